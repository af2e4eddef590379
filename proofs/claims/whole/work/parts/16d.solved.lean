/-! holes that are told, without a circle: a most general way -/
theorem nvt_var {Z : T4} (hZ : Z4 Z) {q : Nat} {p : Int × Nat} (hp : p ∈ nvt Z q) (hlt : p.1 < 0) : ∃ h, h < 16 ∧ p.1 = vr h ∧ p.2 = 0 := by
  have h0 := nvt_V0 hZ q p hp hlt
  unfold nvt at hp
  split at hp
  · unfold varB at hp
    obtain ⟨z, hz, rfl⟩ := List.mem_map.mp hp
    have hlab := (hZ.wd q).lab z hz
    by_cases hh : isH z.1 = true
    · rw [if_pos hh] at h0 hlt ⊢
      have := isH_iff.mp hh
      exact ⟨(z.1 - 57).toNat, by omega, by show (56 - z.1 : Int) = _; unfold vr; omega, h0⟩
    · rw [if_neg hh] at hlt; omega
  · unfold varA at hp
    obtain ⟨z, hz, rfl⟩ := List.mem_map.mp hp
    have hlab := (hZ.wd q).lab z hz
    by_cases hh : isH z.1 = true
    · rw [if_pos hh] at h0 hlt ⊢
      have := isH_iff.mp hh
      exact ⟨(z.1 - 65).toNat, by omega, by show (64 - z.1 : Int) = _; unfold vr; omega, h0⟩
    · rw [if_neg hh] at hlt; omega
/-- hole h stands in node x's tree -/
def occ (Z : T4) (x h : Nat) : Prop := ∃ p ∈ sub (nvt Z x) (x % 16), p.1 = vr h
/-- each hole is a node (that is no hole), or a hole that stands for itself; and there is no circle -/
def Solved (Z : T4) (rs : Nat → Int) (r : Nat → Nat) : Prop := (∀ h, h < 16 → 0 ≤ rs h → nOK Z (rs h).toNat ∧ hol Z (rs h).toNat = false ∧ r h < 16 ∧ ∀ h', h' < 16 → occ Z (rs h).toNat h' → 0 ≤ rs h' → r h' < r h) ∧ (∀ h, h < 16 → rs h < 0 → ∃ h', h' < 16 ∧ rs h = vr h' ∧ rs h' = vr h')
def thF (Z : T4) (rs : Nat → Int) : Nat → Nat → T
  | 0, h => [(vr h, 0)]
  | n + 1, h => if h < 16 then (if rs h < 0 then [(rs h, 0)] else app (fun v => thF Z rs n (-v - 1).toNat) (sub (nvt Z (rs h).toNat) ((rs h).toNat % 16))) else [(vr h, 0)]
def th (Z : T4) (rs : Nat → Int) (v : Int) : T := thF Z rs 18 (-v - 1).toNat
theorem vr_inv (h : Nat) : (-(vr h) - 1).toNat = h := by unfold vr; omega
theorem vr_lt (h : Nat) : vr h < 0 := by unfold vr; omega
theorem sub_var {Z : T4} (hZ : Z4 Z) {x : Nat} {p : Int × Nat} (hp : p ∈ sub (nvt Z x) (x % 16)) (hlt : p.1 < 0) : ∃ h, h < 16 ∧ p.1 = vr h ∧ p.2 = 0 ∧ occ Z x h := by
  obtain ⟨h, h1, h2, h3⟩ := nvt_var hZ (List.mem_of_mem_drop (List.mem_of_mem_take hp)) hlt
  exact ⟨h, h1, h2, h3, p, hp, h2⟩
section SOLVED
variable {Z : T4} {rs : Nat → Int} {r : Nat → Nat}
theorem thF_stab (hZ : Z4 Z) (hS : Solved Z rs r) : ∀ (n m h : Nat), h < 16 → (0 ≤ rs h → r h + 2 ≤ n ∧ r h + 2 ≤ m) → 1 ≤ n → 1 ≤ m → thF Z rs n h = thF Z rs m h
  | 0, m, h, _, _, h1, _ => by omega
  | n + 1, 0, h, _, _, _, h2 => by omega
  | n + 1, m + 1, h, hh, hf, _, _ => by
    unfold thF
    rw [if_pos hh, if_pos hh]
    by_cases hn : rs h < 0
    · rw [if_pos hn, if_pos hn]
    · rw [if_neg hn, if_neg hn]
      obtain ⟨-, -, -, s4⟩ := hS.1 h hh (by omega)
      have hf' := hf (by omega)
      apply app_congr
      intro p hp hlt
      obtain ⟨h', h1, h2, h3, h4⟩ := sub_var hZ hp hlt
      rw [h2, vr_inv]
      exact thF_stab hZ hS n m h' h1 (fun w => by have := s4 h' h1 h4 w; omega) (by omega) (by omega)
theorem thF_ok (hZ : Z4 Z) (hS : Solved Z rs r) : ∀ (n h : Nat), ok 1 (thF Z rs n h) ∧ V0 (thF Z rs n h)
  | 0, h => ⟨by simp [thF, ok], fun p hp _ => by simp [thF] at hp; rw [hp]⟩
  | n + 1, h => by
    unfold thF
    by_cases hh : h < 16
    · rw [if_pos hh]
      by_cases hn : rs h < 0
      · rw [if_pos hn]
        exact ⟨by simp [ok], fun p hp _ => by simp at hp; rw [hp]⟩
      · rw [if_neg hn]
        obtain ⟨s1, -, -, -⟩ := hS.1 h hh (by omega)
        have okn : okθ (fun v => thF Z rs n (-v - 1).toNat) := fun v _ => thF_ok hZ hS n _
        have v0 : V0 (sub (nvt Z (rs h).toNat) ((rs h).toNat % 16)) := fun p hp => nvt_V0 hZ _ p (List.mem_of_mem_drop (List.mem_of_mem_take hp))
        have hl : (rs h).toNat % 16 < (nvt Z (rs h).toNat).length := by rw [nvt_len]; exact s1.2
        exact ⟨ok_app_t okn _ 1 v0 (ok_sub (nvt_ok.mpr (s1.ok hZ)) hl), V0_app okn v0⟩
    · rw [if_neg hh]
      exact ⟨by simp [ok], fun p hp _ => by simp at hp; rw [hp]⟩
theorem th_ok (hZ : Z4 Z) (hS : Solved Z rs r) : okθ (th Z rs) := fun v _ => thF_ok hZ hS 18 _
theorem th_eq (hZ : Z4 Z) (hS : Solved Z rs r) {h : Nat} (hh : h < 16) : (0 ≤ rs h → th Z rs (vr h) = tv Z (th Z rs) (rs h).toNat) ∧ (rs h < 0 → th Z rs (vr h) = [(rs h, 0)]) := by
  have u : th Z rs (vr h) = if rs h < 0 then [(rs h, 0)] else app (fun v => thF Z rs 17 (-v - 1).toNat) (sub (nvt Z (rs h).toNat) ((rs h).toNat % 16)) := by
    unfold th
    rw [vr_inv]
    conv => lhs; unfold thF
    rw [if_pos hh]
  refine ⟨fun hp => ?_, fun hn => by rw [u, if_pos hn]⟩
  rw [u, if_neg (by omega)]
  unfold tv
  obtain ⟨-, -, s3, s4⟩ := hS.1 h hh hp
  apply app_congr
  intro p hp' hlt
  obtain ⟨h', h1, h2, h3, h4⟩ := sub_var hZ hp' hlt
  unfold th
  rw [h2, vr_inv]
  exact thF_stab hZ hS 17 18 h' h1 (fun w => by have := s4 h' h1 h4 w; omega) (by omega) (by omega)
/-- what it means that a way keeps what is told of holes -/
def Keeps (Z : T4) (rs : Nat → Int) (τ : Int → T) : Prop := ∀ h, h < 16 → (0 ≤ rs h → τ (vr h) = tv Z τ (rs h).toNat) ∧ (rs h < 0 → τ (vr h) = τ (rs h))
theorem th_keeps (hZ : Z4 Z) (hS : Solved Z rs r) : Keeps Z rs (th Z rs) := by
  intro h hh
  obtain ⟨e1, e2⟩ := th_eq hZ hS hh
  refine ⟨e1, fun hn => ?_⟩
  obtain ⟨h', a1, a2, a3⟩ := hS.2 h hh hn
  have e3 := (th_eq hZ hS a1).2 (by rw [a3]; exact vr_lt h')
  rw [e2 hn, a2, e3, a3]
theorem th_general (hZ : Z4 Z) (hS : Solved Z rs r) {τ : Int → T} (hk : Keeps Z rs τ) : ∀ (n h : Nat), h < 16 → (0 ≤ rs h → r h + 2 ≤ n) → 1 ≤ n → app τ (thF Z rs n h) = τ (vr h)
  | 0, h, _, _, h1 => by omega
  | n + 1, h, hh, hf, _ => by
    unfold thF
    rw [if_pos hh]
    by_cases hn : rs h < 0
    · rw [if_pos hn, app_cons, if_pos hn, app_nil, List.append_nil]
      exact ((hk h hh).2 hn).symm
    · rw [if_neg hn, app_app]
      obtain ⟨-, -, -, s4⟩ := hS.1 h hh (by omega)
      have hf' := hf (by omega)
      rw [(hk h hh).1 (by omega)]
      unfold tv
      apply app_congr
      intro p hp hlt
      obtain ⟨h', h1, h2, h3, h4⟩ := sub_var hZ hp hlt
      rw [h2, vr_inv]
      exact th_general hZ hS hk n h' h1 (fun w => by have := s4 h' h1 h4 w; omega) (by omega)
theorem solved_mgu (hZ : Z4 Z) (hS : Solved Z rs r) {a b : T} (hE : ∀ τ, okθ τ → (app τ a = app τ b ↔ Keeps Z rs τ)) : Mgu (th Z rs) a b := by
  refine ⟨⟨th_ok hZ hS, (hE _ (th_ok hZ hS)).mpr (th_keeps hZ hS)⟩, fun τ hτ => ⟨τ, hτ.1, fun v hv => ?_⟩⟩
  have hk := (hE τ hτ.1).mp hτ.2
  by_cases h16 : (-v - 1).toNat < 16
  · have := th_general hZ hS hk 18 (-v - 1).toNat h16 (fun w => by have := (hS.1 _ h16 w).2.2.1; omega) (by omega)
    unfold th
    rw [this]
    congr 1
    unfold vr; omega
  · have e : th Z rs v = [(v, 0)] := by
      unfold th thF
      rw [if_neg h16]
      congr 2
      unfold vr; omega
    rw [e, app_cons, if_pos hv, app_nil, List.append_nil]
end SOLVED
