/-! the reference: holes that are put, without a circle -/
def KP (Z : T4) (P : Nat → Int) (τ : Int → T) : Prop := ∀ h, h < 16 → 0 ≤ P h → τ (vr h) = tv Z τ (P h).toNat
def Ac (Z : T4) (P : Nat → Int) (ρ : Nat → Nat) : Prop := ∀ h, h < 16 → 0 ≤ P h → nOK Z (P h).toNat ∧ ρ h < 16 ∧ ∀ h', h' < 16 → occ Z (P h).toNat h' → 0 ≤ P h' → ρ h' < ρ h
def eh (Z : T4) (P : Nat → Int) : Nat → Nat → Int
  | 0, h => vr h
  | n + 1, h => if P h < 0 then vr h else if hol Z (P h).toNat then eh Z P n (nh Z (P h).toNat) else P h
def prs (Z : T4) (P : Nat → Int) (h : Nat) : Int := eh Z P 17 h
/-- the way that the holes give -/
def tp (Z : T4) (P : Nat → Int) : Int → T := th Z (prs Z P)
section PUTS
variable {Z : T4} {P : Nat → Int} {ρ : Nat → Nat}
theorem occ_hole (hZ : Z4 Z) {q : Nat} (h : nOK Z q) (hh : hol Z q = true) : occ Z q (nh Z q) := by
  have hr := isH_iff.mp hh
  have hv := nvt_at (Z := Z) (q := q) h.2
  have hlab : lb (nvt Z q) (q % 16) = vr (nh Z q) := by
    rw [hv.2, if_pos (show isH (lb (nt Z q) (q % 16)) = true from hh)]
    unfold vr nh nlb
    unfold nlb at hr
    split <;> omega
  refine ⟨(lb (nvt Z q) (q % 16), ar (nvt Z q) (q % 16)), ?_, hlab⟩
  rw [sub_cons (by rw [nvt_len]; exact h.2)]
  exact List.mem_cons_self
theorem occ_mem {τ : Int → T} {q h : Nat} (ho : occ Z q h) {p : Int × Nat} (hp : p ∈ τ (vr h)) : p ∈ tv Z τ q := by
  obtain ⟨x, hx, hxv⟩ := ho
  unfold tv app
  rw [List.mem_flatMap]
  exact ⟨x, hx, by rw [hxv, if_pos (vr_lt h)]; exact hp⟩
theorem eh_spec (hZ : Z4 Z) (hA : Ac Z P ρ) : ∀ (n h : Nat), h < 16 → (0 ≤ P h → ρ h < n) → (0 ≤ eh Z P n h → nOK Z (eh Z P n h).toNat ∧ hol Z (eh Z P n h).toNat = false ∧ 0 ≤ P h ∧ ∃ h1, h1 < 16 ∧ P h1 = eh Z P n h ∧ ρ h1 ≤ ρ h) ∧ (eh Z P n h < 0 → ∃ h', h' < 16 ∧ eh Z P n h = vr h' ∧ P h' < 0)
  | 0, h, hh, hb => by
    have hn : P h < 0 := by
      by_cases g : P h < 0
      · exact g
      · have := hb (by omega); omega
    have := vr_lt h
    unfold eh
    exact ⟨fun z => by omega, fun _ => ⟨h, hh, rfl, hn⟩⟩
  | n + 1, h, hh, hb => by
    have v := vr_lt h
    unfold eh
    by_cases g : P h < 0
    · rw [if_pos g]
      exact ⟨fun z => by omega, fun _ => ⟨h, hh, rfl, g⟩⟩
    · rw [if_neg g]
      have hbd := hb (by omega)
      obtain ⟨a1, a2, a3⟩ := hA h hh (by omega)
      cases ho : hol Z (P h).toNat with
      | true =>
        have h1 := (tv_hole (τ := fun v => [(v, 0)]) hZ a1 ho).2.2
        simp only [if_true]
        have rk : 0 ≤ P (nh Z (P h).toNat) → ρ (nh Z (P h).toNat) < ρ h := a3 _ h1 (occ_hole hZ a1 ho)
        obtain ⟨b1, b2⟩ := eh_spec hZ hA n (nh Z (P h).toNat) h1 (fun z => by have := rk z; omega)
        refine ⟨fun z => ?_, b2⟩
        obtain ⟨c1, c2, c3, h2, c4, c5, c6⟩ := b1 z
        exact ⟨c1, c2, by omega, h2, c4, c5, by have := rk c3; omega⟩
      | false =>
        simp only [Bool.false_eq_true, if_false]
        exact ⟨fun _ => ⟨a1, ho, by omega, h, hh, rfl, Nat.le_refl _⟩, fun z => by omega⟩
theorem eh_stab (hZ : Z4 Z) (hA : Ac Z P ρ) : ∀ (n m h : Nat), h < 16 → (0 ≤ P h → ρ h < n ∧ ρ h < m) → eh Z P n h = eh Z P m h
  | 0, 0, h, _, _ => rfl
  | 0, m + 1, h, _, hb => by
    have hn : P h < 0 := by
      by_cases g : P h < 0
      · exact g
      · have := hb (by omega); omega
    unfold eh; rw [if_pos hn]
  | n + 1, 0, h, _, hb => by
    have hn : P h < 0 := by
      by_cases g : P h < 0
      · exact g
      · have := hb (by omega); omega
    unfold eh; rw [if_pos hn]
  | n + 1, m + 1, h, hh, hb => by
    unfold eh
    by_cases g : P h < 0
    · rw [if_pos g, if_pos g]
    · rw [if_neg g, if_neg g]
      have hbd := hb (by omega)
      obtain ⟨a1, a2, a3⟩ := hA h hh (by omega)
      cases ho : hol Z (P h).toNat with
      | true =>
        have h1 := (tv_hole (τ := fun v => [(v, 0)]) hZ a1 ho).2.2
        simp only [if_true]
        have rk : 0 ≤ P (nh Z (P h).toNat) → ρ (nh Z (P h).toNat) < ρ h := a3 _ h1 (occ_hole hZ a1 ho)
        exact eh_stab hZ hA n m _ h1 (fun z => by have := rk z; omega)
      | false => simp only [Bool.false_eq_true, if_false]
theorem eh_kp (hZ : Z4 Z) (hA : Ac Z P ρ) {τ : Int → T} (hk : KP Z P τ) : ∀ (n h : Nat), h < 16 → (0 ≤ eh Z P n h → τ (vr h) = tv Z τ (eh Z P n h).toNat) ∧ (eh Z P n h < 0 → τ (vr h) = τ (eh Z P n h))
  | 0, h, hh => by
    unfold eh
    have := vr_lt h
    exact ⟨fun z => by omega, fun _ => rfl⟩
  | n + 1, h, hh => by
    unfold eh
    have v := vr_lt h
    by_cases g : P h < 0
    · rw [if_pos g]
      exact ⟨fun z => by omega, fun _ => rfl⟩
    · rw [if_neg g]
      obtain ⟨a1, a2, a3⟩ := hA h hh (by omega)
      have e := hk h hh (by omega)
      cases ho : hol Z (P h).toNat with
      | true =>
        obtain ⟨t1, -, h1⟩ := tv_hole (τ := τ) hZ a1 ho
        simp only [if_true]
        rw [e, t1]
        exact eh_kp hZ hA hk n _ h1
      | false =>
        simp only [Bool.false_eq_true, if_false]
        exact ⟨fun _ => e, fun z => by omega⟩
theorem kp_keeps (hZ : Z4 Z) (hA : Ac Z P ρ) {τ : Int → T} : KP Z P τ ↔ Keeps Z (prs Z P) τ := by
  constructor
  · exact fun hk h hh => eh_kp hZ hA hk 17 h hh
  · intro hk h hh hb
    obtain ⟨a1, a2, a3⟩ := hA h hh hb
    have e : prs Z P h = if hol Z (P h).toNat then eh Z P 16 (nh Z (P h).toNat) else P h := by
      unfold prs
      conv => lhs; unfold eh
      rw [if_neg (by omega)]
    cases ho : hol Z (P h).toNat with
    | true =>
      obtain ⟨t1, -, h1⟩ := tv_hole (τ := τ) hZ a1 ho
      have rk : 0 ≤ P (nh Z (P h).toNat) → ρ (nh Z (P h).toNat) < ρ h := a3 _ h1 (occ_hole hZ a1 ho)
      rw [ho] at e
      simp only [if_true] at e
      rw [eh_stab hZ hA 16 17 _ h1 (fun z => by have := rk z; omega)] at e
      have e' : prs Z P h = prs Z P (nh Z (P h).toNat) := e
      obtain ⟨k1, k2⟩ := hk h hh
      obtain ⟨k3, k4⟩ := hk _ h1
      rw [t1]
      by_cases s : 0 ≤ prs Z P h
      · rw [k1 s, k3 (by omega), e']
      · rw [k2 (by omega), k4 (by omega), e']
    | false =>
      rw [ho] at e
      simp only [Bool.false_eq_true, if_false] at e
      have := (hk h hh).1 (by omega)
      rw [e] at this; exact this
theorem ac_solved (hZ : Z4 Z) (hA : Ac Z P ρ) : Solved Z (prs Z P) ρ := by
  have sp : ∀ h, h < 16 → _ := fun h hh => eh_spec hZ hA 17 h hh (fun z => by have := (hA h hh z).2.1; omega)
  refine ⟨fun h hh hs => ?_, fun h hh hs => ?_⟩
  · obtain ⟨c1, c2, c3, h1, c4, c5, c6⟩ := (sp h hh).1 hs
    refine ⟨c1, c2, (hA h hh c3).2.1, fun h' hh' ho hb => ?_⟩
    have b' := ((sp h' hh').1 hb).2.2.1
    have hs' : 0 ≤ eh Z P 17 h := hs
    have := (hA h1 c4 (by omega)).2.2 h' hh' (by rw [c5]; exact ho) b'
    omega
  · obtain ⟨h', c1, c2, c3⟩ := (sp h hh).2 hs
    refine ⟨h', c1, c2, ?_⟩
    unfold prs eh
    rw [if_pos c3]
theorem tp_ok (hZ : Z4 Z) (hA : Ac Z P ρ) : okθ (tp Z P) := th_ok hZ (ac_solved hZ hA)
theorem tp_kp (hZ : Z4 Z) (hA : Ac Z P ρ) : KP Z P (tp Z P) := (kp_keeps hZ hA).mpr (th_keeps hZ (ac_solved hZ hA))
theorem tp_un (hZ : Z4 Z) (hA : Ac Z P ρ) {h : Nat} (hh : h < 16) (hn : P h < 0) : tp Z P (vr h) = [(vr h, 0)] := by
  have e : prs Z P h = vr h := by unfold prs eh; rw [if_pos hn]
  have := (th_eq hZ (ac_solved hZ hA) hh).2 (by rw [e]; exact vr_lt h)
  rw [e] at this; exact this
theorem tp_gen (hZ : Z4 Z) (hA : Ac Z P ρ) {τ : Int → T} (hk : KP Z P τ) (q : Nat) : tv Z τ q = app τ (tv Z (tp Z P) q) := by
  have hS := ac_solved hZ hA
  have hk' := (kp_keeps hZ hA).mp hk
  unfold tv
  rw [app_app]
  apply app_congr
  intro p hp hlt
  obtain ⟨h, h1, h2, h3, h4⟩ := sub_var hZ hp hlt
  rw [h2]
  have := th_general hZ hS hk' 18 h h1 (fun w => by have := (hS.1 _ h1 w).2.2.1; omega) (by omega)
  show τ (vr h) = app τ (th Z (prs Z P) (vr h))
  unfold th
  rw [vr_inv, this]
def pset (P : Nat → Int) (g : Nat) (to : Nat) : Nat → Int := fun c => if c = g then (to : Int) else P c
theorem kp_set {g to : Nat} (hg : g < 16) (hn : P g < 0) {τ : Int → T} : KP Z (pset P g to) τ ↔ KP Z P τ ∧ τ (vr g) = tv Z τ to := by
  unfold KP pset
  constructor
  · intro h
    refine ⟨fun c hc hb => ?_, ?_⟩
    · have hne : c ≠ g := fun e => by rw [e] at hb; omega
      have := h c hc (by rw [if_neg hne]; exact hb)
      rw [if_neg hne] at this; exact this
    · have := h g hg (by rw [if_pos rfl]; omega)
      rw [if_pos rfl, Int.toNat_natCast] at this; exact this
  · rintro ⟨h1, h2⟩ c hc hb
    by_cases e : c = g
    · rw [if_pos e, Int.toNat_natCast, e]; exact h2
    · rw [if_neg e] at hb ⊢; exact h1 c hc hb
theorem ac_set (hZ : Z4 Z) (hA : Ac Z P ρ) {g to : Nat} (hg : g < 16) (hn : P g < 0) (ht : nOK Z to) (hno : ∀ p ∈ tv Z (tp Z P) to, p.1 ≠ vr g) : ∃ ρ', Ac Z (pset P g to) ρ' := by
  have key : ∃ ρ0 : Nat → Nat, ∀ h, h < 16 → 0 ≤ pset P g to h → ∀ h', h' < 16 → occ Z (pset P g to h).toNat h' → 0 ≤ pset P g to h' → ρ0 h' < ρ0 h := by
    refine ⟨fun h => @ite Nat (∀ p ∈ tp Z P (vr h), p.1 ≠ vr g) (Classical.propDecidable _) (ρ h) (if h = g then 16 else ρ h + 17), fun h hh hb h' hh' ho hb' => ?_⟩
    have ng : ¬ ∀ p ∈ tp Z P (vr g), p.1 ≠ vr g := fun z => by
      rw [tp_un hZ hA hg hn] at z
      exact z _ (List.mem_singleton.mpr rfl) rfl
    have up : ∀ c, c ≠ g → pset P g to c = P c := fun c hc => by unfold pset; rw [if_neg hc]
    by_cases e : h = g
    · subst e
      have eq : pset P h to h = to := by unfold pset; rw [if_pos rfl]
      rw [eq, Int.toNat_natCast] at ho
      have r' : ∀ p ∈ tp Z P (vr h'), p.1 ≠ vr h := fun p hp => hno p (occ_mem ho hp)
      have ne : h' ≠ h := fun z => by rw [z] at r'; exact ng r'
      rw [up _ ne] at hb'
      have := (hA h' hh' hb').2.1
      simp only
      rw [if_pos r', if_neg ng, if_pos trivial]; omega
    · rw [up _ e] at hb ho
      obtain ⟨a1, a2, a3⟩ := hA h hh hb
      simp only
      by_cases r : ∀ p ∈ tp Z P (vr h), p.1 ≠ vr g
      · have r' : ∀ p ∈ tp Z P (vr h'), p.1 ≠ vr g := fun p hp => r p (by rw [tp_kp hZ hA h hh hb]; exact occ_mem ho hp)
        have ne : h' ≠ g := fun z => by rw [z] at r'; exact ng r'
        rw [up _ ne] at hb'
        rw [if_pos r, if_pos r']
        exact a3 h' hh' ho hb'
      · rw [if_neg r, if_neg e]
        by_cases e' : h' = g
        · subst e'
          rw [if_neg ng, if_pos rfl]; omega
        · rw [up _ e'] at hb'
          have := a3 h' hh' ho hb'
          split
          · omega
          · omega
  obtain ⟨ρ0, hρ⟩ := key
  refine ⟨fun h => jS (fun h' => if ρ0 h' < ρ0 h then 1 else 0) 16, fun h hh hb => ⟨?_, ?_, fun h' hh' ho hb' => ?_⟩⟩
  · by_cases e : h = g
    · unfold pset; rw [if_pos e, Int.toNat_natCast]; exact ht
    · have eq : pset P g to h = P h := by unfold pset; rw [if_neg e]
      rw [eq] at hb ⊢
      exact (hA h hh hb).1
  · have := jS_lt (f := fun h' => if ρ0 h' < ρ0 h then 1 else 0) (g := fun _ => 1) 16 hh (fun c _ => by split <;> omega) (by simp)
    rw [jS_const] at this
    exact this
  · have k := hρ h hh hb h' hh' ho hb'
    refine jS_lt 16 hh' (fun c _ => ?_) ?_
    · split
      · rw [if_pos (by omega)]; exact Nat.le_refl _
      · omega
    · rw [if_neg (by omega), if_pos k]; omega
/-- where following a node ends -/
def Fo (Z : T4) (P : Nat → Int) (q n : Nat) : Prop := nOK Z n ∧ (hol Z n = true → P (nh Z n) < 0) ∧ (∀ τ, KP Z P τ → tv Z τ q = tv Z τ n) ∧ (hol Z q = false → n = q) ∧ (n = q ∨ ∃ h, h < 16 ∧ P h = n)
theorem fo_hole (hZ : Z4 Z) (hA : Ac Z P ρ) {q n : Nat} (h : Fo Z P q n) (hh : hol Z n = true) : tv Z (tp Z P) q = [(vr (nh Z n), 0)] := by
  obtain ⟨t1, -, h1⟩ := tv_hole (τ := tp Z P) hZ h.1 hh
  rw [h.2.2.1 _ (tp_kp hZ hA), t1, tp_un hZ hA h1 (h.2.1 hh)]
theorem fo_node (hZ : Z4 Z) (hA : Ac Z P ρ) {q n : Nat} (h : Fo Z P q n) (hh : hol Z n = false) : tv Z (tp Z P) q = (nlb Z n, nar Z n) :: (List.range (nar Z n)).flatMap (fun k => tv Z (tp Z P) (nch Z n k)) := by
  rw [h.2.2.1 _ (tp_kp hZ hA), (tv_node hZ h.1 hh).1]
/-- a hole that lies within: no way -/
theorem lies_no (hZ : Z4 Z) (hA : Ac Z P ρ) {g to : Nat} (ht : nOK Z to) (hu : hol Z to = true → P (nh Z to) < 0 ∧ nh Z to ≠ g) (hin : ∃ p ∈ tv Z (tp Z P) to, p.1 = vr g) {τ : Int → T} (hτ : okθ τ) (hk : KP Z P τ) : τ (vr g) ≠ tv Z τ to := by
  intro e
  rw [tp_gen hZ hA hk] at e
  obtain ⟨p, hp, hpv⟩ := hin
  cases hh : hol Z to with
  | true =>
    obtain ⟨u1, u2⟩ := hu hh
    obtain ⟨t1, -, h1⟩ := tv_hole (τ := tp Z P) hZ ht hh
    rw [t1, tp_un hZ hA h1 u1] at hp
    rw [List.mem_singleton.mp hp] at hpv
    unfold vr at hpv; simp only at hpv; omega
  | false =>
    obtain ⟨t1, l1, l2⟩ := tv_node (τ := tp Z P) hZ ht hh
    rw [t1] at e hp
    rw [app_cons, if_neg (show ¬ nlb Z to < 0 by omega)] at e
    rcases List.mem_cons.mp hp with g1 | g1
    · rw [g1] at hpv; have := vr_lt g; simp only at hpv; omega
    · have hl := congrArg List.length e
      rw [List.length_append] at hl
      have gen : ∀ l : T, p ∈ l → (τ (vr g)).length ≤ (app τ l).length := by
        intro l
        induction l with
        | nil => intro h; simp at h
        | cons x l ih =>
          intro h
          rw [app_cons, List.length_append]
          rcases List.mem_cons.mp h with z | z
          · rw [← z, hpv, if_pos (vr_lt g)]; omega
          · have := ih z; omega
      have := gen _ g1
      simp only [List.length_cons, List.length_nil] at hl
      omega
end PUTS
