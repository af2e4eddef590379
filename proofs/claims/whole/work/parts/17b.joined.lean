/-! the class's joining: how it starts, what it is worth at its end -/
theorem jS_zero : ∀ n, jS (fun _ => 0) n = 0
  | 0 => rfl
  | n + 1 => by unfold jS; rw [jS_zero n]
theorem jS_cons (f : Nat → Nat) : ∀ n, jS f (n + 1) = f 0 + jS (fun c => f (c + 1)) n
  | 0 => by simp [jS]
  | n + 1 => by
    have := jS_cons f n
    unfold jS at this ⊢
    rw [show jS f (n + 1) = f 0 + jS (fun c => f (c + 1)) n from jS_cons f n]
    omega
theorem jS_add (f : Nat → Nat) (m : Nat) : ∀ n, jS f (m + n) = jS f m + jS (fun c => f (m + c)) n
  | 0 => by simp [jS]
  | n + 1 => by
    rw [← Nat.add_assoc]
    show jS f (m + n) + f (m + n) = jS f m + (jS (fun c => f (m + c)) n + f (m + n))
    rw [jS_add f m n]; omega
theorem jS_mono {f g : Nat → Nat} : ∀ n, (∀ c, c < n → f c ≤ g c) → jS f n ≤ jS g n
  | 0, _ => Nat.le_refl _
  | n + 1, h => by
    unfold jS
    have := jS_mono n (fun c hc => h c (by omega))
    have := h n (by omega)
    omega
theorem jS_lt {f g : Nat → Nat} {c0 : Nat} : ∀ n, c0 < n → (∀ c, c < n → f c ≤ g c) → f c0 < g c0 → jS f n < jS g n
  | 0, h, _, _ => by omega
  | n + 1, h, hl, h0 => by
    unfold jS
    have a := hl n (by omega)
    by_cases e : c0 = n
    · have := jS_mono n (fun c hc => hl c (by omega))
      subst e; omega
    · have := jS_lt n (by omega) (fun c hc => hl c (by omega)) h0
      omega
theorem jS_const : ∀ n, jS (fun _ => 1) n = n
  | 0 => rfl
  | n + 1 => by unfold jS; rw [jS_const n]
theorem ars_sum : ∀ (t : T) (n m : Nat), ok n t → t.length ≤ m → jS (fun p => ar t p) m + n = t.length
  | [], 0, m, _, _ => by
    have : jS (fun p => ar ([] : T) p) m = 0 := by rw [jS_congr (f := fun _ => 0) m (fun c _ => by simp [ar])]; exact jS_zero m
    rw [this]; rfl
  | [], n + 1, m, h, _ => by simp [ok] at h
  | p :: t, 0, m, h, _ => by simp [ok] at h
  | p :: t, n + 1, 0, h, hm => by simp at hm
  | p :: t, n + 1, m + 1, h, hm => by
    simp only [ok] at h
    simp only [List.length_cons] at hm ⊢
    have ih := ars_sum t (n + p.2) m h (by omega)
    rw [jS_cons, jS_congr (f := fun c => ar t c) m (fun c _ => by simp [ar])]
    have : ar (p :: t) 0 = p.2 := by simp [ar]
    rw [this]; omega
theorem ji_start {Z : T4} (hZ : Z4 Z) {i : Nat} (hi : nOK Z i) (hi16 : i < 16) (h16 : nOK Z 16) : JI Z i 0 (fun c => c) (fun c => if c < 32 then (c : Int) else -1) [(i, 16)] := by
  refine ⟨fun c hc => ⟨hc, rfl⟩, fun c hc _ => ⟨rfl, by simp [hc]⟩, fun p hp _ => ?_, fun p hp _ hs x hx hxp => ?_, fun τ ht => ?_, fun e he => ?_, ?_, fun c hc => ?_⟩
  · rcases hp with g | g
    · refine Or.inr ?_
      simp only [if_pos g.1]
      exact ⟨by omega, by simpa using g, by simp⟩
    · refine Or.inl ⟨by show (if p < 32 then (p : Int) else -1) = -1; rw [if_neg (by omega)], fun x hx e => ?_⟩
      have := hx.1
      simp only at e; omega
  · simp only at hxp
    rw [← hxp]
    simp only [if_pos hx.1, Int.toNat_natCast]
    refine ⟨trivial, trivial, fun j _ f _ _ => rfl⟩
  · simp
  · simp at he; rw [he]
    exact ⟨hi, by omega, h16, by omega⟩
  · have l0 := (hZ.wd 0).1
    have o0 : ok 1 Z.1 := nOK.ok (Z := Z) hZ (q := i) hi |> fun h => by
      have : nt Z i = Z.1 := by unfold nt; rw [if_pos hi16]
      rw [this] at h; exact h
    have o1 : ok 1 Z.2.1 := by
      have h := nOK.ok hZ h16
      have : nt Z 16 = Z.2.1 := by unfold nt; rw [if_neg (by omega), if_pos (by omega)]
      rw [this] at h; exact h
    have n0 : Z.1.length ≤ 16 := hZ.1.1.1
    have n1 : Z.2.1.length ≤ 16 := hZ.2.1.1.1
    have s0 := ars_sum _ 1 16 o0 n0
    have s1 := ars_sum _ 1 16 o1 n1
    have e : jS (jf Z (fun c => c) (fun c => if c < 32 then (c : Int) else -1)) 48 = jS (fun p => ar Z.1 p) 16 + jS (fun p => ar Z.2.1 p) 16 := by
      have c1 : jS (jf Z (fun c => c) (fun c => if c < 32 then (c : Int) else -1)) 16 = jS (fun p => ar Z.1 p) 16 := jS_congr 16 (fun c hc => by
        unfold jf
        simp only [if_pos (show c < 32 by omega), Int.toNat_natCast]
        rw [if_pos ⟨trivial, by omega⟩]
        unfold nar nt
        rw [if_pos hc, Nat.mod_eq_of_lt hc])
      have c2 : jS (fun c => jf Z (fun c => c) (fun c => if c < 32 then (c : Int) else -1) (16 + c)) 16 = jS (fun p => ar Z.2.1 p) 16 := jS_congr 16 (fun c hc => by
        unfold jf
        simp only [if_pos (show 16 + c < 32 by omega), Int.toNat_natCast]
        rw [if_pos ⟨trivial, by omega⟩]
        unfold nar nt
        rw [if_neg (by omega), if_pos (by omega), show (16 + c) % 16 = c by omega])
      have c3 : jS (fun c => jf Z (fun c => c) (fun c => if c < 32 then (c : Int) else -1) (16 + (16 + c))) 16 = 0 := by
        rw [jS_congr (f := fun _ => 0) 16 (fun c hc => by
          unfold jf
          simp only [if_neg (show ¬ (16 + (16 + c) < 32) by omega)]
          rw [if_neg (fun g => by omega)]), jS_zero]
      rw [show 48 = 16 + (16 + 16) from rfl, jS_add, jS_add, c1, c2, c3]
      omega
    rw [e]
    simp only [List.length_cons, List.length_nil]
    omega
  · rcases hc with g | g
    · refine Or.inr ?_
      simp only [if_pos g.1]
      exact ⟨by omega, by simpa using g, by simp⟩
    · exact Or.inl (by show (if c < 32 then (c : Int) else -1) = -1; rw [if_neg (by omega)])
section JOINED
variable {Z : T4} {i n : Nat} {k : Nat → Nat} {s : Nat → Int}
/-- at the end, parts of kin are kin -/
theorem ji_parts (h : JI Z i n k s []) {x : Nat} (hx : Pr Z x) : 0 ≤ s (k x) ∧ Pr Z (s (k x)).toNat ∧ k (s (k x)).toNat = k x ∧ nlb Z (s (k x)).toNat = nlb Z x ∧ nar Z (s (k x)).toNat = nar Z x ∧ ∀ j, j < nar Z x → k (tm Z (nch Z (s (k x)).toNat j)) = k (tm Z (nch Z x j)) := by
  obtain ⟨a1, a2⟩ := h.kin x (Or.inl hx)
  rcases h.shp _ a1 a2 with ⟨b1, b2⟩ | ⟨b1, b2, b3⟩
  · exact absurd rfl (b2 x hx)
  · obtain ⟨c1, c2, c3⟩ := h.par _ a1 a2 b1 x hx rfl
    exact ⟨b1, b2, b3, c1, c2, fun j hj => c3 j hj k (fun c hc => (h.kin c hc).2) (fun e he => by simp at he)⟩
/-- kin without a circle -/
def Rk (Z : T4) (k : Nat → Nat) (s : Nat → Int) (ρ : Nat → Nat) : Prop := ∀ p, Tm Z p → k p = p → 0 ≤ s p → ∀ j, j < nar Z (s p).toNat → ρ (k (tm Z (nch Z (s p).toNat j))) < ρ p
theorem ji_rank (h : JI Z i n k s []) {ρ : Nat → Nat} (hr : Rk Z k s ρ) {x j : Nat} (hx : Pr Z x) (hj : j < nar Z x) : ρ (k (tm Z (nch Z x j))) < ρ (k x) := by
  obtain ⟨a1, a2⟩ := h.kin x (Or.inl hx)
  obtain ⟨b1, b2, b3, b4, b5, b6⟩ := ji_parts h hx
  rw [← b6 j hj]
  exact hr _ a1 a2 b1 j (by omega)
theorem occ_node (hZ : Z4 Z) {x h : Nat} (hx : nOK Z x) (ho : occ Z x h) : (hol Z x = true ∧ nh Z x = h) ∨ (hol Z x = false ∧ ∃ j, j < nar Z x ∧ occ Z (nch Z x j) h) := by
  have idt : ∀ q, nOK Z q → tv Z (fun v => [(v, 0)]) q = sub (nvt Z q) (q % 16) := by
    intro q _
    unfold tv
    have v0 : V0 (sub (nvt Z q) (q % 16)) := fun p hp => nvt_V0 hZ _ p (List.mem_of_mem_drop (List.mem_of_mem_take hp))
    have gen : ∀ t : T, V0 t → app (fun v => [(v, 0)]) t = t := by
      intro t
      induction t with
      | nil => intro _; rfl
      | cons p t ih =>
        intro hv
        rw [app_cons, ih (fun z hz => hv z (List.mem_cons_of_mem _ hz))]
        by_cases hp : p.1 < 0
        · rw [if_pos hp]
          have := hv p List.mem_cons_self hp
          show (p.1, 0) :: t = p :: t
          rw [← this]
        · rw [if_neg hp]; rfl
    exact gen _ v0
  obtain ⟨p, hp, hpv⟩ := ho
  rw [← idt x hx] at hp
  cases hh : hol Z x with
  | true =>
    refine Or.inl ⟨rfl, ?_⟩
    rw [(tv_hole hZ hx hh).1] at hp
    simp at hp
    rw [hp] at hpv
    unfold vr at hpv
    simp only at hpv; omega
  | false =>
    refine Or.inr ⟨rfl, ?_⟩
    obtain ⟨e, l1, l2⟩ := tv_node (τ := fun v => [(v, 0)]) hZ hx hh
    rw [e] at hp
    rcases List.mem_cons.mp hp with g | g
    · rw [g] at hpv
      unfold vr at hpv; simp only at hpv; omega
    · obtain ⟨j, hj, hp'⟩ := List.mem_flatMap.mp g
      have hj' := List.mem_range.mp hj
      refine ⟨j, hj', p, ?_, hpv⟩
      rw [← idt _ (nch_t hZ hx hj').1]; exact hp'
theorem occ_rank (hZ : Z4 Z) (h : JI Z i n k s []) {ρ : Nat → Nat} (hr : Rk Z k s ρ) : ∀ (N x a : Nat), nOK Z x → x < 32 → (tv Z (fun v => [(v, 0)]) x).length ≤ N → occ Z x a → tm Z x = 32 + a ∨ ρ (k (32 + a)) < ρ (k (tm Z x))
  | 0, x, a, hx, h32, hN, ho => by
    cases hh : hol Z x with
    | true =>
      rw [(tv_hole hZ hx hh).1] at hN; simp at hN
    | false =>
      rw [(tv_node hZ hx hh).1] at hN; simp at hN
  | N + 1, x, a, hx, h32, hN, ho => by
    rcases occ_node hZ hx ho with ⟨h1, h2⟩ | ⟨h1, j, hj, hoj⟩
    · left; unfold tm; rw [h1, h2]; simp
    · right
      have hp : Pr Z x := ⟨h32, hx, h1⟩
      have e : tm Z x = x := by unfold tm; rw [h1]; simp
      rw [e]
      have a1 := ji_rank h hr hp hj
      obtain ⟨c1, c2⟩ := pr_ch hZ hp hj
      have lt := tv_lt (τ := fun v => [(v, 0)]) hZ hx h1 hj
      rcases occ_rank hZ h hr N _ a c1 c2 (by omega) hoj with g | g
      · rw [← g]; exact a1
      · omega
/-- what the joining tells of a hole -/
def jrs (k : Nat → Nat) (s : Nat → Int) (h : Nat) : Int := if 0 ≤ s (k (32 + h)) then s (k (32 + h)) else vr (k (32 + h) - 32)
def jr (k : Nat → Nat) (ρ : Nat → Nat) (h : Nat) : Nat := jS (fun h' => if ρ (k (32 + h')) < ρ (k (32 + h)) then 1 else 0) 16
theorem jrs_pos {h : Nat} : 0 ≤ jrs k s h ↔ 0 ≤ s (k (32 + h)) := by
  unfold jrs
  by_cases e : 0 ≤ s (k (32 + h))
  · rw [if_pos e]
  · rw [if_neg e]; have := vr_lt (k (32 + h) - 32); omega
theorem ji_var (h : JI Z i n k s []) {a : Nat} (ha : a < 16) (hs : ¬ 0 ≤ s (k (32 + a))) : 32 ≤ k (32 + a) ∧ k (32 + a) < 48 := by
  obtain ⟨a1, a2⟩ := h.kin (32 + a) (Or.inr ⟨by omega, by omega⟩)
  rcases a1 with g | g
  · rcases h.shp _ (Or.inl g) a2 with ⟨b1, b2⟩ | ⟨b1, -⟩
    · exact absurd a2 (b2 _ g)
    · exact absurd b1 hs
  · exact g
theorem ji_solved (hZ : Z4 Z) (h : JI Z i n k s []) {ρ : Nat → Nat} (hr : Rk Z k s ρ) : Solved Z (jrs k s) (jr k ρ) := by
  refine ⟨fun a ha hs => ?_, fun a ha hs => ?_⟩
  · have hs' := jrs_pos.mp hs
    have e : jrs k s a = s (k (32 + a)) := by unfold jrs; rw [if_pos hs']
    obtain ⟨a1, a2⟩ := h.kin (32 + a) (Or.inr ⟨by omega, by omega⟩)
    rcases h.shp _ a1 a2 with ⟨b1, -⟩ | ⟨b1, b2, b3⟩
    · omega
    · rw [e]
      refine ⟨b2.2.1, b2.2.2, ?_, fun a' ha' ho _ => ?_⟩
      · unfold jr
        have := jS_lt (f := fun h' => if ρ (k (32 + h')) < ρ (k (32 + a)) then 1 else 0) (g := fun _ => 1) 16 ha (fun c _ => by split <;> omega) (by simp)
        rw [jS_const] at this
        exact this
      · have key : ρ (k (32 + a')) < ρ (k (32 + a)) := by
          have et : tm Z (s (k (32 + a))).toNat = (s (k (32 + a))).toNat := by unfold tm; rw [b2.2.2]; simp
          rcases occ_rank hZ h hr _ _ a' b2.2.1 b2.1 (Nat.le_refl _) ho with g | g
          · rw [et] at g; have := b2.1; omega
          · rw [et, b3] at g; exact g
        unfold jr
        refine jS_lt 16 ha' (fun c _ => ?_) ?_
        · split
          · rw [if_pos (by omega)]; exact Nat.le_refl _
          · omega
        · rw [if_neg (by omega), if_pos key]; omega
  · have hs' : ¬ 0 ≤ s (k (32 + a)) := fun g => by have := jrs_pos.mpr g; omega
    obtain ⟨g1, g2⟩ := ji_var h ha hs'
    have kk := (h.kin (32 + a) (Or.inr ⟨by omega, by omega⟩)).2
    refine ⟨k (32 + a) - 32, by omega, by unfold jrs; rw [if_neg hs'], ?_⟩
    unfold jrs
    rw [show 32 + (k (32 + a) - 32) = k (32 + a) by omega, kk, if_neg hs']
theorem ji_keeps (hZ : Z4 Z) (h : JI Z i n k s []) {ρ : Nat → Nat} (hr : Rk Z k s ρ) {τ : Int → T} (ht : okθ τ) : tv Z τ i = tv Z τ 16 ↔ Keeps Z (jrs k s) τ := by
  rw [h.sem τ ht]
  constructor
  · rintro ⟨a, -⟩ b hb
    have tb : Tm Z (32 + b) := Or.inr ⟨by omega, by omega⟩
    obtain ⟨a1, a2⟩ := h.kin _ tb
    have e1 : tw Z τ (32 + b) = τ (vr b) := by unfold tw; rw [if_neg (by omega)]; congr 2; omega
    refine ⟨fun hs => ?_, fun hs => ?_⟩
    · have hs' := jrs_pos.mp hs
      have e : jrs k s b = s (k (32 + b)) := by unfold jrs; rw [if_pos hs']
      rcases h.shp _ a1 a2 with ⟨b1, -⟩ | ⟨b1, b2, b3⟩
      · omega
      · have e2 := a _ (Or.inl b2)
        rw [b3] at e2
        rw [e, ← e1, a _ tb, ← e2]
        unfold tw; rw [if_pos b2.1]
    · have hs' : ¬ 0 ≤ s (k (32 + b)) := fun g => by have := jrs_pos.mpr g; omega
      obtain ⟨g1, g2⟩ := ji_var h hb hs'
      have e : jrs k s b = vr (k (32 + b) - 32) := by unfold jrs; rw [if_neg hs']
      rw [e, ← e1, a _ tb]
      conv => lhs; unfold tw
      rw [if_neg (by omega)]
  · intro hk
    refine ⟨?_, fun e he => by simp at he⟩
    have claim : ∀ (N c : Nat), Tm Z c → ρ (k c) < N → tw Z τ c = if 0 ≤ s (k c) then tv Z τ (s (k c)).toNat else τ (vr (k c - 32)) := by
      intro N
      induction N with
      | zero => intro c _ h0; omega
      | succ N ih =>
        intro c hc hN
        rcases hc with g | g
        · obtain ⟨b1, b2, b3, b4, b5, b6⟩ := ji_parts h g
          rw [if_pos b1]
          have e1 : tw Z τ c = tv Z τ c := by unfold tw; rw [if_pos g.1]
          rw [e1]
          refine (tv_eq hZ ht g.2.1 b2.2.1 g.2.2 b2.2.2).mpr ⟨b4.symm, b5.symm, fun j hj => ?_⟩
          obtain ⟨c1, c2⟩ := pr_ch hZ g hj
          obtain ⟨d1, d2⟩ := pr_ch hZ b2 (show j < nar Z (s (k c)).toNat by omega)
          obtain ⟨t1, t2⟩ := tm_ok hZ c1 c2
          obtain ⟨t3, t4⟩ := tm_ok hZ d1 d2
          have r1 := ji_rank h hr g hj
          rw [← t2, ← t4, ih _ t1 (by omega), ih _ t3 (by rw [b6 j hj]; omega), b6 j hj]
        · have hb : c - 32 < 16 := by omega
          have e0 : 32 + (c - 32) = c := by omega
          obtain ⟨k1, k2⟩ := hk (c - 32) hb
          have e1 : tw Z τ c = τ (vr (c - 32)) := by unfold tw; rw [if_neg (by omega)]
          rw [e1]
          by_cases hs : 0 ≤ s (k c)
          · rw [if_pos hs]
            have e : jrs k s (c - 32) = s (k c) := by unfold jrs; rw [e0, if_pos hs]
            rw [e] at k1; exact k1 hs
          · rw [if_neg hs]
            have e : jrs k s (c - 32) = vr (k c - 32) := by unfold jrs; rw [e0, if_neg hs]
            rw [e] at k2; exact k2 (vr_lt _)
    intro c hc
    obtain ⟨a1, a2⟩ := h.kin c hc
    rw [claim _ c hc (Nat.lt_succ_self _), claim _ (k c) a1 (Nat.lt_succ_self _), a2]
/-- kin that lie within kin without end: no way -/
theorem ji_stuck (hZ : Z4 Z) (h : JI Z i n k s []) {U : Nat → Prop} (hU : ∀ p, U p → Tm Z p ∧ k p = p ∧ 0 ≤ s p ∧ ∃ j, j < nar Z (s p).toNat ∧ U (k (tm Z (nch Z (s p).toNat j)))) {p : Nat} (hp : U p) {τ : Int → T} (ht : okθ τ) : tv Z τ i ≠ tv Z τ 16 := by
  intro ho
  obtain ⟨a, -⟩ := (h.sem τ ht).mp ho
  have claim : ∀ (N p : Nat), U p → (tw Z τ p).length < N → False := by
    intro N
    induction N with
    | zero => intro p _ h0; omega
    | succ N ih =>
      intro p hp hN
      obtain ⟨u1, u2, u3, j, hj, u4⟩ := hU p hp
      rcases h.shp p u1 u2 with ⟨b1, -⟩ | ⟨b1, b2, b3⟩
      · omega
      · obtain ⟨c1, c2⟩ := pr_ch hZ b2 hj
        obtain ⟨t1, t2⟩ := tm_ok hZ c1 c2
        have lt := tv_lt (τ := τ) hZ b2.2.1 b2.2.2 hj
        refine ih _ u4 ?_
        rw [← a _ t1, t2]
        have e := a _ (Or.inl b2)
        rw [b3] at e
        have e1 : tw Z τ (s p).toNat = tv Z τ (s p).toNat := by unfold tw; rw [if_pos b2.1]
        rw [← e, e1] at hN
        omega
  exact claim _ p hp (Nat.lt_succ_self _)
end JOINED
