/-! what the class's joining is worth: a most general way, and how many nodes things have under it -/
theorem flat_len (F : Nat → T) : ∀ n, ((List.range n).flatMap F).length = jS (fun j => (F j).length) n
  | 0 => rfl
  | n + 1 => by
    rw [List.range_succ, List.flatMap_append, List.length_append, flat_len F n]
    simp only [List.flatMap_cons, List.flatMap_nil, List.append_nil]
    rfl
theorem jS_cap {f g : Nat → Nat} : ∀ n, (∀ c, c < n → g c = if 1000 < f c then 1000 else f c) → (jS f n < 1000 → jS g n = jS f n) ∧ (1000 ≤ jS f n → 1000 ≤ jS g n)
  | 0, _ => by simp [jS]
  | n + 1, h => by
    have ih := jS_cap n (fun c hc => h c (by omega))
    have e := h n (by omega)
    unfold jS
    by_cases g1 : 1000 < f n
    · rw [if_pos g1] at e; omega
    · rw [if_neg g1] at e
      by_cases g2 : jS f n < 1000
      · have := ih.1 g2; omega
      · have := ih.2 (by omega); omega
section WORTH
variable {M : Mem} {Z : T4} {i n : Nat} {k : Nat → Nat} {s : Nat → Int}
theorem wi_rank (hw : WI Z k s M) (hall : ∀ c : Nat, c < 48 → 0 < M 136 c) : ∃ ρ, Rk Z k s ρ := by
  obtain ⟨-, ρ, U, h⟩ := hw
  exact ⟨ρ, fun p hp _ hs j hj => (h p hp.lt (hall p hp.lt)).2.2 hs j hj⟩
theorem tv_first {τ : Int → T} (hi : i < 16) : tv Z τ i = app τ (sub (varA Z.1) i) := by
  have e : nt Z i = Z.1 := by unfold nt; rw [if_pos hi]
  have hB : isB i = false := by unfold isB; simp; omega
  unfold tv nvt
  rw [e, hB, Nat.mod_eq_of_lt hi]; rfl
theorem tv_second (hZ : Z4 Z) (hne : Z.2.1 ≠ []) {τ : Int → T} : tv Z τ 16 = app τ (varB Z.2.1) := by
  have e : nt Z 16 = Z.2.1 := by unfold nt; rw [if_neg (by omega), if_pos (by omega)]
  have hB : isB 16 = true := by unfold isB; simp
  have ok1 : ok 1 (varB Z.2.1) := ok_varB.mpr (hZ.2.1.1.ok (i := 0) (List.length_pos_iff.mpr hne))
  unfold tv nvt
  rw [e, hB]
  show app τ (sub (varB Z.2.1) 0) = _
  congr 1
  unfold sub sz
  have := ok_fp (varB Z.2.1) [] 1 ok1
  rw [List.append_nil] at this
  rw [List.drop_zero, this, List.take_length]
theorem ji_mgu (hZ : Z4 Z) (hi : i < 16) (hne : Z.2.1 ≠ []) (h : JI Z i n k s []) {ρ : Nat → Nat} (hr : Rk Z k s ρ) : Mgu (th Z (jrs k s)) (sub (varA Z.1) i) (varB Z.2.1) :=
  solved_mgu hZ (ji_solved hZ h hr) (fun τ ht => by rw [← tv_first hi, ← tv_second hZ hne]; exact ji_keeps hZ h hr ht)
/-- kin have one tree -/
theorem ji_kin (hZ : Z4 Z) (h : JI Z i n k s []) {ρ : Nat → Nat} (hr : Rk Z k s ρ) {c : Nat} (hc : Tm Z c) : tw Z (th Z (jrs k s)) c = tw Z (th Z (jrs k s)) (k c) := by
  have hS := ji_solved hZ h hr
  have ho := (ji_keeps hZ h hr (th_ok hZ hS)).mpr (th_keeps hZ hS)
  exact ((h.sem _ (th_ok hZ hS)).mp ho).1 c hc
theorem ji_shape (hZ : Z4 Z) (h : JI Z i n k s []) {ρ : Nat → Nat} (hr : Rk Z k s ρ) {c : Nat} (hc : Tm Z c) (hk : k c = c) : (s c < 0 → 32 ≤ c ∧ tw Z (th Z (jrs k s)) c = [(vr (c - 32), 0)]) ∧ (0 ≤ s c → Pr Z (s c).toNat ∧ tw Z (th Z (jrs k s)) c = (nlb Z (s c).toNat, nar Z (s c).toNat) :: (List.range (nar Z (s c).toNat)).flatMap (fun j => tw Z (th Z (jrs k s)) (pt Z k s c j))) := by
  have hS := ji_solved hZ h hr
  rcases h.shp c hc hk with ⟨a1, a2⟩ | ⟨a1, a2, a3⟩
  · refine ⟨fun _ => ?_, fun z => by omega⟩
    rcases hc with g | g
    · exact absurd hk (a2 c g)
    · refine ⟨g.1, ?_⟩
      have e0 : 32 + (c - 32) = c := by omega
      have e : jrs k s (c - 32) = vr (c - 32) := by unfold jrs; rw [e0, hk, if_neg (by omega)]
      have := (th_eq hZ hS (h := c - 32) (by omega)).2 (by rw [e]; exact vr_lt _)
      unfold tw
      rw [if_neg (by omega), this, e]
  · refine ⟨fun z => by omega, fun _ => ⟨a2, ?_⟩⟩
    have e := ji_kin hZ h hr (Or.inl a2)
    rw [a3] at e
    rw [← e]
    conv => lhs; unfold tw
    rw [if_pos a2.1, (tv_node hZ a2.2.1 a2.2.2).1]
    congr 1
    refine flat_congr (fun j hj => ?_)
    obtain ⟨c1, c2⟩ := pr_ch hZ a2 hj
    obtain ⟨t1, t2⟩ := tm_ok hZ c1 c2
    unfold pt
    rw [← ji_kin hZ h hr t1, t2]
theorem ji_heft (hZ : Z4 Z) (h : JI Z i n k s []) (hw : WI Z k s M) (hall : ∀ c : Nat, c < 48 → 0 < M 136 c) {ρ : Nat → Nat} (hr : Rk Z k s ρ) : ∀ (N c : Nat), Tm Z c → k c = c → ρ c < N → M 136 c = if 1000 < (tw Z (th Z (jrs k s)) c).length then 1000 else ((tw Z (th Z (jrs k s)) c).length : Int)
  | 0, c, _, _, h0 => by omega
  | N + 1, c, hc, hk, hN => by
    obtain ⟨hG0, ρ', U, hG⟩ := hw
    obtain ⟨-, hgood, -⟩ := hG c hc.lt (hall c hc.lt)
    obtain ⟨s1, s2⟩ := ji_shape hZ h hr hc hk
    by_cases hs : s c < 0
    · rw [hgood.1 hs, (s1 hs).2]; rfl
    · obtain ⟨g1, g2⟩ := hgood.2 (by omega)
      obtain ⟨p1, p2⟩ := s2 (by omega)
      rw [g2, p2, List.length_cons, flat_len]
      have cap := jS_cap (f := fun j => (tw Z (th Z (jrs k s)) (pt Z k s c j)).length) (g := fun j => (M 136 (k (tm Z (nch Z (s c).toNat j)) : Nat)).toNat) (nar Z (s c).toNat) (fun j hj => by
        obtain ⟨q1, q2, q3⟩ := ji_pt hZ h hc.lt (by omega) hj
        have ih := ji_heft hZ h ⟨hG0, ρ', U, hG⟩ hall hr N (pt Z k s c j) q1 q3 (by have := hr c hc hk (by omega) j hj; unfold pt; omega)
        show (M 136 (pt Z k s c j : Nat)).toNat = _
        rw [ih]
        split
        · rfl
        · omega)
      unfold hsum imin
      generalize jS (fun j => (tw Z (th Z (jrs k s)) (pt Z k s c j)).length) (nar Z (s c).toNat) = A at cap ⊢
      generalize jS (fun j => (M 136 (k (tm Z (nch Z (s c).toNat j)) : Nat)).toNat) (nar Z (s c).toNat) = B at cap ⊢
      by_cases gA : A < 1000
      · have := cap.1 gA
        subst this
        split <;> split <;> omega
      · have := cap.2 (by omega)
        rw [if_pos (by omega), if_pos (by omega)]
end WORTH
