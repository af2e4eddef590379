/-! overlap -/
theorem bar_zero {lf : Int → T} {nr : Nat} {a b i : Int} (h : barI lf nr a b i = 0) : (0 ≤ a ∧ a < nr) ∧ (0 ≤ b ∧ b < nr) ∧ ∃ n : Nat, i = n ∧ n < (lf a).length ∧ isH (lb (lf a) n) = false := by
  unfold barI at h
  by_cases g : ¬ (0 ≤ a ∧ a < nr ∧ 0 ≤ b ∧ b < nr ∧ 0 ≤ i ∧ i < (lf a).length)
  · rw [if_pos g] at h; omega
  · rw [if_neg g] at h
    have g' := Classical.not_not.mp g
    by_cases k : isH (lb (lf a) i.toNat) = true ∨ (a = b ∧ i = 0)
    · rw [if_pos k] at h; omega
    · refine ⟨⟨g'.1, g'.2.1⟩, ⟨g'.2.2.1, g'.2.2.2.1⟩, i.toNat, by omega, by omega, ?_⟩
      exact Bool.eq_false_iff.mpr (fun z => k (Or.inl z))
theorem bar_neg {lf : Int → T} {nr : Nat} {a b i : Int} : barI lf nr a b i = 0 ∨ barI lf nr a b i = -1 ∨ barI lf nr a b i = -5 := by
  unfold barI
  split
  · exact Or.inr (Or.inl rfl)
  · split
    · exact Or.inr (Or.inr rfl)
    · exact Or.inl rfl
section OVERLAP
variable {V : VV} {M : Mem} {Q : Int → Mem → Prop} {σ : St}
theorem x_refusedO {a b i : Int} (hI : Inv σ) (hC : RelC M σ) (h : Q (barI σ.lf σ.nr a b i) M) : R_X9_refusedOverlap V a b i M Q := by
  have nr6 := hI.2.2.2.1
  have hn : M 28 0 = σ.nr := hC.2.2.2.1
  unfold barI at h
  apply of_X9_refusedOverlap
  unfold wp_X9_refusedOverlap
  apply x_rhas
  rw [hn]
  by_cases ha : 0 ≤ a ∧ a < σ.nr
  · rw [if_pos (by omega)]
    refine ⟨fun z => by omega, fun _ => ?_⟩
    apply x_rhas
    rw [hn]
    by_cases hb : 0 ≤ b ∧ b < σ.nr
    · rw [if_pos (by omega)]
      refine ⟨fun z => by omega, fun _ => ⟨by omega, ?_⟩⟩
      have ca := (hC.2.2.2.2.1 a ha.1 ha.2).1
      have l16 := (hI.2.2.2.2.1 a ha.1 ha.2).1.1.1
      apply x_has
      rw [ca.1.1]
      by_cases hi : 0 ≤ i ∧ i < (σ.lf a).length
      · rw [if_pos hi]
        rw [if_neg (fun z => z ⟨ha.1, ha.2, hb.1, hb.2, hi.1, hi.2⟩)] at h
        refine ⟨fun z => by omega, fun _ => ⟨by omega, ?_⟩⟩
        obtain ⟨n, rfl⟩ : ∃ n : Nat, i = n := ⟨i.toNat, by omega⟩
        rw [Int.toNat_natCast] at h
        rw [(ca.1.2 n (by omega)).1]
        apply x_isHole
        by_cases hh : 65 ≤ lb (σ.lf a) n ∧ lb (σ.lf a) n ≤ 72
        · rw [if_pos hh]
          rw [if_pos (Or.inl (isH_iff.mpr hh))] at h
          exact ⟨fun z => by omega, fun _ => h⟩
        · rw [if_neg hh]
          have hh' : ¬ isH (lb (σ.lf a) n) = true := fun z => hh (isH_iff.mp z)
          refine ⟨fun _ => ⟨fun e1 => ⟨fun e2 => ?_, fun e2 => ?_⟩, fun e1 => ?_⟩, fun z => absurd rfl z⟩
          · rw [if_pos (Or.inr ⟨e1, e2⟩)] at h; exact h
          · rw [if_neg (fun z => by rcases z with z | z; exact hh' z; exact e2 z.2)] at h; exact h
          · rw [if_neg (fun z => by rcases z with z | z; exact hh' z; exact e1 z.1)] at h; exact h
      · rw [if_neg hi]
        rw [if_pos (fun z => hi ⟨z.2.2.2.2.1, z.2.2.2.2.2⟩)] at h
        exact ⟨fun _ => h, fun z => absurd rfl z⟩
    · rw [if_neg (by omega)]
      rw [if_pos (fun z => hb ⟨z.2.2.1, z.2.2.2.1⟩)] at h
      exact ⟨fun _ => h, fun z => absurd rfl z⟩
  · rw [if_neg (by omega)]
    rw [if_pos (fun z => ha ⟨z.1, z.2.1⟩)] at h
    exact ⟨fun _ => h, fun z => absurd rfl z⟩
theorem m_isRuleO {r : Int} {nr : Nat} (hn : M 203 5 = nr) (h6 : nr ≤ 6) (h : Q (if 0 ≤ r ∧ r < nr then 1 else 0) M) : R_X10_isRule V r M Q := by
  apply of_X10_isRule
  unfold wp_X10_isRule
  rw [hn, w32_id (x := (nr : Int) - 1) (by omega) (by omega)]
  apply m_in
  by_cases hr : 0 ≤ r ∧ r < nr
  · rw [if_pos hr] at h
    rw [if_pos (by omega)]
    exact ⟨Or.inr rfl, h⟩
  · rw [if_neg hr] at h
    rw [if_neg (by omega)]
    exact ⟨Or.inl rfl, h⟩
theorem m_barred {a b i : Int} (hI : Inv σ) (hM : RelM M σ) (h : Q (barI σ.lf σ.nr a b i) M) : R_X10_barred V a b i M Q := by
  have nr6 := hI.2.2.2.1
  have hn : M 203 5 = σ.nr := hM.2.2.2.1
  unfold barI at h
  apply of_X10_barred
  unfold wp_X10_barred
  refine m_isRuleO hn nr6 ?_
  by_cases ha : 0 ≤ a ∧ a < σ.nr
  · rw [if_pos ha]
    refine ⟨fun z => by omega, fun _ => ?_⟩
    refine m_isRuleO hn nr6 ?_
    by_cases hb : 0 ≤ b ∧ b < σ.nr
    · rw [if_pos hb]
      have ca := (hM.2.2.2.2.1 a ha.1 ha.2).1
      have l16 := (hI.2.2.2.2.1 a ha.1 ha.2).1.1.1
      refine ⟨fun z => by omega, fun _ => ?_⟩
      rw [w32_id (x := 6 + a) (by omega) (by omega)]
      refine ⟨by omega, ?_⟩
      rw [ca.1, w32_id (x := ((σ.lf a).length : Int) - 1) (by omega) (by omega)]
      apply m_in
      by_cases hi : 0 ≤ i ∧ i < (σ.lf a).length
      · rw [if_pos (by omega)]
        rw [if_neg (fun z => z ⟨ha.1, ha.2, hb.1, hb.2, hi.1, hi.2⟩)] at h
        refine ⟨fun z => by omega, fun _ => ?_⟩
        obtain ⟨n, rfl⟩ : ∃ n : Nat, i = n := ⟨i.toNat, by omega⟩
        rw [Int.toNat_natCast] at h
        rw [w32_id (x := 32 * (6 + a)) (by omega) (by omega), w32_id (x := 32 * (6 + a) + (n : Int)) (by omega) (by omega)]
        refine ⟨by omega, ?_⟩
        rw [(ca.2 n (by omega)).1]
        apply m_isHole
        by_cases hh : 65 ≤ lb (σ.lf a) n ∧ lb (σ.lf a) n ≤ 72
        · rw [if_pos hh]
          rw [if_pos (Or.inl (isH_iff.mpr hh))] at h
          exact ⟨fun z => by omega, fun _ => h⟩
        · rw [if_neg hh]
          have hh' : ¬ isH (lb (σ.lf a) n) = true := fun z => hh (isH_iff.mp z)
          refine ⟨fun _ => ⟨fun e1 => ⟨fun e2 => ?_, fun e2 => ?_⟩, fun e1 => ?_⟩, fun z => absurd rfl z⟩
          · rw [if_pos (Or.inr ⟨e1, e2⟩)] at h; exact h
          · rw [if_neg (fun z => by rcases z with z | z; exact hh' z; exact e2 z.2)] at h; exact h
          · rw [if_neg (fun z => by rcases z with z | z; exact hh' z; exact e1 z.1)] at h; exact h
      · rw [if_neg (by omega)]
        rw [if_pos (fun z => hi ⟨z.2.2.2.2.1, z.2.2.2.2.2⟩)] at h
        exact ⟨fun _ => h, fun z => absurd rfl z⟩
    · rw [if_neg hb]
      rw [if_pos (fun z => hb ⟨z.2.2.1, z.2.2.2.1⟩)] at h
      exact ⟨fun _ => h, fun z => absurd rfl z⟩
  · rw [if_neg ha]
    rw [if_pos (fun z => ha ⟨z.1, z.2.1⟩)] at h
    exact ⟨fun _ => h, fun z => absurd rfl z⟩
theorem op_overlap {a b i : Int} (hR : Rel M) : R_X9_overlap V a b i M (fun r1 M1 => R_X10_overlap V a b i M1 (fun r2 M2 => r1 = r2 ∧ Rel M2)) := by
  obtain ⟨σ, hI, hC, hM⟩ := hR
  apply of_X9_overlap
  unfold wp_X9_overlap
  refine x_refusedO hI hC ⟨fun z => ?_, fun z => ?_⟩
  · obtain ⟨ha, hb, n, rfl, hn, hh⟩ := bar_zero z
    refine x_kindAt hI hC ha hb hn (fun M1 f1 => ?_)
    have hC1 := hC.kd hI f1
    have hM1 : RelM M1 σ := hM.fr (fun c j hc => f1 c j (by omega) (by omega) (by omega) (by omega))
    apply of_X10_overlap
    unfold wp_X10_overlap
    refine m_barred hI hM1 ⟨fun _ => ?_, fun z' => by omega⟩
    exact m_overlapOf hI hM1 ha hb hn hh (fun M2 f2 => ⟨rfl, σ, hI, hC1.fo hI f2, hM1.fo hI f2⟩)
  · apply of_X10_overlap
    unfold wp_X10_overlap
    refine m_barred hI hM ⟨fun z' => ?_, fun _ => ⟨rfl, σ, hI, hC, hM⟩⟩
    have := bar_neg (lf := σ.lf) (nr := σ.nr) (a := a) (b := b) (i := i)
    omega
end OVERLAP
