/-! led -/
theorem Mem.emp {σ : St} {N : Mem} (hN : RelM N σ) {u : Int} (a : 0 ≤ u) (b : u ≤ 5) : 0 < N 204 u ↔ σ.tr u ≠ [] := by
  rw [(hN.2.2.1 u a b).1]
  have := List.length_pos_iff (l := σ.tr u)
  constructor
  · intro w; exact this.mp (by omega)
  · intro w; have := this.mpr w; omega
theorem FL.rel {M M' : Mem} {σ : St} (hI : Inv σ) (h : FL M M') (hC : RelC M σ) (hM : RelM M σ) : Rel M' := ⟨σ, hI, hC.fr hI (fun c j hc => h _ _ (by omega) (by omega)), hM.core hI (fun c j hc => by unfold corM at hc; exact h _ _ (by omega) (by omega))⟩
section LED
variable {V : VV} {M : Mem} {Q : Int → Mem → Prop}
theorem op_led {s t i : Int} (hR : Rel M) : R_X9_led V s t i M (fun r1 M1 => R_X10_led V s t i M1 (fun r2 M2 => r1 = r2 ∧ Rel M2)) := by
  obtain ⟨σ, hI, hC, hM⟩ := hR
  have un : ¬ (((0 ≤ s ∧ s ≤ 5) ∧ σ.tr s ≠ []) ∧ ((0 ≤ t ∧ t ≤ 5) ∧ σ.tr t ≠ []) ∧ 0 ≤ i ∧ i < (σ.tr s).length) → R_X10_led V s t i M (fun r2 M2 => -1 = r2 ∧ Rel M2) := by
    intro hne
    apply of_X10_led
    unfold wp_X10_led
    apply m_areBoth
    by_cases hb : (0 ≤ s ∧ s ≤ 5) ∧ (0 ≤ t ∧ t ≤ 5) ∧ 0 < M 204 s ∧ 0 < M 204 t
    · rw [if_pos hb]
      have h16 := (hI.2.2.1 s hb.1.1 hb.1.2).1.1
      refine ⟨fun c => by omega, fun _ => ⟨by omega, ?_⟩⟩
      rw [(hM.2.2.1 s hb.1.1 hb.1.2).1, w32_id (by omega) (by omega)]
      apply m_in
      rw [if_neg]
      · exact ⟨fun _ => ⟨rfl, σ, hI, hC, hM⟩, fun c => by omega⟩
      · intro hi
        exact hne ⟨⟨hb.1, (Mem.emp hM hb.1.1 hb.1.2).mp hb.2.2.1⟩, ⟨hb.2.1, (Mem.emp hM hb.2.1.1 hb.2.1.2).mp hb.2.2.2⟩, by omega, by omega⟩
    · rw [if_neg hb]
      exact ⟨fun _ => ⟨rfl, σ, hI, hC, hM⟩, fun c => by omega⟩
  apply of_X9_led
  unfold wp_X9_led
  apply x_filledAt
  by_cases hs : (0 ≤ s ∧ s ≤ 5) ∧ 0 < M (161 + 7 * s) 0
  · rw [if_pos hs]
    have cs := hC.2.2.1 s hs.1.1 hs.1.2
    refine ⟨fun c => by omega, fun _ => ?_⟩
    apply x_has
    rw [cs.1.1]
    by_cases hi : 0 ≤ i ∧ i < (σ.tr s).length
    · rw [if_pos hi]
      refine ⟨fun c => by omega, fun _ => ?_⟩
      refine x_leads hI hC (fun hne => ⟨fun _ => un (fun w => hne ⟨w.1, w.2.1⟩), fun c => by omega⟩) (fun M1 s1 s2 t1 t2 ns nt lk hC1 f1 => ⟨fun c => by omega, fun _ => ?_⟩)
      have ws := (hI.2.2.1 s s1 s2).1
      have wt := (hI.2.2.1 t t1 t2).1
      have h16 := ws.1
      obtain ⟨n, rfl⟩ : ∃ n : Nat, i = n := ⟨i.toNat, by omega⟩
      have hM1 : RelM M1 σ := hM.fr (fun c j hc => f1 _ _ (by omega))
      obtain ⟨g, hl, -, -, -, l14, -⟩ := lk
      rw [l14 n (by omega)]
      refine ⟨by omega, ?_⟩
      apply of_X10_led
      unfold wp_X10_led
      apply m_areBoth
      rw [if_pos ⟨⟨s1, s2⟩, ⟨t1, t2⟩, (Mem.emp hM1 s1 s2).mpr ns, (Mem.emp hM1 t1 t2).mpr nt⟩]
      refine ⟨fun c => by omega, fun _ => ⟨by omega, ?_⟩⟩
      rw [(hM1.2.2.1 s s1 s2).1, w32_id (by omega) (by omega)]
      apply m_in
      rw [if_pos (by omega)]
      refine ⟨fun c => by omega, fun _ => ?_⟩
      refine m_layLed ⟨s1, s2⟩ ⟨t1, t2⟩ (hM1.2.2.1 s s1 s2) (hM1.2.2.1 t t1 t2) ws wt (List.length_pos_iff.mpr ns) (List.length_pos_iff.mpr nt) hM1.2.2.2.2.2.1 hI.2.2.2.2.2.1 hl (fun M3 r3 _ _ _ f3 => ⟨by omega, ?_, f3.rel hI hC1 hM1⟩)
      rw [r3 n (by omega)]
    · rw [if_neg hi]
      exact ⟨fun _ => un (fun w => hi w.2.2), fun c => by omega⟩
  · rw [if_neg hs]
    refine ⟨fun _ => un (fun w => hs ⟨w.1.1, ?_⟩), fun c => by omega⟩
    rw [(hC.2.2.1 s w.1.1.1 w.1.1.2).1.1]
    have := List.length_pos_iff.mpr w.1.2
    omega
end LED
