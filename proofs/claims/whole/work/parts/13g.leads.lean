/-! the class's leadings -/
section LEADS
variable {V : VV} {M : Mem} {Q : Int → Mem → Prop}
theorem x_leads {s t : Int} {σ : St} (hI : Inv σ) (hC : RelC M σ) (h0 : ¬ (((0 ≤ s ∧ s ≤ 5) ∧ (σ.tr s) ≠ []) ∧ ((0 ≤ t ∧ t ≤ 5) ∧ (σ.tr t) ≠ [])) → Q 0 M)
    (h1 : ∀ M', 0 ≤ s → s ≤ 5 → 0 ≤ t → t ≤ 5 → σ.tr s ≠ [] → σ.tr t ≠ [] → LeadOK M' (σ.tr s) (σ.tr t) σ.pr → RelC M' σ → (∀ c j, 202 < c → M' c j = M c j) → Q 1 M') : R_X9_leads V s t M Q := by
  have pos : ∀ u, 0 ≤ u → u ≤ 5 → (0 < M (161 + 7 * u) 0 ↔ σ.tr u ≠ []) := fun u a b => by
    rw [(hC.2.2.1 u a b).1.1]
    have := List.length_pos_iff (l := σ.tr u)
    constructor
    · intro w; exact this.mp (by omega)
    · intro w; have := this.mpr w; omega
  apply of_X9_leads
  unfold wp_X9_leads
  apply x_filledAt
  apply x_filledAt
  by_cases hs : (0 ≤ s ∧ s ≤ 5) ∧ 0 < M (161 + 7 * s) 0
  · rw [if_pos hs]
    refine ⟨fun c => by omega, fun _ => ?_⟩
    by_cases ht : (0 ≤ t ∧ t ≤ 5) ∧ 0 < M (161 + 7 * t) 0
    · rw [if_pos ht]
      refine ⟨fun c => by omega, fun _ => ?_⟩
      have ns := (pos s hs.1.1 hs.1.2).mp hs.2
      have nt := (pos t ht.1.1 ht.1.2).mp ht.2
      have ws := (hI.2.2.1 s hs.1.1 hs.1.2).1
      have wt := (hI.2.2.1 t ht.1.1 ht.1.2).1
      have cs := hC.2.2.1 s hs.1.1 hs.1.2
      have ct := hC.2.2.1 t ht.1.1 ht.1.2
      have calc40 : wp_X9_leads_40 V s t (161 + 7 * s) (161 + 7 * t) M Q := by
        unfold wp_X9_leads_40
        refine x_lead (by omega) (by omega) cs ct hC.2.2.2.2.2.1 hI.2.2.2.2.2.1 ws wt (List.length_pos_iff.mpr ns) (List.length_pos_iff.mpr nt) (fun M6 g hl a3 a4 a5 a14 a15 f6 => ?_)
        refine x_pair (by omega) (by omega) (cs.fr (fun c j _ _ => f6 _ _ (by omega))) (ct.fr (fun c j _ _ => f6 _ _ (by omega))) ws wt hl.1 a14 a15 (fun M8 b0 b1 bp f8 => ?_)
        intro M9 h9
        generalize hMA : mset M9 0 12 t = MA
        have fA : ∀ c j, ¬ (c = 0 ∧ (j = 11 ∨ j = 12)) → MA c j = M8 c j := fun c j a => by
          rw [← hMA, show mset M9 0 12 t c j = M9 c j from if_neg (by omega), h9]; exact if_neg (by omega)
        have a11 : MA 0 11 = s := by rw [← hMA, mset_idx _ _ _ (by omega), h9, mset_same]
        have a12 : MA 0 12 = t := by rw [← hMA, mset_same]
        have lk : LeadOK MA (σ.tr s) (σ.tr t) σ.pr := ⟨g, hl, by rw [fA _ _ (by omega), f8 _ _ (by omega)]; exact a3, by rw [fA _ _ (by omega), f8 _ _ (by omega)]; exact a4, by rw [fA _ _ (by omega), f8 _ _ (by omega)]; exact a5, fun i hi => by rw [fA _ _ (by omega), f8 _ _ (by omega)]; exact a14 i hi, by rw [fA _ _ (by omega)]; exact b0, by rw [fA _ _ (by omega)]; exact b1, fun i p hp => by rw [fA _ _ (by omega), fA _ _ (by omega)]; exact bp i p hp⟩
        have fM : ∀ c j, ¬ (c = 0 ∧ (j = 11 ∨ j = 12)) → c < 12 ∨ c = 13 ∨ 24 < c → MA c j = M c j := fun c j a b => by rw [fA _ _ a, f8 _ _ (by omega), f6 _ _ (by omega)]
        have hCA : RelC MA σ := by
          have hn := hI.2.2.2.1
          obtain ⟨g1, g2, g3, g4, g5, g6, g7, g8, g9⟩ := hC
          refine ⟨by rw [fM _ _ (by omega) (by omega)]; exact g1, fun i x hx => by rw [fM _ _ (by omega) (by omega)]; exact g2 i x hx, fun u a b => (g3 u a b).fr (fun c j _ _ => fM _ _ (by omega) (by omega)), by rw [fM _ _ (by omega) (by omega)]; exact g4, fun r a b => ⟨(g5 r a b).1.fr (fun c j _ _ => fM _ _ (by omega) (by omega)), (g5 r a b).2.fr (fun c j _ _ => fM _ _ (by omega) (by omega))⟩, fun w a b => by rw [fM _ _ (by omega) (by omega)]; exact g6 w a b, by rw [fM _ _ (by omega) (by omega)]; exact g7, Or.inr ?_, ?_⟩
          · rw [a11, a12]; exact ⟨hs.1.1, hs.1.2, ht.1.1, ht.1.2, ns, nt, lk⟩
          · rw [fM 127 0 (by omega) (by omega)]
            rcases g9 with w | ⟨w1, w2⟩
            · exact Or.inl w
            · exact Or.inr ⟨w1, fun w a b => by rw [fM _ _ (by omega) (by omega)]; exact w2 w a b⟩
        exact h1 MA hs.1.1 hs.1.2 ht.1.1 ht.1.2 ns nt lk hCA (fun c j hc => fM c j (by omega) (by omega))
      refine ⟨fun c => ⟨fun d => ?_, fun _ => calc40⟩, fun _ => calc40⟩
      have g8 := hC.2.2.2.2.2.2.2.1
      rw [← c, ← d] at g8
      rcases g8 with w | ⟨-, -, -, -, -, -, w⟩
      · omega
      · exact h1 M hs.1.1 hs.1.2 ht.1.1 ht.1.2 ns nt w hC (fun _ _ _ => rfl)
    · rw [if_neg ht]
      refine ⟨fun _ => h0 (fun w => ht ⟨w.2.1, (pos t w.2.1.1 w.2.1.2).mpr w.2.2⟩), fun c => by omega⟩
  · rw [if_neg hs]
    refine ⟨fun _ => h0 (fun w => hs ⟨w.1.1, (pos s w.1.1.1 w.1.1.2).mpr w.1.2⟩), fun c => by omega⟩
end LEADS
