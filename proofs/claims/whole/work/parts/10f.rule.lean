/-! rule -/
theorem w_idx {x : Int} {i : Nat} (h0 : 0 ≤ x) (h1 : x ≤ 20) (hi : i < 32) : w32 (w32 (32 * x) + (i : Int)) = 32 * x + i ∧ (0 ≤ 32 * x + (i : Int) ∧ 32 * x + (i : Int) < 672) := by
  rw [w32_id (x := 32 * x) (by omega) (by omega), w32_id (by omega) (by omega)]
  exact ⟨rfl, by omega, by omega⟩
theorem w_succ {k : Nat} (h : k < 100000) : w32 ((k : Int) + 1) = (k : Int) + 1 := w32_id (by omega) (by omega)
theorem w_mu {k n : Nat} (h : k < n) : ((n : Int) - ((k : Int) + 1)).toNat < ((n : Int) - (k : Int)).toNat := by omega
def rlOk (l r : T) : Bool := !isH (lb l 0) && r.all (fun p => !isH p.1 || holeIn l p.1)
def rlSet (σ : St) (l r : T) : St := (σ.pad, σ.tr, fun k => if k = σ.nr then l else σ.lf k, fun k => if k = σ.nr then r else σ.rt k, σ.nr + 1, σ.pr, σ.wk)
theorem bits_sub (l r : T) : and32 (hbN r) (xor32 (hbN l) (-1)) = 0 ↔ r.all (fun p => !isH p.1 || holeIn l p.1) = true := by
  rw [and_not8 (hbN_lt r) (hbN_lt l), List.all_eq_true]
  constructor
  · intro h p hp
    cases hh : isH p.1 with
    | false => rfl
    | true =>
      rw [isH_iff] at hh
      have h1 := h (p.1 - 65).toNat (by omega)
      rw [hbN_bit _ _ (by omega), hbN_bit _ _ (by omega), show (65 : Int) + ((p.1 - 65).toNat : Nat) = p.1 by omega] at h1
      have h2 : holeIn r p.1 = true := by
        unfold holeIn; rw [List.any_eq_true]; exact ⟨p, hp, by simp⟩
      simp [h1 h2]
  · intro h k hk
    rw [hbN_bit _ _ hk, hbN_bit _ _ hk]
    intro hr
    unfold holeIn at hr
    rw [List.any_eq_true] at hr
    obtain ⟨p, hp, e⟩ := hr
    have e' : p.1 = 65 + k := by simpa using e
    have h1 := h p hp
    rw [e'] at h1
    have : isH (65 + (k : Int)) = true := isH_iff.mpr (by omega)
    rw [this] at h1
    simpa using h1
theorem Wr.of {l r : T} (hl : Wd l) (hr : Wd r) (h1 : l ≠ []) (h2 : r ≠ []) (h : rlOk l r = true) : Wr l r := by
  unfold rlOk at h
  rw [Bool.and_eq_true, List.all_eq_true] at h
  refine ⟨hl, hr, h1, h2, by simpa using h.1, fun c hc hin => ?_⟩
  unfold holeIn at hin
  rw [List.any_eq_true] at hin
  obtain ⟨p, hp, e⟩ := hin
  have e' : p.1 = c := by simpa using e
  have := h.2 p hp
  rw [e', hc] at this
  simpa using this
section OPS6
variable {V : VV} {M : Mem} {Q : Int → Mem → Prop}
theorem op_rule {a b : Int} (hR : Rel M) : R_X9_rule V a b M (fun r1 M1 => R_X10_rule V a b M1 (fun r2 M2 => r1 = r2 ∧ Rel M2)) := by
  obtain ⟨σ, hI, hC, hM⟩ := hR
  have hn6 := hI.2.2.2.1
  have c4 := hC.2.2.2.1
  have m4 := hM.2.2.2.1
  have both : ∀ {N : Mem}, RelM N σ → ∀ {Q : Int → Mem → Prop}, (¬ ((0 ≤ a ∧ a ≤ 5) ∧ (0 ≤ b ∧ b ≤ 5) ∧ σ.tr a ≠ [] ∧ σ.tr b ≠ []) → Q 0 N) → ((0 ≤ a ∧ a ≤ 5) ∧ (0 ≤ b ∧ b ≤ 5) ∧ σ.tr a ≠ [] ∧ σ.tr b ≠ [] → Q 1 N) → R_X10_areBoth V a b N Q := by
    intro N hN Q h1 h2
    apply m_areBoth
    by_cases ha : 0 ≤ a ∧ a ≤ 5
    · by_cases hb : 0 ≤ b ∧ b ≤ 5
      · rw [(hN.2.2.1 a ha.1 ha.2).1, (hN.2.2.1 b hb.1 hb.2).1]
        by_cases hne : σ.tr a ≠ [] ∧ σ.tr b ≠ []
        · have p1 := List.length_pos_iff.mpr hne.1
          have p2 := List.length_pos_iff.mpr hne.2
          rw [if_pos ⟨ha, hb, by omega, by omega⟩]
          exact h2 ⟨ha, hb, hne⟩
        · rw [if_neg]
          · exact h1 (fun g => hne g.2.2)
          · rintro ⟨-, -, g1, g2⟩
            exact hne ⟨fun e => by rw [e] at g1; simp at g1, fun e => by rw [e] at g2; simp at g2⟩
      · rw [if_neg (by omega)]; exact h1 (fun g => hb g.2.1)
    · rw [if_neg (by omega)]; exact h1 (fun g => ha g.1)
  have un : ¬ ((0 ≤ a ∧ a ≤ 5) ∧ (0 ≤ b ∧ b ≤ 5) ∧ σ.tr a ≠ [] ∧ σ.tr b ≠ []) → R_X10_rule V a b M (fun r2 M2 => -1 = r2 ∧ Rel M2) := by
    intro hx
    apply of_X10_rule
    unfold wp_X10_rule
    exact both hM (fun _ => ⟨fun _ => ⟨rfl, σ, hI, hC, hM⟩, fun c => by omega⟩) (fun g => absurd g hx)
  apply of_X9_rule
  unfold wp_X9_rule
  apply x_filledAt
  apply x_filledAt
  by_cases ha : (0 ≤ a ∧ a ≤ 5) ∧ 0 < M (161 + 7 * a) 0
  · rw [if_pos ha]
    refine ⟨fun c => by omega, fun _ => ?_⟩
    by_cases hb : (0 ≤ b ∧ b ≤ 5) ∧ 0 < M (161 + 7 * b) 0
    · rw [if_pos hb]
      refine ⟨fun c => by omega, fun _ => ?_⟩
      have ca := hC.2.2.1 a ha.1.1 ha.1.2
      have cb := hC.2.2.1 b hb.1.1 hb.1.2
      have wa := hI.2.2.1 a ha.1.1 ha.1.2
      have wb := hI.2.2.1 b hb.1.1 hb.1.2
      have ma := hM.2.2.1 a ha.1.1 ha.1.2
      have mb := hM.2.2.1 b hb.1.1 hb.1.2
      have pa : 0 < (σ.tr a).length := by have := ca.1.1; omega
      have pb : 0 < (σ.tr b).length := by have := cb.1.1; omega
      have na := List.length_pos_iff.mp pa
      have nb := List.length_pos_iff.mp pb
      have a16 := wa.1.1
      have b16 := wb.1.1
      have hall : (0 ≤ a ∧ a ≤ 5) ∧ (0 ≤ b ∧ b ≤ 5) ∧ σ.tr a ≠ [] ∧ σ.tr b ≠ [] := ⟨ha.1, hb.1, na, nb⟩
      -- the reference, from a memory in which the class is through
      have mdl : ∀ (N : Mem) (r : Int) (σ' : St), RelM N σ → Inv σ' → RelC N σ' → (σ.nr = 6 → r = -4 ∧ σ' = σ) → (σ.nr ≠ 6 → rlOk (σ.tr a) (σ.tr b) = false → r = -5 ∧ σ' = σ) → (σ.nr ≠ 6 → rlOk (σ.tr a) (σ.tr b) = true → r = σ.nr ∧ σ' = rlSet σ (σ.tr a) (σ.tr b)) → R_X10_rule V a b N (fun r2 M2 => r = r2 ∧ Rel M2) := by
        intro N r σ' hN hI' hC' e1 e2 e3
        have ma := hN.2.2.1 a ha.1.1 ha.1.2
        have mb := hN.2.2.1 b hb.1.1 hb.1.2
        have m4 := hN.2.2.2.1
        have mb0 := mb.1
        apply of_X10_rule
        unfold wp_X10_rule
        refine both hN (fun g => absurd hall g) (fun _ => ⟨fun c => by omega, fun _ => ⟨fun c => ?_, fun c => ?_⟩⟩)
        · obtain ⟨rfl, rfl⟩ := e1 (by omega)
          exact ⟨rfl, _, hI', hC', hN⟩
        · have hn : σ.nr ≠ 6 := by omega
          have e0 := (ma.2 0 pa).1
          rw [show 32 * a + ((0 : Nat) : Int) = 32 * a by omega] at e0
          rw [w32_id (by omega) (by omega)]
          refine ⟨by omega, ?_⟩
          rw [e0]
          have loop : ∀ s : Int, (s = if isH (lb (σ.tr a) 0) then 0 else 1) → wp_X10_rule_43 V a b s N (fun r2 M2 => r = r2 ∧ Rel M2) := by
            intro s hs
            unfold wp_X10_rule_43 wp_X10_rule_47
            refine ⟨fun s j N' => N' = N ∧ ∃ k : Nat, j = k ∧ k ≤ (σ.tr b).length ∧ s = (if !isH (lb (σ.tr a) 0) && ((σ.tr b).take k).all (fun p => !isH p.1 || holeIn (σ.tr a) p.1) then 1 else 0), fun _ j _ => (17 - j).toNat, ⟨rfl, 0, rfl, by omega, by rw [hs]; cases isH (lb (σ.tr a) 0) <;> simp⟩, ?_⟩
            rintro s j N' ⟨rfl, k, rfl, hk, rfl⟩
            unfold wp_X10_rule_47_b wp_X10_rule_94 wp_X10_rule_98
            rw [mb0]
            refine ⟨by omega, fun g => ?_, fun g => ?_⟩
            · have hke : k = (σ.tr b).length := by omega
              subst hke
              rw [List.take_length]
              refine ⟨fun d => ?_, fun d => ⟨by omega, ?_⟩⟩
              · have hF : rlOk (σ.tr a) (σ.tr b) = false := by
                  unfold rlOk
                  split at d
                  · omega
                  · rename_i q; exact Bool.eq_false_iff.mpr q
                obtain ⟨rfl, rfl⟩ := e2 hn hF
                exact ⟨rfl, _, hI', hC', hN⟩
              · have hT : rlOk (σ.tr a) (σ.tr b) = true := by
                  unfold rlOk
                  split at d
                  · assumption
                  · exact absurd rfl d
                obtain ⟨rfl, rfl⟩ := e3 hn hT
                rw [ma.1, m4, w32_id (by omega) (by omega)]
                have cp := m_copy (V := V) (M := N') (x := a) (y := 6 + (σ.nr : Int)) (i := 0) (n := (σ.tr a).length) (Q := fun _ M6 => ((0 : Int) ≤ b ∧ b < 21) ∧ R_X10_copy V b 0 (M6 204 b) (w32 (12 + M6 203 5)) M6 (fun _ M8 => ∀ M9 : Mem, M9 = mset M8 203 5 (w32 (M8 203 5 + 1)) → (σ.nr : Int) = (w32 (M9 203 5 - 1)) ∧ Rel M9)) (by omega) (by omega) (by omega) (by omega)
                refine cp (fun M6 s6 n6 e6 => ⟨by omega, ?_⟩)
                have b6 : M6 204 b = (σ.tr b).length := by rw [s6 _ _ (by omega) (by omega)]; exact mb0
                have r6 : M6 203 5 = σ.nr := by rw [s6 _ _ (by omega) (by omega)]; exact m4
                rw [b6, r6, w32_id (by omega) (by omega)]
                refine m_copy (i := 0) (by omega) (by omega) (by omega) (by omega) (fun M8 s8 n8 e8 => ?_)
                intro M9 h9
                have r8 : M8 203 5 = σ.nr := by rw [s8 _ _ (by omega) (by omega)]; exact r6
                rw [r8, w32_id (by omega) (by omega)] at h9
                refine ⟨by rw [h9, mset_same, w32_id (by omega) (by omega)]; omega, _, hI', ?_, ?_⟩
                · exact hC'.fr hI' (fun c j hc => by rw [h9, mset_cell _ (by omega), s8 _ _ (by omega) (by omega), s6 _ _ (by omega) (by omega)])
                · have f9 : ∀ c j, ¬ (c = 203 ∧ j = 5) → M9 c j = M8 c j := fun c j q => by rw [h9]; exact if_neg q
                  have ff : ∀ (c j : Int), ¬ (c = 203 ∧ j = 5) → ¬ (c = 204 ∧ (j = 6 + σ.nr ∨ j = 12 + σ.nr)) → ¬ ((c = 205 ∨ c = 206) ∧ ((32 * (6 + (σ.nr : Int)) ≤ j ∧ j < 32 * (6 + (σ.nr : Int)) + 32) ∨ (32 * (12 + (σ.nr : Int)) ≤ j ∧ j < 32 * (12 + (σ.nr : Int)) + 32))) → M9 c j = N' c j := fun c j q1 q2 q3 => by rw [f9 _ _ q1, s8 _ _ (by omega) (by omega), s6 _ _ (by omega) (by omega)]
                  have mtk : ∀ (z : Int) (q : T), 0 ≤ z → z ≤ 17 → z ≠ 6 + σ.nr → z ≠ 12 + σ.nr → q.length ≤ 16 → Mt N' z q → Mt M9 z q := fun z q z1 z2 z3 z4 z5 hq => ⟨by rw [ff _ _ (by omega) (by omega) (by omega)]; exact hq.1, fun i hi => by rw [ff _ _ (by omega) (by omega) (by omega), ff _ _ (by omega) (by omega) (by omega)]; exact hq.2 i hi⟩
                  obtain ⟨g1, g2, g3, g4, g5, g6, g7⟩ := hN
                  refine ⟨by rw [ff _ _ (by omega) (by omega) (by omega)]; exact g1, fun i x hx => by rw [ff _ _ (by omega) (by omega) (by omega)]; exact g2 i x hx, fun t q1 q2 => mtk _ _ (by omega) (by omega) (by omega) (by omega) (hI.2.2.1 t q1 q2).1.1 (g3 t q1 q2), by rw [h9, mset_same]; rfl, fun q q1 q2 => ?_, fun w q1 q2 => by rw [ff _ _ (by omega) (by omega) (by omega)]; exact g6 w q1 q2, by rw [ff _ _ (by omega) (by omega) (by omega)]; exact g7⟩
                  have q2' : q < (σ.nr : Int) + 1 := q2
                  show Mt M9 (6 + q) (if q = σ.nr then σ.tr a else σ.lf q) ∧ Mt M9 (12 + q) (if q = σ.nr then σ.tr b else σ.rt q)
                  by_cases hq : q = σ.nr
                  · subst hq
                    rw [if_pos rfl, if_pos rfl]
                    refine ⟨⟨by rw [f9 _ _ (by omega), s8 _ _ (by omega) (by omega)]; exact n6, fun i hi => ?_⟩, ⟨by rw [f9 _ _ (by omega)]; exact n8, fun i hi => ?_⟩⟩
                    · rw [f9 _ _ (by omega), f9 _ _ (by omega), s8 _ _ (by omega) (by omega), s8 _ _ (by omega) (by omega), (e6 i hi).1, (e6 i hi).2]
                      rw [show 32 * a + ((0 : Nat) : Int) + (i : Int) = 32 * a + i by omega]
                      exact ma.2 i hi
                    · rw [f9 _ _ (by omega), f9 _ _ (by omega), (e8 i hi).1, (e8 i hi).2, s6 _ _ (by omega) (by omega), s6 _ _ (by omega) (by omega)]
                      rw [show 32 * b + ((0 : Nat) : Int) + (i : Int) = 32 * b + i by omega]
                      exact mb.2 i hi
                  · rw [if_neg hq, if_neg hq]
                    have hW := hI.2.2.2.2.1 q q1 (by omega)
                    have := g5 q q1 (by omega)
                    exact ⟨mtk _ _ (by omega) (by omega) (by omega) (by omega) hW.1.1.1 this.1, mtk _ _ (by omega) (by omega) (by omega) (by omega) hW.2.1.1.1 this.2⟩
            · clear e1 e2 e3 both un
              have hkb : k < (σ.tr b).length := by omega
              have eb := (mb.2 k hkb).1
              have k16 : k < 16 := Nat.lt_of_lt_of_le hkb b16
              have ew := w_succ (Nat.lt_trans k16 (by decide : 16 < 100000))
              obtain ⟨ei, ein⟩ := w_idx hb.1.1 (Int.le_trans hb.1.2 (by decide)) (Nat.lt_trans k16 (by decide : 16 < 32))
              rw [ei, ew]
              refine ⟨ein, ?_⟩
              intro v hv
              rw [eb] at hv
              subst hv
              have nx : ∀ s : Int, (s = if !isH (lb (σ.tr a) 0) && ((σ.tr b).take (k + 1)).all (fun p => !isH p.1 || holeIn (σ.tr a) p.1) then 1 else 0) → (N' = N' ∧ ∃ k' : Nat, (k : Int) + 1 = k' ∧ k' ≤ (σ.tr b).length ∧ s = (if !isH (lb (σ.tr a) 0) && ((σ.tr b).take k').all (fun p => !isH p.1 || holeIn (σ.tr a) p.1) then 1 else 0)) ∧ (17 - ((k : Int) + 1)).toNat < (17 - (k : Int)).toNat := fun s hs => ⟨⟨rfl, k + 1, rfl, hkb, hs⟩, w_mu (n := 17) (Nat.lt_trans k16 (by decide))⟩
              refine ⟨fun d => nx 0 ?_, fun d => ?_⟩
              · rw [all_take hkb, ← Bool.and_assoc]
                split at d
                · omega
                · rename_i q; rw [Bool.eq_false_iff.mpr q]; rfl
              · have hT : (!isH (lb (σ.tr a) 0) && ((σ.tr b).take k).all (fun p => !isH p.1 || holeIn (σ.tr a) p.1)) = true := by
                  split at d
                  · assumption
                  · exact absurd rfl d
                apply m_isHole
                by_cases hh : 65 ≤ lb (σ.tr b) k ∧ lb (σ.tr b) k ≤ 72
                · rw [if_pos hh]
                  refine ⟨fun c => by omega, fun _ => ?_⟩
                  refine m_hasLabel (by omega) ma wa.1 ?_
                  have hh2 := isH_iff.mpr hh
                  refine ⟨fun c => nx 0 ?_, fun c => nx 1 ?_⟩
                  · rw [all_take hkb, ← Bool.and_assoc, hT, hh2]
                    split at c
                    · omega
                    · rename_i q
                      have : holeIn (σ.tr a) (lb (σ.tr b) k) = false := Bool.eq_false_iff.mpr q
                      simp [this]
                  · rw [all_take hkb, ← Bool.and_assoc, hT, hh2]
                    split at c
                    · rename_i q
                      have : holeIn (σ.tr a) (lb (σ.tr b) k) = true := q
                      simp [this]
                    · exact absurd rfl c
                · rw [if_neg hh]
                  refine ⟨fun _ => nx 1 ?_, fun c => by omega⟩
                  have : isH (lb (σ.tr b) k) = false := Bool.eq_false_iff.mpr (fun q => hh (isH_iff.mp q))
                  rw [all_take hkb, ← Bool.and_assoc, hT, this]; simp
          apply m_isHole
          by_cases hh : 65 ≤ lb (σ.tr a) 0 ∧ lb (σ.tr a) 0 ≤ 72
          · rw [if_pos hh]
            exact ⟨fun c => by omega, fun _ => loop 0 (by rw [if_pos (isH_iff.mpr hh)])⟩
          · rw [if_neg hh]
            exact ⟨fun _ => loop 1 (by rw [if_neg (fun q => hh (isH_iff.mp q))]), fun c => by omega⟩
      rw [c4]
      have e0 := (ca.1.2 0 pa).1
      refine ⟨fun g => ⟨by omega, ?_⟩, fun g => mdl M _ σ hM hI hC (fun _ => ⟨rfl, rfl⟩) (fun q => by omega) (fun q => by omega)⟩
      rw [show ((0 : Nat) : Int) = 0 from rfl] at e0
      rw [e0]
      apply x_isHole
      by_cases hh : 65 ≤ lb (σ.tr a) 0 ∧ lb (σ.tr a) 0 ≤ 72
      · rw [if_pos hh]
        have hF : rlOk (σ.tr a) (σ.tr b) = false := by unfold rlOk; rw [isH_iff.mpr hh]; rfl
        exact ⟨fun c => by omega, fun _ => mdl M _ σ hM hI hC (fun q => by omega) (fun _ _ => ⟨rfl, rfl⟩) (fun _ q => by rw [hF] at q; cases q)⟩
      · rw [if_neg hh]
        have hnh : isH (lb (σ.tr a) 0) = false := Bool.eq_false_iff.mpr (fun q => hh (isH_iff.mp q))
        refine ⟨fun _ => ?_, fun c => by omega⟩
        refine x_holeBits cb.1 b16 ?_
        refine x_holeBits ca.1 a16 ?_
        rw [bits_sub]
        refine ⟨fun hs => ?_, fun hs => mdl M _ σ hM hI hC (fun q => by omega) (fun _ _ => ⟨rfl, rfl⟩) (fun _ q => ?_)⟩
        · have hT : rlOk (σ.tr a) (σ.tr b) = true := by unfold rlOk; rw [hnh, hs]; rfl
          intro M1 h1
          have f1 : ∀ c j, ¬ (c = 127 ∧ j = 0) → M1 c j = M c j := fun c j q => by rw [h1]; exact if_neg q
          apply of_X6_append
          unfold wp_X6_append
          have n1 : M1 28 0 = σ.nr := by rw [f1 _ _ (by omega)]; exact c4
          rw [n1]
          refine ⟨fun _ => ⟨by omega, ?_⟩, fun q => by omega⟩
          have ca1 : Ct M1 (161 + 7 * a) (σ.tr a) := ca.fr (fun c j _ _ => f1 _ _ (by omega))
          have cb1 : Ct M1 (161 + 7 * b) (σ.tr b) := cb.fr (fun c j _ _ => f1 _ _ (by omega))
          refine x_copyAll ca1 a16 (by omega) (fun M2 c2 f2 => ?_)
          have n2 : M2 28 0 = σ.nr := by rw [f2 _ _ (by omega)]; exact n1
          rw [n2]
          refine ⟨by omega, ?_⟩
          have cb2 : Ct M2 (161 + 7 * b) (σ.tr b) := f2.ct (by omega) cb1
          refine x_copyAll cb2 b16 (by omega) (fun M3 c3 f3 => ?_)
          intro M4 h4
          have n3 : M3 28 0 = σ.nr := by rw [f3 _ _ (by omega)]; exact n2
          rw [n3, w32_id (by omega) (by omega)] at h4
          have f4 : ∀ c j, ¬ (c = 28 ∧ j = 0) → M4 c j = M3 c j := fun c j q => by rw [h4]; exact if_neg q
          have e4 : M4 28 0 = (σ.nr : Int) + 1 := by rw [h4, mset_same]
          rw [e4, w32_id (by omega) (by omega)]
          have ff : ∀ (c j : Int), ¬ (c = 28 ∧ j = 0) → ¬ (c = 127 ∧ j = 0) → ¬ (39 + 14 * (σ.nr : Int) ≤ c ∧ c ≤ 52 + 14 * (σ.nr : Int)) → M4 c j = M c j := fun c j q1 q2 q3 => by rw [f4 _ _ q1, f3 _ _ (by omega), f2 _ _ (by omega), f1 _ _ q2]
          have hI' : Inv (rlSet σ (σ.tr a) (σ.tr b)) := ⟨hI.1, hI.2.1, hI.2.2.1, by show σ.nr + 1 ≤ 6; omega, fun r q1 q2 => by
            have q2' : r < (σ.nr : Int) + 1 := q2
            show Wr (if r = σ.nr then σ.tr a else σ.lf r) (if r = σ.nr then σ.tr b else σ.rt r)
            by_cases hr : r = σ.nr
            · rw [if_pos hr, if_pos hr]; exact Wr.of wa wb na nb hT
            · rw [if_neg hr, if_neg hr]; exact hI.2.2.2.2.1 r q1 (by omega), hI.2.2.2.2.2⟩
          have hC' : RelC M4 (rlSet σ (σ.tr a) (σ.tr b)) := by
            obtain ⟨g1, g2, g3, g4, g5, g6, g7, g8, g9⟩ := hC
            refine ⟨by rw [ff _ _ (by omega) (by omega) (by omega)]; exact g1, fun i x hx => by rw [ff _ _ (by omega) (by omega) (by omega)]; exact g2 i x hx, fun t q1 q2 => (g3 t q1 q2).fr (fun c j _ _ => ff _ _ (by omega) (by omega) (by omega)), by rw [e4]; rfl, fun r q1 q2 => ?_, fun w q1 q2 => by rw [ff _ _ (by omega) (by omega) (by omega)]; exact g6 w q1 q2, by rw [ff _ _ (by omega) (by omega) (by omega)]; exact g7, ?_, ?_⟩
            · have q2' : r < (σ.nr : Int) + 1 := q2
              show Ct M4 (39 + 14 * r) (if r = σ.nr then σ.tr a else σ.lf r) ∧ Ct M4 (46 + 14 * r) (if r = σ.nr then σ.tr b else σ.rt r)
              by_cases hr : r = σ.nr
              · subst hr
                rw [if_pos rfl, if_pos rfl]
                exact ⟨(f3.ct (by omega) c2).fr (fun c j _ _ => f4 _ _ (by omega)), c3.fr (fun c j _ _ => f4 _ _ (by omega))⟩
              · rw [if_neg hr, if_neg hr]
                have := g5 r q1 (by omega)
                exact ⟨this.1.fr (fun c j _ _ => ff _ _ (by omega) (by omega) (by omega)), this.2.fr (fun c j _ _ => ff _ _ (by omega) (by omega) (by omega))⟩
            · rw [ff 0 11 (by omega) (by omega) (by omega), ff 0 12 (by omega) (by omega) (by omega)]
              rcases g8 with g | ⟨k1, k2, k3, k4, k5, k6, k7⟩
              · exact Or.inl g
              · exact Or.inr ⟨k1, k2, k3, k4, k5, k6, k7.fr (fun c j _ _ => ff _ _ (by omega) (by omega) (by omega))⟩
            · left
              rw [f4 _ _ (by omega), f3 _ _ (by omega), f2 _ _ (by omega), h1, mset_same]
          exact mdl M4 _ _ (hM.fr (fun c j hc => ff _ _ (by omega) (by omega) (by omega))) hI' hC' (fun q => by omega) (fun _ q => by rw [hT] at q; cases q) (fun _ _ => ⟨by omega, rfl⟩)
        · unfold rlOk at q
          rw [hnh] at q
          exact absurd (by simpa using q) hs
    · rw [if_neg hb]
      refine ⟨fun _ => un (fun g => hb ⟨g.2.1, ?_⟩), fun c => by omega⟩
      rw [(hC.2.2.1 b g.2.1.1 g.2.1.2).1.1]
      have := List.length_pos_iff.mpr g.2.2.2
      omega
  · rw [if_neg ha]
    refine ⟨fun _ => un (fun g => ha ⟨g.1, ?_⟩), fun c => by omega⟩
    rw [(hC.2.2.1 a g.1.1 g.1.2).1.1]
    have := List.length_pos_iff.mpr g.2.2.1
    omega
end OPS6
