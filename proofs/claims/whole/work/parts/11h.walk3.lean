/-! walk -/
theorem wg_steps {lf rt : Int → T} {nr : Nat} {w : Bool} : ∀ (f : Nat) (past : List T) (t : T), (walkGo lf rt nr w f past t).2.1 ≤ past.length + f
  | 0, past, t => by simp [walkGo]
  | f + 1, past, t => by
    unfold walkGo
    split
    · simp
    · split
      · simp
      · split
        · simp
        · split
          · simp
          · refine Nat.le_trans (wg_steps f _ _) ?_
            simp; omega
theorem Wd.wk {t : T} (h : Wd t) (h0 : t ≠ []) : Wk t := ⟨h.1, h0, fun p hp => by
  rcases h.2 p hp with g | g
  · omega
  · have := isH_iff.mp g.1
    omega⟩
theorem walk_wd {lf rt : Int → T} {nr : Nat} {w : Bool} {t : T} (hr : ∀ r : Int, 0 ≤ r → r < nr → Wr (lf r) (rt r)) (h : Wd t) (h0 : t ≠ []) : Wd (walkF lf rt nr w t).2.2 := by
  unfold walkF
  refine (walk_keeps (P := fun t => Wd t ∧ t ≠ []) (fun t i r env hp he hl => ?_) 101 [] t ⟨h, h0⟩).1
  obtain ⟨hi, hrr, hfit⟩ := ff_spec he
  have wr := hr r (by omega) (by omega)
  obtain ⟨M, hb⟩ := fit_rtb wr (hp.1.1.ok hi) hi hfit
  have hok := ok_done (hp.1.1.ok hi) (wr.2.1.1.ok (List.length_pos_iff.mpr wr.2.2.2.1)) hi hb
  exact ⟨hp.1.done wr.2.1 hi hb hl hok, ((hp.1.wk hp.2).done wr hi hfit hl).2.1⟩
section WALK3
variable {V : VV} {M : Mem} {Q : Int → Mem → Prop}
theorem op_walk {t w : Int} (hR : Rel M) : R_X9_walk V t w M (fun r1 M1 => R_X10_walk V t w M1 (fun r2 M2 => r1 = r2 ∧ Rel M2)) := by
  obtain ⟨σ, hI, hC, hM⟩ := hR
  have hnr := hI.2.2.2.1
  have un : ¬ ((0 ≤ t ∧ t ≤ 5) ∧ 0 < (σ.tr t).length) → R_X10_walk V t w M (fun r2 M2 => -1 = r2 ∧ Rel M2) := by
    intro hx
    apply of_X10_walk
    unfold wp_X10_walk
    apply m_isTree
    by_cases ht : 0 ≤ t ∧ t ≤ 5
    · rw [if_pos ht, (hM.2.2.1 t ht.1 ht.2).1]
      exact ⟨fun c => by omega, fun _ => ⟨by omega, fun _ => ⟨rfl, σ, hI, hC, hM⟩, fun c => by omega⟩⟩
    · rw [if_neg ht]
      exact ⟨fun _ => ⟨rfl, σ, hI, hC, hM⟩, fun c => by omega⟩
  apply of_X9_walk
  unfold wp_X9_walk
  apply x_filledAt
  by_cases ha : (0 ≤ t ∧ t ≤ 5) ∧ 0 < M (161 + 7 * t) 0
  · rw [if_pos ha]
    have ht := ha.1
    have ct := hC.2.2.1 t ht.1 ht.2
    have hpos : 0 < (σ.tr t).length := by have := ct.1.1; omega
    have hne : σ.tr t ≠ [] := List.length_pos_iff.mp hpos
    have wd := hI.2.2.1 t ht.1 ht.2
    have h16 := wd.1.1
    refine ⟨fun c => by omega, fun _ => ?_⟩
    refine x_holeCount ct.1 h16 ?_
    refine ⟨fun c => ?_, fun c => ?_⟩
    · have hpl : plain (σ.tr t) = true := (plain_iff _).mpr (by omega)
      refine x_copyAll ct h16 (by omega) (fun M1 c1 f1 => ?_)
      have hrr : ∀ r : Int, 0 ≤ r → r < σ.nr → Wr (σ.lf r) (σ.rt r) := hI.2.2.2.2.1
      have wkt := wd.wk hne
      have wd' := walk_wd (w := decide (w ≠ 0)) hrr wd hne
      have hst := wg_steps (lf := σ.lf) (rt := σ.rt) (nr := σ.nr) (w := decide (w ≠ 0)) 101 [] (σ.tr t)
      refine x_run (lf := σ.lf) (rt := σ.rt) rfl (by rw [f1 _ _ (by omega)]; exact hC.2.2.2.1) hnr (by omega) (fun r a d => ?_) c1 wkt (fun M3 c3 d3 f3 => ?_)
      · have := hC.2.2.2.2.1 r a d
        exact ⟨f1.cu (by omega) this.1.1, f1.cu (by omega) this.2.1, hrr r a d⟩
      · generalize hwk : walkF σ.lf σ.rt σ.nr (decide (w ≠ 0)) (σ.tr t) = W at *
        have hst' : W.2.1 ≤ 101 := by
          have : walkGo σ.lf σ.rt σ.nr (decide (w ≠ 0)) 101 [] (σ.tr t) = W := hwk
          rw [this] at hst
          simpa using hst
        intro M4 h4
        rw [d3] at h4
        have f4 : ∀ c j : Int, ¬ (c = 0 ∧ j = 10) → M4 c j = M3 c j := fun c j a => by rw [h4]; exact if_neg a
        have c4 : Ct M4 4 W.2.2 := c3.fr (fun c j _ _ => f4 _ _ (by omega))
        refine x_become ht c4 wd'.1.1 (fun M5 c5 k5 f5 => ?_)
        have hM5 : RelM M5 σ := hM.fr (fun c j hc => by rw [f5 _ _ (by omega) (by omega), f4 _ _ (by omega), f3 _ _ (by omega) (by omega) (by omega), f1 _ _ (by omega)])
        let σ' : St := (σ.pad, fun u => if u = t then W.2.2 else σ.tr u, σ.lf, σ.rt, σ.nr, σ.pr, (W.2.1 : Int))
        have hI' : Inv σ' := ⟨hI.1, hI.2.1, fun u a b => by
          show Wd (if u = t then W.2.2 else σ.tr u)
          split
          · exact wd'
          · exact hI.2.2.1 u a b, hI.2.2.2.1, hI.2.2.2.2.1, hI.2.2.2.2.2.1, by show ir (W.2.1 : Int); unfold ir; omega⟩
        have hC5 : RelC M5 σ' := by
          refine hC.chg hI _ σ.pr _ (fun u a b => ?_) (fun k a b => ?_) ?_ k5 (fun c j a => by rw [f5 _ _ (by omega) (by omega), f4 _ _ (by omega), f3 _ _ (by omega) (by omega) (by omega), f1 _ _ (by omega)])
          · show Ct M5 (161 + 7 * u) (if u = t then W.2.2 else σ.tr u)
            by_cases e : u = t
            · rw [if_pos e, e]; exact c5
            · rw [if_neg e]
              exact (hC.2.2.1 u a b).fr (fun c j _ _ => by rw [f5 _ _ (by omega) (by omega), f4 _ _ (by omega), f3 _ _ (by omega) (by omega) (by omega), f1 _ _ (by omega)])
          · rw [f5 _ _ (by omega) (by omega), f4 _ _ (by omega), f3 _ _ (by omega) (by omega) (by omega), f1 _ _ (by omega)]; exact hC.2.2.2.2.2.1 k a b
          · rw [f5 _ _ (by omega) (by omega), h4, mset_same]
        apply of_X10_walk
        unfold wp_X10_walk
        apply m_isTree
        have mt := hM5.2.2.1 t ht.1 ht.2
        rw [if_pos ht, mt.1]
        refine ⟨fun c => by omega, fun _ => ⟨by omega, fun c => by omega, fun _ => ?_⟩⟩
        refine m_isPlain (by omega) mt wd.1 ?_
        rw [if_pos hpl]
        refine ⟨fun c => by omega, fun _ => ?_⟩
        refine m_walkTree (lf := σ.lf) (rt := σ.rt) rfl hM5.2.2.2.1 hnr (Or.inl ht) (fun r a d => ⟨(hM5.2.2.2.2.1 r a d).1, (hM5.2.2.2.2.1 r a d).2, hrr r a d⟩) mt wkt (fun M7 m7 d7 f7 => ?_)
        rw [hwk] at m7 d7 ⊢
        have f8 : ∀ c j : Int, ¬ (c = 203 ∧ j = 7) → mset M7 203 7 (M7 203 37) c j = M7 c j := fun c j a => if_neg a
        refine ⟨rfl, σ', hI', hC5.fr hI' (fun c j hc => by rw [f8 _ _ (by omega), f7 _ _ (by omega) (by omega) (by omega) (by omega) (by omega)]), ?_⟩
        refine hM5.chg hI _ σ.pr _ (fun u a b => ?_) (fun k a b => ?_) ?_ (fun c j a => by rw [f8 _ _ (by omega), f7 _ _ (by omega) (by omega) (by omega) (by omega) (by omega)])
        · show Mt _ u (if u = t then W.2.2 else σ.tr u)
          by_cases e : u = t
          · rw [if_pos e, e]
            exact ⟨by rw [f8 _ _ (by omega)]; exact m7.1, fun i hi => by rw [f8 _ _ (by omega), f8 _ _ (by omega)]; exact m7.2 i hi⟩
          · rw [if_neg e]
            have m7' := f7.mt (y := u) e (by omega) (hI.2.2.1 u a b).1.1 (hM5.2.2.1 u a b)
            exact ⟨by rw [f8 _ _ (by omega)]; exact m7'.1, fun i hi => by rw [f8 _ _ (by omega), f8 _ _ (by omega)]; exact m7'.2 i hi⟩
        · rw [f8 _ _ (by omega), f7 _ _ (by omega) (by omega) (by omega) (by omega) (by omega)]; exact hM5.2.2.2.2.2.1 k a b
        · rw [mset_same, d7]
    · apply of_X10_walk
      unfold wp_X10_walk
      apply m_isTree
      have mt := hM.2.2.1 t ht.1 ht.2
      rw [if_pos ht, mt.1]
      refine ⟨fun c => by omega, fun _ => ⟨by omega, fun c => by omega, fun _ => ?_⟩⟩
      refine m_isPlain (by omega) mt wd.1 ?_
      rw [if_neg (fun q => c (by rw [(plain_iff _).mp q]; omega))]
      exact ⟨fun _ => ⟨rfl, σ, hI, hC, hM⟩, fun c => by omega⟩
  · rw [if_neg ha]
    refine ⟨fun _ => un (fun g => ha ⟨g.1, ?_⟩), fun c => by omega⟩
    rw [(hC.2.2.1 t g.1.1 g.1.2).1.1]; omega
end WALK3
