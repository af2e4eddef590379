/-! node -/
section OPS3
variable {V : VV} {M : Mem} {Q : Int → Mem → Prop}
theorem m_node {t w : Int} {n : Nat} {σ : St} (hI : Inv σ) (hM : RelM M σ) (ht : 0 ≤ t ∧ t ≤ 5) (hn : n < (σ.tr t).length) (h : Q (if w = 0 then lb (σ.tr t) n else if w = 1 then par (σ.tr t) n else if w = 2 then plc (σ.tr t) n else if w = 3 then ar (σ.tr t) n else if w = 4 then sz (σ.tr t) n else if w = 5 then dep (σ.tr t) n else -2) M) : R_X10_node V t n w M Q := by
  have hw := (hI.2.2.1 t ht.1 ht.2).1
  have h16 := hw.1
  have hok := hw.ok hn
  have hm := hM.2.2.1 t ht.1 ht.2
  have hg := hm.2 n hn
  apply of_X10_node
  unfold wp_X10_node
  refine m_node_case hI hM (fun g => by omega) (fun n' hn' a b hlt => ⟨fun c => by omega, fun _ => ?_⟩)
  refine m_parentOf (by omega) hm hw hn ?_
  simp (disch := omega) only [w32_id]
  refine ⟨fun c => ?_, fun c => ⟨by omega, ?_⟩, fun c => ?_, fun c => ?_, fun c => ⟨by omega, ?_⟩, fun c => ?_, fun c => ?_⟩
  · rwa [if_neg (by omega), if_neg (by omega), if_neg (by omega), if_neg (by omega), if_neg (by omega), if_neg (by omega)] at h
  · rw [if_pos c] at h; rw [hg.1]; exact h
  · rw [if_neg (by omega), if_pos c] at h; exact h
  · rw [if_neg (by omega), if_neg (by omega), if_pos c] at h
    rcases Nat.eq_zero_or_pos n with rfl | h0
    · rw [par_zero]
      rw [plc_zero] at h
      unfold wp_X10_node_84
      refine ⟨fun _ _ N => N = M, fun _ _ _ => 0, rfl, ?_⟩
      rintro y5 y6 N rfl
      unfold wp_X10_node_84_b wp_X10_node_113
      exact ⟨fun _ => ⟨fun c => by omega, fun _ => h⟩, fun c => by omega⟩
    · obtain ⟨p, K, p1, p2, p3⟩ := par_ex hok hn h0
      have hp : p < (σ.tr t).length := by omega
      have e1 : par (σ.tr t) n = p := by rw [p3]; exact par_chd hok hp p2
      have e2 : plc (σ.tr t) n = K := by rw [p3]; exact plc_chd hok hp p2
      have hKa := ar_lt hok hp
      rw [e2] at h
      rw [e1, w32_id (by omega) (by omega)]
      unfold wp_X10_node_84
      refine ⟨fun a b N => N = M ∧ ∃ q : Nat, a = q ∧ b = chd (σ.tr t) p q ∧ q ≤ K, fun a _ _ => (17 - a).toNat, ⟨rfl, 0, rfl, by rw [chd_zero]; omega, by omega⟩, ?_⟩
      rintro y5 y6 N ⟨rfl, q, rfl, rfl, hq⟩
      unfold wp_X10_node_84_b wp_X10_node_113
      refine ⟨fun c => by omega, fun _ => ⟨fun d => ⟨fun _ => ?_, fun c => by omega⟩, fun d => ?_⟩⟩
      · have : q = K := by
          rcases Nat.lt_or_ge q K with g | g
          · have := (chd_inj hok hp p2 (j := q) (by omega)).mpr g
            omega
          · omega
        subst this; exact h
      · have hqK : q < K := by
          rcases Nat.lt_or_ge q K with g | g
          · exact g
          · have : q = K := by omega
            subst this; omega
        have hcl := chd_lt hok hp (show q < ar (σ.tr t) p by omega)
        have hsc := sz_end hcl
        refine m_sizeOf (by omega) hm hw hcl ?_
        rw [w32_id (by omega) (by omega), w32_id (by omega) (by omega)]
        exact ⟨⟨rfl, q + 1, by omega, by rw [chd_succ]; omega, by omega⟩, by (try dsimp only); omega⟩
  · rw [if_neg (by omega), if_neg (by omega), if_neg (by omega), if_pos c] at h
    rw [hg.2]; exact h
  · rw [if_neg (by omega), if_neg (by omega), if_neg (by omega), if_neg (by omega), if_pos c] at h
    exact m_sizeOf (by omega) hm hw hn h
  · rw [if_neg (by omega), if_neg (by omega), if_neg (by omega), if_neg (by omega), if_neg (by omega), if_pos c] at h
    exact m_depthOf (by omega) hm hw hn h
theorem op_node {t i w : Int} (hR : Rel M) : R_X9_node V t i w M (fun r1 M1 => R_X10_node V t i w M1 (fun r2 M2 => r1 = r2 ∧ Rel M2)) := by
  obtain ⟨σ, hI, hC, hM⟩ := hR
  have other : ¬ ((0 ≤ t ∧ t ≤ 5) ∧ 0 ≤ i ∧ i < (σ.tr t).length) → R_X10_node V t i w M (fun r2 M2 => -1 = r2 ∧ Rel M2) := by
    intro hx
    apply of_X10_node
    unfold wp_X10_node
    exact m_node_case hI hM (fun g => ⟨fun _ => ⟨rfl, σ, hI, hC, hM⟩, fun c => by omega⟩) (fun n hn a b hlt => by omega)
  apply of_X9_node
  unfold wp_X9_node
  apply x_treeAt
  by_cases ht : 0 ≤ t ∧ t ≤ 5
  · rw [if_pos ht]
    refine ⟨fun c => by omega, fun _ => ?_⟩
    have ct := hC.2.2.1 t ht.1 ht.2
    apply x_has
    rw [ct.1.1]
    by_cases hi : 0 ≤ i ∧ i < (σ.tr t).length
    · rw [if_pos hi]
      refine ⟨fun c => by omega, fun _ => ?_⟩
      obtain ⟨n, rfl⟩ : ∃ n : Nat, i = n := ⟨i.toNat, by omega⟩
      have hn : n < (σ.tr t).length := by omega
      have h16 := (hI.2.2.1 t ht.1 ht.2).1.1
      have hu := ct.1.2 n hn
      have hd := ct.2 n hn
      have mdl : ∀ r : Int, (r = if w = 0 then lb (σ.tr t) n else if w = 1 then par (σ.tr t) n else if w = 2 then plc (σ.tr t) n else if w = 3 then ar (σ.tr t) n else if w = 4 then sz (σ.tr t) n else if w = 5 then dep (σ.tr t) n else -2) → R_X10_node V t n w M (fun r2 M2 => r = r2 ∧ Rel M2) := by
        intro r hr
        exact m_node hI hM ht hn ⟨hr, σ, hI, hC, hM⟩
      refine ⟨fun c => mdl _ ?_, fun c => ⟨by omega, mdl _ ?_⟩, fun c => ⟨by omega, mdl _ ?_⟩, fun c => ⟨by omega, mdl _ ?_⟩, fun c => ⟨by omega, mdl _ ?_⟩, fun c => ⟨by omega, mdl _ ?_⟩, fun c => ⟨by omega, mdl _ ?_⟩⟩
      · rw [if_neg (by omega), if_neg (by omega), if_neg (by omega), if_neg (by omega), if_neg (by omega), if_neg (by omega)]
      · rw [if_pos c]; exact hu.1
      · rw [if_neg (by omega), if_pos c]; exact hd.2.1
      · rw [if_neg (by omega), if_neg (by omega), if_pos c]; exact hd.2.2.1
      · rw [if_neg (by omega), if_neg (by omega), if_neg (by omega), if_pos c]; exact hu.2
      · rw [if_neg (by omega), if_neg (by omega), if_neg (by omega), if_neg (by omega), if_pos c]; exact hd.1
      · rw [if_neg (by omega), if_neg (by omega), if_neg (by omega), if_neg (by omega), if_neg (by omega), if_pos c]; exact hd.2.2.2
    · rw [if_neg hi]
      exact ⟨fun _ => other (by omega), fun c => by omega⟩
  · rw [if_neg ht]
    exact ⟨fun _ => other (by omega), fun c => by omega⟩
end OPS3
