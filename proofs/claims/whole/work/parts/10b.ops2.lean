/-! trees of the state: take, alike, node -/
def trSet (σ : St) (u : Int) (r : T) : St := (σ.pad, fun t => if t = u then r else σ.tr t, σ.lf, σ.rt, σ.nr, σ.pr, σ.wk)
theorem Inv.tree {σ : St} (h : Inv σ) (u : Int) {r : T} (hr : Wd r) : Inv (trSet σ u r) := ⟨h.1, h.2.1, fun t a b => by
  show Wd (if t = u then r else σ.tr t)
  split
  · exact hr
  · exact h.2.2.1 t a b, h.2.2.2⟩
theorem RelC.tree {M M' : Mem} {σ : St} (h : RelC M σ) (hi : Inv σ) {u : Int} {r : T} (hu : 0 ≤ u ∧ u ≤ 5) (hr : Ct M' (161 + 7 * u) r) (hk : M' 0 11 = -1) (hf : ∀ c j, cor c j → ¬ (161 + 7 * u ≤ c ∧ c ≤ 167 + 7 * u) → ¬ (c = 0 ∧ (j = 11 ∨ j = 12)) → ¬ (14 ≤ c ∧ c ≤ 22) → c ≠ 12 → M' c j = M c j) : RelC M' (trSet σ u r) := by
  unfold cor at hf
  refine h.chg hi _ σ.pr σ.wk (fun t a b => ?_) (fun w a b => ?_) ?_ hk (fun c j a => hf _ _ (by omega) (by omega) (by omega) (by omega) (by omega))
  · show Ct M' (161 + 7 * t) (if t = u then r else σ.tr t)
    by_cases htu : t = u
    · rw [if_pos htu, htu]; exact hr
    · rw [if_neg htu]
      exact (h.2.2.1 t a b).fr (fun c j _ _ => hf _ _ (by omega) (by omega) (by omega) (by omega) (by omega))
  · rw [hf _ _ (by omega) (by omega) (by omega) (by omega) (by omega)]; exact h.2.2.2.2.2.1 w a b
  · rw [hf _ _ (by omega) (by omega) (by omega) (by omega) (by omega)]; exact h.2.2.2.2.2.2.1
theorem RelM.tree {M M' : Mem} {σ : St} (h : RelM M σ) (hi : Inv σ) {u : Int} {r : T} (hu : 0 ≤ u ∧ u ≤ 5) (hr : Mt M' u r) (hf : ∀ c j, corM c j → ¬ (c = 204 ∧ j = u) → ¬ ((c = 205 ∨ c = 206) ∧ 32 * u ≤ j ∧ j < 32 * u + 32) → M' c j = M c j) : RelM M' (trSet σ u r) := by
  unfold corM at hf
  refine h.chg hi _ σ.pr σ.wk (fun t a b => ?_) (fun w a b => ?_) ?_ (fun c j a => hf _ _ (by omega) (by omega) (by omega))
  · show Mt M' t (if t = u then r else σ.tr t)
    by_cases htu : t = u
    · rw [if_pos htu, htu]; exact hr
    · rw [if_neg htu]
      have hm := h.2.2.1 t a b
      have hl := (hi.2.2.1 t a b).1.1
      exact ⟨by rw [hf _ _ (by omega) (by omega) (by omega)]; exact hm.1, fun i hi => by rw [hf _ _ (by omega) (by omega) (by omega), hf _ _ (by omega) (by omega) (by omega)]; exact hm.2 i hi⟩
  · rw [hf _ _ (by omega) (by omega) (by omega)]; exact h.2.2.2.2.2.1 w a b
  · rw [hf _ _ (by omega) (by omega) (by omega)]; exact h.2.2.2.2.2.2
theorem Wd.sub {t : T} (h : Wd t) {i : Nat} (hi : i < t.length) : Wd (sub t i) := ⟨h.1.sub hi, fun p hp => h.2 p (List.mem_of_mem_drop (List.mem_of_mem_take hp))⟩
section OPS2
variable {V : VV} {M : Mem} {Q : Int → Mem → Prop}
theorem x_treeAt {t : Int} (h : Q (if 0 ≤ t ∧ t ≤ 5 then 161 + 7 * t else -1) M) : R_X9_treeAt V t M Q := by
  apply of_X9_treeAt
  unfold wp_X9_treeAt
  refine ⟨fun c => ?_, fun c => ⟨fun d => ?_, fun d => ⟨by omega, ?_⟩⟩⟩
  · rwa [if_neg (by omega)] at h
  · rwa [if_neg (by omega)] at h
  · rwa [if_pos (by omega)] at h
theorem x_filledAt {t : Int} (h : Q (if (0 ≤ t ∧ t ≤ 5) ∧ 0 < M (161 + 7 * t) 0 then 161 + 7 * t else -1) M) : R_X9_filledAt V t M Q := by
  apply of_X9_filledAt
  unfold wp_X9_filledAt
  apply x_treeAt
  by_cases ht : 0 ≤ t ∧ t ≤ 5
  · rw [if_pos ht]
    refine ⟨fun c => by omega, fun _ => ⟨fun d => ?_, fun d => ?_⟩⟩
    · rwa [if_neg (by omega)] at h
    · rwa [if_pos (by omega)] at h
  · rw [if_neg ht]
    rw [if_neg (by omega)] at h
    exact ⟨fun _ => h, fun c => by omega⟩
theorem x_become {u : Int} {r : T} (hu : 0 ≤ u ∧ u ≤ 5) (hc : Ct M 4 r) (h16 : r.length ≤ 16) (h : ∀ M', Ct M' (161 + 7 * u) r → M' 0 11 = -1 → (∀ c j, ¬ (161 + 7 * u ≤ c ∧ c ≤ 167 + 7 * u) → ¬ (c = 0 ∧ (j = 11 ∨ j = 12)) → M' c j = M c j) → Q r.length M') : R_X9_become V u 4 M Q := by
  apply of_X9_become
  unfold wp_X9_become
  apply x_treeAt
  rw [if_pos hu]
  refine ⟨fun c => by omega, fun _ => ?_⟩
  refine x_copyAll hc h16 (by omega) (fun M1 c1 f1 => ?_)
  refine x_forget (fun M2 k2 f2 => ?_)
  have c2 : Ct M2 (161 + 7 * u) r := c1.fr (fun c j _ _ => f2 _ _ (by omega))
  rw [c2.1.1]
  refine h M2 c2 k2 (fun c j a b => ?_)
  rw [f2 _ _ b, f1 _ _ (by omega)]
theorem m_node_case {t i : Int} {σ : St} (hI : Inv σ) (hM : RelM M σ) (h1 : ¬ ((0 ≤ t ∧ t ≤ 5) ∧ 0 ≤ i ∧ i < (σ.tr t).length) → Q 0 M) (h2 : ∀ n : Nat, i = n → 0 ≤ t → t ≤ 5 → n < (σ.tr t).length → Q 1 M) : R_X10_isNode V t i M Q := by
  refine m_isNode (fun a b => ?_) ?_
  · have := (hM.2.2.1 t a b).1
    have := (hI.2.2.1 t a b).1.1
    omega
  · by_cases ht : 0 ≤ t ∧ t ≤ 5
    · have hm := (hM.2.2.1 t ht.1 ht.2).1
      rw [hm]
      by_cases hi : 0 ≤ i ∧ i < (σ.tr t).length
      · rw [if_pos ⟨ht, hi⟩]
        exact h2 i.toNat (by omega) ht.1 ht.2 (by omega)
      · rw [if_neg (by omega)]
        exact h1 (by omega)
    · rw [if_neg (by omega)]
      exact h1 (by omega)
theorem op_take {t i u : Int} (hR : Rel M) : R_X9_take V t i u M (fun r1 M1 => R_X10_take V t i u M1 (fun r2 M2 => r1 = r2 ∧ Rel M2)) := by
  obtain ⟨σ, hI, hC, hM⟩ := hR
  have other : ¬ (((0 ≤ t ∧ t ≤ 5) ∧ 0 ≤ i ∧ i < (σ.tr t).length) ∧ (0 ≤ u ∧ u ≤ 5)) → R_X10_take V t i u M (fun r2 M2 => -1 = r2 ∧ Rel M2) := by
    intro hx
    apply of_X10_take
    unfold wp_X10_take
    refine m_node_case hI hM (fun g => ⟨fun _ => ⟨rfl, σ, hI, hC, hM⟩, fun c => by omega⟩) (fun n hn a b hlt => ⟨fun c => by omega, fun _ => ?_⟩)
    apply m_isTree
    rw [if_neg (by omega)]
    exact ⟨fun _ => ⟨rfl, σ, hI, hC, hM⟩, fun c => by omega⟩
  apply of_X9_take
  unfold wp_X9_take
  apply x_treeAt
  by_cases ht : 0 ≤ t ∧ t ≤ 5
  · rw [if_pos ht]
    refine ⟨fun c => by omega, fun _ => ?_⟩
    apply x_has
    have hct := hC.2.2.1 t ht.1 ht.2
    rw [hct.1.1]
    by_cases hi : 0 ≤ i ∧ i < (σ.tr t).length
    · rw [if_pos hi]
      refine ⟨fun c => by omega, fun _ => ?_⟩
      apply x_treeAt
      by_cases hu : 0 ≤ u ∧ u ≤ 5
      · rw [if_pos hu]
        refine ⟨fun c => by omega, fun _ => ?_⟩
        obtain ⟨n, rfl⟩ : ∃ n : Nat, i = n := ⟨i.toNat, by omega⟩
        have hn : n < (σ.tr t).length := by omega
        have hwd := hI.2.2.1 t ht.1 ht.2
        have hse := sz_end hn
        have h16 := hwd.1.1
        refine x_copyPart hct hwd.1 hn (by omega) (fun M1 c1 f1 => ?_)
        have hl : (sub (σ.tr t) n).length ≤ 16 := by rw [sub_len]; omega
        refine x_become hu c1 hl (fun M2 c2 k2 f2 => ?_)
        have hI' : Inv (trSet σ u (sub (σ.tr t) n)) := hI.tree u (hwd.sub hn)
        have hC2 : RelC M2 (trSet σ u (sub (σ.tr t) n)) := by
          refine hC.tree hI hu c2 k2 (fun c j a b d _ _ => ?_)
          unfold cor at a
          rw [f2 _ _ b d, f1 _ _ (by omega)]
        have f12 : ∀ c j, 203 ≤ c → M2 c j = M c j := fun c j hc => by rw [f2 _ _ (by omega) (by omega), f1 _ _ (by omega)]
        have hM2 : RelM M2 σ := hM.fr f12
        apply of_X10_take
        unfold wp_X10_take
        refine m_node_case hI hM2 (fun g => absurd ⟨ht, hi⟩ g) (fun m hm a b hlt => ⟨fun c => by omega, fun _ => ?_⟩)
        have : m = n := by omega
        subst this
        apply m_isTree
        rw [if_pos hu]
        refine ⟨fun c => by omega, fun _ => ?_⟩
        have hmt := hM2.2.2.1 t ht.1 ht.2
        refine m_sizeOf (by omega) hmt hwd.1 hn ?_
        refine m_copy (by omega) (by omega) (by omega) (by omega) (fun M3 s3 n3 e3 => ?_)
        refine m_copy (x := 18) (i := 0) (by omega) (by omega) (by omega) (by omega) (fun M4 s4 n4 e4 => ?_)
        refine ⟨by rw [sub_len], _, hI', ?_, ?_⟩
        · exact hC2.fr hI' (fun c j hc => by rw [s4 _ _ (by omega) (by omega), s3 _ _ (by omega) (by omega)])
        · refine hM2.tree hI hu ⟨by rw [n4, sub_len], fun j hj => ?_⟩ (fun c j a b d => ?_)
          · rw [sub_len] at hj
            have e := e4 j hj
            have e' := e3 j hj
            rw [show (32 * 18 + (0 : Nat) + (j : Int) : Int) = 32 * 18 + j by omega] at e
            have hg := hmt.2 (m + j) (by omega)
            rw [show 32 * t + ((m + j : Nat) : Int) = 32 * t + m + j by omega] at hg
            rw [e.1, e.2, e'.1, e'.2, (lb_sub hj hn).1, (lb_sub hj hn).2]
            exact hg
          · unfold corM at a
            rw [s4 _ _ b d, s3 _ _ (by omega) (by omega)]
      · rw [if_neg hu]
        exact ⟨fun _ => other (by omega), fun c => by omega⟩
    · rw [if_neg hi]
      exact ⟨fun _ => other (by omega), fun c => by omega⟩
  · rw [if_neg ht]
    exact ⟨fun _ => other (by omega), fun c => by omega⟩
theorem op_alike {s i t k : Int} (hR : Rel M) : R_X9_alike V s i t k M (fun r1 M1 => R_X10_alike V s i t k M1 (fun r2 M2 => r1 = r2 ∧ Rel M2)) := by
  obtain ⟨σ, hI, hC, hM⟩ := hR
  have other : ¬ (((0 ≤ s ∧ s ≤ 5) ∧ 0 ≤ i ∧ i < (σ.tr s).length) ∧ ((0 ≤ t ∧ t ≤ 5) ∧ 0 ≤ k ∧ k < (σ.tr t).length)) → R_X10_alike V s i t k M (fun r2 M2 => -1 = r2 ∧ Rel M2) := by
    intro hx
    apply of_X10_alike
    unfold wp_X10_alike
    refine m_node_case hI hM (fun g => ⟨fun _ => ⟨rfl, σ, hI, hC, hM⟩, fun c => by omega⟩) (fun n hn a b hlt => ⟨fun c => by omega, fun _ => ?_⟩)
    exact m_node_case hI hM (fun g => ⟨fun _ => ⟨rfl, σ, hI, hC, hM⟩, fun c => by omega⟩) (fun n' hn' a' b' hlt' => by omega)
  apply of_X9_alike
  unfold wp_X9_alike
  apply x_treeAt
  apply x_treeAt
  by_cases hs : 0 ≤ s ∧ s ≤ 5
  · rw [if_pos hs]
    refine ⟨fun c => by omega, fun _ => ?_⟩
    by_cases ht : 0 ≤ t ∧ t ≤ 5
    · rw [if_pos ht]
      refine ⟨fun c => by omega, fun _ => ?_⟩
      have cs := hC.2.2.1 s hs.1 hs.2
      have ct := hC.2.2.1 t ht.1 ht.2
      apply x_has
      rw [cs.1.1]
      by_cases hi : 0 ≤ i ∧ i < (σ.tr s).length
      · rw [if_pos hi]
        refine ⟨fun c => by omega, fun _ => ?_⟩
        apply x_has
        rw [ct.1.1]
        by_cases hk : 0 ≤ k ∧ k < (σ.tr t).length
        · rw [if_pos hk]
          refine ⟨fun c => by omega, fun _ => ?_⟩
          obtain ⟨n, rfl⟩ : ∃ n : Nat, i = n := ⟨i.toNat, by omega⟩
          obtain ⟨m, rfl⟩ : ∃ n : Nat, k = n := ⟨k.toNat, by omega⟩
          have ws := (hI.2.2.1 s hs.1 hs.2).1
          have wt := (hI.2.2.1 t ht.1 ht.2).1
          have hn : n < (σ.tr s).length := by omega
          have hm : m < (σ.tr t).length := by omega
          have mdl : ∀ r : Int, (r = if sub (σ.tr s) n = sub (σ.tr t) m then 1 else 0) → R_X10_alike V s n t m M (fun r2 M2 => r = r2 ∧ Rel M2) := by
            intro r hr
            apply of_X10_alike
            unfold wp_X10_alike
            refine m_node_case hI hM (fun g => absurd ⟨hs, hi⟩ g) (fun n' hn' a b hlt => ⟨fun c => by omega, fun _ => ?_⟩)
            refine m_node_case hI hM (fun g => absurd ⟨ht, hk⟩ g) (fun m' hm' a b hlt => ⟨fun c => by omega, fun _ => ?_⟩)
            refine m_same (by omega) (by omega) (hM.2.2.1 s hs.1 hs.2) (hM.2.2.1 t ht.1 ht.2) ws wt hn hm ?_
            rw [← hr]
            refine ⟨fun c => ⟨c, σ, hI, hC, hM⟩, fun c => ⟨?_, σ, hI, hC, hM⟩⟩
            rw [hr] at c ⊢
            split at c <;> simp_all
          refine x_isAs cs.1 ct.1 (cs.2 n hn).1 (ct.2 m hm).1 ws.1 wt.1 hn hm ?_
          refine ⟨fun c => mdl 0 c.symm, fun c => mdl 1 ?_⟩
          split at c
          · rename_i g; rw [if_pos g]
          · exact absurd rfl c
        · rw [if_neg hk]
          exact ⟨fun _ => other (by omega), fun c => by omega⟩
      · rw [if_neg hi]
        exact ⟨fun _ => other (by omega), fun c => by omega⟩
    · rw [if_neg ht]
      exact ⟨fun _ => other (by omega), fun c => by omega⟩
  · rw [if_neg hs]
    exact ⟨fun _ => other (by omega), fun c => by omega⟩
end OPS2
