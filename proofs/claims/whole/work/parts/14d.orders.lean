/-! orders -/
section LEAST2
variable {V : VV} {M : Mem} {Q : Int → Mem → Prop}
/-- one tree's order laid in rows b0, b1, b2 -/
def OL (N : Mem) (b1 b2 : Int) (t : T) (k : Nat) : Prop := ∀ i : Nat, i < k → N b1 ((t.length : Int) - rp t i) = i ∧ N b2 ((t.length : Int) - rp t i) = (t.length : Int) - rp t i - sz t i + 1
theorem OL.all {N : Mem} {b1 b2 : Int} {t : T} (h : OL N b1 b2 t t.length) : ∀ r : Nat, r < t.length → N b1 ((t.length : Int) - r) = nu t r ∧ N b2 ((t.length : Int) - r) = (t.length : Int) - r - zm t r + 1 := by
  intro r hr
  obtain ⟨a1, a2⟩ := nu_spec hr
  have := h (nu t r) a1
  rw [a2] at this
  exact this
theorem OL.step {N N1 N2 N3 : Mem} {b0 b1 b2 : Int} {t : T} {k : Nat} (hb : b0 ≠ b1 ∧ b0 ≠ b2 ∧ b1 ≠ b2) (hk : k < t.length) (h : OL N b1 b2 t k) (e1 : N1 = mset N b0 k ((t.length : Int) - rp t k)) (e2 : N2 = mset N1 b1 ((t.length : Int) - rp t k) k) (e3 : N3 = mset N2 b2 ((t.length : Int) - rp t k) ((t.length : Int) - rp t k - sz t k + 1)) : OL N3 b1 b2 t (k + 1) := by
  intro i hi
  by_cases e : i = k
  · subst e
    rw [e3, mset_same, mset_cell _ hb.2.2, e2, mset_same]
    exact ⟨rfl, rfl⟩
  · have hne : rp t i ≠ rp t k := fun q => e (rp_inj (by omega) hk q)
    rw [e3, mset_idx _ _ _ (by omega), mset_idx _ _ _ (by omega), e2, mset_idx _ _ _ (by omega), mset_idx _ _ _ (by omega), e1, mset_cell _ (by omega), mset_cell _ (by omega)]
    exact h i (by omega)
theorem post_rp {t : T} {i : Nat} (hi : i < t.length) : ((i : Int) + sz t i - dep t i) = (t.length : Int) - rp t i ∧ 1 ≤ (t.length : Int) - rp t i ∧ (t.length : Int) - rp t i ≤ t.length := by
  have p := post_lt hi
  have z := sz_pos hi
  have d := dep_le t i
  unfold rp
  unfold postI at p ⊢
  omega
theorem m_layOrders {x y : Int} {s t : T} (hx : 0 ≤ x ∧ x ≤ 5) (hy : 0 ≤ y ∧ y ≤ 5) (ms : Mt M x s) (mt : Mt M y t) (ws : Wt s) (wt : Wt t)
    (q : ∀ M', OM M' s t → (∀ c j, ¬ (c = 203 ∧ (j = 10 ∨ j = 11)) → ¬ (210 ≤ c ∧ c ≤ 213) → c ≠ 216 → c ≠ 217 → M' c j = M c j) → Q 0 M') : R_X10_layOrders V x y M Q := by
  have s16 := ws.1
  have t16 := wt.1
  apply of_X10_layOrders
  unfold wp_X10_layOrders
  refine ⟨by omega, ?_⟩
  intro M1 h1
  have f1 : ∀ c j, ¬ (c = 203 ∧ j = 10) → M1 c j = M c j := fun c j a => by rw [h1]; exact if_neg a
  refine ⟨by omega, ?_⟩
  rw [f1 _ _ (by omega), mt.1]
  rw [ms.1] at h1
  generalize hM2 : mset M1 203 11 (t.length : Int) = M2
  have f2 : ∀ c j, ¬ (c = 203 ∧ (j = 10 ∨ j = 11)) → M2 c j = M c j := fun c j a => by
    rw [← hM2, show mset M1 203 11 (t.length : Int) c j = M1 c j from if_neg (by omega), f1 _ _ (by omega)]
  have v10 : M2 203 10 = s.length := by rw [← hM2, mset_idx _ _ _ (by omega), h1, mset_same]
  have v11 : M2 203 11 = t.length := by rw [← hM2, mset_same]
  clear hM2 h1 f1
  unfold wp_X10_layOrders_22
  refine ⟨fun z N => ∃ k : Nat, z = k ∧ k ≤ s.length ∧ OL N 216 212 s k ∧ (∀ c j, c ≠ 210 → c ≠ 212 → c ≠ 216 → N c j = M2 c j), fun z _ => (17 - z).toNat, ⟨0, rfl, by omega, fun i hi => by omega, fun _ _ _ _ _ => rfl⟩, ?_⟩
  rintro z N ⟨k, rfl, hk, hO, hN⟩
  have mtF : ∀ {N : Mem} {u : Int} {w : T}, (∀ c j, ¬ (c = 203 ∧ (j = 10 ∨ j = 11)) → ¬ (210 ≤ c ∧ c ≤ 213) → c ≠ 216 → c ≠ 217 → N c j = M c j) → Mt M u w → Mt N u w := fun f hm => ⟨by rw [f _ _ (by omega) (by omega) (by omega) (by omega)]; exact hm.1, fun i hi => by rw [f _ _ (by omega) (by omega) (by omega) (by omega), f _ _ (by omega) (by omega) (by omega) (by omega)]; exact hm.2 i hi⟩
  have msN : Mt N x s := mtF (fun c j a b d e => by rw [hN _ _ (by omega) (by omega) d, f2 _ _ a]) ms
  unfold wp_X10_layOrders_22_b
  rw [hN 203 10 (by omega) (by omega) (by omega), v10]
  refine ⟨fun c => ?_, fun c => ?_⟩
  · have hks : k = s.length := by omega
    subst hks
    clear c
    unfold wp_X10_layOrders_97
    refine ⟨fun z P => ∃ k : Nat, z = k ∧ k ≤ t.length ∧ OL P 217 213 t k ∧ (∀ c j, c ≠ 211 → c ≠ 213 → c ≠ 217 → P c j = N c j), fun z _ => (17 - z).toNat, ⟨0, rfl, by omega, fun i hi => by omega, fun _ _ _ _ _ => rfl⟩, ?_⟩
    rintro z P ⟨k, rfl, hk, hO', hP⟩
    have mtP : Mt P y t := mtF (fun c j a b d e => by rw [hP _ _ (by omega) (by omega) e, hN _ _ (by omega) (by omega) d, f2 _ _ a]) mt
    unfold wp_X10_layOrders_97_b
    rw [hP 203 11 (by omega) (by omega) (by omega), hN 203 11 (by omega) (by omega) (by omega), v11]
    refine ⟨fun c => ?_, fun c => ?_⟩
    · have hkt : k = t.length := by omega
      subst hkt
      refine q P ⟨?_, ?_, fun r hr => ?_, hO'.all⟩ (fun c j a b d e => by rw [hP _ _ (by omega) (by omega) e, hN _ _ (by omega) (by omega) d, f2 _ _ a])
      · rw [hP _ _ (by omega) (by omega) (by omega), hN _ _ (by omega) (by omega) (by omega)]; exact v10
      · rw [hP _ _ (by omega) (by omega) (by omega), hN _ _ (by omega) (by omega) (by omega)]; exact v11
      · rw [hP _ _ (by omega) (by omega) (by omega), hP _ _ (by omega) (by omega) (by omega)]; exact hO.all r hr
    · have hkt : k < t.length := by omega
      have hse := sz_end hkt
      have hd := dep_le t k
      obtain ⟨e1, e2, e3⟩ := post_rp hkt
      refine m_sizeOf (by omega) mtP wt hkt ?_
      refine m_depthOf (by omega) mtP wt hkt ?_
      rw [w32_id (x := (k : Int) + sz t k) (by omega) (by omega), w32_id (x := (k : Int) + sz t k - dep t k) (by omega) (by omega), e1]
      refine ⟨by omega, ?_⟩
      intro M6 h6
      have g6 : M6 211 k = (t.length : Int) - rp t k := by rw [h6, mset_same]
      rw [g6]
      refine ⟨by omega, by omega, ?_⟩
      intro M7 h7
      have g7 : M7 211 k = (t.length : Int) - rp t k := by rw [h7, mset_cell _ (by omega)]; exact g6
      rw [g7]
      refine ⟨by omega, by omega, ?_⟩
      have mt7 : Mt M7 y t := mtF (fun c j a b d e => by rw [h7, mset_cell _ e, h6, mset_cell _ (by omega), hP _ _ (by omega) (by omega) e, hN _ _ (by omega) (by omega) d, f2 _ _ a]) mt
      refine m_sizeOf (by omega) mt7 wt hkt ?_
      refine ⟨by omega, ?_⟩
      rw [w32_id (x := _ - (sz t k : Int)) (by omega) (by omega), w32_id (x := _ - (sz t k : Int) + 1) (by omega) (by omega), w_succ (by omega)]
      refine ⟨⟨k + 1, by omega, by omega, OL.step (b0 := 211) (by omega) hkt hO' h6 h7 rfl, fun c j a b d => by rw [mset_cell _ b, h7, mset_cell _ d, h6, mset_cell _ a]; exact hP c j a b d⟩, by (try dsimp only); omega⟩
  · have hks : k < s.length := by omega
    have hse := sz_end hks
    have hd := dep_le s k
    obtain ⟨e1, e2, e3⟩ := post_rp hks
    refine m_sizeOf (by omega) msN ws hks ?_
    refine m_depthOf (by omega) msN ws hks ?_
    rw [w32_id (x := (k : Int) + sz s k) (by omega) (by omega), w32_id (x := (k : Int) + sz s k - dep s k) (by omega) (by omega), e1]
    refine ⟨by omega, ?_⟩
    intro M6 h6
    have g6 : M6 210 k = (s.length : Int) - rp s k := by rw [h6, mset_same]
    rw [g6]
    refine ⟨by omega, by omega, ?_⟩
    intro M7 h7
    have g7 : M7 210 k = (s.length : Int) - rp s k := by rw [h7, mset_cell _ (by omega)]; exact g6
    rw [g7]
    refine ⟨by omega, by omega, ?_⟩
    have ms7 : Mt M7 x s := mtF (fun c j a b d e => by rw [h7, mset_cell _ d, h6, mset_cell _ (by omega), hN _ _ (by omega) (by omega) d, f2 _ _ a]) ms
    refine m_sizeOf (by omega) ms7 ws hks ?_
    refine ⟨by omega, ?_⟩
    rw [w32_id (x := _ - (sz s k : Int)) (by omega) (by omega), w32_id (x := _ - (sz s k : Int) + 1) (by omega) (by omega), w_succ (by omega)]
    refine ⟨⟨k + 1, by omega, by omega, OL.step (b0 := 210) (by omega) hks hO h6 h7 rfl, fun c j a b d => by rw [mset_cell _ b, h7, mset_cell _ d, h6, mset_cell _ a]; exact hN c j a b d⟩, by (try dsimp only); omega⟩
end LEAST2
