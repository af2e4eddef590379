/-! the reference's trees in memory -/
def Mt (M : Mem) (x : Int) (t : T) : Prop := M 204 x = t.length ∧ ∀ i : Nat, i < t.length → M 205 (32 * x + i) = lb t i ∧ M 206 (32 * x + i) = ar t i
section MOD1
variable {V : VV} {M : Mem} {Q : Int → Mem → Prop}
theorem m_in {v lo hi : Int} (h : Q (if lo ≤ v ∧ v ≤ hi then 1 else 0) M) : R_X10_in V v lo hi M Q := by
  apply of_X10_in
  unfold wp_X10_in
  refine ⟨fun c => ?_, fun c => ⟨fun d => ?_, fun d => ?_⟩⟩
  · rwa [if_neg (by omega)] at h
  · rwa [if_neg (by omega)] at h
  · rwa [if_pos (by omega)] at h
theorem m_isTree {t : Int} (h : Q (if 0 ≤ t ∧ t ≤ 5 then 1 else 0) M) : R_X10_isTree V t M Q := by
  apply of_X10_isTree
  unfold wp_X10_isTree
  apply m_in
  refine ⟨?_, h⟩
  split <;> simp
theorem m_isHole {c : Int} (h : Q (if 65 ≤ c ∧ c ≤ 72 then 1 else 0) M) : R_X10_isHole V c M Q := by
  apply of_X10_isHole
  unfold wp_X10_isHole
  apply m_in
  refine ⟨?_, h⟩
  split <;> simp
theorem m_isNode {t i : Int} (hn : 0 ≤ t → t ≤ 5 → 0 ≤ M 204 t ∧ M 204 t ≤ 16) (h : Q (if (0 ≤ t ∧ t ≤ 5) ∧ 0 ≤ i ∧ i < M 204 t then 1 else 0) M) : R_X10_isNode V t i M Q := by
  apply of_X10_isNode
  unfold wp_X10_isNode
  apply m_isTree
  by_cases ht : 0 ≤ t ∧ t ≤ 5
  · rw [if_pos ht]
    obtain ⟨h1, h2⟩ := hn ht.1 ht.2
    refine ⟨fun c => by omega, fun _ => ⟨by omega, ?_⟩⟩
    apply m_in
    rw [w32_id (by omega) (by omega)]
    by_cases hi : 0 ≤ i ∧ i ≤ M 204 t - 1
    · rw [if_pos hi]
      rw [if_pos ⟨ht, by omega⟩] at h
      exact ⟨fun c => by omega, fun _ => h⟩
    · rw [if_neg hi]
      rw [if_neg (by omega)] at h
      exact ⟨fun _ => h, fun c => by omega⟩
  · rw [if_neg ht]
    rw [if_neg (by omega)] at h
    exact ⟨fun _ => h, fun c => by omega⟩
theorem m_sizeOf {x : Int} {i : Nat} {t : T} (hx : 0 ≤ x ∧ x ≤ 20) (hm : Mt M x t) (hw : Wt t) (hi : i < t.length) (h : Q (sz t i) M) : R_X10_sizeOf V x i M Q := by
  have h16 := hw.1
  obtain ⟨m, hk⟩ := ok_drop1 (hw.ok hi) hi
  apply of_X10_sizeOf
  unfold wp_X10_sizeOf wp_X10_sizeOf_5
  refine ⟨fun need j => ∃ n k : Nat, need = n ∧ j = i + k ∧ sz t i = k + fp n (t.drop (i + k)) ∧ ok (n + m) (t.drop (i + k)) ∧ i + k ≤ t.length, fun _ j => (17 - j).toNat, ⟨1, 0, rfl, by simp, by simp [sz], by simpa using hk, by omega⟩, ?_⟩
  rintro need j ⟨n, k, rfl, rfl, h1, h2, h3⟩
  unfold wp_X10_sizeOf_5_b
  refine ⟨fun c => ?_, fun c => ?_⟩
  · have hn : n = 0 := by omega
    subst hn
    have e : w32 ((i : Int) + k - i) = sz t i := by rw [w32_id (by omega) (by omega), h1]; simp [fp]; omega
    rw [e]; exact h
  · obtain ⟨n, rfl⟩ : ∃ n', n = n' + 1 := ⟨n - 1, by omega⟩
    have hlt : i + k < t.length := by
      rcases Nat.lt_or_ge (i + k) t.length with q | q
      · exact q
      · rw [List.drop_eq_nil_of_le q, show n + 1 + m = (n + m) + 1 by omega] at h2
        exact absurd h2 (by simp [ok])
    have ha := ar_lt (hw.ok hi) hlt
    rw [drop_cons hlt] at h1 h2
    rw [show n + 1 + m = (n + m) + 1 by omega] at h2
    have h2' : ok (n + m + ar t (i + k)) (t.drop (i + k + 1)) := h2
    have hle := ok_len _ _ h2'
    simp at hle
    rw [w32_id (x := 32 * x) (by omega) (by omega), w32_id (x := 32 * x + _) (by omega) (by omega)]
    refine ⟨by omega, ?_⟩
    intro v hv
    have hr := (hm.2 (i + k) hlt).2
    rw [show 32 * x + ((i + k : Nat) : Int) = 32 * x + (↑i + ↑k) by omega] at hr
    rw [hr, w32_id (x := _ - 1) (by omega) (by omega), w32_id (by omega) (by omega)] at hv
    rw [w32_id (x := _ + 1) (by omega) (by omega)]
    refine ⟨⟨n + ar t (i + k), k + 1, by omega, by omega, ?_, ?_, by omega⟩, by dsimp only; omega⟩
    · rw [h1]; simp only [fp]
      rw [show i + k + 1 = i + (k + 1) by omega]; omega
    · rw [show i + (k + 1) = i + k + 1 by omega, show n + ar t (i + k) + m = n + m + ar t (i + k) by omega]
      exact h2'
end MOD1
