/-! the reference's reads: depth, parent, alike, plain -/
def par (l : T) (i : Nat) : Int := match (anc l i).getLast? with
  | none => -6
  | some j => j
theorem sub_get {l : T} {i j : Nat} (hj : j < sz l i) (hi : i < l.length) : (sub l i)[j]? = some (lb l (i + j), ar l (i + j)) := by
  have h1 := sz_end hi
  unfold sub
  rw [List.getElem?_take_of_lt hj, List.getElem?_drop]
  have h2 : i + j < l.length := by omega
  rw [List.getElem?_eq_getElem h2]
  simp [lb, ar, List.getD_eq_getElem?_getD, List.getElem?_eq_getElem h2]
theorem sub_eq {s t : T} {i k : Nat} (hi : i < s.length) (hk : k < t.length) : sub s i = sub t k ↔ sz s i = sz t k ∧ ∀ j, j < sz s i → lb s (i + j) = lb t (k + j) ∧ ar s (i + j) = ar t (k + j) := by
  constructor
  · intro h
    have hl := congrArg List.length h
    rw [sub_len, sub_len] at hl
    refine ⟨hl, fun j hj => ?_⟩
    have h1 := sub_get hj hi
    rw [h, sub_get (by omega) hk] at h1
    simp at h1
    exact ⟨h1.1.symm, h1.2.symm⟩
  · rintro ⟨hl, h⟩
    apply List.ext_getElem?
    intro j
    by_cases hj : j < sz s i
    · rw [sub_get hj hi, sub_get (by omega) hk, (h j hj).1, (h j hj).2]
    · rw [List.getElem?_eq_none (by rw [sub_len]; omega), List.getElem?_eq_none (by rw [sub_len]; omega)]
section MOD2
variable {V : VV} {M : Mem} {Q : Int → Mem → Prop}
theorem m_depthOf {x : Int} {i : Nat} {t : T} (hx : 0 ≤ x ∧ x ≤ 20) (hm : Mt M x t) (hw : Wt t) (hi : i < t.length) (h : Q (dep t i) M) : R_X10_depthOf V x i M Q := by
  have h16 := hw.1
  apply of_X10_depthOf
  unfold wp_X10_depthOf wp_X10_depthOf_5
  refine ⟨fun d j N => N = M ∧ ∃ k : Nat, j = k ∧ k ≤ i ∧ d = (((List.range k).filter (fun j => decide (i < j + sz t j))).length : Nat), fun _ j _ => (17 - j).toNat, ⟨rfl, 0, rfl, by omega, by simp⟩, ?_⟩
  rintro d j N ⟨rfl, k, rfl, hk, rfl⟩
  unfold wp_X10_depthOf_5_b
  refine ⟨fun c => ?_, fun c => ?_⟩
  · have : k = i := by omega
    subst this; exact h
  · have hki : k < t.length := by omega
    apply m_sizeOf hx hm hw hki
    have h1 := sz_end hki
    have hl : ((List.range k).filter (fun j => decide (i < j + sz t j))).length ≤ k := by
      have := List.length_filter_le (fun j => decide (i < j + sz t j)) (List.range k)
      simpa using this
    rw [w32_id (by omega) (by omega)]
    unfold wp_X10_depthOf_31
    refine ⟨fun d => ?_, fun d => ?_⟩
    · refine ⟨⟨rfl, k + 1, by rw [w32_id (by omega) (by omega)]; omega, by omega, ?_⟩, by dsimp only; rw [w32_id (by omega) (by omega)]; omega⟩
      rw [List.range_succ, List.filter_append]
      have : decide (i < k + sz t k) = false := by simp; omega
      simp [this]
      rw [w32_id (by omega) (by omega)]
    · refine ⟨⟨rfl, k + 1, by rw [w32_id (by omega) (by omega)]; omega, by omega, ?_⟩, by dsimp only; rw [w32_id (by omega) (by omega)]; omega⟩
      rw [List.range_succ, List.filter_append]
      have : decide (i < k + sz t k) = true := by simp; omega
      simp [this]
      rw [w32_id (by omega) (by omega)]
theorem m_parentOf {x : Int} {i : Nat} {t : T} (hx : 0 ≤ x ∧ x ≤ 20) (hm : Mt M x t) (hw : Wt t) (hi : i < t.length) (h : Q (par t i) M) : R_X10_parentOf V x i M Q := by
  have h16 := hw.1
  apply of_X10_parentOf
  unfold wp_X10_parentOf wp_X10_parentOf_4
  refine ⟨fun j N => N = M ∧ ∃ k : Nat, j = (k : Int) - 1 ∧ k ≤ i ∧ anc t i = (List.range k).filter (fun j => decide (i < j + sz t j)), fun j _ => (j + 1).toNat, ⟨rfl, i, by rw [w32_id (by omega) (by omega)], by omega, rfl⟩, ?_⟩
  rintro j N ⟨rfl, k, rfl, hk, ha⟩
  unfold wp_X10_parentOf_4_b
  refine ⟨fun c => ?_, fun c => ?_⟩
  · have : k = 0 := by omega
    subst this
    have e : par t i = -6 := by unfold par; rw [ha]; rfl
    rw [e] at h; exact h
  · obtain ⟨k, rfl⟩ : ∃ k', k = k' + 1 := ⟨k - 1, by omega⟩
    have hki : k < t.length := by omega
    rw [show ((k + 1 : Nat) : Int) - 1 = (k : Int) by omega]
    apply m_sizeOf hx hm hw hki
    have h1 := sz_end hki
    rw [List.range_succ, List.filter_append] at ha
    rw [w32_id (by omega) (by omega)]
    refine ⟨fun d => ?_, fun d => ?_⟩
    · have hd : decide (i < k + sz t k) = false := by simp; omega
      refine ⟨⟨rfl, k, by rw [w32_id (by omega) (by omega)]; omega, by omega, by rw [ha]; simp [hd]⟩, by dsimp only; rw [w32_id (by omega) (by omega)]; omega⟩
    · have hd : decide (i < k + sz t k) = true := by simp; omega
      have e : par t i = k := by unfold par; rw [ha]; simp [hd]
      rw [e] at h; exact h
theorem m_same {x y : Int} {i k : Nat} {s t : T} (hx : 0 ≤ x ∧ x ≤ 20) (hy : 0 ≤ y ∧ y ≤ 20) (hs : Mt M x s) (ht : Mt M y t) (ws : Wt s) (wt : Wt t) (hi : i < s.length) (hk : k < t.length) (h : Q (if sub s i = sub t k then 1 else 0) M) : R_X10_same V x i y k M Q := by
  have s16 := ws.1
  have t16 := wt.1
  have es := sz_end hi
  have et := sz_end hk
  apply of_X10_same
  unfold wp_X10_same
  apply m_sizeOf hx hs ws hi
  apply m_sizeOf hy ht wt hk
  have loop : ∀ b : Int, (b = if sz s i = sz t k then 1 else 0) → wp_X10_same_25 V x i y k (sz s i) b M Q := by
    intro b hb
    unfold wp_X10_same_25 wp_X10_same_30
    refine ⟨fun b j => ∃ n : Nat, j = n ∧ n ≤ sz s i ∧ b = (if sz s i = sz t k ∧ ∀ j, j < n → lb s (i + j) = lb t (k + j) ∧ ar s (i + j) = ar t (k + j) then 1 else 0), fun _ j => (17 - j).toNat, ⟨0, rfl, by omega, by rw [hb]; simp⟩, ?_⟩
    rintro b j ⟨n, rfl, hn, rfl⟩
    unfold wp_X10_same_30_b
    have key : (n = sz s i ∨ ¬ (sz s i = sz t k ∧ ∀ j, j < n → lb s (i + j) = lb t (k + j) ∧ ar s (i + j) = ar t (k + j))) → Q (if sz s i = sz t k ∧ ∀ j, j < n → lb s (i + j) = lb t (k + j) ∧ ar s (i + j) = ar t (k + j) then 1 else 0) M := by
      intro hc
      have e : (sub s i = sub t k) ↔ (sz s i = sz t k ∧ ∀ j, j < n → lb s (i + j) = lb t (k + j) ∧ ar s (i + j) = ar t (k + j)) := by
        rw [sub_eq hi hk]
        rcases hc with rfl | hc
        · exact Iff.rfl
        · exact ⟨fun g => absurd ⟨g.1, fun j hj => g.2 j (by omega)⟩ hc, fun g => absurd g hc⟩
      simpa only [e] using h
    refine ⟨fun c => ⟨by split <;> simp, key (Or.inl (by omega))⟩, fun c => ⟨fun d => ⟨Or.inl d, key (Or.inr (fun hP => by rw [if_pos hP] at d; omega))⟩, fun d => ?_⟩⟩
    have hT : sz s i = sz t k ∧ ∀ j, j < n → lb s (i + j) = lb t (k + j) ∧ ar s (i + j) = ar t (k + j) := by
      split at d
      · assumption
      · exact absurd rfl d
    have a1 := hs.2 (i + n) (by omega)
    have a2 := ht.2 (k + n) (by omega)
    rw [show 32 * x + ((i + n : Nat) : Int) = 32 * x + i + n by omega] at a1
    rw [show 32 * y + ((k + n : Nat) : Int) = 32 * y + k + n by omega] at a2
    simp (disch := omega) only [w32_id]
    rw [a1.1, a1.2, a2.1, a2.2]
    unfold wp_X10_same_110
    simp (disch := omega) only [w32_id]
    have step : ∀ P : Prop, (lb s (i + n) = lb t (k + n) ∧ ar s (i + n) = ar t (k + n) ↔ P) → ((sz s i = sz t k ∧ ∀ j, j < n + 1 → lb s (i + j) = lb t (k + j) ∧ ar s (i + j) = ar t (k + j)) ↔ P) := by
      intro P hP
      rw [← hP]
      refine ⟨fun g => g.2 n (by omega), fun g => ⟨hT.1, fun j hj => ?_⟩⟩
      rcases Nat.lt_or_ge j n with q | q
      · exact hT.2 j q
      · rw [show j = n by omega]; exact g
    refine ⟨by omega, by omega, fun g1 => ⟨by omega, by omega, fun g2 => ?_, fun g2 => ?_⟩, fun g1 => ?_⟩
    · refine ⟨⟨n + 1, by omega, by omega, ?_⟩, by (try dsimp only); omega⟩
      rw [if_pos ((step True ⟨fun _ => trivial, fun _ => ⟨g1, by omega⟩⟩).mpr trivial)]
    · refine ⟨⟨n + 1, by omega, by omega, ?_⟩, by (try dsimp only); omega⟩
      rw [if_neg (fun g => ((step False ⟨fun q => g2 (by omega), fun q => q.elim⟩).mp g))]
    · refine ⟨⟨n + 1, by omega, by omega, ?_⟩, by (try dsimp only); omega⟩
      rw [if_neg (fun g => ((step False ⟨fun q => g1 q.1, fun q => q.elim⟩).mp g))]
  refine ⟨fun c => loop 1 (by rw [if_pos (by omega)]), fun c => loop 0 (by rw [if_neg (by omega)])⟩
def isH (c : Int) : Bool := decide (65 ≤ c ∧ c ≤ 72)
def plain (t : T) : Bool := t.all (fun p => !isH p.1)
theorem all_take {t : T} {p : Int × Nat → Bool} {k : Nat} (hk : k < t.length) : (t.take (k + 1)).all p = ((t.take k).all p && p (lb t k, ar t k)) := by
  have e : (lb t k, ar t k) = t[k] := by simp [lb, ar, List.getD_eq_getElem?_getD, List.getElem?_eq_getElem hk]
  rw [List.take_succ, List.all_append, List.getElem?_eq_getElem hk, e, Option.toList_some, List.all_cons, List.all_nil, Bool.and_true]
theorem any_take {t : T} {p : Int × Nat → Bool} {k : Nat} (hk : k < t.length) : (t.take (k + 1)).any p = ((t.take k).any p || p (lb t k, ar t k)) := by
  have e : (lb t k, ar t k) = t[k] := by simp [lb, ar, List.getD_eq_getElem?_getD, List.getElem?_eq_getElem hk]
  rw [List.take_succ, List.any_append, List.getElem?_eq_getElem hk, e, Option.toList_some, List.any_cons, List.any_nil, Bool.or_false]
theorem m_isPlain {x : Int} {t : T} (hx : 0 ≤ x ∧ x ≤ 20) (hm : Mt M x t) (hw : Wt t) (h : Q (if plain t then 1 else 0) M) : R_X10_isPlain V x M Q := by
  have h16 := hw.1
  have hn := hm.1
  apply of_X10_isPlain
  unfold wp_X10_isPlain wp_X10_isPlain_4
  refine ⟨fun b j N => N = M ∧ ∃ k : Nat, j = k ∧ k ≤ t.length ∧ b = (if (t.take k).all (fun p => !isH p.1) then 1 else 0), fun _ j _ => (17 - j).toNat, ⟨rfl, 0, rfl, by omega, by simp⟩, ?_⟩
  rintro b j N ⟨rfl, k, rfl, hk, rfl⟩
  unfold wp_X10_isPlain_4_b
  refine ⟨by omega, fun c => ⟨by split <;> simp, ?_⟩, fun c => ?_⟩
  · have : k = t.length := by omega
    subst this
    rw [List.take_length]; exact h
  · have hkt : k < t.length := by omega
    have a1 := (hm.2 k hkt).1
    unfold wp_X10_isPlain_39
    simp (disch := omega) only [w32_id]
    refine ⟨fun d => ?_, fun d => ⟨by omega, ?_⟩⟩
    · refine ⟨⟨by trivial, k + 1, by omega, by omega, ?_⟩, by (try dsimp only); omega⟩
      rw [all_take hkt]
      split at d
      · omega
      · rename_i hf; simp [hf]
    · have hT : (t.take k).all (fun p => !isH p.1) = true := by
        split at d
        · assumption
        · exact absurd rfl d
      rw [a1]
      apply m_isHole
      by_cases hh : 65 ≤ lb t k ∧ lb t k ≤ 72
      · rw [if_pos hh]
        refine ⟨fun c => by omega, fun _ => ⟨⟨by trivial, k + 1, by omega, by omega, ?_⟩, by (try dsimp only); omega⟩⟩
        rw [all_take hkt]; simp [isH, hh]
      · rw [if_neg hh]
        refine ⟨fun _ => ⟨⟨by trivial, k + 1, by omega, by omega, ?_⟩, by (try dsimp only); omega⟩, fun c => by omega⟩
        rw [all_take hkt, hT]; simp [isH]; intro h5; omega
theorem m_hasLabel {x c : Int} {t : T} (hx : 0 ≤ x ∧ x ≤ 20) (hm : Mt M x t) (hw : Wt t) (h : Q (if t.any (fun p => p.1 == c) then 1 else 0) M) : R_X10_hasLabel V x c M Q := by
  have h16 := hw.1
  have hn := hm.1
  apply of_X10_hasLabel
  unfold wp_X10_hasLabel wp_X10_hasLabel_5
  refine ⟨fun b j => ∃ k : Nat, j = k ∧ k ≤ t.length ∧ b = (if (t.take k).any (fun p => p.1 == c) then 1 else 0), fun _ j => (17 - j).toNat, ⟨0, rfl, by omega, by simp⟩, ?_⟩
  rintro b j ⟨k, rfl, hk, rfl⟩
  unfold wp_X10_hasLabel_5_b
  refine ⟨by omega, fun d => ⟨by split <;> simp, ?_⟩, fun d => ?_⟩
  · have : k = t.length := by omega
    subst this
    rw [List.take_length]; exact h
  · have hkt : k < t.length := by omega
    have a1 := (hm.2 k hkt).1
    unfold wp_X10_hasLabel_36
    simp (disch := omega) only [w32_id]
    refine ⟨fun d => ⟨by omega, ?_⟩, fun d => ?_⟩
    · have hF : (t.take k).any (fun p => p.1 == c) = false := by
        split at d
        · omega
        · rename_i g; exact Bool.eq_false_iff.mpr g
      rw [a1]
      refine ⟨fun g => ⟨⟨k + 1, by omega, by omega, ?_⟩, by (try dsimp only); omega⟩, fun g => ⟨⟨k + 1, by omega, by omega, ?_⟩, by (try dsimp only); omega⟩⟩
      · rw [any_take hkt]; simp [g]
      · rw [any_take hkt, hF]; simp [g]
    · have hT : (t.take k).any (fun p => p.1 == c) = true := by
        split at d
        · assumption
        · exact absurd rfl d
      refine ⟨⟨k + 1, by omega, by omega, ?_⟩, by (try dsimp only); omega⟩
      rw [any_take hkt, hT]; simp
theorem m_areBoth {s t : Int} (h : Q (if (0 ≤ s ∧ s ≤ 5) ∧ (0 ≤ t ∧ t ≤ 5) ∧ 0 < M 204 s ∧ 0 < M 204 t then 1 else 0) M) : R_X10_areBoth V s t M Q := by
  apply of_X10_areBoth
  unfold wp_X10_areBoth
  apply m_isTree
  by_cases h1 : 0 ≤ s ∧ s ≤ 5
  · rw [if_pos h1]
    refine ⟨fun c => by omega, fun _ => ?_⟩
    apply m_isTree
    by_cases h2 : 0 ≤ t ∧ t ≤ 5
    · rw [if_pos h2]
      refine ⟨fun c => by omega, fun _ => ⟨by omega, fun c => ?_, fun c => ⟨by omega, fun d => ?_, fun d => ?_⟩⟩⟩
      · rwa [if_neg (by omega)] at h
      · rwa [if_neg (by omega)] at h
      · rwa [if_pos (by omega)] at h
    · rw [if_neg h2]
      rw [if_neg (by omega)] at h
      exact ⟨fun _ => h, fun c => by omega⟩
  · rw [if_neg h1]
    rw [if_neg (by omega)] at h
    exact ⟨fun _ => h, fun c => by omega⟩
/-- only slot z of the reference's trees may have changed -/
def Sl (z : Int) (M M' : Mem) : Prop := ∀ c j, ¬ (c = 204 ∧ j = z) → ¬ ((c = 205 ∨ c = 206) ∧ 32 * z ≤ j ∧ j < 32 * z + 32) → M' c j = M c j
theorem Sl.mt {z x : Int} {M M' : Mem} {t : T} (h : Sl z M M') (hx : x ≠ z) (h16 : t.length ≤ 16) (hm : Mt M x t) : Mt M' x t := by
  refine ⟨by rw [h _ _ (by omega) (by omega)]; exact hm.1, fun i hi => ?_⟩
  have := hm.2 i hi
  rw [h _ _ (by omega) (by omega), h _ _ (by omega) (by omega)]
  exact this
theorem m_copy {x y : Int} {i n : Nat} (hx : 0 ≤ x ∧ x ≤ 20) (hy : 0 ≤ y ∧ y ≤ 20) (hxy : x ≠ y) (hn : i + n ≤ 16) (h : ∀ M', Sl y M M' → M' 204 y = n → (∀ k : Nat, k < n → M' 205 (32 * y + k) = M 205 (32 * x + i + k) ∧ M' 206 (32 * y + k) = M 206 (32 * x + i + k)) → Q 0 M') : R_X10_copy V x i n y M Q := by
  apply of_X10_copy
  unfold wp_X10_copy wp_X10_copy_3
  refine ⟨fun j N => ∃ k : Nat, j = k ∧ k ≤ n ∧ Sl y M N ∧ N 204 = M 204 ∧ (∀ q : Nat, q < k → N 205 (32 * y + q) = M 205 (32 * x + i + q) ∧ N 206 (32 * y + q) = M 206 (32 * x + i + q)), fun j _ => (17 - j).toNat, ⟨0, rfl, by omega, fun _ _ _ _ => rfl, rfl, fun q hq => by omega⟩, ?_⟩
  rintro j N ⟨k, rfl, hk, hS, h4, hc⟩
  unfold wp_X10_copy_3_b
  refine ⟨fun c => ⟨by omega, ?_⟩, fun c => ?_⟩
  · have hkn : k = n := by omega
    subst hkn
    refine h _ (fun c j g1 g2 => ?_) (mset_same _ _ _ _) (fun q hq => ?_)
    · rw [← hS c j g1 g2]
      unfold mset
      rw [if_neg g1]
    · rw [mset_cell _ (by decide), mset_cell _ (by decide)]; exact hc q hq
  · simp (disch := omega) only [w32_id]
    refine ⟨by omega, by omega, ?_⟩
    intro M1 hM1
    refine ⟨by omega, by omega, ⟨k + 1, by omega, by omega, ?_, ?_, ?_⟩, by (try dsimp only); omega⟩
    · intro c j g1 g2
      rw [← hS c j g1 g2, hM1]
      unfold mset
      rw [if_neg (by omega), if_neg (by omega)]
    · funext j
      rw [mset_cell _ (by decide), hM1, mset_cell _ (by decide), h4]
    · intro q hq
      have s5 : N 205 (32 * x + i + k) = M 205 (32 * x + i + k) := hS _ _ (by omega) (by omega)
      have s6 : N 206 (32 * x + i + k) = M 206 (32 * x + i + k) := hS _ _ (by omega) (by omega)
      have e6 : M1 206 (32 * x + i + k) = M 206 (32 * x + i + k) := by rw [hM1, mset_cell _ (by decide)]; exact s6
      rw [e6]
      by_cases hqk : q = k
      · subst hqk
        rw [mset_cell _ (by decide), mset_same, hM1, mset_same]
        exact ⟨s5, rfl⟩
      · rw [mset_cell _ (by decide), mset_idx _ _ _ (by omega), hM1, mset_idx _ _ _ (by omega), mset_cell _ (by decide)]
        exact hc q (by omega)
end MOD2
