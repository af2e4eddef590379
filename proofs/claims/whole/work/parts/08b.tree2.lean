/-! the class's trees: parts, copies, likeness -/
theorem sub_take {t : T} {i j : Nat} (hj : j < sz t i) (hi : i < t.length) : (sub t i).take (j + 1) = (sub t i).take j ++ [(lb t (i + j), ar t (i + j))] := by
  rw [List.take_succ, sub_get hj hi]; rfl
theorem lb_sub {t : T} {i j : Nat} (hj : j < sz t i) (hi : i < t.length) : lb (sub t i) j = lb t (i + j) ∧ ar (sub t i) j = ar t (i + j) := by
  have := sub_get hj hi
  simp [lb, ar, List.getD_eq_getElem?_getD, this]
theorem Wt.sub {t : T} (h : Wt t) {i : Nat} (hi : i < t.length) : Wt (sub t i) := by
  have := sz_end hi
  have := h.1
  exact ⟨by rw [sub_len]; omega, fun _ => ok_sub (h.ok hi) hi⟩
section CTREE2
variable {V : VV} {M : Mem} {Q : Int → Mem → Prop}
theorem x_appendPart {k k' : Int} {r t : T} {i : Nat} (hr : Cu M k r) (ht : Cu M k' t) (hz : M (k' + 3) i = sz t i) (hi : i < t.length) (h16 : t.length ≤ 16) (hl : r.length + sz t i ≤ 16) (hd : k + 6 < k' ∨ k' + 6 < k) (h : ∀ M', Cu M' k (r ++ sub t i) → Fx k (k + 2) M M' → Q 0 M') : R_X7_appendPart V k k' i M Q := by
  have h0 := ht.1
  have hse := sz_end hi
  apply of_X7_appendPart
  unfold wp_X7_appendPart
  apply x_has
  rw [if_pos (by omega)]
  refine ⟨fun c => by omega, fun _ => ?_⟩
  unfold wp_X7_appendPart_11
  refine ⟨fun j N => ∃ n : Nat, j = n ∧ n ≤ sz t i ∧ Cu N k (r ++ (sub t i).take n) ∧ Fx k (k + 2) M N, fun j _ => (17 - j).toNat, ⟨0, rfl, by omega, by simpa using hr, Fx.rf _ _ _⟩, ?_⟩
  rintro j N ⟨n, rfl, hn, hc, hF⟩
  unfold wp_X7_appendPart_11_b
  have htN : Cu N k' t := hF.cu (by omega) ht
  have hzN : N (k' + 3) i = sz t i := by rw [hF _ _ (by omega)]; exact hz
  have n0 := htN.1
  rw [hzN, n0]
  have fin : n = sz t i → Q 0 N := by
    rintro rfl
    refine h N ?_ hF
    rwa [← sub_len, List.take_length] at hc
  simp (disch := omega) only [w32_id]
  refine ⟨by omega, fun c => fin (by omega), fun c => ⟨fun d => by omega, fun d => ⟨by omega, by omega, ?_⟩⟩⟩
  have hg := htN.2 (i + n) (by omega)
  rw [show ((i + n : Nat) : Int) = (i : Int) + n by omega] at hg
  rw [hg.1, hg.2]
  have hlen : (r ++ (sub t i).take n).length < 16 := by
    rw [List.length_append, List.length_take, sub_len]; omega
  refine x_append hc hlen (fun M' hc' hF' => ⟨⟨n + 1, by omega, by omega, ?_, hF.trans hF'⟩, by (try dsimp only); omega⟩)
  rw [sub_take (by omega) hi, ← List.append_assoc]; exact hc'
theorem x_copyPart {k k' : Int} {t : T} {i : Nat} (ht : Ct M k' t) (hw : Wt t) (hi : i < t.length) (hd : k + 6 < k' ∨ k' + 6 < k) (h : ∀ M', Ct M' k (sub t i) → Fx k (k + 6) M M' → Q 0 M') : R_X7_copyPart V k k' i M Q := by
  have hse := sz_end hi
  have h16 := hw.1
  apply of_X7_copyPart
  unfold wp_X7_copyPart
  intro M1 h1
  have hF1 : Fx k k M M1 := by rw [h1]; exact (Fx.rf _ _ _).set (by omega) (by omega)
  have c0 : Cu M1 k [] := ⟨by rw [h1, mset_same]; rfl, fun i hi => by simp at hi⟩
  have t1 : Ct M1 k' t := hF1.ct (by omega) ht
  refine x_appendPart c0 t1.1 (t1.2 i hi).1 hi h16 (by simp; omega) hd (fun M2 c2 hF2 => ?_)
  refine x_settle (t := sub t i) (by simpa using c2) (hw.sub hi) (fun M3 c3 hF3 => ?_)
  exact h M3 c3 (((hF1.mono (by omega) (by omega)).trans (hF2.mono (by omega) (by omega))).trans (hF3.mono (by omega) (by omega)))
theorem x_copyAll {k k' : Int} {t : T} (ht : Ct M k' t) (h16 : t.length ≤ 16) (hd : k + 6 < k' ∨ k' + 6 < k) (h : ∀ M', Ct M' k t → Fx k (k + 6) M M' → Q 0 M') : R_X7_copyAll V k k' M Q := by
  apply of_X7_copyAll
  unfold wp_X7_copyAll
  unfold wp_X7_copyAll_10
  refine ⟨fun j N => ∃ n : Nat, j = n ∧ n ≤ 16 ∧ Fx k (k + 6) M N ∧ N k 0 = M k' 0 ∧ ∀ q : Int, 1 ≤ q → q ≤ 6 → ∀ i : Nat, i < n → N (k + q) i = M (k' + q) i, fun j _ => (17 - j).toNat, ⟨0, rfl, by omega, (Fx.rf _ _ _).set (by omega) (by omega), mset_same _ _ _ _, fun q _ _ i hi => by omega⟩, ?_⟩
  rintro j N ⟨n, rfl, hn, hF, h0, hc⟩
  unfold wp_X7_copyAll_10_b
  refine ⟨fun c => ?_, fun c => ?_⟩
  · have : n = 16 := by omega
    subst this
    refine h N ⟨⟨by rw [h0]; exact ht.1.1, fun i hi => ?_⟩, fun i hi => ?_⟩ hF
    · rw [hc 1 (by omega) (by omega) i (by omega), hc 2 (by omega) (by omega) i (by omega)]
      exact ht.1.2 i hi
    · rw [hc 3 (by omega) (by omega) i (by omega), hc 4 (by omega) (by omega) i (by omega), hc 5 (by omega) (by omega) i (by omega), hc 6 (by omega) (by omega) i (by omega)]
      exact ht.2 i hi
  · have src : ∀ (P : Mem), Fx k (k + 6) M P → ∀ q : Int, 1 ≤ q → q ≤ 6 → P (k' + q) n = M (k' + q) n := fun P hP q h1 h2 => hP _ _ (by omega)
    refine ⟨by omega, by omega, ?_⟩
    intro M1 h1
    rw [src N hF 1 (by omega) (by omega)] at h1
    have f1 : Fx k (k + 6) M M1 := by rw [h1]; exact hF.set (by omega) (by omega)
    refine ⟨by omega, by omega, ?_⟩
    intro M2 h2
    rw [src M1 f1 2 (by omega) (by omega)] at h2
    have f2 : Fx k (k + 6) M M2 := by rw [h2]; exact f1.set (by omega) (by omega)
    refine ⟨by omega, by omega, ?_⟩
    intro M3 h3
    rw [src M2 f2 3 (by omega) (by omega)] at h3
    have f3 : Fx k (k + 6) M M3 := by rw [h3]; exact f2.set (by omega) (by omega)
    refine ⟨by omega, by omega, ?_⟩
    intro M4 h4
    rw [src M3 f3 4 (by omega) (by omega)] at h4
    have f4 : Fx k (k + 6) M M4 := by rw [h4]; exact f3.set (by omega) (by omega)
    refine ⟨by omega, by omega, ?_⟩
    intro M5 h5
    rw [src M4 f4 5 (by omega) (by omega)] at h5
    have f5 : Fx k (k + 6) M M5 := by rw [h5]; exact f4.set (by omega) (by omega)
    refine ⟨by omega, by omega, ?_⟩
    rw [src M5 f5 6 (by omega) (by omega), w32_id (by omega) (by omega)]
    refine ⟨⟨n + 1, by omega, by omega, f5.set (by omega) (by omega), ?_, ?_⟩, by (try dsimp only); omega⟩
    · rw [mset_cell _ (by omega), h5, mset_cell _ (by omega), h4, mset_cell _ (by omega), h3, mset_cell _ (by omega), h2, mset_cell _ (by omega), h1, mset_cell _ (by omega)]; exact h0
    · intro q q1 q2 i hi
      have hq : ∀ (c v : Int) (P : Mem), mset P (k + c) n v (k + q) i = if q = c ∧ i = n then v else P (k + q) i := by
        intro c v P
        unfold mset
        by_cases g : q = c ∧ i = n
        · rw [if_pos g, if_pos (by omega)]
        · rw [if_neg g, if_neg (by omega)]
      rw [hq, h5, hq, h4, hq, h3, hq, h2, hq, h1, hq]
      by_cases hin : i = n
      · subst hin
        rcases (show q = 1 ∨ q = 2 ∨ q = 3 ∨ q = 4 ∨ q = 5 ∨ q = 6 by omega) with rfl | rfl | rfl | rfl | rfl | rfl <;> simp
      · simp only [hin, and_false, if_false]
        exact hc q q1 q2 i (by omega)
theorem x_isAs {k k' : Int} {s t : T} {i j : Nat} (hs : Cu M k s) (ht : Cu M k' t) (zs : M (k + 3) i = sz s i) (zt : M (k' + 3) j = sz t j) (s16 : s.length ≤ 16) (t16 : t.length ≤ 16) (hi : i < s.length) (hj : j < t.length) (h : Q (if sub s i = sub t j then 1 else 0) M) : R_X7_isAs V k i k' j M Q := by
  have s0 := hs.1
  have t0 := ht.1
  have es := sz_end hi
  have et := sz_end hj
  apply of_X7_isAs
  unfold wp_X7_isAs
  apply x_has
  rw [if_pos (by omega)]
  refine ⟨fun c => by omega, fun _ => ?_⟩
  apply x_has
  rw [if_pos (by omega)]
  refine ⟨fun c => by omega, fun _ => ⟨by omega, by omega, fun c => ?_, fun c => ?_⟩⟩
  · have hzz : sz s i = sz t j := by omega
    unfold wp_X7_isAs_36
    refine ⟨fun q => ∃ n : Nat, q = n ∧ n ≤ sz s i ∧ ∀ m, m < n → lb s (i + m) = lb t (j + m) ∧ ar s (i + m) = ar t (j + m), fun q => (17 - q).toNat, ⟨0, rfl, by omega, fun m hm => by omega⟩, ?_⟩
    rintro q ⟨n, rfl, hn, hall⟩
    unfold wp_X7_isAs_36_b
    rw [zs, s0, t0]
    simp (disch := omega) only [w32_id]
    refine ⟨by omega, fun c => ?_, fun c => ⟨fun d => by omega, fun d => ⟨fun e => by omega, fun e => ⟨by omega, by omega, ?_⟩⟩⟩⟩
    · rw [if_pos] at h
      · exact h
      · rw [sub_eq hi hj]
        exact ⟨hzz, fun m hm => hall m (by omega)⟩
    · have a1 := hs.2 (i + n) (by omega)
      have a2 := ht.2 (j + n) (by omega)
      rw [show ((i + n : Nat) : Int) = (i : Int) + n by omega] at a1
      rw [show ((j + n : Nat) : Int) = (j : Int) + n by omega] at a2
      rw [a1.1, a1.2, a2.1, a2.2]
      have neq : ¬ (lb s (i + n) = lb t (j + n) ∧ ar s (i + n) = ar t (j + n)) → Q 0 M := by
        intro g
        rw [if_neg] at h
        · exact h
        · rw [sub_eq hi hj]
          exact fun e => g (e.2 n (by omega))
      refine ⟨fun g1 => ⟨by omega, by omega, fun g2 => ⟨⟨n + 1, by omega, by omega, fun m hm => ?_⟩, by (try dsimp only); omega⟩, fun g2 => neq (fun q => g2 (by omega))⟩, fun g1 => neq (fun q => g1 q.1)⟩
      rcases Nat.lt_or_ge m n with q | q
      · exact hall m q
      · rw [show m = n by omega]; exact ⟨g1, by omega⟩
  · rw [if_neg] at h
    · exact h
    · rw [sub_eq hi hj]
      exact fun e => c (by omega)
end CTREE2
