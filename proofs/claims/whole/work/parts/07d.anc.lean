/-! ancestors, parents, places, depths -/
theorem mem_anc {l : T} {i j : Nat} : j ∈ anc l i ↔ j < i ∧ i < j + sz l j := by
  simp [anc, List.mem_filter]
theorem range_filter_lt : ∀ (n k : Nat), k ≤ n → ((List.range n).filter (fun q => decide (q < k))).length = k
  | 0, k, h => by simp; omega
  | n + 1, k, h => by
    rw [List.range_succ, List.filter_append, List.length_append]
    by_cases hk : k ≤ n
    · rw [range_filter_lt n k hk]
      have : decide (n < k) = false := by simp; omega
      simp [this]
    · have hk1 : k = n + 1 := by omega
      subst hk1
      have h1 : ((List.range n).filter (fun q => decide (q < n + 1))) = List.range n := by
        rw [List.filter_eq_self]
        intro a ha
        simp at ha ⊢; omega
      rw [h1]
      simp
/-- the parent as a number of a node, if there is one -/
def parN (l : T) (i : Nat) : Option Nat := (anc l i).getLast?
theorem par_eq (l : T) (i : Nat) : par l i = match parN l i with | none => -6 | some j => (j : Int) := rfl
def plc (l : T) (i : Nat) : Int := match parN l i with
  | none => -6
  | some p => (((List.range (ar l p)).filter (fun k => decide (chd l p k < i))).length : Nat)
theorem anc_zero (l : T) : anc l 0 = [] := by simp [anc]
theorem par_zero (l : T) : par l 0 = -6 := by rw [par_eq, parN, anc_zero]; rfl
theorem plc_zero (l : T) : plc l 0 = -6 := by unfold plc; rw [parN, anc_zero]; rfl
theorem dep_zero (l : T) : dep l 0 = 0 := by unfold dep; rw [anc_zero]; rfl
theorem anc_chd {l : T} {n i k : Nat} (h : ok n l) (hi : i < l.length) (hk : k < ar l i) : anc l (chd l i k) = anc l i ++ [i] := by
  have hc1 : i < chd l i k := by unfold chd; omega
  have hc2 : chd l i k < i + sz l i := by
    rw [← chd_end hi]
    exact Nat.lt_of_lt_of_le (chd_slt h hi hk) (chd_mono l i (by omega))
  unfold anc
  obtain ⟨b, hb⟩ : ∃ b, chd l i k = i + (1 + b) := ⟨chd l i k - i - 1, by omega⟩
  rw [hb, List.range_add, List.filter_append]
  have e1 : (List.range i).filter (fun j => decide (i + (1 + b) < j + sz l j)) = (List.range i).filter (fun j => decide (i < j + sz l j)) := by
    apply List.filter_congr
    intro j hj
    simp at hj
    rw [← hb]
    have : (chd l i k < j + sz l j) ↔ (i < j + sz l j) := by
      constructor
      · intro g; omega
      · intro g
        have := nest (l := l) (i := j) (j := i) (by omega) g
        omega
    simp [this]
  rw [e1]
  congr 1
  rw [List.range_add, List.map_append, List.filter_append]
  have e2 : ((List.range 1).map (i + ·)).filter (fun j => decide (i + (1 + b) < j + sz l j)) = [i] := by
    have : decide (i + (1 + b) < i + sz l i) = true := by simp; omega
    simp [List.range_succ]; omega
  rw [e2]
  have e3 : (((List.range b).map (1 + ·)).map (i + ·)).filter (fun j => decide (i + (1 + b) < j + sz l j)) = [] := by
    rw [List.filter_eq_nil_iff]
    intro j hj
    simp at hj
    obtain ⟨q, hq, rfl⟩ := hj
    obtain ⟨k', hk', c1, c2⟩ := in_part (l := l) (i := i) (j := i + (1 + q)) hi (by omega) (by omega)
    have hlt : k' < k := by
      rcases Nat.lt_or_ge k' k with g | g
      · exact g
      · have := chd_mono l i g
        omega
    rw [chd_succ] at c2
    have hn := nest (l := l) (i := chd l i k') (j := i + (1 + q)) c1 c2
    have hm := chd_mono l i (show k' + 1 ≤ k by omega)
    rw [chd_succ] at hm
    simp; omega
  rw [e3]; simp
theorem par_chd {l : T} {n i k : Nat} (h : ok n l) (hi : i < l.length) (hk : k < ar l i) : par l (chd l i k) = i := by
  rw [par_eq, parN, anc_chd h hi hk]; simp
theorem dep_chd {l : T} {n i k : Nat} (h : ok n l) (hi : i < l.length) (hk : k < ar l i) : dep l (chd l i k) = dep l i + 1 := by
  unfold dep; rw [anc_chd h hi hk]; simp
theorem chd_inj {l : T} {n i j k : Nat} (h : ok n l) (hi : i < l.length) (hk : k < ar l i) (hj : j ≤ ar l i) : chd l i j < chd l i k ↔ j < k := by
  constructor
  · intro g
    rcases Nat.lt_or_ge j k with q | q
    · exact q
    · have := chd_mono l i q; omega
  · intro g
    have h1 := chd_slt h hi (show j < ar l i by omega)
    have h2 := chd_mono l i (show j + 1 ≤ k by omega)
    omega
theorem plc_chd {l : T} {n i k : Nat} (h : ok n l) (hi : i < l.length) (hk : k < ar l i) : plc l (chd l i k) = k := by
  unfold plc
  rw [parN, anc_chd h hi hk]
  simp only [List.getLast?_append, List.getLast?_singleton, Option.some_or]
  have e : (List.range (ar l i)).filter (fun q => decide (chd l i q < chd l i k)) = (List.range (ar l i)).filter (fun q => decide (q < k)) := by
    apply List.filter_congr
    intro j hj
    simp at hj
    have := chd_inj h hi hk (j := j) (by omega)
    simp [this]
  rw [e, range_filter_lt (ar l i) k (by omega)]
/-- every node but the first is a part of its parent -/
theorem par_ex {l : T} {i : Nat} (h : ok 1 l) (hi : i < l.length) (h0 : 0 < i) : ∃ p k, p < i ∧ k < ar l p ∧ i = chd l p k := by
  have h00 : 0 ∈ anc l i := by
    rw [mem_anc]
    refine ⟨h0, ?_⟩
    have : sz l 0 = l.length := by unfold sz; rw [List.drop_zero, ok_fp' h]
    omega
  obtain ⟨p, hp⟩ : ∃ p, parN l i = some p := by
    unfold parN
    cases hq : (anc l i).getLast? with
    | none => rw [List.getLast?_eq_none_iff] at hq; rw [hq] at h00; simp at h00
    | some p => exact ⟨p, rfl⟩
  have hpm : p ∈ anc l i := List.mem_of_getLast? hp
  have hmax : ∀ q ∈ anc l i, q ≤ p := by
    intro q hq
    have hs : (anc l i).Pairwise (· < ·) := (List.pairwise_lt_range).filter _
    obtain ⟨ys, hys⟩ := List.getLast?_eq_some_iff.mp hp
    rw [hys] at hq hs
    rcases List.mem_append.mp hq with g | g
    · have := (List.pairwise_append.mp hs).2.2 q g p (by simp)
      omega
    · simp at g; omega
  rw [mem_anc] at hpm
  obtain ⟨k, hk, c1, c2⟩ := in_part (l := l) (i := p) (j := i) (by omega) hpm.1 hpm.2
  refine ⟨p, k, hpm.1, hk, ?_⟩
  rcases Nat.lt_or_ge (chd l p k) i with g | g
  · have hm : chd l p k ∈ anc l i := by
      rw [mem_anc]
      rw [chd_succ] at c2
      exact ⟨g, c2⟩
    have := hmax _ hm
    have hpc : p < chd l p k := by unfold chd; omega
    omega
  · omega
theorem par_lt {l : T} {i : Nat} (h : ok 1 l) (hi : i < l.length) : par l i < i := by
  rcases Nat.eq_zero_or_pos i with rfl | h0
  · rw [par_zero]; omega
  · obtain ⟨p, k, h1, h2, rfl⟩ := par_ex h hi h0
    rw [par_chd h (by omega) h2]; omega
theorem dep_le (l : T) (i : Nat) : dep l i ≤ i := by
  unfold dep anc
  have := List.length_filter_le (fun j => decide (i < j + sz l j)) (List.range i)
  simpa using this
