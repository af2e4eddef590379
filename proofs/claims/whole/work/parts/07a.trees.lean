/-! codes of trees: nodes as written, each its label and how many parts -/
abbrev T : Type := List (Int × Nat)
/-- how many nodes n trees take from the front -/
def fp : Nat → T → Nat
  | 0, _ => 0
  | _ + 1, [] => 0
  | n + 1, x :: l => fp (n + x.2) l + 1
/-- just n trees -/
def ok : Nat → T → Prop
  | 0, [] => True
  | 0, _ :: _ => False
  | _ + 1, [] => False
  | n + 1, x :: l => ok (n + x.2) l
theorem fp_le : ∀ (l : T) (n : Nat), fp n l ≤ l.length
  | [], 0 => by simp [fp]
  | [], n + 1 => by simp [fp]
  | x :: l, 0 => by simp [fp]
  | x :: l, n + 1 => by
    have := fp_le l (n + x.2)
    simp only [fp, List.length_cons]; omega
theorem fp_add : ∀ (l : T) (n m : Nat), fp (n + m) l = fp n l + fp m (l.drop (fp n l))
  | l, 0, m => by simp [fp]
  | [], n + 1, m => by
    rw [show n + 1 + m = (n + m) + 1 by omega]
    cases m <;> simp [fp]
  | x :: l, n + 1, m => by
    rw [show n + 1 + m = (n + m) + 1 by omega]
    have := fp_add l (n + x.2) m
    simp only [fp]
    rw [show n + m + x.2 = n + x.2 + m by omega, this]
    simp only [List.drop_succ_cons]; omega
theorem ok_zero {l : T} : ok 0 l ↔ l = [] := by cases l <;> simp [ok]
theorem ok_split : ∀ (l : T) (n m : Nat), ok (n + m) l → ok n (l.take (fp n l)) ∧ ok m (l.drop (fp n l))
  | l, 0, m, h => by
    rw [Nat.zero_add] at h
    cases l <;> simp [fp, ok] <;> exact h
  | [], n + 1, m, h => by
    rw [show n + 1 + m = (n + m) + 1 by omega] at h
    exact absurd h (by simp [ok])
  | x :: l, n + 1, m, h => by
    rw [show n + 1 + m = (n + m) + 1 by omega] at h
    have h' : ok (n + x.2 + m) l := by
      have : ok (n + m + x.2) l := h
      rwa [show n + m + x.2 = n + x.2 + m by omega] at this
    have := ok_split l (n + x.2) m h'
    simp only [fp, List.take_succ_cons, List.drop_succ_cons, ok]
    exact this
theorem ok_app : ∀ (a b : T) (n m : Nat), ok n a → ok m b → ok (n + m) (a ++ b)
  | [], b, 0, m, _, h => by simpa using h
  | _ :: _, b, 0, m, h, _ => absurd h (by simp [ok])
  | [], b, n + 1, m, h, _ => absurd h (by simp [ok])
  | x :: a, b, n + 1, m, h, hb => by
    rw [show n + 1 + m = (n + m) + 1 by omega]
    have := ok_app a b (n + x.2) m h hb
    simp only [List.cons_append, ok]
    rwa [show n + m + x.2 = n + x.2 + m by omega]
theorem ok_fp : ∀ (a b : T) (n : Nat), ok n a → fp n (a ++ b) = a.length
  | [], b, 0, _ => by simp [fp]
  | _ :: _, b, 0, h => absurd h (by simp [ok])
  | [], b, n + 1, h => absurd h (by simp [ok])
  | x :: a, b, n + 1, h => by
    have := ok_fp a b (n + x.2) h
    simp only [List.cons_append, fp, this, List.length_cons]
theorem ok_fp' {a : T} {n : Nat} (h : ok n a) : fp n a = a.length := by
  have := ok_fp a [] n h
  simpa using this
theorem ok_uniq : ∀ (a : T) (n m : Nat), ok n a → ok m a → n = m
  | [], 0, 0, _, _ => rfl
  | [], n + 1, _, h, _ => absurd h (by simp [ok])
  | [], 0, m + 1, _, h => absurd h (by simp [ok])
  | _ :: _, 0, _, h, _ => absurd h (by simp [ok])
  | _ :: _, _ + 1, 0, _, h => absurd h (by simp [ok])
  | x :: a, n + 1, m + 1, h, h' => by
    have := ok_uniq a (n + x.2) (m + x.2) h h'
    omega
/-- from any place on there stand so many trees -/
theorem ok_drop : ∀ (l : T) (n i : Nat), ok n l → i ≤ l.length → ∃ m, ok m (l.drop i)
  | l, n, 0, h, _ => ⟨n, by simpa using h⟩
  | [], n, i + 1, _, hi => by simp at hi
  | x :: l, 0, i + 1, h, _ => absurd h (by simp [ok])
  | x :: l, n + 1, i + 1, h, hi => by
    obtain ⟨m, hm⟩ := ok_drop l (n + x.2) i h (by simpa using hi)
    exact ⟨m, by simpa using hm⟩
theorem ok_drop1 {l : T} {n i : Nat} (h : ok n l) (hi : i < l.length) : ∃ m, ok (1 + m) (l.drop i) := by
  obtain ⟨m, hm⟩ := ok_drop l n i h (by omega)
  cases m with
  | zero =>
    rw [ok_zero] at hm
    have := congrArg List.length hm
    simp at this; omega
  | succ m => exact ⟨m, by rwa [Nat.add_comm]⟩
/-- the size of node i -/
def sz (l : T) (i : Nat) : Nat := fp 1 (l.drop i)
def sub (l : T) (i : Nat) : T := (l.drop i).take (sz l i)
theorem sz_pos {l : T} {i : Nat} (h : i < l.length) : 1 ≤ sz l i := by
  unfold sz
  rw [List.drop_eq_getElem_cons h]
  simp [fp]
theorem sz_le (l : T) (i : Nat) : sz l i ≤ l.length - i := by
  have := fp_le (l.drop i) 1
  simpa [sz] using this
theorem sz_end {l : T} {i : Nat} (h : i < l.length) : i + sz l i ≤ l.length := by
  have := sz_le l i
  omega
theorem ok_sub {l : T} {n i : Nat} (h : ok n l) (hi : i < l.length) : ok 1 (sub l i) := by
  obtain ⟨m, hm⟩ := ok_drop1 h hi
  exact (ok_split _ 1 m hm).1
theorem sub_len {l : T} {i : Nat} : (sub l i).length = sz l i := by
  have := sz_le l i
  simp [sub]; omega
/-- the number of parts and the label of node i -/
def ar (l : T) (i : Nat) : Nat := (l.getD i (0, 0)).2
def lb (l : T) (i : Nat) : Int := (l.getD i (0, 0)).1
theorem drop_cons {l : T} {i : Nat} (h : i < l.length) : l.drop i = (lb l i, ar l i) :: l.drop (i + 1) := by
  have e : (lb l i, ar l i) = l[i] := by simp [lb, ar, List.getD_eq_getElem?_getD, List.getElem?_eq_getElem h]
  rw [e]
  exact List.drop_eq_getElem_cons h
theorem sz_eq {l : T} {i : Nat} (h : i < l.length) : sz l i = 1 + fp (ar l i) (l.drop (i + 1)) := by
  unfold sz
  rw [drop_cons h]
  simp only [fp, Nat.zero_add]; omega
/-- where part k of node i begins (k = ar: where the node ends) -/
def chd (l : T) (i k : Nat) : Nat := i + 1 + fp k (l.drop (i + 1))
theorem chd_zero (l : T) (i : Nat) : chd l i 0 = i + 1 := by simp [chd, fp]
theorem chd_succ (l : T) (i k : Nat) : chd l i (k + 1) = chd l i k + sz l (chd l i k) := by
  unfold chd sz
  rw [fp_add, List.drop_drop]
  omega
theorem chd_end {l : T} {i : Nat} (h : i < l.length) : chd l i (ar l i) = i + sz l i := by
  rw [sz_eq h]; unfold chd; omega
theorem chd_le (l : T) (i k : Nat) (h : i < l.length) : chd l i k ≤ l.length := by
  have := fp_le (l.drop (i + 1)) k
  simp at this
  unfold chd; omega
theorem chd_mono (l : T) (i : Nat) {j k : Nat} (h : j ≤ k) : chd l i j ≤ chd l i k := by
  obtain ⟨d, rfl⟩ : ∃ d, k = j + d := ⟨k - j, by omega⟩
  unfold chd
  rw [fp_add]; omega
/-- a part begins ahead of the node's end -/
theorem chd_lt {l : T} {n i k : Nat} (h : ok n l) (hi : i < l.length) (hk : k < ar l i) : chd l i k < l.length := by
  obtain ⟨m, hm⟩ := ok_drop1 h hi
  rw [drop_cons hi, show 1 + m = m + 1 by omega] at hm
  have h1 : ok (m + ar l i) (l.drop (i + 1)) := hm
  have h2 := ok_split _ k (m + ar l i - k) (by rwa [show k + (m + ar l i - k) = m + ar l i by omega])
  have h3 := h2.2
  rw [List.drop_drop] at h3
  have hc : i + 1 + fp k (l.drop (i + 1)) = chd l i k := rfl
  rw [hc] at h3
  rcases Nat.lt_or_ge (chd l i k) l.length with q | q
  · exact q
  · rw [List.drop_eq_nil_of_le q] at h3
    obtain ⟨d, hd⟩ : ∃ d, m + ar l i - k = d + 1 := ⟨m + ar l i - k - 1, by omega⟩
    rw [hd] at h3
    exact absurd h3 (by simp [ok])
theorem chd_slt {l : T} {n i k : Nat} (h : ok n l) (hi : i < l.length) (hk : k < ar l i) : chd l i k < chd l i (k + 1) := by
  rw [chd_succ]
  have := sz_pos (chd_lt h hi hk)
  omega
/-- what begins within n trees ends there -/
theorem fp_nest : ∀ (l : T) (n j : Nat), j < fp n l → j + fp 1 (l.drop j) ≤ fp n l
  | [], n, j, h => by cases n <;> simp [fp] at h
  | x :: l, 0, j, h => by simp [fp] at h
  | x :: l, n + 1, 0, h => by
    have := fp_add (x :: l) 1 n
    rw [show 1 + n = n + 1 by omega] at this
    rw [this]; simp
  | x :: l, n + 1, j + 1, h => by
    simp only [fp] at h ⊢
    have := fp_nest l (n + x.2) j (by omega)
    simp only [List.drop_succ_cons]; omega
theorem nest {l : T} {i j : Nat} (h1 : i ≤ j) (h2 : j < i + sz l i) : j + sz l j ≤ i + sz l i := by
  have := fp_nest (l.drop i) 1 (j - i) (by unfold sz at h2; omega)
  rw [List.drop_drop, show i + (j - i) = j by omega] at this
  unfold sz; omega
/-- what lies within a node lies in one of its parts -/
theorem in_part {l : T} {i j : Nat} (hi : i < l.length) (h1 : i < j) (h2 : j < i + sz l i) : ∃ k, k < ar l i ∧ chd l i k ≤ j ∧ j < chd l i (k + 1) := by
  rw [← chd_end hi] at h2
  have key : ∀ m, j < chd l i m → ∃ k, k < m ∧ chd l i k ≤ j ∧ j < chd l i (k + 1) := by
    intro m
    induction m with
    | zero => intro h; rw [chd_zero] at h; omega
    | succ m ih =>
      intro h
      rcases Nat.lt_or_ge j (chd l i m) with q | q
      · obtain ⟨k, a, b, c⟩ := ih q
        exact ⟨k, by omega, b, c⟩
      · exact ⟨m, by omega, q, h⟩
  exact key _ h2
theorem ok_len : ∀ (l : T) (n : Nat), ok n l → n ≤ l.length
  | [], 0, _ => by simp
  | [], n + 1, h => absurd h (by simp [ok])
  | x :: l, 0, _ => by simp
  | x :: l, n + 1, h => by
    have := ok_len l (n + x.2) h
    simp only [List.length_cons]; omega
theorem ar_lt {l : T} {n i : Nat} (h : ok n l) (hi : i < l.length) : ar l i < l.length := by
  obtain ⟨m, hm⟩ := ok_drop1 h hi
  rw [drop_cons hi, show 1 + m = m + 1 by omega] at hm
  have h1 : ok (m + ar l i) (l.drop (i + 1)) := hm
  have := ok_len _ _ h1
  simp at this; omega
/-- a tree that may stand in memory: at most 16 nodes, its code right -/
def Wt (t : T) : Prop := t.length ≤ 16 ∧ (t ≠ [] → ok 1 t)
theorem Wt.ok {t : T} (h : Wt t) {i : Nat} (hi : i < t.length) : ok 1 t := h.2 (fun e => by rw [e] at hi; simp at hi)
/-- proper ancestors of node i: nodes ahead of it that end behind it -/
def anc (l : T) (i : Nat) : List Nat := (List.range i).filter (fun j => decide (i < j + sz l j))
def dep (l : T) (i : Nat) : Nat := (anc l i).length
