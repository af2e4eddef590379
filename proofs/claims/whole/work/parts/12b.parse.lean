/-! what is on the pad as a tree -/
def bump : T → Nat → T
  | [], _ => []
  | x :: l, 0 => (x.1, x.2 + 1) :: l
  | x :: l, j + 1 => x :: bump l j
theorem bump_len : ∀ (t : T) (j : Nat), (bump t j).length = t.length
  | [], _ => rfl
  | x :: l, 0 => rfl
  | x :: l, j + 1 => by simp [bump, bump_len l j]
theorem bump_lb : ∀ (t : T) (j i : Nat), lb (bump t j) i = lb t i
  | [], _, _ => rfl
  | x :: l, 0, 0 => rfl
  | x :: l, 0, i + 1 => by simp [bump, lb]
  | x :: l, j + 1, 0 => rfl
  | x :: l, j + 1, i + 1 => by
    have := bump_lb l j i
    simpa [bump, lb] using this
theorem bump_ar : ∀ (t : T) (j i : Nat), j < t.length → ar (bump t j) i = ar t i + (if i = j then 1 else 0)
  | [], _, _, h => by simp at h
  | x :: l, 0, 0, _ => by simp [bump, ar]
  | x :: l, 0, i + 1, _ => by simp [bump, ar]
  | x :: l, j + 1, 0, _ => by simp [bump, ar]
  | x :: l, j + 1, i + 1, h => by
    have := bump_ar l j i (by simpa using h)
    simpa [bump, ar] using this
theorem bump_drop : ∀ (t : T) (j k : Nat), k ≤ j → (bump t j).drop k = bump (t.drop k) (j - k)
  | t, j, 0, _ => by simp
  | [], j, k + 1, _ => by simp [bump]
  | x :: l, 0, k + 1, h => by omega
  | x :: l, j + 1, k + 1, h => by
    have := bump_drop l j k (by omega)
    simpa [bump] using this
theorem ok_grow : ∀ (l : T) (n j : Nat) (c : Int), ok n l → j < l.length → j + sz l j = l.length → ok n (bump l j ++ [(c, 0)])
  | [], n, j, c, h, hj, hs => by simp at hj
  | x :: l, 0, j, c, h, hj, hs => absurd h (by simp [ok])
  | x :: l, n + 1, 0, c, h, hj, hs => by
    have h' : ok (n + x.2) l := h
    have e : fp x.2 l = l.length := by
      simp only [sz, List.drop_zero, fp, Nat.zero_add, List.length_cons] at hs
      omega
    have sp := ok_split l x.2 n (by rwa [Nat.add_comm])
    rw [e, List.take_length, List.drop_length] at sp
    have hn : n = 0 := by
      cases n with
      | zero => rfl
      | succ n => exact absurd sp.2 (by simp [ok])
    subst hn
    show ok (0 + (x.2 + 1)) (l ++ [(c, 0)])
    rw [Nat.zero_add]
    exact ok_app l [(c, 0)] x.2 1 sp.1 (by simp [ok])
  | x :: l, n + 1, j + 1, c, h, hj, hs => by
    have e : sz (x :: l) (j + 1) = sz l j := by simp [sz]
    rw [e] at hs
    simp only [List.length_cons] at hs
    exact ok_grow l (n + x.2) j c h (by simpa using hj) (by omega)
theorem sz_grow {l : T} {n j k : Nat} {c : Int} (h : ok n l) (hj : j < l.length) (hs : j + sz l j = l.length) (hk : k ≤ j) (hks : k + sz l k = l.length) : k + sz (bump l j ++ [(c, 0)]) k = l.length + 1 := by
  have hkl : k < l.length := by omega
  have hsub : ok 1 (l.drop k) := by
    have := ok_sub h hkl
    unfold sub at this
    rwa [List.take_of_length_le (by simp; omega)] at this
  have e1 : sz (l.drop k) (j - k) = sz l j := by
    unfold sz; rw [List.drop_drop]
    congr 2; omega
  have hg := ok_grow (l.drop k) 1 (j - k) c hsub (by simp; omega) (by rw [e1]; simp; omega)
  have e2 : (bump l j ++ [(c, 0)]).drop k = bump (l.drop k) (j - k) ++ [(c, 0)] := by
    rw [List.drop_append_of_le_length (by rw [bump_len]; omega), bump_drop l j k hk]
  have e3 : sz (bump l j ++ [(c, 0)]) k = l.length - k + 1 := by
    unfold sz
    rw [e2, ok_fp' hg]
    simp [bump_len]
  omega
/-- one sign more: the tree so far, and the nodes that are open, the last first -/
def pS (st : T × List Nat) (m : Int) : T × List Nat :=
  if m = 40 then (st.1, (st.1.length - 1) :: st.2) else if m = 41 then (st.1, st.2.tail) else
    ((match st.2 with | [] => st.1 | j :: _ => bump st.1 j) ++ [(m, 0)], st.2)
def pR (p : List Int) : T × List Nat := p.foldl pS ([], [])
theorem pR_succ {p : List Int} {i : Nat} (hi : i < p.length) : pR (p.take (i + 1)) = pS (pR (p.take i)) (p.getD i 0) := by
  unfold pR
  rw [List.take_succ, List.foldl_append]
  simp [hi]
def nl (p : List Int) : Nat := (p.filter (fun m => !(m == 40) && !(m == 41))).length
theorem nl_succ {p : List Int} {i : Nat} (hi : i < p.length) : nl (p.take (i + 1)) = nl (p.take i) + (if p.getD i 0 = 40 ∨ p.getD i 0 = 41 then 0 else 1) := by
  unfold nl
  rw [List.take_succ, List.filter_append, List.length_append]
  congr 1
  simp only [List.getElem?_eq_getElem hi, Option.toList_some, List.getD_eq_getElem?_getD, Option.getD_some, List.filter_cons, List.filter_nil]
  by_cases h1 : p[i] = 40
  · simp [h1]
  · by_cases h2 : p[i] = 41
    · simp [h2]
    · simp [h1, h2]
theorem nl_mono {p : List Int} : ∀ {i j : Nat}, i ≤ j → j ≤ p.length → nl (p.take i) ≤ nl (p.take j)
  | i, 0, h, _ => by rw [show i = 0 by omega]; exact Nat.le_refl _
  | i, j + 1, h, hj => by
    by_cases e : i = j + 1
    · rw [e]; exact Nat.le_refl _
    · have := nl_mono (p := p) (i := i) (j := j) (by omega) (by omega)
      rw [nl_succ (by omega)]
      omega
theorem pS_len (st : T × List Nat) (m : Int) : (pS st m).1.length = st.1.length + (if m = 40 ∨ m = 41 then 0 else 1) := by
  unfold pS
  by_cases h1 : m = 40
  · rw [if_pos h1, if_pos (Or.inl h1)]; rfl
  · by_cases h2 : m = 41
    · rw [if_neg h1, if_pos h2, if_pos (Or.inr h2)]; rfl
    · rw [if_neg h1, if_neg h2, if_neg (by omega)]
      cases st.2 with
      | nil => simp
      | cons j r => simp [bump_len]
theorem pR_len {p : List Int} : ∀ i, i ≤ p.length → (pR (p.take i)).1.length = nl (p.take i)
  | 0, _ => by simp [pR, nl]
  | i + 1, h => by rw [pR_succ (by omega), pS_len, pR_len i (by omega), nl_succ (by omega)]
/-- what stands when a valid beginning is read: tree, open nodes, the last sign, how many are open -/
def PI (t : T) (st : List Nat) (l o : Int) : Prop :=
  (l = 0 ↔ t = []) ∧ (t ≠ [] → ok 1 t) ∧ (∀ j ∈ st, j < t.length ∧ j + sz t j = t.length ∧ isLb (lb t j) = true) ∧ st.Pairwise (fun a b => b < a) ∧ (l ≠ 0 → l ≠ 40 → l ≠ 41 → lb t (t.length - 1) = l ∧ ar t (t.length - 1) = 0 ∧ ∀ j ∈ st, j < t.length - 1) ∧ o = st.length ∧ (∀ i, i < t.length → isLb (lb t i) = true ∨ (isH (lb t i) = true ∧ ar t i = 0)) ∧ (l = 40 → 0 < o)
theorem sz_last {t : T} (h : t ≠ []) (h0 : ar t (t.length - 1) = 0) : sz t (t.length - 1) = 1 := by
  have hp : 0 < t.length := List.length_pos_iff.mpr h
  rw [sz_eq (by omega), h0]; simp [fp]
theorem PI.step {t : T} {st : List Nat} {l o m : Int} (h : PI t st l o) (hm : mayF l m o = true) (h0 : m ≠ 0) : PI (pS (t, st) m).1 (pS (t, st) m).2 m (fO m o) := by
  obtain ⟨h1, h2, h3, h4, h5, h6, h7, h8⟩ := h
  unfold pS fO
  by_cases c1 : m = 40
  · subst c1
    rw [if_pos rfl, if_pos rfl]
    have hl : ¬ (l = 0 ∨ l = 40) := fun q => by
      unfold mayF at hm; rw [if_pos q] at hm; revert hm; decide
    have hlb : isLb l = true := by
      unfold mayF at hm; rwa [if_neg hl, if_pos rfl] at hm
    have hlr := isLb_iff.mp hlb
    have hne : t ≠ [] := fun e => hl (Or.inl (h1.mpr e))
    have hp : 0 < t.length := List.length_pos_iff.mpr hne
    obtain ⟨g1, g2, g3⟩ := h5 (by omega) (by omega) (by omega)
    refine ⟨⟨fun e => by omega, fun e => absurd e hne⟩, h2, fun j hj => ?_, ?_, fun a b => absurd rfl b, ?_, h7, fun _ => by omega⟩
    · rcases List.mem_cons.mp hj with e | e
      · subst e
        have := sz_last hne g2
        exact ⟨by show t.length - 1 < t.length; omega, by show t.length - 1 + sz t (t.length - 1) = t.length; omega, by show isLb (lb t (t.length - 1)) = true; rw [g1]; exact hlb⟩
      · exact h3 j e
    · exact List.pairwise_cons.mpr ⟨fun j hj => g3 j hj, h4⟩
    · show o + 1 = (((t.length - 1) :: st).length : Nat)
      simp; omega
  · rw [if_neg c1, if_neg c1]
    by_cases c2 : m = 41
    · subst c2
      rw [if_pos rfl, if_pos rfl]
      have hl : ¬ (l = 0 ∨ l = 40) := fun q => by
        unfold mayF at hm; rw [if_pos q] at hm; revert hm; decide
      have ho : 0 < o := by
        unfold mayF at hm
        rw [if_neg hl, if_neg c1] at hm
        simp at hm; exact hm
      have hne : t ≠ [] := fun e => hl (Or.inl (h1.mpr e))
      refine ⟨⟨fun e => by omega, fun e => absurd e hne⟩, h2, fun j hj => h3 j (List.mem_of_mem_tail hj), h4.tail, fun a b c => absurd rfl c, ?_, h7, fun e => by omega⟩
      show o - 1 = (st.tail.length : Nat)
      rw [List.length_tail]; omega
    · rw [if_neg c2, if_neg c2]
      have hlet : isLb m = true ∨ isH m = true := by
        unfold mayF at hm
        split at hm
        · simpa using hm
        · (try rw [if_neg c1] at hm)
          simp [c2] at hm
          exact hm.2
      cases st with
      | nil =>
        have hl : l = 0 := by
          rcases Int.lt_trichotomy l 0 with q | q | q
          · unfold mayF at hm
            rw [if_neg (by omega), if_neg c1] at hm
            simp at hm h6; omega
          · exact q
          · by_cases q4 : l = 40
            · have := h8 q4
              simp at h6; omega
            · unfold mayF at hm
              rw [if_neg (by omega), if_neg c1] at hm
              simp at hm h6; omega
        have ht := h1.mp hl
        subst ht
        refine ⟨⟨fun e => absurd e h0, fun e => by simp at e⟩, fun _ => by simp [ok], fun j hj => by simp at hj, h4, fun a b c => ⟨rfl, rfl, fun j hj => by simp at hj⟩, h6, fun i hi => ?_, fun e => by omega⟩
        have : i = 0 := by simpa using hi
        subst this
        rcases hlet with q | q
        · exact Or.inl q
        · exact Or.inr ⟨q, rfl⟩
      | cons j r =>
        obtain ⟨j1, j2, j3⟩ := h3 j (by simp)
        have hne : t ≠ [] := fun e => by rw [e] at j1; simp at j1
        have hok := h2 hne
        have hlen : (bump t j ++ [(m, 0)]).length = t.length + 1 := by simp [bump_len]
        have hlb : ∀ i, i < t.length → lb (bump t j ++ [(m, 0)]) i = lb t i := fun i hi => by rw [(lb_app_lt (by rw [bump_len]; exact hi)).1, bump_lb]
        have har : ∀ i, i < t.length → ar (bump t j ++ [(m, 0)]) i = ar t i + (if i = j then 1 else 0) := fun i hi => by rw [(lb_app_lt (by rw [bump_len]; exact hi)).2, bump_ar t j i j1]
        have hlast : lb (bump t j ++ [(m, 0)]) t.length = m ∧ ar (bump t j ++ [(m, 0)]) t.length = 0 := by
          have := lb_app (t := bump t j) (p := (m, 0))
          rwa [bump_len] at this
        refine ⟨⟨fun e => absurd e h0, fun e => by simp at e⟩, fun _ => ok_grow t 1 j m hok j1 j2, fun k hk => ?_, h4, fun a b c => ?_, h6, fun i hi => ?_, fun e => by omega⟩
        · obtain ⟨k1, k2, k3⟩ := h3 k hk
          have hkj : k ≤ j := by
            rcases List.mem_cons.mp hk with e | e
            · omega
            · have := (List.pairwise_cons.mp h4).1 k e
              omega
          exact ⟨by show k < (bump t j ++ [(m, 0)]).length; omega, by show k + sz (bump t j ++ [(m, 0)]) k = (bump t j ++ [(m, 0)]).length; rw [hlen]; exact sz_grow hok j1 j2 hkj k2, by show isLb (lb (bump t j ++ [(m, 0)]) k) = true; rw [hlb k k1]; exact k3⟩
        · show lb (bump t j ++ [(m, 0)]) ((bump t j ++ [(m, 0)]).length - 1) = m ∧ ar (bump t j ++ [(m, 0)]) ((bump t j ++ [(m, 0)]).length - 1) = 0 ∧ ∀ k ∈ j :: r, k < (bump t j ++ [(m, 0)]).length - 1
          rw [hlen, Nat.add_sub_cancel]
          exact ⟨hlast.1, hlast.2, fun k hk => (h3 k hk).1⟩
        · show isLb (lb (bump t j ++ [(m, 0)]) i) = true ∨ (isH (lb (bump t j ++ [(m, 0)]) i) = true ∧ ar (bump t j ++ [(m, 0)]) i = 0)
          have hi' : i < t.length + 1 := by rw [← hlen]; exact hi
          by_cases e : i = t.length
          · subst e
            rw [hlast.1, hlast.2]
            rcases hlet with q | q
            · exact Or.inl q
            · exact Or.inr ⟨q, rfl⟩
          · have hit : i < t.length := by omega
            rw [hlb i hit, har i hit]
            by_cases ej : i = j
            · left; rw [ej]; exact j3
            · rw [if_neg ej]; exact h7 i hit
theorem vp {p : List Int} (hg : good p 0 0) (hr : ∀ x ∈ p, 33 ≤ x ∧ x ≤ 126) : ∀ i, i ≤ p.length → ∃ o l, PI (pR (p.take i)).1 (pR (p.take i)).2 l o ∧ good (p.drop i) o l ∧ (∀ i', i = i' + 1 → l = p.getD i' 0) ∧ (i = 0 → l = 0)
  | 0, _ => ⟨0, 0, ⟨by simp [pR], by simp [pR], by simp [pR], by simp [pR], by simp, by simp [pR], by simp [pR], by simp⟩, by simpa using hg, fun i' h => by omega, fun _ => rfl⟩
  | i + 1, hi => by
    have hil : i < p.length := by omega
    obtain ⟨o, l, h1, h2, h3, -⟩ := vp hg hr i (by omega)
    rw [pad_at hil] at h2
    obtain ⟨h4, h5⟩ := h2
    have hm := hr _ (getD_mem hil)
    refine ⟨fO (p.getD i 0) o, p.getD i 0, ?_, h5, fun i' e => by rw [show i' = i by omega], fun e => by omega⟩
    rw [pR_succ hil]
    exact h1.step h4 (by omega)
/-- and which sign may come next -/
theorem vp_may {p : List Int} {i : Nat} {o l : Int} (hi : i < p.length) (h : good (p.drop i) o l) : mayF l (p.getD i 0) o = true := by
  rw [pad_at hi] at h; exact h.1
theorem read_ok {p : List Int} (hg : good p 0 0) (hr : ∀ x ∈ p, 33 ≤ x ∧ x ≤ 126) (h16 : nl p ≤ 16) : Wd (pR p).1 ∧ (pR p).1.length = nl p := by
  obtain ⟨o, l, h1, h2, -, -⟩ := vp hg hr p.length (by omega)
  have hl := pR_len (p := p) p.length (by omega)
  rw [List.take_length] at h1 hl
  refine ⟨⟨⟨by omega, h1.2.1⟩, fun q hq => ?_⟩, hl⟩
  obtain ⟨i, hi, e⟩ := List.getElem_of_mem hq
  have e1 : lb (pR p).1 i = q.1 ∧ ar (pR p).1 i = q.2 := by simp [lb, ar, hi, e]
  rcases h1.2.2.2.2.2.2.1 i hi with g | g
  · left
    rw [e1.1] at g
    exact isLb_iff.mp g
  · right
    rw [e1.1, e1.2] at g; exact g
/-! how many parts the reference counts -/
theorem pS_lb (st : T × List Nat) (m : Int) {j : Nat} (hj : j < st.1.length) : lb (pS st m).1 j = lb st.1 j := by
  unfold pS
  by_cases h1 : m = 40
  · rw [if_pos h1]
  · by_cases h2 : m = 41
    · rw [if_neg h1, if_pos h2]
    · rw [if_neg h1, if_neg h2]
      cases st.2 with
      | nil => exact (lb_app_lt hj).1
      | cons k r => show lb (bump st.1 k ++ [(m, 0)]) j = _; rw [(lb_app_lt (by rw [bump_len]; exact hj)).1, bump_lb]
theorem lb_stab {p : List Int} {n : Nat} : ∀ (d i : Nat), i + d = p.length → n < (pR (p.take i)).1.length → lb (pR p).1 n = lb (pR (p.take i)).1 n
  | 0, i, h, _ => by rw [show i = p.length by omega, List.take_length]
  | d + 1, i, h, hn => by
    have hi : i < p.length := by omega
    have h1 : n < (pR (p.take (i + 1))).1.length := by rw [pR_succ hi, pS_len]; omega
    rw [lb_stab d (i + 1) (by omega) h1, pR_succ hi, pS_lb _ _ hn]
theorem ar_stab {p : List Int} (hg : good p 0 0) (hr : ∀ x ∈ p, 33 ≤ x ∧ x ≤ 126) {n : Nat} : ∀ (d i : Nat), i + d = p.length → n < (pR (p.take i)).1.length → n ∉ (pR (p.take i)).2 → (n + 1 < (pR (p.take i)).1.length ∨ p.getD i 0 ≠ 40) → ar (pR p).1 n = ar (pR (p.take i)).1 n
  | 0, i, h, _, _, _ => by rw [show i = p.length by omega, List.take_length]
  | d + 1, i, h, hn, hs, hc => by
    have hi : i < p.length := by omega
    have ih := ar_stab hg hr (n := n) d (i + 1) (by omega)
    have hlen := pS_len (pR (p.take i)) (p.getD i 0)
    rw [pR_succ hi] at ih
    by_cases c1 : p.getD i 0 = 40
    · have hn1 : n + 1 < (pR (p.take i)).1.length := by
        rcases hc with q | q
        · exact q
        · exact absurd c1 q
      have e : pS (pR (p.take i)) (p.getD i 0) = ((pR (p.take i)).1, ((pR (p.take i)).1.length - 1) :: (pR (p.take i)).2) := by unfold pS; rw [if_pos c1]
      rw [e] at ih
      refine ih hn (fun q => ?_) (Or.inl hn1)
      rcases List.mem_cons.mp q with q | q
      · omega
      · exact hs q
    · by_cases c2 : p.getD i 0 = 41
      · have e : pS (pR (p.take i)) (p.getD i 0) = ((pR (p.take i)).1, (pR (p.take i)).2.tail) := by unfold pS; rw [if_neg c1, if_pos c2]
        rw [e] at ih
        refine ih hn (fun q => hs (List.mem_of_mem_tail q)) (Or.inr (fun q => ?_))
        obtain ⟨o, l, v1, v2, v3, -⟩ := vp hg hr (i + 1) (by omega)
        have hl := v3 i rfl
        rw [c2] at hl
        rcases Nat.lt_or_ge (i + 1) p.length with g | g
        · have hm := vp_may g v2
          rw [q, hl] at hm
          unfold mayF at hm
          rw [if_neg (by omega), if_pos rfl] at hm
          revert hm; decide
        · rw [List.getD_eq_getElem?_getD, List.getElem?_eq_none (by omega)] at q
          simp at q
      · rw [if_neg (by omega)] at hlen
        have e2 : (pS (pR (p.take i)) (p.getD i 0)).2 = (pR (p.take i)).2 := by unfold pS; rw [if_neg c1, if_neg c2]
        have := ih (by omega) (by rw [e2]; exact hs) (Or.inl (by omega))
        rw [this]
        unfold pS
        rw [if_neg c1, if_neg c2]
        cases hst : (pR (p.take i)).2 with
        | nil => exact (lb_app_lt hn).2
        | cons k r =>
          obtain ⟨o, l, v1, -, -, -⟩ := vp hg hr i (by omega)
          have hk := (v1.2.2.1 k (by rw [hst]; simp)).1
          show ar (bump (pR (p.take i)).1 k ++ [(p.getD i 0, 0)]) n = _
          rw [(lb_app_lt (by rw [bump_len]; exact hn)).2, bump_ar _ _ _ hk, if_neg (fun q => hs (by rw [hst, q]; simp))]
          rfl
/-- the reference's scan from the letter at k on -/
def Scn (p : List Int) (k i d c : Nat) : Prop := ∃ L, (pR (p.take i)).2 = L ++ (pR (p.take k)).2 ∧ L.length = d ∧ (0 < d → L.getLast? = some (pR (p.take k)).1.length) ∧ ar (pR (p.take i)).1 (pR (p.take k)).1.length = c ∧ (pR (p.take k)).1.length < (pR (p.take i)).1.length
theorem Scn.start {p : List Int} {k : Nat} (hk : k < p.length) (hl : ¬ (p.getD k 0 = 40 ∨ p.getD k 0 = 41)) : Scn p k (k + 1) 0 0 ∧ (pR (p.take (k + 1))).1.length = (pR (p.take k)).1.length + 1 ∧ lb (pR (p.take (k + 1))).1 (pR (p.take k)).1.length = p.getD k 0 := by
  have e1 : (pS (pR (p.take k)) (p.getD k 0)).2 = (pR (p.take k)).2 := by unfold pS; rw [if_neg (by omega), if_neg (by omega)]
  have e2 := pS_len (pR (p.take k)) (p.getD k 0)
  rw [if_neg hl] at e2
  have e3 : ar (pS (pR (p.take k)) (p.getD k 0)).1 (pR (p.take k)).1.length = 0 ∧ lb (pS (pR (p.take k)) (p.getD k 0)).1 (pR (p.take k)).1.length = p.getD k 0 := by
    unfold pS
    rw [if_neg (by omega), if_neg (by omega)]
    cases (pR (p.take k)).2 with
    | nil => exact ⟨lb_app.2, lb_app.1⟩
    | cons j r =>
      have := lb_app (t := bump (pR (p.take k)).1 j) (p := (p.getD k 0, 0))
      rw [bump_len] at this
      exact ⟨this.2, this.1⟩
  refine ⟨⟨[], ?_, rfl, fun h => by omega, ?_, ?_⟩, ?_, ?_⟩
  · rw [pR_succ hk, e1]; rfl
  · rw [pR_succ hk]; exact e3.1
  · rw [pR_succ hk]; omega
  · rw [pR_succ hk]; exact e2
  · rw [pR_succ hk]; exact e3.2
theorem Scn.step {p : List Int} (hg : good p 0 0) (hr : ∀ x ∈ p, 33 ≤ x ∧ x ≤ 126) {k i d c : Nat} (h : Scn p k i d c) (hi : i < p.length) (hki : k + 1 ≤ i) (hc : (i = k + 1 ∧ d = 0 ∧ p.getD i 0 = 40 ∧ (pR (p.take i)).1.length = (pR (p.take k)).1.length + 1) ∨ 0 < d) :
    Scn p k (i + 1) (if p.getD i 0 = 40 then d + 1 else if p.getD i 0 = 41 then d - 1 else d) (if ¬ (p.getD i 0 = 40 ∨ p.getD i 0 = 41) ∧ d = 1 then c + 1 else c) := by
  obtain ⟨L, h1, h2, h3, h4, h5⟩ := h
  obtain ⟨o, l, v1, v2, -, -⟩ := vp hg hr i (by omega)
  have hlen := pS_len (pR (p.take i)) (p.getD i 0)
  unfold Scn
  rw [pR_succ hi]
  by_cases c1 : p.getD i 0 = 40
  · have e : pS (pR (p.take i)) (p.getD i 0) = ((pR (p.take i)).1, ((pR (p.take i)).1.length - 1) :: (pR (p.take i)).2) := by unfold pS; rw [if_pos c1]
    rw [e, if_pos c1, if_neg (by omega)]
    refine ⟨((pR (p.take i)).1.length - 1) :: L, by simp [h1], by simp [h2], fun _ => ?_, h4, h5⟩
    rcases hc with ⟨-, g1, -, g2⟩ | g
    · have : L = [] := List.length_eq_zero_iff.mp (by omega)
      rw [this, g2]; simp
    · have hL : L ≠ [] := fun q => by rw [q] at h2; simp at h2; omega
      rw [← h3 g]
      cases L with
      | nil => exact absurd rfl hL
      | cons a L' => rw [List.getLast?_cons_cons]
  · have hd : 0 < d := by
      rcases hc with ⟨-, -, g, -⟩ | g
      · exact absurd g c1
      · exact g
    rw [if_neg c1]
    by_cases c2 : p.getD i 0 = 41
    · have e : pS (pR (p.take i)) (p.getD i 0) = ((pR (p.take i)).1, (pR (p.take i)).2.tail) := by unfold pS; rw [if_neg c1, if_pos c2]
      rw [e, if_pos c2, if_neg (by omega)]
      cases L with
      | nil => simp at h2; omega
      | cons a L' =>
        refine ⟨L', by rw [h1]; rfl, by simp at h2; omega, fun g => ?_, h4, h5⟩
        have hL' : L' ≠ [] := fun q => by rw [q] at h2; simp at h2; omega
        rw [← h3 hd]
        cases L' with
        | nil => exact absurd rfl hL'
        | cons b L'' => rw [List.getLast?_cons_cons]
    · rw [if_neg c2]
      cases L with
      | nil => simp at h2; omega
      | cons a L' =>
        have hst : (pR (p.take i)).2 = a :: (L' ++ (pR (p.take k)).2) := by rw [h1]; rfl
        have ha := (v1.2.2.1 a (by rw [hst]; simp)).1
        have e : pS (pR (p.take i)) (p.getD i 0) = (bump (pR (p.take i)).1 a ++ [(p.getD i 0, 0)], (pR (p.take i)).2) := by unfold pS; rw [if_neg c1, if_neg c2, hst]
        rw [e]
        refine ⟨a :: L', h1, h2, h3, ?_, by simp [bump_len]; omega⟩
        show ar (bump (pR (p.take i)).1 a ++ [(p.getD i 0, 0)]) _ = _
        rw [(lb_app_lt (by rw [bump_len]; exact h5)).2, bump_ar _ _ _ ha, h4]
        by_cases hd1 : d = 1
        · have : L' = [] := List.length_eq_zero_iff.mp (by simp at h2; omega)
          subst this
          have := h3 hd
          simp at this
          rw [if_pos this.symm, if_pos ⟨by omega, hd1⟩]
        · have hL' : L' ≠ [] := fun q => by rw [q] at h2; simp at h2; omega
          have hmem : (pR (p.take k)).1.length ∈ L' := by
            have := h3 hd
            cases L' with
            | nil => exact absurd rfl hL'
            | cons b L'' => rw [List.getLast?_cons_cons] at this; exact List.mem_of_getLast? this
          have hpw := v1.2.2.2.1
          rw [hst] at hpw
          have := (List.pairwise_cons.mp hpw).1 _ (List.mem_append_left _ hmem)
          rw [if_neg (by omega), if_neg (by omega)]; rfl
theorem Scn.fin {p : List Int} (hg : good p 0 0) (hr : ∀ x ∈ p, 33 ≤ x ∧ x ≤ 126) {k i d c : Nat} (h : Scn p k i d c) (hi : i ≤ p.length) (hki : k + 1 ≤ i) (hc : i = p.length ∨ (d = 0 ∧ (p.getD i 0 ≠ 40 ∨ p.getD (i - 1) 0 = 41))) : ar (pR p).1 (pR (p.take k)).1.length = c := by
  obtain ⟨L, h1, h2, h3, h4, h5⟩ := h
  rcases hc with e | ⟨hd, hc⟩
  · rw [e, List.take_length] at h4; exact h4
  · have hL : L = [] := List.length_eq_zero_iff.mp (by omega)
    subst hL
    obtain ⟨o, l, v1, -, -, -⟩ := vp hg hr k (by omega)
    have hn : (pR (p.take k)).1.length ∉ (pR (p.take i)).2 := by
      rw [h1, List.nil_append]
      intro q
      have := (v1.2.2.1 _ q).1
      omega
    rw [← h4]
    refine ar_stab hg hr (p.length - i) i (by omega) h5 hn (Or.inr ?_)
    rcases hc with q | q
    · exact q
    · intro q2
      obtain ⟨o', l', w1, w2, w3, -⟩ := vp hg hr i hi
      have hl := w3 (i - 1) (by omega)
      rw [q] at hl
      rcases Nat.lt_or_ge i p.length with g | g
      · have hm := vp_may g w2
        rw [q2, hl] at hm
        unfold mayF at hm
        rw [if_neg (by omega), if_pos rfl] at hm
        revert hm; decide
      · rw [List.getD_eq_getElem?_getD, List.getElem?_eq_none (by omega)] at q2
        simp at q2
