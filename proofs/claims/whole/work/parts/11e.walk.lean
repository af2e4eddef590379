/-! walks: the pure side -/
def EnvIn (t : T) (env : EnvT) : Prop := ∀ c s, env c = some s → ∃ n : Nat, n < t.length ∧ s = sub t n
theorem fit_in {l t : T} {i : Nat} {env' : EnvT} (wl : Wd l) (hf : fitAt l t i = some env') : ∀ (d p a : Nat) (env : EnvT), l.length - p = d → FitAt l t i p a env → EnvIn t env → EnvIn t env'
  | 0, p, a, env, hd, h, he => by
    have hp : p = l.length := by have := h.1; omega
    subst hp
    have := h.fin
    rw [hf] at this
    rw [Option.some.inj this]; exact he
  | d + 1, p, a, env, hd, h, he => by
    have hp : p < l.length := by omega
    have ha := h.lt hp
    by_cases hh : isH (lb l p) = true
    · have h0 := wl.hole hp hh
      cases hc : env (lb l p) with
      | none =>
        refine fit_in wl hf d _ _ _ (by omega) (h.new hp hh h0 hc) (fun c s hs => ?_)
        unfold eset at hs
        split at hs
        · exact ⟨a, ha, (Option.some.inj hs).symm⟩
        · exact he c s hs
      | some s =>
        by_cases e : s = sub t a
        · exact fit_in wl hf d _ _ _ (by omega) (h.old hp hh h0 (by rw [hc, e])) he
        · have := h.no hp hh hc e
          rw [hf] at this; cases this
    · have hh' : isH (lb l p) = false := Bool.eq_false_iff.mpr hh
      by_cases e : lb l p = lb t a ∧ ar l p = ar t a
      · exact fit_in wl hf d _ _ _ (by omega) (h.lab hp hh' e) he
      · have := h.nolab hp hh' e
        rw [hf] at this; cases this
theorem fit_rtb {l rt t : T} {i : Nat} {env : EnvT} (wr : Wr l rt) (ht : ok 1 t) (hi : i < t.length) (hf : fitAt l t i = some env) : ∃ M : Mem, RtB M 0 t env rt := by
  have hin : EnvIn t env := fit_in wr.1 hf l.length 0 i env0 (by omega) (FitAt.start (wr.1.1.ok (List.length_pos_iff.mpr wr.2.2.1)) ht hi) (fun c s hs => by cases hs)
  have hex : ∀ p ∈ rt, isH p.1 = true → p.2 = 0 ∧ ∃ n : Nat, n < t.length ∧ env p.1 = some (sub t n) := by
    intro p hp hh
    refine ⟨?_, ?_⟩
    · rcases wr.2.1.2 p hp with g | g
      · rw [isH_iff] at hh; omega
      · exact g.2
    · have h1 : holeIn rt p.1 = true := by
        unfold holeIn
        rw [List.any_eq_true]
        exact ⟨p, hp, by simp⟩
      obtain ⟨s, hs⟩ := (mtc_dom _ _ _ _ hf).2 p.1 hh (wr.2.2.2.2.2 p.1 hh h1)
      obtain ⟨n, n1, n2⟩ := hin _ _ hs
      exact ⟨n, n1, by rw [hs, n2]⟩
  refine ⟨fun _ j => @dite Int (∃ n : Nat, n < t.length ∧ env (65 + j) = some (sub t n)) (Classical.propDecidable _) (fun h => ((Classical.choose h : Nat) : Int)) (fun _ => 0), fun p hp hh => ?_⟩
  obtain ⟨h0, hx⟩ := hex p hp hh
  have hx' : ∃ n : Nat, n < t.length ∧ env (65 + (p.1 - 65)) = some (sub t n) := by rw [show 65 + (p.1 - 65) = p.1 by omega]; exact hx
  refine ⟨h0, Classical.choose hx', (Classical.choose_spec hx').1, ?_, ?_⟩
  · exact (congrArg env (show p.1 = 65 + (p.1 - 65) by omega)).trans (Classical.choose_spec hx').2
  · simp only [dif_pos hx']
theorem fs_range {α : Type} {f : Nat → Option α} {n m : Nat} {v : α} (hm : m < n) (h : ∀ k, k < m → f k = none) (hf : f m = some v) : (List.range n).findSome? f = some v := by
  obtain ⟨d, rfl⟩ : ∃ d, n = m + (1 + d) := ⟨n - m - 1, by omega⟩
  rw [List.range_add, List.findSome?_append]
  have h1 : (List.range m).findSome? f = none := by
    rw [List.findSome?_eq_none_iff]
    intro x hx
    exact h x (by simpa using hx)
  rw [h1, List.range_add]
  simp [hf]
theorem ff_none {lf : Int → T} {nr : Nat} {w : Bool} {t : T} (h : ∀ k, k < t.length → ∀ r : Nat, r < nr → fitAt (lf r) t (ordOf w t k) = none) : firstFit lf nr w t = none := by
  unfold firstFit
  rw [List.findSome?_eq_none_iff]
  intro k hk
  rw [List.findSome?_eq_none_iff]
  intro r hr
  rw [h k (by simpa using hk) r (by simpa using hr)]; rfl
theorem ff_some {lf : Int → T} {nr : Nat} {w : Bool} {t : T} {n q : Nat} {env : EnvT} (hn : n < t.length) (hq : q < nr) (h1 : ∀ k, k < n → ∀ r : Nat, r < nr → fitAt (lf r) t (ordOf w t k) = none) (h2 : ∀ r : Nat, r < q → fitAt (lf r) t (ordOf w t n) = none) (h3 : fitAt (lf q) t (ordOf w t n) = some env) : firstFit lf nr w t = some (ordOf w t n, q, env) := by
  unfold firstFit
  refine fs_range hn (fun k hk => ?_) (fs_range hq (fun r hr => ?_) ?_)
  · rw [List.findSome?_eq_none_iff]
    intro r hr
    rw [h1 k hk r (by simpa using hr)]; rfl
  · rw [h2 r hr]; rfl
  · rw [h3]; rfl
/-! the order from within -/
theorem dep_in {t : T} {i j : Nat} (h1 : i < j) (h2 : j < i + sz t i) : dep t i + 1 ≤ dep t j := by
  unfold dep anc
  obtain ⟨b, rfl⟩ : ∃ b, j = i + (1 + b) := ⟨j - i - 1, by omega⟩
  rw [List.range_add, List.filter_append, List.range_add, List.map_append, List.filter_append, List.length_append, List.length_append]
  have e1 : ((List.range i).filter (fun k => decide (i < k + sz t k))).length ≤ ((List.range i).filter (fun k => decide (i + (1 + b) < k + sz t k))).length := by
    rw [← List.countP_eq_length_filter, ← List.countP_eq_length_filter]
    apply List.countP_mono_left
    intro k hk g
    simp at hk g ⊢
    have := nest (l := t) (i := k) (j := i) (by omega) g
    omega
  have e2 : (((List.range 1).map (i + ·)).filter (fun k => decide (i + (1 + b) < k + sz t k))).length = 1 := by
    have : decide (i + (1 + b) < i + sz t i) = true := by simp; omega
    rw [show (List.range 1).map (i + ·) = [i] from rfl]
    simp only [List.filter_cons, this, if_true, List.filter_nil, List.length_cons, List.length_nil]
  omega
theorem dep_out {t : T} {i j : Nat} (h : i + sz t i ≤ j) : dep t j ≤ dep t i + (j - (i + sz t i)) := by
  unfold dep anc
  obtain ⟨b, rfl⟩ : ∃ b, j = i + (sz t i + b) := ⟨j - i - sz t i, by omega⟩
  rw [List.range_add, List.filter_append, List.range_add, List.map_append, List.filter_append, List.length_append, List.length_append]
  have e1 : ((List.range i).filter (fun k => decide (i + (sz t i + b) < k + sz t k))).length ≤ ((List.range i).filter (fun k => decide (i < k + sz t k))).length := by
    rw [← List.countP_eq_length_filter, ← List.countP_eq_length_filter]
    apply List.countP_mono_left
    intro k hk g
    simp at hk g ⊢
    omega
  have e2 : ((List.range (sz t i)).map (i + ·)).filter (fun k => decide (i + (sz t i + b) < k + sz t k)) = [] := by
    rw [List.filter_eq_nil_iff]
    intro k hk
    simp at hk
    obtain ⟨q, hq, rfl⟩ := hk
    have := nest (l := t) (i := i) (j := i + q) (by omega) (by omega)
    simp; omega
  have e3 : ((((List.range b).map (sz t i + ·)).map (i + ·)).filter (fun k => decide (i + (sz t i + b) < k + sz t k))).length ≤ b := by
    have := List.length_filter_le (fun k => decide (i + (sz t i + b) < k + sz t k)) (((List.range b).map (sz t i + ·)).map (i + ·))
    simpa using this
  rw [e2]
  simp only [List.length_nil]
  omega
theorem post_ne {t : T} {i j : Nat} (hi : i < t.length) (hj : j < t.length) (hij : i < j) : postI t i ≠ postI t j := by
  have s1 := sz_pos hi
  have s2 := sz_pos hj
  have d1 := dep_le t i
  have d2 := dep_le t j
  unfold postI
  rcases Nat.lt_or_ge j (i + sz t i) with g | g
  · have a := dep_in hij g
    have b := nest (l := t) (i := i) (j := j) (by omega) g
    omega
  · have a := dep_out g
    omega
theorem post_inj {t : T} {i j : Nat} (hi : i < t.length) (hj : j < t.length) (h : postI t i = postI t j) : i = j := by
  rcases Nat.lt_trichotomy i j with g | g | g
  · exact absurd h (post_ne hi hj g)
  · exact g
  · exact absurd h.symm (post_ne hj hi g)
theorem post_lt {t : T} {i : Nat} (hi : i < t.length) : postI t i < t.length := by
  have s1 := sz_pos hi
  have s2 := sz_end hi
  unfold postI; omega
theorem pigeon : ∀ (n : Nat) (f : Nat → Nat), (∀ i, i < n → f i < n) → (∀ i j, i < n → j < n → f i = f j → i = j) → ∀ k, k < n → ∃ i, i < n ∧ f i = k
  | 0, f, _, _, k, hk => by omega
  | n + 1, f, h1, h2, k, hk => by
    have ih := pigeon n (fun i => if f i = n then f n else f i) (fun i hi => by
      have a := h1 i (by omega)
      have b := h1 n (by omega)
      show (if f i = n then f n else f i) < n
      split
      · rename_i e
        rcases Nat.lt_or_ge (f n) n with g | g
        · exact g
        · have := h2 i n (by omega) (by omega) (by omega)
          omega
      · omega) (fun i j hi hj e => by
      have e' : (if f i = n then f n else f i) = (if f j = n then f n else f j) := e
      split at e'
      · split at e'
        · exact h2 i j (by omega) (by omega) (by omega)
        · have := h2 n j (by omega) (by omega) e'
          omega
      · split at e'
        · have := h2 i n (by omega) (by omega) e'
          omega
        · exact h2 i j (by omega) (by omega) e')
    by_cases hkv : k = f n
    · exact ⟨n, by omega, hkv.symm⟩
    · by_cases hkn : k = n
      · have hvn : f n < n := by have := h1 n (by omega); omega
        obtain ⟨i, hi, e⟩ := ih (f n) hvn
        have e' : (if f i = n then f n else f i) = f n := e
        split at e'
        · rename_i g; exact ⟨i, by omega, by omega⟩
        · have := h2 i n (by omega) (by omega) e'
          omega
      · obtain ⟨i, hi, e⟩ := ih k (by omega)
        have e' : (if f i = n then f n else f i) = k := e
        split at e'
        · omega
        · exact ⟨i, by omega, e'⟩
theorem ord_post {t : T} {i : Nat} (hi : i < t.length) : ordOf true t (postI t i) = i := by
  unfold ordOf
  rw [if_pos rfl]
  have : (List.range t.length).find? (fun j => postI t j == postI t i) = some i := by
    rw [List.find?_eq_some_iff_append]
    refine ⟨by simp, List.range i, (List.range (t.length - i - 1)).map (i + 1 + ·), ?_, ?_⟩
    · have := @List.range_add i (1 + (t.length - i - 1))
      rw [show i + (1 + (t.length - i - 1)) = t.length by omega, List.range_add] at this
      rw [this]
      simp [Function.comp_def]
      intro a ha; omega
    · intro j hj
      simp at hj
      have := post_ne (t := t) (by omega) hi hj
      simpa using this
  rw [this]; rfl
theorem ord_ex {t : T} {k : Nat} (hk : k < t.length) : ∃ i, i < t.length ∧ postI t i = k ∧ ordOf true t k = i := by
  obtain ⟨i, hi, e⟩ := pigeon t.length (postI t) (fun i hi => post_lt hi) (fun i j hi hj h => post_inj hi hj h) k hk
  exact ⟨i, hi, e, by rw [← e, ord_post hi]⟩
theorem ord_lt {t : T} {k : Nat} {w : Bool} (hk : k < t.length) : ordOf w t k < t.length := by
  cases w with
  | false => exact hk
  | true => obtain ⟨i, hi, -, e⟩ := ord_ex hk; rw [e]; exact hi
theorem ff_spec {lf : Int → T} {nr : Nat} {w : Bool} {t : T} {i r : Nat} {env : EnvT} (h : firstFit lf nr w t = some (i, r, env)) : i < t.length ∧ r < nr ∧ fitAt (lf r) t i = some env := by
  unfold firstFit at h
  obtain ⟨k, hk, h1⟩ := List.exists_of_findSome?_eq_some h
  obtain ⟨q, hq, h2⟩ := List.exists_of_findSome?_eq_some h1
  rw [Option.map_eq_some_iff] at h2
  obtain ⟨env', h3, h4⟩ := h2
  simp only [Prod.mk.injEq] at h4
  obtain ⟨rfl, rfl, rfl⟩ := h4
  exact ⟨ord_lt (by simpa using hk), by simpa using hq, h3⟩
/-- what each step keeps, the walk keeps -/
theorem walk_keeps {lf rt : Int → T} {nr : Nat} {w : Bool} {P : T → Prop} (hs : ∀ t i r env, P t → firstFit lf nr w t = some (i, r, env) → (doneAt (rt r) t i env).length ≤ 16 → P (doneAt (rt r) t i env)) : ∀ (f : Nat) (past : List T) (t : T), P t → P (walkGo lf rt nr w f past t).2.2
  | 0, past, t, h => h
  | f + 1, past, t, h => by
    unfold walkGo
    split
    · exact h
    · split
      · exact h
      · rename_i i r env he
        split
        · exact h
        · split
          · exact h
          · exact walk_keeps hs f _ _ (hs t i r env h he (by omega))
theorem T_ext {s t : T} (hl : s.length = t.length) (h : ∀ j, j < s.length → lb s j = lb t j ∧ ar s j = ar t j) : s = t := by
  apply List.ext_getElem hl
  intro j h1 h2
  have := h j h1
  simp only [lb, ar, List.getD_eq_getElem?_getD, List.getElem?_eq_getElem h1, List.getElem?_eq_getElem h2, Option.getD_some] at this
  exact Prod.ext this.1 this.2
