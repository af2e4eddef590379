/-! moved pairs: the class -/
def subB (t : T) (P : Nat → Bool) (i : Nat) : Bool := (List.range t.length).any (fun a => decide (i ≤ a) && decide (a < i + sz t i) && P a)
theorem subB_true {t : T} {P : Nat → Bool} {i : Nat} : subB t P i = true ↔ ∃ a, a < t.length ∧ i ≤ a ∧ a < i + sz t i ∧ P a = true := by
  unfold subB
  rw [List.any_eq_true]
  constructor
  · rintro ⟨a, h1, h2⟩
    simp only [Bool.and_eq_true, decide_eq_true_eq] at h2
    exact ⟨a, by simpa using h1, h2.1.1, h2.1.2, h2.2⟩
  · rintro ⟨a, h1, h2, h3, h4⟩
    exact ⟨a, by simpa using h1, by simp [h2, h3, h4]⟩
def hitB (s : T) (g : Ldg) (b : Nat) : Bool := (List.range s.length).any (fun a => g a == some b)
theorem hitB_true {s t : T} {g : Ldg} (hg : Lead s t g) {b : Nat} : hitB s g b = true ↔ ∃ a, g a = some b := by
  unfold hitB
  rw [List.any_eq_true]
  constructor
  · rintro ⟨a, -, h⟩
    exact ⟨a, by simpa using h⟩
  · rintro ⟨a, h⟩
    exact ⟨a, by simpa using (hg.1 a b h).2.1, by simp [h]⟩
theorem mvUs_eq (s : T) (g : Ldg) : mvUs s g = subB s (ledB g) := rfl
theorem mvUt_eq {s t : T} {g : Ldg} (hg : Lead s t g) : mvUt s t g = subB t (hitB s g) := by
  funext y
  rw [Bool.eq_iff_iff, subB_true]
  unfold mvUt
  rw [List.any_eq_true]
  constructor
  · rintro ⟨a, h1, h2⟩
    cases h : g a with
    | none => rw [h] at h2; simp at h2
    | some b =>
      rw [h] at h2
      simp only [Bool.and_eq_true, decide_eq_true_eq] at h2
      exact ⟨b, (hg.1 a b h).2.2.2, h2.1, h2.2, (hitB_true hg).mpr ⟨a, h⟩⟩
  · rintro ⟨b, h1, h2, h3, h4⟩
    obtain ⟨a, h⟩ := (hitB_true hg).mp h4
    exact ⟨a, by simpa using (hg.1 a b h).2.1, by rw [h]; simp [h2, h3]⟩
def UsedOK (N : Mem) (c : Int) (t : T) (f : Nat → Bool) : Prop := ∀ i : Nat, i < t.length → N c i = if f i then 1 else 0
/-- the state of the moving in memory -/
def MvM (N : Mem) (s t : T) (st : (Nat → Bool) × (Nat → Bool) × List (Nat × Nat)) : Prop := UsedOK N 23 s st.1 ∧ UsedOK N 24 t st.2.1 ∧ N 20 0 = st.2.2.length ∧ N 20 1 = mvNodes s st.2.2 ∧ (∀ (i : Nat) (p : Nat × Nat), st.2.2[i]? = some p → N 21 i = p.1 ∧ N 22 i = p.2) ∧ (∀ p ∈ st.2.2, p.1 < s.length ∧ p.2 < t.length) ∧ st.2.2.length ≤ (List.range s.length).countP st.1
theorem mark_true {t : T} {u : Nat → Bool} {i k : Nat} : mark t u i k = true ↔ u k = true ∨ (i ≤ k ∧ k < i + sz t i) := by
  unfold mark; simp
theorem cnt_eq1 {x : Nat} : ∀ n, x < n → (List.range n).countP (fun k => k == x) = 1
  | 0, h => by omega
  | n + 1, h => by
    rw [cnt_succ]
    by_cases e : x = n
    · subst e
      have : (List.range x).countP (fun k => k == x) = 0 := by
        rw [List.countP_eq_zero]
        intro k hk
        simp at hk ⊢; omega
      simp [this]
    · rw [cnt_eq1 n (by omega)]
      have : (n == x) = false := by simp; omega
      simp [this]
theorem cnt_mark {s : T} {u : Nat → Bool} {x : Nat} (hx : x < s.length) (hu : u x = false) : (List.range s.length).countP u + 1 ≤ (List.range s.length).countP (mark s u x) := by
  have h1 : (List.range s.length).countP (fun k => u k || k == x) = (List.range s.length).countP u + (List.range s.length).countP (fun k => k == x) := by
    apply countP_split
    intro k hk
    refine ⟨rfl, ?_⟩
    rintro ⟨a, b⟩
    simp at b
    rw [b, hu] at a; cases a
  rw [cnt_eq1 _ hx] at h1
  rw [← h1]
  apply List.countP_mono_left
  intro k hk h
  rw [mark_true]
  simp at h
  rcases h with h | h
  · exact Or.inl h
  · have := sz_pos hx
    exact Or.inr (by omega)
section MOVE
variable {V : VV} {M : Mem} {Q : Int → Mem → Prop}
theorem x_useLed {k oc uc : Int} {t : T} {P : Nat → Bool} (hd : (oc < k ∨ k + 6 < oc) ∧ (uc < k ∨ k + 6 < uc) ∧ oc ≠ uc) (ct : Ct M k t) (wt : Wt t) (hP : ∀ i : Nat, i < t.length → (M oc i = 99 ↔ P i = false)) (q : ∀ M', UsedOK M' uc t (subB t P) → (∀ c j, c ≠ uc → M' c j = M c j) → Q 0 M') : R_X3_useLed V k oc uc M Q := by
  have t16 := wt.1
  apply of_X3_useLed
  unfold wp_X3_useLed wp_X3_useLed_2
  refine ⟨fun z N => ∃ n : Nat, z = n ∧ n ≤ t.length ∧ (∀ i : Nat, i < n → N uc i = if subB t P i then 1 else 0) ∧ (∀ c j, c ≠ uc → N c j = M c j), fun z _ => (17 - z).toNat, ⟨0, rfl, by omega, fun i hi => by omega, fun _ _ _ => rfl⟩, ?_⟩
  rintro z N ⟨n, rfl, hn, hU, hN⟩
  have ctN : Ct N k t := ct.fr (fun c j _ _ => hN _ _ (by omega))
  unfold wp_X3_useLed_2_b
  rw [ctN.1.1]
  refine ⟨fun c => q N (fun i hi => hU i (by omega)) hN, fun c => ⟨by omega, ?_⟩⟩
  have hnt : n < t.length := by omega
  have hse := sz_end hnt
  unfold wp_X3_useLed_17
  refine ⟨fun z R => ∃ m : Nat, z = m ∧ n ≤ m ∧ m ≤ n + sz t n ∧ ((R uc n = 1 ∧ ∃ a, n ≤ a ∧ a < m ∧ P a = true) ∨ (R uc n = 0 ∧ ∀ a, n ≤ a → a < m → P a = false)) ∧ (∀ i : Nat, i < n → R uc i = if subB t P i then 1 else 0) ∧ (∀ c j, c ≠ uc → R c j = M c j), fun z _ => (33 - z).toNat, ⟨n, rfl, by omega, by omega, Or.inr ⟨mset_same _ _ _ _, fun a h1 h2 => by omega⟩, fun i hi => by rw [mset_idx _ _ _ (by omega)]; exact hU i hi, fun c j a => by rw [mset_cell _ a]; exact hN c j a⟩, ?_⟩
  rintro z R ⟨m, rfl, m1, m2, hfl, hU', hR⟩
  have ctR : Ct R k t := ct.fr (fun c j _ _ => hR _ _ (by omega))
  have done : m = n + sz t n → (∃ n' : Nat, w32 ((n : Int) + 1) = n' ∧ n' ≤ t.length ∧ (∀ i : Nat, i < n' → R uc i = if subB t P i then 1 else 0) ∧ (∀ c j, c ≠ uc → R c j = M c j)) ∧ (17 - w32 ((n : Int) + 1)).toNat < (17 - (n : Int)).toNat := by
    intro hm
    rw [w_succ (by omega)]
    refine ⟨⟨n + 1, by omega, by omega, fun i hi => ?_, hR⟩, by omega⟩
    by_cases e : i = n
    · subst e
      rcases hfl with ⟨e1, a, a1, a2, a3⟩ | ⟨e1, a1⟩
      · rw [e1, if_pos (subB_true.mpr ⟨a, by omega, a1, by omega, a3⟩)]
      · rw [e1, if_neg]
        intro hs
        obtain ⟨a, b1, b2, b3, b4⟩ := subB_true.mp hs
        rw [a1 a b2 (by omega)] at b4; cases b4
    · exact hU' i (by omega)
  unfold wp_X3_useLed_17_b
  rw [(ctR.2 n hnt).1, w32_id (x := (n : Int) + sz t n) (by omega) (by omega)]
  refine ⟨by omega, fun c1 => done (by omega), fun c1 => ⟨fun c2 => by omega, fun c2 => ⟨by omega, ?_⟩⟩⟩
  have hmt : m < t.length := by omega
  rw [hR oc _ hd.2.2, w_succ (by omega)]
  refine ⟨fun c3 => ⟨⟨m + 1, by omega, by omega, by omega, ?_, hU', hR⟩, by (try dsimp only); omega⟩, fun c3 => ⟨by omega, ⟨m + 1, by omega, by omega, by omega, ?_, fun i hi => ?_, fun c j a => ?_⟩, by (try dsimp only); omega⟩⟩
  · have hPm := (hP m hmt).mp c3
    rcases hfl with ⟨e1, a, a1, a2, a3⟩ | ⟨e1, a1⟩
    · exact Or.inl ⟨e1, a, a1, by omega, a3⟩
    · refine Or.inr ⟨e1, fun a b1 b2 => ?_⟩
      by_cases e : a = m
      · rw [e]; exact hPm
      · exact a1 a b1 (by omega)
  · left
    refine ⟨mset_same _ _ _ _, m, by omega, by omega, ?_⟩
    cases h : P m with
    | true => rfl
    | false => exact absurd ((hP m hmt).mpr h) c3
  · rw [mset_idx _ _ _ (by omega)]; exact hU' i hi
  · rw [mset_cell _ a]; exact hR c j a
theorem x_use {k uc : Int} {t : T} {u : Nat → Bool} {i : Nat} (hd : uc < k ∨ k + 6 < uc) (ct : Ct M k t) (t16 : t.length ≤ 16) (hi : i < t.length) (hu : UsedOK M uc t u) (q : ∀ M', UsedOK M' uc t (mark t u i) → (∀ c j, c ≠ uc → M' c j = M c j) → Q 0 M') : R_X3_use V k i uc M Q := by
  have hse := sz_end hi
  apply of_X3_use
  unfold wp_X3_use wp_X3_use_2
  refine ⟨fun z N => ∃ n : Nat, z = n ∧ i ≤ n ∧ n ≤ i + sz t i ∧ (∀ k : Nat, k < t.length → N uc k = if u k || (decide (i ≤ k) && decide (k < n)) then 1 else 0) ∧ (∀ c j, c ≠ uc → N c j = M c j), fun z _ => (33 - z).toNat, ⟨i, rfl, by omega, by omega, fun k hk => ?_, fun _ _ _ => rfl⟩, ?_⟩
  · rw [hu k hk]
    have : (decide (i ≤ k) && decide (k < i)) = false := by simp
    rw [this, Bool.or_false]
  rintro z N ⟨n, rfl, n1, n2, hU, hN⟩
  have ctN : Ct N k t := ct.fr (fun c j _ _ => hN _ _ (by omega))
  unfold wp_X3_use_2_b
  rw [(ctN.2 i hi).1, w32_id (x := (i : Int) + sz t i) (by omega) (by omega)]
  refine ⟨by omega, fun c => ?_, fun c => ⟨fun d => by omega, fun d => ⟨by omega, ?_⟩⟩⟩
  · have hne : n = i + sz t i := by omega
    subst hne
    exact q N hU hN
  · rw [w_succ (by omega)]
    refine ⟨⟨n + 1, by omega, by omega, by omega, fun k hk => ?_, fun c j a => by rw [mset_cell _ a]; exact hN c j a⟩, by (try dsimp only); omega⟩
    by_cases e : k = n
    · subst e
      rw [mset_same]
      have : (u k || (decide (i ≤ k) && decide (k < k + 1))) = true := by simp [n1]
      rw [this]; rfl
    · rw [mset_idx _ _ _ (by omega), hU k hk]
      have : decide (k < n + 1) = decide (k < n) := by
        by_cases h : k < n
        · simp [h]; omega
        · simp [h]; omega
      rw [this]
theorem find_range {p : Nat → Bool} {n m : Nat} (hm : m < n) (h : ∀ k, k < m → p k = false) (hp : p m = true) : (List.range n).find? p = some m := by
  rw [List.find?_eq_some_iff_append]
  refine ⟨hp, List.range m, (List.range (n - m - 1)).map (m + 1 + ·), ?_, fun a ha => ?_⟩
  · have := @List.range_add m (1 + (n - m - 1))
    rw [show m + (1 + (n - m - 1)) = n by omega, List.range_add] at this
    rw [this]
    simp [Function.comp_def]
    intro a ha; omega
  · rw [h a (by simpa using ha)]; rfl
theorem mvNodes_app (s : T) (P : List (Nat × Nat)) (p : Nat × Nat) : mvNodes s (P ++ [p]) = mvNodes s P + sz s p.1 := by simp [mvNodes]
theorem mvNodes_le {s : T} (s16 : s.length ≤ 16) : ∀ P : List (Nat × Nat), (∀ p ∈ P, p.1 < s.length) → mvNodes s P ≤ 16 * P.length
  | [], _ => by simp [mvNodes]
  | p :: P, h => by
    have ih := mvNodes_le s16 P (fun q hq => h q (List.mem_cons_of_mem _ hq))
    have := sz_end (h p List.mem_cons_self)
    unfold mvNodes at ih ⊢
    simp only [List.map_cons, List.sum_cons, List.length_cons]
    omega
theorem x_pairFirst {s t : T} {k1 k2 : Int} {x : Nat} {st : (Nat → Bool) × (Nat → Bool) × List (Nat × Nat)} (hk1 : 24 < k1) (hk2 : 24 < k2) (cs : Ct M k1 s) (ct : Ct M k2 t) (s16 : s.length ≤ 16) (t16 : t.length ≤ 16) (hx : x < s.length) (hst : MvM M s t st) (hu : st.1 x = false)
    (q : ∀ M', MvM M' s t (mvStep s t st x) → (∀ c j, c < 20 ∨ 24 < c → M' c j = M c j) → Q 0 M') : R_X3_pairFirst V k1 x k2 M Q := by
  have hst' := hst
  obtain ⟨u1, u2, p0, p1, pp, pm, pc⟩ := hst
  have hse := sz_end hx
  apply of_X3_pairFirst
  unfold wp_X3_pairFirst wp_X3_pairFirst_3
  refine ⟨fun z N => N = M ∧ ∃ n : Nat, z = n ∧ n ≤ t.length ∧ ∀ y, y < n → (!st.2.1 y && decide (sub s x = sub t y)) = false, fun z _ => (17 - z).toNat, ⟨rfl, 0, rfl, by omega, fun y hy => by omega⟩, ?_⟩
  rintro z N ⟨rfl, n, rfl, hn, hno⟩
  unfold wp_X3_pairFirst_3_b
  rw [ct.1.1]
  refine ⟨fun c => ?_, fun c => ⟨by omega, ?_⟩⟩
  · have hnone : (List.range t.length).find? (fun y => !st.2.1 y && decide (sub s x = sub t y)) = none := by
      rw [List.find?_eq_none]
      intro y hy
      rw [hno y (by simp at hy; omega)]; simp
    have e : mvStep s t st x = st := by unfold mvStep; rw [hu, hnone]; rfl
    rw [← e] at hst'
    exact q N hst' (fun _ _ _ => rfl)
  · have hnt : n < t.length := by omega
    have next : (!st.2.1 n && decide (sub s x = sub t n)) = false → (N = N ∧ ∃ n' : Nat, w32 ((n : Int) + 1) = n' ∧ n' ≤ t.length ∧ ∀ y, y < n' → (!st.2.1 y && decide (sub s x = sub t y)) = false) ∧ (17 - w32 ((n : Int) + 1)).toNat < (17 - (n : Int)).toNat := by
      intro hf
      rw [w_succ (by omega)]
      refine ⟨⟨rfl, n + 1, by omega, by omega, fun y hy => ?_⟩, by omega⟩
      by_cases e : y = n
      · rw [e]; exact hf
      · exact hno y (by omega)
    rw [u2 n hnt]
    cases hun : st.2.1 n with
    | true => exact ⟨fun w => by simp at w, fun _ => next (by simp [hun])⟩
    | false =>
      refine ⟨fun _ => ?_, fun w => absurd rfl w⟩
      refine x_isAs cs.1 ct.1 (cs.2 x hx).1 (ct.2 n hnt).1 s16 t16 hx hnt ?_
      refine ⟨fun w => next ?_, fun w => ?_⟩
      · have : ¬ sub s x = sub t n := fun e => by rw [if_pos e] at w; omega
        simp [this]
      · have hsub : sub s x = sub t n := by
          split at w
          · assumption
          · exact absurd rfl w
        have hfind : (List.range t.length).find? (fun y => !st.2.1 y && decide (sub s x = sub t y)) = some n := find_range hnt hno (by simp [hun, hsub])
        have hstep : mvStep s t st x = (mark s st.1 x, mark t st.2.1 n, st.2.2 ++ [(x, n)]) := by unfold mvStep; rw [hu, hfind]; rfl
        have hcnt := cnt_mark hx hu
        have hcl := cnt_le (p := mark s st.1 x) (n := s.length)
        have hnl := mvNodes_le s16 st.2.2 (fun p hp => (pm p hp).1)
        rw [p0]
        refine ⟨fun g => by omega, fun _ => ⟨by omega, ?_⟩⟩
        intro M3 h3
        have e3 : M3 20 0 = st.2.2.length := by rw [h3, mset_cell _ (by omega)]; exact p0
        rw [e3]
        refine ⟨by omega, ?_⟩
        intro M4 h4 M5 h5
        have e4 : M4 20 0 = st.2.2.length := by rw [h4, mset_cell _ (by omega)]; exact e3
        rw [e4, w_succ (by omega)] at h5
        refine ⟨by omega, ?_⟩
        intro M6 h6
        have f5 : ∀ c j, ¬ (c = 20 ∧ j = 0) → c ≠ 21 → c ≠ 22 → M5 c j = N c j := fun c j a b d => by
          rw [h5, show mset M4 20 0 ((st.2.2.length : Int) + 1) c j = M4 c j from if_neg a, h4, mset_cell _ d, h3, mset_cell _ b]
        rw [f5 _ _ (by omega) (by omega) (by omega), p1, f5 _ _ (by omega) (by omega) (by omega), (cs.2 x hx).1, w32_id (by omega) (by omega)] at h6
        have f6 : ∀ c j, c ≠ 20 → c ≠ 21 → c ≠ 22 → M6 c j = N c j := fun c j a b d => by rw [h6, mset_cell _ a, f5 _ _ (by omega) b d]
        have cs6 : Ct M6 k1 s := cs.fr (fun c j _ _ => f6 _ _ (by omega) (by omega) (by omega))
        refine x_use (by omega) cs6 s16 hx (fun i hi => by rw [f6 _ _ (by omega) (by omega) (by omega)]; exact u1 i hi) (fun M8 u8 f8 => ?_)
        have ct8 : Ct M8 k2 t := ct.fr (fun c j _ _ => by rw [f8 _ _ (by omega), f6 _ _ (by omega) (by omega) (by omega)])
        refine x_use (by omega) ct8 t16 hnt (fun i hi => by rw [f8 _ _ (by omega), f6 _ _ (by omega) (by omega) (by omega)]; exact u2 i hi) (fun M10 u10 f10 => ?_)
        refine q M10 ?_ (fun c j hc => by rw [f10 _ _ (by omega), f8 _ _ (by omega), f6 _ _ (by omega) (by omega) (by omega)])
        rw [hstep]
        have g : ∀ c j, c ≠ 23 → c ≠ 24 → M10 c j = M6 c j := fun c j a b => by rw [f10 _ _ b, f8 _ _ a]
        refine ⟨fun i hi => by rw [f10 _ _ (by omega)]; exact u8 i hi, u10, ?_, ?_, fun i p hp => ?_, fun p hp => ?_, ?_⟩
        · rw [g _ _ (by omega) (by omega), h6, mset_idx _ _ _ (by omega), h5, mset_same]; simp
        · rw [g _ _ (by omega) (by omega), h6, mset_same, mvNodes_app]; (try dsimp only); omega
        · rw [g _ _ (by omega) (by omega), g _ _ (by omega) (by omega), h6, mset_cell _ (by omega), mset_cell _ (by omega), h5, mset_cell _ (by omega), mset_cell _ (by omega), h4, mset_cell _ (by omega), h3]
          by_cases ei : i < st.2.2.length
          · rw [List.getElem?_append_left ei] at hp
            rw [mset_idx _ _ _ (by omega), mset_idx _ _ _ (by omega), mset_cell _ (by omega)]
            exact pp i p hp
          · have hp' : (st.2.2 ++ [(x, n)])[i]? = some p := hp
            rw [List.getElem?_append_right (by omega)] at hp'
            have hz : i - st.2.2.length = 0 := by
              rcases Nat.eq_zero_or_pos (i - st.2.2.length) with w | w
              · exact w
              · rw [List.getElem?_eq_none (by simp; omega)] at hp'; cases hp'
            rw [hz] at hp'
            simp only [List.getElem?_cons_zero, Option.some.injEq] at hp'
            subst hp'
            rw [show (i : Int) = st.2.2.length by omega, mset_same, mset_same]
            exact ⟨rfl, rfl⟩
        · have hp' : p ∈ st.2.2 ++ [(x, n)] := hp
          rcases List.mem_append.mp hp' with w | w
          · exact pm p w
          · rw [List.mem_singleton.mp w]; exact ⟨hx, hnt⟩
        · show (st.2.2 ++ [(x, n)]).length ≤ _
          simp only [List.length_append, List.length_cons, List.length_nil]
          omega
def mvF (s t : T) (g : Ldg) (l : List Nat) : (Nat → Bool) × (Nat → Bool) × List (Nat × Nat) := l.foldl (mvStep s t) (mvUs s g, mvUt s t g, [])
theorem x_pair {s t : T} {k1 k2 : Int} {g : Ldg} (hk1 : 24 < k1) (hk2 : 24 < k2) (cs : Ct M k1 s) (ct : Ct M k2 t) (ws : Wt s) (wt : Wt t) (hg : Lead s t g) (hrow : ∀ i : Nat, i < s.length → M 14 i = rowL g i) (hsrc : SrcOK M t g)
    (q : ∀ M' : Mem, M' 20 0 = (mvAll s t g).length → M' 20 1 = mvNodes s (mvAll s t g) → (∀ (i : Nat) (p : Nat × Nat), (mvAll s t g)[i]? = some p → M' 21 i = p.1 ∧ M' 22 i = p.2) → (∀ c j, c < 20 ∨ 24 < c → M' c j = M c j) → Q 0 M') : R_X3_pair V k1 14 k2 15 M Q := by
  have s16 := ws.1
  have t16 := wt.1
  apply of_X3_pair
  unfold wp_X3_pair
  intro M1 h1 M2 h2
  have f2 : ∀ c j, ¬ (c = 20 ∧ (j = 0 ∨ j = 1)) → M2 c j = M c j := fun c j a => by
    rw [h2, show mset M1 20 1 0 c j = M1 c j from if_neg (by omega), h1]; exact if_neg (by omega)
  refine x_useLed (P := ledB g) ⟨by omega, by omega, by omega⟩ (cs.fr (fun c j _ _ => f2 _ _ (by omega))) ws (fun i hi => ?_) (fun M4 u4 f4 => ?_)
  · rw [f2 _ _ (by omega), hrow i hi]
    unfold rowL ledB
    cases h : g i with
    | none => simp
    | some b => have := (hg.1 i b h).2.2.2; simp; omega
  refine x_useLed (P := hitB s g) ⟨by omega, by omega, by omega⟩ (ct.fr (fun c j _ _ => by rw [f4 _ _ (by omega), f2 _ _ (by omega)])) wt (fun i hi => ?_) (fun M6 u6 f6 => ?_)
  · rw [f4 _ _ (by omega), f2 _ _ (by omega)]
    rcases hsrc i hi with ⟨a, a1, a2⟩ | ⟨a1, a2⟩
    · rw [a2]
      have hh := (hitB_true hg).mpr ⟨a, a1⟩
      have := (hg.1 a i a1).2.1
      rw [hh]
      constructor
      · intro w; omega
      · intro w; cases w
    · rw [a2]
      constructor
      · intro _
        exact Bool.eq_false_iff.mpr (fun w => by obtain ⟨a, ha⟩ := (hitB_true hg).mp w; exact a1 a ha)
      · intro _; rfl
  have fr6 : ∀ c j, c < 20 ∨ 24 < c → M6 c j = M c j := fun c j hc => by rw [f6 _ _ (by omega), f4 _ _ (by omega), f2 _ _ (by omega)]
  have st0 : MvM M6 s t (mvF s t g []) := by
    refine ⟨fun i hi => ?_, fun i hi => ?_, ?_, ?_, fun i p hp => ?_, fun p hp => ?_, Nat.zero_le _⟩
    · rw [f6 _ _ (by omega)]; exact u4 i hi
    · show M6 24 i = if mvUt s t g i then 1 else 0
      rw [mvUt_eq hg]; exact u6 i hi
    · rw [f6 _ _ (by omega), f4 _ _ (by omega), h2, mset_idx _ _ _ (by omega), h1, mset_same]; rfl
    · rw [f6 _ _ (by omega), f4 _ _ (by omega), h2, mset_same]; rfl
    · have hp' : ([] : List (Nat × Nat))[i]? = some p := hp
      simp at hp'
    · have hp' : p ∈ ([] : List (Nat × Nat)) := hp
      simp at hp'
  unfold wp_X3_pair_33
  refine ⟨fun z N => ∃ d : Nat, z = 16 - (d : Int) ∧ d ≤ 16 ∧ MvM N s t (mvF s t g ((List.range d).flatMap (fun d => (List.range s.length).filter (fun x => sz s x == 16 - d)))) ∧ (∀ c j, c < 20 ∨ 24 < c → N c j = M c j), fun z _ => z.toNat, ⟨0, rfl, by omega, st0, fr6⟩, ?_⟩
  rintro z N ⟨d, rfl, hd, hst, hN⟩
  unfold wp_X3_pair_33_b
  refine ⟨fun c => ?_, fun c => ?_⟩
  · have hd16 : d = 16 := by omega
    subst hd16
    exact q N hst.2.2.1 hst.2.2.2.1 hst.2.2.2.2.1 hN
  · unfold wp_X3_pair_41
    refine ⟨fun z P => ∃ n : Nat, z = n ∧ n ≤ s.length ∧ MvM P s t (mvF s t g ((List.range d).flatMap (fun d => (List.range s.length).filter (fun x => sz s x == 16 - d)) ++ (List.range n).filter (fun x => sz s x == 16 - d))) ∧ (∀ c j, c < 20 ∨ 24 < c → P c j = M c j), fun z _ => (17 - z).toNat, ⟨0, rfl, by omega, by simpa using hst, hN⟩, ?_⟩
    rintro z P ⟨n, rfl, hn, hsP, hP⟩
    have csP : Ct P k1 s := cs.fr (fun c j _ _ => hP _ _ (by omega))
    have ctP : Ct P k2 t := ct.fr (fun c j _ _ => hP _ _ (by omega))
    unfold wp_X3_pair_41_b
    rw [csP.1.1]
    refine ⟨fun c1 => ?_, fun c1 => ⟨by omega, ?_⟩⟩
    · have hns : n = s.length := by omega
      subst hns
      rw [w32_id (by omega) (by omega)]
      refine ⟨⟨d + 1, by omega, by omega, ?_, hP⟩, by (try dsimp only); omega⟩
      rw [List.range_succ, List.flatMap_append]
      simpa using hsP
    · have hns : n < s.length := by omega
      rw [(csP.2 n hns).1, w_succ (by omega)]
      have hfs : (List.range (n + 1)).filter (fun x => sz s x == 16 - d) = (List.range n).filter (fun x => sz s x == 16 - d) ++ (if sz s n = 16 - d then [n] else []) := by
        rw [List.range_succ, List.filter_append]
        congr 1
        by_cases e : sz s n = 16 - d
        · simp [e]
        · simp [e]
      refine ⟨fun c2 => ⟨by omega, ?_⟩, fun c2 => ⟨⟨n + 1, by omega, by omega, ?_, hP⟩, by (try dsimp only); omega⟩⟩
      · have hsz : sz s n = 16 - d := by omega
        rw [if_pos hsz] at hfs
        have hnext : mvF s t g ((List.range d).flatMap (fun d => (List.range s.length).filter (fun x => sz s x == 16 - d)) ++ (List.range (n + 1)).filter (fun x => sz s x == 16 - d)) = mvStep s t (mvF s t g ((List.range d).flatMap (fun d => (List.range s.length).filter (fun x => sz s x == 16 - d)) ++ (List.range n).filter (fun x => sz s x == 16 - d))) n := by
          rw [hfs, ← List.append_assoc]
          unfold mvF
          rw [List.foldl_append]; rfl
        generalize mvF s t g ((List.range d).flatMap (fun d => (List.range s.length).filter (fun x => sz s x == 16 - d)) ++ (List.range n).filter (fun x => sz s x == 16 - d)) = st at hsP hnext
        rw [hsP.1 n hns]
        cases hu : st.1 n with
        | false =>
          refine ⟨fun _ => ?_, fun w => absurd rfl w⟩
          refine x_pairFirst hk1 hk2 csP ctP s16 t16 hns hsP hu (fun M' hM' f' => ?_)
          rw [← hnext] at hM'
          exact ⟨⟨n + 1, by omega, by omega, hM', fun c j hc => by rw [f' c j hc]; exact hP c j hc⟩, by (try dsimp only); omega⟩
        | true =>
          refine ⟨fun w => by simp at w, fun _ => ⟨⟨n + 1, by omega, by omega, ?_, hP⟩, by (try dsimp only); omega⟩⟩
          rw [hnext]
          unfold mvStep
          rw [hu]; exact hsP
      · rw [hfs, if_neg (by omega), List.append_nil]; exact hsP
end MOVE
