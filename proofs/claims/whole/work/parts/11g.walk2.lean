/-! walks: the reference; walk -/
def PastM (M : Mem) (l : List T) : Prop := ∀ (i : Nat) (t : T), l[i]? = some t → M 229 i = t.length ∧ ∀ j : Nat, j < t.length → M 230 (16 * (i : Int) + j) = lb t j ∧ M 231 (16 * (i : Int) + j) = ar t j
section WALK2
variable {V : VV} {M : Mem} {Q : Int → Mem → Prop}
theorem m_keep {x : Int} {n : Nat} {t : T} (hx : 0 ≤ x ∧ x ≤ 20) (ht : Mt M x t) (t16 : t.length ≤ 16) (h37 : M 203 37 = n) (hn : n ≤ 100) (h : ∀ M' : Mem, M' 229 n = t.length → (∀ j : Nat, j < t.length → M' 230 (16 * (n : Int) + j) = lb t j ∧ M' 231 (16 * (n : Int) + j) = ar t j) → (∀ c j : Int, ¬ (c = 229 ∧ j = n) → ¬ ((c = 230 ∨ c = 231) ∧ 16 * (n : Int) ≤ j) → M' c j = M c j) → Q 0 M') : R_X10_keep V x M Q := by
  apply of_X10_keep
  unfold wp_X10_keep
  rw [h37, ht.1]
  refine ⟨by omega, by omega, ?_⟩
  unfold wp_X10_keep_17
  refine ⟨fun j N => ∃ q : Nat, j = q ∧ q ≤ t.length ∧ N 229 n = t.length ∧ (∀ j : Nat, j < q → N 230 (16 * (n : Int) + j) = lb t j ∧ N 231 (16 * (n : Int) + j) = ar t j) ∧ (∀ c j : Int, ¬ (c = 229 ∧ j = n) → ¬ ((c = 230 ∨ c = 231) ∧ 16 * (n : Int) ≤ j) → N c j = M c j), fun j _ => (17 - j).toNat, ⟨0, rfl, by omega, mset_same _ _ _ _, fun j hj => by omega, fun c j a _ => if_neg a⟩, ?_⟩
  rintro j N ⟨q, rfl, hq, h1, h2, h3⟩
  have htN : Mt N x t := ⟨by rw [h3 _ _ (by omega) (by omega)]; exact ht.1, fun i hi => by rw [h3 _ _ (by omega) (by omega), h3 _ _ (by omega) (by omega)]; exact ht.2 i hi⟩
  have n37 : N 203 37 = n := by rw [h3 _ _ (by omega) (by omega)]; exact h37
  unfold wp_X10_keep_17_b
  rw [htN.1, n37]
  refine ⟨by omega, fun g => h N h1 (fun j hj => h2 j (by omega)) h3, fun g => ?_⟩
  have hqt : q < t.length := by omega
  obtain ⟨e1, e2⟩ := w_idx (x := x) (i := q) hx.1 hx.2 (by omega)
  rw [e1, w32_id (x := 16 * (n : Int)) (by omega) (by omega), w32_id (x := 16 * (n : Int) + q) (by omega) (by omega), (htN.2 q hqt).1]
  clear e1
  refine ⟨e2, by omega, ?_⟩
  intro M1 h4
  have m37 : M1 203 37 = n := by rw [h4, mset_cell _ (by omega)]; exact n37
  have m6 : M1 206 (32 * x + q) = ar t q := by rw [h4, mset_cell _ (by omega)]; exact (htN.2 q hqt).2
  rw [m37, w32_id (x := 16 * (n : Int)) (by omega) (by omega), w32_id (x := 16 * (n : Int) + q) (by omega) (by omega), m6, w_succ (by omega)]
  refine ⟨e2, by omega, ⟨q + 1, by omega, by omega, ?_, ?_, ?_⟩, by (try dsimp only); omega⟩
  · rw [mset_cell _ (by omega), h4, mset_cell _ (by omega)]; exact h1
  · intro j hj
    by_cases e : j = q
    · subst e
      rw [mset_cell _ (by omega), mset_same, h4, mset_same]; exact ⟨rfl, rfl⟩
    · rw [mset_cell _ (by omega), mset_idx _ _ _ (by omega), h4, mset_idx _ _ _ (by omega), mset_cell _ (by omega)]; exact h2 j (by omega)
  · intro c j a b
    rw [← h3 c j a b]
    rw [show ∀ v, mset M1 231 (16 * (n : Int) + q) v c j = M1 c j from fun v => if_neg (by omega), h4]
    exact if_neg (by omega)
theorem m_wasSo {x : Int} {past : List T} {t : T} (hx : 0 ≤ x ∧ x ≤ 20) (ht : Mt M x t) (t16 : t.length ≤ 16) (h37 : M 203 37 = past.length) (hn : past.length ≤ 101) (hP : PastM M past) (h : Q (if t ∈ past then 1 else 0) M) : R_X10_wasSo V x M Q := by
  apply of_X10_wasSo
  unfold wp_X10_wasSo wp_X10_wasSo_2
  refine ⟨fun q => ∃ m : Nat, q = m ∧ m ≤ past.length ∧ ∀ (i : Nat) (s : T), i < m → past[i]? = some s → s ≠ t, fun q => (200 - q).toNat, ⟨0, rfl, by omega, fun i s hi => by omega⟩, ?_⟩
  rintro q ⟨m, rfl, hm, hall⟩
  unfold wp_X10_wasSo_2_b
  rw [h37]
  refine ⟨fun g => ?_, fun g => ⟨by omega, by omega, ?_⟩⟩
  · rw [if_neg] at h
    · exact h
    · intro hmem
      obtain ⟨i, hi, e⟩ := List.getElem_of_mem hmem
      exact hall i t (by omega) (by rw [List.getElem?_eq_getElem hi, e]) rfl
  · have hml : m < past.length := by omega
    obtain ⟨s, hs⟩ : ∃ s, past[m]? = some s := ⟨past[m], List.getElem?_eq_getElem hml⟩
    have ps := hP m s hs
    have hsm : s ∈ past := List.mem_of_getElem? hs
    rw [ps.1, ht.1]
    have next : s ≠ t → (fun z2 : Int => (∃ m : Nat, z2 = (m : Int) ∧ m ≤ past.length ∧ ∀ (i : Nat) (s : T), i < m → past[i]? = some s → s ≠ t) ∧ (200 - z2).toNat < (200 - (m : Int)).toNat) ((m : Int) + 1) := by
      intro hne
      refine ⟨⟨m + 1, by omega, by omega, fun i s' hi hs' => ?_⟩, by omega⟩
      by_cases e : i = m
      · subst e
        rw [hs] at hs'
        rw [← Option.some.inj hs']; exact hne
      · exact hall i s' (by omega) hs'
    have loop : ∀ b : Int, (b = if s.length = t.length then 1 else 0) → wp_X10_wasSo_34 V x m b 0 M Q (fun z2 => (∃ m : Nat, z2 = (m : Int) ∧ m ≤ past.length ∧ ∀ (i : Nat) (s : T), i < m → past[i]? = some s → s ≠ t) ∧ (200 - z2).toNat < (200 - (m : Int)).toNat) := by
      intro b hb
      unfold wp_X10_wasSo_34
      refine ⟨fun b j => ∃ n : Nat, j = n ∧ n ≤ t.length ∧ (b = if s.length = t.length ∧ ∀ j, j < n → lb s j = lb t j ∧ ar s j = ar t j then 1 else 0), fun _ j => (17 - j).toNat, ⟨0, rfl, by omega, by rw [hb]; simp⟩, ?_⟩
      rintro b j ⟨n, rfl, hnn, rfl⟩
      unfold wp_X10_wasSo_34_b wp_X10_wasSo_107 wp_X10_wasSo_115
      rw [ht.1, w_succ (by omega), w_succ (by omega)]
      have key : (n = t.length ∨ ¬ (s.length = t.length ∧ ∀ j, j < n → lb s j = lb t j ∧ ar s j = ar t j)) → ((if s.length = t.length ∧ ∀ j, j < n → lb s j = lb t j ∧ ar s j = ar t j then (1 : Int) else 0) = 0 → (∃ m' : Nat, (m : Int) + 1 = (m' : Int) ∧ m' ≤ past.length ∧ ∀ (i : Nat) (s : T), i < m' → past[i]? = some s → s ≠ t) ∧ (200 - ((m : Int) + 1)).toNat < (200 - (m : Int)).toNat) ∧ (¬ (if s.length = t.length ∧ ∀ j, j < n → lb s j = lb t j ∧ ar s j = ar t j then (1 : Int) else 0) = 0 → Q 1 M) := by
        intro hc
        refine ⟨fun e0 => next (fun e => ?_), fun e0 => ?_⟩
        · subst e
          rw [if_pos ⟨rfl, fun j _ => ⟨rfl, rfl⟩⟩] at e0; omega
        · have hP2 : s.length = t.length ∧ ∀ j, j < n → lb s j = lb t j ∧ ar s j = ar t j := by
            split at e0
            · assumption
            · exact absurd rfl e0
          have e : s = t := by
            rcases hc with g | g
            · exact T_ext hP2.1 (fun j hj => hP2.2 j (by omega))
            · exact absurd hP2 g
          rw [if_pos (by rw [← e]; exact hsm)] at h; exact h
      refine ⟨by omega, fun g => key (Or.inl (by omega)), fun g => ⟨fun e0 => key (Or.inr (fun hP2 => by rw [if_pos hP2] at e0; omega)), fun e0 => ?_⟩⟩
      have hP2 : s.length = t.length ∧ ∀ j, j < n → lb s j = lb t j ∧ ar s j = ar t j := by
        split at e0
        · assumption
        · exact absurd rfl e0
      have hnt : n < t.length := by omega
      obtain ⟨e1, e2⟩ := w_idx (x := x) (i := n) hx.1 hx.2 (by omega)
      have hns : n < s.length := by omega
      have pn := ps.2 n hns
      have tn := ht.2 n hnt
      rw [e1, w32_id (x := 16 * (m : Int)) (by omega) (by omega), w32_id (x := 16 * (m : Int) + n) (by omega) (by omega), pn.1, pn.2, tn.1, tn.2]
      clear e1
      have step : ∀ P : Prop, (lb s n = lb t n ∧ ar s n = ar t n ↔ P) → ((s.length = t.length ∧ ∀ j, j < n + 1 → lb s j = lb t j ∧ ar s j = ar t j) ↔ P) := by
        intro P hP
        rw [← hP]
        refine ⟨fun g => g.2 n (by omega), fun g => ⟨hP2.1, fun j hj => ?_⟩⟩
        rcases Nat.lt_or_ge j n with q | q
        · exact hP2.2 j q
        · rw [show j = n by omega]; exact g
      refine ⟨by omega, e2, fun g1 => ⟨by omega, e2, fun g2 => ⟨⟨n + 1, by omega, by omega, ?_⟩, by (try dsimp only); omega⟩, fun g2 => ⟨⟨n + 1, by omega, by omega, ?_⟩, by (try dsimp only); omega⟩⟩, fun g1 => ⟨⟨n + 1, by omega, by omega, ?_⟩, by (try dsimp only); omega⟩⟩
      · rw [if_pos ((step True ⟨fun _ => trivial, fun _ => ⟨g1, by omega⟩⟩).mpr trivial)]
      · rw [if_neg (fun g => ((step False ⟨fun q => g2 (by omega), fun q => q.elim⟩).mp g))]
      · rw [if_neg (fun g => ((step False ⟨fun q => g1 q.1, fun q => q.elim⟩).mp g))]
    unfold wp_X10_wasSo_30
    refine ⟨fun g1 => loop 1 (by rw [if_pos (by omega)]), fun g1 => loop 0 (by rw [if_neg (by omega)])⟩
theorem m_nodeAt {x w : Int} {k : Nat} {t : T} {b : Bool} (hb : b = decide (w ≠ 0)) (hx : 0 ≤ x ∧ x ≤ 20) (ht : Mt M x t) (wt : Wt t) (hk : k < t.length) (h : Q (ordOf b t k) M) : R_X10_nodeAt V x k w M Q := by
  have t16 := wt.1
  apply of_X10_nodeAt
  unfold wp_X10_nodeAt wp_X10_nodeAt_3
  refine ⟨fun j N => N = M ∧ ∃ n : Nat, j = n ∧ n ≤ t.length ∧ ∀ i, i < n → b = true ∧ postI t i ≠ k, fun j _ => (17 - j).toNat, ⟨rfl, 0, rfl, by omega, fun i hi => by omega⟩, ?_⟩
  rintro j N ⟨rfl, n, rfl, hn, hall⟩
  unfold wp_X10_nodeAt_3_b
  rw [ht.1]
  refine ⟨by omega, fun g => ?_, fun g => ⟨fun c => ?_, fun c => ?_⟩⟩
  · exfalso
    have hbt := (hall 0 (by omega)).1
    obtain ⟨i, hi, e1, e2⟩ := ord_ex hk
    exact (hall i (by omega)).2 e1
  · have : b = false := by rw [hb, c]; rfl
    rw [this] at h; exact h
  · have hbt : b = true := by rw [hb]; simpa using c
    have hnt : n < t.length := by omega
    have hd := dep_le t n
    have hs := sz_pos hnt
    have hse := sz_end hnt
    refine m_sizeOf hx ht wt hnt ?_
    refine m_depthOf hx ht wt hnt ?_
    rw [w32_id (x := (n : Int) + sz t n) (by omega) (by omega), w32_id (x := (n : Int) + sz t n - dep t n) (by omega) (by omega), w32_id (x := (n : Int) + sz t n - dep t n - 1) (by omega) (by omega), w_succ (by omega)]
    have e : ((n : Int) + sz t n - dep t n - 1) = ((postI t n : Nat) : Int) := by unfold postI; omega
    rw [e]
    refine ⟨fun g1 => ?_, fun g1 => ⟨⟨rfl, n + 1, by omega, by omega, fun i hi => ⟨hbt, ?_⟩⟩, by (try dsimp only); omega⟩⟩
    · have e2 : postI t n = k := by omega
      have := ord_post hnt
      rw [e2] at this
      rw [hbt, this] at h; exact h
    · by_cases ei : i = n
      · rw [ei]; exact fun q => g1 (by rw [q])
      · exact (hall i (by omega)).2
/-- what a walk of the reference may change -/
def FW (x : Int) (M M' : Mem) : Prop := ∀ c j, ¬ (c = 203 ∧ (j = 33 ∨ j = 37)) → ¬ ((c = 205 ∨ c = 206) ∧ 640 ≤ j) → ¬ (228 ≤ c ∧ c ≤ 231) → ¬ (c = 204 ∧ j = x) → ¬ ((c = 205 ∨ c = 206) ∧ 32 * x ≤ j ∧ j < 32 * x + 32) → M' c j = M c j
theorem FW.mt {x y : Int} {M M' : Mem} {t : T} (h : FW x M M') (hxy : y ≠ x) (hy : y ≤ 19) (h16 : t.length ≤ 16) (hm : Mt M y t) : Mt M' y t :=
  ⟨by rw [h _ _ (by omega) (by omega) (by omega) (by omega) (by omega)]; exact hm.1, fun i hi => by rw [h _ _ (by omega) (by omega) (by omega) (by omega) (by omega), h _ _ (by omega) (by omega) (by omega) (by omega) (by omega)]; exact hm.2 i hi⟩
def FdM (lf : Int → T) (nr : Nat) (b : Bool) (u : T) (P : Mem) (x3 x4 : Int) : Prop := ∃ (i r : Nat) (env : EnvT), firstFit lf nr b u = some (i, r, env) ∧ x3 = i ∧ x4 = r ∧ BndOK P 228 u env
theorem m_walkTree {x w : Int} {t : T} {lf rt : Int → T} {nr : Nat} {b : Bool} (hb : b = decide (w ≠ 0)) (h5 : M 203 5 = nr) (hnr : nr ≤ 6) (hx : (0 ≤ x ∧ x ≤ 5) ∨ x = 18 ∨ x = 19) (hru : ∀ r : Int, 0 ≤ r → r < nr → Mt M (6 + r) (lf r) ∧ Mt M (12 + r) (rt r) ∧ Wr (lf r) (rt r)) (ht : Mt M x t) (wt : Wk t)
    (h : ∀ M' : Mem, Mt M' x (walkF lf rt nr b t).2.2 → M' 203 37 = (walkF lf rt nr b t).2.1 → FW x M M' → Q (walkF lf rt nr b t).1 M') : R_X10_walkTree V x w M Q := by
  apply of_X10_walkTree
  unfold wp_X10_walkTree
  intro M1 e1
  have f1 : ∀ c j : Int, ¬ (c = 203 ∧ j = 37) → M1 c j = M c j := fun c j a => by rw [e1]; exact if_neg a
  have mt1 : Mt M1 x t := ⟨by rw [f1 _ _ (by omega)]; exact ht.1, fun i hi => by rw [f1 _ _ (by omega), f1 _ _ (by omega)]; exact ht.2 i hi⟩
  refine m_keep (n := 0) (by omega) mt1 wt.1.1 (by rw [e1, mset_same]; rfl) (by omega) (fun M3 k3 l3 f3 => ?_)
  unfold wp_X10_walkTree_10
  refine ⟨fun N => ∃ (past : List T) (u : T), N 203 37 = past.length ∧ past.length ≤ 100 ∧ PastM N (past ++ [u]) ∧ (∀ s ∈ past, Wk s) ∧ Wk u ∧ Mt N x u ∧ FW x M N ∧ u ∉ past ∧ walkF lf rt nr b t = walkGo lf rt nr b (101 - past.length) past u, fun N => (200 - N 203 37).toNat, ⟨[], t, ?_, by simp, ?_, fun s hs => by simp at hs, wt, ?_, fun c j a1 a2 a3 a4 a5 => ?_, by simp, rfl⟩, ?_⟩
  · rw [f3 _ _ (by omega) (by omega), e1, mset_same]; rfl
  · intro i s hs
    have hi : i = 0 := by
      rcases Nat.eq_zero_or_pos i with q | q
      · exact q
      · rw [List.getElem?_eq_none (by simp; omega)] at hs; cases hs
    subst hi
    simp only [List.nil_append, List.getElem?_cons_zero, Option.some.injEq] at hs
    subst hs
    exact ⟨k3, l3⟩
  · exact ⟨by rw [f3 _ _ (by omega) (by omega)]; exact mt1.1, fun i hi => by rw [f3 _ _ (by omega) (by omega), f3 _ _ (by omega) (by omega)]; exact mt1.2 i hi⟩
  · rw [f3 _ _ (by omega) (by omega), f1 _ _ (by omega)]
  · rintro N ⟨past, u, n37, hp, hPk, hW, wu, mu, hf, hin, he⟩
    obtain ⟨f, hfu⟩ : ∃ f, 101 - past.length = f + 1 := ⟨100 - past.length, by omega⟩
    rw [hfu] at he
    have n5 : N 203 5 = nr := by rw [hf _ _ (by omega) (by omega) (by omega) (by omega) (by omega)]; exact h5
    have hruN : ∀ r : Int, 0 ≤ r → r < nr → Mt N (6 + r) (lf r) ∧ Mt N (12 + r) (rt r) ∧ Wr (lf r) (rt r) := fun r a d => by
      obtain ⟨g1, g2, g3⟩ := hru r a d
      exact ⟨hf.mt (by omega) (by omega) g3.1.1.1 g1, hf.mt (by omega) (by omega) g3.2.1.1.1 g2, g3⟩
    have u16 := wu.1.1
    unfold wp_X10_walkTree_10_b
    have fin : ∀ (P : Mem) (z3 z4 : Int), Fx 228 228 N P → ((z3 = -6 ∧ firstFit lf nr b u = none) ∨ FdM lf nr b u P z3 z4) → wp_X10_walkTree_92 V x w z3 z4 P Q (fun N1 => (∃ (past : List T) (u : T), N1 203 37 = past.length ∧ past.length ≤ 100 ∧ PastM N1 (past ++ [u]) ∧ (∀ s ∈ past, Wk s) ∧ Wk u ∧ Mt N1 x u ∧ FW x M N1 ∧ u ∉ past ∧ walkF lf rt nr b t = walkGo lf rt nr b (101 - past.length) past u) ∧ (200 - N1 203 37).toNat < (200 - N 203 37).toNat) := by
      intro P z3 z4 hP hz
      have muP : Mt P x u := hP.mt (by omega) mu
      have p37 : P 203 37 = past.length := by rw [hP _ _ (by omega)]; exact n37
      have fP : FW x M P := fun c j a1 a2 a3 a4 a5 => by rw [hP _ _ (by omega)]; exact hf c j a1 a2 a3 a4 a5
      unfold wp_X10_walkTree_92
      rw [p37]
      rcases hz with ⟨rfl, e5⟩ | ⟨i, r, env, e5, rfl, rfl, hB⟩
      · refine ⟨fun c => by omega, fun _ => ?_⟩
        rw [wg_none hin e5] at he
        rw [he] at h
        exact h P muP p37 fP
      · refine ⟨fun _ => ⟨fun c => ?_, fun c => ?_⟩, fun c => by omega⟩
        · rw [wg_100 hin e5 (by omega)] at he
          rw [he] at h
          exact h P muP p37 fP
        · have hne : past.length ≠ 100 := by omega
          obtain ⟨hi, hr, hfit⟩ := ff_spec e5
          obtain ⟨g1, g2, g3⟩ := hruN r (by omega) (by omega)
          have hRt := RtB.of g3 hfit hB
          refine m_makes (by omega) (by omega) (hP.mt (by omega) g2) g3.2.1 g3.2.2.2.1 muP wu.1 hi hRt (fun M5 y5 l5 => ⟨fun _ => ?_, fun c => by omega⟩) (fun M5 l5 o5 m5 f5 => ⟨fun c => by omega, fun _ => ?_⟩)
          · rw [wg_big hin e5 hne l5] at he
            rw [he] at h
            exact h M5 (y5.mt (by omega) u16 muP) (by rw [y5 _ _ (by omega) (by omega)]; exact p37) (fun c j a1 a2 a3 a4 a5 => by rw [y5 _ _ (by omega) (by omega)]; exact fP c j a1 a2 a3 a4 a5)
          · rw [wg_step hin e5 hne l5] at he
            obtain ⟨f', hf'⟩ : ∃ f', f = f' + 1 := ⟨f - 1, by omega⟩
            have wd := wu.done g3 hi hfit l5
            intro M6 e6
            have p37' : M5 203 37 = past.length := by rw [f5 _ _ (by omega) (by omega) (by omega) (by omega)]; exact p37
            rw [p37', w_succ (by omega)] at e6
            have s6 : M6 203 37 = ((past ++ [u]).length : Nat) := by rw [e6, mset_same]; simp
            have f6 : ∀ c j : Int, ¬ (c = 203 ∧ j = 37) → M6 c j = M5 c j := fun c j a => by rw [e6]; exact if_neg a
            have m6 : Mt M6 x (doneAt (rt r) u i env) := ⟨by rw [f6 _ _ (by omega)]; exact m5.1, fun i hi => by rw [f6 _ _ (by omega), f6 _ _ (by omega)]; exact m5.2 i hi⟩
            have fw6 : FW x M M6 := fun c j a1 a2 a3 a4 a5 => by rw [f6 _ _ (by omega), f5 _ _ (by omega) a2 a4 a5]; exact fP c j a1 a2 a3 a4 a5
            have hP6 : PastM M6 (past ++ [u]) := by
              intro i' s hs
              have g := hPk i' s hs
              refine ⟨by rw [f6 _ _ (by omega), f5 _ _ (by omega) (by omega) (by omega) (by omega), hP _ _ (by omega)]; exact g.1, fun j hj => ?_⟩
              rw [f6 _ _ (by omega), f5 _ _ (by omega) (by omega) (by omega) (by omega), hP _ _ (by omega), f6 _ _ (by omega), f5 _ _ (by omega) (by omega) (by omega) (by omega), hP _ _ (by omega)]; exact g.2 j hj
            refine m_wasSo (by omega) m6 l5 s6 (by simp; omega) hP6 ?_
            by_cases hin' : doneAt (rt r) u i env ∈ past ++ [u]
            · rw [if_pos hin']
              refine ⟨fun c => by omega, fun _ => ?_⟩
              rw [hf', wg_in hin'] at he
              rw [he] at h
              exact h M6 m6 s6 fw6
            · rw [if_neg hin']
              refine ⟨fun _ => ?_, fun c => by omega⟩
              refine m_keep (by omega) m6 l5 s6 (by simp; omega) (fun M8 k8 l8 f8 => ?_)
              refine ⟨⟨past ++ [u], doneAt (rt r) u i env, ?_, by simp; omega, ?_, ?_, wd, ?_, fun c j a1 a2 a3 a4 a5 => ?_, hin', ?_⟩, ?_⟩
              · rw [f8 _ _ (by omega) (by omega)]; exact s6
              · intro i' s hs
                by_cases hi' : i' < (past ++ [u]).length
                · rw [List.getElem?_append_left hi'] at hs
                  have g := hP6 i' s hs
                  have l16 : s.length ≤ 16 := by
                    rcases List.mem_append.mp (List.mem_of_getElem? hs) with q | q
                    · exact (hW s q).1.1
                    · rw [List.mem_singleton.mp q]; exact u16
                  refine ⟨by rw [f8 _ _ (by omega) (by omega)]; exact g.1, fun j hj => ?_⟩
                  rw [f8 _ _ (by omega) (by omega), f8 _ _ (by omega) (by omega)]; exact g.2 j hj
                · rw [List.getElem?_append_right (by omega)] at hs
                  have hz : i' - (past ++ [u]).length = 0 := by
                    rcases Nat.eq_zero_or_pos (i' - (past ++ [u]).length) with q | q
                    · exact q
                    · rw [List.getElem?_eq_none (by simp only [List.length_cons, List.length_nil]; omega)] at hs; cases hs
                  rw [hz] at hs
                  simp only [List.getElem?_cons_zero, Option.some.injEq] at hs
                  subst hs
                  have : i' = (past ++ [u]).length := by omega
                  subst this
                  exact ⟨k8, l8⟩
              · intro s hs
                rcases List.mem_append.mp hs with g | g
                · exact hW s g
                · rw [List.mem_singleton.mp g]; exact wu
              · exact ⟨by rw [f8 _ _ (by omega) (by omega)]; exact m6.1, fun i hi => by rw [f8 _ _ (by omega) (by omega), f8 _ _ (by omega) (by omega)]; exact m6.2 i hi⟩
              · rw [f8 _ _ (by omega) (by omega)]; exact fw6 c j a1 a2 a3 a4 a5
              · rw [he]
                congr 1
                simp; omega
              · rw [f8 _ _ (by omega) (by omega), s6, n37]; simp; omega
    unfold wp_X10_walkTree_20
    refine ⟨fun z3 z4 z5 P => ∃ n : Nat, z5 = n ∧ n ≤ u.length ∧ Fx 228 228 N P ∧ ((z3 = -6 ∧ ∀ q, q < n → ∀ r : Nat, r < nr → fitAt (lf r) u (ordOf b u q) = none) ∨ FdM lf nr b u P z3 z4), fun _ _ z5 _ => (17 - z5).toNat, ⟨0, rfl, by omega, Fx.rf _ _ _, Or.inl ⟨rfl, fun q hq => by omega⟩⟩, ?_⟩
    rintro z3 z4 z5 P ⟨n, rfl, hn, hP, hz⟩
    have muP : Mt P x u := hP.mt (by omega) mu
    unfold wp_X10_walkTree_20_b
    rw [muP.1]
    refine ⟨by omega, fun g => fin P z3 z4 hP ?_, fun g => ⟨fun c => fin P z3 z4 hP ?_, fun c => ?_⟩⟩
    · rcases hz with ⟨a, d⟩ | d
      · exact Or.inl ⟨a, ff_none (fun q hq => d q (by omega))⟩
      · exact Or.inr d
    · rcases hz with ⟨a, d⟩ | d
      · omega
      · exact Or.inr d
    · have hnt : n < u.length := by omega
      rcases hz with ⟨rfl, hno⟩ | ⟨i, r, env, -, q, -, -⟩
      · refine m_nodeAt hb (by omega) muP wu.1 hnt ?_
        unfold wp_X10_walkTree_48
        refine ⟨fun y3 y4 y7 R => ∃ q : Nat, y7 = q ∧ q ≤ nr ∧ Fx 228 228 N R ∧ ((y3 = -6 ∧ ∀ r : Nat, r < q → fitAt (lf r) u (ordOf b u n) = none) ∨ FdM lf nr b u R y3 y4), fun _ _ y7 _ => (7 - y7).toNat, ⟨0, rfl, by omega, hP, Or.inl ⟨rfl, fun r hr => by omega⟩⟩, ?_⟩
        rintro y3 y4 y7 R ⟨q, rfl, hq, hR, hy⟩
        have muR : Mt R x u := hR.mt (by omega) mu
        have r5 : R 203 5 = nr := by rw [hR _ _ (by omega)]; exact n5
        unfold wp_X10_walkTree_48_b
        rw [r5, w_succ (by omega), w_succ (by omega)]
        refine ⟨fun g1 => ⟨⟨n + 1, by omega, by omega, hR, ?_⟩, by (try dsimp only); omega⟩, fun g1 => ⟨fun g2 => ⟨⟨n + 1, by omega, by omega, hR, ?_⟩, by (try dsimp only); omega⟩, fun g2 => ?_⟩⟩
        · rcases hy with ⟨a, d⟩ | d
          · refine Or.inl ⟨a, fun q' hq' r hr => ?_⟩
            by_cases e : q' = n
            · subst e; exact d r (by omega)
            · exact hno q' (by omega) r hr
          · exact Or.inr d
        · rcases hy with ⟨a, d⟩ | d
          · omega
          · exact Or.inr d
        · rcases hy with ⟨rfl, hno2⟩ | ⟨i, r, env, -, q', -, -⟩
          · obtain ⟨ml, -, wr⟩ := hruN q (by omega) (by omega)
            refine m_fitsAt (by omega) (by omega) (hR.mt (by omega) ml) wr.1 wr.2.2.1 muR wu.1 (ord_lt hnt) (fun M' f' e => ⟨fun _ => ⟨⟨q + 1, by omega, by omega, hR.trans f', Or.inl ⟨rfl, fun r hr => ?_⟩⟩, by (try dsimp only); omega⟩, fun c => by omega⟩) (fun M' env f' e hB => ⟨fun c => by omega, fun _ => ⟨⟨q + 1, by omega, by omega, hR.trans f', Or.inr ⟨ordOf b u n, q, env, ff_some hnt (by omega) hno hno2 e, rfl, rfl, hB⟩⟩, by (try dsimp only); omega⟩⟩)
            by_cases er : r = q
            · subst er; exact e
            · exact hno2 r (by omega)
          · omega
      · omega
end WALK2
