/-! walks: the class -/
def Lb (t : T) : Prop := ∀ p ∈ t, 0 ≤ p.1 ∧ p.1 ≤ 2000
theorem Lb.at {t : T} (h : Lb t) {j : Nat} (hj : j < t.length) : 0 ≤ lb t j ∧ lb t j ≤ 2000 := h _ (mem_lbar hj)
/-- a tree of a walk -/
def Wk (t : T) : Prop := Wt t ∧ t ≠ [] ∧ Lb t
theorem Wk.ar16 {t : T} (h : Wk t) {j : Nat} (hj : j < t.length) : ar t j < 16 := by
  have h1 := ar_lt (h.1.ok hj) hj
  have h2 := h.1.1
  omega
theorem mem_done {M : Mem} {c : Int} {r t : T} {i : Nat} {env : EnvT} (hb : RtB M c t env r) {p : Int × Nat} (hp : p ∈ doneAt r t i env) : p ∈ t ∨ (p ∈ r ∧ isH p.1 = false) := by
  unfold doneAt at hp
  rcases List.mem_append.mp hp with hp | hp
  · rcases List.mem_append.mp hp with hp | hp
    · exact Or.inl (List.mem_of_mem_take hp)
    · unfold inst at hp
      rw [List.mem_flatMap] at hp
      obtain ⟨q, hq, hpq⟩ := hp
      by_cases hh : isH q.1 = true
      · rw [if_pos hh] at hpq
        obtain ⟨-, n, -, h2, -⟩ := hb q hq hh
        rw [h2, Option.getD_some] at hpq
        exact Or.inl (List.mem_of_mem_drop (List.mem_of_mem_take hpq))
      · rw [if_neg hh] at hpq
        rw [List.mem_singleton.mp hpq]
        exact Or.inr ⟨hq, Bool.eq_false_iff.mpr hh⟩
  · exact Or.inl (List.mem_of_mem_drop hp)
theorem Wk.done {l r t : T} {i : Nat} {env : EnvT} (h : Wk t) (wr : Wr l r) (hi : i < t.length) (hf : fitAt l t i = some env) (h16 : (doneAt r t i env).length ≤ 16) : Wk (doneAt r t i env) := by
  obtain ⟨M, hb⟩ := fit_rtb wr (h.1.ok hi) hi hf
  have hok := ok_done (h.1.ok hi) (wr.2.1.1.ok (List.length_pos_iff.mpr wr.2.2.2.1)) hi hb
  refine ⟨⟨h16, fun _ => hok⟩, fun e => ?_, fun p hp => ?_⟩
  · rw [e] at hok; exact absurd hok (by simp [ok])
  · rcases mem_done hb hp with g | ⟨g, g'⟩
    · exact h.2.2 p g
    · rcases wr.2.1.2 p g with q | q
      · omega
      · rw [q.1] at g'; cases g'
theorem pack_eq {s t : T} (hs : Wk s) (ht : Wk t) (hl : s.length = t.length) (h : ∀ j, j < s.length → lb s j * 16 + (ar s j : Int) = lb t j * 16 + ar t j) : s = t := T_ext hl (fun j hj => by
  have a := h j hj
  have b := hs.ar16 hj
  have c := ht.ar16 (j := j) (by omega)
  omega)
def PastOK (M : Mem) (l : List T) : Prop := ∀ (i : Nat) (t : T), l[i]? = some t → M 125 i = t.length ∧ ∀ j : Nat, j < t.length → M 126 (16 * (i : Int) + j) = lb t j * 16 + ar t j
/-! one step of the walk as it is defined -/
section WSTEP
variable {lf rt : Int → T} {nr : Nat} {w : Bool} {f : Nat} {past : List T} {t : T}
theorem wg_in (h : t ∈ past) : walkGo lf rt nr w (f + 1) past t = (1, past.length, t) := by
  unfold walkGo; rw [if_pos h]
theorem wg_none (h : t ∉ past) (h1 : firstFit lf nr w t = none) : walkGo lf rt nr w (f + 1) past t = (0, past.length, t) := by
  unfold walkGo; rw [if_neg h, h1]
theorem wg_100 {i r : Nat} {env : EnvT} (h : t ∉ past) (h1 : firstFit lf nr w t = some (i, r, env)) (h2 : past.length = 100) : walkGo lf rt nr w (f + 1) past t = (3, past.length, t) := by
  unfold walkGo; rw [if_neg h, h1]; simp only; rw [if_pos h2]
theorem wg_big {i r : Nat} {env : EnvT} (h : t ∉ past) (h1 : firstFit lf nr w t = some (i, r, env)) (h2 : past.length ≠ 100) (h3 : 16 < (doneAt (rt r) t i env).length) : walkGo lf rt nr w (f + 1) past t = (2, past.length, t) := by
  unfold walkGo; rw [if_neg h, h1]; simp only; rw [if_neg h2, if_pos h3]
theorem wg_step {i r : Nat} {env : EnvT} (h : t ∉ past) (h1 : firstFit lf nr w t = some (i, r, env)) (h2 : past.length ≠ 100) (h3 : (doneAt (rt r) t i env).length ≤ 16) : walkGo lf rt nr w (f + 1) past t = walkGo lf rt nr w f (past ++ [t]) (doneAt (rt r) t i env) := by
  conv => lhs; unfold walkGo
  rw [if_neg h, h1]; simp only; rw [if_neg h2, if_neg (by omega)]
end WSTEP
section RUN
variable {V : VV} {M : Mem} {Q : Int → Mem → Prop}
theorem x_remember {k : Int} {n : Nat} {t : T} (ht : Cu M k t) (wk : Wk t) (hn : n ≤ 100) (hk : k + 6 < 125 ∨ 126 < k) (h : ∀ M' : Mem, M' 125 n = t.length → (∀ j : Nat, j < t.length → M' 126 (16 * (n : Int) + j) = lb t j * 16 + ar t j) → (∀ c j : Int, ¬ (c = 125 ∧ j = n) → ¬ (c = 126 ∧ 16 * (n : Int) ≤ j) → M' c j = M c j) → Q 0 M') : R_X8_remember V k n M Q := by
  have t16 := wk.1.1
  apply of_X8_remember
  unfold wp_X8_remember
  refine ⟨by omega, ?_⟩
  rw [ht.1]
  unfold wp_X8_remember_12
  refine ⟨fun j N => ∃ q : Nat, j = q ∧ q ≤ t.length ∧ N 125 n = t.length ∧ (∀ j : Nat, j < q → N 126 (16 * (n : Int) + j) = lb t j * 16 + ar t j) ∧ (∀ c j : Int, ¬ (c = 125 ∧ j = n) → ¬ (c = 126 ∧ 16 * (n : Int) ≤ j) → N c j = M c j), fun j _ => (17 - j).toNat, ⟨0, rfl, by omega, mset_same _ _ _ _, fun j hj => by omega, fun c j a _ => if_neg a⟩, ?_⟩
  rintro j N ⟨q, rfl, hq, h1, h2, h3⟩
  have htN : Cu N k t := ⟨by rw [h3 _ _ (by omega) (by omega)]; exact ht.1, fun i hi => by rw [h3 _ _ (by omega) (by omega), h3 _ _ (by omega) (by omega)]; exact ht.2 i hi⟩
  unfold wp_X8_remember_12_b
  rw [htN.1]
  refine ⟨fun g => h N h1 (fun j hj => h2 j (by omega)) h3, fun g => ⟨by omega, by omega, ?_⟩⟩
  have hqt : q < t.length := by omega
  have hl := wk.2.2.at hqt
  have ha := wk.ar16 hqt
  rw [(htN.2 q hqt).1, (htN.2 q hqt).2, w32_id (x := (n : Int) * 16) (by omega) (by omega), w32_id (x := (n : Int) * 16 + q) (by omega) (by omega), w32_id (x := lb t q * 16) (by omega) (by omega), w32_id (x := lb t q * 16 + _) (by omega) (by omega), w_succ (by omega)]
  refine ⟨by omega, ⟨q + 1, by omega, by omega, ?_, ?_, ?_⟩, by (try dsimp only); omega⟩
  · rw [mset_cell _ (by omega)]; exact h1
  · intro j hj
    by_cases e : j = q
    · subst e
      rw [show (16 * (n : Int) + j) = n * 16 + j by omega, mset_same]
    · rw [mset_idx _ _ _ (by omega)]; exact h2 j (by omega)
  · intro c j a b
    rw [← h3 c j a b]
    exact if_neg (by omega)
theorem x_isSamePast {a n : Nat} {s t : T} (ha : a ≤ 100) (hn : n ≤ 100) (ws : Wk s) (wt : Wk t) (hl : s.length = t.length) (h1 : M 125 a = s.length) (hs : ∀ j : Nat, j < s.length → M 126 (16 * (a : Int) + j) = lb s j * 16 + ar s j) (ht : ∀ j : Nat, j < t.length → M 126 (16 * (n : Int) + j) = lb t j * 16 + ar t j) (h : Q (if s = t then 1 else 0) M) : R_X8_isSamePast V a n M Q := by
  have s16 := ws.1.1
  apply of_X8_isSamePast
  unfold wp_X8_isSamePast wp_X8_isSamePast_2
  refine ⟨fun q => ∃ m : Nat, q = m ∧ m ≤ s.length ∧ ∀ j, j < m → lb s j * 16 + (ar s j : Int) = lb t j * 16 + ar t j, fun q => (17 - q).toNat, ⟨0, rfl, by omega, fun j hj => by omega⟩, ?_⟩
  rintro q ⟨m, rfl, hm, hall⟩
  unfold wp_X8_isSamePast_2_b
  rw [h1, w32_id (x := (a : Int) * 16) (by omega) (by omega), w32_id (x := (n : Int) * 16) (by omega) (by omega), w32_id (x := (a : Int) * 16 + _) (by omega) (by omega), w32_id (x := (n : Int) * 16 + _) (by omega) (by omega), show (a : Int) * 16 + (m : Int) = 16 * a + m by omega, show (n : Int) * 16 + (m : Int) = 16 * n + m by omega]
  refine ⟨by omega, fun g => ?_, fun g => ⟨by omega, by omega, fun e => ?_, fun e => ?_⟩⟩
  · rw [if_pos (pack_eq ws wt hl (fun j hj => hall j (by omega)))] at h; exact h
  · rw [hs m (by omega), ht m (by omega)] at e
    rw [w_succ (by omega)]
    refine ⟨⟨m + 1, by omega, by omega, fun j hj => ?_⟩, by (try dsimp only); omega⟩
    by_cases hjm : j = m
    · rw [hjm]; exact e
    · exact hall j (by omega)
  · rw [hs m (by omega), ht m (by omega)] at e
    rw [if_neg (fun q => e (by rw [q]))] at h; exact h
theorem x_wasBefore {past : List T} {t : T} (hn : past.length ≤ 100) (hP : PastOK M (past ++ [t])) (hW : ∀ s ∈ past, Wk s) (wt : Wk t) (h : Q (if t ∈ past then 1 else 0) M) : R_X8_wasBefore V past.length M Q := by
  have pt := hP past.length t (by simp)
  apply of_X8_wasBefore
  unfold wp_X8_wasBefore wp_X8_wasBefore_2
  refine ⟨fun q N => N = M ∧ ∃ m : Nat, q = m ∧ m ≤ past.length ∧ ∀ (i : Nat) (s : T), i < m → past[i]? = some s → s ≠ t, fun q _ => (200 - q).toNat, ⟨rfl, 0, rfl, by omega, fun i s hi => by omega⟩, ?_⟩
  rintro q N ⟨rfl, m, rfl, hm, hall⟩
  unfold wp_X8_wasBefore_2_b
  refine ⟨fun g => ?_, fun g => ⟨by omega, by omega, ?_⟩⟩
  · rw [if_neg] at h
    · exact h
    · intro hmem
      obtain ⟨i, hi, e⟩ := List.getElem_of_mem hmem
      exact hall i t (by omega) (by rw [List.getElem?_eq_getElem hi, e]) rfl
  · have hml : m < past.length := by omega
    obtain ⟨s, hs⟩ : ∃ s, past[m]? = some s := ⟨past[m], List.getElem?_eq_getElem hml⟩
    have ps := hP m s (by rw [List.getElem?_append_left hml]; exact hs)
    have hsm : s ∈ past := List.mem_of_getElem? hs
    have ws := hW s hsm
    rw [ps.1, pt.1, w_succ (by omega)]
    have next : s ≠ t → (fun z2 N1 => (N1 = N ∧ ∃ m : Nat, z2 = (m : Int) ∧ m ≤ past.length ∧ ∀ (i : Nat) (s : T), i < m → past[i]? = some s → s ≠ t) ∧ (200 - z2).toNat < (200 - (m : Int)).toNat) ((m : Int) + 1) N := by
      intro hne
      refine ⟨⟨rfl, m + 1, by omega, by omega, fun i s' hi hs' => ?_⟩, by omega⟩
      by_cases e : i = m
      · subst e
        rw [hs] at hs'
        rw [← Option.some.inj hs']; exact hne
      · exact hall i s' (by omega) hs'
    refine ⟨fun g1 => ?_, fun g1 => next (fun e => g1 (by rw [e]))⟩
    refine x_isSamePast (by omega) hn ws wt (by omega) ps.1 ps.2 pt.2 ?_
    refine ⟨fun g2 => next (fun e => by rw [if_pos e] at g2; omega), fun g2 => ?_⟩
    have e : s = t := by
      split at g2
      · assumption
      · exact absurd rfl g2
    rw [if_pos (by rw [← e]; exact hsm)] at h; exact h
def FF (M M' : Mem) : Prop := ∀ c j, c ≠ 31 → c ≠ 124 → ¬ (c = 123 ∧ (j = 5 ∨ j = 6)) → M' c j = M c j
def trn (b : Bool) (t : T) (i : Nat) : Nat := if b then postI t i else i
theorem trn_lt {b : Bool} {t : T} {i : Nat} (hi : i < t.length) : trn b t i < t.length := by
  unfold trn; split
  · exact post_lt hi
  · exact hi
theorem trn_inj {b : Bool} {t : T} {i j : Nat} (hi : i < t.length) (hj : j < t.length) (h : trn b t i = trn b t j) : i = j := by
  unfold trn at h; split at h
  · exact post_inj hi hj h
  · exact h
theorem trn_ex {b : Bool} {t : T} {k : Nat} (hk : k < t.length) : ∃ i, i < t.length ∧ trn b t i = k ∧ ordOf b t k = i := by
  cases b with
  | false => exact ⟨k, hk, rfl, rfl⟩
  | true => exact ord_ex hk
theorem x_findFirst {k w : Int} {t : T} {lf rt : Int → T} {nr : Nat} {b : Bool} (hb : b = decide (w ≠ 0)) (h28 : M 28 0 = nr) (hnr : nr ≤ 6) (hk : k + 6 < 28 ∨ 127 ≤ k) (hru : ∀ r : Int, 0 ≤ r → r < nr → Cu M (39 + 14 * r) (lf r) ∧ Wr (lf r) (rt r)) (ht : Ct M k t) (wt : Wt t)
    (h0 : ∀ M', FF M M' → firstFit lf nr b t = none → Q 0 M')
    (h1 : ∀ (M' : Mem) (i r : Nat) (env : EnvT), FF M M' → firstFit lf nr b t = some (i, r, env) → M' 123 5 = i → M' 123 6 = r → Q 1 M') : R_X8_findFirst V k w M Q := by
  have t16 := wt.1
  apply of_X8_findFirst
  unfold wp_X8_findFirst wp_X8_findFirst_2
  refine ⟨fun j N => ∃ n : Nat, j = n ∧ n ≤ t.length ∧ Fx 124 124 M N ∧ ∀ i : Nat, i < n → N 124 (trn b t i) = i, fun j _ => (17 - j).toNat, ⟨0, rfl, by omega, Fx.rf _ _ _, fun i hi => by omega⟩, ?_⟩
  rintro j N ⟨n, rfl, hn, hF, hN⟩
  have htN : Ct N k t := hF.ct (by omega) ht
  unfold wp_X8_findFirst_2_b
  rw [htN.1.1]
  refine ⟨fun g => ?_, fun g => ?_⟩
  · have hnt : n = t.length := by omega
    subst hnt
    have hord : ∀ q : Nat, q < t.length → N 124 q = ordOf b t q := by
      intro q hq
      obtain ⟨i, hi, e1, e2⟩ := trn_ex (b := b) hq
      rw [e2, ← e1]; exact hN i hi
    clear hN g
    unfold wp_X8_findFirst_65
    refine ⟨fun j P => ∃ n : Nat, j = n ∧ n ≤ t.length ∧ Fx 31 31 N P ∧ ∀ q, q < n → ∀ r : Nat, r < nr → fitAt (lf r) t (ordOf b t q) = none, fun j _ => (17 - j).toNat, ⟨0, rfl, by omega, Fx.rf _ _ _, fun q hq => by omega⟩, ?_⟩
    rintro j P ⟨n, rfl, hn, hP, hno⟩
    have htP : Ct P k t := hP.ct (by omega) htN
    unfold wp_X8_findFirst_65_b
    rw [htP.1.1]
    refine ⟨fun g => h0 P (fun c j a b' d => by rw [hP _ _ (by omega), hF _ _ (by omega)]) (ff_none (fun q hq => hno q (by omega))), fun g => ?_⟩
    have hnt : n < t.length := by omega
    unfold wp_X8_findFirst_76
    refine ⟨fun j R => ∃ q : Nat, j = q ∧ q ≤ nr ∧ Fx 31 31 N R ∧ ∀ r : Nat, r < q → fitAt (lf r) t (ordOf b t n) = none, fun j _ => (7 - j).toNat, ⟨0, rfl, by omega, hP, fun r hr => by omega⟩, ?_⟩
    rintro j R ⟨q, rfl, hq, hR, hno2⟩
    have htR : Ct R k t := hR.ct (by omega) htN
    have n28 : R 28 0 = nr := by rw [hR _ _ (by omega), hF _ _ (by omega)]; exact h28
    unfold wp_X8_findFirst_76_b
    rw [n28, w_succ (by omega), w_succ (by omega)]
    refine ⟨fun g2 => ⟨⟨n + 1, by omega, by omega, hR, fun q' hq' r hr => ?_⟩, by (try dsimp only); omega⟩, fun g2 => ⟨by omega, ?_⟩⟩
    · by_cases e : q' = n
      · subst e; exact hno2 r (by omega)
      · exact hno q' (by omega) r hr
    · obtain ⟨cl, wr⟩ := hru q (by omega) (by omega)
      have eo : R 124 n = ordOf b t n := by rw [hR _ _ (by omega)]; exact hord n hnt
      rw [eo]
      have clR : Cu R (39 + 14 * (q : Int)) (lf q) := hR.cu (by omega) (hF.cu (by omega) cl)
      refine x_suits n28 hnr ⟨by omega, by omega⟩ (by omega) clR wr.1 wr.2.2.1 wr.2.2.2.2.1 htR wt (ord_lt hnt) (fun M' f' e => ⟨fun _ => ⟨⟨q + 1, by omega, by omega, hR.trans f', fun r hr => ?_⟩, by (try dsimp only); omega⟩, fun c => by omega⟩) (fun M' env f' e _ => ⟨fun c => by omega, fun _ => ⟨by omega, ?_⟩⟩)
      · by_cases er : r = q
        · subst er; exact e
        · exact hno2 r (by omega)
      · intro M3 h3
        have eo' : M' 124 n = ordOf b t n := by rw [f' _ _ (by omega)]; exact eo
        rw [eo'] at h3
        refine h1 _ (ordOf b t n) q env (fun c j a b' d => ?_) (ff_some hnt (by omega) hno hno2 e) ?_ (mset_same _ _ _ _)
        · rw [show mset M3 123 6 (q : Int) c j = M3 c j from if_neg (by omega), h3]
          rw [show mset M' 123 5 (ordOf b t n : Int) c j = M' c j from if_neg (by omega), f' _ _ (by omega), hR _ _ (by omega), hF _ _ (by omega)]
        · rw [mset_idx _ _ _ (by omega), h3, mset_same]
  · have hnt : n < t.length := by omega
    have hd := dep_le t n
    have hs := sz_pos hnt
    have hse := sz_end hnt
    have hlt := trn_lt (b := b) hnt
    have st : ∀ (s0 : Int) (B : Int → Mem → Prop), s0 = trn b t n → B ((n : Int) + 1) (mset N 124 (trn b t n) n) → wp_X8_findFirst_35 V k w n s0 N Q B := by
      rintro s0 B rfl hB
      unfold wp_X8_findFirst_35
      rw [w_succ (by omega)]
      exact ⟨fun c => by omega, fun _ => ⟨fun c => by omega, fun _ => ⟨by omega, hB⟩⟩⟩
    have nx : (fun z3 N1 => (∃ n : Nat, z3 = (n : Int) ∧ n ≤ t.length ∧ Fx 124 124 M N1 ∧ ∀ i : Nat, i < n → N1 124 (trn b t i) = i) ∧ (17 - z3).toNat < (17 - (n : Int)).toNat) ((n : Int) + 1) (mset N 124 (trn b t n) n) := by
      refine ⟨⟨n + 1, by omega, by omega, hF.set (by omega) (by omega), fun i hi => ?_⟩, by omega⟩
      by_cases e : i = n
      · subst e; rw [mset_same]
      · have : trn b t i ≠ trn b t n := fun h => e (trn_inj (by omega) hnt h)
        rw [mset_idx _ _ _ (by omega)]; exact hN i (by omega)
    refine ⟨fun c => ?_, fun c => ⟨by omega, by omega, ?_⟩⟩
    · have e : trn b t n = n := by rw [hb, c]; rfl
      exact st _ _ (by rw [e]) nx
    · rw [(htN.2 n hnt).1, (htN.2 n hnt).2.2.2, w32_id (x := (n : Int) - dep t n) (by omega) (by omega), w32_id (x := (n : Int) - dep t n + sz t n) (by omega) (by omega), w32_id (x := (n : Int) - dep t n + sz t n - 1) (by omega) (by omega)]
      have e : ((n : Int) - dep t n + sz t n - 1) = trn b t n := by
        have : b = true := by rw [hb]; simpa using c
        rw [this]
        show _ = ((postI t n : Nat) : Int)
        unfold postI; omega
      exact st _ _ e nx
theorem x_run {k w : Int} {t : T} {lf rt : Int → T} {nr : Nat} {b : Bool} (hb : b = decide (w ≠ 0)) (h28 : M 28 0 = nr) (hnr : nr ≤ 6) (hk : k + 6 < 28 ∨ 127 ≤ k) (hru : ∀ r : Int, 0 ≤ r → r < nr → Cu M (39 + 14 * r) (lf r) ∧ Cu M (46 + 14 * r) (rt r) ∧ Wr (lf r) (rt r)) (ht : Ct M k t) (wt : Wk t)
    (h : ∀ M', Ct M' k (walkF lf rt nr b t).2.2 → M' 123 0 = (walkF lf rt nr b t).2.1 → (∀ c j, ¬ (31 ≤ c ∧ c ≤ 38) → ¬ (123 ≤ c ∧ c ≤ 126) → ¬ (k ≤ c ∧ c ≤ k + 6) → M' c j = M c j) → Q (walkF lf rt nr b t).1 M') : R_X8_run V k w M Q := by
  apply of_X8_run
  unfold wp_X8_run wp_X8_run_2
  refine ⟨fun x N => ∃ (past : List T) (u : T), x = past.length ∧ past.length ≤ 100 ∧ PastOK N past ∧ (∀ s ∈ past, Wk s) ∧ Wk u ∧ Ct N k u ∧ (∀ c j, ¬ (31 ≤ c ∧ c ≤ 38) → ¬ (123 ≤ c ∧ c ≤ 126) → ¬ (k ≤ c ∧ c ≤ k + 6) → N c j = M c j) ∧ walkF lf rt nr b t = walkGo lf rt nr b (101 - past.length) past u, fun x _ => (200 - x).toNat, ⟨[], t, rfl, by simp, fun i s hs => by simp at hs, fun s hs => by simp at hs, wt, ht, fun c j _ _ _ => rfl, rfl⟩, ?_⟩
  rintro x N ⟨past, u, rfl, hp, hPk, hW, wu, cu, hf, he⟩
  obtain ⟨f, hfu⟩ : ∃ f, 101 - past.length = f + 1 := ⟨100 - past.length, by omega⟩
  rw [hfu] at he
  unfold wp_X8_run_2_b
  refine ⟨fun g => by omega, fun _ => ?_⟩
  intro M1 e1
  have cu1 : Ct M1 k u := by rw [e1]; exact cu.fr (fun c j _ _ => mset_cell _ (by omega) _ _ _)
  refine x_remember cu1.1 wu hp (by omega) (fun M3 p3 q3 f3 => ?_)
  have cu3 : Ct M3 k u := cu1.fr (fun c j _ _ => f3 _ _ (by omega) (by omega))
  have d3 : M3 123 0 = past.length := by rw [f3 _ _ (by omega) (by omega), e1, mset_same]
  have ff3 : ∀ c j, ¬ (31 ≤ c ∧ c ≤ 38) → ¬ (123 ≤ c ∧ c ≤ 126) → ¬ (k ≤ c ∧ c ≤ k + 6) → M3 c j = M c j := fun c j a b' d => by rw [f3 _ _ (by omega) (by omega), e1, mset_cell _ (by omega)]; exact hf c j a b' d
  have hP3 : PastOK M3 (past ++ [u]) := by
    intro i s hs
    by_cases hi : i < past.length
    · rw [List.getElem?_append_left hi] at hs
      have g := hPk i s hs
      have l16 := (hW s (List.mem_of_getElem? hs)).1.1
      have e : ∀ c j : Int, c = 125 ∨ c = 126 → ¬ (c = 125 ∧ j = past.length) → ¬ (c = 126 ∧ 16 * (past.length : Int) ≤ j) → M3 c j = N c j := fun c j a b' d => by rw [f3 _ _ b' d, e1, mset_cell _ (by omega)]
      refine ⟨by rw [e _ _ (by omega) (by omega) (by omega)]; exact g.1, fun j hj => ?_⟩
      rw [e _ _ (by omega) (by omega) (by omega)]; exact g.2 j hj
    · rw [List.getElem?_append_right (by omega)] at hs
      have hz : i - past.length = 0 := by
        rcases Nat.eq_zero_or_pos (i - past.length) with q | q
        · exact q
        · rw [List.getElem?_eq_none (by simp; omega)] at hs; cases hs
      rw [hz] at hs
      simp only [List.getElem?_cons_zero, Option.some.injEq] at hs
      subst hs
      have : i = past.length := by omega
      subst this
      exact ⟨p3, q3⟩
  refine x_wasBefore hp hP3 hW wu ?_
  by_cases hin : u ∈ past
  · rw [if_pos hin]
    refine ⟨fun c => by omega, fun _ => ?_⟩
    rw [wg_in hin] at he
    rw [he] at h
    exact h M3 cu3 d3 ff3
  · rw [if_neg hin]
    refine ⟨fun _ => ?_, fun c => by omega⟩
    have n28 : M3 28 0 = nr := by rw [ff3 _ _ (by omega) (by omega) (by omega)]; exact h28
    have hru3 : ∀ r : Int, 0 ≤ r → r < nr → Cu M3 (39 + 14 * r) (lf r) ∧ Cu M3 (46 + 14 * r) (rt r) ∧ Wr (lf r) (rt r) := fun r a d => by
      obtain ⟨g1, g2, g3⟩ := hru r a d
      refine ⟨⟨by rw [ff3 _ _ (by omega) (by omega) (by omega)]; exact g1.1, fun i hi => ?_⟩, ⟨by rw [ff3 _ _ (by omega) (by omega) (by omega)]; exact g2.1, fun i hi => ?_⟩, g3⟩
      · rw [ff3 _ _ (by omega) (by omega) (by omega), ff3 _ _ (by omega) (by omega) (by omega)]; exact g1.2 i hi
      · rw [ff3 _ _ (by omega) (by omega) (by omega), ff3 _ _ (by omega) (by omega) (by omega)]; exact g2.2 i hi
    refine x_findFirst (rt := rt) hb n28 hnr hk (fun r a d => ⟨(hru3 r a d).1, (hru3 r a d).2.2⟩) cu3 wu.1 (fun M5 f5 e5 => ⟨fun _ => ?_, fun c => by omega⟩) (fun M5 i r env f5 e5 n5 r5 => ⟨fun c => by omega, fun _ => ?_⟩)
    · rw [wg_none hin e5] at he
      rw [he] at h
      exact h M5 (cu3.fr (fun c j _ _ => f5 _ _ (by omega) (by omega) (by omega))) (by rw [f5 _ _ (by omega) (by omega) (by omega)]; exact d3) (fun c j a b' d => by rw [f5 _ _ (by omega) (by omega) (by omega)]; exact ff3 c j a b' d)
    · obtain ⟨hi, hr, hfit⟩ := ff_spec e5
      have cu5 : Ct M5 k u := cu3.fr (fun c j _ _ => f5 _ _ (by omega) (by omega) (by omega))
      have d5 : M5 123 0 = past.length := by rw [f5 _ _ (by omega) (by omega) (by omega)]; exact d3
      have ff5 : ∀ c j, ¬ (31 ≤ c ∧ c ≤ 38) → ¬ (123 ≤ c ∧ c ≤ 126) → ¬ (k ≤ c ∧ c ≤ k + 6) → M5 c j = M c j := fun c j a b' d => by rw [f5 _ _ (by omega) (by omega) (by omega)]; exact ff3 c j a b' d
      refine ⟨fun c => ?_, fun c => ?_⟩
      · rw [wg_100 hin e5 (by omega)] at he
        rw [he] at h
        exact h M5 cu5 d5 ff5
      · have hne : past.length ≠ 100 := by omega
        rw [n5, r5]
        obtain ⟨g1, g2, g3⟩ := hru3 r (by omega) (by omega)
        have g1' : Cu M5 (39 + 14 * (r : Int)) (lf r) := ⟨by rw [f5 _ _ (by omega) (by omega) (by omega)]; exact g1.1, fun i hi => by rw [f5 _ _ (by omega) (by omega) (by omega), f5 _ _ (by omega) (by omega) (by omega)]; exact g1.2 i hi⟩
        have g2' : Cu M5 (46 + 14 * (r : Int)) (rt r) := ⟨by rw [f5 _ _ (by omega) (by omega) (by omega)]; exact g2.1, fun i hi => by rw [f5 _ _ (by omega) (by omega) (by omega), f5 _ _ (by omega) (by omega) (by omega)]; exact g2.2 i hi⟩
        have n28' : M5 28 0 = nr := by rw [f5 _ _ (by omega) (by omega) (by omega)]; exact n28
        refine x_rewrite n28' hnr ⟨by omega, by omega⟩ (by omega) g1' g2' g3 cu5 wu.1 hi (fun M7 f7 e7 => ?_) (fun M7 env' f7 e7 l7 => ⟨fun c => by omega, fun _ => ?_⟩) (fun M7 env' e7 l7 o7 c7 f7 => ⟨fun _ => ?_, fun c => by omega⟩)
        · rw [hfit] at e7; cases e7
        · rw [hfit] at e7
          have := Option.some.inj e7
          subst this
          rw [wg_big hin e5 hne l7] at he
          rw [he] at h
          exact h M7 (f7.ct (by omega) cu5) (by rw [f7 _ _ (by omega)]; exact d5) (fun c j a b' d => by rw [f7 _ _ (by omega)]; exact ff5 c j a b' d)
        · rw [hfit] at e7
          have := Option.some.inj e7
          subst this
          rw [wg_step hin e5 hne l7] at he
          rw [w_succ (by omega)]
          refine ⟨⟨past ++ [u], _, by simp, by simp; omega, ?_, ?_, wu.done g3 hi hfit l7, c7, fun c j a b' d => by rw [f7 _ _ (by omega) (by omega)]; exact ff5 c j a b' d, ?_⟩, by (try dsimp only); omega⟩
          · intro i' s hs
            have g := hP3 i' s hs
            refine ⟨by rw [f7 _ _ (by omega) (by omega), f5 _ _ (by omega) (by omega) (by omega)]; exact g.1, fun j hj => ?_⟩
            rw [f7 _ _ (by omega) (by omega), f5 _ _ (by omega) (by omega) (by omega)]; exact g.2 j hj
          · intro s hs
            rcases List.mem_append.mp hs with g | g
            · exact hW s g
            · rw [List.mem_singleton.mp g]; exact wu
          · rw [he]
            congr 1
            simp; omega
end RUN
