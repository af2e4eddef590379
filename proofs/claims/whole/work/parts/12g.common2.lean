/-! common: the reference -/
def CMem (M N : Mem) (s t : T) (i k x y n : Nat) (H : List (Nat × Nat)) (o : T) (f : Nat) : Prop :=
  CI s t i k x y n H o f ∧ (∀ q : Nat, q < n → N 224 ((n : Int) - 1 - q) = pend s x q ∧ N 225 ((n : Int) - 1 - q) = pend t y q) ∧ HM N 226 227 H ∧ (∀ j : Nat, j < o.length → N 205 (576 + (j : Int)) = lb o j ∧ N 206 (576 + (j : Int)) = ar o j) ∧ (∀ c j : Int, ¬ (224 ≤ c ∧ c ≤ 227) → ¬ ((c = 205 ∨ c = 206) ∧ 576 ≤ j ∧ j < 608) → N c j = M c j)
theorem CI.nle {s t : T} {i k x y n : Nat} {H : List (Nat × Nat)} {o : T} {f : Nat} (h : CI s t i k x y n H o f) : x + n ≤ s.length := by
  obtain ⟨⟨m, h1⟩, -, h3, -⟩ := h
  have := ok_len _ _ h1
  simp at this; omega
section COMMON2
variable {V : VV} {M : Mem} {Q : Int → Mem → Prop}
theorem m_common_b {xs xt u : Int} {s t : T} {i k x y n : Nat} {H : List (Nat × Nat)} {o : T} {f : Nat} {N : Mem} {B : Int → Int → Int → Mem → Prop} (hxs : 0 ≤ xs ∧ xs ≤ 5) (hxt : 0 ≤ xt ∧ xt ≤ 5) (hu : 0 ≤ u ∧ u ≤ 5) (ms : Mt M xs s) (mt : Mt M xt t) (ws : Wt s) (wt : Wt t) (hi : i < s.length) (h : CMem M N s t i k x y n H o f)
    (hB : ∀ (x' y' n' : Nat) (H' : List (Nat × Nat)) (o' : T) (f' : Nat) (N' : Mem), CMem M N' s t i k x' y' n' H' o' f' → o'.length = o.length + 1 → B H'.length o'.length n' N')
    (hf : n = 0 → (H.length ≤ 8 → R_X10_copy V 18 0 o.length u N (fun _ M' => Q H.length M')) ∧ (¬ H.length ≤ 8 → Q (-5) N)) : wp_X10_common_72_b V xs xt u H.length o.length n N Q B := by
  obtain ⟨hci, hst, hHM, hslot, hfr⟩ := h
  have s16 := ws.1
  have t16 := wt.1
  have hse := sz_end hi
  have msN : Mt N xs s := ⟨by rw [hfr _ _ (by omega) (by omega)]; exact ms.1, fun j hj => by rw [hfr _ _ (by omega) (by omega), hfr _ _ (by omega) (by omega)]; exact ms.2 j hj⟩
  have mtN : Mt N xt t := ⟨by rw [hfr _ _ (by omega) (by omega)]; exact mt.1, fun j hj => by rw [hfr _ _ (by omega) (by omega), hfr _ _ (by omega) (by omega)]; exact mt.2 j hj⟩
  unfold wp_X10_common_72_b
  cases n with
  | zero =>
    obtain ⟨g1, g2⟩ := hf rfl
    exact ⟨fun _ => ⟨fun c => g1 (by omega), fun c => g2 (by omega)⟩, fun c => by omega⟩
  | succ n =>
    have hnl := hci.nle
    obtain ⟨hx, hy⟩ := hci.pos
    have hlt := hci.lt
    have hol := hci.2.2.2.2.2.1
    have hHo := hci.2.2.2.2.2.2.2.2.2.1
    obtain ⟨f', rfl⟩ : ∃ f', f = f' + 1 := ⟨f - 1, by have := hci.2.2.2.2.2.2.1; omega⟩
    have hxe := sz_end hx
    have hye := sz_end hy
    have hxa := ar_lt (ws.ok hx) hx
    rw [show w32 (((n + 1 : Nat) : Int) + -1) = (n : Int) by rw [w32_id (by omega) (by omega)]; omega]
    refine ⟨fun c => by omega, fun _ => ⟨by omega, ?_⟩⟩
    intro v14 hv14
    refine ⟨by omega, ?_⟩
    intro v15 hv15
    have st0 := hst 0 (by omega)
    rw [show ((n + 1 : Nat) : Int) - 1 - ((0 : Nat) : Int) = n by omega] at st0
    rw [st0.1, show pend s x 0 = x by simp [pend, fp]] at hv14
    rw [st0.2, show pend t y 0 = y by simp [pend, fp]] at hv15
    subst hv14
    subst hv15
    obtain ⟨e1, e2⟩ := w_idx (x := xs) (i := x) (by omega) (by omega) (by omega)
    obtain ⟨e3, e4⟩ := w_idx (x := xt) (i := y) (by omega) (by omega) (by omega)
    rw [e1, e3, (msN.2 x hx).1, (msN.2 x hx).2, (mtN.2 y hy).1, (mtN.2 y hy).2]
    clear e1 e3
    have stk : ∀ (N' : Mem), (∀ j, N' 224 j = N 224 j ∧ N' 225 j = N 225 j) → ∀ q : Nat, q < n → N' 224 ((n : Int) - 1 - q) = pend s (x + sz s x) q ∧ N' 225 ((n : Int) - 1 - q) = pend t (y + sz t y) q := by
      intro N' e q hq
      have := hst (q + 1) (by omega)
      rw [show ((n + 1 : Nat) : Int) - 1 - ((q + 1 : Nat) : Int) = (n : Int) - 1 - q by omega] at this
      rw [(e _).1, (e _).2, pend_hole, pend_hole]; exact this
    have c400 : ∀ (N1 : Mem) (H' : List (Nat × Nat)) (q : Nat), CI s t i k (x + sz s x) (y + sz t y) n H' (o ++ [(65 + (q : Int), 0)]) f' → q ≤ 16 → HM N1 226 227 H' → (∀ c j : Int, c ≠ 226 → c ≠ 227 → N1 c j = N c j) → wp_X10_common_400 V xs xt u H'.length o.length n q N1 Q B := by
      intro N1 H' q ci' hq hm' fN1
      unfold wp_X10_common_400
      rw [w32_id (x := 576 + (o.length : Int)) (by omega) (by omega), w32_id (x := 65 + (q : Int)) (by omega) (by omega), w_succ (by omega)]
      refine ⟨by omega, ?_⟩
      intro M16 h16
      refine ⟨by omega, ?_⟩
      have := hB (x + sz s x) (y + sz t y) n H' (o ++ [(65 + (q : Int), 0)]) f' (mset M16 206 (576 + (o.length : Int)) 0) ⟨ci', ?_, ?_, ?_, ?_⟩ (by simp)
      · simp only [List.length_append, List.length_cons, List.length_nil] at this
        exact this
      · exact stk _ (fun j => by rw [mset_cell _ (by omega), mset_cell _ (by omega), h16, mset_cell _ (by omega), mset_cell _ (by omega), fN1 _ _ (by omega) (by omega), fN1 _ _ (by omega) (by omega)]; exact ⟨rfl, rfl⟩)
      · intro z hz
        rw [mset_cell _ (by omega), mset_cell _ (by omega), h16, mset_cell _ (by omega), mset_cell _ (by omega)]; exact hm' z hz
      · intro j hj
        simp only [List.length_append, List.length_cons, List.length_nil] at hj
        by_cases ej : j = o.length
        · rw [ej, mset_cell _ (by omega), mset_same, h16, mset_same, lb_app.1, lb_app.2]; exact ⟨rfl, rfl⟩
        · rw [mset_cell _ (by omega), mset_idx _ _ _ (by omega), h16, mset_idx _ _ _ (by omega), mset_cell _ (by omega), fN1 _ _ (by omega) (by omega), fN1 _ _ (by omega) (by omega), (lb_app_lt (by omega)).1, (lb_app_lt (by omega)).2]
          exact hslot j (by omega)
      · intro c j a b
        rw [show mset M16 206 (576 + (o.length : Int)) 0 c j = M16 c j from if_neg (by omega), h16]
        rw [show mset N1 205 (576 + (o.length : Int)) (65 + (q : Int)) c j = N1 c j from if_neg (by omega), fN1 _ _ (by omega) (by omega)]
        exact hfr c j a b
    have hole : ¬ (lb s x = lb t y ∧ ar s x = ar t y) → wp_X10_common_156 V xs xt u H.length o.length n x y N Q B := by
      intro hne
      unfold wp_X10_common_156 wp_X10_common_157
      refine ⟨fun _ => ?_, fun c => absurd rfl c⟩
      unfold wp_X10_common_323
      refine ⟨fun j N' => N' = N ∧ ∃ q : Nat, j = q ∧ q ≤ H.length ∧ ∀ k, k < q → ¬ (sub s (H.getD k (0, 0)).1 = sub s x ∧ sub t (H.getD k (0, 0)).2 = sub t y), fun j _ => (17 - j).toNat, ⟨rfl, 0, rfl, by omega, fun k hk => by omega⟩, ?_⟩
      rintro j N' ⟨rfl, q, rfl, hq, hno⟩
      unfold wp_X10_common_323_b wp_X10_common_372
      refine ⟨fun g => ⟨fun g1 => ⟨by omega, ?_⟩, fun g1 => by omega⟩, fun g => ⟨by omega, ?_⟩⟩
      · have hqe : q = H.length := by omega
        subst hqe
        intro M17 h17
        refine ⟨by omega, ?_⟩
        rw [w_succ (by omega)]
        have := c400 (mset M17 227 (H.length : Int) y) (H ++ [(x, y)]) H.length (hci.new hne (hF_none hno)) (by omega) (fun z hz => ?_) (fun c j a b => by rw [mset_cell _ b, h17, mset_cell _ a])
        · simp only [List.length_append, List.length_cons, List.length_nil] at this
          exact this
        · rw [mset_cell _ (by omega), h17]
          by_cases ek : z = H.length
          · rw [ek, mset_same, mset_same, getD_last]; exact ⟨rfl, rfl⟩
          · have hz' : z < H.length := by simp at hz; omega
            rw [mset_idx _ _ _ (by omega), mset_idx _ _ _ (by omega), mset_cell _ (by omega), getD_app hz']; exact hHM z hz'
      · have hql : q < H.length := by omega
        obtain ⟨a1, a2⟩ := hci.2.2.2.2.2.2.2.2.1 _ (getD_memH hql)
        rw [(hHM q hql).1, w_succ (by omega)]
        have next : ¬ (sub s (H.getD q (0, 0)).1 = sub s x ∧ sub t (H.getD q (0, 0)).2 = sub t y) → (N' = N' ∧ ∃ q' : Nat, (q : Int) + 1 = q' ∧ q' ≤ H.length ∧ ∀ k, k < q' → ¬ (sub s (H.getD k (0, 0)).1 = sub s x ∧ sub t (H.getD k (0, 0)).2 = sub t y)) ∧ (17 - ((q : Int) + 1)).toNat < (17 - (q : Int)).toNat := by
          intro hne
          refine ⟨⟨rfl, q + 1, by omega, by omega, fun k hk => ?_⟩, by omega⟩
          by_cases e : k = q
          · rw [e]; exact hne
          · exact hno k (by omega)
        refine m_same (by omega) (by omega) msN msN ws ws a1 hx ?_
        refine ⟨fun c => next (fun e => by rw [if_pos e.1] at c; omega), fun c => ⟨by omega, ?_⟩⟩
        have e1 : sub s (H.getD q (0, 0)).1 = sub s x := by
          split at c
          · assumption
          · exact absurd rfl c
        rw [(hHM q hql).2]
        refine m_same (by omega) (by omega) mtN mtN wt wt a2 hy ?_
        refine ⟨fun d => next (fun e => by rw [if_pos e.2] at d; omega), fun d => ?_⟩
        have e2 : sub t (H.getD q (0, 0)).2 = sub t y := by
          split at d
          · assumption
          · exact absurd rfl d
        refine ⟨fun z => by omega, fun _ => ?_⟩
        exact c400 N' H q (hci.old hne (hF_some hql hno ⟨e1, e2⟩) hql) (by omega) hHM (fun _ _ _ _ => rfl)
    refine ⟨e2, e4, fun g1 => ⟨e2, e4, fun g2 => ?_, fun g2 => hole (fun z => g2 (by omega))⟩, fun g1 => hole (fun z => g1 z.1)⟩
    have hsame := hci.same ⟨g1, by omega⟩
    have hnl2 := hsame.nle
    unfold wp_X10_common_157
    obtain ⟨e1, -⟩ := w_idx (x := xs) (i := x) (by omega) (by omega) (by omega)
    rw [e1, w32_id (x := 576 + (o.length : Int)) (by omega) (by omega), (msN.2 x hx).1, w_succ (by omega), w_succ (by omega)]
    clear e1
    refine ⟨fun c => by omega, fun _ => ⟨e2, by omega, ?_⟩⟩
    intro M22 h22
    refine ⟨e2, by omega, ?_⟩
    intro M23 h23
    have m22 : M22 206 (32 * xs + x) = ar s x := by rw [h22, mset_cell _ (by omega)]; exact (msN.2 x hx).2
    rw [m22] at h23
    have f23 : ∀ c j : Int, ¬ ((c = 205 ∨ c = 206) ∧ j = 576 + (o.length : Int)) → M23 c j = N c j := fun c j a => by
      rw [h23, show mset M22 206 (576 + (o.length : Int)) (ar s x : Int) c j = M22 c j from if_neg (by omega), h22]
      exact if_neg (by omega)
    refine ⟨e2, ?_⟩
    intro v24 hv24
    rw [f23 _ _ (by omega), (msN.2 x hx).2] at hv24
    subst hv24
    have ms23 : Mt M23 xs s := ⟨by rw [f23 _ _ (by omega)]; exact msN.1, fun j hj => by rw [f23 _ _ (by omega), f23 _ _ (by omega)]; exact msN.2 j hj⟩
    have mt23 : Mt M23 xt t := ⟨by rw [f23 _ _ (by omega)]; exact mtN.1, fun j hj => by rw [f23 _ _ (by omega), f23 _ _ (by omega)]; exact mtN.2 j hj⟩
    unfold wp_X10_common_239
    refine ⟨fun a b p P => ∃ q : Nat, p = q ∧ q ≤ ar s x ∧ a = pend s (x + 1) q ∧ b = pend t (y + 1) q ∧ (∀ c j : Int, ¬ (224 ≤ c ∧ c ≤ 225) → P c j = M23 c j) ∧ (∀ r : Nat, r < q → P 224 ((n : Int) + ar s x - 1 - r) = pend s (x + 1) r ∧ P 225 ((n : Int) + ar s x - 1 - r) = pend t (y + 1) r) ∧ (∀ j : Int, j < n → P 224 j = N 224 j ∧ P 225 j = N 225 j), fun _ _ p _ => (17 - p).toNat, ⟨0, rfl, by omega, by simp [pend, fp], by simp [pend, fp], fun _ _ _ => rfl, fun r hr => by omega, fun j hj => ⟨f23 _ _ (by omega), f23 _ _ (by omega)⟩⟩, ?_⟩
    rintro a b p P ⟨q, rfl, hq, rfl, rfl, hP1, hP2, hP3⟩
    unfold wp_X10_common_239_b
    refine ⟨fun g => ?_, fun g => ?_⟩
    · have hqe : q = ar s x := by omega
      rw [w_succ (by omega), show w32 ((n : Int) + (ar s x : Int)) = ((n + ar s x : Nat) : Int) by rw [w32_id (by omega) (by omega)]; omega]
      have := hB (x + 1) (y + 1) (n + ar s x) H (o ++ [(lb s x, ar s x)]) f' P ⟨hsame, fun r hr => ?_, fun z hz => ?_, fun j hj => ?_, fun c j a b => ?_⟩ (by simp)
      · simp only [List.length_append, List.length_cons, List.length_nil] at this
        exact this
      · by_cases hr2 : r < ar s x
        · have := hP2 r (by omega)
          rw [show ((n + ar s x : Nat) : Int) - 1 - (r : Int) = (n : Int) + ar s x - 1 - r by omega]; exact this
        · obtain ⟨r', rfl⟩ : ∃ r', r = r' + ar s x := ⟨r - ar s x, by omega⟩
          rw [show ((n + ar s x : Nat) : Int) - 1 - ((r' + ar s x : Nat) : Int) = (n : Int) - 1 - r' by omega, (hP3 _ (by omega)).1, (hP3 _ (by omega)).2, pend_eq hx]
          have := hst (r' + 1) (by omega)
          rw [show ((n + 1 : Nat) : Int) - 1 - ((r' + 1 : Nat) : Int) = (n : Int) - 1 - r' by omega] at this
          have hay : ar s x = ar t y := by omega
          rw [hay, pend_eq hy]; exact this
      · rw [hP1 _ _ (by omega), hP1 _ _ (by omega), f23 _ _ (by omega), f23 _ _ (by omega)]; exact hHM z hz
      · simp only [List.length_append, List.length_cons, List.length_nil] at hj
        rw [hP1 _ _ (by omega), hP1 _ _ (by omega)]
        by_cases ej : j = o.length
        · rw [ej, h23, mset_cell _ (by omega), mset_same, h22, mset_same, lb_app.1, lb_app.2]; exact ⟨rfl, rfl⟩
        · rw [f23 _ _ (by omega), f23 _ _ (by omega), (lb_app_lt (by omega)).1, (lb_app_lt (by omega)).2]
          exact hslot j (by omega)
      · rw [hP1 _ _ (by omega), f23 _ _ (by omega)]; exact hfr c j a b
    · have hql : q < ar s x := by omega
      have cx := chd_lt (ws.ok hx) hx hql
      have cy := chd_lt (wt.ok hy) hy (show q < ar t y by omega)
      have ex : pend s (x + 1) q = chd s x q := rfl
      have ey : pend t (y + 1) q = chd t y q := rfl
      have hsx := sz_end cx
      have hsy := sz_end cy
      rw [w32_id (x := (n : Int) + (ar s x : Int)) (by omega) (by omega), w32_id (x := (n : Int) + (ar s x : Int) - 1) (by omega) (by omega), w32_id (x := (n : Int) + (ar s x : Int) - 1 - q) (by omega) (by omega)]
      refine ⟨by omega, ?_⟩
      intro M25 h25
      refine ⟨by omega, ?_⟩
      intro M26 h26
      have f26 : ∀ c j : Int, ¬ (224 ≤ c ∧ c ≤ 225) → M26 c j = M23 c j := fun c j a => by rw [h26, mset_cell _ (by omega), h25, mset_cell _ (by omega)]; exact hP1 c j a
      have ms26 : Mt M26 xs s := ⟨by rw [f26 _ _ (by omega)]; exact ms23.1, fun j hj => by rw [f26 _ _ (by omega), f26 _ _ (by omega)]; exact ms23.2 j hj⟩
      have mt26 : Mt M26 xt t := ⟨by rw [f26 _ _ (by omega)]; exact mt23.1, fun j hj => by rw [f26 _ _ (by omega), f26 _ _ (by omega)]; exact mt23.2 j hj⟩
      rw [ex, ey]
      refine m_sizeOf (by omega) ms26 ws cx ?_
      refine m_sizeOf (by omega) mt26 wt cy ?_
      rw [w32_id (x := (chd s x q : Int) + _) (by omega) (by omega), w32_id (x := (chd t y q : Int) + _) (by omega) (by omega), w_succ (by omega)]
      refine ⟨⟨q + 1, by omega, by omega, ?_, ?_, f26, fun r hr => ?_, fun j hj => ?_⟩, by (try dsimp only); omega⟩
      · rw [show pend s (x + 1) (q + 1) = chd s x (q + 1) from rfl, chd_succ]; omega
      · rw [show pend t (y + 1) (q + 1) = chd t y (q + 1) from rfl, chd_succ]; omega
      · by_cases er : r = q
        · rw [er, h26, mset_cell _ (by omega), mset_same, h25, mset_same]; exact ⟨rfl, rfl⟩
        · rw [h26, mset_cell _ (by omega), mset_idx _ _ _ (by omega), h25, mset_idx _ _ _ (by omega), mset_cell _ (by omega)]
          exact hP2 r (by omega)
      · rw [h26, mset_cell _ (by omega), mset_idx _ _ _ (by omega), h25, mset_idx _ _ _ (by omega), mset_cell _ (by omega)]
        exact hP3 j hj
theorem m_common72 {xs xt u : Int} {s t : T} {i k : Nat} (hxs : 0 ≤ xs ∧ xs ≤ 5) (hxt : 0 ≤ xt ∧ xt ≤ 5) (hu : 0 ≤ u ∧ u ≤ 5) (ms : Mt M xs s) (mt : Mt M xt t) (ws : Wt s) (wt : Wt t) (hi : i < s.length) (hk : k < t.length) (h4 : M 224 0 = i) (h5 : M 225 0 = k)
    (q0 : ∀ M' : Mem, 8 < (cmF s t 17 i k 1 [] []).1.length → (∀ c j : Int, ¬ (224 ≤ c ∧ c ≤ 227) → ¬ ((c = 205 ∨ c = 206) ∧ 576 ≤ j ∧ j < 608) → M' c j = M c j) → Q (-5) M')
    (q1 : ∀ M' : Mem, (cmF s t 17 i k 1 [] []).1.length ≤ 8 → Mt M' u (cmF s t 17 i k 1 [] []).2 → (∀ c j : Int, ¬ (224 ≤ c ∧ c ≤ 227) → ¬ ((c = 205 ∨ c = 206) ∧ 576 ≤ j ∧ j < 608) → ¬ (c = 204 ∧ j = u) → ¬ ((c = 205 ∨ c = 206) ∧ 32 * u ≤ j ∧ j < 32 * u + 32) → M' c j = M c j) → Q ((cmF s t 17 i k 1 [] []).1.length : Nat) M') : wp_X10_common_72 V xs xt u 0 0 1 M Q := by
  have s16 := ws.1
  have hse := sz_end hi
  unfold wp_X10_common_72
  refine ⟨fun z6 z7 z8 N => ∃ (x y n : Nat) (H : List (Nat × Nat)) (o : T) (f : Nat), z6 = H.length ∧ z7 = o.length ∧ z8 = n ∧ CMem M N s t i k x y n H o f, fun _ z7 _ _ => (17 - z7).toNat, ⟨i, k, 1, [], [], 17, rfl, rfl, rfl, CI.start (ws.ok hi) (wt.ok hk) hi hk, fun q hq => ?_, fun q hq => by simp at hq, fun q hq => by simp at hq, fun _ _ _ _ => rfl⟩, ?_⟩
  · have : q = 0 := by omega
    subst this
    exact ⟨by rw [show ((1 : Nat) : Int) - 1 - ((0 : Nat) : Int) = 0 by omega, h4]; simp [pend, fp], by rw [show ((1 : Nat) : Int) - 1 - ((0 : Nat) : Int) = 0 by omega, h5]; simp [pend, fp]⟩
  · rintro z6 z7 z8 N ⟨x, y, n, H, o, f, rfl, rfl, rfl, hc⟩
    refine m_common_b hxs hxt hu ms mt ws wt hi hc (fun x' y' n' H' o' f' N' hc' hl => ⟨⟨x', y', n', H', o', f', rfl, rfl, rfl, hc'⟩, ?_⟩) (fun hn => ?_)
    · have h1 := hc.1.2.2.2.2.2.1
      have h2 := hc.1.2.2.2.2.1
      have h3 := hc'.1.2.2.2.2.2.1
      have h4 := hc'.1.2.2.2.2.1
      (try dsimp only)
      omega
    · subst hn
      obtain ⟨hci, hst, hHM, hslot, hfr⟩ := hc
      have hz := hci.zero s16 hi
      have hol := hci.2.2.2.2.2.1
      rw [hz.2.1] at q0 q1
      refine ⟨fun c => ?_, fun c => q0 N (by show 8 < H.length; omega) hfr⟩
      refine m_copy (x := 18) (i := 0) (by omega) (by omega) (by omega) (by omega) (fun M9 s9 n9 e9 => ?_)
      refine q1 M9 c ⟨n9, fun j hj => ?_⟩ (fun c j a b d e => by rw [s9 _ _ d e]; exact hfr c j a b)
      have e := e9 j hj
      rw [show (32 * 18 + ((0 : Nat) : Int) + (j : Int) : Int) = 576 + j by omega] at e
      rw [e.1, e.2]; exact hslot j hj
theorem op_common {s i t k u : Int} (hR : Rel M) : R_X9_common V s i t k u M (fun r1 M1 => R_X10_common V s i t k u M1 (fun r2 M2 => r1 = r2 ∧ Rel M2)) := by
  obtain ⟨σ, hI, hC, hM⟩ := hR
  have un : ¬ (((0 ≤ s ∧ s ≤ 5) ∧ 0 ≤ i ∧ i < (σ.tr s).length) ∧ ((0 ≤ t ∧ t ≤ 5) ∧ 0 ≤ k ∧ k < (σ.tr t).length) ∧ (0 ≤ u ∧ u ≤ 5)) → R_X10_common V s i t k u M (fun r2 M2 => -1 = r2 ∧ Rel M2) := by
    intro hx
    apply of_X10_common
    unfold wp_X10_common
    refine m_node_case hI hM (fun g => ⟨fun _ => ⟨rfl, σ, hI, hC, hM⟩, fun c => by omega⟩) (fun n hn a b hlt => ⟨fun c => by omega, fun _ => ?_⟩)
    refine m_node_case hI hM (fun g => ⟨fun _ => ⟨rfl, σ, hI, hC, hM⟩, fun c => by omega⟩) (fun n' hn' a' b' hlt' => ⟨fun c => by omega, fun _ => ?_⟩)
    apply m_isTree
    rw [if_neg (by omega)]
    exact ⟨fun _ => ⟨rfl, σ, hI, hC, hM⟩, fun c => by omega⟩
  apply of_X9_common
  unfold wp_X9_common
  apply x_treeAt
  apply x_treeAt
  by_cases hs : 0 ≤ s ∧ s ≤ 5
  · rw [if_pos hs]
    refine ⟨fun c => by omega, fun _ => ?_⟩
    by_cases ht : 0 ≤ t ∧ t ≤ 5
    · rw [if_pos ht]
      refine ⟨fun c => by omega, fun _ => ?_⟩
      apply x_treeAt
      by_cases hu : 0 ≤ u ∧ u ≤ 5
      · rw [if_pos hu]
        refine ⟨fun c => by omega, fun _ => ?_⟩
        have cs := hC.2.2.1 s hs.1 hs.2
        have ct := hC.2.2.1 t ht.1 ht.2
        apply x_has
        rw [cs.1.1]
        by_cases hi : 0 ≤ i ∧ i < (σ.tr s).length
        · rw [if_pos hi]
          refine ⟨fun c => by omega, fun _ => ?_⟩
          apply x_has
          rw [ct.1.1]
          by_cases hk : 0 ≤ k ∧ k < (σ.tr t).length
          · rw [if_pos hk]
            refine ⟨fun c => by omega, fun _ => ?_⟩
            obtain ⟨n, rfl⟩ : ∃ n : Nat, i = n := ⟨i.toNat, by omega⟩
            obtain ⟨m, rfl⟩ : ∃ m : Nat, k = m := ⟨k.toNat, by omega⟩
            have hn : n < (σ.tr s).length := by omega
            have hm : m < (σ.tr t).length := by omega
            have ws := hI.2.2.1 s hs.1 hs.2
            have wt := hI.2.2.1 t ht.1 ht.2
            have pre : ∀ (N : Mem) (Q' : Int → Mem → Prop), RelM N σ → (¬ (plain (σ.tr s) = true ∧ plain (σ.tr t) = true) → Q' (-3) N) → (plain (σ.tr s) = true → plain (σ.tr t) = true → ∀ M11 : Mem, M11 = mset N 224 0 (n : Int) → wp_X10_common_72 V s t u 0 0 1 (mset M11 225 0 (m : Int)) Q') → R_X10_common V s n t m u N Q' := by
              intro N Q' hN q1 q2
              apply of_X10_common
              unfold wp_X10_common
              refine m_node_case hI hN (fun g => absurd ⟨hs, hi⟩ g) (fun n' hn' a b hlt => ⟨fun c => by omega, fun _ => ?_⟩)
              refine m_node_case hI hN (fun g => absurd ⟨ht, hk⟩ g) (fun m' hm' a b hlt => ⟨fun c => by omega, fun _ => ?_⟩)
              apply m_isTree
              rw [if_pos hu]
              refine ⟨fun c => by omega, fun _ => ?_⟩
              refine m_isPlain (by omega) (hN.2.2.1 s hs.1 hs.2) ws.1 ?_
              by_cases p1 : plain (σ.tr s) = true
              · rw [if_pos p1]
                refine ⟨fun c => by omega, fun _ => ?_⟩
                refine m_isPlain (by omega) (hN.2.2.1 t ht.1 ht.2) wt.1 ?_
                by_cases p2 : plain (σ.tr t) = true
                · rw [if_pos p2]
                  exact ⟨fun c => by omega, fun _ => ⟨by omega, fun M11 h11 => ⟨by omega, q2 p1 p2 M11 h11⟩⟩⟩
                · rw [if_neg p2]
                  exact ⟨fun _ => q1 (fun g => p2 g.2), fun c => by omega⟩
              · rw [if_neg p1]
                exact ⟨fun _ => q1 (fun g => p1 g.1), fun c => by omega⟩
            have bad : ¬ (plain (σ.tr s) = true ∧ plain (σ.tr t) = true) → R_X10_common V s n t m u M (fun r2 M2 => -3 = r2 ∧ Rel M2) := fun hp => pre M _ hM (fun _ => ⟨rfl, σ, hI, hC, hM⟩) (fun a b => absurd ⟨a, b⟩ hp)
            refine x_holeCount cs.1 ws.1.1 ?_
            refine ⟨fun c => bad (fun g => by rw [(plain_iff _).mp g.1] at c; omega), fun c => ?_⟩
            have p1 : plain (σ.tr s) = true := (plain_iff _).mpr (by omega)
            refine x_holeCount ct.1 wt.1.1 ?_
            refine ⟨fun d => ?_, fun d => bad (fun g => by rw [(plain_iff _).mp g.2] at d; omega)⟩
            have p2 : plain (σ.tr t) = true := (plain_iff _).mpr (by omega)
            have run : ∀ (N : Mem) (Q' : Int → Mem → Prop), RelM N σ → (∀ M' : Mem, 8 < (cmF (σ.tr s) (σ.tr t) 17 n m 1 [] []).1.length → (∀ c j : Int, ¬ (224 ≤ c ∧ c ≤ 227) → ¬ ((c = 205 ∨ c = 206) ∧ 576 ≤ j ∧ j < 608) → M' c j = N c j) → Q' (-5) M') → (∀ M' : Mem, (cmF (σ.tr s) (σ.tr t) 17 n m 1 [] []).1.length ≤ 8 → Mt M' u (cmF (σ.tr s) (σ.tr t) 17 n m 1 [] []).2 → (∀ c j : Int, ¬ (224 ≤ c ∧ c ≤ 227) → ¬ ((c = 205 ∨ c = 206) ∧ 576 ≤ j ∧ j < 608) → ¬ (c = 204 ∧ j = u) → ¬ ((c = 205 ∨ c = 206) ∧ 32 * u ≤ j ∧ j < 32 * u + 32) → M' c j = N c j) → Q' ((cmF (σ.tr s) (σ.tr t) 17 n m 1 [] []).1.length : Nat) M') → R_X10_common V s n t m u N Q' := by
              intro N Q' hN q0 q1
              refine pre N Q' hN (fun g => absurd ⟨p1, p2⟩ g) (fun _ _ M11 h11 => ?_)
              have f11 : ∀ c j : Int, c ≠ 224 → c ≠ 225 → mset M11 225 0 (m : Int) c j = N c j := fun c j a b => by rw [mset_cell _ b, h11, mset_cell _ a]
              have ms := hN.2.2.1 s hs.1 hs.2
              have mt := hN.2.2.1 t ht.1 ht.2
              refine m_common72 hs ht hu ⟨by rw [f11 _ _ (by omega) (by omega)]; exact ms.1, fun j hj => by rw [f11 _ _ (by omega) (by omega), f11 _ _ (by omega) (by omega)]; exact ms.2 j hj⟩ ⟨by rw [f11 _ _ (by omega) (by omega)]; exact mt.1, fun j hj => by rw [f11 _ _ (by omega) (by omega), f11 _ _ (by omega) (by omega)]; exact mt.2 j hj⟩ ws.1 wt.1 hn hm (by rw [mset_cell _ (by omega), h11, mset_same]) (mset_same _ _ _ _) (fun M' g f' => q0 M' g (fun c j a b => by rw [f' _ _ a b, f11 _ _ (by omega) (by omega)])) (fun M' g mm f' => q1 M' g mm (fun c j a b d e => by rw [f' _ _ a b d e, f11 _ _ (by omega) (by omega)]))
            refine x_find (by omega) (by omega) cs ct ws wt.1 p1 hn hm (fun M1 g f1 => ⟨fun _ => ?_, fun c => by omega⟩) (fun M1 g wo c1 n1 f1 => ⟨fun c => by omega, fun _ => ?_⟩)
            · have hC1 : RelC M1 σ := hC.core hI (fun c j hc => by unfold cor at hc; exact f1 _ _ (by omega) (by omega))
              have hM1 : RelM M1 σ := hM.fr (fun c j hc => f1 _ _ (by omega) (by omega))
              refine run M1 _ hM1 (fun M2 _ f2 => ⟨rfl, σ, hI, hC1.fr hI (fun c j hc => f2 _ _ (by omega) (by omega)), hM1.core hI (fun c j hc => by unfold corM at hc; exact f2 _ _ (by omega) (by omega))⟩) (fun M2 g' _ _ => by omega)
            · refine x_become hu c1 wo.1.1 (fun M2 c2 k2 f2 => ?_)
              have hI' := hI.tree u wo
              have hC2 : RelC M2 (trSet σ u (cmF (σ.tr s) (σ.tr t) 17 n m 1 [] []).2) := by
                refine hC.tree hI hu c2 k2 (fun c j a b d _ _ => ?_)
                unfold cor at a
                rw [f2 _ _ b d, f1 _ _ (by omega) (by omega)]
              have hM2 : RelM M2 σ := hM.fr (fun c j hc => by rw [f2 _ _ (by omega) (by omega), f1 _ _ (by omega) (by omega)])
              rw [f2 _ _ (by omega) (by omega), n1]
              refine run M2 _ hM2 (fun M3 g' _ => by omega) (fun M3 _ m3 f3 => ⟨rfl, _, hI', hC2.fr hI' (fun c j hc => f3 _ _ (by omega) (by omega) (by omega) (by omega)), hM2.tree hI hu m3 (fun c j hc a b => by unfold corM at hc; exact f3 _ _ (by omega) (by omega) a b)⟩)
          · rw [if_neg hk]
            exact ⟨fun _ => un (by omega), fun c => by omega⟩
        · rw [if_neg hi]
          exact ⟨fun _ => un (by omega), fun c => by omega⟩
      · rw [if_neg hu]
        exact ⟨fun _ => un (by omega), fun c => by omega⟩
    · rw [if_neg ht]
      exact ⟨fun _ => un (by omega), fun c => by omega⟩
  · rw [if_neg hs]
    exact ⟨fun _ => un (by omega), fun c => by omega⟩
end COMMON2
