/-! sign: a tree as it is written -/
theorem countP_split {p q r : Nat → Bool} : ∀ l : List Nat, (∀ x ∈ l, r x = (p x || q x) ∧ ¬ (p x = true ∧ q x = true)) → l.countP r = l.countP p + l.countP q
  | [], _ => by simp
  | x :: l, h => by
    have ih := countP_split l (fun y hy => h y (List.mem_cons_of_mem _ hy))
    obtain ⟨h1, h2⟩ := h x List.mem_cons_self
    rw [List.countP_cons, List.countP_cons, List.countP_cons, ih, h1]
    cases hp : p x <;> cases hq : q x <;> simp [hp, hq] at h2 ⊢ <;> omega
/-- how many close behind node i -/
def cl (t : T) (i : Nat) : Nat := (List.range i).countP (fun j => decide (j + sz t j = i + 1))
theorem leaf_sz {t : T} {i : Nat} (hi : i < t.length) (h0 : ar t i = 0) : sz t i = 1 := by
  rw [sz_eq hi, h0]; simp [fp]
theorem dep_leaf {t : T} {i : Nat} (hi : i < t.length) (h0 : ar t i = 0) : dep t i = dep t (i + 1) + cl t i := by
  unfold dep anc cl
  rw [List.range_succ, List.filter_append]
  have e : decide (i + 1 < i + sz t i) = false := by rw [leaf_sz hi h0]; simp
  rw [show ([i] : List Nat).filter (fun j => decide (i + 1 < j + sz t j)) = [] by simp only [List.filter_cons, e, Bool.false_eq_true, if_false, List.filter_nil]]
  rw [List.append_nil, ← List.countP_eq_length_filter, ← List.countP_eq_length_filter]
  apply countP_split
  intro x hx
  refine ⟨?_, ?_⟩
  · by_cases a : i + 1 < x + sz t x
    · simp [a]; omega
    · by_cases b : x + sz t x = i + 1
      · simp [b]
      · simp [a, b]; omega
  · simp; omega
theorem dep_end (t : T) : dep t t.length = 0 := by
  unfold dep anc
  rw [List.length_eq_zero_iff, List.filter_eq_nil_iff]
  intro j hj
  simp at hj
  have := sz_end hj
  simp; omega
def piece (t : T) (i : Nat) : List Int := lb t i :: (if 0 < ar t i then [40] else List.replicate (cl t i) 41)
def wrP (t : T) (n : Nat) : List Int := (List.range n).flatMap (piece t)
theorem wrP_succ (t : T) (n : Nat) : wrP t (n + 1) = wrP t n ++ piece t n := by
  unfold wrP; rw [List.range_succ, List.flatMap_append]; simp
theorem wrP_len (t : T) : ∀ n, (wrP t n).length ≤ 2 * n + (List.range n).countP (fun j => decide (j + sz t j ≤ n))
  | 0 => by simp [wrP]
  | n + 1 => by
    have ih := wrP_len t n
    rw [wrP_succ, List.length_append, List.range_succ, List.countP_append]
    have h1 : (List.range n).countP (fun j => decide (j + sz t j ≤ n + 1)) = (List.range n).countP (fun j => decide (j + sz t j ≤ n)) + cl t n := by
      unfold cl
      apply countP_split
      intro x hx
      refine ⟨?_, by simp; omega⟩
      by_cases a : x + sz t x ≤ n
      · simp [a]; omega
      · by_cases b : x + sz t x = n + 1
        · simp [b]
        · simp [a, b]; omega
    have h2 : (piece t n).length ≤ 2 + cl t n := by
      unfold piece; split <;> simp <;> omega
    omega
theorem wrP_lt {t : T} (h16 : t.length ≤ 16) {n : Nat} (hn : n ≤ t.length) : (wrP t n).length ≤ 48 := by
  have h1 := wrP_len t n
  have h2 := List.countP_le_length (p := fun j => decide (j + sz t j ≤ n)) (l := List.range n)
  simp at h2
  omega
theorem padAt.fr {M M' : Mem} {c : Int} {l : List Int} (h : padAt M c l) (hf : ∀ j, M' c j = M c j) : padAt M' c l := fun i x hx => by rw [hf]; exact h i x hx
section SIGN
variable {V : VV} {M : Mem} {Q : Int → Mem → Prop}
theorem x_put {c m : Int} {l : List Int} (hl : l.length < 60) (hp : padAt M c l) (h : padAt (mset M c l.length m) c (l ++ [m]) → Q ((l ++ [m]).length : Nat) (mset M c l.length m)) : R_X7_put V c l.length m M Q := by
  apply of_X7_put
  unfold wp_X7_put
  rw [w_succ (by omega)]
  have := h (padAt_app hp)
  simp only [List.length_append, List.length_cons, List.length_nil] at this
  exact ⟨fun q => by omega, fun _ => ⟨fun _ => ⟨by omega, by simpa using this⟩, fun q => by omega⟩⟩
theorem x_write {k : Int} {t : T} (ht : Ct M k t) (wt : Wt t) (hk : k + 6 < 11 ∨ 11 < k) (h : ∀ M', padAt M' 11 (wrP t t.length) → Fx 11 11 M M' → Q ((wrP t t.length).length : Nat) M') : R_X7_write V k 11 M Q := by
  have t16 := wt.1
  apply of_X7_write
  unfold wp_X7_write wp_X7_write_4
  refine ⟨fun n j N => ∃ i : Nat, j = i ∧ i ≤ t.length ∧ n = ((wrP t i).length : Nat) ∧ padAt N 11 (wrP t i) ∧ Fx 11 11 M N, fun _ j _ => (17 - j).toNat, ⟨0, rfl, by omega, by simp [wrP], fun i x hx => by simp [wrP] at hx, Fx.rf _ _ _⟩, ?_⟩
  rintro n j N ⟨i, rfl, hi, rfl, hp, hF⟩
  have htN : Ct N k t := hF.ct (by omega) ht
  unfold wp_X7_write_4_b
  rw [htN.1.1]
  refine ⟨fun g => ?_, fun g => ⟨by omega, ?_⟩⟩
  · have : i = t.length := by omega
    subst this
    exact h N hp hF
  · have hit : i < t.length := by omega
    have hwl := wrP_lt t16 (n := i + 1) (by omega)
    have hws := wrP_succ t i
    rw [(htN.1.2 i hit).1]
    refine x_put (by rw [hws, List.length_append] at hwl; simp [piece] at hwl; omega) hp (fun hp2 => ?_)
    generalize hM2 : mset N 11 ((wrP t i).length : Int) (lb t i) = M2 at hp2
    have hF2 : Fx 11 11 M M2 := by rw [← hM2]; exact hF.set (by omega) (by omega)
    have ht2 : Ct M2 k t := hF2.ct (by omega) ht
    rw [(ht2.1.2 i hit).2, ht2.1.1, w_succ (by omega)]
    refine ⟨by omega, fun c => ?_, fun c => ?_⟩
    · have h0 : ar t i = 0 := by omega
      have hdl := dep_leaf hit h0
      have epc : piece t i = lb t i :: List.replicate (cl t i) 41 := by unfold piece; rw [if_neg (by omega)]
      rw [hws, epc] at hwl
      simp only [List.length_append, List.length_cons, List.length_replicate] at hwl
      have loop : ∀ s : Int, s = dep t (i + 1) → wp_X7_write_72 V k 11 ((wrP t i ++ [lb t i]).length : Nat) i s M2 Q (fun z2 z3 N1 => (∃ i : Nat, z3 = i ∧ i ≤ t.length ∧ z2 = ((wrP t i).length : Nat) ∧ padAt N1 11 (wrP t i) ∧ Fx 11 11 M N1) ∧ (17 - z3).toNat < (17 - (i : Int)).toNat) := by
        rintro s rfl
        unfold wp_X7_write_72
        refine ⟨fun n j N => ∃ d : Nat, j = ((dep t (i + 1) + d : Nat) : Int) ∧ d ≤ cl t i ∧ n = ((wrP t i ++ [lb t i] ++ List.replicate d 41).length : Nat) ∧ padAt N 11 (wrP t i ++ [lb t i] ++ List.replicate d 41) ∧ Fx 11 11 M N, fun _ j _ => (dep t i - j).toNat, ⟨0, by omega, by omega, by simp, by simpa using hp2, hF2⟩, ?_⟩
        rintro n j N ⟨d, rfl, hd, rfl, hpd, hFd⟩
        have htd : Ct N k t := hFd.ct (by omega) ht
        unfold wp_X7_write_72_b
        rw [(htd.2 i hit).2.2.2, w_succ (by omega)]
        refine ⟨by omega, fun g1 => ⟨⟨i + 1, by omega, by omega, ?_, ?_, hFd⟩, by (try dsimp only); omega⟩, fun g1 => ?_⟩
        · have : d = cl t i := by omega
          rw [this, hws, epc]; simp
        · have : d = cl t i := by omega
          rw [this] at hpd
          rw [hws, epc]
          simpa using hpd
        · have dl := dep_le t (i + 1)
          rw [w32_id (x := ((dep t (i + 1) + d : Nat) : Int) + 1) (by omega) (by omega)]
          refine x_put (by simp; omega) hpd (fun hpe => ?_)
          refine ⟨⟨d + 1, by omega, by omega, ?_, ?_, hFd.set (by omega) (by omega)⟩, by (try dsimp only); omega⟩
          · simp
          · rw [List.replicate_succ', ← List.append_assoc]; exact hpe
      unfold wp_X7_write_66
      refine ⟨fun d => loop 0 ?_, fun d => ⟨by omega, loop _ ?_⟩⟩
      · rw [show i + 1 = t.length by omega, dep_end]; rfl
      · have := (ht2.2 (i + 1) (by omega)).2.2.2
        rw [show ((i : Int) + 1) = ((i + 1 : Nat) : Int) by omega]; exact this
    · have epc : piece t i = [lb t i, 40] := by unfold piece; rw [if_pos (by omega)]
      rw [hws, epc] at hwl
      simp only [List.length_append, List.length_cons, List.length_nil] at hwl
      refine x_put (by simp; omega) hp2 (fun hp3 => ?_)
      refine ⟨⟨i + 1, by omega, by omega, ?_, ?_, hF2.set (by omega) (by omega)⟩, by (try dsimp only); omega⟩
      · rw [hws, epc]; simp
      · rw [hws, epc]
        have e : wrP t i ++ [lb t i] ++ [40] = wrP t i ++ [lb t i, 40] := by simp
        rw [← e]; exact hp3
/-- what the reference's writing may change -/
def F9 (M M' : Mem) : Prop := ∀ c j, ¬ (c = 203 ∧ j = 8) → c ≠ 209 → M' c j = M c j
theorem m_write {x : Int} {t : T} (hx : 0 ≤ x ∧ x ≤ 20) (ht : Mt M x t) (wt : Wt t) (h : ∀ M' : Mem, M' 203 8 = ((wrP t t.length).length : Nat) → padAt M' 209 (wrP t t.length) → F9 M M' → Q 0 M') : R_X10_write V x M Q := by
  have t16 := wt.1
  have mtF : ∀ {N : Mem}, F9 M N → Mt N x t := fun {N} f => ⟨by rw [f _ _ (by omega) (by omega)]; exact ht.1, fun i hi => by rw [f _ _ (by omega) (by omega), f _ _ (by omega) (by omega)]; exact ht.2 i hi⟩
  /- one sign more -/
  have put : ∀ (N N' N'' : Mem) (l : List Int) (m : Int), l.length < 60 → N 203 8 = (l.length : Nat) → padAt N 209 l → F9 M N → N' = mset N 209 (l.length : Int) m → N'' = mset N' 203 8 ((l.length : Int) + 1) → N'' 203 8 = ((l ++ [m]).length : Nat) ∧ padAt N'' 209 (l ++ [m]) ∧ F9 M N'' := by
    intro N N' N'' l m hl h8 hp hF e1 e2
    refine ⟨by rw [e2, mset_same]; simp, ?_, fun c j a b => ?_⟩
    · have := padAt_app (x := m) hp
      rw [← e1] at this
      exact this.fr (fun j => by rw [e2, mset_cell _ (by omega)])
    · rw [e2, show mset N' 203 8 ((l.length : Int) + 1) c j = N' c j from if_neg a, e1, mset_cell _ b]
      exact hF c j a b
  apply of_X10_write
  unfold wp_X10_write wp_X10_write_7
  refine ⟨fun j N => ∃ i : Nat, j = i ∧ i ≤ t.length ∧ N 203 8 = ((wrP t i).length : Nat) ∧ padAt N 209 (wrP t i) ∧ F9 M N, fun j _ => (17 - j).toNat, ⟨0, rfl, by omega, by simp [wrP, mset_same], fun i x hx => by simp [wrP] at hx, fun c j a b => if_neg a⟩, ?_⟩
  rintro j N ⟨i, rfl, hi, h8, hp, hF⟩
  have htN := mtF hF
  unfold wp_X10_write_7_b
  rw [htN.1, h8]
  refine ⟨by omega, fun g => ?_, fun g => ?_⟩
  · have : i = t.length := by omega
    subst this
    exact h N h8 hp hF
  · have hit : i < t.length := by omega
    have hwl := wrP_lt t16 (n := i + 1) (by omega)
    have hws := wrP_succ t i
    obtain ⟨e1, e2⟩ := w_idx (x := x) (i := i) hx.1 hx.2 (by omega)
    rw [e1, (htN.2 i hit).1]
    clear e1
    have hl60 : (wrP t i).length < 60 := by rw [hws, List.length_append] at hwl; omega
    refine ⟨e2, by omega, ?_⟩
    intro M1 h1 M2 h2
    have m8 : M1 203 8 = ((wrP t i).length : Nat) := by rw [h1, mset_cell _ (by omega)]; exact h8
    rw [m8, w_succ (by omega)] at h2
    obtain ⟨p8, pp, pF⟩ := put N M1 M2 (wrP t i) (lb t i) hl60 h8 hp hF h1 h2
    have ht2 := mtF pF
    rw [(ht2.2 i hit).2, p8, w_succ (by omega)]
    refine ⟨e2, fun c => ?_, fun c => ?_⟩
    · have h0 : ar t i = 0 := by omega
      have epc : piece t i = lb t i :: List.replicate (cl t i) 41 := by unfold piece; rw [if_neg (by omega)]
      rw [hws, epc] at hwl
      simp only [List.length_append, List.length_cons, List.length_replicate] at hwl
      rw [w32_id (x := (i : Int) - 1) (by omega) (by omega)]
      unfold wp_X10_write_89
      refine ⟨fun j N => ∃ m d : Nat, j = (m : Int) - 1 ∧ m ≤ i ∧ d + (List.range m).countP (fun j => decide (j + sz t j = i + 1)) = cl t i ∧ N 203 8 = ((wrP t i ++ [lb t i] ++ List.replicate d 41).length : Nat) ∧ padAt N 209 (wrP t i ++ [lb t i] ++ List.replicate d 41) ∧ F9 M N, fun j _ => (j + 1).toNat, ⟨i, 0, rfl, by omega, by simp [cl], by simpa using p8, by simpa using pp, pF⟩, ?_⟩
      rintro j N ⟨m, d, rfl, hm, hd, q8, qp, qF⟩
      have htq := mtF qF
      unfold wp_X10_write_89_b
      refine ⟨fun g1 => ⟨⟨i + 1, ?_, by omega, ?_, ?_, qF⟩, ?_⟩, fun g1 => ?_⟩
      · rw [w_succ (by omega)]; omega
      · have hm0 : m = 0 := by omega
        subst hm0
        simp at hd
        rw [q8, hws, epc, hd]; simp
      · have hm0 : m = 0 := by omega
        subst hm0
        simp at hd
        rw [hws, epc]
        rw [hd] at qp; simpa using qp
      · (try dsimp only); rw [w_succ (by omega)]; omega
      · obtain ⟨m', rfl⟩ : ∃ m', m = m' + 1 := ⟨m - 1, by omega⟩
        rw [show ((m' + 1 : Nat) : Int) - 1 = (m' : Int) by omega]
        have hmt : m' < t.length := by omega
        obtain ⟨f1, f2⟩ := w_idx (x := x) (i := m') hx.1 hx.2 (by omega)
        rw [f1, (htq.2 m' hmt).2, w32_id (x := (m' : Int) + -1) (by omega) (by omega), w_succ (k := i) (by omega)]
        clear f1
        rw [List.range_succ, List.countP_append] at hd
        have hse := sz_end hmt
        refine ⟨f2, fun c1 => ?_, fun c1 => ?_⟩
        · have hz := leaf_sz hmt (by omega)
          have e : decide (m' + sz t m' = i + 1) = false := by simp; omega
          simp [e] at hd
          exact ⟨⟨m', d, by omega, by omega, hd, q8, qp, qF⟩, by (try dsimp only); omega⟩
        · refine m_sizeOf hx htq wt hmt ?_
          rw [w32_id (x := (m' : Int) + sz t m') (by omega) (by omega)]
          refine ⟨fun c2 => ?_, fun c2 => ?_⟩
          · have e : decide (m' + sz t m' = i + 1) = true := by simp; omega
            simp [e] at hd
            have hl2 : (wrP t i ++ [lb t i] ++ List.replicate d 41).length < 60 := by simp; omega
            rw [q8]
            refine ⟨by omega, ?_⟩
            intro M5 h5
            have r8 : M5 203 8 = ((wrP t i ++ [lb t i] ++ List.replicate d 41).length : Nat) := by rw [h5, mset_cell _ (by omega)]; exact q8
            rw [r8, w_succ (by omega)]
            obtain ⟨s8, sp, sF⟩ := put N M5 _ (wrP t i ++ [lb t i] ++ List.replicate d 41) 41 hl2 q8 qp qF h5 rfl
            rw [show wrP t i ++ [lb t i] ++ List.replicate d 41 ++ [41] = wrP t i ++ [lb t i] ++ List.replicate (d + 1) 41 by rw [List.replicate_succ', ← List.append_assoc]] at s8 sp
            exact ⟨⟨m', d + 1, by omega, by omega, by omega, s8, sp, sF⟩, by (try dsimp only); omega⟩
          · have e : decide (m' + sz t m' = i + 1) = false := by simp; omega
            simp [e] at hd
            exact ⟨⟨m', d, by omega, by omega, hd, q8, qp, qF⟩, by (try dsimp only); omega⟩
    · have epc : piece t i = [lb t i, 40] := by unfold piece; rw [if_pos (by omega)]
      rw [hws, epc] at hwl
      simp only [List.length_append, List.length_cons, List.length_nil] at hwl
      have hl2 : (wrP t i ++ [lb t i]).length < 60 := by simp; omega
      refine ⟨by omega, ?_⟩
      intro M6 h6
      have r8 : M6 203 8 = ((wrP t i ++ [lb t i]).length : Nat) := by rw [h6, mset_cell _ (by omega)]; exact p8
      rw [r8, w_succ (by omega)]
      obtain ⟨s8, sp, sF⟩ := put M2 M6 _ (wrP t i ++ [lb t i]) 40 hl2 p8 pp pF h6 rfl
      have e : wrP t i ++ [lb t i] ++ [40] = wrP t (i + 1) := by rw [hws, epc]; simp
      rw [e] at s8 sp
      exact ⟨⟨i + 1, by omega, by omega, s8, sp, sF⟩, by (try dsimp only); omega⟩
theorem op_sign {t i : Int} (hR : Rel M) : R_X9_sign V t i M (fun r1 M1 => R_X10_sign V t i M1 (fun r2 M2 => r1 = r2 ∧ Rel M2)) := by
  obtain ⟨σ, hI, hC, hM⟩ := hR
  apply of_X9_sign
  unfold wp_X9_sign
  apply x_filledAt
  by_cases ha : (0 ≤ t ∧ t ≤ 5) ∧ 0 < M (161 + 7 * t) 0
  · rw [if_pos ha]
    have ht := ha.1
    have ct := hC.2.2.1 t ht.1 ht.2
    have hpos : 0 < (σ.tr t).length := by have := ct.1.1; omega
    have wd := hI.2.2.1 t ht.1 ht.2
    have hwl := wrP_lt wd.1.1 (n := (σ.tr t).length) (by omega)
    refine ⟨fun c => by omega, fun _ => ?_⟩
    refine x_write ct wd.1 (by omega) (fun M1 p1 f1 => ?_)
    have hC1 : RelC M1 σ := hC.core hI (fun c j hc => f1 _ _ (by unfold cor at hc; omega))
    have hM1 : RelM M1 σ := hM.fr (fun c j hc => f1 _ _ (by omega))
    have mt := hM1.2.2.1 t ht.1 ht.2
    have mdl : ∀ r : Int, (i = -1 → r = ((wrP (σ.tr t) (σ.tr t).length).length : Nat)) → (¬ (i = -1 ∨ (0 ≤ i ∧ i < ((wrP (σ.tr t) (σ.tr t).length).length : Nat))) → r = -6) → (∀ n : Nat, i = n → ∀ v, (wrP (σ.tr t) (σ.tr t).length)[n]? = some v → r = v) → R_X10_sign V t i M1 (fun r2 M2 => r = r2 ∧ Rel M2) := by
      intro r a1 a2 a3
      apply of_X10_sign
      unfold wp_X10_sign
      apply m_isTree
      rw [if_pos ht, mt.1]
      refine ⟨fun c => by omega, fun _ => ⟨by omega, fun c => by omega, fun _ => ?_⟩⟩
      refine m_write (by omega) mt wd.1 (fun M3 e3 p3 f3 => ?_)
      have fin : Rel M3 := ⟨σ, hI, hC1.fr hI (fun c j hc => f3 _ _ (by omega) (by omega)), hM1.core hI (fun c j hc => f3 _ _ (by unfold corM at hc; omega) (by unfold corM at hc; omega))⟩
      rw [e3]
      refine ⟨fun c => ⟨a1 c, fin⟩, fun c => ?_⟩
      rw [w32_id (by omega) (by omega)]
      apply m_in
      by_cases hi : 0 ≤ i ∧ i ≤ ((wrP (σ.tr t) (σ.tr t).length).length : Int) - 1
      · rw [if_pos hi]
        refine ⟨fun c => by omega, fun _ => ⟨by omega, ?_, fin⟩⟩
        obtain ⟨n, rfl⟩ : ∃ n : Nat, i = n := ⟨i.toNat, by omega⟩
        have hn : n < (wrP (σ.tr t) (σ.tr t).length).length := by omega
        have hv := List.getElem?_eq_getElem hn
        rw [p3 n _ hv]
        exact a3 n rfl _ hv
      · rw [if_neg hi]
        exact ⟨fun _ => ⟨a2 (by omega), fin⟩, fun c => by omega⟩
    refine ⟨fun c => mdl _ (fun _ => rfl) (fun q => absurd (Or.inl c) q) (fun n hn => by omega), fun c => ⟨fun d => mdl _ (fun q => absurd q c) (fun _ => rfl) (fun n hn => by omega), fun d => ⟨fun e => mdl _ (fun q => absurd q c) (fun _ => rfl) (fun n hn v hv => ?_), fun e => ⟨fun g => by omega, fun g => ⟨by omega, mdl _ (fun q => absurd q c) (fun q => by omega) (fun n hn v hv => ?_)⟩⟩⟩⟩⟩
    · rw [List.getElem?_eq_none (by omega)] at hv; cases hv
    · rw [hn]; exact p1 n v hv
  · rw [if_neg ha]
    refine ⟨fun _ => ?_, fun c => by omega⟩
    apply of_X10_sign
    unfold wp_X10_sign
    apply m_isTree
    by_cases ht : 0 ≤ t ∧ t ≤ 5
    · have h1 := (hC.2.2.1 t ht.1 ht.2).1.1
      rw [if_pos ht, (hM.2.2.1 t ht.1 ht.2).1]
      exact ⟨fun c => by omega, fun _ => ⟨by omega, fun _ => ⟨rfl, σ, hI, hC, hM⟩, fun c => by omega⟩⟩
    · rw [if_neg ht]
      exact ⟨fun _ => ⟨rfl, σ, hI, hC, hM⟩, fun c => by omega⟩
end SIGN
