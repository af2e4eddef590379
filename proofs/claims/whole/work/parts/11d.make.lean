/-! the reference lays trees; make -/
def Laid (M : Mem) (t : T) : Prop := M 203 33 = t.length ∧ ∀ i : Nat, i < t.length → i < 16 → M 205 (640 + i) = lb t i ∧ M 206 (640 + i) = ar t i
def Ly (M M' : Mem) : Prop := ∀ c j, ¬ (c = 203 ∧ j = 33) → ¬ ((c = 205 ∨ c = 206) ∧ 640 ≤ j) → M' c j = M c j
theorem Ly.rf (M : Mem) : Ly M M := fun _ _ _ _ => rfl
theorem Ly.trans {M M' M'' : Mem} (h : Ly M M') (h' : Ly M' M'') : Ly M M'' := fun c j a b => (h' c j a b).trans (h c j a b)
theorem Ly.mt {x : Int} {M M' : Mem} {t : T} (h : Ly M M') (hx : x ≤ 19) (h16 : t.length ≤ 16) (hm : Mt M x t) : Mt M' x t :=
  ⟨by rw [h _ _ (by omega) (by omega)]; exact hm.1, fun i hi => by rw [h _ _ (by omega) (by omega), h _ _ (by omega) (by omega)]; exact hm.2 i hi⟩
theorem Wd.done {M : Mem} {c : Int} {r t : T} {i : Nat} {env : EnvT} (ht : Wd t) (hr : Wd r) (hi : i < t.length) (hb : RtB M c t env r) (h16 : (doneAt r t i env).length ≤ 16) (hok : ok 1 (doneAt r t i env)) : Wd (doneAt r t i env) := by
  refine ⟨⟨h16, fun _ => hok⟩, fun p hp => ?_⟩
  unfold doneAt at hp
  rcases List.mem_append.mp hp with hp | hp
  · rcases List.mem_append.mp hp with hp | hp
    · exact ht.2 p (List.mem_of_mem_take hp)
    · unfold inst at hp
      rw [List.mem_flatMap] at hp
      obtain ⟨q, hq, hpq⟩ := hp
      by_cases hh : isH q.1 = true
      · rw [if_pos hh] at hpq
        obtain ⟨-, n, -, h2, -⟩ := hb q hq hh
        rw [h2, Option.getD_some] at hpq
        exact ht.2 p (List.mem_of_mem_drop (List.mem_of_mem_take hpq))
      · rw [if_neg hh] at hpq
        rw [List.mem_singleton.mp hpq]
        exact hr.2 q hq
  · exact ht.2 p (List.mem_of_mem_drop hp)
theorem plain_done {M : Mem} {c : Int} {r t : T} {i : Nat} {env : EnvT} (hb : RtB M c t env r) (ht : plain t = true) : plain (doneAt r t i env) = true := by
  unfold plain at ht ⊢
  rw [List.all_eq_true] at ht ⊢
  intro p hp
  unfold doneAt at hp
  rcases List.mem_append.mp hp with hp | hp
  · rcases List.mem_append.mp hp with hp | hp
    · exact ht p (List.mem_of_mem_take hp)
    · unfold inst at hp
      rw [List.mem_flatMap] at hp
      obtain ⟨q, hq, hpq⟩ := hp
      by_cases hh : isH q.1 = true
      · rw [if_pos hh] at hpq
        obtain ⟨-, n, -, h2, -⟩ := hb q hq hh
        rw [h2, Option.getD_some] at hpq
        exact ht p (List.mem_of_mem_drop (List.mem_of_mem_take hpq))
      · rw [if_neg hh] at hpq
        rw [List.mem_singleton.mp hpq]
        simpa using hh
  · exact ht p (List.mem_of_mem_drop hp)
section MAKE
variable {V : VV} {M : Mem} {Q : Int → Mem → Prop}
theorem m_lay {c : Int} {a : Nat} {r : T} (hr : Laid M r) (hl : r.length ≤ 1000) (h : ∀ M', Laid M' (r ++ [(c, a)]) → Ly M M' → Q 0 M') : R_X10_lay V c a M Q := by
  have h0 := hr.1
  apply of_X10_lay
  unfold wp_X10_lay
  rw [h0]
  refine ⟨fun g => ?_, fun g => ?_⟩
  · rw [w_succ (by omega)]
    refine h _ ⟨?_, fun i hi h16 => ?_⟩ (fun c j a b => ?_)
    · rw [mset_same]; simp
    · rw [mset_cell _ (by omega), mset_cell _ (by omega), (lb_app_lt (by omega)).1, (lb_app_lt (by omega)).2]; exact hr.2 i (by omega) h16
    · exact if_neg a
  · rw [w32_id (x := 640 + _) (by omega) (by omega)]
    refine ⟨by omega, ?_⟩
    intro M1 h1
    have e1 : M1 203 33 = r.length := by rw [h1, mset_cell _ (by omega)]; exact h0
    rw [e1, w32_id (x := 640 + _) (by omega) (by omega)]
    refine ⟨by omega, ?_⟩
    intro M2 h2
    have e2 : M2 203 33 = r.length := by rw [h2, mset_cell _ (by omega)]; exact e1
    rw [e2, w_succ (by omega)]
    refine h _ ⟨?_, fun i hi h16 => ?_⟩ (fun c j a b => ?_)
    · rw [mset_same]; simp
    · simp only [List.length_append, List.length_cons, List.length_nil] at hi
      rw [mset_cell _ (by omega), mset_cell _ (by omega), h2, mset_cell _ (by omega), h1]
      by_cases hi2 : i = r.length
      · subst hi2
        rw [mset_same, mset_same, lb_app.1, lb_app.2]
        exact ⟨rfl, rfl⟩
      · rw [mset_idx _ _ _ (by omega), mset_idx _ _ _ (by omega), mset_cell _ (by omega), (lb_app_lt (by omega)).1, (lb_app_lt (by omega)).2]
        exact hr.2 i (by omega) h16
    · rw [show mset M2 203 33 ((r.length : Int) + 1) c j = M2 c j from if_neg a, h2]
      rw [show ∀ v, mset M1 206 (640 + (r.length : Int)) v c j = M1 c j from fun v => if_neg (by omega), h1]
      exact if_neg (by omega)
theorem m_layPart {x : Int} {a b : Nat} {r t : T} (hx : 0 ≤ x ∧ x ≤ 19) (hm : Mt M x t) (h16 : t.length ≤ 16) (hab : a ≤ b) (hb : b ≤ t.length) (hr : Laid M r) (hl : r.length ≤ 900) (h : ∀ M', Laid M' (r ++ (t.drop a).take (b - a)) → Ly M M' → Q 0 M') : R_X10_layPart V x a b M Q := by
  apply of_X10_layPart
  unfold wp_X10_layPart wp_X10_layPart_3
  refine ⟨fun j N => ∃ n : Nat, j = ((a + n : Nat) : Int) ∧ a + n ≤ b ∧ Laid N (r ++ (t.drop a).take n) ∧ Ly M N, fun j _ => (17 - j).toNat, ⟨0, by omega, by omega, by simpa using hr, Ly.rf _⟩, ?_⟩
  rintro j N ⟨n, rfl, hn, hN, hY⟩
  have hmN := hY.mt (by omega) h16 hm
  unfold wp_X10_layPart_3_b
  refine ⟨fun g => ?_, fun g => ?_⟩
  · have : n = b - a := by omega
    subst this
    exact h N hN hY
  · obtain ⟨e1, e2⟩ := w_idx (x := x) (i := a + n) (by omega) (by omega) (by omega)
    have hlt : a + n < t.length := by omega
    rw [e1, w_succ (by omega)]
    clear e1
    refine ⟨e2, e2, ?_⟩
    rw [(hmN.2 (a + n) hlt).1, (hmN.2 (a + n) hlt).2]
    have hdrop : n < (t.drop a).length := by simp; omega
    have hlb : lb (t.drop a) n = lb t (a + n) ∧ ar (t.drop a) n = ar t (a + n) := by simp [lb, ar]
    refine m_lay hN (by simp; omega) (fun M5 c5 f5 => ?_)
    refine ⟨⟨n + 1, by omega, by omega, ?_, hY.trans f5⟩, by (try dsimp only); omega⟩
    rw [take_succ' hdrop, hlb.1, hlb.2, ← List.append_assoc]; exact c5
theorem m_makes {x r : Int} {rt t : T} {i : Nat} {env : EnvT} (hx : 0 ≤ x ∧ x ≤ 19) (hr : 0 ≤ r ∧ r ≤ 5) (hrt : Mt M (12 + r) rt) (wr : Wd rt) (r0 : rt ≠ []) (ht : Mt M x t) (wt : Wt t) (hi : i < t.length) (hb : RtB M 228 t env rt)
    (h1 : ∀ M', Ly M M' → 16 < (doneAt rt t i env).length → Q 0 M')
    (h2 : ∀ M', (doneAt rt t i env).length ≤ 16 → ok 1 (doneAt rt t i env) → Mt M' x (doneAt rt t i env) → (∀ c j, ¬ (c = 203 ∧ j = 33) → ¬ ((c = 205 ∨ c = 206) ∧ 640 ≤ j) → ¬ (c = 204 ∧ j = x) → ¬ ((c = 205 ∨ c = 206) ∧ 32 * x ≤ j ∧ j < 32 * x + 32) → M' c j = M c j) → Q 1 M') : R_X10_makes V x i r M Q := by
  have t16 := wt.1
  have r16 := wr.1.1
  have hse := sz_end hi
  have rp : 0 < rt.length := List.length_pos_iff.mpr r0
  have hokd := ok_done (wt.ok hi) (wr.1.ok rp) hi hb
  have hlen := done_len (r := rt) (env := env) hi
  have hil := inst_len_le hb t16 rt.length (by omega)
  rw [List.take_length] at hil
  apply of_X10_makes
  unfold wp_X10_makes
  intro M1 e1
  have y1 : Ly M M1 := fun c j a b => by rw [e1]; exact if_neg a
  have l1 : Laid M1 [] := ⟨by rw [e1, mset_same]; rfl, fun i hi => by simp at hi⟩
  refine m_layPart (a := 0) hx (y1.mt (by omega) t16 ht) t16 (by omega) (by omega) l1 (by simp) (fun M3 c3 f3 => ?_)
  rw [List.nil_append, List.drop_zero, Nat.sub_zero] at c3
  rw [w32_id (x := 12 + r) (by omega) (by omega)]
  unfold wp_X10_makes_21
  refine ⟨fun j P => ∃ p : Nat, j = p ∧ p ≤ rt.length ∧ Laid P (t.take i ++ inst (rt.take p) env) ∧ Ly M P, fun j _ => (17 - j).toNat, ⟨0, rfl, by omega, by simpa [inst] using c3, y1.trans f3⟩, ?_⟩
  rintro j P ⟨p, rfl, hp, cP, yP⟩
  have mtP : Mt P x t := yP.mt (by omega) t16 ht
  have mrP : Mt P (12 + r) rt := yP.mt (by omega) r16 hrt
  have hple := inst_len_le hb t16 p hp
  unfold wp_X10_makes_21_b
  rw [mrP.1]
  refine ⟨by omega, fun g => ?_, fun g => ?_⟩
  · have hpr : p = rt.length := by omega
    subst hpr
    rw [List.take_length] at cP
    refine m_sizeOf (by omega) mtP wt hi ?_
    refine ⟨by omega, ?_⟩
    rw [mtP.1, show w32 ((i : Int) + sz t i) = ((i + sz t i : Nat) : Int) by rw [w32_id (by omega) (by omega)]; omega]
    refine m_layPart hx mtP t16 (by omega) (by omega) cP (by simp; omega) (fun M7 c7 f7 => ?_)
    rw [show (t.drop (i + sz t i)).take (t.length - (i + sz t i)) = t.drop (i + sz t i) from List.take_of_length_le (by simp)] at c7
    have c7' : Laid M7 (doneAt rt t i env) := c7
    rw [c7'.1]
    have y7 := yP.trans f7
    refine ⟨fun c => ?_, fun c => h1 M7 y7 (by omega)⟩
    refine m_copy (x := 20) (i := 0) (by omega) (by omega) (by omega) (by omega) (fun M9 s9 n9 e9 => ?_)
    refine h2 M9 (by omega) hokd ⟨n9, fun j hj => ?_⟩ (fun c j a b d e => by rw [s9 _ _ d e, y7 _ _ a b])
    have e := e9 j hj
    rw [show (32 * 20 + ((0 : Nat) : Int) + (j : Int) : Int) = 640 + j by omega] at e
    rw [e.1, e.2]
    exact c7'.2 j hj (by omega)
  · have hpl : p < rt.length := by omega
    obtain ⟨e1, e2⟩ := w_idx (x := 12 + r) (i := p) (by omega) (by omega) (by omega)
    rw [e1, w_succ (by omega)]
    clear e1
    refine ⟨e2, ?_⟩
    intro v hv
    rw [(mrP.2 p hpl).1] at hv
    subst hv
    apply m_isHole
    by_cases hh : 65 ≤ lb rt p ∧ lb rt p ≤ 72
    · rw [if_pos hh]
      have hH := isH_iff.mpr hh
      obtain ⟨-, n, n1, n2, n3⟩ := hb _ (mem_lbar hpl) hH
      simp only at n2 n3
      have hsn := sz_end n1
      refine ⟨fun c => by omega, fun _ => ?_⟩
      rw [w32_id (x := lb rt p - 65) (by omega) (by omega)]
      refine ⟨by omega, ?_⟩
      intro v hv
      rw [yP _ _ (by omega) (by omega), n3] at hv
      subst hv
      refine m_sizeOf (by omega) mtP wt n1 ?_
      rw [show w32 ((n : Int) + sz t n) = ((n + sz t n : Nat) : Int) by rw [w32_id (by omega) (by omega)]; omega]
      refine m_layPart hx mtP t16 (by omega) (by omega) cP (by simp; omega) (fun M5 c5 f5 => ?_)
      refine ⟨⟨p + 1, by omega, by omega, ?_, yP.trans f5⟩, by (try dsimp only); omega⟩
      rw [inst_step hpl, if_pos hH, n2, Option.getD_some, ← List.append_assoc]
      rw [show n + sz t n - n = sz t n by omega] at c5
      exact c5
    · rw [if_neg hh]
      have hH : ¬ isH (lb rt p) = true := fun g => hh (isH_iff.mp g)
      refine ⟨fun _ => ⟨e2, ?_⟩, fun c => by omega⟩
      rw [(mrP.2 p hpl).2]
      refine m_lay cP (by simp; omega) (fun M5 c5 f5 => ?_)
      refine ⟨⟨p + 1, by omega, by omega, ?_, yP.trans f5⟩, by (try dsimp only); omega⟩
      rw [inst_step hpl, if_neg hH, ← List.append_assoc]; exact c5
theorem x_rhas {r : Int} (h : Q (if 0 ≤ r ∧ r < M 28 0 ∧ r < 6 then 1 else 0) M) : R_X6_has V r M Q := by
  apply of_X6_has
  unfold wp_X6_has
  refine ⟨fun c => ?_, fun c => ⟨fun d => ?_, fun d => ⟨fun e => ?_, fun e => ?_⟩⟩⟩
  · rwa [if_neg (by omega)] at h
  · rwa [if_neg (by omega)] at h
  · rwa [if_neg (by omega)] at h
  · rwa [if_pos (by omega)] at h
theorem op_make {t i r : Int} (hR : Rel M) : R_X9_make V t i r M (fun r1 M1 => R_X10_make V t i r M1 (fun r2 M2 => r1 = r2 ∧ Rel M2)) := by
  obtain ⟨σ, hI, hC, hM⟩ := hR
  have hnr := hI.2.2.2.1
  have n5 := hM.2.2.2.1
  have n28 := hC.2.2.2.1
  have un : ¬ (((0 ≤ t ∧ t ≤ 5) ∧ 0 ≤ i ∧ i < (σ.tr t).length) ∧ 0 ≤ r ∧ r < σ.nr) → R_X10_make V t i r M (fun r2 M2 => -1 = r2 ∧ Rel M2) := by
    intro hx
    apply of_X10_make
    unfold wp_X10_make
    refine m_node_case hI hM (fun g => ⟨fun _ => ⟨rfl, σ, hI, hC, hM⟩, fun c => by omega⟩) (fun n hn a b hlt => ⟨fun c => by omega, fun _ => ?_⟩)
    rw [n5, w32_id (by omega) (by omega)]
    apply m_in
    rw [if_neg (by omega)]
    exact ⟨fun _ => ⟨rfl, σ, hI, hC, hM⟩, fun c => by omega⟩
  apply of_X9_make
  unfold wp_X9_make
  apply x_treeAt
  by_cases ht : 0 ≤ t ∧ t ≤ 5
  · rw [if_pos ht]
    refine ⟨fun c => by omega, fun _ => ?_⟩
    have ct := hC.2.2.1 t ht.1 ht.2
    apply x_has
    rw [ct.1.1]
    by_cases hi : 0 ≤ i ∧ i < (σ.tr t).length
    · rw [if_pos hi]
      refine ⟨fun c => by omega, fun _ => ?_⟩
      apply x_rhas
      rw [n28]
      by_cases hr : 0 ≤ r ∧ r < σ.nr
      · rw [if_pos (by omega)]
        refine ⟨fun c => by omega, fun _ => ?_⟩
        obtain ⟨n, rfl⟩ : ∃ n : Nat, i = n := ⟨i.toNat, by omega⟩
        have hn : n < (σ.tr t).length := by omega
        have wd := hI.2.2.1 t ht.1 ht.2
        have h16 := wd.1.1
        have wr := hI.2.2.2.2.1 r hr.1 hr.2
        have cr := hC.2.2.2.2.1 r hr.1 hr.2
        refine x_holeCount ct.1 h16 ?_
        refine ⟨fun c => ?_, fun c => ?_⟩
        · have hpl : plain (σ.tr t) = true := (plain_iff _).mpr (by omega)
          have mk : ∀ (M1 : Mem) (Q : Int → Mem → Prop), RelM M1 σ → (∀ M2 : Mem, Fx 228 228 M1 M2 → fitAt (σ.lf r) (σ.tr t) n = none → Q (-5) M2) → (∀ M2 env, (∀ c j, corM c j → M2 c j = M1 c j) → (∀ c j, c ≤ 202 → M2 c j = M1 c j) → fitAt (σ.lf r) (σ.tr t) n = some env → 16 < (doneAt (σ.rt r) (σ.tr t) n env).length → Q (-4) M2) → (∀ M2 env, fitAt (σ.lf r) (σ.tr t) n = some env → (doneAt (σ.rt r) (σ.tr t) n env).length ≤ 16 → Wd (doneAt (σ.rt r) (σ.tr t) n env) → Mt M2 t (doneAt (σ.rt r) (σ.tr t) n env) → (∀ c j, corM c j → ¬ (c = 204 ∧ j = t) → ¬ ((c = 205 ∨ c = 206) ∧ 32 * t ≤ j ∧ j < 32 * t + 32) → M2 c j = M1 c j) → (∀ c j, c ≤ 202 → M2 c j = M1 c j) → Q (doneAt (σ.rt r) (σ.tr t) n env).length M2) → R_X10_make V t n r M1 Q := by
            intro M1 Q hM1 q0 q1 q2
            apply of_X10_make
            unfold wp_X10_make
            refine m_node_case hI hM1 (fun g => absurd ⟨ht, hi⟩ g) (fun n' hn' a b hlt => ⟨fun c => by omega, fun _ => ?_⟩)
            rw [hM1.2.2.2.1, w32_id (by omega) (by omega)]
            apply m_in
            rw [if_pos (by omega)]
            refine ⟨fun c => by omega, fun _ => ?_⟩
            have mt := hM1.2.2.1 t ht.1 ht.2
            have mr := hM1.2.2.2.2.1 r hr.1 hr.2
            refine m_isPlain (by omega) mt wd.1 ?_
            rw [if_pos hpl]
            refine ⟨fun c => by omega, fun _ => ?_⟩
            refine m_fitsAt (by omega) (by omega) mr.1 wr.1 wr.2.2.1 mt wd.1 hn (fun M2 f2 e => ⟨fun _ => q0 M2 f2 e, fun c => by omega⟩) (fun M2 env f2 e hb => ⟨fun c => by omega, fun _ => ?_⟩)
            have hB := RtB.of wr e hb
            refine m_makes (by omega) (by omega) (f2.mt (by omega) mr.2) wr.2.1 wr.2.2.2.1 (f2.mt (by omega) mt) wd.1 hn hB (fun M3 y3 g => ⟨fun _ => ?_, fun c => by omega⟩) (fun M3 l3 o3 m3 f3 => ⟨fun c => by omega, fun _ => ⟨by omega, ?_⟩⟩)
            · exact q1 M3 env (fun c j hc => by unfold corM at hc; rw [y3 _ _ (by omega) (by omega), f2 _ _ (by omega)]) (fun c j hc => by rw [y3 _ _ (by omega) (by omega), f2 _ _ (by omega)]) e g
            · rw [m3.1]
              exact q2 M3 env e l3 (wd.done wr.2.1 hn hB l3 o3) m3 (fun c j hc a b => by unfold corM at hc; rw [f3 _ _ (by omega) (by omega) a b, f2 _ _ (by omega)]) (fun c j hc => by rw [f3 _ _ (by omega) (by omega) (by omega) (by omega), f2 _ _ (by omega)])
          refine x_copyAll ct h16 (by omega) (fun M1 c1 f1 => ?_)
          have n1 : M1 28 0 = σ.nr := by rw [f1 _ _ (by omega)]; exact n28
          refine x_rewrite n1 hnr ⟨hr.1, hr.2⟩ (by omega) (f1.cu (by omega) cr.1.1) (f1.cu (by omega) cr.2.1) wr c1 wd.1 hn (fun M2 f2 e => ⟨fun c => by omega, fun _ => ?_⟩) (fun M2 env f2 e g => ⟨fun _ => ⟨fun c => by omega, fun _ => ?_⟩, fun c => by omega⟩) (fun M2 env e l2 o2 c2 f2 => ⟨fun _ => ⟨fun _ => ?_, fun c => by omega⟩, fun c => by omega⟩)
          · have hC2 : RelC M2 σ := hC.core hI (fun c j hc => by unfold cor at hc; rw [f2 _ _ (by omega), f1 _ _ (by omega)])
            have hM2 : RelM M2 σ := hM.fr (fun c j hc => by rw [f2 _ _ (by omega), f1 _ _ (by omega)])
            refine mk M2 _ hM2 (fun M3 f3 _ => ⟨rfl, σ, hI, hC2.fr hI (fun c j hc => f3 _ _ (by omega)), hM2.core hI (fun c j hc => f3 _ _ (by unfold corM at hc; omega))⟩) (fun M3 env _ _ e' _ => ?_) (fun M3 env e' _ _ _ _ _ => ?_)
            · rw [e] at e'; cases e'
            · rw [e] at e'; cases e'
          · have hC2 : RelC M2 σ := hC.core hI (fun c j hc => by unfold cor at hc; rw [f2 _ _ (by omega), f1 _ _ (by omega)])
            have hM2 : RelM M2 σ := hM.fr (fun c j hc => by rw [f2 _ _ (by omega), f1 _ _ (by omega)])
            refine mk M2 _ hM2 (fun M3 f3 e' => ?_) (fun M3 env' a b e' _ => ⟨rfl, σ, hI, hC2.fr hI b, hM2.core hI a⟩) (fun M3 env' e' l3 _ _ _ _ => ?_)
            · rw [e] at e'; cases e'
            · rw [e] at e'
              have : env = env' := Option.some.inj e'
              subst this; omega
          · refine x_become ht c2 l2 (fun M3 c3 k3 f3 => ?_)
            have hM3 : RelM M3 σ := hM.fr (fun c j hc => by rw [f3 _ _ (by omega) (by omega), f2 _ _ (by omega) (by omega), f1 _ _ (by omega)])
            refine mk M3 _ hM3 (fun M4 f4 e' => ?_) (fun M4 env' a b e' g' => ?_) (fun M4 env' e' l4 w4 m4 f4 g4 => ?_)
            · rw [e] at e'; cases e'
            · rw [e] at e'
              have : env = env' := Option.some.inj e'
              subst this; omega
            · rw [e] at e'
              have : env = env' := Option.some.inj e'
              subst this
              have hI' := hI.tree t w4
              have hC3 : RelC M3 (trSet σ t (doneAt (σ.rt r) (σ.tr t) n env)) := by
                refine hC.tree hI ht c3 k3 (fun c j a b d _ _ => ?_)
                unfold cor at a
                rw [f3 _ _ b d, f2 _ _ (by omega) (by omega), f1 _ _ (by omega)]
              exact ⟨rfl, _, hI', hC3.fr hI' g4, hM3.tree hI ht m4 f4⟩
        · apply of_X10_make
          unfold wp_X10_make
          refine m_node_case hI hM (fun g => absurd ⟨ht, hi⟩ g) (fun n' hn' a b hlt => ⟨fun c => by omega, fun _ => ?_⟩)
          rw [n5, w32_id (by omega) (by omega)]
          apply m_in
          rw [if_pos (by omega)]
          refine ⟨fun c => by omega, fun _ => ?_⟩
          refine m_isPlain (by omega) (hM.2.2.1 t ht.1 ht.2) wd.1 ?_
          rw [if_neg (fun q => c (by rw [(plain_iff _).mp q]; omega))]
          exact ⟨fun _ => ⟨rfl, σ, hI, hC, hM⟩, fun c => by omega⟩
      · rw [if_neg (by omega)]
        exact ⟨fun _ => un (by omega), fun c => by omega⟩
    · rw [if_neg hi]
      exact ⟨fun _ => un (by omega), fun c => by omega⟩
  · rw [if_neg ht]
    exact ⟨fun _ => un (by omega), fun c => by omega⟩
end MAKE
