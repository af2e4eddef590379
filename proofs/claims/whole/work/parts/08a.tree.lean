/-! the class's trees in memory -/
/-- count, labels, parts -/
def Cu (M : Mem) (k : Int) (t : T) : Prop := M k 0 = t.length ∧ ∀ i : Nat, i < t.length → M (k + 1) i = lb t i ∧ M (k + 2) i = ar t i
/-- and all that follows from them -/
def Cd (M : Mem) (k : Int) (t : T) : Prop := ∀ i : Nat, i < t.length → M (k + 3) i = sz t i ∧ M (k + 4) i = par t i ∧ M (k + 5) i = plc t i ∧ M (k + 6) i = dep t i
def Ct (M : Mem) (k : Int) (t : T) : Prop := Cu M k t ∧ Cd M k t
/-- nothing has changed but cells a to b -/
def Fx (a b : Int) (M M' : Mem) : Prop := ∀ c j, c < a ∨ b < c → M' c j = M c j
theorem Fx.rf (a b : Int) (M : Mem) : Fx a b M M := fun _ _ _ => rfl
theorem Fx.trans {a b : Int} {M M' M'' : Mem} (h : Fx a b M M') (h' : Fx a b M' M'') : Fx a b M M'' := fun c j hc => (h' c j hc).trans (h c j hc)
theorem Fx.mono {a b a' b' : Int} {M M' : Mem} (h : Fx a b M M') (h1 : a' ≤ a) (h2 : b ≤ b') : Fx a' b' M M' := fun c j hc => h c j (by omega)
theorem Fx.set {a b : Int} {M M' : Mem} (h : Fx a b M M') {c j v : Int} (h1 : a ≤ c) (h2 : c ≤ b) : Fx a b M (mset M' c j v) := fun c' j' hc => by rw [mset_cell _ (by omega)]; exact h c' j' hc
theorem Fx.cu {a b k : Int} {M M' : Mem} {t : T} (h : Fx a b M M') (hk : k + 2 < a ∨ b < k) (hc : Cu M k t) : Cu M' k t := by
  refine ⟨by rw [h _ _ (by omega)]; exact hc.1, fun i hi => ?_⟩
  rw [h _ _ (by omega), h _ _ (by omega)]; exact hc.2 i hi
theorem Fx.ct {a b k : Int} {M M' : Mem} {t : T} (h : Fx a b M M') (hk : k + 6 < a ∨ b < k) (hc : Ct M k t) : Ct M' k t := by
  refine ⟨h.cu (by omega) hc.1, fun i hi => ?_⟩
  rw [h _ _ (by omega), h _ _ (by omega), h _ _ (by omega), h _ _ (by omega)]; exact hc.2 i hi
section CTREE
variable {V : VV} {M : Mem} {Q : Int → Mem → Prop}
theorem x_has {k i : Int} (h : Q (if 0 ≤ i ∧ i < M k 0 then 1 else 0) M) : R_X7_has V k i M Q := by
  apply of_X7_has
  unfold wp_X7_has
  refine ⟨fun c => ?_, fun c => ⟨fun d => ?_, fun d => ?_⟩⟩
  · rwa [if_neg (by omega)] at h
  · rwa [if_neg (by omega)] at h
  · rwa [if_pos (by omega)] at h
theorem lb_app {t : T} {p : Int × Nat} : lb (t ++ [p]) t.length = p.1 ∧ ar (t ++ [p]) t.length = p.2 := by simp [lb, ar]
theorem lb_app_lt {t r : T} {i : Nat} (h : i < t.length) : lb (t ++ r) i = lb t i ∧ ar (t ++ r) i = ar t i := by
  simp [lb, ar, List.getElem?_append_left h]
theorem x_append {k c : Int} {a : Nat} {t : T} (hc : Cu M k t) (h16 : t.length < 16) (h : ∀ M', Cu M' k (t ++ [(c, a)]) → Fx k (k + 2) M M' → Q 0 M') : R_X7_append V k c a M Q := by
  have h0 := hc.1
  apply of_X7_append
  unfold wp_X7_append
  refine ⟨fun d => by omega, fun _ => ⟨by omega, ?_⟩⟩
  intro M1 h1
  have e1 : M1 k 0 = t.length := by rw [h1, mset_cell _ (by omega)]; exact h0
  refine ⟨by omega, ?_⟩
  intro M2 h2
  have e2 : M2 k 0 = t.length := by rw [h2, mset_cell _ (by omega)]; exact e1
  rw [e1] at h2
  rw [h0] at h1
  rw [e2, w32_id (by omega) (by omega)]
  refine h _ ⟨?_, fun i hi => ?_⟩ (fun c j hcj => ?_)
  · rw [mset_same]; simp
  · simp only [List.length_append, List.length_cons, List.length_nil] at hi
    rw [mset_cell _ (by omega), mset_cell _ (by omega), h2, mset_cell _ (by omega), h1]
    by_cases hi2 : i = t.length
    · subst hi2
      rw [mset_same, lb_app.1, lb_app.2, mset_same]
      exact ⟨rfl, rfl⟩
    · have h3 := hc.2 i (by omega)
      rw [mset_idx _ _ _ (by omega), mset_idx _ _ _ (by omega), mset_cell _ (by omega), (lb_app_lt (by omega)).1, (lb_app_lt (by omega)).2]
      exact h3
  · rw [mset_cell _ (by omega), h2, mset_cell _ (by omega), h1, mset_cell _ (by omega)]
theorem x_settle {k : Int} {t : T} (hc : Cu M k t) (hw : Wt t) (h : ∀ M', Ct M' k t → Fx (k + 3) (k + 6) M M' → Q 0 M') : R_X7_settle V k M Q := by
  have h0 := hc.1
  have h16 := hw.1
  apply of_X7_settle
  unfold wp_X7_settle
  intro v1 hv1
  rw [w32_id (by omega) (by omega)] at hv1
  unfold wp_X7_settle_7
  refine ⟨fun i N => ∃ n : Nat, i = (n : Int) - 1 ∧ n ≤ t.length ∧ Fx (k + 3) (k + 3) M N ∧ ∀ j : Nat, n ≤ j → j < t.length → N (k + 3) j = sz t j, fun i _ => (i + 1).toNat, ⟨t.length, by omega, by omega, Fx.rf _ _ _, fun j _ _ => by omega⟩, ?_⟩
  rintro i N ⟨n, rfl, hn, hF, hz⟩
  have hcN : Cu N k t := hF.cu (by omega) hc
  unfold wp_X7_settle_7_b
  refine ⟨fun c => ?_, fun c => ?_⟩
  · have hn0 : n = 0 := by omega
    subst hn0
    refine ⟨by omega, ?_⟩
    intro M1 h1
    refine ⟨by omega, ?_⟩
    intro M2 h2
    refine ⟨by omega, ?_⟩
    have g0 := hcN.1
    have gz : ∀ j : Nat, j < t.length → N (k + 3) j = sz t j := fun j hj => hz j (by omega) hj
    generalize hM3 : mset M2 (k + 6) 0 0 = M3
    have hF3 : Fx (k + 4) (k + 6) N M3 := by
      rw [← hM3, h2, h1]
      exact (((Fx.rf _ _ _).set (by omega) (by omega)).set (by omega) (by omega)).set (by omega) (by omega)
    have r4 : M3 (k + 4) 0 = -6 := by rw [← hM3, mset_cell _ (by omega), h2, mset_cell _ (by omega), h1, mset_same]
    have r5 : M3 (k + 5) 0 = -6 := by rw [← hM3, mset_cell _ (by omega), h2, mset_same]
    have r6 : M3 (k + 6) 0 = 0 := by rw [← hM3, mset_same]
    clear hM3 h1 h2
    unfold wp_X7_settle_90
    refine ⟨fun i P => ∃ n : Nat, i = n ∧ n ≤ t.length ∧ Fx (k + 4) (k + 6) N P ∧ ∀ j : Nat, j < t.length → par t j < n → P (k + 4) j = par t j ∧ P (k + 5) j = plc t j ∧ P (k + 6) j = dep t j, fun i _ => (17 - i).toNat, ⟨0, rfl, by omega, hF3, ?_⟩, ?_⟩
    · intro j hj hp
      have hj0 : j = 0 := by
        rcases Nat.eq_zero_or_pos j with q | q
        · exact q
        · obtain ⟨p, q', a1, a2, rfl⟩ := par_ex (hw.ok hj) hj q
          rw [par_chd (hw.ok hj) (by omega) a2] at hp
          omega
      subst hj0
      rw [par_zero, plc_zero, dep_zero]
      exact ⟨r4, r5, r6⟩
    · rintro i P ⟨n, rfl, hn, hFP, hP⟩
      have hcP : Cu P k t := hFP.cu (by omega) hcN
      have zP : ∀ j : Nat, j < t.length → P (k + 3) j = sz t j := fun j hj => by rw [hFP _ _ (by omega)]; exact gz j hj
      unfold wp_X7_settle_90_b
      have p0 := hcP.1
      refine ⟨fun c => ?_, fun c => ?_⟩
      · refine h P ⟨hcP, fun j hj => ?_⟩ ((hF.mono (by omega) (by omega)).trans (hFP.mono (by omega) (by omega)))
        have := hP j hj (by have := par_lt (hw.ok hj) hj; omega)
        exact ⟨zP j hj, this⟩
      · have hnt : n < t.length := by omega
        have hok := hw.ok hnt
        unfold wp_X7_settle_104
        refine ⟨fun e q R => ∃ m : Nat, q = m ∧ m ≤ ar t n ∧ e = chd t n m ∧ Fx (k + 4) (k + 6) N R ∧ ∀ j : Nat, j < t.length → (par t j < n ∨ (par t j = n ∧ j < chd t n m)) → R (k + 4) j = par t j ∧ R (k + 5) j = plc t j ∧ R (k + 6) j = dep t j, fun _ q _ => (17 - q).toNat, ⟨0, rfl, by omega, by rw [w32_id (by omega) (by omega), chd_zero]; omega, hFP, ?_⟩, ?_⟩
        · intro j hj hp
          rcases hp with hp | ⟨hp, hlt⟩
          · exact hP j hj hp
          · rw [chd_zero] at hlt
            have := par_lt hok hj
            omega
        · rintro e q R ⟨m, rfl, hm, rfl, hFR, hR⟩
          have hcR : Cu R k t := hFR.cu (by omega) hcN
          have zR : ∀ j : Nat, j < t.length → R (k + 3) j = sz t j := fun j hj => by rw [hFR _ _ (by omega)]; exact gz j hj
          have rp := (hcR.2 n hnt).2
          have r0 := hcR.1
          have har := ar_lt hok hnt
          unfold wp_X7_settle_104_b
          rw [rp, r0]
          have fin : m = ar t n → (fun z1 N1 => (∃ n : Nat, z1 = (n : Int) ∧ n ≤ t.length ∧ Fx (k + 4) (k + 6) N N1 ∧ ∀ j : Nat, j < t.length → par t j < n → N1 (k + 4) j = par t j ∧ N1 (k + 5) j = plc t j ∧ N1 (k + 6) j = dep t j) ∧ (17 - z1).toNat < (17 - (n : Int)).toNat) (w32 ((n : Int) + 1)) R := by
            intro hme
            rw [w32_id (by omega) (by omega)]
            refine ⟨⟨n + 1, by omega, by omega, hFR, fun j hj hp => hR j hj ?_⟩, by omega⟩
            rcases Int.lt_or_le (par t j) n with g | g
            · exact Or.inl g
            · refine Or.inr ⟨by omega, ?_⟩
              subst hme
              rw [chd_end hnt]
              rcases Nat.eq_zero_or_pos j with rfl | hj0
              · rw [par_zero] at g; omega
              · obtain ⟨p, q', a1, a2, a3⟩ := par_ex hok hj hj0
                rw [a3, par_chd hok (by omega) a2] at hp g
                have : p = n := by omega
                subst this
                rw [a3, ← chd_end hnt]
                exact Nat.lt_of_lt_of_le (chd_slt hok hnt a2) (chd_mono t _ (by omega))
          refine ⟨by omega, fun c => fin (by omega), fun c => ⟨fun d => ?_, fun d => ?_⟩⟩
          · have := chd_lt hok hnt (show m < ar t n by omega)
            omega
          · have hmr : m < ar t n := by omega
            have hcl := chd_lt hok hnt hmr
            have hcn : n < chd t n m := by unfold chd; omega
            refine ⟨by omega, ?_⟩
            intro M1 h1
            refine ⟨by omega, ?_⟩
            intro M2 h2
            refine ⟨by omega, by omega, ?_⟩
            intro M3 h3
            have hdn : M2 (k + 6) n = dep t n := by
              rw [h2, mset_cell _ (by omega), h1, mset_cell _ (by omega)]
              exact (hR n hnt (Or.inl (par_lt hok hnt))).2.2
            have hdl := dep_le t n
            rw [hdn, w32_id (by omega) (by omega)] at h3
            have z3 : M3 (k + 3) (chd t n m) = sz t (chd t n m) := by
              rw [h3, mset_cell _ (by omega), h2, mset_cell _ (by omega), h1, mset_cell _ (by omega)]
              exact zR _ hcl
            refine ⟨by omega, ?_⟩
            intro v2 hv2
            have hse := sz_end hcl
            rw [z3, w32_id (by omega) (by omega)] at hv2
            rw [w32_id (by omega) (by omega)]
            refine ⟨⟨m + 1, by omega, by omega, by rw [hv2, chd_succ]; omega, ?_, ?_⟩, by (try dsimp only); omega⟩
            · rw [h3, h2, h1]
              exact ((hFR.set (by omega) (by omega)).set (by omega) (by omega)).set (by omega) (by omega)
            · intro j hj hp
              by_cases hjc : j = chd t n m
              · subst hjc
                rw [h3, mset_cell _ (by omega), mset_cell _ (by omega), mset_same, h2, mset_cell _ (by omega), mset_same, h1, mset_same, par_chd hok hnt hmr, plc_chd hok hnt hmr, dep_chd hok hnt hmr]
                exact ⟨rfl, rfl, by omega⟩
              · rw [h3, mset_cell _ (by omega), mset_cell _ (by omega), mset_idx _ _ _ (by omega), h2, mset_cell _ (by omega), mset_idx _ _ _ (by omega), mset_cell _ (by omega), h1, mset_idx _ _ _ (by omega), mset_cell _ (by omega), mset_cell _ (by omega)]
                refine hR j hj ?_
                rcases hp with hp | ⟨hp, hlt⟩
                · exact Or.inl hp
                · refine Or.inr ⟨hp, ?_⟩
                  rcases Nat.lt_or_ge j (chd t n m) with g | g
                  · exact g
                  · exfalso
                    rcases Nat.eq_zero_or_pos j with rfl | hj0
                    · omega
                    · obtain ⟨p, q', a1, a2, a3⟩ := par_ex hok hj hj0
                      rw [a3, par_chd hok (by omega) a2] at hp
                      have : p = n := by omega
                      subst this
                      rw [a3] at hlt g hjc
                      rcases Nat.lt_or_ge q' (m + 1) with g1 | g1
                      · have := chd_mono t p (show q' ≤ m by omega)
                        omega
                      · have := chd_mono t p g1
                        omega
  · have hnp : 0 < n := by omega
    obtain ⟨i, rfl⟩ : ∃ i, n = i + 1 := ⟨n - 1, by omega⟩
    have hit : i < t.length := by omega
    have hok := hw.ok hit
    have e0 : ((i + 1 : Nat) : Int) - 1 = i := by omega
    rw [e0]
    have har := ar_lt hok hit
    have rp := (hcN.2 i hit).2
    have r0 := hcN.1
    have hse := sz_end hit
    unfold wp_X7_settle_17
    refine ⟨fun e q => ∃ m : Nat, q = m ∧ m ≤ ar t i ∧ e = chd t i m, fun _ q => (17 - q).toNat, ⟨0, rfl, by omega, by rw [w32_id (by omega) (by omega), chd_zero]; omega⟩, ?_⟩
    rintro e q ⟨m, rfl, hm, rfl⟩
    unfold wp_X7_settle_17_b
    rw [rp, r0]
    have fin : m = ar t i → wp_X7_settle_50 V k i (chd t i m) N Q (fun z1 N1 => (∃ n : Nat, z1 = (n : Int) - 1 ∧ n ≤ t.length ∧ Fx (k + 3) (k + 3) M N1 ∧ ∀ j : Nat, n ≤ j → j < t.length → N1 (k + 3) j = sz t j) ∧ (z1 + 1).toNat < ((i : Int) + 1).toNat) := by
      rintro rfl
      unfold wp_X7_settle_50
      rw [chd_end hit]
      refine ⟨by omega, ⟨i, by rw [w32_id (by omega) (by omega)]; omega, by omega, hF.set (by omega) (by omega), fun j h1 h2 => ?_⟩, by rw [w32_id (by omega) (by omega)]; omega⟩
      by_cases hj : j = i
      · subst hj
        rw [mset_same, w32_id (by omega) (by omega)]; omega
      · rw [mset_idx _ _ _ (by omega)]
        exact hz j (by omega) h2
    refine ⟨by omega, fun c => fin (by omega), fun c => ⟨fun d => ?_, fun d => ⟨by omega, ?_⟩⟩⟩
    · have := chd_lt hok hit (show m < ar t i by omega)
      omega
    · intro v3 hv3
      have hcl := chd_lt hok hit (show m < ar t i by omega)
      have hgt : i < chd t i m := by unfold chd; omega
      have hsc := sz_end hcl
      rw [hz _ (by omega) hcl, w32_id (by omega) (by omega)] at hv3
      rw [w32_id (by omega) (by omega)]
      exact ⟨⟨m + 1, by omega, by omega, by rw [hv3, chd_succ]; omega⟩, by (try dsimp only); omega⟩
end CTREE
