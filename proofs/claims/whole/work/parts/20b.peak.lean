/-! peak -/
def nmV (l : List Int) (c : Int) : Int := if c ∈ l then 65 + (l.idxOf c : Int) else kap c
theorem t_at {t : T} {k : Nat} (hk : k < t.length) : lb t k = t[k].1 ∧ ar t k = t[k].2 := by
  unfold lb ar
  rw [List.getD_eq_getElem?_getD, List.getElem?_eq_getElem hk]
  exact ⟨rfl, rfl⟩
theorem map_at {t : T} {f : Int × Nat → Int × Nat} {k : Nat} (hk : k < t.length) : lb (t.map f) k = (f (lb t k, ar t k)).1 ∧ ar (t.map f) k = (f (lb t k, ar t k)).2 := by
  have e : (lb t k, ar t k) = t[k] := by rw [(t_at hk).1, (t_at hk).2]
  rw [e]
  unfold lb ar
  rw [List.getD_eq_getElem?_getD, List.getElem?_map, List.getElem?_eq_getElem hk]
  exact ⟨rfl, rfl⟩
theorem lb_mem {t : T} {k : Nat} (hk : k < t.length) : (lb t k, ar t k) ∈ t := mem_lbar hk
section PEAKS
variable {V : VV} {M : Mem} {Q : Int → Mem → Prop} {σ : St}
theorem fo_take {t : T} {k : Nat} (hk : k < t.length) : fo (t.take (k + 1)) = foS (fo (t.take k)) (lb t k, ar t k) := by
  rw [take_succ' hk, fo_snoc]
theorem m_names {u : Int} {t : T} (hu : 0 ≤ u ∧ u ≤ 5) (hm : Mt M 18 (rl kap t)) (h16 : t.length ≤ 16) (hl : LbT t) (hn : LbN t)
    (h0 : 8 < (fo t).length → ∀ M' : Mem, (∀ c j : Int, ¬ (c = 205 ∧ 576 ≤ j) → M' c j = M c j) → Q (-4) M')
    (h1 : (fo t).length ≤ 8 → ∀ M' : Mem, (∀ c j : Int, ¬ (c = 205 ∧ 576 ≤ j) → ¬ (c = 204 ∧ j = u) → ¬ ((c = 205 ∨ c = 206) ∧ 32 * u ≤ j ∧ j < 32 * u + 32) → M' c j = M c j) → Mt M' u (pkT t) → Q t.length M') : wp_X10_peak_76 V u 0 0 M Q := by
  have m0 : M 204 18 = t.length := by rw [hm.1, rl_len]
  have mk : ∀ k : Nat, k < t.length → M 205 (576 + (k : Int)) = kap (lb t k) ∧ M 206 (576 + (k : Int)) = ar t k := fun k hk => by
    have := hm.2 k (by rw [rl_len]; exact hk)
    rw [show (32 * (18 : Int) + (k : Int)) = 576 + (k : Int) by omega] at this
    have e : lb (rl kap t) k = kap (lb t k) ∧ ar (rl kap t) k = ar t k := map_at (f := fun p => (kap p.1, p.2)) hk
    rw [this.1, this.2, e.1, e.2]
    exact ⟨rfl, rfl⟩
  have fl : ∀ k, (fo (t.take k)).length ≤ 16 := fun k => by
    have := fo_len (t.take k) []
    simp only [List.length_nil, List.length_take] at this
    unfold fo
    omega
  have lrange : ∀ k, k < t.length → (lb t k < 0 ∧ -16 ≤ lb t k) ∨ (97 ≤ lb t k ∧ lb t k ≤ 122) := fun k hk => by
    rcases hl _ (lb_mem hk) with g | g
    · exact Or.inl ⟨g, hn _ (lb_mem hk) g⟩
    · exact Or.inr g
  unfold wp_X10_peak_76
  refine ⟨fun y6 y7 N => ∃ k : Nat, y7 = k ∧ k ≤ t.length ∧ y6 = (fo (t.take k)).length ∧ (∀ j : Nat, j < t.length → N 205 (576 + (j : Int)) = nmV (fo (t.take k)) (lb t j)) ∧ (∀ c j : Int, ¬ (c = 205 ∧ 576 ≤ j) → N c j = M c j), fun _ y7 _ => (17 - y7).toNat, ⟨0, rfl, by omega, by simp [fo], fun j hj => ?_, fun _ _ _ => rfl⟩, ?_⟩
  · rw [(mk j hj).1]
    unfold nmV
    rw [if_neg (by simp [fo])]
  rintro y6 y7 N ⟨k, rfl, hk, rfl, hv, hf⟩
  have n0 : N 204 18 = t.length := by rw [hf _ _ (by omega)]; exact m0
  have flk := fl k
  unfold wp_X10_peak_76_b
  rw [n0]
  refine ⟨by omega, fun g => ?_, fun g => ?_⟩
  · have : k = t.length := by omega
    subst this
    rw [List.take_length] at hv ⊢
    refine ⟨fun g8 => ⟨by omega, ?_⟩, fun g8 => h0 (by omega) N hf⟩
    refine m_copy (i := 0) (n := t.length) (by omega) (by omega) (by omega) (by omega) (fun M12 s12 n12 c12 => ⟨by omega, ?_⟩)
    rw [n12]
    refine h1 (by omega) M12 (fun c j a1 a2 a3 => by rw [s12 c j a2 a3]; exact hf c j a1) ⟨by rw [n12]; unfold pkT; simp, fun j hj => ?_⟩
    have hj' : j < t.length := by unfold pkT at hj; simpa using hj
    obtain ⟨c1, c2⟩ := c12 j hj'
    rw [c1, c2, show (32 * (18 : Int) + ((0 : Nat) : Int) + (j : Int)) = 576 + (j : Int) by omega, hv j hj', hf _ _ (by omega), (mk j hj').2]
    have pk : lb (pkT t) j = (if lb t j < 0 then (65 + ((fo t).idxOf (lb t j) : Int), ar t j) else (lb t j, ar t j)).1 ∧ ar (pkT t) j = (if lb t j < 0 then (65 + ((fo t).idxOf (lb t j) : Int), ar t j) else (lb t j, ar t j)).2 := map_at hj'
    rw [pk.1, pk.2]
    unfold nmV
    by_cases hneg : lb t j < 0
    · rw [if_pos hneg, if_pos (fo_all t _ (lb_mem hj') hneg)]
      exact ⟨rfl, rfl⟩
    · rw [if_neg hneg, if_neg (fun z => hneg (fo_neg z))]
      unfold kap
      rw [if_neg hneg]
      exact ⟨rfl, rfl⟩
  · have hkt : k < t.length := by omega
    have rk := lrange k hkt
    rw [w32_id (x := 576 + (k : Int)) (by omega) (by omega)]
    refine ⟨by omega, fun v13 h13 => ?_⟩
    rw [hv k hkt] at h13
    have ek : w32 ((k : Int) + 1) = ((k + 1 : Nat) : Int) := by rw [w32_id (by omega) (by omega)]; omega
    refine ⟨fun g1 => ?_, fun g1 => ?_⟩
    · rw [ek]
      clear ek
      have same : fo (t.take (k + 1)) = fo (t.take k) := by
        rw [fo_take hkt]
        unfold foS
        rw [if_neg (fun z => ?_)]
        have z1 : lb t k < 0 := z.1
        rw [h13] at g1
        unfold nmV at g1
        rw [if_neg z.2] at g1
        unfold kap at g1
        rw [if_pos z1] at g1
        omega
      exact ⟨⟨k + 1, rfl, by omega, by rw [same], by rw [same]; exact hv, hf⟩, by (try dsimp only); omega⟩
    · have new : lb t k < 0 ∧ lb t k ∉ fo (t.take k) := by
        rw [h13] at g1
        unfold nmV at g1
        by_cases hin : lb t k ∈ fo (t.take k)
        · rw [if_pos hin] at g1
          have := List.idxOf_lt_length_of_mem hin
          omega
        · rw [if_neg hin] at g1
          refine ⟨?_, hin⟩
          by_cases hneg : lb t k < 0
          · exact hneg
          · unfold kap at g1
            rw [if_neg hneg] at g1
            omega
      have ev13 : v13 = 999 - lb t k := by
        rw [h13]; unfold nmV kap; rw [if_neg new.2, if_pos new.1]
      have fo1 : fo (t.take (k + 1)) = fo (t.take k) ++ [lb t k] := by
        rw [fo_take hkt]
        unfold foS
        rw [if_pos new]
      /- how a name changes -/
      have chg : ∀ j, j < t.length → nmV (fo (t.take (k + 1))) (lb t j) = if lb t j = lb t k then 65 + ((fo (t.take k)).length : Int) else nmV (fo (t.take k)) (lb t j) := fun j hj => by
        rw [fo1]
        unfold nmV
        by_cases e : lb t j = lb t k
        · rw [if_pos e, e, if_pos (by simp), List.idxOf_append, if_neg new.2]
          simp
        · rw [if_neg e]
          by_cases hin : lb t j ∈ fo (t.take k)
          · rw [if_pos (by simp [hin]), if_pos hin, List.idxOf_append, if_pos hin]
          · rw [if_neg (by simp [hin, e]), if_neg hin]
      have iff : ∀ j, j < t.length → (nmV (fo (t.take k)) (lb t j) = v13 ↔ lb t j = lb t k) := fun j hj => by
        rw [ev13]
        unfold nmV
        rcases lrange j hj with r | r
        · by_cases hin : lb t j ∈ fo (t.take k)
          · have := List.idxOf_lt_length_of_mem hin
            rw [if_pos hin]
            refine ⟨fun z => by omega, fun z => ?_⟩
            rw [z] at hin; exact absurd hin new.2
          · rw [if_neg hin]
            unfold kap
            rw [if_pos r.1]
            omega
        · rw [if_neg (fun z => by have := fo_neg z; omega)]
          unfold kap
          rw [if_neg (by omega)]
          omega
      have early : ∀ j, j < k → lb t j ≠ lb t k := fun j hj e => by
        have hjl : j < (t.take k).length := by rw [List.length_take]; omega
        have hm : (lb t j, ar t j) ∈ t.take k := by
          have := mem_lbar (l := t.take k) (p := j) hjl
          rw [(t_at hjl).1, (t_at hjl).2, List.getElem_take] at this
          rw [(t_at (show j < t.length by omega)).1, (t_at (show j < t.length by omega)).2]
          exact this
        have := fo_all (t.take k) _ hm (by show lb t j < 0; rw [e]; exact new.1)
        rw [show ((lb t j, ar t j) : Int × Nat).1 = lb t k from e] at this
        exact new.2 this
      unfold wp_X10_peak_113
      refine ⟨fun y9 N1 => ∃ m : Nat, y9 = m ∧ k ≤ m ∧ m ≤ t.length ∧ (∀ j : Nat, j < t.length → N1 205 (576 + (j : Int)) = if j < m then nmV (fo (t.take (k + 1))) (lb t j) else nmV (fo (t.take k)) (lb t j)) ∧ (∀ c j : Int, ¬ (c = 205 ∧ 576 ≤ j) → N1 c j = M c j), fun y9 _ => (17 - y9).toNat, ⟨k, rfl, by omega, by omega, fun j hj => ?_, hf⟩, ?_⟩
      · rw [hv j hj]
        by_cases hjk : j < k
        · rw [if_pos hjk, chg j hj, if_neg (early j hjk)]
        · rw [if_neg hjk]
      rintro y9 N1 ⟨m, rfl, hkm, hmt, hv1, hf1⟩
      have n1 : N1 204 18 = t.length := by rw [hf1 _ _ (by omega)]; exact m0
      unfold wp_X10_peak_113_b
      rw [n1]
      refine ⟨by omega, fun g2 => ?_, fun g2 => ?_⟩
      · have : m = t.length := by omega
        subst this
        rw [ek]
        clear ek
        have eh : w32 (((fo (t.take k)).length : Int) + 1) = ((fo (t.take (k + 1))).length : Int) := by
          rw [w32_id (by omega) (by omega), fo1]; simp
        rw [eh]
        clear eh
        refine ⟨⟨k + 1, rfl, by omega, rfl, fun j hj => ?_, hf1⟩, by (try dsimp only); omega⟩
        rw [hv1 j hj, if_pos hj]
      · have hml : m < t.length := by omega
        clear ek
        rw [w32_id (x := 576 + (m : Int)) (by omega) (by omega)]
        have em : w32 ((m : Int) + 1) = ((m + 1 : Nat) : Int) := by rw [w32_id (by omega) (by omega)]; omega
        rw [em]
        clear em
        have vm := hv1 m hml
        rw [if_neg (by omega)] at vm
        have fset : ∀ (w c j : Int), ¬ (c = 205 ∧ 576 ≤ j) → mset N1 205 (576 + (m : Int)) w c j = M c j := fun w c j hc => by
          unfold mset
          rw [if_neg (by omega)]; exact hf1 c j hc
        have oth : ∀ (w : Int) (j : Nat), j ≠ m → mset N1 205 (576 + (m : Int)) w 205 (576 + (j : Int)) = N1 205 (576 + (j : Int)) := fun w j hj => by
          unfold mset
          rw [if_neg (by omega)]
        refine ⟨by omega, fun g3 => ⟨by omega, ⟨m + 1, rfl, by omega, by omega, fun j hj => ?_, fset _⟩, by (try dsimp only); omega⟩, fun g3 => ⟨by omega, by omega, ⟨m + 1, rfl, by omega, by omega, fun j hj => ?_, fset _⟩, by (try dsimp only); omega⟩⟩
        · by_cases ej : j = m
          · subst ej
            rw [mset_same, if_pos (by omega), chg j hj]
            rw [vm, iff j hj] at g3
            rw [if_pos g3, w32_id (by omega) (by omega)]
          · rw [oth _ j ej, hv1 j hj]
            by_cases hjm : j < m
            · rw [if_pos hjm, if_pos (by omega)]
            · rw [if_neg hjm, if_neg (by omega)]
        · by_cases ej : j = m
          · subst ej
            rw [mset_same, if_pos (by omega), chg j hj, vm]
            rw [vm, iff j hj] at g3
            rw [if_neg g3]
          · rw [oth _ j ej, hv1 j hj]
            by_cases hjm : j < m
            · rw [if_pos hjm, if_pos (by omega)]
            · rw [if_neg hjm, if_neg (by omega)]
theorem pk_wd {t : T} (h16 : t.length ≤ 16) (hok : ok 1 t) (hl : LbT t) (hv : V0 t) (h8 : (fo t).length ≤ 8) : Wd (pkT t) := by
  refine ⟨⟨by unfold pkT; simpa using h16, fun _ => (ok_var t _ (fun p => by split <;> rfl) 1).mpr hok⟩, fun p hp => ?_⟩
  unfold pkT at hp
  obtain ⟨q, hq, rfl⟩ := List.mem_map.mp hp
  by_cases hneg : q.1 < 0
  · rw [if_pos hneg]
    have := List.idxOf_lt_length_of_mem (fo_all t q hq hneg)
    exact Or.inr ⟨isH_iff.mpr (by (try dsimp only); omega), hv q hq hneg⟩
  · rw [if_neg hneg]
    rcases hl q hq with g | g
    · exact absurd g hneg
    · exact Or.inl g
theorem op_peak {a b i u : Int} (hR : Rel M) : R_X9_peak V a b i u M (fun r1 M1 => R_X10_peak V a b i u M1 (fun r2 M2 => r1 = r2 ∧ Rel M2)) := by
  obtain ⟨σ, hI, hC, hM⟩ := hR
  have hbar := bar_neg (lf := σ.lf) (nr := σ.nr) (a := a) (b := b) (i := i)
  apply of_X9_peak
  unfold wp_X9_peak
  refine x_refusedO hI hC ⟨fun z => ?_, fun z => ?_⟩
  · apply of_X10_peak
    unfold wp_X10_peak
    exact m_barred hI hM ⟨fun _ => ⟨rfl, σ, hI, hC, hM⟩, fun z' => absurd z z'⟩
  apply x_treeAt
  by_cases hu : 0 ≤ u ∧ u ≤ 5
  rotate_left
  · rw [if_neg hu]
    refine ⟨fun _ => ?_, fun z' => by omega⟩
    apply of_X10_peak
    unfold wp_X10_peak
    refine m_barred hI hM ⟨fun z' => absurd z' z, fun _ => ?_⟩
    apply m_isTree
    rw [if_neg hu]
    exact ⟨fun _ => ⟨rfl, σ, hI, hC, hM⟩, fun z' => absurd rfl z'⟩
  rw [if_pos hu]
  refine ⟨fun z' => by omega, fun _ => ⟨fun z0 => ?_, fun z0 => ?_⟩⟩
  rotate_left
  · apply of_X10_peak
    unfold wp_X10_peak
    refine m_barred hI hM ⟨fun z' => absurd z' z, fun _ => ?_⟩
    apply m_isTree
    rw [if_pos hu]
    exact ⟨fun z' => by omega, fun _ => ⟨fun z' => by omega, fun _ => ⟨rfl, σ, hI, hC, hM⟩⟩⟩
  obtain ⟨ha, hb, n, rfl, hn, hh⟩ := bar_zero z0
  have hr := hI.2.2.2.2.1
  have wa := hr a ha.1 ha.2
  have wb := hr b hb.1 hb.2
  obtain ⟨Z, hZe⟩ : ∃ Z : T4, Z = (σ.lf a, σ.lf b, σ.rt a, σ.rt b) := ⟨_, rfl⟩
  have hZ : Z4 Z := by rw [hZe]; exact ⟨wa.1, wb.1, wa.2.1, wb.2.1⟩
  have z1 : Z.1 = σ.lf a := by rw [hZe]
  have z2 : Z.2.1 = σ.lf b := by rw [hZe]
  have a16 := wa.1.1.1
  /- what the reference does, by what it finds -/
  have ref : ∀ (M1 : Mem) (r : Int), RelM M1 σ → (∀ M2 : Mem, FO M1 M2 → (∀ τ, ¬ Unif τ (sub (varA (σ.lf a)) n) (varB (σ.lf b))) → r = -3 ∧ Rel M2) → (∀ (M2 : Mem) (θ : Int → T), FO M1 M2 → Mgu θ (sub (varA (σ.lf a)) n) (varB (σ.lf b)) → (16 < (app θ (varA (σ.lf a))).length ∨ 8 < (fo (app θ (varA (σ.lf a)))).length) → r = -4 ∧ Rel M2) → (∀ (M2 : Mem) (θ : Int → T), (∀ c j : Int, corM c j ∨ c ≤ 202 → ¬ (c = 204 ∧ j = u) → ¬ ((c = 205 ∨ c = 206) ∧ 32 * u ≤ j ∧ j < 32 * u + 32) → M2 c j = M1 c j) → Mgu θ (sub (varA (σ.lf a)) n) (varB (σ.lf b)) → (app θ (varA (σ.lf a))).length ≤ 16 → (fo (app θ (varA (σ.lf a)))).length ≤ 8 → Mt M2 u (pkT (app θ (varA (σ.lf a)))) → r = (app θ (varA (σ.lf a))).length ∧ Rel M2) → R_X10_peak V a b n u M1 (fun r2 M2 => r = r2 ∧ Rel M2) := by
    intro M1 r hM1 k0 k4 k1
    apply of_X10_peak
    unfold wp_X10_peak
    refine m_barred hI hM1 ⟨fun z' => absurd z' z, fun _ => ?_⟩
    apply m_isTree
    rw [if_pos hu]
    refine ⟨fun z' => by omega, fun _ => ⟨fun _ => ?_, fun z' => by omega⟩⟩
    intro M5 e5 M6 e6
    obtain ⟨f6, md6⟩ := md_start hI hM1 ha hb e5 e6
    refine m_unified hI ha hb hn hh md6 (fun M8 f8 no => ⟨fun _ => k0 M8 (f6.trans f8) no, fun z' => absurd rfl z'⟩) (fun M8 ρ f8 md8 hA hP hmg => ⟨fun z' => by omega, fun _ => ?_⟩)
    rw [← hZe] at md8 hA hmg
    have o0 : nOK Z 0 := ⟨by omega, by
      have : nt Z 0 = σ.lf a := by unfold nt; rw [if_pos (by omega), z1]
      rw [this]; exact List.length_pos_iff.mpr wa.2.2.1⟩
    have U1 : rl kap (tv Z (tp Z (pM M8)) 0) = rl kap (app (tp Z (pM M8)) (varA (σ.lf a))) := by rw [tv_zero hZ (by rw [z1]; exact wa.2.2.1), z1]
    have lt := lbt_app (θ := tp Z (pM M8)) (fun v _ => th_lab hZ v) (lbt_A wa.1)
    have ln := app_neg hZ hA (lbn_A wa.1)
    refine m_spread (q0 := 0) (U := fun q => rl kap (tv Z (tp Z (pM M8)) q)) hZ md8 hA o0 (Or.inl rfl) (fun z => by omega) (by omega) (fun h hh hb => by omega) (laid_all hZ hA) (fun M10 s10 l10 => ⟨fun _ => ?_, fun z => absurd rfl z⟩) (fun M10 s10 l10 t10 => ⟨fun z => by omega, fun _ => ?_⟩)
    · (try dsimp only at l10)
      rw [U1, rl_len] at l10
      exact k4 M10 _ (f6.trans (f8.trans (s10.fm (by omega)).fo)) hmg (Or.inl l10)
    · (try dsimp only at l10 t10)
      rw [U1] at l10 t10
      rw [rl_len] at l10
      have f10 := f6.trans (f8.trans (s10.fm (by omega)).fo)
      refine m_names hu t10 l10 lt ln (fun g8 M12 f12 => k4 M12 _ (f10.trans (fun c j _ _ a3 _ => f12 c j (by omega))) hmg (Or.inr g8)) (fun g8 M12 f12 t12 => k1 M12 _ (fun c j a1 a2 a3 => ?_) hmg l10 g8 t12)
      have a1' : ¬ (c = 205 ∧ 576 ≤ j) ∧ ¬ (c = 203 ∧ (j = 33 ∨ j = 37 ∨ j = 38 ∨ j = 39)) ∧ ¬ (c = 204 ∧ 18 ≤ j) ∧ ¬ ((c = 205 ∨ c = 206) ∧ 576 ≤ j) ∧ ¬ (228 ≤ c ∧ c ≤ 235) := by
        unfold corM at a1
        omega
      rw [f12 c j a1'.1 a2 a3]
      exact f10 c j a1'.2.1 a1'.2.2.1 a1'.2.2.2.1 a1'.2.2.2.2
  refine x_findPeak hI hC ha hb hn hZe (fun M6 f6 no => ⟨fun _ => ?_, fun z' => absurd rfl z'⟩) (fun M6 nn k s ρ t f6 hJ hK hW hall hrk ht okt => ⟨fun l16 => ⟨fun z' => by omega, fun _ => ⟨fun _ => ?_, fun z' => absurd rfl z'⟩⟩, fun l16 c6 n6 => ⟨fun z' => by omega, fun _ => ⟨fun z' => by omega, fun _ => ?_⟩⟩⟩)
  · have hC6 := hC.kd hI (KdF.of f6)
    have hM6 : RelM M6 σ := hM.fr (fun c j hc => f6 c j (by omega) (by omega))
    have none : ∀ τ, ¬ Unif τ (sub (varA (σ.lf a)) n) (varB (σ.lf b)) := fun τ hu' => no τ hu'.1 (by rw [tv_first (by omega), tv_second hZ (by rw [z2]; exact wb.2.2.1), z1, z2]; exact hu'.2)
    exact ref M6 (-3) hM6 (fun M2 f2 _ => ⟨rfl, σ, hI, hC6.fo hI f2, hM6.fo hI f2⟩) (fun M2 θ _ hm _ => absurd hm.1 (none θ)) (fun M2 θ _ hm _ _ _ => absurd hm.1 (none θ))
  all_goals
    have hC6 := hC.kd hI (KdF.of f6)
    have hM6 : RelM M6 σ := hM.fr (fun c j hc => f6 c j (by omega) (by omega))
    have hmg := ji_mgu hZ (by omega) (by rw [z2]; exact wb.2.2.1) hJ hrk
    rw [z1, z2] at hmg
    have lt : LbT t := by rw [ht]; exact lbt_app (fun v _ => th_lab hZ v) (lbt_A wa.1)
    have vt : V0 t := by rw [ht]; exact V0_app hmg.1.1 (V0_varA wa.1)
    have key : ∀ θ, Mgu θ (sub (varA (σ.lf a)) n) (varB (σ.lf b)) → (app θ (varA (σ.lf a))).length = t.length ∧ pkT (app θ (varA (σ.lf a))) = pkT t ∧ (fo (app θ (varA (σ.lf a)))).length = (fo t).length := fun θ hm => by
      obtain ⟨f, f1, f2, f3, f4⟩ := mgu_rl hmg hm
      have e := f4 (varA (σ.lf a))
      rw [← ht] at e
      have lu : LabU (fun c => 0 ≤ c ∨ WV (th Z (jrs k s)) c) t := by rw [ht]; exact app_labU
      obtain ⟨p1, p2⟩ := pkT_rl f1.1 (fun c hc => by
        rcases hc with g | g
        · rw [f2 c g]
        · exact ⟨fun _ => g.1, fun _ => f3 c g⟩) f2 lu
      rw [e, rl_len]
      exact ⟨rfl, p1, p2⟩
  · refine ref M6 (-4) hM6 (fun M2 f2 no => absurd hmg.1 (no _)) (fun M2 θ f2 hm _ => ⟨rfl, σ, hI, hC6.fo hI f2, hM6.fo hI f2⟩) (fun M2 θ f2 hm l _ _ => ?_)
    have := (key θ hm).1
    omega
  · refine x_namePeak (kk := 4) (by omega) c6 n6 lt l16 okt (fun g8 => ⟨fun _ => ?_, fun z' => absurd rfl z'⟩) (fun g8 M8 c8 f8 => ⟨fun z' => by omega, fun _ => ?_⟩)
    · refine ref M6 (-4) hM6 (fun M2 f2 no => absurd hmg.1 (no _)) (fun M2 θ f2 hm _ => ⟨rfl, σ, hI, hC6.fo hI f2, hM6.fo hI f2⟩) (fun M2 θ f2 hm l l8 _ => ?_)
      have := (key θ hm).2.2
      omega
    · have wd := pk_wd l16 okt lt vt g8
      refine x_become hu c8 wd.1.1 (fun M10 c10 k10 f10 => ?_)
      have pl : (pkT t).length = t.length := by unfold pkT; simp
      rw [pl]
      have hM10 : RelM M10 σ := hM6.fr (fun c j hc => by rw [f10 c j (by omega) (by omega), f8 c j (by omega)])
      have hC10 : RelC M10 (trSet σ u (pkT t)) := hC6.tree hI hu c10 k10 (fun c j hc a1 a2 _ _ => by
        unfold cor at hc
        rw [f10 c j a1 a2, f8 c j (by omega)])
      have hI10 := hI.tree u wd
      refine ref M10 _ hM10 (fun M2 f2 no => absurd hmg.1 (no _)) (fun M2 θ f2 hm g => ?_) (fun M2 θ f2 hm _ _ t2 => ?_)
      · obtain ⟨q1, -, q3⟩ := key θ hm
        omega
      · obtain ⟨q1, q2, -⟩ := key θ hm
        rw [q2] at t2
        exact ⟨by rw [q1], trSet σ u (pkT t), hI10, hC10.fr hI10 (fun c j hc => f2 c j (Or.inr hc) (by omega) (by omega)), hM10.tree hI hu t2 (fun c j hc a1 a2 => f2 c j (Or.inl hc) a1 a2)⟩
end PEAKS
