/-! the reference lays a tree out -/
def Sp (x : Int) (M M' : Mem) : Prop := ∀ c j : Int, c ≠ 233 → ¬ (c = 203 ∧ j = 33) → ¬ (c = 204 ∧ j = x) → ¬ ((c = 205 ∨ c = 206) ∧ ((32 * x ≤ j ∧ j < 32 * x + 32) ∨ 640 ≤ j)) → M' c j = M c j
theorem Sp.fm {x : Int} {M M' : Mem} (h : Sp x M M') (hx : 18 ≤ x) : Fm M M' := fun c j a1 a2 a3 a4 => h c j (by omega) a2 (by omega) (by omega)
theorem drop_lbar {t r : T} {m : Nat} {p : Int × Nat} (h : t.drop m = p :: r) : lb t m = p.1 ∧ ar t m = p.2 ∧ m < t.length ∧ t.drop (m + 1) = r := by
  have e : t[m]? = some p := by
    have := congrArg (fun l => l[0]?) h
    simp only [List.getElem?_drop, List.getElem?_cons_zero, Nat.add_zero] at this
    exact this
  obtain ⟨h1, -, h3⟩ := take_snoc h
  refine ⟨?_, ?_, h1, h3⟩
  · unfold lb; rw [List.getD_eq_getElem?_getD, e]; rfl
  · unfold ar; rw [List.getD_eq_getElem?_getD, e]; rfl
theorem rev_range (g : Nat → Nat) (m : Nat) : ((List.range m).map (fun k => g (m - 1 - k))).reverse = (List.range m).map g := by
  apply List.ext_getElem
  · simp
  · intro i h1 h2
    simp only [List.length_reverse, List.length_map, List.length_range] at h1
    rw [List.getElem_reverse]
    simp only [List.getElem_map, List.getElem_range, List.length_map, List.length_range]
    congr 1
    omega
section SPREAD
variable {V : VV} {M : Mem} {Q : Int → Mem → Prop} {Z : T4} {ρ : Nat → Nat}
theorem m_lays {lab : Int} {pr L : Nat} (hL : M 203 33 = L) (h16 : L ≤ 16) (h : ∀ M' : Mem, M' 203 33 = ((L + 1 : Nat) : Int) → (L < 16 → M' 205 (640 + (L : Int)) = lab ∧ M' 206 (640 + (L : Int)) = pr) → (∀ c j : Int, ¬ (c = 203 ∧ j = 33) → ¬ ((c = 205 ∨ c = 206) ∧ j = 640 + (L : Int)) → M' c j = M c j) → Q 0 M') : R_X10_lay V lab pr M Q := by
  apply of_X10_lay
  unfold wp_X10_lay
  rw [hL]
  have ev : w32 ((L : Int) + 1) = ((L + 1 : Nat) : Int) := by rw [w32_id (by omega) (by omega)]; omega
  refine ⟨fun g => ?_, fun g => ?_⟩
  · rw [ev]
    exact h _ (mset_same _ _ _ _) (fun z => by omega) (fun c j a1 _ => by unfold mset; rw [if_neg a1])
  · rw [w32_id (x := 640 + (L : Int)) (by omega) (by omega)]
    refine ⟨by omega, fun M1 e1 => ?_⟩
    have l1 : M1 203 33 = L := by rw [e1, mset_cell _ (by omega), hL]
    rw [l1, w32_id (x := 640 + (L : Int)) (by omega) (by omega)]
    refine ⟨by omega, fun M2 e2 => ?_⟩
    have l2 : M2 203 33 = L := by rw [e2, mset_cell _ (by omega), l1]
    rw [l2, ev]
    refine h _ (mset_same _ _ _ _) (fun _ => ⟨?_, ?_⟩) (fun c j a1 a2 => ?_)
    · rw [mset_cell _ (by omega), e2, mset_cell _ (by omega), e1, mset_same]
    · rw [mset_cell _ (by omega), e2, mset_same]
    · have b1 : ¬ (c = 206 ∧ j = 640 + (L : Int)) := by omega
      have b2 : ¬ (c = 205 ∧ j = 640 + (L : Int)) := by omega
      rw [e2, e1]
      unfold mset
      rw [if_neg a1, if_neg b1, if_neg b2]
theorem m_spread {q0 : Nat} {at' x : Int} {U : Nat → T} (hZ : Z4 Z) (hm : Md Z M) (hA : Ac Z (pM M) ρ) (hq : nOK Z q0) (hx : x = 18 ∨ x = 19) (h48 : 0 ≤ at' → nOK Z 48) (hne : at' ≠ 48) (hP : ∀ h, h < 16 → 0 ≤ pM M h → pM M h ≠ at')
    (hU : ∀ q n, nOK Z q → Fo Z (pM M) (if (q : Int) = at' then 48 else q) n → (hol Z n = true → U q = [(1000 + (nh Z n : Int), 0)]) ∧ (hol Z n = false → U q = (nlb Z n, nar Z n) :: (List.range (nar Z n)).flatMap (fun k => U (nch Z n k))))
    (h0 : ∀ M' : Mem, Sp x M M' → 16 < (U q0).length → Q 0 M')
    (h1 : ∀ M' : Mem, Sp x M M' → (U q0).length ≤ 16 → Mt M' x (U q0) → Q 1 M') : R_X10_spread V q0 at' x M Q := by
  apply of_X10_spread
  unfold wp_X10_spread
  intro M1 e1
  refine ⟨by omega, ?_⟩
  unfold wp_X10_spread_15
  refine ⟨fun y N => ∃ (st : List (Nat × Nat)) (L : Nat), y = st.length ∧ StM N 233 (st.map (fun e => e.1)) ∧ N 203 33 = L ∧ L ≤ 17 ∧ L ≤ (U q0).length ∧ (U q0).drop L = (st.map (fun e => e.1)).reverse.flatMap U ∧ (∀ j : Nat, j < L → j < 16 → N 205 (640 + (j : Int)) = lb (U q0) j ∧ N 206 (640 + (j : Int)) = ar (U q0) j) ∧ (∀ c j : Int, c ≠ 233 → ¬ (c = 203 ∧ j = 33) → ¬ ((c = 205 ∨ c = 206) ∧ 640 ≤ j) → N c j = M c j) ∧ (∀ e ∈ st, nOK Z e.1) ∧ TS (fun q => if q = 64 then (U q0).length + 1 else (U q).length) st ∧ TC Z st, fun _ N => (20 - N 203 33).toNat, ⟨[(q0, 64)], 0, rfl, ?_, ?_, by omega, by omega, by simp, fun j hj => by omega, fun c j a1 a2 a3 => ?_, fun e he => ?_, ⟨by simp, fun e he => ?_⟩, ⟨fun e he => by simp at he; rw [he]; exact Nat.le_refl _, fun y => ?_⟩⟩, ?_⟩
  · exact StM.push (M := M1) (c := 233) (st := []) (fun d e h => by simp at h) q0
  · rw [mset_cell _ (by omega), e1, mset_same]; rfl
  · rw [mset_cell _ a1, e1]; unfold mset; rw [if_neg a2]
  · simp at he; rw [he]; exact hq
  · simp at he; rw [he]
    have := hq.1
    show (if q0 = 64 then (U q0).length + 1 else (U q0).length) < if 64 = 64 then (U q0).length + 1 else (U 64).length
    rw [if_neg (by omega), if_pos rfl]; omega
  · by_cases e : y = 64
    · rw [e]; simp
    · have : ([((q0, 64) : Nat × Nat)].map (fun e => e.2)) = [64] := rfl
      rw [this, List.count_cons_of_ne (by omega)]
      simp
  rintro y N ⟨st, L, rfl, hst, hL, hL17, hLU, hD, hW, hf, hok, hT, hC⟩
  have fin : (16 < L ∨ st = []) → wp_X10_spread_189 V x N Q := by
    intro hor
    unfold wp_X10_spread_189
    rw [hL]
    refine ⟨fun g => ?_, fun g => h0 N (fun c j a1 a2 a3 a4 => hf c j a1 a2 (fun z => a4 ⟨z.1, Or.inr z.2⟩)) (by omega)⟩
    have hs : st = [] := by
      rcases hor with z | z
      · omega
      · exact z
    rw [hs] at hD
    have hD' : (U q0).drop L = [] := hD
    have hlen := congrArg List.length hD'
    rw [List.length_drop, List.length_nil] at hlen
    have eL : L = (U q0).length := by omega
    refine m_copy (i := 0) (n := L) (by omega) (by omega) (by omega) (by omega) (fun M3 s3 n3 c3 => ?_)
    refine h1 M3 (fun c j a1 a2 a3 a4 => ?_) (by omega) ⟨by rw [n3, eL], fun k hk => ?_⟩
    · rw [s3 c j a3 (fun z => a4 ⟨z.1, Or.inl ⟨z.2.1, z.2.2⟩⟩)]
      exact hf c j a1 a2 (fun z => a4 ⟨z.1, Or.inr z.2⟩)
    · obtain ⟨d1, d2⟩ := c3 k (by omega)
      obtain ⟨w1, w2⟩ := hW k (by omega) (by omega)
      rw [d1, d2]
      have ei : (32 * (20 : Int) + ((0 : Nat) : Int) + (k : Int)) = 640 + (k : Int) := by omega
      rw [ei]
      exact ⟨w1, w2⟩
  unfold wp_X10_spread_15_b
  refine ⟨fun z => fin (Or.inr (List.length_eq_zero_iff.mp (by omega))), fun z => ⟨fun g => fin (Or.inl (by omega)), fun g => ?_⟩⟩
  obtain ⟨st', e, rfl⟩ := snoc3 (l := st) (fun q => by rw [q] at z; simp at z)
  have hlen := tc_len hZ hC
  have hl : (st' ++ [e]).length = st'.length + 1 := by simp
  rw [hl] at z hlen ⊢
  rw [List.map_append] at hst hD
  obtain ⟨s1, t1⟩ := StM.pop hst
  rw [List.length_map] at t1
  dsimp only at t1
  have ev : w32 (((st'.length + 1 : Nat) : Int) + (-1)) = st'.length := by rw [w32_id (by omega) (by omega)]; omega
  rw [ev, t1]
  clear ev
  have oe := hok e (by simp)
  have hok' : ∀ a ∈ st', nOK Z a.1 := fun a ha => hok a (by simp [ha])
  have hC' := tc_pop hC
  have hD2 : (U q0).drop L = U e.1 ++ (st'.map (fun e => e.1)).reverse.flatMap U := by
    rw [hD]; simp
  have fmN : Fm M N := fun c j a1 a2 _ a4 => hf c j (by omega) a2 (by omega)
  have mN : Md Z N := hm.fr hZ fmN
  have pN : pM N = pM M := by funext h; exact hf 232 _ (by omega) (by omega) (by omega)
  /- what comes behind the following -/
  have go : ∀ n : Nat, Fo Z (pM M) (if (e.1 : Int) = at' then 48 else e.1) n → R_X10_holeAt V n N (fun r6 M7 => (r6 < 0 → R_X10_labelAt V n M7 (fun r8 M9 => wp_X10_spread_94 V at' x st'.length n r6 r8 M9 Q (fun z4 N1 => (∃ (st : List (Nat × Nat)) (L : Nat), z4 = st.length ∧ StM N1 233 (st.map (fun e => e.1)) ∧ N1 203 33 = L ∧ L ≤ 17 ∧ L ≤ (U q0).length ∧ (U q0).drop L = (st.map (fun e => e.1)).reverse.flatMap U ∧ (∀ j : Nat, j < L → j < 16 → N1 205 (640 + (j : Int)) = lb (U q0) j ∧ N1 206 (640 + (j : Int)) = ar (U q0) j) ∧ (∀ c j : Int, c ≠ 233 → ¬ (c = 203 ∧ j = 33) → ¬ ((c = 205 ∨ c = 206) ∧ 640 ≤ j) → N1 c j = M c j) ∧ (∀ e ∈ st, nOK Z e.1) ∧ TS (fun q => if q = 64 then (U q0).length + 1 else (U q).length) st ∧ TC Z st) ∧ (20 - N1 203 33).toNat < (20 - N 203 33).toNat))) ∧ (¬ (r6 < 0) → wp_X10_spread_94 V at' x st'.length n r6 (w32 (1000 + r6)) M7 Q (fun z4 N1 => (∃ (st : List (Nat × Nat)) (L : Nat), z4 = st.length ∧ StM N1 233 (st.map (fun e => e.1)) ∧ N1 203 33 = L ∧ L ≤ 17 ∧ L ≤ (U q0).length ∧ (U q0).drop L = (st.map (fun e => e.1)).reverse.flatMap U ∧ (∀ j : Nat, j < L → j < 16 → N1 205 (640 + (j : Int)) = lb (U q0) j ∧ N1 206 (640 + (j : Int)) = ar (U q0) j) ∧ (∀ c j : Int, c ≠ 233 → ¬ (c = 203 ∧ j = 33) → ¬ ((c = 205 ∨ c = 206) ∧ 640 ≤ j) → N1 c j = M c j) ∧ (∀ e ∈ st, nOK Z e.1) ∧ TS (fun q => if q = 64 then (U q0).length + 1 else (U q).length) st ∧ TC Z st) ∧ (20 - N1 203 33).toNat < (20 - N 203 33).toNat))) := by
    intro n hF
    obtain ⟨u1, u2⟩ := hU e.1 n oe hF
    have nl := nar_le hZ hF.1.1
    have nne : (n : Int) ≠ at' := by
      rcases hF.2.2.2.2 with q | ⟨h, h1, h2⟩
      · rw [q]
        by_cases ea : (e.1 : Int) = at'
        · rw [if_pos ea]; omega
        · rw [if_neg ea]; exact ea
      · have := hP h h1 (by omega); omega
    have e64 := oe.1
    have n64 := hF.1.1
    /- behind the laying -/
    have tail : ∀ (lab : Int) (pr : Nat) (M13 : Mem), pr = nar Z n → U e.1 = (lab, pr) :: (List.range pr).flatMap (fun k => U (nch Z n k)) → (0 < pr → hol Z n = false) → M13 203 33 = ((L + 1 : Nat) : Int) → (L < 16 → M13 205 (640 + (L : Int)) = lab ∧ M13 206 (640 + (L : Int)) = pr) → (∀ c j : Int, ¬ (c = 203 ∧ j = 33) → ¬ ((c = 205 ∨ c = 206) ∧ j = 640 + (L : Int)) → M13 c j = N c j) → wp_X10_spread_127 V at' x st'.length n pr M13 Q (fun z4 N1 => (∃ (st : List (Nat × Nat)) (L : Nat), z4 = st.length ∧ StM N1 233 (st.map (fun e => e.1)) ∧ N1 203 33 = L ∧ L ≤ 17 ∧ L ≤ (U q0).length ∧ (U q0).drop L = (st.map (fun e => e.1)).reverse.flatMap U ∧ (∀ j : Nat, j < L → j < 16 → N1 205 (640 + (j : Int)) = lb (U q0) j ∧ N1 206 (640 + (j : Int)) = ar (U q0) j) ∧ (∀ c j : Int, c ≠ 233 → ¬ (c = 203 ∧ j = 33) → ¬ ((c = 205 ∨ c = 206) ∧ 640 ≤ j) → N1 c j = M c j) ∧ (∀ e ∈ st, nOK Z e.1) ∧ TS (fun q => if q = 64 then (U q0).length + 1 else (U q).length) st ∧ TC Z st) ∧ (20 - N1 203 33).toNat < (20 - N 203 33).toNat) := by
      intro lab pr M13 hpr hUe hh0 l13 w13 f13
      rw [hUe] at hD2
      obtain ⟨d1, d2, d3, d4⟩ := drop_lbar hD2
      have kids : ∀ k, k < pr → nOK Z (nch Z n k) := fun k hk => (nch_t hZ hF.1 (by omega)).1
      have wx : 0 < pr → (U n).length = (U e.1).length := fun hp => by
        have hh := hh0 hp
        have fo : Fo Z (pM M) (if (n : Int) = at' then 48 else n) n := by
          rw [if_neg nne]
          exact ⟨hF.1, (fun q => by rw [hh] at q; cases q), fun _ _ => rfl, fun _ => rfl, Or.inl rfl⟩
        rw [(hU n n hF.1 fo).2 hh, u2 hh]
      have wk : ∀ k, k < pr → (U (nch Z n k)).length < (U e.1).length := fun k hk => by
        rw [hUe, List.length_cons]
        have gen : ∀ m, k < m → (U (nch Z n k)).length ≤ ((List.range m).flatMap (fun k => U (nch Z n k))).length := by
          intro m
          induction m with
          | zero => intro h; omega
          | succ m ih =>
            intro h
            rw [List.range_succ, List.flatMap_append, List.length_append]
            by_cases ek : k = m
            · subst ek; simp
            · have := ih (by omega); omega
        have := gen pr hk
        omega
      /- the new stack -/
      have newT : TS (fun q => if q = 64 then (U q0).length + 1 else (U q).length) (st' ++ (List.range pr).map (fun k => (nch Z n (pr - 1 - k), n))) ∧ TC Z (st' ++ (List.range pr).map (fun k => (nch Z n (pr - 1 - k), n))) := by
        rcases Nat.eq_zero_or_pos pr with hp | hp
        · rw [hp]
          simp only [List.range_zero, List.map_nil, List.append_nil]
          exact ⟨ts_pop hT, hC'⟩
        · obtain ⟨a1, a2⟩ := ts_push (W := fun q => if q = 64 then (U q0).length + 1 else (U q).length) (st := st') (u := e.1) (z := e.2) (x := n) (n := pr) (c := fun k => nch Z n (pr - 1 - k)) hT (by
            show (if n = 64 then _ else _) = if e.1 = 64 then _ else _
            rw [if_neg (by omega), if_neg (by omega)]; exact wx hp) (fun k hk => by
            have c1 := (kids (pr - 1 - k) (by omega)).1
            show (if nch Z n (pr - 1 - k) = 64 then _ else _) < if n = 64 then _ else _
            rw [if_neg (by omega), if_neg (by omega), wx hp]; exact wk _ (by omega))
          exact ⟨a1, tc_push hC' n64 a2 (by omega)⟩
      have newL := tc_len hZ newT.2
      rw [List.length_append, List.length_map, List.length_range] at newL
      have f13' : ∀ c j : Int, c ≠ 233 → ¬ (c = 203 ∧ j = 33) → ¬ ((c = 205 ∨ c = 206) ∧ 640 ≤ j) → M13 c j = M c j := fun c j a1 a2 a3 => by rw [f13 c j a2 (by omega)]; exact hf c j a1 a2 a3
      unfold wp_X10_spread_127 wp_X10_spread_138
      have ev0 : w32 ((n : Int) + 1) = ((nch Z n 0 : Nat) : Int) := by rw [w32_id (by omega) (by omega), nch_zero]; omega
      rw [ev0]
      clear ev0
      refine ⟨fun y8 y9 N2 => ∃ k : Nat, y9 = k ∧ k ≤ pr ∧ y8 = (nch Z n k : Nat) ∧ StM N2 233 (st'.map (fun e => e.1)) ∧ (∀ j : Nat, j < k → N2 233 ((st'.length + pr - 1 - j : Nat) : Int) = nch Z n j) ∧ (∀ c j : Int, c ≠ 233 → N2 c j = M13 c j), fun _ y9 _ => (pr + 1 - y9).toNat, ⟨0, rfl, by omega, rfl, s1.fr (fun j => f13 233 j (by omega) (by omega)), fun j hj => by omega, fun _ _ _ => rfl⟩, ?_⟩
      rintro y8 y9 N2 ⟨k, rfl, hk, rfl, hs2, hj2, hf2⟩
      unfold wp_X10_spread_138_b
      refine ⟨fun g2 => ?_, fun g2 => ?_⟩
      · have : k = pr := by omega
        subst this
        have l2 : N2 203 33 = ((L + 1 : Nat) : Int) := by rw [hf2 _ _ (by omega)]; exact l13
        have evn : w32 ((st'.length : Int) + (k : Int)) = ((st'.length + k : Nat) : Int) := by rw [w32_id (by omega) (by omega)]; omega
        rw [evn]
        clear evn
        have emap : (st' ++ (List.range k).map (fun j => (nch Z n (k - 1 - j), n))).map (fun e => e.1) = st'.map (fun e => e.1) ++ (List.range k).map (fun j => nch Z n (k - 1 - j)) := by
          rw [List.map_append, List.map_map]; rfl
        refine ⟨⟨st' ++ (List.range k).map (fun j => (nch Z n (k - 1 - j), n)), L + 1, by simp, ?_, l2, by omega, by omega, ?_, fun j hj hj16 => ?_, fun c j a1 a2 a3 => by rw [hf2 c j a1]; exact f13' c j a1 a2 a3, fun a ha => ?_, newT.1, newT.2⟩, ?_⟩
        · rw [emap]
          intro d a hd
          by_cases hdl : d < (st'.map (fun e => e.1)).length
          · rw [List.getElem?_append_left hdl] at hd
            exact hs2 d a hd
          · rw [List.getElem?_append_right (by omega)] at hd
            rw [List.length_map] at hdl hd
            have hdk : d - st'.length < k := by
              rcases Nat.lt_or_ge (d - st'.length) k with q | q
              · exact q
              · rw [List.getElem?_eq_none (by simpa using q)] at hd; cases hd
            rw [List.getElem?_map, List.getElem?_range hdk] at hd
            simp only [Option.map_some, Option.some.injEq] at hd
            have := hj2 (k - 1 - (d - st'.length)) (by omega)
            rw [show st'.length + k - 1 - (k - 1 - (d - st'.length)) = d by omega] at this
            rw [this, hd]
        · rw [d4, emap, List.reverse_append, rev_range, List.flatMap_append]
          congr 1
          rw [List.flatMap_map]
        · by_cases ejl : j = L
          · subst ejl
            obtain ⟨w1, w2⟩ := w13 hj16
            rw [hf2 _ _ (by omega), hf2 _ _ (by omega), d1, d2]
            exact ⟨w1, w2⟩
          · rw [hf2 _ _ (by omega), hf2 _ _ (by omega), f13 _ _ (by omega) (by omega), f13 _ _ (by omega) (by omega)]
            exact hW j (by omega) hj16
        · rcases List.mem_append.mp ha with q | q
          · exact hok' a q
          · obtain ⟨j, hj, rfl⟩ := List.mem_map.mp q
            exact kids _ (by have := List.mem_range.mp hj; omega)
        · rw [l2, hL]; omega
      · have hk' : k < pr := by omega
        have e1' : w32 ((st'.length : Int) + (pr : Int)) = ((st'.length + pr : Nat) : Int) := by rw [w32_id (by omega) (by omega)]; omega
        rw [e1']
        clear e1'
        have e2' : w32 (((st'.length + pr : Nat) : Int) - 1) = ((st'.length + pr - 1 : Nat) : Int) := by rw [w32_id (by omega) (by omega)]; omega
        rw [e2']
        clear e2'
        have e3' : w32 (((st'.length + pr - 1 : Nat) : Int) - (k : Int)) = ((st'.length + pr - 1 - k : Nat) : Int) := by rw [w32_id (by omega) (by omega)]; omega
        rw [e3']
        clear e3'
        refine ⟨by omega, fun M16 h16' => ?_⟩
        have c1 := kids k hk'
        have f16 : ∀ c j : Int, c ≠ 233 → M16 c j = M13 c j := fun c j hc => by rw [h16', mset_cell _ hc, hf2 c j hc]
        have m16 : Md Z M16 := hm.fr hZ (fun c j a1 a2 _ a4 => by rw [f16 c j (by omega)]; exact f13' c j (by omega) a2 (by omega))
        refine m_sizeAt hZ m16 c1 ?_
        have nx := nch_succ hZ hF.1 (show k < nar Z n by omega)
        have cl := c1.1
        have sz1 : nsz Z (nch Z n k) ≤ 16 := by
          have := sz_end c1.2
          have := (hZ.wd (nch Z n k)).1.1
          unfold nsz; omega
        refine ⟨⟨k + 1, by rw [w32_id (by omega) (by omega)]; omega, by omega, by rw [w32_id (by omega) (by omega), nx]; omega, ?_, fun j hj => ?_, f16⟩, by (try dsimp only); rw [w32_id (x := (k : Int) + 1) (by omega) (by omega)]; omega⟩
        · intro d a hd
          have hdl : d < st'.length := by
            rcases Nat.lt_or_ge d st'.length with q | q
            · exact q
            · rw [List.getElem?_eq_none (by simpa using q)] at hd; cases hd
          rw [h16']
          unfold mset
          rw [if_neg (fun q => by omega)]
          exact hs2 d a hd
        · by_cases ej : j = k
          · rw [ej, h16', mset_same]
          · rw [h16']
            unfold mset
            rw [if_neg (fun q => by omega)]
            exact hj2 j (by omega)
    refine m_holeAt hZ mN hF.1 ?_
    cases hh : hol Z n with
    | true =>
      simp only [if_true]
      obtain ⟨-, n0, h16'⟩ := tv_hole (τ := fun v => [(v, 0)]) hZ hF.1 hh
      refine ⟨fun q => by omega, fun _ => ?_⟩
      unfold wp_X10_spread_94 wp_X10_spread_109
      refine ⟨fun q => by omega, fun _ => ?_⟩
      rw [w32_id (x := 1000 + (nh Z n : Int)) (by omega) (by omega)]
      refine m_lays (pr := 0) hL (by omega) (fun M13 l13 w13 f13 => ⟨fun q => by omega, fun _ => ?_⟩)
      exact tail (1000 + (nh Z n : Int)) 0 M13 n0.symm (by rw [u1 hh]; rfl) (fun q => by omega) l13 w13 f13
    | false =>
      simp only [Bool.false_eq_true, if_false]
      refine ⟨fun _ => ?_, fun q => absurd (by decide) q⟩
      refine m_labelAt hZ mN hF.1 ?_
      unfold wp_X10_spread_94 wp_X10_spread_109
      refine ⟨fun _ => ?_, fun q => absurd (by decide) q⟩
      refine m_partsAt hZ mN hF.1 ?_
      refine m_lays (pr := nar Z n) hL (by omega) (fun M13 l13 w13 f13 => ⟨fun _ => ?_, fun q => absurd (by decide) q⟩)
      have m13 : Md Z M13 := mN.fr hZ (fun c j _ a2 _ a4 => f13 c j a2 (by omega))
      refine m_partsAt hZ m13 hF.1 ?_
      exact tail (nlb Z n) (nar Z n) M13 rfl (u2 hh) (fun _ => hh) l13 w13 f13
  refine ⟨by omega, fun q => ?_, fun q => ⟨by omega, ?_⟩⟩
  · unfold wp_X10_spread_55
    have o48 := h48 (by omega)
    refine m_follow (q := 48) hZ mN (by rw [pN]; exact hA) o48 (fun n hF => ?_)
    rw [pN] at hF
    exact go n (by rw [if_pos q]; exact hF)
  · unfold wp_X10_spread_55
    refine m_follow hZ mN (by rw [pN]; exact hA) oe (fun n hF => ?_)
    rw [pN] at hF
    exact go n (by rw [if_neg q]; exact hF)
end SPREAD
