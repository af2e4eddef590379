/-! the reference: of what kind an overlap is -/
def FO (M M' : Mem) : Prop := ∀ c j : Int, ¬ (c = 203 ∧ (j = 33 ∨ j = 37 ∨ j = 38 ∨ j = 39)) → ¬ (c = 204 ∧ 18 ≤ j) → ¬ ((c = 205 ∨ c = 206) ∧ 576 ≤ j) → ¬ (228 ≤ c ∧ c ≤ 235) → M' c j = M c j
theorem FO.rf (M : Mem) : FO M M := fun _ _ _ _ _ _ => rfl
theorem FO.trans {M M' M'' : Mem} (h : FO M M') (h' : FO M' M'') : FO M M'' := fun c j a b d e => by rw [h' c j a b d e, h c j a b d e]
theorem Fm.fo {M M' : Mem} (h : Fm M M') : FO M M' := fun c j a1 a2 a3 a4 => h c j (by omega) (by omega) (by omega) (by omega)
theorem FW.fo {x : Int} {M M' : Mem} (h : FW x M M') (hx : x = 18 ∨ x = 19) : FO M M' := fun c j a1 a2 a3 a4 => h c j (by omega) (by omega) (by omega) (by omega) (by omega)
theorem RelM.fo {M M' : Mem} {σ : St} (hM : RelM M σ) (hI : Inv σ) (h : FO M M') : RelM M' σ := by
  obtain ⟨h1, h2, h3, h4, h5, h6, h7⟩ := hM
  have hn := hI.2.2.2.1
  have mt : ∀ x t, x ≤ 17 → t.length ≤ 16 → Mt M x t → Mt M' x t := fun x t hx h16 hm => ⟨by rw [h _ _ (by omega) (by omega) (by omega) (by omega)]; exact hm.1, fun i hi => by rw [h _ _ (by omega) (by omega) (by omega) (by omega), h _ _ (by omega) (by omega) (by omega) (by omega)]; exact hm.2 i hi⟩
  exact ⟨by rw [h _ _ (by omega) (by omega) (by omega) (by omega)]; exact h1, fun i x hx => by rw [h _ _ (by omega) (by omega) (by omega) (by omega)]; exact h2 i x hx, fun t a b => mt _ _ (by omega) (hI.2.2.1 t a b).1.1 (h3 t a b), by rw [h _ _ (by omega) (by omega) (by omega) (by omega)]; exact h4, fun r a b => ⟨mt _ _ (by omega) (hI.2.2.2.2.1 r a b).1.1.1 (h5 r a b).1, mt _ _ (by omega) (hI.2.2.2.2.1 r a b).2.1.1.1 (h5 r a b).2⟩, fun w a b => by rw [h _ _ (by omega) (by omega) (by omega) (by omega)]; exact h6 w a b, by rw [h _ _ (by omega) (by omega) (by omega) (by omega)]; exact h7⟩
theorem RelC.fo {M M' : Mem} {σ : St} (hC : RelC M σ) (hI : Inv σ) (h : FO M M') : RelC M' σ := hC.fr hI (fun c j _ => h c j (by omega) (by omega) (by omega) (by omega))
section OVERLAPOF
variable {V : VV} {M : Mem} {Q : Int → Mem → Prop} {σ : St}
theorem md_start {a b : Int} (hI : Inv σ) (hM : RelM M σ) (ha : 0 ≤ a ∧ a < σ.nr) (hb : 0 ≤ b ∧ b < σ.nr) {M1 M2 : Mem} (e1 : M1 = mset M 203 38 a) (e2 : M2 = mset M1 203 39 b) : FO M M2 ∧ Md (σ.lf a, σ.lf b, σ.rt a, σ.rt b) M2 := by
  have nr6 := hI.2.2.2.1
  have f2 : FO M M2 := fun c j a1 _ _ _ => by
    rw [e2, e1]
    unfold mset
    rw [if_neg (by omega), if_neg (by omega)]
  have hM2 := hM.fo hI f2
  refine ⟨f2, a, b, ha.1, by omega, hb.1, by omega, ?_, by rw [e2, mset_same], (hM2.2.2.2.2.1 a ha.1 ha.2).1, (hM2.2.2.2.2.1 b hb.1 hb.2).1, (hM2.2.2.2.2.1 a ha.1 ha.2).2, (hM2.2.2.2.2.1 b hb.1 hb.2).2⟩
  rw [e2]
  unfold mset
  rw [if_neg (by omega), e1, mset_same]
/-- the reference's unifying: no way, or a most general one -/
theorem m_unified {a b : Int} {i : Nat} (hI : Inv σ) (ha : 0 ≤ a ∧ a < σ.nr) (hb : 0 ≤ b ∧ b < σ.nr) (hi : i < (σ.lf a).length) (hh : isH (lb (σ.lf a) i) = false) (hm : Md (σ.lf a, σ.lf b, σ.rt a, σ.rt b) M)
    (h0 : ∀ M' : Mem, FO M M' → (∀ τ, ¬ Unif τ (sub (varA (σ.lf a)) i) (varB (σ.lf b))) → Q 0 M')
    (h1 : ∀ (M' : Mem) (ρ : Nat → Nat), FO M M' → Md (σ.lf a, σ.lf b, σ.rt a, σ.rt b) M' → Ac (σ.lf a, σ.lf b, σ.rt a, σ.rt b) (pM M') ρ → (∀ h, h < 16 → 0 ≤ pM M' h → (i : Int) < pM M' h) → Mgu (tp (σ.lf a, σ.lf b, σ.rt a, σ.rt b) (pM M')) (sub (varA (σ.lf a)) i) (varB (σ.lf b)) → Q 1 M') : R_X10_unify V i 16 M Q := by
  obtain ⟨wa1, wa2, wa3, wa4, wa5, -⟩ := hI.2.2.2.2.1 a ha.1 ha.2
  obtain ⟨wb1, wb2, wb3, wb4, wb5, -⟩ := hI.2.2.2.2.1 b hb.1 hb.2
  obtain ⟨Z, hZe⟩ : ∃ Z : T4, Z = (σ.lf a, σ.lf b, σ.rt a, σ.rt b) := ⟨_, rfl⟩
  rw [← hZe] at hm h1
  have hZ : Z4 Z := by rw [hZe]; exact ⟨wa1, wb1, wa2, wb2⟩
  have z1 : Z.1 = σ.lf a := by rw [hZe]
  have z2 : Z.2.1 = σ.lf b := by rw [hZe]
  have a16 := wa1.1.1
  have ti : nt Z i = σ.lf a := by unfold nt; rw [if_pos (by omega), z1]
  have t16 : nt Z 16 = σ.lf b := by unfold nt; rw [if_neg (by omega), if_pos (by omega), z2]
  have oi : nOK Z i := ⟨by omega, by rw [ti, Nat.mod_eq_of_lt (by omega)]; exact hi⟩
  have o16 : nOK Z 16 := ⟨by omega, by rw [t16]; exact List.length_pos_iff.mpr wb3⟩
  have hhi : hol Z i = false := by unfold hol nlb; rw [ti, Nat.mod_eq_of_lt (by omega)]; exact hh
  have hh16 : hol Z 16 = false := by unfold hol nlb; rw [t16]; exact wb5
  have eq : ∀ τ, (tv Z τ i = tv Z τ 16 ↔ app τ (sub (varA (σ.lf a)) i) = app τ (varB (σ.lf b))) := fun τ => by
    rw [tv_first (by omega), tv_second hZ (by rw [z2]; exact wb3), z1, z2]
  refine m_unify hZ hm oi (by omega) o16 hhi hh16 (fun M' f' no => h0 M' (fun c j _ _ _ a4 => f' c j (by omega)) (fun τ hu => no τ hu.1 ((eq τ).mpr hu.2))) (fun M' ρ f' hA hP hE => ?_)
  have ff : Fm M M' := fun c j a1 _ _ _ => f' c j a1
  refine h1 M' ρ ff.fo (hm.fr hZ ff) hA (fun h hh hb => (hP h hh hb).1) ?_
  exact solved_mgu hZ (ac_solved hZ hA) (fun τ ht => by rw [← eq τ, hE τ ht]; exact kp_keeps hZ hA)
theorem m_overlapOf {a b : Int} {i : Nat} (hI : Inv σ) (hM : RelM M σ) (ha : 0 ≤ a ∧ a < σ.nr) (hb : 0 ≤ b ∧ b < σ.nr) (hi : i < (σ.lf a).length) (hh : isH (lb (σ.lf a) i) = false) (h : ∀ M' : Mem, FO M M' → Q (ovK σ.lf σ.rt σ.nr a b i) M') : R_X10_overlapOf V a b i M Q := by
  have nr6 := hI.2.2.2.1
  have hr := hI.2.2.2.2.1
  have wa := hr a ha.1 ha.2
  have wb := hr b hb.1 hb.2
  have a16 := wa.1.1.1
  apply of_X10_overlapOf
  unfold wp_X10_overlapOf
  intro M1 e1 M2 e2
  obtain ⟨f2, md2⟩ := md_start hI hM ha hb e1 e2
  refine m_unified hI ha hb hi hh md2 (fun M4 f4 no => ⟨fun _ => ?_, fun z => absurd rfl z⟩) (fun M4 ρ f4 md4 hA hP hmg => ⟨fun z => by omega, fun _ => ?_⟩)
  · have := ovK_none (lf := σ.lf) (rt := σ.rt) (nr := σ.nr) (a := a) (b := b) (i := i) no
    rw [this] at h
    exact h M4 (f2.trans f4)
  have k4 := f2.trans f4
  have eK := ovK_mgu hr ha hb hi hmg
  rw [eK] at h
  clear eK
  obtain ⟨Z, hZe⟩ : ∃ Z : T4, Z = (σ.lf a, σ.lf b, σ.rt a, σ.rt b) := ⟨_, rfl⟩
  rw [← hZe] at hmg h md4 hA
  have hZ : Z4 Z := by rw [hZe]; exact ⟨wa.1, wb.1, wa.2.1, wb.2.1⟩
  have z1 : Z.1 = σ.lf a := by rw [hZe]
  have z3 : Z.2.2.1 = σ.rt a := by rw [hZe]
  have z4 : Z.2.2.2 = σ.rt b := by rw [hZe]
  have hθ := hmg.1.1
  have hlab : ∀ v : Int, LbT (tp Z (pM M4) v) := fun v => th_lab hZ v
  have o0 : nOK Z 0 := ⟨by omega, by
    have : nt Z 0 = σ.lf a := by unfold nt; rw [if_pos (by omega), z1]
    rw [this]; exact List.length_pos_iff.mpr wa.2.2.1⟩
  have o32 : nOK Z 32 := ⟨by omega, by
    have : nt Z 32 = σ.rt a := by unfold nt; rw [if_neg (by omega), if_neg (by omega), if_pos (by omega), z3]
    rw [this]; exact List.length_pos_iff.mpr wa.2.2.2.1⟩
  have o48 : nOK Z 48 := ⟨by omega, by
    have : nt Z 48 = σ.rt b := by unfold nt; rw [if_neg (by omega), if_neg (by omega), if_neg (by omega), z4]
    rw [this]; exact List.length_pos_iff.mpr wb.2.2.2.1⟩
  have U1 : rl kap (tv Z (tp Z (pM M4)) 0) = rl kap (app (tp Z (pM M4)) (varA (σ.lf a))) := by rw [tv_zero hZ (by rw [z1]; exact wa.2.2.1), z1]
  have U2 : rl kap (tv Z (tp Z (pM M4)) 32) = rl kap (app (tp Z (pM M4)) (varA (σ.rt a))) := by rw [tv_32 hZ (by rw [z3]; exact wa.2.2.2.1), z3]
  have U3 : uR Z (pM M4) i 0 = rl kap (app (tp Z (pM M4)) (repl (varA (σ.lf a)) i (varB (σ.rt b)))) := by rw [uR_top hZ (by rw [z1]; exact hi), z1, z4]
  have lb3 : LbT (repl (varA (σ.lf a)) i (varB (σ.rt b))) ∧ LbN (repl (varA (σ.lf a)) i (varB (σ.rt b))) ∧ V0 (repl (varA (σ.lf a)) i (varB (σ.rt b))) := by
    refine ⟨fun p hp => ?_, fun p hp => ?_, fun p hp => ?_⟩
    all_goals
      unfold repl at hp
      rcases List.mem_append.mp hp with hp | hp
      · rcases List.mem_append.mp hp with hp | hp
        · first | exact lbt_A wa.1 p (List.mem_of_mem_take hp) | exact lbn_A wa.1 p (List.mem_of_mem_take hp) | exact V0_varA wa.1 p (List.mem_of_mem_take hp)
        · first | exact lbt_B wb.2.1 p hp | exact lbn_B wb.2.1 p hp | exact V0_varB wb.2.1 p hp
      · first | exact lbt_A wa.1 p (List.mem_of_mem_drop hp) | exact lbn_A wa.1 p (List.mem_of_mem_drop hp) | exact V0_varA wa.1 p (List.mem_of_mem_drop hp)
  have okRA : ok 1 (app (tp Z (pM M4)) (varA (σ.rt a))) := ok_app_t hθ _ 1 (V0_varA wa.2.1) (ok_varA.mpr (wa.2.1.1.ok (i := 0) (List.length_pos_iff.mpr wa.2.2.2.1)))
  have okRB : ok 1 (app (tp Z (pM M4)) (repl (varA (σ.lf a)) i (varB (σ.rt b)))) := ok_app_t hθ _ 1 lb3.2.2 (ok_repl _ 1 i _ (ok_varA.mpr (wa.1.1.ok (i := 0) (List.length_pos_iff.mpr wa.2.2.1))) (by rw [varA_len]; exact hi) (ok_varB.mpr (wb.2.1.1.ok (i := 0) (List.length_pos_iff.mpr wb.2.2.2.1))))
  have ltA := lbt_app (fun v _ => hlab v) (lbt_A wa.2.1)
  have ltB := lbt_app (fun v _ => hlab v) lb3.1
  have lnA := app_neg hZ hA (lbn_A wa.2.1)
  have lnB := app_neg hZ hA lb3.2.1
  have ne : ∀ {t : T}, ok 1 t → t ≠ [] := fun ho e => by rw [e] at ho; exact absurd ho (by simp [ok])
  obtain ⟨wA, uA⟩ := walkF_rl kap_ok (w := true) hr ltA.V (ne okRA) okRA
  obtain ⟨wB, uB⟩ := walkF_rl kap_ok (w := true) hr ltB.V (ne okRB) okRB
  unfold kindOf at h
  generalize hXA : app (tp Z (pM M4)) (varA (σ.rt a)) = XA at h okRA wA uA U2 ltA lnA
  generalize hXB : app (tp Z (pM M4)) (repl (varA (σ.lf a)) i (varB (σ.rt b))) = XB at h okRB wB uB U3 ltB lnB
  refine m_spread (q0 := 0) (U := fun q => rl kap (tv Z (tp Z (pM M4)) q)) hZ md4 hA o0 (Or.inl rfl) (fun z => by omega) (by omega) (fun h hh hb => by omega) (laid_all hZ hA) (fun M6 s6 l6 => ⟨fun _ => ?_, fun z => absurd rfl z⟩) (fun M6 s6 l6 _ => ⟨fun z => by omega, fun _ => ?_⟩)
  · (try dsimp only at l6)
    rw [U1, rl_len] at l6
    rw [if_pos (Or.inl l6)] at h
    exact h M6 (k4.trans (s6.fm (by omega)).fo)
  have f6 := s6.fm (by omega)
  have md6 := md4.fr hZ f6
  have p6 : pM M6 = pM M4 := by funext x; exact s6 232 x (by omega) (by omega) (by omega) (by omega)
  (try dsimp only at l6)
  rw [U1, rl_len] at l6
  refine m_spread (q0 := 32) (U := fun q => rl kap (tv Z (tp Z (pM M4)) q)) hZ md6 (by rw [p6]; exact hA) o32 (Or.inl rfl) (fun z => by omega) (by omega) (fun h hh hb => by omega) (by rw [p6]; exact laid_all hZ hA) (fun M8 s8 l8 => ⟨fun _ => ?_, fun z => absurd rfl z⟩) (fun M8 s8 l8 t8 => ⟨fun z => by omega, fun _ => ?_⟩)
  · (try dsimp only at l8)
    rw [U2, rl_len] at l8
    rw [if_pos (Or.inr (Or.inl l8))] at h
    exact h M8 (k4.trans (f6.trans (s8.fm (by omega))).fo)
  have f8 := f6.trans (s8.fm (by omega))
  have md8 := md4.fr hZ f8
  have p8 : pM M8 = pM M4 := by rw [← p6]; funext x; exact s8 232 x (by omega) (by omega) (by omega) (by omega)
  (try dsimp only at l8 t8)
  rw [U2] at l8 t8
  refine m_spread (q0 := 0) (U := uR Z (pM M4) i) hZ md8 (by rw [p8]; exact hA) o0 (Or.inr rfl) (fun _ => o48) (by omega) (fun h hh hb => by rw [p8] at hb ⊢; have := hP h hh hb; omega) (by rw [p8]; exact laid_repl hZ hA (by rw [z1]; exact hi) (by rw [z4]; exact wb.2.2.2.1) hP) (fun M10 s10 l10 => ⟨fun _ => ?_, fun z => absurd rfl z⟩) (fun M10 s10 l10 t10 => ⟨fun z => by omega, fun _ => ?_⟩)
  · rw [U3, rl_len] at l10
    rw [if_pos (Or.inr (Or.inr l10))] at h
    exact h M10 (k4.trans (f8.trans (s10.fm (by omega))).fo)
  have f10 := f8.trans (s10.fm (by omega))
  rw [U3] at l10 t10
  have tA : Mt M10 18 (rl kap XA) := by
    refine ⟨by rw [s10 _ _ (by omega) (by omega) (by omega) (by omega)]; exact t8.1, fun k hk => ?_⟩
    rw [s10 _ _ (by omega) (by omega) (by omega) (by omega), s10 _ _ (by omega) (by omega) (by omega) (by omega)]
    exact t8.2 k hk
  have k10 : FO M M10 := k4.trans f10.fo
  have hM10 := hM.fo hI k10
  have wkA : Wk (rl kap XA) := kap_wk ltA lnA okRA (by rw [rl_len] at l8; exact l8)
  have wkB : Wk (rl kap XB) := kap_wk ltB lnB okRB (by rw [rl_len] at l10; exact l10)
  rw [rl_len] at l8 l10
  rw [if_neg (by omega)] at h
  refine m_walkTree (b := true) (by simp) hM10.2.2.2.1 nr6 (by omega) (fun r h1 h2 => ⟨(hM10.2.2.2.2.1 r h1 h2).1, (hM10.2.2.2.2.1 r h1 h2).2, hr r h1 h2⟩) tA wkA (fun M12 t12 _ f12 => ?_)
  have k12 := k10.trans (f12.fo (Or.inl rfl))
  have hM12 := hM.fo hI k12
  have wA' := walk_wk (w := true) hr wkA
  have tB : Mt M12 19 (rl kap XB) := f12.mt (by omega) (by omega) (by rw [rl_len]; exact l10) t10
  rw [wA] at t12 wA' ⊢
  refine m_walkTree (b := true) (by simp) hM12.2.2.2.1 nr6 (by omega) (fun r h1 h2 => ⟨(hM12.2.2.2.2.1 r h1 h2).1, (hM12.2.2.2.2.1 r h1 h2).2, hr r h1 h2⟩) tB wkB (fun M14 t14 _ f14 => ?_)
  have k14 := k12.trans (f14.fo (Or.inr rfl))
  have wB' := walk_wk (w := true) hr wkB
  rw [wB] at t14 wB' ⊢
  simp only at t12 t14 wA' wB'
  refine ⟨fun r11 => ⟨fun r13 => ?_, fun r13 => ?_⟩, fun r11 => ?_⟩
  · simp only at r11 r13
    have tA14 := f14.mt (y := 18) (by omega) (by omega) wA'.1.1 t12
    have lA := List.length_pos_iff.mpr wA'.2.1
    have lB := List.length_pos_iff.mpr wB'.2.1
    refine m_same (i := 0) (k := 0) (by omega) (by omega) tA14 t14 wA'.1 wB'.1 lA lB ?_
    rw [sub_zero (wA'.1.2 wA'.2.1), sub_zero (wB'.1.2 wB'.2.1)]
    by_cases e : rl kap (walkF σ.lf σ.rt σ.nr true XA).2.2 = rl kap (walkF σ.lf σ.rt σ.nr true XB).2.2
    · rw [if_pos e]
      have e' := rl_inj kap_ok uA uB e
      rw [if_pos ⟨r11, r13, e'⟩] at h
      exact ⟨fun z => by omega, fun _ => h M14 k14⟩
    · rw [if_neg e]
      rw [if_neg (fun z => e (by rw [z.2.2]))] at h
      exact ⟨fun _ => h M14 k14, fun z => absurd rfl z⟩
  · rw [if_neg (fun z => r13 z.2.1)] at h
    exact h M14 k14
  · rw [if_neg (fun z => r11 z.1)] at h
    exact h M14 k14
end OVERLAPOF
