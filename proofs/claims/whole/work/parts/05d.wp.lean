-- X9_clear TreeHands.clear()I
def rm_X9_clear : Room := { frames := 0, cells := 0, slots := 0, locals := 0 }
theorem hy_X9_clear : yX9_clear.cls ≠ "java/lang/invoke/MethodHandle" ∧ yX9_clear.cls ≠ "java/lang/invoke/VarHandle" ∧ (parseMethodDescriptor yX9_clear.desc).map (fun d => d.parameters.length) = some 0 := by decide +kernel
abbrev R_X9_clear (V : VV) (M : Mem) (Q : Int → Mem → Prop) : Prop := RunsM V yX9_clear (.code yX9_clear cX9_clear 2 (Option.some Jvm.ClassFile.FieldType.int)) rm_X9_clear 0 [(19, 0)] M Q
def wp_X9_clear (V : VV) (M : Mem) (Q : Int → Mem → Prop) : Prop :=
  ∀ v1 : Int, v1 = M 28 0 →
  ∀ M2 : Mem, M2 = mset M 28 0 0 →
  Q v1 (mset M2 127 0 0)
theorem of_X9_clear {V : VV} {M : Mem} {Q : Int → Mem → Prop} (h : wp_X9_clear V M Q) : R_X9_clear V M Q := by
  refine met_in (own := "TreeHands") (by decide +kernel) rfl rfl (Nat.le_of_ble_eq_true rfl) ?_
  intro X G Z hn hr hv
  subst hv
  unfold wp_X9_clear at h
  show AW X 0 [(19, 0), (99, 0)] [] M
  refine am_aload_n (i := 0) (t := 16) (pc := 0) G dX9_clear_0 rfl rfl rfl ?_
  refine gf_X9_7 (pc := 1) G dX9_clear_1 tw_f_RX9_55 ?_
  refine gf_X6_0 (pc := 4) G dX9_clear_4 tw_f_RX9_192 ?_
  have h := h _ rfl
  refine am_istore_n (pc := 7) G dX9_clear_7 rfl (nlx hn rfl) rfl ?_
  refine am_aload_n (i := 0) (t := 16) (pc := 8) (ls := [(19, _), (0, _)]) G dX9_clear_8 rfl rfl rfl ?_
  refine gf_X9_7 (pc := 9) G dX9_clear_9 tw_f_RX9_55 ?_
  refine am_iconst (pc := 12) G dX9_clear_12 (by decide) ?_
  refine pf_X6_0 (pc := 13) G dX9_clear_13 tw_f_RX9_192 ?_
  refine am_aload_n (i := 0) (t := 16) (pc := 16) G dX9_clear_16 rfl rfl rfl ?_
  refine gf_X9_9 (pc := 17) G dX9_clear_17 tw_f_RX9_73 ?_
  refine am_iconst (pc := 20) G dX9_clear_20 (by decide) ?_
  have h := h _ rfl
  refine pf_X4_0 (pc := 21) G dX9_clear_21 tw_f_RX9_199 rfl rfl ?_
  refine am_iload_n (i := 1) (pc := 24) G dX9_clear_24 rfl rfl ?_
  exact am_iret (pc := 25) G Z dX9_clear_25 h
-- X9_fits TreeHands.fits(II)I
def rm_X9_fits : Room := { frames := 3, cells := 0, slots := 0, locals := 72 }
theorem hy_X9_fits : yX9_fits.cls ≠ "java/lang/invoke/MethodHandle" ∧ yX9_fits.cls ≠ "java/lang/invoke/VarHandle" ∧ (parseMethodDescriptor yX9_fits.desc).map (fun d => d.parameters.length) = some 2 := by decide +kernel
abbrev R_X9_fits (V : VV) (x1 x2 : Int) (M : Mem) (Q : Int → Mem → Prop) : Prop := RunsM V yX9_fits (.code yX9_fits cX9_fits 6 (Option.some Jvm.ClassFile.FieldType.int)) rm_X9_fits 0 [(19, 0), (0, x1), (0, x2)] M Q
def wp_X9_fits_36_b (V : VV) (x2 x3 x4 x5 : Int) (M : Mem) (Q : Int → Mem → Prop) (B36 : Int → Int → Mem → Prop) : Prop :=
  (M 28 0 ≤ x5 →
    Q x4 M) ∧ (¬ (M 28 0 ≤ x5) →
    R_X6_suits V x5 x3 x2 M (fun r7 M8 =>
    (r7 = 0 →
      B36 x4 (w32 (x5 + 1)) M8) ∧ (¬ (r7 = 0) →
      ∀ v9 : Int, v9 = or32 x4 (shl32 1 x5) →
      B36 v9 (w32 (x5 + 1)) M8)))
theorem swp_X9_fits_36_b {X : XX} {Q : Int → Mem → Prop} (G : GX X cX9_fits "TreeHands") (Z : RX X 0 Q) (hn : nLX X = 6) (hr : roomX X = rm_X9_fits) (x2 x3 x4 x5 : Int) (M : Mem) (B36 : Int → Int → Mem → Prop) (k36 : ∀ (z4 z5 : Int) (N : Mem), B36 z4 z5 N → AW X 36 [(19, 0), (99, 0), (0, x2), (17, x3), (0, z4), (0, z5)] [] N) (h : wp_X9_fits_36_b (vX X) x2 x3 x4 x5 M Q B36) : AW X 36 [(19, 0), (99, 0), (0, x2), (17, x3), (0, x4), (0, x5)] [] M := by
  unfold wp_X9_fits_36_b at h
  refine am_iload (pc := 36) G dX9_fits_36 rfl ?_
  refine am_aload_n (i := 0) (t := 16) (pc := 38) G dX9_fits_38 rfl rfl rfl ?_
  refine gf_X9_7 (pc := 39) G dX9_fits_39 tw_f_RX9_55 ?_
  refine gf_X6_0 (pc := 42) G dX9_fits_42 tw_f_RX9_192 ?_
  refine am_icmp_ge (pc := 45) G 77 dX9_fits_45 (by decide) (fun c => ?_) (fun c => ?_)
  · have h := h.1 c
    refine am_iload (pc := 77) G dX9_fits_77 rfl ?_
    exact am_iret (pc := 79) G Z dX9_fits_79 h
  · have h := h.2 c
    refine am_aload_n (i := 0) (t := 16) (pc := 48) G dX9_fits_48 rfl rfl rfl ?_
    refine gf_X9_7 (pc := 49) G dX9_fits_49 tw_f_RX9_55 ?_
    refine am_iload (pc := 52) G dX9_fits_52 rfl ?_
    refine am_aload_n (i := 3) (t := 14) (pc := 54) G dX9_fits_54 rfl rfl rfl ?_
    refine am_iload_n (i := 2) (pc := 55) G dX9_fits_55 rfl rfl ?_
    refine am_callV (rk := 1) (rmc := rm_X6_suits) (st := []) (pc := 56) G 6 [(0, _), (17, _), (0, _)] rfl (by decide) rfl dX9_fits_56 tw_m_RX9_206 tw_i_X6_suits tw_v_X6_suits tw_z_RX6 tw_c_X6_suits hy_X6_suits (callrm hr rfl) rfl (RunsM.mono h (fun r7 M8 h => ?_)) Z.rm
    show AW X 59 _ [(0, _)] M8
    refine am_if_eq (pc := 59) G 71 dX9_fits_59 (by decide) (fun c => ?_) (fun c => ?_)
    · have h := h.1 c
      refine am_iinc (pc := 71) G dX9_fits_71 rfl (nlx hn rfl) rfl ?_
      refine am_goto (pc := 74) (ls := [(19, _), (99, _), (0, _), (17, _), (0, _), (0, _)]) G 36 dX9_fits_74 (by decide) ?_
      refine am_le (ls' := [(19, _), (99, 0), (0, _), (17, _), (0, _), (0, _)]) ⟨Or.inr rfl, ⟨Or.inl rfl, ⟨Or.inr rfl, ⟨Or.inr rfl, ⟨Or.inr rfl, ⟨Or.inr rfl, trivial⟩⟩⟩⟩⟩⟩ ?_
      exact k36 _ _ _ h
    · have h := h.2 c
      refine am_iload (pc := 62) G dX9_fits_62 rfl ?_
      refine am_iconst (pc := 64) G dX9_fits_64 (by decide) ?_
      refine am_iload (pc := 65) G dX9_fits_65 rfl ?_
      refine am_ishl (pc := 67) G dX9_fits_67 ?_
      refine am_ior (pc := 68) G dX9_fits_68 ?_
      have h := h _ rfl
      refine am_istore (pc := 69) G dX9_fits_69 (nlx hn rfl) rfl ?_
      refine am_iinc (pc := 71) (ls := [(19, _), (99, _), (0, _), (17, _), (0, _), (0, _)]) G dX9_fits_71 rfl (nlx hn rfl) rfl ?_
      refine am_goto (pc := 74) (ls := [(19, _), (99, _), (0, _), (17, _), (0, _), (0, _)]) G 36 dX9_fits_74 (by decide) ?_
      refine am_le (ls' := [(19, _), (99, 0), (0, _), (17, _), (0, _), (0, _)]) ⟨Or.inr rfl, ⟨Or.inl rfl, ⟨Or.inr rfl, ⟨Or.inr rfl, ⟨Or.inr rfl, ⟨Or.inr rfl, trivial⟩⟩⟩⟩⟩⟩ ?_
      exact k36 _ _ _ h
def wp_X9_fits_36 (V : VV) (x2 x3 x4 x5 : Int) (M : Mem) (Q : Int → Mem → Prop) : Prop :=
  ∃ (I : Int → Int → Mem → Prop) (μ : Int → Int → Mem → Nat), I x4 x5 M ∧ ∀ (y4 y5 : Int) (N : Mem), I y4 y5 N → wp_X9_fits_36_b V x2 x3 y4 y5 N Q (fun z4 z5 N1 => I z4 z5 N1 ∧ μ z4 z5 N1 < μ y4 y5 N)
theorem swp_X9_fits_36 {X : XX} {Q : Int → Mem → Prop} (G : GX X cX9_fits "TreeHands") (Z : RX X 0 Q) (hn : nLX X = 6) (hr : roomX X = rm_X9_fits) (x2 x3 x4 x5 : Int) (M : Mem) (h : wp_X9_fits_36 (vX X) x2 x3 x4 x5 M Q) : AW X 36 [(19, 0), (99, 0), (0, x2), (17, x3), (0, x4), (0, x5)] [] M := by
  unfold wp_X9_fits_36 at h
  obtain ⟨I, μ, hI, hs⟩ := h
  have key : ∀ (n : Nat) (y4 y5 : Int) (N : Mem), μ y4 y5 N < n → I y4 y5 N → AW X 36 [(19, 0), (99, 0), (0, x2), (17, x3), (0, y4), (0, y5)] [] N := by
    intro n
    induction n with
    | zero => intro y4 y5 N hlt; exact absurd hlt (Nat.not_lt_zero _)
    | succ n ih =>
      intro y4 y5 N hlt hI
      exact swp_X9_fits_36_b G Z hn hr x2 x3 y4 y5 N (fun z4 z5 N1 => I z4 z5 N1 ∧ μ z4 z5 N1 < μ y4 y5 N) (fun z4 z5 N1 hz => ih z4 z5 N1 (by omega) hz.1) (hs y4 y5 N hI)
  exact key _ x4 x5 M (Nat.lt_succ_self _) hI
def wp_X9_fits (V : VV) (x1 x2 : Int) (M : Mem) (Q : Int → Mem → Prop) : Prop :=
  R_X9_treeAt V x1 M (fun r1 M2 =>
  (r1 < 0 →
    Q (-1) M2) ∧ (¬ (r1 < 0) →
    R_X7_has V r1 x2 M2 (fun r3 M4 =>
    (r3 = 0 →
      Q (-1) M4) ∧ (¬ (r3 = 0) →
      R_X7_holeCount V r1 M4 (fun r5 M6 =>
      (r5 ≤ 0 →
        wp_X9_fits_36 V x2 r1 0 0 M6 Q) ∧ (¬ (r5 ≤ 0) →
        Q (-3) M6))))))
theorem of_X9_fits {V : VV} {x1 x2 : Int} {M : Mem} {Q : Int → Mem → Prop} (h : wp_X9_fits V x1 x2 M Q) : R_X9_fits V x1 x2 M Q := by
  refine met_in (own := "TreeHands") (by decide +kernel) rfl rfl (Nat.le_of_ble_eq_true rfl) ?_
  intro X G Z hn hr hv
  subst hv
  unfold wp_X9_fits at h
  show AW X 0 [(19, 0), (0, x1), (0, x2), (99, 0), (99, 0), (99, 0)] [] M
  refine am_aload_n (i := 0) (t := 16) (pc := 0) G dX9_fits_0 rfl rfl rfl ?_
  refine am_iload_n (i := 1) (pc := 1) G dX9_fits_1 rfl rfl ?_
  refine am_callV (rk := 3) (rmc := rm_X9_treeAt) (st := []) (pc := 2) G 9 [(0, _)] rfl (by decide) rfl dX9_fits_2 tw_m_RX9_98 tw_i_X9_treeAt tw_v_X9_treeAt tw_z_RX9 tw_c_X9_treeAt hy_X9_treeAt (callrm hr rfl) rfl (RunsM.mono h (fun r1 M2 h => ?_)) Z.rm
  show AW X 5 _ [(30017, _)] M2
  refine am_astore_n (t := 30014) (pc := 5) G dX9_fits_5 rfl (nlx hn rfl) rfl ?_
  refine am_aload_n (i := 3) (t := 30014) (pc := 6) (ls := [(19, _), (0, _), (0, _), (30017, _), (99, _), (99, _)]) G dX9_fits_6 rfl rfl rfl ?_
  refine am_ifnull (t := 30014) (pc := 7) G 18 dX9_fits_7 (by decide) (fun c => ?_) (fun c => ?_)
  · have h := h.1 c
    refine am_iconst (pc := 18) G dX9_fits_18 (by decide) ?_
    exact am_iret (pc := 19) G Z dX9_fits_19 h
  · have h := h.2 c
    refine am_retag (i := 3) (t := 17) (by decide) (by decide) rfl rfl (by omega) ?_
    show AW X 10 [(19, _), (0, _), (0, _), (17, _), (99, _), (99, _)] _ _
    refine am_aload_n (i := 3) (t := 14) (pc := 10) G dX9_fits_10 rfl rfl rfl ?_
    refine am_iload_n (i := 2) (pc := 11) G dX9_fits_11 rfl rfl ?_
    refine am_callV (rk := 1) (rmc := rm_X7_has) (st := []) (pc := 12) G 7 [(0, _)] rfl (by decide) rfl dX9_fits_12 tw_m_RX9_113 tw_i_X7_has tw_v_X7_has tw_z_RX7 tw_c_X7_has hy_X7_has (callrm hr rfl) rfl (RunsM.mono h (fun r3 M4 h => ?_)) Z.rm
    show AW X 15 _ [(0, _)] M4
    refine am_if_ne (pc := 15) G 20 dX9_fits_15 (by decide) (fun c => ?_) (fun c => ?_)
    · have h := h.2 c
      refine am_aload_n (i := 3) (t := 14) (pc := 20) G dX9_fits_20 rfl rfl rfl ?_
      refine am_callV (rk := 0) (rmc := rm_X7_holeCount) (st := []) (pc := 21) G 7 [] rfl (by decide) rfl dX9_fits_21 tw_m_RX9_182 tw_i_X7_holeCount tw_v_X7_holeCount tw_z_RX7 tw_c_X7_holeCount hy_X7_holeCount (callrm hr rfl) rfl (RunsM.mono h (fun r5 M6 h => ?_)) Z.rm
      show AW X 24 _ [(0, _)] M6
      refine am_if_le (pc := 24) G 30 dX9_fits_24 (by decide) (fun c => ?_) (fun c => ?_)
      · have h := h.1 c
        refine am_iconst (pc := 30) G dX9_fits_30 (by decide) ?_
        refine am_istore (pc := 31) G dX9_fits_31 (nlx hn rfl) rfl ?_
        refine am_iconst (pc := 33) (ls := [(19, _), (0, _), (0, _), (17, _), (0, _), (99, _)]) G dX9_fits_33 (by decide) ?_
        refine am_istore (pc := 34) G dX9_fits_34 (nlx hn rfl) rfl ?_
        refine am_le (ls' := [(19, _), (99, 0), (0, _), (17, _), (0, _), (0, _)]) ⟨Or.inr rfl, ⟨Or.inl rfl, ⟨Or.inr rfl, ⟨Or.inr rfl, ⟨Or.inr rfl, ⟨Or.inr rfl, trivial⟩⟩⟩⟩⟩⟩ ?_
        exact swp_X9_fits_36 G Z hn hr _ _ _ _ _ h
      · have h := h.2 c
        refine am_bipush (pc := 27) G dX9_fits_27 (by decide) (by decide) ?_
        exact am_iret (pc := 29) G Z dX9_fits_29 h
    · have h := h.1 c
      refine am_iconst (pc := 18) G dX9_fits_18 (by decide) ?_
      exact am_iret (pc := 19) G Z dX9_fits_19 h
-- X9_make TreeHands.make(III)I
def rm_X9_make : Room := { frames := 4, cells := 0, slots := 0, locals := 98 }
theorem hy_X9_make : yX9_make.cls ≠ "java/lang/invoke/MethodHandle" ∧ yX9_make.cls ≠ "java/lang/invoke/VarHandle" ∧ (parseMethodDescriptor yX9_make.desc).map (fun d => d.parameters.length) = some 3 := by decide +kernel
abbrev R_X9_make (V : VV) (x1 x2 x3 : Int) (M : Mem) (Q : Int → Mem → Prop) : Prop := RunsM V yX9_make (.code yX9_make cX9_make 6 (Option.some Jvm.ClassFile.FieldType.int)) rm_X9_make 0 [(19, 0), (0, x1), (0, x2), (0, x3)] M Q
def wp_X9_make (V : VV) (x1 x2 x3 : Int) (M : Mem) (Q : Int → Mem → Prop) : Prop :=
  R_X9_treeAt V x1 M (fun r1 M2 =>
  (r1 < 0 →
    Q (-1) M2) ∧ (¬ (r1 < 0) →
    R_X7_has V r1 x2 M2 (fun r3 M4 =>
    (r3 = 0 →
      Q (-1) M4) ∧ (¬ (r3 = 0) →
      R_X6_has V x3 M4 (fun r5 M6 =>
      (r5 = 0 →
        Q (-1) M6) ∧ (¬ (r5 = 0) →
        R_X7_holeCount V r1 M6 (fun r7 M8 =>
        (r7 ≤ 0 →
          R_X7_copyAll V 4 r1 M8 (fun _ M10 =>
          R_X6_rewrite V x3 4 x2 M10 (fun r11 M12 =>
          (0 ≤ r11 →
            (r11 ≤ 16 →
              R_X9_become V x1 4 M12 (fun r13 M14 =>
              Q r13 M14)) ∧ (¬ (r11 ≤ 16) →
              Q (-4) M12)) ∧ (¬ (0 ≤ r11) →
            Q (-5) M12)))) ∧ (¬ (r7 ≤ 0) →
          Q (-3) M8))))))))
theorem of_X9_make {V : VV} {x1 x2 x3 : Int} {M : Mem} {Q : Int → Mem → Prop} (h : wp_X9_make V x1 x2 x3 M Q) : R_X9_make V x1 x2 x3 M Q := by
  refine met_in (own := "TreeHands") (by decide +kernel) rfl rfl (Nat.le_of_ble_eq_true rfl) ?_
  intro X G Z hn hr hv
  subst hv
  unfold wp_X9_make at h
  show AW X 0 [(19, 0), (0, x1), (0, x2), (0, x3), (99, 0), (99, 0)] [] M
  refine am_aload_n (i := 0) (t := 16) (pc := 0) G dX9_make_0 rfl rfl rfl ?_
  refine am_iload_n (i := 1) (pc := 1) G dX9_make_1 rfl rfl ?_
  refine am_callV (rk := 3) (rmc := rm_X9_treeAt) (st := []) (pc := 2) G 9 [(0, _)] rfl (by decide) rfl dX9_make_2 tw_m_RX9_98 tw_i_X9_treeAt tw_v_X9_treeAt tw_z_RX9 tw_c_X9_treeAt hy_X9_treeAt (callrm hr rfl) rfl (RunsM.mono h (fun r1 M2 h => ?_)) Z.rm
  show AW X 5 _ [(30017, _)] M2
  refine am_astore (t := 30014) (pc := 5) G dX9_make_5 (nlx hn rfl) rfl ?_
  refine am_aload (t := 30014) (pc := 7) (ls := [(19, _), (0, _), (0, _), (0, _), (30017, _), (99, _)]) G dX9_make_7 rfl rfl ?_
  refine am_ifnull (t := 30014) (pc := 9) G 32 dX9_make_9 (by decide) (fun c => ?_) (fun c => ?_)
  · have h := h.1 c
    refine am_iconst (pc := 32) G dX9_make_32 (by decide) ?_
    exact am_iret (pc := 33) G Z dX9_make_33 h
  · have h := h.2 c
    refine am_retag (i := 4) (t := 17) (by decide) (by decide) rfl rfl (by omega) ?_
    show AW X 12 [(19, _), (0, _), (0, _), (0, _), (17, _), (99, _)] _ _
    refine am_aload (t := 14) (pc := 12) G dX9_make_12 rfl rfl ?_
    refine am_iload_n (i := 2) (pc := 14) G dX9_make_14 rfl rfl ?_
    refine am_callV (rk := 1) (rmc := rm_X7_has) (st := []) (pc := 15) G 7 [(0, _)] rfl (by decide) rfl dX9_make_15 tw_m_RX9_113 tw_i_X7_has tw_v_X7_has tw_z_RX7 tw_c_X7_has hy_X7_has (callrm hr rfl) rfl (RunsM.mono h (fun r3 M4 h => ?_)) Z.rm
    show AW X 18 _ [(0, _)] M4
    refine am_if_eq (pc := 18) G 32 dX9_make_18 (by decide) (fun c => ?_) (fun c => ?_)
    · have h := h.1 c
      refine am_iconst (pc := 32) G dX9_make_32 (by decide) ?_
      exact am_iret (pc := 33) G Z dX9_make_33 h
    · have h := h.2 c
      refine am_aload_n (i := 0) (t := 16) (pc := 21) G dX9_make_21 rfl rfl rfl ?_
      refine gf_X9_7 (pc := 22) G dX9_make_22 tw_f_RX9_55 ?_
      refine am_iload_n (i := 3) (pc := 25) G dX9_make_25 rfl rfl ?_
      refine am_callV (rk := 1) (rmc := rm_X6_has) (st := []) (pc := 26) G 6 [(0, _)] rfl (by decide) rfl dX9_make_26 tw_m_RX9_209 tw_i_X6_has tw_v_X6_has tw_z_RX6 tw_c_X6_has hy_X6_has (callrm hr rfl) rfl (RunsM.mono h (fun r5 M6 h => ?_)) Z.rm
      show AW X 29 _ [(0, _)] M6
      refine am_if_ne (pc := 29) G 34 dX9_make_29 (by decide) (fun c => ?_) (fun c => ?_)
      · have h := h.2 c
        refine am_aload (t := 14) (pc := 34) G dX9_make_34 rfl rfl ?_
        refine am_callV (rk := 0) (rmc := rm_X7_holeCount) (st := []) (pc := 36) G 7 [] rfl (by decide) rfl dX9_make_36 tw_m_RX9_182 tw_i_X7_holeCount tw_v_X7_holeCount tw_z_RX7 tw_c_X7_holeCount hy_X7_holeCount (callrm hr rfl) rfl (RunsM.mono h (fun r7 M8 h => ?_)) Z.rm
        show AW X 39 _ [(0, _)] M8
        refine am_if_le (pc := 39) G 45 dX9_make_39 (by decide) (fun c => ?_) (fun c => ?_)
        · have h := h.1 c
          refine am_aload_n (i := 0) (t := 16) (pc := 45) G dX9_make_45 rfl rfl rfl ?_
          refine gf_X9_2 (pc := 46) G dX9_make_46 tw_f_RX9_23 ?_
          refine am_aload (t := 14) (pc := 49) G dX9_make_49 rfl rfl ?_
          refine am_callV (rk := 4) (rmc := rm_X7_copyAll) (st := []) (pc := 51) G 7 [(17, _)] rfl (by decide) rfl dX9_make_51 tw_m_RX9_210 tw_i_X7_copyAll tw_v_X7_copyAll tw_z_RX7 tw_c_X7_copyAll hy_X7_copyAll (callrm hr rfl) rfl (RunsM.mono h (fun r9 M10 h => ?_)) Z.rm
          show AW X 54 _ [] M10
          refine am_aload_n (i := 0) (t := 16) (pc := 54) G dX9_make_54 rfl rfl rfl ?_
          refine gf_X9_7 (pc := 55) G dX9_make_55 tw_f_RX9_55 ?_
          refine am_iload_n (i := 3) (pc := 58) G dX9_make_58 rfl rfl ?_
          refine am_aload_n (i := 0) (t := 16) (pc := 59) G dX9_make_59 rfl rfl rfl ?_
          refine gf_X9_2 (pc := 60) G dX9_make_60 tw_f_RX9_23 ?_
          refine am_iload_n (i := 2) (pc := 63) G dX9_make_63 rfl rfl ?_
          refine am_callV (rk := 0) (rmc := rm_X6_rewrite) (st := []) (pc := 64) G 6 [(0, _), (17, _), (0, _)] rfl (by decide) rfl dX9_make_64 tw_m_RX9_213 tw_i_X6_rewrite tw_v_X6_rewrite tw_z_RX6 tw_c_X6_rewrite hy_X6_rewrite (callrm hr rfl) rfl (RunsM.mono h (fun r11 M12 h => ?_)) Z.rm
          show AW X 67 _ [(0, _)] M12
          refine am_istore (pc := 67) G dX9_make_67 (nlx hn rfl) rfl ?_
          refine am_iload (pc := 69) (ls := [(19, _), (0, _), (0, _), (0, _), (17, _), (0, _)]) G dX9_make_69 rfl ?_
          refine am_if_ge (pc := 71) G 77 dX9_make_71 (by decide) (fun c => ?_) (fun c => ?_)
          · have h := h.1 c
            refine am_iload (pc := 77) G dX9_make_77 rfl ?_
            refine am_bipush (pc := 79) G dX9_make_79 (by decide) (by decide) ?_
            refine am_icmp_le (pc := 81) G 89 dX9_make_81 (by decide) (fun c => ?_) (fun c => ?_)
            · have h := h.1 c
              refine am_aload_n (i := 0) (t := 16) (pc := 89) G dX9_make_89 rfl rfl rfl ?_
              refine am_iload_n (i := 1) (pc := 90) G dX9_make_90 rfl rfl ?_
              refine am_aload_n (i := 0) (t := 16) (pc := 91) G dX9_make_91 rfl rfl rfl ?_
              refine gf_X9_2 (pc := 92) G dX9_make_92 tw_f_RX9_23 ?_
              refine am_callV (rk := 0) (rmc := rm_X9_become) (st := []) (pc := 95) G 9 [(0, _), (17, _)] rfl (by decide) rfl dX9_make_95 tw_m_RX9_109 tw_i_X9_become tw_v_X9_become tw_z_RX9 tw_c_X9_become hy_X9_become (callrm hr rfl) rfl (RunsM.mono h (fun r13 M14 h => ?_)) Z.rm
              show AW X 98 _ [(0, _)] M14
              exact am_iret (pc := 98) G Z dX9_make_98 h
            · have h := h.2 c
              refine am_bipush (pc := 84) G dX9_make_84 (by decide) (by decide) ?_
              refine am_goto (pc := 86) G 98 dX9_make_86 (by decide) ?_
              exact am_iret (pc := 98) G Z dX9_make_98 h
          · have h := h.2 c
            refine am_bipush (pc := 74) G dX9_make_74 (by decide) (by decide) ?_
            exact am_iret (pc := 76) G Z dX9_make_76 h
        · have h := h.2 c
          refine am_bipush (pc := 42) G dX9_make_42 (by decide) (by decide) ?_
          exact am_iret (pc := 44) G Z dX9_make_44 h
      · have h := h.1 c
        refine am_iconst (pc := 32) G dX9_make_32 (by decide) ?_
        exact am_iret (pc := 33) G Z dX9_make_33 h
-- X9_walk TreeHands.walk(IZ)I
def rm_X9_walk : Room := { frames := 5, cells := 0, slots := 0, locals := 121 }
theorem hy_X9_walk : yX9_walk.cls ≠ "java/lang/invoke/MethodHandle" ∧ yX9_walk.cls ≠ "java/lang/invoke/VarHandle" ∧ (parseMethodDescriptor yX9_walk.desc).map (fun d => d.parameters.length) = some 2 := by decide +kernel
abbrev R_X9_walk (V : VV) (x1 x2 : Int) (M : Mem) (Q : Int → Mem → Prop) : Prop := RunsM V yX9_walk (.code yX9_walk cX9_walk 5 (Option.some Jvm.ClassFile.FieldType.int)) rm_X9_walk 0 [(19, 0), (0, x1), (0, x2)] M Q
def wp_X9_walk (V : VV) (x1 x2 : Int) (M : Mem) (Q : Int → Mem → Prop) : Prop :=
  R_X9_filledAt V x1 M (fun r1 M2 =>
  (r1 < 0 →
    Q (-1) M2) ∧ (¬ (r1 < 0) →
    R_X7_holeCount V r1 M2 (fun r3 M4 =>
    (r3 ≤ 0 →
      R_X7_copyAll V 4 r1 M4 (fun _ M6 =>
      R_X8_run V 4 x2 M6 (fun r7 M8 =>
      ∀ M9 : Mem, M9 = mset M8 0 10 (M8 123 0) →
      R_X9_become V x1 4 M9 (fun r10 M11 =>
      Q r7 M11)))) ∧ (¬ (r3 ≤ 0) →
      Q (-3) M4))))
theorem of_X9_walk {V : VV} {x1 x2 : Int} {M : Mem} {Q : Int → Mem → Prop} (h : wp_X9_walk V x1 x2 M Q) : R_X9_walk V x1 x2 M Q := by
  refine met_in (own := "TreeHands") (by decide +kernel) rfl rfl (Nat.le_of_ble_eq_true rfl) ?_
  intro X G Z hn hr hv
  subst hv
  unfold wp_X9_walk at h
  show AW X 0 [(19, 0), (0, x1), (0, x2), (99, 0), (99, 0)] [] M
  refine am_aload_n (i := 0) (t := 16) (pc := 0) G dX9_walk_0 rfl rfl rfl ?_
  refine am_iload_n (i := 1) (pc := 1) G dX9_walk_1 rfl rfl ?_
  refine am_callV (rk := 3) (rmc := rm_X9_filledAt) (st := []) (pc := 2) G 9 [(0, _)] rfl (by decide) rfl dX9_walk_2 tw_m_RX9_134 tw_i_X9_filledAt tw_v_X9_filledAt tw_z_RX9 tw_c_X9_filledAt hy_X9_filledAt (callrm hr rfl) rfl (RunsM.mono h (fun r1 M2 h => ?_)) Z.rm
  show AW X 5 _ [(30017, _)] M2
  refine am_astore_n (t := 30014) (pc := 5) G dX9_walk_5 rfl (nlx hn rfl) rfl ?_
  refine am_aload_n (i := 3) (t := 30014) (pc := 6) (ls := [(19, _), (0, _), (0, _), (30017, _), (99, _)]) G dX9_walk_6 rfl rfl rfl ?_
  refine am_ifnonnull (t := 30014) (pc := 7) G 12 dX9_walk_7 (by decide) (fun c => ?_) (fun c => ?_)
  · have h := h.2 c
    refine am_retag (i := 3) (t := 17) (by decide) (by decide) rfl rfl (by omega) ?_
    show AW X 12 [(19, _), (0, _), (0, _), (17, _), (99, _)] _ _
    refine am_aload_n (i := 3) (t := 14) (pc := 12) G dX9_walk_12 rfl rfl rfl ?_
    refine am_callV (rk := 0) (rmc := rm_X7_holeCount) (st := []) (pc := 13) G 7 [] rfl (by decide) rfl dX9_walk_13 tw_m_RX9_182 tw_i_X7_holeCount tw_v_X7_holeCount tw_z_RX7 tw_c_X7_holeCount hy_X7_holeCount (callrm hr rfl) rfl (RunsM.mono h (fun r3 M4 h => ?_)) Z.rm
    show AW X 16 _ [(0, _)] M4
    refine am_if_le (pc := 16) G 22 dX9_walk_16 (by decide) (fun c => ?_) (fun c => ?_)
    · have h := h.1 c
      refine am_aload_n (i := 0) (t := 16) (pc := 22) G dX9_walk_22 rfl rfl rfl ?_
      refine gf_X9_2 (pc := 23) G dX9_walk_23 tw_f_RX9_23 ?_
      refine am_aload_n (i := 3) (t := 14) (pc := 26) G dX9_walk_26 rfl rfl rfl ?_
      refine am_callV (rk := 4) (rmc := rm_X7_copyAll) (st := []) (pc := 27) G 7 [(17, _)] rfl (by decide) rfl dX9_walk_27 tw_m_RX9_210 tw_i_X7_copyAll tw_v_X7_copyAll tw_z_RX7 tw_c_X7_copyAll hy_X7_copyAll (callrm hr rfl) rfl (RunsM.mono h (fun r5 M6 h => ?_)) Z.rm
      show AW X 30 _ [] M6
      refine am_aload_n (i := 0) (t := 16) (pc := 30) G dX9_walk_30 rfl rfl rfl ?_
      refine gf_X9_8 (pc := 31) G dX9_walk_31 tw_f_RX9_64 ?_
      refine am_aload_n (i := 0) (t := 16) (pc := 34) G dX9_walk_34 rfl rfl rfl ?_
      refine gf_X9_2 (pc := 35) G dX9_walk_35 tw_f_RX9_23 ?_
      refine am_iload_n (i := 2) (pc := 38) G dX9_walk_38 rfl rfl ?_
      refine am_callV (rk := 0) (rmc := rm_X8_run) (st := []) (pc := 39) G 8 [(17, _), (0, _)] rfl (by decide) rfl dX9_walk_39 tw_m_RX9_217 tw_i_X8_run tw_v_X8_run tw_z_RX8 tw_c_X8_run hy_X8_run (callrm hr rfl) rfl (RunsM.mono h (fun r7 M8 h => ?_)) Z.rm
      show AW X 42 _ [(0, _)] M8
      refine am_istore (pc := 42) G dX9_walk_42 (nlx hn rfl) rfl ?_
      refine am_aload_n (i := 0) (t := 16) (pc := 44) (ls := [(19, _), (0, _), (0, _), (17, _), (0, _)]) G dX9_walk_44 rfl rfl rfl ?_
      refine am_aload_n (i := 0) (t := 16) (pc := 45) G dX9_walk_45 rfl rfl rfl ?_
      refine gf_X9_8 (pc := 46) G dX9_walk_46 tw_f_RX9_64 ?_
      refine gf_X8_0 (pc := 49) G dX9_walk_49 tw_f_RX9_221 ?_
      refine pf_X9_10 (pc := 52) G dX9_walk_52 tw_f_RX9_77 ?_
      refine am_aload_n (i := 0) (t := 16) (pc := 55) G dX9_walk_55 rfl rfl rfl ?_
      refine am_iload_n (i := 1) (pc := 56) G dX9_walk_56 rfl rfl ?_
      refine am_aload_n (i := 0) (t := 16) (pc := 57) G dX9_walk_57 rfl rfl rfl ?_
      refine gf_X9_2 (pc := 58) G dX9_walk_58 tw_f_RX9_23 ?_
      have h := h _ rfl
      refine am_callV (rk := 0) (rmc := rm_X9_become) (st := []) (pc := 61) G 9 [(0, _), (17, _)] rfl (by decide) rfl dX9_walk_61 tw_m_RX9_109 tw_i_X9_become tw_v_X9_become tw_z_RX9 tw_c_X9_become hy_X9_become (callrm hr rfl) rfl (RunsM.mono h (fun r10 M11 h => ?_)) Z.rm
      show AW X 64 _ [(0, _)] M11
      refine am_pop (pc := 64) G dX9_walk_64 (Nat.ne_of_beq_eq_false rfl) ?_
      refine am_iload (pc := 65) G dX9_walk_65 rfl ?_
      exact am_iret (pc := 67) G Z dX9_walk_67 h
    · have h := h.2 c
      refine am_bipush (pc := 19) G dX9_walk_19 (by decide) (by decide) ?_
      exact am_iret (pc := 21) G Z dX9_walk_21 h
  · have h := h.1 c
    refine am_iconst (pc := 10) G dX9_walk_10 (by decide) ?_
    exact am_iret (pc := 11) G Z dX9_walk_11 h
-- X9_steps TreeHands.steps()I
def rm_X9_steps : Room := { frames := 0, cells := 0, slots := 0, locals := 0 }
theorem hy_X9_steps : yX9_steps.cls ≠ "java/lang/invoke/MethodHandle" ∧ yX9_steps.cls ≠ "java/lang/invoke/VarHandle" ∧ (parseMethodDescriptor yX9_steps.desc).map (fun d => d.parameters.length) = some 0 := by decide +kernel
abbrev R_X9_steps (V : VV) (M : Mem) (Q : Int → Mem → Prop) : Prop := RunsM V yX9_steps (.code yX9_steps cX9_steps 1 (Option.some Jvm.ClassFile.FieldType.int)) rm_X9_steps 0 [(19, 0)] M Q
def wp_X9_steps (V : VV) (M : Mem) (Q : Int → Mem → Prop) : Prop :=
  Q (M 0 10) M
theorem of_X9_steps {V : VV} {M : Mem} {Q : Int → Mem → Prop} (h : wp_X9_steps V M Q) : R_X9_steps V M Q := by
  refine met_in (own := "TreeHands") (by decide +kernel) rfl rfl (Nat.le_of_ble_eq_true rfl) ?_
  intro X G Z hn hr hv
  subst hv
  unfold wp_X9_steps at h
  show AW X 0 [(19, 0)] [] M
  refine am_aload_n (i := 0) (t := 16) (pc := 0) G dX9_steps_0 rfl rfl rfl ?_
  refine gf_X9_10 (pc := 1) G dX9_steps_1 tw_f_RX9_77 ?_
  exact am_iret (pc := 4) G Z dX9_steps_4 h
-- X9_refusedOverlap TreeHands.refusedOverlap(III)I
def rm_X9_refusedOverlap : Room := { frames := 1, cells := 0, slots := 0, locals := 21 }
theorem hy_X9_refusedOverlap : yX9_refusedOverlap.cls ≠ "java/lang/invoke/MethodHandle" ∧ yX9_refusedOverlap.cls ≠ "java/lang/invoke/VarHandle" ∧ (parseMethodDescriptor yX9_refusedOverlap.desc).map (fun d => d.parameters.length) = some 3 := by decide +kernel
abbrev R_X9_refusedOverlap (V : VV) (x1 x2 x3 : Int) (M : Mem) (Q : Int → Mem → Prop) : Prop := RunsM V yX9_refusedOverlap (.code yX9_refusedOverlap cX9_refusedOverlap 5 (Option.some Jvm.ClassFile.FieldType.int)) rm_X9_refusedOverlap 0 [(19, 0), (0, x1), (0, x2), (0, x3)] M Q
def wp_X9_refusedOverlap (V : VV) (x1 x2 x3 : Int) (M : Mem) (Q : Int → Mem → Prop) : Prop :=
  R_X6_has V x1 M (fun r1 M2 =>
  (r1 = 0 →
    Q (-1) M2) ∧ (¬ (r1 = 0) →
    R_X6_has V x2 M2 (fun r3 M4 =>
    (r3 = 0 →
      Q (-1) M4) ∧ (¬ (r3 = 0) →
      ((0 : Int) ≤ x1 ∧ x1 < (6 : Int)) ∧
      R_X7_has V (39 + 14 * x1) x3 M4 (fun r5 M6 =>
      (r5 = 0 →
        Q (-1) M6) ∧ (¬ (r5 = 0) →
        ((0 : Int) ≤ x3 ∧ x3 < (16 : Int)) ∧
        R_X9_isHole V (M6 ((39 + 14 * x1) + 1) x3) M6 (fun r7 M8 =>
        (r7 = 0 →
          (x1 = x2 →
            (x3 = 0 →
              Q (-5) M8) ∧ (¬ (x3 = 0) →
              Q 0 M8)) ∧ (¬ (x1 = x2) →
            Q 0 M8)) ∧ (¬ (r7 = 0) →
          Q (-5) M8))))))))
theorem of_X9_refusedOverlap {V : VV} {x1 x2 x3 : Int} {M : Mem} {Q : Int → Mem → Prop} (h : wp_X9_refusedOverlap V x1 x2 x3 M Q) : R_X9_refusedOverlap V x1 x2 x3 M Q := by
  refine met_in (own := "TreeHands") (by decide +kernel) rfl rfl (Nat.le_of_ble_eq_true rfl) ?_
  intro X G Z hn hr hv
  subst hv
  unfold wp_X9_refusedOverlap at h
  show AW X 0 [(19, 0), (0, x1), (0, x2), (0, x3), (99, 0)] [] M
  refine am_aload_n (i := 0) (t := 16) (pc := 0) G dX9_refusedOverlap_0 rfl rfl rfl ?_
  refine gf_X9_7 (pc := 1) G dX9_refusedOverlap_1 tw_f_RX9_55 ?_
  refine am_iload_n (i := 1) (pc := 4) G dX9_refusedOverlap_4 rfl rfl ?_
  refine am_callV (rk := 1) (rmc := rm_X6_has) (st := []) (pc := 5) G 6 [(0, _)] rfl (by decide) rfl dX9_refusedOverlap_5 tw_m_RX9_209 tw_i_X6_has tw_v_X6_has tw_z_RX6 tw_c_X6_has hy_X6_has (callrm hr rfl) rfl (RunsM.mono h (fun r1 M2 h => ?_)) Z.rm
  show AW X 8 _ [(0, _)] M2
  refine am_if_eq (pc := 8) G 22 dX9_refusedOverlap_8 (by decide) (fun c => ?_) (fun c => ?_)
  · have h := h.1 c
    refine am_iconst (pc := 22) G dX9_refusedOverlap_22 (by decide) ?_
    exact am_iret (pc := 23) G Z dX9_refusedOverlap_23 h
  · have h := h.2 c
    refine am_aload_n (i := 0) (t := 16) (pc := 11) G dX9_refusedOverlap_11 rfl rfl rfl ?_
    refine gf_X9_7 (pc := 12) G dX9_refusedOverlap_12 tw_f_RX9_55 ?_
    refine am_iload_n (i := 2) (pc := 15) G dX9_refusedOverlap_15 rfl rfl ?_
    refine am_callV (rk := 1) (rmc := rm_X6_has) (st := []) (pc := 16) G 6 [(0, _)] rfl (by decide) rfl dX9_refusedOverlap_16 tw_m_RX9_209 tw_i_X6_has tw_v_X6_has tw_z_RX6 tw_c_X6_has hy_X6_has (callrm hr rfl) rfl (RunsM.mono h (fun r3 M4 h => ?_)) Z.rm
    show AW X 19 _ [(0, _)] M4
    refine am_if_ne (pc := 19) G 24 dX9_refusedOverlap_19 (by decide) (fun c => ?_) (fun c => ?_)
    · have h := h.2 c
      refine am_aload_n (i := 0) (t := 16) (pc := 24) G dX9_refusedOverlap_24 rfl rfl rfl ?_
      refine gf_X9_7 (pc := 25) G dX9_refusedOverlap_25 tw_f_RX9_55 ?_
      refine gf_X6_1 (pc := 28) G dX9_refusedOverlap_28 tw_f_RX9_255 ?_
      refine am_iload_n (i := 1) (pc := 31) G dX9_refusedOverlap_31 rfl rfl ?_
      refine am_aald (pc := 32) G 20002 dX9_refusedOverlap_32 (by decide) h.1 ?_
      have h := h.2
      refine am_astore (t := 14) (pc := 33) G dX9_refusedOverlap_33 (nlx hn rfl) rfl ?_
      refine am_aload (t := 14) (pc := 35) (ls := [(19, _), (0, _), (0, _), (0, _), (17, _)]) G dX9_refusedOverlap_35 rfl rfl ?_
      refine am_iload_n (i := 3) (pc := 37) G dX9_refusedOverlap_37 rfl rfl ?_
      refine am_callV (rk := 1) (rmc := rm_X7_has) (st := []) (pc := 38) G 7 [(0, _)] rfl (by decide) rfl dX9_refusedOverlap_38 tw_m_RX9_113 tw_i_X7_has tw_v_X7_has tw_z_RX7 tw_c_X7_has hy_X7_has (callrm hr rfl) rfl (RunsM.mono h (fun r5 M6 h => ?_)) Z.rm
      show AW X 41 _ [(0, _)] M6
      refine am_if_ne (pc := 41) G 46 dX9_refusedOverlap_41 (by decide) (fun c => ?_) (fun c => ?_)
      · have h := h.2 c
        refine am_aload (t := 14) (pc := 46) G dX9_refusedOverlap_46 rfl rfl ?_
        refine gf_X7_1 (pc := 48) G dX9_refusedOverlap_48 tw_f_RX9_116 ?_
        refine am_iload_n (i := 3) (pc := 51) G dX9_refusedOverlap_51 rfl rfl ?_
        refine am_iald (pc := 52) G 16 dX9_refusedOverlap_52 (by decide) h.1 ?_
        have h := h.2
        refine am_callS (rk := 1) (rmc := rm_X9_isHole) (st := []) (pc := 53) G [(0, _)] dX9_refusedOverlap_53 tw_m_RX9_193 tw_s_X9_isHole tw_z_RX9 tw_c_X9_isHole hy_X9_isHole (callrm hr rfl) rfl (RunsM.mono h (fun r7 M8 h => ?_)) Z.rm
        show AW X 56 _ [(0, _)] M8
        refine am_if_ne (pc := 56) G 68 dX9_refusedOverlap_56 (by decide) (fun c => ?_) (fun c => ?_)
        · have h := h.2 c
          refine am_bipush (pc := 68) G dX9_refusedOverlap_68 (by decide) (by decide) ?_
          refine am_goto (pc := 70) G 74 dX9_refusedOverlap_70 (by decide) ?_
          exact am_iret (pc := 74) G Z dX9_refusedOverlap_74 h
        · have h := h.1 c
          refine am_iload_n (i := 1) (pc := 59) G dX9_refusedOverlap_59 rfl rfl ?_
          refine am_iload_n (i := 2) (pc := 60) G dX9_refusedOverlap_60 rfl rfl ?_
          refine am_icmp_ne (pc := 61) G 73 dX9_refusedOverlap_61 (by decide) (fun c => ?_) (fun c => ?_)
          · have h := h.2 c
            refine am_iconst (pc := 73) G dX9_refusedOverlap_73 (by decide) ?_
            exact am_iret (pc := 74) G Z dX9_refusedOverlap_74 h
          · have h := h.1 c
            refine am_iload_n (i := 3) (pc := 64) G dX9_refusedOverlap_64 rfl rfl ?_
            refine am_if_ne (pc := 65) G 73 dX9_refusedOverlap_65 (by decide) (fun c => ?_) (fun c => ?_)
            · have h := h.2 c
              refine am_iconst (pc := 73) G dX9_refusedOverlap_73 (by decide) ?_
              exact am_iret (pc := 74) G Z dX9_refusedOverlap_74 h
            · have h := h.1 c
              refine am_bipush (pc := 68) G dX9_refusedOverlap_68 (by decide) (by decide) ?_
              refine am_goto (pc := 70) G 74 dX9_refusedOverlap_70 (by decide) ?_
              exact am_iret (pc := 74) G Z dX9_refusedOverlap_74 h
      · have h := h.1 c
        refine am_iconst (pc := 44) G dX9_refusedOverlap_44 (by decide) ?_
        exact am_iret (pc := 45) G Z dX9_refusedOverlap_45 h
    · have h := h.1 c
      refine am_iconst (pc := 22) G dX9_refusedOverlap_22 (by decide) ?_
      exact am_iret (pc := 23) G Z dX9_refusedOverlap_23 h
-- X9_overlap TreeHands.overlap(III)I
def rm_X9_overlap : Room := { frames := 6, cells := 0, slots := 0, locals := 147 }
theorem hy_X9_overlap : yX9_overlap.cls ≠ "java/lang/invoke/MethodHandle" ∧ yX9_overlap.cls ≠ "java/lang/invoke/VarHandle" ∧ (parseMethodDescriptor yX9_overlap.desc).map (fun d => d.parameters.length) = some 3 := by decide +kernel
abbrev R_X9_overlap (V : VV) (x1 x2 x3 : Int) (M : Mem) (Q : Int → Mem → Prop) : Prop := RunsM V yX9_overlap (.code yX9_overlap cX9_overlap 5 (Option.some Jvm.ClassFile.FieldType.int)) rm_X9_overlap 0 [(19, 0), (0, x1), (0, x2), (0, x3)] M Q
def wp_X9_overlap (V : VV) (x1 x2 x3 : Int) (M : Mem) (Q : Int → Mem → Prop) : Prop :=
  R_X9_refusedOverlap V x1 x2 x3 M (fun r1 M2 =>
  (r1 = 0 →
    R_X4_kindAt V x1 x2 x3 M2 (fun r3 M4 =>
    Q r3 M4)) ∧ (¬ (r1 = 0) →
    Q r1 M2))
theorem of_X9_overlap {V : VV} {x1 x2 x3 : Int} {M : Mem} {Q : Int → Mem → Prop} (h : wp_X9_overlap V x1 x2 x3 M Q) : R_X9_overlap V x1 x2 x3 M Q := by
  refine met_in (own := "TreeHands") (by decide +kernel) rfl rfl (Nat.le_of_ble_eq_true rfl) ?_
  intro X G Z hn hr hv
  subst hv
  unfold wp_X9_overlap at h
  show AW X 0 [(19, 0), (0, x1), (0, x2), (0, x3), (99, 0)] [] M
  refine am_aload_n (i := 0) (t := 16) (pc := 0) G dX9_overlap_0 rfl rfl rfl ?_
  refine am_iload_n (i := 1) (pc := 1) G dX9_overlap_1 rfl rfl ?_
  refine am_iload_n (i := 2) (pc := 2) G dX9_overlap_2 rfl rfl ?_
  refine am_iload_n (i := 3) (pc := 3) G dX9_overlap_3 rfl rfl ?_
  refine am_callV (rk := 0) (rmc := rm_X9_refusedOverlap) (st := []) (pc := 4) G 9 [(0, _), (0, _), (0, _)] rfl (by decide) rfl dX9_overlap_4 tw_m_RX9_224 tw_i_X9_refusedOverlap tw_v_X9_refusedOverlap tw_z_RX9 tw_c_X9_refusedOverlap hy_X9_refusedOverlap (callrm hr rfl) rfl (RunsM.mono h (fun r1 M2 h => ?_)) Z.rm
  show AW X 7 _ [(0, _)] M2
  refine am_istore (pc := 7) G dX9_overlap_7 (nlx hn rfl) rfl ?_
  refine am_iload (pc := 9) (ls := [(19, _), (0, _), (0, _), (0, _), (0, _)]) G dX9_overlap_9 rfl ?_
  refine am_if_eq (pc := 11) G 19 dX9_overlap_11 (by decide) (fun c => ?_) (fun c => ?_)
  · have h := h.1 c
    refine am_aload_n (i := 0) (t := 16) (pc := 19) G dX9_overlap_19 rfl rfl rfl ?_
    refine gf_X9_9 (pc := 20) G dX9_overlap_20 tw_f_RX9_73 ?_
    refine am_iload_n (i := 1) (pc := 23) G dX9_overlap_23 rfl rfl ?_
    refine am_iload_n (i := 2) (pc := 24) G dX9_overlap_24 rfl rfl ?_
    refine am_iload_n (i := 3) (pc := 25) G dX9_overlap_25 rfl rfl ?_
    refine am_callV (rk := 0) (rmc := rm_X4_kindAt) (st := []) (pc := 26) G 4 [(0, _), (0, _), (0, _)] rfl (by decide) rfl dX9_overlap_26 tw_m_RX9_228 tw_i_X4_kindAt tw_v_X4_kindAt tw_z_RX4 tw_c_X4_kindAt hy_X4_kindAt (callrm hr rfl) rfl (RunsM.mono h (fun r3 M4 h => ?_)) Z.rm
    show AW X 29 _ [(0, _)] M4
    exact am_iret (pc := 29) G Z dX9_overlap_29 h
  · have h := h.2 c
    refine am_iload (pc := 14) G dX9_overlap_14 rfl ?_
    refine am_goto (pc := 16) G 29 dX9_overlap_16 (by decide) ?_
    exact am_iret (pc := 29) G Z dX9_overlap_29 h
-- X9_peak TreeHands.peak(IIII)I
def rm_X9_peak : Room := { frames := 5, cells := 0, slots := 0, locals := 116 }
theorem hy_X9_peak : yX9_peak.cls ≠ "java/lang/invoke/MethodHandle" ∧ yX9_peak.cls ≠ "java/lang/invoke/VarHandle" ∧ (parseMethodDescriptor yX9_peak.desc).map (fun d => d.parameters.length) = some 4 := by decide +kernel
abbrev R_X9_peak (V : VV) (x1 x2 x3 x4 : Int) (M : Mem) (Q : Int → Mem → Prop) : Prop := RunsM V yX9_peak (.code yX9_peak cX9_peak 7 (Option.some Jvm.ClassFile.FieldType.int)) rm_X9_peak 0 [(19, 0), (0, x1), (0, x2), (0, x3), (0, x4)] M Q
def wp_X9_peak (V : VV) (x1 x2 x3 x4 : Int) (M : Mem) (Q : Int → Mem → Prop) : Prop :=
  R_X9_refusedOverlap V x1 x2 x3 M (fun r1 M2 =>
  (r1 = (-1) →
    Q (-1) M2) ∧ (¬ (r1 = (-1)) →
    R_X9_treeAt V x4 M2 (fun r3 M4 =>
    (r3 < 0 →
      Q (-1) M4) ∧ (¬ (r3 < 0) →
      (r1 = 0 →
        R_X4_findPeak V x1 x2 x3 M4 (fun r5 M6 =>
        (r5 = 0 →
          Q (-3) M6) ∧ (¬ (r5 = 0) →
          (r5 = 3 →
            Q (-4) M6) ∧ (¬ (r5 = 3) →
            R_X4_namePeak V 4 M6 (fun r7 M8 =>
            (r7 = 0 →
              Q (-4) M8) ∧ (¬ (r7 = 0) →
              R_X9_become V x4 4 M8 (fun r9 M10 =>
              Q r9 M10))))))) ∧ (¬ (r1 = 0) →
        Q r1 M4)))))
theorem of_X9_peak {V : VV} {x1 x2 x3 x4 : Int} {M : Mem} {Q : Int → Mem → Prop} (h : wp_X9_peak V x1 x2 x3 x4 M Q) : R_X9_peak V x1 x2 x3 x4 M Q := by
  refine met_in (own := "TreeHands") (by decide +kernel) rfl rfl (Nat.le_of_ble_eq_true rfl) ?_
  intro X G Z hn hr hv
  subst hv
  unfold wp_X9_peak at h
  show AW X 0 [(19, 0), (0, x1), (0, x2), (0, x3), (0, x4), (99, 0), (99, 0)] [] M
  refine am_aload_n (i := 0) (t := 16) (pc := 0) G dX9_peak_0 rfl rfl rfl ?_
  refine am_iload_n (i := 1) (pc := 1) G dX9_peak_1 rfl rfl ?_
  refine am_iload_n (i := 2) (pc := 2) G dX9_peak_2 rfl rfl ?_
  refine am_iload_n (i := 3) (pc := 3) G dX9_peak_3 rfl rfl ?_
  refine am_callV (rk := 0) (rmc := rm_X9_refusedOverlap) (st := []) (pc := 4) G 9 [(0, _), (0, _), (0, _)] rfl (by decide) rfl dX9_peak_4 tw_m_RX9_224 tw_i_X9_refusedOverlap tw_v_X9_refusedOverlap tw_z_RX9 tw_c_X9_refusedOverlap hy_X9_refusedOverlap (callrm hr rfl) rfl (RunsM.mono h (fun r1 M2 h => ?_)) Z.rm
  show AW X 7 _ [(0, _)] M2
  refine am_istore (pc := 7) G dX9_peak_7 (nlx hn rfl) rfl ?_
  refine am_iload (pc := 9) (ls := [(19, _), (0, _), (0, _), (0, _), (0, _), (0, _), (99, _)]) G dX9_peak_9 rfl ?_
  refine am_iconst (pc := 11) G dX9_peak_11 (by decide) ?_
  refine am_icmp_eq (pc := 12) G 24 dX9_peak_12 (by decide) (fun c => ?_) (fun c => ?_)
  · have h := h.1 c
    refine am_iconst (pc := 24) G dX9_peak_24 (by decide) ?_
    exact am_iret (pc := 25) G Z dX9_peak_25 h
  · have h := h.2 c
    refine am_aload_n (i := 0) (t := 16) (pc := 15) G dX9_peak_15 rfl rfl rfl ?_
    refine am_iload (pc := 16) G dX9_peak_16 rfl ?_
    refine am_callV (rk := 3) (rmc := rm_X9_treeAt) (st := []) (pc := 18) G 9 [(0, _)] rfl (by decide) rfl dX9_peak_18 tw_m_RX9_98 tw_i_X9_treeAt tw_v_X9_treeAt tw_z_RX9 tw_c_X9_treeAt hy_X9_treeAt (callrm hr rfl) rfl (RunsM.mono h (fun r3 M4 h => ?_)) Z.rm
    show AW X 21 _ [(30017, _)] M4
    refine am_ifnonnull (t := 30014) (pc := 21) G 26 dX9_peak_21 (by decide) (fun c => ?_) (fun c => ?_)
    · have h := h.2 c
      refine am_iload (pc := 26) G dX9_peak_26 rfl ?_
      refine am_if_eq (pc := 28) G 34 dX9_peak_28 (by decide) (fun c => ?_) (fun c => ?_)
      · have h := h.1 c
        refine am_aload_n (i := 0) (t := 16) (pc := 34) G dX9_peak_34 rfl rfl rfl ?_
        refine gf_X9_9 (pc := 35) G dX9_peak_35 tw_f_RX9_73 ?_
        refine am_iload_n (i := 1) (pc := 38) G dX9_peak_38 rfl rfl ?_
        refine am_iload_n (i := 2) (pc := 39) G dX9_peak_39 rfl rfl ?_
        refine am_iload_n (i := 3) (pc := 40) G dX9_peak_40 rfl rfl ?_
        refine am_callV (rk := 0) (rmc := rm_X4_findPeak) (st := []) (pc := 41) G 4 [(0, _), (0, _), (0, _)] rfl (by decide) rfl dX9_peak_41 tw_m_RX9_231 tw_i_X4_findPeak tw_v_X4_findPeak tw_z_RX4 tw_c_X4_findPeak hy_X4_findPeak (callrm hr rfl) rfl (RunsM.mono h (fun r5 M6 h => ?_)) Z.rm
        show AW X 44 _ [(0, _)] M6
        refine am_istore (pc := 44) G dX9_peak_44 (nlx hn rfl) rfl ?_
        refine am_iload (pc := 46) (ls := [(19, _), (0, _), (0, _), (0, _), (0, _), (0, _), (0, _)]) G dX9_peak_46 rfl ?_
        refine am_if_ne (pc := 48) G 54 dX9_peak_48 (by decide) (fun c => ?_) (fun c => ?_)
        · have h := h.2 c
          refine am_iload (pc := 54) G dX9_peak_54 rfl ?_
          refine am_iconst (pc := 56) G dX9_peak_56 (by decide) ?_
          refine am_icmp_eq (pc := 57) G 74 dX9_peak_57 (by decide) (fun c => ?_) (fun c => ?_)
          · have h := h.1 c
            refine am_bipush (pc := 74) G dX9_peak_74 (by decide) (by decide) ?_
            exact am_iret (pc := 76) G Z dX9_peak_76 h
          · have h := h.2 c
            refine am_aload_n (i := 0) (t := 16) (pc := 60) G dX9_peak_60 rfl rfl rfl ?_
            refine gf_X9_9 (pc := 61) G dX9_peak_61 tw_f_RX9_73 ?_
            refine am_aload_n (i := 0) (t := 16) (pc := 64) G dX9_peak_64 rfl rfl rfl ?_
            refine gf_X9_2 (pc := 65) G dX9_peak_65 tw_f_RX9_23 ?_
            refine am_callV (rk := 1) (rmc := rm_X4_namePeak) (st := []) (pc := 68) G 4 [(17, _)] rfl (by decide) rfl dX9_peak_68 tw_m_RX9_234 tw_i_X4_namePeak tw_v_X4_namePeak tw_z_RX4 tw_c_X4_namePeak hy_X4_namePeak (callrm hr rfl) rfl (RunsM.mono h (fun r7 M8 h => ?_)) Z.rm
            show AW X 71 _ [(0, _)] M8
            refine am_if_ne (pc := 71) G 77 dX9_peak_71 (by decide) (fun c => ?_) (fun c => ?_)
            · have h := h.2 c
              refine am_aload_n (i := 0) (t := 16) (pc := 77) G dX9_peak_77 rfl rfl rfl ?_
              refine am_iload (pc := 78) G dX9_peak_78 rfl ?_
              refine am_aload_n (i := 0) (t := 16) (pc := 80) G dX9_peak_80 rfl rfl rfl ?_
              refine gf_X9_2 (pc := 81) G dX9_peak_81 tw_f_RX9_23 ?_
              refine am_callV (rk := 0) (rmc := rm_X9_become) (st := []) (pc := 84) G 9 [(0, _), (17, _)] rfl (by decide) rfl dX9_peak_84 tw_m_RX9_109 tw_i_X9_become tw_v_X9_become tw_z_RX9 tw_c_X9_become hy_X9_become (callrm hr rfl) rfl (RunsM.mono h (fun r9 M10 h => ?_)) Z.rm
              show AW X 87 _ [(0, _)] M10
              exact am_iret (pc := 87) G Z dX9_peak_87 h
            · have h := h.1 c
              refine am_bipush (pc := 74) G dX9_peak_74 (by decide) (by decide) ?_
              exact am_iret (pc := 76) G Z dX9_peak_76 h
        · have h := h.1 c
          refine am_bipush (pc := 51) G dX9_peak_51 (by decide) (by decide) ?_
          exact am_iret (pc := 53) G Z dX9_peak_53 h
      · have h := h.2 c
        refine am_iload (pc := 31) G dX9_peak_31 rfl ?_
        exact am_iret (pc := 33) G Z dX9_peak_33 h
    · have h := h.1 c
      refine am_iconst (pc := 24) G dX9_peak_24 (by decide) ?_
      exact am_iret (pc := 25) G Z dX9_peak_25 h
-- X9_overlaps TreeHands.overlaps(I)I
def rm_X9_overlaps : Room := { frames := 7, cells := 0, slots := 0, locals := 171 }
theorem hy_X9_overlaps : yX9_overlaps.cls ≠ "java/lang/invoke/MethodHandle" ∧ yX9_overlaps.cls ≠ "java/lang/invoke/VarHandle" ∧ (parseMethodDescriptor yX9_overlaps.desc).map (fun d => d.parameters.length) = some 1 := by decide +kernel
abbrev R_X9_overlaps (V : VV) (x1 : Int) (M : Mem) (Q : Int → Mem → Prop) : Prop := RunsM V yX9_overlaps (.code yX9_overlaps cX9_overlaps 2 (Option.some Jvm.ClassFile.FieldType.int)) rm_X9_overlaps 0 [(19, 0), (0, x1)] M Q
def wp_X9_overlaps (V : VV) (x1 : Int) (M : Mem) (Q : Int → Mem → Prop) : Prop :=
  (x1 < 0 →
    Q (-2) M) ∧ (¬ (x1 < 0) →
    (x1 < 4 →
      R_X4_countAll V M (fun _ M2 =>
      ((0 : Int) ≤ x1 ∧ x1 < (4 : Int)) ∧
      Q (M2 128 x1) M2)) ∧ (¬ (x1 < 4) →
      Q (-2) M))
theorem of_X9_overlaps {V : VV} {x1 : Int} {M : Mem} {Q : Int → Mem → Prop} (h : wp_X9_overlaps V x1 M Q) : R_X9_overlaps V x1 M Q := by
  refine met_in (own := "TreeHands") (by decide +kernel) rfl rfl (Nat.le_of_ble_eq_true rfl) ?_
  intro X G Z hn hr hv
  subst hv
  unfold wp_X9_overlaps at h
  show AW X 0 [(19, 0), (0, x1)] [] M
  refine am_iload_n (i := 1) (pc := 0) G dX9_overlaps_0 rfl rfl ?_
  refine am_if_lt (pc := 1) G 16 dX9_overlaps_1 (by decide) (fun c => ?_) (fun c => ?_)
  · have h := h.1 c
    refine am_bipush (pc := 16) G dX9_overlaps_16 (by decide) (by decide) ?_
    exact am_iret (pc := 18) G Z dX9_overlaps_18 h
  · have h := h.2 c
    refine am_iload_n (i := 1) (pc := 4) G dX9_overlaps_4 rfl rfl ?_
    refine am_aload_n (i := 0) (t := 16) (pc := 5) G dX9_overlaps_5 rfl rfl rfl ?_
    refine gf_X9_9 (pc := 6) G dX9_overlaps_6 tw_f_RX9_73 ?_
    refine gf_X4_1 (pc := 9) G dX9_overlaps_9 tw_f_RX9_238 ?_
    refine am_alen (pc := 12) G 4 dX9_overlaps_12 (by decide) ?_
    refine am_icmp_lt (pc := 13) G 19 dX9_overlaps_13 (by decide) (fun c => ?_) (fun c => ?_)
    · have h := h.1 c
      refine am_aload_n (i := 0) (t := 16) (pc := 19) G dX9_overlaps_19 rfl rfl rfl ?_
      refine gf_X9_9 (pc := 20) G dX9_overlaps_20 tw_f_RX9_73 ?_
      refine am_callV (rk := 4) (rmc := rm_X4_countAll) (st := []) (pc := 23) G 4 [] rfl (by decide) rfl dX9_overlaps_23 tw_m_RX9_241 tw_i_X4_countAll tw_v_X4_countAll tw_z_RX4 tw_c_X4_countAll hy_X4_countAll (callrm hr rfl) rfl (RunsM.mono h (fun r1 M2 h => ?_)) Z.rm
      show AW X 26 _ [] M2
      refine am_aload_n (i := 0) (t := 16) (pc := 26) G dX9_overlaps_26 rfl rfl rfl ?_
      refine gf_X9_9 (pc := 27) G dX9_overlaps_27 tw_f_RX9_73 ?_
      refine gf_X4_1 (pc := 30) G dX9_overlaps_30 tw_f_RX9_238 ?_
      refine am_iload_n (i := 1) (pc := 33) G dX9_overlaps_33 rfl rfl ?_
      refine am_iald (pc := 34) G 4 dX9_overlaps_34 (by decide) h.1 ?_
      have h := h.2
      exact am_iret (pc := 35) G Z dX9_overlaps_35 h
    · have h := h.2 c
      refine am_bipush (pc := 16) G dX9_overlaps_16 (by decide) (by decide) ?_
      exact am_iret (pc := 18) G Z dX9_overlaps_18 h
-- X9_told TreeHands.told(I)I
def rm_X9_told : Room := { frames := 3, cells := 0, slots := 0, locals := 62 }
theorem hy_X9_told : yX9_told.cls ≠ "java/lang/invoke/MethodHandle" ∧ yX9_told.cls ≠ "java/lang/invoke/VarHandle" ∧ (parseMethodDescriptor yX9_told.desc).map (fun d => d.parameters.length) = some 1 := by decide +kernel
abbrev R_X9_told (V : VV) (x1 : Int) (M : Mem) (Q : Int → Mem → Prop) : Prop := RunsM V yX9_told (.code yX9_told cX9_told 4 (Option.some Jvm.ClassFile.FieldType.int)) rm_X9_told 0 [(19, 0), (0, x1)] M Q
def wp_X9_told (V : VV) (x1 : Int) (M : Mem) (Q : Int → Mem → Prop) : Prop :=
  (x1 = 0 →
    Q (M 1 0) M) ∧ (¬ (x1 = 0) →
    (x1 = 1 →
      Q (M 28 0) M) ∧ (¬ (x1 = 1) →
      R_X9_treeAt V (w32 (x1 - 10)) M (fun r1 M2 =>
      (r1 < 0 →
        R_X9_treeAt V (w32 (x1 - 20)) M2 (fun r3 M4 =>
        (r3 < 0 →
          Q (-2) M4) ∧ (¬ (r3 < 0) →
          R_X7_holeCount V r3 M4 (fun r5 M6 =>
          Q r5 M6)))) ∧ (¬ (r1 < 0) →
        Q (M2 r1 0) M2))))
theorem of_X9_told {V : VV} {x1 : Int} {M : Mem} {Q : Int → Mem → Prop} (h : wp_X9_told V x1 M Q) : R_X9_told V x1 M Q := by
  refine met_in (own := "TreeHands") (by decide +kernel) rfl rfl (Nat.le_of_ble_eq_true rfl) ?_
  intro X G Z hn hr hv
  subst hv
  unfold wp_X9_told at h
  show AW X 0 [(19, 0), (0, x1), (99, 0), (99, 0)] [] M
  refine am_iload_n (i := 1) (pc := 0) G dX9_told_0 rfl rfl ?_
  refine am_if_ne (pc := 1) G 12 dX9_told_1 (by decide) (fun c => ?_) (fun c => ?_)
  · have h := h.2 c
    refine am_iload_n (i := 1) (pc := 12) G dX9_told_12 rfl rfl ?_
    refine am_iconst (pc := 13) G dX9_told_13 (by decide) ?_
    refine am_icmp_ne (pc := 14) G 25 dX9_told_14 (by decide) (fun c => ?_) (fun c => ?_)
    · have h := h.2 c
      refine am_aload_n (i := 0) (t := 16) (pc := 25) G dX9_told_25 rfl rfl rfl ?_
      refine am_iload_n (i := 1) (pc := 26) G dX9_told_26 rfl rfl ?_
      refine am_bipush (pc := 27) G dX9_told_27 (by decide) (by decide) ?_
      refine am_isub (pc := 29) G dX9_told_29 ?_
      refine am_callV (rk := 3) (rmc := rm_X9_treeAt) (st := []) (pc := 30) G 9 [(0, _)] rfl (by decide) rfl dX9_told_30 tw_m_RX9_98 tw_i_X9_treeAt tw_v_X9_treeAt tw_z_RX9 tw_c_X9_treeAt hy_X9_treeAt (callrm hr rfl) rfl (RunsM.mono h (fun r1 M2 h => ?_)) Z.rm
      show AW X 33 _ [(30017, _)] M2
      refine am_astore_n (t := 30014) (pc := 33) G dX9_told_33 rfl (nlx hn rfl) rfl ?_
      refine am_aload_n (i := 2) (t := 30014) (pc := 34) (ls := [(19, _), (0, _), (30017, _), (99, _)]) G dX9_told_34 rfl rfl rfl ?_
      refine am_ifnull (t := 30014) (pc := 35) G 43 dX9_told_35 (by decide) (fun c => ?_) (fun c => ?_)
      · have h := h.1 c
        refine am_aload_n (i := 0) (t := 16) (pc := 43) G dX9_told_43 rfl rfl rfl ?_
        refine am_iload_n (i := 1) (pc := 44) G dX9_told_44 rfl rfl ?_
        refine am_bipush (pc := 45) G dX9_told_45 (by decide) (by decide) ?_
        refine am_isub (pc := 47) G dX9_told_47 ?_
        refine am_callV (rk := 3) (rmc := rm_X9_treeAt) (st := []) (pc := 48) G 9 [(0, _)] rfl (by decide) rfl dX9_told_48 tw_m_RX9_98 tw_i_X9_treeAt tw_v_X9_treeAt tw_z_RX9 tw_c_X9_treeAt hy_X9_treeAt (callrm hr rfl) rfl (RunsM.mono h (fun r3 M4 h => ?_)) Z.rm
        show AW X 51 _ [(30017, _)] M4
        refine am_astore_n (t := 30014) (pc := 51) G dX9_told_51 rfl (nlx hn rfl) rfl ?_
        refine am_aload_n (i := 3) (t := 30014) (pc := 52) (ls := [(19, _), (0, _), (30017, _), (30017, _)]) G dX9_told_52 rfl rfl rfl ?_
        refine am_ifnull (t := 30014) (pc := 53) G 63 dX9_told_53 (by decide) (fun c => ?_) (fun c => ?_)
        · have h := h.1 c
          refine am_bipush (pc := 63) G dX9_told_63 (by decide) (by decide) ?_
          exact am_iret (pc := 65) G Z dX9_told_65 h
        · have h := h.2 c
          refine am_retag (i := 3) (t := 17) (by decide) (by decide) rfl rfl (by omega) ?_
          show AW X 56 [(19, _), (0, _), (30017, _), (17, _)] _ _
          refine am_aload_n (i := 3) (t := 14) (pc := 56) G dX9_told_56 rfl rfl rfl ?_
          refine am_callV (rk := 0) (rmc := rm_X7_holeCount) (st := []) (pc := 57) G 7 [] rfl (by decide) rfl dX9_told_57 tw_m_RX9_182 tw_i_X7_holeCount tw_v_X7_holeCount tw_z_RX7 tw_c_X7_holeCount hy_X7_holeCount (callrm hr rfl) rfl (RunsM.mono h (fun r5 M6 h => ?_)) Z.rm
          show AW X 60 _ [(0, _)] M6
          refine am_goto (pc := 60) G 65 dX9_told_60 (by decide) ?_
          exact am_iret (pc := 65) G Z dX9_told_65 h
      · have h := h.2 c
        refine am_retag (i := 2) (t := 17) (by decide) (by decide) rfl rfl (by omega) ?_
        show AW X 38 [(19, _), (0, _), (17, _), (99, _)] _ _
        refine am_aload_n (i := 2) (t := 14) (pc := 38) G dX9_told_38 rfl rfl rfl ?_
        refine gf_X7_0 (pc := 39) G dX9_told_39 tw_f_RX9_171 ?_
        exact am_iret (pc := 42) G Z dX9_told_42 h
    · have h := h.1 c
      refine am_aload_n (i := 0) (t := 16) (pc := 17) G dX9_told_17 rfl rfl rfl ?_
      refine gf_X9_7 (pc := 18) G dX9_told_18 tw_f_RX9_55 ?_
      refine gf_X6_0 (pc := 21) G dX9_told_21 tw_f_RX9_192 ?_
      exact am_iret (pc := 24) G Z dX9_told_24 h
  · have h := h.1 c
    refine am_aload_n (i := 0) (t := 16) (pc := 4) G dX9_told_4 rfl rfl rfl ?_
    refine gf_X9_0 (pc := 5) G dX9_told_5 tw_f_RX9_10 ?_
    refine gf_X5_0 (pc := 8) G dX9_told_8 tw_f_RX9_91 ?_
    exact am_iret (pc := 11) G Z dX9_told_11 h
-- X10_in TreeHandsModel.in(III)Z
def rm_X10_in : Room := { frames := 0, cells := 0, slots := 0, locals := 0 }
theorem hy_X10_in : yX10_in.cls ≠ "java/lang/invoke/MethodHandle" ∧ yX10_in.cls ≠ "java/lang/invoke/VarHandle" ∧ (parseMethodDescriptor yX10_in.desc).map (fun d => d.parameters.length) = some 3 := by decide +kernel
abbrev R_X10_in (V : VV) (x0 x1 x2 : Int) (M : Mem) (Q : Int → Mem → Prop) : Prop := RunsM V yX10_in (.code yX10_in cX10_in 3 (Option.some Jvm.ClassFile.FieldType.boolean)) rm_X10_in 1 [(0, x0), (0, x1), (0, x2)] M Q
def wp_X10_in (V : VV) (x0 x1 x2 : Int) (M : Mem) (Q : Int → Mem → Prop) : Prop :=
  (x0 < x1 →
    Q 0 M) ∧ (¬ (x0 < x1) →
    (x2 < x0 →
      Q 0 M) ∧ (¬ (x2 < x0) →
      Q 1 M))
theorem of_X10_in {V : VV} {x0 x1 x2 : Int} {M : Mem} {Q : Int → Mem → Prop} (h : wp_X10_in V x0 x1 x2 M Q) : R_X10_in V x0 x1 x2 M Q := by
  refine met_in (own := "TreeHandsModel") (by decide +kernel) rfl rfl (Nat.le_of_ble_eq_true rfl) ?_
  intro X G Z hn hr hv
  subst hv
  unfold wp_X10_in at h
  show AW X 0 [(0, x0), (0, x1), (0, x2)] [] M
  refine am_iload_n (i := 0) (pc := 0) G dX10_in_0 rfl rfl ?_
  refine am_iload_n (i := 1) (pc := 1) G dX10_in_1 rfl rfl ?_
  refine am_icmp_lt (pc := 2) G 14 dX10_in_2 (by decide) (fun c => ?_) (fun c => ?_)
  · have h := h.1 c
    refine am_iconst (pc := 14) G dX10_in_14 (by decide) ?_
    exact am_zret (pc := 15) G Z dX10_in_15 ⟨by decide, h⟩
  · have h := h.2 c
    refine am_iload_n (i := 0) (pc := 5) G dX10_in_5 rfl rfl ?_
    refine am_iload_n (i := 2) (pc := 6) G dX10_in_6 rfl rfl ?_
    refine am_icmp_gt (pc := 7) G 14 dX10_in_7 (by decide) (fun c => ?_) (fun c => ?_)
    · have h := h.1 c
      refine am_iconst (pc := 14) G dX10_in_14 (by decide) ?_
      exact am_zret (pc := 15) G Z dX10_in_15 ⟨by decide, h⟩
    · have h := h.2 c
      refine am_iconst (pc := 10) G dX10_in_10 (by decide) ?_
      refine am_goto (pc := 11) G 15 dX10_in_11 (by decide) ?_
      exact am_zret (pc := 15) G Z dX10_in_15 ⟨by decide, h⟩
-- X10_isTree TreeHandsModel.isTree(I)Z
def rm_X10_isTree : Room := { frames := 1, cells := 0, slots := 0, locals := 22 }
theorem hy_X10_isTree : yX10_isTree.cls ≠ "java/lang/invoke/MethodHandle" ∧ yX10_isTree.cls ≠ "java/lang/invoke/VarHandle" ∧ (parseMethodDescriptor yX10_isTree.desc).map (fun d => d.parameters.length) = some 1 := by decide +kernel
abbrev R_X10_isTree (V : VV) (x0 : Int) (M : Mem) (Q : Int → Mem → Prop) : Prop := RunsM V yX10_isTree (.code yX10_isTree cX10_isTree 1 (Option.some Jvm.ClassFile.FieldType.boolean)) rm_X10_isTree 1 [(0, x0)] M Q
def wp_X10_isTree (V : VV) (x0 : Int) (M : Mem) (Q : Int → Mem → Prop) : Prop :=
  R_X10_in V x0 0 5 M (fun r1 M2 =>
  (r1 = 0 ∨ r1 = 1) ∧ Q r1 M2)
theorem of_X10_isTree {V : VV} {x0 : Int} {M : Mem} {Q : Int → Mem → Prop} (h : wp_X10_isTree V x0 M Q) : R_X10_isTree V x0 M Q := by
  refine met_in (own := "TreeHandsModel") (by decide +kernel) rfl rfl (Nat.le_of_ble_eq_true rfl) ?_
  intro X G Z hn hr hv
  subst hv
  unfold wp_X10_isTree at h
  show AW X 0 [(0, x0)] [] M
  refine am_iload_n (i := 0) (pc := 0) G dX10_isTree_0 rfl rfl ?_
  refine am_iconst (pc := 1) G dX10_isTree_1 (by decide) ?_
  refine am_iconst (pc := 2) G dX10_isTree_2 (by decide) ?_
  refine am_callS (rk := 1) (rmc := rm_X10_in) (st := []) (pc := 3) G [(0, _), (0, _), (0, _)] dX10_isTree_3 tw_m_RX10_110 tw_s_X10_in tw_z_RX10 tw_c_X10_in hy_X10_in (callrm hr rfl) rfl (RunsM.mono h (fun r1 M2 h => ?_)) Z.rm
  show AW X 6 _ [(0, _)] M2
  exact am_zret (pc := 6) G Z dX10_isTree_6 h
-- X10_isNode TreeHandsModel.isNode(II)Z
def rm_X10_isNode : Room := { frames := 2, cells := 0, slots := 0, locals := 42 }
theorem hy_X10_isNode : yX10_isNode.cls ≠ "java/lang/invoke/MethodHandle" ∧ yX10_isNode.cls ≠ "java/lang/invoke/VarHandle" ∧ (parseMethodDescriptor yX10_isNode.desc).map (fun d => d.parameters.length) = some 2 := by decide +kernel
abbrev R_X10_isNode (V : VV) (x1 x2 : Int) (M : Mem) (Q : Int → Mem → Prop) : Prop := RunsM V yX10_isNode (.code yX10_isNode cX10_isNode 3 (Option.some Jvm.ClassFile.FieldType.boolean)) rm_X10_isNode 1 [(20, 203), (0, x1), (0, x2)] M Q
def wp_X10_isNode (V : VV) (x1 x2 : Int) (M : Mem) (Q : Int → Mem → Prop) : Prop :=
  R_X10_isTree V x1 M (fun r1 M2 =>
  (r1 = 0 →
    Q 0 M2) ∧ (¬ (r1 = 0) →
    ((0 : Int) ≤ x1 ∧ x1 < (21 : Int)) ∧
    R_X10_in V x2 0 (w32 (M2 204 x1 - 1)) M2 (fun r3 M4 =>
    (r3 = 0 →
      Q 0 M4) ∧ (¬ (r3 = 0) →
      Q 1 M4))))
theorem of_X10_isNode {V : VV} {x1 x2 : Int} {M : Mem} {Q : Int → Mem → Prop} (h : wp_X10_isNode V x1 x2 M Q) : R_X10_isNode V x1 x2 M Q := by
  refine met_in (own := "TreeHandsModel") (by decide +kernel) rfl rfl (Nat.le_of_ble_eq_true rfl) ?_
  intro X G Z hn hr hv
  subst hv
  unfold wp_X10_isNode at h
  show AW X 0 [(20, 203), (0, x1), (0, x2)] [] M
  refine am_iload_n (i := 1) (pc := 0) G dX10_isNode_0 rfl rfl ?_
  refine am_callS (rk := 1) (rmc := rm_X10_isTree) (st := []) (pc := 1) G [(0, _)] dX10_isNode_1 tw_m_RX10_114 tw_s_X10_isTree tw_z_RX10 tw_c_X10_isTree hy_X10_isTree (callrm hr rfl) rfl (RunsM.mono h (fun r1 M2 h => ?_)) Z.rm
  show AW X 4 _ [(0, _)] M2
  refine am_if_eq (pc := 4) G 27 dX10_isNode_4 (by decide) (fun c => ?_) (fun c => ?_)
  · have h := h.1 c
    refine am_iconst (pc := 27) G dX10_isNode_27 (by decide) ?_
    exact am_zret (pc := 28) G Z dX10_isNode_28 ⟨by decide, h⟩
  · have h := h.2 c
    refine am_iload_n (i := 2) (pc := 7) G dX10_isNode_7 rfl rfl ?_
    refine am_iconst (pc := 8) G dX10_isNode_8 (by decide) ?_
    refine am_aload_n (i := 0) (t := 17) (pc := 9) G dX10_isNode_9 rfl rfl rfl ?_
    refine gf_X10_0 (pc := 10) G dX10_isNode_10 tw_f_RX10_7 ?_
    refine am_iload_n (i := 1) (pc := 13) G dX10_isNode_13 rfl rfl ?_
    refine am_iald (pc := 14) G 21 dX10_isNode_14 (by decide) h.1 ?_
    have h := h.2
    refine am_iconst (pc := 15) G dX10_isNode_15 (by decide) ?_
    refine am_isub (pc := 16) G dX10_isNode_16 ?_
    refine am_callS (rk := 1) (rmc := rm_X10_in) (st := []) (pc := 17) G [(0, _), (0, _), (0, _)] dX10_isNode_17 tw_m_RX10_110 tw_s_X10_in tw_z_RX10 tw_c_X10_in hy_X10_in (callrm hr rfl) rfl (RunsM.mono h (fun r3 M4 h => ?_)) Z.rm
    show AW X 20 _ [(0, _)] M4
    refine am_if_eq (pc := 20) G 27 dX10_isNode_20 (by decide) (fun c => ?_) (fun c => ?_)
    · have h := h.1 c
      refine am_iconst (pc := 27) G dX10_isNode_27 (by decide) ?_
      exact am_zret (pc := 28) G Z dX10_isNode_28 ⟨by decide, h⟩
    · have h := h.2 c
      refine am_iconst (pc := 23) G dX10_isNode_23 (by decide) ?_
      refine am_goto (pc := 24) G 28 dX10_isNode_24 (by decide) ?_
      exact am_zret (pc := 28) G Z dX10_isNode_28 ⟨by decide, h⟩
-- X10_isHole TreeHandsModel.isHole(I)Z
def rm_X10_isHole : Room := { frames := 1, cells := 0, slots := 0, locals := 22 }
theorem hy_X10_isHole : yX10_isHole.cls ≠ "java/lang/invoke/MethodHandle" ∧ yX10_isHole.cls ≠ "java/lang/invoke/VarHandle" ∧ (parseMethodDescriptor yX10_isHole.desc).map (fun d => d.parameters.length) = some 1 := by decide +kernel
abbrev R_X10_isHole (V : VV) (x0 : Int) (M : Mem) (Q : Int → Mem → Prop) : Prop := RunsM V yX10_isHole (.code yX10_isHole cX10_isHole 1 (Option.some Jvm.ClassFile.FieldType.boolean)) rm_X10_isHole 1 [(0, x0)] M Q
def wp_X10_isHole (V : VV) (x0 : Int) (M : Mem) (Q : Int → Mem → Prop) : Prop :=
  R_X10_in V x0 65 72 M (fun r1 M2 =>
  (r1 = 0 ∨ r1 = 1) ∧ Q r1 M2)
theorem of_X10_isHole {V : VV} {x0 : Int} {M : Mem} {Q : Int → Mem → Prop} (h : wp_X10_isHole V x0 M Q) : R_X10_isHole V x0 M Q := by
  refine met_in (own := "TreeHandsModel") (by decide +kernel) rfl rfl (Nat.le_of_ble_eq_true rfl) ?_
  intro X G Z hn hr hv
  subst hv
  unfold wp_X10_isHole at h
  show AW X 0 [(0, x0)] [] M
  refine am_iload_n (i := 0) (pc := 0) G dX10_isHole_0 rfl rfl ?_
  refine am_bipush (pc := 1) G dX10_isHole_1 (by decide) (by decide) ?_
  refine am_bipush (pc := 3) G dX10_isHole_3 (by decide) (by decide) ?_
  refine am_callS (rk := 1) (rmc := rm_X10_in) (st := []) (pc := 5) G [(0, _), (0, _), (0, _)] dX10_isHole_5 tw_m_RX10_110 tw_s_X10_in tw_z_RX10 tw_c_X10_in hy_X10_in (callrm hr rfl) rfl (RunsM.mono h (fun r1 M2 h => ?_)) Z.rm
  show AW X 8 _ [(0, _)] M2
  exact am_zret (pc := 8) G Z dX10_isHole_8 h
-- X10_say TreeHandsModel.say(I)I
def rm_X10_say : Room := { frames := 1, cells := 0, slots := 0, locals := 22 }
theorem hy_X10_say : yX10_say.cls ≠ "java/lang/invoke/MethodHandle" ∧ yX10_say.cls ≠ "java/lang/invoke/VarHandle" ∧ (parseMethodDescriptor yX10_say.desc).map (fun d => d.parameters.length) = some 1 := by decide +kernel
abbrev R_X10_say (V : VV) (x1 : Int) (M : Mem) (Q : Int → Mem → Prop) : Prop := RunsM V yX10_say (.code yX10_say cX10_say 2 (Option.some Jvm.ClassFile.FieldType.int)) rm_X10_say 0 [(20, 203), (0, x1)] M Q
def wp_X10_say (V : VV) (x1 : Int) (M : Mem) (Q : Int → Mem → Prop) : Prop :=
  R_X10_in V x1 33 126 M (fun r1 M2 =>
  (r1 = 0 →
    Q (-2) M2) ∧ (¬ (r1 = 0) →
    (M2 203 3 = 60 →
      Q (-4) M2) ∧ (¬ (M2 203 3 = 60) →
      ((0 : Int) ≤ M2 203 3 ∧ M2 203 3 < (60 : Int)) ∧
      ∀ M3 : Mem, M3 = mset M2 207 (M2 203 3) x1 →
      ∀ M4 : Mem, M4 = mset M3 203 3 (w32 (M3 203 3 + 1)) →
      Q (M4 203 3) M4)))
theorem of_X10_say {V : VV} {x1 : Int} {M : Mem} {Q : Int → Mem → Prop} (h : wp_X10_say V x1 M Q) : R_X10_say V x1 M Q := by
  refine met_in (own := "TreeHandsModel") (by decide +kernel) rfl rfl (Nat.le_of_ble_eq_true rfl) ?_
  intro X G Z hn hr hv
  subst hv
  unfold wp_X10_say at h
  show AW X 0 [(20, 203), (0, x1)] [] M
  refine am_iload_n (i := 1) (pc := 0) G dX10_say_0 rfl rfl ?_
  refine am_bipush (pc := 1) G dX10_say_1 (by decide) (by decide) ?_
  refine am_bipush (pc := 3) G dX10_say_3 (by decide) (by decide) ?_
  refine am_callS (rk := 1) (rmc := rm_X10_in) (st := []) (pc := 5) G [(0, _), (0, _), (0, _)] dX10_say_5 tw_m_RX10_110 tw_s_X10_in tw_z_RX10 tw_c_X10_in hy_X10_in (callrm hr rfl) rfl (RunsM.mono h (fun r1 M2 h => ?_)) Z.rm
  show AW X 8 _ [(0, _)] M2
  refine am_if_ne (pc := 8) G 14 dX10_say_8 (by decide) (fun c => ?_) (fun c => ?_)
  · have h := h.2 c
    refine am_aload_n (i := 0) (t := 17) (pc := 14) G dX10_say_14 rfl rfl rfl ?_
    refine gf_X10_3 (pc := 15) G dX10_say_15 tw_f_RX10_118 ?_
    refine am_bipush (pc := 18) G dX10_say_18 (by decide) (by decide) ?_
    refine am_icmp_ne (pc := 20) G 26 dX10_say_20 (by decide) (fun c => ?_) (fun c => ?_)
    · have h := h.2 c
      refine am_aload_n (i := 0) (t := 17) (pc := 26) G dX10_say_26 rfl rfl rfl ?_
      refine gf_X10_4 (pc := 27) G dX10_say_27 tw_f_RX10_19 ?_
      refine am_aload_n (i := 0) (t := 17) (pc := 30) G dX10_say_30 rfl rfl rfl ?_
      refine gf_X10_3 (pc := 31) G dX10_say_31 tw_f_RX10_118 ?_
      refine am_iload_n (i := 1) (pc := 34) G dX10_say_34 rfl rfl ?_
      refine am_iast (pc := 35) G 60 dX10_say_35 (by decide) h.1 ?_
      have h := h.2
      refine am_aload_n (i := 0) (t := 17) (pc := 36) G dX10_say_36 rfl rfl rfl ?_
      refine am_dup (pc := 37) G dX10_say_37 (Nat.ne_of_beq_eq_false rfl) ?_
      have h := h _ rfl
      refine gf_X10_3 (pc := 38) G dX10_say_38 tw_f_RX10_118 ?_
      refine am_iconst (pc := 41) G dX10_say_41 (by decide) ?_
      refine am_iadd (pc := 42) G dX10_say_42 ?_
      refine pf_X10_3 (pc := 43) G dX10_say_43 tw_f_RX10_118 ?_
      refine am_aload_n (i := 0) (t := 17) (pc := 46) G dX10_say_46 rfl rfl rfl ?_
      have h := h _ rfl
      refine gf_X10_3 (pc := 47) G dX10_say_47 tw_f_RX10_118 ?_
      exact am_iret (pc := 50) G Z dX10_say_50 h
    · have h := h.1 c
      refine am_bipush (pc := 23) G dX10_say_23 (by decide) (by decide) ?_
      exact am_iret (pc := 25) G Z dX10_say_25 h
  · have h := h.1 c
    refine am_bipush (pc := 11) G dX10_say_11 (by decide) (by decide) ?_
    exact am_iret (pc := 13) G Z dX10_say_13 h
-- X10_wipe TreeHandsModel.wipe()I
def rm_X10_wipe : Room := { frames := 0, cells := 0, slots := 0, locals := 0 }
theorem hy_X10_wipe : yX10_wipe.cls ≠ "java/lang/invoke/MethodHandle" ∧ yX10_wipe.cls ≠ "java/lang/invoke/VarHandle" ∧ (parseMethodDescriptor yX10_wipe.desc).map (fun d => d.parameters.length) = some 0 := by decide +kernel
abbrev R_X10_wipe (V : VV) (M : Mem) (Q : Int → Mem → Prop) : Prop := RunsM V yX10_wipe (.code yX10_wipe cX10_wipe 2 (Option.some Jvm.ClassFile.FieldType.int)) rm_X10_wipe 0 [(20, 203)] M Q
def wp_X10_wipe (V : VV) (M : Mem) (Q : Int → Mem → Prop) : Prop :=
  ∀ v1 : Int, v1 = M 203 3 →
  Q v1 (mset M 203 3 0)
theorem of_X10_wipe {V : VV} {M : Mem} {Q : Int → Mem → Prop} (h : wp_X10_wipe V M Q) : R_X10_wipe V M Q := by
  refine met_in (own := "TreeHandsModel") (by decide +kernel) rfl rfl (Nat.le_of_ble_eq_true rfl) ?_
  intro X G Z hn hr hv
  subst hv
  unfold wp_X10_wipe at h
  show AW X 0 [(20, 203), (99, 0)] [] M
  refine am_aload_n (i := 0) (t := 17) (pc := 0) G dX10_wipe_0 rfl rfl rfl ?_
  refine gf_X10_3 (pc := 1) G dX10_wipe_1 tw_f_RX10_118 ?_
  have h := h _ rfl
  refine am_istore_n (pc := 4) G dX10_wipe_4 rfl (nlx hn rfl) rfl ?_
  refine am_aload_n (i := 0) (t := 17) (pc := 5) (ls := [(20, _), (0, _)]) G dX10_wipe_5 rfl rfl rfl ?_
  refine am_iconst (pc := 6) G dX10_wipe_6 (by decide) ?_
  refine pf_X10_3 (pc := 7) G dX10_wipe_7 tw_f_RX10_118 ?_
  refine am_iload_n (i := 1) (pc := 10) G dX10_wipe_10 rfl rfl ?_
  exact am_iret (pc := 11) G Z dX10_wipe_11 h
-- X10_faultOf TreeHandsModel.faultOf()I
def rm_X10_faultOf : Room := { frames := 2, cells := 0, slots := 0, locals := 42 }
theorem hy_X10_faultOf : yX10_faultOf.cls ≠ "java/lang/invoke/MethodHandle" ∧ yX10_faultOf.cls ≠ "java/lang/invoke/VarHandle" ∧ (parseMethodDescriptor yX10_faultOf.desc).map (fun d => d.parameters.length) = some 0 := by decide +kernel
abbrev R_X10_faultOf (V : VV) (M : Mem) (Q : Int → Mem → Prop) : Prop := RunsM V yX10_faultOf (.code yX10_faultOf cX10_faultOf 7 (Option.some Jvm.ClassFile.FieldType.int)) rm_X10_faultOf 0 [(20, 203)] M Q
def wp_X10_faultOf_103 (V : VV) (x1 x2 x4 x5 : Int) (M : Mem) (Q : Int → Mem → Prop) (B9 : Int → Int → Int → Int → Mem → Prop) : Prop :=
  (x5 = 41 →
    (x1 ≤ 0 →
      Q x4 M) ∧ (¬ (x1 ≤ 0) →
      (x2 = 0 →
        B9 (w32 (x1 + (-1))) x2 0 (w32 (x4 + 1)) M) ∧ (¬ (x2 = 0) →
        Q x4 M))) ∧ (¬ (x5 = 41) →
    Q x4 M)
theorem swp_X10_faultOf_103 {X : XX} {Q : Int → Mem → Prop} (G : GX X cX10_faultOf "TreeHandsModel") (Z : RX X 0 Q) (hn : nLX X = 7) (hr : roomX X = rm_X10_faultOf) (x1 x2 x4 x5 : Int) (M : Mem) (B9 : Int → Int → Int → Int → Mem → Prop) (k9 : ∀ (z1 z2 z3 z4 : Int) (N : Mem), B9 z1 z2 z3 z4 N → AW X 9 [(20, 203), (0, z1), (0, z2), (0, z3), (0, z4), (99, 0), (99, 0)] [] N) (h : wp_X10_faultOf_103 (vX X) x1 x2 x4 x5 M Q B9) : AW X 103 [(20, 203), (0, x1), (0, x2), (99, 0), (0, x4), (0, x5), (99, 0)] [] M := by
  unfold wp_X10_faultOf_103 at h
  refine am_iload (pc := 103) G dX10_faultOf_103 rfl ?_
  refine am_bipush (pc := 105) G dX10_faultOf_105 (by decide) (by decide) ?_
  refine am_icmp_ne (pc := 107) G 126 dX10_faultOf_107 (by decide) (fun c => ?_) (fun c => ?_)
  · have h := h.2 c
    refine am_iload (pc := 126) G dX10_faultOf_126 rfl ?_
    exact am_iret (pc := 128) G Z dX10_faultOf_128 h
  · have h := h.1 c
    refine am_iload_n (i := 1) (pc := 110) G dX10_faultOf_110 rfl rfl ?_
    refine am_if_le (pc := 111) G 126 dX10_faultOf_111 (by decide) (fun c => ?_) (fun c => ?_)
    · have h := h.1 c
      refine am_iload (pc := 126) G dX10_faultOf_126 rfl ?_
      exact am_iret (pc := 128) G Z dX10_faultOf_128 h
    · have h := h.2 c
      refine am_iload_n (i := 2) (pc := 114) G dX10_faultOf_114 rfl rfl ?_
      refine am_if_ne (pc := 115) G 126 dX10_faultOf_115 (by decide) (fun c => ?_) (fun c => ?_)
      · have h := h.2 c
        refine am_iload (pc := 126) G dX10_faultOf_126 rfl ?_
        exact am_iret (pc := 128) G Z dX10_faultOf_128 h
      · have h := h.1 c
        refine am_iinc (pc := 118) G dX10_faultOf_118 rfl (nlx hn rfl) rfl ?_
        refine am_iconst (pc := 121) (ls := [(20, _), (0, _), (0, _), (99, _), (0, _), (0, _), (99, _)]) G dX10_faultOf_121 (by decide) ?_
        refine am_istore_n (pc := 122) G dX10_faultOf_122 rfl (nlx hn rfl) rfl ?_
        refine am_goto (pc := 123) (ls := [(20, _), (0, _), (0, _), (0, _), (0, _), (0, _), (99, _)]) G 129 dX10_faultOf_123 (by decide) ?_
        refine am_iinc (pc := 129) G dX10_faultOf_129 rfl (nlx hn rfl) rfl ?_
        refine am_goto (pc := 132) (ls := [(20, _), (0, _), (0, _), (0, _), (0, _), (0, _), (99, _)]) G 9 dX10_faultOf_132 (by decide) ?_
        refine am_le (ls' := [(20, _), (0, _), (0, _), (0, _), (0, _), (99, 0), (99, 0)]) ⟨Or.inr rfl, ⟨Or.inr rfl, ⟨Or.inr rfl, ⟨Or.inr rfl, ⟨Or.inr rfl, ⟨Or.inl rfl, ⟨Or.inl rfl, trivial⟩⟩⟩⟩⟩⟩⟩ ?_
        exact k9 _ _ _ _ _ h
def wp_X10_faultOf_82 (V : VV) (x1 x2 x3 x4 x5 : Int) (M : Mem) (Q : Int → Mem → Prop) (B9 : Int → Int → Int → Int → Mem → Prop) : Prop :=
  (x5 = 40 →
    (x3 = 0 →
      wp_X10_faultOf_103 V x1 x2 x4 x5 M Q B9) ∧ (¬ (x3 = 0) →
      B9 (w32 (x1 + 1)) 1 0 (w32 (x4 + 1)) M)) ∧ (¬ (x5 = 40) →
    wp_X10_faultOf_103 V x1 x2 x4 x5 M Q B9)
theorem swp_X10_faultOf_82 {X : XX} {Q : Int → Mem → Prop} (G : GX X cX10_faultOf "TreeHandsModel") (Z : RX X 0 Q) (hn : nLX X = 7) (hr : roomX X = rm_X10_faultOf) (x1 x2 x3 x4 x5 : Int) (M : Mem) (B9 : Int → Int → Int → Int → Mem → Prop) (k9 : ∀ (z1 z2 z3 z4 : Int) (N : Mem), B9 z1 z2 z3 z4 N → AW X 9 [(20, 203), (0, z1), (0, z2), (0, z3), (0, z4), (99, 0), (99, 0)] [] N) (h : wp_X10_faultOf_82 (vX X) x1 x2 x3 x4 x5 M Q B9) : AW X 82 [(20, 203), (0, x1), (0, x2), (0, x3), (0, x4), (0, x5), (99, 0)] [] M := by
  unfold wp_X10_faultOf_82 at h
  refine am_iload (pc := 82) G dX10_faultOf_82 rfl ?_
  refine am_bipush (pc := 84) G dX10_faultOf_84 (by decide) (by decide) ?_
  refine am_icmp_ne (pc := 86) G 103 dX10_faultOf_86 (by decide) (fun c => ?_) (fun c => ?_)
  · have h := h.2 c
    refine am_le (ls' := [(20, _), (0, _), (0, _), (99, 0), (0, _), (0, _), (99, 0)]) ⟨Or.inr rfl, ⟨Or.inr rfl, ⟨Or.inr rfl, ⟨Or.inl rfl, ⟨Or.inr rfl, ⟨Or.inr rfl, ⟨Or.inl rfl, trivial⟩⟩⟩⟩⟩⟩⟩ ?_
    exact swp_X10_faultOf_103 G Z hn hr _ _ _ _ _ B9 k9 h
  · have h := h.1 c
    refine am_iload_n (i := 3) (pc := 89) G dX10_faultOf_89 rfl rfl ?_
    refine am_if_eq (pc := 90) G 103 dX10_faultOf_90 (by decide) (fun c => ?_) (fun c => ?_)
    · have h := h.1 c
      refine am_le (ls' := [(20, _), (0, _), (0, _), (99, 0), (0, _), (0, _), (99, 0)]) ⟨Or.inr rfl, ⟨Or.inr rfl, ⟨Or.inr rfl, ⟨Or.inl rfl, ⟨Or.inr rfl, ⟨Or.inr rfl, ⟨Or.inl rfl, trivial⟩⟩⟩⟩⟩⟩⟩ ?_
      exact swp_X10_faultOf_103 G Z hn hr _ _ _ _ _ B9 k9 h
    · have h := h.2 c
      refine am_iinc (pc := 93) G dX10_faultOf_93 rfl (nlx hn rfl) rfl ?_
      refine am_iconst (pc := 96) (ls := [(20, _), (0, _), (0, _), (0, _), (0, _), (0, _), (99, _)]) G dX10_faultOf_96 (by decide) ?_
      refine am_istore_n (pc := 97) G dX10_faultOf_97 rfl (nlx hn rfl) rfl ?_
      refine am_iconst (pc := 98) (ls := [(20, _), (0, _), (0, _), (0, _), (0, _), (0, _), (99, _)]) G dX10_faultOf_98 (by decide) ?_
      refine am_istore_n (pc := 99) G dX10_faultOf_99 rfl (nlx hn rfl) rfl ?_
      refine am_goto (pc := 100) (ls := [(20, _), (0, _), (0, _), (0, _), (0, _), (0, _), (99, _)]) G 129 dX10_faultOf_100 (by decide) ?_
      refine am_iinc (pc := 129) G dX10_faultOf_129 rfl (nlx hn rfl) rfl ?_
      refine am_goto (pc := 132) (ls := [(20, _), (0, _), (0, _), (0, _), (0, _), (0, _), (99, _)]) G 9 dX10_faultOf_132 (by decide) ?_
      refine am_le (ls' := [(20, _), (0, _), (0, _), (0, _), (0, _), (99, 0), (99, 0)]) ⟨Or.inr rfl, ⟨Or.inr rfl, ⟨Or.inr rfl, ⟨Or.inr rfl, ⟨Or.inr rfl, ⟨Or.inl rfl, ⟨Or.inl rfl, trivial⟩⟩⟩⟩⟩⟩⟩ ?_
      exact k9 _ _ _ _ _ h
def wp_X10_faultOf_67 (V : VV) (x1 x4 x5 : Int) (M : Mem) (Q : Int → Mem → Prop) (B9 : Int → Int → Int → Int → Mem → Prop) : Prop :=
  R_X10_in V x5 97 122 M (fun r4 M5 =>
  B9 x1 0 r4 (w32 (x4 + 1)) M5)
theorem swp_X10_faultOf_67 {X : XX} {Q : Int → Mem → Prop} (G : GX X cX10_faultOf "TreeHandsModel") (Z : RX X 0 Q) (hn : nLX X = 7) (hr : roomX X = rm_X10_faultOf) (x1 x4 x5 : Int) (M : Mem) (B9 : Int → Int → Int → Int → Mem → Prop) (k9 : ∀ (z1 z2 z3 z4 : Int) (N : Mem), B9 z1 z2 z3 z4 N → AW X 9 [(20, 203), (0, z1), (0, z2), (0, z3), (0, z4), (99, 0), (99, 0)] [] N) (h : wp_X10_faultOf_67 (vX X) x1 x4 x5 M Q B9) : AW X 67 [(20, 203), (0, x1), (99, 0), (99, 0), (0, x4), (0, x5), (99, 0)] [] M := by
  unfold wp_X10_faultOf_67 at h
  refine am_iconst (pc := 67) G dX10_faultOf_67 (by decide) ?_
  refine am_istore_n (pc := 68) G dX10_faultOf_68 rfl (nlx hn rfl) rfl ?_
  refine am_iload (pc := 69) (ls := [(20, _), (0, _), (0, _), (99, _), (0, _), (0, _), (99, _)]) G dX10_faultOf_69 rfl ?_
  refine am_bipush (pc := 71) G dX10_faultOf_71 (by decide) (by decide) ?_
  refine am_bipush (pc := 73) G dX10_faultOf_73 (by decide) (by decide) ?_
  refine am_callS (rk := 1) (rmc := rm_X10_in) (st := []) (pc := 75) G [(0, _), (0, _), (0, _)] dX10_faultOf_75 tw_m_RX10_110 tw_s_X10_in tw_z_RX10 tw_c_X10_in hy_X10_in (callrm hr rfl) rfl (RunsM.mono h (fun r4 M5 h => ?_)) Z.rm
  show AW X 78 _ [(0, _)] M5
  refine am_istore_n (pc := 78) G dX10_faultOf_78 rfl (nlx hn rfl) rfl ?_
  refine am_goto (pc := 79) (ls := [(20, _), (0, _), (0, _), (0, _), (0, _), (0, _), (99, _)]) G 129 dX10_faultOf_79 (by decide) ?_
  refine am_iinc (pc := 129) G dX10_faultOf_129 rfl (nlx hn rfl) rfl ?_
  refine am_goto (pc := 132) (ls := [(20, _), (0, _), (0, _), (0, _), (0, _), (0, _), (99, _)]) G 9 dX10_faultOf_132 (by decide) ?_
  refine am_le (ls' := [(20, _), (0, _), (0, _), (0, _), (0, _), (99, 0), (99, 0)]) ⟨Or.inr rfl, ⟨Or.inr rfl, ⟨Or.inr rfl, ⟨Or.inr rfl, ⟨Or.inr rfl, ⟨Or.inl rfl, ⟨Or.inl rfl, trivial⟩⟩⟩⟩⟩⟩⟩ ?_
  exact k9 _ _ _ _ _ h
def wp_X10_faultOf_52 (V : VV) (x1 x2 x3 x4 x5 s0 : Int) (M : Mem) (Q : Int → Mem → Prop) (B9 : Int → Int → Int → Int → Mem → Prop) : Prop :=
  (s0 = 0 →
    wp_X10_faultOf_82 V x1 x2 x3 x4 x5 M Q B9) ∧ (¬ (s0 = 0) →
    (x2 = 0 →
      (x1 ≤ 0 →
        wp_X10_faultOf_82 V x1 x2 x3 x4 x5 M Q B9) ∧ (¬ (x1 ≤ 0) →
        wp_X10_faultOf_67 V x1 x4 x5 M Q B9)) ∧ (¬ (x2 = 0) →
      wp_X10_faultOf_67 V x1 x4 x5 M Q B9))
theorem swp_X10_faultOf_52 {X : XX} {Q : Int → Mem → Prop} (G : GX X cX10_faultOf "TreeHandsModel") (Z : RX X 0 Q) (hn : nLX X = 7) (hr : roomX X = rm_X10_faultOf) (x1 x2 x3 x4 x5 s0 : Int) (M : Mem) (B9 : Int → Int → Int → Int → Mem → Prop) (k9 : ∀ (z1 z2 z3 z4 : Int) (N : Mem), B9 z1 z2 z3 z4 N → AW X 9 [(20, 203), (0, z1), (0, z2), (0, z3), (0, z4), (99, 0), (99, 0)] [] N) (h : wp_X10_faultOf_52 (vX X) x1 x2 x3 x4 x5 s0 M Q B9) : AW X 52 [(20, 203), (0, x1), (0, x2), (0, x3), (0, x4), (0, x5), (99, 0)] [(0, s0)] M := by
  unfold wp_X10_faultOf_52 at h
  refine am_istore (pc := 52) G dX10_faultOf_52 (nlx hn rfl) rfl ?_
  refine am_iload (pc := 54) (ls := [(20, _), (0, _), (0, _), (0, _), (0, _), (0, _), (0, _)]) G dX10_faultOf_54 rfl ?_
  refine am_if_eq (pc := 56) G 82 dX10_faultOf_56 (by decide) (fun c => ?_) (fun c => ?_)
  · have h := h.1 c
    refine am_le (ls' := [(20, _), (0, _), (0, _), (0, _), (0, _), (0, _), (99, 0)]) ⟨Or.inr rfl, ⟨Or.inr rfl, ⟨Or.inr rfl, ⟨Or.inr rfl, ⟨Or.inr rfl, ⟨Or.inr rfl, ⟨Or.inl rfl, trivial⟩⟩⟩⟩⟩⟩⟩ ?_
    exact swp_X10_faultOf_82 G Z hn hr _ _ _ _ _ _ B9 k9 h
  · have h := h.2 c
    refine am_iload_n (i := 2) (pc := 59) G dX10_faultOf_59 rfl rfl ?_
    refine am_if_ne (pc := 60) G 67 dX10_faultOf_60 (by decide) (fun c => ?_) (fun c => ?_)
    · have h := h.2 c
      refine am_le (ls' := [(20, _), (0, _), (99, 0), (99, 0), (0, _), (0, _), (99, 0)]) ⟨Or.inr rfl, ⟨Or.inr rfl, ⟨Or.inl rfl, ⟨Or.inl rfl, ⟨Or.inr rfl, ⟨Or.inr rfl, ⟨Or.inl rfl, trivial⟩⟩⟩⟩⟩⟩⟩ ?_
      exact swp_X10_faultOf_67 G Z hn hr _ _ _ _ B9 k9 h
    · have h := h.1 c
      refine am_iload_n (i := 1) (pc := 63) G dX10_faultOf_63 rfl rfl ?_
      refine am_if_le (pc := 64) G 82 dX10_faultOf_64 (by decide) (fun c => ?_) (fun c => ?_)
      · have h := h.1 c
        refine am_le (ls' := [(20, _), (0, _), (0, _), (0, _), (0, _), (0, _), (99, 0)]) ⟨Or.inr rfl, ⟨Or.inr rfl, ⟨Or.inr rfl, ⟨Or.inr rfl, ⟨Or.inr rfl, ⟨Or.inr rfl, ⟨Or.inl rfl, trivial⟩⟩⟩⟩⟩⟩⟩ ?_
        exact swp_X10_faultOf_82 G Z hn hr _ _ _ _ _ _ B9 k9 h
      · have h := h.2 c
        refine am_le (ls' := [(20, _), (0, _), (99, 0), (99, 0), (0, _), (0, _), (99, 0)]) ⟨Or.inr rfl, ⟨Or.inr rfl, ⟨Or.inl rfl, ⟨Or.inl rfl, ⟨Or.inr rfl, ⟨Or.inr rfl, ⟨Or.inl rfl, trivial⟩⟩⟩⟩⟩⟩⟩ ?_
        exact swp_X10_faultOf_67 G Z hn hr _ _ _ _ B9 k9 h
def wp_X10_faultOf_47 (V : VV) (x1 x2 x3 x4 x5 : Int) (M : Mem) (Q : Int → Mem → Prop) (B9 : Int → Int → Int → Int → Mem → Prop) : Prop :=
  wp_X10_faultOf_52 V x1 x2 x3 x4 x5 1 M Q B9
theorem swp_X10_faultOf_47 {X : XX} {Q : Int → Mem → Prop} (G : GX X cX10_faultOf "TreeHandsModel") (Z : RX X 0 Q) (hn : nLX X = 7) (hr : roomX X = rm_X10_faultOf) (x1 x2 x3 x4 x5 : Int) (M : Mem) (B9 : Int → Int → Int → Int → Mem → Prop) (k9 : ∀ (z1 z2 z3 z4 : Int) (N : Mem), B9 z1 z2 z3 z4 N → AW X 9 [(20, 203), (0, z1), (0, z2), (0, z3), (0, z4), (99, 0), (99, 0)] [] N) (h : wp_X10_faultOf_47 (vX X) x1 x2 x3 x4 x5 M Q B9) : AW X 47 [(20, 203), (0, x1), (0, x2), (0, x3), (0, x4), (0, x5), (99, 0)] [] M := by
  unfold wp_X10_faultOf_47 at h
  refine am_iconst (pc := 47) G dX10_faultOf_47 (by decide) ?_
  refine am_goto (pc := 48) G 52 dX10_faultOf_48 (by decide) ?_
  refine am_le (ls' := [(20, _), (0, _), (0, _), (0, _), (0, _), (0, _), (99, 0)]) ⟨Or.inr rfl, ⟨Or.inr rfl, ⟨Or.inr rfl, ⟨Or.inr rfl, ⟨Or.inr rfl, ⟨Or.inr rfl, ⟨Or.inl rfl, trivial⟩⟩⟩⟩⟩⟩⟩ ?_
  exact swp_X10_faultOf_52 G Z hn hr _ _ _ _ _ _ _ B9 k9 h
def wp_X10_faultOf_9_b (V : VV) (x1 x2 x3 x4 : Int) (M : Mem) (Q : Int → Mem → Prop) (B9 : Int → Int → Int → Int → Mem → Prop) : Prop :=
  (M 203 3 ≤ x4 →
    (x2 = 0 →
      (x1 ≤ 0 →
        Q (-6) M) ∧ (¬ (x1 ≤ 0) →
        Q (M 203 3) M)) ∧ (¬ (x2 = 0) →
      Q (M 203 3) M)) ∧ (¬ (M 203 3 ≤ x4) →
    ((0 : Int) ≤ x4 ∧ x4 < (60 : Int)) ∧
    ∀ v1 : Int, v1 = M 207 x4 →
    R_X10_in V v1 97 122 M (fun r2 M3 =>
    (r2 = 0 →
      R_X10_isHole V v1 M3 (fun r6 M7 =>
      (r6 = 0 →
        wp_X10_faultOf_52 V x1 x2 x3 x4 v1 0 M7 Q B9) ∧ (¬ (r6 = 0) →
        wp_X10_faultOf_47 V x1 x2 x3 x4 v1 M7 Q B9))) ∧ (¬ (r2 = 0) →
      wp_X10_faultOf_47 V x1 x2 x3 x4 v1 M3 Q B9)))
theorem swp_X10_faultOf_9_b {X : XX} {Q : Int → Mem → Prop} (G : GX X cX10_faultOf "TreeHandsModel") (Z : RX X 0 Q) (hn : nLX X = 7) (hr : roomX X = rm_X10_faultOf) (x1 x2 x3 x4 : Int) (M : Mem) (B9 : Int → Int → Int → Int → Mem → Prop) (k9 : ∀ (z1 z2 z3 z4 : Int) (N : Mem), B9 z1 z2 z3 z4 N → AW X 9 [(20, 203), (0, z1), (0, z2), (0, z3), (0, z4), (99, 0), (99, 0)] [] N) (h : wp_X10_faultOf_9_b (vX X) x1 x2 x3 x4 M Q B9) : AW X 9 [(20, 203), (0, x1), (0, x2), (0, x3), (0, x4), (99, 0), (99, 0)] [] M := by
  unfold wp_X10_faultOf_9_b at h
  refine am_iload (pc := 9) G dX10_faultOf_9 rfl ?_
  refine am_aload_n (i := 0) (t := 17) (pc := 11) G dX10_faultOf_11 rfl rfl rfl ?_
  refine gf_X10_3 (pc := 12) G dX10_faultOf_12 tw_f_RX10_118 ?_
  refine am_icmp_ge (pc := 15) G 135 dX10_faultOf_15 (by decide) (fun c => ?_) (fun c => ?_)
  · have h := h.1 c
    refine am_iload_n (i := 2) (pc := 135) G dX10_faultOf_135 rfl rfl ?_
    refine am_if_ne (pc := 136) G 143 dX10_faultOf_136 (by decide) (fun c => ?_) (fun c => ?_)
    · have h := h.2 c
      refine am_aload_n (i := 0) (t := 17) (pc := 143) G dX10_faultOf_143 rfl rfl rfl ?_
      refine gf_X10_3 (pc := 144) G dX10_faultOf_144 tw_f_RX10_118 ?_
      refine am_goto (pc := 147) G 152 dX10_faultOf_147 (by decide) ?_
      exact am_iret (pc := 152) G Z dX10_faultOf_152 h
    · have h := h.1 c
      refine am_iload_n (i := 1) (pc := 139) G dX10_faultOf_139 rfl rfl ?_
      refine am_if_le (pc := 140) G 150 dX10_faultOf_140 (by decide) (fun c => ?_) (fun c => ?_)
      · have h := h.1 c
        refine am_bipush (pc := 150) G dX10_faultOf_150 (by decide) (by decide) ?_
        exact am_iret (pc := 152) G Z dX10_faultOf_152 h
      · have h := h.2 c
        refine am_aload_n (i := 0) (t := 17) (pc := 143) G dX10_faultOf_143 rfl rfl rfl ?_
        refine gf_X10_3 (pc := 144) G dX10_faultOf_144 tw_f_RX10_118 ?_
        refine am_goto (pc := 147) G 152 dX10_faultOf_147 (by decide) ?_
        exact am_iret (pc := 152) G Z dX10_faultOf_152 h
  · have h := h.2 c
    refine am_aload_n (i := 0) (t := 17) (pc := 18) G dX10_faultOf_18 rfl rfl rfl ?_
    refine gf_X10_4 (pc := 19) G dX10_faultOf_19 tw_f_RX10_19 ?_
    refine am_iload (pc := 22) G dX10_faultOf_22 rfl ?_
    refine am_iald (pc := 24) G 60 dX10_faultOf_24 (by decide) h.1 ?_
    have h := h.2
    have h := h _ rfl
    refine am_istore (pc := 25) G dX10_faultOf_25 (nlx hn rfl) rfl ?_
    refine am_iload (pc := 27) (ls := [(20, _), (0, _), (0, _), (0, _), (0, _), (0, _), (99, _)]) G dX10_faultOf_27 rfl ?_
    refine am_bipush (pc := 29) G dX10_faultOf_29 (by decide) (by decide) ?_
    refine am_bipush (pc := 31) G dX10_faultOf_31 (by decide) (by decide) ?_
    refine am_callS (rk := 1) (rmc := rm_X10_in) (st := []) (pc := 33) G [(0, _), (0, _), (0, _)] dX10_faultOf_33 tw_m_RX10_110 tw_s_X10_in tw_z_RX10 tw_c_X10_in hy_X10_in (callrm hr rfl) rfl (RunsM.mono h (fun r2 M3 h => ?_)) Z.rm
    show AW X 36 _ [(0, _)] M3
    refine am_if_ne (pc := 36) G 47 dX10_faultOf_36 (by decide) (fun c => ?_) (fun c => ?_)
    · have h := h.2 c
      refine am_le (ls' := [(20, _), (0, _), (0, _), (0, _), (0, _), (0, _), (99, 0)]) ⟨Or.inr rfl, ⟨Or.inr rfl, ⟨Or.inr rfl, ⟨Or.inr rfl, ⟨Or.inr rfl, ⟨Or.inr rfl, ⟨Or.inl rfl, trivial⟩⟩⟩⟩⟩⟩⟩ ?_
      exact swp_X10_faultOf_47 G Z hn hr _ _ _ _ _ _ B9 k9 h
    · have h := h.1 c
      refine am_iload (pc := 39) G dX10_faultOf_39 rfl ?_
      refine am_callS (rk := 1) (rmc := rm_X10_isHole) (st := []) (pc := 41) G [(0, _)] dX10_faultOf_41 tw_m_RX10_121 tw_s_X10_isHole tw_z_RX10 tw_c_X10_isHole hy_X10_isHole (callrm hr rfl) rfl (RunsM.mono h (fun r6 M7 h => ?_)) Z.rm
      show AW X 44 _ [(0, _)] M7
      refine am_if_eq (pc := 44) G 51 dX10_faultOf_44 (by decide) (fun c => ?_) (fun c => ?_)
      · have h := h.1 c
        refine am_iconst (pc := 51) G dX10_faultOf_51 (by decide) ?_
        refine am_le (ls' := [(20, _), (0, _), (0, _), (0, _), (0, _), (0, _), (99, 0)]) ⟨Or.inr rfl, ⟨Or.inr rfl, ⟨Or.inr rfl, ⟨Or.inr rfl, ⟨Or.inr rfl, ⟨Or.inr rfl, ⟨Or.inl rfl, trivial⟩⟩⟩⟩⟩⟩⟩ ?_
        exact swp_X10_faultOf_52 G Z hn hr _ _ _ _ _ _ _ B9 k9 h
      · have h := h.2 c
        refine am_le (ls' := [(20, _), (0, _), (0, _), (0, _), (0, _), (0, _), (99, 0)]) ⟨Or.inr rfl, ⟨Or.inr rfl, ⟨Or.inr rfl, ⟨Or.inr rfl, ⟨Or.inr rfl, ⟨Or.inr rfl, ⟨Or.inl rfl, trivial⟩⟩⟩⟩⟩⟩⟩ ?_
        exact swp_X10_faultOf_47 G Z hn hr _ _ _ _ _ _ B9 k9 h
def wp_X10_faultOf_9 (V : VV) (x1 x2 x3 x4 : Int) (M : Mem) (Q : Int → Mem → Prop) : Prop :=
  ∃ (I : Int → Int → Int → Int → Mem → Prop) (μ : Int → Int → Int → Int → Mem → Nat), I x1 x2 x3 x4 M ∧ ∀ (y1 y2 y3 y4 : Int) (N : Mem), I y1 y2 y3 y4 N → wp_X10_faultOf_9_b V y1 y2 y3 y4 N Q (fun z1 z2 z3 z4 N1 => I z1 z2 z3 z4 N1 ∧ μ z1 z2 z3 z4 N1 < μ y1 y2 y3 y4 N)
theorem swp_X10_faultOf_9 {X : XX} {Q : Int → Mem → Prop} (G : GX X cX10_faultOf "TreeHandsModel") (Z : RX X 0 Q) (hn : nLX X = 7) (hr : roomX X = rm_X10_faultOf) (x1 x2 x3 x4 : Int) (M : Mem) (h : wp_X10_faultOf_9 (vX X) x1 x2 x3 x4 M Q) : AW X 9 [(20, 203), (0, x1), (0, x2), (0, x3), (0, x4), (99, 0), (99, 0)] [] M := by
  unfold wp_X10_faultOf_9 at h
  obtain ⟨I, μ, hI, hs⟩ := h
  have key : ∀ (n : Nat) (y1 y2 y3 y4 : Int) (N : Mem), μ y1 y2 y3 y4 N < n → I y1 y2 y3 y4 N → AW X 9 [(20, 203), (0, y1), (0, y2), (0, y3), (0, y4), (99, 0), (99, 0)] [] N := by
    intro n
    induction n with
    | zero => intro y1 y2 y3 y4 N hlt; exact absurd hlt (Nat.not_lt_zero _)
    | succ n ih =>
      intro y1 y2 y3 y4 N hlt hI
      exact swp_X10_faultOf_9_b G Z hn hr y1 y2 y3 y4 N (fun z1 z2 z3 z4 N1 => I z1 z2 z3 z4 N1 ∧ μ z1 z2 z3 z4 N1 < μ y1 y2 y3 y4 N) (fun z1 z2 z3 z4 N1 hz => ih z1 z2 z3 z4 N1 (by omega) hz.1) (hs y1 y2 y3 y4 N hI)
  exact key _ x1 x2 x3 x4 M (Nat.lt_succ_self _) hI
def wp_X10_faultOf (V : VV) (M : Mem) (Q : Int → Mem → Prop) : Prop :=
  wp_X10_faultOf_9 V 0 1 0 0 M Q
theorem of_X10_faultOf {V : VV} {M : Mem} {Q : Int → Mem → Prop} (h : wp_X10_faultOf V M Q) : R_X10_faultOf V M Q := by
  refine met_in (own := "TreeHandsModel") (by decide +kernel) rfl rfl (Nat.le_of_ble_eq_true rfl) ?_
  intro X G Z hn hr hv
  subst hv
  unfold wp_X10_faultOf at h
  show AW X 0 [(20, 203), (99, 0), (99, 0), (99, 0), (99, 0), (99, 0), (99, 0)] [] M
  refine am_iconst (pc := 0) G dX10_faultOf_0 (by decide) ?_
  refine am_istore_n (pc := 1) G dX10_faultOf_1 rfl (nlx hn rfl) rfl ?_
  refine am_iconst (pc := 2) (ls := [(20, _), (0, _), (99, _), (99, _), (99, _), (99, _), (99, _)]) G dX10_faultOf_2 (by decide) ?_
  refine am_istore_n (pc := 3) G dX10_faultOf_3 rfl (nlx hn rfl) rfl ?_
  refine am_iconst (pc := 4) (ls := [(20, _), (0, _), (0, _), (99, _), (99, _), (99, _), (99, _)]) G dX10_faultOf_4 (by decide) ?_
  refine am_istore_n (pc := 5) G dX10_faultOf_5 rfl (nlx hn rfl) rfl ?_
  refine am_iconst (pc := 6) (ls := [(20, _), (0, _), (0, _), (0, _), (99, _), (99, _), (99, _)]) G dX10_faultOf_6 (by decide) ?_
  refine am_istore (pc := 7) G dX10_faultOf_7 (nlx hn rfl) rfl ?_
  refine am_le (ls' := [(20, _), (0, _), (0, _), (0, _), (0, _), (99, 0), (99, 0)]) ⟨Or.inr rfl, ⟨Or.inr rfl, ⟨Or.inr rfl, ⟨Or.inr rfl, ⟨Or.inr rfl, ⟨Or.inl rfl, ⟨Or.inl rfl, trivial⟩⟩⟩⟩⟩⟩⟩ ?_
  exact swp_X10_faultOf_9 G Z hn hr _ _ _ _ _ h
-- X10_fault TreeHandsModel.fault()I
def rm_X10_fault : Room := { frames := 3, cells := 0, slots := 0, locals := 68 }
theorem hy_X10_fault : yX10_fault.cls ≠ "java/lang/invoke/MethodHandle" ∧ yX10_fault.cls ≠ "java/lang/invoke/VarHandle" ∧ (parseMethodDescriptor yX10_fault.desc).map (fun d => d.parameters.length) = some 0 := by decide +kernel
abbrev R_X10_fault (V : VV) (M : Mem) (Q : Int → Mem → Prop) : Prop := RunsM V yX10_fault (.code yX10_fault cX10_fault 1 (Option.some Jvm.ClassFile.FieldType.int)) rm_X10_fault 0 [(20, 203)] M Q
def wp_X10_fault (V : VV) (M : Mem) (Q : Int → Mem → Prop) : Prop :=
  R_X10_faultOf V M (fun r1 M2 =>
  Q r1 M2)
theorem of_X10_fault {V : VV} {M : Mem} {Q : Int → Mem → Prop} (h : wp_X10_fault V M Q) : R_X10_fault V M Q := by
  refine met_in (own := "TreeHandsModel") (by decide +kernel) rfl rfl (Nat.le_of_ble_eq_true rfl) ?_
  intro X G Z hn hr hv
  subst hv
  unfold wp_X10_fault at h
  show AW X 0 [(20, 203)] [] M
  refine am_aload_n (i := 0) (t := 17) (pc := 0) G dX10_fault_0 rfl rfl rfl ?_
  refine am_callV (rk := 0) (rmc := rm_X10_faultOf) (st := []) (pc := 1) G 10 [] rfl (by decide) rfl dX10_fault_1 tw_m_RX10_124 tw_i_X10_faultOf tw_v_X10_faultOf tw_z_RX10 tw_c_X10_faultOf hy_X10_faultOf (callrm hr rfl) rfl (RunsM.mono h (fun r1 M2 h => ?_)) Z.rm
  show AW X 4 _ [(0, _)] M2
  exact am_iret (pc := 4) G Z dX10_fault_4 h
-- X10_read TreeHandsModel.read(I)I
def rm_X10_read : Room := { frames := 3, cells := 0, slots := 0, locals := 68 }
theorem hy_X10_read : yX10_read.cls ≠ "java/lang/invoke/MethodHandle" ∧ yX10_read.cls ≠ "java/lang/invoke/VarHandle" ∧ (parseMethodDescriptor yX10_read.desc).map (fun d => d.parameters.length) = some 1 := by decide +kernel
abbrev R_X10_read (V : VV) (x1 : Int) (M : Mem) (Q : Int → Mem → Prop) : Prop := RunsM V yX10_read (.code yX10_read cX10_read 7 (Option.some Jvm.ClassFile.FieldType.int)) rm_X10_read 0 [(20, 203), (0, x1)] M Q
def wp_X10_read_264 (V : VV) (x1 x2 x3 x4 : Int) (M : Mem) (Q : Int → Mem → Prop) (B80 : Int → Int → Mem → Prop) : Prop :=
  ((0 : Int) ≤ w32 (w32 (32 * x1) + x2) ∧ w32 (w32 (32 * x1) + x2) < (672 : Int)) ∧
  B80 (w32 (x2 + 1)) (w32 (x3 + 1)) (mset M 206 (w32 (w32 (32 * x1) + x2)) x4)
theorem swp_X10_read_264 {X : XX} {Q : Int → Mem → Prop} (G : GX X cX10_read "TreeHandsModel") (Z : RX X 0 Q) (hn : nLX X = 7) (hr : roomX X = rm_X10_read) (x1 x2 x3 x4 : Int) (M : Mem) (B80 : Int → Int → Mem → Prop) (k80 : ∀ (z2 z3 : Int) (N : Mem), B80 z2 z3 N → AW X 80 [(20, 203), (0, x1), (0, z2), (0, z3), (99, 0), (99, 0), (99, 0)] [] N) (h : wp_X10_read_264 (vX X) x1 x2 x3 x4 M Q B80) : AW X 264 [(20, 203), (0, x1), (0, x2), (0, x3), (0, x4), (99, 0), (99, 0)] [] M := by
  unfold wp_X10_read_264 at h
  refine am_aload_n (i := 0) (t := 17) (pc := 264) G dX10_read_264 rfl rfl rfl ?_
  refine gf_X10_2 (pc := 265) G dX10_read_265 tw_f_RX10_16 ?_
  refine am_bipush (pc := 268) G dX10_read_268 (by decide) (by decide) ?_
  refine am_iload_n (i := 1) (pc := 270) G dX10_read_270 rfl rfl ?_
  refine am_imul (pc := 271) G dX10_read_271 ?_
  refine am_iload_n (i := 2) (pc := 272) G dX10_read_272 rfl rfl ?_
  refine am_iadd (pc := 273) G dX10_read_273 ?_
  refine am_iload (pc := 274) G dX10_read_274 rfl ?_
  refine am_iast (pc := 276) G 672 dX10_read_276 (by decide) h.1 ?_
  have h := h.2
  refine am_iinc (pc := 277) G dX10_read_277 rfl (nlx hn rfl) rfl ?_
  refine am_iinc (pc := 280) (ls := [(20, _), (0, _), (0, _), (0, _), (0, _), (99, _), (99, _)]) G dX10_read_280 rfl (nlx hn rfl) rfl ?_
  refine am_goto (pc := 283) (ls := [(20, _), (0, _), (0, _), (0, _), (0, _), (99, _), (99, _)]) G 80 dX10_read_283 (by decide) ?_
  refine am_le (ls' := [(20, _), (0, _), (0, _), (0, _), (99, 0), (99, 0), (99, 0)]) ⟨Or.inr rfl, ⟨Or.inr rfl, ⟨Or.inr rfl, ⟨Or.inr rfl, ⟨Or.inl rfl, ⟨Or.inl rfl, ⟨Or.inl rfl, trivial⟩⟩⟩⟩⟩⟩⟩ ?_
  exact k80 _ _ _ h
def wp_X10_read_255 (V : VV) (x1 x2 x3 x5 x6 s0 s1 : Int) (M : Mem) (Q : Int → Mem → Prop) (B80 : Int → Int → Mem → Prop) (B138 : Int → Int → Int → Prop) : Prop :=
  B138 (w32 (s1 + s0)) x5 (w32 (x6 + 1))
theorem swp_X10_read_255 {X : XX} {Q : Int → Mem → Prop} (G : GX X cX10_read "TreeHandsModel") (Z : RX X 0 Q) (hn : nLX X = 7) (hr : roomX X = rm_X10_read) (x1 x2 x3 x5 x6 s0 s1 : Int) (M : Mem) (B80 : Int → Int → Mem → Prop) (B138 : Int → Int → Int → Prop) (k80 : ∀ (z2 z3 : Int) (N : Mem), B80 z2 z3 N → AW X 80 [(20, 203), (0, x1), (0, z2), (0, z3), (99, 0), (99, 0), (99, 0)] [] N) (k138 : ∀ (z4 z5 z6 : Int), B138 z4 z5 z6 → AW X 138 [(20, 203), (0, x1), (0, x2), (0, x3), (0, z4), (0, z5), (0, z6)] [] M) (h : wp_X10_read_255 (vX X) x1 x2 x3 x5 x6 s0 s1 M Q B80 B138) : AW X 255 [(20, 203), (0, x1), (0, x2), (0, x3), (99, 0), (0, x5), (0, x6)] [(0, s0), (0, s1)] M := by
  unfold wp_X10_read_255 at h
  refine am_iadd (pc := 255) G dX10_read_255 ?_
  refine am_istore (pc := 256) G dX10_read_256 (nlx hn rfl) rfl ?_
  refine am_iinc (pc := 258) (ls := [(20, _), (0, _), (0, _), (0, _), (0, _), (0, _), (0, _)]) G dX10_read_258 rfl (nlx hn rfl) rfl ?_
  refine am_goto (pc := 261) (ls := [(20, _), (0, _), (0, _), (0, _), (0, _), (0, _), (0, _)]) G 138 dX10_read_261 (by decide) ?_
  refine am_le (ls' := [(20, _), (0, _), (0, _), (0, _), (0, _), (0, _), (0, _)]) ⟨Or.inr rfl, ⟨Or.inr rfl, ⟨Or.inr rfl, ⟨Or.inr rfl, ⟨Or.inr rfl, ⟨Or.inr rfl, ⟨Or.inr rfl, trivial⟩⟩⟩⟩⟩⟩⟩ ?_
  exact k138 _ _ _ h
def wp_X10_read_254 (V : VV) (x1 x2 x3 x5 x6 s0 : Int) (M : Mem) (Q : Int → Mem → Prop) (B80 : Int → Int → Mem → Prop) (B138 : Int → Int → Int → Prop) : Prop :=
  wp_X10_read_255 V x1 x2 x3 x5 x6 0 s0 M Q B80 B138
theorem swp_X10_read_254 {X : XX} {Q : Int → Mem → Prop} (G : GX X cX10_read "TreeHandsModel") (Z : RX X 0 Q) (hn : nLX X = 7) (hr : roomX X = rm_X10_read) (x1 x2 x3 x5 x6 s0 : Int) (M : Mem) (B80 : Int → Int → Mem → Prop) (B138 : Int → Int → Int → Prop) (k80 : ∀ (z2 z3 : Int) (N : Mem), B80 z2 z3 N → AW X 80 [(20, 203), (0, x1), (0, z2), (0, z3), (99, 0), (99, 0), (99, 0)] [] N) (k138 : ∀ (z4 z5 z6 : Int), B138 z4 z5 z6 → AW X 138 [(20, 203), (0, x1), (0, x2), (0, x3), (0, z4), (0, z5), (0, z6)] [] M) (h : wp_X10_read_254 (vX X) x1 x2 x3 x5 x6 s0 M Q B80 B138) : AW X 254 [(20, 203), (0, x1), (0, x2), (0, x3), (99, 0), (0, x5), (0, x6)] [(0, s0)] M := by
  unfold wp_X10_read_254 at h
  refine am_iconst (pc := 254) G dX10_read_254 (by decide) ?_
  refine am_le (ls' := [(20, _), (0, _), (0, _), (0, _), (99, 0), (0, _), (0, _)]) ⟨Or.inr rfl, ⟨Or.inr rfl, ⟨Or.inr rfl, ⟨Or.inr rfl, ⟨Or.inl rfl, ⟨Or.inr rfl, ⟨Or.inr rfl, trivial⟩⟩⟩⟩⟩⟩⟩ ?_
  exact swp_X10_read_255 G Z hn hr _ _ _ _ _ _ _ _ B80 B138 k80 k138 h
def wp_X10_read_215 (V : VV) (x1 x2 x3 x4 x6 s0 s1 : Int) (M : Mem) (Q : Int → Mem → Prop) (B80 : Int → Int → Mem → Prop) (B138 : Int → Int → Int → Prop) : Prop :=
  (w32 (s1 + s0) = 1 →
    ((0 : Int) ≤ x6 ∧ x6 < (60 : Int)) ∧
    (M 207 x6 = 40 →
      wp_X10_read_254 V x1 x2 x3 (w32 (s1 + s0)) x6 x4 M Q B80 B138) ∧ (¬ (M 207 x6 = 40) →
      ((0 : Int) ≤ x6 ∧ x6 < (60 : Int)) ∧
      (M 207 x6 = 41 →
        wp_X10_read_254 V x1 x2 x3 (w32 (s1 + s0)) x6 x4 M Q B80 B138) ∧ (¬ (M 207 x6 = 41) →
        wp_X10_read_255 V x1 x2 x3 (w32 (s1 + s0)) x6 1 x4 M Q B80 B138))) ∧ (¬ (w32 (s1 + s0) = 1) →
    wp_X10_read_254 V x1 x2 x3 (w32 (s1 + s0)) x6 x4 M Q B80 B138)
theorem swp_X10_read_215 {X : XX} {Q : Int → Mem → Prop} (G : GX X cX10_read "TreeHandsModel") (Z : RX X 0 Q) (hn : nLX X = 7) (hr : roomX X = rm_X10_read) (x1 x2 x3 x4 x6 s0 s1 : Int) (M : Mem) (B80 : Int → Int → Mem → Prop) (B138 : Int → Int → Int → Prop) (k80 : ∀ (z2 z3 : Int) (N : Mem), B80 z2 z3 N → AW X 80 [(20, 203), (0, x1), (0, z2), (0, z3), (99, 0), (99, 0), (99, 0)] [] N) (k138 : ∀ (z4 z5 z6 : Int), B138 z4 z5 z6 → AW X 138 [(20, 203), (0, x1), (0, x2), (0, x3), (0, z4), (0, z5), (0, z6)] [] M) (h : wp_X10_read_215 (vX X) x1 x2 x3 x4 x6 s0 s1 M Q B80 B138) : AW X 215 [(20, 203), (0, x1), (0, x2), (0, x3), (0, x4), (99, 0), (0, x6)] [(0, s0), (0, s1)] M := by
  unfold wp_X10_read_215 at h
  refine am_iadd (pc := 215) G dX10_read_215 ?_
  refine am_istore (pc := 216) G dX10_read_216 (nlx hn rfl) rfl ?_
  refine am_iload (pc := 218) (ls := [(20, _), (0, _), (0, _), (0, _), (0, _), (0, _), (0, _)]) G dX10_read_218 rfl ?_
  refine am_iload (pc := 220) G dX10_read_220 rfl ?_
  refine am_iconst (pc := 222) G dX10_read_222 (by decide) ?_
  refine am_icmp_ne (pc := 223) G 254 dX10_read_223 (by decide) (fun c => ?_) (fun c => ?_)
  · have h := h.2 c
    refine am_le (ls' := [(20, _), (0, _), (0, _), (0, _), (99, 0), (0, _), (0, _)]) ⟨Or.inr rfl, ⟨Or.inr rfl, ⟨Or.inr rfl, ⟨Or.inr rfl, ⟨Or.inl rfl, ⟨Or.inr rfl, ⟨Or.inr rfl, trivial⟩⟩⟩⟩⟩⟩⟩ ?_
    exact swp_X10_read_254 G Z hn hr _ _ _ _ _ _ _ B80 B138 k80 k138 h
  · have h := h.1 c
    refine am_aload_n (i := 0) (t := 17) (pc := 226) G dX10_read_226 rfl rfl rfl ?_
    refine gf_X10_4 (pc := 227) G dX10_read_227 tw_f_RX10_19 ?_
    refine am_iload (pc := 230) G dX10_read_230 rfl ?_
    refine am_iald (pc := 232) G 60 dX10_read_232 (by decide) h.1 ?_
    have h := h.2
    refine am_bipush (pc := 233) G dX10_read_233 (by decide) (by decide) ?_
    refine am_icmp_eq (pc := 235) G 254 dX10_read_235 (by decide) (fun c => ?_) (fun c => ?_)
    · have h := h.1 c
      refine am_le (ls' := [(20, _), (0, _), (0, _), (0, _), (99, 0), (0, _), (0, _)]) ⟨Or.inr rfl, ⟨Or.inr rfl, ⟨Or.inr rfl, ⟨Or.inr rfl, ⟨Or.inl rfl, ⟨Or.inr rfl, ⟨Or.inr rfl, trivial⟩⟩⟩⟩⟩⟩⟩ ?_
      exact swp_X10_read_254 G Z hn hr _ _ _ _ _ _ _ B80 B138 k80 k138 h
    · have h := h.2 c
      refine am_aload_n (i := 0) (t := 17) (pc := 238) G dX10_read_238 rfl rfl rfl ?_
      refine gf_X10_4 (pc := 239) G dX10_read_239 tw_f_RX10_19 ?_
      refine am_iload (pc := 242) G dX10_read_242 rfl ?_
      refine am_iald (pc := 244) G 60 dX10_read_244 (by decide) h.1 ?_
      have h := h.2
      refine am_bipush (pc := 245) G dX10_read_245 (by decide) (by decide) ?_
      refine am_icmp_eq (pc := 247) G 254 dX10_read_247 (by decide) (fun c => ?_) (fun c => ?_)
      · have h := h.1 c
        refine am_le (ls' := [(20, _), (0, _), (0, _), (0, _), (99, 0), (0, _), (0, _)]) ⟨Or.inr rfl, ⟨Or.inr rfl, ⟨Or.inr rfl, ⟨Or.inr rfl, ⟨Or.inl rfl, ⟨Or.inr rfl, ⟨Or.inr rfl, trivial⟩⟩⟩⟩⟩⟩⟩ ?_
        exact swp_X10_read_254 G Z hn hr _ _ _ _ _ _ _ B80 B138 k80 k138 h
      · have h := h.2 c
        refine am_iconst (pc := 250) G dX10_read_250 (by decide) ?_
        refine am_goto (pc := 251) G 255 dX10_read_251 (by decide) ?_
        refine am_le (ls' := [(20, _), (0, _), (0, _), (0, _), (99, 0), (0, _), (0, _)]) ⟨Or.inr rfl, ⟨Or.inr rfl, ⟨Or.inr rfl, ⟨Or.inr rfl, ⟨Or.inl rfl, ⟨Or.inr rfl, ⟨Or.inr rfl, trivial⟩⟩⟩⟩⟩⟩⟩ ?_
        exact swp_X10_read_255 G Z hn hr _ _ _ _ _ _ _ _ B80 B138 k80 k138 h
def wp_X10_read_180 (V : VV) (x1 x2 x3 x4 x5 x6 : Int) (M : Mem) (Q : Int → Mem → Prop) (B80 : Int → Int → Mem → Prop) (B138 : Int → Int → Int → Prop) : Prop :=
  ((0 : Int) ≤ x6 ∧ x6 < (60 : Int)) ∧
  (M 207 x6 = 40 →
    wp_X10_read_215 V x1 x2 x3 x4 x6 1 x5 M Q B80 B138) ∧ (¬ (M 207 x6 = 40) →
    ((0 : Int) ≤ x6 ∧ x6 < (60 : Int)) ∧
    (M 207 x6 = 41 →
      wp_X10_read_215 V x1 x2 x3 x4 x6 (-1) x5 M Q B80 B138) ∧ (¬ (M 207 x6 = 41) →
      wp_X10_read_215 V x1 x2 x3 x4 x6 0 x5 M Q B80 B138))
theorem swp_X10_read_180 {X : XX} {Q : Int → Mem → Prop} (G : GX X cX10_read "TreeHandsModel") (Z : RX X 0 Q) (hn : nLX X = 7) (hr : roomX X = rm_X10_read) (x1 x2 x3 x4 x5 x6 : Int) (M : Mem) (B80 : Int → Int → Mem → Prop) (B138 : Int → Int → Int → Prop) (k80 : ∀ (z2 z3 : Int) (N : Mem), B80 z2 z3 N → AW X 80 [(20, 203), (0, x1), (0, z2), (0, z3), (99, 0), (99, 0), (99, 0)] [] N) (k138 : ∀ (z4 z5 z6 : Int), B138 z4 z5 z6 → AW X 138 [(20, 203), (0, x1), (0, x2), (0, x3), (0, z4), (0, z5), (0, z6)] [] M) (h : wp_X10_read_180 (vX X) x1 x2 x3 x4 x5 x6 M Q B80 B138) : AW X 180 [(20, 203), (0, x1), (0, x2), (0, x3), (0, x4), (0, x5), (0, x6)] [] M := by
  unfold wp_X10_read_180 at h
  refine am_iload (pc := 180) G dX10_read_180 rfl ?_
  refine am_aload_n (i := 0) (t := 17) (pc := 182) G dX10_read_182 rfl rfl rfl ?_
  refine gf_X10_4 (pc := 183) G dX10_read_183 tw_f_RX10_19 ?_
  refine am_iload (pc := 186) G dX10_read_186 rfl ?_
  refine am_iald (pc := 188) G 60 dX10_read_188 (by decide) h.1 ?_
  have h := h.2
  refine am_bipush (pc := 189) G dX10_read_189 (by decide) (by decide) ?_
  refine am_icmp_ne (pc := 191) G 198 dX10_read_191 (by decide) (fun c => ?_) (fun c => ?_)
  · have h := h.2 c
    refine am_aload_n (i := 0) (t := 17) (pc := 198) G dX10_read_198 rfl rfl rfl ?_
    refine gf_X10_4 (pc := 199) G dX10_read_199 tw_f_RX10_19 ?_
    refine am_iload (pc := 202) G dX10_read_202 rfl ?_
    refine am_iald (pc := 204) G 60 dX10_read_204 (by decide) h.1 ?_
    have h := h.2
    refine am_bipush (pc := 205) G dX10_read_205 (by decide) (by decide) ?_
    refine am_icmp_ne (pc := 207) G 214 dX10_read_207 (by decide) (fun c => ?_) (fun c => ?_)
    · have h := h.2 c
      refine am_iconst (pc := 214) G dX10_read_214 (by decide) ?_
      refine am_le (ls' := [(20, _), (0, _), (0, _), (0, _), (0, _), (99, 0), (0, _)]) ⟨Or.inr rfl, ⟨Or.inr rfl, ⟨Or.inr rfl, ⟨Or.inr rfl, ⟨Or.inr rfl, ⟨Or.inl rfl, ⟨Or.inr rfl, trivial⟩⟩⟩⟩⟩⟩⟩ ?_
      exact swp_X10_read_215 G Z hn hr _ _ _ _ _ _ _ _ B80 B138 k80 k138 h
    · have h := h.1 c
      refine am_iconst (pc := 210) G dX10_read_210 (by decide) ?_
      refine am_goto (pc := 211) G 215 dX10_read_211 (by decide) ?_
      refine am_le (ls' := [(20, _), (0, _), (0, _), (0, _), (0, _), (99, 0), (0, _)]) ⟨Or.inr rfl, ⟨Or.inr rfl, ⟨Or.inr rfl, ⟨Or.inr rfl, ⟨Or.inr rfl, ⟨Or.inl rfl, ⟨Or.inr rfl, trivial⟩⟩⟩⟩⟩⟩⟩ ?_
      exact swp_X10_read_215 G Z hn hr _ _ _ _ _ _ _ _ B80 B138 k80 k138 h
  · have h := h.1 c
    refine am_iconst (pc := 194) G dX10_read_194 (by decide) ?_
    refine am_goto (pc := 195) G 215 dX10_read_195 (by decide) ?_
    refine am_le (ls' := [(20, _), (0, _), (0, _), (0, _), (0, _), (99, 0), (0, _)]) ⟨Or.inr rfl, ⟨Or.inr rfl, ⟨Or.inr rfl, ⟨Or.inr rfl, ⟨Or.inr rfl, ⟨Or.inl rfl, ⟨Or.inr rfl, trivial⟩⟩⟩⟩⟩⟩⟩ ?_
    exact swp_X10_read_215 G Z hn hr _ _ _ _ _ _ _ _ B80 B138 k80 k138 h
def wp_X10_read_167 (V : VV) (x1 x2 x3 x4 x5 x6 : Int) (M : Mem) (Q : Int → Mem → Prop) (B80 : Int → Int → Mem → Prop) (B138 : Int → Int → Int → Prop) : Prop :=
  (x6 = w32 (x3 + 1) →
    wp_X10_read_180 V x1 x2 x3 x4 x5 x6 M Q B80 B138) ∧ (¬ (x6 = w32 (x3 + 1)) →
    (x5 ≤ 0 →
      wp_X10_read_264 V x1 x2 x3 x4 M Q B80) ∧ (¬ (x5 ≤ 0) →
      wp_X10_read_180 V x1 x2 x3 x4 x5 x6 M Q B80 B138))
theorem swp_X10_read_167 {X : XX} {Q : Int → Mem → Prop} (G : GX X cX10_read "TreeHandsModel") (Z : RX X 0 Q) (hn : nLX X = 7) (hr : roomX X = rm_X10_read) (x1 x2 x3 x4 x5 x6 : Int) (M : Mem) (B80 : Int → Int → Mem → Prop) (B138 : Int → Int → Int → Prop) (k80 : ∀ (z2 z3 : Int) (N : Mem), B80 z2 z3 N → AW X 80 [(20, 203), (0, x1), (0, z2), (0, z3), (99, 0), (99, 0), (99, 0)] [] N) (k138 : ∀ (z4 z5 z6 : Int), B138 z4 z5 z6 → AW X 138 [(20, 203), (0, x1), (0, x2), (0, x3), (0, z4), (0, z5), (0, z6)] [] M) (h : wp_X10_read_167 (vX X) x1 x2 x3 x4 x5 x6 M Q B80 B138) : AW X 167 [(20, 203), (0, x1), (0, x2), (0, x3), (0, x4), (0, x5), (0, x6)] [] M := by
  unfold wp_X10_read_167 at h
  refine am_iload (pc := 167) G dX10_read_167 rfl ?_
  refine am_iload_n (i := 3) (pc := 169) G dX10_read_169 rfl rfl ?_
  refine am_iconst (pc := 170) G dX10_read_170 (by decide) ?_
  refine am_iadd (pc := 171) G dX10_read_171 ?_
  refine am_icmp_eq (pc := 172) G 180 dX10_read_172 (by decide) (fun c => ?_) (fun c => ?_)
  · have h := h.1 c
    refine am_le (ls' := [(20, _), (0, _), (0, _), (0, _), (0, _), (0, _), (0, _)]) ⟨Or.inr rfl, ⟨Or.inr rfl, ⟨Or.inr rfl, ⟨Or.inr rfl, ⟨Or.inr rfl, ⟨Or.inr rfl, ⟨Or.inr rfl, trivial⟩⟩⟩⟩⟩⟩⟩ ?_
    exact swp_X10_read_180 G Z hn hr _ _ _ _ _ _ _ B80 B138 k80 k138 h
  · have h := h.2 c
    refine am_iload (pc := 175) G dX10_read_175 rfl ?_
    refine am_if_le (pc := 177) G 264 dX10_read_177 (by decide) (fun c => ?_) (fun c => ?_)
    · have h := h.1 c
      refine am_le (ls' := [(20, _), (0, _), (0, _), (0, _), (0, _), (99, 0), (99, 0)]) ⟨Or.inr rfl, ⟨Or.inr rfl, ⟨Or.inr rfl, ⟨Or.inr rfl, ⟨Or.inr rfl, ⟨Or.inl rfl, ⟨Or.inl rfl, trivial⟩⟩⟩⟩⟩⟩⟩ ?_
      exact swp_X10_read_264 G Z hn hr _ _ _ _ _ B80 k80 h
    · have h := h.2 c
      refine am_le (ls' := [(20, _), (0, _), (0, _), (0, _), (0, _), (0, _), (0, _)]) ⟨Or.inr rfl, ⟨Or.inr rfl, ⟨Or.inr rfl, ⟨Or.inr rfl, ⟨Or.inr rfl, ⟨Or.inr rfl, ⟨Or.inr rfl, trivial⟩⟩⟩⟩⟩⟩⟩ ?_
      exact swp_X10_read_180 G Z hn hr _ _ _ _ _ _ _ B80 B138 k80 k138 h
def wp_X10_read_138_b (V : VV) (x1 x2 x3 x4 x5 x6 : Int) (M : Mem) (Q : Int → Mem → Prop) (B80 : Int → Int → Mem → Prop) (B138 : Int → Int → Int → Prop) : Prop :=
  (M 203 3 ≤ x6 →
    wp_X10_read_264 V x1 x2 x3 x4 M Q B80) ∧ (¬ (M 203 3 ≤ x6) →
    (w32 (x3 + 1) < x6 →
      wp_X10_read_167 V x1 x2 x3 x4 x5 x6 M Q B80 B138) ∧ (¬ (w32 (x3 + 1) < x6) →
      ((0 : Int) ≤ x6 ∧ x6 < (60 : Int)) ∧
      (M 207 x6 = 40 →
        wp_X10_read_167 V x1 x2 x3 x4 x5 x6 M Q B80 B138) ∧ (¬ (M 207 x6 = 40) →
        wp_X10_read_264 V x1 x2 x3 x4 M Q B80)))
theorem swp_X10_read_138_b {X : XX} {Q : Int → Mem → Prop} (G : GX X cX10_read "TreeHandsModel") (Z : RX X 0 Q) (hn : nLX X = 7) (hr : roomX X = rm_X10_read) (x1 x2 x3 x4 x5 x6 : Int) (M : Mem) (B80 : Int → Int → Mem → Prop) (k80 : ∀ (z2 z3 : Int) (N : Mem), B80 z2 z3 N → AW X 80 [(20, 203), (0, x1), (0, z2), (0, z3), (99, 0), (99, 0), (99, 0)] [] N) (B138 : Int → Int → Int → Prop) (k138 : ∀ (z4 z5 z6 : Int), B138 z4 z5 z6 → AW X 138 [(20, 203), (0, x1), (0, x2), (0, x3), (0, z4), (0, z5), (0, z6)] [] M) (h : wp_X10_read_138_b (vX X) x1 x2 x3 x4 x5 x6 M Q B80 B138) : AW X 138 [(20, 203), (0, x1), (0, x2), (0, x3), (0, x4), (0, x5), (0, x6)] [] M := by
  unfold wp_X10_read_138_b at h
  refine am_iload (pc := 138) G dX10_read_138 rfl ?_
  refine am_aload_n (i := 0) (t := 17) (pc := 140) G dX10_read_140 rfl rfl rfl ?_
  refine gf_X10_3 (pc := 141) G dX10_read_141 tw_f_RX10_118 ?_
  refine am_icmp_ge (pc := 144) G 264 dX10_read_144 (by decide) (fun c => ?_) (fun c => ?_)
  · have h := h.1 c
    refine am_le (ls' := [(20, _), (0, _), (0, _), (0, _), (0, _), (99, 0), (99, 0)]) ⟨Or.inr rfl, ⟨Or.inr rfl, ⟨Or.inr rfl, ⟨Or.inr rfl, ⟨Or.inr rfl, ⟨Or.inl rfl, ⟨Or.inl rfl, trivial⟩⟩⟩⟩⟩⟩⟩ ?_
    exact swp_X10_read_264 G Z hn hr _ _ _ _ _ B80 k80 h
  · have h := h.2 c
    refine am_iload (pc := 147) G dX10_read_147 rfl ?_
    refine am_iload_n (i := 3) (pc := 149) G dX10_read_149 rfl rfl ?_
    refine am_iconst (pc := 150) G dX10_read_150 (by decide) ?_
    refine am_iadd (pc := 151) G dX10_read_151 ?_
    refine am_icmp_gt (pc := 152) G 167 dX10_read_152 (by decide) (fun c => ?_) (fun c => ?_)
    · have h := h.1 c
      refine am_le (ls' := [(20, _), (0, _), (0, _), (0, _), (0, _), (0, _), (0, _)]) ⟨Or.inr rfl, ⟨Or.inr rfl, ⟨Or.inr rfl, ⟨Or.inr rfl, ⟨Or.inr rfl, ⟨Or.inr rfl, ⟨Or.inr rfl, trivial⟩⟩⟩⟩⟩⟩⟩ ?_
      exact swp_X10_read_167 G Z hn hr _ _ _ _ _ _ _ B80 B138 k80 k138 h
    · have h := h.2 c
      refine am_aload_n (i := 0) (t := 17) (pc := 155) G dX10_read_155 rfl rfl rfl ?_
      refine gf_X10_4 (pc := 156) G dX10_read_156 tw_f_RX10_19 ?_
      refine am_iload (pc := 159) G dX10_read_159 rfl ?_
      refine am_iald (pc := 161) G 60 dX10_read_161 (by decide) h.1 ?_
      have h := h.2
      refine am_bipush (pc := 162) G dX10_read_162 (by decide) (by decide) ?_
      refine am_icmp_ne (pc := 164) G 264 dX10_read_164 (by decide) (fun c => ?_) (fun c => ?_)
      · have h := h.2 c
        refine am_le (ls' := [(20, _), (0, _), (0, _), (0, _), (0, _), (99, 0), (99, 0)]) ⟨Or.inr rfl, ⟨Or.inr rfl, ⟨Or.inr rfl, ⟨Or.inr rfl, ⟨Or.inr rfl, ⟨Or.inl rfl, ⟨Or.inl rfl, trivial⟩⟩⟩⟩⟩⟩⟩ ?_
        exact swp_X10_read_264 G Z hn hr _ _ _ _ _ B80 k80 h
      · have h := h.1 c
        refine am_le (ls' := [(20, _), (0, _), (0, _), (0, _), (0, _), (0, _), (0, _)]) ⟨Or.inr rfl, ⟨Or.inr rfl, ⟨Or.inr rfl, ⟨Or.inr rfl, ⟨Or.inr rfl, ⟨Or.inr rfl, ⟨Or.inr rfl, trivial⟩⟩⟩⟩⟩⟩⟩ ?_
        exact swp_X10_read_167 G Z hn hr _ _ _ _ _ _ _ B80 B138 k80 k138 h
def wp_X10_read_138 (V : VV) (x1 x2 x3 x4 x5 x6 : Int) (M : Mem) (Q : Int → Mem → Prop) (B80 : Int → Int → Mem → Prop) : Prop :=
  ∃ (I : Int → Int → Int → Prop) (μ : Int → Int → Int → Nat), I x4 x5 x6 ∧ ∀ (y4 y5 y6 : Int), I y4 y5 y6 → wp_X10_read_138_b V x1 x2 x3 y4 y5 y6 M Q B80 (fun z4 z5 z6 => I z4 z5 z6 ∧ μ z4 z5 z6 < μ y4 y5 y6)
theorem swp_X10_read_138 {X : XX} {Q : Int → Mem → Prop} (G : GX X cX10_read "TreeHandsModel") (Z : RX X 0 Q) (hn : nLX X = 7) (hr : roomX X = rm_X10_read) (x1 x2 x3 x4 x5 x6 : Int) (M : Mem) (B80 : Int → Int → Mem → Prop) (k80 : ∀ (z2 z3 : Int) (N : Mem), B80 z2 z3 N → AW X 80 [(20, 203), (0, x1), (0, z2), (0, z3), (99, 0), (99, 0), (99, 0)] [] N) (h : wp_X10_read_138 (vX X) x1 x2 x3 x4 x5 x6 M Q B80) : AW X 138 [(20, 203), (0, x1), (0, x2), (0, x3), (0, x4), (0, x5), (0, x6)] [] M := by
  unfold wp_X10_read_138 at h
  obtain ⟨I, μ, hI, hs⟩ := h
  have key : ∀ (n : Nat) (y4 y5 y6 : Int), μ y4 y5 y6 < n → I y4 y5 y6 → AW X 138 [(20, 203), (0, x1), (0, x2), (0, x3), (0, y4), (0, y5), (0, y6)] [] M := by
    intro n
    induction n with
    | zero => intro y4 y5 y6 hlt; exact absurd hlt (Nat.not_lt_zero _)
    | succ n ih =>
      intro y4 y5 y6 hlt hI
      exact swp_X10_read_138_b G Z hn hr x1 x2 x3 y4 y5 y6 M B80 k80 (fun z4 z5 z6 => I z4 z5 z6 ∧ μ z4 z5 z6 < μ y4 y5 y6) (fun z4 z5 z6 hz => ih z4 z5 z6 (by omega) hz.1) (hs y4 y5 y6 hI)
  exact key _ x4 x5 x6 (Nat.lt_succ_self _) hI
def wp_X10_read_80_b (V : VV) (x1 x2 x3 : Int) (M : Mem) (Q : Int → Mem → Prop) (B80 : Int → Int → Mem → Prop) : Prop :=
  (M 203 3 ≤ x3 →
    ((0 : Int) ≤ x1 ∧ x1 < (21 : Int)) ∧
    ∀ M5 : Mem, M5 = mset M 204 x1 x2 →
    Q x2 (mset M5 203 3 0)) ∧ (¬ (M 203 3 ≤ x3) →
    ((0 : Int) ≤ x3 ∧ x3 < (60 : Int)) ∧
    (M 207 x3 = 40 →
      B80 x2 (w32 (x3 + 1)) M) ∧ (¬ (M 207 x3 = 40) →
      ((0 : Int) ≤ x3 ∧ x3 < (60 : Int)) ∧
      (M 207 x3 = 41 →
        B80 x2 (w32 (x3 + 1)) M) ∧ (¬ (M 207 x3 = 41) →
        ((0 : Int) ≤ x3 ∧ x3 < (60 : Int)) ∧
        ((0 : Int) ≤ w32 (w32 (32 * x1) + x2) ∧ w32 (w32 (32 * x1) + x2) < (672 : Int)) ∧
        wp_X10_read_138 V x1 x2 x3 0 0 (w32 (x3 + 1)) (mset M 205 (w32 (w32 (32 * x1) + x2)) (M 207 x3)) Q B80)))
theorem swp_X10_read_80_b {X : XX} {Q : Int → Mem → Prop} (G : GX X cX10_read "TreeHandsModel") (Z : RX X 0 Q) (hn : nLX X = 7) (hr : roomX X = rm_X10_read) (x1 x2 x3 : Int) (M : Mem) (B80 : Int → Int → Mem → Prop) (k80 : ∀ (z2 z3 : Int) (N : Mem), B80 z2 z3 N → AW X 80 [(20, 203), (0, x1), (0, z2), (0, z3), (99, 0), (99, 0), (99, 0)] [] N) (h : wp_X10_read_80_b (vX X) x1 x2 x3 M Q B80) : AW X 80 [(20, 203), (0, x1), (0, x2), (0, x3), (99, 0), (99, 0), (99, 0)] [] M := by
  unfold wp_X10_read_80_b at h
  refine am_iload_n (i := 3) (pc := 80) G dX10_read_80 rfl rfl ?_
  refine am_aload_n (i := 0) (t := 17) (pc := 81) G dX10_read_81 rfl rfl rfl ?_
  refine gf_X10_3 (pc := 82) G dX10_read_82 tw_f_RX10_118 ?_
  refine am_icmp_ge (pc := 85) G 286 dX10_read_85 (by decide) (fun c => ?_) (fun c => ?_)
  · have h := h.1 c
    refine am_aload_n (i := 0) (t := 17) (pc := 286) G dX10_read_286 rfl rfl rfl ?_
    refine gf_X10_0 (pc := 287) G dX10_read_287 tw_f_RX10_7 ?_
    refine am_iload_n (i := 1) (pc := 290) G dX10_read_290 rfl rfl ?_
    refine am_iload_n (i := 2) (pc := 291) G dX10_read_291 rfl rfl ?_
    refine am_iast (pc := 292) G 21 dX10_read_292 (by decide) h.1 ?_
    have h := h.2
    refine am_aload_n (i := 0) (t := 17) (pc := 293) G dX10_read_293 rfl rfl rfl ?_
    refine am_iconst (pc := 294) G dX10_read_294 (by decide) ?_
    have h := h _ rfl
    refine pf_X10_3 (pc := 295) G dX10_read_295 tw_f_RX10_118 ?_
    refine am_iload_n (i := 2) (pc := 298) G dX10_read_298 rfl rfl ?_
    exact am_iret (pc := 299) G Z dX10_read_299 h
  · have h := h.2 c
    refine am_aload_n (i := 0) (t := 17) (pc := 88) G dX10_read_88 rfl rfl rfl ?_
    refine gf_X10_4 (pc := 89) G dX10_read_89 tw_f_RX10_19 ?_
    refine am_iload_n (i := 3) (pc := 92) G dX10_read_92 rfl rfl ?_
    refine am_iald (pc := 93) G 60 dX10_read_93 (by decide) h.1 ?_
    have h := h.2
    refine am_bipush (pc := 94) G dX10_read_94 (by decide) (by decide) ?_
    refine am_icmp_eq (pc := 96) G 280 dX10_read_96 (by decide) (fun c => ?_) (fun c => ?_)
    · have h := h.1 c
      refine am_iinc (pc := 280) G dX10_read_280 rfl (nlx hn rfl) rfl ?_
      refine am_goto (pc := 283) (ls := [(20, _), (0, _), (0, _), (0, _), (99, _), (99, _), (99, _)]) G 80 dX10_read_283 (by decide) ?_
      refine am_le (ls' := [(20, _), (0, _), (0, _), (0, _), (99, 0), (99, 0), (99, 0)]) ⟨Or.inr rfl, ⟨Or.inr rfl, ⟨Or.inr rfl, ⟨Or.inr rfl, ⟨Or.inl rfl, ⟨Or.inl rfl, ⟨Or.inl rfl, trivial⟩⟩⟩⟩⟩⟩⟩ ?_
      exact k80 _ _ _ h
    · have h := h.2 c
      refine am_aload_n (i := 0) (t := 17) (pc := 99) G dX10_read_99 rfl rfl rfl ?_
      refine gf_X10_4 (pc := 100) G dX10_read_100 tw_f_RX10_19 ?_
      refine am_iload_n (i := 3) (pc := 103) G dX10_read_103 rfl rfl ?_
      refine am_iald (pc := 104) G 60 dX10_read_104 (by decide) h.1 ?_
      have h := h.2
      refine am_bipush (pc := 105) G dX10_read_105 (by decide) (by decide) ?_
      refine am_icmp_eq (pc := 107) G 280 dX10_read_107 (by decide) (fun c => ?_) (fun c => ?_)
      · have h := h.1 c
        refine am_iinc (pc := 280) G dX10_read_280 rfl (nlx hn rfl) rfl ?_
        refine am_goto (pc := 283) (ls := [(20, _), (0, _), (0, _), (0, _), (99, _), (99, _), (99, _)]) G 80 dX10_read_283 (by decide) ?_
        refine am_le (ls' := [(20, _), (0, _), (0, _), (0, _), (99, 0), (99, 0), (99, 0)]) ⟨Or.inr rfl, ⟨Or.inr rfl, ⟨Or.inr rfl, ⟨Or.inr rfl, ⟨Or.inl rfl, ⟨Or.inl rfl, ⟨Or.inl rfl, trivial⟩⟩⟩⟩⟩⟩⟩ ?_
        exact k80 _ _ _ h
      · have h := h.2 c
        refine am_aload_n (i := 0) (t := 17) (pc := 110) G dX10_read_110 rfl rfl rfl ?_
        refine gf_X10_1 (pc := 111) G dX10_read_111 tw_f_RX10_13 ?_
        refine am_bipush (pc := 114) G dX10_read_114 (by decide) (by decide) ?_
        refine am_iload_n (i := 1) (pc := 116) G dX10_read_116 rfl rfl ?_
        refine am_imul (pc := 117) G dX10_read_117 ?_
        refine am_iload_n (i := 2) (pc := 118) G dX10_read_118 rfl rfl ?_
        refine am_iadd (pc := 119) G dX10_read_119 ?_
        refine am_aload_n (i := 0) (t := 17) (pc := 120) G dX10_read_120 rfl rfl rfl ?_
        refine gf_X10_4 (pc := 121) G dX10_read_121 tw_f_RX10_19 ?_
        refine am_iload_n (i := 3) (pc := 124) G dX10_read_124 rfl rfl ?_
        refine am_iald (pc := 125) G 60 dX10_read_125 (by decide) h.1 ?_
        have h := h.2
        refine am_iast (pc := 126) G 672 dX10_read_126 (by decide) h.1 ?_
        have h := h.2
        refine am_iconst (pc := 127) G dX10_read_127 (by decide) ?_
        refine am_istore (pc := 128) G dX10_read_128 (nlx hn rfl) rfl ?_
        refine am_iconst (pc := 130) (ls := [(20, _), (0, _), (0, _), (0, _), (0, _), (99, _), (99, _)]) G dX10_read_130 (by decide) ?_
        refine am_istore (pc := 131) G dX10_read_131 (nlx hn rfl) rfl ?_
        refine am_iload_n (i := 3) (pc := 133) (ls := [(20, _), (0, _), (0, _), (0, _), (0, _), (0, _), (99, _)]) G dX10_read_133 rfl rfl ?_
        refine am_iconst (pc := 134) G dX10_read_134 (by decide) ?_
        refine am_iadd (pc := 135) G dX10_read_135 ?_
        refine am_istore (pc := 136) G dX10_read_136 (nlx hn rfl) rfl ?_
        refine am_le (ls' := [(20, _), (0, _), (0, _), (0, _), (0, _), (0, _), (0, _)]) ⟨Or.inr rfl, ⟨Or.inr rfl, ⟨Or.inr rfl, ⟨Or.inr rfl, ⟨Or.inr rfl, ⟨Or.inr rfl, ⟨Or.inr rfl, trivial⟩⟩⟩⟩⟩⟩⟩ ?_
        exact swp_X10_read_138 G Z hn hr _ _ _ _ _ _ _ B80 k80 h
def wp_X10_read_80 (V : VV) (x1 x2 x3 : Int) (M : Mem) (Q : Int → Mem → Prop) : Prop :=
  ∃ (I : Int → Int → Mem → Prop) (μ : Int → Int → Mem → Nat), I x2 x3 M ∧ ∀ (y2 y3 : Int) (N : Mem), I y2 y3 N → wp_X10_read_80_b V x1 y2 y3 N Q (fun z2 z3 N1 => I z2 z3 N1 ∧ μ z2 z3 N1 < μ y2 y3 N)
theorem swp_X10_read_80 {X : XX} {Q : Int → Mem → Prop} (G : GX X cX10_read "TreeHandsModel") (Z : RX X 0 Q) (hn : nLX X = 7) (hr : roomX X = rm_X10_read) (x1 x2 x3 : Int) (M : Mem) (h : wp_X10_read_80 (vX X) x1 x2 x3 M Q) : AW X 80 [(20, 203), (0, x1), (0, x2), (0, x3), (99, 0), (99, 0), (99, 0)] [] M := by
  unfold wp_X10_read_80 at h
  obtain ⟨I, μ, hI, hs⟩ := h
  have key : ∀ (n : Nat) (y2 y3 : Int) (N : Mem), μ y2 y3 N < n → I y2 y3 N → AW X 80 [(20, 203), (0, x1), (0, y2), (0, y3), (99, 0), (99, 0), (99, 0)] [] N := by
    intro n
    induction n with
    | zero => intro y2 y3 N hlt; exact absurd hlt (Nat.not_lt_zero _)
    | succ n ih =>
      intro y2 y3 N hlt hI
      exact swp_X10_read_80_b G Z hn hr x1 y2 y3 N (fun z2 z3 N1 => I z2 z3 N1 ∧ μ z2 z3 N1 < μ y2 y3 N) (fun z2 z3 N1 hz => ih z2 z3 N1 (by omega) hz.1) (hs y2 y3 N hI)
  exact key _ x2 x3 M (Nat.lt_succ_self _) hI
def wp_X10_read_59 (V : VV) (x1 x3 s0 s1 : Int) (M : Mem) (Q : Int → Mem → Prop) (B23 : Int → Int → Prop) : Prop :=
  B23 (w32 (s1 + s0)) (w32 (x3 + 1))
theorem swp_X10_read_59 {X : XX} {Q : Int → Mem → Prop} (G : GX X cX10_read "TreeHandsModel") (Z : RX X 0 Q) (hn : nLX X = 7) (hr : roomX X = rm_X10_read) (x1 x3 s0 s1 : Int) (M : Mem) (B23 : Int → Int → Prop) (k23 : ∀ (z2 z3 : Int), B23 z2 z3 → AW X 23 [(20, 203), (0, x1), (0, z2), (0, z3), (99, 0), (99, 0), (99, 0)] [] M) (h : wp_X10_read_59 (vX X) x1 x3 s0 s1 M Q B23) : AW X 59 [(20, 203), (0, x1), (99, 0), (0, x3), (99, 0), (99, 0), (99, 0)] [(0, s0), (0, s1)] M := by
  unfold wp_X10_read_59 at h
  refine am_iadd (pc := 59) G dX10_read_59 ?_
  refine am_istore_n (pc := 60) G dX10_read_60 rfl (nlx hn rfl) rfl ?_
  refine am_iinc (pc := 61) (ls := [(20, _), (0, _), (0, _), (0, _), (99, _), (99, _), (99, _)]) G dX10_read_61 rfl (nlx hn rfl) rfl ?_
  refine am_goto (pc := 64) (ls := [(20, _), (0, _), (0, _), (0, _), (99, _), (99, _), (99, _)]) G 23 dX10_read_64 (by decide) ?_
  refine am_le (ls' := [(20, _), (0, _), (0, _), (0, _), (99, 0), (99, 0), (99, 0)]) ⟨Or.inr rfl, ⟨Or.inr rfl, ⟨Or.inr rfl, ⟨Or.inr rfl, ⟨Or.inl rfl, ⟨Or.inl rfl, ⟨Or.inl rfl, trivial⟩⟩⟩⟩⟩⟩⟩ ?_
  exact k23 _ _ h
def wp_X10_read_54 (V : VV) (x1 x3 s0 : Int) (M : Mem) (Q : Int → Mem → Prop) (B23 : Int → Int → Prop) : Prop :=
  wp_X10_read_59 V x1 x3 0 s0 M Q B23
theorem swp_X10_read_54 {X : XX} {Q : Int → Mem → Prop} (G : GX X cX10_read "TreeHandsModel") (Z : RX X 0 Q) (hn : nLX X = 7) (hr : roomX X = rm_X10_read) (x1 x3 s0 : Int) (M : Mem) (B23 : Int → Int → Prop) (k23 : ∀ (z2 z3 : Int), B23 z2 z3 → AW X 23 [(20, 203), (0, x1), (0, z2), (0, z3), (99, 0), (99, 0), (99, 0)] [] M) (h : wp_X10_read_54 (vX X) x1 x3 s0 M Q B23) : AW X 54 [(20, 203), (0, x1), (99, 0), (0, x3), (99, 0), (99, 0), (99, 0)] [(0, s0)] M := by
  unfold wp_X10_read_54 at h
  refine am_iconst (pc := 54) G dX10_read_54 (by decide) ?_
  refine am_goto (pc := 55) G 59 dX10_read_55 (by decide) ?_
  refine am_le (ls' := [(20, _), (0, _), (99, 0), (0, _), (99, 0), (99, 0), (99, 0)]) ⟨Or.inr rfl, ⟨Or.inr rfl, ⟨Or.inl rfl, ⟨Or.inr rfl, ⟨Or.inl rfl, ⟨Or.inl rfl, ⟨Or.inl rfl, trivial⟩⟩⟩⟩⟩⟩⟩ ?_
  exact swp_X10_read_59 G Z hn hr _ _ _ _ _ B23 k23 h
def wp_X10_read_23_b (V : VV) (x1 x2 x3 : Int) (M : Mem) (Q : Int → Mem → Prop) (B23 : Int → Int → Prop) : Prop :=
  (M 203 3 ≤ x3 →
    (x2 ≤ 16 →
      wp_X10_read_80 V x1 0 0 M Q) ∧ (¬ (x2 ≤ 16) →
      Q (-4) M)) ∧ (¬ (M 203 3 ≤ x3) →
    ((0 : Int) ≤ x3 ∧ x3 < (60 : Int)) ∧
    (M 207 x3 = 40 →
      wp_X10_read_54 V x1 x3 x2 M Q B23) ∧ (¬ (M 207 x3 = 40) →
      ((0 : Int) ≤ x3 ∧ x3 < (60 : Int)) ∧
      (M 207 x3 = 41 →
        wp_X10_read_54 V x1 x3 x2 M Q B23) ∧ (¬ (M 207 x3 = 41) →
        wp_X10_read_59 V x1 x3 1 x2 M Q B23)))
theorem swp_X10_read_23_b {X : XX} {Q : Int → Mem → Prop} (G : GX X cX10_read "TreeHandsModel") (Z : RX X 0 Q) (hn : nLX X = 7) (hr : roomX X = rm_X10_read) (x1 x2 x3 : Int) (M : Mem) (B23 : Int → Int → Prop) (k23 : ∀ (z2 z3 : Int), B23 z2 z3 → AW X 23 [(20, 203), (0, x1), (0, z2), (0, z3), (99, 0), (99, 0), (99, 0)] [] M) (h : wp_X10_read_23_b (vX X) x1 x2 x3 M Q B23) : AW X 23 [(20, 203), (0, x1), (0, x2), (0, x3), (99, 0), (99, 0), (99, 0)] [] M := by
  unfold wp_X10_read_23_b at h
  refine am_iload_n (i := 3) (pc := 23) G dX10_read_23 rfl rfl ?_
  refine am_aload_n (i := 0) (t := 17) (pc := 24) G dX10_read_24 rfl rfl rfl ?_
  refine gf_X10_3 (pc := 25) G dX10_read_25 tw_f_RX10_118 ?_
  refine am_icmp_ge (pc := 28) G 67 dX10_read_28 (by decide) (fun c => ?_) (fun c => ?_)
  · have h := h.1 c
    refine am_iload_n (i := 2) (pc := 67) G dX10_read_67 rfl rfl ?_
    refine am_bipush (pc := 68) G dX10_read_68 (by decide) (by decide) ?_
    refine am_icmp_le (pc := 70) G 76 dX10_read_70 (by decide) (fun c => ?_) (fun c => ?_)
    · have h := h.1 c
      refine am_iconst (pc := 76) G dX10_read_76 (by decide) ?_
      refine am_istore_n (pc := 77) G dX10_read_77 rfl (nlx hn rfl) rfl ?_
      refine am_iconst (pc := 78) (ls := [(20, _), (0, _), (0, _), (0, _), (99, _), (99, _), (99, _)]) G dX10_read_78 (by decide) ?_
      refine am_istore_n (pc := 79) G dX10_read_79 rfl (nlx hn rfl) rfl ?_
      refine am_le (ls' := [(20, _), (0, _), (0, _), (0, _), (99, 0), (99, 0), (99, 0)]) ⟨Or.inr rfl, ⟨Or.inr rfl, ⟨Or.inr rfl, ⟨Or.inr rfl, ⟨Or.inl rfl, ⟨Or.inl rfl, ⟨Or.inl rfl, trivial⟩⟩⟩⟩⟩⟩⟩ ?_
      exact swp_X10_read_80 G Z hn hr _ _ _ _ h
    · have h := h.2 c
      refine am_bipush (pc := 73) G dX10_read_73 (by decide) (by decide) ?_
      exact am_iret (pc := 75) G Z dX10_read_75 h
  · have h := h.2 c
    refine am_iload_n (i := 2) (pc := 31) G dX10_read_31 rfl rfl ?_
    refine am_aload_n (i := 0) (t := 17) (pc := 32) G dX10_read_32 rfl rfl rfl ?_
    refine gf_X10_4 (pc := 33) G dX10_read_33 tw_f_RX10_19 ?_
    refine am_iload_n (i := 3) (pc := 36) G dX10_read_36 rfl rfl ?_
    refine am_iald (pc := 37) G 60 dX10_read_37 (by decide) h.1 ?_
    have h := h.2
    refine am_bipush (pc := 38) G dX10_read_38 (by decide) (by decide) ?_
    refine am_icmp_eq (pc := 40) G 54 dX10_read_40 (by decide) (fun c => ?_) (fun c => ?_)
    · have h := h.1 c
      refine am_le (ls' := [(20, _), (0, _), (99, 0), (0, _), (99, 0), (99, 0), (99, 0)]) ⟨Or.inr rfl, ⟨Or.inr rfl, ⟨Or.inl rfl, ⟨Or.inr rfl, ⟨Or.inl rfl, ⟨Or.inl rfl, ⟨Or.inl rfl, trivial⟩⟩⟩⟩⟩⟩⟩ ?_
      exact swp_X10_read_54 G Z hn hr _ _ _ _ B23 k23 h
    · have h := h.2 c
      refine am_aload_n (i := 0) (t := 17) (pc := 43) G dX10_read_43 rfl rfl rfl ?_
      refine gf_X10_4 (pc := 44) G dX10_read_44 tw_f_RX10_19 ?_
      refine am_iload_n (i := 3) (pc := 47) G dX10_read_47 rfl rfl ?_
      refine am_iald (pc := 48) G 60 dX10_read_48 (by decide) h.1 ?_
      have h := h.2
      refine am_bipush (pc := 49) G dX10_read_49 (by decide) (by decide) ?_
      refine am_icmp_ne (pc := 51) G 58 dX10_read_51 (by decide) (fun c => ?_) (fun c => ?_)
      · have h := h.2 c
        refine am_iconst (pc := 58) G dX10_read_58 (by decide) ?_
        refine am_le (ls' := [(20, _), (0, _), (99, 0), (0, _), (99, 0), (99, 0), (99, 0)]) ⟨Or.inr rfl, ⟨Or.inr rfl, ⟨Or.inl rfl, ⟨Or.inr rfl, ⟨Or.inl rfl, ⟨Or.inl rfl, ⟨Or.inl rfl, trivial⟩⟩⟩⟩⟩⟩⟩ ?_
        exact swp_X10_read_59 G Z hn hr _ _ _ _ _ B23 k23 h
      · have h := h.1 c
        refine am_le (ls' := [(20, _), (0, _), (99, 0), (0, _), (99, 0), (99, 0), (99, 0)]) ⟨Or.inr rfl, ⟨Or.inr rfl, ⟨Or.inl rfl, ⟨Or.inr rfl, ⟨Or.inl rfl, ⟨Or.inl rfl, ⟨Or.inl rfl, trivial⟩⟩⟩⟩⟩⟩⟩ ?_
        exact swp_X10_read_54 G Z hn hr _ _ _ _ B23 k23 h
def wp_X10_read_23 (V : VV) (x1 x2 x3 : Int) (M : Mem) (Q : Int → Mem → Prop) : Prop :=
  ∃ (I : Int → Int → Prop) (μ : Int → Int → Nat), I x2 x3 ∧ ∀ (y2 y3 : Int), I y2 y3 → wp_X10_read_23_b V x1 y2 y3 M Q (fun z2 z3 => I z2 z3 ∧ μ z2 z3 < μ y2 y3)
theorem swp_X10_read_23 {X : XX} {Q : Int → Mem → Prop} (G : GX X cX10_read "TreeHandsModel") (Z : RX X 0 Q) (hn : nLX X = 7) (hr : roomX X = rm_X10_read) (x1 x2 x3 : Int) (M : Mem) (h : wp_X10_read_23 (vX X) x1 x2 x3 M Q) : AW X 23 [(20, 203), (0, x1), (0, x2), (0, x3), (99, 0), (99, 0), (99, 0)] [] M := by
  unfold wp_X10_read_23 at h
  obtain ⟨I, μ, hI, hs⟩ := h
  have key : ∀ (n : Nat) (y2 y3 : Int), μ y2 y3 < n → I y2 y3 → AW X 23 [(20, 203), (0, x1), (0, y2), (0, y3), (99, 0), (99, 0), (99, 0)] [] M := by
    intro n
    induction n with
    | zero => intro y2 y3 hlt; exact absurd hlt (Nat.not_lt_zero _)
    | succ n ih =>
      intro y2 y3 hlt hI
      exact swp_X10_read_23_b G Z hn hr x1 y2 y3 M (fun z2 z3 => I z2 z3 ∧ μ z2 z3 < μ y2 y3) (fun z2 z3 hz => ih z2 z3 (by omega) hz.1) (hs y2 y3 hI)
  exact key _ x2 x3 (Nat.lt_succ_self _) hI
def wp_X10_read (V : VV) (x1 : Int) (M : Mem) (Q : Int → Mem → Prop) : Prop :=
  R_X10_isTree V x1 M (fun r1 M2 =>
  (r1 = 0 →
    Q (-1) M2) ∧ (¬ (r1 = 0) →
    R_X10_faultOf V M2 (fun r3 M4 =>
    (r3 < 0 →
      wp_X10_read_23 V x1 0 0 M4 Q) ∧ (¬ (r3 < 0) →
      Q (-5) M4))))
theorem of_X10_read {V : VV} {x1 : Int} {M : Mem} {Q : Int → Mem → Prop} (h : wp_X10_read V x1 M Q) : R_X10_read V x1 M Q := by
  refine met_in (own := "TreeHandsModel") (by decide +kernel) rfl rfl (Nat.le_of_ble_eq_true rfl) ?_
  intro X G Z hn hr hv
  subst hv
  unfold wp_X10_read at h
  show AW X 0 [(20, 203), (0, x1), (99, 0), (99, 0), (99, 0), (99, 0), (99, 0)] [] M
  refine am_iload_n (i := 1) (pc := 0) G dX10_read_0 rfl rfl ?_
  refine am_callS (rk := 1) (rmc := rm_X10_isTree) (st := []) (pc := 1) G [(0, _)] dX10_read_1 tw_m_RX10_114 tw_s_X10_isTree tw_z_RX10 tw_c_X10_isTree hy_X10_isTree (callrm hr rfl) rfl (RunsM.mono h (fun r1 M2 h => ?_)) Z.rm
  show AW X 4 _ [(0, _)] M2
  refine am_if_ne (pc := 4) G 9 dX10_read_4 (by decide) (fun c => ?_) (fun c => ?_)
  · have h := h.2 c
    refine am_aload_n (i := 0) (t := 17) (pc := 9) G dX10_read_9 rfl rfl rfl ?_
    refine am_callV (rk := 0) (rmc := rm_X10_faultOf) (st := []) (pc := 10) G 10 [] rfl (by decide) rfl dX10_read_10 tw_m_RX10_124 tw_i_X10_faultOf tw_v_X10_faultOf tw_z_RX10 tw_c_X10_faultOf hy_X10_faultOf (callrm hr rfl) rfl (RunsM.mono h (fun r3 M4 h => ?_)) Z.rm
    show AW X 13 _ [(0, _)] M4
    refine am_if_lt (pc := 13) G 19 dX10_read_13 (by decide) (fun c => ?_) (fun c => ?_)
    · have h := h.1 c
      refine am_iconst (pc := 19) G dX10_read_19 (by decide) ?_
      refine am_istore_n (pc := 20) G dX10_read_20 rfl (nlx hn rfl) rfl ?_
      refine am_iconst (pc := 21) (ls := [(20, _), (0, _), (0, _), (99, _), (99, _), (99, _), (99, _)]) G dX10_read_21 (by decide) ?_
      refine am_istore_n (pc := 22) G dX10_read_22 rfl (nlx hn rfl) rfl ?_
      refine am_le (ls' := [(20, _), (0, _), (0, _), (0, _), (99, 0), (99, 0), (99, 0)]) ⟨Or.inr rfl, ⟨Or.inr rfl, ⟨Or.inr rfl, ⟨Or.inr rfl, ⟨Or.inl rfl, ⟨Or.inl rfl, ⟨Or.inl rfl, trivial⟩⟩⟩⟩⟩⟩⟩ ?_
      exact swp_X10_read_23 G Z hn hr _ _ _ _ h
    · have h := h.2 c
      refine am_bipush (pc := 16) G dX10_read_16 (by decide) (by decide) ?_
      exact am_iret (pc := 18) G Z dX10_read_18 h
  · have h := h.1 c
    refine am_iconst (pc := 7) G dX10_read_7 (by decide) ?_
    exact am_iret (pc := 8) G Z dX10_read_8 h
-- X10_sizeOf TreeHandsModel.sizeOf(II)I
def rm_X10_sizeOf : Room := { frames := 0, cells := 0, slots := 0, locals := 0 }
theorem hy_X10_sizeOf : yX10_sizeOf.cls ≠ "java/lang/invoke/MethodHandle" ∧ yX10_sizeOf.cls ≠ "java/lang/invoke/VarHandle" ∧ (parseMethodDescriptor yX10_sizeOf.desc).map (fun d => d.parameters.length) = some 2 := by decide +kernel
abbrev R_X10_sizeOf (V : VV) (x1 x2 : Int) (M : Mem) (Q : Int → Mem → Prop) : Prop := RunsM V yX10_sizeOf (.code yX10_sizeOf cX10_sizeOf 5 (Option.some Jvm.ClassFile.FieldType.int)) rm_X10_sizeOf 0 [(20, 203), (0, x1), (0, x2)] M Q
def wp_X10_sizeOf_5_b (V : VV) (x1 x2 x3 x4 : Int) (M : Mem) (Q : Int → Mem → Prop) (B5 : Int → Int → Prop) : Prop :=
  (x3 ≤ 0 →
    Q (w32 (x4 - x2)) M) ∧ (¬ (x3 ≤ 0) →
    ((0 : Int) ≤ w32 (w32 (32 * x1) + x4) ∧ w32 (w32 (32 * x1) + x4) < (672 : Int)) ∧
    ∀ v1 : Int, v1 = w32 (x3 + w32 (M 206 (w32 (w32 (32 * x1) + x4)) - 1)) →
    B5 v1 (w32 (x4 + 1)))
theorem swp_X10_sizeOf_5_b {X : XX} {Q : Int → Mem → Prop} (G : GX X cX10_sizeOf "TreeHandsModel") (Z : RX X 0 Q) (hn : nLX X = 5) (hr : roomX X = rm_X10_sizeOf) (x1 x2 x3 x4 : Int) (M : Mem) (B5 : Int → Int → Prop) (k5 : ∀ (z3 z4 : Int), B5 z3 z4 → AW X 5 [(20, 203), (0, x1), (0, x2), (0, z3), (0, z4)] [] M) (h : wp_X10_sizeOf_5_b (vX X) x1 x2 x3 x4 M Q B5) : AW X 5 [(20, 203), (0, x1), (0, x2), (0, x3), (0, x4)] [] M := by
  unfold wp_X10_sizeOf_5_b at h
  refine am_iload_n (i := 3) (pc := 5) G dX10_sizeOf_5 rfl rfl ?_
  refine am_if_le (pc := 6) G 32 dX10_sizeOf_6 (by decide) (fun c => ?_) (fun c => ?_)
  · have h := h.1 c
    refine am_iload (pc := 32) G dX10_sizeOf_32 rfl ?_
    refine am_iload_n (i := 2) (pc := 34) G dX10_sizeOf_34 rfl rfl ?_
    refine am_isub (pc := 35) G dX10_sizeOf_35 ?_
    exact am_iret (pc := 36) G Z dX10_sizeOf_36 h
  · have h := h.2 c
    refine am_iload_n (i := 3) (pc := 9) G dX10_sizeOf_9 rfl rfl ?_
    refine am_aload_n (i := 0) (t := 17) (pc := 10) G dX10_sizeOf_10 rfl rfl rfl ?_
    refine gf_X10_2 (pc := 11) G dX10_sizeOf_11 tw_f_RX10_16 ?_
    refine am_bipush (pc := 14) G dX10_sizeOf_14 (by decide) (by decide) ?_
    refine am_iload_n (i := 1) (pc := 16) G dX10_sizeOf_16 rfl rfl ?_
    refine am_imul (pc := 17) G dX10_sizeOf_17 ?_
    refine am_iload (pc := 18) G dX10_sizeOf_18 rfl ?_
    refine am_iadd (pc := 20) G dX10_sizeOf_20 ?_
    refine am_iald (pc := 21) G 672 dX10_sizeOf_21 (by decide) h.1 ?_
    have h := h.2
    refine am_iconst (pc := 22) G dX10_sizeOf_22 (by decide) ?_
    refine am_isub (pc := 23) G dX10_sizeOf_23 ?_
    refine am_iadd (pc := 24) G dX10_sizeOf_24 ?_
    have h := h _ rfl
    refine am_istore_n (pc := 25) G dX10_sizeOf_25 rfl (nlx hn rfl) rfl ?_
    refine am_iinc (pc := 26) (ls := [(20, _), (0, _), (0, _), (0, _), (0, _)]) G dX10_sizeOf_26 rfl (nlx hn rfl) rfl ?_
    refine am_goto (pc := 29) (ls := [(20, _), (0, _), (0, _), (0, _), (0, _)]) G 5 dX10_sizeOf_29 (by decide) ?_
    refine am_le (ls' := [(20, _), (0, _), (0, _), (0, _), (0, _)]) ⟨Or.inr rfl, ⟨Or.inr rfl, ⟨Or.inr rfl, ⟨Or.inr rfl, ⟨Or.inr rfl, trivial⟩⟩⟩⟩⟩ ?_
    exact k5 _ _ h
def wp_X10_sizeOf_5 (V : VV) (x1 x2 x3 x4 : Int) (M : Mem) (Q : Int → Mem → Prop) : Prop :=
  ∃ (I : Int → Int → Prop) (μ : Int → Int → Nat), I x3 x4 ∧ ∀ (y3 y4 : Int), I y3 y4 → wp_X10_sizeOf_5_b V x1 x2 y3 y4 M Q (fun z3 z4 => I z3 z4 ∧ μ z3 z4 < μ y3 y4)
theorem swp_X10_sizeOf_5 {X : XX} {Q : Int → Mem → Prop} (G : GX X cX10_sizeOf "TreeHandsModel") (Z : RX X 0 Q) (hn : nLX X = 5) (hr : roomX X = rm_X10_sizeOf) (x1 x2 x3 x4 : Int) (M : Mem) (h : wp_X10_sizeOf_5 (vX X) x1 x2 x3 x4 M Q) : AW X 5 [(20, 203), (0, x1), (0, x2), (0, x3), (0, x4)] [] M := by
  unfold wp_X10_sizeOf_5 at h
  obtain ⟨I, μ, hI, hs⟩ := h
  have key : ∀ (n : Nat) (y3 y4 : Int), μ y3 y4 < n → I y3 y4 → AW X 5 [(20, 203), (0, x1), (0, x2), (0, y3), (0, y4)] [] M := by
    intro n
    induction n with
    | zero => intro y3 y4 hlt; exact absurd hlt (Nat.not_lt_zero _)
    | succ n ih =>
      intro y3 y4 hlt hI
      exact swp_X10_sizeOf_5_b G Z hn hr x1 x2 y3 y4 M (fun z3 z4 => I z3 z4 ∧ μ z3 z4 < μ y3 y4) (fun z3 z4 hz => ih z3 z4 (by omega) hz.1) (hs y3 y4 hI)
  exact key _ x3 x4 (Nat.lt_succ_self _) hI
def wp_X10_sizeOf (V : VV) (x1 x2 : Int) (M : Mem) (Q : Int → Mem → Prop) : Prop :=
  wp_X10_sizeOf_5 V x1 x2 1 x2 M Q
theorem of_X10_sizeOf {V : VV} {x1 x2 : Int} {M : Mem} {Q : Int → Mem → Prop} (h : wp_X10_sizeOf V x1 x2 M Q) : R_X10_sizeOf V x1 x2 M Q := by
  refine met_in (own := "TreeHandsModel") (by decide +kernel) rfl rfl (Nat.le_of_ble_eq_true rfl) ?_
  intro X G Z hn hr hv
  subst hv
  unfold wp_X10_sizeOf at h
  show AW X 0 [(20, 203), (0, x1), (0, x2), (99, 0), (99, 0)] [] M
  refine am_iconst (pc := 0) G dX10_sizeOf_0 (by decide) ?_
  refine am_istore_n (pc := 1) G dX10_sizeOf_1 rfl (nlx hn rfl) rfl ?_
  refine am_iload_n (i := 2) (pc := 2) (ls := [(20, _), (0, _), (0, _), (0, _), (99, _)]) G dX10_sizeOf_2 rfl rfl ?_
  refine am_istore (pc := 3) G dX10_sizeOf_3 (nlx hn rfl) rfl ?_
  refine am_le (ls' := [(20, _), (0, _), (0, _), (0, _), (0, _)]) ⟨Or.inr rfl, ⟨Or.inr rfl, ⟨Or.inr rfl, ⟨Or.inr rfl, ⟨Or.inr rfl, trivial⟩⟩⟩⟩⟩ ?_
  exact swp_X10_sizeOf_5 G Z hn hr _ _ _ _ _ h
-- X10_parentOf TreeHandsModel.parentOf(II)I
def rm_X10_parentOf : Room := { frames := 1, cells := 0, slots := 0, locals := 24 }
theorem hy_X10_parentOf : yX10_parentOf.cls ≠ "java/lang/invoke/MethodHandle" ∧ yX10_parentOf.cls ≠ "java/lang/invoke/VarHandle" ∧ (parseMethodDescriptor yX10_parentOf.desc).map (fun d => d.parameters.length) = some 2 := by decide +kernel
abbrev R_X10_parentOf (V : VV) (x1 x2 : Int) (M : Mem) (Q : Int → Mem → Prop) : Prop := RunsM V yX10_parentOf (.code yX10_parentOf cX10_parentOf 4 (Option.some Jvm.ClassFile.FieldType.int)) rm_X10_parentOf 0 [(20, 203), (0, x1), (0, x2)] M Q
def wp_X10_parentOf_4_b (V : VV) (x1 x2 x3 : Int) (M : Mem) (Q : Int → Mem → Prop) (B4 : Int → Mem → Prop) : Prop :=
  (x3 < 0 →
    Q (-6) M) ∧ (¬ (x3 < 0) →
    R_X10_sizeOf V x1 x3 M (fun r1 M2 =>
    (w32 (x3 + r1) ≤ x2 →
      B4 (w32 (x3 + (-1))) M2) ∧ (¬ (w32 (x3 + r1) ≤ x2) →
      Q x3 M2)))
theorem swp_X10_parentOf_4_b {X : XX} {Q : Int → Mem → Prop} (G : GX X cX10_parentOf "TreeHandsModel") (Z : RX X 0 Q) (hn : nLX X = 4) (hr : roomX X = rm_X10_parentOf) (x1 x2 x3 : Int) (M : Mem) (B4 : Int → Mem → Prop) (k4 : ∀ (z3 : Int) (N : Mem), B4 z3 N → AW X 4 [(20, 203), (0, x1), (0, x2), (0, z3)] [] N) (h : wp_X10_parentOf_4_b (vX X) x1 x2 x3 M Q B4) : AW X 4 [(20, 203), (0, x1), (0, x2), (0, x3)] [] M := by
  unfold wp_X10_parentOf_4_b at h
  refine am_iload_n (i := 3) (pc := 4) G dX10_parentOf_4 rfl rfl ?_
  refine am_if_lt (pc := 5) G 28 dX10_parentOf_5 (by decide) (fun c => ?_) (fun c => ?_)
  · have h := h.1 c
    refine am_bipush (pc := 28) G dX10_parentOf_28 (by decide) (by decide) ?_
    exact am_iret (pc := 30) G Z dX10_parentOf_30 h
  · have h := h.2 c
    refine am_iload_n (i := 3) (pc := 8) G dX10_parentOf_8 rfl rfl ?_
    refine am_aload_n (i := 0) (t := 17) (pc := 9) G dX10_parentOf_9 rfl rfl rfl ?_
    refine am_iload_n (i := 1) (pc := 10) G dX10_parentOf_10 rfl rfl ?_
    refine am_iload_n (i := 3) (pc := 11) G dX10_parentOf_11 rfl rfl ?_
    refine am_callV (rk := 0) (rmc := rm_X10_sizeOf) (st := [(0, _)]) (pc := 12) G 10 [(0, _), (0, _)] rfl (by decide) rfl dX10_parentOf_12 tw_m_RX10_128 tw_i_X10_sizeOf tw_v_X10_sizeOf tw_z_RX10 tw_c_X10_sizeOf hy_X10_sizeOf (callrm hr rfl) rfl (RunsM.mono h (fun r1 M2 h => ?_)) Z.rm
    show AW X 15 _ [(0, _), (0, _)] M2
    refine am_iadd (pc := 15) G dX10_parentOf_15 ?_
    refine am_iload_n (i := 2) (pc := 16) G dX10_parentOf_16 rfl rfl ?_
    refine am_icmp_le (pc := 17) G 22 dX10_parentOf_17 (by decide) (fun c => ?_) (fun c => ?_)
    · have h := h.1 c
      refine am_iinc (pc := 22) G dX10_parentOf_22 rfl (nlx hn rfl) rfl ?_
      refine am_goto (pc := 25) (ls := [(20, _), (0, _), (0, _), (0, _)]) G 4 dX10_parentOf_25 (by decide) ?_
      refine am_le (ls' := [(20, _), (0, _), (0, _), (0, _)]) ⟨Or.inr rfl, ⟨Or.inr rfl, ⟨Or.inr rfl, ⟨Or.inr rfl, trivial⟩⟩⟩⟩ ?_
      exact k4 _ _ h
    · have h := h.2 c
      refine am_iload_n (i := 3) (pc := 20) G dX10_parentOf_20 rfl rfl ?_
      exact am_iret (pc := 21) G Z dX10_parentOf_21 h
def wp_X10_parentOf_4 (V : VV) (x1 x2 x3 : Int) (M : Mem) (Q : Int → Mem → Prop) : Prop :=
  ∃ (I : Int → Mem → Prop) (μ : Int → Mem → Nat), I x3 M ∧ ∀ (y3 : Int) (N : Mem), I y3 N → wp_X10_parentOf_4_b V x1 x2 y3 N Q (fun z3 N1 => I z3 N1 ∧ μ z3 N1 < μ y3 N)
theorem swp_X10_parentOf_4 {X : XX} {Q : Int → Mem → Prop} (G : GX X cX10_parentOf "TreeHandsModel") (Z : RX X 0 Q) (hn : nLX X = 4) (hr : roomX X = rm_X10_parentOf) (x1 x2 x3 : Int) (M : Mem) (h : wp_X10_parentOf_4 (vX X) x1 x2 x3 M Q) : AW X 4 [(20, 203), (0, x1), (0, x2), (0, x3)] [] M := by
  unfold wp_X10_parentOf_4 at h
  obtain ⟨I, μ, hI, hs⟩ := h
  have key : ∀ (n : Nat) (y3 : Int) (N : Mem), μ y3 N < n → I y3 N → AW X 4 [(20, 203), (0, x1), (0, x2), (0, y3)] [] N := by
    intro n
    induction n with
    | zero => intro y3 N hlt; exact absurd hlt (Nat.not_lt_zero _)
    | succ n ih =>
      intro y3 N hlt hI
      exact swp_X10_parentOf_4_b G Z hn hr x1 x2 y3 N (fun z3 N1 => I z3 N1 ∧ μ z3 N1 < μ y3 N) (fun z3 N1 hz => ih z3 N1 (by omega) hz.1) (hs y3 N hI)
  exact key _ x3 M (Nat.lt_succ_self _) hI
def wp_X10_parentOf (V : VV) (x1 x2 : Int) (M : Mem) (Q : Int → Mem → Prop) : Prop :=
  wp_X10_parentOf_4 V x1 x2 (w32 (x2 - 1)) M Q
theorem of_X10_parentOf {V : VV} {x1 x2 : Int} {M : Mem} {Q : Int → Mem → Prop} (h : wp_X10_parentOf V x1 x2 M Q) : R_X10_parentOf V x1 x2 M Q := by
  refine met_in (own := "TreeHandsModel") (by decide +kernel) rfl rfl (Nat.le_of_ble_eq_true rfl) ?_
  intro X G Z hn hr hv
  subst hv
  unfold wp_X10_parentOf at h
  show AW X 0 [(20, 203), (0, x1), (0, x2), (99, 0)] [] M
  refine am_iload_n (i := 2) (pc := 0) G dX10_parentOf_0 rfl rfl ?_
  refine am_iconst (pc := 1) G dX10_parentOf_1 (by decide) ?_
  refine am_isub (pc := 2) G dX10_parentOf_2 ?_
  refine am_istore_n (pc := 3) G dX10_parentOf_3 rfl (nlx hn rfl) rfl ?_
  refine am_le (ls' := [(20, _), (0, _), (0, _), (0, _)]) ⟨Or.inr rfl, ⟨Or.inr rfl, ⟨Or.inr rfl, ⟨Or.inr rfl, trivial⟩⟩⟩⟩ ?_
  exact swp_X10_parentOf_4 G Z hn hr _ _ _ _ h
-- X10_depthOf TreeHandsModel.depthOf(II)I
def rm_X10_depthOf : Room := { frames := 1, cells := 0, slots := 0, locals := 24 }
theorem hy_X10_depthOf : yX10_depthOf.cls ≠ "java/lang/invoke/MethodHandle" ∧ yX10_depthOf.cls ≠ "java/lang/invoke/VarHandle" ∧ (parseMethodDescriptor yX10_depthOf.desc).map (fun d => d.parameters.length) = some 2 := by decide +kernel
abbrev R_X10_depthOf (V : VV) (x1 x2 : Int) (M : Mem) (Q : Int → Mem → Prop) : Prop := RunsM V yX10_depthOf (.code yX10_depthOf cX10_depthOf 5 (Option.some Jvm.ClassFile.FieldType.int)) rm_X10_depthOf 0 [(20, 203), (0, x1), (0, x2)] M Q
def wp_X10_depthOf_31 (V : VV) (x1 x2 x4 s0 s1 : Int) (M : Mem) (Q : Int → Mem → Prop) (B5 : Int → Int → Mem → Prop) : Prop :=
  B5 (w32 (s1 + s0)) (w32 (x4 + 1)) M
theorem swp_X10_depthOf_31 {X : XX} {Q : Int → Mem → Prop} (G : GX X cX10_depthOf "TreeHandsModel") (Z : RX X 0 Q) (hn : nLX X = 5) (hr : roomX X = rm_X10_depthOf) (x1 x2 x4 s0 s1 : Int) (M : Mem) (B5 : Int → Int → Mem → Prop) (k5 : ∀ (z3 z4 : Int) (N : Mem), B5 z3 z4 N → AW X 5 [(20, 203), (0, x1), (0, x2), (0, z3), (0, z4)] [] N) (h : wp_X10_depthOf_31 (vX X) x1 x2 x4 s0 s1 M Q B5) : AW X 31 [(20, 203), (0, x1), (0, x2), (99, 0), (0, x4)] [(0, s0), (0, s1)] M := by
  unfold wp_X10_depthOf_31 at h
  refine am_iadd (pc := 31) G dX10_depthOf_31 ?_
  refine am_istore_n (pc := 32) G dX10_depthOf_32 rfl (nlx hn rfl) rfl ?_
  refine am_iinc (pc := 33) (ls := [(20, _), (0, _), (0, _), (0, _), (0, _)]) G dX10_depthOf_33 rfl (nlx hn rfl) rfl ?_
  refine am_goto (pc := 36) (ls := [(20, _), (0, _), (0, _), (0, _), (0, _)]) G 5 dX10_depthOf_36 (by decide) ?_
  refine am_le (ls' := [(20, _), (0, _), (0, _), (0, _), (0, _)]) ⟨Or.inr rfl, ⟨Or.inr rfl, ⟨Or.inr rfl, ⟨Or.inr rfl, ⟨Or.inr rfl, trivial⟩⟩⟩⟩⟩ ?_
  exact k5 _ _ _ h
def wp_X10_depthOf_5_b (V : VV) (x1 x2 x3 x4 : Int) (M : Mem) (Q : Int → Mem → Prop) (B5 : Int → Int → Mem → Prop) : Prop :=
  (x2 ≤ x4 →
    Q x3 M) ∧ (¬ (x2 ≤ x4) →
    R_X10_sizeOf V x1 x4 M (fun r1 M2 =>
    (w32 (x4 + r1) ≤ x2 →
      wp_X10_depthOf_31 V x1 x2 x4 0 x3 M2 Q B5) ∧ (¬ (w32 (x4 + r1) ≤ x2) →
      wp_X10_depthOf_31 V x1 x2 x4 1 x3 M2 Q B5)))
theorem swp_X10_depthOf_5_b {X : XX} {Q : Int → Mem → Prop} (G : GX X cX10_depthOf "TreeHandsModel") (Z : RX X 0 Q) (hn : nLX X = 5) (hr : roomX X = rm_X10_depthOf) (x1 x2 x3 x4 : Int) (M : Mem) (B5 : Int → Int → Mem → Prop) (k5 : ∀ (z3 z4 : Int) (N : Mem), B5 z3 z4 N → AW X 5 [(20, 203), (0, x1), (0, x2), (0, z3), (0, z4)] [] N) (h : wp_X10_depthOf_5_b (vX X) x1 x2 x3 x4 M Q B5) : AW X 5 [(20, 203), (0, x1), (0, x2), (0, x3), (0, x4)] [] M := by
  unfold wp_X10_depthOf_5_b at h
  refine am_iload (pc := 5) G dX10_depthOf_5 rfl ?_
  refine am_iload_n (i := 2) (pc := 7) G dX10_depthOf_7 rfl rfl ?_
  refine am_icmp_ge (pc := 8) G 39 dX10_depthOf_8 (by decide) (fun c => ?_) (fun c => ?_)
  · have h := h.1 c
    refine am_iload_n (i := 3) (pc := 39) G dX10_depthOf_39 rfl rfl ?_
    exact am_iret (pc := 40) G Z dX10_depthOf_40 h
  · have h := h.2 c
    refine am_iload_n (i := 3) (pc := 11) G dX10_depthOf_11 rfl rfl ?_
    refine am_iload (pc := 12) G dX10_depthOf_12 rfl ?_
    refine am_aload_n (i := 0) (t := 17) (pc := 14) G dX10_depthOf_14 rfl rfl rfl ?_
    refine am_iload_n (i := 1) (pc := 15) G dX10_depthOf_15 rfl rfl ?_
    refine am_iload (pc := 16) G dX10_depthOf_16 rfl ?_
    refine am_callV (rk := 0) (rmc := rm_X10_sizeOf) (st := [(0, _), (0, _)]) (pc := 18) G 10 [(0, _), (0, _)] rfl (by decide) rfl dX10_depthOf_18 tw_m_RX10_128 tw_i_X10_sizeOf tw_v_X10_sizeOf tw_z_RX10 tw_c_X10_sizeOf hy_X10_sizeOf (callrm hr rfl) rfl (RunsM.mono h (fun r1 M2 h => ?_)) Z.rm
    show AW X 21 _ [(0, _), (0, _), (0, _)] M2
    refine am_iadd (pc := 21) G dX10_depthOf_21 ?_
    refine am_iload_n (i := 2) (pc := 22) G dX10_depthOf_22 rfl rfl ?_
    refine am_icmp_le (pc := 23) G 30 dX10_depthOf_23 (by decide) (fun c => ?_) (fun c => ?_)
    · have h := h.1 c
      refine am_iconst (pc := 30) G dX10_depthOf_30 (by decide) ?_
      refine am_le (ls' := [(20, _), (0, _), (0, _), (99, 0), (0, _)]) ⟨Or.inr rfl, ⟨Or.inr rfl, ⟨Or.inr rfl, ⟨Or.inl rfl, ⟨Or.inr rfl, trivial⟩⟩⟩⟩⟩ ?_
      exact swp_X10_depthOf_31 G Z hn hr _ _ _ _ _ _ B5 k5 h
    · have h := h.2 c
      refine am_iconst (pc := 26) G dX10_depthOf_26 (by decide) ?_
      refine am_goto (pc := 27) G 31 dX10_depthOf_27 (by decide) ?_
      refine am_le (ls' := [(20, _), (0, _), (0, _), (99, 0), (0, _)]) ⟨Or.inr rfl, ⟨Or.inr rfl, ⟨Or.inr rfl, ⟨Or.inl rfl, ⟨Or.inr rfl, trivial⟩⟩⟩⟩⟩ ?_
      exact swp_X10_depthOf_31 G Z hn hr _ _ _ _ _ _ B5 k5 h
def wp_X10_depthOf_5 (V : VV) (x1 x2 x3 x4 : Int) (M : Mem) (Q : Int → Mem → Prop) : Prop :=
  ∃ (I : Int → Int → Mem → Prop) (μ : Int → Int → Mem → Nat), I x3 x4 M ∧ ∀ (y3 y4 : Int) (N : Mem), I y3 y4 N → wp_X10_depthOf_5_b V x1 x2 y3 y4 N Q (fun z3 z4 N1 => I z3 z4 N1 ∧ μ z3 z4 N1 < μ y3 y4 N)
theorem swp_X10_depthOf_5 {X : XX} {Q : Int → Mem → Prop} (G : GX X cX10_depthOf "TreeHandsModel") (Z : RX X 0 Q) (hn : nLX X = 5) (hr : roomX X = rm_X10_depthOf) (x1 x2 x3 x4 : Int) (M : Mem) (h : wp_X10_depthOf_5 (vX X) x1 x2 x3 x4 M Q) : AW X 5 [(20, 203), (0, x1), (0, x2), (0, x3), (0, x4)] [] M := by
  unfold wp_X10_depthOf_5 at h
  obtain ⟨I, μ, hI, hs⟩ := h
  have key : ∀ (n : Nat) (y3 y4 : Int) (N : Mem), μ y3 y4 N < n → I y3 y4 N → AW X 5 [(20, 203), (0, x1), (0, x2), (0, y3), (0, y4)] [] N := by
    intro n
    induction n with
    | zero => intro y3 y4 N hlt; exact absurd hlt (Nat.not_lt_zero _)
    | succ n ih =>
      intro y3 y4 N hlt hI
      exact swp_X10_depthOf_5_b G Z hn hr x1 x2 y3 y4 N (fun z3 z4 N1 => I z3 z4 N1 ∧ μ z3 z4 N1 < μ y3 y4 N) (fun z3 z4 N1 hz => ih z3 z4 N1 (by omega) hz.1) (hs y3 y4 N hI)
  exact key _ x3 x4 M (Nat.lt_succ_self _) hI
def wp_X10_depthOf (V : VV) (x1 x2 : Int) (M : Mem) (Q : Int → Mem → Prop) : Prop :=
  wp_X10_depthOf_5 V x1 x2 0 0 M Q
theorem of_X10_depthOf {V : VV} {x1 x2 : Int} {M : Mem} {Q : Int → Mem → Prop} (h : wp_X10_depthOf V x1 x2 M Q) : R_X10_depthOf V x1 x2 M Q := by
  refine met_in (own := "TreeHandsModel") (by decide +kernel) rfl rfl (Nat.le_of_ble_eq_true rfl) ?_
  intro X G Z hn hr hv
  subst hv
  unfold wp_X10_depthOf at h
  show AW X 0 [(20, 203), (0, x1), (0, x2), (99, 0), (99, 0)] [] M
  refine am_iconst (pc := 0) G dX10_depthOf_0 (by decide) ?_
  refine am_istore_n (pc := 1) G dX10_depthOf_1 rfl (nlx hn rfl) rfl ?_
  refine am_iconst (pc := 2) (ls := [(20, _), (0, _), (0, _), (0, _), (99, _)]) G dX10_depthOf_2 (by decide) ?_
  refine am_istore (pc := 3) G dX10_depthOf_3 (nlx hn rfl) rfl ?_
  refine am_le (ls' := [(20, _), (0, _), (0, _), (0, _), (0, _)]) ⟨Or.inr rfl, ⟨Or.inr rfl, ⟨Or.inr rfl, ⟨Or.inr rfl, ⟨Or.inr rfl, trivial⟩⟩⟩⟩⟩ ?_
  exact swp_X10_depthOf_5 G Z hn hr _ _ _ _ _ h
-- X10_node TreeHandsModel.node(III)I
def rm_X10_node : Room := { frames := 3, cells := 0, slots := 0, locals := 64 }
theorem hy_X10_node : yX10_node.cls ≠ "java/lang/invoke/MethodHandle" ∧ yX10_node.cls ≠ "java/lang/invoke/VarHandle" ∧ (parseMethodDescriptor yX10_node.desc).map (fun d => d.parameters.length) = some 3 := by decide +kernel
abbrev R_X10_node (V : VV) (x1 x2 x3 : Int) (M : Mem) (Q : Int → Mem → Prop) : Prop := RunsM V yX10_node (.code yX10_node cX10_node 7 (Option.some Jvm.ClassFile.FieldType.int)) rm_X10_node 0 [(20, 203), (0, x1), (0, x2), (0, x3)] M Q
def wp_X10_node_113 (V : VV) (x4 x5 : Int) (M : Mem) (Q : Int → Mem → Prop) : Prop :=
  (0 ≤ x4 →
    Q x5 M) ∧ (¬ (0 ≤ x4) →
    Q (-6) M)
theorem swp_X10_node_113 {X : XX} {Q : Int → Mem → Prop} (G : GX X cX10_node "TreeHandsModel") (Z : RX X 0 Q) (hn : nLX X = 7) (hr : roomX X = rm_X10_node) (x4 x5 : Int) (M : Mem) (h : wp_X10_node_113 (vX X) x4 x5 M Q) : AW X 113 [(99, 0), (99, 0), (99, 0), (99, 0), (0, x4), (0, x5), (99, 0)] [] M := by
  unfold wp_X10_node_113 at h
  refine am_iload (pc := 113) G dX10_node_113 rfl ?_
  refine am_if_ge (pc := 115) G 123 dX10_node_115 (by decide) (fun c => ?_) (fun c => ?_)
  · have h := h.1 c
    refine am_iload (pc := 123) G dX10_node_123 rfl ?_
    exact am_iret (pc := 125) G Z dX10_node_125 h
  · have h := h.2 c
    refine am_bipush (pc := 118) G dX10_node_118 (by decide) (by decide) ?_
    refine am_goto (pc := 120) G 125 dX10_node_120 (by decide) ?_
    exact am_iret (pc := 125) G Z dX10_node_125 h
def wp_X10_node_84_b (V : VV) (x1 x2 x4 x5 x6 : Int) (M : Mem) (Q : Int → Mem → Prop) (B84 : Int → Int → Mem → Prop) : Prop :=
  (x4 < 0 →
    wp_X10_node_113 V x4 x5 M Q) ∧ (¬ (x4 < 0) →
    (x2 ≤ x6 →
      wp_X10_node_113 V x4 x5 M Q) ∧ (¬ (x2 ≤ x6) →
      R_X10_sizeOf V x1 x6 M (fun r5 M6 =>
      B84 (w32 (x5 + 1)) (w32 (x6 + r5)) M6)))
theorem swp_X10_node_84_b {X : XX} {Q : Int → Mem → Prop} (G : GX X cX10_node "TreeHandsModel") (Z : RX X 0 Q) (hn : nLX X = 7) (hr : roomX X = rm_X10_node) (x1 x2 x4 x5 x6 : Int) (M : Mem) (B84 : Int → Int → Mem → Prop) (k84 : ∀ (z5 z6 : Int) (N : Mem), B84 z5 z6 N → AW X 84 [(20, 203), (0, x1), (0, x2), (99, 0), (0, x4), (0, z5), (0, z6)] [] N) (h : wp_X10_node_84_b (vX X) x1 x2 x4 x5 x6 M Q B84) : AW X 84 [(20, 203), (0, x1), (0, x2), (99, 0), (0, x4), (0, x5), (0, x6)] [] M := by
  unfold wp_X10_node_84_b at h
  refine am_iload (pc := 84) G dX10_node_84 rfl ?_
  refine am_if_lt (pc := 86) G 113 dX10_node_86 (by decide) (fun c => ?_) (fun c => ?_)
  · have h := h.1 c
    refine am_le (ls' := [(99, 0), (99, 0), (99, 0), (99, 0), (0, _), (0, _), (99, 0)]) ⟨Or.inl rfl, ⟨Or.inl rfl, ⟨Or.inl rfl, ⟨Or.inl rfl, ⟨Or.inr rfl, ⟨Or.inr rfl, ⟨Or.inl rfl, trivial⟩⟩⟩⟩⟩⟩⟩ ?_
    exact swp_X10_node_113 G Z hn hr _ _ _ h
  · have h := h.2 c
    refine am_iload (pc := 89) G dX10_node_89 rfl ?_
    refine am_iload_n (i := 2) (pc := 91) G dX10_node_91 rfl rfl ?_
    refine am_icmp_ge (pc := 92) G 113 dX10_node_92 (by decide) (fun c => ?_) (fun c => ?_)
    · have h := h.1 c
      refine am_le (ls' := [(99, 0), (99, 0), (99, 0), (99, 0), (0, _), (0, _), (99, 0)]) ⟨Or.inl rfl, ⟨Or.inl rfl, ⟨Or.inl rfl, ⟨Or.inl rfl, ⟨Or.inr rfl, ⟨Or.inr rfl, ⟨Or.inl rfl, trivial⟩⟩⟩⟩⟩⟩⟩ ?_
      exact swp_X10_node_113 G Z hn hr _ _ _ h
    · have h := h.2 c
      refine am_iinc (pc := 95) G dX10_node_95 rfl (nlx hn rfl) rfl ?_
      refine am_iload (pc := 98) (ls := [(20, _), (0, _), (0, _), (99, _), (0, _), (0, _), (0, _)]) G dX10_node_98 rfl ?_
      refine am_aload_n (i := 0) (t := 17) (pc := 100) G dX10_node_100 rfl rfl rfl ?_
      refine am_iload_n (i := 1) (pc := 101) G dX10_node_101 rfl rfl ?_
      refine am_iload (pc := 102) G dX10_node_102 rfl ?_
      refine am_callV (rk := 0) (rmc := rm_X10_sizeOf) (st := [(0, _)]) (pc := 104) G 10 [(0, _), (0, _)] rfl (by decide) rfl dX10_node_104 tw_m_RX10_128 tw_i_X10_sizeOf tw_v_X10_sizeOf tw_z_RX10 tw_c_X10_sizeOf hy_X10_sizeOf (callrm hr rfl) rfl (RunsM.mono h (fun r5 M6 h => ?_)) Z.rm
      show AW X 107 _ [(0, _), (0, _)] M6
      refine am_iadd (pc := 107) G dX10_node_107 ?_
      refine am_istore (pc := 108) G dX10_node_108 (nlx hn rfl) rfl ?_
      refine am_goto (pc := 110) (ls := [(20, _), (0, _), (0, _), (99, _), (0, _), (0, _), (0, _)]) G 84 dX10_node_110 (by decide) ?_
      refine am_le (ls' := [(20, _), (0, _), (0, _), (99, 0), (0, _), (0, _), (0, _)]) ⟨Or.inr rfl, ⟨Or.inr rfl, ⟨Or.inr rfl, ⟨Or.inl rfl, ⟨Or.inr rfl, ⟨Or.inr rfl, ⟨Or.inr rfl, trivial⟩⟩⟩⟩⟩⟩⟩ ?_
      exact k84 _ _ _ h
def wp_X10_node_84 (V : VV) (x1 x2 x4 x5 x6 : Int) (M : Mem) (Q : Int → Mem → Prop) : Prop :=
  ∃ (I : Int → Int → Mem → Prop) (μ : Int → Int → Mem → Nat), I x5 x6 M ∧ ∀ (y5 y6 : Int) (N : Mem), I y5 y6 N → wp_X10_node_84_b V x1 x2 x4 y5 y6 N Q (fun z5 z6 N1 => I z5 z6 N1 ∧ μ z5 z6 N1 < μ y5 y6 N)
theorem swp_X10_node_84 {X : XX} {Q : Int → Mem → Prop} (G : GX X cX10_node "TreeHandsModel") (Z : RX X 0 Q) (hn : nLX X = 7) (hr : roomX X = rm_X10_node) (x1 x2 x4 x5 x6 : Int) (M : Mem) (h : wp_X10_node_84 (vX X) x1 x2 x4 x5 x6 M Q) : AW X 84 [(20, 203), (0, x1), (0, x2), (99, 0), (0, x4), (0, x5), (0, x6)] [] M := by
  unfold wp_X10_node_84 at h
  obtain ⟨I, μ, hI, hs⟩ := h
  have key : ∀ (n : Nat) (y5 y6 : Int) (N : Mem), μ y5 y6 N < n → I y5 y6 N → AW X 84 [(20, 203), (0, x1), (0, x2), (99, 0), (0, x4), (0, y5), (0, y6)] [] N := by
    intro n
    induction n with
    | zero => intro y5 y6 N hlt; exact absurd hlt (Nat.not_lt_zero _)
    | succ n ih =>
      intro y5 y6 N hlt hI
      exact swp_X10_node_84_b G Z hn hr x1 x2 x4 y5 y6 N (fun z5 z6 N1 => I z5 z6 N1 ∧ μ z5 z6 N1 < μ y5 y6 N) (fun z5 z6 N1 hz => ih z5 z6 N1 (by omega) hz.1) (hs y5 y6 N hI)
  exact key _ x5 x6 M (Nat.lt_succ_self _) hI
def wp_X10_node (V : VV) (x1 x2 x3 : Int) (M : Mem) (Q : Int → Mem → Prop) : Prop :=
  R_X10_isNode V x1 x2 M (fun r1 M2 =>
  (r1 = 0 →
    Q (-1) M2) ∧ (¬ (r1 = 0) →
    R_X10_parentOf V x1 x2 M2 (fun r3 M4 =>
    ((x3 < 0 ∨ 5 < x3) →
      Q (-2) M4) ∧
    (x3 = 0 →
      ((0 : Int) ≤ w32 (w32 (32 * x1) + x2) ∧ w32 (w32 (32 * x1) + x2) < (672 : Int)) ∧
      Q (M4 205 (w32 (w32 (32 * x1) + x2))) M4) ∧
    (x3 = 1 →
      Q r3 M4) ∧
    (x3 = 2 →
      wp_X10_node_84 V x1 x2 r3 0 (w32 (r3 + 1)) M4 Q) ∧
    (x3 = 3 →
      ((0 : Int) ≤ w32 (w32 (32 * x1) + x2) ∧ w32 (w32 (32 * x1) + x2) < (672 : Int)) ∧
      Q (M4 206 (w32 (w32 (32 * x1) + x2))) M4) ∧
    (x3 = 4 →
      R_X10_sizeOf V x1 x2 M4 (fun r7 M8 =>
      Q r7 M8)) ∧
    (x3 = 5 →
      R_X10_depthOf V x1 x2 M4 (fun r9 M10 =>
      Q r9 M10)))))
theorem of_X10_node {V : VV} {x1 x2 x3 : Int} {M : Mem} {Q : Int → Mem → Prop} (h : wp_X10_node V x1 x2 x3 M Q) : R_X10_node V x1 x2 x3 M Q := by
  refine met_in (own := "TreeHandsModel") (by decide +kernel) rfl rfl (Nat.le_of_ble_eq_true rfl) ?_
  intro X G Z hn hr hv
  subst hv
  unfold wp_X10_node at h
  show AW X 0 [(20, 203), (0, x1), (0, x2), (0, x3), (99, 0), (99, 0), (99, 0)] [] M
  refine am_aload_n (i := 0) (t := 17) (pc := 0) G dX10_node_0 rfl rfl rfl ?_
  refine am_iload_n (i := 1) (pc := 1) G dX10_node_1 rfl rfl ?_
  refine am_iload_n (i := 2) (pc := 2) G dX10_node_2 rfl rfl ?_
  refine am_callV (rk := 1) (rmc := rm_X10_isNode) (st := []) (pc := 3) G 10 [(0, _), (0, _)] rfl (by decide) rfl dX10_node_3 tw_m_RX10_132 tw_i_X10_isNode tw_v_X10_isNode tw_z_RX10 tw_c_X10_isNode hy_X10_isNode (callrm hr rfl) rfl (RunsM.mono h (fun r1 M2 h => ?_)) Z.rm
  show AW X 6 _ [(0, _)] M2
  refine am_if_ne (pc := 6) G 11 dX10_node_6 (by decide) (fun c => ?_) (fun c => ?_)
  · have h := h.2 c
    refine am_aload_n (i := 0) (t := 17) (pc := 11) G dX10_node_11 rfl rfl rfl ?_
    refine am_iload_n (i := 1) (pc := 12) G dX10_node_12 rfl rfl ?_
    refine am_iload_n (i := 2) (pc := 13) G dX10_node_13 rfl rfl ?_
    refine am_callV (rk := 0) (rmc := rm_X10_parentOf) (st := []) (pc := 14) G 10 [(0, _), (0, _)] rfl (by decide) rfl dX10_node_14 tw_m_RX10_136 tw_i_X10_parentOf tw_v_X10_parentOf tw_z_RX10 tw_c_X10_parentOf hy_X10_parentOf (callrm hr rfl) rfl (RunsM.mono h (fun r3 M4 h => ?_)) Z.rm
    show AW X 17 _ [(0, _)] M4
    refine am_istore (pc := 17) G dX10_node_17 (nlx hn rfl) rfl ?_
    refine am_iload_n (i := 3) (pc := 19) (ls := [(20, _), (0, _), (0, _), (0, _), (0, _), (99, _), (99, _)]) G dX10_node_19 rfl rfl ?_
    rcases (show (x3 < 0 ∨ 5 < x3) ∨ x3 = 0 ∨ x3 = 1 ∨ x3 = 2 ∨ x3 = 3 ∨ x3 = 4 ∨ x3 = 5 by omega) with c | c | c | c | c | c | c
    · refine am_tableOut (pc := 20) G 152 dX10_node_20 c (by decide) ?_
      have h := h.1 c
      refine am_bipush (pc := 152) G dX10_node_152 (by decide) (by decide) ?_
      exact am_iret (pc := 154) G Z dX10_node_154 h
    · have h := h.2.1 c
      refine am_tableIn (off := 40) (pc := 20) G 60 dX10_node_20 (by rw [c]; decide) (by rw [c]; rfl) (by decide) ?_
      refine am_aload_n (i := 0) (t := 17) (pc := 60) G dX10_node_60 rfl rfl rfl ?_
      refine gf_X10_1 (pc := 61) G dX10_node_61 tw_f_RX10_13 ?_
      refine am_bipush (pc := 64) G dX10_node_64 (by decide) (by decide) ?_
      refine am_iload_n (i := 1) (pc := 66) G dX10_node_66 rfl rfl ?_
      refine am_imul (pc := 67) G dX10_node_67 ?_
      refine am_iload_n (i := 2) (pc := 68) G dX10_node_68 rfl rfl ?_
      refine am_iadd (pc := 69) G dX10_node_69 ?_
      refine am_iald (pc := 70) G 672 dX10_node_70 (by decide) h.1 ?_
      have h := h.2
      exact am_iret (pc := 71) G Z dX10_node_71 h
    · have h := h.2.2.1 c
      refine am_tableIn (off := 52) (pc := 20) G 72 dX10_node_20 (by rw [c]; decide) (by rw [c]; rfl) (by decide) ?_
      refine am_iload (pc := 72) G dX10_node_72 rfl ?_
      exact am_iret (pc := 74) G Z dX10_node_74 h
    · have h := h.2.2.2.1 c
      refine am_tableIn (off := 55) (pc := 20) G 75 dX10_node_20 (by rw [c]; decide) (by rw [c]; rfl) (by decide) ?_
      refine am_iconst (pc := 75) G dX10_node_75 (by decide) ?_
      refine am_istore (pc := 76) G dX10_node_76 (nlx hn rfl) rfl ?_
      refine am_iload (pc := 78) (ls := [(20, _), (0, _), (0, _), (0, _), (0, _), (0, _), (99, _)]) G dX10_node_78 rfl ?_
      refine am_iconst (pc := 80) G dX10_node_80 (by decide) ?_
      refine am_iadd (pc := 81) G dX10_node_81 ?_
      refine am_istore (pc := 82) G dX10_node_82 (nlx hn rfl) rfl ?_
      refine am_le (ls' := [(20, _), (0, _), (0, _), (99, 0), (0, _), (0, _), (0, _)]) ⟨Or.inr rfl, ⟨Or.inr rfl, ⟨Or.inr rfl, ⟨Or.inl rfl, ⟨Or.inr rfl, ⟨Or.inr rfl, ⟨Or.inr rfl, trivial⟩⟩⟩⟩⟩⟩⟩ ?_
      exact swp_X10_node_84 G Z hn hr _ _ _ _ _ _ h
    · have h := h.2.2.2.2.1 c
      refine am_tableIn (off := 106) (pc := 20) G 126 dX10_node_20 (by rw [c]; decide) (by rw [c]; rfl) (by decide) ?_
      refine am_aload_n (i := 0) (t := 17) (pc := 126) G dX10_node_126 rfl rfl rfl ?_
      refine gf_X10_2 (pc := 127) G dX10_node_127 tw_f_RX10_16 ?_
      refine am_bipush (pc := 130) G dX10_node_130 (by decide) (by decide) ?_
      refine am_iload_n (i := 1) (pc := 132) G dX10_node_132 rfl rfl ?_
      refine am_imul (pc := 133) G dX10_node_133 ?_
      refine am_iload_n (i := 2) (pc := 134) G dX10_node_134 rfl rfl ?_
      refine am_iadd (pc := 135) G dX10_node_135 ?_
      refine am_iald (pc := 136) G 672 dX10_node_136 (by decide) h.1 ?_
      have h := h.2
      exact am_iret (pc := 137) G Z dX10_node_137 h
    · have h := h.2.2.2.2.2.1 c
      refine am_tableIn (off := 118) (pc := 20) G 138 dX10_node_20 (by rw [c]; decide) (by rw [c]; rfl) (by decide) ?_
      refine am_aload_n (i := 0) (t := 17) (pc := 138) G dX10_node_138 rfl rfl rfl ?_
      refine am_iload_n (i := 1) (pc := 139) G dX10_node_139 rfl rfl ?_
      refine am_iload_n (i := 2) (pc := 140) G dX10_node_140 rfl rfl ?_
      refine am_callV (rk := 0) (rmc := rm_X10_sizeOf) (st := []) (pc := 141) G 10 [(0, _), (0, _)] rfl (by decide) rfl dX10_node_141 tw_m_RX10_128 tw_i_X10_sizeOf tw_v_X10_sizeOf tw_z_RX10 tw_c_X10_sizeOf hy_X10_sizeOf (callrm hr rfl) rfl (RunsM.mono h (fun r7 M8 h => ?_)) Z.rm
      show AW X 144 _ [(0, _)] M8
      exact am_iret (pc := 144) G Z dX10_node_144 h
    · have h := h.2.2.2.2.2.2 c
      refine am_tableIn (off := 125) (pc := 20) G 145 dX10_node_20 (by rw [c]; decide) (by rw [c]; rfl) (by decide) ?_
      refine am_aload_n (i := 0) (t := 17) (pc := 145) G dX10_node_145 rfl rfl rfl ?_
      refine am_iload_n (i := 1) (pc := 146) G dX10_node_146 rfl rfl ?_
      refine am_iload_n (i := 2) (pc := 147) G dX10_node_147 rfl rfl ?_
      refine am_callV (rk := 0) (rmc := rm_X10_depthOf) (st := []) (pc := 148) G 10 [(0, _), (0, _)] rfl (by decide) rfl dX10_node_148 tw_m_RX10_139 tw_i_X10_depthOf tw_v_X10_depthOf tw_z_RX10 tw_c_X10_depthOf hy_X10_depthOf (callrm hr rfl) rfl (RunsM.mono h (fun r9 M10 h => ?_)) Z.rm
      show AW X 151 _ [(0, _)] M10
      exact am_iret (pc := 151) G Z dX10_node_151 h
  · have h := h.1 c
    refine am_iconst (pc := 9) G dX10_node_9 (by decide) ?_
    exact am_iret (pc := 10) G Z dX10_node_10 h
-- X10_write TreeHandsModel.write(I)V
def rm_X10_write : Room := { frames := 1, cells := 0, slots := 0, locals := 24 }
theorem hy_X10_write : yX10_write.cls ≠ "java/lang/invoke/MethodHandle" ∧ yX10_write.cls ≠ "java/lang/invoke/VarHandle" ∧ (parseMethodDescriptor yX10_write.desc).map (fun d => d.parameters.length) = some 1 := by decide +kernel
abbrev R_X10_write (V : VV) (x1 : Int) (M : Mem) (Q : Int → Mem → Prop) : Prop := RunsM V yX10_write (.code yX10_write cX10_write 4 (Option.none : Option Jvm.ClassFile.FieldType)) rm_X10_write 4 [(20, 203), (0, x1)] M Q
def wp_X10_write_89_b (V : VV) (x1 x2 x3 : Int) (M : Mem) (Q : Int → Mem → Prop) (B7 : Int → Mem → Prop) (B89 : Int → Mem → Prop) : Prop :=
  (x3 < 0 →
    B7 (w32 (x2 + 1)) M) ∧ (¬ (x3 < 0) →
    ((0 : Int) ≤ w32 (w32 (32 * x1) + x3) ∧ w32 (w32 (32 * x1) + x3) < (672 : Int)) ∧
    (M 206 (w32 (w32 (32 * x1) + x3)) ≤ 0 →
      B89 (w32 (x3 + (-1))) M) ∧ (¬ (M 206 (w32 (w32 (32 * x1) + x3)) ≤ 0) →
      R_X10_sizeOf V x1 x3 M (fun r3 M4 =>
      (w32 (x3 + r3) = w32 (x2 + 1) →
        ((0 : Int) ≤ M4 203 8 ∧ M4 203 8 < (64 : Int)) ∧
        ∀ M5 : Mem, M5 = mset M4 209 (M4 203 8) 41 →
        B89 (w32 (x3 + (-1))) (mset M5 203 8 (w32 (M5 203 8 + 1)))) ∧ (¬ (w32 (x3 + r3) = w32 (x2 + 1)) →
        B89 (w32 (x3 + (-1))) M4))))
theorem swp_X10_write_89_b {X : XX} {Q : Int → Mem → Prop} (G : GX X cX10_write "TreeHandsModel") (Z : RX X 4 Q) (hn : nLX X = 4) (hr : roomX X = rm_X10_write) (x1 x2 x3 : Int) (M : Mem) (B7 : Int → Mem → Prop) (k7 : ∀ (z2 : Int) (N : Mem), B7 z2 N → AW X 7 [(20, 203), (0, x1), (0, z2), (99, 0)] [] N) (B89 : Int → Mem → Prop) (k89 : ∀ (z3 : Int) (N : Mem), B89 z3 N → AW X 89 [(20, 203), (0, x1), (0, x2), (0, z3)] [] N) (h : wp_X10_write_89_b (vX X) x1 x2 x3 M Q B7 B89) : AW X 89 [(20, 203), (0, x1), (0, x2), (0, x3)] [] M := by
  unfold wp_X10_write_89_b at h
  refine am_iload_n (i := 3) (pc := 89) G dX10_write_89 rfl rfl ?_
  refine am_if_lt (pc := 90) G 148 dX10_write_90 (by decide) (fun c => ?_) (fun c => ?_)
  · have h := h.1 c
    refine am_iinc (pc := 148) G dX10_write_148 rfl (nlx hn rfl) rfl ?_
    refine am_goto (pc := 151) (ls := [(20, _), (0, _), (0, _), (0, _)]) G 7 dX10_write_151 (by decide) ?_
    refine am_le (ls' := [(20, _), (0, _), (0, _), (99, 0)]) ⟨Or.inr rfl, ⟨Or.inr rfl, ⟨Or.inr rfl, ⟨Or.inl rfl, trivial⟩⟩⟩⟩ ?_
    exact k7 _ _ h
  · have h := h.2 c
    refine am_aload_n (i := 0) (t := 17) (pc := 93) G dX10_write_93 rfl rfl rfl ?_
    refine gf_X10_2 (pc := 94) G dX10_write_94 tw_f_RX10_16 ?_
    refine am_bipush (pc := 97) G dX10_write_97 (by decide) (by decide) ?_
    refine am_iload_n (i := 1) (pc := 99) G dX10_write_99 rfl rfl ?_
    refine am_imul (pc := 100) G dX10_write_100 ?_
    refine am_iload_n (i := 3) (pc := 101) G dX10_write_101 rfl rfl ?_
    refine am_iadd (pc := 102) G dX10_write_102 ?_
    refine am_iald (pc := 103) G 672 dX10_write_103 (by decide) h.1 ?_
    have h := h.2
    refine am_if_le (pc := 104) G 142 dX10_write_104 (by decide) (fun c => ?_) (fun c => ?_)
    · have h := h.1 c
      refine am_iinc (pc := 142) G dX10_write_142 rfl (nlx hn rfl) rfl ?_
      refine am_goto (pc := 145) (ls := [(20, _), (0, _), (0, _), (0, _)]) G 89 dX10_write_145 (by decide) ?_
      refine am_le (ls' := [(20, _), (0, _), (0, _), (0, _)]) ⟨Or.inr rfl, ⟨Or.inr rfl, ⟨Or.inr rfl, ⟨Or.inr rfl, trivial⟩⟩⟩⟩ ?_
      exact k89 _ _ h
    · have h := h.2 c
      refine am_iload_n (i := 3) (pc := 107) G dX10_write_107 rfl rfl ?_
      refine am_aload_n (i := 0) (t := 17) (pc := 108) G dX10_write_108 rfl rfl rfl ?_
      refine am_iload_n (i := 1) (pc := 109) G dX10_write_109 rfl rfl ?_
      refine am_iload_n (i := 3) (pc := 110) G dX10_write_110 rfl rfl ?_
      refine am_callV (rk := 0) (rmc := rm_X10_sizeOf) (st := [(0, _)]) (pc := 111) G 10 [(0, _), (0, _)] rfl (by decide) rfl dX10_write_111 tw_m_RX10_128 tw_i_X10_sizeOf tw_v_X10_sizeOf tw_z_RX10 tw_c_X10_sizeOf hy_X10_sizeOf (callrm hr rfl) rfl (RunsM.mono h (fun r3 M4 h => ?_)) Z.rm
      show AW X 114 _ [(0, _), (0, _)] M4
      refine am_iadd (pc := 114) G dX10_write_114 ?_
      refine am_iload_n (i := 2) (pc := 115) G dX10_write_115 rfl rfl ?_
      refine am_iconst (pc := 116) G dX10_write_116 (by decide) ?_
      refine am_iadd (pc := 117) G dX10_write_117 ?_
      refine am_icmp_ne (pc := 118) G 142 dX10_write_118 (by decide) (fun c => ?_) (fun c => ?_)
      · have h := h.2 c
        refine am_iinc (pc := 142) G dX10_write_142 rfl (nlx hn rfl) rfl ?_
        refine am_goto (pc := 145) (ls := [(20, _), (0, _), (0, _), (0, _)]) G 89 dX10_write_145 (by decide) ?_
        refine am_le (ls' := [(20, _), (0, _), (0, _), (0, _)]) ⟨Or.inr rfl, ⟨Or.inr rfl, ⟨Or.inr rfl, ⟨Or.inr rfl, trivial⟩⟩⟩⟩ ?_
        exact k89 _ _ h
      · have h := h.1 c
        refine am_aload_n (i := 0) (t := 17) (pc := 121) G dX10_write_121 rfl rfl rfl ?_
        refine gf_X10_9 (pc := 122) G dX10_write_122 tw_f_RX10_25 ?_
        refine am_aload_n (i := 0) (t := 17) (pc := 125) G dX10_write_125 rfl rfl rfl ?_
        refine gf_X10_8 (pc := 126) G dX10_write_126 tw_f_RX10_142 ?_
        refine am_bipush (pc := 129) G dX10_write_129 (by decide) (by decide) ?_
        refine am_iast (pc := 131) G 64 dX10_write_131 (by decide) h.1 ?_
        have h := h.2
        refine am_aload_n (i := 0) (t := 17) (pc := 132) G dX10_write_132 rfl rfl rfl ?_
        refine am_dup (pc := 133) G dX10_write_133 (Nat.ne_of_beq_eq_false rfl) ?_
        have h := h _ rfl
        refine gf_X10_8 (pc := 134) G dX10_write_134 tw_f_RX10_142 ?_
        refine am_iconst (pc := 137) G dX10_write_137 (by decide) ?_
        refine am_iadd (pc := 138) G dX10_write_138 ?_
        refine pf_X10_8 (pc := 139) G dX10_write_139 tw_f_RX10_142 ?_
        refine am_iinc (pc := 142) G dX10_write_142 rfl (nlx hn rfl) rfl ?_
        refine am_goto (pc := 145) (ls := [(20, _), (0, _), (0, _), (0, _)]) G 89 dX10_write_145 (by decide) ?_
        refine am_le (ls' := [(20, _), (0, _), (0, _), (0, _)]) ⟨Or.inr rfl, ⟨Or.inr rfl, ⟨Or.inr rfl, ⟨Or.inr rfl, trivial⟩⟩⟩⟩ ?_
        exact k89 _ _ h
def wp_X10_write_89 (V : VV) (x1 x2 x3 : Int) (M : Mem) (Q : Int → Mem → Prop) (B7 : Int → Mem → Prop) : Prop :=
  ∃ (I : Int → Mem → Prop) (μ : Int → Mem → Nat), I x3 M ∧ ∀ (y3 : Int) (N : Mem), I y3 N → wp_X10_write_89_b V x1 x2 y3 N Q B7 (fun z3 N1 => I z3 N1 ∧ μ z3 N1 < μ y3 N)
theorem swp_X10_write_89 {X : XX} {Q : Int → Mem → Prop} (G : GX X cX10_write "TreeHandsModel") (Z : RX X 4 Q) (hn : nLX X = 4) (hr : roomX X = rm_X10_write) (x1 x2 x3 : Int) (M : Mem) (B7 : Int → Mem → Prop) (k7 : ∀ (z2 : Int) (N : Mem), B7 z2 N → AW X 7 [(20, 203), (0, x1), (0, z2), (99, 0)] [] N) (h : wp_X10_write_89 (vX X) x1 x2 x3 M Q B7) : AW X 89 [(20, 203), (0, x1), (0, x2), (0, x3)] [] M := by
  unfold wp_X10_write_89 at h
  obtain ⟨I, μ, hI, hs⟩ := h
  have key : ∀ (n : Nat) (y3 : Int) (N : Mem), μ y3 N < n → I y3 N → AW X 89 [(20, 203), (0, x1), (0, x2), (0, y3)] [] N := by
    intro n
    induction n with
    | zero => intro y3 N hlt; exact absurd hlt (Nat.not_lt_zero _)
    | succ n ih =>
      intro y3 N hlt hI
      exact swp_X10_write_89_b G Z hn hr x1 x2 y3 N B7 k7 (fun z3 N1 => I z3 N1 ∧ μ z3 N1 < μ y3 N) (fun z3 N1 hz => ih z3 N1 (by omega) hz.1) (hs y3 N hI)
  exact key _ x3 M (Nat.lt_succ_self _) hI
def wp_X10_write_7_b (V : VV) (x1 x2 : Int) (M : Mem) (Q : Int → Mem → Prop) (B7 : Int → Mem → Prop) : Prop :=
  ((0 : Int) ≤ x1 ∧ x1 < (21 : Int)) ∧
  (M 204 x1 ≤ x2 →
    Q 0 M) ∧ (¬ (M 204 x1 ≤ x2) →
    ((0 : Int) ≤ w32 (w32 (32 * x1) + x2) ∧ w32 (w32 (32 * x1) + x2) < (672 : Int)) ∧
    ((0 : Int) ≤ M 203 8 ∧ M 203 8 < (64 : Int)) ∧
    ∀ M1 : Mem, M1 = mset M 209 (M 203 8) (M 205 (w32 (w32 (32 * x1) + x2))) →
    ∀ M2 : Mem, M2 = mset M1 203 8 (w32 (M1 203 8 + 1)) →
    ((0 : Int) ≤ w32 (w32 (32 * x1) + x2) ∧ w32 (w32 (32 * x1) + x2) < (672 : Int)) ∧
    (M2 206 (w32 (w32 (32 * x1) + x2)) ≤ 0 →
      wp_X10_write_89 V x1 x2 (w32 (x2 - 1)) M2 Q B7) ∧ (¬ (M2 206 (w32 (w32 (32 * x1) + x2)) ≤ 0) →
      ((0 : Int) ≤ M2 203 8 ∧ M2 203 8 < (64 : Int)) ∧
      ∀ M6 : Mem, M6 = mset M2 209 (M2 203 8) 40 →
      B7 (w32 (x2 + 1)) (mset M6 203 8 (w32 (M6 203 8 + 1)))))
theorem swp_X10_write_7_b {X : XX} {Q : Int → Mem → Prop} (G : GX X cX10_write "TreeHandsModel") (Z : RX X 4 Q) (hn : nLX X = 4) (hr : roomX X = rm_X10_write) (x1 x2 : Int) (M : Mem) (B7 : Int → Mem → Prop) (k7 : ∀ (z2 : Int) (N : Mem), B7 z2 N → AW X 7 [(20, 203), (0, x1), (0, z2), (99, 0)] [] N) (h : wp_X10_write_7_b (vX X) x1 x2 M Q B7) : AW X 7 [(20, 203), (0, x1), (0, x2), (99, 0)] [] M := by
  unfold wp_X10_write_7_b at h
  refine am_iload_n (i := 2) (pc := 7) G dX10_write_7 rfl rfl ?_
  refine am_aload_n (i := 0) (t := 17) (pc := 8) G dX10_write_8 rfl rfl rfl ?_
  refine gf_X10_0 (pc := 9) G dX10_write_9 tw_f_RX10_7 ?_
  refine am_iload_n (i := 1) (pc := 12) G dX10_write_12 rfl rfl ?_
  refine am_iald (pc := 13) G 21 dX10_write_13 (by decide) h.1 ?_
  have h := h.2
  refine am_icmp_ge (pc := 14) G 154 dX10_write_14 (by decide) (fun c => ?_) (fun c => ?_)
  · have h := h.1 c
    exact am_vret (pc := 154) G Z dX10_write_154 h
  · have h := h.2 c
    refine am_aload_n (i := 0) (t := 17) (pc := 17) G dX10_write_17 rfl rfl rfl ?_
    refine gf_X10_9 (pc := 18) G dX10_write_18 tw_f_RX10_25 ?_
    refine am_aload_n (i := 0) (t := 17) (pc := 21) G dX10_write_21 rfl rfl rfl ?_
    refine gf_X10_8 (pc := 22) G dX10_write_22 tw_f_RX10_142 ?_
    refine am_aload_n (i := 0) (t := 17) (pc := 25) G dX10_write_25 rfl rfl rfl ?_
    refine gf_X10_1 (pc := 26) G dX10_write_26 tw_f_RX10_13 ?_
    refine am_bipush (pc := 29) G dX10_write_29 (by decide) (by decide) ?_
    refine am_iload_n (i := 1) (pc := 31) G dX10_write_31 rfl rfl ?_
    refine am_imul (pc := 32) G dX10_write_32 ?_
    refine am_iload_n (i := 2) (pc := 33) G dX10_write_33 rfl rfl ?_
    refine am_iadd (pc := 34) G dX10_write_34 ?_
    refine am_iald (pc := 35) G 672 dX10_write_35 (by decide) h.1 ?_
    have h := h.2
    refine am_iast (pc := 36) G 64 dX10_write_36 (by decide) h.1 ?_
    have h := h.2
    refine am_aload_n (i := 0) (t := 17) (pc := 37) G dX10_write_37 rfl rfl rfl ?_
    refine am_dup (pc := 38) G dX10_write_38 (Nat.ne_of_beq_eq_false rfl) ?_
    have h := h _ rfl
    refine gf_X10_8 (pc := 39) G dX10_write_39 tw_f_RX10_142 ?_
    refine am_iconst (pc := 42) G dX10_write_42 (by decide) ?_
    refine am_iadd (pc := 43) G dX10_write_43 ?_
    refine pf_X10_8 (pc := 44) G dX10_write_44 tw_f_RX10_142 ?_
    refine am_aload_n (i := 0) (t := 17) (pc := 47) G dX10_write_47 rfl rfl rfl ?_
    refine gf_X10_2 (pc := 48) G dX10_write_48 tw_f_RX10_16 ?_
    refine am_bipush (pc := 51) G dX10_write_51 (by decide) (by decide) ?_
    refine am_iload_n (i := 1) (pc := 53) G dX10_write_53 rfl rfl ?_
    refine am_imul (pc := 54) G dX10_write_54 ?_
    refine am_iload_n (i := 2) (pc := 55) G dX10_write_55 rfl rfl ?_
    refine am_iadd (pc := 56) G dX10_write_56 ?_
    have h := h _ rfl
    refine am_iald (pc := 57) G 672 dX10_write_57 (by decide) h.1 ?_
    have h := h.2
    refine am_if_le (pc := 58) G 85 dX10_write_58 (by decide) (fun c => ?_) (fun c => ?_)
    · have h := h.1 c
      refine am_iload_n (i := 2) (pc := 85) G dX10_write_85 rfl rfl ?_
      refine am_iconst (pc := 86) G dX10_write_86 (by decide) ?_
      refine am_isub (pc := 87) G dX10_write_87 ?_
      refine am_istore_n (pc := 88) G dX10_write_88 rfl (nlx hn rfl) rfl ?_
      refine am_le (ls' := [(20, _), (0, _), (0, _), (0, _)]) ⟨Or.inr rfl, ⟨Or.inr rfl, ⟨Or.inr rfl, ⟨Or.inr rfl, trivial⟩⟩⟩⟩ ?_
      exact swp_X10_write_89 G Z hn hr _ _ _ _ B7 k7 h
    · have h := h.2 c
      refine am_aload_n (i := 0) (t := 17) (pc := 61) G dX10_write_61 rfl rfl rfl ?_
      refine gf_X10_9 (pc := 62) G dX10_write_62 tw_f_RX10_25 ?_
      refine am_aload_n (i := 0) (t := 17) (pc := 65) G dX10_write_65 rfl rfl rfl ?_
      refine gf_X10_8 (pc := 66) G dX10_write_66 tw_f_RX10_142 ?_
      refine am_bipush (pc := 69) G dX10_write_69 (by decide) (by decide) ?_
      refine am_iast (pc := 71) G 64 dX10_write_71 (by decide) h.1 ?_
      have h := h.2
      refine am_aload_n (i := 0) (t := 17) (pc := 72) G dX10_write_72 rfl rfl rfl ?_
      refine am_dup (pc := 73) G dX10_write_73 (Nat.ne_of_beq_eq_false rfl) ?_
      have h := h _ rfl
      refine gf_X10_8 (pc := 74) G dX10_write_74 tw_f_RX10_142 ?_
      refine am_iconst (pc := 77) G dX10_write_77 (by decide) ?_
      refine am_iadd (pc := 78) G dX10_write_78 ?_
      refine pf_X10_8 (pc := 79) G dX10_write_79 tw_f_RX10_142 ?_
      refine am_goto (pc := 82) G 148 dX10_write_82 (by decide) ?_
      refine am_iinc (pc := 148) G dX10_write_148 rfl (nlx hn rfl) rfl ?_
      refine am_goto (pc := 151) (ls := [(20, _), (0, _), (0, _), (99, _)]) G 7 dX10_write_151 (by decide) ?_
      refine am_le (ls' := [(20, _), (0, _), (0, _), (99, 0)]) ⟨Or.inr rfl, ⟨Or.inr rfl, ⟨Or.inr rfl, ⟨Or.inl rfl, trivial⟩⟩⟩⟩ ?_
      exact k7 _ _ h
def wp_X10_write_7 (V : VV) (x1 x2 : Int) (M : Mem) (Q : Int → Mem → Prop) : Prop :=
  ∃ (I : Int → Mem → Prop) (μ : Int → Mem → Nat), I x2 M ∧ ∀ (y2 : Int) (N : Mem), I y2 N → wp_X10_write_7_b V x1 y2 N Q (fun z2 N1 => I z2 N1 ∧ μ z2 N1 < μ y2 N)
theorem swp_X10_write_7 {X : XX} {Q : Int → Mem → Prop} (G : GX X cX10_write "TreeHandsModel") (Z : RX X 4 Q) (hn : nLX X = 4) (hr : roomX X = rm_X10_write) (x1 x2 : Int) (M : Mem) (h : wp_X10_write_7 (vX X) x1 x2 M Q) : AW X 7 [(20, 203), (0, x1), (0, x2), (99, 0)] [] M := by
  unfold wp_X10_write_7 at h
  obtain ⟨I, μ, hI, hs⟩ := h
  have key : ∀ (n : Nat) (y2 : Int) (N : Mem), μ y2 N < n → I y2 N → AW X 7 [(20, 203), (0, x1), (0, y2), (99, 0)] [] N := by
    intro n
    induction n with
    | zero => intro y2 N hlt; exact absurd hlt (Nat.not_lt_zero _)
    | succ n ih =>
      intro y2 N hlt hI
      exact swp_X10_write_7_b G Z hn hr x1 y2 N (fun z2 N1 => I z2 N1 ∧ μ z2 N1 < μ y2 N) (fun z2 N1 hz => ih z2 N1 (by omega) hz.1) (hs y2 N hI)
  exact key _ x2 M (Nat.lt_succ_self _) hI
def wp_X10_write (V : VV) (x1 : Int) (M : Mem) (Q : Int → Mem → Prop) : Prop :=
  wp_X10_write_7 V x1 0 (mset M 203 8 0) Q
theorem of_X10_write {V : VV} {x1 : Int} {M : Mem} {Q : Int → Mem → Prop} (h : wp_X10_write V x1 M Q) : R_X10_write V x1 M Q := by
  refine met_in (own := "TreeHandsModel") (by decide +kernel) rfl rfl (Nat.le_of_ble_eq_true rfl) ?_
  intro X G Z hn hr hv
  subst hv
  unfold wp_X10_write at h
  show AW X 0 [(20, 203), (0, x1), (99, 0), (99, 0)] [] M
  refine am_aload_n (i := 0) (t := 17) (pc := 0) G dX10_write_0 rfl rfl rfl ?_
  refine am_iconst (pc := 1) G dX10_write_1 (by decide) ?_
  refine pf_X10_8 (pc := 2) G dX10_write_2 tw_f_RX10_142 ?_
  refine am_iconst (pc := 5) G dX10_write_5 (by decide) ?_
  refine am_istore_n (pc := 6) G dX10_write_6 rfl (nlx hn rfl) rfl ?_
  refine am_le (ls' := [(20, _), (0, _), (0, _), (99, 0)]) ⟨Or.inr rfl, ⟨Or.inr rfl, ⟨Or.inr rfl, ⟨Or.inl rfl, trivial⟩⟩⟩⟩ ?_
  exact swp_X10_write_7 G Z hn hr _ _ _ h
-- X10_sign TreeHandsModel.sign(II)I
def rm_X10_sign : Room := { frames := 2, cells := 0, slots := 0, locals := 47 }
theorem hy_X10_sign : yX10_sign.cls ≠ "java/lang/invoke/MethodHandle" ∧ yX10_sign.cls ≠ "java/lang/invoke/VarHandle" ∧ (parseMethodDescriptor yX10_sign.desc).map (fun d => d.parameters.length) = some 2 := by decide +kernel
abbrev R_X10_sign (V : VV) (x1 x2 : Int) (M : Mem) (Q : Int → Mem → Prop) : Prop := RunsM V yX10_sign (.code yX10_sign cX10_sign 3 (Option.some Jvm.ClassFile.FieldType.int)) rm_X10_sign 0 [(20, 203), (0, x1), (0, x2)] M Q
def wp_X10_sign (V : VV) (x1 x2 : Int) (M : Mem) (Q : Int → Mem → Prop) : Prop :=
  R_X10_isTree V x1 M (fun r1 M2 =>
  (r1 = 0 →
    Q (-1) M2) ∧ (¬ (r1 = 0) →
    ((0 : Int) ≤ x1 ∧ x1 < (21 : Int)) ∧
    (M2 204 x1 = 0 →
      Q (-1) M2) ∧ (¬ (M2 204 x1 = 0) →
      R_X10_write V x1 M2 (fun _ M4 =>
      (x2 = (-1) →
        Q (M4 203 8) M4) ∧ (¬ (x2 = (-1)) →
        R_X10_in V x2 0 (w32 (M4 203 8 - 1)) M4 (fun r5 M6 =>
        (r5 = 0 →
          Q (-6) M6) ∧ (¬ (r5 = 0) →
          ((0 : Int) ≤ x2 ∧ x2 < (64 : Int)) ∧
          Q (M6 209 x2) M6)))))))
theorem of_X10_sign {V : VV} {x1 x2 : Int} {M : Mem} {Q : Int → Mem → Prop} (h : wp_X10_sign V x1 x2 M Q) : R_X10_sign V x1 x2 M Q := by
  refine met_in (own := "TreeHandsModel") (by decide +kernel) rfl rfl (Nat.le_of_ble_eq_true rfl) ?_
  intro X G Z hn hr hv
  subst hv
  unfold wp_X10_sign at h
  show AW X 0 [(20, 203), (0, x1), (0, x2)] [] M
  refine am_iload_n (i := 1) (pc := 0) G dX10_sign_0 rfl rfl ?_
  refine am_callS (rk := 1) (rmc := rm_X10_isTree) (st := []) (pc := 1) G [(0, _)] dX10_sign_1 tw_m_RX10_114 tw_s_X10_isTree tw_z_RX10 tw_c_X10_isTree hy_X10_isTree (callrm hr rfl) rfl (RunsM.mono h (fun r1 M2 h => ?_)) Z.rm
  show AW X 4 _ [(0, _)] M2
  refine am_if_eq (pc := 4) G 16 dX10_sign_4 (by decide) (fun c => ?_) (fun c => ?_)
  · have h := h.1 c
    refine am_iconst (pc := 16) G dX10_sign_16 (by decide) ?_
    exact am_iret (pc := 17) G Z dX10_sign_17 h
  · have h := h.2 c
    refine am_aload_n (i := 0) (t := 17) (pc := 7) G dX10_sign_7 rfl rfl rfl ?_
    refine gf_X10_0 (pc := 8) G dX10_sign_8 tw_f_RX10_7 ?_
    refine am_iload_n (i := 1) (pc := 11) G dX10_sign_11 rfl rfl ?_
    refine am_iald (pc := 12) G 21 dX10_sign_12 (by decide) h.1 ?_
    have h := h.2
    refine am_if_ne (pc := 13) G 18 dX10_sign_13 (by decide) (fun c => ?_) (fun c => ?_)
    · have h := h.2 c
      refine am_aload_n (i := 0) (t := 17) (pc := 18) G dX10_sign_18 rfl rfl rfl ?_
      refine am_iload_n (i := 1) (pc := 19) G dX10_sign_19 rfl rfl ?_
      refine am_callV (rk := 4) (rmc := rm_X10_write) (st := []) (pc := 20) G 10 [(0, _)] rfl (by decide) rfl dX10_sign_20 tw_m_RX10_145 tw_i_X10_write tw_v_X10_write tw_z_RX10 tw_c_X10_write hy_X10_write (callrm hr rfl) rfl (RunsM.mono h (fun r3 M4 h => ?_)) Z.rm
      show AW X 23 _ [] M4
      refine am_iload_n (i := 2) (pc := 23) G dX10_sign_23 rfl rfl ?_
      refine am_iconst (pc := 24) G dX10_sign_24 (by decide) ?_
      refine am_icmp_ne (pc := 25) G 35 dX10_sign_25 (by decide) (fun c => ?_) (fun c => ?_)
      · have h := h.2 c
        refine am_iload_n (i := 2) (pc := 35) G dX10_sign_35 rfl rfl ?_
        refine am_iconst (pc := 36) G dX10_sign_36 (by decide) ?_
        refine am_aload_n (i := 0) (t := 17) (pc := 37) G dX10_sign_37 rfl rfl rfl ?_
        refine gf_X10_8 (pc := 38) G dX10_sign_38 tw_f_RX10_142 ?_
        refine am_iconst (pc := 41) G dX10_sign_41 (by decide) ?_
        refine am_isub (pc := 42) G dX10_sign_42 ?_
        refine am_callS (rk := 1) (rmc := rm_X10_in) (st := []) (pc := 43) G [(0, _), (0, _), (0, _)] dX10_sign_43 tw_m_RX10_110 tw_s_X10_in tw_z_RX10 tw_c_X10_in hy_X10_in (callrm hr rfl) rfl (RunsM.mono h (fun r5 M6 h => ?_)) Z.rm
        show AW X 46 _ [(0, _)] M6
        refine am_if_eq (pc := 46) G 58 dX10_sign_46 (by decide) (fun c => ?_) (fun c => ?_)
        · have h := h.1 c
          refine am_bipush (pc := 58) G dX10_sign_58 (by decide) (by decide) ?_
          exact am_iret (pc := 60) G Z dX10_sign_60 h
        · have h := h.2 c
          refine am_aload_n (i := 0) (t := 17) (pc := 49) G dX10_sign_49 rfl rfl rfl ?_
          refine gf_X10_9 (pc := 50) G dX10_sign_50 tw_f_RX10_25 ?_
          refine am_iload_n (i := 2) (pc := 53) G dX10_sign_53 rfl rfl ?_
          refine am_iald (pc := 54) G 64 dX10_sign_54 (by decide) h.1 ?_
          have h := h.2
          refine am_goto (pc := 55) G 60 dX10_sign_55 (by decide) ?_
          exact am_iret (pc := 60) G Z dX10_sign_60 h
      · have h := h.1 c
        refine am_aload_n (i := 0) (t := 17) (pc := 28) G dX10_sign_28 rfl rfl rfl ?_
        refine gf_X10_8 (pc := 29) G dX10_sign_29 tw_f_RX10_142 ?_
        refine am_goto (pc := 32) G 60 dX10_sign_32 (by decide) ?_
        exact am_iret (pc := 60) G Z dX10_sign_60 h
    · have h := h.1 c
      refine am_iconst (pc := 16) G dX10_sign_16 (by decide) ?_
      exact am_iret (pc := 17) G Z dX10_sign_17 h
-- X10_copy TreeHandsModel.copy(IIII)V
def rm_X10_copy : Room := { frames := 0, cells := 0, slots := 0, locals := 0 }
theorem hy_X10_copy : yX10_copy.cls ≠ "java/lang/invoke/MethodHandle" ∧ yX10_copy.cls ≠ "java/lang/invoke/VarHandle" ∧ (parseMethodDescriptor yX10_copy.desc).map (fun d => d.parameters.length) = some 4 := by decide +kernel
abbrev R_X10_copy (V : VV) (x1 x2 x3 x4 : Int) (M : Mem) (Q : Int → Mem → Prop) : Prop := RunsM V yX10_copy (.code yX10_copy cX10_copy 6 (Option.none : Option Jvm.ClassFile.FieldType)) rm_X10_copy 4 [(20, 203), (0, x1), (0, x2), (0, x3), (0, x4)] M Q
def wp_X10_copy_3_b (V : VV) (x1 x2 x3 x4 x5 : Int) (M : Mem) (Q : Int → Mem → Prop) (B3 : Int → Mem → Prop) : Prop :=
  (x3 ≤ x5 →
    ((0 : Int) ≤ x4 ∧ x4 < (21 : Int)) ∧
    Q 0 (mset M 204 x4 x3)) ∧ (¬ (x3 ≤ x5) →
    ((0 : Int) ≤ w32 (w32 (w32 (32 * x1) + x2) + x5) ∧ w32 (w32 (w32 (32 * x1) + x2) + x5) < (672 : Int)) ∧
    ((0 : Int) ≤ w32 (w32 (32 * x4) + x5) ∧ w32 (w32 (32 * x4) + x5) < (672 : Int)) ∧
    ∀ M1 : Mem, M1 = mset M 205 (w32 (w32 (32 * x4) + x5)) (M 205 (w32 (w32 (w32 (32 * x1) + x2) + x5))) →
    ((0 : Int) ≤ w32 (w32 (w32 (32 * x1) + x2) + x5) ∧ w32 (w32 (w32 (32 * x1) + x2) + x5) < (672 : Int)) ∧
    ((0 : Int) ≤ w32 (w32 (32 * x4) + x5) ∧ w32 (w32 (32 * x4) + x5) < (672 : Int)) ∧
    B3 (w32 (x5 + 1)) (mset M1 206 (w32 (w32 (32 * x4) + x5)) (M1 206 (w32 (w32 (w32 (32 * x1) + x2) + x5)))))
theorem swp_X10_copy_3_b {X : XX} {Q : Int → Mem → Prop} (G : GX X cX10_copy "TreeHandsModel") (Z : RX X 4 Q) (hn : nLX X = 6) (hr : roomX X = rm_X10_copy) (x1 x2 x3 x4 x5 : Int) (M : Mem) (B3 : Int → Mem → Prop) (k3 : ∀ (z5 : Int) (N : Mem), B3 z5 N → AW X 3 [(20, 203), (0, x1), (0, x2), (0, x3), (0, x4), (0, z5)] [] N) (h : wp_X10_copy_3_b (vX X) x1 x2 x3 x4 x5 M Q B3) : AW X 3 [(20, 203), (0, x1), (0, x2), (0, x3), (0, x4), (0, x5)] [] M := by
  unfold wp_X10_copy_3_b at h
  refine am_iload (pc := 3) G dX10_copy_3 rfl ?_
  refine am_iload_n (i := 3) (pc := 5) G dX10_copy_5 rfl rfl ?_
  refine am_icmp_ge (pc := 6) G 69 dX10_copy_6 (by decide) (fun c => ?_) (fun c => ?_)
  · have h := h.1 c
    refine am_aload_n (i := 0) (t := 17) (pc := 69) G dX10_copy_69 rfl rfl rfl ?_
    refine gf_X10_0 (pc := 70) G dX10_copy_70 tw_f_RX10_7 ?_
    refine am_iload (pc := 73) G dX10_copy_73 rfl ?_
    refine am_iload_n (i := 3) (pc := 75) G dX10_copy_75 rfl rfl ?_
    refine am_iast (pc := 76) G 21 dX10_copy_76 (by decide) h.1 ?_
    have h := h.2
    exact am_vret (pc := 77) G Z dX10_copy_77 h
  · have h := h.2 c
    refine am_aload_n (i := 0) (t := 17) (pc := 9) G dX10_copy_9 rfl rfl rfl ?_
    refine gf_X10_1 (pc := 10) G dX10_copy_10 tw_f_RX10_13 ?_
    refine am_bipush (pc := 13) G dX10_copy_13 (by decide) (by decide) ?_
    refine am_iload (pc := 15) G dX10_copy_15 rfl ?_
    refine am_imul (pc := 17) G dX10_copy_17 ?_
    refine am_iload (pc := 18) G dX10_copy_18 rfl ?_
    refine am_iadd (pc := 20) G dX10_copy_20 ?_
    refine am_aload_n (i := 0) (t := 17) (pc := 21) G dX10_copy_21 rfl rfl rfl ?_
    refine gf_X10_1 (pc := 22) G dX10_copy_22 tw_f_RX10_13 ?_
    refine am_bipush (pc := 25) G dX10_copy_25 (by decide) (by decide) ?_
    refine am_iload_n (i := 1) (pc := 27) G dX10_copy_27 rfl rfl ?_
    refine am_imul (pc := 28) G dX10_copy_28 ?_
    refine am_iload_n (i := 2) (pc := 29) G dX10_copy_29 rfl rfl ?_
    refine am_iadd (pc := 30) G dX10_copy_30 ?_
    refine am_iload (pc := 31) G dX10_copy_31 rfl ?_
    refine am_iadd (pc := 33) G dX10_copy_33 ?_
    refine am_iald (pc := 34) G 672 dX10_copy_34 (by decide) h.1 ?_
    have h := h.2
    refine am_iast (pc := 35) G 672 dX10_copy_35 (by decide) h.1 ?_
    have h := h.2
    refine am_aload_n (i := 0) (t := 17) (pc := 36) G dX10_copy_36 rfl rfl rfl ?_
    refine gf_X10_2 (pc := 37) G dX10_copy_37 tw_f_RX10_16 ?_
    refine am_bipush (pc := 40) G dX10_copy_40 (by decide) (by decide) ?_
    refine am_iload (pc := 42) G dX10_copy_42 rfl ?_
    refine am_imul (pc := 44) G dX10_copy_44 ?_
    refine am_iload (pc := 45) G dX10_copy_45 rfl ?_
    refine am_iadd (pc := 47) G dX10_copy_47 ?_
    refine am_aload_n (i := 0) (t := 17) (pc := 48) G dX10_copy_48 rfl rfl rfl ?_
    refine gf_X10_2 (pc := 49) G dX10_copy_49 tw_f_RX10_16 ?_
    refine am_bipush (pc := 52) G dX10_copy_52 (by decide) (by decide) ?_
    refine am_iload_n (i := 1) (pc := 54) G dX10_copy_54 rfl rfl ?_
    refine am_imul (pc := 55) G dX10_copy_55 ?_
    refine am_iload_n (i := 2) (pc := 56) G dX10_copy_56 rfl rfl ?_
    refine am_iadd (pc := 57) G dX10_copy_57 ?_
    refine am_iload (pc := 58) G dX10_copy_58 rfl ?_
    refine am_iadd (pc := 60) G dX10_copy_60 ?_
    have h := h _ rfl
    refine am_iald (pc := 61) G 672 dX10_copy_61 (by decide) h.1 ?_
    have h := h.2
    refine am_iast (pc := 62) G 672 dX10_copy_62 (by decide) h.1 ?_
    have h := h.2
    refine am_iinc (pc := 63) G dX10_copy_63 rfl (nlx hn rfl) rfl ?_
    refine am_goto (pc := 66) (ls := [(20, _), (0, _), (0, _), (0, _), (0, _), (0, _)]) G 3 dX10_copy_66 (by decide) ?_
    refine am_le (ls' := [(20, _), (0, _), (0, _), (0, _), (0, _), (0, _)]) ⟨Or.inr rfl, ⟨Or.inr rfl, ⟨Or.inr rfl, ⟨Or.inr rfl, ⟨Or.inr rfl, ⟨Or.inr rfl, trivial⟩⟩⟩⟩⟩⟩ ?_
    exact k3 _ _ h
def wp_X10_copy_3 (V : VV) (x1 x2 x3 x4 x5 : Int) (M : Mem) (Q : Int → Mem → Prop) : Prop :=
  ∃ (I : Int → Mem → Prop) (μ : Int → Mem → Nat), I x5 M ∧ ∀ (y5 : Int) (N : Mem), I y5 N → wp_X10_copy_3_b V x1 x2 x3 x4 y5 N Q (fun z5 N1 => I z5 N1 ∧ μ z5 N1 < μ y5 N)
theorem swp_X10_copy_3 {X : XX} {Q : Int → Mem → Prop} (G : GX X cX10_copy "TreeHandsModel") (Z : RX X 4 Q) (hn : nLX X = 6) (hr : roomX X = rm_X10_copy) (x1 x2 x3 x4 x5 : Int) (M : Mem) (h : wp_X10_copy_3 (vX X) x1 x2 x3 x4 x5 M Q) : AW X 3 [(20, 203), (0, x1), (0, x2), (0, x3), (0, x4), (0, x5)] [] M := by
  unfold wp_X10_copy_3 at h
  obtain ⟨I, μ, hI, hs⟩ := h
  have key : ∀ (n : Nat) (y5 : Int) (N : Mem), μ y5 N < n → I y5 N → AW X 3 [(20, 203), (0, x1), (0, x2), (0, x3), (0, x4), (0, y5)] [] N := by
    intro n
    induction n with
    | zero => intro y5 N hlt; exact absurd hlt (Nat.not_lt_zero _)
    | succ n ih =>
      intro y5 N hlt hI
      exact swp_X10_copy_3_b G Z hn hr x1 x2 x3 x4 y5 N (fun z5 N1 => I z5 N1 ∧ μ z5 N1 < μ y5 N) (fun z5 N1 hz => ih z5 N1 (by omega) hz.1) (hs y5 N hI)
  exact key _ x5 M (Nat.lt_succ_self _) hI
def wp_X10_copy (V : VV) (x1 x2 x3 x4 : Int) (M : Mem) (Q : Int → Mem → Prop) : Prop :=
  wp_X10_copy_3 V x1 x2 x3 x4 0 M Q
theorem of_X10_copy {V : VV} {x1 x2 x3 x4 : Int} {M : Mem} {Q : Int → Mem → Prop} (h : wp_X10_copy V x1 x2 x3 x4 M Q) : R_X10_copy V x1 x2 x3 x4 M Q := by
  refine met_in (own := "TreeHandsModel") (by decide +kernel) rfl rfl (Nat.le_of_ble_eq_true rfl) ?_
  intro X G Z hn hr hv
  subst hv
  unfold wp_X10_copy at h
  show AW X 0 [(20, 203), (0, x1), (0, x2), (0, x3), (0, x4), (99, 0)] [] M
  refine am_iconst (pc := 0) G dX10_copy_0 (by decide) ?_
  refine am_istore (pc := 1) G dX10_copy_1 (nlx hn rfl) rfl ?_
  refine am_le (ls' := [(20, _), (0, _), (0, _), (0, _), (0, _), (0, _)]) ⟨Or.inr rfl, ⟨Or.inr rfl, ⟨Or.inr rfl, ⟨Or.inr rfl, ⟨Or.inr rfl, ⟨Or.inr rfl, trivial⟩⟩⟩⟩⟩⟩ ?_
  exact swp_X10_copy_3 G Z hn hr _ _ _ _ _ _ h
-- X10_take TreeHandsModel.take(III)I
def rm_X10_take : Room := { frames := 3, cells := 0, slots := 0, locals := 64 }
theorem hy_X10_take : yX10_take.cls ≠ "java/lang/invoke/MethodHandle" ∧ yX10_take.cls ≠ "java/lang/invoke/VarHandle" ∧ (parseMethodDescriptor yX10_take.desc).map (fun d => d.parameters.length) = some 3 := by decide +kernel
abbrev R_X10_take (V : VV) (x1 x2 x3 : Int) (M : Mem) (Q : Int → Mem → Prop) : Prop := RunsM V yX10_take (.code yX10_take cX10_take 5 (Option.some Jvm.ClassFile.FieldType.int)) rm_X10_take 0 [(20, 203), (0, x1), (0, x2), (0, x3)] M Q
def wp_X10_take (V : VV) (x1 x2 x3 : Int) (M : Mem) (Q : Int → Mem → Prop) : Prop :=
  R_X10_isNode V x1 x2 M (fun r1 M2 =>
  (r1 = 0 →
    Q (-1) M2) ∧ (¬ (r1 = 0) →
    R_X10_isTree V x3 M2 (fun r3 M4 =>
    (r3 = 0 →
      Q (-1) M4) ∧ (¬ (r3 = 0) →
      R_X10_sizeOf V x1 x2 M4 (fun r5 M6 =>
      R_X10_copy V x1 x2 r5 18 M6 (fun _ M8 =>
      R_X10_copy V 18 0 r5 x3 M8 (fun _ M10 =>
      Q r5 M10)))))))
theorem of_X10_take {V : VV} {x1 x2 x3 : Int} {M : Mem} {Q : Int → Mem → Prop} (h : wp_X10_take V x1 x2 x3 M Q) : R_X10_take V x1 x2 x3 M Q := by
  refine met_in (own := "TreeHandsModel") (by decide +kernel) rfl rfl (Nat.le_of_ble_eq_true rfl) ?_
  intro X G Z hn hr hv
  subst hv
  unfold wp_X10_take at h
  show AW X 0 [(20, 203), (0, x1), (0, x2), (0, x3), (99, 0)] [] M
  refine am_aload_n (i := 0) (t := 17) (pc := 0) G dX10_take_0 rfl rfl rfl ?_
  refine am_iload_n (i := 1) (pc := 1) G dX10_take_1 rfl rfl ?_
  refine am_iload_n (i := 2) (pc := 2) G dX10_take_2 rfl rfl ?_
  refine am_callV (rk := 1) (rmc := rm_X10_isNode) (st := []) (pc := 3) G 10 [(0, _), (0, _)] rfl (by decide) rfl dX10_take_3 tw_m_RX10_132 tw_i_X10_isNode tw_v_X10_isNode tw_z_RX10 tw_c_X10_isNode hy_X10_isNode (callrm hr rfl) rfl (RunsM.mono h (fun r1 M2 h => ?_)) Z.rm
  show AW X 6 _ [(0, _)] M2
  refine am_if_eq (pc := 6) G 16 dX10_take_6 (by decide) (fun c => ?_) (fun c => ?_)
  · have h := h.1 c
    refine am_iconst (pc := 16) G dX10_take_16 (by decide) ?_
    exact am_iret (pc := 17) G Z dX10_take_17 h
  · have h := h.2 c
    refine am_iload_n (i := 3) (pc := 9) G dX10_take_9 rfl rfl ?_
    refine am_callS (rk := 1) (rmc := rm_X10_isTree) (st := []) (pc := 10) G [(0, _)] dX10_take_10 tw_m_RX10_114 tw_s_X10_isTree tw_z_RX10 tw_c_X10_isTree hy_X10_isTree (callrm hr rfl) rfl (RunsM.mono h (fun r3 M4 h => ?_)) Z.rm
    show AW X 13 _ [(0, _)] M4
    refine am_if_ne (pc := 13) G 18 dX10_take_13 (by decide) (fun c => ?_) (fun c => ?_)
    · have h := h.2 c
      refine am_aload_n (i := 0) (t := 17) (pc := 18) G dX10_take_18 rfl rfl rfl ?_
      refine am_iload_n (i := 1) (pc := 19) G dX10_take_19 rfl rfl ?_
      refine am_iload_n (i := 2) (pc := 20) G dX10_take_20 rfl rfl ?_
      refine am_callV (rk := 0) (rmc := rm_X10_sizeOf) (st := []) (pc := 21) G 10 [(0, _), (0, _)] rfl (by decide) rfl dX10_take_21 tw_m_RX10_128 tw_i_X10_sizeOf tw_v_X10_sizeOf tw_z_RX10 tw_c_X10_sizeOf hy_X10_sizeOf (callrm hr rfl) rfl (RunsM.mono h (fun r5 M6 h => ?_)) Z.rm
      show AW X 24 _ [(0, _)] M6
      refine am_istore (pc := 24) G dX10_take_24 (nlx hn rfl) rfl ?_
      refine am_aload_n (i := 0) (t := 17) (pc := 26) (ls := [(20, _), (0, _), (0, _), (0, _), (0, _)]) G dX10_take_26 rfl rfl rfl ?_
      refine am_iload_n (i := 1) (pc := 27) G dX10_take_27 rfl rfl ?_
      refine am_iload_n (i := 2) (pc := 28) G dX10_take_28 rfl rfl ?_
      refine am_iload (pc := 29) G dX10_take_29 rfl ?_
      refine am_bipush (pc := 31) G dX10_take_31 (by decide) (by decide) ?_
      refine am_callV (rk := 4) (rmc := rm_X10_copy) (st := []) (pc := 33) G 10 [(0, _), (0, _), (0, _), (0, _)] rfl (by decide) rfl dX10_take_33 tw_m_RX10_149 tw_i_X10_copy tw_v_X10_copy tw_z_RX10 tw_c_X10_copy hy_X10_copy (callrm hr rfl) rfl (RunsM.mono h (fun r7 M8 h => ?_)) Z.rm
      show AW X 36 _ [] M8
      refine am_aload_n (i := 0) (t := 17) (pc := 36) G dX10_take_36 rfl rfl rfl ?_
      refine am_bipush (pc := 37) G dX10_take_37 (by decide) (by decide) ?_
      refine am_iconst (pc := 39) G dX10_take_39 (by decide) ?_
      refine am_iload (pc := 40) G dX10_take_40 rfl ?_
      refine am_iload_n (i := 3) (pc := 42) G dX10_take_42 rfl rfl ?_
      refine am_callV (rk := 4) (rmc := rm_X10_copy) (st := []) (pc := 43) G 10 [(0, _), (0, _), (0, _), (0, _)] rfl (by decide) rfl dX10_take_43 tw_m_RX10_149 tw_i_X10_copy tw_v_X10_copy tw_z_RX10 tw_c_X10_copy hy_X10_copy (callrm hr rfl) rfl (RunsM.mono h (fun r9 M10 h => ?_)) Z.rm
      show AW X 46 _ [] M10
      refine am_iload (pc := 46) G dX10_take_46 rfl ?_
      exact am_iret (pc := 48) G Z dX10_take_48 h
    · have h := h.1 c
      refine am_iconst (pc := 16) G dX10_take_16 (by decide) ?_
      exact am_iret (pc := 17) G Z dX10_take_17 h
-- X10_same TreeHandsModel.same(IIII)Z
def rm_X10_same : Room := { frames := 1, cells := 0, slots := 0, locals := 24 }
theorem hy_X10_same : yX10_same.cls ≠ "java/lang/invoke/MethodHandle" ∧ yX10_same.cls ≠ "java/lang/invoke/VarHandle" ∧ (parseMethodDescriptor yX10_same.desc).map (fun d => d.parameters.length) = some 4 := by decide +kernel
abbrev R_X10_same (V : VV) (x1 x2 x3 x4 : Int) (M : Mem) (Q : Int → Mem → Prop) : Prop := RunsM V yX10_same (.code yX10_same cX10_same 8 (Option.some Jvm.ClassFile.FieldType.boolean)) rm_X10_same 1 [(20, 203), (0, x1), (0, x2), (0, x3), (0, x4)] M Q
def wp_X10_same_110 (V : VV) (x1 x2 x3 x4 x5 x7 : Int) (M : Mem) (Q : Int → Mem → Prop) (B30 : Int → Int → Prop) : Prop :=
  B30 0 (w32 (x7 + 1))
theorem swp_X10_same_110 {X : XX} {Q : Int → Mem → Prop} (G : GX X cX10_same "TreeHandsModel") (Z : RX X 1 Q) (hn : nLX X = 8) (hr : roomX X = rm_X10_same) (x1 x2 x3 x4 x5 x7 : Int) (M : Mem) (B30 : Int → Int → Prop) (k30 : ∀ (z6 z7 : Int), B30 z6 z7 → AW X 30 [(20, 203), (0, x1), (0, x2), (0, x3), (0, x4), (0, x5), (0, z6), (0, z7)] [] M) (h : wp_X10_same_110 (vX X) x1 x2 x3 x4 x5 x7 M Q B30) : AW X 110 [(20, 203), (0, x1), (0, x2), (0, x3), (0, x4), (0, x5), (99, 0), (0, x7)] [] M := by
  unfold wp_X10_same_110 at h
  refine am_iconst (pc := 110) G dX10_same_110 (by decide) ?_
  refine am_istore (pc := 111) G dX10_same_111 (nlx hn rfl) rfl ?_
  refine am_iinc (pc := 113) (ls := [(20, _), (0, _), (0, _), (0, _), (0, _), (0, _), (0, _), (0, _)]) G dX10_same_113 rfl (nlx hn rfl) rfl ?_
  refine am_goto (pc := 116) (ls := [(20, _), (0, _), (0, _), (0, _), (0, _), (0, _), (0, _), (0, _)]) G 30 dX10_same_116 (by decide) ?_
  refine am_le (ls' := [(20, _), (0, _), (0, _), (0, _), (0, _), (0, _), (0, _), (0, _)]) ⟨Or.inr rfl, ⟨Or.inr rfl, ⟨Or.inr rfl, ⟨Or.inr rfl, ⟨Or.inr rfl, ⟨Or.inr rfl, ⟨Or.inr rfl, ⟨Or.inr rfl, trivial⟩⟩⟩⟩⟩⟩⟩⟩ ?_
  exact k30 _ _ h
def wp_X10_same_30_b (V : VV) (x1 x2 x3 x4 x5 x6 x7 : Int) (M : Mem) (Q : Int → Mem → Prop) (B30 : Int → Int → Prop) : Prop :=
  (x5 ≤ x7 →
    (x6 = 0 ∨ x6 = 1) ∧ Q x6 M) ∧ (¬ (x5 ≤ x7) →
    (x6 = 0 →
      (x6 = 0 ∨ x6 = 1) ∧ Q x6 M) ∧ (¬ (x6 = 0) →
      ((0 : Int) ≤ w32 (w32 (w32 (32 * x1) + x2) + x7) ∧ w32 (w32 (w32 (32 * x1) + x2) + x7) < (672 : Int)) ∧
      ((0 : Int) ≤ w32 (w32 (w32 (32 * x3) + x4) + x7) ∧ w32 (w32 (w32 (32 * x3) + x4) + x7) < (672 : Int)) ∧
      (M 205 (w32 (w32 (w32 (32 * x1) + x2) + x7)) = M 205 (w32 (w32 (w32 (32 * x3) + x4) + x7)) →
        ((0 : Int) ≤ w32 (w32 (w32 (32 * x1) + x2) + x7) ∧ w32 (w32 (w32 (32 * x1) + x2) + x7) < (672 : Int)) ∧
        ((0 : Int) ≤ w32 (w32 (w32 (32 * x3) + x4) + x7) ∧ w32 (w32 (w32 (32 * x3) + x4) + x7) < (672 : Int)) ∧
        (M 206 (w32 (w32 (w32 (32 * x1) + x2) + x7)) = M 206 (w32 (w32 (w32 (32 * x3) + x4) + x7)) →
          B30 1 (w32 (x7 + 1))) ∧ (¬ (M 206 (w32 (w32 (w32 (32 * x1) + x2) + x7)) = M 206 (w32 (w32 (w32 (32 * x3) + x4) + x7))) →
          wp_X10_same_110 V x1 x2 x3 x4 x5 x7 M Q B30)) ∧ (¬ (M 205 (w32 (w32 (w32 (32 * x1) + x2) + x7)) = M 205 (w32 (w32 (w32 (32 * x3) + x4) + x7))) →
        wp_X10_same_110 V x1 x2 x3 x4 x5 x7 M Q B30)))
theorem swp_X10_same_30_b {X : XX} {Q : Int → Mem → Prop} (G : GX X cX10_same "TreeHandsModel") (Z : RX X 1 Q) (hn : nLX X = 8) (hr : roomX X = rm_X10_same) (x1 x2 x3 x4 x5 x6 x7 : Int) (M : Mem) (B30 : Int → Int → Prop) (k30 : ∀ (z6 z7 : Int), B30 z6 z7 → AW X 30 [(20, 203), (0, x1), (0, x2), (0, x3), (0, x4), (0, x5), (0, z6), (0, z7)] [] M) (h : wp_X10_same_30_b (vX X) x1 x2 x3 x4 x5 x6 x7 M Q B30) : AW X 30 [(20, 203), (0, x1), (0, x2), (0, x3), (0, x4), (0, x5), (0, x6), (0, x7)] [] M := by
  unfold wp_X10_same_30_b at h
  refine am_iload (pc := 30) G dX10_same_30 rfl ?_
  refine am_iload (pc := 32) G dX10_same_32 rfl ?_
  refine am_icmp_ge (pc := 34) G 119 dX10_same_34 (by decide) (fun c => ?_) (fun c => ?_)
  · have h := h.1 c
    refine am_iload (pc := 119) G dX10_same_119 rfl ?_
    exact am_zret (pc := 121) G Z dX10_same_121 h
  · have h := h.2 c
    refine am_iload (pc := 37) G dX10_same_37 rfl ?_
    refine am_if_eq (pc := 39) G 119 dX10_same_39 (by decide) (fun c => ?_) (fun c => ?_)
    · have h := h.1 c
      refine am_iload (pc := 119) G dX10_same_119 rfl ?_
      exact am_zret (pc := 121) G Z dX10_same_121 h
    · have h := h.2 c
      refine am_aload_n (i := 0) (t := 17) (pc := 42) G dX10_same_42 rfl rfl rfl ?_
      refine gf_X10_1 (pc := 43) G dX10_same_43 tw_f_RX10_13 ?_
      refine am_bipush (pc := 46) G dX10_same_46 (by decide) (by decide) ?_
      refine am_iload_n (i := 1) (pc := 48) G dX10_same_48 rfl rfl ?_
      refine am_imul (pc := 49) G dX10_same_49 ?_
      refine am_iload_n (i := 2) (pc := 50) G dX10_same_50 rfl rfl ?_
      refine am_iadd (pc := 51) G dX10_same_51 ?_
      refine am_iload (pc := 52) G dX10_same_52 rfl ?_
      refine am_iadd (pc := 54) G dX10_same_54 ?_
      refine am_iald (pc := 55) G 672 dX10_same_55 (by decide) h.1 ?_
      have h := h.2
      refine am_aload_n (i := 0) (t := 17) (pc := 56) G dX10_same_56 rfl rfl rfl ?_
      refine gf_X10_1 (pc := 57) G dX10_same_57 tw_f_RX10_13 ?_
      refine am_bipush (pc := 60) G dX10_same_60 (by decide) (by decide) ?_
      refine am_iload_n (i := 3) (pc := 62) G dX10_same_62 rfl rfl ?_
      refine am_imul (pc := 63) G dX10_same_63 ?_
      refine am_iload (pc := 64) G dX10_same_64 rfl ?_
      refine am_iadd (pc := 66) G dX10_same_66 ?_
      refine am_iload (pc := 67) G dX10_same_67 rfl ?_
      refine am_iadd (pc := 69) G dX10_same_69 ?_
      refine am_iald (pc := 70) G 672 dX10_same_70 (by decide) h.1 ?_
      have h := h.2
      refine am_icmp_ne (pc := 71) G 110 dX10_same_71 (by decide) (fun c => ?_) (fun c => ?_)
      · have h := h.2 c
        refine am_le (ls' := [(20, _), (0, _), (0, _), (0, _), (0, _), (0, _), (99, 0), (0, _)]) ⟨Or.inr rfl, ⟨Or.inr rfl, ⟨Or.inr rfl, ⟨Or.inr rfl, ⟨Or.inr rfl, ⟨Or.inr rfl, ⟨Or.inl rfl, ⟨Or.inr rfl, trivial⟩⟩⟩⟩⟩⟩⟩⟩ ?_
        exact swp_X10_same_110 G Z hn hr _ _ _ _ _ _ _ B30 k30 h
      · have h := h.1 c
        refine am_aload_n (i := 0) (t := 17) (pc := 74) G dX10_same_74 rfl rfl rfl ?_
        refine gf_X10_2 (pc := 75) G dX10_same_75 tw_f_RX10_16 ?_
        refine am_bipush (pc := 78) G dX10_same_78 (by decide) (by decide) ?_
        refine am_iload_n (i := 1) (pc := 80) G dX10_same_80 rfl rfl ?_
        refine am_imul (pc := 81) G dX10_same_81 ?_
        refine am_iload_n (i := 2) (pc := 82) G dX10_same_82 rfl rfl ?_
        refine am_iadd (pc := 83) G dX10_same_83 ?_
        refine am_iload (pc := 84) G dX10_same_84 rfl ?_
        refine am_iadd (pc := 86) G dX10_same_86 ?_
        refine am_iald (pc := 87) G 672 dX10_same_87 (by decide) h.1 ?_
        have h := h.2
        refine am_aload_n (i := 0) (t := 17) (pc := 88) G dX10_same_88 rfl rfl rfl ?_
        refine gf_X10_2 (pc := 89) G dX10_same_89 tw_f_RX10_16 ?_
        refine am_bipush (pc := 92) G dX10_same_92 (by decide) (by decide) ?_
        refine am_iload_n (i := 3) (pc := 94) G dX10_same_94 rfl rfl ?_
        refine am_imul (pc := 95) G dX10_same_95 ?_
        refine am_iload (pc := 96) G dX10_same_96 rfl ?_
        refine am_iadd (pc := 98) G dX10_same_98 ?_
        refine am_iload (pc := 99) G dX10_same_99 rfl ?_
        refine am_iadd (pc := 101) G dX10_same_101 ?_
        refine am_iald (pc := 102) G 672 dX10_same_102 (by decide) h.1 ?_
        have h := h.2
        refine am_icmp_ne (pc := 103) G 110 dX10_same_103 (by decide) (fun c => ?_) (fun c => ?_)
        · have h := h.2 c
          refine am_le (ls' := [(20, _), (0, _), (0, _), (0, _), (0, _), (0, _), (99, 0), (0, _)]) ⟨Or.inr rfl, ⟨Or.inr rfl, ⟨Or.inr rfl, ⟨Or.inr rfl, ⟨Or.inr rfl, ⟨Or.inr rfl, ⟨Or.inl rfl, ⟨Or.inr rfl, trivial⟩⟩⟩⟩⟩⟩⟩⟩ ?_
          exact swp_X10_same_110 G Z hn hr _ _ _ _ _ _ _ B30 k30 h
        · have h := h.1 c
          refine am_iconst (pc := 106) G dX10_same_106 (by decide) ?_
          refine am_goto (pc := 107) G 111 dX10_same_107 (by decide) ?_
          refine am_istore (pc := 111) G dX10_same_111 (nlx hn rfl) rfl ?_
          refine am_iinc (pc := 113) (ls := [(20, _), (0, _), (0, _), (0, _), (0, _), (0, _), (0, _), (0, _)]) G dX10_same_113 rfl (nlx hn rfl) rfl ?_
          refine am_goto (pc := 116) (ls := [(20, _), (0, _), (0, _), (0, _), (0, _), (0, _), (0, _), (0, _)]) G 30 dX10_same_116 (by decide) ?_
          refine am_le (ls' := [(20, _), (0, _), (0, _), (0, _), (0, _), (0, _), (0, _), (0, _)]) ⟨Or.inr rfl, ⟨Or.inr rfl, ⟨Or.inr rfl, ⟨Or.inr rfl, ⟨Or.inr rfl, ⟨Or.inr rfl, ⟨Or.inr rfl, ⟨Or.inr rfl, trivial⟩⟩⟩⟩⟩⟩⟩⟩ ?_
          exact k30 _ _ h
def wp_X10_same_30 (V : VV) (x1 x2 x3 x4 x5 x6 x7 : Int) (M : Mem) (Q : Int → Mem → Prop) : Prop :=
  ∃ (I : Int → Int → Prop) (μ : Int → Int → Nat), I x6 x7 ∧ ∀ (y6 y7 : Int), I y6 y7 → wp_X10_same_30_b V x1 x2 x3 x4 x5 y6 y7 M Q (fun z6 z7 => I z6 z7 ∧ μ z6 z7 < μ y6 y7)
theorem swp_X10_same_30 {X : XX} {Q : Int → Mem → Prop} (G : GX X cX10_same "TreeHandsModel") (Z : RX X 1 Q) (hn : nLX X = 8) (hr : roomX X = rm_X10_same) (x1 x2 x3 x4 x5 x6 x7 : Int) (M : Mem) (h : wp_X10_same_30 (vX X) x1 x2 x3 x4 x5 x6 x7 M Q) : AW X 30 [(20, 203), (0, x1), (0, x2), (0, x3), (0, x4), (0, x5), (0, x6), (0, x7)] [] M := by
  unfold wp_X10_same_30 at h
  obtain ⟨I, μ, hI, hs⟩ := h
  have key : ∀ (n : Nat) (y6 y7 : Int), μ y6 y7 < n → I y6 y7 → AW X 30 [(20, 203), (0, x1), (0, x2), (0, x3), (0, x4), (0, x5), (0, y6), (0, y7)] [] M := by
    intro n
    induction n with
    | zero => intro y6 y7 hlt; exact absurd hlt (Nat.not_lt_zero _)
    | succ n ih =>
      intro y6 y7 hlt hI
      exact swp_X10_same_30_b G Z hn hr x1 x2 x3 x4 x5 y6 y7 M (fun z6 z7 => I z6 z7 ∧ μ z6 z7 < μ y6 y7) (fun z6 z7 hz => ih z6 z7 (by omega) hz.1) (hs y6 y7 hI)
  exact key _ x6 x7 (Nat.lt_succ_self _) hI
def wp_X10_same_25 (V : VV) (x1 x2 x3 x4 x5 s0 : Int) (M : Mem) (Q : Int → Mem → Prop) : Prop :=
  wp_X10_same_30 V x1 x2 x3 x4 x5 s0 0 M Q
theorem swp_X10_same_25 {X : XX} {Q : Int → Mem → Prop} (G : GX X cX10_same "TreeHandsModel") (Z : RX X 1 Q) (hn : nLX X = 8) (hr : roomX X = rm_X10_same) (x1 x2 x3 x4 x5 s0 : Int) (M : Mem) (h : wp_X10_same_25 (vX X) x1 x2 x3 x4 x5 s0 M Q) : AW X 25 [(20, 203), (0, x1), (0, x2), (0, x3), (0, x4), (0, x5), (99, 0), (99, 0)] [(0, s0)] M := by
  unfold wp_X10_same_25 at h
  refine am_istore (pc := 25) G dX10_same_25 (nlx hn rfl) rfl ?_
  refine am_iconst (pc := 27) (ls := [(20, _), (0, _), (0, _), (0, _), (0, _), (0, _), (0, _), (99, _)]) G dX10_same_27 (by decide) ?_
  refine am_istore (pc := 28) G dX10_same_28 (nlx hn rfl) rfl ?_
  refine am_le (ls' := [(20, _), (0, _), (0, _), (0, _), (0, _), (0, _), (0, _), (0, _)]) ⟨Or.inr rfl, ⟨Or.inr rfl, ⟨Or.inr rfl, ⟨Or.inr rfl, ⟨Or.inr rfl, ⟨Or.inr rfl, ⟨Or.inr rfl, ⟨Or.inr rfl, trivial⟩⟩⟩⟩⟩⟩⟩⟩ ?_
  exact swp_X10_same_30 G Z hn hr _ _ _ _ _ _ _ _ h
def wp_X10_same (V : VV) (x1 x2 x3 x4 : Int) (M : Mem) (Q : Int → Mem → Prop) : Prop :=
  R_X10_sizeOf V x1 x2 M (fun r1 M2 =>
  R_X10_sizeOf V x3 x4 M2 (fun r3 M4 =>
  (r1 = r3 →
    wp_X10_same_25 V x1 x2 x3 x4 r1 1 M4 Q) ∧ (¬ (r1 = r3) →
    wp_X10_same_25 V x1 x2 x3 x4 r1 0 M4 Q)))
theorem of_X10_same {V : VV} {x1 x2 x3 x4 : Int} {M : Mem} {Q : Int → Mem → Prop} (h : wp_X10_same V x1 x2 x3 x4 M Q) : R_X10_same V x1 x2 x3 x4 M Q := by
  refine met_in (own := "TreeHandsModel") (by decide +kernel) rfl rfl (Nat.le_of_ble_eq_true rfl) ?_
  intro X G Z hn hr hv
  subst hv
  unfold wp_X10_same at h
  show AW X 0 [(20, 203), (0, x1), (0, x2), (0, x3), (0, x4), (99, 0), (99, 0), (99, 0)] [] M
  refine am_aload_n (i := 0) (t := 17) (pc := 0) G dX10_same_0 rfl rfl rfl ?_
  refine am_iload_n (i := 1) (pc := 1) G dX10_same_1 rfl rfl ?_
  refine am_iload_n (i := 2) (pc := 2) G dX10_same_2 rfl rfl ?_
  refine am_callV (rk := 0) (rmc := rm_X10_sizeOf) (st := []) (pc := 3) G 10 [(0, _), (0, _)] rfl (by decide) rfl dX10_same_3 tw_m_RX10_128 tw_i_X10_sizeOf tw_v_X10_sizeOf tw_z_RX10 tw_c_X10_sizeOf hy_X10_sizeOf (callrm hr rfl) rfl (RunsM.mono h (fun r1 M2 h => ?_)) Z.rm
  show AW X 6 _ [(0, _)] M2
  refine am_istore (pc := 6) G dX10_same_6 (nlx hn rfl) rfl ?_
  refine am_iload (pc := 8) (ls := [(20, _), (0, _), (0, _), (0, _), (0, _), (0, _), (99, _), (99, _)]) G dX10_same_8 rfl ?_
  refine am_aload_n (i := 0) (t := 17) (pc := 10) G dX10_same_10 rfl rfl rfl ?_
  refine am_iload_n (i := 3) (pc := 11) G dX10_same_11 rfl rfl ?_
  refine am_iload (pc := 12) G dX10_same_12 rfl ?_
  refine am_callV (rk := 0) (rmc := rm_X10_sizeOf) (st := [(0, _)]) (pc := 14) G 10 [(0, _), (0, _)] rfl (by decide) rfl dX10_same_14 tw_m_RX10_128 tw_i_X10_sizeOf tw_v_X10_sizeOf tw_z_RX10 tw_c_X10_sizeOf hy_X10_sizeOf (callrm hr rfl) rfl (RunsM.mono h (fun r3 M4 h => ?_)) Z.rm
  show AW X 17 _ [(0, _), (0, _)] M4
  refine am_icmp_ne (pc := 17) G 24 dX10_same_17 (by decide) (fun c => ?_) (fun c => ?_)
  · have h := h.2 c
    refine am_iconst (pc := 24) G dX10_same_24 (by decide) ?_
    refine am_le (ls' := [(20, _), (0, _), (0, _), (0, _), (0, _), (0, _), (99, 0), (99, 0)]) ⟨Or.inr rfl, ⟨Or.inr rfl, ⟨Or.inr rfl, ⟨Or.inr rfl, ⟨Or.inr rfl, ⟨Or.inr rfl, ⟨Or.inl rfl, ⟨Or.inl rfl, trivial⟩⟩⟩⟩⟩⟩⟩⟩ ?_
    exact swp_X10_same_25 G Z hn hr _ _ _ _ _ _ _ h
  · have h := h.1 c
    refine am_iconst (pc := 20) G dX10_same_20 (by decide) ?_
    refine am_goto (pc := 21) G 25 dX10_same_21 (by decide) ?_
    refine am_le (ls' := [(20, _), (0, _), (0, _), (0, _), (0, _), (0, _), (99, 0), (99, 0)]) ⟨Or.inr rfl, ⟨Or.inr rfl, ⟨Or.inr rfl, ⟨Or.inr rfl, ⟨Or.inr rfl, ⟨Or.inr rfl, ⟨Or.inl rfl, ⟨Or.inl rfl, trivial⟩⟩⟩⟩⟩⟩⟩⟩ ?_
    exact swp_X10_same_25 G Z hn hr _ _ _ _ _ _ _ h
-- X10_alike TreeHandsModel.alike(IIII)I
def rm_X10_alike : Room := { frames := 3, cells := 0, slots := 0, locals := 64 }
theorem hy_X10_alike : yX10_alike.cls ≠ "java/lang/invoke/MethodHandle" ∧ yX10_alike.cls ≠ "java/lang/invoke/VarHandle" ∧ (parseMethodDescriptor yX10_alike.desc).map (fun d => d.parameters.length) = some 4 := by decide +kernel
abbrev R_X10_alike (V : VV) (x1 x2 x3 x4 : Int) (M : Mem) (Q : Int → Mem → Prop) : Prop := RunsM V yX10_alike (.code yX10_alike cX10_alike 5 (Option.some Jvm.ClassFile.FieldType.int)) rm_X10_alike 0 [(20, 203), (0, x1), (0, x2), (0, x3), (0, x4)] M Q
def wp_X10_alike (V : VV) (x1 x2 x3 x4 : Int) (M : Mem) (Q : Int → Mem → Prop) : Prop :=
  R_X10_isNode V x1 x2 M (fun r1 M2 =>
  (r1 = 0 →
    Q (-1) M2) ∧ (¬ (r1 = 0) →
    R_X10_isNode V x3 x4 M2 (fun r3 M4 =>
    (r3 = 0 →
      Q (-1) M4) ∧ (¬ (r3 = 0) →
      R_X10_same V x1 x2 x3 x4 M4 (fun r5 M6 =>
      (r5 = 0 →
        Q 0 M6) ∧ (¬ (r5 = 0) →
        Q 1 M6))))))
theorem of_X10_alike {V : VV} {x1 x2 x3 x4 : Int} {M : Mem} {Q : Int → Mem → Prop} (h : wp_X10_alike V x1 x2 x3 x4 M Q) : R_X10_alike V x1 x2 x3 x4 M Q := by
  refine met_in (own := "TreeHandsModel") (by decide +kernel) rfl rfl (Nat.le_of_ble_eq_true rfl) ?_
  intro X G Z hn hr hv
  subst hv
  unfold wp_X10_alike at h
  show AW X 0 [(20, 203), (0, x1), (0, x2), (0, x3), (0, x4)] [] M
  refine am_aload_n (i := 0) (t := 17) (pc := 0) G dX10_alike_0 rfl rfl rfl ?_
  refine am_iload_n (i := 1) (pc := 1) G dX10_alike_1 rfl rfl ?_
  refine am_iload_n (i := 2) (pc := 2) G dX10_alike_2 rfl rfl ?_
  refine am_callV (rk := 1) (rmc := rm_X10_isNode) (st := []) (pc := 3) G 10 [(0, _), (0, _)] rfl (by decide) rfl dX10_alike_3 tw_m_RX10_132 tw_i_X10_isNode tw_v_X10_isNode tw_z_RX10 tw_c_X10_isNode hy_X10_isNode (callrm hr rfl) rfl (RunsM.mono h (fun r1 M2 h => ?_)) Z.rm
  show AW X 6 _ [(0, _)] M2
  refine am_if_eq (pc := 6) G 19 dX10_alike_6 (by decide) (fun c => ?_) (fun c => ?_)
  · have h := h.1 c
    refine am_iconst (pc := 19) G dX10_alike_19 (by decide) ?_
    exact am_iret (pc := 20) G Z dX10_alike_20 h
  · have h := h.2 c
    refine am_aload_n (i := 0) (t := 17) (pc := 9) G dX10_alike_9 rfl rfl rfl ?_
    refine am_iload_n (i := 3) (pc := 10) G dX10_alike_10 rfl rfl ?_
    refine am_iload (pc := 11) G dX10_alike_11 rfl ?_
    refine am_callV (rk := 1) (rmc := rm_X10_isNode) (st := []) (pc := 13) G 10 [(0, _), (0, _)] rfl (by decide) rfl dX10_alike_13 tw_m_RX10_132 tw_i_X10_isNode tw_v_X10_isNode tw_z_RX10 tw_c_X10_isNode hy_X10_isNode (callrm hr rfl) rfl (RunsM.mono h (fun r3 M4 h => ?_)) Z.rm
    show AW X 16 _ [(0, _)] M4
    refine am_if_ne (pc := 16) G 21 dX10_alike_16 (by decide) (fun c => ?_) (fun c => ?_)
    · have h := h.2 c
      refine am_aload_n (i := 0) (t := 17) (pc := 21) G dX10_alike_21 rfl rfl rfl ?_
      refine am_iload_n (i := 1) (pc := 22) G dX10_alike_22 rfl rfl ?_
      refine am_iload_n (i := 2) (pc := 23) G dX10_alike_23 rfl rfl ?_
      refine am_iload_n (i := 3) (pc := 24) G dX10_alike_24 rfl rfl ?_
      refine am_iload (pc := 25) G dX10_alike_25 rfl ?_
      refine am_callV (rk := 1) (rmc := rm_X10_same) (st := []) (pc := 27) G 10 [(0, _), (0, _), (0, _), (0, _)] rfl (by decide) rfl dX10_alike_27 tw_m_RX10_153 tw_i_X10_same tw_v_X10_same tw_z_RX10 tw_c_X10_same hy_X10_same (callrm hr rfl) rfl (RunsM.mono h (fun r5 M6 h => ?_)) Z.rm
      show AW X 30 _ [(0, _)] M6
      refine am_if_eq (pc := 30) G 37 dX10_alike_30 (by decide) (fun c => ?_) (fun c => ?_)
      · have h := h.1 c
        refine am_iconst (pc := 37) G dX10_alike_37 (by decide) ?_
        exact am_iret (pc := 38) G Z dX10_alike_38 h
      · have h := h.2 c
        refine am_iconst (pc := 33) G dX10_alike_33 (by decide) ?_
        refine am_goto (pc := 34) G 38 dX10_alike_34 (by decide) ?_
        exact am_iret (pc := 38) G Z dX10_alike_38 h
    · have h := h.1 c
      refine am_iconst (pc := 19) G dX10_alike_19 (by decide) ?_
      exact am_iret (pc := 20) G Z dX10_alike_20 h
-- X10_price TreeHandsModel.price(II)I
def rm_X10_price : Room := { frames := 1, cells := 0, slots := 0, locals := 22 }
theorem hy_X10_price : yX10_price.cls ≠ "java/lang/invoke/MethodHandle" ∧ yX10_price.cls ≠ "java/lang/invoke/VarHandle" ∧ (parseMethodDescriptor yX10_price.desc).map (fun d => d.parameters.length) = some 2 := by decide +kernel
abbrev R_X10_price (V : VV) (x1 x2 : Int) (M : Mem) (Q : Int → Mem → Prop) : Prop := RunsM V yX10_price (.code yX10_price cX10_price 4 (Option.some Jvm.ClassFile.FieldType.int)) rm_X10_price 0 [(20, 203), (0, x1), (0, x2)] M Q
def wp_X10_price (V : VV) (x1 x2 : Int) (M : Mem) (Q : Int → Mem → Prop) : Prop :=
  R_X10_in V x1 0 2 M (fun r1 M2 =>
  (r1 = 0 →
    Q (-2) M2) ∧ (¬ (r1 = 0) →
    R_X10_in V x2 0 9 M2 (fun r3 M4 =>
    (r3 = 0 →
      Q (-2) M4) ∧ (¬ (r3 = 0) →
      ((0 : Int) ≤ x1 ∧ x1 < (3 : Int)) ∧
      ∀ v5 : Int, v5 = M4 208 x1 →
      ((0 : Int) ≤ x1 ∧ x1 < (3 : Int)) ∧
      Q v5 (mset M4 208 x1 x2)))))
theorem of_X10_price {V : VV} {x1 x2 : Int} {M : Mem} {Q : Int → Mem → Prop} (h : wp_X10_price V x1 x2 M Q) : R_X10_price V x1 x2 M Q := by
  refine met_in (own := "TreeHandsModel") (by decide +kernel) rfl rfl (Nat.le_of_ble_eq_true rfl) ?_
  intro X G Z hn hr hv
  subst hv
  unfold wp_X10_price at h
  show AW X 0 [(20, 203), (0, x1), (0, x2), (99, 0)] [] M
  refine am_iload_n (i := 1) (pc := 0) G dX10_price_0 rfl rfl ?_
  refine am_iconst (pc := 1) G dX10_price_1 (by decide) ?_
  refine am_iconst (pc := 2) G dX10_price_2 (by decide) ?_
  refine am_callS (rk := 1) (rmc := rm_X10_in) (st := []) (pc := 3) G [(0, _), (0, _), (0, _)] dX10_price_3 tw_m_RX10_110 tw_s_X10_in tw_z_RX10 tw_c_X10_in hy_X10_in (callrm hr rfl) rfl (RunsM.mono h (fun r1 M2 h => ?_)) Z.rm
  show AW X 6 _ [(0, _)] M2
  refine am_if_eq (pc := 6) G 19 dX10_price_6 (by decide) (fun c => ?_) (fun c => ?_)
  · have h := h.1 c
    refine am_bipush (pc := 19) G dX10_price_19 (by decide) (by decide) ?_
    exact am_iret (pc := 21) G Z dX10_price_21 h
  · have h := h.2 c
    refine am_iload_n (i := 2) (pc := 9) G dX10_price_9 rfl rfl ?_
    refine am_iconst (pc := 10) G dX10_price_10 (by decide) ?_
    refine am_bipush (pc := 11) G dX10_price_11 (by decide) (by decide) ?_
    refine am_callS (rk := 1) (rmc := rm_X10_in) (st := []) (pc := 13) G [(0, _), (0, _), (0, _)] dX10_price_13 tw_m_RX10_110 tw_s_X10_in tw_z_RX10 tw_c_X10_in hy_X10_in (callrm hr rfl) rfl (RunsM.mono h (fun r3 M4 h => ?_)) Z.rm
    show AW X 16 _ [(0, _)] M4
    refine am_if_ne (pc := 16) G 22 dX10_price_16 (by decide) (fun c => ?_) (fun c => ?_)
    · have h := h.2 c
      refine am_aload_n (i := 0) (t := 17) (pc := 22) G dX10_price_22 rfl rfl rfl ?_
      refine gf_X10_6 (pc := 23) G dX10_price_23 tw_f_RX10_22 ?_
      refine am_iload_n (i := 1) (pc := 26) G dX10_price_26 rfl rfl ?_
      refine am_iald (pc := 27) G 3 dX10_price_27 (by decide) h.1 ?_
      have h := h.2
      have h := h _ rfl
      refine am_istore_n (pc := 28) G dX10_price_28 rfl (nlx hn rfl) rfl ?_
      refine am_aload_n (i := 0) (t := 17) (pc := 29) (ls := [(20, _), (0, _), (0, _), (0, _)]) G dX10_price_29 rfl rfl rfl ?_
      refine gf_X10_6 (pc := 30) G dX10_price_30 tw_f_RX10_22 ?_
      refine am_iload_n (i := 1) (pc := 33) G dX10_price_33 rfl rfl ?_
      refine am_iload_n (i := 2) (pc := 34) G dX10_price_34 rfl rfl ?_
      refine am_iast (pc := 35) G 3 dX10_price_35 (by decide) h.1 ?_
      have h := h.2
      refine am_iload_n (i := 3) (pc := 36) G dX10_price_36 rfl rfl ?_
      exact am_iret (pc := 37) G Z dX10_price_37 h
    · have h := h.1 c
      refine am_bipush (pc := 19) G dX10_price_19 (by decide) (by decide) ?_
      exact am_iret (pc := 21) G Z dX10_price_21 h
-- X10_layOrders TreeHandsModel.layOrders(II)V
def rm_X10_layOrders : Room := { frames := 2, cells := 0, slots := 0, locals := 48 }
theorem hy_X10_layOrders : yX10_layOrders.cls ≠ "java/lang/invoke/MethodHandle" ∧ yX10_layOrders.cls ≠ "java/lang/invoke/VarHandle" ∧ (parseMethodDescriptor yX10_layOrders.desc).map (fun d => d.parameters.length) = some 2 := by decide +kernel
abbrev R_X10_layOrders (V : VV) (x1 x2 : Int) (M : Mem) (Q : Int → Mem → Prop) : Prop := RunsM V yX10_layOrders (.code yX10_layOrders cX10_layOrders 4 (Option.none : Option Jvm.ClassFile.FieldType)) rm_X10_layOrders 4 [(20, 203), (0, x1), (0, x2)] M Q
def wp_X10_layOrders_97_b (V : VV) (x2 x3 : Int) (M : Mem) (Q : Int → Mem → Prop) (B97 : Int → Mem → Prop) : Prop :=
  (M 203 11 ≤ x3 →
    Q 0 M) ∧ (¬ (M 203 11 ≤ x3) →
    R_X10_sizeOf V x2 x3 M (fun r2 M3 =>
    R_X10_depthOf V x2 x3 M3 (fun r4 M5 =>
    ((0 : Int) ≤ x3 ∧ x3 < (16 : Int)) ∧
    ∀ M6 : Mem, M6 = mset M5 211 x3 (w32 (w32 (x3 + r2) - r4)) →
    ((0 : Int) ≤ x3 ∧ x3 < (16 : Int)) ∧
    ((0 : Int) ≤ M6 211 x3 ∧ M6 211 x3 < (17 : Int)) ∧
    ∀ M7 : Mem, M7 = mset M6 217 (M6 211 x3) x3 →
    ((0 : Int) ≤ x3 ∧ x3 < (16 : Int)) ∧
    ((0 : Int) ≤ x3 ∧ x3 < (16 : Int)) ∧
    R_X10_sizeOf V x2 x3 M7 (fun r8 M9 =>
    ((0 : Int) ≤ M7 211 x3 ∧ M7 211 x3 < (17 : Int)) ∧
    B97 (w32 (x3 + 1)) (mset M9 213 (M7 211 x3) (w32 (w32 (M7 211 x3 - r8) + 1)))))))
theorem swp_X10_layOrders_97_b {X : XX} {Q : Int → Mem → Prop} (G : GX X cX10_layOrders "TreeHandsModel") (Z : RX X 4 Q) (hn : nLX X = 4) (hr : roomX X = rm_X10_layOrders) (x2 x3 : Int) (M : Mem) (B97 : Int → Mem → Prop) (k97 : ∀ (z3 : Int) (N : Mem), B97 z3 N → AW X 97 [(20, 203), (99, 0), (0, x2), (0, z3)] [] N) (h : wp_X10_layOrders_97_b (vX X) x2 x3 M Q B97) : AW X 97 [(20, 203), (99, 0), (0, x2), (0, x3)] [] M := by
  unfold wp_X10_layOrders_97_b at h
  refine am_iload_n (i := 3) (pc := 97) G dX10_layOrders_97 rfl rfl ?_
  refine am_aload_n (i := 0) (t := 17) (pc := 98) G dX10_layOrders_98 rfl rfl rfl ?_
  refine gf_X10_11 (pc := 99) G dX10_layOrders_99 tw_f_RX10_160 ?_
  refine am_icmp_ge (pc := 102) G 170 dX10_layOrders_102 (by decide) (fun c => ?_) (fun c => ?_)
  · have h := h.1 c
    exact am_vret (pc := 170) G Z dX10_layOrders_170 h
  · have h := h.2 c
    refine am_aload_n (i := 0) (t := 17) (pc := 105) G dX10_layOrders_105 rfl rfl rfl ?_
    refine gf_X10_13 (pc := 106) G dX10_layOrders_106 tw_f_RX10_31 ?_
    refine am_iload_n (i := 3) (pc := 109) G dX10_layOrders_109 rfl rfl ?_
    refine am_iload_n (i := 3) (pc := 110) G dX10_layOrders_110 rfl rfl ?_
    refine am_aload_n (i := 0) (t := 17) (pc := 111) G dX10_layOrders_111 rfl rfl rfl ?_
    refine am_iload_n (i := 2) (pc := 112) G dX10_layOrders_112 rfl rfl ?_
    refine am_iload_n (i := 3) (pc := 113) G dX10_layOrders_113 rfl rfl ?_
    refine am_callV (rk := 0) (rmc := rm_X10_sizeOf) (st := [(0, _), (0, _), (116, _)]) (pc := 114) G 10 [(0, _), (0, _)] rfl (by decide) rfl dX10_layOrders_114 tw_m_RX10_128 tw_i_X10_sizeOf tw_v_X10_sizeOf tw_z_RX10 tw_c_X10_sizeOf hy_X10_sizeOf (callrm hr rfl) rfl (RunsM.mono h (fun r2 M3 h => ?_)) Z.rm
    show AW X 117 _ [(0, _), (0, _), (0, _), (116, _)] M3
    refine am_iadd (pc := 117) G dX10_layOrders_117 ?_
    refine am_aload_n (i := 0) (t := 17) (pc := 118) G dX10_layOrders_118 rfl rfl rfl ?_
    refine am_iload_n (i := 2) (pc := 119) G dX10_layOrders_119 rfl rfl ?_
    refine am_iload_n (i := 3) (pc := 120) G dX10_layOrders_120 rfl rfl ?_
    refine am_callV (rk := 0) (rmc := rm_X10_depthOf) (st := [(0, _), (0, _), (116, _)]) (pc := 121) G 10 [(0, _), (0, _)] rfl (by decide) rfl dX10_layOrders_121 tw_m_RX10_139 tw_i_X10_depthOf tw_v_X10_depthOf tw_z_RX10 tw_c_X10_depthOf hy_X10_depthOf (callrm hr rfl) rfl (RunsM.mono h (fun r4 M5 h => ?_)) Z.rm
    show AW X 124 _ [(0, _), (0, _), (0, _), (116, _)] M5
    refine am_isub (pc := 124) G dX10_layOrders_124 ?_
    refine am_iast (pc := 125) G 16 dX10_layOrders_125 (by decide) h.1 ?_
    have h := h.2
    refine am_aload_n (i := 0) (t := 17) (pc := 126) G dX10_layOrders_126 rfl rfl rfl ?_
    refine gf_X10_19 (pc := 127) G dX10_layOrders_127 tw_f_RX10_49 ?_
    refine am_aload_n (i := 0) (t := 17) (pc := 130) G dX10_layOrders_130 rfl rfl rfl ?_
    refine gf_X10_13 (pc := 131) G dX10_layOrders_131 tw_f_RX10_31 ?_
    refine am_iload_n (i := 3) (pc := 134) G dX10_layOrders_134 rfl rfl ?_
    have h := h _ rfl
    refine am_iald (pc := 135) G 16 dX10_layOrders_135 (by decide) h.1 ?_
    have h := h.2
    refine am_iload_n (i := 3) (pc := 136) G dX10_layOrders_136 rfl rfl ?_
    refine am_iast (pc := 137) G 17 dX10_layOrders_137 (by decide) h.1 ?_
    have h := h.2
    refine am_aload_n (i := 0) (t := 17) (pc := 138) G dX10_layOrders_138 rfl rfl rfl ?_
    refine gf_X10_15 (pc := 139) G dX10_layOrders_139 tw_f_RX10_37 ?_
    refine am_aload_n (i := 0) (t := 17) (pc := 142) G dX10_layOrders_142 rfl rfl rfl ?_
    refine gf_X10_13 (pc := 143) G dX10_layOrders_143 tw_f_RX10_31 ?_
    refine am_iload_n (i := 3) (pc := 146) G dX10_layOrders_146 rfl rfl ?_
    have h := h _ rfl
    refine am_iald (pc := 147) G 16 dX10_layOrders_147 (by decide) h.1 ?_
    have h := h.2
    refine am_aload_n (i := 0) (t := 17) (pc := 148) G dX10_layOrders_148 rfl rfl rfl ?_
    refine gf_X10_13 (pc := 149) G dX10_layOrders_149 tw_f_RX10_31 ?_
    refine am_iload_n (i := 3) (pc := 152) G dX10_layOrders_152 rfl rfl ?_
    refine am_iald (pc := 153) G 16 dX10_layOrders_153 (by decide) h.1 ?_
    have h := h.2
    refine am_aload_n (i := 0) (t := 17) (pc := 154) G dX10_layOrders_154 rfl rfl rfl ?_
    refine am_iload_n (i := 2) (pc := 155) G dX10_layOrders_155 rfl rfl ?_
    refine am_iload_n (i := 3) (pc := 156) G dX10_layOrders_156 rfl rfl ?_
    refine am_callV (rk := 0) (rmc := rm_X10_sizeOf) (st := [(0, _), (0, _), (117, _)]) (pc := 157) G 10 [(0, _), (0, _)] rfl (by decide) rfl dX10_layOrders_157 tw_m_RX10_128 tw_i_X10_sizeOf tw_v_X10_sizeOf tw_z_RX10 tw_c_X10_sizeOf hy_X10_sizeOf (callrm hr rfl) rfl (RunsM.mono h (fun r8 M9 h => ?_)) Z.rm
    show AW X 160 _ [(0, _), (0, _), (0, _), (117, _)] M9
    refine am_isub (pc := 160) G dX10_layOrders_160 ?_
    refine am_iconst (pc := 161) G dX10_layOrders_161 (by decide) ?_
    refine am_iadd (pc := 162) G dX10_layOrders_162 ?_
    refine am_iast (pc := 163) G 17 dX10_layOrders_163 (by decide) h.1 ?_
    have h := h.2
    refine am_iinc (pc := 164) G dX10_layOrders_164 rfl (nlx hn rfl) rfl ?_
    refine am_goto (pc := 167) (ls := [(20, _), (99, _), (0, _), (0, _)]) G 97 dX10_layOrders_167 (by decide) ?_
    refine am_le (ls' := [(20, _), (99, 0), (0, _), (0, _)]) ⟨Or.inr rfl, ⟨Or.inl rfl, ⟨Or.inr rfl, ⟨Or.inr rfl, trivial⟩⟩⟩⟩ ?_
    exact k97 _ _ h
def wp_X10_layOrders_97 (V : VV) (x2 x3 : Int) (M : Mem) (Q : Int → Mem → Prop) : Prop :=
  ∃ (I : Int → Mem → Prop) (μ : Int → Mem → Nat), I x3 M ∧ ∀ (y3 : Int) (N : Mem), I y3 N → wp_X10_layOrders_97_b V x2 y3 N Q (fun z3 N1 => I z3 N1 ∧ μ z3 N1 < μ y3 N)
theorem swp_X10_layOrders_97 {X : XX} {Q : Int → Mem → Prop} (G : GX X cX10_layOrders "TreeHandsModel") (Z : RX X 4 Q) (hn : nLX X = 4) (hr : roomX X = rm_X10_layOrders) (x2 x3 : Int) (M : Mem) (h : wp_X10_layOrders_97 (vX X) x2 x3 M Q) : AW X 97 [(20, 203), (99, 0), (0, x2), (0, x3)] [] M := by
  unfold wp_X10_layOrders_97 at h
  obtain ⟨I, μ, hI, hs⟩ := h
  have key : ∀ (n : Nat) (y3 : Int) (N : Mem), μ y3 N < n → I y3 N → AW X 97 [(20, 203), (99, 0), (0, x2), (0, y3)] [] N := by
    intro n
    induction n with
    | zero => intro y3 N hlt; exact absurd hlt (Nat.not_lt_zero _)
    | succ n ih =>
      intro y3 N hlt hI
      exact swp_X10_layOrders_97_b G Z hn hr x2 y3 N (fun z3 N1 => I z3 N1 ∧ μ z3 N1 < μ y3 N) (fun z3 N1 hz => ih z3 N1 (by omega) hz.1) (hs y3 N hI)
  exact key _ x3 M (Nat.lt_succ_self _) hI
def wp_X10_layOrders_22_b (V : VV) (x1 x2 x3 : Int) (M : Mem) (Q : Int → Mem → Prop) (B22 : Int → Mem → Prop) : Prop :=
  (M 203 10 ≤ x3 →
    wp_X10_layOrders_97 V x2 0 M Q) ∧ (¬ (M 203 10 ≤ x3) →
    R_X10_sizeOf V x1 x3 M (fun r10 M11 =>
    R_X10_depthOf V x1 x3 M11 (fun r12 M13 =>
    ((0 : Int) ≤ x3 ∧ x3 < (16 : Int)) ∧
    ∀ M14 : Mem, M14 = mset M13 210 x3 (w32 (w32 (x3 + r10) - r12)) →
    ((0 : Int) ≤ x3 ∧ x3 < (16 : Int)) ∧
    ((0 : Int) ≤ M14 210 x3 ∧ M14 210 x3 < (17 : Int)) ∧
    ∀ M15 : Mem, M15 = mset M14 216 (M14 210 x3) x3 →
    ((0 : Int) ≤ x3 ∧ x3 < (16 : Int)) ∧
    ((0 : Int) ≤ x3 ∧ x3 < (16 : Int)) ∧
    R_X10_sizeOf V x1 x3 M15 (fun r16 M17 =>
    ((0 : Int) ≤ M15 210 x3 ∧ M15 210 x3 < (17 : Int)) ∧
    B22 (w32 (x3 + 1)) (mset M17 212 (M15 210 x3) (w32 (w32 (M15 210 x3 - r16) + 1)))))))
theorem swp_X10_layOrders_22_b {X : XX} {Q : Int → Mem → Prop} (G : GX X cX10_layOrders "TreeHandsModel") (Z : RX X 4 Q) (hn : nLX X = 4) (hr : roomX X = rm_X10_layOrders) (x1 x2 x3 : Int) (M : Mem) (B22 : Int → Mem → Prop) (k22 : ∀ (z3 : Int) (N : Mem), B22 z3 N → AW X 22 [(20, 203), (0, x1), (0, x2), (0, z3)] [] N) (h : wp_X10_layOrders_22_b (vX X) x1 x2 x3 M Q B22) : AW X 22 [(20, 203), (0, x1), (0, x2), (0, x3)] [] M := by
  unfold wp_X10_layOrders_22_b at h
  refine am_iload_n (i := 3) (pc := 22) G dX10_layOrders_22 rfl rfl ?_
  refine am_aload_n (i := 0) (t := 17) (pc := 23) G dX10_layOrders_23 rfl rfl rfl ?_
  refine gf_X10_10 (pc := 24) G dX10_layOrders_24 tw_f_RX10_157 ?_
  refine am_icmp_ge (pc := 27) G 95 dX10_layOrders_27 (by decide) (fun c => ?_) (fun c => ?_)
  · have h := h.1 c
    refine am_iconst (pc := 95) G dX10_layOrders_95 (by decide) ?_
    refine am_istore_n (pc := 96) G dX10_layOrders_96 rfl (nlx hn rfl) rfl ?_
    refine am_le (ls' := [(20, _), (99, 0), (0, _), (0, _)]) ⟨Or.inr rfl, ⟨Or.inl rfl, ⟨Or.inr rfl, ⟨Or.inr rfl, trivial⟩⟩⟩⟩ ?_
    exact swp_X10_layOrders_97 G Z hn hr _ _ _ h
  · have h := h.2 c
    refine am_aload_n (i := 0) (t := 17) (pc := 30) G dX10_layOrders_30 rfl rfl rfl ?_
    refine gf_X10_12 (pc := 31) G dX10_layOrders_31 tw_f_RX10_28 ?_
    refine am_iload_n (i := 3) (pc := 34) G dX10_layOrders_34 rfl rfl ?_
    refine am_iload_n (i := 3) (pc := 35) G dX10_layOrders_35 rfl rfl ?_
    refine am_aload_n (i := 0) (t := 17) (pc := 36) G dX10_layOrders_36 rfl rfl rfl ?_
    refine am_iload_n (i := 1) (pc := 37) G dX10_layOrders_37 rfl rfl ?_
    refine am_iload_n (i := 3) (pc := 38) G dX10_layOrders_38 rfl rfl ?_
    refine am_callV (rk := 0) (rmc := rm_X10_sizeOf) (st := [(0, _), (0, _), (116, _)]) (pc := 39) G 10 [(0, _), (0, _)] rfl (by decide) rfl dX10_layOrders_39 tw_m_RX10_128 tw_i_X10_sizeOf tw_v_X10_sizeOf tw_z_RX10 tw_c_X10_sizeOf hy_X10_sizeOf (callrm hr rfl) rfl (RunsM.mono h (fun r10 M11 h => ?_)) Z.rm
    show AW X 42 _ [(0, _), (0, _), (0, _), (116, _)] M11
    refine am_iadd (pc := 42) G dX10_layOrders_42 ?_
    refine am_aload_n (i := 0) (t := 17) (pc := 43) G dX10_layOrders_43 rfl rfl rfl ?_
    refine am_iload_n (i := 1) (pc := 44) G dX10_layOrders_44 rfl rfl ?_
    refine am_iload_n (i := 3) (pc := 45) G dX10_layOrders_45 rfl rfl ?_
    refine am_callV (rk := 0) (rmc := rm_X10_depthOf) (st := [(0, _), (0, _), (116, _)]) (pc := 46) G 10 [(0, _), (0, _)] rfl (by decide) rfl dX10_layOrders_46 tw_m_RX10_139 tw_i_X10_depthOf tw_v_X10_depthOf tw_z_RX10 tw_c_X10_depthOf hy_X10_depthOf (callrm hr rfl) rfl (RunsM.mono h (fun r12 M13 h => ?_)) Z.rm
    show AW X 49 _ [(0, _), (0, _), (0, _), (116, _)] M13
    refine am_isub (pc := 49) G dX10_layOrders_49 ?_
    refine am_iast (pc := 50) G 16 dX10_layOrders_50 (by decide) h.1 ?_
    have h := h.2
    refine am_aload_n (i := 0) (t := 17) (pc := 51) G dX10_layOrders_51 rfl rfl rfl ?_
    refine gf_X10_18 (pc := 52) G dX10_layOrders_52 tw_f_RX10_46 ?_
    refine am_aload_n (i := 0) (t := 17) (pc := 55) G dX10_layOrders_55 rfl rfl rfl ?_
    refine gf_X10_12 (pc := 56) G dX10_layOrders_56 tw_f_RX10_28 ?_
    refine am_iload_n (i := 3) (pc := 59) G dX10_layOrders_59 rfl rfl ?_
    have h := h _ rfl
    refine am_iald (pc := 60) G 16 dX10_layOrders_60 (by decide) h.1 ?_
    have h := h.2
    refine am_iload_n (i := 3) (pc := 61) G dX10_layOrders_61 rfl rfl ?_
    refine am_iast (pc := 62) G 17 dX10_layOrders_62 (by decide) h.1 ?_
    have h := h.2
    refine am_aload_n (i := 0) (t := 17) (pc := 63) G dX10_layOrders_63 rfl rfl rfl ?_
    refine gf_X10_14 (pc := 64) G dX10_layOrders_64 tw_f_RX10_34 ?_
    refine am_aload_n (i := 0) (t := 17) (pc := 67) G dX10_layOrders_67 rfl rfl rfl ?_
    refine gf_X10_12 (pc := 68) G dX10_layOrders_68 tw_f_RX10_28 ?_
    refine am_iload_n (i := 3) (pc := 71) G dX10_layOrders_71 rfl rfl ?_
    have h := h _ rfl
    refine am_iald (pc := 72) G 16 dX10_layOrders_72 (by decide) h.1 ?_
    have h := h.2
    refine am_aload_n (i := 0) (t := 17) (pc := 73) G dX10_layOrders_73 rfl rfl rfl ?_
    refine gf_X10_12 (pc := 74) G dX10_layOrders_74 tw_f_RX10_28 ?_
    refine am_iload_n (i := 3) (pc := 77) G dX10_layOrders_77 rfl rfl ?_
    refine am_iald (pc := 78) G 16 dX10_layOrders_78 (by decide) h.1 ?_
    have h := h.2
    refine am_aload_n (i := 0) (t := 17) (pc := 79) G dX10_layOrders_79 rfl rfl rfl ?_
    refine am_iload_n (i := 1) (pc := 80) G dX10_layOrders_80 rfl rfl ?_
    refine am_iload_n (i := 3) (pc := 81) G dX10_layOrders_81 rfl rfl ?_
    refine am_callV (rk := 0) (rmc := rm_X10_sizeOf) (st := [(0, _), (0, _), (117, _)]) (pc := 82) G 10 [(0, _), (0, _)] rfl (by decide) rfl dX10_layOrders_82 tw_m_RX10_128 tw_i_X10_sizeOf tw_v_X10_sizeOf tw_z_RX10 tw_c_X10_sizeOf hy_X10_sizeOf (callrm hr rfl) rfl (RunsM.mono h (fun r16 M17 h => ?_)) Z.rm
    show AW X 85 _ [(0, _), (0, _), (0, _), (117, _)] M17
    refine am_isub (pc := 85) G dX10_layOrders_85 ?_
    refine am_iconst (pc := 86) G dX10_layOrders_86 (by decide) ?_
    refine am_iadd (pc := 87) G dX10_layOrders_87 ?_
    refine am_iast (pc := 88) G 17 dX10_layOrders_88 (by decide) h.1 ?_
    have h := h.2
    refine am_iinc (pc := 89) G dX10_layOrders_89 rfl (nlx hn rfl) rfl ?_
    refine am_goto (pc := 92) (ls := [(20, _), (0, _), (0, _), (0, _)]) G 22 dX10_layOrders_92 (by decide) ?_
    refine am_le (ls' := [(20, _), (0, _), (0, _), (0, _)]) ⟨Or.inr rfl, ⟨Or.inr rfl, ⟨Or.inr rfl, ⟨Or.inr rfl, trivial⟩⟩⟩⟩ ?_
    exact k22 _ _ h
def wp_X10_layOrders_22 (V : VV) (x1 x2 x3 : Int) (M : Mem) (Q : Int → Mem → Prop) : Prop :=
  ∃ (I : Int → Mem → Prop) (μ : Int → Mem → Nat), I x3 M ∧ ∀ (y3 : Int) (N : Mem), I y3 N → wp_X10_layOrders_22_b V x1 x2 y3 N Q (fun z3 N1 => I z3 N1 ∧ μ z3 N1 < μ y3 N)
theorem swp_X10_layOrders_22 {X : XX} {Q : Int → Mem → Prop} (G : GX X cX10_layOrders "TreeHandsModel") (Z : RX X 4 Q) (hn : nLX X = 4) (hr : roomX X = rm_X10_layOrders) (x1 x2 x3 : Int) (M : Mem) (h : wp_X10_layOrders_22 (vX X) x1 x2 x3 M Q) : AW X 22 [(20, 203), (0, x1), (0, x2), (0, x3)] [] M := by
  unfold wp_X10_layOrders_22 at h
  obtain ⟨I, μ, hI, hs⟩ := h
  have key : ∀ (n : Nat) (y3 : Int) (N : Mem), μ y3 N < n → I y3 N → AW X 22 [(20, 203), (0, x1), (0, x2), (0, y3)] [] N := by
    intro n
    induction n with
    | zero => intro y3 N hlt; exact absurd hlt (Nat.not_lt_zero _)
    | succ n ih =>
      intro y3 N hlt hI
      exact swp_X10_layOrders_22_b G Z hn hr x1 x2 y3 N (fun z3 N1 => I z3 N1 ∧ μ z3 N1 < μ y3 N) (fun z3 N1 hz => ih z3 N1 (by omega) hz.1) (hs y3 N hI)
  exact key _ x3 M (Nat.lt_succ_self _) hI
def wp_X10_layOrders (V : VV) (x1 x2 : Int) (M : Mem) (Q : Int → Mem → Prop) : Prop :=
  ((0 : Int) ≤ x1 ∧ x1 < (21 : Int)) ∧
  ∀ M1 : Mem, M1 = mset M 203 10 (M 204 x1) →
  ((0 : Int) ≤ x2 ∧ x2 < (21 : Int)) ∧
  wp_X10_layOrders_22 V x1 x2 0 (mset M1 203 11 (M1 204 x2)) Q
theorem of_X10_layOrders {V : VV} {x1 x2 : Int} {M : Mem} {Q : Int → Mem → Prop} (h : wp_X10_layOrders V x1 x2 M Q) : R_X10_layOrders V x1 x2 M Q := by
  refine met_in (own := "TreeHandsModel") (by decide +kernel) rfl rfl (Nat.le_of_ble_eq_true rfl) ?_
  intro X G Z hn hr hv
  subst hv
  unfold wp_X10_layOrders at h
  show AW X 0 [(20, 203), (0, x1), (0, x2), (99, 0)] [] M
  refine am_aload_n (i := 0) (t := 17) (pc := 0) G dX10_layOrders_0 rfl rfl rfl ?_
  refine am_aload_n (i := 0) (t := 17) (pc := 1) G dX10_layOrders_1 rfl rfl rfl ?_
  refine gf_X10_0 (pc := 2) G dX10_layOrders_2 tw_f_RX10_7 ?_
  refine am_iload_n (i := 1) (pc := 5) G dX10_layOrders_5 rfl rfl ?_
  refine am_iald (pc := 6) G 21 dX10_layOrders_6 (by decide) h.1 ?_
  have h := h.2
  refine pf_X10_10 (pc := 7) G dX10_layOrders_7 tw_f_RX10_157 ?_
  refine am_aload_n (i := 0) (t := 17) (pc := 10) G dX10_layOrders_10 rfl rfl rfl ?_
  refine am_aload_n (i := 0) (t := 17) (pc := 11) G dX10_layOrders_11 rfl rfl rfl ?_
  refine gf_X10_0 (pc := 12) G dX10_layOrders_12 tw_f_RX10_7 ?_
  refine am_iload_n (i := 2) (pc := 15) G dX10_layOrders_15 rfl rfl ?_
  have h := h _ rfl
  refine am_iald (pc := 16) G 21 dX10_layOrders_16 (by decide) h.1 ?_
  have h := h.2
  refine pf_X10_11 (pc := 17) G dX10_layOrders_17 tw_f_RX10_160 ?_
  refine am_iconst (pc := 20) G dX10_layOrders_20 (by decide) ?_
  refine am_istore_n (pc := 21) G dX10_layOrders_21 rfl (nlx hn rfl) rfl ?_
  refine am_le (ls' := [(20, _), (0, _), (0, _), (0, _)]) ⟨Or.inr rfl, ⟨Or.inr rfl, ⟨Or.inr rfl, ⟨Or.inr rfl, trivial⟩⟩⟩⟩ ?_
  exact swp_X10_layOrders_22 G Z hn hr _ _ _ _ h
