-- X4_kindAt TreeHands$Overlapper.kindAt(III)I
def rm_X4_kindAt : Room := { frames := 5, cells := 0, slots := 0, locals := 121 }
theorem hy_X4_kindAt : yX4_kindAt.cls ≠ "java/lang/invoke/MethodHandle" ∧ yX4_kindAt.cls ≠ "java/lang/invoke/VarHandle" ∧ (parseMethodDescriptor yX4_kindAt.desc).map (fun d => d.parameters.length) = some 3 := by decide +kernel
abbrev R_X4_kindAt (V : VV) (x1 x2 x3 : Int) (M : Mem) (Q : Int → Mem → Prop) : Prop := RunsM V yX4_kindAt (.code yX4_kindAt cX4_kindAt 7 (Option.some Jvm.ClassFile.FieldType.int)) rm_X4_kindAt 0 [(14, 127), (0, x1), (0, x2), (0, x3)] M Q
def wp_X4_kindAt (V : VV) (x1 x2 x3 : Int) (M : Mem) (Q : Int → Mem → Prop) : Prop :=
  R_X4_findPeak V x1 x2 x3 M (fun r1 M2 =>
  (r1 = 1 →
    R_X7_copyAll V 147 140 M2 (fun _ M4 =>
    R_X7_copyAll V 154 140 M4 (fun _ M6 =>
    R_X6_rewrite V x1 147 0 M6 (fun r7 M8 =>
    R_X1_placeOf V x3 M8 (fun r9 M10 =>
    R_X6_rewrite V x2 154 r9 M10 (fun r11 M12 =>
    (16 < r7 →
      Q 3 M12) ∧ (¬ (16 < r7) →
      (r11 ≤ 16 →
        R_X8_run V 147 1 M12 (fun r13 M14 =>
        (r13 = 0 →
          R_X8_run V 154 1 M14 (fun r15 M16 =>
          (r15 = 0 →
            R_X7_isAs V 147 0 154 0 M16 (fun r17 M18 =>
            (r17 = 0 →
              Q 1 M18) ∧ (¬ (r17 = 0) →
              Q 2 M18))) ∧ (¬ (r15 = 0) →
            Q 1 M16))) ∧ (¬ (r13 = 0) →
          Q 1 M14))) ∧ (¬ (r11 ≤ 16) →
        Q 3 M12)))))))) ∧ (¬ (r1 = 1) →
    Q r1 M2))
theorem of_X4_kindAt {V : VV} {x1 x2 x3 : Int} {M : Mem} {Q : Int → Mem → Prop} (h : wp_X4_kindAt V x1 x2 x3 M Q) : R_X4_kindAt V x1 x2 x3 M Q := by
  refine met_in (own := "TreeHands$Overlapper") (by decide +kernel) rfl rfl (Nat.le_of_ble_eq_true rfl) ?_
  intro X G Z hn hr hv
  subst hv
  unfold wp_X4_kindAt at h
  show AW X 0 [(14, 127), (0, x1), (0, x2), (0, x3), (99, 0), (99, 0), (99, 0)] [] M
  refine am_aload_n (i := 0) (t := 11) (pc := 0) G dX4_kindAt_0 rfl rfl rfl ?_
  refine am_iload_n (i := 1) (pc := 1) G dX4_kindAt_1 rfl rfl ?_
  refine am_iload_n (i := 2) (pc := 2) G dX4_kindAt_2 rfl rfl ?_
  refine am_iload_n (i := 3) (pc := 3) G dX4_kindAt_3 rfl rfl ?_
  refine am_callV (rk := 0) (rmc := rm_X4_findPeak) (st := []) (pc := 4) G 4 [(0, _), (0, _), (0, _)] rfl (by decide) rfl dX4_kindAt_4 tw_m_RX4_85 tw_i_X4_findPeak tw_v_X4_findPeak tw_z_RX4 tw_c_X4_findPeak hy_X4_findPeak (callrm hr rfl) rfl (RunsM.mono h (fun r1 M2 h => ?_)) Z.rm
  show AW X 7 _ [(0, _)] M2
  refine am_istore (pc := 7) G dX4_kindAt_7 (nlx hn rfl) rfl ?_
  refine am_iload (pc := 9) (ls := [(14, _), (0, _), (0, _), (0, _), (0, _), (99, _), (99, _)]) G dX4_kindAt_9 rfl ?_
  refine am_iconst (pc := 11) G dX4_kindAt_11 (by decide) ?_
  refine am_icmp_eq (pc := 12) G 18 dX4_kindAt_12 (by decide) (fun c => ?_) (fun c => ?_)
  · have h := h.1 c
    refine am_aload_n (i := 0) (t := 11) (pc := 18) G dX4_kindAt_18 rfl rfl rfl ?_
    refine gf_X4_7 (pc := 19) G dX4_kindAt_19 tw_f_RX4_29 ?_
    refine am_aload_n (i := 0) (t := 11) (pc := 22) G dX4_kindAt_22 rfl rfl rfl ?_
    refine gf_X4_5 (pc := 23) G dX4_kindAt_23 tw_f_RX4_25 ?_
    refine am_callV (rk := 4) (rmc := rm_X7_copyAll) (st := []) (pc := 26) G 7 [(17, _)] rfl (by decide) rfl dX4_kindAt_26 tw_m_RX4_89 tw_i_X7_copyAll tw_v_X7_copyAll tw_z_RX7 tw_c_X7_copyAll hy_X7_copyAll (callrm hr rfl) rfl (RunsM.mono h (fun r3 M4 h => ?_)) Z.rm
    show AW X 29 _ [] M4
    refine am_aload_n (i := 0) (t := 11) (pc := 29) G dX4_kindAt_29 rfl rfl rfl ?_
    refine gf_X4_8 (pc := 30) G dX4_kindAt_30 tw_f_RX4_32 ?_
    refine am_aload_n (i := 0) (t := 11) (pc := 33) G dX4_kindAt_33 rfl rfl rfl ?_
    refine gf_X4_5 (pc := 34) G dX4_kindAt_34 tw_f_RX4_25 ?_
    refine am_callV (rk := 4) (rmc := rm_X7_copyAll) (st := []) (pc := 37) G 7 [(17, _)] rfl (by decide) rfl dX4_kindAt_37 tw_m_RX4_89 tw_i_X7_copyAll tw_v_X7_copyAll tw_z_RX7 tw_c_X7_copyAll hy_X7_copyAll (callrm hr rfl) rfl (RunsM.mono h (fun r5 M6 h => ?_)) Z.rm
    show AW X 40 _ [] M6
    refine am_aload_n (i := 0) (t := 11) (pc := 40) G dX4_kindAt_40 rfl rfl rfl ?_
    refine gf_X4_2 (pc := 41) G dX4_kindAt_41 tw_f_RX4_35 ?_
    refine am_iload_n (i := 1) (pc := 44) G dX4_kindAt_44 rfl rfl ?_
    refine am_aload_n (i := 0) (t := 11) (pc := 45) G dX4_kindAt_45 rfl rfl rfl ?_
    refine gf_X4_7 (pc := 46) G dX4_kindAt_46 tw_f_RX4_29 ?_
    refine am_iconst (pc := 49) G dX4_kindAt_49 (by decide) ?_
    refine am_callV (rk := 0) (rmc := rm_X6_rewrite) (st := []) (pc := 50) G 6 [(0, _), (17, _), (0, _)] rfl (by decide) rfl dX4_kindAt_50 tw_m_RX4_93 tw_i_X6_rewrite tw_v_X6_rewrite tw_z_RX6 tw_c_X6_rewrite hy_X6_rewrite (callrm hr rfl) rfl (RunsM.mono h (fun r7 M8 h => ?_)) Z.rm
    show AW X 53 _ [(0, _)] M8
    refine am_istore (pc := 53) G dX4_kindAt_53 (nlx hn rfl) rfl ?_
    refine am_aload_n (i := 0) (t := 11) (pc := 55) (ls := [(14, _), (0, _), (0, _), (0, _), (0, _), (0, _), (99, _)]) G dX4_kindAt_55 rfl rfl rfl ?_
    refine gf_X4_2 (pc := 56) G dX4_kindAt_56 tw_f_RX4_35 ?_
    refine am_iload_n (i := 2) (pc := 59) G dX4_kindAt_59 rfl rfl ?_
    refine am_aload_n (i := 0) (t := 11) (pc := 60) G dX4_kindAt_60 rfl rfl rfl ?_
    refine gf_X4_8 (pc := 61) G dX4_kindAt_61 tw_f_RX4_32 ?_
    refine am_aload_n (i := 0) (t := 11) (pc := 64) G dX4_kindAt_64 rfl rfl rfl ?_
    refine gf_X4_4 (pc := 65) G dX4_kindAt_65 tw_f_RX4_18 ?_
    refine am_iload_n (i := 3) (pc := 68) G dX4_kindAt_68 rfl rfl ?_
    refine am_callV (rk := 0) (rmc := rm_X1_placeOf) (st := [(17, _), (0, _), (16, _)]) (pc := 69) G 1 [(0, _)] rfl (by decide) rfl dX4_kindAt_69 tw_m_RX4_97 tw_i_X1_placeOf tw_v_X1_placeOf tw_z_RX1 tw_c_X1_placeOf hy_X1_placeOf (callrm hr rfl) rfl (RunsM.mono h (fun r9 M10 h => ?_)) Z.rm
    show AW X 72 _ [(0, _), (17, _), (0, _), (16, _)] M10
    refine am_callV (rk := 0) (rmc := rm_X6_rewrite) (st := []) (pc := 72) G 6 [(0, _), (17, _), (0, _)] rfl (by decide) rfl dX4_kindAt_72 tw_m_RX4_93 tw_i_X6_rewrite tw_v_X6_rewrite tw_z_RX6 tw_c_X6_rewrite hy_X6_rewrite (callrm hr rfl) rfl (RunsM.mono h (fun r11 M12 h => ?_)) Z.rm
    show AW X 75 _ [(0, _)] M12
    refine am_istore (pc := 75) G dX4_kindAt_75 (nlx hn rfl) rfl ?_
    refine am_iload (pc := 77) (ls := [(14, _), (0, _), (0, _), (0, _), (0, _), (0, _), (0, _)]) G dX4_kindAt_77 rfl ?_
    refine am_bipush (pc := 79) G dX4_kindAt_79 (by decide) (by decide) ?_
    refine am_icmp_gt (pc := 81) G 91 dX4_kindAt_81 (by decide) (fun c => ?_) (fun c => ?_)
    · have h := h.1 c
      refine am_iconst (pc := 91) G dX4_kindAt_91 (by decide) ?_
      exact am_iret (pc := 92) G Z dX4_kindAt_92 h
    · have h := h.2 c
      refine am_iload (pc := 84) G dX4_kindAt_84 rfl ?_
      refine am_bipush (pc := 86) G dX4_kindAt_86 (by decide) (by decide) ?_
      refine am_icmp_le (pc := 88) G 93 dX4_kindAt_88 (by decide) (fun c => ?_) (fun c => ?_)
      · have h := h.1 c
        refine am_aload_n (i := 0) (t := 11) (pc := 93) G dX4_kindAt_93 rfl rfl rfl ?_
        refine gf_X4_3 (pc := 94) G dX4_kindAt_94 tw_f_RX4_39 ?_
        refine am_aload_n (i := 0) (t := 11) (pc := 97) G dX4_kindAt_97 rfl rfl rfl ?_
        refine gf_X4_7 (pc := 98) G dX4_kindAt_98 tw_f_RX4_29 ?_
        refine am_iconst (pc := 101) G dX4_kindAt_101 (by decide) ?_
        refine am_callV (rk := 0) (rmc := rm_X8_run) (st := []) (pc := 102) G 8 [(17, _), (0, _)] rfl (by decide) rfl dX4_kindAt_102 tw_m_RX4_101 tw_i_X8_run tw_v_X8_run tw_z_RX8 tw_c_X8_run hy_X8_run (callrm hr rfl) rfl (RunsM.mono h (fun r13 M14 h => ?_)) Z.rm
        show AW X 105 _ [(0, _)] M14
        refine am_if_ne (pc := 105) G 123 dX4_kindAt_105 (by decide) (fun c => ?_) (fun c => ?_)
        · have h := h.2 c
          refine am_iconst (pc := 123) G dX4_kindAt_123 (by decide) ?_
          exact am_iret (pc := 124) G Z dX4_kindAt_124 h
        · have h := h.1 c
          refine am_aload_n (i := 0) (t := 11) (pc := 108) G dX4_kindAt_108 rfl rfl rfl ?_
          refine gf_X4_3 (pc := 109) G dX4_kindAt_109 tw_f_RX4_39 ?_
          refine am_aload_n (i := 0) (t := 11) (pc := 112) G dX4_kindAt_112 rfl rfl rfl ?_
          refine gf_X4_8 (pc := 113) G dX4_kindAt_113 tw_f_RX4_32 ?_
          refine am_iconst (pc := 116) G dX4_kindAt_116 (by decide) ?_
          refine am_callV (rk := 0) (rmc := rm_X8_run) (st := []) (pc := 117) G 8 [(17, _), (0, _)] rfl (by decide) rfl dX4_kindAt_117 tw_m_RX4_101 tw_i_X8_run tw_v_X8_run tw_z_RX8 tw_c_X8_run hy_X8_run (callrm hr rfl) rfl (RunsM.mono h (fun r15 M16 h => ?_)) Z.rm
          show AW X 120 _ [(0, _)] M16
          refine am_if_eq (pc := 120) G 125 dX4_kindAt_120 (by decide) (fun c => ?_) (fun c => ?_)
          · have h := h.1 c
            refine am_aload_n (i := 0) (t := 11) (pc := 125) G dX4_kindAt_125 rfl rfl rfl ?_
            refine gf_X4_7 (pc := 126) G dX4_kindAt_126 tw_f_RX4_29 ?_
            refine am_iconst (pc := 129) G dX4_kindAt_129 (by decide) ?_
            refine am_aload_n (i := 0) (t := 11) (pc := 130) G dX4_kindAt_130 rfl rfl rfl ?_
            refine gf_X4_8 (pc := 131) G dX4_kindAt_131 tw_f_RX4_32 ?_
            refine am_iconst (pc := 134) G dX4_kindAt_134 (by decide) ?_
            refine am_callV (rk := 1) (rmc := rm_X7_isAs) (st := []) (pc := 135) G 7 [(0, _), (17, _), (0, _)] rfl (by decide) rfl dX4_kindAt_135 tw_m_RX4_107 tw_i_X7_isAs tw_v_X7_isAs tw_z_RX7 tw_c_X7_isAs hy_X7_isAs (callrm hr rfl) rfl (RunsM.mono h (fun r17 M18 h => ?_)) Z.rm
            show AW X 138 _ [(0, _)] M18
            refine am_if_eq (pc := 138) G 145 dX4_kindAt_138 (by decide) (fun c => ?_) (fun c => ?_)
            · have h := h.1 c
              refine am_iconst (pc := 145) G dX4_kindAt_145 (by decide) ?_
              exact am_iret (pc := 146) G Z dX4_kindAt_146 h
            · have h := h.2 c
              refine am_iconst (pc := 141) G dX4_kindAt_141 (by decide) ?_
              refine am_goto (pc := 142) G 146 dX4_kindAt_142 (by decide) ?_
              exact am_iret (pc := 146) G Z dX4_kindAt_146 h
          · have h := h.2 c
            refine am_iconst (pc := 123) G dX4_kindAt_123 (by decide) ?_
            exact am_iret (pc := 124) G Z dX4_kindAt_124 h
      · have h := h.2 c
        refine am_iconst (pc := 91) G dX4_kindAt_91 (by decide) ?_
        exact am_iret (pc := 92) G Z dX4_kindAt_92 h
  · have h := h.2 c
    refine am_iload (pc := 15) G dX4_kindAt_15 rfl ?_
    exact am_iret (pc := 17) G Z dX4_kindAt_17 h
-- X4_count TreeHands$Overlapper.count(I)V
def rm_X4_count : Room := { frames := 0, cells := 0, slots := 0, locals := 0 }
theorem hy_X4_count : yX4_count.cls ≠ "java/lang/invoke/MethodHandle" ∧ yX4_count.cls ≠ "java/lang/invoke/VarHandle" ∧ (parseMethodDescriptor yX4_count.desc).map (fun d => d.parameters.length) = some 1 := by decide +kernel
abbrev R_X4_count (V : VV) (x1 : Int) (M : Mem) (Q : Int → Mem → Prop) : Prop := RunsM V yX4_count (.code yX4_count cX4_count 2 (Option.none : Option Jvm.ClassFile.FieldType)) rm_X4_count 4 [(14, 127), (0, x1)] M Q
def wp_X4_count (V : VV) (x1 : Int) (M : Mem) (Q : Int → Mem → Prop) : Prop :=
  (x1 = 0 →
    Q 0 M) ∧ (¬ (x1 = 0) →
    ((0 : Int) ≤ 0 ∧ 0 < (4 : Int)) ∧
    ((0 : Int) ≤ 0 ∧ 0 < (4 : Int)) ∧
    (x1 = 2 →
      ∀ M3 : Mem, M3 = mset M 128 0 (w32 (M 128 0 + 1)) →
      ((0 : Int) ≤ 1 ∧ 1 < (4 : Int)) ∧
      ((0 : Int) ≤ 1 ∧ 1 < (4 : Int)) ∧
      Q 0 (mset M3 128 1 (w32 (M3 128 1 + 1)))) ∧ (¬ (x1 = 2) →
      (x1 = 1 →
        ∀ M2 : Mem, M2 = mset M 128 0 (w32 (M 128 0 + 1)) →
        ((0 : Int) ≤ 2 ∧ 2 < (4 : Int)) ∧
        ((0 : Int) ≤ 2 ∧ 2 < (4 : Int)) ∧
        Q 0 (mset M2 128 2 (w32 (M2 128 2 + 1)))) ∧ (¬ (x1 = 1) →
        ∀ M1 : Mem, M1 = mset M 128 0 (w32 (M 128 0 + 1)) →
        ((0 : Int) ≤ 3 ∧ 3 < (4 : Int)) ∧
        ((0 : Int) ≤ 3 ∧ 3 < (4 : Int)) ∧
        Q 0 (mset M1 128 3 (w32 (M1 128 3 + 1))))))
theorem of_X4_count {V : VV} {x1 : Int} {M : Mem} {Q : Int → Mem → Prop} (h : wp_X4_count V x1 M Q) : R_X4_count V x1 M Q := by
  refine met_in (own := "TreeHands$Overlapper") (by decide +kernel) rfl rfl (Nat.le_of_ble_eq_true rfl) ?_
  intro X G Z hn hr hv
  subst hv
  unfold wp_X4_count at h
  show AW X 0 [(14, 127), (0, x1)] [] M
  refine am_iload_n (i := 1) (pc := 0) G dX4_count_0 rfl rfl ?_
  refine am_if_ne (pc := 1) G 5 dX4_count_1 (by decide) (fun c => ?_) (fun c => ?_)
  · have h := h.2 c
    refine am_aload_n (i := 0) (t := 11) (pc := 5) G dX4_count_5 rfl rfl rfl ?_
    refine gf_X4_1 (pc := 6) G dX4_count_6 tw_f_RX4_9 ?_
    refine am_iconst (pc := 9) G dX4_count_9 (by decide) ?_
    refine am_dup2 (pc := 10) G dX4_count_10 (Nat.ne_of_beq_eq_false rfl) (Nat.ne_of_beq_eq_false rfl) ?_
    refine am_iald (pc := 11) G 4 dX4_count_11 (by decide) h.1 ?_
    have h := h.2
    refine am_iconst (pc := 12) G dX4_count_12 (by decide) ?_
    refine am_iadd (pc := 13) G dX4_count_13 ?_
    refine am_iast (pc := 14) G 4 dX4_count_14 (by decide) h.1 ?_
    have h := h.2
    refine am_aload_n (i := 0) (t := 11) (pc := 15) G dX4_count_15 rfl rfl rfl ?_
    refine gf_X4_1 (pc := 16) G dX4_count_16 tw_f_RX4_9 ?_
    refine am_iload_n (i := 1) (pc := 19) G dX4_count_19 rfl rfl ?_
    refine am_iconst (pc := 20) G dX4_count_20 (by decide) ?_
    refine am_icmp_ne (pc := 21) G 28 dX4_count_21 (by decide) (fun c => ?_) (fun c => ?_)
    · have h := h.2 c
      refine am_iload_n (i := 1) (pc := 28) G dX4_count_28 rfl rfl ?_
      refine am_iconst (pc := 29) G dX4_count_29 (by decide) ?_
      refine am_icmp_ne (pc := 30) G 37 dX4_count_30 (by decide) (fun c => ?_) (fun c => ?_)
      · have h := h.2 c
        refine am_iconst (pc := 37) G dX4_count_37 (by decide) ?_
        refine am_dup2 (pc := 38) G dX4_count_38 (Nat.ne_of_beq_eq_false rfl) (Nat.ne_of_beq_eq_false rfl) ?_
        have h := h _ rfl
        refine am_iald (pc := 39) G 4 dX4_count_39 (by decide) h.1 ?_
        have h := h.2
        refine am_iconst (pc := 40) G dX4_count_40 (by decide) ?_
        refine am_iadd (pc := 41) G dX4_count_41 ?_
        refine am_iast (pc := 42) G 4 dX4_count_42 (by decide) h.1 ?_
        have h := h.2
        exact am_vret (pc := 43) G Z dX4_count_43 h
      · have h := h.1 c
        refine am_iconst (pc := 33) G dX4_count_33 (by decide) ?_
        refine am_goto (pc := 34) G 38 dX4_count_34 (by decide) ?_
        refine am_dup2 (pc := 38) G dX4_count_38 (Nat.ne_of_beq_eq_false rfl) (Nat.ne_of_beq_eq_false rfl) ?_
        have h := h _ rfl
        refine am_iald (pc := 39) G 4 dX4_count_39 (by decide) h.1 ?_
        have h := h.2
        refine am_iconst (pc := 40) G dX4_count_40 (by decide) ?_
        refine am_iadd (pc := 41) G dX4_count_41 ?_
        refine am_iast (pc := 42) G 4 dX4_count_42 (by decide) h.1 ?_
        have h := h.2
        exact am_vret (pc := 43) G Z dX4_count_43 h
    · have h := h.1 c
      refine am_iconst (pc := 24) G dX4_count_24 (by decide) ?_
      refine am_goto (pc := 25) G 38 dX4_count_25 (by decide) ?_
      refine am_dup2 (pc := 38) G dX4_count_38 (Nat.ne_of_beq_eq_false rfl) (Nat.ne_of_beq_eq_false rfl) ?_
      have h := h _ rfl
      refine am_iald (pc := 39) G 4 dX4_count_39 (by decide) h.1 ?_
      have h := h.2
      refine am_iconst (pc := 40) G dX4_count_40 (by decide) ?_
      refine am_iadd (pc := 41) G dX4_count_41 ?_
      refine am_iast (pc := 42) G 4 dX4_count_42 (by decide) h.1 ?_
      have h := h.2
      exact am_vret (pc := 43) G Z dX4_count_43 h
  · have h := h.1 c
    exact am_vret (pc := 4) G Z dX4_count_4 h
-- X4_countAll TreeHands$Overlapper.countAll()V
def rm_X4_countAll : Room := { frames := 6, cells := 0, slots := 0, locals := 147 }
theorem hy_X4_countAll : yX4_countAll.cls ≠ "java/lang/invoke/MethodHandle" ∧ yX4_countAll.cls ≠ "java/lang/invoke/VarHandle" ∧ (parseMethodDescriptor yX4_countAll.desc).map (fun d => d.parameters.length) = some 0 := by decide +kernel
abbrev R_X4_countAll (V : VV) (M : Mem) (Q : Int → Mem → Prop) : Prop := RunsM V yX4_countAll (.code yX4_countAll cX4_countAll 5 (Option.none : Option Jvm.ClassFile.FieldType)) rm_X4_countAll 4 [(14, 127)] M Q
def wp_X4_countAll_115 (V : VV) (x1 x2 x3 x4 s0 : Int) (M : Mem) (Q : Int → Mem → Prop) (B34 : Int → Mem → Prop) (B57 : Int → Mem → Prop) (B80 : Int → Mem → Prop) : Prop :=
  R_X4_count V s0 M (fun _ M6 =>
  B80 (w32 (x4 + 1)) M6)
theorem swp_X4_countAll_115 {X : XX} {Q : Int → Mem → Prop} (G : GX X cX4_countAll "TreeHands$Overlapper") (Z : RX X 4 Q) (hn : nLX X = 5) (hr : roomX X = rm_X4_countAll) (x1 x2 x3 x4 s0 : Int) (M : Mem) (B34 : Int → Mem → Prop) (B57 : Int → Mem → Prop) (B80 : Int → Mem → Prop) (k34 : ∀ (z1 : Int) (N : Mem), B34 z1 N → AW X 34 [(14, 127), (0, z1), (99, 0), (99, 0), (99, 0)] [] N) (k57 : ∀ (z3 : Int) (N : Mem), B57 z3 N → AW X 57 [(14, 127), (0, x1), (17, x2), (0, z3), (99, 0)] [] N) (k80 : ∀ (z4 : Int) (N : Mem), B80 z4 N → AW X 80 [(14, 127), (0, x1), (17, x2), (0, x3), (0, z4)] [] N) (h : wp_X4_countAll_115 (vX X) x1 x2 x3 x4 s0 M Q B34 B57 B80) : AW X 115 [(14, 127), (0, x1), (17, x2), (0, x3), (0, x4)] [(0, s0), (14, 127)] M := by
  unfold wp_X4_countAll_115 at h
  refine am_callV (rk := 4) (rmc := rm_X4_count) (st := []) (pc := 115) G 4 [(0, _)] rfl (by decide) rfl dX4_countAll_115 tw_m_RX4_122 tw_i_X4_count tw_v_X4_count tw_z_RX4 tw_c_X4_count hy_X4_count (callrm hr rfl) rfl (RunsM.mono h (fun r5 M6 h => ?_)) Z.rm
  show AW X 118 _ [] M6
  refine am_iinc (pc := 118) G dX4_countAll_118 rfl (nlx hn rfl) rfl ?_
  refine am_goto (pc := 121) (ls := [(14, _), (0, _), (17, _), (0, _), (0, _)]) G 80 dX4_countAll_121 (by decide) ?_
  refine am_le (ls' := [(14, _), (0, _), (17, _), (0, _), (0, _)]) ⟨Or.inr rfl, ⟨Or.inr rfl, ⟨Or.inr rfl, ⟨Or.inr rfl, ⟨Or.inr rfl, trivial⟩⟩⟩⟩⟩ ?_
  exact k80 _ _ h
def wp_X4_countAll_80_b (V : VV) (x1 x2 x3 x4 : Int) (M : Mem) (Q : Int → Mem → Prop) (B34 : Int → Mem → Prop) (B57 : Int → Mem → Prop) (B80 : Int → Mem → Prop) : Prop :=
  (M x2 0 ≤ x4 →
    B57 (w32 (x3 + 1)) M) ∧ (¬ (M x2 0 ≤ x4) →
    ((0 : Int) ≤ x4 ∧ x4 < (16 : Int)) ∧
    R_X9_isHole V (M (x2 + 1) x4) M (fun r1 M2 =>
    (r1 = 0 →
      R_X4_kindAt V x1 x3 x4 M2 (fun r3 M4 =>
      wp_X4_countAll_115 V x1 x2 x3 x4 r3 M4 Q B34 B57 B80)) ∧ (¬ (r1 = 0) →
      wp_X4_countAll_115 V x1 x2 x3 x4 0 M2 Q B34 B57 B80)))
theorem swp_X4_countAll_80_b {X : XX} {Q : Int → Mem → Prop} (G : GX X cX4_countAll "TreeHands$Overlapper") (Z : RX X 4 Q) (hn : nLX X = 5) (hr : roomX X = rm_X4_countAll) (x1 x2 x3 x4 : Int) (M : Mem) (B34 : Int → Mem → Prop) (B57 : Int → Mem → Prop) (k34 : ∀ (z1 : Int) (N : Mem), B34 z1 N → AW X 34 [(14, 127), (0, z1), (99, 0), (99, 0), (99, 0)] [] N) (k57 : ∀ (z3 : Int) (N : Mem), B57 z3 N → AW X 57 [(14, 127), (0, x1), (17, x2), (0, z3), (99, 0)] [] N) (B80 : Int → Mem → Prop) (k80 : ∀ (z4 : Int) (N : Mem), B80 z4 N → AW X 80 [(14, 127), (0, x1), (17, x2), (0, x3), (0, z4)] [] N) (h : wp_X4_countAll_80_b (vX X) x1 x2 x3 x4 M Q B34 B57 B80) : AW X 80 [(14, 127), (0, x1), (17, x2), (0, x3), (0, x4)] [] M := by
  unfold wp_X4_countAll_80_b at h
  refine am_iload (pc := 80) G dX4_countAll_80 rfl ?_
  refine am_aload_n (i := 2) (t := 14) (pc := 82) G dX4_countAll_82 rfl rfl rfl ?_
  refine gf_X7_0 (pc := 83) G dX4_countAll_83 tw_f_RX4_69 ?_
  refine am_icmp_ge (pc := 86) G 124 dX4_countAll_86 (by decide) (fun c => ?_) (fun c => ?_)
  · have h := h.1 c
    refine am_iinc (pc := 124) G dX4_countAll_124 rfl (nlx hn rfl) rfl ?_
    refine am_goto (pc := 127) (ls := [(14, _), (0, _), (17, _), (0, _), (0, _)]) G 57 dX4_countAll_127 (by decide) ?_
    refine am_le (ls' := [(14, _), (0, _), (17, _), (0, _), (99, 0)]) ⟨Or.inr rfl, ⟨Or.inr rfl, ⟨Or.inr rfl, ⟨Or.inr rfl, ⟨Or.inl rfl, trivial⟩⟩⟩⟩⟩ ?_
    exact k57 _ _ h
  · have h := h.2 c
    refine am_aload_n (i := 0) (t := 11) (pc := 89) G dX4_countAll_89 rfl rfl rfl ?_
    refine am_aload_n (i := 2) (t := 14) (pc := 90) G dX4_countAll_90 rfl rfl rfl ?_
    refine gf_X7_1 (pc := 91) G dX4_countAll_91 tw_f_RX4_72 ?_
    refine am_iload (pc := 94) G dX4_countAll_94 rfl ?_
    refine am_iald (pc := 96) G 16 dX4_countAll_96 (by decide) h.1 ?_
    have h := h.2
    refine am_callSN (rk := 1) (rmc := rm_X9_isHole) (st := [(14, _)]) (pc := 97) G [(0, _)] dX4_countAll_97 tw_n_RX4_116 tw_s_X9_isHole tw_z_RX9 tw_c_X9_isHole hy_X9_isHole (callrm hr rfl) rfl (RunsM.mono h (fun r1 M2 h => ?_)) Z.rm
    show AW X 100 _ [(0, _), (14, _)] M2
    refine am_if_eq (pc := 100) G 107 dX4_countAll_100 (by decide) (fun c => ?_) (fun c => ?_)
    · have h := h.1 c
      refine am_aload_n (i := 0) (t := 11) (pc := 107) G dX4_countAll_107 rfl rfl rfl ?_
      refine am_iload_n (i := 1) (pc := 108) G dX4_countAll_108 rfl rfl ?_
      refine am_iload_n (i := 3) (pc := 109) G dX4_countAll_109 rfl rfl ?_
      refine am_iload (pc := 110) G dX4_countAll_110 rfl ?_
      refine am_callV (rk := 0) (rmc := rm_X4_kindAt) (st := [(14, _)]) (pc := 112) G 4 [(0, _), (0, _), (0, _)] rfl (by decide) rfl dX4_countAll_112 tw_m_RX4_119 tw_i_X4_kindAt tw_v_X4_kindAt tw_z_RX4 tw_c_X4_kindAt hy_X4_kindAt (callrm hr rfl) rfl (RunsM.mono h (fun r3 M4 h => ?_)) Z.rm
      show AW X 115 _ [(0, _), (14, _)] M4
      refine am_le (ls' := [(14, _), (0, _), (17, _), (0, _), (0, _)]) ⟨Or.inr rfl, ⟨Or.inr rfl, ⟨Or.inr rfl, ⟨Or.inr rfl, ⟨Or.inr rfl, trivial⟩⟩⟩⟩⟩ ?_
      exact swp_X4_countAll_115 G Z hn hr _ _ _ _ _ _ B34 B57 B80 k34 k57 k80 h
    · have h := h.2 c
      refine am_iconst (pc := 103) G dX4_countAll_103 (by decide) ?_
      refine am_goto (pc := 104) G 115 dX4_countAll_104 (by decide) ?_
      refine am_le (ls' := [(14, _), (0, _), (17, _), (0, _), (0, _)]) ⟨Or.inr rfl, ⟨Or.inr rfl, ⟨Or.inr rfl, ⟨Or.inr rfl, ⟨Or.inr rfl, trivial⟩⟩⟩⟩⟩ ?_
      exact swp_X4_countAll_115 G Z hn hr _ _ _ _ _ _ B34 B57 B80 k34 k57 k80 h
def wp_X4_countAll_80 (V : VV) (x1 x2 x3 x4 : Int) (M : Mem) (Q : Int → Mem → Prop) (B34 : Int → Mem → Prop) (B57 : Int → Mem → Prop) : Prop :=
  ∃ (I : Int → Mem → Prop) (μ : Int → Mem → Nat), I x4 M ∧ ∀ (y4 : Int) (N : Mem), I y4 N → wp_X4_countAll_80_b V x1 x2 x3 y4 N Q B34 B57 (fun z4 N1 => I z4 N1 ∧ μ z4 N1 < μ y4 N)
theorem swp_X4_countAll_80 {X : XX} {Q : Int → Mem → Prop} (G : GX X cX4_countAll "TreeHands$Overlapper") (Z : RX X 4 Q) (hn : nLX X = 5) (hr : roomX X = rm_X4_countAll) (x1 x2 x3 x4 : Int) (M : Mem) (B34 : Int → Mem → Prop) (B57 : Int → Mem → Prop) (k34 : ∀ (z1 : Int) (N : Mem), B34 z1 N → AW X 34 [(14, 127), (0, z1), (99, 0), (99, 0), (99, 0)] [] N) (k57 : ∀ (z3 : Int) (N : Mem), B57 z3 N → AW X 57 [(14, 127), (0, x1), (17, x2), (0, z3), (99, 0)] [] N) (h : wp_X4_countAll_80 (vX X) x1 x2 x3 x4 M Q B34 B57) : AW X 80 [(14, 127), (0, x1), (17, x2), (0, x3), (0, x4)] [] M := by
  unfold wp_X4_countAll_80 at h
  obtain ⟨I, μ, hI, hs⟩ := h
  have key : ∀ (n : Nat) (y4 : Int) (N : Mem), μ y4 N < n → I y4 N → AW X 80 [(14, 127), (0, x1), (17, x2), (0, x3), (0, y4)] [] N := by
    intro n
    induction n with
    | zero => intro y4 N hlt; exact absurd hlt (Nat.not_lt_zero _)
    | succ n ih =>
      intro y4 N hlt hI
      exact swp_X4_countAll_80_b G Z hn hr x1 x2 x3 y4 N B34 B57 k34 k57 (fun z4 N1 => I z4 N1 ∧ μ z4 N1 < μ y4 N) (fun z4 N1 hz => ih z4 N1 (by omega) hz.1) (hs y4 N hI)
  exact key _ x4 M (Nat.lt_succ_self _) hI
def wp_X4_countAll_78 (V : VV) (x1 x2 x3 s0 : Int) (M : Mem) (Q : Int → Mem → Prop) (B34 : Int → Mem → Prop) (B57 : Int → Mem → Prop) : Prop :=
  wp_X4_countAll_80 V x1 x2 x3 s0 M Q B34 B57
theorem swp_X4_countAll_78 {X : XX} {Q : Int → Mem → Prop} (G : GX X cX4_countAll "TreeHands$Overlapper") (Z : RX X 4 Q) (hn : nLX X = 5) (hr : roomX X = rm_X4_countAll) (x1 x2 x3 s0 : Int) (M : Mem) (B34 : Int → Mem → Prop) (B57 : Int → Mem → Prop) (k34 : ∀ (z1 : Int) (N : Mem), B34 z1 N → AW X 34 [(14, 127), (0, z1), (99, 0), (99, 0), (99, 0)] [] N) (k57 : ∀ (z3 : Int) (N : Mem), B57 z3 N → AW X 57 [(14, 127), (0, x1), (17, x2), (0, z3), (99, 0)] [] N) (h : wp_X4_countAll_78 (vX X) x1 x2 x3 s0 M Q B34 B57) : AW X 78 [(14, 127), (0, x1), (17, x2), (0, x3), (99, 0)] [(0, s0)] M := by
  unfold wp_X4_countAll_78 at h
  refine am_istore (pc := 78) G dX4_countAll_78 (nlx hn rfl) rfl ?_
  refine am_le (ls' := [(14, _), (0, _), (17, _), (0, _), (0, _)]) ⟨Or.inr rfl, ⟨Or.inr rfl, ⟨Or.inr rfl, ⟨Or.inr rfl, ⟨Or.inr rfl, trivial⟩⟩⟩⟩⟩ ?_
  exact swp_X4_countAll_80 G Z hn hr _ _ _ _ _ B34 B57 k34 k57 h
def wp_X4_countAll_57_b (V : VV) (x1 x2 x3 : Int) (M : Mem) (Q : Int → Mem → Prop) (B34 : Int → Mem → Prop) (B57 : Int → Mem → Prop) : Prop :=
  (M 28 0 ≤ x3 →
    B34 (w32 (x1 + 1)) M) ∧ (¬ (M 28 0 ≤ x3) →
    (x1 = x3 →
      wp_X4_countAll_78 V x1 x2 x3 1 M Q B34 B57) ∧ (¬ (x1 = x3) →
      wp_X4_countAll_78 V x1 x2 x3 0 M Q B34 B57))
theorem swp_X4_countAll_57_b {X : XX} {Q : Int → Mem → Prop} (G : GX X cX4_countAll "TreeHands$Overlapper") (Z : RX X 4 Q) (hn : nLX X = 5) (hr : roomX X = rm_X4_countAll) (x1 x2 x3 : Int) (M : Mem) (B34 : Int → Mem → Prop) (k34 : ∀ (z1 : Int) (N : Mem), B34 z1 N → AW X 34 [(14, 127), (0, z1), (99, 0), (99, 0), (99, 0)] [] N) (B57 : Int → Mem → Prop) (k57 : ∀ (z3 : Int) (N : Mem), B57 z3 N → AW X 57 [(14, 127), (0, x1), (17, x2), (0, z3), (99, 0)] [] N) (h : wp_X4_countAll_57_b (vX X) x1 x2 x3 M Q B34 B57) : AW X 57 [(14, 127), (0, x1), (17, x2), (0, x3), (99, 0)] [] M := by
  unfold wp_X4_countAll_57_b at h
  refine am_iload_n (i := 3) (pc := 57) G dX4_countAll_57 rfl rfl ?_
  refine am_aload_n (i := 0) (t := 11) (pc := 58) G dX4_countAll_58 rfl rfl rfl ?_
  refine gf_X4_2 (pc := 59) G dX4_countAll_59 tw_f_RX4_35 ?_
  refine gf_X6_0 (pc := 62) G dX4_countAll_62 tw_f_RX4_115 ?_
  refine am_icmp_ge (pc := 65) G 130 dX4_countAll_65 (by decide) (fun c => ?_) (fun c => ?_)
  · have h := h.1 c
    refine am_iinc (pc := 130) G dX4_countAll_130 rfl (nlx hn rfl) rfl ?_
    refine am_goto (pc := 133) (ls := [(14, _), (0, _), (17, _), (0, _), (99, _)]) G 34 dX4_countAll_133 (by decide) ?_
    refine am_le (ls' := [(14, _), (0, _), (99, 0), (99, 0), (99, 0)]) ⟨Or.inr rfl, ⟨Or.inr rfl, ⟨Or.inl rfl, ⟨Or.inl rfl, ⟨Or.inl rfl, trivial⟩⟩⟩⟩⟩ ?_
    exact k34 _ _ h
  · have h := h.2 c
    refine am_iload_n (i := 1) (pc := 68) G dX4_countAll_68 rfl rfl ?_
    refine am_iload_n (i := 3) (pc := 69) G dX4_countAll_69 rfl rfl ?_
    refine am_icmp_ne (pc := 70) G 77 dX4_countAll_70 (by decide) (fun c => ?_) (fun c => ?_)
    · have h := h.2 c
      refine am_iconst (pc := 77) G dX4_countAll_77 (by decide) ?_
      refine am_le (ls' := [(14, _), (0, _), (17, _), (0, _), (99, 0)]) ⟨Or.inr rfl, ⟨Or.inr rfl, ⟨Or.inr rfl, ⟨Or.inr rfl, ⟨Or.inl rfl, trivial⟩⟩⟩⟩⟩ ?_
      exact swp_X4_countAll_78 G Z hn hr _ _ _ _ _ B34 B57 k34 k57 h
    · have h := h.1 c
      refine am_iconst (pc := 73) G dX4_countAll_73 (by decide) ?_
      refine am_goto (pc := 74) G 78 dX4_countAll_74 (by decide) ?_
      refine am_le (ls' := [(14, _), (0, _), (17, _), (0, _), (99, 0)]) ⟨Or.inr rfl, ⟨Or.inr rfl, ⟨Or.inr rfl, ⟨Or.inr rfl, ⟨Or.inl rfl, trivial⟩⟩⟩⟩⟩ ?_
      exact swp_X4_countAll_78 G Z hn hr _ _ _ _ _ B34 B57 k34 k57 h
def wp_X4_countAll_57 (V : VV) (x1 x2 x3 : Int) (M : Mem) (Q : Int → Mem → Prop) (B34 : Int → Mem → Prop) : Prop :=
  ∃ (I : Int → Mem → Prop) (μ : Int → Mem → Nat), I x3 M ∧ ∀ (y3 : Int) (N : Mem), I y3 N → wp_X4_countAll_57_b V x1 x2 y3 N Q B34 (fun z3 N1 => I z3 N1 ∧ μ z3 N1 < μ y3 N)
theorem swp_X4_countAll_57 {X : XX} {Q : Int → Mem → Prop} (G : GX X cX4_countAll "TreeHands$Overlapper") (Z : RX X 4 Q) (hn : nLX X = 5) (hr : roomX X = rm_X4_countAll) (x1 x2 x3 : Int) (M : Mem) (B34 : Int → Mem → Prop) (k34 : ∀ (z1 : Int) (N : Mem), B34 z1 N → AW X 34 [(14, 127), (0, z1), (99, 0), (99, 0), (99, 0)] [] N) (h : wp_X4_countAll_57 (vX X) x1 x2 x3 M Q B34) : AW X 57 [(14, 127), (0, x1), (17, x2), (0, x3), (99, 0)] [] M := by
  unfold wp_X4_countAll_57 at h
  obtain ⟨I, μ, hI, hs⟩ := h
  have key : ∀ (n : Nat) (y3 : Int) (N : Mem), μ y3 N < n → I y3 N → AW X 57 [(14, 127), (0, x1), (17, x2), (0, y3), (99, 0)] [] N := by
    intro n
    induction n with
    | zero => intro y3 N hlt; exact absurd hlt (Nat.not_lt_zero _)
    | succ n ih =>
      intro y3 N hlt hI
      exact swp_X4_countAll_57_b G Z hn hr x1 x2 y3 N B34 k34 (fun z3 N1 => I z3 N1 ∧ μ z3 N1 < μ y3 N) (fun z3 N1 hz => ih z3 N1 (by omega) hz.1) (hs y3 N hI)
  exact key _ x3 M (Nat.lt_succ_self _) hI
def wp_X4_countAll_34_b (V : VV) (x1 : Int) (M : Mem) (Q : Int → Mem → Prop) (B34 : Int → Mem → Prop) : Prop :=
  (M 28 0 ≤ x1 →
    Q 0 (mset M 127 0 1)) ∧ (¬ (M 28 0 ≤ x1) →
    ((0 : Int) ≤ x1 ∧ x1 < (6 : Int)) ∧
    wp_X4_countAll_57 V x1 (39 + 14 * x1) 0 M Q B34)
theorem swp_X4_countAll_34_b {X : XX} {Q : Int → Mem → Prop} (G : GX X cX4_countAll "TreeHands$Overlapper") (Z : RX X 4 Q) (hn : nLX X = 5) (hr : roomX X = rm_X4_countAll) (x1 : Int) (M : Mem) (B34 : Int → Mem → Prop) (k34 : ∀ (z1 : Int) (N : Mem), B34 z1 N → AW X 34 [(14, 127), (0, z1), (99, 0), (99, 0), (99, 0)] [] N) (h : wp_X4_countAll_34_b (vX X) x1 M Q B34) : AW X 34 [(14, 127), (0, x1), (99, 0), (99, 0), (99, 0)] [] M := by
  unfold wp_X4_countAll_34_b at h
  refine am_iload_n (i := 1) (pc := 34) G dX4_countAll_34 rfl rfl ?_
  refine am_aload_n (i := 0) (t := 11) (pc := 35) G dX4_countAll_35 rfl rfl rfl ?_
  refine gf_X4_2 (pc := 36) G dX4_countAll_36 tw_f_RX4_35 ?_
  refine gf_X6_0 (pc := 39) G dX4_countAll_39 tw_f_RX4_115 ?_
  refine am_icmp_ge (pc := 42) G 136 dX4_countAll_42 (by decide) (fun c => ?_) (fun c => ?_)
  · have h := h.1 c
    refine am_aload_n (i := 0) (t := 11) (pc := 136) G dX4_countAll_136 rfl rfl rfl ?_
    refine am_iconst (pc := 137) G dX4_countAll_137 (by decide) ?_
    refine pf_X4_0 (pc := 138) G dX4_countAll_138 tw_f_RX4_111 rfl rfl ?_
    exact am_vret (pc := 141) G Z dX4_countAll_141 h
  · have h := h.2 c
    refine am_aload_n (i := 0) (t := 11) (pc := 45) G dX4_countAll_45 rfl rfl rfl ?_
    refine gf_X4_2 (pc := 46) G dX4_countAll_46 tw_f_RX4_35 ?_
    refine gf_X6_1 (pc := 49) G dX4_countAll_49 tw_f_RX4_49 ?_
    refine am_iload_n (i := 1) (pc := 52) G dX4_countAll_52 rfl rfl ?_
    refine am_aald (pc := 53) G 20002 dX4_countAll_53 (by decide) h.1 ?_
    have h := h.2
    refine am_astore_n (t := 14) (pc := 54) G dX4_countAll_54 rfl (nlx hn rfl) rfl ?_
    refine am_iconst (pc := 55) (ls := [(14, _), (0, _), (17, _), (99, _), (99, _)]) G dX4_countAll_55 (by decide) ?_
    refine am_istore_n (pc := 56) G dX4_countAll_56 rfl (nlx hn rfl) rfl ?_
    refine am_le (ls' := [(14, _), (0, _), (17, _), (0, _), (99, 0)]) ⟨Or.inr rfl, ⟨Or.inr rfl, ⟨Or.inr rfl, ⟨Or.inr rfl, ⟨Or.inl rfl, trivial⟩⟩⟩⟩⟩ ?_
    exact swp_X4_countAll_57 G Z hn hr _ _ _ _ B34 k34 h
def wp_X4_countAll_34 (V : VV) (x1 : Int) (M : Mem) (Q : Int → Mem → Prop) : Prop :=
  ∃ (I : Int → Mem → Prop) (μ : Int → Mem → Nat), I x1 M ∧ ∀ (y1 : Int) (N : Mem), I y1 N → wp_X4_countAll_34_b V y1 N Q (fun z1 N1 => I z1 N1 ∧ μ z1 N1 < μ y1 N)
theorem swp_X4_countAll_34 {X : XX} {Q : Int → Mem → Prop} (G : GX X cX4_countAll "TreeHands$Overlapper") (Z : RX X 4 Q) (hn : nLX X = 5) (hr : roomX X = rm_X4_countAll) (x1 : Int) (M : Mem) (h : wp_X4_countAll_34 (vX X) x1 M Q) : AW X 34 [(14, 127), (0, x1), (99, 0), (99, 0), (99, 0)] [] M := by
  unfold wp_X4_countAll_34 at h
  obtain ⟨I, μ, hI, hs⟩ := h
  have key : ∀ (n : Nat) (y1 : Int) (N : Mem), μ y1 N < n → I y1 N → AW X 34 [(14, 127), (0, y1), (99, 0), (99, 0), (99, 0)] [] N := by
    intro n
    induction n with
    | zero => intro y1 N hlt; exact absurd hlt (Nat.not_lt_zero _)
    | succ n ih =>
      intro y1 N hlt hI
      exact swp_X4_countAll_34_b G Z hn hr y1 N (fun z1 N1 => I z1 N1 ∧ μ z1 N1 < μ y1 N) (fun z1 N1 hz => ih z1 N1 (by omega) hz.1) (hs y1 N hI)
  exact key _ x1 M (Nat.lt_succ_self _) hI
def wp_X4_countAll_10_b (V : VV) (x1 : Int) (M : Mem) (Q : Int → Mem → Prop) (B10 : Int → Mem → Prop) : Prop :=
  (4 ≤ x1 →
    wp_X4_countAll_34 V 0 M Q) ∧ (¬ (4 ≤ x1) →
    ((0 : Int) ≤ x1 ∧ x1 < (4 : Int)) ∧
    B10 (w32 (x1 + 1)) (mset M 128 x1 0))
theorem swp_X4_countAll_10_b {X : XX} {Q : Int → Mem → Prop} (G : GX X cX4_countAll "TreeHands$Overlapper") (Z : RX X 4 Q) (hn : nLX X = 5) (hr : roomX X = rm_X4_countAll) (x1 : Int) (M : Mem) (B10 : Int → Mem → Prop) (k10 : ∀ (z1 : Int) (N : Mem), B10 z1 N → AW X 10 [(14, 127), (0, z1), (99, 0), (99, 0), (99, 0)] [] N) (h : wp_X4_countAll_10_b (vX X) x1 M Q B10) : AW X 10 [(14, 127), (0, x1), (99, 0), (99, 0), (99, 0)] [] M := by
  unfold wp_X4_countAll_10_b at h
  refine am_iload_n (i := 1) (pc := 10) G dX4_countAll_10 rfl rfl ?_
  refine am_aload_n (i := 0) (t := 11) (pc := 11) G dX4_countAll_11 rfl rfl rfl ?_
  refine gf_X4_1 (pc := 12) G dX4_countAll_12 tw_f_RX4_9 ?_
  refine am_alen (pc := 15) G 4 dX4_countAll_15 (by decide) ?_
  refine am_icmp_ge (pc := 16) G 32 dX4_countAll_16 (by decide) (fun c => ?_) (fun c => ?_)
  · have h := h.1 c
    refine am_iconst (pc := 32) G dX4_countAll_32 (by decide) ?_
    refine am_istore_n (pc := 33) G dX4_countAll_33 rfl (nlx hn rfl) rfl ?_
    refine am_le (ls' := [(14, _), (0, _), (99, 0), (99, 0), (99, 0)]) ⟨Or.inr rfl, ⟨Or.inr rfl, ⟨Or.inl rfl, ⟨Or.inl rfl, ⟨Or.inl rfl, trivial⟩⟩⟩⟩⟩ ?_
    exact swp_X4_countAll_34 G Z hn hr _ _ h
  · have h := h.2 c
    refine am_aload_n (i := 0) (t := 11) (pc := 19) G dX4_countAll_19 rfl rfl rfl ?_
    refine gf_X4_1 (pc := 20) G dX4_countAll_20 tw_f_RX4_9 ?_
    refine am_iload_n (i := 1) (pc := 23) G dX4_countAll_23 rfl rfl ?_
    refine am_iconst (pc := 24) G dX4_countAll_24 (by decide) ?_
    refine am_iast (pc := 25) G 4 dX4_countAll_25 (by decide) h.1 ?_
    have h := h.2
    refine am_iinc (pc := 26) G dX4_countAll_26 rfl (nlx hn rfl) rfl ?_
    refine am_goto (pc := 29) (ls := [(14, _), (0, _), (99, _), (99, _), (99, _)]) G 10 dX4_countAll_29 (by decide) ?_
    refine am_le (ls' := [(14, _), (0, _), (99, 0), (99, 0), (99, 0)]) ⟨Or.inr rfl, ⟨Or.inr rfl, ⟨Or.inl rfl, ⟨Or.inl rfl, ⟨Or.inl rfl, trivial⟩⟩⟩⟩⟩ ?_
    exact k10 _ _ h
def wp_X4_countAll_10 (V : VV) (x1 : Int) (M : Mem) (Q : Int → Mem → Prop) : Prop :=
  ∃ (I : Int → Mem → Prop) (μ : Int → Mem → Nat), I x1 M ∧ ∀ (y1 : Int) (N : Mem), I y1 N → wp_X4_countAll_10_b V y1 N Q (fun z1 N1 => I z1 N1 ∧ μ z1 N1 < μ y1 N)
theorem swp_X4_countAll_10 {X : XX} {Q : Int → Mem → Prop} (G : GX X cX4_countAll "TreeHands$Overlapper") (Z : RX X 4 Q) (hn : nLX X = 5) (hr : roomX X = rm_X4_countAll) (x1 : Int) (M : Mem) (h : wp_X4_countAll_10 (vX X) x1 M Q) : AW X 10 [(14, 127), (0, x1), (99, 0), (99, 0), (99, 0)] [] M := by
  unfold wp_X4_countAll_10 at h
  obtain ⟨I, μ, hI, hs⟩ := h
  have key : ∀ (n : Nat) (y1 : Int) (N : Mem), μ y1 N < n → I y1 N → AW X 10 [(14, 127), (0, y1), (99, 0), (99, 0), (99, 0)] [] N := by
    intro n
    induction n with
    | zero => intro y1 N hlt; exact absurd hlt (Nat.not_lt_zero _)
    | succ n ih =>
      intro y1 N hlt hI
      exact swp_X4_countAll_10_b G Z hn hr y1 N (fun z1 N1 => I z1 N1 ∧ μ z1 N1 < μ y1 N) (fun z1 N1 hz => ih z1 N1 (by omega) hz.1) (hs y1 N hI)
  exact key _ x1 M (Nat.lt_succ_self _) hI
def wp_X4_countAll (V : VV) (M : Mem) (Q : Int → Mem → Prop) : Prop :=
  (M 127 0 = 0 →
    wp_X4_countAll_10 V 0 M Q) ∧ (¬ (M 127 0 = 0) →
    Q 0 M)
theorem of_X4_countAll {V : VV} {M : Mem} {Q : Int → Mem → Prop} (h : wp_X4_countAll V M Q) : R_X4_countAll V M Q := by
  refine met_in (own := "TreeHands$Overlapper") (by decide +kernel) rfl rfl (Nat.le_of_ble_eq_true rfl) ?_
  intro X G Z hn hr hv
  subst hv
  unfold wp_X4_countAll at h
  show AW X 0 [(14, 127), (99, 0), (99, 0), (99, 0), (99, 0)] [] M
  refine am_aload_n (i := 0) (t := 11) (pc := 0) G dX4_countAll_0 rfl rfl rfl ?_
  refine gf_X4_0 (pc := 1) G dX4_countAll_1 tw_f_RX4_111 ?_
  refine am_if_eq (pc := 4) G 8 dX4_countAll_4 (by decide) (fun c => ?_) (fun c => ?_)
  · have h := h.1 c
    refine am_iconst (pc := 8) G dX4_countAll_8 (by decide) ?_
    refine am_istore_n (pc := 9) G dX4_countAll_9 rfl (nlx hn rfl) rfl ?_
    refine am_le (ls' := [(14, _), (0, _), (99, 0), (99, 0), (99, 0)]) ⟨Or.inr rfl, ⟨Or.inr rfl, ⟨Or.inl rfl, ⟨Or.inl rfl, ⟨Or.inl rfl, trivial⟩⟩⟩⟩⟩ ?_
    exact swp_X4_countAll_10 G Z hn hr _ _ h
  · have h := h.2 c
    exact am_vret (pc := 7) G Z dX4_countAll_7 h
-- X5_append TreeHands$Pad.append(I)Z
def rm_X5_append : Room := { frames := 0, cells := 0, slots := 0, locals := 0 }
theorem hy_X5_append : yX5_append.cls ≠ "java/lang/invoke/MethodHandle" ∧ yX5_append.cls ≠ "java/lang/invoke/VarHandle" ∧ (parseMethodDescriptor yX5_append.desc).map (fun d => d.parameters.length) = some 1 := by decide +kernel
abbrev R_X5_append (V : VV) (x1 : Int) (M : Mem) (Q : Int → Mem → Prop) : Prop := RunsM V yX5_append (.code yX5_append cX5_append 2 (Option.some Jvm.ClassFile.FieldType.boolean)) rm_X5_append 1 [(15, 1), (0, x1)] M Q
def wp_X5_append (V : VV) (x1 : Int) (M : Mem) (Q : Int → Mem → Prop) : Prop :=
  (M 1 0 < 60 →
    ((0 : Int) ≤ M 1 0 ∧ M 1 0 < (60 : Int)) ∧
    ∀ M1 : Mem, M1 = mset M 2 (M 1 0) x1 →
    Q 1 (mset M1 1 0 (w32 (M1 1 0 + 1)))) ∧ (¬ (M 1 0 < 60) →
    Q 0 M)
theorem of_X5_append {V : VV} {x1 : Int} {M : Mem} {Q : Int → Mem → Prop} (h : wp_X5_append V x1 M Q) : R_X5_append V x1 M Q := by
  refine met_in (own := "TreeHands$Pad") (by decide +kernel) rfl rfl (Nat.le_of_ble_eq_true rfl) ?_
  intro X G Z hn hr hv
  subst hv
  unfold wp_X5_append at h
  show AW X 0 [(15, 1), (0, x1)] [] M
  refine am_aload_n (i := 0) (t := 12) (pc := 0) G dX5_append_0 rfl rfl rfl ?_
  refine gf_X5_0 (pc := 1) G dX5_append_1 tw_f_RX5_15 ?_
  refine am_bipush (pc := 4) G dX5_append_4 (by decide) (by decide) ?_
  refine am_icmp_lt (pc := 6) G 11 dX5_append_6 (by decide) (fun c => ?_) (fun c => ?_)
  · have h := h.1 c
    refine am_aload_n (i := 0) (t := 12) (pc := 11) G dX5_append_11 rfl rfl rfl ?_
    refine gf_X5_1 (pc := 12) G dX5_append_12 tw_f_RX5_9 ?_
    refine am_aload_n (i := 0) (t := 12) (pc := 15) G dX5_append_15 rfl rfl rfl ?_
    refine gf_X5_0 (pc := 16) G dX5_append_16 tw_f_RX5_15 ?_
    refine am_iload_n (i := 1) (pc := 19) G dX5_append_19 rfl rfl ?_
    refine am_iast (pc := 20) G 60 dX5_append_20 (by decide) h.1 ?_
    have h := h.2
    refine am_aload_n (i := 0) (t := 12) (pc := 21) G dX5_append_21 rfl rfl rfl ?_
    refine am_dup (pc := 22) G dX5_append_22 (Nat.ne_of_beq_eq_false rfl) ?_
    have h := h _ rfl
    refine gf_X5_0 (pc := 23) G dX5_append_23 tw_f_RX5_15 ?_
    refine am_iconst (pc := 26) G dX5_append_26 (by decide) ?_
    refine am_iadd (pc := 27) G dX5_append_27 ?_
    refine pf_X5_0 (pc := 28) G dX5_append_28 tw_f_RX5_15 ?_
    refine am_iconst (pc := 31) G dX5_append_31 (by decide) ?_
    exact am_zret (pc := 32) G Z dX5_append_32 ⟨by decide, h⟩
  · have h := h.2 c
    refine am_iconst (pc := 9) G dX5_append_9 (by decide) ?_
    exact am_zret (pc := 10) G Z dX5_append_10 ⟨by decide, h⟩
-- X9_isLabel TreeHands.isLabel(I)Z
def rm_X9_isLabel : Room := { frames := 0, cells := 0, slots := 0, locals := 0 }
theorem hy_X9_isLabel : yX9_isLabel.cls ≠ "java/lang/invoke/MethodHandle" ∧ yX9_isLabel.cls ≠ "java/lang/invoke/VarHandle" ∧ (parseMethodDescriptor yX9_isLabel.desc).map (fun d => d.parameters.length) = some 1 := by decide +kernel
abbrev R_X9_isLabel (V : VV) (x0 : Int) (M : Mem) (Q : Int → Mem → Prop) : Prop := RunsM V yX9_isLabel (.code yX9_isLabel cX9_isLabel 1 (Option.some Jvm.ClassFile.FieldType.boolean)) rm_X9_isLabel 1 [(0, x0)] M Q
def wp_X9_isLabel (V : VV) (x0 : Int) (M : Mem) (Q : Int → Mem → Prop) : Prop :=
  (x0 < 97 →
    Q 0 M) ∧ (¬ (x0 < 97) →
    (122 < x0 →
      Q 0 M) ∧ (¬ (122 < x0) →
      Q 1 M))
theorem of_X9_isLabel {V : VV} {x0 : Int} {M : Mem} {Q : Int → Mem → Prop} (h : wp_X9_isLabel V x0 M Q) : R_X9_isLabel V x0 M Q := by
  refine met_in (own := "TreeHands") (by decide +kernel) rfl rfl (Nat.le_of_ble_eq_true rfl) ?_
  intro X G Z hn hr hv
  subst hv
  unfold wp_X9_isLabel at h
  show AW X 0 [(0, x0)] [] M
  refine am_iload_n (i := 0) (pc := 0) G dX9_isLabel_0 rfl rfl ?_
  refine am_bipush (pc := 1) G dX9_isLabel_1 (by decide) (by decide) ?_
  refine am_icmp_lt (pc := 3) G 16 dX9_isLabel_3 (by decide) (fun c => ?_) (fun c => ?_)
  · have h := h.1 c
    refine am_iconst (pc := 16) G dX9_isLabel_16 (by decide) ?_
    exact am_zret (pc := 17) G Z dX9_isLabel_17 ⟨by decide, h⟩
  · have h := h.2 c
    refine am_iload_n (i := 0) (pc := 6) G dX9_isLabel_6 rfl rfl ?_
    refine am_bipush (pc := 7) G dX9_isLabel_7 (by decide) (by decide) ?_
    refine am_icmp_gt (pc := 9) G 16 dX9_isLabel_9 (by decide) (fun c => ?_) (fun c => ?_)
    · have h := h.1 c
      refine am_iconst (pc := 16) G dX9_isLabel_16 (by decide) ?_
      exact am_zret (pc := 17) G Z dX9_isLabel_17 ⟨by decide, h⟩
    · have h := h.2 c
      refine am_iconst (pc := 12) G dX9_isLabel_12 (by decide) ?_
      refine am_goto (pc := 13) G 17 dX9_isLabel_13 (by decide) ?_
      exact am_zret (pc := 17) G Z dX9_isLabel_17 ⟨by decide, h⟩
-- X5_mayFollow TreeHands$Pad.mayFollow(III)Z
def rm_X5_mayFollow : Room := { frames := 1, cells := 0, slots := 0, locals := 20 }
theorem hy_X5_mayFollow : yX5_mayFollow.cls ≠ "java/lang/invoke/MethodHandle" ∧ yX5_mayFollow.cls ≠ "java/lang/invoke/VarHandle" ∧ (parseMethodDescriptor yX5_mayFollow.desc).map (fun d => d.parameters.length) = some 3 := by decide +kernel
abbrev R_X5_mayFollow (V : VV) (x0 x1 x2 : Int) (M : Mem) (Q : Int → Mem → Prop) : Prop := RunsM V yX5_mayFollow (.code yX5_mayFollow cX5_mayFollow 4 (Option.some Jvm.ClassFile.FieldType.boolean)) rm_X5_mayFollow 1 [(0, x0), (0, x1), (0, x2)] M Q
def wp_X5_mayFollow_19 (V : VV) (x0 x1 x2 s0 : Int) (M : Mem) (Q : Int → Mem → Prop) : Prop :=
  (x0 = 0 →
    (s0 = 0 ∨ s0 = 1) ∧ Q s0 M) ∧ (¬ (x0 = 0) →
    (x0 = 40 →
      (s0 = 0 ∨ s0 = 1) ∧ Q s0 M) ∧ (¬ (x0 = 40) →
      (x1 = 40 →
        R_X9_isLabel V x0 M (fun r3 M4 =>
        (r3 = 0 ∨ r3 = 1) ∧ Q r3 M4)) ∧ (¬ (x1 = 40) →
        (x2 ≤ 0 →
          Q 0 M) ∧ (¬ (x2 ≤ 0) →
          (s0 = 0 →
            (x1 = 41 →
              Q 1 M) ∧ (¬ (x1 = 41) →
              Q 0 M)) ∧ (¬ (s0 = 0) →
            Q 1 M)))))
theorem swp_X5_mayFollow_19 {X : XX} {Q : Int → Mem → Prop} (G : GX X cX5_mayFollow "TreeHands$Pad") (Z : RX X 1 Q) (hn : nLX X = 4) (hr : roomX X = rm_X5_mayFollow) (x0 x1 x2 s0 : Int) (M : Mem) (h : wp_X5_mayFollow_19 (vX X) x0 x1 x2 s0 M Q) : AW X 19 [(0, x0), (0, x1), (0, x2), (99, 0)] [(0, s0)] M := by
  unfold wp_X5_mayFollow_19 at h
  refine am_istore_n (pc := 19) G dX5_mayFollow_19 rfl (nlx hn rfl) rfl ?_
  refine am_iload_n (i := 0) (pc := 20) (ls := [(0, _), (0, _), (0, _), (0, _)]) G dX5_mayFollow_20 rfl rfl ?_
  refine am_if_eq (pc := 21) G 30 dX5_mayFollow_21 (by decide) (fun c => ?_) (fun c => ?_)
  · have h := h.1 c
    refine am_iload_n (i := 3) (pc := 30) G dX5_mayFollow_30 rfl rfl ?_
    exact am_zret (pc := 31) G Z dX5_mayFollow_31 h
  · have h := h.2 c
    refine am_iload_n (i := 0) (pc := 24) G dX5_mayFollow_24 rfl rfl ?_
    refine am_bipush (pc := 25) G dX5_mayFollow_25 (by decide) (by decide) ?_
    refine am_icmp_ne (pc := 27) G 32 dX5_mayFollow_27 (by decide) (fun c => ?_) (fun c => ?_)
    · have h := h.2 c
      refine am_iload_n (i := 1) (pc := 32) G dX5_mayFollow_32 rfl rfl ?_
      refine am_bipush (pc := 33) G dX5_mayFollow_33 (by decide) (by decide) ?_
      refine am_icmp_ne (pc := 35) G 43 dX5_mayFollow_35 (by decide) (fun c => ?_) (fun c => ?_)
      · have h := h.2 c
        refine am_iload_n (i := 2) (pc := 43) G dX5_mayFollow_43 rfl rfl ?_
        refine am_if_le (pc := 44) G 61 dX5_mayFollow_44 (by decide) (fun c => ?_) (fun c => ?_)
        · have h := h.1 c
          refine am_iconst (pc := 61) G dX5_mayFollow_61 (by decide) ?_
          exact am_zret (pc := 62) G Z dX5_mayFollow_62 ⟨by decide, h⟩
        · have h := h.2 c
          refine am_iload_n (i := 3) (pc := 47) G dX5_mayFollow_47 rfl rfl ?_
          refine am_if_ne (pc := 48) G 57 dX5_mayFollow_48 (by decide) (fun c => ?_) (fun c => ?_)
          · have h := h.2 c
            refine am_iconst (pc := 57) G dX5_mayFollow_57 (by decide) ?_
            refine am_goto (pc := 58) G 62 dX5_mayFollow_58 (by decide) ?_
            exact am_zret (pc := 62) G Z dX5_mayFollow_62 ⟨by decide, h⟩
          · have h := h.1 c
            refine am_iload_n (i := 1) (pc := 51) G dX5_mayFollow_51 rfl rfl ?_
            refine am_bipush (pc := 52) G dX5_mayFollow_52 (by decide) (by decide) ?_
            refine am_icmp_ne (pc := 54) G 61 dX5_mayFollow_54 (by decide) (fun c => ?_) (fun c => ?_)
            · have h := h.2 c
              refine am_iconst (pc := 61) G dX5_mayFollow_61 (by decide) ?_
              exact am_zret (pc := 62) G Z dX5_mayFollow_62 ⟨by decide, h⟩
            · have h := h.1 c
              refine am_iconst (pc := 57) G dX5_mayFollow_57 (by decide) ?_
              refine am_goto (pc := 58) G 62 dX5_mayFollow_58 (by decide) ?_
              exact am_zret (pc := 62) G Z dX5_mayFollow_62 ⟨by decide, h⟩
      · have h := h.1 c
        refine am_iload_n (i := 0) (pc := 38) G dX5_mayFollow_38 rfl rfl ?_
        refine am_callSN (rk := 1) (rmc := rm_X9_isLabel) (st := []) (pc := 39) G [(0, _)] dX5_mayFollow_39 tw_n_RX5_23 tw_s_X9_isLabel tw_z_RX9 tw_c_X9_isLabel hy_X9_isLabel (callrm hr rfl) rfl (RunsM.mono h (fun r3 M4 h => ?_)) Z.rm
        show AW X 42 _ [(0, _)] M4
        exact am_zret (pc := 42) G Z dX5_mayFollow_42 h
    · have h := h.1 c
      refine am_iload_n (i := 3) (pc := 30) G dX5_mayFollow_30 rfl rfl ?_
      exact am_zret (pc := 31) G Z dX5_mayFollow_31 h
def wp_X5_mayFollow_14 (V : VV) (x0 x1 x2 : Int) (M : Mem) (Q : Int → Mem → Prop) : Prop :=
  wp_X5_mayFollow_19 V x0 x1 x2 1 M Q
theorem swp_X5_mayFollow_14 {X : XX} {Q : Int → Mem → Prop} (G : GX X cX5_mayFollow "TreeHands$Pad") (Z : RX X 1 Q) (hn : nLX X = 4) (hr : roomX X = rm_X5_mayFollow) (x0 x1 x2 : Int) (M : Mem) (h : wp_X5_mayFollow_14 (vX X) x0 x1 x2 M Q) : AW X 14 [(0, x0), (0, x1), (0, x2), (99, 0)] [] M := by
  unfold wp_X5_mayFollow_14 at h
  refine am_iconst (pc := 14) G dX5_mayFollow_14 (by decide) ?_
  refine am_goto (pc := 15) G 19 dX5_mayFollow_15 (by decide) ?_
  refine am_le (ls' := [(0, _), (0, _), (0, _), (99, 0)]) ⟨Or.inr rfl, ⟨Or.inr rfl, ⟨Or.inr rfl, ⟨Or.inl rfl, trivial⟩⟩⟩⟩ ?_
  exact swp_X5_mayFollow_19 G Z hn hr _ _ _ _ _ h
def wp_X5_mayFollow (V : VV) (x0 x1 x2 : Int) (M : Mem) (Q : Int → Mem → Prop) : Prop :=
  R_X9_isLabel V x1 M (fun r1 M2 =>
  (r1 = 0 →
    R_X9_isHole V x1 M2 (fun r5 M6 =>
    (r5 = 0 →
      wp_X5_mayFollow_19 V x0 x1 x2 0 M6 Q) ∧ (¬ (r5 = 0) →
      wp_X5_mayFollow_14 V x0 x1 x2 M6 Q))) ∧ (¬ (r1 = 0) →
    wp_X5_mayFollow_14 V x0 x1 x2 M2 Q))
theorem of_X5_mayFollow {V : VV} {x0 x1 x2 : Int} {M : Mem} {Q : Int → Mem → Prop} (h : wp_X5_mayFollow V x0 x1 x2 M Q) : R_X5_mayFollow V x0 x1 x2 M Q := by
  refine met_in (own := "TreeHands$Pad") (by decide +kernel) rfl rfl (Nat.le_of_ble_eq_true rfl) ?_
  intro X G Z hn hr hv
  subst hv
  unfold wp_X5_mayFollow at h
  show AW X 0 [(0, x0), (0, x1), (0, x2), (99, 0)] [] M
  refine am_iload_n (i := 1) (pc := 0) G dX5_mayFollow_0 rfl rfl ?_
  refine am_callSN (rk := 1) (rmc := rm_X9_isLabel) (st := []) (pc := 1) G [(0, _)] dX5_mayFollow_1 tw_n_RX5_23 tw_s_X9_isLabel tw_z_RX9 tw_c_X9_isLabel hy_X9_isLabel (callrm hr rfl) rfl (RunsM.mono h (fun r1 M2 h => ?_)) Z.rm
  show AW X 4 _ [(0, _)] M2
  refine am_if_ne (pc := 4) G 14 dX5_mayFollow_4 (by decide) (fun c => ?_) (fun c => ?_)
  · have h := h.2 c
    refine am_le (ls' := [(0, _), (0, _), (0, _), (99, 0)]) ⟨Or.inr rfl, ⟨Or.inr rfl, ⟨Or.inr rfl, ⟨Or.inl rfl, trivial⟩⟩⟩⟩ ?_
    exact swp_X5_mayFollow_14 G Z hn hr _ _ _ _ h
  · have h := h.1 c
    refine am_iload_n (i := 1) (pc := 7) G dX5_mayFollow_7 rfl rfl ?_
    refine am_callSN (rk := 1) (rmc := rm_X9_isHole) (st := []) (pc := 8) G [(0, _)] dX5_mayFollow_8 tw_n_RX5_27 tw_s_X9_isHole tw_z_RX9 tw_c_X9_isHole hy_X9_isHole (callrm hr rfl) rfl (RunsM.mono h (fun r5 M6 h => ?_)) Z.rm
    show AW X 11 _ [(0, _)] M6
    refine am_if_eq (pc := 11) G 18 dX5_mayFollow_11 (by decide) (fun c => ?_) (fun c => ?_)
    · have h := h.1 c
      refine am_iconst (pc := 18) G dX5_mayFollow_18 (by decide) ?_
      refine am_le (ls' := [(0, _), (0, _), (0, _), (99, 0)]) ⟨Or.inr rfl, ⟨Or.inr rfl, ⟨Or.inr rfl, ⟨Or.inl rfl, trivial⟩⟩⟩⟩ ?_
      exact swp_X5_mayFollow_19 G Z hn hr _ _ _ _ _ h
    · have h := h.2 c
      refine am_le (ls' := [(0, _), (0, _), (0, _), (99, 0)]) ⟨Or.inr rfl, ⟨Or.inr rfl, ⟨Or.inr rfl, ⟨Or.inl rfl, trivial⟩⟩⟩⟩ ?_
      exact swp_X5_mayFollow_14 G Z hn hr _ _ _ _ h
-- X5_firstFault TreeHands$Pad.firstFault()I
def rm_X5_firstFault : Room := { frames := 2, cells := 0, slots := 0, locals := 43 }
theorem hy_X5_firstFault : yX5_firstFault.cls ≠ "java/lang/invoke/MethodHandle" ∧ yX5_firstFault.cls ≠ "java/lang/invoke/VarHandle" ∧ (parseMethodDescriptor yX5_firstFault.desc).map (fun d => d.parameters.length) = some 0 := by decide +kernel
abbrev R_X5_firstFault (V : VV) (M : Mem) (Q : Int → Mem → Prop) : Prop := RunsM V yX5_firstFault (.code yX5_firstFault cX5_firstFault 5 (Option.some Jvm.ClassFile.FieldType.int)) rm_X5_firstFault 0 [(15, 1)] M Q
def wp_X5_firstFault_57 (V : VV) (x1 x3 x4 : Int) (M : Mem) (Q : Int → Mem → Prop) (B6 : Int → Int → Int → Mem → Prop) : Prop :=
  B6 x1 x4 (w32 (x3 + 1)) M
theorem swp_X5_firstFault_57 {X : XX} {Q : Int → Mem → Prop} (G : GX X cX5_firstFault "TreeHands$Pad") (Z : RX X 0 Q) (hn : nLX X = 5) (hr : roomX X = rm_X5_firstFault) (x1 x3 x4 : Int) (M : Mem) (B6 : Int → Int → Int → Mem → Prop) (k6 : ∀ (z1 z2 z3 : Int) (N : Mem), B6 z1 z2 z3 N → AW X 6 [(15, 1), (0, z1), (0, z2), (0, z3), (99, 0)] [] N) (h : wp_X5_firstFault_57 (vX X) x1 x3 x4 M Q B6) : AW X 57 [(15, 1), (0, x1), (99, 0), (0, x3), (0, x4)] [] M := by
  unfold wp_X5_firstFault_57 at h
  refine am_iload (pc := 57) G dX5_firstFault_57 rfl ?_
  refine am_istore_n (pc := 59) G dX5_firstFault_59 rfl (nlx hn rfl) rfl ?_
  refine am_iinc (pc := 60) (ls := [(15, _), (0, _), (0, _), (0, _), (0, _)]) G dX5_firstFault_60 rfl (nlx hn rfl) rfl ?_
  refine am_goto (pc := 63) (ls := [(15, _), (0, _), (0, _), (0, _), (0, _)]) G 6 dX5_firstFault_63 (by decide) ?_
  refine am_le (ls' := [(15, _), (0, _), (0, _), (0, _), (99, 0)]) ⟨Or.inr rfl, ⟨Or.inr rfl, ⟨Or.inr rfl, ⟨Or.inr rfl, ⟨Or.inl rfl, trivial⟩⟩⟩⟩⟩ ?_
  exact k6 _ _ _ _ h
def wp_X5_firstFault_6_b (V : VV) (x1 x2 x3 : Int) (M : Mem) (Q : Int → Mem → Prop) (B6 : Int → Int → Int → Mem → Prop) : Prop :=
  (M 1 0 ≤ x3 →
    (x2 = 0 →
      Q (M 1 0) M) ∧ (¬ (x2 = 0) →
      (x1 ≤ 0 →
        Q (-1) M) ∧ (¬ (x1 ≤ 0) →
        Q (M 1 0) M))) ∧ (¬ (M 1 0 ≤ x3) →
    ((0 : Int) ≤ x3 ∧ x3 < (60 : Int)) ∧
    ∀ v1 : Int, v1 = M 2 x3 →
    R_X5_mayFollow V x2 v1 x1 M (fun r2 M3 =>
    (r2 = 0 →
      Q x3 M3) ∧ (¬ (r2 = 0) →
      (v1 = 40 →
        wp_X5_firstFault_57 V (w32 (x1 + 1)) x3 v1 M3 Q B6) ∧ (¬ (v1 = 40) →
        (v1 = 41 →
          wp_X5_firstFault_57 V (w32 (x1 + (-1))) x3 v1 M3 Q B6) ∧ (¬ (v1 = 41) →
          wp_X5_firstFault_57 V x1 x3 v1 M3 Q B6)))))
theorem swp_X5_firstFault_6_b {X : XX} {Q : Int → Mem → Prop} (G : GX X cX5_firstFault "TreeHands$Pad") (Z : RX X 0 Q) (hn : nLX X = 5) (hr : roomX X = rm_X5_firstFault) (x1 x2 x3 : Int) (M : Mem) (B6 : Int → Int → Int → Mem → Prop) (k6 : ∀ (z1 z2 z3 : Int) (N : Mem), B6 z1 z2 z3 N → AW X 6 [(15, 1), (0, z1), (0, z2), (0, z3), (99, 0)] [] N) (h : wp_X5_firstFault_6_b (vX X) x1 x2 x3 M Q B6) : AW X 6 [(15, 1), (0, x1), (0, x2), (0, x3), (99, 0)] [] M := by
  unfold wp_X5_firstFault_6_b at h
  refine am_iload_n (i := 3) (pc := 6) G dX5_firstFault_6 rfl rfl ?_
  refine am_aload_n (i := 0) (t := 12) (pc := 7) G dX5_firstFault_7 rfl rfl rfl ?_
  refine gf_X5_0 (pc := 8) G dX5_firstFault_8 tw_f_RX5_15 ?_
  refine am_icmp_ge (pc := 11) G 66 dX5_firstFault_11 (by decide) (fun c => ?_) (fun c => ?_)
  · have h := h.1 c
    refine am_iload_n (i := 2) (pc := 66) G dX5_firstFault_66 rfl rfl ?_
    refine am_if_eq (pc := 67) G 74 dX5_firstFault_67 (by decide) (fun c => ?_) (fun c => ?_)
    · have h := h.1 c
      refine am_aload_n (i := 0) (t := 12) (pc := 74) G dX5_firstFault_74 rfl rfl rfl ?_
      refine gf_X5_0 (pc := 75) G dX5_firstFault_75 tw_f_RX5_15 ?_
      refine am_goto (pc := 78) G 82 dX5_firstFault_78 (by decide) ?_
      exact am_iret (pc := 82) G Z dX5_firstFault_82 h
    · have h := h.2 c
      refine am_iload_n (i := 1) (pc := 70) G dX5_firstFault_70 rfl rfl ?_
      refine am_if_le (pc := 71) G 81 dX5_firstFault_71 (by decide) (fun c => ?_) (fun c => ?_)
      · have h := h.1 c
        refine am_iconst (pc := 81) G dX5_firstFault_81 (by decide) ?_
        exact am_iret (pc := 82) G Z dX5_firstFault_82 h
      · have h := h.2 c
        refine am_aload_n (i := 0) (t := 12) (pc := 74) G dX5_firstFault_74 rfl rfl rfl ?_
        refine gf_X5_0 (pc := 75) G dX5_firstFault_75 tw_f_RX5_15 ?_
        refine am_goto (pc := 78) G 82 dX5_firstFault_78 (by decide) ?_
        exact am_iret (pc := 82) G Z dX5_firstFault_82 h
  · have h := h.2 c
    refine am_aload_n (i := 0) (t := 12) (pc := 14) G dX5_firstFault_14 rfl rfl rfl ?_
    refine gf_X5_1 (pc := 15) G dX5_firstFault_15 tw_f_RX5_9 ?_
    refine am_iload_n (i := 3) (pc := 18) G dX5_firstFault_18 rfl rfl ?_
    refine am_iald (pc := 19) G 60 dX5_firstFault_19 (by decide) h.1 ?_
    have h := h.2
    have h := h _ rfl
    refine am_istore (pc := 20) G dX5_firstFault_20 (nlx hn rfl) rfl ?_
    refine am_iload_n (i := 2) (pc := 22) (ls := [(15, _), (0, _), (0, _), (0, _), (0, _)]) G dX5_firstFault_22 rfl rfl ?_
    refine am_iload (pc := 23) G dX5_firstFault_23 rfl ?_
    refine am_iload_n (i := 1) (pc := 25) G dX5_firstFault_25 rfl rfl ?_
    refine am_callS (rk := 1) (rmc := rm_X5_mayFollow) (st := []) (pc := 26) G [(0, _), (0, _), (0, _)] dX5_firstFault_26 tw_m_RX5_19 tw_s_X5_mayFollow tw_z_RX5 tw_c_X5_mayFollow hy_X5_mayFollow (callrm hr rfl) rfl (RunsM.mono h (fun r2 M3 h => ?_)) Z.rm
    show AW X 29 _ [(0, _)] M3
    refine am_if_ne (pc := 29) G 34 dX5_firstFault_29 (by decide) (fun c => ?_) (fun c => ?_)
    · have h := h.2 c
      refine am_iload (pc := 34) G dX5_firstFault_34 rfl ?_
      refine am_bipush (pc := 36) G dX5_firstFault_36 (by decide) (by decide) ?_
      refine am_icmp_ne (pc := 38) G 47 dX5_firstFault_38 (by decide) (fun c => ?_) (fun c => ?_)
      · have h := h.2 c
        refine am_iload (pc := 47) G dX5_firstFault_47 rfl ?_
        refine am_bipush (pc := 49) G dX5_firstFault_49 (by decide) (by decide) ?_
        refine am_icmp_ne (pc := 51) G 57 dX5_firstFault_51 (by decide) (fun c => ?_) (fun c => ?_)
        · have h := h.2 c
          refine am_le (ls' := [(15, _), (0, _), (99, 0), (0, _), (0, _)]) ⟨Or.inr rfl, ⟨Or.inr rfl, ⟨Or.inl rfl, ⟨Or.inr rfl, ⟨Or.inr rfl, trivial⟩⟩⟩⟩⟩ ?_
          exact swp_X5_firstFault_57 G Z hn hr _ _ _ _ B6 k6 h
        · have h := h.1 c
          refine am_iinc (pc := 54) G dX5_firstFault_54 rfl (nlx hn rfl) rfl ?_
          refine am_le (ls' := [(15, _), (0, _), (99, 0), (0, _), (0, _)]) ⟨Or.inr rfl, ⟨Or.inr rfl, ⟨Or.inl rfl, ⟨Or.inr rfl, ⟨Or.inr rfl, trivial⟩⟩⟩⟩⟩ ?_
          exact swp_X5_firstFault_57 G Z hn hr _ _ _ _ B6 k6 h
      · have h := h.1 c
        refine am_iinc (pc := 41) G dX5_firstFault_41 rfl (nlx hn rfl) rfl ?_
        refine am_goto (pc := 44) (ls := [(15, _), (0, _), (0, _), (0, _), (0, _)]) G 57 dX5_firstFault_44 (by decide) ?_
        refine am_le (ls' := [(15, _), (0, _), (99, 0), (0, _), (0, _)]) ⟨Or.inr rfl, ⟨Or.inr rfl, ⟨Or.inl rfl, ⟨Or.inr rfl, ⟨Or.inr rfl, trivial⟩⟩⟩⟩⟩ ?_
        exact swp_X5_firstFault_57 G Z hn hr _ _ _ _ B6 k6 h
    · have h := h.1 c
      refine am_iload_n (i := 3) (pc := 32) G dX5_firstFault_32 rfl rfl ?_
      exact am_iret (pc := 33) G Z dX5_firstFault_33 h
def wp_X5_firstFault_6 (V : VV) (x1 x2 x3 : Int) (M : Mem) (Q : Int → Mem → Prop) : Prop :=
  ∃ (I : Int → Int → Int → Mem → Prop) (μ : Int → Int → Int → Mem → Nat), I x1 x2 x3 M ∧ ∀ (y1 y2 y3 : Int) (N : Mem), I y1 y2 y3 N → wp_X5_firstFault_6_b V y1 y2 y3 N Q (fun z1 z2 z3 N1 => I z1 z2 z3 N1 ∧ μ z1 z2 z3 N1 < μ y1 y2 y3 N)
theorem swp_X5_firstFault_6 {X : XX} {Q : Int → Mem → Prop} (G : GX X cX5_firstFault "TreeHands$Pad") (Z : RX X 0 Q) (hn : nLX X = 5) (hr : roomX X = rm_X5_firstFault) (x1 x2 x3 : Int) (M : Mem) (h : wp_X5_firstFault_6 (vX X) x1 x2 x3 M Q) : AW X 6 [(15, 1), (0, x1), (0, x2), (0, x3), (99, 0)] [] M := by
  unfold wp_X5_firstFault_6 at h
  obtain ⟨I, μ, hI, hs⟩ := h
  have key : ∀ (n : Nat) (y1 y2 y3 : Int) (N : Mem), μ y1 y2 y3 N < n → I y1 y2 y3 N → AW X 6 [(15, 1), (0, y1), (0, y2), (0, y3), (99, 0)] [] N := by
    intro n
    induction n with
    | zero => intro y1 y2 y3 N hlt; exact absurd hlt (Nat.not_lt_zero _)
    | succ n ih =>
      intro y1 y2 y3 N hlt hI
      exact swp_X5_firstFault_6_b G Z hn hr y1 y2 y3 N (fun z1 z2 z3 N1 => I z1 z2 z3 N1 ∧ μ z1 z2 z3 N1 < μ y1 y2 y3 N) (fun z1 z2 z3 N1 hz => ih z1 z2 z3 N1 (by omega) hz.1) (hs y1 y2 y3 N hI)
  exact key _ x1 x2 x3 M (Nat.lt_succ_self _) hI
def wp_X5_firstFault (V : VV) (M : Mem) (Q : Int → Mem → Prop) : Prop :=
  wp_X5_firstFault_6 V 0 0 0 M Q
theorem of_X5_firstFault {V : VV} {M : Mem} {Q : Int → Mem → Prop} (h : wp_X5_firstFault V M Q) : R_X5_firstFault V M Q := by
  refine met_in (own := "TreeHands$Pad") (by decide +kernel) rfl rfl (Nat.le_of_ble_eq_true rfl) ?_
  intro X G Z hn hr hv
  subst hv
  unfold wp_X5_firstFault at h
  show AW X 0 [(15, 1), (99, 0), (99, 0), (99, 0), (99, 0)] [] M
  refine am_iconst (pc := 0) G dX5_firstFault_0 (by decide) ?_
  refine am_istore_n (pc := 1) G dX5_firstFault_1 rfl (nlx hn rfl) rfl ?_
  refine am_iconst (pc := 2) (ls := [(15, _), (0, _), (99, _), (99, _), (99, _)]) G dX5_firstFault_2 (by decide) ?_
  refine am_istore_n (pc := 3) G dX5_firstFault_3 rfl (nlx hn rfl) rfl ?_
  refine am_iconst (pc := 4) (ls := [(15, _), (0, _), (0, _), (99, _), (99, _)]) G dX5_firstFault_4 (by decide) ?_
  refine am_istore_n (pc := 5) G dX5_firstFault_5 rfl (nlx hn rfl) rfl ?_
  refine am_le (ls' := [(15, _), (0, _), (0, _), (0, _), (99, 0)]) ⟨Or.inr rfl, ⟨Or.inr rfl, ⟨Or.inr rfl, ⟨Or.inr rfl, ⟨Or.inl rfl, trivial⟩⟩⟩⟩⟩ ?_
  exact swp_X5_firstFault_6 G Z hn hr _ _ _ _ h
-- X5_nodeCount TreeHands$Pad.nodeCount()I
def rm_X5_nodeCount : Room := { frames := 0, cells := 0, slots := 0, locals := 0 }
theorem hy_X5_nodeCount : yX5_nodeCount.cls ≠ "java/lang/invoke/MethodHandle" ∧ yX5_nodeCount.cls ≠ "java/lang/invoke/VarHandle" ∧ (parseMethodDescriptor yX5_nodeCount.desc).map (fun d => d.parameters.length) = some 0 := by decide +kernel
abbrev R_X5_nodeCount (V : VV) (M : Mem) (Q : Int → Mem → Prop) : Prop := RunsM V yX5_nodeCount (.code yX5_nodeCount cX5_nodeCount 3 (Option.some Jvm.ClassFile.FieldType.int)) rm_X5_nodeCount 0 [(15, 1)] M Q
def wp_X5_nodeCount_4_b (V : VV) (x1 x2 : Int) (M : Mem) (Q : Int → Mem → Prop) (B4 : Int → Int → Prop) : Prop :=
  (M 1 0 ≤ x2 →
    Q x1 M) ∧ (¬ (M 1 0 ≤ x2) →
    ((0 : Int) ≤ x2 ∧ x2 < (60 : Int)) ∧
    (M 2 x2 = 40 →
      B4 x1 (w32 (x2 + 1))) ∧ (¬ (M 2 x2 = 40) →
      ((0 : Int) ≤ x2 ∧ x2 < (60 : Int)) ∧
      (M 2 x2 = 41 →
        B4 x1 (w32 (x2 + 1))) ∧ (¬ (M 2 x2 = 41) →
        B4 (w32 (x1 + 1)) (w32 (x2 + 1)))))
theorem swp_X5_nodeCount_4_b {X : XX} {Q : Int → Mem → Prop} (G : GX X cX5_nodeCount "TreeHands$Pad") (Z : RX X 0 Q) (hn : nLX X = 3) (hr : roomX X = rm_X5_nodeCount) (x1 x2 : Int) (M : Mem) (B4 : Int → Int → Prop) (k4 : ∀ (z1 z2 : Int), B4 z1 z2 → AW X 4 [(15, 1), (0, z1), (0, z2)] [] M) (h : wp_X5_nodeCount_4_b (vX X) x1 x2 M Q B4) : AW X 4 [(15, 1), (0, x1), (0, x2)] [] M := by
  unfold wp_X5_nodeCount_4_b at h
  refine am_iload_n (i := 2) (pc := 4) G dX5_nodeCount_4 rfl rfl ?_
  refine am_aload_n (i := 0) (t := 12) (pc := 5) G dX5_nodeCount_5 rfl rfl rfl ?_
  refine gf_X5_0 (pc := 6) G dX5_nodeCount_6 tw_f_RX5_15 ?_
  refine am_icmp_ge (pc := 9) G 43 dX5_nodeCount_9 (by decide) (fun c => ?_) (fun c => ?_)
  · have h := h.1 c
    refine am_iload_n (i := 1) (pc := 43) G dX5_nodeCount_43 rfl rfl ?_
    exact am_iret (pc := 44) G Z dX5_nodeCount_44 h
  · have h := h.2 c
    refine am_aload_n (i := 0) (t := 12) (pc := 12) G dX5_nodeCount_12 rfl rfl rfl ?_
    refine gf_X5_1 (pc := 13) G dX5_nodeCount_13 tw_f_RX5_9 ?_
    refine am_iload_n (i := 2) (pc := 16) G dX5_nodeCount_16 rfl rfl ?_
    refine am_iald (pc := 17) G 60 dX5_nodeCount_17 (by decide) h.1 ?_
    have h := h.2
    refine am_bipush (pc := 18) G dX5_nodeCount_18 (by decide) (by decide) ?_
    refine am_icmp_eq (pc := 20) G 37 dX5_nodeCount_20 (by decide) (fun c => ?_) (fun c => ?_)
    · have h := h.1 c
      refine am_iinc (pc := 37) G dX5_nodeCount_37 rfl (nlx hn rfl) rfl ?_
      refine am_goto (pc := 40) (ls := [(15, _), (0, _), (0, _)]) G 4 dX5_nodeCount_40 (by decide) ?_
      refine am_le (ls' := [(15, _), (0, _), (0, _)]) ⟨Or.inr rfl, ⟨Or.inr rfl, ⟨Or.inr rfl, trivial⟩⟩⟩ ?_
      exact k4 _ _ h
    · have h := h.2 c
      refine am_aload_n (i := 0) (t := 12) (pc := 23) G dX5_nodeCount_23 rfl rfl rfl ?_
      refine gf_X5_1 (pc := 24) G dX5_nodeCount_24 tw_f_RX5_9 ?_
      refine am_iload_n (i := 2) (pc := 27) G dX5_nodeCount_27 rfl rfl ?_
      refine am_iald (pc := 28) G 60 dX5_nodeCount_28 (by decide) h.1 ?_
      have h := h.2
      refine am_bipush (pc := 29) G dX5_nodeCount_29 (by decide) (by decide) ?_
      refine am_icmp_eq (pc := 31) G 37 dX5_nodeCount_31 (by decide) (fun c => ?_) (fun c => ?_)
      · have h := h.1 c
        refine am_iinc (pc := 37) G dX5_nodeCount_37 rfl (nlx hn rfl) rfl ?_
        refine am_goto (pc := 40) (ls := [(15, _), (0, _), (0, _)]) G 4 dX5_nodeCount_40 (by decide) ?_
        refine am_le (ls' := [(15, _), (0, _), (0, _)]) ⟨Or.inr rfl, ⟨Or.inr rfl, ⟨Or.inr rfl, trivial⟩⟩⟩ ?_
        exact k4 _ _ h
      · have h := h.2 c
        refine am_iinc (pc := 34) G dX5_nodeCount_34 rfl (nlx hn rfl) rfl ?_
        refine am_iinc (pc := 37) (ls := [(15, _), (0, _), (0, _)]) G dX5_nodeCount_37 rfl (nlx hn rfl) rfl ?_
        refine am_goto (pc := 40) (ls := [(15, _), (0, _), (0, _)]) G 4 dX5_nodeCount_40 (by decide) ?_
        refine am_le (ls' := [(15, _), (0, _), (0, _)]) ⟨Or.inr rfl, ⟨Or.inr rfl, ⟨Or.inr rfl, trivial⟩⟩⟩ ?_
        exact k4 _ _ h
def wp_X5_nodeCount_4 (V : VV) (x1 x2 : Int) (M : Mem) (Q : Int → Mem → Prop) : Prop :=
  ∃ (I : Int → Int → Prop) (μ : Int → Int → Nat), I x1 x2 ∧ ∀ (y1 y2 : Int), I y1 y2 → wp_X5_nodeCount_4_b V y1 y2 M Q (fun z1 z2 => I z1 z2 ∧ μ z1 z2 < μ y1 y2)
theorem swp_X5_nodeCount_4 {X : XX} {Q : Int → Mem → Prop} (G : GX X cX5_nodeCount "TreeHands$Pad") (Z : RX X 0 Q) (hn : nLX X = 3) (hr : roomX X = rm_X5_nodeCount) (x1 x2 : Int) (M : Mem) (h : wp_X5_nodeCount_4 (vX X) x1 x2 M Q) : AW X 4 [(15, 1), (0, x1), (0, x2)] [] M := by
  unfold wp_X5_nodeCount_4 at h
  obtain ⟨I, μ, hI, hs⟩ := h
  have key : ∀ (n : Nat) (y1 y2 : Int), μ y1 y2 < n → I y1 y2 → AW X 4 [(15, 1), (0, y1), (0, y2)] [] M := by
    intro n
    induction n with
    | zero => intro y1 y2 hlt; exact absurd hlt (Nat.not_lt_zero _)
    | succ n ih =>
      intro y1 y2 hlt hI
      exact swp_X5_nodeCount_4_b G Z hn hr y1 y2 M (fun z1 z2 => I z1 z2 ∧ μ z1 z2 < μ y1 y2) (fun z1 z2 hz => ih z1 z2 (by omega) hz.1) (hs y1 y2 hI)
  exact key _ x1 x2 (Nat.lt_succ_self _) hI
def wp_X5_nodeCount (V : VV) (M : Mem) (Q : Int → Mem → Prop) : Prop :=
  wp_X5_nodeCount_4 V 0 0 M Q
theorem of_X5_nodeCount {V : VV} {M : Mem} {Q : Int → Mem → Prop} (h : wp_X5_nodeCount V M Q) : R_X5_nodeCount V M Q := by
  refine met_in (own := "TreeHands$Pad") (by decide +kernel) rfl rfl (Nat.le_of_ble_eq_true rfl) ?_
  intro X G Z hn hr hv
  subst hv
  unfold wp_X5_nodeCount at h
  show AW X 0 [(15, 1), (99, 0), (99, 0)] [] M
  refine am_iconst (pc := 0) G dX5_nodeCount_0 (by decide) ?_
  refine am_istore_n (pc := 1) G dX5_nodeCount_1 rfl (nlx hn rfl) rfl ?_
  refine am_iconst (pc := 2) (ls := [(15, _), (0, _), (99, _)]) G dX5_nodeCount_2 (by decide) ?_
  refine am_istore_n (pc := 3) G dX5_nodeCount_3 rfl (nlx hn rfl) rfl ?_
  refine am_le (ls' := [(15, _), (0, _), (0, _)]) ⟨Or.inr rfl, ⟨Or.inr rfl, ⟨Or.inr rfl, trivial⟩⟩⟩ ?_
  exact swp_X5_nodeCount_4 G Z hn hr _ _ _ h
-- X5_parse TreeHands$Pad.parse(LTreeHands$Tree;)V
def rm_X5_parse : Room := { frames := 1, cells := 0, slots := 0, locals := 23 }
theorem hy_X5_parse : yX5_parse.cls ≠ "java/lang/invoke/MethodHandle" ∧ yX5_parse.cls ≠ "java/lang/invoke/VarHandle" ∧ (parseMethodDescriptor yX5_parse.desc).map (fun d => d.parameters.length) = some 1 := by decide +kernel
abbrev R_X5_parse (V : VV) (x1 : Int) (M : Mem) (Q : Int → Mem → Prop) : Prop := RunsM V yX5_parse (.code yX5_parse cX5_parse 4 (Option.none : Option Jvm.ClassFile.FieldType)) rm_X5_parse 4 [(15, 1), (17, x1)] M Q
def wp_X5_parse_91 (V : VV) (x1 x2 x3 : Int) (M : Mem) (Q : Int → Mem → Prop) (B10 : Int → Int → Mem → Prop) : Prop :=
  ((0 : Int) ≤ x3 ∧ x3 < (60 : Int)) ∧
  R_X7_append V x1 (M 2 x3) 0 M (fun _ M6 =>
  (M6 x1 0 ≤ 0 →
    B10 x2 (w32 (x3 + 1)) M6) ∧ (¬ (M6 x1 0 ≤ 0) →
    ((0 : Int) ≤ w32 (M6 x1 0 - 1) ∧ w32 (M6 x1 0 - 1) < (16 : Int)) ∧
    B10 x2 (w32 (x3 + 1)) (mset M6 (x1 + 4) (w32 (M6 x1 0 - 1)) x2)))
theorem swp_X5_parse_91 {X : XX} {Q : Int → Mem → Prop} (G : GX X cX5_parse "TreeHands$Pad") (Z : RX X 4 Q) (hn : nLX X = 4) (hr : roomX X = rm_X5_parse) (x1 x2 x3 : Int) (M : Mem) (B10 : Int → Int → Mem → Prop) (k10 : ∀ (z2 z3 : Int) (N : Mem), B10 z2 z3 N → AW X 10 [(15, 1), (17, x1), (0, z2), (0, z3)] [] N) (h : wp_X5_parse_91 (vX X) x1 x2 x3 M Q B10) : AW X 91 [(15, 1), (17, x1), (0, x2), (0, x3)] [] M := by
  unfold wp_X5_parse_91 at h
  refine am_aload_n (i := 1) (t := 14) (pc := 91) G dX5_parse_91 rfl rfl rfl ?_
  refine am_aload_n (i := 0) (t := 12) (pc := 92) G dX5_parse_92 rfl rfl rfl ?_
  refine gf_X5_1 (pc := 93) G dX5_parse_93 tw_f_RX5_9 ?_
  refine am_iload_n (i := 3) (pc := 96) G dX5_parse_96 rfl rfl ?_
  refine am_iald (pc := 97) G 60 dX5_parse_97 (by decide) h.1 ?_
  have h := h.2
  refine am_iconst (pc := 98) G dX5_parse_98 (by decide) ?_
  refine am_callV (rk := 4) (rmc := rm_X7_append) (st := []) (pc := 99) G 7 [(0, _), (0, _)] rfl (by decide) rfl dX5_parse_99 tw_m_RX5_42 tw_i_X7_append tw_v_X7_append tw_z_RX7 tw_c_X7_append hy_X7_append (callrm hr rfl) rfl (RunsM.mono h (fun r5 M6 h => ?_)) Z.rm
  show AW X 102 _ [] M6
  refine am_aload_n (i := 1) (t := 14) (pc := 102) G dX5_parse_102 rfl rfl rfl ?_
  refine gf_X7_0 (pc := 103) G dX5_parse_103 tw_f_RX5_30 ?_
  refine am_if_le (pc := 106) G 121 dX5_parse_106 (by decide) (fun c => ?_) (fun c => ?_)
  · have h := h.1 c
    refine am_iinc (pc := 121) G dX5_parse_121 rfl (nlx hn rfl) rfl ?_
    refine am_goto (pc := 124) (ls := [(15, _), (17, _), (0, _), (0, _)]) G 10 dX5_parse_124 (by decide) ?_
    refine am_le (ls' := [(15, _), (17, _), (0, _), (0, _)]) ⟨Or.inr rfl, ⟨Or.inr rfl, ⟨Or.inr rfl, ⟨Or.inr rfl, trivial⟩⟩⟩⟩ ?_
    exact k10 _ _ _ h
  · have h := h.2 c
    refine am_aload_n (i := 1) (t := 14) (pc := 109) G dX5_parse_109 rfl rfl rfl ?_
    refine gf_X7_4 (pc := 110) G dX5_parse_110 tw_f_RX5_36 ?_
    refine am_aload_n (i := 1) (t := 14) (pc := 113) G dX5_parse_113 rfl rfl rfl ?_
    refine gf_X7_0 (pc := 114) G dX5_parse_114 tw_f_RX5_30 ?_
    refine am_iconst (pc := 117) G dX5_parse_117 (by decide) ?_
    refine am_isub (pc := 118) G dX5_parse_118 ?_
    refine am_iload_n (i := 2) (pc := 119) G dX5_parse_119 rfl rfl ?_
    refine am_iast (pc := 120) G 16 dX5_parse_120 (by decide) h.1 ?_
    have h := h.2
    refine am_iinc (pc := 121) G dX5_parse_121 rfl (nlx hn rfl) rfl ?_
    refine am_goto (pc := 124) (ls := [(15, _), (17, _), (0, _), (0, _)]) G 10 dX5_parse_124 (by decide) ?_
    refine am_le (ls' := [(15, _), (17, _), (0, _), (0, _)]) ⟨Or.inr rfl, ⟨Or.inr rfl, ⟨Or.inr rfl, ⟨Or.inr rfl, trivial⟩⟩⟩⟩ ?_
    exact k10 _ _ _ h
def wp_X5_parse_69 (V : VV) (x1 x3 s0 : Int) (M : Mem) (Q : Int → Mem → Prop) (B10 : Int → Int → Mem → Prop) : Prop :=
  B10 s0 (w32 (x3 + 1)) M
theorem swp_X5_parse_69 {X : XX} {Q : Int → Mem → Prop} (G : GX X cX5_parse "TreeHands$Pad") (Z : RX X 4 Q) (hn : nLX X = 4) (hr : roomX X = rm_X5_parse) (x1 x3 s0 : Int) (M : Mem) (B10 : Int → Int → Mem → Prop) (k10 : ∀ (z2 z3 : Int) (N : Mem), B10 z2 z3 N → AW X 10 [(15, 1), (17, x1), (0, z2), (0, z3)] [] N) (h : wp_X5_parse_69 (vX X) x1 x3 s0 M Q B10) : AW X 69 [(15, 1), (17, x1), (99, 0), (0, x3)] [(0, s0)] M := by
  unfold wp_X5_parse_69 at h
  refine am_istore_n (pc := 69) G dX5_parse_69 rfl (nlx hn rfl) rfl ?_
  refine am_goto (pc := 70) (ls := [(15, _), (17, _), (0, _), (0, _)]) G 121 dX5_parse_70 (by decide) ?_
  refine am_iinc (pc := 121) G dX5_parse_121 rfl (nlx hn rfl) rfl ?_
  refine am_goto (pc := 124) (ls := [(15, _), (17, _), (0, _), (0, _)]) G 10 dX5_parse_124 (by decide) ?_
  refine am_le (ls' := [(15, _), (17, _), (0, _), (0, _)]) ⟨Or.inr rfl, ⟨Or.inr rfl, ⟨Or.inr rfl, ⟨Or.inr rfl, trivial⟩⟩⟩⟩ ?_
  exact k10 _ _ _ h
def wp_X5_parse_10_b (V : VV) (x1 x2 x3 : Int) (M : Mem) (Q : Int → Mem → Prop) (B10 : Int → Int → Mem → Prop) : Prop :=
  (M 1 0 ≤ x3 →
    R_X7_settle V x1 M (fun _ M2 =>
    Q 0 M2)) ∧ (¬ (M 1 0 ≤ x3) →
    ((0 : Int) ≤ x3 ∧ x3 < (60 : Int)) ∧
    (M 2 x3 = 40 →
      ∀ v9 : Int, v9 = w32 (M x1 0 - 1) →
      B10 v9 (w32 (x3 + 1)) M) ∧ (¬ (M 2 x3 = 40) →
      ((0 : Int) ≤ x3 ∧ x3 < (60 : Int)) ∧
      (M 2 x3 = 41 →
        R_X7_has V x1 x2 M (fun r7 M8 =>
        (r7 = 0 →
          wp_X5_parse_69 V x1 x3 (-6) M8 Q B10) ∧ (¬ (r7 = 0) →
          ((0 : Int) ≤ x2 ∧ x2 < (16 : Int)) ∧
          wp_X5_parse_69 V x1 x3 (M8 (x1 + 4) x2) M8 Q B10))) ∧ (¬ (M 2 x3 = 41) →
        R_X7_has V x1 x2 M (fun r3 M4 =>
        (r3 = 0 →
          wp_X5_parse_91 V x1 x2 x3 M4 Q B10) ∧ (¬ (r3 = 0) →
          ((0 : Int) ≤ x2 ∧ x2 < (16 : Int)) ∧
          ((0 : Int) ≤ x2 ∧ x2 < (16 : Int)) ∧
          wp_X5_parse_91 V x1 x2 x3 (mset M4 (x1 + 2) x2 (w32 (M4 (x1 + 2) x2 + 1))) Q B10)))))
theorem swp_X5_parse_10_b {X : XX} {Q : Int → Mem → Prop} (G : GX X cX5_parse "TreeHands$Pad") (Z : RX X 4 Q) (hn : nLX X = 4) (hr : roomX X = rm_X5_parse) (x1 x2 x3 : Int) (M : Mem) (B10 : Int → Int → Mem → Prop) (k10 : ∀ (z2 z3 : Int) (N : Mem), B10 z2 z3 N → AW X 10 [(15, 1), (17, x1), (0, z2), (0, z3)] [] N) (h : wp_X5_parse_10_b (vX X) x1 x2 x3 M Q B10) : AW X 10 [(15, 1), (17, x1), (0, x2), (0, x3)] [] M := by
  unfold wp_X5_parse_10_b at h
  refine am_iload_n (i := 3) (pc := 10) G dX5_parse_10 rfl rfl ?_
  refine am_aload_n (i := 0) (t := 12) (pc := 11) G dX5_parse_11 rfl rfl rfl ?_
  refine gf_X5_0 (pc := 12) G dX5_parse_12 tw_f_RX5_15 ?_
  refine am_icmp_ge (pc := 15) G 127 dX5_parse_15 (by decide) (fun c => ?_) (fun c => ?_)
  · have h := h.1 c
    refine am_aload_n (i := 1) (t := 14) (pc := 127) G dX5_parse_127 rfl rfl rfl ?_
    refine am_callV (rk := 4) (rmc := rm_X7_settle) (st := []) (pc := 128) G 7 [] rfl (by decide) rfl dX5_parse_128 tw_m_RX5_46 tw_i_X7_settle tw_v_X7_settle tw_z_RX7 tw_c_X7_settle hy_X7_settle (callrm hr rfl) rfl (RunsM.mono h (fun r1 M2 h => ?_)) Z.rm
    show AW X 131 _ [] M2
    exact am_vret (pc := 131) G Z dX5_parse_131 h
  · have h := h.2 c
    refine am_aload_n (i := 0) (t := 12) (pc := 18) G dX5_parse_18 rfl rfl rfl ?_
    refine gf_X5_1 (pc := 19) G dX5_parse_19 tw_f_RX5_9 ?_
    refine am_iload_n (i := 3) (pc := 22) G dX5_parse_22 rfl rfl ?_
    refine am_iald (pc := 23) G 60 dX5_parse_23 (by decide) h.1 ?_
    have h := h.2
    refine am_bipush (pc := 24) G dX5_parse_24 (by decide) (by decide) ?_
    refine am_icmp_ne (pc := 26) G 39 dX5_parse_26 (by decide) (fun c => ?_) (fun c => ?_)
    · have h := h.2 c
      refine am_aload_n (i := 0) (t := 12) (pc := 39) G dX5_parse_39 rfl rfl rfl ?_
      refine gf_X5_1 (pc := 40) G dX5_parse_40 tw_f_RX5_9 ?_
      refine am_iload_n (i := 3) (pc := 43) G dX5_parse_43 rfl rfl ?_
      refine am_iald (pc := 44) G 60 dX5_parse_44 (by decide) h.1 ?_
      have h := h.2
      refine am_bipush (pc := 45) G dX5_parse_45 (by decide) (by decide) ?_
      refine am_icmp_ne (pc := 47) G 73 dX5_parse_47 (by decide) (fun c => ?_) (fun c => ?_)
      · have h := h.2 c
        refine am_aload_n (i := 1) (t := 14) (pc := 73) G dX5_parse_73 rfl rfl rfl ?_
        refine am_iload_n (i := 2) (pc := 74) G dX5_parse_74 rfl rfl ?_
        refine am_callV (rk := 1) (rmc := rm_X7_has) (st := []) (pc := 75) G 7 [(0, _)] rfl (by decide) rfl dX5_parse_75 tw_m_RX5_33 tw_i_X7_has tw_v_X7_has tw_z_RX7 tw_c_X7_has hy_X7_has (callrm hr rfl) rfl (RunsM.mono h (fun r3 M4 h => ?_)) Z.rm
        show AW X 78 _ [(0, _)] M4
        refine am_if_eq (pc := 78) G 91 dX5_parse_78 (by decide) (fun c => ?_) (fun c => ?_)
        · have h := h.1 c
          refine am_le (ls' := [(15, _), (17, _), (0, _), (0, _)]) ⟨Or.inr rfl, ⟨Or.inr rfl, ⟨Or.inr rfl, ⟨Or.inr rfl, trivial⟩⟩⟩⟩ ?_
          exact swp_X5_parse_91 G Z hn hr _ _ _ _ B10 k10 h
        · have h := h.2 c
          refine am_aload_n (i := 1) (t := 14) (pc := 81) G dX5_parse_81 rfl rfl rfl ?_
          refine gf_X7_2 (pc := 82) G dX5_parse_82 tw_f_RX5_39 ?_
          refine am_iload_n (i := 2) (pc := 85) G dX5_parse_85 rfl rfl ?_
          refine am_dup2 (pc := 86) G dX5_parse_86 (Nat.ne_of_beq_eq_false rfl) (Nat.ne_of_beq_eq_false rfl) ?_
          refine am_iald (pc := 87) G 16 dX5_parse_87 (by decide) h.1 ?_
          have h := h.2
          refine am_iconst (pc := 88) G dX5_parse_88 (by decide) ?_
          refine am_iadd (pc := 89) G dX5_parse_89 ?_
          refine am_iast (pc := 90) G 16 dX5_parse_90 (by decide) h.1 ?_
          have h := h.2
          refine am_le (ls' := [(15, _), (17, _), (0, _), (0, _)]) ⟨Or.inr rfl, ⟨Or.inr rfl, ⟨Or.inr rfl, ⟨Or.inr rfl, trivial⟩⟩⟩⟩ ?_
          exact swp_X5_parse_91 G Z hn hr _ _ _ _ B10 k10 h
      · have h := h.1 c
        refine am_aload_n (i := 1) (t := 14) (pc := 50) G dX5_parse_50 rfl rfl rfl ?_
        refine am_iload_n (i := 2) (pc := 51) G dX5_parse_51 rfl rfl ?_
        refine am_callV (rk := 1) (rmc := rm_X7_has) (st := []) (pc := 52) G 7 [(0, _)] rfl (by decide) rfl dX5_parse_52 tw_m_RX5_33 tw_i_X7_has tw_v_X7_has tw_z_RX7 tw_c_X7_has hy_X7_has (callrm hr rfl) rfl (RunsM.mono h (fun r7 M8 h => ?_)) Z.rm
        show AW X 55 _ [(0, _)] M8
        refine am_if_eq (pc := 55) G 67 dX5_parse_55 (by decide) (fun c => ?_) (fun c => ?_)
        · have h := h.1 c
          refine am_bipush (pc := 67) G dX5_parse_67 (by decide) (by decide) ?_
          refine am_le (ls' := [(15, _), (17, _), (99, 0), (0, _)]) ⟨Or.inr rfl, ⟨Or.inr rfl, ⟨Or.inl rfl, ⟨Or.inr rfl, trivial⟩⟩⟩⟩ ?_
          exact swp_X5_parse_69 G Z hn hr _ _ _ _ B10 k10 h
        · have h := h.2 c
          refine am_aload_n (i := 1) (t := 14) (pc := 58) G dX5_parse_58 rfl rfl rfl ?_
          refine gf_X7_4 (pc := 59) G dX5_parse_59 tw_f_RX5_36 ?_
          refine am_iload_n (i := 2) (pc := 62) G dX5_parse_62 rfl rfl ?_
          refine am_iald (pc := 63) G 16 dX5_parse_63 (by decide) h.1 ?_
          have h := h.2
          refine am_goto (pc := 64) G 69 dX5_parse_64 (by decide) ?_
          refine am_le (ls' := [(15, _), (17, _), (99, 0), (0, _)]) ⟨Or.inr rfl, ⟨Or.inr rfl, ⟨Or.inl rfl, ⟨Or.inr rfl, trivial⟩⟩⟩⟩ ?_
          exact swp_X5_parse_69 G Z hn hr _ _ _ _ B10 k10 h
    · have h := h.1 c
      refine am_aload_n (i := 1) (t := 14) (pc := 29) G dX5_parse_29 rfl rfl rfl ?_
      refine gf_X7_0 (pc := 30) G dX5_parse_30 tw_f_RX5_30 ?_
      refine am_iconst (pc := 33) G dX5_parse_33 (by decide) ?_
      refine am_isub (pc := 34) G dX5_parse_34 ?_
      have h := h _ rfl
      refine am_istore_n (pc := 35) G dX5_parse_35 rfl (nlx hn rfl) rfl ?_
      refine am_goto (pc := 36) (ls := [(15, _), (17, _), (0, _), (0, _)]) G 121 dX5_parse_36 (by decide) ?_
      refine am_iinc (pc := 121) G dX5_parse_121 rfl (nlx hn rfl) rfl ?_
      refine am_goto (pc := 124) (ls := [(15, _), (17, _), (0, _), (0, _)]) G 10 dX5_parse_124 (by decide) ?_
      refine am_le (ls' := [(15, _), (17, _), (0, _), (0, _)]) ⟨Or.inr rfl, ⟨Or.inr rfl, ⟨Or.inr rfl, ⟨Or.inr rfl, trivial⟩⟩⟩⟩ ?_
      exact k10 _ _ _ h
def wp_X5_parse_10 (V : VV) (x1 x2 x3 : Int) (M : Mem) (Q : Int → Mem → Prop) : Prop :=
  ∃ (I : Int → Int → Mem → Prop) (μ : Int → Int → Mem → Nat), I x2 x3 M ∧ ∀ (y2 y3 : Int) (N : Mem), I y2 y3 N → wp_X5_parse_10_b V x1 y2 y3 N Q (fun z2 z3 N1 => I z2 z3 N1 ∧ μ z2 z3 N1 < μ y2 y3 N)
theorem swp_X5_parse_10 {X : XX} {Q : Int → Mem → Prop} (G : GX X cX5_parse "TreeHands$Pad") (Z : RX X 4 Q) (hn : nLX X = 4) (hr : roomX X = rm_X5_parse) (x1 x2 x3 : Int) (M : Mem) (h : wp_X5_parse_10 (vX X) x1 x2 x3 M Q) : AW X 10 [(15, 1), (17, x1), (0, x2), (0, x3)] [] M := by
  unfold wp_X5_parse_10 at h
  obtain ⟨I, μ, hI, hs⟩ := h
  have key : ∀ (n : Nat) (y2 y3 : Int) (N : Mem), μ y2 y3 N < n → I y2 y3 N → AW X 10 [(15, 1), (17, x1), (0, y2), (0, y3)] [] N := by
    intro n
    induction n with
    | zero => intro y2 y3 N hlt; exact absurd hlt (Nat.not_lt_zero _)
    | succ n ih =>
      intro y2 y3 N hlt hI
      exact swp_X5_parse_10_b G Z hn hr x1 y2 y3 N (fun z2 z3 N1 => I z2 z3 N1 ∧ μ z2 z3 N1 < μ y2 y3 N) (fun z2 z3 N1 hz => ih z2 z3 N1 (by omega) hz.1) (hs y2 y3 N hI)
  exact key _ x2 x3 M (Nat.lt_succ_self _) hI
def wp_X5_parse (V : VV) (x1 : Int) (M : Mem) (Q : Int → Mem → Prop) : Prop :=
  wp_X5_parse_10 V x1 (-6) 0 (mset M x1 0 0) Q
theorem of_X5_parse {V : VV} {x1 : Int} {M : Mem} {Q : Int → Mem → Prop} (h : wp_X5_parse V x1 M Q) : R_X5_parse V x1 M Q := by
  refine met_in (own := "TreeHands$Pad") (by decide +kernel) rfl rfl (Nat.le_of_ble_eq_true rfl) ?_
  intro X G Z hn hr hv
  subst hv
  unfold wp_X5_parse at h
  show AW X 0 [(15, 1), (17, x1), (99, 0), (99, 0)] [] M
  refine am_aload_n (i := 1) (t := 14) (pc := 0) G dX5_parse_0 rfl rfl rfl ?_
  refine am_iconst (pc := 1) G dX5_parse_1 (by decide) ?_
  refine pf_X7_0 (pc := 2) G dX5_parse_2 tw_f_RX5_30 ?_
  refine am_bipush (pc := 5) G dX5_parse_5 (by decide) (by decide) ?_
  refine am_istore_n (pc := 7) G dX5_parse_7 rfl (nlx hn rfl) rfl ?_
  refine am_iconst (pc := 8) (ls := [(15, _), (17, _), (0, _), (99, _)]) G dX5_parse_8 (by decide) ?_
  refine am_istore_n (pc := 9) G dX5_parse_9 rfl (nlx hn rfl) rfl ?_
  refine am_le (ls' := [(15, _), (17, _), (0, _), (0, _)]) ⟨Or.inr rfl, ⟨Or.inr rfl, ⟨Or.inr rfl, ⟨Or.inr rfl, trivial⟩⟩⟩⟩ ?_
  exact swp_X5_parse_10 G Z hn hr _ _ _ _ h
-- X6_append TreeHands$Rules.append(LTreeHands$Tree;LTreeHands$Tree;)I
def rm_X6_append : Room := { frames := 1, cells := 0, slots := 0, locals := 22 }
theorem hy_X6_append : yX6_append.cls ≠ "java/lang/invoke/MethodHandle" ∧ yX6_append.cls ≠ "java/lang/invoke/VarHandle" ∧ (parseMethodDescriptor yX6_append.desc).map (fun d => d.parameters.length) = some 2 := by decide +kernel
abbrev R_X6_append (V : VV) (x1 x2 : Int) (M : Mem) (Q : Int → Mem → Prop) : Prop := RunsM V yX6_append (.code yX6_append cX6_append 3 (Option.some Jvm.ClassFile.FieldType.int)) rm_X6_append 0 [(16, 28), (17, x1), (17, x2)] M Q
def wp_X6_append (V : VV) (x1 x2 : Int) (M : Mem) (Q : Int → Mem → Prop) : Prop :=
  (M 28 0 < 6 →
    ((0 : Int) ≤ M 28 0 ∧ M 28 0 < (6 : Int)) ∧
    R_X7_copyAll V (39 + 14 * (M 28 0)) x1 M (fun _ M2 =>
    ((0 : Int) ≤ M2 28 0 ∧ M2 28 0 < (6 : Int)) ∧
    R_X7_copyAll V (46 + 14 * (M2 28 0)) x2 M2 (fun _ M4 =>
    ∀ M5 : Mem, M5 = mset M4 28 0 (w32 (M4 28 0 + 1)) →
    Q (w32 (M5 28 0 - 1)) M5))) ∧ (¬ (M 28 0 < 6) →
    Q (-4) M)
theorem of_X6_append {V : VV} {x1 x2 : Int} {M : Mem} {Q : Int → Mem → Prop} (h : wp_X6_append V x1 x2 M Q) : R_X6_append V x1 x2 M Q := by
  refine met_in (own := "TreeHands$Rules") (by decide +kernel) rfl rfl (Nat.le_of_ble_eq_true rfl) ?_
  intro X G Z hn hr hv
  subst hv
  unfold wp_X6_append at h
  show AW X 0 [(16, 28), (17, x1), (17, x2)] [] M
  refine am_aload_n (i := 0) (t := 13) (pc := 0) G dX6_append_0 rfl rfl rfl ?_
  refine gf_X6_0 (pc := 1) G dX6_append_1 tw_f_RX6_29 ?_
  refine am_bipush (pc := 4) G dX6_append_4 (by decide) (by decide) ?_
  refine am_icmp_lt (pc := 6) G 12 dX6_append_6 (by decide) (fun c => ?_) (fun c => ?_)
  · have h := h.1 c
    refine am_aload_n (i := 0) (t := 13) (pc := 12) G dX6_append_12 rfl rfl rfl ?_
    refine gf_X6_1 (pc := 13) G dX6_append_13 tw_f_RX6_11 ?_
    refine am_aload_n (i := 0) (t := 13) (pc := 16) G dX6_append_16 rfl rfl rfl ?_
    refine gf_X6_0 (pc := 17) G dX6_append_17 tw_f_RX6_29 ?_
    refine am_aald (pc := 20) G 20002 dX6_append_20 (by decide) h.1 ?_
    have h := h.2
    refine am_aload_n (i := 1) (t := 14) (pc := 21) G dX6_append_21 rfl rfl rfl ?_
    refine am_callV (rk := 4) (rmc := rm_X7_copyAll) (st := []) (pc := 22) G 7 [(17, _)] rfl (by decide) rfl dX6_append_22 tw_m_RX6_33 tw_i_X7_copyAll tw_v_X7_copyAll tw_z_RX7 tw_c_X7_copyAll hy_X7_copyAll (callrm hr rfl) rfl (RunsM.mono h (fun r1 M2 h => ?_)) Z.rm
    show AW X 25 _ [] M2
    refine am_aload_n (i := 0) (t := 13) (pc := 25) G dX6_append_25 rfl rfl rfl ?_
    refine gf_X6_2 (pc := 26) G dX6_append_26 tw_f_RX6_17 ?_
    refine am_aload_n (i := 0) (t := 13) (pc := 29) G dX6_append_29 rfl rfl rfl ?_
    refine gf_X6_0 (pc := 30) G dX6_append_30 tw_f_RX6_29 ?_
    refine am_aald (pc := 33) G 20003 dX6_append_33 (by decide) h.1 ?_
    have h := h.2
    refine am_aload_n (i := 2) (t := 14) (pc := 34) G dX6_append_34 rfl rfl rfl ?_
    refine am_callV (rk := 4) (rmc := rm_X7_copyAll) (st := []) (pc := 35) G 7 [(17, _)] rfl (by decide) rfl dX6_append_35 tw_m_RX6_33 tw_i_X7_copyAll tw_v_X7_copyAll tw_z_RX7 tw_c_X7_copyAll hy_X7_copyAll (callrm hr rfl) rfl (RunsM.mono h (fun r3 M4 h => ?_)) Z.rm
    show AW X 38 _ [] M4
    refine am_aload_n (i := 0) (t := 13) (pc := 38) G dX6_append_38 rfl rfl rfl ?_
    refine am_dup (pc := 39) G dX6_append_39 (Nat.ne_of_beq_eq_false rfl) ?_
    refine gf_X6_0 (pc := 40) G dX6_append_40 tw_f_RX6_29 ?_
    refine am_iconst (pc := 43) G dX6_append_43 (by decide) ?_
    refine am_iadd (pc := 44) G dX6_append_44 ?_
    refine pf_X6_0 (pc := 45) G dX6_append_45 tw_f_RX6_29 ?_
    refine am_aload_n (i := 0) (t := 13) (pc := 48) G dX6_append_48 rfl rfl rfl ?_
    have h := h _ rfl
    refine gf_X6_0 (pc := 49) G dX6_append_49 tw_f_RX6_29 ?_
    refine am_iconst (pc := 52) G dX6_append_52 (by decide) ?_
    refine am_isub (pc := 53) G dX6_append_53 ?_
    exact am_iret (pc := 54) G Z dX6_append_54 h
  · have h := h.2 c
    refine am_bipush (pc := 9) G dX6_append_9 (by decide) (by decide) ?_
    exact am_iret (pc := 11) G Z dX6_append_11 h
-- X7_copyPart TreeHands$Tree.copyPart(LTreeHands$Tree;I)V
def rm_X7_copyPart : Room := { frames := 2, cells := 0, slots := 0, locals := 45 }
theorem hy_X7_copyPart : yX7_copyPart.cls ≠ "java/lang/invoke/MethodHandle" ∧ yX7_copyPart.cls ≠ "java/lang/invoke/VarHandle" ∧ (parseMethodDescriptor yX7_copyPart.desc).map (fun d => d.parameters.length) = some 2 := by decide +kernel
abbrev R_X7_copyPart (V : VV) (x0 x1 x2 : Int) (M : Mem) (Q : Int → Mem → Prop) : Prop := RunsM V yX7_copyPart (.code yX7_copyPart cX7_copyPart 3 (Option.none : Option Jvm.ClassFile.FieldType)) rm_X7_copyPart 4 [(17, x0), (17, x1), (0, x2)] M Q
def wp_X7_copyPart (V : VV) (x0 x1 x2 : Int) (M : Mem) (Q : Int → Mem → Prop) : Prop :=
  ∀ M1 : Mem, M1 = mset M x0 0 0 →
  R_X7_appendPart V x0 x1 x2 M1 (fun _ M3 =>
  R_X7_settle V x0 M3 (fun _ M5 =>
  Q 0 M5))
theorem of_X7_copyPart {V : VV} {x0 x1 x2 : Int} {M : Mem} {Q : Int → Mem → Prop} (h : wp_X7_copyPart V x0 x1 x2 M Q) : R_X7_copyPart V x0 x1 x2 M Q := by
  refine met_in (own := "TreeHands$Tree") (by decide +kernel) rfl rfl (Nat.le_of_ble_eq_true rfl) ?_
  intro X G Z hn hr hv
  subst hv
  unfold wp_X7_copyPart at h
  show AW X 0 [(17, x0), (17, x1), (0, x2)] [] M
  refine am_aload_n (i := 0) (t := 14) (pc := 0) G dX7_copyPart_0 rfl rfl rfl ?_
  refine am_iconst (pc := 1) G dX7_copyPart_1 (by decide) ?_
  refine pf_X7_0 (pc := 2) G dX7_copyPart_2 tw_f_RX7_30 ?_
  refine am_aload_n (i := 0) (t := 14) (pc := 5) G dX7_copyPart_5 rfl rfl rfl ?_
  refine am_aload_n (i := 1) (t := 14) (pc := 6) G dX7_copyPart_6 rfl rfl rfl ?_
  refine am_iload_n (i := 2) (pc := 7) G dX7_copyPart_7 rfl rfl ?_
  have h := h _ rfl
  refine am_callV (rk := 4) (rmc := rm_X7_appendPart) (st := []) (pc := 8) G 7 [(17, _), (0, _)] rfl (by decide) rfl dX7_copyPart_8 tw_m_RX7_42 tw_i_X7_appendPart tw_v_X7_appendPart tw_z_RX7 tw_c_X7_appendPart hy_X7_appendPart (callrm hr rfl) rfl (RunsM.mono h (fun r2 M3 h => ?_)) Z.rm
  show AW X 11 _ [] M3
  refine am_aload_n (i := 0) (t := 14) (pc := 11) G dX7_copyPart_11 rfl rfl rfl ?_
  refine am_callV (rk := 4) (rmc := rm_X7_settle) (st := []) (pc := 12) G 7 [] rfl (by decide) rfl dX7_copyPart_12 tw_m_RX7_46 tw_i_X7_settle tw_v_X7_settle tw_z_RX7 tw_c_X7_settle hy_X7_settle (callrm hr rfl) rfl (RunsM.mono h (fun r4 M5 h => ?_)) Z.rm
  show AW X 15 _ [] M5
  exact am_vret (pc := 15) G Z dX7_copyPart_15 h
-- X7_holeBits TreeHands$Tree.holeBits()I
def rm_X7_holeBits : Room := { frames := 1, cells := 0, slots := 0, locals := 20 }
theorem hy_X7_holeBits : yX7_holeBits.cls ≠ "java/lang/invoke/MethodHandle" ∧ yX7_holeBits.cls ≠ "java/lang/invoke/VarHandle" ∧ (parseMethodDescriptor yX7_holeBits.desc).map (fun d => d.parameters.length) = some 0 := by decide +kernel
abbrev R_X7_holeBits (V : VV) (x0 : Int) (M : Mem) (Q : Int → Mem → Prop) : Prop := RunsM V yX7_holeBits (.code yX7_holeBits cX7_holeBits 3 (Option.some Jvm.ClassFile.FieldType.int)) rm_X7_holeBits 0 [(17, x0)] M Q
def wp_X7_holeBits_4_b (V : VV) (x0 x1 x2 : Int) (M : Mem) (Q : Int → Mem → Prop) (B4 : Int → Int → Mem → Prop) : Prop :=
  (M x0 0 ≤ x2 →
    Q x1 M) ∧ (¬ (M x0 0 ≤ x2) →
    ((0 : Int) ≤ x2 ∧ x2 < (16 : Int)) ∧
    R_X9_isHole V (M (x0 + 1) x2) M (fun r1 M2 =>
    (r1 = 0 →
      B4 x1 (w32 (x2 + 1)) M2) ∧ (¬ (r1 = 0) →
      ((0 : Int) ≤ x2 ∧ x2 < (16 : Int)) ∧
      ∀ v3 : Int, v3 = or32 x1 (shl32 1 (w32 (M2 (x0 + 1) x2 - 65))) →
      B4 v3 (w32 (x2 + 1)) M2)))
theorem swp_X7_holeBits_4_b {X : XX} {Q : Int → Mem → Prop} (G : GX X cX7_holeBits "TreeHands$Tree") (Z : RX X 0 Q) (hn : nLX X = 3) (hr : roomX X = rm_X7_holeBits) (x0 x1 x2 : Int) (M : Mem) (B4 : Int → Int → Mem → Prop) (k4 : ∀ (z1 z2 : Int) (N : Mem), B4 z1 z2 N → AW X 4 [(17, x0), (0, z1), (0, z2)] [] N) (h : wp_X7_holeBits_4_b (vX X) x0 x1 x2 M Q B4) : AW X 4 [(17, x0), (0, x1), (0, x2)] [] M := by
  unfold wp_X7_holeBits_4_b at h
  refine am_iload_n (i := 2) (pc := 4) G dX7_holeBits_4 rfl rfl ?_
  refine am_aload_n (i := 0) (t := 14) (pc := 5) G dX7_holeBits_5 rfl rfl rfl ?_
  refine gf_X7_0 (pc := 6) G dX7_holeBits_6 tw_f_RX7_30 ?_
  refine am_icmp_ge (pc := 9) G 44 dX7_holeBits_9 (by decide) (fun c => ?_) (fun c => ?_)
  · have h := h.1 c
    refine am_iload_n (i := 1) (pc := 44) G dX7_holeBits_44 rfl rfl ?_
    exact am_iret (pc := 45) G Z dX7_holeBits_45 h
  · have h := h.2 c
    refine am_aload_n (i := 0) (t := 14) (pc := 12) G dX7_holeBits_12 rfl rfl rfl ?_
    refine gf_X7_1 (pc := 13) G dX7_holeBits_13 tw_f_RX7_9 ?_
    refine am_iload_n (i := 2) (pc := 16) G dX7_holeBits_16 rfl rfl ?_
    refine am_iald (pc := 17) G 16 dX7_holeBits_17 (by decide) h.1 ?_
    have h := h.2
    refine am_callSN (rk := 1) (rmc := rm_X9_isHole) (st := []) (pc := 18) G [(0, _)] dX7_holeBits_18 tw_n_RX7_49 tw_s_X9_isHole tw_z_RX9 tw_c_X9_isHole hy_X9_isHole (callrm hr rfl) rfl (RunsM.mono h (fun r1 M2 h => ?_)) Z.rm
    show AW X 21 _ [(0, _)] M2
    refine am_if_eq (pc := 21) G 38 dX7_holeBits_21 (by decide) (fun c => ?_) (fun c => ?_)
    · have h := h.1 c
      refine am_iinc (pc := 38) G dX7_holeBits_38 rfl (nlx hn rfl) rfl ?_
      refine am_goto (pc := 41) (ls := [(17, _), (0, _), (0, _)]) G 4 dX7_holeBits_41 (by decide) ?_
      refine am_le (ls' := [(17, _), (0, _), (0, _)]) ⟨Or.inr rfl, ⟨Or.inr rfl, ⟨Or.inr rfl, trivial⟩⟩⟩ ?_
      exact k4 _ _ _ h
    · have h := h.2 c
      refine am_iload_n (i := 1) (pc := 24) G dX7_holeBits_24 rfl rfl ?_
      refine am_iconst (pc := 25) G dX7_holeBits_25 (by decide) ?_
      refine am_aload_n (i := 0) (t := 14) (pc := 26) G dX7_holeBits_26 rfl rfl rfl ?_
      refine gf_X7_1 (pc := 27) G dX7_holeBits_27 tw_f_RX7_9 ?_
      refine am_iload_n (i := 2) (pc := 30) G dX7_holeBits_30 rfl rfl ?_
      refine am_iald (pc := 31) G 16 dX7_holeBits_31 (by decide) h.1 ?_
      have h := h.2
      refine am_bipush (pc := 32) G dX7_holeBits_32 (by decide) (by decide) ?_
      refine am_isub (pc := 34) G dX7_holeBits_34 ?_
      refine am_ishl (pc := 35) G dX7_holeBits_35 ?_
      refine am_ior (pc := 36) G dX7_holeBits_36 ?_
      have h := h _ rfl
      refine am_istore_n (pc := 37) G dX7_holeBits_37 rfl (nlx hn rfl) rfl ?_
      refine am_iinc (pc := 38) (ls := [(17, _), (0, _), (0, _)]) G dX7_holeBits_38 rfl (nlx hn rfl) rfl ?_
      refine am_goto (pc := 41) (ls := [(17, _), (0, _), (0, _)]) G 4 dX7_holeBits_41 (by decide) ?_
      refine am_le (ls' := [(17, _), (0, _), (0, _)]) ⟨Or.inr rfl, ⟨Or.inr rfl, ⟨Or.inr rfl, trivial⟩⟩⟩ ?_
      exact k4 _ _ _ h
def wp_X7_holeBits_4 (V : VV) (x0 x1 x2 : Int) (M : Mem) (Q : Int → Mem → Prop) : Prop :=
  ∃ (I : Int → Int → Mem → Prop) (μ : Int → Int → Mem → Nat), I x1 x2 M ∧ ∀ (y1 y2 : Int) (N : Mem), I y1 y2 N → wp_X7_holeBits_4_b V x0 y1 y2 N Q (fun z1 z2 N1 => I z1 z2 N1 ∧ μ z1 z2 N1 < μ y1 y2 N)
theorem swp_X7_holeBits_4 {X : XX} {Q : Int → Mem → Prop} (G : GX X cX7_holeBits "TreeHands$Tree") (Z : RX X 0 Q) (hn : nLX X = 3) (hr : roomX X = rm_X7_holeBits) (x0 x1 x2 : Int) (M : Mem) (h : wp_X7_holeBits_4 (vX X) x0 x1 x2 M Q) : AW X 4 [(17, x0), (0, x1), (0, x2)] [] M := by
  unfold wp_X7_holeBits_4 at h
  obtain ⟨I, μ, hI, hs⟩ := h
  have key : ∀ (n : Nat) (y1 y2 : Int) (N : Mem), μ y1 y2 N < n → I y1 y2 N → AW X 4 [(17, x0), (0, y1), (0, y2)] [] N := by
    intro n
    induction n with
    | zero => intro y1 y2 N hlt; exact absurd hlt (Nat.not_lt_zero _)
    | succ n ih =>
      intro y1 y2 N hlt hI
      exact swp_X7_holeBits_4_b G Z hn hr x0 y1 y2 N (fun z1 z2 N1 => I z1 z2 N1 ∧ μ z1 z2 N1 < μ y1 y2 N) (fun z1 z2 N1 hz => ih z1 z2 N1 (by omega) hz.1) (hs y1 y2 N hI)
  exact key _ x1 x2 M (Nat.lt_succ_self _) hI
def wp_X7_holeBits (V : VV) (x0 : Int) (M : Mem) (Q : Int → Mem → Prop) : Prop :=
  wp_X7_holeBits_4 V x0 0 0 M Q
theorem of_X7_holeBits {V : VV} {x0 : Int} {M : Mem} {Q : Int → Mem → Prop} (h : wp_X7_holeBits V x0 M Q) : R_X7_holeBits V x0 M Q := by
  refine met_in (own := "TreeHands$Tree") (by decide +kernel) rfl rfl (Nat.le_of_ble_eq_true rfl) ?_
  intro X G Z hn hr hv
  subst hv
  unfold wp_X7_holeBits at h
  show AW X 0 [(17, x0), (99, 0), (99, 0)] [] M
  refine am_iconst (pc := 0) G dX7_holeBits_0 (by decide) ?_
  refine am_istore_n (pc := 1) G dX7_holeBits_1 rfl (nlx hn rfl) rfl ?_
  refine am_iconst (pc := 2) (ls := [(17, _), (0, _), (99, _)]) G dX7_holeBits_2 (by decide) ?_
  refine am_istore_n (pc := 3) G dX7_holeBits_3 rfl (nlx hn rfl) rfl ?_
  refine am_le (ls' := [(17, _), (0, _), (0, _)]) ⟨Or.inr rfl, ⟨Or.inr rfl, ⟨Or.inr rfl, trivial⟩⟩⟩ ?_
  exact swp_X7_holeBits_4 G Z hn hr _ _ _ _ h
-- J6_bitCount_0f7a4 java/lang/Integer.bitCount(I)I
def rm_J6_bitCount_0f7a4 : Room := { frames := 0, cells := 0, slots := 0, locals := 0 }
theorem hy_J6_bitCount_0f7a4 : yJ6_bitCount_0f7a4.cls ≠ "java/lang/invoke/MethodHandle" ∧ yJ6_bitCount_0f7a4.cls ≠ "java/lang/invoke/VarHandle" ∧ (parseMethodDescriptor yJ6_bitCount_0f7a4.desc).map (fun d => d.parameters.length) = some 1 := by decide +kernel
abbrev R_J6_bitCount_0f7a4 (V : VV) (x0 : Int) (M : Mem) (Q : Int → Mem → Prop) : Prop := RunsM V yJ6_bitCount_0f7a4 (.code yJ6_bitCount_0f7a4 cJ6_bitCount_0f7a4 1 (Option.some Jvm.ClassFile.FieldType.int)) rm_J6_bitCount_0f7a4 0 [(0, x0)] M Q
def wp_J6_bitCount_0f7a4 (V : VV) (x0 : Int) (M : Mem) (Q : Int → Mem → Prop) : Prop :=
  ∀ v1 : Int, v1 = w32 (x0 - and32 (ushr32 x0 1) 1431655765) →
  ∀ v2 : Int, v2 = w32 (and32 v1 858993459 + and32 (ushr32 v1 2) 858993459) →
  ∀ v3 : Int, v3 = and32 (w32 (v2 + ushr32 v2 4)) 252645135 →
  ∀ v4 : Int, v4 = w32 (v3 + ushr32 v3 8) →
  ∀ v5 : Int, v5 = w32 (v4 + ushr32 v4 16) →
  Q (and32 v5 63) M
theorem of_J6_bitCount_0f7a4 {V : VV} {x0 : Int} {M : Mem} {Q : Int → Mem → Prop} (h : wp_J6_bitCount_0f7a4 V x0 M Q) : R_J6_bitCount_0f7a4 V x0 M Q := by
  refine met_in (own := "java/lang/Integer") (by decide +kernel) rfl rfl (Nat.le_of_ble_eq_true rfl) ?_
  intro X G Z hn hr hv
  subst hv
  unfold wp_J6_bitCount_0f7a4 at h
  show AW X 0 [(0, x0)] [] M
  refine am_iload_n (i := 0) (pc := 0) G dJ6_bitCount_0f7a4_0 rfl rfl ?_
  refine am_iload_n (i := 0) (pc := 1) G dJ6_bitCount_0f7a4_1 rfl rfl ?_
  refine am_iconst (pc := 2) G dJ6_bitCount_0f7a4_2 (by decide) ?_
  refine am_iushr (pc := 3) G dJ6_bitCount_0f7a4_3 ?_
  refine am_ldcw (n := 1431655765) (pc := 4) G tw_k_RJ6_265 dJ6_bitCount_0f7a4_4 (by decide) (by decide) ?_
  refine am_iand (pc := 7) G dJ6_bitCount_0f7a4_7 ?_
  refine am_isub (pc := 8) G dJ6_bitCount_0f7a4_8 ?_
  have h := h _ rfl
  refine am_istore_n (pc := 9) G dJ6_bitCount_0f7a4_9 rfl (nlx hn rfl) rfl ?_
  refine am_iload_n (i := 0) (pc := 10) (ls := [(0, _)]) G dJ6_bitCount_0f7a4_10 rfl rfl ?_
  refine am_ldcw (n := 858993459) (pc := 11) G tw_k_RJ6_266 dJ6_bitCount_0f7a4_11 (by decide) (by decide) ?_
  refine am_iand (pc := 14) G dJ6_bitCount_0f7a4_14 ?_
  refine am_iload_n (i := 0) (pc := 15) G dJ6_bitCount_0f7a4_15 rfl rfl ?_
  refine am_iconst (pc := 16) G dJ6_bitCount_0f7a4_16 (by decide) ?_
  refine am_iushr (pc := 17) G dJ6_bitCount_0f7a4_17 ?_
  refine am_ldcw (n := 858993459) (pc := 18) G tw_k_RJ6_266 dJ6_bitCount_0f7a4_18 (by decide) (by decide) ?_
  refine am_iand (pc := 21) G dJ6_bitCount_0f7a4_21 ?_
  refine am_iadd (pc := 22) G dJ6_bitCount_0f7a4_22 ?_
  have h := h _ rfl
  refine am_istore_n (pc := 23) G dJ6_bitCount_0f7a4_23 rfl (nlx hn rfl) rfl ?_
  refine am_iload_n (i := 0) (pc := 24) (ls := [(0, _)]) G dJ6_bitCount_0f7a4_24 rfl rfl ?_
  refine am_iload_n (i := 0) (pc := 25) G dJ6_bitCount_0f7a4_25 rfl rfl ?_
  refine am_iconst (pc := 26) G dJ6_bitCount_0f7a4_26 (by decide) ?_
  refine am_iushr (pc := 27) G dJ6_bitCount_0f7a4_27 ?_
  refine am_iadd (pc := 28) G dJ6_bitCount_0f7a4_28 ?_
  refine am_ldcw (n := 252645135) (pc := 29) G tw_k_RJ6_267 dJ6_bitCount_0f7a4_29 (by decide) (by decide) ?_
  refine am_iand (pc := 32) G dJ6_bitCount_0f7a4_32 ?_
  have h := h _ rfl
  refine am_istore_n (pc := 33) G dJ6_bitCount_0f7a4_33 rfl (nlx hn rfl) rfl ?_
  refine am_iload_n (i := 0) (pc := 34) (ls := [(0, _)]) G dJ6_bitCount_0f7a4_34 rfl rfl ?_
  refine am_iload_n (i := 0) (pc := 35) G dJ6_bitCount_0f7a4_35 rfl rfl ?_
  refine am_bipush (pc := 36) G dJ6_bitCount_0f7a4_36 (by decide) (by decide) ?_
  refine am_iushr (pc := 38) G dJ6_bitCount_0f7a4_38 ?_
  refine am_iadd (pc := 39) G dJ6_bitCount_0f7a4_39 ?_
  have h := h _ rfl
  refine am_istore_n (pc := 40) G dJ6_bitCount_0f7a4_40 rfl (nlx hn rfl) rfl ?_
  refine am_iload_n (i := 0) (pc := 41) (ls := [(0, _)]) G dJ6_bitCount_0f7a4_41 rfl rfl ?_
  refine am_iload_n (i := 0) (pc := 42) G dJ6_bitCount_0f7a4_42 rfl rfl ?_
  refine am_bipush (pc := 43) G dJ6_bitCount_0f7a4_43 (by decide) (by decide) ?_
  refine am_iushr (pc := 45) G dJ6_bitCount_0f7a4_45 ?_
  refine am_iadd (pc := 46) G dJ6_bitCount_0f7a4_46 ?_
  have h := h _ rfl
  refine am_istore_n (pc := 47) G dJ6_bitCount_0f7a4_47 rfl (nlx hn rfl) rfl ?_
  refine am_iload_n (i := 0) (pc := 48) (ls := [(0, _)]) G dJ6_bitCount_0f7a4_48 rfl rfl ?_
  refine am_bipush (pc := 49) G dJ6_bitCount_0f7a4_49 (by decide) (by decide) ?_
  refine am_iand (pc := 51) G dJ6_bitCount_0f7a4_51 ?_
  exact am_iret (pc := 52) G Z dJ6_bitCount_0f7a4_52 h
-- X7_holeCount TreeHands$Tree.holeCount()I
def rm_X7_holeCount : Room := { frames := 2, cells := 0, slots := 0, locals := 42 }
theorem hy_X7_holeCount : yX7_holeCount.cls ≠ "java/lang/invoke/MethodHandle" ∧ yX7_holeCount.cls ≠ "java/lang/invoke/VarHandle" ∧ (parseMethodDescriptor yX7_holeCount.desc).map (fun d => d.parameters.length) = some 0 := by decide +kernel
abbrev R_X7_holeCount (V : VV) (x0 : Int) (M : Mem) (Q : Int → Mem → Prop) : Prop := RunsM V yX7_holeCount (.code yX7_holeCount cX7_holeCount 1 (Option.some Jvm.ClassFile.FieldType.int)) rm_X7_holeCount 0 [(17, x0)] M Q
def wp_X7_holeCount (V : VV) (x0 : Int) (M : Mem) (Q : Int → Mem → Prop) : Prop :=
  R_X7_holeBits V x0 M (fun r1 M2 =>
  R_J6_bitCount_0f7a4 V r1 M2 (fun r3 M4 =>
  Q r3 M4))
theorem of_X7_holeCount {V : VV} {x0 : Int} {M : Mem} {Q : Int → Mem → Prop} (h : wp_X7_holeCount V x0 M Q) : R_X7_holeCount V x0 M Q := by
  refine met_in (own := "TreeHands$Tree") (by decide +kernel) rfl rfl (Nat.le_of_ble_eq_true rfl) ?_
  intro X G Z hn hr hv
  subst hv
  unfold wp_X7_holeCount at h
  show AW X 0 [(17, x0)] [] M
  refine am_aload_n (i := 0) (t := 14) (pc := 0) G dX7_holeCount_0 rfl rfl rfl ?_
  refine am_callV (rk := 0) (rmc := rm_X7_holeBits) (st := []) (pc := 1) G 7 [] rfl (by decide) rfl dX7_holeCount_1 tw_m_RX7_52 tw_i_X7_holeBits tw_v_X7_holeBits tw_z_RX7 tw_c_X7_holeBits hy_X7_holeBits (callrm hr rfl) rfl (RunsM.mono h (fun r1 M2 h => ?_)) Z.rm
  show AW X 4 _ [(0, _)] M2
  refine am_callS (rk := 0) (rmc := rm_J6_bitCount_0f7a4) (st := []) (pc := 4) G [(0, _)] dX7_holeCount_4 tw_m_RX7_56 tw_s_J6_bitCount_0f7a4 tw_z_RJ6 tw_c_J6_bitCount_0f7a4 hy_J6_bitCount_0f7a4 (callrm hr rfl) rfl (RunsM.mono h (fun r3 M4 h => ?_)) Z.rm
  show AW X 7 _ [(0, _)] M4
  exact am_iret (pc := 7) G Z dX7_holeCount_7 h
-- X7_put TreeHands$Tree.put([III)I
def rm_X7_put : Room := { frames := 0, cells := 0, slots := 0, locals := 0 }
theorem hy_X7_put : yX7_put.cls ≠ "java/lang/invoke/MethodHandle" ∧ yX7_put.cls ≠ "java/lang/invoke/VarHandle" ∧ (parseMethodDescriptor yX7_put.desc).map (fun d => d.parameters.length) = some 3 := by decide +kernel
abbrev R_X7_put (V : VV) (x0 x1 x2 : Int) (M : Mem) (Q : Int → Mem → Prop) : Prop := RunsM V yX7_put (.code yX7_put cX7_put 3 (Option.some Jvm.ClassFile.FieldType.int)) rm_X7_put 0 [(160, x0), (0, x1), (0, x2)] M Q
def wp_X7_put (V : VV) (x0 x1 x2 : Int) (M : Mem) (Q : Int → Mem → Prop) : Prop :=
  (x1 < 0 →
    Q x1 M) ∧ (¬ (x1 < 0) →
    (x1 < 60 →
      ((0 : Int) ≤ x1 ∧ x1 < (60 : Int)) ∧
      Q (w32 (x1 + 1)) (mset M x0 x1 x2)) ∧ (¬ (x1 < 60) →
      Q x1 M))
theorem of_X7_put {V : VV} {x0 x1 x2 : Int} {M : Mem} {Q : Int → Mem → Prop} (h : wp_X7_put V x0 x1 x2 M Q) : R_X7_put V x0 x1 x2 M Q := by
  refine met_in (own := "TreeHands$Tree") (by decide +kernel) rfl rfl (Nat.le_of_ble_eq_true rfl) ?_
  intro X G Z hn hr hv
  subst hv
  unfold wp_X7_put at h
  show AW X 0 [(160, x0), (0, x1), (0, x2)] [] M
  refine am_iload_n (i := 1) (pc := 0) G dX7_put_0 rfl rfl ?_
  refine am_if_lt (pc := 1) G 10 dX7_put_1 (by decide) (fun c => ?_) (fun c => ?_)
  · have h := h.1 c
    refine am_iload_n (i := 1) (pc := 10) G dX7_put_10 rfl rfl ?_
    exact am_iret (pc := 11) G Z dX7_put_11 h
  · have h := h.2 c
    refine am_iload_n (i := 1) (pc := 4) G dX7_put_4 rfl rfl ?_
    refine am_aload_n (i := 0) (t := 157) (pc := 5) G dX7_put_5 rfl rfl rfl ?_
    refine am_alen (pc := 6) G 60 dX7_put_6 (by decide) ?_
    refine am_icmp_lt (pc := 7) G 12 dX7_put_7 (by decide) (fun c => ?_) (fun c => ?_)
    · have h := h.1 c
      refine am_aload_n (i := 0) (t := 157) (pc := 12) G dX7_put_12 rfl rfl rfl ?_
      refine am_iload_n (i := 1) (pc := 13) G dX7_put_13 rfl rfl ?_
      refine am_iload_n (i := 2) (pc := 14) G dX7_put_14 rfl rfl ?_
      refine am_iast (pc := 15) G 60 dX7_put_15 (by decide) h.1 ?_
      have h := h.2
      refine am_iload_n (i := 1) (pc := 16) G dX7_put_16 rfl rfl ?_
      refine am_iconst (pc := 17) G dX7_put_17 (by decide) ?_
      refine am_iadd (pc := 18) G dX7_put_18 ?_
      exact am_iret (pc := 19) G Z dX7_put_19 h
    · have h := h.2 c
      refine am_iload_n (i := 1) (pc := 10) G dX7_put_10 rfl rfl ?_
      exact am_iret (pc := 11) G Z dX7_put_11 h
-- X7_write TreeHands$Tree.write([I)I
def rm_X7_write : Room := { frames := 1, cells := 0, slots := 0, locals := 22 }
theorem hy_X7_write : yX7_write.cls ≠ "java/lang/invoke/MethodHandle" ∧ yX7_write.cls ≠ "java/lang/invoke/VarHandle" ∧ (parseMethodDescriptor yX7_write.desc).map (fun d => d.parameters.length) = some 1 := by decide +kernel
abbrev R_X7_write (V : VV) (x0 x1 : Int) (M : Mem) (Q : Int → Mem → Prop) : Prop := RunsM V yX7_write (.code yX7_write cX7_write 6 (Option.some Jvm.ClassFile.FieldType.int)) rm_X7_write 0 [(17, x0), (160, x1)] M Q
def wp_X7_write_72_b (V : VV) (x0 x1 x2 x3 x5 : Int) (M : Mem) (Q : Int → Mem → Prop) (B4 : Int → Int → Mem → Prop) (B72 : Int → Int → Mem → Prop) : Prop :=
  ((0 : Int) ≤ x3 ∧ x3 < (16 : Int)) ∧
  (M (x0 + 6) x3 ≤ x5 →
    B4 x2 (w32 (x3 + 1)) M) ∧ (¬ (M (x0 + 6) x3 ≤ x5) →
    R_X7_put V x1 x2 41 M (fun r3 M4 =>
    B72 r3 (w32 (x5 + 1)) M4))
theorem swp_X7_write_72_b {X : XX} {Q : Int → Mem → Prop} (G : GX X cX7_write "TreeHands$Tree") (Z : RX X 0 Q) (hn : nLX X = 6) (hr : roomX X = rm_X7_write) (x0 x1 x2 x3 x5 : Int) (M : Mem) (B4 : Int → Int → Mem → Prop) (k4 : ∀ (z2 z3 : Int) (N : Mem), B4 z2 z3 N → AW X 4 [(17, x0), (160, x1), (0, z2), (0, z3), (99, 0), (99, 0)] [] N) (B72 : Int → Int → Mem → Prop) (k72 : ∀ (z2 z5 : Int) (N : Mem), B72 z2 z5 N → AW X 72 [(17, x0), (160, x1), (0, z2), (0, x3), (99, 0), (0, z5)] [] N) (h : wp_X7_write_72_b (vX X) x0 x1 x2 x3 x5 M Q B4 B72) : AW X 72 [(17, x0), (160, x1), (0, x2), (0, x3), (99, 0), (0, x5)] [] M := by
  unfold wp_X7_write_72_b at h
  refine am_iload (pc := 72) G dX7_write_72 rfl ?_
  refine am_aload_n (i := 0) (t := 14) (pc := 74) G dX7_write_74 rfl rfl rfl ?_
  refine gf_X7_6 (pc := 75) G dX7_write_75 tw_f_RX7_27 ?_
  refine am_iload_n (i := 3) (pc := 78) G dX7_write_78 rfl rfl ?_
  refine am_iald (pc := 79) G 16 dX7_write_79 (by decide) h.1 ?_
  have h := h.2
  refine am_icmp_ge (pc := 80) G 97 dX7_write_80 (by decide) (fun c => ?_) (fun c => ?_)
  · have h := h.1 c
    refine am_iinc (pc := 97) G dX7_write_97 rfl (nlx hn rfl) rfl ?_
    refine am_goto (pc := 100) (ls := [(17, _), (160, _), (0, _), (0, _), (99, _), (0, _)]) G 4 dX7_write_100 (by decide) ?_
    refine am_le (ls' := [(17, _), (160, _), (0, _), (0, _), (99, 0), (99, 0)]) ⟨Or.inr rfl, ⟨Or.inr rfl, ⟨Or.inr rfl, ⟨Or.inr rfl, ⟨Or.inl rfl, ⟨Or.inl rfl, trivial⟩⟩⟩⟩⟩⟩ ?_
    exact k4 _ _ _ h
  · have h := h.2 c
    refine am_aload_n (i := 1) (t := 157) (pc := 83) G dX7_write_83 rfl rfl rfl ?_
    refine am_iload_n (i := 2) (pc := 84) G dX7_write_84 rfl rfl ?_
    refine am_bipush (pc := 85) G dX7_write_85 (by decide) (by decide) ?_
    refine am_callS (rk := 0) (rmc := rm_X7_put) (st := []) (pc := 87) G [(160, _), (0, _), (0, _)] dX7_write_87 tw_m_RX7_62 tw_s_X7_put tw_z_RX7 tw_c_X7_put hy_X7_put (callrm hr rfl) rfl (RunsM.mono h (fun r3 M4 h => ?_)) Z.rm
    show AW X 90 _ [(0, _)] M4
    refine am_istore_n (pc := 90) G dX7_write_90 rfl (nlx hn rfl) rfl ?_
    refine am_iinc (pc := 91) (ls := [(17, _), (160, _), (0, _), (0, _), (99, _), (0, _)]) G dX7_write_91 rfl (nlx hn rfl) rfl ?_
    refine am_goto (pc := 94) (ls := [(17, _), (160, _), (0, _), (0, _), (99, _), (0, _)]) G 72 dX7_write_94 (by decide) ?_
    refine am_le (ls' := [(17, _), (160, _), (0, _), (0, _), (99, 0), (0, _)]) ⟨Or.inr rfl, ⟨Or.inr rfl, ⟨Or.inr rfl, ⟨Or.inr rfl, ⟨Or.inl rfl, ⟨Or.inr rfl, trivial⟩⟩⟩⟩⟩⟩ ?_
    exact k72 _ _ _ h
def wp_X7_write_72 (V : VV) (x0 x1 x2 x3 x5 : Int) (M : Mem) (Q : Int → Mem → Prop) (B4 : Int → Int → Mem → Prop) : Prop :=
  ∃ (I : Int → Int → Mem → Prop) (μ : Int → Int → Mem → Nat), I x2 x5 M ∧ ∀ (y2 y5 : Int) (N : Mem), I y2 y5 N → wp_X7_write_72_b V x0 x1 y2 x3 y5 N Q B4 (fun z2 z5 N1 => I z2 z5 N1 ∧ μ z2 z5 N1 < μ y2 y5 N)
theorem swp_X7_write_72 {X : XX} {Q : Int → Mem → Prop} (G : GX X cX7_write "TreeHands$Tree") (Z : RX X 0 Q) (hn : nLX X = 6) (hr : roomX X = rm_X7_write) (x0 x1 x2 x3 x5 : Int) (M : Mem) (B4 : Int → Int → Mem → Prop) (k4 : ∀ (z2 z3 : Int) (N : Mem), B4 z2 z3 N → AW X 4 [(17, x0), (160, x1), (0, z2), (0, z3), (99, 0), (99, 0)] [] N) (h : wp_X7_write_72 (vX X) x0 x1 x2 x3 x5 M Q B4) : AW X 72 [(17, x0), (160, x1), (0, x2), (0, x3), (99, 0), (0, x5)] [] M := by
  unfold wp_X7_write_72 at h
  obtain ⟨I, μ, hI, hs⟩ := h
  have key : ∀ (n : Nat) (y2 y5 : Int) (N : Mem), μ y2 y5 N < n → I y2 y5 N → AW X 72 [(17, x0), (160, x1), (0, y2), (0, x3), (99, 0), (0, y5)] [] N := by
    intro n
    induction n with
    | zero => intro y2 y5 N hlt; exact absurd hlt (Nat.not_lt_zero _)
    | succ n ih =>
      intro y2 y5 N hlt hI
      exact swp_X7_write_72_b G Z hn hr x0 x1 y2 x3 y5 N B4 k4 (fun z2 z5 N1 => I z2 z5 N1 ∧ μ z2 z5 N1 < μ y2 y5 N) (fun z2 z5 N1 hz => ih z2 z5 N1 (by omega) hz.1) (hs y2 y5 N hI)
  exact key _ x2 x5 M (Nat.lt_succ_self _) hI
def wp_X7_write_66 (V : VV) (x0 x1 x2 x3 s0 : Int) (M : Mem) (Q : Int → Mem → Prop) (B4 : Int → Int → Mem → Prop) : Prop :=
  wp_X7_write_72 V x0 x1 x2 x3 s0 M Q B4
theorem swp_X7_write_66 {X : XX} {Q : Int → Mem → Prop} (G : GX X cX7_write "TreeHands$Tree") (Z : RX X 0 Q) (hn : nLX X = 6) (hr : roomX X = rm_X7_write) (x0 x1 x2 x3 s0 : Int) (M : Mem) (B4 : Int → Int → Mem → Prop) (k4 : ∀ (z2 z3 : Int) (N : Mem), B4 z2 z3 N → AW X 4 [(17, x0), (160, x1), (0, z2), (0, z3), (99, 0), (99, 0)] [] N) (h : wp_X7_write_66 (vX X) x0 x1 x2 x3 s0 M Q B4) : AW X 66 [(17, x0), (160, x1), (0, x2), (0, x3), (99, 0), (99, 0)] [(0, s0)] M := by
  unfold wp_X7_write_66 at h
  refine am_istore (pc := 66) G dX7_write_66 (nlx hn rfl) rfl ?_
  refine am_iload (pc := 68) (ls := [(17, _), (160, _), (0, _), (0, _), (0, _), (99, _)]) G dX7_write_68 rfl ?_
  refine am_istore (pc := 70) G dX7_write_70 (nlx hn rfl) rfl ?_
  refine am_le (ls' := [(17, _), (160, _), (0, _), (0, _), (99, 0), (0, _)]) ⟨Or.inr rfl, ⟨Or.inr rfl, ⟨Or.inr rfl, ⟨Or.inr rfl, ⟨Or.inl rfl, ⟨Or.inr rfl, trivial⟩⟩⟩⟩⟩⟩ ?_
  exact swp_X7_write_72 G Z hn hr _ _ _ _ _ _ B4 k4 h
def wp_X7_write_4_b (V : VV) (x0 x1 x2 x3 : Int) (M : Mem) (Q : Int → Mem → Prop) (B4 : Int → Int → Mem → Prop) : Prop :=
  (M x0 0 ≤ x3 →
    Q x2 M) ∧ (¬ (M x0 0 ≤ x3) →
    ((0 : Int) ≤ x3 ∧ x3 < (16 : Int)) ∧
    R_X7_put V x1 x2 (M (x0 + 1) x3) M (fun r1 M2 =>
    ((0 : Int) ≤ x3 ∧ x3 < (16 : Int)) ∧
    (M2 (x0 + 2) x3 ≤ 0 →
      (M2 x0 0 ≤ w32 (x3 + 1) →
        wp_X7_write_66 V x0 x1 r1 x3 0 M2 Q B4) ∧ (¬ (M2 x0 0 ≤ w32 (x3 + 1)) →
        ((0 : Int) ≤ w32 (x3 + 1) ∧ w32 (x3 + 1) < (16 : Int)) ∧
        wp_X7_write_66 V x0 x1 r1 x3 (M2 (x0 + 6) (w32 (x3 + 1))) M2 Q B4)) ∧ (¬ (M2 (x0 + 2) x3 ≤ 0) →
      R_X7_put V x1 r1 40 M2 (fun r5 M6 =>
      B4 r5 (w32 (x3 + 1)) M6))))
theorem swp_X7_write_4_b {X : XX} {Q : Int → Mem → Prop} (G : GX X cX7_write "TreeHands$Tree") (Z : RX X 0 Q) (hn : nLX X = 6) (hr : roomX X = rm_X7_write) (x0 x1 x2 x3 : Int) (M : Mem) (B4 : Int → Int → Mem → Prop) (k4 : ∀ (z2 z3 : Int) (N : Mem), B4 z2 z3 N → AW X 4 [(17, x0), (160, x1), (0, z2), (0, z3), (99, 0), (99, 0)] [] N) (h : wp_X7_write_4_b (vX X) x0 x1 x2 x3 M Q B4) : AW X 4 [(17, x0), (160, x1), (0, x2), (0, x3), (99, 0), (99, 0)] [] M := by
  unfold wp_X7_write_4_b at h
  refine am_iload_n (i := 3) (pc := 4) G dX7_write_4 rfl rfl ?_
  refine am_aload_n (i := 0) (t := 14) (pc := 5) G dX7_write_5 rfl rfl rfl ?_
  refine gf_X7_0 (pc := 6) G dX7_write_6 tw_f_RX7_30 ?_
  refine am_icmp_ge (pc := 9) G 103 dX7_write_9 (by decide) (fun c => ?_) (fun c => ?_)
  · have h := h.1 c
    refine am_iload_n (i := 2) (pc := 103) G dX7_write_103 rfl rfl ?_
    exact am_iret (pc := 104) G Z dX7_write_104 h
  · have h := h.2 c
    refine am_aload_n (i := 1) (t := 157) (pc := 12) G dX7_write_12 rfl rfl rfl ?_
    refine am_iload_n (i := 2) (pc := 13) G dX7_write_13 rfl rfl ?_
    refine am_aload_n (i := 0) (t := 14) (pc := 14) G dX7_write_14 rfl rfl rfl ?_
    refine gf_X7_1 (pc := 15) G dX7_write_15 tw_f_RX7_9 ?_
    refine am_iload_n (i := 3) (pc := 18) G dX7_write_18 rfl rfl ?_
    refine am_iald (pc := 19) G 16 dX7_write_19 (by decide) h.1 ?_
    have h := h.2
    refine am_callS (rk := 0) (rmc := rm_X7_put) (st := []) (pc := 20) G [(160, _), (0, _), (0, _)] dX7_write_20 tw_m_RX7_62 tw_s_X7_put tw_z_RX7 tw_c_X7_put hy_X7_put (callrm hr rfl) rfl (RunsM.mono h (fun r1 M2 h => ?_)) Z.rm
    show AW X 23 _ [(0, _)] M2
    refine am_istore_n (pc := 23) G dX7_write_23 rfl (nlx hn rfl) rfl ?_
    refine am_aload_n (i := 0) (t := 14) (pc := 24) (ls := [(17, _), (160, _), (0, _), (0, _), (99, _), (99, _)]) G dX7_write_24 rfl rfl rfl ?_
    refine gf_X7_2 (pc := 25) G dX7_write_25 tw_f_RX7_15 ?_
    refine am_iload_n (i := 3) (pc := 28) G dX7_write_28 rfl rfl ?_
    refine am_iald (pc := 29) G 16 dX7_write_29 (by decide) h.1 ?_
    have h := h.2
    refine am_if_le (pc := 30) G 44 dX7_write_30 (by decide) (fun c => ?_) (fun c => ?_)
    · have h := h.1 c
      refine am_iload_n (i := 3) (pc := 44) G dX7_write_44 rfl rfl ?_
      refine am_iconst (pc := 45) G dX7_write_45 (by decide) ?_
      refine am_iadd (pc := 46) G dX7_write_46 ?_
      refine am_aload_n (i := 0) (t := 14) (pc := 47) G dX7_write_47 rfl rfl rfl ?_
      refine gf_X7_0 (pc := 48) G dX7_write_48 tw_f_RX7_30 ?_
      refine am_icmp_ge (pc := 51) G 65 dX7_write_51 (by decide) (fun c => ?_) (fun c => ?_)
      · have h := h.1 c
        refine am_iconst (pc := 65) G dX7_write_65 (by decide) ?_
        refine am_le (ls' := [(17, _), (160, _), (0, _), (0, _), (99, 0), (99, 0)]) ⟨Or.inr rfl, ⟨Or.inr rfl, ⟨Or.inr rfl, ⟨Or.inr rfl, ⟨Or.inl rfl, ⟨Or.inl rfl, trivial⟩⟩⟩⟩⟩⟩ ?_
        exact swp_X7_write_66 G Z hn hr _ _ _ _ _ _ B4 k4 h
      · have h := h.2 c
        refine am_aload_n (i := 0) (t := 14) (pc := 54) G dX7_write_54 rfl rfl rfl ?_
        refine gf_X7_6 (pc := 55) G dX7_write_55 tw_f_RX7_27 ?_
        refine am_iload_n (i := 3) (pc := 58) G dX7_write_58 rfl rfl ?_
        refine am_iconst (pc := 59) G dX7_write_59 (by decide) ?_
        refine am_iadd (pc := 60) G dX7_write_60 ?_
        refine am_iald (pc := 61) G 16 dX7_write_61 (by decide) h.1 ?_
        have h := h.2
        refine am_goto (pc := 62) G 66 dX7_write_62 (by decide) ?_
        refine am_le (ls' := [(17, _), (160, _), (0, _), (0, _), (99, 0), (99, 0)]) ⟨Or.inr rfl, ⟨Or.inr rfl, ⟨Or.inr rfl, ⟨Or.inr rfl, ⟨Or.inl rfl, ⟨Or.inl rfl, trivial⟩⟩⟩⟩⟩⟩ ?_
        exact swp_X7_write_66 G Z hn hr _ _ _ _ _ _ B4 k4 h
    · have h := h.2 c
      refine am_aload_n (i := 1) (t := 157) (pc := 33) G dX7_write_33 rfl rfl rfl ?_
      refine am_iload_n (i := 2) (pc := 34) G dX7_write_34 rfl rfl ?_
      refine am_bipush (pc := 35) G dX7_write_35 (by decide) (by decide) ?_
      refine am_callS (rk := 0) (rmc := rm_X7_put) (st := []) (pc := 37) G [(160, _), (0, _), (0, _)] dX7_write_37 tw_m_RX7_62 tw_s_X7_put tw_z_RX7 tw_c_X7_put hy_X7_put (callrm hr rfl) rfl (RunsM.mono h (fun r5 M6 h => ?_)) Z.rm
      show AW X 40 _ [(0, _)] M6
      refine am_istore_n (pc := 40) G dX7_write_40 rfl (nlx hn rfl) rfl ?_
      refine am_goto (pc := 41) (ls := [(17, _), (160, _), (0, _), (0, _), (99, _), (99, _)]) G 97 dX7_write_41 (by decide) ?_
      refine am_iinc (pc := 97) G dX7_write_97 rfl (nlx hn rfl) rfl ?_
      refine am_goto (pc := 100) (ls := [(17, _), (160, _), (0, _), (0, _), (99, _), (99, _)]) G 4 dX7_write_100 (by decide) ?_
      refine am_le (ls' := [(17, _), (160, _), (0, _), (0, _), (99, 0), (99, 0)]) ⟨Or.inr rfl, ⟨Or.inr rfl, ⟨Or.inr rfl, ⟨Or.inr rfl, ⟨Or.inl rfl, ⟨Or.inl rfl, trivial⟩⟩⟩⟩⟩⟩ ?_
      exact k4 _ _ _ h
def wp_X7_write_4 (V : VV) (x0 x1 x2 x3 : Int) (M : Mem) (Q : Int → Mem → Prop) : Prop :=
  ∃ (I : Int → Int → Mem → Prop) (μ : Int → Int → Mem → Nat), I x2 x3 M ∧ ∀ (y2 y3 : Int) (N : Mem), I y2 y3 N → wp_X7_write_4_b V x0 x1 y2 y3 N Q (fun z2 z3 N1 => I z2 z3 N1 ∧ μ z2 z3 N1 < μ y2 y3 N)
theorem swp_X7_write_4 {X : XX} {Q : Int → Mem → Prop} (G : GX X cX7_write "TreeHands$Tree") (Z : RX X 0 Q) (hn : nLX X = 6) (hr : roomX X = rm_X7_write) (x0 x1 x2 x3 : Int) (M : Mem) (h : wp_X7_write_4 (vX X) x0 x1 x2 x3 M Q) : AW X 4 [(17, x0), (160, x1), (0, x2), (0, x3), (99, 0), (99, 0)] [] M := by
  unfold wp_X7_write_4 at h
  obtain ⟨I, μ, hI, hs⟩ := h
  have key : ∀ (n : Nat) (y2 y3 : Int) (N : Mem), μ y2 y3 N < n → I y2 y3 N → AW X 4 [(17, x0), (160, x1), (0, y2), (0, y3), (99, 0), (99, 0)] [] N := by
    intro n
    induction n with
    | zero => intro y2 y3 N hlt; exact absurd hlt (Nat.not_lt_zero _)
    | succ n ih =>
      intro y2 y3 N hlt hI
      exact swp_X7_write_4_b G Z hn hr x0 x1 y2 y3 N (fun z2 z3 N1 => I z2 z3 N1 ∧ μ z2 z3 N1 < μ y2 y3 N) (fun z2 z3 N1 hz => ih z2 z3 N1 (by omega) hz.1) (hs y2 y3 N hI)
  exact key _ x2 x3 M (Nat.lt_succ_self _) hI
def wp_X7_write (V : VV) (x0 x1 : Int) (M : Mem) (Q : Int → Mem → Prop) : Prop :=
  wp_X7_write_4 V x0 x1 0 0 M Q
theorem of_X7_write {V : VV} {x0 x1 : Int} {M : Mem} {Q : Int → Mem → Prop} (h : wp_X7_write V x0 x1 M Q) : R_X7_write V x0 x1 M Q := by
  refine met_in (own := "TreeHands$Tree") (by decide +kernel) rfl rfl (Nat.le_of_ble_eq_true rfl) ?_
  intro X G Z hn hr hv
  subst hv
  unfold wp_X7_write at h
  show AW X 0 [(17, x0), (160, x1), (99, 0), (99, 0), (99, 0), (99, 0)] [] M
  refine am_iconst (pc := 0) G dX7_write_0 (by decide) ?_
  refine am_istore_n (pc := 1) G dX7_write_1 rfl (nlx hn rfl) rfl ?_
  refine am_iconst (pc := 2) (ls := [(17, _), (160, _), (0, _), (99, _), (99, _), (99, _)]) G dX7_write_2 (by decide) ?_
  refine am_istore_n (pc := 3) G dX7_write_3 rfl (nlx hn rfl) rfl ?_
  refine am_le (ls' := [(17, _), (160, _), (0, _), (0, _), (99, 0), (99, 0)]) ⟨Or.inr rfl, ⟨Or.inr rfl, ⟨Or.inr rfl, ⟨Or.inr rfl, ⟨Or.inl rfl, ⟨Or.inl rfl, trivial⟩⟩⟩⟩⟩⟩ ?_
  exact swp_X7_write_4 G Z hn hr _ _ _ _ _ h
-- X9_say TreeHands.say(I)I
def rm_X9_say : Room := { frames := 1, cells := 0, slots := 0, locals := 21 }
theorem hy_X9_say : yX9_say.cls ≠ "java/lang/invoke/MethodHandle" ∧ yX9_say.cls ≠ "java/lang/invoke/VarHandle" ∧ (parseMethodDescriptor yX9_say.desc).map (fun d => d.parameters.length) = some 1 := by decide +kernel
abbrev R_X9_say (V : VV) (x1 : Int) (M : Mem) (Q : Int → Mem → Prop) : Prop := RunsM V yX9_say (.code yX9_say cX9_say 2 (Option.some Jvm.ClassFile.FieldType.int)) rm_X9_say 0 [(19, 0), (0, x1)] M Q
def wp_X9_say (V : VV) (x1 : Int) (M : Mem) (Q : Int → Mem → Prop) : Prop :=
  (x1 < 33 →
    Q (-2) M) ∧ (¬ (x1 < 33) →
    (x1 ≤ 126 →
      R_X5_append V x1 M (fun r1 M2 =>
      (r1 = 0 →
        Q (-4) M2) ∧ (¬ (r1 = 0) →
        Q (M2 1 0) M2))) ∧ (¬ (x1 ≤ 126) →
      Q (-2) M))
theorem of_X9_say {V : VV} {x1 : Int} {M : Mem} {Q : Int → Mem → Prop} (h : wp_X9_say V x1 M Q) : R_X9_say V x1 M Q := by
  refine met_in (own := "TreeHands") (by decide +kernel) rfl rfl (Nat.le_of_ble_eq_true rfl) ?_
  intro X G Z hn hr hv
  subst hv
  unfold wp_X9_say at h
  show AW X 0 [(19, 0), (0, x1)] [] M
  refine am_iload_n (i := 1) (pc := 0) G dX9_say_0 rfl rfl ?_
  refine am_bipush (pc := 1) G dX9_say_1 (by decide) (by decide) ?_
  refine am_icmp_lt (pc := 3) G 12 dX9_say_3 (by decide) (fun c => ?_) (fun c => ?_)
  · have h := h.1 c
    refine am_bipush (pc := 12) G dX9_say_12 (by decide) (by decide) ?_
    exact am_iret (pc := 14) G Z dX9_say_14 h
  · have h := h.2 c
    refine am_iload_n (i := 1) (pc := 6) G dX9_say_6 rfl rfl ?_
    refine am_bipush (pc := 7) G dX9_say_7 (by decide) (by decide) ?_
    refine am_icmp_le (pc := 9) G 15 dX9_say_9 (by decide) (fun c => ?_) (fun c => ?_)
    · have h := h.1 c
      refine am_aload_n (i := 0) (t := 16) (pc := 15) G dX9_say_15 rfl rfl rfl ?_
      refine gf_X9_0 (pc := 16) G dX9_say_16 tw_f_RX9_10 ?_
      refine am_iload_n (i := 1) (pc := 19) G dX9_say_19 rfl rfl ?_
      refine am_callV (rk := 1) (rmc := rm_X5_append) (st := []) (pc := 20) G 5 [(0, _)] rfl (by decide) rfl dX9_say_20 tw_m_RX9_87 tw_i_X5_append tw_v_X5_append tw_z_RX5 tw_c_X5_append hy_X5_append (callrm hr rfl) rfl (RunsM.mono h (fun r1 M2 h => ?_)) Z.rm
      show AW X 23 _ [(0, _)] M2
      refine am_if_eq (pc := 23) G 36 dX9_say_23 (by decide) (fun c => ?_) (fun c => ?_)
      · have h := h.1 c
        refine am_bipush (pc := 36) G dX9_say_36 (by decide) (by decide) ?_
        exact am_iret (pc := 38) G Z dX9_say_38 h
      · have h := h.2 c
        refine am_aload_n (i := 0) (t := 16) (pc := 26) G dX9_say_26 rfl rfl rfl ?_
        refine gf_X9_0 (pc := 27) G dX9_say_27 tw_f_RX9_10 ?_
        refine gf_X5_0 (pc := 30) G dX9_say_30 tw_f_RX9_91 ?_
        refine am_goto (pc := 33) G 38 dX9_say_33 (by decide) ?_
        exact am_iret (pc := 38) G Z dX9_say_38 h
    · have h := h.2 c
      refine am_bipush (pc := 12) G dX9_say_12 (by decide) (by decide) ?_
      exact am_iret (pc := 14) G Z dX9_say_14 h
-- X9_wipe TreeHands.wipe()I
def rm_X9_wipe : Room := { frames := 0, cells := 0, slots := 0, locals := 0 }
theorem hy_X9_wipe : yX9_wipe.cls ≠ "java/lang/invoke/MethodHandle" ∧ yX9_wipe.cls ≠ "java/lang/invoke/VarHandle" ∧ (parseMethodDescriptor yX9_wipe.desc).map (fun d => d.parameters.length) = some 0 := by decide +kernel
abbrev R_X9_wipe (V : VV) (M : Mem) (Q : Int → Mem → Prop) : Prop := RunsM V yX9_wipe (.code yX9_wipe cX9_wipe 2 (Option.some Jvm.ClassFile.FieldType.int)) rm_X9_wipe 0 [(19, 0)] M Q
def wp_X9_wipe (V : VV) (M : Mem) (Q : Int → Mem → Prop) : Prop :=
  ∀ v1 : Int, v1 = M 1 0 →
  Q v1 (mset M 1 0 0)
theorem of_X9_wipe {V : VV} {M : Mem} {Q : Int → Mem → Prop} (h : wp_X9_wipe V M Q) : R_X9_wipe V M Q := by
  refine met_in (own := "TreeHands") (by decide +kernel) rfl rfl (Nat.le_of_ble_eq_true rfl) ?_
  intro X G Z hn hr hv
  subst hv
  unfold wp_X9_wipe at h
  show AW X 0 [(19, 0), (99, 0)] [] M
  refine am_aload_n (i := 0) (t := 16) (pc := 0) G dX9_wipe_0 rfl rfl rfl ?_
  refine gf_X9_0 (pc := 1) G dX9_wipe_1 tw_f_RX9_10 ?_
  refine gf_X5_0 (pc := 4) G dX9_wipe_4 tw_f_RX9_91 ?_
  have h := h _ rfl
  refine am_istore_n (pc := 7) G dX9_wipe_7 rfl (nlx hn rfl) rfl ?_
  refine am_aload_n (i := 0) (t := 16) (pc := 8) (ls := [(19, _), (0, _)]) G dX9_wipe_8 rfl rfl rfl ?_
  refine gf_X9_0 (pc := 9) G dX9_wipe_9 tw_f_RX9_10 ?_
  refine am_iconst (pc := 12) G dX9_wipe_12 (by decide) ?_
  refine pf_X5_0 (pc := 13) G dX9_wipe_13 tw_f_RX9_91 ?_
  refine am_iload_n (i := 1) (pc := 16) G dX9_wipe_16 rfl rfl ?_
  exact am_iret (pc := 17) G Z dX9_wipe_17 h
-- X9_fault TreeHands.fault()I
def rm_X9_fault : Room := { frames := 3, cells := 0, slots := 0, locals := 67 }
theorem hy_X9_fault : yX9_fault.cls ≠ "java/lang/invoke/MethodHandle" ∧ yX9_fault.cls ≠ "java/lang/invoke/VarHandle" ∧ (parseMethodDescriptor yX9_fault.desc).map (fun d => d.parameters.length) = some 0 := by decide +kernel
abbrev R_X9_fault (V : VV) (M : Mem) (Q : Int → Mem → Prop) : Prop := RunsM V yX9_fault (.code yX9_fault cX9_fault 2 (Option.some Jvm.ClassFile.FieldType.int)) rm_X9_fault 0 [(19, 0)] M Q
def wp_X9_fault (V : VV) (M : Mem) (Q : Int → Mem → Prop) : Prop :=
  R_X5_firstFault V M (fun r1 M2 =>
  (0 ≤ r1 →
    Q r1 M2) ∧ (¬ (0 ≤ r1) →
    Q (-6) M2))
theorem of_X9_fault {V : VV} {M : Mem} {Q : Int → Mem → Prop} (h : wp_X9_fault V M Q) : R_X9_fault V M Q := by
  refine met_in (own := "TreeHands") (by decide +kernel) rfl rfl (Nat.le_of_ble_eq_true rfl) ?_
  intro X G Z hn hr hv
  subst hv
  unfold wp_X9_fault at h
  show AW X 0 [(19, 0), (99, 0)] [] M
  refine am_aload_n (i := 0) (t := 16) (pc := 0) G dX9_fault_0 rfl rfl rfl ?_
  refine gf_X9_0 (pc := 1) G dX9_fault_1 tw_f_RX9_10 ?_
  refine am_callV (rk := 0) (rmc := rm_X5_firstFault) (st := []) (pc := 4) G 5 [] rfl (by decide) rfl dX9_fault_4 tw_m_RX9_94 tw_i_X5_firstFault tw_v_X5_firstFault tw_z_RX5 tw_c_X5_firstFault hy_X5_firstFault (callrm hr rfl) rfl (RunsM.mono h (fun r1 M2 h => ?_)) Z.rm
  show AW X 7 _ [(0, _)] M2
  refine am_istore_n (pc := 7) G dX9_fault_7 rfl (nlx hn rfl) rfl ?_
  refine am_iload_n (i := 1) (pc := 8) (ls := [(19, _), (0, _)]) G dX9_fault_8 rfl rfl ?_
  refine am_if_ge (pc := 9) G 17 dX9_fault_9 (by decide) (fun c => ?_) (fun c => ?_)
  · have h := h.1 c
    refine am_iload_n (i := 1) (pc := 17) G dX9_fault_17 rfl rfl ?_
    exact am_iret (pc := 18) G Z dX9_fault_18 h
  · have h := h.2 c
    refine am_bipush (pc := 12) G dX9_fault_12 (by decide) (by decide) ?_
    refine am_goto (pc := 14) G 18 dX9_fault_14 (by decide) ?_
    exact am_iret (pc := 18) G Z dX9_fault_18 h
-- X9_treeAt TreeHands.treeAt(I)LTreeHands$Tree;
def rm_X9_treeAt : Room := { frames := 0, cells := 0, slots := 0, locals := 0 }
theorem hy_X9_treeAt : yX9_treeAt.cls ≠ "java/lang/invoke/MethodHandle" ∧ yX9_treeAt.cls ≠ "java/lang/invoke/VarHandle" ∧ (parseMethodDescriptor yX9_treeAt.desc).map (fun d => d.parameters.length) = some 1 := by decide +kernel
abbrev R_X9_treeAt (V : VV) (x1 : Int) (M : Mem) (Q : Int → Mem → Prop) : Prop := RunsM V yX9_treeAt (.code yX9_treeAt cX9_treeAt 2 (Option.some (Jvm.ClassFile.FieldType.object "TreeHands$Tree"))) rm_X9_treeAt 3 [(19, 0), (0, x1)] M Q
def wp_X9_treeAt (V : VV) (x1 : Int) (M : Mem) (Q : Int → Mem → Prop) : Prop :=
  (x1 < 0 →
    Q (-1) M) ∧ (¬ (x1 < 0) →
    (6 ≤ x1 →
      Q (-1) M) ∧ (¬ (6 ≤ x1) →
      ((0 : Int) ≤ x1 ∧ x1 < (6 : Int)) ∧
      Q (161 + 7 * x1) M))
theorem of_X9_treeAt {V : VV} {x1 : Int} {M : Mem} {Q : Int → Mem → Prop} (h : wp_X9_treeAt V x1 M Q) : R_X9_treeAt V x1 M Q := by
  refine met_in (own := "TreeHands") (by decide +kernel) rfl ⟨_, rfl⟩ (Nat.le_of_ble_eq_true rfl) ?_
  intro X G Z hn hr hv
  subst hv
  unfold wp_X9_treeAt at h
  show AW X 0 [(19, 0), (0, x1)] [] M
  refine am_iload_n (i := 1) (pc := 0) G dX9_treeAt_0 rfl rfl ?_
  refine am_if_lt (pc := 1) G 22 dX9_treeAt_1 (by decide) (fun c => ?_) (fun c => ?_)
  · have h := h.1 c
    refine am_null (pc := 22) G dX9_treeAt_22 ?_
    exact am_aret (pc := 23) G Z dX9_treeAt_23 h
  · have h := h.2 c
    refine am_iload_n (i := 1) (pc := 4) G dX9_treeAt_4 rfl rfl ?_
    refine am_aload_n (i := 0) (t := 16) (pc := 5) G dX9_treeAt_5 rfl rfl rfl ?_
    refine gf_X9_1 (pc := 6) G dX9_treeAt_6 tw_f_RX9_18 ?_
    refine am_talen (pc := 9) G 20001 dX9_treeAt_9 (by decide) ?_
    refine am_icmp_ge (pc := 10) G 22 dX9_treeAt_10 (by decide) (fun c => ?_) (fun c => ?_)
    · have h := h.1 c
      refine am_null (pc := 22) G dX9_treeAt_22 ?_
      exact am_aret (pc := 23) G Z dX9_treeAt_23 h
    · have h := h.2 c
      refine am_aload_n (i := 0) (t := 16) (pc := 13) G dX9_treeAt_13 rfl rfl rfl ?_
      refine gf_X9_1 (pc := 14) G dX9_treeAt_14 tw_f_RX9_18 ?_
      refine am_iload_n (i := 1) (pc := 17) G dX9_treeAt_17 rfl rfl ?_
      refine am_aald (pc := 18) G 20001 dX9_treeAt_18 (by decide) h.1 ?_
      have h := h.2
      refine am_goto (pc := 19) G 23 dX9_treeAt_19 (by decide) ?_
      refine am_wkS (t := 17) (by decide) rfl (by decide) ?_
      exact am_aret (pc := 23) G Z dX9_treeAt_23 h
-- X9_forgetLeading TreeHands.forgetLeading()V
def rm_X9_forgetLeading : Room := { frames := 0, cells := 0, slots := 0, locals := 0 }
theorem hy_X9_forgetLeading : yX9_forgetLeading.cls ≠ "java/lang/invoke/MethodHandle" ∧ yX9_forgetLeading.cls ≠ "java/lang/invoke/VarHandle" ∧ (parseMethodDescriptor yX9_forgetLeading.desc).map (fun d => d.parameters.length) = some 0 := by decide +kernel
abbrev R_X9_forgetLeading (V : VV) (M : Mem) (Q : Int → Mem → Prop) : Prop := RunsM V yX9_forgetLeading (.code yX9_forgetLeading cX9_forgetLeading 1 (Option.none : Option Jvm.ClassFile.FieldType)) rm_X9_forgetLeading 4 [(19, 0)] M Q
def wp_X9_forgetLeading (V : VV) (M : Mem) (Q : Int → Mem → Prop) : Prop :=
  ∀ M1 : Mem, M1 = mset M 0 11 (-1) →
  Q 0 (mset M1 0 12 (-1))
theorem of_X9_forgetLeading {V : VV} {M : Mem} {Q : Int → Mem → Prop} (h : wp_X9_forgetLeading V M Q) : R_X9_forgetLeading V M Q := by
  refine met_in (own := "TreeHands") (by decide +kernel) rfl rfl (Nat.le_of_ble_eq_true rfl) ?_
  intro X G Z hn hr hv
  subst hv
  unfold wp_X9_forgetLeading at h
  show AW X 0 [(19, 0)] [] M
  refine am_aload_n (i := 0) (t := 16) (pc := 0) G dX9_forgetLeading_0 rfl rfl rfl ?_
  refine am_iconst (pc := 1) G dX9_forgetLeading_1 (by decide) ?_
  refine pf_X9_11 (pc := 2) G dX9_forgetLeading_2 tw_f_RX9_81 ?_
  refine am_aload_n (i := 0) (t := 16) (pc := 5) G dX9_forgetLeading_5 rfl rfl rfl ?_
  refine am_iconst (pc := 6) G dX9_forgetLeading_6 (by decide) ?_
  have h := h _ rfl
  refine pf_X9_12 (pc := 7) G dX9_forgetLeading_7 tw_f_RX9_84 ?_
  exact am_vret (pc := 10) G Z dX9_forgetLeading_10 h
-- X9_become TreeHands.become(ILTreeHands$Tree;)I
def rm_X9_become : Room := { frames := 1, cells := 0, slots := 0, locals := 22 }
theorem hy_X9_become : yX9_become.cls ≠ "java/lang/invoke/MethodHandle" ∧ yX9_become.cls ≠ "java/lang/invoke/VarHandle" ∧ (parseMethodDescriptor yX9_become.desc).map (fun d => d.parameters.length) = some 2 := by decide +kernel
abbrev R_X9_become (V : VV) (x1 x2 : Int) (M : Mem) (Q : Int → Mem → Prop) : Prop := RunsM V yX9_become (.code yX9_become cX9_become 4 (Option.some Jvm.ClassFile.FieldType.int)) rm_X9_become 0 [(19, 0), (0, x1), (17, x2)] M Q
def wp_X9_become (V : VV) (x1 x2 : Int) (M : Mem) (Q : Int → Mem → Prop) : Prop :=
  R_X9_treeAt V x1 M (fun r1 M2 =>
  (r1 < 0 →
    Q (-1) M2) ∧ (¬ (r1 < 0) →
    R_X7_copyAll V r1 x2 M2 (fun _ M4 =>
    R_X9_forgetLeading V M4 (fun _ M6 =>
    Q (M6 r1 0) M6))))
theorem of_X9_become {V : VV} {x1 x2 : Int} {M : Mem} {Q : Int → Mem → Prop} (h : wp_X9_become V x1 x2 M Q) : R_X9_become V x1 x2 M Q := by
  refine met_in (own := "TreeHands") (by decide +kernel) rfl rfl (Nat.le_of_ble_eq_true rfl) ?_
  intro X G Z hn hr hv
  subst hv
  unfold wp_X9_become at h
  show AW X 0 [(19, 0), (0, x1), (17, x2), (99, 0)] [] M
  refine am_aload_n (i := 0) (t := 16) (pc := 0) G dX9_become_0 rfl rfl rfl ?_
  refine am_iload_n (i := 1) (pc := 1) G dX9_become_1 rfl rfl ?_
  refine am_callV (rk := 3) (rmc := rm_X9_treeAt) (st := []) (pc := 2) G 9 [(0, _)] rfl (by decide) rfl dX9_become_2 tw_m_RX9_98 tw_i_X9_treeAt tw_v_X9_treeAt tw_z_RX9 tw_c_X9_treeAt hy_X9_treeAt (callrm hr rfl) rfl (RunsM.mono h (fun r1 M2 h => ?_)) Z.rm
  show AW X 5 _ [(30017, _)] M2
  refine am_astore_n (t := 30014) (pc := 5) G dX9_become_5 rfl (nlx hn rfl) rfl ?_
  refine am_aload_n (i := 3) (t := 30014) (pc := 6) (ls := [(19, _), (0, _), (17, _), (30017, _)]) G dX9_become_6 rfl rfl rfl ?_
  refine am_ifnonnull (t := 30014) (pc := 7) G 12 dX9_become_7 (by decide) (fun c => ?_) (fun c => ?_)
  · have h := h.2 c
    refine am_retag (i := 3) (t := 17) (by decide) (by decide) rfl rfl (by omega) ?_
    show AW X 12 [(19, _), (0, _), (17, _), (17, _)] _ _
    refine am_aload_n (i := 3) (t := 14) (pc := 12) G dX9_become_12 rfl rfl rfl ?_
    refine am_aload_n (i := 2) (t := 14) (pc := 13) G dX9_become_13 rfl rfl rfl ?_
    refine am_callV (rk := 4) (rmc := rm_X7_copyAll) (st := []) (pc := 14) G 7 [(17, _)] rfl (by decide) rfl dX9_become_14 tw_m_RX9_210 tw_i_X7_copyAll tw_v_X7_copyAll tw_z_RX7 tw_c_X7_copyAll hy_X7_copyAll (callrm hr rfl) rfl (RunsM.mono h (fun r3 M4 h => ?_)) Z.rm
    show AW X 17 _ [] M4
    refine am_aload_n (i := 0) (t := 16) (pc := 17) G dX9_become_17 rfl rfl rfl ?_
    refine am_callV (rk := 4) (rmc := rm_X9_forgetLeading) (st := []) (pc := 18) G 9 [] rfl (by decide) rfl dX9_become_18 tw_m_RX9_152 tw_i_X9_forgetLeading tw_v_X9_forgetLeading tw_z_RX9 tw_c_X9_forgetLeading hy_X9_forgetLeading (callrm hr rfl) rfl (RunsM.mono h (fun r5 M6 h => ?_)) Z.rm
    show AW X 21 _ [] M6
    refine am_aload_n (i := 3) (t := 14) (pc := 21) G dX9_become_21 rfl rfl rfl ?_
    refine gf_X7_0 (pc := 22) G dX9_become_22 tw_f_RX9_171 ?_
    exact am_iret (pc := 25) G Z dX9_become_25 h
  · have h := h.1 c
    refine am_iconst (pc := 10) G dX9_become_10 (by decide) ?_
    exact am_iret (pc := 11) G Z dX9_become_11 h
-- X9_read TreeHands.read(I)I
def rm_X9_read : Room := { frames := 3, cells := 0, slots := 0, locals := 67 }
theorem hy_X9_read : yX9_read.cls ≠ "java/lang/invoke/MethodHandle" ∧ yX9_read.cls ≠ "java/lang/invoke/VarHandle" ∧ (parseMethodDescriptor yX9_read.desc).map (fun d => d.parameters.length) = some 1 := by decide +kernel
abbrev R_X9_read (V : VV) (x1 : Int) (M : Mem) (Q : Int → Mem → Prop) : Prop := RunsM V yX9_read (.code yX9_read cX9_read 2 (Option.some Jvm.ClassFile.FieldType.int)) rm_X9_read 0 [(19, 0), (0, x1)] M Q
def wp_X9_read (V : VV) (x1 : Int) (M : Mem) (Q : Int → Mem → Prop) : Prop :=
  R_X9_treeAt V x1 M (fun r1 M2 =>
  (r1 < 0 →
    Q (-1) M2) ∧ (¬ (r1 < 0) →
    R_X5_firstFault V M2 (fun r3 M4 =>
    (r3 < 0 →
      R_X5_nodeCount V M4 (fun r5 M6 =>
      (r5 ≤ 16 →
        R_X5_parse V 4 M6 (fun _ M8 =>
        ∀ M9 : Mem, M9 = mset M8 1 0 0 →
        R_X9_become V x1 4 M9 (fun r10 M11 =>
        Q r10 M11))) ∧ (¬ (r5 ≤ 16) →
        Q (-4) M6))) ∧ (¬ (r3 < 0) →
      Q (-5) M4))))
theorem of_X9_read {V : VV} {x1 : Int} {M : Mem} {Q : Int → Mem → Prop} (h : wp_X9_read V x1 M Q) : R_X9_read V x1 M Q := by
  refine met_in (own := "TreeHands") (by decide +kernel) rfl rfl (Nat.le_of_ble_eq_true rfl) ?_
  intro X G Z hn hr hv
  subst hv
  unfold wp_X9_read at h
  show AW X 0 [(19, 0), (0, x1)] [] M
  refine am_aload_n (i := 0) (t := 16) (pc := 0) G dX9_read_0 rfl rfl rfl ?_
  refine am_iload_n (i := 1) (pc := 1) G dX9_read_1 rfl rfl ?_
  refine am_callV (rk := 3) (rmc := rm_X9_treeAt) (st := []) (pc := 2) G 9 [(0, _)] rfl (by decide) rfl dX9_read_2 tw_m_RX9_98 tw_i_X9_treeAt tw_v_X9_treeAt tw_z_RX9 tw_c_X9_treeAt hy_X9_treeAt (callrm hr rfl) rfl (RunsM.mono h (fun r1 M2 h => ?_)) Z.rm
  show AW X 5 _ [(30017, _)] M2
  refine am_ifnonnull (t := 30014) (pc := 5) G 10 dX9_read_5 (by decide) (fun c => ?_) (fun c => ?_)
  · have h := h.2 c
    refine am_aload_n (i := 0) (t := 16) (pc := 10) G dX9_read_10 rfl rfl rfl ?_
    refine gf_X9_0 (pc := 11) G dX9_read_11 tw_f_RX9_10 ?_
    refine am_callV (rk := 0) (rmc := rm_X5_firstFault) (st := []) (pc := 14) G 5 [] rfl (by decide) rfl dX9_read_14 tw_m_RX9_94 tw_i_X5_firstFault tw_v_X5_firstFault tw_z_RX5 tw_c_X5_firstFault hy_X5_firstFault (callrm hr rfl) rfl (RunsM.mono h (fun r3 M4 h => ?_)) Z.rm
    show AW X 17 _ [(0, _)] M4
    refine am_if_lt (pc := 17) G 23 dX9_read_17 (by decide) (fun c => ?_) (fun c => ?_)
    · have h := h.1 c
      refine am_aload_n (i := 0) (t := 16) (pc := 23) G dX9_read_23 rfl rfl rfl ?_
      refine gf_X9_0 (pc := 24) G dX9_read_24 tw_f_RX9_10 ?_
      refine am_callV (rk := 0) (rmc := rm_X5_nodeCount) (st := []) (pc := 27) G 5 [] rfl (by decide) rfl dX9_read_27 tw_m_RX9_102 tw_i_X5_nodeCount tw_v_X5_nodeCount tw_z_RX5 tw_c_X5_nodeCount hy_X5_nodeCount (callrm hr rfl) rfl (RunsM.mono h (fun r5 M6 h => ?_)) Z.rm
      show AW X 30 _ [(0, _)] M6
      refine am_bipush (pc := 30) G dX9_read_30 (by decide) (by decide) ?_
      refine am_icmp_le (pc := 32) G 38 dX9_read_32 (by decide) (fun c => ?_) (fun c => ?_)
      · have h := h.1 c
        refine am_aload_n (i := 0) (t := 16) (pc := 38) G dX9_read_38 rfl rfl rfl ?_
        refine gf_X9_0 (pc := 39) G dX9_read_39 tw_f_RX9_10 ?_
        refine am_aload_n (i := 0) (t := 16) (pc := 42) G dX9_read_42 rfl rfl rfl ?_
        refine gf_X9_2 (pc := 43) G dX9_read_43 tw_f_RX9_23 ?_
        refine am_callV (rk := 4) (rmc := rm_X5_parse) (st := []) (pc := 46) G 5 [(17, _)] rfl (by decide) rfl dX9_read_46 tw_m_RX9_105 tw_i_X5_parse tw_v_X5_parse tw_z_RX5 tw_c_X5_parse hy_X5_parse (callrm hr rfl) rfl (RunsM.mono h (fun r7 M8 h => ?_)) Z.rm
        show AW X 49 _ [] M8
        refine am_aload_n (i := 0) (t := 16) (pc := 49) G dX9_read_49 rfl rfl rfl ?_
        refine gf_X9_0 (pc := 50) G dX9_read_50 tw_f_RX9_10 ?_
        refine am_iconst (pc := 53) G dX9_read_53 (by decide) ?_
        refine pf_X5_0 (pc := 54) G dX9_read_54 tw_f_RX9_91 ?_
        refine am_aload_n (i := 0) (t := 16) (pc := 57) G dX9_read_57 rfl rfl rfl ?_
        refine am_iload_n (i := 1) (pc := 58) G dX9_read_58 rfl rfl ?_
        refine am_aload_n (i := 0) (t := 16) (pc := 59) G dX9_read_59 rfl rfl rfl ?_
        refine gf_X9_2 (pc := 60) G dX9_read_60 tw_f_RX9_23 ?_
        have h := h _ rfl
        refine am_callV (rk := 0) (rmc := rm_X9_become) (st := []) (pc := 63) G 9 [(0, _), (17, _)] rfl (by decide) rfl dX9_read_63 tw_m_RX9_109 tw_i_X9_become tw_v_X9_become tw_z_RX9 tw_c_X9_become hy_X9_become (callrm hr rfl) rfl (RunsM.mono h (fun r10 M11 h => ?_)) Z.rm
        show AW X 66 _ [(0, _)] M11
        exact am_iret (pc := 66) G Z dX9_read_66 h
      · have h := h.2 c
        refine am_bipush (pc := 35) G dX9_read_35 (by decide) (by decide) ?_
        exact am_iret (pc := 37) G Z dX9_read_37 h
    · have h := h.2 c
      refine am_bipush (pc := 20) G dX9_read_20 (by decide) (by decide) ?_
      exact am_iret (pc := 22) G Z dX9_read_22 h
  · have h := h.1 c
    refine am_iconst (pc := 8) G dX9_read_8 (by decide) ?_
    exact am_iret (pc := 9) G Z dX9_read_9 h
-- X9_node TreeHands.node(III)I
def rm_X9_node : Room := { frames := 1, cells := 0, slots := 0, locals := 21 }
theorem hy_X9_node : yX9_node.cls ≠ "java/lang/invoke/MethodHandle" ∧ yX9_node.cls ≠ "java/lang/invoke/VarHandle" ∧ (parseMethodDescriptor yX9_node.desc).map (fun d => d.parameters.length) = some 3 := by decide +kernel
abbrev R_X9_node (V : VV) (x1 x2 x3 : Int) (M : Mem) (Q : Int → Mem → Prop) : Prop := RunsM V yX9_node (.code yX9_node cX9_node 5 (Option.some Jvm.ClassFile.FieldType.int)) rm_X9_node 0 [(19, 0), (0, x1), (0, x2), (0, x3)] M Q
def wp_X9_node (V : VV) (x1 x2 x3 : Int) (M : Mem) (Q : Int → Mem → Prop) : Prop :=
  R_X9_treeAt V x1 M (fun r1 M2 =>
  (r1 < 0 →
    Q (-1) M2) ∧ (¬ (r1 < 0) →
    R_X7_has V r1 x2 M2 (fun r3 M4 =>
    (r3 = 0 →
      Q (-1) M4) ∧ (¬ (r3 = 0) →
      ((x3 < 0 ∨ 5 < x3) →
        Q (-2) M4) ∧
      (x3 = 0 →
        ((0 : Int) ≤ x2 ∧ x2 < (16 : Int)) ∧
        Q (M4 (r1 + 1) x2) M4) ∧
      (x3 = 1 →
        ((0 : Int) ≤ x2 ∧ x2 < (16 : Int)) ∧
        Q (M4 (r1 + 4) x2) M4) ∧
      (x3 = 2 →
        ((0 : Int) ≤ x2 ∧ x2 < (16 : Int)) ∧
        Q (M4 (r1 + 5) x2) M4) ∧
      (x3 = 3 →
        ((0 : Int) ≤ x2 ∧ x2 < (16 : Int)) ∧
        Q (M4 (r1 + 2) x2) M4) ∧
      (x3 = 4 →
        ((0 : Int) ≤ x2 ∧ x2 < (16 : Int)) ∧
        Q (M4 (r1 + 3) x2) M4) ∧
      (x3 = 5 →
        ((0 : Int) ≤ x2 ∧ x2 < (16 : Int)) ∧
        Q (M4 (r1 + 6) x2) M4)))))
theorem of_X9_node {V : VV} {x1 x2 x3 : Int} {M : Mem} {Q : Int → Mem → Prop} (h : wp_X9_node V x1 x2 x3 M Q) : R_X9_node V x1 x2 x3 M Q := by
  refine met_in (own := "TreeHands") (by decide +kernel) rfl rfl (Nat.le_of_ble_eq_true rfl) ?_
  intro X G Z hn hr hv
  subst hv
  unfold wp_X9_node at h
  show AW X 0 [(19, 0), (0, x1), (0, x2), (0, x3), (99, 0)] [] M
  refine am_aload_n (i := 0) (t := 16) (pc := 0) G dX9_node_0 rfl rfl rfl ?_
  refine am_iload_n (i := 1) (pc := 1) G dX9_node_1 rfl rfl ?_
  refine am_callV (rk := 3) (rmc := rm_X9_treeAt) (st := []) (pc := 2) G 9 [(0, _)] rfl (by decide) rfl dX9_node_2 tw_m_RX9_98 tw_i_X9_treeAt tw_v_X9_treeAt tw_z_RX9 tw_c_X9_treeAt hy_X9_treeAt (callrm hr rfl) rfl (RunsM.mono h (fun r1 M2 h => ?_)) Z.rm
  show AW X 5 _ [(30017, _)] M2
  refine am_astore (t := 30014) (pc := 5) G dX9_node_5 (nlx hn rfl) rfl ?_
  refine am_aload (t := 30014) (pc := 7) (ls := [(19, _), (0, _), (0, _), (0, _), (30017, _)]) G dX9_node_7 rfl rfl ?_
  refine am_ifnull (t := 30014) (pc := 9) G 21 dX9_node_9 (by decide) (fun c => ?_) (fun c => ?_)
  · have h := h.1 c
    refine am_iconst (pc := 21) G dX9_node_21 (by decide) ?_
    exact am_iret (pc := 22) G Z dX9_node_22 h
  · have h := h.2 c
    refine am_retag (i := 4) (t := 17) (by decide) (by decide) rfl rfl (by omega) ?_
    show AW X 12 [(19, _), (0, _), (0, _), (0, _), (17, _)] _ _
    refine am_aload (t := 14) (pc := 12) G dX9_node_12 rfl rfl ?_
    refine am_iload_n (i := 2) (pc := 14) G dX9_node_14 rfl rfl ?_
    refine am_callV (rk := 1) (rmc := rm_X7_has) (st := []) (pc := 15) G 7 [(0, _)] rfl (by decide) rfl dX9_node_15 tw_m_RX9_113 tw_i_X7_has tw_v_X7_has tw_z_RX7 tw_c_X7_has hy_X7_has (callrm hr rfl) rfl (RunsM.mono h (fun r3 M4 h => ?_)) Z.rm
    show AW X 18 _ [(0, _)] M4
    refine am_if_ne (pc := 18) G 23 dX9_node_18 (by decide) (fun c => ?_) (fun c => ?_)
    · have h := h.2 c
      refine am_iload_n (i := 3) (pc := 23) G dX9_node_23 rfl rfl ?_
      rcases (show (x3 < 0 ∨ 5 < x3) ∨ x3 = 0 ∨ x3 = 1 ∨ x3 = 2 ∨ x3 = 3 ∨ x3 = 4 ∨ x3 = 5 by omega) with c | c | c | c | c | c | c
      · refine am_tableOut (pc := 24) G 112 dX9_node_24 c (by decide) ?_
        have h := h.1 c
        refine am_bipush (pc := 112) G dX9_node_112 (by decide) (by decide) ?_
        exact am_iret (pc := 114) G Z dX9_node_114 h
      · have h := h.2.1 c
        refine am_tableIn (off := 40) (pc := 24) G 64 dX9_node_24 (by rw [c]; decide) (by rw [c]; rfl) (by decide) ?_
        refine am_aload (t := 14) (pc := 64) G dX9_node_64 rfl rfl ?_
        refine gf_X7_1 (pc := 66) G dX9_node_66 tw_f_RX9_116 ?_
        refine am_iload_n (i := 2) (pc := 69) G dX9_node_69 rfl rfl ?_
        refine am_iald (pc := 70) G 16 dX9_node_70 (by decide) h.1 ?_
        have h := h.2
        exact am_iret (pc := 71) G Z dX9_node_71 h
      · have h := h.2.2.1 c
        refine am_tableIn (off := 48) (pc := 24) G 72 dX9_node_24 (by rw [c]; decide) (by rw [c]; rfl) (by decide) ?_
        refine am_aload (t := 14) (pc := 72) G dX9_node_72 rfl rfl ?_
        refine gf_X7_4 (pc := 74) G dX9_node_74 tw_f_RX9_119 ?_
        refine am_iload_n (i := 2) (pc := 77) G dX9_node_77 rfl rfl ?_
        refine am_iald (pc := 78) G 16 dX9_node_78 (by decide) h.1 ?_
        have h := h.2
        exact am_iret (pc := 79) G Z dX9_node_79 h
      · have h := h.2.2.2.1 c
        refine am_tableIn (off := 56) (pc := 24) G 80 dX9_node_24 (by rw [c]; decide) (by rw [c]; rfl) (by decide) ?_
        refine am_aload (t := 14) (pc := 80) G dX9_node_80 rfl rfl ?_
        refine gf_X7_5 (pc := 82) G dX9_node_82 tw_f_RX9_122 ?_
        refine am_iload_n (i := 2) (pc := 85) G dX9_node_85 rfl rfl ?_
        refine am_iald (pc := 86) G 16 dX9_node_86 (by decide) h.1 ?_
        have h := h.2
        exact am_iret (pc := 87) G Z dX9_node_87 h
      · have h := h.2.2.2.2.1 c
        refine am_tableIn (off := 64) (pc := 24) G 88 dX9_node_24 (by rw [c]; decide) (by rw [c]; rfl) (by decide) ?_
        refine am_aload (t := 14) (pc := 88) G dX9_node_88 rfl rfl ?_
        refine gf_X7_2 (pc := 90) G dX9_node_90 tw_f_RX9_125 ?_
        refine am_iload_n (i := 2) (pc := 93) G dX9_node_93 rfl rfl ?_
        refine am_iald (pc := 94) G 16 dX9_node_94 (by decide) h.1 ?_
        have h := h.2
        exact am_iret (pc := 95) G Z dX9_node_95 h
      · have h := h.2.2.2.2.2.1 c
        refine am_tableIn (off := 72) (pc := 24) G 96 dX9_node_24 (by rw [c]; decide) (by rw [c]; rfl) (by decide) ?_
        refine am_aload (t := 14) (pc := 96) G dX9_node_96 rfl rfl ?_
        refine gf_X7_3 (pc := 98) G dX9_node_98 tw_f_RX9_128 ?_
        refine am_iload_n (i := 2) (pc := 101) G dX9_node_101 rfl rfl ?_
        refine am_iald (pc := 102) G 16 dX9_node_102 (by decide) h.1 ?_
        have h := h.2
        exact am_iret (pc := 103) G Z dX9_node_103 h
      · have h := h.2.2.2.2.2.2 c
        refine am_tableIn (off := 80) (pc := 24) G 104 dX9_node_24 (by rw [c]; decide) (by rw [c]; rfl) (by decide) ?_
        refine am_aload (t := 14) (pc := 104) G dX9_node_104 rfl rfl ?_
        refine gf_X7_6 (pc := 106) G dX9_node_106 tw_f_RX9_131 ?_
        refine am_iload_n (i := 2) (pc := 109) G dX9_node_109 rfl rfl ?_
        refine am_iald (pc := 110) G 16 dX9_node_110 (by decide) h.1 ?_
        have h := h.2
        exact am_iret (pc := 111) G Z dX9_node_111 h
    · have h := h.1 c
      refine am_iconst (pc := 21) G dX9_node_21 (by decide) ?_
      exact am_iret (pc := 22) G Z dX9_node_22 h
-- X9_filledAt TreeHands.filledAt(I)LTreeHands$Tree;
def rm_X9_filledAt : Room := { frames := 1, cells := 0, slots := 0, locals := 21 }
theorem hy_X9_filledAt : yX9_filledAt.cls ≠ "java/lang/invoke/MethodHandle" ∧ yX9_filledAt.cls ≠ "java/lang/invoke/VarHandle" ∧ (parseMethodDescriptor yX9_filledAt.desc).map (fun d => d.parameters.length) = some 1 := by decide +kernel
abbrev R_X9_filledAt (V : VV) (x1 : Int) (M : Mem) (Q : Int → Mem → Prop) : Prop := RunsM V yX9_filledAt (.code yX9_filledAt cX9_filledAt 3 (Option.some (Jvm.ClassFile.FieldType.object "TreeHands$Tree"))) rm_X9_filledAt 3 [(19, 0), (0, x1)] M Q
def wp_X9_filledAt (V : VV) (x1 : Int) (M : Mem) (Q : Int → Mem → Prop) : Prop :=
  R_X9_treeAt V x1 M (fun r1 M2 =>
  (r1 < 0 →
    Q (-1) M2) ∧ (¬ (r1 < 0) →
    (M2 r1 0 ≤ 0 →
      Q (-1) M2) ∧ (¬ (M2 r1 0 ≤ 0) →
      Q r1 M2)))
theorem of_X9_filledAt {V : VV} {x1 : Int} {M : Mem} {Q : Int → Mem → Prop} (h : wp_X9_filledAt V x1 M Q) : R_X9_filledAt V x1 M Q := by
  refine met_in (own := "TreeHands") (by decide +kernel) rfl ⟨_, rfl⟩ (Nat.le_of_ble_eq_true rfl) ?_
  intro X G Z hn hr hv
  subst hv
  unfold wp_X9_filledAt at h
  show AW X 0 [(19, 0), (0, x1), (99, 0)] [] M
  refine am_aload_n (i := 0) (t := 16) (pc := 0) G dX9_filledAt_0 rfl rfl rfl ?_
  refine am_iload_n (i := 1) (pc := 1) G dX9_filledAt_1 rfl rfl ?_
  refine am_callV (rk := 3) (rmc := rm_X9_treeAt) (st := []) (pc := 2) G 9 [(0, _)] rfl (by decide) rfl dX9_filledAt_2 tw_m_RX9_98 tw_i_X9_treeAt tw_v_X9_treeAt tw_z_RX9 tw_c_X9_treeAt hy_X9_treeAt (callrm hr rfl) rfl (RunsM.mono h (fun r1 M2 h => ?_)) Z.rm
  show AW X 5 _ [(30017, _)] M2
  refine am_astore_n (t := 30014) (pc := 5) G dX9_filledAt_5 rfl (nlx hn rfl) rfl ?_
  refine am_aload_n (i := 2) (t := 30014) (pc := 6) (ls := [(19, _), (0, _), (30017, _)]) G dX9_filledAt_6 rfl rfl rfl ?_
  refine am_ifnull (t := 30014) (pc := 7) G 21 dX9_filledAt_7 (by decide) (fun c => ?_) (fun c => ?_)
  · have h := h.1 c
    refine am_null (pc := 21) G dX9_filledAt_21 ?_
    exact am_aret (pc := 22) G Z dX9_filledAt_22 h
  · have h := h.2 c
    refine am_retag (i := 2) (t := 17) (by decide) (by decide) rfl rfl (by omega) ?_
    show AW X 10 [(19, _), (0, _), (17, _)] _ _
    refine am_aload_n (i := 2) (t := 14) (pc := 10) G dX9_filledAt_10 rfl rfl rfl ?_
    refine gf_X7_0 (pc := 11) G dX9_filledAt_11 tw_f_RX9_171 ?_
    refine am_if_le (pc := 14) G 21 dX9_filledAt_14 (by decide) (fun c => ?_) (fun c => ?_)
    · have h := h.1 c
      refine am_null (pc := 21) G dX9_filledAt_21 ?_
      exact am_aret (pc := 22) G Z dX9_filledAt_22 h
    · have h := h.2 c
      refine am_aload_n (i := 2) (t := 14) (pc := 17) G dX9_filledAt_17 rfl rfl rfl ?_
      refine am_goto (pc := 18) G 22 dX9_filledAt_18 (by decide) ?_
      refine am_wkS (t := 17) (by decide) rfl (by decide) ?_
      exact am_aret (pc := 22) G Z dX9_filledAt_22 h
-- X9_sign TreeHands.sign(II)I
def rm_X9_sign : Room := { frames := 2, cells := 0, slots := 0, locals := 47 }
theorem hy_X9_sign : yX9_sign.cls ≠ "java/lang/invoke/MethodHandle" ∧ yX9_sign.cls ≠ "java/lang/invoke/VarHandle" ∧ (parseMethodDescriptor yX9_sign.desc).map (fun d => d.parameters.length) = some 2 := by decide +kernel
abbrev R_X9_sign (V : VV) (x1 x2 : Int) (M : Mem) (Q : Int → Mem → Prop) : Prop := RunsM V yX9_sign (.code yX9_sign cX9_sign 5 (Option.some Jvm.ClassFile.FieldType.int)) rm_X9_sign 0 [(19, 0), (0, x1), (0, x2)] M Q
def wp_X9_sign (V : VV) (x1 x2 : Int) (M : Mem) (Q : Int → Mem → Prop) : Prop :=
  R_X9_filledAt V x1 M (fun r1 M2 =>
  (r1 < 0 →
    Q (-1) M2) ∧ (¬ (r1 < 0) →
    R_X7_write V r1 11 M2 (fun r3 M4 =>
    (x2 = (-1) →
      Q r3 M4) ∧ (¬ (x2 = (-1)) →
      (x2 < 0 →
        Q (-6) M4) ∧ (¬ (x2 < 0) →
        (r3 ≤ x2 →
          Q (-6) M4) ∧ (¬ (r3 ≤ x2) →
          (60 ≤ x2 →
            Q (-6) M4) ∧ (¬ (60 ≤ x2) →
            ((0 : Int) ≤ x2 ∧ x2 < (60 : Int)) ∧
            Q (M4 11 x2) M4)))))))
theorem of_X9_sign {V : VV} {x1 x2 : Int} {M : Mem} {Q : Int → Mem → Prop} (h : wp_X9_sign V x1 x2 M Q) : R_X9_sign V x1 x2 M Q := by
  refine met_in (own := "TreeHands") (by decide +kernel) rfl rfl (Nat.le_of_ble_eq_true rfl) ?_
  intro X G Z hn hr hv
  subst hv
  unfold wp_X9_sign at h
  show AW X 0 [(19, 0), (0, x1), (0, x2), (99, 0), (99, 0)] [] M
  refine am_aload_n (i := 0) (t := 16) (pc := 0) G dX9_sign_0 rfl rfl rfl ?_
  refine am_iload_n (i := 1) (pc := 1) G dX9_sign_1 rfl rfl ?_
  refine am_callV (rk := 3) (rmc := rm_X9_filledAt) (st := []) (pc := 2) G 9 [(0, _)] rfl (by decide) rfl dX9_sign_2 tw_m_RX9_134 tw_i_X9_filledAt tw_v_X9_filledAt tw_z_RX9 tw_c_X9_filledAt hy_X9_filledAt (callrm hr rfl) rfl (RunsM.mono h (fun r1 M2 h => ?_)) Z.rm
  show AW X 5 _ [(30017, _)] M2
  refine am_astore_n (t := 30014) (pc := 5) G dX9_sign_5 rfl (nlx hn rfl) rfl ?_
  refine am_aload_n (i := 3) (t := 30014) (pc := 6) (ls := [(19, _), (0, _), (0, _), (30017, _), (99, _)]) G dX9_sign_6 rfl rfl rfl ?_
  refine am_ifnonnull (t := 30014) (pc := 7) G 12 dX9_sign_7 (by decide) (fun c => ?_) (fun c => ?_)
  · have h := h.2 c
    refine am_retag (i := 3) (t := 17) (by decide) (by decide) rfl rfl (by omega) ?_
    show AW X 12 [(19, _), (0, _), (0, _), (17, _), (99, _)] _ _
    refine am_aload_n (i := 3) (t := 14) (pc := 12) G dX9_sign_12 rfl rfl rfl ?_
    refine am_aload_n (i := 0) (t := 16) (pc := 13) G dX9_sign_13 rfl rfl rfl ?_
    refine gf_X9_3 (pc := 14) G dX9_sign_14 tw_f_RX9_27 ?_
    refine am_callV (rk := 0) (rmc := rm_X7_write) (st := []) (pc := 17) G 7 [(160, _)] rfl (by decide) rfl dX9_sign_17 tw_m_RX9_137 tw_i_X7_write tw_v_X7_write tw_z_RX7 tw_c_X7_write hy_X7_write (callrm hr rfl) rfl (RunsM.mono h (fun r3 M4 h => ?_)) Z.rm
    show AW X 20 _ [(0, _)] M4
    refine am_istore (pc := 20) G dX9_sign_20 (nlx hn rfl) rfl ?_
    refine am_iload_n (i := 2) (pc := 22) (ls := [(19, _), (0, _), (0, _), (17, _), (0, _)]) G dX9_sign_22 rfl rfl ?_
    refine am_iconst (pc := 23) G dX9_sign_23 (by decide) ?_
    refine am_icmp_ne (pc := 24) G 30 dX9_sign_24 (by decide) (fun c => ?_) (fun c => ?_)
    · have h := h.2 c
      refine am_iload_n (i := 2) (pc := 30) G dX9_sign_30 rfl rfl ?_
      refine am_if_lt (pc := 31) G 58 dX9_sign_31 (by decide) (fun c => ?_) (fun c => ?_)
      · have h := h.1 c
        refine am_bipush (pc := 58) G dX9_sign_58 (by decide) (by decide) ?_
        exact am_iret (pc := 60) G Z dX9_sign_60 h
      · have h := h.2 c
        refine am_iload_n (i := 2) (pc := 34) G dX9_sign_34 rfl rfl ?_
        refine am_iload (pc := 35) G dX9_sign_35 rfl ?_
        refine am_icmp_ge (pc := 37) G 58 dX9_sign_37 (by decide) (fun c => ?_) (fun c => ?_)
        · have h := h.1 c
          refine am_bipush (pc := 58) G dX9_sign_58 (by decide) (by decide) ?_
          exact am_iret (pc := 60) G Z dX9_sign_60 h
        · have h := h.2 c
          refine am_iload_n (i := 2) (pc := 40) G dX9_sign_40 rfl rfl ?_
          refine am_aload_n (i := 0) (t := 16) (pc := 41) G dX9_sign_41 rfl rfl rfl ?_
          refine gf_X9_3 (pc := 42) G dX9_sign_42 tw_f_RX9_27 ?_
          refine am_alen (pc := 45) G 60 dX9_sign_45 (by decide) ?_
          refine am_icmp_ge (pc := 46) G 58 dX9_sign_46 (by decide) (fun c => ?_) (fun c => ?_)
          · have h := h.1 c
            refine am_bipush (pc := 58) G dX9_sign_58 (by decide) (by decide) ?_
            exact am_iret (pc := 60) G Z dX9_sign_60 h
          · have h := h.2 c
            refine am_aload_n (i := 0) (t := 16) (pc := 49) G dX9_sign_49 rfl rfl rfl ?_
            refine gf_X9_3 (pc := 50) G dX9_sign_50 tw_f_RX9_27 ?_
            refine am_iload_n (i := 2) (pc := 53) G dX9_sign_53 rfl rfl ?_
            refine am_iald (pc := 54) G 60 dX9_sign_54 (by decide) h.1 ?_
            have h := h.2
            refine am_goto (pc := 55) G 60 dX9_sign_55 (by decide) ?_
            exact am_iret (pc := 60) G Z dX9_sign_60 h
    · have h := h.1 c
      refine am_iload (pc := 27) G dX9_sign_27 rfl ?_
      exact am_iret (pc := 29) G Z dX9_sign_29 h
  · have h := h.1 c
    refine am_iconst (pc := 10) G dX9_sign_10 (by decide) ?_
    exact am_iret (pc := 11) G Z dX9_sign_11 h
-- X9_take TreeHands.take(III)I
def rm_X9_take : Room := { frames := 3, cells := 0, slots := 0, locals := 67 }
theorem hy_X9_take : yX9_take.cls ≠ "java/lang/invoke/MethodHandle" ∧ yX9_take.cls ≠ "java/lang/invoke/VarHandle" ∧ (parseMethodDescriptor yX9_take.desc).map (fun d => d.parameters.length) = some 3 := by decide +kernel
abbrev R_X9_take (V : VV) (x1 x2 x3 : Int) (M : Mem) (Q : Int → Mem → Prop) : Prop := RunsM V yX9_take (.code yX9_take cX9_take 5 (Option.some Jvm.ClassFile.FieldType.int)) rm_X9_take 0 [(19, 0), (0, x1), (0, x2), (0, x3)] M Q
def wp_X9_take (V : VV) (x1 x2 x3 : Int) (M : Mem) (Q : Int → Mem → Prop) : Prop :=
  R_X9_treeAt V x1 M (fun r1 M2 =>
  (r1 < 0 →
    Q (-1) M2) ∧ (¬ (r1 < 0) →
    R_X7_has V r1 x2 M2 (fun r3 M4 =>
    (r3 = 0 →
      Q (-1) M4) ∧ (¬ (r3 = 0) →
      R_X9_treeAt V x3 M4 (fun r5 M6 =>
      (r5 < 0 →
        Q (-1) M6) ∧ (¬ (r5 < 0) →
        R_X7_copyPart V 4 r1 x2 M6 (fun _ M8 =>
        R_X9_become V x3 4 M8 (fun r9 M10 =>
        Q r9 M10))))))))
theorem of_X9_take {V : VV} {x1 x2 x3 : Int} {M : Mem} {Q : Int → Mem → Prop} (h : wp_X9_take V x1 x2 x3 M Q) : R_X9_take V x1 x2 x3 M Q := by
  refine met_in (own := "TreeHands") (by decide +kernel) rfl rfl (Nat.le_of_ble_eq_true rfl) ?_
  intro X G Z hn hr hv
  subst hv
  unfold wp_X9_take at h
  show AW X 0 [(19, 0), (0, x1), (0, x2), (0, x3), (99, 0)] [] M
  refine am_aload_n (i := 0) (t := 16) (pc := 0) G dX9_take_0 rfl rfl rfl ?_
  refine am_iload_n (i := 1) (pc := 1) G dX9_take_1 rfl rfl ?_
  refine am_callV (rk := 3) (rmc := rm_X9_treeAt) (st := []) (pc := 2) G 9 [(0, _)] rfl (by decide) rfl dX9_take_2 tw_m_RX9_98 tw_i_X9_treeAt tw_v_X9_treeAt tw_z_RX9 tw_c_X9_treeAt hy_X9_treeAt (callrm hr rfl) rfl (RunsM.mono h (fun r1 M2 h => ?_)) Z.rm
  show AW X 5 _ [(30017, _)] M2
  refine am_astore (t := 30014) (pc := 5) G dX9_take_5 (nlx hn rfl) rfl ?_
  refine am_aload (t := 30014) (pc := 7) (ls := [(19, _), (0, _), (0, _), (0, _), (30017, _)]) G dX9_take_7 rfl rfl ?_
  refine am_ifnull (t := 30014) (pc := 9) G 29 dX9_take_9 (by decide) (fun c => ?_) (fun c => ?_)
  · have h := h.1 c
    refine am_iconst (pc := 29) G dX9_take_29 (by decide) ?_
    exact am_iret (pc := 30) G Z dX9_take_30 h
  · have h := h.2 c
    refine am_retag (i := 4) (t := 17) (by decide) (by decide) rfl rfl (by omega) ?_
    show AW X 12 [(19, _), (0, _), (0, _), (0, _), (17, _)] _ _
    refine am_aload (t := 14) (pc := 12) G dX9_take_12 rfl rfl ?_
    refine am_iload_n (i := 2) (pc := 14) G dX9_take_14 rfl rfl ?_
    refine am_callV (rk := 1) (rmc := rm_X7_has) (st := []) (pc := 15) G 7 [(0, _)] rfl (by decide) rfl dX9_take_15 tw_m_RX9_113 tw_i_X7_has tw_v_X7_has tw_z_RX7 tw_c_X7_has hy_X7_has (callrm hr rfl) rfl (RunsM.mono h (fun r3 M4 h => ?_)) Z.rm
    show AW X 18 _ [(0, _)] M4
    refine am_if_eq (pc := 18) G 29 dX9_take_18 (by decide) (fun c => ?_) (fun c => ?_)
    · have h := h.1 c
      refine am_iconst (pc := 29) G dX9_take_29 (by decide) ?_
      exact am_iret (pc := 30) G Z dX9_take_30 h
    · have h := h.2 c
      refine am_aload_n (i := 0) (t := 16) (pc := 21) G dX9_take_21 rfl rfl rfl ?_
      refine am_iload_n (i := 3) (pc := 22) G dX9_take_22 rfl rfl ?_
      refine am_callV (rk := 3) (rmc := rm_X9_treeAt) (st := []) (pc := 23) G 9 [(0, _)] rfl (by decide) rfl dX9_take_23 tw_m_RX9_98 tw_i_X9_treeAt tw_v_X9_treeAt tw_z_RX9 tw_c_X9_treeAt hy_X9_treeAt (callrm hr rfl) rfl (RunsM.mono h (fun r5 M6 h => ?_)) Z.rm
      show AW X 26 _ [(30017, _)] M6
      refine am_ifnonnull (t := 30014) (pc := 26) G 31 dX9_take_26 (by decide) (fun c => ?_) (fun c => ?_)
      · have h := h.2 c
        refine am_aload_n (i := 0) (t := 16) (pc := 31) G dX9_take_31 rfl rfl rfl ?_
        refine gf_X9_2 (pc := 32) G dX9_take_32 tw_f_RX9_23 ?_
        refine am_aload (t := 14) (pc := 35) G dX9_take_35 rfl rfl ?_
        refine am_iload_n (i := 2) (pc := 37) G dX9_take_37 rfl rfl ?_
        refine am_callV (rk := 4) (rmc := rm_X7_copyPart) (st := []) (pc := 38) G 7 [(17, _), (0, _)] rfl (by decide) rfl dX9_take_38 tw_m_RX9_141 tw_i_X7_copyPart tw_v_X7_copyPart tw_z_RX7 tw_c_X7_copyPart hy_X7_copyPart (callrm hr rfl) rfl (RunsM.mono h (fun r7 M8 h => ?_)) Z.rm
        show AW X 41 _ [] M8
        refine am_aload_n (i := 0) (t := 16) (pc := 41) G dX9_take_41 rfl rfl rfl ?_
        refine am_iload_n (i := 3) (pc := 42) G dX9_take_42 rfl rfl ?_
        refine am_aload_n (i := 0) (t := 16) (pc := 43) G dX9_take_43 rfl rfl rfl ?_
        refine gf_X9_2 (pc := 44) G dX9_take_44 tw_f_RX9_23 ?_
        refine am_callV (rk := 0) (rmc := rm_X9_become) (st := []) (pc := 47) G 9 [(0, _), (17, _)] rfl (by decide) rfl dX9_take_47 tw_m_RX9_109 tw_i_X9_become tw_v_X9_become tw_z_RX9 tw_c_X9_become hy_X9_become (callrm hr rfl) rfl (RunsM.mono h (fun r9 M10 h => ?_)) Z.rm
        show AW X 50 _ [(0, _)] M10
        exact am_iret (pc := 50) G Z dX9_take_50 h
      · have h := h.1 c
        refine am_iconst (pc := 29) G dX9_take_29 (by decide) ?_
        exact am_iret (pc := 30) G Z dX9_take_30 h
-- X9_alike TreeHands.alike(IIII)I
def rm_X9_alike : Room := { frames := 2, cells := 0, slots := 0, locals := 45 }
theorem hy_X9_alike : yX9_alike.cls ≠ "java/lang/invoke/MethodHandle" ∧ yX9_alike.cls ≠ "java/lang/invoke/VarHandle" ∧ (parseMethodDescriptor yX9_alike.desc).map (fun d => d.parameters.length) = some 4 := by decide +kernel
abbrev R_X9_alike (V : VV) (x1 x2 x3 x4 : Int) (M : Mem) (Q : Int → Mem → Prop) : Prop := RunsM V yX9_alike (.code yX9_alike cX9_alike 7 (Option.some Jvm.ClassFile.FieldType.int)) rm_X9_alike 0 [(19, 0), (0, x1), (0, x2), (0, x3), (0, x4)] M Q
def wp_X9_alike (V : VV) (x1 x2 x3 x4 : Int) (M : Mem) (Q : Int → Mem → Prop) : Prop :=
  R_X9_treeAt V x1 M (fun r1 M2 =>
  R_X9_treeAt V x3 M2 (fun r3 M4 =>
  (r1 < 0 →
    Q (-1) M4) ∧ (¬ (r1 < 0) →
    (r3 < 0 →
      Q (-1) M4) ∧ (¬ (r3 < 0) →
      R_X7_has V r1 x2 M4 (fun r5 M6 =>
      (r5 = 0 →
        Q (-1) M6) ∧ (¬ (r5 = 0) →
        R_X7_has V r3 x4 M6 (fun r7 M8 =>
        (r7 = 0 →
          Q (-1) M8) ∧ (¬ (r7 = 0) →
          R_X7_isAs V r1 x2 r3 x4 M8 (fun r9 M10 =>
          (r9 = 0 →
            Q 0 M10) ∧ (¬ (r9 = 0) →
            Q 1 M10))))))))))
theorem of_X9_alike {V : VV} {x1 x2 x3 x4 : Int} {M : Mem} {Q : Int → Mem → Prop} (h : wp_X9_alike V x1 x2 x3 x4 M Q) : R_X9_alike V x1 x2 x3 x4 M Q := by
  refine met_in (own := "TreeHands") (by decide +kernel) rfl rfl (Nat.le_of_ble_eq_true rfl) ?_
  intro X G Z hn hr hv
  subst hv
  unfold wp_X9_alike at h
  show AW X 0 [(19, 0), (0, x1), (0, x2), (0, x3), (0, x4), (99, 0), (99, 0)] [] M
  refine am_aload_n (i := 0) (t := 16) (pc := 0) G dX9_alike_0 rfl rfl rfl ?_
  refine am_iload_n (i := 1) (pc := 1) G dX9_alike_1 rfl rfl ?_
  refine am_callV (rk := 3) (rmc := rm_X9_treeAt) (st := []) (pc := 2) G 9 [(0, _)] rfl (by decide) rfl dX9_alike_2 tw_m_RX9_98 tw_i_X9_treeAt tw_v_X9_treeAt tw_z_RX9 tw_c_X9_treeAt hy_X9_treeAt (callrm hr rfl) rfl (RunsM.mono h (fun r1 M2 h => ?_)) Z.rm
  show AW X 5 _ [(30017, _)] M2
  refine am_astore (t := 30014) (pc := 5) G dX9_alike_5 (nlx hn rfl) rfl ?_
  refine am_aload_n (i := 0) (t := 16) (pc := 7) (ls := [(19, _), (0, _), (0, _), (0, _), (0, _), (30017, _), (99, _)]) G dX9_alike_7 rfl rfl rfl ?_
  refine am_iload_n (i := 3) (pc := 8) G dX9_alike_8 rfl rfl ?_
  refine am_callV (rk := 3) (rmc := rm_X9_treeAt) (st := []) (pc := 9) G 9 [(0, _)] rfl (by decide) rfl dX9_alike_9 tw_m_RX9_98 tw_i_X9_treeAt tw_v_X9_treeAt tw_z_RX9 tw_c_X9_treeAt hy_X9_treeAt (callrm hr rfl) rfl (RunsM.mono h (fun r3 M4 h => ?_)) Z.rm
  show AW X 12 _ [(30017, _)] M4
  refine am_astore (t := 30014) (pc := 12) G dX9_alike_12 (nlx hn rfl) rfl ?_
  refine am_aload (t := 30014) (pc := 14) (ls := [(19, _), (0, _), (0, _), (0, _), (0, _), (30017, _), (30017, _)]) G dX9_alike_14 rfl rfl ?_
  refine am_ifnull (t := 30014) (pc := 16) G 43 dX9_alike_16 (by decide) (fun c => ?_) (fun c => ?_)
  · have h := h.1 c
    refine am_iconst (pc := 43) G dX9_alike_43 (by decide) ?_
    exact am_iret (pc := 44) G Z dX9_alike_44 h
  · have h := h.2 c
    refine am_retag (i := 5) (t := 17) (by decide) (by decide) rfl rfl (by omega) ?_
    show AW X 19 [(19, _), (0, _), (0, _), (0, _), (0, _), (17, _), (30017, _)] _ _
    refine am_aload (t := 30014) (pc := 19) G dX9_alike_19 rfl rfl ?_
    refine am_ifnull (t := 30014) (pc := 21) G 43 dX9_alike_21 (by decide) (fun c => ?_) (fun c => ?_)
    · have h := h.1 c
      refine am_iconst (pc := 43) G dX9_alike_43 (by decide) ?_
      exact am_iret (pc := 44) G Z dX9_alike_44 h
    · have h := h.2 c
      refine am_retag (i := 6) (t := 17) (by decide) (by decide) rfl rfl (by omega) ?_
      show AW X 24 [(19, _), (0, _), (0, _), (0, _), (0, _), (17, _), (17, _)] _ _
      refine am_aload (t := 14) (pc := 24) G dX9_alike_24 rfl rfl ?_
      refine am_iload_n (i := 2) (pc := 26) G dX9_alike_26 rfl rfl ?_
      refine am_callV (rk := 1) (rmc := rm_X7_has) (st := []) (pc := 27) G 7 [(0, _)] rfl (by decide) rfl dX9_alike_27 tw_m_RX9_113 tw_i_X7_has tw_v_X7_has tw_z_RX7 tw_c_X7_has hy_X7_has (callrm hr rfl) rfl (RunsM.mono h (fun r5 M6 h => ?_)) Z.rm
      show AW X 30 _ [(0, _)] M6
      refine am_if_eq (pc := 30) G 43 dX9_alike_30 (by decide) (fun c => ?_) (fun c => ?_)
      · have h := h.1 c
        refine am_iconst (pc := 43) G dX9_alike_43 (by decide) ?_
        exact am_iret (pc := 44) G Z dX9_alike_44 h
      · have h := h.2 c
        refine am_aload (t := 14) (pc := 33) G dX9_alike_33 rfl rfl ?_
        refine am_iload (pc := 35) G dX9_alike_35 rfl ?_
        refine am_callV (rk := 1) (rmc := rm_X7_has) (st := []) (pc := 37) G 7 [(0, _)] rfl (by decide) rfl dX9_alike_37 tw_m_RX9_113 tw_i_X7_has tw_v_X7_has tw_z_RX7 tw_c_X7_has hy_X7_has (callrm hr rfl) rfl (RunsM.mono h (fun r7 M8 h => ?_)) Z.rm
        show AW X 40 _ [(0, _)] M8
        refine am_if_ne (pc := 40) G 45 dX9_alike_40 (by decide) (fun c => ?_) (fun c => ?_)
        · have h := h.2 c
          refine am_aload (t := 14) (pc := 45) G dX9_alike_45 rfl rfl ?_
          refine am_iload_n (i := 2) (pc := 47) G dX9_alike_47 rfl rfl ?_
          refine am_aload (t := 14) (pc := 48) G dX9_alike_48 rfl rfl ?_
          refine am_iload (pc := 50) G dX9_alike_50 rfl ?_
          refine am_callV (rk := 1) (rmc := rm_X7_isAs) (st := []) (pc := 52) G 7 [(0, _), (17, _), (0, _)] rfl (by decide) rfl dX9_alike_52 tw_m_RX9_145 tw_i_X7_isAs tw_v_X7_isAs tw_z_RX7 tw_c_X7_isAs hy_X7_isAs (callrm hr rfl) rfl (RunsM.mono h (fun r9 M10 h => ?_)) Z.rm
          show AW X 55 _ [(0, _)] M10
          refine am_if_eq (pc := 55) G 62 dX9_alike_55 (by decide) (fun c => ?_) (fun c => ?_)
          · have h := h.1 c
            refine am_iconst (pc := 62) G dX9_alike_62 (by decide) ?_
            exact am_iret (pc := 63) G Z dX9_alike_63 h
          · have h := h.2 c
            refine am_iconst (pc := 58) G dX9_alike_58 (by decide) ?_
            refine am_goto (pc := 59) G 63 dX9_alike_59 (by decide) ?_
            exact am_iret (pc := 63) G Z dX9_alike_63 h
        · have h := h.1 c
          refine am_iconst (pc := 43) G dX9_alike_43 (by decide) ?_
          exact am_iret (pc := 44) G Z dX9_alike_44 h
-- X9_price TreeHands.price(II)I
def rm_X9_price : Room := { frames := 1, cells := 0, slots := 0, locals := 20 }
theorem hy_X9_price : yX9_price.cls ≠ "java/lang/invoke/MethodHandle" ∧ yX9_price.cls ≠ "java/lang/invoke/VarHandle" ∧ (parseMethodDescriptor yX9_price.desc).map (fun d => d.parameters.length) = some 2 := by decide +kernel
abbrev R_X9_price (V : VV) (x1 x2 : Int) (M : Mem) (Q : Int → Mem → Prop) : Prop := RunsM V yX9_price (.code yX9_price cX9_price 4 (Option.some Jvm.ClassFile.FieldType.int)) rm_X9_price 0 [(19, 0), (0, x1), (0, x2)] M Q
def wp_X9_price (V : VV) (x1 x2 : Int) (M : Mem) (Q : Int → Mem → Prop) : Prop :=
  (x1 < 0 →
    Q (-2) M) ∧ (¬ (x1 < 0) →
    (3 ≤ x1 →
      Q (-2) M) ∧ (¬ (3 ≤ x1) →
      (x2 < 0 →
        Q (-2) M) ∧ (¬ (x2 < 0) →
        (x2 ≤ 9 →
          ((0 : Int) ≤ x1 ∧ x1 < (3 : Int)) ∧
          ∀ v1 : Int, v1 = M 13 x1 →
          ((0 : Int) ≤ x1 ∧ x1 < (3 : Int)) ∧
          ∀ M2 : Mem, M2 = mset M 13 x1 x2 →
          R_X9_forgetLeading V M2 (fun _ M4 =>
          Q v1 M4)) ∧ (¬ (x2 ≤ 9) →
          Q (-2) M))))
theorem of_X9_price {V : VV} {x1 x2 : Int} {M : Mem} {Q : Int → Mem → Prop} (h : wp_X9_price V x1 x2 M Q) : R_X9_price V x1 x2 M Q := by
  refine met_in (own := "TreeHands") (by decide +kernel) rfl rfl (Nat.le_of_ble_eq_true rfl) ?_
  intro X G Z hn hr hv
  subst hv
  unfold wp_X9_price at h
  show AW X 0 [(19, 0), (0, x1), (0, x2), (99, 0)] [] M
  refine am_iload_n (i := 1) (pc := 0) G dX9_price_0 rfl rfl ?_
  refine am_if_lt (pc := 1) G 26 dX9_price_1 (by decide) (fun c => ?_) (fun c => ?_)
  · have h := h.1 c
    refine am_bipush (pc := 26) G dX9_price_26 (by decide) (by decide) ?_
    exact am_iret (pc := 28) G Z dX9_price_28 h
  · have h := h.2 c
    refine am_iload_n (i := 1) (pc := 4) G dX9_price_4 rfl rfl ?_
    refine am_aload_n (i := 0) (t := 16) (pc := 5) G dX9_price_5 rfl rfl rfl ?_
    refine gf_X9_4 (pc := 6) G dX9_price_6 tw_f_RX9_34 ?_
    refine gf_X2_0 (pc := 9) G dX9_price_9 tw_f_RX9_149 ?_
    refine am_alen (pc := 12) G 3 dX9_price_12 (by decide) ?_
    refine am_icmp_ge (pc := 13) G 26 dX9_price_13 (by decide) (fun c => ?_) (fun c => ?_)
    · have h := h.1 c
      refine am_bipush (pc := 26) G dX9_price_26 (by decide) (by decide) ?_
      exact am_iret (pc := 28) G Z dX9_price_28 h
    · have h := h.2 c
      refine am_iload_n (i := 2) (pc := 16) G dX9_price_16 rfl rfl ?_
      refine am_if_lt (pc := 17) G 26 dX9_price_17 (by decide) (fun c => ?_) (fun c => ?_)
      · have h := h.1 c
        refine am_bipush (pc := 26) G dX9_price_26 (by decide) (by decide) ?_
        exact am_iret (pc := 28) G Z dX9_price_28 h
      · have h := h.2 c
        refine am_iload_n (i := 2) (pc := 20) G dX9_price_20 rfl rfl ?_
        refine am_bipush (pc := 21) G dX9_price_21 (by decide) (by decide) ?_
        refine am_icmp_le (pc := 23) G 29 dX9_price_23 (by decide) (fun c => ?_) (fun c => ?_)
        · have h := h.1 c
          refine am_aload_n (i := 0) (t := 16) (pc := 29) G dX9_price_29 rfl rfl rfl ?_
          refine gf_X9_4 (pc := 30) G dX9_price_30 tw_f_RX9_34 ?_
          refine gf_X2_0 (pc := 33) G dX9_price_33 tw_f_RX9_149 ?_
          refine am_iload_n (i := 1) (pc := 36) G dX9_price_36 rfl rfl ?_
          refine am_iald (pc := 37) G 3 dX9_price_37 (by decide) h.1 ?_
          have h := h.2
          have h := h _ rfl
          refine am_istore_n (pc := 38) G dX9_price_38 rfl (nlx hn rfl) rfl ?_
          refine am_aload_n (i := 0) (t := 16) (pc := 39) (ls := [(19, _), (0, _), (0, _), (0, _)]) G dX9_price_39 rfl rfl rfl ?_
          refine gf_X9_4 (pc := 40) G dX9_price_40 tw_f_RX9_34 ?_
          refine gf_X2_0 (pc := 43) G dX9_price_43 tw_f_RX9_149 ?_
          refine am_iload_n (i := 1) (pc := 46) G dX9_price_46 rfl rfl ?_
          refine am_iload_n (i := 2) (pc := 47) G dX9_price_47 rfl rfl ?_
          refine am_iast (pc := 48) G 3 dX9_price_48 (by decide) h.1 ?_
          have h := h.2
          refine am_aload_n (i := 0) (t := 16) (pc := 49) G dX9_price_49 rfl rfl rfl ?_
          have h := h _ rfl
          refine am_callV (rk := 4) (rmc := rm_X9_forgetLeading) (st := []) (pc := 50) G 9 [] rfl (by decide) rfl dX9_price_50 tw_m_RX9_152 tw_i_X9_forgetLeading tw_v_X9_forgetLeading tw_z_RX9 tw_c_X9_forgetLeading hy_X9_forgetLeading (callrm hr rfl) rfl (RunsM.mono h (fun r3 M4 h => ?_)) Z.rm
          show AW X 53 _ [] M4
          refine am_iload_n (i := 3) (pc := 53) G dX9_price_53 rfl rfl ?_
          exact am_iret (pc := 54) G Z dX9_price_54 h
        · have h := h.2 c
          refine am_bipush (pc := 26) G dX9_price_26 (by decide) (by decide) ?_
          exact am_iret (pc := 28) G Z dX9_price_28 h
-- X9_leads TreeHands.leads(II)Z
def rm_X9_leads : Room := { frames := 5, cells := 0, slots := 0, locals := 129 }
theorem hy_X9_leads : yX9_leads.cls ≠ "java/lang/invoke/MethodHandle" ∧ yX9_leads.cls ≠ "java/lang/invoke/VarHandle" ∧ (parseMethodDescriptor yX9_leads.desc).map (fun d => d.parameters.length) = some 2 := by decide +kernel
abbrev R_X9_leads (V : VV) (x1 x2 : Int) (M : Mem) (Q : Int → Mem → Prop) : Prop := RunsM V yX9_leads (.code yX9_leads cX9_leads 5 (Option.some Jvm.ClassFile.FieldType.boolean)) rm_X9_leads 1 [(19, 0), (0, x1), (0, x2)] M Q
def wp_X9_leads_40 (V : VV) (x1 x2 x3 x4 : Int) (M : Mem) (Q : Int → Mem → Prop) : Prop :=
  R_X2_lead V x3 x4 M (fun _ M6 =>
  R_X3_pair V x3 14 x4 15 M6 (fun _ M8 =>
  ∀ M9 : Mem, M9 = mset M8 0 11 x1 →
  Q 1 (mset M9 0 12 x2)))
theorem swp_X9_leads_40 {X : XX} {Q : Int → Mem → Prop} (G : GX X cX9_leads "TreeHands") (Z : RX X 1 Q) (hn : nLX X = 5) (hr : roomX X = rm_X9_leads) (x1 x2 x3 x4 : Int) (M : Mem) (h : wp_X9_leads_40 (vX X) x1 x2 x3 x4 M Q) : AW X 40 [(19, 0), (0, x1), (0, x2), (17, x3), (17, x4)] [] M := by
  unfold wp_X9_leads_40 at h
  refine am_aload_n (i := 0) (t := 16) (pc := 40) G dX9_leads_40 rfl rfl rfl ?_
  refine gf_X9_4 (pc := 41) G dX9_leads_41 tw_f_RX9_34 ?_
  refine am_aload_n (i := 3) (t := 14) (pc := 44) G dX9_leads_44 rfl rfl rfl ?_
  refine am_aload (t := 14) (pc := 45) G dX9_leads_45 rfl rfl ?_
  refine am_callV (rk := 4) (rmc := rm_X2_lead) (st := []) (pc := 47) G 2 [(17, _), (17, _)] rfl (by decide) rfl dX9_leads_47 tw_m_RX9_244 tw_i_X2_lead tw_v_X2_lead tw_z_RX2 tw_c_X2_lead hy_X2_lead (callrm hr rfl) rfl (RunsM.mono h (fun r5 M6 h => ?_)) Z.rm
  show AW X 50 _ [] M6
  refine am_aload_n (i := 0) (t := 16) (pc := 50) G dX9_leads_50 rfl rfl rfl ?_
  refine gf_X9_5 (pc := 51) G dX9_leads_51 tw_f_RX9_41 ?_
  refine am_aload_n (i := 3) (t := 14) (pc := 54) G dX9_leads_54 rfl rfl rfl ?_
  refine am_aload_n (i := 0) (t := 16) (pc := 55) G dX9_leads_55 rfl rfl rfl ?_
  refine gf_X9_4 (pc := 56) G dX9_leads_56 tw_f_RX9_34 ?_
  refine gf_X2_1 (pc := 59) G dX9_leads_59 tw_f_RX9_162 ?_
  refine am_aload (t := 14) (pc := 62) G dX9_leads_62 rfl rfl ?_
  refine am_aload_n (i := 0) (t := 16) (pc := 64) G dX9_leads_64 rfl rfl rfl ?_
  refine gf_X9_4 (pc := 65) G dX9_leads_65 tw_f_RX9_34 ?_
  refine gf_X2_2 (pc := 68) G dX9_leads_68 tw_f_RX9_248 ?_
  refine am_callV (rk := 4) (rmc := rm_X3_pair) (st := []) (pc := 71) G 3 [(17, _), (116, _), (17, _), (116, _)] rfl (by decide) rfl dX9_leads_71 tw_m_RX9_251 tw_i_X3_pair tw_v_X3_pair tw_z_RX3 tw_c_X3_pair hy_X3_pair (callrm hr rfl) rfl (RunsM.mono h (fun r7 M8 h => ?_)) Z.rm
  show AW X 74 _ [] M8
  refine am_aload_n (i := 0) (t := 16) (pc := 74) G dX9_leads_74 rfl rfl rfl ?_
  refine am_iload_n (i := 1) (pc := 75) G dX9_leads_75 rfl rfl ?_
  refine pf_X9_11 (pc := 76) G dX9_leads_76 tw_f_RX9_81 ?_
  refine am_aload_n (i := 0) (t := 16) (pc := 79) G dX9_leads_79 rfl rfl rfl ?_
  refine am_iload_n (i := 2) (pc := 80) G dX9_leads_80 rfl rfl ?_
  have h := h _ rfl
  refine pf_X9_12 (pc := 81) G dX9_leads_81 tw_f_RX9_84 ?_
  refine am_iconst (pc := 84) G dX9_leads_84 (by decide) ?_
  exact am_zret (pc := 85) G Z dX9_leads_85 ⟨by decide, h⟩
def wp_X9_leads (V : VV) (x1 x2 : Int) (M : Mem) (Q : Int → Mem → Prop) : Prop :=
  R_X9_filledAt V x1 M (fun r1 M2 =>
  R_X9_filledAt V x2 M2 (fun r3 M4 =>
  (r1 < 0 →
    Q 0 M4) ∧ (¬ (r1 < 0) →
    (r3 < 0 →
      Q 0 M4) ∧ (¬ (r3 < 0) →
      (x1 = M4 0 11 →
        (x2 = M4 0 12 →
          Q 1 M4) ∧ (¬ (x2 = M4 0 12) →
          wp_X9_leads_40 V x1 x2 r1 r3 M4 Q)) ∧ (¬ (x1 = M4 0 11) →
        wp_X9_leads_40 V x1 x2 r1 r3 M4 Q)))))
theorem of_X9_leads {V : VV} {x1 x2 : Int} {M : Mem} {Q : Int → Mem → Prop} (h : wp_X9_leads V x1 x2 M Q) : R_X9_leads V x1 x2 M Q := by
  refine met_in (own := "TreeHands") (by decide +kernel) rfl rfl (Nat.le_of_ble_eq_true rfl) ?_
  intro X G Z hn hr hv
  subst hv
  unfold wp_X9_leads at h
  show AW X 0 [(19, 0), (0, x1), (0, x2), (99, 0), (99, 0)] [] M
  refine am_aload_n (i := 0) (t := 16) (pc := 0) G dX9_leads_0 rfl rfl rfl ?_
  refine am_iload_n (i := 1) (pc := 1) G dX9_leads_1 rfl rfl ?_
  refine am_callV (rk := 3) (rmc := rm_X9_filledAt) (st := []) (pc := 2) G 9 [(0, _)] rfl (by decide) rfl dX9_leads_2 tw_m_RX9_134 tw_i_X9_filledAt tw_v_X9_filledAt tw_z_RX9 tw_c_X9_filledAt hy_X9_filledAt (callrm hr rfl) rfl (RunsM.mono h (fun r1 M2 h => ?_)) Z.rm
  show AW X 5 _ [(30017, _)] M2
  refine am_astore_n (t := 30014) (pc := 5) G dX9_leads_5 rfl (nlx hn rfl) rfl ?_
  refine am_aload_n (i := 0) (t := 16) (pc := 6) (ls := [(19, _), (0, _), (0, _), (30017, _), (99, _)]) G dX9_leads_6 rfl rfl rfl ?_
  refine am_iload_n (i := 2) (pc := 7) G dX9_leads_7 rfl rfl ?_
  refine am_callV (rk := 3) (rmc := rm_X9_filledAt) (st := []) (pc := 8) G 9 [(0, _)] rfl (by decide) rfl dX9_leads_8 tw_m_RX9_134 tw_i_X9_filledAt tw_v_X9_filledAt tw_z_RX9 tw_c_X9_filledAt hy_X9_filledAt (callrm hr rfl) rfl (RunsM.mono h (fun r3 M4 h => ?_)) Z.rm
  show AW X 11 _ [(30017, _)] M4
  refine am_astore (t := 30014) (pc := 11) G dX9_leads_11 (nlx hn rfl) rfl ?_
  refine am_aload_n (i := 3) (t := 30014) (pc := 13) (ls := [(19, _), (0, _), (0, _), (30017, _), (30017, _)]) G dX9_leads_13 rfl rfl rfl ?_
  refine am_ifnull (t := 30014) (pc := 14) G 22 dX9_leads_14 (by decide) (fun c => ?_) (fun c => ?_)
  · have h := h.1 c
    refine am_iconst (pc := 22) G dX9_leads_22 (by decide) ?_
    exact am_zret (pc := 23) G Z dX9_leads_23 ⟨by decide, h⟩
  · have h := h.2 c
    refine am_retag (i := 3) (t := 17) (by decide) (by decide) rfl rfl (by omega) ?_
    show AW X 17 [(19, _), (0, _), (0, _), (17, _), (30017, _)] _ _
    refine am_aload (t := 30014) (pc := 17) G dX9_leads_17 rfl rfl ?_
    refine am_ifnonnull (t := 30014) (pc := 19) G 24 dX9_leads_19 (by decide) (fun c => ?_) (fun c => ?_)
    · have h := h.2 c
      refine am_retag (i := 4) (t := 17) (by decide) (by decide) rfl rfl (by omega) ?_
      show AW X 24 [(19, _), (0, _), (0, _), (17, _), (17, _)] _ _
      refine am_iload_n (i := 1) (pc := 24) G dX9_leads_24 rfl rfl ?_
      refine am_aload_n (i := 0) (t := 16) (pc := 25) G dX9_leads_25 rfl rfl rfl ?_
      refine gf_X9_11 (pc := 26) G dX9_leads_26 tw_f_RX9_81 ?_
      refine am_icmp_ne (pc := 29) G 40 dX9_leads_29 (by decide) (fun c => ?_) (fun c => ?_)
      · have h := h.2 c
        refine am_le (ls' := [(19, _), (0, _), (0, _), (17, _), (17, _)]) ⟨Or.inr rfl, ⟨Or.inr rfl, ⟨Or.inr rfl, ⟨Or.inr rfl, ⟨Or.inr rfl, trivial⟩⟩⟩⟩⟩ ?_
        exact swp_X9_leads_40 G Z hn hr _ _ _ _ _ h
      · have h := h.1 c
        refine am_iload_n (i := 2) (pc := 32) G dX9_leads_32 rfl rfl ?_
        refine am_aload_n (i := 0) (t := 16) (pc := 33) G dX9_leads_33 rfl rfl rfl ?_
        refine gf_X9_12 (pc := 34) G dX9_leads_34 tw_f_RX9_84 ?_
        refine am_icmp_eq (pc := 37) G 84 dX9_leads_37 (by decide) (fun c => ?_) (fun c => ?_)
        · have h := h.1 c
          refine am_iconst (pc := 84) G dX9_leads_84 (by decide) ?_
          exact am_zret (pc := 85) G Z dX9_leads_85 ⟨by decide, h⟩
        · have h := h.2 c
          refine am_le (ls' := [(19, _), (0, _), (0, _), (17, _), (17, _)]) ⟨Or.inr rfl, ⟨Or.inr rfl, ⟨Or.inr rfl, ⟨Or.inr rfl, ⟨Or.inr rfl, trivial⟩⟩⟩⟩⟩ ?_
          exact swp_X9_leads_40 G Z hn hr _ _ _ _ _ h
    · have h := h.1 c
      refine am_iconst (pc := 22) G dX9_leads_22 (by decide) ?_
      exact am_zret (pc := 23) G Z dX9_leads_23 ⟨by decide, h⟩
-- X9_least TreeHands.least(II)I
def rm_X9_least : Room := { frames := 6, cells := 0, slots := 0, locals := 153 }
theorem hy_X9_least : yX9_least.cls ≠ "java/lang/invoke/MethodHandle" ∧ yX9_least.cls ≠ "java/lang/invoke/VarHandle" ∧ (parseMethodDescriptor yX9_least.desc).map (fun d => d.parameters.length) = some 2 := by decide +kernel
abbrev R_X9_least (V : VV) (x1 x2 : Int) (M : Mem) (Q : Int → Mem → Prop) : Prop := RunsM V yX9_least (.code yX9_least cX9_least 3 (Option.some Jvm.ClassFile.FieldType.int)) rm_X9_least 0 [(19, 0), (0, x1), (0, x2)] M Q
def wp_X9_least (V : VV) (x1 x2 : Int) (M : Mem) (Q : Int → Mem → Prop) : Prop :=
  R_X9_leads V x1 x2 M (fun r1 M2 =>
  (r1 = 0 →
    Q (-1) M2) ∧ (¬ (r1 = 0) →
    Q (M2 12 3) M2))
theorem of_X9_least {V : VV} {x1 x2 : Int} {M : Mem} {Q : Int → Mem → Prop} (h : wp_X9_least V x1 x2 M Q) : R_X9_least V x1 x2 M Q := by
  refine met_in (own := "TreeHands") (by decide +kernel) rfl rfl (Nat.le_of_ble_eq_true rfl) ?_
  intro X G Z hn hr hv
  subst hv
  unfold wp_X9_least at h
  show AW X 0 [(19, 0), (0, x1), (0, x2)] [] M
  refine am_aload_n (i := 0) (t := 16) (pc := 0) G dX9_least_0 rfl rfl rfl ?_
  refine am_iload_n (i := 1) (pc := 1) G dX9_least_1 rfl rfl ?_
  refine am_iload_n (i := 2) (pc := 2) G dX9_least_2 rfl rfl ?_
  refine am_callV (rk := 1) (rmc := rm_X9_leads) (st := []) (pc := 3) G 9 [(0, _), (0, _)] rfl (by decide) rfl dX9_least_3 tw_m_RX9_155 tw_i_X9_leads tw_v_X9_leads tw_z_RX9 tw_c_X9_leads hy_X9_leads (callrm hr rfl) rfl (RunsM.mono h (fun r1 M2 h => ?_)) Z.rm
  show AW X 6 _ [(0, _)] M2
  refine am_if_eq (pc := 6) G 19 dX9_least_6 (by decide) (fun c => ?_) (fun c => ?_)
  · have h := h.1 c
    refine am_iconst (pc := 19) G dX9_least_19 (by decide) ?_
    exact am_iret (pc := 20) G Z dX9_least_20 h
  · have h := h.2 c
    refine am_aload_n (i := 0) (t := 16) (pc := 9) G dX9_least_9 rfl rfl rfl ?_
    refine gf_X9_4 (pc := 10) G dX9_least_10 tw_f_RX9_34 ?_
    refine gf_X2_3 (pc := 13) G dX9_least_13 tw_f_RX9_159 ?_
    refine am_goto (pc := 16) G 20 dX9_least_16 (by decide) ?_
    exact am_iret (pc := 20) G Z dX9_least_20 h
-- X9_led TreeHands.led(III)I
def rm_X9_led : Room := { frames := 6, cells := 0, slots := 0, locals := 153 }
theorem hy_X9_led : yX9_led.cls ≠ "java/lang/invoke/MethodHandle" ∧ yX9_led.cls ≠ "java/lang/invoke/VarHandle" ∧ (parseMethodDescriptor yX9_led.desc).map (fun d => d.parameters.length) = some 3 := by decide +kernel
abbrev R_X9_led (V : VV) (x1 x2 x3 : Int) (M : Mem) (Q : Int → Mem → Prop) : Prop := RunsM V yX9_led (.code yX9_led cX9_led 5 (Option.some Jvm.ClassFile.FieldType.int)) rm_X9_led 0 [(19, 0), (0, x1), (0, x2), (0, x3)] M Q
def wp_X9_led (V : VV) (x1 x2 x3 : Int) (M : Mem) (Q : Int → Mem → Prop) : Prop :=
  R_X9_filledAt V x1 M (fun r1 M2 =>
  (r1 < 0 →
    Q (-1) M2) ∧ (¬ (r1 < 0) →
    R_X7_has V r1 x3 M2 (fun r3 M4 =>
    (r3 = 0 →
      Q (-1) M4) ∧ (¬ (r3 = 0) →
      R_X9_leads V x1 x2 M4 (fun r5 M6 =>
      (r5 = 0 →
        Q (-1) M6) ∧ (¬ (r5 = 0) →
        ((0 : Int) ≤ x3 ∧ x3 < (16 : Int)) ∧
        Q (M6 14 x3) M6))))))
theorem of_X9_led {V : VV} {x1 x2 x3 : Int} {M : Mem} {Q : Int → Mem → Prop} (h : wp_X9_led V x1 x2 x3 M Q) : R_X9_led V x1 x2 x3 M Q := by
  refine met_in (own := "TreeHands") (by decide +kernel) rfl rfl (Nat.le_of_ble_eq_true rfl) ?_
  intro X G Z hn hr hv
  subst hv
  unfold wp_X9_led at h
  show AW X 0 [(19, 0), (0, x1), (0, x2), (0, x3), (99, 0)] [] M
  refine am_aload_n (i := 0) (t := 16) (pc := 0) G dX9_led_0 rfl rfl rfl ?_
  refine am_iload_n (i := 1) (pc := 1) G dX9_led_1 rfl rfl ?_
  refine am_callV (rk := 3) (rmc := rm_X9_filledAt) (st := []) (pc := 2) G 9 [(0, _)] rfl (by decide) rfl dX9_led_2 tw_m_RX9_134 tw_i_X9_filledAt tw_v_X9_filledAt tw_z_RX9 tw_c_X9_filledAt hy_X9_filledAt (callrm hr rfl) rfl (RunsM.mono h (fun r1 M2 h => ?_)) Z.rm
  show AW X 5 _ [(30017, _)] M2
  refine am_astore (t := 30014) (pc := 5) G dX9_led_5 (nlx hn rfl) rfl ?_
  refine am_aload (t := 30014) (pc := 7) (ls := [(19, _), (0, _), (0, _), (0, _), (30017, _)]) G dX9_led_7 rfl rfl ?_
  refine am_ifnull (t := 30014) (pc := 9) G 30 dX9_led_9 (by decide) (fun c => ?_) (fun c => ?_)
  · have h := h.1 c
    refine am_iconst (pc := 30) G dX9_led_30 (by decide) ?_
    exact am_iret (pc := 31) G Z dX9_led_31 h
  · have h := h.2 c
    refine am_retag (i := 4) (t := 17) (by decide) (by decide) rfl rfl (by omega) ?_
    show AW X 12 [(19, _), (0, _), (0, _), (0, _), (17, _)] _ _
    refine am_aload (t := 14) (pc := 12) G dX9_led_12 rfl rfl ?_
    refine am_iload_n (i := 3) (pc := 14) G dX9_led_14 rfl rfl ?_
    refine am_callV (rk := 1) (rmc := rm_X7_has) (st := []) (pc := 15) G 7 [(0, _)] rfl (by decide) rfl dX9_led_15 tw_m_RX9_113 tw_i_X7_has tw_v_X7_has tw_z_RX7 tw_c_X7_has hy_X7_has (callrm hr rfl) rfl (RunsM.mono h (fun r3 M4 h => ?_)) Z.rm
    show AW X 18 _ [(0, _)] M4
    refine am_if_eq (pc := 18) G 30 dX9_led_18 (by decide) (fun c => ?_) (fun c => ?_)
    · have h := h.1 c
      refine am_iconst (pc := 30) G dX9_led_30 (by decide) ?_
      exact am_iret (pc := 31) G Z dX9_led_31 h
    · have h := h.2 c
      refine am_aload_n (i := 0) (t := 16) (pc := 21) G dX9_led_21 rfl rfl rfl ?_
      refine am_iload_n (i := 1) (pc := 22) G dX9_led_22 rfl rfl ?_
      refine am_iload_n (i := 2) (pc := 23) G dX9_led_23 rfl rfl ?_
      refine am_callV (rk := 1) (rmc := rm_X9_leads) (st := []) (pc := 24) G 9 [(0, _), (0, _)] rfl (by decide) rfl dX9_led_24 tw_m_RX9_155 tw_i_X9_leads tw_v_X9_leads tw_z_RX9 tw_c_X9_leads hy_X9_leads (callrm hr rfl) rfl (RunsM.mono h (fun r5 M6 h => ?_)) Z.rm
      show AW X 27 _ [(0, _)] M6
      refine am_if_ne (pc := 27) G 32 dX9_led_27 (by decide) (fun c => ?_) (fun c => ?_)
      · have h := h.2 c
        refine am_aload_n (i := 0) (t := 16) (pc := 32) G dX9_led_32 rfl rfl rfl ?_
        refine gf_X9_4 (pc := 33) G dX9_led_33 tw_f_RX9_34 ?_
        refine gf_X2_1 (pc := 36) G dX9_led_36 tw_f_RX9_162 ?_
        refine am_iload_n (i := 3) (pc := 39) G dX9_led_39 rfl rfl ?_
        refine am_iald (pc := 40) G 16 dX9_led_40 (by decide) h.1 ?_
        have h := h.2
        exact am_iret (pc := 41) G Z dX9_led_41 h
      · have h := h.1 c
        refine am_iconst (pc := 30) G dX9_led_30 (by decide) ?_
        exact am_iret (pc := 31) G Z dX9_led_31 h
-- X9_edits TreeHands.edits(III)I
def rm_X9_edits : Room := { frames := 6, cells := 0, slots := 0, locals := 153 }
theorem hy_X9_edits : yX9_edits.cls ≠ "java/lang/invoke/MethodHandle" ∧ yX9_edits.cls ≠ "java/lang/invoke/VarHandle" ∧ (parseMethodDescriptor yX9_edits.desc).map (fun d => d.parameters.length) = some 3 := by decide +kernel
abbrev R_X9_edits (V : VV) (x1 x2 x3 : Int) (M : Mem) (Q : Int → Mem → Prop) : Prop := RunsM V yX9_edits (.code yX9_edits cX9_edits 6 (Option.some Jvm.ClassFile.FieldType.int)) rm_X9_edits 0 [(19, 0), (0, x1), (0, x2), (0, x3)] M Q
def wp_X9_edits (V : VV) (x1 x2 x3 : Int) (M : Mem) (Q : Int → Mem → Prop) : Prop :=
  R_X9_filledAt V x1 M (fun r1 M2 =>
  R_X9_filledAt V x2 M2 (fun r3 M4 =>
  (r1 < 0 →
    Q (-1) M4) ∧ (¬ (r1 < 0) →
    (r3 < 0 →
      Q (-1) M4) ∧ (¬ (r3 < 0) →
      R_X9_leads V x1 x2 M4 (fun r5 M6 =>
      (r5 = 0 →
        Q (-1) M6) ∧ (¬ (r5 = 0) →
        ((x3 < 0 ∨ 5 < x3) →
          Q (-2) M6) ∧
        (x3 = 0 →
          Q (M6 12 4) M6) ∧
        (x3 = 1 →
          Q (M6 12 5) M6) ∧
        (x3 = 2 →
          Q (w32 (M6 r1 0 - M6 12 4)) M6) ∧
        (x3 = 3 →
          Q (w32 (M6 r3 0 - M6 12 4)) M6) ∧
        (x3 = 4 →
          Q (M6 20 0) M6) ∧
        (x3 = 5 →
          Q (M6 20 1) M6)))))))
theorem of_X9_edits {V : VV} {x1 x2 x3 : Int} {M : Mem} {Q : Int → Mem → Prop} (h : wp_X9_edits V x1 x2 x3 M Q) : R_X9_edits V x1 x2 x3 M Q := by
  refine met_in (own := "TreeHands") (by decide +kernel) rfl rfl (Nat.le_of_ble_eq_true rfl) ?_
  intro X G Z hn hr hv
  subst hv
  unfold wp_X9_edits at h
  show AW X 0 [(19, 0), (0, x1), (0, x2), (0, x3), (99, 0), (99, 0)] [] M
  refine am_aload_n (i := 0) (t := 16) (pc := 0) G dX9_edits_0 rfl rfl rfl ?_
  refine am_iload_n (i := 1) (pc := 1) G dX9_edits_1 rfl rfl ?_
  refine am_callV (rk := 3) (rmc := rm_X9_filledAt) (st := []) (pc := 2) G 9 [(0, _)] rfl (by decide) rfl dX9_edits_2 tw_m_RX9_134 tw_i_X9_filledAt tw_v_X9_filledAt tw_z_RX9 tw_c_X9_filledAt hy_X9_filledAt (callrm hr rfl) rfl (RunsM.mono h (fun r1 M2 h => ?_)) Z.rm
  show AW X 5 _ [(30017, _)] M2
  refine am_astore (t := 30014) (pc := 5) G dX9_edits_5 (nlx hn rfl) rfl ?_
  refine am_aload_n (i := 0) (t := 16) (pc := 7) (ls := [(19, _), (0, _), (0, _), (0, _), (30017, _), (99, _)]) G dX9_edits_7 rfl rfl rfl ?_
  refine am_iload_n (i := 2) (pc := 8) G dX9_edits_8 rfl rfl ?_
  refine am_callV (rk := 3) (rmc := rm_X9_filledAt) (st := []) (pc := 9) G 9 [(0, _)] rfl (by decide) rfl dX9_edits_9 tw_m_RX9_134 tw_i_X9_filledAt tw_v_X9_filledAt tw_z_RX9 tw_c_X9_filledAt hy_X9_filledAt (callrm hr rfl) rfl (RunsM.mono h (fun r3 M4 h => ?_)) Z.rm
  show AW X 12 _ [(30017, _)] M4
  refine am_astore (t := 30014) (pc := 12) G dX9_edits_12 (nlx hn rfl) rfl ?_
  refine am_aload (t := 30014) (pc := 14) (ls := [(19, _), (0, _), (0, _), (0, _), (30017, _), (30017, _)]) G dX9_edits_14 rfl rfl ?_
  refine am_ifnull (t := 30014) (pc := 16) G 33 dX9_edits_16 (by decide) (fun c => ?_) (fun c => ?_)
  · have h := h.1 c
    refine am_iconst (pc := 33) G dX9_edits_33 (by decide) ?_
    exact am_iret (pc := 34) G Z dX9_edits_34 h
  · have h := h.2 c
    refine am_retag (i := 4) (t := 17) (by decide) (by decide) rfl rfl (by omega) ?_
    show AW X 19 [(19, _), (0, _), (0, _), (0, _), (17, _), (30017, _)] _ _
    refine am_aload (t := 30014) (pc := 19) G dX9_edits_19 rfl rfl ?_
    refine am_ifnull (t := 30014) (pc := 21) G 33 dX9_edits_21 (by decide) (fun c => ?_) (fun c => ?_)
    · have h := h.1 c
      refine am_iconst (pc := 33) G dX9_edits_33 (by decide) ?_
      exact am_iret (pc := 34) G Z dX9_edits_34 h
    · have h := h.2 c
      refine am_retag (i := 5) (t := 17) (by decide) (by decide) rfl rfl (by omega) ?_
      show AW X 24 [(19, _), (0, _), (0, _), (0, _), (17, _), (17, _)] _ _
      refine am_aload_n (i := 0) (t := 16) (pc := 24) G dX9_edits_24 rfl rfl rfl ?_
      refine am_iload_n (i := 1) (pc := 25) G dX9_edits_25 rfl rfl ?_
      refine am_iload_n (i := 2) (pc := 26) G dX9_edits_26 rfl rfl ?_
      refine am_callV (rk := 1) (rmc := rm_X9_leads) (st := []) (pc := 27) G 9 [(0, _), (0, _)] rfl (by decide) rfl dX9_edits_27 tw_m_RX9_155 tw_i_X9_leads tw_v_X9_leads tw_z_RX9 tw_c_X9_leads hy_X9_leads (callrm hr rfl) rfl (RunsM.mono h (fun r5 M6 h => ?_)) Z.rm
      show AW X 30 _ [(0, _)] M6
      refine am_if_ne (pc := 30) G 35 dX9_edits_30 (by decide) (fun c => ?_) (fun c => ?_)
      · have h := h.2 c
        refine am_iload_n (i := 3) (pc := 35) G dX9_edits_35 rfl rfl ?_
        rcases (show (x3 < 0 ∨ 5 < x3) ∨ x3 = 0 ∨ x3 = 1 ∨ x3 = 2 ∨ x3 = 3 ∨ x3 = 4 ∨ x3 = 5 by omega) with c | c | c | c | c | c | c
        · refine am_tableOut (pc := 36) G 136 dX9_edits_36 c (by decide) ?_
          have h := h.1 c
          refine am_bipush (pc := 136) G dX9_edits_136 (by decide) (by decide) ?_
          exact am_iret (pc := 138) G Z dX9_edits_138 h
        · have h := h.2.1 c
          refine am_tableIn (off := 40) (pc := 36) G 76 dX9_edits_36 (by rw [c]; decide) (by rw [c]; rfl) (by decide) ?_
          refine am_aload_n (i := 0) (t := 16) (pc := 76) G dX9_edits_76 rfl rfl rfl ?_
          refine gf_X9_4 (pc := 77) G dX9_edits_77 tw_f_RX9_34 ?_
          refine gf_X2_4 (pc := 80) G dX9_edits_80 tw_f_RX9_165 ?_
          exact am_iret (pc := 83) G Z dX9_edits_83 h
        · have h := h.2.2.1 c
          refine am_tableIn (off := 48) (pc := 36) G 84 dX9_edits_36 (by rw [c]; decide) (by rw [c]; rfl) (by decide) ?_
          refine am_aload_n (i := 0) (t := 16) (pc := 84) G dX9_edits_84 rfl rfl rfl ?_
          refine gf_X9_4 (pc := 85) G dX9_edits_85 tw_f_RX9_34 ?_
          refine gf_X2_5 (pc := 88) G dX9_edits_88 tw_f_RX9_168 ?_
          exact am_iret (pc := 91) G Z dX9_edits_91 h
        · have h := h.2.2.2.1 c
          refine am_tableIn (off := 56) (pc := 36) G 92 dX9_edits_36 (by rw [c]; decide) (by rw [c]; rfl) (by decide) ?_
          refine am_aload (t := 14) (pc := 92) G dX9_edits_92 rfl rfl ?_
          refine gf_X7_0 (pc := 94) G dX9_edits_94 tw_f_RX9_171 ?_
          refine am_aload_n (i := 0) (t := 16) (pc := 97) G dX9_edits_97 rfl rfl rfl ?_
          refine gf_X9_4 (pc := 98) G dX9_edits_98 tw_f_RX9_34 ?_
          refine gf_X2_4 (pc := 101) G dX9_edits_101 tw_f_RX9_165 ?_
          refine am_isub (pc := 104) G dX9_edits_104 ?_
          exact am_iret (pc := 105) G Z dX9_edits_105 h
        · have h := h.2.2.2.2.1 c
          refine am_tableIn (off := 70) (pc := 36) G 106 dX9_edits_36 (by rw [c]; decide) (by rw [c]; rfl) (by decide) ?_
          refine am_aload (t := 14) (pc := 106) G dX9_edits_106 rfl rfl ?_
          refine gf_X7_0 (pc := 108) G dX9_edits_108 tw_f_RX9_171 ?_
          refine am_aload_n (i := 0) (t := 16) (pc := 111) G dX9_edits_111 rfl rfl rfl ?_
          refine gf_X9_4 (pc := 112) G dX9_edits_112 tw_f_RX9_34 ?_
          refine gf_X2_4 (pc := 115) G dX9_edits_115 tw_f_RX9_165 ?_
          refine am_isub (pc := 118) G dX9_edits_118 ?_
          exact am_iret (pc := 119) G Z dX9_edits_119 h
        · have h := h.2.2.2.2.2.1 c
          refine am_tableIn (off := 84) (pc := 36) G 120 dX9_edits_36 (by rw [c]; decide) (by rw [c]; rfl) (by decide) ?_
          refine am_aload_n (i := 0) (t := 16) (pc := 120) G dX9_edits_120 rfl rfl rfl ?_
          refine gf_X9_5 (pc := 121) G dX9_edits_121 tw_f_RX9_41 ?_
          refine gf_X3_0 (pc := 124) G dX9_edits_124 tw_f_RX9_172 ?_
          exact am_iret (pc := 127) G Z dX9_edits_127 h
        · have h := h.2.2.2.2.2.2 c
          refine am_tableIn (off := 92) (pc := 36) G 128 dX9_edits_36 (by rw [c]; decide) (by rw [c]; rfl) (by decide) ?_
          refine am_aload_n (i := 0) (t := 16) (pc := 128) G dX9_edits_128 rfl rfl rfl ?_
          refine gf_X9_5 (pc := 129) G dX9_edits_129 tw_f_RX9_41 ?_
          refine gf_X3_1 (pc := 132) G dX9_edits_132 tw_f_RX9_175 ?_
          exact am_iret (pc := 135) G Z dX9_edits_135 h
      · have h := h.1 c
        refine am_iconst (pc := 33) G dX9_edits_33 (by decide) ?_
        exact am_iret (pc := 34) G Z dX9_edits_34 h
-- X9_moved TreeHands.moved(III)I
def rm_X9_moved : Room := { frames := 6, cells := 0, slots := 0, locals := 153 }
theorem hy_X9_moved : yX9_moved.cls ≠ "java/lang/invoke/MethodHandle" ∧ yX9_moved.cls ≠ "java/lang/invoke/VarHandle" ∧ (parseMethodDescriptor yX9_moved.desc).map (fun d => d.parameters.length) = some 3 := by decide +kernel
abbrev R_X9_moved (V : VV) (x1 x2 x3 : Int) (M : Mem) (Q : Int → Mem → Prop) : Prop := RunsM V yX9_moved (.code yX9_moved cX9_moved 4 (Option.some Jvm.ClassFile.FieldType.int)) rm_X9_moved 0 [(19, 0), (0, x1), (0, x2), (0, x3)] M Q
def wp_X9_moved (V : VV) (x1 x2 x3 : Int) (M : Mem) (Q : Int → Mem → Prop) : Prop :=
  R_X9_leads V x1 x2 M (fun r1 M2 =>
  (r1 = 0 →
    Q (-1) M2) ∧ (¬ (r1 = 0) →
    R_X3_pairAt V x3 M2 (fun r3 M4 =>
    Q r3 M4)))
theorem of_X9_moved {V : VV} {x1 x2 x3 : Int} {M : Mem} {Q : Int → Mem → Prop} (h : wp_X9_moved V x1 x2 x3 M Q) : R_X9_moved V x1 x2 x3 M Q := by
  refine met_in (own := "TreeHands") (by decide +kernel) rfl rfl (Nat.le_of_ble_eq_true rfl) ?_
  intro X G Z hn hr hv
  subst hv
  unfold wp_X9_moved at h
  show AW X 0 [(19, 0), (0, x1), (0, x2), (0, x3)] [] M
  refine am_aload_n (i := 0) (t := 16) (pc := 0) G dX9_moved_0 rfl rfl rfl ?_
  refine am_iload_n (i := 1) (pc := 1) G dX9_moved_1 rfl rfl ?_
  refine am_iload_n (i := 2) (pc := 2) G dX9_moved_2 rfl rfl ?_
  refine am_callV (rk := 1) (rmc := rm_X9_leads) (st := []) (pc := 3) G 9 [(0, _), (0, _)] rfl (by decide) rfl dX9_moved_3 tw_m_RX9_155 tw_i_X9_leads tw_v_X9_leads tw_z_RX9 tw_c_X9_leads hy_X9_leads (callrm hr rfl) rfl (RunsM.mono h (fun r1 M2 h => ?_)) Z.rm
  show AW X 6 _ [(0, _)] M2
  refine am_if_ne (pc := 6) G 11 dX9_moved_6 (by decide) (fun c => ?_) (fun c => ?_)
  · have h := h.2 c
    refine am_aload_n (i := 0) (t := 16) (pc := 11) G dX9_moved_11 rfl rfl rfl ?_
    refine gf_X9_5 (pc := 12) G dX9_moved_12 tw_f_RX9_41 ?_
    refine am_iload_n (i := 3) (pc := 15) G dX9_moved_15 rfl rfl ?_
    refine am_callV (rk := 0) (rmc := rm_X3_pairAt) (st := []) (pc := 16) G 3 [(0, _)] rfl (by decide) rfl dX9_moved_16 tw_m_RX9_178 tw_i_X3_pairAt tw_v_X3_pairAt tw_z_RX3 tw_c_X3_pairAt hy_X3_pairAt (callrm hr rfl) rfl (RunsM.mono h (fun r3 M4 h => ?_)) Z.rm
    show AW X 19 _ [(0, _)] M4
    exact am_iret (pc := 19) G Z dX9_moved_19 h
  · have h := h.1 c
    refine am_iconst (pc := 9) G dX9_moved_9 (by decide) ?_
    exact am_iret (pc := 10) G Z dX9_moved_10 h
-- X9_common TreeHands.common(IIIII)I
def rm_X9_common : Room := { frames := 4, cells := 0, slots := 0, locals := 100 }
theorem hy_X9_common : yX9_common.cls ≠ "java/lang/invoke/MethodHandle" ∧ yX9_common.cls ≠ "java/lang/invoke/VarHandle" ∧ (parseMethodDescriptor yX9_common.desc).map (fun d => d.parameters.length) = some 5 := by decide +kernel
abbrev R_X9_common (V : VV) (x1 x2 x3 x4 x5 : Int) (M : Mem) (Q : Int → Mem → Prop) : Prop := RunsM V yX9_common (.code yX9_common cX9_common 8 (Option.some Jvm.ClassFile.FieldType.int)) rm_X9_common 0 [(19, 0), (0, x1), (0, x2), (0, x3), (0, x4), (0, x5)] M Q
def wp_X9_common (V : VV) (x1 x2 x3 x4 x5 : Int) (M : Mem) (Q : Int → Mem → Prop) : Prop :=
  R_X9_treeAt V x1 M (fun r1 M2 =>
  R_X9_treeAt V x3 M2 (fun r3 M4 =>
  (r1 < 0 →
    Q (-1) M4) ∧ (¬ (r1 < 0) →
    (r3 < 0 →
      Q (-1) M4) ∧ (¬ (r3 < 0) →
      R_X9_treeAt V x5 M4 (fun r5 M6 =>
      (r5 < 0 →
        Q (-1) M6) ∧ (¬ (r5 < 0) →
        R_X7_has V r1 x2 M6 (fun r7 M8 =>
        (r7 = 0 →
          Q (-1) M8) ∧ (¬ (r7 = 0) →
          R_X7_has V r3 x4 M8 (fun r9 M10 =>
          (r9 = 0 →
            Q (-1) M10) ∧ (¬ (r9 = 0) →
            R_X7_holeCount V r1 M10 (fun r11 M12 =>
            (0 < r11 →
              Q (-3) M12) ∧ (¬ (0 < r11) →
              R_X7_holeCount V r3 M12 (fun r13 M14 =>
              (r13 ≤ 0 →
                R_X0_find V r1 x2 r3 x4 4 M14 (fun r15 M16 =>
                (r15 = 0 →
                  Q (-5) M16) ∧ (¬ (r15 = 0) →
                  R_X9_become V x5 4 M16 (fun r17 M18 =>
                  Q (M18 25 0) M18)))) ∧ (¬ (r13 ≤ 0) →
                Q (-3) M14))))))))))))))
theorem of_X9_common {V : VV} {x1 x2 x3 x4 x5 : Int} {M : Mem} {Q : Int → Mem → Prop} (h : wp_X9_common V x1 x2 x3 x4 x5 M Q) : R_X9_common V x1 x2 x3 x4 x5 M Q := by
  refine met_in (own := "TreeHands") (by decide +kernel) rfl rfl (Nat.le_of_ble_eq_true rfl) ?_
  intro X G Z hn hr hv
  subst hv
  unfold wp_X9_common at h
  show AW X 0 [(19, 0), (0, x1), (0, x2), (0, x3), (0, x4), (0, x5), (99, 0), (99, 0)] [] M
  refine am_aload_n (i := 0) (t := 16) (pc := 0) G dX9_common_0 rfl rfl rfl ?_
  refine am_iload_n (i := 1) (pc := 1) G dX9_common_1 rfl rfl ?_
  refine am_callV (rk := 3) (rmc := rm_X9_treeAt) (st := []) (pc := 2) G 9 [(0, _)] rfl (by decide) rfl dX9_common_2 tw_m_RX9_98 tw_i_X9_treeAt tw_v_X9_treeAt tw_z_RX9 tw_c_X9_treeAt hy_X9_treeAt (callrm hr rfl) rfl (RunsM.mono h (fun r1 M2 h => ?_)) Z.rm
  show AW X 5 _ [(30017, _)] M2
  refine am_astore (t := 30014) (pc := 5) G dX9_common_5 (nlx hn rfl) rfl ?_
  refine am_aload_n (i := 0) (t := 16) (pc := 7) (ls := [(19, _), (0, _), (0, _), (0, _), (0, _), (0, _), (30017, _), (99, _)]) G dX9_common_7 rfl rfl rfl ?_
  refine am_iload_n (i := 3) (pc := 8) G dX9_common_8 rfl rfl ?_
  refine am_callV (rk := 3) (rmc := rm_X9_treeAt) (st := []) (pc := 9) G 9 [(0, _)] rfl (by decide) rfl dX9_common_9 tw_m_RX9_98 tw_i_X9_treeAt tw_v_X9_treeAt tw_z_RX9 tw_c_X9_treeAt hy_X9_treeAt (callrm hr rfl) rfl (RunsM.mono h (fun r3 M4 h => ?_)) Z.rm
  show AW X 12 _ [(30017, _)] M4
  refine am_astore (t := 30014) (pc := 12) G dX9_common_12 (nlx hn rfl) rfl ?_
  refine am_aload (t := 30014) (pc := 14) (ls := [(19, _), (0, _), (0, _), (0, _), (0, _), (0, _), (30017, _), (30017, _)]) G dX9_common_14 rfl rfl ?_
  refine am_ifnull (t := 30014) (pc := 16) G 52 dX9_common_16 (by decide) (fun c => ?_) (fun c => ?_)
  · have h := h.1 c
    refine am_iconst (pc := 52) G dX9_common_52 (by decide) ?_
    exact am_iret (pc := 53) G Z dX9_common_53 h
  · have h := h.2 c
    refine am_retag (i := 6) (t := 17) (by decide) (by decide) rfl rfl (by omega) ?_
    show AW X 19 [(19, _), (0, _), (0, _), (0, _), (0, _), (0, _), (17, _), (30017, _)] _ _
    refine am_aload (t := 30014) (pc := 19) G dX9_common_19 rfl rfl ?_
    refine am_ifnull (t := 30014) (pc := 21) G 52 dX9_common_21 (by decide) (fun c => ?_) (fun c => ?_)
    · have h := h.1 c
      refine am_iconst (pc := 52) G dX9_common_52 (by decide) ?_
      exact am_iret (pc := 53) G Z dX9_common_53 h
    · have h := h.2 c
      refine am_retag (i := 7) (t := 17) (by decide) (by decide) rfl rfl (by omega) ?_
      show AW X 24 [(19, _), (0, _), (0, _), (0, _), (0, _), (0, _), (17, _), (17, _)] _ _
      refine am_aload_n (i := 0) (t := 16) (pc := 24) G dX9_common_24 rfl rfl rfl ?_
      refine am_iload (pc := 25) G dX9_common_25 rfl ?_
      refine am_callV (rk := 3) (rmc := rm_X9_treeAt) (st := []) (pc := 27) G 9 [(0, _)] rfl (by decide) rfl dX9_common_27 tw_m_RX9_98 tw_i_X9_treeAt tw_v_X9_treeAt tw_z_RX9 tw_c_X9_treeAt hy_X9_treeAt (callrm hr rfl) rfl (RunsM.mono h (fun r5 M6 h => ?_)) Z.rm
      show AW X 30 _ [(30017, _)] M6
      refine am_ifnull (t := 30014) (pc := 30) G 52 dX9_common_30 (by decide) (fun c => ?_) (fun c => ?_)
      · have h := h.1 c
        refine am_iconst (pc := 52) G dX9_common_52 (by decide) ?_
        exact am_iret (pc := 53) G Z dX9_common_53 h
      · have h := h.2 c
        refine am_aload (t := 14) (pc := 33) G dX9_common_33 rfl rfl ?_
        refine am_iload_n (i := 2) (pc := 35) G dX9_common_35 rfl rfl ?_
        refine am_callV (rk := 1) (rmc := rm_X7_has) (st := []) (pc := 36) G 7 [(0, _)] rfl (by decide) rfl dX9_common_36 tw_m_RX9_113 tw_i_X7_has tw_v_X7_has tw_z_RX7 tw_c_X7_has hy_X7_has (callrm hr rfl) rfl (RunsM.mono h (fun r7 M8 h => ?_)) Z.rm
        show AW X 39 _ [(0, _)] M8
        refine am_if_eq (pc := 39) G 52 dX9_common_39 (by decide) (fun c => ?_) (fun c => ?_)
        · have h := h.1 c
          refine am_iconst (pc := 52) G dX9_common_52 (by decide) ?_
          exact am_iret (pc := 53) G Z dX9_common_53 h
        · have h := h.2 c
          refine am_aload (t := 14) (pc := 42) G dX9_common_42 rfl rfl ?_
          refine am_iload (pc := 44) G dX9_common_44 rfl ?_
          refine am_callV (rk := 1) (rmc := rm_X7_has) (st := []) (pc := 46) G 7 [(0, _)] rfl (by decide) rfl dX9_common_46 tw_m_RX9_113 tw_i_X7_has tw_v_X7_has tw_z_RX7 tw_c_X7_has hy_X7_has (callrm hr rfl) rfl (RunsM.mono h (fun r9 M10 h => ?_)) Z.rm
          show AW X 49 _ [(0, _)] M10
          refine am_if_ne (pc := 49) G 54 dX9_common_49 (by decide) (fun c => ?_) (fun c => ?_)
          · have h := h.2 c
            refine am_aload (t := 14) (pc := 54) G dX9_common_54 rfl rfl ?_
            refine am_callV (rk := 0) (rmc := rm_X7_holeCount) (st := []) (pc := 56) G 7 [] rfl (by decide) rfl dX9_common_56 tw_m_RX9_182 tw_i_X7_holeCount tw_v_X7_holeCount tw_z_RX7 tw_c_X7_holeCount hy_X7_holeCount (callrm hr rfl) rfl (RunsM.mono h (fun r11 M12 h => ?_)) Z.rm
            show AW X 59 _ [(0, _)] M12
            refine am_if_gt (pc := 59) G 70 dX9_common_59 (by decide) (fun c => ?_) (fun c => ?_)
            · have h := h.1 c
              refine am_bipush (pc := 70) G dX9_common_70 (by decide) (by decide) ?_
              exact am_iret (pc := 72) G Z dX9_common_72 h
            · have h := h.2 c
              refine am_aload (t := 14) (pc := 62) G dX9_common_62 rfl rfl ?_
              refine am_callV (rk := 0) (rmc := rm_X7_holeCount) (st := []) (pc := 64) G 7 [] rfl (by decide) rfl dX9_common_64 tw_m_RX9_182 tw_i_X7_holeCount tw_v_X7_holeCount tw_z_RX7 tw_c_X7_holeCount hy_X7_holeCount (callrm hr rfl) rfl (RunsM.mono h (fun r13 M14 h => ?_)) Z.rm
              show AW X 67 _ [(0, _)] M14
              refine am_if_le (pc := 67) G 73 dX9_common_67 (by decide) (fun c => ?_) (fun c => ?_)
              · have h := h.1 c
                refine am_aload_n (i := 0) (t := 16) (pc := 73) G dX9_common_73 rfl rfl rfl ?_
                refine gf_X9_6 (pc := 74) G dX9_common_74 tw_f_RX9_48 ?_
                refine am_aload (t := 14) (pc := 77) G dX9_common_77 rfl rfl ?_
                refine am_iload_n (i := 2) (pc := 79) G dX9_common_79 rfl rfl ?_
                refine am_aload (t := 14) (pc := 80) G dX9_common_80 rfl rfl ?_
                refine am_iload (pc := 82) G dX9_common_82 rfl ?_
                refine am_aload_n (i := 0) (t := 16) (pc := 84) G dX9_common_84 rfl rfl rfl ?_
                refine gf_X9_2 (pc := 85) G dX9_common_85 tw_f_RX9_23 ?_
                refine am_callV (rk := 1) (rmc := rm_X0_find) (st := []) (pc := 88) G 0 [(17, _), (0, _), (17, _), (0, _), (17, _)] rfl (by decide) rfl dX9_common_88 tw_m_RX9_185 tw_i_X0_find tw_v_X0_find tw_z_RX0 tw_c_X0_find hy_X0_find (callrm hr rfl) rfl (RunsM.mono h (fun r15 M16 h => ?_)) Z.rm
                show AW X 91 _ [(0, _)] M16
                refine am_if_ne (pc := 91) G 97 dX9_common_91 (by decide) (fun c => ?_) (fun c => ?_)
                · have h := h.2 c
                  refine am_aload_n (i := 0) (t := 16) (pc := 97) G dX9_common_97 rfl rfl rfl ?_
                  refine am_iload (pc := 98) G dX9_common_98 rfl ?_
                  refine am_aload_n (i := 0) (t := 16) (pc := 100) G dX9_common_100 rfl rfl rfl ?_
                  refine gf_X9_2 (pc := 101) G dX9_common_101 tw_f_RX9_23 ?_
                  refine am_callV (rk := 0) (rmc := rm_X9_become) (st := []) (pc := 104) G 9 [(0, _), (17, _)] rfl (by decide) rfl dX9_common_104 tw_m_RX9_109 tw_i_X9_become tw_v_X9_become tw_z_RX9 tw_c_X9_become hy_X9_become (callrm hr rfl) rfl (RunsM.mono h (fun r17 M18 h => ?_)) Z.rm
                  show AW X 107 _ [(0, _)] M18
                  refine am_pop (pc := 107) G dX9_common_107 (Nat.ne_of_beq_eq_false rfl) ?_
                  refine am_aload_n (i := 0) (t := 16) (pc := 108) G dX9_common_108 rfl rfl rfl ?_
                  refine gf_X9_6 (pc := 109) G dX9_common_109 tw_f_RX9_48 ?_
                  refine gf_X0_0 (pc := 112) G dX9_common_112 tw_f_RX9_189 ?_
                  exact am_iret (pc := 115) G Z dX9_common_115 h
                · have h := h.1 c
                  refine am_bipush (pc := 94) G dX9_common_94 (by decide) (by decide) ?_
                  exact am_iret (pc := 96) G Z dX9_common_96 h
              · have h := h.2 c
                refine am_bipush (pc := 70) G dX9_common_70 (by decide) (by decide) ?_
                exact am_iret (pc := 72) G Z dX9_common_72 h
          · have h := h.1 c
            refine am_iconst (pc := 52) G dX9_common_52 (by decide) ?_
            exact am_iret (pc := 53) G Z dX9_common_53 h
-- X9_twice TreeHands.twice(II)I
def rm_X9_twice : Room := { frames := 2, cells := 0, slots := 0, locals := 45 }
theorem hy_X9_twice : yX9_twice.cls ≠ "java/lang/invoke/MethodHandle" ∧ yX9_twice.cls ≠ "java/lang/invoke/VarHandle" ∧ (parseMethodDescriptor yX9_twice.desc).map (fun d => d.parameters.length) = some 2 := by decide +kernel
abbrev R_X9_twice (V : VV) (x1 x2 : Int) (M : Mem) (Q : Int → Mem → Prop) : Prop := RunsM V yX9_twice (.code yX9_twice cX9_twice 9 (Option.some Jvm.ClassFile.FieldType.int)) rm_X9_twice 0 [(19, 0), (0, x1), (0, x2)] M Q
def wp_X9_twice_54_b (V : VV) (x2 x3 x4 x5 x6 x7 x8 : Int) (M : Mem) (Q : Int → Mem → Prop) (B39 : Int → Int → Int → Int → Mem → Prop) (B54 : Int → Int → Int → Int → Mem → Prop) : Prop :=
  (M x3 0 ≤ x8 →
    B39 x4 x5 x6 (w32 (x7 + 1)) M) ∧ (¬ (M x3 0 ≤ x8) →
    ((0 : Int) ≤ x7 ∧ x7 < (16 : Int)) ∧
    (M (x3 + 3) x7 ≤ x6 →
      B54 x4 x5 x6 (w32 (x8 + 1)) M) ∧ (¬ (M (x3 + 3) x7 ≤ x6) →
      R_X7_isAs V x3 x7 x3 x8 M (fun r3 M4 =>
      (r3 = 0 →
        B54 x4 x5 x6 (w32 (x8 + 1)) M4) ∧ (¬ (r3 = 0) →
        ((0 : Int) ≤ x7 ∧ x7 < (16 : Int)) ∧
        ∀ v5 : Int, v5 = M4 (x3 + 3) x7 →
        B54 x7 x8 v5 (w32 (x8 + 1)) M4))))
theorem swp_X9_twice_54_b {X : XX} {Q : Int → Mem → Prop} (G : GX X cX9_twice "TreeHands") (Z : RX X 0 Q) (hn : nLX X = 9) (hr : roomX X = rm_X9_twice) (x2 x3 x4 x5 x6 x7 x8 : Int) (M : Mem) (B39 : Int → Int → Int → Int → Mem → Prop) (k39 : ∀ (z4 z5 z6 z7 : Int) (N : Mem), B39 z4 z5 z6 z7 N → AW X 39 [(99, 0), (99, 0), (0, x2), (17, x3), (0, z4), (0, z5), (0, z6), (0, z7), (99, 0)] [] N) (B54 : Int → Int → Int → Int → Mem → Prop) (k54 : ∀ (z4 z5 z6 z8 : Int) (N : Mem), B54 z4 z5 z6 z8 N → AW X 54 [(99, 0), (99, 0), (0, x2), (17, x3), (0, z4), (0, z5), (0, z6), (0, x7), (0, z8)] [] N) (h : wp_X9_twice_54_b (vX X) x2 x3 x4 x5 x6 x7 x8 M Q B39 B54) : AW X 54 [(99, 0), (99, 0), (0, x2), (17, x3), (0, x4), (0, x5), (0, x6), (0, x7), (0, x8)] [] M := by
  unfold wp_X9_twice_54_b at h
  refine am_iload (pc := 54) G dX9_twice_54 rfl ?_
  refine am_aload_n (i := 3) (t := 14) (pc := 56) G dX9_twice_56 rfl rfl rfl ?_
  refine gf_X7_0 (pc := 57) G dX9_twice_57 tw_f_RX9_171 ?_
  refine am_icmp_ge (pc := 60) G 110 dX9_twice_60 (by decide) (fun c => ?_) (fun c => ?_)
  · have h := h.1 c
    refine am_iinc (pc := 110) G dX9_twice_110 rfl (nlx hn rfl) rfl ?_
    refine am_goto (pc := 113) (ls := [(99, _), (99, _), (0, _), (17, _), (0, _), (0, _), (0, _), (0, _), (0, _)]) G 39 dX9_twice_113 (by decide) ?_
    refine am_le (ls' := [(99, 0), (99, 0), (0, _), (17, _), (0, _), (0, _), (0, _), (0, _), (99, 0)]) ⟨Or.inl rfl, ⟨Or.inl rfl, ⟨Or.inr rfl, ⟨Or.inr rfl, ⟨Or.inr rfl, ⟨Or.inr rfl, ⟨Or.inr rfl, ⟨Or.inr rfl, ⟨Or.inl rfl, trivial⟩⟩⟩⟩⟩⟩⟩⟩⟩ ?_
    exact k39 _ _ _ _ _ h
  · have h := h.2 c
    refine am_aload_n (i := 3) (t := 14) (pc := 63) G dX9_twice_63 rfl rfl rfl ?_
    refine gf_X7_3 (pc := 64) G dX9_twice_64 tw_f_RX9_128 ?_
    refine am_iload (pc := 67) G dX9_twice_67 rfl ?_
    refine am_iald (pc := 69) G 16 dX9_twice_69 (by decide) h.1 ?_
    have h := h.2
    refine am_iload (pc := 70) G dX9_twice_70 rfl ?_
    refine am_icmp_le (pc := 72) G 104 dX9_twice_72 (by decide) (fun c => ?_) (fun c => ?_)
    · have h := h.1 c
      refine am_iinc (pc := 104) G dX9_twice_104 rfl (nlx hn rfl) rfl ?_
      refine am_goto (pc := 107) (ls := [(99, _), (99, _), (0, _), (17, _), (0, _), (0, _), (0, _), (0, _), (0, _)]) G 54 dX9_twice_107 (by decide) ?_
      refine am_le (ls' := [(99, 0), (99, 0), (0, _), (17, _), (0, _), (0, _), (0, _), (0, _), (0, _)]) ⟨Or.inl rfl, ⟨Or.inl rfl, ⟨Or.inr rfl, ⟨Or.inr rfl, ⟨Or.inr rfl, ⟨Or.inr rfl, ⟨Or.inr rfl, ⟨Or.inr rfl, ⟨Or.inr rfl, trivial⟩⟩⟩⟩⟩⟩⟩⟩⟩ ?_
      exact k54 _ _ _ _ _ h
    · have h := h.2 c
      refine am_aload_n (i := 3) (t := 14) (pc := 75) G dX9_twice_75 rfl rfl rfl ?_
      refine am_iload (pc := 76) G dX9_twice_76 rfl ?_
      refine am_aload_n (i := 3) (t := 14) (pc := 78) G dX9_twice_78 rfl rfl rfl ?_
      refine am_iload (pc := 79) G dX9_twice_79 rfl ?_
      refine am_callV (rk := 1) (rmc := rm_X7_isAs) (st := []) (pc := 81) G 7 [(0, _), (17, _), (0, _)] rfl (by decide) rfl dX9_twice_81 tw_m_RX9_145 tw_i_X7_isAs tw_v_X7_isAs tw_z_RX7 tw_c_X7_isAs hy_X7_isAs (callrm hr rfl) rfl (RunsM.mono h (fun r3 M4 h => ?_)) Z.rm
      show AW X 84 _ [(0, _)] M4
      refine am_if_eq (pc := 84) G 104 dX9_twice_84 (by decide) (fun c => ?_) (fun c => ?_)
      · have h := h.1 c
        refine am_iinc (pc := 104) G dX9_twice_104 rfl (nlx hn rfl) rfl ?_
        refine am_goto (pc := 107) (ls := [(99, _), (99, _), (0, _), (17, _), (0, _), (0, _), (0, _), (0, _), (0, _)]) G 54 dX9_twice_107 (by decide) ?_
        refine am_le (ls' := [(99, 0), (99, 0), (0, _), (17, _), (0, _), (0, _), (0, _), (0, _), (0, _)]) ⟨Or.inl rfl, ⟨Or.inl rfl, ⟨Or.inr rfl, ⟨Or.inr rfl, ⟨Or.inr rfl, ⟨Or.inr rfl, ⟨Or.inr rfl, ⟨Or.inr rfl, ⟨Or.inr rfl, trivial⟩⟩⟩⟩⟩⟩⟩⟩⟩ ?_
        exact k54 _ _ _ _ _ h
      · have h := h.2 c
        refine am_aload_n (i := 3) (t := 14) (pc := 87) G dX9_twice_87 rfl rfl rfl ?_
        refine gf_X7_3 (pc := 88) G dX9_twice_88 tw_f_RX9_128 ?_
        refine am_iload (pc := 91) G dX9_twice_91 rfl ?_
        refine am_iald (pc := 93) G 16 dX9_twice_93 (by decide) h.1 ?_
        have h := h.2
        have h := h _ rfl
        refine am_istore (pc := 94) G dX9_twice_94 (nlx hn rfl) rfl ?_
        refine am_iload (pc := 96) (ls := [(99, _), (99, _), (0, _), (17, _), (0, _), (0, _), (0, _), (0, _), (0, _)]) G dX9_twice_96 rfl ?_
        refine am_istore (pc := 98) G dX9_twice_98 (nlx hn rfl) rfl ?_
        refine am_iload (pc := 100) (ls := [(99, _), (99, _), (0, _), (17, _), (0, _), (0, _), (0, _), (0, _), (0, _)]) G dX9_twice_100 rfl ?_
        refine am_istore (pc := 102) G dX9_twice_102 (nlx hn rfl) rfl ?_
        refine am_iinc (pc := 104) (ls := [(99, _), (99, _), (0, _), (17, _), (0, _), (0, _), (0, _), (0, _), (0, _)]) G dX9_twice_104 rfl (nlx hn rfl) rfl ?_
        refine am_goto (pc := 107) (ls := [(99, _), (99, _), (0, _), (17, _), (0, _), (0, _), (0, _), (0, _), (0, _)]) G 54 dX9_twice_107 (by decide) ?_
        refine am_le (ls' := [(99, 0), (99, 0), (0, _), (17, _), (0, _), (0, _), (0, _), (0, _), (0, _)]) ⟨Or.inl rfl, ⟨Or.inl rfl, ⟨Or.inr rfl, ⟨Or.inr rfl, ⟨Or.inr rfl, ⟨Or.inr rfl, ⟨Or.inr rfl, ⟨Or.inr rfl, ⟨Or.inr rfl, trivial⟩⟩⟩⟩⟩⟩⟩⟩⟩ ?_
        exact k54 _ _ _ _ _ h
def wp_X9_twice_54 (V : VV) (x2 x3 x4 x5 x6 x7 x8 : Int) (M : Mem) (Q : Int → Mem → Prop) (B39 : Int → Int → Int → Int → Mem → Prop) : Prop :=
  ∃ (I : Int → Int → Int → Int → Mem → Prop) (μ : Int → Int → Int → Int → Mem → Nat), I x4 x5 x6 x8 M ∧ ∀ (y4 y5 y6 y8 : Int) (N : Mem), I y4 y5 y6 y8 N → wp_X9_twice_54_b V x2 x3 y4 y5 y6 x7 y8 N Q B39 (fun z4 z5 z6 z8 N1 => I z4 z5 z6 z8 N1 ∧ μ z4 z5 z6 z8 N1 < μ y4 y5 y6 y8 N)
theorem swp_X9_twice_54 {X : XX} {Q : Int → Mem → Prop} (G : GX X cX9_twice "TreeHands") (Z : RX X 0 Q) (hn : nLX X = 9) (hr : roomX X = rm_X9_twice) (x2 x3 x4 x5 x6 x7 x8 : Int) (M : Mem) (B39 : Int → Int → Int → Int → Mem → Prop) (k39 : ∀ (z4 z5 z6 z7 : Int) (N : Mem), B39 z4 z5 z6 z7 N → AW X 39 [(99, 0), (99, 0), (0, x2), (17, x3), (0, z4), (0, z5), (0, z6), (0, z7), (99, 0)] [] N) (h : wp_X9_twice_54 (vX X) x2 x3 x4 x5 x6 x7 x8 M Q B39) : AW X 54 [(99, 0), (99, 0), (0, x2), (17, x3), (0, x4), (0, x5), (0, x6), (0, x7), (0, x8)] [] M := by
  unfold wp_X9_twice_54 at h
  obtain ⟨I, μ, hI, hs⟩ := h
  have key : ∀ (n : Nat) (y4 y5 y6 y8 : Int) (N : Mem), μ y4 y5 y6 y8 N < n → I y4 y5 y6 y8 N → AW X 54 [(99, 0), (99, 0), (0, x2), (17, x3), (0, y4), (0, y5), (0, y6), (0, x7), (0, y8)] [] N := by
    intro n
    induction n with
    | zero => intro y4 y5 y6 y8 N hlt; exact absurd hlt (Nat.not_lt_zero _)
    | succ n ih =>
      intro y4 y5 y6 y8 N hlt hI
      exact swp_X9_twice_54_b G Z hn hr x2 x3 y4 y5 y6 x7 y8 N B39 k39 (fun z4 z5 z6 z8 N1 => I z4 z5 z6 z8 N1 ∧ μ z4 z5 z6 z8 N1 < μ y4 y5 y6 y8 N) (fun z4 z5 z6 z8 N1 hz => ih z4 z5 z6 z8 N1 (by omega) hz.1) (hs y4 y5 y6 y8 N hI)
  exact key _ x4 x5 x6 x8 M (Nat.lt_succ_self _) hI
def wp_X9_twice_39_b (V : VV) (x2 x3 x4 x5 x6 x7 : Int) (M : Mem) (Q : Int → Mem → Prop) (B39 : Int → Int → Int → Int → Mem → Prop) : Prop :=
  (M x3 0 ≤ x7 →
    (x2 = 0 →
      Q x6 M) ∧ (¬ (x2 = 0) →
      (x2 = 1 →
        Q x4 M) ∧ (¬ (x2 = 1) →
        Q x5 M))) ∧ (¬ (M x3 0 ≤ x7) →
    wp_X9_twice_54 V x2 x3 x4 x5 x6 x7 (w32 (x7 + 1)) M Q B39)
theorem swp_X9_twice_39_b {X : XX} {Q : Int → Mem → Prop} (G : GX X cX9_twice "TreeHands") (Z : RX X 0 Q) (hn : nLX X = 9) (hr : roomX X = rm_X9_twice) (x2 x3 x4 x5 x6 x7 : Int) (M : Mem) (B39 : Int → Int → Int → Int → Mem → Prop) (k39 : ∀ (z4 z5 z6 z7 : Int) (N : Mem), B39 z4 z5 z6 z7 N → AW X 39 [(99, 0), (99, 0), (0, x2), (17, x3), (0, z4), (0, z5), (0, z6), (0, z7), (99, 0)] [] N) (h : wp_X9_twice_39_b (vX X) x2 x3 x4 x5 x6 x7 M Q B39) : AW X 39 [(99, 0), (99, 0), (0, x2), (17, x3), (0, x4), (0, x5), (0, x6), (0, x7), (99, 0)] [] M := by
  unfold wp_X9_twice_39_b at h
  refine am_iload (pc := 39) G dX9_twice_39 rfl ?_
  refine am_aload_n (i := 3) (t := 14) (pc := 41) G dX9_twice_41 rfl rfl rfl ?_
  refine gf_X7_0 (pc := 42) G dX9_twice_42 tw_f_RX9_171 ?_
  refine am_icmp_ge (pc := 45) G 116 dX9_twice_45 (by decide) (fun c => ?_) (fun c => ?_)
  · have h := h.1 c
    refine am_iload_n (i := 2) (pc := 116) G dX9_twice_116 rfl rfl ?_
    refine am_if_ne (pc := 117) G 125 dX9_twice_117 (by decide) (fun c => ?_) (fun c => ?_)
    · have h := h.2 c
      refine am_iload_n (i := 2) (pc := 125) G dX9_twice_125 rfl rfl ?_
      refine am_iconst (pc := 126) G dX9_twice_126 (by decide) ?_
      refine am_icmp_ne (pc := 127) G 135 dX9_twice_127 (by decide) (fun c => ?_) (fun c => ?_)
      · have h := h.2 c
        refine am_iload (pc := 135) G dX9_twice_135 rfl ?_
        exact am_iret (pc := 137) G Z dX9_twice_137 h
      · have h := h.1 c
        refine am_iload (pc := 130) G dX9_twice_130 rfl ?_
        refine am_goto (pc := 132) G 137 dX9_twice_132 (by decide) ?_
        exact am_iret (pc := 137) G Z dX9_twice_137 h
    · have h := h.1 c
      refine am_iload (pc := 120) G dX9_twice_120 rfl ?_
      refine am_goto (pc := 122) G 137 dX9_twice_122 (by decide) ?_
      exact am_iret (pc := 137) G Z dX9_twice_137 h
  · have h := h.2 c
    refine am_iload (pc := 48) G dX9_twice_48 rfl ?_
    refine am_iconst (pc := 50) G dX9_twice_50 (by decide) ?_
    refine am_iadd (pc := 51) G dX9_twice_51 ?_
    refine am_istore (pc := 52) G dX9_twice_52 (nlx hn rfl) rfl ?_
    refine am_le (ls' := [(99, 0), (99, 0), (0, _), (17, _), (0, _), (0, _), (0, _), (0, _), (0, _)]) ⟨Or.inl rfl, ⟨Or.inl rfl, ⟨Or.inr rfl, ⟨Or.inr rfl, ⟨Or.inr rfl, ⟨Or.inr rfl, ⟨Or.inr rfl, ⟨Or.inr rfl, ⟨Or.inr rfl, trivial⟩⟩⟩⟩⟩⟩⟩⟩⟩ ?_
    exact swp_X9_twice_54 G Z hn hr _ _ _ _ _ _ _ _ B39 k39 h
def wp_X9_twice_39 (V : VV) (x2 x3 x4 x5 x6 x7 : Int) (M : Mem) (Q : Int → Mem → Prop) : Prop :=
  ∃ (I : Int → Int → Int → Int → Mem → Prop) (μ : Int → Int → Int → Int → Mem → Nat), I x4 x5 x6 x7 M ∧ ∀ (y4 y5 y6 y7 : Int) (N : Mem), I y4 y5 y6 y7 N → wp_X9_twice_39_b V x2 x3 y4 y5 y6 y7 N Q (fun z4 z5 z6 z7 N1 => I z4 z5 z6 z7 N1 ∧ μ z4 z5 z6 z7 N1 < μ y4 y5 y6 y7 N)
theorem swp_X9_twice_39 {X : XX} {Q : Int → Mem → Prop} (G : GX X cX9_twice "TreeHands") (Z : RX X 0 Q) (hn : nLX X = 9) (hr : roomX X = rm_X9_twice) (x2 x3 x4 x5 x6 x7 : Int) (M : Mem) (h : wp_X9_twice_39 (vX X) x2 x3 x4 x5 x6 x7 M Q) : AW X 39 [(99, 0), (99, 0), (0, x2), (17, x3), (0, x4), (0, x5), (0, x6), (0, x7), (99, 0)] [] M := by
  unfold wp_X9_twice_39 at h
  obtain ⟨I, μ, hI, hs⟩ := h
  have key : ∀ (n : Nat) (y4 y5 y6 y7 : Int) (N : Mem), μ y4 y5 y6 y7 N < n → I y4 y5 y6 y7 N → AW X 39 [(99, 0), (99, 0), (0, x2), (17, x3), (0, y4), (0, y5), (0, y6), (0, y7), (99, 0)] [] N := by
    intro n
    induction n with
    | zero => intro y4 y5 y6 y7 N hlt; exact absurd hlt (Nat.not_lt_zero _)
    | succ n ih =>
      intro y4 y5 y6 y7 N hlt hI
      exact swp_X9_twice_39_b G Z hn hr x2 x3 y4 y5 y6 y7 N (fun z4 z5 z6 z7 N1 => I z4 z5 z6 z7 N1 ∧ μ z4 z5 z6 z7 N1 < μ y4 y5 y6 y7 N) (fun z4 z5 z6 z7 N1 hz => ih z4 z5 z6 z7 N1 (by omega) hz.1) (hs y4 y5 y6 y7 N hI)
  exact key _ x4 x5 x6 x7 M (Nat.lt_succ_self _) hI
def wp_X9_twice (V : VV) (x1 x2 : Int) (M : Mem) (Q : Int → Mem → Prop) : Prop :=
  R_X9_filledAt V x1 M (fun r1 M2 =>
  (r1 < 0 →
    Q (-1) M2) ∧ (¬ (r1 < 0) →
    (x2 < 0 →
      Q (-2) M2) ∧ (¬ (x2 < 0) →
      (x2 ≤ 2 →
        wp_X9_twice_39 V x2 r1 (-6) (-6) (-6) 0 M2 Q) ∧ (¬ (x2 ≤ 2) →
        Q (-2) M2))))
theorem of_X9_twice {V : VV} {x1 x2 : Int} {M : Mem} {Q : Int → Mem → Prop} (h : wp_X9_twice V x1 x2 M Q) : R_X9_twice V x1 x2 M Q := by
  refine met_in (own := "TreeHands") (by decide +kernel) rfl rfl (Nat.le_of_ble_eq_true rfl) ?_
  intro X G Z hn hr hv
  subst hv
  unfold wp_X9_twice at h
  show AW X 0 [(19, 0), (0, x1), (0, x2), (99, 0), (99, 0), (99, 0), (99, 0), (99, 0), (99, 0)] [] M
  refine am_aload_n (i := 0) (t := 16) (pc := 0) G dX9_twice_0 rfl rfl rfl ?_
  refine am_iload_n (i := 1) (pc := 1) G dX9_twice_1 rfl rfl ?_
  refine am_callV (rk := 3) (rmc := rm_X9_filledAt) (st := []) (pc := 2) G 9 [(0, _)] rfl (by decide) rfl dX9_twice_2 tw_m_RX9_134 tw_i_X9_filledAt tw_v_X9_filledAt tw_z_RX9 tw_c_X9_filledAt hy_X9_filledAt (callrm hr rfl) rfl (RunsM.mono h (fun r1 M2 h => ?_)) Z.rm
  show AW X 5 _ [(30017, _)] M2
  refine am_astore_n (t := 30014) (pc := 5) G dX9_twice_5 rfl (nlx hn rfl) rfl ?_
  refine am_aload_n (i := 3) (t := 30014) (pc := 6) (ls := [(19, _), (0, _), (0, _), (30017, _), (99, _), (99, _), (99, _), (99, _), (99, _)]) G dX9_twice_6 rfl rfl rfl ?_
  refine am_ifnonnull (t := 30014) (pc := 7) G 12 dX9_twice_7 (by decide) (fun c => ?_) (fun c => ?_)
  · have h := h.2 c
    refine am_retag (i := 3) (t := 17) (by decide) (by decide) rfl rfl (by omega) ?_
    show AW X 12 [(19, _), (0, _), (0, _), (17, _), (99, _), (99, _), (99, _), (99, _), (99, _)] _ _
    refine am_iload_n (i := 2) (pc := 12) G dX9_twice_12 rfl rfl ?_
    refine am_if_lt (pc := 13) G 21 dX9_twice_13 (by decide) (fun c => ?_) (fun c => ?_)
    · have h := h.1 c
      refine am_bipush (pc := 21) G dX9_twice_21 (by decide) (by decide) ?_
      exact am_iret (pc := 23) G Z dX9_twice_23 h
    · have h := h.2 c
      refine am_iload_n (i := 2) (pc := 16) G dX9_twice_16 rfl rfl ?_
      refine am_iconst (pc := 17) G dX9_twice_17 (by decide) ?_
      refine am_icmp_le (pc := 18) G 24 dX9_twice_18 (by decide) (fun c => ?_) (fun c => ?_)
      · have h := h.1 c
        refine am_bipush (pc := 24) G dX9_twice_24 (by decide) (by decide) ?_
        refine am_istore (pc := 26) G dX9_twice_26 (nlx hn rfl) rfl ?_
        refine am_bipush (pc := 28) (ls := [(19, _), (0, _), (0, _), (17, _), (0, _), (99, _), (99, _), (99, _), (99, _)]) G dX9_twice_28 (by decide) (by decide) ?_
        refine am_istore (pc := 30) G dX9_twice_30 (nlx hn rfl) rfl ?_
        refine am_bipush (pc := 32) (ls := [(19, _), (0, _), (0, _), (17, _), (0, _), (0, _), (99, _), (99, _), (99, _)]) G dX9_twice_32 (by decide) (by decide) ?_
        refine am_istore (pc := 34) G dX9_twice_34 (nlx hn rfl) rfl ?_
        refine am_iconst (pc := 36) (ls := [(19, _), (0, _), (0, _), (17, _), (0, _), (0, _), (0, _), (99, _), (99, _)]) G dX9_twice_36 (by decide) ?_
        refine am_istore (pc := 37) G dX9_twice_37 (nlx hn rfl) rfl ?_
        refine am_le (ls' := [(99, 0), (99, 0), (0, _), (17, _), (0, _), (0, _), (0, _), (0, _), (99, 0)]) ⟨Or.inl rfl, ⟨Or.inl rfl, ⟨Or.inr rfl, ⟨Or.inr rfl, ⟨Or.inr rfl, ⟨Or.inr rfl, ⟨Or.inr rfl, ⟨Or.inr rfl, ⟨Or.inl rfl, trivial⟩⟩⟩⟩⟩⟩⟩⟩⟩ ?_
        exact swp_X9_twice_39 G Z hn hr _ _ _ _ _ _ _ h
      · have h := h.2 c
        refine am_bipush (pc := 21) G dX9_twice_21 (by decide) (by decide) ?_
        exact am_iret (pc := 23) G Z dX9_twice_23 h
  · have h := h.1 c
    refine am_iconst (pc := 10) G dX9_twice_10 (by decide) ?_
    exact am_iret (pc := 11) G Z dX9_twice_11 h
-- X9_rule TreeHands.rule(II)I
def rm_X9_rule : Room := { frames := 2, cells := 0, slots := 0, locals := 44 }
theorem hy_X9_rule : yX9_rule.cls ≠ "java/lang/invoke/MethodHandle" ∧ yX9_rule.cls ≠ "java/lang/invoke/VarHandle" ∧ (parseMethodDescriptor yX9_rule.desc).map (fun d => d.parameters.length) = some 2 := by decide +kernel
abbrev R_X9_rule (V : VV) (x1 x2 : Int) (M : Mem) (Q : Int → Mem → Prop) : Prop := RunsM V yX9_rule (.code yX9_rule cX9_rule 5 (Option.some Jvm.ClassFile.FieldType.int)) rm_X9_rule 0 [(19, 0), (0, x1), (0, x2)] M Q
def wp_X9_rule (V : VV) (x1 x2 : Int) (M : Mem) (Q : Int → Mem → Prop) : Prop :=
  R_X9_filledAt V x1 M (fun r1 M2 =>
  R_X9_filledAt V x2 M2 (fun r3 M4 =>
  (r1 < 0 →
    Q (-1) M4) ∧ (¬ (r1 < 0) →
    (r3 < 0 →
      Q (-1) M4) ∧ (¬ (r3 < 0) →
      (M4 28 0 < 6 →
        ((0 : Int) ≤ 0 ∧ 0 < (16 : Int)) ∧
        R_X9_isHole V (M4 (r1 + 1) 0) M4 (fun r5 M6 =>
        (r5 = 0 →
          R_X7_holeBits V r3 M6 (fun r7 M8 =>
          R_X7_holeBits V r1 M8 (fun r9 M10 =>
          (and32 r7 (xor32 r9 (-1)) = 0 →
            ∀ M11 : Mem, M11 = mset M10 127 0 0 →
            R_X6_append V r1 r3 M11 (fun r12 M13 =>
            Q r12 M13)) ∧ (¬ (and32 r7 (xor32 r9 (-1)) = 0) →
            Q (-5) M10)))) ∧ (¬ (r5 = 0) →
          Q (-5) M6))) ∧ (¬ (M4 28 0 < 6) →
        Q (-4) M4)))))
theorem of_X9_rule {V : VV} {x1 x2 : Int} {M : Mem} {Q : Int → Mem → Prop} (h : wp_X9_rule V x1 x2 M Q) : R_X9_rule V x1 x2 M Q := by
  refine met_in (own := "TreeHands") (by decide +kernel) rfl rfl (Nat.le_of_ble_eq_true rfl) ?_
  intro X G Z hn hr hv
  subst hv
  unfold wp_X9_rule at h
  show AW X 0 [(19, 0), (0, x1), (0, x2), (99, 0), (99, 0)] [] M
  refine am_aload_n (i := 0) (t := 16) (pc := 0) G dX9_rule_0 rfl rfl rfl ?_
  refine am_iload_n (i := 1) (pc := 1) G dX9_rule_1 rfl rfl ?_
  refine am_callV (rk := 3) (rmc := rm_X9_filledAt) (st := []) (pc := 2) G 9 [(0, _)] rfl (by decide) rfl dX9_rule_2 tw_m_RX9_134 tw_i_X9_filledAt tw_v_X9_filledAt tw_z_RX9 tw_c_X9_filledAt hy_X9_filledAt (callrm hr rfl) rfl (RunsM.mono h (fun r1 M2 h => ?_)) Z.rm
  show AW X 5 _ [(30017, _)] M2
  refine am_astore_n (t := 30014) (pc := 5) G dX9_rule_5 rfl (nlx hn rfl) rfl ?_
  refine am_aload_n (i := 0) (t := 16) (pc := 6) (ls := [(19, _), (0, _), (0, _), (30017, _), (99, _)]) G dX9_rule_6 rfl rfl rfl ?_
  refine am_iload_n (i := 2) (pc := 7) G dX9_rule_7 rfl rfl ?_
  refine am_callV (rk := 3) (rmc := rm_X9_filledAt) (st := []) (pc := 8) G 9 [(0, _)] rfl (by decide) rfl dX9_rule_8 tw_m_RX9_134 tw_i_X9_filledAt tw_v_X9_filledAt tw_z_RX9 tw_c_X9_filledAt hy_X9_filledAt (callrm hr rfl) rfl (RunsM.mono h (fun r3 M4 h => ?_)) Z.rm
  show AW X 11 _ [(30017, _)] M4
  refine am_astore (t := 30014) (pc := 11) G dX9_rule_11 (nlx hn rfl) rfl ?_
  refine am_aload_n (i := 3) (t := 30014) (pc := 13) (ls := [(19, _), (0, _), (0, _), (30017, _), (30017, _)]) G dX9_rule_13 rfl rfl rfl ?_
  refine am_ifnull (t := 30014) (pc := 14) G 22 dX9_rule_14 (by decide) (fun c => ?_) (fun c => ?_)
  · have h := h.1 c
    refine am_iconst (pc := 22) G dX9_rule_22 (by decide) ?_
    exact am_iret (pc := 23) G Z dX9_rule_23 h
  · have h := h.2 c
    refine am_retag (i := 3) (t := 17) (by decide) (by decide) rfl rfl (by omega) ?_
    show AW X 17 [(19, _), (0, _), (0, _), (17, _), (30017, _)] _ _
    refine am_aload (t := 30014) (pc := 17) G dX9_rule_17 rfl rfl ?_
    refine am_ifnonnull (t := 30014) (pc := 19) G 24 dX9_rule_19 (by decide) (fun c => ?_) (fun c => ?_)
    · have h := h.2 c
      refine am_retag (i := 4) (t := 17) (by decide) (by decide) rfl rfl (by omega) ?_
      show AW X 24 [(19, _), (0, _), (0, _), (17, _), (17, _)] _ _
      refine am_aload_n (i := 0) (t := 16) (pc := 24) G dX9_rule_24 rfl rfl rfl ?_
      refine gf_X9_7 (pc := 25) G dX9_rule_25 tw_f_RX9_55 ?_
      refine gf_X6_0 (pc := 28) G dX9_rule_28 tw_f_RX9_192 ?_
      refine am_bipush (pc := 31) G dX9_rule_31 (by decide) (by decide) ?_
      refine am_icmp_lt (pc := 33) G 39 dX9_rule_33 (by decide) (fun c => ?_) (fun c => ?_)
      · have h := h.1 c
        refine am_aload_n (i := 3) (t := 14) (pc := 39) G dX9_rule_39 rfl rfl rfl ?_
        refine gf_X7_1 (pc := 40) G dX9_rule_40 tw_f_RX9_116 ?_
        refine am_iconst (pc := 43) G dX9_rule_43 (by decide) ?_
        refine am_iald (pc := 44) G 16 dX9_rule_44 (by decide) h.1 ?_
        have h := h.2
        refine am_callS (rk := 1) (rmc := rm_X9_isHole) (st := []) (pc := 45) G [(0, _)] dX9_rule_45 tw_m_RX9_193 tw_s_X9_isHole tw_z_RX9 tw_c_X9_isHole hy_X9_isHole (callrm hr rfl) rfl (RunsM.mono h (fun r5 M6 h => ?_)) Z.rm
        show AW X 48 _ [(0, _)] M6
        refine am_if_ne (pc := 48) G 66 dX9_rule_48 (by decide) (fun c => ?_) (fun c => ?_)
        · have h := h.2 c
          refine am_bipush (pc := 66) G dX9_rule_66 (by decide) (by decide) ?_
          exact am_iret (pc := 68) G Z dX9_rule_68 h
        · have h := h.1 c
          refine am_aload (t := 14) (pc := 51) G dX9_rule_51 rfl rfl ?_
          refine am_callV (rk := 0) (rmc := rm_X7_holeBits) (st := []) (pc := 53) G 7 [] rfl (by decide) rfl dX9_rule_53 tw_m_RX9_196 tw_i_X7_holeBits tw_v_X7_holeBits tw_z_RX7 tw_c_X7_holeBits hy_X7_holeBits (callrm hr rfl) rfl (RunsM.mono h (fun r7 M8 h => ?_)) Z.rm
          show AW X 56 _ [(0, _)] M8
          refine am_aload_n (i := 3) (t := 14) (pc := 56) G dX9_rule_56 rfl rfl rfl ?_
          refine am_callV (rk := 0) (rmc := rm_X7_holeBits) (st := [(0, _)]) (pc := 57) G 7 [] rfl (by decide) rfl dX9_rule_57 tw_m_RX9_196 tw_i_X7_holeBits tw_v_X7_holeBits tw_z_RX7 tw_c_X7_holeBits hy_X7_holeBits (callrm hr rfl) rfl (RunsM.mono h (fun r9 M10 h => ?_)) Z.rm
          show AW X 60 _ [(0, _), (0, _)] M10
          refine am_iconst (pc := 60) G dX9_rule_60 (by decide) ?_
          refine am_ixor (pc := 61) G dX9_rule_61 ?_
          refine am_iand (pc := 62) G dX9_rule_62 ?_
          refine am_if_eq (pc := 63) G 69 dX9_rule_63 (by decide) (fun c => ?_) (fun c => ?_)
          · have h := h.1 c
            refine am_aload_n (i := 0) (t := 16) (pc := 69) G dX9_rule_69 rfl rfl rfl ?_
            refine gf_X9_9 (pc := 70) G dX9_rule_70 tw_f_RX9_73 ?_
            refine am_iconst (pc := 73) G dX9_rule_73 (by decide) ?_
            refine pf_X4_0 (pc := 74) G dX9_rule_74 tw_f_RX9_199 rfl rfl ?_
            refine am_aload_n (i := 0) (t := 16) (pc := 77) G dX9_rule_77 rfl rfl rfl ?_
            refine gf_X9_7 (pc := 78) G dX9_rule_78 tw_f_RX9_55 ?_
            refine am_aload_n (i := 3) (t := 14) (pc := 81) G dX9_rule_81 rfl rfl rfl ?_
            refine am_aload (t := 14) (pc := 82) G dX9_rule_82 rfl rfl ?_
            have h := h _ rfl
            refine am_callV (rk := 0) (rmc := rm_X6_append) (st := []) (pc := 84) G 6 [(17, _), (17, _)] rfl (by decide) rfl dX9_rule_84 tw_m_RX9_203 tw_i_X6_append tw_v_X6_append tw_z_RX6 tw_c_X6_append hy_X6_append (callrm hr rfl) rfl (RunsM.mono h (fun r12 M13 h => ?_)) Z.rm
            show AW X 87 _ [(0, _)] M13
            exact am_iret (pc := 87) G Z dX9_rule_87 h
          · have h := h.2 c
            refine am_bipush (pc := 66) G dX9_rule_66 (by decide) (by decide) ?_
            exact am_iret (pc := 68) G Z dX9_rule_68 h
      · have h := h.2 c
        refine am_bipush (pc := 36) G dX9_rule_36 (by decide) (by decide) ?_
        exact am_iret (pc := 38) G Z dX9_rule_38 h
    · have h := h.1 c
      refine am_iconst (pc := 22) G dX9_rule_22 (by decide) ?_
      exact am_iret (pc := 23) G Z dX9_rule_23 h
