-- X10_twice TreeHandsModel.twice(II)I
def rm_X10_twice : Room := { frames := 2, cells := 0, slots := 0, locals := 51 }
theorem hy_X10_twice : yX10_twice.cls ≠ "java/lang/invoke/MethodHandle" ∧ yX10_twice.cls ≠ "java/lang/invoke/VarHandle" ∧ (parseMethodDescriptor yX10_twice.desc).map (fun d => d.parameters.length) = some 2 := by decide +kernel
abbrev R_X10_twice (V : VV) (x1 x2 : Int) (M : Mem) (Q : Int → Mem → Prop) : Prop := RunsM V yX10_twice (.code yX10_twice cX10_twice 9 (Option.some Jvm.ClassFile.FieldType.int)) rm_X10_twice 0 [(20, 203), (0, x1), (0, x2)] M Q
def wp_X10_twice_70_b (V : VV) (x1 x2 x3 x4 x5 x6 x7 x8 : Int) (M : Mem) (Q : Int → Mem → Prop) (B43 : Int → Int → Int → Int → Mem → Prop) (B70 : Int → Int → Int → Int → Mem → Prop) : Prop :=
  ((0 : Int) ≤ x1 ∧ x1 < (21 : Int)) ∧
  (M 204 x1 ≤ x8 →
    B43 x3 x4 x5 (w32 (x6 + 1)) M) ∧ (¬ (M 204 x1 ≤ x8) →
    (x7 ≤ x3 →
      B70 x3 x4 x5 (w32 (x8 + 1)) M) ∧ (¬ (x7 ≤ x3) →
      R_X10_same V x1 x6 x1 x8 M (fun r7 M8 =>
      (r7 = 0 →
        B70 x3 x4 x5 (w32 (x8 + 1)) M8) ∧ (¬ (r7 = 0) →
        B70 x7 x6 x8 (w32 (x8 + 1)) M8))))
theorem swp_X10_twice_70_b {X : XX} {Q : Int → Mem → Prop} (G : GX X cX10_twice "TreeHandsModel") (Z : RX X 0 Q) (hn : nLX X = 9) (hr : roomX X = rm_X10_twice) (x1 x2 x3 x4 x5 x6 x7 x8 : Int) (M : Mem) (B43 : Int → Int → Int → Int → Mem → Prop) (k43 : ∀ (z3 z4 z5 z6 : Int) (N : Mem), B43 z3 z4 z5 z6 N → AW X 43 [(20, 203), (0, x1), (0, x2), (0, z3), (0, z4), (0, z5), (0, z6), (99, 0), (99, 0)] [] N) (B70 : Int → Int → Int → Int → Mem → Prop) (k70 : ∀ (z3 z4 z5 z8 : Int) (N : Mem), B70 z3 z4 z5 z8 N → AW X 70 [(20, 203), (0, x1), (0, x2), (0, z3), (0, z4), (0, z5), (0, x6), (0, x7), (0, z8)] [] N) (h : wp_X10_twice_70_b (vX X) x1 x2 x3 x4 x5 x6 x7 x8 M Q B43 B70) : AW X 70 [(20, 203), (0, x1), (0, x2), (0, x3), (0, x4), (0, x5), (0, x6), (0, x7), (0, x8)] [] M := by
  unfold wp_X10_twice_70_b at h
  refine am_iload (pc := 70) G dX10_twice_70 rfl ?_
  refine am_aload_n (i := 0) (t := 17) (pc := 72) G dX10_twice_72 rfl rfl rfl ?_
  refine gf_X10_0 (pc := 73) G dX10_twice_73 tw_f_RX10_7 ?_
  refine am_iload_n (i := 1) (pc := 76) G dX10_twice_76 rfl rfl ?_
  refine am_iald (pc := 77) G 21 dX10_twice_77 (by decide) h.1 ?_
  have h := h.2
  refine am_icmp_ge (pc := 78) G 117 dX10_twice_78 (by decide) (fun c => ?_) (fun c => ?_)
  · have h := h.1 c
    refine am_iinc (pc := 117) G dX10_twice_117 rfl (nlx hn rfl) rfl ?_
    refine am_goto (pc := 120) (ls := [(20, _), (0, _), (0, _), (0, _), (0, _), (0, _), (0, _), (0, _), (0, _)]) G 43 dX10_twice_120 (by decide) ?_
    refine am_le (ls' := [(20, _), (0, _), (0, _), (0, _), (0, _), (0, _), (0, _), (99, 0), (99, 0)]) ⟨Or.inr rfl, ⟨Or.inr rfl, ⟨Or.inr rfl, ⟨Or.inr rfl, ⟨Or.inr rfl, ⟨Or.inr rfl, ⟨Or.inr rfl, ⟨Or.inl rfl, ⟨Or.inl rfl, trivial⟩⟩⟩⟩⟩⟩⟩⟩⟩ ?_
    exact k43 _ _ _ _ _ h
  · have h := h.2 c
    refine am_iload (pc := 81) G dX10_twice_81 rfl ?_
    refine am_iload_n (i := 3) (pc := 83) G dX10_twice_83 rfl rfl ?_
    refine am_icmp_le (pc := 84) G 111 dX10_twice_84 (by decide) (fun c => ?_) (fun c => ?_)
    · have h := h.1 c
      refine am_iinc (pc := 111) G dX10_twice_111 rfl (nlx hn rfl) rfl ?_
      refine am_goto (pc := 114) (ls := [(20, _), (0, _), (0, _), (0, _), (0, _), (0, _), (0, _), (0, _), (0, _)]) G 70 dX10_twice_114 (by decide) ?_
      refine am_le (ls' := [(20, _), (0, _), (0, _), (0, _), (0, _), (0, _), (0, _), (0, _), (0, _)]) ⟨Or.inr rfl, ⟨Or.inr rfl, ⟨Or.inr rfl, ⟨Or.inr rfl, ⟨Or.inr rfl, ⟨Or.inr rfl, ⟨Or.inr rfl, ⟨Or.inr rfl, ⟨Or.inr rfl, trivial⟩⟩⟩⟩⟩⟩⟩⟩⟩ ?_
      exact k70 _ _ _ _ _ h
    · have h := h.2 c
      refine am_aload_n (i := 0) (t := 17) (pc := 87) G dX10_twice_87 rfl rfl rfl ?_
      refine am_iload_n (i := 1) (pc := 88) G dX10_twice_88 rfl rfl ?_
      refine am_iload (pc := 89) G dX10_twice_89 rfl ?_
      refine am_iload_n (i := 1) (pc := 91) G dX10_twice_91 rfl rfl ?_
      refine am_iload (pc := 92) G dX10_twice_92 rfl ?_
      refine am_callV (rk := 1) (rmc := rm_X10_same) (st := []) (pc := 94) G 10 [(0, _), (0, _), (0, _), (0, _)] rfl (by decide) rfl dX10_twice_94 tw_m_RX10_153 tw_i_X10_same tw_v_X10_same tw_z_RX10 tw_c_X10_same hy_X10_same (callrm hr rfl) rfl (RunsM.mono h (fun r7 M8 h => ?_)) Z.rm
      show AW X 97 _ [(0, _)] M8
      refine am_if_eq (pc := 97) G 111 dX10_twice_97 (by decide) (fun c => ?_) (fun c => ?_)
      · have h := h.1 c
        refine am_iinc (pc := 111) G dX10_twice_111 rfl (nlx hn rfl) rfl ?_
        refine am_goto (pc := 114) (ls := [(20, _), (0, _), (0, _), (0, _), (0, _), (0, _), (0, _), (0, _), (0, _)]) G 70 dX10_twice_114 (by decide) ?_
        refine am_le (ls' := [(20, _), (0, _), (0, _), (0, _), (0, _), (0, _), (0, _), (0, _), (0, _)]) ⟨Or.inr rfl, ⟨Or.inr rfl, ⟨Or.inr rfl, ⟨Or.inr rfl, ⟨Or.inr rfl, ⟨Or.inr rfl, ⟨Or.inr rfl, ⟨Or.inr rfl, ⟨Or.inr rfl, trivial⟩⟩⟩⟩⟩⟩⟩⟩⟩ ?_
        exact k70 _ _ _ _ _ h
      · have h := h.2 c
        refine am_iload (pc := 100) G dX10_twice_100 rfl ?_
        refine am_istore_n (pc := 102) G dX10_twice_102 rfl (nlx hn rfl) rfl ?_
        refine am_iload (pc := 103) (ls := [(20, _), (0, _), (0, _), (0, _), (0, _), (0, _), (0, _), (0, _), (0, _)]) G dX10_twice_103 rfl ?_
        refine am_istore (pc := 105) G dX10_twice_105 (nlx hn rfl) rfl ?_
        refine am_iload (pc := 107) (ls := [(20, _), (0, _), (0, _), (0, _), (0, _), (0, _), (0, _), (0, _), (0, _)]) G dX10_twice_107 rfl ?_
        refine am_istore (pc := 109) G dX10_twice_109 (nlx hn rfl) rfl ?_
        refine am_iinc (pc := 111) (ls := [(20, _), (0, _), (0, _), (0, _), (0, _), (0, _), (0, _), (0, _), (0, _)]) G dX10_twice_111 rfl (nlx hn rfl) rfl ?_
        refine am_goto (pc := 114) (ls := [(20, _), (0, _), (0, _), (0, _), (0, _), (0, _), (0, _), (0, _), (0, _)]) G 70 dX10_twice_114 (by decide) ?_
        refine am_le (ls' := [(20, _), (0, _), (0, _), (0, _), (0, _), (0, _), (0, _), (0, _), (0, _)]) ⟨Or.inr rfl, ⟨Or.inr rfl, ⟨Or.inr rfl, ⟨Or.inr rfl, ⟨Or.inr rfl, ⟨Or.inr rfl, ⟨Or.inr rfl, ⟨Or.inr rfl, ⟨Or.inr rfl, trivial⟩⟩⟩⟩⟩⟩⟩⟩⟩ ?_
        exact k70 _ _ _ _ _ h
def wp_X10_twice_70 (V : VV) (x1 x2 x3 x4 x5 x6 x7 x8 : Int) (M : Mem) (Q : Int → Mem → Prop) (B43 : Int → Int → Int → Int → Mem → Prop) : Prop :=
  ∃ (I : Int → Int → Int → Int → Mem → Prop) (μ : Int → Int → Int → Int → Mem → Nat), I x3 x4 x5 x8 M ∧ ∀ (y3 y4 y5 y8 : Int) (N : Mem), I y3 y4 y5 y8 N → wp_X10_twice_70_b V x1 x2 y3 y4 y5 x6 x7 y8 N Q B43 (fun z3 z4 z5 z8 N1 => I z3 z4 z5 z8 N1 ∧ μ z3 z4 z5 z8 N1 < μ y3 y4 y5 y8 N)
theorem swp_X10_twice_70 {X : XX} {Q : Int → Mem → Prop} (G : GX X cX10_twice "TreeHandsModel") (Z : RX X 0 Q) (hn : nLX X = 9) (hr : roomX X = rm_X10_twice) (x1 x2 x3 x4 x5 x6 x7 x8 : Int) (M : Mem) (B43 : Int → Int → Int → Int → Mem → Prop) (k43 : ∀ (z3 z4 z5 z6 : Int) (N : Mem), B43 z3 z4 z5 z6 N → AW X 43 [(20, 203), (0, x1), (0, x2), (0, z3), (0, z4), (0, z5), (0, z6), (99, 0), (99, 0)] [] N) (h : wp_X10_twice_70 (vX X) x1 x2 x3 x4 x5 x6 x7 x8 M Q B43) : AW X 70 [(20, 203), (0, x1), (0, x2), (0, x3), (0, x4), (0, x5), (0, x6), (0, x7), (0, x8)] [] M := by
  unfold wp_X10_twice_70 at h
  obtain ⟨I, μ, hI, hs⟩ := h
  have key : ∀ (n : Nat) (y3 y4 y5 y8 : Int) (N : Mem), μ y3 y4 y5 y8 N < n → I y3 y4 y5 y8 N → AW X 70 [(20, 203), (0, x1), (0, x2), (0, y3), (0, y4), (0, y5), (0, x6), (0, x7), (0, y8)] [] N := by
    intro n
    induction n with
    | zero => intro y3 y4 y5 y8 N hlt; exact absurd hlt (Nat.not_lt_zero _)
    | succ n ih =>
      intro y3 y4 y5 y8 N hlt hI
      exact swp_X10_twice_70_b G Z hn hr x1 x2 y3 y4 y5 x6 x7 y8 N B43 k43 (fun z3 z4 z5 z8 N1 => I z3 z4 z5 z8 N1 ∧ μ z3 z4 z5 z8 N1 < μ y3 y4 y5 y8 N) (fun z3 z4 z5 z8 N1 hz => ih z3 z4 z5 z8 N1 (by omega) hz.1) (hs y3 y4 y5 y8 N hI)
  exact key _ x3 x4 x5 x8 M (Nat.lt_succ_self _) hI
def wp_X10_twice_43_b (V : VV) (x1 x2 x3 x4 x5 x6 : Int) (M : Mem) (Q : Int → Mem → Prop) (B43 : Int → Int → Int → Int → Mem → Prop) : Prop :=
  ((0 : Int) ≤ x1 ∧ x1 < (21 : Int)) ∧
  (M 204 x1 ≤ x6 →
    (0 ≤ x4 →
      (x2 = 0 →
        Q x3 M) ∧ (¬ (x2 = 0) →
        (x2 = 1 →
          Q x4 M) ∧ (¬ (x2 = 1) →
          Q x5 M))) ∧ (¬ (0 ≤ x4) →
      Q (-6) M)) ∧ (¬ (M 204 x1 ≤ x6) →
    R_X10_sizeOf V x1 x6 M (fun r5 M6 =>
    wp_X10_twice_70 V x1 x2 x3 x4 x5 x6 r5 (w32 (x6 + r5)) M6 Q B43))
theorem swp_X10_twice_43_b {X : XX} {Q : Int → Mem → Prop} (G : GX X cX10_twice "TreeHandsModel") (Z : RX X 0 Q) (hn : nLX X = 9) (hr : roomX X = rm_X10_twice) (x1 x2 x3 x4 x5 x6 : Int) (M : Mem) (B43 : Int → Int → Int → Int → Mem → Prop) (k43 : ∀ (z3 z4 z5 z6 : Int) (N : Mem), B43 z3 z4 z5 z6 N → AW X 43 [(20, 203), (0, x1), (0, x2), (0, z3), (0, z4), (0, z5), (0, z6), (99, 0), (99, 0)] [] N) (h : wp_X10_twice_43_b (vX X) x1 x2 x3 x4 x5 x6 M Q B43) : AW X 43 [(20, 203), (0, x1), (0, x2), (0, x3), (0, x4), (0, x5), (0, x6), (99, 0), (99, 0)] [] M := by
  unfold wp_X10_twice_43_b at h
  refine am_iload (pc := 43) G dX10_twice_43 rfl ?_
  refine am_aload_n (i := 0) (t := 17) (pc := 45) G dX10_twice_45 rfl rfl rfl ?_
  refine gf_X10_0 (pc := 46) G dX10_twice_46 tw_f_RX10_7 ?_
  refine am_iload_n (i := 1) (pc := 49) G dX10_twice_49 rfl rfl ?_
  refine am_iald (pc := 50) G 21 dX10_twice_50 (by decide) h.1 ?_
  have h := h.2
  refine am_icmp_ge (pc := 51) G 123 dX10_twice_51 (by decide) (fun c => ?_) (fun c => ?_)
  · have h := h.1 c
    refine am_iload (pc := 123) G dX10_twice_123 rfl ?_
    refine am_if_ge (pc := 125) G 133 dX10_twice_125 (by decide) (fun c => ?_) (fun c => ?_)
    · have h := h.1 c
      refine am_iload_n (i := 2) (pc := 133) G dX10_twice_133 rfl rfl ?_
      refine am_if_ne (pc := 134) G 141 dX10_twice_134 (by decide) (fun c => ?_) (fun c => ?_)
      · have h := h.2 c
        refine am_iload_n (i := 2) (pc := 141) G dX10_twice_141 rfl rfl ?_
        refine am_iconst (pc := 142) G dX10_twice_142 (by decide) ?_
        refine am_icmp_ne (pc := 143) G 151 dX10_twice_143 (by decide) (fun c => ?_) (fun c => ?_)
        · have h := h.2 c
          refine am_iload (pc := 151) G dX10_twice_151 rfl ?_
          exact am_iret (pc := 153) G Z dX10_twice_153 h
        · have h := h.1 c
          refine am_iload (pc := 146) G dX10_twice_146 rfl ?_
          refine am_goto (pc := 148) G 153 dX10_twice_148 (by decide) ?_
          exact am_iret (pc := 153) G Z dX10_twice_153 h
      · have h := h.1 c
        refine am_iload_n (i := 3) (pc := 137) G dX10_twice_137 rfl rfl ?_
        refine am_goto (pc := 138) G 153 dX10_twice_138 (by decide) ?_
        exact am_iret (pc := 153) G Z dX10_twice_153 h
    · have h := h.2 c
      refine am_bipush (pc := 128) G dX10_twice_128 (by decide) (by decide) ?_
      refine am_goto (pc := 130) G 153 dX10_twice_130 (by decide) ?_
      exact am_iret (pc := 153) G Z dX10_twice_153 h
  · have h := h.2 c
    refine am_aload_n (i := 0) (t := 17) (pc := 54) G dX10_twice_54 rfl rfl rfl ?_
    refine am_iload_n (i := 1) (pc := 55) G dX10_twice_55 rfl rfl ?_
    refine am_iload (pc := 56) G dX10_twice_56 rfl ?_
    refine am_callV (rk := 0) (rmc := rm_X10_sizeOf) (st := []) (pc := 58) G 10 [(0, _), (0, _)] rfl (by decide) rfl dX10_twice_58 tw_m_RX10_128 tw_i_X10_sizeOf tw_v_X10_sizeOf tw_z_RX10 tw_c_X10_sizeOf hy_X10_sizeOf (callrm hr rfl) rfl (RunsM.mono h (fun r5 M6 h => ?_)) Z.rm
    show AW X 61 _ [(0, _)] M6
    refine am_istore (pc := 61) G dX10_twice_61 (nlx hn rfl) rfl ?_
    refine am_iload (pc := 63) (ls := [(20, _), (0, _), (0, _), (0, _), (0, _), (0, _), (0, _), (0, _), (99, _)]) G dX10_twice_63 rfl ?_
    refine am_iload (pc := 65) G dX10_twice_65 rfl ?_
    refine am_iadd (pc := 67) G dX10_twice_67 ?_
    refine am_istore (pc := 68) G dX10_twice_68 (nlx hn rfl) rfl ?_
    refine am_le (ls' := [(20, _), (0, _), (0, _), (0, _), (0, _), (0, _), (0, _), (0, _), (0, _)]) ⟨Or.inr rfl, ⟨Or.inr rfl, ⟨Or.inr rfl, ⟨Or.inr rfl, ⟨Or.inr rfl, ⟨Or.inr rfl, ⟨Or.inr rfl, ⟨Or.inr rfl, ⟨Or.inr rfl, trivial⟩⟩⟩⟩⟩⟩⟩⟩⟩ ?_
    exact swp_X10_twice_70 G Z hn hr _ _ _ _ _ _ _ _ _ B43 k43 h
def wp_X10_twice_43 (V : VV) (x1 x2 x3 x4 x5 x6 : Int) (M : Mem) (Q : Int → Mem → Prop) : Prop :=
  ∃ (I : Int → Int → Int → Int → Mem → Prop) (μ : Int → Int → Int → Int → Mem → Nat), I x3 x4 x5 x6 M ∧ ∀ (y3 y4 y5 y6 : Int) (N : Mem), I y3 y4 y5 y6 N → wp_X10_twice_43_b V x1 x2 y3 y4 y5 y6 N Q (fun z3 z4 z5 z6 N1 => I z3 z4 z5 z6 N1 ∧ μ z3 z4 z5 z6 N1 < μ y3 y4 y5 y6 N)
theorem swp_X10_twice_43 {X : XX} {Q : Int → Mem → Prop} (G : GX X cX10_twice "TreeHandsModel") (Z : RX X 0 Q) (hn : nLX X = 9) (hr : roomX X = rm_X10_twice) (x1 x2 x3 x4 x5 x6 : Int) (M : Mem) (h : wp_X10_twice_43 (vX X) x1 x2 x3 x4 x5 x6 M Q) : AW X 43 [(20, 203), (0, x1), (0, x2), (0, x3), (0, x4), (0, x5), (0, x6), (99, 0), (99, 0)] [] M := by
  unfold wp_X10_twice_43 at h
  obtain ⟨I, μ, hI, hs⟩ := h
  have key : ∀ (n : Nat) (y3 y4 y5 y6 : Int) (N : Mem), μ y3 y4 y5 y6 N < n → I y3 y4 y5 y6 N → AW X 43 [(20, 203), (0, x1), (0, x2), (0, y3), (0, y4), (0, y5), (0, y6), (99, 0), (99, 0)] [] N := by
    intro n
    induction n with
    | zero => intro y3 y4 y5 y6 N hlt; exact absurd hlt (Nat.not_lt_zero _)
    | succ n ih =>
      intro y3 y4 y5 y6 N hlt hI
      exact swp_X10_twice_43_b G Z hn hr x1 x2 y3 y4 y5 y6 N (fun z3 z4 z5 z6 N1 => I z3 z4 z5 z6 N1 ∧ μ z3 z4 z5 z6 N1 < μ y3 y4 y5 y6 N) (fun z3 z4 z5 z6 N1 hz => ih z3 z4 z5 z6 N1 (by omega) hz.1) (hs y3 y4 y5 y6 N hI)
  exact key _ x3 x4 x5 x6 M (Nat.lt_succ_self _) hI
def wp_X10_twice (V : VV) (x1 x2 : Int) (M : Mem) (Q : Int → Mem → Prop) : Prop :=
  R_X10_isTree V x1 M (fun r1 M2 =>
  (r1 = 0 →
    Q (-1) M2) ∧ (¬ (r1 = 0) →
    ((0 : Int) ≤ x1 ∧ x1 < (21 : Int)) ∧
    (M2 204 x1 = 0 →
      Q (-1) M2) ∧ (¬ (M2 204 x1 = 0) →
      R_X10_in V x2 0 2 M2 (fun r3 M4 =>
      (r3 = 0 →
        Q (-2) M4) ∧ (¬ (r3 = 0) →
        wp_X10_twice_43 V x1 x2 0 (-6) (-6) 0 M4 Q)))))
theorem of_X10_twice {V : VV} {x1 x2 : Int} {M : Mem} {Q : Int → Mem → Prop} (h : wp_X10_twice V x1 x2 M Q) : R_X10_twice V x1 x2 M Q := by
  refine met_in (own := "TreeHandsModel") (by decide +kernel) rfl rfl (Nat.le_of_ble_eq_true rfl) ?_
  intro X G Z hn hr hv
  subst hv
  unfold wp_X10_twice at h
  show AW X 0 [(20, 203), (0, x1), (0, x2), (99, 0), (99, 0), (99, 0), (99, 0), (99, 0), (99, 0)] [] M
  refine am_iload_n (i := 1) (pc := 0) G dX10_twice_0 rfl rfl ?_
  refine am_callS (rk := 1) (rmc := rm_X10_isTree) (st := []) (pc := 1) G [(0, _)] dX10_twice_1 tw_m_RX10_114 tw_s_X10_isTree tw_z_RX10 tw_c_X10_isTree hy_X10_isTree (callrm hr rfl) rfl (RunsM.mono h (fun r1 M2 h => ?_)) Z.rm
  show AW X 4 _ [(0, _)] M2
  refine am_if_eq (pc := 4) G 16 dX10_twice_4 (by decide) (fun c => ?_) (fun c => ?_)
  · have h := h.1 c
    refine am_iconst (pc := 16) G dX10_twice_16 (by decide) ?_
    exact am_iret (pc := 17) G Z dX10_twice_17 h
  · have h := h.2 c
    refine am_aload_n (i := 0) (t := 17) (pc := 7) G dX10_twice_7 rfl rfl rfl ?_
    refine gf_X10_0 (pc := 8) G dX10_twice_8 tw_f_RX10_7 ?_
    refine am_iload_n (i := 1) (pc := 11) G dX10_twice_11 rfl rfl ?_
    refine am_iald (pc := 12) G 21 dX10_twice_12 (by decide) h.1 ?_
    have h := h.2
    refine am_if_ne (pc := 13) G 18 dX10_twice_13 (by decide) (fun c => ?_) (fun c => ?_)
    · have h := h.2 c
      refine am_iload_n (i := 2) (pc := 18) G dX10_twice_18 rfl rfl ?_
      refine am_iconst (pc := 19) G dX10_twice_19 (by decide) ?_
      refine am_iconst (pc := 20) G dX10_twice_20 (by decide) ?_
      refine am_callS (rk := 1) (rmc := rm_X10_in) (st := []) (pc := 21) G [(0, _), (0, _), (0, _)] dX10_twice_21 tw_m_RX10_110 tw_s_X10_in tw_z_RX10 tw_c_X10_in hy_X10_in (callrm hr rfl) rfl (RunsM.mono h (fun r3 M4 h => ?_)) Z.rm
      show AW X 24 _ [(0, _)] M4
      refine am_if_ne (pc := 24) G 30 dX10_twice_24 (by decide) (fun c => ?_) (fun c => ?_)
      · have h := h.2 c
        refine am_iconst (pc := 30) G dX10_twice_30 (by decide) ?_
        refine am_istore_n (pc := 31) G dX10_twice_31 rfl (nlx hn rfl) rfl ?_
        refine am_bipush (pc := 32) (ls := [(20, _), (0, _), (0, _), (0, _), (99, _), (99, _), (99, _), (99, _), (99, _)]) G dX10_twice_32 (by decide) (by decide) ?_
        refine am_istore (pc := 34) G dX10_twice_34 (nlx hn rfl) rfl ?_
        refine am_bipush (pc := 36) (ls := [(20, _), (0, _), (0, _), (0, _), (0, _), (99, _), (99, _), (99, _), (99, _)]) G dX10_twice_36 (by decide) (by decide) ?_
        refine am_istore (pc := 38) G dX10_twice_38 (nlx hn rfl) rfl ?_
        refine am_iconst (pc := 40) (ls := [(20, _), (0, _), (0, _), (0, _), (0, _), (0, _), (99, _), (99, _), (99, _)]) G dX10_twice_40 (by decide) ?_
        refine am_istore (pc := 41) G dX10_twice_41 (nlx hn rfl) rfl ?_
        refine am_le (ls' := [(20, _), (0, _), (0, _), (0, _), (0, _), (0, _), (0, _), (99, 0), (99, 0)]) ⟨Or.inr rfl, ⟨Or.inr rfl, ⟨Or.inr rfl, ⟨Or.inr rfl, ⟨Or.inr rfl, ⟨Or.inr rfl, ⟨Or.inr rfl, ⟨Or.inl rfl, ⟨Or.inl rfl, trivial⟩⟩⟩⟩⟩⟩⟩⟩⟩ ?_
        exact swp_X10_twice_43 G Z hn hr _ _ _ _ _ _ _ h
      · have h := h.1 c
        refine am_bipush (pc := 27) G dX10_twice_27 (by decide) (by decide) ?_
        exact am_iret (pc := 29) G Z dX10_twice_29 h
    · have h := h.1 c
      refine am_iconst (pc := 16) G dX10_twice_16 (by decide) ?_
      exact am_iret (pc := 17) G Z dX10_twice_17 h
-- X10_hasLabel TreeHandsModel.hasLabel(II)Z
def rm_X10_hasLabel : Room := { frames := 0, cells := 0, slots := 0, locals := 0 }
theorem hy_X10_hasLabel : yX10_hasLabel.cls ≠ "java/lang/invoke/MethodHandle" ∧ yX10_hasLabel.cls ≠ "java/lang/invoke/VarHandle" ∧ (parseMethodDescriptor yX10_hasLabel.desc).map (fun d => d.parameters.length) = some 2 := by decide +kernel
abbrev R_X10_hasLabel (V : VV) (x1 x2 : Int) (M : Mem) (Q : Int → Mem → Prop) : Prop := RunsM V yX10_hasLabel (.code yX10_hasLabel cX10_hasLabel 5 (Option.some Jvm.ClassFile.FieldType.boolean)) rm_X10_hasLabel 1 [(20, 203), (0, x1), (0, x2)] M Q
def wp_X10_hasLabel_36 (V : VV) (x1 x2 x4 : Int) (M : Mem) (Q : Int → Mem → Prop) (B5 : Int → Int → Prop) : Prop :=
  B5 1 (w32 (x4 + 1))
theorem swp_X10_hasLabel_36 {X : XX} {Q : Int → Mem → Prop} (G : GX X cX10_hasLabel "TreeHandsModel") (Z : RX X 1 Q) (hn : nLX X = 5) (hr : roomX X = rm_X10_hasLabel) (x1 x2 x4 : Int) (M : Mem) (B5 : Int → Int → Prop) (k5 : ∀ (z3 z4 : Int), B5 z3 z4 → AW X 5 [(20, 203), (0, x1), (0, x2), (0, z3), (0, z4)] [] M) (h : wp_X10_hasLabel_36 (vX X) x1 x2 x4 M Q B5) : AW X 36 [(20, 203), (0, x1), (0, x2), (99, 0), (0, x4)] [] M := by
  unfold wp_X10_hasLabel_36 at h
  refine am_iconst (pc := 36) G dX10_hasLabel_36 (by decide) ?_
  refine am_goto (pc := 37) G 41 dX10_hasLabel_37 (by decide) ?_
  refine am_istore_n (pc := 41) G dX10_hasLabel_41 rfl (nlx hn rfl) rfl ?_
  refine am_iinc (pc := 42) (ls := [(20, _), (0, _), (0, _), (0, _), (0, _)]) G dX10_hasLabel_42 rfl (nlx hn rfl) rfl ?_
  refine am_goto (pc := 45) (ls := [(20, _), (0, _), (0, _), (0, _), (0, _)]) G 5 dX10_hasLabel_45 (by decide) ?_
  refine am_le (ls' := [(20, _), (0, _), (0, _), (0, _), (0, _)]) ⟨Or.inr rfl, ⟨Or.inr rfl, ⟨Or.inr rfl, ⟨Or.inr rfl, ⟨Or.inr rfl, trivial⟩⟩⟩⟩⟩ ?_
  exact k5 _ _ h
def wp_X10_hasLabel_5_b (V : VV) (x1 x2 x3 x4 : Int) (M : Mem) (Q : Int → Mem → Prop) (B5 : Int → Int → Prop) : Prop :=
  ((0 : Int) ≤ x1 ∧ x1 < (21 : Int)) ∧
  (M 204 x1 ≤ x4 →
    (x3 = 0 ∨ x3 = 1) ∧ Q x3 M) ∧ (¬ (M 204 x1 ≤ x4) →
    (x3 = 0 →
      ((0 : Int) ≤ w32 (w32 (32 * x1) + x4) ∧ w32 (w32 (32 * x1) + x4) < (672 : Int)) ∧
      (M 205 (w32 (w32 (32 * x1) + x4)) = x2 →
        wp_X10_hasLabel_36 V x1 x2 x4 M Q B5) ∧ (¬ (M 205 (w32 (w32 (32 * x1) + x4)) = x2) →
        B5 0 (w32 (x4 + 1)))) ∧ (¬ (x3 = 0) →
      wp_X10_hasLabel_36 V x1 x2 x4 M Q B5))
theorem swp_X10_hasLabel_5_b {X : XX} {Q : Int → Mem → Prop} (G : GX X cX10_hasLabel "TreeHandsModel") (Z : RX X 1 Q) (hn : nLX X = 5) (hr : roomX X = rm_X10_hasLabel) (x1 x2 x3 x4 : Int) (M : Mem) (B5 : Int → Int → Prop) (k5 : ∀ (z3 z4 : Int), B5 z3 z4 → AW X 5 [(20, 203), (0, x1), (0, x2), (0, z3), (0, z4)] [] M) (h : wp_X10_hasLabel_5_b (vX X) x1 x2 x3 x4 M Q B5) : AW X 5 [(20, 203), (0, x1), (0, x2), (0, x3), (0, x4)] [] M := by
  unfold wp_X10_hasLabel_5_b at h
  refine am_iload (pc := 5) G dX10_hasLabel_5 rfl ?_
  refine am_aload_n (i := 0) (t := 17) (pc := 7) G dX10_hasLabel_7 rfl rfl rfl ?_
  refine gf_X10_0 (pc := 8) G dX10_hasLabel_8 tw_f_RX10_7 ?_
  refine am_iload_n (i := 1) (pc := 11) G dX10_hasLabel_11 rfl rfl ?_
  refine am_iald (pc := 12) G 21 dX10_hasLabel_12 (by decide) h.1 ?_
  have h := h.2
  refine am_icmp_ge (pc := 13) G 48 dX10_hasLabel_13 (by decide) (fun c => ?_) (fun c => ?_)
  · have h := h.1 c
    refine am_iload_n (i := 3) (pc := 48) G dX10_hasLabel_48 rfl rfl ?_
    exact am_zret (pc := 49) G Z dX10_hasLabel_49 h
  · have h := h.2 c
    refine am_iload_n (i := 3) (pc := 16) G dX10_hasLabel_16 rfl rfl ?_
    refine am_if_ne (pc := 17) G 36 dX10_hasLabel_17 (by decide) (fun c => ?_) (fun c => ?_)
    · have h := h.2 c
      refine am_le (ls' := [(20, _), (0, _), (0, _), (99, 0), (0, _)]) ⟨Or.inr rfl, ⟨Or.inr rfl, ⟨Or.inr rfl, ⟨Or.inl rfl, ⟨Or.inr rfl, trivial⟩⟩⟩⟩⟩ ?_
      exact swp_X10_hasLabel_36 G Z hn hr _ _ _ _ B5 k5 h
    · have h := h.1 c
      refine am_aload_n (i := 0) (t := 17) (pc := 20) G dX10_hasLabel_20 rfl rfl rfl ?_
      refine gf_X10_1 (pc := 21) G dX10_hasLabel_21 tw_f_RX10_13 ?_
      refine am_bipush (pc := 24) G dX10_hasLabel_24 (by decide) (by decide) ?_
      refine am_iload_n (i := 1) (pc := 26) G dX10_hasLabel_26 rfl rfl ?_
      refine am_imul (pc := 27) G dX10_hasLabel_27 ?_
      refine am_iload (pc := 28) G dX10_hasLabel_28 rfl ?_
      refine am_iadd (pc := 30) G dX10_hasLabel_30 ?_
      refine am_iald (pc := 31) G 672 dX10_hasLabel_31 (by decide) h.1 ?_
      have h := h.2
      refine am_iload_n (i := 2) (pc := 32) G dX10_hasLabel_32 rfl rfl ?_
      refine am_icmp_ne (pc := 33) G 40 dX10_hasLabel_33 (by decide) (fun c => ?_) (fun c => ?_)
      · have h := h.2 c
        refine am_iconst (pc := 40) G dX10_hasLabel_40 (by decide) ?_
        refine am_istore_n (pc := 41) G dX10_hasLabel_41 rfl (nlx hn rfl) rfl ?_
        refine am_iinc (pc := 42) (ls := [(20, _), (0, _), (0, _), (0, _), (0, _)]) G dX10_hasLabel_42 rfl (nlx hn rfl) rfl ?_
        refine am_goto (pc := 45) (ls := [(20, _), (0, _), (0, _), (0, _), (0, _)]) G 5 dX10_hasLabel_45 (by decide) ?_
        refine am_le (ls' := [(20, _), (0, _), (0, _), (0, _), (0, _)]) ⟨Or.inr rfl, ⟨Or.inr rfl, ⟨Or.inr rfl, ⟨Or.inr rfl, ⟨Or.inr rfl, trivial⟩⟩⟩⟩⟩ ?_
        exact k5 _ _ h
      · have h := h.1 c
        refine am_le (ls' := [(20, _), (0, _), (0, _), (99, 0), (0, _)]) ⟨Or.inr rfl, ⟨Or.inr rfl, ⟨Or.inr rfl, ⟨Or.inl rfl, ⟨Or.inr rfl, trivial⟩⟩⟩⟩⟩ ?_
        exact swp_X10_hasLabel_36 G Z hn hr _ _ _ _ B5 k5 h
def wp_X10_hasLabel_5 (V : VV) (x1 x2 x3 x4 : Int) (M : Mem) (Q : Int → Mem → Prop) : Prop :=
  ∃ (I : Int → Int → Prop) (μ : Int → Int → Nat), I x3 x4 ∧ ∀ (y3 y4 : Int), I y3 y4 → wp_X10_hasLabel_5_b V x1 x2 y3 y4 M Q (fun z3 z4 => I z3 z4 ∧ μ z3 z4 < μ y3 y4)
theorem swp_X10_hasLabel_5 {X : XX} {Q : Int → Mem → Prop} (G : GX X cX10_hasLabel "TreeHandsModel") (Z : RX X 1 Q) (hn : nLX X = 5) (hr : roomX X = rm_X10_hasLabel) (x1 x2 x3 x4 : Int) (M : Mem) (h : wp_X10_hasLabel_5 (vX X) x1 x2 x3 x4 M Q) : AW X 5 [(20, 203), (0, x1), (0, x2), (0, x3), (0, x4)] [] M := by
  unfold wp_X10_hasLabel_5 at h
  obtain ⟨I, μ, hI, hs⟩ := h
  have key : ∀ (n : Nat) (y3 y4 : Int), μ y3 y4 < n → I y3 y4 → AW X 5 [(20, 203), (0, x1), (0, x2), (0, y3), (0, y4)] [] M := by
    intro n
    induction n with
    | zero => intro y3 y4 hlt; exact absurd hlt (Nat.not_lt_zero _)
    | succ n ih =>
      intro y3 y4 hlt hI
      exact swp_X10_hasLabel_5_b G Z hn hr x1 x2 y3 y4 M (fun z3 z4 => I z3 z4 ∧ μ z3 z4 < μ y3 y4) (fun z3 z4 hz => ih z3 z4 (by omega) hz.1) (hs y3 y4 hI)
  exact key _ x3 x4 (Nat.lt_succ_self _) hI
def wp_X10_hasLabel (V : VV) (x1 x2 : Int) (M : Mem) (Q : Int → Mem → Prop) : Prop :=
  wp_X10_hasLabel_5 V x1 x2 0 0 M Q
theorem of_X10_hasLabel {V : VV} {x1 x2 : Int} {M : Mem} {Q : Int → Mem → Prop} (h : wp_X10_hasLabel V x1 x2 M Q) : R_X10_hasLabel V x1 x2 M Q := by
  refine met_in (own := "TreeHandsModel") (by decide +kernel) rfl rfl (Nat.le_of_ble_eq_true rfl) ?_
  intro X G Z hn hr hv
  subst hv
  unfold wp_X10_hasLabel at h
  show AW X 0 [(20, 203), (0, x1), (0, x2), (99, 0), (99, 0)] [] M
  refine am_iconst (pc := 0) G dX10_hasLabel_0 (by decide) ?_
  refine am_istore_n (pc := 1) G dX10_hasLabel_1 rfl (nlx hn rfl) rfl ?_
  refine am_iconst (pc := 2) (ls := [(20, _), (0, _), (0, _), (0, _), (99, _)]) G dX10_hasLabel_2 (by decide) ?_
  refine am_istore (pc := 3) G dX10_hasLabel_3 (nlx hn rfl) rfl ?_
  refine am_le (ls' := [(20, _), (0, _), (0, _), (0, _), (0, _)]) ⟨Or.inr rfl, ⟨Or.inr rfl, ⟨Or.inr rfl, ⟨Or.inr rfl, ⟨Or.inr rfl, trivial⟩⟩⟩⟩⟩ ?_
  exact swp_X10_hasLabel_5 G Z hn hr _ _ _ _ _ h
-- X10_rule TreeHandsModel.rule(II)I
def rm_X10_rule : Room := { frames := 3, cells := 0, slots := 0, locals := 64 }
theorem hy_X10_rule : yX10_rule.cls ≠ "java/lang/invoke/MethodHandle" ∧ yX10_rule.cls ≠ "java/lang/invoke/VarHandle" ∧ (parseMethodDescriptor yX10_rule.desc).map (fun d => d.parameters.length) = some 2 := by decide +kernel
abbrev R_X10_rule (V : VV) (x1 x2 : Int) (M : Mem) (Q : Int → Mem → Prop) : Prop := RunsM V yX10_rule (.code yX10_rule cX10_rule 6 (Option.some Jvm.ClassFile.FieldType.int)) rm_X10_rule 0 [(20, 203), (0, x1), (0, x2)] M Q
def wp_X10_rule_98 (V : VV) (x1 x2 x4 : Int) (M : Mem) (Q : Int → Mem → Prop) (B47 : Int → Int → Mem → Prop) : Prop :=
  B47 0 (w32 (x4 + 1)) M
theorem swp_X10_rule_98 {X : XX} {Q : Int → Mem → Prop} (G : GX X cX10_rule "TreeHandsModel") (Z : RX X 0 Q) (hn : nLX X = 6) (hr : roomX X = rm_X10_rule) (x1 x2 x4 : Int) (M : Mem) (B47 : Int → Int → Mem → Prop) (k47 : ∀ (z3 z4 : Int) (N : Mem), B47 z3 z4 N → AW X 47 [(20, 203), (0, x1), (0, x2), (0, z3), (0, z4), (99, 0)] [] N) (h : wp_X10_rule_98 (vX X) x1 x2 x4 M Q B47) : AW X 98 [(20, 203), (0, x1), (0, x2), (99, 0), (0, x4), (99, 0)] [] M := by
  unfold wp_X10_rule_98 at h
  refine am_iconst (pc := 98) G dX10_rule_98 (by decide) ?_
  refine am_istore_n (pc := 99) G dX10_rule_99 rfl (nlx hn rfl) rfl ?_
  refine am_iinc (pc := 100) (ls := [(20, _), (0, _), (0, _), (0, _), (0, _), (99, _)]) G dX10_rule_100 rfl (nlx hn rfl) rfl ?_
  refine am_goto (pc := 103) (ls := [(20, _), (0, _), (0, _), (0, _), (0, _), (99, _)]) G 47 dX10_rule_103 (by decide) ?_
  refine am_le (ls' := [(20, _), (0, _), (0, _), (0, _), (0, _), (99, 0)]) ⟨Or.inr rfl, ⟨Or.inr rfl, ⟨Or.inr rfl, ⟨Or.inr rfl, ⟨Or.inr rfl, ⟨Or.inl rfl, trivial⟩⟩⟩⟩⟩⟩ ?_
  exact k47 _ _ _ h
def wp_X10_rule_94 (V : VV) (x1 x2 x4 : Int) (M : Mem) (Q : Int → Mem → Prop) (B47 : Int → Int → Mem → Prop) : Prop :=
  B47 1 (w32 (x4 + 1)) M
theorem swp_X10_rule_94 {X : XX} {Q : Int → Mem → Prop} (G : GX X cX10_rule "TreeHandsModel") (Z : RX X 0 Q) (hn : nLX X = 6) (hr : roomX X = rm_X10_rule) (x1 x2 x4 : Int) (M : Mem) (B47 : Int → Int → Mem → Prop) (k47 : ∀ (z3 z4 : Int) (N : Mem), B47 z3 z4 N → AW X 47 [(20, 203), (0, x1), (0, x2), (0, z3), (0, z4), (99, 0)] [] N) (h : wp_X10_rule_94 (vX X) x1 x2 x4 M Q B47) : AW X 94 [(20, 203), (0, x1), (0, x2), (99, 0), (0, x4), (99, 0)] [] M := by
  unfold wp_X10_rule_94 at h
  refine am_iconst (pc := 94) G dX10_rule_94 (by decide) ?_
  refine am_goto (pc := 95) G 99 dX10_rule_95 (by decide) ?_
  refine am_istore_n (pc := 99) G dX10_rule_99 rfl (nlx hn rfl) rfl ?_
  refine am_iinc (pc := 100) (ls := [(20, _), (0, _), (0, _), (0, _), (0, _), (99, _)]) G dX10_rule_100 rfl (nlx hn rfl) rfl ?_
  refine am_goto (pc := 103) (ls := [(20, _), (0, _), (0, _), (0, _), (0, _), (99, _)]) G 47 dX10_rule_103 (by decide) ?_
  refine am_le (ls' := [(20, _), (0, _), (0, _), (0, _), (0, _), (99, 0)]) ⟨Or.inr rfl, ⟨Or.inr rfl, ⟨Or.inr rfl, ⟨Or.inr rfl, ⟨Or.inr rfl, ⟨Or.inl rfl, trivial⟩⟩⟩⟩⟩⟩ ?_
  exact k47 _ _ _ h
def wp_X10_rule_47_b (V : VV) (x1 x2 x3 x4 : Int) (M : Mem) (Q : Int → Mem → Prop) (B47 : Int → Int → Mem → Prop) : Prop :=
  ((0 : Int) ≤ x2 ∧ x2 < (21 : Int)) ∧
  (M 204 x2 ≤ x4 →
    (x3 = 0 →
      Q (-5) M) ∧ (¬ (x3 = 0) →
      ((0 : Int) ≤ x1 ∧ x1 < (21 : Int)) ∧
      R_X10_copy V x1 0 (M 204 x1) (w32 (6 + M 203 5)) M (fun _ M6 =>
      ((0 : Int) ≤ x2 ∧ x2 < (21 : Int)) ∧
      R_X10_copy V x2 0 (M6 204 x2) (w32 (12 + M6 203 5)) M6 (fun _ M8 =>
      ∀ M9 : Mem, M9 = mset M8 203 5 (w32 (M8 203 5 + 1)) →
      Q (w32 (M9 203 5 - 1)) M9)))) ∧ (¬ (M 204 x2 ≤ x4) →
    ((0 : Int) ≤ w32 (w32 (32 * x2) + x4) ∧ w32 (w32 (32 * x2) + x4) < (672 : Int)) ∧
    ∀ v10 : Int, v10 = M 205 (w32 (w32 (32 * x2) + x4)) →
    (x3 = 0 →
      wp_X10_rule_98 V x1 x2 x4 M Q B47) ∧ (¬ (x3 = 0) →
      R_X10_isHole V v10 M (fun r11 M12 =>
      (r11 = 0 →
        wp_X10_rule_94 V x1 x2 x4 M12 Q B47) ∧ (¬ (r11 = 0) →
        R_X10_hasLabel V x1 v10 M12 (fun r13 M14 =>
        (r13 = 0 →
          wp_X10_rule_98 V x1 x2 x4 M14 Q B47) ∧ (¬ (r13 = 0) →
          wp_X10_rule_94 V x1 x2 x4 M14 Q B47))))))
theorem swp_X10_rule_47_b {X : XX} {Q : Int → Mem → Prop} (G : GX X cX10_rule "TreeHandsModel") (Z : RX X 0 Q) (hn : nLX X = 6) (hr : roomX X = rm_X10_rule) (x1 x2 x3 x4 : Int) (M : Mem) (B47 : Int → Int → Mem → Prop) (k47 : ∀ (z3 z4 : Int) (N : Mem), B47 z3 z4 N → AW X 47 [(20, 203), (0, x1), (0, x2), (0, z3), (0, z4), (99, 0)] [] N) (h : wp_X10_rule_47_b (vX X) x1 x2 x3 x4 M Q B47) : AW X 47 [(20, 203), (0, x1), (0, x2), (0, x3), (0, x4), (99, 0)] [] M := by
  unfold wp_X10_rule_47_b at h
  refine am_iload (pc := 47) G dX10_rule_47 rfl ?_
  refine am_aload_n (i := 0) (t := 17) (pc := 49) G dX10_rule_49 rfl rfl rfl ?_
  refine gf_X10_0 (pc := 50) G dX10_rule_50 tw_f_RX10_7 ?_
  refine am_iload_n (i := 2) (pc := 53) G dX10_rule_53 rfl rfl ?_
  refine am_iald (pc := 54) G 21 dX10_rule_54 (by decide) h.1 ?_
  have h := h.2
  refine am_icmp_ge (pc := 55) G 106 dX10_rule_55 (by decide) (fun c => ?_) (fun c => ?_)
  · have h := h.1 c
    refine am_iload_n (i := 3) (pc := 106) G dX10_rule_106 rfl rfl ?_
    refine am_if_ne (pc := 107) G 113 dX10_rule_107 (by decide) (fun c => ?_) (fun c => ?_)
    · have h := h.2 c
      refine am_aload_n (i := 0) (t := 17) (pc := 113) G dX10_rule_113 rfl rfl rfl ?_
      refine am_iload_n (i := 1) (pc := 114) G dX10_rule_114 rfl rfl ?_
      refine am_iconst (pc := 115) G dX10_rule_115 (by decide) ?_
      refine am_aload_n (i := 0) (t := 17) (pc := 116) G dX10_rule_116 rfl rfl rfl ?_
      refine gf_X10_0 (pc := 117) G dX10_rule_117 tw_f_RX10_7 ?_
      refine am_iload_n (i := 1) (pc := 120) G dX10_rule_120 rfl rfl ?_
      refine am_iald (pc := 121) G 21 dX10_rule_121 (by decide) h.1 ?_
      have h := h.2
      refine am_bipush (pc := 122) G dX10_rule_122 (by decide) (by decide) ?_
      refine am_aload_n (i := 0) (t := 17) (pc := 124) G dX10_rule_124 rfl rfl rfl ?_
      refine gf_X10_5 (pc := 125) G dX10_rule_125 tw_f_RX10_208 ?_
      refine am_iadd (pc := 128) G dX10_rule_128 ?_
      refine am_callV (rk := 4) (rmc := rm_X10_copy) (st := []) (pc := 129) G 10 [(0, _), (0, _), (0, _), (0, _)] rfl (by decide) rfl dX10_rule_129 tw_m_RX10_149 tw_i_X10_copy tw_v_X10_copy tw_z_RX10 tw_c_X10_copy hy_X10_copy (callrm hr rfl) rfl (RunsM.mono h (fun r5 M6 h => ?_)) Z.rm
      show AW X 132 _ [] M6
      refine am_aload_n (i := 0) (t := 17) (pc := 132) G dX10_rule_132 rfl rfl rfl ?_
      refine am_iload_n (i := 2) (pc := 133) G dX10_rule_133 rfl rfl ?_
      refine am_iconst (pc := 134) G dX10_rule_134 (by decide) ?_
      refine am_aload_n (i := 0) (t := 17) (pc := 135) G dX10_rule_135 rfl rfl rfl ?_
      refine gf_X10_0 (pc := 136) G dX10_rule_136 tw_f_RX10_7 ?_
      refine am_iload_n (i := 2) (pc := 139) G dX10_rule_139 rfl rfl ?_
      refine am_iald (pc := 140) G 21 dX10_rule_140 (by decide) h.1 ?_
      have h := h.2
      refine am_bipush (pc := 141) G dX10_rule_141 (by decide) (by decide) ?_
      refine am_aload_n (i := 0) (t := 17) (pc := 143) G dX10_rule_143 rfl rfl rfl ?_
      refine gf_X10_5 (pc := 144) G dX10_rule_144 tw_f_RX10_208 ?_
      refine am_iadd (pc := 147) G dX10_rule_147 ?_
      refine am_callV (rk := 4) (rmc := rm_X10_copy) (st := []) (pc := 148) G 10 [(0, _), (0, _), (0, _), (0, _)] rfl (by decide) rfl dX10_rule_148 tw_m_RX10_149 tw_i_X10_copy tw_v_X10_copy tw_z_RX10 tw_c_X10_copy hy_X10_copy (callrm hr rfl) rfl (RunsM.mono h (fun r7 M8 h => ?_)) Z.rm
      show AW X 151 _ [] M8
      refine am_aload_n (i := 0) (t := 17) (pc := 151) G dX10_rule_151 rfl rfl rfl ?_
      refine am_dup (pc := 152) G dX10_rule_152 (Nat.ne_of_beq_eq_false rfl) ?_
      refine gf_X10_5 (pc := 153) G dX10_rule_153 tw_f_RX10_208 ?_
      refine am_iconst (pc := 156) G dX10_rule_156 (by decide) ?_
      refine am_iadd (pc := 157) G dX10_rule_157 ?_
      refine pf_X10_5 (pc := 158) G dX10_rule_158 tw_f_RX10_208 ?_
      refine am_aload_n (i := 0) (t := 17) (pc := 161) G dX10_rule_161 rfl rfl rfl ?_
      have h := h _ rfl
      refine gf_X10_5 (pc := 162) G dX10_rule_162 tw_f_RX10_208 ?_
      refine am_iconst (pc := 165) G dX10_rule_165 (by decide) ?_
      refine am_isub (pc := 166) G dX10_rule_166 ?_
      exact am_iret (pc := 167) G Z dX10_rule_167 h
    · have h := h.1 c
      refine am_bipush (pc := 110) G dX10_rule_110 (by decide) (by decide) ?_
      exact am_iret (pc := 112) G Z dX10_rule_112 h
  · have h := h.2 c
    refine am_aload_n (i := 0) (t := 17) (pc := 58) G dX10_rule_58 rfl rfl rfl ?_
    refine gf_X10_1 (pc := 59) G dX10_rule_59 tw_f_RX10_13 ?_
    refine am_bipush (pc := 62) G dX10_rule_62 (by decide) (by decide) ?_
    refine am_iload_n (i := 2) (pc := 64) G dX10_rule_64 rfl rfl ?_
    refine am_imul (pc := 65) G dX10_rule_65 ?_
    refine am_iload (pc := 66) G dX10_rule_66 rfl ?_
    refine am_iadd (pc := 68) G dX10_rule_68 ?_
    refine am_iald (pc := 69) G 672 dX10_rule_69 (by decide) h.1 ?_
    have h := h.2
    have h := h _ rfl
    refine am_istore (pc := 70) G dX10_rule_70 (nlx hn rfl) rfl ?_
    refine am_iload_n (i := 3) (pc := 72) (ls := [(20, _), (0, _), (0, _), (0, _), (0, _), (0, _)]) G dX10_rule_72 rfl rfl ?_
    refine am_if_eq (pc := 73) G 98 dX10_rule_73 (by decide) (fun c => ?_) (fun c => ?_)
    · have h := h.1 c
      refine am_le (ls' := [(20, _), (0, _), (0, _), (99, 0), (0, _), (99, 0)]) ⟨Or.inr rfl, ⟨Or.inr rfl, ⟨Or.inr rfl, ⟨Or.inl rfl, ⟨Or.inr rfl, ⟨Or.inl rfl, trivial⟩⟩⟩⟩⟩⟩ ?_
      exact swp_X10_rule_98 G Z hn hr _ _ _ _ B47 k47 h
    · have h := h.2 c
      refine am_iload (pc := 76) G dX10_rule_76 rfl ?_
      refine am_callS (rk := 1) (rmc := rm_X10_isHole) (st := []) (pc := 78) G [(0, _)] dX10_rule_78 tw_m_RX10_121 tw_s_X10_isHole tw_z_RX10 tw_c_X10_isHole hy_X10_isHole (callrm hr rfl) rfl (RunsM.mono h (fun r11 M12 h => ?_)) Z.rm
      show AW X 81 _ [(0, _)] M12
      refine am_if_eq (pc := 81) G 94 dX10_rule_81 (by decide) (fun c => ?_) (fun c => ?_)
      · have h := h.1 c
        refine am_le (ls' := [(20, _), (0, _), (0, _), (99, 0), (0, _), (99, 0)]) ⟨Or.inr rfl, ⟨Or.inr rfl, ⟨Or.inr rfl, ⟨Or.inl rfl, ⟨Or.inr rfl, ⟨Or.inl rfl, trivial⟩⟩⟩⟩⟩⟩ ?_
        exact swp_X10_rule_94 G Z hn hr _ _ _ _ B47 k47 h
      · have h := h.2 c
        refine am_aload_n (i := 0) (t := 17) (pc := 84) G dX10_rule_84 rfl rfl rfl ?_
        refine am_iload_n (i := 1) (pc := 85) G dX10_rule_85 rfl rfl ?_
        refine am_iload (pc := 86) G dX10_rule_86 rfl ?_
        refine am_callV (rk := 1) (rmc := rm_X10_hasLabel) (st := []) (pc := 88) G 10 [(0, _), (0, _)] rfl (by decide) rfl dX10_rule_88 tw_m_RX10_211 tw_i_X10_hasLabel tw_v_X10_hasLabel tw_z_RX10 tw_c_X10_hasLabel hy_X10_hasLabel (callrm hr rfl) rfl (RunsM.mono h (fun r13 M14 h => ?_)) Z.rm
        show AW X 91 _ [(0, _)] M14
        refine am_if_eq (pc := 91) G 98 dX10_rule_91 (by decide) (fun c => ?_) (fun c => ?_)
        · have h := h.1 c
          refine am_le (ls' := [(20, _), (0, _), (0, _), (99, 0), (0, _), (99, 0)]) ⟨Or.inr rfl, ⟨Or.inr rfl, ⟨Or.inr rfl, ⟨Or.inl rfl, ⟨Or.inr rfl, ⟨Or.inl rfl, trivial⟩⟩⟩⟩⟩⟩ ?_
          exact swp_X10_rule_98 G Z hn hr _ _ _ _ B47 k47 h
        · have h := h.2 c
          refine am_le (ls' := [(20, _), (0, _), (0, _), (99, 0), (0, _), (99, 0)]) ⟨Or.inr rfl, ⟨Or.inr rfl, ⟨Or.inr rfl, ⟨Or.inl rfl, ⟨Or.inr rfl, ⟨Or.inl rfl, trivial⟩⟩⟩⟩⟩⟩ ?_
          exact swp_X10_rule_94 G Z hn hr _ _ _ _ B47 k47 h
def wp_X10_rule_47 (V : VV) (x1 x2 x3 x4 : Int) (M : Mem) (Q : Int → Mem → Prop) : Prop :=
  ∃ (I : Int → Int → Mem → Prop) (μ : Int → Int → Mem → Nat), I x3 x4 M ∧ ∀ (y3 y4 : Int) (N : Mem), I y3 y4 N → wp_X10_rule_47_b V x1 x2 y3 y4 N Q (fun z3 z4 N1 => I z3 z4 N1 ∧ μ z3 z4 N1 < μ y3 y4 N)
theorem swp_X10_rule_47 {X : XX} {Q : Int → Mem → Prop} (G : GX X cX10_rule "TreeHandsModel") (Z : RX X 0 Q) (hn : nLX X = 6) (hr : roomX X = rm_X10_rule) (x1 x2 x3 x4 : Int) (M : Mem) (h : wp_X10_rule_47 (vX X) x1 x2 x3 x4 M Q) : AW X 47 [(20, 203), (0, x1), (0, x2), (0, x3), (0, x4), (99, 0)] [] M := by
  unfold wp_X10_rule_47 at h
  obtain ⟨I, μ, hI, hs⟩ := h
  have key : ∀ (n : Nat) (y3 y4 : Int) (N : Mem), μ y3 y4 N < n → I y3 y4 N → AW X 47 [(20, 203), (0, x1), (0, x2), (0, y3), (0, y4), (99, 0)] [] N := by
    intro n
    induction n with
    | zero => intro y3 y4 N hlt; exact absurd hlt (Nat.not_lt_zero _)
    | succ n ih =>
      intro y3 y4 N hlt hI
      exact swp_X10_rule_47_b G Z hn hr x1 x2 y3 y4 N (fun z3 z4 N1 => I z3 z4 N1 ∧ μ z3 z4 N1 < μ y3 y4 N) (fun z3 z4 N1 hz => ih z3 z4 N1 (by omega) hz.1) (hs y3 y4 N hI)
  exact key _ x3 x4 M (Nat.lt_succ_self _) hI
def wp_X10_rule_43 (V : VV) (x1 x2 s0 : Int) (M : Mem) (Q : Int → Mem → Prop) : Prop :=
  wp_X10_rule_47 V x1 x2 s0 0 M Q
theorem swp_X10_rule_43 {X : XX} {Q : Int → Mem → Prop} (G : GX X cX10_rule "TreeHandsModel") (Z : RX X 0 Q) (hn : nLX X = 6) (hr : roomX X = rm_X10_rule) (x1 x2 s0 : Int) (M : Mem) (h : wp_X10_rule_43 (vX X) x1 x2 s0 M Q) : AW X 43 [(20, 203), (0, x1), (0, x2), (99, 0), (99, 0), (99, 0)] [(0, s0)] M := by
  unfold wp_X10_rule_43 at h
  refine am_istore_n (pc := 43) G dX10_rule_43 rfl (nlx hn rfl) rfl ?_
  refine am_iconst (pc := 44) (ls := [(20, _), (0, _), (0, _), (0, _), (99, _), (99, _)]) G dX10_rule_44 (by decide) ?_
  refine am_istore (pc := 45) G dX10_rule_45 (nlx hn rfl) rfl ?_
  refine am_le (ls' := [(20, _), (0, _), (0, _), (0, _), (0, _), (99, 0)]) ⟨Or.inr rfl, ⟨Or.inr rfl, ⟨Or.inr rfl, ⟨Or.inr rfl, ⟨Or.inr rfl, ⟨Or.inl rfl, trivial⟩⟩⟩⟩⟩⟩ ?_
  exact swp_X10_rule_47 G Z hn hr _ _ _ _ _ h
def wp_X10_rule (V : VV) (x1 x2 : Int) (M : Mem) (Q : Int → Mem → Prop) : Prop :=
  R_X10_areBoth V x1 x2 M (fun r1 M2 =>
  (r1 = 0 →
    Q (-1) M2) ∧ (¬ (r1 = 0) →
    (M2 203 5 = 6 →
      Q (-4) M2) ∧ (¬ (M2 203 5 = 6) →
      ((0 : Int) ≤ w32 (32 * x1) ∧ w32 (32 * x1) < (672 : Int)) ∧
      R_X10_isHole V (M2 205 (w32 (32 * x1))) M2 (fun r3 M4 =>
      (r3 = 0 →
        wp_X10_rule_43 V x1 x2 1 M4 Q) ∧ (¬ (r3 = 0) →
        wp_X10_rule_43 V x1 x2 0 M4 Q)))))
theorem of_X10_rule {V : VV} {x1 x2 : Int} {M : Mem} {Q : Int → Mem → Prop} (h : wp_X10_rule V x1 x2 M Q) : R_X10_rule V x1 x2 M Q := by
  refine met_in (own := "TreeHandsModel") (by decide +kernel) rfl rfl (Nat.le_of_ble_eq_true rfl) ?_
  intro X G Z hn hr hv
  subst hv
  unfold wp_X10_rule at h
  show AW X 0 [(20, 203), (0, x1), (0, x2), (99, 0), (99, 0), (99, 0)] [] M
  refine am_aload_n (i := 0) (t := 17) (pc := 0) G dX10_rule_0 rfl rfl rfl ?_
  refine am_iload_n (i := 1) (pc := 1) G dX10_rule_1 rfl rfl ?_
  refine am_iload_n (i := 2) (pc := 2) G dX10_rule_2 rfl rfl ?_
  refine am_callV (rk := 1) (rmc := rm_X10_areBoth) (st := []) (pc := 3) G 10 [(0, _), (0, _)] rfl (by decide) rfl dX10_rule_3 tw_m_RX10_179 tw_i_X10_areBoth tw_v_X10_areBoth tw_z_RX10 tw_c_X10_areBoth hy_X10_areBoth (callrm hr rfl) rfl (RunsM.mono h (fun r1 M2 h => ?_)) Z.rm
  show AW X 6 _ [(0, _)] M2
  refine am_if_ne (pc := 6) G 11 dX10_rule_6 (by decide) (fun c => ?_) (fun c => ?_)
  · have h := h.2 c
    refine am_aload_n (i := 0) (t := 17) (pc := 11) G dX10_rule_11 rfl rfl rfl ?_
    refine gf_X10_5 (pc := 12) G dX10_rule_12 tw_f_RX10_208 ?_
    refine am_bipush (pc := 15) G dX10_rule_15 (by decide) (by decide) ?_
    refine am_icmp_ne (pc := 17) G 23 dX10_rule_17 (by decide) (fun c => ?_) (fun c => ?_)
    · have h := h.2 c
      refine am_aload_n (i := 0) (t := 17) (pc := 23) G dX10_rule_23 rfl rfl rfl ?_
      refine gf_X10_1 (pc := 24) G dX10_rule_24 tw_f_RX10_13 ?_
      refine am_bipush (pc := 27) G dX10_rule_27 (by decide) (by decide) ?_
      refine am_iload_n (i := 1) (pc := 29) G dX10_rule_29 rfl rfl ?_
      refine am_imul (pc := 30) G dX10_rule_30 ?_
      refine am_iald (pc := 31) G 672 dX10_rule_31 (by decide) h.1 ?_
      have h := h.2
      refine am_callS (rk := 1) (rmc := rm_X10_isHole) (st := []) (pc := 32) G [(0, _)] dX10_rule_32 tw_m_RX10_121 tw_s_X10_isHole tw_z_RX10 tw_c_X10_isHole hy_X10_isHole (callrm hr rfl) rfl (RunsM.mono h (fun r3 M4 h => ?_)) Z.rm
      show AW X 35 _ [(0, _)] M4
      refine am_if_ne (pc := 35) G 42 dX10_rule_35 (by decide) (fun c => ?_) (fun c => ?_)
      · have h := h.2 c
        refine am_iconst (pc := 42) G dX10_rule_42 (by decide) ?_
        refine am_le (ls' := [(20, _), (0, _), (0, _), (99, 0), (99, 0), (99, 0)]) ⟨Or.inr rfl, ⟨Or.inr rfl, ⟨Or.inr rfl, ⟨Or.inl rfl, ⟨Or.inl rfl, ⟨Or.inl rfl, trivial⟩⟩⟩⟩⟩⟩ ?_
        exact swp_X10_rule_43 G Z hn hr _ _ _ _ h
      · have h := h.1 c
        refine am_iconst (pc := 38) G dX10_rule_38 (by decide) ?_
        refine am_goto (pc := 39) G 43 dX10_rule_39 (by decide) ?_
        refine am_le (ls' := [(20, _), (0, _), (0, _), (99, 0), (99, 0), (99, 0)]) ⟨Or.inr rfl, ⟨Or.inr rfl, ⟨Or.inr rfl, ⟨Or.inl rfl, ⟨Or.inl rfl, ⟨Or.inl rfl, trivial⟩⟩⟩⟩⟩⟩ ?_
        exact swp_X10_rule_43 G Z hn hr _ _ _ _ h
    · have h := h.1 c
      refine am_bipush (pc := 20) G dX10_rule_20 (by decide) (by decide) ?_
      exact am_iret (pc := 22) G Z dX10_rule_22 h
  · have h := h.1 c
    refine am_iconst (pc := 9) G dX10_rule_9 (by decide) ?_
    exact am_iret (pc := 10) G Z dX10_rule_10 h
-- X10_clear TreeHandsModel.clear()I
def rm_X10_clear : Room := { frames := 0, cells := 0, slots := 0, locals := 0 }
theorem hy_X10_clear : yX10_clear.cls ≠ "java/lang/invoke/MethodHandle" ∧ yX10_clear.cls ≠ "java/lang/invoke/VarHandle" ∧ (parseMethodDescriptor yX10_clear.desc).map (fun d => d.parameters.length) = some 0 := by decide +kernel
abbrev R_X10_clear (V : VV) (M : Mem) (Q : Int → Mem → Prop) : Prop := RunsM V yX10_clear (.code yX10_clear cX10_clear 2 (Option.some Jvm.ClassFile.FieldType.int)) rm_X10_clear 0 [(20, 203)] M Q
def wp_X10_clear (V : VV) (M : Mem) (Q : Int → Mem → Prop) : Prop :=
  ∀ v1 : Int, v1 = M 203 5 →
  Q v1 (mset M 203 5 0)
theorem of_X10_clear {V : VV} {M : Mem} {Q : Int → Mem → Prop} (h : wp_X10_clear V M Q) : R_X10_clear V M Q := by
  refine met_in (own := "TreeHandsModel") (by decide +kernel) rfl rfl (Nat.le_of_ble_eq_true rfl) ?_
  intro X G Z hn hr hv
  subst hv
  unfold wp_X10_clear at h
  show AW X 0 [(20, 203), (99, 0)] [] M
  refine am_aload_n (i := 0) (t := 17) (pc := 0) G dX10_clear_0 rfl rfl rfl ?_
  refine gf_X10_5 (pc := 1) G dX10_clear_1 tw_f_RX10_208 ?_
  have h := h _ rfl
  refine am_istore_n (pc := 4) G dX10_clear_4 rfl (nlx hn rfl) rfl ?_
  refine am_aload_n (i := 0) (t := 17) (pc := 5) (ls := [(20, _), (0, _)]) G dX10_clear_5 rfl rfl rfl ?_
  refine am_iconst (pc := 6) G dX10_clear_6 (by decide) ?_
  refine pf_X10_5 (pc := 7) G dX10_clear_7 tw_f_RX10_208 ?_
  refine am_iload_n (i := 1) (pc := 10) G dX10_clear_10 rfl rfl ?_
  exact am_iret (pc := 11) G Z dX10_clear_11 h
-- X10_fitsAt TreeHandsModel.fitsAt(III)Z
def rm_X10_fitsAt : Room := { frames := 2, cells := 0, slots := 0, locals := 51 }
theorem hy_X10_fitsAt : yX10_fitsAt.cls ≠ "java/lang/invoke/MethodHandle" ∧ yX10_fitsAt.cls ≠ "java/lang/invoke/VarHandle" ∧ (parseMethodDescriptor yX10_fitsAt.desc).map (fun d => d.parameters.length) = some 3 := by decide +kernel
abbrev R_X10_fitsAt (V : VV) (x1 x2 x3 : Int) (M : Mem) (Q : Int → Mem → Prop) : Prop := RunsM V yX10_fitsAt (.code yX10_fitsAt cX10_fitsAt 9 (Option.some Jvm.ClassFile.FieldType.boolean)) rm_X10_fitsAt 1 [(20, 203), (0, x1), (0, x2), (0, x3)] M Q
def wp_X10_fitsAt_137 (V : VV) (x1 x4 x5 x6 s0 s1 : Int) (M : Mem) (Q : Int → Mem → Prop) (B37 : Int → Int → Mem → Prop) : Prop :=
  ((0 : Int) ≤ s1 ∧ s1 < (8 : Int)) ∧
  ∀ M4 : Mem, M4 = mset M 228 s1 s0 →
  R_X10_sizeOf V x1 x5 M4 (fun r5 M6 =>
  B37 (w32 (x5 + r5)) (w32 (x6 + 1)) M6)
theorem swp_X10_fitsAt_137 {X : XX} {Q : Int → Mem → Prop} (G : GX X cX10_fitsAt "TreeHandsModel") (Z : RX X 1 Q) (hn : nLX X = 9) (hr : roomX X = rm_X10_fitsAt) (x1 x4 x5 x6 s0 s1 : Int) (M : Mem) (B37 : Int → Int → Mem → Prop) (k37 : ∀ (z5 z6 : Int) (N : Mem), B37 z5 z6 N → AW X 37 [(20, 203), (0, x1), (99, 0), (99, 0), (0, x4), (0, z5), (0, z6), (99, 0), (99, 0)] [] N) (h : wp_X10_fitsAt_137 (vX X) x1 x4 x5 x6 s0 s1 M Q B37) : AW X 137 [(20, 203), (0, x1), (99, 0), (99, 0), (0, x4), (0, x5), (0, x6), (99, 0), (99, 0)] [(0, s0), (0, s1), (108, 228)] M := by
  unfold wp_X10_fitsAt_137 at h
  refine am_iast (pc := 137) G 8 dX10_fitsAt_137 (by decide) h.1 ?_
  have h := h.2
  refine am_iload (pc := 138) G dX10_fitsAt_138 rfl ?_
  refine am_aload_n (i := 0) (t := 17) (pc := 140) G dX10_fitsAt_140 rfl rfl rfl ?_
  refine am_iload_n (i := 1) (pc := 141) G dX10_fitsAt_141 rfl rfl ?_
  refine am_iload (pc := 142) G dX10_fitsAt_142 rfl ?_
  have h := h _ rfl
  refine am_callV (rk := 0) (rmc := rm_X10_sizeOf) (st := [(0, _)]) (pc := 144) G 10 [(0, _), (0, _)] rfl (by decide) rfl dX10_fitsAt_144 tw_m_RX10_128 tw_i_X10_sizeOf tw_v_X10_sizeOf tw_z_RX10 tw_c_X10_sizeOf hy_X10_sizeOf (callrm hr rfl) rfl (RunsM.mono h (fun r5 M6 h => ?_)) Z.rm
  show AW X 147 _ [(0, _), (0, _)] M6
  refine am_iadd (pc := 147) G dX10_fitsAt_147 ?_
  refine am_istore (pc := 148) G dX10_fitsAt_148 (nlx hn rfl) rfl ?_
  refine am_goto (pc := 150) (ls := [(20, _), (0, _), (99, _), (99, _), (0, _), (0, _), (0, _), (99, _), (99, _)]) G 203 dX10_fitsAt_150 (by decide) ?_
  refine am_iinc (pc := 203) G dX10_fitsAt_203 rfl (nlx hn rfl) rfl ?_
  refine am_goto (pc := 206) (ls := [(20, _), (0, _), (99, _), (99, _), (0, _), (0, _), (0, _), (99, _), (99, _)]) G 37 dX10_fitsAt_206 (by decide) ?_
  refine am_le (ls' := [(20, _), (0, _), (99, 0), (99, 0), (0, _), (0, _), (0, _), (99, 0), (99, 0)]) ⟨Or.inr rfl, ⟨Or.inr rfl, ⟨Or.inl rfl, ⟨Or.inl rfl, ⟨Or.inr rfl, ⟨Or.inr rfl, ⟨Or.inr rfl, ⟨Or.inl rfl, ⟨Or.inl rfl, trivial⟩⟩⟩⟩⟩⟩⟩⟩⟩ ?_
  exact k37 _ _ _ h
def wp_X10_fitsAt_109 (V : VV) (x1 x4 x5 x6 x8 : Int) (M : Mem) (Q : Int → Mem → Prop) (B37 : Int → Int → Mem → Prop) : Prop :=
  ((0 : Int) ≤ x8 ∧ x8 < (8 : Int)) ∧
  (0 ≤ M 228 x8 →
    ((0 : Int) ≤ x8 ∧ x8 < (8 : Int)) ∧
    wp_X10_fitsAt_137 V x1 x4 x5 x6 (M 228 x8) x8 M Q B37) ∧ (¬ (0 ≤ M 228 x8) →
    wp_X10_fitsAt_137 V x1 x4 x5 x6 x5 x8 M Q B37)
theorem swp_X10_fitsAt_109 {X : XX} {Q : Int → Mem → Prop} (G : GX X cX10_fitsAt "TreeHandsModel") (Z : RX X 1 Q) (hn : nLX X = 9) (hr : roomX X = rm_X10_fitsAt) (x1 x4 x5 x6 x8 : Int) (M : Mem) (B37 : Int → Int → Mem → Prop) (k37 : ∀ (z5 z6 : Int) (N : Mem), B37 z5 z6 N → AW X 37 [(20, 203), (0, x1), (99, 0), (99, 0), (0, x4), (0, z5), (0, z6), (99, 0), (99, 0)] [] N) (h : wp_X10_fitsAt_109 (vX X) x1 x4 x5 x6 x8 M Q B37) : AW X 109 [(20, 203), (0, x1), (99, 0), (99, 0), (0, x4), (0, x5), (0, x6), (99, 0), (0, x8)] [] M := by
  unfold wp_X10_fitsAt_109 at h
  refine am_aload_n (i := 0) (t := 17) (pc := 109) G dX10_fitsAt_109 rfl rfl rfl ?_
  refine gf_X10_32 (pc := 110) G dX10_fitsAt_110 tw_f_RX10_82 ?_
  refine am_iload (pc := 113) G dX10_fitsAt_113 rfl ?_
  refine am_aload_n (i := 0) (t := 17) (pc := 115) G dX10_fitsAt_115 rfl rfl rfl ?_
  refine gf_X10_32 (pc := 116) G dX10_fitsAt_116 tw_f_RX10_82 ?_
  refine am_iload (pc := 119) G dX10_fitsAt_119 rfl ?_
  refine am_iald (pc := 121) G 8 dX10_fitsAt_121 (by decide) h.1 ?_
  have h := h.2
  refine am_if_ge (pc := 122) G 130 dX10_fitsAt_122 (by decide) (fun c => ?_) (fun c => ?_)
  · have h := h.1 c
    refine am_aload_n (i := 0) (t := 17) (pc := 130) G dX10_fitsAt_130 rfl rfl rfl ?_
    refine gf_X10_32 (pc := 131) G dX10_fitsAt_131 tw_f_RX10_82 ?_
    refine am_iload (pc := 134) G dX10_fitsAt_134 rfl ?_
    refine am_iald (pc := 136) G 8 dX10_fitsAt_136 (by decide) h.1 ?_
    have h := h.2
    refine am_le (ls' := [(20, _), (0, _), (99, 0), (99, 0), (0, _), (0, _), (0, _), (99, 0), (99, 0)]) ⟨Or.inr rfl, ⟨Or.inr rfl, ⟨Or.inl rfl, ⟨Or.inl rfl, ⟨Or.inr rfl, ⟨Or.inr rfl, ⟨Or.inr rfl, ⟨Or.inl rfl, ⟨Or.inl rfl, trivial⟩⟩⟩⟩⟩⟩⟩⟩⟩ ?_
    exact swp_X10_fitsAt_137 G Z hn hr _ _ _ _ _ _ _ B37 k37 h
  · have h := h.2 c
    refine am_iload (pc := 125) G dX10_fitsAt_125 rfl ?_
    refine am_goto (pc := 127) G 137 dX10_fitsAt_127 (by decide) ?_
    refine am_le (ls' := [(20, _), (0, _), (99, 0), (99, 0), (0, _), (0, _), (0, _), (99, 0), (99, 0)]) ⟨Or.inr rfl, ⟨Or.inr rfl, ⟨Or.inl rfl, ⟨Or.inl rfl, ⟨Or.inr rfl, ⟨Or.inr rfl, ⟨Or.inr rfl, ⟨Or.inl rfl, ⟨Or.inl rfl, trivial⟩⟩⟩⟩⟩⟩⟩⟩⟩ ?_
    exact swp_X10_fitsAt_137 G Z hn hr _ _ _ _ _ _ _ B37 k37 h
def wp_X10_fitsAt_37_b (V : VV) (x1 x4 x5 x6 : Int) (M : Mem) (Q : Int → Mem → Prop) (B37 : Int → Int → Mem → Prop) : Prop :=
  ((0 : Int) ≤ x4 ∧ x4 < (21 : Int)) ∧
  (M 204 x4 ≤ x6 →
    Q 1 M) ∧ (¬ (M 204 x4 ≤ x6) →
    ((0 : Int) ≤ w32 (w32 (32 * x4) + x6) ∧ w32 (w32 (32 * x4) + x6) < (672 : Int)) ∧
    ∀ v1 : Int, v1 = M 205 (w32 (w32 (32 * x4) + x6)) →
    R_X10_isHole V v1 M (fun r2 M3 =>
    (r2 = 0 →
      ((0 : Int) ≤ w32 (w32 (32 * x1) + x5) ∧ w32 (w32 (32 * x1) + x5) < (672 : Int)) ∧
      (v1 = M3 205 (w32 (w32 (32 * x1) + x5)) →
        ((0 : Int) ≤ w32 (w32 (32 * x4) + x6) ∧ w32 (w32 (32 * x4) + x6) < (672 : Int)) ∧
        ((0 : Int) ≤ w32 (w32 (32 * x1) + x5) ∧ w32 (w32 (32 * x1) + x5) < (672 : Int)) ∧
        (M3 206 (w32 (w32 (32 * x4) + x6)) = M3 206 (w32 (w32 (32 * x1) + x5)) →
          B37 (w32 (x5 + 1)) (w32 (x6 + 1)) M3) ∧ (¬ (M3 206 (w32 (w32 (32 * x4) + x6)) = M3 206 (w32 (w32 (32 * x1) + x5))) →
          Q 0 M3)) ∧ (¬ (v1 = M3 205 (w32 (w32 (32 * x1) + x5))) →
        Q 0 M3)) ∧ (¬ (r2 = 0) →
      ((0 : Int) ≤ w32 (v1 - 65) ∧ w32 (v1 - 65) < (8 : Int)) ∧
      (M3 228 (w32 (v1 - 65)) < 0 →
        wp_X10_fitsAt_109 V x1 x4 x5 x6 (w32 (v1 - 65)) M3 Q B37) ∧ (¬ (M3 228 (w32 (v1 - 65)) < 0) →
        ((0 : Int) ≤ w32 (v1 - 65) ∧ w32 (v1 - 65) < (8 : Int)) ∧
        R_X10_same V x1 (M3 228 (w32 (v1 - 65))) x1 x5 M3 (fun r7 M8 =>
        (r7 = 0 →
          Q 0 M8) ∧ (¬ (r7 = 0) →
          wp_X10_fitsAt_109 V x1 x4 x5 x6 (w32 (v1 - 65)) M8 Q B37))))))
theorem swp_X10_fitsAt_37_b {X : XX} {Q : Int → Mem → Prop} (G : GX X cX10_fitsAt "TreeHandsModel") (Z : RX X 1 Q) (hn : nLX X = 9) (hr : roomX X = rm_X10_fitsAt) (x1 x4 x5 x6 : Int) (M : Mem) (B37 : Int → Int → Mem → Prop) (k37 : ∀ (z5 z6 : Int) (N : Mem), B37 z5 z6 N → AW X 37 [(20, 203), (0, x1), (99, 0), (99, 0), (0, x4), (0, z5), (0, z6), (99, 0), (99, 0)] [] N) (h : wp_X10_fitsAt_37_b (vX X) x1 x4 x5 x6 M Q B37) : AW X 37 [(20, 203), (0, x1), (99, 0), (99, 0), (0, x4), (0, x5), (0, x6), (99, 0), (99, 0)] [] M := by
  unfold wp_X10_fitsAt_37_b at h
  refine am_iload (pc := 37) G dX10_fitsAt_37 rfl ?_
  refine am_aload_n (i := 0) (t := 17) (pc := 39) G dX10_fitsAt_39 rfl rfl rfl ?_
  refine gf_X10_0 (pc := 40) G dX10_fitsAt_40 tw_f_RX10_7 ?_
  refine am_iload (pc := 43) G dX10_fitsAt_43 rfl ?_
  refine am_iald (pc := 45) G 21 dX10_fitsAt_45 (by decide) h.1 ?_
  have h := h.2
  refine am_icmp_ge (pc := 46) G 209 dX10_fitsAt_46 (by decide) (fun c => ?_) (fun c => ?_)
  · have h := h.1 c
    refine am_iconst (pc := 209) G dX10_fitsAt_209 (by decide) ?_
    exact am_zret (pc := 210) G Z dX10_fitsAt_210 ⟨by decide, h⟩
  · have h := h.2 c
    refine am_aload_n (i := 0) (t := 17) (pc := 49) G dX10_fitsAt_49 rfl rfl rfl ?_
    refine gf_X10_1 (pc := 50) G dX10_fitsAt_50 tw_f_RX10_13 ?_
    refine am_bipush (pc := 53) G dX10_fitsAt_53 (by decide) (by decide) ?_
    refine am_iload (pc := 55) G dX10_fitsAt_55 rfl ?_
    refine am_imul (pc := 57) G dX10_fitsAt_57 ?_
    refine am_iload (pc := 58) G dX10_fitsAt_58 rfl ?_
    refine am_iadd (pc := 60) G dX10_fitsAt_60 ?_
    refine am_iald (pc := 61) G 672 dX10_fitsAt_61 (by decide) h.1 ?_
    have h := h.2
    have h := h _ rfl
    refine am_istore (pc := 62) G dX10_fitsAt_62 (nlx hn rfl) rfl ?_
    refine am_iload (pc := 64) (ls := [(20, _), (0, _), (99, _), (99, _), (0, _), (0, _), (0, _), (0, _), (99, _)]) G dX10_fitsAt_64 rfl ?_
    refine am_callS (rk := 1) (rmc := rm_X10_isHole) (st := []) (pc := 66) G [(0, _)] dX10_fitsAt_66 tw_m_RX10_121 tw_s_X10_isHole tw_z_RX10 tw_c_X10_isHole hy_X10_isHole (callrm hr rfl) rfl (RunsM.mono h (fun r2 M3 h => ?_)) Z.rm
    show AW X 69 _ [(0, _)] M3
    refine am_if_eq (pc := 69) G 153 dX10_fitsAt_69 (by decide) (fun c => ?_) (fun c => ?_)
    · have h := h.1 c
      refine am_iload (pc := 153) G dX10_fitsAt_153 rfl ?_
      refine am_aload_n (i := 0) (t := 17) (pc := 155) G dX10_fitsAt_155 rfl rfl rfl ?_
      refine gf_X10_1 (pc := 156) G dX10_fitsAt_156 tw_f_RX10_13 ?_
      refine am_bipush (pc := 159) G dX10_fitsAt_159 (by decide) (by decide) ?_
      refine am_iload_n (i := 1) (pc := 161) G dX10_fitsAt_161 rfl rfl ?_
      refine am_imul (pc := 162) G dX10_fitsAt_162 ?_
      refine am_iload (pc := 163) G dX10_fitsAt_163 rfl ?_
      refine am_iadd (pc := 165) G dX10_fitsAt_165 ?_
      refine am_iald (pc := 166) G 672 dX10_fitsAt_166 (by decide) h.1 ?_
      have h := h.2
      refine am_icmp_ne (pc := 167) G 198 dX10_fitsAt_167 (by decide) (fun c => ?_) (fun c => ?_)
      · have h := h.2 c
        refine am_iconst (pc := 198) G dX10_fitsAt_198 (by decide) ?_
        exact am_zret (pc := 199) G Z dX10_fitsAt_199 ⟨by decide, h⟩
      · have h := h.1 c
        refine am_aload_n (i := 0) (t := 17) (pc := 170) G dX10_fitsAt_170 rfl rfl rfl ?_
        refine gf_X10_2 (pc := 171) G dX10_fitsAt_171 tw_f_RX10_16 ?_
        refine am_bipush (pc := 174) G dX10_fitsAt_174 (by decide) (by decide) ?_
        refine am_iload (pc := 176) G dX10_fitsAt_176 rfl ?_
        refine am_imul (pc := 178) G dX10_fitsAt_178 ?_
        refine am_iload (pc := 179) G dX10_fitsAt_179 rfl ?_
        refine am_iadd (pc := 181) G dX10_fitsAt_181 ?_
        refine am_iald (pc := 182) G 672 dX10_fitsAt_182 (by decide) h.1 ?_
        have h := h.2
        refine am_aload_n (i := 0) (t := 17) (pc := 183) G dX10_fitsAt_183 rfl rfl rfl ?_
        refine gf_X10_2 (pc := 184) G dX10_fitsAt_184 tw_f_RX10_16 ?_
        refine am_bipush (pc := 187) G dX10_fitsAt_187 (by decide) (by decide) ?_
        refine am_iload_n (i := 1) (pc := 189) G dX10_fitsAt_189 rfl rfl ?_
        refine am_imul (pc := 190) G dX10_fitsAt_190 ?_
        refine am_iload (pc := 191) G dX10_fitsAt_191 rfl ?_
        refine am_iadd (pc := 193) G dX10_fitsAt_193 ?_
        refine am_iald (pc := 194) G 672 dX10_fitsAt_194 (by decide) h.1 ?_
        have h := h.2
        refine am_icmp_eq (pc := 195) G 200 dX10_fitsAt_195 (by decide) (fun c => ?_) (fun c => ?_)
        · have h := h.1 c
          refine am_iinc (pc := 200) G dX10_fitsAt_200 rfl (nlx hn rfl) rfl ?_
          refine am_iinc (pc := 203) (ls := [(20, _), (0, _), (99, _), (99, _), (0, _), (0, _), (0, _), (0, _), (99, _)]) G dX10_fitsAt_203 rfl (nlx hn rfl) rfl ?_
          refine am_goto (pc := 206) (ls := [(20, _), (0, _), (99, _), (99, _), (0, _), (0, _), (0, _), (0, _), (99, _)]) G 37 dX10_fitsAt_206 (by decide) ?_
          refine am_le (ls' := [(20, _), (0, _), (99, 0), (99, 0), (0, _), (0, _), (0, _), (99, 0), (99, 0)]) ⟨Or.inr rfl, ⟨Or.inr rfl, ⟨Or.inl rfl, ⟨Or.inl rfl, ⟨Or.inr rfl, ⟨Or.inr rfl, ⟨Or.inr rfl, ⟨Or.inl rfl, ⟨Or.inl rfl, trivial⟩⟩⟩⟩⟩⟩⟩⟩⟩ ?_
          exact k37 _ _ _ h
        · have h := h.2 c
          refine am_iconst (pc := 198) G dX10_fitsAt_198 (by decide) ?_
          exact am_zret (pc := 199) G Z dX10_fitsAt_199 ⟨by decide, h⟩
    · have h := h.2 c
      refine am_iload (pc := 72) G dX10_fitsAt_72 rfl ?_
      refine am_bipush (pc := 74) G dX10_fitsAt_74 (by decide) (by decide) ?_
      refine am_isub (pc := 76) G dX10_fitsAt_76 ?_
      refine am_istore (pc := 77) G dX10_fitsAt_77 (nlx hn rfl) rfl ?_
      refine am_aload_n (i := 0) (t := 17) (pc := 79) (ls := [(20, _), (0, _), (99, _), (99, _), (0, _), (0, _), (0, _), (0, _), (0, _)]) G dX10_fitsAt_79 rfl rfl rfl ?_
      refine gf_X10_32 (pc := 80) G dX10_fitsAt_80 tw_f_RX10_82 ?_
      refine am_iload (pc := 83) G dX10_fitsAt_83 rfl ?_
      refine am_iald (pc := 85) G 8 dX10_fitsAt_85 (by decide) h.1 ?_
      have h := h.2
      refine am_if_lt (pc := 86) G 109 dX10_fitsAt_86 (by decide) (fun c => ?_) (fun c => ?_)
      · have h := h.1 c
        refine am_le (ls' := [(20, _), (0, _), (99, 0), (99, 0), (0, _), (0, _), (0, _), (99, 0), (0, _)]) ⟨Or.inr rfl, ⟨Or.inr rfl, ⟨Or.inl rfl, ⟨Or.inl rfl, ⟨Or.inr rfl, ⟨Or.inr rfl, ⟨Or.inr rfl, ⟨Or.inl rfl, ⟨Or.inr rfl, trivial⟩⟩⟩⟩⟩⟩⟩⟩⟩ ?_
        exact swp_X10_fitsAt_109 G Z hn hr _ _ _ _ _ _ B37 k37 h
      · have h := h.2 c
        refine am_aload_n (i := 0) (t := 17) (pc := 89) G dX10_fitsAt_89 rfl rfl rfl ?_
        refine am_iload_n (i := 1) (pc := 90) G dX10_fitsAt_90 rfl rfl ?_
        refine am_aload_n (i := 0) (t := 17) (pc := 91) G dX10_fitsAt_91 rfl rfl rfl ?_
        refine gf_X10_32 (pc := 92) G dX10_fitsAt_92 tw_f_RX10_82 ?_
        refine am_iload (pc := 95) G dX10_fitsAt_95 rfl ?_
        refine am_iald (pc := 97) G 8 dX10_fitsAt_97 (by decide) h.1 ?_
        have h := h.2
        refine am_iload_n (i := 1) (pc := 98) G dX10_fitsAt_98 rfl rfl ?_
        refine am_iload (pc := 99) G dX10_fitsAt_99 rfl ?_
        refine am_callV (rk := 1) (rmc := rm_X10_same) (st := []) (pc := 101) G 10 [(0, _), (0, _), (0, _), (0, _)] rfl (by decide) rfl dX10_fitsAt_101 tw_m_RX10_153 tw_i_X10_same tw_v_X10_same tw_z_RX10 tw_c_X10_same hy_X10_same (callrm hr rfl) rfl (RunsM.mono h (fun r7 M8 h => ?_)) Z.rm
        show AW X 104 _ [(0, _)] M8
        refine am_if_ne (pc := 104) G 109 dX10_fitsAt_104 (by decide) (fun c => ?_) (fun c => ?_)
        · have h := h.2 c
          refine am_le (ls' := [(20, _), (0, _), (99, 0), (99, 0), (0, _), (0, _), (0, _), (99, 0), (0, _)]) ⟨Or.inr rfl, ⟨Or.inr rfl, ⟨Or.inl rfl, ⟨Or.inl rfl, ⟨Or.inr rfl, ⟨Or.inr rfl, ⟨Or.inr rfl, ⟨Or.inl rfl, ⟨Or.inr rfl, trivial⟩⟩⟩⟩⟩⟩⟩⟩⟩ ?_
          exact swp_X10_fitsAt_109 G Z hn hr _ _ _ _ _ _ B37 k37 h
        · have h := h.1 c
          refine am_iconst (pc := 107) G dX10_fitsAt_107 (by decide) ?_
          exact am_zret (pc := 108) G Z dX10_fitsAt_108 ⟨by decide, h⟩
def wp_X10_fitsAt_37 (V : VV) (x1 x4 x5 x6 : Int) (M : Mem) (Q : Int → Mem → Prop) : Prop :=
  ∃ (I : Int → Int → Mem → Prop) (μ : Int → Int → Mem → Nat), I x5 x6 M ∧ ∀ (y5 y6 : Int) (N : Mem), I y5 y6 N → wp_X10_fitsAt_37_b V x1 x4 y5 y6 N Q (fun z5 z6 N1 => I z5 z6 N1 ∧ μ z5 z6 N1 < μ y5 y6 N)
theorem swp_X10_fitsAt_37 {X : XX} {Q : Int → Mem → Prop} (G : GX X cX10_fitsAt "TreeHandsModel") (Z : RX X 1 Q) (hn : nLX X = 9) (hr : roomX X = rm_X10_fitsAt) (x1 x4 x5 x6 : Int) (M : Mem) (h : wp_X10_fitsAt_37 (vX X) x1 x4 x5 x6 M Q) : AW X 37 [(20, 203), (0, x1), (99, 0), (99, 0), (0, x4), (0, x5), (0, x6), (99, 0), (99, 0)] [] M := by
  unfold wp_X10_fitsAt_37 at h
  obtain ⟨I, μ, hI, hs⟩ := h
  have key : ∀ (n : Nat) (y5 y6 : Int) (N : Mem), μ y5 y6 N < n → I y5 y6 N → AW X 37 [(20, 203), (0, x1), (99, 0), (99, 0), (0, x4), (0, y5), (0, y6), (99, 0), (99, 0)] [] N := by
    intro n
    induction n with
    | zero => intro y5 y6 N hlt; exact absurd hlt (Nat.not_lt_zero _)
    | succ n ih =>
      intro y5 y6 N hlt hI
      exact swp_X10_fitsAt_37_b G Z hn hr x1 x4 y5 y6 N (fun z5 z6 N1 => I z5 z6 N1 ∧ μ z5 z6 N1 < μ y5 y6 N) (fun z5 z6 N1 hz => ih z5 z6 N1 (by omega) hz.1) (hs y5 y6 N hI)
  exact key _ x5 x6 M (Nat.lt_succ_self _) hI
def wp_X10_fitsAt_3_b (V : VV) (x1 x2 x3 x4 : Int) (M : Mem) (Q : Int → Mem → Prop) (B3 : Int → Mem → Prop) : Prop :=
  (8 ≤ x4 →
    wp_X10_fitsAt_37 V x1 (w32 (6 + x3)) x2 0 M Q) ∧ (¬ (8 ≤ x4) →
    ((0 : Int) ≤ x4 ∧ x4 < (8 : Int)) ∧
    B3 (w32 (x4 + 1)) (mset M 228 x4 (-6)))
theorem swp_X10_fitsAt_3_b {X : XX} {Q : Int → Mem → Prop} (G : GX X cX10_fitsAt "TreeHandsModel") (Z : RX X 1 Q) (hn : nLX X = 9) (hr : roomX X = rm_X10_fitsAt) (x1 x2 x3 x4 : Int) (M : Mem) (B3 : Int → Mem → Prop) (k3 : ∀ (z4 : Int) (N : Mem), B3 z4 N → AW X 3 [(20, 203), (0, x1), (0, x2), (0, x3), (0, z4), (99, 0), (99, 0), (99, 0), (99, 0)] [] N) (h : wp_X10_fitsAt_3_b (vX X) x1 x2 x3 x4 M Q B3) : AW X 3 [(20, 203), (0, x1), (0, x2), (0, x3), (0, x4), (99, 0), (99, 0), (99, 0), (99, 0)] [] M := by
  unfold wp_X10_fitsAt_3_b at h
  refine am_iload (pc := 3) G dX10_fitsAt_3 rfl ?_
  refine am_bipush (pc := 5) G dX10_fitsAt_5 (by decide) (by decide) ?_
  refine am_icmp_ge (pc := 7) G 25 dX10_fitsAt_7 (by decide) (fun c => ?_) (fun c => ?_)
  · have h := h.1 c
    refine am_bipush (pc := 25) G dX10_fitsAt_25 (by decide) (by decide) ?_
    refine am_iload_n (i := 3) (pc := 27) G dX10_fitsAt_27 rfl rfl ?_
    refine am_iadd (pc := 28) G dX10_fitsAt_28 ?_
    refine am_istore (pc := 29) G dX10_fitsAt_29 (nlx hn rfl) rfl ?_
    refine am_iload_n (i := 2) (pc := 31) (ls := [(20, _), (0, _), (0, _), (0, _), (0, _), (99, _), (99, _), (99, _), (99, _)]) G dX10_fitsAt_31 rfl rfl ?_
    refine am_istore (pc := 32) G dX10_fitsAt_32 (nlx hn rfl) rfl ?_
    refine am_iconst (pc := 34) (ls := [(20, _), (0, _), (0, _), (0, _), (0, _), (0, _), (99, _), (99, _), (99, _)]) G dX10_fitsAt_34 (by decide) ?_
    refine am_istore (pc := 35) G dX10_fitsAt_35 (nlx hn rfl) rfl ?_
    refine am_le (ls' := [(20, _), (0, _), (99, 0), (99, 0), (0, _), (0, _), (0, _), (99, 0), (99, 0)]) ⟨Or.inr rfl, ⟨Or.inr rfl, ⟨Or.inl rfl, ⟨Or.inl rfl, ⟨Or.inr rfl, ⟨Or.inr rfl, ⟨Or.inr rfl, ⟨Or.inl rfl, ⟨Or.inl rfl, trivial⟩⟩⟩⟩⟩⟩⟩⟩⟩ ?_
    exact swp_X10_fitsAt_37 G Z hn hr _ _ _ _ _ h
  · have h := h.2 c
    refine am_aload_n (i := 0) (t := 17) (pc := 10) G dX10_fitsAt_10 rfl rfl rfl ?_
    refine gf_X10_32 (pc := 11) G dX10_fitsAt_11 tw_f_RX10_82 ?_
    refine am_iload (pc := 14) G dX10_fitsAt_14 rfl ?_
    refine am_bipush (pc := 16) G dX10_fitsAt_16 (by decide) (by decide) ?_
    refine am_iast (pc := 18) G 8 dX10_fitsAt_18 (by decide) h.1 ?_
    have h := h.2
    refine am_iinc (pc := 19) G dX10_fitsAt_19 rfl (nlx hn rfl) rfl ?_
    refine am_goto (pc := 22) (ls := [(20, _), (0, _), (0, _), (0, _), (0, _), (99, _), (99, _), (99, _), (99, _)]) G 3 dX10_fitsAt_22 (by decide) ?_
    refine am_le (ls' := [(20, _), (0, _), (0, _), (0, _), (0, _), (99, 0), (99, 0), (99, 0), (99, 0)]) ⟨Or.inr rfl, ⟨Or.inr rfl, ⟨Or.inr rfl, ⟨Or.inr rfl, ⟨Or.inr rfl, ⟨Or.inl rfl, ⟨Or.inl rfl, ⟨Or.inl rfl, ⟨Or.inl rfl, trivial⟩⟩⟩⟩⟩⟩⟩⟩⟩ ?_
    exact k3 _ _ h
def wp_X10_fitsAt_3 (V : VV) (x1 x2 x3 x4 : Int) (M : Mem) (Q : Int → Mem → Prop) : Prop :=
  ∃ (I : Int → Mem → Prop) (μ : Int → Mem → Nat), I x4 M ∧ ∀ (y4 : Int) (N : Mem), I y4 N → wp_X10_fitsAt_3_b V x1 x2 x3 y4 N Q (fun z4 N1 => I z4 N1 ∧ μ z4 N1 < μ y4 N)
theorem swp_X10_fitsAt_3 {X : XX} {Q : Int → Mem → Prop} (G : GX X cX10_fitsAt "TreeHandsModel") (Z : RX X 1 Q) (hn : nLX X = 9) (hr : roomX X = rm_X10_fitsAt) (x1 x2 x3 x4 : Int) (M : Mem) (h : wp_X10_fitsAt_3 (vX X) x1 x2 x3 x4 M Q) : AW X 3 [(20, 203), (0, x1), (0, x2), (0, x3), (0, x4), (99, 0), (99, 0), (99, 0), (99, 0)] [] M := by
  unfold wp_X10_fitsAt_3 at h
  obtain ⟨I, μ, hI, hs⟩ := h
  have key : ∀ (n : Nat) (y4 : Int) (N : Mem), μ y4 N < n → I y4 N → AW X 3 [(20, 203), (0, x1), (0, x2), (0, x3), (0, y4), (99, 0), (99, 0), (99, 0), (99, 0)] [] N := by
    intro n
    induction n with
    | zero => intro y4 N hlt; exact absurd hlt (Nat.not_lt_zero _)
    | succ n ih =>
      intro y4 N hlt hI
      exact swp_X10_fitsAt_3_b G Z hn hr x1 x2 x3 y4 N (fun z4 N1 => I z4 N1 ∧ μ z4 N1 < μ y4 N) (fun z4 N1 hz => ih z4 N1 (by omega) hz.1) (hs y4 N hI)
  exact key _ x4 M (Nat.lt_succ_self _) hI
def wp_X10_fitsAt (V : VV) (x1 x2 x3 : Int) (M : Mem) (Q : Int → Mem → Prop) : Prop :=
  wp_X10_fitsAt_3 V x1 x2 x3 0 M Q
theorem of_X10_fitsAt {V : VV} {x1 x2 x3 : Int} {M : Mem} {Q : Int → Mem → Prop} (h : wp_X10_fitsAt V x1 x2 x3 M Q) : R_X10_fitsAt V x1 x2 x3 M Q := by
  refine met_in (own := "TreeHandsModel") (by decide +kernel) rfl rfl (Nat.le_of_ble_eq_true rfl) ?_
  intro X G Z hn hr hv
  subst hv
  unfold wp_X10_fitsAt at h
  show AW X 0 [(20, 203), (0, x1), (0, x2), (0, x3), (99, 0), (99, 0), (99, 0), (99, 0), (99, 0)] [] M
  refine am_iconst (pc := 0) G dX10_fitsAt_0 (by decide) ?_
  refine am_istore (pc := 1) G dX10_fitsAt_1 (nlx hn rfl) rfl ?_
  refine am_le (ls' := [(20, _), (0, _), (0, _), (0, _), (0, _), (99, 0), (99, 0), (99, 0), (99, 0)]) ⟨Or.inr rfl, ⟨Or.inr rfl, ⟨Or.inr rfl, ⟨Or.inr rfl, ⟨Or.inr rfl, ⟨Or.inl rfl, ⟨Or.inl rfl, ⟨Or.inl rfl, ⟨Or.inl rfl, trivial⟩⟩⟩⟩⟩⟩⟩⟩⟩ ?_
  exact swp_X10_fitsAt_3 G Z hn hr _ _ _ _ _ h
-- X10_lay TreeHandsModel.lay(II)V
def rm_X10_lay : Room := { frames := 0, cells := 0, slots := 0, locals := 0 }
theorem hy_X10_lay : yX10_lay.cls ≠ "java/lang/invoke/MethodHandle" ∧ yX10_lay.cls ≠ "java/lang/invoke/VarHandle" ∧ (parseMethodDescriptor yX10_lay.desc).map (fun d => d.parameters.length) = some 2 := by decide +kernel
abbrev R_X10_lay (V : VV) (x1 x2 : Int) (M : Mem) (Q : Int → Mem → Prop) : Prop := RunsM V yX10_lay (.code yX10_lay cX10_lay 3 (Option.none : Option Jvm.ClassFile.FieldType)) rm_X10_lay 4 [(20, 203), (0, x1), (0, x2)] M Q
def wp_X10_lay (V : VV) (x1 x2 : Int) (M : Mem) (Q : Int → Mem → Prop) : Prop :=
  (16 ≤ M 203 33 →
    Q 0 (mset M 203 33 (w32 (M 203 33 + 1)))) ∧ (¬ (16 ≤ M 203 33) →
    ((0 : Int) ≤ w32 (640 + M 203 33) ∧ w32 (640 + M 203 33) < (672 : Int)) ∧
    ∀ M1 : Mem, M1 = mset M 205 (w32 (640 + M 203 33)) x1 →
    ((0 : Int) ≤ w32 (640 + M1 203 33) ∧ w32 (640 + M1 203 33) < (672 : Int)) ∧
    ∀ M2 : Mem, M2 = mset M1 206 (w32 (640 + M1 203 33)) x2 →
    Q 0 (mset M2 203 33 (w32 (M2 203 33 + 1))))
theorem of_X10_lay {V : VV} {x1 x2 : Int} {M : Mem} {Q : Int → Mem → Prop} (h : wp_X10_lay V x1 x2 M Q) : R_X10_lay V x1 x2 M Q := by
  refine met_in (own := "TreeHandsModel") (by decide +kernel) rfl rfl (Nat.le_of_ble_eq_true rfl) ?_
  intro X G Z hn hr hv
  subst hv
  unfold wp_X10_lay at h
  show AW X 0 [(20, 203), (0, x1), (0, x2)] [] M
  refine am_aload_n (i := 0) (t := 17) (pc := 0) G dX10_lay_0 rfl rfl rfl ?_
  refine gf_X10_33 (pc := 1) G dX10_lay_1 tw_f_RX10_214 ?_
  refine am_bipush (pc := 4) G dX10_lay_4 (by decide) (by decide) ?_
  refine am_icmp_ge (pc := 6) G 37 dX10_lay_6 (by decide) (fun c => ?_) (fun c => ?_)
  · have h := h.1 c
    refine am_aload_n (i := 0) (t := 17) (pc := 37) G dX10_lay_37 rfl rfl rfl ?_
    refine am_dup (pc := 38) G dX10_lay_38 (Nat.ne_of_beq_eq_false rfl) ?_
    refine gf_X10_33 (pc := 39) G dX10_lay_39 tw_f_RX10_214 ?_
    refine am_iconst (pc := 42) G dX10_lay_42 (by decide) ?_
    refine am_iadd (pc := 43) G dX10_lay_43 ?_
    refine pf_X10_33 (pc := 44) G dX10_lay_44 tw_f_RX10_214 ?_
    exact am_vret (pc := 47) G Z dX10_lay_47 h
  · have h := h.2 c
    refine am_aload_n (i := 0) (t := 17) (pc := 9) G dX10_lay_9 rfl rfl rfl ?_
    refine gf_X10_1 (pc := 10) G dX10_lay_10 tw_f_RX10_13 ?_
    refine am_sipush (pc := 13) G dX10_lay_13 (by decide) (by decide) ?_
    refine am_aload_n (i := 0) (t := 17) (pc := 16) G dX10_lay_16 rfl rfl rfl ?_
    refine gf_X10_33 (pc := 17) G dX10_lay_17 tw_f_RX10_214 ?_
    refine am_iadd (pc := 20) G dX10_lay_20 ?_
    refine am_iload_n (i := 1) (pc := 21) G dX10_lay_21 rfl rfl ?_
    refine am_iast (pc := 22) G 672 dX10_lay_22 (by decide) h.1 ?_
    have h := h.2
    refine am_aload_n (i := 0) (t := 17) (pc := 23) G dX10_lay_23 rfl rfl rfl ?_
    refine gf_X10_2 (pc := 24) G dX10_lay_24 tw_f_RX10_16 ?_
    refine am_sipush (pc := 27) G dX10_lay_27 (by decide) (by decide) ?_
    refine am_aload_n (i := 0) (t := 17) (pc := 30) G dX10_lay_30 rfl rfl rfl ?_
    have h := h _ rfl
    refine gf_X10_33 (pc := 31) G dX10_lay_31 tw_f_RX10_214 ?_
    refine am_iadd (pc := 34) G dX10_lay_34 ?_
    refine am_iload_n (i := 2) (pc := 35) G dX10_lay_35 rfl rfl ?_
    refine am_iast (pc := 36) G 672 dX10_lay_36 (by decide) h.1 ?_
    have h := h.2
    refine am_aload_n (i := 0) (t := 17) (pc := 37) G dX10_lay_37 rfl rfl rfl ?_
    refine am_dup (pc := 38) G dX10_lay_38 (Nat.ne_of_beq_eq_false rfl) ?_
    have h := h _ rfl
    refine gf_X10_33 (pc := 39) G dX10_lay_39 tw_f_RX10_214 ?_
    refine am_iconst (pc := 42) G dX10_lay_42 (by decide) ?_
    refine am_iadd (pc := 43) G dX10_lay_43 ?_
    refine pf_X10_33 (pc := 44) G dX10_lay_44 tw_f_RX10_214 ?_
    exact am_vret (pc := 47) G Z dX10_lay_47 h
-- X10_layPart TreeHandsModel.layPart(III)V
def rm_X10_layPart : Room := { frames := 1, cells := 0, slots := 0, locals := 22 }
theorem hy_X10_layPart : yX10_layPart.cls ≠ "java/lang/invoke/MethodHandle" ∧ yX10_layPart.cls ≠ "java/lang/invoke/VarHandle" ∧ (parseMethodDescriptor yX10_layPart.desc).map (fun d => d.parameters.length) = some 3 := by decide +kernel
abbrev R_X10_layPart (V : VV) (x1 x2 x3 : Int) (M : Mem) (Q : Int → Mem → Prop) : Prop := RunsM V yX10_layPart (.code yX10_layPart cX10_layPart 5 (Option.none : Option Jvm.ClassFile.FieldType)) rm_X10_layPart 4 [(20, 203), (0, x1), (0, x2), (0, x3)] M Q
def wp_X10_layPart_3_b (V : VV) (x1 x3 x4 : Int) (M : Mem) (Q : Int → Mem → Prop) (B3 : Int → Mem → Prop) : Prop :=
  (x3 ≤ x4 →
    Q 0 M) ∧ (¬ (x3 ≤ x4) →
    ((0 : Int) ≤ w32 (w32 (32 * x1) + x4) ∧ w32 (w32 (32 * x1) + x4) < (672 : Int)) ∧
    ((0 : Int) ≤ w32 (w32 (32 * x1) + x4) ∧ w32 (w32 (32 * x1) + x4) < (672 : Int)) ∧
    R_X10_lay V (M 205 (w32 (w32 (32 * x1) + x4))) (M 206 (w32 (w32 (32 * x1) + x4))) M (fun _ M2 =>
    B3 (w32 (x4 + 1)) M2))
theorem swp_X10_layPart_3_b {X : XX} {Q : Int → Mem → Prop} (G : GX X cX10_layPart "TreeHandsModel") (Z : RX X 4 Q) (hn : nLX X = 5) (hr : roomX X = rm_X10_layPart) (x1 x3 x4 : Int) (M : Mem) (B3 : Int → Mem → Prop) (k3 : ∀ (z4 : Int) (N : Mem), B3 z4 N → AW X 3 [(20, 203), (0, x1), (99, 0), (0, x3), (0, z4)] [] N) (h : wp_X10_layPart_3_b (vX X) x1 x3 x4 M Q B3) : AW X 3 [(20, 203), (0, x1), (99, 0), (0, x3), (0, x4)] [] M := by
  unfold wp_X10_layPart_3_b at h
  refine am_iload (pc := 3) G dX10_layPart_3 rfl ?_
  refine am_iload_n (i := 3) (pc := 5) G dX10_layPart_5 rfl rfl ?_
  refine am_icmp_ge (pc := 6) G 43 dX10_layPart_6 (by decide) (fun c => ?_) (fun c => ?_)
  · have h := h.1 c
    exact am_vret (pc := 43) G Z dX10_layPart_43 h
  · have h := h.2 c
    refine am_aload_n (i := 0) (t := 17) (pc := 9) G dX10_layPart_9 rfl rfl rfl ?_
    refine am_aload_n (i := 0) (t := 17) (pc := 10) G dX10_layPart_10 rfl rfl rfl ?_
    refine gf_X10_1 (pc := 11) G dX10_layPart_11 tw_f_RX10_13 ?_
    refine am_bipush (pc := 14) G dX10_layPart_14 (by decide) (by decide) ?_
    refine am_iload_n (i := 1) (pc := 16) G dX10_layPart_16 rfl rfl ?_
    refine am_imul (pc := 17) G dX10_layPart_17 ?_
    refine am_iload (pc := 18) G dX10_layPart_18 rfl ?_
    refine am_iadd (pc := 20) G dX10_layPart_20 ?_
    refine am_iald (pc := 21) G 672 dX10_layPart_21 (by decide) h.1 ?_
    have h := h.2
    refine am_aload_n (i := 0) (t := 17) (pc := 22) G dX10_layPart_22 rfl rfl rfl ?_
    refine gf_X10_2 (pc := 23) G dX10_layPart_23 tw_f_RX10_16 ?_
    refine am_bipush (pc := 26) G dX10_layPart_26 (by decide) (by decide) ?_
    refine am_iload_n (i := 1) (pc := 28) G dX10_layPart_28 rfl rfl ?_
    refine am_imul (pc := 29) G dX10_layPart_29 ?_
    refine am_iload (pc := 30) G dX10_layPart_30 rfl ?_
    refine am_iadd (pc := 32) G dX10_layPart_32 ?_
    refine am_iald (pc := 33) G 672 dX10_layPart_33 (by decide) h.1 ?_
    have h := h.2
    refine am_callV (rk := 4) (rmc := rm_X10_lay) (st := []) (pc := 34) G 10 [(0, _), (0, _)] rfl (by decide) rfl dX10_layPart_34 tw_m_RX10_217 tw_i_X10_lay tw_v_X10_lay tw_z_RX10 tw_c_X10_lay hy_X10_lay (callrm hr rfl) rfl (RunsM.mono h (fun r1 M2 h => ?_)) Z.rm
    show AW X 37 _ [] M2
    refine am_iinc (pc := 37) G dX10_layPart_37 rfl (nlx hn rfl) rfl ?_
    refine am_goto (pc := 40) (ls := [(20, _), (0, _), (99, _), (0, _), (0, _)]) G 3 dX10_layPart_40 (by decide) ?_
    refine am_le (ls' := [(20, _), (0, _), (99, 0), (0, _), (0, _)]) ⟨Or.inr rfl, ⟨Or.inr rfl, ⟨Or.inl rfl, ⟨Or.inr rfl, ⟨Or.inr rfl, trivial⟩⟩⟩⟩⟩ ?_
    exact k3 _ _ h
def wp_X10_layPart_3 (V : VV) (x1 x3 x4 : Int) (M : Mem) (Q : Int → Mem → Prop) : Prop :=
  ∃ (I : Int → Mem → Prop) (μ : Int → Mem → Nat), I x4 M ∧ ∀ (y4 : Int) (N : Mem), I y4 N → wp_X10_layPart_3_b V x1 x3 y4 N Q (fun z4 N1 => I z4 N1 ∧ μ z4 N1 < μ y4 N)
theorem swp_X10_layPart_3 {X : XX} {Q : Int → Mem → Prop} (G : GX X cX10_layPart "TreeHandsModel") (Z : RX X 4 Q) (hn : nLX X = 5) (hr : roomX X = rm_X10_layPart) (x1 x3 x4 : Int) (M : Mem) (h : wp_X10_layPart_3 (vX X) x1 x3 x4 M Q) : AW X 3 [(20, 203), (0, x1), (99, 0), (0, x3), (0, x4)] [] M := by
  unfold wp_X10_layPart_3 at h
  obtain ⟨I, μ, hI, hs⟩ := h
  have key : ∀ (n : Nat) (y4 : Int) (N : Mem), μ y4 N < n → I y4 N → AW X 3 [(20, 203), (0, x1), (99, 0), (0, x3), (0, y4)] [] N := by
    intro n
    induction n with
    | zero => intro y4 N hlt; exact absurd hlt (Nat.not_lt_zero _)
    | succ n ih =>
      intro y4 N hlt hI
      exact swp_X10_layPart_3_b G Z hn hr x1 x3 y4 N (fun z4 N1 => I z4 N1 ∧ μ z4 N1 < μ y4 N) (fun z4 N1 hz => ih z4 N1 (by omega) hz.1) (hs y4 N hI)
  exact key _ x4 M (Nat.lt_succ_self _) hI
def wp_X10_layPart (V : VV) (x1 x2 x3 : Int) (M : Mem) (Q : Int → Mem → Prop) : Prop :=
  wp_X10_layPart_3 V x1 x3 x2 M Q
theorem of_X10_layPart {V : VV} {x1 x2 x3 : Int} {M : Mem} {Q : Int → Mem → Prop} (h : wp_X10_layPart V x1 x2 x3 M Q) : R_X10_layPart V x1 x2 x3 M Q := by
  refine met_in (own := "TreeHandsModel") (by decide +kernel) rfl rfl (Nat.le_of_ble_eq_true rfl) ?_
  intro X G Z hn hr hv
  subst hv
  unfold wp_X10_layPart at h
  show AW X 0 [(20, 203), (0, x1), (0, x2), (0, x3), (99, 0)] [] M
  refine am_iload_n (i := 2) (pc := 0) G dX10_layPart_0 rfl rfl ?_
  refine am_istore (pc := 1) G dX10_layPart_1 (nlx hn rfl) rfl ?_
  refine am_le (ls' := [(20, _), (0, _), (99, 0), (0, _), (0, _)]) ⟨Or.inr rfl, ⟨Or.inr rfl, ⟨Or.inl rfl, ⟨Or.inr rfl, ⟨Or.inr rfl, trivial⟩⟩⟩⟩⟩ ?_
  exact swp_X10_layPart_3 G Z hn hr _ _ _ _ h
-- X10_makes TreeHandsModel.makes(III)Z
def rm_X10_makes : Room := { frames := 2, cells := 0, slots := 0, locals := 46 }
theorem hy_X10_makes : yX10_makes.cls ≠ "java/lang/invoke/MethodHandle" ∧ yX10_makes.cls ≠ "java/lang/invoke/VarHandle" ∧ (parseMethodDescriptor yX10_makes.desc).map (fun d => d.parameters.length) = some 3 := by decide +kernel
abbrev R_X10_makes (V : VV) (x1 x2 x3 : Int) (M : Mem) (Q : Int → Mem → Prop) : Prop := RunsM V yX10_makes (.code yX10_makes cX10_makes 8 (Option.some Jvm.ClassFile.FieldType.boolean)) rm_X10_makes 1 [(20, 203), (0, x1), (0, x2), (0, x3)] M Q
def wp_X10_makes_21_b (V : VV) (x1 x2 x4 x5 : Int) (M : Mem) (Q : Int → Mem → Prop) (B21 : Int → Mem → Prop) : Prop :=
  ((0 : Int) ≤ x4 ∧ x4 < (21 : Int)) ∧
  (M 204 x4 ≤ x5 →
    R_X10_sizeOf V x1 x2 M (fun r4 M5 =>
    ((0 : Int) ≤ x1 ∧ x1 < (21 : Int)) ∧
    R_X10_layPart V x1 (w32 (x2 + r4)) (M5 204 x1) M5 (fun _ M7 =>
    (M7 203 33 ≤ 16 →
      R_X10_copy V 20 0 (M7 203 33) x1 M7 (fun _ M9 =>
      Q 1 M9)) ∧ (¬ (M7 203 33 ≤ 16) →
      Q 0 M7)))) ∧ (¬ (M 204 x4 ≤ x5) →
    ((0 : Int) ≤ w32 (w32 (32 * x4) + x5) ∧ w32 (w32 (32 * x4) + x5) < (672 : Int)) ∧
    ∀ v10 : Int, v10 = M 205 (w32 (w32 (32 * x4) + x5)) →
    R_X10_isHole V v10 M (fun r11 M12 =>
    (r11 = 0 →
      ((0 : Int) ≤ w32 (w32 (32 * x4) + x5) ∧ w32 (w32 (32 * x4) + x5) < (672 : Int)) ∧
      R_X10_lay V v10 (M12 206 (w32 (w32 (32 * x4) + x5))) M12 (fun _ M14 =>
      B21 (w32 (x5 + 1)) M14)) ∧ (¬ (r11 = 0) →
      ((0 : Int) ≤ w32 (v10 - 65) ∧ w32 (v10 - 65) < (8 : Int)) ∧
      ∀ v15 : Int, v15 = M12 228 (w32 (v10 - 65)) →
      R_X10_sizeOf V x1 v15 M12 (fun r16 M17 =>
      R_X10_layPart V x1 v15 (w32 (v15 + r16)) M17 (fun _ M19 =>
      B21 (w32 (x5 + 1)) M19)))))
theorem swp_X10_makes_21_b {X : XX} {Q : Int → Mem → Prop} (G : GX X cX10_makes "TreeHandsModel") (Z : RX X 1 Q) (hn : nLX X = 8) (hr : roomX X = rm_X10_makes) (x1 x2 x4 x5 : Int) (M : Mem) (B21 : Int → Mem → Prop) (k21 : ∀ (z5 : Int) (N : Mem), B21 z5 N → AW X 21 [(20, 203), (0, x1), (0, x2), (99, 0), (0, x4), (0, z5), (99, 0), (99, 0)] [] N) (h : wp_X10_makes_21_b (vX X) x1 x2 x4 x5 M Q B21) : AW X 21 [(20, 203), (0, x1), (0, x2), (99, 0), (0, x4), (0, x5), (99, 0), (99, 0)] [] M := by
  unfold wp_X10_makes_21_b at h
  refine am_iload (pc := 21) G dX10_makes_21 rfl ?_
  refine am_aload_n (i := 0) (t := 17) (pc := 23) G dX10_makes_23 rfl rfl rfl ?_
  refine gf_X10_0 (pc := 24) G dX10_makes_24 tw_f_RX10_7 ?_
  refine am_iload (pc := 27) G dX10_makes_27 rfl ?_
  refine am_iald (pc := 29) G 21 dX10_makes_29 (by decide) h.1 ?_
  have h := h.2
  refine am_icmp_ge (pc := 30) G 113 dX10_makes_30 (by decide) (fun c => ?_) (fun c => ?_)
  · have h := h.1 c
    refine am_aload_n (i := 0) (t := 17) (pc := 113) G dX10_makes_113 rfl rfl rfl ?_
    refine am_iload_n (i := 1) (pc := 114) G dX10_makes_114 rfl rfl ?_
    refine am_iload_n (i := 2) (pc := 115) G dX10_makes_115 rfl rfl ?_
    refine am_aload_n (i := 0) (t := 17) (pc := 116) G dX10_makes_116 rfl rfl rfl ?_
    refine am_iload_n (i := 1) (pc := 117) G dX10_makes_117 rfl rfl ?_
    refine am_iload_n (i := 2) (pc := 118) G dX10_makes_118 rfl rfl ?_
    refine am_callV (rk := 0) (rmc := rm_X10_sizeOf) (st := [(0, _), (0, _), (20, _)]) (pc := 119) G 10 [(0, _), (0, _)] rfl (by decide) rfl dX10_makes_119 tw_m_RX10_128 tw_i_X10_sizeOf tw_v_X10_sizeOf tw_z_RX10 tw_c_X10_sizeOf hy_X10_sizeOf (callrm hr rfl) rfl (RunsM.mono h (fun r4 M5 h => ?_)) Z.rm
    show AW X 122 _ [(0, _), (0, _), (0, _), (20, _)] M5
    refine am_iadd (pc := 122) G dX10_makes_122 ?_
    refine am_aload_n (i := 0) (t := 17) (pc := 123) G dX10_makes_123 rfl rfl rfl ?_
    refine gf_X10_0 (pc := 124) G dX10_makes_124 tw_f_RX10_7 ?_
    refine am_iload_n (i := 1) (pc := 127) G dX10_makes_127 rfl rfl ?_
    refine am_iald (pc := 128) G 21 dX10_makes_128 (by decide) h.1 ?_
    have h := h.2
    refine am_callV (rk := 4) (rmc := rm_X10_layPart) (st := []) (pc := 129) G 10 [(0, _), (0, _), (0, _)] rfl (by decide) rfl dX10_makes_129 tw_m_RX10_220 tw_i_X10_layPart tw_v_X10_layPart tw_z_RX10 tw_c_X10_layPart hy_X10_layPart (callrm hr rfl) rfl (RunsM.mono h (fun r6 M7 h => ?_)) Z.rm
    show AW X 132 _ [] M7
    refine am_aload_n (i := 0) (t := 17) (pc := 132) G dX10_makes_132 rfl rfl rfl ?_
    refine gf_X10_33 (pc := 133) G dX10_makes_133 tw_f_RX10_214 ?_
    refine am_bipush (pc := 136) G dX10_makes_136 (by decide) (by decide) ?_
    refine am_icmp_le (pc := 138) G 143 dX10_makes_138 (by decide) (fun c => ?_) (fun c => ?_)
    · have h := h.1 c
      refine am_aload_n (i := 0) (t := 17) (pc := 143) G dX10_makes_143 rfl rfl rfl ?_
      refine am_bipush (pc := 144) G dX10_makes_144 (by decide) (by decide) ?_
      refine am_iconst (pc := 146) G dX10_makes_146 (by decide) ?_
      refine am_aload_n (i := 0) (t := 17) (pc := 147) G dX10_makes_147 rfl rfl rfl ?_
      refine gf_X10_33 (pc := 148) G dX10_makes_148 tw_f_RX10_214 ?_
      refine am_iload_n (i := 1) (pc := 151) G dX10_makes_151 rfl rfl ?_
      refine am_callV (rk := 4) (rmc := rm_X10_copy) (st := []) (pc := 152) G 10 [(0, _), (0, _), (0, _), (0, _)] rfl (by decide) rfl dX10_makes_152 tw_m_RX10_149 tw_i_X10_copy tw_v_X10_copy tw_z_RX10 tw_c_X10_copy hy_X10_copy (callrm hr rfl) rfl (RunsM.mono h (fun r8 M9 h => ?_)) Z.rm
      show AW X 155 _ [] M9
      refine am_iconst (pc := 155) G dX10_makes_155 (by decide) ?_
      exact am_zret (pc := 156) G Z dX10_makes_156 ⟨by decide, h⟩
    · have h := h.2 c
      refine am_iconst (pc := 141) G dX10_makes_141 (by decide) ?_
      exact am_zret (pc := 142) G Z dX10_makes_142 ⟨by decide, h⟩
  · have h := h.2 c
    refine am_aload_n (i := 0) (t := 17) (pc := 33) G dX10_makes_33 rfl rfl rfl ?_
    refine gf_X10_1 (pc := 34) G dX10_makes_34 tw_f_RX10_13 ?_
    refine am_bipush (pc := 37) G dX10_makes_37 (by decide) (by decide) ?_
    refine am_iload (pc := 39) G dX10_makes_39 rfl ?_
    refine am_imul (pc := 41) G dX10_makes_41 ?_
    refine am_iload (pc := 42) G dX10_makes_42 rfl ?_
    refine am_iadd (pc := 44) G dX10_makes_44 ?_
    refine am_iald (pc := 45) G 672 dX10_makes_45 (by decide) h.1 ?_
    have h := h.2
    have h := h _ rfl
    refine am_istore (pc := 46) G dX10_makes_46 (nlx hn rfl) rfl ?_
    refine am_iload (pc := 48) (ls := [(20, _), (0, _), (0, _), (99, _), (0, _), (0, _), (0, _), (99, _)]) G dX10_makes_48 rfl ?_
    refine am_callS (rk := 1) (rmc := rm_X10_isHole) (st := []) (pc := 50) G [(0, _)] dX10_makes_50 tw_m_RX10_121 tw_s_X10_isHole tw_z_RX10 tw_c_X10_isHole hy_X10_isHole (callrm hr rfl) rfl (RunsM.mono h (fun r11 M12 h => ?_)) Z.rm
    show AW X 53 _ [(0, _)] M12
    refine am_if_eq (pc := 53) G 88 dX10_makes_53 (by decide) (fun c => ?_) (fun c => ?_)
    · have h := h.1 c
      refine am_aload_n (i := 0) (t := 17) (pc := 88) G dX10_makes_88 rfl rfl rfl ?_
      refine am_iload (pc := 89) G dX10_makes_89 rfl ?_
      refine am_aload_n (i := 0) (t := 17) (pc := 91) G dX10_makes_91 rfl rfl rfl ?_
      refine gf_X10_2 (pc := 92) G dX10_makes_92 tw_f_RX10_16 ?_
      refine am_bipush (pc := 95) G dX10_makes_95 (by decide) (by decide) ?_
      refine am_iload (pc := 97) G dX10_makes_97 rfl ?_
      refine am_imul (pc := 99) G dX10_makes_99 ?_
      refine am_iload (pc := 100) G dX10_makes_100 rfl ?_
      refine am_iadd (pc := 102) G dX10_makes_102 ?_
      refine am_iald (pc := 103) G 672 dX10_makes_103 (by decide) h.1 ?_
      have h := h.2
      refine am_callV (rk := 4) (rmc := rm_X10_lay) (st := []) (pc := 104) G 10 [(0, _), (0, _)] rfl (by decide) rfl dX10_makes_104 tw_m_RX10_217 tw_i_X10_lay tw_v_X10_lay tw_z_RX10 tw_c_X10_lay hy_X10_lay (callrm hr rfl) rfl (RunsM.mono h (fun r13 M14 h => ?_)) Z.rm
      show AW X 107 _ [] M14
      refine am_iinc (pc := 107) G dX10_makes_107 rfl (nlx hn rfl) rfl ?_
      refine am_goto (pc := 110) (ls := [(20, _), (0, _), (0, _), (99, _), (0, _), (0, _), (0, _), (99, _)]) G 21 dX10_makes_110 (by decide) ?_
      refine am_le (ls' := [(20, _), (0, _), (0, _), (99, 0), (0, _), (0, _), (99, 0), (99, 0)]) ⟨Or.inr rfl, ⟨Or.inr rfl, ⟨Or.inr rfl, ⟨Or.inl rfl, ⟨Or.inr rfl, ⟨Or.inr rfl, ⟨Or.inl rfl, ⟨Or.inl rfl, trivial⟩⟩⟩⟩⟩⟩⟩⟩ ?_
      exact k21 _ _ h
    · have h := h.2 c
      refine am_aload_n (i := 0) (t := 17) (pc := 56) G dX10_makes_56 rfl rfl rfl ?_
      refine gf_X10_32 (pc := 57) G dX10_makes_57 tw_f_RX10_82 ?_
      refine am_iload (pc := 60) G dX10_makes_60 rfl ?_
      refine am_bipush (pc := 62) G dX10_makes_62 (by decide) (by decide) ?_
      refine am_isub (pc := 64) G dX10_makes_64 ?_
      refine am_iald (pc := 65) G 8 dX10_makes_65 (by decide) h.1 ?_
      have h := h.2
      have h := h _ rfl
      refine am_istore (pc := 66) G dX10_makes_66 (nlx hn rfl) rfl ?_
      refine am_aload_n (i := 0) (t := 17) (pc := 68) (ls := [(20, _), (0, _), (0, _), (99, _), (0, _), (0, _), (0, _), (0, _)]) G dX10_makes_68 rfl rfl rfl ?_
      refine am_iload_n (i := 1) (pc := 69) G dX10_makes_69 rfl rfl ?_
      refine am_iload (pc := 70) G dX10_makes_70 rfl ?_
      refine am_iload (pc := 72) G dX10_makes_72 rfl ?_
      refine am_aload_n (i := 0) (t := 17) (pc := 74) G dX10_makes_74 rfl rfl rfl ?_
      refine am_iload_n (i := 1) (pc := 75) G dX10_makes_75 rfl rfl ?_
      refine am_iload (pc := 76) G dX10_makes_76 rfl ?_
      refine am_callV (rk := 0) (rmc := rm_X10_sizeOf) (st := [(0, _), (0, _), (0, _), (20, _)]) (pc := 78) G 10 [(0, _), (0, _)] rfl (by decide) rfl dX10_makes_78 tw_m_RX10_128 tw_i_X10_sizeOf tw_v_X10_sizeOf tw_z_RX10 tw_c_X10_sizeOf hy_X10_sizeOf (callrm hr rfl) rfl (RunsM.mono h (fun r16 M17 h => ?_)) Z.rm
      show AW X 81 _ [(0, _), (0, _), (0, _), (0, _), (20, _)] M17
      refine am_iadd (pc := 81) G dX10_makes_81 ?_
      refine am_callV (rk := 4) (rmc := rm_X10_layPart) (st := []) (pc := 82) G 10 [(0, _), (0, _), (0, _)] rfl (by decide) rfl dX10_makes_82 tw_m_RX10_220 tw_i_X10_layPart tw_v_X10_layPart tw_z_RX10 tw_c_X10_layPart hy_X10_layPart (callrm hr rfl) rfl (RunsM.mono h (fun r18 M19 h => ?_)) Z.rm
      show AW X 85 _ [] M19
      refine am_goto (pc := 85) G 107 dX10_makes_85 (by decide) ?_
      refine am_iinc (pc := 107) G dX10_makes_107 rfl (nlx hn rfl) rfl ?_
      refine am_goto (pc := 110) (ls := [(20, _), (0, _), (0, _), (99, _), (0, _), (0, _), (0, _), (0, _)]) G 21 dX10_makes_110 (by decide) ?_
      refine am_le (ls' := [(20, _), (0, _), (0, _), (99, 0), (0, _), (0, _), (99, 0), (99, 0)]) ⟨Or.inr rfl, ⟨Or.inr rfl, ⟨Or.inr rfl, ⟨Or.inl rfl, ⟨Or.inr rfl, ⟨Or.inr rfl, ⟨Or.inl rfl, ⟨Or.inl rfl, trivial⟩⟩⟩⟩⟩⟩⟩⟩ ?_
      exact k21 _ _ h
def wp_X10_makes_21 (V : VV) (x1 x2 x4 x5 : Int) (M : Mem) (Q : Int → Mem → Prop) : Prop :=
  ∃ (I : Int → Mem → Prop) (μ : Int → Mem → Nat), I x5 M ∧ ∀ (y5 : Int) (N : Mem), I y5 N → wp_X10_makes_21_b V x1 x2 x4 y5 N Q (fun z5 N1 => I z5 N1 ∧ μ z5 N1 < μ y5 N)
theorem swp_X10_makes_21 {X : XX} {Q : Int → Mem → Prop} (G : GX X cX10_makes "TreeHandsModel") (Z : RX X 1 Q) (hn : nLX X = 8) (hr : roomX X = rm_X10_makes) (x1 x2 x4 x5 : Int) (M : Mem) (h : wp_X10_makes_21 (vX X) x1 x2 x4 x5 M Q) : AW X 21 [(20, 203), (0, x1), (0, x2), (99, 0), (0, x4), (0, x5), (99, 0), (99, 0)] [] M := by
  unfold wp_X10_makes_21 at h
  obtain ⟨I, μ, hI, hs⟩ := h
  have key : ∀ (n : Nat) (y5 : Int) (N : Mem), μ y5 N < n → I y5 N → AW X 21 [(20, 203), (0, x1), (0, x2), (99, 0), (0, x4), (0, y5), (99, 0), (99, 0)] [] N := by
    intro n
    induction n with
    | zero => intro y5 N hlt; exact absurd hlt (Nat.not_lt_zero _)
    | succ n ih =>
      intro y5 N hlt hI
      exact swp_X10_makes_21_b G Z hn hr x1 x2 x4 y5 N (fun z5 N1 => I z5 N1 ∧ μ z5 N1 < μ y5 N) (fun z5 N1 hz => ih z5 N1 (by omega) hz.1) (hs y5 N hI)
  exact key _ x5 M (Nat.lt_succ_self _) hI
def wp_X10_makes (V : VV) (x1 x2 x3 : Int) (M : Mem) (Q : Int → Mem → Prop) : Prop :=
  ∀ M1 : Mem, M1 = mset M 203 33 0 →
  R_X10_layPart V x1 0 x2 M1 (fun _ M3 =>
  wp_X10_makes_21 V x1 x2 (w32 (12 + x3)) 0 M3 Q)
theorem of_X10_makes {V : VV} {x1 x2 x3 : Int} {M : Mem} {Q : Int → Mem → Prop} (h : wp_X10_makes V x1 x2 x3 M Q) : R_X10_makes V x1 x2 x3 M Q := by
  refine met_in (own := "TreeHandsModel") (by decide +kernel) rfl rfl (Nat.le_of_ble_eq_true rfl) ?_
  intro X G Z hn hr hv
  subst hv
  unfold wp_X10_makes at h
  show AW X 0 [(20, 203), (0, x1), (0, x2), (0, x3), (99, 0), (99, 0), (99, 0), (99, 0)] [] M
  refine am_aload_n (i := 0) (t := 17) (pc := 0) G dX10_makes_0 rfl rfl rfl ?_
  refine am_iconst (pc := 1) G dX10_makes_1 (by decide) ?_
  refine pf_X10_33 (pc := 2) G dX10_makes_2 tw_f_RX10_214 ?_
  refine am_aload_n (i := 0) (t := 17) (pc := 5) G dX10_makes_5 rfl rfl rfl ?_
  refine am_iload_n (i := 1) (pc := 6) G dX10_makes_6 rfl rfl ?_
  refine am_iconst (pc := 7) G dX10_makes_7 (by decide) ?_
  refine am_iload_n (i := 2) (pc := 8) G dX10_makes_8 rfl rfl ?_
  have h := h _ rfl
  refine am_callV (rk := 4) (rmc := rm_X10_layPart) (st := []) (pc := 9) G 10 [(0, _), (0, _), (0, _)] rfl (by decide) rfl dX10_makes_9 tw_m_RX10_220 tw_i_X10_layPart tw_v_X10_layPart tw_z_RX10 tw_c_X10_layPart hy_X10_layPart (callrm hr rfl) rfl (RunsM.mono h (fun r2 M3 h => ?_)) Z.rm
  show AW X 12 _ [] M3
  refine am_bipush (pc := 12) G dX10_makes_12 (by decide) (by decide) ?_
  refine am_iload_n (i := 3) (pc := 14) G dX10_makes_14 rfl rfl ?_
  refine am_iadd (pc := 15) G dX10_makes_15 ?_
  refine am_istore (pc := 16) G dX10_makes_16 (nlx hn rfl) rfl ?_
  refine am_iconst (pc := 18) (ls := [(20, _), (0, _), (0, _), (0, _), (0, _), (99, _), (99, _), (99, _)]) G dX10_makes_18 (by decide) ?_
  refine am_istore (pc := 19) G dX10_makes_19 (nlx hn rfl) rfl ?_
  refine am_le (ls' := [(20, _), (0, _), (0, _), (99, 0), (0, _), (0, _), (99, 0), (99, 0)]) ⟨Or.inr rfl, ⟨Or.inr rfl, ⟨Or.inr rfl, ⟨Or.inl rfl, ⟨Or.inr rfl, ⟨Or.inr rfl, ⟨Or.inl rfl, ⟨Or.inl rfl, trivial⟩⟩⟩⟩⟩⟩⟩⟩ ?_
  exact swp_X10_makes_21 G Z hn hr _ _ _ _ _ h
-- X10_fits TreeHandsModel.fits(II)I
def rm_X10_fits : Room := { frames := 3, cells := 0, slots := 0, locals := 79 }
theorem hy_X10_fits : yX10_fits.cls ≠ "java/lang/invoke/MethodHandle" ∧ yX10_fits.cls ≠ "java/lang/invoke/VarHandle" ∧ (parseMethodDescriptor yX10_fits.desc).map (fun d => d.parameters.length) = some 2 := by decide +kernel
abbrev R_X10_fits (V : VV) (x1 x2 : Int) (M : Mem) (Q : Int → Mem → Prop) : Prop := RunsM V yX10_fits (.code yX10_fits cX10_fits 5 (Option.some Jvm.ClassFile.FieldType.int)) rm_X10_fits 0 [(20, 203), (0, x1), (0, x2)] M Q
def wp_X10_fits_56 (V : VV) (x1 x2 x4 s0 s1 : Int) (M : Mem) (Q : Int → Mem → Prop) (B27 : Int → Int → Mem → Prop) : Prop :=
  ∀ v7 : Int, v7 = or32 s1 s0 →
  B27 v7 (w32 (x4 + 1)) M
theorem swp_X10_fits_56 {X : XX} {Q : Int → Mem → Prop} (G : GX X cX10_fits "TreeHandsModel") (Z : RX X 0 Q) (hn : nLX X = 5) (hr : roomX X = rm_X10_fits) (x1 x2 x4 s0 s1 : Int) (M : Mem) (B27 : Int → Int → Mem → Prop) (k27 : ∀ (z3 z4 : Int) (N : Mem), B27 z3 z4 N → AW X 27 [(20, 203), (0, x1), (0, x2), (0, z3), (0, z4)] [] N) (h : wp_X10_fits_56 (vX X) x1 x2 x4 s0 s1 M Q B27) : AW X 56 [(20, 203), (0, x1), (0, x2), (99, 0), (0, x4)] [(0, s0), (0, s1)] M := by
  unfold wp_X10_fits_56 at h
  refine am_ior (pc := 56) G dX10_fits_56 ?_
  have h := h _ rfl
  refine am_istore_n (pc := 57) G dX10_fits_57 rfl (nlx hn rfl) rfl ?_
  refine am_iinc (pc := 58) (ls := [(20, _), (0, _), (0, _), (0, _), (0, _)]) G dX10_fits_58 rfl (nlx hn rfl) rfl ?_
  refine am_goto (pc := 61) (ls := [(20, _), (0, _), (0, _), (0, _), (0, _)]) G 27 dX10_fits_61 (by decide) ?_
  refine am_le (ls' := [(20, _), (0, _), (0, _), (0, _), (0, _)]) ⟨Or.inr rfl, ⟨Or.inr rfl, ⟨Or.inr rfl, ⟨Or.inr rfl, ⟨Or.inr rfl, trivial⟩⟩⟩⟩⟩ ?_
  exact k27 _ _ _ h
def wp_X10_fits_27_b (V : VV) (x1 x2 x3 x4 : Int) (M : Mem) (Q : Int → Mem → Prop) (B27 : Int → Int → Mem → Prop) : Prop :=
  (M 203 5 ≤ x4 →
    Q x3 M) ∧ (¬ (M 203 5 ≤ x4) →
    R_X10_fitsAt V x1 x2 x4 M (fun r5 M6 =>
    (r5 = 0 →
      wp_X10_fits_56 V x1 x2 x4 0 x3 M6 Q B27) ∧ (¬ (r5 = 0) →
      wp_X10_fits_56 V x1 x2 x4 (shl32 1 x4) x3 M6 Q B27)))
theorem swp_X10_fits_27_b {X : XX} {Q : Int → Mem → Prop} (G : GX X cX10_fits "TreeHandsModel") (Z : RX X 0 Q) (hn : nLX X = 5) (hr : roomX X = rm_X10_fits) (x1 x2 x3 x4 : Int) (M : Mem) (B27 : Int → Int → Mem → Prop) (k27 : ∀ (z3 z4 : Int) (N : Mem), B27 z3 z4 N → AW X 27 [(20, 203), (0, x1), (0, x2), (0, z3), (0, z4)] [] N) (h : wp_X10_fits_27_b (vX X) x1 x2 x3 x4 M Q B27) : AW X 27 [(20, 203), (0, x1), (0, x2), (0, x3), (0, x4)] [] M := by
  unfold wp_X10_fits_27_b at h
  refine am_iload (pc := 27) G dX10_fits_27 rfl ?_
  refine am_aload_n (i := 0) (t := 17) (pc := 29) G dX10_fits_29 rfl rfl rfl ?_
  refine gf_X10_5 (pc := 30) G dX10_fits_30 tw_f_RX10_208 ?_
  refine am_icmp_ge (pc := 33) G 64 dX10_fits_33 (by decide) (fun c => ?_) (fun c => ?_)
  · have h := h.1 c
    refine am_iload_n (i := 3) (pc := 64) G dX10_fits_64 rfl rfl ?_
    exact am_iret (pc := 65) G Z dX10_fits_65 h
  · have h := h.2 c
    refine am_iload_n (i := 3) (pc := 36) G dX10_fits_36 rfl rfl ?_
    refine am_aload_n (i := 0) (t := 17) (pc := 37) G dX10_fits_37 rfl rfl rfl ?_
    refine am_iload_n (i := 1) (pc := 38) G dX10_fits_38 rfl rfl ?_
    refine am_iload_n (i := 2) (pc := 39) G dX10_fits_39 rfl rfl ?_
    refine am_iload (pc := 40) G dX10_fits_40 rfl ?_
    refine am_callV (rk := 1) (rmc := rm_X10_fitsAt) (st := [(0, _)]) (pc := 42) G 10 [(0, _), (0, _), (0, _)] rfl (by decide) rfl dX10_fits_42 tw_m_RX10_223 tw_i_X10_fitsAt tw_v_X10_fitsAt tw_z_RX10 tw_c_X10_fitsAt hy_X10_fitsAt (callrm hr rfl) rfl (RunsM.mono h (fun r5 M6 h => ?_)) Z.rm
    show AW X 45 _ [(0, _), (0, _)] M6
    refine am_if_eq (pc := 45) G 55 dX10_fits_45 (by decide) (fun c => ?_) (fun c => ?_)
    · have h := h.1 c
      refine am_iconst (pc := 55) G dX10_fits_55 (by decide) ?_
      refine am_le (ls' := [(20, _), (0, _), (0, _), (99, 0), (0, _)]) ⟨Or.inr rfl, ⟨Or.inr rfl, ⟨Or.inr rfl, ⟨Or.inl rfl, ⟨Or.inr rfl, trivial⟩⟩⟩⟩⟩ ?_
      exact swp_X10_fits_56 G Z hn hr _ _ _ _ _ _ B27 k27 h
    · have h := h.2 c
      refine am_iconst (pc := 48) G dX10_fits_48 (by decide) ?_
      refine am_iload (pc := 49) G dX10_fits_49 rfl ?_
      refine am_ishl (pc := 51) G dX10_fits_51 ?_
      refine am_goto (pc := 52) G 56 dX10_fits_52 (by decide) ?_
      refine am_le (ls' := [(20, _), (0, _), (0, _), (99, 0), (0, _)]) ⟨Or.inr rfl, ⟨Or.inr rfl, ⟨Or.inr rfl, ⟨Or.inl rfl, ⟨Or.inr rfl, trivial⟩⟩⟩⟩⟩ ?_
      exact swp_X10_fits_56 G Z hn hr _ _ _ _ _ _ B27 k27 h
def wp_X10_fits_27 (V : VV) (x1 x2 x3 x4 : Int) (M : Mem) (Q : Int → Mem → Prop) : Prop :=
  ∃ (I : Int → Int → Mem → Prop) (μ : Int → Int → Mem → Nat), I x3 x4 M ∧ ∀ (y3 y4 : Int) (N : Mem), I y3 y4 N → wp_X10_fits_27_b V x1 x2 y3 y4 N Q (fun z3 z4 N1 => I z3 z4 N1 ∧ μ z3 z4 N1 < μ y3 y4 N)
theorem swp_X10_fits_27 {X : XX} {Q : Int → Mem → Prop} (G : GX X cX10_fits "TreeHandsModel") (Z : RX X 0 Q) (hn : nLX X = 5) (hr : roomX X = rm_X10_fits) (x1 x2 x3 x4 : Int) (M : Mem) (h : wp_X10_fits_27 (vX X) x1 x2 x3 x4 M Q) : AW X 27 [(20, 203), (0, x1), (0, x2), (0, x3), (0, x4)] [] M := by
  unfold wp_X10_fits_27 at h
  obtain ⟨I, μ, hI, hs⟩ := h
  have key : ∀ (n : Nat) (y3 y4 : Int) (N : Mem), μ y3 y4 N < n → I y3 y4 N → AW X 27 [(20, 203), (0, x1), (0, x2), (0, y3), (0, y4)] [] N := by
    intro n
    induction n with
    | zero => intro y3 y4 N hlt; exact absurd hlt (Nat.not_lt_zero _)
    | succ n ih =>
      intro y3 y4 N hlt hI
      exact swp_X10_fits_27_b G Z hn hr x1 x2 y3 y4 N (fun z3 z4 N1 => I z3 z4 N1 ∧ μ z3 z4 N1 < μ y3 y4 N) (fun z3 z4 N1 hz => ih z3 z4 N1 (by omega) hz.1) (hs y3 y4 N hI)
  exact key _ x3 x4 M (Nat.lt_succ_self _) hI
def wp_X10_fits (V : VV) (x1 x2 : Int) (M : Mem) (Q : Int → Mem → Prop) : Prop :=
  R_X10_isNode V x1 x2 M (fun r1 M2 =>
  (r1 = 0 →
    Q (-1) M2) ∧ (¬ (r1 = 0) →
    R_X10_isPlain V x1 M2 (fun r3 M4 =>
    (r3 = 0 →
      Q (-3) M4) ∧ (¬ (r3 = 0) →
      wp_X10_fits_27 V x1 x2 0 0 M4 Q))))
theorem of_X10_fits {V : VV} {x1 x2 : Int} {M : Mem} {Q : Int → Mem → Prop} (h : wp_X10_fits V x1 x2 M Q) : R_X10_fits V x1 x2 M Q := by
  refine met_in (own := "TreeHandsModel") (by decide +kernel) rfl rfl (Nat.le_of_ble_eq_true rfl) ?_
  intro X G Z hn hr hv
  subst hv
  unfold wp_X10_fits at h
  show AW X 0 [(20, 203), (0, x1), (0, x2), (99, 0), (99, 0)] [] M
  refine am_aload_n (i := 0) (t := 17) (pc := 0) G dX10_fits_0 rfl rfl rfl ?_
  refine am_iload_n (i := 1) (pc := 1) G dX10_fits_1 rfl rfl ?_
  refine am_iload_n (i := 2) (pc := 2) G dX10_fits_2 rfl rfl ?_
  refine am_callV (rk := 1) (rmc := rm_X10_isNode) (st := []) (pc := 3) G 10 [(0, _), (0, _)] rfl (by decide) rfl dX10_fits_3 tw_m_RX10_132 tw_i_X10_isNode tw_v_X10_isNode tw_z_RX10 tw_c_X10_isNode hy_X10_isNode (callrm hr rfl) rfl (RunsM.mono h (fun r1 M2 h => ?_)) Z.rm
  show AW X 6 _ [(0, _)] M2
  refine am_if_ne (pc := 6) G 11 dX10_fits_6 (by decide) (fun c => ?_) (fun c => ?_)
  · have h := h.2 c
    refine am_aload_n (i := 0) (t := 17) (pc := 11) G dX10_fits_11 rfl rfl rfl ?_
    refine am_iload_n (i := 1) (pc := 12) G dX10_fits_12 rfl rfl ?_
    refine am_callV (rk := 1) (rmc := rm_X10_isPlain) (st := []) (pc := 13) G 10 [(0, _)] rfl (by decide) rfl dX10_fits_13 tw_m_RX10_205 tw_i_X10_isPlain tw_v_X10_isPlain tw_z_RX10 tw_c_X10_isPlain hy_X10_isPlain (callrm hr rfl) rfl (RunsM.mono h (fun r3 M4 h => ?_)) Z.rm
    show AW X 16 _ [(0, _)] M4
    refine am_if_ne (pc := 16) G 22 dX10_fits_16 (by decide) (fun c => ?_) (fun c => ?_)
    · have h := h.2 c
      refine am_iconst (pc := 22) G dX10_fits_22 (by decide) ?_
      refine am_istore_n (pc := 23) G dX10_fits_23 rfl (nlx hn rfl) rfl ?_
      refine am_iconst (pc := 24) (ls := [(20, _), (0, _), (0, _), (0, _), (99, _)]) G dX10_fits_24 (by decide) ?_
      refine am_istore (pc := 25) G dX10_fits_25 (nlx hn rfl) rfl ?_
      refine am_le (ls' := [(20, _), (0, _), (0, _), (0, _), (0, _)]) ⟨Or.inr rfl, ⟨Or.inr rfl, ⟨Or.inr rfl, ⟨Or.inr rfl, ⟨Or.inr rfl, trivial⟩⟩⟩⟩⟩ ?_
      exact swp_X10_fits_27 G Z hn hr _ _ _ _ _ h
    · have h := h.1 c
      refine am_bipush (pc := 19) G dX10_fits_19 (by decide) (by decide) ?_
      exact am_iret (pc := 21) G Z dX10_fits_21 h
  · have h := h.1 c
    refine am_iconst (pc := 9) G dX10_fits_9 (by decide) ?_
    exact am_iret (pc := 10) G Z dX10_fits_10 h
-- X10_make TreeHandsModel.make(III)I
def rm_X10_make : Room := { frames := 3, cells := 0, slots := 0, locals := 79 }
theorem hy_X10_make : yX10_make.cls ≠ "java/lang/invoke/MethodHandle" ∧ yX10_make.cls ≠ "java/lang/invoke/VarHandle" ∧ (parseMethodDescriptor yX10_make.desc).map (fun d => d.parameters.length) = some 3 := by decide +kernel
abbrev R_X10_make (V : VV) (x1 x2 x3 : Int) (M : Mem) (Q : Int → Mem → Prop) : Prop := RunsM V yX10_make (.code yX10_make cX10_make 4 (Option.some Jvm.ClassFile.FieldType.int)) rm_X10_make 0 [(20, 203), (0, x1), (0, x2), (0, x3)] M Q
def wp_X10_make (V : VV) (x1 x2 x3 : Int) (M : Mem) (Q : Int → Mem → Prop) : Prop :=
  R_X10_isNode V x1 x2 M (fun r1 M2 =>
  (r1 = 0 →
    Q (-1) M2) ∧ (¬ (r1 = 0) →
    R_X10_in V x3 0 (w32 (M2 203 5 - 1)) M2 (fun r3 M4 =>
    (r3 = 0 →
      Q (-1) M4) ∧ (¬ (r3 = 0) →
      R_X10_isPlain V x1 M4 (fun r5 M6 =>
      (r5 = 0 →
        Q (-3) M6) ∧ (¬ (r5 = 0) →
        R_X10_fitsAt V x1 x2 x3 M6 (fun r7 M8 =>
        (r7 = 0 →
          Q (-5) M8) ∧ (¬ (r7 = 0) →
          R_X10_makes V x1 x2 x3 M8 (fun r9 M10 =>
          (r9 = 0 →
            Q (-4) M10) ∧ (¬ (r9 = 0) →
            ((0 : Int) ≤ x1 ∧ x1 < (21 : Int)) ∧
            Q (M10 204 x1) M10))))))))))
theorem of_X10_make {V : VV} {x1 x2 x3 : Int} {M : Mem} {Q : Int → Mem → Prop} (h : wp_X10_make V x1 x2 x3 M Q) : R_X10_make V x1 x2 x3 M Q := by
  refine met_in (own := "TreeHandsModel") (by decide +kernel) rfl rfl (Nat.le_of_ble_eq_true rfl) ?_
  intro X G Z hn hr hv
  subst hv
  unfold wp_X10_make at h
  show AW X 0 [(20, 203), (0, x1), (0, x2), (0, x3)] [] M
  refine am_aload_n (i := 0) (t := 17) (pc := 0) G dX10_make_0 rfl rfl rfl ?_
  refine am_iload_n (i := 1) (pc := 1) G dX10_make_1 rfl rfl ?_
  refine am_iload_n (i := 2) (pc := 2) G dX10_make_2 rfl rfl ?_
  refine am_callV (rk := 1) (rmc := rm_X10_isNode) (st := []) (pc := 3) G 10 [(0, _), (0, _)] rfl (by decide) rfl dX10_make_3 tw_m_RX10_132 tw_i_X10_isNode tw_v_X10_isNode tw_z_RX10 tw_c_X10_isNode hy_X10_isNode (callrm hr rfl) rfl (RunsM.mono h (fun r1 M2 h => ?_)) Z.rm
  show AW X 6 _ [(0, _)] M2
  refine am_if_eq (pc := 6) G 23 dX10_make_6 (by decide) (fun c => ?_) (fun c => ?_)
  · have h := h.1 c
    refine am_iconst (pc := 23) G dX10_make_23 (by decide) ?_
    exact am_iret (pc := 24) G Z dX10_make_24 h
  · have h := h.2 c
    refine am_iload_n (i := 3) (pc := 9) G dX10_make_9 rfl rfl ?_
    refine am_iconst (pc := 10) G dX10_make_10 (by decide) ?_
    refine am_aload_n (i := 0) (t := 17) (pc := 11) G dX10_make_11 rfl rfl rfl ?_
    refine gf_X10_5 (pc := 12) G dX10_make_12 tw_f_RX10_208 ?_
    refine am_iconst (pc := 15) G dX10_make_15 (by decide) ?_
    refine am_isub (pc := 16) G dX10_make_16 ?_
    refine am_callS (rk := 1) (rmc := rm_X10_in) (st := []) (pc := 17) G [(0, _), (0, _), (0, _)] dX10_make_17 tw_m_RX10_110 tw_s_X10_in tw_z_RX10 tw_c_X10_in hy_X10_in (callrm hr rfl) rfl (RunsM.mono h (fun r3 M4 h => ?_)) Z.rm
    show AW X 20 _ [(0, _)] M4
    refine am_if_ne (pc := 20) G 25 dX10_make_20 (by decide) (fun c => ?_) (fun c => ?_)
    · have h := h.2 c
      refine am_aload_n (i := 0) (t := 17) (pc := 25) G dX10_make_25 rfl rfl rfl ?_
      refine am_iload_n (i := 1) (pc := 26) G dX10_make_26 rfl rfl ?_
      refine am_callV (rk := 1) (rmc := rm_X10_isPlain) (st := []) (pc := 27) G 10 [(0, _)] rfl (by decide) rfl dX10_make_27 tw_m_RX10_205 tw_i_X10_isPlain tw_v_X10_isPlain tw_z_RX10 tw_c_X10_isPlain hy_X10_isPlain (callrm hr rfl) rfl (RunsM.mono h (fun r5 M6 h => ?_)) Z.rm
      show AW X 30 _ [(0, _)] M6
      refine am_if_ne (pc := 30) G 36 dX10_make_30 (by decide) (fun c => ?_) (fun c => ?_)
      · have h := h.2 c
        refine am_aload_n (i := 0) (t := 17) (pc := 36) G dX10_make_36 rfl rfl rfl ?_
        refine am_iload_n (i := 1) (pc := 37) G dX10_make_37 rfl rfl ?_
        refine am_iload_n (i := 2) (pc := 38) G dX10_make_38 rfl rfl ?_
        refine am_iload_n (i := 3) (pc := 39) G dX10_make_39 rfl rfl ?_
        refine am_callV (rk := 1) (rmc := rm_X10_fitsAt) (st := []) (pc := 40) G 10 [(0, _), (0, _), (0, _)] rfl (by decide) rfl dX10_make_40 tw_m_RX10_223 tw_i_X10_fitsAt tw_v_X10_fitsAt tw_z_RX10 tw_c_X10_fitsAt hy_X10_fitsAt (callrm hr rfl) rfl (RunsM.mono h (fun r7 M8 h => ?_)) Z.rm
        show AW X 43 _ [(0, _)] M8
        refine am_if_ne (pc := 43) G 49 dX10_make_43 (by decide) (fun c => ?_) (fun c => ?_)
        · have h := h.2 c
          refine am_aload_n (i := 0) (t := 17) (pc := 49) G dX10_make_49 rfl rfl rfl ?_
          refine am_iload_n (i := 1) (pc := 50) G dX10_make_50 rfl rfl ?_
          refine am_iload_n (i := 2) (pc := 51) G dX10_make_51 rfl rfl ?_
          refine am_iload_n (i := 3) (pc := 52) G dX10_make_52 rfl rfl ?_
          refine am_callV (rk := 1) (rmc := rm_X10_makes) (st := []) (pc := 53) G 10 [(0, _), (0, _), (0, _)] rfl (by decide) rfl dX10_make_53 tw_m_RX10_226 tw_i_X10_makes tw_v_X10_makes tw_z_RX10 tw_c_X10_makes hy_X10_makes (callrm hr rfl) rfl (RunsM.mono h (fun r9 M10 h => ?_)) Z.rm
          show AW X 56 _ [(0, _)] M10
          refine am_if_eq (pc := 56) G 68 dX10_make_56 (by decide) (fun c => ?_) (fun c => ?_)
          · have h := h.1 c
            refine am_bipush (pc := 68) G dX10_make_68 (by decide) (by decide) ?_
            exact am_iret (pc := 70) G Z dX10_make_70 h
          · have h := h.2 c
            refine am_aload_n (i := 0) (t := 17) (pc := 59) G dX10_make_59 rfl rfl rfl ?_
            refine gf_X10_0 (pc := 60) G dX10_make_60 tw_f_RX10_7 ?_
            refine am_iload_n (i := 1) (pc := 63) G dX10_make_63 rfl rfl ?_
            refine am_iald (pc := 64) G 21 dX10_make_64 (by decide) h.1 ?_
            have h := h.2
            refine am_goto (pc := 65) G 70 dX10_make_65 (by decide) ?_
            exact am_iret (pc := 70) G Z dX10_make_70 h
        · have h := h.1 c
          refine am_bipush (pc := 46) G dX10_make_46 (by decide) (by decide) ?_
          exact am_iret (pc := 48) G Z dX10_make_48 h
      · have h := h.1 c
        refine am_bipush (pc := 33) G dX10_make_33 (by decide) (by decide) ?_
        exact am_iret (pc := 35) G Z dX10_make_35 h
    · have h := h.1 c
      refine am_iconst (pc := 23) G dX10_make_23 (by decide) ?_
      exact am_iret (pc := 24) G Z dX10_make_24 h
-- X10_keep TreeHandsModel.keep(I)V
def rm_X10_keep : Room := { frames := 0, cells := 0, slots := 0, locals := 0 }
theorem hy_X10_keep : yX10_keep.cls ≠ "java/lang/invoke/MethodHandle" ∧ yX10_keep.cls ≠ "java/lang/invoke/VarHandle" ∧ (parseMethodDescriptor yX10_keep.desc).map (fun d => d.parameters.length) = some 1 := by decide +kernel
abbrev R_X10_keep (V : VV) (x1 : Int) (M : Mem) (Q : Int → Mem → Prop) : Prop := RunsM V yX10_keep (.code yX10_keep cX10_keep 3 (Option.none : Option Jvm.ClassFile.FieldType)) rm_X10_keep 4 [(20, 203), (0, x1)] M Q
def wp_X10_keep_17_b (V : VV) (x1 x2 : Int) (M : Mem) (Q : Int → Mem → Prop) (B17 : Int → Mem → Prop) : Prop :=
  ((0 : Int) ≤ x1 ∧ x1 < (21 : Int)) ∧
  (M 204 x1 ≤ x2 →
    Q 0 M) ∧ (¬ (M 204 x1 ≤ x2) →
    ((0 : Int) ≤ w32 (w32 (32 * x1) + x2) ∧ w32 (w32 (32 * x1) + x2) < (672 : Int)) ∧
    ((0 : Int) ≤ w32 (w32 (16 * M 203 37) + x2) ∧ w32 (w32 (16 * M 203 37) + x2) < (1616 : Int)) ∧
    ∀ M1 : Mem, M1 = mset M 230 (w32 (w32 (16 * M 203 37) + x2)) (M 205 (w32 (w32 (32 * x1) + x2))) →
    ((0 : Int) ≤ w32 (w32 (32 * x1) + x2) ∧ w32 (w32 (32 * x1) + x2) < (672 : Int)) ∧
    ((0 : Int) ≤ w32 (w32 (16 * M1 203 37) + x2) ∧ w32 (w32 (16 * M1 203 37) + x2) < (1616 : Int)) ∧
    B17 (w32 (x2 + 1)) (mset M1 231 (w32 (w32 (16 * M1 203 37) + x2)) (M1 206 (w32 (w32 (32 * x1) + x2)))))
theorem swp_X10_keep_17_b {X : XX} {Q : Int → Mem → Prop} (G : GX X cX10_keep "TreeHandsModel") (Z : RX X 4 Q) (hn : nLX X = 3) (hr : roomX X = rm_X10_keep) (x1 x2 : Int) (M : Mem) (B17 : Int → Mem → Prop) (k17 : ∀ (z2 : Int) (N : Mem), B17 z2 N → AW X 17 [(20, 203), (0, x1), (0, z2)] [] N) (h : wp_X10_keep_17_b (vX X) x1 x2 M Q B17) : AW X 17 [(20, 203), (0, x1), (0, x2)] [] M := by
  unfold wp_X10_keep_17_b at h
  refine am_iload_n (i := 2) (pc := 17) G dX10_keep_17 rfl rfl ?_
  refine am_aload_n (i := 0) (t := 17) (pc := 18) G dX10_keep_18 rfl rfl rfl ?_
  refine gf_X10_0 (pc := 19) G dX10_keep_19 tw_f_RX10_7 ?_
  refine am_iload_n (i := 1) (pc := 22) G dX10_keep_22 rfl rfl ?_
  refine am_iald (pc := 23) G 21 dX10_keep_23 (by decide) h.1 ?_
  have h := h.2
  refine am_icmp_ge (pc := 24) G 83 dX10_keep_24 (by decide) (fun c => ?_) (fun c => ?_)
  · have h := h.1 c
    exact am_vret (pc := 83) G Z dX10_keep_83 h
  · have h := h.2 c
    refine am_aload_n (i := 0) (t := 17) (pc := 27) G dX10_keep_27 rfl rfl rfl ?_
    refine gf_X10_35 (pc := 28) G dX10_keep_28 tw_f_RX10_88 ?_
    refine am_bipush (pc := 31) G dX10_keep_31 (by decide) (by decide) ?_
    refine am_aload_n (i := 0) (t := 17) (pc := 33) G dX10_keep_33 rfl rfl rfl ?_
    refine gf_X10_37 (pc := 34) G dX10_keep_34 tw_f_RX10_229 ?_
    refine am_imul (pc := 37) G dX10_keep_37 ?_
    refine am_iload_n (i := 2) (pc := 38) G dX10_keep_38 rfl rfl ?_
    refine am_iadd (pc := 39) G dX10_keep_39 ?_
    refine am_aload_n (i := 0) (t := 17) (pc := 40) G dX10_keep_40 rfl rfl rfl ?_
    refine gf_X10_1 (pc := 41) G dX10_keep_41 tw_f_RX10_13 ?_
    refine am_bipush (pc := 44) G dX10_keep_44 (by decide) (by decide) ?_
    refine am_iload_n (i := 1) (pc := 46) G dX10_keep_46 rfl rfl ?_
    refine am_imul (pc := 47) G dX10_keep_47 ?_
    refine am_iload_n (i := 2) (pc := 48) G dX10_keep_48 rfl rfl ?_
    refine am_iadd (pc := 49) G dX10_keep_49 ?_
    refine am_iald (pc := 50) G 672 dX10_keep_50 (by decide) h.1 ?_
    have h := h.2
    refine am_iast (pc := 51) G 1616 dX10_keep_51 (by decide) h.1 ?_
    have h := h.2
    refine am_aload_n (i := 0) (t := 17) (pc := 52) G dX10_keep_52 rfl rfl rfl ?_
    refine gf_X10_36 (pc := 53) G dX10_keep_53 tw_f_RX10_91 ?_
    refine am_bipush (pc := 56) G dX10_keep_56 (by decide) (by decide) ?_
    refine am_aload_n (i := 0) (t := 17) (pc := 58) G dX10_keep_58 rfl rfl rfl ?_
    have h := h _ rfl
    refine gf_X10_37 (pc := 59) G dX10_keep_59 tw_f_RX10_229 ?_
    refine am_imul (pc := 62) G dX10_keep_62 ?_
    refine am_iload_n (i := 2) (pc := 63) G dX10_keep_63 rfl rfl ?_
    refine am_iadd (pc := 64) G dX10_keep_64 ?_
    refine am_aload_n (i := 0) (t := 17) (pc := 65) G dX10_keep_65 rfl rfl rfl ?_
    refine gf_X10_2 (pc := 66) G dX10_keep_66 tw_f_RX10_16 ?_
    refine am_bipush (pc := 69) G dX10_keep_69 (by decide) (by decide) ?_
    refine am_iload_n (i := 1) (pc := 71) G dX10_keep_71 rfl rfl ?_
    refine am_imul (pc := 72) G dX10_keep_72 ?_
    refine am_iload_n (i := 2) (pc := 73) G dX10_keep_73 rfl rfl ?_
    refine am_iadd (pc := 74) G dX10_keep_74 ?_
    refine am_iald (pc := 75) G 672 dX10_keep_75 (by decide) h.1 ?_
    have h := h.2
    refine am_iast (pc := 76) G 1616 dX10_keep_76 (by decide) h.1 ?_
    have h := h.2
    refine am_iinc (pc := 77) G dX10_keep_77 rfl (nlx hn rfl) rfl ?_
    refine am_goto (pc := 80) (ls := [(20, _), (0, _), (0, _)]) G 17 dX10_keep_80 (by decide) ?_
    refine am_le (ls' := [(20, _), (0, _), (0, _)]) ⟨Or.inr rfl, ⟨Or.inr rfl, ⟨Or.inr rfl, trivial⟩⟩⟩ ?_
    exact k17 _ _ h
def wp_X10_keep_17 (V : VV) (x1 x2 : Int) (M : Mem) (Q : Int → Mem → Prop) : Prop :=
  ∃ (I : Int → Mem → Prop) (μ : Int → Mem → Nat), I x2 M ∧ ∀ (y2 : Int) (N : Mem), I y2 N → wp_X10_keep_17_b V x1 y2 N Q (fun z2 N1 => I z2 N1 ∧ μ z2 N1 < μ y2 N)
theorem swp_X10_keep_17 {X : XX} {Q : Int → Mem → Prop} (G : GX X cX10_keep "TreeHandsModel") (Z : RX X 4 Q) (hn : nLX X = 3) (hr : roomX X = rm_X10_keep) (x1 x2 : Int) (M : Mem) (h : wp_X10_keep_17 (vX X) x1 x2 M Q) : AW X 17 [(20, 203), (0, x1), (0, x2)] [] M := by
  unfold wp_X10_keep_17 at h
  obtain ⟨I, μ, hI, hs⟩ := h
  have key : ∀ (n : Nat) (y2 : Int) (N : Mem), μ y2 N < n → I y2 N → AW X 17 [(20, 203), (0, x1), (0, y2)] [] N := by
    intro n
    induction n with
    | zero => intro y2 N hlt; exact absurd hlt (Nat.not_lt_zero _)
    | succ n ih =>
      intro y2 N hlt hI
      exact swp_X10_keep_17_b G Z hn hr x1 y2 N (fun z2 N1 => I z2 N1 ∧ μ z2 N1 < μ y2 N) (fun z2 N1 hz => ih z2 N1 (by omega) hz.1) (hs y2 N hI)
  exact key _ x2 M (Nat.lt_succ_self _) hI
def wp_X10_keep (V : VV) (x1 : Int) (M : Mem) (Q : Int → Mem → Prop) : Prop :=
  ((0 : Int) ≤ x1 ∧ x1 < (21 : Int)) ∧
  ((0 : Int) ≤ M 203 37 ∧ M 203 37 < (101 : Int)) ∧
  wp_X10_keep_17 V x1 0 (mset M 229 (M 203 37) (M 204 x1)) Q
theorem of_X10_keep {V : VV} {x1 : Int} {M : Mem} {Q : Int → Mem → Prop} (h : wp_X10_keep V x1 M Q) : R_X10_keep V x1 M Q := by
  refine met_in (own := "TreeHandsModel") (by decide +kernel) rfl rfl (Nat.le_of_ble_eq_true rfl) ?_
  intro X G Z hn hr hv
  subst hv
  unfold wp_X10_keep at h
  show AW X 0 [(20, 203), (0, x1), (99, 0)] [] M
  refine am_aload_n (i := 0) (t := 17) (pc := 0) G dX10_keep_0 rfl rfl rfl ?_
  refine gf_X10_34 (pc := 1) G dX10_keep_1 tw_f_RX10_85 ?_
  refine am_aload_n (i := 0) (t := 17) (pc := 4) G dX10_keep_4 rfl rfl rfl ?_
  refine gf_X10_37 (pc := 5) G dX10_keep_5 tw_f_RX10_229 ?_
  refine am_aload_n (i := 0) (t := 17) (pc := 8) G dX10_keep_8 rfl rfl rfl ?_
  refine gf_X10_0 (pc := 9) G dX10_keep_9 tw_f_RX10_7 ?_
  refine am_iload_n (i := 1) (pc := 12) G dX10_keep_12 rfl rfl ?_
  refine am_iald (pc := 13) G 21 dX10_keep_13 (by decide) h.1 ?_
  have h := h.2
  refine am_iast (pc := 14) G 101 dX10_keep_14 (by decide) h.1 ?_
  have h := h.2
  refine am_iconst (pc := 15) G dX10_keep_15 (by decide) ?_
  refine am_istore_n (pc := 16) G dX10_keep_16 rfl (nlx hn rfl) rfl ?_
  refine am_le (ls' := [(20, _), (0, _), (0, _)]) ⟨Or.inr rfl, ⟨Or.inr rfl, ⟨Or.inr rfl, trivial⟩⟩⟩ ?_
  exact swp_X10_keep_17 G Z hn hr _ _ _ h
-- X10_wasSo TreeHandsModel.wasSo(I)Z
def rm_X10_wasSo : Room := { frames := 0, cells := 0, slots := 0, locals := 0 }
theorem hy_X10_wasSo : yX10_wasSo.cls ≠ "java/lang/invoke/MethodHandle" ∧ yX10_wasSo.cls ≠ "java/lang/invoke/VarHandle" ∧ (parseMethodDescriptor yX10_wasSo.desc).map (fun d => d.parameters.length) = some 1 := by decide +kernel
abbrev R_X10_wasSo (V : VV) (x1 : Int) (M : Mem) (Q : Int → Mem → Prop) : Prop := RunsM V yX10_wasSo (.code yX10_wasSo cX10_wasSo 5 (Option.some Jvm.ClassFile.FieldType.boolean)) rm_X10_wasSo 1 [(20, 203), (0, x1)] M Q
def wp_X10_wasSo_115 (V : VV) (x1 x2 x3 : Int) (M : Mem) (Q : Int → Mem → Prop) (B2 : Int → Prop) : Prop :=
  (x3 = 0 →
    B2 (w32 (x2 + 1))) ∧ (¬ (x3 = 0) →
    Q 1 M)
theorem swp_X10_wasSo_115 {X : XX} {Q : Int → Mem → Prop} (G : GX X cX10_wasSo "TreeHandsModel") (Z : RX X 1 Q) (hn : nLX X = 5) (hr : roomX X = rm_X10_wasSo) (x1 x2 x3 : Int) (M : Mem) (B2 : Int → Prop) (k2 : ∀ (z2 : Int), B2 z2 → AW X 2 [(20, 203), (0, x1), (0, z2), (99, 0), (99, 0)] [] M) (h : wp_X10_wasSo_115 (vX X) x1 x2 x3 M Q B2) : AW X 115 [(20, 203), (0, x1), (0, x2), (0, x3), (99, 0)] [] M := by
  unfold wp_X10_wasSo_115 at h
  refine am_iload_n (i := 3) (pc := 115) G dX10_wasSo_115 rfl rfl ?_
  refine am_if_eq (pc := 116) G 121 dX10_wasSo_116 (by decide) (fun c => ?_) (fun c => ?_)
  · have h := h.1 c
    refine am_iinc (pc := 121) G dX10_wasSo_121 rfl (nlx hn rfl) rfl ?_
    refine am_goto (pc := 124) (ls := [(20, _), (0, _), (0, _), (0, _), (99, _)]) G 2 dX10_wasSo_124 (by decide) ?_
    refine am_le (ls' := [(20, _), (0, _), (0, _), (99, 0), (99, 0)]) ⟨Or.inr rfl, ⟨Or.inr rfl, ⟨Or.inr rfl, ⟨Or.inl rfl, ⟨Or.inl rfl, trivial⟩⟩⟩⟩⟩ ?_
    exact k2 _ h
  · have h := h.2 c
    refine am_iconst (pc := 119) G dX10_wasSo_119 (by decide) ?_
    exact am_zret (pc := 120) G Z dX10_wasSo_120 ⟨by decide, h⟩
def wp_X10_wasSo_107 (V : VV) (x1 x2 x4 : Int) (M : Mem) (Q : Int → Mem → Prop) (B2 : Int → Prop) (B34 : Int → Int → Prop) : Prop :=
  B34 0 (w32 (x4 + 1))
theorem swp_X10_wasSo_107 {X : XX} {Q : Int → Mem → Prop} (G : GX X cX10_wasSo "TreeHandsModel") (Z : RX X 1 Q) (hn : nLX X = 5) (hr : roomX X = rm_X10_wasSo) (x1 x2 x4 : Int) (M : Mem) (B2 : Int → Prop) (B34 : Int → Int → Prop) (k2 : ∀ (z2 : Int), B2 z2 → AW X 2 [(20, 203), (0, x1), (0, z2), (99, 0), (99, 0)] [] M) (k34 : ∀ (z3 z4 : Int), B34 z3 z4 → AW X 34 [(20, 203), (0, x1), (0, x2), (0, z3), (0, z4)] [] M) (h : wp_X10_wasSo_107 (vX X) x1 x2 x4 M Q B2 B34) : AW X 107 [(20, 203), (0, x1), (0, x2), (99, 0), (0, x4)] [] M := by
  unfold wp_X10_wasSo_107 at h
  refine am_iconst (pc := 107) G dX10_wasSo_107 (by decide) ?_
  refine am_istore_n (pc := 108) G dX10_wasSo_108 rfl (nlx hn rfl) rfl ?_
  refine am_iinc (pc := 109) (ls := [(20, _), (0, _), (0, _), (0, _), (0, _)]) G dX10_wasSo_109 rfl (nlx hn rfl) rfl ?_
  refine am_goto (pc := 112) (ls := [(20, _), (0, _), (0, _), (0, _), (0, _)]) G 34 dX10_wasSo_112 (by decide) ?_
  refine am_le (ls' := [(20, _), (0, _), (0, _), (0, _), (0, _)]) ⟨Or.inr rfl, ⟨Or.inr rfl, ⟨Or.inr rfl, ⟨Or.inr rfl, ⟨Or.inr rfl, trivial⟩⟩⟩⟩⟩ ?_
  exact k34 _ _ h
def wp_X10_wasSo_34_b (V : VV) (x1 x2 x3 x4 : Int) (M : Mem) (Q : Int → Mem → Prop) (B2 : Int → Prop) (B34 : Int → Int → Prop) : Prop :=
  ((0 : Int) ≤ x1 ∧ x1 < (21 : Int)) ∧
  (M 204 x1 ≤ x4 →
    wp_X10_wasSo_115 V x1 x2 x3 M Q B2) ∧ (¬ (M 204 x1 ≤ x4) →
    (x3 = 0 →
      wp_X10_wasSo_115 V x1 x2 x3 M Q B2) ∧ (¬ (x3 = 0) →
      ((0 : Int) ≤ w32 (w32 (16 * x2) + x4) ∧ w32 (w32 (16 * x2) + x4) < (1616 : Int)) ∧
      ((0 : Int) ≤ w32 (w32 (32 * x1) + x4) ∧ w32 (w32 (32 * x1) + x4) < (672 : Int)) ∧
      (M 230 (w32 (w32 (16 * x2) + x4)) = M 205 (w32 (w32 (32 * x1) + x4)) →
        ((0 : Int) ≤ w32 (w32 (16 * x2) + x4) ∧ w32 (w32 (16 * x2) + x4) < (1616 : Int)) ∧
        ((0 : Int) ≤ w32 (w32 (32 * x1) + x4) ∧ w32 (w32 (32 * x1) + x4) < (672 : Int)) ∧
        (M 231 (w32 (w32 (16 * x2) + x4)) = M 206 (w32 (w32 (32 * x1) + x4)) →
          B34 1 (w32 (x4 + 1))) ∧ (¬ (M 231 (w32 (w32 (16 * x2) + x4)) = M 206 (w32 (w32 (32 * x1) + x4))) →
          wp_X10_wasSo_107 V x1 x2 x4 M Q B2 B34)) ∧ (¬ (M 230 (w32 (w32 (16 * x2) + x4)) = M 205 (w32 (w32 (32 * x1) + x4))) →
        wp_X10_wasSo_107 V x1 x2 x4 M Q B2 B34)))
theorem swp_X10_wasSo_34_b {X : XX} {Q : Int → Mem → Prop} (G : GX X cX10_wasSo "TreeHandsModel") (Z : RX X 1 Q) (hn : nLX X = 5) (hr : roomX X = rm_X10_wasSo) (x1 x2 x3 x4 : Int) (M : Mem) (B2 : Int → Prop) (k2 : ∀ (z2 : Int), B2 z2 → AW X 2 [(20, 203), (0, x1), (0, z2), (99, 0), (99, 0)] [] M) (B34 : Int → Int → Prop) (k34 : ∀ (z3 z4 : Int), B34 z3 z4 → AW X 34 [(20, 203), (0, x1), (0, x2), (0, z3), (0, z4)] [] M) (h : wp_X10_wasSo_34_b (vX X) x1 x2 x3 x4 M Q B2 B34) : AW X 34 [(20, 203), (0, x1), (0, x2), (0, x3), (0, x4)] [] M := by
  unfold wp_X10_wasSo_34_b at h
  refine am_iload (pc := 34) G dX10_wasSo_34 rfl ?_
  refine am_aload_n (i := 0) (t := 17) (pc := 36) G dX10_wasSo_36 rfl rfl rfl ?_
  refine gf_X10_0 (pc := 37) G dX10_wasSo_37 tw_f_RX10_7 ?_
  refine am_iload_n (i := 1) (pc := 40) G dX10_wasSo_40 rfl rfl ?_
  refine am_iald (pc := 41) G 21 dX10_wasSo_41 (by decide) h.1 ?_
  have h := h.2
  refine am_icmp_ge (pc := 42) G 115 dX10_wasSo_42 (by decide) (fun c => ?_) (fun c => ?_)
  · have h := h.1 c
    refine am_le (ls' := [(20, _), (0, _), (0, _), (0, _), (99, 0)]) ⟨Or.inr rfl, ⟨Or.inr rfl, ⟨Or.inr rfl, ⟨Or.inr rfl, ⟨Or.inl rfl, trivial⟩⟩⟩⟩⟩ ?_
    exact swp_X10_wasSo_115 G Z hn hr _ _ _ _ B2 k2 h
  · have h := h.2 c
    refine am_iload_n (i := 3) (pc := 45) G dX10_wasSo_45 rfl rfl ?_
    refine am_if_eq (pc := 46) G 115 dX10_wasSo_46 (by decide) (fun c => ?_) (fun c => ?_)
    · have h := h.1 c
      refine am_le (ls' := [(20, _), (0, _), (0, _), (0, _), (99, 0)]) ⟨Or.inr rfl, ⟨Or.inr rfl, ⟨Or.inr rfl, ⟨Or.inr rfl, ⟨Or.inl rfl, trivial⟩⟩⟩⟩⟩ ?_
      exact swp_X10_wasSo_115 G Z hn hr _ _ _ _ B2 k2 h
    · have h := h.2 c
      refine am_aload_n (i := 0) (t := 17) (pc := 49) G dX10_wasSo_49 rfl rfl rfl ?_
      refine gf_X10_35 (pc := 50) G dX10_wasSo_50 tw_f_RX10_88 ?_
      refine am_bipush (pc := 53) G dX10_wasSo_53 (by decide) (by decide) ?_
      refine am_iload_n (i := 2) (pc := 55) G dX10_wasSo_55 rfl rfl ?_
      refine am_imul (pc := 56) G dX10_wasSo_56 ?_
      refine am_iload (pc := 57) G dX10_wasSo_57 rfl ?_
      refine am_iadd (pc := 59) G dX10_wasSo_59 ?_
      refine am_iald (pc := 60) G 1616 dX10_wasSo_60 (by decide) h.1 ?_
      have h := h.2
      refine am_aload_n (i := 0) (t := 17) (pc := 61) G dX10_wasSo_61 rfl rfl rfl ?_
      refine gf_X10_1 (pc := 62) G dX10_wasSo_62 tw_f_RX10_13 ?_
      refine am_bipush (pc := 65) G dX10_wasSo_65 (by decide) (by decide) ?_
      refine am_iload_n (i := 1) (pc := 67) G dX10_wasSo_67 rfl rfl ?_
      refine am_imul (pc := 68) G dX10_wasSo_68 ?_
      refine am_iload (pc := 69) G dX10_wasSo_69 rfl ?_
      refine am_iadd (pc := 71) G dX10_wasSo_71 ?_
      refine am_iald (pc := 72) G 672 dX10_wasSo_72 (by decide) h.1 ?_
      have h := h.2
      refine am_icmp_ne (pc := 73) G 107 dX10_wasSo_73 (by decide) (fun c => ?_) (fun c => ?_)
      · have h := h.2 c
        refine am_le (ls' := [(20, _), (0, _), (0, _), (99, 0), (0, _)]) ⟨Or.inr rfl, ⟨Or.inr rfl, ⟨Or.inr rfl, ⟨Or.inl rfl, ⟨Or.inr rfl, trivial⟩⟩⟩⟩⟩ ?_
        exact swp_X10_wasSo_107 G Z hn hr _ _ _ _ B2 B34 k2 k34 h
      · have h := h.1 c
        refine am_aload_n (i := 0) (t := 17) (pc := 76) G dX10_wasSo_76 rfl rfl rfl ?_
        refine gf_X10_36 (pc := 77) G dX10_wasSo_77 tw_f_RX10_91 ?_
        refine am_bipush (pc := 80) G dX10_wasSo_80 (by decide) (by decide) ?_
        refine am_iload_n (i := 2) (pc := 82) G dX10_wasSo_82 rfl rfl ?_
        refine am_imul (pc := 83) G dX10_wasSo_83 ?_
        refine am_iload (pc := 84) G dX10_wasSo_84 rfl ?_
        refine am_iadd (pc := 86) G dX10_wasSo_86 ?_
        refine am_iald (pc := 87) G 1616 dX10_wasSo_87 (by decide) h.1 ?_
        have h := h.2
        refine am_aload_n (i := 0) (t := 17) (pc := 88) G dX10_wasSo_88 rfl rfl rfl ?_
        refine gf_X10_2 (pc := 89) G dX10_wasSo_89 tw_f_RX10_16 ?_
        refine am_bipush (pc := 92) G dX10_wasSo_92 (by decide) (by decide) ?_
        refine am_iload_n (i := 1) (pc := 94) G dX10_wasSo_94 rfl rfl ?_
        refine am_imul (pc := 95) G dX10_wasSo_95 ?_
        refine am_iload (pc := 96) G dX10_wasSo_96 rfl ?_
        refine am_iadd (pc := 98) G dX10_wasSo_98 ?_
        refine am_iald (pc := 99) G 672 dX10_wasSo_99 (by decide) h.1 ?_
        have h := h.2
        refine am_icmp_ne (pc := 100) G 107 dX10_wasSo_100 (by decide) (fun c => ?_) (fun c => ?_)
        · have h := h.2 c
          refine am_le (ls' := [(20, _), (0, _), (0, _), (99, 0), (0, _)]) ⟨Or.inr rfl, ⟨Or.inr rfl, ⟨Or.inr rfl, ⟨Or.inl rfl, ⟨Or.inr rfl, trivial⟩⟩⟩⟩⟩ ?_
          exact swp_X10_wasSo_107 G Z hn hr _ _ _ _ B2 B34 k2 k34 h
        · have h := h.1 c
          refine am_iconst (pc := 103) G dX10_wasSo_103 (by decide) ?_
          refine am_goto (pc := 104) G 108 dX10_wasSo_104 (by decide) ?_
          refine am_istore_n (pc := 108) G dX10_wasSo_108 rfl (nlx hn rfl) rfl ?_
          refine am_iinc (pc := 109) (ls := [(20, _), (0, _), (0, _), (0, _), (0, _)]) G dX10_wasSo_109 rfl (nlx hn rfl) rfl ?_
          refine am_goto (pc := 112) (ls := [(20, _), (0, _), (0, _), (0, _), (0, _)]) G 34 dX10_wasSo_112 (by decide) ?_
          refine am_le (ls' := [(20, _), (0, _), (0, _), (0, _), (0, _)]) ⟨Or.inr rfl, ⟨Or.inr rfl, ⟨Or.inr rfl, ⟨Or.inr rfl, ⟨Or.inr rfl, trivial⟩⟩⟩⟩⟩ ?_
          exact k34 _ _ h
def wp_X10_wasSo_34 (V : VV) (x1 x2 x3 x4 : Int) (M : Mem) (Q : Int → Mem → Prop) (B2 : Int → Prop) : Prop :=
  ∃ (I : Int → Int → Prop) (μ : Int → Int → Nat), I x3 x4 ∧ ∀ (y3 y4 : Int), I y3 y4 → wp_X10_wasSo_34_b V x1 x2 y3 y4 M Q B2 (fun z3 z4 => I z3 z4 ∧ μ z3 z4 < μ y3 y4)
theorem swp_X10_wasSo_34 {X : XX} {Q : Int → Mem → Prop} (G : GX X cX10_wasSo "TreeHandsModel") (Z : RX X 1 Q) (hn : nLX X = 5) (hr : roomX X = rm_X10_wasSo) (x1 x2 x3 x4 : Int) (M : Mem) (B2 : Int → Prop) (k2 : ∀ (z2 : Int), B2 z2 → AW X 2 [(20, 203), (0, x1), (0, z2), (99, 0), (99, 0)] [] M) (h : wp_X10_wasSo_34 (vX X) x1 x2 x3 x4 M Q B2) : AW X 34 [(20, 203), (0, x1), (0, x2), (0, x3), (0, x4)] [] M := by
  unfold wp_X10_wasSo_34 at h
  obtain ⟨I, μ, hI, hs⟩ := h
  have key : ∀ (n : Nat) (y3 y4 : Int), μ y3 y4 < n → I y3 y4 → AW X 34 [(20, 203), (0, x1), (0, x2), (0, y3), (0, y4)] [] M := by
    intro n
    induction n with
    | zero => intro y3 y4 hlt; exact absurd hlt (Nat.not_lt_zero _)
    | succ n ih =>
      intro y3 y4 hlt hI
      exact swp_X10_wasSo_34_b G Z hn hr x1 x2 y3 y4 M B2 k2 (fun z3 z4 => I z3 z4 ∧ μ z3 z4 < μ y3 y4) (fun z3 z4 hz => ih z3 z4 (by omega) hz.1) (hs y3 y4 hI)
  exact key _ x3 x4 (Nat.lt_succ_self _) hI
def wp_X10_wasSo_30 (V : VV) (x1 x2 s0 : Int) (M : Mem) (Q : Int → Mem → Prop) (B2 : Int → Prop) : Prop :=
  wp_X10_wasSo_34 V x1 x2 s0 0 M Q B2
theorem swp_X10_wasSo_30 {X : XX} {Q : Int → Mem → Prop} (G : GX X cX10_wasSo "TreeHandsModel") (Z : RX X 1 Q) (hn : nLX X = 5) (hr : roomX X = rm_X10_wasSo) (x1 x2 s0 : Int) (M : Mem) (B2 : Int → Prop) (k2 : ∀ (z2 : Int), B2 z2 → AW X 2 [(20, 203), (0, x1), (0, z2), (99, 0), (99, 0)] [] M) (h : wp_X10_wasSo_30 (vX X) x1 x2 s0 M Q B2) : AW X 30 [(20, 203), (0, x1), (0, x2), (99, 0), (99, 0)] [(0, s0)] M := by
  unfold wp_X10_wasSo_30 at h
  refine am_istore_n (pc := 30) G dX10_wasSo_30 rfl (nlx hn rfl) rfl ?_
  refine am_iconst (pc := 31) (ls := [(20, _), (0, _), (0, _), (0, _), (99, _)]) G dX10_wasSo_31 (by decide) ?_
  refine am_istore (pc := 32) G dX10_wasSo_32 (nlx hn rfl) rfl ?_
  refine am_le (ls' := [(20, _), (0, _), (0, _), (0, _), (0, _)]) ⟨Or.inr rfl, ⟨Or.inr rfl, ⟨Or.inr rfl, ⟨Or.inr rfl, ⟨Or.inr rfl, trivial⟩⟩⟩⟩⟩ ?_
  exact swp_X10_wasSo_34 G Z hn hr _ _ _ _ _ B2 k2 h
def wp_X10_wasSo_2_b (V : VV) (x1 x2 : Int) (M : Mem) (Q : Int → Mem → Prop) (B2 : Int → Prop) : Prop :=
  (M 203 37 ≤ x2 →
    Q 0 M) ∧ (¬ (M 203 37 ≤ x2) →
    ((0 : Int) ≤ x2 ∧ x2 < (101 : Int)) ∧
    ((0 : Int) ≤ x1 ∧ x1 < (21 : Int)) ∧
    (M 229 x2 = M 204 x1 →
      wp_X10_wasSo_30 V x1 x2 1 M Q B2) ∧ (¬ (M 229 x2 = M 204 x1) →
      wp_X10_wasSo_30 V x1 x2 0 M Q B2))
theorem swp_X10_wasSo_2_b {X : XX} {Q : Int → Mem → Prop} (G : GX X cX10_wasSo "TreeHandsModel") (Z : RX X 1 Q) (hn : nLX X = 5) (hr : roomX X = rm_X10_wasSo) (x1 x2 : Int) (M : Mem) (B2 : Int → Prop) (k2 : ∀ (z2 : Int), B2 z2 → AW X 2 [(20, 203), (0, x1), (0, z2), (99, 0), (99, 0)] [] M) (h : wp_X10_wasSo_2_b (vX X) x1 x2 M Q B2) : AW X 2 [(20, 203), (0, x1), (0, x2), (99, 0), (99, 0)] [] M := by
  unfold wp_X10_wasSo_2_b at h
  refine am_iload_n (i := 2) (pc := 2) G dX10_wasSo_2 rfl rfl ?_
  refine am_aload_n (i := 0) (t := 17) (pc := 3) G dX10_wasSo_3 rfl rfl rfl ?_
  refine gf_X10_37 (pc := 4) G dX10_wasSo_4 tw_f_RX10_229 ?_
  refine am_icmp_ge (pc := 7) G 127 dX10_wasSo_7 (by decide) (fun c => ?_) (fun c => ?_)
  · have h := h.1 c
    refine am_iconst (pc := 127) G dX10_wasSo_127 (by decide) ?_
    exact am_zret (pc := 128) G Z dX10_wasSo_128 ⟨by decide, h⟩
  · have h := h.2 c
    refine am_aload_n (i := 0) (t := 17) (pc := 10) G dX10_wasSo_10 rfl rfl rfl ?_
    refine gf_X10_34 (pc := 11) G dX10_wasSo_11 tw_f_RX10_85 ?_
    refine am_iload_n (i := 2) (pc := 14) G dX10_wasSo_14 rfl rfl ?_
    refine am_iald (pc := 15) G 101 dX10_wasSo_15 (by decide) h.1 ?_
    have h := h.2
    refine am_aload_n (i := 0) (t := 17) (pc := 16) G dX10_wasSo_16 rfl rfl rfl ?_
    refine gf_X10_0 (pc := 17) G dX10_wasSo_17 tw_f_RX10_7 ?_
    refine am_iload_n (i := 1) (pc := 20) G dX10_wasSo_20 rfl rfl ?_
    refine am_iald (pc := 21) G 21 dX10_wasSo_21 (by decide) h.1 ?_
    have h := h.2
    refine am_icmp_ne (pc := 22) G 29 dX10_wasSo_22 (by decide) (fun c => ?_) (fun c => ?_)
    · have h := h.2 c
      refine am_iconst (pc := 29) G dX10_wasSo_29 (by decide) ?_
      refine am_le (ls' := [(20, _), (0, _), (0, _), (99, 0), (99, 0)]) ⟨Or.inr rfl, ⟨Or.inr rfl, ⟨Or.inr rfl, ⟨Or.inl rfl, ⟨Or.inl rfl, trivial⟩⟩⟩⟩⟩ ?_
      exact swp_X10_wasSo_30 G Z hn hr _ _ _ _ B2 k2 h
    · have h := h.1 c
      refine am_iconst (pc := 25) G dX10_wasSo_25 (by decide) ?_
      refine am_goto (pc := 26) G 30 dX10_wasSo_26 (by decide) ?_
      refine am_le (ls' := [(20, _), (0, _), (0, _), (99, 0), (99, 0)]) ⟨Or.inr rfl, ⟨Or.inr rfl, ⟨Or.inr rfl, ⟨Or.inl rfl, ⟨Or.inl rfl, trivial⟩⟩⟩⟩⟩ ?_
      exact swp_X10_wasSo_30 G Z hn hr _ _ _ _ B2 k2 h
def wp_X10_wasSo_2 (V : VV) (x1 x2 : Int) (M : Mem) (Q : Int → Mem → Prop) : Prop :=
  ∃ (I : Int → Prop) (μ : Int → Nat), I x2 ∧ ∀ (y2 : Int), I y2 → wp_X10_wasSo_2_b V x1 y2 M Q (fun z2 => I z2 ∧ μ z2 < μ y2)
theorem swp_X10_wasSo_2 {X : XX} {Q : Int → Mem → Prop} (G : GX X cX10_wasSo "TreeHandsModel") (Z : RX X 1 Q) (hn : nLX X = 5) (hr : roomX X = rm_X10_wasSo) (x1 x2 : Int) (M : Mem) (h : wp_X10_wasSo_2 (vX X) x1 x2 M Q) : AW X 2 [(20, 203), (0, x1), (0, x2), (99, 0), (99, 0)] [] M := by
  unfold wp_X10_wasSo_2 at h
  obtain ⟨I, μ, hI, hs⟩ := h
  have key : ∀ (n : Nat) (y2 : Int), μ y2 < n → I y2 → AW X 2 [(20, 203), (0, x1), (0, y2), (99, 0), (99, 0)] [] M := by
    intro n
    induction n with
    | zero => intro y2 hlt; exact absurd hlt (Nat.not_lt_zero _)
    | succ n ih =>
      intro y2 hlt hI
      exact swp_X10_wasSo_2_b G Z hn hr x1 y2 M (fun z2 => I z2 ∧ μ z2 < μ y2) (fun z2 hz => ih z2 (by omega) hz.1) (hs y2 hI)
  exact key _ x2 (Nat.lt_succ_self _) hI
def wp_X10_wasSo (V : VV) (x1 : Int) (M : Mem) (Q : Int → Mem → Prop) : Prop :=
  wp_X10_wasSo_2 V x1 0 M Q
theorem of_X10_wasSo {V : VV} {x1 : Int} {M : Mem} {Q : Int → Mem → Prop} (h : wp_X10_wasSo V x1 M Q) : R_X10_wasSo V x1 M Q := by
  refine met_in (own := "TreeHandsModel") (by decide +kernel) rfl rfl (Nat.le_of_ble_eq_true rfl) ?_
  intro X G Z hn hr hv
  subst hv
  unfold wp_X10_wasSo at h
  show AW X 0 [(20, 203), (0, x1), (99, 0), (99, 0), (99, 0)] [] M
  refine am_iconst (pc := 0) G dX10_wasSo_0 (by decide) ?_
  refine am_istore_n (pc := 1) G dX10_wasSo_1 rfl (nlx hn rfl) rfl ?_
  refine am_le (ls' := [(20, _), (0, _), (0, _), (99, 0), (99, 0)]) ⟨Or.inr rfl, ⟨Or.inr rfl, ⟨Or.inr rfl, ⟨Or.inl rfl, ⟨Or.inl rfl, trivial⟩⟩⟩⟩⟩ ?_
  exact swp_X10_wasSo_2 G Z hn hr _ _ _ h
-- X10_nodeAt TreeHandsModel.nodeAt(IIZ)I
def rm_X10_nodeAt : Room := { frames := 2, cells := 0, slots := 0, locals := 48 }
theorem hy_X10_nodeAt : yX10_nodeAt.cls ≠ "java/lang/invoke/MethodHandle" ∧ yX10_nodeAt.cls ≠ "java/lang/invoke/VarHandle" ∧ (parseMethodDescriptor yX10_nodeAt.desc).map (fun d => d.parameters.length) = some 3 := by decide +kernel
abbrev R_X10_nodeAt (V : VV) (x1 x2 x3 : Int) (M : Mem) (Q : Int → Mem → Prop) : Prop := RunsM V yX10_nodeAt (.code yX10_nodeAt cX10_nodeAt 5 (Option.some Jvm.ClassFile.FieldType.int)) rm_X10_nodeAt 0 [(20, 203), (0, x1), (0, x2), (0, x3)] M Q
def wp_X10_nodeAt_3_b (V : VV) (x1 x2 x3 x4 : Int) (M : Mem) (Q : Int → Mem → Prop) (B3 : Int → Mem → Prop) : Prop :=
  ((0 : Int) ≤ x1 ∧ x1 < (21 : Int)) ∧
  (M 204 x1 ≤ x4 →
    Q x2 M) ∧ (¬ (M 204 x1 ≤ x4) →
    (x3 = 0 →
      Q x2 M) ∧ (¬ (x3 = 0) →
      R_X10_sizeOf V x1 x4 M (fun r1 M2 =>
      R_X10_depthOf V x1 x4 M2 (fun r3 M4 =>
      (w32 (w32 (w32 (x4 + r1) - r3) - 1) = x2 →
        Q x4 M4) ∧ (¬ (w32 (w32 (w32 (x4 + r1) - r3) - 1) = x2) →
        B3 (w32 (x4 + 1)) M4)))))
theorem swp_X10_nodeAt_3_b {X : XX} {Q : Int → Mem → Prop} (G : GX X cX10_nodeAt "TreeHandsModel") (Z : RX X 0 Q) (hn : nLX X = 5) (hr : roomX X = rm_X10_nodeAt) (x1 x2 x3 x4 : Int) (M : Mem) (B3 : Int → Mem → Prop) (k3 : ∀ (z4 : Int) (N : Mem), B3 z4 N → AW X 3 [(20, 203), (0, x1), (0, x2), (0, x3), (0, z4)] [] N) (h : wp_X10_nodeAt_3_b (vX X) x1 x2 x3 x4 M Q B3) : AW X 3 [(20, 203), (0, x1), (0, x2), (0, x3), (0, x4)] [] M := by
  unfold wp_X10_nodeAt_3_b at h
  refine am_iload (pc := 3) G dX10_nodeAt_3 rfl ?_
  refine am_aload_n (i := 0) (t := 17) (pc := 5) G dX10_nodeAt_5 rfl rfl rfl ?_
  refine gf_X10_0 (pc := 6) G dX10_nodeAt_6 tw_f_RX10_7 ?_
  refine am_iload_n (i := 1) (pc := 9) G dX10_nodeAt_9 rfl rfl ?_
  refine am_iald (pc := 10) G 21 dX10_nodeAt_10 (by decide) h.1 ?_
  have h := h.2
  refine am_icmp_ge (pc := 11) G 51 dX10_nodeAt_11 (by decide) (fun c => ?_) (fun c => ?_)
  · have h := h.1 c
    refine am_iload_n (i := 2) (pc := 51) G dX10_nodeAt_51 rfl rfl ?_
    exact am_iret (pc := 52) G Z dX10_nodeAt_52 h
  · have h := h.2 c
    refine am_iload_n (i := 3) (pc := 14) G dX10_nodeAt_14 rfl rfl ?_
    refine am_if_eq (pc := 15) G 51 dX10_nodeAt_15 (by decide) (fun c => ?_) (fun c => ?_)
    · have h := h.1 c
      refine am_iload_n (i := 2) (pc := 51) G dX10_nodeAt_51 rfl rfl ?_
      exact am_iret (pc := 52) G Z dX10_nodeAt_52 h
    · have h := h.2 c
      refine am_iload (pc := 18) G dX10_nodeAt_18 rfl ?_
      refine am_aload_n (i := 0) (t := 17) (pc := 20) G dX10_nodeAt_20 rfl rfl rfl ?_
      refine am_iload_n (i := 1) (pc := 21) G dX10_nodeAt_21 rfl rfl ?_
      refine am_iload (pc := 22) G dX10_nodeAt_22 rfl ?_
      refine am_callV (rk := 0) (rmc := rm_X10_sizeOf) (st := [(0, _)]) (pc := 24) G 10 [(0, _), (0, _)] rfl (by decide) rfl dX10_nodeAt_24 tw_m_RX10_128 tw_i_X10_sizeOf tw_v_X10_sizeOf tw_z_RX10 tw_c_X10_sizeOf hy_X10_sizeOf (callrm hr rfl) rfl (RunsM.mono h (fun r1 M2 h => ?_)) Z.rm
      show AW X 27 _ [(0, _), (0, _)] M2
      refine am_iadd (pc := 27) G dX10_nodeAt_27 ?_
      refine am_aload_n (i := 0) (t := 17) (pc := 28) G dX10_nodeAt_28 rfl rfl rfl ?_
      refine am_iload_n (i := 1) (pc := 29) G dX10_nodeAt_29 rfl rfl ?_
      refine am_iload (pc := 30) G dX10_nodeAt_30 rfl ?_
      refine am_callV (rk := 0) (rmc := rm_X10_depthOf) (st := [(0, _)]) (pc := 32) G 10 [(0, _), (0, _)] rfl (by decide) rfl dX10_nodeAt_32 tw_m_RX10_139 tw_i_X10_depthOf tw_v_X10_depthOf tw_z_RX10 tw_c_X10_depthOf hy_X10_depthOf (callrm hr rfl) rfl (RunsM.mono h (fun r3 M4 h => ?_)) Z.rm
      show AW X 35 _ [(0, _), (0, _)] M4
      refine am_isub (pc := 35) G dX10_nodeAt_35 ?_
      refine am_iconst (pc := 36) G dX10_nodeAt_36 (by decide) ?_
      refine am_isub (pc := 37) G dX10_nodeAt_37 ?_
      refine am_iload_n (i := 2) (pc := 38) G dX10_nodeAt_38 rfl rfl ?_
      refine am_icmp_ne (pc := 39) G 45 dX10_nodeAt_39 (by decide) (fun c => ?_) (fun c => ?_)
      · have h := h.2 c
        refine am_iinc (pc := 45) G dX10_nodeAt_45 rfl (nlx hn rfl) rfl ?_
        refine am_goto (pc := 48) (ls := [(20, _), (0, _), (0, _), (0, _), (0, _)]) G 3 dX10_nodeAt_48 (by decide) ?_
        refine am_le (ls' := [(20, _), (0, _), (0, _), (0, _), (0, _)]) ⟨Or.inr rfl, ⟨Or.inr rfl, ⟨Or.inr rfl, ⟨Or.inr rfl, ⟨Or.inr rfl, trivial⟩⟩⟩⟩⟩ ?_
        exact k3 _ _ h
      · have h := h.1 c
        refine am_iload (pc := 42) G dX10_nodeAt_42 rfl ?_
        exact am_iret (pc := 44) G Z dX10_nodeAt_44 h
def wp_X10_nodeAt_3 (V : VV) (x1 x2 x3 x4 : Int) (M : Mem) (Q : Int → Mem → Prop) : Prop :=
  ∃ (I : Int → Mem → Prop) (μ : Int → Mem → Nat), I x4 M ∧ ∀ (y4 : Int) (N : Mem), I y4 N → wp_X10_nodeAt_3_b V x1 x2 x3 y4 N Q (fun z4 N1 => I z4 N1 ∧ μ z4 N1 < μ y4 N)
theorem swp_X10_nodeAt_3 {X : XX} {Q : Int → Mem → Prop} (G : GX X cX10_nodeAt "TreeHandsModel") (Z : RX X 0 Q) (hn : nLX X = 5) (hr : roomX X = rm_X10_nodeAt) (x1 x2 x3 x4 : Int) (M : Mem) (h : wp_X10_nodeAt_3 (vX X) x1 x2 x3 x4 M Q) : AW X 3 [(20, 203), (0, x1), (0, x2), (0, x3), (0, x4)] [] M := by
  unfold wp_X10_nodeAt_3 at h
  obtain ⟨I, μ, hI, hs⟩ := h
  have key : ∀ (n : Nat) (y4 : Int) (N : Mem), μ y4 N < n → I y4 N → AW X 3 [(20, 203), (0, x1), (0, x2), (0, x3), (0, y4)] [] N := by
    intro n
    induction n with
    | zero => intro y4 N hlt; exact absurd hlt (Nat.not_lt_zero _)
    | succ n ih =>
      intro y4 N hlt hI
      exact swp_X10_nodeAt_3_b G Z hn hr x1 x2 x3 y4 N (fun z4 N1 => I z4 N1 ∧ μ z4 N1 < μ y4 N) (fun z4 N1 hz => ih z4 N1 (by omega) hz.1) (hs y4 N hI)
  exact key _ x4 M (Nat.lt_succ_self _) hI
def wp_X10_nodeAt (V : VV) (x1 x2 x3 : Int) (M : Mem) (Q : Int → Mem → Prop) : Prop :=
  wp_X10_nodeAt_3 V x1 x2 x3 0 M Q
theorem of_X10_nodeAt {V : VV} {x1 x2 x3 : Int} {M : Mem} {Q : Int → Mem → Prop} (h : wp_X10_nodeAt V x1 x2 x3 M Q) : R_X10_nodeAt V x1 x2 x3 M Q := by
  refine met_in (own := "TreeHandsModel") (by decide +kernel) rfl rfl (Nat.le_of_ble_eq_true rfl) ?_
  intro X G Z hn hr hv
  subst hv
  unfold wp_X10_nodeAt at h
  show AW X 0 [(20, 203), (0, x1), (0, x2), (0, x3), (99, 0)] [] M
  refine am_iconst (pc := 0) G dX10_nodeAt_0 (by decide) ?_
  refine am_istore (pc := 1) G dX10_nodeAt_1 (nlx hn rfl) rfl ?_
  refine am_le (ls' := [(20, _), (0, _), (0, _), (0, _), (0, _)]) ⟨Or.inr rfl, ⟨Or.inr rfl, ⟨Or.inr rfl, ⟨Or.inr rfl, ⟨Or.inr rfl, trivial⟩⟩⟩⟩⟩ ?_
  exact swp_X10_nodeAt_3 G Z hn hr _ _ _ _ _ h
-- X10_walkTree TreeHandsModel.walkTree(IZ)I
def rm_X10_walkTree : Room := { frames := 3, cells := 0, slots := 0, locals := 79 }
theorem hy_X10_walkTree : yX10_walkTree.cls ≠ "java/lang/invoke/MethodHandle" ∧ yX10_walkTree.cls ≠ "java/lang/invoke/VarHandle" ∧ (parseMethodDescriptor yX10_walkTree.desc).map (fun d => d.parameters.length) = some 2 := by decide +kernel
abbrev R_X10_walkTree (V : VV) (x1 x2 : Int) (M : Mem) (Q : Int → Mem → Prop) : Prop := RunsM V yX10_walkTree (.code yX10_walkTree cX10_walkTree 8 (Option.some Jvm.ClassFile.FieldType.int)) rm_X10_walkTree 0 [(20, 203), (0, x1), (0, x2)] M Q
def wp_X10_walkTree_92 (V : VV) (x1 x2 x3 x4 : Int) (M : Mem) (Q : Int → Mem → Prop) (B10 : Mem → Prop) : Prop :=
  (0 ≤ x3 →
    (M 203 37 = 100 →
      Q 3 M) ∧ (¬ (M 203 37 = 100) →
      R_X10_makes V x1 x3 x4 M (fun r4 M5 =>
      (r4 = 0 →
        Q 2 M5) ∧ (¬ (r4 = 0) →
        ∀ M6 : Mem, M6 = mset M5 203 37 (w32 (M5 203 37 + 1)) →
        R_X10_wasSo V x1 M6 (fun r7 M8 =>
        (r7 = 0 →
          R_X10_keep V x1 M8 (fun _ M10 =>
          B10 M10)) ∧ (¬ (r7 = 0) →
          Q 1 M8)))))) ∧ (¬ (0 ≤ x3) →
    Q 0 M)
theorem swp_X10_walkTree_92 {X : XX} {Q : Int → Mem → Prop} (G : GX X cX10_walkTree "TreeHandsModel") (Z : RX X 0 Q) (hn : nLX X = 8) (hr : roomX X = rm_X10_walkTree) (x1 x2 x3 x4 : Int) (M : Mem) (B10 : Mem → Prop) (k10 : ∀ (N : Mem), B10 N → AW X 10 [(20, 203), (0, x1), (0, x2), (99, 0), (99, 0), (99, 0), (99, 0), (99, 0)] [] N) (h : wp_X10_walkTree_92 (vX X) x1 x2 x3 x4 M Q B10) : AW X 92 [(20, 203), (0, x1), (0, x2), (0, x3), (0, x4), (99, 0), (99, 0), (99, 0)] [] M := by
  unfold wp_X10_walkTree_92 at h
  refine am_iload_n (i := 3) (pc := 92) G dX10_walkTree_92 rfl rfl ?_
  refine am_if_ge (pc := 93) G 98 dX10_walkTree_93 (by decide) (fun c => ?_) (fun c => ?_)
  · have h := h.1 c
    refine am_aload_n (i := 0) (t := 17) (pc := 98) G dX10_walkTree_98 rfl rfl rfl ?_
    refine gf_X10_37 (pc := 99) G dX10_walkTree_99 tw_f_RX10_229 ?_
    refine am_bipush (pc := 102) G dX10_walkTree_102 (by decide) (by decide) ?_
    refine am_icmp_ne (pc := 104) G 109 dX10_walkTree_104 (by decide) (fun c => ?_) (fun c => ?_)
    · have h := h.2 c
      refine am_aload_n (i := 0) (t := 17) (pc := 109) G dX10_walkTree_109 rfl rfl rfl ?_
      refine am_iload_n (i := 1) (pc := 110) G dX10_walkTree_110 rfl rfl ?_
      refine am_iload_n (i := 3) (pc := 111) G dX10_walkTree_111 rfl rfl ?_
      refine am_iload (pc := 112) G dX10_walkTree_112 rfl ?_
      refine am_callV (rk := 1) (rmc := rm_X10_makes) (st := []) (pc := 114) G 10 [(0, _), (0, _), (0, _)] rfl (by decide) rfl dX10_walkTree_114 tw_m_RX10_226 tw_i_X10_makes tw_v_X10_makes tw_z_RX10 tw_c_X10_makes hy_X10_makes (callrm hr rfl) rfl (RunsM.mono h (fun r4 M5 h => ?_)) Z.rm
      show AW X 117 _ [(0, _)] M5
      refine am_if_ne (pc := 117) G 122 dX10_walkTree_117 (by decide) (fun c => ?_) (fun c => ?_)
      · have h := h.2 c
        refine am_aload_n (i := 0) (t := 17) (pc := 122) G dX10_walkTree_122 rfl rfl rfl ?_
        refine am_dup (pc := 123) G dX10_walkTree_123 (Nat.ne_of_beq_eq_false rfl) ?_
        refine gf_X10_37 (pc := 124) G dX10_walkTree_124 tw_f_RX10_229 ?_
        refine am_iconst (pc := 127) G dX10_walkTree_127 (by decide) ?_
        refine am_iadd (pc := 128) G dX10_walkTree_128 ?_
        refine pf_X10_37 (pc := 129) G dX10_walkTree_129 tw_f_RX10_229 ?_
        refine am_aload_n (i := 0) (t := 17) (pc := 132) G dX10_walkTree_132 rfl rfl rfl ?_
        refine am_iload_n (i := 1) (pc := 133) G dX10_walkTree_133 rfl rfl ?_
        have h := h _ rfl
        refine am_callV (rk := 1) (rmc := rm_X10_wasSo) (st := []) (pc := 134) G 10 [(0, _)] rfl (by decide) rfl dX10_walkTree_134 tw_m_RX10_239 tw_i_X10_wasSo tw_v_X10_wasSo tw_z_RX10 tw_c_X10_wasSo hy_X10_wasSo (callrm hr rfl) rfl (RunsM.mono h (fun r7 M8 h => ?_)) Z.rm
        show AW X 137 _ [(0, _)] M8
        refine am_if_eq (pc := 137) G 142 dX10_walkTree_137 (by decide) (fun c => ?_) (fun c => ?_)
        · have h := h.1 c
          refine am_aload_n (i := 0) (t := 17) (pc := 142) G dX10_walkTree_142 rfl rfl rfl ?_
          refine am_iload_n (i := 1) (pc := 143) G dX10_walkTree_143 rfl rfl ?_
          refine am_callV (rk := 4) (rmc := rm_X10_keep) (st := []) (pc := 144) G 10 [(0, _)] rfl (by decide) rfl dX10_walkTree_144 tw_m_RX10_232 tw_i_X10_keep tw_v_X10_keep tw_z_RX10 tw_c_X10_keep hy_X10_keep (callrm hr rfl) rfl (RunsM.mono h (fun r9 M10 h => ?_)) Z.rm
          show AW X 147 _ [] M10
          refine am_goto (pc := 147) G 10 dX10_walkTree_147 (by decide) ?_
          refine am_le (ls' := [(20, _), (0, _), (0, _), (99, 0), (99, 0), (99, 0), (99, 0), (99, 0)]) ⟨Or.inr rfl, ⟨Or.inr rfl, ⟨Or.inr rfl, ⟨Or.inl rfl, ⟨Or.inl rfl, ⟨Or.inl rfl, ⟨Or.inl rfl, ⟨Or.inl rfl, trivial⟩⟩⟩⟩⟩⟩⟩⟩ ?_
          exact k10 _ h
        · have h := h.2 c
          refine am_iconst (pc := 140) G dX10_walkTree_140 (by decide) ?_
          exact am_iret (pc := 141) G Z dX10_walkTree_141 h
      · have h := h.1 c
        refine am_iconst (pc := 120) G dX10_walkTree_120 (by decide) ?_
        exact am_iret (pc := 121) G Z dX10_walkTree_121 h
    · have h := h.1 c
      refine am_iconst (pc := 107) G dX10_walkTree_107 (by decide) ?_
      exact am_iret (pc := 108) G Z dX10_walkTree_108 h
  · have h := h.2 c
    refine am_iconst (pc := 96) G dX10_walkTree_96 (by decide) ?_
    exact am_iret (pc := 97) G Z dX10_walkTree_97 h
def wp_X10_walkTree_48_b (V : VV) (x1 x2 x3 x4 x5 x6 x7 : Int) (M : Mem) (Q : Int → Mem → Prop) (B10 : Mem → Prop) (B20 : Int → Int → Int → Mem → Prop) (B48 : Int → Int → Int → Mem → Prop) : Prop :=
  (M 203 5 ≤ x7 →
    B20 x3 x4 (w32 (x5 + 1)) M) ∧ (¬ (M 203 5 ≤ x7) →
    (0 ≤ x3 →
      B20 x3 x4 (w32 (x5 + 1)) M) ∧ (¬ (0 ≤ x3) →
      R_X10_fitsAt V x1 x6 x7 M (fun r13 M14 =>
      (r13 = 0 →
        B48 x3 x4 (w32 (x7 + 1)) M14) ∧ (¬ (r13 = 0) →
        B48 x6 x7 (w32 (x7 + 1)) M14))))
theorem swp_X10_walkTree_48_b {X : XX} {Q : Int → Mem → Prop} (G : GX X cX10_walkTree "TreeHandsModel") (Z : RX X 0 Q) (hn : nLX X = 8) (hr : roomX X = rm_X10_walkTree) (x1 x2 x3 x4 x5 x6 x7 : Int) (M : Mem) (B10 : Mem → Prop) (B20 : Int → Int → Int → Mem → Prop) (k10 : ∀ (N : Mem), B10 N → AW X 10 [(20, 203), (0, x1), (0, x2), (99, 0), (99, 0), (99, 0), (99, 0), (99, 0)] [] N) (k20 : ∀ (z3 z4 z5 : Int) (N : Mem), B20 z3 z4 z5 N → AW X 20 [(20, 203), (0, x1), (0, x2), (0, z3), (0, z4), (0, z5), (99, 0), (99, 0)] [] N) (B48 : Int → Int → Int → Mem → Prop) (k48 : ∀ (z3 z4 z7 : Int) (N : Mem), B48 z3 z4 z7 N → AW X 48 [(20, 203), (0, x1), (0, x2), (0, z3), (0, z4), (0, x5), (0, x6), (0, z7)] [] N) (h : wp_X10_walkTree_48_b (vX X) x1 x2 x3 x4 x5 x6 x7 M Q B10 B20 B48) : AW X 48 [(20, 203), (0, x1), (0, x2), (0, x3), (0, x4), (0, x5), (0, x6), (0, x7)] [] M := by
  unfold wp_X10_walkTree_48_b at h
  refine am_iload (pc := 48) G dX10_walkTree_48 rfl ?_
  refine am_aload_n (i := 0) (t := 17) (pc := 50) G dX10_walkTree_50 rfl rfl rfl ?_
  refine gf_X10_5 (pc := 51) G dX10_walkTree_51 tw_f_RX10_208 ?_
  refine am_icmp_ge (pc := 54) G 86 dX10_walkTree_54 (by decide) (fun c => ?_) (fun c => ?_)
  · have h := h.1 c
    refine am_iinc (pc := 86) G dX10_walkTree_86 rfl (nlx hn rfl) rfl ?_
    refine am_goto (pc := 89) (ls := [(20, _), (0, _), (0, _), (0, _), (0, _), (0, _), (0, _), (0, _)]) G 20 dX10_walkTree_89 (by decide) ?_
    refine am_le (ls' := [(20, _), (0, _), (0, _), (0, _), (0, _), (0, _), (99, 0), (99, 0)]) ⟨Or.inr rfl, ⟨Or.inr rfl, ⟨Or.inr rfl, ⟨Or.inr rfl, ⟨Or.inr rfl, ⟨Or.inr rfl, ⟨Or.inl rfl, ⟨Or.inl rfl, trivial⟩⟩⟩⟩⟩⟩⟩⟩ ?_
    exact k20 _ _ _ _ h
  · have h := h.2 c
    refine am_iload_n (i := 3) (pc := 57) G dX10_walkTree_57 rfl rfl ?_
    refine am_if_ge (pc := 58) G 86 dX10_walkTree_58 (by decide) (fun c => ?_) (fun c => ?_)
    · have h := h.1 c
      refine am_iinc (pc := 86) G dX10_walkTree_86 rfl (nlx hn rfl) rfl ?_
      refine am_goto (pc := 89) (ls := [(20, _), (0, _), (0, _), (0, _), (0, _), (0, _), (0, _), (0, _)]) G 20 dX10_walkTree_89 (by decide) ?_
      refine am_le (ls' := [(20, _), (0, _), (0, _), (0, _), (0, _), (0, _), (99, 0), (99, 0)]) ⟨Or.inr rfl, ⟨Or.inr rfl, ⟨Or.inr rfl, ⟨Or.inr rfl, ⟨Or.inr rfl, ⟨Or.inr rfl, ⟨Or.inl rfl, ⟨Or.inl rfl, trivial⟩⟩⟩⟩⟩⟩⟩⟩ ?_
      exact k20 _ _ _ _ h
    · have h := h.2 c
      refine am_aload_n (i := 0) (t := 17) (pc := 61) G dX10_walkTree_61 rfl rfl rfl ?_
      refine am_iload_n (i := 1) (pc := 62) G dX10_walkTree_62 rfl rfl ?_
      refine am_iload (pc := 63) G dX10_walkTree_63 rfl ?_
      refine am_iload (pc := 65) G dX10_walkTree_65 rfl ?_
      refine am_callV (rk := 1) (rmc := rm_X10_fitsAt) (st := []) (pc := 67) G 10 [(0, _), (0, _), (0, _)] rfl (by decide) rfl dX10_walkTree_67 tw_m_RX10_223 tw_i_X10_fitsAt tw_v_X10_fitsAt tw_z_RX10 tw_c_X10_fitsAt hy_X10_fitsAt (callrm hr rfl) rfl (RunsM.mono h (fun r13 M14 h => ?_)) Z.rm
      show AW X 70 _ [(0, _)] M14
      refine am_if_eq (pc := 70) G 80 dX10_walkTree_70 (by decide) (fun c => ?_) (fun c => ?_)
      · have h := h.1 c
        refine am_iinc (pc := 80) G dX10_walkTree_80 rfl (nlx hn rfl) rfl ?_
        refine am_goto (pc := 83) (ls := [(20, _), (0, _), (0, _), (0, _), (0, _), (0, _), (0, _), (0, _)]) G 48 dX10_walkTree_83 (by decide) ?_
        refine am_le (ls' := [(20, _), (0, _), (0, _), (0, _), (0, _), (0, _), (0, _), (0, _)]) ⟨Or.inr rfl, ⟨Or.inr rfl, ⟨Or.inr rfl, ⟨Or.inr rfl, ⟨Or.inr rfl, ⟨Or.inr rfl, ⟨Or.inr rfl, ⟨Or.inr rfl, trivial⟩⟩⟩⟩⟩⟩⟩⟩ ?_
        exact k48 _ _ _ _ h
      · have h := h.2 c
        refine am_iload (pc := 73) G dX10_walkTree_73 rfl ?_
        refine am_istore_n (pc := 75) G dX10_walkTree_75 rfl (nlx hn rfl) rfl ?_
        refine am_iload (pc := 76) (ls := [(20, _), (0, _), (0, _), (0, _), (0, _), (0, _), (0, _), (0, _)]) G dX10_walkTree_76 rfl ?_
        refine am_istore (pc := 78) G dX10_walkTree_78 (nlx hn rfl) rfl ?_
        refine am_iinc (pc := 80) (ls := [(20, _), (0, _), (0, _), (0, _), (0, _), (0, _), (0, _), (0, _)]) G dX10_walkTree_80 rfl (nlx hn rfl) rfl ?_
        refine am_goto (pc := 83) (ls := [(20, _), (0, _), (0, _), (0, _), (0, _), (0, _), (0, _), (0, _)]) G 48 dX10_walkTree_83 (by decide) ?_
        refine am_le (ls' := [(20, _), (0, _), (0, _), (0, _), (0, _), (0, _), (0, _), (0, _)]) ⟨Or.inr rfl, ⟨Or.inr rfl, ⟨Or.inr rfl, ⟨Or.inr rfl, ⟨Or.inr rfl, ⟨Or.inr rfl, ⟨Or.inr rfl, ⟨Or.inr rfl, trivial⟩⟩⟩⟩⟩⟩⟩⟩ ?_
        exact k48 _ _ _ _ h
def wp_X10_walkTree_48 (V : VV) (x1 x2 x3 x4 x5 x6 x7 : Int) (M : Mem) (Q : Int → Mem → Prop) (B10 : Mem → Prop) (B20 : Int → Int → Int → Mem → Prop) : Prop :=
  ∃ (I : Int → Int → Int → Mem → Prop) (μ : Int → Int → Int → Mem → Nat), I x3 x4 x7 M ∧ ∀ (y3 y4 y7 : Int) (N : Mem), I y3 y4 y7 N → wp_X10_walkTree_48_b V x1 x2 y3 y4 x5 x6 y7 N Q B10 B20 (fun z3 z4 z7 N1 => I z3 z4 z7 N1 ∧ μ z3 z4 z7 N1 < μ y3 y4 y7 N)
theorem swp_X10_walkTree_48 {X : XX} {Q : Int → Mem → Prop} (G : GX X cX10_walkTree "TreeHandsModel") (Z : RX X 0 Q) (hn : nLX X = 8) (hr : roomX X = rm_X10_walkTree) (x1 x2 x3 x4 x5 x6 x7 : Int) (M : Mem) (B10 : Mem → Prop) (B20 : Int → Int → Int → Mem → Prop) (k10 : ∀ (N : Mem), B10 N → AW X 10 [(20, 203), (0, x1), (0, x2), (99, 0), (99, 0), (99, 0), (99, 0), (99, 0)] [] N) (k20 : ∀ (z3 z4 z5 : Int) (N : Mem), B20 z3 z4 z5 N → AW X 20 [(20, 203), (0, x1), (0, x2), (0, z3), (0, z4), (0, z5), (99, 0), (99, 0)] [] N) (h : wp_X10_walkTree_48 (vX X) x1 x2 x3 x4 x5 x6 x7 M Q B10 B20) : AW X 48 [(20, 203), (0, x1), (0, x2), (0, x3), (0, x4), (0, x5), (0, x6), (0, x7)] [] M := by
  unfold wp_X10_walkTree_48 at h
  obtain ⟨I, μ, hI, hs⟩ := h
  have key : ∀ (n : Nat) (y3 y4 y7 : Int) (N : Mem), μ y3 y4 y7 N < n → I y3 y4 y7 N → AW X 48 [(20, 203), (0, x1), (0, x2), (0, y3), (0, y4), (0, x5), (0, x6), (0, y7)] [] N := by
    intro n
    induction n with
    | zero => intro y3 y4 y7 N hlt; exact absurd hlt (Nat.not_lt_zero _)
    | succ n ih =>
      intro y3 y4 y7 N hlt hI
      exact swp_X10_walkTree_48_b G Z hn hr x1 x2 y3 y4 x5 x6 y7 N B10 B20 k10 k20 (fun z3 z4 z7 N1 => I z3 z4 z7 N1 ∧ μ z3 z4 z7 N1 < μ y3 y4 y7 N) (fun z3 z4 z7 N1 hz => ih z3 z4 z7 N1 (by omega) hz.1) (hs y3 y4 y7 N hI)
  exact key _ x3 x4 x7 M (Nat.lt_succ_self _) hI
def wp_X10_walkTree_20_b (V : VV) (x1 x2 x3 x4 x5 : Int) (M : Mem) (Q : Int → Mem → Prop) (B10 : Mem → Prop) (B20 : Int → Int → Int → Mem → Prop) : Prop :=
  ((0 : Int) ≤ x1 ∧ x1 < (21 : Int)) ∧
  (M 204 x1 ≤ x5 →
    wp_X10_walkTree_92 V x1 x2 x3 x4 M Q B10) ∧ (¬ (M 204 x1 ≤ x5) →
    (0 ≤ x3 →
      wp_X10_walkTree_92 V x1 x2 x3 x4 M Q B10) ∧ (¬ (0 ≤ x3) →
      R_X10_nodeAt V x1 x5 x2 M (fun r11 M12 =>
      wp_X10_walkTree_48 V x1 x2 x3 x4 x5 r11 0 M12 Q B10 B20)))
theorem swp_X10_walkTree_20_b {X : XX} {Q : Int → Mem → Prop} (G : GX X cX10_walkTree "TreeHandsModel") (Z : RX X 0 Q) (hn : nLX X = 8) (hr : roomX X = rm_X10_walkTree) (x1 x2 x3 x4 x5 : Int) (M : Mem) (B10 : Mem → Prop) (k10 : ∀ (N : Mem), B10 N → AW X 10 [(20, 203), (0, x1), (0, x2), (99, 0), (99, 0), (99, 0), (99, 0), (99, 0)] [] N) (B20 : Int → Int → Int → Mem → Prop) (k20 : ∀ (z3 z4 z5 : Int) (N : Mem), B20 z3 z4 z5 N → AW X 20 [(20, 203), (0, x1), (0, x2), (0, z3), (0, z4), (0, z5), (99, 0), (99, 0)] [] N) (h : wp_X10_walkTree_20_b (vX X) x1 x2 x3 x4 x5 M Q B10 B20) : AW X 20 [(20, 203), (0, x1), (0, x2), (0, x3), (0, x4), (0, x5), (99, 0), (99, 0)] [] M := by
  unfold wp_X10_walkTree_20_b at h
  refine am_iload (pc := 20) G dX10_walkTree_20 rfl ?_
  refine am_aload_n (i := 0) (t := 17) (pc := 22) G dX10_walkTree_22 rfl rfl rfl ?_
  refine gf_X10_0 (pc := 23) G dX10_walkTree_23 tw_f_RX10_7 ?_
  refine am_iload_n (i := 1) (pc := 26) G dX10_walkTree_26 rfl rfl ?_
  refine am_iald (pc := 27) G 21 dX10_walkTree_27 (by decide) h.1 ?_
  have h := h.2
  refine am_icmp_ge (pc := 28) G 92 dX10_walkTree_28 (by decide) (fun c => ?_) (fun c => ?_)
  · have h := h.1 c
    refine am_le (ls' := [(20, _), (0, _), (0, _), (0, _), (0, _), (99, 0), (99, 0), (99, 0)]) ⟨Or.inr rfl, ⟨Or.inr rfl, ⟨Or.inr rfl, ⟨Or.inr rfl, ⟨Or.inr rfl, ⟨Or.inl rfl, ⟨Or.inl rfl, ⟨Or.inl rfl, trivial⟩⟩⟩⟩⟩⟩⟩⟩ ?_
    exact swp_X10_walkTree_92 G Z hn hr _ _ _ _ _ B10 k10 h
  · have h := h.2 c
    refine am_iload_n (i := 3) (pc := 31) G dX10_walkTree_31 rfl rfl ?_
    refine am_if_ge (pc := 32) G 92 dX10_walkTree_32 (by decide) (fun c => ?_) (fun c => ?_)
    · have h := h.1 c
      refine am_le (ls' := [(20, _), (0, _), (0, _), (0, _), (0, _), (99, 0), (99, 0), (99, 0)]) ⟨Or.inr rfl, ⟨Or.inr rfl, ⟨Or.inr rfl, ⟨Or.inr rfl, ⟨Or.inr rfl, ⟨Or.inl rfl, ⟨Or.inl rfl, ⟨Or.inl rfl, trivial⟩⟩⟩⟩⟩⟩⟩⟩ ?_
      exact swp_X10_walkTree_92 G Z hn hr _ _ _ _ _ B10 k10 h
    · have h := h.2 c
      refine am_aload_n (i := 0) (t := 17) (pc := 35) G dX10_walkTree_35 rfl rfl rfl ?_
      refine am_iload_n (i := 1) (pc := 36) G dX10_walkTree_36 rfl rfl ?_
      refine am_iload (pc := 37) G dX10_walkTree_37 rfl ?_
      refine am_iload_n (i := 2) (pc := 39) G dX10_walkTree_39 rfl rfl ?_
      refine am_callV (rk := 0) (rmc := rm_X10_nodeAt) (st := []) (pc := 40) G 10 [(0, _), (0, _), (0, _)] rfl (by decide) rfl dX10_walkTree_40 tw_m_RX10_235 tw_i_X10_nodeAt tw_v_X10_nodeAt tw_z_RX10 tw_c_X10_nodeAt hy_X10_nodeAt (callrm hr rfl) rfl (RunsM.mono h (fun r11 M12 h => ?_)) Z.rm
      show AW X 43 _ [(0, _)] M12
      refine am_istore (pc := 43) G dX10_walkTree_43 (nlx hn rfl) rfl ?_
      refine am_iconst (pc := 45) (ls := [(20, _), (0, _), (0, _), (0, _), (0, _), (0, _), (0, _), (99, _)]) G dX10_walkTree_45 (by decide) ?_
      refine am_istore (pc := 46) G dX10_walkTree_46 (nlx hn rfl) rfl ?_
      refine am_le (ls' := [(20, _), (0, _), (0, _), (0, _), (0, _), (0, _), (0, _), (0, _)]) ⟨Or.inr rfl, ⟨Or.inr rfl, ⟨Or.inr rfl, ⟨Or.inr rfl, ⟨Or.inr rfl, ⟨Or.inr rfl, ⟨Or.inr rfl, ⟨Or.inr rfl, trivial⟩⟩⟩⟩⟩⟩⟩⟩ ?_
      exact swp_X10_walkTree_48 G Z hn hr _ _ _ _ _ _ _ _ B10 B20 k10 k20 h
def wp_X10_walkTree_20 (V : VV) (x1 x2 x3 x4 x5 : Int) (M : Mem) (Q : Int → Mem → Prop) (B10 : Mem → Prop) : Prop :=
  ∃ (I : Int → Int → Int → Mem → Prop) (μ : Int → Int → Int → Mem → Nat), I x3 x4 x5 M ∧ ∀ (y3 y4 y5 : Int) (N : Mem), I y3 y4 y5 N → wp_X10_walkTree_20_b V x1 x2 y3 y4 y5 N Q B10 (fun z3 z4 z5 N1 => I z3 z4 z5 N1 ∧ μ z3 z4 z5 N1 < μ y3 y4 y5 N)
theorem swp_X10_walkTree_20 {X : XX} {Q : Int → Mem → Prop} (G : GX X cX10_walkTree "TreeHandsModel") (Z : RX X 0 Q) (hn : nLX X = 8) (hr : roomX X = rm_X10_walkTree) (x1 x2 x3 x4 x5 : Int) (M : Mem) (B10 : Mem → Prop) (k10 : ∀ (N : Mem), B10 N → AW X 10 [(20, 203), (0, x1), (0, x2), (99, 0), (99, 0), (99, 0), (99, 0), (99, 0)] [] N) (h : wp_X10_walkTree_20 (vX X) x1 x2 x3 x4 x5 M Q B10) : AW X 20 [(20, 203), (0, x1), (0, x2), (0, x3), (0, x4), (0, x5), (99, 0), (99, 0)] [] M := by
  unfold wp_X10_walkTree_20 at h
  obtain ⟨I, μ, hI, hs⟩ := h
  have key : ∀ (n : Nat) (y3 y4 y5 : Int) (N : Mem), μ y3 y4 y5 N < n → I y3 y4 y5 N → AW X 20 [(20, 203), (0, x1), (0, x2), (0, y3), (0, y4), (0, y5), (99, 0), (99, 0)] [] N := by
    intro n
    induction n with
    | zero => intro y3 y4 y5 N hlt; exact absurd hlt (Nat.not_lt_zero _)
    | succ n ih =>
      intro y3 y4 y5 N hlt hI
      exact swp_X10_walkTree_20_b G Z hn hr x1 x2 y3 y4 y5 N B10 k10 (fun z3 z4 z5 N1 => I z3 z4 z5 N1 ∧ μ z3 z4 z5 N1 < μ y3 y4 y5 N) (fun z3 z4 z5 N1 hz => ih z3 z4 z5 N1 (by omega) hz.1) (hs y3 y4 y5 N hI)
  exact key _ x3 x4 x5 M (Nat.lt_succ_self _) hI
def wp_X10_walkTree_10_b (V : VV) (x1 x2 : Int) (M : Mem) (Q : Int → Mem → Prop) (B10 : Mem → Prop) : Prop :=
  wp_X10_walkTree_20 V x1 x2 (-6) (-6) 0 M Q B10
theorem swp_X10_walkTree_10_b {X : XX} {Q : Int → Mem → Prop} (G : GX X cX10_walkTree "TreeHandsModel") (Z : RX X 0 Q) (hn : nLX X = 8) (hr : roomX X = rm_X10_walkTree) (x1 x2 : Int) (M : Mem) (B10 : Mem → Prop) (k10 : ∀ (N : Mem), B10 N → AW X 10 [(20, 203), (0, x1), (0, x2), (99, 0), (99, 0), (99, 0), (99, 0), (99, 0)] [] N) (h : wp_X10_walkTree_10_b (vX X) x1 x2 M Q B10) : AW X 10 [(20, 203), (0, x1), (0, x2), (99, 0), (99, 0), (99, 0), (99, 0), (99, 0)] [] M := by
  unfold wp_X10_walkTree_10_b at h
  refine am_bipush (pc := 10) G dX10_walkTree_10 (by decide) (by decide) ?_
  refine am_istore_n (pc := 12) G dX10_walkTree_12 rfl (nlx hn rfl) rfl ?_
  refine am_bipush (pc := 13) (ls := [(20, _), (0, _), (0, _), (0, _), (99, _), (99, _), (99, _), (99, _)]) G dX10_walkTree_13 (by decide) (by decide) ?_
  refine am_istore (pc := 15) G dX10_walkTree_15 (nlx hn rfl) rfl ?_
  refine am_iconst (pc := 17) (ls := [(20, _), (0, _), (0, _), (0, _), (0, _), (99, _), (99, _), (99, _)]) G dX10_walkTree_17 (by decide) ?_
  refine am_istore (pc := 18) G dX10_walkTree_18 (nlx hn rfl) rfl ?_
  refine am_le (ls' := [(20, _), (0, _), (0, _), (0, _), (0, _), (0, _), (99, 0), (99, 0)]) ⟨Or.inr rfl, ⟨Or.inr rfl, ⟨Or.inr rfl, ⟨Or.inr rfl, ⟨Or.inr rfl, ⟨Or.inr rfl, ⟨Or.inl rfl, ⟨Or.inl rfl, trivial⟩⟩⟩⟩⟩⟩⟩⟩ ?_
  exact swp_X10_walkTree_20 G Z hn hr _ _ _ _ _ _ B10 k10 h
def wp_X10_walkTree_10 (V : VV) (x1 x2 : Int) (M : Mem) (Q : Int → Mem → Prop) : Prop :=
  ∃ (I : Mem → Prop) (μ : Mem → Nat), I M ∧ ∀ (N : Mem), I N → wp_X10_walkTree_10_b V x1 x2 N Q (fun N1 => I N1 ∧ μ N1 < μ N)
theorem swp_X10_walkTree_10 {X : XX} {Q : Int → Mem → Prop} (G : GX X cX10_walkTree "TreeHandsModel") (Z : RX X 0 Q) (hn : nLX X = 8) (hr : roomX X = rm_X10_walkTree) (x1 x2 : Int) (M : Mem) (h : wp_X10_walkTree_10 (vX X) x1 x2 M Q) : AW X 10 [(20, 203), (0, x1), (0, x2), (99, 0), (99, 0), (99, 0), (99, 0), (99, 0)] [] M := by
  unfold wp_X10_walkTree_10 at h
  obtain ⟨I, μ, hI, hs⟩ := h
  have key : ∀ (n : Nat) (N : Mem), μ N < n → I N → AW X 10 [(20, 203), (0, x1), (0, x2), (99, 0), (99, 0), (99, 0), (99, 0), (99, 0)] [] N := by
    intro n
    induction n with
    | zero => intro N hlt; exact absurd hlt (Nat.not_lt_zero _)
    | succ n ih =>
      intro N hlt hI
      exact swp_X10_walkTree_10_b G Z hn hr x1 x2 N (fun N1 => I N1 ∧ μ N1 < μ N) (fun N1 hz => ih N1 (by omega) hz.1) (hs N hI)
  exact key _ M (Nat.lt_succ_self _) hI
def wp_X10_walkTree (V : VV) (x1 x2 : Int) (M : Mem) (Q : Int → Mem → Prop) : Prop :=
  ∀ M1 : Mem, M1 = mset M 203 37 0 →
  R_X10_keep V x1 M1 (fun _ M3 =>
  wp_X10_walkTree_10 V x1 x2 M3 Q)
theorem of_X10_walkTree {V : VV} {x1 x2 : Int} {M : Mem} {Q : Int → Mem → Prop} (h : wp_X10_walkTree V x1 x2 M Q) : R_X10_walkTree V x1 x2 M Q := by
  refine met_in (own := "TreeHandsModel") (by decide +kernel) rfl rfl (Nat.le_of_ble_eq_true rfl) ?_
  intro X G Z hn hr hv
  subst hv
  unfold wp_X10_walkTree at h
  show AW X 0 [(20, 203), (0, x1), (0, x2), (99, 0), (99, 0), (99, 0), (99, 0), (99, 0)] [] M
  refine am_aload_n (i := 0) (t := 17) (pc := 0) G dX10_walkTree_0 rfl rfl rfl ?_
  refine am_iconst (pc := 1) G dX10_walkTree_1 (by decide) ?_
  refine pf_X10_37 (pc := 2) G dX10_walkTree_2 tw_f_RX10_229 ?_
  refine am_aload_n (i := 0) (t := 17) (pc := 5) G dX10_walkTree_5 rfl rfl rfl ?_
  refine am_iload_n (i := 1) (pc := 6) G dX10_walkTree_6 rfl rfl ?_
  have h := h _ rfl
  refine am_callV (rk := 4) (rmc := rm_X10_keep) (st := []) (pc := 7) G 10 [(0, _)] rfl (by decide) rfl dX10_walkTree_7 tw_m_RX10_232 tw_i_X10_keep tw_v_X10_keep tw_z_RX10 tw_c_X10_keep hy_X10_keep (callrm hr rfl) rfl (RunsM.mono h (fun r2 M3 h => ?_)) Z.rm
  show AW X 10 _ [] M3
  refine am_le (ls' := [(20, _), (0, _), (0, _), (99, 0), (99, 0), (99, 0), (99, 0), (99, 0)]) ⟨Or.inr rfl, ⟨Or.inr rfl, ⟨Or.inr rfl, ⟨Or.inl rfl, ⟨Or.inl rfl, ⟨Or.inl rfl, ⟨Or.inl rfl, ⟨Or.inl rfl, trivial⟩⟩⟩⟩⟩⟩⟩⟩ ?_
  exact swp_X10_walkTree_10 G Z hn hr _ _ _ h
-- X10_walk TreeHandsModel.walk(IZ)I
def rm_X10_walk : Room := { frames := 4, cells := 0, slots := 0, locals := 106 }
theorem hy_X10_walk : yX10_walk.cls ≠ "java/lang/invoke/MethodHandle" ∧ yX10_walk.cls ≠ "java/lang/invoke/VarHandle" ∧ (parseMethodDescriptor yX10_walk.desc).map (fun d => d.parameters.length) = some 2 := by decide +kernel
abbrev R_X10_walk (V : VV) (x1 x2 : Int) (M : Mem) (Q : Int → Mem → Prop) : Prop := RunsM V yX10_walk (.code yX10_walk cX10_walk 4 (Option.some Jvm.ClassFile.FieldType.int)) rm_X10_walk 0 [(20, 203), (0, x1), (0, x2)] M Q
def wp_X10_walk (V : VV) (x1 x2 : Int) (M : Mem) (Q : Int → Mem → Prop) : Prop :=
  R_X10_isTree V x1 M (fun r1 M2 =>
  (r1 = 0 →
    Q (-1) M2) ∧ (¬ (r1 = 0) →
    ((0 : Int) ≤ x1 ∧ x1 < (21 : Int)) ∧
    (M2 204 x1 = 0 →
      Q (-1) M2) ∧ (¬ (M2 204 x1 = 0) →
      R_X10_isPlain V x1 M2 (fun r3 M4 =>
      (r3 = 0 →
        Q (-3) M4) ∧ (¬ (r3 = 0) →
        R_X10_walkTree V x1 x2 M4 (fun r5 M6 =>
        Q r5 (mset M6 203 7 (M6 203 37))))))))
theorem of_X10_walk {V : VV} {x1 x2 : Int} {M : Mem} {Q : Int → Mem → Prop} (h : wp_X10_walk V x1 x2 M Q) : R_X10_walk V x1 x2 M Q := by
  refine met_in (own := "TreeHandsModel") (by decide +kernel) rfl rfl (Nat.le_of_ble_eq_true rfl) ?_
  intro X G Z hn hr hv
  subst hv
  unfold wp_X10_walk at h
  show AW X 0 [(20, 203), (0, x1), (0, x2), (99, 0)] [] M
  refine am_iload_n (i := 1) (pc := 0) G dX10_walk_0 rfl rfl ?_
  refine am_callS (rk := 1) (rmc := rm_X10_isTree) (st := []) (pc := 1) G [(0, _)] dX10_walk_1 tw_m_RX10_114 tw_s_X10_isTree tw_z_RX10 tw_c_X10_isTree hy_X10_isTree (callrm hr rfl) rfl (RunsM.mono h (fun r1 M2 h => ?_)) Z.rm
  show AW X 4 _ [(0, _)] M2
  refine am_if_eq (pc := 4) G 16 dX10_walk_4 (by decide) (fun c => ?_) (fun c => ?_)
  · have h := h.1 c
    refine am_iconst (pc := 16) G dX10_walk_16 (by decide) ?_
    exact am_iret (pc := 17) G Z dX10_walk_17 h
  · have h := h.2 c
    refine am_aload_n (i := 0) (t := 17) (pc := 7) G dX10_walk_7 rfl rfl rfl ?_
    refine gf_X10_0 (pc := 8) G dX10_walk_8 tw_f_RX10_7 ?_
    refine am_iload_n (i := 1) (pc := 11) G dX10_walk_11 rfl rfl ?_
    refine am_iald (pc := 12) G 21 dX10_walk_12 (by decide) h.1 ?_
    have h := h.2
    refine am_if_ne (pc := 13) G 18 dX10_walk_13 (by decide) (fun c => ?_) (fun c => ?_)
    · have h := h.2 c
      refine am_aload_n (i := 0) (t := 17) (pc := 18) G dX10_walk_18 rfl rfl rfl ?_
      refine am_iload_n (i := 1) (pc := 19) G dX10_walk_19 rfl rfl ?_
      refine am_callV (rk := 1) (rmc := rm_X10_isPlain) (st := []) (pc := 20) G 10 [(0, _)] rfl (by decide) rfl dX10_walk_20 tw_m_RX10_205 tw_i_X10_isPlain tw_v_X10_isPlain tw_z_RX10 tw_c_X10_isPlain hy_X10_isPlain (callrm hr rfl) rfl (RunsM.mono h (fun r3 M4 h => ?_)) Z.rm
      show AW X 23 _ [(0, _)] M4
      refine am_if_ne (pc := 23) G 29 dX10_walk_23 (by decide) (fun c => ?_) (fun c => ?_)
      · have h := h.2 c
        refine am_aload_n (i := 0) (t := 17) (pc := 29) G dX10_walk_29 rfl rfl rfl ?_
        refine am_iload_n (i := 1) (pc := 30) G dX10_walk_30 rfl rfl ?_
        refine am_iload_n (i := 2) (pc := 31) G dX10_walk_31 rfl rfl ?_
        refine am_callV (rk := 0) (rmc := rm_X10_walkTree) (st := []) (pc := 32) G 10 [(0, _), (0, _)] rfl (by decide) rfl dX10_walk_32 tw_m_RX10_242 tw_i_X10_walkTree tw_v_X10_walkTree tw_z_RX10 tw_c_X10_walkTree hy_X10_walkTree (callrm hr rfl) rfl (RunsM.mono h (fun r5 M6 h => ?_)) Z.rm
        show AW X 35 _ [(0, _)] M6
        refine am_istore_n (pc := 35) G dX10_walk_35 rfl (nlx hn rfl) rfl ?_
        refine am_aload_n (i := 0) (t := 17) (pc := 36) (ls := [(20, _), (0, _), (0, _), (0, _)]) G dX10_walk_36 rfl rfl rfl ?_
        refine am_aload_n (i := 0) (t := 17) (pc := 37) G dX10_walk_37 rfl rfl rfl ?_
        refine gf_X10_37 (pc := 38) G dX10_walk_38 tw_f_RX10_229 ?_
        refine pf_X10_7 (pc := 41) G dX10_walk_41 tw_f_RX10_106 ?_
        refine am_iload_n (i := 3) (pc := 44) G dX10_walk_44 rfl rfl ?_
        exact am_iret (pc := 45) G Z dX10_walk_45 h
      · have h := h.1 c
        refine am_bipush (pc := 26) G dX10_walk_26 (by decide) (by decide) ?_
        exact am_iret (pc := 28) G Z dX10_walk_28 h
    · have h := h.1 c
      refine am_iconst (pc := 16) G dX10_walk_16 (by decide) ?_
      exact am_iret (pc := 17) G Z dX10_walk_17 h
-- X10_steps TreeHandsModel.steps()I
def rm_X10_steps : Room := { frames := 0, cells := 0, slots := 0, locals := 0 }
theorem hy_X10_steps : yX10_steps.cls ≠ "java/lang/invoke/MethodHandle" ∧ yX10_steps.cls ≠ "java/lang/invoke/VarHandle" ∧ (parseMethodDescriptor yX10_steps.desc).map (fun d => d.parameters.length) = some 0 := by decide +kernel
abbrev R_X10_steps (V : VV) (M : Mem) (Q : Int → Mem → Prop) : Prop := RunsM V yX10_steps (.code yX10_steps cX10_steps 1 (Option.some Jvm.ClassFile.FieldType.int)) rm_X10_steps 0 [(20, 203)] M Q
def wp_X10_steps (V : VV) (M : Mem) (Q : Int → Mem → Prop) : Prop :=
  Q (M 203 7) M
theorem of_X10_steps {V : VV} {M : Mem} {Q : Int → Mem → Prop} (h : wp_X10_steps V M Q) : R_X10_steps V M Q := by
  refine met_in (own := "TreeHandsModel") (by decide +kernel) rfl rfl (Nat.le_of_ble_eq_true rfl) ?_
  intro X G Z hn hr hv
  subst hv
  unfold wp_X10_steps at h
  show AW X 0 [(20, 203)] [] M
  refine am_aload_n (i := 0) (t := 17) (pc := 0) G dX10_steps_0 rfl rfl rfl ?_
  refine gf_X10_7 (pc := 1) G dX10_steps_1 tw_f_RX10_106 ?_
  exact am_iret (pc := 4) G Z dX10_steps_4 h
-- X10_slotOf TreeHandsModel.slotOf(I)I
def rm_X10_slotOf : Room := { frames := 0, cells := 0, slots := 0, locals := 0 }
theorem hy_X10_slotOf : yX10_slotOf.cls ≠ "java/lang/invoke/MethodHandle" ∧ yX10_slotOf.cls ≠ "java/lang/invoke/VarHandle" ∧ (parseMethodDescriptor yX10_slotOf.desc).map (fun d => d.parameters.length) = some 1 := by decide +kernel
abbrev R_X10_slotOf (V : VV) (x1 : Int) (M : Mem) (Q : Int → Mem → Prop) : Prop := RunsM V yX10_slotOf (.code yX10_slotOf cX10_slotOf 2 (Option.some Jvm.ClassFile.FieldType.int)) rm_X10_slotOf 0 [(20, 203), (0, x1)] M Q
def wp_X10_slotOf (V : VV) (x1 : Int) (M : Mem) (Q : Int → Mem → Prop) : Prop :=
  (16 ≤ x1 →
    (32 ≤ x1 →
      (48 ≤ x1 →
        Q (w32 (12 + M 203 39)) M) ∧ (¬ (48 ≤ x1) →
        Q (w32 (12 + M 203 38)) M)) ∧ (¬ (32 ≤ x1) →
      Q (w32 (6 + M 203 39)) M)) ∧ (¬ (16 ≤ x1) →
    Q (w32 (6 + M 203 38)) M)
theorem of_X10_slotOf {V : VV} {x1 : Int} {M : Mem} {Q : Int → Mem → Prop} (h : wp_X10_slotOf V x1 M Q) : R_X10_slotOf V x1 M Q := by
  refine met_in (own := "TreeHandsModel") (by decide +kernel) rfl rfl (Nat.le_of_ble_eq_true rfl) ?_
  intro X G Z hn hr hv
  subst hv
  unfold wp_X10_slotOf at h
  show AW X 0 [(20, 203), (0, x1)] [] M
  refine am_iload_n (i := 1) (pc := 0) G dX10_slotOf_0 rfl rfl ?_
  refine am_bipush (pc := 1) G dX10_slotOf_1 (by decide) (by decide) ?_
  refine am_icmp_ge (pc := 3) G 16 dX10_slotOf_3 (by decide) (fun c => ?_) (fun c => ?_)
  · have h := h.1 c
    refine am_iload_n (i := 1) (pc := 16) G dX10_slotOf_16 rfl rfl ?_
    refine am_bipush (pc := 17) G dX10_slotOf_17 (by decide) (by decide) ?_
    refine am_icmp_ge (pc := 19) G 32 dX10_slotOf_19 (by decide) (fun c => ?_) (fun c => ?_)
    · have h := h.1 c
      refine am_iload_n (i := 1) (pc := 32) G dX10_slotOf_32 rfl rfl ?_
      refine am_bipush (pc := 33) G dX10_slotOf_33 (by decide) (by decide) ?_
      refine am_icmp_ge (pc := 35) G 48 dX10_slotOf_35 (by decide) (fun c => ?_) (fun c => ?_)
      · have h := h.1 c
        refine am_bipush (pc := 48) G dX10_slotOf_48 (by decide) (by decide) ?_
        refine am_aload_n (i := 0) (t := 17) (pc := 50) G dX10_slotOf_50 rfl rfl rfl ?_
        refine gf_X10_39 (pc := 51) G dX10_slotOf_51 tw_f_RX10_249 ?_
        refine am_iadd (pc := 54) G dX10_slotOf_54 ?_
        exact am_iret (pc := 55) G Z dX10_slotOf_55 h
      · have h := h.2 c
        refine am_bipush (pc := 38) G dX10_slotOf_38 (by decide) (by decide) ?_
        refine am_aload_n (i := 0) (t := 17) (pc := 40) G dX10_slotOf_40 rfl rfl rfl ?_
        refine gf_X10_38 (pc := 41) G dX10_slotOf_41 tw_f_RX10_246 ?_
        refine am_iadd (pc := 44) G dX10_slotOf_44 ?_
        refine am_goto (pc := 45) G 55 dX10_slotOf_45 (by decide) ?_
        exact am_iret (pc := 55) G Z dX10_slotOf_55 h
    · have h := h.2 c
      refine am_bipush (pc := 22) G dX10_slotOf_22 (by decide) (by decide) ?_
      refine am_aload_n (i := 0) (t := 17) (pc := 24) G dX10_slotOf_24 rfl rfl rfl ?_
      refine gf_X10_39 (pc := 25) G dX10_slotOf_25 tw_f_RX10_249 ?_
      refine am_iadd (pc := 28) G dX10_slotOf_28 ?_
      refine am_goto (pc := 29) G 55 dX10_slotOf_29 (by decide) ?_
      exact am_iret (pc := 55) G Z dX10_slotOf_55 h
  · have h := h.2 c
    refine am_bipush (pc := 6) G dX10_slotOf_6 (by decide) (by decide) ?_
    refine am_aload_n (i := 0) (t := 17) (pc := 8) G dX10_slotOf_8 rfl rfl rfl ?_
    refine gf_X10_38 (pc := 9) G dX10_slotOf_9 tw_f_RX10_246 ?_
    refine am_iadd (pc := 12) G dX10_slotOf_12 ?_
    refine am_goto (pc := 13) G 55 dX10_slotOf_13 (by decide) ?_
    exact am_iret (pc := 55) G Z dX10_slotOf_55 h
-- X10_labelAt TreeHandsModel.labelAt(I)I
def rm_X10_labelAt : Room := { frames := 1, cells := 0, slots := 0, locals := 21 }
theorem hy_X10_labelAt : yX10_labelAt.cls ≠ "java/lang/invoke/MethodHandle" ∧ yX10_labelAt.cls ≠ "java/lang/invoke/VarHandle" ∧ (parseMethodDescriptor yX10_labelAt.desc).map (fun d => d.parameters.length) = some 1 := by decide +kernel
abbrev R_X10_labelAt (V : VV) (x1 : Int) (M : Mem) (Q : Int → Mem → Prop) : Prop := RunsM V yX10_labelAt (.code yX10_labelAt cX10_labelAt 2 (Option.some Jvm.ClassFile.FieldType.int)) rm_X10_labelAt 0 [(20, 203), (0, x1)] M Q
def wp_X10_labelAt (V : VV) (x1 : Int) (M : Mem) (Q : Int → Mem → Prop) : Prop :=
  R_X10_slotOf V x1 M (fun r1 M2 =>
  ((0 : Int) ≤ w32 (w32 (32 * r1) + rem32 x1 16) ∧ w32 (w32 (32 * r1) + rem32 x1 16) < (672 : Int)) ∧
  Q (M2 205 (w32 (w32 (32 * r1) + rem32 x1 16))) M2)
theorem of_X10_labelAt {V : VV} {x1 : Int} {M : Mem} {Q : Int → Mem → Prop} (h : wp_X10_labelAt V x1 M Q) : R_X10_labelAt V x1 M Q := by
  refine met_in (own := "TreeHandsModel") (by decide +kernel) rfl rfl (Nat.le_of_ble_eq_true rfl) ?_
  intro X G Z hn hr hv
  subst hv
  unfold wp_X10_labelAt at h
  show AW X 0 [(20, 203), (0, x1)] [] M
  refine am_aload_n (i := 0) (t := 17) (pc := 0) G dX10_labelAt_0 rfl rfl rfl ?_
  refine gf_X10_1 (pc := 1) G dX10_labelAt_1 tw_f_RX10_13 ?_
  refine am_bipush (pc := 4) G dX10_labelAt_4 (by decide) (by decide) ?_
  refine am_aload_n (i := 0) (t := 17) (pc := 6) G dX10_labelAt_6 rfl rfl rfl ?_
  refine am_iload_n (i := 1) (pc := 7) G dX10_labelAt_7 rfl rfl ?_
  refine am_callV (rk := 0) (rmc := rm_X10_slotOf) (st := [(0, _), (772, _)]) (pc := 8) G 10 [(0, _)] rfl (by decide) rfl dX10_labelAt_8 tw_m_RX10_252 tw_i_X10_slotOf tw_v_X10_slotOf tw_z_RX10 tw_c_X10_slotOf hy_X10_slotOf (callrm hr rfl) rfl (RunsM.mono h (fun r1 M2 h => ?_)) Z.rm
  show AW X 11 _ [(0, _), (0, _), (772, _)] M2
  refine am_imul (pc := 11) G dX10_labelAt_11 ?_
  refine am_iload_n (i := 1) (pc := 12) G dX10_labelAt_12 rfl rfl ?_
  refine am_bipush (pc := 13) G dX10_labelAt_13 (by decide) (by decide) ?_
  refine am_irem (pc := 15) G dX10_labelAt_15 (by decide) ?_
  refine am_iadd (pc := 16) G dX10_labelAt_16 ?_
  refine am_iald (pc := 17) G 672 dX10_labelAt_17 (by decide) h.1 ?_
  have h := h.2
  exact am_iret (pc := 18) G Z dX10_labelAt_18 h
-- X10_partsAt TreeHandsModel.partsAt(I)I
def rm_X10_partsAt : Room := { frames := 1, cells := 0, slots := 0, locals := 21 }
theorem hy_X10_partsAt : yX10_partsAt.cls ≠ "java/lang/invoke/MethodHandle" ∧ yX10_partsAt.cls ≠ "java/lang/invoke/VarHandle" ∧ (parseMethodDescriptor yX10_partsAt.desc).map (fun d => d.parameters.length) = some 1 := by decide +kernel
abbrev R_X10_partsAt (V : VV) (x1 : Int) (M : Mem) (Q : Int → Mem → Prop) : Prop := RunsM V yX10_partsAt (.code yX10_partsAt cX10_partsAt 2 (Option.some Jvm.ClassFile.FieldType.int)) rm_X10_partsAt 0 [(20, 203), (0, x1)] M Q
def wp_X10_partsAt (V : VV) (x1 : Int) (M : Mem) (Q : Int → Mem → Prop) : Prop :=
  R_X10_slotOf V x1 M (fun r1 M2 =>
  ((0 : Int) ≤ w32 (w32 (32 * r1) + rem32 x1 16) ∧ w32 (w32 (32 * r1) + rem32 x1 16) < (672 : Int)) ∧
  Q (M2 206 (w32 (w32 (32 * r1) + rem32 x1 16))) M2)
theorem of_X10_partsAt {V : VV} {x1 : Int} {M : Mem} {Q : Int → Mem → Prop} (h : wp_X10_partsAt V x1 M Q) : R_X10_partsAt V x1 M Q := by
  refine met_in (own := "TreeHandsModel") (by decide +kernel) rfl rfl (Nat.le_of_ble_eq_true rfl) ?_
  intro X G Z hn hr hv
  subst hv
  unfold wp_X10_partsAt at h
  show AW X 0 [(20, 203), (0, x1)] [] M
  refine am_aload_n (i := 0) (t := 17) (pc := 0) G dX10_partsAt_0 rfl rfl rfl ?_
  refine gf_X10_2 (pc := 1) G dX10_partsAt_1 tw_f_RX10_16 ?_
  refine am_bipush (pc := 4) G dX10_partsAt_4 (by decide) (by decide) ?_
  refine am_aload_n (i := 0) (t := 17) (pc := 6) G dX10_partsAt_6 rfl rfl rfl ?_
  refine am_iload_n (i := 1) (pc := 7) G dX10_partsAt_7 rfl rfl ?_
  refine am_callV (rk := 0) (rmc := rm_X10_slotOf) (st := [(0, _), (772, _)]) (pc := 8) G 10 [(0, _)] rfl (by decide) rfl dX10_partsAt_8 tw_m_RX10_252 tw_i_X10_slotOf tw_v_X10_slotOf tw_z_RX10 tw_c_X10_slotOf hy_X10_slotOf (callrm hr rfl) rfl (RunsM.mono h (fun r1 M2 h => ?_)) Z.rm
  show AW X 11 _ [(0, _), (0, _), (772, _)] M2
  refine am_imul (pc := 11) G dX10_partsAt_11 ?_
  refine am_iload_n (i := 1) (pc := 12) G dX10_partsAt_12 rfl rfl ?_
  refine am_bipush (pc := 13) G dX10_partsAt_13 (by decide) (by decide) ?_
  refine am_irem (pc := 15) G dX10_partsAt_15 (by decide) ?_
  refine am_iadd (pc := 16) G dX10_partsAt_16 ?_
  refine am_iald (pc := 17) G 672 dX10_partsAt_17 (by decide) h.1 ?_
  have h := h.2
  exact am_iret (pc := 18) G Z dX10_partsAt_18 h
-- X10_holeAt TreeHandsModel.holeAt(I)I
def rm_X10_holeAt : Room := { frames := 2, cells := 0, slots := 0, locals := 42 }
theorem hy_X10_holeAt : yX10_holeAt.cls ≠ "java/lang/invoke/MethodHandle" ∧ yX10_holeAt.cls ≠ "java/lang/invoke/VarHandle" ∧ (parseMethodDescriptor yX10_holeAt.desc).map (fun d => d.parameters.length) = some 1 := by decide +kernel
abbrev R_X10_holeAt (V : VV) (x1 : Int) (M : Mem) (Q : Int → Mem → Prop) : Prop := RunsM V yX10_holeAt (.code yX10_holeAt cX10_holeAt 3 (Option.some Jvm.ClassFile.FieldType.int)) rm_X10_holeAt 0 [(20, 203), (0, x1)] M Q
def wp_X10_holeAt (V : VV) (x1 : Int) (M : Mem) (Q : Int → Mem → Prop) : Prop :=
  R_X10_labelAt V x1 M (fun r1 M2 =>
  R_X10_isHole V r1 M2 (fun r3 M4 =>
  (r3 = 0 →
    Q (-6) M4) ∧ (¬ (r3 = 0) →
    (rem32 (div32 x1 16) 2 = 1 →
      Q (w32 (w32 (r1 - 65) + 8)) M4) ∧ (¬ (rem32 (div32 x1 16) 2 = 1) →
      Q (w32 (w32 (r1 - 65) + 0)) M4))))
theorem of_X10_holeAt {V : VV} {x1 : Int} {M : Mem} {Q : Int → Mem → Prop} (h : wp_X10_holeAt V x1 M Q) : R_X10_holeAt V x1 M Q := by
  refine met_in (own := "TreeHandsModel") (by decide +kernel) rfl rfl (Nat.le_of_ble_eq_true rfl) ?_
  intro X G Z hn hr hv
  subst hv
  unfold wp_X10_holeAt at h
  show AW X 0 [(20, 203), (0, x1), (99, 0)] [] M
  refine am_aload_n (i := 0) (t := 17) (pc := 0) G dX10_holeAt_0 rfl rfl rfl ?_
  refine am_iload_n (i := 1) (pc := 1) G dX10_holeAt_1 rfl rfl ?_
  refine am_callV (rk := 0) (rmc := rm_X10_labelAt) (st := []) (pc := 2) G 10 [(0, _)] rfl (by decide) rfl dX10_holeAt_2 tw_m_RX10_256 tw_i_X10_labelAt tw_v_X10_labelAt tw_z_RX10 tw_c_X10_labelAt hy_X10_labelAt (callrm hr rfl) rfl (RunsM.mono h (fun r1 M2 h => ?_)) Z.rm
  show AW X 5 _ [(0, _)] M2
  refine am_istore_n (pc := 5) G dX10_holeAt_5 rfl (nlx hn rfl) rfl ?_
  refine am_iload_n (i := 2) (pc := 6) (ls := [(20, _), (0, _), (0, _)]) G dX10_holeAt_6 rfl rfl ?_
  refine am_callS (rk := 1) (rmc := rm_X10_isHole) (st := []) (pc := 7) G [(0, _)] dX10_holeAt_7 tw_m_RX10_121 tw_s_X10_isHole tw_z_RX10 tw_c_X10_isHole hy_X10_isHole (callrm hr rfl) rfl (RunsM.mono h (fun r3 M4 h => ?_)) Z.rm
  show AW X 10 _ [(0, _)] M4
  refine am_if_eq (pc := 10) G 37 dX10_holeAt_10 (by decide) (fun c => ?_) (fun c => ?_)
  · have h := h.1 c
    refine am_bipush (pc := 37) G dX10_holeAt_37 (by decide) (by decide) ?_
    exact am_iret (pc := 39) G Z dX10_holeAt_39 h
  · have h := h.2 c
    refine am_iload_n (i := 2) (pc := 13) G dX10_holeAt_13 rfl rfl ?_
    refine am_bipush (pc := 14) G dX10_holeAt_14 (by decide) (by decide) ?_
    refine am_isub (pc := 16) G dX10_holeAt_16 ?_
    refine am_iload_n (i := 1) (pc := 17) G dX10_holeAt_17 rfl rfl ?_
    refine am_bipush (pc := 18) G dX10_holeAt_18 (by decide) (by decide) ?_
    refine am_idiv (pc := 20) G dX10_holeAt_20 (by decide) ?_
    refine am_iconst (pc := 21) G dX10_holeAt_21 (by decide) ?_
    refine am_irem (pc := 22) G dX10_holeAt_22 (by decide) ?_
    refine am_iconst (pc := 23) G dX10_holeAt_23 (by decide) ?_
    refine am_icmp_ne (pc := 24) G 32 dX10_holeAt_24 (by decide) (fun c => ?_) (fun c => ?_)
    · have h := h.2 c
      refine am_iconst (pc := 32) G dX10_holeAt_32 (by decide) ?_
      refine am_iadd (pc := 33) G dX10_holeAt_33 ?_
      refine am_goto (pc := 34) G 39 dX10_holeAt_34 (by decide) ?_
      exact am_iret (pc := 39) G Z dX10_holeAt_39 h
    · have h := h.1 c
      refine am_bipush (pc := 27) G dX10_holeAt_27 (by decide) (by decide) ?_
      refine am_goto (pc := 29) G 33 dX10_holeAt_29 (by decide) ?_
      refine am_iadd (pc := 33) G dX10_holeAt_33 ?_
      refine am_goto (pc := 34) G 39 dX10_holeAt_34 (by decide) ?_
      exact am_iret (pc := 39) G Z dX10_holeAt_39 h
-- X10_sizeAt TreeHandsModel.sizeAt(I)I
def rm_X10_sizeAt : Room := { frames := 1, cells := 0, slots := 0, locals := 24 }
theorem hy_X10_sizeAt : yX10_sizeAt.cls ≠ "java/lang/invoke/MethodHandle" ∧ yX10_sizeAt.cls ≠ "java/lang/invoke/VarHandle" ∧ (parseMethodDescriptor yX10_sizeAt.desc).map (fun d => d.parameters.length) = some 1 := by decide +kernel
abbrev R_X10_sizeAt (V : VV) (x1 : Int) (M : Mem) (Q : Int → Mem → Prop) : Prop := RunsM V yX10_sizeAt (.code yX10_sizeAt cX10_sizeAt 2 (Option.some Jvm.ClassFile.FieldType.int)) rm_X10_sizeAt 0 [(20, 203), (0, x1)] M Q
def wp_X10_sizeAt (V : VV) (x1 : Int) (M : Mem) (Q : Int → Mem → Prop) : Prop :=
  R_X10_slotOf V x1 M (fun r1 M2 =>
  R_X10_sizeOf V r1 (rem32 x1 16) M2 (fun r3 M4 =>
  Q r3 M4))
theorem of_X10_sizeAt {V : VV} {x1 : Int} {M : Mem} {Q : Int → Mem → Prop} (h : wp_X10_sizeAt V x1 M Q) : R_X10_sizeAt V x1 M Q := by
  refine met_in (own := "TreeHandsModel") (by decide +kernel) rfl rfl (Nat.le_of_ble_eq_true rfl) ?_
  intro X G Z hn hr hv
  subst hv
  unfold wp_X10_sizeAt at h
  show AW X 0 [(20, 203), (0, x1)] [] M
  refine am_aload_n (i := 0) (t := 17) (pc := 0) G dX10_sizeAt_0 rfl rfl rfl ?_
  refine am_aload_n (i := 0) (t := 17) (pc := 1) G dX10_sizeAt_1 rfl rfl rfl ?_
  refine am_iload_n (i := 1) (pc := 2) G dX10_sizeAt_2 rfl rfl ?_
  refine am_callV (rk := 0) (rmc := rm_X10_slotOf) (st := [(20, _)]) (pc := 3) G 10 [(0, _)] rfl (by decide) rfl dX10_sizeAt_3 tw_m_RX10_252 tw_i_X10_slotOf tw_v_X10_slotOf tw_z_RX10 tw_c_X10_slotOf hy_X10_slotOf (callrm hr rfl) rfl (RunsM.mono h (fun r1 M2 h => ?_)) Z.rm
  show AW X 6 _ [(0, _), (20, _)] M2
  refine am_iload_n (i := 1) (pc := 6) G dX10_sizeAt_6 rfl rfl ?_
  refine am_bipush (pc := 7) G dX10_sizeAt_7 (by decide) (by decide) ?_
  refine am_irem (pc := 9) G dX10_sizeAt_9 (by decide) ?_
  refine am_callV (rk := 0) (rmc := rm_X10_sizeOf) (st := []) (pc := 10) G 10 [(0, _), (0, _)] rfl (by decide) rfl dX10_sizeAt_10 tw_m_RX10_128 tw_i_X10_sizeOf tw_v_X10_sizeOf tw_z_RX10 tw_c_X10_sizeOf hy_X10_sizeOf (callrm hr rfl) rfl (RunsM.mono h (fun r3 M4 h => ?_)) Z.rm
  show AW X 13 _ [(0, _)] M4
  exact am_iret (pc := 13) G Z dX10_sizeAt_13 h
-- X10_follow TreeHandsModel.follow(I)I
def rm_X10_follow : Room := { frames := 3, cells := 0, slots := 0, locals := 64 }
theorem hy_X10_follow : yX10_follow.cls ≠ "java/lang/invoke/MethodHandle" ∧ yX10_follow.cls ≠ "java/lang/invoke/VarHandle" ∧ (parseMethodDescriptor yX10_follow.desc).map (fun d => d.parameters.length) = some 1 := by decide +kernel
abbrev R_X10_follow (V : VV) (x1 : Int) (M : Mem) (Q : Int → Mem → Prop) : Prop := RunsM V yX10_follow (.code yX10_follow cX10_follow 4 (Option.some Jvm.ClassFile.FieldType.int)) rm_X10_follow 0 [(20, 203), (0, x1)] M Q
def wp_X10_follow_8_b (V : VV) (x2 x3 : Int) (M : Mem) (Q : Int → Mem → Prop) (B8 : Int → Int → Mem → Prop) : Prop :=
  (x3 < 0 →
    Q x2 M) ∧ (¬ (x3 < 0) →
    ((0 : Int) ≤ x3 ∧ x3 < (16 : Int)) ∧
    (M 232 x3 < 0 →
      Q x2 M) ∧ (¬ (M 232 x3 < 0) →
      ((0 : Int) ≤ x3 ∧ x3 < (16 : Int)) ∧
      ∀ v3 : Int, v3 = M 232 x3 →
      R_X10_holeAt V v3 M (fun r4 M5 =>
      B8 v3 r4 M5)))
theorem swp_X10_follow_8_b {X : XX} {Q : Int → Mem → Prop} (G : GX X cX10_follow "TreeHandsModel") (Z : RX X 0 Q) (hn : nLX X = 4) (hr : roomX X = rm_X10_follow) (x2 x3 : Int) (M : Mem) (B8 : Int → Int → Mem → Prop) (k8 : ∀ (z2 z3 : Int) (N : Mem), B8 z2 z3 N → AW X 8 [(20, 203), (99, 0), (0, z2), (0, z3)] [] N) (h : wp_X10_follow_8_b (vX X) x2 x3 M Q B8) : AW X 8 [(20, 203), (99, 0), (0, x2), (0, x3)] [] M := by
  unfold wp_X10_follow_8_b at h
  refine am_iload_n (i := 3) (pc := 8) G dX10_follow_8 rfl rfl ?_
  refine am_if_lt (pc := 9) G 37 dX10_follow_9 (by decide) (fun c => ?_) (fun c => ?_)
  · have h := h.1 c
    refine am_iload_n (i := 2) (pc := 37) G dX10_follow_37 rfl rfl ?_
    exact am_iret (pc := 38) G Z dX10_follow_38 h
  · have h := h.2 c
    refine am_aload_n (i := 0) (t := 17) (pc := 12) G dX10_follow_12 rfl rfl rfl ?_
    refine gf_X10_40 (pc := 13) G dX10_follow_13 tw_f_RX10_94 ?_
    refine am_iload_n (i := 3) (pc := 16) G dX10_follow_16 rfl rfl ?_
    refine am_iald (pc := 17) G 16 dX10_follow_17 (by decide) h.1 ?_
    have h := h.2
    refine am_if_lt (pc := 18) G 37 dX10_follow_18 (by decide) (fun c => ?_) (fun c => ?_)
    · have h := h.1 c
      refine am_iload_n (i := 2) (pc := 37) G dX10_follow_37 rfl rfl ?_
      exact am_iret (pc := 38) G Z dX10_follow_38 h
    · have h := h.2 c
      refine am_aload_n (i := 0) (t := 17) (pc := 21) G dX10_follow_21 rfl rfl rfl ?_
      refine gf_X10_40 (pc := 22) G dX10_follow_22 tw_f_RX10_94 ?_
      refine am_iload_n (i := 3) (pc := 25) G dX10_follow_25 rfl rfl ?_
      refine am_iald (pc := 26) G 16 dX10_follow_26 (by decide) h.1 ?_
      have h := h.2
      have h := h _ rfl
      refine am_istore_n (pc := 27) G dX10_follow_27 rfl (nlx hn rfl) rfl ?_
      refine am_aload_n (i := 0) (t := 17) (pc := 28) (ls := [(20, _), (99, _), (0, _), (0, _)]) G dX10_follow_28 rfl rfl rfl ?_
      refine am_iload_n (i := 2) (pc := 29) G dX10_follow_29 rfl rfl ?_
      refine am_callV (rk := 0) (rmc := rm_X10_holeAt) (st := []) (pc := 30) G 10 [(0, _)] rfl (by decide) rfl dX10_follow_30 tw_m_RX10_259 tw_i_X10_holeAt tw_v_X10_holeAt tw_z_RX10 tw_c_X10_holeAt hy_X10_holeAt (callrm hr rfl) rfl (RunsM.mono h (fun r4 M5 h => ?_)) Z.rm
      show AW X 33 _ [(0, _)] M5
      refine am_istore_n (pc := 33) G dX10_follow_33 rfl (nlx hn rfl) rfl ?_
      refine am_goto (pc := 34) (ls := [(20, _), (99, _), (0, _), (0, _)]) G 8 dX10_follow_34 (by decide) ?_
      refine am_le (ls' := [(20, _), (99, 0), (0, _), (0, _)]) ⟨Or.inr rfl, ⟨Or.inl rfl, ⟨Or.inr rfl, ⟨Or.inr rfl, trivial⟩⟩⟩⟩ ?_
      exact k8 _ _ _ h
def wp_X10_follow_8 (V : VV) (x2 x3 : Int) (M : Mem) (Q : Int → Mem → Prop) : Prop :=
  ∃ (I : Int → Int → Mem → Prop) (μ : Int → Int → Mem → Nat), I x2 x3 M ∧ ∀ (y2 y3 : Int) (N : Mem), I y2 y3 N → wp_X10_follow_8_b V y2 y3 N Q (fun z2 z3 N1 => I z2 z3 N1 ∧ μ z2 z3 N1 < μ y2 y3 N)
theorem swp_X10_follow_8 {X : XX} {Q : Int → Mem → Prop} (G : GX X cX10_follow "TreeHandsModel") (Z : RX X 0 Q) (hn : nLX X = 4) (hr : roomX X = rm_X10_follow) (x2 x3 : Int) (M : Mem) (h : wp_X10_follow_8 (vX X) x2 x3 M Q) : AW X 8 [(20, 203), (99, 0), (0, x2), (0, x3)] [] M := by
  unfold wp_X10_follow_8 at h
  obtain ⟨I, μ, hI, hs⟩ := h
  have key : ∀ (n : Nat) (y2 y3 : Int) (N : Mem), μ y2 y3 N < n → I y2 y3 N → AW X 8 [(20, 203), (99, 0), (0, y2), (0, y3)] [] N := by
    intro n
    induction n with
    | zero => intro y2 y3 N hlt; exact absurd hlt (Nat.not_lt_zero _)
    | succ n ih =>
      intro y2 y3 N hlt hI
      exact swp_X10_follow_8_b G Z hn hr y2 y3 N (fun z2 z3 N1 => I z2 z3 N1 ∧ μ z2 z3 N1 < μ y2 y3 N) (fun z2 z3 N1 hz => ih z2 z3 N1 (by omega) hz.1) (hs y2 y3 N hI)
  exact key _ x2 x3 M (Nat.lt_succ_self _) hI
def wp_X10_follow (V : VV) (x1 : Int) (M : Mem) (Q : Int → Mem → Prop) : Prop :=
  R_X10_holeAt V x1 M (fun r1 M2 =>
  wp_X10_follow_8 V x1 r1 M2 Q)
theorem of_X10_follow {V : VV} {x1 : Int} {M : Mem} {Q : Int → Mem → Prop} (h : wp_X10_follow V x1 M Q) : R_X10_follow V x1 M Q := by
  refine met_in (own := "TreeHandsModel") (by decide +kernel) rfl rfl (Nat.le_of_ble_eq_true rfl) ?_
  intro X G Z hn hr hv
  subst hv
  unfold wp_X10_follow at h
  show AW X 0 [(20, 203), (0, x1), (99, 0), (99, 0)] [] M
  refine am_iload_n (i := 1) (pc := 0) G dX10_follow_0 rfl rfl ?_
  refine am_istore_n (pc := 1) G dX10_follow_1 rfl (nlx hn rfl) rfl ?_
  refine am_aload_n (i := 0) (t := 17) (pc := 2) (ls := [(20, _), (0, _), (0, _), (99, _)]) G dX10_follow_2 rfl rfl rfl ?_
  refine am_iload_n (i := 2) (pc := 3) G dX10_follow_3 rfl rfl ?_
  refine am_callV (rk := 0) (rmc := rm_X10_holeAt) (st := []) (pc := 4) G 10 [(0, _)] rfl (by decide) rfl dX10_follow_4 tw_m_RX10_259 tw_i_X10_holeAt tw_v_X10_holeAt tw_z_RX10 tw_c_X10_holeAt hy_X10_holeAt (callrm hr rfl) rfl (RunsM.mono h (fun r1 M2 h => ?_)) Z.rm
  show AW X 7 _ [(0, _)] M2
  refine am_istore_n (pc := 7) G dX10_follow_7 rfl (nlx hn rfl) rfl ?_
  refine am_le (ls' := [(20, _), (99, 0), (0, _), (0, _)]) ⟨Or.inr rfl, ⟨Or.inl rfl, ⟨Or.inr rfl, ⟨Or.inr rfl, trivial⟩⟩⟩⟩ ?_
  exact swp_X10_follow_8 G Z hn hr _ _ _ h
-- X10_liesIn TreeHandsModel.liesIn(II)Z
def rm_X10_liesIn : Room := { frames := 4, cells := 0, slots := 0, locals := 87 }
theorem hy_X10_liesIn : yX10_liesIn.cls ≠ "java/lang/invoke/MethodHandle" ∧ yX10_liesIn.cls ≠ "java/lang/invoke/VarHandle" ∧ (parseMethodDescriptor yX10_liesIn.desc).map (fun d => d.parameters.length) = some 2 := by decide +kernel
abbrev R_X10_liesIn (V : VV) (x1 x2 : Int) (M : Mem) (Q : Int → Mem → Prop) : Prop := RunsM V yX10_liesIn (.code yX10_liesIn cX10_liesIn 10 (Option.some Jvm.ClassFile.FieldType.boolean)) rm_X10_liesIn 1 [(20, 203), (0, x1), (0, x2)] M Q
def wp_X10_liesIn_82_b (V : VV) (x1 x3 x4 x6 x8 x9 : Int) (M : Mem) (Q : Int → Mem → Prop) (B12 : Int → Int → Mem → Prop) (B82 : Int → Int → Int → Mem → Prop) : Prop :=
  R_X10_partsAt V x6 M (fun r5 M6 =>
  (r5 ≤ x9 →
    B12 x3 x4 M6) ∧ (¬ (r5 ≤ x9) →
    ((0 : Int) ≤ x3 ∧ x3 < (128 : Int)) ∧
    ∀ M7 : Mem, M7 = mset M6 234 x3 x8 →
    R_X10_sizeAt V x8 M7 (fun r8 M9 =>
    B82 (w32 (x3 + 1)) (w32 (x8 + r8)) (w32 (x9 + 1)) M9)))
theorem swp_X10_liesIn_82_b {X : XX} {Q : Int → Mem → Prop} (G : GX X cX10_liesIn "TreeHandsModel") (Z : RX X 1 Q) (hn : nLX X = 10) (hr : roomX X = rm_X10_liesIn) (x1 x3 x4 x6 x8 x9 : Int) (M : Mem) (B12 : Int → Int → Mem → Prop) (k12 : ∀ (z3 z4 : Int) (N : Mem), B12 z3 z4 N → AW X 12 [(20, 203), (0, x1), (99, 0), (0, z3), (1, z4), (98, 0), (99, 0), (99, 0), (99, 0), (99, 0)] [] N) (B82 : Int → Int → Int → Mem → Prop) (k82 : ∀ (z3 z8 z9 : Int) (N : Mem), B82 z3 z8 z9 N → AW X 82 [(20, 203), (0, x1), (99, 0), (0, z3), (1, x4), (98, 0), (0, x6), (99, 0), (0, z8), (0, z9)] [] N) (h : wp_X10_liesIn_82_b (vX X) x1 x3 x4 x6 x8 x9 M Q B12 B82) : AW X 82 [(20, 203), (0, x1), (99, 0), (0, x3), (1, x4), (98, 0), (0, x6), (99, 0), (0, x8), (0, x9)] [] M := by
  unfold wp_X10_liesIn_82_b at h
  refine am_iload (pc := 82) G dX10_liesIn_82 rfl ?_
  refine am_aload_n (i := 0) (t := 17) (pc := 84) G dX10_liesIn_84 rfl rfl rfl ?_
  refine am_iload (pc := 85) G dX10_liesIn_85 rfl ?_
  refine am_callV (rk := 0) (rmc := rm_X10_partsAt) (st := [(0, _)]) (pc := 87) G 10 [(0, _)] rfl (by decide) rfl dX10_liesIn_87 tw_m_RX10_265 tw_i_X10_partsAt tw_v_X10_partsAt tw_z_RX10 tw_c_X10_partsAt hy_X10_partsAt (callrm hr rfl) rfl (RunsM.mono h (fun r5 M6 h => ?_)) Z.rm
  show AW X 90 _ [(0, _), (0, _)] M6
  refine am_icmp_ge (pc := 90) G 121 dX10_liesIn_90 (by decide) (fun c => ?_) (fun c => ?_)
  · have h := h.1 c
    refine am_goto (pc := 121) G 12 dX10_liesIn_121 (by decide) ?_
    refine am_le (ls' := [(20, _), (0, _), (99, 0), (0, _), (1, _), (98, 0), (99, 0), (99, 0), (99, 0), (99, 0)]) ⟨Or.inr rfl, ⟨Or.inr rfl, ⟨Or.inl rfl, ⟨Or.inr rfl, ⟨Or.inr rfl, ⟨Or.inl rfl, ⟨Or.inl rfl, ⟨Or.inl rfl, ⟨Or.inl rfl, ⟨Or.inl rfl, trivial⟩⟩⟩⟩⟩⟩⟩⟩⟩⟩ ?_
    exact k12 _ _ _ h
  · have h := h.2 c
    refine am_aload_n (i := 0) (t := 17) (pc := 93) G dX10_liesIn_93 rfl rfl rfl ?_
    refine gf_X10_42 (pc := 94) G dX10_liesIn_94 tw_f_RX10_100 ?_
    refine am_iload_n (i := 3) (pc := 97) G dX10_liesIn_97 rfl rfl ?_
    refine am_iload (pc := 98) G dX10_liesIn_98 rfl ?_
    refine am_iast (pc := 100) G 128 dX10_liesIn_100 (by decide) h.1 ?_
    have h := h.2
    refine am_iinc (pc := 101) G dX10_liesIn_101 rfl (nlx hn rfl) rfl ?_
    refine am_iload (pc := 104) (ls := [(20, _), (0, _), (99, _), (0, _), (1, _), (98, _), (0, _), (99, _), (0, _), (0, _)]) G dX10_liesIn_104 rfl ?_
    refine am_aload_n (i := 0) (t := 17) (pc := 106) G dX10_liesIn_106 rfl rfl rfl ?_
    refine am_iload (pc := 107) G dX10_liesIn_107 rfl ?_
    have h := h _ rfl
    refine am_callV (rk := 0) (rmc := rm_X10_sizeAt) (st := [(0, _)]) (pc := 109) G 10 [(0, _)] rfl (by decide) rfl dX10_liesIn_109 tw_m_RX10_268 tw_i_X10_sizeAt tw_v_X10_sizeAt tw_z_RX10 tw_c_X10_sizeAt hy_X10_sizeAt (callrm hr rfl) rfl (RunsM.mono h (fun r8 M9 h => ?_)) Z.rm
    show AW X 112 _ [(0, _), (0, _)] M9
    refine am_iadd (pc := 112) G dX10_liesIn_112 ?_
    refine am_istore (pc := 113) G dX10_liesIn_113 (nlx hn rfl) rfl ?_
    refine am_iinc (pc := 115) (ls := [(20, _), (0, _), (99, _), (0, _), (1, _), (98, _), (0, _), (99, _), (0, _), (0, _)]) G dX10_liesIn_115 rfl (nlx hn rfl) rfl ?_
    refine am_goto (pc := 118) (ls := [(20, _), (0, _), (99, _), (0, _), (1, _), (98, _), (0, _), (99, _), (0, _), (0, _)]) G 82 dX10_liesIn_118 (by decide) ?_
    refine am_le (ls' := [(20, _), (0, _), (99, 0), (0, _), (1, _), (98, 0), (0, _), (99, 0), (0, _), (0, _)]) ⟨Or.inr rfl, ⟨Or.inr rfl, ⟨Or.inl rfl, ⟨Or.inr rfl, ⟨Or.inr rfl, ⟨Or.inl rfl, ⟨Or.inr rfl, ⟨Or.inl rfl, ⟨Or.inr rfl, ⟨Or.inr rfl, trivial⟩⟩⟩⟩⟩⟩⟩⟩⟩⟩ ?_
    exact k82 _ _ _ _ h
def wp_X10_liesIn_82 (V : VV) (x1 x3 x4 x6 x8 x9 : Int) (M : Mem) (Q : Int → Mem → Prop) (B12 : Int → Int → Mem → Prop) : Prop :=
  ∃ (I : Int → Int → Int → Mem → Prop) (μ : Int → Int → Int → Mem → Nat), I x3 x8 x9 M ∧ ∀ (y3 y8 y9 : Int) (N : Mem), I y3 y8 y9 N → wp_X10_liesIn_82_b V x1 y3 x4 x6 y8 y9 N Q B12 (fun z3 z8 z9 N1 => I z3 z8 z9 N1 ∧ μ z3 z8 z9 N1 < μ y3 y8 y9 N)
theorem swp_X10_liesIn_82 {X : XX} {Q : Int → Mem → Prop} (G : GX X cX10_liesIn "TreeHandsModel") (Z : RX X 1 Q) (hn : nLX X = 10) (hr : roomX X = rm_X10_liesIn) (x1 x3 x4 x6 x8 x9 : Int) (M : Mem) (B12 : Int → Int → Mem → Prop) (k12 : ∀ (z3 z4 : Int) (N : Mem), B12 z3 z4 N → AW X 12 [(20, 203), (0, x1), (99, 0), (0, z3), (1, z4), (98, 0), (99, 0), (99, 0), (99, 0), (99, 0)] [] N) (h : wp_X10_liesIn_82 (vX X) x1 x3 x4 x6 x8 x9 M Q B12) : AW X 82 [(20, 203), (0, x1), (99, 0), (0, x3), (1, x4), (98, 0), (0, x6), (99, 0), (0, x8), (0, x9)] [] M := by
  unfold wp_X10_liesIn_82 at h
  obtain ⟨I, μ, hI, hs⟩ := h
  have key : ∀ (n : Nat) (y3 y8 y9 : Int) (N : Mem), μ y3 y8 y9 N < n → I y3 y8 y9 N → AW X 82 [(20, 203), (0, x1), (99, 0), (0, y3), (1, x4), (98, 0), (0, x6), (99, 0), (0, y8), (0, y9)] [] N := by
    intro n
    induction n with
    | zero => intro y3 y8 y9 N hlt; exact absurd hlt (Nat.not_lt_zero _)
    | succ n ih =>
      intro y3 y8 y9 N hlt hI
      exact swp_X10_liesIn_82_b G Z hn hr x1 y3 x4 x6 y8 y9 N B12 k12 (fun z3 z8 z9 N1 => I z3 z8 z9 N1 ∧ μ z3 z8 z9 N1 < μ y3 y8 y9 N) (fun z3 z8 z9 N1 hz => ih z3 z8 z9 N1 (by omega) hz.1) (hs y3 y8 y9 N hI)
  exact key _ x3 x8 x9 M (Nat.lt_succ_self _) hI
def wp_X10_liesIn_12_b (V : VV) (x1 x3 x4 : Int) (M : Mem) (Q : Int → Mem → Prop) (B12 : Int → Int → Mem → Prop) : Prop :=
  (x3 ≤ 0 →
    Q 0 M) ∧ (¬ (x3 ≤ 0) →
    ((0 : Int) ≤ w32 (x3 + (-1)) ∧ w32 (x3 + (-1)) < (128 : Int)) ∧
    R_X10_follow V (M 234 (w32 (x3 + (-1)))) M (fun r1 M2 =>
    R_X10_holeAt V r1 M2 (fun r3 M4 =>
    (r3 = x1 →
      Q 1 M4) ∧ (¬ (r3 = x1) →
      (0 ≤ r3 →
        B12 (w32 (x3 + (-1))) x4 M4) ∧ (¬ (0 ≤ r3) →
        (cmp64 (and64 (shr64 x4 r1) 1) 0 = 0 →
          wp_X10_liesIn_82 V x1 (w32 (x3 + (-1))) (or64 x4 (shl64 1 r1)) r1 (w32 (r1 + 1)) 0 M4 Q B12) ∧ (¬ (cmp64 (and64 (shr64 x4 r1) 1) 0 = 0) →
          B12 (w32 (x3 + (-1))) x4 M4))))))
theorem swp_X10_liesIn_12_b {X : XX} {Q : Int → Mem → Prop} (G : GX X cX10_liesIn "TreeHandsModel") (Z : RX X 1 Q) (hn : nLX X = 10) (hr : roomX X = rm_X10_liesIn) (x1 x3 x4 : Int) (M : Mem) (B12 : Int → Int → Mem → Prop) (k12 : ∀ (z3 z4 : Int) (N : Mem), B12 z3 z4 N → AW X 12 [(20, 203), (0, x1), (99, 0), (0, z3), (1, z4), (98, 0), (99, 0), (99, 0), (99, 0), (99, 0)] [] N) (h : wp_X10_liesIn_12_b (vX X) x1 x3 x4 M Q B12) : AW X 12 [(20, 203), (0, x1), (99, 0), (0, x3), (1, x4), (98, 0), (99, 0), (99, 0), (99, 0), (99, 0)] [] M := by
  unfold wp_X10_liesIn_12_b at h
  refine am_iload_n (i := 3) (pc := 12) G dX10_liesIn_12 rfl rfl ?_
  refine am_if_le (pc := 13) G 124 dX10_liesIn_13 (by decide) (fun c => ?_) (fun c => ?_)
  · have h := h.1 c
    refine am_iconst (pc := 124) G dX10_liesIn_124 (by decide) ?_
    exact am_zret (pc := 125) G Z dX10_liesIn_125 ⟨by decide, h⟩
  · have h := h.2 c
    refine am_iinc (pc := 16) G dX10_liesIn_16 rfl (nlx hn rfl) rfl ?_
    refine am_aload_n (i := 0) (t := 17) (pc := 19) (ls := [(20, _), (0, _), (99, _), (0, _), (1, _), (98, _), (99, _), (99, _), (99, _), (99, _)]) G dX10_liesIn_19 rfl rfl rfl ?_
    refine am_aload_n (i := 0) (t := 17) (pc := 20) G dX10_liesIn_20 rfl rfl rfl ?_
    refine gf_X10_42 (pc := 21) G dX10_liesIn_21 tw_f_RX10_100 ?_
    refine am_iload_n (i := 3) (pc := 24) G dX10_liesIn_24 rfl rfl ?_
    refine am_iald (pc := 25) G 128 dX10_liesIn_25 (by decide) h.1 ?_
    have h := h.2
    refine am_callV (rk := 0) (rmc := rm_X10_follow) (st := []) (pc := 26) G 10 [(0, _)] rfl (by decide) rfl dX10_liesIn_26 tw_m_RX10_262 tw_i_X10_follow tw_v_X10_follow tw_z_RX10 tw_c_X10_follow hy_X10_follow (callrm hr rfl) rfl (RunsM.mono h (fun r1 M2 h => ?_)) Z.rm
    show AW X 29 _ [(0, _)] M2
    refine am_istore (pc := 29) G dX10_liesIn_29 (nlx hn rfl) rfl ?_
    refine am_aload_n (i := 0) (t := 17) (pc := 31) (ls := [(20, _), (0, _), (99, _), (0, _), (1, _), (98, _), (0, _), (99, _), (99, _), (99, _)]) G dX10_liesIn_31 rfl rfl rfl ?_
    refine am_iload (pc := 32) G dX10_liesIn_32 rfl ?_
    refine am_callV (rk := 0) (rmc := rm_X10_holeAt) (st := []) (pc := 34) G 10 [(0, _)] rfl (by decide) rfl dX10_liesIn_34 tw_m_RX10_259 tw_i_X10_holeAt tw_v_X10_holeAt tw_z_RX10 tw_c_X10_holeAt hy_X10_holeAt (callrm hr rfl) rfl (RunsM.mono h (fun r3 M4 h => ?_)) Z.rm
    show AW X 37 _ [(0, _)] M4
    refine am_istore (pc := 37) G dX10_liesIn_37 (nlx hn rfl) rfl ?_
    refine am_iload (pc := 39) (ls := [(20, _), (0, _), (99, _), (0, _), (1, _), (98, _), (0, _), (0, _), (99, _), (99, _)]) G dX10_liesIn_39 rfl ?_
    refine am_iload_n (i := 1) (pc := 41) G dX10_liesIn_41 rfl rfl ?_
    refine am_icmp_ne (pc := 42) G 47 dX10_liesIn_42 (by decide) (fun c => ?_) (fun c => ?_)
    · have h := h.2 c
      refine am_iload (pc := 47) G dX10_liesIn_47 rfl ?_
      refine am_if_ge (pc := 49) G 121 dX10_liesIn_49 (by decide) (fun c => ?_) (fun c => ?_)
      · have h := h.1 c
        refine am_goto (pc := 121) G 12 dX10_liesIn_121 (by decide) ?_
        refine am_le (ls' := [(20, _), (0, _), (99, 0), (0, _), (1, _), (98, 0), (99, 0), (99, 0), (99, 0), (99, 0)]) ⟨Or.inr rfl, ⟨Or.inr rfl, ⟨Or.inl rfl, ⟨Or.inr rfl, ⟨Or.inr rfl, ⟨Or.inl rfl, ⟨Or.inl rfl, ⟨Or.inl rfl, ⟨Or.inl rfl, ⟨Or.inl rfl, trivial⟩⟩⟩⟩⟩⟩⟩⟩⟩⟩ ?_
        exact k12 _ _ _ h
      · have h := h.2 c
        refine am_lload (pc := 52) G dX10_liesIn_52 rfl ?_
        refine am_iload (pc := 54) G dX10_liesIn_54 rfl ?_
        refine am_lshr (pc := 56) G dX10_liesIn_56 ?_
        refine am_lconst (x := 1) (pc := 57) G dX10_liesIn_57 (by decide) (by decide) ?_
        refine am_land (pc := 58) G dX10_liesIn_58 ?_
        refine am_lconst (x := 0) (pc := 59) G dX10_liesIn_59 (by decide) (by decide) ?_
        refine am_lcmp (pc := 60) G dX10_liesIn_60 ?_
        refine am_if_ne (pc := 61) G 121 dX10_liesIn_61 (by decide) (fun c => ?_) (fun c => ?_)
        · have h := h.2 c
          refine am_goto (pc := 121) G 12 dX10_liesIn_121 (by decide) ?_
          refine am_le (ls' := [(20, _), (0, _), (99, 0), (0, _), (1, _), (98, 0), (99, 0), (99, 0), (99, 0), (99, 0)]) ⟨Or.inr rfl, ⟨Or.inr rfl, ⟨Or.inl rfl, ⟨Or.inr rfl, ⟨Or.inr rfl, ⟨Or.inl rfl, ⟨Or.inl rfl, ⟨Or.inl rfl, ⟨Or.inl rfl, ⟨Or.inl rfl, trivial⟩⟩⟩⟩⟩⟩⟩⟩⟩⟩ ?_
          exact k12 _ _ _ h
        · have h := h.1 c
          refine am_lload (pc := 64) G dX10_liesIn_64 rfl ?_
          refine am_lconst (x := 1) (pc := 66) G dX10_liesIn_66 (by decide) (by decide) ?_
          refine am_iload (pc := 67) G dX10_liesIn_67 rfl ?_
          refine am_lshl (pc := 69) G dX10_liesIn_69 ?_
          refine am_lor (pc := 70) G dX10_liesIn_70 ?_
          refine am_lstore (pc := 71) G dX10_liesIn_71 (nlx hn rfl) rfl ?_
          refine am_iload (pc := 73) (ls := [(20, _), (0, _), (99, _), (0, _), (1, _), (98, _), (0, _), (0, _), (99, _), (99, _)]) G dX10_liesIn_73 rfl ?_
          refine am_iconst (pc := 75) G dX10_liesIn_75 (by decide) ?_
          refine am_iadd (pc := 76) G dX10_liesIn_76 ?_
          refine am_istore (pc := 77) G dX10_liesIn_77 (nlx hn rfl) rfl ?_
          refine am_iconst (pc := 79) (ls := [(20, _), (0, _), (99, _), (0, _), (1, _), (98, _), (0, _), (0, _), (0, _), (99, _)]) G dX10_liesIn_79 (by decide) ?_
          refine am_istore (pc := 80) G dX10_liesIn_80 (nlx hn rfl) rfl ?_
          refine am_le (ls' := [(20, _), (0, _), (99, 0), (0, _), (1, _), (98, 0), (0, _), (99, 0), (0, _), (0, _)]) ⟨Or.inr rfl, ⟨Or.inr rfl, ⟨Or.inl rfl, ⟨Or.inr rfl, ⟨Or.inr rfl, ⟨Or.inl rfl, ⟨Or.inr rfl, ⟨Or.inl rfl, ⟨Or.inr rfl, ⟨Or.inr rfl, trivial⟩⟩⟩⟩⟩⟩⟩⟩⟩⟩ ?_
          exact swp_X10_liesIn_82 G Z hn hr _ _ _ _ _ _ _ B12 k12 h
    · have h := h.1 c
      refine am_iconst (pc := 45) G dX10_liesIn_45 (by decide) ?_
      exact am_zret (pc := 46) G Z dX10_liesIn_46 ⟨by decide, h⟩
def wp_X10_liesIn_12 (V : VV) (x1 x3 x4 : Int) (M : Mem) (Q : Int → Mem → Prop) : Prop :=
  ∃ (I : Int → Int → Mem → Prop) (μ : Int → Int → Mem → Nat), I x3 x4 M ∧ ∀ (y3 y4 : Int) (N : Mem), I y3 y4 N → wp_X10_liesIn_12_b V x1 y3 y4 N Q (fun z3 z4 N1 => I z3 z4 N1 ∧ μ z3 z4 N1 < μ y3 y4 N)
theorem swp_X10_liesIn_12 {X : XX} {Q : Int → Mem → Prop} (G : GX X cX10_liesIn "TreeHandsModel") (Z : RX X 1 Q) (hn : nLX X = 10) (hr : roomX X = rm_X10_liesIn) (x1 x3 x4 : Int) (M : Mem) (h : wp_X10_liesIn_12 (vX X) x1 x3 x4 M Q) : AW X 12 [(20, 203), (0, x1), (99, 0), (0, x3), (1, x4), (98, 0), (99, 0), (99, 0), (99, 0), (99, 0)] [] M := by
  unfold wp_X10_liesIn_12 at h
  obtain ⟨I, μ, hI, hs⟩ := h
  have key : ∀ (n : Nat) (y3 y4 : Int) (N : Mem), μ y3 y4 N < n → I y3 y4 N → AW X 12 [(20, 203), (0, x1), (99, 0), (0, y3), (1, y4), (98, 0), (99, 0), (99, 0), (99, 0), (99, 0)] [] N := by
    intro n
    induction n with
    | zero => intro y3 y4 N hlt; exact absurd hlt (Nat.not_lt_zero _)
    | succ n ih =>
      intro y3 y4 N hlt hI
      exact swp_X10_liesIn_12_b G Z hn hr x1 y3 y4 N (fun z3 z4 N1 => I z3 z4 N1 ∧ μ z3 z4 N1 < μ y3 y4 N) (fun z3 z4 N1 hz => ih z3 z4 N1 (by omega) hz.1) (hs y3 y4 N hI)
  exact key _ x3 x4 M (Nat.lt_succ_self _) hI
def wp_X10_liesIn (V : VV) (x1 x2 : Int) (M : Mem) (Q : Int → Mem → Prop) : Prop :=
  ((0 : Int) ≤ 0 ∧ 0 < (128 : Int)) ∧
  wp_X10_liesIn_12 V x1 1 0 (mset M 234 0 x2) Q
theorem of_X10_liesIn {V : VV} {x1 x2 : Int} {M : Mem} {Q : Int → Mem → Prop} (h : wp_X10_liesIn V x1 x2 M Q) : R_X10_liesIn V x1 x2 M Q := by
  refine met_in (own := "TreeHandsModel") (by decide +kernel) rfl rfl (Nat.le_of_ble_eq_true rfl) ?_
  intro X G Z hn hr hv
  subst hv
  unfold wp_X10_liesIn at h
  show AW X 0 [(20, 203), (0, x1), (0, x2), (99, 0), (99, 0), (99, 0), (99, 0), (99, 0), (99, 0), (99, 0)] [] M
  refine am_iconst (pc := 0) G dX10_liesIn_0 (by decide) ?_
  refine am_istore_n (pc := 1) G dX10_liesIn_1 rfl (nlx hn rfl) rfl ?_
  refine am_aload_n (i := 0) (t := 17) (pc := 2) (ls := [(20, _), (0, _), (0, _), (0, _), (99, _), (99, _), (99, _), (99, _), (99, _), (99, _)]) G dX10_liesIn_2 rfl rfl rfl ?_
  refine gf_X10_42 (pc := 3) G dX10_liesIn_3 tw_f_RX10_100 ?_
  refine am_iconst (pc := 6) G dX10_liesIn_6 (by decide) ?_
  refine am_iload_n (i := 2) (pc := 7) G dX10_liesIn_7 rfl rfl ?_
  refine am_iast (pc := 8) G 128 dX10_liesIn_8 (by decide) h.1 ?_
  have h := h.2
  refine am_lconst (x := 0) (pc := 9) G dX10_liesIn_9 (by decide) (by decide) ?_
  refine am_lstore (pc := 10) G dX10_liesIn_10 (nlx hn rfl) rfl ?_
  refine am_le (ls' := [(20, _), (0, _), (99, 0), (0, _), (1, _), (98, 0), (99, 0), (99, 0), (99, 0), (99, 0)]) ⟨Or.inr rfl, ⟨Or.inr rfl, ⟨Or.inl rfl, ⟨Or.inr rfl, ⟨Or.inr rfl, ⟨Or.inl rfl, ⟨Or.inl rfl, ⟨Or.inl rfl, ⟨Or.inl rfl, ⟨Or.inl rfl, trivial⟩⟩⟩⟩⟩⟩⟩⟩⟩⟩ ?_
  exact swp_X10_liesIn_12 G Z hn hr _ _ _ _ h
-- X10_unify TreeHandsModel.unify(II)Z
def rm_X10_unify : Room := { frames := 5, cells := 0, slots := 0, locals := 116 }
theorem hy_X10_unify : yX10_unify.cls ≠ "java/lang/invoke/MethodHandle" ∧ yX10_unify.cls ≠ "java/lang/invoke/VarHandle" ∧ (parseMethodDescriptor yX10_unify.desc).map (fun d => d.parameters.length) = some 2 := by decide +kernel
abbrev R_X10_unify (V : VV) (x1 x2 : Int) (M : Mem) (Q : Int → Mem → Prop) : Prop := RunsM V yX10_unify (.code yX10_unify cX10_unify 11 (Option.some Jvm.ClassFile.FieldType.boolean)) rm_X10_unify 1 [(20, 203), (0, x1), (0, x2)] M Q
def wp_X10_unify_128 (V : VV) (x3 x8 s0 : Int) (M : Mem) (Q : Int → Mem → Prop) (B38 : Int → Mem → Prop) : Prop :=
  R_X10_liesIn V x8 s0 M (fun r10 M11 =>
  (r10 = 0 →
    ((0 : Int) ≤ x8 ∧ x8 < (16 : Int)) ∧
    B38 x3 (mset M11 232 x8 s0)) ∧ (¬ (r10 = 0) →
    Q 0 M11))
theorem swp_X10_unify_128 {X : XX} {Q : Int → Mem → Prop} (G : GX X cX10_unify "TreeHandsModel") (Z : RX X 1 Q) (hn : nLX X = 11) (hr : roomX X = rm_X10_unify) (x3 x8 s0 : Int) (M : Mem) (B38 : Int → Mem → Prop) (k38 : ∀ (z3 : Int) (N : Mem), B38 z3 N → AW X 38 [(20, 203), (99, 0), (99, 0), (0, z3), (99, 0), (99, 0), (99, 0), (99, 0), (99, 0), (99, 0), (99, 0)] [] N) (h : wp_X10_unify_128 (vX X) x3 x8 s0 M Q B38) : AW X 128 [(20, 203), (99, 0), (99, 0), (0, x3), (99, 0), (99, 0), (99, 0), (99, 0), (0, x8), (99, 0), (99, 0)] [(0, s0)] M := by
  unfold wp_X10_unify_128 at h
  refine am_istore (pc := 128) G dX10_unify_128 (nlx hn rfl) rfl ?_
  refine am_aload_n (i := 0) (t := 17) (pc := 130) (ls := [(20, _), (99, _), (99, _), (0, _), (99, _), (99, _), (99, _), (99, _), (0, _), (0, _), (99, _)]) G dX10_unify_130 rfl rfl rfl ?_
  refine am_iload (pc := 131) G dX10_unify_131 rfl ?_
  refine am_iload (pc := 133) G dX10_unify_133 rfl ?_
  refine am_callV (rk := 1) (rmc := rm_X10_liesIn) (st := []) (pc := 135) G 10 [(0, _), (0, _)] rfl (by decide) rfl dX10_unify_135 tw_m_RX10_271 tw_i_X10_liesIn tw_v_X10_liesIn tw_z_RX10 tw_c_X10_liesIn hy_X10_liesIn (callrm hr rfl) rfl (RunsM.mono h (fun r10 M11 h => ?_)) Z.rm
  show AW X 138 _ [(0, _)] M11
  refine am_if_eq (pc := 138) G 143 dX10_unify_138 (by decide) (fun c => ?_) (fun c => ?_)
  · have h := h.1 c
    refine am_aload_n (i := 0) (t := 17) (pc := 143) G dX10_unify_143 rfl rfl rfl ?_
    refine gf_X10_40 (pc := 144) G dX10_unify_144 tw_f_RX10_94 ?_
    refine am_iload (pc := 147) G dX10_unify_147 rfl ?_
    refine am_iload (pc := 149) G dX10_unify_149 rfl ?_
    refine am_iast (pc := 151) G 16 dX10_unify_151 (by decide) h.1 ?_
    have h := h.2
    refine am_goto (pc := 152) G 267 dX10_unify_152 (by decide) ?_
    refine am_goto (pc := 267) G 38 dX10_unify_267 (by decide) ?_
    refine am_le (ls' := [(20, _), (99, 0), (99, 0), (0, _), (99, 0), (99, 0), (99, 0), (99, 0), (99, 0), (99, 0), (99, 0)]) ⟨Or.inr rfl, ⟨Or.inl rfl, ⟨Or.inl rfl, ⟨Or.inr rfl, ⟨Or.inl rfl, ⟨Or.inl rfl, ⟨Or.inl rfl, ⟨Or.inl rfl, ⟨Or.inl rfl, ⟨Or.inl rfl, ⟨Or.inl rfl, trivial⟩⟩⟩⟩⟩⟩⟩⟩⟩⟩⟩ ?_
    exact k38 _ _ h
  · have h := h.2 c
    refine am_iconst (pc := 141) G dX10_unify_141 (by decide) ?_
    exact am_zret (pc := 142) G Z dX10_unify_142 ⟨by decide, h⟩
def wp_X10_unify_114 (V : VV) (x3 x4 x5 x6 s0 : Int) (M : Mem) (Q : Int → Mem → Prop) (B38 : Int → Mem → Prop) : Prop :=
  (x6 < 0 →
    wp_X10_unify_128 V x3 s0 x4 M Q B38) ∧ (¬ (x6 < 0) →
    wp_X10_unify_128 V x3 s0 x5 M Q B38)
theorem swp_X10_unify_114 {X : XX} {Q : Int → Mem → Prop} (G : GX X cX10_unify "TreeHandsModel") (Z : RX X 1 Q) (hn : nLX X = 11) (hr : roomX X = rm_X10_unify) (x3 x4 x5 x6 s0 : Int) (M : Mem) (B38 : Int → Mem → Prop) (k38 : ∀ (z3 : Int) (N : Mem), B38 z3 N → AW X 38 [(20, 203), (99, 0), (99, 0), (0, z3), (99, 0), (99, 0), (99, 0), (99, 0), (99, 0), (99, 0), (99, 0)] [] N) (h : wp_X10_unify_114 (vX X) x3 x4 x5 x6 s0 M Q B38) : AW X 114 [(20, 203), (99, 0), (99, 0), (0, x3), (0, x4), (0, x5), (0, x6), (99, 0), (99, 0), (99, 0), (99, 0)] [(0, s0)] M := by
  unfold wp_X10_unify_114 at h
  refine am_istore (pc := 114) G dX10_unify_114 (nlx hn rfl) rfl ?_
  refine am_iload (pc := 116) (ls := [(20, _), (99, _), (99, _), (0, _), (0, _), (0, _), (0, _), (99, _), (0, _), (99, _), (99, _)]) G dX10_unify_116 rfl ?_
  refine am_if_lt (pc := 118) G 126 dX10_unify_118 (by decide) (fun c => ?_) (fun c => ?_)
  · have h := h.1 c
    refine am_iload (pc := 126) G dX10_unify_126 rfl ?_
    refine am_le (ls' := [(20, _), (99, 0), (99, 0), (0, _), (99, 0), (99, 0), (99, 0), (99, 0), (0, _), (99, 0), (99, 0)]) ⟨Or.inr rfl, ⟨Or.inl rfl, ⟨Or.inl rfl, ⟨Or.inr rfl, ⟨Or.inl rfl, ⟨Or.inl rfl, ⟨Or.inl rfl, ⟨Or.inl rfl, ⟨Or.inr rfl, ⟨Or.inl rfl, ⟨Or.inl rfl, trivial⟩⟩⟩⟩⟩⟩⟩⟩⟩⟩⟩ ?_
    exact swp_X10_unify_128 G Z hn hr _ _ _ _ B38 k38 h
  · have h := h.2 c
    refine am_iload (pc := 121) G dX10_unify_121 rfl ?_
    refine am_goto (pc := 123) G 128 dX10_unify_123 (by decide) ?_
    refine am_le (ls' := [(20, _), (99, 0), (99, 0), (0, _), (99, 0), (99, 0), (99, 0), (99, 0), (0, _), (99, 0), (99, 0)]) ⟨Or.inr rfl, ⟨Or.inl rfl, ⟨Or.inl rfl, ⟨Or.inr rfl, ⟨Or.inl rfl, ⟨Or.inl rfl, ⟨Or.inl rfl, ⟨Or.inl rfl, ⟨Or.inr rfl, ⟨Or.inl rfl, ⟨Or.inl rfl, trivial⟩⟩⟩⟩⟩⟩⟩⟩⟩⟩⟩ ?_
    exact swp_X10_unify_128 G Z hn hr _ _ _ _ B38 k38 h
def wp_X10_unify_95 (V : VV) (x3 x4 x5 x6 x7 : Int) (M : Mem) (Q : Int → Mem → Prop) (B38 : Int → Mem → Prop) : Prop :=
  (x6 = x7 →
    B38 x3 M) ∧ (¬ (x6 = x7) →
    (x6 < 0 →
      wp_X10_unify_114 V x3 x4 x5 x6 x7 M Q B38) ∧ (¬ (x6 < 0) →
      wp_X10_unify_114 V x3 x4 x5 x6 x6 M Q B38))
theorem swp_X10_unify_95 {X : XX} {Q : Int → Mem → Prop} (G : GX X cX10_unify "TreeHandsModel") (Z : RX X 1 Q) (hn : nLX X = 11) (hr : roomX X = rm_X10_unify) (x3 x4 x5 x6 x7 : Int) (M : Mem) (B38 : Int → Mem → Prop) (k38 : ∀ (z3 : Int) (N : Mem), B38 z3 N → AW X 38 [(20, 203), (99, 0), (99, 0), (0, z3), (99, 0), (99, 0), (99, 0), (99, 0), (99, 0), (99, 0), (99, 0)] [] N) (h : wp_X10_unify_95 (vX X) x3 x4 x5 x6 x7 M Q B38) : AW X 95 [(20, 203), (99, 0), (99, 0), (0, x3), (0, x4), (0, x5), (0, x6), (0, x7), (99, 0), (99, 0), (99, 0)] [] M := by
  unfold wp_X10_unify_95 at h
  refine am_iload (pc := 95) G dX10_unify_95 rfl ?_
  refine am_iload (pc := 97) G dX10_unify_97 rfl ?_
  refine am_icmp_eq (pc := 99) G 267 dX10_unify_99 (by decide) (fun c => ?_) (fun c => ?_)
  · have h := h.1 c
    refine am_goto (pc := 267) G 38 dX10_unify_267 (by decide) ?_
    refine am_le (ls' := [(20, _), (99, 0), (99, 0), (0, _), (99, 0), (99, 0), (99, 0), (99, 0), (99, 0), (99, 0), (99, 0)]) ⟨Or.inr rfl, ⟨Or.inl rfl, ⟨Or.inl rfl, ⟨Or.inr rfl, ⟨Or.inl rfl, ⟨Or.inl rfl, ⟨Or.inl rfl, ⟨Or.inl rfl, ⟨Or.inl rfl, ⟨Or.inl rfl, ⟨Or.inl rfl, trivial⟩⟩⟩⟩⟩⟩⟩⟩⟩⟩⟩ ?_
    exact k38 _ _ h
  · have h := h.2 c
    refine am_iload (pc := 102) G dX10_unify_102 rfl ?_
    refine am_if_lt (pc := 104) G 112 dX10_unify_104 (by decide) (fun c => ?_) (fun c => ?_)
    · have h := h.1 c
      refine am_iload (pc := 112) G dX10_unify_112 rfl ?_
      refine am_le (ls' := [(20, _), (99, 0), (99, 0), (0, _), (0, _), (0, _), (0, _), (99, 0), (99, 0), (99, 0), (99, 0)]) ⟨Or.inr rfl, ⟨Or.inl rfl, ⟨Or.inl rfl, ⟨Or.inr rfl, ⟨Or.inr rfl, ⟨Or.inr rfl, ⟨Or.inr rfl, ⟨Or.inl rfl, ⟨Or.inl rfl, ⟨Or.inl rfl, ⟨Or.inl rfl, trivial⟩⟩⟩⟩⟩⟩⟩⟩⟩⟩⟩ ?_
      exact swp_X10_unify_114 G Z hn hr _ _ _ _ _ _ B38 k38 h
    · have h := h.2 c
      refine am_iload (pc := 107) G dX10_unify_107 rfl ?_
      refine am_goto (pc := 109) G 114 dX10_unify_109 (by decide) ?_
      refine am_le (ls' := [(20, _), (99, 0), (99, 0), (0, _), (0, _), (0, _), (0, _), (99, 0), (99, 0), (99, 0), (99, 0)]) ⟨Or.inr rfl, ⟨Or.inl rfl, ⟨Or.inl rfl, ⟨Or.inr rfl, ⟨Or.inr rfl, ⟨Or.inr rfl, ⟨Or.inr rfl, ⟨Or.inl rfl, ⟨Or.inl rfl, ⟨Or.inl rfl, ⟨Or.inl rfl, trivial⟩⟩⟩⟩⟩⟩⟩⟩⟩⟩⟩ ?_
      exact swp_X10_unify_114 G Z hn hr _ _ _ _ _ _ B38 k38 h
def wp_X10_unify_209_b (V : VV) (x3 x4 x8 x9 x10 : Int) (M : Mem) (Q : Int → Mem → Prop) (B38 : Int → Mem → Prop) (B209 : Int → Int → Int → Int → Mem → Prop) : Prop :=
  R_X10_partsAt V x4 M (fun r20 M21 =>
  (r20 ≤ x10 →
    B38 x3 M21) ∧ (¬ (r20 ≤ x10) →
    ((0 : Int) ≤ x3 ∧ x3 < (128 : Int)) ∧
    ∀ M22 : Mem, M22 = mset M21 233 x3 x8 →
    ((0 : Int) ≤ x3 ∧ x3 < (256 : Int)) ∧
    ∀ M23 : Mem, M23 = mset M22 235 x3 x9 →
    R_X10_sizeAt V x8 M23 (fun r24 M25 =>
    R_X10_sizeAt V x9 M25 (fun r26 M27 =>
    B209 (w32 (x3 + 1)) (w32 (x8 + r24)) (w32 (x9 + r26)) (w32 (x10 + 1)) M27))))
theorem swp_X10_unify_209_b {X : XX} {Q : Int → Mem → Prop} (G : GX X cX10_unify "TreeHandsModel") (Z : RX X 1 Q) (hn : nLX X = 11) (hr : roomX X = rm_X10_unify) (x3 x4 x8 x9 x10 : Int) (M : Mem) (B38 : Int → Mem → Prop) (k38 : ∀ (z3 : Int) (N : Mem), B38 z3 N → AW X 38 [(20, 203), (99, 0), (99, 0), (0, z3), (99, 0), (99, 0), (99, 0), (99, 0), (99, 0), (99, 0), (99, 0)] [] N) (B209 : Int → Int → Int → Int → Mem → Prop) (k209 : ∀ (z3 z8 z9 z10 : Int) (N : Mem), B209 z3 z8 z9 z10 N → AW X 209 [(20, 203), (99, 0), (99, 0), (0, z3), (0, x4), (99, 0), (99, 0), (99, 0), (0, z8), (0, z9), (0, z10)] [] N) (h : wp_X10_unify_209_b (vX X) x3 x4 x8 x9 x10 M Q B38 B209) : AW X 209 [(20, 203), (99, 0), (99, 0), (0, x3), (0, x4), (99, 0), (99, 0), (99, 0), (0, x8), (0, x9), (0, x10)] [] M := by
  unfold wp_X10_unify_209_b at h
  refine am_iload (pc := 209) G dX10_unify_209 rfl ?_
  refine am_aload_n (i := 0) (t := 17) (pc := 211) G dX10_unify_211 rfl rfl rfl ?_
  refine am_iload (pc := 212) G dX10_unify_212 rfl ?_
  refine am_callV (rk := 0) (rmc := rm_X10_partsAt) (st := [(0, _)]) (pc := 214) G 10 [(0, _)] rfl (by decide) rfl dX10_unify_214 tw_m_RX10_265 tw_i_X10_partsAt tw_v_X10_partsAt tw_z_RX10 tw_c_X10_partsAt hy_X10_partsAt (callrm hr rfl) rfl (RunsM.mono h (fun r20 M21 h => ?_)) Z.rm
  show AW X 217 _ [(0, _), (0, _)] M21
  refine am_icmp_ge (pc := 217) G 267 dX10_unify_217 (by decide) (fun c => ?_) (fun c => ?_)
  · have h := h.1 c
    refine am_goto (pc := 267) G 38 dX10_unify_267 (by decide) ?_
    refine am_le (ls' := [(20, _), (99, 0), (99, 0), (0, _), (99, 0), (99, 0), (99, 0), (99, 0), (99, 0), (99, 0), (99, 0)]) ⟨Or.inr rfl, ⟨Or.inl rfl, ⟨Or.inl rfl, ⟨Or.inr rfl, ⟨Or.inl rfl, ⟨Or.inl rfl, ⟨Or.inl rfl, ⟨Or.inl rfl, ⟨Or.inl rfl, ⟨Or.inl rfl, ⟨Or.inl rfl, trivial⟩⟩⟩⟩⟩⟩⟩⟩⟩⟩⟩ ?_
    exact k38 _ _ h
  · have h := h.2 c
    refine am_aload_n (i := 0) (t := 17) (pc := 220) G dX10_unify_220 rfl rfl rfl ?_
    refine gf_X10_41 (pc := 221) G dX10_unify_221 tw_f_RX10_97 ?_
    refine am_iload_n (i := 3) (pc := 224) G dX10_unify_224 rfl rfl ?_
    refine am_iload (pc := 225) G dX10_unify_225 rfl ?_
    refine am_iast (pc := 227) G 128 dX10_unify_227 (by decide) h.1 ?_
    have h := h.2
    refine am_aload_n (i := 0) (t := 17) (pc := 228) G dX10_unify_228 rfl rfl rfl ?_
    refine gf_X10_43 (pc := 229) G dX10_unify_229 tw_f_RX10_103 ?_
    refine am_iload_n (i := 3) (pc := 232) G dX10_unify_232 rfl rfl ?_
    refine am_iload (pc := 233) G dX10_unify_233 rfl ?_
    have h := h _ rfl
    refine am_iast (pc := 235) G 256 dX10_unify_235 (by decide) h.1 ?_
    have h := h.2
    refine am_iinc (pc := 236) G dX10_unify_236 rfl (nlx hn rfl) rfl ?_
    refine am_iload (pc := 239) (ls := [(20, _), (99, _), (99, _), (0, _), (0, _), (99, _), (99, _), (99, _), (0, _), (0, _), (0, _)]) G dX10_unify_239 rfl ?_
    refine am_aload_n (i := 0) (t := 17) (pc := 241) G dX10_unify_241 rfl rfl rfl ?_
    refine am_iload (pc := 242) G dX10_unify_242 rfl ?_
    have h := h _ rfl
    refine am_callV (rk := 0) (rmc := rm_X10_sizeAt) (st := [(0, _)]) (pc := 244) G 10 [(0, _)] rfl (by decide) rfl dX10_unify_244 tw_m_RX10_268 tw_i_X10_sizeAt tw_v_X10_sizeAt tw_z_RX10 tw_c_X10_sizeAt hy_X10_sizeAt (callrm hr rfl) rfl (RunsM.mono h (fun r24 M25 h => ?_)) Z.rm
    show AW X 247 _ [(0, _), (0, _)] M25
    refine am_iadd (pc := 247) G dX10_unify_247 ?_
    refine am_istore (pc := 248) G dX10_unify_248 (nlx hn rfl) rfl ?_
    refine am_iload (pc := 250) (ls := [(20, _), (99, _), (99, _), (0, _), (0, _), (99, _), (99, _), (99, _), (0, _), (0, _), (0, _)]) G dX10_unify_250 rfl ?_
    refine am_aload_n (i := 0) (t := 17) (pc := 252) G dX10_unify_252 rfl rfl rfl ?_
    refine am_iload (pc := 253) G dX10_unify_253 rfl ?_
    refine am_callV (rk := 0) (rmc := rm_X10_sizeAt) (st := [(0, _)]) (pc := 255) G 10 [(0, _)] rfl (by decide) rfl dX10_unify_255 tw_m_RX10_268 tw_i_X10_sizeAt tw_v_X10_sizeAt tw_z_RX10 tw_c_X10_sizeAt hy_X10_sizeAt (callrm hr rfl) rfl (RunsM.mono h (fun r26 M27 h => ?_)) Z.rm
    show AW X 258 _ [(0, _), (0, _)] M27
    refine am_iadd (pc := 258) G dX10_unify_258 ?_
    refine am_istore (pc := 259) G dX10_unify_259 (nlx hn rfl) rfl ?_
    refine am_iinc (pc := 261) (ls := [(20, _), (99, _), (99, _), (0, _), (0, _), (99, _), (99, _), (99, _), (0, _), (0, _), (0, _)]) G dX10_unify_261 rfl (nlx hn rfl) rfl ?_
    refine am_goto (pc := 264) (ls := [(20, _), (99, _), (99, _), (0, _), (0, _), (99, _), (99, _), (99, _), (0, _), (0, _), (0, _)]) G 209 dX10_unify_264 (by decide) ?_
    refine am_le (ls' := [(20, _), (99, 0), (99, 0), (0, _), (0, _), (99, 0), (99, 0), (99, 0), (0, _), (0, _), (0, _)]) ⟨Or.inr rfl, ⟨Or.inl rfl, ⟨Or.inl rfl, ⟨Or.inr rfl, ⟨Or.inr rfl, ⟨Or.inl rfl, ⟨Or.inl rfl, ⟨Or.inl rfl, ⟨Or.inr rfl, ⟨Or.inr rfl, ⟨Or.inr rfl, trivial⟩⟩⟩⟩⟩⟩⟩⟩⟩⟩⟩ ?_
    exact k209 _ _ _ _ _ h
def wp_X10_unify_209 (V : VV) (x3 x4 x8 x9 x10 : Int) (M : Mem) (Q : Int → Mem → Prop) (B38 : Int → Mem → Prop) : Prop :=
  ∃ (I : Int → Int → Int → Int → Mem → Prop) (μ : Int → Int → Int → Int → Mem → Nat), I x3 x8 x9 x10 M ∧ ∀ (y3 y8 y9 y10 : Int) (N : Mem), I y3 y8 y9 y10 N → wp_X10_unify_209_b V y3 x4 y8 y9 y10 N Q B38 (fun z3 z8 z9 z10 N1 => I z3 z8 z9 z10 N1 ∧ μ z3 z8 z9 z10 N1 < μ y3 y8 y9 y10 N)
theorem swp_X10_unify_209 {X : XX} {Q : Int → Mem → Prop} (G : GX X cX10_unify "TreeHandsModel") (Z : RX X 1 Q) (hn : nLX X = 11) (hr : roomX X = rm_X10_unify) (x3 x4 x8 x9 x10 : Int) (M : Mem) (B38 : Int → Mem → Prop) (k38 : ∀ (z3 : Int) (N : Mem), B38 z3 N → AW X 38 [(20, 203), (99, 0), (99, 0), (0, z3), (99, 0), (99, 0), (99, 0), (99, 0), (99, 0), (99, 0), (99, 0)] [] N) (h : wp_X10_unify_209 (vX X) x3 x4 x8 x9 x10 M Q B38) : AW X 209 [(20, 203), (99, 0), (99, 0), (0, x3), (0, x4), (99, 0), (99, 0), (99, 0), (0, x8), (0, x9), (0, x10)] [] M := by
  unfold wp_X10_unify_209 at h
  obtain ⟨I, μ, hI, hs⟩ := h
  have key : ∀ (n : Nat) (y3 y8 y9 y10 : Int) (N : Mem), μ y3 y8 y9 y10 N < n → I y3 y8 y9 y10 N → AW X 209 [(20, 203), (99, 0), (99, 0), (0, y3), (0, x4), (99, 0), (99, 0), (99, 0), (0, y8), (0, y9), (0, y10)] [] N := by
    intro n
    induction n with
    | zero => intro y3 y8 y9 y10 N hlt; exact absurd hlt (Nat.not_lt_zero _)
    | succ n ih =>
      intro y3 y8 y9 y10 N hlt hI
      exact swp_X10_unify_209_b G Z hn hr y3 x4 y8 y9 y10 N B38 k38 (fun z3 z8 z9 z10 N1 => I z3 z8 z9 z10 N1 ∧ μ z3 z8 z9 z10 N1 < μ y3 y8 y9 y10 N) (fun z3 z8 z9 z10 N1 hz => ih z3 z8 z9 z10 N1 (by omega) hz.1) (hs y3 y8 y9 y10 N hI)
  exact key _ x3 x8 x9 x10 M (Nat.lt_succ_self _) hI
def wp_X10_unify_38_b (V : VV) (x3 : Int) (M : Mem) (Q : Int → Mem → Prop) (B38 : Int → Mem → Prop) : Prop :=
  (x3 ≤ 0 →
    Q 1 M) ∧ (¬ (x3 ≤ 0) →
    ((0 : Int) ≤ w32 (x3 + (-1)) ∧ w32 (x3 + (-1)) < (128 : Int)) ∧
    R_X10_follow V (M 233 (w32 (x3 + (-1)))) M (fun r2 M3 =>
    ((0 : Int) ≤ w32 (x3 + (-1)) ∧ w32 (x3 + (-1)) < (256 : Int)) ∧
    R_X10_follow V (M3 235 (w32 (x3 + (-1)))) M3 (fun r4 M5 =>
    R_X10_holeAt V r2 M5 (fun r6 M7 =>
    R_X10_holeAt V r4 M7 (fun r8 M9 =>
    (0 ≤ r6 →
      wp_X10_unify_95 V (w32 (x3 + (-1))) r2 r4 r6 r8 M9 Q B38) ∧ (¬ (0 ≤ r6) →
      (r8 < 0 →
        (r2 = r4 →
          B38 (w32 (x3 + (-1))) M9) ∧ (¬ (r2 = r4) →
          R_X10_labelAt V r2 M9 (fun r12 M13 =>
          R_X10_labelAt V r4 M13 (fun r14 M15 =>
          (r12 = r14 →
            R_X10_partsAt V r2 M15 (fun r16 M17 =>
            R_X10_partsAt V r4 M17 (fun r18 M19 =>
            (r16 = r18 →
              wp_X10_unify_209 V (w32 (x3 + (-1))) r2 (w32 (r2 + 1)) (w32 (r4 + 1)) 0 M19 Q B38) ∧ (¬ (r16 = r18) →
              Q 0 M19)))) ∧ (¬ (r12 = r14) →
            Q 0 M15))))) ∧ (¬ (r8 < 0) →
        wp_X10_unify_95 V (w32 (x3 + (-1))) r2 r4 r6 r8 M9 Q B38)))))))
theorem swp_X10_unify_38_b {X : XX} {Q : Int → Mem → Prop} (G : GX X cX10_unify "TreeHandsModel") (Z : RX X 1 Q) (hn : nLX X = 11) (hr : roomX X = rm_X10_unify) (x3 : Int) (M : Mem) (B38 : Int → Mem → Prop) (k38 : ∀ (z3 : Int) (N : Mem), B38 z3 N → AW X 38 [(20, 203), (99, 0), (99, 0), (0, z3), (99, 0), (99, 0), (99, 0), (99, 0), (99, 0), (99, 0), (99, 0)] [] N) (h : wp_X10_unify_38_b (vX X) x3 M Q B38) : AW X 38 [(20, 203), (99, 0), (99, 0), (0, x3), (99, 0), (99, 0), (99, 0), (99, 0), (99, 0), (99, 0), (99, 0)] [] M := by
  unfold wp_X10_unify_38_b at h
  refine am_iload_n (i := 3) (pc := 38) G dX10_unify_38 rfl rfl ?_
  refine am_if_le (pc := 39) G 270 dX10_unify_39 (by decide) (fun c => ?_) (fun c => ?_)
  · have h := h.1 c
    refine am_iconst (pc := 270) G dX10_unify_270 (by decide) ?_
    exact am_zret (pc := 271) G Z dX10_unify_271 ⟨by decide, h⟩
  · have h := h.2 c
    refine am_iinc (pc := 42) G dX10_unify_42 rfl (nlx hn rfl) rfl ?_
    refine am_aload_n (i := 0) (t := 17) (pc := 45) (ls := [(20, _), (99, _), (99, _), (0, _), (99, _), (99, _), (99, _), (99, _), (99, _), (99, _), (99, _)]) G dX10_unify_45 rfl rfl rfl ?_
    refine am_aload_n (i := 0) (t := 17) (pc := 46) G dX10_unify_46 rfl rfl rfl ?_
    refine gf_X10_41 (pc := 47) G dX10_unify_47 tw_f_RX10_97 ?_
    refine am_iload_n (i := 3) (pc := 50) G dX10_unify_50 rfl rfl ?_
    refine am_iald (pc := 51) G 128 dX10_unify_51 (by decide) h.1 ?_
    have h := h.2
    refine am_callV (rk := 0) (rmc := rm_X10_follow) (st := []) (pc := 52) G 10 [(0, _)] rfl (by decide) rfl dX10_unify_52 tw_m_RX10_262 tw_i_X10_follow tw_v_X10_follow tw_z_RX10 tw_c_X10_follow hy_X10_follow (callrm hr rfl) rfl (RunsM.mono h (fun r2 M3 h => ?_)) Z.rm
    show AW X 55 _ [(0, _)] M3
    refine am_istore (pc := 55) G dX10_unify_55 (nlx hn rfl) rfl ?_
    refine am_aload_n (i := 0) (t := 17) (pc := 57) (ls := [(20, _), (99, _), (99, _), (0, _), (0, _), (99, _), (99, _), (99, _), (99, _), (99, _), (99, _)]) G dX10_unify_57 rfl rfl rfl ?_
    refine am_aload_n (i := 0) (t := 17) (pc := 58) G dX10_unify_58 rfl rfl rfl ?_
    refine gf_X10_43 (pc := 59) G dX10_unify_59 tw_f_RX10_103 ?_
    refine am_iload_n (i := 3) (pc := 62) G dX10_unify_62 rfl rfl ?_
    refine am_iald (pc := 63) G 256 dX10_unify_63 (by decide) h.1 ?_
    have h := h.2
    refine am_callV (rk := 0) (rmc := rm_X10_follow) (st := []) (pc := 64) G 10 [(0, _)] rfl (by decide) rfl dX10_unify_64 tw_m_RX10_262 tw_i_X10_follow tw_v_X10_follow tw_z_RX10 tw_c_X10_follow hy_X10_follow (callrm hr rfl) rfl (RunsM.mono h (fun r4 M5 h => ?_)) Z.rm
    show AW X 67 _ [(0, _)] M5
    refine am_istore (pc := 67) G dX10_unify_67 (nlx hn rfl) rfl ?_
    refine am_aload_n (i := 0) (t := 17) (pc := 69) (ls := [(20, _), (99, _), (99, _), (0, _), (0, _), (0, _), (99, _), (99, _), (99, _), (99, _), (99, _)]) G dX10_unify_69 rfl rfl rfl ?_
    refine am_iload (pc := 70) G dX10_unify_70 rfl ?_
    refine am_callV (rk := 0) (rmc := rm_X10_holeAt) (st := []) (pc := 72) G 10 [(0, _)] rfl (by decide) rfl dX10_unify_72 tw_m_RX10_259 tw_i_X10_holeAt tw_v_X10_holeAt tw_z_RX10 tw_c_X10_holeAt hy_X10_holeAt (callrm hr rfl) rfl (RunsM.mono h (fun r6 M7 h => ?_)) Z.rm
    show AW X 75 _ [(0, _)] M7
    refine am_istore (pc := 75) G dX10_unify_75 (nlx hn rfl) rfl ?_
    refine am_aload_n (i := 0) (t := 17) (pc := 77) (ls := [(20, _), (99, _), (99, _), (0, _), (0, _), (0, _), (0, _), (99, _), (99, _), (99, _), (99, _)]) G dX10_unify_77 rfl rfl rfl ?_
    refine am_iload (pc := 78) G dX10_unify_78 rfl ?_
    refine am_callV (rk := 0) (rmc := rm_X10_holeAt) (st := []) (pc := 80) G 10 [(0, _)] rfl (by decide) rfl dX10_unify_80 tw_m_RX10_259 tw_i_X10_holeAt tw_v_X10_holeAt tw_z_RX10 tw_c_X10_holeAt hy_X10_holeAt (callrm hr rfl) rfl (RunsM.mono h (fun r8 M9 h => ?_)) Z.rm
    show AW X 83 _ [(0, _)] M9
    refine am_istore (pc := 83) G dX10_unify_83 (nlx hn rfl) rfl ?_
    refine am_iload (pc := 85) (ls := [(20, _), (99, _), (99, _), (0, _), (0, _), (0, _), (0, _), (0, _), (99, _), (99, _), (99, _)]) G dX10_unify_85 rfl ?_
    refine am_if_ge (pc := 87) G 95 dX10_unify_87 (by decide) (fun c => ?_) (fun c => ?_)
    · have h := h.1 c
      refine am_le (ls' := [(20, _), (99, 0), (99, 0), (0, _), (0, _), (0, _), (0, _), (0, _), (99, 0), (99, 0), (99, 0)]) ⟨Or.inr rfl, ⟨Or.inl rfl, ⟨Or.inl rfl, ⟨Or.inr rfl, ⟨Or.inr rfl, ⟨Or.inr rfl, ⟨Or.inr rfl, ⟨Or.inr rfl, ⟨Or.inl rfl, ⟨Or.inl rfl, ⟨Or.inl rfl, trivial⟩⟩⟩⟩⟩⟩⟩⟩⟩⟩⟩ ?_
      exact swp_X10_unify_95 G Z hn hr _ _ _ _ _ _ B38 k38 h
    · have h := h.2 c
      refine am_iload (pc := 90) G dX10_unify_90 rfl ?_
      refine am_if_lt (pc := 92) G 155 dX10_unify_92 (by decide) (fun c => ?_) (fun c => ?_)
      · have h := h.1 c
        refine am_iload (pc := 155) G dX10_unify_155 rfl ?_
        refine am_iload (pc := 157) G dX10_unify_157 rfl ?_
        refine am_icmp_eq (pc := 159) G 267 dX10_unify_159 (by decide) (fun c => ?_) (fun c => ?_)
        · have h := h.1 c
          refine am_goto (pc := 267) G 38 dX10_unify_267 (by decide) ?_
          refine am_le (ls' := [(20, _), (99, 0), (99, 0), (0, _), (99, 0), (99, 0), (99, 0), (99, 0), (99, 0), (99, 0), (99, 0)]) ⟨Or.inr rfl, ⟨Or.inl rfl, ⟨Or.inl rfl, ⟨Or.inr rfl, ⟨Or.inl rfl, ⟨Or.inl rfl, ⟨Or.inl rfl, ⟨Or.inl rfl, ⟨Or.inl rfl, ⟨Or.inl rfl, ⟨Or.inl rfl, trivial⟩⟩⟩⟩⟩⟩⟩⟩⟩⟩⟩ ?_
          exact k38 _ _ h
        · have h := h.2 c
          refine am_aload_n (i := 0) (t := 17) (pc := 162) G dX10_unify_162 rfl rfl rfl ?_
          refine am_iload (pc := 163) G dX10_unify_163 rfl ?_
          refine am_callV (rk := 0) (rmc := rm_X10_labelAt) (st := []) (pc := 165) G 10 [(0, _)] rfl (by decide) rfl dX10_unify_165 tw_m_RX10_256 tw_i_X10_labelAt tw_v_X10_labelAt tw_z_RX10 tw_c_X10_labelAt hy_X10_labelAt (callrm hr rfl) rfl (RunsM.mono h (fun r12 M13 h => ?_)) Z.rm
          show AW X 168 _ [(0, _)] M13
          refine am_aload_n (i := 0) (t := 17) (pc := 168) G dX10_unify_168 rfl rfl rfl ?_
          refine am_iload (pc := 169) G dX10_unify_169 rfl ?_
          refine am_callV (rk := 0) (rmc := rm_X10_labelAt) (st := [(0, _)]) (pc := 171) G 10 [(0, _)] rfl (by decide) rfl dX10_unify_171 tw_m_RX10_256 tw_i_X10_labelAt tw_v_X10_labelAt tw_z_RX10 tw_c_X10_labelAt hy_X10_labelAt (callrm hr rfl) rfl (RunsM.mono h (fun r14 M15 h => ?_)) Z.rm
          show AW X 174 _ [(0, _), (0, _)] M15
          refine am_icmp_ne (pc := 174) G 192 dX10_unify_174 (by decide) (fun c => ?_) (fun c => ?_)
          · have h := h.2 c
            refine am_iconst (pc := 192) G dX10_unify_192 (by decide) ?_
            exact am_zret (pc := 193) G Z dX10_unify_193 ⟨by decide, h⟩
          · have h := h.1 c
            refine am_aload_n (i := 0) (t := 17) (pc := 177) G dX10_unify_177 rfl rfl rfl ?_
            refine am_iload (pc := 178) G dX10_unify_178 rfl ?_
            refine am_callV (rk := 0) (rmc := rm_X10_partsAt) (st := []) (pc := 180) G 10 [(0, _)] rfl (by decide) rfl dX10_unify_180 tw_m_RX10_265 tw_i_X10_partsAt tw_v_X10_partsAt tw_z_RX10 tw_c_X10_partsAt hy_X10_partsAt (callrm hr rfl) rfl (RunsM.mono h (fun r16 M17 h => ?_)) Z.rm
            show AW X 183 _ [(0, _)] M17
            refine am_aload_n (i := 0) (t := 17) (pc := 183) G dX10_unify_183 rfl rfl rfl ?_
            refine am_iload (pc := 184) G dX10_unify_184 rfl ?_
            refine am_callV (rk := 0) (rmc := rm_X10_partsAt) (st := [(0, _)]) (pc := 186) G 10 [(0, _)] rfl (by decide) rfl dX10_unify_186 tw_m_RX10_265 tw_i_X10_partsAt tw_v_X10_partsAt tw_z_RX10 tw_c_X10_partsAt hy_X10_partsAt (callrm hr rfl) rfl (RunsM.mono h (fun r18 M19 h => ?_)) Z.rm
            show AW X 189 _ [(0, _), (0, _)] M19
            refine am_icmp_eq (pc := 189) G 194 dX10_unify_189 (by decide) (fun c => ?_) (fun c => ?_)
            · have h := h.1 c
              refine am_iload (pc := 194) G dX10_unify_194 rfl ?_
              refine am_iconst (pc := 196) G dX10_unify_196 (by decide) ?_
              refine am_iadd (pc := 197) G dX10_unify_197 ?_
              refine am_istore (pc := 198) G dX10_unify_198 (nlx hn rfl) rfl ?_
              refine am_iload (pc := 200) (ls := [(20, _), (99, _), (99, _), (0, _), (0, _), (0, _), (0, _), (0, _), (0, _), (99, _), (99, _)]) G dX10_unify_200 rfl ?_
              refine am_iconst (pc := 202) G dX10_unify_202 (by decide) ?_
              refine am_iadd (pc := 203) G dX10_unify_203 ?_
              refine am_istore (pc := 204) G dX10_unify_204 (nlx hn rfl) rfl ?_
              refine am_iconst (pc := 206) (ls := [(20, _), (99, _), (99, _), (0, _), (0, _), (0, _), (0, _), (0, _), (0, _), (0, _), (99, _)]) G dX10_unify_206 (by decide) ?_
              refine am_istore (pc := 207) G dX10_unify_207 (nlx hn rfl) rfl ?_
              refine am_le (ls' := [(20, _), (99, 0), (99, 0), (0, _), (0, _), (99, 0), (99, 0), (99, 0), (0, _), (0, _), (0, _)]) ⟨Or.inr rfl, ⟨Or.inl rfl, ⟨Or.inl rfl, ⟨Or.inr rfl, ⟨Or.inr rfl, ⟨Or.inl rfl, ⟨Or.inl rfl, ⟨Or.inl rfl, ⟨Or.inr rfl, ⟨Or.inr rfl, ⟨Or.inr rfl, trivial⟩⟩⟩⟩⟩⟩⟩⟩⟩⟩⟩ ?_
              exact swp_X10_unify_209 G Z hn hr _ _ _ _ _ _ B38 k38 h
            · have h := h.2 c
              refine am_iconst (pc := 192) G dX10_unify_192 (by decide) ?_
              exact am_zret (pc := 193) G Z dX10_unify_193 ⟨by decide, h⟩
      · have h := h.2 c
        refine am_le (ls' := [(20, _), (99, 0), (99, 0), (0, _), (0, _), (0, _), (0, _), (0, _), (99, 0), (99, 0), (99, 0)]) ⟨Or.inr rfl, ⟨Or.inl rfl, ⟨Or.inl rfl, ⟨Or.inr rfl, ⟨Or.inr rfl, ⟨Or.inr rfl, ⟨Or.inr rfl, ⟨Or.inr rfl, ⟨Or.inl rfl, ⟨Or.inl rfl, ⟨Or.inl rfl, trivial⟩⟩⟩⟩⟩⟩⟩⟩⟩⟩⟩ ?_
        exact swp_X10_unify_95 G Z hn hr _ _ _ _ _ _ B38 k38 h
def wp_X10_unify_38 (V : VV) (x3 : Int) (M : Mem) (Q : Int → Mem → Prop) : Prop :=
  ∃ (I : Int → Mem → Prop) (μ : Int → Mem → Nat), I x3 M ∧ ∀ (y3 : Int) (N : Mem), I y3 N → wp_X10_unify_38_b V y3 N Q (fun z3 N1 => I z3 N1 ∧ μ z3 N1 < μ y3 N)
theorem swp_X10_unify_38 {X : XX} {Q : Int → Mem → Prop} (G : GX X cX10_unify "TreeHandsModel") (Z : RX X 1 Q) (hn : nLX X = 11) (hr : roomX X = rm_X10_unify) (x3 : Int) (M : Mem) (h : wp_X10_unify_38 (vX X) x3 M Q) : AW X 38 [(20, 203), (99, 0), (99, 0), (0, x3), (99, 0), (99, 0), (99, 0), (99, 0), (99, 0), (99, 0), (99, 0)] [] M := by
  unfold wp_X10_unify_38 at h
  obtain ⟨I, μ, hI, hs⟩ := h
  have key : ∀ (n : Nat) (y3 : Int) (N : Mem), μ y3 N < n → I y3 N → AW X 38 [(20, 203), (99, 0), (99, 0), (0, y3), (99, 0), (99, 0), (99, 0), (99, 0), (99, 0), (99, 0), (99, 0)] [] N := by
    intro n
    induction n with
    | zero => intro y3 N hlt; exact absurd hlt (Nat.not_lt_zero _)
    | succ n ih =>
      intro y3 N hlt hI
      exact swp_X10_unify_38_b G Z hn hr y3 N (fun z3 N1 => I z3 N1 ∧ μ z3 N1 < μ y3 N) (fun z3 N1 hz => ih z3 N1 (by omega) hz.1) (hs y3 N hI)
  exact key _ x3 M (Nat.lt_succ_self _) hI
def wp_X10_unify_2_b (V : VV) (x1 x2 x3 : Int) (M : Mem) (Q : Int → Mem → Prop) (B2 : Int → Mem → Prop) : Prop :=
  (16 ≤ x3 →
    ((0 : Int) ≤ 0 ∧ 0 < (128 : Int)) ∧
    ∀ M1 : Mem, M1 = mset M 233 0 x1 →
    ((0 : Int) ≤ 0 ∧ 0 < (256 : Int)) ∧
    wp_X10_unify_38 V 1 (mset M1 235 0 x2) Q) ∧ (¬ (16 ≤ x3) →
    ((0 : Int) ≤ x3 ∧ x3 < (16 : Int)) ∧
    B2 (w32 (x3 + 1)) (mset M 232 x3 (-6)))
theorem swp_X10_unify_2_b {X : XX} {Q : Int → Mem → Prop} (G : GX X cX10_unify "TreeHandsModel") (Z : RX X 1 Q) (hn : nLX X = 11) (hr : roomX X = rm_X10_unify) (x1 x2 x3 : Int) (M : Mem) (B2 : Int → Mem → Prop) (k2 : ∀ (z3 : Int) (N : Mem), B2 z3 N → AW X 2 [(20, 203), (0, x1), (0, x2), (0, z3), (99, 0), (99, 0), (99, 0), (99, 0), (99, 0), (99, 0), (99, 0)] [] N) (h : wp_X10_unify_2_b (vX X) x1 x2 x3 M Q B2) : AW X 2 [(20, 203), (0, x1), (0, x2), (0, x3), (99, 0), (99, 0), (99, 0), (99, 0), (99, 0), (99, 0), (99, 0)] [] M := by
  unfold wp_X10_unify_2_b at h
  refine am_iload_n (i := 3) (pc := 2) G dX10_unify_2 rfl rfl ?_
  refine am_bipush (pc := 3) G dX10_unify_3 (by decide) (by decide) ?_
  refine am_icmp_ge (pc := 5) G 22 dX10_unify_5 (by decide) (fun c => ?_) (fun c => ?_)
  · have h := h.1 c
    refine am_iconst (pc := 22) G dX10_unify_22 (by decide) ?_
    refine am_istore_n (pc := 23) G dX10_unify_23 rfl (nlx hn rfl) rfl ?_
    refine am_aload_n (i := 0) (t := 17) (pc := 24) (ls := [(20, _), (0, _), (0, _), (0, _), (99, _), (99, _), (99, _), (99, _), (99, _), (99, _), (99, _)]) G dX10_unify_24 rfl rfl rfl ?_
    refine gf_X10_41 (pc := 25) G dX10_unify_25 tw_f_RX10_97 ?_
    refine am_iconst (pc := 28) G dX10_unify_28 (by decide) ?_
    refine am_iload_n (i := 1) (pc := 29) G dX10_unify_29 rfl rfl ?_
    refine am_iast (pc := 30) G 128 dX10_unify_30 (by decide) h.1 ?_
    have h := h.2
    refine am_aload_n (i := 0) (t := 17) (pc := 31) G dX10_unify_31 rfl rfl rfl ?_
    refine gf_X10_43 (pc := 32) G dX10_unify_32 tw_f_RX10_103 ?_
    refine am_iconst (pc := 35) G dX10_unify_35 (by decide) ?_
    refine am_iload_n (i := 2) (pc := 36) G dX10_unify_36 rfl rfl ?_
    have h := h _ rfl
    refine am_iast (pc := 37) G 256 dX10_unify_37 (by decide) h.1 ?_
    have h := h.2
    refine am_le (ls' := [(20, _), (99, 0), (99, 0), (0, _), (99, 0), (99, 0), (99, 0), (99, 0), (99, 0), (99, 0), (99, 0)]) ⟨Or.inr rfl, ⟨Or.inl rfl, ⟨Or.inl rfl, ⟨Or.inr rfl, ⟨Or.inl rfl, ⟨Or.inl rfl, ⟨Or.inl rfl, ⟨Or.inl rfl, ⟨Or.inl rfl, ⟨Or.inl rfl, ⟨Or.inl rfl, trivial⟩⟩⟩⟩⟩⟩⟩⟩⟩⟩⟩ ?_
    exact swp_X10_unify_38 G Z hn hr _ _ h
  · have h := h.2 c
    refine am_aload_n (i := 0) (t := 17) (pc := 8) G dX10_unify_8 rfl rfl rfl ?_
    refine gf_X10_40 (pc := 9) G dX10_unify_9 tw_f_RX10_94 ?_
    refine am_iload_n (i := 3) (pc := 12) G dX10_unify_12 rfl rfl ?_
    refine am_bipush (pc := 13) G dX10_unify_13 (by decide) (by decide) ?_
    refine am_iast (pc := 15) G 16 dX10_unify_15 (by decide) h.1 ?_
    have h := h.2
    refine am_iinc (pc := 16) G dX10_unify_16 rfl (nlx hn rfl) rfl ?_
    refine am_goto (pc := 19) (ls := [(20, _), (0, _), (0, _), (0, _), (99, _), (99, _), (99, _), (99, _), (99, _), (99, _), (99, _)]) G 2 dX10_unify_19 (by decide) ?_
    refine am_le (ls' := [(20, _), (0, _), (0, _), (0, _), (99, 0), (99, 0), (99, 0), (99, 0), (99, 0), (99, 0), (99, 0)]) ⟨Or.inr rfl, ⟨Or.inr rfl, ⟨Or.inr rfl, ⟨Or.inr rfl, ⟨Or.inl rfl, ⟨Or.inl rfl, ⟨Or.inl rfl, ⟨Or.inl rfl, ⟨Or.inl rfl, ⟨Or.inl rfl, ⟨Or.inl rfl, trivial⟩⟩⟩⟩⟩⟩⟩⟩⟩⟩⟩ ?_
    exact k2 _ _ h
def wp_X10_unify_2 (V : VV) (x1 x2 x3 : Int) (M : Mem) (Q : Int → Mem → Prop) : Prop :=
  ∃ (I : Int → Mem → Prop) (μ : Int → Mem → Nat), I x3 M ∧ ∀ (y3 : Int) (N : Mem), I y3 N → wp_X10_unify_2_b V x1 x2 y3 N Q (fun z3 N1 => I z3 N1 ∧ μ z3 N1 < μ y3 N)
theorem swp_X10_unify_2 {X : XX} {Q : Int → Mem → Prop} (G : GX X cX10_unify "TreeHandsModel") (Z : RX X 1 Q) (hn : nLX X = 11) (hr : roomX X = rm_X10_unify) (x1 x2 x3 : Int) (M : Mem) (h : wp_X10_unify_2 (vX X) x1 x2 x3 M Q) : AW X 2 [(20, 203), (0, x1), (0, x2), (0, x3), (99, 0), (99, 0), (99, 0), (99, 0), (99, 0), (99, 0), (99, 0)] [] M := by
  unfold wp_X10_unify_2 at h
  obtain ⟨I, μ, hI, hs⟩ := h
  have key : ∀ (n : Nat) (y3 : Int) (N : Mem), μ y3 N < n → I y3 N → AW X 2 [(20, 203), (0, x1), (0, x2), (0, y3), (99, 0), (99, 0), (99, 0), (99, 0), (99, 0), (99, 0), (99, 0)] [] N := by
    intro n
    induction n with
    | zero => intro y3 N hlt; exact absurd hlt (Nat.not_lt_zero _)
    | succ n ih =>
      intro y3 N hlt hI
      exact swp_X10_unify_2_b G Z hn hr x1 x2 y3 N (fun z3 N1 => I z3 N1 ∧ μ z3 N1 < μ y3 N) (fun z3 N1 hz => ih z3 N1 (by omega) hz.1) (hs y3 N hI)
  exact key _ x3 M (Nat.lt_succ_self _) hI
def wp_X10_unify (V : VV) (x1 x2 : Int) (M : Mem) (Q : Int → Mem → Prop) : Prop :=
  wp_X10_unify_2 V x1 x2 0 M Q
theorem of_X10_unify {V : VV} {x1 x2 : Int} {M : Mem} {Q : Int → Mem → Prop} (h : wp_X10_unify V x1 x2 M Q) : R_X10_unify V x1 x2 M Q := by
  refine met_in (own := "TreeHandsModel") (by decide +kernel) rfl rfl (Nat.le_of_ble_eq_true rfl) ?_
  intro X G Z hn hr hv
  subst hv
  unfold wp_X10_unify at h
  show AW X 0 [(20, 203), (0, x1), (0, x2), (99, 0), (99, 0), (99, 0), (99, 0), (99, 0), (99, 0), (99, 0), (99, 0)] [] M
  refine am_iconst (pc := 0) G dX10_unify_0 (by decide) ?_
  refine am_istore_n (pc := 1) G dX10_unify_1 rfl (nlx hn rfl) rfl ?_
  refine am_le (ls' := [(20, _), (0, _), (0, _), (0, _), (99, 0), (99, 0), (99, 0), (99, 0), (99, 0), (99, 0), (99, 0)]) ⟨Or.inr rfl, ⟨Or.inr rfl, ⟨Or.inr rfl, ⟨Or.inr rfl, ⟨Or.inl rfl, ⟨Or.inl rfl, ⟨Or.inl rfl, ⟨Or.inl rfl, ⟨Or.inl rfl, ⟨Or.inl rfl, ⟨Or.inl rfl, trivial⟩⟩⟩⟩⟩⟩⟩⟩⟩⟩⟩ ?_
  exact swp_X10_unify_2 G Z hn hr _ _ _ _ h
