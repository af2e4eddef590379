-- X7_has TreeHands$Tree.has(I)Z
def rm_X7_has : Room := { frames := 0, cells := 0, slots := 0, locals := 0 }
theorem hy_X7_has : yX7_has.cls ≠ "java/lang/invoke/MethodHandle" ∧ yX7_has.cls ≠ "java/lang/invoke/VarHandle" ∧ (parseMethodDescriptor yX7_has.desc).map (fun d => d.parameters.length) = some 1 := by decide +kernel
abbrev R_X7_has (V : VV) (x0 x1 : Int) (M : Mem) (Q : Int → Mem → Prop) : Prop := RunsM V yX7_has (.code yX7_has cX7_has 2 (Option.some Jvm.ClassFile.FieldType.boolean)) rm_X7_has 1 [(17, x0), (0, x1)] M Q
def wp_X7_has (V : VV) (x0 x1 : Int) (M : Mem) (Q : Int → Mem → Prop) : Prop :=
  (x1 < 0 →
    Q 0 M) ∧ (¬ (x1 < 0) →
    (M x0 0 ≤ x1 →
      Q 0 M) ∧ (¬ (M x0 0 ≤ x1) →
      Q 1 M))
theorem of_X7_has {V : VV} {x0 x1 : Int} {M : Mem} {Q : Int → Mem → Prop} (h : wp_X7_has V x0 x1 M Q) : R_X7_has V x0 x1 M Q := by
  refine met_in (own := "TreeHands$Tree") (by decide +kernel) rfl rfl (Nat.le_of_ble_eq_true rfl) ?_
  intro X G Z hn hr hv
  subst hv
  unfold wp_X7_has at h
  show AW X 0 [(17, x0), (0, x1)] [] M
  refine am_iload_n (i := 1) (pc := 0) G dX7_has_0 rfl rfl ?_
  refine am_if_lt (pc := 1) G 16 dX7_has_1 (by decide) (fun c => ?_) (fun c => ?_)
  · have h := h.1 c
    refine am_iconst (pc := 16) G dX7_has_16 (by decide) ?_
    exact am_zret (pc := 17) G Z dX7_has_17 ⟨by decide, h⟩
  · have h := h.2 c
    refine am_iload_n (i := 1) (pc := 4) G dX7_has_4 rfl rfl ?_
    refine am_aload_n (i := 0) (t := 14) (pc := 5) G dX7_has_5 rfl rfl rfl ?_
    refine gf_X7_0 (pc := 6) G dX7_has_6 tw_f_RX7_30 ?_
    refine am_icmp_ge (pc := 9) G 16 dX7_has_9 (by decide) (fun c => ?_) (fun c => ?_)
    · have h := h.1 c
      refine am_iconst (pc := 16) G dX7_has_16 (by decide) ?_
      exact am_zret (pc := 17) G Z dX7_has_17 ⟨by decide, h⟩
    · have h := h.2 c
      refine am_iconst (pc := 12) G dX7_has_12 (by decide) ?_
      refine am_goto (pc := 13) G 17 dX7_has_13 (by decide) ?_
      exact am_zret (pc := 17) G Z dX7_has_17 ⟨by decide, h⟩
-- X7_append TreeHands$Tree.append(II)V
def rm_X7_append : Room := { frames := 0, cells := 0, slots := 0, locals := 0 }
theorem hy_X7_append : yX7_append.cls ≠ "java/lang/invoke/MethodHandle" ∧ yX7_append.cls ≠ "java/lang/invoke/VarHandle" ∧ (parseMethodDescriptor yX7_append.desc).map (fun d => d.parameters.length) = some 2 := by decide +kernel
abbrev R_X7_append (V : VV) (x0 x1 x2 : Int) (M : Mem) (Q : Int → Mem → Prop) : Prop := RunsM V yX7_append (.code yX7_append cX7_append 3 (Option.none : Option Jvm.ClassFile.FieldType)) rm_X7_append 4 [(17, x0), (0, x1), (0, x2)] M Q
def wp_X7_append (V : VV) (x0 x1 x2 : Int) (M : Mem) (Q : Int → Mem → Prop) : Prop :=
  (16 ≤ M x0 0 →
    Q 0 M) ∧ (¬ (16 ≤ M x0 0) →
    ((0 : Int) ≤ M x0 0 ∧ M x0 0 < (16 : Int)) ∧
    ∀ M1 : Mem, M1 = mset M (x0 + 1) (M x0 0) x1 →
    ((0 : Int) ≤ M1 x0 0 ∧ M1 x0 0 < (16 : Int)) ∧
    ∀ M2 : Mem, M2 = mset M1 (x0 + 2) (M1 x0 0) x2 →
    Q 0 (mset M2 x0 0 (w32 (M2 x0 0 + 1))))
theorem of_X7_append {V : VV} {x0 x1 x2 : Int} {M : Mem} {Q : Int → Mem → Prop} (h : wp_X7_append V x0 x1 x2 M Q) : R_X7_append V x0 x1 x2 M Q := by
  refine met_in (own := "TreeHands$Tree") (by decide +kernel) rfl rfl (Nat.le_of_ble_eq_true rfl) ?_
  intro X G Z hn hr hv
  subst hv
  unfold wp_X7_append at h
  show AW X 0 [(17, x0), (0, x1), (0, x2)] [] M
  refine am_aload_n (i := 0) (t := 14) (pc := 0) G dX7_append_0 rfl rfl rfl ?_
  refine gf_X7_0 (pc := 1) G dX7_append_1 tw_f_RX7_30 ?_
  refine am_bipush (pc := 4) G dX7_append_4 (by decide) (by decide) ?_
  refine am_icmp_ge (pc := 6) G 39 dX7_append_6 (by decide) (fun c => ?_) (fun c => ?_)
  · have h := h.1 c
    exact am_vret (pc := 39) G Z dX7_append_39 h
  · have h := h.2 c
    refine am_aload_n (i := 0) (t := 14) (pc := 9) G dX7_append_9 rfl rfl rfl ?_
    refine gf_X7_1 (pc := 10) G dX7_append_10 tw_f_RX7_9 ?_
    refine am_aload_n (i := 0) (t := 14) (pc := 13) G dX7_append_13 rfl rfl rfl ?_
    refine gf_X7_0 (pc := 14) G dX7_append_14 tw_f_RX7_30 ?_
    refine am_iload_n (i := 1) (pc := 17) G dX7_append_17 rfl rfl ?_
    refine am_iast (pc := 18) G 16 dX7_append_18 (by decide) h.1 ?_
    have h := h.2
    refine am_aload_n (i := 0) (t := 14) (pc := 19) G dX7_append_19 rfl rfl rfl ?_
    refine gf_X7_2 (pc := 20) G dX7_append_20 tw_f_RX7_15 ?_
    refine am_aload_n (i := 0) (t := 14) (pc := 23) G dX7_append_23 rfl rfl rfl ?_
    have h := h _ rfl
    refine gf_X7_0 (pc := 24) G dX7_append_24 tw_f_RX7_30 ?_
    refine am_iload_n (i := 2) (pc := 27) G dX7_append_27 rfl rfl ?_
    refine am_iast (pc := 28) G 16 dX7_append_28 (by decide) h.1 ?_
    have h := h.2
    refine am_aload_n (i := 0) (t := 14) (pc := 29) G dX7_append_29 rfl rfl rfl ?_
    refine am_dup (pc := 30) G dX7_append_30 (Nat.ne_of_beq_eq_false rfl) ?_
    have h := h _ rfl
    refine gf_X7_0 (pc := 31) G dX7_append_31 tw_f_RX7_30 ?_
    refine am_iconst (pc := 34) G dX7_append_34 (by decide) ?_
    refine am_iadd (pc := 35) G dX7_append_35 ?_
    refine pf_X7_0 (pc := 36) G dX7_append_36 tw_f_RX7_30 ?_
    exact am_vret (pc := 39) G Z dX7_append_39 h
-- X7_isAs TreeHands$Tree.isAs(ILTreeHands$Tree;I)Z
def rm_X7_isAs : Room := { frames := 1, cells := 0, slots := 0, locals := 21 }
theorem hy_X7_isAs : yX7_isAs.cls ≠ "java/lang/invoke/MethodHandle" ∧ yX7_isAs.cls ≠ "java/lang/invoke/VarHandle" ∧ (parseMethodDescriptor yX7_isAs.desc).map (fun d => d.parameters.length) = some 3 := by decide +kernel
abbrev R_X7_isAs (V : VV) (x0 x1 x2 x3 : Int) (M : Mem) (Q : Int → Mem → Prop) : Prop := RunsM V yX7_isAs (.code yX7_isAs cX7_isAs 5 (Option.some Jvm.ClassFile.FieldType.boolean)) rm_X7_isAs 1 [(17, x0), (0, x1), (17, x2), (0, x3)] M Q
def wp_X7_isAs_36_b (V : VV) (x0 x1 x2 x3 x4 : Int) (M : Mem) (Q : Int → Mem → Prop) (B36 : Int → Prop) : Prop :=
  ((0 : Int) ≤ x1 ∧ x1 < (16 : Int)) ∧
  (M (x0 + 3) x1 ≤ x4 →
    Q 1 M) ∧ (¬ (M (x0 + 3) x1 ≤ x4) →
    (M x0 0 ≤ w32 (x1 + x4) →
      Q 1 M) ∧ (¬ (M x0 0 ≤ w32 (x1 + x4)) →
      (M x2 0 ≤ w32 (x3 + x4) →
        Q 1 M) ∧ (¬ (M x2 0 ≤ w32 (x3 + x4)) →
        ((0 : Int) ≤ w32 (x1 + x4) ∧ w32 (x1 + x4) < (16 : Int)) ∧
        ((0 : Int) ≤ w32 (x3 + x4) ∧ w32 (x3 + x4) < (16 : Int)) ∧
        (M (x0 + 1) (w32 (x1 + x4)) = M (x2 + 1) (w32 (x3 + x4)) →
          ((0 : Int) ≤ w32 (x1 + x4) ∧ w32 (x1 + x4) < (16 : Int)) ∧
          ((0 : Int) ≤ w32 (x3 + x4) ∧ w32 (x3 + x4) < (16 : Int)) ∧
          (M (x0 + 2) (w32 (x1 + x4)) = M (x2 + 2) (w32 (x3 + x4)) →
            B36 (w32 (x4 + 1))) ∧ (¬ (M (x0 + 2) (w32 (x1 + x4)) = M (x2 + 2) (w32 (x3 + x4))) →
            Q 0 M)) ∧ (¬ (M (x0 + 1) (w32 (x1 + x4)) = M (x2 + 1) (w32 (x3 + x4))) →
          Q 0 M))))
theorem swp_X7_isAs_36_b {X : XX} {Q : Int → Mem → Prop} (G : GX X cX7_isAs "TreeHands$Tree") (Z : RX X 1 Q) (hn : nLX X = 5) (hr : roomX X = rm_X7_isAs) (x0 x1 x2 x3 x4 : Int) (M : Mem) (B36 : Int → Prop) (k36 : ∀ (z4 : Int), B36 z4 → AW X 36 [(17, x0), (0, x1), (17, x2), (0, x3), (0, z4)] [] M) (h : wp_X7_isAs_36_b (vX X) x0 x1 x2 x3 x4 M Q B36) : AW X 36 [(17, x0), (0, x1), (17, x2), (0, x3), (0, x4)] [] M := by
  unfold wp_X7_isAs_36_b at h
  refine am_iload (pc := 36) G dX7_isAs_36 rfl ?_
  refine am_aload_n (i := 0) (t := 14) (pc := 38) G dX7_isAs_38 rfl rfl rfl ?_
  refine gf_X7_3 (pc := 39) G dX7_isAs_39 tw_f_RX7_18 ?_
  refine am_iload_n (i := 1) (pc := 42) G dX7_isAs_42 rfl rfl ?_
  refine am_iald (pc := 43) G 16 dX7_isAs_43 (by decide) h.1 ?_
  have h := h.2
  refine am_icmp_ge (pc := 44) G 119 dX7_isAs_44 (by decide) (fun c => ?_) (fun c => ?_)
  · have h := h.1 c
    refine am_iconst (pc := 119) G dX7_isAs_119 (by decide) ?_
    exact am_zret (pc := 120) G Z dX7_isAs_120 ⟨by decide, h⟩
  · have h := h.2 c
    refine am_iload_n (i := 1) (pc := 47) G dX7_isAs_47 rfl rfl ?_
    refine am_iload (pc := 48) G dX7_isAs_48 rfl ?_
    refine am_iadd (pc := 50) G dX7_isAs_50 ?_
    refine am_aload_n (i := 0) (t := 14) (pc := 51) G dX7_isAs_51 rfl rfl rfl ?_
    refine gf_X7_0 (pc := 52) G dX7_isAs_52 tw_f_RX7_30 ?_
    refine am_icmp_ge (pc := 55) G 119 dX7_isAs_55 (by decide) (fun c => ?_) (fun c => ?_)
    · have h := h.1 c
      refine am_iconst (pc := 119) G dX7_isAs_119 (by decide) ?_
      exact am_zret (pc := 120) G Z dX7_isAs_120 ⟨by decide, h⟩
    · have h := h.2 c
      refine am_iload_n (i := 3) (pc := 58) G dX7_isAs_58 rfl rfl ?_
      refine am_iload (pc := 59) G dX7_isAs_59 rfl ?_
      refine am_iadd (pc := 61) G dX7_isAs_61 ?_
      refine am_aload_n (i := 2) (t := 14) (pc := 62) G dX7_isAs_62 rfl rfl rfl ?_
      refine gf_X7_0 (pc := 63) G dX7_isAs_63 tw_f_RX7_30 ?_
      refine am_icmp_ge (pc := 66) G 119 dX7_isAs_66 (by decide) (fun c => ?_) (fun c => ?_)
      · have h := h.1 c
        refine am_iconst (pc := 119) G dX7_isAs_119 (by decide) ?_
        exact am_zret (pc := 120) G Z dX7_isAs_120 ⟨by decide, h⟩
      · have h := h.2 c
        refine am_aload_n (i := 0) (t := 14) (pc := 69) G dX7_isAs_69 rfl rfl rfl ?_
        refine gf_X7_1 (pc := 70) G dX7_isAs_70 tw_f_RX7_9 ?_
        refine am_iload_n (i := 1) (pc := 73) G dX7_isAs_73 rfl rfl ?_
        refine am_iload (pc := 74) G dX7_isAs_74 rfl ?_
        refine am_iadd (pc := 76) G dX7_isAs_76 ?_
        refine am_iald (pc := 77) G 16 dX7_isAs_77 (by decide) h.1 ?_
        have h := h.2
        refine am_aload_n (i := 2) (t := 14) (pc := 78) G dX7_isAs_78 rfl rfl rfl ?_
        refine gf_X7_1 (pc := 79) G dX7_isAs_79 tw_f_RX7_9 ?_
        refine am_iload_n (i := 3) (pc := 82) G dX7_isAs_82 rfl rfl ?_
        refine am_iload (pc := 83) G dX7_isAs_83 rfl ?_
        refine am_iadd (pc := 85) G dX7_isAs_85 ?_
        refine am_iald (pc := 86) G 16 dX7_isAs_86 (by decide) h.1 ?_
        have h := h.2
        refine am_icmp_ne (pc := 87) G 111 dX7_isAs_87 (by decide) (fun c => ?_) (fun c => ?_)
        · have h := h.2 c
          refine am_iconst (pc := 111) G dX7_isAs_111 (by decide) ?_
          exact am_zret (pc := 112) G Z dX7_isAs_112 ⟨by decide, h⟩
        · have h := h.1 c
          refine am_aload_n (i := 0) (t := 14) (pc := 90) G dX7_isAs_90 rfl rfl rfl ?_
          refine gf_X7_2 (pc := 91) G dX7_isAs_91 tw_f_RX7_15 ?_
          refine am_iload_n (i := 1) (pc := 94) G dX7_isAs_94 rfl rfl ?_
          refine am_iload (pc := 95) G dX7_isAs_95 rfl ?_
          refine am_iadd (pc := 97) G dX7_isAs_97 ?_
          refine am_iald (pc := 98) G 16 dX7_isAs_98 (by decide) h.1 ?_
          have h := h.2
          refine am_aload_n (i := 2) (t := 14) (pc := 99) G dX7_isAs_99 rfl rfl rfl ?_
          refine gf_X7_2 (pc := 100) G dX7_isAs_100 tw_f_RX7_15 ?_
          refine am_iload_n (i := 3) (pc := 103) G dX7_isAs_103 rfl rfl ?_
          refine am_iload (pc := 104) G dX7_isAs_104 rfl ?_
          refine am_iadd (pc := 106) G dX7_isAs_106 ?_
          refine am_iald (pc := 107) G 16 dX7_isAs_107 (by decide) h.1 ?_
          have h := h.2
          refine am_icmp_eq (pc := 108) G 113 dX7_isAs_108 (by decide) (fun c => ?_) (fun c => ?_)
          · have h := h.1 c
            refine am_iinc (pc := 113) G dX7_isAs_113 rfl (nlx hn rfl) rfl ?_
            refine am_goto (pc := 116) (ls := [(17, _), (0, _), (17, _), (0, _), (0, _)]) G 36 dX7_isAs_116 (by decide) ?_
            refine am_le (ls' := [(17, _), (0, _), (17, _), (0, _), (0, _)]) ⟨Or.inr rfl, ⟨Or.inr rfl, ⟨Or.inr rfl, ⟨Or.inr rfl, ⟨Or.inr rfl, trivial⟩⟩⟩⟩⟩ ?_
            exact k36 _ h
          · have h := h.2 c
            refine am_iconst (pc := 111) G dX7_isAs_111 (by decide) ?_
            exact am_zret (pc := 112) G Z dX7_isAs_112 ⟨by decide, h⟩
def wp_X7_isAs_36 (V : VV) (x0 x1 x2 x3 x4 : Int) (M : Mem) (Q : Int → Mem → Prop) : Prop :=
  ∃ (I : Int → Prop) (μ : Int → Nat), I x4 ∧ ∀ (y4 : Int), I y4 → wp_X7_isAs_36_b V x0 x1 x2 x3 y4 M Q (fun z4 => I z4 ∧ μ z4 < μ y4)
theorem swp_X7_isAs_36 {X : XX} {Q : Int → Mem → Prop} (G : GX X cX7_isAs "TreeHands$Tree") (Z : RX X 1 Q) (hn : nLX X = 5) (hr : roomX X = rm_X7_isAs) (x0 x1 x2 x3 x4 : Int) (M : Mem) (h : wp_X7_isAs_36 (vX X) x0 x1 x2 x3 x4 M Q) : AW X 36 [(17, x0), (0, x1), (17, x2), (0, x3), (0, x4)] [] M := by
  unfold wp_X7_isAs_36 at h
  obtain ⟨I, μ, hI, hs⟩ := h
  have key : ∀ (n : Nat) (y4 : Int), μ y4 < n → I y4 → AW X 36 [(17, x0), (0, x1), (17, x2), (0, x3), (0, y4)] [] M := by
    intro n
    induction n with
    | zero => intro y4 hlt; exact absurd hlt (Nat.not_lt_zero _)
    | succ n ih =>
      intro y4 hlt hI
      exact swp_X7_isAs_36_b G Z hn hr x0 x1 x2 x3 y4 M (fun z4 => I z4 ∧ μ z4 < μ y4) (fun z4 hz => ih z4 (by omega) hz.1) (hs y4 hI)
  exact key _ x4 (Nat.lt_succ_self _) hI
def wp_X7_isAs (V : VV) (x0 x1 x2 x3 : Int) (M : Mem) (Q : Int → Mem → Prop) : Prop :=
  R_X7_has V x0 x1 M (fun r1 M2 =>
  (r1 = 0 →
    Q 0 M2) ∧ (¬ (r1 = 0) →
    R_X7_has V x2 x3 M2 (fun r3 M4 =>
    (r3 = 0 →
      Q 0 M4) ∧ (¬ (r3 = 0) →
      ((0 : Int) ≤ x1 ∧ x1 < (16 : Int)) ∧
      ((0 : Int) ≤ x3 ∧ x3 < (16 : Int)) ∧
      (M4 (x0 + 3) x1 = M4 (x2 + 3) x3 →
        wp_X7_isAs_36 V x0 x1 x2 x3 0 M4 Q) ∧ (¬ (M4 (x0 + 3) x1 = M4 (x2 + 3) x3) →
        Q 0 M4)))))
theorem of_X7_isAs {V : VV} {x0 x1 x2 x3 : Int} {M : Mem} {Q : Int → Mem → Prop} (h : wp_X7_isAs V x0 x1 x2 x3 M Q) : R_X7_isAs V x0 x1 x2 x3 M Q := by
  refine met_in (own := "TreeHands$Tree") (by decide +kernel) rfl rfl (Nat.le_of_ble_eq_true rfl) ?_
  intro X G Z hn hr hv
  subst hv
  unfold wp_X7_isAs at h
  show AW X 0 [(17, x0), (0, x1), (17, x2), (0, x3), (99, 0)] [] M
  refine am_aload_n (i := 0) (t := 14) (pc := 0) G dX7_isAs_0 rfl rfl rfl ?_
  refine am_iload_n (i := 1) (pc := 1) G dX7_isAs_1 rfl rfl ?_
  refine am_callV (rk := 1) (rmc := rm_X7_has) (st := []) (pc := 2) G 7 [(0, _)] rfl (by decide) rfl dX7_isAs_2 tw_m_RX7_34 tw_i_X7_has tw_v_X7_has tw_z_RX7 tw_c_X7_has hy_X7_has (callrm hr rfl) rfl (RunsM.mono h (fun r1 M2 h => ?_)) Z.rm
  show AW X 5 _ [(0, _)] M2
  refine am_if_eq (pc := 5) G 31 dX7_isAs_5 (by decide) (fun c => ?_) (fun c => ?_)
  · have h := h.1 c
    refine am_iconst (pc := 31) G dX7_isAs_31 (by decide) ?_
    exact am_zret (pc := 32) G Z dX7_isAs_32 ⟨by decide, h⟩
  · have h := h.2 c
    refine am_aload_n (i := 2) (t := 14) (pc := 8) G dX7_isAs_8 rfl rfl rfl ?_
    refine am_iload_n (i := 3) (pc := 9) G dX7_isAs_9 rfl rfl ?_
    refine am_callV (rk := 1) (rmc := rm_X7_has) (st := []) (pc := 10) G 7 [(0, _)] rfl (by decide) rfl dX7_isAs_10 tw_m_RX7_34 tw_i_X7_has tw_v_X7_has tw_z_RX7 tw_c_X7_has hy_X7_has (callrm hr rfl) rfl (RunsM.mono h (fun r3 M4 h => ?_)) Z.rm
    show AW X 13 _ [(0, _)] M4
    refine am_if_eq (pc := 13) G 31 dX7_isAs_13 (by decide) (fun c => ?_) (fun c => ?_)
    · have h := h.1 c
      refine am_iconst (pc := 31) G dX7_isAs_31 (by decide) ?_
      exact am_zret (pc := 32) G Z dX7_isAs_32 ⟨by decide, h⟩
    · have h := h.2 c
      refine am_aload_n (i := 0) (t := 14) (pc := 16) G dX7_isAs_16 rfl rfl rfl ?_
      refine gf_X7_3 (pc := 17) G dX7_isAs_17 tw_f_RX7_18 ?_
      refine am_iload_n (i := 1) (pc := 20) G dX7_isAs_20 rfl rfl ?_
      refine am_iald (pc := 21) G 16 dX7_isAs_21 (by decide) h.1 ?_
      have h := h.2
      refine am_aload_n (i := 2) (t := 14) (pc := 22) G dX7_isAs_22 rfl rfl rfl ?_
      refine gf_X7_3 (pc := 23) G dX7_isAs_23 tw_f_RX7_18 ?_
      refine am_iload_n (i := 3) (pc := 26) G dX7_isAs_26 rfl rfl ?_
      refine am_iald (pc := 27) G 16 dX7_isAs_27 (by decide) h.1 ?_
      have h := h.2
      refine am_icmp_eq (pc := 28) G 33 dX7_isAs_28 (by decide) (fun c => ?_) (fun c => ?_)
      · have h := h.1 c
        refine am_iconst (pc := 33) G dX7_isAs_33 (by decide) ?_
        refine am_istore (pc := 34) G dX7_isAs_34 (nlx hn rfl) rfl ?_
        refine am_le (ls' := [(17, _), (0, _), (17, _), (0, _), (0, _)]) ⟨Or.inr rfl, ⟨Or.inr rfl, ⟨Or.inr rfl, ⟨Or.inr rfl, ⟨Or.inr rfl, trivial⟩⟩⟩⟩⟩ ?_
        exact swp_X7_isAs_36 G Z hn hr _ _ _ _ _ _ h
      · have h := h.2 c
        refine am_iconst (pc := 31) G dX7_isAs_31 (by decide) ?_
        exact am_zret (pc := 32) G Z dX7_isAs_32 ⟨by decide, h⟩
-- X0_holeFor TreeHands$Commoner.holeFor(LTreeHands$Tree;ILTreeHands$Tree;I)I
def rm_X0_holeFor : Room := { frames := 2, cells := 0, slots := 0, locals := 45 }
theorem hy_X0_holeFor : yX0_holeFor.cls ≠ "java/lang/invoke/MethodHandle" ∧ yX0_holeFor.cls ≠ "java/lang/invoke/VarHandle" ∧ (parseMethodDescriptor yX0_holeFor.desc).map (fun d => d.parameters.length) = some 4 := by decide +kernel
abbrev R_X0_holeFor (V : VV) (x1 x2 x3 x4 : Int) (M : Mem) (Q : Int → Mem → Prop) : Prop := RunsM V yX0_holeFor (.code yX0_holeFor cX0_holeFor 6 (Option.some Jvm.ClassFile.FieldType.int)) rm_X0_holeFor 0 [(10, 25), (17, x1), (0, x2), (17, x3), (0, x4)] M Q
def wp_X0_holeFor_3_b (V : VV) (x1 x2 x3 x4 x5 : Int) (M : Mem) (Q : Int → Mem → Prop) (B3 : Int → Mem → Prop) : Prop :=
  (M 25 0 ≤ x5 →
    (M 25 0 < 8 →
      ((0 : Int) ≤ M 25 0 ∧ M 25 0 < (8 : Int)) ∧
      ∀ M1 : Mem, M1 = mset M 26 (M 25 0) x2 →
      ((0 : Int) ≤ M1 25 0 ∧ M1 25 0 < (8 : Int)) ∧
      ∀ M2 : Mem, M2 = mset M1 27 (M1 25 0) x4 →
      ∀ M3 : Mem, M3 = mset M2 25 0 (w32 (M2 25 0 + 1)) →
      Q (w32 (M3 25 0 - 1)) M3) ∧ (¬ (M 25 0 < 8) →
      Q (-1) M)) ∧ (¬ (M 25 0 ≤ x5) →
    ((0 : Int) ≤ x5 ∧ x5 < (8 : Int)) ∧
    R_X7_isAs V x1 x2 x1 (M 26 x5) M (fun r4 M5 =>
    (r4 = 0 →
      B3 (w32 (x5 + 1)) M5) ∧ (¬ (r4 = 0) →
      ((0 : Int) ≤ x5 ∧ x5 < (8 : Int)) ∧
      R_X7_isAs V x3 x4 x3 (M5 27 x5) M5 (fun r6 M7 =>
      (r6 = 0 →
        B3 (w32 (x5 + 1)) M7) ∧ (¬ (r6 = 0) →
        Q x5 M7)))))
theorem swp_X0_holeFor_3_b {X : XX} {Q : Int → Mem → Prop} (G : GX X cX0_holeFor "TreeHands$Commoner") (Z : RX X 0 Q) (hn : nLX X = 6) (hr : roomX X = rm_X0_holeFor) (x1 x2 x3 x4 x5 : Int) (M : Mem) (B3 : Int → Mem → Prop) (k3 : ∀ (z5 : Int) (N : Mem), B3 z5 N → AW X 3 [(10, 25), (17, x1), (0, x2), (17, x3), (0, x4), (0, z5)] [] N) (h : wp_X0_holeFor_3_b (vX X) x1 x2 x3 x4 x5 M Q B3) : AW X 3 [(10, 25), (17, x1), (0, x2), (17, x3), (0, x4), (0, x5)] [] M := by
  unfold wp_X0_holeFor_3_b at h
  refine am_iload (pc := 3) G dX0_holeFor_3 rfl ?_
  refine am_aload_n (i := 0) (t := 7) (pc := 5) G dX0_holeFor_5 rfl rfl rfl ?_
  refine gf_X0_0 (pc := 6) G dX0_holeFor_6 tw_f_RX0_18 ?_
  refine am_icmp_ge (pc := 9) G 54 dX0_holeFor_9 (by decide) (fun c => ?_) (fun c => ?_)
  · have h := h.1 c
    refine am_aload_n (i := 0) (t := 7) (pc := 54) G dX0_holeFor_54 rfl rfl rfl ?_
    refine gf_X0_0 (pc := 55) G dX0_holeFor_55 tw_f_RX0_18 ?_
    refine am_bipush (pc := 58) G dX0_holeFor_58 (by decide) (by decide) ?_
    refine am_icmp_lt (pc := 60) G 65 dX0_holeFor_60 (by decide) (fun c => ?_) (fun c => ?_)
    · have h := h.1 c
      refine am_aload_n (i := 0) (t := 7) (pc := 65) G dX0_holeFor_65 rfl rfl rfl ?_
      refine gf_X0_1 (pc := 66) G dX0_holeFor_66 tw_f_RX0_9 ?_
      refine am_aload_n (i := 0) (t := 7) (pc := 69) G dX0_holeFor_69 rfl rfl rfl ?_
      refine gf_X0_0 (pc := 70) G dX0_holeFor_70 tw_f_RX0_18 ?_
      refine am_iload_n (i := 2) (pc := 73) G dX0_holeFor_73 rfl rfl ?_
      refine am_iast (pc := 74) G 8 dX0_holeFor_74 (by decide) h.1 ?_
      have h := h.2
      refine am_aload_n (i := 0) (t := 7) (pc := 75) G dX0_holeFor_75 rfl rfl rfl ?_
      refine gf_X0_2 (pc := 76) G dX0_holeFor_76 tw_f_RX0_15 ?_
      refine am_aload_n (i := 0) (t := 7) (pc := 79) G dX0_holeFor_79 rfl rfl rfl ?_
      have h := h _ rfl
      refine gf_X0_0 (pc := 80) G dX0_holeFor_80 tw_f_RX0_18 ?_
      refine am_iload (pc := 83) G dX0_holeFor_83 rfl ?_
      refine am_iast (pc := 85) G 8 dX0_holeFor_85 (by decide) h.1 ?_
      have h := h.2
      refine am_aload_n (i := 0) (t := 7) (pc := 86) G dX0_holeFor_86 rfl rfl rfl ?_
      refine am_dup (pc := 87) G dX0_holeFor_87 (Nat.ne_of_beq_eq_false rfl) ?_
      have h := h _ rfl
      refine gf_X0_0 (pc := 88) G dX0_holeFor_88 tw_f_RX0_18 ?_
      refine am_iconst (pc := 91) G dX0_holeFor_91 (by decide) ?_
      refine am_iadd (pc := 92) G dX0_holeFor_92 ?_
      refine pf_X0_0 (pc := 93) G dX0_holeFor_93 tw_f_RX0_18 ?_
      refine am_aload_n (i := 0) (t := 7) (pc := 96) G dX0_holeFor_96 rfl rfl rfl ?_
      have h := h _ rfl
      refine gf_X0_0 (pc := 97) G dX0_holeFor_97 tw_f_RX0_18 ?_
      refine am_iconst (pc := 100) G dX0_holeFor_100 (by decide) ?_
      refine am_isub (pc := 101) G dX0_holeFor_101 ?_
      exact am_iret (pc := 102) G Z dX0_holeFor_102 h
    · have h := h.2 c
      refine am_iconst (pc := 63) G dX0_holeFor_63 (by decide) ?_
      exact am_iret (pc := 64) G Z dX0_holeFor_64 h
  · have h := h.2 c
    refine am_aload_n (i := 1) (t := 14) (pc := 12) G dX0_holeFor_12 rfl rfl rfl ?_
    refine am_iload_n (i := 2) (pc := 13) G dX0_holeFor_13 rfl rfl ?_
    refine am_aload_n (i := 1) (t := 14) (pc := 14) G dX0_holeFor_14 rfl rfl rfl ?_
    refine am_aload_n (i := 0) (t := 7) (pc := 15) G dX0_holeFor_15 rfl rfl rfl ?_
    refine gf_X0_1 (pc := 16) G dX0_holeFor_16 tw_f_RX0_9 ?_
    refine am_iload (pc := 19) G dX0_holeFor_19 rfl ?_
    refine am_iald (pc := 21) G 8 dX0_holeFor_21 (by decide) h.1 ?_
    have h := h.2
    refine am_callV (rk := 1) (rmc := rm_X7_isAs) (st := []) (pc := 22) G 7 [(0, _), (17, _), (0, _)] rfl (by decide) rfl dX0_holeFor_22 tw_m_RX0_51 tw_i_X7_isAs tw_v_X7_isAs tw_z_RX7 tw_c_X7_isAs hy_X7_isAs (callrm hr rfl) rfl (RunsM.mono h (fun r4 M5 h => ?_)) Z.rm
    show AW X 25 _ [(0, _)] M5
    refine am_if_eq (pc := 25) G 48 dX0_holeFor_25 (by decide) (fun c => ?_) (fun c => ?_)
    · have h := h.1 c
      refine am_iinc (pc := 48) G dX0_holeFor_48 rfl (nlx hn rfl) rfl ?_
      refine am_goto (pc := 51) (ls := [(10, _), (17, _), (0, _), (17, _), (0, _), (0, _)]) G 3 dX0_holeFor_51 (by decide) ?_
      refine am_le (ls' := [(10, _), (17, _), (0, _), (17, _), (0, _), (0, _)]) ⟨Or.inr rfl, ⟨Or.inr rfl, ⟨Or.inr rfl, ⟨Or.inr rfl, ⟨Or.inr rfl, ⟨Or.inr rfl, trivial⟩⟩⟩⟩⟩⟩ ?_
      exact k3 _ _ h
    · have h := h.2 c
      refine am_aload_n (i := 3) (t := 14) (pc := 28) G dX0_holeFor_28 rfl rfl rfl ?_
      refine am_iload (pc := 29) G dX0_holeFor_29 rfl ?_
      refine am_aload_n (i := 3) (t := 14) (pc := 31) G dX0_holeFor_31 rfl rfl rfl ?_
      refine am_aload_n (i := 0) (t := 7) (pc := 32) G dX0_holeFor_32 rfl rfl rfl ?_
      refine gf_X0_2 (pc := 33) G dX0_holeFor_33 tw_f_RX0_15 ?_
      refine am_iload (pc := 36) G dX0_holeFor_36 rfl ?_
      refine am_iald (pc := 38) G 8 dX0_holeFor_38 (by decide) h.1 ?_
      have h := h.2
      refine am_callV (rk := 1) (rmc := rm_X7_isAs) (st := []) (pc := 39) G 7 [(0, _), (17, _), (0, _)] rfl (by decide) rfl dX0_holeFor_39 tw_m_RX0_51 tw_i_X7_isAs tw_v_X7_isAs tw_z_RX7 tw_c_X7_isAs hy_X7_isAs (callrm hr rfl) rfl (RunsM.mono h (fun r6 M7 h => ?_)) Z.rm
      show AW X 42 _ [(0, _)] M7
      refine am_if_eq (pc := 42) G 48 dX0_holeFor_42 (by decide) (fun c => ?_) (fun c => ?_)
      · have h := h.1 c
        refine am_iinc (pc := 48) G dX0_holeFor_48 rfl (nlx hn rfl) rfl ?_
        refine am_goto (pc := 51) (ls := [(10, _), (17, _), (0, _), (17, _), (0, _), (0, _)]) G 3 dX0_holeFor_51 (by decide) ?_
        refine am_le (ls' := [(10, _), (17, _), (0, _), (17, _), (0, _), (0, _)]) ⟨Or.inr rfl, ⟨Or.inr rfl, ⟨Or.inr rfl, ⟨Or.inr rfl, ⟨Or.inr rfl, ⟨Or.inr rfl, trivial⟩⟩⟩⟩⟩⟩ ?_
        exact k3 _ _ h
      · have h := h.2 c
        refine am_iload (pc := 45) G dX0_holeFor_45 rfl ?_
        exact am_iret (pc := 47) G Z dX0_holeFor_47 h
def wp_X0_holeFor_3 (V : VV) (x1 x2 x3 x4 x5 : Int) (M : Mem) (Q : Int → Mem → Prop) : Prop :=
  ∃ (I : Int → Mem → Prop) (μ : Int → Mem → Nat), I x5 M ∧ ∀ (y5 : Int) (N : Mem), I y5 N → wp_X0_holeFor_3_b V x1 x2 x3 x4 y5 N Q (fun z5 N1 => I z5 N1 ∧ μ z5 N1 < μ y5 N)
theorem swp_X0_holeFor_3 {X : XX} {Q : Int → Mem → Prop} (G : GX X cX0_holeFor "TreeHands$Commoner") (Z : RX X 0 Q) (hn : nLX X = 6) (hr : roomX X = rm_X0_holeFor) (x1 x2 x3 x4 x5 : Int) (M : Mem) (h : wp_X0_holeFor_3 (vX X) x1 x2 x3 x4 x5 M Q) : AW X 3 [(10, 25), (17, x1), (0, x2), (17, x3), (0, x4), (0, x5)] [] M := by
  unfold wp_X0_holeFor_3 at h
  obtain ⟨I, μ, hI, hs⟩ := h
  have key : ∀ (n : Nat) (y5 : Int) (N : Mem), μ y5 N < n → I y5 N → AW X 3 [(10, 25), (17, x1), (0, x2), (17, x3), (0, x4), (0, y5)] [] N := by
    intro n
    induction n with
    | zero => intro y5 N hlt; exact absurd hlt (Nat.not_lt_zero _)
    | succ n ih =>
      intro y5 N hlt hI
      exact swp_X0_holeFor_3_b G Z hn hr x1 x2 x3 x4 y5 N (fun z5 N1 => I z5 N1 ∧ μ z5 N1 < μ y5 N) (fun z5 N1 hz => ih z5 N1 (by omega) hz.1) (hs y5 N hI)
  exact key _ x5 M (Nat.lt_succ_self _) hI
def wp_X0_holeFor (V : VV) (x1 x2 x3 x4 : Int) (M : Mem) (Q : Int → Mem → Prop) : Prop :=
  wp_X0_holeFor_3 V x1 x2 x3 x4 0 M Q
theorem of_X0_holeFor {V : VV} {x1 x2 x3 x4 : Int} {M : Mem} {Q : Int → Mem → Prop} (h : wp_X0_holeFor V x1 x2 x3 x4 M Q) : R_X0_holeFor V x1 x2 x3 x4 M Q := by
  refine met_in (own := "TreeHands$Commoner") (by decide +kernel) rfl rfl (Nat.le_of_ble_eq_true rfl) ?_
  intro X G Z hn hr hv
  subst hv
  unfold wp_X0_holeFor at h
  show AW X 0 [(10, 25), (17, x1), (0, x2), (17, x3), (0, x4), (99, 0)] [] M
  refine am_iconst (pc := 0) G dX0_holeFor_0 (by decide) ?_
  refine am_istore (pc := 1) G dX0_holeFor_1 (nlx hn rfl) rfl ?_
  refine am_le (ls' := [(10, _), (17, _), (0, _), (17, _), (0, _), (0, _)]) ⟨Or.inr rfl, ⟨Or.inr rfl, ⟨Or.inr rfl, ⟨Or.inr rfl, ⟨Or.inr rfl, ⟨Or.inr rfl, trivial⟩⟩⟩⟩⟩⟩ ?_
  exact swp_X0_holeFor_3 G Z hn hr _ _ _ _ _ _ h
-- X7_settle TreeHands$Tree.settle()V
def rm_X7_settle : Room := { frames := 0, cells := 0, slots := 0, locals := 0 }
theorem hy_X7_settle : yX7_settle.cls ≠ "java/lang/invoke/MethodHandle" ∧ yX7_settle.cls ≠ "java/lang/invoke/VarHandle" ∧ (parseMethodDescriptor yX7_settle.desc).map (fun d => d.parameters.length) = some 0 := by decide +kernel
abbrev R_X7_settle (V : VV) (x0 : Int) (M : Mem) (Q : Int → Mem → Prop) : Prop := RunsM V yX7_settle (.code yX7_settle cX7_settle 4 (Option.none : Option Jvm.ClassFile.FieldType)) rm_X7_settle 4 [(17, x0)] M Q
def wp_X7_settle_104_b (V : VV) (x0 x1 x2 x3 : Int) (M : Mem) (Q : Int → Mem → Prop) (B90 : Int → Mem → Prop) (B104 : Int → Int → Mem → Prop) : Prop :=
  ((0 : Int) ≤ x1 ∧ x1 < (16 : Int)) ∧
  (M (x0 + 2) x1 ≤ x3 →
    B90 (w32 (x1 + 1)) M) ∧ (¬ (M (x0 + 2) x1 ≤ x3) →
    (M x0 0 ≤ x2 →
      B90 (w32 (x1 + 1)) M) ∧ (¬ (M x0 0 ≤ x2) →
      ((0 : Int) ≤ x2 ∧ x2 < (16 : Int)) ∧
      ∀ M4 : Mem, M4 = mset M (x0 + 4) x2 x1 →
      ((0 : Int) ≤ x2 ∧ x2 < (16 : Int)) ∧
      ∀ M5 : Mem, M5 = mset M4 (x0 + 5) x2 x3 →
      ((0 : Int) ≤ x1 ∧ x1 < (16 : Int)) ∧
      ((0 : Int) ≤ x2 ∧ x2 < (16 : Int)) ∧
      ∀ M6 : Mem, M6 = mset M5 (x0 + 6) x2 (w32 (M5 (x0 + 6) x1 + 1)) →
      ((0 : Int) ≤ x2 ∧ x2 < (16 : Int)) ∧
      ∀ v7 : Int, v7 = w32 (x2 + M6 (x0 + 3) x2) →
      B104 v7 (w32 (x3 + 1)) M6))
theorem swp_X7_settle_104_b {X : XX} {Q : Int → Mem → Prop} (G : GX X cX7_settle "TreeHands$Tree") (Z : RX X 4 Q) (hn : nLX X = 4) (hr : roomX X = rm_X7_settle) (x0 x1 x2 x3 : Int) (M : Mem) (B90 : Int → Mem → Prop) (k90 : ∀ (z1 : Int) (N : Mem), B90 z1 N → AW X 90 [(17, x0), (0, z1), (99, 0), (99, 0)] [] N) (B104 : Int → Int → Mem → Prop) (k104 : ∀ (z2 z3 : Int) (N : Mem), B104 z2 z3 N → AW X 104 [(17, x0), (0, x1), (0, z2), (0, z3)] [] N) (h : wp_X7_settle_104_b (vX X) x0 x1 x2 x3 M Q B90 B104) : AW X 104 [(17, x0), (0, x1), (0, x2), (0, x3)] [] M := by
  unfold wp_X7_settle_104_b at h
  refine am_iload_n (i := 3) (pc := 104) G dX7_settle_104 rfl rfl ?_
  refine am_aload_n (i := 0) (t := 14) (pc := 105) G dX7_settle_105 rfl rfl rfl ?_
  refine gf_X7_2 (pc := 106) G dX7_settle_106 tw_f_RX7_15 ?_
  refine am_iload_n (i := 1) (pc := 109) G dX7_settle_109 rfl rfl ?_
  refine am_iald (pc := 110) G 16 dX7_settle_110 (by decide) h.1 ?_
  have h := h.2
  refine am_icmp_ge (pc := 111) G 165 dX7_settle_111 (by decide) (fun c => ?_) (fun c => ?_)
  · have h := h.1 c
    refine am_iinc (pc := 165) G dX7_settle_165 rfl (nlx hn rfl) rfl ?_
    refine am_goto (pc := 168) (ls := [(17, _), (0, _), (0, _), (0, _)]) G 90 dX7_settle_168 (by decide) ?_
    refine am_le (ls' := [(17, _), (0, _), (99, 0), (99, 0)]) ⟨Or.inr rfl, ⟨Or.inr rfl, ⟨Or.inl rfl, ⟨Or.inl rfl, trivial⟩⟩⟩⟩ ?_
    exact k90 _ _ h
  · have h := h.2 c
    refine am_iload_n (i := 2) (pc := 114) G dX7_settle_114 rfl rfl ?_
    refine am_aload_n (i := 0) (t := 14) (pc := 115) G dX7_settle_115 rfl rfl rfl ?_
    refine gf_X7_0 (pc := 116) G dX7_settle_116 tw_f_RX7_30 ?_
    refine am_icmp_ge (pc := 119) G 165 dX7_settle_119 (by decide) (fun c => ?_) (fun c => ?_)
    · have h := h.1 c
      refine am_iinc (pc := 165) G dX7_settle_165 rfl (nlx hn rfl) rfl ?_
      refine am_goto (pc := 168) (ls := [(17, _), (0, _), (0, _), (0, _)]) G 90 dX7_settle_168 (by decide) ?_
      refine am_le (ls' := [(17, _), (0, _), (99, 0), (99, 0)]) ⟨Or.inr rfl, ⟨Or.inr rfl, ⟨Or.inl rfl, ⟨Or.inl rfl, trivial⟩⟩⟩⟩ ?_
      exact k90 _ _ h
    · have h := h.2 c
      refine am_aload_n (i := 0) (t := 14) (pc := 122) G dX7_settle_122 rfl rfl rfl ?_
      refine gf_X7_4 (pc := 123) G dX7_settle_123 tw_f_RX7_21 ?_
      refine am_iload_n (i := 2) (pc := 126) G dX7_settle_126 rfl rfl ?_
      refine am_iload_n (i := 1) (pc := 127) G dX7_settle_127 rfl rfl ?_
      refine am_iast (pc := 128) G 16 dX7_settle_128 (by decide) h.1 ?_
      have h := h.2
      refine am_aload_n (i := 0) (t := 14) (pc := 129) G dX7_settle_129 rfl rfl rfl ?_
      refine gf_X7_5 (pc := 130) G dX7_settle_130 tw_f_RX7_24 ?_
      refine am_iload_n (i := 2) (pc := 133) G dX7_settle_133 rfl rfl ?_
      refine am_iload_n (i := 3) (pc := 134) G dX7_settle_134 rfl rfl ?_
      have h := h _ rfl
      refine am_iast (pc := 135) G 16 dX7_settle_135 (by decide) h.1 ?_
      have h := h.2
      refine am_aload_n (i := 0) (t := 14) (pc := 136) G dX7_settle_136 rfl rfl rfl ?_
      refine gf_X7_6 (pc := 137) G dX7_settle_137 tw_f_RX7_27 ?_
      refine am_iload_n (i := 2) (pc := 140) G dX7_settle_140 rfl rfl ?_
      refine am_aload_n (i := 0) (t := 14) (pc := 141) G dX7_settle_141 rfl rfl rfl ?_
      refine gf_X7_6 (pc := 142) G dX7_settle_142 tw_f_RX7_27 ?_
      refine am_iload_n (i := 1) (pc := 145) G dX7_settle_145 rfl rfl ?_
      have h := h _ rfl
      refine am_iald (pc := 146) G 16 dX7_settle_146 (by decide) h.1 ?_
      have h := h.2
      refine am_iconst (pc := 147) G dX7_settle_147 (by decide) ?_
      refine am_iadd (pc := 148) G dX7_settle_148 ?_
      refine am_iast (pc := 149) G 16 dX7_settle_149 (by decide) h.1 ?_
      have h := h.2
      refine am_iload_n (i := 2) (pc := 150) G dX7_settle_150 rfl rfl ?_
      refine am_aload_n (i := 0) (t := 14) (pc := 151) G dX7_settle_151 rfl rfl rfl ?_
      refine gf_X7_3 (pc := 152) G dX7_settle_152 tw_f_RX7_18 ?_
      refine am_iload_n (i := 2) (pc := 155) G dX7_settle_155 rfl rfl ?_
      have h := h _ rfl
      refine am_iald (pc := 156) G 16 dX7_settle_156 (by decide) h.1 ?_
      have h := h.2
      refine am_iadd (pc := 157) G dX7_settle_157 ?_
      have h := h _ rfl
      refine am_istore_n (pc := 158) G dX7_settle_158 rfl (nlx hn rfl) rfl ?_
      refine am_iinc (pc := 159) (ls := [(17, _), (0, _), (0, _), (0, _)]) G dX7_settle_159 rfl (nlx hn rfl) rfl ?_
      refine am_goto (pc := 162) (ls := [(17, _), (0, _), (0, _), (0, _)]) G 104 dX7_settle_162 (by decide) ?_
      refine am_le (ls' := [(17, _), (0, _), (0, _), (0, _)]) ⟨Or.inr rfl, ⟨Or.inr rfl, ⟨Or.inr rfl, ⟨Or.inr rfl, trivial⟩⟩⟩⟩ ?_
      exact k104 _ _ _ h
def wp_X7_settle_104 (V : VV) (x0 x1 x2 x3 : Int) (M : Mem) (Q : Int → Mem → Prop) (B90 : Int → Mem → Prop) : Prop :=
  ∃ (I : Int → Int → Mem → Prop) (μ : Int → Int → Mem → Nat), I x2 x3 M ∧ ∀ (y2 y3 : Int) (N : Mem), I y2 y3 N → wp_X7_settle_104_b V x0 x1 y2 y3 N Q B90 (fun z2 z3 N1 => I z2 z3 N1 ∧ μ z2 z3 N1 < μ y2 y3 N)
theorem swp_X7_settle_104 {X : XX} {Q : Int → Mem → Prop} (G : GX X cX7_settle "TreeHands$Tree") (Z : RX X 4 Q) (hn : nLX X = 4) (hr : roomX X = rm_X7_settle) (x0 x1 x2 x3 : Int) (M : Mem) (B90 : Int → Mem → Prop) (k90 : ∀ (z1 : Int) (N : Mem), B90 z1 N → AW X 90 [(17, x0), (0, z1), (99, 0), (99, 0)] [] N) (h : wp_X7_settle_104 (vX X) x0 x1 x2 x3 M Q B90) : AW X 104 [(17, x0), (0, x1), (0, x2), (0, x3)] [] M := by
  unfold wp_X7_settle_104 at h
  obtain ⟨I, μ, hI, hs⟩ := h
  have key : ∀ (n : Nat) (y2 y3 : Int) (N : Mem), μ y2 y3 N < n → I y2 y3 N → AW X 104 [(17, x0), (0, x1), (0, y2), (0, y3)] [] N := by
    intro n
    induction n with
    | zero => intro y2 y3 N hlt; exact absurd hlt (Nat.not_lt_zero _)
    | succ n ih =>
      intro y2 y3 N hlt hI
      exact swp_X7_settle_104_b G Z hn hr x0 x1 y2 y3 N B90 k90 (fun z2 z3 N1 => I z2 z3 N1 ∧ μ z2 z3 N1 < μ y2 y3 N) (fun z2 z3 N1 hz => ih z2 z3 N1 (by omega) hz.1) (hs y2 y3 N hI)
  exact key _ x2 x3 M (Nat.lt_succ_self _) hI
def wp_X7_settle_90_b (V : VV) (x0 x1 : Int) (M : Mem) (Q : Int → Mem → Prop) (B90 : Int → Mem → Prop) : Prop :=
  (M x0 0 ≤ x1 →
    Q 0 M) ∧ (¬ (M x0 0 ≤ x1) →
    wp_X7_settle_104 V x0 x1 (w32 (x1 + 1)) 0 M Q B90)
theorem swp_X7_settle_90_b {X : XX} {Q : Int → Mem → Prop} (G : GX X cX7_settle "TreeHands$Tree") (Z : RX X 4 Q) (hn : nLX X = 4) (hr : roomX X = rm_X7_settle) (x0 x1 : Int) (M : Mem) (B90 : Int → Mem → Prop) (k90 : ∀ (z1 : Int) (N : Mem), B90 z1 N → AW X 90 [(17, x0), (0, z1), (99, 0), (99, 0)] [] N) (h : wp_X7_settle_90_b (vX X) x0 x1 M Q B90) : AW X 90 [(17, x0), (0, x1), (99, 0), (99, 0)] [] M := by
  unfold wp_X7_settle_90_b at h
  refine am_iload_n (i := 1) (pc := 90) G dX7_settle_90 rfl rfl ?_
  refine am_aload_n (i := 0) (t := 14) (pc := 91) G dX7_settle_91 rfl rfl rfl ?_
  refine gf_X7_0 (pc := 92) G dX7_settle_92 tw_f_RX7_30 ?_
  refine am_icmp_ge (pc := 95) G 171 dX7_settle_95 (by decide) (fun c => ?_) (fun c => ?_)
  · have h := h.1 c
    exact am_vret (pc := 171) G Z dX7_settle_171 h
  · have h := h.2 c
    refine am_iload_n (i := 1) (pc := 98) G dX7_settle_98 rfl rfl ?_
    refine am_iconst (pc := 99) G dX7_settle_99 (by decide) ?_
    refine am_iadd (pc := 100) G dX7_settle_100 ?_
    refine am_istore_n (pc := 101) G dX7_settle_101 rfl (nlx hn rfl) rfl ?_
    refine am_iconst (pc := 102) (ls := [(17, _), (0, _), (0, _), (99, _)]) G dX7_settle_102 (by decide) ?_
    refine am_istore_n (pc := 103) G dX7_settle_103 rfl (nlx hn rfl) rfl ?_
    refine am_le (ls' := [(17, _), (0, _), (0, _), (0, _)]) ⟨Or.inr rfl, ⟨Or.inr rfl, ⟨Or.inr rfl, ⟨Or.inr rfl, trivial⟩⟩⟩⟩ ?_
    exact swp_X7_settle_104 G Z hn hr _ _ _ _ _ B90 k90 h
def wp_X7_settle_90 (V : VV) (x0 x1 : Int) (M : Mem) (Q : Int → Mem → Prop) : Prop :=
  ∃ (I : Int → Mem → Prop) (μ : Int → Mem → Nat), I x1 M ∧ ∀ (y1 : Int) (N : Mem), I y1 N → wp_X7_settle_90_b V x0 y1 N Q (fun z1 N1 => I z1 N1 ∧ μ z1 N1 < μ y1 N)
theorem swp_X7_settle_90 {X : XX} {Q : Int → Mem → Prop} (G : GX X cX7_settle "TreeHands$Tree") (Z : RX X 4 Q) (hn : nLX X = 4) (hr : roomX X = rm_X7_settle) (x0 x1 : Int) (M : Mem) (h : wp_X7_settle_90 (vX X) x0 x1 M Q) : AW X 90 [(17, x0), (0, x1), (99, 0), (99, 0)] [] M := by
  unfold wp_X7_settle_90 at h
  obtain ⟨I, μ, hI, hs⟩ := h
  have key : ∀ (n : Nat) (y1 : Int) (N : Mem), μ y1 N < n → I y1 N → AW X 90 [(17, x0), (0, y1), (99, 0), (99, 0)] [] N := by
    intro n
    induction n with
    | zero => intro y1 N hlt; exact absurd hlt (Nat.not_lt_zero _)
    | succ n ih =>
      intro y1 N hlt hI
      exact swp_X7_settle_90_b G Z hn hr x0 y1 N (fun z1 N1 => I z1 N1 ∧ μ z1 N1 < μ y1 N) (fun z1 N1 hz => ih z1 N1 (by omega) hz.1) (hs y1 N hI)
  exact key _ x1 M (Nat.lt_succ_self _) hI
def wp_X7_settle_50 (V : VV) (x0 x1 x2 : Int) (M : Mem) (Q : Int → Mem → Prop) (B7 : Int → Mem → Prop) : Prop :=
  ((0 : Int) ≤ x1 ∧ x1 < (16 : Int)) ∧
  B7 (w32 (x1 + (-1))) (mset M (x0 + 3) x1 (w32 (x2 - x1)))
theorem swp_X7_settle_50 {X : XX} {Q : Int → Mem → Prop} (G : GX X cX7_settle "TreeHands$Tree") (Z : RX X 4 Q) (hn : nLX X = 4) (hr : roomX X = rm_X7_settle) (x0 x1 x2 : Int) (M : Mem) (B7 : Int → Mem → Prop) (k7 : ∀ (z1 : Int) (N : Mem), B7 z1 N → AW X 7 [(17, x0), (0, z1), (99, 0), (99, 0)] [] N) (h : wp_X7_settle_50 (vX X) x0 x1 x2 M Q B7) : AW X 50 [(17, x0), (0, x1), (0, x2), (99, 0)] [] M := by
  unfold wp_X7_settle_50 at h
  refine am_aload_n (i := 0) (t := 14) (pc := 50) G dX7_settle_50 rfl rfl rfl ?_
  refine gf_X7_3 (pc := 51) G dX7_settle_51 tw_f_RX7_18 ?_
  refine am_iload_n (i := 1) (pc := 54) G dX7_settle_54 rfl rfl ?_
  refine am_iload_n (i := 2) (pc := 55) G dX7_settle_55 rfl rfl ?_
  refine am_iload_n (i := 1) (pc := 56) G dX7_settle_56 rfl rfl ?_
  refine am_isub (pc := 57) G dX7_settle_57 ?_
  refine am_iast (pc := 58) G 16 dX7_settle_58 (by decide) h.1 ?_
  have h := h.2
  refine am_iinc (pc := 59) G dX7_settle_59 rfl (nlx hn rfl) rfl ?_
  refine am_goto (pc := 62) (ls := [(17, _), (0, _), (0, _), (99, _)]) G 7 dX7_settle_62 (by decide) ?_
  refine am_le (ls' := [(17, _), (0, _), (99, 0), (99, 0)]) ⟨Or.inr rfl, ⟨Or.inr rfl, ⟨Or.inl rfl, ⟨Or.inl rfl, trivial⟩⟩⟩⟩ ?_
  exact k7 _ _ h
def wp_X7_settle_17_b (V : VV) (x0 x1 x2 x3 : Int) (M : Mem) (Q : Int → Mem → Prop) (B7 : Int → Mem → Prop) (B17 : Int → Int → Prop) : Prop :=
  ((0 : Int) ≤ x1 ∧ x1 < (16 : Int)) ∧
  (M (x0 + 2) x1 ≤ x3 →
    wp_X7_settle_50 V x0 x1 x2 M Q B7) ∧ (¬ (M (x0 + 2) x1 ≤ x3) →
    (M x0 0 ≤ x2 →
      wp_X7_settle_50 V x0 x1 x2 M Q B7) ∧ (¬ (M x0 0 ≤ x2) →
      ((0 : Int) ≤ x2 ∧ x2 < (16 : Int)) ∧
      ∀ v8 : Int, v8 = w32 (x2 + M (x0 + 3) x2) →
      B17 v8 (w32 (x3 + 1))))
theorem swp_X7_settle_17_b {X : XX} {Q : Int → Mem → Prop} (G : GX X cX7_settle "TreeHands$Tree") (Z : RX X 4 Q) (hn : nLX X = 4) (hr : roomX X = rm_X7_settle) (x0 x1 x2 x3 : Int) (M : Mem) (B7 : Int → Mem → Prop) (k7 : ∀ (z1 : Int) (N : Mem), B7 z1 N → AW X 7 [(17, x0), (0, z1), (99, 0), (99, 0)] [] N) (B17 : Int → Int → Prop) (k17 : ∀ (z2 z3 : Int), B17 z2 z3 → AW X 17 [(17, x0), (0, x1), (0, z2), (0, z3)] [] M) (h : wp_X7_settle_17_b (vX X) x0 x1 x2 x3 M Q B7 B17) : AW X 17 [(17, x0), (0, x1), (0, x2), (0, x3)] [] M := by
  unfold wp_X7_settle_17_b at h
  refine am_iload_n (i := 3) (pc := 17) G dX7_settle_17 rfl rfl ?_
  refine am_aload_n (i := 0) (t := 14) (pc := 18) G dX7_settle_18 rfl rfl rfl ?_
  refine gf_X7_2 (pc := 19) G dX7_settle_19 tw_f_RX7_15 ?_
  refine am_iload_n (i := 1) (pc := 22) G dX7_settle_22 rfl rfl ?_
  refine am_iald (pc := 23) G 16 dX7_settle_23 (by decide) h.1 ?_
  have h := h.2
  refine am_icmp_ge (pc := 24) G 50 dX7_settle_24 (by decide) (fun c => ?_) (fun c => ?_)
  · have h := h.1 c
    refine am_le (ls' := [(17, _), (0, _), (0, _), (99, 0)]) ⟨Or.inr rfl, ⟨Or.inr rfl, ⟨Or.inr rfl, ⟨Or.inl rfl, trivial⟩⟩⟩⟩ ?_
    exact swp_X7_settle_50 G Z hn hr _ _ _ _ B7 k7 h
  · have h := h.2 c
    refine am_iload_n (i := 2) (pc := 27) G dX7_settle_27 rfl rfl ?_
    refine am_aload_n (i := 0) (t := 14) (pc := 28) G dX7_settle_28 rfl rfl rfl ?_
    refine gf_X7_0 (pc := 29) G dX7_settle_29 tw_f_RX7_30 ?_
    refine am_icmp_ge (pc := 32) G 50 dX7_settle_32 (by decide) (fun c => ?_) (fun c => ?_)
    · have h := h.1 c
      refine am_le (ls' := [(17, _), (0, _), (0, _), (99, 0)]) ⟨Or.inr rfl, ⟨Or.inr rfl, ⟨Or.inr rfl, ⟨Or.inl rfl, trivial⟩⟩⟩⟩ ?_
      exact swp_X7_settle_50 G Z hn hr _ _ _ _ B7 k7 h
    · have h := h.2 c
      refine am_iload_n (i := 2) (pc := 35) G dX7_settle_35 rfl rfl ?_
      refine am_aload_n (i := 0) (t := 14) (pc := 36) G dX7_settle_36 rfl rfl rfl ?_
      refine gf_X7_3 (pc := 37) G dX7_settle_37 tw_f_RX7_18 ?_
      refine am_iload_n (i := 2) (pc := 40) G dX7_settle_40 rfl rfl ?_
      refine am_iald (pc := 41) G 16 dX7_settle_41 (by decide) h.1 ?_
      have h := h.2
      refine am_iadd (pc := 42) G dX7_settle_42 ?_
      have h := h _ rfl
      refine am_istore_n (pc := 43) G dX7_settle_43 rfl (nlx hn rfl) rfl ?_
      refine am_iinc (pc := 44) (ls := [(17, _), (0, _), (0, _), (0, _)]) G dX7_settle_44 rfl (nlx hn rfl) rfl ?_
      refine am_goto (pc := 47) (ls := [(17, _), (0, _), (0, _), (0, _)]) G 17 dX7_settle_47 (by decide) ?_
      refine am_le (ls' := [(17, _), (0, _), (0, _), (0, _)]) ⟨Or.inr rfl, ⟨Or.inr rfl, ⟨Or.inr rfl, ⟨Or.inr rfl, trivial⟩⟩⟩⟩ ?_
      exact k17 _ _ h
def wp_X7_settle_17 (V : VV) (x0 x1 x2 x3 : Int) (M : Mem) (Q : Int → Mem → Prop) (B7 : Int → Mem → Prop) : Prop :=
  ∃ (I : Int → Int → Prop) (μ : Int → Int → Nat), I x2 x3 ∧ ∀ (y2 y3 : Int), I y2 y3 → wp_X7_settle_17_b V x0 x1 y2 y3 M Q B7 (fun z2 z3 => I z2 z3 ∧ μ z2 z3 < μ y2 y3)
theorem swp_X7_settle_17 {X : XX} {Q : Int → Mem → Prop} (G : GX X cX7_settle "TreeHands$Tree") (Z : RX X 4 Q) (hn : nLX X = 4) (hr : roomX X = rm_X7_settle) (x0 x1 x2 x3 : Int) (M : Mem) (B7 : Int → Mem → Prop) (k7 : ∀ (z1 : Int) (N : Mem), B7 z1 N → AW X 7 [(17, x0), (0, z1), (99, 0), (99, 0)] [] N) (h : wp_X7_settle_17 (vX X) x0 x1 x2 x3 M Q B7) : AW X 17 [(17, x0), (0, x1), (0, x2), (0, x3)] [] M := by
  unfold wp_X7_settle_17 at h
  obtain ⟨I, μ, hI, hs⟩ := h
  have key : ∀ (n : Nat) (y2 y3 : Int), μ y2 y3 < n → I y2 y3 → AW X 17 [(17, x0), (0, x1), (0, y2), (0, y3)] [] M := by
    intro n
    induction n with
    | zero => intro y2 y3 hlt; exact absurd hlt (Nat.not_lt_zero _)
    | succ n ih =>
      intro y2 y3 hlt hI
      exact swp_X7_settle_17_b G Z hn hr x0 x1 y2 y3 M B7 k7 (fun z2 z3 => I z2 z3 ∧ μ z2 z3 < μ y2 y3) (fun z2 z3 hz => ih z2 z3 (by omega) hz.1) (hs y2 y3 hI)
  exact key _ x2 x3 (Nat.lt_succ_self _) hI
def wp_X7_settle_7_b (V : VV) (x0 x1 : Int) (M : Mem) (Q : Int → Mem → Prop) (B7 : Int → Mem → Prop) : Prop :=
  (x1 < 0 →
    ((0 : Int) ≤ 0 ∧ 0 < (16 : Int)) ∧
    ∀ M2 : Mem, M2 = mset M (x0 + 4) 0 (-6) →
    ((0 : Int) ≤ 0 ∧ 0 < (16 : Int)) ∧
    ∀ M3 : Mem, M3 = mset M2 (x0 + 5) 0 (-6) →
    ((0 : Int) ≤ 0 ∧ 0 < (16 : Int)) ∧
    wp_X7_settle_90 V x0 0 (mset M3 (x0 + 6) 0 0) Q) ∧ (¬ (x1 < 0) →
    wp_X7_settle_17 V x0 x1 (w32 (x1 + 1)) 0 M Q B7)
theorem swp_X7_settle_7_b {X : XX} {Q : Int → Mem → Prop} (G : GX X cX7_settle "TreeHands$Tree") (Z : RX X 4 Q) (hn : nLX X = 4) (hr : roomX X = rm_X7_settle) (x0 x1 : Int) (M : Mem) (B7 : Int → Mem → Prop) (k7 : ∀ (z1 : Int) (N : Mem), B7 z1 N → AW X 7 [(17, x0), (0, z1), (99, 0), (99, 0)] [] N) (h : wp_X7_settle_7_b (vX X) x0 x1 M Q B7) : AW X 7 [(17, x0), (0, x1), (99, 0), (99, 0)] [] M := by
  unfold wp_X7_settle_7_b at h
  refine am_iload_n (i := 1) (pc := 7) G dX7_settle_7 rfl rfl ?_
  refine am_if_lt (pc := 8) G 65 dX7_settle_8 (by decide) (fun c => ?_) (fun c => ?_)
  · have h := h.1 c
    refine am_aload_n (i := 0) (t := 14) (pc := 65) G dX7_settle_65 rfl rfl rfl ?_
    refine gf_X7_4 (pc := 66) G dX7_settle_66 tw_f_RX7_21 ?_
    refine am_iconst (pc := 69) G dX7_settle_69 (by decide) ?_
    refine am_bipush (pc := 70) G dX7_settle_70 (by decide) (by decide) ?_
    refine am_iast (pc := 72) G 16 dX7_settle_72 (by decide) h.1 ?_
    have h := h.2
    refine am_aload_n (i := 0) (t := 14) (pc := 73) G dX7_settle_73 rfl rfl rfl ?_
    refine gf_X7_5 (pc := 74) G dX7_settle_74 tw_f_RX7_24 ?_
    refine am_iconst (pc := 77) G dX7_settle_77 (by decide) ?_
    refine am_bipush (pc := 78) G dX7_settle_78 (by decide) (by decide) ?_
    have h := h _ rfl
    refine am_iast (pc := 80) G 16 dX7_settle_80 (by decide) h.1 ?_
    have h := h.2
    refine am_aload_n (i := 0) (t := 14) (pc := 81) G dX7_settle_81 rfl rfl rfl ?_
    refine gf_X7_6 (pc := 82) G dX7_settle_82 tw_f_RX7_27 ?_
    refine am_iconst (pc := 85) G dX7_settle_85 (by decide) ?_
    refine am_iconst (pc := 86) G dX7_settle_86 (by decide) ?_
    have h := h _ rfl
    refine am_iast (pc := 87) G 16 dX7_settle_87 (by decide) h.1 ?_
    have h := h.2
    refine am_iconst (pc := 88) G dX7_settle_88 (by decide) ?_
    refine am_istore_n (pc := 89) G dX7_settle_89 rfl (nlx hn rfl) rfl ?_
    refine am_le (ls' := [(17, _), (0, _), (99, 0), (99, 0)]) ⟨Or.inr rfl, ⟨Or.inr rfl, ⟨Or.inl rfl, ⟨Or.inl rfl, trivial⟩⟩⟩⟩ ?_
    exact swp_X7_settle_90 G Z hn hr _ _ _ h
  · have h := h.2 c
    refine am_iload_n (i := 1) (pc := 11) G dX7_settle_11 rfl rfl ?_
    refine am_iconst (pc := 12) G dX7_settle_12 (by decide) ?_
    refine am_iadd (pc := 13) G dX7_settle_13 ?_
    refine am_istore_n (pc := 14) G dX7_settle_14 rfl (nlx hn rfl) rfl ?_
    refine am_iconst (pc := 15) (ls := [(17, _), (0, _), (0, _), (99, _)]) G dX7_settle_15 (by decide) ?_
    refine am_istore_n (pc := 16) G dX7_settle_16 rfl (nlx hn rfl) rfl ?_
    refine am_le (ls' := [(17, _), (0, _), (0, _), (0, _)]) ⟨Or.inr rfl, ⟨Or.inr rfl, ⟨Or.inr rfl, ⟨Or.inr rfl, trivial⟩⟩⟩⟩ ?_
    exact swp_X7_settle_17 G Z hn hr _ _ _ _ _ B7 k7 h
def wp_X7_settle_7 (V : VV) (x0 x1 : Int) (M : Mem) (Q : Int → Mem → Prop) : Prop :=
  ∃ (I : Int → Mem → Prop) (μ : Int → Mem → Nat), I x1 M ∧ ∀ (y1 : Int) (N : Mem), I y1 N → wp_X7_settle_7_b V x0 y1 N Q (fun z1 N1 => I z1 N1 ∧ μ z1 N1 < μ y1 N)
theorem swp_X7_settle_7 {X : XX} {Q : Int → Mem → Prop} (G : GX X cX7_settle "TreeHands$Tree") (Z : RX X 4 Q) (hn : nLX X = 4) (hr : roomX X = rm_X7_settle) (x0 x1 : Int) (M : Mem) (h : wp_X7_settle_7 (vX X) x0 x1 M Q) : AW X 7 [(17, x0), (0, x1), (99, 0), (99, 0)] [] M := by
  unfold wp_X7_settle_7 at h
  obtain ⟨I, μ, hI, hs⟩ := h
  have key : ∀ (n : Nat) (y1 : Int) (N : Mem), μ y1 N < n → I y1 N → AW X 7 [(17, x0), (0, y1), (99, 0), (99, 0)] [] N := by
    intro n
    induction n with
    | zero => intro y1 N hlt; exact absurd hlt (Nat.not_lt_zero _)
    | succ n ih =>
      intro y1 N hlt hI
      exact swp_X7_settle_7_b G Z hn hr x0 y1 N (fun z1 N1 => I z1 N1 ∧ μ z1 N1 < μ y1 N) (fun z1 N1 hz => ih z1 N1 (by omega) hz.1) (hs y1 N hI)
  exact key _ x1 M (Nat.lt_succ_self _) hI
def wp_X7_settle (V : VV) (x0 : Int) (M : Mem) (Q : Int → Mem → Prop) : Prop :=
  ∀ v1 : Int, v1 = w32 (M x0 0 - 1) →
  wp_X7_settle_7 V x0 v1 M Q
theorem of_X7_settle {V : VV} {x0 : Int} {M : Mem} {Q : Int → Mem → Prop} (h : wp_X7_settle V x0 M Q) : R_X7_settle V x0 M Q := by
  refine met_in (own := "TreeHands$Tree") (by decide +kernel) rfl rfl (Nat.le_of_ble_eq_true rfl) ?_
  intro X G Z hn hr hv
  subst hv
  unfold wp_X7_settle at h
  show AW X 0 [(17, x0), (99, 0), (99, 0), (99, 0)] [] M
  refine am_aload_n (i := 0) (t := 14) (pc := 0) G dX7_settle_0 rfl rfl rfl ?_
  refine gf_X7_0 (pc := 1) G dX7_settle_1 tw_f_RX7_30 ?_
  refine am_iconst (pc := 4) G dX7_settle_4 (by decide) ?_
  refine am_isub (pc := 5) G dX7_settle_5 ?_
  have h := h _ rfl
  refine am_istore_n (pc := 6) G dX7_settle_6 rfl (nlx hn rfl) rfl ?_
  refine am_le (ls' := [(17, _), (0, _), (99, 0), (99, 0)]) ⟨Or.inr rfl, ⟨Or.inr rfl, ⟨Or.inl rfl, ⟨Or.inl rfl, trivial⟩⟩⟩⟩ ?_
  exact swp_X7_settle_7 G Z hn hr _ _ _ h
-- X0_find TreeHands$Commoner.find(LTreeHands$Tree;ILTreeHands$Tree;ILTreeHands$Tree;)Z
def rm_X0_find : Room := { frames := 3, cells := 0, slots := 0, locals := 70 }
theorem hy_X0_find : yX0_find.cls ≠ "java/lang/invoke/MethodHandle" ∧ yX0_find.cls ≠ "java/lang/invoke/VarHandle" ∧ (parseMethodDescriptor yX0_find.desc).map (fun d => d.parameters.length) = some 5 := by decide +kernel
abbrev R_X0_find (V : VV) (x1 x2 x3 x4 x5 : Int) (M : Mem) (Q : Int → Mem → Prop) : Prop := RunsM V yX0_find (.code yX0_find cX0_find 11 (Option.some Jvm.ClassFile.FieldType.boolean)) rm_X0_find 1 [(10, 25), (17, x1), (0, x2), (17, x3), (0, x4), (17, x5)] M Q
def wp_X0_find_197 (V : VV) (x5 : Int) (M : Mem) (Q : Int → Mem → Prop) : Prop :=
  R_X7_settle V x5 M (fun _ M6 =>
  Q 1 M6)
theorem swp_X0_find_197 {X : XX} {Q : Int → Mem → Prop} (G : GX X cX0_find "TreeHands$Commoner") (Z : RX X 1 Q) (hn : nLX X = 11) (hr : roomX X = rm_X0_find) (x5 : Int) (M : Mem) (h : wp_X0_find_197 (vX X) x5 M Q) : AW X 197 [(99, 0), (99, 0), (99, 0), (99, 0), (99, 0), (17, x5), (99, 0), (99, 0), (99, 0), (99, 0), (99, 0)] [] M := by
  unfold wp_X0_find_197 at h
  refine am_aload (t := 14) (pc := 197) G dX0_find_197 rfl rfl ?_
  refine am_callV (rk := 4) (rmc := rm_X7_settle) (st := []) (pc := 199) G 7 [] rfl (by decide) rfl dX0_find_199 tw_m_RX0_48 tw_i_X7_settle tw_v_X7_settle tw_z_RX7 tw_c_X7_settle hy_X7_settle (callrm hr rfl) rfl (RunsM.mono h (fun r5 M6 h => ?_)) Z.rm
  show AW X 202 _ [] M6
  refine am_iconst (pc := 202) G dX0_find_202 (by decide) ?_
  exact am_zret (pc := 203) G Z dX0_find_203 ⟨by decide, h⟩
def wp_X0_find_137 (V : VV) (x1 x3 x5 x6 x7 x8 x9 : Int) (M : Mem) (Q : Int → Mem → Prop) (B43 : Int → Int → Int → Mem → Prop) : Prop :=
  R_X0_holeFor V x1 x7 x3 x8 M (fun r11 M12 =>
  (0 ≤ r11 →
    R_X7_append V x5 (w32 (65 + r11)) 0 M12 (fun _ M14 =>
    ((0 : Int) ≤ x7 ∧ x7 < (16 : Int)) ∧
    ∀ v15 : Int, v15 = w32 (x7 + M14 (x1 + 3) x7) →
    ((0 : Int) ≤ x8 ∧ x8 < (16 : Int)) ∧
    ∀ v16 : Int, v16 = w32 (x8 + M14 (x3 + 3) x8) →
    B43 v15 v16 (w32 (x9 + 1)) M14)) ∧ (¬ (0 ≤ r11) →
    Q 0 M12))
theorem swp_X0_find_137 {X : XX} {Q : Int → Mem → Prop} (G : GX X cX0_find "TreeHands$Commoner") (Z : RX X 1 Q) (hn : nLX X = 11) (hr : roomX X = rm_X0_find) (x1 x3 x5 x6 x7 x8 x9 : Int) (M : Mem) (B43 : Int → Int → Int → Mem → Prop) (k43 : ∀ (z7 z8 z9 : Int) (N : Mem), B43 z7 z8 z9 N → AW X 43 [(10, 25), (17, x1), (99, 0), (17, x3), (99, 0), (17, x5), (0, x6), (0, z7), (0, z8), (0, z9), (99, 0)] [] N) (h : wp_X0_find_137 (vX X) x1 x3 x5 x6 x7 x8 x9 M Q B43) : AW X 137 [(10, 25), (17, x1), (99, 0), (17, x3), (99, 0), (17, x5), (0, x6), (0, x7), (0, x8), (0, x9), (99, 0)] [] M := by
  unfold wp_X0_find_137 at h
  refine am_aload_n (i := 0) (t := 7) (pc := 137) G dX0_find_137 rfl rfl rfl ?_
  refine am_aload_n (i := 1) (t := 14) (pc := 138) G dX0_find_138 rfl rfl rfl ?_
  refine am_iload (pc := 139) G dX0_find_139 rfl ?_
  refine am_aload_n (i := 3) (t := 14) (pc := 141) G dX0_find_141 rfl rfl rfl ?_
  refine am_iload (pc := 142) G dX0_find_142 rfl ?_
  refine am_callV (rk := 0) (rmc := rm_X0_holeFor) (st := []) (pc := 144) G 0 [(17, _), (0, _), (17, _), (0, _)] rfl (by decide) rfl dX0_find_144 tw_m_RX0_44 tw_i_X0_holeFor tw_v_X0_holeFor tw_z_RX0 tw_c_X0_holeFor hy_X0_holeFor (callrm hr rfl) rfl (RunsM.mono h (fun r11 M12 h => ?_)) Z.rm
  show AW X 147 _ [(0, _)] M12
  refine am_istore (pc := 147) G dX0_find_147 (nlx hn rfl) rfl ?_
  refine am_iload (pc := 149) (ls := [(10, _), (17, _), (99, _), (17, _), (99, _), (17, _), (0, _), (0, _), (0, _), (0, _), (0, _)]) G dX0_find_149 rfl ?_
  refine am_if_ge (pc := 151) G 156 dX0_find_151 (by decide) (fun c => ?_) (fun c => ?_)
  · have h := h.1 c
    refine am_aload (t := 14) (pc := 156) G dX0_find_156 rfl rfl ?_
    refine am_bipush (pc := 158) G dX0_find_158 (by decide) (by decide) ?_
    refine am_iload (pc := 160) G dX0_find_160 rfl ?_
    refine am_iadd (pc := 162) G dX0_find_162 ?_
    refine am_iconst (pc := 163) G dX0_find_163 (by decide) ?_
    refine am_callV (rk := 4) (rmc := rm_X7_append) (st := []) (pc := 164) G 7 [(0, _), (0, _)] rfl (by decide) rfl dX0_find_164 tw_m_RX0_40 tw_i_X7_append tw_v_X7_append tw_z_RX7 tw_c_X7_append hy_X7_append (callrm hr rfl) rfl (RunsM.mono h (fun r13 M14 h => ?_)) Z.rm
    show AW X 167 _ [] M14
    refine am_iload (pc := 167) G dX0_find_167 rfl ?_
    refine am_aload_n (i := 1) (t := 14) (pc := 169) G dX0_find_169 rfl rfl rfl ?_
    refine gf_X7_3 (pc := 170) G dX0_find_170 tw_f_RX0_31 ?_
    refine am_iload (pc := 173) G dX0_find_173 rfl ?_
    refine am_iald (pc := 175) G 16 dX0_find_175 (by decide) h.1 ?_
    have h := h.2
    refine am_iadd (pc := 176) G dX0_find_176 ?_
    have h := h _ rfl
    refine am_istore (pc := 177) G dX0_find_177 (nlx hn rfl) rfl ?_
    refine am_iload (pc := 179) (ls := [(10, _), (17, _), (99, _), (17, _), (99, _), (17, _), (0, _), (0, _), (0, _), (0, _), (0, _)]) G dX0_find_179 rfl ?_
    refine am_aload_n (i := 3) (t := 14) (pc := 181) G dX0_find_181 rfl rfl rfl ?_
    refine gf_X7_3 (pc := 182) G dX0_find_182 tw_f_RX0_31 ?_
    refine am_iload (pc := 185) G dX0_find_185 rfl ?_
    refine am_iald (pc := 187) G 16 dX0_find_187 (by decide) h.1 ?_
    have h := h.2
    refine am_iadd (pc := 188) G dX0_find_188 ?_
    have h := h _ rfl
    refine am_istore (pc := 189) G dX0_find_189 (nlx hn rfl) rfl ?_
    refine am_iinc (pc := 191) (ls := [(10, _), (17, _), (99, _), (17, _), (99, _), (17, _), (0, _), (0, _), (0, _), (0, _), (0, _)]) G dX0_find_191 rfl (nlx hn rfl) rfl ?_
    refine am_goto (pc := 194) (ls := [(10, _), (17, _), (99, _), (17, _), (99, _), (17, _), (0, _), (0, _), (0, _), (0, _), (0, _)]) G 43 dX0_find_194 (by decide) ?_
    refine am_le (ls' := [(10, _), (17, _), (99, 0), (17, _), (99, 0), (17, _), (0, _), (0, _), (0, _), (0, _), (99, 0)]) ⟨Or.inr rfl, ⟨Or.inr rfl, ⟨Or.inl rfl, ⟨Or.inr rfl, ⟨Or.inl rfl, ⟨Or.inr rfl, ⟨Or.inr rfl, ⟨Or.inr rfl, ⟨Or.inr rfl, ⟨Or.inr rfl, ⟨Or.inl rfl, trivial⟩⟩⟩⟩⟩⟩⟩⟩⟩⟩⟩ ?_
    exact k43 _ _ _ _ h
  · have h := h.2 c
    refine am_iconst (pc := 154) G dX0_find_154 (by decide) ?_
    exact am_zret (pc := 155) G Z dX0_find_155 ⟨by decide, h⟩
def wp_X0_find_43_b (V : VV) (x1 x3 x5 x6 x7 x8 x9 : Int) (M : Mem) (Q : Int → Mem → Prop) (B43 : Int → Int → Int → Mem → Prop) : Prop :=
  (16 ≤ x9 →
    wp_X0_find_197 V x5 M Q) ∧ (¬ (16 ≤ x9) →
    (x6 ≤ x7 →
      wp_X0_find_197 V x5 M Q) ∧ (¬ (x6 ≤ x7) →
      R_X7_has V x1 x7 M (fun r7 M8 =>
      (r7 = 0 →
        wp_X0_find_197 V x5 M8 Q) ∧ (¬ (r7 = 0) →
        R_X7_has V x3 x8 M8 (fun r9 M10 =>
        (r9 = 0 →
          wp_X0_find_197 V x5 M10 Q) ∧ (¬ (r9 = 0) →
          ((0 : Int) ≤ x7 ∧ x7 < (16 : Int)) ∧
          ((0 : Int) ≤ x8 ∧ x8 < (16 : Int)) ∧
          (M10 (x1 + 1) x7 = M10 (x3 + 1) x8 →
            ((0 : Int) ≤ x7 ∧ x7 < (16 : Int)) ∧
            ((0 : Int) ≤ x8 ∧ x8 < (16 : Int)) ∧
            (M10 (x1 + 2) x7 = M10 (x3 + 2) x8 →
              ((0 : Int) ≤ x7 ∧ x7 < (16 : Int)) ∧
              ((0 : Int) ≤ x7 ∧ x7 < (16 : Int)) ∧
              R_X7_append V x5 (M10 (x1 + 1) x7) (M10 (x1 + 2) x7) M10 (fun _ M18 =>
              B43 (w32 (x7 + 1)) (w32 (x8 + 1)) (w32 (x9 + 1)) M18)) ∧ (¬ (M10 (x1 + 2) x7 = M10 (x3 + 2) x8) →
              wp_X0_find_137 V x1 x3 x5 x6 x7 x8 x9 M10 Q B43)) ∧ (¬ (M10 (x1 + 1) x7 = M10 (x3 + 1) x8) →
            wp_X0_find_137 V x1 x3 x5 x6 x7 x8 x9 M10 Q B43)))))))
theorem swp_X0_find_43_b {X : XX} {Q : Int → Mem → Prop} (G : GX X cX0_find "TreeHands$Commoner") (Z : RX X 1 Q) (hn : nLX X = 11) (hr : roomX X = rm_X0_find) (x1 x3 x5 x6 x7 x8 x9 : Int) (M : Mem) (B43 : Int → Int → Int → Mem → Prop) (k43 : ∀ (z7 z8 z9 : Int) (N : Mem), B43 z7 z8 z9 N → AW X 43 [(10, 25), (17, x1), (99, 0), (17, x3), (99, 0), (17, x5), (0, x6), (0, z7), (0, z8), (0, z9), (99, 0)] [] N) (h : wp_X0_find_43_b (vX X) x1 x3 x5 x6 x7 x8 x9 M Q B43) : AW X 43 [(10, 25), (17, x1), (99, 0), (17, x3), (99, 0), (17, x5), (0, x6), (0, x7), (0, x8), (0, x9), (99, 0)] [] M := by
  unfold wp_X0_find_43_b at h
  refine am_iload (pc := 43) G dX0_find_43 rfl ?_
  refine am_bipush (pc := 45) G dX0_find_45 (by decide) (by decide) ?_
  refine am_icmp_ge (pc := 47) G 197 dX0_find_47 (by decide) (fun c => ?_) (fun c => ?_)
  · have h := h.1 c
    refine am_le (ls' := [(99, 0), (99, 0), (99, 0), (99, 0), (99, 0), (17, _), (99, 0), (99, 0), (99, 0), (99, 0), (99, 0)]) ⟨Or.inl rfl, ⟨Or.inl rfl, ⟨Or.inl rfl, ⟨Or.inl rfl, ⟨Or.inl rfl, ⟨Or.inr rfl, ⟨Or.inl rfl, ⟨Or.inl rfl, ⟨Or.inl rfl, ⟨Or.inl rfl, ⟨Or.inl rfl, trivial⟩⟩⟩⟩⟩⟩⟩⟩⟩⟩⟩ ?_
    exact swp_X0_find_197 G Z hn hr _ _ h
  · have h := h.2 c
    refine am_iload (pc := 50) G dX0_find_50 rfl ?_
    refine am_iload (pc := 52) G dX0_find_52 rfl ?_
    refine am_icmp_ge (pc := 54) G 197 dX0_find_54 (by decide) (fun c => ?_) (fun c => ?_)
    · have h := h.1 c
      refine am_le (ls' := [(99, 0), (99, 0), (99, 0), (99, 0), (99, 0), (17, _), (99, 0), (99, 0), (99, 0), (99, 0), (99, 0)]) ⟨Or.inl rfl, ⟨Or.inl rfl, ⟨Or.inl rfl, ⟨Or.inl rfl, ⟨Or.inl rfl, ⟨Or.inr rfl, ⟨Or.inl rfl, ⟨Or.inl rfl, ⟨Or.inl rfl, ⟨Or.inl rfl, ⟨Or.inl rfl, trivial⟩⟩⟩⟩⟩⟩⟩⟩⟩⟩⟩ ?_
      exact swp_X0_find_197 G Z hn hr _ _ h
    · have h := h.2 c
      refine am_aload_n (i := 1) (t := 14) (pc := 57) G dX0_find_57 rfl rfl rfl ?_
      refine am_iload (pc := 58) G dX0_find_58 rfl ?_
      refine am_callV (rk := 1) (rmc := rm_X7_has) (st := []) (pc := 60) G 7 [(0, _)] rfl (by decide) rfl dX0_find_60 tw_m_RX0_27 tw_i_X7_has tw_v_X7_has tw_z_RX7 tw_c_X7_has hy_X7_has (callrm hr rfl) rfl (RunsM.mono h (fun r7 M8 h => ?_)) Z.rm
      show AW X 63 _ [(0, _)] M8
      refine am_if_eq (pc := 63) G 197 dX0_find_63 (by decide) (fun c => ?_) (fun c => ?_)
      · have h := h.1 c
        refine am_le (ls' := [(99, 0), (99, 0), (99, 0), (99, 0), (99, 0), (17, _), (99, 0), (99, 0), (99, 0), (99, 0), (99, 0)]) ⟨Or.inl rfl, ⟨Or.inl rfl, ⟨Or.inl rfl, ⟨Or.inl rfl, ⟨Or.inl rfl, ⟨Or.inr rfl, ⟨Or.inl rfl, ⟨Or.inl rfl, ⟨Or.inl rfl, ⟨Or.inl rfl, ⟨Or.inl rfl, trivial⟩⟩⟩⟩⟩⟩⟩⟩⟩⟩⟩ ?_
        exact swp_X0_find_197 G Z hn hr _ _ h
      · have h := h.2 c
        refine am_aload_n (i := 3) (t := 14) (pc := 66) G dX0_find_66 rfl rfl rfl ?_
        refine am_iload (pc := 67) G dX0_find_67 rfl ?_
        refine am_callV (rk := 1) (rmc := rm_X7_has) (st := []) (pc := 69) G 7 [(0, _)] rfl (by decide) rfl dX0_find_69 tw_m_RX0_27 tw_i_X7_has tw_v_X7_has tw_z_RX7 tw_c_X7_has hy_X7_has (callrm hr rfl) rfl (RunsM.mono h (fun r9 M10 h => ?_)) Z.rm
        show AW X 72 _ [(0, _)] M10
        refine am_if_eq (pc := 72) G 197 dX0_find_72 (by decide) (fun c => ?_) (fun c => ?_)
        · have h := h.1 c
          refine am_le (ls' := [(99, 0), (99, 0), (99, 0), (99, 0), (99, 0), (17, _), (99, 0), (99, 0), (99, 0), (99, 0), (99, 0)]) ⟨Or.inl rfl, ⟨Or.inl rfl, ⟨Or.inl rfl, ⟨Or.inl rfl, ⟨Or.inl rfl, ⟨Or.inr rfl, ⟨Or.inl rfl, ⟨Or.inl rfl, ⟨Or.inl rfl, ⟨Or.inl rfl, ⟨Or.inl rfl, trivial⟩⟩⟩⟩⟩⟩⟩⟩⟩⟩⟩ ?_
          exact swp_X0_find_197 G Z hn hr _ _ h
        · have h := h.2 c
          refine am_aload_n (i := 1) (t := 14) (pc := 75) G dX0_find_75 rfl rfl rfl ?_
          refine gf_X7_1 (pc := 76) G dX0_find_76 tw_f_RX0_34 ?_
          refine am_iload (pc := 79) G dX0_find_79 rfl ?_
          refine am_iald (pc := 81) G 16 dX0_find_81 (by decide) h.1 ?_
          have h := h.2
          refine am_aload_n (i := 3) (t := 14) (pc := 82) G dX0_find_82 rfl rfl rfl ?_
          refine gf_X7_1 (pc := 83) G dX0_find_83 tw_f_RX0_34 ?_
          refine am_iload (pc := 86) G dX0_find_86 rfl ?_
          refine am_iald (pc := 88) G 16 dX0_find_88 (by decide) h.1 ?_
          have h := h.2
          refine am_icmp_ne (pc := 89) G 137 dX0_find_89 (by decide) (fun c => ?_) (fun c => ?_)
          · have h := h.2 c
            refine am_le (ls' := [(10, _), (17, _), (99, 0), (17, _), (99, 0), (17, _), (0, _), (0, _), (0, _), (0, _), (99, 0)]) ⟨Or.inr rfl, ⟨Or.inr rfl, ⟨Or.inl rfl, ⟨Or.inr rfl, ⟨Or.inl rfl, ⟨Or.inr rfl, ⟨Or.inr rfl, ⟨Or.inr rfl, ⟨Or.inr rfl, ⟨Or.inr rfl, ⟨Or.inl rfl, trivial⟩⟩⟩⟩⟩⟩⟩⟩⟩⟩⟩ ?_
            exact swp_X0_find_137 G Z hn hr _ _ _ _ _ _ _ _ B43 k43 h
          · have h := h.1 c
            refine am_aload_n (i := 1) (t := 14) (pc := 92) G dX0_find_92 rfl rfl rfl ?_
            refine gf_X7_2 (pc := 93) G dX0_find_93 tw_f_RX0_37 ?_
            refine am_iload (pc := 96) G dX0_find_96 rfl ?_
            refine am_iald (pc := 98) G 16 dX0_find_98 (by decide) h.1 ?_
            have h := h.2
            refine am_aload_n (i := 3) (t := 14) (pc := 99) G dX0_find_99 rfl rfl rfl ?_
            refine gf_X7_2 (pc := 100) G dX0_find_100 tw_f_RX0_37 ?_
            refine am_iload (pc := 103) G dX0_find_103 rfl ?_
            refine am_iald (pc := 105) G 16 dX0_find_105 (by decide) h.1 ?_
            have h := h.2
            refine am_icmp_ne (pc := 106) G 137 dX0_find_106 (by decide) (fun c => ?_) (fun c => ?_)
            · have h := h.2 c
              refine am_le (ls' := [(10, _), (17, _), (99, 0), (17, _), (99, 0), (17, _), (0, _), (0, _), (0, _), (0, _), (99, 0)]) ⟨Or.inr rfl, ⟨Or.inr rfl, ⟨Or.inl rfl, ⟨Or.inr rfl, ⟨Or.inl rfl, ⟨Or.inr rfl, ⟨Or.inr rfl, ⟨Or.inr rfl, ⟨Or.inr rfl, ⟨Or.inr rfl, ⟨Or.inl rfl, trivial⟩⟩⟩⟩⟩⟩⟩⟩⟩⟩⟩ ?_
              exact swp_X0_find_137 G Z hn hr _ _ _ _ _ _ _ _ B43 k43 h
            · have h := h.1 c
              refine am_aload (t := 14) (pc := 109) G dX0_find_109 rfl rfl ?_
              refine am_aload_n (i := 1) (t := 14) (pc := 111) G dX0_find_111 rfl rfl rfl ?_
              refine gf_X7_1 (pc := 112) G dX0_find_112 tw_f_RX0_34 ?_
              refine am_iload (pc := 115) G dX0_find_115 rfl ?_
              refine am_iald (pc := 117) G 16 dX0_find_117 (by decide) h.1 ?_
              have h := h.2
              refine am_aload_n (i := 1) (t := 14) (pc := 118) G dX0_find_118 rfl rfl rfl ?_
              refine gf_X7_2 (pc := 119) G dX0_find_119 tw_f_RX0_37 ?_
              refine am_iload (pc := 122) G dX0_find_122 rfl ?_
              refine am_iald (pc := 124) G 16 dX0_find_124 (by decide) h.1 ?_
              have h := h.2
              refine am_callV (rk := 4) (rmc := rm_X7_append) (st := []) (pc := 125) G 7 [(0, _), (0, _)] rfl (by decide) rfl dX0_find_125 tw_m_RX0_40 tw_i_X7_append tw_v_X7_append tw_z_RX7 tw_c_X7_append hy_X7_append (callrm hr rfl) rfl (RunsM.mono h (fun r17 M18 h => ?_)) Z.rm
              show AW X 128 _ [] M18
              refine am_iinc (pc := 128) G dX0_find_128 rfl (nlx hn rfl) rfl ?_
              refine am_iinc (pc := 131) (ls := [(10, _), (17, _), (99, _), (17, _), (99, _), (17, _), (0, _), (0, _), (0, _), (0, _), (99, _)]) G dX0_find_131 rfl (nlx hn rfl) rfl ?_
              refine am_goto (pc := 134) (ls := [(10, _), (17, _), (99, _), (17, _), (99, _), (17, _), (0, _), (0, _), (0, _), (0, _), (99, _)]) G 191 dX0_find_134 (by decide) ?_
              refine am_iinc (pc := 191) G dX0_find_191 rfl (nlx hn rfl) rfl ?_
              refine am_goto (pc := 194) (ls := [(10, _), (17, _), (99, _), (17, _), (99, _), (17, _), (0, _), (0, _), (0, _), (0, _), (99, _)]) G 43 dX0_find_194 (by decide) ?_
              refine am_le (ls' := [(10, _), (17, _), (99, 0), (17, _), (99, 0), (17, _), (0, _), (0, _), (0, _), (0, _), (99, 0)]) ⟨Or.inr rfl, ⟨Or.inr rfl, ⟨Or.inl rfl, ⟨Or.inr rfl, ⟨Or.inl rfl, ⟨Or.inr rfl, ⟨Or.inr rfl, ⟨Or.inr rfl, ⟨Or.inr rfl, ⟨Or.inr rfl, ⟨Or.inl rfl, trivial⟩⟩⟩⟩⟩⟩⟩⟩⟩⟩⟩ ?_
              exact k43 _ _ _ _ h
def wp_X0_find_43 (V : VV) (x1 x3 x5 x6 x7 x8 x9 : Int) (M : Mem) (Q : Int → Mem → Prop) : Prop :=
  ∃ (I : Int → Int → Int → Mem → Prop) (μ : Int → Int → Int → Mem → Nat), I x7 x8 x9 M ∧ ∀ (y7 y8 y9 : Int) (N : Mem), I y7 y8 y9 N → wp_X0_find_43_b V x1 x3 x5 x6 y7 y8 y9 N Q (fun z7 z8 z9 N1 => I z7 z8 z9 N1 ∧ μ z7 z8 z9 N1 < μ y7 y8 y9 N)
theorem swp_X0_find_43 {X : XX} {Q : Int → Mem → Prop} (G : GX X cX0_find "TreeHands$Commoner") (Z : RX X 1 Q) (hn : nLX X = 11) (hr : roomX X = rm_X0_find) (x1 x3 x5 x6 x7 x8 x9 : Int) (M : Mem) (h : wp_X0_find_43 (vX X) x1 x3 x5 x6 x7 x8 x9 M Q) : AW X 43 [(10, 25), (17, x1), (99, 0), (17, x3), (99, 0), (17, x5), (0, x6), (0, x7), (0, x8), (0, x9), (99, 0)] [] M := by
  unfold wp_X0_find_43 at h
  obtain ⟨I, μ, hI, hs⟩ := h
  have key : ∀ (n : Nat) (y7 y8 y9 : Int) (N : Mem), μ y7 y8 y9 N < n → I y7 y8 y9 N → AW X 43 [(10, 25), (17, x1), (99, 0), (17, x3), (99, 0), (17, x5), (0, x6), (0, y7), (0, y8), (0, y9), (99, 0)] [] N := by
    intro n
    induction n with
    | zero => intro y7 y8 y9 N hlt; exact absurd hlt (Nat.not_lt_zero _)
    | succ n ih =>
      intro y7 y8 y9 N hlt hI
      exact swp_X0_find_43_b G Z hn hr x1 x3 x5 x6 y7 y8 y9 N (fun z7 z8 z9 N1 => I z7 z8 z9 N1 ∧ μ z7 z8 z9 N1 < μ y7 y8 y9 N) (fun z7 z8 z9 N1 hz => ih z7 z8 z9 N1 (by omega) hz.1) (hs y7 y8 y9 N hI)
  exact key _ x7 x8 x9 M (Nat.lt_succ_self _) hI
def wp_X0_find_31 (V : VV) (x1 x2 x3 x4 x5 s0 : Int) (M : Mem) (Q : Int → Mem → Prop) : Prop :=
  wp_X0_find_43 V x1 x3 x5 s0 x2 x4 0 M Q
theorem swp_X0_find_31 {X : XX} {Q : Int → Mem → Prop} (G : GX X cX0_find "TreeHands$Commoner") (Z : RX X 1 Q) (hn : nLX X = 11) (hr : roomX X = rm_X0_find) (x1 x2 x3 x4 x5 s0 : Int) (M : Mem) (h : wp_X0_find_31 (vX X) x1 x2 x3 x4 x5 s0 M Q) : AW X 31 [(10, 25), (17, x1), (0, x2), (17, x3), (0, x4), (17, x5), (99, 0), (99, 0), (99, 0), (99, 0), (99, 0)] [(0, s0)] M := by
  unfold wp_X0_find_31 at h
  refine am_istore (pc := 31) G dX0_find_31 (nlx hn rfl) rfl ?_
  refine am_iload_n (i := 2) (pc := 33) (ls := [(10, _), (17, _), (0, _), (17, _), (0, _), (17, _), (0, _), (99, _), (99, _), (99, _), (99, _)]) G dX0_find_33 rfl rfl ?_
  refine am_istore (pc := 34) G dX0_find_34 (nlx hn rfl) rfl ?_
  refine am_iload (pc := 36) (ls := [(10, _), (17, _), (0, _), (17, _), (0, _), (17, _), (0, _), (0, _), (99, _), (99, _), (99, _)]) G dX0_find_36 rfl ?_
  refine am_istore (pc := 38) G dX0_find_38 (nlx hn rfl) rfl ?_
  refine am_iconst (pc := 40) (ls := [(10, _), (17, _), (0, _), (17, _), (0, _), (17, _), (0, _), (0, _), (0, _), (99, _), (99, _)]) G dX0_find_40 (by decide) ?_
  refine am_istore (pc := 41) G dX0_find_41 (nlx hn rfl) rfl ?_
  refine am_le (ls' := [(10, _), (17, _), (99, 0), (17, _), (99, 0), (17, _), (0, _), (0, _), (0, _), (0, _), (99, 0)]) ⟨Or.inr rfl, ⟨Or.inr rfl, ⟨Or.inl rfl, ⟨Or.inr rfl, ⟨Or.inl rfl, ⟨Or.inr rfl, ⟨Or.inr rfl, ⟨Or.inr rfl, ⟨Or.inr rfl, ⟨Or.inr rfl, ⟨Or.inl rfl, trivial⟩⟩⟩⟩⟩⟩⟩⟩⟩⟩⟩ ?_
  exact swp_X0_find_43 G Z hn hr _ _ _ _ _ _ _ _ h
def wp_X0_find (V : VV) (x1 x2 x3 x4 x5 : Int) (M : Mem) (Q : Int → Mem → Prop) : Prop :=
  ∀ M1 : Mem, M1 = mset M 25 0 0 →
  ∀ M2 : Mem, M2 = mset M1 x5 0 0 →
  R_X7_has V x1 x2 M2 (fun r3 M4 =>
  (r3 = 0 →
    wp_X0_find_31 V x1 x2 x3 x4 x5 x2 M4 Q) ∧ (¬ (r3 = 0) →
    ((0 : Int) ≤ x2 ∧ x2 < (16 : Int)) ∧
    wp_X0_find_31 V x1 x2 x3 x4 x5 (w32 (x2 + M4 (x1 + 3) x2)) M4 Q))
theorem of_X0_find {V : VV} {x1 x2 x3 x4 x5 : Int} {M : Mem} {Q : Int → Mem → Prop} (h : wp_X0_find V x1 x2 x3 x4 x5 M Q) : R_X0_find V x1 x2 x3 x4 x5 M Q := by
  refine met_in (own := "TreeHands$Commoner") (by decide +kernel) rfl rfl (Nat.le_of_ble_eq_true rfl) ?_
  intro X G Z hn hr hv
  subst hv
  unfold wp_X0_find at h
  show AW X 0 [(10, 25), (17, x1), (0, x2), (17, x3), (0, x4), (17, x5), (99, 0), (99, 0), (99, 0), (99, 0), (99, 0)] [] M
  refine am_aload_n (i := 0) (t := 7) (pc := 0) G dX0_find_0 rfl rfl rfl ?_
  refine am_iconst (pc := 1) G dX0_find_1 (by decide) ?_
  refine pf_X0_0 (pc := 2) G dX0_find_2 tw_f_RX0_18 ?_
  refine am_aload (t := 14) (pc := 5) G dX0_find_5 rfl rfl ?_
  refine am_iconst (pc := 7) G dX0_find_7 (by decide) ?_
  have h := h _ rfl
  refine pf_X7_0 (pc := 8) G dX0_find_8 tw_f_RX0_22 ?_
  refine am_aload_n (i := 1) (t := 14) (pc := 11) G dX0_find_11 rfl rfl rfl ?_
  refine am_iload_n (i := 2) (pc := 12) G dX0_find_12 rfl rfl ?_
  have h := h _ rfl
  refine am_callV (rk := 1) (rmc := rm_X7_has) (st := []) (pc := 13) G 7 [(0, _)] rfl (by decide) rfl dX0_find_13 tw_m_RX0_27 tw_i_X7_has tw_v_X7_has tw_z_RX7 tw_c_X7_has hy_X7_has (callrm hr rfl) rfl (RunsM.mono h (fun r3 M4 h => ?_)) Z.rm
  show AW X 16 _ [(0, _)] M4
  refine am_if_eq (pc := 16) G 30 dX0_find_16 (by decide) (fun c => ?_) (fun c => ?_)
  · have h := h.1 c
    refine am_iload_n (i := 2) (pc := 30) G dX0_find_30 rfl rfl ?_
    refine am_le (ls' := [(10, _), (17, _), (0, _), (17, _), (0, _), (17, _), (99, 0), (99, 0), (99, 0), (99, 0), (99, 0)]) ⟨Or.inr rfl, ⟨Or.inr rfl, ⟨Or.inr rfl, ⟨Or.inr rfl, ⟨Or.inr rfl, ⟨Or.inr rfl, ⟨Or.inl rfl, ⟨Or.inl rfl, ⟨Or.inl rfl, ⟨Or.inl rfl, ⟨Or.inl rfl, trivial⟩⟩⟩⟩⟩⟩⟩⟩⟩⟩⟩ ?_
    exact swp_X0_find_31 G Z hn hr _ _ _ _ _ _ _ h
  · have h := h.2 c
    refine am_iload_n (i := 2) (pc := 19) G dX0_find_19 rfl rfl ?_
    refine am_aload_n (i := 1) (t := 14) (pc := 20) G dX0_find_20 rfl rfl rfl ?_
    refine gf_X7_3 (pc := 21) G dX0_find_21 tw_f_RX0_31 ?_
    refine am_iload_n (i := 2) (pc := 24) G dX0_find_24 rfl rfl ?_
    refine am_iald (pc := 25) G 16 dX0_find_25 (by decide) h.1 ?_
    have h := h.2
    refine am_iadd (pc := 26) G dX0_find_26 ?_
    refine am_goto (pc := 27) G 31 dX0_find_27 (by decide) ?_
    refine am_le (ls' := [(10, _), (17, _), (0, _), (17, _), (0, _), (17, _), (99, 0), (99, 0), (99, 0), (99, 0), (99, 0)]) ⟨Or.inr rfl, ⟨Or.inr rfl, ⟨Or.inr rfl, ⟨Or.inr rfl, ⟨Or.inr rfl, ⟨Or.inr rfl, ⟨Or.inl rfl, ⟨Or.inl rfl, ⟨Or.inl rfl, ⟨Or.inl rfl, ⟨Or.inl rfl, trivial⟩⟩⟩⟩⟩⟩⟩⟩⟩⟩⟩ ?_
    exact swp_X0_find_31 G Z hn hr _ _ _ _ _ _ _ h
-- X9_isHole TreeHands.isHole(I)Z
def rm_X9_isHole : Room := { frames := 0, cells := 0, slots := 0, locals := 0 }
theorem hy_X9_isHole : yX9_isHole.cls ≠ "java/lang/invoke/MethodHandle" ∧ yX9_isHole.cls ≠ "java/lang/invoke/VarHandle" ∧ (parseMethodDescriptor yX9_isHole.desc).map (fun d => d.parameters.length) = some 1 := by decide +kernel
abbrev R_X9_isHole (V : VV) (x0 : Int) (M : Mem) (Q : Int → Mem → Prop) : Prop := RunsM V yX9_isHole (.code yX9_isHole cX9_isHole 1 (Option.some Jvm.ClassFile.FieldType.boolean)) rm_X9_isHole 1 [(0, x0)] M Q
def wp_X9_isHole (V : VV) (x0 : Int) (M : Mem) (Q : Int → Mem → Prop) : Prop :=
  (x0 < 65 →
    Q 0 M) ∧ (¬ (x0 < 65) →
    (72 < x0 →
      Q 0 M) ∧ (¬ (72 < x0) →
      Q 1 M))
theorem of_X9_isHole {V : VV} {x0 : Int} {M : Mem} {Q : Int → Mem → Prop} (h : wp_X9_isHole V x0 M Q) : R_X9_isHole V x0 M Q := by
  refine met_in (own := "TreeHands") (by decide +kernel) rfl rfl (Nat.le_of_ble_eq_true rfl) ?_
  intro X G Z hn hr hv
  subst hv
  unfold wp_X9_isHole at h
  show AW X 0 [(0, x0)] [] M
  refine am_iload_n (i := 0) (pc := 0) G dX9_isHole_0 rfl rfl ?_
  refine am_bipush (pc := 1) G dX9_isHole_1 (by decide) (by decide) ?_
  refine am_icmp_lt (pc := 3) G 16 dX9_isHole_3 (by decide) (fun c => ?_) (fun c => ?_)
  · have h := h.1 c
    refine am_iconst (pc := 16) G dX9_isHole_16 (by decide) ?_
    exact am_zret (pc := 17) G Z dX9_isHole_17 ⟨by decide, h⟩
  · have h := h.2 c
    refine am_iload_n (i := 0) (pc := 6) G dX9_isHole_6 rfl rfl ?_
    refine am_bipush (pc := 7) G dX9_isHole_7 (by decide) (by decide) ?_
    refine am_icmp_gt (pc := 9) G 16 dX9_isHole_9 (by decide) (fun c => ?_) (fun c => ?_)
    · have h := h.1 c
      refine am_iconst (pc := 16) G dX9_isHole_16 (by decide) ?_
      exact am_zret (pc := 17) G Z dX9_isHole_17 ⟨by decide, h⟩
    · have h := h.2 c
      refine am_iconst (pc := 12) G dX9_isHole_12 (by decide) ?_
      refine am_goto (pc := 13) G 17 dX9_isHole_13 (by decide) ?_
      exact am_zret (pc := 17) G Z dX9_isHole_17 ⟨by decide, h⟩
-- X1_load TreeHands$Joiner.load(LTreeHands$Tree;II)V
def rm_X1_load : Room := { frames := 1, cells := 0, slots := 0, locals := 20 }
theorem hy_X1_load : yX1_load.cls ≠ "java/lang/invoke/MethodHandle" ∧ yX1_load.cls ≠ "java/lang/invoke/VarHandle" ∧ (parseMethodDescriptor yX1_load.desc).map (fun d => d.parameters.length) = some 3 := by decide +kernel
abbrev R_X1_load (V : VV) (x1 x2 x3 : Int) (M : Mem) (Q : Int → Mem → Prop) : Prop := RunsM V yX1_load (.code yX1_load cX1_load 7 (Option.none : Option Jvm.ClassFile.FieldType)) rm_X1_load 4 [(11, 129), (17, x1), (0, x2), (0, x3)] M Q
def wp_X1_load_124 (V : VV) (x1 x2 x3 x4 s0 : Int) (M : Mem) (Q : Int → Mem → Prop) (B3 : Int → Mem → Prop) : Prop :=
  (s0 = 0 →
    ((0 : Int) ≤ w32 (x2 + x4) ∧ w32 (x2 + x4) < (32 : Int)) ∧
    B3 (w32 (x4 + 1)) (mset M 133 (w32 (x2 + x4)) (w32 (x2 + x4)))) ∧ (¬ (s0 = 0) →
    ((0 : Int) ≤ x4 ∧ x4 < (16 : Int)) ∧
    ((0 : Int) ≤ w32 (x2 + x4) ∧ w32 (x2 + x4) < (32 : Int)) ∧
    B3 (w32 (x4 + 1)) (mset M 133 (w32 (x2 + x4)) (w32 (w32 (x3 + M (x1 + 1) x4) - 65))))
theorem swp_X1_load_124 {X : XX} {Q : Int → Mem → Prop} (G : GX X cX1_load "TreeHands$Joiner") (Z : RX X 4 Q) (hn : nLX X = 7) (hr : roomX X = rm_X1_load) (x1 x2 x3 x4 s0 : Int) (M : Mem) (B3 : Int → Mem → Prop) (k3 : ∀ (z4 : Int) (N : Mem), B3 z4 N → AW X 3 [(11, 129), (17, x1), (0, x2), (0, x3), (0, z4), (99, 0), (99, 0)] [] N) (h : wp_X1_load_124 (vX X) x1 x2 x3 x4 s0 M Q B3) : AW X 124 [(11, 129), (17, x1), (0, x2), (0, x3), (0, x4), (99, 0), (99, 0)] [(0, s0)] M := by
  unfold wp_X1_load_124 at h
  refine am_istore (pc := 124) G dX1_load_124 (nlx hn rfl) rfl ?_
  refine am_aload_n (i := 0) (t := 8) (pc := 126) (ls := [(11, _), (17, _), (0, _), (0, _), (0, _), (99, _), (0, _)]) G dX1_load_126 rfl rfl rfl ?_
  refine gf_X1_3 (pc := 127) G dX1_load_127 tw_f_RX1_21 ?_
  refine am_iload_n (i := 2) (pc := 130) G dX1_load_130 rfl rfl ?_
  refine am_iload (pc := 131) G dX1_load_131 rfl ?_
  refine am_iadd (pc := 133) G dX1_load_133 ?_
  refine am_iload (pc := 134) G dX1_load_134 rfl ?_
  refine am_if_eq (pc := 136) G 154 dX1_load_136 (by decide) (fun c => ?_) (fun c => ?_)
  · have h := h.1 c
    refine am_iload_n (i := 2) (pc := 154) G dX1_load_154 rfl rfl ?_
    refine am_iload (pc := 155) G dX1_load_155 rfl ?_
    refine am_iadd (pc := 157) G dX1_load_157 ?_
    refine am_iast (pc := 158) G 32 dX1_load_158 (by decide) h.1 ?_
    have h := h.2
    refine am_iinc (pc := 159) G dX1_load_159 rfl (nlx hn rfl) rfl ?_
    refine am_goto (pc := 162) (ls := [(11, _), (17, _), (0, _), (0, _), (0, _), (99, _), (0, _)]) G 3 dX1_load_162 (by decide) ?_
    refine am_le (ls' := [(11, _), (17, _), (0, _), (0, _), (0, _), (99, 0), (99, 0)]) ⟨Or.inr rfl, ⟨Or.inr rfl, ⟨Or.inr rfl, ⟨Or.inr rfl, ⟨Or.inr rfl, ⟨Or.inl rfl, ⟨Or.inl rfl, trivial⟩⟩⟩⟩⟩⟩⟩ ?_
    exact k3 _ _ h
  · have h := h.2 c
    refine am_iload_n (i := 3) (pc := 139) G dX1_load_139 rfl rfl ?_
    refine am_aload_n (i := 1) (t := 14) (pc := 140) G dX1_load_140 rfl rfl rfl ?_
    refine gf_X7_1 (pc := 141) G dX1_load_141 tw_f_RX1_67 ?_
    refine am_iload (pc := 144) G dX1_load_144 rfl ?_
    refine am_iald (pc := 146) G 16 dX1_load_146 (by decide) h.1 ?_
    have h := h.2
    refine am_iadd (pc := 147) G dX1_load_147 ?_
    refine am_bipush (pc := 148) G dX1_load_148 (by decide) (by decide) ?_
    refine am_isub (pc := 150) G dX1_load_150 ?_
    refine am_goto (pc := 151) G 158 dX1_load_151 (by decide) ?_
    refine am_iast (pc := 158) G 32 dX1_load_158 (by decide) h.1 ?_
    have h := h.2
    refine am_iinc (pc := 159) G dX1_load_159 rfl (nlx hn rfl) rfl ?_
    refine am_goto (pc := 162) (ls := [(11, _), (17, _), (0, _), (0, _), (0, _), (99, _), (0, _)]) G 3 dX1_load_162 (by decide) ?_
    refine am_le (ls' := [(11, _), (17, _), (0, _), (0, _), (0, _), (99, 0), (99, 0)]) ⟨Or.inr rfl, ⟨Or.inr rfl, ⟨Or.inr rfl, ⟨Or.inr rfl, ⟨Or.inr rfl, ⟨Or.inl rfl, ⟨Or.inl rfl, trivial⟩⟩⟩⟩⟩⟩⟩ ?_
    exact k3 _ _ h
def wp_X1_load_123 (V : VV) (x1 x2 x3 x4 : Int) (M : Mem) (Q : Int → Mem → Prop) (B3 : Int → Mem → Prop) : Prop :=
  wp_X1_load_124 V x1 x2 x3 x4 0 M Q B3
theorem swp_X1_load_123 {X : XX} {Q : Int → Mem → Prop} (G : GX X cX1_load "TreeHands$Joiner") (Z : RX X 4 Q) (hn : nLX X = 7) (hr : roomX X = rm_X1_load) (x1 x2 x3 x4 : Int) (M : Mem) (B3 : Int → Mem → Prop) (k3 : ∀ (z4 : Int) (N : Mem), B3 z4 N → AW X 3 [(11, 129), (17, x1), (0, x2), (0, x3), (0, z4), (99, 0), (99, 0)] [] N) (h : wp_X1_load_123 (vX X) x1 x2 x3 x4 M Q B3) : AW X 123 [(11, 129), (17, x1), (0, x2), (0, x3), (0, x4), (99, 0), (99, 0)] [] M := by
  unfold wp_X1_load_123 at h
  refine am_iconst (pc := 123) G dX1_load_123 (by decide) ?_
  refine am_le (ls' := [(11, _), (17, _), (0, _), (0, _), (0, _), (99, 0), (99, 0)]) ⟨Or.inr rfl, ⟨Or.inr rfl, ⟨Or.inr rfl, ⟨Or.inr rfl, ⟨Or.inr rfl, ⟨Or.inl rfl, ⟨Or.inl rfl, trivial⟩⟩⟩⟩⟩⟩⟩ ?_
  exact swp_X1_load_124 G Z hn hr _ _ _ _ _ _ B3 k3 h
def wp_X1_load_100 (V : VV) (x1 x2 x3 x4 x5 s0 s1 : Int) (M : Mem) (Q : Int → Mem → Prop) (B3 : Int → Mem → Prop) : Prop :=
  ((0 : Int) ≤ s1 ∧ s1 < (32 : Int)) ∧
  (x5 = 0 →
    wp_X1_load_123 V x1 x2 x3 x4 (mset M 132 s1 s0) Q B3) ∧ (¬ (x5 = 0) →
    ∀ M1 : Mem, M1 = mset M 132 s1 s0 →
    ((0 : Int) ≤ x4 ∧ x4 < (16 : Int)) ∧
    R_X9_isHole V (M1 (x1 + 1) x4) M1 (fun r2 M3 =>
    (r2 = 0 →
      wp_X1_load_123 V x1 x2 x3 x4 M3 Q B3) ∧ (¬ (r2 = 0) →
      wp_X1_load_124 V x1 x2 x3 x4 1 M3 Q B3)))
theorem swp_X1_load_100 {X : XX} {Q : Int → Mem → Prop} (G : GX X cX1_load "TreeHands$Joiner") (Z : RX X 4 Q) (hn : nLX X = 7) (hr : roomX X = rm_X1_load) (x1 x2 x3 x4 x5 s0 s1 : Int) (M : Mem) (B3 : Int → Mem → Prop) (k3 : ∀ (z4 : Int) (N : Mem), B3 z4 N → AW X 3 [(11, 129), (17, x1), (0, x2), (0, x3), (0, z4), (99, 0), (99, 0)] [] N) (h : wp_X1_load_100 (vX X) x1 x2 x3 x4 x5 s0 s1 M Q B3) : AW X 100 [(11, 129), (17, x1), (0, x2), (0, x3), (0, x4), (0, x5), (99, 0)] [(0, s0), (0, s1), (132, 132)] M := by
  unfold wp_X1_load_100 at h
  refine am_iast (pc := 100) G 32 dX1_load_100 (by decide) h.1 ?_
  have h := h.2
  refine am_iload (pc := 101) G dX1_load_101 rfl ?_
  refine am_if_eq (pc := 103) G 123 dX1_load_103 (by decide) (fun c => ?_) (fun c => ?_)
  · have h := h.1 c
    refine am_le (ls' := [(11, _), (17, _), (0, _), (0, _), (0, _), (99, 0), (99, 0)]) ⟨Or.inr rfl, ⟨Or.inr rfl, ⟨Or.inr rfl, ⟨Or.inr rfl, ⟨Or.inr rfl, ⟨Or.inl rfl, ⟨Or.inl rfl, trivial⟩⟩⟩⟩⟩⟩⟩ ?_
    exact swp_X1_load_123 G Z hn hr _ _ _ _ _ B3 k3 h
  · have h := h.2 c
    refine am_aload_n (i := 1) (t := 14) (pc := 106) G dX1_load_106 rfl rfl rfl ?_
    refine gf_X7_1 (pc := 107) G dX1_load_107 tw_f_RX1_67 ?_
    refine am_iload (pc := 110) G dX1_load_110 rfl ?_
    have h := h _ rfl
    refine am_iald (pc := 112) G 16 dX1_load_112 (by decide) h.1 ?_
    have h := h.2
    refine am_callSN (rk := 1) (rmc := rm_X9_isHole) (st := []) (pc := 113) G [(0, _)] dX1_load_113 tw_n_RX1_70 tw_s_X9_isHole tw_z_RX9 tw_c_X9_isHole hy_X9_isHole (callrm hr rfl) rfl (RunsM.mono h (fun r2 M3 h => ?_)) Z.rm
    show AW X 116 _ [(0, _)] M3
    refine am_if_eq (pc := 116) G 123 dX1_load_116 (by decide) (fun c => ?_) (fun c => ?_)
    · have h := h.1 c
      refine am_le (ls' := [(11, _), (17, _), (0, _), (0, _), (0, _), (99, 0), (99, 0)]) ⟨Or.inr rfl, ⟨Or.inr rfl, ⟨Or.inr rfl, ⟨Or.inr rfl, ⟨Or.inr rfl, ⟨Or.inl rfl, ⟨Or.inl rfl, trivial⟩⟩⟩⟩⟩⟩⟩ ?_
      exact swp_X1_load_123 G Z hn hr _ _ _ _ _ B3 k3 h
    · have h := h.2 c
      refine am_iconst (pc := 119) G dX1_load_119 (by decide) ?_
      refine am_goto (pc := 120) G 124 dX1_load_120 (by decide) ?_
      refine am_le (ls' := [(11, _), (17, _), (0, _), (0, _), (0, _), (99, 0), (99, 0)]) ⟨Or.inr rfl, ⟨Or.inr rfl, ⟨Or.inr rfl, ⟨Or.inr rfl, ⟨Or.inr rfl, ⟨Or.inl rfl, ⟨Or.inl rfl, trivial⟩⟩⟩⟩⟩⟩⟩ ?_
      exact swp_X1_load_124 G Z hn hr _ _ _ _ _ _ B3 k3 h
def wp_X1_load_75 (V : VV) (x1 x2 x3 x4 x5 s0 s1 : Int) (M : Mem) (Q : Int → Mem → Prop) (B3 : Int → Mem → Prop) : Prop :=
  ((0 : Int) ≤ s1 ∧ s1 < (32 : Int)) ∧
  (x5 = 0 →
    wp_X1_load_100 V x1 x2 x3 x4 x5 1 (w32 (x2 + x4)) (mset M 131 s1 s0) Q B3) ∧ (¬ (x5 = 0) →
    ∀ M4 : Mem, M4 = mset M 131 s1 s0 →
    ((0 : Int) ≤ x4 ∧ x4 < (16 : Int)) ∧
    wp_X1_load_100 V x1 x2 x3 x4 x5 (M4 (x1 + 3) x4) (w32 (x2 + x4)) M4 Q B3)
theorem swp_X1_load_75 {X : XX} {Q : Int → Mem → Prop} (G : GX X cX1_load "TreeHands$Joiner") (Z : RX X 4 Q) (hn : nLX X = 7) (hr : roomX X = rm_X1_load) (x1 x2 x3 x4 x5 s0 s1 : Int) (M : Mem) (B3 : Int → Mem → Prop) (k3 : ∀ (z4 : Int) (N : Mem), B3 z4 N → AW X 3 [(11, 129), (17, x1), (0, x2), (0, x3), (0, z4), (99, 0), (99, 0)] [] N) (h : wp_X1_load_75 (vX X) x1 x2 x3 x4 x5 s0 s1 M Q B3) : AW X 75 [(11, 129), (17, x1), (0, x2), (0, x3), (0, x4), (0, x5), (99, 0)] [(0, s0), (0, s1), (132, 131)] M := by
  unfold wp_X1_load_75 at h
  refine am_iast (pc := 75) G 32 dX1_load_75 (by decide) h.1 ?_
  have h := h.2
  refine am_aload_n (i := 0) (t := 8) (pc := 76) G dX1_load_76 rfl rfl rfl ?_
  refine gf_X1_2 (pc := 77) G dX1_load_77 tw_f_RX1_18 ?_
  refine am_iload_n (i := 2) (pc := 80) G dX1_load_80 rfl rfl ?_
  refine am_iload (pc := 81) G dX1_load_81 rfl ?_
  refine am_iadd (pc := 83) G dX1_load_83 ?_
  refine am_iload (pc := 84) G dX1_load_84 rfl ?_
  refine am_if_eq (pc := 86) G 99 dX1_load_86 (by decide) (fun c => ?_) (fun c => ?_)
  · have h := h.1 c
    refine am_iconst (pc := 99) G dX1_load_99 (by decide) ?_
    refine am_le (ls' := [(11, _), (17, _), (0, _), (0, _), (0, _), (0, _), (99, 0)]) ⟨Or.inr rfl, ⟨Or.inr rfl, ⟨Or.inr rfl, ⟨Or.inr rfl, ⟨Or.inr rfl, ⟨Or.inr rfl, ⟨Or.inl rfl, trivial⟩⟩⟩⟩⟩⟩⟩ ?_
    exact swp_X1_load_100 G Z hn hr _ _ _ _ _ _ _ _ B3 k3 h
  · have h := h.2 c
    refine am_aload_n (i := 1) (t := 14) (pc := 89) G dX1_load_89 rfl rfl rfl ?_
    refine gf_X7_3 (pc := 90) G dX1_load_90 tw_f_RX1_69 ?_
    refine am_iload (pc := 93) G dX1_load_93 rfl ?_
    have h := h _ rfl
    refine am_iald (pc := 95) G 16 dX1_load_95 (by decide) h.1 ?_
    have h := h.2
    refine am_goto (pc := 96) G 100 dX1_load_96 (by decide) ?_
    refine am_le (ls' := [(11, _), (17, _), (0, _), (0, _), (0, _), (0, _), (99, 0)]) ⟨Or.inr rfl, ⟨Or.inr rfl, ⟨Or.inr rfl, ⟨Or.inr rfl, ⟨Or.inr rfl, ⟨Or.inr rfl, ⟨Or.inl rfl, trivial⟩⟩⟩⟩⟩⟩⟩ ?_
    exact swp_X1_load_100 G Z hn hr _ _ _ _ _ _ _ _ B3 k3 h
def wp_X1_load_50 (V : VV) (x1 x2 x3 x4 x5 s0 s1 : Int) (M : Mem) (Q : Int → Mem → Prop) (B3 : Int → Mem → Prop) : Prop :=
  ((0 : Int) ≤ s1 ∧ s1 < (32 : Int)) ∧
  (x5 = 0 →
    wp_X1_load_75 V x1 x2 x3 x4 x5 0 (w32 (x2 + x4)) (mset M 130 s1 s0) Q B3) ∧ (¬ (x5 = 0) →
    ∀ M5 : Mem, M5 = mset M 130 s1 s0 →
    ((0 : Int) ≤ x4 ∧ x4 < (16 : Int)) ∧
    wp_X1_load_75 V x1 x2 x3 x4 x5 (M5 (x1 + 2) x4) (w32 (x2 + x4)) M5 Q B3)
theorem swp_X1_load_50 {X : XX} {Q : Int → Mem → Prop} (G : GX X cX1_load "TreeHands$Joiner") (Z : RX X 4 Q) (hn : nLX X = 7) (hr : roomX X = rm_X1_load) (x1 x2 x3 x4 x5 s0 s1 : Int) (M : Mem) (B3 : Int → Mem → Prop) (k3 : ∀ (z4 : Int) (N : Mem), B3 z4 N → AW X 3 [(11, 129), (17, x1), (0, x2), (0, x3), (0, z4), (99, 0), (99, 0)] [] N) (h : wp_X1_load_50 (vX X) x1 x2 x3 x4 x5 s0 s1 M Q B3) : AW X 50 [(11, 129), (17, x1), (0, x2), (0, x3), (0, x4), (0, x5), (99, 0)] [(0, s0), (0, s1), (132, 130)] M := by
  unfold wp_X1_load_50 at h
  refine am_iast (pc := 50) G 32 dX1_load_50 (by decide) h.1 ?_
  have h := h.2
  refine am_aload_n (i := 0) (t := 8) (pc := 51) G dX1_load_51 rfl rfl rfl ?_
  refine gf_X1_1 (pc := 52) G dX1_load_52 tw_f_RX1_15 ?_
  refine am_iload_n (i := 2) (pc := 55) G dX1_load_55 rfl rfl ?_
  refine am_iload (pc := 56) G dX1_load_56 rfl ?_
  refine am_iadd (pc := 58) G dX1_load_58 ?_
  refine am_iload (pc := 59) G dX1_load_59 rfl ?_
  refine am_if_eq (pc := 61) G 74 dX1_load_61 (by decide) (fun c => ?_) (fun c => ?_)
  · have h := h.1 c
    refine am_iconst (pc := 74) G dX1_load_74 (by decide) ?_
    refine am_le (ls' := [(11, _), (17, _), (0, _), (0, _), (0, _), (0, _), (99, 0)]) ⟨Or.inr rfl, ⟨Or.inr rfl, ⟨Or.inr rfl, ⟨Or.inr rfl, ⟨Or.inr rfl, ⟨Or.inr rfl, ⟨Or.inl rfl, trivial⟩⟩⟩⟩⟩⟩⟩ ?_
    exact swp_X1_load_75 G Z hn hr _ _ _ _ _ _ _ _ B3 k3 h
  · have h := h.2 c
    refine am_aload_n (i := 1) (t := 14) (pc := 64) G dX1_load_64 rfl rfl rfl ?_
    refine gf_X7_2 (pc := 65) G dX1_load_65 tw_f_RX1_68 ?_
    refine am_iload (pc := 68) G dX1_load_68 rfl ?_
    have h := h _ rfl
    refine am_iald (pc := 70) G 16 dX1_load_70 (by decide) h.1 ?_
    have h := h.2
    refine am_goto (pc := 71) G 75 dX1_load_71 (by decide) ?_
    refine am_le (ls' := [(11, _), (17, _), (0, _), (0, _), (0, _), (0, _), (99, 0)]) ⟨Or.inr rfl, ⟨Or.inr rfl, ⟨Or.inr rfl, ⟨Or.inr rfl, ⟨Or.inr rfl, ⟨Or.inr rfl, ⟨Or.inl rfl, trivial⟩⟩⟩⟩⟩⟩⟩ ?_
    exact swp_X1_load_75 G Z hn hr _ _ _ _ _ _ _ _ B3 k3 h
def wp_X1_load_24 (V : VV) (x1 x2 x3 x4 s0 : Int) (M : Mem) (Q : Int → Mem → Prop) (B3 : Int → Mem → Prop) : Prop :=
  (s0 = 0 →
    wp_X1_load_50 V x1 x2 x3 x4 s0 0 (w32 (x2 + x4)) M Q B3) ∧ (¬ (s0 = 0) →
    ((0 : Int) ≤ x4 ∧ x4 < (16 : Int)) ∧
    wp_X1_load_50 V x1 x2 x3 x4 s0 (M (x1 + 1) x4) (w32 (x2 + x4)) M Q B3)
theorem swp_X1_load_24 {X : XX} {Q : Int → Mem → Prop} (G : GX X cX1_load "TreeHands$Joiner") (Z : RX X 4 Q) (hn : nLX X = 7) (hr : roomX X = rm_X1_load) (x1 x2 x3 x4 s0 : Int) (M : Mem) (B3 : Int → Mem → Prop) (k3 : ∀ (z4 : Int) (N : Mem), B3 z4 N → AW X 3 [(11, 129), (17, x1), (0, x2), (0, x3), (0, z4), (99, 0), (99, 0)] [] N) (h : wp_X1_load_24 (vX X) x1 x2 x3 x4 s0 M Q B3) : AW X 24 [(11, 129), (17, x1), (0, x2), (0, x3), (0, x4), (99, 0), (99, 0)] [(0, s0)] M := by
  unfold wp_X1_load_24 at h
  refine am_istore (pc := 24) G dX1_load_24 (nlx hn rfl) rfl ?_
  refine am_aload_n (i := 0) (t := 8) (pc := 26) (ls := [(11, _), (17, _), (0, _), (0, _), (0, _), (0, _), (99, _)]) G dX1_load_26 rfl rfl rfl ?_
  refine gf_X1_0 (pc := 27) G dX1_load_27 tw_f_RX1_11 ?_
  refine am_iload_n (i := 2) (pc := 30) G dX1_load_30 rfl rfl ?_
  refine am_iload (pc := 31) G dX1_load_31 rfl ?_
  refine am_iadd (pc := 33) G dX1_load_33 ?_
  refine am_iload (pc := 34) G dX1_load_34 rfl ?_
  refine am_if_eq (pc := 36) G 49 dX1_load_36 (by decide) (fun c => ?_) (fun c => ?_)
  · have h := h.1 c
    refine am_iconst (pc := 49) G dX1_load_49 (by decide) ?_
    refine am_le (ls' := [(11, _), (17, _), (0, _), (0, _), (0, _), (0, _), (99, 0)]) ⟨Or.inr rfl, ⟨Or.inr rfl, ⟨Or.inr rfl, ⟨Or.inr rfl, ⟨Or.inr rfl, ⟨Or.inr rfl, ⟨Or.inl rfl, trivial⟩⟩⟩⟩⟩⟩⟩ ?_
    exact swp_X1_load_50 G Z hn hr _ _ _ _ _ _ _ _ B3 k3 h
  · have h := h.2 c
    refine am_aload_n (i := 1) (t := 14) (pc := 39) G dX1_load_39 rfl rfl rfl ?_
    refine gf_X7_1 (pc := 40) G dX1_load_40 tw_f_RX1_67 ?_
    refine am_iload (pc := 43) G dX1_load_43 rfl ?_
    refine am_iald (pc := 45) G 16 dX1_load_45 (by decide) h.1 ?_
    have h := h.2
    refine am_goto (pc := 46) G 50 dX1_load_46 (by decide) ?_
    refine am_le (ls' := [(11, _), (17, _), (0, _), (0, _), (0, _), (0, _), (99, 0)]) ⟨Or.inr rfl, ⟨Or.inr rfl, ⟨Or.inr rfl, ⟨Or.inr rfl, ⟨Or.inr rfl, ⟨Or.inr rfl, ⟨Or.inl rfl, trivial⟩⟩⟩⟩⟩⟩⟩ ?_
    exact swp_X1_load_50 G Z hn hr _ _ _ _ _ _ _ _ B3 k3 h
def wp_X1_load_3_b (V : VV) (x1 x2 x3 x4 : Int) (M : Mem) (Q : Int → Mem → Prop) (B3 : Int → Mem → Prop) : Prop :=
  (16 ≤ x4 →
    Q 0 M) ∧ (¬ (16 ≤ x4) →
    (M x1 0 ≤ x4 →
      wp_X1_load_24 V x1 x2 x3 x4 0 M Q B3) ∧ (¬ (M x1 0 ≤ x4) →
      wp_X1_load_24 V x1 x2 x3 x4 1 M Q B3))
theorem swp_X1_load_3_b {X : XX} {Q : Int → Mem → Prop} (G : GX X cX1_load "TreeHands$Joiner") (Z : RX X 4 Q) (hn : nLX X = 7) (hr : roomX X = rm_X1_load) (x1 x2 x3 x4 : Int) (M : Mem) (B3 : Int → Mem → Prop) (k3 : ∀ (z4 : Int) (N : Mem), B3 z4 N → AW X 3 [(11, 129), (17, x1), (0, x2), (0, x3), (0, z4), (99, 0), (99, 0)] [] N) (h : wp_X1_load_3_b (vX X) x1 x2 x3 x4 M Q B3) : AW X 3 [(11, 129), (17, x1), (0, x2), (0, x3), (0, x4), (99, 0), (99, 0)] [] M := by
  unfold wp_X1_load_3_b at h
  refine am_iload (pc := 3) G dX1_load_3 rfl ?_
  refine am_bipush (pc := 5) G dX1_load_5 (by decide) (by decide) ?_
  refine am_icmp_ge (pc := 7) G 165 dX1_load_7 (by decide) (fun c => ?_) (fun c => ?_)
  · have h := h.1 c
    exact am_vret (pc := 165) G Z dX1_load_165 h
  · have h := h.2 c
    refine am_iload (pc := 10) G dX1_load_10 rfl ?_
    refine am_aload_n (i := 1) (t := 14) (pc := 12) G dX1_load_12 rfl rfl rfl ?_
    refine gf_X7_0 (pc := 13) G dX1_load_13 tw_f_RX1_62 ?_
    refine am_icmp_ge (pc := 16) G 23 dX1_load_16 (by decide) (fun c => ?_) (fun c => ?_)
    · have h := h.1 c
      refine am_iconst (pc := 23) G dX1_load_23 (by decide) ?_
      refine am_le (ls' := [(11, _), (17, _), (0, _), (0, _), (0, _), (99, 0), (99, 0)]) ⟨Or.inr rfl, ⟨Or.inr rfl, ⟨Or.inr rfl, ⟨Or.inr rfl, ⟨Or.inr rfl, ⟨Or.inl rfl, ⟨Or.inl rfl, trivial⟩⟩⟩⟩⟩⟩⟩ ?_
      exact swp_X1_load_24 G Z hn hr _ _ _ _ _ _ B3 k3 h
    · have h := h.2 c
      refine am_iconst (pc := 19) G dX1_load_19 (by decide) ?_
      refine am_goto (pc := 20) G 24 dX1_load_20 (by decide) ?_
      refine am_le (ls' := [(11, _), (17, _), (0, _), (0, _), (0, _), (99, 0), (99, 0)]) ⟨Or.inr rfl, ⟨Or.inr rfl, ⟨Or.inr rfl, ⟨Or.inr rfl, ⟨Or.inr rfl, ⟨Or.inl rfl, ⟨Or.inl rfl, trivial⟩⟩⟩⟩⟩⟩⟩ ?_
      exact swp_X1_load_24 G Z hn hr _ _ _ _ _ _ B3 k3 h
def wp_X1_load_3 (V : VV) (x1 x2 x3 x4 : Int) (M : Mem) (Q : Int → Mem → Prop) : Prop :=
  ∃ (I : Int → Mem → Prop) (μ : Int → Mem → Nat), I x4 M ∧ ∀ (y4 : Int) (N : Mem), I y4 N → wp_X1_load_3_b V x1 x2 x3 y4 N Q (fun z4 N1 => I z4 N1 ∧ μ z4 N1 < μ y4 N)
theorem swp_X1_load_3 {X : XX} {Q : Int → Mem → Prop} (G : GX X cX1_load "TreeHands$Joiner") (Z : RX X 4 Q) (hn : nLX X = 7) (hr : roomX X = rm_X1_load) (x1 x2 x3 x4 : Int) (M : Mem) (h : wp_X1_load_3 (vX X) x1 x2 x3 x4 M Q) : AW X 3 [(11, 129), (17, x1), (0, x2), (0, x3), (0, x4), (99, 0), (99, 0)] [] M := by
  unfold wp_X1_load_3 at h
  obtain ⟨I, μ, hI, hs⟩ := h
  have key : ∀ (n : Nat) (y4 : Int) (N : Mem), μ y4 N < n → I y4 N → AW X 3 [(11, 129), (17, x1), (0, x2), (0, x3), (0, y4), (99, 0), (99, 0)] [] N := by
    intro n
    induction n with
    | zero => intro y4 N hlt; exact absurd hlt (Nat.not_lt_zero _)
    | succ n ih =>
      intro y4 N hlt hI
      exact swp_X1_load_3_b G Z hn hr x1 x2 x3 y4 N (fun z4 N1 => I z4 N1 ∧ μ z4 N1 < μ y4 N) (fun z4 N1 hz => ih z4 N1 (by omega) hz.1) (hs y4 N hI)
  exact key _ x4 M (Nat.lt_succ_self _) hI
def wp_X1_load (V : VV) (x1 x2 x3 : Int) (M : Mem) (Q : Int → Mem → Prop) : Prop :=
  wp_X1_load_3 V x1 x2 x3 0 M Q
theorem of_X1_load {V : VV} {x1 x2 x3 : Int} {M : Mem} {Q : Int → Mem → Prop} (h : wp_X1_load V x1 x2 x3 M Q) : R_X1_load V x1 x2 x3 M Q := by
  refine met_in (own := "TreeHands$Joiner") (by decide +kernel) rfl rfl (Nat.le_of_ble_eq_true rfl) ?_
  intro X G Z hn hr hv
  subst hv
  unfold wp_X1_load at h
  show AW X 0 [(11, 129), (17, x1), (0, x2), (0, x3), (99, 0), (99, 0), (99, 0)] [] M
  refine am_iconst (pc := 0) G dX1_load_0 (by decide) ?_
  refine am_istore (pc := 1) G dX1_load_1 (nlx hn rfl) rfl ?_
  refine am_le (ls' := [(11, _), (17, _), (0, _), (0, _), (0, _), (99, 0), (99, 0)]) ⟨Or.inr rfl, ⟨Or.inr rfl, ⟨Or.inr rfl, ⟨Or.inr rfl, ⟨Or.inr rfl, ⟨Or.inl rfl, ⟨Or.inl rfl, trivial⟩⟩⟩⟩⟩⟩⟩ ?_
  exact swp_X1_load_3 G Z hn hr _ _ _ _ _ h
-- X1_await TreeHands$Joiner.await(II)V
def rm_X1_await : Room := { frames := 0, cells := 0, slots := 0, locals := 0 }
theorem hy_X1_await : yX1_await.cls ≠ "java/lang/invoke/MethodHandle" ∧ yX1_await.cls ≠ "java/lang/invoke/VarHandle" ∧ (parseMethodDescriptor yX1_await.desc).map (fun d => d.parameters.length) = some 2 := by decide +kernel
abbrev R_X1_await (V : VV) (x1 x2 : Int) (M : Mem) (Q : Int → Mem → Prop) : Prop := RunsM V yX1_await (.code yX1_await cX1_await 3 (Option.none : Option Jvm.ClassFile.FieldType)) rm_X1_await 4 [(11, 129), (0, x1), (0, x2)] M Q
def wp_X1_await (V : VV) (x1 x2 : Int) (M : Mem) (Q : Int → Mem → Prop) : Prop :=
  (96 ≤ M 129 9 →
    Q 0 M) ∧ (¬ (96 ≤ M 129 9) →
    (x1 < 0 →
      Q 0 M) ∧ (¬ (x1 < 0) →
      (32 ≤ x1 →
        Q 0 M) ∧ (¬ (32 ≤ x1) →
        (x2 < 0 →
          Q 0 M) ∧ (¬ (x2 < 0) →
          (32 ≤ x2 →
            Q 0 M) ∧ (¬ (32 ≤ x2) →
            ((0 : Int) ≤ M 129 9 ∧ M 129 9 < (96 : Int)) ∧
            ∀ M1 : Mem, M1 = mset M 137 (M 129 9) x1 →
            ((0 : Int) ≤ M1 129 9 ∧ M1 129 9 < (96 : Int)) ∧
            ∀ M2 : Mem, M2 = mset M1 138 (M1 129 9) x2 →
            Q 0 (mset M2 129 9 (w32 (M2 129 9 + 1))))))))
theorem of_X1_await {V : VV} {x1 x2 : Int} {M : Mem} {Q : Int → Mem → Prop} (h : wp_X1_await V x1 x2 M Q) : R_X1_await V x1 x2 M Q := by
  refine met_in (own := "TreeHands$Joiner") (by decide +kernel) rfl rfl (Nat.le_of_ble_eq_true rfl) ?_
  intro X G Z hn hr hv
  subst hv
  unfold wp_X1_await at h
  show AW X 0 [(11, 129), (0, x1), (0, x2)] [] M
  refine am_aload_n (i := 0) (t := 8) (pc := 0) G dX1_await_0 rfl rfl rfl ?_
  refine gf_X1_9 (pc := 1) G dX1_await_1 tw_f_RX1_46 ?_
  refine am_bipush (pc := 4) G dX1_await_4 (by decide) (by decide) ?_
  refine am_icmp_ge (pc := 6) G 59 dX1_await_6 (by decide) (fun c => ?_) (fun c => ?_)
  · have h := h.1 c
    exact am_vret (pc := 59) G Z dX1_await_59 h
  · have h := h.2 c
    refine am_iload_n (i := 1) (pc := 9) G dX1_await_9 rfl rfl ?_
    refine am_if_lt (pc := 10) G 59 dX1_await_10 (by decide) (fun c => ?_) (fun c => ?_)
    · have h := h.1 c
      exact am_vret (pc := 59) G Z dX1_await_59 h
    · have h := h.2 c
      refine am_iload_n (i := 1) (pc := 13) G dX1_await_13 rfl rfl ?_
      refine am_bipush (pc := 14) G dX1_await_14 (by decide) (by decide) ?_
      refine am_icmp_ge (pc := 16) G 59 dX1_await_16 (by decide) (fun c => ?_) (fun c => ?_)
      · have h := h.1 c
        exact am_vret (pc := 59) G Z dX1_await_59 h
      · have h := h.2 c
        refine am_iload_n (i := 2) (pc := 19) G dX1_await_19 rfl rfl ?_
        refine am_if_lt (pc := 20) G 59 dX1_await_20 (by decide) (fun c => ?_) (fun c => ?_)
        · have h := h.1 c
          exact am_vret (pc := 59) G Z dX1_await_59 h
        · have h := h.2 c
          refine am_iload_n (i := 2) (pc := 23) G dX1_await_23 rfl rfl ?_
          refine am_bipush (pc := 24) G dX1_await_24 (by decide) (by decide) ?_
          refine am_icmp_ge (pc := 26) G 59 dX1_await_26 (by decide) (fun c => ?_) (fun c => ?_)
          · have h := h.1 c
            exact am_vret (pc := 59) G Z dX1_await_59 h
          · have h := h.2 c
            refine am_aload_n (i := 0) (t := 8) (pc := 29) G dX1_await_29 rfl rfl rfl ?_
            refine gf_X1_7 (pc := 30) G dX1_await_30 tw_f_RX1_33 ?_
            refine am_aload_n (i := 0) (t := 8) (pc := 33) G dX1_await_33 rfl rfl rfl ?_
            refine gf_X1_9 (pc := 34) G dX1_await_34 tw_f_RX1_46 ?_
            refine am_iload_n (i := 1) (pc := 37) G dX1_await_37 rfl rfl ?_
            refine am_iast (pc := 38) G 96 dX1_await_38 (by decide) h.1 ?_
            have h := h.2
            refine am_aload_n (i := 0) (t := 8) (pc := 39) G dX1_await_39 rfl rfl rfl ?_
            refine gf_X1_8 (pc := 40) G dX1_await_40 tw_f_RX1_36 ?_
            refine am_aload_n (i := 0) (t := 8) (pc := 43) G dX1_await_43 rfl rfl rfl ?_
            have h := h _ rfl
            refine gf_X1_9 (pc := 44) G dX1_await_44 tw_f_RX1_46 ?_
            refine am_iload_n (i := 2) (pc := 47) G dX1_await_47 rfl rfl ?_
            refine am_iast (pc := 48) G 96 dX1_await_48 (by decide) h.1 ?_
            have h := h.2
            refine am_aload_n (i := 0) (t := 8) (pc := 49) G dX1_await_49 rfl rfl rfl ?_
            refine am_dup (pc := 50) G dX1_await_50 (Nat.ne_of_beq_eq_false rfl) ?_
            have h := h _ rfl
            refine gf_X1_9 (pc := 51) G dX1_await_51 tw_f_RX1_46 ?_
            refine am_iconst (pc := 54) G dX1_await_54 (by decide) ?_
            refine am_iadd (pc := 55) G dX1_await_55 ?_
            refine pf_X1_9 (pc := 56) G dX1_await_56 tw_f_RX1_46 ?_
            exact am_vret (pc := 59) G Z dX1_await_59 h
-- X1_joinKin TreeHands$Joiner.joinKin(II)Z
def rm_X1_joinKin : Room := { frames := 1, cells := 0, slots := 0, locals := 22 }
theorem hy_X1_joinKin : yX1_joinKin.cls ≠ "java/lang/invoke/MethodHandle" ∧ yX1_joinKin.cls ≠ "java/lang/invoke/VarHandle" ∧ (parseMethodDescriptor yX1_joinKin.desc).map (fun d => d.parameters.length) = some 2 := by decide +kernel
abbrev R_X1_joinKin (V : VV) (x1 x2 : Int) (M : Mem) (Q : Int → Mem → Prop) : Prop := RunsM V yX1_joinKin (.code yX1_joinKin cX1_joinKin 8 (Option.some Jvm.ClassFile.FieldType.boolean)) rm_X1_joinKin 1 [(11, 129), (0, x1), (0, x2)] M Q
def wp_X1_joinKin_128_b (V : VV) (x3 x5 x6 x7 : Int) (M : Mem) (Q : Int → Mem → Prop) (B128 : Int → Int → Int → Mem → Prop) : Prop :=
  ((0 : Int) ≤ x3 ∧ x3 < (32 : Int)) ∧
  (M 131 x3 ≤ x7 →
    Q 1 M) ∧ (¬ (M 131 x3 ≤ x7) →
    (32 ≤ x5 →
      Q 1 M) ∧ (¬ (32 ≤ x5) →
      (32 ≤ x6 →
        Q 1 M) ∧ (¬ (32 ≤ x6) →
        R_X1_await V x5 x6 M (fun _ M4 =>
        ((0 : Int) ≤ x5 ∧ x5 < (32 : Int)) ∧
        ∀ v5 : Int, v5 = w32 (x5 + M4 132 x5) →
        ((0 : Int) ≤ x6 ∧ x6 < (32 : Int)) ∧
        ∀ v6 : Int, v6 = w32 (x6 + M4 132 x6) →
        B128 v5 v6 (w32 (x7 + 1)) M4))))
theorem swp_X1_joinKin_128_b {X : XX} {Q : Int → Mem → Prop} (G : GX X cX1_joinKin "TreeHands$Joiner") (Z : RX X 1 Q) (hn : nLX X = 8) (hr : roomX X = rm_X1_joinKin) (x3 x5 x6 x7 : Int) (M : Mem) (B128 : Int → Int → Int → Mem → Prop) (k128 : ∀ (z5 z6 z7 : Int) (N : Mem), B128 z5 z6 z7 N → AW X 128 [(11, 129), (99, 0), (99, 0), (0, x3), (99, 0), (0, z5), (0, z6), (0, z7)] [] N) (h : wp_X1_joinKin_128_b (vX X) x3 x5 x6 x7 M Q B128) : AW X 128 [(11, 129), (99, 0), (99, 0), (0, x3), (99, 0), (0, x5), (0, x6), (0, x7)] [] M := by
  unfold wp_X1_joinKin_128_b at h
  refine am_iload (pc := 128) G dX1_joinKin_128 rfl ?_
  refine am_aload_n (i := 0) (t := 8) (pc := 130) G dX1_joinKin_130 rfl rfl rfl ?_
  refine gf_X1_1 (pc := 131) G dX1_joinKin_131 tw_f_RX1_15 ?_
  refine am_iload_n (i := 3) (pc := 134) G dX1_joinKin_134 rfl rfl ?_
  refine am_iald (pc := 135) G 32 dX1_joinKin_135 (by decide) h.1 ?_
  have h := h.2
  refine am_icmp_ge (pc := 136) G 191 dX1_joinKin_136 (by decide) (fun c => ?_) (fun c => ?_)
  · have h := h.1 c
    refine am_iconst (pc := 191) G dX1_joinKin_191 (by decide) ?_
    exact am_zret (pc := 192) G Z dX1_joinKin_192 ⟨by decide, h⟩
  · have h := h.2 c
    refine am_iload (pc := 139) G dX1_joinKin_139 rfl ?_
    refine am_bipush (pc := 141) G dX1_joinKin_141 (by decide) (by decide) ?_
    refine am_icmp_ge (pc := 143) G 191 dX1_joinKin_143 (by decide) (fun c => ?_) (fun c => ?_)
    · have h := h.1 c
      refine am_iconst (pc := 191) G dX1_joinKin_191 (by decide) ?_
      exact am_zret (pc := 192) G Z dX1_joinKin_192 ⟨by decide, h⟩
    · have h := h.2 c
      refine am_iload (pc := 146) G dX1_joinKin_146 rfl ?_
      refine am_bipush (pc := 148) G dX1_joinKin_148 (by decide) (by decide) ?_
      refine am_icmp_ge (pc := 150) G 191 dX1_joinKin_150 (by decide) (fun c => ?_) (fun c => ?_)
      · have h := h.1 c
        refine am_iconst (pc := 191) G dX1_joinKin_191 (by decide) ?_
        exact am_zret (pc := 192) G Z dX1_joinKin_192 ⟨by decide, h⟩
      · have h := h.2 c
        refine am_aload_n (i := 0) (t := 8) (pc := 153) G dX1_joinKin_153 rfl rfl rfl ?_
        refine am_iload (pc := 154) G dX1_joinKin_154 rfl ?_
        refine am_iload (pc := 156) G dX1_joinKin_156 rfl ?_
        refine am_callV (rk := 4) (rmc := rm_X1_await) (st := []) (pc := 158) G 1 [(0, _), (0, _)] rfl (by decide) rfl dX1_joinKin_158 tw_m_RX1_50 tw_i_X1_await tw_v_X1_await tw_z_RX1 tw_c_X1_await hy_X1_await (callrm hr rfl) rfl (RunsM.mono h (fun r3 M4 h => ?_)) Z.rm
        show AW X 161 _ [] M4
        refine am_iload (pc := 161) G dX1_joinKin_161 rfl ?_
        refine am_aload_n (i := 0) (t := 8) (pc := 163) G dX1_joinKin_163 rfl rfl rfl ?_
        refine gf_X1_2 (pc := 164) G dX1_joinKin_164 tw_f_RX1_18 ?_
        refine am_iload (pc := 167) G dX1_joinKin_167 rfl ?_
        refine am_iald (pc := 169) G 32 dX1_joinKin_169 (by decide) h.1 ?_
        have h := h.2
        refine am_iadd (pc := 170) G dX1_joinKin_170 ?_
        have h := h _ rfl
        refine am_istore (pc := 171) G dX1_joinKin_171 (nlx hn rfl) rfl ?_
        refine am_iload (pc := 173) (ls := [(11, _), (99, _), (99, _), (0, _), (99, _), (0, _), (0, _), (0, _)]) G dX1_joinKin_173 rfl ?_
        refine am_aload_n (i := 0) (t := 8) (pc := 175) G dX1_joinKin_175 rfl rfl rfl ?_
        refine gf_X1_2 (pc := 176) G dX1_joinKin_176 tw_f_RX1_18 ?_
        refine am_iload (pc := 179) G dX1_joinKin_179 rfl ?_
        refine am_iald (pc := 181) G 32 dX1_joinKin_181 (by decide) h.1 ?_
        have h := h.2
        refine am_iadd (pc := 182) G dX1_joinKin_182 ?_
        have h := h _ rfl
        refine am_istore (pc := 183) G dX1_joinKin_183 (nlx hn rfl) rfl ?_
        refine am_iinc (pc := 185) (ls := [(11, _), (99, _), (99, _), (0, _), (99, _), (0, _), (0, _), (0, _)]) G dX1_joinKin_185 rfl (nlx hn rfl) rfl ?_
        refine am_goto (pc := 188) (ls := [(11, _), (99, _), (99, _), (0, _), (99, _), (0, _), (0, _), (0, _)]) G 128 dX1_joinKin_188 (by decide) ?_
        refine am_le (ls' := [(11, _), (99, 0), (99, 0), (0, _), (99, 0), (0, _), (0, _), (0, _)]) ⟨Or.inr rfl, ⟨Or.inl rfl, ⟨Or.inl rfl, ⟨Or.inr rfl, ⟨Or.inl rfl, ⟨Or.inr rfl, ⟨Or.inr rfl, ⟨Or.inr rfl, trivial⟩⟩⟩⟩⟩⟩⟩⟩ ?_
        exact k128 _ _ _ _ h
def wp_X1_joinKin_128 (V : VV) (x3 x5 x6 x7 : Int) (M : Mem) (Q : Int → Mem → Prop) : Prop :=
  ∃ (I : Int → Int → Int → Mem → Prop) (μ : Int → Int → Int → Mem → Nat), I x5 x6 x7 M ∧ ∀ (y5 y6 y7 : Int) (N : Mem), I y5 y6 y7 N → wp_X1_joinKin_128_b V x3 y5 y6 y7 N Q (fun z5 z6 z7 N1 => I z5 z6 z7 N1 ∧ μ z5 z6 z7 N1 < μ y5 y6 y7 N)
theorem swp_X1_joinKin_128 {X : XX} {Q : Int → Mem → Prop} (G : GX X cX1_joinKin "TreeHands$Joiner") (Z : RX X 1 Q) (hn : nLX X = 8) (hr : roomX X = rm_X1_joinKin) (x3 x5 x6 x7 : Int) (M : Mem) (h : wp_X1_joinKin_128 (vX X) x3 x5 x6 x7 M Q) : AW X 128 [(11, 129), (99, 0), (99, 0), (0, x3), (99, 0), (0, x5), (0, x6), (0, x7)] [] M := by
  unfold wp_X1_joinKin_128 at h
  obtain ⟨I, μ, hI, hs⟩ := h
  have key : ∀ (n : Nat) (y5 y6 y7 : Int) (N : Mem), μ y5 y6 y7 N < n → I y5 y6 y7 N → AW X 128 [(11, 129), (99, 0), (99, 0), (0, x3), (99, 0), (0, y5), (0, y6), (0, y7)] [] N := by
    intro n
    induction n with
    | zero => intro y5 y6 y7 N hlt; exact absurd hlt (Nat.not_lt_zero _)
    | succ n ih =>
      intro y5 y6 y7 N hlt hI
      exact swp_X1_joinKin_128_b G Z hn hr x3 y5 y6 y7 N (fun z5 z6 z7 N1 => I z5 z6 z7 N1 ∧ μ z5 z6 z7 N1 < μ y5 y6 y7 N) (fun z5 z6 z7 N1 hz => ih z5 z6 z7 N1 (by omega) hz.1) (hs y5 y6 y7 N hI)
  exact key _ x5 x6 x7 M (Nat.lt_succ_self _) hI
def wp_X1_joinKin_69 (V : VV) (x3 x4 : Int) (M : Mem) (Q : Int → Mem → Prop) : Prop :=
  (x3 < 0 →
    Q 1 M) ∧ (¬ (x3 < 0) →
    (0 ≤ x4 →
      ((0 : Int) ≤ x3 ∧ x3 < (32 : Int)) ∧
      ((0 : Int) ≤ x4 ∧ x4 < (32 : Int)) ∧
      (M 130 x3 = M 130 x4 →
        ((0 : Int) ≤ x3 ∧ x3 < (32 : Int)) ∧
        ((0 : Int) ≤ x4 ∧ x4 < (32 : Int)) ∧
        (M 131 x3 = M 131 x4 →
          wp_X1_joinKin_128 V x3 (w32 (x3 + 1)) (w32 (x4 + 1)) 0 M Q) ∧ (¬ (M 131 x3 = M 131 x4) →
          Q 0 M)) ∧ (¬ (M 130 x3 = M 130 x4) →
        Q 0 M)) ∧ (¬ (0 ≤ x4) →
      Q 1 M))
theorem swp_X1_joinKin_69 {X : XX} {Q : Int → Mem → Prop} (G : GX X cX1_joinKin "TreeHands$Joiner") (Z : RX X 1 Q) (hn : nLX X = 8) (hr : roomX X = rm_X1_joinKin) (x3 x4 : Int) (M : Mem) (h : wp_X1_joinKin_69 (vX X) x3 x4 M Q) : AW X 69 [(11, 129), (99, 0), (99, 0), (0, x3), (0, x4), (99, 0), (99, 0), (99, 0)] [] M := by
  unfold wp_X1_joinKin_69 at h
  refine am_iload_n (i := 3) (pc := 69) G dX1_joinKin_69 rfl rfl ?_
  refine am_if_lt (pc := 70) G 78 dX1_joinKin_70 (by decide) (fun c => ?_) (fun c => ?_)
  · have h := h.1 c
    refine am_iconst (pc := 78) G dX1_joinKin_78 (by decide) ?_
    exact am_zret (pc := 79) G Z dX1_joinKin_79 ⟨by decide, h⟩
  · have h := h.2 c
    refine am_iload (pc := 73) G dX1_joinKin_73 rfl ?_
    refine am_if_ge (pc := 75) G 80 dX1_joinKin_75 (by decide) (fun c => ?_) (fun c => ?_)
    · have h := h.1 c
      refine am_aload_n (i := 0) (t := 8) (pc := 80) G dX1_joinKin_80 rfl rfl rfl ?_
      refine gf_X1_0 (pc := 81) G dX1_joinKin_81 tw_f_RX1_11 ?_
      refine am_iload_n (i := 3) (pc := 84) G dX1_joinKin_84 rfl rfl ?_
      refine am_iald (pc := 85) G 32 dX1_joinKin_85 (by decide) h.1 ?_
      have h := h.2
      refine am_aload_n (i := 0) (t := 8) (pc := 86) G dX1_joinKin_86 rfl rfl rfl ?_
      refine gf_X1_0 (pc := 87) G dX1_joinKin_87 tw_f_RX1_11 ?_
      refine am_iload (pc := 90) G dX1_joinKin_90 rfl ?_
      refine am_iald (pc := 92) G 32 dX1_joinKin_92 (by decide) h.1 ?_
      have h := h.2
      refine am_icmp_ne (pc := 93) G 112 dX1_joinKin_93 (by decide) (fun c => ?_) (fun c => ?_)
      · have h := h.2 c
        refine am_iconst (pc := 112) G dX1_joinKin_112 (by decide) ?_
        exact am_zret (pc := 113) G Z dX1_joinKin_113 ⟨by decide, h⟩
      · have h := h.1 c
        refine am_aload_n (i := 0) (t := 8) (pc := 96) G dX1_joinKin_96 rfl rfl rfl ?_
        refine gf_X1_1 (pc := 97) G dX1_joinKin_97 tw_f_RX1_15 ?_
        refine am_iload_n (i := 3) (pc := 100) G dX1_joinKin_100 rfl rfl ?_
        refine am_iald (pc := 101) G 32 dX1_joinKin_101 (by decide) h.1 ?_
        have h := h.2
        refine am_aload_n (i := 0) (t := 8) (pc := 102) G dX1_joinKin_102 rfl rfl rfl ?_
        refine gf_X1_1 (pc := 103) G dX1_joinKin_103 tw_f_RX1_15 ?_
        refine am_iload (pc := 106) G dX1_joinKin_106 rfl ?_
        refine am_iald (pc := 108) G 32 dX1_joinKin_108 (by decide) h.1 ?_
        have h := h.2
        refine am_icmp_eq (pc := 109) G 114 dX1_joinKin_109 (by decide) (fun c => ?_) (fun c => ?_)
        · have h := h.1 c
          refine am_iload_n (i := 3) (pc := 114) G dX1_joinKin_114 rfl rfl ?_
          refine am_iconst (pc := 115) G dX1_joinKin_115 (by decide) ?_
          refine am_iadd (pc := 116) G dX1_joinKin_116 ?_
          refine am_istore (pc := 117) G dX1_joinKin_117 (nlx hn rfl) rfl ?_
          refine am_iload (pc := 119) (ls := [(11, _), (99, _), (99, _), (0, _), (0, _), (0, _), (99, _), (99, _)]) G dX1_joinKin_119 rfl ?_
          refine am_iconst (pc := 121) G dX1_joinKin_121 (by decide) ?_
          refine am_iadd (pc := 122) G dX1_joinKin_122 ?_
          refine am_istore (pc := 123) G dX1_joinKin_123 (nlx hn rfl) rfl ?_
          refine am_iconst (pc := 125) (ls := [(11, _), (99, _), (99, _), (0, _), (0, _), (0, _), (0, _), (99, _)]) G dX1_joinKin_125 (by decide) ?_
          refine am_istore (pc := 126) G dX1_joinKin_126 (nlx hn rfl) rfl ?_
          refine am_le (ls' := [(11, _), (99, 0), (99, 0), (0, _), (99, 0), (0, _), (0, _), (0, _)]) ⟨Or.inr rfl, ⟨Or.inl rfl, ⟨Or.inl rfl, ⟨Or.inr rfl, ⟨Or.inl rfl, ⟨Or.inr rfl, ⟨Or.inr rfl, ⟨Or.inr rfl, trivial⟩⟩⟩⟩⟩⟩⟩⟩ ?_
          exact swp_X1_joinKin_128 G Z hn hr _ _ _ _ _ h
        · have h := h.2 c
          refine am_iconst (pc := 112) G dX1_joinKin_112 (by decide) ?_
          exact am_zret (pc := 113) G Z dX1_joinKin_113 ⟨by decide, h⟩
    · have h := h.2 c
      refine am_iconst (pc := 78) G dX1_joinKin_78 (by decide) ?_
      exact am_zret (pc := 79) G Z dX1_joinKin_79 ⟨by decide, h⟩
def wp_X1_joinKin_25_b (V : VV) (x1 x2 x3 x4 x5 : Int) (M : Mem) (Q : Int → Mem → Prop) (B25 : Int → Mem → Prop) : Prop :=
  (48 ≤ x5 →
    (0 ≤ x3 →
      wp_X1_joinKin_69 V x3 x4 M Q) ∧ (¬ (0 ≤ x3) →
      ((0 : Int) ≤ x1 ∧ x1 < (48 : Int)) ∧
      wp_X1_joinKin_69 V x3 x4 (mset M 135 x1 x4) Q)) ∧ (¬ (48 ≤ x5) →
    ((0 : Int) ≤ x5 ∧ x5 < (48 : Int)) ∧
    (M 134 x5 = x2 →
      ((0 : Int) ≤ x5 ∧ x5 < (48 : Int)) ∧
      B25 (w32 (x5 + 1)) (mset M 134 x5 x1)) ∧ (¬ (M 134 x5 = x2) →
      B25 (w32 (x5 + 1)) M))
theorem swp_X1_joinKin_25_b {X : XX} {Q : Int → Mem → Prop} (G : GX X cX1_joinKin "TreeHands$Joiner") (Z : RX X 1 Q) (hn : nLX X = 8) (hr : roomX X = rm_X1_joinKin) (x1 x2 x3 x4 x5 : Int) (M : Mem) (B25 : Int → Mem → Prop) (k25 : ∀ (z5 : Int) (N : Mem), B25 z5 N → AW X 25 [(11, 129), (0, x1), (0, x2), (0, x3), (0, x4), (0, z5), (99, 0), (99, 0)] [] N) (h : wp_X1_joinKin_25_b (vX X) x1 x2 x3 x4 x5 M Q B25) : AW X 25 [(11, 129), (0, x1), (0, x2), (0, x3), (0, x4), (0, x5), (99, 0), (99, 0)] [] M := by
  unfold wp_X1_joinKin_25_b at h
  refine am_iload (pc := 25) G dX1_joinKin_25 rfl ?_
  refine am_bipush (pc := 27) G dX1_joinKin_27 (by decide) (by decide) ?_
  refine am_icmp_ge (pc := 29) G 57 dX1_joinKin_29 (by decide) (fun c => ?_) (fun c => ?_)
  · have h := h.1 c
    refine am_iload_n (i := 3) (pc := 57) G dX1_joinKin_57 rfl rfl ?_
    refine am_if_ge (pc := 58) G 69 dX1_joinKin_58 (by decide) (fun c => ?_) (fun c => ?_)
    · have h := h.1 c
      refine am_le (ls' := [(11, _), (99, 0), (99, 0), (0, _), (0, _), (99, 0), (99, 0), (99, 0)]) ⟨Or.inr rfl, ⟨Or.inl rfl, ⟨Or.inl rfl, ⟨Or.inr rfl, ⟨Or.inr rfl, ⟨Or.inl rfl, ⟨Or.inl rfl, ⟨Or.inl rfl, trivial⟩⟩⟩⟩⟩⟩⟩⟩ ?_
      exact swp_X1_joinKin_69 G Z hn hr _ _ _ h
    · have h := h.2 c
      refine am_aload_n (i := 0) (t := 8) (pc := 61) G dX1_joinKin_61 rfl rfl rfl ?_
      refine gf_X1_5 (pc := 62) G dX1_joinKin_62 tw_f_RX1_27 ?_
      refine am_iload_n (i := 1) (pc := 65) G dX1_joinKin_65 rfl rfl ?_
      refine am_iload (pc := 66) G dX1_joinKin_66 rfl ?_
      refine am_iast (pc := 68) G 48 dX1_joinKin_68 (by decide) h.1 ?_
      have h := h.2
      refine am_le (ls' := [(11, _), (99, 0), (99, 0), (0, _), (0, _), (99, 0), (99, 0), (99, 0)]) ⟨Or.inr rfl, ⟨Or.inl rfl, ⟨Or.inl rfl, ⟨Or.inr rfl, ⟨Or.inr rfl, ⟨Or.inl rfl, ⟨Or.inl rfl, ⟨Or.inl rfl, trivial⟩⟩⟩⟩⟩⟩⟩⟩ ?_
      exact swp_X1_joinKin_69 G Z hn hr _ _ _ h
  · have h := h.2 c
    refine am_aload_n (i := 0) (t := 8) (pc := 32) G dX1_joinKin_32 rfl rfl rfl ?_
    refine gf_X1_4 (pc := 33) G dX1_joinKin_33 tw_f_RX1_24 ?_
    refine am_iload (pc := 36) G dX1_joinKin_36 rfl ?_
    refine am_iald (pc := 38) G 48 dX1_joinKin_38 (by decide) h.1 ?_
    have h := h.2
    refine am_iload_n (i := 2) (pc := 39) G dX1_joinKin_39 rfl rfl ?_
    refine am_icmp_ne (pc := 40) G 51 dX1_joinKin_40 (by decide) (fun c => ?_) (fun c => ?_)
    · have h := h.2 c
      refine am_iinc (pc := 51) G dX1_joinKin_51 rfl (nlx hn rfl) rfl ?_
      refine am_goto (pc := 54) (ls := [(11, _), (0, _), (0, _), (0, _), (0, _), (0, _), (99, _), (99, _)]) G 25 dX1_joinKin_54 (by decide) ?_
      refine am_le (ls' := [(11, _), (0, _), (0, _), (0, _), (0, _), (0, _), (99, 0), (99, 0)]) ⟨Or.inr rfl, ⟨Or.inr rfl, ⟨Or.inr rfl, ⟨Or.inr rfl, ⟨Or.inr rfl, ⟨Or.inr rfl, ⟨Or.inl rfl, ⟨Or.inl rfl, trivial⟩⟩⟩⟩⟩⟩⟩⟩ ?_
      exact k25 _ _ h
    · have h := h.1 c
      refine am_aload_n (i := 0) (t := 8) (pc := 43) G dX1_joinKin_43 rfl rfl rfl ?_
      refine gf_X1_4 (pc := 44) G dX1_joinKin_44 tw_f_RX1_24 ?_
      refine am_iload (pc := 47) G dX1_joinKin_47 rfl ?_
      refine am_iload_n (i := 1) (pc := 49) G dX1_joinKin_49 rfl rfl ?_
      refine am_iast (pc := 50) G 48 dX1_joinKin_50 (by decide) h.1 ?_
      have h := h.2
      refine am_iinc (pc := 51) G dX1_joinKin_51 rfl (nlx hn rfl) rfl ?_
      refine am_goto (pc := 54) (ls := [(11, _), (0, _), (0, _), (0, _), (0, _), (0, _), (99, _), (99, _)]) G 25 dX1_joinKin_54 (by decide) ?_
      refine am_le (ls' := [(11, _), (0, _), (0, _), (0, _), (0, _), (0, _), (99, 0), (99, 0)]) ⟨Or.inr rfl, ⟨Or.inr rfl, ⟨Or.inr rfl, ⟨Or.inr rfl, ⟨Or.inr rfl, ⟨Or.inr rfl, ⟨Or.inl rfl, ⟨Or.inl rfl, trivial⟩⟩⟩⟩⟩⟩⟩⟩ ?_
      exact k25 _ _ h
def wp_X1_joinKin_25 (V : VV) (x1 x2 x3 x4 x5 : Int) (M : Mem) (Q : Int → Mem → Prop) : Prop :=
  ∃ (I : Int → Mem → Prop) (μ : Int → Mem → Nat), I x5 M ∧ ∀ (y5 : Int) (N : Mem), I y5 N → wp_X1_joinKin_25_b V x1 x2 x3 x4 y5 N Q (fun z5 N1 => I z5 N1 ∧ μ z5 N1 < μ y5 N)
theorem swp_X1_joinKin_25 {X : XX} {Q : Int → Mem → Prop} (G : GX X cX1_joinKin "TreeHands$Joiner") (Z : RX X 1 Q) (hn : nLX X = 8) (hr : roomX X = rm_X1_joinKin) (x1 x2 x3 x4 x5 : Int) (M : Mem) (h : wp_X1_joinKin_25 (vX X) x1 x2 x3 x4 x5 M Q) : AW X 25 [(11, 129), (0, x1), (0, x2), (0, x3), (0, x4), (0, x5), (99, 0), (99, 0)] [] M := by
  unfold wp_X1_joinKin_25 at h
  obtain ⟨I, μ, hI, hs⟩ := h
  have key : ∀ (n : Nat) (y5 : Int) (N : Mem), μ y5 N < n → I y5 N → AW X 25 [(11, 129), (0, x1), (0, x2), (0, x3), (0, x4), (0, y5), (99, 0), (99, 0)] [] N := by
    intro n
    induction n with
    | zero => intro y5 N hlt; exact absurd hlt (Nat.not_lt_zero _)
    | succ n ih =>
      intro y5 N hlt hI
      exact swp_X1_joinKin_25_b G Z hn hr x1 x2 x3 x4 y5 N (fun z5 N1 => I z5 N1 ∧ μ z5 N1 < μ y5 N) (fun z5 N1 hz => ih z5 N1 (by omega) hz.1) (hs y5 N hI)
  exact key _ x5 M (Nat.lt_succ_self _) hI
def wp_X1_joinKin (V : VV) (x1 x2 : Int) (M : Mem) (Q : Int → Mem → Prop) : Prop :=
  (x1 = x2 →
    Q 1 M) ∧ (¬ (x1 = x2) →
    ((0 : Int) ≤ x1 ∧ x1 < (48 : Int)) ∧
    ∀ v1 : Int, v1 = M 135 x1 →
    ((0 : Int) ≤ x2 ∧ x2 < (48 : Int)) ∧
    ∀ v2 : Int, v2 = M 135 x2 →
    wp_X1_joinKin_25 V x1 x2 v1 v2 0 M Q)
theorem of_X1_joinKin {V : VV} {x1 x2 : Int} {M : Mem} {Q : Int → Mem → Prop} (h : wp_X1_joinKin V x1 x2 M Q) : R_X1_joinKin V x1 x2 M Q := by
  refine met_in (own := "TreeHands$Joiner") (by decide +kernel) rfl rfl (Nat.le_of_ble_eq_true rfl) ?_
  intro X G Z hn hr hv
  subst hv
  unfold wp_X1_joinKin at h
  show AW X 0 [(11, 129), (0, x1), (0, x2), (99, 0), (99, 0), (99, 0), (99, 0), (99, 0)] [] M
  refine am_iload_n (i := 1) (pc := 0) G dX1_joinKin_0 rfl rfl ?_
  refine am_iload_n (i := 2) (pc := 1) G dX1_joinKin_1 rfl rfl ?_
  refine am_icmp_ne (pc := 2) G 7 dX1_joinKin_2 (by decide) (fun c => ?_) (fun c => ?_)
  · have h := h.2 c
    refine am_aload_n (i := 0) (t := 8) (pc := 7) G dX1_joinKin_7 rfl rfl rfl ?_
    refine gf_X1_5 (pc := 8) G dX1_joinKin_8 tw_f_RX1_27 ?_
    refine am_iload_n (i := 1) (pc := 11) G dX1_joinKin_11 rfl rfl ?_
    refine am_iald (pc := 12) G 48 dX1_joinKin_12 (by decide) h.1 ?_
    have h := h.2
    have h := h _ rfl
    refine am_istore_n (pc := 13) G dX1_joinKin_13 rfl (nlx hn rfl) rfl ?_
    refine am_aload_n (i := 0) (t := 8) (pc := 14) (ls := [(11, _), (0, _), (0, _), (0, _), (99, _), (99, _), (99, _), (99, _)]) G dX1_joinKin_14 rfl rfl rfl ?_
    refine gf_X1_5 (pc := 15) G dX1_joinKin_15 tw_f_RX1_27 ?_
    refine am_iload_n (i := 2) (pc := 18) G dX1_joinKin_18 rfl rfl ?_
    refine am_iald (pc := 19) G 48 dX1_joinKin_19 (by decide) h.1 ?_
    have h := h.2
    have h := h _ rfl
    refine am_istore (pc := 20) G dX1_joinKin_20 (nlx hn rfl) rfl ?_
    refine am_iconst (pc := 22) (ls := [(11, _), (0, _), (0, _), (0, _), (0, _), (99, _), (99, _), (99, _)]) G dX1_joinKin_22 (by decide) ?_
    refine am_istore (pc := 23) G dX1_joinKin_23 (nlx hn rfl) rfl ?_
    refine am_le (ls' := [(11, _), (0, _), (0, _), (0, _), (0, _), (0, _), (99, 0), (99, 0)]) ⟨Or.inr rfl, ⟨Or.inr rfl, ⟨Or.inr rfl, ⟨Or.inr rfl, ⟨Or.inr rfl, ⟨Or.inr rfl, ⟨Or.inl rfl, ⟨Or.inl rfl, trivial⟩⟩⟩⟩⟩⟩⟩⟩ ?_
    exact swp_X1_joinKin_25 G Z hn hr _ _ _ _ _ _ h
  · have h := h.1 c
    refine am_iconst (pc := 5) G dX1_joinKin_5 (by decide) ?_
    exact am_zret (pc := 6) G Z dX1_joinKin_6 ⟨by decide, h⟩
-- X1_heftBy TreeHands$Joiner.heftBy(I)I
def rm_X1_heftBy : Room := { frames := 1, cells := 0, slots := 0, locals := 21 }
theorem hy_X1_heftBy : yX1_heftBy.cls ≠ "java/lang/invoke/MethodHandle" ∧ yX1_heftBy.cls ≠ "java/lang/invoke/VarHandle" ∧ (parseMethodDescriptor yX1_heftBy.desc).map (fun d => d.parameters.length) = some 1 := by decide +kernel
abbrev R_X1_heftBy (V : VV) (x1 : Int) (M : Mem) (Q : Int → Mem → Prop) : Prop := RunsM V yX1_heftBy (.code yX1_heftBy cX1_heftBy 6 (Option.some Jvm.ClassFile.FieldType.int)) rm_X1_heftBy 0 [(11, 129), (0, x1)] M Q
def wp_X1_heftBy_83 (V : VV) (x2 : Int) (M : Mem) (Q : Int → Mem → Prop) : Prop :=
  Q (imin x2 1000) M
theorem swp_X1_heftBy_83 {X : XX} {Q : Int → Mem → Prop} (G : GX X cX1_heftBy "TreeHands$Joiner") (Z : RX X 0 Q) (hn : nLX X = 6) (hr : roomX X = rm_X1_heftBy) (x2 : Int) (M : Mem) (h : wp_X1_heftBy_83 (vX X) x2 M Q) : AW X 83 [(99, 0), (99, 0), (0, x2), (99, 0), (99, 0), (99, 0)] [] M := by
  unfold wp_X1_heftBy_83 at h
  refine am_iload_n (i := 2) (pc := 83) G dX1_heftBy_83 rfl rfl ?_
  refine am_sipush (pc := 84) G dX1_heftBy_84 (by decide) (by decide) ?_
  refine am_mmin (pc := 87) G dX1_heftBy_87 tw_m_RX1_78 tw_s_J9_min_7cf53 tw_z_RJ9 tw_c_J9_min_7cf53 (mmrm hr rfl) Z.rm rfl ?_
  exact am_iret (pc := 90) G Z dX1_heftBy_90 h
def wp_X1_heftBy_21_b (V : VV) (x1 x2 x3 x4 : Int) (M : Mem) (Q : Int → Mem → Prop) (B21 : Int → Int → Int → Prop) : Prop :=
  ((0 : Int) ≤ x1 ∧ x1 < (32 : Int)) ∧
  (M 131 x1 ≤ x4 →
    wp_X1_heftBy_83 V x2 M Q) ∧ (¬ (M 131 x1 ≤ x4) →
    (32 ≤ x3 →
      wp_X1_heftBy_83 V x2 M Q) ∧ (¬ (32 ≤ x3) →
      ((0 : Int) ≤ x3 ∧ x3 < (32 : Int)) ∧
      ((0 : Int) ≤ M 133 x3 ∧ M 133 x3 < (48 : Int)) ∧
      ((0 : Int) ≤ M 134 (M 133 x3) ∧ M 134 (M 133 x3) < (48 : Int)) ∧
      ∀ v1 : Int, v1 = M 136 (M 134 (M 133 x3)) →
      (v1 = 0 →
        Q 0 M) ∧ (¬ (v1 = 0) →
        ((0 : Int) ≤ x3 ∧ x3 < (32 : Int)) ∧
        ∀ v2 : Int, v2 = w32 (x3 + M 132 x3) →
        B21 (w32 (x2 + v1)) v2 (w32 (x4 + 1)))))
theorem swp_X1_heftBy_21_b {X : XX} {Q : Int → Mem → Prop} (G : GX X cX1_heftBy "TreeHands$Joiner") (Z : RX X 0 Q) (hn : nLX X = 6) (hr : roomX X = rm_X1_heftBy) (x1 x2 x3 x4 : Int) (M : Mem) (B21 : Int → Int → Int → Prop) (k21 : ∀ (z2 z3 z4 : Int), B21 z2 z3 z4 → AW X 21 [(11, 129), (0, x1), (0, z2), (0, z3), (0, z4), (99, 0)] [] M) (h : wp_X1_heftBy_21_b (vX X) x1 x2 x3 x4 M Q B21) : AW X 21 [(11, 129), (0, x1), (0, x2), (0, x3), (0, x4), (99, 0)] [] M := by
  unfold wp_X1_heftBy_21_b at h
  refine am_iload (pc := 21) G dX1_heftBy_21 rfl ?_
  refine am_aload_n (i := 0) (t := 8) (pc := 23) G dX1_heftBy_23 rfl rfl rfl ?_
  refine gf_X1_1 (pc := 24) G dX1_heftBy_24 tw_f_RX1_15 ?_
  refine am_iload_n (i := 1) (pc := 27) G dX1_heftBy_27 rfl rfl ?_
  refine am_iald (pc := 28) G 32 dX1_heftBy_28 (by decide) h.1 ?_
  have h := h.2
  refine am_icmp_ge (pc := 29) G 83 dX1_heftBy_29 (by decide) (fun c => ?_) (fun c => ?_)
  · have h := h.1 c
    refine am_le (ls' := [(99, 0), (99, 0), (0, _), (99, 0), (99, 0), (99, 0)]) ⟨Or.inl rfl, ⟨Or.inl rfl, ⟨Or.inr rfl, ⟨Or.inl rfl, ⟨Or.inl rfl, ⟨Or.inl rfl, trivial⟩⟩⟩⟩⟩⟩ ?_
    exact swp_X1_heftBy_83 G Z hn hr _ _ h
  · have h := h.2 c
    refine am_iload_n (i := 3) (pc := 32) G dX1_heftBy_32 rfl rfl ?_
    refine am_bipush (pc := 33) G dX1_heftBy_33 (by decide) (by decide) ?_
    refine am_icmp_ge (pc := 35) G 83 dX1_heftBy_35 (by decide) (fun c => ?_) (fun c => ?_)
    · have h := h.1 c
      refine am_le (ls' := [(99, 0), (99, 0), (0, _), (99, 0), (99, 0), (99, 0)]) ⟨Or.inl rfl, ⟨Or.inl rfl, ⟨Or.inr rfl, ⟨Or.inl rfl, ⟨Or.inl rfl, ⟨Or.inl rfl, trivial⟩⟩⟩⟩⟩⟩ ?_
      exact swp_X1_heftBy_83 G Z hn hr _ _ h
    · have h := h.2 c
      refine am_aload_n (i := 0) (t := 8) (pc := 38) G dX1_heftBy_38 rfl rfl rfl ?_
      refine gf_X1_6 (pc := 39) G dX1_heftBy_39 tw_f_RX1_30 ?_
      refine am_aload_n (i := 0) (t := 8) (pc := 42) G dX1_heftBy_42 rfl rfl rfl ?_
      refine gf_X1_4 (pc := 43) G dX1_heftBy_43 tw_f_RX1_24 ?_
      refine am_aload_n (i := 0) (t := 8) (pc := 46) G dX1_heftBy_46 rfl rfl rfl ?_
      refine gf_X1_3 (pc := 47) G dX1_heftBy_47 tw_f_RX1_21 ?_
      refine am_iload_n (i := 3) (pc := 50) G dX1_heftBy_50 rfl rfl ?_
      refine am_iald (pc := 51) G 32 dX1_heftBy_51 (by decide) h.1 ?_
      have h := h.2
      refine am_iald (pc := 52) G 48 dX1_heftBy_52 (by decide) h.1 ?_
      have h := h.2
      refine am_iald (pc := 53) G 48 dX1_heftBy_53 (by decide) h.1 ?_
      have h := h.2
      have h := h _ rfl
      refine am_istore (pc := 54) G dX1_heftBy_54 (nlx hn rfl) rfl ?_
      refine am_iload (pc := 56) (ls := [(11, _), (0, _), (0, _), (0, _), (0, _), (0, _)]) G dX1_heftBy_56 rfl ?_
      refine am_if_ne (pc := 58) G 63 dX1_heftBy_58 (by decide) (fun c => ?_) (fun c => ?_)
      · have h := h.2 c
        refine am_iload_n (i := 2) (pc := 63) G dX1_heftBy_63 rfl rfl ?_
        refine am_iload (pc := 64) G dX1_heftBy_64 rfl ?_
        refine am_iadd (pc := 66) G dX1_heftBy_66 ?_
        refine am_istore_n (pc := 67) G dX1_heftBy_67 rfl (nlx hn rfl) rfl ?_
        refine am_iload_n (i := 3) (pc := 68) (ls := [(11, _), (0, _), (0, _), (0, _), (0, _), (0, _)]) G dX1_heftBy_68 rfl rfl ?_
        refine am_aload_n (i := 0) (t := 8) (pc := 69) G dX1_heftBy_69 rfl rfl rfl ?_
        refine gf_X1_2 (pc := 70) G dX1_heftBy_70 tw_f_RX1_18 ?_
        refine am_iload_n (i := 3) (pc := 73) G dX1_heftBy_73 rfl rfl ?_
        refine am_iald (pc := 74) G 32 dX1_heftBy_74 (by decide) h.1 ?_
        have h := h.2
        refine am_iadd (pc := 75) G dX1_heftBy_75 ?_
        have h := h _ rfl
        refine am_istore_n (pc := 76) G dX1_heftBy_76 rfl (nlx hn rfl) rfl ?_
        refine am_iinc (pc := 77) (ls := [(11, _), (0, _), (0, _), (0, _), (0, _), (0, _)]) G dX1_heftBy_77 rfl (nlx hn rfl) rfl ?_
        refine am_goto (pc := 80) (ls := [(11, _), (0, _), (0, _), (0, _), (0, _), (0, _)]) G 21 dX1_heftBy_80 (by decide) ?_
        refine am_le (ls' := [(11, _), (0, _), (0, _), (0, _), (0, _), (99, 0)]) ⟨Or.inr rfl, ⟨Or.inr rfl, ⟨Or.inr rfl, ⟨Or.inr rfl, ⟨Or.inr rfl, ⟨Or.inl rfl, trivial⟩⟩⟩⟩⟩⟩ ?_
        exact k21 _ _ _ h
      · have h := h.1 c
        refine am_iconst (pc := 61) G dX1_heftBy_61 (by decide) ?_
        exact am_iret (pc := 62) G Z dX1_heftBy_62 h
def wp_X1_heftBy_21 (V : VV) (x1 x2 x3 x4 : Int) (M : Mem) (Q : Int → Mem → Prop) : Prop :=
  ∃ (I : Int → Int → Int → Prop) (μ : Int → Int → Int → Nat), I x2 x3 x4 ∧ ∀ (y2 y3 y4 : Int), I y2 y3 y4 → wp_X1_heftBy_21_b V x1 y2 y3 y4 M Q (fun z2 z3 z4 => I z2 z3 z4 ∧ μ z2 z3 z4 < μ y2 y3 y4)
theorem swp_X1_heftBy_21 {X : XX} {Q : Int → Mem → Prop} (G : GX X cX1_heftBy "TreeHands$Joiner") (Z : RX X 0 Q) (hn : nLX X = 6) (hr : roomX X = rm_X1_heftBy) (x1 x2 x3 x4 : Int) (M : Mem) (h : wp_X1_heftBy_21 (vX X) x1 x2 x3 x4 M Q) : AW X 21 [(11, 129), (0, x1), (0, x2), (0, x3), (0, x4), (99, 0)] [] M := by
  unfold wp_X1_heftBy_21 at h
  obtain ⟨I, μ, hI, hs⟩ := h
  have key : ∀ (n : Nat) (y2 y3 y4 : Int), μ y2 y3 y4 < n → I y2 y3 y4 → AW X 21 [(11, 129), (0, x1), (0, y2), (0, y3), (0, y4), (99, 0)] [] M := by
    intro n
    induction n with
    | zero => intro y2 y3 y4 hlt; exact absurd hlt (Nat.not_lt_zero _)
    | succ n ih =>
      intro y2 y3 y4 hlt hI
      exact swp_X1_heftBy_21_b G Z hn hr x1 y2 y3 y4 M (fun z2 z3 z4 => I z2 z3 z4 ∧ μ z2 z3 z4 < μ y2 y3 y4) (fun z2 z3 z4 hz => ih z2 z3 z4 (by omega) hz.1) (hs y2 y3 y4 hI)
  exact key _ x2 x3 x4 (Nat.lt_succ_self _) hI
def wp_X1_heftBy (V : VV) (x1 : Int) (M : Mem) (Q : Int → Mem → Prop) : Prop :=
  (x1 < 0 →
    Q 1 M) ∧ (¬ (x1 < 0) →
    (x1 < 32 →
      wp_X1_heftBy_21 V x1 1 (w32 (x1 + 1)) 0 M Q) ∧ (¬ (x1 < 32) →
      Q 1 M))
theorem of_X1_heftBy {V : VV} {x1 : Int} {M : Mem} {Q : Int → Mem → Prop} (h : wp_X1_heftBy V x1 M Q) : R_X1_heftBy V x1 M Q := by
  refine met_in (own := "TreeHands$Joiner") (by decide +kernel) rfl rfl (Nat.le_of_ble_eq_true rfl) ?_
  intro X G Z hn hr hv
  subst hv
  unfold wp_X1_heftBy at h
  show AW X 0 [(11, 129), (0, x1), (99, 0), (99, 0), (99, 0), (99, 0)] [] M
  refine am_iload_n (i := 1) (pc := 0) G dX1_heftBy_0 rfl rfl ?_
  refine am_if_lt (pc := 1) G 10 dX1_heftBy_1 (by decide) (fun c => ?_) (fun c => ?_)
  · have h := h.1 c
    refine am_iconst (pc := 10) G dX1_heftBy_10 (by decide) ?_
    exact am_iret (pc := 11) G Z dX1_heftBy_11 h
  · have h := h.2 c
    refine am_iload_n (i := 1) (pc := 4) G dX1_heftBy_4 rfl rfl ?_
    refine am_bipush (pc := 5) G dX1_heftBy_5 (by decide) (by decide) ?_
    refine am_icmp_lt (pc := 7) G 12 dX1_heftBy_7 (by decide) (fun c => ?_) (fun c => ?_)
    · have h := h.1 c
      refine am_iconst (pc := 12) G dX1_heftBy_12 (by decide) ?_
      refine am_istore_n (pc := 13) G dX1_heftBy_13 rfl (nlx hn rfl) rfl ?_
      refine am_iload_n (i := 1) (pc := 14) (ls := [(11, _), (0, _), (0, _), (99, _), (99, _), (99, _)]) G dX1_heftBy_14 rfl rfl ?_
      refine am_iconst (pc := 15) G dX1_heftBy_15 (by decide) ?_
      refine am_iadd (pc := 16) G dX1_heftBy_16 ?_
      refine am_istore_n (pc := 17) G dX1_heftBy_17 rfl (nlx hn rfl) rfl ?_
      refine am_iconst (pc := 18) (ls := [(11, _), (0, _), (0, _), (0, _), (99, _), (99, _)]) G dX1_heftBy_18 (by decide) ?_
      refine am_istore (pc := 19) G dX1_heftBy_19 (nlx hn rfl) rfl ?_
      refine am_le (ls' := [(11, _), (0, _), (0, _), (0, _), (0, _), (99, 0)]) ⟨Or.inr rfl, ⟨Or.inr rfl, ⟨Or.inr rfl, ⟨Or.inr rfl, ⟨Or.inr rfl, ⟨Or.inl rfl, trivial⟩⟩⟩⟩⟩⟩ ?_
      exact swp_X1_heftBy_21 G Z hn hr _ _ _ _ _ h
    · have h := h.2 c
      refine am_iconst (pc := 10) G dX1_heftBy_10 (by decide) ?_
      exact am_iret (pc := 11) G Z dX1_heftBy_11 h
-- X1_weigh TreeHands$Joiner.weigh()Z
def rm_X1_weigh : Room := { frames := 2, cells := 0, slots := 0, locals := 46 }
theorem hy_X1_weigh : yX1_weigh.cls ≠ "java/lang/invoke/MethodHandle" ∧ yX1_weigh.cls ≠ "java/lang/invoke/VarHandle" ∧ (parseMethodDescriptor yX1_weigh.desc).map (fun d => d.parameters.length) = some 0 := by decide +kernel
abbrev R_X1_weigh (V : VV) (M : Mem) (Q : Int → Mem → Prop) : Prop := RunsM V yX1_weigh (.code yX1_weigh cX1_weigh 4 (Option.some Jvm.ClassFile.FieldType.boolean)) rm_X1_weigh 1 [(11, 129)] M Q
def wp_X1_weigh_101 (V : VV) (x1 : Int) (M : Mem) (Q : Int → Mem → Prop) : Prop :=
  (x1 = 48 →
    Q 1 M) ∧ (¬ (x1 = 48) →
    Q 0 M)
theorem swp_X1_weigh_101 {X : XX} {Q : Int → Mem → Prop} (G : GX X cX1_weigh "TreeHands$Joiner") (Z : RX X 1 Q) (hn : nLX X = 4) (hr : roomX X = rm_X1_weigh) (x1 : Int) (M : Mem) (h : wp_X1_weigh_101 (vX X) x1 M Q) : AW X 101 [(99, 0), (0, x1), (99, 0), (99, 0)] [] M := by
  unfold wp_X1_weigh_101 at h
  refine am_iload_n (i := 1) (pc := 101) G dX1_weigh_101 rfl rfl ?_
  refine am_bipush (pc := 102) G dX1_weigh_102 (by decide) (by decide) ?_
  refine am_icmp_ne (pc := 104) G 111 dX1_weigh_104 (by decide) (fun c => ?_) (fun c => ?_)
  · have h := h.2 c
    refine am_iconst (pc := 111) G dX1_weigh_111 (by decide) ?_
    exact am_zret (pc := 112) G Z dX1_weigh_112 ⟨by decide, h⟩
  · have h := h.1 c
    refine am_iconst (pc := 107) G dX1_weigh_107 (by decide) ?_
    refine am_goto (pc := 108) G 112 dX1_weigh_108 (by decide) ?_
    exact am_zret (pc := 112) G Z dX1_weigh_112 ⟨by decide, h⟩
def wp_X1_weigh_87 (V : VV) (x2 x3 s0 s1 : Int) (M : Mem) (Q : Int → Mem → Prop) (B25 : Int → Int → Mem → Prop) (B41 : Int → Int → Mem → Prop) : Prop :=
  B41 (w32 (s1 + s0)) (w32 (x3 + 1)) M
theorem swp_X1_weigh_87 {X : XX} {Q : Int → Mem → Prop} (G : GX X cX1_weigh "TreeHands$Joiner") (Z : RX X 1 Q) (hn : nLX X = 4) (hr : roomX X = rm_X1_weigh) (x2 x3 s0 s1 : Int) (M : Mem) (B25 : Int → Int → Mem → Prop) (B41 : Int → Int → Mem → Prop) (k25 : ∀ (z1 z2 : Int) (N : Mem), B25 z1 z2 N → AW X 25 [(11, 129), (0, z1), (0, z2), (99, 0)] [] N) (k41 : ∀ (z1 z3 : Int) (N : Mem), B41 z1 z3 N → AW X 41 [(11, 129), (0, z1), (0, x2), (0, z3)] [] N) (h : wp_X1_weigh_87 (vX X) x2 x3 s0 s1 M Q B25 B41) : AW X 87 [(11, 129), (99, 0), (0, x2), (0, x3)] [(0, s0), (0, s1)] M := by
  unfold wp_X1_weigh_87 at h
  refine am_iadd (pc := 87) G dX1_weigh_87 ?_
  refine am_istore_n (pc := 88) G dX1_weigh_88 rfl (nlx hn rfl) rfl ?_
  refine am_iinc (pc := 89) (ls := [(11, _), (0, _), (0, _), (0, _)]) G dX1_weigh_89 rfl (nlx hn rfl) rfl ?_
  refine am_goto (pc := 92) (ls := [(11, _), (0, _), (0, _), (0, _)]) G 41 dX1_weigh_92 (by decide) ?_
  refine am_le (ls' := [(11, _), (0, _), (0, _), (0, _)]) ⟨Or.inr rfl, ⟨Or.inr rfl, ⟨Or.inr rfl, ⟨Or.inr rfl, trivial⟩⟩⟩⟩ ?_
  exact k41 _ _ _ h
def wp_X1_weigh_72 (V : VV) (x1 x2 x3 : Int) (M : Mem) (Q : Int → Mem → Prop) (B25 : Int → Int → Mem → Prop) (B41 : Int → Int → Mem → Prop) : Prop :=
  ((0 : Int) ≤ x3 ∧ x3 < (48 : Int)) ∧
  (M 136 x3 ≤ 0 →
    wp_X1_weigh_87 V x2 x3 0 x1 M Q B25 B41) ∧ (¬ (M 136 x3 ≤ 0) →
    wp_X1_weigh_87 V x2 x3 1 x1 M Q B25 B41)
theorem swp_X1_weigh_72 {X : XX} {Q : Int → Mem → Prop} (G : GX X cX1_weigh "TreeHands$Joiner") (Z : RX X 1 Q) (hn : nLX X = 4) (hr : roomX X = rm_X1_weigh) (x1 x2 x3 : Int) (M : Mem) (B25 : Int → Int → Mem → Prop) (B41 : Int → Int → Mem → Prop) (k25 : ∀ (z1 z2 : Int) (N : Mem), B25 z1 z2 N → AW X 25 [(11, 129), (0, z1), (0, z2), (99, 0)] [] N) (k41 : ∀ (z1 z3 : Int) (N : Mem), B41 z1 z3 N → AW X 41 [(11, 129), (0, z1), (0, x2), (0, z3)] [] N) (h : wp_X1_weigh_72 (vX X) x1 x2 x3 M Q B25 B41) : AW X 72 [(11, 129), (0, x1), (0, x2), (0, x3)] [] M := by
  unfold wp_X1_weigh_72 at h
  refine am_iload_n (i := 1) (pc := 72) G dX1_weigh_72 rfl rfl ?_
  refine am_aload_n (i := 0) (t := 8) (pc := 73) G dX1_weigh_73 rfl rfl rfl ?_
  refine gf_X1_6 (pc := 74) G dX1_weigh_74 tw_f_RX1_30 ?_
  refine am_iload_n (i := 3) (pc := 77) G dX1_weigh_77 rfl rfl ?_
  refine am_iald (pc := 78) G 48 dX1_weigh_78 (by decide) h.1 ?_
  have h := h.2
  refine am_if_le (pc := 79) G 86 dX1_weigh_79 (by decide) (fun c => ?_) (fun c => ?_)
  · have h := h.1 c
    refine am_iconst (pc := 86) G dX1_weigh_86 (by decide) ?_
    refine am_le (ls' := [(11, _), (99, 0), (0, _), (0, _)]) ⟨Or.inr rfl, ⟨Or.inl rfl, ⟨Or.inr rfl, ⟨Or.inr rfl, trivial⟩⟩⟩⟩ ?_
    exact swp_X1_weigh_87 G Z hn hr _ _ _ _ _ B25 B41 k25 k41 h
  · have h := h.2 c
    refine am_iconst (pc := 82) G dX1_weigh_82 (by decide) ?_
    refine am_goto (pc := 83) G 87 dX1_weigh_83 (by decide) ?_
    refine am_le (ls' := [(11, _), (99, 0), (0, _), (0, _)]) ⟨Or.inr rfl, ⟨Or.inl rfl, ⟨Or.inr rfl, ⟨Or.inr rfl, trivial⟩⟩⟩⟩ ?_
    exact swp_X1_weigh_87 G Z hn hr _ _ _ _ _ B25 B41 k25 k41 h
def wp_X1_weigh_41_b (V : VV) (x1 x2 x3 : Int) (M : Mem) (Q : Int → Mem → Prop) (B25 : Int → Int → Mem → Prop) (B41 : Int → Int → Mem → Prop) : Prop :=
  (48 ≤ x3 →
    B25 x1 (w32 (x2 + 1)) M) ∧ (¬ (48 ≤ x3) →
    ((0 : Int) ≤ x3 ∧ x3 < (48 : Int)) ∧
    (M 136 x3 = 0 →
      ((0 : Int) ≤ x3 ∧ x3 < (48 : Int)) ∧
      R_X1_heftBy V (M 135 x3) M (fun r1 M2 =>
      ((0 : Int) ≤ x3 ∧ x3 < (48 : Int)) ∧
      wp_X1_weigh_72 V x1 x2 x3 (mset M2 136 x3 r1) Q B25 B41)) ∧ (¬ (M 136 x3 = 0) →
      wp_X1_weigh_72 V x1 x2 x3 M Q B25 B41))
theorem swp_X1_weigh_41_b {X : XX} {Q : Int → Mem → Prop} (G : GX X cX1_weigh "TreeHands$Joiner") (Z : RX X 1 Q) (hn : nLX X = 4) (hr : roomX X = rm_X1_weigh) (x1 x2 x3 : Int) (M : Mem) (B25 : Int → Int → Mem → Prop) (k25 : ∀ (z1 z2 : Int) (N : Mem), B25 z1 z2 N → AW X 25 [(11, 129), (0, z1), (0, z2), (99, 0)] [] N) (B41 : Int → Int → Mem → Prop) (k41 : ∀ (z1 z3 : Int) (N : Mem), B41 z1 z3 N → AW X 41 [(11, 129), (0, z1), (0, x2), (0, z3)] [] N) (h : wp_X1_weigh_41_b (vX X) x1 x2 x3 M Q B25 B41) : AW X 41 [(11, 129), (0, x1), (0, x2), (0, x3)] [] M := by
  unfold wp_X1_weigh_41_b at h
  refine am_iload_n (i := 3) (pc := 41) G dX1_weigh_41 rfl rfl ?_
  refine am_bipush (pc := 42) G dX1_weigh_42 (by decide) (by decide) ?_
  refine am_icmp_ge (pc := 44) G 95 dX1_weigh_44 (by decide) (fun c => ?_) (fun c => ?_)
  · have h := h.1 c
    refine am_iinc (pc := 95) G dX1_weigh_95 rfl (nlx hn rfl) rfl ?_
    refine am_goto (pc := 98) (ls := [(11, _), (0, _), (0, _), (0, _)]) G 25 dX1_weigh_98 (by decide) ?_
    refine am_le (ls' := [(11, _), (0, _), (0, _), (99, 0)]) ⟨Or.inr rfl, ⟨Or.inr rfl, ⟨Or.inr rfl, ⟨Or.inl rfl, trivial⟩⟩⟩⟩ ?_
    exact k25 _ _ _ h
  · have h := h.2 c
    refine am_aload_n (i := 0) (t := 8) (pc := 47) G dX1_weigh_47 rfl rfl rfl ?_
    refine gf_X1_6 (pc := 48) G dX1_weigh_48 tw_f_RX1_30 ?_
    refine am_iload_n (i := 3) (pc := 51) G dX1_weigh_51 rfl rfl ?_
    refine am_iald (pc := 52) G 48 dX1_weigh_52 (by decide) h.1 ?_
    have h := h.2
    refine am_if_ne (pc := 53) G 72 dX1_weigh_53 (by decide) (fun c => ?_) (fun c => ?_)
    · have h := h.2 c
      refine am_le (ls' := [(11, _), (0, _), (0, _), (0, _)]) ⟨Or.inr rfl, ⟨Or.inr rfl, ⟨Or.inr rfl, ⟨Or.inr rfl, trivial⟩⟩⟩⟩ ?_
      exact swp_X1_weigh_72 G Z hn hr _ _ _ _ B25 B41 k25 k41 h
    · have h := h.1 c
      refine am_aload_n (i := 0) (t := 8) (pc := 56) G dX1_weigh_56 rfl rfl rfl ?_
      refine gf_X1_6 (pc := 57) G dX1_weigh_57 tw_f_RX1_30 ?_
      refine am_iload_n (i := 3) (pc := 60) G dX1_weigh_60 rfl rfl ?_
      refine am_aload_n (i := 0) (t := 8) (pc := 61) G dX1_weigh_61 rfl rfl rfl ?_
      refine am_aload_n (i := 0) (t := 8) (pc := 62) G dX1_weigh_62 rfl rfl rfl ?_
      refine gf_X1_5 (pc := 63) G dX1_weigh_63 tw_f_RX1_27 ?_
      refine am_iload_n (i := 3) (pc := 66) G dX1_weigh_66 rfl rfl ?_
      refine am_iald (pc := 67) G 48 dX1_weigh_67 (by decide) h.1 ?_
      have h := h.2
      refine am_callV (rk := 0) (rmc := rm_X1_heftBy) (st := [(0, _), (148, _)]) (pc := 68) G 1 [(0, _)] rfl (by decide) rfl dX1_weigh_68 tw_m_RX1_74 tw_i_X1_heftBy tw_v_X1_heftBy tw_z_RX1 tw_c_X1_heftBy hy_X1_heftBy (callrm hr rfl) rfl (RunsM.mono h (fun r1 M2 h => ?_)) Z.rm
      show AW X 71 _ [(0, _), (0, _), (148, _)] M2
      refine am_iast (pc := 71) G 48 dX1_weigh_71 (by decide) h.1 ?_
      have h := h.2
      refine am_le (ls' := [(11, _), (0, _), (0, _), (0, _)]) ⟨Or.inr rfl, ⟨Or.inr rfl, ⟨Or.inr rfl, ⟨Or.inr rfl, trivial⟩⟩⟩⟩ ?_
      exact swp_X1_weigh_72 G Z hn hr _ _ _ _ B25 B41 k25 k41 h
def wp_X1_weigh_41 (V : VV) (x1 x2 x3 : Int) (M : Mem) (Q : Int → Mem → Prop) (B25 : Int → Int → Mem → Prop) : Prop :=
  ∃ (I : Int → Int → Mem → Prop) (μ : Int → Int → Mem → Nat), I x1 x3 M ∧ ∀ (y1 y3 : Int) (N : Mem), I y1 y3 N → wp_X1_weigh_41_b V y1 x2 y3 N Q B25 (fun z1 z3 N1 => I z1 z3 N1 ∧ μ z1 z3 N1 < μ y1 y3 N)
theorem swp_X1_weigh_41 {X : XX} {Q : Int → Mem → Prop} (G : GX X cX1_weigh "TreeHands$Joiner") (Z : RX X 1 Q) (hn : nLX X = 4) (hr : roomX X = rm_X1_weigh) (x1 x2 x3 : Int) (M : Mem) (B25 : Int → Int → Mem → Prop) (k25 : ∀ (z1 z2 : Int) (N : Mem), B25 z1 z2 N → AW X 25 [(11, 129), (0, z1), (0, z2), (99, 0)] [] N) (h : wp_X1_weigh_41 (vX X) x1 x2 x3 M Q B25) : AW X 41 [(11, 129), (0, x1), (0, x2), (0, x3)] [] M := by
  unfold wp_X1_weigh_41 at h
  obtain ⟨I, μ, hI, hs⟩ := h
  have key : ∀ (n : Nat) (y1 y3 : Int) (N : Mem), μ y1 y3 N < n → I y1 y3 N → AW X 41 [(11, 129), (0, y1), (0, x2), (0, y3)] [] N := by
    intro n
    induction n with
    | zero => intro y1 y3 N hlt; exact absurd hlt (Nat.not_lt_zero _)
    | succ n ih =>
      intro y1 y3 N hlt hI
      exact swp_X1_weigh_41_b G Z hn hr y1 x2 y3 N B25 k25 (fun z1 z3 N1 => I z1 z3 N1 ∧ μ z1 z3 N1 < μ y1 y3 N) (fun z1 z3 N1 hz => ih z1 z3 N1 (by omega) hz.1) (hs y1 y3 N hI)
  exact key _ x1 x3 M (Nat.lt_succ_self _) hI
def wp_X1_weigh_25_b (V : VV) (x1 x2 : Int) (M : Mem) (Q : Int → Mem → Prop) (B25 : Int → Int → Mem → Prop) : Prop :=
  (48 ≤ x2 →
    wp_X1_weigh_101 V x1 M Q) ∧ (¬ (48 ≤ x2) →
    (48 ≤ x1 →
      wp_X1_weigh_101 V x1 M Q) ∧ (¬ (48 ≤ x1) →
      wp_X1_weigh_41 V 0 x2 0 M Q B25))
theorem swp_X1_weigh_25_b {X : XX} {Q : Int → Mem → Prop} (G : GX X cX1_weigh "TreeHands$Joiner") (Z : RX X 1 Q) (hn : nLX X = 4) (hr : roomX X = rm_X1_weigh) (x1 x2 : Int) (M : Mem) (B25 : Int → Int → Mem → Prop) (k25 : ∀ (z1 z2 : Int) (N : Mem), B25 z1 z2 N → AW X 25 [(11, 129), (0, z1), (0, z2), (99, 0)] [] N) (h : wp_X1_weigh_25_b (vX X) x1 x2 M Q B25) : AW X 25 [(11, 129), (0, x1), (0, x2), (99, 0)] [] M := by
  unfold wp_X1_weigh_25_b at h
  refine am_iload_n (i := 2) (pc := 25) G dX1_weigh_25 rfl rfl ?_
  refine am_bipush (pc := 26) G dX1_weigh_26 (by decide) (by decide) ?_
  refine am_icmp_ge (pc := 28) G 101 dX1_weigh_28 (by decide) (fun c => ?_) (fun c => ?_)
  · have h := h.1 c
    refine am_le (ls' := [(99, 0), (0, _), (99, 0), (99, 0)]) ⟨Or.inl rfl, ⟨Or.inr rfl, ⟨Or.inl rfl, ⟨Or.inl rfl, trivial⟩⟩⟩⟩ ?_
    exact swp_X1_weigh_101 G Z hn hr _ _ h
  · have h := h.2 c
    refine am_iload_n (i := 1) (pc := 31) G dX1_weigh_31 rfl rfl ?_
    refine am_bipush (pc := 32) G dX1_weigh_32 (by decide) (by decide) ?_
    refine am_icmp_ge (pc := 34) G 101 dX1_weigh_34 (by decide) (fun c => ?_) (fun c => ?_)
    · have h := h.1 c
      refine am_le (ls' := [(99, 0), (0, _), (99, 0), (99, 0)]) ⟨Or.inl rfl, ⟨Or.inr rfl, ⟨Or.inl rfl, ⟨Or.inl rfl, trivial⟩⟩⟩⟩ ?_
      exact swp_X1_weigh_101 G Z hn hr _ _ h
    · have h := h.2 c
      refine am_iconst (pc := 37) G dX1_weigh_37 (by decide) ?_
      refine am_istore_n (pc := 38) G dX1_weigh_38 rfl (nlx hn rfl) rfl ?_
      refine am_iconst (pc := 39) (ls := [(11, _), (0, _), (0, _), (99, _)]) G dX1_weigh_39 (by decide) ?_
      refine am_istore_n (pc := 40) G dX1_weigh_40 rfl (nlx hn rfl) rfl ?_
      refine am_le (ls' := [(11, _), (0, _), (0, _), (0, _)]) ⟨Or.inr rfl, ⟨Or.inr rfl, ⟨Or.inr rfl, ⟨Or.inr rfl, trivial⟩⟩⟩⟩ ?_
      exact swp_X1_weigh_41 G Z hn hr _ _ _ _ B25 k25 h
def wp_X1_weigh_25 (V : VV) (x1 x2 : Int) (M : Mem) (Q : Int → Mem → Prop) : Prop :=
  ∃ (I : Int → Int → Mem → Prop) (μ : Int → Int → Mem → Nat), I x1 x2 M ∧ ∀ (y1 y2 : Int) (N : Mem), I y1 y2 N → wp_X1_weigh_25_b V y1 y2 N Q (fun z1 z2 N1 => I z1 z2 N1 ∧ μ z1 z2 N1 < μ y1 y2 N)
theorem swp_X1_weigh_25 {X : XX} {Q : Int → Mem → Prop} (G : GX X cX1_weigh "TreeHands$Joiner") (Z : RX X 1 Q) (hn : nLX X = 4) (hr : roomX X = rm_X1_weigh) (x1 x2 : Int) (M : Mem) (h : wp_X1_weigh_25 (vX X) x1 x2 M Q) : AW X 25 [(11, 129), (0, x1), (0, x2), (99, 0)] [] M := by
  unfold wp_X1_weigh_25 at h
  obtain ⟨I, μ, hI, hs⟩ := h
  have key : ∀ (n : Nat) (y1 y2 : Int) (N : Mem), μ y1 y2 N < n → I y1 y2 N → AW X 25 [(11, 129), (0, y1), (0, y2), (99, 0)] [] N := by
    intro n
    induction n with
    | zero => intro y1 y2 N hlt; exact absurd hlt (Nat.not_lt_zero _)
    | succ n ih =>
      intro y1 y2 N hlt hI
      exact swp_X1_weigh_25_b G Z hn hr y1 y2 N (fun z1 z2 N1 => I z1 z2 N1 ∧ μ z1 z2 N1 < μ y1 y2 N) (fun z1 z2 N1 hz => ih z1 z2 N1 (by omega) hz.1) (hs y1 y2 N hI)
  exact key _ x1 x2 M (Nat.lt_succ_self _) hI
def wp_X1_weigh_2_b (V : VV) (x1 : Int) (M : Mem) (Q : Int → Mem → Prop) (B2 : Int → Mem → Prop) : Prop :=
  (48 ≤ x1 →
    wp_X1_weigh_25 V 0 0 M Q) ∧ (¬ (48 ≤ x1) →
    ((0 : Int) ≤ x1 ∧ x1 < (48 : Int)) ∧
    B2 (w32 (x1 + 1)) (mset M 136 x1 0))
theorem swp_X1_weigh_2_b {X : XX} {Q : Int → Mem → Prop} (G : GX X cX1_weigh "TreeHands$Joiner") (Z : RX X 1 Q) (hn : nLX X = 4) (hr : roomX X = rm_X1_weigh) (x1 : Int) (M : Mem) (B2 : Int → Mem → Prop) (k2 : ∀ (z1 : Int) (N : Mem), B2 z1 N → AW X 2 [(11, 129), (0, z1), (99, 0), (99, 0)] [] N) (h : wp_X1_weigh_2_b (vX X) x1 M Q B2) : AW X 2 [(11, 129), (0, x1), (99, 0), (99, 0)] [] M := by
  unfold wp_X1_weigh_2_b at h
  refine am_iload_n (i := 1) (pc := 2) G dX1_weigh_2 rfl rfl ?_
  refine am_bipush (pc := 3) G dX1_weigh_3 (by decide) (by decide) ?_
  refine am_icmp_ge (pc := 5) G 21 dX1_weigh_5 (by decide) (fun c => ?_) (fun c => ?_)
  · have h := h.1 c
    refine am_iconst (pc := 21) G dX1_weigh_21 (by decide) ?_
    refine am_istore_n (pc := 22) G dX1_weigh_22 rfl (nlx hn rfl) rfl ?_
    refine am_iconst (pc := 23) (ls := [(11, _), (0, _), (99, _), (99, _)]) G dX1_weigh_23 (by decide) ?_
    refine am_istore_n (pc := 24) G dX1_weigh_24 rfl (nlx hn rfl) rfl ?_
    refine am_le (ls' := [(11, _), (0, _), (0, _), (99, 0)]) ⟨Or.inr rfl, ⟨Or.inr rfl, ⟨Or.inr rfl, ⟨Or.inl rfl, trivial⟩⟩⟩⟩ ?_
    exact swp_X1_weigh_25 G Z hn hr _ _ _ h
  · have h := h.2 c
    refine am_aload_n (i := 0) (t := 8) (pc := 8) G dX1_weigh_8 rfl rfl rfl ?_
    refine gf_X1_6 (pc := 9) G dX1_weigh_9 tw_f_RX1_30 ?_
    refine am_iload_n (i := 1) (pc := 12) G dX1_weigh_12 rfl rfl ?_
    refine am_iconst (pc := 13) G dX1_weigh_13 (by decide) ?_
    refine am_iast (pc := 14) G 48 dX1_weigh_14 (by decide) h.1 ?_
    have h := h.2
    refine am_iinc (pc := 15) G dX1_weigh_15 rfl (nlx hn rfl) rfl ?_
    refine am_goto (pc := 18) (ls := [(11, _), (0, _), (99, _), (99, _)]) G 2 dX1_weigh_18 (by decide) ?_
    refine am_le (ls' := [(11, _), (0, _), (99, 0), (99, 0)]) ⟨Or.inr rfl, ⟨Or.inr rfl, ⟨Or.inl rfl, ⟨Or.inl rfl, trivial⟩⟩⟩⟩ ?_
    exact k2 _ _ h
def wp_X1_weigh_2 (V : VV) (x1 : Int) (M : Mem) (Q : Int → Mem → Prop) : Prop :=
  ∃ (I : Int → Mem → Prop) (μ : Int → Mem → Nat), I x1 M ∧ ∀ (y1 : Int) (N : Mem), I y1 N → wp_X1_weigh_2_b V y1 N Q (fun z1 N1 => I z1 N1 ∧ μ z1 N1 < μ y1 N)
theorem swp_X1_weigh_2 {X : XX} {Q : Int → Mem → Prop} (G : GX X cX1_weigh "TreeHands$Joiner") (Z : RX X 1 Q) (hn : nLX X = 4) (hr : roomX X = rm_X1_weigh) (x1 : Int) (M : Mem) (h : wp_X1_weigh_2 (vX X) x1 M Q) : AW X 2 [(11, 129), (0, x1), (99, 0), (99, 0)] [] M := by
  unfold wp_X1_weigh_2 at h
  obtain ⟨I, μ, hI, hs⟩ := h
  have key : ∀ (n : Nat) (y1 : Int) (N : Mem), μ y1 N < n → I y1 N → AW X 2 [(11, 129), (0, y1), (99, 0), (99, 0)] [] N := by
    intro n
    induction n with
    | zero => intro y1 N hlt; exact absurd hlt (Nat.not_lt_zero _)
    | succ n ih =>
      intro y1 N hlt hI
      exact swp_X1_weigh_2_b G Z hn hr y1 N (fun z1 N1 => I z1 N1 ∧ μ z1 N1 < μ y1 N) (fun z1 N1 hz => ih z1 N1 (by omega) hz.1) (hs y1 N hI)
  exact key _ x1 M (Nat.lt_succ_self _) hI
def wp_X1_weigh (V : VV) (M : Mem) (Q : Int → Mem → Prop) : Prop :=
  wp_X1_weigh_2 V 0 M Q
theorem of_X1_weigh {V : VV} {M : Mem} {Q : Int → Mem → Prop} (h : wp_X1_weigh V M Q) : R_X1_weigh V M Q := by
  refine met_in (own := "TreeHands$Joiner") (by decide +kernel) rfl rfl (Nat.le_of_ble_eq_true rfl) ?_
  intro X G Z hn hr hv
  subst hv
  unfold wp_X1_weigh at h
  show AW X 0 [(11, 129), (99, 0), (99, 0), (99, 0)] [] M
  refine am_iconst (pc := 0) G dX1_weigh_0 (by decide) ?_
  refine am_istore_n (pc := 1) G dX1_weigh_1 rfl (nlx hn rfl) rfl ?_
  refine am_le (ls' := [(11, _), (0, _), (99, 0), (99, 0)]) ⟨Or.inr rfl, ⟨Or.inr rfl, ⟨Or.inl rfl, ⟨Or.inl rfl, trivial⟩⟩⟩⟩ ?_
  exact swp_X1_weigh_2 G Z hn hr _ _ h
-- X1_join TreeHands$Joiner.join(LTreeHands$Tree;ILTreeHands$Tree;)Z
def rm_X1_join : Room := { frames := 3, cells := 0, slots := 0, locals := 69 }
theorem hy_X1_join : yX1_join.cls ≠ "java/lang/invoke/MethodHandle" ∧ yX1_join.cls ≠ "java/lang/invoke/VarHandle" ∧ (parseMethodDescriptor yX1_join.desc).map (fun d => d.parameters.length) = some 3 := by decide +kernel
abbrev R_X1_join (V : VV) (x1 x2 x3 : Int) (M : Mem) (Q : Int → Mem → Prop) : Prop := RunsM V yX1_join (.code yX1_join cX1_join 5 (Option.some Jvm.ClassFile.FieldType.boolean)) rm_X1_join 1 [(11, 129), (17, x1), (0, x2), (17, x3)] M Q
def wp_X1_join_154 (V : VV) (M : Mem) (Q : Int → Mem → Prop) : Prop :=
  R_X1_weigh V M (fun r8 M9 =>
  (r8 = 0 ∨ r8 = 1) ∧ Q r8 M9)
theorem swp_X1_join_154 {X : XX} {Q : Int → Mem → Prop} (G : GX X cX1_join "TreeHands$Joiner") (Z : RX X 1 Q) (hn : nLX X = 5) (hr : roomX X = rm_X1_join) (M : Mem) (h : wp_X1_join_154 (vX X) M Q) : AW X 154 [(11, 129), (99, 0), (99, 0), (99, 0), (99, 0)] [] M := by
  unfold wp_X1_join_154 at h
  refine am_aload_n (i := 0) (t := 8) (pc := 154) G dX1_join_154 rfl rfl rfl ?_
  refine am_callV (rk := 1) (rmc := rm_X1_weigh) (st := []) (pc := 155) G 1 [] rfl (by decide) rfl dX1_join_155 tw_m_RX1_58 tw_i_X1_weigh tw_v_X1_weigh tw_z_RX1 tw_c_X1_weigh hy_X1_weigh (callrm hr rfl) rfl (RunsM.mono h (fun r8 M9 h => ?_)) Z.rm
  show AW X 158 _ [(0, _)] M9
  exact am_zret (pc := 158) G Z dX1_join_158 h
def wp_X1_join_77_b (V : VV) (x4 : Int) (M : Mem) (Q : Int → Mem → Prop) (B77 : Int → Mem → Prop) : Prop :=
  (96 ≤ x4 →
    wp_X1_join_154 V M Q) ∧ (¬ (96 ≤ x4) →
    (M 129 9 ≤ 0 →
      wp_X1_join_154 V M Q) ∧ (¬ (M 129 9 ≤ 0) →
      ∀ M10 : Mem, M10 = mset M 129 9 (w32 (M 129 9 - 1)) →
      ((0 : Int) ≤ M10 129 9 ∧ M10 129 9 < (96 : Int)) ∧
      ((0 : Int) ≤ M10 137 (M10 129 9) ∧ M10 137 (M10 129 9) < (32 : Int)) ∧
      ((0 : Int) ≤ M10 133 (M10 137 (M10 129 9)) ∧ M10 133 (M10 137 (M10 129 9)) < (48 : Int)) ∧
      ((0 : Int) ≤ M10 129 9 ∧ M10 129 9 < (96 : Int)) ∧
      ((0 : Int) ≤ M10 138 (M10 129 9) ∧ M10 138 (M10 129 9) < (32 : Int)) ∧
      ((0 : Int) ≤ M10 133 (M10 138 (M10 129 9)) ∧ M10 133 (M10 138 (M10 129 9)) < (48 : Int)) ∧
      R_X1_joinKin V (M10 134 (M10 133 (M10 137 (M10 129 9)))) (M10 134 (M10 133 (M10 138 (M10 129 9)))) M10 (fun r11 M12 =>
      (r11 = 0 →
        Q 0 M12) ∧ (¬ (r11 = 0) →
        B77 (w32 (x4 + 1)) M12))))
theorem swp_X1_join_77_b {X : XX} {Q : Int → Mem → Prop} (G : GX X cX1_join "TreeHands$Joiner") (Z : RX X 1 Q) (hn : nLX X = 5) (hr : roomX X = rm_X1_join) (x4 : Int) (M : Mem) (B77 : Int → Mem → Prop) (k77 : ∀ (z4 : Int) (N : Mem), B77 z4 N → AW X 77 [(11, 129), (99, 0), (99, 0), (99, 0), (0, z4)] [] N) (h : wp_X1_join_77_b (vX X) x4 M Q B77) : AW X 77 [(11, 129), (99, 0), (99, 0), (99, 0), (0, x4)] [] M := by
  unfold wp_X1_join_77_b at h
  refine am_iload (pc := 77) G dX1_join_77 rfl ?_
  refine am_bipush (pc := 79) G dX1_join_79 (by decide) (by decide) ?_
  refine am_icmp_ge (pc := 81) G 154 dX1_join_81 (by decide) (fun c => ?_) (fun c => ?_)
  · have h := h.1 c
    refine am_le (ls' := [(11, _), (99, 0), (99, 0), (99, 0), (99, 0)]) ⟨Or.inr rfl, ⟨Or.inl rfl, ⟨Or.inl rfl, ⟨Or.inl rfl, ⟨Or.inl rfl, trivial⟩⟩⟩⟩⟩ ?_
    exact swp_X1_join_154 G Z hn hr _ h
  · have h := h.2 c
    refine am_aload_n (i := 0) (t := 8) (pc := 84) G dX1_join_84 rfl rfl rfl ?_
    refine gf_X1_9 (pc := 85) G dX1_join_85 tw_f_RX1_46 ?_
    refine am_if_le (pc := 88) G 154 dX1_join_88 (by decide) (fun c => ?_) (fun c => ?_)
    · have h := h.1 c
      refine am_le (ls' := [(11, _), (99, 0), (99, 0), (99, 0), (99, 0)]) ⟨Or.inr rfl, ⟨Or.inl rfl, ⟨Or.inl rfl, ⟨Or.inl rfl, ⟨Or.inl rfl, trivial⟩⟩⟩⟩⟩ ?_
      exact swp_X1_join_154 G Z hn hr _ h
    · have h := h.2 c
      refine am_aload_n (i := 0) (t := 8) (pc := 91) G dX1_join_91 rfl rfl rfl ?_
      refine am_dup (pc := 92) G dX1_join_92 (Nat.ne_of_beq_eq_false rfl) ?_
      refine gf_X1_9 (pc := 93) G dX1_join_93 tw_f_RX1_46 ?_
      refine am_iconst (pc := 96) G dX1_join_96 (by decide) ?_
      refine am_isub (pc := 97) G dX1_join_97 ?_
      refine pf_X1_9 (pc := 98) G dX1_join_98 tw_f_RX1_46 ?_
      refine am_aload_n (i := 0) (t := 8) (pc := 101) G dX1_join_101 rfl rfl rfl ?_
      refine am_aload_n (i := 0) (t := 8) (pc := 102) G dX1_join_102 rfl rfl rfl ?_
      refine gf_X1_4 (pc := 103) G dX1_join_103 tw_f_RX1_24 ?_
      refine am_aload_n (i := 0) (t := 8) (pc := 106) G dX1_join_106 rfl rfl rfl ?_
      refine gf_X1_3 (pc := 107) G dX1_join_107 tw_f_RX1_21 ?_
      refine am_aload_n (i := 0) (t := 8) (pc := 110) G dX1_join_110 rfl rfl rfl ?_
      refine gf_X1_7 (pc := 111) G dX1_join_111 tw_f_RX1_33 ?_
      refine am_aload_n (i := 0) (t := 8) (pc := 114) G dX1_join_114 rfl rfl rfl ?_
      have h := h _ rfl
      refine gf_X1_9 (pc := 115) G dX1_join_115 tw_f_RX1_46 ?_
      refine am_iald (pc := 118) G 96 dX1_join_118 (by decide) h.1 ?_
      have h := h.2
      refine am_iald (pc := 119) G 32 dX1_join_119 (by decide) h.1 ?_
      have h := h.2
      refine am_iald (pc := 120) G 48 dX1_join_120 (by decide) h.1 ?_
      have h := h.2
      refine am_aload_n (i := 0) (t := 8) (pc := 121) G dX1_join_121 rfl rfl rfl ?_
      refine gf_X1_4 (pc := 122) G dX1_join_122 tw_f_RX1_24 ?_
      refine am_aload_n (i := 0) (t := 8) (pc := 125) G dX1_join_125 rfl rfl rfl ?_
      refine gf_X1_3 (pc := 126) G dX1_join_126 tw_f_RX1_21 ?_
      refine am_aload_n (i := 0) (t := 8) (pc := 129) G dX1_join_129 rfl rfl rfl ?_
      refine gf_X1_8 (pc := 130) G dX1_join_130 tw_f_RX1_36 ?_
      refine am_aload_n (i := 0) (t := 8) (pc := 133) G dX1_join_133 rfl rfl rfl ?_
      refine gf_X1_9 (pc := 134) G dX1_join_134 tw_f_RX1_46 ?_
      refine am_iald (pc := 137) G 96 dX1_join_137 (by decide) h.1 ?_
      have h := h.2
      refine am_iald (pc := 138) G 32 dX1_join_138 (by decide) h.1 ?_
      have h := h.2
      refine am_iald (pc := 139) G 48 dX1_join_139 (by decide) h.1 ?_
      have h := h.2
      refine am_callV (rk := 1) (rmc := rm_X1_joinKin) (st := []) (pc := 140) G 1 [(0, _), (0, _)] rfl (by decide) rfl dX1_join_140 tw_m_RX1_54 tw_i_X1_joinKin tw_v_X1_joinKin tw_z_RX1 tw_c_X1_joinKin hy_X1_joinKin (callrm hr rfl) rfl (RunsM.mono h (fun r11 M12 h => ?_)) Z.rm
      show AW X 143 _ [(0, _)] M12
      refine am_if_ne (pc := 143) G 148 dX1_join_143 (by decide) (fun c => ?_) (fun c => ?_)
      · have h := h.2 c
        refine am_iinc (pc := 148) G dX1_join_148 rfl (nlx hn rfl) rfl ?_
        refine am_goto (pc := 151) (ls := [(11, _), (99, _), (99, _), (99, _), (0, _)]) G 77 dX1_join_151 (by decide) ?_
        refine am_le (ls' := [(11, _), (99, 0), (99, 0), (99, 0), (0, _)]) ⟨Or.inr rfl, ⟨Or.inl rfl, ⟨Or.inl rfl, ⟨Or.inl rfl, ⟨Or.inr rfl, trivial⟩⟩⟩⟩⟩ ?_
        exact k77 _ _ h
      · have h := h.1 c
        refine am_iconst (pc := 146) G dX1_join_146 (by decide) ?_
        exact am_zret (pc := 147) G Z dX1_join_147 ⟨by decide, h⟩
def wp_X1_join_77 (V : VV) (x4 : Int) (M : Mem) (Q : Int → Mem → Prop) : Prop :=
  ∃ (I : Int → Mem → Prop) (μ : Int → Mem → Nat), I x4 M ∧ ∀ (y4 : Int) (N : Mem), I y4 N → wp_X1_join_77_b V y4 N Q (fun z4 N1 => I z4 N1 ∧ μ z4 N1 < μ y4 N)
theorem swp_X1_join_77 {X : XX} {Q : Int → Mem → Prop} (G : GX X cX1_join "TreeHands$Joiner") (Z : RX X 1 Q) (hn : nLX X = 5) (hr : roomX X = rm_X1_join) (x4 : Int) (M : Mem) (h : wp_X1_join_77 (vX X) x4 M Q) : AW X 77 [(11, 129), (99, 0), (99, 0), (99, 0), (0, x4)] [] M := by
  unfold wp_X1_join_77 at h
  obtain ⟨I, μ, hI, hs⟩ := h
  have key : ∀ (n : Nat) (y4 : Int) (N : Mem), μ y4 N < n → I y4 N → AW X 77 [(11, 129), (99, 0), (99, 0), (99, 0), (0, y4)] [] N := by
    intro n
    induction n with
    | zero => intro y4 N hlt; exact absurd hlt (Nat.not_lt_zero _)
    | succ n ih =>
      intro y4 N hlt hI
      exact swp_X1_join_77_b G Z hn hr y4 N (fun z4 N1 => I z4 N1 ∧ μ z4 N1 < μ y4 N) (fun z4 N1 hz => ih z4 N1 (by omega) hz.1) (hs y4 N hI)
  exact key _ x4 M (Nat.lt_succ_self _) hI
def wp_X1_join_20_b (V : VV) (x2 x4 : Int) (M : Mem) (Q : Int → Mem → Prop) (B20 : Int → Mem → Prop) : Prop :=
  (48 ≤ x4 →
    ∀ M5 : Mem, M5 = mset M 129 9 0 →
    R_X1_await V x2 16 M5 (fun _ M7 =>
    wp_X1_join_77 V 0 M7 Q)) ∧ (¬ (48 ≤ x4) →
    ((0 : Int) ≤ x4 ∧ x4 < (48 : Int)) ∧
    (32 ≤ x4 →
      ∀ M13 : Mem, M13 = mset M 134 x4 x4 →
      ((0 : Int) ≤ x4 ∧ x4 < (48 : Int)) ∧
      B20 (w32 (x4 + 1)) (mset M13 135 x4 (-1))) ∧ (¬ (32 ≤ x4) →
      ∀ M14 : Mem, M14 = mset M 134 x4 x4 →
      ((0 : Int) ≤ x4 ∧ x4 < (48 : Int)) ∧
      B20 (w32 (x4 + 1)) (mset M14 135 x4 x4)))
theorem swp_X1_join_20_b {X : XX} {Q : Int → Mem → Prop} (G : GX X cX1_join "TreeHands$Joiner") (Z : RX X 1 Q) (hn : nLX X = 5) (hr : roomX X = rm_X1_join) (x2 x4 : Int) (M : Mem) (B20 : Int → Mem → Prop) (k20 : ∀ (z4 : Int) (N : Mem), B20 z4 N → AW X 20 [(11, 129), (99, 0), (0, x2), (99, 0), (0, z4)] [] N) (h : wp_X1_join_20_b (vX X) x2 x4 M Q B20) : AW X 20 [(11, 129), (99, 0), (0, x2), (99, 0), (0, x4)] [] M := by
  unfold wp_X1_join_20_b at h
  refine am_iload (pc := 20) G dX1_join_20 rfl ?_
  refine am_bipush (pc := 22) G dX1_join_22 (by decide) (by decide) ?_
  refine am_icmp_ge (pc := 24) G 62 dX1_join_24 (by decide) (fun c => ?_) (fun c => ?_)
  · have h := h.1 c
    refine am_aload_n (i := 0) (t := 8) (pc := 62) G dX1_join_62 rfl rfl rfl ?_
    refine am_iconst (pc := 63) G dX1_join_63 (by decide) ?_
    refine pf_X1_9 (pc := 64) G dX1_join_64 tw_f_RX1_46 ?_
    refine am_aload_n (i := 0) (t := 8) (pc := 67) G dX1_join_67 rfl rfl rfl ?_
    refine am_iload_n (i := 2) (pc := 68) G dX1_join_68 rfl rfl ?_
    refine am_bipush (pc := 69) G dX1_join_69 (by decide) (by decide) ?_
    have h := h _ rfl
    refine am_callV (rk := 4) (rmc := rm_X1_await) (st := []) (pc := 71) G 1 [(0, _), (0, _)] rfl (by decide) rfl dX1_join_71 tw_m_RX1_50 tw_i_X1_await tw_v_X1_await tw_z_RX1 tw_c_X1_await hy_X1_await (callrm hr rfl) rfl (RunsM.mono h (fun r6 M7 h => ?_)) Z.rm
    show AW X 74 _ [] M7
    refine am_iconst (pc := 74) G dX1_join_74 (by decide) ?_
    refine am_istore (pc := 75) G dX1_join_75 (nlx hn rfl) rfl ?_
    refine am_le (ls' := [(11, _), (99, 0), (99, 0), (99, 0), (0, _)]) ⟨Or.inr rfl, ⟨Or.inl rfl, ⟨Or.inl rfl, ⟨Or.inl rfl, ⟨Or.inr rfl, trivial⟩⟩⟩⟩⟩ ?_
    exact swp_X1_join_77 G Z hn hr _ _ h
  · have h := h.2 c
    refine am_aload_n (i := 0) (t := 8) (pc := 27) G dX1_join_27 rfl rfl rfl ?_
    refine gf_X1_4 (pc := 28) G dX1_join_28 tw_f_RX1_24 ?_
    refine am_iload (pc := 31) G dX1_join_31 rfl ?_
    refine am_iload (pc := 33) G dX1_join_33 rfl ?_
    refine am_iast (pc := 35) G 48 dX1_join_35 (by decide) h.1 ?_
    have h := h.2
    refine am_aload_n (i := 0) (t := 8) (pc := 36) G dX1_join_36 rfl rfl rfl ?_
    refine gf_X1_5 (pc := 37) G dX1_join_37 tw_f_RX1_27 ?_
    refine am_iload (pc := 40) G dX1_join_40 rfl ?_
    refine am_iload (pc := 42) G dX1_join_42 rfl ?_
    refine am_bipush (pc := 44) G dX1_join_44 (by decide) (by decide) ?_
    refine am_icmp_ge (pc := 46) G 54 dX1_join_46 (by decide) (fun c => ?_) (fun c => ?_)
    · have h := h.1 c
      refine am_iconst (pc := 54) G dX1_join_54 (by decide) ?_
      have h := h _ rfl
      refine am_iast (pc := 55) G 48 dX1_join_55 (by decide) h.1 ?_
      have h := h.2
      refine am_iinc (pc := 56) G dX1_join_56 rfl (nlx hn rfl) rfl ?_
      refine am_goto (pc := 59) (ls := [(11, _), (99, _), (0, _), (99, _), (0, _)]) G 20 dX1_join_59 (by decide) ?_
      refine am_le (ls' := [(11, _), (99, 0), (0, _), (99, 0), (0, _)]) ⟨Or.inr rfl, ⟨Or.inl rfl, ⟨Or.inr rfl, ⟨Or.inl rfl, ⟨Or.inr rfl, trivial⟩⟩⟩⟩⟩ ?_
      exact k20 _ _ h
    · have h := h.2 c
      refine am_iload (pc := 49) G dX1_join_49 rfl ?_
      refine am_goto (pc := 51) G 55 dX1_join_51 (by decide) ?_
      have h := h _ rfl
      refine am_iast (pc := 55) G 48 dX1_join_55 (by decide) h.1 ?_
      have h := h.2
      refine am_iinc (pc := 56) G dX1_join_56 rfl (nlx hn rfl) rfl ?_
      refine am_goto (pc := 59) (ls := [(11, _), (99, _), (0, _), (99, _), (0, _)]) G 20 dX1_join_59 (by decide) ?_
      refine am_le (ls' := [(11, _), (99, 0), (0, _), (99, 0), (0, _)]) ⟨Or.inr rfl, ⟨Or.inl rfl, ⟨Or.inr rfl, ⟨Or.inl rfl, ⟨Or.inr rfl, trivial⟩⟩⟩⟩⟩ ?_
      exact k20 _ _ h
def wp_X1_join_20 (V : VV) (x2 x4 : Int) (M : Mem) (Q : Int → Mem → Prop) : Prop :=
  ∃ (I : Int → Mem → Prop) (μ : Int → Mem → Nat), I x4 M ∧ ∀ (y4 : Int) (N : Mem), I y4 N → wp_X1_join_20_b V x2 y4 N Q (fun z4 N1 => I z4 N1 ∧ μ z4 N1 < μ y4 N)
theorem swp_X1_join_20 {X : XX} {Q : Int → Mem → Prop} (G : GX X cX1_join "TreeHands$Joiner") (Z : RX X 1 Q) (hn : nLX X = 5) (hr : roomX X = rm_X1_join) (x2 x4 : Int) (M : Mem) (h : wp_X1_join_20 (vX X) x2 x4 M Q) : AW X 20 [(11, 129), (99, 0), (0, x2), (99, 0), (0, x4)] [] M := by
  unfold wp_X1_join_20 at h
  obtain ⟨I, μ, hI, hs⟩ := h
  have key : ∀ (n : Nat) (y4 : Int) (N : Mem), μ y4 N < n → I y4 N → AW X 20 [(11, 129), (99, 0), (0, x2), (99, 0), (0, y4)] [] N := by
    intro n
    induction n with
    | zero => intro y4 N hlt; exact absurd hlt (Nat.not_lt_zero _)
    | succ n ih =>
      intro y4 N hlt hI
      exact swp_X1_join_20_b G Z hn hr x2 y4 N (fun z4 N1 => I z4 N1 ∧ μ z4 N1 < μ y4 N) (fun z4 N1 hz => ih z4 N1 (by omega) hz.1) (hs y4 N hI)
  exact key _ x4 M (Nat.lt_succ_self _) hI
def wp_X1_join (V : VV) (x1 x2 x3 : Int) (M : Mem) (Q : Int → Mem → Prop) : Prop :=
  R_X1_load V x1 0 32 M (fun _ M2 =>
  R_X1_load V x3 16 40 M2 (fun _ M4 =>
  wp_X1_join_20 V x2 0 M4 Q))
theorem of_X1_join {V : VV} {x1 x2 x3 : Int} {M : Mem} {Q : Int → Mem → Prop} (h : wp_X1_join V x1 x2 x3 M Q) : R_X1_join V x1 x2 x3 M Q := by
  refine met_in (own := "TreeHands$Joiner") (by decide +kernel) rfl rfl (Nat.le_of_ble_eq_true rfl) ?_
  intro X G Z hn hr hv
  subst hv
  unfold wp_X1_join at h
  show AW X 0 [(11, 129), (17, x1), (0, x2), (17, x3), (99, 0)] [] M
  refine am_aload_n (i := 0) (t := 8) (pc := 0) G dX1_join_0 rfl rfl rfl ?_
  refine am_aload_n (i := 1) (t := 14) (pc := 1) G dX1_join_1 rfl rfl rfl ?_
  refine am_iconst (pc := 2) G dX1_join_2 (by decide) ?_
  refine am_bipush (pc := 3) G dX1_join_3 (by decide) (by decide) ?_
  refine am_callV (rk := 4) (rmc := rm_X1_load) (st := []) (pc := 5) G 1 [(17, _), (0, _), (0, _)] rfl (by decide) rfl dX1_join_5 tw_m_RX1_42 tw_i_X1_load tw_v_X1_load tw_z_RX1 tw_c_X1_load hy_X1_load (callrm hr rfl) rfl (RunsM.mono h (fun r1 M2 h => ?_)) Z.rm
  show AW X 8 _ [] M2
  refine am_aload_n (i := 0) (t := 8) (pc := 8) G dX1_join_8 rfl rfl rfl ?_
  refine am_aload_n (i := 3) (t := 14) (pc := 9) G dX1_join_9 rfl rfl rfl ?_
  refine am_bipush (pc := 10) G dX1_join_10 (by decide) (by decide) ?_
  refine am_bipush (pc := 12) G dX1_join_12 (by decide) (by decide) ?_
  refine am_callV (rk := 4) (rmc := rm_X1_load) (st := []) (pc := 14) G 1 [(17, _), (0, _), (0, _)] rfl (by decide) rfl dX1_join_14 tw_m_RX1_42 tw_i_X1_load tw_v_X1_load tw_z_RX1 tw_c_X1_load hy_X1_load (callrm hr rfl) rfl (RunsM.mono h (fun r3 M4 h => ?_)) Z.rm
  show AW X 17 _ [] M4
  refine am_iconst (pc := 17) G dX1_join_17 (by decide) ?_
  refine am_istore (pc := 18) G dX1_join_18 (nlx hn rfl) rfl ?_
  refine am_le (ls' := [(11, _), (99, 0), (0, _), (99, 0), (0, _)]) ⟨Or.inr rfl, ⟨Or.inl rfl, ⟨Or.inr rfl, ⟨Or.inl rfl, ⟨Or.inr rfl, trivial⟩⟩⟩⟩⟩ ?_
  exact swp_X1_join_20 G Z hn hr _ _ _ h
-- X1_nodes TreeHands$Joiner.nodes()I
def rm_X1_nodes : Room := { frames := 0, cells := 0, slots := 0, locals := 0 }
theorem hy_X1_nodes : yX1_nodes.cls ≠ "java/lang/invoke/MethodHandle" ∧ yX1_nodes.cls ≠ "java/lang/invoke/VarHandle" ∧ (parseMethodDescriptor yX1_nodes.desc).map (fun d => d.parameters.length) = some 0 := by decide +kernel
abbrev R_X1_nodes (V : VV) (M : Mem) (Q : Int → Mem → Prop) : Prop := RunsM V yX1_nodes (.code yX1_nodes cX1_nodes 1 (Option.some Jvm.ClassFile.FieldType.int)) rm_X1_nodes 0 [(11, 129)] M Q
def wp_X1_nodes (V : VV) (M : Mem) (Q : Int → Mem → Prop) : Prop :=
  ((0 : Int) ≤ 0 ∧ 0 < (48 : Int)) ∧
  ((0 : Int) ≤ M 134 0 ∧ M 134 0 < (48 : Int)) ∧
  Q (M 136 (M 134 0)) M
theorem of_X1_nodes {V : VV} {M : Mem} {Q : Int → Mem → Prop} (h : wp_X1_nodes V M Q) : R_X1_nodes V M Q := by
  refine met_in (own := "TreeHands$Joiner") (by decide +kernel) rfl rfl (Nat.le_of_ble_eq_true rfl) ?_
  intro X G Z hn hr hv
  subst hv
  unfold wp_X1_nodes at h
  show AW X 0 [(11, 129)] [] M
  refine am_aload_n (i := 0) (t := 8) (pc := 0) G dX1_nodes_0 rfl rfl rfl ?_
  refine gf_X1_6 (pc := 1) G dX1_nodes_1 tw_f_RX1_30 ?_
  refine am_aload_n (i := 0) (t := 8) (pc := 4) G dX1_nodes_4 rfl rfl rfl ?_
  refine gf_X1_4 (pc := 5) G dX1_nodes_5 tw_f_RX1_24 ?_
  refine am_iconst (pc := 8) G dX1_nodes_8 (by decide) ?_
  refine am_iald (pc := 9) G 48 dX1_nodes_9 (by decide) h.1 ?_
  have h := h.2
  refine am_iald (pc := 10) G 48 dX1_nodes_10 (by decide) h.1 ?_
  have h := h.2
  exact am_iret (pc := 11) G Z dX1_nodes_11 h
-- X1_placeOf TreeHands$Joiner.placeOf(I)I
def rm_X1_placeOf : Room := { frames := 1, cells := 0, slots := 0, locals := 20 }
theorem hy_X1_placeOf : yX1_placeOf.cls ≠ "java/lang/invoke/MethodHandle" ∧ yX1_placeOf.cls ≠ "java/lang/invoke/VarHandle" ∧ (parseMethodDescriptor yX1_placeOf.desc).map (fun d => d.parameters.length) = some 1 := by decide +kernel
abbrev R_X1_placeOf (V : VV) (x1 : Int) (M : Mem) (Q : Int → Mem → Prop) : Prop := RunsM V yX1_placeOf (.code yX1_placeOf cX1_placeOf 4 (Option.some Jvm.ClassFile.FieldType.int)) rm_X1_placeOf 0 [(11, 129), (0, x1)] M Q
def wp_X1_placeOf_48 (V : VV) (x1 x3 s0 s1 : Int) (M : Mem) (Q : Int → Mem → Prop) (B4 : Int → Int → Mem → Prop) : Prop :=
  B4 (w32 (s1 + s0)) (w32 (x3 + 1)) M
theorem swp_X1_placeOf_48 {X : XX} {Q : Int → Mem → Prop} (G : GX X cX1_placeOf "TreeHands$Joiner") (Z : RX X 0 Q) (hn : nLX X = 4) (hr : roomX X = rm_X1_placeOf) (x1 x3 s0 s1 : Int) (M : Mem) (B4 : Int → Int → Mem → Prop) (k4 : ∀ (z2 z3 : Int) (N : Mem), B4 z2 z3 N → AW X 4 [(11, 129), (0, x1), (0, z2), (0, z3)] [] N) (h : wp_X1_placeOf_48 (vX X) x1 x3 s0 s1 M Q B4) : AW X 48 [(11, 129), (0, x1), (99, 0), (0, x3)] [(0, s0), (0, s1)] M := by
  unfold wp_X1_placeOf_48 at h
  refine am_iadd (pc := 48) G dX1_placeOf_48 ?_
  refine am_istore_n (pc := 49) G dX1_placeOf_49 rfl (nlx hn rfl) rfl ?_
  refine am_iinc (pc := 50) (ls := [(11, _), (0, _), (0, _), (0, _)]) G dX1_placeOf_50 rfl (nlx hn rfl) rfl ?_
  refine am_goto (pc := 53) (ls := [(11, _), (0, _), (0, _), (0, _)]) G 4 dX1_placeOf_53 (by decide) ?_
  refine am_le (ls' := [(11, _), (0, _), (0, _), (0, _)]) ⟨Or.inr rfl, ⟨Or.inr rfl, ⟨Or.inr rfl, ⟨Or.inr rfl, trivial⟩⟩⟩⟩ ?_
  exact k4 _ _ _ h
def wp_X1_placeOf_4_b (V : VV) (x1 x2 x3 : Int) (M : Mem) (Q : Int → Mem → Prop) (B4 : Int → Int → Mem → Prop) : Prop :=
  (x1 ≤ x3 →
    Q x2 M) ∧ (¬ (x1 ≤ x3) →
    (16 ≤ x3 →
      Q x2 M) ∧ (¬ (16 ≤ x3) →
      ((0 : Int) ≤ x3 ∧ x3 < (32 : Int)) ∧
      R_X9_isHole V (M 130 x3) M (fun r1 M2 =>
      (r1 = 0 →
        wp_X1_placeOf_48 V x1 x3 1 x2 M2 Q B4) ∧ (¬ (r1 = 0) →
        ((0 : Int) ≤ x3 ∧ x3 < (32 : Int)) ∧
        ((0 : Int) ≤ M2 133 x3 ∧ M2 133 x3 < (48 : Int)) ∧
        ((0 : Int) ≤ M2 134 (M2 133 x3) ∧ M2 134 (M2 133 x3) < (48 : Int)) ∧
        wp_X1_placeOf_48 V x1 x3 (M2 136 (M2 134 (M2 133 x3))) x2 M2 Q B4))))
theorem swp_X1_placeOf_4_b {X : XX} {Q : Int → Mem → Prop} (G : GX X cX1_placeOf "TreeHands$Joiner") (Z : RX X 0 Q) (hn : nLX X = 4) (hr : roomX X = rm_X1_placeOf) (x1 x2 x3 : Int) (M : Mem) (B4 : Int → Int → Mem → Prop) (k4 : ∀ (z2 z3 : Int) (N : Mem), B4 z2 z3 N → AW X 4 [(11, 129), (0, x1), (0, z2), (0, z3)] [] N) (h : wp_X1_placeOf_4_b (vX X) x1 x2 x3 M Q B4) : AW X 4 [(11, 129), (0, x1), (0, x2), (0, x3)] [] M := by
  unfold wp_X1_placeOf_4_b at h
  refine am_iload_n (i := 3) (pc := 4) G dX1_placeOf_4 rfl rfl ?_
  refine am_iload_n (i := 1) (pc := 5) G dX1_placeOf_5 rfl rfl ?_
  refine am_icmp_ge (pc := 6) G 56 dX1_placeOf_6 (by decide) (fun c => ?_) (fun c => ?_)
  · have h := h.1 c
    refine am_iload_n (i := 2) (pc := 56) G dX1_placeOf_56 rfl rfl ?_
    exact am_iret (pc := 57) G Z dX1_placeOf_57 h
  · have h := h.2 c
    refine am_iload_n (i := 3) (pc := 9) G dX1_placeOf_9 rfl rfl ?_
    refine am_bipush (pc := 10) G dX1_placeOf_10 (by decide) (by decide) ?_
    refine am_icmp_ge (pc := 12) G 56 dX1_placeOf_12 (by decide) (fun c => ?_) (fun c => ?_)
    · have h := h.1 c
      refine am_iload_n (i := 2) (pc := 56) G dX1_placeOf_56 rfl rfl ?_
      exact am_iret (pc := 57) G Z dX1_placeOf_57 h
    · have h := h.2 c
      refine am_iload_n (i := 2) (pc := 15) G dX1_placeOf_15 rfl rfl ?_
      refine am_aload_n (i := 0) (t := 8) (pc := 16) G dX1_placeOf_16 rfl rfl rfl ?_
      refine gf_X1_0 (pc := 17) G dX1_placeOf_17 tw_f_RX1_11 ?_
      refine am_iload_n (i := 3) (pc := 20) G dX1_placeOf_20 rfl rfl ?_
      refine am_iald (pc := 21) G 32 dX1_placeOf_21 (by decide) h.1 ?_
      have h := h.2
      refine am_callSN (rk := 1) (rmc := rm_X9_isHole) (st := [(0, _)]) (pc := 22) G [(0, _)] dX1_placeOf_22 tw_n_RX1_70 tw_s_X9_isHole tw_z_RX9 tw_c_X9_isHole hy_X9_isHole (callrm hr rfl) rfl (RunsM.mono h (fun r1 M2 h => ?_)) Z.rm
      show AW X 25 _ [(0, _), (0, _)] M2
      refine am_if_eq (pc := 25) G 47 dX1_placeOf_25 (by decide) (fun c => ?_) (fun c => ?_)
      · have h := h.1 c
        refine am_iconst (pc := 47) G dX1_placeOf_47 (by decide) ?_
        refine am_le (ls' := [(11, _), (0, _), (99, 0), (0, _)]) ⟨Or.inr rfl, ⟨Or.inr rfl, ⟨Or.inl rfl, ⟨Or.inr rfl, trivial⟩⟩⟩⟩ ?_
        exact swp_X1_placeOf_48 G Z hn hr _ _ _ _ _ B4 k4 h
      · have h := h.2 c
        refine am_aload_n (i := 0) (t := 8) (pc := 28) G dX1_placeOf_28 rfl rfl rfl ?_
        refine gf_X1_6 (pc := 29) G dX1_placeOf_29 tw_f_RX1_30 ?_
        refine am_aload_n (i := 0) (t := 8) (pc := 32) G dX1_placeOf_32 rfl rfl rfl ?_
        refine gf_X1_4 (pc := 33) G dX1_placeOf_33 tw_f_RX1_24 ?_
        refine am_aload_n (i := 0) (t := 8) (pc := 36) G dX1_placeOf_36 rfl rfl rfl ?_
        refine gf_X1_3 (pc := 37) G dX1_placeOf_37 tw_f_RX1_21 ?_
        refine am_iload_n (i := 3) (pc := 40) G dX1_placeOf_40 rfl rfl ?_
        refine am_iald (pc := 41) G 32 dX1_placeOf_41 (by decide) h.1 ?_
        have h := h.2
        refine am_iald (pc := 42) G 48 dX1_placeOf_42 (by decide) h.1 ?_
        have h := h.2
        refine am_iald (pc := 43) G 48 dX1_placeOf_43 (by decide) h.1 ?_
        have h := h.2
        refine am_goto (pc := 44) G 48 dX1_placeOf_44 (by decide) ?_
        refine am_le (ls' := [(11, _), (0, _), (99, 0), (0, _)]) ⟨Or.inr rfl, ⟨Or.inr rfl, ⟨Or.inl rfl, ⟨Or.inr rfl, trivial⟩⟩⟩⟩ ?_
        exact swp_X1_placeOf_48 G Z hn hr _ _ _ _ _ B4 k4 h
def wp_X1_placeOf_4 (V : VV) (x1 x2 x3 : Int) (M : Mem) (Q : Int → Mem → Prop) : Prop :=
  ∃ (I : Int → Int → Mem → Prop) (μ : Int → Int → Mem → Nat), I x2 x3 M ∧ ∀ (y2 y3 : Int) (N : Mem), I y2 y3 N → wp_X1_placeOf_4_b V x1 y2 y3 N Q (fun z2 z3 N1 => I z2 z3 N1 ∧ μ z2 z3 N1 < μ y2 y3 N)
theorem swp_X1_placeOf_4 {X : XX} {Q : Int → Mem → Prop} (G : GX X cX1_placeOf "TreeHands$Joiner") (Z : RX X 0 Q) (hn : nLX X = 4) (hr : roomX X = rm_X1_placeOf) (x1 x2 x3 : Int) (M : Mem) (h : wp_X1_placeOf_4 (vX X) x1 x2 x3 M Q) : AW X 4 [(11, 129), (0, x1), (0, x2), (0, x3)] [] M := by
  unfold wp_X1_placeOf_4 at h
  obtain ⟨I, μ, hI, hs⟩ := h
  have key : ∀ (n : Nat) (y2 y3 : Int) (N : Mem), μ y2 y3 N < n → I y2 y3 N → AW X 4 [(11, 129), (0, x1), (0, y2), (0, y3)] [] N := by
    intro n
    induction n with
    | zero => intro y2 y3 N hlt; exact absurd hlt (Nat.not_lt_zero _)
    | succ n ih =>
      intro y2 y3 N hlt hI
      exact swp_X1_placeOf_4_b G Z hn hr x1 y2 y3 N (fun z2 z3 N1 => I z2 z3 N1 ∧ μ z2 z3 N1 < μ y2 y3 N) (fun z2 z3 N1 hz => ih z2 z3 N1 (by omega) hz.1) (hs y2 y3 N hI)
  exact key _ x2 x3 M (Nat.lt_succ_self _) hI
def wp_X1_placeOf (V : VV) (x1 : Int) (M : Mem) (Q : Int → Mem → Prop) : Prop :=
  wp_X1_placeOf_4 V x1 0 0 M Q
theorem of_X1_placeOf {V : VV} {x1 : Int} {M : Mem} {Q : Int → Mem → Prop} (h : wp_X1_placeOf V x1 M Q) : R_X1_placeOf V x1 M Q := by
  refine met_in (own := "TreeHands$Joiner") (by decide +kernel) rfl rfl (Nat.le_of_ble_eq_true rfl) ?_
  intro X G Z hn hr hv
  subst hv
  unfold wp_X1_placeOf at h
  show AW X 0 [(11, 129), (0, x1), (99, 0), (99, 0)] [] M
  refine am_iconst (pc := 0) G dX1_placeOf_0 (by decide) ?_
  refine am_istore_n (pc := 1) G dX1_placeOf_1 rfl (nlx hn rfl) rfl ?_
  refine am_iconst (pc := 2) (ls := [(11, _), (0, _), (0, _), (99, _)]) G dX1_placeOf_2 (by decide) ?_
  refine am_istore_n (pc := 3) G dX1_placeOf_3 rfl (nlx hn rfl) rfl ?_
  refine am_le (ls' := [(11, _), (0, _), (0, _), (0, _)]) ⟨Or.inr rfl, ⟨Or.inr rfl, ⟨Or.inr rfl, ⟨Or.inr rfl, trivial⟩⟩⟩⟩ ?_
  exact swp_X1_placeOf_4 G Z hn hr _ _ _ _ h
-- X1_awaitParts TreeHands$Joiner.awaitParts(I)V
def rm_X1_awaitParts : Room := { frames := 1, cells := 0, slots := 0, locals := 21 }
theorem hy_X1_awaitParts : yX1_awaitParts.cls ≠ "java/lang/invoke/MethodHandle" ∧ yX1_awaitParts.cls ≠ "java/lang/invoke/VarHandle" ∧ (parseMethodDescriptor yX1_awaitParts.desc).map (fun d => d.parameters.length) = some 1 := by decide +kernel
abbrev R_X1_awaitParts (V : VV) (x1 : Int) (M : Mem) (Q : Int → Mem → Prop) : Prop := RunsM V yX1_awaitParts (.code yX1_awaitParts cX1_awaitParts 5 (Option.none : Option Jvm.ClassFile.FieldType)) rm_X1_awaitParts 4 [(11, 129), (0, x1)] M Q
def wp_X1_awaitParts_77 (V : VV) (x3 : Int) (M : Mem) (Q : Int → Mem → Prop) : Prop :=
  Q 0 (mset M 129 9 (imin x3 96))
theorem swp_X1_awaitParts_77 {X : XX} {Q : Int → Mem → Prop} (G : GX X cX1_awaitParts "TreeHands$Joiner") (Z : RX X 4 Q) (hn : nLX X = 5) (hr : roomX X = rm_X1_awaitParts) (x3 : Int) (M : Mem) (h : wp_X1_awaitParts_77 (vX X) x3 M Q) : AW X 77 [(11, 129), (99, 0), (99, 0), (0, x3), (99, 0)] [] M := by
  unfold wp_X1_awaitParts_77 at h
  refine am_aload_n (i := 0) (t := 8) (pc := 77) G dX1_awaitParts_77 rfl rfl rfl ?_
  refine am_iload_n (i := 3) (pc := 78) G dX1_awaitParts_78 rfl rfl ?_
  refine am_bipush (pc := 79) G dX1_awaitParts_79 (by decide) (by decide) ?_
  refine am_mmin (pc := 81) G dX1_awaitParts_81 tw_m_RX1_78 tw_s_J9_min_7cf53 tw_z_RJ9 tw_c_J9_min_7cf53 (mmrm hr rfl) Z.rm rfl ?_
  refine pf_X1_9 (pc := 84) G dX1_awaitParts_84 tw_f_RX1_46 ?_
  exact am_vret (pc := 87) G Z dX1_awaitParts_87 h
def wp_X1_awaitParts_19_b (V : VV) (x1 x2 x3 x4 : Int) (M : Mem) (Q : Int → Mem → Prop) (B19 : Int → Int → Mem → Prop) : Prop :=
  ((0 : Int) ≤ x1 ∧ x1 < (32 : Int)) ∧
  (M 131 x1 < x4 →
    wp_X1_awaitParts_77 V x3 M Q) ∧ (¬ (M 131 x1 < x4) →
    (32 ≤ x2 →
      wp_X1_awaitParts_77 V x3 M Q) ∧ (¬ (32 ≤ x2) →
      (96 < x3 →
        wp_X1_awaitParts_77 V x3 M Q) ∧ (¬ (96 < x3) →
        ((0 : Int) ≤ x2 ∧ x2 < (32 : Int)) ∧
        ((0 : Int) ≤ M 133 x2 ∧ M 133 x2 < (48 : Int)) ∧
        ((0 : Int) ≤ w32 (x3 - x4) ∧ w32 (x3 - x4) < (96 : Int)) ∧
        ∀ M2 : Mem, M2 = mset M 137 (w32 (x3 - x4)) (M 134 (M 133 x2)) →
        ((0 : Int) ≤ x2 ∧ x2 < (32 : Int)) ∧
        ∀ v3 : Int, v3 = w32 (x2 + M2 132 x2) →
        B19 v3 (w32 (x4 + 1)) M2)))
theorem swp_X1_awaitParts_19_b {X : XX} {Q : Int → Mem → Prop} (G : GX X cX1_awaitParts "TreeHands$Joiner") (Z : RX X 4 Q) (hn : nLX X = 5) (hr : roomX X = rm_X1_awaitParts) (x1 x2 x3 x4 : Int) (M : Mem) (B19 : Int → Int → Mem → Prop) (k19 : ∀ (z2 z4 : Int) (N : Mem), B19 z2 z4 N → AW X 19 [(11, 129), (0, x1), (0, z2), (0, x3), (0, z4)] [] N) (h : wp_X1_awaitParts_19_b (vX X) x1 x2 x3 x4 M Q B19) : AW X 19 [(11, 129), (0, x1), (0, x2), (0, x3), (0, x4)] [] M := by
  unfold wp_X1_awaitParts_19_b at h
  refine am_iload (pc := 19) G dX1_awaitParts_19 rfl ?_
  refine am_aload_n (i := 0) (t := 8) (pc := 21) G dX1_awaitParts_21 rfl rfl rfl ?_
  refine gf_X1_1 (pc := 22) G dX1_awaitParts_22 tw_f_RX1_15 ?_
  refine am_iload_n (i := 1) (pc := 25) G dX1_awaitParts_25 rfl rfl ?_
  refine am_iald (pc := 26) G 32 dX1_awaitParts_26 (by decide) h.1 ?_
  have h := h.2
  refine am_icmp_gt (pc := 27) G 77 dX1_awaitParts_27 (by decide) (fun c => ?_) (fun c => ?_)
  · have h := h.1 c
    refine am_le (ls' := [(11, _), (99, 0), (99, 0), (0, _), (99, 0)]) ⟨Or.inr rfl, ⟨Or.inl rfl, ⟨Or.inl rfl, ⟨Or.inr rfl, ⟨Or.inl rfl, trivial⟩⟩⟩⟩⟩ ?_
    exact swp_X1_awaitParts_77 G Z hn hr _ _ h
  · have h := h.2 c
    refine am_iload_n (i := 2) (pc := 30) G dX1_awaitParts_30 rfl rfl ?_
    refine am_bipush (pc := 31) G dX1_awaitParts_31 (by decide) (by decide) ?_
    refine am_icmp_ge (pc := 33) G 77 dX1_awaitParts_33 (by decide) (fun c => ?_) (fun c => ?_)
    · have h := h.1 c
      refine am_le (ls' := [(11, _), (99, 0), (99, 0), (0, _), (99, 0)]) ⟨Or.inr rfl, ⟨Or.inl rfl, ⟨Or.inl rfl, ⟨Or.inr rfl, ⟨Or.inl rfl, trivial⟩⟩⟩⟩⟩ ?_
      exact swp_X1_awaitParts_77 G Z hn hr _ _ h
    · have h := h.2 c
      refine am_iload_n (i := 3) (pc := 36) G dX1_awaitParts_36 rfl rfl ?_
      refine am_bipush (pc := 37) G dX1_awaitParts_37 (by decide) (by decide) ?_
      refine am_icmp_gt (pc := 39) G 77 dX1_awaitParts_39 (by decide) (fun c => ?_) (fun c => ?_)
      · have h := h.1 c
        refine am_le (ls' := [(11, _), (99, 0), (99, 0), (0, _), (99, 0)]) ⟨Or.inr rfl, ⟨Or.inl rfl, ⟨Or.inl rfl, ⟨Or.inr rfl, ⟨Or.inl rfl, trivial⟩⟩⟩⟩⟩ ?_
        exact swp_X1_awaitParts_77 G Z hn hr _ _ h
      · have h := h.2 c
        refine am_aload_n (i := 0) (t := 8) (pc := 42) G dX1_awaitParts_42 rfl rfl rfl ?_
        refine gf_X1_7 (pc := 43) G dX1_awaitParts_43 tw_f_RX1_33 ?_
        refine am_iload_n (i := 3) (pc := 46) G dX1_awaitParts_46 rfl rfl ?_
        refine am_iload (pc := 47) G dX1_awaitParts_47 rfl ?_
        refine am_isub (pc := 49) G dX1_awaitParts_49 ?_
        refine am_aload_n (i := 0) (t := 8) (pc := 50) G dX1_awaitParts_50 rfl rfl rfl ?_
        refine gf_X1_4 (pc := 51) G dX1_awaitParts_51 tw_f_RX1_24 ?_
        refine am_aload_n (i := 0) (t := 8) (pc := 54) G dX1_awaitParts_54 rfl rfl rfl ?_
        refine gf_X1_3 (pc := 55) G dX1_awaitParts_55 tw_f_RX1_21 ?_
        refine am_iload_n (i := 2) (pc := 58) G dX1_awaitParts_58 rfl rfl ?_
        refine am_iald (pc := 59) G 32 dX1_awaitParts_59 (by decide) h.1 ?_
        have h := h.2
        refine am_iald (pc := 60) G 48 dX1_awaitParts_60 (by decide) h.1 ?_
        have h := h.2
        refine am_iast (pc := 61) G 96 dX1_awaitParts_61 (by decide) h.1 ?_
        have h := h.2
        refine am_iload_n (i := 2) (pc := 62) G dX1_awaitParts_62 rfl rfl ?_
        refine am_aload_n (i := 0) (t := 8) (pc := 63) G dX1_awaitParts_63 rfl rfl rfl ?_
        refine gf_X1_2 (pc := 64) G dX1_awaitParts_64 tw_f_RX1_18 ?_
        refine am_iload_n (i := 2) (pc := 67) G dX1_awaitParts_67 rfl rfl ?_
        have h := h _ rfl
        refine am_iald (pc := 68) G 32 dX1_awaitParts_68 (by decide) h.1 ?_
        have h := h.2
        refine am_iadd (pc := 69) G dX1_awaitParts_69 ?_
        have h := h _ rfl
        refine am_istore_n (pc := 70) G dX1_awaitParts_70 rfl (nlx hn rfl) rfl ?_
        refine am_iinc (pc := 71) (ls := [(11, _), (0, _), (0, _), (0, _), (0, _)]) G dX1_awaitParts_71 rfl (nlx hn rfl) rfl ?_
        refine am_goto (pc := 74) (ls := [(11, _), (0, _), (0, _), (0, _), (0, _)]) G 19 dX1_awaitParts_74 (by decide) ?_
        refine am_le (ls' := [(11, _), (0, _), (0, _), (0, _), (0, _)]) ⟨Or.inr rfl, ⟨Or.inr rfl, ⟨Or.inr rfl, ⟨Or.inr rfl, ⟨Or.inr rfl, trivial⟩⟩⟩⟩⟩ ?_
        exact k19 _ _ _ h
def wp_X1_awaitParts_19 (V : VV) (x1 x2 x3 x4 : Int) (M : Mem) (Q : Int → Mem → Prop) : Prop :=
  ∃ (I : Int → Int → Mem → Prop) (μ : Int → Int → Mem → Nat), I x2 x4 M ∧ ∀ (y2 y4 : Int) (N : Mem), I y2 y4 N → wp_X1_awaitParts_19_b V x1 y2 x3 y4 N Q (fun z2 z4 N1 => I z2 z4 N1 ∧ μ z2 z4 N1 < μ y2 y4 N)
theorem swp_X1_awaitParts_19 {X : XX} {Q : Int → Mem → Prop} (G : GX X cX1_awaitParts "TreeHands$Joiner") (Z : RX X 4 Q) (hn : nLX X = 5) (hr : roomX X = rm_X1_awaitParts) (x1 x2 x3 x4 : Int) (M : Mem) (h : wp_X1_awaitParts_19 (vX X) x1 x2 x3 x4 M Q) : AW X 19 [(11, 129), (0, x1), (0, x2), (0, x3), (0, x4)] [] M := by
  unfold wp_X1_awaitParts_19 at h
  obtain ⟨I, μ, hI, hs⟩ := h
  have key : ∀ (n : Nat) (y2 y4 : Int) (N : Mem), μ y2 y4 N < n → I y2 y4 N → AW X 19 [(11, 129), (0, x1), (0, y2), (0, x3), (0, y4)] [] N := by
    intro n
    induction n with
    | zero => intro y2 y4 N hlt; exact absurd hlt (Nat.not_lt_zero _)
    | succ n ih =>
      intro y2 y4 N hlt hI
      exact swp_X1_awaitParts_19_b G Z hn hr x1 y2 x3 y4 N (fun z2 z4 N1 => I z2 z4 N1 ∧ μ z2 z4 N1 < μ y2 y4 N) (fun z2 z4 N1 hz => ih z2 z4 N1 (by omega) hz.1) (hs y2 y4 N hI)
  exact key _ x2 x4 M (Nat.lt_succ_self _) hI
def wp_X1_awaitParts (V : VV) (x1 : Int) (M : Mem) (Q : Int → Mem → Prop) : Prop :=
  ((0 : Int) ≤ x1 ∧ x1 < (32 : Int)) ∧
  ∀ v1 : Int, v1 = w32 (M 129 9 + M 131 x1) →
  wp_X1_awaitParts_19 V x1 (w32 (x1 + 1)) v1 1 M Q
theorem of_X1_awaitParts {V : VV} {x1 : Int} {M : Mem} {Q : Int → Mem → Prop} (h : wp_X1_awaitParts V x1 M Q) : R_X1_awaitParts V x1 M Q := by
  refine met_in (own := "TreeHands$Joiner") (by decide +kernel) rfl rfl (Nat.le_of_ble_eq_true rfl) ?_
  intro X G Z hn hr hv
  subst hv
  unfold wp_X1_awaitParts at h
  show AW X 0 [(11, 129), (0, x1), (99, 0), (99, 0), (99, 0)] [] M
  refine am_iload_n (i := 1) (pc := 0) G dX1_awaitParts_0 rfl rfl ?_
  refine am_iconst (pc := 1) G dX1_awaitParts_1 (by decide) ?_
  refine am_iadd (pc := 2) G dX1_awaitParts_2 ?_
  refine am_istore_n (pc := 3) G dX1_awaitParts_3 rfl (nlx hn rfl) rfl ?_
  refine am_aload_n (i := 0) (t := 8) (pc := 4) (ls := [(11, _), (0, _), (0, _), (99, _), (99, _)]) G dX1_awaitParts_4 rfl rfl rfl ?_
  refine gf_X1_9 (pc := 5) G dX1_awaitParts_5 tw_f_RX1_46 ?_
  refine am_aload_n (i := 0) (t := 8) (pc := 8) G dX1_awaitParts_8 rfl rfl rfl ?_
  refine gf_X1_1 (pc := 9) G dX1_awaitParts_9 tw_f_RX1_15 ?_
  refine am_iload_n (i := 1) (pc := 12) G dX1_awaitParts_12 rfl rfl ?_
  refine am_iald (pc := 13) G 32 dX1_awaitParts_13 (by decide) h.1 ?_
  have h := h.2
  refine am_iadd (pc := 14) G dX1_awaitParts_14 ?_
  have h := h _ rfl
  refine am_istore_n (pc := 15) G dX1_awaitParts_15 rfl (nlx hn rfl) rfl ?_
  refine am_iconst (pc := 16) (ls := [(11, _), (0, _), (0, _), (0, _), (99, _)]) G dX1_awaitParts_16 (by decide) ?_
  refine am_istore (pc := 17) G dX1_awaitParts_17 (nlx hn rfl) rfl ?_
  refine am_le (ls' := [(11, _), (0, _), (0, _), (0, _), (0, _)]) ⟨Or.inr rfl, ⟨Or.inr rfl, ⟨Or.inr rfl, ⟨Or.inr rfl, ⟨Or.inr rfl, trivial⟩⟩⟩⟩⟩ ?_
  exact swp_X1_awaitParts_19 G Z hn hr _ _ _ _ _ h
-- X1_write TreeHands$Joiner.write(LTreeHands$Tree;)I
def rm_X1_write : Room := { frames := 2, cells := 0, slots := 0, locals := 45 }
theorem hy_X1_write : yX1_write.cls ≠ "java/lang/invoke/MethodHandle" ∧ yX1_write.cls ≠ "java/lang/invoke/VarHandle" ∧ (parseMethodDescriptor yX1_write.desc).map (fun d => d.parameters.length) = some 1 := by decide +kernel
abbrev R_X1_write (V : VV) (x1 : Int) (M : Mem) (Q : Int → Mem → Prop) : Prop := RunsM V yX1_write (.code yX1_write cX1_write 6 (Option.some Jvm.ClassFile.FieldType.int)) rm_X1_write 0 [(11, 129), (17, x1)] M Q
def wp_X1_write_161 (V : VV) (x1 x2 : Int) (M : Mem) (Q : Int → Mem → Prop) : Prop :=
  R_X7_settle V x1 M (fun _ M4 =>
  Q x2 M4)
theorem swp_X1_write_161 {X : XX} {Q : Int → Mem → Prop} (G : GX X cX1_write "TreeHands$Joiner") (Z : RX X 0 Q) (hn : nLX X = 6) (hr : roomX X = rm_X1_write) (x1 x2 : Int) (M : Mem) (h : wp_X1_write_161 (vX X) x1 x2 M Q) : AW X 161 [(99, 0), (17, x1), (0, x2), (99, 0), (99, 0), (99, 0)] [] M := by
  unfold wp_X1_write_161 at h
  refine am_aload_n (i := 1) (t := 14) (pc := 161) G dX1_write_161 rfl rfl rfl ?_
  refine am_callV (rk := 4) (rmc := rm_X7_settle) (st := []) (pc := 162) G 7 [] rfl (by decide) rfl dX1_write_162 tw_m_RX1_91 tw_i_X7_settle tw_v_X7_settle tw_z_RX7 tw_c_X7_settle hy_X7_settle (callrm hr rfl) rfl (RunsM.mono h (fun r3 M4 h => ?_)) Z.rm
  show AW X 165 _ [] M4
  refine am_iload_n (i := 2) (pc := 165) G dX1_write_165 rfl rfl ?_
  exact am_iret (pc := 166) G Z dX1_write_166 h
def wp_X1_write_143 (V : VV) (x1 x2 x3 x4 : Int) (M : Mem) (Q : Int → Mem → Prop) (B47 : Int → Int → Mem → Prop) : Prop :=
  ((0 : Int) ≤ x4 ∧ x4 < (48 : Int)) ∧
  R_X7_append V x1 (M 139 x4) 0 M (fun _ M9 =>
  B47 x2 (w32 (x3 + 1)) M9)
theorem swp_X1_write_143 {X : XX} {Q : Int → Mem → Prop} (G : GX X cX1_write "TreeHands$Joiner") (Z : RX X 0 Q) (hn : nLX X = 6) (hr : roomX X = rm_X1_write) (x1 x2 x3 x4 : Int) (M : Mem) (B47 : Int → Int → Mem → Prop) (k47 : ∀ (z2 z3 : Int) (N : Mem), B47 z2 z3 N → AW X 47 [(11, 129), (17, x1), (0, z2), (0, z3), (99, 0), (99, 0)] [] N) (h : wp_X1_write_143 (vX X) x1 x2 x3 x4 M Q B47) : AW X 143 [(11, 129), (17, x1), (0, x2), (0, x3), (0, x4), (99, 0)] [] M := by
  unfold wp_X1_write_143 at h
  refine am_aload_n (i := 1) (t := 14) (pc := 143) G dX1_write_143 rfl rfl rfl ?_
  refine am_aload_n (i := 0) (t := 8) (pc := 144) G dX1_write_144 rfl rfl rfl ?_
  refine gf_X1_10 (pc := 145) G dX1_write_145 tw_f_RX1_39 ?_
  refine am_iload (pc := 148) G dX1_write_148 rfl ?_
  refine am_iald (pc := 150) G 48 dX1_write_150 (by decide) h.1 ?_
  have h := h.2
  refine am_iconst (pc := 151) G dX1_write_151 (by decide) ?_
  refine am_callV (rk := 4) (rmc := rm_X7_append) (st := []) (pc := 152) G 7 [(0, _), (0, _)] rfl (by decide) rfl dX1_write_152 tw_m_RX1_84 tw_i_X7_append tw_v_X7_append tw_z_RX7 tw_c_X7_append hy_X7_append (callrm hr rfl) rfl (RunsM.mono h (fun r8 M9 h => ?_)) Z.rm
  show AW X 155 _ [] M9
  refine am_iinc (pc := 155) G dX1_write_155 rfl (nlx hn rfl) rfl ?_
  refine am_goto (pc := 158) (ls := [(11, _), (17, _), (0, _), (0, _), (0, _), (99, _)]) G 47 dX1_write_158 (by decide) ?_
  refine am_le (ls' := [(11, _), (17, _), (0, _), (0, _), (99, 0), (99, 0)]) ⟨Or.inr rfl, ⟨Or.inr rfl, ⟨Or.inr rfl, ⟨Or.inr rfl, ⟨Or.inl rfl, ⟨Or.inl rfl, trivial⟩⟩⟩⟩⟩⟩ ?_
  exact k47 _ _ _ h
def wp_X1_write_47_b (V : VV) (x1 x2 x3 : Int) (M : Mem) (Q : Int → Mem → Prop) (B47 : Int → Int → Mem → Prop) : Prop :=
  (16 ≤ x3 →
    wp_X1_write_161 V x1 x2 M Q) ∧ (¬ (16 ≤ x3) →
    (M 129 9 ≤ 0 →
      wp_X1_write_161 V x1 x2 M Q) ∧ (¬ (M 129 9 ≤ 0) →
      ∀ M5 : Mem, M5 = mset M 129 9 (w32 (M 129 9 - 1)) →
      ((0 : Int) ≤ M5 129 9 ∧ M5 129 9 < (96 : Int)) ∧
      ∀ v6 : Int, v6 = M5 137 (M5 129 9) →
      ((0 : Int) ≤ v6 ∧ v6 < (48 : Int)) ∧
      ∀ v7 : Int, v7 = M5 135 v6 →
      (v7 < 0 →
        ((0 : Int) ≤ v6 ∧ v6 < (48 : Int)) ∧
        (M5 139 v6 = 0 →
          ((0 : Int) ≤ v6 ∧ v6 < (48 : Int)) ∧
          wp_X1_write_143 V x1 (w32 (x2 + 1)) x3 v6 (mset M5 139 v6 (w32 (x2 + 1))) Q B47) ∧ (¬ (M5 139 v6 = 0) →
          wp_X1_write_143 V x1 x2 x3 v6 M5 Q B47)) ∧ (¬ (v7 < 0) →
        ((0 : Int) ≤ v7 ∧ v7 < (32 : Int)) ∧
        ((0 : Int) ≤ v7 ∧ v7 < (32 : Int)) ∧
        R_X7_append V x1 (M5 130 v7) (M5 131 v7) M5 (fun _ M11 =>
        R_X1_awaitParts V v7 M11 (fun _ M13 =>
        B47 x2 (w32 (x3 + 1)) M13)))))
theorem swp_X1_write_47_b {X : XX} {Q : Int → Mem → Prop} (G : GX X cX1_write "TreeHands$Joiner") (Z : RX X 0 Q) (hn : nLX X = 6) (hr : roomX X = rm_X1_write) (x1 x2 x3 : Int) (M : Mem) (B47 : Int → Int → Mem → Prop) (k47 : ∀ (z2 z3 : Int) (N : Mem), B47 z2 z3 N → AW X 47 [(11, 129), (17, x1), (0, z2), (0, z3), (99, 0), (99, 0)] [] N) (h : wp_X1_write_47_b (vX X) x1 x2 x3 M Q B47) : AW X 47 [(11, 129), (17, x1), (0, x2), (0, x3), (99, 0), (99, 0)] [] M := by
  unfold wp_X1_write_47_b at h
  refine am_iload_n (i := 3) (pc := 47) G dX1_write_47 rfl rfl ?_
  refine am_bipush (pc := 48) G dX1_write_48 (by decide) (by decide) ?_
  refine am_icmp_ge (pc := 50) G 161 dX1_write_50 (by decide) (fun c => ?_) (fun c => ?_)
  · have h := h.1 c
    refine am_le (ls' := [(99, 0), (17, _), (0, _), (99, 0), (99, 0), (99, 0)]) ⟨Or.inl rfl, ⟨Or.inr rfl, ⟨Or.inr rfl, ⟨Or.inl rfl, ⟨Or.inl rfl, ⟨Or.inl rfl, trivial⟩⟩⟩⟩⟩⟩ ?_
    exact swp_X1_write_161 G Z hn hr _ _ _ h
  · have h := h.2 c
    refine am_aload_n (i := 0) (t := 8) (pc := 53) G dX1_write_53 rfl rfl rfl ?_
    refine gf_X1_9 (pc := 54) G dX1_write_54 tw_f_RX1_46 ?_
    refine am_if_le (pc := 57) G 161 dX1_write_57 (by decide) (fun c => ?_) (fun c => ?_)
    · have h := h.1 c
      refine am_le (ls' := [(99, 0), (17, _), (0, _), (99, 0), (99, 0), (99, 0)]) ⟨Or.inl rfl, ⟨Or.inr rfl, ⟨Or.inr rfl, ⟨Or.inl rfl, ⟨Or.inl rfl, ⟨Or.inl rfl, trivial⟩⟩⟩⟩⟩⟩ ?_
      exact swp_X1_write_161 G Z hn hr _ _ _ h
    · have h := h.2 c
      refine am_aload_n (i := 0) (t := 8) (pc := 60) G dX1_write_60 rfl rfl rfl ?_
      refine am_dup (pc := 61) G dX1_write_61 (Nat.ne_of_beq_eq_false rfl) ?_
      refine gf_X1_9 (pc := 62) G dX1_write_62 tw_f_RX1_46 ?_
      refine am_iconst (pc := 65) G dX1_write_65 (by decide) ?_
      refine am_isub (pc := 66) G dX1_write_66 ?_
      refine pf_X1_9 (pc := 67) G dX1_write_67 tw_f_RX1_46 ?_
      refine am_aload_n (i := 0) (t := 8) (pc := 70) G dX1_write_70 rfl rfl rfl ?_
      refine gf_X1_7 (pc := 71) G dX1_write_71 tw_f_RX1_33 ?_
      refine am_aload_n (i := 0) (t := 8) (pc := 74) G dX1_write_74 rfl rfl rfl ?_
      have h := h _ rfl
      refine gf_X1_9 (pc := 75) G dX1_write_75 tw_f_RX1_46 ?_
      refine am_iald (pc := 78) G 96 dX1_write_78 (by decide) h.1 ?_
      have h := h.2
      have h := h _ rfl
      refine am_istore (pc := 79) G dX1_write_79 (nlx hn rfl) rfl ?_
      refine am_aload_n (i := 0) (t := 8) (pc := 81) (ls := [(11, _), (17, _), (0, _), (0, _), (0, _), (99, _)]) G dX1_write_81 rfl rfl rfl ?_
      refine gf_X1_5 (pc := 82) G dX1_write_82 tw_f_RX1_27 ?_
      refine am_iload (pc := 85) G dX1_write_85 rfl ?_
      refine am_iald (pc := 87) G 48 dX1_write_87 (by decide) h.1 ?_
      have h := h.2
      have h := h _ rfl
      refine am_istore (pc := 88) G dX1_write_88 (nlx hn rfl) rfl ?_
      refine am_iload (pc := 90) (ls := [(11, _), (17, _), (0, _), (0, _), (0, _), (0, _)]) G dX1_write_90 rfl ?_
      refine am_if_lt (pc := 92) G 122 dX1_write_92 (by decide) (fun c => ?_) (fun c => ?_)
      · have h := h.1 c
        refine am_aload_n (i := 0) (t := 8) (pc := 122) G dX1_write_122 rfl rfl rfl ?_
        refine gf_X1_10 (pc := 123) G dX1_write_123 tw_f_RX1_39 ?_
        refine am_iload (pc := 126) G dX1_write_126 rfl ?_
        refine am_iald (pc := 128) G 48 dX1_write_128 (by decide) h.1 ?_
        have h := h.2
        refine am_if_ne (pc := 129) G 143 dX1_write_129 (by decide) (fun c => ?_) (fun c => ?_)
        · have h := h.2 c
          refine am_le (ls' := [(11, _), (17, _), (0, _), (0, _), (0, _), (99, 0)]) ⟨Or.inr rfl, ⟨Or.inr rfl, ⟨Or.inr rfl, ⟨Or.inr rfl, ⟨Or.inr rfl, ⟨Or.inl rfl, trivial⟩⟩⟩⟩⟩⟩ ?_
          exact swp_X1_write_143 G Z hn hr _ _ _ _ _ B47 k47 h
        · have h := h.1 c
          refine am_iinc (pc := 132) G dX1_write_132 rfl (nlx hn rfl) rfl ?_
          refine am_aload_n (i := 0) (t := 8) (pc := 135) (ls := [(11, _), (17, _), (0, _), (0, _), (0, _), (0, _)]) G dX1_write_135 rfl rfl rfl ?_
          refine gf_X1_10 (pc := 136) G dX1_write_136 tw_f_RX1_39 ?_
          refine am_iload (pc := 139) G dX1_write_139 rfl ?_
          refine am_iload_n (i := 2) (pc := 141) G dX1_write_141 rfl rfl ?_
          refine am_iast (pc := 142) G 48 dX1_write_142 (by decide) h.1 ?_
          have h := h.2
          refine am_le (ls' := [(11, _), (17, _), (0, _), (0, _), (0, _), (99, 0)]) ⟨Or.inr rfl, ⟨Or.inr rfl, ⟨Or.inr rfl, ⟨Or.inr rfl, ⟨Or.inr rfl, ⟨Or.inl rfl, trivial⟩⟩⟩⟩⟩⟩ ?_
          exact swp_X1_write_143 G Z hn hr _ _ _ _ _ B47 k47 h
      · have h := h.2 c
        refine am_aload_n (i := 1) (t := 14) (pc := 95) G dX1_write_95 rfl rfl rfl ?_
        refine am_aload_n (i := 0) (t := 8) (pc := 96) G dX1_write_96 rfl rfl rfl ?_
        refine gf_X1_0 (pc := 97) G dX1_write_97 tw_f_RX1_11 ?_
        refine am_iload (pc := 100) G dX1_write_100 rfl ?_
        refine am_iald (pc := 102) G 32 dX1_write_102 (by decide) h.1 ?_
        have h := h.2
        refine am_aload_n (i := 0) (t := 8) (pc := 103) G dX1_write_103 rfl rfl rfl ?_
        refine gf_X1_1 (pc := 104) G dX1_write_104 tw_f_RX1_15 ?_
        refine am_iload (pc := 107) G dX1_write_107 rfl ?_
        refine am_iald (pc := 109) G 32 dX1_write_109 (by decide) h.1 ?_
        have h := h.2
        refine am_callV (rk := 4) (rmc := rm_X7_append) (st := []) (pc := 110) G 7 [(0, _), (0, _)] rfl (by decide) rfl dX1_write_110 tw_m_RX1_84 tw_i_X7_append tw_v_X7_append tw_z_RX7 tw_c_X7_append hy_X7_append (callrm hr rfl) rfl (RunsM.mono h (fun r10 M11 h => ?_)) Z.rm
        show AW X 113 _ [] M11
        refine am_aload_n (i := 0) (t := 8) (pc := 113) G dX1_write_113 rfl rfl rfl ?_
        refine am_iload (pc := 114) G dX1_write_114 rfl ?_
        refine am_callV (rk := 4) (rmc := rm_X1_awaitParts) (st := []) (pc := 116) G 1 [(0, _)] rfl (by decide) rfl dX1_write_116 tw_m_RX1_87 tw_i_X1_awaitParts tw_v_X1_awaitParts tw_z_RX1 tw_c_X1_awaitParts hy_X1_awaitParts (callrm hr rfl) rfl (RunsM.mono h (fun r12 M13 h => ?_)) Z.rm
        show AW X 119 _ [] M13
        refine am_goto (pc := 119) G 155 dX1_write_119 (by decide) ?_
        refine am_iinc (pc := 155) G dX1_write_155 rfl (nlx hn rfl) rfl ?_
        refine am_goto (pc := 158) (ls := [(11, _), (17, _), (0, _), (0, _), (0, _), (0, _)]) G 47 dX1_write_158 (by decide) ?_
        refine am_le (ls' := [(11, _), (17, _), (0, _), (0, _), (99, 0), (99, 0)]) ⟨Or.inr rfl, ⟨Or.inr rfl, ⟨Or.inr rfl, ⟨Or.inr rfl, ⟨Or.inl rfl, ⟨Or.inl rfl, trivial⟩⟩⟩⟩⟩⟩ ?_
        exact k47 _ _ _ h
def wp_X1_write_47 (V : VV) (x1 x2 x3 : Int) (M : Mem) (Q : Int → Mem → Prop) : Prop :=
  ∃ (I : Int → Int → Mem → Prop) (μ : Int → Int → Mem → Nat), I x2 x3 M ∧ ∀ (y2 y3 : Int) (N : Mem), I y2 y3 N → wp_X1_write_47_b V x1 y2 y3 N Q (fun z2 z3 N1 => I z2 z3 N1 ∧ μ z2 z3 N1 < μ y2 y3 N)
theorem swp_X1_write_47 {X : XX} {Q : Int → Mem → Prop} (G : GX X cX1_write "TreeHands$Joiner") (Z : RX X 0 Q) (hn : nLX X = 6) (hr : roomX X = rm_X1_write) (x1 x2 x3 : Int) (M : Mem) (h : wp_X1_write_47 (vX X) x1 x2 x3 M Q) : AW X 47 [(11, 129), (17, x1), (0, x2), (0, x3), (99, 0), (99, 0)] [] M := by
  unfold wp_X1_write_47 at h
  obtain ⟨I, μ, hI, hs⟩ := h
  have key : ∀ (n : Nat) (y2 y3 : Int) (N : Mem), μ y2 y3 N < n → I y2 y3 N → AW X 47 [(11, 129), (17, x1), (0, y2), (0, y3), (99, 0), (99, 0)] [] N := by
    intro n
    induction n with
    | zero => intro y2 y3 N hlt; exact absurd hlt (Nat.not_lt_zero _)
    | succ n ih =>
      intro y2 y3 N hlt hI
      exact swp_X1_write_47_b G Z hn hr x1 y2 y3 N (fun z2 z3 N1 => I z2 z3 N1 ∧ μ z2 z3 N1 < μ y2 y3 N) (fun z2 z3 N1 hz => ih z2 z3 N1 (by omega) hz.1) (hs y2 y3 N hI)
  exact key _ x2 x3 M (Nat.lt_succ_self _) hI
def wp_X1_write_2_b (V : VV) (x1 x2 : Int) (M : Mem) (Q : Int → Mem → Prop) (B2 : Int → Mem → Prop) : Prop :=
  (48 ≤ x2 →
    ∀ M1 : Mem, M1 = mset M x1 0 0 →
    ((0 : Int) ≤ 0 ∧ 0 < (48 : Int)) ∧
    ((0 : Int) ≤ 0 ∧ 0 < (96 : Int)) ∧
    ∀ M2 : Mem, M2 = mset M1 137 0 (M1 134 0) →
    wp_X1_write_47 V x1 0 0 (mset M2 129 9 1) Q) ∧ (¬ (48 ≤ x2) →
    ((0 : Int) ≤ x2 ∧ x2 < (48 : Int)) ∧
    B2 (w32 (x2 + 1)) (mset M 139 x2 0))
theorem swp_X1_write_2_b {X : XX} {Q : Int → Mem → Prop} (G : GX X cX1_write "TreeHands$Joiner") (Z : RX X 0 Q) (hn : nLX X = 6) (hr : roomX X = rm_X1_write) (x1 x2 : Int) (M : Mem) (B2 : Int → Mem → Prop) (k2 : ∀ (z2 : Int) (N : Mem), B2 z2 N → AW X 2 [(11, 129), (17, x1), (0, z2), (99, 0), (99, 0), (99, 0)] [] N) (h : wp_X1_write_2_b (vX X) x1 x2 M Q B2) : AW X 2 [(11, 129), (17, x1), (0, x2), (99, 0), (99, 0), (99, 0)] [] M := by
  unfold wp_X1_write_2_b at h
  refine am_iload_n (i := 2) (pc := 2) G dX1_write_2 rfl rfl ?_
  refine am_bipush (pc := 3) G dX1_write_3 (by decide) (by decide) ?_
  refine am_icmp_ge (pc := 5) G 21 dX1_write_5 (by decide) (fun c => ?_) (fun c => ?_)
  · have h := h.1 c
    refine am_iconst (pc := 21) G dX1_write_21 (by decide) ?_
    refine am_istore_n (pc := 22) G dX1_write_22 rfl (nlx hn rfl) rfl ?_
    refine am_aload_n (i := 1) (t := 14) (pc := 23) (ls := [(11, _), (17, _), (0, _), (99, _), (99, _), (99, _)]) G dX1_write_23 rfl rfl rfl ?_
    refine am_iconst (pc := 24) G dX1_write_24 (by decide) ?_
    refine pf_X7_0 (pc := 25) G dX1_write_25 tw_f_RX1_62 ?_
    refine am_aload_n (i := 0) (t := 8) (pc := 28) G dX1_write_28 rfl rfl rfl ?_
    refine gf_X1_7 (pc := 29) G dX1_write_29 tw_f_RX1_33 ?_
    refine am_iconst (pc := 32) G dX1_write_32 (by decide) ?_
    refine am_aload_n (i := 0) (t := 8) (pc := 33) G dX1_write_33 rfl rfl rfl ?_
    refine gf_X1_4 (pc := 34) G dX1_write_34 tw_f_RX1_24 ?_
    refine am_iconst (pc := 37) G dX1_write_37 (by decide) ?_
    have h := h _ rfl
    refine am_iald (pc := 38) G 48 dX1_write_38 (by decide) h.1 ?_
    have h := h.2
    refine am_iast (pc := 39) G 96 dX1_write_39 (by decide) h.1 ?_
    have h := h.2
    refine am_aload_n (i := 0) (t := 8) (pc := 40) G dX1_write_40 rfl rfl rfl ?_
    refine am_iconst (pc := 41) G dX1_write_41 (by decide) ?_
    have h := h _ rfl
    refine pf_X1_9 (pc := 42) G dX1_write_42 tw_f_RX1_46 ?_
    refine am_iconst (pc := 45) G dX1_write_45 (by decide) ?_
    refine am_istore_n (pc := 46) G dX1_write_46 rfl (nlx hn rfl) rfl ?_
    refine am_le (ls' := [(11, _), (17, _), (0, _), (0, _), (99, 0), (99, 0)]) ⟨Or.inr rfl, ⟨Or.inr rfl, ⟨Or.inr rfl, ⟨Or.inr rfl, ⟨Or.inl rfl, ⟨Or.inl rfl, trivial⟩⟩⟩⟩⟩⟩ ?_
    exact swp_X1_write_47 G Z hn hr _ _ _ _ h
  · have h := h.2 c
    refine am_aload_n (i := 0) (t := 8) (pc := 8) G dX1_write_8 rfl rfl rfl ?_
    refine gf_X1_10 (pc := 9) G dX1_write_9 tw_f_RX1_39 ?_
    refine am_iload_n (i := 2) (pc := 12) G dX1_write_12 rfl rfl ?_
    refine am_iconst (pc := 13) G dX1_write_13 (by decide) ?_
    refine am_iast (pc := 14) G 48 dX1_write_14 (by decide) h.1 ?_
    have h := h.2
    refine am_iinc (pc := 15) G dX1_write_15 rfl (nlx hn rfl) rfl ?_
    refine am_goto (pc := 18) (ls := [(11, _), (17, _), (0, _), (99, _), (99, _), (99, _)]) G 2 dX1_write_18 (by decide) ?_
    refine am_le (ls' := [(11, _), (17, _), (0, _), (99, 0), (99, 0), (99, 0)]) ⟨Or.inr rfl, ⟨Or.inr rfl, ⟨Or.inr rfl, ⟨Or.inl rfl, ⟨Or.inl rfl, ⟨Or.inl rfl, trivial⟩⟩⟩⟩⟩⟩ ?_
    exact k2 _ _ h
def wp_X1_write_2 (V : VV) (x1 x2 : Int) (M : Mem) (Q : Int → Mem → Prop) : Prop :=
  ∃ (I : Int → Mem → Prop) (μ : Int → Mem → Nat), I x2 M ∧ ∀ (y2 : Int) (N : Mem), I y2 N → wp_X1_write_2_b V x1 y2 N Q (fun z2 N1 => I z2 N1 ∧ μ z2 N1 < μ y2 N)
theorem swp_X1_write_2 {X : XX} {Q : Int → Mem → Prop} (G : GX X cX1_write "TreeHands$Joiner") (Z : RX X 0 Q) (hn : nLX X = 6) (hr : roomX X = rm_X1_write) (x1 x2 : Int) (M : Mem) (h : wp_X1_write_2 (vX X) x1 x2 M Q) : AW X 2 [(11, 129), (17, x1), (0, x2), (99, 0), (99, 0), (99, 0)] [] M := by
  unfold wp_X1_write_2 at h
  obtain ⟨I, μ, hI, hs⟩ := h
  have key : ∀ (n : Nat) (y2 : Int) (N : Mem), μ y2 N < n → I y2 N → AW X 2 [(11, 129), (17, x1), (0, y2), (99, 0), (99, 0), (99, 0)] [] N := by
    intro n
    induction n with
    | zero => intro y2 N hlt; exact absurd hlt (Nat.not_lt_zero _)
    | succ n ih =>
      intro y2 N hlt hI
      exact swp_X1_write_2_b G Z hn hr x1 y2 N (fun z2 N1 => I z2 N1 ∧ μ z2 N1 < μ y2 N) (fun z2 N1 hz => ih z2 N1 (by omega) hz.1) (hs y2 N hI)
  exact key _ x2 M (Nat.lt_succ_self _) hI
def wp_X1_write (V : VV) (x1 : Int) (M : Mem) (Q : Int → Mem → Prop) : Prop :=
  wp_X1_write_2 V x1 0 M Q
theorem of_X1_write {V : VV} {x1 : Int} {M : Mem} {Q : Int → Mem → Prop} (h : wp_X1_write V x1 M Q) : R_X1_write V x1 M Q := by
  refine met_in (own := "TreeHands$Joiner") (by decide +kernel) rfl rfl (Nat.le_of_ble_eq_true rfl) ?_
  intro X G Z hn hr hv
  subst hv
  unfold wp_X1_write at h
  show AW X 0 [(11, 129), (17, x1), (99, 0), (99, 0), (99, 0), (99, 0)] [] M
  refine am_iconst (pc := 0) G dX1_write_0 (by decide) ?_
  refine am_istore_n (pc := 1) G dX1_write_1 rfl (nlx hn rfl) rfl ?_
  refine am_le (ls' := [(11, _), (17, _), (0, _), (99, 0), (99, 0), (99, 0)]) ⟨Or.inr rfl, ⟨Or.inr rfl, ⟨Or.inr rfl, ⟨Or.inl rfl, ⟨Or.inl rfl, ⟨Or.inl rfl, trivial⟩⟩⟩⟩⟩⟩ ?_
  exact swp_X1_write_2 G Z hn hr _ _ _ h
-- X2_endsAlone TreeHands$Leader.endsAlone(LTreeHands$Tree;I)Z
def rm_X2_endsAlone : Room := { frames := 1, cells := 0, slots := 0, locals := 21 }
theorem hy_X2_endsAlone : yX2_endsAlone.cls ≠ "java/lang/invoke/MethodHandle" ∧ yX2_endsAlone.cls ≠ "java/lang/invoke/VarHandle" ∧ (parseMethodDescriptor yX2_endsAlone.desc).map (fun d => d.parameters.length) = some 2 := by decide +kernel
abbrev R_X2_endsAlone (V : VV) (x0 x1 : Int) (M : Mem) (Q : Int → Mem → Prop) : Prop := RunsM V yX2_endsAlone (.code yX2_endsAlone cX2_endsAlone 3 (Option.some Jvm.ClassFile.FieldType.boolean)) rm_X2_endsAlone 1 [(17, x0), (0, x1)] M Q
def wp_X2_endsAlone (V : VV) (x0 x1 : Int) (M : Mem) (Q : Int → Mem → Prop) : Prop :=
  ((0 : Int) ≤ x1 ∧ x1 < (16 : Int)) ∧
  ∀ v1 : Int, v1 = M (x0 + 4) x1 →
  R_X7_has V x0 v1 M (fun r2 M3 =>
  (r2 = 0 →
    Q 1 M3) ∧ (¬ (r2 = 0) →
    ((0 : Int) ≤ x1 ∧ x1 < (16 : Int)) ∧
    ((0 : Int) ≤ v1 ∧ v1 < (16 : Int)) ∧
    (w32 (x1 + M3 (x0 + 3) x1) = w32 (v1 + M3 (x0 + 3) v1) →
      Q 0 M3) ∧ (¬ (w32 (x1 + M3 (x0 + 3) x1) = w32 (v1 + M3 (x0 + 3) v1)) →
      Q 1 M3)))
theorem of_X2_endsAlone {V : VV} {x0 x1 : Int} {M : Mem} {Q : Int → Mem → Prop} (h : wp_X2_endsAlone V x0 x1 M Q) : R_X2_endsAlone V x0 x1 M Q := by
  refine met_in (own := "TreeHands$Leader") (by decide +kernel) rfl rfl (Nat.le_of_ble_eq_true rfl) ?_
  intro X G Z hn hr hv
  subst hv
  unfold wp_X2_endsAlone at h
  show AW X 0 [(17, x0), (0, x1), (99, 0)] [] M
  refine am_aload_n (i := 0) (t := 14) (pc := 0) G dX2_endsAlone_0 rfl rfl rfl ?_
  refine gf_X7_4 (pc := 1) G dX2_endsAlone_1 tw_f_RX2_52 ?_
  refine am_iload_n (i := 1) (pc := 4) G dX2_endsAlone_4 rfl rfl ?_
  refine am_iald (pc := 5) G 16 dX2_endsAlone_5 (by decide) h.1 ?_
  have h := h.2
  have h := h _ rfl
  refine am_istore_n (pc := 6) G dX2_endsAlone_6 rfl (nlx hn rfl) rfl ?_
  refine am_aload_n (i := 0) (t := 14) (pc := 7) (ls := [(17, _), (0, _), (0, _)]) G dX2_endsAlone_7 rfl rfl rfl ?_
  refine am_iload_n (i := 2) (pc := 8) G dX2_endsAlone_8 rfl rfl ?_
  refine am_callV (rk := 1) (rmc := rm_X7_has) (st := []) (pc := 9) G 7 [(0, _)] rfl (by decide) rfl dX2_endsAlone_9 tw_m_RX2_55 tw_i_X7_has tw_v_X7_has tw_z_RX7 tw_c_X7_has hy_X7_has (callrm hr rfl) rfl (RunsM.mono h (fun r2 M3 h => ?_)) Z.rm
  show AW X 12 _ [(0, _)] M3
  refine am_if_eq (pc := 12) G 34 dX2_endsAlone_12 (by decide) (fun c => ?_) (fun c => ?_)
  · have h := h.1 c
    refine am_iconst (pc := 34) G dX2_endsAlone_34 (by decide) ?_
    refine am_goto (pc := 35) G 39 dX2_endsAlone_35 (by decide) ?_
    exact am_zret (pc := 39) G Z dX2_endsAlone_39 ⟨by decide, h⟩
  · have h := h.2 c
    refine am_iload_n (i := 1) (pc := 15) G dX2_endsAlone_15 rfl rfl ?_
    refine am_aload_n (i := 0) (t := 14) (pc := 16) G dX2_endsAlone_16 rfl rfl rfl ?_
    refine gf_X7_3 (pc := 17) G dX2_endsAlone_17 tw_f_RX2_59 ?_
    refine am_iload_n (i := 1) (pc := 20) G dX2_endsAlone_20 rfl rfl ?_
    refine am_iald (pc := 21) G 16 dX2_endsAlone_21 (by decide) h.1 ?_
    have h := h.2
    refine am_iadd (pc := 22) G dX2_endsAlone_22 ?_
    refine am_iload_n (i := 2) (pc := 23) G dX2_endsAlone_23 rfl rfl ?_
    refine am_aload_n (i := 0) (t := 14) (pc := 24) G dX2_endsAlone_24 rfl rfl rfl ?_
    refine gf_X7_3 (pc := 25) G dX2_endsAlone_25 tw_f_RX2_59 ?_
    refine am_iload_n (i := 2) (pc := 28) G dX2_endsAlone_28 rfl rfl ?_
    refine am_iald (pc := 29) G 16 dX2_endsAlone_29 (by decide) h.1 ?_
    have h := h.2
    refine am_iadd (pc := 30) G dX2_endsAlone_30 ?_
    refine am_icmp_eq (pc := 31) G 38 dX2_endsAlone_31 (by decide) (fun c => ?_) (fun c => ?_)
    · have h := h.1 c
      refine am_iconst (pc := 38) G dX2_endsAlone_38 (by decide) ?_
      exact am_zret (pc := 39) G Z dX2_endsAlone_39 ⟨by decide, h⟩
    · have h := h.2 c
      refine am_iconst (pc := 34) G dX2_endsAlone_34 (by decide) ?_
      refine am_goto (pc := 35) G 39 dX2_endsAlone_35 (by decide) ?_
      exact am_zret (pc := 39) G Z dX2_endsAlone_39 ⟨by decide, h⟩
-- X2_startOver TreeHands$Leader.startOver()V
def rm_X2_startOver : Room := { frames := 0, cells := 0, slots := 0, locals := 0 }
theorem hy_X2_startOver : yX2_startOver.cls ≠ "java/lang/invoke/MethodHandle" ∧ yX2_startOver.cls ≠ "java/lang/invoke/VarHandle" ∧ (parseMethodDescriptor yX2_startOver.desc).map (fun d => d.parameters.length) = some 0 := by decide +kernel
abbrev R_X2_startOver (V : VV) (M : Mem) (Q : Int → Mem → Prop) : Prop := RunsM V yX2_startOver (.code yX2_startOver cX2_startOver 1 (Option.none : Option Jvm.ClassFile.FieldType)) rm_X2_startOver 4 [(12, 12)] M Q
def wp_X2_startOver (V : VV) (M : Mem) (Q : Int → Mem → Prop) : Prop :=
  ∀ M1 : Mem, M1 = mset M 12 10 1152921504606846976 →
  Q 0 (mset M1 12 11 1152921504606846976)
theorem of_X2_startOver {V : VV} {M : Mem} {Q : Int → Mem → Prop} (h : wp_X2_startOver V M Q) : R_X2_startOver V M Q := by
  refine met_in (own := "TreeHands$Leader") (by decide +kernel) rfl rfl (Nat.le_of_ble_eq_true rfl) ?_
  intro X G Z hn hr hv
  subst hv
  unfold wp_X2_startOver at h
  show AW X 0 [(12, 12)] [] M
  refine am_aload_n (i := 0) (t := 9) (pc := 0) G dX2_startOver_0 rfl rfl rfl ?_
  refine am_ldc2 (n := 1152921504606846976) (pc := 1) G tw_k_RX2_101 dX2_startOver_1 (by decide) (by decide) ?_
  refine pf_X2_10 (pc := 4) G dX2_startOver_4 tw_f_RX2_94 ?_
  refine am_aload_n (i := 0) (t := 9) (pc := 7) G dX2_startOver_7 rfl rfl rfl ?_
  refine am_ldc2 (n := 1152921504606846976) (pc := 8) G tw_k_RX2_101 dX2_startOver_8 (by decide) (by decide) ?_
  have h := h _ rfl
  refine pf_X2_11 (pc := 11) G dX2_startOver_11 tw_f_RX2_98 ?_
  exact am_vret (pc := 14) G Z dX2_startOver_14 h
-- X2_highOf TreeHands$Leader.highOf(III)J
def rm_X2_highOf : Room := { frames := 0, cells := 0, slots := 0, locals := 0 }
theorem hy_X2_highOf : yX2_highOf.cls ≠ "java/lang/invoke/MethodHandle" ∧ yX2_highOf.cls ≠ "java/lang/invoke/VarHandle" ∧ (parseMethodDescriptor yX2_highOf.desc).map (fun d => d.parameters.length) = some 3 := by decide +kernel
abbrev R_X2_highOf (V : VV) (x0 x1 x2 : Int) (M : Mem) (Q : Int → Mem → Prop) : Prop := RunsM V yX2_highOf (.code yX2_highOf cX2_highOf 5 (Option.some Jvm.ClassFile.FieldType.long)) rm_X2_highOf 2 [(0, x0), (0, x1), (0, x2)] M Q
def wp_X2_highOf_19 (V : VV) (x0 s0 : Int) (M : Mem) (Q : Int → Mem → Prop) : Prop :=
  Q (w64 (shl64 x0 40 + s0)) M
theorem swp_X2_highOf_19 {X : XX} {Q : Int → Mem → Prop} (G : GX X cX2_highOf "TreeHands$Leader") (Z : RX X 2 Q) (hn : nLX X = 5) (hr : roomX X = rm_X2_highOf) (x0 s0 : Int) (M : Mem) (h : wp_X2_highOf_19 (vX X) x0 s0 M Q) : AW X 19 [(0, x0), (99, 0), (99, 0), (99, 0), (99, 0)] [(1, s0)] M := by
  unfold wp_X2_highOf_19 at h
  refine am_lstore_n (pc := 19) G dX2_highOf_19 rfl (nlx hn rfl) rfl ?_
  refine am_iload_n (i := 0) (pc := 20) (ls := [(0, _), (99, _), (99, _), (1, _), (98, _)]) G dX2_highOf_20 rfl rfl ?_
  refine am_i2l (pc := 21) G dX2_highOf_21 ?_
  refine am_bipush (pc := 22) G dX2_highOf_22 (by decide) (by decide) ?_
  refine am_lshl (pc := 24) G dX2_highOf_24 ?_
  refine am_lload_n (i := 3) (pc := 25) G dX2_highOf_25 rfl rfl ?_
  refine am_ladd (pc := 26) G dX2_highOf_26 ?_
  exact am_lret (pc := 27) G Z dX2_highOf_27 h
def wp_X2_highOf (V : VV) (x0 x1 x2 : Int) (M : Mem) (Q : Int → Mem → Prop) : Prop :=
  (8 ≤ x1 →
    wp_X2_highOf_19 V x0 0 M Q) ∧ (¬ (8 ≤ x1) →
    wp_X2_highOf_19 V x0 (shl64 x2 (w32 (5 * w32 (7 - x1)))) M Q)
theorem of_X2_highOf {V : VV} {x0 x1 x2 : Int} {M : Mem} {Q : Int → Mem → Prop} (h : wp_X2_highOf V x0 x1 x2 M Q) : R_X2_highOf V x0 x1 x2 M Q := by
  refine met_in (own := "TreeHands$Leader") (by decide +kernel) rfl rfl (Nat.le_of_ble_eq_true rfl) ?_
  intro X G Z hn hr hv
  subst hv
  unfold wp_X2_highOf at h
  show AW X 0 [(0, x0), (0, x1), (0, x2), (99, 0), (99, 0)] [] M
  refine am_iload_n (i := 1) (pc := 0) G dX2_highOf_0 rfl rfl ?_
  refine am_bipush (pc := 1) G dX2_highOf_1 (by decide) (by decide) ?_
  refine am_icmp_ge (pc := 3) G 18 dX2_highOf_3 (by decide) (fun c => ?_) (fun c => ?_)
  · have h := h.1 c
    refine am_lconst (x := 0) (pc := 18) G dX2_highOf_18 (by decide) (by decide) ?_
    refine am_le (ls' := [(0, _), (99, 0), (99, 0), (99, 0), (99, 0)]) ⟨Or.inr rfl, ⟨Or.inl rfl, ⟨Or.inl rfl, ⟨Or.inl rfl, ⟨Or.inl rfl, trivial⟩⟩⟩⟩⟩ ?_
    exact swp_X2_highOf_19 G Z hn hr _ _ _ h
  · have h := h.2 c
    refine am_iload_n (i := 2) (pc := 6) G dX2_highOf_6 rfl rfl ?_
    refine am_i2l (pc := 7) G dX2_highOf_7 ?_
    refine am_iconst (pc := 8) G dX2_highOf_8 (by decide) ?_
    refine am_bipush (pc := 9) G dX2_highOf_9 (by decide) (by decide) ?_
    refine am_iload_n (i := 1) (pc := 11) G dX2_highOf_11 rfl rfl ?_
    refine am_isub (pc := 12) G dX2_highOf_12 ?_
    refine am_imul (pc := 13) G dX2_highOf_13 ?_
    refine am_lshl (pc := 14) G dX2_highOf_14 ?_
    refine am_goto (pc := 15) G 19 dX2_highOf_15 (by decide) ?_
    refine am_le (ls' := [(0, _), (99, 0), (99, 0), (99, 0), (99, 0)]) ⟨Or.inr rfl, ⟨Or.inl rfl, ⟨Or.inl rfl, ⟨Or.inl rfl, ⟨Or.inl rfl, trivial⟩⟩⟩⟩⟩ ?_
    exact swp_X2_highOf_19 G Z hn hr _ _ _ h
-- X2_lowOf TreeHands$Leader.lowOf(II)J
def rm_X2_lowOf : Room := { frames := 0, cells := 0, slots := 0, locals := 0 }
theorem hy_X2_lowOf : yX2_lowOf.cls ≠ "java/lang/invoke/MethodHandle" ∧ yX2_lowOf.cls ≠ "java/lang/invoke/VarHandle" ∧ (parseMethodDescriptor yX2_lowOf.desc).map (fun d => d.parameters.length) = some 2 := by decide +kernel
abbrev R_X2_lowOf (V : VV) (x0 x1 : Int) (M : Mem) (Q : Int → Mem → Prop) : Prop := RunsM V yX2_lowOf (.code yX2_lowOf cX2_lowOf 2 (Option.some Jvm.ClassFile.FieldType.long)) rm_X2_lowOf 2 [(0, x0), (0, x1)] M Q
def wp_X2_lowOf (V : VV) (x0 x1 : Int) (M : Mem) (Q : Int → Mem → Prop) : Prop :=
  (8 ≤ x0 →
    Q (shl64 x1 (w32 (5 * w32 (15 - x0)))) M) ∧ (¬ (8 ≤ x0) →
    Q 0 M)
theorem of_X2_lowOf {V : VV} {x0 x1 : Int} {M : Mem} {Q : Int → Mem → Prop} (h : wp_X2_lowOf V x0 x1 M Q) : R_X2_lowOf V x0 x1 M Q := by
  refine met_in (own := "TreeHands$Leader") (by decide +kernel) rfl rfl (Nat.le_of_ble_eq_true rfl) ?_
  intro X G Z hn hr hv
  subst hv
  unfold wp_X2_lowOf at h
  show AW X 0 [(0, x0), (0, x1)] [] M
  refine am_iload_n (i := 0) (pc := 0) G dX2_lowOf_0 rfl rfl ?_
  refine am_bipush (pc := 1) G dX2_lowOf_1 (by decide) (by decide) ?_
  refine am_icmp_ge (pc := 3) G 10 dX2_lowOf_3 (by decide) (fun c => ?_) (fun c => ?_)
  · have h := h.1 c
    refine am_iload_n (i := 1) (pc := 10) G dX2_lowOf_10 rfl rfl ?_
    refine am_i2l (pc := 11) G dX2_lowOf_11 ?_
    refine am_iconst (pc := 12) G dX2_lowOf_12 (by decide) ?_
    refine am_bipush (pc := 13) G dX2_lowOf_13 (by decide) (by decide) ?_
    refine am_iload_n (i := 0) (pc := 15) G dX2_lowOf_15 rfl rfl ?_
    refine am_isub (pc := 16) G dX2_lowOf_16 ?_
    refine am_imul (pc := 17) G dX2_lowOf_17 ?_
    refine am_lshl (pc := 18) G dX2_lowOf_18 ?_
    exact am_lret (pc := 19) G Z dX2_lowOf_19 h
  · have h := h.2 c
    refine am_lconst (x := 0) (pc := 6) G dX2_lowOf_6 (by decide) (by decide) ?_
    refine am_goto (pc := 7) G 19 dX2_lowOf_7 (by decide) ?_
    exact am_lret (pc := 19) G Z dX2_lowOf_19 h
-- X2_offer TreeHands$Leader.offer(JJ)V
def rm_X2_offer : Room := { frames := 0, cells := 0, slots := 0, locals := 0 }
theorem hy_X2_offer : yX2_offer.cls ≠ "java/lang/invoke/MethodHandle" ∧ yX2_offer.cls ≠ "java/lang/invoke/VarHandle" ∧ (parseMethodDescriptor yX2_offer.desc).map (fun d => d.parameters.length) = some 2 := by decide +kernel
abbrev R_X2_offer (V : VV) (x1 x3 : Int) (M : Mem) (Q : Int → Mem → Prop) : Prop := RunsM V yX2_offer (.code yX2_offer cX2_offer 5 (Option.none : Option Jvm.ClassFile.FieldType)) rm_X2_offer 4 [(12, 12), (1, x1), (1, x3)] M Q
def wp_X2_offer (V : VV) (x1 x3 : Int) (M : Mem) (Q : Int → Mem → Prop) : Prop :=
  (cmp64 x1 (M 12 10) < 0 →
    ∀ M1 : Mem, M1 = mset M 12 10 x1 →
    Q 0 (mset M1 12 11 x3)) ∧ (¬ (cmp64 x1 (M 12 10) < 0) →
    (cmp64 x1 (M 12 10) = 0 →
      (0 ≤ cmp64 x3 (M 12 11) →
        Q 0 M) ∧ (¬ (0 ≤ cmp64 x3 (M 12 11)) →
        ∀ M2 : Mem, M2 = mset M 12 10 x1 →
        Q 0 (mset M2 12 11 x3))) ∧ (¬ (cmp64 x1 (M 12 10) = 0) →
      Q 0 M))
theorem of_X2_offer {V : VV} {x1 x3 : Int} {M : Mem} {Q : Int → Mem → Prop} (h : wp_X2_offer V x1 x3 M Q) : R_X2_offer V x1 x3 M Q := by
  refine met_in (own := "TreeHands$Leader") (by decide +kernel) rfl rfl (Nat.le_of_ble_eq_true rfl) ?_
  intro X G Z hn hr hv
  subst hv
  unfold wp_X2_offer at h
  show AW X 0 [(12, 12), (1, x1), (98, 0), (1, x3), (98, 0)] [] M
  refine am_lload_n (i := 1) (pc := 0) G dX2_offer_0 rfl rfl ?_
  refine am_aload_n (i := 0) (t := 9) (pc := 1) G dX2_offer_1 rfl rfl rfl ?_
  refine gf_X2_10 (pc := 2) G dX2_offer_2 tw_f_RX2_94 ?_
  refine am_lcmp (pc := 5) G dX2_offer_5 ?_
  refine am_if_lt (pc := 6) G 27 dX2_offer_6 (by decide) (fun c => ?_) (fun c => ?_)
  · have h := h.1 c
    refine am_aload_n (i := 0) (t := 9) (pc := 27) G dX2_offer_27 rfl rfl rfl ?_
    refine am_lload_n (i := 1) (pc := 28) G dX2_offer_28 rfl rfl ?_
    refine pf_X2_10 (pc := 29) G dX2_offer_29 tw_f_RX2_94 ?_
    refine am_aload_n (i := 0) (t := 9) (pc := 32) G dX2_offer_32 rfl rfl rfl ?_
    refine am_lload_n (i := 3) (pc := 33) G dX2_offer_33 rfl rfl ?_
    have h := h _ rfl
    refine pf_X2_11 (pc := 34) G dX2_offer_34 tw_f_RX2_98 ?_
    exact am_vret (pc := 37) G Z dX2_offer_37 h
  · have h := h.2 c
    refine am_lload_n (i := 1) (pc := 9) G dX2_offer_9 rfl rfl ?_
    refine am_aload_n (i := 0) (t := 9) (pc := 10) G dX2_offer_10 rfl rfl rfl ?_
    refine gf_X2_10 (pc := 11) G dX2_offer_11 tw_f_RX2_94 ?_
    refine am_lcmp (pc := 14) G dX2_offer_14 ?_
    refine am_if_ne (pc := 15) G 37 dX2_offer_15 (by decide) (fun c => ?_) (fun c => ?_)
    · have h := h.2 c
      exact am_vret (pc := 37) G Z dX2_offer_37 h
    · have h := h.1 c
      refine am_lload_n (i := 3) (pc := 18) G dX2_offer_18 rfl rfl ?_
      refine am_aload_n (i := 0) (t := 9) (pc := 19) G dX2_offer_19 rfl rfl rfl ?_
      refine gf_X2_11 (pc := 20) G dX2_offer_20 tw_f_RX2_98 ?_
      refine am_lcmp (pc := 23) G dX2_offer_23 ?_
      refine am_if_ge (pc := 24) G 37 dX2_offer_24 (by decide) (fun c => ?_) (fun c => ?_)
      · have h := h.1 c
        exact am_vret (pc := 37) G Z dX2_offer_37 h
      · have h := h.2 c
        refine am_aload_n (i := 0) (t := 9) (pc := 27) G dX2_offer_27 rfl rfl rfl ?_
        refine am_lload_n (i := 1) (pc := 28) G dX2_offer_28 rfl rfl ?_
        refine pf_X2_10 (pc := 29) G dX2_offer_29 tw_f_RX2_94 ?_
        refine am_aload_n (i := 0) (t := 9) (pc := 32) G dX2_offer_32 rfl rfl rfl ?_
        refine am_lload_n (i := 3) (pc := 33) G dX2_offer_33 rfl rfl ?_
        have h := h _ rfl
        refine pf_X2_11 (pc := 34) G dX2_offer_34 tw_f_RX2_98 ?_
        exact am_vret (pc := 37) G Z dX2_offer_37 h
-- X2_offerDrop TreeHands$Leader.offerDrop(II)V
def rm_X2_offerDrop : Room := { frames := 1, cells := 0, slots := 0, locals := 24 }
theorem hy_X2_offerDrop : yX2_offerDrop.cls ≠ "java/lang/invoke/MethodHandle" ∧ yX2_offerDrop.cls ≠ "java/lang/invoke/VarHandle" ∧ (parseMethodDescriptor yX2_offerDrop.desc).map (fun d => d.parameters.length) = some 2 := by decide +kernel
abbrev R_X2_offerDrop (V : VV) (x1 x2 : Int) (M : Mem) (Q : Int → Mem → Prop) : Prop := RunsM V yX2_offerDrop (.code yX2_offerDrop cX2_offerDrop 4 (Option.none : Option Jvm.ClassFile.FieldType)) rm_X2_offerDrop 4 [(12, 12), (0, x1), (0, x2)] M Q
def wp_X2_offerDrop (V : VV) (x1 x2 : Int) (M : Mem) (Q : Int → Mem → Prop) : Prop :=
  ∀ v1 : Int, v1 = w32 (w32 (w32 (x1 + 1) * 17) + x2) →
  ((0 : Int) ≤ v1 ∧ v1 < (289 : Int)) ∧
  ((0 : Int) ≤ 0 ∧ 0 < (3 : Int)) ∧
  R_X2_highOf V (M 13 0) x1 16 M (fun r2 M3 =>
  ((0 : Int) ≤ v1 ∧ v1 < (289 : Int)) ∧
  R_X2_lowOf V x1 16 M3 (fun r4 M5 =>
  R_X2_offer V (w64 (M 18 v1 + r2)) (w64 (M3 19 v1 + r4)) M5 (fun _ M7 =>
  Q 0 M7)))
theorem of_X2_offerDrop {V : VV} {x1 x2 : Int} {M : Mem} {Q : Int → Mem → Prop} (h : wp_X2_offerDrop V x1 x2 M Q) : R_X2_offerDrop V x1 x2 M Q := by
  refine met_in (own := "TreeHands$Leader") (by decide +kernel) rfl rfl (Nat.le_of_ble_eq_true rfl) ?_
  intro X G Z hn hr hv
  subst hv
  unfold wp_X2_offerDrop at h
  show AW X 0 [(12, 12), (0, x1), (0, x2), (99, 0)] [] M
  refine am_iload_n (i := 1) (pc := 0) G dX2_offerDrop_0 rfl rfl ?_
  refine am_iconst (pc := 1) G dX2_offerDrop_1 (by decide) ?_
  refine am_iadd (pc := 2) G dX2_offerDrop_2 ?_
  refine am_bipush (pc := 3) G dX2_offerDrop_3 (by decide) (by decide) ?_
  refine am_imul (pc := 5) G dX2_offerDrop_5 ?_
  refine am_iload_n (i := 2) (pc := 6) G dX2_offerDrop_6 rfl rfl ?_
  refine am_iadd (pc := 7) G dX2_offerDrop_7 ?_
  have h := h _ rfl
  refine am_istore_n (pc := 8) G dX2_offerDrop_8 rfl (nlx hn rfl) rfl ?_
  refine am_aload_n (i := 0) (t := 9) (pc := 9) (ls := [(12, _), (0, _), (0, _), (0, _)]) G dX2_offerDrop_9 rfl rfl rfl ?_
  refine am_aload_n (i := 0) (t := 9) (pc := 10) G dX2_offerDrop_10 rfl rfl rfl ?_
  refine gf_X2_8 (pc := 11) G dX2_offerDrop_11 tw_f_RX2_28 ?_
  refine am_iload_n (i := 3) (pc := 14) G dX2_offerDrop_14 rfl rfl ?_
  refine am_lald (pc := 15) G 289 dX2_offerDrop_15 (by decide) h.1 ?_
  have h := h.2
  refine am_aload_n (i := 0) (t := 9) (pc := 16) G dX2_offerDrop_16 rfl rfl rfl ?_
  refine gf_X2_0 (pc := 17) G dX2_offerDrop_17 tw_f_RX2_9 ?_
  refine am_iconst (pc := 20) G dX2_offerDrop_20 (by decide) ?_
  refine am_iald (pc := 21) G 3 dX2_offerDrop_21 (by decide) h.1 ?_
  have h := h.2
  refine am_iload_n (i := 1) (pc := 22) G dX2_offerDrop_22 rfl rfl ?_
  refine am_bipush (pc := 23) G dX2_offerDrop_23 (by decide) (by decide) ?_
  refine am_callS (rk := 2) (rmc := rm_X2_highOf) (st := [(1, _), (12, _)]) (pc := 25) G [(0, _), (0, _), (0, _)] dX2_offerDrop_25 tw_m_RX2_82 tw_s_X2_highOf tw_z_RX2 tw_c_X2_highOf hy_X2_highOf (callrm hr rfl) rfl (RunsM.mono h (fun r2 M3 h => ?_)) Z.rm
  show AW X 28 _ [(1, _), (1, _), (12, _)] M3
  refine am_ladd (pc := 28) G dX2_offerDrop_28 ?_
  refine am_aload_n (i := 0) (t := 9) (pc := 29) G dX2_offerDrop_29 rfl rfl rfl ?_
  refine gf_X2_9 (pc := 30) G dX2_offerDrop_30 tw_f_RX2_31 ?_
  refine am_iload_n (i := 3) (pc := 33) G dX2_offerDrop_33 rfl rfl ?_
  refine am_lald (pc := 34) G 289 dX2_offerDrop_34 (by decide) h.1 ?_
  have h := h.2
  refine am_iload_n (i := 1) (pc := 35) G dX2_offerDrop_35 rfl rfl ?_
  refine am_bipush (pc := 36) G dX2_offerDrop_36 (by decide) (by decide) ?_
  refine am_callS (rk := 2) (rmc := rm_X2_lowOf) (st := [(1, _), (1, _), (12, _)]) (pc := 38) G [(0, _), (0, _)] dX2_offerDrop_38 tw_m_RX2_86 tw_s_X2_lowOf tw_z_RX2 tw_c_X2_lowOf hy_X2_lowOf (callrm hr rfl) rfl (RunsM.mono h (fun r4 M5 h => ?_)) Z.rm
  show AW X 41 _ [(1, _), (1, _), (1, _), (12, _)] M5
  refine am_ladd (pc := 41) G dX2_offerDrop_41 ?_
  refine am_callV (rk := 4) (rmc := rm_X2_offer) (st := []) (pc := 42) G 2 [(1, _), (1, _)] rfl (by decide) rfl dX2_offerDrop_42 tw_m_RX2_90 tw_i_X2_offer tw_v_X2_offer tw_z_RX2 tw_c_X2_offer hy_X2_offer (callrm hr rfl) rfl (RunsM.mono h (fun r6 M7 h => ?_)) Z.rm
  show AW X 45 _ [] M7
  exact am_vret (pc := 45) G Z dX2_offerDrop_45 h
-- X2_keepRest TreeHands$Leader.keepRest(II)V
def rm_X2_keepRest : Room := { frames := 0, cells := 0, slots := 0, locals := 0 }
theorem hy_X2_keepRest : yX2_keepRest.cls ≠ "java/lang/invoke/MethodHandle" ∧ yX2_keepRest.cls ≠ "java/lang/invoke/VarHandle" ∧ (parseMethodDescriptor yX2_keepRest.desc).map (fun d => d.parameters.length) = some 2 := by decide +kernel
abbrev R_X2_keepRest (V : VV) (x1 x2 : Int) (M : Mem) (Q : Int → Mem → Prop) : Prop := RunsM V yX2_keepRest (.code yX2_keepRest cX2_keepRest 3 (Option.none : Option Jvm.ClassFile.FieldType)) rm_X2_keepRest 4 [(12, 12), (0, x1), (0, x2)] M Q
def wp_X2_keepRest (V : VV) (x1 x2 : Int) (M : Mem) (Q : Int → Mem → Prop) : Prop :=
  ((0 : Int) ≤ w32 (w32 (x1 * 17) + x2) ∧ w32 (w32 (x1 * 17) + x2) < (289 : Int)) ∧
  ∀ M1 : Mem, M1 = mset M 18 (w32 (w32 (x1 * 17) + x2)) (M 12 10) →
  ((0 : Int) ≤ w32 (w32 (x1 * 17) + x2) ∧ w32 (w32 (x1 * 17) + x2) < (289 : Int)) ∧
  Q 0 (mset M1 19 (w32 (w32 (x1 * 17) + x2)) (M1 12 11))
theorem of_X2_keepRest {V : VV} {x1 x2 : Int} {M : Mem} {Q : Int → Mem → Prop} (h : wp_X2_keepRest V x1 x2 M Q) : R_X2_keepRest V x1 x2 M Q := by
  refine met_in (own := "TreeHands$Leader") (by decide +kernel) rfl rfl (Nat.le_of_ble_eq_true rfl) ?_
  intro X G Z hn hr hv
  subst hv
  unfold wp_X2_keepRest at h
  show AW X 0 [(12, 12), (0, x1), (0, x2)] [] M
  refine am_aload_n (i := 0) (t := 9) (pc := 0) G dX2_keepRest_0 rfl rfl rfl ?_
  refine gf_X2_8 (pc := 1) G dX2_keepRest_1 tw_f_RX2_28 ?_
  refine am_iload_n (i := 1) (pc := 4) G dX2_keepRest_4 rfl rfl ?_
  refine am_bipush (pc := 5) G dX2_keepRest_5 (by decide) (by decide) ?_
  refine am_imul (pc := 7) G dX2_keepRest_7 ?_
  refine am_iload_n (i := 2) (pc := 8) G dX2_keepRest_8 rfl rfl ?_
  refine am_iadd (pc := 9) G dX2_keepRest_9 ?_
  refine am_aload_n (i := 0) (t := 9) (pc := 10) G dX2_keepRest_10 rfl rfl rfl ?_
  refine gf_X2_10 (pc := 11) G dX2_keepRest_11 tw_f_RX2_94 ?_
  refine am_last (pc := 14) G 289 dX2_keepRest_14 (by decide) h.1 ?_
  have h := h.2
  refine am_aload_n (i := 0) (t := 9) (pc := 15) G dX2_keepRest_15 rfl rfl rfl ?_
  refine gf_X2_9 (pc := 16) G dX2_keepRest_16 tw_f_RX2_31 ?_
  refine am_iload_n (i := 1) (pc := 19) G dX2_keepRest_19 rfl rfl ?_
  refine am_bipush (pc := 20) G dX2_keepRest_20 (by decide) (by decide) ?_
  refine am_imul (pc := 22) G dX2_keepRest_22 ?_
  refine am_iload_n (i := 2) (pc := 23) G dX2_keepRest_23 rfl rfl ?_
  refine am_iadd (pc := 24) G dX2_keepRest_24 ?_
  refine am_aload_n (i := 0) (t := 9) (pc := 25) G dX2_keepRest_25 rfl rfl rfl ?_
  have h := h _ rfl
  refine gf_X2_11 (pc := 26) G dX2_keepRest_26 tw_f_RX2_98 ?_
  refine am_last (pc := 29) G 289 dX2_keepRest_29 (by decide) h.1 ?_
  have h := h.2
  exact am_vret (pc := 30) G Z dX2_keepRest_30 h
-- X2_offerAdd TreeHands$Leader.offerAdd(II)V
def rm_X2_offerAdd : Room := { frames := 1, cells := 0, slots := 0, locals := 24 }
theorem hy_X2_offerAdd : yX2_offerAdd.cls ≠ "java/lang/invoke/MethodHandle" ∧ yX2_offerAdd.cls ≠ "java/lang/invoke/VarHandle" ∧ (parseMethodDescriptor yX2_offerAdd.desc).map (fun d => d.parameters.length) = some 2 := by decide +kernel
abbrev R_X2_offerAdd (V : VV) (x1 x2 : Int) (M : Mem) (Q : Int → Mem → Prop) : Prop := RunsM V yX2_offerAdd (.code yX2_offerAdd cX2_offerAdd 4 (Option.none : Option Jvm.ClassFile.FieldType)) rm_X2_offerAdd 4 [(12, 12), (0, x1), (0, x2)] M Q
def wp_X2_offerAdd (V : VV) (x1 x2 : Int) (M : Mem) (Q : Int → Mem → Prop) : Prop :=
  ∀ v1 : Int, v1 = w32 (w32 (w32 (x1 * 17) + x2) + 1) →
  ((0 : Int) ≤ v1 ∧ v1 < (289 : Int)) ∧
  ((0 : Int) ≤ 1 ∧ 1 < (3 : Int)) ∧
  ((0 : Int) ≤ v1 ∧ v1 < (289 : Int)) ∧
  R_X2_offer V (w64 (M 18 v1 + shl64 (M 13 1) 40)) (M 19 v1) M (fun _ M3 =>
  Q 0 M3)
theorem of_X2_offerAdd {V : VV} {x1 x2 : Int} {M : Mem} {Q : Int → Mem → Prop} (h : wp_X2_offerAdd V x1 x2 M Q) : R_X2_offerAdd V x1 x2 M Q := by
  refine met_in (own := "TreeHands$Leader") (by decide +kernel) rfl rfl (Nat.le_of_ble_eq_true rfl) ?_
  intro X G Z hn hr hv
  subst hv
  unfold wp_X2_offerAdd at h
  show AW X 0 [(12, 12), (0, x1), (0, x2), (99, 0)] [] M
  refine am_iload_n (i := 1) (pc := 0) G dX2_offerAdd_0 rfl rfl ?_
  refine am_bipush (pc := 1) G dX2_offerAdd_1 (by decide) (by decide) ?_
  refine am_imul (pc := 3) G dX2_offerAdd_3 ?_
  refine am_iload_n (i := 2) (pc := 4) G dX2_offerAdd_4 rfl rfl ?_
  refine am_iadd (pc := 5) G dX2_offerAdd_5 ?_
  refine am_iconst (pc := 6) G dX2_offerAdd_6 (by decide) ?_
  refine am_iadd (pc := 7) G dX2_offerAdd_7 ?_
  have h := h _ rfl
  refine am_istore_n (pc := 8) G dX2_offerAdd_8 rfl (nlx hn rfl) rfl ?_
  refine am_aload_n (i := 0) (t := 9) (pc := 9) (ls := [(12, _), (0, _), (0, _), (0, _)]) G dX2_offerAdd_9 rfl rfl rfl ?_
  refine am_aload_n (i := 0) (t := 9) (pc := 10) G dX2_offerAdd_10 rfl rfl rfl ?_
  refine gf_X2_8 (pc := 11) G dX2_offerAdd_11 tw_f_RX2_28 ?_
  refine am_iload_n (i := 3) (pc := 14) G dX2_offerAdd_14 rfl rfl ?_
  refine am_lald (pc := 15) G 289 dX2_offerAdd_15 (by decide) h.1 ?_
  have h := h.2
  refine am_aload_n (i := 0) (t := 9) (pc := 16) G dX2_offerAdd_16 rfl rfl rfl ?_
  refine gf_X2_0 (pc := 17) G dX2_offerAdd_17 tw_f_RX2_9 ?_
  refine am_iconst (pc := 20) G dX2_offerAdd_20 (by decide) ?_
  refine am_iald (pc := 21) G 3 dX2_offerAdd_21 (by decide) h.1 ?_
  have h := h.2
  refine am_i2l (pc := 22) G dX2_offerAdd_22 ?_
  refine am_bipush (pc := 23) G dX2_offerAdd_23 (by decide) (by decide) ?_
  refine am_lshl (pc := 25) G dX2_offerAdd_25 ?_
  refine am_ladd (pc := 26) G dX2_offerAdd_26 ?_
  refine am_aload_n (i := 0) (t := 9) (pc := 27) G dX2_offerAdd_27 rfl rfl rfl ?_
  refine gf_X2_9 (pc := 28) G dX2_offerAdd_28 tw_f_RX2_31 ?_
  refine am_iload_n (i := 3) (pc := 31) G dX2_offerAdd_31 rfl rfl ?_
  refine am_lald (pc := 32) G 289 dX2_offerAdd_32 (by decide) h.1 ?_
  have h := h.2
  refine am_callV (rk := 4) (rmc := rm_X2_offer) (st := []) (pc := 33) G 2 [(1, _), (1, _)] rfl (by decide) rfl dX2_offerAdd_33 tw_m_RX2_90 tw_i_X2_offer tw_v_X2_offer tw_z_RX2 tw_c_X2_offer hy_X2_offer (callrm hr rfl) rfl (RunsM.mono h (fun r2 M3 h => ?_)) Z.rm
  show AW X 36 _ [] M3
  exact am_vret (pc := 36) G Z dX2_offerAdd_36 h
-- X2_weighPair TreeHands$Leader.weighPair(LTreeHands$Tree;IILTreeHands$Tree;II)V
def rm_X2_weighPair : Room := { frames := 2, cells := 0, slots := 0, locals := 47 }
theorem hy_X2_weighPair : yX2_weighPair.cls ≠ "java/lang/invoke/MethodHandle" ∧ yX2_weighPair.cls ≠ "java/lang/invoke/VarHandle" ∧ (parseMethodDescriptor yX2_weighPair.desc).map (fun d => d.parameters.length) = some 6 := by decide +kernel
abbrev R_X2_weighPair (V : VV) (x1 x2 x3 x4 x5 x6 : Int) (M : Mem) (Q : Int → Mem → Prop) : Prop := RunsM V yX2_weighPair (.code yX2_weighPair cX2_weighPair 11 (Option.none : Option Jvm.ClassFile.FieldType)) rm_X2_weighPair 4 [(12, 12), (17, x1), (0, x2), (0, x3), (17, x4), (0, x5), (0, x6)] M Q
def wp_X2_weighPair_218 (V : VV) (x2 x5 : Int) (M : Mem) (Q : Int → Mem → Prop) : Prop :=
  R_X2_keepRest V x2 x5 M (fun _ M14 =>
  Q 0 M14)
theorem swp_X2_weighPair_218 {X : XX} {Q : Int → Mem → Prop} (G : GX X cX2_weighPair "TreeHands$Leader") (Z : RX X 4 Q) (hn : nLX X = 11) (hr : roomX X = rm_X2_weighPair) (x2 x5 : Int) (M : Mem) (h : wp_X2_weighPair_218 (vX X) x2 x5 M Q) : AW X 218 [(12, 12), (99, 0), (0, x2), (99, 0), (99, 0), (0, x5), (99, 0), (99, 0), (99, 0), (99, 0), (99, 0)] [] M := by
  unfold wp_X2_weighPair_218 at h
  refine am_aload_n (i := 0) (t := 9) (pc := 218) G dX2_weighPair_218 rfl rfl rfl ?_
  refine am_iload_n (i := 2) (pc := 219) G dX2_weighPair_219 rfl rfl ?_
  refine am_iload (pc := 220) G dX2_weighPair_220 rfl ?_
  refine am_callV (rk := 4) (rmc := rm_X2_keepRest) (st := []) (pc := 222) G 2 [(0, _), (0, _)] rfl (by decide) rfl dX2_weighPair_222 tw_m_RX2_69 tw_i_X2_keepRest tw_v_X2_keepRest tw_z_RX2 tw_c_X2_keepRest hy_X2_keepRest (callrm hr rfl) rfl (RunsM.mono h (fun r13 M14 h => ?_)) Z.rm
  show AW X 225 _ [] M14
  exact am_vret (pc := 225) G Z dX2_weighPair_225 h
def wp_X2_weighPair_165 (V : VV) (x2 x5 x7 x8 : Int) (M : Mem) (Q : Int → Mem → Prop) : Prop :=
  ∀ v9 : Int, v9 = w32 (w32 (x7 * 17) + x8) →
  ∀ v10 : Int, v10 = w32 (w32 (x2 * 17) + x5) →
  ((0 : Int) ≤ v9 ∧ v9 < (289 : Int)) ∧
  ((0 : Int) ≤ v10 ∧ v10 < (289 : Int)) ∧
  ((0 : Int) ≤ v9 ∧ v9 < (289 : Int)) ∧
  ((0 : Int) ≤ v10 ∧ v10 < (289 : Int)) ∧
  R_X2_offer V (w64 (M 18 v9 + M 16 v10)) (w64 (M 19 v9 + M 17 v10)) M (fun _ M12 =>
  wp_X2_weighPair_218 V x2 x5 M12 Q)
theorem swp_X2_weighPair_165 {X : XX} {Q : Int → Mem → Prop} (G : GX X cX2_weighPair "TreeHands$Leader") (Z : RX X 4 Q) (hn : nLX X = 11) (hr : roomX X = rm_X2_weighPair) (x2 x5 x7 x8 : Int) (M : Mem) (h : wp_X2_weighPair_165 (vX X) x2 x5 x7 x8 M Q) : AW X 165 [(12, 12), (99, 0), (0, x2), (99, 0), (99, 0), (0, x5), (99, 0), (0, x7), (0, x8), (99, 0), (99, 0)] [] M := by
  unfold wp_X2_weighPair_165 at h
  refine am_iload (pc := 165) G dX2_weighPair_165 rfl ?_
  refine am_bipush (pc := 167) G dX2_weighPair_167 (by decide) (by decide) ?_
  refine am_imul (pc := 169) G dX2_weighPair_169 ?_
  refine am_iload (pc := 170) G dX2_weighPair_170 rfl ?_
  refine am_iadd (pc := 172) G dX2_weighPair_172 ?_
  have h := h _ rfl
  refine am_istore (pc := 173) G dX2_weighPair_173 (nlx hn rfl) rfl ?_
  refine am_iload_n (i := 2) (pc := 175) (ls := [(12, _), (99, _), (0, _), (99, _), (99, _), (0, _), (99, _), (0, _), (0, _), (0, _), (99, _)]) G dX2_weighPair_175 rfl rfl ?_
  refine am_bipush (pc := 176) G dX2_weighPair_176 (by decide) (by decide) ?_
  refine am_imul (pc := 178) G dX2_weighPair_178 ?_
  refine am_iload (pc := 179) G dX2_weighPair_179 rfl ?_
  refine am_iadd (pc := 181) G dX2_weighPair_181 ?_
  have h := h _ rfl
  refine am_istore (pc := 182) G dX2_weighPair_182 (nlx hn rfl) rfl ?_
  refine am_aload_n (i := 0) (t := 9) (pc := 184) (ls := [(12, _), (99, _), (0, _), (99, _), (99, _), (0, _), (99, _), (0, _), (0, _), (0, _), (0, _)]) G dX2_weighPair_184 rfl rfl rfl ?_
  refine am_aload_n (i := 0) (t := 9) (pc := 185) G dX2_weighPair_185 rfl rfl rfl ?_
  refine gf_X2_8 (pc := 186) G dX2_weighPair_186 tw_f_RX2_28 ?_
  refine am_iload (pc := 189) G dX2_weighPair_189 rfl ?_
  refine am_lald (pc := 191) G 289 dX2_weighPair_191 (by decide) h.1 ?_
  have h := h.2
  refine am_aload_n (i := 0) (t := 9) (pc := 192) G dX2_weighPair_192 rfl rfl rfl ?_
  refine gf_X2_6 (pc := 193) G dX2_weighPair_193 tw_f_RX2_21 ?_
  refine am_iload (pc := 196) G dX2_weighPair_196 rfl ?_
  refine am_lald (pc := 198) G 289 dX2_weighPair_198 (by decide) h.1 ?_
  have h := h.2
  refine am_ladd (pc := 199) G dX2_weighPair_199 ?_
  refine am_aload_n (i := 0) (t := 9) (pc := 200) G dX2_weighPair_200 rfl rfl rfl ?_
  refine gf_X2_9 (pc := 201) G dX2_weighPair_201 tw_f_RX2_31 ?_
  refine am_iload (pc := 204) G dX2_weighPair_204 rfl ?_
  refine am_lald (pc := 206) G 289 dX2_weighPair_206 (by decide) h.1 ?_
  have h := h.2
  refine am_aload_n (i := 0) (t := 9) (pc := 207) G dX2_weighPair_207 rfl rfl rfl ?_
  refine gf_X2_7 (pc := 208) G dX2_weighPair_208 tw_f_RX2_25 ?_
  refine am_iload (pc := 211) G dX2_weighPair_211 rfl ?_
  refine am_lald (pc := 213) G 289 dX2_weighPair_213 (by decide) h.1 ?_
  have h := h.2
  refine am_ladd (pc := 214) G dX2_weighPair_214 ?_
  refine am_callV (rk := 4) (rmc := rm_X2_offer) (st := []) (pc := 215) G 2 [(1, _), (1, _)] rfl (by decide) rfl dX2_weighPair_215 tw_m_RX2_90 tw_i_X2_offer tw_v_X2_offer tw_z_RX2 tw_c_X2_offer hy_X2_offer (callrm hr rfl) rfl (RunsM.mono h (fun r11 M12 h => ?_)) Z.rm
  show AW X 218 _ [] M12
  refine am_le (ls' := [(12, _), (99, 0), (0, _), (99, 0), (99, 0), (0, _), (99, 0), (99, 0), (99, 0), (99, 0), (99, 0)]) ⟨Or.inr rfl, ⟨Or.inl rfl, ⟨Or.inr rfl, ⟨Or.inl rfl, ⟨Or.inl rfl, ⟨Or.inr rfl, ⟨Or.inl rfl, ⟨Or.inl rfl, ⟨Or.inl rfl, ⟨Or.inl rfl, ⟨Or.inl rfl, trivial⟩⟩⟩⟩⟩⟩⟩⟩⟩⟩⟩ ?_
  exact swp_X2_weighPair_218 G Z hn hr _ _ _ h
def wp_X2_weighPair_94 (V : VV) (x2 x5 x9 s0 : Int) (M : Mem) (Q : Int → Mem → Prop) : Prop :=
  ((0 : Int) ≤ x9 ∧ x9 < (289 : Int)) ∧
  R_X2_highOf V s0 x2 x5 M (fun r16 M17 =>
  ((0 : Int) ≤ x9 ∧ x9 < (289 : Int)) ∧
  R_X2_lowOf V x2 x5 M17 (fun r18 M19 =>
  R_X2_offer V (w64 (M 18 x9 + r16)) (w64 (M17 19 x9 + r18)) M19 (fun _ M21 =>
  ((0 : Int) ≤ w32 (w32 (x2 * 17) + x5) ∧ w32 (w32 (x2 * 17) + x5) < (289 : Int)) ∧
  ∀ M22 : Mem, M22 = mset M21 16 (w32 (w32 (x2 * 17) + x5)) (M21 12 10) →
  ((0 : Int) ≤ w32 (w32 (x2 * 17) + x5) ∧ w32 (w32 (x2 * 17) + x5) < (289 : Int)) ∧
  wp_X2_weighPair_218 V x2 x5 (mset M22 17 (w32 (w32 (x2 * 17) + x5)) (M22 12 11)) Q)))
theorem swp_X2_weighPair_94 {X : XX} {Q : Int → Mem → Prop} (G : GX X cX2_weighPair "TreeHands$Leader") (Z : RX X 4 Q) (hn : nLX X = 11) (hr : roomX X = rm_X2_weighPair) (x2 x5 x9 s0 : Int) (M : Mem) (h : wp_X2_weighPair_94 (vX X) x2 x5 x9 s0 M Q) : AW X 94 [(12, 12), (99, 0), (0, x2), (99, 0), (99, 0), (0, x5), (99, 0), (99, 0), (99, 0), (0, x9), (99, 0)] [(0, s0)] M := by
  unfold wp_X2_weighPair_94 at h
  refine am_istore (pc := 94) G dX2_weighPair_94 (nlx hn rfl) rfl ?_
  refine am_aload_n (i := 0) (t := 9) (pc := 96) (ls := [(12, _), (99, _), (0, _), (99, _), (99, _), (0, _), (99, _), (99, _), (99, _), (0, _), (0, _)]) G dX2_weighPair_96 rfl rfl rfl ?_
  refine am_aload_n (i := 0) (t := 9) (pc := 97) G dX2_weighPair_97 rfl rfl rfl ?_
  refine gf_X2_8 (pc := 98) G dX2_weighPair_98 tw_f_RX2_28 ?_
  refine am_iload (pc := 101) G dX2_weighPair_101 rfl ?_
  refine am_lald (pc := 103) G 289 dX2_weighPair_103 (by decide) h.1 ?_
  have h := h.2
  refine am_iload (pc := 104) G dX2_weighPair_104 rfl ?_
  refine am_iload_n (i := 2) (pc := 106) G dX2_weighPair_106 rfl rfl ?_
  refine am_iload (pc := 107) G dX2_weighPair_107 rfl ?_
  refine am_callS (rk := 2) (rmc := rm_X2_highOf) (st := [(1, _), (12, _)]) (pc := 109) G [(0, _), (0, _), (0, _)] dX2_weighPair_109 tw_m_RX2_82 tw_s_X2_highOf tw_z_RX2 tw_c_X2_highOf hy_X2_highOf (callrm hr rfl) rfl (RunsM.mono h (fun r16 M17 h => ?_)) Z.rm
  show AW X 112 _ [(1, _), (1, _), (12, _)] M17
  refine am_ladd (pc := 112) G dX2_weighPair_112 ?_
  refine am_aload_n (i := 0) (t := 9) (pc := 113) G dX2_weighPair_113 rfl rfl rfl ?_
  refine gf_X2_9 (pc := 114) G dX2_weighPair_114 tw_f_RX2_31 ?_
  refine am_iload (pc := 117) G dX2_weighPair_117 rfl ?_
  refine am_lald (pc := 119) G 289 dX2_weighPair_119 (by decide) h.1 ?_
  have h := h.2
  refine am_iload_n (i := 2) (pc := 120) G dX2_weighPair_120 rfl rfl ?_
  refine am_iload (pc := 121) G dX2_weighPair_121 rfl ?_
  refine am_callS (rk := 2) (rmc := rm_X2_lowOf) (st := [(1, _), (1, _), (12, _)]) (pc := 123) G [(0, _), (0, _)] dX2_weighPair_123 tw_m_RX2_86 tw_s_X2_lowOf tw_z_RX2 tw_c_X2_lowOf hy_X2_lowOf (callrm hr rfl) rfl (RunsM.mono h (fun r18 M19 h => ?_)) Z.rm
  show AW X 126 _ [(1, _), (1, _), (1, _), (12, _)] M19
  refine am_ladd (pc := 126) G dX2_weighPair_126 ?_
  refine am_callV (rk := 4) (rmc := rm_X2_offer) (st := []) (pc := 127) G 2 [(1, _), (1, _)] rfl (by decide) rfl dX2_weighPair_127 tw_m_RX2_90 tw_i_X2_offer tw_v_X2_offer tw_z_RX2 tw_c_X2_offer hy_X2_offer (callrm hr rfl) rfl (RunsM.mono h (fun r20 M21 h => ?_)) Z.rm
  show AW X 130 _ [] M21
  refine am_aload_n (i := 0) (t := 9) (pc := 130) G dX2_weighPair_130 rfl rfl rfl ?_
  refine gf_X2_6 (pc := 131) G dX2_weighPair_131 tw_f_RX2_21 ?_
  refine am_iload_n (i := 2) (pc := 134) G dX2_weighPair_134 rfl rfl ?_
  refine am_bipush (pc := 135) G dX2_weighPair_135 (by decide) (by decide) ?_
  refine am_imul (pc := 137) G dX2_weighPair_137 ?_
  refine am_iload (pc := 138) G dX2_weighPair_138 rfl ?_
  refine am_iadd (pc := 140) G dX2_weighPair_140 ?_
  refine am_aload_n (i := 0) (t := 9) (pc := 141) G dX2_weighPair_141 rfl rfl rfl ?_
  refine gf_X2_10 (pc := 142) G dX2_weighPair_142 tw_f_RX2_94 ?_
  refine am_last (pc := 145) G 289 dX2_weighPair_145 (by decide) h.1 ?_
  have h := h.2
  refine am_aload_n (i := 0) (t := 9) (pc := 146) G dX2_weighPair_146 rfl rfl rfl ?_
  refine gf_X2_7 (pc := 147) G dX2_weighPair_147 tw_f_RX2_25 ?_
  refine am_iload_n (i := 2) (pc := 150) G dX2_weighPair_150 rfl rfl ?_
  refine am_bipush (pc := 151) G dX2_weighPair_151 (by decide) (by decide) ?_
  refine am_imul (pc := 153) G dX2_weighPair_153 ?_
  refine am_iload (pc := 154) G dX2_weighPair_154 rfl ?_
  refine am_iadd (pc := 156) G dX2_weighPair_156 ?_
  refine am_aload_n (i := 0) (t := 9) (pc := 157) G dX2_weighPair_157 rfl rfl rfl ?_
  have h := h _ rfl
  refine gf_X2_11 (pc := 158) G dX2_weighPair_158 tw_f_RX2_98 ?_
  refine am_last (pc := 161) G 289 dX2_weighPair_161 (by decide) h.1 ?_
  have h := h.2
  refine am_goto (pc := 162) G 218 dX2_weighPair_162 (by decide) ?_
  refine am_le (ls' := [(12, _), (99, 0), (0, _), (99, 0), (99, 0), (0, _), (99, 0), (99, 0), (99, 0), (99, 0), (99, 0)]) ⟨Or.inr rfl, ⟨Or.inl rfl, ⟨Or.inr rfl, ⟨Or.inl rfl, ⟨Or.inl rfl, ⟨Or.inr rfl, ⟨Or.inl rfl, ⟨Or.inl rfl, ⟨Or.inl rfl, ⟨Or.inl rfl, ⟨Or.inl rfl, trivial⟩⟩⟩⟩⟩⟩⟩⟩⟩⟩⟩ ?_
  exact swp_X2_weighPair_218 G Z hn hr _ _ _ h
def wp_X2_weighPair (V : VV) (x1 x2 x3 x4 x5 x6 : Int) (M : Mem) (Q : Int → Mem → Prop) : Prop :=
  ((0 : Int) ≤ x2 ∧ x2 < (16 : Int)) ∧
  ∀ v1 : Int, v1 = w32 (x2 + M (x1 + 3) x2) →
  ((0 : Int) ≤ x5 ∧ x5 < (16 : Int)) ∧
  ∀ v2 : Int, v2 = w32 (x5 + M (x4 + 3) x5) →
  R_X2_startOver V M (fun _ M4 =>
  R_X2_offerDrop V x2 x5 M4 (fun _ M6 =>
  R_X2_offerAdd V x2 x5 M6 (fun _ M8 =>
  (v1 = x3 →
    (v2 = x6 →
      ∀ v15 : Int, v15 = w32 (w32 (w32 (w32 (x2 + 1) * 17) + x5) + 1) →
      ((0 : Int) ≤ x2 ∧ x2 < (16 : Int)) ∧
      ((0 : Int) ≤ x5 ∧ x5 < (16 : Int)) ∧
      (M8 (x1 + 1) x2 = M8 (x4 + 1) x5 →
        wp_X2_weighPair_94 V x2 x5 v15 0 M8 Q) ∧ (¬ (M8 (x1 + 1) x2 = M8 (x4 + 1) x5) →
        ((0 : Int) ≤ 2 ∧ 2 < (3 : Int)) ∧
        wp_X2_weighPair_94 V x2 x5 v15 (M8 13 2) M8 Q)) ∧ (¬ (v2 = x6) →
      wp_X2_weighPair_165 V x2 x5 v1 v2 M8 Q)) ∧ (¬ (v1 = x3) →
    wp_X2_weighPair_165 V x2 x5 v1 v2 M8 Q))))
theorem of_X2_weighPair {V : VV} {x1 x2 x3 x4 x5 x6 : Int} {M : Mem} {Q : Int → Mem → Prop} (h : wp_X2_weighPair V x1 x2 x3 x4 x5 x6 M Q) : R_X2_weighPair V x1 x2 x3 x4 x5 x6 M Q := by
  refine met_in (own := "TreeHands$Leader") (by decide +kernel) rfl rfl (Nat.le_of_ble_eq_true rfl) ?_
  intro X G Z hn hr hv
  subst hv
  unfold wp_X2_weighPair at h
  show AW X 0 [(12, 12), (17, x1), (0, x2), (0, x3), (17, x4), (0, x5), (0, x6), (99, 0), (99, 0), (99, 0), (99, 0)] [] M
  refine am_iload_n (i := 2) (pc := 0) G dX2_weighPair_0 rfl rfl ?_
  refine am_aload_n (i := 1) (t := 14) (pc := 1) G dX2_weighPair_1 rfl rfl rfl ?_
  refine gf_X7_3 (pc := 2) G dX2_weighPair_2 tw_f_RX2_59 ?_
  refine am_iload_n (i := 2) (pc := 5) G dX2_weighPair_5 rfl rfl ?_
  refine am_iald (pc := 6) G 16 dX2_weighPair_6 (by decide) h.1 ?_
  have h := h.2
  refine am_iadd (pc := 7) G dX2_weighPair_7 ?_
  have h := h _ rfl
  refine am_istore (pc := 8) G dX2_weighPair_8 (nlx hn rfl) rfl ?_
  refine am_iload (pc := 10) (ls := [(12, _), (17, _), (0, _), (0, _), (17, _), (0, _), (0, _), (0, _), (99, _), (99, _), (99, _)]) G dX2_weighPair_10 rfl ?_
  refine am_aload (t := 14) (pc := 12) G dX2_weighPair_12 rfl rfl ?_
  refine gf_X7_3 (pc := 14) G dX2_weighPair_14 tw_f_RX2_59 ?_
  refine am_iload (pc := 17) G dX2_weighPair_17 rfl ?_
  refine am_iald (pc := 19) G 16 dX2_weighPair_19 (by decide) h.1 ?_
  have h := h.2
  refine am_iadd (pc := 20) G dX2_weighPair_20 ?_
  have h := h _ rfl
  refine am_istore (pc := 21) G dX2_weighPair_21 (nlx hn rfl) rfl ?_
  refine am_aload_n (i := 0) (t := 9) (pc := 23) (ls := [(12, _), (17, _), (0, _), (0, _), (17, _), (0, _), (0, _), (0, _), (0, _), (99, _), (99, _)]) G dX2_weighPair_23 rfl rfl rfl ?_
  refine am_callV (rk := 4) (rmc := rm_X2_startOver) (st := []) (pc := 24) G 2 [] rfl (by decide) rfl dX2_weighPair_24 tw_m_RX2_62 tw_i_X2_startOver tw_v_X2_startOver tw_z_RX2 tw_c_X2_startOver hy_X2_startOver (callrm hr rfl) rfl (RunsM.mono h (fun r3 M4 h => ?_)) Z.rm
  show AW X 27 _ [] M4
  refine am_aload_n (i := 0) (t := 9) (pc := 27) G dX2_weighPair_27 rfl rfl rfl ?_
  refine am_iload_n (i := 2) (pc := 28) G dX2_weighPair_28 rfl rfl ?_
  refine am_iload (pc := 29) G dX2_weighPair_29 rfl ?_
  refine am_callV (rk := 4) (rmc := rm_X2_offerDrop) (st := []) (pc := 31) G 2 [(0, _), (0, _)] rfl (by decide) rfl dX2_weighPair_31 tw_m_RX2_65 tw_i_X2_offerDrop tw_v_X2_offerDrop tw_z_RX2 tw_c_X2_offerDrop hy_X2_offerDrop (callrm hr rfl) rfl (RunsM.mono h (fun r5 M6 h => ?_)) Z.rm
  show AW X 34 _ [] M6
  refine am_aload_n (i := 0) (t := 9) (pc := 34) G dX2_weighPair_34 rfl rfl rfl ?_
  refine am_iload_n (i := 2) (pc := 35) G dX2_weighPair_35 rfl rfl ?_
  refine am_iload (pc := 36) G dX2_weighPair_36 rfl ?_
  refine am_callV (rk := 4) (rmc := rm_X2_offerAdd) (st := []) (pc := 38) G 2 [(0, _), (0, _)] rfl (by decide) rfl dX2_weighPair_38 tw_m_RX2_72 tw_i_X2_offerAdd tw_v_X2_offerAdd tw_z_RX2 tw_c_X2_offerAdd hy_X2_offerAdd (callrm hr rfl) rfl (RunsM.mono h (fun r7 M8 h => ?_)) Z.rm
  show AW X 41 _ [] M8
  refine am_iload (pc := 41) G dX2_weighPair_41 rfl ?_
  refine am_iload_n (i := 3) (pc := 43) G dX2_weighPair_43 rfl rfl ?_
  refine am_icmp_ne (pc := 44) G 165 dX2_weighPair_44 (by decide) (fun c => ?_) (fun c => ?_)
  · have h := h.2 c
    refine am_le (ls' := [(12, _), (99, 0), (0, _), (99, 0), (99, 0), (0, _), (99, 0), (0, _), (0, _), (99, 0), (99, 0)]) ⟨Or.inr rfl, ⟨Or.inl rfl, ⟨Or.inr rfl, ⟨Or.inl rfl, ⟨Or.inl rfl, ⟨Or.inr rfl, ⟨Or.inl rfl, ⟨Or.inr rfl, ⟨Or.inr rfl, ⟨Or.inl rfl, ⟨Or.inl rfl, trivial⟩⟩⟩⟩⟩⟩⟩⟩⟩⟩⟩ ?_
    exact swp_X2_weighPair_165 G Z hn hr _ _ _ _ _ h
  · have h := h.1 c
    refine am_iload (pc := 47) G dX2_weighPair_47 rfl ?_
    refine am_iload (pc := 49) G dX2_weighPair_49 rfl ?_
    refine am_icmp_ne (pc := 51) G 165 dX2_weighPair_51 (by decide) (fun c => ?_) (fun c => ?_)
    · have h := h.2 c
      refine am_le (ls' := [(12, _), (99, 0), (0, _), (99, 0), (99, 0), (0, _), (99, 0), (0, _), (0, _), (99, 0), (99, 0)]) ⟨Or.inr rfl, ⟨Or.inl rfl, ⟨Or.inr rfl, ⟨Or.inl rfl, ⟨Or.inl rfl, ⟨Or.inr rfl, ⟨Or.inl rfl, ⟨Or.inr rfl, ⟨Or.inr rfl, ⟨Or.inl rfl, ⟨Or.inl rfl, trivial⟩⟩⟩⟩⟩⟩⟩⟩⟩⟩⟩ ?_
      exact swp_X2_weighPair_165 G Z hn hr _ _ _ _ _ h
    · have h := h.1 c
      refine am_iload_n (i := 2) (pc := 54) G dX2_weighPair_54 rfl rfl ?_
      refine am_iconst (pc := 55) G dX2_weighPair_55 (by decide) ?_
      refine am_iadd (pc := 56) G dX2_weighPair_56 ?_
      refine am_bipush (pc := 57) G dX2_weighPair_57 (by decide) (by decide) ?_
      refine am_imul (pc := 59) G dX2_weighPair_59 ?_
      refine am_iload (pc := 60) G dX2_weighPair_60 rfl ?_
      refine am_iadd (pc := 62) G dX2_weighPair_62 ?_
      refine am_iconst (pc := 63) G dX2_weighPair_63 (by decide) ?_
      refine am_iadd (pc := 64) G dX2_weighPair_64 ?_
      have h := h _ rfl
      refine am_istore (pc := 65) G dX2_weighPair_65 (nlx hn rfl) rfl ?_
      refine am_aload_n (i := 1) (t := 14) (pc := 67) (ls := [(12, _), (17, _), (0, _), (0, _), (17, _), (0, _), (0, _), (0, _), (0, _), (0, _), (99, _)]) G dX2_weighPair_67 rfl rfl rfl ?_
      refine gf_X7_1 (pc := 68) G dX2_weighPair_68 tw_f_RX2_79 ?_
      refine am_iload_n (i := 2) (pc := 71) G dX2_weighPair_71 rfl rfl ?_
      refine am_iald (pc := 72) G 16 dX2_weighPair_72 (by decide) h.1 ?_
      have h := h.2
      refine am_aload (t := 14) (pc := 73) G dX2_weighPair_73 rfl rfl ?_
      refine gf_X7_1 (pc := 75) G dX2_weighPair_75 tw_f_RX2_79 ?_
      refine am_iload (pc := 78) G dX2_weighPair_78 rfl ?_
      refine am_iald (pc := 80) G 16 dX2_weighPair_80 (by decide) h.1 ?_
      have h := h.2
      refine am_icmp_ne (pc := 81) G 88 dX2_weighPair_81 (by decide) (fun c => ?_) (fun c => ?_)
      · have h := h.2 c
        refine am_aload_n (i := 0) (t := 9) (pc := 88) G dX2_weighPair_88 rfl rfl rfl ?_
        refine gf_X2_0 (pc := 89) G dX2_weighPair_89 tw_f_RX2_9 ?_
        refine am_iconst (pc := 92) G dX2_weighPair_92 (by decide) ?_
        refine am_iald (pc := 93) G 3 dX2_weighPair_93 (by decide) h.1 ?_
        have h := h.2
        refine am_le (ls' := [(12, _), (99, 0), (0, _), (99, 0), (99, 0), (0, _), (99, 0), (99, 0), (99, 0), (0, _), (99, 0)]) ⟨Or.inr rfl, ⟨Or.inl rfl, ⟨Or.inr rfl, ⟨Or.inl rfl, ⟨Or.inl rfl, ⟨Or.inr rfl, ⟨Or.inl rfl, ⟨Or.inl rfl, ⟨Or.inl rfl, ⟨Or.inr rfl, ⟨Or.inl rfl, trivial⟩⟩⟩⟩⟩⟩⟩⟩⟩⟩⟩ ?_
        exact swp_X2_weighPair_94 G Z hn hr _ _ _ _ _ h
      · have h := h.1 c
        refine am_iconst (pc := 84) G dX2_weighPair_84 (by decide) ?_
        refine am_goto (pc := 85) G 94 dX2_weighPair_85 (by decide) ?_
        refine am_le (ls' := [(12, _), (99, 0), (0, _), (99, 0), (99, 0), (0, _), (99, 0), (99, 0), (99, 0), (0, _), (99, 0)]) ⟨Or.inr rfl, ⟨Or.inl rfl, ⟨Or.inr rfl, ⟨Or.inl rfl, ⟨Or.inl rfl, ⟨Or.inr rfl, ⟨Or.inl rfl, ⟨Or.inl rfl, ⟨Or.inl rfl, ⟨Or.inr rfl, ⟨Or.inl rfl, trivial⟩⟩⟩⟩⟩⟩⟩⟩⟩⟩⟩ ?_
        exact swp_X2_weighPair_94 G Z hn hr _ _ _ _ _ h
