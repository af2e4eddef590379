-- X2_weigh TreeHands$Leader.weigh(LTreeHands$Tree;ILTreeHands$Tree;I)V
def rm_X2_weigh : Room := { frames := 3, cells := 0, slots := 0, locals := 77 }
theorem hy_X2_weigh : yX2_weigh.cls ≠ "java/lang/invoke/MethodHandle" ∧ yX2_weigh.cls ≠ "java/lang/invoke/VarHandle" ∧ (parseMethodDescriptor yX2_weigh.desc).map (fun d => d.parameters.length) = some 4 := by decide +kernel
abbrev R_X2_weigh (V : VV) (x1 x2 x3 x4 : Int) (M : Mem) (Q : Int → Mem → Prop) : Prop := RunsM V yX2_weigh (.code yX2_weigh cX2_weigh 9 (Option.none : Option Jvm.ClassFile.FieldType)) rm_X2_weigh 4 [(12, 12), (17, x1), (0, x2), (17, x3), (0, x4)] M Q
def wp_X2_weigh_145_b (V : VV) (x1 x2 x3 x4 x5 x6 x7 x8 : Int) (M : Mem) (Q : Int → Mem → Prop) (B133 : Int → Mem → Prop) (B145 : Int → Mem → Prop) : Prop :=
  (x8 < x4 →
    B133 (w32 (x7 + (-1))) M) ∧ (¬ (x8 < x4) →
    R_X2_weighPair V x1 x7 x5 x3 x8 x6 M (fun _ M5 =>
    B145 (w32 (x8 + (-1))) M5))
theorem swp_X2_weigh_145_b {X : XX} {Q : Int → Mem → Prop} (G : GX X cX2_weigh "TreeHands$Leader") (Z : RX X 4 Q) (hn : nLX X = 9) (hr : roomX X = rm_X2_weigh) (x1 x2 x3 x4 x5 x6 x7 x8 : Int) (M : Mem) (B133 : Int → Mem → Prop) (k133 : ∀ (z7 : Int) (N : Mem), B133 z7 N → AW X 133 [(12, 12), (17, x1), (0, x2), (17, x3), (0, x4), (0, x5), (0, x6), (0, z7), (99, 0)] [] N) (B145 : Int → Mem → Prop) (k145 : ∀ (z8 : Int) (N : Mem), B145 z8 N → AW X 145 [(12, 12), (17, x1), (0, x2), (17, x3), (0, x4), (0, x5), (0, x6), (0, x7), (0, z8)] [] N) (h : wp_X2_weigh_145_b (vX X) x1 x2 x3 x4 x5 x6 x7 x8 M Q B133 B145) : AW X 145 [(12, 12), (17, x1), (0, x2), (17, x3), (0, x4), (0, x5), (0, x6), (0, x7), (0, x8)] [] M := by
  unfold wp_X2_weigh_145_b at h
  refine am_iload (pc := 145) G dX2_weigh_145 rfl ?_
  refine am_iload (pc := 147) G dX2_weigh_147 rfl ?_
  refine am_icmp_lt (pc := 149) G 172 dX2_weigh_149 (by decide) (fun c => ?_) (fun c => ?_)
  · have h := h.1 c
    refine am_iinc (pc := 172) G dX2_weigh_172 rfl (nlx hn rfl) rfl ?_
    refine am_goto (pc := 175) (ls := [(12, _), (17, _), (0, _), (17, _), (0, _), (0, _), (0, _), (0, _), (0, _)]) G 133 dX2_weigh_175 (by decide) ?_
    refine am_le (ls' := [(12, _), (17, _), (0, _), (17, _), (0, _), (0, _), (0, _), (0, _), (99, 0)]) ⟨Or.inr rfl, ⟨Or.inr rfl, ⟨Or.inr rfl, ⟨Or.inr rfl, ⟨Or.inr rfl, ⟨Or.inr rfl, ⟨Or.inr rfl, ⟨Or.inr rfl, ⟨Or.inl rfl, trivial⟩⟩⟩⟩⟩⟩⟩⟩⟩ ?_
    exact k133 _ _ h
  · have h := h.2 c
    refine am_aload_n (i := 0) (t := 9) (pc := 152) G dX2_weigh_152 rfl rfl rfl ?_
    refine am_aload_n (i := 1) (t := 14) (pc := 153) G dX2_weigh_153 rfl rfl rfl ?_
    refine am_iload (pc := 154) G dX2_weigh_154 rfl ?_
    refine am_iload (pc := 156) G dX2_weigh_156 rfl ?_
    refine am_aload_n (i := 3) (t := 14) (pc := 158) G dX2_weigh_158 rfl rfl rfl ?_
    refine am_iload (pc := 159) G dX2_weigh_159 rfl ?_
    refine am_iload (pc := 161) G dX2_weigh_161 rfl ?_
    refine am_callV (rk := 4) (rmc := rm_X2_weighPair) (st := []) (pc := 163) G 2 [(17, _), (0, _), (0, _), (17, _), (0, _), (0, _)] rfl (by decide) rfl dX2_weigh_163 tw_m_RX2_75 tw_i_X2_weighPair tw_v_X2_weighPair tw_z_RX2 tw_c_X2_weighPair hy_X2_weighPair (callrm hr rfl) rfl (RunsM.mono h (fun r4 M5 h => ?_)) Z.rm
    show AW X 166 _ [] M5
    refine am_iinc (pc := 166) G dX2_weigh_166 rfl (nlx hn rfl) rfl ?_
    refine am_goto (pc := 169) (ls := [(12, _), (17, _), (0, _), (17, _), (0, _), (0, _), (0, _), (0, _), (0, _)]) G 145 dX2_weigh_169 (by decide) ?_
    refine am_le (ls' := [(12, _), (17, _), (0, _), (17, _), (0, _), (0, _), (0, _), (0, _), (0, _)]) ⟨Or.inr rfl, ⟨Or.inr rfl, ⟨Or.inr rfl, ⟨Or.inr rfl, ⟨Or.inr rfl, ⟨Or.inr rfl, ⟨Or.inr rfl, ⟨Or.inr rfl, ⟨Or.inr rfl, trivial⟩⟩⟩⟩⟩⟩⟩⟩⟩ ?_
    exact k145 _ _ h
def wp_X2_weigh_145 (V : VV) (x1 x2 x3 x4 x5 x6 x7 x8 : Int) (M : Mem) (Q : Int → Mem → Prop) (B133 : Int → Mem → Prop) : Prop :=
  ∃ (I : Int → Mem → Prop) (μ : Int → Mem → Nat), I x8 M ∧ ∀ (y8 : Int) (N : Mem), I y8 N → wp_X2_weigh_145_b V x1 x2 x3 x4 x5 x6 x7 y8 N Q B133 (fun z8 N1 => I z8 N1 ∧ μ z8 N1 < μ y8 N)
theorem swp_X2_weigh_145 {X : XX} {Q : Int → Mem → Prop} (G : GX X cX2_weigh "TreeHands$Leader") (Z : RX X 4 Q) (hn : nLX X = 9) (hr : roomX X = rm_X2_weigh) (x1 x2 x3 x4 x5 x6 x7 x8 : Int) (M : Mem) (B133 : Int → Mem → Prop) (k133 : ∀ (z7 : Int) (N : Mem), B133 z7 N → AW X 133 [(12, 12), (17, x1), (0, x2), (17, x3), (0, x4), (0, x5), (0, x6), (0, z7), (99, 0)] [] N) (h : wp_X2_weigh_145 (vX X) x1 x2 x3 x4 x5 x6 x7 x8 M Q B133) : AW X 145 [(12, 12), (17, x1), (0, x2), (17, x3), (0, x4), (0, x5), (0, x6), (0, x7), (0, x8)] [] M := by
  unfold wp_X2_weigh_145 at h
  obtain ⟨I, μ, hI, hs⟩ := h
  have key : ∀ (n : Nat) (y8 : Int) (N : Mem), μ y8 N < n → I y8 N → AW X 145 [(12, 12), (17, x1), (0, x2), (17, x3), (0, x4), (0, x5), (0, x6), (0, x7), (0, y8)] [] N := by
    intro n
    induction n with
    | zero => intro y8 N hlt; exact absurd hlt (Nat.not_lt_zero _)
    | succ n ih =>
      intro y8 N hlt hI
      exact swp_X2_weigh_145_b G Z hn hr x1 x2 x3 x4 x5 x6 x7 y8 N B133 k133 (fun z8 N1 => I z8 N1 ∧ μ z8 N1 < μ y8 N) (fun z8 N1 hz => ih z8 N1 (by omega) hz.1) (hs y8 N hI)
  exact key _ x8 M (Nat.lt_succ_self _) hI
def wp_X2_weigh_133_b (V : VV) (x1 x2 x3 x4 x5 x6 x7 : Int) (M : Mem) (Q : Int → Mem → Prop) (B133 : Int → Mem → Prop) : Prop :=
  (x7 < x2 →
    Q 0 M) ∧ (¬ (x7 < x2) →
    wp_X2_weigh_145 V x1 x2 x3 x4 x5 x6 x7 (w32 (x6 - 1)) M Q B133)
theorem swp_X2_weigh_133_b {X : XX} {Q : Int → Mem → Prop} (G : GX X cX2_weigh "TreeHands$Leader") (Z : RX X 4 Q) (hn : nLX X = 9) (hr : roomX X = rm_X2_weigh) (x1 x2 x3 x4 x5 x6 x7 : Int) (M : Mem) (B133 : Int → Mem → Prop) (k133 : ∀ (z7 : Int) (N : Mem), B133 z7 N → AW X 133 [(12, 12), (17, x1), (0, x2), (17, x3), (0, x4), (0, x5), (0, x6), (0, z7), (99, 0)] [] N) (h : wp_X2_weigh_133_b (vX X) x1 x2 x3 x4 x5 x6 x7 M Q B133) : AW X 133 [(12, 12), (17, x1), (0, x2), (17, x3), (0, x4), (0, x5), (0, x6), (0, x7), (99, 0)] [] M := by
  unfold wp_X2_weigh_133_b at h
  refine am_iload (pc := 133) G dX2_weigh_133 rfl ?_
  refine am_iload_n (i := 2) (pc := 135) G dX2_weigh_135 rfl rfl ?_
  refine am_icmp_lt (pc := 136) G 178 dX2_weigh_136 (by decide) (fun c => ?_) (fun c => ?_)
  · have h := h.1 c
    exact am_vret (pc := 178) G Z dX2_weigh_178 h
  · have h := h.2 c
    refine am_iload (pc := 139) G dX2_weigh_139 rfl ?_
    refine am_iconst (pc := 141) G dX2_weigh_141 (by decide) ?_
    refine am_isub (pc := 142) G dX2_weigh_142 ?_
    refine am_istore (pc := 143) G dX2_weigh_143 (nlx hn rfl) rfl ?_
    refine am_le (ls' := [(12, _), (17, _), (0, _), (17, _), (0, _), (0, _), (0, _), (0, _), (0, _)]) ⟨Or.inr rfl, ⟨Or.inr rfl, ⟨Or.inr rfl, ⟨Or.inr rfl, ⟨Or.inr rfl, ⟨Or.inr rfl, ⟨Or.inr rfl, ⟨Or.inr rfl, ⟨Or.inr rfl, trivial⟩⟩⟩⟩⟩⟩⟩⟩⟩ ?_
    exact swp_X2_weigh_145 G Z hn hr _ _ _ _ _ _ _ _ _ B133 k133 h
def wp_X2_weigh_133 (V : VV) (x1 x2 x3 x4 x5 x6 x7 : Int) (M : Mem) (Q : Int → Mem → Prop) : Prop :=
  ∃ (I : Int → Mem → Prop) (μ : Int → Mem → Nat), I x7 M ∧ ∀ (y7 : Int) (N : Mem), I y7 N → wp_X2_weigh_133_b V x1 x2 x3 x4 x5 x6 y7 N Q (fun z7 N1 => I z7 N1 ∧ μ z7 N1 < μ y7 N)
theorem swp_X2_weigh_133 {X : XX} {Q : Int → Mem → Prop} (G : GX X cX2_weigh "TreeHands$Leader") (Z : RX X 4 Q) (hn : nLX X = 9) (hr : roomX X = rm_X2_weigh) (x1 x2 x3 x4 x5 x6 x7 : Int) (M : Mem) (h : wp_X2_weigh_133 (vX X) x1 x2 x3 x4 x5 x6 x7 M Q) : AW X 133 [(12, 12), (17, x1), (0, x2), (17, x3), (0, x4), (0, x5), (0, x6), (0, x7), (99, 0)] [] M := by
  unfold wp_X2_weigh_133 at h
  obtain ⟨I, μ, hI, hs⟩ := h
  have key : ∀ (n : Nat) (y7 : Int) (N : Mem), μ y7 N < n → I y7 N → AW X 133 [(12, 12), (17, x1), (0, x2), (17, x3), (0, x4), (0, x5), (0, x6), (0, y7), (99, 0)] [] N := by
    intro n
    induction n with
    | zero => intro y7 N hlt; exact absurd hlt (Nat.not_lt_zero _)
    | succ n ih =>
      intro y7 N hlt hI
      exact swp_X2_weigh_133_b G Z hn hr x1 x2 x3 x4 x5 x6 y7 N (fun z7 N1 => I z7 N1 ∧ μ z7 N1 < μ y7 N) (fun z7 N1 hz => ih z7 N1 (by omega) hz.1) (hs y7 N hI)
  exact key _ x7 M (Nat.lt_succ_self _) hI
def wp_X2_weigh_94_b (V : VV) (x1 x2 x3 x4 x5 x6 x7 : Int) (M : Mem) (Q : Int → Mem → Prop) (B94 : Int → Mem → Prop) : Prop :=
  (x7 < x4 →
    wp_X2_weigh_133 V x1 x2 x3 x4 x5 x6 (w32 (x5 - 1)) M Q) ∧ (¬ (x7 < x4) →
    R_X2_startOver V M (fun _ M7 =>
    R_X2_offerAdd V x5 x7 M7 (fun _ M9 =>
    R_X2_keepRest V x5 x7 M9 (fun _ M11 =>
    B94 (w32 (x7 + (-1))) M11))))
theorem swp_X2_weigh_94_b {X : XX} {Q : Int → Mem → Prop} (G : GX X cX2_weigh "TreeHands$Leader") (Z : RX X 4 Q) (hn : nLX X = 9) (hr : roomX X = rm_X2_weigh) (x1 x2 x3 x4 x5 x6 x7 : Int) (M : Mem) (B94 : Int → Mem → Prop) (k94 : ∀ (z7 : Int) (N : Mem), B94 z7 N → AW X 94 [(12, 12), (17, x1), (0, x2), (17, x3), (0, x4), (0, x5), (0, x6), (0, z7), (99, 0)] [] N) (h : wp_X2_weigh_94_b (vX X) x1 x2 x3 x4 x5 x6 x7 M Q B94) : AW X 94 [(12, 12), (17, x1), (0, x2), (17, x3), (0, x4), (0, x5), (0, x6), (0, x7), (99, 0)] [] M := by
  unfold wp_X2_weigh_94_b at h
  refine am_iload (pc := 94) G dX2_weigh_94 rfl ?_
  refine am_iload (pc := 96) G dX2_weigh_96 rfl ?_
  refine am_icmp_lt (pc := 98) G 127 dX2_weigh_98 (by decide) (fun c => ?_) (fun c => ?_)
  · have h := h.1 c
    refine am_iload (pc := 127) G dX2_weigh_127 rfl ?_
    refine am_iconst (pc := 129) G dX2_weigh_129 (by decide) ?_
    refine am_isub (pc := 130) G dX2_weigh_130 ?_
    refine am_istore (pc := 131) G dX2_weigh_131 (nlx hn rfl) rfl ?_
    refine am_le (ls' := [(12, _), (17, _), (0, _), (17, _), (0, _), (0, _), (0, _), (0, _), (99, 0)]) ⟨Or.inr rfl, ⟨Or.inr rfl, ⟨Or.inr rfl, ⟨Or.inr rfl, ⟨Or.inr rfl, ⟨Or.inr rfl, ⟨Or.inr rfl, ⟨Or.inr rfl, ⟨Or.inl rfl, trivial⟩⟩⟩⟩⟩⟩⟩⟩⟩ ?_
    exact swp_X2_weigh_133 G Z hn hr _ _ _ _ _ _ _ _ h
  · have h := h.2 c
    refine am_aload_n (i := 0) (t := 9) (pc := 101) G dX2_weigh_101 rfl rfl rfl ?_
    refine am_callV (rk := 4) (rmc := rm_X2_startOver) (st := []) (pc := 102) G 2 [] rfl (by decide) rfl dX2_weigh_102 tw_m_RX2_62 tw_i_X2_startOver tw_v_X2_startOver tw_z_RX2 tw_c_X2_startOver hy_X2_startOver (callrm hr rfl) rfl (RunsM.mono h (fun r6 M7 h => ?_)) Z.rm
    show AW X 105 _ [] M7
    refine am_aload_n (i := 0) (t := 9) (pc := 105) G dX2_weigh_105 rfl rfl rfl ?_
    refine am_iload (pc := 106) G dX2_weigh_106 rfl ?_
    refine am_iload (pc := 108) G dX2_weigh_108 rfl ?_
    refine am_callV (rk := 4) (rmc := rm_X2_offerAdd) (st := []) (pc := 110) G 2 [(0, _), (0, _)] rfl (by decide) rfl dX2_weigh_110 tw_m_RX2_72 tw_i_X2_offerAdd tw_v_X2_offerAdd tw_z_RX2 tw_c_X2_offerAdd hy_X2_offerAdd (callrm hr rfl) rfl (RunsM.mono h (fun r8 M9 h => ?_)) Z.rm
    show AW X 113 _ [] M9
    refine am_aload_n (i := 0) (t := 9) (pc := 113) G dX2_weigh_113 rfl rfl rfl ?_
    refine am_iload (pc := 114) G dX2_weigh_114 rfl ?_
    refine am_iload (pc := 116) G dX2_weigh_116 rfl ?_
    refine am_callV (rk := 4) (rmc := rm_X2_keepRest) (st := []) (pc := 118) G 2 [(0, _), (0, _)] rfl (by decide) rfl dX2_weigh_118 tw_m_RX2_69 tw_i_X2_keepRest tw_v_X2_keepRest tw_z_RX2 tw_c_X2_keepRest hy_X2_keepRest (callrm hr rfl) rfl (RunsM.mono h (fun r10 M11 h => ?_)) Z.rm
    show AW X 121 _ [] M11
    refine am_iinc (pc := 121) G dX2_weigh_121 rfl (nlx hn rfl) rfl ?_
    refine am_goto (pc := 124) (ls := [(12, _), (17, _), (0, _), (17, _), (0, _), (0, _), (0, _), (0, _), (99, _)]) G 94 dX2_weigh_124 (by decide) ?_
    refine am_le (ls' := [(12, _), (17, _), (0, _), (17, _), (0, _), (0, _), (0, _), (0, _), (99, 0)]) ⟨Or.inr rfl, ⟨Or.inr rfl, ⟨Or.inr rfl, ⟨Or.inr rfl, ⟨Or.inr rfl, ⟨Or.inr rfl, ⟨Or.inr rfl, ⟨Or.inr rfl, ⟨Or.inl rfl, trivial⟩⟩⟩⟩⟩⟩⟩⟩⟩ ?_
    exact k94 _ _ h
def wp_X2_weigh_94 (V : VV) (x1 x2 x3 x4 x5 x6 x7 : Int) (M : Mem) (Q : Int → Mem → Prop) : Prop :=
  ∃ (I : Int → Mem → Prop) (μ : Int → Mem → Nat), I x7 M ∧ ∀ (y7 : Int) (N : Mem), I y7 N → wp_X2_weigh_94_b V x1 x2 x3 x4 x5 x6 y7 N Q (fun z7 N1 => I z7 N1 ∧ μ z7 N1 < μ y7 N)
theorem swp_X2_weigh_94 {X : XX} {Q : Int → Mem → Prop} (G : GX X cX2_weigh "TreeHands$Leader") (Z : RX X 4 Q) (hn : nLX X = 9) (hr : roomX X = rm_X2_weigh) (x1 x2 x3 x4 x5 x6 x7 : Int) (M : Mem) (h : wp_X2_weigh_94 (vX X) x1 x2 x3 x4 x5 x6 x7 M Q) : AW X 94 [(12, 12), (17, x1), (0, x2), (17, x3), (0, x4), (0, x5), (0, x6), (0, x7), (99, 0)] [] M := by
  unfold wp_X2_weigh_94 at h
  obtain ⟨I, μ, hI, hs⟩ := h
  have key : ∀ (n : Nat) (y7 : Int) (N : Mem), μ y7 N < n → I y7 N → AW X 94 [(12, 12), (17, x1), (0, x2), (17, x3), (0, x4), (0, x5), (0, x6), (0, y7), (99, 0)] [] N := by
    intro n
    induction n with
    | zero => intro y7 N hlt; exact absurd hlt (Nat.not_lt_zero _)
    | succ n ih =>
      intro y7 N hlt hI
      exact swp_X2_weigh_94_b G Z hn hr x1 x2 x3 x4 x5 x6 y7 N (fun z7 N1 => I z7 N1 ∧ μ z7 N1 < μ y7 N) (fun z7 N1 hz => ih z7 N1 (by omega) hz.1) (hs y7 N hI)
  exact key _ x7 M (Nat.lt_succ_self _) hI
def wp_X2_weigh_56_b (V : VV) (x1 x2 x3 x4 x5 x6 x7 : Int) (M : Mem) (Q : Int → Mem → Prop) (B56 : Int → Mem → Prop) : Prop :=
  (x7 < x2 →
    wp_X2_weigh_94 V x1 x2 x3 x4 x5 x6 (w32 (x6 - 1)) M Q) ∧ (¬ (x7 < x2) →
    R_X2_startOver V M (fun _ M13 =>
    R_X2_offerDrop V x7 x6 M13 (fun _ M15 =>
    R_X2_keepRest V x7 x6 M15 (fun _ M17 =>
    B56 (w32 (x7 + (-1))) M17))))
theorem swp_X2_weigh_56_b {X : XX} {Q : Int → Mem → Prop} (G : GX X cX2_weigh "TreeHands$Leader") (Z : RX X 4 Q) (hn : nLX X = 9) (hr : roomX X = rm_X2_weigh) (x1 x2 x3 x4 x5 x6 x7 : Int) (M : Mem) (B56 : Int → Mem → Prop) (k56 : ∀ (z7 : Int) (N : Mem), B56 z7 N → AW X 56 [(12, 12), (17, x1), (0, x2), (17, x3), (0, x4), (0, x5), (0, x6), (0, z7), (99, 0)] [] N) (h : wp_X2_weigh_56_b (vX X) x1 x2 x3 x4 x5 x6 x7 M Q B56) : AW X 56 [(12, 12), (17, x1), (0, x2), (17, x3), (0, x4), (0, x5), (0, x6), (0, x7), (99, 0)] [] M := by
  unfold wp_X2_weigh_56_b at h
  refine am_iload (pc := 56) G dX2_weigh_56 rfl ?_
  refine am_iload_n (i := 2) (pc := 58) G dX2_weigh_58 rfl rfl ?_
  refine am_icmp_lt (pc := 59) G 88 dX2_weigh_59 (by decide) (fun c => ?_) (fun c => ?_)
  · have h := h.1 c
    refine am_iload (pc := 88) G dX2_weigh_88 rfl ?_
    refine am_iconst (pc := 90) G dX2_weigh_90 (by decide) ?_
    refine am_isub (pc := 91) G dX2_weigh_91 ?_
    refine am_istore (pc := 92) G dX2_weigh_92 (nlx hn rfl) rfl ?_
    refine am_le (ls' := [(12, _), (17, _), (0, _), (17, _), (0, _), (0, _), (0, _), (0, _), (99, 0)]) ⟨Or.inr rfl, ⟨Or.inr rfl, ⟨Or.inr rfl, ⟨Or.inr rfl, ⟨Or.inr rfl, ⟨Or.inr rfl, ⟨Or.inr rfl, ⟨Or.inr rfl, ⟨Or.inl rfl, trivial⟩⟩⟩⟩⟩⟩⟩⟩⟩ ?_
    exact swp_X2_weigh_94 G Z hn hr _ _ _ _ _ _ _ _ h
  · have h := h.2 c
    refine am_aload_n (i := 0) (t := 9) (pc := 62) G dX2_weigh_62 rfl rfl rfl ?_
    refine am_callV (rk := 4) (rmc := rm_X2_startOver) (st := []) (pc := 63) G 2 [] rfl (by decide) rfl dX2_weigh_63 tw_m_RX2_62 tw_i_X2_startOver tw_v_X2_startOver tw_z_RX2 tw_c_X2_startOver hy_X2_startOver (callrm hr rfl) rfl (RunsM.mono h (fun r12 M13 h => ?_)) Z.rm
    show AW X 66 _ [] M13
    refine am_aload_n (i := 0) (t := 9) (pc := 66) G dX2_weigh_66 rfl rfl rfl ?_
    refine am_iload (pc := 67) G dX2_weigh_67 rfl ?_
    refine am_iload (pc := 69) G dX2_weigh_69 rfl ?_
    refine am_callV (rk := 4) (rmc := rm_X2_offerDrop) (st := []) (pc := 71) G 2 [(0, _), (0, _)] rfl (by decide) rfl dX2_weigh_71 tw_m_RX2_65 tw_i_X2_offerDrop tw_v_X2_offerDrop tw_z_RX2 tw_c_X2_offerDrop hy_X2_offerDrop (callrm hr rfl) rfl (RunsM.mono h (fun r14 M15 h => ?_)) Z.rm
    show AW X 74 _ [] M15
    refine am_aload_n (i := 0) (t := 9) (pc := 74) G dX2_weigh_74 rfl rfl rfl ?_
    refine am_iload (pc := 75) G dX2_weigh_75 rfl ?_
    refine am_iload (pc := 77) G dX2_weigh_77 rfl ?_
    refine am_callV (rk := 4) (rmc := rm_X2_keepRest) (st := []) (pc := 79) G 2 [(0, _), (0, _)] rfl (by decide) rfl dX2_weigh_79 tw_m_RX2_69 tw_i_X2_keepRest tw_v_X2_keepRest tw_z_RX2 tw_c_X2_keepRest hy_X2_keepRest (callrm hr rfl) rfl (RunsM.mono h (fun r16 M17 h => ?_)) Z.rm
    show AW X 82 _ [] M17
    refine am_iinc (pc := 82) G dX2_weigh_82 rfl (nlx hn rfl) rfl ?_
    refine am_goto (pc := 85) (ls := [(12, _), (17, _), (0, _), (17, _), (0, _), (0, _), (0, _), (0, _), (99, _)]) G 56 dX2_weigh_85 (by decide) ?_
    refine am_le (ls' := [(12, _), (17, _), (0, _), (17, _), (0, _), (0, _), (0, _), (0, _), (99, 0)]) ⟨Or.inr rfl, ⟨Or.inr rfl, ⟨Or.inr rfl, ⟨Or.inr rfl, ⟨Or.inr rfl, ⟨Or.inr rfl, ⟨Or.inr rfl, ⟨Or.inr rfl, ⟨Or.inl rfl, trivial⟩⟩⟩⟩⟩⟩⟩⟩⟩ ?_
    exact k56 _ _ h
def wp_X2_weigh_56 (V : VV) (x1 x2 x3 x4 x5 x6 x7 : Int) (M : Mem) (Q : Int → Mem → Prop) : Prop :=
  ∃ (I : Int → Mem → Prop) (μ : Int → Mem → Nat), I x7 M ∧ ∀ (y7 : Int) (N : Mem), I y7 N → wp_X2_weigh_56_b V x1 x2 x3 x4 x5 x6 y7 N Q (fun z7 N1 => I z7 N1 ∧ μ z7 N1 < μ y7 N)
theorem swp_X2_weigh_56 {X : XX} {Q : Int → Mem → Prop} (G : GX X cX2_weigh "TreeHands$Leader") (Z : RX X 4 Q) (hn : nLX X = 9) (hr : roomX X = rm_X2_weigh) (x1 x2 x3 x4 x5 x6 x7 : Int) (M : Mem) (h : wp_X2_weigh_56 (vX X) x1 x2 x3 x4 x5 x6 x7 M Q) : AW X 56 [(12, 12), (17, x1), (0, x2), (17, x3), (0, x4), (0, x5), (0, x6), (0, x7), (99, 0)] [] M := by
  unfold wp_X2_weigh_56 at h
  obtain ⟨I, μ, hI, hs⟩ := h
  have key : ∀ (n : Nat) (y7 : Int) (N : Mem), μ y7 N < n → I y7 N → AW X 56 [(12, 12), (17, x1), (0, x2), (17, x3), (0, x4), (0, x5), (0, x6), (0, y7), (99, 0)] [] N := by
    intro n
    induction n with
    | zero => intro y7 N hlt; exact absurd hlt (Nat.not_lt_zero _)
    | succ n ih =>
      intro y7 N hlt hI
      exact swp_X2_weigh_56_b G Z hn hr x1 x2 x3 x4 x5 x6 y7 N (fun z7 N1 => I z7 N1 ∧ μ z7 N1 < μ y7 N) (fun z7 N1 hz => ih z7 N1 (by omega) hz.1) (hs y7 N hI)
  exact key _ x7 M (Nat.lt_succ_self _) hI
def wp_X2_weigh (V : VV) (x1 x2 x3 x4 : Int) (M : Mem) (Q : Int → Mem → Prop) : Prop :=
  ((0 : Int) ≤ x2 ∧ x2 < (16 : Int)) ∧
  ∀ v1 : Int, v1 = w32 (x2 + M (x1 + 3) x2) →
  ((0 : Int) ≤ x4 ∧ x4 < (16 : Int)) ∧
  ∀ v2 : Int, v2 = w32 (x4 + M (x3 + 3) x4) →
  ((0 : Int) ≤ w32 (w32 (v1 * 17) + v2) ∧ w32 (w32 (v1 * 17) + v2) < (289 : Int)) ∧
  ∀ M3 : Mem, M3 = mset M 18 (w32 (w32 (v1 * 17) + v2)) 0 →
  ((0 : Int) ≤ w32 (w32 (v1 * 17) + v2) ∧ w32 (w32 (v1 * 17) + v2) < (289 : Int)) ∧
  wp_X2_weigh_56 V x1 x2 x3 x4 v1 v2 (w32 (v1 - 1)) (mset M3 19 (w32 (w32 (v1 * 17) + v2)) 0) Q
theorem of_X2_weigh {V : VV} {x1 x2 x3 x4 : Int} {M : Mem} {Q : Int → Mem → Prop} (h : wp_X2_weigh V x1 x2 x3 x4 M Q) : R_X2_weigh V x1 x2 x3 x4 M Q := by
  refine met_in (own := "TreeHands$Leader") (by decide +kernel) rfl rfl (Nat.le_of_ble_eq_true rfl) ?_
  intro X G Z hn hr hv
  subst hv
  unfold wp_X2_weigh at h
  show AW X 0 [(12, 12), (17, x1), (0, x2), (17, x3), (0, x4), (99, 0), (99, 0), (99, 0), (99, 0)] [] M
  refine am_iload_n (i := 2) (pc := 0) G dX2_weigh_0 rfl rfl ?_
  refine am_aload_n (i := 1) (t := 14) (pc := 1) G dX2_weigh_1 rfl rfl rfl ?_
  refine gf_X7_3 (pc := 2) G dX2_weigh_2 tw_f_RX2_59 ?_
  refine am_iload_n (i := 2) (pc := 5) G dX2_weigh_5 rfl rfl ?_
  refine am_iald (pc := 6) G 16 dX2_weigh_6 (by decide) h.1 ?_
  have h := h.2
  refine am_iadd (pc := 7) G dX2_weigh_7 ?_
  have h := h _ rfl
  refine am_istore (pc := 8) G dX2_weigh_8 (nlx hn rfl) rfl ?_
  refine am_iload (pc := 10) (ls := [(12, _), (17, _), (0, _), (17, _), (0, _), (0, _), (99, _), (99, _), (99, _)]) G dX2_weigh_10 rfl ?_
  refine am_aload_n (i := 3) (t := 14) (pc := 12) G dX2_weigh_12 rfl rfl rfl ?_
  refine gf_X7_3 (pc := 13) G dX2_weigh_13 tw_f_RX2_59 ?_
  refine am_iload (pc := 16) G dX2_weigh_16 rfl ?_
  refine am_iald (pc := 18) G 16 dX2_weigh_18 (by decide) h.1 ?_
  have h := h.2
  refine am_iadd (pc := 19) G dX2_weigh_19 ?_
  have h := h _ rfl
  refine am_istore (pc := 20) G dX2_weigh_20 (nlx hn rfl) rfl ?_
  refine am_aload_n (i := 0) (t := 9) (pc := 22) (ls := [(12, _), (17, _), (0, _), (17, _), (0, _), (0, _), (0, _), (99, _), (99, _)]) G dX2_weigh_22 rfl rfl rfl ?_
  refine gf_X2_8 (pc := 23) G dX2_weigh_23 tw_f_RX2_28 ?_
  refine am_iload (pc := 26) G dX2_weigh_26 rfl ?_
  refine am_bipush (pc := 28) G dX2_weigh_28 (by decide) (by decide) ?_
  refine am_imul (pc := 30) G dX2_weigh_30 ?_
  refine am_iload (pc := 31) G dX2_weigh_31 rfl ?_
  refine am_iadd (pc := 33) G dX2_weigh_33 ?_
  refine am_lconst (x := 0) (pc := 34) G dX2_weigh_34 (by decide) (by decide) ?_
  refine am_last (pc := 35) G 289 dX2_weigh_35 (by decide) h.1 ?_
  have h := h.2
  refine am_aload_n (i := 0) (t := 9) (pc := 36) G dX2_weigh_36 rfl rfl rfl ?_
  refine gf_X2_9 (pc := 37) G dX2_weigh_37 tw_f_RX2_31 ?_
  refine am_iload (pc := 40) G dX2_weigh_40 rfl ?_
  refine am_bipush (pc := 42) G dX2_weigh_42 (by decide) (by decide) ?_
  refine am_imul (pc := 44) G dX2_weigh_44 ?_
  refine am_iload (pc := 45) G dX2_weigh_45 rfl ?_
  refine am_iadd (pc := 47) G dX2_weigh_47 ?_
  refine am_lconst (x := 0) (pc := 48) G dX2_weigh_48 (by decide) (by decide) ?_
  have h := h _ rfl
  refine am_last (pc := 49) G 289 dX2_weigh_49 (by decide) h.1 ?_
  have h := h.2
  refine am_iload (pc := 50) G dX2_weigh_50 rfl ?_
  refine am_iconst (pc := 52) G dX2_weigh_52 (by decide) ?_
  refine am_isub (pc := 53) G dX2_weigh_53 ?_
  refine am_istore (pc := 54) G dX2_weigh_54 (nlx hn rfl) rfl ?_
  refine am_le (ls' := [(12, _), (17, _), (0, _), (17, _), (0, _), (0, _), (0, _), (0, _), (99, 0)]) ⟨Or.inr rfl, ⟨Or.inr rfl, ⟨Or.inr rfl, ⟨Or.inr rfl, ⟨Or.inr rfl, ⟨Or.inr rfl, ⟨Or.inr rfl, ⟨Or.inr rfl, ⟨Or.inl rfl, trivial⟩⟩⟩⟩⟩⟩⟩⟩⟩ ?_
  exact swp_X2_weigh_56 G Z hn hr _ _ _ _ _ _ _ _ h
-- X2_partnerBits TreeHands$Leader.partnerBits(I)I
def rm_X2_partnerBits : Room := { frames := 0, cells := 0, slots := 0, locals := 0 }
theorem hy_X2_partnerBits : yX2_partnerBits.cls ≠ "java/lang/invoke/MethodHandle" ∧ yX2_partnerBits.cls ≠ "java/lang/invoke/VarHandle" ∧ (parseMethodDescriptor yX2_partnerBits.desc).map (fun d => d.parameters.length) = some 1 := by decide +kernel
abbrev R_X2_partnerBits (V : VV) (x1 : Int) (M : Mem) (Q : Int → Mem → Prop) : Prop := RunsM V yX2_partnerBits (.code yX2_partnerBits cX2_partnerBits 4 (Option.some Jvm.ClassFile.FieldType.int)) rm_X2_partnerBits 0 [(12, 12), (0, x1)] M Q
def wp_X2_partnerBits (V : VV) (x1 : Int) (M : Mem) (Q : Int → Mem → Prop) : Prop :=
  (8 ≤ x1 →
    ((0 : Int) ≤ 0 ∧ 0 < (289 : Int)) ∧
    Q (w32 (and64 (shr64 (M 17 0) (w32 (5 * w32 (15 - x1)))) 31)) M) ∧ (¬ (8 ≤ x1) →
    ((0 : Int) ≤ 0 ∧ 0 < (289 : Int)) ∧
    Q (w32 (and64 (shr64 (M 16 0) (w32 (5 * w32 (7 - x1)))) 31)) M)
theorem of_X2_partnerBits {V : VV} {x1 : Int} {M : Mem} {Q : Int → Mem → Prop} (h : wp_X2_partnerBits V x1 M Q) : R_X2_partnerBits V x1 M Q := by
  refine met_in (own := "TreeHands$Leader") (by decide +kernel) rfl rfl (Nat.le_of_ble_eq_true rfl) ?_
  intro X G Z hn hr hv
  subst hv
  unfold wp_X2_partnerBits at h
  show AW X 0 [(12, 12), (0, x1), (99, 0), (99, 0)] [] M
  refine am_iload_n (i := 1) (pc := 0) G dX2_partnerBits_0 rfl rfl ?_
  refine am_bipush (pc := 1) G dX2_partnerBits_1 (by decide) (by decide) ?_
  refine am_icmp_ge (pc := 3) G 22 dX2_partnerBits_3 (by decide) (fun c => ?_) (fun c => ?_)
  · have h := h.1 c
    refine am_aload_n (i := 0) (t := 9) (pc := 22) G dX2_partnerBits_22 rfl rfl rfl ?_
    refine gf_X2_7 (pc := 23) G dX2_partnerBits_23 tw_f_RX2_25 ?_
    refine am_iconst (pc := 26) G dX2_partnerBits_26 (by decide) ?_
    refine am_lald (pc := 27) G 289 dX2_partnerBits_27 (by decide) h.1 ?_
    have h := h.2
    refine am_iconst (pc := 28) G dX2_partnerBits_28 (by decide) ?_
    refine am_bipush (pc := 29) G dX2_partnerBits_29 (by decide) (by decide) ?_
    refine am_iload_n (i := 1) (pc := 31) G dX2_partnerBits_31 rfl rfl ?_
    refine am_isub (pc := 32) G dX2_partnerBits_32 ?_
    refine am_imul (pc := 33) G dX2_partnerBits_33 ?_
    refine am_lshr (pc := 34) G dX2_partnerBits_34 ?_
    refine am_lstore_n (pc := 35) G dX2_partnerBits_35 rfl (nlx hn rfl) rfl ?_
    refine am_lload_n (i := 2) (pc := 36) (ls := [(12, _), (0, _), (1, _), (98, _)]) G dX2_partnerBits_36 rfl rfl ?_
    refine am_ldc2 (n := 31) (pc := 37) G tw_k_RX2_116 dX2_partnerBits_37 (by decide) (by decide) ?_
    refine am_land (pc := 40) G dX2_partnerBits_40 ?_
    refine am_l2i (pc := 41) G dX2_partnerBits_41 ?_
    exact am_iret (pc := 42) G Z dX2_partnerBits_42 h
  · have h := h.2 c
    refine am_aload_n (i := 0) (t := 9) (pc := 6) G dX2_partnerBits_6 rfl rfl rfl ?_
    refine gf_X2_6 (pc := 7) G dX2_partnerBits_7 tw_f_RX2_21 ?_
    refine am_iconst (pc := 10) G dX2_partnerBits_10 (by decide) ?_
    refine am_lald (pc := 11) G 289 dX2_partnerBits_11 (by decide) h.1 ?_
    have h := h.2
    refine am_iconst (pc := 12) G dX2_partnerBits_12 (by decide) ?_
    refine am_bipush (pc := 13) G dX2_partnerBits_13 (by decide) (by decide) ?_
    refine am_iload_n (i := 1) (pc := 15) G dX2_partnerBits_15 rfl rfl ?_
    refine am_isub (pc := 16) G dX2_partnerBits_16 ?_
    refine am_imul (pc := 17) G dX2_partnerBits_17 ?_
    refine am_lshr (pc := 18) G dX2_partnerBits_18 ?_
    refine am_goto (pc := 19) G 35 dX2_partnerBits_19 (by decide) ?_
    refine am_lstore_n (pc := 35) G dX2_partnerBits_35 rfl (nlx hn rfl) rfl ?_
    refine am_lload_n (i := 2) (pc := 36) (ls := [(12, _), (0, _), (1, _), (98, _)]) G dX2_partnerBits_36 rfl rfl ?_
    refine am_ldc2 (n := 31) (pc := 37) G tw_k_RX2_116 dX2_partnerBits_37 (by decide) (by decide) ?_
    refine am_land (pc := 40) G dX2_partnerBits_40 ?_
    refine am_l2i (pc := 41) G dX2_partnerBits_41 ?_
    exact am_iret (pc := 42) G Z dX2_partnerBits_42 h
-- X2_tell TreeHands$Leader.tell(LTreeHands$Tree;LTreeHands$Tree;)V
def rm_X2_tell : Room := { frames := 1, cells := 0, slots := 0, locals := 23 }
theorem hy_X2_tell : yX2_tell.cls ≠ "java/lang/invoke/MethodHandle" ∧ yX2_tell.cls ≠ "java/lang/invoke/VarHandle" ∧ (parseMethodDescriptor yX2_tell.desc).map (fun d => d.parameters.length) = some 2 := by decide +kernel
abbrev R_X2_tell (V : VV) (x1 x2 : Int) (M : Mem) (Q : Int → Mem → Prop) : Prop := RunsM V yX2_tell (.code yX2_tell cX2_tell 5 (Option.none : Option Jvm.ClassFile.FieldType)) rm_X2_tell 4 [(12, 12), (17, x1), (17, x2)] M Q
def wp_X2_tell_140 (V : VV) (x1 x2 x3 s0 s1 : Int) (M : Mem) (Q : Int → Mem → Prop) (B50 : Int → Mem → Prop) : Prop :=
  B50 (w32 (x3 + 1)) (mset M 12 5 (w32 (s1 + s0)))
theorem swp_X2_tell_140 {X : XX} {Q : Int → Mem → Prop} (G : GX X cX2_tell "TreeHands$Leader") (Z : RX X 4 Q) (hn : nLX X = 5) (hr : roomX X = rm_X2_tell) (x1 x2 x3 s0 s1 : Int) (M : Mem) (B50 : Int → Mem → Prop) (k50 : ∀ (z3 : Int) (N : Mem), B50 z3 N → AW X 50 [(12, 12), (17, x1), (17, x2), (0, z3), (99, 0)] [] N) (h : wp_X2_tell_140 (vX X) x1 x2 x3 s0 s1 M Q B50) : AW X 140 [(12, 12), (17, x1), (17, x2), (0, x3), (99, 0)] [(0, s0), (0, s1), (12, 12)] M := by
  unfold wp_X2_tell_140 at h
  refine am_iadd (pc := 140) G dX2_tell_140 ?_
  refine pf_X2_5 (pc := 141) G dX2_tell_141 tw_f_RX2_109 ?_
  refine am_iinc (pc := 144) G dX2_tell_144 rfl (nlx hn rfl) rfl ?_
  refine am_goto (pc := 147) (ls := [(12, _), (17, _), (17, _), (0, _), (99, _)]) G 50 dX2_tell_147 (by decide) ?_
  refine am_le (ls' := [(12, _), (17, _), (17, _), (0, _), (99, 0)]) ⟨Or.inr rfl, ⟨Or.inr rfl, ⟨Or.inr rfl, ⟨Or.inr rfl, ⟨Or.inl rfl, trivial⟩⟩⟩⟩⟩ ?_
  exact k50 _ _ h
def wp_X2_tell_86 (V : VV) (x1 x2 x3 x4 s0 s1 : Int) (M : Mem) (Q : Int → Mem → Prop) (B50 : Int → Mem → Prop) : Prop :=
  ((0 : Int) ≤ s1 ∧ s1 < (16 : Int)) ∧
  ∀ M7 : Mem, M7 = mset M 14 s1 s0 →
  R_X7_has V x2 x4 M7 (fun r8 M9 =>
  (r8 = 0 →
    B50 (w32 (x3 + 1)) M9) ∧ (¬ (r8 = 0) →
    ((0 : Int) ≤ x4 ∧ x4 < (16 : Int)) ∧
    ∀ M10 : Mem, M10 = mset M9 15 x4 x3 →
    ∀ M11 : Mem, M11 = mset M10 12 4 (w32 (M10 12 4 + 1)) →
    ((0 : Int) ≤ x3 ∧ x3 < (16 : Int)) ∧
    ((0 : Int) ≤ x4 ∧ x4 < (16 : Int)) ∧
    (M11 (x1 + 1) x3 = M11 (x2 + 1) x4 →
      wp_X2_tell_140 V x1 x2 x3 0 (M11 12 5) M11 Q B50) ∧ (¬ (M11 (x1 + 1) x3 = M11 (x2 + 1) x4) →
      wp_X2_tell_140 V x1 x2 x3 1 (M11 12 5) M11 Q B50)))
theorem swp_X2_tell_86 {X : XX} {Q : Int → Mem → Prop} (G : GX X cX2_tell "TreeHands$Leader") (Z : RX X 4 Q) (hn : nLX X = 5) (hr : roomX X = rm_X2_tell) (x1 x2 x3 x4 s0 s1 : Int) (M : Mem) (B50 : Int → Mem → Prop) (k50 : ∀ (z3 : Int) (N : Mem), B50 z3 N → AW X 50 [(12, 12), (17, x1), (17, x2), (0, z3), (99, 0)] [] N) (h : wp_X2_tell_86 (vX X) x1 x2 x3 x4 s0 s1 M Q B50) : AW X 86 [(12, 12), (17, x1), (17, x2), (0, x3), (0, x4)] [(0, s0), (0, s1), (116, 14)] M := by
  unfold wp_X2_tell_86 at h
  refine am_iast (pc := 86) G 16 dX2_tell_86 (by decide) h.1 ?_
  have h := h.2
  refine am_aload_n (i := 2) (t := 14) (pc := 87) G dX2_tell_87 rfl rfl rfl ?_
  refine am_iload (pc := 88) G dX2_tell_88 rfl ?_
  have h := h _ rfl
  refine am_callV (rk := 1) (rmc := rm_X7_has) (st := []) (pc := 90) G 7 [(0, _)] rfl (by decide) rfl dX2_tell_90 tw_m_RX2_55 tw_i_X7_has tw_v_X7_has tw_z_RX7 tw_c_X7_has hy_X7_has (callrm hr rfl) rfl (RunsM.mono h (fun r8 M9 h => ?_)) Z.rm
  show AW X 93 _ [(0, _)] M9
  refine am_if_eq (pc := 93) G 144 dX2_tell_93 (by decide) (fun c => ?_) (fun c => ?_)
  · have h := h.1 c
    refine am_iinc (pc := 144) G dX2_tell_144 rfl (nlx hn rfl) rfl ?_
    refine am_goto (pc := 147) (ls := [(12, _), (17, _), (17, _), (0, _), (0, _)]) G 50 dX2_tell_147 (by decide) ?_
    refine am_le (ls' := [(12, _), (17, _), (17, _), (0, _), (99, 0)]) ⟨Or.inr rfl, ⟨Or.inr rfl, ⟨Or.inr rfl, ⟨Or.inr rfl, ⟨Or.inl rfl, trivial⟩⟩⟩⟩⟩ ?_
    exact k50 _ _ h
  · have h := h.2 c
    refine am_aload_n (i := 0) (t := 9) (pc := 96) G dX2_tell_96 rfl rfl rfl ?_
    refine gf_X2_2 (pc := 97) G dX2_tell_97 tw_f_RX2_18 ?_
    refine am_iload (pc := 100) G dX2_tell_100 rfl ?_
    refine am_iload_n (i := 3) (pc := 102) G dX2_tell_102 rfl rfl ?_
    refine am_iast (pc := 103) G 16 dX2_tell_103 (by decide) h.1 ?_
    have h := h.2
    refine am_aload_n (i := 0) (t := 9) (pc := 104) G dX2_tell_104 rfl rfl rfl ?_
    refine am_dup (pc := 105) G dX2_tell_105 (Nat.ne_of_beq_eq_false rfl) ?_
    have h := h _ rfl
    refine gf_X2_4 (pc := 106) G dX2_tell_106 tw_f_RX2_106 ?_
    refine am_iconst (pc := 109) G dX2_tell_109 (by decide) ?_
    refine am_iadd (pc := 110) G dX2_tell_110 ?_
    refine pf_X2_4 (pc := 111) G dX2_tell_111 tw_f_RX2_106 ?_
    refine am_aload_n (i := 0) (t := 9) (pc := 114) G dX2_tell_114 rfl rfl rfl ?_
    refine am_dup (pc := 115) G dX2_tell_115 (Nat.ne_of_beq_eq_false rfl) ?_
    have h := h _ rfl
    refine gf_X2_5 (pc := 116) G dX2_tell_116 tw_f_RX2_109 ?_
    refine am_aload_n (i := 1) (t := 14) (pc := 119) G dX2_tell_119 rfl rfl rfl ?_
    refine gf_X7_1 (pc := 120) G dX2_tell_120 tw_f_RX2_79 ?_
    refine am_iload_n (i := 3) (pc := 123) G dX2_tell_123 rfl rfl ?_
    refine am_iald (pc := 124) G 16 dX2_tell_124 (by decide) h.1 ?_
    have h := h.2
    refine am_aload_n (i := 2) (t := 14) (pc := 125) G dX2_tell_125 rfl rfl rfl ?_
    refine gf_X7_1 (pc := 126) G dX2_tell_126 tw_f_RX2_79 ?_
    refine am_iload (pc := 129) G dX2_tell_129 rfl ?_
    refine am_iald (pc := 131) G 16 dX2_tell_131 (by decide) h.1 ?_
    have h := h.2
    refine am_icmp_ne (pc := 132) G 139 dX2_tell_132 (by decide) (fun c => ?_) (fun c => ?_)
    · have h := h.2 c
      refine am_iconst (pc := 139) G dX2_tell_139 (by decide) ?_
      refine am_le (ls' := [(12, _), (17, _), (17, _), (0, _), (99, 0)]) ⟨Or.inr rfl, ⟨Or.inr rfl, ⟨Or.inr rfl, ⟨Or.inr rfl, ⟨Or.inl rfl, trivial⟩⟩⟩⟩⟩ ?_
      exact swp_X2_tell_140 G Z hn hr _ _ _ _ _ _ B50 k50 h
    · have h := h.1 c
      refine am_iconst (pc := 135) G dX2_tell_135 (by decide) ?_
      refine am_goto (pc := 136) G 140 dX2_tell_136 (by decide) ?_
      refine am_le (ls' := [(12, _), (17, _), (17, _), (0, _), (99, 0)]) ⟨Or.inr rfl, ⟨Or.inr rfl, ⟨Or.inr rfl, ⟨Or.inr rfl, ⟨Or.inl rfl, trivial⟩⟩⟩⟩⟩ ?_
      exact swp_X2_tell_140 G Z hn hr _ _ _ _ _ _ B50 k50 h
def wp_X2_tell_50_b (V : VV) (x1 x2 x3 : Int) (M : Mem) (Q : Int → Mem → Prop) (B50 : Int → Mem → Prop) : Prop :=
  (M x1 0 ≤ x3 →
    Q 0 M) ∧ (¬ (M x1 0 ≤ x3) →
    R_X2_partnerBits V x3 M (fun r3 M4 =>
    R_X7_has V x2 r3 M4 (fun r5 M6 =>
    (r5 = 0 →
      wp_X2_tell_86 V x1 x2 x3 r3 99 x3 M6 Q B50) ∧ (¬ (r5 = 0) →
      wp_X2_tell_86 V x1 x2 x3 r3 r3 x3 M6 Q B50))))
theorem swp_X2_tell_50_b {X : XX} {Q : Int → Mem → Prop} (G : GX X cX2_tell "TreeHands$Leader") (Z : RX X 4 Q) (hn : nLX X = 5) (hr : roomX X = rm_X2_tell) (x1 x2 x3 : Int) (M : Mem) (B50 : Int → Mem → Prop) (k50 : ∀ (z3 : Int) (N : Mem), B50 z3 N → AW X 50 [(12, 12), (17, x1), (17, x2), (0, z3), (99, 0)] [] N) (h : wp_X2_tell_50_b (vX X) x1 x2 x3 M Q B50) : AW X 50 [(12, 12), (17, x1), (17, x2), (0, x3), (99, 0)] [] M := by
  unfold wp_X2_tell_50_b at h
  refine am_iload_n (i := 3) (pc := 50) G dX2_tell_50 rfl rfl ?_
  refine am_aload_n (i := 1) (t := 14) (pc := 51) G dX2_tell_51 rfl rfl rfl ?_
  refine gf_X7_0 (pc := 52) G dX2_tell_52 tw_f_RX2_34 ?_
  refine am_icmp_ge (pc := 55) G 150 dX2_tell_55 (by decide) (fun c => ?_) (fun c => ?_)
  · have h := h.1 c
    exact am_vret (pc := 150) G Z dX2_tell_150 h
  · have h := h.2 c
    refine am_aload_n (i := 0) (t := 9) (pc := 58) G dX2_tell_58 rfl rfl rfl ?_
    refine am_iload_n (i := 3) (pc := 59) G dX2_tell_59 rfl rfl ?_
    refine am_callV (rk := 0) (rmc := rm_X2_partnerBits) (st := []) (pc := 60) G 2 [(0, _)] rfl (by decide) rfl dX2_tell_60 tw_m_RX2_112 tw_i_X2_partnerBits tw_v_X2_partnerBits tw_z_RX2 tw_c_X2_partnerBits hy_X2_partnerBits (callrm hr rfl) rfl (RunsM.mono h (fun r3 M4 h => ?_)) Z.rm
    show AW X 63 _ [(0, _)] M4
    refine am_istore (pc := 63) G dX2_tell_63 (nlx hn rfl) rfl ?_
    refine am_aload_n (i := 0) (t := 9) (pc := 65) (ls := [(12, _), (17, _), (17, _), (0, _), (0, _)]) G dX2_tell_65 rfl rfl rfl ?_
    refine gf_X2_1 (pc := 66) G dX2_tell_66 tw_f_RX2_15 ?_
    refine am_iload_n (i := 3) (pc := 69) G dX2_tell_69 rfl rfl ?_
    refine am_aload_n (i := 2) (t := 14) (pc := 70) G dX2_tell_70 rfl rfl rfl ?_
    refine am_iload (pc := 71) G dX2_tell_71 rfl ?_
    refine am_callV (rk := 1) (rmc := rm_X7_has) (st := [(0, _), (116, _)]) (pc := 73) G 7 [(0, _)] rfl (by decide) rfl dX2_tell_73 tw_m_RX2_55 tw_i_X7_has tw_v_X7_has tw_z_RX7 tw_c_X7_has hy_X7_has (callrm hr rfl) rfl (RunsM.mono h (fun r5 M6 h => ?_)) Z.rm
    show AW X 76 _ [(0, _), (0, _), (116, _)] M6
    refine am_if_eq (pc := 76) G 84 dX2_tell_76 (by decide) (fun c => ?_) (fun c => ?_)
    · have h := h.1 c
      refine am_bipush (pc := 84) G dX2_tell_84 (by decide) (by decide) ?_
      refine am_le (ls' := [(12, _), (17, _), (17, _), (0, _), (0, _)]) ⟨Or.inr rfl, ⟨Or.inr rfl, ⟨Or.inr rfl, ⟨Or.inr rfl, ⟨Or.inr rfl, trivial⟩⟩⟩⟩⟩ ?_
      exact swp_X2_tell_86 G Z hn hr _ _ _ _ _ _ _ B50 k50 h
    · have h := h.2 c
      refine am_iload (pc := 79) G dX2_tell_79 rfl ?_
      refine am_goto (pc := 81) G 86 dX2_tell_81 (by decide) ?_
      refine am_le (ls' := [(12, _), (17, _), (17, _), (0, _), (0, _)]) ⟨Or.inr rfl, ⟨Or.inr rfl, ⟨Or.inr rfl, ⟨Or.inr rfl, ⟨Or.inr rfl, trivial⟩⟩⟩⟩⟩ ?_
      exact swp_X2_tell_86 G Z hn hr _ _ _ _ _ _ _ B50 k50 h
def wp_X2_tell_50 (V : VV) (x1 x2 x3 : Int) (M : Mem) (Q : Int → Mem → Prop) : Prop :=
  ∃ (I : Int → Mem → Prop) (μ : Int → Mem → Nat), I x3 M ∧ ∀ (y3 : Int) (N : Mem), I y3 N → wp_X2_tell_50_b V x1 x2 y3 N Q (fun z3 N1 => I z3 N1 ∧ μ z3 N1 < μ y3 N)
theorem swp_X2_tell_50 {X : XX} {Q : Int → Mem → Prop} (G : GX X cX2_tell "TreeHands$Leader") (Z : RX X 4 Q) (hn : nLX X = 5) (hr : roomX X = rm_X2_tell) (x1 x2 x3 : Int) (M : Mem) (h : wp_X2_tell_50 (vX X) x1 x2 x3 M Q) : AW X 50 [(12, 12), (17, x1), (17, x2), (0, x3), (99, 0)] [] M := by
  unfold wp_X2_tell_50 at h
  obtain ⟨I, μ, hI, hs⟩ := h
  have key : ∀ (n : Nat) (y3 : Int) (N : Mem), μ y3 N < n → I y3 N → AW X 50 [(12, 12), (17, x1), (17, x2), (0, y3), (99, 0)] [] N := by
    intro n
    induction n with
    | zero => intro y3 N hlt; exact absurd hlt (Nat.not_lt_zero _)
    | succ n ih =>
      intro y3 N hlt hI
      exact swp_X2_tell_50_b G Z hn hr x1 x2 y3 N (fun z3 N1 => I z3 N1 ∧ μ z3 N1 < μ y3 N) (fun z3 N1 hz => ih z3 N1 (by omega) hz.1) (hs y3 N hI)
  exact key _ x3 M (Nat.lt_succ_self _) hI
def wp_X2_tell_26_b (V : VV) (x1 x2 x3 : Int) (M : Mem) (Q : Int → Mem → Prop) (B26 : Int → Mem → Prop) : Prop :=
  (M x2 0 ≤ x3 →
    wp_X2_tell_50 V x1 x2 0 M Q) ∧ (¬ (M x2 0 ≤ x3) →
    ((0 : Int) ≤ x3 ∧ x3 < (16 : Int)) ∧
    B26 (w32 (x3 + 1)) (mset M 15 x3 99))
theorem swp_X2_tell_26_b {X : XX} {Q : Int → Mem → Prop} (G : GX X cX2_tell "TreeHands$Leader") (Z : RX X 4 Q) (hn : nLX X = 5) (hr : roomX X = rm_X2_tell) (x1 x2 x3 : Int) (M : Mem) (B26 : Int → Mem → Prop) (k26 : ∀ (z3 : Int) (N : Mem), B26 z3 N → AW X 26 [(12, 12), (17, x1), (17, x2), (0, z3), (99, 0)] [] N) (h : wp_X2_tell_26_b (vX X) x1 x2 x3 M Q B26) : AW X 26 [(12, 12), (17, x1), (17, x2), (0, x3), (99, 0)] [] M := by
  unfold wp_X2_tell_26_b at h
  refine am_iload_n (i := 3) (pc := 26) G dX2_tell_26 rfl rfl ?_
  refine am_aload_n (i := 2) (t := 14) (pc := 27) G dX2_tell_27 rfl rfl rfl ?_
  refine gf_X7_0 (pc := 28) G dX2_tell_28 tw_f_RX2_34 ?_
  refine am_icmp_ge (pc := 31) G 48 dX2_tell_31 (by decide) (fun c => ?_) (fun c => ?_)
  · have h := h.1 c
    refine am_iconst (pc := 48) G dX2_tell_48 (by decide) ?_
    refine am_istore_n (pc := 49) G dX2_tell_49 rfl (nlx hn rfl) rfl ?_
    refine am_le (ls' := [(12, _), (17, _), (17, _), (0, _), (99, 0)]) ⟨Or.inr rfl, ⟨Or.inr rfl, ⟨Or.inr rfl, ⟨Or.inr rfl, ⟨Or.inl rfl, trivial⟩⟩⟩⟩⟩ ?_
    exact swp_X2_tell_50 G Z hn hr _ _ _ _ h
  · have h := h.2 c
    refine am_aload_n (i := 0) (t := 9) (pc := 34) G dX2_tell_34 rfl rfl rfl ?_
    refine gf_X2_2 (pc := 35) G dX2_tell_35 tw_f_RX2_18 ?_
    refine am_iload_n (i := 3) (pc := 38) G dX2_tell_38 rfl rfl ?_
    refine am_bipush (pc := 39) G dX2_tell_39 (by decide) (by decide) ?_
    refine am_iast (pc := 41) G 16 dX2_tell_41 (by decide) h.1 ?_
    have h := h.2
    refine am_iinc (pc := 42) G dX2_tell_42 rfl (nlx hn rfl) rfl ?_
    refine am_goto (pc := 45) (ls := [(12, _), (17, _), (17, _), (0, _), (99, _)]) G 26 dX2_tell_45 (by decide) ?_
    refine am_le (ls' := [(12, _), (17, _), (17, _), (0, _), (99, 0)]) ⟨Or.inr rfl, ⟨Or.inr rfl, ⟨Or.inr rfl, ⟨Or.inr rfl, ⟨Or.inl rfl, trivial⟩⟩⟩⟩⟩ ?_
    exact k26 _ _ h
def wp_X2_tell_26 (V : VV) (x1 x2 x3 : Int) (M : Mem) (Q : Int → Mem → Prop) : Prop :=
  ∃ (I : Int → Mem → Prop) (μ : Int → Mem → Nat), I x3 M ∧ ∀ (y3 : Int) (N : Mem), I y3 N → wp_X2_tell_26_b V x1 x2 y3 N Q (fun z3 N1 => I z3 N1 ∧ μ z3 N1 < μ y3 N)
theorem swp_X2_tell_26 {X : XX} {Q : Int → Mem → Prop} (G : GX X cX2_tell "TreeHands$Leader") (Z : RX X 4 Q) (hn : nLX X = 5) (hr : roomX X = rm_X2_tell) (x1 x2 x3 : Int) (M : Mem) (h : wp_X2_tell_26 (vX X) x1 x2 x3 M Q) : AW X 26 [(12, 12), (17, x1), (17, x2), (0, x3), (99, 0)] [] M := by
  unfold wp_X2_tell_26 at h
  obtain ⟨I, μ, hI, hs⟩ := h
  have key : ∀ (n : Nat) (y3 : Int) (N : Mem), μ y3 N < n → I y3 N → AW X 26 [(12, 12), (17, x1), (17, x2), (0, y3), (99, 0)] [] N := by
    intro n
    induction n with
    | zero => intro y3 N hlt; exact absurd hlt (Nat.not_lt_zero _)
    | succ n ih =>
      intro y3 N hlt hI
      exact swp_X2_tell_26_b G Z hn hr x1 x2 y3 N (fun z3 N1 => I z3 N1 ∧ μ z3 N1 < μ y3 N) (fun z3 N1 hz => ih z3 N1 (by omega) hz.1) (hs y3 N hI)
  exact key _ x3 M (Nat.lt_succ_self _) hI
def wp_X2_tell (V : VV) (x1 x2 : Int) (M : Mem) (Q : Int → Mem → Prop) : Prop :=
  ((0 : Int) ≤ 0 ∧ 0 < (289 : Int)) ∧
  ∀ M1 : Mem, M1 = mset M 12 3 (w32 (shr64 (M 16 0) 40)) →
  ∀ M2 : Mem, M2 = mset M1 12 4 0 →
  wp_X2_tell_26 V x1 x2 0 (mset M2 12 5 0) Q
theorem of_X2_tell {V : VV} {x1 x2 : Int} {M : Mem} {Q : Int → Mem → Prop} (h : wp_X2_tell V x1 x2 M Q) : R_X2_tell V x1 x2 M Q := by
  refine met_in (own := "TreeHands$Leader") (by decide +kernel) rfl rfl (Nat.le_of_ble_eq_true rfl) ?_
  intro X G Z hn hr hv
  subst hv
  unfold wp_X2_tell at h
  show AW X 0 [(12, 12), (17, x1), (17, x2), (99, 0), (99, 0)] [] M
  refine am_aload_n (i := 0) (t := 9) (pc := 0) G dX2_tell_0 rfl rfl rfl ?_
  refine am_aload_n (i := 0) (t := 9) (pc := 1) G dX2_tell_1 rfl rfl rfl ?_
  refine gf_X2_6 (pc := 2) G dX2_tell_2 tw_f_RX2_21 ?_
  refine am_iconst (pc := 5) G dX2_tell_5 (by decide) ?_
  refine am_lald (pc := 6) G 289 dX2_tell_6 (by decide) h.1 ?_
  have h := h.2
  refine am_bipush (pc := 7) G dX2_tell_7 (by decide) (by decide) ?_
  refine am_lshr (pc := 9) G dX2_tell_9 ?_
  refine am_l2i (pc := 10) G dX2_tell_10 ?_
  refine pf_X2_3 (pc := 11) G dX2_tell_11 tw_f_RX2_103 ?_
  refine am_aload_n (i := 0) (t := 9) (pc := 14) G dX2_tell_14 rfl rfl rfl ?_
  refine am_iconst (pc := 15) G dX2_tell_15 (by decide) ?_
  have h := h _ rfl
  refine pf_X2_4 (pc := 16) G dX2_tell_16 tw_f_RX2_106 ?_
  refine am_aload_n (i := 0) (t := 9) (pc := 19) G dX2_tell_19 rfl rfl rfl ?_
  refine am_iconst (pc := 20) G dX2_tell_20 (by decide) ?_
  have h := h _ rfl
  refine pf_X2_5 (pc := 21) G dX2_tell_21 tw_f_RX2_109 ?_
  refine am_iconst (pc := 24) G dX2_tell_24 (by decide) ?_
  refine am_istore_n (pc := 25) G dX2_tell_25 rfl (nlx hn rfl) rfl ?_
  refine am_le (ls' := [(12, _), (17, _), (17, _), (0, _), (99, 0)]) ⟨Or.inr rfl, ⟨Or.inr rfl, ⟨Or.inr rfl, ⟨Or.inr rfl, ⟨Or.inl rfl, trivial⟩⟩⟩⟩⟩ ?_
  exact swp_X2_tell_26 G Z hn hr _ _ _ _ h
-- X2_lead TreeHands$Leader.lead(LTreeHands$Tree;LTreeHands$Tree;)V
def rm_X2_lead : Room := { frames := 4, cells := 0, slots := 0, locals := 105 }
theorem hy_X2_lead : yX2_lead.cls ≠ "java/lang/invoke/MethodHandle" ∧ yX2_lead.cls ≠ "java/lang/invoke/VarHandle" ∧ (parseMethodDescriptor yX2_lead.desc).map (fun d => d.parameters.length) = some 2 := by decide +kernel
abbrev R_X2_lead (V : VV) (x1 x2 : Int) (M : Mem) (Q : Int → Mem → Prop) : Prop := RunsM V yX2_lead (.code yX2_lead cX2_lead 5 (Option.none : Option Jvm.ClassFile.FieldType)) rm_X2_lead 4 [(12, 12), (17, x1), (17, x2)] M Q
def wp_X2_lead_19_b (V : VV) (x1 x2 x3 x4 : Int) (M : Mem) (Q : Int → Mem → Prop) (B7 : Int → Mem → Prop) (B19 : Int → Mem → Prop) : Prop :=
  (x4 < 0 →
    B7 (w32 (x3 + (-1))) M) ∧ (¬ (x4 < 0) →
    R_X2_endsAlone V x1 x3 M (fun r5 M6 =>
    (r5 = 0 →
      B19 (w32 (x4 + (-1))) M6) ∧ (¬ (r5 = 0) →
      R_X2_endsAlone V x2 x4 M6 (fun r7 M8 =>
      (r7 = 0 →
        B19 (w32 (x4 + (-1))) M8) ∧ (¬ (r7 = 0) →
        R_X2_weigh V x1 x3 x2 x4 M8 (fun _ M10 =>
        B19 (w32 (x4 + (-1))) M10))))))
theorem swp_X2_lead_19_b {X : XX} {Q : Int → Mem → Prop} (G : GX X cX2_lead "TreeHands$Leader") (Z : RX X 4 Q) (hn : nLX X = 5) (hr : roomX X = rm_X2_lead) (x1 x2 x3 x4 : Int) (M : Mem) (B7 : Int → Mem → Prop) (k7 : ∀ (z3 : Int) (N : Mem), B7 z3 N → AW X 7 [(12, 12), (17, x1), (17, x2), (0, z3), (99, 0)] [] N) (B19 : Int → Mem → Prop) (k19 : ∀ (z4 : Int) (N : Mem), B19 z4 N → AW X 19 [(12, 12), (17, x1), (17, x2), (0, x3), (0, z4)] [] N) (h : wp_X2_lead_19_b (vX X) x1 x2 x3 x4 M Q B7 B19) : AW X 19 [(12, 12), (17, x1), (17, x2), (0, x3), (0, x4)] [] M := by
  unfold wp_X2_lead_19_b at h
  refine am_iload (pc := 19) G dX2_lead_19 rfl ?_
  refine am_if_lt (pc := 21) G 56 dX2_lead_21 (by decide) (fun c => ?_) (fun c => ?_)
  · have h := h.1 c
    refine am_iinc (pc := 56) G dX2_lead_56 rfl (nlx hn rfl) rfl ?_
    refine am_goto (pc := 59) (ls := [(12, _), (17, _), (17, _), (0, _), (0, _)]) G 7 dX2_lead_59 (by decide) ?_
    refine am_le (ls' := [(12, _), (17, _), (17, _), (0, _), (99, 0)]) ⟨Or.inr rfl, ⟨Or.inr rfl, ⟨Or.inr rfl, ⟨Or.inr rfl, ⟨Or.inl rfl, trivial⟩⟩⟩⟩⟩ ?_
    exact k7 _ _ h
  · have h := h.2 c
    refine am_aload_n (i := 1) (t := 14) (pc := 24) G dX2_lead_24 rfl rfl rfl ?_
    refine am_iload_n (i := 3) (pc := 25) G dX2_lead_25 rfl rfl ?_
    refine am_callS (rk := 1) (rmc := rm_X2_endsAlone) (st := []) (pc := 26) G [(17, _), (0, _)] dX2_lead_26 tw_m_RX2_40 tw_s_X2_endsAlone tw_z_RX2 tw_c_X2_endsAlone hy_X2_endsAlone (callrm hr rfl) rfl (RunsM.mono h (fun r5 M6 h => ?_)) Z.rm
    show AW X 29 _ [(0, _)] M6
    refine am_if_eq (pc := 29) G 50 dX2_lead_29 (by decide) (fun c => ?_) (fun c => ?_)
    · have h := h.1 c
      refine am_iinc (pc := 50) G dX2_lead_50 rfl (nlx hn rfl) rfl ?_
      refine am_goto (pc := 53) (ls := [(12, _), (17, _), (17, _), (0, _), (0, _)]) G 19 dX2_lead_53 (by decide) ?_
      refine am_le (ls' := [(12, _), (17, _), (17, _), (0, _), (0, _)]) ⟨Or.inr rfl, ⟨Or.inr rfl, ⟨Or.inr rfl, ⟨Or.inr rfl, ⟨Or.inr rfl, trivial⟩⟩⟩⟩⟩ ?_
      exact k19 _ _ h
    · have h := h.2 c
      refine am_aload_n (i := 2) (t := 14) (pc := 32) G dX2_lead_32 rfl rfl rfl ?_
      refine am_iload (pc := 33) G dX2_lead_33 rfl ?_
      refine am_callS (rk := 1) (rmc := rm_X2_endsAlone) (st := []) (pc := 35) G [(17, _), (0, _)] dX2_lead_35 tw_m_RX2_40 tw_s_X2_endsAlone tw_z_RX2 tw_c_X2_endsAlone hy_X2_endsAlone (callrm hr rfl) rfl (RunsM.mono h (fun r7 M8 h => ?_)) Z.rm
      show AW X 38 _ [(0, _)] M8
      refine am_if_eq (pc := 38) G 50 dX2_lead_38 (by decide) (fun c => ?_) (fun c => ?_)
      · have h := h.1 c
        refine am_iinc (pc := 50) G dX2_lead_50 rfl (nlx hn rfl) rfl ?_
        refine am_goto (pc := 53) (ls := [(12, _), (17, _), (17, _), (0, _), (0, _)]) G 19 dX2_lead_53 (by decide) ?_
        refine am_le (ls' := [(12, _), (17, _), (17, _), (0, _), (0, _)]) ⟨Or.inr rfl, ⟨Or.inr rfl, ⟨Or.inr rfl, ⟨Or.inr rfl, ⟨Or.inr rfl, trivial⟩⟩⟩⟩⟩ ?_
        exact k19 _ _ h
      · have h := h.2 c
        refine am_aload_n (i := 0) (t := 9) (pc := 41) G dX2_lead_41 rfl rfl rfl ?_
        refine am_aload_n (i := 1) (t := 14) (pc := 42) G dX2_lead_42 rfl rfl rfl ?_
        refine am_iload_n (i := 3) (pc := 43) G dX2_lead_43 rfl rfl ?_
        refine am_aload_n (i := 2) (t := 14) (pc := 44) G dX2_lead_44 rfl rfl rfl ?_
        refine am_iload (pc := 45) G dX2_lead_45 rfl ?_
        refine am_callV (rk := 4) (rmc := rm_X2_weigh) (st := []) (pc := 47) G 2 [(17, _), (0, _), (17, _), (0, _)] rfl (by decide) rfl dX2_lead_47 tw_m_RX2_44 tw_i_X2_weigh tw_v_X2_weigh tw_z_RX2 tw_c_X2_weigh hy_X2_weigh (callrm hr rfl) rfl (RunsM.mono h (fun r9 M10 h => ?_)) Z.rm
        show AW X 50 _ [] M10
        refine am_iinc (pc := 50) G dX2_lead_50 rfl (nlx hn rfl) rfl ?_
        refine am_goto (pc := 53) (ls := [(12, _), (17, _), (17, _), (0, _), (0, _)]) G 19 dX2_lead_53 (by decide) ?_
        refine am_le (ls' := [(12, _), (17, _), (17, _), (0, _), (0, _)]) ⟨Or.inr rfl, ⟨Or.inr rfl, ⟨Or.inr rfl, ⟨Or.inr rfl, ⟨Or.inr rfl, trivial⟩⟩⟩⟩⟩ ?_
        exact k19 _ _ h
def wp_X2_lead_19 (V : VV) (x1 x2 x3 x4 : Int) (M : Mem) (Q : Int → Mem → Prop) (B7 : Int → Mem → Prop) : Prop :=
  ∃ (I : Int → Mem → Prop) (μ : Int → Mem → Nat), I x4 M ∧ ∀ (y4 : Int) (N : Mem), I y4 N → wp_X2_lead_19_b V x1 x2 x3 y4 N Q B7 (fun z4 N1 => I z4 N1 ∧ μ z4 N1 < μ y4 N)
theorem swp_X2_lead_19 {X : XX} {Q : Int → Mem → Prop} (G : GX X cX2_lead "TreeHands$Leader") (Z : RX X 4 Q) (hn : nLX X = 5) (hr : roomX X = rm_X2_lead) (x1 x2 x3 x4 : Int) (M : Mem) (B7 : Int → Mem → Prop) (k7 : ∀ (z3 : Int) (N : Mem), B7 z3 N → AW X 7 [(12, 12), (17, x1), (17, x2), (0, z3), (99, 0)] [] N) (h : wp_X2_lead_19 (vX X) x1 x2 x3 x4 M Q B7) : AW X 19 [(12, 12), (17, x1), (17, x2), (0, x3), (0, x4)] [] M := by
  unfold wp_X2_lead_19 at h
  obtain ⟨I, μ, hI, hs⟩ := h
  have key : ∀ (n : Nat) (y4 : Int) (N : Mem), μ y4 N < n → I y4 N → AW X 19 [(12, 12), (17, x1), (17, x2), (0, x3), (0, y4)] [] N := by
    intro n
    induction n with
    | zero => intro y4 N hlt; exact absurd hlt (Nat.not_lt_zero _)
    | succ n ih =>
      intro y4 N hlt hI
      exact swp_X2_lead_19_b G Z hn hr x1 x2 x3 y4 N B7 k7 (fun z4 N1 => I z4 N1 ∧ μ z4 N1 < μ y4 N) (fun z4 N1 hz => ih z4 N1 (by omega) hz.1) (hs y4 N hI)
  exact key _ x4 M (Nat.lt_succ_self _) hI
def wp_X2_lead_7_b (V : VV) (x1 x2 x3 : Int) (M : Mem) (Q : Int → Mem → Prop) (B7 : Int → Mem → Prop) : Prop :=
  (x3 < 0 →
    R_X2_tell V x1 x2 M (fun _ M3 =>
    Q 0 M3)) ∧ (¬ (x3 < 0) →
    ∀ v4 : Int, v4 = w32 (M x2 0 - 1) →
    wp_X2_lead_19 V x1 x2 x3 v4 M Q B7)
theorem swp_X2_lead_7_b {X : XX} {Q : Int → Mem → Prop} (G : GX X cX2_lead "TreeHands$Leader") (Z : RX X 4 Q) (hn : nLX X = 5) (hr : roomX X = rm_X2_lead) (x1 x2 x3 : Int) (M : Mem) (B7 : Int → Mem → Prop) (k7 : ∀ (z3 : Int) (N : Mem), B7 z3 N → AW X 7 [(12, 12), (17, x1), (17, x2), (0, z3), (99, 0)] [] N) (h : wp_X2_lead_7_b (vX X) x1 x2 x3 M Q B7) : AW X 7 [(12, 12), (17, x1), (17, x2), (0, x3), (99, 0)] [] M := by
  unfold wp_X2_lead_7_b at h
  refine am_iload_n (i := 3) (pc := 7) G dX2_lead_7 rfl rfl ?_
  refine am_if_lt (pc := 8) G 62 dX2_lead_8 (by decide) (fun c => ?_) (fun c => ?_)
  · have h := h.1 c
    refine am_aload_n (i := 0) (t := 9) (pc := 62) G dX2_lead_62 rfl rfl rfl ?_
    refine am_aload_n (i := 1) (t := 14) (pc := 63) G dX2_lead_63 rfl rfl rfl ?_
    refine am_aload_n (i := 2) (t := 14) (pc := 64) G dX2_lead_64 rfl rfl rfl ?_
    refine am_callV (rk := 4) (rmc := rm_X2_tell) (st := []) (pc := 65) G 2 [(17, _), (17, _)] rfl (by decide) rfl dX2_lead_65 tw_m_RX2_48 tw_i_X2_tell tw_v_X2_tell tw_z_RX2 tw_c_X2_tell hy_X2_tell (callrm hr rfl) rfl (RunsM.mono h (fun r2 M3 h => ?_)) Z.rm
    show AW X 68 _ [] M3
    exact am_vret (pc := 68) G Z dX2_lead_68 h
  · have h := h.2 c
    refine am_aload_n (i := 2) (t := 14) (pc := 11) G dX2_lead_11 rfl rfl rfl ?_
    refine gf_X7_0 (pc := 12) G dX2_lead_12 tw_f_RX2_34 ?_
    refine am_iconst (pc := 15) G dX2_lead_15 (by decide) ?_
    refine am_isub (pc := 16) G dX2_lead_16 ?_
    have h := h _ rfl
    refine am_istore (pc := 17) G dX2_lead_17 (nlx hn rfl) rfl ?_
    refine am_le (ls' := [(12, _), (17, _), (17, _), (0, _), (0, _)]) ⟨Or.inr rfl, ⟨Or.inr rfl, ⟨Or.inr rfl, ⟨Or.inr rfl, ⟨Or.inr rfl, trivial⟩⟩⟩⟩⟩ ?_
    exact swp_X2_lead_19 G Z hn hr _ _ _ _ _ B7 k7 h
def wp_X2_lead_7 (V : VV) (x1 x2 x3 : Int) (M : Mem) (Q : Int → Mem → Prop) : Prop :=
  ∃ (I : Int → Mem → Prop) (μ : Int → Mem → Nat), I x3 M ∧ ∀ (y3 : Int) (N : Mem), I y3 N → wp_X2_lead_7_b V x1 x2 y3 N Q (fun z3 N1 => I z3 N1 ∧ μ z3 N1 < μ y3 N)
theorem swp_X2_lead_7 {X : XX} {Q : Int → Mem → Prop} (G : GX X cX2_lead "TreeHands$Leader") (Z : RX X 4 Q) (hn : nLX X = 5) (hr : roomX X = rm_X2_lead) (x1 x2 x3 : Int) (M : Mem) (h : wp_X2_lead_7 (vX X) x1 x2 x3 M Q) : AW X 7 [(12, 12), (17, x1), (17, x2), (0, x3), (99, 0)] [] M := by
  unfold wp_X2_lead_7 at h
  obtain ⟨I, μ, hI, hs⟩ := h
  have key : ∀ (n : Nat) (y3 : Int) (N : Mem), μ y3 N < n → I y3 N → AW X 7 [(12, 12), (17, x1), (17, x2), (0, y3), (99, 0)] [] N := by
    intro n
    induction n with
    | zero => intro y3 N hlt; exact absurd hlt (Nat.not_lt_zero _)
    | succ n ih =>
      intro y3 N hlt hI
      exact swp_X2_lead_7_b G Z hn hr x1 x2 y3 N (fun z3 N1 => I z3 N1 ∧ μ z3 N1 < μ y3 N) (fun z3 N1 hz => ih z3 N1 (by omega) hz.1) (hs y3 N hI)
  exact key _ x3 M (Nat.lt_succ_self _) hI
def wp_X2_lead (V : VV) (x1 x2 : Int) (M : Mem) (Q : Int → Mem → Prop) : Prop :=
  ∀ v1 : Int, v1 = w32 (M x1 0 - 1) →
  wp_X2_lead_7 V x1 x2 v1 M Q
theorem of_X2_lead {V : VV} {x1 x2 : Int} {M : Mem} {Q : Int → Mem → Prop} (h : wp_X2_lead V x1 x2 M Q) : R_X2_lead V x1 x2 M Q := by
  refine met_in (own := "TreeHands$Leader") (by decide +kernel) rfl rfl (Nat.le_of_ble_eq_true rfl) ?_
  intro X G Z hn hr hv
  subst hv
  unfold wp_X2_lead at h
  show AW X 0 [(12, 12), (17, x1), (17, x2), (99, 0), (99, 0)] [] M
  refine am_aload_n (i := 1) (t := 14) (pc := 0) G dX2_lead_0 rfl rfl rfl ?_
  refine gf_X7_0 (pc := 1) G dX2_lead_1 tw_f_RX2_34 ?_
  refine am_iconst (pc := 4) G dX2_lead_4 (by decide) ?_
  refine am_isub (pc := 5) G dX2_lead_5 ?_
  have h := h _ rfl
  refine am_istore_n (pc := 6) G dX2_lead_6 rfl (nlx hn rfl) rfl ?_
  refine am_le (ls' := [(12, _), (17, _), (17, _), (0, _), (99, 0)]) ⟨Or.inr rfl, ⟨Or.inr rfl, ⟨Or.inr rfl, ⟨Or.inr rfl, ⟨Or.inl rfl, trivial⟩⟩⟩⟩⟩ ?_
  exact swp_X2_lead_7 G Z hn hr _ _ _ _ h
-- X3_useLed TreeHands$Mover.useLed(LTreeHands$Tree;[I[I)V
def rm_X3_useLed : Room := { frames := 0, cells := 0, slots := 0, locals := 0 }
theorem hy_X3_useLed : yX3_useLed.cls ≠ "java/lang/invoke/MethodHandle" ∧ yX3_useLed.cls ≠ "java/lang/invoke/VarHandle" ∧ (parseMethodDescriptor yX3_useLed.desc).map (fun d => d.parameters.length) = some 3 := by decide +kernel
abbrev R_X3_useLed (V : VV) (x0 x1 x2 : Int) (M : Mem) (Q : Int → Mem → Prop) : Prop := RunsM V yX3_useLed (.code yX3_useLed cX3_useLed 5 (Option.none : Option Jvm.ClassFile.FieldType)) rm_X3_useLed 4 [(17, x0), (116, x1), (116, x2)] M Q
def wp_X3_useLed_17_b (V : VV) (x0 x1 x2 x3 x4 : Int) (M : Mem) (Q : Int → Mem → Prop) (B2 : Int → Mem → Prop) (B17 : Int → Mem → Prop) : Prop :=
  ((0 : Int) ≤ x3 ∧ x3 < (16 : Int)) ∧
  (w32 (x3 + M (x0 + 3) x3) ≤ x4 →
    B2 (w32 (x3 + 1)) M) ∧ (¬ (w32 (x3 + M (x0 + 3) x3) ≤ x4) →
    (16 ≤ x4 →
      B2 (w32 (x3 + 1)) M) ∧ (¬ (16 ≤ x4) →
      ((0 : Int) ≤ x4 ∧ x4 < (16 : Int)) ∧
      (M x1 x4 = 99 →
        B17 (w32 (x4 + 1)) M) ∧ (¬ (M x1 x4 = 99) →
        ((0 : Int) ≤ x3 ∧ x3 < (16 : Int)) ∧
        B17 (w32 (x4 + 1)) (mset M x2 x3 1))))
theorem swp_X3_useLed_17_b {X : XX} {Q : Int → Mem → Prop} (G : GX X cX3_useLed "TreeHands$Mover") (Z : RX X 4 Q) (hn : nLX X = 5) (hr : roomX X = rm_X3_useLed) (x0 x1 x2 x3 x4 : Int) (M : Mem) (B2 : Int → Mem → Prop) (k2 : ∀ (z3 : Int) (N : Mem), B2 z3 N → AW X 2 [(17, x0), (116, x1), (116, x2), (0, z3), (99, 0)] [] N) (B17 : Int → Mem → Prop) (k17 : ∀ (z4 : Int) (N : Mem), B17 z4 N → AW X 17 [(17, x0), (116, x1), (116, x2), (0, x3), (0, z4)] [] N) (h : wp_X3_useLed_17_b (vX X) x0 x1 x2 x3 x4 M Q B2 B17) : AW X 17 [(17, x0), (116, x1), (116, x2), (0, x3), (0, x4)] [] M := by
  unfold wp_X3_useLed_17_b at h
  refine am_iload (pc := 17) G dX3_useLed_17 rfl ?_
  refine am_iload_n (i := 3) (pc := 19) G dX3_useLed_19 rfl rfl ?_
  refine am_aload_n (i := 0) (t := 14) (pc := 20) G dX3_useLed_20 rfl rfl rfl ?_
  refine gf_X7_3 (pc := 21) G dX3_useLed_21 tw_f_RX3_40 ?_
  refine am_iload_n (i := 3) (pc := 24) G dX3_useLed_24 rfl rfl ?_
  refine am_iald (pc := 25) G 16 dX3_useLed_25 (by decide) h.1 ?_
  have h := h.2
  refine am_iadd (pc := 26) G dX3_useLed_26 ?_
  refine am_icmp_ge (pc := 27) G 56 dX3_useLed_27 (by decide) (fun c => ?_) (fun c => ?_)
  · have h := h.1 c
    refine am_iinc (pc := 56) G dX3_useLed_56 rfl (nlx hn rfl) rfl ?_
    refine am_goto (pc := 59) (ls := [(17, _), (116, _), (116, _), (0, _), (0, _)]) G 2 dX3_useLed_59 (by decide) ?_
    refine am_le (ls' := [(17, _), (116, _), (116, _), (0, _), (99, 0)]) ⟨Or.inr rfl, ⟨Or.inr rfl, ⟨Or.inr rfl, ⟨Or.inr rfl, ⟨Or.inl rfl, trivial⟩⟩⟩⟩⟩ ?_
    exact k2 _ _ h
  · have h := h.2 c
    refine am_iload (pc := 30) G dX3_useLed_30 rfl ?_
    refine am_aload_n (i := 1) (t := 113) (pc := 32) G dX3_useLed_32 rfl rfl rfl ?_
    refine am_alen (pc := 33) G 16 dX3_useLed_33 (by decide) ?_
    refine am_icmp_ge (pc := 34) G 56 dX3_useLed_34 (by decide) (fun c => ?_) (fun c => ?_)
    · have h := h.1 c
      refine am_iinc (pc := 56) G dX3_useLed_56 rfl (nlx hn rfl) rfl ?_
      refine am_goto (pc := 59) (ls := [(17, _), (116, _), (116, _), (0, _), (0, _)]) G 2 dX3_useLed_59 (by decide) ?_
      refine am_le (ls' := [(17, _), (116, _), (116, _), (0, _), (99, 0)]) ⟨Or.inr rfl, ⟨Or.inr rfl, ⟨Or.inr rfl, ⟨Or.inr rfl, ⟨Or.inl rfl, trivial⟩⟩⟩⟩⟩ ?_
      exact k2 _ _ h
    · have h := h.2 c
      refine am_aload_n (i := 1) (t := 113) (pc := 37) G dX3_useLed_37 rfl rfl rfl ?_
      refine am_iload (pc := 38) G dX3_useLed_38 rfl ?_
      refine am_iald (pc := 40) G 16 dX3_useLed_40 (by decide) h.1 ?_
      have h := h.2
      refine am_bipush (pc := 41) G dX3_useLed_41 (by decide) (by decide) ?_
      refine am_icmp_eq (pc := 43) G 50 dX3_useLed_43 (by decide) (fun c => ?_) (fun c => ?_)
      · have h := h.1 c
        refine am_iinc (pc := 50) G dX3_useLed_50 rfl (nlx hn rfl) rfl ?_
        refine am_goto (pc := 53) (ls := [(17, _), (116, _), (116, _), (0, _), (0, _)]) G 17 dX3_useLed_53 (by decide) ?_
        refine am_le (ls' := [(17, _), (116, _), (116, _), (0, _), (0, _)]) ⟨Or.inr rfl, ⟨Or.inr rfl, ⟨Or.inr rfl, ⟨Or.inr rfl, ⟨Or.inr rfl, trivial⟩⟩⟩⟩⟩ ?_
        exact k17 _ _ h
      · have h := h.2 c
        refine am_aload_n (i := 2) (t := 113) (pc := 46) G dX3_useLed_46 rfl rfl rfl ?_
        refine am_iload_n (i := 3) (pc := 47) G dX3_useLed_47 rfl rfl ?_
        refine am_iconst (pc := 48) G dX3_useLed_48 (by decide) ?_
        refine am_iast (pc := 49) G 16 dX3_useLed_49 (by decide) h.1 ?_
        have h := h.2
        refine am_iinc (pc := 50) G dX3_useLed_50 rfl (nlx hn rfl) rfl ?_
        refine am_goto (pc := 53) (ls := [(17, _), (116, _), (116, _), (0, _), (0, _)]) G 17 dX3_useLed_53 (by decide) ?_
        refine am_le (ls' := [(17, _), (116, _), (116, _), (0, _), (0, _)]) ⟨Or.inr rfl, ⟨Or.inr rfl, ⟨Or.inr rfl, ⟨Or.inr rfl, ⟨Or.inr rfl, trivial⟩⟩⟩⟩⟩ ?_
        exact k17 _ _ h
def wp_X3_useLed_17 (V : VV) (x0 x1 x2 x3 x4 : Int) (M : Mem) (Q : Int → Mem → Prop) (B2 : Int → Mem → Prop) : Prop :=
  ∃ (I : Int → Mem → Prop) (μ : Int → Mem → Nat), I x4 M ∧ ∀ (y4 : Int) (N : Mem), I y4 N → wp_X3_useLed_17_b V x0 x1 x2 x3 y4 N Q B2 (fun z4 N1 => I z4 N1 ∧ μ z4 N1 < μ y4 N)
theorem swp_X3_useLed_17 {X : XX} {Q : Int → Mem → Prop} (G : GX X cX3_useLed "TreeHands$Mover") (Z : RX X 4 Q) (hn : nLX X = 5) (hr : roomX X = rm_X3_useLed) (x0 x1 x2 x3 x4 : Int) (M : Mem) (B2 : Int → Mem → Prop) (k2 : ∀ (z3 : Int) (N : Mem), B2 z3 N → AW X 2 [(17, x0), (116, x1), (116, x2), (0, z3), (99, 0)] [] N) (h : wp_X3_useLed_17 (vX X) x0 x1 x2 x3 x4 M Q B2) : AW X 17 [(17, x0), (116, x1), (116, x2), (0, x3), (0, x4)] [] M := by
  unfold wp_X3_useLed_17 at h
  obtain ⟨I, μ, hI, hs⟩ := h
  have key : ∀ (n : Nat) (y4 : Int) (N : Mem), μ y4 N < n → I y4 N → AW X 17 [(17, x0), (116, x1), (116, x2), (0, x3), (0, y4)] [] N := by
    intro n
    induction n with
    | zero => intro y4 N hlt; exact absurd hlt (Nat.not_lt_zero _)
    | succ n ih =>
      intro y4 N hlt hI
      exact swp_X3_useLed_17_b G Z hn hr x0 x1 x2 x3 y4 N B2 k2 (fun z4 N1 => I z4 N1 ∧ μ z4 N1 < μ y4 N) (fun z4 N1 hz => ih z4 N1 (by omega) hz.1) (hs y4 N hI)
  exact key _ x4 M (Nat.lt_succ_self _) hI
def wp_X3_useLed_2_b (V : VV) (x0 x1 x2 x3 : Int) (M : Mem) (Q : Int → Mem → Prop) (B2 : Int → Mem → Prop) : Prop :=
  (M x0 0 ≤ x3 →
    Q 0 M) ∧ (¬ (M x0 0 ≤ x3) →
    ((0 : Int) ≤ x3 ∧ x3 < (16 : Int)) ∧
    wp_X3_useLed_17 V x0 x1 x2 x3 x3 (mset M x2 x3 0) Q B2)
theorem swp_X3_useLed_2_b {X : XX} {Q : Int → Mem → Prop} (G : GX X cX3_useLed "TreeHands$Mover") (Z : RX X 4 Q) (hn : nLX X = 5) (hr : roomX X = rm_X3_useLed) (x0 x1 x2 x3 : Int) (M : Mem) (B2 : Int → Mem → Prop) (k2 : ∀ (z3 : Int) (N : Mem), B2 z3 N → AW X 2 [(17, x0), (116, x1), (116, x2), (0, z3), (99, 0)] [] N) (h : wp_X3_useLed_2_b (vX X) x0 x1 x2 x3 M Q B2) : AW X 2 [(17, x0), (116, x1), (116, x2), (0, x3), (99, 0)] [] M := by
  unfold wp_X3_useLed_2_b at h
  refine am_iload_n (i := 3) (pc := 2) G dX3_useLed_2 rfl rfl ?_
  refine am_aload_n (i := 0) (t := 14) (pc := 3) G dX3_useLed_3 rfl rfl rfl ?_
  refine gf_X7_0 (pc := 4) G dX3_useLed_4 tw_f_RX3_35 ?_
  refine am_icmp_ge (pc := 7) G 62 dX3_useLed_7 (by decide) (fun c => ?_) (fun c => ?_)
  · have h := h.1 c
    exact am_vret (pc := 62) G Z dX3_useLed_62 h
  · have h := h.2 c
    refine am_aload_n (i := 2) (t := 113) (pc := 10) G dX3_useLed_10 rfl rfl rfl ?_
    refine am_iload_n (i := 3) (pc := 11) G dX3_useLed_11 rfl rfl ?_
    refine am_iconst (pc := 12) G dX3_useLed_12 (by decide) ?_
    refine am_iast (pc := 13) G 16 dX3_useLed_13 (by decide) h.1 ?_
    have h := h.2
    refine am_iload_n (i := 3) (pc := 14) G dX3_useLed_14 rfl rfl ?_
    refine am_istore (pc := 15) G dX3_useLed_15 (nlx hn rfl) rfl ?_
    refine am_le (ls' := [(17, _), (116, _), (116, _), (0, _), (0, _)]) ⟨Or.inr rfl, ⟨Or.inr rfl, ⟨Or.inr rfl, ⟨Or.inr rfl, ⟨Or.inr rfl, trivial⟩⟩⟩⟩⟩ ?_
    exact swp_X3_useLed_17 G Z hn hr _ _ _ _ _ _ B2 k2 h
def wp_X3_useLed_2 (V : VV) (x0 x1 x2 x3 : Int) (M : Mem) (Q : Int → Mem → Prop) : Prop :=
  ∃ (I : Int → Mem → Prop) (μ : Int → Mem → Nat), I x3 M ∧ ∀ (y3 : Int) (N : Mem), I y3 N → wp_X3_useLed_2_b V x0 x1 x2 y3 N Q (fun z3 N1 => I z3 N1 ∧ μ z3 N1 < μ y3 N)
theorem swp_X3_useLed_2 {X : XX} {Q : Int → Mem → Prop} (G : GX X cX3_useLed "TreeHands$Mover") (Z : RX X 4 Q) (hn : nLX X = 5) (hr : roomX X = rm_X3_useLed) (x0 x1 x2 x3 : Int) (M : Mem) (h : wp_X3_useLed_2 (vX X) x0 x1 x2 x3 M Q) : AW X 2 [(17, x0), (116, x1), (116, x2), (0, x3), (99, 0)] [] M := by
  unfold wp_X3_useLed_2 at h
  obtain ⟨I, μ, hI, hs⟩ := h
  have key : ∀ (n : Nat) (y3 : Int) (N : Mem), μ y3 N < n → I y3 N → AW X 2 [(17, x0), (116, x1), (116, x2), (0, y3), (99, 0)] [] N := by
    intro n
    induction n with
    | zero => intro y3 N hlt; exact absurd hlt (Nat.not_lt_zero _)
    | succ n ih =>
      intro y3 N hlt hI
      exact swp_X3_useLed_2_b G Z hn hr x0 x1 x2 y3 N (fun z3 N1 => I z3 N1 ∧ μ z3 N1 < μ y3 N) (fun z3 N1 hz => ih z3 N1 (by omega) hz.1) (hs y3 N hI)
  exact key _ x3 M (Nat.lt_succ_self _) hI
def wp_X3_useLed (V : VV) (x0 x1 x2 : Int) (M : Mem) (Q : Int → Mem → Prop) : Prop :=
  wp_X3_useLed_2 V x0 x1 x2 0 M Q
theorem of_X3_useLed {V : VV} {x0 x1 x2 : Int} {M : Mem} {Q : Int → Mem → Prop} (h : wp_X3_useLed V x0 x1 x2 M Q) : R_X3_useLed V x0 x1 x2 M Q := by
  refine met_in (own := "TreeHands$Mover") (by decide +kernel) rfl rfl (Nat.le_of_ble_eq_true rfl) ?_
  intro X G Z hn hr hv
  subst hv
  unfold wp_X3_useLed at h
  show AW X 0 [(17, x0), (116, x1), (116, x2), (99, 0), (99, 0)] [] M
  refine am_iconst (pc := 0) G dX3_useLed_0 (by decide) ?_
  refine am_istore_n (pc := 1) G dX3_useLed_1 rfl (nlx hn rfl) rfl ?_
  refine am_le (ls' := [(17, _), (116, _), (116, _), (0, _), (99, 0)]) ⟨Or.inr rfl, ⟨Or.inr rfl, ⟨Or.inr rfl, ⟨Or.inr rfl, ⟨Or.inl rfl, trivial⟩⟩⟩⟩⟩ ?_
  exact swp_X3_useLed_2 G Z hn hr _ _ _ _ _ h
-- X3_use TreeHands$Mover.use(LTreeHands$Tree;I[I)V
def rm_X3_use : Room := { frames := 0, cells := 0, slots := 0, locals := 0 }
theorem hy_X3_use : yX3_use.cls ≠ "java/lang/invoke/MethodHandle" ∧ yX3_use.cls ≠ "java/lang/invoke/VarHandle" ∧ (parseMethodDescriptor yX3_use.desc).map (fun d => d.parameters.length) = some 3 := by decide +kernel
abbrev R_X3_use (V : VV) (x0 x1 x2 : Int) (M : Mem) (Q : Int → Mem → Prop) : Prop := RunsM V yX3_use (.code yX3_use cX3_use 4 (Option.none : Option Jvm.ClassFile.FieldType)) rm_X3_use 4 [(17, x0), (0, x1), (116, x2)] M Q
def wp_X3_use_2_b (V : VV) (x0 x1 x2 x3 : Int) (M : Mem) (Q : Int → Mem → Prop) (B2 : Int → Mem → Prop) : Prop :=
  ((0 : Int) ≤ x1 ∧ x1 < (16 : Int)) ∧
  (w32 (x1 + M (x0 + 3) x1) ≤ x3 →
    Q 0 M) ∧ (¬ (w32 (x1 + M (x0 + 3) x1) ≤ x3) →
    (16 ≤ x3 →
      Q 0 M) ∧ (¬ (16 ≤ x3) →
      ((0 : Int) ≤ x3 ∧ x3 < (16 : Int)) ∧
      B2 (w32 (x3 + 1)) (mset M x2 x3 1)))
theorem swp_X3_use_2_b {X : XX} {Q : Int → Mem → Prop} (G : GX X cX3_use "TreeHands$Mover") (Z : RX X 4 Q) (hn : nLX X = 4) (hr : roomX X = rm_X3_use) (x0 x1 x2 x3 : Int) (M : Mem) (B2 : Int → Mem → Prop) (k2 : ∀ (z3 : Int) (N : Mem), B2 z3 N → AW X 2 [(17, x0), (0, x1), (116, x2), (0, z3)] [] N) (h : wp_X3_use_2_b (vX X) x0 x1 x2 x3 M Q B2) : AW X 2 [(17, x0), (0, x1), (116, x2), (0, x3)] [] M := by
  unfold wp_X3_use_2_b at h
  refine am_iload_n (i := 3) (pc := 2) G dX3_use_2 rfl rfl ?_
  refine am_iload_n (i := 1) (pc := 3) G dX3_use_3 rfl rfl ?_
  refine am_aload_n (i := 0) (t := 14) (pc := 4) G dX3_use_4 rfl rfl rfl ?_
  refine gf_X7_3 (pc := 5) G dX3_use_5 tw_f_RX3_40 ?_
  refine am_iload_n (i := 1) (pc := 8) G dX3_use_8 rfl rfl ?_
  refine am_iald (pc := 9) G 16 dX3_use_9 (by decide) h.1 ?_
  have h := h.2
  refine am_iadd (pc := 10) G dX3_use_10 ?_
  refine am_icmp_ge (pc := 11) G 30 dX3_use_11 (by decide) (fun c => ?_) (fun c => ?_)
  · have h := h.1 c
    exact am_vret (pc := 30) G Z dX3_use_30 h
  · have h := h.2 c
    refine am_iload_n (i := 3) (pc := 14) G dX3_use_14 rfl rfl ?_
    refine am_aload_n (i := 2) (t := 113) (pc := 15) G dX3_use_15 rfl rfl rfl ?_
    refine am_alen (pc := 16) G 16 dX3_use_16 (by decide) ?_
    refine am_icmp_ge (pc := 17) G 30 dX3_use_17 (by decide) (fun c => ?_) (fun c => ?_)
    · have h := h.1 c
      exact am_vret (pc := 30) G Z dX3_use_30 h
    · have h := h.2 c
      refine am_aload_n (i := 2) (t := 113) (pc := 20) G dX3_use_20 rfl rfl rfl ?_
      refine am_iload_n (i := 3) (pc := 21) G dX3_use_21 rfl rfl ?_
      refine am_iconst (pc := 22) G dX3_use_22 (by decide) ?_
      refine am_iast (pc := 23) G 16 dX3_use_23 (by decide) h.1 ?_
      have h := h.2
      refine am_iinc (pc := 24) G dX3_use_24 rfl (nlx hn rfl) rfl ?_
      refine am_goto (pc := 27) (ls := [(17, _), (0, _), (116, _), (0, _)]) G 2 dX3_use_27 (by decide) ?_
      refine am_le (ls' := [(17, _), (0, _), (116, _), (0, _)]) ⟨Or.inr rfl, ⟨Or.inr rfl, ⟨Or.inr rfl, ⟨Or.inr rfl, trivial⟩⟩⟩⟩ ?_
      exact k2 _ _ h
def wp_X3_use_2 (V : VV) (x0 x1 x2 x3 : Int) (M : Mem) (Q : Int → Mem → Prop) : Prop :=
  ∃ (I : Int → Mem → Prop) (μ : Int → Mem → Nat), I x3 M ∧ ∀ (y3 : Int) (N : Mem), I y3 N → wp_X3_use_2_b V x0 x1 x2 y3 N Q (fun z3 N1 => I z3 N1 ∧ μ z3 N1 < μ y3 N)
theorem swp_X3_use_2 {X : XX} {Q : Int → Mem → Prop} (G : GX X cX3_use "TreeHands$Mover") (Z : RX X 4 Q) (hn : nLX X = 4) (hr : roomX X = rm_X3_use) (x0 x1 x2 x3 : Int) (M : Mem) (h : wp_X3_use_2 (vX X) x0 x1 x2 x3 M Q) : AW X 2 [(17, x0), (0, x1), (116, x2), (0, x3)] [] M := by
  unfold wp_X3_use_2 at h
  obtain ⟨I, μ, hI, hs⟩ := h
  have key : ∀ (n : Nat) (y3 : Int) (N : Mem), μ y3 N < n → I y3 N → AW X 2 [(17, x0), (0, x1), (116, x2), (0, y3)] [] N := by
    intro n
    induction n with
    | zero => intro y3 N hlt; exact absurd hlt (Nat.not_lt_zero _)
    | succ n ih =>
      intro y3 N hlt hI
      exact swp_X3_use_2_b G Z hn hr x0 x1 x2 y3 N (fun z3 N1 => I z3 N1 ∧ μ z3 N1 < μ y3 N) (fun z3 N1 hz => ih z3 N1 (by omega) hz.1) (hs y3 N hI)
  exact key _ x3 M (Nat.lt_succ_self _) hI
def wp_X3_use (V : VV) (x0 x1 x2 : Int) (M : Mem) (Q : Int → Mem → Prop) : Prop :=
  wp_X3_use_2 V x0 x1 x2 x1 M Q
theorem of_X3_use {V : VV} {x0 x1 x2 : Int} {M : Mem} {Q : Int → Mem → Prop} (h : wp_X3_use V x0 x1 x2 M Q) : R_X3_use V x0 x1 x2 M Q := by
  refine met_in (own := "TreeHands$Mover") (by decide +kernel) rfl rfl (Nat.le_of_ble_eq_true rfl) ?_
  intro X G Z hn hr hv
  subst hv
  unfold wp_X3_use at h
  show AW X 0 [(17, x0), (0, x1), (116, x2), (99, 0)] [] M
  refine am_iload_n (i := 1) (pc := 0) G dX3_use_0 rfl rfl ?_
  refine am_istore_n (pc := 1) G dX3_use_1 rfl (nlx hn rfl) rfl ?_
  refine am_le (ls' := [(17, _), (0, _), (116, _), (0, _)]) ⟨Or.inr rfl, ⟨Or.inr rfl, ⟨Or.inr rfl, ⟨Or.inr rfl, trivial⟩⟩⟩⟩ ?_
  exact swp_X3_use_2 G Z hn hr _ _ _ _ _ h
-- X3_pairFirst TreeHands$Mover.pairFirst(LTreeHands$Tree;ILTreeHands$Tree;)V
def rm_X3_pairFirst : Room := { frames := 2, cells := 0, slots := 0, locals := 45 }
theorem hy_X3_pairFirst : yX3_pairFirst.cls ≠ "java/lang/invoke/MethodHandle" ∧ yX3_pairFirst.cls ≠ "java/lang/invoke/VarHandle" ∧ (parseMethodDescriptor yX3_pairFirst.desc).map (fun d => d.parameters.length) = some 3 := by decide +kernel
abbrev R_X3_pairFirst (V : VV) (x1 x2 x3 : Int) (M : Mem) (Q : Int → Mem → Prop) : Prop := RunsM V yX3_pairFirst (.code yX3_pairFirst cX3_pairFirst 5 (Option.none : Option Jvm.ClassFile.FieldType)) rm_X3_pairFirst 4 [(13, 20), (17, x1), (0, x2), (17, x3)] M Q
def wp_X3_pairFirst_3_b (V : VV) (x1 x2 x3 x4 : Int) (M : Mem) (Q : Int → Mem → Prop) (B3 : Int → Mem → Prop) : Prop :=
  (M x3 0 ≤ x4 →
    Q 0 M) ∧ (¬ (M x3 0 ≤ x4) →
    ((0 : Int) ≤ x4 ∧ x4 < (16 : Int)) ∧
    (M 24 x4 = 0 →
      R_X7_isAs V x1 x2 x3 x4 M (fun r1 M2 =>
      (r1 = 0 →
        B3 (w32 (x4 + 1)) M2) ∧ (¬ (r1 = 0) →
        (16 ≤ M2 20 0 →
          B3 (w32 (x4 + 1)) M2) ∧ (¬ (16 ≤ M2 20 0) →
          ((0 : Int) ≤ M2 20 0 ∧ M2 20 0 < (16 : Int)) ∧
          ∀ M3 : Mem, M3 = mset M2 21 (M2 20 0) x2 →
          ((0 : Int) ≤ M3 20 0 ∧ M3 20 0 < (16 : Int)) ∧
          ∀ M4 : Mem, M4 = mset M3 22 (M3 20 0) x4 →
          ∀ M5 : Mem, M5 = mset M4 20 0 (w32 (M4 20 0 + 1)) →
          ((0 : Int) ≤ x2 ∧ x2 < (16 : Int)) ∧
          ∀ M6 : Mem, M6 = mset M5 20 1 (w32 (M5 20 1 + M5 (x1 + 3) x2)) →
          R_X3_use V x1 x2 23 M6 (fun _ M8 =>
          R_X3_use V x3 x4 24 M8 (fun _ M10 =>
          Q 0 M10)))))) ∧ (¬ (M 24 x4 = 0) →
      B3 (w32 (x4 + 1)) M))
theorem swp_X3_pairFirst_3_b {X : XX} {Q : Int → Mem → Prop} (G : GX X cX3_pairFirst "TreeHands$Mover") (Z : RX X 4 Q) (hn : nLX X = 5) (hr : roomX X = rm_X3_pairFirst) (x1 x2 x3 x4 : Int) (M : Mem) (B3 : Int → Mem → Prop) (k3 : ∀ (z4 : Int) (N : Mem), B3 z4 N → AW X 3 [(13, 20), (17, x1), (0, x2), (17, x3), (0, z4)] [] N) (h : wp_X3_pairFirst_3_b (vX X) x1 x2 x3 x4 M Q B3) : AW X 3 [(13, 20), (17, x1), (0, x2), (17, x3), (0, x4)] [] M := by
  unfold wp_X3_pairFirst_3_b at h
  refine am_iload (pc := 3) G dX3_pairFirst_3 rfl ?_
  refine am_aload_n (i := 3) (t := 14) (pc := 5) G dX3_pairFirst_5 rfl rfl rfl ?_
  refine gf_X7_0 (pc := 6) G dX3_pairFirst_6 tw_f_RX3_35 ?_
  refine am_icmp_ge (pc := 9) G 114 dX3_pairFirst_9 (by decide) (fun c => ?_) (fun c => ?_)
  · have h := h.1 c
    exact am_vret (pc := 114) G Z dX3_pairFirst_114 h
  · have h := h.2 c
    refine am_aload_n (i := 0) (t := 10) (pc := 12) G dX3_pairFirst_12 rfl rfl rfl ?_
    refine gf_X3_5 (pc := 13) G dX3_pairFirst_13 tw_f_RX3_21 ?_
    refine am_iload (pc := 16) G dX3_pairFirst_16 rfl ?_
    refine am_iald (pc := 18) G 16 dX3_pairFirst_18 (by decide) h.1 ?_
    have h := h.2
    refine am_if_ne (pc := 19) G 108 dX3_pairFirst_19 (by decide) (fun c => ?_) (fun c => ?_)
    · have h := h.2 c
      refine am_iinc (pc := 108) G dX3_pairFirst_108 rfl (nlx hn rfl) rfl ?_
      refine am_goto (pc := 111) (ls := [(13, _), (17, _), (0, _), (17, _), (0, _)]) G 3 dX3_pairFirst_111 (by decide) ?_
      refine am_le (ls' := [(13, _), (17, _), (0, _), (17, _), (0, _)]) ⟨Or.inr rfl, ⟨Or.inr rfl, ⟨Or.inr rfl, ⟨Or.inr rfl, ⟨Or.inr rfl, trivial⟩⟩⟩⟩⟩ ?_
      exact k3 _ _ h
    · have h := h.1 c
      refine am_aload_n (i := 1) (t := 14) (pc := 22) G dX3_pairFirst_22 rfl rfl rfl ?_
      refine am_iload_n (i := 2) (pc := 23) G dX3_pairFirst_23 rfl rfl ?_
      refine am_aload_n (i := 3) (t := 14) (pc := 24) G dX3_pairFirst_24 rfl rfl rfl ?_
      refine am_iload (pc := 25) G dX3_pairFirst_25 rfl ?_
      refine am_callV (rk := 1) (rmc := rm_X7_isAs) (st := []) (pc := 27) G 7 [(0, _), (17, _), (0, _)] rfl (by decide) rfl dX3_pairFirst_27 tw_m_RX3_47 tw_i_X7_isAs tw_v_X7_isAs tw_z_RX7 tw_c_X7_isAs hy_X7_isAs (callrm hr rfl) rfl (RunsM.mono h (fun r1 M2 h => ?_)) Z.rm
      show AW X 30 _ [(0, _)] M2
      refine am_if_eq (pc := 30) G 108 dX3_pairFirst_30 (by decide) (fun c => ?_) (fun c => ?_)
      · have h := h.1 c
        refine am_iinc (pc := 108) G dX3_pairFirst_108 rfl (nlx hn rfl) rfl ?_
        refine am_goto (pc := 111) (ls := [(13, _), (17, _), (0, _), (17, _), (0, _)]) G 3 dX3_pairFirst_111 (by decide) ?_
        refine am_le (ls' := [(13, _), (17, _), (0, _), (17, _), (0, _)]) ⟨Or.inr rfl, ⟨Or.inr rfl, ⟨Or.inr rfl, ⟨Or.inr rfl, ⟨Or.inr rfl, trivial⟩⟩⟩⟩⟩ ?_
        exact k3 _ _ h
      · have h := h.2 c
        refine am_aload_n (i := 0) (t := 10) (pc := 33) G dX3_pairFirst_33 rfl rfl rfl ?_
        refine gf_X3_0 (pc := 34) G dX3_pairFirst_34 tw_f_RX3_24 ?_
        refine am_bipush (pc := 37) G dX3_pairFirst_37 (by decide) (by decide) ?_
        refine am_icmp_ge (pc := 39) G 108 dX3_pairFirst_39 (by decide) (fun c => ?_) (fun c => ?_)
        · have h := h.1 c
          refine am_iinc (pc := 108) G dX3_pairFirst_108 rfl (nlx hn rfl) rfl ?_
          refine am_goto (pc := 111) (ls := [(13, _), (17, _), (0, _), (17, _), (0, _)]) G 3 dX3_pairFirst_111 (by decide) ?_
          refine am_le (ls' := [(13, _), (17, _), (0, _), (17, _), (0, _)]) ⟨Or.inr rfl, ⟨Or.inr rfl, ⟨Or.inr rfl, ⟨Or.inr rfl, ⟨Or.inr rfl, trivial⟩⟩⟩⟩⟩ ?_
          exact k3 _ _ h
        · have h := h.2 c
          refine am_aload_n (i := 0) (t := 10) (pc := 42) G dX3_pairFirst_42 rfl rfl rfl ?_
          refine gf_X3_2 (pc := 43) G dX3_pairFirst_43 tw_f_RX3_9 ?_
          refine am_aload_n (i := 0) (t := 10) (pc := 46) G dX3_pairFirst_46 rfl rfl rfl ?_
          refine gf_X3_0 (pc := 47) G dX3_pairFirst_47 tw_f_RX3_24 ?_
          refine am_iload_n (i := 2) (pc := 50) G dX3_pairFirst_50 rfl rfl ?_
          refine am_iast (pc := 51) G 16 dX3_pairFirst_51 (by decide) h.1 ?_
          have h := h.2
          refine am_aload_n (i := 0) (t := 10) (pc := 52) G dX3_pairFirst_52 rfl rfl rfl ?_
          refine gf_X3_3 (pc := 53) G dX3_pairFirst_53 tw_f_RX3_15 ?_
          refine am_aload_n (i := 0) (t := 10) (pc := 56) G dX3_pairFirst_56 rfl rfl rfl ?_
          have h := h _ rfl
          refine gf_X3_0 (pc := 57) G dX3_pairFirst_57 tw_f_RX3_24 ?_
          refine am_iload (pc := 60) G dX3_pairFirst_60 rfl ?_
          refine am_iast (pc := 62) G 16 dX3_pairFirst_62 (by decide) h.1 ?_
          have h := h.2
          refine am_aload_n (i := 0) (t := 10) (pc := 63) G dX3_pairFirst_63 rfl rfl rfl ?_
          refine am_dup (pc := 64) G dX3_pairFirst_64 (Nat.ne_of_beq_eq_false rfl) ?_
          have h := h _ rfl
          refine gf_X3_0 (pc := 65) G dX3_pairFirst_65 tw_f_RX3_24 ?_
          refine am_iconst (pc := 68) G dX3_pairFirst_68 (by decide) ?_
          refine am_iadd (pc := 69) G dX3_pairFirst_69 ?_
          refine pf_X3_0 (pc := 70) G dX3_pairFirst_70 tw_f_RX3_24 ?_
          refine am_aload_n (i := 0) (t := 10) (pc := 73) G dX3_pairFirst_73 rfl rfl rfl ?_
          refine am_dup (pc := 74) G dX3_pairFirst_74 (Nat.ne_of_beq_eq_false rfl) ?_
          have h := h _ rfl
          refine gf_X3_1 (pc := 75) G dX3_pairFirst_75 tw_f_RX3_28 ?_
          refine am_aload_n (i := 1) (t := 14) (pc := 78) G dX3_pairFirst_78 rfl rfl rfl ?_
          refine gf_X7_3 (pc := 79) G dX3_pairFirst_79 tw_f_RX3_40 ?_
          refine am_iload_n (i := 2) (pc := 82) G dX3_pairFirst_82 rfl rfl ?_
          refine am_iald (pc := 83) G 16 dX3_pairFirst_83 (by decide) h.1 ?_
          have h := h.2
          refine am_iadd (pc := 84) G dX3_pairFirst_84 ?_
          refine pf_X3_1 (pc := 85) G dX3_pairFirst_85 tw_f_RX3_28 ?_
          refine am_aload_n (i := 1) (t := 14) (pc := 88) G dX3_pairFirst_88 rfl rfl rfl ?_
          refine am_iload_n (i := 2) (pc := 89) G dX3_pairFirst_89 rfl rfl ?_
          refine am_aload_n (i := 0) (t := 10) (pc := 90) G dX3_pairFirst_90 rfl rfl rfl ?_
          refine gf_X3_4 (pc := 91) G dX3_pairFirst_91 tw_f_RX3_18 ?_
          have h := h _ rfl
          refine am_callS (rk := 4) (rmc := rm_X3_use) (st := []) (pc := 94) G [(17, _), (0, _), (116, _)] dX3_pairFirst_94 tw_m_RX3_51 tw_s_X3_use tw_z_RX3 tw_c_X3_use hy_X3_use (callrm hr rfl) rfl (RunsM.mono h (fun r7 M8 h => ?_)) Z.rm
          show AW X 97 _ [] M8
          refine am_aload_n (i := 3) (t := 14) (pc := 97) G dX3_pairFirst_97 rfl rfl rfl ?_
          refine am_iload (pc := 98) G dX3_pairFirst_98 rfl ?_
          refine am_aload_n (i := 0) (t := 10) (pc := 100) G dX3_pairFirst_100 rfl rfl rfl ?_
          refine gf_X3_5 (pc := 101) G dX3_pairFirst_101 tw_f_RX3_21 ?_
          refine am_callS (rk := 4) (rmc := rm_X3_use) (st := []) (pc := 104) G [(17, _), (0, _), (116, _)] dX3_pairFirst_104 tw_m_RX3_51 tw_s_X3_use tw_z_RX3 tw_c_X3_use hy_X3_use (callrm hr rfl) rfl (RunsM.mono h (fun r9 M10 h => ?_)) Z.rm
          show AW X 107 _ [] M10
          exact am_vret (pc := 107) G Z dX3_pairFirst_107 h
def wp_X3_pairFirst_3 (V : VV) (x1 x2 x3 x4 : Int) (M : Mem) (Q : Int → Mem → Prop) : Prop :=
  ∃ (I : Int → Mem → Prop) (μ : Int → Mem → Nat), I x4 M ∧ ∀ (y4 : Int) (N : Mem), I y4 N → wp_X3_pairFirst_3_b V x1 x2 x3 y4 N Q (fun z4 N1 => I z4 N1 ∧ μ z4 N1 < μ y4 N)
theorem swp_X3_pairFirst_3 {X : XX} {Q : Int → Mem → Prop} (G : GX X cX3_pairFirst "TreeHands$Mover") (Z : RX X 4 Q) (hn : nLX X = 5) (hr : roomX X = rm_X3_pairFirst) (x1 x2 x3 x4 : Int) (M : Mem) (h : wp_X3_pairFirst_3 (vX X) x1 x2 x3 x4 M Q) : AW X 3 [(13, 20), (17, x1), (0, x2), (17, x3), (0, x4)] [] M := by
  unfold wp_X3_pairFirst_3 at h
  obtain ⟨I, μ, hI, hs⟩ := h
  have key : ∀ (n : Nat) (y4 : Int) (N : Mem), μ y4 N < n → I y4 N → AW X 3 [(13, 20), (17, x1), (0, x2), (17, x3), (0, y4)] [] N := by
    intro n
    induction n with
    | zero => intro y4 N hlt; exact absurd hlt (Nat.not_lt_zero _)
    | succ n ih =>
      intro y4 N hlt hI
      exact swp_X3_pairFirst_3_b G Z hn hr x1 x2 x3 y4 N (fun z4 N1 => I z4 N1 ∧ μ z4 N1 < μ y4 N) (fun z4 N1 hz => ih z4 N1 (by omega) hz.1) (hs y4 N hI)
  exact key _ x4 M (Nat.lt_succ_self _) hI
def wp_X3_pairFirst (V : VV) (x1 x2 x3 : Int) (M : Mem) (Q : Int → Mem → Prop) : Prop :=
  wp_X3_pairFirst_3 V x1 x2 x3 0 M Q
theorem of_X3_pairFirst {V : VV} {x1 x2 x3 : Int} {M : Mem} {Q : Int → Mem → Prop} (h : wp_X3_pairFirst V x1 x2 x3 M Q) : R_X3_pairFirst V x1 x2 x3 M Q := by
  refine met_in (own := "TreeHands$Mover") (by decide +kernel) rfl rfl (Nat.le_of_ble_eq_true rfl) ?_
  intro X G Z hn hr hv
  subst hv
  unfold wp_X3_pairFirst at h
  show AW X 0 [(13, 20), (17, x1), (0, x2), (17, x3), (99, 0)] [] M
  refine am_iconst (pc := 0) G dX3_pairFirst_0 (by decide) ?_
  refine am_istore (pc := 1) G dX3_pairFirst_1 (nlx hn rfl) rfl ?_
  refine am_le (ls' := [(13, _), (17, _), (0, _), (17, _), (0, _)]) ⟨Or.inr rfl, ⟨Or.inr rfl, ⟨Or.inr rfl, ⟨Or.inr rfl, ⟨Or.inr rfl, trivial⟩⟩⟩⟩⟩ ?_
  exact swp_X3_pairFirst_3 G Z hn hr _ _ _ _ _ h
-- X3_pair TreeHands$Mover.pair(LTreeHands$Tree;[ILTreeHands$Tree;[I)V
def rm_X3_pair : Room := { frames := 3, cells := 0, slots := 0, locals := 69 }
theorem hy_X3_pair : yX3_pair.cls ≠ "java/lang/invoke/MethodHandle" ∧ yX3_pair.cls ≠ "java/lang/invoke/VarHandle" ∧ (parseMethodDescriptor yX3_pair.desc).map (fun d => d.parameters.length) = some 4 := by decide +kernel
abbrev R_X3_pair (V : VV) (x1 x2 x3 x4 : Int) (M : Mem) (Q : Int → Mem → Prop) : Prop := RunsM V yX3_pair (.code yX3_pair cX3_pair 7 (Option.none : Option Jvm.ClassFile.FieldType)) rm_X3_pair 4 [(13, 20), (17, x1), (116, x2), (17, x3), (116, x4)] M Q
def wp_X3_pair_41_b (V : VV) (x1 x3 x5 x6 : Int) (M : Mem) (Q : Int → Mem → Prop) (B33 : Int → Mem → Prop) (B41 : Int → Mem → Prop) : Prop :=
  (M x1 0 ≤ x6 →
    B33 (w32 (x5 + (-1))) M) ∧ (¬ (M x1 0 ≤ x6) →
    ((0 : Int) ≤ x6 ∧ x6 < (16 : Int)) ∧
    (M (x1 + 3) x6 = x5 →
      ((0 : Int) ≤ x6 ∧ x6 < (16 : Int)) ∧
      (M 23 x6 = 0 →
        R_X3_pairFirst V x1 x6 x3 M (fun _ M8 =>
        B41 (w32 (x6 + 1)) M8)) ∧ (¬ (M 23 x6 = 0) →
        B41 (w32 (x6 + 1)) M)) ∧ (¬ (M (x1 + 3) x6 = x5) →
      B41 (w32 (x6 + 1)) M))
theorem swp_X3_pair_41_b {X : XX} {Q : Int → Mem → Prop} (G : GX X cX3_pair "TreeHands$Mover") (Z : RX X 4 Q) (hn : nLX X = 7) (hr : roomX X = rm_X3_pair) (x1 x3 x5 x6 : Int) (M : Mem) (B33 : Int → Mem → Prop) (k33 : ∀ (z5 : Int) (N : Mem), B33 z5 N → AW X 33 [(13, 20), (17, x1), (99, 0), (17, x3), (99, 0), (0, z5), (99, 0)] [] N) (B41 : Int → Mem → Prop) (k41 : ∀ (z6 : Int) (N : Mem), B41 z6 N → AW X 41 [(13, 20), (17, x1), (99, 0), (17, x3), (99, 0), (0, x5), (0, z6)] [] N) (h : wp_X3_pair_41_b (vX X) x1 x3 x5 x6 M Q B33 B41) : AW X 41 [(13, 20), (17, x1), (99, 0), (17, x3), (99, 0), (0, x5), (0, x6)] [] M := by
  unfold wp_X3_pair_41_b at h
  refine am_iload (pc := 41) G dX3_pair_41 rfl ?_
  refine am_aload_n (i := 1) (t := 14) (pc := 43) G dX3_pair_43 rfl rfl rfl ?_
  refine gf_X7_0 (pc := 44) G dX3_pair_44 tw_f_RX3_35 ?_
  refine am_icmp_ge (pc := 47) G 86 dX3_pair_47 (by decide) (fun c => ?_) (fun c => ?_)
  · have h := h.1 c
    refine am_iinc (pc := 86) G dX3_pair_86 rfl (nlx hn rfl) rfl ?_
    refine am_goto (pc := 89) (ls := [(13, _), (17, _), (99, _), (17, _), (99, _), (0, _), (0, _)]) G 33 dX3_pair_89 (by decide) ?_
    refine am_le (ls' := [(13, _), (17, _), (99, 0), (17, _), (99, 0), (0, _), (99, 0)]) ⟨Or.inr rfl, ⟨Or.inr rfl, ⟨Or.inl rfl, ⟨Or.inr rfl, ⟨Or.inl rfl, ⟨Or.inr rfl, ⟨Or.inl rfl, trivial⟩⟩⟩⟩⟩⟩⟩ ?_
    exact k33 _ _ h
  · have h := h.2 c
    refine am_aload_n (i := 1) (t := 14) (pc := 50) G dX3_pair_50 rfl rfl rfl ?_
    refine gf_X7_3 (pc := 51) G dX3_pair_51 tw_f_RX3_40 ?_
    refine am_iload (pc := 54) G dX3_pair_54 rfl ?_
    refine am_iald (pc := 56) G 16 dX3_pair_56 (by decide) h.1 ?_
    have h := h.2
    refine am_iload (pc := 57) G dX3_pair_57 rfl ?_
    refine am_icmp_ne (pc := 59) G 80 dX3_pair_59 (by decide) (fun c => ?_) (fun c => ?_)
    · have h := h.2 c
      refine am_iinc (pc := 80) G dX3_pair_80 rfl (nlx hn rfl) rfl ?_
      refine am_goto (pc := 83) (ls := [(13, _), (17, _), (99, _), (17, _), (99, _), (0, _), (0, _)]) G 41 dX3_pair_83 (by decide) ?_
      refine am_le (ls' := [(13, _), (17, _), (99, 0), (17, _), (99, 0), (0, _), (0, _)]) ⟨Or.inr rfl, ⟨Or.inr rfl, ⟨Or.inl rfl, ⟨Or.inr rfl, ⟨Or.inl rfl, ⟨Or.inr rfl, ⟨Or.inr rfl, trivial⟩⟩⟩⟩⟩⟩⟩ ?_
      exact k41 _ _ h
    · have h := h.1 c
      refine am_aload_n (i := 0) (t := 10) (pc := 62) G dX3_pair_62 rfl rfl rfl ?_
      refine gf_X3_4 (pc := 63) G dX3_pair_63 tw_f_RX3_18 ?_
      refine am_iload (pc := 66) G dX3_pair_66 rfl ?_
      refine am_iald (pc := 68) G 16 dX3_pair_68 (by decide) h.1 ?_
      have h := h.2
      refine am_if_ne (pc := 69) G 80 dX3_pair_69 (by decide) (fun c => ?_) (fun c => ?_)
      · have h := h.2 c
        refine am_iinc (pc := 80) G dX3_pair_80 rfl (nlx hn rfl) rfl ?_
        refine am_goto (pc := 83) (ls := [(13, _), (17, _), (99, _), (17, _), (99, _), (0, _), (0, _)]) G 41 dX3_pair_83 (by decide) ?_
        refine am_le (ls' := [(13, _), (17, _), (99, 0), (17, _), (99, 0), (0, _), (0, _)]) ⟨Or.inr rfl, ⟨Or.inr rfl, ⟨Or.inl rfl, ⟨Or.inr rfl, ⟨Or.inl rfl, ⟨Or.inr rfl, ⟨Or.inr rfl, trivial⟩⟩⟩⟩⟩⟩⟩ ?_
        exact k41 _ _ h
      · have h := h.1 c
        refine am_aload_n (i := 0) (t := 10) (pc := 72) G dX3_pair_72 rfl rfl rfl ?_
        refine am_aload_n (i := 1) (t := 14) (pc := 73) G dX3_pair_73 rfl rfl rfl ?_
        refine am_iload (pc := 74) G dX3_pair_74 rfl ?_
        refine am_aload_n (i := 3) (t := 14) (pc := 76) G dX3_pair_76 rfl rfl rfl ?_
        refine am_callV (rk := 4) (rmc := rm_X3_pairFirst) (st := []) (pc := 77) G 3 [(17, _), (0, _), (17, _)] rfl (by decide) rfl dX3_pair_77 tw_m_RX3_43 tw_i_X3_pairFirst tw_v_X3_pairFirst tw_z_RX3 tw_c_X3_pairFirst hy_X3_pairFirst (callrm hr rfl) rfl (RunsM.mono h (fun r7 M8 h => ?_)) Z.rm
        show AW X 80 _ [] M8
        refine am_iinc (pc := 80) G dX3_pair_80 rfl (nlx hn rfl) rfl ?_
        refine am_goto (pc := 83) (ls := [(13, _), (17, _), (99, _), (17, _), (99, _), (0, _), (0, _)]) G 41 dX3_pair_83 (by decide) ?_
        refine am_le (ls' := [(13, _), (17, _), (99, 0), (17, _), (99, 0), (0, _), (0, _)]) ⟨Or.inr rfl, ⟨Or.inr rfl, ⟨Or.inl rfl, ⟨Or.inr rfl, ⟨Or.inl rfl, ⟨Or.inr rfl, ⟨Or.inr rfl, trivial⟩⟩⟩⟩⟩⟩⟩ ?_
        exact k41 _ _ h
def wp_X3_pair_41 (V : VV) (x1 x3 x5 x6 : Int) (M : Mem) (Q : Int → Mem → Prop) (B33 : Int → Mem → Prop) : Prop :=
  ∃ (I : Int → Mem → Prop) (μ : Int → Mem → Nat), I x6 M ∧ ∀ (y6 : Int) (N : Mem), I y6 N → wp_X3_pair_41_b V x1 x3 x5 y6 N Q B33 (fun z6 N1 => I z6 N1 ∧ μ z6 N1 < μ y6 N)
theorem swp_X3_pair_41 {X : XX} {Q : Int → Mem → Prop} (G : GX X cX3_pair "TreeHands$Mover") (Z : RX X 4 Q) (hn : nLX X = 7) (hr : roomX X = rm_X3_pair) (x1 x3 x5 x6 : Int) (M : Mem) (B33 : Int → Mem → Prop) (k33 : ∀ (z5 : Int) (N : Mem), B33 z5 N → AW X 33 [(13, 20), (17, x1), (99, 0), (17, x3), (99, 0), (0, z5), (99, 0)] [] N) (h : wp_X3_pair_41 (vX X) x1 x3 x5 x6 M Q B33) : AW X 41 [(13, 20), (17, x1), (99, 0), (17, x3), (99, 0), (0, x5), (0, x6)] [] M := by
  unfold wp_X3_pair_41 at h
  obtain ⟨I, μ, hI, hs⟩ := h
  have key : ∀ (n : Nat) (y6 : Int) (N : Mem), μ y6 N < n → I y6 N → AW X 41 [(13, 20), (17, x1), (99, 0), (17, x3), (99, 0), (0, x5), (0, y6)] [] N := by
    intro n
    induction n with
    | zero => intro y6 N hlt; exact absurd hlt (Nat.not_lt_zero _)
    | succ n ih =>
      intro y6 N hlt hI
      exact swp_X3_pair_41_b G Z hn hr x1 x3 x5 y6 N B33 k33 (fun z6 N1 => I z6 N1 ∧ μ z6 N1 < μ y6 N) (fun z6 N1 hz => ih z6 N1 (by omega) hz.1) (hs y6 N hI)
  exact key _ x6 M (Nat.lt_succ_self _) hI
def wp_X3_pair_33_b (V : VV) (x1 x3 x5 : Int) (M : Mem) (Q : Int → Mem → Prop) (B33 : Int → Mem → Prop) : Prop :=
  (x5 ≤ 0 →
    Q 0 M) ∧ (¬ (x5 ≤ 0) →
    wp_X3_pair_41 V x1 x3 x5 0 M Q B33)
theorem swp_X3_pair_33_b {X : XX} {Q : Int → Mem → Prop} (G : GX X cX3_pair "TreeHands$Mover") (Z : RX X 4 Q) (hn : nLX X = 7) (hr : roomX X = rm_X3_pair) (x1 x3 x5 : Int) (M : Mem) (B33 : Int → Mem → Prop) (k33 : ∀ (z5 : Int) (N : Mem), B33 z5 N → AW X 33 [(13, 20), (17, x1), (99, 0), (17, x3), (99, 0), (0, z5), (99, 0)] [] N) (h : wp_X3_pair_33_b (vX X) x1 x3 x5 M Q B33) : AW X 33 [(13, 20), (17, x1), (99, 0), (17, x3), (99, 0), (0, x5), (99, 0)] [] M := by
  unfold wp_X3_pair_33_b at h
  refine am_iload (pc := 33) G dX3_pair_33 rfl ?_
  refine am_if_le (pc := 35) G 92 dX3_pair_35 (by decide) (fun c => ?_) (fun c => ?_)
  · have h := h.1 c
    exact am_vret (pc := 92) G Z dX3_pair_92 h
  · have h := h.2 c
    refine am_iconst (pc := 38) G dX3_pair_38 (by decide) ?_
    refine am_istore (pc := 39) G dX3_pair_39 (nlx hn rfl) rfl ?_
    refine am_le (ls' := [(13, _), (17, _), (99, 0), (17, _), (99, 0), (0, _), (0, _)]) ⟨Or.inr rfl, ⟨Or.inr rfl, ⟨Or.inl rfl, ⟨Or.inr rfl, ⟨Or.inl rfl, ⟨Or.inr rfl, ⟨Or.inr rfl, trivial⟩⟩⟩⟩⟩⟩⟩ ?_
    exact swp_X3_pair_41 G Z hn hr _ _ _ _ _ B33 k33 h
def wp_X3_pair_33 (V : VV) (x1 x3 x5 : Int) (M : Mem) (Q : Int → Mem → Prop) : Prop :=
  ∃ (I : Int → Mem → Prop) (μ : Int → Mem → Nat), I x5 M ∧ ∀ (y5 : Int) (N : Mem), I y5 N → wp_X3_pair_33_b V x1 x3 y5 N Q (fun z5 N1 => I z5 N1 ∧ μ z5 N1 < μ y5 N)
theorem swp_X3_pair_33 {X : XX} {Q : Int → Mem → Prop} (G : GX X cX3_pair "TreeHands$Mover") (Z : RX X 4 Q) (hn : nLX X = 7) (hr : roomX X = rm_X3_pair) (x1 x3 x5 : Int) (M : Mem) (h : wp_X3_pair_33 (vX X) x1 x3 x5 M Q) : AW X 33 [(13, 20), (17, x1), (99, 0), (17, x3), (99, 0), (0, x5), (99, 0)] [] M := by
  unfold wp_X3_pair_33 at h
  obtain ⟨I, μ, hI, hs⟩ := h
  have key : ∀ (n : Nat) (y5 : Int) (N : Mem), μ y5 N < n → I y5 N → AW X 33 [(13, 20), (17, x1), (99, 0), (17, x3), (99, 0), (0, y5), (99, 0)] [] N := by
    intro n
    induction n with
    | zero => intro y5 N hlt; exact absurd hlt (Nat.not_lt_zero _)
    | succ n ih =>
      intro y5 N hlt hI
      exact swp_X3_pair_33_b G Z hn hr x1 x3 y5 N (fun z5 N1 => I z5 N1 ∧ μ z5 N1 < μ y5 N) (fun z5 N1 hz => ih z5 N1 (by omega) hz.1) (hs y5 N hI)
  exact key _ x5 M (Nat.lt_succ_self _) hI
def wp_X3_pair (V : VV) (x1 x2 x3 x4 : Int) (M : Mem) (Q : Int → Mem → Prop) : Prop :=
  ∀ M1 : Mem, M1 = mset M 20 0 0 →
  ∀ M2 : Mem, M2 = mset M1 20 1 0 →
  R_X3_useLed V x1 x2 23 M2 (fun _ M4 =>
  R_X3_useLed V x3 x4 24 M4 (fun _ M6 =>
  wp_X3_pair_33 V x1 x3 16 M6 Q))
theorem of_X3_pair {V : VV} {x1 x2 x3 x4 : Int} {M : Mem} {Q : Int → Mem → Prop} (h : wp_X3_pair V x1 x2 x3 x4 M Q) : R_X3_pair V x1 x2 x3 x4 M Q := by
  refine met_in (own := "TreeHands$Mover") (by decide +kernel) rfl rfl (Nat.le_of_ble_eq_true rfl) ?_
  intro X G Z hn hr hv
  subst hv
  unfold wp_X3_pair at h
  show AW X 0 [(13, 20), (17, x1), (116, x2), (17, x3), (116, x4), (99, 0), (99, 0)] [] M
  refine am_aload_n (i := 0) (t := 10) (pc := 0) G dX3_pair_0 rfl rfl rfl ?_
  refine am_iconst (pc := 1) G dX3_pair_1 (by decide) ?_
  refine pf_X3_0 (pc := 2) G dX3_pair_2 tw_f_RX3_24 ?_
  refine am_aload_n (i := 0) (t := 10) (pc := 5) G dX3_pair_5 rfl rfl rfl ?_
  refine am_iconst (pc := 6) G dX3_pair_6 (by decide) ?_
  have h := h _ rfl
  refine pf_X3_1 (pc := 7) G dX3_pair_7 tw_f_RX3_28 ?_
  refine am_aload_n (i := 1) (t := 14) (pc := 10) G dX3_pair_10 rfl rfl rfl ?_
  refine am_aload_n (i := 2) (t := 113) (pc := 11) G dX3_pair_11 rfl rfl rfl ?_
  refine am_aload_n (i := 0) (t := 10) (pc := 12) G dX3_pair_12 rfl rfl rfl ?_
  refine gf_X3_4 (pc := 13) G dX3_pair_13 tw_f_RX3_18 ?_
  have h := h _ rfl
  refine am_callS (rk := 4) (rmc := rm_X3_useLed) (st := []) (pc := 16) G [(17, _), (116, _), (116, _)] dX3_pair_16 tw_m_RX3_31 tw_s_X3_useLed tw_z_RX3 tw_c_X3_useLed hy_X3_useLed (callrm hr rfl) rfl (RunsM.mono h (fun r3 M4 h => ?_)) Z.rm
  show AW X 19 _ [] M4
  refine am_aload_n (i := 3) (t := 14) (pc := 19) G dX3_pair_19 rfl rfl rfl ?_
  refine am_aload (t := 113) (pc := 20) G dX3_pair_20 rfl rfl ?_
  refine am_aload_n (i := 0) (t := 10) (pc := 22) G dX3_pair_22 rfl rfl rfl ?_
  refine gf_X3_5 (pc := 23) G dX3_pair_23 tw_f_RX3_21 ?_
  refine am_callS (rk := 4) (rmc := rm_X3_useLed) (st := []) (pc := 26) G [(17, _), (116, _), (116, _)] dX3_pair_26 tw_m_RX3_31 tw_s_X3_useLed tw_z_RX3 tw_c_X3_useLed hy_X3_useLed (callrm hr rfl) rfl (RunsM.mono h (fun r5 M6 h => ?_)) Z.rm
  show AW X 29 _ [] M6
  refine am_bipush (pc := 29) G dX3_pair_29 (by decide) (by decide) ?_
  refine am_istore (pc := 31) G dX3_pair_31 (nlx hn rfl) rfl ?_
  refine am_le (ls' := [(13, _), (17, _), (99, 0), (17, _), (99, 0), (0, _), (99, 0)]) ⟨Or.inr rfl, ⟨Or.inr rfl, ⟨Or.inl rfl, ⟨Or.inr rfl, ⟨Or.inl rfl, ⟨Or.inr rfl, ⟨Or.inl rfl, trivial⟩⟩⟩⟩⟩⟩⟩ ?_
  exact swp_X3_pair_33 G Z hn hr _ _ _ _ h
-- X3_pairAt TreeHands$Mover.pairAt(I)I
def rm_X3_pairAt : Room := { frames := 0, cells := 0, slots := 0, locals := 0 }
theorem hy_X3_pairAt : yX3_pairAt.cls ≠ "java/lang/invoke/MethodHandle" ∧ yX3_pairAt.cls ≠ "java/lang/invoke/VarHandle" ∧ (parseMethodDescriptor yX3_pairAt.desc).map (fun d => d.parameters.length) = some 1 := by decide +kernel
abbrev R_X3_pairAt (V : VV) (x1 : Int) (M : Mem) (Q : Int → Mem → Prop) : Prop := RunsM V yX3_pairAt (.code yX3_pairAt cX3_pairAt 2 (Option.some Jvm.ClassFile.FieldType.int)) rm_X3_pairAt 0 [(13, 20), (0, x1)] M Q
def wp_X3_pairAt (V : VV) (x1 : Int) (M : Mem) (Q : Int → Mem → Prop) : Prop :=
  (x1 < 0 →
    Q (-6) M) ∧ (¬ (x1 < 0) →
    (M 20 0 ≤ x1 →
      Q (-6) M) ∧ (¬ (M 20 0 ≤ x1) →
      (16 ≤ x1 →
        Q (-6) M) ∧ (¬ (16 ≤ x1) →
        ((0 : Int) ≤ x1 ∧ x1 < (16 : Int)) ∧
        ((0 : Int) ≤ x1 ∧ x1 < (16 : Int)) ∧
        Q (w32 (w32 (100 * M 21 x1) + M 22 x1)) M)))
theorem of_X3_pairAt {V : VV} {x1 : Int} {M : Mem} {Q : Int → Mem → Prop} (h : wp_X3_pairAt V x1 M Q) : R_X3_pairAt V x1 M Q := by
  refine met_in (own := "TreeHands$Mover") (by decide +kernel) rfl rfl (Nat.le_of_ble_eq_true rfl) ?_
  intro X G Z hn hr hv
  subst hv
  unfold wp_X3_pairAt at h
  show AW X 0 [(13, 20), (0, x1)] [] M
  refine am_iload_n (i := 1) (pc := 0) G dX3_pairAt_0 rfl rfl ?_
  refine am_if_lt (pc := 1) G 37 dX3_pairAt_1 (by decide) (fun c => ?_) (fun c => ?_)
  · have h := h.1 c
    refine am_bipush (pc := 37) G dX3_pairAt_37 (by decide) (by decide) ?_
    exact am_iret (pc := 39) G Z dX3_pairAt_39 h
  · have h := h.2 c
    refine am_iload_n (i := 1) (pc := 4) G dX3_pairAt_4 rfl rfl ?_
    refine am_aload_n (i := 0) (t := 10) (pc := 5) G dX3_pairAt_5 rfl rfl rfl ?_
    refine gf_X3_0 (pc := 6) G dX3_pairAt_6 tw_f_RX3_24 ?_
    refine am_icmp_ge (pc := 9) G 37 dX3_pairAt_9 (by decide) (fun c => ?_) (fun c => ?_)
    · have h := h.1 c
      refine am_bipush (pc := 37) G dX3_pairAt_37 (by decide) (by decide) ?_
      exact am_iret (pc := 39) G Z dX3_pairAt_39 h
    · have h := h.2 c
      refine am_iload_n (i := 1) (pc := 12) G dX3_pairAt_12 rfl rfl ?_
      refine am_bipush (pc := 13) G dX3_pairAt_13 (by decide) (by decide) ?_
      refine am_icmp_ge (pc := 15) G 37 dX3_pairAt_15 (by decide) (fun c => ?_) (fun c => ?_)
      · have h := h.1 c
        refine am_bipush (pc := 37) G dX3_pairAt_37 (by decide) (by decide) ?_
        exact am_iret (pc := 39) G Z dX3_pairAt_39 h
      · have h := h.2 c
        refine am_bipush (pc := 18) G dX3_pairAt_18 (by decide) (by decide) ?_
        refine am_aload_n (i := 0) (t := 10) (pc := 20) G dX3_pairAt_20 rfl rfl rfl ?_
        refine gf_X3_2 (pc := 21) G dX3_pairAt_21 tw_f_RX3_9 ?_
        refine am_iload_n (i := 1) (pc := 24) G dX3_pairAt_24 rfl rfl ?_
        refine am_iald (pc := 25) G 16 dX3_pairAt_25 (by decide) h.1 ?_
        have h := h.2
        refine am_imul (pc := 26) G dX3_pairAt_26 ?_
        refine am_aload_n (i := 0) (t := 10) (pc := 27) G dX3_pairAt_27 rfl rfl rfl ?_
        refine gf_X3_3 (pc := 28) G dX3_pairAt_28 tw_f_RX3_15 ?_
        refine am_iload_n (i := 1) (pc := 31) G dX3_pairAt_31 rfl rfl ?_
        refine am_iald (pc := 32) G 16 dX3_pairAt_32 (by decide) h.1 ?_
        have h := h.2
        refine am_iadd (pc := 33) G dX3_pairAt_33 ?_
        refine am_goto (pc := 34) G 39 dX3_pairAt_34 (by decide) ?_
        exact am_iret (pc := 39) G Z dX3_pairAt_39 h
-- X6_has TreeHands$Rules.has(I)Z
def rm_X6_has : Room := { frames := 0, cells := 0, slots := 0, locals := 0 }
theorem hy_X6_has : yX6_has.cls ≠ "java/lang/invoke/MethodHandle" ∧ yX6_has.cls ≠ "java/lang/invoke/VarHandle" ∧ (parseMethodDescriptor yX6_has.desc).map (fun d => d.parameters.length) = some 1 := by decide +kernel
abbrev R_X6_has (V : VV) (x1 : Int) (M : Mem) (Q : Int → Mem → Prop) : Prop := RunsM V yX6_has (.code yX6_has cX6_has 2 (Option.some Jvm.ClassFile.FieldType.boolean)) rm_X6_has 1 [(16, 28), (0, x1)] M Q
def wp_X6_has (V : VV) (x1 : Int) (M : Mem) (Q : Int → Mem → Prop) : Prop :=
  (x1 < 0 →
    Q 0 M) ∧ (¬ (x1 < 0) →
    (M 28 0 ≤ x1 →
      Q 0 M) ∧ (¬ (M 28 0 ≤ x1) →
      (6 ≤ x1 →
        Q 0 M) ∧ (¬ (6 ≤ x1) →
        Q 1 M)))
theorem of_X6_has {V : VV} {x1 : Int} {M : Mem} {Q : Int → Mem → Prop} (h : wp_X6_has V x1 M Q) : R_X6_has V x1 M Q := by
  refine met_in (own := "TreeHands$Rules") (by decide +kernel) rfl rfl (Nat.le_of_ble_eq_true rfl) ?_
  intro X G Z hn hr hv
  subst hv
  unfold wp_X6_has at h
  show AW X 0 [(16, 28), (0, x1)] [] M
  refine am_iload_n (i := 1) (pc := 0) G dX6_has_0 rfl rfl ?_
  refine am_if_lt (pc := 1) G 22 dX6_has_1 (by decide) (fun c => ?_) (fun c => ?_)
  · have h := h.1 c
    refine am_iconst (pc := 22) G dX6_has_22 (by decide) ?_
    exact am_zret (pc := 23) G Z dX6_has_23 ⟨by decide, h⟩
  · have h := h.2 c
    refine am_iload_n (i := 1) (pc := 4) G dX6_has_4 rfl rfl ?_
    refine am_aload_n (i := 0) (t := 13) (pc := 5) G dX6_has_5 rfl rfl rfl ?_
    refine gf_X6_0 (pc := 6) G dX6_has_6 tw_f_RX6_29 ?_
    refine am_icmp_ge (pc := 9) G 22 dX6_has_9 (by decide) (fun c => ?_) (fun c => ?_)
    · have h := h.1 c
      refine am_iconst (pc := 22) G dX6_has_22 (by decide) ?_
      exact am_zret (pc := 23) G Z dX6_has_23 ⟨by decide, h⟩
    · have h := h.2 c
      refine am_iload_n (i := 1) (pc := 12) G dX6_has_12 rfl rfl ?_
      refine am_bipush (pc := 13) G dX6_has_13 (by decide) (by decide) ?_
      refine am_icmp_ge (pc := 15) G 22 dX6_has_15 (by decide) (fun c => ?_) (fun c => ?_)
      · have h := h.1 c
        refine am_iconst (pc := 22) G dX6_has_22 (by decide) ?_
        exact am_zret (pc := 23) G Z dX6_has_23 ⟨by decide, h⟩
      · have h := h.2 c
        refine am_iconst (pc := 18) G dX6_has_18 (by decide) ?_
        refine am_goto (pc := 19) G 23 dX6_has_19 (by decide) ?_
        exact am_zret (pc := 23) G Z dX6_has_23 ⟨by decide, h⟩
-- X4_findPeak TreeHands$Overlapper.findPeak(III)I
def rm_X4_findPeak : Room := { frames := 4, cells := 0, slots := 0, locals := 93 }
theorem hy_X4_findPeak : yX4_findPeak.cls ≠ "java/lang/invoke/MethodHandle" ∧ yX4_findPeak.cls ≠ "java/lang/invoke/VarHandle" ∧ (parseMethodDescriptor yX4_findPeak.desc).map (fun d => d.parameters.length) = some 3 := by decide +kernel
abbrev R_X4_findPeak (V : VV) (x1 x2 x3 : Int) (M : Mem) (Q : Int → Mem → Prop) : Prop := RunsM V yX4_findPeak (.code yX4_findPeak cX4_findPeak 4 (Option.some Jvm.ClassFile.FieldType.int)) rm_X4_findPeak 0 [(14, 127), (0, x1), (0, x2), (0, x3)] M Q
def wp_X4_findPeak (V : VV) (x1 x2 x3 : Int) (M : Mem) (Q : Int → Mem → Prop) : Prop :=
  R_X6_has V x1 M (fun r1 M2 =>
  (r1 = 0 →
    Q 0 M2) ∧ (¬ (r1 = 0) →
    R_X6_has V x2 M2 (fun r3 M4 =>
    (r3 = 0 →
      Q 0 M4) ∧ (¬ (r3 = 0) →
      ((0 : Int) ≤ x1 ∧ x1 < (6 : Int)) ∧
      ((0 : Int) ≤ x2 ∧ x2 < (6 : Int)) ∧
      R_X1_join V (39 + 14 * x1) x3 (39 + 14 * x2) M4 (fun r5 M6 =>
      (r5 = 0 →
        Q 0 M6) ∧ (¬ (r5 = 0) →
        R_X1_nodes V M6 (fun r7 M8 =>
        (r7 ≤ 16 →
          R_X1_write V 140 M8 (fun r9 M10 =>
          Q 1 (mset M10 127 6 r9))) ∧ (¬ (r7 ≤ 16) →
          Q 3 M8))))))))
theorem of_X4_findPeak {V : VV} {x1 x2 x3 : Int} {M : Mem} {Q : Int → Mem → Prop} (h : wp_X4_findPeak V x1 x2 x3 M Q) : R_X4_findPeak V x1 x2 x3 M Q := by
  refine met_in (own := "TreeHands$Overlapper") (by decide +kernel) rfl rfl (Nat.le_of_ble_eq_true rfl) ?_
  intro X G Z hn hr hv
  subst hv
  unfold wp_X4_findPeak at h
  show AW X 0 [(14, 127), (0, x1), (0, x2), (0, x3)] [] M
  refine am_aload_n (i := 0) (t := 11) (pc := 0) G dX4_findPeak_0 rfl rfl rfl ?_
  refine gf_X4_2 (pc := 1) G dX4_findPeak_1 tw_f_RX4_35 ?_
  refine am_iload_n (i := 1) (pc := 4) G dX4_findPeak_4 rfl rfl ?_
  refine am_callV (rk := 1) (rmc := rm_X6_has) (st := []) (pc := 5) G 6 [(0, _)] rfl (by decide) rfl dX4_findPeak_5 tw_m_RX4_43 tw_i_X6_has tw_v_X6_has tw_z_RX6 tw_c_X6_has hy_X6_has (callrm hr rfl) rfl (RunsM.mono h (fun r1 M2 h => ?_)) Z.rm
  show AW X 8 _ [(0, _)] M2
  refine am_if_eq (pc := 8) G 51 dX4_findPeak_8 (by decide) (fun c => ?_) (fun c => ?_)
  · have h := h.1 c
    refine am_iconst (pc := 51) G dX4_findPeak_51 (by decide) ?_
    exact am_iret (pc := 52) G Z dX4_findPeak_52 h
  · have h := h.2 c
    refine am_aload_n (i := 0) (t := 11) (pc := 11) G dX4_findPeak_11 rfl rfl rfl ?_
    refine gf_X4_2 (pc := 12) G dX4_findPeak_12 tw_f_RX4_35 ?_
    refine am_iload_n (i := 2) (pc := 15) G dX4_findPeak_15 rfl rfl ?_
    refine am_callV (rk := 1) (rmc := rm_X6_has) (st := []) (pc := 16) G 6 [(0, _)] rfl (by decide) rfl dX4_findPeak_16 tw_m_RX4_43 tw_i_X6_has tw_v_X6_has tw_z_RX6 tw_c_X6_has hy_X6_has (callrm hr rfl) rfl (RunsM.mono h (fun r3 M4 h => ?_)) Z.rm
    show AW X 19 _ [(0, _)] M4
    refine am_if_eq (pc := 19) G 51 dX4_findPeak_19 (by decide) (fun c => ?_) (fun c => ?_)
    · have h := h.1 c
      refine am_iconst (pc := 51) G dX4_findPeak_51 (by decide) ?_
      exact am_iret (pc := 52) G Z dX4_findPeak_52 h
    · have h := h.2 c
      refine am_aload_n (i := 0) (t := 11) (pc := 22) G dX4_findPeak_22 rfl rfl rfl ?_
      refine gf_X4_4 (pc := 23) G dX4_findPeak_23 tw_f_RX4_18 ?_
      refine am_aload_n (i := 0) (t := 11) (pc := 26) G dX4_findPeak_26 rfl rfl rfl ?_
      refine gf_X4_2 (pc := 27) G dX4_findPeak_27 tw_f_RX4_35 ?_
      refine gf_X6_1 (pc := 30) G dX4_findPeak_30 tw_f_RX4_49 ?_
      refine am_iload_n (i := 1) (pc := 33) G dX4_findPeak_33 rfl rfl ?_
      refine am_aald (pc := 34) G 20002 dX4_findPeak_34 (by decide) h.1 ?_
      have h := h.2
      refine am_iload_n (i := 3) (pc := 35) G dX4_findPeak_35 rfl rfl ?_
      refine am_aload_n (i := 0) (t := 11) (pc := 36) G dX4_findPeak_36 rfl rfl rfl ?_
      refine gf_X4_2 (pc := 37) G dX4_findPeak_37 tw_f_RX4_35 ?_
      refine gf_X6_1 (pc := 40) G dX4_findPeak_40 tw_f_RX4_49 ?_
      refine am_iload_n (i := 2) (pc := 43) G dX4_findPeak_43 rfl rfl ?_
      refine am_aald (pc := 44) G 20002 dX4_findPeak_44 (by decide) h.1 ?_
      have h := h.2
      refine am_callV (rk := 1) (rmc := rm_X1_join) (st := []) (pc := 45) G 1 [(17, _), (0, _), (17, _)] rfl (by decide) rfl dX4_findPeak_45 tw_m_RX4_53 tw_i_X1_join tw_v_X1_join tw_z_RX1 tw_c_X1_join hy_X1_join (callrm hr rfl) rfl (RunsM.mono h (fun r5 M6 h => ?_)) Z.rm
      show AW X 48 _ [(0, _)] M6
      refine am_if_ne (pc := 48) G 53 dX4_findPeak_48 (by decide) (fun c => ?_) (fun c => ?_)
      · have h := h.2 c
        refine am_aload_n (i := 0) (t := 11) (pc := 53) G dX4_findPeak_53 rfl rfl rfl ?_
        refine gf_X4_4 (pc := 54) G dX4_findPeak_54 tw_f_RX4_18 ?_
        refine am_callV (rk := 0) (rmc := rm_X1_nodes) (st := []) (pc := 57) G 1 [] rfl (by decide) rfl dX4_findPeak_57 tw_m_RX4_57 tw_i_X1_nodes tw_v_X1_nodes tw_z_RX1 tw_c_X1_nodes hy_X1_nodes (callrm hr rfl) rfl (RunsM.mono h (fun r7 M8 h => ?_)) Z.rm
        show AW X 60 _ [(0, _)] M8
        refine am_bipush (pc := 60) G dX4_findPeak_60 (by decide) (by decide) ?_
        refine am_icmp_le (pc := 62) G 67 dX4_findPeak_62 (by decide) (fun c => ?_) (fun c => ?_)
        · have h := h.1 c
          refine am_aload_n (i := 0) (t := 11) (pc := 67) G dX4_findPeak_67 rfl rfl rfl ?_
          refine am_aload_n (i := 0) (t := 11) (pc := 68) G dX4_findPeak_68 rfl rfl rfl ?_
          refine gf_X4_4 (pc := 69) G dX4_findPeak_69 tw_f_RX4_18 ?_
          refine am_aload_n (i := 0) (t := 11) (pc := 72) G dX4_findPeak_72 rfl rfl rfl ?_
          refine gf_X4_5 (pc := 73) G dX4_findPeak_73 tw_f_RX4_25 ?_
          refine am_callV (rk := 0) (rmc := rm_X1_write) (st := [(14, _)]) (pc := 76) G 1 [(17, _)] rfl (by decide) rfl dX4_findPeak_76 tw_m_RX4_61 tw_i_X1_write tw_v_X1_write tw_z_RX1 tw_c_X1_write hy_X1_write (callrm hr rfl) rfl (RunsM.mono h (fun r9 M10 h => ?_)) Z.rm
          show AW X 79 _ [(0, _), (14, _)] M10
          refine pf_X4_6 (pc := 79) G dX4_findPeak_79 tw_f_RX4_65 ?_
          refine am_iconst (pc := 82) G dX4_findPeak_82 (by decide) ?_
          exact am_iret (pc := 83) G Z dX4_findPeak_83 h
        · have h := h.2 c
          refine am_iconst (pc := 65) G dX4_findPeak_65 (by decide) ?_
          exact am_iret (pc := 66) G Z dX4_findPeak_66 h
      · have h := h.1 c
        refine am_iconst (pc := 51) G dX4_findPeak_51 (by decide) ?_
        exact am_iret (pc := 52) G Z dX4_findPeak_52 h
-- X4_namePeak TreeHands$Overlapper.namePeak(LTreeHands$Tree;)Z
def rm_X4_namePeak : Room := { frames := 1, cells := 0, slots := 0, locals := 23 }
theorem hy_X4_namePeak : yX4_namePeak.cls ≠ "java/lang/invoke/MethodHandle" ∧ yX4_namePeak.cls ≠ "java/lang/invoke/VarHandle" ∧ (parseMethodDescriptor yX4_namePeak.desc).map (fun d => d.parameters.length) = some 1 := by decide +kernel
abbrev R_X4_namePeak (V : VV) (x1 : Int) (M : Mem) (Q : Int → Mem → Prop) : Prop := RunsM V yX4_namePeak (.code yX4_namePeak cX4_namePeak 4 (Option.some Jvm.ClassFile.FieldType.boolean)) rm_X4_namePeak 1 [(14, 127), (17, x1)] M Q
def wp_X4_namePeak_56 (V : VV) (x1 x2 s0 s1 : Int) (M : Mem) (Q : Int → Mem → Prop) (B18 : Int → Mem → Prop) : Prop :=
  ((0 : Int) ≤ x2 ∧ x2 < (16 : Int)) ∧
  R_X7_append V s1 s0 (M (140 + 2) x2) M (fun _ M5 =>
  B18 (w32 (x2 + 1)) M5)
theorem swp_X4_namePeak_56 {X : XX} {Q : Int → Mem → Prop} (G : GX X cX4_namePeak "TreeHands$Overlapper") (Z : RX X 1 Q) (hn : nLX X = 4) (hr : roomX X = rm_X4_namePeak) (x1 x2 s0 s1 : Int) (M : Mem) (B18 : Int → Mem → Prop) (k18 : ∀ (z2 : Int) (N : Mem), B18 z2 N → AW X 18 [(14, 127), (17, x1), (0, z2), (99, 0)] [] N) (h : wp_X4_namePeak_56 (vX X) x1 x2 s0 s1 M Q B18) : AW X 56 [(14, 127), (17, x1), (0, x2), (99, 0)] [(0, s0), (17, s1)] M := by
  unfold wp_X4_namePeak_56 at h
  refine am_aload_n (i := 0) (t := 11) (pc := 56) G dX4_namePeak_56 rfl rfl rfl ?_
  refine gf_X4_5 (pc := 57) G dX4_namePeak_57 tw_f_RX4_25 ?_
  refine gf_X7_2 (pc := 60) G dX4_namePeak_60 tw_f_RX4_75 ?_
  refine am_iload_n (i := 2) (pc := 63) G dX4_namePeak_63 rfl rfl ?_
  refine am_iald (pc := 64) G 16 dX4_namePeak_64 (by decide) h.1 ?_
  have h := h.2
  refine am_callV (rk := 4) (rmc := rm_X7_append) (st := []) (pc := 65) G 7 [(0, _), (0, _)] rfl (by decide) rfl dX4_namePeak_65 tw_m_RX4_78 tw_i_X7_append tw_v_X7_append tw_z_RX7 tw_c_X7_append hy_X7_append (callrm hr rfl) rfl (RunsM.mono h (fun r4 M5 h => ?_)) Z.rm
  show AW X 68 _ [] M5
  refine am_iinc (pc := 68) G dX4_namePeak_68 rfl (nlx hn rfl) rfl ?_
  refine am_goto (pc := 71) (ls := [(14, _), (17, _), (0, _), (99, _)]) G 18 dX4_namePeak_71 (by decide) ?_
  refine am_le (ls' := [(14, _), (17, _), (0, _), (99, 0)]) ⟨Or.inr rfl, ⟨Or.inr rfl, ⟨Or.inr rfl, ⟨Or.inl rfl, trivial⟩⟩⟩⟩ ?_
  exact k18 _ _ h
def wp_X4_namePeak_18_b (V : VV) (x1 x2 : Int) (M : Mem) (Q : Int → Mem → Prop) (B18 : Int → Mem → Prop) : Prop :=
  (M 140 0 ≤ x2 →
    R_X7_settle V x1 M (fun _ M2 =>
    Q 1 M2)) ∧ (¬ (M 140 0 ≤ x2) →
    ((0 : Int) ≤ x2 ∧ x2 < (16 : Int)) ∧
    ∀ v3 : Int, v3 = M (140 + 1) x2 →
    (16 < v3 →
      wp_X4_namePeak_56 V x1 x2 v3 x1 M Q B18) ∧ (¬ (16 < v3) →
      wp_X4_namePeak_56 V x1 x2 (w32 (w32 (65 + v3) - 1)) x1 M Q B18))
theorem swp_X4_namePeak_18_b {X : XX} {Q : Int → Mem → Prop} (G : GX X cX4_namePeak "TreeHands$Overlapper") (Z : RX X 1 Q) (hn : nLX X = 4) (hr : roomX X = rm_X4_namePeak) (x1 x2 : Int) (M : Mem) (B18 : Int → Mem → Prop) (k18 : ∀ (z2 : Int) (N : Mem), B18 z2 N → AW X 18 [(14, 127), (17, x1), (0, z2), (99, 0)] [] N) (h : wp_X4_namePeak_18_b (vX X) x1 x2 M Q B18) : AW X 18 [(14, 127), (17, x1), (0, x2), (99, 0)] [] M := by
  unfold wp_X4_namePeak_18_b at h
  refine am_iload_n (i := 2) (pc := 18) G dX4_namePeak_18 rfl rfl ?_
  refine am_aload_n (i := 0) (t := 11) (pc := 19) G dX4_namePeak_19 rfl rfl rfl ?_
  refine gf_X4_5 (pc := 20) G dX4_namePeak_20 tw_f_RX4_25 ?_
  refine gf_X7_0 (pc := 23) G dX4_namePeak_23 tw_f_RX4_69 ?_
  refine am_icmp_ge (pc := 26) G 74 dX4_namePeak_26 (by decide) (fun c => ?_) (fun c => ?_)
  · have h := h.1 c
    refine am_aload_n (i := 1) (t := 14) (pc := 74) G dX4_namePeak_74 rfl rfl rfl ?_
    refine am_callV (rk := 4) (rmc := rm_X7_settle) (st := []) (pc := 75) G 7 [] rfl (by decide) rfl dX4_namePeak_75 tw_m_RX4_82 tw_i_X7_settle tw_v_X7_settle tw_z_RX7 tw_c_X7_settle hy_X7_settle (callrm hr rfl) rfl (RunsM.mono h (fun r1 M2 h => ?_)) Z.rm
    show AW X 78 _ [] M2
    refine am_iconst (pc := 78) G dX4_namePeak_78 (by decide) ?_
    exact am_zret (pc := 79) G Z dX4_namePeak_79 ⟨by decide, h⟩
  · have h := h.2 c
    refine am_aload_n (i := 0) (t := 11) (pc := 29) G dX4_namePeak_29 rfl rfl rfl ?_
    refine gf_X4_5 (pc := 30) G dX4_namePeak_30 tw_f_RX4_25 ?_
    refine gf_X7_1 (pc := 33) G dX4_namePeak_33 tw_f_RX4_72 ?_
    refine am_iload_n (i := 2) (pc := 36) G dX4_namePeak_36 rfl rfl ?_
    refine am_iald (pc := 37) G 16 dX4_namePeak_37 (by decide) h.1 ?_
    have h := h.2
    have h := h _ rfl
    refine am_istore_n (pc := 38) G dX4_namePeak_38 rfl (nlx hn rfl) rfl ?_
    refine am_aload_n (i := 1) (t := 14) (pc := 39) (ls := [(14, _), (17, _), (0, _), (0, _)]) G dX4_namePeak_39 rfl rfl rfl ?_
    refine am_iload_n (i := 3) (pc := 40) G dX4_namePeak_40 rfl rfl ?_
    refine am_bipush (pc := 41) G dX4_namePeak_41 (by decide) (by decide) ?_
    refine am_icmp_gt (pc := 43) G 55 dX4_namePeak_43 (by decide) (fun c => ?_) (fun c => ?_)
    · have h := h.1 c
      refine am_iload_n (i := 3) (pc := 55) G dX4_namePeak_55 rfl rfl ?_
      refine am_le (ls' := [(14, _), (17, _), (0, _), (99, 0)]) ⟨Or.inr rfl, ⟨Or.inr rfl, ⟨Or.inr rfl, ⟨Or.inl rfl, trivial⟩⟩⟩⟩ ?_
      exact swp_X4_namePeak_56 G Z hn hr _ _ _ _ _ B18 k18 h
    · have h := h.2 c
      refine am_bipush (pc := 46) G dX4_namePeak_46 (by decide) (by decide) ?_
      refine am_iload_n (i := 3) (pc := 48) G dX4_namePeak_48 rfl rfl ?_
      refine am_iadd (pc := 49) G dX4_namePeak_49 ?_
      refine am_iconst (pc := 50) G dX4_namePeak_50 (by decide) ?_
      refine am_isub (pc := 51) G dX4_namePeak_51 ?_
      refine am_goto (pc := 52) G 56 dX4_namePeak_52 (by decide) ?_
      refine am_le (ls' := [(14, _), (17, _), (0, _), (99, 0)]) ⟨Or.inr rfl, ⟨Or.inr rfl, ⟨Or.inr rfl, ⟨Or.inl rfl, trivial⟩⟩⟩⟩ ?_
      exact swp_X4_namePeak_56 G Z hn hr _ _ _ _ _ B18 k18 h
def wp_X4_namePeak_18 (V : VV) (x1 x2 : Int) (M : Mem) (Q : Int → Mem → Prop) : Prop :=
  ∃ (I : Int → Mem → Prop) (μ : Int → Mem → Nat), I x2 M ∧ ∀ (y2 : Int) (N : Mem), I y2 N → wp_X4_namePeak_18_b V x1 y2 N Q (fun z2 N1 => I z2 N1 ∧ μ z2 N1 < μ y2 N)
theorem swp_X4_namePeak_18 {X : XX} {Q : Int → Mem → Prop} (G : GX X cX4_namePeak "TreeHands$Overlapper") (Z : RX X 1 Q) (hn : nLX X = 4) (hr : roomX X = rm_X4_namePeak) (x1 x2 : Int) (M : Mem) (h : wp_X4_namePeak_18 (vX X) x1 x2 M Q) : AW X 18 [(14, 127), (17, x1), (0, x2), (99, 0)] [] M := by
  unfold wp_X4_namePeak_18 at h
  obtain ⟨I, μ, hI, hs⟩ := h
  have key : ∀ (n : Nat) (y2 : Int) (N : Mem), μ y2 N < n → I y2 N → AW X 18 [(14, 127), (17, x1), (0, y2), (99, 0)] [] N := by
    intro n
    induction n with
    | zero => intro y2 N hlt; exact absurd hlt (Nat.not_lt_zero _)
    | succ n ih =>
      intro y2 N hlt hI
      exact swp_X4_namePeak_18_b G Z hn hr x1 y2 N (fun z2 N1 => I z2 N1 ∧ μ z2 N1 < μ y2 N) (fun z2 N1 hz => ih z2 N1 (by omega) hz.1) (hs y2 N hI)
  exact key _ x2 M (Nat.lt_succ_self _) hI
def wp_X4_namePeak (V : VV) (x1 : Int) (M : Mem) (Q : Int → Mem → Prop) : Prop :=
  (M 127 6 ≤ 8 →
    wp_X4_namePeak_18 V x1 0 (mset M x1 0 0) Q) ∧ (¬ (M 127 6 ≤ 8) →
    Q 0 M)
theorem of_X4_namePeak {V : VV} {x1 : Int} {M : Mem} {Q : Int → Mem → Prop} (h : wp_X4_namePeak V x1 M Q) : R_X4_namePeak V x1 M Q := by
  refine met_in (own := "TreeHands$Overlapper") (by decide +kernel) rfl rfl (Nat.le_of_ble_eq_true rfl) ?_
  intro X G Z hn hr hv
  subst hv
  unfold wp_X4_namePeak at h
  show AW X 0 [(14, 127), (17, x1), (99, 0), (99, 0)] [] M
  refine am_aload_n (i := 0) (t := 11) (pc := 0) G dX4_namePeak_0 rfl rfl rfl ?_
  refine gf_X4_6 (pc := 1) G dX4_namePeak_1 tw_f_RX4_65 ?_
  refine am_bipush (pc := 4) G dX4_namePeak_4 (by decide) (by decide) ?_
  refine am_icmp_le (pc := 6) G 11 dX4_namePeak_6 (by decide) (fun c => ?_) (fun c => ?_)
  · have h := h.1 c
    refine am_aload_n (i := 1) (t := 14) (pc := 11) G dX4_namePeak_11 rfl rfl rfl ?_
    refine am_iconst (pc := 12) G dX4_namePeak_12 (by decide) ?_
    refine pf_X7_0 (pc := 13) G dX4_namePeak_13 tw_f_RX4_69 ?_
    refine am_iconst (pc := 16) G dX4_namePeak_16 (by decide) ?_
    refine am_istore_n (pc := 17) G dX4_namePeak_17 rfl (nlx hn rfl) rfl ?_
    refine am_le (ls' := [(14, _), (17, _), (0, _), (99, 0)]) ⟨Or.inr rfl, ⟨Or.inr rfl, ⟨Or.inr rfl, ⟨Or.inl rfl, trivial⟩⟩⟩⟩ ?_
    exact swp_X4_namePeak_18 G Z hn hr _ _ _ h
  · have h := h.2 c
    refine am_iconst (pc := 9) G dX4_namePeak_9 (by decide) ?_
    exact am_zret (pc := 10) G Z dX4_namePeak_10 ⟨by decide, h⟩
-- X7_copyAll TreeHands$Tree.copyAll(LTreeHands$Tree;)V
def rm_X7_copyAll : Room := { frames := 0, cells := 0, slots := 0, locals := 0 }
theorem hy_X7_copyAll : yX7_copyAll.cls ≠ "java/lang/invoke/MethodHandle" ∧ yX7_copyAll.cls ≠ "java/lang/invoke/VarHandle" ∧ (parseMethodDescriptor yX7_copyAll.desc).map (fun d => d.parameters.length) = some 1 := by decide +kernel
abbrev R_X7_copyAll (V : VV) (x0 x1 : Int) (M : Mem) (Q : Int → Mem → Prop) : Prop := RunsM V yX7_copyAll (.code yX7_copyAll cX7_copyAll 3 (Option.none : Option Jvm.ClassFile.FieldType)) rm_X7_copyAll 4 [(17, x0), (17, x1)] M Q
def wp_X7_copyAll_10_b (V : VV) (x0 x1 x2 : Int) (M : Mem) (Q : Int → Mem → Prop) (B10 : Int → Mem → Prop) : Prop :=
  (16 ≤ x2 →
    Q 0 M) ∧ (¬ (16 ≤ x2) →
    ((0 : Int) ≤ x2 ∧ x2 < (16 : Int)) ∧
    ((0 : Int) ≤ x2 ∧ x2 < (16 : Int)) ∧
    ∀ M1 : Mem, M1 = mset M (x0 + 1) x2 (M (x1 + 1) x2) →
    ((0 : Int) ≤ x2 ∧ x2 < (16 : Int)) ∧
    ((0 : Int) ≤ x2 ∧ x2 < (16 : Int)) ∧
    ∀ M2 : Mem, M2 = mset M1 (x0 + 2) x2 (M1 (x1 + 2) x2) →
    ((0 : Int) ≤ x2 ∧ x2 < (16 : Int)) ∧
    ((0 : Int) ≤ x2 ∧ x2 < (16 : Int)) ∧
    ∀ M3 : Mem, M3 = mset M2 (x0 + 3) x2 (M2 (x1 + 3) x2) →
    ((0 : Int) ≤ x2 ∧ x2 < (16 : Int)) ∧
    ((0 : Int) ≤ x2 ∧ x2 < (16 : Int)) ∧
    ∀ M4 : Mem, M4 = mset M3 (x0 + 4) x2 (M3 (x1 + 4) x2) →
    ((0 : Int) ≤ x2 ∧ x2 < (16 : Int)) ∧
    ((0 : Int) ≤ x2 ∧ x2 < (16 : Int)) ∧
    ∀ M5 : Mem, M5 = mset M4 (x0 + 5) x2 (M4 (x1 + 5) x2) →
    ((0 : Int) ≤ x2 ∧ x2 < (16 : Int)) ∧
    ((0 : Int) ≤ x2 ∧ x2 < (16 : Int)) ∧
    B10 (w32 (x2 + 1)) (mset M5 (x0 + 6) x2 (M5 (x1 + 6) x2)))
theorem swp_X7_copyAll_10_b {X : XX} {Q : Int → Mem → Prop} (G : GX X cX7_copyAll "TreeHands$Tree") (Z : RX X 4 Q) (hn : nLX X = 3) (hr : roomX X = rm_X7_copyAll) (x0 x1 x2 : Int) (M : Mem) (B10 : Int → Mem → Prop) (k10 : ∀ (z2 : Int) (N : Mem), B10 z2 N → AW X 10 [(17, x0), (17, x1), (0, z2)] [] N) (h : wp_X7_copyAll_10_b (vX X) x0 x1 x2 M Q B10) : AW X 10 [(17, x0), (17, x1), (0, x2)] [] M := by
  unfold wp_X7_copyAll_10_b at h
  refine am_iload_n (i := 2) (pc := 10) G dX7_copyAll_10 rfl rfl ?_
  refine am_bipush (pc := 11) G dX7_copyAll_11 (by decide) (by decide) ?_
  refine am_icmp_ge (pc := 13) G 94 dX7_copyAll_13 (by decide) (fun c => ?_) (fun c => ?_)
  · have h := h.1 c
    exact am_vret (pc := 94) G Z dX7_copyAll_94 h
  · have h := h.2 c
    refine am_aload_n (i := 0) (t := 14) (pc := 16) G dX7_copyAll_16 rfl rfl rfl ?_
    refine gf_X7_1 (pc := 17) G dX7_copyAll_17 tw_f_RX7_9 ?_
    refine am_iload_n (i := 2) (pc := 20) G dX7_copyAll_20 rfl rfl ?_
    refine am_aload_n (i := 1) (t := 14) (pc := 21) G dX7_copyAll_21 rfl rfl rfl ?_
    refine gf_X7_1 (pc := 22) G dX7_copyAll_22 tw_f_RX7_9 ?_
    refine am_iload_n (i := 2) (pc := 25) G dX7_copyAll_25 rfl rfl ?_
    refine am_iald (pc := 26) G 16 dX7_copyAll_26 (by decide) h.1 ?_
    have h := h.2
    refine am_iast (pc := 27) G 16 dX7_copyAll_27 (by decide) h.1 ?_
    have h := h.2
    refine am_aload_n (i := 0) (t := 14) (pc := 28) G dX7_copyAll_28 rfl rfl rfl ?_
    refine gf_X7_2 (pc := 29) G dX7_copyAll_29 tw_f_RX7_15 ?_
    refine am_iload_n (i := 2) (pc := 32) G dX7_copyAll_32 rfl rfl ?_
    refine am_aload_n (i := 1) (t := 14) (pc := 33) G dX7_copyAll_33 rfl rfl rfl ?_
    refine gf_X7_2 (pc := 34) G dX7_copyAll_34 tw_f_RX7_15 ?_
    refine am_iload_n (i := 2) (pc := 37) G dX7_copyAll_37 rfl rfl ?_
    have h := h _ rfl
    refine am_iald (pc := 38) G 16 dX7_copyAll_38 (by decide) h.1 ?_
    have h := h.2
    refine am_iast (pc := 39) G 16 dX7_copyAll_39 (by decide) h.1 ?_
    have h := h.2
    refine am_aload_n (i := 0) (t := 14) (pc := 40) G dX7_copyAll_40 rfl rfl rfl ?_
    refine gf_X7_3 (pc := 41) G dX7_copyAll_41 tw_f_RX7_18 ?_
    refine am_iload_n (i := 2) (pc := 44) G dX7_copyAll_44 rfl rfl ?_
    refine am_aload_n (i := 1) (t := 14) (pc := 45) G dX7_copyAll_45 rfl rfl rfl ?_
    refine gf_X7_3 (pc := 46) G dX7_copyAll_46 tw_f_RX7_18 ?_
    refine am_iload_n (i := 2) (pc := 49) G dX7_copyAll_49 rfl rfl ?_
    have h := h _ rfl
    refine am_iald (pc := 50) G 16 dX7_copyAll_50 (by decide) h.1 ?_
    have h := h.2
    refine am_iast (pc := 51) G 16 dX7_copyAll_51 (by decide) h.1 ?_
    have h := h.2
    refine am_aload_n (i := 0) (t := 14) (pc := 52) G dX7_copyAll_52 rfl rfl rfl ?_
    refine gf_X7_4 (pc := 53) G dX7_copyAll_53 tw_f_RX7_21 ?_
    refine am_iload_n (i := 2) (pc := 56) G dX7_copyAll_56 rfl rfl ?_
    refine am_aload_n (i := 1) (t := 14) (pc := 57) G dX7_copyAll_57 rfl rfl rfl ?_
    refine gf_X7_4 (pc := 58) G dX7_copyAll_58 tw_f_RX7_21 ?_
    refine am_iload_n (i := 2) (pc := 61) G dX7_copyAll_61 rfl rfl ?_
    have h := h _ rfl
    refine am_iald (pc := 62) G 16 dX7_copyAll_62 (by decide) h.1 ?_
    have h := h.2
    refine am_iast (pc := 63) G 16 dX7_copyAll_63 (by decide) h.1 ?_
    have h := h.2
    refine am_aload_n (i := 0) (t := 14) (pc := 64) G dX7_copyAll_64 rfl rfl rfl ?_
    refine gf_X7_5 (pc := 65) G dX7_copyAll_65 tw_f_RX7_24 ?_
    refine am_iload_n (i := 2) (pc := 68) G dX7_copyAll_68 rfl rfl ?_
    refine am_aload_n (i := 1) (t := 14) (pc := 69) G dX7_copyAll_69 rfl rfl rfl ?_
    refine gf_X7_5 (pc := 70) G dX7_copyAll_70 tw_f_RX7_24 ?_
    refine am_iload_n (i := 2) (pc := 73) G dX7_copyAll_73 rfl rfl ?_
    have h := h _ rfl
    refine am_iald (pc := 74) G 16 dX7_copyAll_74 (by decide) h.1 ?_
    have h := h.2
    refine am_iast (pc := 75) G 16 dX7_copyAll_75 (by decide) h.1 ?_
    have h := h.2
    refine am_aload_n (i := 0) (t := 14) (pc := 76) G dX7_copyAll_76 rfl rfl rfl ?_
    refine gf_X7_6 (pc := 77) G dX7_copyAll_77 tw_f_RX7_27 ?_
    refine am_iload_n (i := 2) (pc := 80) G dX7_copyAll_80 rfl rfl ?_
    refine am_aload_n (i := 1) (t := 14) (pc := 81) G dX7_copyAll_81 rfl rfl rfl ?_
    refine gf_X7_6 (pc := 82) G dX7_copyAll_82 tw_f_RX7_27 ?_
    refine am_iload_n (i := 2) (pc := 85) G dX7_copyAll_85 rfl rfl ?_
    have h := h _ rfl
    refine am_iald (pc := 86) G 16 dX7_copyAll_86 (by decide) h.1 ?_
    have h := h.2
    refine am_iast (pc := 87) G 16 dX7_copyAll_87 (by decide) h.1 ?_
    have h := h.2
    refine am_iinc (pc := 88) G dX7_copyAll_88 rfl (nlx hn rfl) rfl ?_
    refine am_goto (pc := 91) (ls := [(17, _), (17, _), (0, _)]) G 10 dX7_copyAll_91 (by decide) ?_
    refine am_le (ls' := [(17, _), (17, _), (0, _)]) ⟨Or.inr rfl, ⟨Or.inr rfl, ⟨Or.inr rfl, trivial⟩⟩⟩ ?_
    exact k10 _ _ h
def wp_X7_copyAll_10 (V : VV) (x0 x1 x2 : Int) (M : Mem) (Q : Int → Mem → Prop) : Prop :=
  ∃ (I : Int → Mem → Prop) (μ : Int → Mem → Nat), I x2 M ∧ ∀ (y2 : Int) (N : Mem), I y2 N → wp_X7_copyAll_10_b V x0 x1 y2 N Q (fun z2 N1 => I z2 N1 ∧ μ z2 N1 < μ y2 N)
theorem swp_X7_copyAll_10 {X : XX} {Q : Int → Mem → Prop} (G : GX X cX7_copyAll "TreeHands$Tree") (Z : RX X 4 Q) (hn : nLX X = 3) (hr : roomX X = rm_X7_copyAll) (x0 x1 x2 : Int) (M : Mem) (h : wp_X7_copyAll_10 (vX X) x0 x1 x2 M Q) : AW X 10 [(17, x0), (17, x1), (0, x2)] [] M := by
  unfold wp_X7_copyAll_10 at h
  obtain ⟨I, μ, hI, hs⟩ := h
  have key : ∀ (n : Nat) (y2 : Int) (N : Mem), μ y2 N < n → I y2 N → AW X 10 [(17, x0), (17, x1), (0, y2)] [] N := by
    intro n
    induction n with
    | zero => intro y2 N hlt; exact absurd hlt (Nat.not_lt_zero _)
    | succ n ih =>
      intro y2 N hlt hI
      exact swp_X7_copyAll_10_b G Z hn hr x0 x1 y2 N (fun z2 N1 => I z2 N1 ∧ μ z2 N1 < μ y2 N) (fun z2 N1 hz => ih z2 N1 (by omega) hz.1) (hs y2 N hI)
  exact key _ x2 M (Nat.lt_succ_self _) hI
def wp_X7_copyAll (V : VV) (x0 x1 : Int) (M : Mem) (Q : Int → Mem → Prop) : Prop :=
  wp_X7_copyAll_10 V x0 x1 0 (mset M x0 0 (M x1 0)) Q
theorem of_X7_copyAll {V : VV} {x0 x1 : Int} {M : Mem} {Q : Int → Mem → Prop} (h : wp_X7_copyAll V x0 x1 M Q) : R_X7_copyAll V x0 x1 M Q := by
  refine met_in (own := "TreeHands$Tree") (by decide +kernel) rfl rfl (Nat.le_of_ble_eq_true rfl) ?_
  intro X G Z hn hr hv
  subst hv
  unfold wp_X7_copyAll at h
  show AW X 0 [(17, x0), (17, x1), (99, 0)] [] M
  refine am_aload_n (i := 0) (t := 14) (pc := 0) G dX7_copyAll_0 rfl rfl rfl ?_
  refine am_aload_n (i := 1) (t := 14) (pc := 1) G dX7_copyAll_1 rfl rfl rfl ?_
  refine gf_X7_0 (pc := 2) G dX7_copyAll_2 tw_f_RX7_30 ?_
  refine pf_X7_0 (pc := 5) G dX7_copyAll_5 tw_f_RX7_30 ?_
  refine am_iconst (pc := 8) G dX7_copyAll_8 (by decide) ?_
  refine am_istore_n (pc := 9) G dX7_copyAll_9 rfl (nlx hn rfl) rfl ?_
  refine am_le (ls' := [(17, _), (17, _), (0, _)]) ⟨Or.inr rfl, ⟨Or.inr rfl, ⟨Or.inr rfl, trivial⟩⟩⟩ ?_
  exact swp_X7_copyAll_10 G Z hn hr _ _ _ _ h
-- X6_suits TreeHands$Rules.suits(ILTreeHands$Tree;I)Z
def rm_X6_suits : Room := { frames := 2, cells := 0, slots := 0, locals := 45 }
theorem hy_X6_suits : yX6_suits.cls ≠ "java/lang/invoke/MethodHandle" ∧ yX6_suits.cls ≠ "java/lang/invoke/VarHandle" ∧ (parseMethodDescriptor yX6_suits.desc).map (fun d => d.parameters.length) = some 3 := by decide +kernel
abbrev R_X6_suits (V : VV) (x1 x2 x3 : Int) (M : Mem) (Q : Int → Mem → Prop) : Prop := RunsM V yX6_suits (.code yX6_suits cX6_suits 8 (Option.some Jvm.ClassFile.FieldType.boolean)) rm_X6_suits 1 [(16, 28), (0, x1), (17, x2), (0, x3)] M Q
def wp_X6_suits_165 (V : VV) (x2 x4 x5 x6 : Int) (M : Mem) (Q : Int → Mem → Prop) (B76 : Int → Int → Mem → Prop) : Prop :=
  ((0 : Int) ≤ x5 ∧ x5 < (16 : Int)) ∧
  ∀ v12 : Int, v12 = w32 (x5 + M (x2 + 3) x5) →
  B76 v12 (w32 (x6 + 1)) M
theorem swp_X6_suits_165 {X : XX} {Q : Int → Mem → Prop} (G : GX X cX6_suits "TreeHands$Rules") (Z : RX X 1 Q) (hn : nLX X = 8) (hr : roomX X = rm_X6_suits) (x2 x4 x5 x6 : Int) (M : Mem) (B76 : Int → Int → Mem → Prop) (k76 : ∀ (z5 z6 : Int) (N : Mem), B76 z5 z6 N → AW X 76 [(16, 28), (99, 0), (17, x2), (99, 0), (17, x4), (0, z5), (0, z6), (99, 0)] [] N) (h : wp_X6_suits_165 (vX X) x2 x4 x5 x6 M Q B76) : AW X 165 [(16, 28), (99, 0), (17, x2), (99, 0), (17, x4), (0, x5), (0, x6), (99, 0)] [] M := by
  unfold wp_X6_suits_165 at h
  refine am_iload (pc := 165) G dX6_suits_165 rfl ?_
  refine am_aload_n (i := 2) (t := 14) (pc := 167) G dX6_suits_167 rfl rfl rfl ?_
  refine gf_X7_3 (pc := 168) G dX6_suits_168 tw_f_RX6_53 ?_
  refine am_iload (pc := 171) G dX6_suits_171 rfl ?_
  refine am_iald (pc := 173) G 16 dX6_suits_173 (by decide) h.1 ?_
  have h := h.2
  refine am_iadd (pc := 174) G dX6_suits_174 ?_
  have h := h _ rfl
  refine am_istore (pc := 175) G dX6_suits_175 (nlx hn rfl) rfl ?_
  refine am_goto (pc := 177) (ls := [(16, _), (99, _), (17, _), (99, _), (17, _), (0, _), (0, _), (99, _)]) G 224 dX6_suits_177 (by decide) ?_
  refine am_iinc (pc := 224) G dX6_suits_224 rfl (nlx hn rfl) rfl ?_
  refine am_goto (pc := 227) (ls := [(16, _), (99, _), (17, _), (99, _), (17, _), (0, _), (0, _), (99, _)]) G 76 dX6_suits_227 (by decide) ?_
  refine am_le (ls' := [(16, _), (99, 0), (17, _), (99, 0), (17, _), (0, _), (0, _), (99, 0)]) ⟨Or.inr rfl, ⟨Or.inl rfl, ⟨Or.inr rfl, ⟨Or.inl rfl, ⟨Or.inr rfl, ⟨Or.inr rfl, ⟨Or.inr rfl, ⟨Or.inl rfl, trivial⟩⟩⟩⟩⟩⟩⟩⟩ ?_
  exact k76 _ _ _ h
def wp_X6_suits_76_b (V : VV) (x2 x4 x5 x6 : Int) (M : Mem) (Q : Int → Mem → Prop) (B76 : Int → Int → Mem → Prop) : Prop :=
  (M x4 0 ≤ x6 →
    Q 1 M) ∧ (¬ (M x4 0 ≤ x6) →
    R_X7_has V x2 x5 M (fun r5 M6 =>
    (r5 = 0 →
      Q 0 M6) ∧ (¬ (r5 = 0) →
      ((0 : Int) ≤ x6 ∧ x6 < (16 : Int)) ∧
      R_X9_isHole V (M6 (x4 + 1) x6) M6 (fun r7 M8 =>
      (r7 = 0 →
        ((0 : Int) ≤ x6 ∧ x6 < (16 : Int)) ∧
        ((0 : Int) ≤ x5 ∧ x5 < (16 : Int)) ∧
        (M8 (x4 + 1) x6 = M8 (x2 + 1) x5 →
          ((0 : Int) ≤ x6 ∧ x6 < (16 : Int)) ∧
          ((0 : Int) ≤ x5 ∧ x5 < (16 : Int)) ∧
          (M8 (x4 + 2) x6 = M8 (x2 + 2) x5 →
            B76 (w32 (x5 + 1)) (w32 (x6 + 1)) M8) ∧ (¬ (M8 (x4 + 2) x6 = M8 (x2 + 2) x5) →
            Q 0 M8)) ∧ (¬ (M8 (x4 + 1) x6 = M8 (x2 + 1) x5) →
          Q 0 M8)) ∧ (¬ (r7 = 0) →
        ((0 : Int) ≤ x6 ∧ x6 < (16 : Int)) ∧
        ∀ v9 : Int, v9 = w32 (M8 (x4 + 1) x6 - 65) →
        ((0 : Int) ≤ v9 ∧ v9 < (8 : Int)) ∧
        (0 ≤ M8 31 v9 →
          ((0 : Int) ≤ v9 ∧ v9 < (8 : Int)) ∧
          R_X7_isAs V x2 (M8 31 v9) x2 x5 M8 (fun r10 M11 =>
          (r10 = 0 →
            Q 0 M11) ∧ (¬ (r10 = 0) →
            wp_X6_suits_165 V x2 x4 x5 x6 M11 Q B76))) ∧ (¬ (0 ≤ M8 31 v9) →
          ((0 : Int) ≤ v9 ∧ v9 < (8 : Int)) ∧
          wp_X6_suits_165 V x2 x4 x5 x6 (mset M8 31 v9 x5) Q B76))))))
theorem swp_X6_suits_76_b {X : XX} {Q : Int → Mem → Prop} (G : GX X cX6_suits "TreeHands$Rules") (Z : RX X 1 Q) (hn : nLX X = 8) (hr : roomX X = rm_X6_suits) (x2 x4 x5 x6 : Int) (M : Mem) (B76 : Int → Int → Mem → Prop) (k76 : ∀ (z5 z6 : Int) (N : Mem), B76 z5 z6 N → AW X 76 [(16, 28), (99, 0), (17, x2), (99, 0), (17, x4), (0, z5), (0, z6), (99, 0)] [] N) (h : wp_X6_suits_76_b (vX X) x2 x4 x5 x6 M Q B76) : AW X 76 [(16, 28), (99, 0), (17, x2), (99, 0), (17, x4), (0, x5), (0, x6), (99, 0)] [] M := by
  unfold wp_X6_suits_76_b at h
  refine am_iload (pc := 76) G dX6_suits_76 rfl ?_
  refine am_aload (t := 14) (pc := 78) G dX6_suits_78 rfl rfl ?_
  refine gf_X7_0 (pc := 80) G dX6_suits_80 tw_f_RX6_45 ?_
  refine am_icmp_ge (pc := 83) G 230 dX6_suits_83 (by decide) (fun c => ?_) (fun c => ?_)
  · have h := h.1 c
    refine am_iconst (pc := 230) G dX6_suits_230 (by decide) ?_
    exact am_zret (pc := 231) G Z dX6_suits_231 ⟨by decide, h⟩
  · have h := h.2 c
    refine am_aload_n (i := 2) (t := 14) (pc := 86) G dX6_suits_86 rfl rfl rfl ?_
    refine am_iload (pc := 87) G dX6_suits_87 rfl ?_
    refine am_callV (rk := 1) (rmc := rm_X7_has) (st := []) (pc := 89) G 7 [(0, _)] rfl (by decide) rfl dX6_suits_89 tw_m_RX6_41 tw_i_X7_has tw_v_X7_has tw_z_RX7 tw_c_X7_has hy_X7_has (callrm hr rfl) rfl (RunsM.mono h (fun r5 M6 h => ?_)) Z.rm
    show AW X 92 _ [(0, _)] M6
    refine am_if_ne (pc := 92) G 97 dX6_suits_92 (by decide) (fun c => ?_) (fun c => ?_)
    · have h := h.2 c
      refine am_aload (t := 14) (pc := 97) G dX6_suits_97 rfl rfl ?_
      refine gf_X7_1 (pc := 99) G dX6_suits_99 tw_f_RX6_42 ?_
      refine am_iload (pc := 102) G dX6_suits_102 rfl ?_
      refine am_iald (pc := 104) G 16 dX6_suits_104 (by decide) h.1 ?_
      have h := h.2
      refine am_callSN (rk := 1) (rmc := rm_X9_isHole) (st := []) (pc := 105) G [(0, _)] dX6_suits_105 tw_n_RX6_46 tw_s_X9_isHole tw_z_RX9 tw_c_X9_isHole hy_X9_isHole (callrm hr rfl) rfl (RunsM.mono h (fun r7 M8 h => ?_)) Z.rm
      show AW X 108 _ [(0, _)] M8
      refine am_if_eq (pc := 108) G 180 dX6_suits_108 (by decide) (fun c => ?_) (fun c => ?_)
      · have h := h.1 c
        refine am_aload (t := 14) (pc := 180) G dX6_suits_180 rfl rfl ?_
        refine gf_X7_1 (pc := 182) G dX6_suits_182 tw_f_RX6_42 ?_
        refine am_iload (pc := 185) G dX6_suits_185 rfl ?_
        refine am_iald (pc := 187) G 16 dX6_suits_187 (by decide) h.1 ?_
        have h := h.2
        refine am_aload_n (i := 2) (t := 14) (pc := 188) G dX6_suits_188 rfl rfl rfl ?_
        refine gf_X7_1 (pc := 189) G dX6_suits_189 tw_f_RX6_42 ?_
        refine am_iload (pc := 192) G dX6_suits_192 rfl ?_
        refine am_iald (pc := 194) G 16 dX6_suits_194 (by decide) h.1 ?_
        have h := h.2
        refine am_icmp_ne (pc := 195) G 222 dX6_suits_195 (by decide) (fun c => ?_) (fun c => ?_)
        · have h := h.2 c
          refine am_iconst (pc := 222) G dX6_suits_222 (by decide) ?_
          exact am_zret (pc := 223) G Z dX6_suits_223 ⟨by decide, h⟩
        · have h := h.1 c
          refine am_aload (t := 14) (pc := 198) G dX6_suits_198 rfl rfl ?_
          refine gf_X7_2 (pc := 200) G dX6_suits_200 tw_f_RX6_56 ?_
          refine am_iload (pc := 203) G dX6_suits_203 rfl ?_
          refine am_iald (pc := 205) G 16 dX6_suits_205 (by decide) h.1 ?_
          have h := h.2
          refine am_aload_n (i := 2) (t := 14) (pc := 206) G dX6_suits_206 rfl rfl rfl ?_
          refine gf_X7_2 (pc := 207) G dX6_suits_207 tw_f_RX6_56 ?_
          refine am_iload (pc := 210) G dX6_suits_210 rfl ?_
          refine am_iald (pc := 212) G 16 dX6_suits_212 (by decide) h.1 ?_
          have h := h.2
          refine am_icmp_ne (pc := 213) G 222 dX6_suits_213 (by decide) (fun c => ?_) (fun c => ?_)
          · have h := h.2 c
            refine am_iconst (pc := 222) G dX6_suits_222 (by decide) ?_
            exact am_zret (pc := 223) G Z dX6_suits_223 ⟨by decide, h⟩
          · have h := h.1 c
            refine am_iinc (pc := 216) G dX6_suits_216 rfl (nlx hn rfl) rfl ?_
            refine am_goto (pc := 219) (ls := [(16, _), (99, _), (17, _), (99, _), (17, _), (0, _), (0, _), (99, _)]) G 224 dX6_suits_219 (by decide) ?_
            refine am_iinc (pc := 224) G dX6_suits_224 rfl (nlx hn rfl) rfl ?_
            refine am_goto (pc := 227) (ls := [(16, _), (99, _), (17, _), (99, _), (17, _), (0, _), (0, _), (99, _)]) G 76 dX6_suits_227 (by decide) ?_
            refine am_le (ls' := [(16, _), (99, 0), (17, _), (99, 0), (17, _), (0, _), (0, _), (99, 0)]) ⟨Or.inr rfl, ⟨Or.inl rfl, ⟨Or.inr rfl, ⟨Or.inl rfl, ⟨Or.inr rfl, ⟨Or.inr rfl, ⟨Or.inr rfl, ⟨Or.inl rfl, trivial⟩⟩⟩⟩⟩⟩⟩⟩ ?_
            exact k76 _ _ _ h
      · have h := h.2 c
        refine am_aload (t := 14) (pc := 111) G dX6_suits_111 rfl rfl ?_
        refine gf_X7_1 (pc := 113) G dX6_suits_113 tw_f_RX6_42 ?_
        refine am_iload (pc := 116) G dX6_suits_116 rfl ?_
        refine am_iald (pc := 118) G 16 dX6_suits_118 (by decide) h.1 ?_
        have h := h.2
        refine am_bipush (pc := 119) G dX6_suits_119 (by decide) (by decide) ?_
        refine am_isub (pc := 121) G dX6_suits_121 ?_
        have h := h _ rfl
        refine am_istore (pc := 122) G dX6_suits_122 (nlx hn rfl) rfl ?_
        refine am_aload_n (i := 0) (t := 13) (pc := 124) (ls := [(16, _), (99, _), (17, _), (99, _), (17, _), (0, _), (0, _), (0, _)]) G dX6_suits_124 rfl rfl rfl ?_
        refine gf_X6_3 (pc := 125) G dX6_suits_125 tw_f_RX6_20 ?_
        refine am_iload (pc := 128) G dX6_suits_128 rfl ?_
        refine am_iald (pc := 130) G 8 dX6_suits_130 (by decide) h.1 ?_
        have h := h.2
        refine am_if_ge (pc := 131) G 146 dX6_suits_131 (by decide) (fun c => ?_) (fun c => ?_)
        · have h := h.1 c
          refine am_aload_n (i := 2) (t := 14) (pc := 146) G dX6_suits_146 rfl rfl rfl ?_
          refine am_aload_n (i := 0) (t := 13) (pc := 147) G dX6_suits_147 rfl rfl rfl ?_
          refine gf_X6_3 (pc := 148) G dX6_suits_148 tw_f_RX6_20 ?_
          refine am_iload (pc := 151) G dX6_suits_151 rfl ?_
          refine am_iald (pc := 153) G 8 dX6_suits_153 (by decide) h.1 ?_
          have h := h.2
          refine am_aload_n (i := 2) (t := 14) (pc := 154) G dX6_suits_154 rfl rfl rfl ?_
          refine am_iload (pc := 155) G dX6_suits_155 rfl ?_
          refine am_callV (rk := 1) (rmc := rm_X7_isAs) (st := []) (pc := 157) G 7 [(0, _), (17, _), (0, _)] rfl (by decide) rfl dX6_suits_157 tw_m_RX6_49 tw_i_X7_isAs tw_v_X7_isAs tw_z_RX7 tw_c_X7_isAs hy_X7_isAs (callrm hr rfl) rfl (RunsM.mono h (fun r10 M11 h => ?_)) Z.rm
          show AW X 160 _ [(0, _)] M11
          refine am_if_ne (pc := 160) G 165 dX6_suits_160 (by decide) (fun c => ?_) (fun c => ?_)
          · have h := h.2 c
            refine am_le (ls' := [(16, _), (99, 0), (17, _), (99, 0), (17, _), (0, _), (0, _), (99, 0)]) ⟨Or.inr rfl, ⟨Or.inl rfl, ⟨Or.inr rfl, ⟨Or.inl rfl, ⟨Or.inr rfl, ⟨Or.inr rfl, ⟨Or.inr rfl, ⟨Or.inl rfl, trivial⟩⟩⟩⟩⟩⟩⟩⟩ ?_
            exact swp_X6_suits_165 G Z hn hr _ _ _ _ _ B76 k76 h
          · have h := h.1 c
            refine am_iconst (pc := 163) G dX6_suits_163 (by decide) ?_
            exact am_zret (pc := 164) G Z dX6_suits_164 ⟨by decide, h⟩
        · have h := h.2 c
          refine am_aload_n (i := 0) (t := 13) (pc := 134) G dX6_suits_134 rfl rfl rfl ?_
          refine gf_X6_3 (pc := 135) G dX6_suits_135 tw_f_RX6_20 ?_
          refine am_iload (pc := 138) G dX6_suits_138 rfl ?_
          refine am_iload (pc := 140) G dX6_suits_140 rfl ?_
          refine am_iast (pc := 142) G 8 dX6_suits_142 (by decide) h.1 ?_
          have h := h.2
          refine am_goto (pc := 143) G 165 dX6_suits_143 (by decide) ?_
          refine am_le (ls' := [(16, _), (99, 0), (17, _), (99, 0), (17, _), (0, _), (0, _), (99, 0)]) ⟨Or.inr rfl, ⟨Or.inl rfl, ⟨Or.inr rfl, ⟨Or.inl rfl, ⟨Or.inr rfl, ⟨Or.inr rfl, ⟨Or.inr rfl, ⟨Or.inl rfl, trivial⟩⟩⟩⟩⟩⟩⟩⟩ ?_
          exact swp_X6_suits_165 G Z hn hr _ _ _ _ _ B76 k76 h
    · have h := h.1 c
      refine am_iconst (pc := 95) G dX6_suits_95 (by decide) ?_
      exact am_zret (pc := 96) G Z dX6_suits_96 ⟨by decide, h⟩
def wp_X6_suits_76 (V : VV) (x2 x4 x5 x6 : Int) (M : Mem) (Q : Int → Mem → Prop) : Prop :=
  ∃ (I : Int → Int → Mem → Prop) (μ : Int → Int → Mem → Nat), I x5 x6 M ∧ ∀ (y5 y6 : Int) (N : Mem), I y5 y6 N → wp_X6_suits_76_b V x2 x4 y5 y6 N Q (fun z5 z6 N1 => I z5 z6 N1 ∧ μ z5 z6 N1 < μ y5 y6 N)
theorem swp_X6_suits_76 {X : XX} {Q : Int → Mem → Prop} (G : GX X cX6_suits "TreeHands$Rules") (Z : RX X 1 Q) (hn : nLX X = 8) (hr : roomX X = rm_X6_suits) (x2 x4 x5 x6 : Int) (M : Mem) (h : wp_X6_suits_76 (vX X) x2 x4 x5 x6 M Q) : AW X 76 [(16, 28), (99, 0), (17, x2), (99, 0), (17, x4), (0, x5), (0, x6), (99, 0)] [] M := by
  unfold wp_X6_suits_76 at h
  obtain ⟨I, μ, hI, hs⟩ := h
  have key : ∀ (n : Nat) (y5 y6 : Int) (N : Mem), μ y5 y6 N < n → I y5 y6 N → AW X 76 [(16, 28), (99, 0), (17, x2), (99, 0), (17, x4), (0, y5), (0, y6), (99, 0)] [] N := by
    intro n
    induction n with
    | zero => intro y5 y6 N hlt; exact absurd hlt (Nat.not_lt_zero _)
    | succ n ih =>
      intro y5 y6 N hlt hI
      exact swp_X6_suits_76_b G Z hn hr x2 x4 y5 y6 N (fun z5 z6 N1 => I z5 z6 N1 ∧ μ z5 z6 N1 < μ y5 y6 N) (fun z5 z6 N1 hz => ih z5 z6 N1 (by omega) hz.1) (hs y5 y6 N hI)
  exact key _ x5 x6 M (Nat.lt_succ_self _) hI
def wp_X6_suits_41_b (V : VV) (x1 x2 x3 x4 : Int) (M : Mem) (Q : Int → Mem → Prop) (B41 : Int → Mem → Prop) : Prop :=
  (8 ≤ x4 →
    ((0 : Int) ≤ x1 ∧ x1 < (6 : Int)) ∧
    wp_X6_suits_76 V x2 (39 + 14 * x1) x3 0 M Q) ∧ (¬ (8 ≤ x4) →
    ((0 : Int) ≤ x4 ∧ x4 < (8 : Int)) ∧
    B41 (w32 (x4 + 1)) (mset M 31 x4 (-1)))
theorem swp_X6_suits_41_b {X : XX} {Q : Int → Mem → Prop} (G : GX X cX6_suits "TreeHands$Rules") (Z : RX X 1 Q) (hn : nLX X = 8) (hr : roomX X = rm_X6_suits) (x1 x2 x3 x4 : Int) (M : Mem) (B41 : Int → Mem → Prop) (k41 : ∀ (z4 : Int) (N : Mem), B41 z4 N → AW X 41 [(16, 28), (0, x1), (17, x2), (0, x3), (0, z4), (99, 0), (99, 0), (99, 0)] [] N) (h : wp_X6_suits_41_b (vX X) x1 x2 x3 x4 M Q B41) : AW X 41 [(16, 28), (0, x1), (17, x2), (0, x3), (0, x4), (99, 0), (99, 0), (99, 0)] [] M := by
  unfold wp_X6_suits_41_b at h
  refine am_iload (pc := 41) G dX6_suits_41 rfl ?_
  refine am_bipush (pc := 43) G dX6_suits_43 (by decide) (by decide) ?_
  refine am_icmp_ge (pc := 45) G 62 dX6_suits_45 (by decide) (fun c => ?_) (fun c => ?_)
  · have h := h.1 c
    refine am_aload_n (i := 0) (t := 13) (pc := 62) G dX6_suits_62 rfl rfl rfl ?_
    refine gf_X6_1 (pc := 63) G dX6_suits_63 tw_f_RX6_11 ?_
    refine am_iload_n (i := 1) (pc := 66) G dX6_suits_66 rfl rfl ?_
    refine am_aald (pc := 67) G 20002 dX6_suits_67 (by decide) h.1 ?_
    have h := h.2
    refine am_astore (t := 14) (pc := 68) G dX6_suits_68 (nlx hn rfl) rfl ?_
    refine am_iload_n (i := 3) (pc := 70) (ls := [(16, _), (0, _), (17, _), (0, _), (17, _), (99, _), (99, _), (99, _)]) G dX6_suits_70 rfl rfl ?_
    refine am_istore (pc := 71) G dX6_suits_71 (nlx hn rfl) rfl ?_
    refine am_iconst (pc := 73) (ls := [(16, _), (0, _), (17, _), (0, _), (17, _), (0, _), (99, _), (99, _)]) G dX6_suits_73 (by decide) ?_
    refine am_istore (pc := 74) G dX6_suits_74 (nlx hn rfl) rfl ?_
    refine am_le (ls' := [(16, _), (99, 0), (17, _), (99, 0), (17, _), (0, _), (0, _), (99, 0)]) ⟨Or.inr rfl, ⟨Or.inl rfl, ⟨Or.inr rfl, ⟨Or.inl rfl, ⟨Or.inr rfl, ⟨Or.inr rfl, ⟨Or.inr rfl, ⟨Or.inl rfl, trivial⟩⟩⟩⟩⟩⟩⟩⟩ ?_
    exact swp_X6_suits_76 G Z hn hr _ _ _ _ _ h
  · have h := h.2 c
    refine am_aload_n (i := 0) (t := 13) (pc := 48) G dX6_suits_48 rfl rfl rfl ?_
    refine gf_X6_3 (pc := 49) G dX6_suits_49 tw_f_RX6_20 ?_
    refine am_iload (pc := 52) G dX6_suits_52 rfl ?_
    refine am_iconst (pc := 54) G dX6_suits_54 (by decide) ?_
    refine am_iast (pc := 55) G 8 dX6_suits_55 (by decide) h.1 ?_
    have h := h.2
    refine am_iinc (pc := 56) G dX6_suits_56 rfl (nlx hn rfl) rfl ?_
    refine am_goto (pc := 59) (ls := [(16, _), (0, _), (17, _), (0, _), (0, _), (99, _), (99, _), (99, _)]) G 41 dX6_suits_59 (by decide) ?_
    refine am_le (ls' := [(16, _), (0, _), (17, _), (0, _), (0, _), (99, 0), (99, 0), (99, 0)]) ⟨Or.inr rfl, ⟨Or.inr rfl, ⟨Or.inr rfl, ⟨Or.inr rfl, ⟨Or.inr rfl, ⟨Or.inl rfl, ⟨Or.inl rfl, ⟨Or.inl rfl, trivial⟩⟩⟩⟩⟩⟩⟩⟩ ?_
    exact k41 _ _ h
def wp_X6_suits_41 (V : VV) (x1 x2 x3 x4 : Int) (M : Mem) (Q : Int → Mem → Prop) : Prop :=
  ∃ (I : Int → Mem → Prop) (μ : Int → Mem → Nat), I x4 M ∧ ∀ (y4 : Int) (N : Mem), I y4 N → wp_X6_suits_41_b V x1 x2 x3 y4 N Q (fun z4 N1 => I z4 N1 ∧ μ z4 N1 < μ y4 N)
theorem swp_X6_suits_41 {X : XX} {Q : Int → Mem → Prop} (G : GX X cX6_suits "TreeHands$Rules") (Z : RX X 1 Q) (hn : nLX X = 8) (hr : roomX X = rm_X6_suits) (x1 x2 x3 x4 : Int) (M : Mem) (h : wp_X6_suits_41 (vX X) x1 x2 x3 x4 M Q) : AW X 41 [(16, 28), (0, x1), (17, x2), (0, x3), (0, x4), (99, 0), (99, 0), (99, 0)] [] M := by
  unfold wp_X6_suits_41 at h
  obtain ⟨I, μ, hI, hs⟩ := h
  have key : ∀ (n : Nat) (y4 : Int) (N : Mem), μ y4 N < n → I y4 N → AW X 41 [(16, 28), (0, x1), (17, x2), (0, x3), (0, y4), (99, 0), (99, 0), (99, 0)] [] N := by
    intro n
    induction n with
    | zero => intro y4 N hlt; exact absurd hlt (Nat.not_lt_zero _)
    | succ n ih =>
      intro y4 N hlt hI
      exact swp_X6_suits_41_b G Z hn hr x1 x2 x3 y4 N (fun z4 N1 => I z4 N1 ∧ μ z4 N1 < μ y4 N) (fun z4 N1 hz => ih z4 N1 (by omega) hz.1) (hs y4 N hI)
  exact key _ x4 M (Nat.lt_succ_self _) hI
def wp_X6_suits (V : VV) (x1 x2 x3 : Int) (M : Mem) (Q : Int → Mem → Prop) : Prop :=
  R_X6_has V x1 M (fun r1 M2 =>
  (r1 = 0 →
    Q 0 M2) ∧ (¬ (r1 = 0) →
    R_X7_has V x2 x3 M2 (fun r3 M4 =>
    (r3 = 0 →
      Q 0 M4) ∧ (¬ (r3 = 0) →
      ((0 : Int) ≤ x1 ∧ x1 < (6 : Int)) ∧
      ((0 : Int) ≤ 0 ∧ 0 < (16 : Int)) ∧
      ((0 : Int) ≤ x3 ∧ x3 < (16 : Int)) ∧
      (M4 ((39 + 14 * x1) + 1) 0 = M4 (x2 + 1) x3 →
        wp_X6_suits_41 V x1 x2 x3 0 M4 Q) ∧ (¬ (M4 ((39 + 14 * x1) + 1) 0 = M4 (x2 + 1) x3) →
        Q 0 M4)))))
theorem of_X6_suits {V : VV} {x1 x2 x3 : Int} {M : Mem} {Q : Int → Mem → Prop} (h : wp_X6_suits V x1 x2 x3 M Q) : R_X6_suits V x1 x2 x3 M Q := by
  refine met_in (own := "TreeHands$Rules") (by decide +kernel) rfl rfl (Nat.le_of_ble_eq_true rfl) ?_
  intro X G Z hn hr hv
  subst hv
  unfold wp_X6_suits at h
  show AW X 0 [(16, 28), (0, x1), (17, x2), (0, x3), (99, 0), (99, 0), (99, 0), (99, 0)] [] M
  refine am_aload_n (i := 0) (t := 13) (pc := 0) G dX6_suits_0 rfl rfl rfl ?_
  refine am_iload_n (i := 1) (pc := 1) G dX6_suits_1 rfl rfl ?_
  refine am_callV (rk := 1) (rmc := rm_X6_has) (st := []) (pc := 2) G 6 [(0, _)] rfl (by decide) rfl dX6_suits_2 tw_m_RX6_37 tw_i_X6_has tw_v_X6_has tw_z_RX6 tw_c_X6_has hy_X6_has (callrm hr rfl) rfl (RunsM.mono h (fun r1 M2 h => ?_)) Z.rm
  show AW X 5 _ [(0, _)] M2
  refine am_if_eq (pc := 5) G 36 dX6_suits_5 (by decide) (fun c => ?_) (fun c => ?_)
  · have h := h.1 c
    refine am_iconst (pc := 36) G dX6_suits_36 (by decide) ?_
    exact am_zret (pc := 37) G Z dX6_suits_37 ⟨by decide, h⟩
  · have h := h.2 c
    refine am_aload_n (i := 2) (t := 14) (pc := 8) G dX6_suits_8 rfl rfl rfl ?_
    refine am_iload_n (i := 3) (pc := 9) G dX6_suits_9 rfl rfl ?_
    refine am_callV (rk := 1) (rmc := rm_X7_has) (st := []) (pc := 10) G 7 [(0, _)] rfl (by decide) rfl dX6_suits_10 tw_m_RX6_41 tw_i_X7_has tw_v_X7_has tw_z_RX7 tw_c_X7_has hy_X7_has (callrm hr rfl) rfl (RunsM.mono h (fun r3 M4 h => ?_)) Z.rm
    show AW X 13 _ [(0, _)] M4
    refine am_if_eq (pc := 13) G 36 dX6_suits_13 (by decide) (fun c => ?_) (fun c => ?_)
    · have h := h.1 c
      refine am_iconst (pc := 36) G dX6_suits_36 (by decide) ?_
      exact am_zret (pc := 37) G Z dX6_suits_37 ⟨by decide, h⟩
    · have h := h.2 c
      refine am_aload_n (i := 0) (t := 13) (pc := 16) G dX6_suits_16 rfl rfl rfl ?_
      refine gf_X6_1 (pc := 17) G dX6_suits_17 tw_f_RX6_11 ?_
      refine am_iload_n (i := 1) (pc := 20) G dX6_suits_20 rfl rfl ?_
      refine am_aald (pc := 21) G 20002 dX6_suits_21 (by decide) h.1 ?_
      have h := h.2
      refine gf_X7_1 (pc := 22) G dX6_suits_22 tw_f_RX6_42 ?_
      refine am_iconst (pc := 25) G dX6_suits_25 (by decide) ?_
      refine am_iald (pc := 26) G 16 dX6_suits_26 (by decide) h.1 ?_
      have h := h.2
      refine am_aload_n (i := 2) (t := 14) (pc := 27) G dX6_suits_27 rfl rfl rfl ?_
      refine gf_X7_1 (pc := 28) G dX6_suits_28 tw_f_RX6_42 ?_
      refine am_iload_n (i := 3) (pc := 31) G dX6_suits_31 rfl rfl ?_
      refine am_iald (pc := 32) G 16 dX6_suits_32 (by decide) h.1 ?_
      have h := h.2
      refine am_icmp_eq (pc := 33) G 38 dX6_suits_33 (by decide) (fun c => ?_) (fun c => ?_)
      · have h := h.1 c
        refine am_iconst (pc := 38) G dX6_suits_38 (by decide) ?_
        refine am_istore (pc := 39) G dX6_suits_39 (nlx hn rfl) rfl ?_
        refine am_le (ls' := [(16, _), (0, _), (17, _), (0, _), (0, _), (99, 0), (99, 0), (99, 0)]) ⟨Or.inr rfl, ⟨Or.inr rfl, ⟨Or.inr rfl, ⟨Or.inr rfl, ⟨Or.inr rfl, ⟨Or.inl rfl, ⟨Or.inl rfl, ⟨Or.inl rfl, trivial⟩⟩⟩⟩⟩⟩⟩⟩ ?_
        exact swp_X6_suits_41 G Z hn hr _ _ _ _ _ h
      · have h := h.2 c
        refine am_iconst (pc := 36) G dX6_suits_36 (by decide) ?_
        exact am_zret (pc := 37) G Z dX6_suits_37 ⟨by decide, h⟩
-- X6_nodesThen TreeHands$Rules.nodesThen(LTreeHands$Tree;LTreeHands$Tree;I)I
def rm_X6_nodesThen : Room := { frames := 1, cells := 0, slots := 0, locals := 21 }
theorem hy_X6_nodesThen : yX6_nodesThen.cls ≠ "java/lang/invoke/MethodHandle" ∧ yX6_nodesThen.cls ≠ "java/lang/invoke/VarHandle" ∧ (parseMethodDescriptor yX6_nodesThen.desc).map (fun d => d.parameters.length) = some 3 := by decide +kernel
abbrev R_X6_nodesThen (V : VV) (x1 x2 x3 : Int) (M : Mem) (Q : Int → Mem → Prop) : Prop := RunsM V yX6_nodesThen (.code yX6_nodesThen cX6_nodesThen 8 (Option.some Jvm.ClassFile.FieldType.int)) rm_X6_nodesThen 0 [(16, 28), (17, x1), (17, x2), (0, x3)] M Q
def wp_X6_nodesThen_80 (V : VV) (x1 x2 x5 s0 s1 : Int) (M : Mem) (Q : Int → Mem → Prop) (B16 : Int → Int → Mem → Prop) : Prop :=
  B16 (w32 (s1 + s0)) (w32 (x5 + 1)) M
theorem swp_X6_nodesThen_80 {X : XX} {Q : Int → Mem → Prop} (G : GX X cX6_nodesThen "TreeHands$Rules") (Z : RX X 0 Q) (hn : nLX X = 8) (hr : roomX X = rm_X6_nodesThen) (x1 x2 x5 s0 s1 : Int) (M : Mem) (B16 : Int → Int → Mem → Prop) (k16 : ∀ (z4 z5 : Int) (N : Mem), B16 z4 z5 N → AW X 16 [(16, 28), (17, x1), (17, x2), (99, 0), (0, z4), (0, z5), (99, 0), (99, 0)] [] N) (h : wp_X6_nodesThen_80 (vX X) x1 x2 x5 s0 s1 M Q B16) : AW X 80 [(16, 28), (17, x1), (17, x2), (99, 0), (99, 0), (0, x5), (99, 0), (99, 0)] [(0, s0), (0, s1)] M := by
  unfold wp_X6_nodesThen_80 at h
  refine am_iadd (pc := 80) G dX6_nodesThen_80 ?_
  refine am_istore (pc := 81) G dX6_nodesThen_81 (nlx hn rfl) rfl ?_
  refine am_iinc (pc := 83) (ls := [(16, _), (17, _), (17, _), (99, _), (0, _), (0, _), (99, _), (99, _)]) G dX6_nodesThen_83 rfl (nlx hn rfl) rfl ?_
  refine am_goto (pc := 86) (ls := [(16, _), (17, _), (17, _), (99, _), (0, _), (0, _), (99, _), (99, _)]) G 16 dX6_nodesThen_86 (by decide) ?_
  refine am_le (ls' := [(16, _), (17, _), (17, _), (99, 0), (0, _), (0, _), (99, 0), (99, 0)]) ⟨Or.inr rfl, ⟨Or.inr rfl, ⟨Or.inr rfl, ⟨Or.inl rfl, ⟨Or.inr rfl, ⟨Or.inr rfl, ⟨Or.inl rfl, ⟨Or.inl rfl, trivial⟩⟩⟩⟩⟩⟩⟩⟩ ?_
  exact k16 _ _ _ h
def wp_X6_nodesThen_56 (V : VV) (x1 x2 x4 x5 s0 : Int) (M : Mem) (Q : Int → Mem → Prop) (B16 : Int → Int → Mem → Prop) : Prop :=
  R_X7_has V x2 s0 M (fun r5 M6 =>
  (r5 = 0 →
    wp_X6_nodesThen_80 V x1 x2 x5 1 x4 M6 Q B16) ∧ (¬ (r5 = 0) →
    ((0 : Int) ≤ s0 ∧ s0 < (16 : Int)) ∧
    wp_X6_nodesThen_80 V x1 x2 x5 (M6 (x2 + 3) s0) x4 M6 Q B16))
theorem swp_X6_nodesThen_56 {X : XX} {Q : Int → Mem → Prop} (G : GX X cX6_nodesThen "TreeHands$Rules") (Z : RX X 0 Q) (hn : nLX X = 8) (hr : roomX X = rm_X6_nodesThen) (x1 x2 x4 x5 s0 : Int) (M : Mem) (B16 : Int → Int → Mem → Prop) (k16 : ∀ (z4 z5 : Int) (N : Mem), B16 z4 z5 N → AW X 16 [(16, 28), (17, x1), (17, x2), (99, 0), (0, z4), (0, z5), (99, 0), (99, 0)] [] N) (h : wp_X6_nodesThen_56 (vX X) x1 x2 x4 x5 s0 M Q B16) : AW X 56 [(16, 28), (17, x1), (17, x2), (99, 0), (0, x4), (0, x5), (99, 0), (99, 0)] [(0, s0)] M := by
  unfold wp_X6_nodesThen_56 at h
  refine am_istore (pc := 56) G dX6_nodesThen_56 (nlx hn rfl) rfl ?_
  refine am_iload (pc := 58) (ls := [(16, _), (17, _), (17, _), (99, _), (0, _), (0, _), (99, _), (0, _)]) G dX6_nodesThen_58 rfl ?_
  refine am_aload_n (i := 2) (t := 14) (pc := 60) G dX6_nodesThen_60 rfl rfl rfl ?_
  refine am_iload (pc := 61) G dX6_nodesThen_61 rfl ?_
  refine am_callV (rk := 1) (rmc := rm_X7_has) (st := [(0, _)]) (pc := 63) G 7 [(0, _)] rfl (by decide) rfl dX6_nodesThen_63 tw_m_RX6_41 tw_i_X7_has tw_v_X7_has tw_z_RX7 tw_c_X7_has hy_X7_has (callrm hr rfl) rfl (RunsM.mono h (fun r5 M6 h => ?_)) Z.rm
  show AW X 66 _ [(0, _), (0, _)] M6
  refine am_if_eq (pc := 66) G 79 dX6_nodesThen_66 (by decide) (fun c => ?_) (fun c => ?_)
  · have h := h.1 c
    refine am_iconst (pc := 79) G dX6_nodesThen_79 (by decide) ?_
    refine am_le (ls' := [(16, _), (17, _), (17, _), (99, 0), (99, 0), (0, _), (99, 0), (99, 0)]) ⟨Or.inr rfl, ⟨Or.inr rfl, ⟨Or.inr rfl, ⟨Or.inl rfl, ⟨Or.inl rfl, ⟨Or.inr rfl, ⟨Or.inl rfl, ⟨Or.inl rfl, trivial⟩⟩⟩⟩⟩⟩⟩⟩ ?_
    exact swp_X6_nodesThen_80 G Z hn hr _ _ _ _ _ _ B16 k16 h
  · have h := h.2 c
    refine am_aload_n (i := 2) (t := 14) (pc := 69) G dX6_nodesThen_69 rfl rfl rfl ?_
    refine gf_X7_3 (pc := 70) G dX6_nodesThen_70 tw_f_RX6_53 ?_
    refine am_iload (pc := 73) G dX6_nodesThen_73 rfl ?_
    refine am_iald (pc := 75) G 16 dX6_nodesThen_75 (by decide) h.1 ?_
    have h := h.2
    refine am_goto (pc := 76) G 80 dX6_nodesThen_76 (by decide) ?_
    refine am_le (ls' := [(16, _), (17, _), (17, _), (99, 0), (99, 0), (0, _), (99, 0), (99, 0)]) ⟨Or.inr rfl, ⟨Or.inr rfl, ⟨Or.inr rfl, ⟨Or.inl rfl, ⟨Or.inl rfl, ⟨Or.inr rfl, ⟨Or.inl rfl, ⟨Or.inl rfl, trivial⟩⟩⟩⟩⟩⟩⟩⟩ ?_
    exact swp_X6_nodesThen_80 G Z hn hr _ _ _ _ _ _ B16 k16 h
def wp_X6_nodesThen_16_b (V : VV) (x1 x2 x4 x5 : Int) (M : Mem) (Q : Int → Mem → Prop) (B16 : Int → Int → Mem → Prop) : Prop :=
  (M x1 0 ≤ x5 →
    Q x4 M) ∧ (¬ (M x1 0 ≤ x5) →
    ((0 : Int) ≤ x5 ∧ x5 < (16 : Int)) ∧
    ∀ v2 : Int, v2 = M (x1 + 1) x5 →
    R_X9_isHole V v2 M (fun r3 M4 =>
    (r3 = 0 →
      wp_X6_nodesThen_56 V x1 x2 x4 x5 (-1) M4 Q B16) ∧ (¬ (r3 = 0) →
      ((0 : Int) ≤ w32 (v2 - 65) ∧ w32 (v2 - 65) < (8 : Int)) ∧
      wp_X6_nodesThen_56 V x1 x2 x4 x5 (M4 31 (w32 (v2 - 65))) M4 Q B16)))
theorem swp_X6_nodesThen_16_b {X : XX} {Q : Int → Mem → Prop} (G : GX X cX6_nodesThen "TreeHands$Rules") (Z : RX X 0 Q) (hn : nLX X = 8) (hr : roomX X = rm_X6_nodesThen) (x1 x2 x4 x5 : Int) (M : Mem) (B16 : Int → Int → Mem → Prop) (k16 : ∀ (z4 z5 : Int) (N : Mem), B16 z4 z5 N → AW X 16 [(16, 28), (17, x1), (17, x2), (99, 0), (0, z4), (0, z5), (99, 0), (99, 0)] [] N) (h : wp_X6_nodesThen_16_b (vX X) x1 x2 x4 x5 M Q B16) : AW X 16 [(16, 28), (17, x1), (17, x2), (99, 0), (0, x4), (0, x5), (99, 0), (99, 0)] [] M := by
  unfold wp_X6_nodesThen_16_b at h
  refine am_iload (pc := 16) G dX6_nodesThen_16 rfl ?_
  refine am_aload_n (i := 1) (t := 14) (pc := 18) G dX6_nodesThen_18 rfl rfl rfl ?_
  refine gf_X7_0 (pc := 19) G dX6_nodesThen_19 tw_f_RX6_45 ?_
  refine am_icmp_ge (pc := 22) G 89 dX6_nodesThen_22 (by decide) (fun c => ?_) (fun c => ?_)
  · have h := h.1 c
    refine am_iload (pc := 89) G dX6_nodesThen_89 rfl ?_
    exact am_iret (pc := 91) G Z dX6_nodesThen_91 h
  · have h := h.2 c
    refine am_aload_n (i := 1) (t := 14) (pc := 25) G dX6_nodesThen_25 rfl rfl rfl ?_
    refine gf_X7_1 (pc := 26) G dX6_nodesThen_26 tw_f_RX6_42 ?_
    refine am_iload (pc := 29) G dX6_nodesThen_29 rfl ?_
    refine am_iald (pc := 31) G 16 dX6_nodesThen_31 (by decide) h.1 ?_
    have h := h.2
    have h := h _ rfl
    refine am_istore (pc := 32) G dX6_nodesThen_32 (nlx hn rfl) rfl ?_
    refine am_iload (pc := 34) (ls := [(16, _), (17, _), (17, _), (99, _), (0, _), (0, _), (0, _), (99, _)]) G dX6_nodesThen_34 rfl ?_
    refine am_callSN (rk := 1) (rmc := rm_X9_isHole) (st := []) (pc := 36) G [(0, _)] dX6_nodesThen_36 tw_n_RX6_46 tw_s_X9_isHole tw_z_RX9 tw_c_X9_isHole hy_X9_isHole (callrm hr rfl) rfl (RunsM.mono h (fun r3 M4 h => ?_)) Z.rm
    show AW X 39 _ [(0, _)] M4
    refine am_if_eq (pc := 39) G 55 dX6_nodesThen_39 (by decide) (fun c => ?_) (fun c => ?_)
    · have h := h.1 c
      refine am_iconst (pc := 55) G dX6_nodesThen_55 (by decide) ?_
      refine am_le (ls' := [(16, _), (17, _), (17, _), (99, 0), (0, _), (0, _), (99, 0), (99, 0)]) ⟨Or.inr rfl, ⟨Or.inr rfl, ⟨Or.inr rfl, ⟨Or.inl rfl, ⟨Or.inr rfl, ⟨Or.inr rfl, ⟨Or.inl rfl, ⟨Or.inl rfl, trivial⟩⟩⟩⟩⟩⟩⟩⟩ ?_
      exact swp_X6_nodesThen_56 G Z hn hr _ _ _ _ _ _ B16 k16 h
    · have h := h.2 c
      refine am_aload_n (i := 0) (t := 13) (pc := 42) G dX6_nodesThen_42 rfl rfl rfl ?_
      refine gf_X6_3 (pc := 43) G dX6_nodesThen_43 tw_f_RX6_20 ?_
      refine am_iload (pc := 46) G dX6_nodesThen_46 rfl ?_
      refine am_bipush (pc := 48) G dX6_nodesThen_48 (by decide) (by decide) ?_
      refine am_isub (pc := 50) G dX6_nodesThen_50 ?_
      refine am_iald (pc := 51) G 8 dX6_nodesThen_51 (by decide) h.1 ?_
      have h := h.2
      refine am_goto (pc := 52) G 56 dX6_nodesThen_52 (by decide) ?_
      refine am_le (ls' := [(16, _), (17, _), (17, _), (99, 0), (0, _), (0, _), (99, 0), (99, 0)]) ⟨Or.inr rfl, ⟨Or.inr rfl, ⟨Or.inr rfl, ⟨Or.inl rfl, ⟨Or.inr rfl, ⟨Or.inr rfl, ⟨Or.inl rfl, ⟨Or.inl rfl, trivial⟩⟩⟩⟩⟩⟩⟩⟩ ?_
      exact swp_X6_nodesThen_56 G Z hn hr _ _ _ _ _ _ B16 k16 h
def wp_X6_nodesThen_16 (V : VV) (x1 x2 x4 x5 : Int) (M : Mem) (Q : Int → Mem → Prop) : Prop :=
  ∃ (I : Int → Int → Mem → Prop) (μ : Int → Int → Mem → Nat), I x4 x5 M ∧ ∀ (y4 y5 : Int) (N : Mem), I y4 y5 N → wp_X6_nodesThen_16_b V x1 x2 y4 y5 N Q (fun z4 z5 N1 => I z4 z5 N1 ∧ μ z4 z5 N1 < μ y4 y5 N)
theorem swp_X6_nodesThen_16 {X : XX} {Q : Int → Mem → Prop} (G : GX X cX6_nodesThen "TreeHands$Rules") (Z : RX X 0 Q) (hn : nLX X = 8) (hr : roomX X = rm_X6_nodesThen) (x1 x2 x4 x5 : Int) (M : Mem) (h : wp_X6_nodesThen_16 (vX X) x1 x2 x4 x5 M Q) : AW X 16 [(16, 28), (17, x1), (17, x2), (99, 0), (0, x4), (0, x5), (99, 0), (99, 0)] [] M := by
  unfold wp_X6_nodesThen_16 at h
  obtain ⟨I, μ, hI, hs⟩ := h
  have key : ∀ (n : Nat) (y4 y5 : Int) (N : Mem), μ y4 y5 N < n → I y4 y5 N → AW X 16 [(16, 28), (17, x1), (17, x2), (99, 0), (0, y4), (0, y5), (99, 0), (99, 0)] [] N := by
    intro n
    induction n with
    | zero => intro y4 y5 N hlt; exact absurd hlt (Nat.not_lt_zero _)
    | succ n ih =>
      intro y4 y5 N hlt hI
      exact swp_X6_nodesThen_16_b G Z hn hr x1 x2 y4 y5 N (fun z4 z5 N1 => I z4 z5 N1 ∧ μ z4 z5 N1 < μ y4 y5 N) (fun z4 z5 N1 hz => ih z4 z5 N1 (by omega) hz.1) (hs y4 y5 N hI)
  exact key _ x4 x5 M (Nat.lt_succ_self _) hI
def wp_X6_nodesThen (V : VV) (x1 x2 x3 : Int) (M : Mem) (Q : Int → Mem → Prop) : Prop :=
  ((0 : Int) ≤ x3 ∧ x3 < (16 : Int)) ∧
  ∀ v1 : Int, v1 = w32 (M x2 0 - M (x2 + 3) x3) →
  wp_X6_nodesThen_16 V x1 x2 v1 0 M Q
theorem of_X6_nodesThen {V : VV} {x1 x2 x3 : Int} {M : Mem} {Q : Int → Mem → Prop} (h : wp_X6_nodesThen V x1 x2 x3 M Q) : R_X6_nodesThen V x1 x2 x3 M Q := by
  refine met_in (own := "TreeHands$Rules") (by decide +kernel) rfl rfl (Nat.le_of_ble_eq_true rfl) ?_
  intro X G Z hn hr hv
  subst hv
  unfold wp_X6_nodesThen at h
  show AW X 0 [(16, 28), (17, x1), (17, x2), (0, x3), (99, 0), (99, 0), (99, 0), (99, 0)] [] M
  refine am_aload_n (i := 2) (t := 14) (pc := 0) G dX6_nodesThen_0 rfl rfl rfl ?_
  refine gf_X7_0 (pc := 1) G dX6_nodesThen_1 tw_f_RX6_45 ?_
  refine am_aload_n (i := 2) (t := 14) (pc := 4) G dX6_nodesThen_4 rfl rfl rfl ?_
  refine gf_X7_3 (pc := 5) G dX6_nodesThen_5 tw_f_RX6_53 ?_
  refine am_iload_n (i := 3) (pc := 8) G dX6_nodesThen_8 rfl rfl ?_
  refine am_iald (pc := 9) G 16 dX6_nodesThen_9 (by decide) h.1 ?_
  have h := h.2
  refine am_isub (pc := 10) G dX6_nodesThen_10 ?_
  have h := h _ rfl
  refine am_istore (pc := 11) G dX6_nodesThen_11 (nlx hn rfl) rfl ?_
  refine am_iconst (pc := 13) (ls := [(16, _), (17, _), (17, _), (0, _), (0, _), (99, _), (99, _), (99, _)]) G dX6_nodesThen_13 (by decide) ?_
  refine am_istore (pc := 14) G dX6_nodesThen_14 (nlx hn rfl) rfl ?_
  refine am_le (ls' := [(16, _), (17, _), (17, _), (99, 0), (0, _), (0, _), (99, 0), (99, 0)]) ⟨Or.inr rfl, ⟨Or.inr rfl, ⟨Or.inr rfl, ⟨Or.inl rfl, ⟨Or.inr rfl, ⟨Or.inr rfl, ⟨Or.inl rfl, ⟨Or.inl rfl, trivial⟩⟩⟩⟩⟩⟩⟩⟩ ?_
  exact swp_X6_nodesThen_16 G Z hn hr _ _ _ _ _ h
-- X7_appendPart TreeHands$Tree.appendPart(LTreeHands$Tree;I)V
def rm_X7_appendPart : Room := { frames := 1, cells := 0, slots := 0, locals := 22 }
theorem hy_X7_appendPart : yX7_appendPart.cls ≠ "java/lang/invoke/MethodHandle" ∧ yX7_appendPart.cls ≠ "java/lang/invoke/VarHandle" ∧ (parseMethodDescriptor yX7_appendPart.desc).map (fun d => d.parameters.length) = some 2 := by decide +kernel
abbrev R_X7_appendPart (V : VV) (x0 x1 x2 : Int) (M : Mem) (Q : Int → Mem → Prop) : Prop := RunsM V yX7_appendPart (.code yX7_appendPart cX7_appendPart 4 (Option.none : Option Jvm.ClassFile.FieldType)) rm_X7_appendPart 4 [(17, x0), (17, x1), (0, x2)] M Q
def wp_X7_appendPart_11_b (V : VV) (x0 x1 x2 x3 : Int) (M : Mem) (Q : Int → Mem → Prop) (B11 : Int → Mem → Prop) : Prop :=
  ((0 : Int) ≤ x2 ∧ x2 < (16 : Int)) ∧
  (M (x1 + 3) x2 ≤ x3 →
    Q 0 M) ∧ (¬ (M (x1 + 3) x2 ≤ x3) →
    (M x1 0 ≤ w32 (x2 + x3) →
      Q 0 M) ∧ (¬ (M x1 0 ≤ w32 (x2 + x3)) →
      ((0 : Int) ≤ w32 (x2 + x3) ∧ w32 (x2 + x3) < (16 : Int)) ∧
      ((0 : Int) ≤ w32 (x2 + x3) ∧ w32 (x2 + x3) < (16 : Int)) ∧
      R_X7_append V x0 (M (x1 + 1) (w32 (x2 + x3))) (M (x1 + 2) (w32 (x2 + x3))) M (fun _ M4 =>
      B11 (w32 (x3 + 1)) M4)))
theorem swp_X7_appendPart_11_b {X : XX} {Q : Int → Mem → Prop} (G : GX X cX7_appendPart "TreeHands$Tree") (Z : RX X 4 Q) (hn : nLX X = 4) (hr : roomX X = rm_X7_appendPart) (x0 x1 x2 x3 : Int) (M : Mem) (B11 : Int → Mem → Prop) (k11 : ∀ (z3 : Int) (N : Mem), B11 z3 N → AW X 11 [(17, x0), (17, x1), (0, x2), (0, z3)] [] N) (h : wp_X7_appendPart_11_b (vX X) x0 x1 x2 x3 M Q B11) : AW X 11 [(17, x0), (17, x1), (0, x2), (0, x3)] [] M := by
  unfold wp_X7_appendPart_11_b at h
  refine am_iload_n (i := 3) (pc := 11) G dX7_appendPart_11 rfl rfl ?_
  refine am_aload_n (i := 1) (t := 14) (pc := 12) G dX7_appendPart_12 rfl rfl rfl ?_
  refine gf_X7_3 (pc := 13) G dX7_appendPart_13 tw_f_RX7_18 ?_
  refine am_iload_n (i := 2) (pc := 16) G dX7_appendPart_16 rfl rfl ?_
  refine am_iald (pc := 17) G 16 dX7_appendPart_17 (by decide) h.1 ?_
  have h := h.2
  refine am_icmp_ge (pc := 18) G 57 dX7_appendPart_18 (by decide) (fun c => ?_) (fun c => ?_)
  · have h := h.1 c
    exact am_vret (pc := 57) G Z dX7_appendPart_57 h
  · have h := h.2 c
    refine am_iload_n (i := 2) (pc := 21) G dX7_appendPart_21 rfl rfl ?_
    refine am_iload_n (i := 3) (pc := 22) G dX7_appendPart_22 rfl rfl ?_
    refine am_iadd (pc := 23) G dX7_appendPart_23 ?_
    refine am_aload_n (i := 1) (t := 14) (pc := 24) G dX7_appendPart_24 rfl rfl rfl ?_
    refine gf_X7_0 (pc := 25) G dX7_appendPart_25 tw_f_RX7_30 ?_
    refine am_icmp_ge (pc := 28) G 57 dX7_appendPart_28 (by decide) (fun c => ?_) (fun c => ?_)
    · have h := h.1 c
      exact am_vret (pc := 57) G Z dX7_appendPart_57 h
    · have h := h.2 c
      refine am_aload_n (i := 0) (t := 14) (pc := 31) G dX7_appendPart_31 rfl rfl rfl ?_
      refine am_aload_n (i := 1) (t := 14) (pc := 32) G dX7_appendPart_32 rfl rfl rfl ?_
      refine gf_X7_1 (pc := 33) G dX7_appendPart_33 tw_f_RX7_9 ?_
      refine am_iload_n (i := 2) (pc := 36) G dX7_appendPart_36 rfl rfl ?_
      refine am_iload_n (i := 3) (pc := 37) G dX7_appendPart_37 rfl rfl ?_
      refine am_iadd (pc := 38) G dX7_appendPart_38 ?_
      refine am_iald (pc := 39) G 16 dX7_appendPart_39 (by decide) h.1 ?_
      have h := h.2
      refine am_aload_n (i := 1) (t := 14) (pc := 40) G dX7_appendPart_40 rfl rfl rfl ?_
      refine gf_X7_2 (pc := 41) G dX7_appendPart_41 tw_f_RX7_15 ?_
      refine am_iload_n (i := 2) (pc := 44) G dX7_appendPart_44 rfl rfl ?_
      refine am_iload_n (i := 3) (pc := 45) G dX7_appendPart_45 rfl rfl ?_
      refine am_iadd (pc := 46) G dX7_appendPart_46 ?_
      refine am_iald (pc := 47) G 16 dX7_appendPart_47 (by decide) h.1 ?_
      have h := h.2
      refine am_callV (rk := 4) (rmc := rm_X7_append) (st := []) (pc := 48) G 7 [(0, _), (0, _)] rfl (by decide) rfl dX7_appendPart_48 tw_m_RX7_38 tw_i_X7_append tw_v_X7_append tw_z_RX7 tw_c_X7_append hy_X7_append (callrm hr rfl) rfl (RunsM.mono h (fun r3 M4 h => ?_)) Z.rm
      show AW X 51 _ [] M4
      refine am_iinc (pc := 51) G dX7_appendPart_51 rfl (nlx hn rfl) rfl ?_
      refine am_goto (pc := 54) (ls := [(17, _), (17, _), (0, _), (0, _)]) G 11 dX7_appendPart_54 (by decide) ?_
      refine am_le (ls' := [(17, _), (17, _), (0, _), (0, _)]) ⟨Or.inr rfl, ⟨Or.inr rfl, ⟨Or.inr rfl, ⟨Or.inr rfl, trivial⟩⟩⟩⟩ ?_
      exact k11 _ _ h
def wp_X7_appendPart_11 (V : VV) (x0 x1 x2 x3 : Int) (M : Mem) (Q : Int → Mem → Prop) : Prop :=
  ∃ (I : Int → Mem → Prop) (μ : Int → Mem → Nat), I x3 M ∧ ∀ (y3 : Int) (N : Mem), I y3 N → wp_X7_appendPart_11_b V x0 x1 x2 y3 N Q (fun z3 N1 => I z3 N1 ∧ μ z3 N1 < μ y3 N)
theorem swp_X7_appendPart_11 {X : XX} {Q : Int → Mem → Prop} (G : GX X cX7_appendPart "TreeHands$Tree") (Z : RX X 4 Q) (hn : nLX X = 4) (hr : roomX X = rm_X7_appendPart) (x0 x1 x2 x3 : Int) (M : Mem) (h : wp_X7_appendPart_11 (vX X) x0 x1 x2 x3 M Q) : AW X 11 [(17, x0), (17, x1), (0, x2), (0, x3)] [] M := by
  unfold wp_X7_appendPart_11 at h
  obtain ⟨I, μ, hI, hs⟩ := h
  have key : ∀ (n : Nat) (y3 : Int) (N : Mem), μ y3 N < n → I y3 N → AW X 11 [(17, x0), (17, x1), (0, x2), (0, y3)] [] N := by
    intro n
    induction n with
    | zero => intro y3 N hlt; exact absurd hlt (Nat.not_lt_zero _)
    | succ n ih =>
      intro y3 N hlt hI
      exact swp_X7_appendPart_11_b G Z hn hr x0 x1 x2 y3 N (fun z3 N1 => I z3 N1 ∧ μ z3 N1 < μ y3 N) (fun z3 N1 hz => ih z3 N1 (by omega) hz.1) (hs y3 N hI)
  exact key _ x3 M (Nat.lt_succ_self _) hI
def wp_X7_appendPart (V : VV) (x0 x1 x2 : Int) (M : Mem) (Q : Int → Mem → Prop) : Prop :=
  R_X7_has V x1 x2 M (fun r1 M2 =>
  (r1 = 0 →
    Q 0 M2) ∧ (¬ (r1 = 0) →
    wp_X7_appendPart_11 V x0 x1 x2 0 M2 Q))
theorem of_X7_appendPart {V : VV} {x0 x1 x2 : Int} {M : Mem} {Q : Int → Mem → Prop} (h : wp_X7_appendPart V x0 x1 x2 M Q) : R_X7_appendPart V x0 x1 x2 M Q := by
  refine met_in (own := "TreeHands$Tree") (by decide +kernel) rfl rfl (Nat.le_of_ble_eq_true rfl) ?_
  intro X G Z hn hr hv
  subst hv
  unfold wp_X7_appendPart at h
  show AW X 0 [(17, x0), (17, x1), (0, x2), (99, 0)] [] M
  refine am_aload_n (i := 1) (t := 14) (pc := 0) G dX7_appendPart_0 rfl rfl rfl ?_
  refine am_iload_n (i := 2) (pc := 1) G dX7_appendPart_1 rfl rfl ?_
  refine am_callV (rk := 1) (rmc := rm_X7_has) (st := []) (pc := 2) G 7 [(0, _)] rfl (by decide) rfl dX7_appendPart_2 tw_m_RX7_34 tw_i_X7_has tw_v_X7_has tw_z_RX7 tw_c_X7_has hy_X7_has (callrm hr rfl) rfl (RunsM.mono h (fun r1 M2 h => ?_)) Z.rm
  show AW X 5 _ [(0, _)] M2
  refine am_if_ne (pc := 5) G 9 dX7_appendPart_5 (by decide) (fun c => ?_) (fun c => ?_)
  · have h := h.2 c
    refine am_iconst (pc := 9) G dX7_appendPart_9 (by decide) ?_
    refine am_istore_n (pc := 10) G dX7_appendPart_10 rfl (nlx hn rfl) rfl ?_
    refine am_le (ls' := [(17, _), (17, _), (0, _), (0, _)]) ⟨Or.inr rfl, ⟨Or.inr rfl, ⟨Or.inr rfl, ⟨Or.inr rfl, trivial⟩⟩⟩⟩ ?_
    exact swp_X7_appendPart_11 G Z hn hr _ _ _ _ _ h
  · have h := h.1 c
    exact am_vret (pc := 8) G Z dX7_appendPart_8 h
-- X6_rewrite TreeHands$Rules.rewrite(ILTreeHands$Tree;I)I
def rm_X6_rewrite : Room := { frames := 3, cells := 0, slots := 0, locals := 72 }
theorem hy_X6_rewrite : yX6_rewrite.cls ≠ "java/lang/invoke/MethodHandle" ∧ yX6_rewrite.cls ≠ "java/lang/invoke/VarHandle" ∧ (parseMethodDescriptor yX6_rewrite.desc).map (fun d => d.parameters.length) = some 3 := by decide +kernel
abbrev R_X6_rewrite (V : VV) (x1 x2 x3 : Int) (M : Mem) (Q : Int → Mem → Prop) : Prop := RunsM V yX6_rewrite (.code yX6_rewrite cX6_rewrite 7 (Option.some Jvm.ClassFile.FieldType.int)) rm_X6_rewrite 0 [(16, 28), (0, x1), (17, x2), (0, x3)] M Q
def wp_X6_rewrite_177_b (V : VV) (x2 x4 x5 : Int) (M : Mem) (Q : Int → Mem → Prop) (B177 : Int → Mem → Prop) : Prop :=
  (M x2 0 ≤ x5 →
    R_X7_settle V 32 M (fun _ M7 =>
    R_X7_copyAll V x2 32 M7 (fun _ M9 =>
    Q x4 M9))) ∧ (¬ (M x2 0 ≤ x5) →
    ((0 : Int) ≤ x5 ∧ x5 < (16 : Int)) ∧
    ((0 : Int) ≤ x5 ∧ x5 < (16 : Int)) ∧
    R_X7_append V 32 (M (x2 + 1) x5) (M (x2 + 2) x5) M (fun _ M11 =>
    B177 (w32 (x5 + 1)) M11))
theorem swp_X6_rewrite_177_b {X : XX} {Q : Int → Mem → Prop} (G : GX X cX6_rewrite "TreeHands$Rules") (Z : RX X 0 Q) (hn : nLX X = 7) (hr : roomX X = rm_X6_rewrite) (x2 x4 x5 : Int) (M : Mem) (B177 : Int → Mem → Prop) (k177 : ∀ (z5 : Int) (N : Mem), B177 z5 N → AW X 177 [(16, 28), (99, 0), (17, x2), (99, 0), (0, x4), (0, z5), (99, 0)] [] N) (h : wp_X6_rewrite_177_b (vX X) x2 x4 x5 M Q B177) : AW X 177 [(16, 28), (99, 0), (17, x2), (99, 0), (0, x4), (0, x5), (99, 0)] [] M := by
  unfold wp_X6_rewrite_177_b at h
  refine am_iload (pc := 177) G dX6_rewrite_177 rfl ?_
  refine am_aload_n (i := 2) (t := 14) (pc := 179) G dX6_rewrite_179 rfl rfl rfl ?_
  refine gf_X7_0 (pc := 180) G dX6_rewrite_180 tw_f_RX6_45 ?_
  refine am_icmp_ge (pc := 183) G 213 dX6_rewrite_183 (by decide) (fun c => ?_) (fun c => ?_)
  · have h := h.1 c
    refine am_aload_n (i := 0) (t := 13) (pc := 213) G dX6_rewrite_213 rfl rfl rfl ?_
    refine gf_X6_4 (pc := 214) G dX6_rewrite_214 tw_f_RX6_25 ?_
    refine am_callV (rk := 4) (rmc := rm_X7_settle) (st := []) (pc := 217) G 7 [] rfl (by decide) rfl dX6_rewrite_217 tw_m_RX6_74 tw_i_X7_settle tw_v_X7_settle tw_z_RX7 tw_c_X7_settle hy_X7_settle (callrm hr rfl) rfl (RunsM.mono h (fun r6 M7 h => ?_)) Z.rm
    show AW X 220 _ [] M7
    refine am_aload_n (i := 2) (t := 14) (pc := 220) G dX6_rewrite_220 rfl rfl rfl ?_
    refine am_aload_n (i := 0) (t := 13) (pc := 221) G dX6_rewrite_221 rfl rfl rfl ?_
    refine gf_X6_4 (pc := 222) G dX6_rewrite_222 tw_f_RX6_25 ?_
    refine am_callV (rk := 4) (rmc := rm_X7_copyAll) (st := []) (pc := 225) G 7 [(17, _)] rfl (by decide) rfl dX6_rewrite_225 tw_m_RX6_33 tw_i_X7_copyAll tw_v_X7_copyAll tw_z_RX7 tw_c_X7_copyAll hy_X7_copyAll (callrm hr rfl) rfl (RunsM.mono h (fun r8 M9 h => ?_)) Z.rm
    show AW X 228 _ [] M9
    refine am_iload (pc := 228) G dX6_rewrite_228 rfl ?_
    exact am_iret (pc := 230) G Z dX6_rewrite_230 h
  · have h := h.2 c
    refine am_aload_n (i := 0) (t := 13) (pc := 186) G dX6_rewrite_186 rfl rfl rfl ?_
    refine gf_X6_4 (pc := 187) G dX6_rewrite_187 tw_f_RX6_25 ?_
    refine am_aload_n (i := 2) (t := 14) (pc := 190) G dX6_rewrite_190 rfl rfl rfl ?_
    refine gf_X7_1 (pc := 191) G dX6_rewrite_191 tw_f_RX6_42 ?_
    refine am_iload (pc := 194) G dX6_rewrite_194 rfl ?_
    refine am_iald (pc := 196) G 16 dX6_rewrite_196 (by decide) h.1 ?_
    have h := h.2
    refine am_aload_n (i := 2) (t := 14) (pc := 197) G dX6_rewrite_197 rfl rfl rfl ?_
    refine gf_X7_2 (pc := 198) G dX6_rewrite_198 tw_f_RX6_56 ?_
    refine am_iload (pc := 201) G dX6_rewrite_201 rfl ?_
    refine am_iald (pc := 203) G 16 dX6_rewrite_203 (by decide) h.1 ?_
    have h := h.2
    refine am_callV (rk := 4) (rmc := rm_X7_append) (st := []) (pc := 204) G 7 [(0, _), (0, _)] rfl (by decide) rfl dX6_rewrite_204 tw_m_RX6_66 tw_i_X7_append tw_v_X7_append tw_z_RX7 tw_c_X7_append hy_X7_append (callrm hr rfl) rfl (RunsM.mono h (fun r10 M11 h => ?_)) Z.rm
    show AW X 207 _ [] M11
    refine am_iinc (pc := 207) G dX6_rewrite_207 rfl (nlx hn rfl) rfl ?_
    refine am_goto (pc := 210) (ls := [(16, _), (99, _), (17, _), (99, _), (0, _), (0, _), (99, _)]) G 177 dX6_rewrite_210 (by decide) ?_
    refine am_le (ls' := [(16, _), (99, 0), (17, _), (99, 0), (0, _), (0, _), (99, 0)]) ⟨Or.inr rfl, ⟨Or.inl rfl, ⟨Or.inr rfl, ⟨Or.inl rfl, ⟨Or.inr rfl, ⟨Or.inr rfl, ⟨Or.inl rfl, trivial⟩⟩⟩⟩⟩⟩⟩ ?_
    exact k177 _ _ h
def wp_X6_rewrite_177 (V : VV) (x2 x4 x5 : Int) (M : Mem) (Q : Int → Mem → Prop) : Prop :=
  ∃ (I : Int → Mem → Prop) (μ : Int → Mem → Nat), I x5 M ∧ ∀ (y5 : Int) (N : Mem), I y5 N → wp_X6_rewrite_177_b V x2 x4 y5 N Q (fun z5 N1 => I z5 N1 ∧ μ z5 N1 < μ y5 N)
theorem swp_X6_rewrite_177 {X : XX} {Q : Int → Mem → Prop} (G : GX X cX6_rewrite "TreeHands$Rules") (Z : RX X 0 Q) (hn : nLX X = 7) (hr : roomX X = rm_X6_rewrite) (x2 x4 x5 : Int) (M : Mem) (h : wp_X6_rewrite_177 (vX X) x2 x4 x5 M Q) : AW X 177 [(16, 28), (99, 0), (17, x2), (99, 0), (0, x4), (0, x5), (99, 0)] [] M := by
  unfold wp_X6_rewrite_177 at h
  obtain ⟨I, μ, hI, hs⟩ := h
  have key : ∀ (n : Nat) (y5 : Int) (N : Mem), μ y5 N < n → I y5 N → AW X 177 [(16, 28), (99, 0), (17, x2), (99, 0), (0, x4), (0, y5), (99, 0)] [] N := by
    intro n
    induction n with
    | zero => intro y5 N hlt; exact absurd hlt (Nat.not_lt_zero _)
    | succ n ih =>
      intro y5 N hlt hI
      exact swp_X6_rewrite_177_b G Z hn hr x2 x4 y5 N (fun z5 N1 => I z5 N1 ∧ μ z5 N1 < μ y5 N) (fun z5 N1 hz => ih z5 N1 (by omega) hz.1) (hs y5 N hI)
  exact key _ x5 M (Nat.lt_succ_self _) hI
def wp_X6_rewrite_83_b (V : VV) (x1 x2 x3 x4 x5 : Int) (M : Mem) (Q : Int → Mem → Prop) (B83 : Int → Mem → Prop) : Prop :=
  ((0 : Int) ≤ x1 ∧ x1 < (6 : Int)) ∧
  (M (46 + 14 * x1) 0 ≤ x5 →
    ((0 : Int) ≤ x3 ∧ x3 < (16 : Int)) ∧
    ∀ v5 : Int, v5 = w32 (x3 + M (x2 + 3) x3) →
    wp_X6_rewrite_177 V x2 x4 v5 M Q) ∧ (¬ (M (46 + 14 * x1) 0 ≤ x5) →
    ((0 : Int) ≤ x1 ∧ x1 < (6 : Int)) ∧
    ((0 : Int) ≤ x5 ∧ x5 < (16 : Int)) ∧
    ∀ v12 : Int, v12 = M ((46 + 14 * x1) + 1) x5 →
    R_X9_isHole V v12 M (fun r13 M14 =>
    (r13 = 0 →
      ((0 : Int) ≤ x1 ∧ x1 < (6 : Int)) ∧
      ((0 : Int) ≤ x5 ∧ x5 < (16 : Int)) ∧
      R_X7_append V 32 v12 (M14 ((46 + 14 * x1) + 2) x5) M14 (fun _ M16 =>
      B83 (w32 (x5 + 1)) M16)) ∧ (¬ (r13 = 0) →
      ((0 : Int) ≤ w32 (v12 - 65) ∧ w32 (v12 - 65) < (8 : Int)) ∧
      R_X7_appendPart V 32 x2 (M14 31 (w32 (v12 - 65))) M14 (fun _ M18 =>
      B83 (w32 (x5 + 1)) M18))))
theorem swp_X6_rewrite_83_b {X : XX} {Q : Int → Mem → Prop} (G : GX X cX6_rewrite "TreeHands$Rules") (Z : RX X 0 Q) (hn : nLX X = 7) (hr : roomX X = rm_X6_rewrite) (x1 x2 x3 x4 x5 : Int) (M : Mem) (B83 : Int → Mem → Prop) (k83 : ∀ (z5 : Int) (N : Mem), B83 z5 N → AW X 83 [(16, 28), (0, x1), (17, x2), (0, x3), (0, x4), (0, z5), (99, 0)] [] N) (h : wp_X6_rewrite_83_b (vX X) x1 x2 x3 x4 x5 M Q B83) : AW X 83 [(16, 28), (0, x1), (17, x2), (0, x3), (0, x4), (0, x5), (99, 0)] [] M := by
  unfold wp_X6_rewrite_83_b at h
  refine am_iload (pc := 83) G dX6_rewrite_83 rfl ?_
  refine am_aload_n (i := 0) (t := 13) (pc := 85) G dX6_rewrite_85 rfl rfl rfl ?_
  refine gf_X6_2 (pc := 86) G dX6_rewrite_86 tw_f_RX6_17 ?_
  refine am_iload_n (i := 1) (pc := 89) G dX6_rewrite_89 rfl rfl ?_
  refine am_aald (pc := 90) G 20003 dX6_rewrite_90 (by decide) h.1 ?_
  have h := h.2
  refine gf_X7_0 (pc := 91) G dX6_rewrite_91 tw_f_RX6_45 ?_
  refine am_icmp_ge (pc := 94) G 167 dX6_rewrite_94 (by decide) (fun c => ?_) (fun c => ?_)
  · have h := h.1 c
    refine am_iload_n (i := 3) (pc := 167) G dX6_rewrite_167 rfl rfl ?_
    refine am_aload_n (i := 2) (t := 14) (pc := 168) G dX6_rewrite_168 rfl rfl rfl ?_
    refine gf_X7_3 (pc := 169) G dX6_rewrite_169 tw_f_RX6_53 ?_
    refine am_iload_n (i := 3) (pc := 172) G dX6_rewrite_172 rfl rfl ?_
    refine am_iald (pc := 173) G 16 dX6_rewrite_173 (by decide) h.1 ?_
    have h := h.2
    refine am_iadd (pc := 174) G dX6_rewrite_174 ?_
    have h := h _ rfl
    refine am_istore (pc := 175) G dX6_rewrite_175 (nlx hn rfl) rfl ?_
    refine am_le (ls' := [(16, _), (99, 0), (17, _), (99, 0), (0, _), (0, _), (99, 0)]) ⟨Or.inr rfl, ⟨Or.inl rfl, ⟨Or.inr rfl, ⟨Or.inl rfl, ⟨Or.inr rfl, ⟨Or.inr rfl, ⟨Or.inl rfl, trivial⟩⟩⟩⟩⟩⟩⟩ ?_
    exact swp_X6_rewrite_177 G Z hn hr _ _ _ _ h
  · have h := h.2 c
    refine am_aload_n (i := 0) (t := 13) (pc := 97) G dX6_rewrite_97 rfl rfl rfl ?_
    refine gf_X6_2 (pc := 98) G dX6_rewrite_98 tw_f_RX6_17 ?_
    refine am_iload_n (i := 1) (pc := 101) G dX6_rewrite_101 rfl rfl ?_
    refine am_aald (pc := 102) G 20003 dX6_rewrite_102 (by decide) h.1 ?_
    have h := h.2
    refine gf_X7_1 (pc := 103) G dX6_rewrite_103 tw_f_RX6_42 ?_
    refine am_iload (pc := 106) G dX6_rewrite_106 rfl ?_
    refine am_iald (pc := 108) G 16 dX6_rewrite_108 (by decide) h.1 ?_
    have h := h.2
    have h := h _ rfl
    refine am_istore (pc := 109) G dX6_rewrite_109 (nlx hn rfl) rfl ?_
    refine am_iload (pc := 111) (ls := [(16, _), (0, _), (17, _), (0, _), (0, _), (0, _), (0, _)]) G dX6_rewrite_111 rfl ?_
    refine am_callSN (rk := 1) (rmc := rm_X9_isHole) (st := []) (pc := 113) G [(0, _)] dX6_rewrite_113 tw_n_RX6_46 tw_s_X9_isHole tw_z_RX9 tw_c_X9_isHole hy_X9_isHole (callrm hr rfl) rfl (RunsM.mono h (fun r13 M14 h => ?_)) Z.rm
    show AW X 116 _ [(0, _)] M14
    refine am_if_eq (pc := 116) G 140 dX6_rewrite_116 (by decide) (fun c => ?_) (fun c => ?_)
    · have h := h.1 c
      refine am_aload_n (i := 0) (t := 13) (pc := 140) G dX6_rewrite_140 rfl rfl rfl ?_
      refine gf_X6_4 (pc := 141) G dX6_rewrite_141 tw_f_RX6_25 ?_
      refine am_iload (pc := 144) G dX6_rewrite_144 rfl ?_
      refine am_aload_n (i := 0) (t := 13) (pc := 146) G dX6_rewrite_146 rfl rfl rfl ?_
      refine gf_X6_2 (pc := 147) G dX6_rewrite_147 tw_f_RX6_17 ?_
      refine am_iload_n (i := 1) (pc := 150) G dX6_rewrite_150 rfl rfl ?_
      refine am_aald (pc := 151) G 20003 dX6_rewrite_151 (by decide) h.1 ?_
      have h := h.2
      refine gf_X7_2 (pc := 152) G dX6_rewrite_152 tw_f_RX6_56 ?_
      refine am_iload (pc := 155) G dX6_rewrite_155 rfl ?_
      refine am_iald (pc := 157) G 16 dX6_rewrite_157 (by decide) h.1 ?_
      have h := h.2
      refine am_callV (rk := 4) (rmc := rm_X7_append) (st := []) (pc := 158) G 7 [(0, _), (0, _)] rfl (by decide) rfl dX6_rewrite_158 tw_m_RX6_66 tw_i_X7_append tw_v_X7_append tw_z_RX7 tw_c_X7_append hy_X7_append (callrm hr rfl) rfl (RunsM.mono h (fun r15 M16 h => ?_)) Z.rm
      show AW X 161 _ [] M16
      refine am_iinc (pc := 161) G dX6_rewrite_161 rfl (nlx hn rfl) rfl ?_
      refine am_goto (pc := 164) (ls := [(16, _), (0, _), (17, _), (0, _), (0, _), (0, _), (0, _)]) G 83 dX6_rewrite_164 (by decide) ?_
      refine am_le (ls' := [(16, _), (0, _), (17, _), (0, _), (0, _), (0, _), (99, 0)]) ⟨Or.inr rfl, ⟨Or.inr rfl, ⟨Or.inr rfl, ⟨Or.inr rfl, ⟨Or.inr rfl, ⟨Or.inr rfl, ⟨Or.inl rfl, trivial⟩⟩⟩⟩⟩⟩⟩ ?_
      exact k83 _ _ h
    · have h := h.2 c
      refine am_aload_n (i := 0) (t := 13) (pc := 119) G dX6_rewrite_119 rfl rfl rfl ?_
      refine gf_X6_4 (pc := 120) G dX6_rewrite_120 tw_f_RX6_25 ?_
      refine am_aload_n (i := 2) (t := 14) (pc := 123) G dX6_rewrite_123 rfl rfl rfl ?_
      refine am_aload_n (i := 0) (t := 13) (pc := 124) G dX6_rewrite_124 rfl rfl rfl ?_
      refine gf_X6_3 (pc := 125) G dX6_rewrite_125 tw_f_RX6_20 ?_
      refine am_iload (pc := 128) G dX6_rewrite_128 rfl ?_
      refine am_bipush (pc := 130) G dX6_rewrite_130 (by decide) (by decide) ?_
      refine am_isub (pc := 132) G dX6_rewrite_132 ?_
      refine am_iald (pc := 133) G 8 dX6_rewrite_133 (by decide) h.1 ?_
      have h := h.2
      refine am_callV (rk := 4) (rmc := rm_X7_appendPart) (st := []) (pc := 134) G 7 [(17, _), (0, _)] rfl (by decide) rfl dX6_rewrite_134 tw_m_RX6_70 tw_i_X7_appendPart tw_v_X7_appendPart tw_z_RX7 tw_c_X7_appendPart hy_X7_appendPart (callrm hr rfl) rfl (RunsM.mono h (fun r17 M18 h => ?_)) Z.rm
      show AW X 137 _ [] M18
      refine am_goto (pc := 137) G 161 dX6_rewrite_137 (by decide) ?_
      refine am_iinc (pc := 161) G dX6_rewrite_161 rfl (nlx hn rfl) rfl ?_
      refine am_goto (pc := 164) (ls := [(16, _), (0, _), (17, _), (0, _), (0, _), (0, _), (0, _)]) G 83 dX6_rewrite_164 (by decide) ?_
      refine am_le (ls' := [(16, _), (0, _), (17, _), (0, _), (0, _), (0, _), (99, 0)]) ⟨Or.inr rfl, ⟨Or.inr rfl, ⟨Or.inr rfl, ⟨Or.inr rfl, ⟨Or.inr rfl, ⟨Or.inr rfl, ⟨Or.inl rfl, trivial⟩⟩⟩⟩⟩⟩⟩ ?_
      exact k83 _ _ h
def wp_X6_rewrite_83 (V : VV) (x1 x2 x3 x4 x5 : Int) (M : Mem) (Q : Int → Mem → Prop) : Prop :=
  ∃ (I : Int → Mem → Prop) (μ : Int → Mem → Nat), I x5 M ∧ ∀ (y5 : Int) (N : Mem), I y5 N → wp_X6_rewrite_83_b V x1 x2 x3 x4 y5 N Q (fun z5 N1 => I z5 N1 ∧ μ z5 N1 < μ y5 N)
theorem swp_X6_rewrite_83 {X : XX} {Q : Int → Mem → Prop} (G : GX X cX6_rewrite "TreeHands$Rules") (Z : RX X 0 Q) (hn : nLX X = 7) (hr : roomX X = rm_X6_rewrite) (x1 x2 x3 x4 x5 : Int) (M : Mem) (h : wp_X6_rewrite_83 (vX X) x1 x2 x3 x4 x5 M Q) : AW X 83 [(16, 28), (0, x1), (17, x2), (0, x3), (0, x4), (0, x5), (99, 0)] [] M := by
  unfold wp_X6_rewrite_83 at h
  obtain ⟨I, μ, hI, hs⟩ := h
  have key : ∀ (n : Nat) (y5 : Int) (N : Mem), μ y5 N < n → I y5 N → AW X 83 [(16, 28), (0, x1), (17, x2), (0, x3), (0, x4), (0, y5), (99, 0)] [] N := by
    intro n
    induction n with
    | zero => intro y5 N hlt; exact absurd hlt (Nat.not_lt_zero _)
    | succ n ih =>
      intro y5 N hlt hI
      exact swp_X6_rewrite_83_b G Z hn hr x1 x2 x3 x4 y5 N (fun z5 N1 => I z5 N1 ∧ μ z5 N1 < μ y5 N) (fun z5 N1 hz => ih z5 N1 (by omega) hz.1) (hs y5 N hI)
  exact key _ x5 M (Nat.lt_succ_self _) hI
def wp_X6_rewrite_47_b (V : VV) (x1 x2 x3 x4 x5 : Int) (M : Mem) (Q : Int → Mem → Prop) (B47 : Int → Mem → Prop) : Prop :=
  (x3 ≤ x5 →
    wp_X6_rewrite_83 V x1 x2 x3 x4 0 M Q) ∧ (¬ (x3 ≤ x5) →
    ((0 : Int) ≤ x5 ∧ x5 < (16 : Int)) ∧
    ((0 : Int) ≤ x5 ∧ x5 < (16 : Int)) ∧
    R_X7_append V 32 (M (x2 + 1) x5) (M (x2 + 2) x5) M (fun _ M20 =>
    B47 (w32 (x5 + 1)) M20))
theorem swp_X6_rewrite_47_b {X : XX} {Q : Int → Mem → Prop} (G : GX X cX6_rewrite "TreeHands$Rules") (Z : RX X 0 Q) (hn : nLX X = 7) (hr : roomX X = rm_X6_rewrite) (x1 x2 x3 x4 x5 : Int) (M : Mem) (B47 : Int → Mem → Prop) (k47 : ∀ (z5 : Int) (N : Mem), B47 z5 N → AW X 47 [(16, 28), (0, x1), (17, x2), (0, x3), (0, x4), (0, z5), (99, 0)] [] N) (h : wp_X6_rewrite_47_b (vX X) x1 x2 x3 x4 x5 M Q B47) : AW X 47 [(16, 28), (0, x1), (17, x2), (0, x3), (0, x4), (0, x5), (99, 0)] [] M := by
  unfold wp_X6_rewrite_47_b at h
  refine am_iload (pc := 47) G dX6_rewrite_47 rfl ?_
  refine am_iload_n (i := 3) (pc := 49) G dX6_rewrite_49 rfl rfl ?_
  refine am_icmp_ge (pc := 50) G 80 dX6_rewrite_50 (by decide) (fun c => ?_) (fun c => ?_)
  · have h := h.1 c
    refine am_iconst (pc := 80) G dX6_rewrite_80 (by decide) ?_
    refine am_istore (pc := 81) G dX6_rewrite_81 (nlx hn rfl) rfl ?_
    refine am_le (ls' := [(16, _), (0, _), (17, _), (0, _), (0, _), (0, _), (99, 0)]) ⟨Or.inr rfl, ⟨Or.inr rfl, ⟨Or.inr rfl, ⟨Or.inr rfl, ⟨Or.inr rfl, ⟨Or.inr rfl, ⟨Or.inl rfl, trivial⟩⟩⟩⟩⟩⟩⟩ ?_
    exact swp_X6_rewrite_83 G Z hn hr _ _ _ _ _ _ h
  · have h := h.2 c
    refine am_aload_n (i := 0) (t := 13) (pc := 53) G dX6_rewrite_53 rfl rfl rfl ?_
    refine gf_X6_4 (pc := 54) G dX6_rewrite_54 tw_f_RX6_25 ?_
    refine am_aload_n (i := 2) (t := 14) (pc := 57) G dX6_rewrite_57 rfl rfl rfl ?_
    refine gf_X7_1 (pc := 58) G dX6_rewrite_58 tw_f_RX6_42 ?_
    refine am_iload (pc := 61) G dX6_rewrite_61 rfl ?_
    refine am_iald (pc := 63) G 16 dX6_rewrite_63 (by decide) h.1 ?_
    have h := h.2
    refine am_aload_n (i := 2) (t := 14) (pc := 64) G dX6_rewrite_64 rfl rfl rfl ?_
    refine gf_X7_2 (pc := 65) G dX6_rewrite_65 tw_f_RX6_56 ?_
    refine am_iload (pc := 68) G dX6_rewrite_68 rfl ?_
    refine am_iald (pc := 70) G 16 dX6_rewrite_70 (by decide) h.1 ?_
    have h := h.2
    refine am_callV (rk := 4) (rmc := rm_X7_append) (st := []) (pc := 71) G 7 [(0, _), (0, _)] rfl (by decide) rfl dX6_rewrite_71 tw_m_RX6_66 tw_i_X7_append tw_v_X7_append tw_z_RX7 tw_c_X7_append hy_X7_append (callrm hr rfl) rfl (RunsM.mono h (fun r19 M20 h => ?_)) Z.rm
    show AW X 74 _ [] M20
    refine am_iinc (pc := 74) G dX6_rewrite_74 rfl (nlx hn rfl) rfl ?_
    refine am_goto (pc := 77) (ls := [(16, _), (0, _), (17, _), (0, _), (0, _), (0, _), (99, _)]) G 47 dX6_rewrite_77 (by decide) ?_
    refine am_le (ls' := [(16, _), (0, _), (17, _), (0, _), (0, _), (0, _), (99, 0)]) ⟨Or.inr rfl, ⟨Or.inr rfl, ⟨Or.inr rfl, ⟨Or.inr rfl, ⟨Or.inr rfl, ⟨Or.inr rfl, ⟨Or.inl rfl, trivial⟩⟩⟩⟩⟩⟩⟩ ?_
    exact k47 _ _ h
def wp_X6_rewrite_47 (V : VV) (x1 x2 x3 x4 x5 : Int) (M : Mem) (Q : Int → Mem → Prop) : Prop :=
  ∃ (I : Int → Mem → Prop) (μ : Int → Mem → Nat), I x5 M ∧ ∀ (y5 : Int) (N : Mem), I y5 N → wp_X6_rewrite_47_b V x1 x2 x3 x4 y5 N Q (fun z5 N1 => I z5 N1 ∧ μ z5 N1 < μ y5 N)
theorem swp_X6_rewrite_47 {X : XX} {Q : Int → Mem → Prop} (G : GX X cX6_rewrite "TreeHands$Rules") (Z : RX X 0 Q) (hn : nLX X = 7) (hr : roomX X = rm_X6_rewrite) (x1 x2 x3 x4 x5 : Int) (M : Mem) (h : wp_X6_rewrite_47 (vX X) x1 x2 x3 x4 x5 M Q) : AW X 47 [(16, 28), (0, x1), (17, x2), (0, x3), (0, x4), (0, x5), (99, 0)] [] M := by
  unfold wp_X6_rewrite_47 at h
  obtain ⟨I, μ, hI, hs⟩ := h
  have key : ∀ (n : Nat) (y5 : Int) (N : Mem), μ y5 N < n → I y5 N → AW X 47 [(16, 28), (0, x1), (17, x2), (0, x3), (0, x4), (0, y5), (99, 0)] [] N := by
    intro n
    induction n with
    | zero => intro y5 N hlt; exact absurd hlt (Nat.not_lt_zero _)
    | succ n ih =>
      intro y5 N hlt hI
      exact swp_X6_rewrite_47_b G Z hn hr x1 x2 x3 x4 y5 N (fun z5 N1 => I z5 N1 ∧ μ z5 N1 < μ y5 N) (fun z5 N1 hz => ih z5 N1 (by omega) hz.1) (hs y5 N hI)
  exact key _ x5 M (Nat.lt_succ_self _) hI
def wp_X6_rewrite (V : VV) (x1 x2 x3 : Int) (M : Mem) (Q : Int → Mem → Prop) : Prop :=
  R_X6_suits V x1 x2 x3 M (fun r1 M2 =>
  (r1 = 0 →
    Q (-1) M2) ∧ (¬ (r1 = 0) →
    ((0 : Int) ≤ x1 ∧ x1 < (6 : Int)) ∧
    R_X6_nodesThen V (46 + 14 * x1) x2 x3 M2 (fun r3 M4 =>
    (r3 ≤ 16 →
      wp_X6_rewrite_47 V x1 x2 x3 r3 0 (mset M4 32 0 0) Q) ∧ (¬ (r3 ≤ 16) →
      Q r3 M4))))
theorem of_X6_rewrite {V : VV} {x1 x2 x3 : Int} {M : Mem} {Q : Int → Mem → Prop} (h : wp_X6_rewrite V x1 x2 x3 M Q) : R_X6_rewrite V x1 x2 x3 M Q := by
  refine met_in (own := "TreeHands$Rules") (by decide +kernel) rfl rfl (Nat.le_of_ble_eq_true rfl) ?_
  intro X G Z hn hr hv
  subst hv
  unfold wp_X6_rewrite at h
  show AW X 0 [(16, 28), (0, x1), (17, x2), (0, x3), (99, 0), (99, 0), (99, 0)] [] M
  refine am_aload_n (i := 0) (t := 13) (pc := 0) G dX6_rewrite_0 rfl rfl rfl ?_
  refine am_iload_n (i := 1) (pc := 1) G dX6_rewrite_1 rfl rfl ?_
  refine am_aload_n (i := 2) (t := 14) (pc := 2) G dX6_rewrite_2 rfl rfl rfl ?_
  refine am_iload_n (i := 3) (pc := 3) G dX6_rewrite_3 rfl rfl ?_
  refine am_callV (rk := 1) (rmc := rm_X6_suits) (st := []) (pc := 4) G 6 [(0, _), (17, _), (0, _)] rfl (by decide) rfl dX6_rewrite_4 tw_m_RX6_59 tw_i_X6_suits tw_v_X6_suits tw_z_RX6 tw_c_X6_suits hy_X6_suits (callrm hr rfl) rfl (RunsM.mono h (fun r1 M2 h => ?_)) Z.rm
  show AW X 7 _ [(0, _)] M2
  refine am_if_ne (pc := 7) G 12 dX6_rewrite_7 (by decide) (fun c => ?_) (fun c => ?_)
  · have h := h.2 c
    refine am_aload_n (i := 0) (t := 13) (pc := 12) G dX6_rewrite_12 rfl rfl rfl ?_
    refine am_aload_n (i := 0) (t := 13) (pc := 13) G dX6_rewrite_13 rfl rfl rfl ?_
    refine gf_X6_2 (pc := 14) G dX6_rewrite_14 tw_f_RX6_17 ?_
    refine am_iload_n (i := 1) (pc := 17) G dX6_rewrite_17 rfl rfl ?_
    refine am_aald (pc := 18) G 20003 dX6_rewrite_18 (by decide) h.1 ?_
    have h := h.2
    refine am_aload_n (i := 2) (t := 14) (pc := 19) G dX6_rewrite_19 rfl rfl rfl ?_
    refine am_iload_n (i := 3) (pc := 20) G dX6_rewrite_20 rfl rfl ?_
    refine am_callV (rk := 0) (rmc := rm_X6_nodesThen) (st := []) (pc := 21) G 6 [(17, _), (17, _), (0, _)] rfl (by decide) rfl dX6_rewrite_21 tw_m_RX6_62 tw_i_X6_nodesThen tw_v_X6_nodesThen tw_z_RX6 tw_c_X6_nodesThen hy_X6_nodesThen (callrm hr rfl) rfl (RunsM.mono h (fun r3 M4 h => ?_)) Z.rm
    show AW X 24 _ [(0, _)] M4
    refine am_istore (pc := 24) G dX6_rewrite_24 (nlx hn rfl) rfl ?_
    refine am_iload (pc := 26) (ls := [(16, _), (0, _), (17, _), (0, _), (0, _), (99, _), (99, _)]) G dX6_rewrite_26 rfl ?_
    refine am_bipush (pc := 28) G dX6_rewrite_28 (by decide) (by decide) ?_
    refine am_icmp_le (pc := 30) G 36 dX6_rewrite_30 (by decide) (fun c => ?_) (fun c => ?_)
    · have h := h.1 c
      refine am_aload_n (i := 0) (t := 13) (pc := 36) G dX6_rewrite_36 rfl rfl rfl ?_
      refine gf_X6_4 (pc := 37) G dX6_rewrite_37 tw_f_RX6_25 ?_
      refine am_iconst (pc := 40) G dX6_rewrite_40 (by decide) ?_
      refine pf_X7_0 (pc := 41) G dX6_rewrite_41 tw_f_RX6_45 ?_
      refine am_iconst (pc := 44) G dX6_rewrite_44 (by decide) ?_
      refine am_istore (pc := 45) G dX6_rewrite_45 (nlx hn rfl) rfl ?_
      refine am_le (ls' := [(16, _), (0, _), (17, _), (0, _), (0, _), (0, _), (99, 0)]) ⟨Or.inr rfl, ⟨Or.inr rfl, ⟨Or.inr rfl, ⟨Or.inr rfl, ⟨Or.inr rfl, ⟨Or.inr rfl, ⟨Or.inl rfl, trivial⟩⟩⟩⟩⟩⟩⟩ ?_
      exact swp_X6_rewrite_47 G Z hn hr _ _ _ _ _ _ h
    · have h := h.2 c
      refine am_iload (pc := 33) G dX6_rewrite_33 rfl ?_
      exact am_iret (pc := 35) G Z dX6_rewrite_35 h
  · have h := h.1 c
    refine am_iconst (pc := 10) G dX6_rewrite_10 (by decide) ?_
    exact am_iret (pc := 11) G Z dX6_rewrite_11 h
-- X8_remember TreeHands$Walker.remember(LTreeHands$Tree;I)V
def rm_X8_remember : Room := { frames := 0, cells := 0, slots := 0, locals := 0 }
theorem hy_X8_remember : yX8_remember.cls ≠ "java/lang/invoke/MethodHandle" ∧ yX8_remember.cls ≠ "java/lang/invoke/VarHandle" ∧ (parseMethodDescriptor yX8_remember.desc).map (fun d => d.parameters.length) = some 2 := by decide +kernel
abbrev R_X8_remember (V : VV) (x1 x2 : Int) (M : Mem) (Q : Int → Mem → Prop) : Prop := RunsM V yX8_remember (.code yX8_remember cX8_remember 4 (Option.none : Option Jvm.ClassFile.FieldType)) rm_X8_remember 4 [(18, 123), (17, x1), (0, x2)] M Q
def wp_X8_remember_12_b (V : VV) (x1 x2 x3 : Int) (M : Mem) (Q : Int → Mem → Prop) (B12 : Int → Mem → Prop) : Prop :=
  (M x1 0 ≤ x3 →
    Q 0 M) ∧ (¬ (M x1 0 ≤ x3) →
    ((0 : Int) ≤ x3 ∧ x3 < (16 : Int)) ∧
    ((0 : Int) ≤ x3 ∧ x3 < (16 : Int)) ∧
    ((0 : Int) ≤ w32 (w32 (x2 * 16) + x3) ∧ w32 (w32 (x2 * 16) + x3) < (1616 : Int)) ∧
    B12 (w32 (x3 + 1)) (mset M 126 (w32 (w32 (x2 * 16) + x3)) (w32 (w32 (M (x1 + 1) x3 * 16) + M (x1 + 2) x3))))
theorem swp_X8_remember_12_b {X : XX} {Q : Int → Mem → Prop} (G : GX X cX8_remember "TreeHands$Walker") (Z : RX X 4 Q) (hn : nLX X = 4) (hr : roomX X = rm_X8_remember) (x1 x2 x3 : Int) (M : Mem) (B12 : Int → Mem → Prop) (k12 : ∀ (z3 : Int) (N : Mem), B12 z3 N → AW X 12 [(18, 123), (17, x1), (0, x2), (0, z3)] [] N) (h : wp_X8_remember_12_b (vX X) x1 x2 x3 M Q B12) : AW X 12 [(18, 123), (17, x1), (0, x2), (0, x3)] [] M := by
  unfold wp_X8_remember_12_b at h
  refine am_iload_n (i := 3) (pc := 12) G dX8_remember_12 rfl rfl ?_
  refine am_aload_n (i := 1) (t := 14) (pc := 13) G dX8_remember_13 rfl rfl rfl ?_
  refine gf_X7_0 (pc := 14) G dX8_remember_14 tw_f_RX8_53 ?_
  refine am_icmp_ge (pc := 17) G 53 dX8_remember_17 (by decide) (fun c => ?_) (fun c => ?_)
  · have h := h.1 c
    exact am_vret (pc := 53) G Z dX8_remember_53 h
  · have h := h.2 c
    refine am_aload_n (i := 0) (t := 15) (pc := 20) G dX8_remember_20 rfl rfl rfl ?_
    refine gf_X8_4 (pc := 21) G dX8_remember_21 tw_f_RX8_18 ?_
    refine am_iload_n (i := 2) (pc := 24) G dX8_remember_24 rfl rfl ?_
    refine am_bipush (pc := 25) G dX8_remember_25 (by decide) (by decide) ?_
    refine am_imul (pc := 27) G dX8_remember_27 ?_
    refine am_iload_n (i := 3) (pc := 28) G dX8_remember_28 rfl rfl ?_
    refine am_iadd (pc := 29) G dX8_remember_29 ?_
    refine am_aload_n (i := 1) (t := 14) (pc := 30) G dX8_remember_30 rfl rfl rfl ?_
    refine gf_X7_1 (pc := 31) G dX8_remember_31 tw_f_RX8_58 ?_
    refine am_iload_n (i := 3) (pc := 34) G dX8_remember_34 rfl rfl ?_
    refine am_iald (pc := 35) G 16 dX8_remember_35 (by decide) h.1 ?_
    have h := h.2
    refine am_bipush (pc := 36) G dX8_remember_36 (by decide) (by decide) ?_
    refine am_imul (pc := 38) G dX8_remember_38 ?_
    refine am_aload_n (i := 1) (t := 14) (pc := 39) G dX8_remember_39 rfl rfl rfl ?_
    refine gf_X7_2 (pc := 40) G dX8_remember_40 tw_f_RX8_61 ?_
    refine am_iload_n (i := 3) (pc := 43) G dX8_remember_43 rfl rfl ?_
    refine am_iald (pc := 44) G 16 dX8_remember_44 (by decide) h.1 ?_
    have h := h.2
    refine am_iadd (pc := 45) G dX8_remember_45 ?_
    refine am_iast (pc := 46) G 1616 dX8_remember_46 (by decide) h.1 ?_
    have h := h.2
    refine am_iinc (pc := 47) G dX8_remember_47 rfl (nlx hn rfl) rfl ?_
    refine am_goto (pc := 50) (ls := [(18, _), (17, _), (0, _), (0, _)]) G 12 dX8_remember_50 (by decide) ?_
    refine am_le (ls' := [(18, _), (17, _), (0, _), (0, _)]) ⟨Or.inr rfl, ⟨Or.inr rfl, ⟨Or.inr rfl, ⟨Or.inr rfl, trivial⟩⟩⟩⟩ ?_
    exact k12 _ _ h
def wp_X8_remember_12 (V : VV) (x1 x2 x3 : Int) (M : Mem) (Q : Int → Mem → Prop) : Prop :=
  ∃ (I : Int → Mem → Prop) (μ : Int → Mem → Nat), I x3 M ∧ ∀ (y3 : Int) (N : Mem), I y3 N → wp_X8_remember_12_b V x1 x2 y3 N Q (fun z3 N1 => I z3 N1 ∧ μ z3 N1 < μ y3 N)
theorem swp_X8_remember_12 {X : XX} {Q : Int → Mem → Prop} (G : GX X cX8_remember "TreeHands$Walker") (Z : RX X 4 Q) (hn : nLX X = 4) (hr : roomX X = rm_X8_remember) (x1 x2 x3 : Int) (M : Mem) (h : wp_X8_remember_12 (vX X) x1 x2 x3 M Q) : AW X 12 [(18, 123), (17, x1), (0, x2), (0, x3)] [] M := by
  unfold wp_X8_remember_12 at h
  obtain ⟨I, μ, hI, hs⟩ := h
  have key : ∀ (n : Nat) (y3 : Int) (N : Mem), μ y3 N < n → I y3 N → AW X 12 [(18, 123), (17, x1), (0, x2), (0, y3)] [] N := by
    intro n
    induction n with
    | zero => intro y3 N hlt; exact absurd hlt (Nat.not_lt_zero _)
    | succ n ih =>
      intro y3 N hlt hI
      exact swp_X8_remember_12_b G Z hn hr x1 x2 y3 N (fun z3 N1 => I z3 N1 ∧ μ z3 N1 < μ y3 N) (fun z3 N1 hz => ih z3 N1 (by omega) hz.1) (hs y3 N hI)
  exact key _ x3 M (Nat.lt_succ_self _) hI
def wp_X8_remember (V : VV) (x1 x2 : Int) (M : Mem) (Q : Int → Mem → Prop) : Prop :=
  ((0 : Int) ≤ x2 ∧ x2 < (101 : Int)) ∧
  wp_X8_remember_12 V x1 x2 0 (mset M 125 x2 (M x1 0)) Q
theorem of_X8_remember {V : VV} {x1 x2 : Int} {M : Mem} {Q : Int → Mem → Prop} (h : wp_X8_remember V x1 x2 M Q) : R_X8_remember V x1 x2 M Q := by
  refine met_in (own := "TreeHands$Walker") (by decide +kernel) rfl rfl (Nat.le_of_ble_eq_true rfl) ?_
  intro X G Z hn hr hv
  subst hv
  unfold wp_X8_remember at h
  show AW X 0 [(18, 123), (17, x1), (0, x2), (99, 0)] [] M
  refine am_aload_n (i := 0) (t := 15) (pc := 0) G dX8_remember_0 rfl rfl rfl ?_
  refine gf_X8_3 (pc := 1) G dX8_remember_1 tw_f_RX8_15 ?_
  refine am_iload_n (i := 2) (pc := 4) G dX8_remember_4 rfl rfl ?_
  refine am_aload_n (i := 1) (t := 14) (pc := 5) G dX8_remember_5 rfl rfl rfl ?_
  refine gf_X7_0 (pc := 6) G dX8_remember_6 tw_f_RX8_53 ?_
  refine am_iast (pc := 9) G 101 dX8_remember_9 (by decide) h.1 ?_
  have h := h.2
  refine am_iconst (pc := 10) G dX8_remember_10 (by decide) ?_
  refine am_istore_n (pc := 11) G dX8_remember_11 rfl (nlx hn rfl) rfl ?_
  refine am_le (ls' := [(18, _), (17, _), (0, _), (0, _)]) ⟨Or.inr rfl, ⟨Or.inr rfl, ⟨Or.inr rfl, ⟨Or.inr rfl, trivial⟩⟩⟩⟩ ?_
  exact swp_X8_remember_12 G Z hn hr _ _ _ _ h
-- X8_isSamePast TreeHands$Walker.isSamePast(II)Z
def rm_X8_isSamePast : Room := { frames := 0, cells := 0, slots := 0, locals := 0 }
theorem hy_X8_isSamePast : yX8_isSamePast.cls ≠ "java/lang/invoke/MethodHandle" ∧ yX8_isSamePast.cls ≠ "java/lang/invoke/VarHandle" ∧ (parseMethodDescriptor yX8_isSamePast.desc).map (fun d => d.parameters.length) = some 2 := by decide +kernel
abbrev R_X8_isSamePast (V : VV) (x1 x2 : Int) (M : Mem) (Q : Int → Mem → Prop) : Prop := RunsM V yX8_isSamePast (.code yX8_isSamePast cX8_isSamePast 4 (Option.some Jvm.ClassFile.FieldType.boolean)) rm_X8_isSamePast 1 [(18, 123), (0, x1), (0, x2)] M Q
def wp_X8_isSamePast_2_b (V : VV) (x1 x2 x3 : Int) (M : Mem) (Q : Int → Mem → Prop) (B2 : Int → Prop) : Prop :=
  ((0 : Int) ≤ x1 ∧ x1 < (101 : Int)) ∧
  (M 125 x1 ≤ x3 →
    Q 1 M) ∧ (¬ (M 125 x1 ≤ x3) →
    ((0 : Int) ≤ w32 (w32 (x1 * 16) + x3) ∧ w32 (w32 (x1 * 16) + x3) < (1616 : Int)) ∧
    ((0 : Int) ≤ w32 (w32 (x2 * 16) + x3) ∧ w32 (w32 (x2 * 16) + x3) < (1616 : Int)) ∧
    (M 126 (w32 (w32 (x1 * 16) + x3)) = M 126 (w32 (w32 (x2 * 16) + x3)) →
      B2 (w32 (x3 + 1))) ∧ (¬ (M 126 (w32 (w32 (x1 * 16) + x3)) = M 126 (w32 (w32 (x2 * 16) + x3))) →
      Q 0 M))
theorem swp_X8_isSamePast_2_b {X : XX} {Q : Int → Mem → Prop} (G : GX X cX8_isSamePast "TreeHands$Walker") (Z : RX X 1 Q) (hn : nLX X = 4) (hr : roomX X = rm_X8_isSamePast) (x1 x2 x3 : Int) (M : Mem) (B2 : Int → Prop) (k2 : ∀ (z3 : Int), B2 z3 → AW X 2 [(18, 123), (0, x1), (0, x2), (0, z3)] [] M) (h : wp_X8_isSamePast_2_b (vX X) x1 x2 x3 M Q B2) : AW X 2 [(18, 123), (0, x1), (0, x2), (0, x3)] [] M := by
  unfold wp_X8_isSamePast_2_b at h
  refine am_iload_n (i := 3) (pc := 2) G dX8_isSamePast_2 rfl rfl ?_
  refine am_aload_n (i := 0) (t := 15) (pc := 3) G dX8_isSamePast_3 rfl rfl rfl ?_
  refine gf_X8_3 (pc := 4) G dX8_isSamePast_4 tw_f_RX8_15 ?_
  refine am_iload_n (i := 1) (pc := 7) G dX8_isSamePast_7 rfl rfl ?_
  refine am_iald (pc := 8) G 101 dX8_isSamePast_8 (by decide) h.1 ?_
  have h := h.2
  refine am_icmp_ge (pc := 9) G 45 dX8_isSamePast_9 (by decide) (fun c => ?_) (fun c => ?_)
  · have h := h.1 c
    refine am_iconst (pc := 45) G dX8_isSamePast_45 (by decide) ?_
    exact am_zret (pc := 46) G Z dX8_isSamePast_46 ⟨by decide, h⟩
  · have h := h.2 c
    refine am_aload_n (i := 0) (t := 15) (pc := 12) G dX8_isSamePast_12 rfl rfl rfl ?_
    refine gf_X8_4 (pc := 13) G dX8_isSamePast_13 tw_f_RX8_18 ?_
    refine am_iload_n (i := 1) (pc := 16) G dX8_isSamePast_16 rfl rfl ?_
    refine am_bipush (pc := 17) G dX8_isSamePast_17 (by decide) (by decide) ?_
    refine am_imul (pc := 19) G dX8_isSamePast_19 ?_
    refine am_iload_n (i := 3) (pc := 20) G dX8_isSamePast_20 rfl rfl ?_
    refine am_iadd (pc := 21) G dX8_isSamePast_21 ?_
    refine am_iald (pc := 22) G 1616 dX8_isSamePast_22 (by decide) h.1 ?_
    have h := h.2
    refine am_aload_n (i := 0) (t := 15) (pc := 23) G dX8_isSamePast_23 rfl rfl rfl ?_
    refine gf_X8_4 (pc := 24) G dX8_isSamePast_24 tw_f_RX8_18 ?_
    refine am_iload_n (i := 2) (pc := 27) G dX8_isSamePast_27 rfl rfl ?_
    refine am_bipush (pc := 28) G dX8_isSamePast_28 (by decide) (by decide) ?_
    refine am_imul (pc := 30) G dX8_isSamePast_30 ?_
    refine am_iload_n (i := 3) (pc := 31) G dX8_isSamePast_31 rfl rfl ?_
    refine am_iadd (pc := 32) G dX8_isSamePast_32 ?_
    refine am_iald (pc := 33) G 1616 dX8_isSamePast_33 (by decide) h.1 ?_
    have h := h.2
    refine am_icmp_eq (pc := 34) G 39 dX8_isSamePast_34 (by decide) (fun c => ?_) (fun c => ?_)
    · have h := h.1 c
      refine am_iinc (pc := 39) G dX8_isSamePast_39 rfl (nlx hn rfl) rfl ?_
      refine am_goto (pc := 42) (ls := [(18, _), (0, _), (0, _), (0, _)]) G 2 dX8_isSamePast_42 (by decide) ?_
      refine am_le (ls' := [(18, _), (0, _), (0, _), (0, _)]) ⟨Or.inr rfl, ⟨Or.inr rfl, ⟨Or.inr rfl, ⟨Or.inr rfl, trivial⟩⟩⟩⟩ ?_
      exact k2 _ h
    · have h := h.2 c
      refine am_iconst (pc := 37) G dX8_isSamePast_37 (by decide) ?_
      exact am_zret (pc := 38) G Z dX8_isSamePast_38 ⟨by decide, h⟩
def wp_X8_isSamePast_2 (V : VV) (x1 x2 x3 : Int) (M : Mem) (Q : Int → Mem → Prop) : Prop :=
  ∃ (I : Int → Prop) (μ : Int → Nat), I x3 ∧ ∀ (y3 : Int), I y3 → wp_X8_isSamePast_2_b V x1 x2 y3 M Q (fun z3 => I z3 ∧ μ z3 < μ y3)
theorem swp_X8_isSamePast_2 {X : XX} {Q : Int → Mem → Prop} (G : GX X cX8_isSamePast "TreeHands$Walker") (Z : RX X 1 Q) (hn : nLX X = 4) (hr : roomX X = rm_X8_isSamePast) (x1 x2 x3 : Int) (M : Mem) (h : wp_X8_isSamePast_2 (vX X) x1 x2 x3 M Q) : AW X 2 [(18, 123), (0, x1), (0, x2), (0, x3)] [] M := by
  unfold wp_X8_isSamePast_2 at h
  obtain ⟨I, μ, hI, hs⟩ := h
  have key : ∀ (n : Nat) (y3 : Int), μ y3 < n → I y3 → AW X 2 [(18, 123), (0, x1), (0, x2), (0, y3)] [] M := by
    intro n
    induction n with
    | zero => intro y3 hlt; exact absurd hlt (Nat.not_lt_zero _)
    | succ n ih =>
      intro y3 hlt hI
      exact swp_X8_isSamePast_2_b G Z hn hr x1 x2 y3 M (fun z3 => I z3 ∧ μ z3 < μ y3) (fun z3 hz => ih z3 (by omega) hz.1) (hs y3 hI)
  exact key _ x3 (Nat.lt_succ_self _) hI
def wp_X8_isSamePast (V : VV) (x1 x2 : Int) (M : Mem) (Q : Int → Mem → Prop) : Prop :=
  wp_X8_isSamePast_2 V x1 x2 0 M Q
theorem of_X8_isSamePast {V : VV} {x1 x2 : Int} {M : Mem} {Q : Int → Mem → Prop} (h : wp_X8_isSamePast V x1 x2 M Q) : R_X8_isSamePast V x1 x2 M Q := by
  refine met_in (own := "TreeHands$Walker") (by decide +kernel) rfl rfl (Nat.le_of_ble_eq_true rfl) ?_
  intro X G Z hn hr hv
  subst hv
  unfold wp_X8_isSamePast at h
  show AW X 0 [(18, 123), (0, x1), (0, x2), (99, 0)] [] M
  refine am_iconst (pc := 0) G dX8_isSamePast_0 (by decide) ?_
  refine am_istore_n (pc := 1) G dX8_isSamePast_1 rfl (nlx hn rfl) rfl ?_
  refine am_le (ls' := [(18, _), (0, _), (0, _), (0, _)]) ⟨Or.inr rfl, ⟨Or.inr rfl, ⟨Or.inr rfl, ⟨Or.inr rfl, trivial⟩⟩⟩⟩ ?_
  exact swp_X8_isSamePast_2 G Z hn hr _ _ _ _ h
-- X8_wasBefore TreeHands$Walker.wasBefore(I)Z
def rm_X8_wasBefore : Room := { frames := 1, cells := 0, slots := 0, locals := 23 }
theorem hy_X8_wasBefore : yX8_wasBefore.cls ≠ "java/lang/invoke/MethodHandle" ∧ yX8_wasBefore.cls ≠ "java/lang/invoke/VarHandle" ∧ (parseMethodDescriptor yX8_wasBefore.desc).map (fun d => d.parameters.length) = some 1 := by decide +kernel
abbrev R_X8_wasBefore (V : VV) (x1 : Int) (M : Mem) (Q : Int → Mem → Prop) : Prop := RunsM V yX8_wasBefore (.code yX8_wasBefore cX8_wasBefore 3 (Option.some Jvm.ClassFile.FieldType.boolean)) rm_X8_wasBefore 1 [(18, 123), (0, x1)] M Q
def wp_X8_wasBefore_2_b (V : VV) (x1 x2 : Int) (M : Mem) (Q : Int → Mem → Prop) (B2 : Int → Mem → Prop) : Prop :=
  (x1 ≤ x2 →
    Q 0 M) ∧ (¬ (x1 ≤ x2) →
    ((0 : Int) ≤ x2 ∧ x2 < (101 : Int)) ∧
    ((0 : Int) ≤ x1 ∧ x1 < (101 : Int)) ∧
    (M 125 x2 = M 125 x1 →
      R_X8_isSamePast V x2 x1 M (fun r1 M2 =>
      (r1 = 0 →
        B2 (w32 (x2 + 1)) M2) ∧ (¬ (r1 = 0) →
        Q 1 M2))) ∧ (¬ (M 125 x2 = M 125 x1) →
      B2 (w32 (x2 + 1)) M))
theorem swp_X8_wasBefore_2_b {X : XX} {Q : Int → Mem → Prop} (G : GX X cX8_wasBefore "TreeHands$Walker") (Z : RX X 1 Q) (hn : nLX X = 3) (hr : roomX X = rm_X8_wasBefore) (x1 x2 : Int) (M : Mem) (B2 : Int → Mem → Prop) (k2 : ∀ (z2 : Int) (N : Mem), B2 z2 N → AW X 2 [(18, 123), (0, x1), (0, z2)] [] N) (h : wp_X8_wasBefore_2_b (vX X) x1 x2 M Q B2) : AW X 2 [(18, 123), (0, x1), (0, x2)] [] M := by
  unfold wp_X8_wasBefore_2_b at h
  refine am_iload_n (i := 2) (pc := 2) G dX8_wasBefore_2 rfl rfl ?_
  refine am_iload_n (i := 1) (pc := 3) G dX8_wasBefore_3 rfl rfl ?_
  refine am_icmp_ge (pc := 4) G 39 dX8_wasBefore_4 (by decide) (fun c => ?_) (fun c => ?_)
  · have h := h.1 c
    refine am_iconst (pc := 39) G dX8_wasBefore_39 (by decide) ?_
    exact am_zret (pc := 40) G Z dX8_wasBefore_40 ⟨by decide, h⟩
  · have h := h.2 c
    refine am_aload_n (i := 0) (t := 15) (pc := 7) G dX8_wasBefore_7 rfl rfl rfl ?_
    refine gf_X8_3 (pc := 8) G dX8_wasBefore_8 tw_f_RX8_15 ?_
    refine am_iload_n (i := 2) (pc := 11) G dX8_wasBefore_11 rfl rfl ?_
    refine am_iald (pc := 12) G 101 dX8_wasBefore_12 (by decide) h.1 ?_
    have h := h.2
    refine am_aload_n (i := 0) (t := 15) (pc := 13) G dX8_wasBefore_13 rfl rfl rfl ?_
    refine gf_X8_3 (pc := 14) G dX8_wasBefore_14 tw_f_RX8_15 ?_
    refine am_iload_n (i := 1) (pc := 17) G dX8_wasBefore_17 rfl rfl ?_
    refine am_iald (pc := 18) G 101 dX8_wasBefore_18 (by decide) h.1 ?_
    have h := h.2
    refine am_icmp_ne (pc := 19) G 33 dX8_wasBefore_19 (by decide) (fun c => ?_) (fun c => ?_)
    · have h := h.2 c
      refine am_iinc (pc := 33) G dX8_wasBefore_33 rfl (nlx hn rfl) rfl ?_
      refine am_goto (pc := 36) (ls := [(18, _), (0, _), (0, _)]) G 2 dX8_wasBefore_36 (by decide) ?_
      refine am_le (ls' := [(18, _), (0, _), (0, _)]) ⟨Or.inr rfl, ⟨Or.inr rfl, ⟨Or.inr rfl, trivial⟩⟩⟩ ?_
      exact k2 _ _ h
    · have h := h.1 c
      refine am_aload_n (i := 0) (t := 15) (pc := 22) G dX8_wasBefore_22 rfl rfl rfl ?_
      refine am_iload_n (i := 2) (pc := 23) G dX8_wasBefore_23 rfl rfl ?_
      refine am_iload_n (i := 1) (pc := 24) G dX8_wasBefore_24 rfl rfl ?_
      refine am_callV (rk := 1) (rmc := rm_X8_isSamePast) (st := []) (pc := 25) G 8 [(0, _), (0, _)] rfl (by decide) rfl dX8_wasBefore_25 tw_m_RX8_64 tw_i_X8_isSamePast tw_v_X8_isSamePast tw_z_RX8 tw_c_X8_isSamePast hy_X8_isSamePast (callrm hr rfl) rfl (RunsM.mono h (fun r1 M2 h => ?_)) Z.rm
      show AW X 28 _ [(0, _)] M2
      refine am_if_eq (pc := 28) G 33 dX8_wasBefore_28 (by decide) (fun c => ?_) (fun c => ?_)
      · have h := h.1 c
        refine am_iinc (pc := 33) G dX8_wasBefore_33 rfl (nlx hn rfl) rfl ?_
        refine am_goto (pc := 36) (ls := [(18, _), (0, _), (0, _)]) G 2 dX8_wasBefore_36 (by decide) ?_
        refine am_le (ls' := [(18, _), (0, _), (0, _)]) ⟨Or.inr rfl, ⟨Or.inr rfl, ⟨Or.inr rfl, trivial⟩⟩⟩ ?_
        exact k2 _ _ h
      · have h := h.2 c
        refine am_iconst (pc := 31) G dX8_wasBefore_31 (by decide) ?_
        exact am_zret (pc := 32) G Z dX8_wasBefore_32 ⟨by decide, h⟩
def wp_X8_wasBefore_2 (V : VV) (x1 x2 : Int) (M : Mem) (Q : Int → Mem → Prop) : Prop :=
  ∃ (I : Int → Mem → Prop) (μ : Int → Mem → Nat), I x2 M ∧ ∀ (y2 : Int) (N : Mem), I y2 N → wp_X8_wasBefore_2_b V x1 y2 N Q (fun z2 N1 => I z2 N1 ∧ μ z2 N1 < μ y2 N)
theorem swp_X8_wasBefore_2 {X : XX} {Q : Int → Mem → Prop} (G : GX X cX8_wasBefore "TreeHands$Walker") (Z : RX X 1 Q) (hn : nLX X = 3) (hr : roomX X = rm_X8_wasBefore) (x1 x2 : Int) (M : Mem) (h : wp_X8_wasBefore_2 (vX X) x1 x2 M Q) : AW X 2 [(18, 123), (0, x1), (0, x2)] [] M := by
  unfold wp_X8_wasBefore_2 at h
  obtain ⟨I, μ, hI, hs⟩ := h
  have key : ∀ (n : Nat) (y2 : Int) (N : Mem), μ y2 N < n → I y2 N → AW X 2 [(18, 123), (0, x1), (0, y2)] [] N := by
    intro n
    induction n with
    | zero => intro y2 N hlt; exact absurd hlt (Nat.not_lt_zero _)
    | succ n ih =>
      intro y2 N hlt hI
      exact swp_X8_wasBefore_2_b G Z hn hr x1 y2 N (fun z2 N1 => I z2 N1 ∧ μ z2 N1 < μ y2 N) (fun z2 N1 hz => ih z2 N1 (by omega) hz.1) (hs y2 N hI)
  exact key _ x2 M (Nat.lt_succ_self _) hI
def wp_X8_wasBefore (V : VV) (x1 : Int) (M : Mem) (Q : Int → Mem → Prop) : Prop :=
  wp_X8_wasBefore_2 V x1 0 M Q
theorem of_X8_wasBefore {V : VV} {x1 : Int} {M : Mem} {Q : Int → Mem → Prop} (h : wp_X8_wasBefore V x1 M Q) : R_X8_wasBefore V x1 M Q := by
  refine met_in (own := "TreeHands$Walker") (by decide +kernel) rfl rfl (Nat.le_of_ble_eq_true rfl) ?_
  intro X G Z hn hr hv
  subst hv
  unfold wp_X8_wasBefore at h
  show AW X 0 [(18, 123), (0, x1), (99, 0)] [] M
  refine am_iconst (pc := 0) G dX8_wasBefore_0 (by decide) ?_
  refine am_istore_n (pc := 1) G dX8_wasBefore_1 rfl (nlx hn rfl) rfl ?_
  refine am_le (ls' := [(18, _), (0, _), (0, _)]) ⟨Or.inr rfl, ⟨Or.inr rfl, ⟨Or.inr rfl, trivial⟩⟩⟩ ?_
  exact swp_X8_wasBefore_2 G Z hn hr _ _ _ h
-- X8_findFirst TreeHands$Walker.findFirst(LTreeHands$Tree;Z)Z
def rm_X8_findFirst : Room := { frames := 3, cells := 0, slots := 0, locals := 72 }
theorem hy_X8_findFirst : yX8_findFirst.cls ≠ "java/lang/invoke/MethodHandle" ∧ yX8_findFirst.cls ≠ "java/lang/invoke/VarHandle" ∧ (parseMethodDescriptor yX8_findFirst.desc).map (fun d => d.parameters.length) = some 2 := by decide +kernel
abbrev R_X8_findFirst (V : VV) (x1 x2 : Int) (M : Mem) (Q : Int → Mem → Prop) : Prop := RunsM V yX8_findFirst (.code yX8_findFirst cX8_findFirst 5 (Option.some Jvm.ClassFile.FieldType.boolean)) rm_X8_findFirst 1 [(18, 123), (17, x1), (0, x2)] M Q
def wp_X8_findFirst_76_b (V : VV) (x1 x3 x4 : Int) (M : Mem) (Q : Int → Mem → Prop) (B65 : Int → Mem → Prop) (B76 : Int → Mem → Prop) : Prop :=
  (M 28 0 ≤ x4 →
    B65 (w32 (x3 + 1)) M) ∧ (¬ (M 28 0 ≤ x4) →
    ((0 : Int) ≤ x3 ∧ x3 < (16 : Int)) ∧
    R_X6_suits V x4 x1 (M 124 x3) M (fun r1 M2 =>
    (r1 = 0 →
      B76 (w32 (x4 + 1)) M2) ∧ (¬ (r1 = 0) →
      ((0 : Int) ≤ x3 ∧ x3 < (16 : Int)) ∧
      ∀ M3 : Mem, M3 = mset M2 123 5 (M2 124 x3) →
      Q 1 (mset M3 123 6 x4))))
theorem swp_X8_findFirst_76_b {X : XX} {Q : Int → Mem → Prop} (G : GX X cX8_findFirst "TreeHands$Walker") (Z : RX X 1 Q) (hn : nLX X = 5) (hr : roomX X = rm_X8_findFirst) (x1 x3 x4 : Int) (M : Mem) (B65 : Int → Mem → Prop) (k65 : ∀ (z3 : Int) (N : Mem), B65 z3 N → AW X 65 [(18, 123), (17, x1), (99, 0), (0, z3), (99, 0)] [] N) (B76 : Int → Mem → Prop) (k76 : ∀ (z4 : Int) (N : Mem), B76 z4 N → AW X 76 [(18, 123), (17, x1), (99, 0), (0, x3), (0, z4)] [] N) (h : wp_X8_findFirst_76_b (vX X) x1 x3 x4 M Q B65 B76) : AW X 76 [(18, 123), (17, x1), (99, 0), (0, x3), (0, x4)] [] M := by
  unfold wp_X8_findFirst_76_b at h
  refine am_iload (pc := 76) G dX8_findFirst_76 rfl ?_
  refine am_aload_n (i := 0) (t := 15) (pc := 78) G dX8_findFirst_78 rfl rfl rfl ?_
  refine gf_X8_1 (pc := 79) G dX8_findFirst_79 tw_f_RX8_21 ?_
  refine gf_X6_0 (pc := 82) G dX8_findFirst_82 tw_f_RX8_74 ?_
  refine am_icmp_ge (pc := 85) G 131 dX8_findFirst_85 (by decide) (fun c => ?_) (fun c => ?_)
  · have h := h.1 c
    refine am_iinc (pc := 131) G dX8_findFirst_131 rfl (nlx hn rfl) rfl ?_
    refine am_goto (pc := 134) (ls := [(18, _), (17, _), (99, _), (0, _), (0, _)]) G 65 dX8_findFirst_134 (by decide) ?_
    refine am_le (ls' := [(18, _), (17, _), (99, 0), (0, _), (99, 0)]) ⟨Or.inr rfl, ⟨Or.inr rfl, ⟨Or.inl rfl, ⟨Or.inr rfl, ⟨Or.inl rfl, trivial⟩⟩⟩⟩⟩ ?_
    exact k65 _ _ h
  · have h := h.2 c
    refine am_aload_n (i := 0) (t := 15) (pc := 88) G dX8_findFirst_88 rfl rfl rfl ?_
    refine gf_X8_1 (pc := 89) G dX8_findFirst_89 tw_f_RX8_21 ?_
    refine am_iload (pc := 92) G dX8_findFirst_92 rfl ?_
    refine am_aload_n (i := 1) (t := 14) (pc := 94) G dX8_findFirst_94 rfl rfl rfl ?_
    refine am_aload_n (i := 0) (t := 15) (pc := 95) G dX8_findFirst_95 rfl rfl rfl ?_
    refine gf_X8_2 (pc := 96) G dX8_findFirst_96 tw_f_RX8_9 ?_
    refine am_iload_n (i := 3) (pc := 99) G dX8_findFirst_99 rfl rfl ?_
    refine am_iald (pc := 100) G 16 dX8_findFirst_100 (by decide) h.1 ?_
    have h := h.2
    refine am_callV (rk := 1) (rmc := rm_X6_suits) (st := []) (pc := 101) G 6 [(0, _), (17, _), (0, _)] rfl (by decide) rfl dX8_findFirst_101 tw_m_RX8_75 tw_i_X6_suits tw_v_X6_suits tw_z_RX6 tw_c_X6_suits hy_X6_suits (callrm hr rfl) rfl (RunsM.mono h (fun r1 M2 h => ?_)) Z.rm
    show AW X 104 _ [(0, _)] M2
    refine am_if_eq (pc := 104) G 125 dX8_findFirst_104 (by decide) (fun c => ?_) (fun c => ?_)
    · have h := h.1 c
      refine am_iinc (pc := 125) G dX8_findFirst_125 rfl (nlx hn rfl) rfl ?_
      refine am_goto (pc := 128) (ls := [(18, _), (17, _), (99, _), (0, _), (0, _)]) G 76 dX8_findFirst_128 (by decide) ?_
      refine am_le (ls' := [(18, _), (17, _), (99, 0), (0, _), (0, _)]) ⟨Or.inr rfl, ⟨Or.inr rfl, ⟨Or.inl rfl, ⟨Or.inr rfl, ⟨Or.inr rfl, trivial⟩⟩⟩⟩⟩ ?_
      exact k76 _ _ h
    · have h := h.2 c
      refine am_aload_n (i := 0) (t := 15) (pc := 107) G dX8_findFirst_107 rfl rfl rfl ?_
      refine am_aload_n (i := 0) (t := 15) (pc := 108) G dX8_findFirst_108 rfl rfl rfl ?_
      refine gf_X8_2 (pc := 109) G dX8_findFirst_109 tw_f_RX8_9 ?_
      refine am_iload_n (i := 3) (pc := 112) G dX8_findFirst_112 rfl rfl ?_
      refine am_iald (pc := 113) G 16 dX8_findFirst_113 (by decide) h.1 ?_
      have h := h.2
      refine pf_X8_5 (pc := 114) G dX8_findFirst_114 tw_f_RX8_44 ?_
      refine am_aload_n (i := 0) (t := 15) (pc := 117) G dX8_findFirst_117 rfl rfl rfl ?_
      refine am_iload (pc := 118) G dX8_findFirst_118 rfl ?_
      have h := h _ rfl
      refine pf_X8_6 (pc := 120) G dX8_findFirst_120 tw_f_RX8_41 ?_
      refine am_iconst (pc := 123) G dX8_findFirst_123 (by decide) ?_
      exact am_zret (pc := 124) G Z dX8_findFirst_124 ⟨by decide, h⟩
def wp_X8_findFirst_76 (V : VV) (x1 x3 x4 : Int) (M : Mem) (Q : Int → Mem → Prop) (B65 : Int → Mem → Prop) : Prop :=
  ∃ (I : Int → Mem → Prop) (μ : Int → Mem → Nat), I x4 M ∧ ∀ (y4 : Int) (N : Mem), I y4 N → wp_X8_findFirst_76_b V x1 x3 y4 N Q B65 (fun z4 N1 => I z4 N1 ∧ μ z4 N1 < μ y4 N)
theorem swp_X8_findFirst_76 {X : XX} {Q : Int → Mem → Prop} (G : GX X cX8_findFirst "TreeHands$Walker") (Z : RX X 1 Q) (hn : nLX X = 5) (hr : roomX X = rm_X8_findFirst) (x1 x3 x4 : Int) (M : Mem) (B65 : Int → Mem → Prop) (k65 : ∀ (z3 : Int) (N : Mem), B65 z3 N → AW X 65 [(18, 123), (17, x1), (99, 0), (0, z3), (99, 0)] [] N) (h : wp_X8_findFirst_76 (vX X) x1 x3 x4 M Q B65) : AW X 76 [(18, 123), (17, x1), (99, 0), (0, x3), (0, x4)] [] M := by
  unfold wp_X8_findFirst_76 at h
  obtain ⟨I, μ, hI, hs⟩ := h
  have key : ∀ (n : Nat) (y4 : Int) (N : Mem), μ y4 N < n → I y4 N → AW X 76 [(18, 123), (17, x1), (99, 0), (0, x3), (0, y4)] [] N := by
    intro n
    induction n with
    | zero => intro y4 N hlt; exact absurd hlt (Nat.not_lt_zero _)
    | succ n ih =>
      intro y4 N hlt hI
      exact swp_X8_findFirst_76_b G Z hn hr x1 x3 y4 N B65 k65 (fun z4 N1 => I z4 N1 ∧ μ z4 N1 < μ y4 N) (fun z4 N1 hz => ih z4 N1 (by omega) hz.1) (hs y4 N hI)
  exact key _ x4 M (Nat.lt_succ_self _) hI
def wp_X8_findFirst_65_b (V : VV) (x1 x3 : Int) (M : Mem) (Q : Int → Mem → Prop) (B65 : Int → Mem → Prop) : Prop :=
  (M x1 0 ≤ x3 →
    Q 0 M) ∧ (¬ (M x1 0 ≤ x3) →
    wp_X8_findFirst_76 V x1 x3 0 M Q B65)
theorem swp_X8_findFirst_65_b {X : XX} {Q : Int → Mem → Prop} (G : GX X cX8_findFirst "TreeHands$Walker") (Z : RX X 1 Q) (hn : nLX X = 5) (hr : roomX X = rm_X8_findFirst) (x1 x3 : Int) (M : Mem) (B65 : Int → Mem → Prop) (k65 : ∀ (z3 : Int) (N : Mem), B65 z3 N → AW X 65 [(18, 123), (17, x1), (99, 0), (0, z3), (99, 0)] [] N) (h : wp_X8_findFirst_65_b (vX X) x1 x3 M Q B65) : AW X 65 [(18, 123), (17, x1), (99, 0), (0, x3), (99, 0)] [] M := by
  unfold wp_X8_findFirst_65_b at h
  refine am_iload_n (i := 3) (pc := 65) G dX8_findFirst_65 rfl rfl ?_
  refine am_aload_n (i := 1) (t := 14) (pc := 66) G dX8_findFirst_66 rfl rfl rfl ?_
  refine gf_X7_0 (pc := 67) G dX8_findFirst_67 tw_f_RX8_53 ?_
  refine am_icmp_ge (pc := 70) G 137 dX8_findFirst_70 (by decide) (fun c => ?_) (fun c => ?_)
  · have h := h.1 c
    refine am_iconst (pc := 137) G dX8_findFirst_137 (by decide) ?_
    exact am_zret (pc := 138) G Z dX8_findFirst_138 ⟨by decide, h⟩
  · have h := h.2 c
    refine am_iconst (pc := 73) G dX8_findFirst_73 (by decide) ?_
    refine am_istore (pc := 74) G dX8_findFirst_74 (nlx hn rfl) rfl ?_
    refine am_le (ls' := [(18, _), (17, _), (99, 0), (0, _), (0, _)]) ⟨Or.inr rfl, ⟨Or.inr rfl, ⟨Or.inl rfl, ⟨Or.inr rfl, ⟨Or.inr rfl, trivial⟩⟩⟩⟩⟩ ?_
    exact swp_X8_findFirst_76 G Z hn hr _ _ _ _ B65 k65 h
def wp_X8_findFirst_65 (V : VV) (x1 x3 : Int) (M : Mem) (Q : Int → Mem → Prop) : Prop :=
  ∃ (I : Int → Mem → Prop) (μ : Int → Mem → Nat), I x3 M ∧ ∀ (y3 : Int) (N : Mem), I y3 N → wp_X8_findFirst_65_b V x1 y3 N Q (fun z3 N1 => I z3 N1 ∧ μ z3 N1 < μ y3 N)
theorem swp_X8_findFirst_65 {X : XX} {Q : Int → Mem → Prop} (G : GX X cX8_findFirst "TreeHands$Walker") (Z : RX X 1 Q) (hn : nLX X = 5) (hr : roomX X = rm_X8_findFirst) (x1 x3 : Int) (M : Mem) (h : wp_X8_findFirst_65 (vX X) x1 x3 M Q) : AW X 65 [(18, 123), (17, x1), (99, 0), (0, x3), (99, 0)] [] M := by
  unfold wp_X8_findFirst_65 at h
  obtain ⟨I, μ, hI, hs⟩ := h
  have key : ∀ (n : Nat) (y3 : Int) (N : Mem), μ y3 N < n → I y3 N → AW X 65 [(18, 123), (17, x1), (99, 0), (0, y3), (99, 0)] [] N := by
    intro n
    induction n with
    | zero => intro y3 N hlt; exact absurd hlt (Nat.not_lt_zero _)
    | succ n ih =>
      intro y3 N hlt hI
      exact swp_X8_findFirst_65_b G Z hn hr x1 y3 N (fun z3 N1 => I z3 N1 ∧ μ z3 N1 < μ y3 N) (fun z3 N1 hz => ih z3 N1 (by omega) hz.1) (hs y3 N hI)
  exact key _ x3 M (Nat.lt_succ_self _) hI
def wp_X8_findFirst_35 (V : VV) (x1 x2 x3 s0 : Int) (M : Mem) (Q : Int → Mem → Prop) (B2 : Int → Mem → Prop) : Prop :=
  (s0 < 0 →
    B2 (w32 (x3 + 1)) M) ∧ (¬ (s0 < 0) →
    (16 ≤ s0 →
      B2 (w32 (x3 + 1)) M) ∧ (¬ (16 ≤ s0) →
      ((0 : Int) ≤ s0 ∧ s0 < (16 : Int)) ∧
      B2 (w32 (x3 + 1)) (mset M 124 s0 x3)))
theorem swp_X8_findFirst_35 {X : XX} {Q : Int → Mem → Prop} (G : GX X cX8_findFirst "TreeHands$Walker") (Z : RX X 1 Q) (hn : nLX X = 5) (hr : roomX X = rm_X8_findFirst) (x1 x2 x3 s0 : Int) (M : Mem) (B2 : Int → Mem → Prop) (k2 : ∀ (z3 : Int) (N : Mem), B2 z3 N → AW X 2 [(18, 123), (17, x1), (0, x2), (0, z3), (99, 0)] [] N) (h : wp_X8_findFirst_35 (vX X) x1 x2 x3 s0 M Q B2) : AW X 35 [(18, 123), (17, x1), (0, x2), (0, x3), (99, 0)] [(0, s0)] M := by
  unfold wp_X8_findFirst_35 at h
  refine am_istore (pc := 35) G dX8_findFirst_35 (nlx hn rfl) rfl ?_
  refine am_iload (pc := 37) (ls := [(18, _), (17, _), (0, _), (0, _), (0, _)]) G dX8_findFirst_37 rfl ?_
  refine am_if_lt (pc := 39) G 57 dX8_findFirst_39 (by decide) (fun c => ?_) (fun c => ?_)
  · have h := h.1 c
    refine am_iinc (pc := 57) G dX8_findFirst_57 rfl (nlx hn rfl) rfl ?_
    refine am_goto (pc := 60) (ls := [(18, _), (17, _), (0, _), (0, _), (0, _)]) G 2 dX8_findFirst_60 (by decide) ?_
    refine am_le (ls' := [(18, _), (17, _), (0, _), (0, _), (99, 0)]) ⟨Or.inr rfl, ⟨Or.inr rfl, ⟨Or.inr rfl, ⟨Or.inr rfl, ⟨Or.inl rfl, trivial⟩⟩⟩⟩⟩ ?_
    exact k2 _ _ h
  · have h := h.2 c
    refine am_iload (pc := 42) G dX8_findFirst_42 rfl ?_
    refine am_bipush (pc := 44) G dX8_findFirst_44 (by decide) (by decide) ?_
    refine am_icmp_ge (pc := 46) G 57 dX8_findFirst_46 (by decide) (fun c => ?_) (fun c => ?_)
    · have h := h.1 c
      refine am_iinc (pc := 57) G dX8_findFirst_57 rfl (nlx hn rfl) rfl ?_
      refine am_goto (pc := 60) (ls := [(18, _), (17, _), (0, _), (0, _), (0, _)]) G 2 dX8_findFirst_60 (by decide) ?_
      refine am_le (ls' := [(18, _), (17, _), (0, _), (0, _), (99, 0)]) ⟨Or.inr rfl, ⟨Or.inr rfl, ⟨Or.inr rfl, ⟨Or.inr rfl, ⟨Or.inl rfl, trivial⟩⟩⟩⟩⟩ ?_
      exact k2 _ _ h
    · have h := h.2 c
      refine am_aload_n (i := 0) (t := 15) (pc := 49) G dX8_findFirst_49 rfl rfl rfl ?_
      refine gf_X8_2 (pc := 50) G dX8_findFirst_50 tw_f_RX8_9 ?_
      refine am_iload (pc := 53) G dX8_findFirst_53 rfl ?_
      refine am_iload_n (i := 3) (pc := 55) G dX8_findFirst_55 rfl rfl ?_
      refine am_iast (pc := 56) G 16 dX8_findFirst_56 (by decide) h.1 ?_
      have h := h.2
      refine am_iinc (pc := 57) G dX8_findFirst_57 rfl (nlx hn rfl) rfl ?_
      refine am_goto (pc := 60) (ls := [(18, _), (17, _), (0, _), (0, _), (0, _)]) G 2 dX8_findFirst_60 (by decide) ?_
      refine am_le (ls' := [(18, _), (17, _), (0, _), (0, _), (99, 0)]) ⟨Or.inr rfl, ⟨Or.inr rfl, ⟨Or.inr rfl, ⟨Or.inr rfl, ⟨Or.inl rfl, trivial⟩⟩⟩⟩⟩ ?_
      exact k2 _ _ h
def wp_X8_findFirst_2_b (V : VV) (x1 x2 x3 : Int) (M : Mem) (Q : Int → Mem → Prop) (B2 : Int → Mem → Prop) : Prop :=
  (M x1 0 ≤ x3 →
    wp_X8_findFirst_65 V x1 0 M Q) ∧ (¬ (M x1 0 ≤ x3) →
    (x2 = 0 →
      wp_X8_findFirst_35 V x1 x2 x3 x3 M Q B2) ∧ (¬ (x2 = 0) →
      ((0 : Int) ≤ x3 ∧ x3 < (16 : Int)) ∧
      ((0 : Int) ≤ x3 ∧ x3 < (16 : Int)) ∧
      wp_X8_findFirst_35 V x1 x2 x3 (w32 (w32 (w32 (x3 - M (x1 + 6) x3) + M (x1 + 3) x3) - 1)) M Q B2))
theorem swp_X8_findFirst_2_b {X : XX} {Q : Int → Mem → Prop} (G : GX X cX8_findFirst "TreeHands$Walker") (Z : RX X 1 Q) (hn : nLX X = 5) (hr : roomX X = rm_X8_findFirst) (x1 x2 x3 : Int) (M : Mem) (B2 : Int → Mem → Prop) (k2 : ∀ (z3 : Int) (N : Mem), B2 z3 N → AW X 2 [(18, 123), (17, x1), (0, x2), (0, z3), (99, 0)] [] N) (h : wp_X8_findFirst_2_b (vX X) x1 x2 x3 M Q B2) : AW X 2 [(18, 123), (17, x1), (0, x2), (0, x3), (99, 0)] [] M := by
  unfold wp_X8_findFirst_2_b at h
  refine am_iload_n (i := 3) (pc := 2) G dX8_findFirst_2 rfl rfl ?_
  refine am_aload_n (i := 1) (t := 14) (pc := 3) G dX8_findFirst_3 rfl rfl rfl ?_
  refine gf_X7_0 (pc := 4) G dX8_findFirst_4 tw_f_RX8_53 ?_
  refine am_icmp_ge (pc := 7) G 63 dX8_findFirst_7 (by decide) (fun c => ?_) (fun c => ?_)
  · have h := h.1 c
    refine am_iconst (pc := 63) G dX8_findFirst_63 (by decide) ?_
    refine am_istore_n (pc := 64) G dX8_findFirst_64 rfl (nlx hn rfl) rfl ?_
    refine am_le (ls' := [(18, _), (17, _), (99, 0), (0, _), (99, 0)]) ⟨Or.inr rfl, ⟨Or.inr rfl, ⟨Or.inl rfl, ⟨Or.inr rfl, ⟨Or.inl rfl, trivial⟩⟩⟩⟩⟩ ?_
    exact swp_X8_findFirst_65 G Z hn hr _ _ _ h
  · have h := h.2 c
    refine am_iload_n (i := 2) (pc := 10) G dX8_findFirst_10 rfl rfl ?_
    refine am_if_eq (pc := 11) G 34 dX8_findFirst_11 (by decide) (fun c => ?_) (fun c => ?_)
    · have h := h.1 c
      refine am_iload_n (i := 3) (pc := 34) G dX8_findFirst_34 rfl rfl ?_
      refine am_le (ls' := [(18, _), (17, _), (0, _), (0, _), (99, 0)]) ⟨Or.inr rfl, ⟨Or.inr rfl, ⟨Or.inr rfl, ⟨Or.inr rfl, ⟨Or.inl rfl, trivial⟩⟩⟩⟩⟩ ?_
      exact swp_X8_findFirst_35 G Z hn hr _ _ _ _ _ B2 k2 h
    · have h := h.2 c
      refine am_iload_n (i := 3) (pc := 14) G dX8_findFirst_14 rfl rfl ?_
      refine am_aload_n (i := 1) (t := 14) (pc := 15) G dX8_findFirst_15 rfl rfl rfl ?_
      refine gf_X7_6 (pc := 16) G dX8_findFirst_16 tw_f_RX8_68 ?_
      refine am_iload_n (i := 3) (pc := 19) G dX8_findFirst_19 rfl rfl ?_
      refine am_iald (pc := 20) G 16 dX8_findFirst_20 (by decide) h.1 ?_
      have h := h.2
      refine am_isub (pc := 21) G dX8_findFirst_21 ?_
      refine am_aload_n (i := 1) (t := 14) (pc := 22) G dX8_findFirst_22 rfl rfl rfl ?_
      refine gf_X7_3 (pc := 23) G dX8_findFirst_23 tw_f_RX8_71 ?_
      refine am_iload_n (i := 3) (pc := 26) G dX8_findFirst_26 rfl rfl ?_
      refine am_iald (pc := 27) G 16 dX8_findFirst_27 (by decide) h.1 ?_
      have h := h.2
      refine am_iadd (pc := 28) G dX8_findFirst_28 ?_
      refine am_iconst (pc := 29) G dX8_findFirst_29 (by decide) ?_
      refine am_isub (pc := 30) G dX8_findFirst_30 ?_
      refine am_goto (pc := 31) G 35 dX8_findFirst_31 (by decide) ?_
      refine am_le (ls' := [(18, _), (17, _), (0, _), (0, _), (99, 0)]) ⟨Or.inr rfl, ⟨Or.inr rfl, ⟨Or.inr rfl, ⟨Or.inr rfl, ⟨Or.inl rfl, trivial⟩⟩⟩⟩⟩ ?_
      exact swp_X8_findFirst_35 G Z hn hr _ _ _ _ _ B2 k2 h
def wp_X8_findFirst_2 (V : VV) (x1 x2 x3 : Int) (M : Mem) (Q : Int → Mem → Prop) : Prop :=
  ∃ (I : Int → Mem → Prop) (μ : Int → Mem → Nat), I x3 M ∧ ∀ (y3 : Int) (N : Mem), I y3 N → wp_X8_findFirst_2_b V x1 x2 y3 N Q (fun z3 N1 => I z3 N1 ∧ μ z3 N1 < μ y3 N)
theorem swp_X8_findFirst_2 {X : XX} {Q : Int → Mem → Prop} (G : GX X cX8_findFirst "TreeHands$Walker") (Z : RX X 1 Q) (hn : nLX X = 5) (hr : roomX X = rm_X8_findFirst) (x1 x2 x3 : Int) (M : Mem) (h : wp_X8_findFirst_2 (vX X) x1 x2 x3 M Q) : AW X 2 [(18, 123), (17, x1), (0, x2), (0, x3), (99, 0)] [] M := by
  unfold wp_X8_findFirst_2 at h
  obtain ⟨I, μ, hI, hs⟩ := h
  have key : ∀ (n : Nat) (y3 : Int) (N : Mem), μ y3 N < n → I y3 N → AW X 2 [(18, 123), (17, x1), (0, x2), (0, y3), (99, 0)] [] N := by
    intro n
    induction n with
    | zero => intro y3 N hlt; exact absurd hlt (Nat.not_lt_zero _)
    | succ n ih =>
      intro y3 N hlt hI
      exact swp_X8_findFirst_2_b G Z hn hr x1 x2 y3 N (fun z3 N1 => I z3 N1 ∧ μ z3 N1 < μ y3 N) (fun z3 N1 hz => ih z3 N1 (by omega) hz.1) (hs y3 N hI)
  exact key _ x3 M (Nat.lt_succ_self _) hI
def wp_X8_findFirst (V : VV) (x1 x2 : Int) (M : Mem) (Q : Int → Mem → Prop) : Prop :=
  wp_X8_findFirst_2 V x1 x2 0 M Q
theorem of_X8_findFirst {V : VV} {x1 x2 : Int} {M : Mem} {Q : Int → Mem → Prop} (h : wp_X8_findFirst V x1 x2 M Q) : R_X8_findFirst V x1 x2 M Q := by
  refine met_in (own := "TreeHands$Walker") (by decide +kernel) rfl rfl (Nat.le_of_ble_eq_true rfl) ?_
  intro X G Z hn hr hv
  subst hv
  unfold wp_X8_findFirst at h
  show AW X 0 [(18, 123), (17, x1), (0, x2), (99, 0), (99, 0)] [] M
  refine am_iconst (pc := 0) G dX8_findFirst_0 (by decide) ?_
  refine am_istore_n (pc := 1) G dX8_findFirst_1 rfl (nlx hn rfl) rfl ?_
  refine am_le (ls' := [(18, _), (17, _), (0, _), (0, _), (99, 0)]) ⟨Or.inr rfl, ⟨Or.inr rfl, ⟨Or.inr rfl, ⟨Or.inr rfl, ⟨Or.inl rfl, trivial⟩⟩⟩⟩⟩ ?_
  exact swp_X8_findFirst_2 G Z hn hr _ _ _ _ h
-- X8_run TreeHands$Walker.run(LTreeHands$Tree;Z)I
def rm_X8_run : Room := { frames := 4, cells := 0, slots := 0, locals := 98 }
theorem hy_X8_run : yX8_run.cls ≠ "java/lang/invoke/MethodHandle" ∧ yX8_run.cls ≠ "java/lang/invoke/VarHandle" ∧ (parseMethodDescriptor yX8_run.desc).map (fun d => d.parameters.length) = some 2 := by decide +kernel
abbrev R_X8_run (V : VV) (x1 x2 : Int) (M : Mem) (Q : Int → Mem → Prop) : Prop := RunsM V yX8_run (.code yX8_run cX8_run 4 (Option.some Jvm.ClassFile.FieldType.int)) rm_X8_run 0 [(18, 123), (17, x1), (0, x2)] M Q
def wp_X8_run_2_b (V : VV) (x1 x2 x3 : Int) (M : Mem) (Q : Int → Mem → Prop) (B2 : Int → Mem → Prop) : Prop :=
  (100 < x3 →
    Q 3 M) ∧ (¬ (100 < x3) →
    ∀ M1 : Mem, M1 = mset M 123 0 x3 →
    R_X8_remember V x1 x3 M1 (fun _ M3 =>
    R_X8_wasBefore V x3 M3 (fun r4 M5 =>
    (r4 = 0 →
      R_X8_findFirst V x1 x2 M5 (fun r6 M7 =>
      (r6 = 0 →
        Q 0 M7) ∧ (¬ (r6 = 0) →
        (x3 = 100 →
          Q 3 M7) ∧ (¬ (x3 = 100) →
          R_X6_rewrite V (M7 123 6) x1 (M7 123 5) M7 (fun r8 M9 =>
          (r8 ≤ 16 →
            B2 (w32 (x3 + 1)) M9) ∧ (¬ (r8 ≤ 16) →
            Q 2 M9)))))) ∧ (¬ (r4 = 0) →
      Q 1 M5))))
theorem swp_X8_run_2_b {X : XX} {Q : Int → Mem → Prop} (G : GX X cX8_run "TreeHands$Walker") (Z : RX X 0 Q) (hn : nLX X = 4) (hr : roomX X = rm_X8_run) (x1 x2 x3 : Int) (M : Mem) (B2 : Int → Mem → Prop) (k2 : ∀ (z3 : Int) (N : Mem), B2 z3 N → AW X 2 [(18, 123), (17, x1), (0, x2), (0, z3)] [] N) (h : wp_X8_run_2_b (vX X) x1 x2 x3 M Q B2) : AW X 2 [(18, 123), (17, x1), (0, x2), (0, x3)] [] M := by
  unfold wp_X8_run_2_b at h
  refine am_iload_n (i := 3) (pc := 2) G dX8_run_2 rfl rfl ?_
  refine am_bipush (pc := 3) G dX8_run_3 (by decide) (by decide) ?_
  refine am_icmp_gt (pc := 5) G 77 dX8_run_5 (by decide) (fun c => ?_) (fun c => ?_)
  · have h := h.1 c
    refine am_iconst (pc := 77) G dX8_run_77 (by decide) ?_
    exact am_iret (pc := 78) G Z dX8_run_78 h
  · have h := h.2 c
    refine am_aload_n (i := 0) (t := 15) (pc := 8) G dX8_run_8 rfl rfl rfl ?_
    refine am_iload_n (i := 3) (pc := 9) G dX8_run_9 rfl rfl ?_
    refine pf_X8_0 (pc := 10) G dX8_run_10 tw_f_RX8_25 ?_
    refine am_aload_n (i := 0) (t := 15) (pc := 13) G dX8_run_13 rfl rfl rfl ?_
    refine am_aload_n (i := 1) (t := 14) (pc := 14) G dX8_run_14 rfl rfl rfl ?_
    refine am_iload_n (i := 3) (pc := 15) G dX8_run_15 rfl rfl ?_
    have h := h _ rfl
    refine am_callV (rk := 4) (rmc := rm_X8_remember) (st := []) (pc := 16) G 8 [(17, _), (0, _)] rfl (by decide) rfl dX8_run_16 tw_m_RX8_29 tw_i_X8_remember tw_v_X8_remember tw_z_RX8 tw_c_X8_remember hy_X8_remember (callrm hr rfl) rfl (RunsM.mono h (fun r2 M3 h => ?_)) Z.rm
    show AW X 19 _ [] M3
    refine am_aload_n (i := 0) (t := 15) (pc := 19) G dX8_run_19 rfl rfl rfl ?_
    refine am_iload_n (i := 3) (pc := 20) G dX8_run_20 rfl rfl ?_
    refine am_callV (rk := 1) (rmc := rm_X8_wasBefore) (st := []) (pc := 21) G 8 [(0, _)] rfl (by decide) rfl dX8_run_21 tw_m_RX8_33 tw_i_X8_wasBefore tw_v_X8_wasBefore tw_z_RX8 tw_c_X8_wasBefore hy_X8_wasBefore (callrm hr rfl) rfl (RunsM.mono h (fun r4 M5 h => ?_)) Z.rm
    show AW X 24 _ [(0, _)] M5
    refine am_if_eq (pc := 24) G 29 dX8_run_24 (by decide) (fun c => ?_) (fun c => ?_)
    · have h := h.1 c
      refine am_aload_n (i := 0) (t := 15) (pc := 29) G dX8_run_29 rfl rfl rfl ?_
      refine am_aload_n (i := 1) (t := 14) (pc := 30) G dX8_run_30 rfl rfl rfl ?_
      refine am_iload_n (i := 2) (pc := 31) G dX8_run_31 rfl rfl ?_
      refine am_callV (rk := 1) (rmc := rm_X8_findFirst) (st := []) (pc := 32) G 8 [(17, _), (0, _)] rfl (by decide) rfl dX8_run_32 tw_m_RX8_37 tw_i_X8_findFirst tw_v_X8_findFirst tw_z_RX8 tw_c_X8_findFirst hy_X8_findFirst (callrm hr rfl) rfl (RunsM.mono h (fun r6 M7 h => ?_)) Z.rm
      show AW X 35 _ [(0, _)] M7
      refine am_if_ne (pc := 35) G 40 dX8_run_35 (by decide) (fun c => ?_) (fun c => ?_)
      · have h := h.2 c
        refine am_iload_n (i := 3) (pc := 40) G dX8_run_40 rfl rfl ?_
        refine am_bipush (pc := 41) G dX8_run_41 (by decide) (by decide) ?_
        refine am_icmp_ne (pc := 43) G 48 dX8_run_43 (by decide) (fun c => ?_) (fun c => ?_)
        · have h := h.2 c
          refine am_aload_n (i := 0) (t := 15) (pc := 48) G dX8_run_48 rfl rfl rfl ?_
          refine gf_X8_1 (pc := 49) G dX8_run_49 tw_f_RX8_21 ?_
          refine am_aload_n (i := 0) (t := 15) (pc := 52) G dX8_run_52 rfl rfl rfl ?_
          refine gf_X8_6 (pc := 53) G dX8_run_53 tw_f_RX8_41 ?_
          refine am_aload_n (i := 1) (t := 14) (pc := 56) G dX8_run_56 rfl rfl rfl ?_
          refine am_aload_n (i := 0) (t := 15) (pc := 57) G dX8_run_57 rfl rfl rfl ?_
          refine gf_X8_5 (pc := 58) G dX8_run_58 tw_f_RX8_44 ?_
          refine am_callV (rk := 0) (rmc := rm_X6_rewrite) (st := []) (pc := 61) G 6 [(0, _), (17, _), (0, _)] rfl (by decide) rfl dX8_run_61 tw_m_RX8_47 tw_i_X6_rewrite tw_v_X6_rewrite tw_z_RX6 tw_c_X6_rewrite hy_X6_rewrite (callrm hr rfl) rfl (RunsM.mono h (fun r8 M9 h => ?_)) Z.rm
          show AW X 64 _ [(0, _)] M9
          refine am_bipush (pc := 64) G dX8_run_64 (by decide) (by decide) ?_
          refine am_icmp_le (pc := 66) G 71 dX8_run_66 (by decide) (fun c => ?_) (fun c => ?_)
          · have h := h.1 c
            refine am_iinc (pc := 71) G dX8_run_71 rfl (nlx hn rfl) rfl ?_
            refine am_goto (pc := 74) (ls := [(18, _), (17, _), (0, _), (0, _)]) G 2 dX8_run_74 (by decide) ?_
            refine am_le (ls' := [(18, _), (17, _), (0, _), (0, _)]) ⟨Or.inr rfl, ⟨Or.inr rfl, ⟨Or.inr rfl, ⟨Or.inr rfl, trivial⟩⟩⟩⟩ ?_
            exact k2 _ _ h
          · have h := h.2 c
            refine am_iconst (pc := 69) G dX8_run_69 (by decide) ?_
            exact am_iret (pc := 70) G Z dX8_run_70 h
        · have h := h.1 c
          refine am_iconst (pc := 46) G dX8_run_46 (by decide) ?_
          exact am_iret (pc := 47) G Z dX8_run_47 h
      · have h := h.1 c
        refine am_iconst (pc := 38) G dX8_run_38 (by decide) ?_
        exact am_iret (pc := 39) G Z dX8_run_39 h
    · have h := h.2 c
      refine am_iconst (pc := 27) G dX8_run_27 (by decide) ?_
      exact am_iret (pc := 28) G Z dX8_run_28 h
def wp_X8_run_2 (V : VV) (x1 x2 x3 : Int) (M : Mem) (Q : Int → Mem → Prop) : Prop :=
  ∃ (I : Int → Mem → Prop) (μ : Int → Mem → Nat), I x3 M ∧ ∀ (y3 : Int) (N : Mem), I y3 N → wp_X8_run_2_b V x1 x2 y3 N Q (fun z3 N1 => I z3 N1 ∧ μ z3 N1 < μ y3 N)
theorem swp_X8_run_2 {X : XX} {Q : Int → Mem → Prop} (G : GX X cX8_run "TreeHands$Walker") (Z : RX X 0 Q) (hn : nLX X = 4) (hr : roomX X = rm_X8_run) (x1 x2 x3 : Int) (M : Mem) (h : wp_X8_run_2 (vX X) x1 x2 x3 M Q) : AW X 2 [(18, 123), (17, x1), (0, x2), (0, x3)] [] M := by
  unfold wp_X8_run_2 at h
  obtain ⟨I, μ, hI, hs⟩ := h
  have key : ∀ (n : Nat) (y3 : Int) (N : Mem), μ y3 N < n → I y3 N → AW X 2 [(18, 123), (17, x1), (0, x2), (0, y3)] [] N := by
    intro n
    induction n with
    | zero => intro y3 N hlt; exact absurd hlt (Nat.not_lt_zero _)
    | succ n ih =>
      intro y3 N hlt hI
      exact swp_X8_run_2_b G Z hn hr x1 x2 y3 N (fun z3 N1 => I z3 N1 ∧ μ z3 N1 < μ y3 N) (fun z3 N1 hz => ih z3 N1 (by omega) hz.1) (hs y3 N hI)
  exact key _ x3 M (Nat.lt_succ_self _) hI
def wp_X8_run (V : VV) (x1 x2 : Int) (M : Mem) (Q : Int → Mem → Prop) : Prop :=
  wp_X8_run_2 V x1 x2 0 M Q
theorem of_X8_run {V : VV} {x1 x2 : Int} {M : Mem} {Q : Int → Mem → Prop} (h : wp_X8_run V x1 x2 M Q) : R_X8_run V x1 x2 M Q := by
  refine met_in (own := "TreeHands$Walker") (by decide +kernel) rfl rfl (Nat.le_of_ble_eq_true rfl) ?_
  intro X G Z hn hr hv
  subst hv
  unfold wp_X8_run at h
  show AW X 0 [(18, 123), (17, x1), (0, x2), (99, 0)] [] M
  refine am_iconst (pc := 0) G dX8_run_0 (by decide) ?_
  refine am_istore_n (pc := 1) G dX8_run_1 rfl (nlx hn rfl) rfl ?_
  refine am_le (ls' := [(18, _), (17, _), (0, _), (0, _)]) ⟨Or.inr rfl, ⟨Or.inr rfl, ⟨Or.inr rfl, ⟨Or.inr rfl, trivial⟩⟩⟩⟩ ?_
  exact swp_X8_run_2 G Z hn hr _ _ _ _ h
