-- X10_spread TreeHandsModel.spread(III)Z
def rm_X10_spread : Room := { frames := 4, cells := 0, slots := 0, locals := 87 }
theorem hy_X10_spread : yX10_spread.cls ≠ "java/lang/invoke/MethodHandle" ∧ yX10_spread.cls ≠ "java/lang/invoke/VarHandle" ∧ (parseMethodDescriptor yX10_spread.desc).map (fun d => d.parameters.length) = some 3 := by decide +kernel
abbrev R_X10_spread (V : VV) (x1 x2 x3 : Int) (M : Mem) (Q : Int → Mem → Prop) : Prop := RunsM V yX10_spread (.code yX10_spread cX10_spread 10 (Option.some Jvm.ClassFile.FieldType.boolean)) rm_X10_spread 1 [(20, 203), (0, x1), (0, x2), (0, x3)] M Q
def wp_X10_spread_189 (V : VV) (x3 : Int) (M : Mem) (Q : Int → Mem → Prop) : Prop :=
  (M 203 33 ≤ 16 →
    R_X10_copy V 20 0 (M 203 33) x3 M (fun _ M3 =>
    Q 1 M3)) ∧ (¬ (M 203 33 ≤ 16) →
    Q 0 M)
theorem swp_X10_spread_189 {X : XX} {Q : Int → Mem → Prop} (G : GX X cX10_spread "TreeHandsModel") (Z : RX X 1 Q) (hn : nLX X = 10) (hr : roomX X = rm_X10_spread) (x3 : Int) (M : Mem) (h : wp_X10_spread_189 (vX X) x3 M Q) : AW X 189 [(20, 203), (99, 0), (99, 0), (0, x3), (99, 0), (99, 0), (99, 0), (99, 0), (99, 0), (99, 0)] [] M := by
  unfold wp_X10_spread_189 at h
  refine am_aload_n (i := 0) (t := 17) (pc := 189) G dX10_spread_189 rfl rfl rfl ?_
  refine gf_X10_33 (pc := 190) G dX10_spread_190 tw_f_RX10_214 ?_
  refine am_bipush (pc := 193) G dX10_spread_193 (by decide) (by decide) ?_
  refine am_icmp_le (pc := 195) G 200 dX10_spread_195 (by decide) (fun c => ?_) (fun c => ?_)
  · have h := h.1 c
    refine am_aload_n (i := 0) (t := 17) (pc := 200) G dX10_spread_200 rfl rfl rfl ?_
    refine am_bipush (pc := 201) G dX10_spread_201 (by decide) (by decide) ?_
    refine am_iconst (pc := 203) G dX10_spread_203 (by decide) ?_
    refine am_aload_n (i := 0) (t := 17) (pc := 204) G dX10_spread_204 rfl rfl rfl ?_
    refine gf_X10_33 (pc := 205) G dX10_spread_205 tw_f_RX10_214 ?_
    refine am_iload_n (i := 3) (pc := 208) G dX10_spread_208 rfl rfl ?_
    refine am_callV (rk := 4) (rmc := rm_X10_copy) (st := []) (pc := 209) G 10 [(0, _), (0, _), (0, _), (0, _)] rfl (by decide) rfl dX10_spread_209 tw_m_RX10_149 tw_i_X10_copy tw_v_X10_copy tw_z_RX10 tw_c_X10_copy hy_X10_copy (callrm hr rfl) rfl (RunsM.mono h (fun r2 M3 h => ?_)) Z.rm
    show AW X 212 _ [] M3
    refine am_iconst (pc := 212) G dX10_spread_212 (by decide) ?_
    exact am_zret (pc := 213) G Z dX10_spread_213 ⟨by decide, h⟩
  · have h := h.2 c
    refine am_iconst (pc := 198) G dX10_spread_198 (by decide) ?_
    exact am_zret (pc := 199) G Z dX10_spread_199 ⟨by decide, h⟩
def wp_X10_spread_138_b (V : VV) (x2 x3 x4 x7 x8 x9 : Int) (M : Mem) (Q : Int → Mem → Prop) (B15 : Int → Mem → Prop) (B138 : Int → Int → Mem → Prop) : Prop :=
  (x7 ≤ x9 →
    B15 (w32 (x4 + x7)) M) ∧ (¬ (x7 ≤ x9) →
    ((0 : Int) ≤ w32 (w32 (w32 (x4 + x7) - 1) - x9) ∧ w32 (w32 (w32 (x4 + x7) - 1) - x9) < (128 : Int)) ∧
    ∀ M16 : Mem, M16 = mset M 233 (w32 (w32 (w32 (x4 + x7) - 1) - x9)) x8 →
    R_X10_sizeAt V x8 M16 (fun r17 M18 =>
    B138 (w32 (x8 + r17)) (w32 (x9 + 1)) M18))
theorem swp_X10_spread_138_b {X : XX} {Q : Int → Mem → Prop} (G : GX X cX10_spread "TreeHandsModel") (Z : RX X 1 Q) (hn : nLX X = 10) (hr : roomX X = rm_X10_spread) (x2 x3 x4 x7 x8 x9 : Int) (M : Mem) (B15 : Int → Mem → Prop) (k15 : ∀ (z4 : Int) (N : Mem), B15 z4 N → AW X 15 [(20, 203), (99, 0), (0, x2), (0, x3), (0, z4), (99, 0), (99, 0), (99, 0), (99, 0), (99, 0)] [] N) (B138 : Int → Int → Mem → Prop) (k138 : ∀ (z8 z9 : Int) (N : Mem), B138 z8 z9 N → AW X 138 [(20, 203), (99, 0), (0, x2), (0, x3), (0, x4), (99, 0), (99, 0), (0, x7), (0, z8), (0, z9)] [] N) (h : wp_X10_spread_138_b (vX X) x2 x3 x4 x7 x8 x9 M Q B15 B138) : AW X 138 [(20, 203), (99, 0), (0, x2), (0, x3), (0, x4), (99, 0), (99, 0), (0, x7), (0, x8), (0, x9)] [] M := by
  unfold wp_X10_spread_138_b at h
  refine am_iload (pc := 138) G dX10_spread_138 rfl ?_
  refine am_iload (pc := 140) G dX10_spread_140 rfl ?_
  refine am_icmp_ge (pc := 142) G 179 dX10_spread_142 (by decide) (fun c => ?_) (fun c => ?_)
  · have h := h.1 c
    refine am_iload (pc := 179) G dX10_spread_179 rfl ?_
    refine am_iload (pc := 181) G dX10_spread_181 rfl ?_
    refine am_iadd (pc := 183) G dX10_spread_183 ?_
    refine am_istore (pc := 184) G dX10_spread_184 (nlx hn rfl) rfl ?_
    refine am_goto (pc := 186) (ls := [(20, _), (99, _), (0, _), (0, _), (0, _), (99, _), (99, _), (0, _), (0, _), (0, _)]) G 15 dX10_spread_186 (by decide) ?_
    refine am_le (ls' := [(20, _), (99, 0), (0, _), (0, _), (0, _), (99, 0), (99, 0), (99, 0), (99, 0), (99, 0)]) ⟨Or.inr rfl, ⟨Or.inl rfl, ⟨Or.inr rfl, ⟨Or.inr rfl, ⟨Or.inr rfl, ⟨Or.inl rfl, ⟨Or.inl rfl, ⟨Or.inl rfl, ⟨Or.inl rfl, ⟨Or.inl rfl, trivial⟩⟩⟩⟩⟩⟩⟩⟩⟩⟩ ?_
    exact k15 _ _ h
  · have h := h.2 c
    refine am_aload_n (i := 0) (t := 17) (pc := 145) G dX10_spread_145 rfl rfl rfl ?_
    refine gf_X10_41 (pc := 146) G dX10_spread_146 tw_f_RX10_97 ?_
    refine am_iload (pc := 149) G dX10_spread_149 rfl ?_
    refine am_iload (pc := 151) G dX10_spread_151 rfl ?_
    refine am_iadd (pc := 153) G dX10_spread_153 ?_
    refine am_iconst (pc := 154) G dX10_spread_154 (by decide) ?_
    refine am_isub (pc := 155) G dX10_spread_155 ?_
    refine am_iload (pc := 156) G dX10_spread_156 rfl ?_
    refine am_isub (pc := 158) G dX10_spread_158 ?_
    refine am_iload (pc := 159) G dX10_spread_159 rfl ?_
    refine am_iast (pc := 161) G 128 dX10_spread_161 (by decide) h.1 ?_
    have h := h.2
    refine am_iload (pc := 162) G dX10_spread_162 rfl ?_
    refine am_aload_n (i := 0) (t := 17) (pc := 164) G dX10_spread_164 rfl rfl rfl ?_
    refine am_iload (pc := 165) G dX10_spread_165 rfl ?_
    have h := h _ rfl
    refine am_callV (rk := 0) (rmc := rm_X10_sizeAt) (st := [(0, _)]) (pc := 167) G 10 [(0, _)] rfl (by decide) rfl dX10_spread_167 tw_m_RX10_268 tw_i_X10_sizeAt tw_v_X10_sizeAt tw_z_RX10 tw_c_X10_sizeAt hy_X10_sizeAt (callrm hr rfl) rfl (RunsM.mono h (fun r17 M18 h => ?_)) Z.rm
    show AW X 170 _ [(0, _), (0, _)] M18
    refine am_iadd (pc := 170) G dX10_spread_170 ?_
    refine am_istore (pc := 171) G dX10_spread_171 (nlx hn rfl) rfl ?_
    refine am_iinc (pc := 173) (ls := [(20, _), (99, _), (0, _), (0, _), (0, _), (99, _), (99, _), (0, _), (0, _), (0, _)]) G dX10_spread_173 rfl (nlx hn rfl) rfl ?_
    refine am_goto (pc := 176) (ls := [(20, _), (99, _), (0, _), (0, _), (0, _), (99, _), (99, _), (0, _), (0, _), (0, _)]) G 138 dX10_spread_176 (by decide) ?_
    refine am_le (ls' := [(20, _), (99, 0), (0, _), (0, _), (0, _), (99, 0), (99, 0), (0, _), (0, _), (0, _)]) ⟨Or.inr rfl, ⟨Or.inl rfl, ⟨Or.inr rfl, ⟨Or.inr rfl, ⟨Or.inr rfl, ⟨Or.inl rfl, ⟨Or.inl rfl, ⟨Or.inr rfl, ⟨Or.inr rfl, ⟨Or.inr rfl, trivial⟩⟩⟩⟩⟩⟩⟩⟩⟩⟩ ?_
    exact k138 _ _ _ h
def wp_X10_spread_138 (V : VV) (x2 x3 x4 x7 x8 x9 : Int) (M : Mem) (Q : Int → Mem → Prop) (B15 : Int → Mem → Prop) : Prop :=
  ∃ (I : Int → Int → Mem → Prop) (μ : Int → Int → Mem → Nat), I x8 x9 M ∧ ∀ (y8 y9 : Int) (N : Mem), I y8 y9 N → wp_X10_spread_138_b V x2 x3 x4 x7 y8 y9 N Q B15 (fun z8 z9 N1 => I z8 z9 N1 ∧ μ z8 z9 N1 < μ y8 y9 N)
theorem swp_X10_spread_138 {X : XX} {Q : Int → Mem → Prop} (G : GX X cX10_spread "TreeHandsModel") (Z : RX X 1 Q) (hn : nLX X = 10) (hr : roomX X = rm_X10_spread) (x2 x3 x4 x7 x8 x9 : Int) (M : Mem) (B15 : Int → Mem → Prop) (k15 : ∀ (z4 : Int) (N : Mem), B15 z4 N → AW X 15 [(20, 203), (99, 0), (0, x2), (0, x3), (0, z4), (99, 0), (99, 0), (99, 0), (99, 0), (99, 0)] [] N) (h : wp_X10_spread_138 (vX X) x2 x3 x4 x7 x8 x9 M Q B15) : AW X 138 [(20, 203), (99, 0), (0, x2), (0, x3), (0, x4), (99, 0), (99, 0), (0, x7), (0, x8), (0, x9)] [] M := by
  unfold wp_X10_spread_138 at h
  obtain ⟨I, μ, hI, hs⟩ := h
  have key : ∀ (n : Nat) (y8 y9 : Int) (N : Mem), μ y8 y9 N < n → I y8 y9 N → AW X 138 [(20, 203), (99, 0), (0, x2), (0, x3), (0, x4), (99, 0), (99, 0), (0, x7), (0, y8), (0, y9)] [] N := by
    intro n
    induction n with
    | zero => intro y8 y9 N hlt; exact absurd hlt (Nat.not_lt_zero _)
    | succ n ih =>
      intro y8 y9 N hlt hI
      exact swp_X10_spread_138_b G Z hn hr x2 x3 x4 x7 y8 y9 N B15 k15 (fun z8 z9 N1 => I z8 z9 N1 ∧ μ z8 z9 N1 < μ y8 y9 N) (fun z8 z9 N1 hz => ih z8 z9 N1 (by omega) hz.1) (hs y8 y9 N hI)
  exact key _ x8 x9 M (Nat.lt_succ_self _) hI
def wp_X10_spread_127 (V : VV) (x2 x3 x4 x5 s0 : Int) (M : Mem) (Q : Int → Mem → Prop) (B15 : Int → Mem → Prop) : Prop :=
  wp_X10_spread_138 V x2 x3 x4 s0 (w32 (x5 + 1)) 0 M Q B15
theorem swp_X10_spread_127 {X : XX} {Q : Int → Mem → Prop} (G : GX X cX10_spread "TreeHandsModel") (Z : RX X 1 Q) (hn : nLX X = 10) (hr : roomX X = rm_X10_spread) (x2 x3 x4 x5 s0 : Int) (M : Mem) (B15 : Int → Mem → Prop) (k15 : ∀ (z4 : Int) (N : Mem), B15 z4 N → AW X 15 [(20, 203), (99, 0), (0, x2), (0, x3), (0, z4), (99, 0), (99, 0), (99, 0), (99, 0), (99, 0)] [] N) (h : wp_X10_spread_127 (vX X) x2 x3 x4 x5 s0 M Q B15) : AW X 127 [(20, 203), (99, 0), (0, x2), (0, x3), (0, x4), (0, x5), (99, 0), (99, 0), (99, 0), (99, 0)] [(0, s0)] M := by
  unfold wp_X10_spread_127 at h
  refine am_istore (pc := 127) G dX10_spread_127 (nlx hn rfl) rfl ?_
  refine am_iload (pc := 129) (ls := [(20, _), (99, _), (0, _), (0, _), (0, _), (0, _), (99, _), (0, _), (99, _), (99, _)]) G dX10_spread_129 rfl ?_
  refine am_iconst (pc := 131) G dX10_spread_131 (by decide) ?_
  refine am_iadd (pc := 132) G dX10_spread_132 ?_
  refine am_istore (pc := 133) G dX10_spread_133 (nlx hn rfl) rfl ?_
  refine am_iconst (pc := 135) (ls := [(20, _), (99, _), (0, _), (0, _), (0, _), (0, _), (99, _), (0, _), (0, _), (99, _)]) G dX10_spread_135 (by decide) ?_
  refine am_istore (pc := 136) G dX10_spread_136 (nlx hn rfl) rfl ?_
  refine am_le (ls' := [(20, _), (99, 0), (0, _), (0, _), (0, _), (99, 0), (99, 0), (0, _), (0, _), (0, _)]) ⟨Or.inr rfl, ⟨Or.inl rfl, ⟨Or.inr rfl, ⟨Or.inr rfl, ⟨Or.inr rfl, ⟨Or.inl rfl, ⟨Or.inl rfl, ⟨Or.inr rfl, ⟨Or.inr rfl, ⟨Or.inr rfl, trivial⟩⟩⟩⟩⟩⟩⟩⟩⟩⟩ ?_
  exact swp_X10_spread_138 G Z hn hr _ _ _ _ _ _ _ B15 k15 h
def wp_X10_spread_109 (V : VV) (x2 x3 x4 x5 x6 s0 s1 : Int) (M : Mem) (Q : Int → Mem → Prop) (B15 : Int → Mem → Prop) : Prop :=
  R_X10_lay V s1 s0 M (fun _ M13 =>
  (x6 < 0 →
    R_X10_partsAt V x5 M13 (fun r14 M15 =>
    wp_X10_spread_127 V x2 x3 x4 x5 r14 M15 Q B15)) ∧ (¬ (x6 < 0) →
    wp_X10_spread_127 V x2 x3 x4 x5 0 M13 Q B15))
theorem swp_X10_spread_109 {X : XX} {Q : Int → Mem → Prop} (G : GX X cX10_spread "TreeHandsModel") (Z : RX X 1 Q) (hn : nLX X = 10) (hr : roomX X = rm_X10_spread) (x2 x3 x4 x5 x6 s0 s1 : Int) (M : Mem) (B15 : Int → Mem → Prop) (k15 : ∀ (z4 : Int) (N : Mem), B15 z4 N → AW X 15 [(20, 203), (99, 0), (0, x2), (0, x3), (0, z4), (99, 0), (99, 0), (99, 0), (99, 0), (99, 0)] [] N) (h : wp_X10_spread_109 (vX X) x2 x3 x4 x5 x6 s0 s1 M Q B15) : AW X 109 [(20, 203), (99, 0), (0, x2), (0, x3), (0, x4), (0, x5), (0, x6), (99, 0), (99, 0), (99, 0)] [(0, s0), (0, s1), (20, 203)] M := by
  unfold wp_X10_spread_109 at h
  refine am_callV (rk := 4) (rmc := rm_X10_lay) (st := []) (pc := 109) G 10 [(0, _), (0, _)] rfl (by decide) rfl dX10_spread_109 tw_m_RX10_217 tw_i_X10_lay tw_v_X10_lay tw_z_RX10 tw_c_X10_lay hy_X10_lay (callrm hr rfl) rfl (RunsM.mono h (fun r12 M13 h => ?_)) Z.rm
  show AW X 112 _ [] M13
  refine am_iload (pc := 112) G dX10_spread_112 rfl ?_
  refine am_if_lt (pc := 114) G 121 dX10_spread_114 (by decide) (fun c => ?_) (fun c => ?_)
  · have h := h.1 c
    refine am_aload_n (i := 0) (t := 17) (pc := 121) G dX10_spread_121 rfl rfl rfl ?_
    refine am_iload (pc := 122) G dX10_spread_122 rfl ?_
    refine am_callV (rk := 0) (rmc := rm_X10_partsAt) (st := []) (pc := 124) G 10 [(0, _)] rfl (by decide) rfl dX10_spread_124 tw_m_RX10_265 tw_i_X10_partsAt tw_v_X10_partsAt tw_z_RX10 tw_c_X10_partsAt hy_X10_partsAt (callrm hr rfl) rfl (RunsM.mono h (fun r14 M15 h => ?_)) Z.rm
    show AW X 127 _ [(0, _)] M15
    refine am_le (ls' := [(20, _), (99, 0), (0, _), (0, _), (0, _), (0, _), (99, 0), (99, 0), (99, 0), (99, 0)]) ⟨Or.inr rfl, ⟨Or.inl rfl, ⟨Or.inr rfl, ⟨Or.inr rfl, ⟨Or.inr rfl, ⟨Or.inr rfl, ⟨Or.inl rfl, ⟨Or.inl rfl, ⟨Or.inl rfl, ⟨Or.inl rfl, trivial⟩⟩⟩⟩⟩⟩⟩⟩⟩⟩ ?_
    exact swp_X10_spread_127 G Z hn hr _ _ _ _ _ _ B15 k15 h
  · have h := h.2 c
    refine am_iconst (pc := 117) G dX10_spread_117 (by decide) ?_
    refine am_goto (pc := 118) G 127 dX10_spread_118 (by decide) ?_
    refine am_le (ls' := [(20, _), (99, 0), (0, _), (0, _), (0, _), (0, _), (99, 0), (99, 0), (99, 0), (99, 0)]) ⟨Or.inr rfl, ⟨Or.inl rfl, ⟨Or.inr rfl, ⟨Or.inr rfl, ⟨Or.inr rfl, ⟨Or.inr rfl, ⟨Or.inl rfl, ⟨Or.inl rfl, ⟨Or.inl rfl, ⟨Or.inl rfl, trivial⟩⟩⟩⟩⟩⟩⟩⟩⟩⟩ ?_
    exact swp_X10_spread_127 G Z hn hr _ _ _ _ _ _ B15 k15 h
def wp_X10_spread_94 (V : VV) (x2 x3 x4 x5 x6 s0 : Int) (M : Mem) (Q : Int → Mem → Prop) (B15 : Int → Mem → Prop) : Prop :=
  (x6 < 0 →
    R_X10_partsAt V x5 M (fun r10 M11 =>
    wp_X10_spread_109 V x2 x3 x4 x5 x6 r10 s0 M11 Q B15)) ∧ (¬ (x6 < 0) →
    wp_X10_spread_109 V x2 x3 x4 x5 x6 0 s0 M Q B15)
theorem swp_X10_spread_94 {X : XX} {Q : Int → Mem → Prop} (G : GX X cX10_spread "TreeHandsModel") (Z : RX X 1 Q) (hn : nLX X = 10) (hr : roomX X = rm_X10_spread) (x2 x3 x4 x5 x6 s0 : Int) (M : Mem) (B15 : Int → Mem → Prop) (k15 : ∀ (z4 : Int) (N : Mem), B15 z4 N → AW X 15 [(20, 203), (99, 0), (0, x2), (0, x3), (0, z4), (99, 0), (99, 0), (99, 0), (99, 0), (99, 0)] [] N) (h : wp_X10_spread_94 (vX X) x2 x3 x4 x5 x6 s0 M Q B15) : AW X 94 [(20, 203), (99, 0), (0, x2), (0, x3), (0, x4), (0, x5), (0, x6), (99, 0), (99, 0), (99, 0)] [(0, s0), (20, 203)] M := by
  unfold wp_X10_spread_94 at h
  refine am_iload (pc := 94) G dX10_spread_94 rfl ?_
  refine am_if_lt (pc := 96) G 103 dX10_spread_96 (by decide) (fun c => ?_) (fun c => ?_)
  · have h := h.1 c
    refine am_aload_n (i := 0) (t := 17) (pc := 103) G dX10_spread_103 rfl rfl rfl ?_
    refine am_iload (pc := 104) G dX10_spread_104 rfl ?_
    refine am_callV (rk := 0) (rmc := rm_X10_partsAt) (st := [(0, _), (20, _)]) (pc := 106) G 10 [(0, _)] rfl (by decide) rfl dX10_spread_106 tw_m_RX10_265 tw_i_X10_partsAt tw_v_X10_partsAt tw_z_RX10 tw_c_X10_partsAt hy_X10_partsAt (callrm hr rfl) rfl (RunsM.mono h (fun r10 M11 h => ?_)) Z.rm
    show AW X 109 _ [(0, _), (0, _), (20, _)] M11
    refine am_le (ls' := [(20, _), (99, 0), (0, _), (0, _), (0, _), (0, _), (0, _), (99, 0), (99, 0), (99, 0)]) ⟨Or.inr rfl, ⟨Or.inl rfl, ⟨Or.inr rfl, ⟨Or.inr rfl, ⟨Or.inr rfl, ⟨Or.inr rfl, ⟨Or.inr rfl, ⟨Or.inl rfl, ⟨Or.inl rfl, ⟨Or.inl rfl, trivial⟩⟩⟩⟩⟩⟩⟩⟩⟩⟩ ?_
    exact swp_X10_spread_109 G Z hn hr _ _ _ _ _ _ _ _ B15 k15 h
  · have h := h.2 c
    refine am_iconst (pc := 99) G dX10_spread_99 (by decide) ?_
    refine am_goto (pc := 100) G 109 dX10_spread_100 (by decide) ?_
    refine am_le (ls' := [(20, _), (99, 0), (0, _), (0, _), (0, _), (0, _), (0, _), (99, 0), (99, 0), (99, 0)]) ⟨Or.inr rfl, ⟨Or.inl rfl, ⟨Or.inr rfl, ⟨Or.inr rfl, ⟨Or.inr rfl, ⟨Or.inr rfl, ⟨Or.inr rfl, ⟨Or.inl rfl, ⟨Or.inl rfl, ⟨Or.inl rfl, trivial⟩⟩⟩⟩⟩⟩⟩⟩⟩⟩ ?_
    exact swp_X10_spread_109 G Z hn hr _ _ _ _ _ _ _ _ B15 k15 h
def wp_X10_spread_55 (V : VV) (x2 x3 x4 s0 : Int) (M : Mem) (Q : Int → Mem → Prop) (B15 : Int → Mem → Prop) : Prop :=
  R_X10_follow V s0 M (fun r4 M5 =>
  R_X10_holeAt V r4 M5 (fun r6 M7 =>
  (r6 < 0 →
    R_X10_labelAt V r4 M7 (fun r8 M9 =>
    wp_X10_spread_94 V x2 x3 x4 r4 r6 r8 M9 Q B15)) ∧ (¬ (r6 < 0) →
    wp_X10_spread_94 V x2 x3 x4 r4 r6 (w32 (1000 + r6)) M7 Q B15)))
theorem swp_X10_spread_55 {X : XX} {Q : Int → Mem → Prop} (G : GX X cX10_spread "TreeHandsModel") (Z : RX X 1 Q) (hn : nLX X = 10) (hr : roomX X = rm_X10_spread) (x2 x3 x4 s0 : Int) (M : Mem) (B15 : Int → Mem → Prop) (k15 : ∀ (z4 : Int) (N : Mem), B15 z4 N → AW X 15 [(20, 203), (99, 0), (0, x2), (0, x3), (0, z4), (99, 0), (99, 0), (99, 0), (99, 0), (99, 0)] [] N) (h : wp_X10_spread_55 (vX X) x2 x3 x4 s0 M Q B15) : AW X 55 [(20, 203), (99, 0), (0, x2), (0, x3), (0, x4), (99, 0), (99, 0), (99, 0), (99, 0), (99, 0)] [(0, s0)] M := by
  unfold wp_X10_spread_55 at h
  refine am_istore (pc := 55) G dX10_spread_55 (nlx hn rfl) rfl ?_
  refine am_aload_n (i := 0) (t := 17) (pc := 57) (ls := [(20, _), (99, _), (0, _), (0, _), (0, _), (0, _), (99, _), (99, _), (99, _), (99, _)]) G dX10_spread_57 rfl rfl rfl ?_
  refine am_iload (pc := 58) G dX10_spread_58 rfl ?_
  refine am_callV (rk := 0) (rmc := rm_X10_follow) (st := []) (pc := 60) G 10 [(0, _)] rfl (by decide) rfl dX10_spread_60 tw_m_RX10_262 tw_i_X10_follow tw_v_X10_follow tw_z_RX10 tw_c_X10_follow hy_X10_follow (callrm hr rfl) rfl (RunsM.mono h (fun r4 M5 h => ?_)) Z.rm
  show AW X 63 _ [(0, _)] M5
  refine am_istore (pc := 63) G dX10_spread_63 (nlx hn rfl) rfl ?_
  refine am_aload_n (i := 0) (t := 17) (pc := 65) (ls := [(20, _), (99, _), (0, _), (0, _), (0, _), (0, _), (99, _), (99, _), (99, _), (99, _)]) G dX10_spread_65 rfl rfl rfl ?_
  refine am_iload (pc := 66) G dX10_spread_66 rfl ?_
  refine am_callV (rk := 0) (rmc := rm_X10_holeAt) (st := []) (pc := 68) G 10 [(0, _)] rfl (by decide) rfl dX10_spread_68 tw_m_RX10_259 tw_i_X10_holeAt tw_v_X10_holeAt tw_z_RX10 tw_c_X10_holeAt hy_X10_holeAt (callrm hr rfl) rfl (RunsM.mono h (fun r6 M7 h => ?_)) Z.rm
  show AW X 71 _ [(0, _)] M7
  refine am_istore (pc := 71) G dX10_spread_71 (nlx hn rfl) rfl ?_
  refine am_aload_n (i := 0) (t := 17) (pc := 73) (ls := [(20, _), (99, _), (0, _), (0, _), (0, _), (0, _), (0, _), (99, _), (99, _), (99, _)]) G dX10_spread_73 rfl rfl rfl ?_
  refine am_iload (pc := 74) G dX10_spread_74 rfl ?_
  refine am_if_lt (pc := 76) G 88 dX10_spread_76 (by decide) (fun c => ?_) (fun c => ?_)
  · have h := h.1 c
    refine am_aload_n (i := 0) (t := 17) (pc := 88) G dX10_spread_88 rfl rfl rfl ?_
    refine am_iload (pc := 89) G dX10_spread_89 rfl ?_
    refine am_callV (rk := 0) (rmc := rm_X10_labelAt) (st := [(20, _)]) (pc := 91) G 10 [(0, _)] rfl (by decide) rfl dX10_spread_91 tw_m_RX10_256 tw_i_X10_labelAt tw_v_X10_labelAt tw_z_RX10 tw_c_X10_labelAt hy_X10_labelAt (callrm hr rfl) rfl (RunsM.mono h (fun r8 M9 h => ?_)) Z.rm
    show AW X 94 _ [(0, _), (20, _)] M9
    refine am_le (ls' := [(20, _), (99, 0), (0, _), (0, _), (0, _), (0, _), (0, _), (99, 0), (99, 0), (99, 0)]) ⟨Or.inr rfl, ⟨Or.inl rfl, ⟨Or.inr rfl, ⟨Or.inr rfl, ⟨Or.inr rfl, ⟨Or.inr rfl, ⟨Or.inr rfl, ⟨Or.inl rfl, ⟨Or.inl rfl, ⟨Or.inl rfl, trivial⟩⟩⟩⟩⟩⟩⟩⟩⟩⟩ ?_
    exact swp_X10_spread_94 G Z hn hr _ _ _ _ _ _ _ B15 k15 h
  · have h := h.2 c
    refine am_sipush (pc := 79) G dX10_spread_79 (by decide) (by decide) ?_
    refine am_iload (pc := 82) G dX10_spread_82 rfl ?_
    refine am_iadd (pc := 84) G dX10_spread_84 ?_
    refine am_goto (pc := 85) G 94 dX10_spread_85 (by decide) ?_
    refine am_le (ls' := [(20, _), (99, 0), (0, _), (0, _), (0, _), (0, _), (0, _), (99, 0), (99, 0), (99, 0)]) ⟨Or.inr rfl, ⟨Or.inl rfl, ⟨Or.inr rfl, ⟨Or.inr rfl, ⟨Or.inr rfl, ⟨Or.inr rfl, ⟨Or.inr rfl, ⟨Or.inl rfl, ⟨Or.inl rfl, ⟨Or.inl rfl, trivial⟩⟩⟩⟩⟩⟩⟩⟩⟩⟩ ?_
    exact swp_X10_spread_94 G Z hn hr _ _ _ _ _ _ _ B15 k15 h
def wp_X10_spread_15_b (V : VV) (x2 x3 x4 : Int) (M : Mem) (Q : Int → Mem → Prop) (B15 : Int → Mem → Prop) : Prop :=
  (x4 ≤ 0 →
    wp_X10_spread_189 V x3 M Q) ∧ (¬ (x4 ≤ 0) →
    (16 < M 203 33 →
      wp_X10_spread_189 V x3 M Q) ∧ (¬ (16 < M 203 33) →
      ((0 : Int) ≤ w32 (x4 + (-1)) ∧ w32 (x4 + (-1)) < (128 : Int)) ∧
      (M 233 (w32 (x4 + (-1))) = x2 →
        wp_X10_spread_55 V x2 x3 (w32 (x4 + (-1))) 48 M Q B15) ∧ (¬ (M 233 (w32 (x4 + (-1))) = x2) →
        ((0 : Int) ≤ w32 (x4 + (-1)) ∧ w32 (x4 + (-1)) < (128 : Int)) ∧
        wp_X10_spread_55 V x2 x3 (w32 (x4 + (-1))) (M 233 (w32 (x4 + (-1)))) M Q B15)))
theorem swp_X10_spread_15_b {X : XX} {Q : Int → Mem → Prop} (G : GX X cX10_spread "TreeHandsModel") (Z : RX X 1 Q) (hn : nLX X = 10) (hr : roomX X = rm_X10_spread) (x2 x3 x4 : Int) (M : Mem) (B15 : Int → Mem → Prop) (k15 : ∀ (z4 : Int) (N : Mem), B15 z4 N → AW X 15 [(20, 203), (99, 0), (0, x2), (0, x3), (0, z4), (99, 0), (99, 0), (99, 0), (99, 0), (99, 0)] [] N) (h : wp_X10_spread_15_b (vX X) x2 x3 x4 M Q B15) : AW X 15 [(20, 203), (99, 0), (0, x2), (0, x3), (0, x4), (99, 0), (99, 0), (99, 0), (99, 0), (99, 0)] [] M := by
  unfold wp_X10_spread_15_b at h
  refine am_iload (pc := 15) G dX10_spread_15 rfl ?_
  refine am_if_le (pc := 17) G 189 dX10_spread_17 (by decide) (fun c => ?_) (fun c => ?_)
  · have h := h.1 c
    refine am_le (ls' := [(20, _), (99, 0), (99, 0), (0, _), (99, 0), (99, 0), (99, 0), (99, 0), (99, 0), (99, 0)]) ⟨Or.inr rfl, ⟨Or.inl rfl, ⟨Or.inl rfl, ⟨Or.inr rfl, ⟨Or.inl rfl, ⟨Or.inl rfl, ⟨Or.inl rfl, ⟨Or.inl rfl, ⟨Or.inl rfl, ⟨Or.inl rfl, trivial⟩⟩⟩⟩⟩⟩⟩⟩⟩⟩ ?_
    exact swp_X10_spread_189 G Z hn hr _ _ h
  · have h := h.2 c
    refine am_aload_n (i := 0) (t := 17) (pc := 20) G dX10_spread_20 rfl rfl rfl ?_
    refine gf_X10_33 (pc := 21) G dX10_spread_21 tw_f_RX10_214 ?_
    refine am_bipush (pc := 24) G dX10_spread_24 (by decide) (by decide) ?_
    refine am_icmp_gt (pc := 26) G 189 dX10_spread_26 (by decide) (fun c => ?_) (fun c => ?_)
    · have h := h.1 c
      refine am_le (ls' := [(20, _), (99, 0), (99, 0), (0, _), (99, 0), (99, 0), (99, 0), (99, 0), (99, 0), (99, 0)]) ⟨Or.inr rfl, ⟨Or.inl rfl, ⟨Or.inl rfl, ⟨Or.inr rfl, ⟨Or.inl rfl, ⟨Or.inl rfl, ⟨Or.inl rfl, ⟨Or.inl rfl, ⟨Or.inl rfl, ⟨Or.inl rfl, trivial⟩⟩⟩⟩⟩⟩⟩⟩⟩⟩ ?_
      exact swp_X10_spread_189 G Z hn hr _ _ h
    · have h := h.2 c
      refine am_iinc (pc := 29) G dX10_spread_29 rfl (nlx hn rfl) rfl ?_
      refine am_aload_n (i := 0) (t := 17) (pc := 32) (ls := [(20, _), (99, _), (0, _), (0, _), (0, _), (99, _), (99, _), (99, _), (99, _), (99, _)]) G dX10_spread_32 rfl rfl rfl ?_
      refine gf_X10_41 (pc := 33) G dX10_spread_33 tw_f_RX10_97 ?_
      refine am_iload (pc := 36) G dX10_spread_36 rfl ?_
      refine am_iald (pc := 38) G 128 dX10_spread_38 (by decide) h.1 ?_
      have h := h.2
      refine am_iload_n (i := 2) (pc := 39) G dX10_spread_39 rfl rfl ?_
      refine am_icmp_ne (pc := 40) G 48 dX10_spread_40 (by decide) (fun c => ?_) (fun c => ?_)
      · have h := h.2 c
        refine am_aload_n (i := 0) (t := 17) (pc := 48) G dX10_spread_48 rfl rfl rfl ?_
        refine gf_X10_41 (pc := 49) G dX10_spread_49 tw_f_RX10_97 ?_
        refine am_iload (pc := 52) G dX10_spread_52 rfl ?_
        refine am_iald (pc := 54) G 128 dX10_spread_54 (by decide) h.1 ?_
        have h := h.2
        refine am_le (ls' := [(20, _), (99, 0), (0, _), (0, _), (0, _), (99, 0), (99, 0), (99, 0), (99, 0), (99, 0)]) ⟨Or.inr rfl, ⟨Or.inl rfl, ⟨Or.inr rfl, ⟨Or.inr rfl, ⟨Or.inr rfl, ⟨Or.inl rfl, ⟨Or.inl rfl, ⟨Or.inl rfl, ⟨Or.inl rfl, ⟨Or.inl rfl, trivial⟩⟩⟩⟩⟩⟩⟩⟩⟩⟩ ?_
        exact swp_X10_spread_55 G Z hn hr _ _ _ _ _ B15 k15 h
      · have h := h.1 c
        refine am_bipush (pc := 43) G dX10_spread_43 (by decide) (by decide) ?_
        refine am_goto (pc := 45) G 55 dX10_spread_45 (by decide) ?_
        refine am_le (ls' := [(20, _), (99, 0), (0, _), (0, _), (0, _), (99, 0), (99, 0), (99, 0), (99, 0), (99, 0)]) ⟨Or.inr rfl, ⟨Or.inl rfl, ⟨Or.inr rfl, ⟨Or.inr rfl, ⟨Or.inr rfl, ⟨Or.inl rfl, ⟨Or.inl rfl, ⟨Or.inl rfl, ⟨Or.inl rfl, ⟨Or.inl rfl, trivial⟩⟩⟩⟩⟩⟩⟩⟩⟩⟩ ?_
        exact swp_X10_spread_55 G Z hn hr _ _ _ _ _ B15 k15 h
def wp_X10_spread_15 (V : VV) (x2 x3 x4 : Int) (M : Mem) (Q : Int → Mem → Prop) : Prop :=
  ∃ (I : Int → Mem → Prop) (μ : Int → Mem → Nat), I x4 M ∧ ∀ (y4 : Int) (N : Mem), I y4 N → wp_X10_spread_15_b V x2 x3 y4 N Q (fun z4 N1 => I z4 N1 ∧ μ z4 N1 < μ y4 N)
theorem swp_X10_spread_15 {X : XX} {Q : Int → Mem → Prop} (G : GX X cX10_spread "TreeHandsModel") (Z : RX X 1 Q) (hn : nLX X = 10) (hr : roomX X = rm_X10_spread) (x2 x3 x4 : Int) (M : Mem) (h : wp_X10_spread_15 (vX X) x2 x3 x4 M Q) : AW X 15 [(20, 203), (99, 0), (0, x2), (0, x3), (0, x4), (99, 0), (99, 0), (99, 0), (99, 0), (99, 0)] [] M := by
  unfold wp_X10_spread_15 at h
  obtain ⟨I, μ, hI, hs⟩ := h
  have key : ∀ (n : Nat) (y4 : Int) (N : Mem), μ y4 N < n → I y4 N → AW X 15 [(20, 203), (99, 0), (0, x2), (0, x3), (0, y4), (99, 0), (99, 0), (99, 0), (99, 0), (99, 0)] [] N := by
    intro n
    induction n with
    | zero => intro y4 N hlt; exact absurd hlt (Nat.not_lt_zero _)
    | succ n ih =>
      intro y4 N hlt hI
      exact swp_X10_spread_15_b G Z hn hr x2 x3 y4 N (fun z4 N1 => I z4 N1 ∧ μ z4 N1 < μ y4 N) (fun z4 N1 hz => ih z4 N1 (by omega) hz.1) (hs y4 N hI)
  exact key _ x4 M (Nat.lt_succ_self _) hI
def wp_X10_spread (V : VV) (x1 x2 x3 : Int) (M : Mem) (Q : Int → Mem → Prop) : Prop :=
  ∀ M1 : Mem, M1 = mset M 203 33 0 →
  ((0 : Int) ≤ 0 ∧ 0 < (128 : Int)) ∧
  wp_X10_spread_15 V x2 x3 1 (mset M1 233 0 x1) Q
theorem of_X10_spread {V : VV} {x1 x2 x3 : Int} {M : Mem} {Q : Int → Mem → Prop} (h : wp_X10_spread V x1 x2 x3 M Q) : R_X10_spread V x1 x2 x3 M Q := by
  refine met_in (own := "TreeHandsModel") (by decide +kernel) rfl rfl (Nat.le_of_ble_eq_true rfl) ?_
  intro X G Z hn hr hv
  subst hv
  unfold wp_X10_spread at h
  show AW X 0 [(20, 203), (0, x1), (0, x2), (0, x3), (99, 0), (99, 0), (99, 0), (99, 0), (99, 0), (99, 0)] [] M
  refine am_aload_n (i := 0) (t := 17) (pc := 0) G dX10_spread_0 rfl rfl rfl ?_
  refine am_iconst (pc := 1) G dX10_spread_1 (by decide) ?_
  refine pf_X10_33 (pc := 2) G dX10_spread_2 tw_f_RX10_214 ?_
  refine am_iconst (pc := 5) G dX10_spread_5 (by decide) ?_
  refine am_istore (pc := 6) G dX10_spread_6 (nlx hn rfl) rfl ?_
  refine am_aload_n (i := 0) (t := 17) (pc := 8) (ls := [(20, _), (0, _), (0, _), (0, _), (0, _), (99, _), (99, _), (99, _), (99, _), (99, _)]) G dX10_spread_8 rfl rfl rfl ?_
  refine gf_X10_41 (pc := 9) G dX10_spread_9 tw_f_RX10_97 ?_
  refine am_iconst (pc := 12) G dX10_spread_12 (by decide) ?_
  refine am_iload_n (i := 1) (pc := 13) G dX10_spread_13 rfl rfl ?_
  have h := h _ rfl
  refine am_iast (pc := 14) G 128 dX10_spread_14 (by decide) h.1 ?_
  have h := h.2
  refine am_le (ls' := [(20, _), (99, 0), (0, _), (0, _), (0, _), (99, 0), (99, 0), (99, 0), (99, 0), (99, 0)]) ⟨Or.inr rfl, ⟨Or.inl rfl, ⟨Or.inr rfl, ⟨Or.inr rfl, ⟨Or.inr rfl, ⟨Or.inl rfl, ⟨Or.inl rfl, ⟨Or.inl rfl, ⟨Or.inl rfl, ⟨Or.inl rfl, trivial⟩⟩⟩⟩⟩⟩⟩⟩⟩⟩ ?_
  exact swp_X10_spread_15 G Z hn hr _ _ _ _ h
-- X10_overlapOf TreeHandsModel.overlapOf(III)I
def rm_X10_overlapOf : Room := { frames := 6, cells := 0, slots := 0, locals := 146 }
theorem hy_X10_overlapOf : yX10_overlapOf.cls ≠ "java/lang/invoke/MethodHandle" ∧ yX10_overlapOf.cls ≠ "java/lang/invoke/VarHandle" ∧ (parseMethodDescriptor yX10_overlapOf.desc).map (fun d => d.parameters.length) = some 3 := by decide +kernel
abbrev R_X10_overlapOf (V : VV) (x1 x2 x3 : Int) (M : Mem) (Q : Int → Mem → Prop) : Prop := RunsM V yX10_overlapOf (.code yX10_overlapOf cX10_overlapOf 6 (Option.some Jvm.ClassFile.FieldType.int)) rm_X10_overlapOf 0 [(20, 203), (0, x1), (0, x2), (0, x3)] M Q
def wp_X10_overlapOf (V : VV) (x1 x2 x3 : Int) (M : Mem) (Q : Int → Mem → Prop) : Prop :=
  ∀ M1 : Mem, M1 = mset M 203 38 x1 →
  ∀ M2 : Mem, M2 = mset M1 203 39 x2 →
  R_X10_unify V x3 16 M2 (fun r3 M4 =>
  (r3 = 0 →
    Q 0 M4) ∧ (¬ (r3 = 0) →
    R_X10_spread V 0 (-1) 18 M4 (fun r5 M6 =>
    (r5 = 0 →
      Q 3 M6) ∧ (¬ (r5 = 0) →
      R_X10_spread V 32 (-1) 18 M6 (fun r7 M8 =>
      (r7 = 0 →
        Q 3 M8) ∧ (¬ (r7 = 0) →
        R_X10_spread V 0 x3 19 M8 (fun r9 M10 =>
        (r9 = 0 →
          Q 3 M10) ∧ (¬ (r9 = 0) →
          R_X10_walkTree V 18 1 M10 (fun r11 M12 =>
          R_X10_walkTree V 19 1 M12 (fun r13 M14 =>
          (r11 = 0 →
            (r13 = 0 →
              R_X10_same V 18 0 19 0 M14 (fun r15 M16 =>
              (r15 = 0 →
                Q 1 M16) ∧ (¬ (r15 = 0) →
                Q 2 M16))) ∧ (¬ (r13 = 0) →
              Q 1 M14)) ∧ (¬ (r11 = 0) →
            Q 1 M14)))))))))))
theorem of_X10_overlapOf {V : VV} {x1 x2 x3 : Int} {M : Mem} {Q : Int → Mem → Prop} (h : wp_X10_overlapOf V x1 x2 x3 M Q) : R_X10_overlapOf V x1 x2 x3 M Q := by
  refine met_in (own := "TreeHandsModel") (by decide +kernel) rfl rfl (Nat.le_of_ble_eq_true rfl) ?_
  intro X G Z hn hr hv
  subst hv
  unfold wp_X10_overlapOf at h
  show AW X 0 [(20, 203), (0, x1), (0, x2), (0, x3), (99, 0), (99, 0)] [] M
  refine am_aload_n (i := 0) (t := 17) (pc := 0) G dX10_overlapOf_0 rfl rfl rfl ?_
  refine am_iload_n (i := 1) (pc := 1) G dX10_overlapOf_1 rfl rfl ?_
  refine pf_X10_38 (pc := 2) G dX10_overlapOf_2 tw_f_RX10_246 ?_
  refine am_aload_n (i := 0) (t := 17) (pc := 5) G dX10_overlapOf_5 rfl rfl rfl ?_
  refine am_iload_n (i := 2) (pc := 6) G dX10_overlapOf_6 rfl rfl ?_
  have h := h _ rfl
  refine pf_X10_39 (pc := 7) G dX10_overlapOf_7 tw_f_RX10_249 ?_
  refine am_aload_n (i := 0) (t := 17) (pc := 10) G dX10_overlapOf_10 rfl rfl rfl ?_
  refine am_iload_n (i := 3) (pc := 11) G dX10_overlapOf_11 rfl rfl ?_
  refine am_bipush (pc := 12) G dX10_overlapOf_12 (by decide) (by decide) ?_
  have h := h _ rfl
  refine am_callV (rk := 1) (rmc := rm_X10_unify) (st := []) (pc := 14) G 10 [(0, _), (0, _)] rfl (by decide) rfl dX10_overlapOf_14 tw_m_RX10_274 tw_i_X10_unify tw_v_X10_unify tw_z_RX10 tw_c_X10_unify hy_X10_unify (callrm hr rfl) rfl (RunsM.mono h (fun r3 M4 h => ?_)) Z.rm
  show AW X 17 _ [(0, _)] M4
  refine am_if_ne (pc := 17) G 22 dX10_overlapOf_17 (by decide) (fun c => ?_) (fun c => ?_)
  · have h := h.2 c
    refine am_aload_n (i := 0) (t := 17) (pc := 22) G dX10_overlapOf_22 rfl rfl rfl ?_
    refine am_iconst (pc := 23) G dX10_overlapOf_23 (by decide) ?_
    refine am_iconst (pc := 24) G dX10_overlapOf_24 (by decide) ?_
    refine am_bipush (pc := 25) G dX10_overlapOf_25 (by decide) (by decide) ?_
    refine am_callV (rk := 1) (rmc := rm_X10_spread) (st := []) (pc := 27) G 10 [(0, _), (0, _), (0, _)] rfl (by decide) rfl dX10_overlapOf_27 tw_m_RX10_277 tw_i_X10_spread tw_v_X10_spread tw_z_RX10 tw_c_X10_spread hy_X10_spread (callrm hr rfl) rfl (RunsM.mono h (fun r5 M6 h => ?_)) Z.rm
    show AW X 30 _ [(0, _)] M6
    refine am_if_eq (pc := 30) G 56 dX10_overlapOf_30 (by decide) (fun c => ?_) (fun c => ?_)
    · have h := h.1 c
      refine am_iconst (pc := 56) G dX10_overlapOf_56 (by decide) ?_
      exact am_iret (pc := 57) G Z dX10_overlapOf_57 h
    · have h := h.2 c
      refine am_aload_n (i := 0) (t := 17) (pc := 33) G dX10_overlapOf_33 rfl rfl rfl ?_
      refine am_bipush (pc := 34) G dX10_overlapOf_34 (by decide) (by decide) ?_
      refine am_iconst (pc := 36) G dX10_overlapOf_36 (by decide) ?_
      refine am_bipush (pc := 37) G dX10_overlapOf_37 (by decide) (by decide) ?_
      refine am_callV (rk := 1) (rmc := rm_X10_spread) (st := []) (pc := 39) G 10 [(0, _), (0, _), (0, _)] rfl (by decide) rfl dX10_overlapOf_39 tw_m_RX10_277 tw_i_X10_spread tw_v_X10_spread tw_z_RX10 tw_c_X10_spread hy_X10_spread (callrm hr rfl) rfl (RunsM.mono h (fun r7 M8 h => ?_)) Z.rm
      show AW X 42 _ [(0, _)] M8
      refine am_if_eq (pc := 42) G 56 dX10_overlapOf_42 (by decide) (fun c => ?_) (fun c => ?_)
      · have h := h.1 c
        refine am_iconst (pc := 56) G dX10_overlapOf_56 (by decide) ?_
        exact am_iret (pc := 57) G Z dX10_overlapOf_57 h
      · have h := h.2 c
        refine am_aload_n (i := 0) (t := 17) (pc := 45) G dX10_overlapOf_45 rfl rfl rfl ?_
        refine am_iconst (pc := 46) G dX10_overlapOf_46 (by decide) ?_
        refine am_iload_n (i := 3) (pc := 47) G dX10_overlapOf_47 rfl rfl ?_
        refine am_bipush (pc := 48) G dX10_overlapOf_48 (by decide) (by decide) ?_
        refine am_callV (rk := 1) (rmc := rm_X10_spread) (st := []) (pc := 50) G 10 [(0, _), (0, _), (0, _)] rfl (by decide) rfl dX10_overlapOf_50 tw_m_RX10_277 tw_i_X10_spread tw_v_X10_spread tw_z_RX10 tw_c_X10_spread hy_X10_spread (callrm hr rfl) rfl (RunsM.mono h (fun r9 M10 h => ?_)) Z.rm
        show AW X 53 _ [(0, _)] M10
        refine am_if_ne (pc := 53) G 58 dX10_overlapOf_53 (by decide) (fun c => ?_) (fun c => ?_)
        · have h := h.2 c
          refine am_aload_n (i := 0) (t := 17) (pc := 58) G dX10_overlapOf_58 rfl rfl rfl ?_
          refine am_bipush (pc := 59) G dX10_overlapOf_59 (by decide) (by decide) ?_
          refine am_iconst (pc := 61) G dX10_overlapOf_61 (by decide) ?_
          refine am_callV (rk := 0) (rmc := rm_X10_walkTree) (st := []) (pc := 62) G 10 [(0, _), (0, _)] rfl (by decide) rfl dX10_overlapOf_62 tw_m_RX10_242 tw_i_X10_walkTree tw_v_X10_walkTree tw_z_RX10 tw_c_X10_walkTree hy_X10_walkTree (callrm hr rfl) rfl (RunsM.mono h (fun r11 M12 h => ?_)) Z.rm
          show AW X 65 _ [(0, _)] M12
          refine am_istore (pc := 65) G dX10_overlapOf_65 (nlx hn rfl) rfl ?_
          refine am_aload_n (i := 0) (t := 17) (pc := 67) (ls := [(20, _), (0, _), (0, _), (0, _), (0, _), (99, _)]) G dX10_overlapOf_67 rfl rfl rfl ?_
          refine am_bipush (pc := 68) G dX10_overlapOf_68 (by decide) (by decide) ?_
          refine am_iconst (pc := 70) G dX10_overlapOf_70 (by decide) ?_
          refine am_callV (rk := 0) (rmc := rm_X10_walkTree) (st := []) (pc := 71) G 10 [(0, _), (0, _)] rfl (by decide) rfl dX10_overlapOf_71 tw_m_RX10_242 tw_i_X10_walkTree tw_v_X10_walkTree tw_z_RX10 tw_c_X10_walkTree hy_X10_walkTree (callrm hr rfl) rfl (RunsM.mono h (fun r13 M14 h => ?_)) Z.rm
          show AW X 74 _ [(0, _)] M14
          refine am_istore (pc := 74) G dX10_overlapOf_74 (nlx hn rfl) rfl ?_
          refine am_iload (pc := 76) (ls := [(20, _), (0, _), (0, _), (0, _), (0, _), (0, _)]) G dX10_overlapOf_76 rfl ?_
          refine am_if_ne (pc := 78) G 103 dX10_overlapOf_78 (by decide) (fun c => ?_) (fun c => ?_)
          · have h := h.2 c
            refine am_iconst (pc := 103) G dX10_overlapOf_103 (by decide) ?_
            exact am_iret (pc := 104) G Z dX10_overlapOf_104 h
          · have h := h.1 c
            refine am_iload (pc := 81) G dX10_overlapOf_81 rfl ?_
            refine am_if_ne (pc := 83) G 103 dX10_overlapOf_83 (by decide) (fun c => ?_) (fun c => ?_)
            · have h := h.2 c
              refine am_iconst (pc := 103) G dX10_overlapOf_103 (by decide) ?_
              exact am_iret (pc := 104) G Z dX10_overlapOf_104 h
            · have h := h.1 c
              refine am_aload_n (i := 0) (t := 17) (pc := 86) G dX10_overlapOf_86 rfl rfl rfl ?_
              refine am_bipush (pc := 87) G dX10_overlapOf_87 (by decide) (by decide) ?_
              refine am_iconst (pc := 89) G dX10_overlapOf_89 (by decide) ?_
              refine am_bipush (pc := 90) G dX10_overlapOf_90 (by decide) (by decide) ?_
              refine am_iconst (pc := 92) G dX10_overlapOf_92 (by decide) ?_
              refine am_callV (rk := 1) (rmc := rm_X10_same) (st := []) (pc := 93) G 10 [(0, _), (0, _), (0, _), (0, _)] rfl (by decide) rfl dX10_overlapOf_93 tw_m_RX10_153 tw_i_X10_same tw_v_X10_same tw_z_RX10 tw_c_X10_same hy_X10_same (callrm hr rfl) rfl (RunsM.mono h (fun r15 M16 h => ?_)) Z.rm
              show AW X 96 _ [(0, _)] M16
              refine am_if_eq (pc := 96) G 103 dX10_overlapOf_96 (by decide) (fun c => ?_) (fun c => ?_)
              · have h := h.1 c
                refine am_iconst (pc := 103) G dX10_overlapOf_103 (by decide) ?_
                exact am_iret (pc := 104) G Z dX10_overlapOf_104 h
              · have h := h.2 c
                refine am_iconst (pc := 99) G dX10_overlapOf_99 (by decide) ?_
                refine am_goto (pc := 100) G 104 dX10_overlapOf_100 (by decide) ?_
                exact am_iret (pc := 104) G Z dX10_overlapOf_104 h
        · have h := h.1 c
          refine am_iconst (pc := 56) G dX10_overlapOf_56 (by decide) ?_
          exact am_iret (pc := 57) G Z dX10_overlapOf_57 h
  · have h := h.1 c
    refine am_iconst (pc := 20) G dX10_overlapOf_20 (by decide) ?_
    exact am_iret (pc := 21) G Z dX10_overlapOf_21 h
-- X10_isRule TreeHandsModel.isRule(I)Z
def rm_X10_isRule : Room := { frames := 1, cells := 0, slots := 0, locals := 22 }
theorem hy_X10_isRule : yX10_isRule.cls ≠ "java/lang/invoke/MethodHandle" ∧ yX10_isRule.cls ≠ "java/lang/invoke/VarHandle" ∧ (parseMethodDescriptor yX10_isRule.desc).map (fun d => d.parameters.length) = some 1 := by decide +kernel
abbrev R_X10_isRule (V : VV) (x1 : Int) (M : Mem) (Q : Int → Mem → Prop) : Prop := RunsM V yX10_isRule (.code yX10_isRule cX10_isRule 2 (Option.some Jvm.ClassFile.FieldType.boolean)) rm_X10_isRule 1 [(20, 203), (0, x1)] M Q
def wp_X10_isRule (V : VV) (x1 : Int) (M : Mem) (Q : Int → Mem → Prop) : Prop :=
  R_X10_in V x1 0 (w32 (M 203 5 - 1)) M (fun r1 M2 =>
  (r1 = 0 ∨ r1 = 1) ∧ Q r1 M2)
theorem of_X10_isRule {V : VV} {x1 : Int} {M : Mem} {Q : Int → Mem → Prop} (h : wp_X10_isRule V x1 M Q) : R_X10_isRule V x1 M Q := by
  refine met_in (own := "TreeHandsModel") (by decide +kernel) rfl rfl (Nat.le_of_ble_eq_true rfl) ?_
  intro X G Z hn hr hv
  subst hv
  unfold wp_X10_isRule at h
  show AW X 0 [(20, 203), (0, x1)] [] M
  refine am_iload_n (i := 1) (pc := 0) G dX10_isRule_0 rfl rfl ?_
  refine am_iconst (pc := 1) G dX10_isRule_1 (by decide) ?_
  refine am_aload_n (i := 0) (t := 17) (pc := 2) G dX10_isRule_2 rfl rfl rfl ?_
  refine gf_X10_5 (pc := 3) G dX10_isRule_3 tw_f_RX10_208 ?_
  refine am_iconst (pc := 6) G dX10_isRule_6 (by decide) ?_
  refine am_isub (pc := 7) G dX10_isRule_7 ?_
  refine am_callS (rk := 1) (rmc := rm_X10_in) (st := []) (pc := 8) G [(0, _), (0, _), (0, _)] dX10_isRule_8 tw_m_RX10_110 tw_s_X10_in tw_z_RX10 tw_c_X10_in hy_X10_in (callrm hr rfl) rfl (RunsM.mono h (fun r1 M2 h => ?_)) Z.rm
  show AW X 11 _ [(0, _)] M2
  exact am_zret (pc := 11) G Z dX10_isRule_11 h
-- X10_barred TreeHandsModel.barred(III)I
def rm_X10_barred : Room := { frames := 2, cells := 0, slots := 0, locals := 43 }
theorem hy_X10_barred : yX10_barred.cls ≠ "java/lang/invoke/MethodHandle" ∧ yX10_barred.cls ≠ "java/lang/invoke/VarHandle" ∧ (parseMethodDescriptor yX10_barred.desc).map (fun d => d.parameters.length) = some 3 := by decide +kernel
abbrev R_X10_barred (V : VV) (x1 x2 x3 : Int) (M : Mem) (Q : Int → Mem → Prop) : Prop := RunsM V yX10_barred (.code yX10_barred cX10_barred 4 (Option.some Jvm.ClassFile.FieldType.int)) rm_X10_barred 0 [(20, 203), (0, x1), (0, x2), (0, x3)] M Q
def wp_X10_barred (V : VV) (x1 x2 x3 : Int) (M : Mem) (Q : Int → Mem → Prop) : Prop :=
  R_X10_isRule V x1 M (fun r1 M2 =>
  (r1 = 0 →
    Q (-1) M2) ∧ (¬ (r1 = 0) →
    R_X10_isRule V x2 M2 (fun r3 M4 =>
    (r3 = 0 →
      Q (-1) M4) ∧ (¬ (r3 = 0) →
      ((0 : Int) ≤ w32 (6 + x1) ∧ w32 (6 + x1) < (21 : Int)) ∧
      R_X10_in V x3 0 (w32 (M4 204 (w32 (6 + x1)) - 1)) M4 (fun r5 M6 =>
      (r5 = 0 →
        Q (-1) M6) ∧ (¬ (r5 = 0) →
        ((0 : Int) ≤ w32 (w32 (32 * w32 (6 + x1)) + x3) ∧ w32 (w32 (32 * w32 (6 + x1)) + x3) < (672 : Int)) ∧
        R_X10_isHole V (M6 205 (w32 (w32 (32 * w32 (6 + x1)) + x3))) M6 (fun r7 M8 =>
        (r7 = 0 →
          (x1 = x2 →
            (x3 = 0 →
              Q (-5) M8) ∧ (¬ (x3 = 0) →
              Q 0 M8)) ∧ (¬ (x1 = x2) →
            Q 0 M8)) ∧ (¬ (r7 = 0) →
          Q (-5) M8))))))))
theorem of_X10_barred {V : VV} {x1 x2 x3 : Int} {M : Mem} {Q : Int → Mem → Prop} (h : wp_X10_barred V x1 x2 x3 M Q) : R_X10_barred V x1 x2 x3 M Q := by
  refine met_in (own := "TreeHandsModel") (by decide +kernel) rfl rfl (Nat.le_of_ble_eq_true rfl) ?_
  intro X G Z hn hr hv
  subst hv
  unfold wp_X10_barred at h
  show AW X 0 [(20, 203), (0, x1), (0, x2), (0, x3)] [] M
  refine am_aload_n (i := 0) (t := 17) (pc := 0) G dX10_barred_0 rfl rfl rfl ?_
  refine am_iload_n (i := 1) (pc := 1) G dX10_barred_1 rfl rfl ?_
  refine am_callV (rk := 1) (rmc := rm_X10_isRule) (st := []) (pc := 2) G 10 [(0, _)] rfl (by decide) rfl dX10_barred_2 tw_m_RX10_280 tw_i_X10_isRule tw_v_X10_isRule tw_z_RX10 tw_c_X10_isRule hy_X10_isRule (callrm hr rfl) rfl (RunsM.mono h (fun r1 M2 h => ?_)) Z.rm
  show AW X 5 _ [(0, _)] M2
  refine am_if_eq (pc := 5) G 35 dX10_barred_5 (by decide) (fun c => ?_) (fun c => ?_)
  · have h := h.1 c
    refine am_iconst (pc := 35) G dX10_barred_35 (by decide) ?_
    exact am_iret (pc := 36) G Z dX10_barred_36 h
  · have h := h.2 c
    refine am_aload_n (i := 0) (t := 17) (pc := 8) G dX10_barred_8 rfl rfl rfl ?_
    refine am_iload_n (i := 2) (pc := 9) G dX10_barred_9 rfl rfl ?_
    refine am_callV (rk := 1) (rmc := rm_X10_isRule) (st := []) (pc := 10) G 10 [(0, _)] rfl (by decide) rfl dX10_barred_10 tw_m_RX10_280 tw_i_X10_isRule tw_v_X10_isRule tw_z_RX10 tw_c_X10_isRule hy_X10_isRule (callrm hr rfl) rfl (RunsM.mono h (fun r3 M4 h => ?_)) Z.rm
    show AW X 13 _ [(0, _)] M4
    refine am_if_eq (pc := 13) G 35 dX10_barred_13 (by decide) (fun c => ?_) (fun c => ?_)
    · have h := h.1 c
      refine am_iconst (pc := 35) G dX10_barred_35 (by decide) ?_
      exact am_iret (pc := 36) G Z dX10_barred_36 h
    · have h := h.2 c
      refine am_iload_n (i := 3) (pc := 16) G dX10_barred_16 rfl rfl ?_
      refine am_iconst (pc := 17) G dX10_barred_17 (by decide) ?_
      refine am_aload_n (i := 0) (t := 17) (pc := 18) G dX10_barred_18 rfl rfl rfl ?_
      refine gf_X10_0 (pc := 19) G dX10_barred_19 tw_f_RX10_7 ?_
      refine am_bipush (pc := 22) G dX10_barred_22 (by decide) (by decide) ?_
      refine am_iload_n (i := 1) (pc := 24) G dX10_barred_24 rfl rfl ?_
      refine am_iadd (pc := 25) G dX10_barred_25 ?_
      refine am_iald (pc := 26) G 21 dX10_barred_26 (by decide) h.1 ?_
      have h := h.2
      refine am_iconst (pc := 27) G dX10_barred_27 (by decide) ?_
      refine am_isub (pc := 28) G dX10_barred_28 ?_
      refine am_callS (rk := 1) (rmc := rm_X10_in) (st := []) (pc := 29) G [(0, _), (0, _), (0, _)] dX10_barred_29 tw_m_RX10_110 tw_s_X10_in tw_z_RX10 tw_c_X10_in hy_X10_in (callrm hr rfl) rfl (RunsM.mono h (fun r5 M6 h => ?_)) Z.rm
      show AW X 32 _ [(0, _)] M6
      refine am_if_ne (pc := 32) G 37 dX10_barred_32 (by decide) (fun c => ?_) (fun c => ?_)
      · have h := h.2 c
        refine am_aload_n (i := 0) (t := 17) (pc := 37) G dX10_barred_37 rfl rfl rfl ?_
        refine gf_X10_1 (pc := 38) G dX10_barred_38 tw_f_RX10_13 ?_
        refine am_bipush (pc := 41) G dX10_barred_41 (by decide) (by decide) ?_
        refine am_bipush (pc := 43) G dX10_barred_43 (by decide) (by decide) ?_
        refine am_iload_n (i := 1) (pc := 45) G dX10_barred_45 rfl rfl ?_
        refine am_iadd (pc := 46) G dX10_barred_46 ?_
        refine am_imul (pc := 47) G dX10_barred_47 ?_
        refine am_iload_n (i := 3) (pc := 48) G dX10_barred_48 rfl rfl ?_
        refine am_iadd (pc := 49) G dX10_barred_49 ?_
        refine am_iald (pc := 50) G 672 dX10_barred_50 (by decide) h.1 ?_
        have h := h.2
        refine am_callS (rk := 1) (rmc := rm_X10_isHole) (st := []) (pc := 51) G [(0, _)] dX10_barred_51 tw_m_RX10_121 tw_s_X10_isHole tw_z_RX10 tw_c_X10_isHole hy_X10_isHole (callrm hr rfl) rfl (RunsM.mono h (fun r7 M8 h => ?_)) Z.rm
        show AW X 54 _ [(0, _)] M8
        refine am_if_ne (pc := 54) G 66 dX10_barred_54 (by decide) (fun c => ?_) (fun c => ?_)
        · have h := h.2 c
          refine am_bipush (pc := 66) G dX10_barred_66 (by decide) (by decide) ?_
          refine am_goto (pc := 68) G 72 dX10_barred_68 (by decide) ?_
          exact am_iret (pc := 72) G Z dX10_barred_72 h
        · have h := h.1 c
          refine am_iload_n (i := 1) (pc := 57) G dX10_barred_57 rfl rfl ?_
          refine am_iload_n (i := 2) (pc := 58) G dX10_barred_58 rfl rfl ?_
          refine am_icmp_ne (pc := 59) G 71 dX10_barred_59 (by decide) (fun c => ?_) (fun c => ?_)
          · have h := h.2 c
            refine am_iconst (pc := 71) G dX10_barred_71 (by decide) ?_
            exact am_iret (pc := 72) G Z dX10_barred_72 h
          · have h := h.1 c
            refine am_iload_n (i := 3) (pc := 62) G dX10_barred_62 rfl rfl ?_
            refine am_if_ne (pc := 63) G 71 dX10_barred_63 (by decide) (fun c => ?_) (fun c => ?_)
            · have h := h.2 c
              refine am_iconst (pc := 71) G dX10_barred_71 (by decide) ?_
              exact am_iret (pc := 72) G Z dX10_barred_72 h
            · have h := h.1 c
              refine am_bipush (pc := 66) G dX10_barred_66 (by decide) (by decide) ?_
              refine am_goto (pc := 68) G 72 dX10_barred_68 (by decide) ?_
              exact am_iret (pc := 72) G Z dX10_barred_72 h
      · have h := h.1 c
        refine am_iconst (pc := 35) G dX10_barred_35 (by decide) ?_
        exact am_iret (pc := 36) G Z dX10_barred_36 h
-- X10_overlap TreeHandsModel.overlap(III)I
def rm_X10_overlap : Room := { frames := 7, cells := 0, slots := 0, locals := 171 }
theorem hy_X10_overlap : yX10_overlap.cls ≠ "java/lang/invoke/MethodHandle" ∧ yX10_overlap.cls ≠ "java/lang/invoke/VarHandle" ∧ (parseMethodDescriptor yX10_overlap.desc).map (fun d => d.parameters.length) = some 3 := by decide +kernel
abbrev R_X10_overlap (V : VV) (x1 x2 x3 : Int) (M : Mem) (Q : Int → Mem → Prop) : Prop := RunsM V yX10_overlap (.code yX10_overlap cX10_overlap 5 (Option.some Jvm.ClassFile.FieldType.int)) rm_X10_overlap 0 [(20, 203), (0, x1), (0, x2), (0, x3)] M Q
def wp_X10_overlap (V : VV) (x1 x2 x3 : Int) (M : Mem) (Q : Int → Mem → Prop) : Prop :=
  R_X10_barred V x1 x2 x3 M (fun r1 M2 =>
  (0 ≤ r1 →
    R_X10_overlapOf V x1 x2 x3 M2 (fun r3 M4 =>
    Q r3 M4)) ∧ (¬ (0 ≤ r1) →
    Q r1 M2))
theorem of_X10_overlap {V : VV} {x1 x2 x3 : Int} {M : Mem} {Q : Int → Mem → Prop} (h : wp_X10_overlap V x1 x2 x3 M Q) : R_X10_overlap V x1 x2 x3 M Q := by
  refine met_in (own := "TreeHandsModel") (by decide +kernel) rfl rfl (Nat.le_of_ble_eq_true rfl) ?_
  intro X G Z hn hr hv
  subst hv
  unfold wp_X10_overlap at h
  show AW X 0 [(20, 203), (0, x1), (0, x2), (0, x3), (99, 0)] [] M
  refine am_aload_n (i := 0) (t := 17) (pc := 0) G dX10_overlap_0 rfl rfl rfl ?_
  refine am_iload_n (i := 1) (pc := 1) G dX10_overlap_1 rfl rfl ?_
  refine am_iload_n (i := 2) (pc := 2) G dX10_overlap_2 rfl rfl ?_
  refine am_iload_n (i := 3) (pc := 3) G dX10_overlap_3 rfl rfl ?_
  refine am_callV (rk := 0) (rmc := rm_X10_barred) (st := []) (pc := 4) G 10 [(0, _), (0, _), (0, _)] rfl (by decide) rfl dX10_overlap_4 tw_m_RX10_283 tw_i_X10_barred tw_v_X10_barred tw_z_RX10 tw_c_X10_barred hy_X10_barred (callrm hr rfl) rfl (RunsM.mono h (fun r1 M2 h => ?_)) Z.rm
  show AW X 7 _ [(0, _)] M2
  refine am_istore (pc := 7) G dX10_overlap_7 (nlx hn rfl) rfl ?_
  refine am_iload (pc := 9) (ls := [(20, _), (0, _), (0, _), (0, _), (0, _)]) G dX10_overlap_9 rfl ?_
  refine am_if_ge (pc := 11) G 19 dX10_overlap_11 (by decide) (fun c => ?_) (fun c => ?_)
  · have h := h.1 c
    refine am_aload_n (i := 0) (t := 17) (pc := 19) G dX10_overlap_19 rfl rfl rfl ?_
    refine am_iload_n (i := 1) (pc := 20) G dX10_overlap_20 rfl rfl ?_
    refine am_iload_n (i := 2) (pc := 21) G dX10_overlap_21 rfl rfl ?_
    refine am_iload_n (i := 3) (pc := 22) G dX10_overlap_22 rfl rfl ?_
    refine am_callV (rk := 0) (rmc := rm_X10_overlapOf) (st := []) (pc := 23) G 10 [(0, _), (0, _), (0, _)] rfl (by decide) rfl dX10_overlap_23 tw_m_RX10_287 tw_i_X10_overlapOf tw_v_X10_overlapOf tw_z_RX10 tw_c_X10_overlapOf hy_X10_overlapOf (callrm hr rfl) rfl (RunsM.mono h (fun r3 M4 h => ?_)) Z.rm
    show AW X 26 _ [(0, _)] M4
    exact am_iret (pc := 26) G Z dX10_overlap_26 h
  · have h := h.2 c
    refine am_iload (pc := 14) G dX10_overlap_14 rfl ?_
    refine am_goto (pc := 16) G 26 dX10_overlap_16 (by decide) ?_
    exact am_iret (pc := 26) G Z dX10_overlap_26 h
-- X10_peak TreeHandsModel.peak(IIII)I
def rm_X10_peak : Room := { frames := 6, cells := 0, slots := 0, locals := 146 }
theorem hy_X10_peak : yX10_peak.cls ≠ "java/lang/invoke/MethodHandle" ∧ yX10_peak.cls ≠ "java/lang/invoke/VarHandle" ∧ (parseMethodDescriptor yX10_peak.desc).map (fun d => d.parameters.length) = some 4 := by decide +kernel
abbrev R_X10_peak (V : VV) (x1 x2 x3 x4 : Int) (M : Mem) (Q : Int → Mem → Prop) : Prop := RunsM V yX10_peak (.code yX10_peak cX10_peak 10 (Option.some Jvm.ClassFile.FieldType.int)) rm_X10_peak 0 [(20, 203), (0, x1), (0, x2), (0, x3), (0, x4)] M Q
def wp_X10_peak_113_b (V : VV) (x4 x6 x7 x8 x9 : Int) (M : Mem) (Q : Int → Mem → Prop) (B76 : Int → Int → Mem → Prop) (B113 : Int → Mem → Prop) : Prop :=
  ((0 : Int) ≤ 18 ∧ 18 < (21 : Int)) ∧
  (M 204 18 ≤ x9 →
    B76 (w32 (x6 + 1)) (w32 (x7 + 1)) M) ∧ (¬ (M 204 18 ≤ x9) →
    ((0 : Int) ≤ w32 (576 + x9) ∧ w32 (576 + x9) < (672 : Int)) ∧
    (M 205 (w32 (576 + x9)) = x8 →
      ((0 : Int) ≤ w32 (576 + x9) ∧ w32 (576 + x9) < (672 : Int)) ∧
      B113 (w32 (x9 + 1)) (mset M 205 (w32 (576 + x9)) (w32 (65 + x6)))) ∧ (¬ (M 205 (w32 (576 + x9)) = x8) →
      ((0 : Int) ≤ w32 (576 + x9) ∧ w32 (576 + x9) < (672 : Int)) ∧
      ((0 : Int) ≤ w32 (576 + x9) ∧ w32 (576 + x9) < (672 : Int)) ∧
      B113 (w32 (x9 + 1)) (mset M 205 (w32 (576 + x9)) (M 205 (w32 (576 + x9))))))
theorem swp_X10_peak_113_b {X : XX} {Q : Int → Mem → Prop} (G : GX X cX10_peak "TreeHandsModel") (Z : RX X 0 Q) (hn : nLX X = 10) (hr : roomX X = rm_X10_peak) (x4 x6 x7 x8 x9 : Int) (M : Mem) (B76 : Int → Int → Mem → Prop) (k76 : ∀ (z6 z7 : Int) (N : Mem), B76 z6 z7 N → AW X 76 [(20, 203), (99, 0), (99, 0), (99, 0), (0, x4), (99, 0), (0, z6), (0, z7), (99, 0), (99, 0)] [] N) (B113 : Int → Mem → Prop) (k113 : ∀ (z9 : Int) (N : Mem), B113 z9 N → AW X 113 [(20, 203), (99, 0), (99, 0), (99, 0), (0, x4), (99, 0), (0, x6), (0, x7), (0, x8), (0, z9)] [] N) (h : wp_X10_peak_113_b (vX X) x4 x6 x7 x8 x9 M Q B76 B113) : AW X 113 [(20, 203), (99, 0), (99, 0), (99, 0), (0, x4), (99, 0), (0, x6), (0, x7), (0, x8), (0, x9)] [] M := by
  unfold wp_X10_peak_113_b at h
  refine am_iload (pc := 113) G dX10_peak_113 rfl ?_
  refine am_aload_n (i := 0) (t := 17) (pc := 115) G dX10_peak_115 rfl rfl rfl ?_
  refine gf_X10_0 (pc := 116) G dX10_peak_116 tw_f_RX10_7 ?_
  refine am_bipush (pc := 119) G dX10_peak_119 (by decide) (by decide) ?_
  refine am_iald (pc := 121) G 21 dX10_peak_121 (by decide) h.1 ?_
  have h := h.2
  refine am_icmp_ge (pc := 122) G 177 dX10_peak_122 (by decide) (fun c => ?_) (fun c => ?_)
  · have h := h.1 c
    refine am_iinc (pc := 177) G dX10_peak_177 rfl (nlx hn rfl) rfl ?_
    refine am_iinc (pc := 180) (ls := [(20, _), (99, _), (99, _), (99, _), (0, _), (99, _), (0, _), (0, _), (0, _), (0, _)]) G dX10_peak_180 rfl (nlx hn rfl) rfl ?_
    refine am_goto (pc := 183) (ls := [(20, _), (99, _), (99, _), (99, _), (0, _), (99, _), (0, _), (0, _), (0, _), (0, _)]) G 76 dX10_peak_183 (by decide) ?_
    refine am_le (ls' := [(20, _), (99, 0), (99, 0), (99, 0), (0, _), (99, 0), (0, _), (0, _), (99, 0), (99, 0)]) ⟨Or.inr rfl, ⟨Or.inl rfl, ⟨Or.inl rfl, ⟨Or.inl rfl, ⟨Or.inr rfl, ⟨Or.inl rfl, ⟨Or.inr rfl, ⟨Or.inr rfl, ⟨Or.inl rfl, ⟨Or.inl rfl, trivial⟩⟩⟩⟩⟩⟩⟩⟩⟩⟩ ?_
    exact k76 _ _ _ h
  · have h := h.2 c
    refine am_aload_n (i := 0) (t := 17) (pc := 125) G dX10_peak_125 rfl rfl rfl ?_
    refine gf_X10_1 (pc := 126) G dX10_peak_126 tw_f_RX10_13 ?_
    refine am_sipush (pc := 129) G dX10_peak_129 (by decide) (by decide) ?_
    refine am_iload (pc := 132) G dX10_peak_132 rfl ?_
    refine am_iadd (pc := 134) G dX10_peak_134 ?_
    refine am_aload_n (i := 0) (t := 17) (pc := 135) G dX10_peak_135 rfl rfl rfl ?_
    refine gf_X10_1 (pc := 136) G dX10_peak_136 tw_f_RX10_13 ?_
    refine am_sipush (pc := 139) G dX10_peak_139 (by decide) (by decide) ?_
    refine am_iload (pc := 142) G dX10_peak_142 rfl ?_
    refine am_iadd (pc := 144) G dX10_peak_144 ?_
    refine am_iald (pc := 145) G 672 dX10_peak_145 (by decide) h.1 ?_
    have h := h.2
    refine am_iload (pc := 146) G dX10_peak_146 rfl ?_
    refine am_icmp_ne (pc := 148) G 159 dX10_peak_148 (by decide) (fun c => ?_) (fun c => ?_)
    · have h := h.2 c
      refine am_aload_n (i := 0) (t := 17) (pc := 159) G dX10_peak_159 rfl rfl rfl ?_
      refine gf_X10_1 (pc := 160) G dX10_peak_160 tw_f_RX10_13 ?_
      refine am_sipush (pc := 163) G dX10_peak_163 (by decide) (by decide) ?_
      refine am_iload (pc := 166) G dX10_peak_166 rfl ?_
      refine am_iadd (pc := 168) G dX10_peak_168 ?_
      refine am_iald (pc := 169) G 672 dX10_peak_169 (by decide) h.1 ?_
      have h := h.2
      refine am_iast (pc := 170) G 672 dX10_peak_170 (by decide) h.1 ?_
      have h := h.2
      refine am_iinc (pc := 171) G dX10_peak_171 rfl (nlx hn rfl) rfl ?_
      refine am_goto (pc := 174) (ls := [(20, _), (99, _), (99, _), (99, _), (0, _), (99, _), (0, _), (0, _), (0, _), (0, _)]) G 113 dX10_peak_174 (by decide) ?_
      refine am_le (ls' := [(20, _), (99, 0), (99, 0), (99, 0), (0, _), (99, 0), (0, _), (0, _), (0, _), (0, _)]) ⟨Or.inr rfl, ⟨Or.inl rfl, ⟨Or.inl rfl, ⟨Or.inl rfl, ⟨Or.inr rfl, ⟨Or.inl rfl, ⟨Or.inr rfl, ⟨Or.inr rfl, ⟨Or.inr rfl, ⟨Or.inr rfl, trivial⟩⟩⟩⟩⟩⟩⟩⟩⟩⟩ ?_
      exact k113 _ _ h
    · have h := h.1 c
      refine am_bipush (pc := 151) G dX10_peak_151 (by decide) (by decide) ?_
      refine am_iload (pc := 153) G dX10_peak_153 rfl ?_
      refine am_iadd (pc := 155) G dX10_peak_155 ?_
      refine am_goto (pc := 156) G 170 dX10_peak_156 (by decide) ?_
      refine am_iast (pc := 170) G 672 dX10_peak_170 (by decide) h.1 ?_
      have h := h.2
      refine am_iinc (pc := 171) G dX10_peak_171 rfl (nlx hn rfl) rfl ?_
      refine am_goto (pc := 174) (ls := [(20, _), (99, _), (99, _), (99, _), (0, _), (99, _), (0, _), (0, _), (0, _), (0, _)]) G 113 dX10_peak_174 (by decide) ?_
      refine am_le (ls' := [(20, _), (99, 0), (99, 0), (99, 0), (0, _), (99, 0), (0, _), (0, _), (0, _), (0, _)]) ⟨Or.inr rfl, ⟨Or.inl rfl, ⟨Or.inl rfl, ⟨Or.inl rfl, ⟨Or.inr rfl, ⟨Or.inl rfl, ⟨Or.inr rfl, ⟨Or.inr rfl, ⟨Or.inr rfl, ⟨Or.inr rfl, trivial⟩⟩⟩⟩⟩⟩⟩⟩⟩⟩ ?_
      exact k113 _ _ h
def wp_X10_peak_113 (V : VV) (x4 x6 x7 x8 x9 : Int) (M : Mem) (Q : Int → Mem → Prop) (B76 : Int → Int → Mem → Prop) : Prop :=
  ∃ (I : Int → Mem → Prop) (μ : Int → Mem → Nat), I x9 M ∧ ∀ (y9 : Int) (N : Mem), I y9 N → wp_X10_peak_113_b V x4 x6 x7 x8 y9 N Q B76 (fun z9 N1 => I z9 N1 ∧ μ z9 N1 < μ y9 N)
theorem swp_X10_peak_113 {X : XX} {Q : Int → Mem → Prop} (G : GX X cX10_peak "TreeHandsModel") (Z : RX X 0 Q) (hn : nLX X = 10) (hr : roomX X = rm_X10_peak) (x4 x6 x7 x8 x9 : Int) (M : Mem) (B76 : Int → Int → Mem → Prop) (k76 : ∀ (z6 z7 : Int) (N : Mem), B76 z6 z7 N → AW X 76 [(20, 203), (99, 0), (99, 0), (99, 0), (0, x4), (99, 0), (0, z6), (0, z7), (99, 0), (99, 0)] [] N) (h : wp_X10_peak_113 (vX X) x4 x6 x7 x8 x9 M Q B76) : AW X 113 [(20, 203), (99, 0), (99, 0), (99, 0), (0, x4), (99, 0), (0, x6), (0, x7), (0, x8), (0, x9)] [] M := by
  unfold wp_X10_peak_113 at h
  obtain ⟨I, μ, hI, hs⟩ := h
  have key : ∀ (n : Nat) (y9 : Int) (N : Mem), μ y9 N < n → I y9 N → AW X 113 [(20, 203), (99, 0), (99, 0), (99, 0), (0, x4), (99, 0), (0, x6), (0, x7), (0, x8), (0, y9)] [] N := by
    intro n
    induction n with
    | zero => intro y9 N hlt; exact absurd hlt (Nat.not_lt_zero _)
    | succ n ih =>
      intro y9 N hlt hI
      exact swp_X10_peak_113_b G Z hn hr x4 x6 x7 x8 y9 N B76 k76 (fun z9 N1 => I z9 N1 ∧ μ z9 N1 < μ y9 N) (fun z9 N1 hz => ih z9 N1 (by omega) hz.1) (hs y9 N hI)
  exact key _ x9 M (Nat.lt_succ_self _) hI
def wp_X10_peak_76_b (V : VV) (x4 x6 x7 : Int) (M : Mem) (Q : Int → Mem → Prop) (B76 : Int → Int → Mem → Prop) : Prop :=
  ((0 : Int) ≤ 18 ∧ 18 < (21 : Int)) ∧
  (M 204 18 ≤ x7 →
    (x6 ≤ 8 →
      ((0 : Int) ≤ 18 ∧ 18 < (21 : Int)) ∧
      R_X10_copy V 18 0 (M 204 18) x4 M (fun _ M12 =>
      ((0 : Int) ≤ x4 ∧ x4 < (21 : Int)) ∧
      Q (M12 204 x4) M12)) ∧ (¬ (x6 ≤ 8) →
      Q (-4) M)) ∧ (¬ (M 204 18 ≤ x7) →
    ((0 : Int) ≤ w32 (576 + x7) ∧ w32 (576 + x7) < (672 : Int)) ∧
    ∀ v13 : Int, v13 = M 205 (w32 (576 + x7)) →
    (v13 < 1000 →
      B76 x6 (w32 (x7 + 1)) M) ∧ (¬ (v13 < 1000) →
      wp_X10_peak_113 V x4 x6 x7 v13 x7 M Q B76))
theorem swp_X10_peak_76_b {X : XX} {Q : Int → Mem → Prop} (G : GX X cX10_peak "TreeHandsModel") (Z : RX X 0 Q) (hn : nLX X = 10) (hr : roomX X = rm_X10_peak) (x4 x6 x7 : Int) (M : Mem) (B76 : Int → Int → Mem → Prop) (k76 : ∀ (z6 z7 : Int) (N : Mem), B76 z6 z7 N → AW X 76 [(20, 203), (99, 0), (99, 0), (99, 0), (0, x4), (99, 0), (0, z6), (0, z7), (99, 0), (99, 0)] [] N) (h : wp_X10_peak_76_b (vX X) x4 x6 x7 M Q B76) : AW X 76 [(20, 203), (99, 0), (99, 0), (99, 0), (0, x4), (99, 0), (0, x6), (0, x7), (99, 0), (99, 0)] [] M := by
  unfold wp_X10_peak_76_b at h
  refine am_iload (pc := 76) G dX10_peak_76 rfl ?_
  refine am_aload_n (i := 0) (t := 17) (pc := 78) G dX10_peak_78 rfl rfl rfl ?_
  refine gf_X10_0 (pc := 79) G dX10_peak_79 tw_f_RX10_7 ?_
  refine am_bipush (pc := 82) G dX10_peak_82 (by decide) (by decide) ?_
  refine am_iald (pc := 84) G 21 dX10_peak_84 (by decide) h.1 ?_
  have h := h.2
  refine am_icmp_ge (pc := 85) G 186 dX10_peak_85 (by decide) (fun c => ?_) (fun c => ?_)
  · have h := h.1 c
    refine am_iload (pc := 186) G dX10_peak_186 rfl ?_
    refine am_bipush (pc := 188) G dX10_peak_188 (by decide) (by decide) ?_
    refine am_icmp_le (pc := 190) G 196 dX10_peak_190 (by decide) (fun c => ?_) (fun c => ?_)
    · have h := h.1 c
      refine am_aload_n (i := 0) (t := 17) (pc := 196) G dX10_peak_196 rfl rfl rfl ?_
      refine am_bipush (pc := 197) G dX10_peak_197 (by decide) (by decide) ?_
      refine am_iconst (pc := 199) G dX10_peak_199 (by decide) ?_
      refine am_aload_n (i := 0) (t := 17) (pc := 200) G dX10_peak_200 rfl rfl rfl ?_
      refine gf_X10_0 (pc := 201) G dX10_peak_201 tw_f_RX10_7 ?_
      refine am_bipush (pc := 204) G dX10_peak_204 (by decide) (by decide) ?_
      refine am_iald (pc := 206) G 21 dX10_peak_206 (by decide) h.1 ?_
      have h := h.2
      refine am_iload (pc := 207) G dX10_peak_207 rfl ?_
      refine am_callV (rk := 4) (rmc := rm_X10_copy) (st := []) (pc := 209) G 10 [(0, _), (0, _), (0, _), (0, _)] rfl (by decide) rfl dX10_peak_209 tw_m_RX10_149 tw_i_X10_copy tw_v_X10_copy tw_z_RX10 tw_c_X10_copy hy_X10_copy (callrm hr rfl) rfl (RunsM.mono h (fun r11 M12 h => ?_)) Z.rm
      show AW X 212 _ [] M12
      refine am_aload_n (i := 0) (t := 17) (pc := 212) G dX10_peak_212 rfl rfl rfl ?_
      refine gf_X10_0 (pc := 213) G dX10_peak_213 tw_f_RX10_7 ?_
      refine am_iload (pc := 216) G dX10_peak_216 rfl ?_
      refine am_iald (pc := 218) G 21 dX10_peak_218 (by decide) h.1 ?_
      have h := h.2
      exact am_iret (pc := 219) G Z dX10_peak_219 h
    · have h := h.2 c
      refine am_bipush (pc := 193) G dX10_peak_193 (by decide) (by decide) ?_
      exact am_iret (pc := 195) G Z dX10_peak_195 h
  · have h := h.2 c
    refine am_aload_n (i := 0) (t := 17) (pc := 88) G dX10_peak_88 rfl rfl rfl ?_
    refine gf_X10_1 (pc := 89) G dX10_peak_89 tw_f_RX10_13 ?_
    refine am_sipush (pc := 92) G dX10_peak_92 (by decide) (by decide) ?_
    refine am_iload (pc := 95) G dX10_peak_95 rfl ?_
    refine am_iadd (pc := 97) G dX10_peak_97 ?_
    refine am_iald (pc := 98) G 672 dX10_peak_98 (by decide) h.1 ?_
    have h := h.2
    have h := h _ rfl
    refine am_istore (pc := 99) G dX10_peak_99 (nlx hn rfl) rfl ?_
    refine am_iload (pc := 101) (ls := [(20, _), (99, _), (99, _), (99, _), (0, _), (99, _), (0, _), (0, _), (0, _), (99, _)]) G dX10_peak_101 rfl ?_
    refine am_sipush (pc := 103) G dX10_peak_103 (by decide) (by decide) ?_
    refine am_icmp_lt (pc := 106) G 180 dX10_peak_106 (by decide) (fun c => ?_) (fun c => ?_)
    · have h := h.1 c
      refine am_iinc (pc := 180) G dX10_peak_180 rfl (nlx hn rfl) rfl ?_
      refine am_goto (pc := 183) (ls := [(20, _), (99, _), (99, _), (99, _), (0, _), (99, _), (0, _), (0, _), (0, _), (99, _)]) G 76 dX10_peak_183 (by decide) ?_
      refine am_le (ls' := [(20, _), (99, 0), (99, 0), (99, 0), (0, _), (99, 0), (0, _), (0, _), (99, 0), (99, 0)]) ⟨Or.inr rfl, ⟨Or.inl rfl, ⟨Or.inl rfl, ⟨Or.inl rfl, ⟨Or.inr rfl, ⟨Or.inl rfl, ⟨Or.inr rfl, ⟨Or.inr rfl, ⟨Or.inl rfl, ⟨Or.inl rfl, trivial⟩⟩⟩⟩⟩⟩⟩⟩⟩⟩ ?_
      exact k76 _ _ _ h
    · have h := h.2 c
      refine am_iload (pc := 109) G dX10_peak_109 rfl ?_
      refine am_istore (pc := 111) G dX10_peak_111 (nlx hn rfl) rfl ?_
      refine am_le (ls' := [(20, _), (99, 0), (99, 0), (99, 0), (0, _), (99, 0), (0, _), (0, _), (0, _), (0, _)]) ⟨Or.inr rfl, ⟨Or.inl rfl, ⟨Or.inl rfl, ⟨Or.inl rfl, ⟨Or.inr rfl, ⟨Or.inl rfl, ⟨Or.inr rfl, ⟨Or.inr rfl, ⟨Or.inr rfl, ⟨Or.inr rfl, trivial⟩⟩⟩⟩⟩⟩⟩⟩⟩⟩ ?_
      exact swp_X10_peak_113 G Z hn hr _ _ _ _ _ _ B76 k76 h
def wp_X10_peak_76 (V : VV) (x4 x6 x7 : Int) (M : Mem) (Q : Int → Mem → Prop) : Prop :=
  ∃ (I : Int → Int → Mem → Prop) (μ : Int → Int → Mem → Nat), I x6 x7 M ∧ ∀ (y6 y7 : Int) (N : Mem), I y6 y7 N → wp_X10_peak_76_b V x4 y6 y7 N Q (fun z6 z7 N1 => I z6 z7 N1 ∧ μ z6 z7 N1 < μ y6 y7 N)
theorem swp_X10_peak_76 {X : XX} {Q : Int → Mem → Prop} (G : GX X cX10_peak "TreeHandsModel") (Z : RX X 0 Q) (hn : nLX X = 10) (hr : roomX X = rm_X10_peak) (x4 x6 x7 : Int) (M : Mem) (h : wp_X10_peak_76 (vX X) x4 x6 x7 M Q) : AW X 76 [(20, 203), (99, 0), (99, 0), (99, 0), (0, x4), (99, 0), (0, x6), (0, x7), (99, 0), (99, 0)] [] M := by
  unfold wp_X10_peak_76 at h
  obtain ⟨I, μ, hI, hs⟩ := h
  have key : ∀ (n : Nat) (y6 y7 : Int) (N : Mem), μ y6 y7 N < n → I y6 y7 N → AW X 76 [(20, 203), (99, 0), (99, 0), (99, 0), (0, x4), (99, 0), (0, y6), (0, y7), (99, 0), (99, 0)] [] N := by
    intro n
    induction n with
    | zero => intro y6 y7 N hlt; exact absurd hlt (Nat.not_lt_zero _)
    | succ n ih =>
      intro y6 y7 N hlt hI
      exact swp_X10_peak_76_b G Z hn hr x4 y6 y7 N (fun z6 z7 N1 => I z6 z7 N1 ∧ μ z6 z7 N1 < μ y6 y7 N) (fun z6 z7 N1 hz => ih z6 z7 N1 (by omega) hz.1) (hs y6 y7 N hI)
  exact key _ x6 x7 M (Nat.lt_succ_self _) hI
def wp_X10_peak (V : VV) (x1 x2 x3 x4 : Int) (M : Mem) (Q : Int → Mem → Prop) : Prop :=
  R_X10_barred V x1 x2 x3 M (fun r1 M2 =>
  (r1 = (-1) →
    Q (-1) M2) ∧ (¬ (r1 = (-1)) →
    R_X10_isTree V x4 M2 (fun r3 M4 =>
    (r3 = 0 →
      Q (-1) M4) ∧ (¬ (r3 = 0) →
      (0 ≤ r1 →
        ∀ M5 : Mem, M5 = mset M4 203 38 x1 →
        ∀ M6 : Mem, M6 = mset M5 203 39 x2 →
        R_X10_unify V x3 16 M6 (fun r7 M8 =>
        (r7 = 0 →
          Q (-3) M8) ∧ (¬ (r7 = 0) →
          R_X10_spread V 0 (-1) 18 M8 (fun r9 M10 =>
          (r9 = 0 →
            Q (-4) M10) ∧ (¬ (r9 = 0) →
            wp_X10_peak_76 V x4 0 0 M10 Q))))) ∧ (¬ (0 ≤ r1) →
        Q r1 M4)))))
theorem of_X10_peak {V : VV} {x1 x2 x3 x4 : Int} {M : Mem} {Q : Int → Mem → Prop} (h : wp_X10_peak V x1 x2 x3 x4 M Q) : R_X10_peak V x1 x2 x3 x4 M Q := by
  refine met_in (own := "TreeHandsModel") (by decide +kernel) rfl rfl (Nat.le_of_ble_eq_true rfl) ?_
  intro X G Z hn hr hv
  subst hv
  unfold wp_X10_peak at h
  show AW X 0 [(20, 203), (0, x1), (0, x2), (0, x3), (0, x4), (99, 0), (99, 0), (99, 0), (99, 0), (99, 0)] [] M
  refine am_aload_n (i := 0) (t := 17) (pc := 0) G dX10_peak_0 rfl rfl rfl ?_
  refine am_iload_n (i := 1) (pc := 1) G dX10_peak_1 rfl rfl ?_
  refine am_iload_n (i := 2) (pc := 2) G dX10_peak_2 rfl rfl ?_
  refine am_iload_n (i := 3) (pc := 3) G dX10_peak_3 rfl rfl ?_
  refine am_callV (rk := 0) (rmc := rm_X10_barred) (st := []) (pc := 4) G 10 [(0, _), (0, _), (0, _)] rfl (by decide) rfl dX10_peak_4 tw_m_RX10_283 tw_i_X10_barred tw_v_X10_barred tw_z_RX10 tw_c_X10_barred hy_X10_barred (callrm hr rfl) rfl (RunsM.mono h (fun r1 M2 h => ?_)) Z.rm
  show AW X 7 _ [(0, _)] M2
  refine am_istore (pc := 7) G dX10_peak_7 (nlx hn rfl) rfl ?_
  refine am_iload (pc := 9) (ls := [(20, _), (0, _), (0, _), (0, _), (0, _), (0, _), (99, _), (99, _), (99, _), (99, _)]) G dX10_peak_9 rfl ?_
  refine am_iconst (pc := 11) G dX10_peak_11 (by decide) ?_
  refine am_icmp_eq (pc := 12) G 23 dX10_peak_12 (by decide) (fun c => ?_) (fun c => ?_)
  · have h := h.1 c
    refine am_iconst (pc := 23) G dX10_peak_23 (by decide) ?_
    exact am_iret (pc := 24) G Z dX10_peak_24 h
  · have h := h.2 c
    refine am_iload (pc := 15) G dX10_peak_15 rfl ?_
    refine am_callS (rk := 1) (rmc := rm_X10_isTree) (st := []) (pc := 17) G [(0, _)] dX10_peak_17 tw_m_RX10_114 tw_s_X10_isTree tw_z_RX10 tw_c_X10_isTree hy_X10_isTree (callrm hr rfl) rfl (RunsM.mono h (fun r3 M4 h => ?_)) Z.rm
    show AW X 20 _ [(0, _)] M4
    refine am_if_ne (pc := 20) G 25 dX10_peak_20 (by decide) (fun c => ?_) (fun c => ?_)
    · have h := h.2 c
      refine am_iload (pc := 25) G dX10_peak_25 rfl ?_
      refine am_if_ge (pc := 27) G 33 dX10_peak_27 (by decide) (fun c => ?_) (fun c => ?_)
      · have h := h.1 c
        refine am_aload_n (i := 0) (t := 17) (pc := 33) G dX10_peak_33 rfl rfl rfl ?_
        refine am_iload_n (i := 1) (pc := 34) G dX10_peak_34 rfl rfl ?_
        refine pf_X10_38 (pc := 35) G dX10_peak_35 tw_f_RX10_246 ?_
        refine am_aload_n (i := 0) (t := 17) (pc := 38) G dX10_peak_38 rfl rfl rfl ?_
        refine am_iload_n (i := 2) (pc := 39) G dX10_peak_39 rfl rfl ?_
        have h := h _ rfl
        refine pf_X10_39 (pc := 40) G dX10_peak_40 tw_f_RX10_249 ?_
        refine am_aload_n (i := 0) (t := 17) (pc := 43) G dX10_peak_43 rfl rfl rfl ?_
        refine am_iload_n (i := 3) (pc := 44) G dX10_peak_44 rfl rfl ?_
        refine am_bipush (pc := 45) G dX10_peak_45 (by decide) (by decide) ?_
        have h := h _ rfl
        refine am_callV (rk := 1) (rmc := rm_X10_unify) (st := []) (pc := 47) G 10 [(0, _), (0, _)] rfl (by decide) rfl dX10_peak_47 tw_m_RX10_274 tw_i_X10_unify tw_v_X10_unify tw_z_RX10 tw_c_X10_unify hy_X10_unify (callrm hr rfl) rfl (RunsM.mono h (fun r7 M8 h => ?_)) Z.rm
        show AW X 50 _ [(0, _)] M8
        refine am_if_ne (pc := 50) G 56 dX10_peak_50 (by decide) (fun c => ?_) (fun c => ?_)
        · have h := h.2 c
          refine am_aload_n (i := 0) (t := 17) (pc := 56) G dX10_peak_56 rfl rfl rfl ?_
          refine am_iconst (pc := 57) G dX10_peak_57 (by decide) ?_
          refine am_iconst (pc := 58) G dX10_peak_58 (by decide) ?_
          refine am_bipush (pc := 59) G dX10_peak_59 (by decide) (by decide) ?_
          refine am_callV (rk := 1) (rmc := rm_X10_spread) (st := []) (pc := 61) G 10 [(0, _), (0, _), (0, _)] rfl (by decide) rfl dX10_peak_61 tw_m_RX10_277 tw_i_X10_spread tw_v_X10_spread tw_z_RX10 tw_c_X10_spread hy_X10_spread (callrm hr rfl) rfl (RunsM.mono h (fun r9 M10 h => ?_)) Z.rm
          show AW X 64 _ [(0, _)] M10
          refine am_if_ne (pc := 64) G 70 dX10_peak_64 (by decide) (fun c => ?_) (fun c => ?_)
          · have h := h.2 c
            refine am_iconst (pc := 70) G dX10_peak_70 (by decide) ?_
            refine am_istore (pc := 71) G dX10_peak_71 (nlx hn rfl) rfl ?_
            refine am_iconst (pc := 73) (ls := [(20, _), (0, _), (0, _), (0, _), (0, _), (0, _), (0, _), (99, _), (99, _), (99, _)]) G dX10_peak_73 (by decide) ?_
            refine am_istore (pc := 74) G dX10_peak_74 (nlx hn rfl) rfl ?_
            refine am_le (ls' := [(20, _), (99, 0), (99, 0), (99, 0), (0, _), (99, 0), (0, _), (0, _), (99, 0), (99, 0)]) ⟨Or.inr rfl, ⟨Or.inl rfl, ⟨Or.inl rfl, ⟨Or.inl rfl, ⟨Or.inr rfl, ⟨Or.inl rfl, ⟨Or.inr rfl, ⟨Or.inr rfl, ⟨Or.inl rfl, ⟨Or.inl rfl, trivial⟩⟩⟩⟩⟩⟩⟩⟩⟩⟩ ?_
            exact swp_X10_peak_76 G Z hn hr _ _ _ _ h
          · have h := h.1 c
            refine am_bipush (pc := 67) G dX10_peak_67 (by decide) (by decide) ?_
            exact am_iret (pc := 69) G Z dX10_peak_69 h
        · have h := h.1 c
          refine am_bipush (pc := 53) G dX10_peak_53 (by decide) (by decide) ?_
          exact am_iret (pc := 55) G Z dX10_peak_55 h
      · have h := h.2 c
        refine am_iload (pc := 30) G dX10_peak_30 rfl ?_
        exact am_iret (pc := 32) G Z dX10_peak_32 h
    · have h := h.1 c
      refine am_iconst (pc := 23) G dX10_peak_23 (by decide) ?_
      exact am_iret (pc := 24) G Z dX10_peak_24 h
-- X10_overlaps TreeHandsModel.overlaps(I)I
def rm_X10_overlaps : Room := { frames := 7, cells := 0, slots := 0, locals := 171 }
theorem hy_X10_overlaps : yX10_overlaps.cls ≠ "java/lang/invoke/MethodHandle" ∧ yX10_overlaps.cls ≠ "java/lang/invoke/VarHandle" ∧ (parseMethodDescriptor yX10_overlaps.desc).map (fun d => d.parameters.length) = some 1 := by decide +kernel
abbrev R_X10_overlaps (V : VV) (x1 : Int) (M : Mem) (Q : Int → Mem → Prop) : Prop := RunsM V yX10_overlaps (.code yX10_overlaps cX10_overlaps 7 (Option.some Jvm.ClassFile.FieldType.int)) rm_X10_overlaps 0 [(20, 203), (0, x1)] M Q
def wp_X10_overlaps_147 (V : VV) (x1 x3 x4 x5 s0 s1 : Int) (M : Mem) (Q : Int → Mem → Prop) (B16 : Int → Int → Mem → Prop) (B27 : Int → Int → Mem → Prop) (B39 : Int → Int → Mem → Prop) : Prop :=
  B39 (w32 (s1 + s0)) (w32 (x5 + 1)) M
theorem swp_X10_overlaps_147 {X : XX} {Q : Int → Mem → Prop} (G : GX X cX10_overlaps "TreeHandsModel") (Z : RX X 0 Q) (hn : nLX X = 7) (hr : roomX X = rm_X10_overlaps) (x1 x3 x4 x5 s0 s1 : Int) (M : Mem) (B16 : Int → Int → Mem → Prop) (B27 : Int → Int → Mem → Prop) (B39 : Int → Int → Mem → Prop) (k16 : ∀ (z2 z3 : Int) (N : Mem), B16 z2 z3 N → AW X 16 [(20, 203), (0, x1), (0, z2), (0, z3), (99, 0), (99, 0), (99, 0)] [] N) (k27 : ∀ (z2 z4 : Int) (N : Mem), B27 z2 z4 N → AW X 27 [(20, 203), (0, x1), (0, z2), (0, x3), (0, z4), (99, 0), (99, 0)] [] N) (k39 : ∀ (z2 z5 : Int) (N : Mem), B39 z2 z5 N → AW X 39 [(20, 203), (0, x1), (0, z2), (0, x3), (0, x4), (0, z5), (99, 0)] [] N) (h : wp_X10_overlaps_147 (vX X) x1 x3 x4 x5 s0 s1 M Q B16 B27 B39) : AW X 147 [(20, 203), (0, x1), (99, 0), (0, x3), (0, x4), (0, x5), (99, 0)] [(0, s0), (0, s1)] M := by
  unfold wp_X10_overlaps_147 at h
  refine am_iadd (pc := 147) G dX10_overlaps_147 ?_
  refine am_istore_n (pc := 148) G dX10_overlaps_148 rfl (nlx hn rfl) rfl ?_
  refine am_iinc (pc := 149) (ls := [(20, _), (0, _), (0, _), (0, _), (0, _), (0, _), (99, _)]) G dX10_overlaps_149 rfl (nlx hn rfl) rfl ?_
  refine am_goto (pc := 152) (ls := [(20, _), (0, _), (0, _), (0, _), (0, _), (0, _), (99, _)]) G 39 dX10_overlaps_152 (by decide) ?_
  refine am_le (ls' := [(20, _), (0, _), (0, _), (0, _), (0, _), (0, _), (99, 0)]) ⟨Or.inr rfl, ⟨Or.inr rfl, ⟨Or.inr rfl, ⟨Or.inr rfl, ⟨Or.inr rfl, ⟨Or.inr rfl, ⟨Or.inl rfl, trivial⟩⟩⟩⟩⟩⟩⟩ ?_
  exact k39 _ _ _ h
def wp_X10_overlaps_78 (V : VV) (x1 x2 x3 x4 x5 s0 : Int) (M : Mem) (Q : Int → Mem → Prop) (B16 : Int → Int → Mem → Prop) (B27 : Int → Int → Mem → Prop) (B39 : Int → Int → Mem → Prop) : Prop :=
  (x1 = 0 →
    (s0 ≤ 0 →
      wp_X10_overlaps_147 V x1 x3 x4 x5 0 x2 M Q B16 B27 B39) ∧ (¬ (s0 ≤ 0) →
      wp_X10_overlaps_147 V x1 x3 x4 x5 1 x2 M Q B16 B27 B39)) ∧ (¬ (x1 = 0) →
    (x1 = 1 →
      (s0 = 2 →
        wp_X10_overlaps_147 V x1 x3 x4 x5 1 x2 M Q B16 B27 B39) ∧ (¬ (s0 = 2) →
        wp_X10_overlaps_147 V x1 x3 x4 x5 0 x2 M Q B16 B27 B39)) ∧ (¬ (x1 = 1) →
      (x1 = 2 →
        (s0 = 1 →
          wp_X10_overlaps_147 V x1 x3 x4 x5 1 x2 M Q B16 B27 B39) ∧ (¬ (s0 = 1) →
          wp_X10_overlaps_147 V x1 x3 x4 x5 0 x2 M Q B16 B27 B39)) ∧ (¬ (x1 = 2) →
        (s0 = 3 →
          wp_X10_overlaps_147 V x1 x3 x4 x5 1 x2 M Q B16 B27 B39) ∧ (¬ (s0 = 3) →
          wp_X10_overlaps_147 V x1 x3 x4 x5 0 x2 M Q B16 B27 B39))))
theorem swp_X10_overlaps_78 {X : XX} {Q : Int → Mem → Prop} (G : GX X cX10_overlaps "TreeHandsModel") (Z : RX X 0 Q) (hn : nLX X = 7) (hr : roomX X = rm_X10_overlaps) (x1 x2 x3 x4 x5 s0 : Int) (M : Mem) (B16 : Int → Int → Mem → Prop) (B27 : Int → Int → Mem → Prop) (B39 : Int → Int → Mem → Prop) (k16 : ∀ (z2 z3 : Int) (N : Mem), B16 z2 z3 N → AW X 16 [(20, 203), (0, x1), (0, z2), (0, z3), (99, 0), (99, 0), (99, 0)] [] N) (k27 : ∀ (z2 z4 : Int) (N : Mem), B27 z2 z4 N → AW X 27 [(20, 203), (0, x1), (0, z2), (0, x3), (0, z4), (99, 0), (99, 0)] [] N) (k39 : ∀ (z2 z5 : Int) (N : Mem), B39 z2 z5 N → AW X 39 [(20, 203), (0, x1), (0, z2), (0, x3), (0, x4), (0, z5), (99, 0)] [] N) (h : wp_X10_overlaps_78 (vX X) x1 x2 x3 x4 x5 s0 M Q B16 B27 B39) : AW X 78 [(20, 203), (0, x1), (0, x2), (0, x3), (0, x4), (0, x5), (99, 0)] [(0, s0)] M := by
  unfold wp_X10_overlaps_78 at h
  refine am_istore (pc := 78) G dX10_overlaps_78 (nlx hn rfl) rfl ?_
  refine am_iload_n (i := 2) (pc := 80) (ls := [(20, _), (0, _), (0, _), (0, _), (0, _), (0, _), (0, _)]) G dX10_overlaps_80 rfl rfl ?_
  refine am_iload_n (i := 1) (pc := 81) G dX10_overlaps_81 rfl rfl ?_
  refine am_if_ne (pc := 82) G 98 dX10_overlaps_82 (by decide) (fun c => ?_) (fun c => ?_)
  · have h := h.2 c
    refine am_iload_n (i := 1) (pc := 98) G dX10_overlaps_98 rfl rfl ?_
    refine am_iconst (pc := 99) G dX10_overlaps_99 (by decide) ?_
    refine am_icmp_ne (pc := 100) G 117 dX10_overlaps_100 (by decide) (fun c => ?_) (fun c => ?_)
    · have h := h.2 c
      refine am_iload_n (i := 1) (pc := 117) G dX10_overlaps_117 rfl rfl ?_
      refine am_iconst (pc := 118) G dX10_overlaps_118 (by decide) ?_
      refine am_icmp_ne (pc := 119) G 136 dX10_overlaps_119 (by decide) (fun c => ?_) (fun c => ?_)
      · have h := h.2 c
        refine am_iload (pc := 136) G dX10_overlaps_136 rfl ?_
        refine am_iconst (pc := 138) G dX10_overlaps_138 (by decide) ?_
        refine am_icmp_ne (pc := 139) G 146 dX10_overlaps_139 (by decide) (fun c => ?_) (fun c => ?_)
        · have h := h.2 c
          refine am_iconst (pc := 146) G dX10_overlaps_146 (by decide) ?_
          refine am_le (ls' := [(20, _), (0, _), (99, 0), (0, _), (0, _), (0, _), (99, 0)]) ⟨Or.inr rfl, ⟨Or.inr rfl, ⟨Or.inl rfl, ⟨Or.inr rfl, ⟨Or.inr rfl, ⟨Or.inr rfl, ⟨Or.inl rfl, trivial⟩⟩⟩⟩⟩⟩⟩ ?_
          exact swp_X10_overlaps_147 G Z hn hr _ _ _ _ _ _ _ B16 B27 B39 k16 k27 k39 h
        · have h := h.1 c
          refine am_iconst (pc := 142) G dX10_overlaps_142 (by decide) ?_
          refine am_goto (pc := 143) G 147 dX10_overlaps_143 (by decide) ?_
          refine am_le (ls' := [(20, _), (0, _), (99, 0), (0, _), (0, _), (0, _), (99, 0)]) ⟨Or.inr rfl, ⟨Or.inr rfl, ⟨Or.inl rfl, ⟨Or.inr rfl, ⟨Or.inr rfl, ⟨Or.inr rfl, ⟨Or.inl rfl, trivial⟩⟩⟩⟩⟩⟩⟩ ?_
          exact swp_X10_overlaps_147 G Z hn hr _ _ _ _ _ _ _ B16 B27 B39 k16 k27 k39 h
      · have h := h.1 c
        refine am_iload (pc := 122) G dX10_overlaps_122 rfl ?_
        refine am_iconst (pc := 124) G dX10_overlaps_124 (by decide) ?_
        refine am_icmp_ne (pc := 125) G 132 dX10_overlaps_125 (by decide) (fun c => ?_) (fun c => ?_)
        · have h := h.2 c
          refine am_iconst (pc := 132) G dX10_overlaps_132 (by decide) ?_
          refine am_goto (pc := 133) G 147 dX10_overlaps_133 (by decide) ?_
          refine am_le (ls' := [(20, _), (0, _), (99, 0), (0, _), (0, _), (0, _), (99, 0)]) ⟨Or.inr rfl, ⟨Or.inr rfl, ⟨Or.inl rfl, ⟨Or.inr rfl, ⟨Or.inr rfl, ⟨Or.inr rfl, ⟨Or.inl rfl, trivial⟩⟩⟩⟩⟩⟩⟩ ?_
          exact swp_X10_overlaps_147 G Z hn hr _ _ _ _ _ _ _ B16 B27 B39 k16 k27 k39 h
        · have h := h.1 c
          refine am_iconst (pc := 128) G dX10_overlaps_128 (by decide) ?_
          refine am_goto (pc := 129) G 147 dX10_overlaps_129 (by decide) ?_
          refine am_le (ls' := [(20, _), (0, _), (99, 0), (0, _), (0, _), (0, _), (99, 0)]) ⟨Or.inr rfl, ⟨Or.inr rfl, ⟨Or.inl rfl, ⟨Or.inr rfl, ⟨Or.inr rfl, ⟨Or.inr rfl, ⟨Or.inl rfl, trivial⟩⟩⟩⟩⟩⟩⟩ ?_
          exact swp_X10_overlaps_147 G Z hn hr _ _ _ _ _ _ _ B16 B27 B39 k16 k27 k39 h
    · have h := h.1 c
      refine am_iload (pc := 103) G dX10_overlaps_103 rfl ?_
      refine am_iconst (pc := 105) G dX10_overlaps_105 (by decide) ?_
      refine am_icmp_ne (pc := 106) G 113 dX10_overlaps_106 (by decide) (fun c => ?_) (fun c => ?_)
      · have h := h.2 c
        refine am_iconst (pc := 113) G dX10_overlaps_113 (by decide) ?_
        refine am_goto (pc := 114) G 147 dX10_overlaps_114 (by decide) ?_
        refine am_le (ls' := [(20, _), (0, _), (99, 0), (0, _), (0, _), (0, _), (99, 0)]) ⟨Or.inr rfl, ⟨Or.inr rfl, ⟨Or.inl rfl, ⟨Or.inr rfl, ⟨Or.inr rfl, ⟨Or.inr rfl, ⟨Or.inl rfl, trivial⟩⟩⟩⟩⟩⟩⟩ ?_
        exact swp_X10_overlaps_147 G Z hn hr _ _ _ _ _ _ _ B16 B27 B39 k16 k27 k39 h
      · have h := h.1 c
        refine am_iconst (pc := 109) G dX10_overlaps_109 (by decide) ?_
        refine am_goto (pc := 110) G 147 dX10_overlaps_110 (by decide) ?_
        refine am_le (ls' := [(20, _), (0, _), (99, 0), (0, _), (0, _), (0, _), (99, 0)]) ⟨Or.inr rfl, ⟨Or.inr rfl, ⟨Or.inl rfl, ⟨Or.inr rfl, ⟨Or.inr rfl, ⟨Or.inr rfl, ⟨Or.inl rfl, trivial⟩⟩⟩⟩⟩⟩⟩ ?_
        exact swp_X10_overlaps_147 G Z hn hr _ _ _ _ _ _ _ B16 B27 B39 k16 k27 k39 h
  · have h := h.1 c
    refine am_iload (pc := 85) G dX10_overlaps_85 rfl ?_
    refine am_if_le (pc := 87) G 94 dX10_overlaps_87 (by decide) (fun c => ?_) (fun c => ?_)
    · have h := h.1 c
      refine am_iconst (pc := 94) G dX10_overlaps_94 (by decide) ?_
      refine am_goto (pc := 95) G 147 dX10_overlaps_95 (by decide) ?_
      refine am_le (ls' := [(20, _), (0, _), (99, 0), (0, _), (0, _), (0, _), (99, 0)]) ⟨Or.inr rfl, ⟨Or.inr rfl, ⟨Or.inl rfl, ⟨Or.inr rfl, ⟨Or.inr rfl, ⟨Or.inr rfl, ⟨Or.inl rfl, trivial⟩⟩⟩⟩⟩⟩⟩ ?_
      exact swp_X10_overlaps_147 G Z hn hr _ _ _ _ _ _ _ B16 B27 B39 k16 k27 k39 h
    · have h := h.2 c
      refine am_iconst (pc := 90) G dX10_overlaps_90 (by decide) ?_
      refine am_goto (pc := 91) G 147 dX10_overlaps_91 (by decide) ?_
      refine am_le (ls' := [(20, _), (0, _), (99, 0), (0, _), (0, _), (0, _), (99, 0)]) ⟨Or.inr rfl, ⟨Or.inr rfl, ⟨Or.inl rfl, ⟨Or.inr rfl, ⟨Or.inr rfl, ⟨Or.inr rfl, ⟨Or.inl rfl, trivial⟩⟩⟩⟩⟩⟩⟩ ?_
      exact swp_X10_overlaps_147 G Z hn hr _ _ _ _ _ _ _ B16 B27 B39 k16 k27 k39 h
def wp_X10_overlaps_39_b (V : VV) (x1 x2 x3 x4 x5 : Int) (M : Mem) (Q : Int → Mem → Prop) (B16 : Int → Int → Mem → Prop) (B27 : Int → Int → Mem → Prop) (B39 : Int → Int → Mem → Prop) : Prop :=
  ((0 : Int) ≤ w32 (6 + x3) ∧ w32 (6 + x3) < (21 : Int)) ∧
  (M 204 (w32 (6 + x3)) ≤ x5 →
    B27 x2 (w32 (x4 + 1)) M) ∧ (¬ (M 204 (w32 (6 + x3)) ≤ x5) →
    R_X10_barred V x3 x4 x5 M (fun r3 M4 =>
    (0 ≤ r3 →
      R_X10_overlapOf V x3 x4 x5 M4 (fun r5 M6 =>
      wp_X10_overlaps_78 V x1 x2 x3 x4 x5 r5 M6 Q B16 B27 B39)) ∧ (¬ (0 ≤ r3) →
      wp_X10_overlaps_78 V x1 x2 x3 x4 x5 0 M4 Q B16 B27 B39)))
theorem swp_X10_overlaps_39_b {X : XX} {Q : Int → Mem → Prop} (G : GX X cX10_overlaps "TreeHandsModel") (Z : RX X 0 Q) (hn : nLX X = 7) (hr : roomX X = rm_X10_overlaps) (x1 x2 x3 x4 x5 : Int) (M : Mem) (B16 : Int → Int → Mem → Prop) (B27 : Int → Int → Mem → Prop) (k16 : ∀ (z2 z3 : Int) (N : Mem), B16 z2 z3 N → AW X 16 [(20, 203), (0, x1), (0, z2), (0, z3), (99, 0), (99, 0), (99, 0)] [] N) (k27 : ∀ (z2 z4 : Int) (N : Mem), B27 z2 z4 N → AW X 27 [(20, 203), (0, x1), (0, z2), (0, x3), (0, z4), (99, 0), (99, 0)] [] N) (B39 : Int → Int → Mem → Prop) (k39 : ∀ (z2 z5 : Int) (N : Mem), B39 z2 z5 N → AW X 39 [(20, 203), (0, x1), (0, z2), (0, x3), (0, x4), (0, z5), (99, 0)] [] N) (h : wp_X10_overlaps_39_b (vX X) x1 x2 x3 x4 x5 M Q B16 B27 B39) : AW X 39 [(20, 203), (0, x1), (0, x2), (0, x3), (0, x4), (0, x5), (99, 0)] [] M := by
  unfold wp_X10_overlaps_39_b at h
  refine am_iload (pc := 39) G dX10_overlaps_39 rfl ?_
  refine am_aload_n (i := 0) (t := 17) (pc := 41) G dX10_overlaps_41 rfl rfl rfl ?_
  refine gf_X10_0 (pc := 42) G dX10_overlaps_42 tw_f_RX10_7 ?_
  refine am_bipush (pc := 45) G dX10_overlaps_45 (by decide) (by decide) ?_
  refine am_iload_n (i := 3) (pc := 47) G dX10_overlaps_47 rfl rfl ?_
  refine am_iadd (pc := 48) G dX10_overlaps_48 ?_
  refine am_iald (pc := 49) G 21 dX10_overlaps_49 (by decide) h.1 ?_
  have h := h.2
  refine am_icmp_ge (pc := 50) G 155 dX10_overlaps_50 (by decide) (fun c => ?_) (fun c => ?_)
  · have h := h.1 c
    refine am_iinc (pc := 155) G dX10_overlaps_155 rfl (nlx hn rfl) rfl ?_
    refine am_goto (pc := 158) (ls := [(20, _), (0, _), (0, _), (0, _), (0, _), (0, _), (99, _)]) G 27 dX10_overlaps_158 (by decide) ?_
    refine am_le (ls' := [(20, _), (0, _), (0, _), (0, _), (0, _), (99, 0), (99, 0)]) ⟨Or.inr rfl, ⟨Or.inr rfl, ⟨Or.inr rfl, ⟨Or.inr rfl, ⟨Or.inr rfl, ⟨Or.inl rfl, ⟨Or.inl rfl, trivial⟩⟩⟩⟩⟩⟩⟩ ?_
    exact k27 _ _ _ h
  · have h := h.2 c
    refine am_aload_n (i := 0) (t := 17) (pc := 53) G dX10_overlaps_53 rfl rfl rfl ?_
    refine am_iload_n (i := 3) (pc := 54) G dX10_overlaps_54 rfl rfl ?_
    refine am_iload (pc := 55) G dX10_overlaps_55 rfl ?_
    refine am_iload (pc := 57) G dX10_overlaps_57 rfl ?_
    refine am_callV (rk := 0) (rmc := rm_X10_barred) (st := []) (pc := 59) G 10 [(0, _), (0, _), (0, _)] rfl (by decide) rfl dX10_overlaps_59 tw_m_RX10_283 tw_i_X10_barred tw_v_X10_barred tw_z_RX10 tw_c_X10_barred hy_X10_barred (callrm hr rfl) rfl (RunsM.mono h (fun r3 M4 h => ?_)) Z.rm
    show AW X 62 _ [(0, _)] M4
    refine am_if_ge (pc := 62) G 69 dX10_overlaps_62 (by decide) (fun c => ?_) (fun c => ?_)
    · have h := h.1 c
      refine am_aload_n (i := 0) (t := 17) (pc := 69) G dX10_overlaps_69 rfl rfl rfl ?_
      refine am_iload_n (i := 3) (pc := 70) G dX10_overlaps_70 rfl rfl ?_
      refine am_iload (pc := 71) G dX10_overlaps_71 rfl ?_
      refine am_iload (pc := 73) G dX10_overlaps_73 rfl ?_
      refine am_callV (rk := 0) (rmc := rm_X10_overlapOf) (st := []) (pc := 75) G 10 [(0, _), (0, _), (0, _)] rfl (by decide) rfl dX10_overlaps_75 tw_m_RX10_287 tw_i_X10_overlapOf tw_v_X10_overlapOf tw_z_RX10 tw_c_X10_overlapOf hy_X10_overlapOf (callrm hr rfl) rfl (RunsM.mono h (fun r5 M6 h => ?_)) Z.rm
      show AW X 78 _ [(0, _)] M6
      refine am_le (ls' := [(20, _), (0, _), (0, _), (0, _), (0, _), (0, _), (99, 0)]) ⟨Or.inr rfl, ⟨Or.inr rfl, ⟨Or.inr rfl, ⟨Or.inr rfl, ⟨Or.inr rfl, ⟨Or.inr rfl, ⟨Or.inl rfl, trivial⟩⟩⟩⟩⟩⟩⟩ ?_
      exact swp_X10_overlaps_78 G Z hn hr _ _ _ _ _ _ _ B16 B27 B39 k16 k27 k39 h
    · have h := h.2 c
      refine am_iconst (pc := 65) G dX10_overlaps_65 (by decide) ?_
      refine am_goto (pc := 66) G 78 dX10_overlaps_66 (by decide) ?_
      refine am_le (ls' := [(20, _), (0, _), (0, _), (0, _), (0, _), (0, _), (99, 0)]) ⟨Or.inr rfl, ⟨Or.inr rfl, ⟨Or.inr rfl, ⟨Or.inr rfl, ⟨Or.inr rfl, ⟨Or.inr rfl, ⟨Or.inl rfl, trivial⟩⟩⟩⟩⟩⟩⟩ ?_
      exact swp_X10_overlaps_78 G Z hn hr _ _ _ _ _ _ _ B16 B27 B39 k16 k27 k39 h
def wp_X10_overlaps_39 (V : VV) (x1 x2 x3 x4 x5 : Int) (M : Mem) (Q : Int → Mem → Prop) (B16 : Int → Int → Mem → Prop) (B27 : Int → Int → Mem → Prop) : Prop :=
  ∃ (I : Int → Int → Mem → Prop) (μ : Int → Int → Mem → Nat), I x2 x5 M ∧ ∀ (y2 y5 : Int) (N : Mem), I y2 y5 N → wp_X10_overlaps_39_b V x1 y2 x3 x4 y5 N Q B16 B27 (fun z2 z5 N1 => I z2 z5 N1 ∧ μ z2 z5 N1 < μ y2 y5 N)
theorem swp_X10_overlaps_39 {X : XX} {Q : Int → Mem → Prop} (G : GX X cX10_overlaps "TreeHandsModel") (Z : RX X 0 Q) (hn : nLX X = 7) (hr : roomX X = rm_X10_overlaps) (x1 x2 x3 x4 x5 : Int) (M : Mem) (B16 : Int → Int → Mem → Prop) (B27 : Int → Int → Mem → Prop) (k16 : ∀ (z2 z3 : Int) (N : Mem), B16 z2 z3 N → AW X 16 [(20, 203), (0, x1), (0, z2), (0, z3), (99, 0), (99, 0), (99, 0)] [] N) (k27 : ∀ (z2 z4 : Int) (N : Mem), B27 z2 z4 N → AW X 27 [(20, 203), (0, x1), (0, z2), (0, x3), (0, z4), (99, 0), (99, 0)] [] N) (h : wp_X10_overlaps_39 (vX X) x1 x2 x3 x4 x5 M Q B16 B27) : AW X 39 [(20, 203), (0, x1), (0, x2), (0, x3), (0, x4), (0, x5), (99, 0)] [] M := by
  unfold wp_X10_overlaps_39 at h
  obtain ⟨I, μ, hI, hs⟩ := h
  have key : ∀ (n : Nat) (y2 y5 : Int) (N : Mem), μ y2 y5 N < n → I y2 y5 N → AW X 39 [(20, 203), (0, x1), (0, y2), (0, x3), (0, x4), (0, y5), (99, 0)] [] N := by
    intro n
    induction n with
    | zero => intro y2 y5 N hlt; exact absurd hlt (Nat.not_lt_zero _)
    | succ n ih =>
      intro y2 y5 N hlt hI
      exact swp_X10_overlaps_39_b G Z hn hr x1 y2 x3 x4 y5 N B16 B27 k16 k27 (fun z2 z5 N1 => I z2 z5 N1 ∧ μ z2 z5 N1 < μ y2 y5 N) (fun z2 z5 N1 hz => ih z2 z5 N1 (by omega) hz.1) (hs y2 y5 N hI)
  exact key _ x2 x5 M (Nat.lt_succ_self _) hI
def wp_X10_overlaps_27_b (V : VV) (x1 x2 x3 x4 : Int) (M : Mem) (Q : Int → Mem → Prop) (B16 : Int → Int → Mem → Prop) (B27 : Int → Int → Mem → Prop) : Prop :=
  (M 203 5 ≤ x4 →
    B16 x2 (w32 (x3 + 1)) M) ∧ (¬ (M 203 5 ≤ x4) →
    wp_X10_overlaps_39 V x1 x2 x3 x4 0 M Q B16 B27)
theorem swp_X10_overlaps_27_b {X : XX} {Q : Int → Mem → Prop} (G : GX X cX10_overlaps "TreeHandsModel") (Z : RX X 0 Q) (hn : nLX X = 7) (hr : roomX X = rm_X10_overlaps) (x1 x2 x3 x4 : Int) (M : Mem) (B16 : Int → Int → Mem → Prop) (k16 : ∀ (z2 z3 : Int) (N : Mem), B16 z2 z3 N → AW X 16 [(20, 203), (0, x1), (0, z2), (0, z3), (99, 0), (99, 0), (99, 0)] [] N) (B27 : Int → Int → Mem → Prop) (k27 : ∀ (z2 z4 : Int) (N : Mem), B27 z2 z4 N → AW X 27 [(20, 203), (0, x1), (0, z2), (0, x3), (0, z4), (99, 0), (99, 0)] [] N) (h : wp_X10_overlaps_27_b (vX X) x1 x2 x3 x4 M Q B16 B27) : AW X 27 [(20, 203), (0, x1), (0, x2), (0, x3), (0, x4), (99, 0), (99, 0)] [] M := by
  unfold wp_X10_overlaps_27_b at h
  refine am_iload (pc := 27) G dX10_overlaps_27 rfl ?_
  refine am_aload_n (i := 0) (t := 17) (pc := 29) G dX10_overlaps_29 rfl rfl rfl ?_
  refine gf_X10_5 (pc := 30) G dX10_overlaps_30 tw_f_RX10_208 ?_
  refine am_icmp_ge (pc := 33) G 161 dX10_overlaps_33 (by decide) (fun c => ?_) (fun c => ?_)
  · have h := h.1 c
    refine am_iinc (pc := 161) G dX10_overlaps_161 rfl (nlx hn rfl) rfl ?_
    refine am_goto (pc := 164) (ls := [(20, _), (0, _), (0, _), (0, _), (0, _), (99, _), (99, _)]) G 16 dX10_overlaps_164 (by decide) ?_
    refine am_le (ls' := [(20, _), (0, _), (0, _), (0, _), (99, 0), (99, 0), (99, 0)]) ⟨Or.inr rfl, ⟨Or.inr rfl, ⟨Or.inr rfl, ⟨Or.inr rfl, ⟨Or.inl rfl, ⟨Or.inl rfl, ⟨Or.inl rfl, trivial⟩⟩⟩⟩⟩⟩⟩ ?_
    exact k16 _ _ _ h
  · have h := h.2 c
    refine am_iconst (pc := 36) G dX10_overlaps_36 (by decide) ?_
    refine am_istore (pc := 37) G dX10_overlaps_37 (nlx hn rfl) rfl ?_
    refine am_le (ls' := [(20, _), (0, _), (0, _), (0, _), (0, _), (0, _), (99, 0)]) ⟨Or.inr rfl, ⟨Or.inr rfl, ⟨Or.inr rfl, ⟨Or.inr rfl, ⟨Or.inr rfl, ⟨Or.inr rfl, ⟨Or.inl rfl, trivial⟩⟩⟩⟩⟩⟩⟩ ?_
    exact swp_X10_overlaps_39 G Z hn hr _ _ _ _ _ _ B16 B27 k16 k27 h
def wp_X10_overlaps_27 (V : VV) (x1 x2 x3 x4 : Int) (M : Mem) (Q : Int → Mem → Prop) (B16 : Int → Int → Mem → Prop) : Prop :=
  ∃ (I : Int → Int → Mem → Prop) (μ : Int → Int → Mem → Nat), I x2 x4 M ∧ ∀ (y2 y4 : Int) (N : Mem), I y2 y4 N → wp_X10_overlaps_27_b V x1 y2 x3 y4 N Q B16 (fun z2 z4 N1 => I z2 z4 N1 ∧ μ z2 z4 N1 < μ y2 y4 N)
theorem swp_X10_overlaps_27 {X : XX} {Q : Int → Mem → Prop} (G : GX X cX10_overlaps "TreeHandsModel") (Z : RX X 0 Q) (hn : nLX X = 7) (hr : roomX X = rm_X10_overlaps) (x1 x2 x3 x4 : Int) (M : Mem) (B16 : Int → Int → Mem → Prop) (k16 : ∀ (z2 z3 : Int) (N : Mem), B16 z2 z3 N → AW X 16 [(20, 203), (0, x1), (0, z2), (0, z3), (99, 0), (99, 0), (99, 0)] [] N) (h : wp_X10_overlaps_27 (vX X) x1 x2 x3 x4 M Q B16) : AW X 27 [(20, 203), (0, x1), (0, x2), (0, x3), (0, x4), (99, 0), (99, 0)] [] M := by
  unfold wp_X10_overlaps_27 at h
  obtain ⟨I, μ, hI, hs⟩ := h
  have key : ∀ (n : Nat) (y2 y4 : Int) (N : Mem), μ y2 y4 N < n → I y2 y4 N → AW X 27 [(20, 203), (0, x1), (0, y2), (0, x3), (0, y4), (99, 0), (99, 0)] [] N := by
    intro n
    induction n with
    | zero => intro y2 y4 N hlt; exact absurd hlt (Nat.not_lt_zero _)
    | succ n ih =>
      intro y2 y4 N hlt hI
      exact swp_X10_overlaps_27_b G Z hn hr x1 y2 x3 y4 N B16 k16 (fun z2 z4 N1 => I z2 z4 N1 ∧ μ z2 z4 N1 < μ y2 y4 N) (fun z2 z4 N1 hz => ih z2 z4 N1 (by omega) hz.1) (hs y2 y4 N hI)
  exact key _ x2 x4 M (Nat.lt_succ_self _) hI
def wp_X10_overlaps_16_b (V : VV) (x1 x2 x3 : Int) (M : Mem) (Q : Int → Mem → Prop) (B16 : Int → Int → Mem → Prop) : Prop :=
  (M 203 5 ≤ x3 →
    Q x2 M) ∧ (¬ (M 203 5 ≤ x3) →
    wp_X10_overlaps_27 V x1 x2 x3 0 M Q B16)
theorem swp_X10_overlaps_16_b {X : XX} {Q : Int → Mem → Prop} (G : GX X cX10_overlaps "TreeHandsModel") (Z : RX X 0 Q) (hn : nLX X = 7) (hr : roomX X = rm_X10_overlaps) (x1 x2 x3 : Int) (M : Mem) (B16 : Int → Int → Mem → Prop) (k16 : ∀ (z2 z3 : Int) (N : Mem), B16 z2 z3 N → AW X 16 [(20, 203), (0, x1), (0, z2), (0, z3), (99, 0), (99, 0), (99, 0)] [] N) (h : wp_X10_overlaps_16_b (vX X) x1 x2 x3 M Q B16) : AW X 16 [(20, 203), (0, x1), (0, x2), (0, x3), (99, 0), (99, 0), (99, 0)] [] M := by
  unfold wp_X10_overlaps_16_b at h
  refine am_iload_n (i := 3) (pc := 16) G dX10_overlaps_16 rfl rfl ?_
  refine am_aload_n (i := 0) (t := 17) (pc := 17) G dX10_overlaps_17 rfl rfl rfl ?_
  refine gf_X10_5 (pc := 18) G dX10_overlaps_18 tw_f_RX10_208 ?_
  refine am_icmp_ge (pc := 21) G 167 dX10_overlaps_21 (by decide) (fun c => ?_) (fun c => ?_)
  · have h := h.1 c
    refine am_iload_n (i := 2) (pc := 167) G dX10_overlaps_167 rfl rfl ?_
    exact am_iret (pc := 168) G Z dX10_overlaps_168 h
  · have h := h.2 c
    refine am_iconst (pc := 24) G dX10_overlaps_24 (by decide) ?_
    refine am_istore (pc := 25) G dX10_overlaps_25 (nlx hn rfl) rfl ?_
    refine am_le (ls' := [(20, _), (0, _), (0, _), (0, _), (0, _), (99, 0), (99, 0)]) ⟨Or.inr rfl, ⟨Or.inr rfl, ⟨Or.inr rfl, ⟨Or.inr rfl, ⟨Or.inr rfl, ⟨Or.inl rfl, ⟨Or.inl rfl, trivial⟩⟩⟩⟩⟩⟩⟩ ?_
    exact swp_X10_overlaps_27 G Z hn hr _ _ _ _ _ B16 k16 h
def wp_X10_overlaps_16 (V : VV) (x1 x2 x3 : Int) (M : Mem) (Q : Int → Mem → Prop) : Prop :=
  ∃ (I : Int → Int → Mem → Prop) (μ : Int → Int → Mem → Nat), I x2 x3 M ∧ ∀ (y2 y3 : Int) (N : Mem), I y2 y3 N → wp_X10_overlaps_16_b V x1 y2 y3 N Q (fun z2 z3 N1 => I z2 z3 N1 ∧ μ z2 z3 N1 < μ y2 y3 N)
theorem swp_X10_overlaps_16 {X : XX} {Q : Int → Mem → Prop} (G : GX X cX10_overlaps "TreeHandsModel") (Z : RX X 0 Q) (hn : nLX X = 7) (hr : roomX X = rm_X10_overlaps) (x1 x2 x3 : Int) (M : Mem) (h : wp_X10_overlaps_16 (vX X) x1 x2 x3 M Q) : AW X 16 [(20, 203), (0, x1), (0, x2), (0, x3), (99, 0), (99, 0), (99, 0)] [] M := by
  unfold wp_X10_overlaps_16 at h
  obtain ⟨I, μ, hI, hs⟩ := h
  have key : ∀ (n : Nat) (y2 y3 : Int) (N : Mem), μ y2 y3 N < n → I y2 y3 N → AW X 16 [(20, 203), (0, x1), (0, y2), (0, y3), (99, 0), (99, 0), (99, 0)] [] N := by
    intro n
    induction n with
    | zero => intro y2 y3 N hlt; exact absurd hlt (Nat.not_lt_zero _)
    | succ n ih =>
      intro y2 y3 N hlt hI
      exact swp_X10_overlaps_16_b G Z hn hr x1 y2 y3 N (fun z2 z3 N1 => I z2 z3 N1 ∧ μ z2 z3 N1 < μ y2 y3 N) (fun z2 z3 N1 hz => ih z2 z3 N1 (by omega) hz.1) (hs y2 y3 N hI)
  exact key _ x2 x3 M (Nat.lt_succ_self _) hI
def wp_X10_overlaps (V : VV) (x1 : Int) (M : Mem) (Q : Int → Mem → Prop) : Prop :=
  R_X10_in V x1 0 3 M (fun r1 M2 =>
  (r1 = 0 →
    Q (-2) M2) ∧ (¬ (r1 = 0) →
    wp_X10_overlaps_16 V x1 0 0 M2 Q))
theorem of_X10_overlaps {V : VV} {x1 : Int} {M : Mem} {Q : Int → Mem → Prop} (h : wp_X10_overlaps V x1 M Q) : R_X10_overlaps V x1 M Q := by
  refine met_in (own := "TreeHandsModel") (by decide +kernel) rfl rfl (Nat.le_of_ble_eq_true rfl) ?_
  intro X G Z hn hr hv
  subst hv
  unfold wp_X10_overlaps at h
  show AW X 0 [(20, 203), (0, x1), (99, 0), (99, 0), (99, 0), (99, 0), (99, 0)] [] M
  refine am_iload_n (i := 1) (pc := 0) G dX10_overlaps_0 rfl rfl ?_
  refine am_iconst (pc := 1) G dX10_overlaps_1 (by decide) ?_
  refine am_iconst (pc := 2) G dX10_overlaps_2 (by decide) ?_
  refine am_callS (rk := 1) (rmc := rm_X10_in) (st := []) (pc := 3) G [(0, _), (0, _), (0, _)] dX10_overlaps_3 tw_m_RX10_110 tw_s_X10_in tw_z_RX10 tw_c_X10_in hy_X10_in (callrm hr rfl) rfl (RunsM.mono h (fun r1 M2 h => ?_)) Z.rm
  show AW X 6 _ [(0, _)] M2
  refine am_if_ne (pc := 6) G 12 dX10_overlaps_6 (by decide) (fun c => ?_) (fun c => ?_)
  · have h := h.2 c
    refine am_iconst (pc := 12) G dX10_overlaps_12 (by decide) ?_
    refine am_istore_n (pc := 13) G dX10_overlaps_13 rfl (nlx hn rfl) rfl ?_
    refine am_iconst (pc := 14) (ls := [(20, _), (0, _), (0, _), (99, _), (99, _), (99, _), (99, _)]) G dX10_overlaps_14 (by decide) ?_
    refine am_istore_n (pc := 15) G dX10_overlaps_15 rfl (nlx hn rfl) rfl ?_
    refine am_le (ls' := [(20, _), (0, _), (0, _), (0, _), (99, 0), (99, 0), (99, 0)]) ⟨Or.inr rfl, ⟨Or.inr rfl, ⟨Or.inr rfl, ⟨Or.inr rfl, ⟨Or.inl rfl, ⟨Or.inl rfl, ⟨Or.inl rfl, trivial⟩⟩⟩⟩⟩⟩⟩ ?_
    exact swp_X10_overlaps_16 G Z hn hr _ _ _ _ h
  · have h := h.1 c
    refine am_bipush (pc := 9) G dX10_overlaps_9 (by decide) (by decide) ?_
    exact am_iret (pc := 11) G Z dX10_overlaps_11 h
-- X10_told TreeHandsModel.told(I)I
def rm_X10_told : Room := { frames := 1, cells := 0, slots := 0, locals := 24 }
theorem hy_X10_told : yX10_told.cls ≠ "java/lang/invoke/MethodHandle" ∧ yX10_told.cls ≠ "java/lang/invoke/VarHandle" ∧ (parseMethodDescriptor yX10_told.desc).map (fun d => d.parameters.length) = some 1 := by decide +kernel
abbrev R_X10_told (V : VV) (x1 : Int) (M : Mem) (Q : Int → Mem → Prop) : Prop := RunsM V yX10_told (.code yX10_told cX10_told 4 (Option.some Jvm.ClassFile.FieldType.int)) rm_X10_told 0 [(20, 203), (0, x1)] M Q
def wp_X10_told_61 (V : VV) (x1 x3 s0 s1 : Int) (M : Mem) (Q : Int → Mem → Prop) (B37 : Int → Int → Mem → Prop) : Prop :=
  B37 (w32 (s1 + s0)) (w32 (x3 + 1)) M
theorem swp_X10_told_61 {X : XX} {Q : Int → Mem → Prop} (G : GX X cX10_told "TreeHandsModel") (Z : RX X 0 Q) (hn : nLX X = 4) (hr : roomX X = rm_X10_told) (x1 x3 s0 s1 : Int) (M : Mem) (B37 : Int → Int → Mem → Prop) (k37 : ∀ (z2 z3 : Int) (N : Mem), B37 z2 z3 N → AW X 37 [(20, 203), (0, x1), (0, z2), (0, z3)] [] N) (h : wp_X10_told_61 (vX X) x1 x3 s0 s1 M Q B37) : AW X 61 [(20, 203), (0, x1), (99, 0), (0, x3)] [(0, s0), (0, s1)] M := by
  unfold wp_X10_told_61 at h
  refine am_iadd (pc := 61) G dX10_told_61 ?_
  refine am_istore_n (pc := 62) G dX10_told_62 rfl (nlx hn rfl) rfl ?_
  refine am_iinc (pc := 63) (ls := [(20, _), (0, _), (0, _), (0, _)]) G dX10_told_63 rfl (nlx hn rfl) rfl ?_
  refine am_goto (pc := 66) (ls := [(20, _), (0, _), (0, _), (0, _)]) G 37 dX10_told_66 (by decide) ?_
  refine am_le (ls' := [(20, _), (0, _), (0, _), (0, _)]) ⟨Or.inr rfl, ⟨Or.inr rfl, ⟨Or.inr rfl, ⟨Or.inr rfl, trivial⟩⟩⟩⟩ ?_
  exact k37 _ _ _ h
def wp_X10_told_37_b (V : VV) (x1 x2 x3 : Int) (M : Mem) (Q : Int → Mem → Prop) (B37 : Int → Int → Mem → Prop) : Prop :=
  (72 < x3 →
    Q x2 M) ∧ (¬ (72 < x3) →
    R_X10_hasLabel V (w32 (x1 - 20)) x3 M (fun r5 M6 =>
    (r5 = 0 →
      wp_X10_told_61 V x1 x3 0 x2 M6 Q B37) ∧ (¬ (r5 = 0) →
      wp_X10_told_61 V x1 x3 1 x2 M6 Q B37)))
theorem swp_X10_told_37_b {X : XX} {Q : Int → Mem → Prop} (G : GX X cX10_told "TreeHandsModel") (Z : RX X 0 Q) (hn : nLX X = 4) (hr : roomX X = rm_X10_told) (x1 x2 x3 : Int) (M : Mem) (B37 : Int → Int → Mem → Prop) (k37 : ∀ (z2 z3 : Int) (N : Mem), B37 z2 z3 N → AW X 37 [(20, 203), (0, x1), (0, z2), (0, z3)] [] N) (h : wp_X10_told_37_b (vX X) x1 x2 x3 M Q B37) : AW X 37 [(20, 203), (0, x1), (0, x2), (0, x3)] [] M := by
  unfold wp_X10_told_37_b at h
  refine am_iload_n (i := 3) (pc := 37) G dX10_told_37 rfl rfl ?_
  refine am_bipush (pc := 38) G dX10_told_38 (by decide) (by decide) ?_
  refine am_icmp_gt (pc := 40) G 69 dX10_told_40 (by decide) (fun c => ?_) (fun c => ?_)
  · have h := h.1 c
    refine am_iload_n (i := 2) (pc := 69) G dX10_told_69 rfl rfl ?_
    exact am_iret (pc := 70) G Z dX10_told_70 h
  · have h := h.2 c
    refine am_iload_n (i := 2) (pc := 43) G dX10_told_43 rfl rfl ?_
    refine am_aload_n (i := 0) (t := 17) (pc := 44) G dX10_told_44 rfl rfl rfl ?_
    refine am_iload_n (i := 1) (pc := 45) G dX10_told_45 rfl rfl ?_
    refine am_bipush (pc := 46) G dX10_told_46 (by decide) (by decide) ?_
    refine am_isub (pc := 48) G dX10_told_48 ?_
    refine am_iload_n (i := 3) (pc := 49) G dX10_told_49 rfl rfl ?_
    refine am_callV (rk := 1) (rmc := rm_X10_hasLabel) (st := [(0, _)]) (pc := 50) G 10 [(0, _), (0, _)] rfl (by decide) rfl dX10_told_50 tw_m_RX10_211 tw_i_X10_hasLabel tw_v_X10_hasLabel tw_z_RX10 tw_c_X10_hasLabel hy_X10_hasLabel (callrm hr rfl) rfl (RunsM.mono h (fun r5 M6 h => ?_)) Z.rm
    show AW X 53 _ [(0, _), (0, _)] M6
    refine am_if_eq (pc := 53) G 60 dX10_told_53 (by decide) (fun c => ?_) (fun c => ?_)
    · have h := h.1 c
      refine am_iconst (pc := 60) G dX10_told_60 (by decide) ?_
      refine am_le (ls' := [(20, _), (0, _), (99, 0), (0, _)]) ⟨Or.inr rfl, ⟨Or.inr rfl, ⟨Or.inl rfl, ⟨Or.inr rfl, trivial⟩⟩⟩⟩ ?_
      exact swp_X10_told_61 G Z hn hr _ _ _ _ _ B37 k37 h
    · have h := h.2 c
      refine am_iconst (pc := 56) G dX10_told_56 (by decide) ?_
      refine am_goto (pc := 57) G 61 dX10_told_57 (by decide) ?_
      refine am_le (ls' := [(20, _), (0, _), (99, 0), (0, _)]) ⟨Or.inr rfl, ⟨Or.inr rfl, ⟨Or.inl rfl, ⟨Or.inr rfl, trivial⟩⟩⟩⟩ ?_
      exact swp_X10_told_61 G Z hn hr _ _ _ _ _ B37 k37 h
def wp_X10_told_37 (V : VV) (x1 x2 x3 : Int) (M : Mem) (Q : Int → Mem → Prop) : Prop :=
  ∃ (I : Int → Int → Mem → Prop) (μ : Int → Int → Mem → Nat), I x2 x3 M ∧ ∀ (y2 y3 : Int) (N : Mem), I y2 y3 N → wp_X10_told_37_b V x1 y2 y3 N Q (fun z2 z3 N1 => I z2 z3 N1 ∧ μ z2 z3 N1 < μ y2 y3 N)
theorem swp_X10_told_37 {X : XX} {Q : Int → Mem → Prop} (G : GX X cX10_told "TreeHandsModel") (Z : RX X 0 Q) (hn : nLX X = 4) (hr : roomX X = rm_X10_told) (x1 x2 x3 : Int) (M : Mem) (h : wp_X10_told_37 (vX X) x1 x2 x3 M Q) : AW X 37 [(20, 203), (0, x1), (0, x2), (0, x3)] [] M := by
  unfold wp_X10_told_37 at h
  obtain ⟨I, μ, hI, hs⟩ := h
  have key : ∀ (n : Nat) (y2 y3 : Int) (N : Mem), μ y2 y3 N < n → I y2 y3 N → AW X 37 [(20, 203), (0, x1), (0, y2), (0, y3)] [] N := by
    intro n
    induction n with
    | zero => intro y2 y3 N hlt; exact absurd hlt (Nat.not_lt_zero _)
    | succ n ih =>
      intro y2 y3 N hlt hI
      exact swp_X10_told_37_b G Z hn hr x1 y2 y3 N (fun z2 z3 N1 => I z2 z3 N1 ∧ μ z2 z3 N1 < μ y2 y3 N) (fun z2 z3 N1 hz => ih z2 z3 N1 (by omega) hz.1) (hs y2 y3 N hI)
  exact key _ x2 x3 M (Nat.lt_succ_self _) hI
def wp_X10_told (V : VV) (x1 : Int) (M : Mem) (Q : Int → Mem → Prop) : Prop :=
  R_X10_in V x1 10 15 M (fun r1 M2 =>
  (r1 = 0 →
    R_X10_in V x1 20 25 M2 (fun r3 M4 =>
    (r3 = 0 →
      (x1 = 0 →
        Q (M4 203 3) M4) ∧ (¬ (x1 = 0) →
        (x1 = 1 →
          Q (M4 203 5) M4) ∧ (¬ (x1 = 1) →
          Q (-2) M4))) ∧ (¬ (r3 = 0) →
      wp_X10_told_37 V x1 0 65 M4 Q))) ∧ (¬ (r1 = 0) →
    ((0 : Int) ≤ w32 (x1 - 10) ∧ w32 (x1 - 10) < (21 : Int)) ∧
    Q (M2 204 (w32 (x1 - 10))) M2))
theorem of_X10_told {V : VV} {x1 : Int} {M : Mem} {Q : Int → Mem → Prop} (h : wp_X10_told V x1 M Q) : R_X10_told V x1 M Q := by
  refine met_in (own := "TreeHandsModel") (by decide +kernel) rfl rfl (Nat.le_of_ble_eq_true rfl) ?_
  intro X G Z hn hr hv
  subst hv
  unfold wp_X10_told at h
  show AW X 0 [(20, 203), (0, x1), (99, 0), (99, 0)] [] M
  refine am_iload_n (i := 1) (pc := 0) G dX10_told_0 rfl rfl ?_
  refine am_bipush (pc := 1) G dX10_told_1 (by decide) (by decide) ?_
  refine am_bipush (pc := 3) G dX10_told_3 (by decide) (by decide) ?_
  refine am_callS (rk := 1) (rmc := rm_X10_in) (st := []) (pc := 5) G [(0, _), (0, _), (0, _)] dX10_told_5 tw_m_RX10_110 tw_s_X10_in tw_z_RX10 tw_c_X10_in hy_X10_in (callrm hr rfl) rfl (RunsM.mono h (fun r1 M2 h => ?_)) Z.rm
  show AW X 8 _ [(0, _)] M2
  refine am_if_eq (pc := 8) G 21 dX10_told_8 (by decide) (fun c => ?_) (fun c => ?_)
  · have h := h.1 c
    refine am_iload_n (i := 1) (pc := 21) G dX10_told_21 rfl rfl ?_
    refine am_bipush (pc := 22) G dX10_told_22 (by decide) (by decide) ?_
    refine am_bipush (pc := 24) G dX10_told_24 (by decide) (by decide) ?_
    refine am_callS (rk := 1) (rmc := rm_X10_in) (st := []) (pc := 26) G [(0, _), (0, _), (0, _)] dX10_told_26 tw_m_RX10_110 tw_s_X10_in tw_z_RX10 tw_c_X10_in hy_X10_in (callrm hr rfl) rfl (RunsM.mono h (fun r3 M4 h => ?_)) Z.rm
    show AW X 29 _ [(0, _)] M4
    refine am_if_eq (pc := 29) G 71 dX10_told_29 (by decide) (fun c => ?_) (fun c => ?_)
    · have h := h.1 c
      refine am_iload_n (i := 1) (pc := 71) G dX10_told_71 rfl rfl ?_
      refine am_if_ne (pc := 72) G 82 dX10_told_72 (by decide) (fun c => ?_) (fun c => ?_)
      · have h := h.2 c
        refine am_iload_n (i := 1) (pc := 82) G dX10_told_82 rfl rfl ?_
        refine am_iconst (pc := 83) G dX10_told_83 (by decide) ?_
        refine am_icmp_ne (pc := 84) G 94 dX10_told_84 (by decide) (fun c => ?_) (fun c => ?_)
        · have h := h.2 c
          refine am_bipush (pc := 94) G dX10_told_94 (by decide) (by decide) ?_
          exact am_iret (pc := 96) G Z dX10_told_96 h
        · have h := h.1 c
          refine am_aload_n (i := 0) (t := 17) (pc := 87) G dX10_told_87 rfl rfl rfl ?_
          refine gf_X10_5 (pc := 88) G dX10_told_88 tw_f_RX10_208 ?_
          refine am_goto (pc := 91) G 96 dX10_told_91 (by decide) ?_
          exact am_iret (pc := 96) G Z dX10_told_96 h
      · have h := h.1 c
        refine am_aload_n (i := 0) (t := 17) (pc := 75) G dX10_told_75 rfl rfl rfl ?_
        refine gf_X10_3 (pc := 76) G dX10_told_76 tw_f_RX10_118 ?_
        refine am_goto (pc := 79) G 96 dX10_told_79 (by decide) ?_
        exact am_iret (pc := 96) G Z dX10_told_96 h
    · have h := h.2 c
      refine am_iconst (pc := 32) G dX10_told_32 (by decide) ?_
      refine am_istore_n (pc := 33) G dX10_told_33 rfl (nlx hn rfl) rfl ?_
      refine am_bipush (pc := 34) (ls := [(20, _), (0, _), (0, _), (99, _)]) G dX10_told_34 (by decide) (by decide) ?_
      refine am_istore_n (pc := 36) G dX10_told_36 rfl (nlx hn rfl) rfl ?_
      refine am_le (ls' := [(20, _), (0, _), (0, _), (0, _)]) ⟨Or.inr rfl, ⟨Or.inr rfl, ⟨Or.inr rfl, ⟨Or.inr rfl, trivial⟩⟩⟩⟩ ?_
      exact swp_X10_told_37 G Z hn hr _ _ _ _ h
  · have h := h.2 c
    refine am_aload_n (i := 0) (t := 17) (pc := 11) G dX10_told_11 rfl rfl rfl ?_
    refine gf_X10_0 (pc := 12) G dX10_told_12 tw_f_RX10_7 ?_
    refine am_iload_n (i := 1) (pc := 15) G dX10_told_15 rfl rfl ?_
    refine am_bipush (pc := 16) G dX10_told_16 (by decide) (by decide) ?_
    refine am_isub (pc := 18) G dX10_told_18 ?_
    refine am_iald (pc := 19) G 21 dX10_told_19 (by decide) h.1 ?_
    have h := h.2
    exact am_iret (pc := 20) G Z dX10_told_20 h
