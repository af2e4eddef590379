/-! THE CLAIM OUT OF ONE WALK OF THE LAW'S BODY. Your part is whole_start (and what it stands on); all else here is the same for every law, but numbers. -/
def R_law : String := "TreeHandsLaw"
def lw_P (b : Addr) (xs : List Int32) (args : Array Value) (s : State) : Prop := args = #[.ref b] ∧ s.IntsAt b xs ∧ xs.length ≤ 3072 ∧ (Jvm.Cond.and given_1 narrow_1).before args s = true
def lw_Q (_ : Array Value) (s : State) (o : Outcome) (t : State) : Prop := o = .returned (some (.int 1)) ∧ Framed s o t [] 600000 7302250
def lw_Z (below : List Frame) (a : Array Value) (s : State) : State → Prop := fun t => ∃ o, t.status = .running ∧ Ended t below o ∧ lw_Q a s o t
/-- the law's own end, with 1 on the stack, nothing written that was there before, its room as the claim has it -/
theorem lw_ret {p : Program} {l : Launch} {e : Env} {s : State} {m : MethodId} {below : List Frame} {meth : Method} {c : Code} {b : Nat} (hx : p.tables.exec = Jvm.exec) (hb : c.code = code) (hr : meth.sig.returnType = ret) (hlocks : meth.locks = false) {pc : Nat} {H : Heap} {ls : Array Slot} (hdg : decode code pc = .ok (.ireturn, 1)) : W p l e room_1 s m #[Value.ref b] below meth c H [] 600000 7302250 (lw_Z below #[Value.ref b] s) (F0 m pc ls [.int 1]) := by
  intro T hT X
  obtain ⟨fs, hret, hrun, hended, hW, hframe⟩ := X.leave (v := some (.int 1)) (hlocks := hlocks) (fun h => by rw [hr] at h; cases h)
  have hmeth' : T.vm.method? m = some meth := X.method'
  refine ⟨T.setFrames fs, ?_, .returned (some (.int 1)), hrun, hended, rfl, ⟨_, rfl⟩, hW, hframe⟩
  jvm_step X.here [X.here.top, hx, hb, hdg, hmeth', hr, ret, narrow_b1]
  (try refine ⟨rfl, ?_⟩); (try refine ⟨rfl, ?_⟩)
  first | (intro acts; rw [hret _ acts rfl rfl rfl]) | rw [hret _ _ rfl rfl rfl]
  exact Steps.refl _
/-- what holds at the law's entry: the machine, the code, the tables' words (any of lw_tbl by 'hts w (by decide +kernel)'), the script of L ints xs at the cell b, what the Statement gives of the start (any of its parts by flat_of_before) -/
def lw_At (p : Program) (s : State) (m : MethodId) (meth : Method) (c : Code) (b L : Nat) (xs : Nat → Int32) : Prop :=
  p.tables.exec = Jvm.exec ∧ c.code = code ∧ meth.sig.returnType = ret ∧ c.maxLocals = 4 ∧ s.vm.findClass R_law = some m.cls ∧ (∀ w ∈ lw_tbl, w.before #[Value.ref b] s = true) ∧ va_X b L xs s s.heap ∧ b < s.heap.size ∧ meth.locks = false ∧ (Jvm.Cond.and given_1 narrow_1).before #[Value.ref b] s = true
/-! the law over values and memory -/
def LX (X : XX) (b : Int) (S : Int → Int) (L : Int) : Prop := match X with
  | (_, _, _, _, R, s, _, args, below, meth, _, cells, slots, A, Q) => ∃ (bn Ln : Nat) (xs : Nat → Int32), b = bn ∧ L = Ln ∧ Ln ≤ 3072 ∧ (∀ i, S i = (xs i.toNat).toInt) ∧ va_X bn Ln xs s s.heap ∧ bn < s.heap.size ∧ A = (fun q => s.heap.size ≤ q) ∧ Q = lw_Z below #[Value.ref bn] s ∧ args = #[Value.ref bn] ∧ cells ≤ 600000 ∧ slots ≤ 7302250 ∧ R = room_1 ∧ meth.sig.returnType = ret ∧ meth.locks = false
theorem LX.rm {X : XX} {b : Int} {S : Int → Int} {L : Int} (Z : LX X b S L) : rmOk X := by
  obtain ⟨V, nL, p, e, R, s, m, args, below, meth, c, cells, slots, A, Q⟩ := X
  obtain ⟨bn, Ln, xs, -, -, -, -, -, -, -, -, -, hc, hs, rfl, -⟩ := Z
  exact ⟨hc, hs⟩
section LAWR
variable {X : XX} {pc : Nat} {ls st : List AV} {M : Mem} {b : Int} {S : Int → Int} {L : Int} {own : String}
theorem am_sld (G : GX X code own) (Z : LX X b S L) {i : Int} (hd : decode code pc = .ok (.iaload, 1)) (hi : 0 ≤ i ∧ i < L) (k : AW X (pc + 1) ls ((0, S i) :: st) M) : AW X pc ls ((0, i) :: (2, b) :: st) M := by
  obtain ⟨V, nL, p, e, R, s, m, args, below, meth, c, cells, slots, A, Q⟩ := X
  obtain ⟨bn, Ln, xs, rfl, rfl, hL3, hSx, hX, hbl, rfl, -⟩ := Z
  intro h1 h2 h3 H locs lsC hP hS hL
  have hk := k h1 (okL_cons (show vok (0, S i) from by show ir (S i); rw [hSx]; exact ti_ir _) (okL_tl (okL_tl h2))) h3 H locs lsC hP hS hL
  simp only [List.map_cons] at hk ⊢
  obtain ⟨v1, v2⟩ := vin_ok hi.1 hi.2 (by omega)
  refine va_sld G.1 G.2.1 hX hbl (fun q => by omega) hS v1 hd ?_
  rw [v2, ← i32_ti (xs i.toNat), ← hSx]
  exact hk
theorem am_slen (G : GX X code own) (Z : LX X b S L) (hd : decode code pc = .ok (.arraylength, 1)) (k : AW X (pc + 1) ls ((0, L) :: st) M) : AW X pc ls ((2, b) :: st) M := by
  obtain ⟨V, nL, p, e, R, s, m, args, below, meth, c, cells, slots, A, Q⟩ := X
  obtain ⟨bn, Ln, xs, rfl, rfl, hL3, hSx, hX, hbl, rfl, -⟩ := Z
  intro h1 h2 h3 H locs lsC hP hS hL
  have hk := k h1 (okL_cons (show vok (0, (Ln : Int)) from ⟨by omega, by omega⟩) (okL_tl h2)) h3 H locs lsC hP hS hL
  simp only [List.map_cons] at hk ⊢
  refine va_slen G.1 G.2.1 hX hbl (fun q => by omega) hS hd ?_
  have e1 : Int32.ofNat Ln = i32 (Ln : Int) := by apply Int32.toInt_inj.mp; rw [i32_of (by constructor <;> omega)]; exact nI_toInt (by omega)
  rw [e1]
  exact hk
theorem am_lawret (G : GX X code own) (Z : LX X b S L) (hd : decode code pc = .ok (.ireturn, 1)) : AW X pc ls [(0, 1)] M := by
  obtain ⟨V, nL, p, e, R, s, m, args, below, meth, c, cells, slots, A, Q⟩ := X
  obtain ⟨bn, Ln, xs, rfl, rfl, hL3, hSx, hX, hbl, rfl, rfl, rfl, hc, hs, rfl, hr, hlocks⟩ := Z
  intro h1 h2 h3 H locs lsC hP hS hL
  refine va_forget (fun q hq => hS.2.2 q hq) ?_
  refine W.widen (k := 600000) (n := 7302250) hc hs ?_
  exact lw_ret G.1 G.2.1 hr hlocks hd
end LAWR
def wp_L_law_846 (V : VV) (S : Int → Int) (L : Int) (x3 s0 s1 s3 : Int) (M : Mem) (Q : Int → Mem → Prop) (B18 : Int → Mem → Prop) : Prop :=
  R_X10_walk V s1 s0 M (fun r79 M80 =>
  (s3 = r79 →
    B18 (w32 (x3 + 6)) M80) ∧ (¬ (s3 = r79) →
    False))
theorem swp_L_law_846 {X : XX} {Q : Int → Mem → Prop} {b : Int} {S : Int → Int} {L : Int} (G : GX X code "TreeHandsLaw") (Z : LX X b S L) (hn : nLX X = 4) (hr : roomX X = room_1) (x3 s0 s1 s3 : Int) (M : Mem) (B18 : Int → Mem → Prop) (k18 : ∀ (z3 : Int) (N : Mem), B18 z3 N → AW X 18 [(2, b), (19, 0), (20, 203), (0, z3)] [] N) (h : wp_L_law_846 (vX X) S L x3 s0 s1 s3 M Q B18) : AW X 846 [(2, b), (19, 0), (20, 203), (0, x3)] [(0, s0), (0, s1), (20, 203), (0, s3)] M := by
  unfold wp_L_law_846 at h
  refine am_callV (rk := 0) (rmc := rm_X10_walk) (st := [(0, _)]) (pc := 846) G 10 [(0, _), (0, _)] rfl (by decide) rfl dL_law_846 tw_m_RL_99 tw_i_X10_walk tw_v_X10_walk tw_z_RX10 tw_c_X10_walk hy_X10_walk (callrm hr rfl) rfl (RunsM.mono h (fun r79 M80 h => ?_)) Z.rm
  show AW X 849 _ [(0, _), (0, _)] M80
  refine am_icmp_eq (pc := 849) G 1009 dL_law_849 (by decide) (fun c => ?_) (fun c => ?_)
  · have h := h.1 c
    refine am_iinc (pc := 1009) G dL_law_1009 rfl (nlx hn rfl) rfl ?_
    refine am_goto (pc := 1012) (ls := [(2, _), (19, _), (20, _), (0, _)]) G 18 dL_law_1012 (by decide) ?_
    refine am_le (ls' := [(2, _), (19, _), (20, _), (0, _)]) ⟨Or.inr rfl, ⟨Or.inr rfl, ⟨Or.inr rfl, ⟨Or.inr rfl, trivial⟩⟩⟩⟩ ?_
    exact k18 _ _ h
  · have h := h.2 c
    refine am_iconst (pc := 852) G dL_law_852 (by decide) ?_
    exact absurd h id
def wp_L_law_824 (V : VV) (S : Int → Int) (L : Int) (x3 s0 s1 : Int) (M : Mem) (Q : Int → Mem → Prop) (B18 : Int → Mem → Prop) : Prop :=
  R_X9_walk V s1 s0 M (fun r77 M78 =>
  ((0 : Int) ≤ w32 (x3 + 1) ∧ w32 (x3 + 1) < L) ∧
  ((0 : Int) ≤ w32 (x3 + 2) ∧ w32 (x3 + 2) < L) ∧
  (S (w32 (x3 + 2)) = 0 →
    wp_L_law_846 V S L x3 0 (S (w32 (x3 + 1))) r77 M78 Q B18) ∧ (¬ (S (w32 (x3 + 2)) = 0) →
    wp_L_law_846 V S L x3 1 (S (w32 (x3 + 1))) r77 M78 Q B18))
theorem swp_L_law_824 {X : XX} {Q : Int → Mem → Prop} {b : Int} {S : Int → Int} {L : Int} (G : GX X code "TreeHandsLaw") (Z : LX X b S L) (hn : nLX X = 4) (hr : roomX X = room_1) (x3 s0 s1 : Int) (M : Mem) (B18 : Int → Mem → Prop) (k18 : ∀ (z3 : Int) (N : Mem), B18 z3 N → AW X 18 [(2, b), (19, 0), (20, 203), (0, z3)] [] N) (h : wp_L_law_824 (vX X) S L x3 s0 s1 M Q B18) : AW X 824 [(2, b), (19, 0), (20, 203), (0, x3)] [(0, s0), (0, s1), (19, 0)] M := by
  unfold wp_L_law_824 at h
  refine am_callV (rk := 0) (rmc := rm_X9_walk) (st := []) (pc := 824) G 9 [(0, _), (0, _)] rfl (by decide) rfl dL_law_824 tw_m_RL_95 tw_i_X9_walk tw_v_X9_walk tw_z_RX9 tw_c_X9_walk hy_X9_walk (callrm hr rfl) rfl (RunsM.mono h (fun r77 M78 h => ?_)) Z.rm
  show AW X 827 _ [(0, _)] M78
  refine am_aload_n (i := 2) (t := 17) (pc := 827) G dL_law_827 rfl rfl rfl ?_
  refine am_aloadA (i := 0) (pc := 828) G dL_law_828 rfl rfl ?_
  refine am_iload_n (i := 3) (pc := 829) G dL_law_829 rfl rfl ?_
  refine am_iconst (pc := 830) G dL_law_830 (by decide) ?_
  refine am_iadd (pc := 831) G dL_law_831 ?_
  refine am_sld (pc := 832) G Z dL_law_832 h.1 ?_
  have h := h.2
  refine am_aloadA (i := 0) (pc := 833) G dL_law_833 rfl rfl ?_
  refine am_iload_n (i := 3) (pc := 834) G dL_law_834 rfl rfl ?_
  refine am_iconst (pc := 835) G dL_law_835 (by decide) ?_
  refine am_iadd (pc := 836) G dL_law_836 ?_
  refine am_sld (pc := 837) G Z dL_law_837 h.1 ?_
  have h := h.2
  refine am_if_eq (pc := 838) G 845 dL_law_838 (by decide) (fun c => ?_) (fun c => ?_)
  · have h := h.1 c
    refine am_iconst (pc := 845) G dL_law_845 (by decide) ?_
    refine am_le (ls' := [(2, _), (19, _), (20, _), (0, _)]) ⟨Or.inr rfl, ⟨Or.inr rfl, ⟨Or.inr rfl, ⟨Or.inr rfl, trivial⟩⟩⟩⟩ ?_
    exact swp_L_law_846 G Z hn hr _ _ _ _ _ B18 k18 h
  · have h := h.2 c
    refine am_iconst (pc := 841) G dL_law_841 (by decide) ?_
    refine am_goto (pc := 842) G 846 dL_law_842 (by decide) ?_
    refine am_le (ls' := [(2, _), (19, _), (20, _), (0, _)]) ⟨Or.inr rfl, ⟨Or.inr rfl, ⟨Or.inr rfl, ⟨Or.inr rfl, trivial⟩⟩⟩⟩ ?_
    exact swp_L_law_846 G Z hn hr _ _ _ _ _ B18 k18 h
def wp_L_law_18_b (V : VV) (S : Int → Int) (L : Int) (x3 : Int) (M : Mem) (Q : Int → Mem → Prop) (B18 : Int → Mem → Prop) : Prop :=
  (w32 (L - 6) < x3 →
    True) ∧ (¬ (w32 (L - 6) < x3) →
    ((0 : Int) ≤ x3 ∧ x3 < L) ∧
    ((and32 (S x3) 31 < 0 ∨ 24 < and32 (S x3) 31) →
      B18 (w32 (x3 + 6)) M) ∧
    (and32 (S x3) 31 = 0 →
      ((0 : Int) ≤ w32 (x3 + 1) ∧ w32 (x3 + 1) < L) ∧
      R_X9_say V (S (w32 (x3 + 1))) M (fun r1 M2 =>
      ((0 : Int) ≤ w32 (x3 + 1) ∧ w32 (x3 + 1) < L) ∧
      R_X10_say V (S (w32 (x3 + 1))) M2 (fun r3 M4 =>
      (r1 = r3 →
        B18 (w32 (x3 + 6)) M4) ∧ (¬ (r1 = r3) →
        False)))) ∧
    (and32 (S x3) 31 = 1 →
      R_X9_wipe V M (fun r5 M6 =>
      R_X10_wipe V M6 (fun r7 M8 =>
      (r5 = r7 →
        B18 (w32 (x3 + 6)) M8) ∧ (¬ (r5 = r7) →
        False)))) ∧
    (and32 (S x3) 31 = 2 →
      R_X9_fault V M (fun r9 M10 =>
      R_X10_fault V M10 (fun r11 M12 =>
      (r9 = r11 →
        B18 (w32 (x3 + 6)) M12) ∧ (¬ (r9 = r11) →
        False)))) ∧
    (and32 (S x3) 31 = 3 →
      ((0 : Int) ≤ w32 (x3 + 1) ∧ w32 (x3 + 1) < L) ∧
      R_X9_read V (S (w32 (x3 + 1))) M (fun r13 M14 =>
      ((0 : Int) ≤ w32 (x3 + 1) ∧ w32 (x3 + 1) < L) ∧
      R_X10_read V (S (w32 (x3 + 1))) M14 (fun r15 M16 =>
      (r13 = r15 →
        B18 (w32 (x3 + 6)) M16) ∧ (¬ (r13 = r15) →
        False)))) ∧
    (and32 (S x3) 31 = 4 →
      ((0 : Int) ≤ w32 (x3 + 1) ∧ w32 (x3 + 1) < L) ∧
      ((0 : Int) ≤ w32 (x3 + 2) ∧ w32 (x3 + 2) < L) ∧
      ((0 : Int) ≤ w32 (x3 + 3) ∧ w32 (x3 + 3) < L) ∧
      R_X9_node V (S (w32 (x3 + 1))) (S (w32 (x3 + 2))) (S (w32 (x3 + 3))) M (fun r17 M18 =>
      ((0 : Int) ≤ w32 (x3 + 1) ∧ w32 (x3 + 1) < L) ∧
      ((0 : Int) ≤ w32 (x3 + 2) ∧ w32 (x3 + 2) < L) ∧
      ((0 : Int) ≤ w32 (x3 + 3) ∧ w32 (x3 + 3) < L) ∧
      R_X10_node V (S (w32 (x3 + 1))) (S (w32 (x3 + 2))) (S (w32 (x3 + 3))) M18 (fun r19 M20 =>
      (r17 = r19 →
        B18 (w32 (x3 + 6)) M20) ∧ (¬ (r17 = r19) →
        False)))) ∧
    (and32 (S x3) 31 = 5 →
      ((0 : Int) ≤ w32 (x3 + 1) ∧ w32 (x3 + 1) < L) ∧
      ((0 : Int) ≤ w32 (x3 + 2) ∧ w32 (x3 + 2) < L) ∧
      R_X9_sign V (S (w32 (x3 + 1))) (S (w32 (x3 + 2))) M (fun r21 M22 =>
      ((0 : Int) ≤ w32 (x3 + 1) ∧ w32 (x3 + 1) < L) ∧
      ((0 : Int) ≤ w32 (x3 + 2) ∧ w32 (x3 + 2) < L) ∧
      R_X10_sign V (S (w32 (x3 + 1))) (S (w32 (x3 + 2))) M22 (fun r23 M24 =>
      (r21 = r23 →
        B18 (w32 (x3 + 6)) M24) ∧ (¬ (r21 = r23) →
        False)))) ∧
    (and32 (S x3) 31 = 6 →
      ((0 : Int) ≤ w32 (x3 + 1) ∧ w32 (x3 + 1) < L) ∧
      ((0 : Int) ≤ w32 (x3 + 2) ∧ w32 (x3 + 2) < L) ∧
      ((0 : Int) ≤ w32 (x3 + 3) ∧ w32 (x3 + 3) < L) ∧
      R_X9_take V (S (w32 (x3 + 1))) (S (w32 (x3 + 2))) (S (w32 (x3 + 3))) M (fun r25 M26 =>
      ((0 : Int) ≤ w32 (x3 + 1) ∧ w32 (x3 + 1) < L) ∧
      ((0 : Int) ≤ w32 (x3 + 2) ∧ w32 (x3 + 2) < L) ∧
      ((0 : Int) ≤ w32 (x3 + 3) ∧ w32 (x3 + 3) < L) ∧
      R_X10_take V (S (w32 (x3 + 1))) (S (w32 (x3 + 2))) (S (w32 (x3 + 3))) M26 (fun r27 M28 =>
      (r25 = r27 →
        B18 (w32 (x3 + 6)) M28) ∧ (¬ (r25 = r27) →
        False)))) ∧
    (and32 (S x3) 31 = 7 →
      ((0 : Int) ≤ w32 (x3 + 1) ∧ w32 (x3 + 1) < L) ∧
      ((0 : Int) ≤ w32 (x3 + 2) ∧ w32 (x3 + 2) < L) ∧
      ((0 : Int) ≤ w32 (x3 + 3) ∧ w32 (x3 + 3) < L) ∧
      ((0 : Int) ≤ w32 (x3 + 4) ∧ w32 (x3 + 4) < L) ∧
      R_X9_alike V (S (w32 (x3 + 1))) (S (w32 (x3 + 2))) (S (w32 (x3 + 3))) (S (w32 (x3 + 4))) M (fun r29 M30 =>
      ((0 : Int) ≤ w32 (x3 + 1) ∧ w32 (x3 + 1) < L) ∧
      ((0 : Int) ≤ w32 (x3 + 2) ∧ w32 (x3 + 2) < L) ∧
      ((0 : Int) ≤ w32 (x3 + 3) ∧ w32 (x3 + 3) < L) ∧
      ((0 : Int) ≤ w32 (x3 + 4) ∧ w32 (x3 + 4) < L) ∧
      R_X10_alike V (S (w32 (x3 + 1))) (S (w32 (x3 + 2))) (S (w32 (x3 + 3))) (S (w32 (x3 + 4))) M30 (fun r31 M32 =>
      (r29 = r31 →
        B18 (w32 (x3 + 6)) M32) ∧ (¬ (r29 = r31) →
        False)))) ∧
    (and32 (S x3) 31 = 8 →
      ((0 : Int) ≤ w32 (x3 + 1) ∧ w32 (x3 + 1) < L) ∧
      ((0 : Int) ≤ w32 (x3 + 2) ∧ w32 (x3 + 2) < L) ∧
      R_X9_price V (S (w32 (x3 + 1))) (S (w32 (x3 + 2))) M (fun r33 M34 =>
      ((0 : Int) ≤ w32 (x3 + 1) ∧ w32 (x3 + 1) < L) ∧
      ((0 : Int) ≤ w32 (x3 + 2) ∧ w32 (x3 + 2) < L) ∧
      R_X10_price V (S (w32 (x3 + 1))) (S (w32 (x3 + 2))) M34 (fun r35 M36 =>
      (r33 = r35 →
        B18 (w32 (x3 + 6)) M36) ∧ (¬ (r33 = r35) →
        False)))) ∧
    (and32 (S x3) 31 = 9 →
      ((0 : Int) ≤ w32 (x3 + 1) ∧ w32 (x3 + 1) < L) ∧
      ((0 : Int) ≤ w32 (x3 + 2) ∧ w32 (x3 + 2) < L) ∧
      R_X9_least V (S (w32 (x3 + 1))) (S (w32 (x3 + 2))) M (fun r37 M38 =>
      ((0 : Int) ≤ w32 (x3 + 1) ∧ w32 (x3 + 1) < L) ∧
      ((0 : Int) ≤ w32 (x3 + 2) ∧ w32 (x3 + 2) < L) ∧
      R_X10_least V (S (w32 (x3 + 1))) (S (w32 (x3 + 2))) M38 (fun r39 M40 =>
      (r37 = r39 →
        B18 (w32 (x3 + 6)) M40) ∧ (¬ (r37 = r39) →
        False)))) ∧
    (and32 (S x3) 31 = 10 →
      ((0 : Int) ≤ w32 (x3 + 1) ∧ w32 (x3 + 1) < L) ∧
      ((0 : Int) ≤ w32 (x3 + 2) ∧ w32 (x3 + 2) < L) ∧
      ((0 : Int) ≤ w32 (x3 + 3) ∧ w32 (x3 + 3) < L) ∧
      R_X9_led V (S (w32 (x3 + 1))) (S (w32 (x3 + 2))) (S (w32 (x3 + 3))) M (fun r41 M42 =>
      ((0 : Int) ≤ w32 (x3 + 1) ∧ w32 (x3 + 1) < L) ∧
      ((0 : Int) ≤ w32 (x3 + 2) ∧ w32 (x3 + 2) < L) ∧
      ((0 : Int) ≤ w32 (x3 + 3) ∧ w32 (x3 + 3) < L) ∧
      R_X10_led V (S (w32 (x3 + 1))) (S (w32 (x3 + 2))) (S (w32 (x3 + 3))) M42 (fun r43 M44 =>
      (r41 = r43 →
        B18 (w32 (x3 + 6)) M44) ∧ (¬ (r41 = r43) →
        False)))) ∧
    (and32 (S x3) 31 = 11 →
      ((0 : Int) ≤ w32 (x3 + 1) ∧ w32 (x3 + 1) < L) ∧
      ((0 : Int) ≤ w32 (x3 + 2) ∧ w32 (x3 + 2) < L) ∧
      ((0 : Int) ≤ w32 (x3 + 3) ∧ w32 (x3 + 3) < L) ∧
      R_X9_edits V (S (w32 (x3 + 1))) (S (w32 (x3 + 2))) (S (w32 (x3 + 3))) M (fun r45 M46 =>
      ((0 : Int) ≤ w32 (x3 + 1) ∧ w32 (x3 + 1) < L) ∧
      ((0 : Int) ≤ w32 (x3 + 2) ∧ w32 (x3 + 2) < L) ∧
      ((0 : Int) ≤ w32 (x3 + 3) ∧ w32 (x3 + 3) < L) ∧
      R_X10_edits V (S (w32 (x3 + 1))) (S (w32 (x3 + 2))) (S (w32 (x3 + 3))) M46 (fun r47 M48 =>
      (r45 = r47 →
        B18 (w32 (x3 + 6)) M48) ∧ (¬ (r45 = r47) →
        False)))) ∧
    (and32 (S x3) 31 = 12 →
      ((0 : Int) ≤ w32 (x3 + 1) ∧ w32 (x3 + 1) < L) ∧
      ((0 : Int) ≤ w32 (x3 + 2) ∧ w32 (x3 + 2) < L) ∧
      ((0 : Int) ≤ w32 (x3 + 3) ∧ w32 (x3 + 3) < L) ∧
      R_X9_moved V (S (w32 (x3 + 1))) (S (w32 (x3 + 2))) (S (w32 (x3 + 3))) M (fun r49 M50 =>
      ((0 : Int) ≤ w32 (x3 + 1) ∧ w32 (x3 + 1) < L) ∧
      ((0 : Int) ≤ w32 (x3 + 2) ∧ w32 (x3 + 2) < L) ∧
      ((0 : Int) ≤ w32 (x3 + 3) ∧ w32 (x3 + 3) < L) ∧
      R_X10_moved V (S (w32 (x3 + 1))) (S (w32 (x3 + 2))) (S (w32 (x3 + 3))) M50 (fun r51 M52 =>
      (r49 = r51 →
        B18 (w32 (x3 + 6)) M52) ∧ (¬ (r49 = r51) →
        False)))) ∧
    (and32 (S x3) 31 = 13 →
      ((0 : Int) ≤ w32 (x3 + 1) ∧ w32 (x3 + 1) < L) ∧
      ((0 : Int) ≤ w32 (x3 + 2) ∧ w32 (x3 + 2) < L) ∧
      ((0 : Int) ≤ w32 (x3 + 3) ∧ w32 (x3 + 3) < L) ∧
      ((0 : Int) ≤ w32 (x3 + 4) ∧ w32 (x3 + 4) < L) ∧
      ((0 : Int) ≤ w32 (x3 + 5) ∧ w32 (x3 + 5) < L) ∧
      R_X9_common V (S (w32 (x3 + 1))) (S (w32 (x3 + 2))) (S (w32 (x3 + 3))) (S (w32 (x3 + 4))) (S (w32 (x3 + 5))) M (fun r53 M54 =>
      ((0 : Int) ≤ w32 (x3 + 1) ∧ w32 (x3 + 1) < L) ∧
      ((0 : Int) ≤ w32 (x3 + 2) ∧ w32 (x3 + 2) < L) ∧
      ((0 : Int) ≤ w32 (x3 + 3) ∧ w32 (x3 + 3) < L) ∧
      ((0 : Int) ≤ w32 (x3 + 4) ∧ w32 (x3 + 4) < L) ∧
      ((0 : Int) ≤ w32 (x3 + 5) ∧ w32 (x3 + 5) < L) ∧
      R_X10_common V (S (w32 (x3 + 1))) (S (w32 (x3 + 2))) (S (w32 (x3 + 3))) (S (w32 (x3 + 4))) (S (w32 (x3 + 5))) M54 (fun r55 M56 =>
      (r53 = r55 →
        B18 (w32 (x3 + 6)) M56) ∧ (¬ (r53 = r55) →
        False)))) ∧
    (and32 (S x3) 31 = 14 →
      ((0 : Int) ≤ w32 (x3 + 1) ∧ w32 (x3 + 1) < L) ∧
      ((0 : Int) ≤ w32 (x3 + 2) ∧ w32 (x3 + 2) < L) ∧
      R_X9_twice V (S (w32 (x3 + 1))) (S (w32 (x3 + 2))) M (fun r57 M58 =>
      ((0 : Int) ≤ w32 (x3 + 1) ∧ w32 (x3 + 1) < L) ∧
      ((0 : Int) ≤ w32 (x3 + 2) ∧ w32 (x3 + 2) < L) ∧
      R_X10_twice V (S (w32 (x3 + 1))) (S (w32 (x3 + 2))) M58 (fun r59 M60 =>
      (r57 = r59 →
        B18 (w32 (x3 + 6)) M60) ∧ (¬ (r57 = r59) →
        False)))) ∧
    (and32 (S x3) 31 = 15 →
      ((0 : Int) ≤ w32 (x3 + 1) ∧ w32 (x3 + 1) < L) ∧
      ((0 : Int) ≤ w32 (x3 + 2) ∧ w32 (x3 + 2) < L) ∧
      R_X9_rule V (S (w32 (x3 + 1))) (S (w32 (x3 + 2))) M (fun r61 M62 =>
      ((0 : Int) ≤ w32 (x3 + 1) ∧ w32 (x3 + 1) < L) ∧
      ((0 : Int) ≤ w32 (x3 + 2) ∧ w32 (x3 + 2) < L) ∧
      R_X10_rule V (S (w32 (x3 + 1))) (S (w32 (x3 + 2))) M62 (fun r63 M64 =>
      (r61 = r63 →
        B18 (w32 (x3 + 6)) M64) ∧ (¬ (r61 = r63) →
        False)))) ∧
    (and32 (S x3) 31 = 16 →
      R_X9_clear V M (fun r65 M66 =>
      R_X10_clear V M66 (fun r67 M68 =>
      (r65 = r67 →
        B18 (w32 (x3 + 6)) M68) ∧ (¬ (r65 = r67) →
        False)))) ∧
    (and32 (S x3) 31 = 17 →
      ((0 : Int) ≤ w32 (x3 + 1) ∧ w32 (x3 + 1) < L) ∧
      ((0 : Int) ≤ w32 (x3 + 2) ∧ w32 (x3 + 2) < L) ∧
      R_X9_fits V (S (w32 (x3 + 1))) (S (w32 (x3 + 2))) M (fun r69 M70 =>
      ((0 : Int) ≤ w32 (x3 + 1) ∧ w32 (x3 + 1) < L) ∧
      ((0 : Int) ≤ w32 (x3 + 2) ∧ w32 (x3 + 2) < L) ∧
      R_X10_fits V (S (w32 (x3 + 1))) (S (w32 (x3 + 2))) M70 (fun r71 M72 =>
      (r69 = r71 →
        B18 (w32 (x3 + 6)) M72) ∧ (¬ (r69 = r71) →
        False)))) ∧
    (and32 (S x3) 31 = 18 →
      ((0 : Int) ≤ w32 (x3 + 1) ∧ w32 (x3 + 1) < L) ∧
      ((0 : Int) ≤ w32 (x3 + 2) ∧ w32 (x3 + 2) < L) ∧
      ((0 : Int) ≤ w32 (x3 + 3) ∧ w32 (x3 + 3) < L) ∧
      R_X9_make V (S (w32 (x3 + 1))) (S (w32 (x3 + 2))) (S (w32 (x3 + 3))) M (fun r73 M74 =>
      ((0 : Int) ≤ w32 (x3 + 1) ∧ w32 (x3 + 1) < L) ∧
      ((0 : Int) ≤ w32 (x3 + 2) ∧ w32 (x3 + 2) < L) ∧
      ((0 : Int) ≤ w32 (x3 + 3) ∧ w32 (x3 + 3) < L) ∧
      R_X10_make V (S (w32 (x3 + 1))) (S (w32 (x3 + 2))) (S (w32 (x3 + 3))) M74 (fun r75 M76 =>
      (r73 = r75 →
        B18 (w32 (x3 + 6)) M76) ∧ (¬ (r73 = r75) →
        False)))) ∧
    (and32 (S x3) 31 = 19 →
      ((0 : Int) ≤ w32 (x3 + 1) ∧ w32 (x3 + 1) < L) ∧
      ((0 : Int) ≤ w32 (x3 + 2) ∧ w32 (x3 + 2) < L) ∧
      (S (w32 (x3 + 2)) = 0 →
        wp_L_law_824 V S L x3 0 (S (w32 (x3 + 1))) M Q B18) ∧ (¬ (S (w32 (x3 + 2)) = 0) →
        wp_L_law_824 V S L x3 1 (S (w32 (x3 + 1))) M Q B18)) ∧
    (and32 (S x3) 31 = 20 →
      R_X9_steps V M (fun r81 M82 =>
      R_X10_steps V M82 (fun r83 M84 =>
      (r81 = r83 →
        B18 (w32 (x3 + 6)) M84) ∧ (¬ (r81 = r83) →
        False)))) ∧
    (and32 (S x3) 31 = 21 →
      ((0 : Int) ≤ w32 (x3 + 1) ∧ w32 (x3 + 1) < L) ∧
      ((0 : Int) ≤ w32 (x3 + 2) ∧ w32 (x3 + 2) < L) ∧
      ((0 : Int) ≤ w32 (x3 + 3) ∧ w32 (x3 + 3) < L) ∧
      R_X9_overlap V (S (w32 (x3 + 1))) (S (w32 (x3 + 2))) (S (w32 (x3 + 3))) M (fun r85 M86 =>
      ((0 : Int) ≤ w32 (x3 + 1) ∧ w32 (x3 + 1) < L) ∧
      ((0 : Int) ≤ w32 (x3 + 2) ∧ w32 (x3 + 2) < L) ∧
      ((0 : Int) ≤ w32 (x3 + 3) ∧ w32 (x3 + 3) < L) ∧
      R_X10_overlap V (S (w32 (x3 + 1))) (S (w32 (x3 + 2))) (S (w32 (x3 + 3))) M86 (fun r87 M88 =>
      (r85 = r87 →
        B18 (w32 (x3 + 6)) M88) ∧ (¬ (r85 = r87) →
        False)))) ∧
    (and32 (S x3) 31 = 22 →
      ((0 : Int) ≤ w32 (x3 + 1) ∧ w32 (x3 + 1) < L) ∧
      ((0 : Int) ≤ w32 (x3 + 2) ∧ w32 (x3 + 2) < L) ∧
      ((0 : Int) ≤ w32 (x3 + 3) ∧ w32 (x3 + 3) < L) ∧
      ((0 : Int) ≤ w32 (x3 + 4) ∧ w32 (x3 + 4) < L) ∧
      R_X9_peak V (S (w32 (x3 + 1))) (S (w32 (x3 + 2))) (S (w32 (x3 + 3))) (S (w32 (x3 + 4))) M (fun r89 M90 =>
      ((0 : Int) ≤ w32 (x3 + 1) ∧ w32 (x3 + 1) < L) ∧
      ((0 : Int) ≤ w32 (x3 + 2) ∧ w32 (x3 + 2) < L) ∧
      ((0 : Int) ≤ w32 (x3 + 3) ∧ w32 (x3 + 3) < L) ∧
      ((0 : Int) ≤ w32 (x3 + 4) ∧ w32 (x3 + 4) < L) ∧
      R_X10_peak V (S (w32 (x3 + 1))) (S (w32 (x3 + 2))) (S (w32 (x3 + 3))) (S (w32 (x3 + 4))) M90 (fun r91 M92 =>
      (r89 = r91 →
        B18 (w32 (x3 + 6)) M92) ∧ (¬ (r89 = r91) →
        False)))) ∧
    (and32 (S x3) 31 = 23 →
      ((0 : Int) ≤ w32 (x3 + 1) ∧ w32 (x3 + 1) < L) ∧
      R_X9_overlaps V (S (w32 (x3 + 1))) M (fun r93 M94 =>
      ((0 : Int) ≤ w32 (x3 + 1) ∧ w32 (x3 + 1) < L) ∧
      R_X10_overlaps V (S (w32 (x3 + 1))) M94 (fun r95 M96 =>
      (r93 = r95 →
        B18 (w32 (x3 + 6)) M96) ∧ (¬ (r93 = r95) →
        False)))) ∧
    (and32 (S x3) 31 = 24 →
      ((0 : Int) ≤ w32 (x3 + 1) ∧ w32 (x3 + 1) < L) ∧
      R_X9_told V (S (w32 (x3 + 1))) M (fun r97 M98 =>
      ((0 : Int) ≤ w32 (x3 + 1) ∧ w32 (x3 + 1) < L) ∧
      R_X10_told V (S (w32 (x3 + 1))) M98 (fun r99 M100 =>
      (r97 = r99 →
        B18 (w32 (x3 + 6)) M100) ∧ (¬ (r97 = r99) →
        False)))))
theorem swp_L_law_18_b {X : XX} {Q : Int → Mem → Prop} {b : Int} {S : Int → Int} {L : Int} (G : GX X code "TreeHandsLaw") (Z : LX X b S L) (hn : nLX X = 4) (hr : roomX X = room_1) (x3 : Int) (M : Mem) (B18 : Int → Mem → Prop) (k18 : ∀ (z3 : Int) (N : Mem), B18 z3 N → AW X 18 [(2, b), (19, 0), (20, 203), (0, z3)] [] N) (h : wp_L_law_18_b (vX X) S L x3 M Q B18) : AW X 18 [(2, b), (19, 0), (20, 203), (0, x3)] [] M := by
  unfold wp_L_law_18_b at h
  refine am_iload_n (i := 3) (pc := 18) G dL_law_18 rfl rfl ?_
  refine am_aloadA (i := 0) (pc := 19) G dL_law_19 rfl rfl ?_
  refine am_slen (pc := 20) G Z dL_law_20 ?_
  refine am_bipush (pc := 21) G dL_law_21 (by decide) (by decide) ?_
  refine am_isub (pc := 23) G dL_law_23 ?_
  refine am_icmp_gt (pc := 24) G 1015 dL_law_24 (by decide) (fun c => ?_) (fun c => ?_)
  · have h := h.1 c
    refine am_iconst (pc := 1015) G dL_law_1015 (by decide) ?_
    exact am_lawret (pc := 1016) G Z dL_law_1016
  · have h := h.2 c
    refine am_aloadA (i := 0) (pc := 27) G dL_law_27 rfl rfl ?_
    refine am_iload_n (i := 3) (pc := 28) G dL_law_28 rfl rfl ?_
    refine am_sld (pc := 29) G Z dL_law_29 h.1 ?_
    have h := h.2
    refine am_bipush (pc := 30) G dL_law_30 (by decide) (by decide) ?_
    refine am_iand (pc := 32) G dL_law_32 ?_
    rcases (show (and32 (S x3) 31 < 0 ∨ 24 < and32 (S x3) 31) ∨ and32 (S x3) 31 = 0 ∨ and32 (S x3) 31 = 1 ∨ and32 (S x3) 31 = 2 ∨ and32 (S x3) 31 = 3 ∨ and32 (S x3) 31 = 4 ∨ and32 (S x3) 31 = 5 ∨ and32 (S x3) 31 = 6 ∨ and32 (S x3) 31 = 7 ∨ and32 (S x3) 31 = 8 ∨ and32 (S x3) 31 = 9 ∨ and32 (S x3) 31 = 10 ∨ and32 (S x3) 31 = 11 ∨ and32 (S x3) 31 = 12 ∨ and32 (S x3) 31 = 13 ∨ and32 (S x3) 31 = 14 ∨ and32 (S x3) 31 = 15 ∨ and32 (S x3) 31 = 16 ∨ and32 (S x3) 31 = 17 ∨ and32 (S x3) 31 = 18 ∨ and32 (S x3) 31 = 19 ∨ and32 (S x3) 31 = 20 ∨ and32 (S x3) 31 = 21 ∨ and32 (S x3) 31 = 22 ∨ and32 (S x3) 31 = 23 ∨ and32 (S x3) 31 = 24 by omega) with c | c | c | c | c | c | c | c | c | c | c | c | c | c | c | c | c | c | c | c | c | c | c | c | c | c
    · refine am_tableOut (pc := 33) G 1009 dL_law_33 c (by decide) ?_
      have h := h.1 c
      refine am_iinc (pc := 1009) G dL_law_1009 rfl (nlx hn rfl) rfl ?_
      refine am_goto (pc := 1012) (ls := [(2, _), (19, _), (20, _), (0, _)]) G 18 dL_law_1012 (by decide) ?_
      refine am_le (ls' := [(2, _), (19, _), (20, _), (0, _)]) ⟨Or.inr rfl, ⟨Or.inr rfl, ⟨Or.inr rfl, ⟨Or.inr rfl, trivial⟩⟩⟩⟩ ?_
      exact k18 _ _ h
    · have h := h.2.1 c
      refine am_tableIn (off := 115) (pc := 33) G 148 dL_law_33 (by rw [c]; decide) (by rw [c]; rfl) (by decide) ?_
      refine am_aload_n (i := 1) (t := 16) (pc := 148) G dL_law_148 rfl rfl rfl ?_
      refine am_aloadA (i := 0) (pc := 149) G dL_law_149 rfl rfl ?_
      refine am_iload_n (i := 3) (pc := 150) G dL_law_150 rfl rfl ?_
      refine am_iconst (pc := 151) G dL_law_151 (by decide) ?_
      refine am_iadd (pc := 152) G dL_law_152 ?_
      refine am_sld (pc := 153) G Z dL_law_153 h.1 ?_
      have h := h.2
      refine am_callV (rk := 0) (rmc := rm_X9_say) (st := []) (pc := 154) G 9 [(0, _)] rfl (by decide) rfl dL_law_154 tw_m_RL_13 tw_i_X9_say tw_v_X9_say tw_z_RX9 tw_c_X9_say hy_X9_say (callrm hr rfl) rfl (RunsM.mono h (fun r1 M2 h => ?_)) Z.rm
      show AW X 157 _ [(0, _)] M2
      refine am_aload_n (i := 2) (t := 17) (pc := 157) G dL_law_157 rfl rfl rfl ?_
      refine am_aloadA (i := 0) (pc := 158) G dL_law_158 rfl rfl ?_
      refine am_iload_n (i := 3) (pc := 159) G dL_law_159 rfl rfl ?_
      refine am_iconst (pc := 160) G dL_law_160 (by decide) ?_
      refine am_iadd (pc := 161) G dL_law_161 ?_
      refine am_sld (pc := 162) G Z dL_law_162 h.1 ?_
      have h := h.2
      refine am_callV (rk := 0) (rmc := rm_X10_say) (st := [(0, _)]) (pc := 163) G 10 [(0, _)] rfl (by decide) rfl dL_law_163 tw_m_RL_17 tw_i_X10_say tw_v_X10_say tw_z_RX10 tw_c_X10_say hy_X10_say (callrm hr rfl) rfl (RunsM.mono h (fun r3 M4 h => ?_)) Z.rm
      show AW X 166 _ [(0, _), (0, _)] M4
      refine am_icmp_eq (pc := 166) G 1009 dL_law_166 (by decide) (fun c => ?_) (fun c => ?_)
      · have h := h.1 c
        refine am_iinc (pc := 1009) G dL_law_1009 rfl (nlx hn rfl) rfl ?_
        refine am_goto (pc := 1012) (ls := [(2, _), (19, _), (20, _), (0, _)]) G 18 dL_law_1012 (by decide) ?_
        refine am_le (ls' := [(2, _), (19, _), (20, _), (0, _)]) ⟨Or.inr rfl, ⟨Or.inr rfl, ⟨Or.inr rfl, ⟨Or.inr rfl, trivial⟩⟩⟩⟩ ?_
        exact k18 _ _ h
      · have h := h.2 c
        refine am_iconst (pc := 169) G dL_law_169 (by decide) ?_
        exact absurd h id
    · have h := h.2.2.1 c
      refine am_tableIn (off := 138) (pc := 33) G 171 dL_law_33 (by rw [c]; decide) (by rw [c]; rfl) (by decide) ?_
      refine am_aload_n (i := 1) (t := 16) (pc := 171) G dL_law_171 rfl rfl rfl ?_
      refine am_callV (rk := 0) (rmc := rm_X9_wipe) (st := []) (pc := 172) G 9 [] rfl (by decide) rfl dL_law_172 tw_m_RL_18 tw_i_X9_wipe tw_v_X9_wipe tw_z_RX9 tw_c_X9_wipe hy_X9_wipe (callrm hr rfl) rfl (RunsM.mono h (fun r5 M6 h => ?_)) Z.rm
      show AW X 175 _ [(0, _)] M6
      refine am_aload_n (i := 2) (t := 17) (pc := 175) G dL_law_175 rfl rfl rfl ?_
      refine am_callV (rk := 0) (rmc := rm_X10_wipe) (st := [(0, _)]) (pc := 176) G 10 [] rfl (by decide) rfl dL_law_176 tw_m_RL_22 tw_i_X10_wipe tw_v_X10_wipe tw_z_RX10 tw_c_X10_wipe hy_X10_wipe (callrm hr rfl) rfl (RunsM.mono h (fun r7 M8 h => ?_)) Z.rm
      show AW X 179 _ [(0, _), (0, _)] M8
      refine am_icmp_eq (pc := 179) G 1009 dL_law_179 (by decide) (fun c => ?_) (fun c => ?_)
      · have h := h.1 c
        refine am_iinc (pc := 1009) G dL_law_1009 rfl (nlx hn rfl) rfl ?_
        refine am_goto (pc := 1012) (ls := [(2, _), (19, _), (20, _), (0, _)]) G 18 dL_law_1012 (by decide) ?_
        refine am_le (ls' := [(2, _), (19, _), (20, _), (0, _)]) ⟨Or.inr rfl, ⟨Or.inr rfl, ⟨Or.inr rfl, ⟨Or.inr rfl, trivial⟩⟩⟩⟩ ?_
        exact k18 _ _ h
      · have h := h.2 c
        refine am_iconst (pc := 182) G dL_law_182 (by decide) ?_
        exact absurd h id
    · have h := h.2.2.2.1 c
      refine am_tableIn (off := 151) (pc := 33) G 184 dL_law_33 (by rw [c]; decide) (by rw [c]; rfl) (by decide) ?_
      refine am_aload_n (i := 1) (t := 16) (pc := 184) G dL_law_184 rfl rfl rfl ?_
      refine am_callV (rk := 0) (rmc := rm_X9_fault) (st := []) (pc := 185) G 9 [] rfl (by decide) rfl dL_law_185 tw_m_RL_23 tw_i_X9_fault tw_v_X9_fault tw_z_RX9 tw_c_X9_fault hy_X9_fault (callrm hr rfl) rfl (RunsM.mono h (fun r9 M10 h => ?_)) Z.rm
      show AW X 188 _ [(0, _)] M10
      refine am_aload_n (i := 2) (t := 17) (pc := 188) G dL_law_188 rfl rfl rfl ?_
      refine am_callV (rk := 0) (rmc := rm_X10_fault) (st := [(0, _)]) (pc := 189) G 10 [] rfl (by decide) rfl dL_law_189 tw_m_RL_26 tw_i_X10_fault tw_v_X10_fault tw_z_RX10 tw_c_X10_fault hy_X10_fault (callrm hr rfl) rfl (RunsM.mono h (fun r11 M12 h => ?_)) Z.rm
      show AW X 192 _ [(0, _), (0, _)] M12
      refine am_icmp_eq (pc := 192) G 1009 dL_law_192 (by decide) (fun c => ?_) (fun c => ?_)
      · have h := h.1 c
        refine am_iinc (pc := 1009) G dL_law_1009 rfl (nlx hn rfl) rfl ?_
        refine am_goto (pc := 1012) (ls := [(2, _), (19, _), (20, _), (0, _)]) G 18 dL_law_1012 (by decide) ?_
        refine am_le (ls' := [(2, _), (19, _), (20, _), (0, _)]) ⟨Or.inr rfl, ⟨Or.inr rfl, ⟨Or.inr rfl, ⟨Or.inr rfl, trivial⟩⟩⟩⟩ ?_
        exact k18 _ _ h
      · have h := h.2 c
        refine am_iconst (pc := 195) G dL_law_195 (by decide) ?_
        exact absurd h id
    · have h := h.2.2.2.2.1 c
      refine am_tableIn (off := 164) (pc := 33) G 197 dL_law_33 (by rw [c]; decide) (by rw [c]; rfl) (by decide) ?_
      refine am_aload_n (i := 1) (t := 16) (pc := 197) G dL_law_197 rfl rfl rfl ?_
      refine am_aloadA (i := 0) (pc := 198) G dL_law_198 rfl rfl ?_
      refine am_iload_n (i := 3) (pc := 199) G dL_law_199 rfl rfl ?_
      refine am_iconst (pc := 200) G dL_law_200 (by decide) ?_
      refine am_iadd (pc := 201) G dL_law_201 ?_
      refine am_sld (pc := 202) G Z dL_law_202 h.1 ?_
      have h := h.2
      refine am_callV (rk := 0) (rmc := rm_X9_read) (st := []) (pc := 203) G 9 [(0, _)] rfl (by decide) rfl dL_law_203 tw_m_RL_27 tw_i_X9_read tw_v_X9_read tw_z_RX9 tw_c_X9_read hy_X9_read (callrm hr rfl) rfl (RunsM.mono h (fun r13 M14 h => ?_)) Z.rm
      show AW X 206 _ [(0, _)] M14
      refine am_aload_n (i := 2) (t := 17) (pc := 206) G dL_law_206 rfl rfl rfl ?_
      refine am_aloadA (i := 0) (pc := 207) G dL_law_207 rfl rfl ?_
      refine am_iload_n (i := 3) (pc := 208) G dL_law_208 rfl rfl ?_
      refine am_iconst (pc := 209) G dL_law_209 (by decide) ?_
      refine am_iadd (pc := 210) G dL_law_210 ?_
      refine am_sld (pc := 211) G Z dL_law_211 h.1 ?_
      have h := h.2
      refine am_callV (rk := 0) (rmc := rm_X10_read) (st := [(0, _)]) (pc := 212) G 10 [(0, _)] rfl (by decide) rfl dL_law_212 tw_m_RL_30 tw_i_X10_read tw_v_X10_read tw_z_RX10 tw_c_X10_read hy_X10_read (callrm hr rfl) rfl (RunsM.mono h (fun r15 M16 h => ?_)) Z.rm
      show AW X 215 _ [(0, _), (0, _)] M16
      refine am_icmp_eq (pc := 215) G 1009 dL_law_215 (by decide) (fun c => ?_) (fun c => ?_)
      · have h := h.1 c
        refine am_iinc (pc := 1009) G dL_law_1009 rfl (nlx hn rfl) rfl ?_
        refine am_goto (pc := 1012) (ls := [(2, _), (19, _), (20, _), (0, _)]) G 18 dL_law_1012 (by decide) ?_
        refine am_le (ls' := [(2, _), (19, _), (20, _), (0, _)]) ⟨Or.inr rfl, ⟨Or.inr rfl, ⟨Or.inr rfl, ⟨Or.inr rfl, trivial⟩⟩⟩⟩ ?_
        exact k18 _ _ h
      · have h := h.2 c
        refine am_iconst (pc := 218) G dL_law_218 (by decide) ?_
        exact absurd h id
    · have h := h.2.2.2.2.2.1 c
      refine am_tableIn (off := 187) (pc := 33) G 220 dL_law_33 (by rw [c]; decide) (by rw [c]; rfl) (by decide) ?_
      refine am_aload_n (i := 1) (t := 16) (pc := 220) G dL_law_220 rfl rfl rfl ?_
      refine am_aloadA (i := 0) (pc := 221) G dL_law_221 rfl rfl ?_
      refine am_iload_n (i := 3) (pc := 222) G dL_law_222 rfl rfl ?_
      refine am_iconst (pc := 223) G dL_law_223 (by decide) ?_
      refine am_iadd (pc := 224) G dL_law_224 ?_
      refine am_sld (pc := 225) G Z dL_law_225 h.1 ?_
      have h := h.2
      refine am_aloadA (i := 0) (pc := 226) G dL_law_226 rfl rfl ?_
      refine am_iload_n (i := 3) (pc := 227) G dL_law_227 rfl rfl ?_
      refine am_iconst (pc := 228) G dL_law_228 (by decide) ?_
      refine am_iadd (pc := 229) G dL_law_229 ?_
      refine am_sld (pc := 230) G Z dL_law_230 h.1 ?_
      have h := h.2
      refine am_aloadA (i := 0) (pc := 231) G dL_law_231 rfl rfl ?_
      refine am_iload_n (i := 3) (pc := 232) G dL_law_232 rfl rfl ?_
      refine am_iconst (pc := 233) G dL_law_233 (by decide) ?_
      refine am_iadd (pc := 234) G dL_law_234 ?_
      refine am_sld (pc := 235) G Z dL_law_235 h.1 ?_
      have h := h.2
      refine am_callV (rk := 0) (rmc := rm_X9_node) (st := []) (pc := 236) G 9 [(0, _), (0, _), (0, _)] rfl (by decide) rfl dL_law_236 tw_m_RL_31 tw_i_X9_node tw_v_X9_node tw_z_RX9 tw_c_X9_node hy_X9_node (callrm hr rfl) rfl (RunsM.mono h (fun r17 M18 h => ?_)) Z.rm
      show AW X 239 _ [(0, _)] M18
      refine am_aload_n (i := 2) (t := 17) (pc := 239) G dL_law_239 rfl rfl rfl ?_
      refine am_aloadA (i := 0) (pc := 240) G dL_law_240 rfl rfl ?_
      refine am_iload_n (i := 3) (pc := 241) G dL_law_241 rfl rfl ?_
      refine am_iconst (pc := 242) G dL_law_242 (by decide) ?_
      refine am_iadd (pc := 243) G dL_law_243 ?_
      refine am_sld (pc := 244) G Z dL_law_244 h.1 ?_
      have h := h.2
      refine am_aloadA (i := 0) (pc := 245) G dL_law_245 rfl rfl ?_
      refine am_iload_n (i := 3) (pc := 246) G dL_law_246 rfl rfl ?_
      refine am_iconst (pc := 247) G dL_law_247 (by decide) ?_
      refine am_iadd (pc := 248) G dL_law_248 ?_
      refine am_sld (pc := 249) G Z dL_law_249 h.1 ?_
      have h := h.2
      refine am_aloadA (i := 0) (pc := 250) G dL_law_250 rfl rfl ?_
      refine am_iload_n (i := 3) (pc := 251) G dL_law_251 rfl rfl ?_
      refine am_iconst (pc := 252) G dL_law_252 (by decide) ?_
      refine am_iadd (pc := 253) G dL_law_253 ?_
      refine am_sld (pc := 254) G Z dL_law_254 h.1 ?_
      have h := h.2
      refine am_callV (rk := 0) (rmc := rm_X10_node) (st := [(0, _)]) (pc := 255) G 10 [(0, _), (0, _), (0, _)] rfl (by decide) rfl dL_law_255 tw_m_RL_35 tw_i_X10_node tw_v_X10_node tw_z_RX10 tw_c_X10_node hy_X10_node (callrm hr rfl) rfl (RunsM.mono h (fun r19 M20 h => ?_)) Z.rm
      show AW X 258 _ [(0, _), (0, _)] M20
      refine am_icmp_eq (pc := 258) G 1009 dL_law_258 (by decide) (fun c => ?_) (fun c => ?_)
      · have h := h.1 c
        refine am_iinc (pc := 1009) G dL_law_1009 rfl (nlx hn rfl) rfl ?_
        refine am_goto (pc := 1012) (ls := [(2, _), (19, _), (20, _), (0, _)]) G 18 dL_law_1012 (by decide) ?_
        refine am_le (ls' := [(2, _), (19, _), (20, _), (0, _)]) ⟨Or.inr rfl, ⟨Or.inr rfl, ⟨Or.inr rfl, ⟨Or.inr rfl, trivial⟩⟩⟩⟩ ?_
        exact k18 _ _ h
      · have h := h.2 c
        refine am_iconst (pc := 261) G dL_law_261 (by decide) ?_
        exact absurd h id
    · have h := h.2.2.2.2.2.2.1 c
      refine am_tableIn (off := 230) (pc := 33) G 263 dL_law_33 (by rw [c]; decide) (by rw [c]; rfl) (by decide) ?_
      refine am_aload_n (i := 1) (t := 16) (pc := 263) G dL_law_263 rfl rfl rfl ?_
      refine am_aloadA (i := 0) (pc := 264) G dL_law_264 rfl rfl ?_
      refine am_iload_n (i := 3) (pc := 265) G dL_law_265 rfl rfl ?_
      refine am_iconst (pc := 266) G dL_law_266 (by decide) ?_
      refine am_iadd (pc := 267) G dL_law_267 ?_
      refine am_sld (pc := 268) G Z dL_law_268 h.1 ?_
      have h := h.2
      refine am_aloadA (i := 0) (pc := 269) G dL_law_269 rfl rfl ?_
      refine am_iload_n (i := 3) (pc := 270) G dL_law_270 rfl rfl ?_
      refine am_iconst (pc := 271) G dL_law_271 (by decide) ?_
      refine am_iadd (pc := 272) G dL_law_272 ?_
      refine am_sld (pc := 273) G Z dL_law_273 h.1 ?_
      have h := h.2
      refine am_callV (rk := 0) (rmc := rm_X9_sign) (st := []) (pc := 274) G 9 [(0, _), (0, _)] rfl (by decide) rfl dL_law_274 tw_m_RL_36 tw_i_X9_sign tw_v_X9_sign tw_z_RX9 tw_c_X9_sign hy_X9_sign (callrm hr rfl) rfl (RunsM.mono h (fun r21 M22 h => ?_)) Z.rm
      show AW X 277 _ [(0, _)] M22
      refine am_aload_n (i := 2) (t := 17) (pc := 277) G dL_law_277 rfl rfl rfl ?_
      refine am_aloadA (i := 0) (pc := 278) G dL_law_278 rfl rfl ?_
      refine am_iload_n (i := 3) (pc := 279) G dL_law_279 rfl rfl ?_
      refine am_iconst (pc := 280) G dL_law_280 (by decide) ?_
      refine am_iadd (pc := 281) G dL_law_281 ?_
      refine am_sld (pc := 282) G Z dL_law_282 h.1 ?_
      have h := h.2
      refine am_aloadA (i := 0) (pc := 283) G dL_law_283 rfl rfl ?_
      refine am_iload_n (i := 3) (pc := 284) G dL_law_284 rfl rfl ?_
      refine am_iconst (pc := 285) G dL_law_285 (by decide) ?_
      refine am_iadd (pc := 286) G dL_law_286 ?_
      refine am_sld (pc := 287) G Z dL_law_287 h.1 ?_
      have h := h.2
      refine am_callV (rk := 0) (rmc := rm_X10_sign) (st := [(0, _)]) (pc := 288) G 10 [(0, _), (0, _)] rfl (by decide) rfl dL_law_288 tw_m_RL_40 tw_i_X10_sign tw_v_X10_sign tw_z_RX10 tw_c_X10_sign hy_X10_sign (callrm hr rfl) rfl (RunsM.mono h (fun r23 M24 h => ?_)) Z.rm
      show AW X 291 _ [(0, _), (0, _)] M24
      refine am_icmp_eq (pc := 291) G 1009 dL_law_291 (by decide) (fun c => ?_) (fun c => ?_)
      · have h := h.1 c
        refine am_iinc (pc := 1009) G dL_law_1009 rfl (nlx hn rfl) rfl ?_
        refine am_goto (pc := 1012) (ls := [(2, _), (19, _), (20, _), (0, _)]) G 18 dL_law_1012 (by decide) ?_
        refine am_le (ls' := [(2, _), (19, _), (20, _), (0, _)]) ⟨Or.inr rfl, ⟨Or.inr rfl, ⟨Or.inr rfl, ⟨Or.inr rfl, trivial⟩⟩⟩⟩ ?_
        exact k18 _ _ h
      · have h := h.2 c
        refine am_iconst (pc := 294) G dL_law_294 (by decide) ?_
        exact absurd h id
    · have h := h.2.2.2.2.2.2.2.1 c
      refine am_tableIn (off := 263) (pc := 33) G 296 dL_law_33 (by rw [c]; decide) (by rw [c]; rfl) (by decide) ?_
      refine am_aload_n (i := 1) (t := 16) (pc := 296) G dL_law_296 rfl rfl rfl ?_
      refine am_aloadA (i := 0) (pc := 297) G dL_law_297 rfl rfl ?_
      refine am_iload_n (i := 3) (pc := 298) G dL_law_298 rfl rfl ?_
      refine am_iconst (pc := 299) G dL_law_299 (by decide) ?_
      refine am_iadd (pc := 300) G dL_law_300 ?_
      refine am_sld (pc := 301) G Z dL_law_301 h.1 ?_
      have h := h.2
      refine am_aloadA (i := 0) (pc := 302) G dL_law_302 rfl rfl ?_
      refine am_iload_n (i := 3) (pc := 303) G dL_law_303 rfl rfl ?_
      refine am_iconst (pc := 304) G dL_law_304 (by decide) ?_
      refine am_iadd (pc := 305) G dL_law_305 ?_
      refine am_sld (pc := 306) G Z dL_law_306 h.1 ?_
      have h := h.2
      refine am_aloadA (i := 0) (pc := 307) G dL_law_307 rfl rfl ?_
      refine am_iload_n (i := 3) (pc := 308) G dL_law_308 rfl rfl ?_
      refine am_iconst (pc := 309) G dL_law_309 (by decide) ?_
      refine am_iadd (pc := 310) G dL_law_310 ?_
      refine am_sld (pc := 311) G Z dL_law_311 h.1 ?_
      have h := h.2
      refine am_callV (rk := 0) (rmc := rm_X9_take) (st := []) (pc := 312) G 9 [(0, _), (0, _), (0, _)] rfl (by decide) rfl dL_law_312 tw_m_RL_41 tw_i_X9_take tw_v_X9_take tw_z_RX9 tw_c_X9_take hy_X9_take (callrm hr rfl) rfl (RunsM.mono h (fun r25 M26 h => ?_)) Z.rm
      show AW X 315 _ [(0, _)] M26
      refine am_aload_n (i := 2) (t := 17) (pc := 315) G dL_law_315 rfl rfl rfl ?_
      refine am_aloadA (i := 0) (pc := 316) G dL_law_316 rfl rfl ?_
      refine am_iload_n (i := 3) (pc := 317) G dL_law_317 rfl rfl ?_
      refine am_iconst (pc := 318) G dL_law_318 (by decide) ?_
      refine am_iadd (pc := 319) G dL_law_319 ?_
      refine am_sld (pc := 320) G Z dL_law_320 h.1 ?_
      have h := h.2
      refine am_aloadA (i := 0) (pc := 321) G dL_law_321 rfl rfl ?_
      refine am_iload_n (i := 3) (pc := 322) G dL_law_322 rfl rfl ?_
      refine am_iconst (pc := 323) G dL_law_323 (by decide) ?_
      refine am_iadd (pc := 324) G dL_law_324 ?_
      refine am_sld (pc := 325) G Z dL_law_325 h.1 ?_
      have h := h.2
      refine am_aloadA (i := 0) (pc := 326) G dL_law_326 rfl rfl ?_
      refine am_iload_n (i := 3) (pc := 327) G dL_law_327 rfl rfl ?_
      refine am_iconst (pc := 328) G dL_law_328 (by decide) ?_
      refine am_iadd (pc := 329) G dL_law_329 ?_
      refine am_sld (pc := 330) G Z dL_law_330 h.1 ?_
      have h := h.2
      refine am_callV (rk := 0) (rmc := rm_X10_take) (st := [(0, _)]) (pc := 331) G 10 [(0, _), (0, _), (0, _)] rfl (by decide) rfl dL_law_331 tw_m_RL_44 tw_i_X10_take tw_v_X10_take tw_z_RX10 tw_c_X10_take hy_X10_take (callrm hr rfl) rfl (RunsM.mono h (fun r27 M28 h => ?_)) Z.rm
      show AW X 334 _ [(0, _), (0, _)] M28
      refine am_icmp_eq (pc := 334) G 1009 dL_law_334 (by decide) (fun c => ?_) (fun c => ?_)
      · have h := h.1 c
        refine am_iinc (pc := 1009) G dL_law_1009 rfl (nlx hn rfl) rfl ?_
        refine am_goto (pc := 1012) (ls := [(2, _), (19, _), (20, _), (0, _)]) G 18 dL_law_1012 (by decide) ?_
        refine am_le (ls' := [(2, _), (19, _), (20, _), (0, _)]) ⟨Or.inr rfl, ⟨Or.inr rfl, ⟨Or.inr rfl, ⟨Or.inr rfl, trivial⟩⟩⟩⟩ ?_
        exact k18 _ _ h
      · have h := h.2 c
        refine am_iconst (pc := 337) G dL_law_337 (by decide) ?_
        exact absurd h id
    · have h := h.2.2.2.2.2.2.2.2.1 c
      refine am_tableIn (off := 306) (pc := 33) G 339 dL_law_33 (by rw [c]; decide) (by rw [c]; rfl) (by decide) ?_
      refine am_aload_n (i := 1) (t := 16) (pc := 339) G dL_law_339 rfl rfl rfl ?_
      refine am_aloadA (i := 0) (pc := 340) G dL_law_340 rfl rfl ?_
      refine am_iload_n (i := 3) (pc := 341) G dL_law_341 rfl rfl ?_
      refine am_iconst (pc := 342) G dL_law_342 (by decide) ?_
      refine am_iadd (pc := 343) G dL_law_343 ?_
      refine am_sld (pc := 344) G Z dL_law_344 h.1 ?_
      have h := h.2
      refine am_aloadA (i := 0) (pc := 345) G dL_law_345 rfl rfl ?_
      refine am_iload_n (i := 3) (pc := 346) G dL_law_346 rfl rfl ?_
      refine am_iconst (pc := 347) G dL_law_347 (by decide) ?_
      refine am_iadd (pc := 348) G dL_law_348 ?_
      refine am_sld (pc := 349) G Z dL_law_349 h.1 ?_
      have h := h.2
      refine am_aloadA (i := 0) (pc := 350) G dL_law_350 rfl rfl ?_
      refine am_iload_n (i := 3) (pc := 351) G dL_law_351 rfl rfl ?_
      refine am_iconst (pc := 352) G dL_law_352 (by decide) ?_
      refine am_iadd (pc := 353) G dL_law_353 ?_
      refine am_sld (pc := 354) G Z dL_law_354 h.1 ?_
      have h := h.2
      refine am_aloadA (i := 0) (pc := 355) G dL_law_355 rfl rfl ?_
      refine am_iload_n (i := 3) (pc := 356) G dL_law_356 rfl rfl ?_
      refine am_iconst (pc := 357) G dL_law_357 (by decide) ?_
      refine am_iadd (pc := 358) G dL_law_358 ?_
      refine am_sld (pc := 359) G Z dL_law_359 h.1 ?_
      have h := h.2
      refine am_callV (rk := 0) (rmc := rm_X9_alike) (st := []) (pc := 360) G 9 [(0, _), (0, _), (0, _), (0, _)] rfl (by decide) rfl dL_law_360 tw_m_RL_45 tw_i_X9_alike tw_v_X9_alike tw_z_RX9 tw_c_X9_alike hy_X9_alike (callrm hr rfl) rfl (RunsM.mono h (fun r29 M30 h => ?_)) Z.rm
      show AW X 363 _ [(0, _)] M30
      refine am_aload_n (i := 2) (t := 17) (pc := 363) G dL_law_363 rfl rfl rfl ?_
      refine am_aloadA (i := 0) (pc := 364) G dL_law_364 rfl rfl ?_
      refine am_iload_n (i := 3) (pc := 365) G dL_law_365 rfl rfl ?_
      refine am_iconst (pc := 366) G dL_law_366 (by decide) ?_
      refine am_iadd (pc := 367) G dL_law_367 ?_
      refine am_sld (pc := 368) G Z dL_law_368 h.1 ?_
      have h := h.2
      refine am_aloadA (i := 0) (pc := 369) G dL_law_369 rfl rfl ?_
      refine am_iload_n (i := 3) (pc := 370) G dL_law_370 rfl rfl ?_
      refine am_iconst (pc := 371) G dL_law_371 (by decide) ?_
      refine am_iadd (pc := 372) G dL_law_372 ?_
      refine am_sld (pc := 373) G Z dL_law_373 h.1 ?_
      have h := h.2
      refine am_aloadA (i := 0) (pc := 374) G dL_law_374 rfl rfl ?_
      refine am_iload_n (i := 3) (pc := 375) G dL_law_375 rfl rfl ?_
      refine am_iconst (pc := 376) G dL_law_376 (by decide) ?_
      refine am_iadd (pc := 377) G dL_law_377 ?_
      refine am_sld (pc := 378) G Z dL_law_378 h.1 ?_
      have h := h.2
      refine am_aloadA (i := 0) (pc := 379) G dL_law_379 rfl rfl ?_
      refine am_iload_n (i := 3) (pc := 380) G dL_law_380 rfl rfl ?_
      refine am_iconst (pc := 381) G dL_law_381 (by decide) ?_
      refine am_iadd (pc := 382) G dL_law_382 ?_
      refine am_sld (pc := 383) G Z dL_law_383 h.1 ?_
      have h := h.2
      refine am_callV (rk := 0) (rmc := rm_X10_alike) (st := [(0, _)]) (pc := 384) G 10 [(0, _), (0, _), (0, _), (0, _)] rfl (by decide) rfl dL_law_384 tw_m_RL_49 tw_i_X10_alike tw_v_X10_alike tw_z_RX10 tw_c_X10_alike hy_X10_alike (callrm hr rfl) rfl (RunsM.mono h (fun r31 M32 h => ?_)) Z.rm
      show AW X 387 _ [(0, _), (0, _)] M32
      refine am_icmp_eq (pc := 387) G 1009 dL_law_387 (by decide) (fun c => ?_) (fun c => ?_)
      · have h := h.1 c
        refine am_iinc (pc := 1009) G dL_law_1009 rfl (nlx hn rfl) rfl ?_
        refine am_goto (pc := 1012) (ls := [(2, _), (19, _), (20, _), (0, _)]) G 18 dL_law_1012 (by decide) ?_
        refine am_le (ls' := [(2, _), (19, _), (20, _), (0, _)]) ⟨Or.inr rfl, ⟨Or.inr rfl, ⟨Or.inr rfl, ⟨Or.inr rfl, trivial⟩⟩⟩⟩ ?_
        exact k18 _ _ h
      · have h := h.2 c
        refine am_iconst (pc := 390) G dL_law_390 (by decide) ?_
        exact absurd h id
    · have h := h.2.2.2.2.2.2.2.2.2.1 c
      refine am_tableIn (off := 359) (pc := 33) G 392 dL_law_33 (by rw [c]; decide) (by rw [c]; rfl) (by decide) ?_
      refine am_aload_n (i := 1) (t := 16) (pc := 392) G dL_law_392 rfl rfl rfl ?_
      refine am_aloadA (i := 0) (pc := 393) G dL_law_393 rfl rfl ?_
      refine am_iload_n (i := 3) (pc := 394) G dL_law_394 rfl rfl ?_
      refine am_iconst (pc := 395) G dL_law_395 (by decide) ?_
      refine am_iadd (pc := 396) G dL_law_396 ?_
      refine am_sld (pc := 397) G Z dL_law_397 h.1 ?_
      have h := h.2
      refine am_aloadA (i := 0) (pc := 398) G dL_law_398 rfl rfl ?_
      refine am_iload_n (i := 3) (pc := 399) G dL_law_399 rfl rfl ?_
      refine am_iconst (pc := 400) G dL_law_400 (by decide) ?_
      refine am_iadd (pc := 401) G dL_law_401 ?_
      refine am_sld (pc := 402) G Z dL_law_402 h.1 ?_
      have h := h.2
      refine am_callV (rk := 0) (rmc := rm_X9_price) (st := []) (pc := 403) G 9 [(0, _), (0, _)] rfl (by decide) rfl dL_law_403 tw_m_RL_50 tw_i_X9_price tw_v_X9_price tw_z_RX9 tw_c_X9_price hy_X9_price (callrm hr rfl) rfl (RunsM.mono h (fun r33 M34 h => ?_)) Z.rm
      show AW X 406 _ [(0, _)] M34
      refine am_aload_n (i := 2) (t := 17) (pc := 406) G dL_law_406 rfl rfl rfl ?_
      refine am_aloadA (i := 0) (pc := 407) G dL_law_407 rfl rfl ?_
      refine am_iload_n (i := 3) (pc := 408) G dL_law_408 rfl rfl ?_
      refine am_iconst (pc := 409) G dL_law_409 (by decide) ?_
      refine am_iadd (pc := 410) G dL_law_410 ?_
      refine am_sld (pc := 411) G Z dL_law_411 h.1 ?_
      have h := h.2
      refine am_aloadA (i := 0) (pc := 412) G dL_law_412 rfl rfl ?_
      refine am_iload_n (i := 3) (pc := 413) G dL_law_413 rfl rfl ?_
      refine am_iconst (pc := 414) G dL_law_414 (by decide) ?_
      refine am_iadd (pc := 415) G dL_law_415 ?_
      refine am_sld (pc := 416) G Z dL_law_416 h.1 ?_
      have h := h.2
      refine am_callV (rk := 0) (rmc := rm_X10_price) (st := [(0, _)]) (pc := 417) G 10 [(0, _), (0, _)] rfl (by decide) rfl dL_law_417 tw_m_RL_53 tw_i_X10_price tw_v_X10_price tw_z_RX10 tw_c_X10_price hy_X10_price (callrm hr rfl) rfl (RunsM.mono h (fun r35 M36 h => ?_)) Z.rm
      show AW X 420 _ [(0, _), (0, _)] M36
      refine am_icmp_eq (pc := 420) G 1009 dL_law_420 (by decide) (fun c => ?_) (fun c => ?_)
      · have h := h.1 c
        refine am_iinc (pc := 1009) G dL_law_1009 rfl (nlx hn rfl) rfl ?_
        refine am_goto (pc := 1012) (ls := [(2, _), (19, _), (20, _), (0, _)]) G 18 dL_law_1012 (by decide) ?_
        refine am_le (ls' := [(2, _), (19, _), (20, _), (0, _)]) ⟨Or.inr rfl, ⟨Or.inr rfl, ⟨Or.inr rfl, ⟨Or.inr rfl, trivial⟩⟩⟩⟩ ?_
        exact k18 _ _ h
      · have h := h.2 c
        refine am_iconst (pc := 423) G dL_law_423 (by decide) ?_
        exact absurd h id
    · have h := h.2.2.2.2.2.2.2.2.2.2.1 c
      refine am_tableIn (off := 392) (pc := 33) G 425 dL_law_33 (by rw [c]; decide) (by rw [c]; rfl) (by decide) ?_
      refine am_aload_n (i := 1) (t := 16) (pc := 425) G dL_law_425 rfl rfl rfl ?_
      refine am_aloadA (i := 0) (pc := 426) G dL_law_426 rfl rfl ?_
      refine am_iload_n (i := 3) (pc := 427) G dL_law_427 rfl rfl ?_
      refine am_iconst (pc := 428) G dL_law_428 (by decide) ?_
      refine am_iadd (pc := 429) G dL_law_429 ?_
      refine am_sld (pc := 430) G Z dL_law_430 h.1 ?_
      have h := h.2
      refine am_aloadA (i := 0) (pc := 431) G dL_law_431 rfl rfl ?_
      refine am_iload_n (i := 3) (pc := 432) G dL_law_432 rfl rfl ?_
      refine am_iconst (pc := 433) G dL_law_433 (by decide) ?_
      refine am_iadd (pc := 434) G dL_law_434 ?_
      refine am_sld (pc := 435) G Z dL_law_435 h.1 ?_
      have h := h.2
      refine am_callV (rk := 0) (rmc := rm_X9_least) (st := []) (pc := 436) G 9 [(0, _), (0, _)] rfl (by decide) rfl dL_law_436 tw_m_RL_54 tw_i_X9_least tw_v_X9_least tw_z_RX9 tw_c_X9_least hy_X9_least (callrm hr rfl) rfl (RunsM.mono h (fun r37 M38 h => ?_)) Z.rm
      show AW X 439 _ [(0, _)] M38
      refine am_aload_n (i := 2) (t := 17) (pc := 439) G dL_law_439 rfl rfl rfl ?_
      refine am_aloadA (i := 0) (pc := 440) G dL_law_440 rfl rfl ?_
      refine am_iload_n (i := 3) (pc := 441) G dL_law_441 rfl rfl ?_
      refine am_iconst (pc := 442) G dL_law_442 (by decide) ?_
      refine am_iadd (pc := 443) G dL_law_443 ?_
      refine am_sld (pc := 444) G Z dL_law_444 h.1 ?_
      have h := h.2
      refine am_aloadA (i := 0) (pc := 445) G dL_law_445 rfl rfl ?_
      refine am_iload_n (i := 3) (pc := 446) G dL_law_446 rfl rfl ?_
      refine am_iconst (pc := 447) G dL_law_447 (by decide) ?_
      refine am_iadd (pc := 448) G dL_law_448 ?_
      refine am_sld (pc := 449) G Z dL_law_449 h.1 ?_
      have h := h.2
      refine am_callV (rk := 0) (rmc := rm_X10_least) (st := [(0, _)]) (pc := 450) G 10 [(0, _), (0, _)] rfl (by decide) rfl dL_law_450 tw_m_RL_57 tw_i_X10_least tw_v_X10_least tw_z_RX10 tw_c_X10_least hy_X10_least (callrm hr rfl) rfl (RunsM.mono h (fun r39 M40 h => ?_)) Z.rm
      show AW X 453 _ [(0, _), (0, _)] M40
      refine am_icmp_eq (pc := 453) G 1009 dL_law_453 (by decide) (fun c => ?_) (fun c => ?_)
      · have h := h.1 c
        refine am_iinc (pc := 1009) G dL_law_1009 rfl (nlx hn rfl) rfl ?_
        refine am_goto (pc := 1012) (ls := [(2, _), (19, _), (20, _), (0, _)]) G 18 dL_law_1012 (by decide) ?_
        refine am_le (ls' := [(2, _), (19, _), (20, _), (0, _)]) ⟨Or.inr rfl, ⟨Or.inr rfl, ⟨Or.inr rfl, ⟨Or.inr rfl, trivial⟩⟩⟩⟩ ?_
        exact k18 _ _ h
      · have h := h.2 c
        refine am_iconst (pc := 456) G dL_law_456 (by decide) ?_
        exact absurd h id
    · have h := h.2.2.2.2.2.2.2.2.2.2.2.1 c
      refine am_tableIn (off := 425) (pc := 33) G 458 dL_law_33 (by rw [c]; decide) (by rw [c]; rfl) (by decide) ?_
      refine am_aload_n (i := 1) (t := 16) (pc := 458) G dL_law_458 rfl rfl rfl ?_
      refine am_aloadA (i := 0) (pc := 459) G dL_law_459 rfl rfl ?_
      refine am_iload_n (i := 3) (pc := 460) G dL_law_460 rfl rfl ?_
      refine am_iconst (pc := 461) G dL_law_461 (by decide) ?_
      refine am_iadd (pc := 462) G dL_law_462 ?_
      refine am_sld (pc := 463) G Z dL_law_463 h.1 ?_
      have h := h.2
      refine am_aloadA (i := 0) (pc := 464) G dL_law_464 rfl rfl ?_
      refine am_iload_n (i := 3) (pc := 465) G dL_law_465 rfl rfl ?_
      refine am_iconst (pc := 466) G dL_law_466 (by decide) ?_
      refine am_iadd (pc := 467) G dL_law_467 ?_
      refine am_sld (pc := 468) G Z dL_law_468 h.1 ?_
      have h := h.2
      refine am_aloadA (i := 0) (pc := 469) G dL_law_469 rfl rfl ?_
      refine am_iload_n (i := 3) (pc := 470) G dL_law_470 rfl rfl ?_
      refine am_iconst (pc := 471) G dL_law_471 (by decide) ?_
      refine am_iadd (pc := 472) G dL_law_472 ?_
      refine am_sld (pc := 473) G Z dL_law_473 h.1 ?_
      have h := h.2
      refine am_callV (rk := 0) (rmc := rm_X9_led) (st := []) (pc := 474) G 9 [(0, _), (0, _), (0, _)] rfl (by decide) rfl dL_law_474 tw_m_RL_58 tw_i_X9_led tw_v_X9_led tw_z_RX9 tw_c_X9_led hy_X9_led (callrm hr rfl) rfl (RunsM.mono h (fun r41 M42 h => ?_)) Z.rm
      show AW X 477 _ [(0, _)] M42
      refine am_aload_n (i := 2) (t := 17) (pc := 477) G dL_law_477 rfl rfl rfl ?_
      refine am_aloadA (i := 0) (pc := 478) G dL_law_478 rfl rfl ?_
      refine am_iload_n (i := 3) (pc := 479) G dL_law_479 rfl rfl ?_
      refine am_iconst (pc := 480) G dL_law_480 (by decide) ?_
      refine am_iadd (pc := 481) G dL_law_481 ?_
      refine am_sld (pc := 482) G Z dL_law_482 h.1 ?_
      have h := h.2
      refine am_aloadA (i := 0) (pc := 483) G dL_law_483 rfl rfl ?_
      refine am_iload_n (i := 3) (pc := 484) G dL_law_484 rfl rfl ?_
      refine am_iconst (pc := 485) G dL_law_485 (by decide) ?_
      refine am_iadd (pc := 486) G dL_law_486 ?_
      refine am_sld (pc := 487) G Z dL_law_487 h.1 ?_
      have h := h.2
      refine am_aloadA (i := 0) (pc := 488) G dL_law_488 rfl rfl ?_
      refine am_iload_n (i := 3) (pc := 489) G dL_law_489 rfl rfl ?_
      refine am_iconst (pc := 490) G dL_law_490 (by decide) ?_
      refine am_iadd (pc := 491) G dL_law_491 ?_
      refine am_sld (pc := 492) G Z dL_law_492 h.1 ?_
      have h := h.2
      refine am_callV (rk := 0) (rmc := rm_X10_led) (st := [(0, _)]) (pc := 493) G 10 [(0, _), (0, _), (0, _)] rfl (by decide) rfl dL_law_493 tw_m_RL_61 tw_i_X10_led tw_v_X10_led tw_z_RX10 tw_c_X10_led hy_X10_led (callrm hr rfl) rfl (RunsM.mono h (fun r43 M44 h => ?_)) Z.rm
      show AW X 496 _ [(0, _), (0, _)] M44
      refine am_icmp_eq (pc := 496) G 1009 dL_law_496 (by decide) (fun c => ?_) (fun c => ?_)
      · have h := h.1 c
        refine am_iinc (pc := 1009) G dL_law_1009 rfl (nlx hn rfl) rfl ?_
        refine am_goto (pc := 1012) (ls := [(2, _), (19, _), (20, _), (0, _)]) G 18 dL_law_1012 (by decide) ?_
        refine am_le (ls' := [(2, _), (19, _), (20, _), (0, _)]) ⟨Or.inr rfl, ⟨Or.inr rfl, ⟨Or.inr rfl, ⟨Or.inr rfl, trivial⟩⟩⟩⟩ ?_
        exact k18 _ _ h
      · have h := h.2 c
        refine am_iconst (pc := 499) G dL_law_499 (by decide) ?_
        exact absurd h id
    · have h := h.2.2.2.2.2.2.2.2.2.2.2.2.1 c
      refine am_tableIn (off := 468) (pc := 33) G 501 dL_law_33 (by rw [c]; decide) (by rw [c]; rfl) (by decide) ?_
      refine am_aload_n (i := 1) (t := 16) (pc := 501) G dL_law_501 rfl rfl rfl ?_
      refine am_aloadA (i := 0) (pc := 502) G dL_law_502 rfl rfl ?_
      refine am_iload_n (i := 3) (pc := 503) G dL_law_503 rfl rfl ?_
      refine am_iconst (pc := 504) G dL_law_504 (by decide) ?_
      refine am_iadd (pc := 505) G dL_law_505 ?_
      refine am_sld (pc := 506) G Z dL_law_506 h.1 ?_
      have h := h.2
      refine am_aloadA (i := 0) (pc := 507) G dL_law_507 rfl rfl ?_
      refine am_iload_n (i := 3) (pc := 508) G dL_law_508 rfl rfl ?_
      refine am_iconst (pc := 509) G dL_law_509 (by decide) ?_
      refine am_iadd (pc := 510) G dL_law_510 ?_
      refine am_sld (pc := 511) G Z dL_law_511 h.1 ?_
      have h := h.2
      refine am_aloadA (i := 0) (pc := 512) G dL_law_512 rfl rfl ?_
      refine am_iload_n (i := 3) (pc := 513) G dL_law_513 rfl rfl ?_
      refine am_iconst (pc := 514) G dL_law_514 (by decide) ?_
      refine am_iadd (pc := 515) G dL_law_515 ?_
      refine am_sld (pc := 516) G Z dL_law_516 h.1 ?_
      have h := h.2
      refine am_callV (rk := 0) (rmc := rm_X9_edits) (st := []) (pc := 517) G 9 [(0, _), (0, _), (0, _)] rfl (by decide) rfl dL_law_517 tw_m_RL_62 tw_i_X9_edits tw_v_X9_edits tw_z_RX9 tw_c_X9_edits hy_X9_edits (callrm hr rfl) rfl (RunsM.mono h (fun r45 M46 h => ?_)) Z.rm
      show AW X 520 _ [(0, _)] M46
      refine am_aload_n (i := 2) (t := 17) (pc := 520) G dL_law_520 rfl rfl rfl ?_
      refine am_aloadA (i := 0) (pc := 521) G dL_law_521 rfl rfl ?_
      refine am_iload_n (i := 3) (pc := 522) G dL_law_522 rfl rfl ?_
      refine am_iconst (pc := 523) G dL_law_523 (by decide) ?_
      refine am_iadd (pc := 524) G dL_law_524 ?_
      refine am_sld (pc := 525) G Z dL_law_525 h.1 ?_
      have h := h.2
      refine am_aloadA (i := 0) (pc := 526) G dL_law_526 rfl rfl ?_
      refine am_iload_n (i := 3) (pc := 527) G dL_law_527 rfl rfl ?_
      refine am_iconst (pc := 528) G dL_law_528 (by decide) ?_
      refine am_iadd (pc := 529) G dL_law_529 ?_
      refine am_sld (pc := 530) G Z dL_law_530 h.1 ?_
      have h := h.2
      refine am_aloadA (i := 0) (pc := 531) G dL_law_531 rfl rfl ?_
      refine am_iload_n (i := 3) (pc := 532) G dL_law_532 rfl rfl ?_
      refine am_iconst (pc := 533) G dL_law_533 (by decide) ?_
      refine am_iadd (pc := 534) G dL_law_534 ?_
      refine am_sld (pc := 535) G Z dL_law_535 h.1 ?_
      have h := h.2
      refine am_callV (rk := 0) (rmc := rm_X10_edits) (st := [(0, _)]) (pc := 536) G 10 [(0, _), (0, _), (0, _)] rfl (by decide) rfl dL_law_536 tw_m_RL_65 tw_i_X10_edits tw_v_X10_edits tw_z_RX10 tw_c_X10_edits hy_X10_edits (callrm hr rfl) rfl (RunsM.mono h (fun r47 M48 h => ?_)) Z.rm
      show AW X 539 _ [(0, _), (0, _)] M48
      refine am_icmp_eq (pc := 539) G 1009 dL_law_539 (by decide) (fun c => ?_) (fun c => ?_)
      · have h := h.1 c
        refine am_iinc (pc := 1009) G dL_law_1009 rfl (nlx hn rfl) rfl ?_
        refine am_goto (pc := 1012) (ls := [(2, _), (19, _), (20, _), (0, _)]) G 18 dL_law_1012 (by decide) ?_
        refine am_le (ls' := [(2, _), (19, _), (20, _), (0, _)]) ⟨Or.inr rfl, ⟨Or.inr rfl, ⟨Or.inr rfl, ⟨Or.inr rfl, trivial⟩⟩⟩⟩ ?_
        exact k18 _ _ h
      · have h := h.2 c
        refine am_iconst (pc := 542) G dL_law_542 (by decide) ?_
        exact absurd h id
    · have h := h.2.2.2.2.2.2.2.2.2.2.2.2.2.1 c
      refine am_tableIn (off := 511) (pc := 33) G 544 dL_law_33 (by rw [c]; decide) (by rw [c]; rfl) (by decide) ?_
      refine am_aload_n (i := 1) (t := 16) (pc := 544) G dL_law_544 rfl rfl rfl ?_
      refine am_aloadA (i := 0) (pc := 545) G dL_law_545 rfl rfl ?_
      refine am_iload_n (i := 3) (pc := 546) G dL_law_546 rfl rfl ?_
      refine am_iconst (pc := 547) G dL_law_547 (by decide) ?_
      refine am_iadd (pc := 548) G dL_law_548 ?_
      refine am_sld (pc := 549) G Z dL_law_549 h.1 ?_
      have h := h.2
      refine am_aloadA (i := 0) (pc := 550) G dL_law_550 rfl rfl ?_
      refine am_iload_n (i := 3) (pc := 551) G dL_law_551 rfl rfl ?_
      refine am_iconst (pc := 552) G dL_law_552 (by decide) ?_
      refine am_iadd (pc := 553) G dL_law_553 ?_
      refine am_sld (pc := 554) G Z dL_law_554 h.1 ?_
      have h := h.2
      refine am_aloadA (i := 0) (pc := 555) G dL_law_555 rfl rfl ?_
      refine am_iload_n (i := 3) (pc := 556) G dL_law_556 rfl rfl ?_
      refine am_iconst (pc := 557) G dL_law_557 (by decide) ?_
      refine am_iadd (pc := 558) G dL_law_558 ?_
      refine am_sld (pc := 559) G Z dL_law_559 h.1 ?_
      have h := h.2
      refine am_callV (rk := 0) (rmc := rm_X9_moved) (st := []) (pc := 560) G 9 [(0, _), (0, _), (0, _)] rfl (by decide) rfl dL_law_560 tw_m_RL_66 tw_i_X9_moved tw_v_X9_moved tw_z_RX9 tw_c_X9_moved hy_X9_moved (callrm hr rfl) rfl (RunsM.mono h (fun r49 M50 h => ?_)) Z.rm
      show AW X 563 _ [(0, _)] M50
      refine am_aload_n (i := 2) (t := 17) (pc := 563) G dL_law_563 rfl rfl rfl ?_
      refine am_aloadA (i := 0) (pc := 564) G dL_law_564 rfl rfl ?_
      refine am_iload_n (i := 3) (pc := 565) G dL_law_565 rfl rfl ?_
      refine am_iconst (pc := 566) G dL_law_566 (by decide) ?_
      refine am_iadd (pc := 567) G dL_law_567 ?_
      refine am_sld (pc := 568) G Z dL_law_568 h.1 ?_
      have h := h.2
      refine am_aloadA (i := 0) (pc := 569) G dL_law_569 rfl rfl ?_
      refine am_iload_n (i := 3) (pc := 570) G dL_law_570 rfl rfl ?_
      refine am_iconst (pc := 571) G dL_law_571 (by decide) ?_
      refine am_iadd (pc := 572) G dL_law_572 ?_
      refine am_sld (pc := 573) G Z dL_law_573 h.1 ?_
      have h := h.2
      refine am_aloadA (i := 0) (pc := 574) G dL_law_574 rfl rfl ?_
      refine am_iload_n (i := 3) (pc := 575) G dL_law_575 rfl rfl ?_
      refine am_iconst (pc := 576) G dL_law_576 (by decide) ?_
      refine am_iadd (pc := 577) G dL_law_577 ?_
      refine am_sld (pc := 578) G Z dL_law_578 h.1 ?_
      have h := h.2
      refine am_callV (rk := 0) (rmc := rm_X10_moved) (st := [(0, _)]) (pc := 579) G 10 [(0, _), (0, _), (0, _)] rfl (by decide) rfl dL_law_579 tw_m_RL_69 tw_i_X10_moved tw_v_X10_moved tw_z_RX10 tw_c_X10_moved hy_X10_moved (callrm hr rfl) rfl (RunsM.mono h (fun r51 M52 h => ?_)) Z.rm
      show AW X 582 _ [(0, _), (0, _)] M52
      refine am_icmp_eq (pc := 582) G 1009 dL_law_582 (by decide) (fun c => ?_) (fun c => ?_)
      · have h := h.1 c
        refine am_iinc (pc := 1009) G dL_law_1009 rfl (nlx hn rfl) rfl ?_
        refine am_goto (pc := 1012) (ls := [(2, _), (19, _), (20, _), (0, _)]) G 18 dL_law_1012 (by decide) ?_
        refine am_le (ls' := [(2, _), (19, _), (20, _), (0, _)]) ⟨Or.inr rfl, ⟨Or.inr rfl, ⟨Or.inr rfl, ⟨Or.inr rfl, trivial⟩⟩⟩⟩ ?_
        exact k18 _ _ h
      · have h := h.2 c
        refine am_iconst (pc := 585) G dL_law_585 (by decide) ?_
        exact absurd h id
    · have h := h.2.2.2.2.2.2.2.2.2.2.2.2.2.2.1 c
      refine am_tableIn (off := 554) (pc := 33) G 587 dL_law_33 (by rw [c]; decide) (by rw [c]; rfl) (by decide) ?_
      refine am_aload_n (i := 1) (t := 16) (pc := 587) G dL_law_587 rfl rfl rfl ?_
      refine am_aloadA (i := 0) (pc := 588) G dL_law_588 rfl rfl ?_
      refine am_iload_n (i := 3) (pc := 589) G dL_law_589 rfl rfl ?_
      refine am_iconst (pc := 590) G dL_law_590 (by decide) ?_
      refine am_iadd (pc := 591) G dL_law_591 ?_
      refine am_sld (pc := 592) G Z dL_law_592 h.1 ?_
      have h := h.2
      refine am_aloadA (i := 0) (pc := 593) G dL_law_593 rfl rfl ?_
      refine am_iload_n (i := 3) (pc := 594) G dL_law_594 rfl rfl ?_
      refine am_iconst (pc := 595) G dL_law_595 (by decide) ?_
      refine am_iadd (pc := 596) G dL_law_596 ?_
      refine am_sld (pc := 597) G Z dL_law_597 h.1 ?_
      have h := h.2
      refine am_aloadA (i := 0) (pc := 598) G dL_law_598 rfl rfl ?_
      refine am_iload_n (i := 3) (pc := 599) G dL_law_599 rfl rfl ?_
      refine am_iconst (pc := 600) G dL_law_600 (by decide) ?_
      refine am_iadd (pc := 601) G dL_law_601 ?_
      refine am_sld (pc := 602) G Z dL_law_602 h.1 ?_
      have h := h.2
      refine am_aloadA (i := 0) (pc := 603) G dL_law_603 rfl rfl ?_
      refine am_iload_n (i := 3) (pc := 604) G dL_law_604 rfl rfl ?_
      refine am_iconst (pc := 605) G dL_law_605 (by decide) ?_
      refine am_iadd (pc := 606) G dL_law_606 ?_
      refine am_sld (pc := 607) G Z dL_law_607 h.1 ?_
      have h := h.2
      refine am_aloadA (i := 0) (pc := 608) G dL_law_608 rfl rfl ?_
      refine am_iload_n (i := 3) (pc := 609) G dL_law_609 rfl rfl ?_
      refine am_iconst (pc := 610) G dL_law_610 (by decide) ?_
      refine am_iadd (pc := 611) G dL_law_611 ?_
      refine am_sld (pc := 612) G Z dL_law_612 h.1 ?_
      have h := h.2
      refine am_callV (rk := 0) (rmc := rm_X9_common) (st := []) (pc := 613) G 9 [(0, _), (0, _), (0, _), (0, _), (0, _)] rfl (by decide) rfl dL_law_613 tw_m_RL_70 tw_i_X9_common tw_v_X9_common tw_z_RX9 tw_c_X9_common hy_X9_common (callrm hr rfl) rfl (RunsM.mono h (fun r53 M54 h => ?_)) Z.rm
      show AW X 616 _ [(0, _)] M54
      refine am_aload_n (i := 2) (t := 17) (pc := 616) G dL_law_616 rfl rfl rfl ?_
      refine am_aloadA (i := 0) (pc := 617) G dL_law_617 rfl rfl ?_
      refine am_iload_n (i := 3) (pc := 618) G dL_law_618 rfl rfl ?_
      refine am_iconst (pc := 619) G dL_law_619 (by decide) ?_
      refine am_iadd (pc := 620) G dL_law_620 ?_
      refine am_sld (pc := 621) G Z dL_law_621 h.1 ?_
      have h := h.2
      refine am_aloadA (i := 0) (pc := 622) G dL_law_622 rfl rfl ?_
      refine am_iload_n (i := 3) (pc := 623) G dL_law_623 rfl rfl ?_
      refine am_iconst (pc := 624) G dL_law_624 (by decide) ?_
      refine am_iadd (pc := 625) G dL_law_625 ?_
      refine am_sld (pc := 626) G Z dL_law_626 h.1 ?_
      have h := h.2
      refine am_aloadA (i := 0) (pc := 627) G dL_law_627 rfl rfl ?_
      refine am_iload_n (i := 3) (pc := 628) G dL_law_628 rfl rfl ?_
      refine am_iconst (pc := 629) G dL_law_629 (by decide) ?_
      refine am_iadd (pc := 630) G dL_law_630 ?_
      refine am_sld (pc := 631) G Z dL_law_631 h.1 ?_
      have h := h.2
      refine am_aloadA (i := 0) (pc := 632) G dL_law_632 rfl rfl ?_
      refine am_iload_n (i := 3) (pc := 633) G dL_law_633 rfl rfl ?_
      refine am_iconst (pc := 634) G dL_law_634 (by decide) ?_
      refine am_iadd (pc := 635) G dL_law_635 ?_
      refine am_sld (pc := 636) G Z dL_law_636 h.1 ?_
      have h := h.2
      refine am_aloadA (i := 0) (pc := 637) G dL_law_637 rfl rfl ?_
      refine am_iload_n (i := 3) (pc := 638) G dL_law_638 rfl rfl ?_
      refine am_iconst (pc := 639) G dL_law_639 (by decide) ?_
      refine am_iadd (pc := 640) G dL_law_640 ?_
      refine am_sld (pc := 641) G Z dL_law_641 h.1 ?_
      have h := h.2
      refine am_callV (rk := 0) (rmc := rm_X10_common) (st := [(0, _)]) (pc := 642) G 10 [(0, _), (0, _), (0, _), (0, _), (0, _)] rfl (by decide) rfl dL_law_642 tw_m_RL_74 tw_i_X10_common tw_v_X10_common tw_z_RX10 tw_c_X10_common hy_X10_common (callrm hr rfl) rfl (RunsM.mono h (fun r55 M56 h => ?_)) Z.rm
      show AW X 645 _ [(0, _), (0, _)] M56
      refine am_icmp_eq (pc := 645) G 1009 dL_law_645 (by decide) (fun c => ?_) (fun c => ?_)
      · have h := h.1 c
        refine am_iinc (pc := 1009) G dL_law_1009 rfl (nlx hn rfl) rfl ?_
        refine am_goto (pc := 1012) (ls := [(2, _), (19, _), (20, _), (0, _)]) G 18 dL_law_1012 (by decide) ?_
        refine am_le (ls' := [(2, _), (19, _), (20, _), (0, _)]) ⟨Or.inr rfl, ⟨Or.inr rfl, ⟨Or.inr rfl, ⟨Or.inr rfl, trivial⟩⟩⟩⟩ ?_
        exact k18 _ _ h
      · have h := h.2 c
        refine am_iconst (pc := 648) G dL_law_648 (by decide) ?_
        exact absurd h id
    · have h := h.2.2.2.2.2.2.2.2.2.2.2.2.2.2.2.1 c
      refine am_tableIn (off := 617) (pc := 33) G 650 dL_law_33 (by rw [c]; decide) (by rw [c]; rfl) (by decide) ?_
      refine am_aload_n (i := 1) (t := 16) (pc := 650) G dL_law_650 rfl rfl rfl ?_
      refine am_aloadA (i := 0) (pc := 651) G dL_law_651 rfl rfl ?_
      refine am_iload_n (i := 3) (pc := 652) G dL_law_652 rfl rfl ?_
      refine am_iconst (pc := 653) G dL_law_653 (by decide) ?_
      refine am_iadd (pc := 654) G dL_law_654 ?_
      refine am_sld (pc := 655) G Z dL_law_655 h.1 ?_
      have h := h.2
      refine am_aloadA (i := 0) (pc := 656) G dL_law_656 rfl rfl ?_
      refine am_iload_n (i := 3) (pc := 657) G dL_law_657 rfl rfl ?_
      refine am_iconst (pc := 658) G dL_law_658 (by decide) ?_
      refine am_iadd (pc := 659) G dL_law_659 ?_
      refine am_sld (pc := 660) G Z dL_law_660 h.1 ?_
      have h := h.2
      refine am_callV (rk := 0) (rmc := rm_X9_twice) (st := []) (pc := 661) G 9 [(0, _), (0, _)] rfl (by decide) rfl dL_law_661 tw_m_RL_75 tw_i_X9_twice tw_v_X9_twice tw_z_RX9 tw_c_X9_twice hy_X9_twice (callrm hr rfl) rfl (RunsM.mono h (fun r57 M58 h => ?_)) Z.rm
      show AW X 664 _ [(0, _)] M58
      refine am_aload_n (i := 2) (t := 17) (pc := 664) G dL_law_664 rfl rfl rfl ?_
      refine am_aloadA (i := 0) (pc := 665) G dL_law_665 rfl rfl ?_
      refine am_iload_n (i := 3) (pc := 666) G dL_law_666 rfl rfl ?_
      refine am_iconst (pc := 667) G dL_law_667 (by decide) ?_
      refine am_iadd (pc := 668) G dL_law_668 ?_
      refine am_sld (pc := 669) G Z dL_law_669 h.1 ?_
      have h := h.2
      refine am_aloadA (i := 0) (pc := 670) G dL_law_670 rfl rfl ?_
      refine am_iload_n (i := 3) (pc := 671) G dL_law_671 rfl rfl ?_
      refine am_iconst (pc := 672) G dL_law_672 (by decide) ?_
      refine am_iadd (pc := 673) G dL_law_673 ?_
      refine am_sld (pc := 674) G Z dL_law_674 h.1 ?_
      have h := h.2
      refine am_callV (rk := 0) (rmc := rm_X10_twice) (st := [(0, _)]) (pc := 675) G 10 [(0, _), (0, _)] rfl (by decide) rfl dL_law_675 tw_m_RL_78 tw_i_X10_twice tw_v_X10_twice tw_z_RX10 tw_c_X10_twice hy_X10_twice (callrm hr rfl) rfl (RunsM.mono h (fun r59 M60 h => ?_)) Z.rm
      show AW X 678 _ [(0, _), (0, _)] M60
      refine am_icmp_eq (pc := 678) G 1009 dL_law_678 (by decide) (fun c => ?_) (fun c => ?_)
      · have h := h.1 c
        refine am_iinc (pc := 1009) G dL_law_1009 rfl (nlx hn rfl) rfl ?_
        refine am_goto (pc := 1012) (ls := [(2, _), (19, _), (20, _), (0, _)]) G 18 dL_law_1012 (by decide) ?_
        refine am_le (ls' := [(2, _), (19, _), (20, _), (0, _)]) ⟨Or.inr rfl, ⟨Or.inr rfl, ⟨Or.inr rfl, ⟨Or.inr rfl, trivial⟩⟩⟩⟩ ?_
        exact k18 _ _ h
      · have h := h.2 c
        refine am_iconst (pc := 681) G dL_law_681 (by decide) ?_
        exact absurd h id
    · have h := h.2.2.2.2.2.2.2.2.2.2.2.2.2.2.2.2.1 c
      refine am_tableIn (off := 650) (pc := 33) G 683 dL_law_33 (by rw [c]; decide) (by rw [c]; rfl) (by decide) ?_
      refine am_aload_n (i := 1) (t := 16) (pc := 683) G dL_law_683 rfl rfl rfl ?_
      refine am_aloadA (i := 0) (pc := 684) G dL_law_684 rfl rfl ?_
      refine am_iload_n (i := 3) (pc := 685) G dL_law_685 rfl rfl ?_
      refine am_iconst (pc := 686) G dL_law_686 (by decide) ?_
      refine am_iadd (pc := 687) G dL_law_687 ?_
      refine am_sld (pc := 688) G Z dL_law_688 h.1 ?_
      have h := h.2
      refine am_aloadA (i := 0) (pc := 689) G dL_law_689 rfl rfl ?_
      refine am_iload_n (i := 3) (pc := 690) G dL_law_690 rfl rfl ?_
      refine am_iconst (pc := 691) G dL_law_691 (by decide) ?_
      refine am_iadd (pc := 692) G dL_law_692 ?_
      refine am_sld (pc := 693) G Z dL_law_693 h.1 ?_
      have h := h.2
      refine am_callV (rk := 0) (rmc := rm_X9_rule) (st := []) (pc := 694) G 9 [(0, _), (0, _)] rfl (by decide) rfl dL_law_694 tw_m_RL_79 tw_i_X9_rule tw_v_X9_rule tw_z_RX9 tw_c_X9_rule hy_X9_rule (callrm hr rfl) rfl (RunsM.mono h (fun r61 M62 h => ?_)) Z.rm
      show AW X 697 _ [(0, _)] M62
      refine am_aload_n (i := 2) (t := 17) (pc := 697) G dL_law_697 rfl rfl rfl ?_
      refine am_aloadA (i := 0) (pc := 698) G dL_law_698 rfl rfl ?_
      refine am_iload_n (i := 3) (pc := 699) G dL_law_699 rfl rfl ?_
      refine am_iconst (pc := 700) G dL_law_700 (by decide) ?_
      refine am_iadd (pc := 701) G dL_law_701 ?_
      refine am_sld (pc := 702) G Z dL_law_702 h.1 ?_
      have h := h.2
      refine am_aloadA (i := 0) (pc := 703) G dL_law_703 rfl rfl ?_
      refine am_iload_n (i := 3) (pc := 704) G dL_law_704 rfl rfl ?_
      refine am_iconst (pc := 705) G dL_law_705 (by decide) ?_
      refine am_iadd (pc := 706) G dL_law_706 ?_
      refine am_sld (pc := 707) G Z dL_law_707 h.1 ?_
      have h := h.2
      refine am_callV (rk := 0) (rmc := rm_X10_rule) (st := [(0, _)]) (pc := 708) G 10 [(0, _), (0, _)] rfl (by decide) rfl dL_law_708 tw_m_RL_82 tw_i_X10_rule tw_v_X10_rule tw_z_RX10 tw_c_X10_rule hy_X10_rule (callrm hr rfl) rfl (RunsM.mono h (fun r63 M64 h => ?_)) Z.rm
      show AW X 711 _ [(0, _), (0, _)] M64
      refine am_icmp_eq (pc := 711) G 1009 dL_law_711 (by decide) (fun c => ?_) (fun c => ?_)
      · have h := h.1 c
        refine am_iinc (pc := 1009) G dL_law_1009 rfl (nlx hn rfl) rfl ?_
        refine am_goto (pc := 1012) (ls := [(2, _), (19, _), (20, _), (0, _)]) G 18 dL_law_1012 (by decide) ?_
        refine am_le (ls' := [(2, _), (19, _), (20, _), (0, _)]) ⟨Or.inr rfl, ⟨Or.inr rfl, ⟨Or.inr rfl, ⟨Or.inr rfl, trivial⟩⟩⟩⟩ ?_
        exact k18 _ _ h
      · have h := h.2 c
        refine am_iconst (pc := 714) G dL_law_714 (by decide) ?_
        exact absurd h id
    · have h := h.2.2.2.2.2.2.2.2.2.2.2.2.2.2.2.2.2.1 c
      refine am_tableIn (off := 683) (pc := 33) G 716 dL_law_33 (by rw [c]; decide) (by rw [c]; rfl) (by decide) ?_
      refine am_aload_n (i := 1) (t := 16) (pc := 716) G dL_law_716 rfl rfl rfl ?_
      refine am_callV (rk := 0) (rmc := rm_X9_clear) (st := []) (pc := 717) G 9 [] rfl (by decide) rfl dL_law_717 tw_m_RL_83 tw_i_X9_clear tw_v_X9_clear tw_z_RX9 tw_c_X9_clear hy_X9_clear (callrm hr rfl) rfl (RunsM.mono h (fun r65 M66 h => ?_)) Z.rm
      show AW X 720 _ [(0, _)] M66
      refine am_aload_n (i := 2) (t := 17) (pc := 720) G dL_law_720 rfl rfl rfl ?_
      refine am_callV (rk := 0) (rmc := rm_X10_clear) (st := [(0, _)]) (pc := 721) G 10 [] rfl (by decide) rfl dL_law_721 tw_m_RL_86 tw_i_X10_clear tw_v_X10_clear tw_z_RX10 tw_c_X10_clear hy_X10_clear (callrm hr rfl) rfl (RunsM.mono h (fun r67 M68 h => ?_)) Z.rm
      show AW X 724 _ [(0, _), (0, _)] M68
      refine am_icmp_eq (pc := 724) G 1009 dL_law_724 (by decide) (fun c => ?_) (fun c => ?_)
      · have h := h.1 c
        refine am_iinc (pc := 1009) G dL_law_1009 rfl (nlx hn rfl) rfl ?_
        refine am_goto (pc := 1012) (ls := [(2, _), (19, _), (20, _), (0, _)]) G 18 dL_law_1012 (by decide) ?_
        refine am_le (ls' := [(2, _), (19, _), (20, _), (0, _)]) ⟨Or.inr rfl, ⟨Or.inr rfl, ⟨Or.inr rfl, ⟨Or.inr rfl, trivial⟩⟩⟩⟩ ?_
        exact k18 _ _ h
      · have h := h.2 c
        refine am_iconst (pc := 727) G dL_law_727 (by decide) ?_
        exact absurd h id
    · have h := h.2.2.2.2.2.2.2.2.2.2.2.2.2.2.2.2.2.2.1 c
      refine am_tableIn (off := 696) (pc := 33) G 729 dL_law_33 (by rw [c]; decide) (by rw [c]; rfl) (by decide) ?_
      refine am_aload_n (i := 1) (t := 16) (pc := 729) G dL_law_729 rfl rfl rfl ?_
      refine am_aloadA (i := 0) (pc := 730) G dL_law_730 rfl rfl ?_
      refine am_iload_n (i := 3) (pc := 731) G dL_law_731 rfl rfl ?_
      refine am_iconst (pc := 732) G dL_law_732 (by decide) ?_
      refine am_iadd (pc := 733) G dL_law_733 ?_
      refine am_sld (pc := 734) G Z dL_law_734 h.1 ?_
      have h := h.2
      refine am_aloadA (i := 0) (pc := 735) G dL_law_735 rfl rfl ?_
      refine am_iload_n (i := 3) (pc := 736) G dL_law_736 rfl rfl ?_
      refine am_iconst (pc := 737) G dL_law_737 (by decide) ?_
      refine am_iadd (pc := 738) G dL_law_738 ?_
      refine am_sld (pc := 739) G Z dL_law_739 h.1 ?_
      have h := h.2
      refine am_callV (rk := 0) (rmc := rm_X9_fits) (st := []) (pc := 740) G 9 [(0, _), (0, _)] rfl (by decide) rfl dL_law_740 tw_m_RL_87 tw_i_X9_fits tw_v_X9_fits tw_z_RX9 tw_c_X9_fits hy_X9_fits (callrm hr rfl) rfl (RunsM.mono h (fun r69 M70 h => ?_)) Z.rm
      show AW X 743 _ [(0, _)] M70
      refine am_aload_n (i := 2) (t := 17) (pc := 743) G dL_law_743 rfl rfl rfl ?_
      refine am_aloadA (i := 0) (pc := 744) G dL_law_744 rfl rfl ?_
      refine am_iload_n (i := 3) (pc := 745) G dL_law_745 rfl rfl ?_
      refine am_iconst (pc := 746) G dL_law_746 (by decide) ?_
      refine am_iadd (pc := 747) G dL_law_747 ?_
      refine am_sld (pc := 748) G Z dL_law_748 h.1 ?_
      have h := h.2
      refine am_aloadA (i := 0) (pc := 749) G dL_law_749 rfl rfl ?_
      refine am_iload_n (i := 3) (pc := 750) G dL_law_750 rfl rfl ?_
      refine am_iconst (pc := 751) G dL_law_751 (by decide) ?_
      refine am_iadd (pc := 752) G dL_law_752 ?_
      refine am_sld (pc := 753) G Z dL_law_753 h.1 ?_
      have h := h.2
      refine am_callV (rk := 0) (rmc := rm_X10_fits) (st := [(0, _)]) (pc := 754) G 10 [(0, _), (0, _)] rfl (by decide) rfl dL_law_754 tw_m_RL_90 tw_i_X10_fits tw_v_X10_fits tw_z_RX10 tw_c_X10_fits hy_X10_fits (callrm hr rfl) rfl (RunsM.mono h (fun r71 M72 h => ?_)) Z.rm
      show AW X 757 _ [(0, _), (0, _)] M72
      refine am_icmp_eq (pc := 757) G 1009 dL_law_757 (by decide) (fun c => ?_) (fun c => ?_)
      · have h := h.1 c
        refine am_iinc (pc := 1009) G dL_law_1009 rfl (nlx hn rfl) rfl ?_
        refine am_goto (pc := 1012) (ls := [(2, _), (19, _), (20, _), (0, _)]) G 18 dL_law_1012 (by decide) ?_
        refine am_le (ls' := [(2, _), (19, _), (20, _), (0, _)]) ⟨Or.inr rfl, ⟨Or.inr rfl, ⟨Or.inr rfl, ⟨Or.inr rfl, trivial⟩⟩⟩⟩ ?_
        exact k18 _ _ h
      · have h := h.2 c
        refine am_iconst (pc := 760) G dL_law_760 (by decide) ?_
        exact absurd h id
    · have h := h.2.2.2.2.2.2.2.2.2.2.2.2.2.2.2.2.2.2.2.1 c
      refine am_tableIn (off := 729) (pc := 33) G 762 dL_law_33 (by rw [c]; decide) (by rw [c]; rfl) (by decide) ?_
      refine am_aload_n (i := 1) (t := 16) (pc := 762) G dL_law_762 rfl rfl rfl ?_
      refine am_aloadA (i := 0) (pc := 763) G dL_law_763 rfl rfl ?_
      refine am_iload_n (i := 3) (pc := 764) G dL_law_764 rfl rfl ?_
      refine am_iconst (pc := 765) G dL_law_765 (by decide) ?_
      refine am_iadd (pc := 766) G dL_law_766 ?_
      refine am_sld (pc := 767) G Z dL_law_767 h.1 ?_
      have h := h.2
      refine am_aloadA (i := 0) (pc := 768) G dL_law_768 rfl rfl ?_
      refine am_iload_n (i := 3) (pc := 769) G dL_law_769 rfl rfl ?_
      refine am_iconst (pc := 770) G dL_law_770 (by decide) ?_
      refine am_iadd (pc := 771) G dL_law_771 ?_
      refine am_sld (pc := 772) G Z dL_law_772 h.1 ?_
      have h := h.2
      refine am_aloadA (i := 0) (pc := 773) G dL_law_773 rfl rfl ?_
      refine am_iload_n (i := 3) (pc := 774) G dL_law_774 rfl rfl ?_
      refine am_iconst (pc := 775) G dL_law_775 (by decide) ?_
      refine am_iadd (pc := 776) G dL_law_776 ?_
      refine am_sld (pc := 777) G Z dL_law_777 h.1 ?_
      have h := h.2
      refine am_callV (rk := 0) (rmc := rm_X9_make) (st := []) (pc := 778) G 9 [(0, _), (0, _), (0, _)] rfl (by decide) rfl dL_law_778 tw_m_RL_91 tw_i_X9_make tw_v_X9_make tw_z_RX9 tw_c_X9_make hy_X9_make (callrm hr rfl) rfl (RunsM.mono h (fun r73 M74 h => ?_)) Z.rm
      show AW X 781 _ [(0, _)] M74
      refine am_aload_n (i := 2) (t := 17) (pc := 781) G dL_law_781 rfl rfl rfl ?_
      refine am_aloadA (i := 0) (pc := 782) G dL_law_782 rfl rfl ?_
      refine am_iload_n (i := 3) (pc := 783) G dL_law_783 rfl rfl ?_
      refine am_iconst (pc := 784) G dL_law_784 (by decide) ?_
      refine am_iadd (pc := 785) G dL_law_785 ?_
      refine am_sld (pc := 786) G Z dL_law_786 h.1 ?_
      have h := h.2
      refine am_aloadA (i := 0) (pc := 787) G dL_law_787 rfl rfl ?_
      refine am_iload_n (i := 3) (pc := 788) G dL_law_788 rfl rfl ?_
      refine am_iconst (pc := 789) G dL_law_789 (by decide) ?_
      refine am_iadd (pc := 790) G dL_law_790 ?_
      refine am_sld (pc := 791) G Z dL_law_791 h.1 ?_
      have h := h.2
      refine am_aloadA (i := 0) (pc := 792) G dL_law_792 rfl rfl ?_
      refine am_iload_n (i := 3) (pc := 793) G dL_law_793 rfl rfl ?_
      refine am_iconst (pc := 794) G dL_law_794 (by decide) ?_
      refine am_iadd (pc := 795) G dL_law_795 ?_
      refine am_sld (pc := 796) G Z dL_law_796 h.1 ?_
      have h := h.2
      refine am_callV (rk := 0) (rmc := rm_X10_make) (st := [(0, _)]) (pc := 797) G 10 [(0, _), (0, _), (0, _)] rfl (by decide) rfl dL_law_797 tw_m_RL_94 tw_i_X10_make tw_v_X10_make tw_z_RX10 tw_c_X10_make hy_X10_make (callrm hr rfl) rfl (RunsM.mono h (fun r75 M76 h => ?_)) Z.rm
      show AW X 800 _ [(0, _), (0, _)] M76
      refine am_icmp_eq (pc := 800) G 1009 dL_law_800 (by decide) (fun c => ?_) (fun c => ?_)
      · have h := h.1 c
        refine am_iinc (pc := 1009) G dL_law_1009 rfl (nlx hn rfl) rfl ?_
        refine am_goto (pc := 1012) (ls := [(2, _), (19, _), (20, _), (0, _)]) G 18 dL_law_1012 (by decide) ?_
        refine am_le (ls' := [(2, _), (19, _), (20, _), (0, _)]) ⟨Or.inr rfl, ⟨Or.inr rfl, ⟨Or.inr rfl, ⟨Or.inr rfl, trivial⟩⟩⟩⟩ ?_
        exact k18 _ _ h
      · have h := h.2 c
        refine am_iconst (pc := 803) G dL_law_803 (by decide) ?_
        exact absurd h id
    · have h := h.2.2.2.2.2.2.2.2.2.2.2.2.2.2.2.2.2.2.2.2.1 c
      refine am_tableIn (off := 772) (pc := 33) G 805 dL_law_33 (by rw [c]; decide) (by rw [c]; rfl) (by decide) ?_
      refine am_aload_n (i := 1) (t := 16) (pc := 805) G dL_law_805 rfl rfl rfl ?_
      refine am_aloadA (i := 0) (pc := 806) G dL_law_806 rfl rfl ?_
      refine am_iload_n (i := 3) (pc := 807) G dL_law_807 rfl rfl ?_
      refine am_iconst (pc := 808) G dL_law_808 (by decide) ?_
      refine am_iadd (pc := 809) G dL_law_809 ?_
      refine am_sld (pc := 810) G Z dL_law_810 h.1 ?_
      have h := h.2
      refine am_aloadA (i := 0) (pc := 811) G dL_law_811 rfl rfl ?_
      refine am_iload_n (i := 3) (pc := 812) G dL_law_812 rfl rfl ?_
      refine am_iconst (pc := 813) G dL_law_813 (by decide) ?_
      refine am_iadd (pc := 814) G dL_law_814 ?_
      refine am_sld (pc := 815) G Z dL_law_815 h.1 ?_
      have h := h.2
      refine am_if_eq (pc := 816) G 823 dL_law_816 (by decide) (fun c => ?_) (fun c => ?_)
      · have h := h.1 c
        refine am_iconst (pc := 823) G dL_law_823 (by decide) ?_
        refine am_le (ls' := [(2, _), (19, _), (20, _), (0, _)]) ⟨Or.inr rfl, ⟨Or.inr rfl, ⟨Or.inr rfl, ⟨Or.inr rfl, trivial⟩⟩⟩⟩ ?_
        exact swp_L_law_824 G Z hn hr _ _ _ _ B18 k18 h
      · have h := h.2 c
        refine am_iconst (pc := 819) G dL_law_819 (by decide) ?_
        refine am_goto (pc := 820) G 824 dL_law_820 (by decide) ?_
        refine am_le (ls' := [(2, _), (19, _), (20, _), (0, _)]) ⟨Or.inr rfl, ⟨Or.inr rfl, ⟨Or.inr rfl, ⟨Or.inr rfl, trivial⟩⟩⟩⟩ ?_
        exact swp_L_law_824 G Z hn hr _ _ _ _ B18 k18 h
    · have h := h.2.2.2.2.2.2.2.2.2.2.2.2.2.2.2.2.2.2.2.2.2.1 c
      refine am_tableIn (off := 821) (pc := 33) G 854 dL_law_33 (by rw [c]; decide) (by rw [c]; rfl) (by decide) ?_
      refine am_aload_n (i := 1) (t := 16) (pc := 854) G dL_law_854 rfl rfl rfl ?_
      refine am_callV (rk := 0) (rmc := rm_X9_steps) (st := []) (pc := 855) G 9 [] rfl (by decide) rfl dL_law_855 tw_m_RL_100 tw_i_X9_steps tw_v_X9_steps tw_z_RX9 tw_c_X9_steps hy_X9_steps (callrm hr rfl) rfl (RunsM.mono h (fun r81 M82 h => ?_)) Z.rm
      show AW X 858 _ [(0, _)] M82
      refine am_aload_n (i := 2) (t := 17) (pc := 858) G dL_law_858 rfl rfl rfl ?_
      refine am_callV (rk := 0) (rmc := rm_X10_steps) (st := [(0, _)]) (pc := 859) G 10 [] rfl (by decide) rfl dL_law_859 tw_m_RL_103 tw_i_X10_steps tw_v_X10_steps tw_z_RX10 tw_c_X10_steps hy_X10_steps (callrm hr rfl) rfl (RunsM.mono h (fun r83 M84 h => ?_)) Z.rm
      show AW X 862 _ [(0, _), (0, _)] M84
      refine am_icmp_eq (pc := 862) G 1009 dL_law_862 (by decide) (fun c => ?_) (fun c => ?_)
      · have h := h.1 c
        refine am_iinc (pc := 1009) G dL_law_1009 rfl (nlx hn rfl) rfl ?_
        refine am_goto (pc := 1012) (ls := [(2, _), (19, _), (20, _), (0, _)]) G 18 dL_law_1012 (by decide) ?_
        refine am_le (ls' := [(2, _), (19, _), (20, _), (0, _)]) ⟨Or.inr rfl, ⟨Or.inr rfl, ⟨Or.inr rfl, ⟨Or.inr rfl, trivial⟩⟩⟩⟩ ?_
        exact k18 _ _ h
      · have h := h.2 c
        refine am_iconst (pc := 865) G dL_law_865 (by decide) ?_
        exact absurd h id
    · have h := h.2.2.2.2.2.2.2.2.2.2.2.2.2.2.2.2.2.2.2.2.2.2.1 c
      refine am_tableIn (off := 834) (pc := 33) G 867 dL_law_33 (by rw [c]; decide) (by rw [c]; rfl) (by decide) ?_
      refine am_aload_n (i := 1) (t := 16) (pc := 867) G dL_law_867 rfl rfl rfl ?_
      refine am_aloadA (i := 0) (pc := 868) G dL_law_868 rfl rfl ?_
      refine am_iload_n (i := 3) (pc := 869) G dL_law_869 rfl rfl ?_
      refine am_iconst (pc := 870) G dL_law_870 (by decide) ?_
      refine am_iadd (pc := 871) G dL_law_871 ?_
      refine am_sld (pc := 872) G Z dL_law_872 h.1 ?_
      have h := h.2
      refine am_aloadA (i := 0) (pc := 873) G dL_law_873 rfl rfl ?_
      refine am_iload_n (i := 3) (pc := 874) G dL_law_874 rfl rfl ?_
      refine am_iconst (pc := 875) G dL_law_875 (by decide) ?_
      refine am_iadd (pc := 876) G dL_law_876 ?_
      refine am_sld (pc := 877) G Z dL_law_877 h.1 ?_
      have h := h.2
      refine am_aloadA (i := 0) (pc := 878) G dL_law_878 rfl rfl ?_
      refine am_iload_n (i := 3) (pc := 879) G dL_law_879 rfl rfl ?_
      refine am_iconst (pc := 880) G dL_law_880 (by decide) ?_
      refine am_iadd (pc := 881) G dL_law_881 ?_
      refine am_sld (pc := 882) G Z dL_law_882 h.1 ?_
      have h := h.2
      refine am_callV (rk := 0) (rmc := rm_X9_overlap) (st := []) (pc := 883) G 9 [(0, _), (0, _), (0, _)] rfl (by decide) rfl dL_law_883 tw_m_RL_104 tw_i_X9_overlap tw_v_X9_overlap tw_z_RX9 tw_c_X9_overlap hy_X9_overlap (callrm hr rfl) rfl (RunsM.mono h (fun r85 M86 h => ?_)) Z.rm
      show AW X 886 _ [(0, _)] M86
      refine am_aload_n (i := 2) (t := 17) (pc := 886) G dL_law_886 rfl rfl rfl ?_
      refine am_aloadA (i := 0) (pc := 887) G dL_law_887 rfl rfl ?_
      refine am_iload_n (i := 3) (pc := 888) G dL_law_888 rfl rfl ?_
      refine am_iconst (pc := 889) G dL_law_889 (by decide) ?_
      refine am_iadd (pc := 890) G dL_law_890 ?_
      refine am_sld (pc := 891) G Z dL_law_891 h.1 ?_
      have h := h.2
      refine am_aloadA (i := 0) (pc := 892) G dL_law_892 rfl rfl ?_
      refine am_iload_n (i := 3) (pc := 893) G dL_law_893 rfl rfl ?_
      refine am_iconst (pc := 894) G dL_law_894 (by decide) ?_
      refine am_iadd (pc := 895) G dL_law_895 ?_
      refine am_sld (pc := 896) G Z dL_law_896 h.1 ?_
      have h := h.2
      refine am_aloadA (i := 0) (pc := 897) G dL_law_897 rfl rfl ?_
      refine am_iload_n (i := 3) (pc := 898) G dL_law_898 rfl rfl ?_
      refine am_iconst (pc := 899) G dL_law_899 (by decide) ?_
      refine am_iadd (pc := 900) G dL_law_900 ?_
      refine am_sld (pc := 901) G Z dL_law_901 h.1 ?_
      have h := h.2
      refine am_callV (rk := 0) (rmc := rm_X10_overlap) (st := [(0, _)]) (pc := 902) G 10 [(0, _), (0, _), (0, _)] rfl (by decide) rfl dL_law_902 tw_m_RL_107 tw_i_X10_overlap tw_v_X10_overlap tw_z_RX10 tw_c_X10_overlap hy_X10_overlap (callrm hr rfl) rfl (RunsM.mono h (fun r87 M88 h => ?_)) Z.rm
      show AW X 905 _ [(0, _), (0, _)] M88
      refine am_icmp_eq (pc := 905) G 1009 dL_law_905 (by decide) (fun c => ?_) (fun c => ?_)
      · have h := h.1 c
        refine am_iinc (pc := 1009) G dL_law_1009 rfl (nlx hn rfl) rfl ?_
        refine am_goto (pc := 1012) (ls := [(2, _), (19, _), (20, _), (0, _)]) G 18 dL_law_1012 (by decide) ?_
        refine am_le (ls' := [(2, _), (19, _), (20, _), (0, _)]) ⟨Or.inr rfl, ⟨Or.inr rfl, ⟨Or.inr rfl, ⟨Or.inr rfl, trivial⟩⟩⟩⟩ ?_
        exact k18 _ _ h
      · have h := h.2 c
        refine am_iconst (pc := 908) G dL_law_908 (by decide) ?_
        exact absurd h id
    · have h := h.2.2.2.2.2.2.2.2.2.2.2.2.2.2.2.2.2.2.2.2.2.2.2.1 c
      refine am_tableIn (off := 877) (pc := 33) G 910 dL_law_33 (by rw [c]; decide) (by rw [c]; rfl) (by decide) ?_
      refine am_aload_n (i := 1) (t := 16) (pc := 910) G dL_law_910 rfl rfl rfl ?_
      refine am_aloadA (i := 0) (pc := 911) G dL_law_911 rfl rfl ?_
      refine am_iload_n (i := 3) (pc := 912) G dL_law_912 rfl rfl ?_
      refine am_iconst (pc := 913) G dL_law_913 (by decide) ?_
      refine am_iadd (pc := 914) G dL_law_914 ?_
      refine am_sld (pc := 915) G Z dL_law_915 h.1 ?_
      have h := h.2
      refine am_aloadA (i := 0) (pc := 916) G dL_law_916 rfl rfl ?_
      refine am_iload_n (i := 3) (pc := 917) G dL_law_917 rfl rfl ?_
      refine am_iconst (pc := 918) G dL_law_918 (by decide) ?_
      refine am_iadd (pc := 919) G dL_law_919 ?_
      refine am_sld (pc := 920) G Z dL_law_920 h.1 ?_
      have h := h.2
      refine am_aloadA (i := 0) (pc := 921) G dL_law_921 rfl rfl ?_
      refine am_iload_n (i := 3) (pc := 922) G dL_law_922 rfl rfl ?_
      refine am_iconst (pc := 923) G dL_law_923 (by decide) ?_
      refine am_iadd (pc := 924) G dL_law_924 ?_
      refine am_sld (pc := 925) G Z dL_law_925 h.1 ?_
      have h := h.2
      refine am_aloadA (i := 0) (pc := 926) G dL_law_926 rfl rfl ?_
      refine am_iload_n (i := 3) (pc := 927) G dL_law_927 rfl rfl ?_
      refine am_iconst (pc := 928) G dL_law_928 (by decide) ?_
      refine am_iadd (pc := 929) G dL_law_929 ?_
      refine am_sld (pc := 930) G Z dL_law_930 h.1 ?_
      have h := h.2
      refine am_callV (rk := 0) (rmc := rm_X9_peak) (st := []) (pc := 931) G 9 [(0, _), (0, _), (0, _), (0, _)] rfl (by decide) rfl dL_law_931 tw_m_RL_108 tw_i_X9_peak tw_v_X9_peak tw_z_RX9 tw_c_X9_peak hy_X9_peak (callrm hr rfl) rfl (RunsM.mono h (fun r89 M90 h => ?_)) Z.rm
      show AW X 934 _ [(0, _)] M90
      refine am_aload_n (i := 2) (t := 17) (pc := 934) G dL_law_934 rfl rfl rfl ?_
      refine am_aloadA (i := 0) (pc := 935) G dL_law_935 rfl rfl ?_
      refine am_iload_n (i := 3) (pc := 936) G dL_law_936 rfl rfl ?_
      refine am_iconst (pc := 937) G dL_law_937 (by decide) ?_
      refine am_iadd (pc := 938) G dL_law_938 ?_
      refine am_sld (pc := 939) G Z dL_law_939 h.1 ?_
      have h := h.2
      refine am_aloadA (i := 0) (pc := 940) G dL_law_940 rfl rfl ?_
      refine am_iload_n (i := 3) (pc := 941) G dL_law_941 rfl rfl ?_
      refine am_iconst (pc := 942) G dL_law_942 (by decide) ?_
      refine am_iadd (pc := 943) G dL_law_943 ?_
      refine am_sld (pc := 944) G Z dL_law_944 h.1 ?_
      have h := h.2
      refine am_aloadA (i := 0) (pc := 945) G dL_law_945 rfl rfl ?_
      refine am_iload_n (i := 3) (pc := 946) G dL_law_946 rfl rfl ?_
      refine am_iconst (pc := 947) G dL_law_947 (by decide) ?_
      refine am_iadd (pc := 948) G dL_law_948 ?_
      refine am_sld (pc := 949) G Z dL_law_949 h.1 ?_
      have h := h.2
      refine am_aloadA (i := 0) (pc := 950) G dL_law_950 rfl rfl ?_
      refine am_iload_n (i := 3) (pc := 951) G dL_law_951 rfl rfl ?_
      refine am_iconst (pc := 952) G dL_law_952 (by decide) ?_
      refine am_iadd (pc := 953) G dL_law_953 ?_
      refine am_sld (pc := 954) G Z dL_law_954 h.1 ?_
      have h := h.2
      refine am_callV (rk := 0) (rmc := rm_X10_peak) (st := [(0, _)]) (pc := 955) G 10 [(0, _), (0, _), (0, _), (0, _)] rfl (by decide) rfl dL_law_955 tw_m_RL_111 tw_i_X10_peak tw_v_X10_peak tw_z_RX10 tw_c_X10_peak hy_X10_peak (callrm hr rfl) rfl (RunsM.mono h (fun r91 M92 h => ?_)) Z.rm
      show AW X 958 _ [(0, _), (0, _)] M92
      refine am_icmp_eq (pc := 958) G 1009 dL_law_958 (by decide) (fun c => ?_) (fun c => ?_)
      · have h := h.1 c
        refine am_iinc (pc := 1009) G dL_law_1009 rfl (nlx hn rfl) rfl ?_
        refine am_goto (pc := 1012) (ls := [(2, _), (19, _), (20, _), (0, _)]) G 18 dL_law_1012 (by decide) ?_
        refine am_le (ls' := [(2, _), (19, _), (20, _), (0, _)]) ⟨Or.inr rfl, ⟨Or.inr rfl, ⟨Or.inr rfl, ⟨Or.inr rfl, trivial⟩⟩⟩⟩ ?_
        exact k18 _ _ h
      · have h := h.2 c
        refine am_iconst (pc := 961) G dL_law_961 (by decide) ?_
        exact absurd h id
    · have h := h.2.2.2.2.2.2.2.2.2.2.2.2.2.2.2.2.2.2.2.2.2.2.2.2.1 c
      refine am_tableIn (off := 930) (pc := 33) G 963 dL_law_33 (by rw [c]; decide) (by rw [c]; rfl) (by decide) ?_
      refine am_aload_n (i := 1) (t := 16) (pc := 963) G dL_law_963 rfl rfl rfl ?_
      refine am_aloadA (i := 0) (pc := 964) G dL_law_964 rfl rfl ?_
      refine am_iload_n (i := 3) (pc := 965) G dL_law_965 rfl rfl ?_
      refine am_iconst (pc := 966) G dL_law_966 (by decide) ?_
      refine am_iadd (pc := 967) G dL_law_967 ?_
      refine am_sld (pc := 968) G Z dL_law_968 h.1 ?_
      have h := h.2
      refine am_callV (rk := 0) (rmc := rm_X9_overlaps) (st := []) (pc := 969) G 9 [(0, _)] rfl (by decide) rfl dL_law_969 tw_m_RL_112 tw_i_X9_overlaps tw_v_X9_overlaps tw_z_RX9 tw_c_X9_overlaps hy_X9_overlaps (callrm hr rfl) rfl (RunsM.mono h (fun r93 M94 h => ?_)) Z.rm
      show AW X 972 _ [(0, _)] M94
      refine am_aload_n (i := 2) (t := 17) (pc := 972) G dL_law_972 rfl rfl rfl ?_
      refine am_aloadA (i := 0) (pc := 973) G dL_law_973 rfl rfl ?_
      refine am_iload_n (i := 3) (pc := 974) G dL_law_974 rfl rfl ?_
      refine am_iconst (pc := 975) G dL_law_975 (by decide) ?_
      refine am_iadd (pc := 976) G dL_law_976 ?_
      refine am_sld (pc := 977) G Z dL_law_977 h.1 ?_
      have h := h.2
      refine am_callV (rk := 0) (rmc := rm_X10_overlaps) (st := [(0, _)]) (pc := 978) G 10 [(0, _)] rfl (by decide) rfl dL_law_978 tw_m_RL_115 tw_i_X10_overlaps tw_v_X10_overlaps tw_z_RX10 tw_c_X10_overlaps hy_X10_overlaps (callrm hr rfl) rfl (RunsM.mono h (fun r95 M96 h => ?_)) Z.rm
      show AW X 981 _ [(0, _), (0, _)] M96
      refine am_icmp_eq (pc := 981) G 1009 dL_law_981 (by decide) (fun c => ?_) (fun c => ?_)
      · have h := h.1 c
        refine am_iinc (pc := 1009) G dL_law_1009 rfl (nlx hn rfl) rfl ?_
        refine am_goto (pc := 1012) (ls := [(2, _), (19, _), (20, _), (0, _)]) G 18 dL_law_1012 (by decide) ?_
        refine am_le (ls' := [(2, _), (19, _), (20, _), (0, _)]) ⟨Or.inr rfl, ⟨Or.inr rfl, ⟨Or.inr rfl, ⟨Or.inr rfl, trivial⟩⟩⟩⟩ ?_
        exact k18 _ _ h
      · have h := h.2 c
        refine am_iconst (pc := 984) G dL_law_984 (by decide) ?_
        exact absurd h id
    · have h := h.2.2.2.2.2.2.2.2.2.2.2.2.2.2.2.2.2.2.2.2.2.2.2.2.2 c
      refine am_tableIn (off := 953) (pc := 33) G 986 dL_law_33 (by rw [c]; decide) (by rw [c]; rfl) (by decide) ?_
      refine am_aload_n (i := 1) (t := 16) (pc := 986) G dL_law_986 rfl rfl rfl ?_
      refine am_aloadA (i := 0) (pc := 987) G dL_law_987 rfl rfl ?_
      refine am_iload_n (i := 3) (pc := 988) G dL_law_988 rfl rfl ?_
      refine am_iconst (pc := 989) G dL_law_989 (by decide) ?_
      refine am_iadd (pc := 990) G dL_law_990 ?_
      refine am_sld (pc := 991) G Z dL_law_991 h.1 ?_
      have h := h.2
      refine am_callV (rk := 0) (rmc := rm_X9_told) (st := []) (pc := 992) G 9 [(0, _)] rfl (by decide) rfl dL_law_992 tw_m_RL_116 tw_i_X9_told tw_v_X9_told tw_z_RX9 tw_c_X9_told hy_X9_told (callrm hr rfl) rfl (RunsM.mono h (fun r97 M98 h => ?_)) Z.rm
      show AW X 995 _ [(0, _)] M98
      refine am_aload_n (i := 2) (t := 17) (pc := 995) G dL_law_995 rfl rfl rfl ?_
      refine am_aloadA (i := 0) (pc := 996) G dL_law_996 rfl rfl ?_
      refine am_iload_n (i := 3) (pc := 997) G dL_law_997 rfl rfl ?_
      refine am_iconst (pc := 998) G dL_law_998 (by decide) ?_
      refine am_iadd (pc := 999) G dL_law_999 ?_
      refine am_sld (pc := 1000) G Z dL_law_1000 h.1 ?_
      have h := h.2
      refine am_callV (rk := 0) (rmc := rm_X10_told) (st := [(0, _)]) (pc := 1001) G 10 [(0, _)] rfl (by decide) rfl dL_law_1001 tw_m_RL_119 tw_i_X10_told tw_v_X10_told tw_z_RX10 tw_c_X10_told hy_X10_told (callrm hr rfl) rfl (RunsM.mono h (fun r99 M100 h => ?_)) Z.rm
      show AW X 1004 _ [(0, _), (0, _)] M100
      refine am_icmp_eq (pc := 1004) G 1009 dL_law_1004 (by decide) (fun c => ?_) (fun c => ?_)
      · have h := h.1 c
        refine am_iinc (pc := 1009) G dL_law_1009 rfl (nlx hn rfl) rfl ?_
        refine am_goto (pc := 1012) (ls := [(2, _), (19, _), (20, _), (0, _)]) G 18 dL_law_1012 (by decide) ?_
        refine am_le (ls' := [(2, _), (19, _), (20, _), (0, _)]) ⟨Or.inr rfl, ⟨Or.inr rfl, ⟨Or.inr rfl, ⟨Or.inr rfl, trivial⟩⟩⟩⟩ ?_
        exact k18 _ _ h
      · have h := h.2 c
        refine am_iconst (pc := 1007) G dL_law_1007 (by decide) ?_
        exact absurd h id
def wp_L_law_18 (V : VV) (S : Int → Int) (L : Int) (x3 : Int) (M : Mem) (Q : Int → Mem → Prop) : Prop :=
  ∃ (I : Int → Mem → Prop) (μ : Int → Mem → Nat), I x3 M ∧ ∀ (y3 : Int) (N : Mem), I y3 N → wp_L_law_18_b V S L y3 N Q (fun z3 N1 => I z3 N1 ∧ μ z3 N1 < μ y3 N)
theorem swp_L_law_18 {X : XX} {Q : Int → Mem → Prop} {b : Int} {S : Int → Int} {L : Int} (G : GX X code "TreeHandsLaw") (Z : LX X b S L) (hn : nLX X = 4) (hr : roomX X = room_1) (x3 : Int) (M : Mem) (h : wp_L_law_18 (vX X) S L x3 M Q) : AW X 18 [(2, b), (19, 0), (20, 203), (0, x3)] [] M := by
  unfold wp_L_law_18 at h
  obtain ⟨I, μ, hI, hs⟩ := h
  have key : ∀ (n : Nat) (y3 : Int) (N : Mem), μ y3 N < n → I y3 N → AW X 18 [(2, b), (19, 0), (20, 203), (0, y3)] [] N := by
    intro n
    induction n with
    | zero => intro y3 N hlt; exact absurd hlt (Nat.not_lt_zero _)
    | succ n ih =>
      intro y3 N hlt hI
      exact swp_L_law_18_b G Z hn hr y3 N (fun z3 N1 => I z3 N1 ∧ μ z3 N1 < μ y3 N) (fun z3 N1 hz => ih z3 N1 (by omega) hz.1) (hs y3 N hI)
  exact key _ x3 M (Nat.lt_succ_self _) hI
theorem M0_rng (k j : Int) : -6 ≤ M0 k j ∧ M0 k j ≤ 3 := by
  unfold M0
  repeat' split
  all_goals omega
theorem M0_ok : okM M0 := fun k j => by
  have h := M0_rng k j
  split <;> constructor <;> omega
theorem bw_aw {V : VV} {nL : Nat} {p : Program} {e : Env} {R : Room} {s : State} {m : MethodId} {args : Array Value} {below : List Frame} {meth : Method} {c : Code} {c0 s0 cells slots : Nat} {A : Nat → Prop} {Q : State → Prop} {pc : Nat} {ls : List AV} {C : Nat → va_E} (hC : ∀ k, k < nCells → C k = cellE V M0 k) (hl : okL ls)
    (k : AW (V, nL, p, e, R, s, m, args, below, meth, c, cells, slots, A, Q) pc ls [] M0) : BW (V, nL, p, e, R, s, m, args, below, meth, c, c0, s0, A, Q) cells slots pc ls [] C nCells := by
  intro H locs lsC hz hP hS hL
  refine k hl okL_nil M0_ok H locs lsC ?_ hS hL
  rw [wsF_congr hC] at hP
  exact hP
theorem bm_astore {X : XX} {cc : ByteArray} {own : String} {pc cn sn n : Nat} {ls st : List AV} {C : Nat → va_E} (G : GC X cc own) {f : Fin 4} {i t : Nat} {x : Int} (hd : decode cc pc = .ok (.astore_n f, 1)) (hf : (f : Nat) = i) (hi : i < nLX X) (hn : nolong ls i = true) (hx : 0 ≤ x) (k : BW X cn sn (pc + 1) (ls.set i (t + 3, x)) st C n) : BW X cn sn pc ls ((t + 3, x) :: st) C n := by
  obtain ⟨V, nL, p, e, R, s, m, args, below, meth, c, cells, slots, A, Q⟩ := X
  intro H locs lsC hz hP hS hL
  have key : ∀ ls', lv_has ls' nL ((i, cv V.2.2.2.2.2 (t + 3, x)) :: (lvOf V.2.2.2.2.2 0 ls).filter (fun q => !(q.1 == i) && !(q.1 + 1 == i && q.2.category == 2))) → _ := fun ls' hl' => k H locs ls' hz hP hS (lvOf_set (v := (t + 3, x)) (fun _ => rfl) hn hl')
  rw [List.map_cons]
  rw [cv_ref hx] at key ⊢
  exact lv_astore_n G.1 G.2.1 hd hf hL hi rfl key
theorem whole_open (hp : ∀ (V : VV) (S : Int → Int) (L : Int), (∀ i, ir (S i)) → 0 ≤ L → L ≤ 3072 → wp_L_law_18 V S L 0 M0 (fun _ _ => True)) {p : Program} {e : Env} {s : State} {m : MethodId} {below : List Frame} {meth : Method} {c : Code} (l : Launch) {b L : Nat} {xs : Nat → Int32} (hL : L ≤ 3072) (C0 : lw_At p s m meth c b L xs) : W p l e room_1 s m #[Value.ref b] below meth c s.heap [] 0 0 (lw_Z below #[Value.ref b] s) (entryFrame m ([Value.ref b] : List Value).toArray 4) := by
  obtain ⟨hx, hb, hr, hml, hown, hts, hX, hbl, hlocks, hgv⟩ := id C0
  obtain ⟨c0, iS0, hKn0⟩ := u_known (C := RX0) (T := TX0) (N := 3) (n := 3) hts inX0 (hts _ tw_x_RX0)
  obtain ⟨c1, iS1, hKn1⟩ := u_known (C := RX1) (T := TX1) (N := 11) (n := 11) hts inX1 (hts _ tw_x_RX1)
  obtain ⟨c2, iS2, hKn2⟩ := u_known (C := RX2) (T := TX2) (N := 12) (n := 12) hts inX2 (hts _ tw_x_RX2)
  obtain ⟨c3, iS3, hKn3⟩ := u_known (C := RX3) (T := TX3) (N := 6) (n := 6) hts inX3 (hts _ tw_x_RX3)
  obtain ⟨c4, iS4, hKn4⟩ := u_known (C := RX4) (T := TX4) (N := 9) (n := 9) hts inX4 (hts _ tw_x_RX4)
  obtain ⟨c5, iS5, hKn5⟩ := u_known (C := RX5) (T := TX5) (N := 2) (n := 2) hts inX5 (hts _ tw_x_RX5)
  obtain ⟨c6, iS6, hKn6⟩ := u_known (C := RX6) (T := TX6) (N := 5) (n := 5) hts inX6 (hts _ tw_x_RX6)
  obtain ⟨c7, iS7, hKn7⟩ := u_known (C := RX7) (T := TX7) (N := 7) (n := 7) hts inX7 (hts _ tw_x_RX7)
  obtain ⟨c8, iS8, hKn8⟩ := u_known (C := RX8) (T := TX8) (N := 7) (n := 7) hts inX8 (hts _ tw_x_RX8)
  obtain ⟨c9, iS9, hKn9⟩ := u_known (C := RX9) (T := TX9) (N := 13) (n := 13) hts inX9 (hts _ tw_x_RX9)
  obtain ⟨c10, iS10, hKn10⟩ := u_known (C := RX10) (T := TX10) (N := 44) (n := 44) hts inX10 (hts _ tw_x_RX10)
  obtain ⟨dC, dI, hKc⟩ : ∃ (dC : Nat → ClassId) (dI : Nat → Nat → Nat), ∀ (k : Nat) (q : vw_C), vwCl[k]? = some q → u_Kn s q.1 q.2.1 q.2.2 (dC k) (dI k) := by
    refine ⟨fun k => if k = 0 then c0 else if k = 1 then c1 else if k = 2 then c2 else if k = 3 then c3 else if k = 4 then c4 else if k = 5 then c5 else if k = 6 then c6 else if k = 7 then c7 else if k = 8 then c8 else if k = 9 then c9 else c10, fun k => if k = 0 then iS0 else if k = 1 then iS1 else if k = 2 then iS2 else if k = 3 then iS3 else if k = 4 then iS4 else if k = 5 then iS5 else if k = 6 then iS6 else if k = 7 then iS7 else if k = 8 then iS8 else if k = 9 then iS9 else iS10, ?_⟩
    intro k q hq
    match k, hq with
    | 0, hq => cases hq; exact hKn0
    | 1, hq => cases hq; exact hKn1
    | 2, hq => cases hq; exact hKn2
    | 3, hq => cases hq; exact hKn3
    | 4, hq => cases hq; exact hKn4
    | 5, hq => cases hq; exact hKn5
    | 6, hq => cases hq; exact hKn6
    | 7, hq => cases hq; exact hKn7
    | 8, hq => cases hq; exact hKn8
    | 9, hq => cases hq; exact hKn9
    | 10, hq => cases hq; exact hKn10
    | k + 11, hq => simp [vwCl] at hq
  have hTb : Tb s := Tb.of hts
  have aI := hts _ tw_a_int
  have aL := hts _ tw_a_long
  have aT := hts _ tw_ao
  obtain ⟨cI, kI, pI, hI1, hI2, hI3⟩ := Cond.arrayClass_spec aI
  obtain ⟨cL, kL, pL, hL1, hL2, hL3⟩ := Cond.arrayClass_spec aL
  obtain ⟨pT, cT, kT, hT1, -, hT2, hT3, hT4⟩ := Cond.arrayOver_spec aT
  obtain ⟨V, hV⟩ : ∃ V : VV, V = (l, (dC, dI), cI, cL, cT, s.heap.size) := ⟨_, rfl⟩
  have hK : wK V s := by
    subst hV
    refine ⟨⟨hKc, fun k q hk => ?_⟩, hTb⟩
    match k, hk with
    | 0, hk => cases hk; exact ⟨fun n z => ⟨fun k h => (by cases h), kI, hI2, pI, hI3⟩, hI1⟩
    | 1, hk => cases hk; exact ⟨fun n z => ⟨fun k h => (by cases h), kL, hL2, pL, hL3⟩, hL1⟩
    | 2, hk => cases hk; exact ⟨fun n z => ⟨fun k h => (by cases h), kT, hT2, pT, hT3⟩, kT, pT, hT2, hT3, hT1, hT4⟩
    | k + 3, hk => simp at hk
  have hKk : wKc V s := ⟨hK, word_at (args := #[Value.ref b]) (State.WarmedH.refl s) (Or.inr ⟨_, rfl⟩) aI, word_at (args := #[Value.ref b]) (State.WarmedH.refl s) (Or.inr ⟨_, rfl⟩) aL, va_AO.of aT⟩
  have hs0 : V.2.2.2.2.2 = s.heap.size := by rw [hV]
  have hl1 : V.1 = l := by rw [hV]
  subst hl1
  clear hV
  obtain ⟨X, hXd⟩ : ∃ X : XX, X = (V, 4, p, e, room_1, s, m, #[Value.ref b], below, meth, c, 0, 0, (fun q => s.heap.size ≤ q), lw_Z below #[Value.ref b] s) := ⟨_, rfl⟩
  have G : GC X code "TreeHandsLaw" := by
    subst hXd
    exact ⟨hx, hb, hml, hown, hKk, fun q h => by rw [hs0] at h; exact h, by rw [hs0]; exact Nat.le_refl _, aI, aL⟩
  have hn : nLX X = 4 := by subst hXd; rfl
  have hr' : roomX X = room_1 := by subst hXd; rfl
  have hR : roomC X 236 12682 := by subst hXd; exact ⟨Nat.le_of_ble_eq_true rfl, Nat.le_of_ble_eq_true rfl⟩
  have hvX : vX X = V := by subst hXd; rfl
  have hBW : BW X 0 0 0 [(2, (b : Int)), (99, 0), (99, 0), (99, 0)] [] (fun _ => .inr (0, [])) 0 := by
    refine bm_new (fs := [.null, .null, .null, .null, .null, .null, .null, .null, .null, .null, .int 0, .int 0, .int 0]) (pc := 0) G 9 tyX9 dL_law_0 rfl inX9 tyX9_ok (by decide) tw_l_RL_7 tw_x_RX9 tw_z_RX9 (hR.le (by decide) (by decide)) ?_
    refine bm_dup (pc := 3) G dL_law_3 (Nat.ne_of_beq_eq_false rfl) ?_
    refine bm_call (t := 16) (nc := 202) (ns := 6090) (st := [(19, _)]) (rmc := rm_X9_init) (pc := 4) G [] rfl dL_law_4 (by decide) tw_m_RL_9 tw_i_X9_init tw_z_RX9 tw_c_X9_init hy_X9_init (by rw [hr']; exact ⟨rfl, rfl, Nat.le_of_ble_eq_true rfl, Nat.le_of_ble_eq_true rfl⟩) rfl (hR.le (by decide) (by decide)) ?_
    refine ctor_X9_init (vX X) _ (by rw [cup_same]) (fun C1 _ hN1 => ?_)
    show BW X 203 6103 7 _ [(19, _)] C1 203
    refine bm_astore (t := 16) (pc := 7) G dL_law_7 rfl (nlx hn rfl) rfl (by decide) ?_
    refine bm_new (fs := [.null, .null, .null, .int 0, .null, .int 0, .null, .int 0, .int 0, .null, .int 0, .int 0, .null, .null, .null, .null, .null, .null, .null, .null, .null, .null, .null, .null, .int 0, .null, .null, .int 0, .null, .null, .null, .null, .null, .int 0, .null, .null, .null, .int 0, .int 0, .int 0, .null, .null, .null, .null]) (pc := 8) (ls := [(2, _), (19, _), (99, _), (99, _)]) G 10 tyX10 dL_law_8 rfl inX10 tyX10_ok (by decide) tw_l_RL_10 tw_x_RX10 tw_z_RX10 (hR.le (by decide) (by decide)) ?_
    refine bm_dup (pc := 11) G dL_law_11 (Nat.ne_of_beq_eq_false rfl) ?_
    refine bm_call (t := 17) (nc := 32) (ns := 6535) (st := [(20, _)]) (rmc := rm_X10_init) (pc := 12) G [] rfl dL_law_12 (by decide) tw_m_RL_12 tw_i_X10_init tw_z_RX10 tw_c_X10_init hy_X10_init (by rw [hr']; exact ⟨rfl, rfl, Nat.le_of_ble_eq_true rfl, Nat.le_of_ble_eq_true rfl⟩) rfl (hR.le (by decide) (by decide)) ?_
    refine ctor_X10_init (vX X) _ (by rw [cup_same]) (fun C2 hO2 hN2 => ?_)
    show BW X 236 12682 15 _ [(20, _)] C2 236
    refine bm_astore (t := 17) (pc := 15) G dL_law_15 rfl (nlx hn rfl) rfl (by decide) ?_
    refine bm_iconst (pc := 16) (ls := [(2, _), (19, _), (20, _), (99, _)]) G dL_law_16 ?_
    refine bm_istore (pc := 17) G dL_law_17 rfl (nlx hn rfl) rfl ?_
    show BW X 236 12682 18 [(2, (b : Int)), (19, ((0 : Nat) : Int)), (20, ((203 : Nat) : Int)), (0, 0)] [] C2 236
    have hfin : ∀ k, k < nCells → C2 k = cellE V M0 k := fun k hk => by
      rw [← hvX]
      by_cases h : k < 203
      · rw [hO2 k h, cup_ne _ (by omega)]; exact hN1 k (Nat.zero_le _) h
      · exact hN2 k (by omega) hk
    subst hXd
    refine bw_aw (cells := 236) (slots := 12682) hfin ?_ ?_
    · refine okL_cons trivial (okL_cons (vok_mk (by decide) (by decide) (by decide +kernel)) (okL_cons (vok_mk (by decide) (by decide) (by decide +kernel)) (okL_cons ir0 okL_nil)))
    · have hS0 : ∀ i : Int, ir ((xs i.toNat).toInt) := fun i => ti_ir _
      refine swp_L_law_18 (Q := fun _ _ => True) (b := (b : Int)) (S := fun i => (xs i.toNat).toInt) (L := (L : Int)) ⟨hx, hb, hml, hown, hK, fun q h => by have := h.1; rw [hs0] at this; exact this⟩ ⟨b, L, xs, rfl, rfl, hL, fun _ => rfl, hX, hbl, rfl, rfl, rfl, Nat.le_of_ble_eq_true rfl, Nat.le_of_ble_eq_true rfl, rfl, hr, hlocks⟩ rfl rfl 0 M0 (hp V _ _ hS0 (by omega) (by omega))
  subst hXd
  have hl := lv_entry ([Value.ref b]) (n := 4) (Nat.le_of_ble_eq_true rfl)
  rw [lg_entry_eq]
  refine hBW s.heap [] _ (by rw [hs0]; rfl) (fun k q h => by simp [wsF] at h) va_S.rf (lv_mono hl (fun q hq => ?_))
  obtain ⟨j, v, h1, h2, rfl⟩ := (lvOf_mem _ 0).mp hq
  match j, h1 with
  | 0, h1 => cases h1; simp [lv_args, cv]
  | 1, h1 => cases h1; cases h2
  | 2, h1 => cases h1; cases h2
  | 3, h1 => cases h1; cases h2
  | j + 4, h1 => simp at h1
