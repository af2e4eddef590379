/-! contracts, returns, calls. Kinds of answers: 0 int, 1 boolean, 2 long, 3 a reference or null, 4 none -/
def rval (V : VV) (rk : Nat) (r : Int) : Option Value := match rk with
  | 0 => some (.int (i32 r))
  | 1 => some (.int (i32 r))
  | 2 => some (.long (i64 r))
  | 3 => some (cv V.2.2.2.2.2 (30017, r))
  | _ => none
def rav (rk : Nat) (r : Int) : List AV := match rk with
  | 0 => [(0, r)]
  | 1 => [(0, r)]
  | 2 => [(1, r)]
  | 3 => [(30017, r)]
  | _ => []
theorem rav_val (V : VV) (rk : Nat) (r : Int) : (rval V rk r).toList = (rav rk r).map (cv V.2.2.2.2.2) := by
  unfold rval rav
  split <;> rfl
def QC (V : VV) (rk : Nat) (Q : Int → Mem → Prop) : Array Value → State → Outcome → State → Prop := fun _ st o t =>
  (∃ (r : Int) (M : Mem), o = .returned (rval V rk r) ∧ Q r M ∧ okL (rav rk r) ∧ okM M ∧ va_P V.2.1 vwCl (wsOf V M) t.heap) ∧ va_F (wA V) st t
def PC (V : VV) (args : List AV) (M : Mem) : Array Value → State → Prop := va_Pc (args.map (cv V.2.2.2.2.2)) (fun U => wK V U ∧ va_P V.2.1 vwCl (wsOf V M) U.heap)
/-- the contract: called with these values in this memory it answers r and leaves M', Q r M' -/
def RunsM (V : VV) (y : MethodName) (w : Cond) (rm : Room) (rk : Nat) (args : List AV) (M : Mem) (Q : Int → Mem → Prop) : Prop :=
  okL args → okM M → Met V.1 y [w] rm (PC V args M) (QC V rk Q) 0 0 (wA V)
def retOk (rk : Nat) (ret : Option FieldType) : Prop := match rk with
  | 0 => ret = some .int
  | 1 => ret = some .boolean
  | 2 => ret = some .long
  | 3 => ∃ n, ret = some (.object n)
  | _ => ret = none
def RX (X : XX) (rk : Nat) (Q : Int → Mem → Prop) : Prop := match X with
  | (V, _, _, _, _, s, _, args, below, meth, _, cells, slots, A, Qs) => cells = 0 ∧ slots = 0 ∧ A = wA V ∧ Qs = MQ below (QC V rk Q) args s 0 0 (wA V) ∧ meth.locks = false ∧ retOk rk meth.sig.returnType
def roomX (X : XX) : Room := X.2.2.2.2.1
def vX (X : XX) : VV := X.1
def rmOk (X : XX) : Prop := X.2.2.2.2.2.2.2.2.2.2.2.1 ≤ X.2.2.2.2.1.cells ∧ X.2.2.2.2.2.2.2.2.2.2.2.2.1 ≤ X.2.2.2.2.1.slots
theorem RX.rm {X : XX} {rk : Nat} {Q : Int → Mem → Prop} (Z : RX X rk Q) : rmOk X := by
  obtain ⟨V, nL, p, e, R, s, m, args, below, meth, c, cells, slots, A, Qs⟩ := X
  obtain ⟨rfl, rfl, -⟩ := Z
  exact ⟨Nat.zero_le _, Nat.zero_le _⟩
theorem nlx {X : XX} {n i : Nat} (hn : nLX X = n) (h : Nat.blt i n = true) : i < nLX X := by rw [hn]; exact Nat.le_of_ble_eq_true h
def chkrm (rm rmc : Room) (maxL : Nat) : Bool := Nat.beq rmc.cells 0 && Nat.beq rmc.slots 0 && Nat.ble (rmc.frames + 1) rm.frames && Nat.ble (8 + (maxL + 11) + rmc.locals) rm.locals
theorem callrm {X : XX} {rm rmc : Room} {maxL : Nat} (hr : roomX X = rm) (h : chkrm rm rmc maxL = true) : rmc.cells = 0 ∧ rmc.slots = 0 ∧ rmc.frames + 1 ≤ (roomX X).frames ∧ 8 + (maxL + 11) + rmc.locals ≤ (roomX X).locals := by
  rw [hr]
  unfold chkrm at h
  simp only [Bool.and_eq_true, Nat.beq_eq, Nat.ble_eq] at h
  exact ⟨h.1.1.1, h.1.1.2, h.1.2, h.2⟩
section AMQ
variable {X : XX} {cc : ByteArray} {own : String} {pc : Nat} {ls st : List AV} {M : Mem} {Q : Int → Mem → Prop}
theorem am_iret (G : GX X cc own) (Z : RX X 0 Q) {x : Int} (hd : decode cc pc = .ok (.ireturn, 1)) (hq : Q x M) : AW X pc ls [(0, x)] M := by
  obtain ⟨V, nL, p, e, R, s, m, args, below, meth, c, cells, slots, A, Qs⟩ := X
  obtain ⟨rfl, rfl, rfl, rfl, hlocks, hret⟩ := Z
  intro h1 h2 h3 H locs lsC hP hS hL
  exact W.iret G.1 G.2.1 hret (fun t ht hW => ⟨⟨x, M, rfl, hq, h2, h3, by rw [ht]; exact hP⟩, hS.F ht⟩) hS.2.2 hd hlocks
theorem am_zret (G : GX X cc own) (Z : RX X 1 Q) {x : Int} (hd : decode cc pc = .ok (.ireturn, 1)) (hq : (x = 0 ∨ x = 1) ∧ Q x M) : AW X pc ls [(0, x)] M := by
  obtain ⟨V, nL, p, e, R, s, m, args, below, meth, c, cells, slots, A, Qs⟩ := X
  obtain ⟨rfl, rfl, rfl, rfl, hlocks, hret⟩ := Z
  intro h1 h2 h3 H locs lsC hP hS hL
  refine W.zret (ty := .boolean) G.1 G.2.1 hret (by rcases hq.1 with rfl | rfl <;> rfl) (fun t ht hW => ⟨⟨x, M, rfl, hq.2, h2, h3, by rw [ht]; exact hP⟩, hS.F ht⟩) hS.2.2 hd hlocks
theorem am_lret (G : GX X cc own) (Z : RX X 2 Q) {x : Int} (hd : decode cc pc = .ok (.lreturn, 1)) (hq : Q x M) : AW X pc ls [(1, x)] M := by
  obtain ⟨V, nL, p, e, R, s, m, args, below, meth, c, cells, slots, A, Qs⟩ := X
  obtain ⟨rfl, rfl, rfl, rfl, hlocks, hret⟩ := Z
  intro h1 h2 h3 H locs lsC hP hS hL
  exact W.lret G.1 G.2.1 hret (fun t ht hW => ⟨⟨x, M, rfl, hq, h2, h3, by rw [ht]; exact hP⟩, hS.F ht⟩) hS.2.2 hd hlocks
theorem am_aret (G : GX X cc own) (Z : RX X 3 Q) {x : Int} (hd : decode cc pc = .ok (.areturn, 1)) (hq : Q x M) : AW X pc ls [(30017, x)] M := by
  obtain ⟨V, nL, p, e, R, s, m, args, below, meth, c, cells, slots, A, Qs⟩ := X
  obtain ⟨rfl, rfl, rfl, rfl, hlocks, n, hret⟩ := Z
  intro h1 h2 h3 H locs lsC hP hS hL
  refine W.aret G.1 G.2.1 hret (Or.inl ⟨n, rfl⟩) ?_ (fun t ht hW => ⟨⟨x, M, rfl, hq, h2, h3, by rw [ht]; exact hP⟩, hS.F ht⟩) hS.2.2 hd hlocks
  by_cases hx : x < 0
  · exact Or.inl (cv_nul (t := 30014) hx)
  · exact Or.inr ⟨_, cv_ref (t := 30014) (by omega)⟩
theorem am_vret (G : GX X cc own) (Z : RX X 4 Q) (hd : decode cc pc = .ok (.return_, 1)) (hq : Q 0 M) : AW X pc ls [] M := by
  obtain ⟨V, nL, p, e, R, s, m, args, below, meth, c, cells, slots, A, Qs⟩ := X
  obtain ⟨rfl, rfl, rfl, rfl, hlocks, hret⟩ := Z
  intro h1 h2 h3 H locs lsC hP hS hL
  exact W.vret G.1 G.2.1 hret (fun t ht hW => ⟨⟨0, M, rfl, hq, okL_nil, h3, by rw [ht]; exact hP⟩, hS.F ht⟩) hS.2.2 hd hlocks
end AMQ
-- entry
def argL : List AV → List AV
  | [] => []
  | v :: l => if v.1 = 1 then v :: (98, 0) :: argL l else v :: argL l
theorem argL_lv (s0 : Nat) : ∀ (l : List AV) (i : Nat) (r : List AV), (∀ v ∈ r, uns v.1 = true) → ∀ q ∈ lvOf s0 i (argL l ++ r), q ∈ lv_args i (l.map (cv s0))
  | [], i, r, hr, q, hq => by
    obtain ⟨j, v, h1, h2, -⟩ := (lvOf_mem _ i).mp hq
    have h3 := hr v (List.mem_of_getElem? (by simpa [argL] using h1))
    rw [h2] at h3; cases h3
  | v :: l, i, r, hr, q, hq => by
    unfold argL at hq
    rw [List.map_cons]
    unfold lv_args
    by_cases h1 : v.1 = 1
    · have hc : (cv s0 v).category = 2 := by
        obtain ⟨t, x⟩ := v
        simp only at h1; subst h1; rfl
      rw [if_pos h1] at hq
      have hq' : q ∈ lvOf s0 i (v :: (98, 0) :: (argL l ++ r)) := hq
      have hv : uns v.1 = false := by rw [h1]; rfl
      rw [lvOf, if_neg (by rw [hv]; decide), lvOf, if_pos (by rfl)] at hq'
      rcases List.mem_cons.mp hq' with rfl | hq'
      · exact List.mem_cons_self
      · refine List.mem_cons_of_mem _ ?_
        rw [if_pos hc]
        exact argL_lv s0 l (i + 2) r hr q hq'
    · have hc : ¬ (cv s0 v).category = 2 := by rw [cv_cat s0 h1]; decide
      rw [if_neg h1] at hq
      have hq' : q ∈ lvOf s0 i (v :: (argL l ++ r)) := hq
      rw [lvOf] at hq'
      rw [if_neg hc]
      split at hq'
      · exact List.mem_cons_of_mem _ (argL_lv s0 l (i + 1) r hr q hq')
      · rcases List.mem_cons.mp hq' with rfl | hq'
        · exact List.mem_cons_self
        · exact List.mem_cons_of_mem _ (argL_lv s0 l (i + 1) r hr q hq')
theorem argL_ok : ∀ {l : List AV}, okL l → okL (argL l)
  | [], h => h
  | v :: l, h => by
    unfold argL
    split
    · exact okL_cons (okL_hd h) (okL_cons (vok_uns rfl) (argL_ok (okL_tl h)))
    · exact okL_cons (okL_hd h) (argL_ok (okL_tl h))
theorem argL_len (s0 : Nat) : ∀ (l : List AV), (lg_sl (l.map (cv s0))).length = (argL l).length
  | [] => rfl
  | v :: l => by
    have ih := argL_len s0 l
    unfold argL
    by_cases h1 : v.1 = 1
    · have hc : (cv s0 v).category = 2 := by
        obtain ⟨t, x⟩ := v
        simp only at h1; subst h1; rfl
      rw [if_pos h1, List.map_cons]
      simp only [lg_sl, List.flatMap_cons, hc, if_true, List.length_append] at ih ⊢
      rw [ih]; simp; omega
    · have hc : ¬ (cv s0 v).category = 2 := by rw [cv_cat s0 h1]; decide
      rw [if_neg h1, List.map_cons]
      simp only [lg_sl, List.flatMap_cons, hc, if_false, List.length_append] at ih ⊢
      rw [ih]; simp; omega
theorem met_in {V : VV} {y : MethodName} {cc : ByteArray} {maxL : Nat} {ret : Option FieldType} {rm : Room} {rk : Nat} {args : List AV} {M : Mem} {Q : Int → Mem → Prop} {own : String} (hy : plainName y.cls = true) (how : own = y.cls) (hrk : retOk rk ret) (hlen : (argL args).length ≤ maxL)
    (body : ∀ X : XX, GX X cc own → RX X rk Q → nLX X = maxL → roomX X = rm → vX X = V → AW X 0 (argL args ++ List.replicate (maxL - (argL args).length) (99, 0)) [] M) : RunsM V y (.code y cc maxL ret) rm rk args M Q := by
  intro ha hM
  refine Met.ofW (cc := cc) (maxL := maxL) (ret := ret) hy rfl ?_
  intro p e s m args' below meth c s₁ B hml hv
  obtain ⟨rfl, hK, hP⟩ := hv
  have hown : s.vm.findClass own = some m.cls := by rw [how]; exact findClass_of_methodNamed B.named
  have h := body (V, maxL, p, e, rm, s, m, (args.map (cv V.2.2.2.2.2)).toArray, below, meth, c, 0, 0, wA V, MQ below (QC V rk Q) (args.map (cv V.2.2.2.2.2)).toArray s 0 0 (wA V))
    ⟨B.exec, B.bytes, hml, hown, hK, fun _ h => h⟩ ⟨rfl, rfl, rfl, rfl, B.notSynchronized, by rw [B.returns]; exact hrk⟩ rfl rfl rfl
  have hok : okL (argL args ++ List.replicate (maxL - (argL args).length) (99, 0)) := fun v hv => by
    rcases List.mem_append.mp hv with hv | hv
    · exact argL_ok ha v hv
    · rw [List.eq_of_mem_replicate hv]; exact vok_uns rfl
  have hl := lv_entry (args.map (cv V.2.2.2.2.2)) (n := maxL) (by rw [argL_len]; exact hlen)
  rw [lg_entry_eq]
  refine h hok okL_nil hM s.heap [] _ hP va_S.rf (lv_mono hl (argL_lv _ args 0 _ (fun v hv => by rw [List.eq_of_mem_replicate hv]; rfl)))
theorem RunsM.mono {V : VV} {y : MethodName} {w : Cond} {rm : Room} {rk : Nat} {args : List AV} {M : Mem} {Q Q' : Int → Mem → Prop} (h : RunsM V y w rm rk args M Q) (hq : ∀ r M', Q r M' → Q' r M') : RunsM V y w rm rk args M Q' := by
  intro ha hM
  have h1 := h ha hM
  intro p e a1 a2 a3 s m ar below b1 b2 b3 b4
  obtain ⟨k, o, c1, c2, c3, ⟨⟨r, M', d1, d2, d3⟩, d4⟩, c4⟩ := h1 p e a1 a2 a3 s m ar below b1 b2 b3 b4
  exact ⟨k, o, c1, c2, c3, ⟨⟨r, M', d1, hq r M' d2, d3⟩, d4⟩, c4⟩
-- calls
def catB : List AV → Nat
  | [] => 0
  | v :: l => (if v.1 = 1 then 2 else 1) + catB l
theorem catB_ok (s0 : Nat) : ∀ l : List AV, (((l.map (cv s0)).map fun v => v.category).sum) = catB l
  | [] => rfl
  | v :: l => by
    have ih := catB_ok s0 l
    simp only [List.map_cons, List.sum_cons, catB, ih]
    congr 1
    by_cases h1 : v.1 = 1
    · rw [if_pos h1]
      obtain ⟨t, x⟩ := v
      simp only at h1; subst h1; rfl
    · rw [if_neg h1, cv_cat s0 h1]
theorem PC_blind (V : VV) (args : List AV) (M : Mem) : FrameBlind (PC V args M) := fun a U g mk h => ⟨h.1, wK.same (u := U) (U := U.calling g mk a) rfl h.2.1, h.2.2⟩
section AMC
variable {p : Program} {e : Env} {R : Room} {s : State} {m : MethodId} {args : Array Value} {below : List Frame} {meth : Method} {c : Code} {H : Heap} {locs : List Loc} {cells slots : Nat} {Qs : State → Prop} {V : VV} {rk pc : Nat} {lsC : Array Slot} {st0 rest : List Value} {a : Array Value} {A : Nat → Prop} {Q : Int → Mem → Prop}
theorem am_goon (hr : va_Run p V.1 e R s m args below meth c H locs cells slots 0 0 (F0 m pc lsC st0) rest (QC V rk Q a) (wA V)) (hS : va_S A s.heap H locs) (hA : ∀ q, wA V q → A q)
    (kk : ∀ (r : Int) (M' : Mem) (H1 : Heap) (locs1 : List Loc), Q r M' → okL (rav rk r) → okM M' → va_P V.2.1 vwCl (wsOf V M') H1 → va_S A s.heap H1 locs1 → W p V.1 e R s m args below meth c H1 locs1 cells slots Qs (F0 m (pc + 3) lsC ((rval V rk r).toList ++ rest))) : W p V.1 e R s m args below meth c H locs cells slots Qs (F0 m pc lsC st0) := by
  intro T hT X
  obtain ⟨v, st₀, t, T', L, h0, X', hL, e1, e2, ⟨⟨r, M', hv, hq, hr1, hM, hP⟩, hz, hk⟩, st⟩ := hr T hT X
  cases hv
  rw [h0] at hz hk
  obtain ⟨t2, a1, b1⟩ := kk r M' T'.heap (locs ++ L) hq hr1 hM (by rw [e1]; exact hP)
    ⟨Nat.le_trans hS.1 (by rw [e1]; exact hz), fun q h1 h2 => by rw [e1, hk q (Nat.lt_of_lt_of_le h1 hS.1) (fun z => h2 (hA q z))]; exact hS.2.1 q h1 h2, fun q hq => by
      rcases List.mem_append.mp hq with h | h
      · exact hS.2.2 q h
      · exact hA _ (hL q h)⟩ T' rfl X'
  exact ⟨t2, st t2 a1, b1⟩
end AMC
section AMD
variable {X : XX} {cc : ByteArray} {own : String} {pc : Nat} {ls st : List AV} {M : Mem} {y : MethodName} {bytes : ByteArray} {maxL rk idx : Nat} {ret : Option FieldType} {rmc : Room}
theorem code_ws {s : State} {V : VV} (hK : wK V s) (hc : Cond.code y bytes maxL ret ∈ lw_tbl) : ∀ w ∈ [Cond.code y bytes maxL ret], ∀ (a' : Array Value) (U : State), s.WarmedH U.vm → w.before a' U = true := fun w hw a' U hW => by
  rw [List.mem_singleton.mp hw]
  exact word_at (args := a') hW (Or.inl rfl) (hK.2.use a' _ hc rfl)
theorem am_callV (G : GX X cc own) (ci : Nat) {C : String} {T : u_T} {N : Nat} (as : List AV) {o : Int} (hc : vwCl[ci]? = some (C, T, N)) (hci : ci < 80) (hC : y.cls = C) (hd : decode cc pc = .ok (.invokevirtual idx, 3))
    (hl : Cond.methodLink own idx y ∈ lw_tbl) (hi : Cond.instanceMethod y ∈ lw_tbl) (hs : Cond.selects C y y ∈ lw_tbl) (hz : Cond.initialized C ∈ lw_tbl) (hco : Cond.code y bytes maxL ret ∈ lw_tbl)
    (hy : y.cls ≠ "java/lang/invoke/MethodHandle" ∧ y.cls ≠ "java/lang/invoke/VarHandle" ∧ (parseMethodDescriptor y.desc).map (fun d => d.parameters.length) = some as.length) (hrm : rmc.cells = 0 ∧ rmc.slots = 0 ∧ rmc.frames + 1 ≤ (roomX X).frames ∧ 8 + (maxL + 11) + rmc.locals ≤ (roomX X).locals) (hcat : Nat.ble (catB st) 8 = true)
    (kk : RunsM (vX X) y (.code y bytes maxL ret) rmc rk ((10 + ci, o) :: as) M (fun r M' => AW X (pc + 3) ls (rav rk r ++ st) M')) (hroom : rmOk X) : AW X pc ls (as.reverse ++ (10 + ci, o) :: st) M := by
  obtain ⟨V, nL, p, e, R, s, m, args, below, meth, c, cells, slots, A, Qs⟩ := X
  intro h1 h2 h3 H locs lsC hP hS hL
  have hro : vok (10 + ci, o) := h2 _ (List.mem_append_right _ List.mem_cons_self)
  have hst : okL st := fun v hv => h2 v (List.mem_append_right _ (List.mem_cons_of_mem _ hv))
  have has : okL ((10 + ci, o) :: as) := okL_cons hro (fun v hv => h2 v (List.mem_append_left _ (List.mem_reverse.mpr hv)))
  obtain ⟨g0, g1, g2⟩ := vok_ref hro (by omega) (uns_lo (by omega)) (by omega)
  obtain ⟨a, rfl⟩ : ∃ a : Nat, o = a := ⟨o.toNat, by omega⟩
  have ha : a < nCells := by omega
  have hka : kd a = 10 + ci := by simpa using g2
  have hcell : (wsOf V M)[a]? = some (V.2.2.2.2.2 + a, .inr (ci, (List.range (nfl ci)).map (fun j => cv V.2.2.2.2.2 (fv ci j a M)))) := by
    rw [wsOf_get V M ha]; unfold cellE
    rw [if_pos (by omega), show kd a - 10 = ci by omega]
  obtain ⟨hx, hb, hml, hown, hK, hA⟩ := G
  have u := hK.2.use args
  have hrecv : cv V.2.2.2.2.2 (10 + ci, (a : Int)) = .ref (V.2.2.2.2.2 + a) := by rw [show 10 + ci = (7 + ci) + 3 by omega, cv_ref g0]; simp
  have hM := kk has h3
  refine am_goon (va_runV (Ts := []) (b := V.2.2.2.2.2 + a) (As := as.map (cv V.2.2.2.2.2)) (rest := st.map (cv V.2.2.2.2.2)) (n := as.length) (bytes := bytes) (maxL := maxL) (ret := ret) (index := idx) (C := C) ⟨hx, hb, hml, hown, fun _ h => absurd h List.not_mem_nil⟩ hM
    ⟨⟨hrm.1, hrm.2.1, hrm.2.2.1, hrm.2.2.2, code_ws hK hco, List.mem_cons_self, u _ hco rfl, by rw [hC]; exact u _ hz rfl, ⟨hy.1, hy.2.1⟩, fun sig h => ?_, u _ hl rfl⟩, u _ hi rfl, u _ hs rfl⟩
    ⟨PC_blind V _ M, va_recv hK.1 hP hc hcell, fun U hU hW => ⟨by show _ = (cv V.2.2.2.2.2 (10 + ci, (a : Int)) :: as.map (cv V.2.2.2.2.2)).toArray; rw [hrecv], hK.moved hW, by rw [hU]; exact hP⟩⟩ rfl (by simp) hL.1 (by rw [List.map_append, List.map_cons, hrecv, List.map_reverse]) ?_ hd hroom) hS hA (fun r M' H1 locs1 hq hr hM' hP1 hS1 => ?_)
  · have h2 := hy.2.2
    rw [h] at h2
    exact (Option.some.inj h2).symm
  · exact lv_room (by rw [catB_ok]; exact Nat.le_of_ble_eq_true hcat)
  · rw [rav_val, ← List.map_append]
    exact hq h1 (fun v hv => (List.mem_append.mp hv).elim (hr v) (hst v)) hM' H1 locs1 lsC hP1 hS1 hL
theorem am_callS (G : GX X cc own) (as : List AV) (hd : decode cc pc = .ok (.invokestatic idx, 3))
    (hl : Cond.methodLink own idx y ∈ lw_tbl) (hi : Cond.static y ∈ lw_tbl) (hz : Cond.initialized y.cls ∈ lw_tbl) (hco : Cond.code y bytes maxL ret ∈ lw_tbl)
    (hy : y.cls ≠ "java/lang/invoke/MethodHandle" ∧ y.cls ≠ "java/lang/invoke/VarHandle" ∧ (parseMethodDescriptor y.desc).map (fun d => d.parameters.length) = some as.length) (hrm : rmc.cells = 0 ∧ rmc.slots = 0 ∧ rmc.frames + 1 ≤ (roomX X).frames ∧ 8 + (maxL + 11) + rmc.locals ≤ (roomX X).locals) (hcat : Nat.ble (catB st) 8 = true)
    (kk : RunsM (vX X) y (.code y bytes maxL ret) rmc rk as M (fun r M' => AW X (pc + 3) ls (rav rk r ++ st) M')) (hroom : rmOk X) : AW X pc ls (as.reverse ++ st) M := by
  obtain ⟨V, nL, p, e, R, s, m, args, below, meth, c, cells, slots, A, Qs⟩ := X
  intro h1 h2 h3 H locs lsC hP hS hL
  have hst : okL st := fun v hv => h2 v (List.mem_append_right _ hv)
  have has : okL as := fun v hv => h2 v (List.mem_append_left _ (List.mem_reverse.mpr hv))
  obtain ⟨hx, hb, hml, hown, hK, hA⟩ := G
  have u := hK.2.use args
  have hM := kk has h3
  refine am_goon (va_runS (Ts := []) (As := as.map (cv V.2.2.2.2.2)) (rest := st.map (cv V.2.2.2.2.2)) (n := as.length) (bytes := bytes) (maxL := maxL) (ret := ret) (index := idx) ⟨hx, hb, hml, hown, fun _ h => absurd h List.not_mem_nil⟩ hM
    ⟨⟨hrm.1, hrm.2.1, hrm.2.2.1, hrm.2.2.2, code_ws hK hco, List.mem_cons_self, u _ hco rfl, u _ hz rfl, ⟨hy.1, hy.2.1⟩, fun sig h => ?_, u _ hl rfl⟩, u _ hi rfl⟩
    ⟨PC_blind V _ M, fun U hU hW => ⟨rfl, hK.moved hW, by rw [hU]; exact hP⟩⟩ rfl (by simp) hL.1 (by rw [List.map_append, List.map_reverse]) ?_ hd hroom) hS hA (fun r M' H1 locs1 hq hr hM' hP1 hS1 => ?_)
  · have h2 := hy.2.2
    rw [h] at h2
    exact (Option.some.inj h2).symm
  · exact lv_room (by rw [catB_ok]; exact Nat.le_of_ble_eq_true hcat)
  · rw [rav_val, ← List.map_append]
    exact hq h1 (fun v hv => (List.mem_append.mp hv).elim (hr v) (hst v)) hM' H1 locs1 lsC hP1 hS1 hL
theorem am_callSN (G : GX X cc own) (as : List AV) {host : String} (hd : decode cc pc = .ok (.invokestatic idx, 3))
    (hl : Cond.methodLinkNest own idx y host ∈ lw_tbl) (hi : Cond.static y ∈ lw_tbl) (hz : Cond.initialized y.cls ∈ lw_tbl) (hco : Cond.code y bytes maxL ret ∈ lw_tbl)
    (hy : y.cls ≠ "java/lang/invoke/MethodHandle" ∧ y.cls ≠ "java/lang/invoke/VarHandle" ∧ (parseMethodDescriptor y.desc).map (fun d => d.parameters.length) = some as.length) (hrm : rmc.cells = 0 ∧ rmc.slots = 0 ∧ rmc.frames + 1 ≤ (roomX X).frames ∧ 8 + (maxL + 11) + rmc.locals ≤ (roomX X).locals) (hcat : Nat.ble (catB st) 8 = true)
    (kk : RunsM (vX X) y (.code y bytes maxL ret) rmc rk as M (fun r M' => AW X (pc + 3) ls (rav rk r ++ st) M')) (hroom : rmOk X) : AW X pc ls (as.reverse ++ st) M := by
  obtain ⟨V, nL, p, e, R, s, m, args, below, meth, c, cells, slots, A, Qs⟩ := X
  intro h1 h2 h3 H locs lsC hP hS hL
  have hst : okL st := fun v hv => h2 v (List.mem_append_right _ hv)
  have has : okL as := fun v hv => h2 v (List.mem_append_left _ (List.mem_reverse.mpr hv))
  obtain ⟨hx, hb, hml, hown, hK, hA⟩ := G
  have u := hK.2.use args
  have hM := kk has h3
  refine am_goon (va_runSN (Ts := []) (As := as.map (cv V.2.2.2.2.2)) (rest := st.map (cv V.2.2.2.2.2)) (n := as.length) (bytes := bytes) (maxL := maxL) (ret := ret) (index := idx) (host := host) ⟨hx, hb, hml, hown, fun _ h => absurd h List.not_mem_nil⟩ hM
    ⟨⟨⟨hrm.1, hrm.2.1, hrm.2.2.1, hrm.2.2.2, code_ws hK hco, List.mem_cons_self⟩, u _ hco rfl, u _ hz rfl, ⟨hy.1, hy.2.1⟩, fun sig h => ?_, u _ hl rfl⟩, u _ hi rfl, trivial⟩
    ⟨PC_blind V _ M, fun U hU hW => ⟨rfl, hK.moved hW, by rw [hU]; exact hP⟩⟩ rfl (by simp) hL.1 (by rw [List.map_append, List.map_reverse]) ?_ hd hroom) hS hA (fun r M' H1 locs1 hq hr hM' hP1 hS1 => ?_)
  · have h2 := hy.2.2
    rw [h] at h2
    exact (Option.some.inj h2).symm
  · exact lv_room (by rw [catB_ok]; exact Nat.le_of_ble_eq_true hcat)
  · rw [rav_val, ← List.map_append]
    exact hq h1 (fun v hv => (List.mem_append.mp hv).elim (hr v) (hst v)) hM' H1 locs1 lsC hP1 hS1 hL
end AMD
