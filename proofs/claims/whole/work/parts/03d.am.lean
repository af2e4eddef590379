/-! the machine on values and memory: AW, and a row an instruction -/
theorem lw_g_on {w : Cond} (h : lw_g w = true) : w.onTables = true := ((Bool.and_eq_true _ _).mp h).1
theorem Tb.use {U : State} (h : Tb U) (args : Array Value) (w : Cond) (hw : w ∈ lw_tbl) (hg : lw_g w = true) : w.before args U = true := va_Nw.use (lw_g_on hg) (h w hw hg)
theorem Tb.of {U : State} {args : Array Value} (h : ∀ w ∈ lw_tbl, w.before args U = true) : Tb U := fun w hw hg => va_Nw.of (lw_g_on hg) (h w hw)
theorem Tb.same {u U : State} (e : u.vm = U.vm) (h : Tb u) : Tb U := fun w hw hg => va_Nw.same (lw_g_on hg) e (h w hw hg)
theorem Tb.moved {s U : State} (hW : s.WarmedH U.vm) (h : Tb s) : Tb U := fun w hw hg => by
  have h1 := h w hw hg
  rcases (Bool.or_eq_true _ _).mp ((Bool.and_eq_true _ _).mp hg).2 with hk | hk
  · exact word_at (args := #[]) hW (Or.inl (by rw [lw_g_on hg, hk]; rfl)) h1
  · cases w with
    | methodLinkNest a i x q => exact va_Nw.warmM hW h1
    | _ => cases hk
theorem wK.same {V : VV} {u U : State} (e : u.vm = U.vm) (h : wK V u) : wK V U := ⟨va_K.moved (by rw [e]; exact Vm.Alike.refl _) h.1, h.2.same e⟩
theorem wK.moved {V : VV} {s U : State} (hW : s.WarmedH U.vm) (h : wK V s) : wK V U := ⟨va_K.moved hW.alike h.1, h.2.moved hW⟩
abbrev XX : Type := VV × Nat × Program × Env × Room × State × MethodId × Array Value × List Frame × Method × Code × Nat × Nat × (Nat → Prop) × (State → Prop)
def AW (X : XX) (pc : Nat) (ls st : List AV) (M : Mem) : Prop := match X with
  | (V, nL, p, e, R, s, m, args, below, meth, c, cells, slots, A, Q) => okL ls → okL st → okM M → ∀ (H : Heap) (locs : List Loc) (lsC : Array Slot), va_P V.2.1 vwCl (wsOf V M) H → va_S A s.heap H locs → lv_has lsC nL (lvOf V.2.2.2.2.2 0 ls) →
    W p V.1 e R s m args below meth c H locs cells slots Q (F0 m pc lsC (st.map (cv V.2.2.2.2.2)))
def GX (X : XX) (cc : ByteArray) (own : String) : Prop := match X with
  | (V, nL, p, _, _, s, m, _, _, _, c, _, _, A, _) => p.tables.exec = Jvm.exec ∧ c.code = cc ∧ c.maxLocals = nL ∧ s.vm.findClass own = some m.cls ∧ wK V s ∧ ∀ q, wA V q → A q
section AMS
variable {X : XX} {cc : ByteArray} {own : String} {pc : Nat} {ls st : List AV} {M : Mem}
theorem am_le {ls' : List AV} (h : lsub ls' ls) (k : AW X pc ls' st M) : AW X pc ls st M := by
  obtain ⟨V, nL, p, e, R, s, m, args, below, meth, c, cells, slots, A, Q⟩ := X
  intro h1 h2 h3 H locs lsC hP hS hL
  refine k (lsub_ok h h1) h2 h3 H locs lsC hP hS (lv_mono hL fun q hq => ?_)
  obtain ⟨j, v, a1, a2, rfl⟩ := (lvOf_mem _ 0).mp hq
  exact (lvOf_mem _ 0).mpr ⟨j, v, lsub_at h a1 a2, a2, rfl⟩
/-- what is known of the state behind it may be used -/
theorem am_know (k : okL ls → okL st → okM M → AW X pc ls st M) : AW X pc ls st M := by
  obtain ⟨V, nL, p, e, R, s, m, args, below, meth, c, cells, slots, A, Q⟩ := X
  intro h1 h2 h3
  exact k h1 h2 h3 h1 h2 h3
-- constants
theorem am_iconst (G : GX X cc own) {n : Int} (hd : decode cc pc = .ok (.iconst n, 1)) (hn : ir n) (k : AW X (pc + 1) ls ((0, n) :: st) M) : AW X pc ls st M := by
  obtain ⟨V, nL, p, e, R, s, m, args, below, meth, c, cells, slots, A, Q⟩ := X
  intro h1 h2 h3 H locs lsC hP hS hL
  exact lv_iconst G.1 G.2.1 hd rfl (k h1 (okL_cons hn h2) h3 H locs lsC hP hS hL)
theorem am_bipush (G : GX X cc own) {n : Int} (hd : decode cc pc = .ok (.bipush n, 2)) (hn : ir n) (he : (Int8.ofInt n).toInt32 = i32 n) (k : AW X (pc + 2) ls ((0, n) :: st) M) : AW X pc ls st M := by
  obtain ⟨V, nL, p, e, R, s, m, args, below, meth, c, cells, slots, A, Q⟩ := X
  intro h1 h2 h3 H locs lsC hP hS hL
  exact lv_bipush G.1 G.2.1 hd he (k h1 (okL_cons hn h2) h3 H locs lsC hP hS hL)
theorem am_sipush (G : GX X cc own) {n : Int} (hd : decode cc pc = .ok (.sipush n, 3)) (hn : ir n) (he : (Int16.ofInt n).toInt32 = i32 n) (k : AW X (pc + 3) ls ((0, n) :: st) M) : AW X pc ls st M := by
  obtain ⟨V, nL, p, e, R, s, m, args, below, meth, c, cells, slots, A, Q⟩ := X
  intro h1 h2 h3 H locs lsC hP hS hL
  exact lv_sipush G.1 G.2.1 hd he (k h1 (okL_cons hn h2) h3 H locs lsC hP hS hL)
theorem am_lconst (G : GX X cc own) {n : Fin 2} {x : Int} (hd : decode cc pc = .ok (.lconst n, 1)) (hn : lr x) (he : Int64.ofNat (n : Nat) = i64 x) (k : AW X (pc + 1) ls ((1, x) :: st) M) : AW X pc ls st M := by
  obtain ⟨V, nL, p, e, R, s, m, args, below, meth, c, cells, slots, A, Q⟩ := X
  intro h1 h2 h3 H locs lsC hP hS hL
  exact lv_lconst G.1 G.2.1 hd he (k h1 (okL_cons hn h2) h3 H locs lsC hP hS hL)
theorem am_ldc (G : GX X cc own) {idx : Nat} {v : Int32} {n : Int} (hw : Cond.constant own idx v ∈ lw_tbl) (hd : decode cc pc = .ok (.ldc idx, 2)) (hn : ir n) (he : v = i32 n) (k : AW X (pc + 2) ls ((0, n) :: st) M) : AW X pc ls st M := by
  obtain ⟨V, nL, p, e, R, s, m, args, below, meth, c, cells, slots, A, Q⟩ := X
  intro h1 h2 h3 H locs lsC hP hS hL
  subst he
  exact lv_ldc G.1 G.2.1 G.2.2.2.1 (G.2.2.2.2.1.2.use args _ hw rfl) hd (k h1 (okL_cons hn h2) h3 H locs lsC hP hS hL)
theorem am_ldcw (G : GX X cc own) {idx : Nat} {v : Int32} {n : Int} (hw : Cond.constant own idx v ∈ lw_tbl) (hd : decode cc pc = .ok (.ldc_w idx, 3)) (hn : ir n) (he : v = i32 n) (k : AW X (pc + 3) ls ((0, n) :: st) M) : AW X pc ls st M := by
  obtain ⟨V, nL, p, e, R, s, m, args, below, meth, c, cells, slots, A, Q⟩ := X
  intro h1 h2 h3 H locs lsC hP hS hL
  subst he
  exact lv_ldcw G.1 G.2.1 G.2.2.2.1 (G.2.2.2.2.1.2.use args _ hw rfl) hd (k h1 (okL_cons hn h2) h3 H locs lsC hP hS hL)
theorem am_ldc2 (G : GX X cc own) {idx : Nat} {v : Int64} {n : Int} (hw : Cond.constantLong own idx v ∈ lw_tbl) (hd : decode cc pc = .ok (.ldc2_w idx, 3)) (hn : lr n) (he : v = i64 n) (k : AW X (pc + 3) ls ((1, n) :: st) M) : AW X pc ls st M := by
  obtain ⟨V, nL, p, e, R, s, m, args, below, meth, c, cells, slots, A, Q⟩ := X
  intro h1 h2 h3 H locs lsC hP hS hL
  subst he
  exact lv_ldc2 G.1 G.2.1 G.2.2.2.1 (G.2.2.2.2.1.2.use args _ hw rfl) hd (k h1 (okL_cons hn h2) h3 H locs lsC hP hS hL)
theorem am_null (G : GX X cc own) (hd : decode cc pc = .ok (.aconst_null, 1)) (k : AW X (pc + 1) ls ((30017, -1) :: st) M) : AW X pc ls st M := by
  obtain ⟨V, nL, p, e, R, s, m, args, below, meth, c, cells, slots, A, Q⟩ := X
  intro h1 h2 h3 H locs lsC hP hS hL
  exact lv_null G.1 G.2.1 hd (k h1 (okL_cons (show vok (30017, -1) from Or.inl rfl) h2) h3 H locs lsC hP hS hL)
-- loads and stores of locals
theorem am_iload (G : GX X cc own) {i : Nat} {x : Int} (hd : decode cc pc = .ok (.iload i, 2)) (h : ls[i]? = some (0, x)) (k : AW X (pc + 2) ls ((0, x) :: st) M) : AW X pc ls st M := by
  obtain ⟨V, nL, p, e, R, s, m, args, below, meth, c, cells, slots, A, Q⟩ := X
  intro h1 h2 h3 H locs lsC hP hS hL
  exact lv_iload G.1 G.2.1 hd (lvOf_at hL h rfl) (k h1 (okL_cons (okL_at h1 h) h2) h3 H locs lsC hP hS hL)
theorem am_iload_n (G : GX X cc own) {f : Fin 4} {i : Nat} {x : Int} (hd : decode cc pc = .ok (.iload_n f, 1)) (hi : (f : Nat) = i) (h : ls[i]? = some (0, x)) (k : AW X (pc + 1) ls ((0, x) :: st) M) : AW X pc ls st M := by
  obtain ⟨V, nL, p, e, R, s, m, args, below, meth, c, cells, slots, A, Q⟩ := X
  intro h1 h2 h3 H locs lsC hP hS hL
  exact lv_iload_n G.1 G.2.1 hd hi (lvOf_at hL h rfl) (k h1 (okL_cons (okL_at h1 h) h2) h3 H locs lsC hP hS hL)
theorem am_lload (G : GX X cc own) {i : Nat} {x : Int} (hd : decode cc pc = .ok (.lload i, 2)) (h : ls[i]? = some (1, x)) (k : AW X (pc + 2) ls ((1, x) :: st) M) : AW X pc ls st M := by
  obtain ⟨V, nL, p, e, R, s, m, args, below, meth, c, cells, slots, A, Q⟩ := X
  intro h1 h2 h3 H locs lsC hP hS hL
  exact lv_lload G.1 G.2.1 hd (lvOf_at hL h rfl) (k h1 (okL_cons (okL_at h1 h) h2) h3 H locs lsC hP hS hL)
theorem am_lload_n (G : GX X cc own) {f : Fin 4} {i : Nat} {x : Int} (hd : decode cc pc = .ok (.lload_n f, 1)) (hi : (f : Nat) = i) (h : ls[i]? = some (1, x)) (k : AW X (pc + 1) ls ((1, x) :: st) M) : AW X pc ls st M := by
  obtain ⟨V, nL, p, e, R, s, m, args, below, meth, c, cells, slots, A, Q⟩ := X
  intro h1 h2 h3 H locs lsC hP hS hL
  exact lv_lload_n G.1 G.2.1 hd hi (lvOf_at hL h rfl) (k h1 (okL_cons (okL_at h1 h) h2) h3 H locs lsC hP hS hL)
theorem cv_ref {s0 t : Nat} {x : Int} (h : 0 ≤ x) : cv s0 (t + 3, x) = .ref (s0 + x.toNat) := by
  show (if x < 0 then Value.null else Value.ref (s0 + x.toNat)) = _
  rw [if_neg (by omega)]
theorem cv_nul {s0 t : Nat} {x : Int} (h : x < 0) : cv s0 (t + 3, x) = .null := by
  show (if x < 0 then Value.null else Value.ref (s0 + x.toNat)) = _
  rw [if_pos h]
theorem am_aloadA (G : GX X cc own) {f : Fin 4} {i : Nat} {x : Int} (hd : decode cc pc = .ok (.aload_n f, 1)) (hi : (f : Nat) = i) (h : ls[i]? = some (2, x)) (k : AW X (pc + 1) ls ((2, x) :: st) M) : AW X pc ls st M := by
  obtain ⟨V, nL, p, e, R, s, m, args, below, meth, c, cells, slots, A, Q⟩ := X
  intro h1 h2 h3 H locs lsC hP hS hL
  exact lv_aload_n G.1 G.2.1 hd hi (lvOf_at hL h rfl) (k h1 (okL_cons trivial h2) h3 H locs lsC hP hS hL)
theorem am_aload (G : GX X cc own) {i t : Nat} {x : Int} (hd : decode cc pc = .ok (.aload i, 2)) (h : ls[i]? = some (t + 3, x)) (hu : uns (t + 3) = false) (k : AW X (pc + 2) ls ((t + 3, x) :: st) M) : AW X pc ls st M := by
  obtain ⟨V, nL, p, e, R, s, m, args, below, meth, c, cells, slots, A, Q⟩ := X
  intro h1 h2 h3 H locs lsC hP hS hL
  have hk := k h1 (okL_cons (okL_at h1 h) h2) h3 H locs lsC hP hS hL
  have ha := lvOf_at hL h hu
  rw [List.map_cons] at hk
  by_cases hx : x < 0
  · rw [cv_nul hx] at ha hk
    exact lv_aloadN G.1 G.2.1 hd ha hk
  · rw [cv_ref (by omega)] at ha hk
    exact lv_aload G.1 G.2.1 hd ha hk
theorem am_aload_n (G : GX X cc own) {f : Fin 4} {i t : Nat} {x : Int} (hd : decode cc pc = .ok (.aload_n f, 1)) (hi : (f : Nat) = i) (h : ls[i]? = some (t + 3, x)) (hu : uns (t + 3) = false) (k : AW X (pc + 1) ls ((t + 3, x) :: st) M) : AW X pc ls st M := by
  obtain ⟨V, nL, p, e, R, s, m, args, below, meth, c, cells, slots, A, Q⟩ := X
  intro h1 h2 h3 H locs lsC hP hS hL
  have hk := k h1 (okL_cons (okL_at h1 h) h2) h3 H locs lsC hP hS hL
  have ha := lvOf_at hL h hu
  rw [List.map_cons] at hk
  by_cases hx : x < 0
  · rw [cv_nul hx] at ha hk
    exact lv_aload_nN G.1 G.2.1 hd hi ha hk
  · rw [cv_ref (by omega)] at ha hk
    exact lv_aload_n G.1 G.2.1 hd hi ha hk
theorem am_nL (k : (match X with | (_, nL, _) => True) → AW X pc ls st M) : AW X pc ls st M := k (by obtain ⟨V, nL, r⟩ := X; trivial)
def nLX (X : XX) : Nat := X.2.1
theorem am_istore (G : GX X cc own) {i : Nat} {x : Int} (hd : decode cc pc = .ok (.istore i, 2)) (hi : i < nLX X) (hn : nolong ls i = true) (k : AW X (pc + 2) (ls.set i (0, x)) st M) : AW X pc ls ((0, x) :: st) M := by
  obtain ⟨V, nL, p, e, R, s, m, args, below, meth, c, cells, slots, A, Q⟩ := X
  intro h1 h2 h3 H locs lsC hP hS hL
  exact lv_istore G.1 G.2.1 hd hL hi rfl (fun ls' hl' => k (okL_set h1 i (okL_hd h2)) (okL_tl h2) h3 H locs ls' hP hS (lvOf_set (v := (0, x)) (fun _ => rfl) hn hl'))
theorem am_istore_n (G : GX X cc own) {f : Fin 4} {i : Nat} {x : Int} (hd : decode cc pc = .ok (.istore_n f, 1)) (hf : (f : Nat) = i) (hi : i < nLX X) (hn : nolong ls i = true) (k : AW X (pc + 1) (ls.set i (0, x)) st M) : AW X pc ls ((0, x) :: st) M := by
  obtain ⟨V, nL, p, e, R, s, m, args, below, meth, c, cells, slots, A, Q⟩ := X
  intro h1 h2 h3 H locs lsC hP hS hL
  exact lv_istore_n G.1 G.2.1 hd hf hL hi rfl (fun ls' hl' => k (okL_set h1 i (okL_hd h2)) (okL_tl h2) h3 H locs ls' hP hS (lvOf_set (v := (0, x)) (fun _ => rfl) hn hl'))
theorem am_lstore (G : GX X cc own) {i : Nat} {x : Int} (hd : decode cc pc = .ok (.lstore i, 2)) (hi : i + 1 < nLX X) (hn : nolong ls i = true) (k : AW X (pc + 2) ((ls.set i (1, x)).set (i + 1) (98, 0)) st M) : AW X pc ls ((1, x) :: st) M := by
  obtain ⟨V, nL, p, e, R, s, m, args, below, meth, c, cells, slots, A, Q⟩ := X
  intro h1 h2 h3 H locs lsC hP hS hL
  exact lv_lstore G.1 G.2.1 hd hL hi rfl (fun ls' hl' => k (okL_set (okL_set h1 i (okL_hd h2)) _ (vok_uns rfl)) (okL_tl h2) h3 H locs ls' hP hS (lvOf_setL (fun _ => rfl) hn hl'))
theorem am_lstore_n (G : GX X cc own) {f : Fin 4} {i : Nat} {x : Int} (hd : decode cc pc = .ok (.lstore_n f, 1)) (hf : (f : Nat) = i) (hi : i + 1 < nLX X) (hn : nolong ls i = true) (k : AW X (pc + 1) ((ls.set i (1, x)).set (i + 1) (98, 0)) st M) : AW X pc ls ((1, x) :: st) M := by
  obtain ⟨V, nL, p, e, R, s, m, args, below, meth, c, cells, slots, A, Q⟩ := X
  intro h1 h2 h3 H locs lsC hP hS hL
  exact lv_lstore_n G.1 G.2.1 hd hf hL hi rfl (fun ls' hl' => k (okL_set (okL_set h1 i (okL_hd h2)) _ (vok_uns rfl)) (okL_tl h2) h3 H locs ls' hP hS (lvOf_setL (fun _ => rfl) hn hl'))
theorem am_astore (G : GX X cc own) {i t : Nat} {x : Int} (hd : decode cc pc = .ok (.astore i, 2)) (hi : i < nLX X) (hn : nolong ls i = true) (k : AW X (pc + 2) (ls.set i (t + 3, x)) st M) : AW X pc ls ((t + 3, x) :: st) M := by
  obtain ⟨V, nL, p, e, R, s, m, args, below, meth, c, cells, slots, A, Q⟩ := X
  intro h1 h2 h3 H locs lsC hP hS hL
  have key : ∀ ls', lv_has ls' nL ((i, cv V.2.2.2.2.2 (t + 3, x)) :: (lvOf V.2.2.2.2.2 0 ls).filter (fun q => !(q.1 == i) && !(q.1 + 1 == i && q.2.category == 2))) → _ := fun ls' hl' => k (okL_set h1 i (okL_hd h2)) (okL_tl h2) h3 H locs ls' hP hS (lvOf_set (v := (t + 3, x)) (fun _ => rfl) hn hl')
  rw [List.map_cons]
  by_cases hx : x < 0
  · rw [cv_nul hx] at key ⊢
    exact lv_astoreN G.1 G.2.1 hd hL hi rfl key
  · rw [cv_ref (by omega)] at key ⊢
    exact lv_astore G.1 G.2.1 hd hL hi rfl key
theorem am_astore_n (G : GX X cc own) {f : Fin 4} {i t : Nat} {x : Int} (hd : decode cc pc = .ok (.astore_n f, 1)) (hf : (f : Nat) = i) (hi : i < nLX X) (hn : nolong ls i = true) (k : AW X (pc + 1) (ls.set i (t + 3, x)) st M) : AW X pc ls ((t + 3, x) :: st) M := by
  obtain ⟨V, nL, p, e, R, s, m, args, below, meth, c, cells, slots, A, Q⟩ := X
  intro h1 h2 h3 H locs lsC hP hS hL
  have key : ∀ ls', lv_has ls' nL ((i, cv V.2.2.2.2.2 (t + 3, x)) :: (lvOf V.2.2.2.2.2 0 ls).filter (fun q => !(q.1 == i) && !(q.1 + 1 == i && q.2.category == 2))) → _ := fun ls' hl' => k (okL_set h1 i (okL_hd h2)) (okL_tl h2) h3 H locs ls' hP hS (lvOf_set (v := (t + 3, x)) (fun _ => rfl) hn hl')
  rw [List.map_cons]
  by_cases hx : x < 0
  · rw [cv_nul hx] at key ⊢
    exact lv_astore_nN G.1 G.2.1 hd hf hL hi rfl key
  · rw [cv_ref (by omega)] at key ⊢
    exact lv_astore_n G.1 G.2.1 hd hf hL hi rfl key
theorem am_iinc (G : GX X cc own) {i : Nat} {n x : Int} (hd : decode cc pc = .ok (.iinc i n, 3)) (h : ls[i]? = some (0, x)) (hi : i < nLX X) (hn : nolong ls i = true) (k : AW X (pc + 3) (ls.set i (0, w32 (x + n))) st M) : AW X pc ls st M := by
  obtain ⟨V, nL, p, e, R, s, m, args, below, meth, c, cells, slots, A, Q⟩ := X
  intro h1 h2 h3 H locs lsC hP hS hL
  have hm : (i, Value.int (i32 x)) ∈ lvOf V.2.2.2.2.2 0 ls := (lvOf_mem _ 0).mpr ⟨i, (0, x), h, rfl, by simp [cv]⟩
  obtain ⟨j, hj⟩ := List.getElem?_of_mem hm
  exact lv_iinc (v := i32 (w32 (x + n))) G.1 G.2.1 hd hL hj (i32_add x n) hi rfl (fun ls' hl' => k (okL_set h1 i (w32_ir _)) h2 h3 H locs ls' hP hS (lvOf_set (v := (0, w32 (x + n))) (fun _ => rfl) hn hl'))
end AMS
