/-! while objects are made: cells by number from s0 on, n of them; C tells what each holds -/
def cup (C : Nat → va_E) (k : Nat) (e : va_E) : Nat → va_E := fun j => if j = k then e else C j
theorem cup_same (C : Nat → va_E) (k : Nat) (e : va_E) : cup C k e k = e := by simp [cup]
theorem cup_ne (C : Nat → va_E) {k j : Nat} (h : j ≠ k) (e : va_E) : cup C k e j = C j := by simp [cup, h]
def wsF (s0 : Nat) (C : Nat → va_E) (n : Nat) : va_W := (List.range n).map (fun k => (s0 + k, C k))
theorem wsF_get (s0 : Nat) (C : Nat → va_E) {n k : Nat} (h : k < n) : (wsF s0 C n)[k]? = some (s0 + k, C k) := by
  unfold wsF
  rw [List.getElem?_map, List.getElem?_range h]; rfl
theorem wsF_len (s0 : Nat) (C : Nat → va_E) (n : Nat) : (wsF s0 C n).length = n := by simp [wsF]
theorem wsF_some {s0 : Nat} {C : Nat → va_E} {n k : Nat} {q : Nat × va_E} (h : (wsF s0 C n)[k]? = some q) : k < n ∧ q = (s0 + k, C k) := by
  have hk : k < n := by rw [← wsF_len s0 C n]; exact (List.getElem?_eq_some_iff.mp h).1
  rw [wsF_get s0 C hk] at h
  exact ⟨hk, (Option.some.inj h).symm⟩
theorem wsF_D (s0 : Nat) (C : Nat → va_E) (n : Nat) {A : Nat → Prop} (hA : ∀ q, s0 ≤ q → A q) : va_D A (wsF s0 C n) := by
  refine ⟨fun i j p q hi hj e => ?_, fun k q hk => ?_⟩
  · obtain ⟨-, rfl⟩ := wsF_some hi
    obtain ⟨-, rfl⟩ := wsF_some hj
    simp only at e; omega
  · obtain ⟨h1, rfl⟩ := wsF_some hk
    exact hA _ (by simp)
theorem wsF_set (s0 : Nat) (C : Nat → va_E) {n k : Nat} (hk : k < n) (e : va_E) : (wsF s0 C n).set k (s0 + k, e) = wsF s0 (cup C k e) n := by
  apply List.ext_getElem?
  intro i
  by_cases hi : i = k
  · subst hi
    rw [List.getElem?_set_self (by rw [wsF_len]; exact hk), wsF_get s0 _ hk, cup_same]
  · rw [List.getElem?_set_ne (Ne.symm hi)]
    by_cases hn : i < n
    · rw [wsF_get s0 _ hn, wsF_get s0 _ hn, cup_ne C hi]
    · rw [List.getElem?_eq_none (by rw [wsF_len]; omega), List.getElem?_eq_none (by rw [wsF_len]; omega)]
theorem wsF_push {D : va_G} {s0 : Nat} {C : Nat → va_E} {n : Nat} {H H1 : Heap} {e : va_E} (hP : va_P D vwCl (wsF s0 C n) H) (o1 : ∀ q, q < s0 + n → H1[q]? = H[q]?) (hnew : va_at D vwCl (s0 + n, e) H1) : va_P D vwCl (wsF s0 (cup C n e) (n + 1)) H1 := by
  intro k q hk
  obtain ⟨h1, rfl⟩ := wsF_some hk
  by_cases h : k = n
  · subst h; rw [cup_same]; exact hnew
  · rw [cup_ne C h]
    exact (hP k _ (wsF_get s0 C (by omega))).kept (o1 _ (by simp only; omega))
theorem wsF_congr {s0 : Nat} {C C' : Nat → va_E} {n : Nat} (h : ∀ k, k < n → C k = C' k) : wsF s0 C n = wsF s0 C' n := by
  unfold wsF
  exact List.map_congr_left fun k hk => by rw [h k (List.mem_range.mp hk)]
def wKc (V : VV) (U : State) : Prop := wK V U ∧ (Cond.arrayClass .int).before #[] U = true ∧ (Cond.arrayClass .long).before #[] U = true ∧ va_AO treeC U
theorem wKc.same {V : VV} {u U : State} (e : u.vm = U.vm) (h : wKc V u) : wKc V U := ⟨h.1.same e, by rw [← h.2.1]; unfold Cond.before Cond.holds Cond.value; rw [e], by rw [← h.2.2.1]; unfold Cond.before Cond.holds Cond.value; rw [e], va_AO.moved (by rw [e]; exact Vm.Alike.refl _) h.2.2.2⟩
theorem wKc.moved {V : VV} {s U : State} (hW : s.WarmedH U.vm) (h : wKc V s) : wKc V U := ⟨h.1.moved hW, word_at (args := #[]) hW (Or.inr ⟨_, rfl⟩) h.2.1, word_at (args := #[]) hW (Or.inr ⟨_, rfl⟩) h.2.2.1, va_AO.moved hW.alike h.2.2.2⟩
def PCc (V : VV) (args : List AV) (C : Nat → va_E) (n : Nat) : Array Value → State → Prop := va_Pc (args.map (cv V.2.2.2.2.2)) (fun U => wKc V U ∧ U.heap.size = V.2.2.2.2.2 + n ∧ va_P V.2.1 vwCl (wsF V.2.2.2.2.2 C n) U.heap)
def QCc (V : VV) (Q : (Nat → va_E) → Nat → Prop) : Array Value → State → Outcome → State → Prop := fun _ st o t =>
  (∃ (C : Nat → va_E) (n : Nat), o = .returned none ∧ Q C n ∧ t.heap.size = V.2.2.2.2.2 + n ∧ va_P V.2.1 vwCl (wsF V.2.2.2.2.2 C n) t.heap) ∧ va_F (fun q => V.2.2.2.2.2 ≤ q) st t
def RunsC (V : VV) (y : MethodName) (w : Cond) (rm : Room) (nc ns : Nat) (args : List AV) (C : Nat → va_E) (n : Nat) (Q : (Nat → va_E) → Nat → Prop) : Prop :=
  Met V.1 y [w] rm (PCc V args C n) (QCc V Q) nc ns (fun q => V.2.2.2.2.2 ≤ q)
def BW (X : XX) (cn sn : Nat) (pc : Nat) (ls st : List AV) (C : Nat → va_E) (n : Nat) : Prop := match X with
  | (V, nL, p, e, R, s, m, args, below, meth, c, cells, slots, A, Q) => ∀ (H : Heap) (locs : List Loc) (lsC : Array Slot), H.size = V.2.2.2.2.2 + n → va_P V.2.1 vwCl (wsF V.2.2.2.2.2 C n) H → va_S A s.heap H locs → lv_has lsC nL (lvOf V.2.2.2.2.2 0 ls) →
    W p V.1 e R s m args below meth c H locs cn sn Q (F0 m pc lsC (st.map (cv V.2.2.2.2.2)))
/-- what holds in a method that makes objects -/
def GC (X : XX) (cc : ByteArray) (own : String) : Prop := match X with
  | (V, nL, p, _, _, s, m, args, _, _, c, _, _, A, _) => p.tables.exec = Jvm.exec ∧ c.code = cc ∧ c.maxLocals = nL ∧ s.vm.findClass own = some m.cls ∧ wKc V s ∧ (∀ q, V.2.2.2.2.2 ≤ q → A q) ∧ V.2.2.2.2.2 ≤ s.heap.size ∧ (Cond.arrayClass .int).before args s = true ∧ (Cond.arrayClass .long).before args s = true
/-- its name, its end -/
def CX (X : XX) (nc ns : Nat) (Q : (Nat → va_E) → Nat → Prop) : Prop := match X with
  | (V, _, _, _, _, s, _, args, below, meth, _, cells, slots, A, Qs) => cells = 0 ∧ slots = 0 ∧ A = (fun q => V.2.2.2.2.2 ≤ q) ∧ Qs = MQ below (QCc V Q) args s nc ns (fun q => V.2.2.2.2.2 ≤ q) ∧ meth.locks = false ∧ meth.sig.returnType = none
def inX (X : XX) : Prop := match X with
  | (_, _, _, _, _, _, _, _, _, meth, _) => meth.name = "<init>"
/-- room for so many more cells and slots -/
def roomC (X : XX) (c s : Nat) : Prop := match X with
  | (_, _, _, _, R, _) => c ≤ R.cells ∧ s ≤ R.slots
theorem roomC.le {X : XX} {c s c' s' : Nat} (h : roomC X c s) (h1 : c' ≤ c) (h2 : s' ≤ s) : roomC X c' s' := by
  obtain ⟨V, nL, p, e, R, s0, m, args, below, meth, c0, cells, slots, A, Q⟩ := X
  exact ⟨Nat.le_trans h1 h.1, Nat.le_trans h2 h.2⟩
section BMS
variable {X : XX} {cc : ByteArray} {own : String} {pc cn sn n : Nat} {ls st : List AV} {C : Nat → va_E}
theorem bm_aload (G : GC X cc own) {f : Fin 4} {i t : Nat} {x : Int} (hd : decode cc pc = .ok (.aload_n f, 1)) (hi : (f : Nat) = i) (h : ls[i]? = some (t + 3, x)) (hu : uns (t + 3) = false) (hx : 0 ≤ x) (k : BW X cn sn (pc + 1) ls ((t + 3, x) :: st) C n) : BW X cn sn pc ls st C n := by
  obtain ⟨V, nL, p, e, R, s, m, args, below, meth, c, cells, slots, A, Q⟩ := X
  intro H locs lsC hz hP hS hL
  have hk := k H locs lsC hz hP hS hL
  have ha := lvOf_at hL h hu
  rw [List.map_cons] at hk
  rw [cv_ref hx] at ha hk
  exact lv_aload_n G.1 G.2.1 hd hi ha hk
theorem bm_iload (G : GC X cc own) {f : Fin 4} {i : Nat} {x : Int} (hd : decode cc pc = .ok (.iload_n f, 1)) (hi : (f : Nat) = i) (h : ls[i]? = some (0, x)) (k : BW X cn sn (pc + 1) ls ((0, x) :: st) C n) : BW X cn sn pc ls st C n := by
  obtain ⟨V, nL, p, e, R, s, m, args, below, meth, c, cells, slots, A, Q⟩ := X
  intro H locs lsC hz hP hS hL
  exact lv_iload_n G.1 G.2.1 hd hi (lvOf_at hL h rfl) (k H locs lsC hz hP hS hL)
theorem bm_istore (G : GC X cc own) {f : Fin 4} {i : Nat} {x : Int} (hd : decode cc pc = .ok (.istore_n f, 1)) (hf : (f : Nat) = i) (hi : i < nLX X) (hn : nolong ls i = true) (k : BW X cn sn (pc + 1) (ls.set i (0, x)) st C n) : BW X cn sn pc ls ((0, x) :: st) C n := by
  obtain ⟨V, nL, p, e, R, s, m, args, below, meth, c, cells, slots, A, Q⟩ := X
  intro H locs lsC hz hP hS hL
  exact lv_istore_n G.1 G.2.1 hd hf hL hi rfl (fun ls' hl' => k H locs ls' hz hP hS (lvOf_set (v := (0, x)) (fun _ => rfl) hn hl'))
theorem bm_iinc (G : GC X cc own) {i : Nat} {d x v : Int} (hd : decode cc pc = .ok (.iinc i d, 3)) (h : ls[i]? = some (0, x)) (hi : i < nLX X) (hn : nolong ls i = true) (hv : i32 x + Int32.ofInt d = i32 v) (k : BW X cn sn (pc + 3) (ls.set i (0, v)) st C n) : BW X cn sn pc ls st C n := by
  obtain ⟨V, nL, p, e, R, s, m, args, below, meth, c, cells, slots, A, Q⟩ := X
  intro H locs lsC hz hP hS hL
  have hm : (i, Value.int (i32 x)) ∈ lvOf V.2.2.2.2.2 0 ls := (lvOf_mem _ 0).mpr ⟨i, (0, x), h, rfl, by simp [cv]⟩
  obtain ⟨j, hj⟩ := List.getElem?_of_mem hm
  exact lv_iinc (v := i32 v) G.1 G.2.1 hd hL hj hv hi rfl (fun ls' hl' => k H locs ls' hz hP hS (lvOf_set (v := (0, v)) (fun _ => rfl) hn hl'))
theorem bm_iconst (G : GC X cc own) {x : Int} (hd : decode cc pc = .ok (.iconst x, 1)) (k : BW X cn sn (pc + 1) ls ((0, x) :: st) C n) : BW X cn sn pc ls st C n := by
  obtain ⟨V, nL, p, e, R, s, m, args, below, meth, c, cells, slots, A, Q⟩ := X
  intro H locs lsC hz hP hS hL
  exact lv_iconst G.1 G.2.1 hd rfl (k H locs lsC hz hP hS hL)
theorem bm_bipush (G : GC X cc own) {x : Int} (hd : decode cc pc = .ok (.bipush x, 2)) (he : (Int8.ofInt x).toInt32 = i32 x) (k : BW X cn sn (pc + 2) ls ((0, x) :: st) C n) : BW X cn sn pc ls st C n := by
  obtain ⟨V, nL, p, e, R, s, m, args, below, meth, c, cells, slots, A, Q⟩ := X
  intro H locs lsC hz hP hS hL
  exact lv_bipush G.1 G.2.1 hd he (k H locs lsC hz hP hS hL)
theorem bm_sipush (G : GC X cc own) {x : Int} (hd : decode cc pc = .ok (.sipush x, 3)) (he : (Int16.ofInt x).toInt32 = i32 x) (k : BW X cn sn (pc + 3) ls ((0, x) :: st) C n) : BW X cn sn pc ls st C n := by
  obtain ⟨V, nL, p, e, R, s, m, args, below, meth, c, cells, slots, A, Q⟩ := X
  intro H locs lsC hz hP hS hL
  exact lv_sipush G.1 G.2.1 hd he (k H locs lsC hz hP hS hL)
theorem bm_dup (G : GC X cc own) {v : AV} (hd : decode cc pc = .ok (.dup, 1)) (hv : v.1 ≠ 1) (k : BW X cn sn (pc + 1) ls (v :: v :: st) C n) : BW X cn sn pc ls (v :: st) C n := by
  obtain ⟨V, nL, p, e, R, s, m, args, below, meth, c, cells, slots, A, Q⟩ := X
  intro H locs lsC hz hP hS hL
  exact lv_dup G.1 G.2.1 hd (cv_cat _ hv) (k H locs lsC hz hP hS hL)
theorem bm_goto (G : GC X cc own) {off : Int} (tgt : Nat) (hd : decode cc pc = .ok (.goto off, 3)) (ht : (pc : Int) + off = (tgt : Int)) (k : BW X cn sn tgt ls st C n) : BW X cn sn pc ls st C n := by
  obtain ⟨V, nL, p, e, R, s, m, args, below, meth, c, cells, slots, A, Q⟩ := X
  intro H locs lsC hz hP hS hL
  exact lv_goto G.1 G.2.1 hd ht (k H locs lsC hz hP hS hL)
theorem bm_get (G : GC X cc own) {off : Int} {a b : Int} (tgt : Nat) (hd : decode cc pc = .ok (.if_icmp .ge off, 3)) (ht : (pc : Int) + off = (tgt : Int)) (hc : i32 b ≤ i32 a) (k : BW X cn sn tgt ls st C n) : BW X cn sn pc ls ((0, b) :: (0, a) :: st) C n := by
  obtain ⟨V, nL, p, e, R, s, m, args, below, meth, c, cells, slots, A, Q⟩ := X
  intro H locs lsC hz hP hS hL
  exact lv_icmp_ge G.1 G.2.1 hd ht (fun _ => k H locs lsC hz hP hS hL) (fun h => absurd hc h)
theorem bm_gen (G : GC X cc own) {off : Int} {a b : Int} (tgt : Nat) (hd : decode cc pc = .ok (.if_icmp .ge off, 3)) (ht : (pc : Int) + off = (tgt : Int)) (hc : ¬ i32 b ≤ i32 a) (k : BW X cn sn (pc + 3) ls st C n) : BW X cn sn pc ls ((0, b) :: (0, a) :: st) C n := by
  obtain ⟨V, nL, p, e, R, s, m, args, below, meth, c, cells, slots, A, Q⟩ := X
  intro H locs lsC hz hP hS hL
  exact lv_icmp_ge G.1 G.2.1 hd ht (fun h => absurd h hc) (fun _ => k H locs lsC hz hP hS hL)
theorem bm_new (G : GC X cc own) (ci : Nat) {idx : Nat} {Cn : String} {T : u_T} {N : Nat} (ty : Nat → FieldType) {fs : List Value} (hd : decode cc pc = .ok (.new idx, 3)) (hc : vwCl[ci]? = some (Cn, T, N)) (hin : ∀ w ∈ u_ws Cn T N, w ∈ lw_tbl) (hty : ∀ k, k < N → parseFieldDescriptor (T k).2.2.1 = some (ty k)) (hfs : ∀ j, j < N → defaultValue (ty j) = vp_V fs j)
    (hl : Cond.classLink own idx Cn ∈ lw_tbl) (hi : Cond.instantiable Cn N ∈ lw_tbl) (hz : Cond.initialized Cn ∈ lw_tbl) (hr : roomC X (cn + 1) (sn + N)) (k : BW X (cn + 1) (sn + N) (pc + 3) ls ((7 + ci + 3, (n : Int)) :: st) (cup C n (.inr (ci, fs))) (n + 1)) : BW X cn sn pc ls st C n := by
  obtain ⟨V, nL, p, e, R, s, m, args, below, meth, c, cells, slots, A, Q⟩ := X
  intro H locs lsC hz' hP hS hL
  obtain ⟨hx, hb, hml, hown, hK, hA, hs0, -, -⟩ := G
  have u := hK.1.2.use args
  have hts : ∀ w ∈ u_ws Cn T N, w.before args s = true := fun w h => u w (hin w h) (u_ws_g w h)
  have hKn := hK.1.1.1 ci _ hc
  refine W.newcK hx hb hown (u _ hl rfl) (u _ hi rfl) (u _ hz rfl) rfl hd hr.1 hr.2 hKn.2.1 hz' fun H1 kC hkC e1 z1 o1 => ?_
  have hk := k H1 locs lsC (by rw [z1]; omega) (wsF_push hP (fun q hq => o1 q hq) ⟨_, hc, (u_born ty hts (fun _ h => h) hKn hkC e1 hty).to hfs⟩)
    ⟨Nat.le_trans hS.1 (by omega), fun x h1 h2 => (o1 x (by have := hS.1; omega)).trans (hS.2.1 x h1 h2), hS.2.2⟩ hL
  rw [List.map_cons, cv_ref (by omega), Int.toNat_natCast] at hk
  exact hk
theorem bm_newi (G : GC X cc own) (N : Nat) (hd : decode cc pc = .ok (.newarray .int, 2)) (hN : N ≤ 65536) (hr : roomC X (cn + 1) (sn + N)) (k : BW X (cn + 1) (sn + N) (pc + 2) ls ((97 + N + 3, (n : Int)) :: st) (cup C n (.inl ((vX X).2.2.1, N, .inl (fun _ => 0)))) (n + 1)) : BW X cn sn pc ls ((0, (N : Int)) :: st) C n := by
  obtain ⟨V, nL, p, e, R, s, m, args, below, meth, c, cells, slots, A, Q⟩ := X
  intro H locs lsC hz' hP hS hL
  obtain ⟨hx, hb, hml, hown, hK, hA, hs0, hi, hlg⟩ := G
  have hNi : (i32 (N : Int)).toInt = N := i32_of ⟨by omega, by omega⟩
  refine va_newaK hx hb (atype := .int) hi rfl hd (N := N) rfl (fun h => ?_) ?_ ?_ hr.1 hr.2 hz' fun H1 cA e1 z1 o1 hAr hNm => ?_
  · have h9 : ¬ (N : Int) < 0 := by omega
    exact h9 ((i32_lt ⟨by omega, by omega⟩ ir0).mp h)
  · show (i32 (N : Int)).toInt.toNat = N
    rw [hNi]; omega
  · show N * 4 ≤ 536870912
    omega
  · have hcI : cA = V.2.2.1 := by
      have h1 : s.vm.findClass ("[" ++ (FieldType.int).toString) = some V.2.2.1 := (hK.1.1.2 0 _ rfl).2
      exact Option.some.inj (hNm.symm.trans h1)
    subst hcI
    have hk := k H1 locs lsC (by rw [z1]; omega) (wsF_push hP (fun q hq => o1 q hq) (show H1[V.2.2.2.2.2 + n]? = some (vp_cell V.2.2.1 (N, .inl (fun _ => 0))) from e1))
      ⟨Nat.le_trans hS.1 (by omega), fun x h1 h2 => (o1 x (by have := hS.1; omega)).trans (hS.2.1 x h1 h2), hS.2.2⟩ hL
    rw [List.map_cons, cv_ref (by omega), Int.toNat_natCast] at hk
    exact hk
theorem bm_newl (G : GC X cc own) (N : Nat) (hd : decode cc pc = .ok (.newarray .long, 2)) (hN : N ≤ 65536) (hr : roomC X (cn + 1) (sn + N)) (k : BW X (cn + 1) (sn + N) (pc + 2) ls ((9997 + N + 3, (n : Int)) :: st) (cup C n (.inl ((vX X).2.2.2.1, N, .inr (.inl (fun _ => 0))))) (n + 1)) : BW X cn sn pc ls ((0, (N : Int)) :: st) C n := by
  obtain ⟨V, nL, p, e, R, s, m, args, below, meth, c, cells, slots, A, Q⟩ := X
  intro H locs lsC hz' hP hS hL
  obtain ⟨hx, hb, hml, hown, hK, hA, hs0, hi, hlg⟩ := G
  have hNi : (i32 (N : Int)).toInt = N := i32_of ⟨by omega, by omega⟩
  refine va_newaK hx hb (atype := .long) hlg rfl hd (N := N) rfl (fun h => ?_) ?_ ?_ hr.1 hr.2 hz' fun H1 cA e1 z1 o1 hAr hNm => ?_
  · have h9 : ¬ (N : Int) < 0 := by omega
    exact h9 ((i32_lt ⟨by omega, by omega⟩ ir0).mp h)
  · show (i32 (N : Int)).toInt.toNat = N
    rw [hNi]; omega
  · show N * 8 ≤ 536870912
    omega
  · have hcI : cA = V.2.2.2.1 := by
      have h1 : s.vm.findClass ("[" ++ (FieldType.long).toString) = some V.2.2.2.1 := (hK.1.1.2 1 _ rfl).2
      exact Option.some.inj (hNm.symm.trans h1)
    subst hcI
    have hk := k H1 locs lsC (by rw [z1]; omega) (wsF_push hP (fun q hq => o1 q hq) (show H1[V.2.2.2.2.2 + n]? = some (vp_cell V.2.2.2.1 (N, .inr (.inl (fun _ => 0)))) from e1))
      ⟨Nat.le_trans hS.1 (by omega), fun x h1 h2 => (o1 x (by have := hS.1; omega)).trans (hS.2.1 x h1 h2), hS.2.2⟩ hL
    rw [List.map_cons, cv_ref (by omega), Int.toNat_natCast] at hk
    exact hk
theorem bm_newt (G : GC X cc own) (N : Nat) {idx t : Nat} (hd : decode cc pc = .ok (.anewarray idx, 3)) (hl : Cond.classLink own idx treeC ∈ lw_tbl) (hN : N ≤ 65536) (hr : roomC X (cn + 1) (sn + N)) (k : BW X (cn + 1) (sn + N) (pc + 3) ls ((t + 3, (n : Int)) :: st) (cup C n (.inl ((vX X).2.2.2.2.1, N, .inr (.inr (.inr (.inr (fun _ => none))))))) (n + 1)) : BW X cn sn pc ls ((0, (N : Int)) :: st) C n := by
  obtain ⟨V, nL, p, e, R, s, m, args, below, meth, c, cells, slots, A, Q⟩ := X
  intro H locs lsC hz' hP hS hL
  obtain ⟨hx, hb, hml, hown, hK, hA, hs0, hi, hlg⟩ := G
  have u := hK.1.2.use args
  have hNi : (i32 (N : Int)).toInt = N := i32_of ⟨by omega, by omega⟩
  have hcl : (i32 (N : Int)).toNatClampNeg = N := by show (i32 (N : Int)).toInt.toNat = N; rw [hNi]; omega
  refine W.anew (C := treeC) hx hb hown (u _ hl rfl) (va_AO.use hK.2.2.2) rfl hd rfl (fun h => ?_) ?_ hr.1 (by rw [hcl]; exact hr.2) fun cA kA comp f1 f2 f3 f4 => ?_
  · have h9 : ¬ (N : Int) < 0 := by omega
    exact h9 ((i32_lt ⟨by omega, by omega⟩ ir0).mp h)
  · rw [hcl]; omega
  · have hcI : cA = V.2.2.2.2.1 := by
      obtain ⟨kA', comp', -, -, -, h1⟩ := (hK.1.1.2 2 _ rfl).2
      exact Option.some.inj (f1.symm.trans h1)
    subst hcI
    rw [hcl, hz']
    generalize hH1 : H.push ({ cls := V.2.2.2.2.1, slots := Array.replicate N .null, vm := .none } : Cell) = H1
    have z1 : H1.size = H.size + 1 := by rw [← hH1, Array.size_push]
    have e1 : H1[V.2.2.2.2.2 + n]? = some (arrV V.2.2.2.2.1 N (fun _ => .null)) := by rw [← hH1, ← hz', Array.getElem?_push_size, ← arrV_new]
    have o1 : ∀ q : Nat, q < V.2.2.2.2.2 + n → H1[q]? = H[q]? := fun q hq => by rw [← hH1, Array.getElem?_push, if_neg (by omega)]
    have hk := k H1 locs lsC (by rw [z1]; omega) (wsF_push hP (fun q hq => o1 q hq) (show H1[V.2.2.2.2.2 + n]? = some (vp_cell V.2.2.2.2.1 (N, .inr (.inr (.inr (.inr (fun _ => none)))))) from e1))
      ⟨Nat.le_trans hS.1 (by omega), fun x h1 h2 => (o1 x (by have := hS.1; omega)).trans (hS.2.1 x h1 h2), hS.2.2⟩ hL
    rw [List.map_cons, cv_ref (by omega), Int.toNat_natCast] at hk
    exact hk
theorem bm_putR (G : GC X cc own) (hN : inX X) (ci j : Nat) {idx t o q : Nat} {Cn : String} {T : u_T} {N : Nat} {ty0 : Nat → FieldType} {fs : List Value} (hd : decode cc pc = .ok (.putfield idx, 3)) (hc : vwCl[ci]? = some (Cn, T, N)) (hin : ∀ w ∈ u_ws Cn T N, w ∈ lw_tbl) (hty : ∀ k, k < N → parseFieldDescriptor (T k).2.2.1 = some (ty0 k)) (hnm : ∀ a, a < N → ∀ b, b < N → a ≠ b → (T a).2.1 ≠ (T b).2.1)
    (hj : j < N) (hw : Cond.fieldLink own idx Cn (T j).2.1 (T j).2.2.1 ∈ lw_tbl) (hT : (T j).1 = Cn) (hown : Cn = own) (hfin : (T j).2.2.2 = true) (ho : o < n) (hC : C o = .inr (ci, fs)) (hlen : j < fs.length) (hn : ∀ a, narrow (ty0 j) (.ref a) = .ref a) (hfit : ∀ a, fits (ty0 j) (.ref a) = true)
    (k : BW X cn sn (pc + 3) ls st (cup C o (.inr (ci, fs.set j (.ref ((vX X).2.2.2.2.2 + q))))) n) : BW X cn sn pc ls ((t + 3, (q : Int)) :: (7 + ci + 3, (o : Int)) :: st) C n := by
  obtain ⟨V, nL, p, e, R, s, m, args, below, meth, c, cells, slots, A, Q⟩ := X
  intro H locs lsC hz' hP hS hL
  obtain ⟨hx, hb, hml, how, hK, hA, hs0, hi, hlg⟩ := G
  have u := hK.1.2.use args
  simp only [List.map_cons]
  rw [cv_ref (by omega), cv_ref (by omega)]
  rw [Int.toNat_natCast, Int.toNat_natCast]
  have hts : ∀ w ∈ u_ws Cn T N, w.before args s = true := fun w h => u w (hin w h) (u_ws_g w h)
  have he := wsF_get V.2.2.2.2.2 C ho
  rw [hC] at he
  have hap := va_apart (own := own) hts (fun _ h => h) ty0 hty hnm hK.1.1 hc
  obtain ⟨r, h1, cell, q1, q2, q3, q4⟩ := hP o _ he
  have hr : r = (Cn, T, N) := Option.some.inj (h1.symm.trans hc)
  subst hr
  obtain ⟨hSl, hfc, kC, hkC, hkind⟩ := hK.1.1.1 ci _ hc
  obtain ⟨cf, kf, fi, f, hfi, hsl⟩ := hSl j hj
  have hlay := hts _ (u_in_lay hj)
  unfold u_lay at hlay
  rw [if_pos hfin] at hlay
  have hst := (u_facts hfc hkC (u_lays hts (fun _ h => h) hj) hfi).1
  have hcf : m.cls = cf := by
    obtain ⟨_, _, c', _, _, _, -, -, hf', -, -, -, hown2, -⟩ := Cond.laysFinal_spec hlay
    have e1 : c' = cf := by have := hfi.symm.trans hf'; simp at this; exact this.1.symm
    rw [hT, hown] at hown2
    rw [← e1]; exact Option.some.inj (how.symm.trans hown2)
  have h6 := u_fits hfc hkC hkind (Or.inr hlay) hfi (hty j hj) (hn (V.2.2.2.2.2 + q)) (hfit (V.2.2.2.2.2 + q))
  refine W.putFinK hx hb how (u _ hw rfl) (by rw [← hT]; exact hfi) hst hcf hN (by rw [q2]; exact h6) q1 q3 (by rw [hsl]; exact k2_hasslot (q4 j hj)) rfl rfl hd fun H' e1 e2 e3 => ?_
  rw [hsl] at e1 ⊢
  have hD : va_D A (wsF V.2.2.2.2.2 C n) := wsF_D _ _ _ hA
  refine k H' _ lsC (by rw [e2]; exact hz') ?_ (hS.put e2 e3 (hD.2 o _ he)) hL
  rw [← wsF_set _ _ ho]
  exact hP.set hD he ⟨_, hc, t_OB.to (V := updV (vp_V fs) j (.ref (V.2.2.2.2.2 + q))) ⟨_, e1, q2, q3, t_set q4 hap hj _⟩ (fun i _ => vp_updV_set hlen _ i)⟩ e3
theorem bm_puti (G : GC X cc own) (ci j : Nat) {idx o : Nat} {x : Int} {Cn : String} {T : u_T} {N : Nat} {ty0 : Nat → FieldType} {fs : List Value} (hd : decode cc pc = .ok (.putfield idx, 3)) (hc : vwCl[ci]? = some (Cn, T, N)) (hin : ∀ w ∈ u_ws Cn T N, w ∈ lw_tbl) (hty : ∀ k, k < N → parseFieldDescriptor (T k).2.2.1 = some (ty0 k)) (hnm : ∀ a, a < N → ∀ b, b < N → a ≠ b → (T a).2.1 ≠ (T b).2.1)
    (hj : j < N) (hw : Cond.fieldLink own idx Cn (T j).2.1 (T j).2.2.1 ∈ lw_tbl) (hT : (T j).1 = Cn) (hfin : (T j).2.2.2 = false) (ho : o < n) (hC : C o = .inr (ci, fs)) (hlen : j < fs.length) (hi : ty0 j = .int)
    (k : BW X cn sn (pc + 3) ls st (cup C o (.inr (ci, fs.set j (.int (i32 x))))) n) : BW X cn sn pc ls ((0, x) :: (7 + ci + 3, (o : Int)) :: st) C n := by
  obtain ⟨V, nL, p, e, R, s, m, args, below, meth, c, cells, slots, A, Q⟩ := X
  intro H locs lsC hz' hP hS hL
  obtain ⟨hx, hb, hml, how, hK, hA, hs0, hi', hlg⟩ := G
  have u := hK.1.2.use args
  simp only [List.map_cons]
  rw [cv_ref (by omega), Int.toNat_natCast]
  have hts : ∀ w ∈ u_ws Cn T N, w.before args s = true := fun w h => u w (hin w h) (u_ws_g w h)
  have he := wsF_get V.2.2.2.2.2 C ho
  rw [hC] at he
  have hap := va_apart (own := own) hts (fun _ h => h) ty0 hty hnm hK.1.1 hc
  obtain ⟨r, h1, cell, q1, q2, q3, q4⟩ := hP o _ he
  have hr : r = (Cn, T, N) := Option.some.inj (h1.symm.trans hc)
  subst hr
  obtain ⟨hSl, hfc, kC, hkC, hkind⟩ := hK.1.1.1 ci _ hc
  obtain ⟨cf, kf, fi, f, hfi, hsl⟩ := hSl j hj
  have hlay := hts _ (u_in_lay hj)
  unfold u_lay at hlay
  rw [if_neg (by rw [hfin]; decide)] at hlay
  have hst := (u_facts hfc hkC (u_lays hts (fun _ h => h) hj) hfi).1
  have h6 := u_store hfc hkC hkind hlay hfi (ty := .int) (by rw [hty j hj, hi]) (v := .int (i32 x)) rfl rfl
  refine W.putK hx hb (f := f) ⟨how, u _ hw rfl, ⟨_, _, _, by rw [← hT]; exact hfi⟩, hst⟩ (by rw [q2]; exact h6) q1 q3 (by rw [hsl]; exact k2_hasslot (q4 j hj)) rfl rfl hd fun H' e1 e2 e3 => ?_
  rw [hsl] at e1 ⊢
  have hD : va_D A (wsF V.2.2.2.2.2 C n) := wsF_D _ _ _ hA
  refine k H' _ lsC (by rw [e2]; exact hz') ?_ (hS.put e2 e3 (hD.2 o _ he)) hL
  rw [← wsF_set _ _ ho]
  exact hP.set hD he ⟨_, hc, t_OB.to (V := updV (vp_V fs) j (.int (i32 x))) ⟨_, e1, q2, q3, t_set q4 hap hj _⟩ (fun i _ => vp_updV_set hlen _ i)⟩ e3
theorem bm_getr (G : GC X cc own) (ci j : Nat) {idx t o q : Nat} {Cn : String} {T : u_T} {N : Nat} {fs : List Value} (hd : decode cc pc = .ok (.getfield idx, 3)) (hc : vwCl[ci]? = some (Cn, T, N)) (hin : ∀ w ∈ u_ws Cn T N, w ∈ lw_tbl) (hj : j < N) (hw : Cond.fieldLink own idx Cn (T j).2.1 (T j).2.2.1 ∈ lw_tbl) (hT : (T j).1 = Cn) (ho : o < n) (hC : C o = .inr (ci, fs)) (hv : fs[j]? = some (.ref ((vX X).2.2.2.2.2 + q)))
    (k : BW X cn sn (pc + 3) ls ((t + 3, (q : Int)) :: st) C n) : BW X cn sn pc ls ((7 + ci + 3, (o : Int)) :: st) C n := by
  obtain ⟨V, nL, p, e, R, s, m, args, below, meth, c, cells, slots, A, Q⟩ := X
  intro H locs lsC hz' hP hS hL
  obtain ⟨hx, hb, hml, how, hK, hA, hs0, hi', hlg⟩ := G
  have u := hK.1.2.use args
  have hk := k H locs lsC hz' hP hS hL
  simp only [List.map_cons] at hk ⊢
  rw [cv_ref (by omega), Int.toNat_natCast] at hk
  rw [cv_ref (by omega), Int.toNat_natCast]
  have he := wsF_get V.2.2.2.2.2 C ho
  rw [hC] at he
  exact va_get hx hb (Ts := u_ws Cn T N) (fun w h => u w (hin w h) (u_ws_g w h)) (fun _ h => h) how hK.1.1 hP o he hc j hj (u _ hw rfl) (fun x hx => by rw [← hT]; exact hx) hv hd hk
theorem bm_iast (G : GC X cc own) {t o N : Nat} {i x : Int} {f : Nat → Int32} (hd : decode cc pc = .ok (.iastore, 1)) (ho : o < n) (hC : C o = .inl ((vX X).2.2.1, N, .inl f)) (hN : N ≤ 65536) (hi : 0 ≤ i ∧ i < N) (k : BW X cn sn (pc + 1) ls st (cup C o (.inl ((vX X).2.2.1, N, .inl (upd f i.toNat (i32 x))))) n) : BW X cn sn pc ls ((0, x) :: (0, i) :: (t + 3, (o : Int)) :: st) C n := by
  obtain ⟨V, nL, p, e, R, s, m, args, below, meth, c, cells, slots, A, Q⟩ := X
  intro H locs lsC hz' hP hS hL
  obtain ⟨hx, hb, hml, how, hK, hA, hs0, hi', hlg⟩ := G
  simp only [List.map_cons]
  rw [cv_ref (by omega), Int.toNat_natCast]
  have he := wsF_get V.2.2.2.2.2 C ho
  rw [hC] at he
  obtain ⟨v1, v2⟩ := vin_ok hi.1 hi.2 hN
  have hD : va_D A (wsF V.2.2.2.2.2 C n) := wsF_D _ _ _ hA
  refine W.iast hx hb (hP o _ he) ((hK.1.1.2 0 _ rfl).1 N (fun j => .int (f j))) (fun q => by cases q) (by show ¬ (i32 i < 0 ∨ (arrV _ _ _).slots.size ≤ _); rw [arrV_size]; exact v1) rfl rfl hd fun H1 e1 e2 e3 => ?_
  refine k H1 _ lsC (by rw [e2]; exact hz') ?_ (hS.put e2 e3 (hD.2 o _ he)) hL
  rw [← wsF_set _ _ ho]
  refine hP.set hD he ?_ e3
  show H1[V.2.2.2.2.2 + o]? = some (vp_cell _ _)
  rw [e1, vp_cell_i, vp_cell_i, arrV_store, v2]
  congr 2
  funext q
  unfold updV upd
  split <;> rfl
theorem bm_aast (G : GC X cc own) (ci : Nat) {t o N q : Nat} {i : Int} {r : vw_C} {vs : List Value} {f : Nat → Option Nat} (hd : decode cc pc = .ok (.aastore, 1)) (ho : o < n) (hC : C o = .inl ((vX X).2.2.2.2.1, N, .inr (.inr (.inr (.inr f))))) (hq : q < n) (hCq : C q = .inr (ci, vs)) (hc : vwCl[ci]? = some r) (hr : r.1 = treeC) (hN : N ≤ 65536) (hi : 0 ≤ i ∧ i < N) (k : BW X cn sn (pc + 1) ls st (cup C o (.inl ((vX X).2.2.2.2.1, N, .inr (.inr (.inr (.inr (va_up f i.toNat (some ((vX X).2.2.2.2.2 + q))))))))) n) : BW X cn sn pc ls ((7 + ci + 3, (q : Int)) :: (0, i) :: (t + 3, (o : Int)) :: st) C n := by
  obtain ⟨V, nL, p, e, R, s, m, args, below, meth, c, cells, slots, A, Q⟩ := X
  intro H locs lsC hz' hP hS hL
  obtain ⟨hx, hb, hml, how, hK, hA, hs0, hi', hlg⟩ := G
  simp only [List.map_cons]
  rw [cv_ref (by omega), cv_ref (by omega), Int.toNat_natCast, Int.toNat_natCast]
  have he := wsF_get V.2.2.2.2.2 C ho
  rw [hC] at he
  have heq := wsF_get V.2.2.2.2.2 C hq
  rw [hCq] at heq
  obtain ⟨v1, v2⟩ := vin_ok hi.1 hi.2 hN
  have hD : va_D A (wsF V.2.2.2.2.2 C n) := wsF_D _ _ _ hA
  have hlt : (i32 i).toNatClampNeg < N := Nat.not_le.mp fun q => v1 (Or.inr q)
  have h0 : ¬ i32 i < 0 := fun q => v1 (Or.inl q)
  obtain ⟨r', hr', cellV, g1, g2, g3, -⟩ := hP q _ heq
  have hcls := (hK.1.1.1 ci r hc).2
  obtain ⟨kA, comp, k1, k2, k3, -⟩ := (hK.1.1.2 2 _ rfl).2
  have hcomp : comp = V.2.1.1 ci := by
    have h1 := hcls.1
    rw [hr] at h1
    exact Option.some.inj (k3.symm.trans h1)
  subst hcomp
  obtain ⟨kC, hkC, -⟩ := hcls.2
  refine W.aast hx hb (hP o _ he) (fun q h => by cases h) (fun h => by cases h) k1 k2 rfl hkC ⟨h0, by show _ < (arrV _ _ _).slots.size; rw [arrV_size]; exact hlt⟩ g1 (fun q h => by rw [g3] at h; cases h) (by rw [g2]; exact hkC) (by rw [g2]; exact va_assign hcls) rfl rfl hd fun H1 e1 e2 e3 => ?_
  refine k H1 _ lsC (by rw [e2]; exact hz') ?_ (hS.put e2 e3 (hD.2 o _ he)) hL
  rw [← wsF_set _ _ ho]
  refine hP.set hD he ?_ e3
  show H1[V.2.2.2.2.2 + o]? = some (vp_cell _ _)
  rw [e1, vp_cell_q, vp_cell_q, arrV_store, v2]
  congr 2
  funext z
  unfold updV va_up
  by_cases hz : z = i.toNat
  · subst hz; simp [va_rf, vX]
  · simp [hz]
theorem bm_obj (G : GC X cc own) {idx t : Nat} {o : Int} (hd : decode cc pc = .ok (.invokespecial idx, 3)) (hl : Cond.methodLink own idx objectInit ∈ lw_tbl) (ho : 0 ≤ o) (hr : 1 ≤ (roomX X).frames ∧ 20 ≤ (roomX X).locals) (hcat : Nat.ble (catB st) 8 = true) (k : BW X cn sn (pc + 3) ls st C n) : BW X cn sn pc ls ((t + 3, o) :: st) C n := by
  obtain ⟨V, nL, p, e, R, s, m, args, below, meth, c, cells, slots, A, Q⟩ := X
  intro H locs lsC hz' hP hS hL
  obtain ⟨hx, hb, hml, how, hK, hA, hs0, hi', hlg⟩ := G
  have u := hK.1.2.use args
  rw [List.map_cons, cv_ref ho]
  have hcs := catB_ok V.2.2.2.2.2 st
  have hc8 := Nat.le_of_ble_eq_true hcat
  have h3 := lv_room (m := m) (pc := pc) (ls := lsC) (rest := Value.ref (V.2.2.2.2.2 + o.toNat) :: st.map (cv V.2.2.2.2.2)) (st := st.map (cv V.2.2.2.2.2)) (by rw [hcs]; exact hc8)
  exact W.objInit hx hb how (u _ hl rfl) (u _ tw_i_objectInit rfl) (u _ tw_c_objectInit rfl) rfl (by rw [hml]; exact hL.1) rfl hd hr.1 (Nat.le_trans (Nat.add_le_add_right h3 12) hr.2) (k H locs lsC hz' hP hS hL)
theorem bm_ret {nc ns : Nat} {Q : (Nat → va_E) → Nat → Prop} (G : GC X cc own) (Z : CX X nc ns Q) (hd : decode cc pc = .ok (.return_, 1)) (hq : Q C n) : BW X nc ns pc ls [] C n := by
  obtain ⟨V, nL, p, e, R, s, m, args, below, meth, c, cells, slots, A, Qs⟩ := X
  obtain ⟨rfl, rfl, rfl, rfl, hlocks, hret⟩ := Z
  intro H locs lsC hz' hP hS hL
  exact W.vret G.1 G.2.1 hret (fun t ht hW => ⟨⟨C, n, rfl, hq, by rw [ht]; exact hz', by rw [ht]; exact hP⟩, hS.F ht⟩) hS.2.2 hd hlocks
end BMS
theorem RunsC.mono {V : VV} {y : MethodName} {w : Cond} {rm : Room} {nc ns : Nat} {args : List AV} {C : Nat → va_E} {n : Nat} {Q Q' : (Nat → va_E) → Nat → Prop} (h : RunsC V y w rm nc ns args C n Q) (hq : ∀ C' n', Q C' n' → Q' C' n') : RunsC V y w rm nc ns args C n Q' := by
  intro p e a1 a2 a3 s m ar below b1 b2 b3 b4
  obtain ⟨k, o, c1, c2, c3, ⟨⟨C', n', d1, d2, d3⟩, d4⟩, c4⟩ := h p e a1 a2 a3 s m ar below b1 b2 b3 b4
  exact ⟨k, o, c1, c2, c3, ⟨⟨C', n', d1, hq C' n' d2, d3⟩, d4⟩, c4⟩
theorem metc_in {V : VV} {y : MethodName} {cc : ByteArray} {maxL : Nat} {rm : Room} {nc ns n : Nat} {args : List AV} {C : Nat → va_E} {Q : (Nat → va_E) → Nat → Prop} {own : String} (hy : plainName y.cls = true) (how : own = y.cls) (hyn : y.name = "<init>") (hlen : (argL args).length ≤ maxL)
    (body : ∀ X : XX, GC X cc own → CX X nc ns Q → inX X → nLX X = maxL → roomX X = rm → vX X = V → BW X 0 0 0 (argL args ++ List.replicate (maxL - (argL args).length) (99, 0)) [] C n) : RunsC V y (.code y cc maxL none) rm nc ns args C n Q := by
  refine Met.ofW (cc := cc) (maxL := maxL) (ret := none) hy rfl ?_
  intro p e s m args' below meth c s₁ B hml hv
  obtain ⟨rfl, hK, hz, hP⟩ := hv
  have hown : s.vm.findClass own = some m.cls := by rw [how]; exact findClass_of_methodNamed B.named
  have hin : meth.name = "<init>" := (name_of_methodNamed B.named B.method).1.trans hyn
  have h := body (V, maxL, p, e, rm, s, m, (args.map (cv V.2.2.2.2.2)).toArray, below, meth, c, 0, 0, (fun q => V.2.2.2.2.2 ≤ q), MQ below (QCc V Q) (args.map (cv V.2.2.2.2.2)).toArray s nc ns (fun q => V.2.2.2.2.2 ≤ q))
    ⟨B.exec, B.bytes, hml, hown, hK, fun _ h => h, by rw [hz]; omega, word_at (args := #[]) (State.WarmedH.refl s) (Or.inr ⟨_, rfl⟩) hK.2.1, word_at (args := #[]) (State.WarmedH.refl s) (Or.inr ⟨_, rfl⟩) hK.2.2.1⟩ ⟨rfl, rfl, rfl, rfl, B.notSynchronized, B.returns⟩ hin rfl rfl rfl
  have hl := lv_entry (args.map (cv V.2.2.2.2.2)) (n := maxL) (by rw [argL_len]; exact hlen)
  rw [lg_entry_eq]
  exact h s.heap [] _ hz hP va_S.rf (lv_mono hl (argL_lv _ args 0 _ (fun v hv => by rw [List.eq_of_mem_replicate hv]; rfl)))
theorem PCc_blind (V : VV) (args : List AV) (C : Nat → va_E) (n : Nat) : FrameBlind (PCc V args C n) := fun a U g mk h => ⟨h.1, wKc.same (u := U) (U := U.calling g mk a) rfl h.2.1, h.2.2⟩
section BMC
variable {X : XX} {cc : ByteArray} {own : String} {pc cn sn n nc ns : Nat} {ls st : List AV} {C : Nat → va_E} {y : MethodName} {bytes : ByteArray} {maxL idx t : Nat} {rmc : Room} {o : Int}
theorem bm_goon {p : Program} {e : Env} {R : Room} {s : State} {m : MethodId} {args : Array Value} {below : List Frame} {meth : Method} {c : Code} {H : Heap} {locs : List Loc} {Qs : State → Prop} {V : VV} {lsC : Array Slot} {st0 rest : List Value} {a : Array Value} {A : Nat → Prop} {Q : (Nat → va_E) → Nat → Prop}
    (hr : va_Run p V.1 e R s m args below meth c H locs cn sn nc ns (F0 m pc lsC st0) rest (QCc V Q a) (fun q => V.2.2.2.2.2 ≤ q)) (hS : va_S A s.heap H locs) (hA : ∀ q, V.2.2.2.2.2 ≤ q → A q)
    (kk : ∀ (C' : Nat → va_E) (n' : Nat) (H1 : Heap) (locs1 : List Loc), Q C' n' → H1.size = V.2.2.2.2.2 + n' → va_P V.2.1 vwCl (wsF V.2.2.2.2.2 C' n') H1 → va_S A s.heap H1 locs1 → W p V.1 e R s m args below meth c H1 locs1 (cn + nc) (sn + ns) Qs (F0 m (pc + 3) lsC rest)) : W p V.1 e R s m args below meth c H locs cn sn Qs (F0 m pc lsC st0) := by
  intro T hT X
  obtain ⟨v, st₀, t, T', L, h0, X', hL, e1, e2, ⟨⟨C', n', hv, hq, hz1, hP⟩, hz, hk⟩, st⟩ := hr T hT X
  cases hv
  rw [h0] at hz hk
  obtain ⟨t2, a1, b1⟩ := kk C' n' T'.heap (locs ++ L) hq (by rw [e1]; exact hz1) (by rw [e1]; exact hP)
    ⟨Nat.le_trans hS.1 (by rw [e1]; exact hz), fun q h1 h2 => by rw [e1, hk q (Nat.lt_of_lt_of_le h1 hS.1) (fun z => h2 (hA q z))]; exact hS.2.1 q h1 h2, fun q hq => by
      rcases List.mem_append.mp hq with h | h
      · exact hS.2.2 q h
      · exact hA _ (hL q h)⟩ T' rfl X'
  exact ⟨t2, st t2 a1, b1⟩
theorem bm_call (G : GC X cc own) (as : List AV) (hyn : y.name = "<init>") (hd : decode cc pc = .ok (.invokespecial idx, 3)) (ho : 0 ≤ o)
    (hl : Cond.methodLink own idx y ∈ lw_tbl) (hi : Cond.instanceMethod y ∈ lw_tbl) (hz : Cond.initialized y.cls ∈ lw_tbl) (hco : Cond.code y bytes maxL none ∈ lw_tbl)
    (hy : y.cls ≠ "java/lang/invoke/MethodHandle" ∧ y.cls ≠ "java/lang/invoke/VarHandle" ∧ (parseMethodDescriptor y.desc).map (fun d => d.parameters.length) = some as.length) (hrm : rmc.cells = nc ∧ rmc.slots = ns ∧ rmc.frames + 1 ≤ (roomX X).frames ∧ 8 + (maxL + 11) + rmc.locals ≤ (roomX X).locals) (hcat : Nat.ble (catB st) 8 = true) (hroom : roomC X (cn + nc) (sn + ns))
    (kk : RunsC (vX X) y (.code y bytes maxL none) rmc nc ns ((t + 3, o) :: as) C n (fun C' n' => BW X (cn + nc) (sn + ns) (pc + 3) ls st C' n')) : BW X cn sn pc ls (as.reverse ++ (t + 3, o) :: st) C n := by
  obtain ⟨V, nL, p, e, R, s, m, args, below, meth, c, cells, slots, A, Qs⟩ := X
  intro H locs lsC hz' hP hS hL
  obtain ⟨hx, hb, hml, hown, hK, hA, -, -, -⟩ := G
  have u := hK.1.2.use args
  refine bm_goon (va_runI (Ts := []) (b := V.2.2.2.2.2 + o.toNat) (As := as.map (cv V.2.2.2.2.2)) (rest := st.map (cv V.2.2.2.2.2)) (n := as.length) (bytes := bytes) (maxL := maxL) (index := idx) ⟨hx, hb, hml, hown, fun _ h => absurd h List.not_mem_nil⟩ kk
    ⟨⟨hrm.1, hrm.2.1, hrm.2.2.1, hrm.2.2.2, code_ws hK.1 hco, List.mem_cons_self, u _ hco rfl, u _ hz rfl, ⟨hy.1, hy.2.1⟩, fun sig h => ?_, u _ hl rfl⟩, hyn, u _ hi rfl⟩
    ⟨PCc_blind V _ C n, fun U hU hW => ⟨by show _ = (cv V.2.2.2.2.2 (t + 3, o) :: as.map (cv V.2.2.2.2.2)).toArray; rw [cv_ref ho], hK.moved hW, by rw [hU]; exact hz', by rw [hU]; exact hP⟩⟩ rfl (by simp) hL.1 (by rw [List.map_append, List.map_cons, cv_ref ho, List.map_reverse]) ?_ hd hroom) hS hA (fun C' n' H1 locs1 hq hz1 hP1 hS1 => ?_)
  · have h2 := hy.2.2
    rw [h] at h2
    exact (Option.some.inj h2).symm
  · exact lv_room (by rw [catB_ok]; exact Nat.le_of_ble_eq_true hcat)
  · exact hq H1 locs1 lsC hz1 hP1 hS1 hL
theorem bm_callN (G : GC X cc own) (as : List AV) {host : String} (hyn : y.name = "<init>") (hd : decode cc pc = .ok (.invokespecial idx, 3)) (ho : 0 ≤ o)
    (hl : Cond.methodLinkNest own idx y host ∈ lw_tbl) (hi : Cond.instanceMethod y ∈ lw_tbl) (hz : Cond.initialized y.cls ∈ lw_tbl) (hco : Cond.code y bytes maxL none ∈ lw_tbl)
    (hy : y.cls ≠ "java/lang/invoke/MethodHandle" ∧ y.cls ≠ "java/lang/invoke/VarHandle" ∧ (parseMethodDescriptor y.desc).map (fun d => d.parameters.length) = some as.length) (hrm : rmc.cells = nc ∧ rmc.slots = ns ∧ rmc.frames + 1 ≤ (roomX X).frames ∧ 8 + (maxL + 11) + rmc.locals ≤ (roomX X).locals) (hcat : Nat.ble (catB st) 8 = true) (hroom : roomC X (cn + nc) (sn + ns))
    (kk : RunsC (vX X) y (.code y bytes maxL none) rmc nc ns ((t + 3, o) :: as) C n (fun C' n' => BW X (cn + nc) (sn + ns) (pc + 3) ls st C' n')) : BW X cn sn pc ls (as.reverse ++ (t + 3, o) :: st) C n := by
  obtain ⟨V, nL, p, e, R, s, m, args, below, meth, c, cells, slots, A, Qs⟩ := X
  intro H locs lsC hz' hP hS hL
  obtain ⟨hx, hb, hml, hown, hK, hA, -, -, -⟩ := G
  have u := hK.1.2.use args
  refine bm_goon (va_runIN (Ts := []) (b := V.2.2.2.2.2 + o.toNat) (As := as.map (cv V.2.2.2.2.2)) (rest := st.map (cv V.2.2.2.2.2)) (n := as.length) (bytes := bytes) (maxL := maxL) (index := idx) (host := host) ⟨hx, hb, hml, hown, fun _ h => absurd h List.not_mem_nil⟩ kk
    ⟨⟨⟨hrm.1, hrm.2.1, hrm.2.2.1, hrm.2.2.2, code_ws hK.1 hco, List.mem_cons_self⟩, u _ hco rfl, u _ hz rfl, ⟨hy.1, hy.2.1⟩, fun sig h => ?_, u _ hl rfl⟩, hyn, u _ hi rfl⟩
    ⟨PCc_blind V _ C n, fun U hU hW => ⟨by show _ = (cv V.2.2.2.2.2 (t + 3, o) :: as.map (cv V.2.2.2.2.2)).toArray; rw [cv_ref ho], hK.moved hW, by rw [hU]; exact hz', by rw [hU]; exact hP⟩⟩ rfl (by simp) hL.1 (by rw [List.map_append, List.map_cons, cv_ref ho, List.map_reverse]) ?_ hd hroom) hS hA (fun C' n' H1 locs1 hq hz1 hP1 hS1 => ?_)
  · have h2 := hy.2.2
    rw [h] at h2
    exact (Option.some.inj h2).symm
  · exact lv_room (by rw [catB_ok]; exact Nat.le_of_ble_eq_true hcat)
  · exact hq H1 locs1 lsC hz1 hP1 hS1 hL
end BMC
