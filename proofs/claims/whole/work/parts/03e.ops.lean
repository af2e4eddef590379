/-! arithmetic, stack, branches -/
section AMO
variable {X : XX} {cc : ByteArray} {own : String} {pc : Nat} {ls st : List AV} {M : Mem}
theorem am_iadd (G : GX X cc own) {a b : Int} (hd : decode cc pc = .ok (.iadd, 1)) (k : AW X (pc + 1) ls ((0, w32 (a + b)) :: st) M) : AW X pc ls ((0, b) :: (0, a) :: st) M := by
  obtain ⟨V, nL, p, e, R, s, m, args, below, meth, c, cells, slots, A, Q⟩ := X
  intro h1 h2 h3 H locs lsC hP hS hL
  have hk := k h1 (okL_cons (w32_ir _) (okL_tl (okL_tl h2))) h3 H locs lsC hP hS hL
  refine lv_iadd G.1 G.2.1 hd ?_
  rw [i32_add]; exact hk
theorem am_isub (G : GX X cc own) {a b : Int} (hd : decode cc pc = .ok (.isub, 1)) (k : AW X (pc + 1) ls ((0, w32 (a - b)) :: st) M) : AW X pc ls ((0, b) :: (0, a) :: st) M := by
  obtain ⟨V, nL, p, e, R, s, m, args, below, meth, c, cells, slots, A, Q⟩ := X
  intro h1 h2 h3 H locs lsC hP hS hL
  have hk := k h1 (okL_cons (w32_ir _) (okL_tl (okL_tl h2))) h3 H locs lsC hP hS hL
  refine lv_isub G.1 G.2.1 hd ?_
  rw [i32_sub]; exact hk
theorem am_imul (G : GX X cc own) {a b : Int} (hd : decode cc pc = .ok (.imul, 1)) (k : AW X (pc + 1) ls ((0, w32 (a * b)) :: st) M) : AW X pc ls ((0, b) :: (0, a) :: st) M := by
  obtain ⟨V, nL, p, e, R, s, m, args, below, meth, c, cells, slots, A, Q⟩ := X
  intro h1 h2 h3 H locs lsC hP hS hL
  have hk := k h1 (okL_cons (w32_ir _) (okL_tl (okL_tl h2))) h3 H locs lsC hP hS hL
  refine lv_imul G.1 G.2.1 hd ?_
  rw [i32_mul]; exact hk
theorem am_iand (G : GX X cc own) {a b : Int} (hd : decode cc pc = .ok (.iand, 1)) (k : AW X (pc + 1) ls ((0, and32 a b) :: st) M) : AW X pc ls ((0, b) :: (0, a) :: st) M := by
  obtain ⟨V, nL, p, e, R, s, m, args, below, meth, c, cells, slots, A, Q⟩ := X
  intro h1 h2 h3 H locs lsC hP hS hL
  have hk := k h1 (okL_cons (ti_ir _) (okL_tl (okL_tl h2))) h3 H locs lsC hP hS hL
  refine lv_iand G.1 G.2.1 hd ?_
  rw [← i32_ti (i32 a &&& i32 b)]; exact hk
theorem am_ior (G : GX X cc own) {a b : Int} (hd : decode cc pc = .ok (.ior, 1)) (k : AW X (pc + 1) ls ((0, or32 a b) :: st) M) : AW X pc ls ((0, b) :: (0, a) :: st) M := by
  obtain ⟨V, nL, p, e, R, s, m, args, below, meth, c, cells, slots, A, Q⟩ := X
  intro h1 h2 h3 H locs lsC hP hS hL
  have hk := k h1 (okL_cons (ti_ir _) (okL_tl (okL_tl h2))) h3 H locs lsC hP hS hL
  refine lv_ior G.1 G.2.1 hd ?_
  rw [← i32_ti (i32 a ||| i32 b)]; exact hk
theorem am_ixor (G : GX X cc own) {a b : Int} (hd : decode cc pc = .ok (.ixor, 1)) (k : AW X (pc + 1) ls ((0, xor32 a b) :: st) M) : AW X pc ls ((0, b) :: (0, a) :: st) M := by
  obtain ⟨V, nL, p, e, R, s, m, args, below, meth, c, cells, slots, A, Q⟩ := X
  intro h1 h2 h3 H locs lsC hP hS hL
  have hk := k h1 (okL_cons (ti_ir _) (okL_tl (okL_tl h2))) h3 H locs lsC hP hS hL
  refine lv_ixor G.1 G.2.1 hd ?_
  rw [← i32_ti (i32 a ^^^ i32 b)]; exact hk
theorem am_ishl (G : GX X cc own) {a b : Int} (hd : decode cc pc = .ok (.ishl, 1)) (k : AW X (pc + 1) ls ((0, shl32 a b) :: st) M) : AW X pc ls ((0, b) :: (0, a) :: st) M := by
  obtain ⟨V, nL, p, e, R, s, m, args, below, meth, c, cells, slots, A, Q⟩ := X
  intro h1 h2 h3 H locs lsC hP hS hL
  have hk := k h1 (okL_cons (ti_ir _) (okL_tl (okL_tl h2))) h3 H locs lsC hP hS hL
  refine lv_ishl G.1 G.2.1 hd ?_
  rw [← i32_ti (i32 a <<< (i32 b &&& 31))]; exact hk
theorem am_ishr (G : GX X cc own) {a b : Int} (hd : decode cc pc = .ok (.ishr, 1)) (k : AW X (pc + 1) ls ((0, shr32 a b) :: st) M) : AW X pc ls ((0, b) :: (0, a) :: st) M := by
  obtain ⟨V, nL, p, e, R, s, m, args, below, meth, c, cells, slots, A, Q⟩ := X
  intro h1 h2 h3 H locs lsC hP hS hL
  have hk := k h1 (okL_cons (ti_ir _) (okL_tl (okL_tl h2))) h3 H locs lsC hP hS hL
  refine lv_ishr G.1 G.2.1 hd ?_
  rw [← i32_ti (i32 a >>> (i32 b &&& 31))]; exact hk
theorem am_iushr (G : GX X cc own) {a b : Int} (hd : decode cc pc = .ok (.iushr, 1)) (k : AW X (pc + 1) ls ((0, ushr32 a b) :: st) M) : AW X pc ls ((0, b) :: (0, a) :: st) M := by
  obtain ⟨V, nL, p, e, R, s, m, args, below, meth, c, cells, slots, A, Q⟩ := X
  intro h1 h2 h3 H locs lsC hP hS hL
  have hk := k h1 (okL_cons (ti_ir _) (okL_tl (okL_tl h2))) h3 H locs lsC hP hS hL
  refine lv_iushr (v := i32 (ushr32 a b)) G.1 G.2.1 hd ?_ hk
  unfold ushr32; rw [i32_ti]
theorem am_idiv (G : GX X cc own) {a b : Int} (hd : decode cc pc = .ok (.idiv, 1)) (hb : b ≠ 0) (k : AW X (pc + 1) ls ((0, div32 a b) :: st) M) : AW X pc ls ((0, b) :: (0, a) :: st) M := by
  obtain ⟨V, nL, p, e, R, s, m, args, below, meth, c, cells, slots, A, Q⟩ := X
  intro h1 h2 h3 H locs lsC hP hS hL
  have hk := k h1 (okL_cons (ti_ir _) (okL_tl (okL_tl h2))) h3 H locs lsC hP hS hL
  refine lv_idiv G.1 G.2.1 hd (fun h => hb ((i32_eq (okL_hd h2) ir0).mp h)) ?_
  rw [← i32_ti (i32 a / i32 b)]; exact hk
theorem am_irem (G : GX X cc own) {a b : Int} (hd : decode cc pc = .ok (.irem, 1)) (hb : b ≠ 0) (k : AW X (pc + 1) ls ((0, rem32 a b) :: st) M) : AW X pc ls ((0, b) :: (0, a) :: st) M := by
  obtain ⟨V, nL, p, e, R, s, m, args, below, meth, c, cells, slots, A, Q⟩ := X
  intro h1 h2 h3 H locs lsC hP hS hL
  have hk := k h1 (okL_cons (ti_ir _) (okL_tl (okL_tl h2))) h3 H locs lsC hP hS hL
  refine lv_irem G.1 G.2.1 hd (fun h => hb ((i32_eq (okL_hd h2) ir0).mp h)) ?_
  rw [← i32_ti (i32 a - i32 a / i32 b * i32 b)]; exact hk
theorem am_ladd (G : GX X cc own) {a b : Int} (hd : decode cc pc = .ok (.ladd, 1)) (k : AW X (pc + 1) ls ((1, w64 (a + b)) :: st) M) : AW X pc ls ((1, b) :: (1, a) :: st) M := by
  obtain ⟨V, nL, p, e, R, s, m, args, below, meth, c, cells, slots, A, Q⟩ := X
  intro h1 h2 h3 H locs lsC hP hS hL
  have hk := k h1 (okL_cons (w64_lr _) (okL_tl (okL_tl h2))) h3 H locs lsC hP hS hL
  refine lv_ladd G.1 G.2.1 hd ?_
  rw [i64_add]; exact hk
theorem am_land (G : GX X cc own) {a b : Int} (hd : decode cc pc = .ok (.land, 1)) (k : AW X (pc + 1) ls ((1, and64 a b) :: st) M) : AW X pc ls ((1, b) :: (1, a) :: st) M := by
  obtain ⟨V, nL, p, e, R, s, m, args, below, meth, c, cells, slots, A, Q⟩ := X
  intro h1 h2 h3 H locs lsC hP hS hL
  have hk := k h1 (okL_cons (ti_lr _) (okL_tl (okL_tl h2))) h3 H locs lsC hP hS hL
  refine lv_land G.1 G.2.1 hd ?_
  rw [← i64_ti (i64 a &&& i64 b)]; exact hk
theorem am_lor (G : GX X cc own) {a b : Int} (hd : decode cc pc = .ok (.lor, 1)) (k : AW X (pc + 1) ls ((1, or64 a b) :: st) M) : AW X pc ls ((1, b) :: (1, a) :: st) M := by
  obtain ⟨V, nL, p, e, R, s, m, args, below, meth, c, cells, slots, A, Q⟩ := X
  intro h1 h2 h3 H locs lsC hP hS hL
  have hk := k h1 (okL_cons (ti_lr _) (okL_tl (okL_tl h2))) h3 H locs lsC hP hS hL
  refine lv_lor G.1 G.2.1 hd ?_
  rw [← i64_ti (i64 a ||| i64 b)]; exact hk
theorem am_lshl (G : GX X cc own) {a b : Int} (hd : decode cc pc = .ok (.lshl, 1)) (k : AW X (pc + 1) ls ((1, shl64 a b) :: st) M) : AW X pc ls ((0, b) :: (1, a) :: st) M := by
  obtain ⟨V, nL, p, e, R, s, m, args, below, meth, c, cells, slots, A, Q⟩ := X
  intro h1 h2 h3 H locs lsC hP hS hL
  have hk := k h1 (okL_cons (ti_lr _) (okL_tl (okL_tl h2))) h3 H locs lsC hP hS hL
  refine lv_lshl (v := i64 (shl64 a b)) G.1 G.2.1 hd ?_ hk
  unfold shl64; rw [i64_ti]
theorem am_lshr (G : GX X cc own) {a b : Int} (hd : decode cc pc = .ok (.lshr, 1)) (k : AW X (pc + 1) ls ((1, shr64 a b) :: st) M) : AW X pc ls ((0, b) :: (1, a) :: st) M := by
  obtain ⟨V, nL, p, e, R, s, m, args, below, meth, c, cells, slots, A, Q⟩ := X
  intro h1 h2 h3 H locs lsC hP hS hL
  have hk := k h1 (okL_cons (ti_lr _) (okL_tl (okL_tl h2))) h3 H locs lsC hP hS hL
  refine lv_lshr (v := i64 (shr64 a b)) G.1 G.2.1 hd ?_ hk
  unfold shr64; rw [i64_ti]
theorem am_i2l (G : GX X cc own) {a : Int} (hd : decode cc pc = .ok (.i2l, 1)) (k : AW X (pc + 1) ls ((1, a) :: st) M) : AW X pc ls ((0, a) :: st) M := by
  obtain ⟨V, nL, p, e, R, s, m, args, below, meth, c, cells, slots, A, Q⟩ := X
  intro h1 h2 h3 H locs lsC hP hS hL
  have ha : ir a := okL_hd h2
  exact lv_i2l (v := i64 a) G.1 G.2.1 hd (i2l_ok ha) (k h1 (okL_cons (show lr a from ⟨by have := ha.1; omega, by have := ha.2; omega⟩) (okL_tl h2)) h3 H locs lsC hP hS hL)
theorem am_l2i (G : GX X cc own) {a : Int} (hd : decode cc pc = .ok (.l2i, 1)) (k : AW X (pc + 1) ls ((0, w32 a) :: st) M) : AW X pc ls ((1, a) :: st) M := by
  obtain ⟨V, nL, p, e, R, s, m, args, below, meth, c, cells, slots, A, Q⟩ := X
  intro h1 h2 h3 H locs lsC hP hS hL
  exact lv_l2i (v := i32 (w32 a)) G.1 G.2.1 hd (l2i_ok (okL_hd h2)) (k h1 (okL_cons (w32_ir _) (okL_tl h2)) h3 H locs lsC hP hS hL)
theorem am_lcmp (G : GX X cc own) {a b : Int} (hd : decode cc pc = .ok (.lcmp, 1)) (k : AW X (pc + 1) ls ((0, cmp64 a b) :: st) M) : AW X pc ls ((1, b) :: (1, a) :: st) M := by
  obtain ⟨V, nL, p, e, R, s, m, args, below, meth, c, cells, slots, A, Q⟩ := X
  intro h1 h2 h3 H locs lsC hP hS hL
  have hk := k h1 (okL_cons (cmp64_ir a b) (okL_tl (okL_tl h2))) h3 H locs lsC hP hS hL
  refine W.lcmp G.1 G.2.1 hd ?_
  rw [cmp64_ok (okL_hd (okL_tl h2)) (okL_hd h2)]; exact hk
theorem am_dup (G : GX X cc own) {v : AV} (hd : decode cc pc = .ok (.dup, 1)) (hv : v.1 ≠ 1) (k : AW X (pc + 1) ls (v :: v :: st) M) : AW X pc ls (v :: st) M := by
  obtain ⟨V, nL, p, e, R, s, m, args, below, meth, c, cells, slots, A, Q⟩ := X
  intro h1 h2 h3 H locs lsC hP hS hL
  exact lv_dup G.1 G.2.1 hd (cv_cat _ hv) (k h1 (okL_cons (okL_hd h2) h2) h3 H locs lsC hP hS hL)
theorem am_dup2 (G : GX X cc own) {v w : AV} (hd : decode cc pc = .ok (.dup2, 1)) (hv : v.1 ≠ 1) (hw : w.1 ≠ 1) (k : AW X (pc + 1) ls (v :: w :: v :: w :: st) M) : AW X pc ls (v :: w :: st) M := by
  obtain ⟨V, nL, p, e, R, s, m, args, below, meth, c, cells, slots, A, Q⟩ := X
  intro h1 h2 h3 H locs lsC hP hS hL
  exact lv_dup2_11 G.1 G.2.1 hd (cv_cat _ hv) (cv_cat _ hw) (k h1 (okL_cons (okL_hd h2) (okL_cons (okL_hd (okL_tl h2)) h2)) h3 H locs lsC hP hS hL)
theorem am_pop (G : GX X cc own) {v : AV} (hd : decode cc pc = .ok (.pop, 1)) (hv : v.1 ≠ 1) (k : AW X (pc + 1) ls st M) : AW X pc ls (v :: st) M := by
  obtain ⟨V, nL, p, e, R, s, m, args, below, meth, c, cells, slots, A, Q⟩ := X
  intro h1 h2 h3 H locs lsC hP hS hL
  exact lv_pop G.1 G.2.1 hd (cv_cat _ hv) (k h1 (okL_tl h2) h3 H locs lsC hP hS hL)
theorem am_goto (G : GX X cc own) {off : Int} (tgt : Nat) (hd : decode cc pc = .ok (.goto off, 3)) (ht : (pc : Int) + off = (tgt : Int)) (k : AW X tgt ls st M) : AW X pc ls st M := by
  obtain ⟨V, nL, p, e, R, s, m, args, below, meth, c, cells, slots, A, Q⟩ := X
  intro h1 h2 h3 H locs lsC hP hS hL
  exact lv_goto G.1 G.2.1 hd ht (k h1 h2 h3 H locs lsC hP hS hL)
theorem am_ifnull (G : GX X cc own) {off : Int} {t : Nat} {x : Int} (tgt : Nat) (hd : decode cc pc = .ok (.ifnull off, 3)) (ht : (pc : Int) + off = (tgt : Int)) (kt : x < 0 → AW X tgt ls st M) (kf : ¬ x < 0 → AW X (pc + 3) ls st M) : AW X pc ls ((t + 3, x) :: st) M := by
  obtain ⟨V, nL, p, e, R, s, m, args, below, meth, c, cells, slots, A, Q⟩ := X
  intro h1 h2 h3 H locs lsC hP hS hL
  rw [List.map_cons]
  by_cases hx : x < 0
  · rw [cv_nul hx]
    exact lv_ifnullN G.1 G.2.1 hd ht (kt hx h1 (okL_tl h2) h3 H locs lsC hP hS hL)
  · rw [cv_ref (by omega)]
    exact lv_ifnull G.1 G.2.1 hd (kf hx h1 (okL_tl h2) h3 H locs lsC hP hS hL)
theorem am_ifnonnull (G : GX X cc own) {off : Int} {t : Nat} {x : Int} (tgt : Nat) (hd : decode cc pc = .ok (.ifnonnull off, 3)) (ht : (pc : Int) + off = (tgt : Int)) (kt : ¬ x < 0 → AW X tgt ls st M) (kf : x < 0 → AW X (pc + 3) ls st M) : AW X pc ls ((t + 3, x) :: st) M := by
  obtain ⟨V, nL, p, e, R, s, m, args, below, meth, c, cells, slots, A, Q⟩ := X
  intro h1 h2 h3 H locs lsC hP hS hL
  rw [List.map_cons]
  by_cases hx : x < 0
  · rw [cv_nul hx]
    exact lv_ifnonnullN G.1 G.2.1 hd (kf hx h1 (okL_tl h2) h3 H locs lsC hP hS hL)
  · rw [cv_ref (by omega)]
    exact lv_ifnonnull G.1 G.2.1 hd ht (kt hx h1 (okL_tl h2) h3 H locs lsC hP hS hL)
theorem am_icmp_eq (G : GX X cc own) {off : Int} {a b : Int} (tgt : Nat) (hd : decode cc pc = .ok (.if_icmp .eq off, 3)) (ht : (pc : Int) + off = (tgt : Int)) (kt : a = b → AW X tgt ls st M) (kf : ¬ a = b → AW X (pc + 3) ls st M) : AW X pc ls ((0, b) :: (0, a) :: st) M := by
  obtain ⟨V, nL, p, e, R, s, m, args, below, meth, c, cells, slots, A, Q⟩ := X
  intro h1 h2 h3 H locs lsC hP hS hL
  exact lv_icmp_eq G.1 G.2.1 hd ht (fun h => kt ((i32_eq (okL_hd (okL_tl h2)) (okL_hd h2)).mp h) h1 (okL_tl (okL_tl h2)) h3 H locs lsC hP hS hL) (fun h => kf (fun q => h ((i32_eq (okL_hd (okL_tl h2)) (okL_hd h2)).mpr q)) h1 (okL_tl (okL_tl h2)) h3 H locs lsC hP hS hL)
theorem am_icmp_ne (G : GX X cc own) {off : Int} {a b : Int} (tgt : Nat) (hd : decode cc pc = .ok (.if_icmp .ne off, 3)) (ht : (pc : Int) + off = (tgt : Int)) (kt : ¬ a = b → AW X tgt ls st M) (kf : a = b → AW X (pc + 3) ls st M) : AW X pc ls ((0, b) :: (0, a) :: st) M := by
  obtain ⟨V, nL, p, e, R, s, m, args, below, meth, c, cells, slots, A, Q⟩ := X
  intro h1 h2 h3 H locs lsC hP hS hL
  exact lv_icmp_ne G.1 G.2.1 hd ht (fun h => kt (fun q => h ((i32_eq (okL_hd (okL_tl h2)) (okL_hd h2)).mpr q)) h1 (okL_tl (okL_tl h2)) h3 H locs lsC hP hS hL) (fun h => kf ((i32_eq (okL_hd (okL_tl h2)) (okL_hd h2)).mp h) h1 (okL_tl (okL_tl h2)) h3 H locs lsC hP hS hL)
theorem am_icmp_lt (G : GX X cc own) {off : Int} {a b : Int} (tgt : Nat) (hd : decode cc pc = .ok (.if_icmp .lt off, 3)) (ht : (pc : Int) + off = (tgt : Int)) (kt : a < b → AW X tgt ls st M) (kf : ¬ a < b → AW X (pc + 3) ls st M) : AW X pc ls ((0, b) :: (0, a) :: st) M := by
  obtain ⟨V, nL, p, e, R, s, m, args, below, meth, c, cells, slots, A, Q⟩ := X
  intro h1 h2 h3 H locs lsC hP hS hL
  exact lv_icmp_lt G.1 G.2.1 hd ht (fun h => kt ((i32_lt (okL_hd (okL_tl h2)) (okL_hd h2)).mp h) h1 (okL_tl (okL_tl h2)) h3 H locs lsC hP hS hL) (fun h => kf (fun q => h ((i32_lt (okL_hd (okL_tl h2)) (okL_hd h2)).mpr q)) h1 (okL_tl (okL_tl h2)) h3 H locs lsC hP hS hL)
theorem am_icmp_ge (G : GX X cc own) {off : Int} {a b : Int} (tgt : Nat) (hd : decode cc pc = .ok (.if_icmp .ge off, 3)) (ht : (pc : Int) + off = (tgt : Int)) (kt : b ≤ a → AW X tgt ls st M) (kf : ¬ b ≤ a → AW X (pc + 3) ls st M) : AW X pc ls ((0, b) :: (0, a) :: st) M := by
  obtain ⟨V, nL, p, e, R, s, m, args, below, meth, c, cells, slots, A, Q⟩ := X
  intro h1 h2 h3 H locs lsC hP hS hL
  exact lv_icmp_ge G.1 G.2.1 hd ht (fun h => kt ((i32_le (okL_hd h2) (okL_hd (okL_tl h2))).mp h) h1 (okL_tl (okL_tl h2)) h3 H locs lsC hP hS hL) (fun h => kf (fun q => h ((i32_le (okL_hd h2) (okL_hd (okL_tl h2))).mpr q)) h1 (okL_tl (okL_tl h2)) h3 H locs lsC hP hS hL)
theorem am_icmp_gt (G : GX X cc own) {off : Int} {a b : Int} (tgt : Nat) (hd : decode cc pc = .ok (.if_icmp .gt off, 3)) (ht : (pc : Int) + off = (tgt : Int)) (kt : b < a → AW X tgt ls st M) (kf : ¬ b < a → AW X (pc + 3) ls st M) : AW X pc ls ((0, b) :: (0, a) :: st) M := by
  obtain ⟨V, nL, p, e, R, s, m, args, below, meth, c, cells, slots, A, Q⟩ := X
  intro h1 h2 h3 H locs lsC hP hS hL
  exact lv_icmp_gt G.1 G.2.1 hd ht (fun h => kt ((i32_lt (okL_hd h2) (okL_hd (okL_tl h2))).mp h) h1 (okL_tl (okL_tl h2)) h3 H locs lsC hP hS hL) (fun h => kf (fun q => h ((i32_lt (okL_hd h2) (okL_hd (okL_tl h2))).mpr q)) h1 (okL_tl (okL_tl h2)) h3 H locs lsC hP hS hL)
theorem am_icmp_le (G : GX X cc own) {off : Int} {a b : Int} (tgt : Nat) (hd : decode cc pc = .ok (.if_icmp .le off, 3)) (ht : (pc : Int) + off = (tgt : Int)) (kt : a ≤ b → AW X tgt ls st M) (kf : ¬ a ≤ b → AW X (pc + 3) ls st M) : AW X pc ls ((0, b) :: (0, a) :: st) M := by
  obtain ⟨V, nL, p, e, R, s, m, args, below, meth, c, cells, slots, A, Q⟩ := X
  intro h1 h2 h3 H locs lsC hP hS hL
  exact lv_icmp_le G.1 G.2.1 hd ht (fun h => kt ((i32_le (okL_hd (okL_tl h2)) (okL_hd h2)).mp h) h1 (okL_tl (okL_tl h2)) h3 H locs lsC hP hS hL) (fun h => kf (fun q => h ((i32_le (okL_hd (okL_tl h2)) (okL_hd h2)).mpr q)) h1 (okL_tl (okL_tl h2)) h3 H locs lsC hP hS hL)
theorem am_if_eq (G : GX X cc own) {off : Int} {a : Int} (tgt : Nat) (hd : decode cc pc = .ok (.ifCond .eq off, 3)) (ht : (pc : Int) + off = (tgt : Int)) (kt : a = 0 → AW X tgt ls st M) (kf : ¬ a = 0 → AW X (pc + 3) ls st M) : AW X pc ls ((0, a) :: st) M := by
  obtain ⟨V, nL, p, e, R, s, m, args, below, meth, c, cells, slots, A, Q⟩ := X
  intro h1 h2 h3 H locs lsC hP hS hL
  exact lv_if_eq G.1 G.2.1 hd ht (fun h => kt ((i32_eq (okL_hd h2) ir0).mp h) h1 (okL_tl h2) h3 H locs lsC hP hS hL) (fun h => kf (fun q => h ((i32_eq (okL_hd h2) ir0).mpr q)) h1 (okL_tl h2) h3 H locs lsC hP hS hL)
theorem am_if_ne (G : GX X cc own) {off : Int} {a : Int} (tgt : Nat) (hd : decode cc pc = .ok (.ifCond .ne off, 3)) (ht : (pc : Int) + off = (tgt : Int)) (kt : ¬ a = 0 → AW X tgt ls st M) (kf : a = 0 → AW X (pc + 3) ls st M) : AW X pc ls ((0, a) :: st) M := by
  obtain ⟨V, nL, p, e, R, s, m, args, below, meth, c, cells, slots, A, Q⟩ := X
  intro h1 h2 h3 H locs lsC hP hS hL
  exact lv_if_ne G.1 G.2.1 hd ht (fun h => kt (fun q => h ((i32_eq (okL_hd h2) ir0).mpr q)) h1 (okL_tl h2) h3 H locs lsC hP hS hL) (fun h => kf ((i32_eq (okL_hd h2) ir0).mp h) h1 (okL_tl h2) h3 H locs lsC hP hS hL)
theorem am_if_lt (G : GX X cc own) {off : Int} {a : Int} (tgt : Nat) (hd : decode cc pc = .ok (.ifCond .lt off, 3)) (ht : (pc : Int) + off = (tgt : Int)) (kt : a < 0 → AW X tgt ls st M) (kf : ¬ a < 0 → AW X (pc + 3) ls st M) : AW X pc ls ((0, a) :: st) M := by
  obtain ⟨V, nL, p, e, R, s, m, args, below, meth, c, cells, slots, A, Q⟩ := X
  intro h1 h2 h3 H locs lsC hP hS hL
  exact lv_if_lt G.1 G.2.1 hd ht (fun h => kt ((i32_lt (okL_hd h2) ir0).mp h) h1 (okL_tl h2) h3 H locs lsC hP hS hL) (fun h => kf (fun q => h ((i32_lt (okL_hd h2) ir0).mpr q)) h1 (okL_tl h2) h3 H locs lsC hP hS hL)
theorem am_if_ge (G : GX X cc own) {off : Int} {a : Int} (tgt : Nat) (hd : decode cc pc = .ok (.ifCond .ge off, 3)) (ht : (pc : Int) + off = (tgt : Int)) (kt : 0 ≤ a → AW X tgt ls st M) (kf : ¬ 0 ≤ a → AW X (pc + 3) ls st M) : AW X pc ls ((0, a) :: st) M := by
  obtain ⟨V, nL, p, e, R, s, m, args, below, meth, c, cells, slots, A, Q⟩ := X
  intro h1 h2 h3 H locs lsC hP hS hL
  exact lv_if_ge G.1 G.2.1 hd ht (fun h => kt ((i32_le ir0 (okL_hd h2)).mp h) h1 (okL_tl h2) h3 H locs lsC hP hS hL) (fun h => kf (fun q => h ((i32_le ir0 (okL_hd h2)).mpr q)) h1 (okL_tl h2) h3 H locs lsC hP hS hL)
theorem am_if_gt (G : GX X cc own) {off : Int} {a : Int} (tgt : Nat) (hd : decode cc pc = .ok (.ifCond .gt off, 3)) (ht : (pc : Int) + off = (tgt : Int)) (kt : 0 < a → AW X tgt ls st M) (kf : ¬ 0 < a → AW X (pc + 3) ls st M) : AW X pc ls ((0, a) :: st) M := by
  obtain ⟨V, nL, p, e, R, s, m, args, below, meth, c, cells, slots, A, Q⟩ := X
  intro h1 h2 h3 H locs lsC hP hS hL
  exact lv_if_gt G.1 G.2.1 hd ht (fun h => kt ((i32_lt ir0 (okL_hd h2)).mp h) h1 (okL_tl h2) h3 H locs lsC hP hS hL) (fun h => kf (fun q => h ((i32_lt ir0 (okL_hd h2)).mpr q)) h1 (okL_tl h2) h3 H locs lsC hP hS hL)
theorem am_if_le (G : GX X cc own) {off : Int} {a : Int} (tgt : Nat) (hd : decode cc pc = .ok (.ifCond .le off, 3)) (ht : (pc : Int) + off = (tgt : Int)) (kt : a ≤ 0 → AW X tgt ls st M) (kf : ¬ a ≤ 0 → AW X (pc + 3) ls st M) : AW X pc ls ((0, a) :: st) M := by
  obtain ⟨V, nL, p, e, R, s, m, args, below, meth, c, cells, slots, A, Q⟩ := X
  intro h1 h2 h3 H locs lsC hP hS hL
  exact lv_if_le G.1 G.2.1 hd ht (fun h => kt ((i32_le (okL_hd h2) ir0).mp h) h1 (okL_tl h2) h3 H locs lsC hP hS hL) (fun h => kf (fun q => h ((i32_le (okL_hd h2) ir0).mpr q)) h1 (okL_tl h2) h3 H locs lsC hP hS hL)
theorem am_tableOut (G : GX X cc own) {dflt lo hi : Int} {offs : Array Int} {len : Nat} {a : Int} (tgt : Nat) (hd : decode cc pc = .ok (.tableswitch dflt lo hi offs, len)) (h : a < lo ∨ hi < a) (ht : (pc : Int) + dflt = (tgt : Int)) (k : AW X tgt ls st M) : AW X pc ls ((0, a) :: st) M := by
  obtain ⟨V, nL, p, e, R, s, m, args, below, meth, c, cells, slots, A, Q⟩ := X
  intro h1 h2 h3 H locs lsC hP hS hL
  exact lv_tableOut G.1 G.2.1 hd (by rw [i32_of (okL_hd h2)]; exact h) ht (k h1 (okL_tl h2) h3 H locs lsC hP hS hL)
theorem am_tableIn (G : GX X cc own) {dflt lo hi : Int} {offs : Array Int} {len : Nat} {a : Int} {off : Int} (tgt : Nat) (hd : decode cc pc = .ok (.tableswitch dflt lo hi offs, len)) (ha : lo ≤ a ∧ a ≤ hi) (ho : offs[(a - lo).toNat]? = some off) (ht : (pc : Int) + off = (tgt : Int)) (k : AW X tgt ls st M) : AW X pc ls ((0, a) :: st) M := by
  obtain ⟨V, nL, p, e, R, s, m, args, below, meth, c, cells, slots, A, Q⟩ := X
  intro h1 h2 h3 H locs lsC hP hS hL
  have e1 := i32_of (okL_hd h2)
  exact lv_tableIn G.1 G.2.1 hd (by rw [e1]; omega) (by rw [e1]; omega) (by rw [e1]; exact ho) ht (k h1 (okL_tl h2) h3 H locs lsC hP hS hL)
end AMO
