/-! arrays -/
theorem cellE_ia {V : VV} {M : Mem} {a n : Nat} (hk : kd a = 100 + n) (hn : n < 9900) : cellE V M a = .inl (V.2.2.1, n, .inl (fun j => i32 (M a j))) := by
  unfold cellE
  rw [if_neg (by omega), if_pos (by omega), show kd a - 100 = n by omega]
theorem cellE_la {V : VV} {M : Mem} {a n : Nat} (hk : kd a = 10000 + n) (hn : n < 10000) : cellE V M a = .inl (V.2.2.2.1, n, .inr (.inl (fun j => i64 (M a j)))) := by
  unfold cellE
  rw [if_neg (by omega), if_neg (by omega), if_pos (by omega), show kd a - 10000 = n by omega]
theorem cellE_ta {V : VV} {M : Mem} {a : Nat} (hk : 20000 ≤ kd a) : cellE V M a = .inl (V.2.2.2.2.1, nTel, .inr (.inr (.inr (.inr (fun j => if j < nTel then some (V.2.2.2.2.2 + (tel (kd a) j).toNat) else none))))) := by
  unfold cellE
  rw [if_neg (by omega), if_neg (by omega), if_neg (by omega)]
section AMR
variable {X : XX} {cc : ByteArray} {own : String} {pc : Nat} {ls st : List AV} {M : Mem}
theorem am_iald (G : GX X cc own) (n : Nat) {o i : Int} (hd : decode cc pc = .ok (.iaload, 1)) (hn : n < 9900) (hi : 0 ≤ i ∧ i < n) (k : AW X (pc + 1) ls ((0, M o i) :: st) M) : AW X pc ls ((0, i) :: (100 + n, o) :: st) M := by
  obtain ⟨V, nL, p, e, R, s, m, args, below, meth, c, cells, slots, A, Q⟩ := X
  intro h1 h2 h3 H locs lsC hP hS hL
  obtain ⟨g0, g1, g2⟩ := vok_ref (okL_hd (okL_tl h2)) (by omega) (uns_hi (by omega)) (by omega)
  obtain ⟨a, rfl⟩ : ∃ a : Nat, o = a := ⟨o.toNat, by omega⟩
  have ha : a < nCells := by omega
  have hka : kd a = 100 + n := by simpa using g2
  have hM := h3 a i
  rw [arr_nol ha (by omega) (by omega), show Nat.ble 10000 (kd a) = false by (cases hb : Nat.ble 10000 (kd a) with | true => rw [Nat.ble_eq] at hb; omega | false => rfl), if_neg (by decide)] at hM
  have hk := k h1 (okL_cons (show vok (0, M a i) from hM) (okL_tl (okL_tl h2))) h3 H locs lsC hP hS hL
  simp only [List.map_cons] at hk ⊢
  rw [show 100 + n = (97 + n) + 3 by omega, cv_ref g0]
  obtain ⟨v1, v2⟩ := vin_ok hi.1 hi.2 (by omega)
  refine va_iald G.1 G.2.1 G.2.2.2.2.1.1 hP a 0 (by rw [Int.toNat_natCast, wsOf_get V M ha, cellE_ia hka hn]) rfl v1 hd ?_
  rw [v2, show ((i.toNat : Nat) : Int) = i by omega]
  exact hk
theorem am_lald (G : GX X cc own) (n : Nat) {o i : Int} (hd : decode cc pc = .ok (.laload, 1)) (hn : n < 9900) (hi : 0 ≤ i ∧ i < n) (k : AW X (pc + 1) ls ((1, M o i) :: st) M) : AW X pc ls ((0, i) :: (10000 + n, o) :: st) M := by
  obtain ⟨V, nL, p, e, R, s, m, args, below, meth, c, cells, slots, A, Q⟩ := X
  intro h1 h2 h3 H locs lsC hP hS hL
  obtain ⟨g0, g1, g2⟩ := vok_ref (okL_hd (okL_tl h2)) (by omega) (uns_hi (by omega)) (by omega)
  obtain ⟨a, rfl⟩ : ∃ a : Nat, o = a := ⟨o.toNat, by omega⟩
  have ha : a < nCells := by omega
  have hka : kd a = 10000 + n := by simpa using g2
  have hM := h3 a i
  rw [arr_nol ha (by omega) (by omega), show Nat.ble 10000 (kd a) = true from (Nat.ble_eq).mpr (by omega), if_pos rfl] at hM
  have hk := k h1 (okL_cons (show vok (1, M a i) from hM) (okL_tl (okL_tl h2))) h3 H locs lsC hP hS hL
  simp only [List.map_cons] at hk ⊢
  rw [show 10000 + n = (9997 + n) + 3 by omega, cv_ref g0]
  obtain ⟨v1, v2⟩ := vin_ok hi.1 hi.2 (by omega)
  refine va_lald G.1 G.2.1 G.2.2.2.2.1.1 hP a 1 (by rw [Int.toNat_natCast, wsOf_get V M ha, cellE_la hka (by omega)]) rfl v1 hd ?_
  rw [v2, show ((i.toNat : Nat) : Int) = i by omega]
  exact hk
theorem am_iast (G : GX X cc own) (n : Nat) {o i x : Int} (hd : decode cc pc = .ok (.iastore, 1)) (hn : n < 9900) (hi : 0 ≤ i ∧ i < n) (k : AW X (pc + 1) ls st (mset M o i x)) : AW X pc ls ((0, x) :: (0, i) :: (100 + n, o) :: st) M := by
  obtain ⟨V, nL, p, e, R, s, m, args, below, meth, c, cells, slots, A, Q⟩ := X
  intro h1 h2 h3 H locs lsC hP hS hL
  obtain ⟨g0, g1, g2⟩ := vok_ref (okL_hd (okL_tl (okL_tl h2))) (by omega) (uns_hi (by omega)) (by omega)
  obtain ⟨a, rfl⟩ : ∃ a : Nat, o = a := ⟨o.toNat, by omega⟩
  have ha : a < nCells := by omega
  have hka : kd a = 100 + n := by simpa using g2
  have hM' : okM (mset M a i x) := okM_set h3 (by rw [arr_nol ha (by omega) (by omega), show Nat.ble 10000 (kd a) = false by (cases hb : Nat.ble 10000 (kd a) with | true => rw [Nat.ble_eq] at hb; omega | false => rfl), if_neg (by decide)]; exact okL_hd h2)
  simp only [List.map_cons]
  rw [show 100 + n = (97 + n) + 3 by omega, cv_ref g0]
  obtain ⟨v1, v2⟩ := vin_ok hi.1 hi.2 (by omega)
  refine va_iast (A := A) G.1 G.2.1 G.2.2.2.2.1.1 hP (wsOf_D V M G.2.2.2.2.2) hS a 0 (by rw [Int.toNat_natCast, wsOf_get V M ha, cellE_ia hka hn]) rfl v1 hd (fun H1 locs1 hP1 hD1 hS1 => ?_)
  refine k h1 (okL_tl (okL_tl (okL_tl h2))) hM' H1 locs1 lsC ?_ hS1 hL
  rw [v2] at hP1
  rw [← wsOf_set V M ha i x (e := .inl (V.2.2.1, n, .inl (upd (fun j => i32 (M a j)) i.toNat (i32 x)))) ?_]
  · simpa [cv] using hP1
  · rw [cellE_ia hka hn]
    congr 4
    funext j
    unfold upd mset
    by_cases hj : j = i.toNat
    · subst hj; rw [if_pos rfl, if_pos ⟨rfl, by omega⟩]
    · rw [if_neg hj, if_neg (by omega)]
theorem am_last (G : GX X cc own) (n : Nat) {o i x : Int} (hd : decode cc pc = .ok (.lastore, 1)) (hn : n < 9900) (hi : 0 ≤ i ∧ i < n) (k : AW X (pc + 1) ls st (mset M o i x)) : AW X pc ls ((1, x) :: (0, i) :: (10000 + n, o) :: st) M := by
  obtain ⟨V, nL, p, e, R, s, m, args, below, meth, c, cells, slots, A, Q⟩ := X
  intro h1 h2 h3 H locs lsC hP hS hL
  obtain ⟨g0, g1, g2⟩ := vok_ref (okL_hd (okL_tl (okL_tl h2))) (by omega) (uns_hi (by omega)) (by omega)
  obtain ⟨a, rfl⟩ : ∃ a : Nat, o = a := ⟨o.toNat, by omega⟩
  have ha : a < nCells := by omega
  have hka : kd a = 10000 + n := by simpa using g2
  have hM' : okM (mset M a i x) := okM_set h3 (by rw [arr_nol ha (by omega) (by omega), show Nat.ble 10000 (kd a) = true from (Nat.ble_eq).mpr (by omega), if_pos rfl]; exact okL_hd h2)
  simp only [List.map_cons]
  rw [show 10000 + n = (9997 + n) + 3 by omega, cv_ref g0]
  obtain ⟨v1, v2⟩ := vin_ok hi.1 hi.2 (by omega)
  refine va_last (A := A) G.1 G.2.1 G.2.2.2.2.1.1 hP (wsOf_D V M G.2.2.2.2.2) hS a 1 (by rw [Int.toNat_natCast, wsOf_get V M ha, cellE_la hka (by omega)]) rfl v1 hd (fun H1 locs1 hP1 hD1 hS1 => ?_)
  refine k h1 (okL_tl (okL_tl (okL_tl h2))) hM' H1 locs1 lsC ?_ hS1 hL
  rw [v2] at hP1
  rw [← wsOf_set V M ha i x (e := .inl (V.2.2.2.1, n, .inr (.inl (vp_updL (fun j => i64 (M a j)) i.toNat (i64 x))))) ?_]
  · simpa [cv] using hP1
  · rw [cellE_la hka (by omega)]
    congr 5
    funext j
    unfold vp_updL mset
    by_cases hj : j = i.toNat
    · subst hj; rw [if_pos rfl, if_pos ⟨rfl, by omega⟩]
    · rw [if_neg hj, if_neg (by omega)]
theorem am_aald (G : GX X cc own) (tg : Nat) {o i : Int} (hd : decode cc pc = .ok (.aaload, 1)) (ht : tg = 20001 ∨ tg = 20002 ∨ tg = 20003) (hi : 0 ≤ i ∧ i < nTel) (k : AW X (pc + 1) ls ((17, tel tg i) :: st) M) : AW X pc ls ((0, i) :: (tg, o) :: st) M := by
  obtain ⟨V, nL, p, e, R, s, m, args, below, meth, c, cells, slots, A, Q⟩ := X
  intro h1 h2 h3 H locs lsC hP hS hL
  obtain ⟨g0, g1, g2⟩ := vok_ref (okL_hd (okL_tl h2)) (by omega) (uns_hi (by omega)) (by omega)
  obtain ⟨a, rfl⟩ : ∃ a : Nat, o = a := ⟨o.toNat, by omega⟩
  have ha : a < nCells := by omega
  have hka : kd a = tg := by simpa using g2
  obtain ⟨j, rfl⟩ : ∃ j : Nat, i = j := ⟨i.toNat, by omega⟩
  have hj : j < nTel := by omega
  have ht1 := List.all_eq_true.mp (List.all_eq_true.mp tel_all tg (by rcases ht with rfl | rfl | rfl <;> simp)) j (List.mem_range.mpr hj)
  simp only [Bool.and_eq_true, decide_eq_true_eq] at ht1
  have hk := k h1 (okL_cons (vok_mk (by omega) (by omega) ⟨ht1.1.1, ht1.1.2, ht1.2⟩) (okL_tl (okL_tl h2))) h3 H locs lsC hP hS hL
  simp only [List.map_cons] at hk ⊢
  rw [cv_ref (t := 14) ht1.1.1] at hk
  obtain ⟨tg', rfl⟩ : ∃ t, tg = t + 3 := ⟨tg - 3, by omega⟩
  rw [cv_ref g0]
  obtain ⟨v1, v2⟩ := vin_ok hi.1 hi.2 (by decide)
  refine va_aldq G.1 G.2.1 G.2.2.2.2.1.1 hP a 2 (C := treeC) (by rw [Int.toNat_natCast, wsOf_get V M ha, cellE_ta (by omega)]) rfl v1 hd ?_
  rw [v2, hka]
  simp only [Int.toNat_natCast, if_pos hj]
  exact hk
theorem am_alen (G : GX X cc own) (n : Nat) {o : Int} (hd : decode cc pc = .ok (.arraylength, 1)) (hn : n < 9900) (k : AW X (pc + 1) ls ((0, n) :: st) M) : AW X pc ls ((100 + n, o) :: st) M := by
  obtain ⟨V, nL, p, e, R, s, m, args, below, meth, c, cells, slots, A, Q⟩ := X
  intro h1 h2 h3 H locs lsC hP hS hL
  obtain ⟨g0, g1, g2⟩ := vok_ref (okL_hd h2) (by omega) (uns_hi (by omega)) (by omega)
  obtain ⟨a, rfl⟩ : ∃ a : Nat, o = a := ⟨o.toNat, by omega⟩
  have ha : a < nCells := by omega
  have hka : kd a = 100 + n := by simpa using g2
  have hk := k h1 (okL_cons (show vok (0, (n : Int)) from ⟨by omega, by omega⟩) (okL_tl h2)) h3 H locs lsC hP hS hL
  simp only [List.map_cons] at hk ⊢
  rw [show 100 + n = (97 + n) + 3 by omega, cv_ref g0]
  exact va_alen (v := i32 n) (ty := .int) G.1 G.2.1 G.2.2.2.2.1.1 hP a 0 (by rw [Int.toNat_natCast, wsOf_get V M ha, cellE_ia hka hn]) rfl (by apply Int32.toInt_inj.mp; rw [i32_of (by constructor <;> omega)]; exact nI_toInt (by omega)) hd hk
theorem am_talen (G : GX X cc own) (tg : Nat) {o : Int} (hd : decode cc pc = .ok (.arraylength, 1)) (ht : tg = 20001 ∨ tg = 20002 ∨ tg = 20003) (k : AW X (pc + 1) ls ((0, nTel) :: st) M) : AW X pc ls ((tg, o) :: st) M := by
  obtain ⟨V, nL, p, e, R, s, m, args, below, meth, c, cells, slots, A, Q⟩ := X
  intro h1 h2 h3 H locs lsC hP hS hL
  obtain ⟨g0, g1, g2⟩ := vok_ref (okL_hd h2) (by omega) (uns_hi (by omega)) (by omega)
  obtain ⟨a, rfl⟩ : ∃ a : Nat, o = a := ⟨o.toNat, by omega⟩
  have ha : a < nCells := by omega
  have hka : kd a = tg := by simpa using g2
  have hk := k h1 (okL_cons (show vok (0, (nTel : Int)) from ⟨by decide, by decide⟩) (okL_tl h2)) h3 H locs lsC hP hS hL
  simp only [List.map_cons] at hk ⊢
  obtain ⟨tg', rfl⟩ : ∃ t, tg = t + 3 := ⟨tg - 3, by omega⟩
  rw [cv_ref g0]
  exact va_alen (v := i32 nTel) (ty := .object treeC) G.1 G.2.1 G.2.2.2.2.1.1 hP a 2 (by rw [Int.toNat_natCast, wsOf_get V M ha, cellE_ta (by omega)]) rfl (show Int32.ofNat nTel = i32 nTel by decide +kernel) hd hk
end AMR
