/-! fields and arrays -/
theorem wsOf_get (V : VV) (M : Mem) {k : Nat} (h : k < nCells) : (wsOf V M)[k]? = some (V.2.2.2.2.2 + k, cellE V M k) := by
  unfold wsOf
  rw [List.getElem?_map, List.getElem?_range h]; rfl
theorem wsOf_len (V : VV) (M : Mem) : (wsOf V M).length = nCells := by simp [wsOf]
theorem wsOf_some {V : VV} {M : Mem} {k : Nat} {q : Nat × va_E} (h : (wsOf V M)[k]? = some q) : k < nCells ∧ q = (V.2.2.2.2.2 + k, cellE V M k) := by
  have hk : k < nCells := by rw [← wsOf_len V M]; exact (List.getElem?_eq_some_iff.mp h).1
  rw [wsOf_get V M hk] at h
  exact ⟨hk, (Option.some.inj h).symm⟩
theorem wsOf_D (V : VV) (M : Mem) {A : Nat → Prop} (hA : ∀ q, wA V q → A q) : va_D A (wsOf V M) := by
  refine ⟨fun i j p q hi hj e => ?_, fun k q hk => ?_⟩
  · obtain ⟨-, rfl⟩ := wsOf_some hi
    obtain ⟨-, rfl⟩ := wsOf_some hj
    simp only at e; omega
  · obtain ⟨h1, rfl⟩ := wsOf_some hk
    exact hA _ ⟨by simp, by simp only; omega⟩
theorem cellE_ne (V : VV) (M : Mem) {i k : Nat} (h : i ≠ k) (j x : Int) : cellE V (mset M k j x) i = cellE V M i := by
  have e : ∀ b, mset M k j x i b = M i b := fun b => mset_cell M (by omega) j b x
  unfold cellE
  simp only [e, fv]
theorem wsOf_set (V : VV) (M : Mem) {k : Nat} (hk : k < nCells) (j x : Int) {e : va_E} (he : cellE V (mset M k j x) k = e) : (wsOf V M).set k (V.2.2.2.2.2 + k, e) = wsOf V (mset M k j x) := by
  apply List.ext_getElem?
  intro i
  by_cases hi : i = k
  · subst hi
    rw [List.getElem?_set_self (by rw [wsOf_len]; exact hk), wsOf_get V _ hk, he]
  · rw [List.getElem?_set_ne (Ne.symm hi)]
    by_cases hn : i < nCells
    · rw [wsOf_get V _ hn, wsOf_get V _ hn, cellE_ne V M hi]
    · rw [List.getElem?_eq_none (by rw [wsOf_len]; omega), List.getElem?_eq_none (by rw [wsOf_len]; omega)]
theorem uns_lo {t : Nat} (h : t < 90) : uns t = false := by
  unfold uns
  cases hb : Nat.ble 90 t with
  | true => rw [Nat.ble_eq] at hb; omega
  | false => rfl
theorem uns_hi {t : Nat} (h : 100 ≤ t) : uns t = false := by
  unfold uns
  cases hb : Nat.blt t 100 with
  | true => rw [Nat.blt_eq] at hb; omega
  | false => exact Bool.and_false _
theorem vok_ref {t : Nat} {x : Int} (h : vok (t, x)) (h2 : 10 ≤ t) (hu : uns t = false) (hlt : t < 30000) : 0 ≤ x ∧ x < nCells ∧ kd x.toNat = t := by
  match t, h2 with
  | t + 3, _ =>
    have h' : (if 90 ≤ t + 3 ∧ t + 3 < 100 then True else if t + 3 < 30000 then 0 ≤ x ∧ x < nCells ∧ kd x.toNat = t + 3 else x = -1 ∨ (0 ≤ x ∧ x < nCells ∧ kd x.toNat + 30000 = t + 3)) := h
    rw [if_neg, if_pos hlt] at h'
    · exact h'
    · intro q
      simp only [uns, Bool.and_eq_false_iff] at hu
      rcases hu with hu | hu
      · rw [Nat.ble_eq_true_of_le q.1] at hu; cases hu
      · rw [show Nat.blt (t + 3) 100 = true from Nat.ble_eq_true_of_le q.2] at hu; cases hu
theorem vok_mk {t : Nat} {x : Int} (h2 : 3 ≤ t) (hlt : t < 30000) (h : 0 ≤ x ∧ x < nCells ∧ kd x.toNat = t) : vok (t, x) := by
  match t, h2 with
  | t + 3, _ =>
    show (if 90 ≤ t + 3 ∧ t + 3 < 100 then True else if t + 3 < 30000 then 0 ≤ x ∧ x < nCells ∧ kd x.toNat = t + 3 else x = -1 ∨ (0 ≤ x ∧ x < nCells ∧ kd x.toNat + 30000 = t + 3))
    split
    · trivial
    · first | exact h | (rw [if_pos hlt]; exact h)
theorem vok_may {t : Nat} {x : Int} (h2 : 3 ≤ t) (hlt : t < 30000) (h : vok (30000 + t, x)) (h0 : 0 ≤ x) : vok (t, x) := by
  refine vok_mk h2 hlt ?_
  have e : 30000 + t = (29997 + t) + 3 := by omega
  rw [e] at h
  have h' : (if 90 ≤ 29997 + t + 3 ∧ 29997 + t + 3 < 100 then True else if 29997 + t + 3 < 30000 then 0 ≤ x ∧ x < nCells ∧ kd x.toNat = 29997 + t + 3 else x = -1 ∨ (0 ≤ x ∧ x < nCells ∧ kd x.toNat + 30000 = 29997 + t + 3)) := h
  rw [if_neg (by omega), if_neg (by omega)] at h'
  rcases h' with h' | h'
  · omega
  · exact ⟨h'.1, h'.2.1, by omega⟩
theorem vok_tomay {t : Nat} {x : Int} (h2 : 10 ≤ t) (hu : uns t = false) (hlt : t < 30000) (h : vok (t, x)) : vok (30000 + t, x) := by
  have h1 := vok_ref h h2 hu hlt
  have e : 30000 + t = (29997 + t) + 3 := by omega
  rw [e]
  show (if 90 ≤ 29997 + t + 3 ∧ 29997 + t + 3 < 100 then True else if 29997 + t + 3 < 30000 then 0 ≤ x ∧ x < nCells ∧ kd x.toNat = 29997 + t + 3 else x = -1 ∨ (0 ≤ x ∧ x < nCells ∧ kd x.toNat + 30000 = 29997 + t + 3))
  rw [if_neg (by omega), if_neg (by omega)]
  exact Or.inr ⟨h1.1, h1.2.1, by omega⟩
-- what a program checks of the cells
def chkF (k j : Nat) : Bool := match fk (kd k - 10) j with
  | 3 => decide (10 ≤ (sfl (kd k - 10) j k).1) && decide ((sfl (kd k - 10) j k).1 < 30000) && decide (0 ≤ (sfl (kd k - 10) j k).2) && decide ((sfl (kd k - 10) j k).2 < nCells) && decide (kd (sfl (kd k - 10) j k).2.toNat = (sfl (kd k - 10) j k).1)
  | 1 => isL k j
  | _ => !isL k j
theorem chkF_all : (List.range nCells).all (fun k => Nat.ble 100 (kd k) || (List.range (nfl (kd k - 10))).all (chkF k)) = true := by decide +kernel
theorem chkA_all : (List.range nCells).all (fun k => Nat.blt (kd k) 100 || Nat.ble 20000 (kd k) || ((Nat.ble 10000 (kd k) == isLa k) && !isLk k)) = true := by decide +kernel
theorem tel_all : [20001, 20002, 20003].all (fun tg => (List.range nTel).all (fun t => decide (0 ≤ tel tg t) && decide (tel tg t < nCells) && decide (kd (tel tg t).toNat = 17))) = true := by decide +kernel
theorem fv_ok {k : Nat} {ci j : Nat} {M : Mem} (hM : okM M) (hk : k < nCells) (hc : kd k = 10 + ci) (hci : ci < 80) (hj : j < nfl ci) : vok (fv ci j k M) := by
  have h1 := List.all_eq_true.mp chkF_all k (List.mem_range.mpr hk)
  rw [Bool.or_eq_true] at h1
  rcases h1 with h1 | h1
  · rw [Nat.ble_eq] at h1; omega
  rw [show kd k - 10 = ci by omega] at h1
  have h2 := List.all_eq_true.mp h1 j (List.mem_range.mpr hj)
  unfold chkF at h2
  rw [show kd k - 10 = ci by omega] at h2
  unfold fv
  have hm := hM k j
  split
  · rename_i h3
    rw [h3] at h2
    simp only [Bool.and_eq_true, decide_eq_true_eq] at h2
    generalize sfl ci j k = v at h2 ⊢
    obtain ⟨t, x⟩ := v
    simp only at h2
    exact vok_mk (by omega) (by omega) ⟨h2.1.1.2, h2.1.2, h2.2⟩
  · rename_i h3
    rw [h3] at h2
    simp only at h2
    rw [h2, if_pos rfl] at hm
    exact hm
  · rename_i h3 h4
    split at h2
    · rename_i h5; exact absurd h5 h3
    · rename_i h5; exact absurd h5 h4
    · simp only [Bool.not_eq_true'] at h2
      rw [h2, if_neg (by decide)] at hm
      exact hm
theorem fk_nol {k : Nat} {ci j : Nat} (hk : k < nCells) (hc : kd k = 10 + ci) (hci : ci < 80) (hj : j < nfl ci) (h3 : fk ci j ≠ 3) : isL k j = (fk ci j == 1) := by
  have h1 := List.all_eq_true.mp chkF_all k (List.mem_range.mpr hk)
  rw [Bool.or_eq_true] at h1
  rcases h1 with h1 | h1
  · rw [Nat.ble_eq] at h1; omega
  rw [show kd k - 10 = ci by omega] at h1
  have h2 := List.all_eq_true.mp h1 j (List.mem_range.mpr hj)
  unfold chkF at h2
  rw [show kd k - 10 = ci by omega] at h2
  split at h2
  · rename_i h5; exact absurd h5 h3
  · rename_i h5; rw [h5, h2]; rfl
  · rename_i h4 h5
    simp only [Bool.not_eq_true'] at h2
    rw [h2]; symm; simpa using h5
theorem arr_nol {k : Nat} (hk : k < nCells) (h1 : 100 ≤ kd k) (h2 : kd k < 20000) (j : Int) : isL k j = Nat.ble 10000 (kd k) := by
  have h := List.all_eq_true.mp chkA_all k (List.mem_range.mpr hk)
  simp only [Bool.or_eq_true, Bool.and_eq_true, Nat.blt_eq, Nat.ble_eq, beq_iff_eq, Bool.not_eq_true'] at h
  rcases h with (h | h) | h
  · omega
  · omega
  · unfold isL isLo
    rw [h.2, ← h.1]; simp
theorem okM_set {M : Mem} (h : okM M) {k j x : Int} (hx : if isL k j then lr x else ir x) : okM (mset M k j x) := by
  intro a b
  unfold mset
  by_cases e : a = k ∧ b = j
  · obtain ⟨rfl, rfl⟩ := e; simpa using hx
  · rw [if_neg e]; exact h a b
theorem u_ws_g {C : String} {T : u_T} {N : Nat} : ∀ w ∈ u_ws C T N, lw_g w = true := by
  intro w hw
  unfold u_ws at hw
  obtain ⟨k, -, rfl⟩ := List.mem_map.mp hw
  unfold u_lay
  split <;> rfl
section AMH
variable {X : XX} {cc : ByteArray} {own : String} {pc : Nat} {ls st : List AV} {M : Mem}
theorem am_retag {t i : Nat} {x : Int} (h2 : 3 ≤ t) (hlt : t < 30000) (hi : ls[i]? = some (30000 + t, x)) (hut : uns t = false) (h0 : 0 ≤ x) (k : AW X pc (ls.set i (t, x)) st M) : AW X pc ls st M := by
  obtain ⟨V, nL, p, e, R, s, m, args, below, meth, c, cells, slots, A, Q⟩ := X
  intro h1 h2' h3 H locs lsC hP hS hL
  refine k (okL_set h1 i (vok_may h2 hlt (okL_at h1 hi) h0)) h2' h3 H locs lsC hP hS (lv_mono hL fun q hq => ?_)
  obtain ⟨j, w, a1, a2, rfl⟩ := (lvOf_mem _ 0).mp hq
  by_cases hj : j = i
  · subst hj
    rw [List.getElem?_set_self (List.getElem?_eq_some_iff.mp hi).1] at a1
    cases a1
    refine (lvOf_mem _ 0).mpr ⟨j, (30000 + t, x), hi, ?_, ?_⟩
    · exact uns_hi (by omega)
    · match t, h2 with
      | t + 3, _ => rw [cv_ref h0, show 30000 + (t + 3) = (30000 + t) + 3 by omega, cv_ref h0]
  · rw [List.getElem?_set_ne (Ne.symm hj)] at a1
    exact (lvOf_mem _ 0).mpr ⟨j, w, a1, a2, rfl⟩
theorem am_wkS {t : Nat} {x : Int} (h2 : 10 ≤ t) (hu : uns t = false) (hlt : t < 30000) (k : AW X pc ls ((30000 + t, x) :: st) M) : AW X pc ls ((t, x) :: st) M := by
  obtain ⟨V, nL, p, e, R, s, m, args, below, meth, c, cells, slots, A, Q⟩ := X
  intro h1 h2' h3 H locs lsC hP hS hL
  have hv := okL_hd h2'
  have h0 := (vok_ref hv h2 hu hlt).1
  have hk := k h1 (okL_cons (vok_tomay h2 hu hlt hv) (okL_tl h2')) h3 H locs lsC hP hS hL
  rw [List.map_cons] at hk ⊢
  have e1 : cv V.2.2.2.2.2 (30000 + t, x) = cv V.2.2.2.2.2 (t, x) := by
    match t, h2 with
    | t + 3, _ => rw [cv_ref h0, show 30000 + (t + 3) = (30000 + t) + 3 by omega, cv_ref h0]
  rw [e1] at hk
  exact hk
theorem am_getf (G : GX X cc own) (ci j : Nat) {idx : Nat} {C : String} {T : u_T} {N : Nat} {o : Int} {v : AV} (hd : decode cc pc = .ok (.getfield idx, 3)) (hc : vwCl[ci]? = some (C, T, N)) (hin : ∀ w ∈ u_ws C T N, w ∈ lw_tbl) (hj : j < N) (hN : nfl ci = N) (hci : ci < 80)
    (hw : Cond.fieldLink own idx C (T j).2.1 (T j).2.2.1 ∈ lw_tbl) (hT : (T j).1 = C) (hv : fv ci j o M = v) (k : AW X (pc + 3) ls (v :: st) M) : AW X pc ls ((10 + ci, o) :: st) M := by
  obtain ⟨V, nL, p, e, R, s, m, args, below, meth, c, cells, slots, A, Q⟩ := X
  intro h1 h2 h3 H locs lsC hP hS hL
  obtain ⟨g0, g1, g2⟩ := vok_ref (okL_hd h2) (by omega) (uns_lo (by omega)) (by omega)
  obtain ⟨a, rfl⟩ : ∃ a : Nat, o = a := ⟨o.toNat, by omega⟩
  have ha : a < nCells := by omega
  have hka : kd a = 10 + ci := by simpa using g2
  have hcell : (wsOf V M)[a]? = some (V.2.2.2.2.2 + a, .inr (ci, (List.range (nfl ci)).map (fun j => cv V.2.2.2.2.2 (fv ci j a M)))) := by
    rw [wsOf_get V M ha]; unfold cellE
    rw [if_pos (by omega), show kd a - 10 = ci by omega]
  have hvok : vok v := by rw [← hv]; exact fv_ok h3 ha hka hci (by omega)
  have hk := k h1 (okL_cons hvok (okL_tl h2)) h3 H locs lsC hP hS hL
  rw [List.map_cons] at hk ⊢
  rw [show 10 + ci = (7 + ci) + 3 by omega, cv_ref g0]
  refine va_get G.1 G.2.1 (Ts := u_ws C T N) (fun w h => G.2.2.2.2.1.2.use args w (hin w h) (u_ws_g w h)) (fun _ h => h) G.2.2.2.1 G.2.2.2.2.1.1 hP a (by simpa using hcell) hc j hj (G.2.2.2.2.1.2.use args _ hw rfl) (fun x hx => by rw [← hT]; exact hx) ?_ hd hk
  rw [List.getElem?_map, List.getElem?_range (by omega)]
  simp only [Option.map_some]; rw [hv]
theorem fv_set_ne {ci j j' : Nat} {k x : Int} {M : Mem} (h : j' ≠ j) : fv ci j' k (mset M k j x) = fv ci j' k M := by
  unfold fv
  rw [mset_idx M k k (by omega)]
theorem cellE_put {V : VV} {M : Mem} {a ci j : Nat} {x : Int} {w : AV} (hka : kd a = 10 + ci) (hci : ci < 80) (hj : j < nfl ci) (hw : fv ci j a (mset M a j x) = w) :
    cellE V (mset M a j x) a = .inr (ci, ((List.range (nfl ci)).map (fun j => cv V.2.2.2.2.2 (fv ci j a M))).set j (cv V.2.2.2.2.2 w)) := by
  unfold cellE
  rw [if_pos (by omega), show kd a - 10 = ci by omega]
  congr 2
  apply List.ext_getElem?
  intro i
  by_cases hi : i = j
  · subst hi
    rw [List.getElem?_set_self (by simpa using hj), List.getElem?_map, List.getElem?_range hj]
    simp only [Option.map_some]; rw [hw]
  · rw [List.getElem?_set_ne (Ne.symm hi), List.getElem?_map, List.getElem?_map]
    cases hq : (List.range (nfl ci))[i]? with
    | none => rfl
    | some z =>
      have : z = i := by
        have h5 := List.getElem?_eq_some_iff.mp hq
        obtain ⟨h6, h7⟩ := h5
        simpa using h7.symm
      subst this
      simp only [Option.map_some]; rw [fv_set_ne hi]
theorem am_puti (G : GX X cc own) (ci j : Nat) {idx : Nat} {C : String} {T : u_T} {N : Nat} {o x : Int} {ty0 : Nat → FieldType} (hd : decode cc pc = .ok (.putfield idx, 3)) (hc : vwCl[ci]? = some (C, T, N)) (hin : ∀ w ∈ u_ws C T N, w ∈ lw_tbl) (hty : ∀ k, k < N → parseFieldDescriptor (T k).2.2.1 = some (ty0 k)) (hnm : ∀ a, a < N → ∀ b, b < N → a ≠ b → (T a).2.1 ≠ (T b).2.1)
    (hj : j < N) (hN : nfl ci = N) (hci : ci < 80) (hw : Cond.fieldLink own idx C (T j).2.1 (T j).2.2.1 ∈ lw_tbl) (hT : (T j).1 = C) (hfin : (T j).2.2.2 = false) (hi : ty0 j = .int) (hf : fk ci j = 0) (k : AW X (pc + 3) ls st (mset M o j x)) : AW X pc ls ((0, x) :: (10 + ci, o) :: st) M := by
  obtain ⟨V, nL, p, e, R, s, m, args, below, meth, c, cells, slots, A, Q⟩ := X
  intro h1 h2 h3 H locs lsC hP hS hL
  obtain ⟨g0, g1, g2⟩ := vok_ref (okL_hd (okL_tl h2)) (by omega) (uns_lo (by omega)) (by omega)
  obtain ⟨a, rfl⟩ : ∃ a : Nat, o = a := ⟨o.toNat, by omega⟩
  have ha : a < nCells := by omega
  have hka : kd a = 10 + ci := by simpa using g2
  have hcell : (wsOf V M)[a]? = some (V.2.2.2.2.2 + a, .inr (ci, (List.range (nfl ci)).map (fun j => cv V.2.2.2.2.2 (fv ci j a M)))) := by
    rw [wsOf_get V M ha]; unfold cellE
    rw [if_pos (by omega), show kd a - 10 = ci by omega]
  have hx : ir x := okL_hd h2
  have hM' : okM (mset M a j x) := okM_set h3 (by rw [fk_nol ha hka hci (by omega) (by rw [hf]; decide), hf]; exact hx)
  simp only [List.map_cons]
  rw [show 10 + ci = (7 + ci) + 3 by omega, cv_ref g0]
  refine va_put (A := A) G.1 G.2.1 (Ts := u_ws C T N) (fun w h => G.2.2.2.2.1.2.use args w (hin w h) (u_ws_g w h)) (fun _ h => h) ty0 hty hnm G.2.2.2.1 G.2.2.2.2.1.1 hP (wsOf_D V M G.2.2.2.2.2) hS a (by simpa using hcell) hc j hj (G.2.2.2.2.1.2.use args _ hw rfl) (fun x hx => by rw [← hT]; exact hx) hfin (ty := .int) (by rw [hty j hj, hi]) rfl rfl (by simpa using (by omega : j < nfl ci)) hd (fun H1 locs1 hP1 hD1 hS1 => ?_)
  refine k h1 (okL_tl (okL_tl h2)) hM' H1 locs1 lsC ?_ hS1 hL
  rw [← wsOf_set V M ha j x (cellE_put (w := (0, x)) hka hci (by omega) (by unfold fv; rw [hf]; simp only [mset_same]))]
  simpa [cv] using hP1
theorem am_putz (G : GX X cc own) (ci j : Nat) {idx : Nat} {C : String} {T : u_T} {N : Nat} {o x : Int} {ty0 : Nat → FieldType} (hd : decode cc pc = .ok (.putfield idx, 3)) (hc : vwCl[ci]? = some (C, T, N)) (hin : ∀ w ∈ u_ws C T N, w ∈ lw_tbl) (hty : ∀ k, k < N → parseFieldDescriptor (T k).2.2.1 = some (ty0 k)) (hnm : ∀ a, a < N → ∀ b, b < N → a ≠ b → (T a).2.1 ≠ (T b).2.1)
    (hj : j < N) (hN : nfl ci = N) (hci : ci < 80) (hw : Cond.fieldLink own idx C (T j).2.1 (T j).2.2.1 ∈ lw_tbl) (hT : (T j).1 = C) (hfin : (T j).2.2.2 = false) (hi : ty0 j = .boolean) (hf : fk ci j = 2) (hb : narrow .boolean (.int (i32 x)) = .int (i32 x)) (hb2 : fits .boolean (.int (i32 x)) = true) (k : AW X (pc + 3) ls st (mset M o j x)) : AW X pc ls ((0, x) :: (10 + ci, o) :: st) M := by
  obtain ⟨V, nL, p, e, R, s, m, args, below, meth, c, cells, slots, A, Q⟩ := X
  intro h1 h2 h3 H locs lsC hP hS hL
  obtain ⟨g0, g1, g2⟩ := vok_ref (okL_hd (okL_tl h2)) (by omega) (uns_lo (by omega)) (by omega)
  obtain ⟨a, rfl⟩ : ∃ a : Nat, o = a := ⟨o.toNat, by omega⟩
  have ha : a < nCells := by omega
  have hka : kd a = 10 + ci := by simpa using g2
  have hcell : (wsOf V M)[a]? = some (V.2.2.2.2.2 + a, .inr (ci, (List.range (nfl ci)).map (fun j => cv V.2.2.2.2.2 (fv ci j a M)))) := by
    rw [wsOf_get V M ha]; unfold cellE
    rw [if_pos (by omega), show kd a - 10 = ci by omega]
  have hx : ir x := okL_hd h2
  have hM' : okM (mset M a j x) := okM_set h3 (by rw [fk_nol ha hka hci (by omega) (by rw [hf]; decide), hf]; exact hx)
  simp only [List.map_cons]
  rw [show 10 + ci = (7 + ci) + 3 by omega, cv_ref g0]
  refine va_put (A := A) G.1 G.2.1 (Ts := u_ws C T N) (fun w h => G.2.2.2.2.1.2.use args w (hin w h) (u_ws_g w h)) (fun _ h => h) ty0 hty hnm G.2.2.2.1 G.2.2.2.2.1.1 hP (wsOf_D V M G.2.2.2.2.2) hS a (by simpa using hcell) hc j hj (G.2.2.2.2.1.2.use args _ hw rfl) (fun x hx => by rw [← hT]; exact hx) hfin (ty := .boolean) (by rw [hty j hj, hi]) hb hb2 (by simpa using (by omega : j < nfl ci)) hd (fun H1 locs1 hP1 hD1 hS1 => ?_)
  refine k h1 (okL_tl (okL_tl h2)) hM' H1 locs1 lsC ?_ hS1 hL
  rw [← wsOf_set V M ha j x (cellE_put (w := (0, x)) hka hci (by omega) (by unfold fv; rw [hf]; simp only [mset_same]))]
  simpa [cv] using hP1
theorem am_putl (G : GX X cc own) (ci j : Nat) {idx : Nat} {C : String} {T : u_T} {N : Nat} {o x : Int} {ty0 : Nat → FieldType} (hd : decode cc pc = .ok (.putfield idx, 3)) (hc : vwCl[ci]? = some (C, T, N)) (hin : ∀ w ∈ u_ws C T N, w ∈ lw_tbl) (hty : ∀ k, k < N → parseFieldDescriptor (T k).2.2.1 = some (ty0 k)) (hnm : ∀ a, a < N → ∀ b, b < N → a ≠ b → (T a).2.1 ≠ (T b).2.1)
    (hj : j < N) (hN : nfl ci = N) (hci : ci < 80) (hw : Cond.fieldLink own idx C (T j).2.1 (T j).2.2.1 ∈ lw_tbl) (hT : (T j).1 = C) (hfin : (T j).2.2.2 = false) (hi : ty0 j = .long) (hf : fk ci j = 1) (k : AW X (pc + 3) ls st (mset M o j x)) : AW X pc ls ((1, x) :: (10 + ci, o) :: st) M := by
  obtain ⟨V, nL, p, e, R, s, m, args, below, meth, c, cells, slots, A, Q⟩ := X
  intro h1 h2 h3 H locs lsC hP hS hL
  obtain ⟨g0, g1, g2⟩ := vok_ref (okL_hd (okL_tl h2)) (by omega) (uns_lo (by omega)) (by omega)
  obtain ⟨a, rfl⟩ : ∃ a : Nat, o = a := ⟨o.toNat, by omega⟩
  have ha : a < nCells := by omega
  have hka : kd a = 10 + ci := by simpa using g2
  have hcell : (wsOf V M)[a]? = some (V.2.2.2.2.2 + a, .inr (ci, (List.range (nfl ci)).map (fun j => cv V.2.2.2.2.2 (fv ci j a M)))) := by
    rw [wsOf_get V M ha]; unfold cellE
    rw [if_pos (by omega), show kd a - 10 = ci by omega]
  have hx : lr x := okL_hd h2
  have hM' : okM (mset M a j x) := okM_set h3 (by rw [fk_nol ha hka hci (by omega) (by rw [hf]; decide), hf]; exact hx)
  simp only [List.map_cons]
  rw [show 10 + ci = (7 + ci) + 3 by omega, cv_ref g0]
  refine va_put (A := A) G.1 G.2.1 (Ts := u_ws C T N) (fun w h => G.2.2.2.2.1.2.use args w (hin w h) (u_ws_g w h)) (fun _ h => h) ty0 hty hnm G.2.2.2.1 G.2.2.2.2.1.1 hP (wsOf_D V M G.2.2.2.2.2) hS a (by simpa using hcell) hc j hj (G.2.2.2.2.1.2.use args _ hw rfl) (fun x hx => by rw [← hT]; exact hx) hfin (ty := .long) (by rw [hty j hj, hi]) rfl rfl (by simpa using (by omega : j < nfl ci)) hd (fun H1 locs1 hP1 hD1 hS1 => ?_)
  refine k h1 (okL_tl (okL_tl h2)) hM' H1 locs1 lsC ?_ hS1 hL
  rw [← wsOf_set V M ha j x (cellE_put (w := (1, x)) hka hci (by omega) (by unfold fv; rw [hf]; simp only [mset_same]))]
  simpa [cv] using hP1
end AMH
