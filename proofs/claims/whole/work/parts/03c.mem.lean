/-! values (kind, number), memory (cell, place), and the world of the heap that they stand for -/
abbrev AV : Type := Nat × Int
abbrev Mem : Type := Int → Int → Int
def mset (M : Mem) (k j v : Int) : Mem := fun a b => if a = k ∧ b = j then v else M a b
theorem mset_same (M : Mem) (k j v : Int) : mset M k j v k j = v := by simp [mset]
theorem mset_cell (M : Mem) {k a : Int} (h : a ≠ k) (j b v : Int) : mset M k j v a b = M a b := by simp [mset, h]
theorem mset_idx (M : Mem) (k a : Int) {j b : Int} (h : b ≠ j) (v : Int) : mset M k j v a b = M a b := by simp [mset, h]
/-- the launch, the classes' numbers and slots, three array classes, the first cell's address -/
abbrev VV : Type := Launch × va_G × ClassId × ClassId × ClassId × Nat
def cv (s0 : Nat) (v : AV) : Value := match v.1 with
  | 0 => .int (i32 v.2)
  | 1 => .long (i64 v.2)
  | 2 => .ref v.2.toNat
  | _ => if v.2 < 0 then .null else .ref (s0 + v.2.toNat)
/-- what a field of an object holds -/
def fv (ci j : Nat) (k : Int) (M : Mem) : AV := match fk ci j with
  | 3 => sfl ci j k
  | 1 => (1, M k j)
  | _ => (0, M k j)
def cellE (V : VV) (M : Mem) (k : Nat) : va_E :=
  if kd k < 100 then .inr (kd k - 10, (List.range (nfl (kd k - 10))).map (fun j => cv V.2.2.2.2.2 (fv (kd k - 10) j k M)))
  else if kd k < 10000 then .inl (V.2.2.1, kd k - 100, .inl (fun j => i32 (M k j)))
  else if kd k < 20000 then .inl (V.2.2.2.1, kd k - 10000, .inr (.inl (fun j => i64 (M k j))))
  else .inl (V.2.2.2.2.1, nTel, .inr (.inr (.inr (.inr (fun j => if j < nTel then some (V.2.2.2.2.2 + (tel (kd k) j).toNat) else none)))))
def wsOf (V : VV) (M : Mem) : va_W := (List.range nCells).map (fun k => (V.2.2.2.2.2 + k, cellE V M k))
abbrev tysOf (V : VV) : List (ClassId × FieldType) := [(V.2.2.1, .int), (V.2.2.2.1, .long), (V.2.2.2.2.1, .object treeC)]
def nestW : Cond → Bool
  | .methodLinkNest .. => true
  | _ => false
/-- the words that read the tables alone and stay -/
def lw_g (w : Cond) : Bool := w.onTables && (w.keeps || nestW w)
def Tb (U : State) : Prop := ∀ w ∈ lw_tbl, lw_g w = true → va_Nw w U
def wK (V : VV) (U : State) : Prop := va_K V.2.1 vwCl (tysOf V) U ∧ Tb U
def wA (V : VV) : Nat → Prop := fun q => V.2.2.2.2.2 ≤ q ∧ q < V.2.2.2.2.2 + nCells
def okM (M : Mem) : Prop := ∀ k j, if isL k j then lr (M k j) else ir (M k j)
def vok (v : AV) : Prop := match v.1 with
  | 0 => ir v.2
  | 1 => lr v.2
  | 2 => True
  | t => if 90 ≤ t ∧ t < 100 then True else if t < 30000 then 0 ≤ v.2 ∧ v.2 < nCells ∧ kd v.2.toNat = t else v.2 = -1 ∨ (0 ≤ v.2 ∧ v.2 < nCells ∧ kd v.2.toNat + 30000 = t)
def okL (l : List AV) : Prop := ∀ v ∈ l, vok v
theorem okL_nil : okL [] := fun _ h => absurd h List.not_mem_nil
theorem okL_cons {v : AV} {l : List AV} (h : vok v) (hl : okL l) : okL (v :: l) := fun w hw => by
  rcases List.mem_cons.mp hw with rfl | hw
  · exact h
  · exact hl w hw
theorem okL_hd {v : AV} {l : List AV} (h : okL (v :: l)) : vok v := h v List.mem_cons_self
theorem okL_tl {v : AV} {l : List AV} (h : okL (v :: l)) : okL l := fun w hw => h w (List.mem_cons_of_mem _ hw)
theorem okL_at {l : List AV} {i : Nat} {v : AV} (h : okL l) (hi : l[i]? = some v) : vok v := h v (List.mem_of_getElem? hi)
theorem okL_set {l : List AV} (h : okL l) (i : Nat) {v : AV} (hv : vok v) : okL (l.set i v) := fun w hw => by
  rcases List.mem_or_eq_of_mem_set hw with hw | rfl
  · exact h w hw
  · exact hv
theorem okL_drop {l : List AV} (n : Nat) (h : okL l) : okL (l.drop n) := fun w hw => h w (List.mem_of_mem_drop hw)
-- locals by their slots
def uns (t : Nat) : Bool := Nat.ble 90 t && Nat.blt t 100
def lvOf (s0 : Nat) : Nat → List AV → List (Nat × Value)
  | _, [] => []
  | i, v :: l => if uns v.1 = true then lvOf s0 (i + 1) l else (i, cv s0 v) :: lvOf s0 (i + 1) l
theorem lvOf_mem {s0 : Nat} {q : Nat × Value} : ∀ (l : List AV) (i : Nat), q ∈ lvOf s0 i l ↔ ∃ j v, l[j]? = some v ∧ uns v.1 = false ∧ q = (i + j, cv s0 v)
  | [], i => by simp [lvOf]
  | w :: l, i => by
    unfold lvOf
    have ih := lvOf_mem (s0 := s0) (q := q) l (i + 1)
    have key : (∃ j v, (w :: l)[j]? = some v ∧ uns v.1 = false ∧ q = (i + j, cv s0 v)) ↔ (uns w.1 = false ∧ q = (i, cv s0 w)) ∨ ∃ j v, l[j]? = some v ∧ uns v.1 = false ∧ q = (i + 1 + j, cv s0 v) := by
      constructor
      · rintro ⟨j, v, h1, h2, h3⟩
        cases j with
        | zero => simp at h1; subst h1; exact Or.inl ⟨h2, h3⟩
        | succ j => simp at h1; exact Or.inr ⟨j, v, h1, h2, by rw [h3]; congr 1; omega⟩
      · rintro (⟨h2, h3⟩ | ⟨j, v, h1, h2, h3⟩)
        · exact ⟨0, w, rfl, h2, h3⟩
        · exact ⟨j + 1, v, h1, h2, by rw [h3]; congr 1; omega⟩
    rw [key]
    by_cases hu : uns w.1 = true
    · simp [hu, ih]
    · have hu' : uns w.1 = false := by simpa using hu
      rw [if_neg hu, List.mem_cons, ih]
      exact ⟨fun h => h.elim (fun h => Or.inl ⟨hu', h⟩) Or.inr, fun h => h.elim (fun h => Or.inl h.2) Or.inr⟩
theorem lvOf_at {s0 nL : Nat} {ls : Array Slot} {l : List AV} {i : Nat} {v : AV} (h : lv_has ls nL (lvOf s0 0 l)) (hi : l[i]? = some v) (hu : uns v.1 = false) : ls[i]? = some (.val (cv s0 v)) := by
  have := h.2.2 (i, cv s0 v) ((lvOf_mem l 0).mpr ⟨i, v, hi, hu, by simp⟩)
  exact this
theorem lv_mono {nL : Nat} {ls : Array Slot} {l l' : List (Nat × Value)} (h : lv_has ls nL l) (hs : ∀ q ∈ l', q ∈ l) : lv_has ls nL l' := ⟨h.1, h.2.1, fun q hq => h.2.2 q (hs q hq)⟩
/-- no long lies in the slot ahead -/
def nolong (l : List AV) (i : Nat) : Bool := match i with
  | 0 => true
  | j + 1 => match l[j]? with
    | some (1, _) => false
    | _ => true
theorem cv_cat (s0 : Nat) {v : AV} (h : v.1 ≠ 1) : (cv s0 v).category = 1 := by
  obtain ⟨t, x⟩ := v
  match t, h with
  | 0, _ => rfl
  | 2, _ => rfl
  | t + 3, _ =>
    show (if x < 0 then Value.null else Value.ref (s0 + x.toNat)).category = 1
    split <;> rfl
theorem lvOf_set {s0 nL i : Nat} {ls : Array Slot} {l : List AV} {v : AV} {f : Nat × Value → Bool} (hf : ∀ q, f q = (!(q.1 == i) && !(q.1 + 1 == i && q.2.category == 2))) (hn : nolong l i = true)
    (h : lv_has ls nL ((i, cv s0 v) :: (lvOf s0 0 l).filter f)) : lv_has ls nL (lvOf s0 0 (l.set i v)) := by
  refine lv_mono h fun q hq => ?_
  obtain ⟨j, w, h1, h2, rfl⟩ := (lvOf_mem _ 0).mp hq
  simp only [Nat.zero_add]
  by_cases hj : j = i
  · subst hj
    have hlt : j < (l.set j v).length := (List.getElem?_eq_some_iff.mp h1).1
    rw [List.length_set] at hlt
    rw [List.getElem?_set_self hlt] at h1
    cases h1
    exact List.mem_cons_self
  · rw [List.getElem?_set_ne (Ne.symm hj)] at h1
    refine List.mem_cons_of_mem _ (List.mem_filter.mpr ⟨(lvOf_mem _ 0).mpr ⟨j, w, h1, h2, by simp⟩, ?_⟩)
    rw [hf]
    have a1 : (j == i) = false := by simpa using hj
    simp only [a1, Bool.not_false, Bool.true_and, Bool.not_eq_true', Bool.and_eq_false_iff]
    by_cases hji : j + 1 = i
    · refine Or.inr ?_
      subst hji
      have hw : w.1 ≠ 1 := by
        intro hw
        obtain ⟨t, x⟩ := w
        simp only at hw
        subst hw
        simp [nolong, h1] at hn
      simp [cv_cat s0 hw]
    · exact Or.inl (by simpa using hji)
theorem lvOf_setL {s0 nL i : Nat} {ls : Array Slot} {l : List AV} {x : Int} {f : Nat × Value → Bool} (hf : ∀ q, f q = (!(q.1 == i) && (!(q.1 == i + 1) && !(q.1 + 1 == i && q.2.category == 2)))) (hn : nolong l i = true)
    (h : lv_has ls nL ((i, .long (i64 x)) :: (lvOf s0 0 l).filter f)) : lv_has ls nL (lvOf s0 0 ((l.set i (1, x)).set (i + 1) (98, 0))) := by
  refine lv_mono h fun q hq => ?_
  obtain ⟨j, w, h1, h2, rfl⟩ := (lvOf_mem _ 0).mp hq
  simp only [Nat.zero_add]
  by_cases hj1 : j = i + 1
  · subst hj1
    have hlt : i + 1 < ((l.set i (1, x)).set (i + 1) (98, 0)).length := (List.getElem?_eq_some_iff.mp h1).1
    rw [List.length_set] at hlt
    rw [List.getElem?_set_self hlt] at h1
    cases h1
    exact absurd h2 (by decide)
  rw [List.getElem?_set_ne (Ne.symm hj1)] at h1
  by_cases hj : j = i
  · subst hj
    have hlt : j < (l.set j (1, x)).length := (List.getElem?_eq_some_iff.mp h1).1
    rw [List.length_set] at hlt
    rw [List.getElem?_set_self hlt] at h1
    cases h1
    exact List.mem_cons_self
  · rw [List.getElem?_set_ne (Ne.symm hj)] at h1
    refine List.mem_cons_of_mem _ (List.mem_filter.mpr ⟨(lvOf_mem _ 0).mpr ⟨j, w, h1, h2, by simp⟩, ?_⟩)
    rw [hf]
    have a1 : (j == i) = false := by simpa using hj
    have a2 : (j == i + 1) = false := by simpa using hj1
    simp only [a1, a2, Bool.not_false, Bool.true_and, Bool.not_eq_true', Bool.and_eq_false_iff]
    by_cases hji : j + 1 = i
    · refine Or.inr ?_
      subst hji
      have hw : w.1 ≠ 1 := by
        intro hw
        obtain ⟨t, x⟩ := w
        simp only at hw
        subst hw
        simp [nolong, h1] at hn
      simp [cv_cat s0 hw]
    · exact Or.inl (by simpa using hji)
/-- locals that are known less of -/
def lsub : List AV → List AV → Prop
  | [], _ => True
  | v :: l, w :: r => (uns v.1 = true ∨ v = w) ∧ lsub l r
  | _ :: _, [] => False
theorem lsub_at : ∀ {l r : List AV} (_ : lsub l r) {j : Nat} {v : AV}, l[j]? = some v → uns v.1 = false → r[j]? = some v
  | [], r, _, j, v, h1, _ => by simp at h1
  | _ :: _, [], h, _, _, _, _ => absurd h (by simp [lsub])
  | w :: l, z :: r, h, j, v, h1, h2 => by
    obtain ⟨ha, hb⟩ := h
    cases j with
    | zero =>
      simp at h1; subst h1
      rcases ha with ha | rfl
      · rw [h2] at ha; cases ha
      · rfl
    | succ j => exact lsub_at hb (by simpa using h1) h2
theorem vok_uns {v : AV} (h : uns v.1 = true) : vok v := by
  obtain ⟨t, x⟩ := v
  have h : uns t = true := h
  simp only [uns, Bool.and_eq_true, Nat.ble_eq, Nat.blt_eq] at h
  match t, h with
  | 0, h => omega
  | 1, h => omega
  | 2, h => omega
  | t + 3, h =>
    show (if 90 ≤ t + 3 ∧ t + 3 < 100 then True else _)
    rw [if_pos h]; trivial
theorem lsub_ok : ∀ {l r : List AV}, lsub l r → okL r → okL l
  | [], _, _, _ => okL_nil
  | _ :: _, [], h, _ => absurd h (by simp [lsub])
  | w :: l, z :: r, h, hr => by
    obtain ⟨ha, hb⟩ := h
    refine okL_cons ?_ (lsub_ok hb (okL_tl hr))
    rcases ha with ha | rfl
    · exact vok_uns ha
    · exact okL_hd hr
