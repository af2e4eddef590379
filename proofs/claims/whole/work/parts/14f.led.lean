/-! the reference's rows -/
theorem cS_trm {D : Nat → Int} {E : Nat → Nat → Int} {g : Ldg} (d x : Nat) : cS D E g (d + 1) x = trm D E g x + cS D E g d (x + 1) := by
  simp only [cS]
  unfold trm
  cases g x <;> rfl
theorem cS_terms {D D' : Nat → Int} {E E' : Nat → Nat → Int} {g : Ldg} : ∀ (d x : Nat), (∀ a, x ≤ a → a < x + d → trm D E g a = trm D' E' g a) → cS D E g d x = cS D' E' g d x
  | 0, _, _ => rfl
  | d + 1, x, h => by
    have ih := cS_terms d (x + 1) (fun a h1 h2 => h a (by omega) (by omega))
    have h0 := h x (by omega) (by omega)
    rw [cS_trm, cS_trm, ih, h0]
theorem cS_ge {D D' : Nat → Int} {E E' : Nat → Nat → Int} {g : Ldg} : ∀ (d x : Nat), (∀ a, x ≤ a → a < x + d → trm D E g a ≤ trm D' E' g a) → cS D E g d x ≤ cS D' E' g d x
  | 0, _, _ => Int.le_refl _
  | d + 1, x, h => by
    have ih := cS_ge d (x + 1) (fun a h1 h2 => h a (by omega) (by omega))
    have h0 := h x (by omega) (by omega)
    rw [cS_trm, cS_trm]
    omega
theorem cS_far {D : Nat → Int} {E : Nat → Nat → Int} {g : Ldg} {a0 : Nat} : ∀ (d x : Nat), (∀ a, x ≤ a → a < x + d → -9 ≤ trm D E g a) → (x ≤ a0 ∧ a0 < x + d → 99991 ≤ trm D E g a0) → -(9 * (d : Int)) ≤ cS D E g d x ∧ (x ≤ a0 ∧ a0 < x + d → 99991 - 9 * (d : Int) ≤ cS D E g d x)
  | 0, _, _, _ => ⟨by simp [cS], fun h => by omega⟩
  | d + 1, x, h, h' => by
    obtain ⟨i1, i2⟩ := cS_far (g := g) (a0 := a0) d (x + 1) (fun a h1 h2 => h a (by omega) (by omega)) (fun hh => h' (by omega))
    have h0 := h x (by omega) (by omega)
    rw [cS_trm]
    refine ⟨by omega, fun hh => ?_⟩
    by_cases q : a0 = x
    · subst q
      have := h' hh
      omega
    · have := i2 (by omega)
      omega
/-- weights when the rows ahead of i stand, row i may not be dropped (fx), and may be led to k alone -/
def Dw (pr : Int → Int) (g : Ldg) (i : Nat) (fx : Bool) : Nat → Int := fun a => if a < i then (if (g a).isSome then 100000 else pr 0) else if a = i ∧ fx = true then 100000 else pr 0
def Lw (s t : T) (pr : Int → Int) (g : Ldg) (i : Nat) (ko : Option Nat) : Nat → Nat → Int := fun a b => if a < i then (if g a = some b then ldP s t pr a b else 100000) else if a = i ∧ ko ≠ none ∧ ko ≠ some b then 100000 else ldP s t pr a b
theorem PB.row {s t : T} {pr : Int → Int} {g : Ldg} {i : Nat} {fx : Bool} {ko : Option Nat} (hp : PrOK pr) : PB s t (Dw pr g i fx) (Lw s t pr g i ko) (pr 1) := by
  have h0 := hp 0 (by omega) (by omega)
  have h1 := hp 1 (by omega) (by omega)
  have h2 := hp 2 (by omega) (by omega)
  refine ⟨fun a => ?_, fun a b => ?_, by omega, by omega⟩
  · unfold Dw
    split
    · split <;> omega
    · split <;> omega
  · have : 0 ≤ ldP s t pr a b ∧ ldP s t pr a b ≤ 9 := by unfold ldP; split <;> omega
    unfold Lw
    split
    · split <;> omega
    · split <;> omega
/-- the least with row i led to k is the least of all just if some least of all begins so -/
theorem row_try {s t : T} {pr : Int → Int} {g : Ldg} {i k : Nat} {v v0 : Int} (hp : PrOK pr) (s16 : s.length ≤ 16) (t16 : t.length ≤ 16) (hi : i < s.length) (hv0 : LeP s t pr v0) (hv : Mn (sz s) (sz t) (Dw pr g i true) (fun a b => Lw s t pr g i (some k) a b - pr 1) (pr 1) 0 s.length 0 t.length v) : v = v0 ↔ ∃ g', Lead s t g' ∧ pcL s t pr g' = v0 ∧ (∀ a, a < i → g' a = g a) ∧ g' i = some k := by
  have h0 := hp 0 (by omega) (by omega)
  have h1 := hp 1 (by omega) (by omega)
  have h2 := hp 2 (by omega) (by omega)
  have ldb : ∀ a b, 0 ≤ ldP s t pr a b ∧ ldP s t pr a b ≤ 9 := fun a b => by unfold ldP; split <;> omega
  have base : ∀ g', cS (prD pr) (prE s t pr) g' s.length 0 + pr 1 * (t.length : Int) = pcL s t pr g' := fun g' => price_eq
  have e0 : ((t.length : Int) - ((0 : Nat) : Int)) = t.length := by omega
  obtain ⟨⟨gm, m1, m2⟩, m3⟩ := hv
  rw [Nat.sub_zero, e0] at m2
  have ge : ∀ g', pcL s t pr g' ≤ cS (Dw pr g i true) (fun a b => Lw s t pr g i (some k) a b - pr 1) g' s.length 0 + pr 1 * (t.length : Int) := by
    intro g'
    rw [← base g']
    have : cS (prD pr) (prE s t pr) g' s.length 0 ≤ cS (Dw pr g i true) (fun a b => Lw s t pr g i (some k) a b - pr 1) g' s.length 0 := by
      apply cS_ge
      intro a _ _
      unfold trm
      cases g' a with
      | none =>
        simp only
        unfold prD Dw
        split
        · split <;> omega
        · split <;> omega
      | some b =>
        simp only
        have := ldb a b
        show ldP s t pr a b - pr 1 ≤ Lw s t pr g i (some k) a b - pr 1
        unfold Lw
        split
        · split <;> omega
        · split <;> omega
    omega
  constructor
  · intro hvv
    subst hvv
    refine ⟨gm, m1, ?_⟩
    obtain ⟨⟨g0, q1, q2⟩, q3⟩ := hv0
    have pb0 := pcL_bd hp s16 t16 q1
    have conf : ∀ a, a < s.length → trm (Dw pr g i true) (fun a b => Lw s t pr g i (some k) a b - pr 1) gm a < 99991 := by
      intro a0 ha0
      rcases Int.lt_or_le (trm (Dw pr g i true) (fun a b => Lw s t pr g i (some k) a b - pr 1) gm a0) 99991 with w | w
      · exact w
      · exfalso
        have := (cS_far (D := Dw pr g i true) (E := fun a b => Lw s t pr g i (some k) a b - pr 1) (g := gm) (a0 := a0) s.length 0 (fun a _ _ => by
          unfold trm
          have pbb := PB.row (s := s) (t := t) (g := g) (i := i) (fx := true) (ko := some k) hp
          cases gm a with
          | none => have := pbb.1 a; simp only; omega
          | some b => have := pbb.2.1 a b; simp only; omega) (fun _ => w)).2 (by omega)
        have hA : 0 ≤ pr 1 * (t.length : Int) := Int.mul_nonneg h1.1 (by omega)
        omega
    have rows : (∀ a, a < i → gm a = g a) ∧ gm i = some k := by
      refine ⟨fun a ha => ?_, ?_⟩
      · have := conf a (by omega)
        unfold trm at this
        cases hga : gm a with
        | none =>
          rw [hga] at this
          simp only at this
          unfold Dw at this
          rw [if_pos ha] at this
          cases hg : g a with
          | none => rfl
          | some b => rw [hg] at this; simp at this
        | some b =>
          rw [hga] at this
          simp only at this
          unfold Lw at this
          rw [if_pos ha] at this
          by_cases w : g a = some b
          · exact w.symm
          · rw [if_neg w] at this; omega
      · have := conf i hi
        unfold trm at this
        cases hga : gm i with
        | none =>
          rw [hga] at this
          simp only at this
          unfold Dw at this
          rw [if_neg (by omega), if_pos ⟨rfl, rfl⟩] at this
          omega
        | some b =>
          rw [hga] at this
          simp only at this
          unfold Lw at this
          rw [if_neg (by omega)] at this
          by_cases w : k = b
          · rw [w]
          · rw [if_pos ⟨rfl, by simp, by simpa using w⟩] at this; omega
    refine ⟨?_, rows.1, rows.2⟩
    rw [← base gm, ← m2]
    congr 1
    apply cS_terms
    intro a _ ha
    unfold trm
    cases hga : gm a with
    | none =>
      simp only
      unfold prD Dw
      by_cases w : a < i
      · have := rows.1 a w
        rw [hga] at this
        rw [if_pos w, ← this]; simp
      · by_cases w2 : a = i
        · rw [w2, rows.2] at hga; cases hga
        · rw [if_neg w, if_neg (by omega)]
    | some b =>
      simp only
      show ldP s t pr a b - pr 1 = Lw s t pr g i (some k) a b - pr 1
      unfold Lw
      by_cases w : a < i
      · have := rows.1 a w
        rw [hga] at this
        rw [if_pos w, if_pos this.symm]
      · by_cases w2 : a = i
        · subst w2
          rw [rows.2] at hga
          rw [if_neg w, if_neg (by rw [hga]; simp)]
        · rw [if_neg w, if_neg (by omega)]
  · rintro ⟨g', l1, l2, l3, l4⟩
    have c1 := m3 g' l1
    rw [Nat.sub_zero, e0] at c1
    have c2 : cS (Dw pr g i true) (fun a b => Lw s t pr g i (some k) a b - pr 1) g' s.length 0 = cS (prD pr) (prE s t pr) g' s.length 0 := by
      apply cS_terms
      intro a _ ha
      unfold trm
      cases hga : g' a with
      | none =>
        simp only
        unfold prD Dw
        by_cases w : a < i
        · have := l3 a w
          rw [hga] at this
          rw [if_pos w, ← this]; simp
        · by_cases w2 : a = i
          · rw [w2, l4] at hga; cases hga
          · rw [if_neg w, if_neg (by omega)]
      | some b =>
        simp only
        show Lw s t pr g i (some k) a b - pr 1 = ldP s t pr a b - pr 1
        unfold Lw
        by_cases w : a < i
        · have := l3 a w
          rw [hga] at this
          rw [if_pos w, if_pos this.symm]
        · by_cases w2 : a = i
          · subst w2
            rw [l4] at hga
            rw [if_neg w, if_neg (by rw [hga]; simp)]
          · rw [if_neg w, if_neg (by omega)]
    rw [c2, base g', l2] at c1
    have c3 := ge gm
    have c4 := hv0.2 gm m1
    omega
/-- which row is found -/
theorem row_found {s t : T} {pr : Int → Int} {g : Ldg} {i k : Nat} {v0 : Int} (t16 : t.length ≤ 16) (hl : IsLeast s t pr g) (hv0 : LeP s t pr v0) (hi : i < s.length) (hno : ∀ k', k' < k → g i ≠ some k') : (∃ g', Lead s t g' ∧ pcL s t pr g' = v0 ∧ (∀ a, a < i → g' a = g a) ∧ g' i = some k) ↔ g i = some k := by
  obtain ⟨⟨g0, q1, q2⟩, q3⟩ := hv0
  have e : pcL s t pr g = v0 := by
    have a := (hl.2 g0 q1).1
    have b := q3 g hl.1
    omega
  constructor
  · rintro ⟨g', l1, l2, l3, l4⟩
    have hr := (hl.2 g' l1).2 (by omega) i hi (fun j hj => by unfold rowL; rw [l3 j hj])
    unfold rowL at hr
    rw [l4] at hr
    have hk := (l1.1 i k l4).2.2.2
    cases hgi : g i with
    | none => rw [hgi] at hr; simp at hr; omega
    | some b =>
      rw [hgi] at hr
      simp only at hr
      by_cases w : b = k
      · rw [w]
      · exact absurd hgi (hno b (by omega))
  · intro h
    exact ⟨g, hl.1, e, fun _ _ => rfl, h⟩
