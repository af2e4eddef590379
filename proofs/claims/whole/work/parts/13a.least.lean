/-! the least of a sum over leadings -/
def cS (D : Nat → Int) (E : Nat → Nat → Int) (g : Ldg) : Nat → Nat → Int
  | 0, _ => 0
  | d + 1, x => (match g x with | some y => E x y | none => D x) + cS D E g d (x + 1)
section DP
variable {z z' : Nat → Nat} {D : Nat → Int} {E : Nat → Nat → Int} {A : Int} {x e y f : Nat} {g : Ldg}
theorem cS_congr {g' : Ldg} : ∀ (d x : Nat), (∀ a, x ≤ a → a < x + d → g a = g' a) → cS D E g d x = cS D E g' d x
  | 0, _, _ => rfl
  | d + 1, x, h => by
    unfold cS
    rw [h x (by omega) (by omega), cS_congr d (x + 1) (fun a h1 h2 => h a (by omega) (by omega))]
theorem cS_add : ∀ (d d' x : Nat), cS D E g (d + d') x = cS D E g d x + cS D E g d' (x + d)
  | 0, d', x => by simp [cS]
  | d + 1, d', x => by
    rw [show d + 1 + d' = (d + d') + 1 by omega]
    unfold cS
    rw [cS_add d d' (x + 1), show x + 1 + d = x + (d + 1) by omega]
    cases d' <;> (simp only [cS]; omega)
theorem cS_step (hx : x < e) : cS D E g (e - x) x = (match g x with | some y => E x y | none => D x) + cS D E g (e - (x + 1)) (x + 1) := by
  rw [show e - x = (e - (x + 1)) + 1 by omega]; rfl
theorem LG.wk {x' e' y' f' : Nat} (h : LG z z' x' e' y' f' g) (h1 : x ≤ x') (h2 : e' ≤ e) (h3 : y ≤ y') (h4 : f' ≤ f) : LG z z' x e y f g := ⟨fun a b hab => by have := h.1 a b hab; omega, h.2⟩
theorem LG.out {a : Nat} (h : LG z z' x e y f g) (ha : a < x ∨ e ≤ a) : g a = none := by
  cases hg : g a with
  | none => rfl
  | some b => have := h.1 a b hg; omega
theorem LG.drop (h : LG z z' x e y f g) (hx : g x = none) : LG z z' (x + 1) e y f g := ⟨fun a b hab => by
  have h1 := h.1 a b hab
  have : a ≠ x := fun q => by rw [q, hx] at hab; cases hab
  omega, h.2⟩
theorem LG.add (h : LG z z' x e y f g) (hy : ∀ a, g a ≠ some y) : LG z z' x e (y + 1) f g := ⟨fun a b hab => by
  have h1 := h.1 a b hab
  have : b ≠ y := fun q => by rw [q] at hab; exact hy a hab
  omega, h.2⟩
/-- v is the least -/
def Mn (z z' : Nat → Nat) (D : Nat → Int) (E : Nat → Nat → Int) (A : Int) (x e y f : Nat) (v : Int) : Prop := (∃ g, LG z z' x e y f g ∧ cS D E g (e - x) x + A * ((f : Int) - y) = v) ∧ ∀ g, LG z z' x e y f g → v ≤ cS D E g (e - x) x + A * ((f : Int) - y)
theorem Mn.uniq {v v' : Int} (h : Mn z z' D E A x e y f v) (h' : Mn z z' D E A x e y f v') : v = v' := by
  obtain ⟨⟨g, h1, h2⟩, h3⟩ := h
  obtain ⟨⟨g', h1', h2'⟩, h3'⟩ := h'
  have a := h3 g' h1'
  have b := h3' g h1
  omega
theorem LG.nil : LG z z' x e y f (fun _ => none) := ⟨fun a b h => (by cases h), fun a b a' b' h => (by cases h)⟩
theorem mn_nil : Mn z z' D E A e e f f 0 := by
  refine ⟨⟨fun _ => none, LG.nil, ?_⟩, fun g hg => ?_⟩
  · rw [Nat.sub_self]; simp [cS]
  · rw [Nat.sub_self]; simp [cS]
theorem mul_step {y f : Nat} : A * ((f : Int) - y) = A + A * ((f : Int) - ((y + 1 : Nat) : Int)) := by
  rw [show ((f : Int) - y) = 1 + ((f : Int) - ((y + 1 : Nat) : Int)) by omega, Int.mul_add, Int.mul_one]
theorem mn_drop {v : Int} (hx : x < e) (h : Mn z z' D E A (x + 1) e f f v) : Mn z z' D E A x e f f (D x + v) := by
  obtain ⟨⟨g, h1, h2⟩, h3⟩ := h
  refine ⟨⟨g, h1.wk (by omega) (by omega) (by omega) (by omega), ?_⟩, fun g' hg => ?_⟩
  · rw [cS_step hx, h1.out (by omega)]; simp only; omega
  · have hn : g' x = none := by
      cases hq : g' x with
      | none => rfl
      | some b => have := hg.1 x b hq; omega
    have := h3 g' (hg.drop hn)
    rw [cS_step hx, hn]; simp only; omega
theorem mn_add {v : Int} (hy : y < f) (h : Mn z z' D E A e e (y + 1) f v) : Mn z z' D E A e e y f (A + v) := by
  obtain ⟨⟨g, h1, h2⟩, h3⟩ := h
  rw [Nat.sub_self] at h2
  refine ⟨⟨g, h1.wk (by omega) (by omega) (by omega) (by omega), ?_⟩, fun g' hg => ?_⟩
  · rw [Nat.sub_self, mul_step]; omega
  · have := h3 (fun _ => none) LG.nil
    rw [Nat.sub_self] at this ⊢
    simp only [cS] at this ⊢
    rw [mul_step (y := y)]; omega
theorem mn_le1 {v : Int} (hx : x < e) (h : Mn z z' D E A (x + 1) e y f v) : ∃ g, LG z z' x e y f g ∧ cS D E g (e - x) x + A * ((f : Int) - y) = D x + v := by
  obtain ⟨⟨g, h1, h2⟩, h3⟩ := h
  refine ⟨g, h1.wk (by omega) (by omega) (by omega) (by omega), ?_⟩
  rw [cS_step hx, h1.out (by omega)]; simp only; omega
theorem mn_le2 {v : Int} (h : Mn z z' D E A x e (y + 1) f v) : ∃ g, LG z z' x e y f g ∧ cS D E g (e - x) x + A * ((f : Int) - y) = A + v := by
  obtain ⟨⟨g, h1, h2⟩, h3⟩ := h
  refine ⟨g, h1.wk (by omega) (by omega) (by omega) (by omega), ?_⟩
  rw [mul_step]; omega
theorem mn_le3w {v : Int} (hx : x < e) (hy : y < f) (ex : x + z x = e) (ey : y + z' y = f) (h : Mn z z' D E A (x + 1) e (y + 1) f v) : ∃ g, LG z z' x e y f g ∧ cS D E g (e - x) x + A * ((f : Int) - y) = E x y + A + v := by
  obtain ⟨⟨g, h1, h2⟩, h3⟩ := h
  refine ⟨fun a => if a = x then some y else g a, ⟨fun a b hab => ?_, fun a b a' b' hab hab' hlt => ?_⟩, ?_⟩
  · by_cases q : a = x
    · simp only [q, if_true, Option.some.injEq] at hab; omega
    · simp only [q, if_false] at hab
      have := h1.1 a b hab; omega
  · by_cases q' : a' = x
    · by_cases q : a = x
      · omega
      · simp only [q, if_false] at hab
        have := h1.1 a b hab; omega
    · simp only [q', if_false] at hab'
      have r' := h1.1 a' b' hab'
      by_cases q : a = x
      · simp only [q, if_true, Option.some.injEq] at hab
        subst hab
        subst q
        omega
      · simp only [q, if_false] at hab
        exact h1.2 a b a' b' hab hab' hlt
  · rw [cS_step hx, cS_congr (g := fun a => if a = x then some y else g a) (g' := g) (e - (x + 1)) (x + 1) (fun a ha _ => if_neg (by omega)), mul_step]
    simp only [if_true]; omega
theorem mn_le3e {m n : Nat} {u v : Int} (hx : x ≤ m) (hm : m ≤ e) (hy : y ≤ n) (hn : n ≤ f) (nz : ∀ a, x ≤ a → a < m → a + z a ≤ m) (nz' : ∀ b, y ≤ b → b < n → b + z' b ≤ n) (h : Mn z z' D E A x m y n u) (h' : Mn z z' D E A m e n f v) : ∃ g, LG z z' x e y f g ∧ cS D E g (e - x) x + A * ((f : Int) - y) = u + v := by
  obtain ⟨⟨g, h1, h2⟩, h3⟩ := h
  obtain ⟨⟨g', h1', h2'⟩, h3'⟩ := h'
  refine ⟨fun a => if a < m then g a else g' a, ⟨fun a b hab => ?_, fun a b a' b' hab hab' hlt => ?_⟩, ?_⟩
  · by_cases q : a < m
    · simp only [q, if_true] at hab
      have := h1.1 a b hab; omega
    · simp only [q, if_false] at hab
      have := h1'.1 a b hab; omega
  · by_cases q : a < m
    · simp only [q, if_true] at hab
      have r := h1.1 a b hab
      by_cases q' : a' < m
      · simp only [q', if_true] at hab'
        exact h1.2 a b a' b' hab hab' hlt
      · simp only [q', if_false] at hab'
        have r' := h1'.1 a' b' hab'
        have z1 := nz a (by omega) q
        have z2 := nz' b (by omega) (by omega)
        omega
    · have q' : ¬ a' < m := by omega
      simp only [q, if_false] at hab
      simp only [q', if_false] at hab'
      exact h1'.2 a b a' b' hab hab' hlt
  · rw [show e - x = (m - x) + (e - m) by omega, cS_add, show x + (m - x) = m by omega, cS_congr (g := fun a => if a < m then g a else g' a) (g' := g) (m - x) x (fun a _ ha => if_pos (by omega)), cS_congr (g := fun a => if a < m then g a else g' a) (g' := g') (e - m) m (fun a ha _ => if_neg (by omega))]
    have : A * ((f : Int) - y) = A * ((n : Int) - y) + A * ((f : Int) - n) := by rw [← Int.mul_add]; congr 1; omega
    omega
/-- what a leading can be at its first nodes -/
theorem LG.first (h : LG z z' x e y f g) (hy : y < f) : g x = none ∨ (∀ a, g a ≠ some y) ∨ g x = some y := by
  cases hg : g x with
  | none => exact Or.inl rfl
  | some b =>
    by_cases q : b = y
    · right; right; rw [q]
    · right; left
      intro a ha
      have r := h.1 x b hg
      have r' := h.1 a y ha
      rcases Nat.lt_or_ge x a with k | k
      · have := (h.2 x b a y hg ha k).1; omega
      · have : a = x := by omega
        rw [this, hg] at ha
        have := Option.some.inj ha
        omega
theorem mn_stepW {v1 v2 v3 v : Int} (hx : x < e) (hy : y < f) (ex : x + z x = e) (ey : y + z' y = f) (h1 : Mn z z' D E A (x + 1) e y f v1) (h2 : Mn z z' D E A x e (y + 1) f v2) (h3 : Mn z z' D E A (x + 1) e (y + 1) f v3) (l1 : v ≤ D x + v1) (l2 : v ≤ A + v2) (l3 : v ≤ E x y + A + v3) (he : v = D x + v1 ∨ v = A + v2 ∨ v = E x y + A + v3) : Mn z z' D E A x e y f v := by
  refine ⟨?_, fun g hg => ?_⟩
  · rcases he with q | q | q
    · obtain ⟨g, a, b⟩ := mn_le1 hx h1
      exact ⟨g, a, by omega⟩
    · obtain ⟨g, a, b⟩ := mn_le2 h2
      exact ⟨g, a, by omega⟩
    · obtain ⟨g, a, b⟩ := mn_le3w hx hy ex ey h3
      exact ⟨g, a, by omega⟩
  · rcases hg.first hy with q | q | q
    · have := h1.2 g (hg.drop q)
      rw [cS_step hx, q]; simp only; omega
    · have := h2.2 g (hg.add q)
      rw [mul_step]; omega
    · have hg' : LG z z' (x + 1) e (y + 1) f (fun a => if a = x then none else g a) := by
        refine ⟨fun a b hab => ?_, fun a b a' b' hab hab' hlt => ?_⟩
        · by_cases k : a = x
          · simp [k] at hab
          · simp only [k, if_false] at hab
            have r := hg.1 a b hab
            have := (hg.2 x y a b q hab (by omega)).1
            omega
        · by_cases k : a = x
          · simp [k] at hab
          · by_cases k' : a' = x
            · simp [k'] at hab'
            · simp only [k, if_false] at hab
              simp only [k', if_false] at hab'
              exact hg.2 a b a' b' hab hab' hlt
      have := h3.2 _ hg'
      rw [cS_congr (g := fun a => if a = x then none else g a) (g' := g) (e - (x + 1)) (x + 1) (fun a ha _ => if_neg (by omega))] at this
      rw [cS_step hx, q, mul_step]; simp only; omega
theorem mn_stepE {v1 v2 u v3 v : Int} (hx : x < e) (hy : y < f) (zx : 1 ≤ z x) (zy : 1 ≤ z' y) (ex : x + z x ≤ e) (ey : y + z' y ≤ f) (nz : ∀ a, x ≤ a → a < x + z x → a + z a ≤ x + z x) (nz' : ∀ b, y ≤ b → b < y + z' y → b + z' b ≤ y + z' y) (h1 : Mn z z' D E A (x + 1) e y f v1) (h2 : Mn z z' D E A x e (y + 1) f v2) (ht : Mn z z' D E A x (x + z x) y (y + z' y) u) (h3 : Mn z z' D E A (x + z x) e (y + z' y) f v3) (l1 : v ≤ D x + v1) (l2 : v ≤ A + v2) (l3 : v ≤ u + v3) (he : v = D x + v1 ∨ v = A + v2 ∨ v = u + v3) : Mn z z' D E A x e y f v := by
  refine ⟨?_, fun g hg => ?_⟩
  · rcases he with q | q | q
    · obtain ⟨g, a, b⟩ := mn_le1 hx h1
      exact ⟨g, a, by omega⟩
    · obtain ⟨g, a, b⟩ := mn_le2 h2
      exact ⟨g, a, by omega⟩
    · obtain ⟨g, a, b⟩ := mn_le3e (by omega) ex (by omega) ey nz nz' ht h3
      exact ⟨g, a, by omega⟩
  · rcases hg.first hy with q | q | q
    · have := h1.2 g (hg.drop q)
      rw [cS_step hx, q]; simp only; omega
    · have := h2.2 g (hg.add q)
      rw [mul_step]; omega
    · have hg1 : LG z z' x (x + z x) y (y + z' y) (fun a => if a < x + z x then g a else none) := by
        refine ⟨fun a b hab => ?_, fun a b a' b' hab hab' hlt => ?_⟩
        · by_cases k : a < x + z x
          · simp only [k, if_true] at hab
            have r := hg.1 a b hab
            by_cases ka : a = x
            · subst ka
              rw [q] at hab
              have := Option.some.inj hab
              omega
            · have := (hg.2 x y a b q hab (by omega)).2
              omega
          · simp [k] at hab
        · by_cases k : a < x + z x
          · by_cases k' : a' < x + z x
            · simp only [k, if_true] at hab
              simp only [k', if_true] at hab'
              exact hg.2 a b a' b' hab hab' hlt
            · simp [k'] at hab'
          · simp [k] at hab
      have hg2 : LG z z' (x + z x) e (y + z' y) f (fun a => if a < x + z x then none else g a) := by
        refine ⟨fun a b hab => ?_, fun a b a' b' hab hab' hlt => ?_⟩
        · by_cases k : a < x + z x
          · simp [k] at hab
          · simp only [k, if_false] at hab
            have r := hg.1 a b hab
            have := (hg.2 x y a b q hab (by omega)).2
            omega
        · by_cases k : a < x + z x
          · simp [k] at hab
          · have k' : ¬ a' < x + z x := by omega
            simp only [k, if_false] at hab
            simp only [k', if_false] at hab'
            exact hg.2 a b a' b' hab hab' hlt
      have a1 := ht.2 _ hg1
      have a2 := h3.2 _ hg2
      rw [cS_congr (g := fun a => if a < x + z x then g a else none) (g' := g) (x + z x - x) x (fun a _ ha => if_pos (by omega))] at a1
      rw [cS_congr (g := fun a => if a < x + z x then none else g a) (g' := g) (e - (x + z x)) (x + z x) (fun a ha _ => if_neg (by omega))] at a2
      have e1 : A * ((f : Int) - y) = A * (((y + z' y : Nat) : Int) - y) + A * ((f : Int) - ((y + z' y : Nat) : Int)) := by rw [← Int.mul_add]; congr 1; omega
      have e2 : cS D E g (e - x) x = cS D E g (x + z x - x) x + cS D E g (e - (x + z x)) (x + z x) := by
        rw [show e - x = (x + z x - x) + (e - (x + z x)) by omega, cS_add, show x + (x + z x - x) = x + z x by omega]
      omega
end DP
