/-! leadings, the least, moved pairs: what they are -/
abbrev Ldg : Type := Nat → Option Nat
/-- a leading of nodes x to e - 1 to nodes y to f - 1, by their sizes -/
def LG (z z' : Nat → Nat) (x e y f : Nat) (g : Ldg) : Prop := (∀ a b, g a = some b → x ≤ a ∧ a < e ∧ y ≤ b ∧ b < f) ∧ ∀ a b a' b', g a = some b → g a' = some b' → a < a' → b < b' ∧ (a' < a + z a ↔ b' < b + z' b)
def Lead (s t : T) (g : Ldg) : Prop := LG (sz s) (sz t) 0 s.length 0 t.length g
def ledN (s : T) (g : Ldg) : Nat := (List.range s.length).countP (fun a => (g a).isSome)
def renN (s t : T) (g : Ldg) : Nat := (List.range s.length).countP (fun a => match g a with | some b => lb s a != lb t b | none => false)
/-- its price -/
def pcL (s t : T) (pr : Int → Int) (g : Ldg) : Int := pr 0 * ((s.length : Int) - ledN s g) + pr 1 * ((t.length : Int) - ledN s g) + pr 2 * renN s t g
/-- the partner of node i, or 99 -/
def rowL (g : Ldg) (i : Nat) : Int := match g i with
  | some b => b
  | none => 99
/-- of the least price, and of these the first by rows -/
def IsLeast (s t : T) (pr : Int → Int) (g : Ldg) : Prop := Lead s t g ∧ ∀ g', Lead s t g' → pcL s t pr g ≤ pcL s t pr g' ∧ (pcL s t pr g' = pcL s t pr g → ∀ i, i < s.length → (∀ j, j < i → rowL g j = rowL g' j) → rowL g i ≤ rowL g' i)
/-- marks of nodes; the nodes of node i's tree get marks -/
def mark (t : T) (u : Nat → Bool) (i : Nat) : Nat → Bool := fun k => u k || (decide (i ≤ k) && decide (k < i + sz t i))
/-- one node's turn: the first free node of t that is alike -/
def mvStep (s t : T) (st : (Nat → Bool) × (Nat → Bool) × List (Nat × Nat)) (x : Nat) : (Nat → Bool) × (Nat → Bool) × List (Nat × Nat) :=
  if st.1 x then st else
    match (List.range t.length).find? (fun y => !st.2.1 y && decide (sub s x = sub t y)) with
    | none => st
    | some y => (mark s st.1 x, mark t st.2.1 y, st.2.2 ++ [(x, y)])
/-- nodes of s by size, greatest first, then as written -/
def mvOrd (s : T) : List Nat := (List.range 16).flatMap (fun d => (List.range s.length).filter (fun x => sz s x == 16 - d))
/-- a node can't move if it or what lies within is led -/
def mvUs (s : T) (g : Ldg) : Nat → Bool := fun x => (List.range s.length).any (fun a => decide (x ≤ a) && decide (a < x + sz s x) && (g a).isSome)
def mvUt (s t : T) (g : Ldg) : Nat → Bool := fun y => (List.range s.length).any (fun a => match g a with | some b => decide (y ≤ b) && decide (b < y + sz t y) | none => false)
def mvAll (s t : T) (g : Ldg) : List (Nat × Nat) := ((mvOrd s).foldl (mvStep s t) (mvUs s g, mvUt s t g, [])).2.2
def mvNodes (s : T) (P : List (Nat × Nat)) : Nat := (P.map (fun p => sz s p.1)).sum
/-- what the leader and the mover hold is right for s and t -/
def LeadOK (M : Mem) (s t : T) (pr : Int → Int) : Prop := ∃ L, IsLeast s t pr L ∧ M 12 3 = pcL s t pr L ∧ M 12 4 = ledN s L ∧ M 12 5 = renN s t L ∧ (∀ i : Nat, i < s.length → M 14 i = rowL L i) ∧
  M 20 0 = (mvAll s t L).length ∧ M 20 1 = mvNodes s (mvAll s t L) ∧ ∀ (i : Nat) (p : Nat × Nat), (mvAll s t L)[i]? = some p → M 21 i = p.1 ∧ M 22 i = p.2
/-! the state: pad, trees, left and right trees of rules, their number, prices, steps of the latest walk -/
abbrev St : Type := List Int × (Int → T) × (Int → T) × (Int → T) × Nat × (Int → Int) × Int
abbrev St.pad (σ : St) : List Int := σ.1
abbrev St.tr (σ : St) : Int → T := σ.2.1
abbrev St.lf (σ : St) : Int → T := σ.2.2.1
abbrev St.rt (σ : St) : Int → T := σ.2.2.2.1
abbrev St.nr (σ : St) : Nat := σ.2.2.2.2.1
abbrev St.pr (σ : St) : Int → Int := σ.2.2.2.2.2.1
abbrev St.wk (σ : St) : Int := σ.2.2.2.2.2.2
/-- a tree as the document has it: letters, holes without parts -/
def Wd (t : T) : Prop := Wt t ∧ ∀ p ∈ t, (97 ≤ p.1 ∧ p.1 ≤ 122) ∨ (isH p.1 = true ∧ p.2 = 0)
def holeIn (t : T) (c : Int) : Bool := t.any (fun p => p.1 == c)
/-- a rule: its left is no hole, its right has no other -/
def Wr (l r : T) : Prop := Wd l ∧ Wd r ∧ l ≠ [] ∧ r ≠ [] ∧ isH (lb l 0) = false ∧ ∀ c, isH c = true → holeIn r c = true → holeIn l c = true
def Inv (σ : St) : Prop := σ.pad.length ≤ 60 ∧ (∀ x ∈ σ.pad, 33 ≤ x ∧ x ≤ 126) ∧ (∀ t, 0 ≤ t → t ≤ 5 → Wd (σ.tr t)) ∧ σ.nr ≤ 6 ∧ (∀ r : Int, 0 ≤ r → r < σ.nr → Wr (σ.lf r) (σ.rt r)) ∧ (∀ w, 0 ≤ w → w ≤ 2 → 0 ≤ σ.pr w ∧ σ.pr w ≤ 9) ∧ ir σ.wk
def padAt (M : Mem) (c : Int) (l : List Int) : Prop := ∀ (i : Nat) (x : Int), l[i]? = some x → M c i = x
/-- the model holds the state -/
def RelM (M : Mem) (σ : St) : Prop := M 203 3 = σ.pad.length ∧ padAt M 207 σ.pad ∧ (∀ t, 0 ≤ t → t ≤ 5 → Mt M t (σ.tr t)) ∧ M 203 5 = σ.nr ∧ (∀ r : Int, 0 ≤ r → r < σ.nr → Mt M (6 + r) (σ.lf r) ∧ Mt M (12 + r) (σ.rt r)) ∧ (∀ w, 0 ≤ w → w ≤ 2 → M 208 w = σ.pr w) ∧ M 203 7 = σ.wk
theorem RelM.fr {M M' : Mem} {σ : St} (h : RelM M σ) (hf : ∀ c j, 203 ≤ c → M' c j = M c j) : RelM M' σ := by
  obtain ⟨h1, h2, h3, h4, h5, h6, h7⟩ := h
  have mt : ∀ x t, Mt M x t → Mt M' x t := fun x t hm => ⟨by rw [hf _ _ (by omega)]; exact hm.1, fun i hi => by rw [hf _ _ (by omega), hf _ _ (by omega)]; exact hm.2 i hi⟩
  exact ⟨by rw [hf _ _ (by omega)]; exact h1, fun i x hx => by rw [hf _ _ (by omega)]; exact h2 i x hx, fun t a b => mt _ _ (h3 t a b), by rw [hf _ _ (by omega)]; exact h4, fun r a b => ⟨mt _ _ (h5 r a b).1, mt _ _ (h5 r a b).2⟩, fun w a b => by rw [hf _ _ (by omega)]; exact h6 w a b, by rw [hf _ _ (by omega)]; exact h7⟩
