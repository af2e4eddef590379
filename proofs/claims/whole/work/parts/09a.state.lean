/-! leadings, the least, moved pairs: what they are -/
def Lead (s t : T) (L : List (Nat × Nat)) : Prop := L.Pairwise (fun p q => p.1 < q.1 ∧ p.2 < q.2 ∧ (q.1 < p.1 + sz s p.1 ↔ q.2 < p.2 + sz t p.2)) ∧ ∀ p ∈ L, p.1 < s.length ∧ p.2 < t.length
def renL (s t : T) (L : List (Nat × Nat)) : Nat := (L.filter (fun p => lb s p.1 != lb t p.2)).length
/-- its price -/
def pcL (s t : T) (pr : Int → Int) (L : List (Nat × Nat)) : Int := pr 0 * ((s.length : Int) - L.length) + pr 1 * ((t.length : Int) - L.length) + pr 2 * renL s t L
/-- the partner of node i, or 99 -/
def rowL (L : List (Nat × Nat)) (i : Nat) : Int := match L.find? (fun p => p.1 == i) with
  | some p => p.2
  | none => 99
/-- of the least price, and of these the first by rows -/
def IsLeast (s t : T) (pr : Int → Int) (L : List (Nat × Nat)) : Prop := Lead s t L ∧ ∀ L', Lead s t L' → pcL s t pr L ≤ pcL s t pr L' ∧ (pcL s t pr L' = pcL s t pr L → ∀ i, i < s.length → (∀ j, j < i → rowL L j = rowL L' j) → rowL L i ≤ rowL L' i)
/-- marks of nodes; the nodes of node i's tree get marks -/
def mark (t : T) (u : Nat → Bool) (i : Nat) : Nat → Bool := fun k => u k || (decide (i ≤ k) && decide (k < i + sz t i))
/-- one node's turn: the first free node of t that is alike -/
def mvStep (s t : T) (st : (Nat → Bool) × (Nat → Bool) × List (Nat × Nat)) (x : Nat) : (Nat → Bool) × (Nat → Bool) × List (Nat × Nat) :=
  if st.1 x then st else
    match (List.range t.length).find? (fun y => !st.2.1 y && decide (sub s x = sub t y)) with
    | none => st
    | some y => (mark s st.1 x, mark t st.2.1 y, st.2.2 ++ [(x, y)])
/-- nodes of s by size, greatest first, then as written -/
def mvOrd (s : T) : List Nat := (List.range 16).flatMap (fun d => (List.range s.length).filter (fun x => sz s x == 16 - d))
/-- a node can't move if it or what lies within is led -/
def mvUs (s : T) (L : List (Nat × Nat)) : Nat → Bool := fun x => L.any (fun p => decide (x ≤ p.1) && decide (p.1 < x + sz s x))
def mvUt (t : T) (L : List (Nat × Nat)) : Nat → Bool := fun y => L.any (fun p => decide (y ≤ p.2) && decide (p.2 < y + sz t y))
def mvAll (s t : T) (L : List (Nat × Nat)) : List (Nat × Nat) := ((mvOrd s).foldl (mvStep s t) (mvUs s L, mvUt t L, [])).2.2
def mvNodes (s : T) (P : List (Nat × Nat)) : Nat := (P.map (fun p => sz s p.1)).sum
/-- what the leader and the mover hold is right for s and t -/
def LeadOK (M : Mem) (s t : T) (pr : Int → Int) : Prop := ∃ L, IsLeast s t pr L ∧ M 12 3 = pcL s t pr L ∧ M 12 4 = L.length ∧ M 12 5 = renL s t L ∧ (∀ i : Nat, i < s.length → M 14 i = rowL L i) ∧
  M 20 0 = (mvAll s t L).length ∧ M 20 1 = mvNodes s (mvAll s t L) ∧ ∀ (i : Nat) (p : Nat × Nat), (mvAll s t L)[i]? = some p → M 21 i = p.1 ∧ M 22 i = p.2
/-! the state: pad, trees, left and right trees of rules, their number, prices, steps of the latest walk -/
abbrev St : Type := List Int × (Int → T) × (Int → T) × (Int → T) × Nat × (Int → Int) × Int
abbrev St.pad (σ : St) : List Int := σ.1
abbrev St.tr (σ : St) : Int → T := σ.2.1
abbrev St.lf (σ : St) : Int → T := σ.2.2.1
abbrev St.rt (σ : St) : Int → T := σ.2.2.2.1
abbrev St.nr (σ : St) : Nat := σ.2.2.2.2.1
abbrev St.pr (σ : St) : Int → Int := σ.2.2.2.2.2.1
abbrev St.wk (σ : St) : Int := σ.2.2.2.2.2.2
/-- a tree as the document has it: letters, holes without parts -/
def Wd (t : T) : Prop := Wt t ∧ ∀ p ∈ t, (97 ≤ p.1 ∧ p.1 ≤ 122) ∨ (isH p.1 = true ∧ p.2 = 0)
def holeIn (t : T) (c : Int) : Bool := t.any (fun p => p.1 == c)
/-- a rule: its left is no hole, its right has no other -/
def Wr (l r : T) : Prop := Wd l ∧ Wd r ∧ l ≠ [] ∧ r ≠ [] ∧ isH (lb l 0) = false ∧ ∀ c, isH c = true → holeIn r c = true → holeIn l c = true
def Inv (σ : St) : Prop := σ.pad.length ≤ 60 ∧ (∀ x ∈ σ.pad, 33 ≤ x ∧ x ≤ 126) ∧ (∀ t, 0 ≤ t → t ≤ 5 → Wd (σ.tr t)) ∧ σ.nr ≤ 6 ∧ (∀ r : Int, 0 ≤ r → r < σ.nr → Wr (σ.lf r) (σ.rt r)) ∧ (∀ w, 0 ≤ w → w ≤ 2 → 0 ≤ σ.pr w ∧ σ.pr w ≤ 9) ∧ ir σ.wk
def padAt (M : Mem) (c : Int) (l : List Int) : Prop := ∀ (i : Nat) (x : Int), l[i]? = some x → M c i = x
/-- the model holds the state -/
def RelM (M : Mem) (σ : St) : Prop := M 203 3 = σ.pad.length ∧ padAt M 207 σ.pad ∧ (∀ t, 0 ≤ t → t ≤ 5 → Mt M t (σ.tr t)) ∧ M 203 5 = σ.nr ∧ (∀ r : Int, 0 ≤ r → r < σ.nr → Mt M (6 + r) (σ.lf r) ∧ Mt M (12 + r) (σ.rt r)) ∧ (∀ w, 0 ≤ w → w ≤ 2 → M 208 w = σ.pr w) ∧ M 203 7 = σ.wk
theorem RelM.fr {M M' : Mem} {σ : St} (h : RelM M σ) (hf : ∀ c j, 203 ≤ c → M' c j = M c j) : RelM M' σ := by
  obtain ⟨h1, h2, h3, h4, h5, h6, h7⟩ := h
  have mt : ∀ x t, Mt M x t → Mt M' x t := fun x t hm => ⟨by rw [hf _ _ (by omega)]; exact hm.1, fun i hi => by rw [hf _ _ (by omega), hf _ _ (by omega)]; exact hm.2 i hi⟩
  exact ⟨by rw [hf _ _ (by omega)]; exact h1, fun i x hx => by rw [hf _ _ (by omega)]; exact h2 i x hx, fun t a b => mt _ _ (h3 t a b), by rw [hf _ _ (by omega)]; exact h4, fun r a b => ⟨mt _ _ (h5 r a b).1, mt _ _ (h5 r a b).2⟩, fun w a b => by rw [hf _ _ (by omega)]; exact h6 w a b, by rw [hf _ _ (by omega)]; exact h7⟩
