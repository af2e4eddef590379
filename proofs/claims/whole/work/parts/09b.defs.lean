/-! fitting, doing, walking; overlaps: what they are -/
abbrev EnvT : Type := Int → Option T
def eset (env : EnvT) (c : Int) (s : T) : EnvT := fun d => if d = c then some s else env d
/-- the pattern put to what is written from a node on -/
def mtc : T → T → EnvT → Option EnvT
  | [], _, env => some env
  | p :: ps, l, env =>
    if isH p.1 then
      match env p.1 with
      | none => mtc ps (l.drop (fp 1 l)) (eset env p.1 (l.take (fp 1 l)))
      | some s => if s = l.take (fp 1 l) then mtc ps (l.drop (fp 1 l)) env else none
    else
      match l with
      | [] => none
      | q :: l' => if p = q then mtc ps l' env else none
def env0 : EnvT := fun _ => none
def fitAt (l t : T) (i : Nat) : Option EnvT := mtc l (t.drop i) env0
/-- a tree with its holes put -/
def inst (r : T) (env : EnvT) : T := r.flatMap (fun p => if isH p.1 then (env p.1).getD [] else [p])
def doneAt (r t : T) (i : Nat) (env : EnvT) : T := t.take i ++ inst r env ++ t.drop (i + sz t i)
/-- nodes in their turn: as written, or each behind all that lies within it -/
def postI (t : T) (i : Nat) : Nat := i + sz t i - dep t i - 1
def ordOf (within : Bool) (t : T) (k : Nat) : Nat := if within then ((List.range t.length).find? (fun i => postI t i == k)).getD k else k
/-- the first node and rule that fit -/
def firstFit (lf : Int → T) (nr : Nat) (within : Bool) (t : T) : Option (Nat × Nat × EnvT) :=
  (List.range t.length).findSome? (fun k => (List.range nr).findSome? (fun (r : Nat) => (fitAt (lf r) t (ordOf within t k)).map (fun env => (ordOf within t k, r, env))))
/-- a walk: how it ends, its steps, its last tree -/
def walkGo (lf rt : Int → T) (nr : Nat) (within : Bool) : Nat → List T → T → Int × Nat × T
  | 0, past, t => (3, past.length, t)
  | f + 1, past, t =>
    if t ∈ past then (1, past.length, t) else
      match firstFit lf nr within t with
      | none => (0, past.length, t)
      | some (i, r, env) =>
        if past.length = 100 then (3, past.length, t) else
          if 16 < (doneAt (rt r) t i env).length then (2, past.length, t) else
            walkGo lf rt nr within f (past ++ [t]) (doneAt (rt r) t i env)
def walkF (lf rt : Int → T) (nr : Nat) (within : Bool) (t : T) : Int × Nat × T := walkGo lf rt nr within 101 [] t
/-! overlaps. Holes of the first rule become variables -1 .. -8, of the second -9 .. -16 -/
def varA (t : T) : T := t.map (fun p => if isH p.1 then (64 - p.1, p.2) else p)
def varB (t : T) : T := t.map (fun p => if isH p.1 then (56 - p.1, p.2) else p)
/-- trees put for variables -/
def app (θ : Int → T) (t : T) : T := t.flatMap (fun p => if p.1 < 0 then θ p.1 else [p])
def okθ (θ : Int → T) : Prop := ∀ v, v < 0 → ok 1 (θ v) ∧ ∀ p ∈ θ v, p.1 < 0 → p.2 = 0
def Unif (θ : Int → T) (a b : T) : Prop := okθ θ ∧ app θ a = app θ b
/-- the most general way -/
def Mgu (θ : Int → T) (a b : T) : Prop := Unif θ a b ∧ ∀ τ, Unif τ a b → ∃ ρ, okθ ρ ∧ ∀ v, v < 0 → τ v = app ρ (θ v)
/-- tree a with b in the place of node i -/
def repl (a : T) (i : Nat) (b : T) : T := a.take i ++ b ++ a.drop (i + sz a i)
def kindOf (lf rt : Int → T) (nr : Nat) (a b : Int) (i : Nat) (θ : Int → T) : Int :=
  if 16 < (app θ (varA (lf a))).length ∨ 16 < (app θ (varA (rt a))).length ∨ 16 < (app θ (repl (varA (lf a)) i (varB (rt b)))).length then 3 else
    if (walkF lf rt nr true (app θ (varA (rt a)))).1 = 0 ∧ (walkF lf rt nr true (app θ (repl (varA (lf a)) i (varB (rt b))))).1 = 0 ∧
      (walkF lf rt nr true (app θ (varA (rt a)))).2.2 = (walkF lf rt nr true (app θ (repl (varA (lf a)) i (varB (rt b))))).2.2 then 2 else 1
noncomputable def ovK (lf rt : Int → T) (nr : Nat) (a b : Int) (i : Nat) : Int :=
  @dite Int (∃ θ, Mgu θ (sub (varA (lf a)) i) (varB (lf b))) (Classical.propDecidable _) (fun h => kindOf lf rt nr a b i (Classical.choose h)) (fun _ => 0)
/-- may there be an overlap here: 0, or -1 (no such rule or node), -5 (a hole, a rule's first node with itself) -/
def barI (lf : Int → T) (nr : Nat) (a b i : Int) : Int :=
  if ¬ (0 ≤ a ∧ a < nr ∧ 0 ≤ b ∧ b < nr ∧ 0 ≤ i ∧ i < (lf a).length) then -1 else if isH (lb (lf a) i.toNat) = true ∨ (a = b ∧ i = 0) then -5 else 0
/-- all places, rules first -/
def ovPl (lf : Int → T) (nr : Nat) : List (Nat × Nat × Nat) := (List.range nr).flatMap (fun (a : Nat) => (List.range nr).flatMap (fun (b : Nat) => (List.range (lf a).length).map (fun (i : Nat) => (a, b, i))))
noncomputable def ovAt (lf rt : Int → T) (nr : Nat) (p : Nat × Nat × Nat) : Int := if barI lf nr p.1 p.2.1 p.2.2 = 0 then ovK lf rt nr p.1 p.2.1 p.2.2 else 0
/-- how many: 0 all, 1 that meet, 2 that do not, 3 too great -/
noncomputable def ovCnt (lf rt : Int → T) (nr : Nat) (w : Int) : Nat := ((ovPl lf nr).filter (fun p =>
  if w = 0 then decide (0 < ovAt lf rt nr p) else if w = 1 then decide (ovAt lf rt nr p = 2) else if w = 2 then decide (ovAt lf rt nr p = 1) else decide (ovAt lf rt nr p = 3))).length
/-- the class holds the state -/
def RelC (M : Mem) (σ : St) : Prop := M 1 0 = σ.pad.length ∧ padAt M 2 σ.pad ∧ (∀ t, 0 ≤ t → t ≤ 5 → Ct M (161 + 7 * t) (σ.tr t)) ∧ M 28 0 = σ.nr ∧ (∀ r : Int, 0 ≤ r → r < σ.nr → Ct M (39 + 14 * r) (σ.lf r) ∧ Ct M (46 + 14 * r) (σ.rt r)) ∧ (∀ w, 0 ≤ w → w ≤ 2 → M 13 w = σ.pr w) ∧ M 0 10 = σ.wk ∧
  (M 0 11 = -1 ∨ (0 ≤ M 0 11 ∧ M 0 11 ≤ 5 ∧ 0 ≤ M 0 12 ∧ M 0 12 ≤ 5 ∧ σ.tr (M 0 11) ≠ [] ∧ σ.tr (M 0 12) ≠ [] ∧ LeadOK M (σ.tr (M 0 11)) (σ.tr (M 0 12)) σ.pr)) ∧
  (M 127 0 = 0 ∨ (M 127 0 = 1 ∧ ∀ w, 0 ≤ w → w ≤ 3 → M 128 w = ovCnt σ.lf σ.rt σ.nr w))
theorem LeadOK.fr {M M' : Mem} {s t : T} {pr : Int → Int} (h : LeadOK M s t pr) (hf : ∀ c j, 12 ≤ c → c ≤ 22 → M' c j = M c j) : LeadOK M' s t pr := by
  obtain ⟨L, h1, h2, h3, h4, h5, h6, h7, h8⟩ := h
  exact ⟨L, h1, by rw [hf _ _ (by omega) (by omega)]; exact h2, by rw [hf _ _ (by omega) (by omega)]; exact h3, by rw [hf _ _ (by omega) (by omega)]; exact h4, fun i hi => by rw [hf _ _ (by omega) (by omega)]; exact h5 i hi, by rw [hf _ _ (by omega) (by omega)]; exact h6, by rw [hf _ _ (by omega) (by omega)]; exact h7, fun i p hp => by rw [hf _ _ (by omega) (by omega), hf _ _ (by omega) (by omega)]; exact h8 i p hp⟩
theorem Ct.fr {M M' : Mem} {k : Int} {t : T} (h : Ct M k t) (hf : ∀ c j, k ≤ c → c ≤ k + 6 → M' c j = M c j) : Ct M' k t := by
  refine ⟨⟨by rw [hf _ _ (by omega) (by omega)]; exact h.1.1, fun i hi => ?_⟩, fun i hi => ?_⟩
  · rw [hf _ _ (by omega) (by omega), hf _ _ (by omega) (by omega)]; exact h.1.2 i hi
  · rw [hf _ _ (by omega) (by omega), hf _ _ (by omega) (by omega), hf _ _ (by omega) (by omega), hf _ _ (by omega) (by omega)]; exact h.2 i hi
theorem RelC.fr {M M' : Mem} {σ : St} (h : RelC M σ) (hi : Inv σ) (hf : ∀ c j, c ≤ 202 → M' c j = M c j) : RelC M' σ := by
  obtain ⟨h1, h2, h3, h4, h5, h6, h7, h8, h9⟩ := h
  have hn := hi.2.2.2.1
  have e : ∀ c j, c ≤ 202 → M' c j = M c j := hf
  refine ⟨by rw [e _ _ (by omega)]; exact h1, fun i x hx => by rw [e _ _ (by omega)]; exact h2 i x hx, fun t a b => (h3 t a b).fr (fun c j _ _ => e _ _ (by omega)), by rw [e _ _ (by omega)]; exact h4, fun r a b => ⟨(h5 r a b).1.fr (fun c j _ _ => e _ _ (by omega)), (h5 r a b).2.fr (fun c j _ _ => e _ _ (by omega))⟩, fun w a b => by rw [e _ _ (by omega)]; exact h6 w a b, by rw [e _ _ (by omega)]; exact h7, ?_, ?_⟩
  · rw [e 0 11 (by omega), e 0 12 (by omega)]
    rcases h8 with g | ⟨g1, g2, g3, g4, g5, g6, g7⟩
    · exact Or.inl g
    · exact Or.inr ⟨g1, g2, g3, g4, g5, g6, g7.fr (fun c j _ _ => e _ _ (by omega))⟩
  · rw [e 127 0 (by omega)]
    rcases h9 with g | ⟨g1, g2⟩
    · exact Or.inl g
    · exact Or.inr ⟨g1, fun w a b => by rw [e _ _ (by omega)]; exact g2 w a b⟩
