/-! trees put for variables; most general ways differ in names alone -/
theorem app_cons (θ : Int → T) (p : Int × Nat) (t : T) : app θ (p :: t) = (if p.1 < 0 then θ p.1 else [p]) ++ app θ t := by simp [app]
theorem app_nil (θ : Int → T) : app θ [] = [] := rfl
theorem app_append (θ : Int → T) (a b : T) : app θ (a ++ b) = app θ a ++ app θ b := by simp [app]
theorem app_app (ρ θ : Int → T) : ∀ t : T, app ρ (app θ t) = app (fun v => app ρ (θ v)) t
  | [] => rfl
  | p :: t => by
    rw [app_cons, app_cons, app_append, app_app ρ θ t]
    congr 1
    by_cases h : p.1 < 0
    · rw [if_pos h, if_pos h]
    · rw [if_neg h, if_neg h, app_cons, if_neg h]; rfl
theorem app_congr {θ θ' : Int → T} : ∀ {t : T}, (∀ p ∈ t, p.1 < 0 → θ p.1 = θ' p.1) → app θ t = app θ' t
  | [], _ => rfl
  | p :: t, h => by
    rw [app_cons, app_cons, app_congr (t := t) (fun q hq => h q (List.mem_cons_of_mem _ hq))]
    by_cases hp : p.1 < 0
    · rw [if_pos hp, if_pos hp, h p List.mem_cons_self hp]
    · rw [if_neg hp, if_neg hp]
/-- variables have no parts -/
def V0 (t : T) : Prop := ∀ p ∈ t, p.1 < 0 → p.2 = 0
theorem ok_pos {t : T} {n : Nat} (h : ok (n + 1) t) : 1 ≤ t.length := by
  cases t with
  | nil => exact absurd h (by simp [ok])
  | cons p t => simp
theorem app_ge {θ : Int → T} (hθ : okθ θ) : ∀ t : T, t.length ≤ (app θ t).length
  | [] => by simp [app]
  | p :: t => by
    have ih := app_ge hθ t
    rw [app_cons, List.length_append, List.length_cons]
    by_cases h : p.1 < 0
    · rw [if_pos h]
      have := ok_pos (n := 0) (hθ p.1 h).1
      omega
    · rw [if_neg h]; simp; omega
theorem ok_app_t {θ : Int → T} (hθ : okθ θ) : ∀ (t : T) (n : Nat), V0 t → ok n t → ok n (app θ t)
  | [], n, _, h => h
  | p :: t, 0, _, h => absurd h (by simp [ok])
  | p :: t, n + 1, hv, h => by
    have ih := ok_app_t hθ t (n + p.2) (fun q hq => hv q (List.mem_cons_of_mem _ hq)) h
    rw [app_cons]
    by_cases hp : p.1 < 0
    · rw [if_pos hp]
      rw [hv p List.mem_cons_self hp, Nat.add_zero] at ih
      have := ok_app (θ p.1) (app θ t) 1 n (hθ p.1 hp).1 ih
      rwa [Nat.add_comm] at this
    · rw [if_neg hp]; exact ih
theorem V0_app {θ : Int → T} (hθ : okθ θ) {t : T} (ht : V0 t) : V0 (app θ t) := by
  intro p hp hlt
  unfold app at hp
  rw [List.mem_flatMap] at hp
  obtain ⟨q, hq, hpq⟩ := hp
  by_cases h : q.1 < 0
  · rw [if_pos h] at hpq
    exact (hθ q.1 h).2 p hpq hlt
  · rw [if_neg h] at hpq
    rw [List.mem_singleton.mp hpq] at hlt
    exact absurd hlt h
theorem app_fix {σ : Int → T} (hσ : okθ σ) : ∀ t : T, app σ t = t → ∀ p ∈ t, p.1 < 0 → σ p.1 = [p]
  | [], _, p, hp, _ => by simp at hp
  | q :: t, h, p, hp, hlt => by
    rw [app_cons] at h
    have hl := congrArg List.length h
    rw [List.length_append, List.length_cons] at hl
    have hge := app_ge hσ t
    by_cases hq : q.1 < 0
    · rw [if_pos hq] at h hl
      have h1 := ok_pos (n := 0) (hσ q.1 hq).1
      have hl1 : (σ q.1).length = 1 := by omega
      obtain ⟨z, hz⟩ : ∃ z, σ q.1 = [z] := List.length_eq_one_iff.mp hl1
      rw [hz] at h
      simp only [List.cons_append, List.nil_append, List.cons.injEq] at h
      rcases List.mem_cons.mp hp with e | e
      · rw [e, hz, h.1]
      · exact app_fix hσ t h.2 p e hlt
    · rw [if_neg hq] at h
      simp only [List.cons_append, List.nil_append, List.cons.injEq, true_and] at h
      rcases List.mem_cons.mp hp with e | e
      · rw [e] at hlt; exact absurd hlt hq
      · exact app_fix hσ t h p e hlt
theorem app_one {σ : Int → T} (hσ : okθ σ) {s : T} {v : Int} (hv : v < 0) (h : app σ s = [(v, 0)]) (hs : s ≠ []) (h0 : V0 s) : ∃ c, c < 0 ∧ s = [(c, 0)] := by
  have hge := app_ge hσ s
  rw [h] at hge
  simp only [List.length_cons, List.length_nil] at hge
  cases s with
  | nil => exact absurd rfl hs
  | cons p s =>
    have hsn : s = [] := by
      cases s with
      | nil => rfl
      | cons q s => simp at hge
    subst hsn
    by_cases hp : p.1 < 0
    · exact ⟨p.1, hp, by rw [show p = (p.1, 0) from Prod.ext rfl (h0 p (by simp) hp)]⟩
    · rw [app_cons, if_neg hp, app_nil] at h
      simp only [List.append_nil, List.cons.injEq, and_true] at h
      rw [h] at hp
      exact absurd hv hp
/-- variables that the ways put -/
def WV (θ : Int → T) (v : Int) : Prop := v < 0 ∧ ∃ u, u < 0 ∧ ∃ p ∈ θ u, p.1 = v
theorem mgu_rl {θ θ' : Int → T} {a b : T} (h : Mgu θ a b) (h' : Mgu θ' a b) : ∃ f : Int → Int, RlOK (fun c => 0 ≤ c ∨ WV θ c) f ∧ (∀ c, 0 ≤ c → f c = c) ∧ (∀ c, WV θ c → f c < 0) ∧ ∀ t : T, app θ' t = rl f (app θ t) := by
  obtain ⟨ρ, r1, r2⟩ := h.2 θ' h'.1
  obtain ⟨ρ', r1', r2'⟩ := h'.2 θ h.1
  have okθθ := h.1.1
  have key : ∀ v, WV θ v → app ρ' (ρ v) = [(v, 0)] := by
    rintro v ⟨hv, u, hu, p, hp, rfl⟩
    have e : app (fun w => app ρ' (ρ w)) (θ u) = θ u := by
      rw [← app_app, ← r2 u hu, ← r2' u hu]
    have okc : okθ (fun w => app ρ' (ρ w)) := fun w hw => by
      have o := r1 w hw
      exact ⟨ok_app_t r1' (ρ w) 1 o.2 o.1, V0_app r1' o.2⟩
    have := app_fix okc (θ u) e p hp hv
    rw [show p = (p.1, 0) from Prod.ext rfl ((okθθ u hu).2 p hp hv)] at this
    exact this
  have one : ∀ v, WV θ v → ∃ c, c < 0 ∧ ρ v = [(c, 0)] := fun v hv => app_one r1' hv.1 (key v hv) (fun e => by have := (r1 v hv.1).1; rw [e] at this; exact absurd this (by simp [ok])) (r1 v hv.1).2
  refine ⟨fun c => if c < 0 then lb (ρ c) 0 else c, ⟨fun c c' hc hc' e => ?_, fun c h1 h2 => ⟨if_neg (by omega), Or.inl (by omega)⟩⟩, fun c hc => if_neg (by omega), fun c hc => ?_, fun t => ?_⟩
  · rcases hc with hc | hc
    · rcases hc' with hc' | hc'
      · simp only at e
        rw [if_neg (by omega), if_neg (by omega)] at e; exact e
      · obtain ⟨d, d1, d2⟩ := one c' hc'
        simp only at e
        rw [if_neg (by omega), if_pos hc'.1, d2] at e
        simp [lb] at e
        omega
    · obtain ⟨d, d1, d2⟩ := one c hc
      rcases hc' with hc' | hc'
      · simp only at e
        rw [if_pos hc.1, if_neg (by omega), d2] at e
        simp [lb] at e
        omega
      · obtain ⟨d', d1', d2'⟩ := one c' hc'
        simp only at e
        rw [if_pos hc.1, if_pos hc'.1, d2, d2'] at e
        simp [lb] at e
        have k1 := key c hc
        have k2 := key c' hc'
        rw [d2, e, ← d2', k2] at k1
        simp at k1
        exact k1.symm
  · obtain ⟨d, d1, d2⟩ := one c hc
    simp only
    rw [if_pos hc.1, d2]
    simpa [lb] using d1
  · have e1 : app θ' t = app ρ (app θ t) := by
      rw [app_app]
      exact app_congr (fun p _ hp => r2 p.1 hp)
    rw [e1]
    /- all variables of app θ t are put by θ -/
    have hw : ∀ p ∈ app θ t, p.1 < 0 → WV θ p.1 ∧ p.2 = 0 := by
      intro p hp hlt
      unfold app at hp
      rw [List.mem_flatMap] at hp
      obtain ⟨q, -, hpq⟩ := hp
      by_cases hq : q.1 < 0
      · rw [if_pos hq] at hpq
        exact ⟨⟨hlt, q.1, hq, p, hpq, rfl⟩, (okθθ q.1 hq).2 p hpq hlt⟩
      · rw [if_neg hq] at hpq
        rw [List.mem_singleton.mp hpq] at hlt
        exact absurd hlt hq
    generalize app θ t = s at hw
    induction s with
    | nil => rfl
    | cons p s ih =>
      rw [app_cons, ih (fun q hq => hw q (List.mem_cons_of_mem _ hq))]
      have e : rl (fun c => if c < 0 then lb (ρ c) 0 else c) (p :: s) = ((if p.1 < 0 then lb (ρ p.1) 0 else p.1), p.2) :: rl (fun c => if c < 0 then lb (ρ c) 0 else c) s := rfl
      rw [e]
      by_cases hp : p.1 < 0
      · obtain ⟨w1, w2⟩ := hw p List.mem_cons_self hp
        obtain ⟨d, d1, d2⟩ := one p.1 w1
        rw [if_pos hp, if_pos hp, d2, w2]; rfl
      · rw [if_neg hp, if_neg hp]; rfl
theorem app_labU {θ : Int → T} {t : T} : LabU (fun c => 0 ≤ c ∨ WV θ c) (app θ t) := by
  intro p hp
  unfold app at hp
  rw [List.mem_flatMap] at hp
  obtain ⟨q, -, hpq⟩ := hp
  by_cases hq : q.1 < 0
  · rw [if_pos hq] at hpq
    by_cases h0 : p.1 < 0
    · exact Or.inr ⟨h0, q.1, hq, p, hpq, rfl⟩
    · exact Or.inl (by omega)
  · rw [if_neg hq] at hpq
    rw [List.mem_singleton.mp hpq]
    exact Or.inl (by omega)
theorem varA_len (t : T) : (varA t).length = t.length := by simp [varA]
theorem varB_len (t : T) : (varB t).length = t.length := by simp [varB]
theorem fp_var (t : T) (f : Int × Nat → Int × Nat) (hf : ∀ p, (f p).2 = p.2) : ∀ n, fp n (t.map f) = fp n t := by
  induction t with
  | nil => intro n; rfl
  | cons p t ih =>
    intro n
    cases n with
    | zero => rfl
    | succ n =>
      show fp (n + (f p).2) (t.map f) + 1 = fp (n + p.2) t + 1
      rw [hf p, ih]
theorem ok_var (t : T) (f : Int × Nat → Int × Nat) (hf : ∀ p, (f p).2 = p.2) : ∀ n, ok n (t.map f) ↔ ok n t := by
  induction t with
  | nil => intro n; exact Iff.rfl
  | cons p t ih =>
    intro n
    cases n with
    | zero => exact Iff.rfl
    | succ n =>
      show ok (n + (f p).2) (t.map f) ↔ ok (n + p.2) t
      rw [hf p]; exact ih _
theorem fA_2 (p : Int × Nat) : (if isH p.1 then (64 - p.1, p.2) else p).2 = p.2 := by split <;> rfl
theorem fB_2 (p : Int × Nat) : (if isH p.1 then (56 - p.1, p.2) else p).2 = p.2 := by split <;> rfl
theorem ok_varA {t : T} {n : Nat} : ok n (varA t) ↔ ok n t := ok_var t _ fA_2 n
theorem ok_varB {t : T} {n : Nat} : ok n (varB t) ↔ ok n t := ok_var t _ fB_2 n
theorem sz_varA (t : T) (i : Nat) : sz (varA t) i = sz t i := by
  unfold sz varA
  rw [← List.map_drop]
  exact fp_var _ _ fA_2 1
theorem sz_varB (t : T) (i : Nat) : sz (varB t) i = sz t i := by
  unfold sz varB
  rw [← List.map_drop]
  exact fp_var _ _ fB_2 1
theorem V0_varA {t : T} (h : Wd t) : V0 (varA t) := by
  intro p hp hlt
  unfold varA at hp
  obtain ⟨q, hq, rfl⟩ := List.mem_map.mp hp
  rcases h.2 q hq with g | g
  · by_cases hh : isH q.1 = true
    · rw [isH_iff] at hh; omega
    · rw [if_neg hh] at hlt; omega
  · rw [if_pos g.1]; exact g.2
theorem V0_varB {t : T} (h : Wd t) : V0 (varB t) := by
  intro p hp hlt
  unfold varB at hp
  obtain ⟨q, hq, rfl⟩ := List.mem_map.mp hp
  rcases h.2 q hq with g | g
  · by_cases hh : isH q.1 = true
    · rw [isH_iff] at hh; omega
    · rw [if_neg hh] at hlt; omega
  · rw [if_pos g.1]; exact g.2
/-- the kind of an overlap is that of any most general way -/
theorem kind_uniq {lf rt : Int → T} {nr : Nat} {a b : Int} {i : Nat} {θ θ' : Int → T} (hr : ∀ r : Int, 0 ≤ r → r < nr → Wr (lf r) (rt r)) (ha : 0 ≤ a ∧ a < nr) (hb : 0 ≤ b ∧ b < nr) (hi : i < (lf a).length) (h : Mgu θ (sub (varA (lf a)) i) (varB (lf b))) (h' : Mgu θ' (sub (varA (lf a)) i) (varB (lf b))) : kindOf lf rt nr a b i θ = kindOf lf rt nr a b i θ' := by
  obtain ⟨f, f1, -, -, f4⟩ := mgu_rl h h'
  have wa := hr a ha.1 ha.2
  have wb := hr b hb.1 hb.2
  have okA := wa.1.1.ok (List.length_pos_iff.mpr wa.2.2.1)
  have okRA := wa.2.1.1.ok (List.length_pos_iff.mpr wa.2.2.2.1)
  have okRB := wb.2.1.1.ok (List.length_pos_iff.mpr wb.2.2.2.1)
  have o2 : ok 1 (app θ (varA (rt a))) := ok_app_t h.1.1 _ 1 (V0_varA wa.2.1) (ok_varA.mpr okRA)
  have v3 : V0 (repl (varA (lf a)) i (varB (rt b))) := by
    intro p hp
    unfold repl at hp
    rcases List.mem_append.mp hp with hp | hp
    · rcases List.mem_append.mp hp with hp | hp
      · exact V0_varA wa.1 p (List.mem_of_mem_take hp)
      · exact V0_varB wb.2.1 p hp
    · exact V0_varA wa.1 p (List.mem_of_mem_drop hp)
  have o3' : ok 1 (repl (varA (lf a)) i (varB (rt b))) := ok_repl _ 1 i _ (ok_varA.mpr okA) (by rw [varA_len]; exact hi) (ok_varB.mpr okRB)
  have o3 : ok 1 (app θ (repl (varA (lf a)) i (varB (rt b)))) := ok_app_t h.1.1 _ 1 v3 o3'
  have ne : ∀ {t : T}, ok 1 t → t ≠ [] := fun ho e => by rw [e] at ho; exact absurd ho (by simp [ok])
  obtain ⟨w2, l2⟩ := walkF_rl f1 (w := true) hr (app_labU (θ := θ) (t := varA (rt a))) (ne o2) o2
  obtain ⟨w3, l3⟩ := walkF_rl f1 (w := true) hr (app_labU (θ := θ) (t := repl (varA (lf a)) i (varB (rt b)))) (ne o3) o3
  unfold kindOf
  rw [f4, f4, f4, rl_len, rl_len, rl_len, w2, w3]
  split
  · rfl
  · have : (rl f (walkF lf rt nr true (app θ (varA (rt a)))).2.2 = rl f (walkF lf rt nr true (app θ (repl (varA (lf a)) i (varB (rt b))))).2.2) ↔ ((walkF lf rt nr true (app θ (varA (rt a)))).2.2 = (walkF lf rt nr true (app θ (repl (varA (lf a)) i (varB (rt b))))).2.2) := ⟨fun e => rl_inj f1 l2 l3 e, fun e => by rw [e]⟩
    simp only [this]
theorem ovK_mgu {lf rt : Int → T} {nr : Nat} {a b : Int} {i : Nat} {θ : Int → T} (hr : ∀ r : Int, 0 ≤ r → r < nr → Wr (lf r) (rt r)) (ha : 0 ≤ a ∧ a < nr) (hb : 0 ≤ b ∧ b < nr) (hi : i < (lf a).length) (h : Mgu θ (sub (varA (lf a)) i) (varB (lf b))) : ovK lf rt nr a b i = kindOf lf rt nr a b i θ := by
  unfold ovK
  rw [dif_pos ⟨θ, h⟩]
  exact kind_uniq hr ha hb hi (Classical.choose_spec (⟨θ, h⟩ : ∃ θ, Mgu θ (sub (varA (lf a)) i) (varB (lf b)))) h
theorem ovK_none {lf rt : Int → T} {nr : Nat} {a b : Int} {i : Nat} (h : ∀ θ, ¬ Unif θ (sub (varA (lf a)) i) (varB (lf b))) : ovK lf rt nr a b i = 0 := by
  unfold ovK
  rw [dif_neg]
  rintro ⟨θ, hθ⟩
  exact h θ hθ.1
