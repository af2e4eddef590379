/-! a pattern with its holes put fits, by what was put -/
theorem mtc_put {τ : Int → T} (hτ : ∀ c, isH c = true → ok 1 (τ c)) : ∀ (l rest : T) (env : EnvT), (∀ c s, env c = some s → s = τ c) → ∃ env', mtc l (l.flatMap (fun p => if isH p.1 then τ p.1 else [p]) ++ rest) env = some env' ∧ (∀ c s, env' c = some s → s = τ c) ∧ (∀ p ∈ l, isH p.1 = true → env' p.1 = some (τ p.1)) ∧ (∀ c s, env c = some s → env' c = some s)
  | [], rest, env, he => ⟨env, by simp [mtc], he, fun p hp => by simp at hp, fun c s h => h⟩
  | p :: l, rest, env, he => by
    rw [List.flatMap_cons, List.append_assoc]
    by_cases hh : isH p.1 = true
    · rw [if_pos hh]
      have hf := ok_fp (τ p.1) (l.flatMap (fun p => if isH p.1 then τ p.1 else [p]) ++ rest) 1 (hτ _ hh)
      cases hen : env p.1 with
      | none =>
        have he2 : ∀ c s, eset env p.1 (τ p.1) c = some s → s = τ c := by
          intro c s h
          unfold eset at h
          by_cases e : c = p.1
          · rw [if_pos e] at h; rw [e]; exact (Option.some.inj h).symm
          · rw [if_neg e] at h; exact he c s h
        obtain ⟨env', a1, a2, a3, a4⟩ := mtc_put hτ l rest (eset env p.1 (τ p.1)) he2
        have own : env' p.1 = some (τ p.1) := a4 p.1 _ (by unfold eset; rw [if_pos rfl])
        refine ⟨env', ?_, a2, fun q hq hqh => ?_, fun c s h => ?_⟩
        · unfold mtc; rw [if_pos hh, hen, hf]
          simp only
          rw [List.drop_left, List.take_left]; exact a1
        · rcases List.mem_cons.mp hq with g | g
          · rw [g]; exact own
          · exact a3 q g hqh
        · by_cases e : c = p.1
          · rw [e, hen] at h; cases h
          · exact a4 c s (by unfold eset; rw [if_neg e]; exact h)
      | some s0 =>
        obtain ⟨env', a1, a2, a3, a4⟩ := mtc_put hτ l rest env he
        have es := he _ _ hen
        refine ⟨env', ?_, a2, fun q hq hqh => ?_, a4⟩
        · unfold mtc; rw [if_pos hh, hen, hf]
          simp only
          rw [List.drop_left, List.take_left, if_pos es]; exact a1
        · rcases List.mem_cons.mp hq with g | g
          · rw [g, a4 _ _ hen, es]
          · exact a3 q g hqh
    · obtain ⟨env', a1, a2, a3, a4⟩ := mtc_put hτ l rest env he
      rw [if_neg hh]
      refine ⟨env', ?_, a2, fun q hq hqh => ?_, a4⟩
      · unfold mtc; rw [if_neg hh]
        simp only [List.singleton_append, if_true]
        exact a1
      · rcases List.mem_cons.mp hq with g | g
        · rw [g] at hqh; exact absurd hqh hh
        · exact a3 q g hqh
