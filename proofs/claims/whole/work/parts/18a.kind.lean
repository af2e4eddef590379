/-! what a rule makes of the peak, whatever the variables are called -/
def LbT (t : T) : Prop := ∀ p ∈ t, p.1 < 0 ∨ 97 ≤ p.1 ∧ p.1 ≤ 122
theorem lbt_app {θ : Int → T} (hθ : ∀ v, v < 0 → LbT (θ v)) {t : T} (ht : LbT t) : LbT (app θ t) := by
  intro p hp
  unfold app at hp
  rw [List.mem_flatMap] at hp
  obtain ⟨q, hq, hpq⟩ := hp
  by_cases h : q.1 < 0
  · rw [if_pos h] at hpq; exact hθ q.1 h p hpq
  · rw [if_neg h] at hpq
    rw [List.mem_singleton.mp hpq]; exact ht q hq
theorem lbt_A {t : T} (h : Wd t) : LbT (varA t) := by
  intro p hp
  unfold varA at hp
  obtain ⟨q, hq, rfl⟩ := List.mem_map.mp hp
  by_cases hh : isH q.1 = true
  · rw [if_pos hh]; have := isH_iff.mp hh; left; show 64 - q.1 < 0; omega
  · rw [if_neg hh]
    rcases h.2 q hq with g | g
    · exact Or.inr g
    · exact absurd g.1 hh
theorem lbt_B {t : T} (h : Wd t) : LbT (varB t) := by
  intro p hp
  unfold varB at hp
  obtain ⟨q, hq, rfl⟩ := List.mem_map.mp hp
  by_cases hh : isH q.1 = true
  · rw [if_pos hh]; have := isH_iff.mp hh; left; show 56 - q.1 < 0; omega
  · rw [if_neg hh]
    rcases h.2 q hq with g | g
    · exact Or.inr g
    · exact absurd g.1 hh
theorem thF_lab {Z : T4} {rs : Nat → Int} (hZ : Z4 Z) : ∀ (n h : Nat), LbT (thF Z rs n h)
  | 0, h => fun p hp => by
    unfold thF at hp
    rw [List.mem_singleton.mp hp]; exact Or.inl (vr_lt h)
  | n + 1, h => by
    unfold thF
    by_cases hh : h < 16
    · rw [if_pos hh]
      by_cases hn : rs h < 0
      · rw [if_pos hn]; intro p hp; rw [List.mem_singleton.mp hp]; exact Or.inl hn
      · rw [if_neg hn]
        refine lbt_app (fun v _ => thF_lab hZ n _) (fun p hp => ?_)
        have hp' := List.mem_of_mem_drop (List.mem_of_mem_take hp)
        unfold nvt at hp'
        split at hp'
        · exact lbt_B (hZ.wd _) p hp'
        · exact lbt_A (hZ.wd _) p hp'
    · rw [if_neg hh]; intro p hp; rw [List.mem_singleton.mp hp]; exact Or.inl (vr_lt h)
theorem th_lab {Z : T4} {rs : Nat → Int} (hZ : Z4 Z) (v : Int) : LbT (th Z rs v) := thF_lab hZ 18 _
theorem foS_neg {l : List Int} {p : Int × Nat} (hl : ∀ v ∈ l, v < 0) : ∀ v ∈ foS l p, v < 0 := by
  intro v hv
  unfold foS at hv
  split at hv
  · rename_i c
    rcases List.mem_append.mp hv with g | g
    · exact hl v g
    · rw [List.mem_singleton.mp g]; exact c.1
  · exact hl v hv
theorem fo_neg' : ∀ (t : T) (l : List Int), (∀ v ∈ l, v < 0) → ∀ v ∈ t.foldl foS l, v < 0
  | [], l, hl => hl
  | p :: t, l, hl => fo_neg' t (foS l p) (foS_neg hl)
theorem fo_neg {t : T} {v : Int} (h : v ∈ fo t) : v < 0 := fo_neg' t [] (fun v hv => by simp at hv) v h
/-- the name by first occurrence -/
def nmF (t : T) (c : Int) : Int := if c ∈ fo t then ((fo t).idxOf c : Int) + 1 else c
theorem nmd_rl (t : T) : nmd (fo t) t = rl (nmF t) t := by
  unfold nmd rl
  apply List.map_congr_left
  intro p hp
  unfold nmF
  by_cases h : p.1 < 0
  · rw [if_pos h, if_pos (fo_all t p hp h)]
  · rw [if_neg h, if_neg (fun z => h (fo_neg z))]
theorem nmF_ok {t : T} (h : (fo t).length ≤ 16) : RlOK (fun c => c < 0 ∨ 65 ≤ c) (nmF t) := by
  refine ⟨fun c c' hc hc' e => ?_, fun c h1 h2 => ⟨?_, Or.inr h1⟩⟩
  · unfold nmF at e
    by_cases g : c ∈ fo t
    · have i1 := List.idxOf_lt_length_of_mem g
      by_cases g' : c' ∈ fo t
      · have i2 := List.idxOf_lt_length_of_mem g'
        rw [if_pos g, if_pos g'] at e
        have ei : (fo t).idxOf c = (fo t).idxOf c' := by omega
        have a1 := List.getElem_idxOf i1
        have a2 := List.getElem_idxOf i2
        rw [← a1, ← a2]
        simp only [ei]
      · rw [if_pos g, if_neg g'] at e
        omega
    · by_cases g' : c' ∈ fo t
      · have i2 := List.idxOf_lt_length_of_mem g'
        rw [if_neg g, if_pos g'] at e
        omega
      · rw [if_neg g, if_neg g'] at e; exact e
  · unfold nmF
    rw [if_neg (fun z => by have := fo_neg z; omega)]
theorem LbT.U {t : T} (h : LbT t) : LabU (fun c => c < 0 ∨ 65 ≤ c) t := fun p hp => by
  rcases h p hp with g | g
  · exact Or.inl g
  · exact Or.inr (by omega)
section PUT
variable {θ : Int → T} {f : Int → Int} {U : Int → Prop} {k : Int}
theorem put_rl (hf : RlOK U f) (hk : k = 64 ∨ k = 56) : ∀ {A : T}, (∀ p ∈ A, (97 ≤ p.1 ∧ p.1 ≤ 122) ∨ (isH p.1 = true ∧ p.2 = 0)) → rl f (app θ (A.map (fun p => if isH p.1 then (k - p.1, p.2) else p))) = A.flatMap (fun p => if isH p.1 then rl f (θ (k - p.1)) else [p])
  | [], _ => rfl
  | p :: A, w => by
    rw [List.map_cons, app_cons, rl_app, List.flatMap_cons, put_rl hf hk (A := A) (fun q hq => w q (List.mem_cons_of_mem _ hq))]
    congr 1
    by_cases hh : isH p.1 = true
    · have := isH_iff.mp hh
      rw [if_pos hh, if_pos hh, if_pos (show k - p.1 < 0 by omega)]
    · rw [if_neg hh, if_neg hh]
      rcases w p List.mem_cons_self with g | g
      · rw [if_neg (by omega)]
        show [(f p.1, p.2)] = [p]
        rw [(hf.2 p.1 (by omega) (by omega)).1]
      · exact absurd g.1 hh
theorem fit_put (hf : RlOK U f) (hθ : okθ θ) (hk : k = 64 ∨ k = 56) {A R : T} (wr : Wr A R) (rest : T) : ∃ env, mtc A (rl f (app θ (A.map (fun p => if isH p.1 then (k - p.1, p.2) else p))) ++ rest) env0 = some env ∧ inst R env = rl f (app θ (R.map (fun p => if isH p.1 then (k - p.1, p.2) else p))) := by
  obtain ⟨env, e1, e2, e3, -⟩ := mtc_put (τ := fun c => rl f (θ (k - c))) (fun c hc => by
    have := isH_iff.mp hc
    exact (ok_rl f _ 1).mpr (hθ (k - c) (by omega)).1) A rest env0 (fun c s h => by cases h)
  refine ⟨env, ?_, ?_⟩
  · rw [put_rl hf hk wr.1.2]; exact e1
  · rw [put_rl hf hk wr.2.1.2]
    unfold inst
    have gen : ∀ l : T, (∀ p ∈ l, p ∈ R) → l.flatMap (fun p => if isH p.1 then (env p.1).getD [] else [p]) = l.flatMap (fun p => if isH p.1 then rl f (θ (k - p.1)) else [p]) := by
      intro l
      induction l with
      | nil => intro _; rfl
      | cons p l ih =>
        intro hl
        rw [List.flatMap_cons, List.flatMap_cons, ih (fun q hq => hl q (List.mem_cons_of_mem _ hq))]
        congr 1
        by_cases hh : isH p.1 = true
        · rw [if_pos hh, if_pos hh]
          have hin : holeIn R p.1 = true := by unfold holeIn; rw [List.any_eq_true]; exact ⟨p, hl p List.mem_cons_self, by simp⟩
          have hA := wr.2.2.2.2.2 p.1 hh hin
          unfold holeIn at hA
          rw [List.any_eq_true] at hA
          obtain ⟨q, hq, hqe⟩ := hA
          have hqe' : q.1 = p.1 := by simpa using hqe
          have := e3 q hq (by rw [hqe']; exact hh)
          rw [hqe'] at this
          rw [this]; rfl
        · rw [if_neg hh, if_neg hh]
    exact gen R (fun p hp => hp)
theorem done_first (hf : RlOK U f) (hθ : okθ θ) {A R : T} (wr : Wr A R) : ∃ env, fitAt A (rl f (app θ (varA A))) 0 = some env ∧ doneAt R (rl f (app θ (varA A))) 0 env = rl f (app θ (varA R)) := by
  obtain ⟨env, e1, e2⟩ := fit_put (k := 64) hf hθ (Or.inl rfl) wr []
  rw [List.append_nil] at e1
  refine ⟨env, e1, ?_⟩
  unfold doneAt
  have okA : ok 1 (app θ (varA A)) := ok_app_t hθ _ 1 (V0_varA wr.1) (ok_varA.mpr (wr.1.1.ok (i := 0) (List.length_pos_iff.mpr wr.2.2.1)))
  have := ok_fp _ [] 1 ((ok_rl f _ 1).mpr okA)
  rw [List.append_nil] at this
  rw [e2]
  unfold sz
  rw [List.drop_zero, this, List.take_zero, Nat.zero_add, List.drop_length, List.nil_append, List.append_nil]
  rfl
theorem done_second (hf : RlOK U f) (hθ : okθ θ) {A B R : T} {i : Nat} (wA : Wd A) (wr : Wr B R) (hi : i < A.length) (he : app θ (sub (varA A) i) = app θ (varB B)) : ∃ env, fitAt B (rl f (app θ (varA A))) (app θ ((varA A).take i)).length = some env ∧ doneAt R (rl f (app θ (varA A))) (app θ ((varA A).take i)).length env = rl f (app θ (repl (varA A) i (varB R))) ∧ (app θ ((varA A).take i)).length < (rl f (app θ (varA A))).length := by
  have cut : varA A = (varA A).take i ++ (sub (varA A) i ++ (varA A).drop (i + sz (varA A) i)) := by
    conv => lhs; rw [← List.take_append_drop i (varA A)]
    congr 1
    unfold sub
    rw [← List.drop_drop]
    exact (List.take_append_drop _ _).symm
  have top : rl f (app θ (varA A)) = rl f (app θ ((varA A).take i)) ++ (rl f (app θ (varB B)) ++ rl f (app θ ((varA A).drop (i + sz (varA A) i)))) := by
    conv => lhs; rw [cut]
    rw [app_append, app_append, rl_app, rl_app, he]
  obtain ⟨env, e1, e2⟩ := fit_put (k := 56) hf hθ (Or.inr rfl) wr (rl f (app θ ((varA A).drop (i + sz (varA A) i))))
  have pl : (rl f (app θ ((varA A).take i))).length = (app θ ((varA A).take i)).length := rl_len _ _
  have dr : (rl f (app θ (varA A))).drop (app θ ((varA A).take i)).length = rl f (app θ (varB B)) ++ rl f (app θ ((varA A).drop (i + sz (varA A) i))) := by
    rw [top, ← pl, List.drop_left]
  have okB : ok 1 (rl f (app θ (varB B))) := (ok_rl f _ 1).mpr (ok_app_t hθ _ 1 (V0_varB wr.1) (ok_varB.mpr (wr.1.1.ok (i := 0) (List.length_pos_iff.mpr wr.2.2.1))))
  have zs : sz (rl f (app θ (varA A))) (app θ ((varA A).take i)).length = (rl f (app θ (varB B))).length := by
    unfold sz; rw [dr]; exact ok_fp _ _ 1 okB
  refine ⟨env, ?_, ?_, ?_⟩
  · unfold fitAt; rw [dr]; exact e1
  · unfold doneAt
    rw [zs, e2, ← List.drop_drop, dr, List.drop_left]
    conv => lhs; rw [top, ← pl, List.take_left]
    unfold repl
    rw [app_append, app_append, rl_app, rl_app]
    rfl
  · have := ok_pos (n := 0) okB
    rw [top, List.length_append, List.length_append, pl]; omega
end PUT
