/-! other names for what is no letter: fitting and walking go on alike -/
def rl (f : Int → Int) (t : T) : T := t.map (fun p => (f p.1, p.2))
def erl (f : Int → Int) (env : EnvT) : EnvT := fun c => (env c).map (rl f)
def LabU (U : Int → Prop) (t : T) : Prop := ∀ p ∈ t, U p.1
/-- f names letters and holes as they are, and no two of U alike -/
def RlOK (U : Int → Prop) (f : Int → Int) : Prop := (∀ c c', U c → U c' → f c = f c' → c = c') ∧ ∀ c, 65 ≤ c → c ≤ 122 → f c = c ∧ U c
theorem fp_rl (f : Int → Int) : ∀ (t : T) (n : Nat), fp n (rl f t) = fp n t
  | [], 0 => rfl
  | [], n + 1 => rfl
  | x :: l, 0 => rfl
  | x :: l, n + 1 => by
    show fp (n + x.2) (rl f l) + 1 = fp (n + x.2) l + 1
    rw [fp_rl f l]
theorem rl_len (f : Int → Int) (t : T) : (rl f t).length = t.length := by simp [rl]
theorem rl_drop (f : Int → Int) (t : T) (n : Nat) : (rl f t).drop n = rl f (t.drop n) := by unfold rl; rw [List.map_drop]
theorem rl_take (f : Int → Int) (t : T) (n : Nat) : (rl f t).take n = rl f (t.take n) := by unfold rl; rw [List.map_take]
theorem rl_app (f : Int → Int) (a b : T) : rl f (a ++ b) = rl f a ++ rl f b := by simp [rl]
theorem sz_rl (f : Int → Int) (t : T) (i : Nat) : sz (rl f t) i = sz t i := by unfold sz; rw [rl_drop, fp_rl]
theorem sub_rl (f : Int → Int) (t : T) (i : Nat) : sub (rl f t) i = rl f (sub t i) := by unfold sub; rw [rl_drop, rl_take, sz_rl]
theorem ok_rl (f : Int → Int) : ∀ (t : T) (n : Nat), ok n (rl f t) ↔ ok n t
  | [], 0 => Iff.rfl
  | [], n + 1 => Iff.rfl
  | x :: l, 0 => Iff.rfl
  | x :: l, n + 1 => ok_rl f l (n + x.2)
theorem rl_inj {U : Int → Prop} {f : Int → Int} (h : RlOK U f) : ∀ {s t : T}, LabU U s → LabU U t → rl f s = rl f t → s = t
  | [], [], _, _, _ => rfl
  | [], q :: t, _, _, e => by simp [rl] at e
  | p :: s, [], _, _, e => by simp [rl] at e
  | p :: s, q :: t, hs, ht, e => by
    simp only [rl, List.map_cons, List.cons.injEq, Prod.mk.injEq] at e
    have e1 := h.1 p.1 q.1 (hs p List.mem_cons_self) (ht q List.mem_cons_self) e.1.1
    have e2 := rl_inj h (s := s) (t := t) (fun r hr => hs r (List.mem_cons_of_mem _ hr)) (fun r hr => ht r (List.mem_cons_of_mem _ hr)) e.2
    rw [e2, show p = q from Prod.ext e1 e.1.2]
theorem LabU.drop {U : Int → Prop} {t : T} (h : LabU U t) (n : Nat) : LabU U (t.drop n) := fun p hp => h p (List.mem_of_mem_drop hp)
theorem LabU.take {U : Int → Prop} {t : T} (h : LabU U t) (n : Nat) : LabU U (t.take n) := fun p hp => h p (List.mem_of_mem_take hp)
theorem erl_eset (f : Int → Int) (env : EnvT) (c : Int) (s : T) : eset (erl f env) c (rl f s) = erl f (eset env c s) := by
  funext d
  unfold eset erl
  by_cases h : d = c
  · simp [h]
  · simp [h]
theorem mtc_rl {U : Int → Prop} {f : Int → Int} (h : RlOK U f) : ∀ (l t : T) (env : EnvT), (∀ p ∈ l, 65 ≤ p.1 ∧ p.1 ≤ 122) → LabU U t → (∀ c s, env c = some s → LabU U s) → mtc l (rl f t) (erl f env) = (mtc l t env).map (erl f)
  | [], t, env, _, _, _ => by
    have e1 : ∀ (t : T) (e : EnvT), mtc [] t e = some e := fun t e => by cases t <;> rfl
    rw [e1, e1]; rfl
  | p :: ps, t, env, hl, ht, he => by
    have hl' : ∀ q ∈ ps, 65 ≤ q.1 ∧ q.1 ≤ 122 := fun q hq => hl q (List.mem_cons_of_mem _ hq)
    by_cases hh : isH p.1 = true
    · have u1 : ∀ (t : T) (e : EnvT), mtc (p :: ps) t e = (match e p.1 with | none => mtc ps (t.drop (fp 1 t)) (eset e p.1 (t.take (fp 1 t))) | some s => if s = t.take (fp 1 t) then mtc ps (t.drop (fp 1 t)) e else none) := fun t e => by
        conv => lhs; unfold mtc
        simp only [hh, if_true]
        cases e p.1 <;> rfl
      rw [u1, u1, fp_rl, rl_drop, rl_take]
      cases hc : env p.1 with
      | none =>
        have : erl f env p.1 = none := by unfold erl; rw [hc]; rfl
        rw [this]
        simp only
        rw [erl_eset]
        refine mtc_rl h ps _ _ hl' (ht.drop _) (fun c s hs => ?_)
        unfold eset at hs
        split at hs
        · rw [← Option.some.inj hs]; exact ht.take _
        · exact he c s hs
      | some s =>
        have : erl f env p.1 = some (rl f s) := by unfold erl; rw [hc]; rfl
        rw [this]
        simp only
        by_cases e : s = t.take (fp 1 t)
        · rw [if_pos e, if_pos (by rw [e])]
          exact mtc_rl h ps _ _ hl' (ht.drop _) he
        · rw [if_neg e, if_neg (fun w => e (rl_inj h (he _ _ hc) (ht.take _) w))]; rfl
    · have hf : isH p.1 = false := Bool.eq_false_iff.mpr hh
      have u2 : ∀ (q : Int × Nat) (t : T) (e : EnvT), mtc (p :: ps) (q :: t) e = if p = q then mtc ps t e else none := fun q t e => by
        conv => lhs; unfold mtc
        simp only [hf, Bool.false_eq_true, if_false]
      have u3 : ∀ (e : EnvT), mtc (p :: ps) [] e = none := fun e => by
        conv => lhs; unfold mtc
        simp only [hf, Bool.false_eq_true, if_false]
      cases t with
      | nil =>
        show mtc (p :: ps) [] (erl f env) = _
        rw [u3, u3]; rfl
      | cons q t =>
        show mtc (p :: ps) ((f q.1, q.2) :: rl f t) (erl f env) = _
        rw [u2, u2]
        have hpl := hl p List.mem_cons_self
        have hp := h.2 p.1 hpl.1 hpl.2
        by_cases e : p = q
        · rw [if_pos e, if_pos (by rw [← e, hp.1])]
          exact mtc_rl h ps t env hl' (fun r hr => ht r (List.mem_cons_of_mem _ hr)) he
        · rw [if_neg e, if_neg (fun w => e ?_)]
          · rfl
          · have w1 : p.1 = f q.1 := congrArg Prod.fst w
            have w2 : p.2 = q.2 := by rw [w]
            have := h.1 p.1 q.1 hp.2 (ht q List.mem_cons_self) (by rw [hp.1]; exact w1)
            exact Prod.ext this w2
theorem Wd.lab {t : T} (h : Wd t) : ∀ p ∈ t, 65 ≤ p.1 ∧ p.1 ≤ 122 := fun p hp => by
  rcases h.2 p hp with g | g
  · omega
  · have := isH_iff.mp g.1
    omega
theorem fit_rl {U : Int → Prop} {f : Int → Int} (h : RlOK U f) {l t : T} {i : Nat} (wl : Wd l) (ht : LabU U t) : fitAt l (rl f t) i = (fitAt l t i).map (erl f) := by
  unfold fitAt
  rw [rl_drop]
  have e0 : erl f env0 = env0 := rfl
  have := mtc_rl h l (t.drop i) env0 wl.lab (ht.drop i) (fun c s hs => by cases hs)
  rw [e0] at this; exact this
theorem inst_rl {U : Int → Prop} {f : Int → Int} (h : RlOK U f) (env : EnvT) : ∀ r : T, (∀ p ∈ r, 65 ≤ p.1 ∧ p.1 ≤ 122) → inst r (erl f env) = rl f (inst r env)
  | [], _ => rfl
  | p :: r, hr => by
    rw [inst_cons, inst_cons, rl_app, inst_rl h env r (fun q hq => hr q (List.mem_cons_of_mem _ hq))]
    congr 1
    have hp := hr p List.mem_cons_self
    by_cases hh : isH p.1 = true
    · rw [if_pos hh, if_pos hh]
      unfold erl
      cases env p.1 <;> rfl
    · rw [if_neg hh, if_neg hh]
      show [p] = [(f p.1, p.2)]
      rw [(h.2 p.1 hp.1 hp.2).1]
theorem done_rl {U : Int → Prop} {f : Int → Int} (h : RlOK U f) {r t : T} {i : Nat} {env : EnvT} (wr : Wd r) : doneAt r (rl f t) i (erl f env) = rl f (doneAt r t i env) := by
  unfold doneAt
  rw [rl_app, rl_app, inst_rl h env r wr.lab, rl_take, sz_rl, rl_drop]
theorem anc_rl (f : Int → Int) (t : T) (i : Nat) : anc (rl f t) i = anc t i := by
  unfold anc
  congr 1
  funext j
  rw [sz_rl]
theorem post_rl (f : Int → Int) (t : T) (i : Nat) : postI (rl f t) i = postI t i := by unfold postI dep; rw [sz_rl, anc_rl]
theorem ord_rl (f : Int → Int) (w : Bool) (t : T) (k : Nat) : ordOf w (rl f t) k = ordOf w t k := by
  unfold ordOf
  rw [rl_len]
  have : (fun i => postI (rl f t) i == k) = (fun i => postI t i == k) := by funext i; rw [post_rl]
  rw [this]
theorem ff_rl {U : Int → Prop} {f : Int → Int} (h : RlOK U f) {lf : Int → T} {nr : Nat} {w : Bool} {t : T} (hw : ∀ r : Nat, r < nr → Wd (lf r)) (ht : LabU U t) : firstFit lf nr w (rl f t) = (firstFit lf nr w t).map (fun z => (z.1, z.2.1, erl f z.2.2)) := by
  unfold firstFit
  rw [rl_len]
  have key : ∀ k, (List.range nr).findSome? (fun (r : Nat) => (fitAt (lf r) (rl f t) (ordOf w (rl f t) k)).map (fun env => (ordOf w (rl f t) k, r, env))) = ((List.range nr).findSome? (fun (r : Nat) => (fitAt (lf r) t (ordOf w t k)).map (fun env => (ordOf w t k, r, env)))).map (fun z => (z.1, z.2.1, erl f z.2.2)) := by
    intro k
    have gen : ∀ l : List Nat, (∀ r ∈ l, r < nr) → l.findSome? (fun (r : Nat) => (fitAt (lf r) (rl f t) (ordOf w (rl f t) k)).map (fun env => (ordOf w (rl f t) k, r, env))) = (l.findSome? (fun (r : Nat) => (fitAt (lf r) t (ordOf w t k)).map (fun env => (ordOf w t k, r, env)))).map (fun z => (z.1, z.2.1, erl f z.2.2)) := by
      intro l
      induction l with
      | nil => intro _; rfl
      | cons r l ih =>
        intro hl
        rw [List.findSome?_cons, List.findSome?_cons, fit_rl h (hw r (hl r List.mem_cons_self)) ht, ord_rl]
        cases fitAt (lf r) t (ordOf w t k) with
        | none =>
          simp only [Option.map_none]
          have := ih (fun z hz => hl z (List.mem_cons_of_mem _ hz))
          rw [ord_rl] at this
          exact this
        | some env => rfl
    exact gen _ (fun r hr => by simpa using hr)
  have gen2 : ∀ l : List Nat, l.findSome? (fun k => (List.range nr).findSome? (fun (r : Nat) => (fitAt (lf r) (rl f t) (ordOf w (rl f t) k)).map (fun env => (ordOf w (rl f t) k, r, env)))) = (l.findSome? (fun k => (List.range nr).findSome? (fun (r : Nat) => (fitAt (lf r) t (ordOf w t k)).map (fun env => (ordOf w t k, r, env))))).map (fun z => (z.1, z.2.1, erl f z.2.2)) := by
    intro l
    induction l with
    | nil => rfl
    | cons k l ih =>
      rw [List.findSome?_cons, List.findSome?_cons, key k]
      cases (List.range nr).findSome? (fun (r : Nat) => (fitAt (lf r) t (ordOf w t k)).map (fun env => (ordOf w t k, r, env))) with
      | none => exact ih
      | some z => rfl
  exact gen2 _
/-- a walk under other names -/
theorem walk_rl {U : Int → Prop} {f : Int → Int} (h : RlOK U f) {lf rt : Int → T} {nr : Nat} {w : Bool} (hr : ∀ r : Int, 0 ≤ r → r < nr → Wr (lf r) (rt r)) : ∀ (n : Nat) (past : List T) (t : T), (∀ s ∈ past, LabU U s) → LabU U t → t ≠ [] → ok 1 t → walkGo lf rt nr w n (past.map (rl f)) (rl f t) = ((walkGo lf rt nr w n past t).1, (walkGo lf rt nr w n past t).2.1, rl f (walkGo lf rt nr w n past t).2.2) ∧ LabU U (walkGo lf rt nr w n past t).2.2
  | 0, past, t, hp, ht, _, _ => by simp [walkGo, ht]
  | n + 1, past, t, hp, ht, h0, hk => by
    by_cases hin : t ∈ past
    · have hin' : rl f t ∈ past.map (rl f) := List.mem_map.mpr ⟨t, hin, rfl⟩
      rw [wg_in hin, wg_in hin']
      exact ⟨by simp, ht⟩
    · have hin' : rl f t ∉ past.map (rl f) := fun w => by
        obtain ⟨s, hs, e⟩ := List.mem_map.mp w
        exact hin (by rw [← rl_inj h (hp s hs) ht e]; exact hs)
      have hff := ff_rl h (lf := lf) (nr := nr) (w := w) (fun r hr' => (hr r (by omega) (by omega)).1) ht
      cases hc : firstFit lf nr w t with
      | none =>
        rw [hc] at hff
        rw [wg_none hin hc, wg_none hin' hff]
        exact ⟨by simp, ht⟩
      | some z =>
        obtain ⟨i, r, env⟩ := z
        rw [hc] at hff
        obtain ⟨hi, hrr, hfit⟩ := ff_spec hc
        have wr := hr r (by omega) (by omega)
        have hd : doneAt (rt r) (rl f t) i (erl f env) = rl f (doneAt (rt r) t i env) := done_rl h wr.2.1
        by_cases h100 : past.length = 100
        · rw [wg_100 hin hc h100, wg_100 hin' hff (by simpa using h100)]
          exact ⟨by simp, ht⟩
        · by_cases h16 : 16 < (doneAt (rt r) t i env).length
          · rw [wg_big hin hc h100 h16, wg_big hin' hff (by simpa using h100) (by rw [hd, rl_len]; exact h16)]
            exact ⟨by simp, ht⟩
          · rw [wg_step hin hc h100 (by omega), wg_step hin' hff (by simpa using h100) (by rw [hd, rl_len]; omega), hd]
            obtain ⟨Mx, hb⟩ := fit_rtb wr hk hi hfit
            have hok := ok_done hk (wr.2.1.1.ok (List.length_pos_iff.mpr wr.2.2.2.1)) hi hb
            have hlab : LabU U (doneAt (rt r) t i env) := fun p hp' => by
              rcases mem_done hb hp' with g | ⟨g, g'⟩
              · exact ht p g
              · have := wr.2.1.lab p g
                exact (h.2 p.1 this.1 this.2).2
            have := walk_rl h hr (w := w) n (past ++ [t]) (doneAt (rt r) t i env) (fun s hs => by
              rcases List.mem_append.mp hs with g | g
              · exact hp s g
              · rw [List.mem_singleton.mp g]; exact ht) hlab (fun e => by rw [e] at hok; exact absurd hok (by simp [ok])) hok
            rw [List.map_append] at this
            exact this
theorem walkF_rl {U : Int → Prop} {f : Int → Int} (h : RlOK U f) {lf rt : Int → T} {nr : Nat} {w : Bool} (hr : ∀ r : Int, 0 ≤ r → r < nr → Wr (lf r) (rt r)) {t : T} (ht : LabU U t) (h0 : t ≠ []) (hk : ok 1 t) : walkF lf rt nr w (rl f t) = ((walkF lf rt nr w t).1, (walkF lf rt nr w t).2.1, rl f (walkF lf rt nr w t).2.2) ∧ LabU U (walkF lf rt nr w t).2.2 := by
  have := walk_rl h hr (w := w) 101 [] t (fun s hs => by simp at hs) ht h0 hk
  exact this
