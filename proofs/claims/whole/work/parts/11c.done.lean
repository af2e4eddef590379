/-! a rule done at a node -/
theorem ok_repl : ∀ (t : T) (n i : Nat) (b : T), ok n t → i < t.length → ok 1 b → ok n (t.take i ++ b ++ t.drop (i + sz t i))
  | t, n, 0, b, h, hi, hb => by
    obtain ⟨m, hm⟩ := ok_drop1 h hi
    rw [List.drop_zero] at hm
    have hn := ok_uniq t n (1 + m) h hm
    subst hn
    have h2 := (ok_split t 1 m hm).2
    have e : sz t 0 = fp 1 t := by simp [sz]
    rw [List.take_zero, List.nil_append, Nat.zero_add, e]
    exact ok_app b _ 1 m hb h2
  | [], n, i + 1, b, h, hi, hb => by simp at hi
  | x :: l, 0, i + 1, b, h, hi, hb => absurd h (by simp [ok])
  | x :: l, n + 1, i + 1, b, h, hi, hb => by
    have ih := ok_repl l (n + x.2) i b h (by simpa using hi) hb
    have e : sz (x :: l) (i + 1) = sz l i := by simp [sz]
    rw [e, show i + 1 + sz l i = (i + sz l i) + 1 by omega, List.drop_succ_cons, List.take_succ_cons, List.cons_append, List.cons_append]
    exact ih
theorem inst_cons (p : Int × Nat) (r : T) (env : EnvT) : inst (p :: r) env = (if isH p.1 then (env p.1).getD [] else [p]) ++ inst r env := by simp [inst]
theorem inst_app (a b : T) (env : EnvT) : inst (a ++ b) env = inst a env ++ inst b env := by simp [inst]
theorem ok_inst (env : EnvT) : ∀ (r : T) (n : Nat), ok n r → (∀ p ∈ r, isH p.1 = true → p.2 = 0 ∧ ∃ s, env p.1 = some s ∧ ok 1 s) → ok n (inst r env)
  | [], n, h, _ => h
  | p :: r, 0, h, _ => absurd h (by simp [ok])
  | p :: r, n + 1, h, hp => by
    have ih := ok_inst env r (n + p.2) h (fun q hq => hp q (List.mem_cons_of_mem _ hq))
    rw [inst_cons]
    by_cases hh : isH p.1 = true
    · obtain ⟨h0, s, hs, hk⟩ := hp p List.mem_cons_self hh
      rw [if_pos hh, hs]
      rw [h0] at ih
      have := ok_app s _ 1 n hk ih
      rw [show 1 + n = n + 1 by omega] at this
      exact this
    · rw [if_neg hh]
      exact ih
theorem mtc_dom : ∀ (l t : T) (env env' : EnvT), mtc l t env = some env' → (∀ c s, env c = some s → env' c = some s) ∧ ∀ c, isH c = true → holeIn l c = true → ∃ s, env' c = some s
  | [], t, env, env', h => by
    have h' : some env = some env' := by
      cases t <;> exact h
    have e : env = env' := Option.some.inj h'
    subst e
    exact ⟨fun c s h => h, fun c _ h => by simp [holeIn] at h⟩
  | p :: ps, t, env, env', h => by
    unfold mtc at h
    by_cases hh : isH p.1 = true
    · simp only [hh, if_true] at h
      cases he : env p.1 with
      | none =>
        rw [he] at h
        obtain ⟨h1, h2⟩ := mtc_dom ps _ _ _ h
        refine ⟨fun c s hs => h1 c s ?_, fun c hc hl => ?_⟩
        · have : c ≠ p.1 := fun e => by rw [e, he] at hs; cases hs
          simp [eset, this, hs]
        · by_cases e : c = p.1
          · exact ⟨_, h1 c _ (by simp [eset, e]; rfl)⟩
          · refine h2 c hc ?_
            simp only [holeIn, List.any_cons, Bool.or_eq_true, beq_iff_eq] at hl
            rcases hl with g | g
            · exact absurd g.symm e
            · exact g
      | some s =>
        rw [he] at h
        simp only at h
        split at h
        · obtain ⟨h1, h2⟩ := mtc_dom ps _ _ _ h
          refine ⟨h1, fun c hc hl => ?_⟩
          by_cases e : c = p.1
          · exact ⟨s, h1 c s (by rw [e, he])⟩
          · refine h2 c hc ?_
            simp only [holeIn, List.any_cons, Bool.or_eq_true, beq_iff_eq] at hl
            rcases hl with g | g
            · exact absurd g.symm e
            · exact g
        · cases h
    · have hf : isH p.1 = false := Bool.eq_false_iff.mpr hh
      simp only [hf, Bool.false_eq_true, if_false] at h
      cases t with
      | nil => exact absurd h (by simp)
      | cons q l' =>
        simp only at h
        split at h
        · obtain ⟨h1, h2⟩ := mtc_dom ps _ _ _ h
          refine ⟨h1, fun c hc hl => h2 c hc ?_⟩
          simp only [holeIn, List.any_cons, Bool.or_eq_true, beq_iff_eq] at hl
          rcases hl with g | g
          · rw [g] at hh; exact absurd hc hh
          · exact g
        · cases h
/-- what a fitting puts for the right tree's holes -/
def RtB (M : Mem) (c : Int) (t : T) (env : EnvT) (rt : T) : Prop := ∀ p ∈ rt, isH p.1 = true → p.2 = 0 ∧ ∃ n : Nat, n < t.length ∧ env p.1 = some (sub t n) ∧ M c (p.1 - 65) = n
theorem RtB.of {M : Mem} {c : Int} {l rt t : T} {i : Nat} {env : EnvT} (wr : Wr l rt) (hf : fitAt l t i = some env) (hb : BndOK M c t env) : RtB M c t env rt := by
  intro p hp hh
  refine ⟨?_, ?_⟩
  · rcases wr.2.1.2 p hp with g | g
    · rw [isH_iff] at hh; omega
    · exact g.2
  · have hin : holeIn rt p.1 = true := by
      unfold holeIn
      rw [List.any_eq_true]
      exact ⟨p, hp, by simp⟩
    obtain ⟨s, hs⟩ := (mtc_dom _ _ _ _ hf).2 p.1 hh (wr.2.2.2.2.2 p.1 hh hin)
    rw [isH_iff] at hh
    obtain ⟨q, hq⟩ : ∃ q : Nat, p.1 = 65 + q := ⟨(p.1 - 65).toNat, by omega⟩
    rcases hb q (by omega) with ⟨g, -⟩ | ⟨n, n1, n2, n3⟩
    · rw [← hq, hs] at g; cases g
    · exact ⟨n, n1, by rw [hq]; exact n2, by rw [hq, show (65 + (q : Int) - 65) = q by omega]; exact n3⟩
theorem RtB.fr {M M' : Mem} {c : Int} {t rt : T} {env : EnvT} (h : RtB M c t env rt) (hf : ∀ j, M' c j = M c j) : RtB M' c t env rt := fun p hp hh => by
  obtain ⟨h0, n, h1, h2, h3⟩ := h p hp hh
  exact ⟨h0, n, h1, h2, by rw [hf]; exact h3⟩
theorem mem_lbar {l : T} {p : Nat} (hp : p < l.length) : (lb l p, ar l p) ∈ l := by
  have e : (lb l p, ar l p) = l[p] := by simp [lb, ar, List.getD_eq_getElem?_getD, List.getElem?_eq_getElem hp]
  rw [e]; exact List.getElem_mem hp
theorem inst_step {r : T} {p : Nat} {env : EnvT} (hp : p < r.length) : inst (r.take (p + 1)) env = inst (r.take p) env ++ (if isH (lb r p) then (env (lb r p)).getD [] else [(lb r p, ar r p)]) := by
  rw [take_succ' hp, inst_app, inst_cons]; simp [inst]
theorem inst_take_le (r : T) (p : Nat) (env : EnvT) : (inst (r.take p) env).length ≤ (inst r env).length := by
  conv => rhs; rw [← List.take_append_drop p r, inst_app]
  simp
theorem inst_len_le {M : Mem} {c : Int} {t rt : T} {env : EnvT} (h : RtB M c t env rt) (h16 : t.length ≤ 16) : ∀ p, p ≤ rt.length → (inst (rt.take p) env).length ≤ 16 * p
  | 0, _ => by simp [inst]
  | p + 1, hp => by
    have ih := inst_len_le h h16 p (by omega)
    have hpl : p < rt.length := by omega
    rw [inst_step hpl, List.length_append]
    by_cases hh : isH (lb rt p) = true
    · obtain ⟨-, n, n1, n2, -⟩ := h _ (mem_lbar hpl) hh
      simp only at n2
      rw [if_pos hh, n2, Option.getD_some, sub_len]
      have := sz_end n1
      omega
    · rw [if_neg hh]; simp; omega
theorem done_len {r t : T} {i : Nat} {env : EnvT} (hi : i < t.length) : (doneAt r t i env).length = i + (inst r env).length + (t.length - (i + sz t i)) := by
  have := sz_end hi
  unfold doneAt
  simp; omega
theorem ok_done {M : Mem} {c : Int} {r t : T} {i : Nat} {env : EnvT} (ht : ok 1 t) (hr : ok 1 r) (hi : i < t.length) (hb : RtB M c t env r) : ok 1 (doneAt r t i env) := by
  refine ok_repl t 1 i _ ht hi (ok_inst env r 1 hr (fun p hp hh => ?_))
  obtain ⟨h0, n, h1, h2, h3⟩ := hb p hp hh
  exact ⟨h0, _, h2, ok_sub ht h1⟩
section DONE
variable {V : VV} {M : Mem} {Q : Int → Mem → Prop}
theorem x_nodesThen {k' k : Int} {r t : T} {env : EnvT} {i : Nat} (hr : Cu M k' r) (r16 : r.length ≤ 16) (ht : Ct M k t) (t16 : t.length ≤ 16) (hi : i < t.length) (hb : RtB M 31 t env r) (h : Q (doneAt r t i env).length M) : R_X6_nodesThen V k' k i M Q := by
  have hse := sz_end hi
  have r0 := hr.1
  have t0 := ht.1.1
  apply of_X6_nodesThen
  unfold wp_X6_nodesThen
  refine ⟨by omega, ?_⟩
  intro v1 hv1
  rw [(ht.2 i hi).1, t0, w32_id (by omega) (by omega)] at hv1
  unfold wp_X6_nodesThen_16
  refine ⟨fun v p N => N = M ∧ ∃ q : Nat, p = q ∧ q ≤ r.length ∧ v = (t.length : Int) - sz t i + (inst (r.take q) env).length, fun _ p _ => (17 - p).toNat, ⟨rfl, 0, rfl, by omega, by simp [inst]; omega⟩, ?_⟩
  rintro v p N ⟨rfl, q, rfl, hq, rfl⟩
  unfold wp_X6_nodesThen_16_b
  rw [r0]
  refine ⟨fun c => ?_, fun c => ⟨by omega, ?_⟩⟩
  · have : q = r.length := by omega
    subst this
    rw [List.take_length]
    rw [done_len hi] at h
    have e : (t.length : Int) - sz t i + (inst r env).length = ((i + (inst r env).length + (t.length - (i + sz t i)) : Nat) : Int) := by omega
    rw [e]; exact h
  · have hql : q < r.length := by omega
    have hle := inst_len_le hb t16 q hq
    intro v2 hv2
    rw [(hr.2 q hql).1] at hv2
    subst hv2
    apply x_isHole
    by_cases hh : 65 ≤ lb r q ∧ lb r q ≤ 72
    · rw [if_pos hh]
      have hH := isH_iff.mpr hh
      obtain ⟨-, n, n1, n2, n3⟩ := hb _ (mem_lbar hql) hH
      simp only at n2 n3
      have hsn := sz_end n1
      refine ⟨fun c => by omega, fun _ => ?_⟩
      rw [w32_id (x := lb r q - 65) (by omega) (by omega), n3]
      refine ⟨by omega, ?_⟩
      unfold wp_X6_nodesThen_56 wp_X6_nodesThen_80
      apply x_has
      rw [t0, if_pos (by omega)]
      refine ⟨fun c => by omega, fun _ => ⟨by omega, ?_⟩⟩
      rw [(ht.2 n n1).1, w32_id (x := _ + (sz t n : Int)) (by omega) (by omega), w_succ (by omega)]
      refine ⟨⟨rfl, q + 1, by omega, by omega, ?_⟩, by (try dsimp only); omega⟩
      rw [inst_step hql, if_pos hH, n2, Option.getD_some, List.length_append, sub_len]; omega
    · rw [if_neg hh]
      have hH : ¬ isH (lb r q) = true := fun g => hh (isH_iff.mp g)
      refine ⟨fun _ => ?_, fun c => by omega⟩
      unfold wp_X6_nodesThen_56 wp_X6_nodesThen_80
      apply x_has
      rw [if_neg (by omega)]
      refine ⟨fun _ => ?_, fun c => by omega⟩
      rw [w32_id (x := _ + (1 : Int)) (by omega) (by omega), w_succ (by omega)]
      refine ⟨⟨rfl, q + 1, by omega, by omega, ?_⟩, by (try dsimp only); omega⟩
      rw [inst_step hql, if_neg hH, List.length_append]; simp; omega
theorem x_rewrite {k r : Int} {l rt t : T} {i nr : Nat} (h28 : M 28 0 = nr) (hnr : nr ≤ 6) (hr : 0 ≤ r ∧ r < nr) (hk : k + 6 < 28 ∨ 123 ≤ k) (hl : Cu M (39 + 14 * r) l) (hrt : Cu M (46 + 14 * r) rt) (wr : Wr l rt) (ht : Ct M k t) (wt : Wt t) (hi : i < t.length)
    (h0 : ∀ M', Fx 31 31 M M' → fitAt l t i = none → Q (-1) M')
    (h1 : ∀ M' env, Fx 31 31 M M' → fitAt l t i = some env → 16 < (doneAt rt t i env).length → Q (doneAt rt t i env).length M')
    (h2 : ∀ M' env, fitAt l t i = some env → (doneAt rt t i env).length ≤ 16 → ok 1 (doneAt rt t i env) → Ct M' k (doneAt rt t i env) → (∀ c j, ¬ (31 ≤ c ∧ c ≤ 38) → ¬ (k ≤ c ∧ c ≤ k + 6) → M' c j = M c j) → Q (doneAt rt t i env).length M') : R_X6_rewrite V r k i M Q := by
  have t16 := wt.1
  have r16 := wr.2.1.1.1
  have hse := sz_end hi
  have rp : 0 < rt.length := List.length_pos_iff.mpr wr.2.2.2.1
  apply of_X6_rewrite
  unfold wp_X6_rewrite
  refine x_suits h28 hnr hr (by omega) hl wr.1 wr.2.2.1 wr.2.2.2.2.1 ht wt hi (fun M1 f1 e => ⟨fun _ => h0 M1 f1 e, fun c => by omega⟩) (fun M1 env f1 e hb => ⟨fun c => by omega, fun _ => ⟨by omega, ?_⟩⟩)
  have hB := RtB.of wr e hb
  have hokd := ok_done (wt.ok hi) (wr.2.1.1.ok rp) hi hB
  have hlen := done_len (r := rt) (env := env) hi
  have cr1 : Cu M1 (46 + 14 * r) rt := f1.cu (by omega) hrt
  have ct1 : Ct M1 k t := f1.ct (by omega) ht
  refine x_nodesThen cr1 r16 ct1 t16 hi hB ?_
  refine ⟨fun c => ?_, fun c => h1 M1 env f1 e (by omega)⟩
  have fin : ∀ M', Ct M' k (doneAt rt t i env) → (∀ c j, ¬ (31 ≤ c ∧ c ≤ 38) → ¬ (k ≤ c ∧ c ≤ k + 6) → M' c j = M1 c j) → Q (doneAt rt t i env).length M' := fun M' c' f' => h2 M' env e (by omega) hokd c' (fun c j a b => by rw [f' c j a b, f1 _ _ (by omega)])
  generalize hdl : ((doneAt rt t i env).length : Int) = dl at fin c ⊢
  unfold wp_X6_rewrite_47
  refine ⟨fun j N => ∃ q : Nat, j = q ∧ q ≤ i ∧ Cu N 32 (t.take q) ∧ Fx 32 34 M1 N, fun j _ => (17 - j).toNat, ⟨0, rfl, by omega, ⟨mset_same _ _ _ _, fun q hq => by simp at hq⟩, (Fx.rf _ _ _).set (by omega) (by omega)⟩, ?_⟩
  rintro j N ⟨q, rfl, hq, cN, fN⟩
  have ctN : Ct N k t := fN.ct (by omega) ct1
  unfold wp_X6_rewrite_47_b
  refine ⟨fun g => ?_, fun g => ⟨by omega, by omega, ?_⟩⟩
  · have hqi : q = i := by omega
    subst hqi
    clear g
    unfold wp_X6_rewrite_83
    refine ⟨fun j P => ∃ p : Nat, j = p ∧ p ≤ rt.length ∧ Cu P 32 (t.take q ++ inst (rt.take p) env) ∧ Fx 32 34 M1 P, fun j _ => (17 - j).toNat, ⟨0, rfl, by omega, by simpa [inst] using cN, fN⟩, ?_⟩
    rintro j P ⟨p, rfl, hp, cP, fP⟩
    have ctP : Ct P k t := fP.ct (by omega) ct1
    have crP : Cu P (46 + 14 * r) rt := fP.cu (by omega) cr1
    have hBP : RtB P 31 t env rt := hB.fr (fun j => fP _ _ (by omega))
    unfold wp_X6_rewrite_83_b
    rw [crP.1]
    refine ⟨by omega, fun g => ⟨by omega, ?_⟩, fun g => ⟨by omega, by omega, ?_⟩⟩
    · have hpr : p = rt.length := by omega
      subst hpr
      rw [List.take_length] at cP
      intro v hv
      rw [(ctP.2 q hi).1, w32_id (by omega) (by omega)] at hv
      unfold wp_X6_rewrite_177
      refine ⟨fun j R => ∃ m : Nat, j = ((q + sz t q + m : Nat) : Int) ∧ q + sz t q + m ≤ t.length ∧ Cu R 32 (t.take q ++ inst rt env ++ (t.drop (q + sz t q)).take m) ∧ Fx 32 34 M1 R, fun j _ => (17 - j).toNat, ⟨0, by omega, by omega, by simpa using cP, fP⟩, ?_⟩
      rintro j R ⟨m, rfl, hm, cR, fR⟩
      have ctR : Ct R k t := fR.ct (by omega) ct1
      unfold wp_X6_rewrite_177_b
      rw [ctR.1.1]
      refine ⟨fun g => ?_, fun g => ⟨by omega, by omega, ?_⟩⟩
      · have hme : m = (t.drop (q + sz t q)).length := by simp; omega
        rw [hme, List.take_length] at cR
        have cR' : Cu R 32 (doneAt rt t q env) := cR
        refine x_settle cR' ⟨by omega, fun _ => hokd⟩ (fun M5 c5 f5 => ?_)
        refine x_copyAll c5 (by omega) (by omega) (fun M6 c6 f6 => ?_)
        exact fin M6 c6 (fun c j a b => by rw [f6 _ _ (by omega), f5 _ _ (by omega), fR _ _ (by omega)])
      · have hlt : q + sz t q + m < t.length := by omega
        have hg := ctR.1.2 (q + sz t q + m) hlt
        rw [hg.1, hg.2]
        have hdrop : m < (t.drop (q + sz t q)).length := by simp; omega
        have hlb : lb (t.drop (q + sz t q)) m = lb t (q + sz t q + m) ∧ ar (t.drop (q + sz t q)) m = ar t (q + sz t q + m) := by simp [lb, ar]
        refine x_append cR (by simp; omega) (fun M5 c5 f5 => ?_)
        rw [w32_id (by omega) (by omega)]
        refine ⟨⟨m + 1, by omega, by omega, ?_, fR.trans f5⟩, by (try dsimp only); omega⟩
        rw [take_succ' hdrop, hlb.1, hlb.2, ← List.append_assoc]; exact c5
    · have hpl : p < rt.length := by omega
      have hple := inst_take_le rt (p + 1) env
      rw [inst_step hpl, List.length_append] at hple
      intro v hv
      rw [(crP.2 p hpl).1] at hv
      subst hv
      apply x_isHole
      rw [w_succ (k := p) (by omega)]
      by_cases hh : 65 ≤ lb rt p ∧ lb rt p ≤ 72
      · rw [if_pos hh]
        have hH := isH_iff.mpr hh
        obtain ⟨-, n, n1, n2, n3⟩ := hBP _ (mem_lbar hpl) hH
        simp only at n2 n3
        rw [if_pos hH, n2, Option.getD_some, sub_len] at hple
        refine ⟨fun c => by omega, fun _ => ?_⟩
        rw [w32_id (x := lb rt p - 65) (by omega) (by omega), n3]
        refine ⟨by omega, ?_⟩
        refine x_appendPart cP ctP.1 (ctP.2 n n1).1 n1 t16 (by simp; omega) (by omega) (fun M5 c5 f5 => ?_)
        refine ⟨⟨p + 1, by omega, by omega, ?_, fP.trans f5⟩, by (try dsimp only); omega⟩
        rw [inst_step hpl, if_pos hH, n2, Option.getD_some, ← List.append_assoc]; exact c5
      · rw [if_neg hh]
        have hH : ¬ isH (lb rt p) = true := fun g => hh (isH_iff.mp g)
        rw [if_neg hH] at hple
        simp only [List.length_cons, List.length_nil] at hple
        refine ⟨fun _ => ⟨by omega, by omega, ?_⟩, fun c => by omega⟩
        rw [(crP.2 p hpl).2]
        refine x_append cP (by simp; omega) (fun M5 c5 f5 => ?_)
        refine ⟨⟨p + 1, by omega, by omega, ?_, fP.trans f5⟩, by (try dsimp only); omega⟩
        rw [inst_step hpl, if_neg hH, ← List.append_assoc]; exact c5
  · have hqt : q < t.length := by omega
    rw [(ctN.1.2 q hqt).1, (ctN.1.2 q hqt).2]
    refine x_append cN (by simp; omega) (fun M5 c5 f5 => ?_)
    rw [w32_id (by omega) (by omega)]
    refine ⟨⟨q + 1, by omega, by omega, ?_, fN.trans f5⟩, by (try dsimp only); omega⟩
    rw [take_succ' hqt]; exact c5
end DONE
