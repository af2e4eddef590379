/-! read -/
def hdI : List Nat → Int
  | [] => -6
  | j :: _ => j
/-- the parents of the open nodes, in the class's work tree -/
def chn (N : Mem) : List Nat → Prop
  | [] => True
  | j :: r => N (4 + 4) j = hdI r ∧ chn N r
theorem chn.fr {N N' : Mem} : ∀ {st : List Nat}, chn N st → (∀ j ∈ st, N' (4 + 4) j = N (4 + 4) j) → chn N' st
  | [], _, _ => trivial
  | j :: r, h, hf => ⟨by rw [hf j (by simp)]; exact h.1, chn.fr h.2 (fun k hk => hf k (List.mem_cons_of_mem _ hk))⟩
section READ
variable {V : VV} {M : Mem} {Q : Int → Mem → Prop}
theorem x_nodeCount {p : List Int} (h0 : M 1 0 = p.length) (hp : padAt M 2 p) (h60 : p.length ≤ 60) (h : Q (nl p) M) : R_X5_nodeCount V M Q := by
  apply of_X5_nodeCount
  unfold wp_X5_nodeCount wp_X5_nodeCount_4
  refine ⟨fun n j => ∃ i : Nat, j = i ∧ i ≤ p.length ∧ n = nl (p.take i), fun _ j => (61 - j).toNat, ⟨0, rfl, by omega, by simp [nl]⟩, ?_⟩
  rintro n j ⟨i, rfl, hi, rfl⟩
  unfold wp_X5_nodeCount_4_b
  rw [h0]
  refine ⟨fun g => ?_, fun g => ?_⟩
  · have : i = p.length := by omega
    subst this
    rw [List.take_length]; exact h
  · have hil : i < p.length := by omega
    have hle := nl_mono (p := p) (i := i) (j := i + 1) (by omega) (by omega)
    have hb : nl (p.take i) ≤ i := by
      have h1 := List.length_filter_le (fun m : Int => !(m == 40) && !(m == 41)) (p.take i)
      have h2 := List.length_take_le i p
      unfold nl; omega
    have hs := nl_succ hil
    rw [hp.get hil, w_succ (by omega), w_succ (by omega)]
    refine ⟨by omega, fun c => ⟨⟨i + 1, by omega, by omega, ?_⟩, by (try dsimp only); omega⟩, fun c => ⟨by omega, fun d => ⟨⟨i + 1, by omega, by omega, ?_⟩, by (try dsimp only); omega⟩, fun d => ⟨⟨i + 1, by omega, by omega, ?_⟩, by (try dsimp only); omega⟩⟩⟩
    · rw [hs, if_pos (Or.inl c)]; simp
    · rw [hs, if_pos (Or.inr d)]; simp
    · rw [hs, if_neg (by omega)]; simp
theorem x_parse {p : List Int} (h0 : M 1 0 = p.length) (hp : padAt M 2 p) (h60 : p.length ≤ 60) (hr : ∀ x ∈ p, 33 ≤ x ∧ x ≤ 126) (hg : good p 0 0) (h16 : nl p ≤ 16) (h : ∀ M', Ct M' 4 (pR p).1 → Fx 4 10 M M' → Q 0 M') : R_X5_parse V 4 M Q := by
  obtain ⟨wd, hlen⟩ := read_ok hg hr h16
  apply of_X5_parse
  unfold wp_X5_parse wp_X5_parse_10
  refine ⟨fun x j N => ∃ i : Nat, j = i ∧ i ≤ p.length ∧ Cu N 4 (pR (p.take i)).1 ∧ x = hdI (pR (p.take i)).2 ∧ chn N (pR (p.take i)).2 ∧ (∀ i', i = i' + 1 → ¬ (p.getD i' 0 = 40 ∨ p.getD i' 0 = 41) → N (4 + 4) (((pR (p.take i)).1.length - 1 : Nat) : Int) = hdI (pR (p.take i)).2) ∧ Fx 4 10 M N, fun _ j _ => (61 - j).toNat, ⟨0, rfl, by omega, ⟨mset_same _ _ _ _, fun i hi => by simp [pR] at hi⟩, by simp [pR, hdI], by simp [pR, chn], fun i' e => by omega, (Fx.rf _ _ _).set (by omega) (by omega)⟩, ?_⟩
  rintro x j N ⟨i, rfl, hi, cN, rfl, hch, hpar, hF⟩
  have n0 : N 1 0 = p.length := by rw [hF _ _ (by omega)]; exact h0
  have npd : ∀ {q : Nat}, q < p.length → N 2 q = p.getD q 0 := fun {q} hq => by rw [hF _ _ (by omega)]; exact hp.get hq
  unfold wp_X5_parse_10_b
  rw [n0]
  refine ⟨fun g => ?_, fun g => ⟨by omega, ?_⟩⟩
  · have hil : i = p.length := by omega
    subst hil
    rw [List.take_length] at cN
    refine x_settle cN wd.1 (fun M2 c2 f2 => h M2 c2 (hF.trans (f2.mono (by omega) (by omega))))
  · have hil : i < p.length := by omega
    obtain ⟨o, l, v1, v2, v3, v4⟩ := vp hg hr i hi
    have hmay := vp_may hil v2
    have hrange := hr _ (getD_mem hil)
    have hli := pR_len (p := p) i hi
    have hle := nl_mono (p := p) (i := i + 1) (j := p.length) (by omega) (by omega)
    rw [List.take_length] at hle
    have hs := nl_succ hil
    rw [npd hil, w_succ (by omega)]
    refine ⟨fun c => ?_, fun c => ⟨by omega, fun d => ?_, fun d => ?_⟩⟩
    · intro v9 hv9
      have e : pS (pR (p.take i)) (p.getD i 0) = ((pR (p.take i)).1, ((pR (p.take i)).1.length - 1) :: (pR (p.take i)).2) := by unfold pS; rw [if_pos c]
      have hl : ¬ (l = 0 ∨ l = 40) := fun q => by
        rw [c] at hmay
        unfold mayF at hmay; rw [if_pos q] at hmay; revert hmay; decide
      have hlb : isLb l = true := by
        rw [c] at hmay
        unfold mayF at hmay; rwa [if_neg hl, if_pos rfl] at hmay
      have hlr := isLb_iff.mp hlb
      have hne : (pR (p.take i)).1 ≠ [] := fun q => hl (Or.inl (v1.1.mpr q))
      have hpos : 0 < (pR (p.take i)).1.length := List.length_pos_iff.mpr hne
      rw [cN.1, w32_id (by omega) (by omega)] at hv9
      obtain ⟨i', rfl⟩ : ∃ i', i = i' + 1 := ⟨i - 1, by
        rcases Nat.eq_zero_or_pos i with q | q
        · have := v4 q; omega
        · omega⟩
      have hl' := v3 i' rfl
      have hp' := hpar i' rfl (by omega)
      refine ⟨⟨i' + 1 + 1, by omega, by omega, ?_, ?_, ?_, ?_, hF⟩, by (try dsimp only); omega⟩
      · rw [pR_succ hil, e]; exact cN
      · rw [pR_succ hil, e, hv9]; show _ = (((pR (p.take (i' + 1))).1.length - 1 : Nat) : Int); omega
      · rw [pR_succ hil, e]; exact ⟨hp', hch⟩
      · intro i'' e1 e2
        rw [show i'' = i' + 1 by omega] at e2
        exact absurd (Or.inl c) e2
    · have hl : ¬ (l = 0 ∨ l = 40) := fun q => by
        rw [d] at hmay
        unfold mayF at hmay; rw [if_pos q] at hmay; revert hmay; decide
      have ho : 0 < o := by
        rw [d] at hmay
        unfold mayF at hmay
        rw [if_neg hl, if_neg (by omega)] at hmay
        simp at hmay; exact hmay
      have e : pS (pR (p.take i)) (p.getD i 0) = ((pR (p.take i)).1, (pR (p.take i)).2.tail) := by unfold pS; rw [if_neg c, if_pos d]
      cases hst : (pR (p.take i)).2 with
      | nil =>
        have := v1.2.2.2.2.2.1
        rw [hst] at this; simp at this; omega
      | cons k r =>
        have hk := (v1.2.2.1 k (by rw [hst]; simp)).1
        rw [hst] at hch
        unfold wp_X5_parse_69
        apply x_has
        rw [cN.1]
        show (_ ∧ _)
        rw [show hdI (k :: r) = (k : Int) from rfl, if_pos (by omega)]
        refine ⟨fun q => by omega, fun _ => ⟨by omega, ⟨i + 1, ?_, by omega, ?_, ?_, ?_, ?_, hF⟩, by (try dsimp only); rw [w_succ (by omega)]; omega⟩⟩
        · rw [w_succ (by omega)]; omega
        · rw [pR_succ hil, e]; exact cN
        · rw [pR_succ hil, e, hst]; exact hch.1
        · rw [pR_succ hil, e, hst]; exact hch.2
        · intro i'' e1 e2
          rw [show i'' = i by omega] at e2
          exact absurd (Or.inr d) e2
    · rw [if_neg (by omega)] at hs
      have e2 : (pS (pR (p.take i)) (p.getD i 0)).2 = (pR (p.take i)).2 := by unfold pS; rw [if_neg c, if_neg d]
      have hlen2 := pS_len (pR (p.take i)) (p.getD i 0)
      rw [if_neg (by omega)] at hlen2
      have last : ∀ (N' : Mem) (t' : T), t'.length = (pR (p.take i)).1.length → (pS (pR (p.take i)) (p.getD i 0)).1 = t' ++ [(p.getD i 0, 0)] → Cu N' 4 t' → N' 2 i = p.getD i 0 → chn N' (pR (p.take i)).2 → Fx 4 10 M N' → wp_X5_parse_91 V 4 (hdI (pR (p.take i)).2) i N' Q (fun z2 z3 N1 => (∃ i : Nat, z3 = i ∧ i ≤ p.length ∧ Cu N1 4 (pR (p.take i)).1 ∧ z2 = hdI (pR (p.take i)).2 ∧ chn N1 (pR (p.take i)).2 ∧ (∀ i', i = i' + 1 → ¬ (p.getD i' 0 = 40 ∨ p.getD i' 0 = 41) → N1 (4 + 4) (((pR (p.take i)).1.length - 1 : Nat) : Int) = hdI (pR (p.take i)).2) ∧ Fx 4 10 M N1) ∧ (61 - z3).toNat < (61 - (i : Int)).toNat) := by
        intro N' t' lt et ct pt ch' fx'
        unfold wp_X5_parse_91
        rw [pt, w_succ (by omega)]
        refine ⟨by omega, ?_⟩
        refine x_append (a := 0) ct (by omega) (fun M6 c6 f6 => ?_)
        rw [← et] at c6
        rw [c6.1]
        refine ⟨fun q => by omega, fun _ => ?_⟩
        rw [w32_id (by omega) (by omega)]
        refine ⟨by omega, ⟨i + 1, by omega, by omega, ?_, ?_, ?_, ?_, ?_⟩, by (try dsimp only); omega⟩
        · rw [pR_succ hil]
          exact ⟨by rw [mset_cell _ (by omega)]; exact c6.1, fun q hq => by rw [mset_cell _ (by omega), mset_cell _ (by omega)]; exact c6.2 q hq⟩
        · rw [pR_succ hil, e2]
        · rw [pR_succ hil, e2]
          refine ch'.fr (fun k hk => ?_)
          have := (v1.2.2.1 k hk).1
          rw [mset_idx _ _ _ (by omega), f6 _ _ (by omega)]
        · intro i'' e1 e3
          rw [pR_succ hil, e2, show (((pS (pR (p.take i)) (p.getD i 0)).1.length - 1 : Nat) : Int) = (((pS (pR (p.take i)) (p.getD i 0)).1.length : Nat) : Int) - 1 by omega, mset_same]
        · exact (fx'.trans (f6.mono (by omega) (by omega))).set (by omega) (by omega)
      apply x_has
      rw [cN.1]
      cases hst : (pR (p.take i)).2 with
      | nil =>
        rw [show hdI [] = -6 from rfl, if_neg (by omega)]
        refine ⟨fun _ => ?_, fun q => by omega⟩
        have := last N (pR (p.take i)).1 rfl (by unfold pS; rw [if_neg c, if_neg d, hst]) cN (npd hil) hch hF
        rw [hst] at this; exact this
      | cons k r =>
        have hk := (v1.2.2.1 k (by rw [hst]; simp)).1
        rw [show hdI (k :: r) = (k : Int) from rfl, if_pos (by omega)]
        refine ⟨fun q => by omega, fun _ => ⟨by omega, by omega, ?_⟩⟩
        have hka := ar_lt (v1.2.1 (fun q => by rw [q] at hk; simp at hk)) hk
        rw [(cN.2 k hk).2, w_succ (by omega)]
        have := last (mset N (4 + 2) k ((ar (pR (p.take i)).1 k : Int) + 1)) (bump (pR (p.take i)).1 k) (bump_len _ _) (by unfold pS; rw [if_neg c, if_neg d, hst]) ⟨by rw [mset_cell _ (by omega), bump_len]; exact cN.1, fun q hq => ?_⟩ (by rw [mset_cell _ (by omega)]; exact npd hil) (hch.fr (fun q hq => mset_cell _ (by omega) _ _ _)) (hF.set (by omega) (by omega))
        · rw [hst] at this; exact this
        · rw [bump_len] at hq
          rw [mset_cell _ (by omega), bump_lb, bump_ar _ _ _ hk]
          by_cases eq : q = k
          · rw [eq, mset_same, if_pos rfl]; exact ⟨(cN.2 k hk).1, by omega⟩
          · rw [mset_idx _ _ _ (by omega), if_neg eq]; exact ⟨(cN.2 q hq).1, by rw [(cN.2 q hq).2]; rfl⟩
end READ
