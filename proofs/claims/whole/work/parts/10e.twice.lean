/-! twice -/
def twLt (t : T) (st : Option (Nat × Nat)) (i : Nat) : Bool := match st with
  | none => true
  | some p => decide (sz t p.1 < sz t i)
def twStep (t : T) (st : Option (Nat × Nat)) (i k : Nat) : Option (Nat × Nat) :=
  if twLt t st i = true ∧ sub t i = sub t k then some (i, k) else st
def twIn (t : T) (i : Nat) (st : Option (Nat × Nat)) (m : Nat) : Option (Nat × Nat) := (List.range m).foldl (fun st k => if i < k then twStep t st i k else st) st
def twOut (t : T) (m : Nat) : Option (Nat × Nat) := (List.range m).foldl (fun st i => twIn t i st t.length) none
theorem twIn_succ (t : T) (i : Nat) (st : Option (Nat × Nat)) (m : Nat) : twIn t i st (m + 1) = if i < m then twStep t (twIn t i st m) i m else twIn t i st m := by
  unfold twIn; rw [List.range_succ, List.foldl_append]; rfl
theorem twOut_succ (t : T) (m : Nat) : twOut t (m + 1) = twIn t m (twOut t m) t.length := by
  unfold twOut; rw [List.range_succ, List.foldl_append]; rfl
theorem sz_within {t : T} {i k : Nat} (hi : i < t.length) (h1 : i < k) (h2 : k < i + sz t i) : sz t k < sz t i := by
  have := nest (l := t) (by omega) h2
  omega
theorem twIn_skip {t : T} {i : Nat} (hi : i < t.length) (st : Option (Nat × Nat)) : ∀ m, m ≤ i + sz t i → twIn t i st m = st
  | 0, _ => rfl
  | m + 1, h => by
    rw [twIn_succ, twIn_skip hi st m (by omega)]
    split
    · rename_i g
      unfold twStep
      rw [if_neg]
      rintro ⟨-, e⟩
      have h1 := sz_within hi g (by omega)
      have h2 := congrArg List.length e
      rw [sub_len, sub_len] at h2
      omega
    · rfl
/-- the pair that is found, as the two programs hold it -/
def tw1 (st : Option (Nat × Nat)) : Int := match st with | none => -6 | some p => p.1
def tw2 (st : Option (Nat × Nat)) : Int := match st with | none => -6 | some p => p.2
def twS (d : Int) (t : T) (st : Option (Nat × Nat)) : Int := match st with | none => d | some p => sz t p.1
section OPS5
variable {V : VV} {M : Mem} {Q : Int → Mem → Prop}
theorem tw_gt {t : T} {d : Int} (hd : d ≤ 0) {st : Option (Nat × Nat)} {i : Nat} (hi : i < t.length) : (twS d t st < sz t i) ↔ twLt t st i = true := by
  have := sz_pos hi
  cases st with
  | none => simp [twS, twLt]; omega
  | some p => simp [twS, twLt]
theorem x_twice {k w : Int} {t : T} (hc : Ct M k t) (hw : Wt t) (hwr : 0 ≤ w ∧ w ≤ 2) (h : Q (if w = 0 then twS (-6) t (twOut t t.length) else if w = 1 then tw1 (twOut t t.length) else tw2 (twOut t t.length)) M) : wp_X9_twice_39 V w k (-6) (-6) (-6) 0 M Q := by
  have h16 := hw.1
  have h0 := hc.1.1
  unfold wp_X9_twice_39
  refine ⟨fun a b c j N => N = M ∧ ∃ i : Nat, j = i ∧ i ≤ t.length ∧ a = tw1 (twOut t i) ∧ b = tw2 (twOut t i) ∧ c = twS (-6) t (twOut t i), fun _ _ _ j _ => (17 - j).toNat, ⟨rfl, 0, rfl, by omega, rfl, rfl, rfl⟩, ?_⟩
  rintro a b c j N ⟨rfl, i, rfl, hi, rfl, rfl, rfl⟩
  unfold wp_X9_twice_39_b
  refine ⟨fun g => ?_, fun g => ?_⟩
  · have : i = t.length := by omega
    subst this
    refine ⟨fun e => by rwa [if_pos e] at h, fun e => ⟨fun e' => by rwa [if_neg e, if_pos e'] at h, fun e' => by rwa [if_neg e, if_neg e'] at h⟩⟩
  · have hit : i < t.length := by omega
    rw [w32_id (by omega) (by omega)]
    unfold wp_X9_twice_54
    refine ⟨fun a b c j N' => N' = N ∧ ∃ q : Nat, j = q ∧ i + 1 ≤ q ∧ q ≤ t.length ∧ a = tw1 (twIn t i (twOut t i) q) ∧ b = tw2 (twIn t i (twOut t i) q) ∧ c = twS (-6) t (twIn t i (twOut t i) q), fun _ _ _ j _ => (17 - j).toNat, ⟨rfl, i + 1, by omega, by omega, by omega, ?_, ?_, ?_⟩, ?_⟩
    · rw [twIn_skip hit _ _ (by have := sz_pos hit; omega)]
    · rw [twIn_skip hit _ _ (by have := sz_pos hit; omega)]
    · rw [twIn_skip hit _ _ (by have := sz_pos hit; omega)]
    rintro a b c j N' ⟨rfl, q, rfl, hq1, hq, rfl, rfl, rfl⟩
    unfold wp_X9_twice_54_b
    rw [h0, (hc.2 i hit).1]
    have e1 : w32 ((i : Int) + 1) = i + 1 := w32_id (by omega) (by omega)
    have e2 : w32 ((q : Int) + 1) = q + 1 := w32_id (by omega) (by omega)
    rw [e1, e2]
    refine ⟨fun g => ?_, fun g => ⟨by omega, fun d => ?_, fun d => ?_⟩⟩
    · have : q = t.length := by omega
      subst this
      refine ⟨⟨rfl, i + 1, by omega, by omega, ?_, ?_, ?_⟩, by (try dsimp only); omega⟩ <;> rw [twOut_succ]
    · have hn : twIn t i (twOut t i) (q + 1) = twIn t i (twOut t i) q := by
        rw [twIn_succ, if_pos (by omega)]
        unfold twStep
        rw [if_neg]
        rintro ⟨e, -⟩
        have := (tw_gt (d := -6) (by omega) hit).mpr e
        omega
      refine ⟨⟨rfl, q + 1, by omega, by omega, by omega, ?_, ?_, ?_⟩, by (try dsimp only); omega⟩ <;> rw [hn]
    · have hgt := (tw_gt (d := -6) (st := twIn t i (twOut t i) q) (by omega) hit).mp (by omega)
      have hqt : q < t.length := by omega
      refine x_isAs hc.1 hc.1 (hc.2 i hit).1 (hc.2 q hqt).1 h16 h16 hit hqt ?_
      refine ⟨fun e => ?_, fun e => ⟨by omega, ?_⟩⟩
      · have hn : twIn t i (twOut t i) (q + 1) = twIn t i (twOut t i) q := by
          rw [twIn_succ, if_pos (by omega)]
          unfold twStep
          rw [if_neg]
          rintro ⟨-, e'⟩
          rw [if_pos e'] at e; omega
        refine ⟨⟨rfl, q + 1, by omega, by omega, by omega, ?_, ?_, ?_⟩, by (try dsimp only); omega⟩ <;> rw [hn]
      · intro v hv
        rw [(hc.2 i hit).1] at hv
        have hn : twIn t i (twOut t i) (q + 1) = some (i, q) := by
          rw [twIn_succ, if_pos (by omega)]
          unfold twStep
          rw [if_pos]
          refine ⟨hgt, ?_⟩
          split at e
          · assumption
          · exact absurd rfl e
        refine ⟨⟨rfl, q + 1, by omega, by omega, by omega, ?_, ?_, ?_⟩, by (try dsimp only); omega⟩ <;> rw [hn]
        · rfl
        · rfl
        · exact hv
theorem m_twice {x w : Int} {t : T} (hx : 0 ≤ x ∧ x ≤ 5) (hm : Mt M x t) (hw : Wt t) (hwr : 0 ≤ w ∧ w ≤ 2) (h : Q (if w = 0 then twS (-6) t (twOut t t.length) else if w = 1 then tw1 (twOut t t.length) else tw2 (twOut t t.length)) M) : wp_X10_twice_43 V x w 0 (-6) (-6) 0 M Q := by
  have h16 := hw.1
  have h0 := hm.1
  unfold wp_X10_twice_43
  refine ⟨fun c a b j N => N = M ∧ ∃ i : Nat, j = i ∧ i ≤ t.length ∧ a = tw1 (twOut t i) ∧ b = tw2 (twOut t i) ∧ c = twS 0 t (twOut t i), fun _ _ _ j _ => (17 - j).toNat, ⟨rfl, 0, rfl, by omega, rfl, rfl, rfl⟩, ?_⟩
  rintro c a b j N ⟨rfl, i, rfl, hi, rfl, rfl, rfl⟩
  unfold wp_X10_twice_43_b
  refine ⟨by omega, fun g => ?_, fun g => ?_⟩
  · have : i = t.length := by omega
    subst this
    refine ⟨fun e1 => ?_, fun e1 => ?_⟩
    · have e0 : twS 0 t (twOut t t.length) = twS (-6) t (twOut t t.length) := by
        cases hq : twOut t t.length with
        | none => rw [hq] at e1; simp [tw1] at e1
        | some p => rfl
      rw [e0]
      refine ⟨fun e => by rwa [if_pos e] at h, fun e => ⟨fun e' => by rwa [if_neg e, if_pos e'] at h, fun e' => by rwa [if_neg e, if_neg e'] at h⟩⟩
    · have e0 : twOut t t.length = none := by
        cases hq : twOut t t.length with
        | none => rfl
        | some p => rw [hq] at e1; simp [tw1] at e1
      rw [e0] at h
      simpa [twS, tw1, tw2] using h
  · have hit : i < t.length := by omega
    have hse := sz_end hit
    have hsp := sz_pos hit
    refine m_sizeOf (by omega) hm hw hit ?_
    rw [w32_id (by omega) (by omega)]
    unfold wp_X10_twice_70
    refine ⟨fun c a b j N' => N' = N ∧ ∃ q : Nat, j = q ∧ i + sz t i ≤ q ∧ q ≤ t.length ∧ a = tw1 (twIn t i (twOut t i) q) ∧ b = tw2 (twIn t i (twOut t i) q) ∧ c = twS 0 t (twIn t i (twOut t i) q), fun _ _ _ j _ => (17 - j).toNat, ⟨rfl, i + sz t i, by omega, by omega, by omega, ?_, ?_, ?_⟩, ?_⟩
    · rw [twIn_skip hit _ _ (by omega)]
    · rw [twIn_skip hit _ _ (by omega)]
    · rw [twIn_skip hit _ _ (by omega)]
    rintro c a b j N' ⟨rfl, q, rfl, hq1, hq, rfl, rfl, rfl⟩
    unfold wp_X10_twice_70_b
    rw [h0]
    have e1 : w32 ((i : Int) + 1) = i + 1 := w32_id (by omega) (by omega)
    have e2 : w32 ((q : Int) + 1) = q + 1 := w32_id (by omega) (by omega)
    rw [e1, e2]
    refine ⟨by omega, fun g => ?_, fun g => ⟨fun d => ?_, fun d => ?_⟩⟩
    · have : q = t.length := by omega
      subst this
      refine ⟨⟨rfl, i + 1, by omega, by omega, ?_, ?_, ?_⟩, by (try dsimp only); omega⟩ <;> rw [twOut_succ]
    · have hn : twIn t i (twOut t i) (q + 1) = twIn t i (twOut t i) q := by
        rw [twIn_succ, if_pos (by omega)]
        unfold twStep
        rw [if_neg]
        rintro ⟨e, -⟩
        have := (tw_gt (d := 0) (by omega) hit).mpr e
        omega
      refine ⟨⟨rfl, q + 1, by omega, by omega, by omega, ?_, ?_, ?_⟩, by (try dsimp only); omega⟩ <;> rw [hn]
    · have hgt := (tw_gt (d := 0) (st := twIn t i (twOut t i) q) (by omega) hit).mp (by omega)
      have hqt : q < t.length := by omega
      refine m_same (by omega) (by omega) hm hm hw hw hit hqt ?_
      refine ⟨fun e => ?_, fun e => ?_⟩
      · have hn : twIn t i (twOut t i) (q + 1) = twIn t i (twOut t i) q := by
          rw [twIn_succ, if_pos (by omega)]
          unfold twStep
          rw [if_neg]
          rintro ⟨-, e'⟩
          rw [if_pos e'] at e; omega
        refine ⟨⟨rfl, q + 1, by omega, by omega, by omega, ?_, ?_, ?_⟩, by (try dsimp only); omega⟩ <;> rw [hn]
      · have hn : twIn t i (twOut t i) (q + 1) = some (i, q) := by
          rw [twIn_succ, if_pos (by omega)]
          unfold twStep
          rw [if_pos]
          refine ⟨hgt, ?_⟩
          split at e
          · assumption
          · exact absurd rfl e
        refine ⟨⟨rfl, q + 1, by omega, by omega, by omega, ?_, ?_, ?_⟩, by (try dsimp only); omega⟩ <;> rw [hn] <;> rfl
theorem op_twice {t w : Int} (hR : Rel M) : R_X9_twice V t w M (fun r1 M1 => R_X10_twice V t w M1 (fun r2 M2 => r1 = r2 ∧ Rel M2)) := by
  obtain ⟨σ, hI, hC, hM⟩ := hR
  have un : ¬ ((0 ≤ t ∧ t ≤ 5) ∧ σ.tr t ≠ []) → R_X10_twice V t w M (fun r2 M2 => -1 = r2 ∧ Rel M2) := by
    intro hx
    apply of_X10_twice
    unfold wp_X10_twice
    apply m_isTree
    by_cases ht : 0 ≤ t ∧ t ≤ 5
    · rw [if_pos ht]
      have hm := (hM.2.2.1 t ht.1 ht.2).1
      have : σ.tr t = [] := Classical.byContradiction fun g => hx ⟨ht, g⟩
      rw [this] at hm
      exact ⟨fun c => by omega, fun _ => ⟨by omega, fun _ => ⟨rfl, σ, hI, hC, hM⟩, fun c => absurd hm c⟩⟩
    · rw [if_neg ht]
      exact ⟨fun _ => ⟨rfl, σ, hI, hC, hM⟩, fun c => by omega⟩
  apply of_X9_twice
  unfold wp_X9_twice
  apply x_filledAt
  by_cases ht : 0 ≤ t ∧ t ≤ 5
  · have hct := hC.2.2.1 t ht.1 ht.2
    rw [hct.1.1]
    by_cases hne : σ.tr t = []
    · rw [hne, if_neg (by simp)]
      exact ⟨fun _ => un (fun g => g.2 hne), fun c => by omega⟩
    · have hpos : 0 < (σ.tr t).length := List.length_pos_iff.mpr hne
      rw [if_pos ⟨ht, by omega⟩]
      have hwt := (hI.2.2.1 t ht.1 ht.2).1
      have hm := hM.2.2.1 t ht.1 ht.2
      have mdl : ∀ r : Int, (0 ≤ w ∧ w ≤ 2 → r = if w = 0 then twS (-6) (σ.tr t) (twOut (σ.tr t) (σ.tr t).length) else if w = 1 then tw1 (twOut (σ.tr t) (σ.tr t).length) else tw2 (twOut (σ.tr t) (σ.tr t).length)) → (¬ (0 ≤ w ∧ w ≤ 2) → r = -2) → R_X10_twice V t w M (fun r2 M2 => r = r2 ∧ Rel M2) := by
        intro r h1 h2
        apply of_X10_twice
        unfold wp_X10_twice
        apply m_isTree
        rw [if_pos ht]
        refine ⟨fun c => by omega, fun _ => ⟨by omega, fun c => by rw [hm.1] at c; omega, fun _ => ?_⟩⟩
        apply m_in
        by_cases hw : 0 ≤ w ∧ w ≤ 2
        · rw [if_pos hw]
          refine ⟨fun c => by omega, fun _ => ?_⟩
          exact m_twice ht hm hwt hw ⟨h1 hw, σ, hI, hC, hM⟩
        · rw [if_neg hw]
          exact ⟨fun _ => ⟨h2 hw, σ, hI, hC, hM⟩, fun c => by omega⟩
      refine ⟨fun c => by omega, fun _ => ⟨fun c => mdl _ (fun g => by omega) (fun _ => rfl), fun c => ⟨fun d => ?_, fun d => mdl _ (fun g => by omega) (fun _ => rfl)⟩⟩⟩
      exact x_twice hct hwt (by omega) (mdl _ (fun _ => rfl) (fun g => by omega))
  · rw [if_neg (by omega)]
    exact ⟨fun _ => un (by omega), fun c => by omega⟩
end OPS5
