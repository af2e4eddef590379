/-! overlaps -/
def pI (a b n : Nat) : List (Nat × Nat × Nat) := (List.range n).map (fun (i : Nat) => (a, b, i))
def pB (lf : Int → T) (a b : Nat) : List (Nat × Nat × Nat) := (List.range b).flatMap (fun (b : Nat) => pI a b (lf a).length)
def pA (lf : Int → T) (nr a : Nat) : List (Nat × Nat × Nat) := (List.range a).flatMap (fun (a : Nat) => pB lf a nr)
theorem pI_succ (a b n : Nat) : pI a b (n + 1) = pI a b n ++ [(a, b, n)] := by unfold pI; rw [List.range_succ, List.map_append]; rfl
theorem pB_succ (lf : Int → T) (a b : Nat) : pB lf a (b + 1) = pB lf a b ++ pI a b (lf a).length := by
  unfold pB; rw [List.range_succ, List.flatMap_append]; simp
theorem pA_succ (lf : Int → T) (nr a : Nat) : pA lf nr (a + 1) = pA lf nr a ++ pB lf a nr := by
  unfold pA; rw [List.range_succ, List.flatMap_append]; simp
theorem pI_len (a b n : Nat) : (pI a b n).length = n := by unfold pI; simp
theorem pB_len {lf : Int → T} {a : Nat} (h : (lf a).length ≤ 16) : ∀ b, (pB lf a b).length ≤ 16 * b
  | 0 => by simp [pB]
  | b + 1 => by
    have := pB_len h b
    rw [pB_succ, List.length_append, pI_len]; omega
theorem pA_len {lf : Int → T} {nr : Nat} (h6 : nr ≤ 6) (h : ∀ a : Nat, a < nr → (lf a).length ≤ 16) : ∀ a, a ≤ nr → (pA lf nr a).length ≤ 96 * a
  | 0, _ => by simp [pA]
  | a + 1, ha => by
    have i1 := pA_len h6 h a (by omega)
    have i2 := pB_len (h a (by omega)) nr
    rw [pA_succ, List.length_append]; omega
def tsv (w k : Int) : Bool := if w = 0 then decide (0 < k) else if w = 1 then decide (k = 2) else if w = 2 then decide (k = 1) else decide (k = 3)
noncomputable def cf (lf rt : Int → T) (nr : Nat) (w : Int) (L : List (Nat × Nat × Nat)) : Nat := (L.filter (fun p => tsv w (ovAt lf rt nr p))).length
section CF
variable {lf rt : Int → T} {nr : Nat} {w : Int}
theorem cf_all : ovCnt lf rt nr w = cf lf rt nr w (pA lf nr nr) := rfl
theorem cf_app (L L' : List (Nat × Nat × Nat)) : cf lf rt nr w (L ++ L') = cf lf rt nr w L + cf lf rt nr w L' := by unfold cf; rw [List.filter_append, List.length_append]
theorem cf_one (p : Nat × Nat × Nat) : cf lf rt nr w [p] = if tsv w (ovAt lf rt nr p) then 1 else 0 := by
  unfold cf
  by_cases h : tsv w (ovAt lf rt nr p) = true
  · rw [if_pos h, List.filter_cons_of_pos (p := fun p => tsv w (ovAt lf rt nr p)) h]; rfl
  · rw [if_neg h, List.filter_cons_of_neg (p := fun p => tsv w (ovAt lf rt nr p)) h]; rfl
theorem cf_le (L : List (Nat × Nat × Nat)) : cf lf rt nr w L ≤ L.length := List.length_filter_le _ _
theorem cf_nil : cf lf rt nr w [] = 0 := rfl
theorem ovK_range {a b : Int} {i : Nat} : 0 ≤ ovK lf rt nr a b i ∧ ovK lf rt nr a b i ≤ 3 := by
  unfold ovK
  split
  · unfold kindOf
    split
    · omega
    · split <;> omega
  · omega
end CF
theorem RelC.cnt {M M' : Mem} {σ : St} (h : RelC M σ) (hi : Inv σ) (hf : ∀ c j : Int, c ≠ 127 → c ≠ 128 → ¬ (31 ≤ c ∧ c ≤ 38) → ¬ (123 ≤ c ∧ c ≤ 126) → ¬ (129 ≤ c ∧ c ≤ 160) → c ≤ 202 → M' c j = M c j) (hk : M' 127 0 = 0 ∨ (M' 127 0 = 1 ∧ ∀ w, 0 ≤ w → w ≤ 3 → M' 128 w = ovCnt σ.lf σ.rt σ.nr w)) : RelC M' σ := by
  obtain ⟨h1, h2, h3, h4, h5, h6, h7, h8, h9⟩ := h
  have hn := hi.2.2.2.1
  refine ⟨by rw [hf _ _ (by omega) (by omega) (by omega) (by omega) (by omega) (by omega)]; exact h1, fun i x hx => by rw [hf _ _ (by omega) (by omega) (by omega) (by omega) (by omega) (by omega)]; exact h2 i x hx, fun t a b => (h3 t a b).fr (fun c j _ _ => hf _ _ (by omega) (by omega) (by omega) (by omega) (by omega) (by omega)), by rw [hf _ _ (by omega) (by omega) (by omega) (by omega) (by omega) (by omega)]; exact h4, fun r a b => ⟨(h5 r a b).1.fr (fun c j _ _ => hf _ _ (by omega) (by omega) (by omega) (by omega) (by omega) (by omega)), (h5 r a b).2.fr (fun c j _ _ => hf _ _ (by omega) (by omega) (by omega) (by omega) (by omega) (by omega))⟩, fun w a b => by rw [hf _ _ (by omega) (by omega) (by omega) (by omega) (by omega) (by omega)]; exact h6 w a b, by rw [hf _ _ (by omega) (by omega) (by omega) (by omega) (by omega) (by omega)]; exact h7, ?_, hk⟩
  rw [hf 0 11 (by omega) (by omega) (by omega) (by omega) (by omega) (by omega), hf 0 12 (by omega) (by omega) (by omega) (by omega) (by omega) (by omega)]
  rcases h8 with g | ⟨g1, g2, g3, g4, g5, g6, g7⟩
  · exact Or.inl g
  · exact Or.inr ⟨g1, g2, g3, g4, g5, g6, g7.fr (fun c j _ _ => hf _ _ (by omega) (by omega) (by omega) (by omega) (by omega) (by omega))⟩
section OVERLAPS
variable {V : VV} {M : Mem} {Q : Int → Mem → Prop} {σ : St}
theorem x_count {k : Int} (hk : 0 ≤ k ∧ k ≤ 3) (hb : ∀ w : Int, 0 ≤ w → w ≤ 3 → 0 ≤ M 128 w ∧ M 128 w ≤ 1000) (h : ∀ M' : Mem, (∀ w : Int, 0 ≤ w → w ≤ 3 → M' 128 w = M 128 w + if tsv w k then 1 else 0) → (∀ c j : Int, c ≠ 128 → M' c j = M c j) → Q 0 M') : R_X4_count V k M Q := by
  have b0 := hb 0 (by omega) (by omega)
  have b1 := hb 1 (by omega) (by omega)
  have b2 := hb 2 (by omega) (by omega)
  have b3 := hb 3 (by omega) (by omega)
  apply of_X4_count
  unfold wp_X4_count
  rw [w32_id (x := M 128 0 + 1) (by omega) (by omega)]
  refine ⟨fun z => h M (fun w w0 w3 => ?_) (fun _ _ _ => rfl), fun z => ⟨by omega, by omega, fun z2 => ?_, fun z2 => ⟨fun z1 => ?_, fun z1 => ?_⟩⟩⟩
  · have : tsv w k = false := by
      unfold tsv
      rw [z]
      split <;> (try split) <;> (try split) <;> simp
    rw [this]; simp
  · intro M3 e3
    have o : M3 128 1 = M 128 1 := by rw [e3]; unfold mset; rw [if_neg (by omega)]
    rw [o, w32_id (x := M 128 1 + 1) (by omega) (by omega)]
    refine ⟨by omega, by omega, h _ (fun w w0 w3 => ?_) (fun c j hc => by rw [mset_cell _ hc, e3, mset_cell _ hc])⟩
    have : w = 0 ∨ w = 1 ∨ w = 2 ∨ w = 3 := by omega
    rcases this with rfl | rfl | rfl | rfl
    · unfold mset; rw [if_neg (by omega), e3, mset_same]; unfold tsv; simp [z2]
    · rw [mset_same]; unfold tsv; simp [z2]
    · unfold mset; rw [if_neg (by omega), e3]; unfold mset; rw [if_neg (by omega)]; unfold tsv; simp [z2]
    · unfold mset; rw [if_neg (by omega), e3]; unfold mset; rw [if_neg (by omega)]; unfold tsv; simp [z2]
  · intro M3 e3
    have o : M3 128 2 = M 128 2 := by rw [e3]; unfold mset; rw [if_neg (by omega)]
    rw [o, w32_id (x := M 128 2 + 1) (by omega) (by omega)]
    refine ⟨by omega, by omega, h _ (fun w w0 w3 => ?_) (fun c j hc => by rw [mset_cell _ hc, e3, mset_cell _ hc])⟩
    have : w = 0 ∨ w = 1 ∨ w = 2 ∨ w = 3 := by omega
    rcases this with rfl | rfl | rfl | rfl
    · unfold mset; rw [if_neg (by omega), e3, mset_same]; unfold tsv; simp [z1]
    · unfold mset; rw [if_neg (by omega), e3]; unfold mset; rw [if_neg (by omega)]; unfold tsv; simp [z1]
    · rw [mset_same]; unfold tsv; simp [z1]
    · unfold mset; rw [if_neg (by omega), e3]; unfold mset; rw [if_neg (by omega)]; unfold tsv; simp [z1]
  · intro M3 e3
    have k3 : k = 3 := by omega
    have o : M3 128 3 = M 128 3 := by rw [e3]; unfold mset; rw [if_neg (by omega)]
    rw [o, w32_id (x := M 128 3 + 1) (by omega) (by omega)]
    refine ⟨by omega, by omega, h _ (fun w w0 w3 => ?_) (fun c j hc => by rw [mset_cell _ hc, e3, mset_cell _ hc])⟩
    have : w = 0 ∨ w = 1 ∨ w = 2 ∨ w = 3 := by omega
    rcases this with rfl | rfl | rfl | rfl
    · unfold mset; rw [if_neg (by omega), e3, mset_same]; unfold tsv; simp [k3]
    · unfold mset; rw [if_neg (by omega), e3]; unfold mset; rw [if_neg (by omega)]; unfold tsv; simp [k3]
    · unfold mset; rw [if_neg (by omega), e3]; unfold mset; rw [if_neg (by omega)]; unfold tsv; simp [k3]
    · rw [mset_same]; unfold tsv; simp [k3]
/-- while the class counts -/
def CtI (M : Mem) (σ : St) (L : List (Nat × Nat × Nat)) (N : Mem) : Prop := N 127 0 = 0 ∧ (∀ c j : Int, c ≠ 127 → c ≠ 128 → ¬ (31 ≤ c ∧ c ≤ 38) → ¬ (123 ≤ c ∧ c ≤ 126) → ¬ (129 ≤ c ∧ c ≤ 160) → N c j = M c j) ∧ ∀ w : Int, 0 ≤ w → w ≤ 3 → N 128 w = cf σ.lf σ.rt σ.nr w L
theorem x_countAll (hI : Inv σ) (hC : RelC M σ) (h : ∀ M' : Mem, RelC M' σ → (∀ c j : Int, 203 ≤ c → M' c j = M c j) → (∀ w : Int, 0 ≤ w → w ≤ 3 → M' 128 w = ovCnt σ.lf σ.rt σ.nr w) → Q 0 M') : R_X4_countAll V M Q := by
  have nr6 := hI.2.2.2.1
  have l16 : ∀ a : Nat, a < σ.nr → (σ.lf a).length ≤ 16 := fun a ha => (hI.2.2.2.2.1 a (by omega) (by omega)).1.1.1
  apply of_X4_countAll
  unfold wp_X4_countAll
  refine ⟨fun z => ?_, fun z => ?_⟩
  rotate_left
  · rcases hC.2.2.2.2.2.2.2.2 with g | g
    · exact absurd g z
    · exact h M hC (fun _ _ _ => rfl) g.2
  unfold wp_X4_countAll_10
  refine ⟨fun y N => ∃ k : Nat, y = k ∧ k ≤ 4 ∧ (∀ c j : Int, c ≠ 128 → N c j = M c j) ∧ ∀ w : Int, 0 ≤ w → w < k → N 128 w = 0, fun y _ => (5 - y).toNat, ⟨0, rfl, by omega, fun _ _ _ => rfl, fun w _ _ => by omega⟩, ?_⟩
  rintro y N ⟨k, rfl, hk, hf, h0⟩
  unfold wp_X4_countAll_10_b
  refine ⟨fun g => ?_, fun g => ⟨by omega, ⟨k + 1, by rw [w32_id (by omega) (by omega)]; omega, by omega, fun c j hc => by rw [mset_cell _ hc]; exact hf c j hc, fun w w0 wk => ?_⟩, by (try dsimp only); rw [w32_id (x := (k : Int) + 1) (by omega) (by omega)]; omega⟩⟩
  rotate_left
  · by_cases e : w = k
    · rw [e, mset_same]
    · unfold mset
      rw [if_neg (by omega)]
      exact h0 w w0 (by omega)
  have hk4 : k = 4 := by omega
  subst hk4
  have relI : ∀ (L : List (Nat × Nat × Nat)) (N : Mem), CtI M σ L N → RelC N σ := fun L N hN => hC.cnt hI (fun c j a1 a2 a3 a4 a5 _ => hN.2.1 c j a1 a2 a3 a4 a5) (Or.inl hN.1)
  unfold wp_X4_countAll_34
  refine ⟨fun y N => ∃ a : Nat, y = a ∧ a ≤ σ.nr ∧ CtI M σ (pA σ.lf σ.nr a) N, fun y _ => (7 - y).toNat, ⟨0, rfl, by omega, by rw [hf _ _ (by omega)]; exact z, fun c j a1 a2 _ _ _ => hf c j a2, fun w w0 w3 => by rw [h0 w w0 (by omega)]; rfl⟩, ?_⟩
  clear hf h0 g hk
  rintro y N ⟨a, rfl, ha, hN⟩
  have hCN := relI _ N hN
  have n28 : N 28 0 = σ.nr := hCN.2.2.2.1
  unfold wp_X4_countAll_34_b
  rw [n28]
  refine ⟨fun g => ?_, fun g => ⟨by omega, ?_⟩⟩
  · have : a = σ.nr := by omega
    subst this
    have ec : ∀ w : Int, 0 ≤ w → w ≤ 3 → mset N 127 0 1 128 w = ovCnt σ.lf σ.rt σ.nr w := fun w w0 w3 => by
      rw [mset_cell _ (by omega), hN.2.2 w w0 w3, cf_all]
    refine h _ (hC.cnt hI (fun c j a1 a2 a3 a4 a5 _ => by rw [mset_cell _ a1]; exact hN.2.1 c j a1 a2 a3 a4 a5) (Or.inr ⟨mset_same _ _ _ _, ec⟩)) (fun c j hc => by rw [mset_cell _ (by omega)]; exact hN.2.1 c j (by omega) (by omega) (by omega) (by omega) (by omega)) ec
  · have han : a < σ.nr := by omega
    have la := l16 a han
    have A1 := pA_len nr6 l16 a (by omega)
    unfold wp_X4_countAll_57
    refine ⟨fun y N => ∃ b : Nat, y = b ∧ b ≤ σ.nr ∧ CtI M σ (pA σ.lf σ.nr a ++ pB σ.lf a b) N, fun y _ => (7 - y).toNat, ⟨0, rfl, by omega, by simpa [pB] using hN⟩, ?_⟩
    clear hN hCN n28 g
    rintro y N ⟨b, rfl, hb, hN⟩
    have hCN := relI _ N hN
    have n28 : N 28 0 = σ.nr := hCN.2.2.2.1
    unfold wp_X4_countAll_57_b
    rw [n28]
    refine ⟨fun g => ?_, fun g => ?_⟩
    · have : b = σ.nr := by omega
      subst this
      have ev : w32 ((a : Int) + 1) = ((a + 1 : Nat) : Int) := by rw [w32_id (by omega) (by omega)]; omega
      rw [ev]
      clear ev
      refine ⟨⟨a + 1, rfl, by omega, ?_⟩, by (try dsimp only); omega⟩
      rw [pA_succ]; exact hN
    · have hbn : b < σ.nr := by omega
      have B1 := pB_len la b
      have hlp : 0 < (σ.lf a).length := List.length_pos_iff.mpr (hI.2.2.2.2.1 a (by omega) (by omega)).2.2.1
      /- the loop over the nodes -/
      have nodes : ∀ (i0 : Nat) (N : Mem), i0 ≤ (σ.lf a).length → (a = b → 1 ≤ i0) → CtI M σ (pA σ.lf σ.nr a ++ pB σ.lf a b ++ pI a b i0) N → wp_X4_countAll_80 V a (39 + 14 * (a : Int)) b i0 N Q (fun z1 N1 => (∃ a : Nat, z1 = a ∧ a ≤ σ.nr ∧ CtI M σ (pA σ.lf σ.nr a) N1) ∧ (7 - z1).toNat < (7 - (a : Int)).toNat) (fun z3 N1 => (∃ b : Nat, z3 = b ∧ b ≤ σ.nr ∧ CtI M σ (pA σ.lf σ.nr a ++ pB σ.lf a b) N1) ∧ (7 - z3).toNat < (7 - (b : Int)).toNat) := by
        intro i0 N hi0 hab hN
        unfold wp_X4_countAll_80
        refine ⟨fun y N => ∃ i : Nat, y = i ∧ i0 ≤ i ∧ i ≤ (σ.lf a).length ∧ CtI M σ (pA σ.lf σ.nr a ++ pB σ.lf a b ++ pI a b i) N, fun y _ => (17 - y).toNat, ⟨i0, rfl, by omega, hi0, hN⟩, ?_⟩
        clear hN
        rintro y N ⟨i, rfl, hii, hil, hN⟩
        have hCN := relI _ N hN
        have ca := (hCN.2.2.2.2.1 a (by omega) (by omega)).1
        unfold wp_X4_countAll_80_b
        rw [ca.1.1]
        refine ⟨fun g => ?_, fun g => ⟨by omega, ?_⟩⟩
        · have : i = (σ.lf a).length := by omega
          subst this
          have ev : w32 ((b : Int) + 1) = ((b + 1 : Nat) : Int) := by rw [w32_id (by omega) (by omega)]; omega
          rw [ev]
          clear ev
          refine ⟨⟨b + 1, rfl, by omega, ?_⟩, by (try dsimp only); omega⟩
          rw [pB_succ, ← List.append_assoc]; exact hN
        · have hi : i < (σ.lf a).length := by omega
          rw [(ca.1.2 i hi).1]
          /- counting one -/
          have one : ∀ (v : Int) (N2 : Mem), v = ovAt σ.lf σ.rt σ.nr (a, b, i) → 0 ≤ v ∧ v ≤ 3 → CtI M σ (pA σ.lf σ.nr a ++ pB σ.lf a b ++ pI a b i) N2 → wp_X4_countAll_115 V a (39 + 14 * (a : Int)) b i v N2 Q (fun z1 N1 => (∃ a : Nat, z1 = a ∧ a ≤ σ.nr ∧ CtI M σ (pA σ.lf σ.nr a) N1) ∧ (7 - z1).toNat < (7 - (a : Int)).toNat) (fun z3 N1 => (∃ b : Nat, z3 = b ∧ b ≤ σ.nr ∧ CtI M σ (pA σ.lf σ.nr a ++ pB σ.lf a b) N1) ∧ (7 - z3).toNat < (7 - (b : Int)).toNat) (fun z4 N1 => (∃ i : Nat, z4 = i ∧ i0 ≤ i ∧ i ≤ (σ.lf a).length ∧ CtI M σ (pA σ.lf σ.nr a ++ pB σ.lf a b ++ pI a b i) N1) ∧ (17 - z4).toNat < (17 - (i : Int)).toNat) := by
            intro v N2 hv hv3 hN2
            unfold wp_X4_countAll_115
            have ev : w32 ((i : Int) + 1) = ((i + 1 : Nat) : Int) := by rw [w32_id (by omega) (by omega)]; omega
            rw [ev]
            clear ev
            refine x_count hv3 (fun w w0 w3 => ?_) (fun N3 c3 f3 => ⟨⟨i + 1, rfl, by omega, by omega, ?_, fun c j a1 a2 a3 a4 a5 => by rw [f3 c j a2]; exact hN2.2.1 c j a1 a2 a3 a4 a5, fun w w0 w3 => ?_⟩, by (try dsimp only); omega⟩)
            · rw [hN2.2.2 w w0 w3]
              have := cf_le (lf := σ.lf) (rt := σ.rt) (nr := σ.nr) (w := w) (pA σ.lf σ.nr a ++ pB σ.lf a b ++ pI a b i)
              rw [List.length_append, List.length_append, pI_len] at this
              omega
            · rw [f3 127 0 (by omega)]; exact hN2.1
            · rw [c3 w w0 w3, hN2.2.2 w w0 w3, pI_succ, ← List.append_assoc, cf_app (L' := [(a, b, i)]), cf_one, hv]
              split <;> omega
          have bar : ∀ c : Bool, isH (lb (σ.lf a) i) = c → ovAt σ.lf σ.rt σ.nr (a, b, i) = if c then 0 else ovK σ.lf σ.rt σ.nr a b i := fun c hc => by
            unfold ovAt barI
            simp only
            rw [if_neg (c := ¬ _) (fun z => z ⟨by omega, by omega, by omega, by omega, by omega, by omega⟩), Int.toNat_natCast, hc]
            cases c with
            | true => simp
            | false =>
              have : ¬ ((a : Int) = b ∧ (i : Int) = 0) := fun q => by have := hab (by omega); omega
              simp only [Bool.false_eq_true, false_or, if_false]
              rw [if_neg this, if_pos rfl]
          apply x_isHole
          by_cases hh : 65 ≤ lb (σ.lf a) i ∧ lb (σ.lf a) i ≤ 72
          · rw [if_pos hh]
            refine ⟨fun q => by omega, fun _ => one 0 N ?_ (by omega) hN⟩
            rw [bar true (isH_iff.mpr hh)]; rfl
          · rw [if_neg hh]
            have hh' : isH (lb (σ.lf a) i) = false := Bool.eq_false_iff.mpr (fun q => hh (isH_iff.mp q))
            refine ⟨fun _ => ?_, fun q => absurd rfl q⟩
            refine x_kindAt hI hCN ⟨by omega, by omega⟩ ⟨by omega, by omega⟩ hi (fun N2 f2 => one _ N2 ?_ ovK_range ⟨by rw [f2 127 0 (by omega) (by omega) (by omega) (by omega)]; exact hN.1, fun c j a1 a2 a3 a4 a5 => by rw [f2 c j a3 a4 a5 (by omega)]; exact hN.2.1 c j a1 a2 a3 a4 a5, fun w w0 w3 => by rw [f2 128 w (by omega) (by omega) (by omega) (by omega)]; exact hN.2.2 w w0 w3⟩)
            rw [bar false hh']; rfl
      unfold wp_X4_countAll_78
      refine ⟨fun q => ?_, fun q => ?_⟩
      · have eab : a = b := by omega
        refine nodes 1 N (by omega) (fun _ => Nat.le_refl _) ⟨hN.1, hN.2.1, fun w w0 w3 => ?_⟩
        rw [hN.2.2 w w0 w3, cf_app (L' := pI a b 1), pI_succ, cf_app]
        have e0 : pI a b 0 = [] := rfl
        have : ovAt σ.lf σ.rt σ.nr (a, b, 0) = 0 := by
          unfold ovAt barI
          simp only
          rw [if_neg (c := ¬ _) (fun z => z ⟨by omega, by omega, by omega, by omega, by omega, by omega⟩), if_pos (Or.inr ⟨by omega, rfl⟩), if_neg (by omega)]
        rw [e0, List.nil_append, cf_one, this]
        have t0 : tsv w 0 = false := by
          unfold tsv
          split <;> (try split) <;> (try split) <;> simp
        rw [t0]; simp
      · exact nodes 0 N (by omega) (fun e => absurd (by omega) q) (by
          have : pI a b 0 = [] := rfl
          rw [this, List.append_nil]; exact hN)
theorem op_overlaps {w : Int} (hR : Rel M) : R_X9_overlaps V w M (fun r1 M1 => R_X10_overlaps V w M1 (fun r2 M2 => r1 = r2 ∧ Rel M2)) := by
  obtain ⟨σ, hI, hC, hM⟩ := hR
  have nr6 := hI.2.2.2.1
  have l16 : ∀ a : Nat, a < σ.nr → (σ.lf a).length ≤ 16 := fun a ha => (hI.2.2.2.2.1 a (by omega) (by omega)).1.1.1
  have out : ¬ (0 ≤ w ∧ w ≤ 3) → R_X10_overlaps V w M (fun r2 M2 => (-2) = r2 ∧ Rel M2) := fun hw => by
    apply of_X10_overlaps
    unfold wp_X10_overlaps
    apply m_in
    rw [if_neg hw]
    exact ⟨fun _ => ⟨rfl, σ, hI, hC, hM⟩, fun z => absurd rfl z⟩
  apply of_X9_overlaps
  unfold wp_X9_overlaps
  refine ⟨fun z => out (by omega), fun z => ⟨fun z4 => ?_, fun z4 => out (by omega)⟩⟩
  refine x_countAll hI hC (fun M1 hC1 f1 c1 => ⟨by omega, ?_⟩)
  rw [c1 w (by omega) (by omega)]
  have hM1 : RelM M1 σ := hM.fr (fun c j hc => f1 c j hc)
  clear c1 f1 hC hM
  apply of_X10_overlaps
  unfold wp_X10_overlaps
  apply m_in
  rw [if_pos (by omega)]
  refine ⟨fun q => by omega, fun _ => ?_⟩
  unfold wp_X10_overlaps_16
  refine ⟨fun y2 y3 N => ∃ a : Nat, y3 = a ∧ a ≤ σ.nr ∧ y2 = cf σ.lf σ.rt σ.nr w (pA σ.lf σ.nr a) ∧ FO M1 N, fun _ y3 _ => (7 - y3).toNat, ⟨0, rfl, by omega, rfl, FO.rf _⟩, ?_⟩
  rintro y2 y3 N ⟨a, rfl, ha, rfl, fN⟩
  have hMN := hM1.fo hI fN
  have n5 : N 203 5 = σ.nr := hMN.2.2.2.1
  unfold wp_X10_overlaps_16_b
  rw [n5]
  refine ⟨fun g => ?_, fun g => ?_⟩
  · have : a = σ.nr := by omega
    subst this
    exact ⟨by rw [cf_all], σ, hI, hC1.fo hI fN, hMN⟩
  have han : a < σ.nr := by omega
  have la := l16 a han
  have A1 := pA_len nr6 l16 a (by omega)
  unfold wp_X10_overlaps_27
  refine ⟨fun y2 y4 N => ∃ b : Nat, y4 = b ∧ b ≤ σ.nr ∧ y2 = cf σ.lf σ.rt σ.nr w (pA σ.lf σ.nr a ++ pB σ.lf a b) ∧ FO M1 N, fun _ y4 _ => (7 - y4).toNat, ⟨0, rfl, by omega, by simp [pB], fN⟩, ?_⟩
  clear hMN n5 fN g
  rintro y2 y4 N ⟨b, rfl, hb, rfl, fN⟩
  have hMN := hM1.fo hI fN
  have n5 : N 203 5 = σ.nr := hMN.2.2.2.1
  unfold wp_X10_overlaps_27_b
  rw [n5]
  refine ⟨fun g => ?_, fun g => ?_⟩
  · have : b = σ.nr := by omega
    subst this
    have ev : w32 ((a : Int) + 1) = ((a + 1 : Nat) : Int) := by rw [w32_id (by omega) (by omega)]; omega
    rw [ev]
    clear ev
    exact ⟨⟨a + 1, rfl, by omega, by rw [pA_succ], fN⟩, by (try dsimp only); omega⟩
  have hbn : b < σ.nr := by omega
  have B1 := pB_len la b
  unfold wp_X10_overlaps_39
  refine ⟨fun y2 y5 N => ∃ i : Nat, y5 = i ∧ i ≤ (σ.lf a).length ∧ y2 = cf σ.lf σ.rt σ.nr w (pA σ.lf σ.nr a ++ pB σ.lf a b ++ pI a b i) ∧ FO M1 N, fun _ y5 _ => (17 - y5).toNat, ⟨0, rfl, by omega, by simp [pI], fN⟩, ?_⟩
  clear hMN n5 fN g
  rintro y2 y5 N ⟨i, rfl, hi, rfl, fN⟩
  have hMN := hM1.fo hI fN
  have ca := (hMN.2.2.2.2.1 a (by omega) (by omega)).1
  unfold wp_X10_overlaps_39_b
  rw [w32_id (x := 6 + (a : Int)) (by omega) (by omega)]
  refine ⟨by omega, ?_⟩
  rw [ca.1]
  refine ⟨fun g => ?_, fun g => ?_⟩
  · have : i = (σ.lf a).length := by omega
    subst this
    have ev : w32 ((b : Int) + 1) = ((b + 1 : Nat) : Int) := by rw [w32_id (by omega) (by omega)]; omega
    rw [ev]
    clear ev
    exact ⟨⟨b + 1, rfl, by omega, by rw [pB_succ, ← List.append_assoc], fN⟩, by (try dsimp only); omega⟩
  have hil : i < (σ.lf a).length := by omega
  have cl := cf_le (lf := σ.lf) (rt := σ.rt) (nr := σ.nr) (w := w) (pA σ.lf σ.nr a ++ pB σ.lf a b ++ pI a b i)
  rw [List.length_append, List.length_append, pI_len] at cl
  have nxt : ∀ (v : Int) (N2 : Mem), v = ovAt σ.lf σ.rt σ.nr (a, b, i) → FO M1 N2 → ∀ d : Int, (d = if tsv w v then 1 else 0) → ((∃ i' : Nat, w32 ((i : Int) + 1) = i' ∧ i' ≤ (σ.lf a).length ∧ w32 ((cf σ.lf σ.rt σ.nr w (pA σ.lf σ.nr a ++ pB σ.lf a b ++ pI a b i) : Int) + d) = cf σ.lf σ.rt σ.nr w (pA σ.lf σ.nr a ++ pB σ.lf a b ++ pI a b i') ∧ FO M1 N2) ∧ (17 - w32 ((i : Int) + 1)).toNat < (17 - (i : Int)).toNat) := by
    intro v N2 hv f2 d hd
    have d01 : d = 0 ∨ d = 1 := by rw [hd]; split <;> omega
    have ed : w32 ((cf σ.lf σ.rt σ.nr w (pA σ.lf σ.nr a ++ pB σ.lf a b ++ pI a b i) : Int) + d) = (cf σ.lf σ.rt σ.nr w (pA σ.lf σ.nr a ++ pB σ.lf a b ++ pI a b i) : Int) + d := w32_id (by omega) (by omega)
    rw [ed]
    clear ed
    have ev : w32 ((i : Int) + 1) = ((i + 1 : Nat) : Int) := by rw [w32_id (by omega) (by omega)]; omega
    rw [ev]
    clear ev
    refine ⟨⟨i + 1, rfl, by omega, ?_, f2⟩, by omega⟩
    rw [pI_succ, ← List.append_assoc, cf_app (L' := [(a, b, i)]), cf_one, ← hv, hd]
    split <;> omega
  have all : ∀ (v : Int) (N2 : Mem), v = ovAt σ.lf σ.rt σ.nr (a, b, i) → FO M1 N2 → wp_X10_overlaps_78 V w (cf σ.lf σ.rt σ.nr w (pA σ.lf σ.nr a ++ pB σ.lf a b ++ pI a b i)) a b i v N2 (fun r2 M2 => ((ovCnt σ.lf σ.rt σ.nr w : Nat) : Int) = r2 ∧ Rel M2) (fun z2 z3 N1 => (∃ a : Nat, z3 = a ∧ a ≤ σ.nr ∧ z2 = cf σ.lf σ.rt σ.nr w (pA σ.lf σ.nr a) ∧ FO M1 N1) ∧ (7 - z3).toNat < (7 - (a : Int)).toNat) (fun z2 z4 N1 => (∃ b : Nat, z4 = b ∧ b ≤ σ.nr ∧ z2 = cf σ.lf σ.rt σ.nr w (pA σ.lf σ.nr a ++ pB σ.lf a b) ∧ FO M1 N1) ∧ (7 - z4).toNat < (7 - (b : Int)).toNat) (fun z2 z5 N1 => (∃ i : Nat, z5 = i ∧ i ≤ (σ.lf a).length ∧ z2 = cf σ.lf σ.rt σ.nr w (pA σ.lf σ.nr a ++ pB σ.lf a b ++ pI a b i) ∧ FO M1 N1) ∧ (17 - z5).toNat < (17 - (i : Int)).toNat) := by
    intro v N2 hv f2
    have nx := nxt v N2 hv f2
    unfold wp_X10_overlaps_78 wp_X10_overlaps_147
    refine ⟨fun w0 => ⟨fun q => nx 0 ?_, fun q => nx 1 ?_⟩, fun w0 => ⟨fun w1 => ⟨fun q => nx 1 ?_, fun q => nx 0 ?_⟩, fun w1 => ⟨fun w2 => ⟨fun q => nx 1 ?_, fun q => nx 0 ?_⟩, fun w2 => ⟨fun q => nx 1 ?_, fun q => nx 0 ?_⟩⟩⟩⟩
    · unfold tsv; rw [if_pos w0]; rw [decide_eq_false (by omega)]; rfl
    · unfold tsv; rw [if_pos w0]; rw [decide_eq_true (by omega)]; rfl
    · unfold tsv; rw [if_neg w0, if_pos w1]; rw [decide_eq_true q]; rfl
    · unfold tsv; rw [if_neg w0, if_pos w1]; rw [decide_eq_false q]; rfl
    · unfold tsv; rw [if_neg w0, if_neg w1, if_pos w2]; rw [decide_eq_true q]; rfl
    · unfold tsv; rw [if_neg w0, if_neg w1, if_pos w2]; rw [decide_eq_false q]; rfl
    · unfold tsv; rw [if_neg w0, if_neg w1, if_neg w2]; rw [decide_eq_true q]; rfl
    · unfold tsv; rw [if_neg w0, if_neg w1, if_neg w2]; rw [decide_eq_false q]; rfl
  refine m_barred hI hMN ⟨fun q => ?_, fun q => ?_⟩
  · have b0 : barI σ.lf σ.nr a b i = 0 := by
      have := bar_neg (lf := σ.lf) (nr := σ.nr) (a := a) (b := b) (i := i)
      omega
    obtain ⟨ha', hb', n, en, hn, hh⟩ := bar_zero b0
    have : n = i := by omega
    subst this
    refine m_overlapOf hI hMN ha' hb' hn hh (fun N2 f2 => all _ N2 ?_ (fN.trans f2))
    unfold ovAt
    simp only
    rw [if_pos b0]
  · refine all 0 N ?_ fN
    unfold ovAt
    simp only
    rw [if_neg (by omega)]
end OVERLAPS
