/-! the first calls: say, wipe, steps, clear, price -/
def Rel (M : Mem) : Prop := ∃ σ, Inv σ ∧ RelC M σ ∧ RelM M σ
/-- places of the class that the state stands in -/
def cor (c j : Int) : Prop := (c = 0 ∧ (j = 10 ∨ j = 11 ∨ j = 12)) ∨ c = 1 ∨ c = 2 ∨ (12 ≤ c ∧ c ≤ 22) ∨ (c = 28 ∧ j = 0) ∨ (39 ≤ c ∧ c ≤ 122) ∨ (c = 127 ∧ j = 0) ∨ c = 128 ∨ (161 ≤ c ∧ c ≤ 202)
theorem RelC.core {M M' : Mem} {σ : St} (h : RelC M σ) (hi : Inv σ) (hf : ∀ c j, cor c j → M' c j = M c j) : RelC M' σ := by
  obtain ⟨h1, h2, h3, h4, h5, h6, h7, h8, h9⟩ := h
  have hn := hi.2.2.2.1
  have e : ∀ c j, cor c j → M' c j = M c j := hf
  unfold cor at e
  refine ⟨by rw [e _ _ (by omega)]; exact h1, fun i x hx => by rw [e _ _ (by omega)]; exact h2 i x hx, fun t a b => (h3 t a b).fr (fun c j _ _ => e _ _ (by omega)), by rw [e _ _ (by omega)]; exact h4, fun r a b => ⟨(h5 r a b).1.fr (fun c j _ _ => e _ _ (by omega)), (h5 r a b).2.fr (fun c j _ _ => e _ _ (by omega))⟩, fun w a b => by rw [e _ _ (by omega)]; exact h6 w a b, by rw [e _ _ (by omega)]; exact h7, ?_, ?_⟩
  · rw [e 0 11 (by omega), e 0 12 (by omega)]
    rcases h8 with g | ⟨g1, g2, g3, g4, g5, g6, g7⟩
    · exact Or.inl g
    · exact Or.inr ⟨g1, g2, g3, g4, g5, g6, g7.fr (fun c j _ _ => e _ _ (by omega))⟩
  · rw [e 127 0 (by omega)]
    rcases h9 with g | ⟨g1, g2⟩
    · exact Or.inl g
    · exact Or.inr ⟨g1, fun w a b => by rw [e _ _ (by omega)]; exact g2 w a b⟩
/-- places of the model that the state stands in -/
def corM (c j : Int) : Prop := (c = 203 ∧ (j = 3 ∨ j = 5 ∨ j = 7)) ∨ (c = 204 ∧ j ≤ 17) ∨ ((c = 205 ∨ c = 206) ∧ j < 576) ∨ c = 207 ∨ c = 208
theorem RelM.core {M M' : Mem} {σ : St} (h : RelM M σ) (hi : Inv σ) (hf : ∀ c j, corM c j → M' c j = M c j) : RelM M' σ := by
  obtain ⟨h1, h2, h3, h4, h5, h6, h7⟩ := h
  have hn := hi.2.2.2.1
  have e : ∀ c j, corM c j → M' c j = M c j := hf
  unfold corM at e
  have mt : ∀ x t, x ≤ 17 → t.length ≤ 16 → Mt M x t → Mt M' x t := fun x t hx ht hm => ⟨by rw [e _ _ (by omega)]; exact hm.1, fun i hi => by rw [e _ _ (by omega), e _ _ (by omega)]; exact hm.2 i hi⟩
  refine ⟨by rw [e _ _ (by omega)]; exact h1, fun i x hx => by rw [e _ _ (by omega)]; exact h2 i x hx, fun t a b => mt _ _ (by omega) (hi.2.2.1 t a b).1.1 (h3 t a b), by rw [e _ _ (by omega)]; exact h4, fun r a b => ?_, fun w a b => by rw [e _ _ (by omega)]; exact h6 w a b, by rw [e _ _ (by omega)]; exact h7⟩
  have w := hi.2.2.2.2.1 r a b
  exact ⟨mt _ _ (by omega) w.1.1.1 (h5 r a b).1, mt _ _ (by omega) w.2.1.1.1 (h5 r a b).2⟩
theorem RelC.pad {M M' : Mem} {σ : St} (h : RelC M σ) (hi : Inv σ) (p : List Int) (h1 : M' 1 0 = p.length) (h2 : padAt M' 2 p) (hf : ∀ c j, c ≠ 1 → c ≠ 2 → M' c j = M c j) : RelC M' (p, σ.2) := by
  obtain ⟨-, -, h3, h4, h5, h6, h7, h8, h9⟩ := h
  have hn := hi.2.2.2.1
  refine ⟨h1, h2, fun t a b => (h3 t a b).fr (fun c j _ _ => hf _ _ (by omega) (by omega)), by rw [hf _ _ (by omega) (by omega)]; exact h4, fun r a b => ⟨(h5 r a b).1.fr (fun c j _ _ => hf _ _ (by omega) (by omega)), (h5 r a b).2.fr (fun c j _ _ => hf _ _ (by omega) (by omega))⟩, fun w a b => by rw [hf _ _ (by omega) (by omega)]; exact h6 w a b, by rw [hf _ _ (by omega) (by omega)]; exact h7, ?_, ?_⟩
  · rw [hf 0 11 (by omega) (by omega), hf 0 12 (by omega) (by omega)]
    rcases h8 with g | ⟨g1, g2, g3, g4, g5, g6, g7⟩
    · exact Or.inl g
    · exact Or.inr ⟨g1, g2, g3, g4, g5, g6, g7.fr (fun c j _ _ => hf _ _ (by omega) (by omega))⟩
  · rw [hf 127 0 (by omega) (by omega)]
    rcases h9 with g | ⟨g1, g2⟩
    · exact Or.inl g
    · exact Or.inr ⟨g1, fun w a b => by rw [hf _ _ (by omega) (by omega)]; exact g2 w a b⟩
theorem RelM.pad {M M' : Mem} {σ : St} (h : RelM M σ) (p : List Int) (h1 : M' 203 3 = p.length) (h2 : padAt M' 207 p) (hf : ∀ c j, ¬ (c = 203 ∧ j = 3) → c ≠ 207 → M' c j = M c j) : RelM M' (p, σ.2) := by
  obtain ⟨-, -, h3, h4, h5, h6, h7⟩ := h
  have mt : ∀ x t, Mt M x t → Mt M' x t := fun x t hm => ⟨by rw [hf _ _ (by omega) (by omega)]; exact hm.1, fun i hi => by rw [hf _ _ (by omega) (by omega), hf _ _ (by omega) (by omega)]; exact hm.2 i hi⟩
  exact ⟨h1, h2, fun t a b => mt _ _ (h3 t a b), by rw [hf _ _ (by omega) (by omega)]; exact h4, fun r a b => ⟨mt _ _ (h5 r a b).1, mt _ _ (h5 r a b).2⟩, fun w a b => by rw [hf _ _ (by omega) (by omega)]; exact h6 w a b, by rw [hf _ _ (by omega) (by omega)]; exact h7⟩
theorem padAt_app {M : Mem} {c : Int} {l : List Int} {x : Int} (h : padAt M c l) : padAt (mset M c l.length x) c (l ++ [x]) := by
  intro i y hy
  by_cases hi : i < l.length
  · rw [List.getElem?_append_left hi] at hy
    rw [mset_idx _ _ _ (by omega)]
    exact h i y hy
  · rw [List.getElem?_append_right (by omega)] at hy
    have hz : i - l.length = 0 := by
      rcases Nat.eq_zero_or_pos (i - l.length) with q | q
      · exact q
      · rw [List.getElem?_eq_none (by simp; omega)] at hy; cases hy
    rw [hz] at hy
    simp at hy
    rw [show (i : Int) = l.length by omega, mset_same]; exact hy
section OPS1
variable {V : VV} {M : Mem}
theorem op_say {x : Int} (hR : Rel M) : R_X9_say V x M (fun r1 M1 => R_X10_say V x M1 (fun r2 M2 => r1 = r2 ∧ Rel M2)) := by
  obtain ⟨σ, hI, hC, hM⟩ := hR
  have c0 := hC.1
  have m0 := hM.1
  have p60 := hI.1
  have other : ¬ (33 ≤ x ∧ x ≤ 126) → R_X10_say V x M (fun r2 M2 => -2 = r2 ∧ Rel M2) := by
    intro hx
    apply of_X10_say
    unfold wp_X10_say
    apply m_in
    rw [if_neg hx]
    exact ⟨fun _ => ⟨rfl, σ, hI, hC, hM⟩, fun c => by omega⟩
  apply of_X9_say
  unfold wp_X9_say
  refine ⟨fun c => other (by omega), fun c => ⟨fun d => ?_, fun d => other (by omega)⟩⟩
  have hx : 33 ≤ x ∧ x ≤ 126 := by omega
  apply of_X5_append
  unfold wp_X5_append
  refine ⟨fun g => ⟨by omega, ?_⟩, fun g => ⟨fun _ => ?_, fun q => by omega⟩⟩
  · intro M1 h1
    have e1 : M1 1 0 = σ.pad.length := by rw [h1, mset_cell _ (by omega)]; exact c0
    rw [e1, w32_id (by omega) (by omega)]
    refine ⟨fun q => by omega, fun _ => ?_⟩
    rw [mset_same]
    generalize hM2 : mset M1 1 0 ((σ.pad.length : Int) + 1) = M2
    have f2 : ∀ c j, c ≠ 1 → c ≠ 2 → M2 c j = M c j := fun c j a b => by rw [← hM2, mset_cell _ a, h1, mset_cell _ b]
    have hI' : Inv (σ.pad ++ [x], σ.2) := ⟨by show (σ.pad ++ [x]).length ≤ 60; simp; omega, fun y hy => by
      rcases List.mem_append.mp hy with q | q
      · exact hI.2.1 y q
      · simp at q; omega, hI.2.2⟩
    have hC2 : RelC M2 (σ.pad ++ [x], σ.2) := by
      refine hC.pad hI _ ?_ ?_ f2
      · rw [← hM2, mset_same]; simp
      · rw [c0] at h1
        have := padAt_app (x := x) hC.2.1
        rw [← h1] at this
        intro i y hy
        rw [← hM2, mset_cell _ (by omega)]
        exact this i y hy
    have m2 : M2 203 3 = σ.pad.length := by rw [f2 _ _ (by omega) (by omega)]; exact m0
    apply of_X10_say
    unfold wp_X10_say
    apply m_in
    rw [if_pos hx]
    refine ⟨fun q => by omega, fun _ => ⟨fun q => by omega, fun _ => ⟨by omega, ?_⟩⟩⟩
    intro M3 h3 M4 h4
    rw [m2] at h3
    have e3 : M3 203 3 = σ.pad.length := by rw [h3, mset_cell _ (by omega)]; exact m2
    rw [e3, w32_id (by omega) (by omega)] at h4
    refine ⟨by rw [h4, mset_same], (σ.pad ++ [x], σ.2), hI', ?_, ?_⟩
    · exact hC2.fr hI' (fun c j hc => by rw [h4, mset_cell _ (by omega), h3, mset_cell _ (by omega)])
    · have hM' : RelM M2 σ := hM.fr (fun c j hc => f2 _ _ (by omega) (by omega))
      refine hM'.pad _ ?_ ?_ ?_
      · rw [h4, mset_same]; simp
      · have := padAt_app (x := x) hM'.2.1
        rw [← h3] at this
        intro i y hy
        rw [h4, mset_cell _ (by omega)]
        exact this i y hy
      · intro c j a b
        rw [h4]
        unfold mset
        rw [if_neg a, h3, mset_cell _ b]
  · apply of_X10_say
    unfold wp_X10_say
    apply m_in
    rw [if_pos hx]
    exact ⟨fun q => by omega, fun _ => ⟨fun q => ⟨rfl, σ, hI, hC, hM⟩, fun q => by omega⟩⟩
theorem op_wipe (hR : Rel M) : R_X9_wipe V M (fun r1 M1 => R_X10_wipe V M1 (fun r2 M2 => r1 = r2 ∧ Rel M2)) := by
  obtain ⟨σ, hI, hC, hM⟩ := hR
  apply of_X9_wipe
  unfold wp_X9_wipe
  intro v1 h1
  apply of_X10_wipe
  unfold wp_X10_wipe
  intro v2 h2
  rw [mset_cell _ (by omega), hM.1] at h2
  rw [hC.1] at h1
  have hI' : Inv ([], σ.2) := ⟨Nat.zero_le _, fun x hx => absurd hx List.not_mem_nil, hI.2.2⟩
  refine ⟨by omega, ([], σ.2), hI', ?_, ?_⟩
  · refine (hC.pad (M' := mset M 1 0 0) hI [] (mset_same _ _ _ _) (fun i y hy => by simp at hy) (fun c j a b => mset_cell _ a _ _ _)).fr hI' (fun c j hc => mset_cell _ (by omega) _ _ _)
  · refine RelM.pad (M := mset M 1 0 0) (hM.fr (fun c j hc => mset_cell _ (by omega) _ _ _)) [] (mset_same _ _ _ _) (fun i y hy => by simp at hy) (fun c j a b => ?_)
    unfold mset
    rw [if_neg a]
theorem op_steps (hR : Rel M) : R_X9_steps V M (fun r1 M1 => R_X10_steps V M1 (fun r2 M2 => r1 = r2 ∧ Rel M2)) := by
  obtain ⟨σ, hI, hC, hM⟩ := hR
  apply of_X9_steps
  unfold wp_X9_steps
  apply of_X10_steps
  unfold wp_X10_steps
  refine ⟨?_, σ, hI, hC, hM⟩
  rw [hC.2.2.2.2.2.2.1, hM.2.2.2.2.2.2]
theorem op_clear (hR : Rel M) : R_X9_clear V M (fun r1 M1 => R_X10_clear V M1 (fun r2 M2 => r1 = r2 ∧ Rel M2)) := by
  obtain ⟨σ, hI, hC, hM⟩ := hR
  have c4 := hC.2.2.2.1
  have m4 := hM.2.2.2.1
  apply of_X9_clear
  unfold wp_X9_clear
  intro v1 h1 M2 h2
  apply of_X10_clear
  unfold wp_X10_clear
  intro v2 h3
  rw [mset_cell _ (by omega), h2, mset_cell _ (by omega), m4] at h3
  rw [c4] at h1
  let σ' : St := (σ.pad, σ.tr, σ.lf, σ.rt, 0, σ.pr, σ.wk)
  have hI' : Inv σ' := ⟨hI.1, hI.2.1, hI.2.2.1, Nat.zero_le _, fun r a b => by simp [σ'] at b; omega, hI.2.2.2.2.2⟩
  refine ⟨by omega, σ', hI', ?_, ?_⟩
  · obtain ⟨g1, g2, g3, g4, g5, g6, g7, g8, g9⟩ := hC
    have e : ∀ c j, c ≠ 28 → c ≠ 127 → c ≤ 202 → mset (mset M2 127 0 0) 203 5 0 c j = M c j := fun c j a b d => by rw [mset_cell _ (by omega), mset_cell _ b, h2, mset_cell _ a]
    refine ⟨by rw [e _ _ (by omega) (by omega) (by omega)]; exact g1, fun i x hx => by rw [e _ _ (by omega) (by omega) (by omega)]; exact g2 i x hx, fun t a b => (g3 t a b).fr (fun c j _ _ => e _ _ (by omega) (by omega) (by omega)), ?_, fun r a b => by simp [σ'] at b; omega, fun w a b => by rw [e _ _ (by omega) (by omega) (by omega)]; exact g6 w a b, by rw [e _ _ (by omega) (by omega) (by omega)]; exact g7, ?_, ?_⟩
    · rw [mset_cell _ (by omega), mset_cell _ (by omega), h2, mset_same]; rfl
    · rw [e 0 11 (by omega) (by omega) (by omega), e 0 12 (by omega) (by omega) (by omega)]
      rcases g8 with g | ⟨k1, k2, k3, k4, k5, k6, k7⟩
      · exact Or.inl g
      · exact Or.inr ⟨k1, k2, k3, k4, k5, k6, k7.fr (fun c j _ _ => e _ _ (by omega) (by omega) (by omega))⟩
    · left
      rw [mset_cell _ (by omega), mset_same]
  · obtain ⟨g1, g2, g3, g4, g5, g6, g7⟩ := hM
    have e : ∀ c j, ¬ (c = 203 ∧ j = 5) → 203 ≤ c → mset (mset M2 127 0 0) 203 5 0 c j = M c j := fun c j a b => by
      rw [show mset (mset M2 127 0 0) 203 5 0 c j = mset M2 127 0 0 c j from if_neg a, mset_cell _ (by omega), h2, mset_cell _ (by omega)]
    have mt : ∀ x t, Mt M x t → Mt (mset (mset M2 127 0 0) 203 5 0) x t := fun x t hm => ⟨by rw [e _ _ (by omega) (by omega)]; exact hm.1, fun i hi => by rw [e _ _ (by omega) (by omega), e _ _ (by omega) (by omega)]; exact hm.2 i hi⟩
    exact ⟨by rw [e _ _ (by omega) (by omega)]; exact g1, fun i x hx => by rw [e _ _ (by omega) (by omega)]; exact g2 i x hx, fun t a b => mt _ _ (g3 t a b), by rw [mset_same]; rfl, fun r a b => by simp [σ'] at b; omega, fun w a b => by rw [e _ _ (by omega) (by omega)]; exact g6 w a b, by rw [e _ _ (by omega) (by omega)]; exact g7⟩
/-- the class's trees, prices or steps have changed: what is known of leadings is forgotten -/
theorem RelC.chg {M M' : Mem} {σ : St} (h : RelC M σ) (hi : Inv σ) (tr : Int → T) (pr : Int → Int) (wk : Int) (ht : ∀ t, 0 ≤ t → t ≤ 5 → Ct M' (161 + 7 * t) (tr t)) (hp : ∀ w, 0 ≤ w → w ≤ 2 → M' 13 w = pr w) (hw : M' 0 10 = wk) (hk : M' 0 11 = -1)
    (hf : ∀ c j, c = 1 ∨ c = 2 ∨ (c = 28 ∧ j = 0) ∨ (39 ≤ c ∧ c ≤ 122) ∨ (c = 127 ∧ j = 0) ∨ c = 128 → M' c j = M c j) : RelC M' (σ.pad, tr, σ.lf, σ.rt, σ.nr, pr, wk) := by
  obtain ⟨g1, g2, g3, g4, g5, g6, g7, g8, g9⟩ := h
  have hn := hi.2.2.2.1
  refine ⟨by rw [hf _ _ (by omega)]; exact g1, fun i x hx => by rw [hf _ _ (by omega)]; exact g2 i x hx, ht, by rw [hf _ _ (by omega)]; exact g4, fun r a b => ?_, hp, hw, Or.inl hk, ?_⟩
  · have b' : r < σ.nr := b
    exact ⟨(g5 r a b').1.fr (fun c j _ _ => hf _ _ (by omega)), (g5 r a b').2.fr (fun c j _ _ => hf _ _ (by omega))⟩
  · rw [hf 127 0 (by omega)]
    rcases g9 with g | ⟨k1, k2⟩
    · exact Or.inl g
    · exact Or.inr ⟨k1, fun w a b => by rw [hf _ _ (by omega)]; exact k2 w a b⟩
/-- the model's trees, prices or steps have changed -/
theorem RelM.chg {M M' : Mem} {σ : St} (h : RelM M σ) (hi : Inv σ) (tr : Int → T) (pr : Int → Int) (wk : Int) (ht : ∀ t, 0 ≤ t → t ≤ 5 → Mt M' t (tr t)) (hp : ∀ w, 0 ≤ w → w ≤ 2 → M' 208 w = pr w) (hw : M' 203 7 = wk)
    (hf : ∀ c j, (c = 203 ∧ (j = 3 ∨ j = 5)) ∨ (c = 204 ∧ 6 ≤ j ∧ j ≤ 17) ∨ ((c = 205 ∨ c = 206) ∧ 192 ≤ j ∧ j < 576) ∨ c = 207 → M' c j = M c j) : RelM M' (σ.pad, tr, σ.lf, σ.rt, σ.nr, pr, wk) := by
  obtain ⟨g1, g2, g3, g4, g5, g6, g7⟩ := h
  have hn := hi.2.2.2.1
  have mt : ∀ x t, 6 ≤ x → x ≤ 17 → t.length ≤ 16 → Mt M x t → Mt M' x t := fun x t h1 hx ht hm => ⟨by rw [hf _ _ (by omega)]; exact hm.1, fun i hi => by rw [hf _ _ (by omega), hf _ _ (by omega)]; exact hm.2 i hi⟩
  refine ⟨by rw [hf _ _ (by omega)]; exact g1, fun i x hx => by rw [hf _ _ (by omega)]; exact g2 i x hx, ht, by rw [hf _ _ (by omega)]; exact g4, fun r a b => ?_, hp, hw⟩
  have b' : r < σ.nr := b
  have w := hi.2.2.2.2.1 r a b'
  exact ⟨mt _ _ (by omega) (by omega) w.1.1.1 (g5 r a b').1, mt _ _ (by omega) (by omega) w.2.1.1.1 (g5 r a b').2⟩
theorem x_forget {Q : Int → Mem → Prop} (h : ∀ M', M' 0 11 = -1 → (∀ c j, ¬ (c = 0 ∧ (j = 11 ∨ j = 12)) → M' c j = M c j) → Q 0 M') : R_X9_forgetLeading V M Q := by
  apply of_X9_forgetLeading
  unfold wp_X9_forgetLeading
  intro M1 h1
  refine h _ ?_ (fun c j a => ?_)
  · rw [mset_idx _ _ _ (by omega), h1, mset_same]
  · rw [show mset M1 0 12 (-1) c j = M1 c j from if_neg (by omega), h1]
    exact if_neg (by omega)
theorem op_price {w v : Int} (hR : Rel M) : R_X9_price V w v M (fun r1 M1 => R_X10_price V w v M1 (fun r2 M2 => r1 = r2 ∧ Rel M2)) := by
  obtain ⟨σ, hI, hC, hM⟩ := hR
  have other : ¬ ((0 ≤ w ∧ w ≤ 2) ∧ (0 ≤ v ∧ v ≤ 9)) → R_X10_price V w v M (fun r2 M2 => -2 = r2 ∧ Rel M2) := by
    intro hx
    apply of_X10_price
    unfold wp_X10_price
    apply m_in
    by_cases h1 : 0 ≤ w ∧ w ≤ 2
    · rw [if_pos h1]
      refine ⟨fun c => by omega, fun _ => ?_⟩
      apply m_in
      rw [if_neg (by omega)]
      exact ⟨fun _ => ⟨rfl, σ, hI, hC, hM⟩, fun c => by omega⟩
    · rw [if_neg h1]
      exact ⟨fun _ => ⟨rfl, σ, hI, hC, hM⟩, fun c => by omega⟩
  apply of_X9_price
  unfold wp_X9_price
  refine ⟨fun c => other (by omega), fun c1 => ⟨fun c => other (by omega), fun c2 => ⟨fun c => other (by omega), fun c3 => ⟨fun c4 => ⟨by omega, ?_⟩, fun c => other (by omega)⟩⟩⟩⟩
  intro v1 h1
  refine ⟨by omega, ?_⟩
  intro M2 h2
  refine x_forget (fun M3 k3 f3 => ?_)
  have hw1 : 0 ≤ w ∧ w ≤ 2 := by omega
  have f2 : ∀ c j, ¬ (c = 13 ∧ j = w) → M2 c j = M c j := fun c j a => by rw [h2]; exact if_neg a
  apply of_X10_price
  unfold wp_X10_price
  apply m_in
  rw [if_pos hw1]
  refine ⟨fun c => by omega, fun _ => ?_⟩
  apply m_in
  rw [if_pos (by omega)]
  refine ⟨fun c => by omega, fun _ => ⟨by omega, ?_⟩⟩
  intro v5 h5
  rw [f3 _ _ (by omega), f2 _ _ (by omega), hM.2.2.2.2.2.1 w hw1.1 hw1.2] at h5
  rw [hC.2.2.2.2.2.1 w hw1.1 hw1.2] at h1
  refine ⟨by omega, by omega, ?_⟩
  let pr' : Int → Int := fun k => if k = w then v else σ.pr k
  let σ' : St := (σ.pad, σ.tr, σ.lf, σ.rt, σ.nr, pr', σ.wk)
  have hI' : Inv σ' := ⟨hI.1, hI.2.1, hI.2.2.1, hI.2.2.2.1, hI.2.2.2.2.1, fun k a b => by
    show 0 ≤ (if k = w then v else σ.pr k) ∧ (if k = w then v else σ.pr k) ≤ 9
    split
    · omega
    · exact hI.2.2.2.2.2.1 k a b, hI.2.2.2.2.2.2⟩
  have hC3 : RelC M3 σ' := by
    refine hC.chg hI σ.tr pr' σ.wk (fun t a b => (hC.2.2.1 t a b).fr (fun c j _ _ => by rw [f3 _ _ (by omega), f2 _ _ (by omega)])) (fun k a b => ?_) ?_ k3 (fun c j a => by rw [f3 _ _ (by omega), f2 _ _ (by omega)])
    · rw [f3 _ _ (by omega)]
      show M2 13 k = if k = w then v else σ.pr k
      rw [h2]
      by_cases hk : k = w
      · rw [hk, mset_same, if_pos rfl]
      · rw [mset_idx _ _ _ hk, if_neg hk]; exact hC.2.2.2.2.2.1 k a b
    · rw [f3 _ _ (by omega), f2 _ _ (by omega)]; exact hC.2.2.2.2.2.2.1
  have hM3 : RelM M3 σ := hM.fr (fun c j hc => by rw [f3 _ _ (by omega), f2 _ _ (by omega)])
  refine ⟨σ', hI', hC3.fr hI' (fun c j hc => mset_cell _ (by omega) _ _ _), ?_⟩
  refine hM3.chg hI σ.tr pr' σ.wk (fun t a b => ?_) (fun k a b => ?_) ?_ (fun c j a => mset_cell _ (by omega) _ _ _)
  · have := hM3.2.2.1 t a b
    exact ⟨by rw [mset_cell _ (by omega)]; exact this.1, fun i hi => by rw [mset_cell _ (by omega), mset_cell _ (by omega)]; exact this.2 i hi⟩
  · show mset M3 208 w v 208 k = if k = w then v else σ.pr k
    by_cases hk : k = w
    · rw [hk, mset_same, if_pos rfl]
    · rw [mset_idx _ _ _ hk, if_neg hk]; exact hM3.2.2.2.2.2.1 k a b
  · rw [mset_cell _ (by omega)]; exact hM3.2.2.2.2.2.2
end OPS1
