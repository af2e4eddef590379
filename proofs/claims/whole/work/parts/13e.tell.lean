/-! what the leader tells -/
theorem dS_hi8 {g : Ldg} {n : Nat} (hn : n ≤ 16) (h8 : 8 ≤ n) (hg : ∀ a y, g a = some y → y < 16) : dS whi g n 0 = dS whi g 8 0 := by
  have b := dS_bd (g := g) whi_ok bhi_ge hg (n - 8) 8 (by omega)
  have : bhi 8 = 0 := by decide
  have e : dS whi g n 0 = dS whi g 8 0 + dS whi g (n - 8) (0 + 8) := by
    unfold dS
    rw [← cS_add]; congr 1; omega
  rw [Nat.zero_add] at e
  omega
theorem row_dig {g g' : Ldg} {i : Nat} (hg : ∀ a y, g a = some y → y < 16) (hg' : ∀ a y, g' a = some y → y < 16) : (rowL g' i < rowL g i ↔ dig g' i < dig g i) ∧ (rowL g i = rowL g' i ↔ g i = g' i) := by
  unfold rowL dig
  cases h : g i with
  | none =>
    cases h' : g' i with
    | none => simp
    | some y => have := hg' i y h'; simp; omega
  | some x =>
    have hx := hg i x h
    cases h' : g' i with
    | none => simp; omega
    | some y => simp; omega
/-- a leading's weight: price, first half of its row, second -/
theorem wt_all {s t : T} {pr : Int → Int} {g : Ldg} : cS (wtD pr) (wtE s t pr) g (s.length - 0) 0 + wtA pr * ((t.length : Int) - ((0 : Nat) : Int)) = (pcL s t pr g * 1099511627776 + dS whi g s.length 0) * 1099511627776 + dS wlo g s.length 0 := by
  rw [wt_split, Nat.sub_zero, hi_split]
  have := price_eq (s := s) (t := t) (pr := pr) (g := g)
  rw [← this, show ((t.length : Int) - ((0 : Nat) : Int)) = t.length by omega, Int.add_mul]
  omega
theorem least_of {s t : T} {pr : Int → Int} {h l : Int} (hr : Rg s t pr 0 s.length 0 t.length h l) (s16 : s.length ≤ 16) (t16 : t.length ≤ 16) : ∃ g, IsLeast s t pr g ∧ (∀ a y, g a = some y → y < 16) ∧ h = pcL s t pr g * 1099511627776 + dS whi g s.length 0 ∧ l = dS wlo g s.length 0 := by
  obtain ⟨v, ⟨⟨g, h1, h2⟩, h3⟩, h4, h5, h6⟩ := hr
  rw [wt_all] at h2
  have bd : ∀ g', LG (sz s) (sz t) 0 s.length 0 t.length g' → (∀ a y, g' a = some y → y < 16) ∧ 0 ≤ dS wlo g' s.length 0 ∧ dS wlo g' s.length 0 < 1099511627776 ∧ 0 ≤ dS whi g' s.length 0 ∧ dS whi g' s.length 0 < 1099511627776 := by
    intro g' hg'
    have hy : ∀ a y, g' a = some y → y < 16 := fun a y hab => by have := hg'.1 a y hab; omega
    have b1 := dS_lt (g := g') (x := 0) s16 (by omega) hy
    have b2 := dS_bd (g := g') whi_ok bhi_ge hy s.length 0 (by omega)
    have b3 : bhi 0 < 1099511627776 := by decide
    rw [Nat.sub_zero] at b1
    exact ⟨hy, b1.1, b1.2, b2.1, by omega⟩
  obtain ⟨hy, c1, c2, c3, c4⟩ := bd g h1
  refine ⟨g, ⟨h1, fun g' hg' => ?_⟩, hy, by omega, by omega⟩
  obtain ⟨hy', d1, d2, d3, d4⟩ := bd g' hg'
  have hle := h3 g' hg'
  rw [wt_all] at hle
  refine ⟨by omega, fun he i hi hj => ?_⟩
  have hj' : ∀ j, j < i → g j = g' j := fun j hji => (row_dig hy hy').2.mp (hj j hji)
  rcases Int.lt_or_le (rowL g' i) (rowL g i) with k | k
  · exfalso
    have kd := (row_dig hy hy').1.mp k
    rcases Nat.lt_or_ge i 8 with w | w
    · have := row_lt whi_ok bhi_ge s16 hi hy hy' hj' kd (hi_sep i w)
      omega
    · have h1 := row_lt wlo_ok blo_ge s16 hi hy hy' hj' kd (lo_sep i (by omega) w)
      have e1 := dS_hi8 s16 (by omega) hy
      have e2 := dS_hi8 s16 (by omega) hy'
      have e3 : dS whi g 8 0 = dS whi g' 8 0 := cS_congr 8 0 (fun a _ ha => hj' a (by omega))
      omega
  · exact k
/-- there is one least only -/
theorem IsLeast.uniq {s t : T} {pr : Int → Int} {g g' : Ldg} (t16 : t.length ≤ 16) (h : IsLeast s t pr g) (h' : IsLeast s t pr g') : g = g' := by
  have hy : ∀ a y, g a = some y → y < 16 := fun a y hab => by have := h.1.1 a y hab; omega
  have hy' : ∀ a y, g' a = some y → y < 16 := fun a y hab => by have := h'.1.1 a y hab; omega
  have e : pcL s t pr g = pcL s t pr g' := by
    have a := (h.2 g' h'.1).1
    have b := (h'.2 g h.1).1
    omega
  have key : ∀ n i, i < n → g i = g' i := by
    intro n
    induction n with
    | zero => intro i hi; omega
    | succ n ih =>
      intro i hi
      by_cases hin : i < n
      · exact ih i hin
      · have hi' : i = n := by omega
        subst hi'
        by_cases hil : i < s.length
        · have r1 := (h.2 g' h'.1).2 e.symm i hil (fun j hj => by rw [(row_dig hy hy').2]; exact ih j hj)
          have r2 := (h'.2 g h.1).2 e i hil (fun j hj => by rw [(row_dig hy' hy).2]; exact (ih j hj).symm)
          exact (row_dig hy hy').2.mp (by omega)
        · rw [h.1.out (Or.inr (by omega)), h'.1.out (Or.inr (by omega))]
  funext i
  exact key (i + 1) i (by omega)
/-- the sources of t's nodes -/
def SrcOK (M : Mem) (t : T) (g : Ldg) : Prop := ∀ y : Nat, y < t.length → (∃ a : Nat, g a = some y ∧ M 15 y = a) ∨ ((∀ a, g a ≠ some y) ∧ M 15 y = 99)
section TELL
variable {V : VV} {M : Mem} {Q : Int → Mem → Prop}
theorem pow_w : ∀ x : Nat, x < 8 → w32 (5 * w32 (7 - x)) = ((5 * (7 - x) : Nat) : Int) := by decide +kernel
theorem pow_w2 : ∀ x : Nat, x < 16 → 8 ≤ x → w32 (5 * w32 (15 - x)) = ((5 * (15 - x) : Nat) : Int) := by decide +kernel
theorem pos_div {a : Int} {k : Nat} (h : 0 ≤ a) : 0 ≤ a / ((2 ^ k : Nat) : Int) := Int.ediv_nonneg h (Int.natCast_nonneg _)
theorem le_div {a : Int} {k : Nat} (h : 0 ≤ a) : a / ((2 ^ k : Nat) : Int) ≤ a := Int.ediv_le_self _ h
theorem x_partnerBits {g : Ldg} {n x : Nat} {P : Int} (hn : n ≤ 16) (hx : x < n) (hP : 0 ≤ P ∧ P ≤ 1000) (hg : ∀ a y, g a = some y → y < 16) (h1 : M 16 0 = P * 1099511627776 + dS whi g n 0) (h2 : M 17 0 = dS wlo g n 0) (h : Q (dig g x) M) : R_X2_partnerBits V x M Q := by
  have b1 := dS_lt (g := g) (x := 0) hn (by omega) hg
  rw [Nat.sub_zero] at b1
  have b2 := dS_bd (g := g) whi_ok bhi_ge hg n 0 (by omega)
  have b3 : bhi 0 < 1099511627776 := by decide
  have hd : 0 ≤ dig g x ∧ dig g x ≤ 16 := by
    unfold dig
    cases hh : g x with
    | none => simp
    | some y => have := hg x y hh; simp only; omega
  apply of_X2_partnerBits
  unfold wp_X2_partnerBits
  refine ⟨fun c => ⟨by omega, ?_⟩, fun c => ⟨by omega, ?_⟩⟩
  · rw [pow_w2 x (by omega) (by omega), h2, shr64_eq ⟨by omega, by omega⟩ _ (by omega), and31 (pos_div b1.1) (Int.le_trans (le_div b1.1) (by omega)), lo_digit hn hx (by omega) hg, w32_id (by omega) (by omega)]
    exact h
  · have hpos : 0 ≤ P * 1099511627776 + dS whi g n 0 := by omega
    rw [pow_w x (by omega), h1, shr64_eq ⟨by omega, by omega⟩ _ (by omega), and31 (pos_div hpos) (Int.le_trans (le_div hpos) (by omega)), hi_digit hn hx (by omega) hg, w32_id (by omega) (by omega)]
    exact h
theorem cnt_succ {p : Nat → Bool} {n : Nat} : (List.range (n + 1)).countP p = (List.range n).countP p + (if p n then 1 else 0) := by
  rw [List.range_succ, List.countP_append, List.countP_cons, List.countP_nil, Nat.zero_add]
theorem cnt_le {p : Nat → Bool} {n : Nat} : (List.range n).countP p ≤ n := by
  have := List.countP_le_length (p := p) (l := List.range n)
  simpa using this
def ledB (g : Ldg) : Nat → Bool := fun a => (g a).isSome
def renB (s t : T) (g : Ldg) : Nat → Bool := fun a => match g a with | some b => lb s a != lb t b | none => false
theorem ledN_eq (s : T) (g : Ldg) : ledN s g = (List.range s.length).countP (ledB g) := rfl
theorem renN_eq (s t : T) (g : Ldg) : renN s t g = (List.range s.length).countP (renB s t g) := rfl
theorem pcL_bd {s t : T} {pr : Int → Int} (hp : PrOK pr) (s16 : s.length ≤ 16) (t16 : t.length ≤ 16) {g : Ldg} (hg : Lead s t g) : 0 ≤ pcL s t pr g ∧ pcL s t pr g ≤ 1000 := by
  have h0 := hp 0 (by omega) (by omega)
  have h1 := hp 1 (by omega) (by omega)
  have h2 := hp 2 (by omega) (by omega)
  have c1 : ledN s g ≤ s.length := by rw [ledN_eq]; exact cnt_le
  have c2 : renN s t g ≤ s.length := by rw [renN_eq]; exact cnt_le
  /- as many are led as t has nodes, at most -/
  have c3 : ∀ n, ∀ m : Nat, (∀ a b, a < n → g a = some b → b < m) → (List.range n).countP (ledB g) ≤ m := by
    intro n
    induction n with
    | zero => intro m _; simp
    | succ n ih =>
      intro m hm
      rw [cnt_succ]
      cases hgn : g n with
      | none =>
        have : ledB g n = false := by simp [ledB, hgn]
        rw [this]
        simp only [Bool.false_eq_true, if_false, Nat.add_zero]
        exact ih m (fun a b ha hab => hm a b (by omega) hab)
      | some b =>
        have : ledB g n = true := by simp [ledB, hgn]
        rw [this]
        have hb := hm n b (by omega) hgn
        have := ih b (fun a b' ha hab => (hg.2 a b' n b hab hgn ha).1)
        simp only [if_true]; omega
  have c4 : ledN s g ≤ t.length := by rw [ledN_eq]; exact c3 _ _ (fun a b _ hab => (hg.1 a b hab).2.2.2)
  unfold pcL
  have a1 : 0 ≤ pr 0 * ((s.length : Int) - ledN s g) := Int.mul_nonneg h0.1 (by omega)
  have a2 : pr 0 * ((s.length : Int) - ledN s g) ≤ 9 * ((s.length : Int) - ledN s g) := Int.mul_le_mul_of_nonneg_right h0.2 (by omega)
  have a3 : 0 ≤ pr 1 * ((t.length : Int) - ledN s g) := Int.mul_nonneg h1.1 (by omega)
  have a4 : pr 1 * ((t.length : Int) - ledN s g) ≤ 9 * ((t.length : Int) - ledN s g) := Int.mul_le_mul_of_nonneg_right h1.2 (by omega)
  have a5 : 0 ≤ pr 2 * (renN s t g : Int) := Int.mul_nonneg h2.1 (by omega)
  have a6 : pr 2 * (renN s t g : Int) ≤ 9 * (renN s t g : Int) := Int.mul_le_mul_of_nonneg_right h2.2 (by omega)
  omega
theorem x_tell {s t : T} {pr : Int → Int} {k1 k2 : Int} {g : Ldg} (hk1 : 19 < k1) (hk2 : 19 < k2) (cs : Ct M k1 s) (ct : Ct M k2 t) (hp : PrOK pr) (s16 : s.length ≤ 16) (t16 : t.length ≤ 16) (hg : Lead s t g) (h1 : M 16 0 = pcL s t pr g * 1099511627776 + dS whi g s.length 0) (h2 : M 17 0 = dS wlo g s.length 0)
    (q : ∀ M' : Mem, M' 12 3 = pcL s t pr g → M' 12 4 = ledN s g → M' 12 5 = renN s t g → (∀ i : Nat, i < s.length → M' 14 i = rowL g i) → SrcOK M' t g → (∀ c j, ¬ (c = 12 ∧ (j = 3 ∨ j = 4 ∨ j = 5)) → c ≠ 14 → c ≠ 15 → M' c j = M c j) → Q 0 M') : R_X2_tell V k1 k2 M Q := by
  have hy : ∀ a y, g a = some y → y < 16 := fun a y hab => by have := hg.1 a y hab; omega
  have pb := pcL_bd hp s16 t16 hg
  have b2 := dS_bd (g := g) whi_ok bhi_ge hy s.length 0 (by omega)
  have b3 : bhi 0 < 1099511627776 := by decide
  apply of_X2_tell
  unfold wp_X2_tell
  refine ⟨by omega, ?_⟩
  intro M1 e1 M2 e2
  have ev : shr64 (M 16 0) 40 = pcL s t pr g := by
    rw [show (40 : Int) = ((40 : Nat) : Int) from rfl, shr64_eq (by rw [h1]; exact ⟨by omega, by omega⟩) 40 (by omega), h1]
    rw [show ((2 ^ 40 : Nat) : Int) = 1099511627776 by decide]
    omega
  rw [ev, w32_id (by omega) (by omega)] at e1
  clear ev
  generalize hM3 : mset M2 12 5 0 = M3
  have f3 : ∀ c j, ¬ (c = 12 ∧ (j = 3 ∨ j = 4 ∨ j = 5)) → M3 c j = M c j := fun c j a => by
    rw [← hM3, show mset M2 12 5 0 c j = M2 c j from if_neg (by omega), e2, show mset M1 12 4 0 c j = M1 c j from if_neg (by omega), e1]
    exact if_neg (by omega)
  have v3 : M3 12 3 = pcL s t pr g := by rw [← hM3, mset_idx _ _ _ (by omega), e2, mset_idx _ _ _ (by omega), e1, mset_same]
  have v4 : M3 12 4 = 0 := by rw [← hM3, mset_idx _ _ _ (by omega), e2, mset_same]
  have v5 : M3 12 5 = 0 := by rw [← hM3, mset_same]
  clear hM3 e1 e2
  unfold wp_X2_tell_26
  refine ⟨fun z N => ∃ n : Nat, z = n ∧ n ≤ t.length ∧ (∀ y : Nat, y < n → N 15 y = 99) ∧ (∀ c j, c ≠ 15 → N c j = M3 c j), fun z _ => (17 - z).toNat, ⟨0, rfl, by omega, fun y hy => by omega, fun _ _ _ => rfl⟩, ?_⟩
  rintro z N ⟨n, rfl, hn, h99, hN⟩
  have ctN : Ct N k2 t := ct.fr (fun c j _ _ => by rw [hN _ _ (by omega), f3 _ _ (by omega)])
  unfold wp_X2_tell_26_b
  rw [ctN.1.1]
  refine ⟨fun c => ?_, fun c => ⟨by omega, ?_⟩⟩
  · have hnt : n = t.length := by omega
    subst hnt
    clear c
    unfold wp_X2_tell_50
    refine ⟨fun z P => ∃ n : Nat, z = n ∧ n ≤ s.length ∧ P 12 3 = pcL s t pr g ∧ P 12 4 = ((List.range n).countP (ledB g) : Nat) ∧ P 12 5 = ((List.range n).countP (renB s t g) : Nat) ∧ (∀ i : Nat, i < n → P 14 i = rowL g i) ∧ (∀ y : Nat, y < t.length → (∃ a : Nat, a < n ∧ g a = some y ∧ P 15 y = a) ∨ ((∀ a, a < n → g a ≠ some y) ∧ P 15 y = 99)) ∧ (∀ c j, ¬ (c = 12 ∧ (j = 3 ∨ j = 4 ∨ j = 5)) → c ≠ 14 → c ≠ 15 → P c j = M c j), fun z _ => (17 - z).toNat, ⟨0, rfl, by omega, by rw [hN _ _ (by omega)]; exact v3, by rw [hN _ _ (by omega), v4]; rfl, by rw [hN _ _ (by omega), v5]; rfl, fun i hi => by omega, fun y hy => Or.inr ⟨fun a ha => by omega, h99 y hy⟩, fun c j a b d => by rw [hN _ _ d, f3 _ _ a]⟩, ?_⟩
    clear h99 hN ctN N v3 v4 v5 f3 M3
    rintro z P ⟨n, rfl, hn, p3, p4, p5, p14, p15, pf⟩
    have csP : Ct P k1 s := cs.fr (fun c j _ _ => pf _ _ (by omega) (by omega) (by omega))
    have ctP : Ct P k2 t := ct.fr (fun c j _ _ => pf _ _ (by omega) (by omega) (by omega))
    unfold wp_X2_tell_50_b
    rw [csP.1.1]
    refine ⟨fun c => ?_, fun c => ?_⟩
    · have hns : n = s.length := by omega
      subst hns
      refine q P p3 p4 p5 p14 (fun y hy => ?_) pf
      rcases p15 y hy with ⟨a, -, a2, a3⟩ | ⟨a2, a3⟩
      · exact Or.inl ⟨a, a2, a3⟩
      · refine Or.inr ⟨fun a ha => ?_, a3⟩
        exact a2 a (hg.1 a y ha).2.1 ha
    · have hns : n < s.length := by omega
      refine x_partnerBits s16 hns pb hy (by rw [pf _ _ (by omega) (by omega) (by omega)]; exact h1) (by rw [pf _ _ (by omega) (by omega) (by omega)]; exact h2) ?_
      have cl1 := cnt_le (p := ledB g) (n := n)
      have cl2 := cnt_le (p := renB s t g) (n := n)
      cases hgn : g n with
      | none =>
        have hd : dig g n = 16 := by simp [dig, hgn]
        rw [hd]
        apply x_has
        rw [ctP.1.1, if_neg (by omega)]
        refine ⟨fun _ => ?_, fun c => by omega⟩
        unfold wp_X2_tell_86
        refine ⟨by omega, ?_⟩
        intro M7 h7
        apply x_has
        rw [h7, mset_cell _ (by omega), ctP.1.1, if_neg (by omega)]
        refine ⟨fun _ => ?_, fun c => by omega⟩
        rw [w_succ (by omega)]
        have e1 : ledB g n = false := by simp [ledB, hgn]
        have e2 : renB s t g n = false := by simp [renB, hgn]
        refine ⟨⟨n + 1, by omega, by omega, ?_, ?_, ?_, fun i hi => ?_, fun y hyt => ?_, fun c j a b d => ?_⟩, by (try dsimp only); omega⟩
        · rw [mset_cell _ (by omega)]; exact p3
        · rw [mset_cell _ (by omega), p4, cnt_succ, e1]; rfl
        · rw [mset_cell _ (by omega), p5, cnt_succ, e2]; rfl
        · by_cases ei : i = n
          · rw [ei, mset_same]; simp [rowL, hgn]
          · rw [mset_idx _ _ _ (by omega)]; exact p14 i (by omega)
        · rw [mset_cell _ (by omega)]
          rcases p15 y hyt with ⟨a, a1, a2, a3⟩ | ⟨a2, a3⟩
          · exact Or.inl ⟨a, by omega, a2, a3⟩
          · refine Or.inr ⟨fun a ha => ?_, a3⟩
            by_cases ea : a = n
            · rw [ea, hgn]; exact fun w => by cases w
            · exact a2 a (by omega)
        · rw [mset_cell _ b]; exact pf c j a b d
      | some b =>
        have hb := (hg.1 n b hgn).2.2.2
        have hd : dig g n = b := by simp [dig, hgn]
        rw [hd]
        apply x_has
        rw [ctP.1.1, if_pos (by omega)]
        refine ⟨fun c => by omega, fun _ => ?_⟩
        unfold wp_X2_tell_86 wp_X2_tell_140
        refine ⟨by omega, ?_⟩
        intro M7 h7
        have f7 : ∀ c j, c ≠ 14 → M7 c j = P c j := fun c j a => by rw [h7, mset_cell _ a]
        apply x_has
        rw [f7 _ _ (by omega), ctP.1.1, if_pos (by omega)]
        refine ⟨fun c => by omega, fun _ => ⟨by omega, ?_⟩⟩
        intro M10 h10 M11 h11
        have f10 : ∀ c j, c ≠ 14 → c ≠ 15 → M10 c j = P c j := fun c j a d => by rw [h10, mset_cell _ d, f7 _ _ a]
        rw [f10 _ _ (by omega) (by omega), p4, w_succ (by omega)] at h11
        have f11 : ∀ c j, ¬ (c = 12 ∧ j = 4) → M11 c j = M10 c j := fun c j a => by rw [h11]; exact if_neg a
        refine ⟨by omega, by omega, ?_⟩
        rw [f11 _ _ (by omega), f10 _ _ (by omega) (by omega), f11 _ _ (by omega), f10 _ _ (by omega) (by omega), f11 12 5 (by omega), f10 12 5 (by omega) (by omega), (csP.1.2 n hns).1, (ctP.1.2 b hb).1, p5, w_succ (by omega)]
        have e1 : ledB g n = true := by simp [ledB, hgn]
        have fin : ∀ d : Nat, (d = if renB s t g n then 1 else 0) → (∃ n' : Nat, (n : Int) + 1 = n' ∧ n' ≤ s.length ∧ mset M11 12 5 (w32 ((((List.range n).countP (renB s t g) : Nat) : Int) + (d : Int))) 12 3 = pcL s t pr g ∧ mset M11 12 5 (w32 ((((List.range n).countP (renB s t g) : Nat) : Int) + (d : Int))) 12 4 = ((List.range n').countP (ledB g) : Nat) ∧ mset M11 12 5 (w32 ((((List.range n).countP (renB s t g) : Nat) : Int) + (d : Int))) 12 5 = ((List.range n').countP (renB s t g) : Nat) ∧ (∀ i : Nat, i < n' → mset M11 12 5 (w32 ((((List.range n).countP (renB s t g) : Nat) : Int) + (d : Int))) 14 i = rowL g i) ∧ (∀ y : Nat, y < t.length → (∃ a : Nat, a < n' ∧ g a = some y ∧ mset M11 12 5 (w32 ((((List.range n).countP (renB s t g) : Nat) : Int) + (d : Int))) 15 y = a) ∨ ((∀ a, a < n' → g a ≠ some y) ∧ mset M11 12 5 (w32 ((((List.range n).countP (renB s t g) : Nat) : Int) + (d : Int))) 15 y = 99)) ∧ (∀ c j, ¬ (c = 12 ∧ (j = 3 ∨ j = 4 ∨ j = 5)) → c ≠ 14 → c ≠ 15 → mset M11 12 5 (w32 ((((List.range n).countP (renB s t g) : Nat) : Int) + (d : Int))) c j = M c j)) ∧ (17 - ((n : Int) + 1)).toNat < (17 - (n : Int)).toNat := by
          intro d hdd
          have hd1 : d ≤ 1 := by rw [hdd]; split <;> omega
          rw [w32_id (by omega) (by omega)]
          refine ⟨⟨n + 1, by omega, by omega, ?_, ?_, ?_, fun i hi => ?_, fun y hyt => ?_, fun c j a b' d' => ?_⟩, by omega⟩
          · rw [mset_idx _ _ _ (by omega), f11 _ _ (by omega), f10 _ _ (by omega) (by omega)]; exact p3
          · rw [mset_idx _ _ _ (by omega), h11, mset_same, cnt_succ, e1]; rfl
          · rw [mset_same, cnt_succ, hdd]; omega
          · rw [mset_cell _ (by omega), f11 _ _ (by omega), h10, mset_cell _ (by omega), h7]
            by_cases ei : i = n
            · rw [ei, mset_same]; simp [rowL, hgn]
            · rw [mset_idx _ _ _ (by omega)]; exact p14 i (by omega)
          · rw [mset_cell _ (by omega), f11 _ _ (by omega), h10]
            by_cases ey : y = b
            · rw [ey, mset_same]
              exact Or.inl ⟨n, by omega, hgn, rfl⟩
            · rw [mset_idx _ _ _ (by omega), f7 _ _ (by omega)]
              rcases p15 y hyt with ⟨a, a1, a2, a3⟩ | ⟨a2, a3⟩
              · exact Or.inl ⟨a, by omega, a2, a3⟩
              · refine Or.inr ⟨fun a ha => ?_, a3⟩
                by_cases ea : a = n
                · rw [ea, hgn]; exact fun w => ey (Option.some.inj w).symm
                · exact a2 a (by omega)
          · rw [show mset M11 12 5 _ c j = M11 c j from if_neg (by omega), f11 _ _ (by omega), f10 _ _ b' d']; exact pf c j a b' d'
        refine ⟨fun w => fin 0 ?_, fun w => fin 1 ?_⟩
        · have : renB s t g n = false := by simp [renB, hgn, w]
          rw [this]; rfl
        · have : renB s t g n = true := by simp [renB, hgn, w]
          rw [this]; rfl
  · rw [w_succ (by omega)]
    refine ⟨⟨n + 1, by omega, by omega, fun y hyn => ?_, fun c j a => by rw [mset_cell _ a]; exact hN c j a⟩, by (try dsimp only); omega⟩
    by_cases e : y = n
    · rw [e, mset_same]
    · rw [mset_idx _ _ _ (by omega)]; exact h99 y (by omega)
/-- the leader -/
theorem x_lead {s t : T} {pr : Int → Int} {k1 k2 : Int} (hk1 : 19 < k1) (hk2 : 19 < k2) (cs : Ct M k1 s) (ct : Ct M k2 t) (hm : PrM M pr) (hp : PrOK pr) (ws : Wt s) (wt : Wt t) (hs : 0 < s.length) (ht : 0 < t.length)
    (q : ∀ (M' : Mem) (g : Ldg), IsLeast s t pr g → M' 12 3 = pcL s t pr g → M' 12 4 = ledN s g → M' 12 5 = renN s t g → (∀ i : Nat, i < s.length → M' 14 i = rowL g i) → SrcOK M' t g → (∀ c j, c < 12 ∨ c = 13 ∨ 19 < c → M' c j = M c j) → Q 0 M') : R_X2_lead V k1 k2 M Q := by
  refine x_lead0 hk1 hk2 cs ct hm hp ws wt hs ht (fun M1 hr f1 => ?_)
  obtain ⟨g, hl, hy, e1, e2⟩ := least_of hr ws.1 wt.1
  refine x_tell hk1 hk2 (cs.fr (fun c j _ _ => f1 _ _ (by omega) (by omega) (by omega) (by omega) (by omega))) (ct.fr (fun c j _ _ => f1 _ _ (by omega) (by omega) (by omega) (by omega) (by omega))) hp ws.1 wt.1 hl.1 e1 e2 (fun M3 a3 a4 a5 a14 a15 f3 => ?_)
  exact q M3 g hl a3 a4 a5 a14 a15 (fun c j hc => by rw [f3 _ _ (by omega) (by omega) (by omega), f1 _ _ (by omega) (by omega) (by omega) (by omega) (by omega)])
end TELL
