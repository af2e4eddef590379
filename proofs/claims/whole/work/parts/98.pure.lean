/-! the law's loop -/
theorem rel0 : Rel M0 := by
  have z : ∀ k j, (k ≠ 0 ∧ k ≠ 13 ∧ k ≠ 203 ∧ k ≠ 208) → M0 k j = 0 := fun k j h => M0_z h j
  have p : ∀ w : Int, 0 ≤ w → w ≤ 2 → M0 13 w = (if w = 2 then 2 else 3) ∧ M0 208 w = (if w = 2 then 2 else 3) := by
    intro w a b
    have : w = 0 ∨ w = 1 ∨ w = 2 := by omega
    rcases this with rfl | rfl | rfl <;> decide
  refine ⟨([], fun _ => [], fun _ => [], fun _ => [], 0, fun w => if w = 2 then 2 else 3, -6), ?_, ?_, ?_⟩
  · refine ⟨Nat.zero_le _, fun x hx => absurd hx List.not_mem_nil, fun t _ _ => ⟨⟨Nat.zero_le _, fun h => absurd rfl h⟩, fun p hp => absurd hp List.not_mem_nil⟩, Nat.zero_le _, fun r a b => ?_, fun w _ _ => ?_, ?_⟩
    · have b' : r < ((0 : Nat) : Int) := b
      omega
    · show 0 ≤ (if w = 2 then (2 : Int) else 3) ∧ (if w = 2 then (2 : Int) else 3) ≤ 9
      split <;> omega
    · show ir (-6)
      unfold ir; omega
  · refine ⟨z _ _ (by omega), fun i x hx => by
      have hx' : ([] : List Int)[i]? = some x := hx
      simp at hx', fun t a b => ⟨⟨z _ _ (by omega), fun i hi => absurd (show i < 0 from hi) (Nat.not_lt_zero i)⟩, fun i hi => absurd (show i < 0 from hi) (Nat.not_lt_zero i)⟩, z _ _ (by omega), fun r a b => ?_, fun w a b => (p w a b).1, by decide, Or.inl (by decide), Or.inl (z _ _ (by omega))⟩
    have b' : r < ((0 : Nat) : Int) := b
    omega
  · refine ⟨by decide, fun i x hx => by
      have hx' : ([] : List Int)[i]? = some x := hx
      simp at hx', fun t a b => ⟨z _ _ (by omega), fun i hi => absurd (show i < 0 from hi) (Nat.not_lt_zero i)⟩, by decide, fun r a b => ?_, fun w a b => (p w a b).2, by decide⟩
    have b' : r < ((0 : Nat) : Int) := b
    omega
theorem pure_of (hov : ∀ (V : VV) (M : Mem) (a b i : Int), Rel M → R_X9_overlap V a b i M (fun r1 M1 => R_X10_overlap V a b i M1 (fun r2 M2 => r1 = r2 ∧ Rel M2)))
    (hpk : ∀ (V : VV) (M : Mem) (a b i u : Int), Rel M → R_X9_peak V a b i u M (fun r1 M1 => R_X10_peak V a b i u M1 (fun r2 M2 => r1 = r2 ∧ Rel M2)))
    (hos : ∀ (V : VV) (M : Mem) (w : Int), Rel M → R_X9_overlaps V w M (fun r1 M1 => R_X10_overlaps V w M1 (fun r2 M2 => r1 = r2 ∧ Rel M2))) :
    ∀ (V : VV) (S : Int → Int) (L : Int), (∀ i, ir (S i)) → 0 ≤ L → L ≤ 3072 → wp_L_law_18 V S L 0 M0 (fun _ _ => True) := by
  intro V S L hS hL0 hL
  unfold wp_L_law_18
  refine ⟨fun x N => Rel N ∧ 0 ≤ x ∧ x ≤ 4000, fun x _ => (5000 - x).toNat, ⟨rel0, by omega, by omega⟩, ?_⟩
  rintro x N ⟨hR, hx0, hx1⟩
  unfold wp_L_law_18_b wp_L_law_824 wp_L_law_846
  rw [w32_id (x := L - 6) (by omega) (by omega)]
  refine ⟨fun _ => trivial, fun c => ?_⟩
  rw [w32_id (x := x + 1) (by omega) (by omega), w32_id (x := x + 2) (by omega) (by omega), w32_id (x := x + 3) (by omega) (by omega), w32_id (x := x + 4) (by omega) (by omega), w32_id (x := x + 5) (by omega) (by omega), w32_id (x := x + 6) (by omega) (by omega)]
  have nx : ∀ N' : Mem, Rel N' → (Rel N' ∧ 0 ≤ x + 6 ∧ x + 6 ≤ 4000) ∧ (5000 - (x + 6)).toNat < (5000 - x).toNat := fun N' h => ⟨⟨h, by omega, by omega⟩, by omega⟩
  have i1 : 0 ≤ x + 1 ∧ x + 1 < L := by omega
  have i2 : 0 ≤ x + 2 ∧ x + 2 < L := by omega
  have i3 : 0 ≤ x + 3 ∧ x + 3 < L := by omega
  have i4 : 0 ≤ x + 4 ∧ x + 4 < L := by omega
  have i5 : 0 ≤ x + 5 ∧ x + 5 < L := by omega
  refine ⟨by omega, fun _ => nx N hR, fun _ => ⟨i1, (op_say hR).mono (fun r1 M1 h1 => ⟨i1, h1.mono (fun r2 M2 h2 => ⟨fun _ => nx M2 h2.2, fun z => z h2.1⟩)⟩)⟩,
    fun _ => (op_wipe hR).mono (fun r1 M1 h1 => h1.mono (fun r2 M2 h2 => ⟨fun _ => nx M2 h2.2, fun z => z h2.1⟩)),
    fun _ => (op_fault hR).mono (fun r1 M1 h1 => h1.mono (fun r2 M2 h2 => ⟨fun _ => nx M2 h2.2, fun z => z h2.1⟩)),
    fun _ => ⟨i1, (op_read hR).mono (fun r1 M1 h1 => ⟨i1, h1.mono (fun r2 M2 h2 => ⟨fun _ => nx M2 h2.2, fun z => z h2.1⟩)⟩)⟩,
    fun _ => ⟨i1, i2, i3, (op_node hR).mono (fun r1 M1 h1 => ⟨i1, i2, i3, h1.mono (fun r2 M2 h2 => ⟨fun _ => nx M2 h2.2, fun z => z h2.1⟩)⟩)⟩,
    fun _ => ⟨i1, i2, (op_sign hR).mono (fun r1 M1 h1 => ⟨i1, i2, h1.mono (fun r2 M2 h2 => ⟨fun _ => nx M2 h2.2, fun z => z h2.1⟩)⟩)⟩,
    fun _ => ⟨i1, i2, i3, (op_take hR).mono (fun r1 M1 h1 => ⟨i1, i2, i3, h1.mono (fun r2 M2 h2 => ⟨fun _ => nx M2 h2.2, fun z => z h2.1⟩)⟩)⟩,
    fun _ => ⟨i1, i2, i3, i4, (op_alike hR).mono (fun r1 M1 h1 => ⟨i1, i2, i3, i4, h1.mono (fun r2 M2 h2 => ⟨fun _ => nx M2 h2.2, fun z => z h2.1⟩)⟩)⟩,
    fun _ => ⟨i1, i2, (op_price hR).mono (fun r1 M1 h1 => ⟨i1, i2, h1.mono (fun r2 M2 h2 => ⟨fun _ => nx M2 h2.2, fun z => z h2.1⟩)⟩)⟩,
    fun _ => ⟨i1, i2, (op_least hR).mono (fun r1 M1 h1 => ⟨i1, i2, h1.mono (fun r2 M2 h2 => ⟨fun _ => nx M2 h2.2, fun z => z h2.1⟩)⟩)⟩,
    fun _ => ⟨i1, i2, i3, (op_led hR).mono (fun r1 M1 h1 => ⟨i1, i2, i3, h1.mono (fun r2 M2 h2 => ⟨fun _ => nx M2 h2.2, fun z => z h2.1⟩)⟩)⟩,
    fun _ => ⟨i1, i2, i3, (op_edits hR).mono (fun r1 M1 h1 => ⟨i1, i2, i3, h1.mono (fun r2 M2 h2 => ⟨fun _ => nx M2 h2.2, fun z => z h2.1⟩)⟩)⟩,
    fun _ => ⟨i1, i2, i3, (op_moved hR).mono (fun r1 M1 h1 => ⟨i1, i2, i3, h1.mono (fun r2 M2 h2 => ⟨fun _ => nx M2 h2.2, fun z => z h2.1⟩)⟩)⟩,
    fun _ => ⟨i1, i2, i3, i4, i5, (op_common hR).mono (fun r1 M1 h1 => ⟨i1, i2, i3, i4, i5, h1.mono (fun r2 M2 h2 => ⟨fun _ => nx M2 h2.2, fun z => z h2.1⟩)⟩)⟩,
    fun _ => ⟨i1, i2, (op_twice hR).mono (fun r1 M1 h1 => ⟨i1, i2, h1.mono (fun r2 M2 h2 => ⟨fun _ => nx M2 h2.2, fun z => z h2.1⟩)⟩)⟩,
    fun _ => ⟨i1, i2, (op_rule hR).mono (fun r1 M1 h1 => ⟨i1, i2, h1.mono (fun r2 M2 h2 => ⟨fun _ => nx M2 h2.2, fun z => z h2.1⟩)⟩)⟩,
    fun _ => (op_clear hR).mono (fun r1 M1 h1 => h1.mono (fun r2 M2 h2 => ⟨fun _ => nx M2 h2.2, fun z => z h2.1⟩)),
    fun _ => ⟨i1, i2, (op_fits hR).mono (fun r1 M1 h1 => ⟨i1, i2, h1.mono (fun r2 M2 h2 => ⟨fun _ => nx M2 h2.2, fun z => z h2.1⟩)⟩)⟩,
    fun _ => ⟨i1, i2, i3, (op_make hR).mono (fun r1 M1 h1 => ⟨i1, i2, i3, h1.mono (fun r2 M2 h2 => ⟨fun _ => nx M2 h2.2, fun z => z h2.1⟩)⟩)⟩,
    fun _ => ⟨i1, i2, fun w => (op_walk hR).mono (fun r1 M1 h1 => ⟨i1, i2, fun _ => h1.mono (fun r2 M2 h2 => ⟨fun _ => nx M2 h2.2, fun z => z h2.1⟩), fun z => absurd w z⟩), fun w => (op_walk hR).mono (fun r1 M1 h1 => ⟨i1, i2, fun z => absurd z w, fun _ => h1.mono (fun r2 M2 h2 => ⟨fun _ => nx M2 h2.2, fun z => z h2.1⟩)⟩)⟩,
    fun _ => (op_steps hR).mono (fun r1 M1 h1 => h1.mono (fun r2 M2 h2 => ⟨fun _ => nx M2 h2.2, fun z => z h2.1⟩)),
    fun _ => ⟨i1, i2, i3, (hov V N _ _ _ hR).mono (fun r1 M1 h1 => ⟨i1, i2, i3, h1.mono (fun r2 M2 h2 => ⟨fun _ => nx M2 h2.2, fun z => z h2.1⟩)⟩)⟩,
    fun _ => ⟨i1, i2, i3, i4, (hpk V N _ _ _ _ hR).mono (fun r1 M1 h1 => ⟨i1, i2, i3, i4, h1.mono (fun r2 M2 h2 => ⟨fun _ => nx M2 h2.2, fun z => z h2.1⟩)⟩)⟩,
    fun _ => ⟨i1, (hos V N _ hR).mono (fun r1 M1 h1 => ⟨i1, h1.mono (fun r2 M2 h2 => ⟨fun _ => nx M2 h2.2, fun z => z h2.1⟩)⟩)⟩,
    fun _ => ⟨i1, (op_told (hS _) hR).mono (fun r1 M1 h1 => ⟨i1, h1.mono (fun r2 M2 h2 => ⟨fun _ => nx M2 h2.2, fun z => z h2.1⟩)⟩)⟩⟩
