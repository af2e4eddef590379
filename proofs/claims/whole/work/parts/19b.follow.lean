/-! the reference's unifying in memory: nodes, following holes -/
theorem rem16 : ∀ q : Nat, q < 64 → rem32 q 16 = ((q % 16 : Nat) : Int) := by decide +kernel
theorem div16 : ∀ q : Nat, q < 64 → rem32 (div32 q 16) 2 = ((q / 16 % 2 : Nat) : Int) := by decide +kernel
def Md (Z : T4) (M : Mem) : Prop := ∃ a b : Int, 0 ≤ a ∧ a ≤ 5 ∧ 0 ≤ b ∧ b ≤ 5 ∧ M 203 38 = a ∧ M 203 39 = b ∧ Mt M (6 + a) Z.1 ∧ Mt M (6 + b) Z.2.1 ∧ Mt M (12 + a) Z.2.2.1 ∧ Mt M (12 + b) Z.2.2.2
/-- cells that unifying and spreading may change -/
def Fm (M M' : Mem) : Prop := ∀ c j : Int, ¬ (232 ≤ c ∧ c ≤ 235) → ¬ (c = 203 ∧ j = 33) → ¬ (c = 204 ∧ 18 ≤ j) → ¬ ((c = 205 ∨ c = 206) ∧ 576 ≤ j) → M' c j = M c j
theorem Fm.rf (M : Mem) : Fm M M := fun _ _ _ _ _ _ => rfl
theorem Fm.trans {M M' M'' : Mem} (h : Fm M M') (h' : Fm M' M'') : Fm M M'' := fun c j a b d e => by rw [h' c j a b d e, h c j a b d e]
theorem Fm.mt {M M' : Mem} (h : Fm M M') {x : Int} {t : T} (hx : x ≤ 17) (h16 : t.length ≤ 16) (hm : Mt M x t) : Mt M' x t := by
  refine ⟨by rw [h _ _ (by omega) (by omega) (by omega) (by omega)]; exact hm.1, fun i hi => ?_⟩
  rw [h _ _ (by omega) (by omega) (by omega) (by omega), h _ _ (by omega) (by omega) (by omega) (by omega)]
  exact hm.2 i hi
theorem Md.fr {Z : T4} {M M' : Mem} (hZ : Z4 Z) (h : Md Z M) (hf : Fm M M') : Md Z M' := by
  obtain ⟨a, b, a1, a2, b1, b2, e1, e2, m1, m2, m3, m4⟩ := h
  exact ⟨a, b, a1, a2, b1, b2, by rw [hf _ _ (by omega) (by omega) (by omega) (by omega)]; exact e1, by rw [hf _ _ (by omega) (by omega) (by omega) (by omega)]; exact e2, hf.mt (by omega) hZ.1.1.1 m1, hf.mt (by omega) hZ.2.1.1.1 m2, hf.mt (by omega) hZ.2.2.1.1.1 m3, hf.mt (by omega) hZ.2.2.2.1.1 m4⟩
/-- the holes in memory -/
def pM (M : Mem) (h : Nat) : Int := M 232 h
section FOLLOW
variable {V : VV} {M : Mem} {Q : Int → Mem → Prop} {Z : T4} {ρ : Nat → Nat}
theorem m_slotOf (hm : Md Z M) {q : Nat} (hq : q < 64) (h : ∀ x : Int, 6 ≤ x → x ≤ 17 → Mt M x (nt Z q) → Q x M) : R_X10_slotOf V q M Q := by
  obtain ⟨a, b, a1, a2, b1, b2, e1, e2, m1, m2, m3, m4⟩ := hm
  apply of_X10_slotOf
  unfold wp_X10_slotOf
  rw [e1, e2, w32_id (x := 12 + b) (by omega) (by omega), w32_id (x := 12 + a) (by omega) (by omega), w32_id (x := 6 + b) (by omega) (by omega), w32_id (x := 6 + a) (by omega) (by omega)]
  refine ⟨fun g1 => ⟨fun g2 => ⟨fun g3 => h _ (by omega) (by omega) ?_, fun g3 => h _ (by omega) (by omega) ?_⟩, fun g2 => h _ (by omega) (by omega) ?_⟩, fun g1 => h _ (by omega) (by omega) ?_⟩
  · unfold nt; rw [if_neg (by omega), if_neg (by omega), if_neg (by omega)]; exact m4
  · unfold nt; rw [if_neg (by omega), if_neg (by omega), if_pos (by omega)]; exact m3
  · unfold nt; rw [if_neg (by omega), if_pos (by omega)]; exact m2
  · unfold nt; rw [if_pos (by omega)]; exact m1
theorem m_labelAt (hZ : Z4 Z) (hm : Md Z M) {q : Nat} (hq : nOK Z q) (h : Q (nlb Z q) M) : R_X10_labelAt V q M Q := by
  have l16 := (hZ.wd q).1.1
  have q16 := hq.2
  apply of_X10_labelAt
  unfold wp_X10_labelAt
  refine m_slotOf hm hq.1 (fun x x1 x2 hx => ?_)
  rw [rem16 q hq.1, w32_id (x := 32 * x) (by omega) (by omega), w32_id (by omega) (by omega)]
  refine ⟨by omega, ?_⟩
  rw [(hx.2 (q % 16) hq.2).1]; exact h
theorem m_partsAt (hZ : Z4 Z) (hm : Md Z M) {q : Nat} (hq : nOK Z q) (h : Q (nar Z q) M) : R_X10_partsAt V q M Q := by
  have l16 := (hZ.wd q).1.1
  have q16 := hq.2
  apply of_X10_partsAt
  unfold wp_X10_partsAt
  refine m_slotOf hm hq.1 (fun x x1 x2 hx => ?_)
  rw [rem16 q hq.1, w32_id (x := 32 * x) (by omega) (by omega), w32_id (by omega) (by omega)]
  refine ⟨by omega, ?_⟩
  rw [(hx.2 (q % 16) hq.2).2]; exact h
theorem m_sizeAt (hZ : Z4 Z) (hm : Md Z M) {q : Nat} (hq : nOK Z q) (h : Q (nsz Z q) M) : R_X10_sizeAt V q M Q := by
  apply of_X10_sizeAt
  unfold wp_X10_sizeAt
  refine m_slotOf hm hq.1 (fun x x1 x2 hx => ?_)
  rw [rem16 q hq.1]
  exact m_sizeOf ⟨by omega, by omega⟩ hx (hZ.wd q).1 hq.2 h
theorem m_holeAt (hZ : Z4 Z) (hm : Md Z M) {q : Nat} (hq : nOK Z q) (h : Q (if hol Z q then (nh Z q : Int) else -6) M) : R_X10_holeAt V q M Q := by
  apply of_X10_holeAt
  unfold wp_X10_holeAt
  refine m_labelAt hZ hm hq ?_
  apply m_isHole
  cases hh : hol Z q with
  | true =>
    have hr := isH_iff.mp hh
    rw [hh] at h
    simp only [if_true] at h
    rw [if_pos hr]
    refine ⟨fun z => by omega, fun _ => ?_⟩
    rw [div16 q hq.1, w32_id (x := nlb Z q - 65) (by omega) (by omega), w32_id (x := nlb Z q - 65 + 8) (by omega) (by omega), w32_id (x := nlb Z q - 65 + 0) (by omega) (by omega)]
    unfold nh isB at h
    refine ⟨fun g => ?_, fun g => ?_⟩
    · have e : q / 16 % 2 = 1 := by omega
      rw [e] at h
      have : (((nlb Z q - 65).toNat + (if decide (1 = 1) = true then 8 else 0) : Nat) : Int) = nlb Z q - 65 + 8 := by simp; omega
      rw [this] at h; exact h
    · have e : ¬ q / 16 % 2 = 1 := by omega
      have : (((nlb Z q - 65).toNat + (if decide (q / 16 % 2 = 1) = true then 8 else 0) : Nat) : Int) = nlb Z q - 65 + 0 := by simp [e]; omega
      rw [this] at h; exact h
  | false =>
    have hr : ¬ (65 ≤ nlb Z q ∧ nlb Z q ≤ 72) := fun g => by
      have := isH_iff.mpr g
      unfold hol at hh
      rw [this] at hh; cases hh
    rw [hh] at h
    simp only [Bool.false_eq_true, if_false] at h
    rw [if_neg hr]
    exact ⟨fun _ => h, fun z => absurd rfl z⟩
theorem m_follow (hZ : Z4 Z) (hm : Md Z M) (hA : Ac Z (pM M) ρ) {q : Nat} (hq : nOK Z q) (h : ∀ n : Nat, Fo Z (pM M) q n → Q n M) : R_X10_follow V q M Q := by
  apply of_X10_follow
  unfold wp_X10_follow
  refine m_holeAt hZ hm hq ?_
  unfold wp_X10_follow_8
  refine ⟨fun y2 y3 N => ∃ n : Nat, y2 = n ∧ N = M ∧ y3 = (if hol Z n then (nh Z n : Int) else -6) ∧ nOK Z n ∧ (∀ τ, KP Z (pM M) τ → tv Z τ q = tv Z τ n) ∧ (hol Z q = false → n = q) ∧ (n = q ∨ ∃ h, h < 16 ∧ pM M h = n), fun _ y3 _ => if 0 ≤ y3 ∧ 0 ≤ pM M y3.toNat then ρ y3.toNat + 1 else 0, ⟨q, rfl, rfl, rfl, hq, fun _ _ => rfl, fun _ => rfl, Or.inl rfl⟩, ?_⟩
  rintro y2 y3 N ⟨n, rfl, rfl, rfl, hn, ht, hs, hw⟩
  unfold wp_X10_follow_8_b
  cases hh : hol Z n with
  | false =>
    simp only [Bool.false_eq_true, if_false]
    exact ⟨fun _ => h n ⟨hn, (fun z => by rw [hh] at z; cases z), ht, hs, hw⟩, fun z => by omega⟩
  | true =>
    simp only [if_true]
    obtain ⟨-, -, h16⟩ := tv_hole (τ := fun v => [(v, 0)]) hZ hn hh
    refine ⟨fun z => by omega, fun _ => ⟨by omega, fun g => ?_, fun g => ⟨by omega, fun v3 hv => ?_⟩⟩⟩
    · exact h n ⟨hn, fun _ => g, ht, hs, hw⟩
    · have hb : 0 ≤ pM N (nh Z n) := by unfold pM; omega
      obtain ⟨a1, a2, a3⟩ := hA _ h16 hb
      have ev : v3 = ((pM N (nh Z n)).toNat : Int) := by rw [hv]; unfold pM at hb ⊢; omega
      rw [ev]
      refine m_holeAt hZ hm a1 ?_
      refine ⟨⟨(pM N (nh Z n)).toNat, rfl, rfl, rfl, a1, fun τ hk => ?_, fun z => ?_, Or.inr ⟨nh Z n, h16, by omega⟩⟩, ?_⟩
      · rw [ht τ hk, (tv_hole hZ hn hh).1]
        exact hk _ h16 hb
      · rw [hs z, z] at hh; cases hh
      · rw [Int.toNat_natCast, if_pos (show 0 ≤ ((nh Z n : Nat) : Int) ∧ 0 ≤ pM N (nh Z n) from ⟨by omega, hb⟩)]
        cases h2 : hol Z (pM N (nh Z n)).toNat with
        | true =>
          simp only [if_true, Int.toNat_natCast]
          split
          · rename_i z
            have := a3 _ (tv_hole (τ := fun v => [(v, 0)]) hZ a1 h2).2.2 (occ_hole hZ a1 h2) z.2
            omega
          · omega
        | false =>
          simp only [Bool.false_eq_true, if_false]
          rw [if_neg (fun z => by omega)]; omega
end FOLLOW
