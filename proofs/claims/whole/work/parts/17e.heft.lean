/-! the class's joining in memory: how many nodes kin have -/
/-- the sum of what the first j parts of node x have -/
def hsum (Z : T4) (k : Nat → Nat) (M : Mem) (x j : Nat) : Nat := jS (fun j => (M 136 (k (tm Z (nch Z x j)) : Nat)).toNat) j
section HEFT
variable {V : VV} {M : Mem} {Q : Int → Mem → Prop} {Z : T4} {k : Nat → Nat} {s : Nat → Int} {w : List (Nat × Nat)}
theorem hsum_le {x : Nat} (hb : ∀ c : Nat, c < 48 → 0 ≤ M 136 c ∧ M 136 c ≤ 1000) (hk : ∀ j, j < nar Z x → k (tm Z (nch Z x j)) < 48) : ∀ j, j ≤ nar Z x → hsum Z k M x j ≤ 1000 * j
  | 0, _ => by simp [hsum, jS]
  | j + 1, h => by
    have ih := hsum_le hb hk j (by omega)
    unfold hsum at ih ⊢
    unfold jS
    have := hb _ (hk j (by omega))
    omega
theorem x_heftBy {x : Nat} (hZ : Z4 Z) (hm : JM Z M k s w) (hx : x < 32) (hp : Pr Z x ∨ nar Z x = 0) (hk : ∀ c, Tm Z c → k c < 48) (hb : ∀ c : Nat, c < 48 → 0 ≤ M 136 c ∧ M 136 c ≤ 1000)
    (h0 : ∀ j, j < nar Z x → M 136 (k (tm Z (nch Z x j)) : Nat) = 0 → Q 0 M) (h1 : (∀ j, j < nar Z x → 0 < M 136 (k (tm Z (nch Z x j)) : Nat)) → Q (imin (1 + hsum Z k M x (nar Z x) : Nat) 1000) M) : R_X1_heftBy V x M Q := by
  have hk' : ∀ j, j < nar Z x → Pr Z x ∧ nOK Z (nch Z x j) ∧ nch Z x j < 32 ∧ Tm Z (tm Z (nch Z x j)) ∧ k (tm Z (nch Z x j)) < 48 := fun j hj => by
    rcases hp with g | g
    · obtain ⟨c1, c2⟩ := pr_ch hZ g hj
      obtain ⟨t1, -⟩ := tm_ok hZ c1 c2
      exact ⟨g, c1, c2, t1, hk _ t1⟩
    · omega
  have hsl := hsum_le (Z := Z) (k := k) (M := M) (x := x) hb (fun j hj => (hk' j hj).2.2.2.2)
  have har : nar Z x ≤ 31 := by
    rcases Nat.eq_zero_or_pos (nar Z x) with g | g
    · omega
    · obtain ⟨pr, -⟩ := hk' 0 g
      have : nar Z x ≤ sz (nt Z x) (x % 16) := by
        have h1 := chd_end pr.2.1.2
        have hmono : ∀ j, j ≤ nar Z x → x % 16 + 1 + j ≤ chd (nt Z x) (x % 16) j := by
          intro j
          induction j with
          | zero => intro _; rw [chd_zero]; omega
          | succ j ih =>
            intro hj
            have := chd_slt (pr.2.1.ok hZ) pr.2.1.2 (show j < ar (nt Z x) (x % 16) from hj)
            have := ih (by omega)
            omega
        have := hmono _ (Nat.le_refl _)
        have h1' : chd (nt Z x) (x % 16) (nar Z x) = x % 16 + sz (nt Z x) (x % 16) := h1
        omega
      have := sz_end pr.2.1.2
      have := (hZ.wd x).1.1
      omega
  apply of_X1_heftBy
  unfold wp_X1_heftBy
  refine ⟨fun z => by omega, fun _ => ⟨fun _ => ?_, fun z => by omega⟩⟩
  unfold wp_X1_heftBy_21
  refine ⟨fun a b c => ∃ j : Nat, c = j ∧ j ≤ nar Z x ∧ a = ((1 + hsum Z k M x j : Nat) : Int) ∧ b = (nch Z x j : Nat) ∧ ∀ j', j' < j → 0 < M 136 (k (tm Z (nch Z x j')) : Nat), fun _ _ c => (nar Z x + 1 - c).toNat, ⟨0, rfl, by omega, by simp [hsum, jS], by rw [w32_id (by omega) (by omega), nch_zero]; omega, fun j' hj' => by omega⟩, ?_⟩
  rintro a b c ⟨j, rfl, hj, rfl, rfl, hpos⟩
  unfold wp_X1_heftBy_21_b wp_X1_heftBy_83
  rw [(hm.1 x hx).2.1]
  refine ⟨by omega, fun g => ?_, fun g => ⟨fun g2 => ?_, fun g2 => ?_⟩⟩
  · have : j = nar Z x := by omega
    subst this
    exact h1 hpos
  · have := (hk' j (by omega)).2.2.1
    omega
  · obtain ⟨pr, c1, c2, c3, c4⟩ := hk' j (by omega)
    have nx := nch_succ hZ pr.2.1 (show j < nar Z x by omega)
    have bx := nch_le hZ (j + 1) pr
    have l3 := c3.lt
    obtain ⟨-, -, e3, e4⟩ := hm.1 _ c2
    rw [e4, (hm.2.1 _ l3).1, e3 c1]
    refine ⟨by omega, by omega, by omega, ?_⟩
    intro v hv
    refine ⟨fun z => h0 j (by omega) (by omega), fun z => ⟨by omega, ?_⟩⟩
    intro v2 hv2
    rw [w32_id (by omega) (by omega)] at hv2
    have hs := hsl j hj
    have hbj := hb _ c4
    have e1 : w32 (((1 + hsum Z k M x j : Nat) : Int) + v) = ((1 + hsum Z k M x (j + 1) : Nat) : Int) := by
      rw [w32_id (by omega) (by omega)]
      have : hsum Z k M x (j + 1) = hsum Z k M x j + (M 136 (k (tm Z (nch Z x j)) : Nat)).toNat := rfl
      omega
    have e2 : w32 ((j : Int) + 1) = ((j + 1 : Nat) : Int) := by rw [w32_id (by omega) (by omega)]; omega
    rw [e1, e2]
    clear e1 e2
    refine ⟨⟨j + 1, rfl, by omega, rfl, by omega, fun j' hj' => ?_⟩, by (try dsimp only); omega⟩
    by_cases e : j' = j
    · rw [e]; omega
    · exact hpos j' (by omega)
end HEFT
