/-! the class's joining in memory: what is laid down -/
def LdR (M : Mem) (b hb : Nat) (t : T) (j : Nat) : Prop := M 130 ((b + j : Nat) : Int) = lb t j ∧ M 131 ((b + j : Nat) : Int) = ar t j ∧ (j < t.length → M 132 ((b + j : Nat) : Int) = sz t j) ∧ M 133 ((b + j : Nat) : Int) = if isH (lb t j) then hb + (lb t j - 65) else ((b + j : Nat) : Int)
section LOAD
variable {V : VV} {M : Mem} {Q : Int → Mem → Prop}
theorem x_load {x : Int} {b hb : Nat} {t : T} (hx : x ≤ 116) (hb1 : b + 16 ≤ 32) (hb2 : hb ≤ 40) (ht : Ct M x t) (wt : Wd t) (h : ∀ M' : Mem, (∀ c j : Int, c < 130 ∨ 133 < c ∨ j < b ∨ b + 16 ≤ j → M' c j = M c j) → (∀ j, j < 16 → LdR M' b hb t j) → Q 0 M') : R_X1_load V x b hb M Q := by
  have t16 := wt.1.1
  apply of_X1_load
  unfold wp_X1_load wp_X1_load_3
  refine ⟨fun y N => ∃ n : Nat, y = n ∧ n ≤ 16 ∧ (∀ c j : Int, c < 130 ∨ 133 < c ∨ j < b ∨ b + 16 ≤ j → N c j = M c j) ∧ ∀ j, j < n → LdR N b hb t j, fun y _ => (17 - y).toNat, ⟨0, rfl, by omega, fun _ _ _ => rfl, fun j hj => by omega⟩, ?_⟩
  rintro y N ⟨n, rfl, hn, hF, hN⟩
  unfold wp_X1_load_3_b
  refine ⟨fun d => h N hF (fun j hj => hN j (by omega)), fun d => ?_⟩
  have hn' : n < 16 := by omega
  have eb : w32 ((b : Int) + n) = ((b + n : Nat) : Int) := by rw [w32_id (by omega) (by omega)]; omega
  have e1 : w32 ((n : Int) + 1) = n + 1 := w32_id (by omega) (by omega)
  have fin : ∀ N' : Mem, (∀ c j : Int, c < 130 ∨ 133 < c ∨ j ≠ ((b + n : Nat) : Int) → N' c j = N c j) → LdR N' b hb t n → (∃ m : Nat, (n : Int) + 1 = m ∧ m ≤ 16 ∧ (∀ c j : Int, c < 130 ∨ 133 < c ∨ j < b ∨ b + 16 ≤ j → N' c j = M c j) ∧ ∀ j, j < m → LdR N' b hb t j) ∧ (17 - ((n : Int) + 1)).toNat < (17 - (n : Int)).toNat := by
    intro N' hf hr
    refine ⟨⟨n + 1, by omega, by omega, fun c j hc => by rw [hf c j (by omega)]; exact hF c j hc, fun j hj => ?_⟩, by omega⟩
    by_cases e : j = n
    · rw [e]; exact hr
    · have := hN j (by omega)
      unfold LdR at this ⊢
      rw [hf 130 _ (by omega), hf 131 _ (by omega), hf 132 _ (by omega), hf 133 _ (by omega)]
      exact this
  have ct : Ct N x t := ht.fr (fun c j _ _ => hF c j (by omega))
  rw [ct.1.1]
  unfold wp_X1_load_24 wp_X1_load_50 wp_X1_load_75 wp_X1_load_100 wp_X1_load_123 wp_X1_load_124
  rw [eb, e1]
  clear eb e1
  have bn : (0 : Int) ≤ ((b + n : Nat) : Int) ∧ ((b + n : Nat) : Int) < 32 := by omega
  refine ⟨fun g => ⟨fun _ => ⟨bn, fun _ => ⟨bn, fun _ => ⟨bn, fun _ => ⟨fun _ => ⟨bn, ?_⟩, fun z => absurd rfl z⟩, fun z => absurd rfl z⟩, fun z => absurd rfl z⟩, fun z => absurd rfl z⟩, fun z => absurd rfl z⟩, fun g => ⟨fun z => by omega, fun _ => ?_⟩⟩
  · have hl : t.length ≤ n := by omega
    have l0 : lb t n = 0 := by simp [lb, List.getElem?_eq_none hl]
    have a0 : ar t n = 0 := by simp [ar, List.getElem?_eq_none hl]
    refine fin _ (fun c j hc => ?_) ?_
    · unfold mset
      rw [if_neg (by omega), if_neg (by omega), if_neg (by omega), if_neg (by omega)]
    · unfold LdR
      rw [l0, a0]
      refine ⟨by simp [mset], by simp [mset], fun z => by omega, ?_⟩
      rw [if_neg (by simp [isH]), mset_same]
  · have hl : n < t.length := by omega
    obtain ⟨c1, c2⟩ := ct.1.2 n hl
    obtain ⟨c3, -, -, -⟩ := ct.2 n hl
    refine ⟨by omega, bn, fun z => by omega, fun _ => ?_⟩
    rw [c1]
    intro N1 h1
    have n1 : ∀ c j : Int, c ≠ 130 → N1 c j = N c j := fun c j hc => by rw [h1]; exact mset_cell _ hc _ _ _
    rw [n1 (x + 2) _ (by omega), c2]
    refine ⟨by omega, bn, fun z => by omega, fun _ => ?_⟩
    intro N2 h2
    have n2 : ∀ c j : Int, c ≠ 131 → N2 c j = N1 c j := fun c j hc => by rw [h2]; exact mset_cell _ hc _ _ _
    rw [n2 (x + 3) _ (by omega), n1 (x + 3) _ (by omega), c3]
    refine ⟨by omega, bn, fun z => by omega, fun _ => ?_⟩
    intro N3 h3
    have n3 : ∀ c j : Int, c ≠ 132 → N3 c j = N2 c j := fun c j hc => by rw [h3]; exact mset_cell _ hc _ _ _
    rw [n3 (x + 1) _ (by omega), n2 (x + 1) _ (by omega), n1 (x + 1) _ (by omega), c1]
    refine ⟨by omega, ?_⟩
    apply x_isHole
    have last : ∀ v : Int, (v = if isH (lb t n) then hb + (lb t n - 65) else ((b + n : Nat) : Int)) → (∃ m : Nat, (n : Int) + 1 = m ∧ m ≤ 16 ∧ (∀ c j : Int, c < 130 ∨ 133 < c ∨ j < b ∨ b + 16 ≤ j → mset N3 133 ((b + n : Nat) : Int) v c j = M c j) ∧ ∀ j, j < m → LdR (mset N3 133 ((b + n : Nat) : Int) v) b hb t j) ∧ (17 - ((n : Int) + 1)).toNat < (17 - (n : Int)).toNat := by
      intro v hv
      refine fin _ (fun c j hc => ?_) ?_
      · rw [h3, h2, h1]
        unfold mset
        rw [if_neg (by omega), if_neg (by omega), if_neg (by omega), if_neg (by omega)]
      · unfold LdR
        refine ⟨?_, ?_, fun _ => ?_, ?_⟩
        · rw [h3, h2, h1]; simp [mset]
        · rw [h3, h2]; simp [mset]
        · rw [h3]; simp [mset]
        · rw [mset_same]; exact hv
    by_cases hh : 65 ≤ lb t n ∧ lb t n ≤ 72
    · rw [if_pos hh]
      refine ⟨fun z => by omega, fun _ => ⟨fun z => by omega, fun _ => ⟨by omega, bn, ?_⟩⟩⟩
      rw [n3 (x + 1) _ (by omega), n2 (x + 1) _ (by omega), n1 (x + 1) _ (by omega), c1]
      refine last _ ?_
      rw [if_pos (isH_iff.mpr hh), w32_id (x := (hb : Int) + lb t n) (by omega) (by omega), w32_id (by omega) (by omega)]
      omega
    · rw [if_neg hh]
      refine ⟨fun _ => ⟨fun _ => ⟨bn, ?_⟩, fun z => absurd rfl z⟩, fun z => absurd rfl z⟩
      refine last _ ?_
      rw [if_neg (by rw [isH_iff]; exact hh)]
end LOAD
/-- both trees are laid down -/
def Ld (Z : T4) (M : Mem) : Prop := ∀ q : Nat, q < 32 → M 130 q = nlb Z q ∧ M 131 q = nar Z q ∧ (nOK Z q → M 132 q = nsz Z q) ∧ M 133 q = tm Z q
theorem Ld.of {Z : T4} {M : Mem} (hZ : Z4 Z) (h1 : ∀ j, j < 16 → LdR M 0 32 Z.1 j) (h2 : ∀ j, j < 16 → LdR M 16 40 Z.2.1 j) : Ld Z M := by
  intro q hq
  by_cases h16 : q < 16
  · obtain ⟨a1, a2, a3, a4⟩ := h1 q h16
    rw [Nat.zero_add] at a1 a2 a3 a4
    have e : nt Z q = Z.1 := by unfold nt; rw [if_pos h16]
    have em : q % 16 = q := Nat.mod_eq_of_lt h16
    have hB : isB q = false := by unfold isB; simp; omega
    refine ⟨by unfold nlb; rw [e, em]; exact a1, by unfold nar; rw [e, em]; exact a2, fun ho => by unfold nsz; rw [e, em]; exact a3 (by have := ho.2; rw [e, em] at this; exact this), ?_⟩
    rw [a4]
    unfold tm hol nh nlb
    rw [e, em, hB]
    by_cases hh : isH (lb Z.1 q) = true
    · rw [if_pos hh, if_pos hh]
      have := isH_iff.mp hh
      simp only [Bool.false_eq_true, if_false]
      omega
    · rw [if_neg hh, if_neg hh]
  · obtain ⟨a1, a2, a3, a4⟩ := h2 (q - 16) (by omega)
    rw [show 16 + (q - 16) = q by omega] at a1 a2 a3 a4
    have e : nt Z q = Z.2.1 := by unfold nt; rw [if_neg h16, if_pos hq]
    have em : q % 16 = q - 16 := by omega
    have hB : isB q = true := by unfold isB; simp; omega
    refine ⟨by unfold nlb; rw [e, em]; exact a1, by unfold nar; rw [e, em]; exact a2, fun ho => by unfold nsz; rw [e, em]; exact a3 (by have := ho.2; rw [e, em] at this; exact this), ?_⟩
    rw [a4]
    unfold tm hol nh nlb
    rw [e, em, hB]
    by_cases hh : isH (lb Z.2.1 (q - 16)) = true
    · rw [if_pos hh, if_pos hh]
      have := isH_iff.mp hh
      simp only [if_true]
      omega
    · rw [if_neg hh, if_neg hh]
theorem Ld.fr {Z : T4} {M M' : Mem} (h : Ld Z M) (hf : ∀ c j : Int, 130 ≤ c → c ≤ 133 → M' c j = M c j) : Ld Z M' := fun q hq => by
  rw [hf _ _ (by omega) (by omega), hf _ _ (by omega) (by omega), hf _ _ (by omega) (by omega), hf _ _ (by omega) (by omega)]
  exact h q hq
