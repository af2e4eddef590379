/-! the memory with which a run begins, and the forms of its cells -/
theorem M0_z {k : Int} (h : k ≠ 0 ∧ k ≠ 13 ∧ k ≠ 203 ∧ k ≠ 208) (j : Int) : M0 k j = 0 := by
  unfold M0
  simp [h.1, h.2.1, h.2.2.1, h.2.2.2]
theorem M0_arr {k : Int} (h : k = 13 ∨ k = 208) {j : Int} (hj : 3 ≤ j) : M0 k j = 0 := by
  unfold M0
  have h0 : j ≠ 0 := by omega
  have h1 : j ≠ 1 := by omega
  have h2 : j ≠ 2 := by omega
  rcases h with rfl | rfl <;> simp [h0, h1, h2]
theorem cellZ_i (V : VV) {k n : Nat} (hk : kd k = 100 + n) (hn : n < 9900) (h : (k : Int) ≠ 0 ∧ (k : Int) ≠ 13 ∧ (k : Int) ≠ 203 ∧ (k : Int) ≠ 208) : cellE V M0 k = .inl (V.2.2.1, n, .inl (fun _ => 0)) := by
  rw [cellE_ia hk hn]
  congr 4
  funext j
  rw [M0_z h]; rfl
theorem cellZ_l (V : VV) {k n : Nat} (hk : kd k = 10000 + n) (hn : n < 9900) (h : (k : Int) ≠ 0 ∧ (k : Int) ≠ 13 ∧ (k : Int) ≠ 203 ∧ (k : Int) ≠ 208) : cellE V M0 k = .inl (V.2.2.2.1, n, .inr (.inl (fun _ => 0))) := by
  rw [cellE_la hk (by omega)]
  congr 5
  funext j
  rw [M0_z h]; rfl
def treeE (V : VV) (k i : Nat) : va_E := if i = 0 then .inr (7, [.int 0, .ref (V.2.2.2.2.2 + (k + 1)), .ref (V.2.2.2.2.2 + (k + 2)), .ref (V.2.2.2.2.2 + (k + 3)), .ref (V.2.2.2.2.2 + (k + 4)), .ref (V.2.2.2.2.2 + (k + 5)), .ref (V.2.2.2.2.2 + (k + 6))]) else .inl (V.2.2.1, 16, .inl (fun _ => 0))
theorem tree_kd : ∀ k ∈ treeL, 0 ≤ k ∧ kd k.toNat = 17 ∧ (k ≠ 0 ∧ k ≠ 13 ∧ k ≠ 203 ∧ k ≠ 208) ∧ (∀ i, i < 6 → kd (k.toNat + (i + 1)) = 116) ∧ ∀ i : Nat, i < 6 → (k + (i + 1) ≠ 0 ∧ k + (i + 1) ≠ 13 ∧ k + (i + 1) ≠ 203 ∧ k + (i + 1) ≠ 208) := by decide +kernel
theorem tree_fin (V : VV) {k : Nat} (hk : (k : Int) ∈ treeL) (i : Nat) (hi : i < 7) : cellE V M0 (k + i) = treeE V k i := by
  obtain ⟨h0, h1, h2, h3, h4⟩ := tree_kd k hk
  simp only [Int.toNat_natCast] at h1 h3
  unfold treeE
  by_cases h : i = 0
  · subst h
    rw [if_pos rfl, Nat.add_zero]
    unfold cellE
    rw [if_pos (by omega), h1]
    have e1 : ∀ j : Nat, cv V.2.2.2.2.2 (116, (k : Int) + (j + 1)) = .ref (V.2.2.2.2.2 + (k + (j + 1))) := fun j => by
      rw [cv_ref (t := 113) (by omega)]
      congr 1
    show (Sum.inr (7, [cv _ (0, M0 k 0), cv _ (116, (k : Int) + ((0 : Nat) + 1)), cv _ (116, (k : Int) + ((1 : Nat) + 1)), cv _ (116, (k : Int) + ((2 : Nat) + 1)), cv _ (116, (k : Int) + ((3 : Nat) + 1)), cv _ (116, (k : Int) + ((4 : Nat) + 1)), cv _ (116, (k : Int) + ((5 : Nat) + 1))]) : va_E) = _
    rw [e1, e1, e1, e1, e1, e1, M0_z h2]
    rfl
  · rw [if_neg h]
    obtain ⟨j, rfl⟩ : ∃ j, i = j + 1 := ⟨i - 1, by omega⟩
    have h5 := h4 j (by omega)
    exact cellZ_i V (h3 j (by omega)) (by decide) (by
      have e : ((k + (j + 1) : Nat) : Int) = k + (j + 1) := by omega
      rw [e]; exact h5)
