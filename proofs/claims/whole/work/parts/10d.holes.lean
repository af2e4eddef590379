/-! holes as bits; told, twice -/
def hbN (t : T) : Nat := t.foldl (fun b p => if isH p.1 then b ||| 2 ^ (p.1 - 65).toNat else b) 0
def pc8 (b : Nat) : Nat := ((List.range 8).filter (fun k => b.testBit k)).length
theorem or8 : ∀ b : Nat, b < 256 → ∀ k : Nat, k < 8 → or32 b (shl32 1 k) = ((b ||| 2 ^ k : Nat) : Int) ∧ b ||| 2 ^ k < 256 := by decide +kernel
def bcF (x : Int) : Int :=
  let v1 := w32 (x - and32 (ushr32 x 1) 1431655765)
  let v2 := w32 (and32 v1 858993459 + and32 (ushr32 v1 2) 858993459)
  let v3 := and32 (w32 (v2 + ushr32 v2 4)) 252645135
  let v4 := w32 (v3 + ushr32 v3 8)
  let v5 := w32 (v4 + ushr32 v4 16)
  and32 v5 63
theorem bc8 : ∀ b : Nat, b < 256 → bcF b = (pc8 b : Int) := by decide +kernel
theorem take_succ' {t : T} {k : Nat} (hk : k < t.length) : t.take (k + 1) = t.take k ++ [(lb t k, ar t k)] := by
  have e : (lb t k, ar t k) = t[k] := by simp [lb, ar, List.getD_eq_getElem?_getD, List.getElem?_eq_getElem hk]
  rw [List.take_succ, List.getElem?_eq_getElem hk, e]; rfl
theorem hbN_app (t : T) (p : Int × Nat) : hbN (t ++ [p]) = if isH p.1 then hbN t ||| 2 ^ (p.1 - 65).toNat else hbN t := by
  unfold hbN; rw [List.foldl_append]; rfl
theorem isH_iff {c : Int} : isH c = true ↔ 65 ≤ c ∧ c ≤ 72 := by simp [isH]
/-- a list of nodes from its end -/
theorem list_snoc {P : T → Prop} (h0 : P []) (h1 : ∀ t p, P t → P (t ++ [p])) : ∀ t, P t := by
  intro t
  have : ∀ n (t : T), t.length = n → P t := by
    intro n
    induction n with
    | zero => intro t ht; rw [List.length_eq_zero_iff.mp ht]; exact h0
    | succ n ih =>
      intro t ht
      have hne : t ≠ [] := fun e => by rw [e] at ht; simp at ht
      rw [← List.dropLast_concat_getLast hne]
      exact h1 _ _ (ih _ (by simp; omega))
  exact this _ t rfl
theorem hbN_lt : ∀ t : T, hbN t < 256 := by
  apply list_snoc
  · decide
  · intro t p ih
    rw [hbN_app]
    split
    · rename_i hp
      rw [isH_iff] at hp
      exact (or8 _ ih _ (by omega)).2
    · exact ih
theorem hbN_bit : ∀ (t : T) (k : Nat), k < 8 → (hbN t).testBit k = holeIn t (65 + k) := by
  apply list_snoc (P := fun t => ∀ k : Nat, k < 8 → (hbN t).testBit k = holeIn t (65 + k))
  · intro k hk; simp [hbN, holeIn]
  · intro t p ih k hk
    rw [hbN_app]
    have e : holeIn (t ++ [p]) (65 + k) = (holeIn t (65 + k) || p.1 == 65 + k) := by simp [holeIn]
    rw [e, ← ih k hk]
    split
    · rename_i hp
      rw [isH_iff] at hp
      rw [Nat.testBit_or, Nat.testBit_two_pow]
      congr 1
      by_cases h : p.1 = 65 + k
      · have : (p.1 - 65).toNat = k := by omega
        rw [this]; simp [h]
      · have : (p.1 - 65).toNat ≠ k := by omega
        simp [this, h]
    · rename_i hp
      have : ¬ (p.1 = 65 + k) := fun q => hp (isH_iff.mpr (by omega))
      simp [this]
theorem and_not8 {a b : Nat} (ha : a < 256) (hb : b < 256) : and32 a (xor32 b (-1)) = 0 ↔ ∀ k, k < 8 → a.testBit k = true → b.testBit k = true := by
  have h1 : ∀ n : Nat, n < 256 → (i32 (n : Int)).toBitVec = BitVec.ofNat 32 n := by
    intro n hn
    show BitVec.ofInt 32 (n : Int) = _
    exact BitVec.ofInt_natCast 32 n
  have e : (i32 (xor32 b (-1))) = i32 b ^^^ i32 (-1) := by unfold xor32; rw [i32_ti]
  unfold and32
  rw [e, show (0 : Int) = (0 : Int32).toInt from rfl, Int32.toInt_inj, ← Int32.toBitVec_inj]
  have e2 : (i32 (-1)).toBitVec = BitVec.allOnes 32 := by decide
  rw [Int32.toBitVec_and, Int32.toBitVec_xor, h1 a ha, h1 b hb, e2]
  have e3 : ∀ k, k < 32 → ((BitVec.ofNat 32 a) &&& (BitVec.ofNat 32 b ^^^ BitVec.allOnes 32)).getLsbD k = (a.testBit k && !b.testBit k) := by
    intro k hk
    rw [BitVec.getLsbD_and, BitVec.getLsbD_xor, BitVec.getLsbD_ofNat, BitVec.getLsbD_ofNat, BitVec.getLsbD_allOnes]
    simp only [hk, decide_true, Bool.true_and, Bool.xor_true]
  have e4 : (0 : Int32).toBitVec = 0#32 := rfl
  rw [e4]
  constructor
  · intro h k hk hak
    have h5 := e3 k (by omega)
    rw [h, BitVec.getLsbD_zero, hak] at h5
    simpa using h5
  · intro h
    apply BitVec.eq_of_getLsbD_eq
    intro k hk
    rw [e3 k hk, BitVec.getLsbD_zero]
    by_cases hk8 : k < 8
    · cases ha' : a.testBit k with
      | false => rfl
      | true => rw [h k hk8 ha']; rfl
    · have : a.testBit k = false := Nat.testBit_lt_two_pow (Nat.lt_of_lt_of_le ha (by
        have : (2 : Nat) ^ 8 ≤ 2 ^ k := Nat.pow_le_pow_right (by omega) (by omega)
        omega))
      rw [this]; rfl
theorem pc8_zero (b : Nat) (h : pc8 b = 0) : ∀ k, k < 8 → b.testBit k = false := by
  unfold pc8 at h
  rw [List.length_eq_zero_iff, List.filter_eq_nil_iff] at h
  intro k hk
  simpa using h k (by simpa using hk)
theorem plain_iff (t : T) : plain t = true ↔ pc8 (hbN t) = 0 := by
  constructor
  · intro h
    unfold pc8
    rw [List.length_eq_zero_iff, List.filter_eq_nil_iff]
    intro k hk
    simp at hk
    rw [hbN_bit t k hk]
    simp [holeIn]
    intro a hab
    unfold plain at h
    rw [List.all_eq_true] at h
    have := h _ hab
    simp [isH] at this
    omega
  · intro h
    unfold plain
    rw [List.all_eq_true]
    intro p hp
    simp
    cases hh : isH p.1 with
    | false => rfl
    | true =>
      exfalso
      rw [isH_iff] at hh
      have h1 := pc8_zero _ h (p.1 - 65).toNat (by omega)
      rw [hbN_bit t _ (by omega)] at h1
      have h2 : holeIn t (65 + (((p.1 - 65).toNat : Nat) : Int)) = true := by
        unfold holeIn
        rw [List.any_eq_true]
        exact ⟨p, hp, by simp; omega⟩
      rw [h2] at h1; cases h1
section OPS4
variable {V : VV} {M : Mem} {Q : Int → Mem → Prop}
theorem x_isHole {c : Int} (h : Q (if 65 ≤ c ∧ c ≤ 72 then 1 else 0) M) : R_X9_isHole V c M Q := by
  apply of_X9_isHole
  unfold wp_X9_isHole
  refine ⟨fun c => ?_, fun c => ⟨fun d => ?_, fun d => ?_⟩⟩
  · rwa [if_neg (by omega)] at h
  · rwa [if_neg (by omega)] at h
  · rwa [if_pos (by omega)] at h
theorem x_holeBits {k : Int} {t : T} (hc : Cu M k t) (h16 : t.length ≤ 16) (h : Q (hbN t) M) : R_X7_holeBits V k M Q := by
  have h0 := hc.1
  apply of_X7_holeBits
  unfold wp_X7_holeBits wp_X7_holeBits_4
  refine ⟨fun b j N => N = M ∧ ∃ n : Nat, j = n ∧ n ≤ t.length ∧ b = hbN (t.take n), fun _ j _ => (17 - j).toNat, ⟨rfl, 0, rfl, by omega, by simp [hbN]⟩, ?_⟩
  rintro b j N ⟨rfl, n, rfl, hn, rfl⟩
  unfold wp_X7_holeBits_4_b
  refine ⟨fun c => ?_, fun c => ⟨by omega, ?_⟩⟩
  · have : n = t.length := by omega
    subst this
    rw [List.take_length]; exact h
  · have hnt : n < t.length := by omega
    have hg := (hc.2 n hnt).1
    rw [hg]
    have hlt := hbN_lt (t.take n)
    apply x_isHole
    rw [w32_id (x := (n : Int) + 1) (by omega) (by omega)]
    by_cases hh : 65 ≤ lb t n ∧ lb t n ≤ 72
    · rw [if_pos hh]
      refine ⟨fun c => by omega, fun _ => ⟨by omega, ?_⟩⟩
      intro v3 hv3
      obtain ⟨q, hq⟩ : ∃ q : Nat, lb t n = 65 + q := ⟨(lb t n - 65).toNat, by omega⟩
      rw [hg, w32_id (by omega) (by omega), show lb t n - 65 = (q : Int) by omega, (or8 _ hlt q (by omega)).1] at hv3
      refine ⟨⟨rfl, n + 1, by omega, by omega, ?_⟩, by (try dsimp only); omega⟩
      rw [take_succ' hnt, hbN_app, if_pos (isH_iff.mpr hh), hv3]
      simp only
      rw [show (lb t n - 65).toNat = q by omega]
    · rw [if_neg hh]
      refine ⟨fun _ => ⟨⟨rfl, n + 1, by omega, by omega, ?_⟩, by (try dsimp only); omega⟩, fun c => by omega⟩
      rw [take_succ' hnt, hbN_app, if_neg (fun q => hh (isH_iff.mp q))]
theorem x_holeCount {k : Int} {t : T} (hc : Cu M k t) (h16 : t.length ≤ 16) (h : Q (pc8 (hbN t)) M) : R_X7_holeCount V k M Q := by
  apply of_X7_holeCount
  unfold wp_X7_holeCount
  refine x_holeBits hc h16 ?_
  apply of_J6_bitCount_0f7a4
  unfold wp_J6_bitCount_0f7a4
  intro v1 h1 v2 h2 v3 h3 v4 h4 v5 h5
  have e := bc8 (hbN t) (hbN_lt t)
  have e2 : bcF (hbN t) = and32 v5 63 := by rw [h5, h4, h3, h2, h1]; rfl
  rw [← e2, e]; exact h
theorem op_told {w : Int} (hw : ir w) (hR : Rel M) : R_X9_told V w M (fun r1 M1 => R_X10_told V w M1 (fun r2 M2 => r1 = r2 ∧ Rel M2)) := by
  obtain ⟨σ, hI, hC, hM⟩ := hR
  have w1 := hw.1
  have w2 := hw.2
  have mdl : ∀ r : Int, (w = 0 → r = σ.pad.length) → (w = 1 → r = σ.nr) → (∀ t, 0 ≤ t → t ≤ 5 → w = 10 + t → r = (σ.tr t).length) → (∀ t, 0 ≤ t → t ≤ 5 → w = 20 + t → r = pc8 (hbN (σ.tr t))) → (w ≠ 0 → w ≠ 1 → ¬ (10 ≤ w ∧ w ≤ 15) → ¬ (20 ≤ w ∧ w ≤ 25) → r = -2) → R_X10_told V w M (fun r2 M2 => r = r2 ∧ Rel M2) := by
    intro r a0 a1 a2 a3 a4
    apply of_X10_told
    unfold wp_X10_told
    apply m_in
    by_cases h1 : 10 ≤ w ∧ w ≤ 15
    · rw [if_pos h1]
      refine ⟨fun c => by omega, fun _ => ?_⟩
      rw [w32_id (by omega) (by omega)]
      refine ⟨by omega, ?_, σ, hI, hC, hM⟩
      rw [(hM.2.2.1 (w - 10) (by omega) (by omega)).1]
      exact a2 (w - 10) (by omega) (by omega) (by omega)
    · rw [if_neg h1]
      refine ⟨fun _ => ?_, fun c => by omega⟩
      apply m_in
      by_cases h2 : 20 ≤ w ∧ w ≤ 25
      · rw [if_pos h2]
        refine ⟨fun c => by omega, fun _ => ?_⟩
        obtain ⟨t, rfl⟩ : ∃ t, w = 20 + t := ⟨w - 20, by omega⟩
        have hr := a3 t (by omega) (by omega) rfl
        have hm := hM.2.2.1 t (by omega) (by omega)
        have hwt := (hI.2.2.1 t (by omega) (by omega)).1
        unfold wp_X10_told_37
        refine ⟨fun n c N => N = M ∧ ∃ k : Nat, c = 65 + k ∧ k ≤ 8 ∧ n = (((List.range k).filter (fun q => (hbN (σ.tr t)).testBit q)).length : Nat), fun _ c _ => (80 - c).toNat, ⟨rfl, 0, rfl, by omega, by simp⟩, ?_⟩
        rintro n c N ⟨rfl, k, rfl, hk, rfl⟩
        unfold wp_X10_told_37_b wp_X10_told_61
        have hl : ((List.range k).filter (fun q => (hbN (σ.tr t)).testBit q)).length ≤ k := by
          have := List.length_filter_le (fun q => (hbN (σ.tr t)).testBit q) (List.range k)
          simpa using this
        refine ⟨fun c => ⟨?_, σ, hI, hC, hM⟩, fun c => ?_⟩
        · have : k = 8 := by omega
          subst this; exact hr
        · rw [show w32 (20 + t - 20) = t by rw [w32_id (by omega) (by omega)]; omega]
          refine m_hasLabel (by omega) hm hwt ?_
          have hb := hbN_bit (σ.tr t) k (by omega)
          unfold holeIn at hb
          rw [← hb, w32_id (x := 65 + (k : Int) + 1) (by omega) (by omega), w32_id (by omega) (by omega), w32_id (by omega) (by omega)]
          refine ⟨fun g => ⟨⟨rfl, k + 1, by omega, by omega, ?_⟩, by (try dsimp only); omega⟩, fun g => ⟨⟨rfl, k + 1, by omega, by omega, ?_⟩, by (try dsimp only); omega⟩⟩
          · rw [List.range_succ, List.filter_append]
            cases hq : (hbN (σ.tr t)).testBit k with
            | true => rw [hq] at g; simp at g
            | false => simp [hq]
          · rw [List.range_succ, List.filter_append]
            cases hq : (hbN (σ.tr t)).testBit k with
            | false => rw [hq] at g; simp at g
            | true => simp [hq]
      · rw [if_neg h2]
        refine ⟨fun _ => ⟨fun g => ⟨?_, σ, hI, hC, hM⟩, fun g => ⟨fun g' => ⟨?_, σ, hI, hC, hM⟩, fun g' => ⟨?_, σ, hI, hC, hM⟩⟩⟩, fun c => by omega⟩
        · rw [hM.1]; exact a0 g
        · rw [hM.2.2.2.1]; exact a1 g'
        · exact a4 g g' h1 h2
  apply of_X9_told
  unfold wp_X9_told
  refine ⟨fun c => mdl _ (fun _ => hC.1) (fun _ => by omega) (fun _ _ _ _ => by omega) (fun _ _ _ _ => by omega) (fun _ _ _ _ => by omega), fun c => ⟨fun d => mdl _ (fun _ => by omega) (fun _ => hC.2.2.2.1) (fun _ _ _ _ => by omega) (fun _ _ _ _ => by omega) (fun _ _ _ _ => by omega), fun d => ?_⟩⟩
  have key : ∀ c : Int, 0 ≤ c → c ≤ 20 → (0 ≤ w32 (w - c) ∧ w32 (w - c) ≤ 5 ↔ c ≤ w ∧ w ≤ c + 5) := by
    intro c hc hc2
    unfold w32
    rw [Int.bmod_def]
    split <;> omega
  apply x_treeAt
  by_cases h1 : 10 ≤ w ∧ w ≤ 15
  · rw [if_pos ((key 10 (by omega) (by omega)).mpr h1), w32_id (by omega) (by omega)]
    refine ⟨fun c => by omega, fun _ => mdl _ (fun _ => by omega) (fun _ => by omega) (fun t a b e => ?_) (fun _ _ _ _ => by omega) (fun _ _ _ _ => by omega)⟩
    have : t = w - 10 := by omega
    rw [this]
    exact (hC.2.2.1 (w - 10) (by omega) (by omega)).1.1
  · rw [if_neg (fun g => h1 ((key 10 (by omega) (by omega)).mp g))]
    refine ⟨fun _ => ?_, fun c => by omega⟩
    apply x_treeAt
    by_cases h2 : 20 ≤ w ∧ w ≤ 25
    · rw [if_pos ((key 20 (by omega) (by omega)).mpr h2), w32_id (by omega) (by omega)]
      refine ⟨fun c => by omega, fun _ => ?_⟩
      refine x_holeCount (hC.2.2.1 (w - 20) (by omega) (by omega)).1 (hI.2.2.1 (w - 20) (by omega) (by omega)).1.1 ?_
      refine mdl _ (fun _ => by omega) (fun _ => by omega) (fun _ _ _ _ => by omega) (fun t a b e => ?_) (fun _ _ _ _ => by omega)
      have : t = w - 20 := by omega
      rw [this]
    · rw [if_neg (fun g => h2 ((key 20 (by omega) (by omega)).mp g))]
      exact ⟨fun _ => mdl _ (fun _ => by omega) (fun _ => by omega) (fun _ _ _ _ => by omega) (fun _ _ _ _ => by omega) (fun _ _ _ _ => rfl), fun c => by omega⟩
end OPS4
