/-! bits of nodes; the reference's moved pairs -/
theorem bv_nat {n : Nat} (h : n < 65536) : (i32 (n : Int)).toBitVec = BitVec.ofNat 32 n := by
  show BitVec.ofInt 32 (n : Int) = _
  exact BitVec.ofInt_natCast 32 n
theorem bv_toNat {n : Nat} (h : n < 65536) : (BitVec.ofNat 32 n).toNat = n := by
  rw [BitVec.toNat_ofNat]; exact Nat.mod_eq_of_lt (by omega)
theorem and_nat {a b : Nat} (ha : a < 65536) (hb : b < 65536) : and32 a b = ((a &&& b : Nat) : Int) := by
  have hle : a &&& b ≤ a := Nat.and_le_left
  unfold and32
  show ((i32 (a : Int) &&& i32 (b : Int)).toBitVec).toInt = _
  rw [Int32.toBitVec_and, bv_nat ha, bv_nat hb]
  have e : (BitVec.ofNat 32 a &&& BitVec.ofNat 32 b).toNat = a &&& b := by rw [BitVec.toNat_and, bv_toNat ha, bv_toNat hb]
  rw [BitVec.toInt_eq_toNat_of_lt (by rw [e]; omega), e]
theorem or_nat {a b : Nat} (ha : a < 65536) (hb : b < 65536) : or32 a b = ((a ||| b : Nat) : Int) ∧ a ||| b < 65536 := by
  have hle : a ||| b < 2 ^ 16 := Nat.or_lt_two_pow ha hb
  refine ⟨?_, hle⟩
  unfold or32
  show ((i32 (a : Int) ||| i32 (b : Int)).toBitVec).toInt = _
  rw [Int32.toBitVec_or, bv_nat ha, bv_nat hb]
  have e : (BitVec.ofNat 32 a ||| BitVec.ofNat 32 b).toNat = a ||| b := by rw [BitVec.toNat_or, bv_toNat ha, bv_toNat hb]
  rw [BitVec.toInt_eq_toNat_of_lt (by rw [e]; omega), e]
theorem shr_nat {a k : Nat} (ha : a < 65536) (hk : k < 16) : shr32 a k = ((a >>> k : Nat) : Int) ∧ a >>> k < 65536 := by
  have e : ∀ k : Nat, k < 16 → ((i32 (k : Int) &&& 31).toBitVec.smod 32).toNat = k := by decide +kernel
  have hle : a >>> k ≤ a := Nat.shiftRight_le a k
  refine ⟨?_, by omega⟩
  unfold shr32
  show ((i32 (a : Int) >>> (i32 (k : Int) &&& 31)).toBitVec).toInt = _
  rw [Int32.toBitVec_shiftRight, BitVec.toInt_sshiftRight', e k hk]
  have : (i32 (a : Int)).toBitVec.toInt = a := i32_of ⟨by omega, by omega⟩
  rw [this]
  rfl
theorem shl1 : ∀ k : Nat, k ≤ 16 → shl32 1 k = ((2 ^ k : Nat) : Int) := by decide +kernel
theorem shlm : ∀ o : Nat, o < 17 → ∀ x : Nat, x < 17 → x + o ≤ 16 → shl32 ((2 ^ o - 1 : Nat) : Int) x = (((2 ^ o - 1) <<< x : Nat) : Int) ∧ (2 ^ o - 1) <<< x < 65536 := by decide +kernel
theorem andn_nat {a b : Nat} (ha : a < 65536) (hb : b < 65536) : ∃ r : Nat, and32 a (xor32 b (-1)) = r ∧ r < 65536 ∧ ∀ j, j < 16 → r.testBit j = (a.testBit j && !b.testBit j) := by
  have e : (i32 (xor32 b (-1))) = i32 b ^^^ i32 (-1) := by unfold xor32; rw [i32_ti]
  have e2 : (i32 (-1)).toBitVec = BitVec.allOnes 32 := by decide
  refine ⟨(BitVec.ofNat 32 a &&& (BitVec.ofNat 32 b ^^^ BitVec.allOnes 32)).toNat, ?_, ?_, fun j hj => ?_⟩
  · have hlt : (BitVec.ofNat 32 a &&& (BitVec.ofNat 32 b ^^^ BitVec.allOnes 32)).toNat ≤ a := by
      rw [BitVec.toNat_and, bv_toNat ha]; exact Nat.and_le_left
    unfold and32
    rw [e]
    show ((i32 (a : Int) &&& (i32 (b : Int) ^^^ i32 (-1))).toBitVec).toInt = _
    rw [Int32.toBitVec_and, Int32.toBitVec_xor, bv_nat ha, bv_nat hb, e2, BitVec.toInt_eq_toNat_of_lt (by omega)]
  · have hlt : (BitVec.ofNat 32 a &&& (BitVec.ofNat 32 b ^^^ BitVec.allOnes 32)).toNat ≤ a := by
      rw [BitVec.toNat_and, bv_toNat ha]; exact Nat.and_le_left
    omega
  · rw [BitVec.testBit_toNat, BitVec.getLsbD_and, BitVec.getLsbD_xor, BitVec.getLsbD_ofNat, BitVec.getLsbD_ofNat, BitVec.getLsbD_allOnes]
    have h32 : j < 32 := by omega
    simp only [h32, decide_true, Bool.true_and, Bool.xor_true]
/-- bits of an int tell of the nodes 0 to n - 1 -/
def Bt (v : Int) (n : Nat) (F : Nat → Bool) : Prop := ∃ N : Nat, v = N ∧ N < 65536 ∧ ∀ j, j < n → N.testBit j = F j
theorem Bt.all {v : Int} {n : Nat} {F : Nat → Bool} (h : Bt v n F) (hn : n ≤ 16) {x o : Nat} (ho : 1 ≤ o) (hx : x + o ≤ n) : and32 (shr32 v x) (((2 ^ o - 1 : Nat)) : Int) = (((2 ^ o - 1 : Nat)) : Int) ↔ ∀ a, x ≤ a → a < x + o → F a = true := by
  obtain ⟨N, rfl, h1, h2⟩ := h
  obtain ⟨s1, s2⟩ := shr_nat (a := N) (k := x) h1 (by omega)
  have hm : 2 ^ o - 1 < 65536 := by
    have : (2 : Nat) ^ o ≤ 2 ^ 16 := Nat.pow_le_pow_right (by omega) (by omega)
    have : (2 : Nat) ^ 16 = 65536 := by decide
    have : 1 ≤ 2 ^ o := Nat.one_le_two_pow
    omega
  rw [s1, and_nat s2 hm]
  constructor
  · intro he a a1 a2
    have he' : (N >>> x) &&& (2 ^ o - 1) = 2 ^ o - 1 := by omega
    have := congrArg (fun z => z.testBit (a - x)) he'
    simp only [Nat.testBit_and, Nat.testBit_shiftRight, Nat.testBit_two_pow_sub_one] at this
    rw [show x + (a - x) = a by omega, h2 a (by omega)] at this
    have hlt : decide (a - x < o) = true := by simp; omega
    rw [hlt, Bool.and_true] at this
    exact this
  · intro hF
    congr 1
    apply Nat.eq_of_testBit_eq
    intro j
    rw [Nat.testBit_and, Nat.testBit_shiftRight, Nat.testBit_two_pow_sub_one]
    by_cases hj : j < o
    · rw [h2 (x + j) (by omega), hF (x + j) (by omega) (by omega)]; rfl
    · simp [hj]
theorem Bt.clear {v : Int} {n : Nat} {F F' : Nat → Bool} (h : Bt v n F) (hn : n ≤ 16) {x o : Nat} (hx : x + o ≤ n) (hF : ∀ j, j < n → F' j = (F j && !(decide (x ≤ j) && decide (j < x + o)))) : Bt (and32 v (xor32 (shl32 (((2 ^ o - 1 : Nat)) : Int) x) (-1))) n F' := by
  obtain ⟨N, rfl, h1, h2⟩ := h
  obtain ⟨s1, s2⟩ := shlm o (by omega) x (by omega) (by omega)
  rw [s1]
  obtain ⟨r, r1, r2, r3⟩ := andn_nat h1 s2
  refine ⟨r, r1, r2, fun j hj => ?_⟩
  rw [r3 j (by omega), h2 j hj, hF j hj, Nat.testBit_shiftLeft, Nat.testBit_two_pow_sub_one]
  congr 2
  by_cases w : x ≤ j
  · have : decide (j - x < o) = decide (j < x + o) := by
      by_cases w2 : j < x + o
      · simp [w2]; omega
      · simp [w2]; omega
    simp [w, this]
  · simp [w]
theorem set_own : ∀ o : Nat, o ≤ 16 → w32 (shl32 1 o - 1) = ((2 ^ o - 1 : Nat) : Int) := by decide +kernel
/-- the moved pairs in the reference's memory -/
def MM (N : Mem) (s : T) (P : List (Nat × Nat)) : Prop := N 203 24 = P.length ∧ N 203 27 = mvNodes s P ∧ ∀ (i : Nat) (p : Nat × Nat), P[i]? = some p → N 222 i = p.1 ∧ N 223 i = p.2
/-- what the laying of moved pairs may change -/
def FV (M M' : Mem) : Prop := ∀ c j, ¬ (c = 203 ∧ (j = 24 ∨ j = 27)) → c ≠ 222 → c ≠ 223 → M' c j = M c j
/-- the best of the pairs looked at -/
def Bst (s t : T) (g : Ldg) (P : List (Nat × Nat)) (S : Nat → Nat → Prop) (o1 o2 o3 : Int) : Prop := (o1 = -6 ∧ o3 = 0 ∧ ∀ x y, S x y → ¬ Cand s t g P x y) ∨ ∃ x y : Nat, o1 = x ∧ o2 = y ∧ o3 = sz s x ∧ S x y ∧ Cand s t g P x y ∧ ∀ x' y', S x' y' → Cand s t g P x' y' → sz s x' < sz s x ∨ (sz s x' = sz s x ∧ (x < x' ∨ (x = x' ∧ y ≤ y')))
section LAYMOVED
variable {V : VV} {M : Mem} {Q : Int → Mem → Prop}
theorem m_moved106 {u w : Int} {s t : T} {g : Ldg} {f1 f2 : Int} (hu : 0 ≤ u ∧ u ≤ 5) (hw : 0 ≤ w ∧ w ≤ 5) (ms : Mt M u s) (mt : Mt M w t) (ws : Wt s) (wt : Wt t) (hg : Lead s t g) (h10 : M 203 10 = s.length) (h11 : M 203 11 = t.length) (hb1 : Bt f1 s.length (fr1 s g [])) (hb2 : Bt f2 t.length (fr2 s t g [])) (hm : MM M s [])
    (q : ∀ M', MM M' s (mvAll s t g) → FV M M' → Q 0 M') : wp_X10_layMoved_106 V u w f1 f2 1 M Q := by
  have s16 := ws.1
  have t16 := wt.1
  unfold wp_X10_layMoved_106
  refine ⟨fun z3 z4 z5 N => ∃ l1 l2, Over s t g l1 l2 ∧ Bt z3 s.length (fr1 s g (mvF s t g l1).2.2) ∧ Bt z4 t.length (fr2 s t g (mvF s t g l1).2.2) ∧ MM N s (mvF s t g l1).2.2 ∧ FV M N ∧ (z5 = 0 ∨ z5 = 1) ∧ (z5 = 0 → (mvF s t g l1).2.2 = mvAll s t g) ∧ (mvF s t g l1).2.2.length ≤ 16, fun _ _ z5 N => (2 * (20 - N 203 24) + z5).toNat, ⟨[], mvOrd s, Over.start s t g, hb1, hb2, hm, fun _ _ _ _ _ => rfl, Or.inr rfl, fun w => by omega, Nat.zero_le _⟩, ?_⟩
  rintro z3 z4 z5 N ⟨l1, l2, hO, b1, b2, mN, fN, z01, z0, hl16⟩
  unfold wp_X10_layMoved_106_b
  refine ⟨fun c => by rw [z0 c] at mN; exact q N mN fN, fun c => ?_⟩
  have z1 : z5 = 1 := by omega
  subst z1
  generalize hP : (mvF s t g l1).2.2 = P at *
  have n10 : N 203 10 = s.length := by rw [fN _ _ (by omega) (by omega) (by omega)]; exact h10
  have n11 : N 203 11 = t.length := by rw [fN _ _ (by omega) (by omega) (by omega)]; exact h11
  have msN : Mt N u s := ⟨by rw [fN _ _ (by omega) (by omega) (by omega)]; exact ms.1, fun i hi => by rw [fN _ _ (by omega) (by omega) (by omega), fN _ _ (by omega) (by omega) (by omega)]; exact ms.2 i hi⟩
  have mtN : Mt N w t := ⟨by rw [fN _ _ (by omega) (by omega) (by omega)]; exact mt.1, fun i hi => by rw [fN _ _ (by omega) (by omega) (by omega), fN _ _ (by omega) (by omega) (by omega)]; exact mt.2 i hi⟩
  unfold wp_X10_layMoved_125
  refine ⟨fun o1 o2 o3 z9 R => R = N ∧ ∃ i : Nat, z9 = i ∧ i ≤ s.length ∧ Bst s t g P (fun x _ => x < i) o1 o2 o3, fun _ _ _ z9 _ => (17 - z9).toNat, ⟨rfl, 0, rfl, by omega, Or.inl ⟨rfl, rfl, fun x y hx => by omega⟩⟩, ?_⟩
  rintro o1 o2 o3 z9 R ⟨rfl, i, rfl, hi, hB⟩
  unfold wp_X10_layMoved_125_b
  rw [n10]
  refine ⟨fun c1 => ?_, fun c1 => ?_⟩
  · have his : i = s.length := by omega
    subst his
    unfold wp_X10_layMoved_279
    rcases hB with ⟨rfl, -, hno⟩ | ⟨x, y, rfl, rfl, rfl, -, hc, hbest⟩
    · refine ⟨fun _ => ⟨fun _ => ?_, fun w => absurd rfl w⟩, fun w => by omega⟩
      refine ⟨⟨l1, l2, hO, by rw [hP]; exact b1, by rw [hP]; exact b2, by rw [hP]; exact mN, fN, Or.inl rfl, fun _ => ?_, by rw [hP]; exact hl16⟩, by (try dsimp only); have := mN.1; omega⟩
      refine hO.fin hg s16 (fun x y hc => ?_)
      rw [hP] at hc
      exact hno x y hc.1 hc
    · refine ⟨fun w => by omega, fun _ => ⟨fun w => by omega, fun _ => ?_⟩⟩
      have hx := hc.1
      have hy := hc.2.1
      have ex := sz_end hx
      have ey := sz_end hy
      have zx := sz_pos hx
      have ezz := sub_sz hc.2.2.1
      obtain ⟨l1', l2', hO', hP', hlen⟩ := hO.next hg s16 (by rw [hP]; exact hc) (fun x' y' hc' => by rw [hP] at hc'; exact hbest x' y' hc'.1 hc')
      rw [hP] at hP' hlen
      rw [set_own _ (by omega)]
      rintro v4 rfl v5 rfl v6 rfl
      rw [mN.1]
      refine ⟨by omega, ?_⟩
      intro M7 h7
      have e7 : M7 203 24 = P.length := by rw [h7, mset_cell _ (by omega)]; exact mN.1
      rw [e7]
      refine ⟨by omega, ?_⟩
      intro M8 h8 M9 h9
      have e8 : M8 203 24 = P.length := by rw [h8, mset_cell _ (by omega)]; exact e7
      rw [e8, w_succ (by omega)] at h9
      have hnl := mvNodes_le s16 P (fun p hp => by rw [← hP] at hp; exact (hO.2.1.2.2.1 p hp).1)
      have e9 : M9 203 27 = mvNodes s P := by rw [h9, mset_idx _ _ _ (by omega), h8, mset_cell _ (by omega), h7, mset_cell _ (by omega)]; exact mN.2.1
      rw [e9, w32_id (by omega) (by omega)]
      have fA : ∀ c j, ¬ (c = 203 ∧ (j = 24 ∨ j = 27)) → c ≠ 222 → c ≠ 223 → mset M9 203 27 ((mvNodes s P : Int) + sz s x) c j = R c j := fun c j a b d => by
        rw [show mset M9 203 27 ((mvNodes s P : Int) + sz s x) c j = M9 c j from if_neg (by omega), h9, show mset M8 203 24 ((P.length : Int) + 1) c j = M8 c j from if_neg (by omega), h8, mset_cell _ d, h7, mset_cell _ b]
      refine ⟨⟨l1', l2', hO', ?_, ?_, ⟨?_, ?_, fun k p hp => ?_⟩, fun c j a b d => by rw [fA _ _ a b d]; exact fN c j a b d, Or.inr rfl, fun w => by omega, by rw [hP']; simp; omega⟩, ?_⟩
      · rw [hP']
        refine b1.clear (by omega) ex (fun j hj => ?_)
        unfold fr1 inS
        rw [List.any_append]
        simp [Bool.and_assoc]
      · rw [hP', ezz]
        refine b2.clear (by omega) ey (fun j hj => ?_)
        unfold fr2 inT
        rw [List.any_append]
        simp [Bool.and_assoc]
      · rw [mset_idx _ _ _ (by omega), h9, mset_same, hP']; simp
      · rw [mset_same, hP', mvNodes_app]; (try dsimp only); omega
      · rw [hP'] at hp
        rw [mset_cell _ (by omega), mset_cell _ (by omega), h9, mset_cell _ (by omega), mset_cell _ (by omega), h8, mset_cell _ (by omega), h7]
        by_cases ek : k < P.length
        · rw [List.getElem?_append_left ek] at hp
          rw [mset_idx _ _ _ (by omega), mset_idx _ _ _ (by omega), mset_cell _ (by omega)]
          exact mN.2.2 k p hp
        · rw [List.getElem?_append_right (by omega)] at hp
          have hz : k - P.length = 0 := by
            rcases Nat.eq_zero_or_pos (k - P.length) with w | w
            · exact w
            · rw [List.getElem?_eq_none (by simp; omega)] at hp; cases hp
          rw [hz] at hp
          simp only [List.getElem?_cons_zero, Option.some.injEq] at hp
          subst hp
          rw [show (k : Int) = P.length by omega, mset_same, mset_same]
          exact ⟨rfl, rfl⟩
      · (try dsimp only)
        rw [mset_idx _ _ _ (by omega), h9, mset_same, mN.1]; omega
  · have his : i < s.length := by omega
    have ei := sz_end his
    have zi := sz_pos his
    unfold wp_X10_layMoved_137
    refine ⟨fun o1 o2 o3 z10 R' => R' = R ∧ ∃ k : Nat, z10 = k ∧ k ≤ t.length ∧ Bst s t g P (fun x y => x < i ∨ (x = i ∧ y < k)) o1 o2 o3, fun _ _ _ z10 _ => (17 - z10).toNat, ⟨rfl, 0, rfl, by omega, ?_⟩, ?_⟩
    · rcases hB with ⟨h1, h2, h3⟩ | ⟨x, y, h1, h2, h3, h4, h5, h6⟩
      · exact Or.inl ⟨h1, h2, fun x y hxy => h3 x y (by omega)⟩
      · exact Or.inr ⟨x, y, h1, h2, h3, by omega, h5, fun x' y' hxy => h6 x' y' (by omega)⟩
    clear hB
    rintro o1 o2 o3 z10 R' ⟨rfl, k, rfl, hk, hB⟩
    unfold wp_X10_layMoved_137_b
    rw [n11]
    refine ⟨fun c2 => ?_, fun c2 => ?_⟩
    · rw [w_succ (by omega)]
      refine ⟨⟨rfl, i + 1, by omega, by omega, ?_⟩, by (try dsimp only); omega⟩
      rcases hB with ⟨h1, h2, h3⟩ | ⟨x, y, h1, h2, h3, h4, h5, h6⟩
      · exact Or.inl ⟨h1, h2, fun x y hxy hc => h3 x y (by have := hc.2.1; omega) hc⟩
      · exact Or.inr ⟨x, y, h1, h2, h3, by omega, h5, fun x' y' hxy hc => h6 x' y' (by have := hc.2.1; omega) hc⟩
    · have hkt : k < t.length := by omega
      have ek := sz_end hkt
      have zk := sz_pos hkt
      refine m_sizeOf (by omega) msN ws his ?_
      rw [set_own _ (by omega)]
      rintro v12 rfl
      have osz : 0 ≤ o3 := by
        rcases hB with ⟨-, h2, -⟩ | ⟨x, y, -, -, h3, -⟩ <;> omega
      /- not taken as the best -/
      have no : (Cand s t g P i k → (sz s i : Int) ≤ o3) → wp_X10_layMoved_212 V u w z3 z4 o1 o2 o3 i k (sz s i) R' Q (fun z3 z4 z5 N1 => (∃ l1 l2, Over s t g l1 l2 ∧ Bt z3 s.length (fr1 s g (mvF s t g l1).2.2) ∧ Bt z4 t.length (fr2 s t g (mvF s t g l1).2.2) ∧ MM N1 s (mvF s t g l1).2.2 ∧ FV M N1 ∧ (z5 = 0 ∨ z5 = 1) ∧ (z5 = 0 → (mvF s t g l1).2.2 = mvAll s t g) ∧ (mvF s t g l1).2.2.length ≤ 16) ∧ (2 * (20 - N1 203 24) + z5).toNat < (2 * (20 - R' 203 24) + 1).toNat) (fun z6 z7 z8 z9 N1 => (N1 = R' ∧ ∃ i : Nat, z9 = i ∧ i ≤ s.length ∧ Bst s t g P (fun x _ => x < i) z6 z7 z8) ∧ (17 - z9).toNat < (17 - (i : Int)).toNat) (fun z6 z7 z8 z10 N1 => (N1 = R' ∧ ∃ k : Nat, z10 = k ∧ k ≤ t.length ∧ Bst s t g P (fun x y => x < i ∨ (x = i ∧ y < k)) z6 z7 z8) ∧ (17 - z10).toNat < (17 - (k : Int)).toNat) := by
        intro hle
        unfold wp_X10_layMoved_212 wp_X10_layMoved_213 wp_X10_layMoved_227 wp_X10_layMoved_241
        refine ⟨fun _ => ⟨fun _ => ⟨fun _ => ?_, fun w => absurd rfl w⟩, fun w => absurd rfl w⟩, fun w => absurd rfl w⟩
        rw [w_succ (by omega)]
        refine ⟨⟨rfl, k + 1, by omega, by omega, ?_⟩, by (try dsimp only); omega⟩
        rcases hB with ⟨h1, h2, h3⟩ | ⟨x, y, h1, h2, h3, h4, h5, h6⟩
        · refine Or.inl ⟨h1, h2, fun x y hxy hc => ?_⟩
          by_cases e : x = i ∧ y = k
          · rw [e.1, e.2] at hc
            have := hle hc
            omega
          · exact h3 x y (by omega) hc
        · refine Or.inr ⟨x, y, h1, h2, h3, by omega, h5, fun x' y' hxy hc => ?_⟩
          by_cases e : x' = i ∧ y' = k
          · have hc' := hc
            rw [e.1, e.2] at hc'
            have := hle hc'
            rw [e.1, e.2]
            omega
          · exact h6 x' y' (by omega) hc
      refine ⟨fun c3 => no (fun _ => c3), fun c3 => ⟨fun c4 => ⟨fun c5 => ?_, fun c5 => no (fun hc => ?_)⟩, fun c4 => no (fun hc => ?_)⟩⟩
      · refine m_same (by omega) (by omega) msN mtN ws wt his hkt ?_
        refine ⟨fun c6 => no (fun hc => by rw [if_pos hc.2.2.1] at c6; omega), fun c6 => ?_⟩
        have hsub : sub s i = sub t k := by
          split at c6
          · assumption
          · exact absurd rfl c6
        have ezz := sub_sz hsub
        have hc : Cand s t g P i k := by
          refine ⟨his, hkt, hsub, (b1.all (by omega) zi ei).mp c4, ?_⟩
          rw [ezz] at c5
          exact (b2.all (by omega) zk ek).mp c5
        unfold wp_X10_layMoved_213 wp_X10_layMoved_227 wp_X10_layMoved_241
        refine ⟨fun w => absurd w (by decide), fun _ => ⟨fun w => absurd w (by decide), fun _ => ⟨fun w => absurd w (by decide), fun _ => ?_⟩⟩⟩
        rw [w_succ (by omega)]
        refine ⟨⟨rfl, k + 1, by omega, by omega, Or.inr ⟨i, k, rfl, rfl, rfl, by omega, hc, fun x' y' hxy hc' => ?_⟩⟩, by (try dsimp only); omega⟩
        by_cases e : x' = i ∧ y' = k
        · rw [e.1, e.2]; exact Or.inr ⟨rfl, Or.inr ⟨rfl, Nat.le_refl _⟩⟩
        · rcases hB with ⟨h1, h2, h3⟩ | ⟨x, y, h1, h2, h3, h4, h5, h6⟩
          · exact absurd hc' (h3 x' y' (by omega))
          · have := h6 x' y' (by omega) hc'
            omega
      · exfalso
        have ezz := sub_sz hc.2.2.1
        refine c5 ?_
        rw [ezz]
        exact (b2.all (by omega) zk ek).mpr hc.2.2.2.2
      · exfalso
        exact c4 ((b1.all (by omega) zi ei).mpr hc.2.2.2.1)
theorem m_layMoved {u w : Int} {s t : T} {pr : Int → Int} {g : Ldg} (hu : 0 ≤ u ∧ u ≤ 5) (hw : 0 ≤ w ∧ w ≤ 5) (ms : Mt M u s) (mt : Mt M w t) (ws : Wt s) (wt : Wt t) (hs : 0 < s.length) (ht : 0 < t.length) (hp : ∀ w, 0 ≤ w → w ≤ 2 → M 208 w = pr w) (hpo : PrOK pr) (hl : IsLeast s t pr g)
    (q : ∀ M' : Mem, (∀ a : Nat, a < s.length → M' 220 a = rowL g a) → M' 203 10 = s.length → M' 203 11 = t.length → MM M' s (mvAll s t g) → (∀ c j, ¬ (c = 203 ∧ (j = 10 ∨ j = 11 ∨ j = 24 ∨ j = 27)) → ¬ (210 ≤ c ∧ c ≤ 223) → M' c j = M c j) → Q 0 M') : R_X10_layMoved V u w M Q := by
  have s16 := ws.1
  have t16 := wt.1
  apply of_X10_layMoved
  unfold wp_X10_layMoved
  refine m_layLed hu hw ms mt ws wt hs ht hp hpo hl (fun M2 r2 l2 h10 h11 f2 => ?_)
  have two : ∀ k : Nat, k < 16 → 2 ^ k < 65536 := by decide
  unfold wp_X10_layMoved_14
  refine ⟨fun z3 z5 => ∃ i : Nat, z5 = i ∧ i ≤ s.length ∧ ∃ N : Nat, z3 = N ∧ N < 65536 ∧ ∀ j, N.testBit j = (decide (j < i) && !ledB g j), fun _ z5 => (17 - z5).toNat, ⟨0, rfl, by omega, 0, rfl, by omega, fun j => by simp⟩, ?_⟩
  rintro z3 z5 ⟨i, rfl, hi, N1, rfl, n1, hN1⟩
  unfold wp_X10_layMoved_14_b wp_X10_layMoved_44
  rw [h10]
  refine ⟨fun c => ?_, fun c => ⟨by omega, ?_⟩⟩
  · have his : i = s.length := by omega
    subst his
    unfold wp_X10_layMoved_55
    refine ⟨fun z4 z5 => ∃ i : Nat, z5 = i ∧ i ≤ t.length ∧ ∃ N : Nat, z4 = N ∧ N < 65536 ∧ ∀ j, N.testBit j = (decide (j < i) && !hitB s g j), fun _ z5 => (17 - z5).toNat, ⟨0, rfl, by omega, 0, rfl, by omega, fun j => by simp⟩, ?_⟩
    rintro z4 z5 ⟨k, rfl, hk, N2, rfl, n2, hN2⟩
    unfold wp_X10_layMoved_55_b wp_X10_layMoved_84
    rw [h11]
    refine ⟨fun c1 => ?_, fun c1 => ⟨by omega, ?_⟩⟩
    · have hkt : k = t.length := by omega
      subst hkt
      intro M3 h3
      generalize hM4 : mset M3 203 27 0 = M4
      have f4 : ∀ c j, ¬ (c = 203 ∧ (j = 24 ∨ j = 27)) → M4 c j = M2 c j := fun c j a => by
        rw [← hM4, show mset M3 203 27 0 c j = M3 c j from if_neg (by omega), h3]; exact if_neg (by omega)
      have v24 : M4 203 24 = 0 := by rw [← hM4, mset_idx _ _ _ (by omega), h3, mset_same]
      have v27 : M4 203 27 = 0 := by rw [← hM4, mset_same]
      have mtF : ∀ {x : Int} {z : T}, Mt M x z → Mt M4 x z := fun hm => ⟨by rw [f4 _ _ (by omega), f2 _ _ (by omega) (by omega)]; exact hm.1, fun i hi => by rw [f4 _ _ (by omega), f2 _ _ (by omega) (by omega), f4 _ _ (by omega), f2 _ _ (by omega) (by omega)]; exact hm.2 i hi⟩
      refine m_moved106 hu hw (mtF ms) (mtF mt) ws wt hl.1 (by rw [f4 _ _ (by omega)]; exact h10) (by rw [f4 _ _ (by omega)]; exact h11) ⟨N1, rfl, n1, fun j hj => ?_⟩ ⟨N2, rfl, n2, fun j hj => ?_⟩ ⟨by rw [v24]; rfl, by rw [v27]; rfl, fun i p hp => by simp at hp⟩ (fun M6 m6 f6 => ?_)
      · rw [hN1 j]; simp [fr1, inS, hj]
      · rw [hN2 j]; simp [fr2, inT, hj]
      · refine q M6 (fun a ha => by rw [f6 _ _ (by omega) (by omega) (by omega), f4 _ _ (by omega)]; exact r2 a ha) (by rw [f6 _ _ (by omega) (by omega) (by omega), f4 _ _ (by omega)]; exact h10) (by rw [f6 _ _ (by omega) (by omega) (by omega), f4 _ _ (by omega)]; exact h11) m6 (fun c j a b => by rw [f6 _ _ (by omega) (by omega) (by omega), f4 _ _ (by omega), f2 _ _ (by omega) (by omega)])
    · have hkt : k < t.length := by omega
      rw [w_succ (by omega)]
      have hk2 := two k (by omega)
      refine ⟨fun c2 => ?_, fun c2 => ?_⟩
      · have hhit : hitB s g k = true := by
          rcases l2 k hkt with ⟨a, a1, a2, a3⟩ | ⟨a1, a2⟩
          · exact (hitB_true hl.1).mpr ⟨a, a2⟩
          · omega
        rintro v15 rfl
        refine ⟨⟨k + 1, by omega, by omega, N2, ?_, n2, fun j => ?_⟩, by (try dsimp only); omega⟩
        · have := (or_nat n2 (show 0 < 65536 by omega)).1
          rw [Nat.or_zero] at this
          exact this
        · rw [hN2 j]
          by_cases e : j = k
          · rw [e, hhit]; simp
          · have : decide (j < k + 1) = decide (j < k) := by
              by_cases w : j < k
              · simp [w]; omega
              · simp [w]; omega
            rw [this]
      · have hhit : hitB s g k = false := by
          rcases l2 k hkt with ⟨a, a1, a2, a3⟩ | ⟨a1, a2⟩
          · omega
          · exact Bool.eq_false_iff.mpr (fun w => by
              obtain ⟨a, ha⟩ := (hitB_true hl.1).mp w
              exact a1 a (hl.1.1 a k ha).2.1 ha)
        rw [shl1 k (by omega)]
        rintro v15 rfl
        obtain ⟨o1, o2⟩ := or_nat n2 hk2
        refine ⟨⟨k + 1, by omega, by omega, _, o1, o2, fun j => ?_⟩, by (try dsimp only); omega⟩
        rw [Nat.testBit_or, hN2 j, Nat.testBit_two_pow]
        by_cases e : j = k
        · rw [e, hhit]; simp
        · have : decide (j < k + 1) = decide (j < k) := by
            by_cases w : j < k
            · simp [w]; omega
            · simp [w]; omega
          have h2 : decide (k = j) = false := by simp; omega
          rw [this, h2, Bool.or_false]
  · have his : i < s.length := by omega
    rw [r2 i his, w_succ (by omega)]
    have hi2 := two i (by omega)
    refine ⟨fun c2 => ?_, fun c2 => ?_⟩
    · have hled : ledB g i = false := by
        unfold rowL at c2
        unfold ledB
        cases hgi : g i with
        | none => rfl
        | some b =>
          rw [hgi] at c2
          have := (hl.1.1 i b hgi).2.2.2
          simp only at c2
          omega
      rw [shl1 i (by omega)]
      rintro v16 rfl
      obtain ⟨o1, o2⟩ := or_nat n1 hi2
      refine ⟨⟨i + 1, by omega, by omega, _, o1, o2, fun j => ?_⟩, by (try dsimp only); omega⟩
      rw [Nat.testBit_or, hN1 j, Nat.testBit_two_pow]
      by_cases e : j = i
      · rw [e, hled]; simp
      · have : decide (j < i + 1) = decide (j < i) := by
          by_cases w : j < i
          · simp [w]; omega
          · simp [w]; omega
        have h2 : decide (i = j) = false := by simp; omega
        rw [this, h2, Bool.or_false]
    · have hled : ledB g i = true := by
        unfold rowL at c2
        unfold ledB
        cases hgi : g i with
        | none => rw [hgi] at c2; exact absurd rfl c2
        | some b => rfl
      rintro v16 rfl
      refine ⟨⟨i + 1, by omega, by omega, N1, ?_, n1, fun j => ?_⟩, by (try dsimp only); omega⟩
      · have := (or_nat n1 (show 0 < 65536 by omega)).1
        rw [Nat.or_zero] at this
        exact this
      · rw [hN1 j]
        by_cases e : j = i
        · rw [e, hled]; simp
        · have : decide (j < i + 1) = decide (j < i) := by
            by_cases w : j < i
            · simp [w]; omega
            · simp [w]; omega
          rw [this]
end LAYMOVED
