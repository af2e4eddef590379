/-! stacks whose entries lie ever deeper: they are never high -/
def TS (W : Nat → Nat) (st : List (Nat × Nat)) : Prop := st.Pairwise (fun e e' => W e'.2 ≤ W e.2) ∧ ∀ e ∈ st, W e.1 < W e.2
def TC (Z : T4) (st : List (Nat × Nat)) : Prop := (∀ e ∈ st, e.2 ≤ 64) ∧ ∀ x, (st.map (fun e => e.2)).count x ≤ if x = 64 then 1 else nar Z x
theorem len_count : ∀ (l : List Nat) (n : Nat), (∀ x ∈ l, x < n) → l.length = jS (fun x => l.count x) n
  | [], n, _ => by
    have : jS (fun x => ([] : List Nat).count x) n = jS (fun _ => 0) n := jS_congr n (fun c _ => by simp)
    rw [this, jS_zero]; rfl
  | a :: l, n, h => by
    have ih := len_count l n (fun x hx => h x (List.mem_cons_of_mem _ hx))
    have := jS_upd (f := fun x => l.count x) (g := fun x => (a :: l).count x) n (h a List.mem_cons_self) (fun c _ hc => by
      rw [List.count_cons_of_ne (by omega)])
    simp only [List.count_cons_self] at this
    rw [List.length_cons, ih]; omega
theorem tc_len {Z : T4} (hZ : Z4 Z) {st : List (Nat × Nat)} (h : TC Z st) : st.length ≤ 61 := by
  have l := len_count (st.map (fun e => e.2)) 65 (fun x hx => by
    obtain ⟨e, he, rfl⟩ := List.mem_map.mp hx
    have := h.1 e he
    omega)
  rw [List.length_map] at l
  have m := jS_mono (f := fun x => (st.map (fun e => e.2)).count x) (g := fun x => if x = 64 then 1 else nar Z x) 65 (fun c _ => h.2 c)
  have e : jS (fun x => if x = 64 then 1 else nar Z x) 65 = jS (fun c => nar Z c) 64 + 1 := by
    show jS (fun x => if x = 64 then 1 else nar Z x) 64 + (if 64 = 64 then 1 else nar Z 64) = _
    rw [if_pos rfl, jS_congr (f := fun c => nar Z c) 64 (fun c hc => by rw [if_neg (by omega)])]
  have := nar_sum hZ
  omega
theorem tc_pop {Z : T4} {st : List (Nat × Nat)} {e : Nat × Nat} (h : TC Z (st ++ [e])) : TC Z st := by
  refine ⟨fun x hx => h.1 x (by simp [hx]), fun x => ?_⟩
  have := h.2 x
  rw [List.map_append, List.count_append] at this
  omega
theorem ts_pop {W : Nat → Nat} {st : List (Nat × Nat)} {e : Nat × Nat} (h : TS W (st ++ [e])) : TS W st :=
  ⟨(List.pairwise_append.mp h.1).1, fun x hx => h.2 x (by simp [hx])⟩
theorem ts_push {W : Nat → Nat} {st : List (Nat × Nat)} {u z x n : Nat} {c : Nat → Nat} (h : TS W (st ++ [(u, z)])) (hx : W x = W u) (hc : ∀ k, k < n → W (c k) < W x) : TS W (st ++ (List.range n).map (fun k => (c k, x))) ∧ ∀ e ∈ st, e.2 ≠ x := by
  obtain ⟨p1, -, p3⟩ := List.pairwise_append.mp h.1
  have uz : W u < W z := h.2 (u, z) (by simp)
  have lt : ∀ e ∈ st, W x < W e.2 := fun e he => by
    have := p3 e he (u, z) (by simp)
    simp only at this
    omega
  refine ⟨⟨List.pairwise_append.mpr ⟨p1, ?_, fun a ha b hb => ?_⟩, fun e he => ?_⟩, fun e he w => ?_⟩
  · rw [List.pairwise_map]
    exact List.pairwise_of_forall (fun _ _ => Nat.le_refl _)
  · obtain ⟨k, -, rfl⟩ := List.mem_map.mp hb
    have := lt a ha
    show W x ≤ W a.2
    omega
  · rcases List.mem_append.mp he with g | g
    · exact h.2 e (by simp [g])
    · obtain ⟨k, hk, rfl⟩ := List.mem_map.mp g
      exact hc k (List.mem_range.mp hk)
  · have := lt e he
    rw [w] at this
    omega
theorem tc_push {Z : T4} {st : List (Nat × Nat)} {x n : Nat} {c : Nat → Nat} (h : TC Z st) (hx : x < 64) (hno : ∀ e ∈ st, e.2 ≠ x) (hn : n ≤ nar Z x) : TC Z (st ++ (List.range n).map (fun k => (c k, x))) := by
  have tg : ((List.range n).map (fun k => (c k, x))).map (fun e => e.2) = List.replicate n x := by
    rw [List.map_map]
    apply List.ext_getElem
    · simp
    · intro i h1 h2; simp
  refine ⟨fun e he => ?_, fun y => ?_⟩
  · rcases List.mem_append.mp he with g | g
    · exact h.1 e g
    · obtain ⟨k, -, rfl⟩ := List.mem_map.mp g
      show x ≤ 64
      omega
  · rw [List.map_append, tg, List.count_append, List.count_replicate]
    have := h.2 y
    by_cases e : y = x
    · have h0 : (st.map (fun e => e.2)).count y = 0 := List.count_eq_zero.mpr (fun w => by
        obtain ⟨a, ha, ea⟩ := List.mem_map.mp w
        exact hno a ha (by rw [ea, e]))
      have y64 : y ≠ 64 := by omega
      rw [h0, if_neg y64, e]
      simpa using hn
    · have : (x == y) = false := by rw [beq_eq_false_iff_ne]; exact fun w => e w.symm
      rw [this]
      simp only [Bool.false_eq_true, if_false]
      omega
theorem stm_sum {N : Mem} {c : Int} (F : Nat → Nat) : ∀ (n : Nat) (l : List Nat), l.length = n → StM N c l → jS (fun d => F (N c d).toNat) n = (l.map F).sum
  | 0, l, hl, _ => by
    rw [List.length_eq_zero_iff.mp hl]; rfl
  | n + 1, l, hl, h => by
    obtain ⟨l', e, rfl⟩ : ∃ l' e, l = l' ++ [e] := ⟨l.dropLast, l.getLast (fun w => by rw [w] at hl; simp at hl), (List.dropLast_concat_getLast _).symm⟩
    have hl' : l'.length = n := by simpa using hl
    obtain ⟨h1, h2⟩ := h.pop
    have ih := stm_sum F n l' hl' h1
    show jS (fun d => F (N c d).toNat) n + F (N c n).toNat = _
    rw [ih, ← hl', h2, Int.toNat_natCast, List.map_append, List.sum_append]
    simp
theorem app_cap {θ : Int → T} {B : Nat} (hB : 1 ≤ B) (h : ∀ v, (θ v).length ≤ B) : ∀ t : T, (app θ t).length ≤ t.length * B
  | [] => by simp [app]
  | p :: t => by
    have ih := app_cap hB h t
    rw [app_cons, List.length_append, List.length_cons, Nat.add_mul, Nat.one_mul]
    split
    · have := h p.1; omega
    · simp; omega
theorem sub_cap {Z : T4} (hZ : Z4 Z) (q : Nat) : (sub (nvt Z q) (q % 16)).length ≤ 16 := by
  have h1 := (hZ.wd q).1.1
  have h2 := nvt_len Z q
  unfold sub
  rw [List.length_take, List.length_drop]
  omega
theorem thF_cap {Z : T4} (hZ : Z4 Z) (rs : Nat → Int) : ∀ n h, (thF Z rs n h).length ≤ 16 ^ n
  | 0, h => by simp [thF]
  | n + 1, h => by
    have p : 1 ≤ 16 ^ n := Nat.one_le_pow n 16 (by omega)
    have e : 16 ^ (n + 1) = 16 * 16 ^ n := by rw [Nat.pow_succ]; omega
    unfold thF
    split
    · split
      · simp; omega
      · have := app_cap (θ := fun v => thF Z rs n (-v - 1).toNat) p (fun v => thF_cap hZ rs n _) (sub (nvt Z (rs h).toNat) ((rs h).toNat % 16))
        have c := Nat.mul_le_mul_right (16 ^ n) (sub_cap hZ (rs h).toNat)
        omega
    · simp; omega
theorem tp_cap {Z : T4} (hZ : Z4 Z) : ∃ B, ∀ P q, (tv Z (tp Z P) q).length ≤ B := by
  refine ⟨16 * 16 ^ 18, fun P q => ?_⟩
  have p : 1 ≤ 16 ^ 18 := Nat.one_le_pow 18 16 (by omega)
  unfold tv
  have := app_cap (θ := tp Z P) p (fun v => thF_cap hZ _ 18 _) (sub (nvt Z q) (q % 16))
  have c := Nat.mul_le_mul_right (16 ^ 18) (sub_cap hZ q)
  exact Nat.le_trans this c
