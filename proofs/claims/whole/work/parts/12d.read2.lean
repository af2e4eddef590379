/-! read: the reference -/
section READ2
variable {V : VV} {M : Mem} {Q : Int → Mem → Prop}
theorem m_read80 {x : Int} {p : List Int} (hx : 0 ≤ x ∧ x ≤ 5) (h0 : M 203 3 = p.length) (hp : padAt M 207 p) (h60 : p.length ≤ 60) (hr : ∀ x ∈ p, 33 ≤ x ∧ x ≤ 126) (hg : good p 0 0) (h16 : nl p ≤ 16)
    (h : ∀ M', Mt M' x (pR p).1 → Sl x M M' → Q (nl p) (mset M' 203 3 0)) : wp_X10_read_80 V x 0 0 M Q := by
  obtain ⟨wd, hlen⟩ := read_ok hg hr h16
  unfold wp_X10_read_80
  refine ⟨fun n j N => ∃ i : Nat, j = i ∧ i ≤ p.length ∧ n = nl (p.take i) ∧ (∀ q : Nat, q < nl (p.take i) → N 205 (32 * x + q) = lb (pR p).1 q ∧ N 206 (32 * x + q) = ar (pR p).1 q) ∧ Sl x M N, fun _ j _ => (61 - j).toNat, ⟨0, rfl, by omega, by simp [nl], fun q hq => by simp [nl] at hq, fun _ _ _ _ => rfl⟩, ?_⟩
  rintro n j N ⟨i, rfl, hi, rfl, hN, hS⟩
  have n0 : N 203 3 = p.length := by rw [hS _ _ (by omega) (by omega)]; exact h0
  have npd : ∀ {q : Nat}, q < p.length → N 207 q = p.getD q 0 := fun {q} hq => by rw [hS _ _ (by omega) (by omega)]; exact hp.get hq
  unfold wp_X10_read_80_b
  rw [n0]
  refine ⟨fun g => ⟨by omega, ?_⟩, fun g => ⟨by omega, ?_⟩⟩
  · have hil : i = p.length := by omega
    subst hil
    rw [List.take_length] at hN ⊢
    intro M5 h5
    refine h M5 ⟨by rw [h5, mset_same, hlen], fun q hq => ?_⟩ (fun c j a b => ?_)
    · rw [h5, mset_cell _ (by omega), mset_cell _ (by omega)]; exact hN q (by omega)
    · rw [h5, show mset N 204 x (nl p : Int) c j = N c j from if_neg a]; exact hS c j a b
  · have hil : i < p.length := by omega
    have hs := nl_succ hil
    have hle := nl_mono (p := p) (i := i + 1) (j := p.length) (by omega) (by omega)
    rw [List.take_length] at hle
    rw [npd hil, w_succ (by omega)]
    have skip : (p.getD i 0 = 40 ∨ p.getD i 0 = 41) → (∃ i' : Nat, (i : Int) + 1 = i' ∧ i' ≤ p.length ∧ ((nl (p.take i) : Nat) : Int) = nl (p.take i') ∧ (∀ q : Nat, q < nl (p.take i') → N 205 (32 * x + q) = lb (pR p).1 q ∧ N 206 (32 * x + q) = ar (pR p).1 q) ∧ Sl x M N) ∧ (61 - ((i : Int) + 1)).toNat < (61 - (i : Int)).toNat := by
      intro q
      rw [if_pos q] at hs
      exact ⟨⟨i + 1, by omega, by omega, by omega, by rw [hs]; exact hN, hS⟩, by omega⟩
    refine ⟨fun c => skip (Or.inl c), fun c => ⟨by omega, fun d => skip (Or.inr d), fun d => ⟨by omega, ?_⟩⟩⟩
    rw [if_neg (by omega)] at hs
    have hnl : ¬ (p.getD i 0 = 40 ∨ p.getD i 0 = 41) := by omega
    have hli := pR_len (p := p) i hi
    obtain ⟨sc0, sl0, slb⟩ := Scn.start hil hnl
    obtain ⟨e1, e2⟩ := w_idx (x := x) (i := nl (p.take i)) (by omega) (by omega) (by omega)
    rw [e1]
    clear e1
    refine ⟨e2, ?_⟩
    generalize hM1 : mset N 205 (32 * x + (nl (p.take i) : Int)) (p.getD i 0) = M1
    have f1 : ∀ c j : Int, ¬ (c = 205 ∧ j = 32 * x + (nl (p.take i) : Int)) → M1 c j = N c j := fun c j a => by rw [← hM1]; exact if_neg a
    have m1 : M1 205 (32 * x + (nl (p.take i) : Int)) = p.getD i 0 := by rw [← hM1, mset_same]
    have mp1 : ∀ {q : Nat}, q < p.length → M1 207 q = p.getD q 0 := fun {q} hq => by rw [f1 _ _ (by omega)]; exact npd hq
    have m10 : M1 203 3 = p.length := by rw [f1 _ _ (by omega)]; exact n0
    clear hM1
    have fin : ∀ (c : Nat), ar (pR p).1 (pR (p.take i)).1.length = c → wp_X10_read_264 V x (nl (p.take i)) i c M1 Q (fun z2 z3 N1 => (∃ i : Nat, z3 = i ∧ i ≤ p.length ∧ z2 = nl (p.take i) ∧ (∀ q : Nat, q < nl (p.take i) → N1 205 (32 * x + q) = lb (pR p).1 q ∧ N1 206 (32 * x + q) = ar (pR p).1 q) ∧ Sl x M N1) ∧ (61 - z3).toNat < (61 - (i : Int)).toNat) := by
      intro c hc
      unfold wp_X10_read_264
      obtain ⟨e1, -⟩ := w_idx (x := x) (i := nl (p.take i)) (by omega) (by omega) (by omega)
      rw [e1, w_succ (by omega), w_succ (by omega)]
      clear e1
      refine ⟨e2, ⟨i + 1, by omega, by omega, by omega, fun q hq => ?_, fun c' j a b => ?_⟩, by omega⟩
      · by_cases eq : q = nl (p.take i)
        · subst eq
          rw [mset_cell _ (by omega), mset_same, m1]
          have := lb_stab (p := p) (n := (pR (p.take i)).1.length) (p.length - (i + 1)) (i + 1) (by omega) (by omega)
          rw [slb, hli] at this
          rw [hli] at hc
          exact ⟨this.symm, by rw [hc]⟩
        · rw [mset_cell _ (by omega), mset_idx _ _ _ (by omega), f1 _ _ (by omega), f1 _ _ (by omega)]
          exact hN q (by omega)
      · rw [show mset M1 206 (32 * x + (nl (p.take i) : Int)) (c : Int) c' j = M1 c' j from if_neg (by omega), f1 _ _ (by omega)]
        exact hS c' j a b
    unfold wp_X10_read_138
    refine ⟨fun y4 y5 y6 => ∃ (k d c : Nat), y6 = k ∧ y5 = d ∧ y4 = c ∧ i + 1 ≤ k ∧ k ≤ p.length ∧ Scn p i k d c ∧ (k = i + 1 → d = 0) ∧ (i + 1 < k → 0 < d ∨ p.getD (k - 1) 0 = 41) ∧ d ≤ k ∧ c ≤ k, fun _ _ y6 => (61 - y6).toNat, ⟨i + 1, 0, 0, by omega, rfl, rfl, by omega, by omega, sc0, fun _ => rfl, fun q => by omega, by omega, by omega⟩, ?_⟩
    rintro y4 y5 y6 ⟨k, d', c', rfl, rfl, rfl, hk1, hk2, hsc, ha, hb, hd60, hc60⟩
    unfold wp_X10_read_138_b
    rw [m10, w_succ (by omega)]
    refine ⟨fun g1 => fin c' (hsc.fin hg hr hk2 hk1 (Or.inl (by omega))), fun g1 => ?_⟩
    have hkl : k < p.length := by omega
    have go : ((k = i + 1 ∧ d' = 0 ∧ p.getD k 0 = 40 ∧ (pR (p.take k)).1.length = (pR (p.take i)).1.length + 1) ∨ 0 < d') → wp_X10_read_180 V x (nl (p.take i)) i c' d' k M1 Q (fun z2 z3 N1 => (∃ i : Nat, z3 = i ∧ i ≤ p.length ∧ z2 = nl (p.take i) ∧ (∀ q : Nat, q < nl (p.take i) → N1 205 (32 * x + q) = lb (pR p).1 q ∧ N1 206 (32 * x + q) = ar (pR p).1 q) ∧ Sl x M N1) ∧ (61 - z3).toNat < (61 - (i : Int)).toNat) (fun z4 z5 z6 => (∃ (k d c : Nat), z6 = k ∧ z5 = d ∧ z4 = c ∧ i + 1 ≤ k ∧ k ≤ p.length ∧ Scn p i k d c ∧ (k = i + 1 → d = 0) ∧ (i + 1 < k → 0 < d ∨ p.getD (k - 1) 0 = 41) ∧ d ≤ k ∧ c ≤ k) ∧ (61 - z6).toNat < (61 - (k : Int)).toNat) := by
      intro hc
      have st := hsc.step hg hr hkl hk1 hc
      unfold wp_X10_read_180 wp_X10_read_215 wp_X10_read_254 wp_X10_read_255
      rw [mp1 hkl, w32_id (x := (d' : Int) + 1) (by omega) (by omega), w32_id (x := (d' : Int) + -1) (by omega) (by omega), w32_id (x := (d' : Int) + 0) (by omega) (by omega), w32_id (x := (c' : Int) + 0) (by omega) (by omega), w_succ (by omega), w_succ (by omega)]
      refine ⟨by omega, fun s1 => ?_, fun s1 => ⟨by omega, fun s2 => ?_, fun s2 => ?_⟩⟩
      · rw [if_pos s1, if_neg (by omega)] at st
        have nx : (∃ (k' d c : Nat), (k : Int) + 1 = k' ∧ (d' : Int) + 1 = d ∧ (c' : Int) + 0 = c ∧ i + 1 ≤ k' ∧ k' ≤ p.length ∧ Scn p i k' d c ∧ (k' = i + 1 → d = 0) ∧ (i + 1 < k' → 0 < d ∨ p.getD (k' - 1) 0 = 41) ∧ d ≤ k' ∧ c ≤ k') ∧ (61 - ((k : Int) + 1)).toNat < (61 - (k : Int)).toNat := ⟨⟨k + 1, d' + 1, c', by omega, by omega, by omega, by omega, by omega, st, fun q => by omega, fun _ => Or.inl (by omega), by omega, by omega⟩, by omega⟩
        exact ⟨fun _ => ⟨by omega, fun _ => nx, fun q => absurd s1 q⟩, fun _ => nx⟩
      · have hd0 : 0 < d' := by
          rcases hc with ⟨-, -, q, -⟩ | q
          · exact absurd q s1
          · exact q
        rw [if_neg s1, if_pos s2, if_neg (by omega)] at st
        have nx : (∃ (k' d c : Nat), (k : Int) + 1 = k' ∧ (d' : Int) + -1 = d ∧ (c' : Int) + 0 = c ∧ i + 1 ≤ k' ∧ k' ≤ p.length ∧ Scn p i k' d c ∧ (k' = i + 1 → d = 0) ∧ (i + 1 < k' → 0 < d ∨ p.getD (k' - 1) 0 = 41) ∧ d ≤ k' ∧ c ≤ k') ∧ (61 - ((k : Int) + 1)).toNat < (61 - (k : Int)).toNat := ⟨⟨k + 1, d' - 1, c', by omega, by omega, by omega, by omega, by omega, st, fun q => by omega, fun _ => Or.inr (by rw [Nat.add_sub_cancel]; exact s2), by omega, by omega⟩, by omega⟩
        exact ⟨fun _ => ⟨by omega, fun q => absurd q s1, fun _ => ⟨by omega, fun _ => nx, fun q => absurd s2 q⟩⟩, fun _ => nx⟩
      · have hd0 : 0 < d' := by
          rcases hc with ⟨-, -, q, -⟩ | q
          · exact absurd q s1
          · exact q
        rw [if_neg s1, if_neg s2] at st
        refine ⟨fun q => ⟨by omega, fun z => absurd z s1, fun _ => ⟨by omega, fun z => absurd z s2, fun _ => ?_⟩⟩, fun q => ?_⟩
        · rw [if_pos ⟨by omega, by omega⟩] at st
          exact ⟨⟨k + 1, d', c' + 1, by omega, by omega, by omega, by omega, by omega, st, fun q => by omega, fun _ => Or.inl (by omega), by omega, by omega⟩, by (try dsimp only); omega⟩
        · rw [if_neg (by omega)] at st
          exact ⟨⟨k + 1, d', c', by omega, by omega, by omega, by omega, by omega, st, fun q => by omega, fun _ => Or.inl (by omega), by omega, by omega⟩, by (try dsimp only); omega⟩
    unfold wp_X10_read_167
    rw [mp1 hkl, w_succ (by omega)]
    refine ⟨fun g2 => ⟨fun g3 => by omega, fun g3 => ⟨fun g4 => fin c' (hsc.fin hg hr hk2 hk1 (Or.inr ⟨by omega, Or.inr ?_⟩)), fun g4 => go (Or.inr (by omega))⟩⟩, fun g2 => ⟨by omega, fun g3 => ⟨fun g4 => ?_, fun g4 => by omega⟩, fun g3 => ?_⟩⟩
    · rcases hb (by omega) with q | q
      · omega
      · exact q
    · have hki : k = i + 1 := by omega
      subst hki
      exact go (Or.inl ⟨rfl, ha rfl, g3, sl0⟩)
    · have hki : k = i + 1 := by omega
      subst hki
      exact fin c' (hsc.fin hg hr hk2 hk1 (Or.inr ⟨ha rfl, Or.inl g3⟩))
theorem op_read {t : Int} (hR : Rel M) : R_X9_read V t M (fun r1 M1 => R_X10_read V t M1 (fun r2 M2 => r1 = r2 ∧ Rel M2)) := by
  obtain ⟨σ, hI, hC, hM⟩ := hR
  apply of_X9_read
  unfold wp_X9_read
  apply x_treeAt
  by_cases ht : 0 ≤ t ∧ t ≤ 5
  · rw [if_pos ht]
    refine ⟨fun c => by omega, fun _ => ?_⟩
    refine x_firstFault hC.1 hC.2.1 hI.1 hI.2.1 ?_
    refine ⟨fun c => ?_, fun c => ?_⟩
    · have hg := (fgo_good _ _ _ _).mp c
      refine x_nodeCount hC.1 hC.2.1 hI.1 ?_
      have mrd : ∀ (N : Mem) (Q' : Int → Mem → Prop), RelM N σ → (16 < nl σ.pad → Q' (-4) N) → (nl σ.pad ≤ 16 → ∀ M', Mt M' t (pR σ.pad).1 → Sl t N M' → Q' (nl σ.pad) (mset M' 203 3 0)) → R_X10_read V t N Q' := by
        intro N Q' hN q1 q2
        apply of_X10_read
        unfold wp_X10_read
        apply m_isTree
        rw [if_pos ht]
        refine ⟨fun c => by omega, fun _ => ?_⟩
        refine m_faultOf hN.1 hN.2.1 hI.1 ?_
        rw [if_pos c]
        refine ⟨fun _ => ?_, fun c => by omega⟩
        unfold wp_X10_read_23
        refine ⟨fun n j => ∃ i : Nat, j = i ∧ i ≤ σ.pad.length ∧ n = nl (σ.pad.take i), fun _ j => (61 - j).toNat, ⟨0, rfl, by omega, by simp [nl]⟩, ?_⟩
        rintro n j ⟨i, rfl, hi, rfl⟩
        have h60 := hI.1
        unfold wp_X10_read_23_b wp_X10_read_54 wp_X10_read_59
        rw [hN.1]
        refine ⟨fun g => ?_, fun g => ?_⟩
        · have : i = σ.pad.length := by omega
          subst this
          rw [List.take_length]
          refine ⟨fun l => m_read80 ht hN.1 hN.2.1 hI.1 hI.2.1 hg (by omega) (q2 (by omega)), fun l => q1 (by omega)⟩
        · have hil : i < σ.pad.length := by omega
          have hs := nl_succ hil
          have hb : nl (σ.pad.take i) ≤ i := by
            have h1 := List.length_filter_le (fun m : Int => !(m == 40) && !(m == 41)) (σ.pad.take i)
            have h2 := List.length_take_le i σ.pad
            unfold nl; omega
          rw [hN.2.1.get hil, w_succ (by omega), w32_id (x := _ + (0 : Int)) (by omega) (by omega), w_succ (by omega)]
          refine ⟨by omega, fun c => ⟨⟨i + 1, by omega, by omega, ?_⟩, by (try dsimp only); omega⟩, fun c => ⟨by omega, fun d => ⟨⟨i + 1, by omega, by omega, ?_⟩, by (try dsimp only); omega⟩, fun d => ⟨⟨i + 1, by omega, by omega, ?_⟩, by (try dsimp only); omega⟩⟩⟩
          · rw [hs, if_pos (Or.inl c)]; simp
          · rw [hs, if_pos (Or.inr d)]; simp
          · rw [hs, if_neg (by omega)]; simp
      refine ⟨fun d => ?_, fun d => ?_⟩
      · obtain ⟨wd, hlen⟩ := read_ok hg hI.2.1 (by omega)
        refine x_parse hC.1 hC.2.1 hI.1 hI.2.1 hg (by omega) (fun M1 c1 f1 => ?_)
        intro M2 h2
        have f2 : ∀ c j : Int, c ≠ 1 → M2 c j = M1 c j := fun c j a => by rw [h2, mset_cell _ a]
        have hI0 : Inv ([], σ.2) := ⟨Nat.zero_le _, fun x hx => absurd hx List.not_mem_nil, hI.2.2⟩
        have hC1 : RelC M1 σ := hC.core hI (fun c j hc => f1 _ _ (by unfold cor at hc; omega))
        have hC2 : RelC M2 ([], σ.2) := hC1.pad hI [] (by rw [h2, mset_same]; rfl) (fun i y hy => by simp at hy) (fun c j a _ => f2 c j a)
        refine x_become ht (c1.fr (fun c j _ _ => f2 _ _ (by omega))) wd.1.1 (fun M3 c3 k3 f3 => ?_)
        have hI3 : Inv (trSet ([], σ.2) t (pR σ.pad).1) := hI0.tree t wd
        have hC3 : RelC M3 (trSet ([], σ.2) t (pR σ.pad).1) := hC2.tree hI0 ht c3 k3 (fun c j a b d _ _ => f3 _ _ b d)
        have hM3 : RelM M3 σ := hM.fr (fun c j hc => by rw [f3 _ _ (by omega) (by omega), f2 _ _ (by omega), f1 _ _ (by omega)])
        refine mrd M3 _ hM3 (fun q => by omega) (fun _ M4 m4 s4 => ?_)
        have hM4 : RelM M4 (trSet σ t (pR σ.pad).1) := hM3.tree hI ht m4 (fun c j _ a b => s4 c j a b)
        refine ⟨by rw [hlen], trSet ([], σ.2) t (pR σ.pad).1, hI3, hC3.fr hI3 (fun c j hc => by rw [mset_cell _ (by omega), s4 _ _ (by omega) (by omega)]), ?_⟩
        exact hM4.pad [] (mset_same _ _ _ _) (fun i y hy => by simp at hy) (fun c j a _ => if_neg a)
      · exact mrd M _ hM (fun _ => ⟨rfl, σ, hI, hC, hM⟩) (fun q => by omega)
    · apply of_X10_read
      unfold wp_X10_read
      apply m_isTree
      rw [if_pos ht]
      refine ⟨fun c => by omega, fun _ => ?_⟩
      refine m_faultOf hM.1 hM.2.1 hI.1 ?_
      rw [if_neg c]
      exact ⟨fun q => absurd q c, fun _ => ⟨rfl, σ, hI, hC, hM⟩⟩
  · rw [if_neg ht]
    refine ⟨fun _ => ?_, fun c => by omega⟩
    apply of_X10_read
    unfold wp_X10_read
    apply m_isTree
    rw [if_neg ht]
    exact ⟨fun _ => ⟨rfl, σ, hI, hC, hM⟩, fun c => by omega⟩
end READ2
