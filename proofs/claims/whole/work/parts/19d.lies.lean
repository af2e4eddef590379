/-! the reference: does a hole lie within -/
theorem nar_sum {Z : T4} (hZ : Z4 Z) : jS (fun c => nar Z c) 64 ≤ 60 := by
  have one : ∀ (t : T), Wd t → jS (fun p => ar t p) 16 ≤ 15 := fun t w => by
    by_cases h : t = []
    · have : jS (fun p => ar t p) 16 = jS (fun _ => 0) 16 := jS_congr 16 (fun c _ => by rw [h]; simp [ar])
      rw [this, jS_zero]; omega
    · have := ars_sum t 1 16 (w.1.2 h) w.1.1
      have := w.1.1
      omega
  have c0 : jS (fun c => nar Z c) 16 = jS (fun p => ar Z.1 p) 16 := jS_congr 16 (fun c hc => by unfold nar nt; rw [if_pos hc, Nat.mod_eq_of_lt hc])
  have c1 : jS (fun c => nar Z (16 + c)) 16 = jS (fun p => ar Z.2.1 p) 16 := jS_congr 16 (fun c hc => by unfold nar nt; rw [if_neg (by omega), if_pos (by omega), show (16 + c) % 16 = c by omega])
  have c2 : jS (fun c => nar Z (16 + (16 + c))) 16 = jS (fun p => ar Z.2.2.1 p) 16 := jS_congr 16 (fun c hc => by unfold nar nt; rw [if_neg (by omega), if_neg (by omega), if_pos (by omega), show (16 + (16 + c)) % 16 = c by omega])
  have c3 : jS (fun c => nar Z (16 + (16 + (16 + c)))) 16 = jS (fun p => ar Z.2.2.2 p) 16 := jS_congr 16 (fun c hc => by unfold nar nt; rw [if_neg (by omega), if_neg (by omega), if_neg (by omega), show (16 + (16 + (16 + c))) % 16 = c by omega])
  have e : jS (fun c => nar Z c) 64 = jS (fun p => ar Z.1 p) 16 + (jS (fun p => ar Z.2.1 p) 16 + (jS (fun p => ar Z.2.2.1 p) 16 + jS (fun p => ar Z.2.2.2 p) 16)) := by
    rw [show 64 = 16 + (16 + (16 + 16)) from rfl, jS_add, jS_add, jS_add, c0, c1, c2, c3]
  have o0 := one _ hZ.1
  have o1 := one _ hZ.2.1
  have o2 := one _ hZ.2.2.1
  have o3 := one _ hZ.2.2.2
  omega
theorem nar_le {Z : T4} (hZ : Z4 Z) {q : Nat} (hq : q < 64) : nar Z q ≤ 60 := by
  have := nar_sum hZ
  have gen : ∀ n, q < n → nar Z q ≤ jS (fun c => nar Z c) n := by
    intro n
    induction n with
    | zero => intro h; omega
    | succ n ih =>
      intro h
      unfold jS
      by_cases e : q = n
      · subst e; omega
      · have := ih (by omega); omega
  have := gen 64 hq
  omega
theorem nch_mono (Z : T4) (x j : Nat) : x < nch Z x j := by
  unfold nch
  have := chd_mono (nt Z x) (x % 16) (Nat.zero_le j)
  rw [chd_zero] at this
  omega
/-- a stack in memory -/
def StM (M : Mem) (c : Int) (st : List Nat) : Prop := ∀ (d e : Nat), st[d]? = some e → M c d = e
theorem StM.push {M : Mem} {c : Int} {st : List Nat} (h : StM M c st) (e : Nat) : StM (mset M c st.length e) c (st ++ [e]) := by
  intro d x hd
  by_cases hl : d < st.length
  · rw [List.getElem?_append_left hl] at hd
    have : ¬ (c = c ∧ (d : Int) = (st.length : Nat)) := fun z => by omega
    unfold mset
    rw [if_neg this]; exact h d x hd
  · rw [List.getElem?_append_right (by omega)] at hd
    have hz : d - st.length = 0 := by
      rcases Nat.eq_zero_or_pos (d - st.length) with q | q
      · exact q
      · rw [List.getElem?_eq_none (by simp; omega)] at hd; cases hd
    rw [hz] at hd
    simp only [List.getElem?_cons_zero, Option.some.injEq] at hd
    have : d = st.length := by omega
    rw [this, mset_same, hd]
theorem StM.pop {M : Mem} {c : Int} {st : List Nat} {e : Nat} (h : StM M c (st ++ [e])) : StM M c st ∧ M c st.length = e :=
  ⟨fun d x hd => h d x (by
    have hl : d < st.length := by
      rcases Nat.lt_or_ge d st.length with q | q
      · exact q
      · rw [List.getElem?_eq_none q] at hd; cases hd
    rw [List.getElem?_append_left hl]; exact hd), h st.length e (by simp)⟩
theorem StM.fr {M M' : Mem} {c : Int} {st : List Nat} (h : StM M c st) (hf : ∀ j : Int, M' c j = M c j) : StM M' c st := fun d e hd => by rw [hf]; exact h d e hd
section LIES
variable {V : VV} {M : Mem} {Q : Int → Mem → Prop} {Z : T4} {ρ : Nat → Nat}
/-- known to hold no hole g: it waits, or it was followed to a hole, or to a node that was seen -/
def Gd (Z : T4) (P : Nat → Int) (g : Nat) (S : Nat) (st : List Nat) (e : Nat) : Prop := e ∈ st ∨ ∃ n, Fo Z P e n ∧ ((hol Z n = true ∧ nh Z n ≠ g) ∨ (hol Z n = false ∧ S.testBit n = true))
theorem gd_no (hZ : Z4 Z) {P : Nat → Int} (hA : Ac Z P ρ) {g S : Nat} (hS : ∀ c, S.testBit c = true → nOK Z c ∧ hol Z c = false ∧ ∀ k, k < nar Z c → Gd Z P g S [] (nch Z c k)) : ∀ (N e : Nat), (tv Z (tp Z P) e).length ≤ N → Gd Z P g S [] e → ∀ p ∈ tv Z (tp Z P) e, p.1 ≠ vr g
  | 0, e, hN, _, p, hp => by
    have := List.length_pos_of_mem hp
    omega
  | N + 1, e, hN, hG, p, hp => by
    rcases hG with z | ⟨n, hF, hn⟩
    · simp at z
    · rcases hn with ⟨h1, h2⟩ | ⟨h1, h2⟩
      · rw [fo_hole hZ hA hF h1] at hp
        rw [List.mem_singleton.mp hp]
        intro e'
        unfold vr at e'; simp only at e'; omega
      · rw [fo_node hZ hA hF h1] at hp hN
        have lab := (tv_node (τ := tp Z P) hZ hF.1 h1).2.1
        rcases List.mem_cons.mp hp with z | z
        · rw [z]; intro e'; have := vr_lt g; simp only at e'; omega
        · obtain ⟨k, hk, hpk⟩ := List.mem_flatMap.mp z
          have hk' := List.mem_range.mp hk
          have lt := tv_lt (τ := tp Z P) hZ hF.1 h1 hk'
          rw [(tv_node hZ hF.1 h1).1] at lt
          exact gd_no hZ hA hS N _ (by omega) ((hS n h2).2.2 k hk') p hpk
/-- what the search has left to do -/
def unS (Z : T4) (S : Nat) : Nat := jS (fun c => if S.testBit c then 0 else nar Z c) 64
theorem unS_or (Z : T4) {S n : Nat} (hn : n < 64) (hS : S.testBit n = false) : unS Z (S ||| 2 ^ n) + nar Z n = unS Z S := by
  have := jS_upd (f := fun c => if S.testBit c then 0 else nar Z c) (g := fun c => if (S ||| 2 ^ n).testBit c then 0 else nar Z c) 64 hn (fun c _ hc => by
    have : (S ||| 2 ^ n).testBit c = S.testBit c := by
      rw [Nat.testBit_or, Nat.testBit_two_pow_of_ne (by omega), Bool.or_false]
    simp only [this])
  have e1 : (S ||| 2 ^ n).testBit n = true := by rw [Nat.testBit_or, Nat.testBit_two_pow_self, Bool.or_true]
  simp only [e1, hS, if_true, Bool.false_eq_true, if_false] at this
  unfold unS
  omega
theorem m_liesIn {g q : Nat} (hZ : Z4 Z) (hm : Md Z M) (hA : Ac Z (pM M) ρ) (hP : ∀ h, h < 16 → 0 ≤ pM M h → pM M h < 32) (hq : nOK Z q) (hq32 : q < 32)
    (h0 : ∀ M' : Mem, (∀ c j : Int, c ≠ 234 → M' c j = M c j) → (∀ p ∈ tv Z (tp Z (pM M)) q, p.1 ≠ vr g) → Q 0 M') (h1 : ∀ M' : Mem, (∀ c j : Int, c ≠ 234 → M' c j = M c j) → (∃ p ∈ tv Z (tp Z (pM M)) q, p.1 = vr g) → Q 1 M') : R_X10_liesIn V g q M Q := by
  have un0 : unS Z 0 ≤ 60 := by
    have := nar_sum hZ
    unfold unS
    simpa using this
  apply of_X10_liesIn
  unfold wp_X10_liesIn
  refine ⟨by omega, ?_⟩
  unfold wp_X10_liesIn_12
  refine ⟨fun y3 y4 N => ∃ (st : List Nat) (S : Nat), y3 = st.length ∧ y4 = S ∧ S < 2 ^ 32 ∧ StM N 234 st ∧ (∀ c j : Int, c ≠ 234 → N c j = M c j) ∧ (∀ e ∈ st, nOK Z e ∧ e < 32 ∧ ∀ p ∈ tv Z (tp Z (pM M)) e, p ∈ tv Z (tp Z (pM M)) q) ∧ (∀ c, S.testBit c = true → nOK Z c ∧ hol Z c = false ∧ ∀ k, k < nar Z c → Gd Z (pM M) g S st (nch Z c k)) ∧ Gd Z (pM M) g S st q ∧ st.length + unS Z S ≤ 61, fun y3 y4 _ => y3.toNat + unS Z y4.toNat, ⟨[q], 0, rfl, rfl, by omega, ?_, fun c j hc => mset_cell _ hc _ _ _, fun e he => ?_, fun c hc => ?_, Or.inl (by simp), by simp; omega⟩, ?_⟩
  · have := StM.push (M := M) (c := 234) (st := []) (fun d e h => by simp at h) q
    exact this
  · simp at he; rw [he]; exact ⟨hq, hq32, fun p hp => hp⟩
  · simp at hc
  rintro y3 y4 N ⟨st, S, rfl, rfl, hS32, hst, hf, hok, hcl, hgq, hbd⟩
  unfold wp_X10_liesIn_12_b
  refine ⟨fun z => ?_, fun z => ?_⟩
  · have : st = [] := List.length_eq_zero_iff.mp (by omega)
    subst this
    exact h0 N hf (gd_no hZ hA hcl _ q (Nat.le_refl _) hgq)
  · obtain ⟨st', e, rfl⟩ : ∃ st' e, st = st' ++ [e] := ⟨st.dropLast, st.getLast (fun w => by rw [w] at z; simp at z), (List.dropLast_concat_getLast _).symm⟩
    have hl : (st' ++ [e]).length = st'.length + 1 := by simp
    rw [hl] at z hbd ⊢
    have ev : w32 (((st'.length + 1 : Nat) : Int) + (-1)) = st'.length := by rw [w32_id (by omega) (by omega)]; omega
    rw [ev]
    clear ev
    obtain ⟨hst', top⟩ := hst.pop
    rw [top]
    have mdN : Md Z N := hm.fr hZ (fun c j a1 _ _ _ => hf c j (by omega))
    have pN : pM N = pM M := by funext x; exact hf 232 _ (by omega)
    obtain ⟨oe1, oe2, oe3⟩ := hok e (by simp)
    refine ⟨by omega, ?_⟩
    refine m_follow hZ mdN (by rw [pN]; exact hA) oe1 (fun n hF => ?_)
    rw [pN] at hF
    have n32 : n < 32 := by
      rcases hF.2.2.2.2 with w | ⟨x, x1, x2⟩
      · omega
      · have := hP x x1 (by omega); omega
    refine m_holeAt hZ mdN hF.1 ?_
    have teq := hF.2.2.1 _ (tp_kp hZ hA)
    /- what is known stays known when e is done with -/
    have keep : ∀ {S' : Nat} {x : Nat} {st2 : List Nat}, (∀ c, S.testBit c = true → S'.testBit c = true) → (∀ y ∈ st', y ∈ st2) → ((hol Z n = true ∧ nh Z n ≠ g) ∨ (hol Z n = false ∧ S'.testBit n = true)) → Gd Z (pM M) g S (st' ++ [e]) x → Gd Z (pM M) g S' st2 x := by
      intro S' x st2 hs hs2 hn hx
      rcases hx with w | ⟨n', f', w⟩
      · rcases List.mem_append.mp w with w | w
        · exact Or.inl (hs2 x w)
        · rw [List.mem_singleton.mp w]; exact Or.inr ⟨n, hF, hn⟩
      · refine Or.inr ⟨n', f', ?_⟩
        rcases w with w | w
        · exact Or.inl w
        · exact Or.inr ⟨w.1, hs _ w.2⟩
    cases hh : hol Z n with
    | true =>
      simp only [if_true]
      have eqt : tv Z (tp Z (pM M)) e = [(vr (nh Z n), 0)] := fo_hole hZ hA hF hh
      refine ⟨fun w => ?_, fun w => ⟨fun _ => ?_, fun w' => by omega⟩⟩
      · have : nh Z n = g := by omega
        exact h1 N hf ⟨(vr g, 0), oe3 _ (by rw [eqt, this]; simp), rfl⟩
      · have hne : nh Z n ≠ g := fun w' => w (by rw [w'])
        refine ⟨⟨st', S, rfl, rfl, hS32, hst', hf, fun x hx => hok x (by simp [hx]), fun c hc => ?_, keep (fun _ h => h) (fun _ h => h) (Or.inl ⟨hh, hne⟩) hgq, by omega⟩, by (try dsimp only); omega⟩
        obtain ⟨a1, a2, a3⟩ := hcl c hc
        exact ⟨a1, a2, fun k hk => keep (fun _ h => h) (fun _ h => h) (Or.inl ⟨hh, hne⟩) (a3 k hk)⟩
    | false =>
      simp only [Bool.false_eq_true, if_false]
      refine ⟨fun w => by omega, fun _ => ⟨fun w => by omega, fun _ => ?_⟩⟩
      rw [b_test hS32 n32]
      cases hb : S.testBit n with
      | true =>
        simp only [if_true]
        refine ⟨fun w => absurd w (by decide), fun _ => ⟨⟨st', S, rfl, rfl, hS32, hst', hf, fun x hx => hok x (by simp [hx]), fun c hc => ?_, keep (fun _ h => h) (fun _ h => h) (Or.inr ⟨hh, hb⟩) hgq, by omega⟩, by (try dsimp only); omega⟩⟩
        obtain ⟨a1, a2, a3⟩ := hcl c hc
        exact ⟨a1, a2, fun k hk => keep (fun _ h => h) (fun _ h => h) (Or.inr ⟨hh, hb⟩) (a3 k hk)⟩
      | false =>
        simp only [Bool.false_eq_true, if_false]
        refine ⟨fun _ => ?_, fun w => absurd (by decide) w⟩
        obtain ⟨o1, o2⟩ := b_or hS32 n32
        have un := unS_or Z (n := n) (by omega) hb
        have e1 : (S ||| 2 ^ n).testBit n = true := by rw [Nat.testBit_or, Nat.testBit_two_pow_self, Bool.or_true]
        have mono : ∀ c, S.testBit c = true → (S ||| 2 ^ n).testBit c = true := fun c hc => by rw [Nat.testBit_or, hc, Bool.true_or]
        have nl := nar_le hZ hF.1.1
        rw [o1]
        clear o1
        unfold wp_X10_liesIn_82
        refine ⟨fun y3 y8 y9 N2 => ∃ k : Nat, y9 = k ∧ k ≤ nar Z n ∧ y8 = (nch Z n k : Nat) ∧ y3 = ((st'.length + k : Nat) : Int) ∧ StM N2 234 (st' ++ (List.range k).map (fun j => nch Z n j)) ∧ (∀ c j : Int, c ≠ 234 → N2 c j = M c j), fun _ _ y9 _ => (nar Z n + 1 - y9).toNat, ⟨0, rfl, by omega, by rw [w32_id (by omega) (by omega), nch_zero]; omega, by simp, by simpa using hst', hf⟩, ?_⟩
        rintro y3 y8 y9 N2 ⟨k, rfl, hk, rfl, rfl, hs2, hf2⟩
        have mdN2 : Md Z N2 := hm.fr hZ (fun c j a1 _ _ _ => hf2 c j (by omega))
        unfold wp_X10_liesIn_82_b
        refine m_partsAt hZ mdN2 hF.1 ?_
        refine ⟨fun w => ?_, fun w => ⟨by omega, fun M7 h7 => ?_⟩⟩
        · have : k = nar Z n := by omega
          subst this
          refine ⟨⟨_, S ||| 2 ^ n, by simp, rfl, o2, hs2, hf2, fun x hx => ?_, fun c hc => ?_, keep mono (fun y hy => by simp [hy]) (Or.inr ⟨hh, e1⟩) hgq, by simp; omega⟩, by (try dsimp only); rw [Int.toNat_natCast, Int.toNat_natCast, Int.toNat_natCast, Int.toNat_natCast]; omega⟩
          · rcases List.mem_append.mp hx with w | w
            · exact hok x (by simp [w])
            · obtain ⟨j, hj, rfl⟩ := List.mem_map.mp w
              have hj' := List.mem_range.mp hj
              obtain ⟨c1, c2, -, -, -⟩ := nch_t hZ hF.1 hj'
              refine ⟨c1, by omega, fun p hp => oe3 p ?_⟩
              rw [fo_node hZ hA hF hh]
              exact List.mem_cons_of_mem _ (List.mem_flatMap.mpr ⟨j, hj, hp⟩)
          · by_cases ec : c = n
            · subst ec
              exact ⟨hF.1, hh, fun j hj => Or.inl (by simp; exact Or.inr ⟨j, hj, rfl⟩)⟩
            · have : S.testBit c = true := by
                rw [Nat.testBit_or, Nat.testBit_two_pow_of_ne (by omega), Bool.or_false] at hc; exact hc
              obtain ⟨a1, a2, a3⟩ := hcl c this
              exact ⟨a1, a2, fun j hj => keep mono (fun y hy => by simp [hy]) (Or.inr ⟨hh, e1⟩) (a3 j hj)⟩
        · have hk' : k < nar Z n := by omega
          obtain ⟨c1, -, -, -, -⟩ := nch_t hZ hF.1 hk'
          have f7 : ∀ c j : Int, c ≠ 234 → M7 c j = M c j := fun c j hc => by rw [h7, mset_cell _ hc, hf2 c j hc]
          have mdN7 : Md Z M7 := hm.fr hZ (fun c j a1 _ _ _ => f7 c j (by omega))
          refine m_sizeAt hZ mdN7 c1 ?_
          have nx := nch_succ hZ hF.1 hk'
          have c64 := c1.1
          have sz64 : nsz Z (nch Z n k) ≤ 16 := by
            have := sz_end c1.2
            have := (hZ.wd (nch Z n k)).1.1
            unfold nsz; omega
          refine ⟨⟨k + 1, by rw [w32_id (by omega) (by omega)]; omega, by omega, by rw [w32_id (by omega) (by omega), nx]; omega, by rw [w32_id (by omega) (by omega)]; omega, ?_, f7⟩, by (try dsimp only); rw [w32_id (x := (k : Int) + 1) (by omega) (by omega)]; omega⟩
          have pu := hs2.push (nch Z n k)
          rw [List.length_append, List.length_map, List.length_range, ← h7] at pu
          rw [List.range_succ, List.map_append, ← List.append_assoc]
          exact pu
end LIES
