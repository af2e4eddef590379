/-! the reference unifies -/
def wtT (Z : T4) (i : Nat) (τ : Int → T) (q : Nat) : Nat := if q = 64 then (tv Z τ i).length + 1 else (tv Z τ q).length
def UI (Z : T4) (i : Nat) (M : Mem) (y : Int) (N : Mem) : Prop := ∃ (w : List (Nat × Nat × Nat)) (ρ : Nat → Nat), y = w.length ∧ StM N 233 (w.map (fun e => e.1)) ∧ StM N 235 (w.map (fun e => e.2.1)) ∧ (∀ c j : Int, ¬ (232 ≤ c ∧ c ≤ 235) → N c j = M c j) ∧ Ac Z (pM N) ρ ∧ (∀ h, h < 16 → 0 ≤ pM N h → i < pM N h ∧ pM N h < 32) ∧
  (∀ e ∈ w, nOK Z e.1 ∧ nOK Z e.2.1 ∧ e.1 < 32 ∧ e.2.1 < 32 ∧ ((e.1 = i ∧ e.2.1 = 16) ∨ (i < e.1 ∧ i < e.2.1))) ∧
  (∀ τ, okθ τ → (tv Z τ i = tv Z τ 16 ↔ KP Z (pM N) τ ∧ ∀ e ∈ w, tv Z τ e.1 = tv Z τ e.2.1)) ∧
  (∀ τ, okθ τ → KP Z (pM N) τ → TS (wtT Z i τ) (w.map (fun e => (e.1, e.2.2)))) ∧ TC Z (w.map (fun e => (e.1, e.2.2)))
def μU (Z : T4) (B : Nat) (y : Int) (N : Mem) : Nat := jS (fun h => if N 232 h < 0 then 1 else 0) 16 * B + jS (fun d => (tv Z (tp Z (pM N)) (N 233 d).toNat).length) y.toNat
theorem snoc3 {α : Type} {l : List α} (h : l ≠ []) : ∃ l' e, l = l' ++ [e] := ⟨l.dropLast, l.getLast h, (List.dropLast_concat_getLast _).symm⟩
section UNIFY
variable {V : VV} {M : Mem} {Q : Int → Mem → Prop} {Z : T4}
theorem mu_eq {B : Nat} {y : Int} {N : Mem} {w : List (Nat × Nat × Nat)} (hy : y = w.length) (h : StM N 233 (w.map (fun e => e.1))) : μU Z B y N = jS (fun h => if N 232 h < 0 then 1 else 0) 16 * B + (w.map (fun e => (tv Z (tp Z (pM N)) e.1).length)).sum := by
  unfold μU
  rw [hy, Int.toNat_natCast, stm_sum (fun q => (tv Z (tp Z (pM N)) q).length) w.length (w.map (fun e => e.1)) (by simp) h, List.map_map]
  rfl
theorem m_unify {i : Nat} (hZ : Z4 Z) (hm : Md Z M) (hi : nOK Z i) (hi16 : i < 16) (h16 : nOK Z 16) (hhi : hol Z i = false) (hh16 : hol Z 16 = false)
    (h0 : ∀ M' : Mem, (∀ c j : Int, ¬ (232 ≤ c ∧ c ≤ 235) → M' c j = M c j) → (∀ τ, okθ τ → tv Z τ i ≠ tv Z τ 16) → Q 0 M')
    (h1 : ∀ (M' : Mem) (ρ : Nat → Nat), (∀ c j : Int, ¬ (232 ≤ c ∧ c ≤ 235) → M' c j = M c j) → Ac Z (pM M') ρ → (∀ h, h < 16 → 0 ≤ pM M' h → i < pM M' h ∧ pM M' h < 32) → (∀ τ, okθ τ → (tv Z τ i = tv Z τ 16 ↔ KP Z (pM M') τ)) → Q 1 M') : R_X10_unify V i 16 M Q := by
  obtain ⟨B0, hB0⟩ := tp_cap hZ
  apply of_X10_unify
  unfold wp_X10_unify wp_X10_unify_2
  refine ⟨fun y N => ∃ k : Nat, y = k ∧ k ≤ 16 ∧ (∀ c j : Int, c ≠ 232 → N c j = M c j) ∧ ∀ h : Nat, h < k → N 232 h = -6, fun y _ => (17 - y).toNat, ⟨0, rfl, by omega, fun _ _ _ => rfl, fun h hh => by omega⟩, ?_⟩
  rintro y N ⟨k, rfl, hk, hf, hp⟩
  unfold wp_X10_unify_2_b
  refine ⟨fun z => ⟨by omega, fun M1 e1 => ⟨by omega, ?_⟩⟩, fun z => ⟨by omega, ⟨k + 1, by rw [w32_id (by omega) (by omega)]; omega, by omega, fun c j hc => by rw [mset_cell _ hc]; exact hf c j hc, fun h hh => ?_⟩, by (try dsimp only); rw [w32_id (x := (k : Int) + 1) (by omega) (by omega)]; omega⟩⟩
  rotate_left
  · by_cases e : h = k
    · rw [e, mset_same]
    · unfold mset
      rw [if_neg (fun w => by omega)]
      exact hp h (by omega)
  have hk16 : k = 16 := by omega
  subst hk16
  have hpM : ∀ h, h < 16 → pM (mset M1 235 0 16) h < 0 := fun h hh => by
    unfold pM
    rw [mset_cell _ (by omega), e1, mset_cell _ (by omega), hp h hh]; omega
  unfold wp_X10_unify_38
  refine ⟨UI Z i M, μU Z (61 * B0 + 1), ⟨[(i, 16, 64)], fun _ => 0, rfl, ?_, ?_, fun c j hc => ?_, fun h hh hb => ?_, fun h hh hb => ?_, fun e he => ?_, fun τ ht => ?_, fun τ ht hk => ?_, ?_⟩, ?_⟩
  · have s := StM.push (M := N) (c := 233) (st := []) (fun d e h => by simp at h) i
    refine StM.fr s (fun j => ?_)
    rw [mset_cell _ (by omega), e1]; rfl
  · exact StM.push (M := M1) (c := 235) (st := []) (fun d e h => by simp at h) 16
  · rw [mset_cell _ (by omega), e1, mset_cell _ (by omega), hf c j (by omega)]
  · have := hpM h hh; omega
  · have := hpM h hh; omega
  · simp at he; rw [he]
    exact ⟨hi, h16, by show i < 32; omega, by show 16 < 32; omega, Or.inl ⟨rfl, rfl⟩⟩
  · constructor
    · intro e
      exact ⟨fun h hh hb => by have := hpM h hh; omega, fun x hx => by simp at hx; rw [hx]; exact e⟩
    · rintro ⟨-, e⟩
      exact e (i, 16, 64) (by simp)
  · refine ⟨by simp, fun e he => ?_⟩
    simp at he; rw [he]
    unfold wtT
    show (if i = 64 then (tv Z τ i).length + 1 else (tv Z τ i).length) < if 64 = 64 then (tv Z τ i).length + 1 else (tv Z τ 64).length
    rw [if_neg (by omega), if_pos rfl]; omega
  · refine ⟨fun e he => by simp at he; rw [he]; exact Nat.le_refl _, fun x => ?_⟩
    by_cases e : x = 64
    · rw [e]; simp
    · have : ([((i, 16, 64) : Nat × Nat × Nat)].map (fun e => (e.1, e.2.2))).map (fun e => e.2) = [64] := rfl
      rw [this, List.count_cons_of_ne (by omega)]
      simp
  clear hpM hp hf e1 z
  clear M1 hk N
  intro y N hU
  obtain ⟨w, ρ, rfl, hs1, hs2, hf, hA, hP, hw, hE, hT, hC⟩ := hU
  have mN : Md Z N := hm.fr hZ (fun c j a1 _ _ _ => hf c j a1)
  unfold wp_X10_unify_38_b
  refine ⟨fun z => ?_, fun z => ?_⟩
  · have : w = [] := List.length_eq_zero_iff.mp (by omega)
    subst this
    exact h1 N ρ hf hA hP (fun τ ht => by rw [hE τ ht]; simp)
  · obtain ⟨w', e, rfl⟩ := snoc3 (l := w) (fun q => by rw [q] at z; simp at z)
    have hmu := mu_eq (Z := Z) (B := 61 * B0 + 1) (y := ((w' ++ [e]).length : Nat)) (N := N) rfl hs1
    rw [hmu]
    clear hmu
    rw [List.map_append, List.sum_append, List.map_cons, List.map_nil, List.sum_singleton]
    rw [List.map_append] at hs1 hs2
    have hlen := tc_len hZ hC
    rw [List.length_map] at hlen
    have hl : (w' ++ [e]).length = w'.length + 1 := by simp
    rw [hl] at z hlen ⊢
    obtain ⟨s1, t1⟩ := StM.pop hs1
    obtain ⟨s2, t2⟩ := StM.pop hs2
    rw [List.length_map] at t1 t2
    dsimp only at t1 t2
    have ev : w32 (((w'.length + 1 : Nat) : Int) + (-1)) = w'.length := by rw [w32_id (by omega) (by omega)]; omega
    rw [ev, t1]
    clear ev
    obtain ⟨oe1, oe2, oe3, oe4, oe5⟩ := hw e (by simp)
    have hw' : ∀ x ∈ w', _ := fun x hx => hw x (by simp [hx])
    rw [List.map_append] at hC
    have hT' := fun τ ht hk => by have := hT τ ht hk; rw [List.map_append] at this; exact this
    have hC' := tc_pop hC
    have okp := tp_ok hZ hA
    have kpp := tp_kp hZ hA
    have e1pos := ok_pos (n := 0) (tv_ok hZ okp oe1)
    refine ⟨by omega, ?_⟩
    refine m_follow hZ mN hA oe1 (fun x hx => ⟨by omega, ?_⟩)
    rw [t2]
    refine m_follow hZ mN hA oe2 (fun y hy => ?_)
    refine m_holeAt hZ mN hx.1 ?_
    refine m_holeAt hZ mN hy.1 ?_
    have x32 : x < 32 := by
      rcases hx.2.2.2.2 with g | ⟨h, h1, h2⟩
      · omega
      · have := hP h h1 (by omega); omega
    have y32 : y < 32 := by
      rcases hy.2.2.2.2 with g | ⟨h, h1, h2⟩
      · omega
      · have := hP h h1 (by omega); omega
    have xi : i ≤ x := by
      rcases hx.2.2.2.2 with g | ⟨h, h1, h2⟩
      · rcases oe5 with q | q <;> omega
      · have := hP h h1 (by omega); omega
    have yi : i < y := by
      rcases hy.2.2.2.2 with g | ⟨h, h1, h2⟩
      · rcases oe5 with q | q <;> omega
      · have := hP h h1 (by omega); omega
    have par : ∀ τ, okθ τ → (tv Z τ i = tv Z τ 16 ↔ KP Z (pM N) τ ∧ (∀ e ∈ w', tv Z τ e.1 = tv Z τ e.2.1) ∧ tv Z τ x = tv Z τ y) := fun τ ht => by
      rw [hE τ ht]
      constructor
      · rintro ⟨k1, k2⟩
        refine ⟨k1, fun a ha => k2 a (by simp [ha]), ?_⟩
        rw [← hx.2.2.1 τ k1, ← hy.2.2.1 τ k1]; exact k2 e (by simp)
      · rintro ⟨k1, k2, k3⟩
        refine ⟨k1, fun a ha => ?_⟩
        rcases List.mem_append.mp ha with g | g
        · exact k2 a g
        · rw [List.mem_singleton.mp g, hx.2.2.1 τ k1, hy.2.2.1 τ k1]; exact k3
    /- both are one -/
    have same : (∀ τ, okθ τ → KP Z (pM N) τ → tv Z τ x = tv Z τ y) → UI Z i M (w'.length : Nat) N ∧ μU Z (61 * B0 + 1) (w'.length : Nat) N < jS (fun h => if N 232 h < 0 then 1 else 0) 16 * (61 * B0 + 1) + ((w'.map (fun e => (tv Z (tp Z (pM N)) e.1).length)).sum + (tv Z (tp Z (pM N)) e.1).length) := fun hxy => by
      refine ⟨⟨w', ρ, rfl, s1, s2, hf, hA, hP, hw', fun τ ht => ?_, fun τ ht hk => ts_pop (hT' τ ht hk), hC'⟩, ?_⟩
      · rw [par τ ht]
        exact ⟨fun q => ⟨q.1, q.2.1⟩, fun q => ⟨q.1, q.2, hxy τ ht q.1⟩⟩
      · rw [mu_eq (y := (w'.length : Nat)) (w := w') rfl s1]; omega
    have bind : ∀ g t : Nat, g < 16 → pM N g < 0 → nOK Z t → t < 32 → i < t → (hol Z t = true → pM N (nh Z t) < 0 ∧ nh Z t ≠ g) → (∀ τ, tv Z τ x = tv Z τ y ↔ τ (vr g) = tv Z τ t) → wp_X10_unify_128 V (w'.length : Nat) g t N Q (fun z3 N1 => UI Z i M z3 N1 ∧ μU Z (61 * B0 + 1) z3 N1 < jS (fun h => if N 232 h < 0 then 1 else 0) 16 * (61 * B0 + 1) + ((w'.map (fun e => (tv Z (tp Z (pM N)) e.1).length)).sum + (tv Z (tp Z (pM N)) e.1).length)) := by
      intro g t hg hgn ht1 ht2 ht3 ht4 hgt
      unfold wp_X10_unify_128
      refine m_liesIn hZ mN hA (fun h hh hb => (hP h hh hb).2) ht1 ht2 (fun M' f' no => ⟨fun _ => ⟨by omega, ?_⟩, fun q => absurd rfl q⟩) (fun M' f' yes => ⟨fun q => by omega, fun _ => ?_⟩)
      · have pe : pM (mset M' 232 g t) = pset (pM N) g t := by
          funext c
          unfold pM pset
          by_cases ec : c = g
          · rw [ec, mset_same, if_pos rfl]
          · unfold mset
            rw [if_neg (fun q => by omega), if_neg ec, f' 232 c (by omega)]
        have fr : ∀ c j : Int, c ≠ 232 → c ≠ 234 → mset M' 232 g t c j = N c j := fun c j a1 a2 => by rw [mset_cell _ a1, f' c j a2]
        obtain ⟨ρ', hA'⟩ := ac_set hZ hA hg hgn ht1 no
        have s1' := s1.fr (M' := mset M' 232 g t) (fun j => fr 233 j (by omega) (by omega))
        have s2' := s2.fr (M' := mset M' 232 g t) (fun j => fr 235 j (by omega) (by omega))
        refine ⟨⟨w', ρ', rfl, s1', s2', fun c j hc => by rw [fr c j (by omega) (by omega)]; exact hf c j hc, by rw [pe]; exact hA', fun h hh hb => ?_, hw', fun τ ht => ?_, fun τ ht hk => ?_, hC'⟩, ?_⟩
        · rw [pe] at hb ⊢
          unfold pset at hb ⊢
          by_cases eh : h = g
          · rw [if_pos eh]; omega
          · rw [if_neg eh] at hb ⊢; exact hP h hh hb
        · rw [pe, par τ ht, kp_set hg hgn]
          constructor
          · rintro ⟨a1, a2, a3⟩; exact ⟨⟨a1, (hgt τ).mp a3⟩, a2⟩
          · rintro ⟨⟨a1, a3⟩, a2⟩; exact ⟨a1, a2, (hgt τ).mpr a3⟩
        · rw [pe, kp_set hg hgn] at hk
          exact ts_pop (hT' τ ht hk.1)
        · rw [mu_eq (y := (w'.length : Nat)) (w := w') rfl s1']
          have cap : ∀ l : List (Nat × Nat × Nat), (l.map (fun e => (tv Z (tp Z (pM (mset M' 232 g t))) e.1).length)).sum ≤ l.length * B0 := by
            intro l
            induction l with
            | nil => simp
            | cons a l ih =>
              rw [List.map_cons, List.sum_cons, List.length_cons, Nat.add_mul, Nat.one_mul]
              have := hB0 (pM (mset M' 232 g t)) a.1
              omega
          have c1 := cap w'
          have c2 := Nat.mul_le_mul_right B0 (show w'.length ≤ 61 by omega)
          have un := jS_upd (f := fun h => if N 232 h < 0 then 1 else 0) (g := fun h => if mset M' 232 g t 232 h < 0 then 1 else 0) 16 hg (fun c _ hc => by
            have : mset M' 232 g t 232 (c : Int) = N 232 c := by unfold mset; rw [if_neg (fun q => by omega), f' 232 c (by omega)]
            simp only [this])
          simp only [mset_same] at un
          rw [if_pos (show N 232 (g : Int) < 0 from hgn), if_neg (by omega)] at un
          generalize jS (fun h => if mset M' 232 g t 232 h < 0 then 1 else 0) 16 = a at un ⊢
          generalize jS (fun h => if N 232 h < 0 then 1 else 0) 16 = b at un ⊢
          have eb : b = a + 1 := by omega
          rw [eb, Nat.add_mul, Nat.one_mul]
          generalize a * (61 * B0 + 1) = ab
          omega
      · refine h0 M' (fun c j hc => by rw [f' c j (by omega)]; exact hf c j hc) (fun τ ht q => ?_)
        obtain ⟨a1, a2, a3⟩ := (par τ ht).mp q
        exact lies_no hZ hA ht1 ht4 yes ht a1 ((hgt τ).mp a3)
    have bind95 : (hol Z x = true ∨ hol Z y = true) → wp_X10_unify_95 V (w'.length : Nat) x y (if hol Z x then (nh Z x : Int) else -6) (if hol Z y then (nh Z y : Int) else -6) N Q (fun z3 N1 => UI Z i M z3 N1 ∧ μU Z (61 * B0 + 1) z3 N1 < jS (fun h => if N 232 h < 0 then 1 else 0) 16 * (61 * B0 + 1) + ((w'.map (fun e => (tv Z (tp Z (pM N)) e.1).length)).sum + (tv Z (tp Z (pM N)) e.1).length)) := by
      intro hor
      unfold wp_X10_unify_95 wp_X10_unify_114
      cases hhx : hol Z x with
      | true =>
        have hx2 : ∀ τ, tv Z τ x = τ (vr (nh Z x)) := fun τ => (tv_hole hZ hx.1 hhx).1
        have hx16 := (tv_hole (τ := fun v => [(v, 0)]) hZ hx.1 hhx).2.2
        simp only [if_true]
        refine ⟨fun q => ?_, fun q => ⟨fun q' => by omega, fun _ => ⟨fun q' => by omega, fun _ => ?_⟩⟩⟩
        · cases hhy : hol Z y with
          | true =>
            rw [hhy] at q
            simp only [if_true] at q
            have en : nh Z x = nh Z y := by omega
            exact same (fun τ _ _ => by rw [hx2, (tv_hole hZ hy.1 hhy).1, en])
          | false =>
            rw [hhy] at q
            simp only [Bool.false_eq_true, if_false] at q
            omega
        · refine bind (nh Z x) y hx16 (hx.2.1 hhx) hy.1 y32 yi (fun hhy => ⟨hy.2.1 hhy, fun en => q ?_⟩) (fun τ => by rw [hx2])
          rw [hhy, en]; rfl
      | false =>
        have hhy : hol Z y = true := by
          rcases hor with g | g
          · rw [hhx] at g; cases g
          · exact g
        have hy16 := (tv_hole (τ := fun v => [(v, 0)]) hZ hy.1 hhy).2.2
        rw [hhy]
        simp only [if_true, Bool.false_eq_true, if_false]
        have xi' : i < x := by
          rcases oe5 with g | g
          · exfalso
            have : y = e.2.1 := hy.2.2.2.1 (by rw [g.2]; exact hh16)
            rw [this, g.2, hh16] at hhy; cases hhy
          · rcases hx.2.2.2.2 with q | ⟨h, h1, h2⟩
            · omega
            · have := hP h h1 (by omega); omega
        refine ⟨fun q => by omega, fun q => ⟨fun _ => ⟨fun _ => ?_, fun q' => absurd (by decide) q'⟩, fun q' => absurd (by decide) q'⟩⟩
        exact bind (nh Z y) x hy16 (hy.2.1 hhy) hx.1 x32 xi' (fun hhx' => by rw [hhx] at hhx'; cases hhx') (fun τ => by rw [(tv_hole hZ hy.1 hhy).1]; exact ⟨fun q => q.symm, fun q => q.symm⟩)
    refine ⟨fun q => bind95 (Or.inl ?_), fun q => ⟨fun q2 => ?_, fun q2 => bind95 (Or.inr ?_)⟩⟩
    · cases hhx : hol Z x with
      | true => rfl
      | false => rw [hhx] at q; simp only [Bool.false_eq_true, if_false] at q; omega
    rotate_left
    · cases hhy : hol Z y with
      | true => rfl
      | false => rw [hhy] at q2; simp only [Bool.false_eq_true, if_false] at q2; omega
    have hhx : hol Z x = false := by
      cases hhx : hol Z x with
      | false => rfl
      | true => rw [hhx] at q; simp only [if_true] at q; omega
    have hhy : hol Z y = false := by
      cases hhy : hol Z y with
      | false => rfl
      | true => rw [hhy] at q2; simp only [if_true] at q2; omega
    refine ⟨fun q3 => ?_, fun q3 => ?_⟩
    · have : x = y := by omega
      exact same (fun τ _ _ => by rw [this])
    refine m_labelAt hZ mN hx.1 ?_
    refine m_labelAt hZ mN hy.1 ?_
    refine ⟨fun q4 => ?_, fun q4 => ?_⟩
    rotate_left
    · exact h0 N hf (fun τ ht e0 => q4 ((tv_eq hZ ht hx.1 hy.1 hhx hhy).mp ((par τ ht).mp e0).2.2).1)
    refine m_partsAt hZ mN hx.1 ?_
    refine m_partsAt hZ mN hy.1 ?_
    refine ⟨fun q5 => ?_, fun q5 => ?_⟩
    rotate_left
    · exact h0 N hf (fun τ ht e0 => q5 (by rw [((tv_eq hZ ht hx.1 hy.1 hhx hhy).mp ((par τ ht).mp e0).2.2).2.1]))
    have nxy : nar Z x = nar Z y := by omega
    have nl := nar_le hZ hx.1.1
    /- the new stack -/
    have wt : ∀ τ, KP Z (pM N) τ → wtT Z i τ x = wtT Z i τ e.1 := fun τ hk => by
      unfold wtT
      rw [if_neg (by omega), if_neg (by omega), hx.2.2.1 τ hk]
    have wc : ∀ τ k, k < nar Z x → wtT Z i τ (nch Z x k) < wtT Z i τ x := fun τ k hk => by
      have c1 := (nch_t hZ hx.1 hk).1.1
      unfold wtT
      rw [if_neg (by omega), if_neg (by omega)]
      exact tv_lt hZ hx.1 hhx hk
    have hno : ∀ a ∈ w'.map (fun e => (e.1, e.2.2)), a.2 ≠ x := (ts_push (n := 0) (c := fun k => k) (hT' _ okp kpp) (wt _ kpp) (fun k hk => by omega)).2
    have hCn := tc_push (c := fun k => nch Z x k) hC' hx.1.1 hno (Nat.le_refl (nar Z x))
    have hnl := tc_len hZ hCn
    rw [List.length_append, List.length_map, List.length_map, List.length_range] at hnl
    have hsum : (tv Z (tp Z (pM N)) e.1).length = ((List.range (nar Z x)).map (fun k => (tv Z (tp Z (pM N)) (nch Z x k)).length)).sum + 1 := by
      rw [fo_node hZ hA hx hhx, List.length_cons, List.length_flatMap]
    unfold wp_X10_unify_209
    refine ⟨fun y3 y8 y9 y10 N2 => ∃ k : Nat, y10 = k ∧ k ≤ nar Z x ∧ y8 = (nch Z x k : Nat) ∧ y9 = (nch Z y k : Nat) ∧ y3 = ((w'.length + k : Nat) : Int) ∧ StM N2 233 ((w' ++ (List.range k).map (fun j => (nch Z x j, nch Z y j, x))).map (fun e => e.1)) ∧ StM N2 235 ((w' ++ (List.range k).map (fun j => (nch Z x j, nch Z y j, x))).map (fun e => e.2.1)) ∧ (∀ c j : Int, c ≠ 233 → c ≠ 235 → N2 c j = N c j), fun _ _ _ y10 _ => (nar Z x + 1 - y10).toNat, ⟨0, rfl, by omega, by rw [w32_id (by omega) (by omega), nch_zero]; omega, by rw [w32_id (by omega) (by omega), nch_zero]; omega, by simp, by simpa using s1, by simpa using s2, fun _ _ _ _ => rfl⟩, ?_⟩
    rintro y3 y8 y9 y10 N2 ⟨k, rfl, hk, rfl, rfl, rfl, hs3, hs4, hf2⟩
    have mN2 : Md Z N2 := mN.fr hZ (fun c j a1 _ _ _ => hf2 c j (by omega) (by omega))
    have pe : pM N2 = pM N := by funext c; exact hf2 232 c (by omega) (by omega)
    unfold wp_X10_unify_209_b
    refine m_partsAt hZ mN2 hx.1 ?_
    refine ⟨fun r => ?_, fun r => ⟨by omega, fun M22 h22 => ⟨by omega, fun M23 h23 => ?_⟩⟩⟩
    · have : k = nar Z x := by omega
      subst this
      have tags : (w' ++ (List.range (nar Z x)).map (fun j => (nch Z x j, nch Z y j, x))).map (fun e => (e.1, e.2.2)) = w'.map (fun e => (e.1, e.2.2)) ++ (List.range (nar Z x)).map (fun k => (nch Z x k, x)) := by
        rw [List.map_append, List.map_map]; rfl
      refine ⟨⟨w' ++ (List.range (nar Z x)).map (fun j => (nch Z x j, nch Z y j, x)), ρ, by simp, hs3, hs4, fun c j hc => by rw [hf2 c j (by omega) (by omega)]; exact hf c j hc, by rw [pe]; exact hA, by rw [pe]; exact hP, fun a ha => ?_, fun τ ht => ?_, fun τ ht hk => ?_, by rw [tags]; exact hCn⟩, ?_⟩
      · rcases List.mem_append.mp ha with g | g
        · exact hw' a g
        · obtain ⟨j, hj, rfl⟩ := List.mem_map.mp g
          have hj' := List.mem_range.mp hj
          obtain ⟨a1, a2, -, -, -⟩ := nch_t hZ hx.1 hj'
          obtain ⟨b1, b2, -, -, -⟩ := nch_t hZ hy.1 (show j < nar Z y by omega)
          have gx : x < nch Z x j := by
            have := nch_mono Z x j
            omega
          have gy : y < nch Z y j := by
            have := nch_mono Z y j
            omega
          exact ⟨a1, b1, by (try dsimp only); omega, by (try dsimp only); omega, Or.inr ⟨by (try dsimp only); omega, by (try dsimp only); omega⟩⟩
      · rw [pe, par τ ht]
        constructor
        · rintro ⟨a1, a2, a3⟩
          refine ⟨a1, fun a ha => ?_⟩
          rcases List.mem_append.mp ha with g | g
          · exact a2 a g
          · obtain ⟨j, hj, rfl⟩ := List.mem_map.mp g
            exact ((tv_eq hZ ht hx.1 hy.1 hhx hhy).mp a3).2.2 j (List.mem_range.mp hj)
        · rintro ⟨a1, a2⟩
          refine ⟨a1, fun a ha => a2 a (List.mem_append_left _ ha), (tv_eq hZ ht hx.1 hy.1 hhx hhy).mpr ⟨q4, nxy, fun j hj => ?_⟩⟩
          exact a2 (nch Z x j, nch Z y j, x) (List.mem_append_right _ (List.mem_map.mpr ⟨j, List.mem_range.mpr hj, rfl⟩))
      · rw [pe] at hk
        rw [tags]
        exact (ts_push (hT' τ ht hk) (wt τ hk) (fun k hk' => wc τ k hk')).1
      · rw [mu_eq (w := w' ++ (List.range (nar Z x)).map (fun j => (nch Z x j, nch Z y j, x))) (by simp) hs3, pe, List.map_append, List.sum_append, List.map_map, hsum]
        have e232 : jS (fun h => if N2 232 h < 0 then 1 else 0) 16 = jS (fun h => if N 232 h < 0 then 1 else 0) 16 := jS_congr 16 (fun c _ => by rw [hf2 232 c (by omega) (by omega)])
        rw [e232]
        show _ + (_ + ((List.range (nar Z x)).map (fun k => (tv Z (tp Z (pM N)) (nch Z x k)).length)).sum) < _
        omega
    · have hk' : k < nar Z x := by omega
      obtain ⟨c1, -, -, -, -⟩ := nch_t hZ hx.1 hk'
      obtain ⟨d1, -, -, -, -⟩ := nch_t hZ hy.1 (show k < nar Z y by omega)
      have f23 : ∀ c j : Int, c ≠ 233 → c ≠ 235 → M23 c j = N c j := fun c j a1 a2 => by rw [h23, mset_cell _ a2, h22, mset_cell _ a1, hf2 c j a1 a2]
      have m23 : Md Z M23 := mN.fr hZ (fun c j a1 _ _ _ => f23 c j (by omega) (by omega))
      refine m_sizeAt hZ m23 c1 ?_
      refine m_sizeAt hZ m23 d1 ?_
      have nx := nch_succ hZ hx.1 hk'
      have ny := nch_succ hZ hy.1 (show k < nar Z y by omega)
      have cl := c1.1
      have dl := d1.1
      have sz1 : nsz Z (nch Z x k) ≤ 16 := by
        have := sz_end c1.2
        have := (hZ.wd (nch Z x k)).1.1
        unfold nsz; omega
      have sz2 : nsz Z (nch Z y k) ≤ 16 := by
        have := sz_end d1.2
        have := (hZ.wd (nch Z y k)).1.1
        unfold nsz; omega
      refine ⟨⟨k + 1, by rw [w32_id (by omega) (by omega)]; omega, by omega, by rw [w32_id (by omega) (by omega), nx]; omega, by rw [w32_id (by omega) (by omega), ny]; omega, by rw [w32_id (by omega) (by omega)]; omega, ?_, ?_, f23⟩, by (try dsimp only); rw [w32_id (x := (k : Int) + 1) (by omega) (by omega)]; omega⟩
      · have pu := hs3.push (nch Z x k)
        rw [List.length_map, List.length_append, List.length_map, List.length_range, ← h22] at pu
        have pu2 := pu.fr (M' := M23) (fun j => by rw [h23, mset_cell _ (by omega)])
        have eL : (w' ++ (List.range (k + 1)).map (fun j => (nch Z x j, nch Z y j, x))).map (fun e => e.1) = (w' ++ (List.range k).map (fun j => (nch Z x j, nch Z y j, x))).map (fun e => e.1) ++ [nch Z x k] := by simp [List.range_succ]
        rw [eL]
        exact pu2
      · have hs4' := hs4.fr (M' := M22) (fun j => by rw [h22, mset_cell _ (by omega)])
        have pu := hs4'.push (nch Z y k)
        rw [List.length_map, List.length_append, List.length_map, List.length_range, ← h23] at pu
        have eL : (w' ++ (List.range (k + 1)).map (fun j => (nch Z x j, nch Z y j, x))).map (fun e => e.2.1) = (w' ++ (List.range k).map (fun j => (nch Z x j, nch Z y j, x))).map (fun e => e.2.1) ++ [nch Z y k] := by simp [List.range_succ]
        rw [eL]
        exact pu
end UNIFY
