/-! the class's joining in memory: kin -/
def Wst (M : Mem) (w : List (Nat × Nat)) : Prop := M 129 9 = w.length ∧ ∀ (m : Nat) (e : Nat × Nat), w[m]? = some e → M 137 m = e.1 ∧ M 138 m = e.2
def JM (Z : T4) (M : Mem) (k : Nat → Nat) (s : Nat → Int) (w : List (Nat × Nat)) : Prop := Ld Z M ∧ (∀ c : Nat, c < 48 → M 134 c = k c ∧ M 135 c = s c) ∧ Wst M w
theorem nch_zero (Z : T4) (x : Nat) : nch Z x 0 = x + 1 := by unfold nch; rw [chd_zero]; omega
theorem nch_succ {Z : T4} (hZ : Z4 Z) {x j : Nat} (h : nOK Z x) (hj : j < nar Z x) : nch Z x (j + 1) = nch Z x j + nsz Z (nch Z x j) := by
  obtain ⟨-, -, c2, c3, -⟩ := nch_t hZ h hj
  have : nsz Z (nch Z x j) = sz (nt Z x) (chd (nt Z x) (x % 16) j) := by unfold nsz; rw [c3, c2]
  rw [this]
  unfold nch
  rw [chd_succ]; omega
theorem nch_le {Z : T4} (hZ : Z4 Z) {x : Nat} (j : Nat) (h : Pr Z x) : nch Z x j ≤ 32 := by
  have := chd_le (nt Z x) (x % 16) j h.2.1.2
  have := (hZ.wd x).1.1
  have := h.1
  unfold nch; omega
section KIN
variable {V : VV} {M : Mem} {Q : Int → Mem → Prop} {Z : T4} {i n : Nat} {k : Nat → Nat} {s : Nat → Int} {w : List (Nat × Nat)}
theorem x_await {u v : Nat} (hm : JM Z M k s w) (hw : w.length < 96) (hu : u < 32) (hv : v < 32) (h : ∀ M' : Mem, Fx 129 139 M M' → JM Z M' k s (w ++ [(u, v)]) → Q 0 M') : R_X1_await V u v M Q := by
  obtain ⟨hL, hK, hS1, hS2⟩ := hm
  apply of_X1_await
  unfold wp_X1_await
  rw [hS1]
  refine ⟨fun z => by omega, fun _ => ⟨fun z => by omega, fun _ => ⟨fun z => by omega, fun _ => ⟨fun z => by omega, fun _ => ⟨fun z => by omega, fun _ => ⟨by omega, ?_⟩⟩⟩⟩⟩⟩
  intro M1 h1
  have f1 : ∀ c j : Int, c ≠ 137 → M1 c j = M c j := fun c j hc => by rw [h1]; exact mset_cell _ hc _ _ _
  rw [f1 129 9 (by omega), hS1]
  refine ⟨by omega, ?_⟩
  intro M2 h2
  have f2 : ∀ c j : Int, c ≠ 138 → M2 c j = M1 c j := fun c j hc => by rw [h2]; exact mset_cell _ hc _ _ _
  rw [f2 129 9 (by omega), f1 129 9 (by omega), hS1, w32_id (by omega) (by omega)]
  have f3 : ∀ c j : Int, c ≠ 129 → mset M2 129 9 ((w.length : Int) + 1) c j = M2 c j := fun c j hc => mset_cell _ hc _ _ _
  refine h _ (fun c j hc => by rw [f3 c j (by omega), f2 c j (by omega), f1 c j (by omega)]) ⟨hL.fr (fun c j a b => by rw [f3 c j (by omega), f2 c j (by omega), f1 c j (by omega)]), fun c hc => by rw [f3 134 _ (by omega), f2 134 _ (by omega), f1 134 _ (by omega), f3 135 _ (by omega), f2 135 _ (by omega), f1 135 _ (by omega)]; exact hK c hc, by rw [mset_same, List.length_append]; simp, fun m e he => ?_⟩
  rw [f3 137 _ (by omega), f3 138 _ (by omega), f2 137 _ (by omega)]
  by_cases hlt : m < w.length
  · rw [List.getElem?_append_left hlt] at he
    have := hS2 m e he
    rw [h1, h2, mset_idx _ _ _ (by omega), mset_idx _ _ _ (by omega), f1 138 _ (by omega)]
    exact this
  · have hlen : m < (w ++ [(u, v)]).length := by
      by_cases g : m < (w ++ [(u, v)]).length
      · exact g
      · rw [List.getElem?_eq_none (by omega)] at he; cases he
    have em : m = w.length := by simp at hlen; omega
    subst em
    simp at he
    rw [← he, h1, h2, mset_same, mset_same]
    exact ⟨rfl, rfl⟩
theorem x_joinKin {u v : Nat} (hZ : Z4 Z) (hj : JI Z i n k s (w ++ [(u, v)])) (hm : JM Z M k s w) (h0 : ∀ M' : Mem, Fx 129 139 M M' → (∀ τ, okθ τ → tv Z τ i ≠ tv Z τ 16) → Q 0 M') (h1 : ∀ (M' : Mem) (k' : Nat → Nat) (s' : Nat → Int) (w' : List (Nat × Nat)), Fx 129 139 M M' → JI Z i (n + 1) k' s' w' → JM Z M' k' s' w' → Q 1 M') : R_X1_joinKin V (k (tm Z u)) (k (tm Z v)) M Q := by
  obtain ⟨w1, w2, w3, w4⟩ := hj.wok (u, v) (by simp)
  simp only at w1 w2 w3 w4
  obtain ⟨u1, u2⟩ := tm_ok hZ w1 w2
  obtain ⟨v1, v2⟩ := tm_ok hZ w3 w4
  obtain ⟨p1, p2⟩ := hj.kin _ u1
  obtain ⟨q1, q2⟩ := hj.kin _ v1
  have clash := ji_clash hZ hj
  have join := fun (p q : Nat) (hp : k (tm Z u) = p) (hq : k (tm Z v) = q) => ji_join hZ hj hp hq
  have shapes := ji_shapes hZ hj
  apply of_X1_joinKin
  unfold wp_X1_joinKin
  refine ⟨fun e => h1 M k s w (Fx.rf _ _ _) (ji_same hZ hj (by omega)) hm, fun hne => ?_⟩
  obtain ⟨p, hp⟩ : ∃ p, k (tm Z u) = p := ⟨_, rfl⟩
  obtain ⟨q, hq⟩ : ∃ q, k (tm Z v) = q := ⟨_, rfl⟩
  have join' := join p q hp hq (by omega)
  rw [hp] at p1 p2 clash shapes hne ⊢
  rw [hq] at q1 q2 clash shapes hne ⊢
  have lp := p1.lt
  have lq := q1.lt
  obtain ⟨hL, hK, hW⟩ := hm
  rw [(hK p lp).2, (hK q lq).2]
  refine ⟨by omega, ?_⟩
  intro a ha
  subst ha
  refine ⟨by omega, ?_⟩
  intro b hb
  subst hb
  unfold wp_X1_joinKin_25
  refine ⟨fun y N => ∃ m : Nat, y = m ∧ m ≤ 48 ∧ Fx 134 134 M N ∧ ∀ c : Nat, c < 48 → N 134 c = if c < m then ((jk k p q c : Nat) : Int) else k c, fun y _ => (49 - y).toNat, ⟨0, rfl, by omega, Fx.rf _ _ _, fun c hc => by rw [if_neg (by omega)]; exact (hK c hc).1⟩, ?_⟩
  rintro y N ⟨m, rfl, hm48, hF, hN⟩
  unfold wp_X1_joinKin_25_b
  refine ⟨fun d => ?_, fun d => ⟨by omega, fun e => ⟨by omega, ?_⟩, fun e => ?_⟩⟩
  · have hm' : m = 48 := by omega
    subst hm'
    have hkin : ∀ c : Nat, c < 48 → N 134 c = ((jk k p q c : Nat) : Int) := fun c hc => by rw [hN c hc, if_pos hc]
    clear hN
    /- the shapes are told -/
    have tail : ∀ N' : Mem, Fx 134 135 M N' → (∀ c : Nat, c < 48 → N' 134 c = ((jk k p q c : Nat) : Int) ∧ N' 135 c = js s p q c) → wp_X1_joinKin_69 V (s p) (s q) N' Q := by
      intro N' hF' hKN
      have hL' : Ld Z N' := hL.fr (fun c j a b => hF' c j (by omega))
      have hW' : Wst N' w := ⟨by rw [hF' _ _ (by omega)]; exact hW.1, fun m e he => by rw [hF' _ _ (by omega), hF' _ _ (by omega)]; exact hW.2 m e he⟩
      have one : jw Z s p q = [] → (0 ≤ s p → 0 ≤ s q → False) → Q 1 N' := fun e1 e2 => by
        have := join' (fun a b => absurd (e2 a b) id)
        rw [e1, List.append_nil] at this
        exact h1 N' _ _ w (hF'.mono (by omega) (by omega)) this ⟨hL', hKN, hW'⟩
      unfold wp_X1_joinKin_69
      refine ⟨fun a => one (by unfold jw; rw [if_neg (by omega)]) (by omega), fun a => ⟨fun b => ?_, fun b => one (by unfold jw; rw [if_neg (by omega)]) (by omega)⟩⟩
      obtain ⟨x1, y1, -⟩ := shapes (by omega) b
      obtain ⟨x, hx⟩ : ∃ x : Nat, s p = x := ⟨(s p).toNat, by omega⟩
      obtain ⟨z, hz⟩ : ∃ z : Nat, s q = z := ⟨(s q).toNat, by omega⟩
      have ejw : jw Z s p q = (List.range (nar Z x)).map (fun j => (nch Z x j, nch Z z j)) := by unfold jw; rw [if_pos ⟨by omega, b⟩, hx, hz]; rfl
      have hmm := join'
      rw [ejw] at hmm
      rw [hx, hz] at hmm clash ⊢
      rw [hx] at x1
      rw [hz] at y1
      simp only [Int.toNat_natCast] at hmm clash x1 y1
      have lx := x1.1
      have lz := y1.1
      obtain ⟨x2, x3, x4, x5⟩ := hL' x lx
      obtain ⟨z2, z3, z4, z5⟩ := hL' z lz
      rw [x2, x3, z2, z3]
      refine ⟨by omega, by omega, fun e1 => ⟨by omega, by omega, fun e2 => ?_, fun e2 => ?_⟩, fun e1 => ?_⟩
      · have har : nar Z x = nar Z z := by omega
        have hJ := hmm (fun _ _ => ⟨e1, har⟩)
        have hcnt := hJ.cnt
        rw [List.length_append, List.length_map, List.length_range] at hcnt
        unfold wp_X1_joinKin_128
        refine ⟨fun a b c N2 => ∃ j : Nat, c = j ∧ j ≤ nar Z x ∧ a = (nch Z x j : Nat) ∧ b = (nch Z z j : Nat) ∧ Fx 129 139 M N2 ∧ JM Z N2 (jk k p q) (js s p q) (w ++ (List.range j).map (fun j => (nch Z x j, nch Z z j))), fun _ _ c _ => (nar Z x + 1 - c).toNat, ⟨0, rfl, by omega, by rw [w32_id (by omega) (by omega), nch_zero]; omega, by rw [w32_id (by omega) (by omega), nch_zero]; omega, hF'.mono (by omega) (by omega), hL', hKN, by simpa using hW'⟩, ?_⟩
        rintro a b c N2 ⟨j, rfl, hj', rfl, rfl, hF2, hM2⟩
        unfold wp_X1_joinKin_128_b
        rw [(hM2.1 x lx).2.1]
        refine ⟨by omega, fun g => ?_, fun g => ?_⟩
        · have : j = nar Z x := by omega
          subst this
          exact h1 N2 _ _ _ hF2 hJ hM2
        · obtain ⟨c1, c2⟩ := pr_ch hZ x1 (show j < nar Z x by omega)
          obtain ⟨d1, d2⟩ := pr_ch hZ y1 (show j < nar Z z by omega)
          have nx := nch_succ hZ x1.2.1 (show j < nar Z x by omega)
          have nz := nch_succ hZ y1.2.1 (show j < nar Z z by omega)
          have bx := nch_le hZ (j + 1) x1
          have bz := nch_le hZ (j + 1) y1
          refine ⟨fun g2 => by omega, fun _ => ⟨fun g2 => by omega, fun _ => ?_⟩⟩
          refine x_await hM2 (by simp; omega) c2 d2 (fun N3 hF3 hM3 => ?_)
          rw [(hM3.1 _ c2).2.2.1 c1, (hM3.1 _ d2).2.2.1 d1]
          refine ⟨by omega, ?_⟩
          intro a' ha'
          refine ⟨by omega, ?_⟩
          intro b' hb'
          rw [w32_id (by omega) (by omega)] at ha' hb'
          have e3 : w32 ((j : Int) + 1) = ((j + 1 : Nat) : Int) := by rw [w32_id (by omega) (by omega)]; omega
          rw [e3]
          clear e3
          refine ⟨⟨j + 1, rfl, by omega, by omega, by omega, hF2.trans hF3, ?_⟩, by (try dsimp only); omega⟩
          rw [List.range_succ, List.map_append, ← List.append_assoc]
          exact hM3
      · exact h0 N' (hF'.mono (by omega) (by omega)) (clash (by omega) (by omega) (Or.inr (by omega)))
      · exact h0 N' (hF'.mono (by omega) (by omega)) (clash (by omega) (by omega) (Or.inl e1))
    refine ⟨fun g => tail N (hF.mono (by omega) (by omega)) (fun c hc => ⟨hkin c hc, ?_⟩), fun g => ⟨by omega, tail _ ((hF.mono (by omega) (by omega)).set (by omega) (by omega)) (fun c hc => ⟨?_, ?_⟩)⟩⟩
    · rw [hF _ _ (by omega), (hK c hc).2]
      unfold js; rw [if_neg (by omega)]
    · rw [mset_cell _ (by omega)]; exact hkin c hc
    · unfold js
      by_cases e : c = p
      · rw [e, mset_same, if_pos ⟨rfl, by omega⟩]
      · rw [mset_idx _ _ _ (by omega), if_neg (fun z => e z.1), hF _ _ (by omega)]
        exact (hK c hc).2
  · have e1 : w32 ((m : Int) + 1) = ((m + 1 : Nat) : Int) := by rw [w32_id (by omega) (by omega)]; omega
    rw [e1]
    clear e1
    refine ⟨⟨m + 1, rfl, by omega, hF.set (by omega) (by omega), fun c hc => ?_⟩, by dsimp only; omega⟩
    have em := hN m (by omega)
    rw [if_neg (by omega)] at em
    by_cases ec : c = m
    · subst ec
      rw [mset_same, if_pos (by omega)]
      unfold jk; rw [if_pos (by omega)]
    · rw [mset_idx _ _ _ (by omega), hN c hc]
      by_cases g : c < m
      · rw [if_pos g, if_pos (by omega)]
      · rw [if_neg g, if_neg (by omega)]
  · have e1 : w32 ((m : Int) + 1) = ((m + 1 : Nat) : Int) := by rw [w32_id (by omega) (by omega)]; omega
    rw [e1]
    clear e1
    refine ⟨⟨m + 1, rfl, by omega, hF, fun c hc => ?_⟩, by dsimp only; omega⟩
    have em := hN m (by omega)
    rw [if_neg (by omega)] at em
    rw [hN c hc]
    by_cases ec : c = m
    · subst ec
      rw [if_neg (by omega), if_pos (by omega)]
      unfold jk; rw [if_neg (by omega)]
    · by_cases g : c < m
      · rw [if_pos g, if_pos (by omega)]
      · rw [if_neg g, if_neg (by omega)]
end KIN
