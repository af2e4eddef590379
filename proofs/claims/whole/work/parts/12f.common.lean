/-! common: what it is -/
def hF (s t : T) (x y : Nat) (H : List (Nat × Nat)) : Option Nat := (List.range H.length).findSome? (fun q => if sub s (H.getD q (0, 0)).1 = sub s x ∧ sub t (H.getD q (0, 0)).2 = sub t y then some q else none)
theorem hF_some {s t : T} {x y q : Nat} {H : List (Nat × Nat)} (hq : q < H.length) (h1 : ∀ k, k < q → ¬ (sub s (H.getD k (0, 0)).1 = sub s x ∧ sub t (H.getD k (0, 0)).2 = sub t y)) (h2 : sub s (H.getD q (0, 0)).1 = sub s x ∧ sub t (H.getD q (0, 0)).2 = sub t y) : hF s t x y H = some q :=
  fs_range hq (fun k hk => if_neg (h1 k hk)) (if_pos h2)
theorem hF_none {s t : T} {x y : Nat} {H : List (Nat × Nat)} (h1 : ∀ k, k < H.length → ¬ (sub s (H.getD k (0, 0)).1 = sub s x ∧ sub t (H.getD k (0, 0)).2 = sub t y)) : hF s t x y H = none := by
  unfold hF
  rw [List.findSome?_eq_none_iff]
  intro k hk
  exact if_neg (h1 k (by simpa using hk))
/-- what is left to do: n pairs of trees from x and y on; the pairs that have holes; what is written -/
def cmF (s t : T) : Nat → Nat → Nat → Nat → List (Nat × Nat) → T → List (Nat × Nat) × T
  | 0, _, _, _, H, o => (H, o)
  | _ + 1, _, _, 0, H, o => (H, o)
  | f + 1, x, y, n + 1, H, o =>
    if lb s x = lb t y ∧ ar s x = ar t y then cmF s t f (x + 1) (y + 1) (n + ar s x) H (o ++ [(lb s x, ar s x)])
    else match hF s t x y H with
      | some k => cmF s t f (x + sz s x) (y + sz t y) n H (o ++ [(65 + (k : Int), 0)])
      | none => cmF s t f (x + sz s x) (y + sz t y) n (H ++ [(x, y)]) (o ++ [(65 + (H.length : Int), 0)])
theorem cm_mono {s t : T} : ∀ (f x y n : Nat) (H : List (Nat × Nat)) (o : T), H.length ≤ (cmF s t f x y n H o).1.length
  | 0, _, _, _, H, o => Nat.le_refl _
  | _ + 1, _, _, 0, H, o => Nat.le_refl _
  | f + 1, x, y, n + 1, H, o => by
    unfold cmF
    split
    · exact cm_mono f _ _ _ H _
    · split
      · exact cm_mono f _ _ _ H _
      · refine Nat.le_trans ?_ (cm_mono f _ _ _ (H ++ [(x, y)]) _)
        simp
def CI (s t : T) (i k x y n : Nat) (H : List (Nat × Nat)) (o : T) (f : Nat) : Prop :=
  (∃ m, ok (n + m) (s.drop x)) ∧ (∃ m, ok (n + m) (t.drop y)) ∧ x ≤ s.length ∧ y ≤ t.length ∧ x + fp n (s.drop x) = i + sz s i ∧ i + o.length ≤ x ∧ o.length + f = 17 ∧ cmF s t 17 i k 1 [] [] = cmF s t f x y n H o ∧ (∀ h ∈ H, h.1 < s.length ∧ h.2 < t.length) ∧ H.length ≤ o.length ∧ (∀ r, ok n r → ok 1 (o ++ r)) ∧ (∀ p ∈ o, (∃ q ∈ s, q.1 = p.1) ∨ (65 ≤ p.1 ∧ p.1 < 65 + (H.length : Int) ∧ p.2 = 0))
theorem CI.start {s t : T} {i k : Nat} (hs : ok 1 s) (ht : ok 1 t) (hi : i < s.length) (hk : k < t.length) : CI s t i k i k 1 [] [] 17 :=
  ⟨ok_drop1 hs hi, ok_drop1 ht hk, by omega, by omega, rfl, by simp, by simp, rfl, fun h hh => by simp at hh, by simp, fun r hr => hr, fun p hp => by simp at hp⟩
theorem CI.pos {s t : T} {i k x y n : Nat} {H : List (Nat × Nat)} {o : T} {f : Nat} (h : CI s t i k x y (n + 1) H o f) : x < s.length ∧ y < t.length := by
  obtain ⟨⟨m, h1⟩, ⟨m', h2⟩, h3, h4, -⟩ := h
  rw [show n + 1 + m = (n + m) + 1 by omega] at h1
  rw [show n + 1 + m' = (n + m') + 1 by omega] at h2
  constructor
  · rcases Nat.lt_or_ge x s.length with q | q
    · exact q
    · rw [List.drop_eq_nil_of_le q] at h1; exact absurd h1 (by simp [ok])
  · rcases Nat.lt_or_ge y t.length with q | q
    · exact q
    · rw [List.drop_eq_nil_of_le q] at h2; exact absurd h2 (by simp [ok])
theorem CI.lt {s t : T} {i k x y n : Nat} {H : List (Nat × Nat)} {o : T} {f : Nat} (h : CI s t i k x y (n + 1) H o f) : x < i + sz s i := by
  have hx := h.pos.1
  have h5 := h.2.2.2.2.1
  rw [drop_cons hx] at h5
  simp only [fp] at h5
  omega
theorem CI.zero {s t : T} {i k x y : Nat} {H : List (Nat × Nat)} {o : T} {f : Nat} (h : CI s t i k x y 0 H o f) (s16 : s.length ≤ 16) (hi : i < s.length) : x = i + sz s i ∧ cmF s t 17 i k 1 [] [] = (H, o) ∧ ok 1 o := by
  obtain ⟨h1, h2, h3, h4, h5, h6, h7, h8, h9, h10, h11, h12⟩ := h
  have hse := sz_end hi
  refine ⟨by simpa [fp] using h5, ?_, by have := h11 [] (by simp [ok]); simpa using this⟩
  obtain ⟨f', rfl⟩ : ∃ f', f = f' + 1 := ⟨f - 1, by simp [fp] at h5; omega⟩
  rw [h8]; rfl
/-- where pending tree q begins -/
def pend (s : T) (x q : Nat) : Nat := x + fp q (s.drop x)
theorem pend_eq {s : T} {x : Nat} (hx : x < s.length) (r : Nat) : pend s (x + 1) (r + ar s x) = pend s x (r + 1) := by
  unfold pend
  rw [drop_cons hx]
  simp only [fp]; omega
theorem pend_hole {s : T} {x : Nat} (r : Nat) : pend s (x + sz s x) r = pend s x (r + 1) := by
  unfold pend
  rw [show r + 1 = 1 + r by omega, fp_add, List.drop_drop]
  show x + sz s x + _ = x + (sz s x + _)
  rw [Nat.add_assoc]; rfl
theorem CI.same {s t : T} {i k x y n : Nat} {H : List (Nat × Nat)} {o : T} {f : Nat} (h : CI s t i k x y (n + 1) H o (f + 1)) (he : lb s x = lb t y ∧ ar s x = ar t y) : CI s t i k (x + 1) (y + 1) (n + ar s x) H (o ++ [(lb s x, ar s x)]) f := by
  obtain ⟨hx, hy⟩ := h.pos
  obtain ⟨⟨m, h1⟩, ⟨m', h2⟩, h3, h4, h5, h6, h7, h8, h9, h10, h11, h12⟩ := h
  rw [drop_cons hx, show n + 1 + m = (n + m) + 1 by omega] at h1
  rw [drop_cons hy, show n + 1 + m' = (n + m') + 1 by omega] at h2
  have h1' : ok (n + m + ar s x) (s.drop (x + 1)) := h1
  have h2' : ok (n + m' + ar t y) (t.drop (y + 1)) := h2
  refine ⟨⟨m, by rwa [show n + ar s x + m = n + m + ar s x by omega]⟩, ⟨m', by rw [he.2]; rwa [show n + ar t y + m' = n + m' + ar t y by omega]⟩, by omega, by omega, ?_, by simp; omega, by simp; omega, ?_, h9, by simp; omega, fun r hr => ?_, fun p hp => ?_⟩
  · have := pend_eq hx n
    unfold pend at this
    rw [this]; exact h5
  · rw [h8]; conv => lhs; unfold cmF
    rw [if_pos he]
  · rw [List.append_assoc]
    exact h11 _ hr
  · rcases List.mem_append.mp hp with g | g
    · exact h12 p g
    · rw [List.mem_singleton.mp g]
      exact Or.inl ⟨_, mem_lbar hx, rfl⟩
theorem CI.oks {s t : T} {i k x y n : Nat} {H : List (Nat × Nat)} {o : T} {f : Nat} (h : CI s t i k x y (n + 1) H o f) : (∃ m, ok (n + m) (s.drop (x + sz s x))) ∧ (∃ m, ok (n + m) (t.drop (y + sz t y))) ∧ x + sz s x + fp n (s.drop (x + sz s x)) = i + sz s i := by
  obtain ⟨⟨m, h1⟩, ⟨m', h2⟩, h3, h4, h5, -⟩ := h
  rw [show n + 1 + m = 1 + (n + m) by omega] at h1
  rw [show n + 1 + m' = 1 + (n + m') by omega] at h2
  have g1 := (ok_split _ _ _ h1).2
  have g2 := (ok_split _ _ _ h2).2
  rw [drop_sub] at g1 g2
  refine ⟨⟨m, g1⟩, ⟨m', g2⟩, ?_⟩
  have := pend_hole (s := s) (x := x) n
  unfold pend at this
  rw [this]; exact h5
theorem CI.old {s t : T} {i k x y n q : Nat} {H : List (Nat × Nat)} {o : T} {f : Nat} (h : CI s t i k x y (n + 1) H o (f + 1)) (he : ¬ (lb s x = lb t y ∧ ar s x = ar t y)) (hq : hF s t x y H = some q) (hql : q < H.length) : CI s t i k (x + sz s x) (y + sz t y) n H (o ++ [(65 + (q : Int), 0)]) f := by
  obtain ⟨hx, hy⟩ := h.pos
  obtain ⟨g1, g2, g3⟩ := h.oks
  have zs := sz_pos hx
  have es := sz_end hx
  have et := sz_end hy
  obtain ⟨-, -, h3, h4, h5, h6, h7, h8, h9, h10, h11, h12⟩ := h
  refine ⟨g1, g2, by omega, by omega, g3, by simp; omega, by simp; omega, ?_, h9, by simp; omega, fun r hr => ?_, fun p hp => ?_⟩
  · rw [h8]; conv => lhs; unfold cmF
    rw [if_neg he, hq]
  · rw [List.append_assoc]
    exact h11 _ (show ok (n + 1) ((65 + (q : Int), 0) :: r) from hr)
  · rcases List.mem_append.mp hp with g | g
    · exact h12 p g
    · rw [List.mem_singleton.mp g]
      exact Or.inr ⟨by (try dsimp only); omega, by simp; omega, rfl⟩
theorem CI.new {s t : T} {i k x y n : Nat} {H : List (Nat × Nat)} {o : T} {f : Nat} (h : CI s t i k x y (n + 1) H o (f + 1)) (he : ¬ (lb s x = lb t y ∧ ar s x = ar t y)) (hq : hF s t x y H = none) : CI s t i k (x + sz s x) (y + sz t y) n (H ++ [(x, y)]) (o ++ [(65 + (H.length : Int), 0)]) f := by
  obtain ⟨hx, hy⟩ := h.pos
  obtain ⟨g1, g2, g3⟩ := h.oks
  have zs := sz_pos hx
  have es := sz_end hx
  have et := sz_end hy
  obtain ⟨-, -, h3, h4, h5, h6, h7, h8, h9, h10, h11, h12⟩ := h
  refine ⟨g1, g2, by omega, by omega, g3, by simp; omega, by simp; omega, ?_, fun z hz => ?_, by simp; omega, fun r hr => ?_, fun p hp => ?_⟩
  · rw [h8]; conv => lhs; unfold cmF
    rw [if_neg he, hq]
  · rcases List.mem_append.mp hz with g | g
    · exact h9 z g
    · rw [List.mem_singleton.mp g]; exact ⟨hx, hy⟩
  · rw [List.append_assoc]
    exact h11 _ (show ok (n + 1) ((65 + (H.length : Int), 0) :: r) from hr)
  · rcases List.mem_append.mp hp with g | g
    · rcases h12 p g with q | q
      · exact Or.inl q
      · exact Or.inr ⟨q.1, by simp; omega, q.2.2⟩
    · rw [List.mem_singleton.mp g]
      exact Or.inr ⟨by (try dsimp only); omega, by simp; omega, rfl⟩
theorem CI.wd {s t : T} {i k x y : Nat} {H : List (Nat × Nat)} {o : T} {f : Nat} (h : CI s t i k x y 0 H o f) (ws : Wd s) (ps : plain s = true) (hi : i < s.length) (h8 : H.length ≤ 8) : Wd o := by
  have hz := h.zero ws.1.1 hi
  have hse := sz_end hi
  have s16 := ws.1.1
  obtain ⟨h1, h2, h3, h4, h5, h6, h7, h8', h9, h10, h11, h12⟩ := h
  refine ⟨⟨by omega, fun _ => hz.2.2⟩, fun p hp => ?_⟩
  rcases h12 p hp with ⟨q, hq, e⟩ | g
  · left
    unfold plain at ps
    rw [List.all_eq_true] at ps
    have := ps q hq
    rcases ws.2 q hq with g | g
    · rw [← e]; exact g
    · rw [g.1] at this; cases this
  · right
    exact ⟨isH_iff.mpr (by omega), g.2.2⟩
theorem getD_app {H : List (Nat × Nat)} {p : Nat × Nat} {k : Nat} (hk : k < H.length) : (H ++ [p]).getD k (0, 0) = H.getD k (0, 0) := by
  simp [List.getElem?_append_left hk]
theorem getD_last {H : List (Nat × Nat)} {p : Nat × Nat} : (H ++ [p]).getD H.length (0, 0) = p := by simp
theorem getD_memH {H : List (Nat × Nat)} {k : Nat} (hk : k < H.length) : H.getD k (0, 0) ∈ H := by simp [hk]
/-- the pairs in memory -/
def HM (M : Mem) (a b : Int) (H : List (Nat × Nat)) : Prop := ∀ k : Nat, k < H.length → M a k = (H.getD k (0, 0)).1 ∧ M b k = (H.getD k (0, 0)).2
section COMMON
variable {V : VV} {M : Mem} {Q : Int → Mem → Prop}
theorem x_holeFor {k1 k3 : Int} {s t : T} {x y : Nat} {H : List (Nat × Nat)} (cs : Ct M k1 s) (ct : Ct M k3 t) (ws : Wt s) (wt : Wt t) (hx : x < s.length) (hy : y < t.length) (h25 : M 25 0 = H.length) (h8 : H.length ≤ 8) (hH : HM M 26 27 H) (hHl : ∀ h ∈ H, h.1 < s.length ∧ h.2 < t.length)
    (q1 : ∀ q : Nat, q < H.length → hF s t x y H = some q → Q q M) (q2 : hF s t x y H = none → H.length = 8 → Q (-1) M) (q3 : ∀ M' : Mem, hF s t x y H = none → H.length < 8 → M' 25 0 = ((H ++ [(x, y)]).length : Nat) → HM M' 26 27 (H ++ [(x, y)]) → (∀ c j, ¬ (c = 25 ∧ j = 0) → c ≠ 26 → c ≠ 27 → M' c j = M c j) → Q H.length M') : R_X0_holeFor V k1 x k3 y M Q := by
  apply of_X0_holeFor
  unfold wp_X0_holeFor wp_X0_holeFor_3
  refine ⟨fun j N => N = M ∧ ∃ q : Nat, j = q ∧ q ≤ H.length ∧ ∀ k, k < q → ¬ (sub s (H.getD k (0, 0)).1 = sub s x ∧ sub t (H.getD k (0, 0)).2 = sub t y), fun j _ => (9 - j).toNat, ⟨rfl, 0, rfl, by omega, fun k hk => by omega⟩, ?_⟩
  rintro j N ⟨rfl, q, rfl, hq, hno⟩
  unfold wp_X0_holeFor_3_b
  rw [h25]
  refine ⟨fun g => ?_, fun g => ⟨by omega, ?_⟩⟩
  · have hqe : q = H.length := by omega
    subst hqe
    have hn := hF_none hno
    refine ⟨fun c => ⟨by omega, ?_⟩, fun c => q2 hn (by omega)⟩
    intro M1 h1
    have e1 : M1 25 0 = H.length := by rw [h1, mset_cell _ (by omega)]; exact h25
    rw [e1]
    refine ⟨by omega, ?_⟩
    intro M2 h2 M3 h3
    have e2 : M2 25 0 = H.length := by rw [h2, mset_cell _ (by omega)]; exact e1
    rw [e2, w_succ (by omega)] at h3
    have e3 : M3 25 0 = (H.length : Int) + 1 := by rw [h3, mset_same]
    rw [e3, w32_id (by omega) (by omega), show (H.length : Int) + 1 - 1 = H.length by omega]
    refine q3 M3 hn (by omega) (by rw [e3]; simp) (fun k hk => ?_) (fun c j a b d => ?_)
    · rw [h3, mset_cell _ (by omega), mset_cell _ (by omega), h2, mset_cell _ (by omega), h1]
      by_cases ek : k = H.length
      · rw [ek, mset_same, mset_same, getD_last]; exact ⟨rfl, rfl⟩
      · have hk' : k < H.length := by simp at hk; omega
        rw [mset_idx _ _ _ (by omega), mset_idx _ _ _ (by omega), mset_cell _ (by omega), getD_app hk']; exact hH k hk'
    · rw [h3, show mset M2 25 0 ((H.length : Int) + 1) c j = M2 c j from if_neg a, h2, mset_cell _ d, h1, mset_cell _ b]
  · have hql : q < H.length := by omega
    obtain ⟨a1, a2⟩ := hHl _ (getD_memH hql)
    rw [(hH q hql).1, w_succ (by omega)]
    have next : ¬ (sub s (H.getD q (0, 0)).1 = sub s x ∧ sub t (H.getD q (0, 0)).2 = sub t y) → (N = N ∧ ∃ q' : Nat, (q : Int) + 1 = q' ∧ q' ≤ H.length ∧ ∀ k, k < q' → ¬ (sub s (H.getD k (0, 0)).1 = sub s x ∧ sub t (H.getD k (0, 0)).2 = sub t y)) ∧ (9 - ((q : Int) + 1)).toNat < (9 - (q : Int)).toNat := by
      intro hne
      refine ⟨⟨rfl, q + 1, by omega, by omega, fun k hk => ?_⟩, by omega⟩
      by_cases e : k = q
      · rw [e]; exact hne
      · exact hno k (by omega)
    refine x_isAs cs.1 cs.1 (cs.2 x hx).1 (cs.2 _ a1).1 ws.1 ws.1 hx a1 ?_
    refine ⟨fun c => next (fun e => by rw [if_pos e.1.symm] at c; omega), fun c => ⟨by omega, ?_⟩⟩
    have e1 : sub s x = sub s (H.getD q (0, 0)).1 := by
      split at c
      · assumption
      · exact absurd rfl c
    rw [(hH q hql).2]
    refine x_isAs ct.1 ct.1 (ct.2 y hy).1 (ct.2 _ a2).1 wt.1 wt.1 hy a2 ?_
    refine ⟨fun d => next (fun e => by rw [if_pos e.2.symm] at d; omega), fun d => ?_⟩
    have e2 : sub t y = sub t (H.getD q (0, 0)).2 := by
      split at d
      · assumption
      · exact absurd rfl d
    exact q1 q hql (hF_some hql hno ⟨e1.symm, e2.symm⟩)
theorem x_find {k1 k3 : Int} {s t : T} {i k : Nat} (hk1 : 27 < k1) (hk3 : 27 < k3) (cs : Ct M k1 s) (ct : Ct M k3 t) (ws : Wd s) (wt : Wt t) (ps : plain s = true) (hi : i < s.length) (hk : k < t.length)
    (q0 : ∀ M', 8 < (cmF s t 17 i k 1 [] []).1.length → (∀ c j, ¬ (4 ≤ c ∧ c ≤ 10) → ¬ (25 ≤ c ∧ c ≤ 27) → M' c j = M c j) → Q 0 M')
    (q1 : ∀ M' : Mem, (cmF s t 17 i k 1 [] []).1.length ≤ 8 → Wd (cmF s t 17 i k 1 [] []).2 → Ct M' 4 (cmF s t 17 i k 1 [] []).2 → M' 25 0 = ((cmF s t 17 i k 1 [] []).1.length : Nat) → (∀ c j, ¬ (4 ≤ c ∧ c ≤ 10) → ¬ (25 ≤ c ∧ c ≤ 27) → M' c j = M c j) → Q 1 M') : R_X0_find V k1 i k3 k 4 M Q := by
  have s16 := ws.1.1
  have t16 := wt.1
  have hse := sz_end hi
  have oks := ws.1.ok hi
  have okt := wt.ok hk
  apply of_X0_find
  unfold wp_X0_find
  intro M1 h1 M2 h2
  have f2 : ∀ c j : Int, ¬ (c = 25 ∧ j = 0) → ¬ (c = 4 ∧ j = 0) → M2 c j = M c j := fun c j a b => by
    rw [h2, show mset M1 4 0 0 c j = M1 c j from if_neg b, h1]; exact if_neg a
  have cs2 : Ct M2 k1 s := cs.fr (fun c j _ _ => f2 _ _ (by omega) (by omega))
  have e25 : M2 25 0 = 0 := by rw [h2, mset_cell _ (by omega), h1, mset_same]
  apply x_has
  rw [cs2.1.1, if_pos (by omega)]
  refine ⟨fun c => by omega, fun _ => ⟨by omega, ?_⟩⟩
  rw [(cs2.2 i hi).1, show w32 ((i : Int) + sz s i) = ((i + sz s i : Nat) : Int) by rw [w32_id (by omega) (by omega)]; omega]
  unfold wp_X0_find_31 wp_X0_find_43
  refine ⟨fun x' y' c N => ∃ (x y n : Nat) (H : List (Nat × Nat)) (o : T) (f : Nat), x' = x ∧ y' = y ∧ c = o.length ∧ CI s t i k x y n H o f ∧ Cu N 4 o ∧ N 25 0 = H.length ∧ H.length ≤ 8 ∧ HM N 26 27 H ∧ (∀ c j, ¬ (4 ≤ c ∧ c ≤ 10) → ¬ (25 ≤ c ∧ c ≤ 27) → N c j = M c j), fun _ _ c _ => (17 - c).toNat, ⟨i, k, 1, [], [], 17, rfl, rfl, rfl, CI.start oks okt hi hk, ⟨by rw [h2, mset_same]; rfl, fun q hq => by simp at hq⟩, by rw [e25]; rfl, by simp, fun q hq => by simp at hq, fun c j a b => f2 _ _ (by omega) (by omega)⟩, ?_⟩
  rintro x' y' c N ⟨x, y, n, H, o, f, rfl, rfl, rfl, hci, co, n25, h8, hHM, fN⟩
  have csN : Ct N k1 s := cs.fr (fun c j _ _ => fN _ _ (by omega) (by omega))
  have ctN : Ct N k3 t := ct.fr (fun c j _ _ => fN _ _ (by omega) (by omega))
  have stop : n = 0 → wp_X0_find_197 V 4 N Q := by
    rintro rfl
    have hz := hci.zero s16 hi
    have wo := hci.wd ws ps hi h8
    unfold wp_X0_find_197
    rw [hz.2.1] at q1
    refine x_settle co wo.1 (fun M6 c6 f6 => q1 M6 h8 wo c6 (by rw [f6 _ _ (by omega)]; exact n25) (fun c j a b => by rw [f6 _ _ (by omega)]; exact fN c j a b))
  unfold wp_X0_find_43_b
  cases n with
  | zero =>
    have hz := hci.zero s16 hi
    refine ⟨fun _ => stop rfl, fun _ => ⟨fun _ => stop rfl, fun g => ?_⟩⟩
    have := hz.1
    omega
  | succ n =>
    have hlt := hci.lt
    obtain ⟨hx, hy⟩ := hci.pos
    have hol := hci.2.2.2.2.2.1
    obtain ⟨f', rfl⟩ : ∃ f', f = f' + 1 := ⟨f - 1, by have := hci.2.2.2.2.2.2.1; omega⟩
    have hxe := sz_end hx
    have hye := sz_end hy
    refine ⟨fun g => by omega, fun _ => ⟨fun g => by omega, fun _ => ?_⟩⟩
    apply x_has
    rw [csN.1.1, if_pos (by omega)]
    refine ⟨fun g => by omega, fun _ => ?_⟩
    apply x_has
    rw [ctN.1.1, if_pos (by omega)]
    refine ⟨fun g => by omega, fun _ => ⟨by omega, by omega, ?_⟩⟩
    rw [(csN.1.2 x hx).1, (csN.1.2 x hx).2, (ctN.1.2 y hy).1, (ctN.1.2 y hy).2, w_succ (by omega), w_succ (by omega), w_succ (by omega)]
    have hole : ¬ (lb s x = lb t y ∧ ar s x = ar t y) → wp_X0_find_137 V k1 k3 4 ((i + sz s i : Nat) : Int) x y o.length N Q (fun z7 z8 z9 N1 => (∃ (x y n : Nat) (H : List (Nat × Nat)) (o : T) (f : Nat), z7 = x ∧ z8 = y ∧ z9 = o.length ∧ CI s t i k x y n H o f ∧ Cu N1 4 o ∧ N1 25 0 = H.length ∧ H.length ≤ 8 ∧ HM N1 26 27 H ∧ (∀ c j, ¬ (4 ≤ c ∧ c ≤ 10) → ¬ (25 ≤ c ∧ c ≤ 27) → N1 c j = M c j)) ∧ (17 - z9).toNat < (17 - (o.length : Int)).toNat) := by
      intro hne
      have fin : ∀ (N1 : Mem) (H' : List (Nat × Nat)) (q : Nat), CI s t i k (x + sz s x) (y + sz t y) n H' (o ++ [(65 + (q : Int), 0)]) f' → q < 9 → N1 25 0 = H'.length → H'.length ≤ 8 → HM N1 26 27 H' → (∀ c j, ¬ (c = 25 ∧ j = 0) → c ≠ 26 → c ≠ 27 → N1 c j = N c j) → R_X7_append V 4 (w32 (65 + (q : Int))) 0 N1 (fun _ M14 => ((0 : Int) ≤ x ∧ (x : Int) < (16 : Int)) ∧ ∀ v15 : Int, v15 = w32 ((x : Int) + M14 (k1 + 3) x) → ((0 : Int) ≤ y ∧ (y : Int) < (16 : Int)) ∧ ∀ v16 : Int, v16 = w32 ((y : Int) + M14 (k3 + 3) y) → (∃ (x y n : Nat) (H : List (Nat × Nat)) (o' : T) (f : Nat), v15 = x ∧ v16 = y ∧ w32 ((o.length : Int) + 1) = o'.length ∧ CI s t i k x y n H o' f ∧ Cu M14 4 o' ∧ M14 25 0 = H.length ∧ H.length ≤ 8 ∧ HM M14 26 27 H ∧ (∀ c j, ¬ (4 ≤ c ∧ c ≤ 10) → ¬ (25 ≤ c ∧ c ≤ 27) → M14 c j = M c j)) ∧ (17 - w32 ((o.length : Int) + 1)).toNat < (17 - (o.length : Int)).toNat) := by
        intro N1 H' q ci' hq9 n1 hl' hm' fN1
        rw [w32_id (x := 65 + (q : Int)) (by omega) (by omega), w_succ (by omega)]
        have co1 : Cu N1 4 o := ⟨by rw [fN1 _ _ (by omega) (by omega) (by omega)]; exact co.1, fun q hq => by rw [fN1 _ _ (by omega) (by omega) (by omega), fN1 _ _ (by omega) (by omega) (by omega)]; exact co.2 q hq⟩
        refine x_append (a := 0) co1 (by omega) (fun M14 c14 f14 => ⟨by omega, ?_⟩)
        intro v15 hv15
        refine ⟨by omega, ?_⟩
        intro v16 hv16
        rw [f14 _ _ (by omega), fN1 _ _ (by omega) (by omega) (by omega), (csN.2 x hx).1, w32_id (by omega) (by omega)] at hv15
        rw [f14 _ _ (by omega), fN1 _ _ (by omega) (by omega) (by omega), (ctN.2 y hy).1, w32_id (by omega) (by omega)] at hv16
        refine ⟨⟨x + sz s x, y + sz t y, n, H', o ++ [(65 + (q : Int), 0)], f', by omega, by omega, by simp, ci', c14, by rw [f14 _ _ (by omega)]; exact n1, hl', fun z hz => by rw [f14 _ _ (by omega), f14 _ _ (by omega)]; exact hm' z hz, fun c j a b => by rw [f14 _ _ (by omega), fN1 _ _ (by omega) (by omega) (by omega)]; exact fN c j a b⟩, by omega⟩
      unfold wp_X0_find_137
      refine x_holeFor csN ctN ws.1 wt hx hy n25 h8 hHM hci.2.2.2.2.2.2.2.2.1 (fun q hq hh => ⟨fun _ => fin N H q (hci.old hne hh hq) (by omega) n25 h8 hHM (fun _ _ _ _ _ => rfl), fun c => by omega⟩) (fun hh h8' => ⟨fun c => by omega, fun _ => ?_⟩) (fun M12 hh hl8 n12 m12 f12 => ⟨fun _ => fin M12 (H ++ [(x, y)]) H.length (hci.new hne hh) (by omega) n12 (by simp; omega) m12 f12, fun c => by omega⟩)
      refine q0 N ?_ fN
      have hnew := hci.new hne hh
      rw [hnew.2.2.2.2.2.2.2.1]
      have := cm_mono (s := s) (t := t) f' (x + sz s x) (y + sz t y) n (H ++ [(x, y)]) (o ++ [(65 + (H.length : Int), 0)])
      simp at this
      omega
    refine ⟨fun e1 => ⟨by omega, by omega, fun e2 => ⟨by omega, by omega, ?_⟩, fun e2 => hole (fun q => e2 (by omega))⟩, fun e1 => hole (fun q => e1 q.1)⟩
    have hsame := hci.same ⟨e1, by omega⟩
    refine x_append co (by omega) (fun M18 c18 f18 => ?_)
    refine ⟨⟨x + 1, y + 1, n + ar s x, H, o ++ [(lb s x, ar s x)], f', by omega, by omega, by simp, hsame, c18, by rw [f18 _ _ (by omega)]; exact n25, h8, fun z hz => by rw [f18 _ _ (by omega), f18 _ _ (by omega)]; exact hHM z hz, fun c j a b => by rw [f18 _ _ (by omega)]; exact fN c j a b⟩, by (try dsimp only); omega⟩
end COMMON
