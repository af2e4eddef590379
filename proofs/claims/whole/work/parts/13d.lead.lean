/-! the class's leader: a region, all regions -/
def RR (N : Mem) (s t : T) (pr : Int → Int) (e f x y : Nat) : Prop := Rg s t pr x e y f (N 18 ((x : Int) * 17 + y)) (N 19 ((x : Int) * 17 + y))
def TR (N : Mem) (s t : T) (pr : Int → Int) (x y : Nat) : Prop := Rg s t pr x (x + sz s x) y (y + sz t y) (N 16 ((x : Int) * 17 + y)) (N 17 ((x : Int) * 17 + y))
/-- what one region's weighing may change -/
def WF (s t : T) (i k : Nat) (M M' : Mem) : Prop := ∀ c j : Int, c ≠ 18 → c ≠ 19 → ¬ (c = 12 ∧ (j = 10 ∨ j = 11)) → ¬ (∃ x y : Nat, (c = 16 ∨ c = 17) ∧ i ≤ x ∧ x < i + sz s i ∧ k ≤ y ∧ y < k + sz t k ∧ x + sz s x = i + sz s i ∧ y + sz t y = k + sz t k ∧ j = (x : Int) * 17 + y) → M' c j = M c j
section WEIGH
variable {V : VV} {M : Mem} {Q : Int → Mem → Prop}
theorem x_weigh {s t : T} {pr : Int → Int} {k1 k2 : Int} {i k : Nat} (hk1 : 19 < k1) (hk2 : 19 < k2) (cs : Ct M k1 s) (ct : Ct M k2 t) (hm : PrM M pr) (hp : PrOK pr) (ws : Wt s) (wt : Wt t) (hi : i < s.length) (hk : k < t.length)
    (ht : ∀ x y : Nat, i ≤ x → x < i + sz s i → k ≤ y → y < k + sz t k → ¬ (x + sz s x = i + sz s i ∧ y + sz t y = k + sz t k) → TR M s t pr x y)
    (q : ∀ M', (∀ x y : Nat, i ≤ x → x < i + sz s i → k ≤ y → y < k + sz t k → x + sz s x = i + sz s i → y + sz t y = k + sz t k → TR M' s t pr x y) → WF s t i k M M' → Q 0 M') : R_X2_weigh V k1 i k2 k M Q := by
  have s16 := ws.1
  have t16 := wt.1
  have he := sz_end hi
  have hf := sz_end hk
  have zi := sz_pos hi
  have zk := sz_pos hk
  apply of_X2_weigh
  unfold wp_X2_weigh
  refine ⟨by omega, ?_⟩
  intro v1 hv1
  refine ⟨by omega, ?_⟩
  intro v2 hv2
  rw [(cs.2 i hi).1, w32_id (by omega) (by omega)] at hv1
  rw [(ct.2 k hk).1, w32_id (by omega) (by omega)] at hv2
  generalize hE : i + sz s i = e at *
  generalize hFF : k + sz t k = f at *
  have hv1' : v1 = (e : Int) := by omega
  have hv2' : v2 = (f : Int) := by omega
  subst hv1'
  subst hv2'
  have ib := (ix_ok (x := e) (y := f) (by omega) (by omega)).2
  rw [(ix_ok (x := e) (y := f) (by omega) (by omega)).1]
  refine ⟨ib, ?_⟩
  intro M3 h3
  refine ⟨ib, ?_⟩
  rw [w32_id (x := (e : Int) - 1) (by omega) (by omega)]
  have fr0 : ∀ c j, c ≠ 18 → c ≠ 19 → mset M3 19 ((e : Int) * 17 + f) 0 c j = M c j := fun c j a b => by rw [mset_cell _ b, h3, mset_cell _ a]
  unfold wp_X2_weigh_56
  refine ⟨fun z N => ∃ n : Nat, z = (n : Int) - 1 ∧ i ≤ n ∧ n ≤ e ∧ (∀ x : Nat, n ≤ x → x ≤ e → RR N s t pr e f x f) ∧ (∀ c j, c ≠ 18 → c ≠ 19 → ¬ (c = 12 ∧ (j = 10 ∨ j = 11)) → N c j = M c j), fun z _ => (z + 1).toNat, ⟨e, rfl, by omega, by omega, fun x h1 h2 => ?_, fun c j a b _ => fr0 c j a b⟩, ?_⟩
  · have : x = e := by omega
    subst this
    unfold RR
    rw [mset_cell _ (by omega), h3, mset_same, mset_same]
    exact ⟨0, mn_nil, by omega, by omega, by omega⟩
  rintro z N ⟨n, rfl, n1, n2, hR, hN⟩
  have prN : PrM N pr := hm.fr (fun j => hN _ _ (by omega) (by omega) (by omega))
  unfold wp_X2_weigh_56_b
  refine ⟨fun g => ?_, fun g => ?_⟩
  · have hni : n = i := by omega
    subst hni
    clear g prN
    rw [w32_id (x := (f : Int) - 1) (by omega) (by omega)]
    unfold wp_X2_weigh_94
    refine ⟨fun z N => ∃ m : Nat, z = (m : Int) - 1 ∧ k ≤ m ∧ m ≤ f ∧ (∀ x : Nat, n ≤ x → x ≤ e → RR N s t pr e f x f) ∧ (∀ y : Nat, m ≤ y → y ≤ f → RR N s t pr e f e y) ∧ (∀ c j, c ≠ 18 → c ≠ 19 → ¬ (c = 12 ∧ (j = 10 ∨ j = 11)) → N c j = M c j), fun z _ => (z + 1).toNat, ⟨f, rfl, by omega, by omega, hR, fun y h1 h2 => by rw [show y = f by omega]; exact hR e (by omega) (by omega), hN⟩, ?_⟩
    clear hR hN
    rintro z N ⟨m, rfl, m1, m2, hR, hC, hN⟩
    have prN : PrM N pr := hm.fr (fun j => hN _ _ (by omega) (by omega) (by omega))
    unfold wp_X2_weigh_94_b
    refine ⟨fun g => ?_, fun g => ?_⟩
    · have hmk : m = k := by omega
      subst hmk
      clear g prN
      rw [w32_id (x := (e : Int) - 1) (by omega) (by omega)]
      unfold wp_X2_weigh_133
      refine ⟨fun z N => ∃ p : Nat, z = (p : Int) - 1 ∧ n ≤ p ∧ p ≤ e ∧ (∀ x y : Nat, (p ≤ x ∨ y = f) → n ≤ x → x ≤ e → m ≤ y → y ≤ f → RR N s t pr e f x y) ∧ (∀ x y : Nat, p ≤ x → x < e → m ≤ y → y < f → x + sz s x = e → y + sz t y = f → TR N s t pr x y) ∧ WF s t n m M N, fun z _ => (z + 1).toNat, ⟨e, rfl, by omega, by omega, fun x y a1 a2 a3 a4 a5 => ?_, fun x y h1 h2 => by omega, fun c j a b d _ => hN c j a b d⟩, ?_⟩
      · rcases Nat.lt_or_ge x e with g | g
        · rw [show y = f by omega]; exact hR x a2 a3
        · rw [show x = e by omega]; exact hC y a4 a5
      clear hR hC hN
      rintro z N ⟨p, rfl, p1, p2, hR, hT, hW⟩
      unfold wp_X2_weigh_133_b
      refine ⟨fun g => ?_, fun g => ?_⟩
      · have hpn : p = n := by omega
        subst hpn
        exact q N (fun x y a b c d => hT x y a (by omega) c (by omega)) hW
      · obtain ⟨x0, rfl⟩ : ∃ x0, p = x0 + 1 := ⟨p - 1, by omega⟩
        rw [show ((x0 + 1 : Nat) : Int) - 1 = (x0 : Int) by omega, w32_id (x := (f : Int) - 1) (by omega) (by omega)]
        have hx0e : x0 + sz s x0 ≤ e := by
          have := nest (l := s) (i := n) (j := x0) (by omega) (by omega)
          omega
        unfold wp_X2_weigh_145
        refine ⟨fun z N => ∃ r : Nat, z = (r : Int) - 1 ∧ m ≤ r ∧ r ≤ f ∧ (∀ x y : Nat, (x0 < x ∨ (x = x0 ∧ r ≤ y) ∨ y = f) → n ≤ x → x ≤ e → m ≤ y → y ≤ f → RR N s t pr e f x y) ∧ (∀ x y : Nat, (x0 < x ∨ (x = x0 ∧ r ≤ y)) → x < e → m ≤ y → y < f → x + sz s x = e → y + sz t y = f → TR N s t pr x y) ∧ WF s t n m M N, fun z _ => (z + 1).toNat, ⟨f, rfl, by omega, by omega, fun x y h1 h2 h3 h4 h5 => hR x y (by omega) h2 h3 h4 h5, fun x y h1 h2 h3 h4 => hT x y (by omega) h2 h3 h4, hW⟩, ?_⟩
        clear hR hT hW
        rintro z N ⟨r, rfl, r1, r2, hR, hT, hW⟩
        unfold wp_X2_weigh_145_b
        refine ⟨fun g2 => ?_, fun g2 => ?_⟩
        · have hrm : r = m := by omega
          subst hrm
          rw [w32_id (x := (x0 : Int) + -1) (by omega) (by omega)]
          exact ⟨⟨x0, by omega, by omega, by omega, fun x y h1 h2 h3 h4 h5 => hR x y (by omega) h2 h3 h4 h5, fun x y h1 h2 h3 h4 => hT x y (by omega) h2 h3 h4, hW⟩, by (try dsimp only); omega⟩
        · obtain ⟨y0, rfl⟩ : ∃ y0, r = y0 + 1 := ⟨r - 1, by omega⟩
          rw [show ((y0 + 1 : Nat) : Int) - 1 = (y0 : Int) by omega]
          have hy0f : y0 + sz t y0 ≤ f := by
            have := nest (l := t) (i := m) (j := y0) (by omega) (by omega)
            omega
          have zx := sz_pos (l := s) (i := x0) (by omega)
          have zy := sz_pos (l := t) (i := y0) (by omega)
          have wfN : ∀ c j, c ≠ 12 → c ≠ 16 → c ≠ 17 → c ≠ 18 → c ≠ 19 → N c j = M c j := fun c j a b d e' g' => hW c j e' g' (by omega) (fun ⟨x, y, hc, _⟩ => by omega)
          have csN : Ct N k1 s := cs.fr (fun c j _ _ => wfN _ _ (by omega) (by omega) (by omega) (by omega) (by omega))
          have ctN : Ct N k2 t := ct.fr (fun c j _ _ => wfN _ _ (by omega) (by omega) (by omega) (by omega) (by omega))
          have prN : PrM N pr := hm.fr (fun j => wfN _ _ (by omega) (by omega) (by omega) (by omega) (by omega))
          have idx : ∀ (x y : Nat), ((x : Int) * 17 + ((y + 1 : Nat) : Int)) = (x : Int) * 17 + y + 1 := fun x y => by omega
          have a1 := hR (x0 + 1) y0 (by omega) (by omega) (by omega) (by omega) (by omega)
          have a2 := hR x0 (y0 + 1) (by omega) (by omega) (by omega) (by omega) (by omega)
          have a3 := hR (x0 + 1) (y0 + 1) (by omega) (by omega) (by omega) (by omega) (by omega)
          unfold RR at a1 a2 a3
          rw [idx] at a2 a3
          refine x_weighPair hk1 hk2 csN ctN prN hp (by omega) (by omega) s16 (by omega) (by omega) t16 hx0e hy0f a1 a2 (fun _ _ => a3) (fun hne => ⟨hR (x0 + sz s x0) (y0 + sz t y0) (by omega) (by omega) (by omega) (by omega) (by omega), ?_⟩) (fun M' m1' m2' m3' => ?_)
          · have := ht x0 y0 (by omega) (by omega) (by omega) (by omega) hne
            have key : ∀ c : Int, c = 16 ∨ c = 17 → N c ((x0 : Int) * 17 + y0) = M c ((x0 : Int) * 17 + y0) := by
              intro c hc
              refine hW c _ (by omega) (by omega) (by omega) ?_
              rintro ⟨x, y, -, _, _, _, _, hx1, hy1, hj⟩
              have exy : x = x0 ∧ y = y0 := by omega
              obtain ⟨rfl, rfl⟩ := exy
              exact hne ⟨by omega, by omega⟩
            unfold TR at this
            rw [key 16 (Or.inl rfl), key 17 (Or.inr rfl)]
            exact this
          · rw [w32_id (x := (y0 : Int) + -1) (by omega) (by omega)]
            refine ⟨⟨y0, by omega, by omega, by omega, fun x y h1 h2 h3 h4 h5 => ?_, fun x y h1 h2 h3 h4 h5 h6 => ?_, fun c j b1 b2 b3 b4 => ?_⟩, by (try dsimp only); omega⟩
            · by_cases exy : x = x0 ∧ y = y0
              · rw [exy.1, exy.2]; exact m1'
              · have hne : (x : Int) * 17 + y ≠ (x0 : Int) * 17 + y0 := by omega
                unfold RR
                rw [m3' 18 _ (by omega) (by omega) (by omega), m3' 19 _ (by omega) (by omega) (by omega)]
                exact hR x y (by omega) h2 h3 h4 h5
            · by_cases exy : x = x0 ∧ y = y0
              · obtain ⟨rfl, rfl⟩ := exy
                unfold TR
                rw [(m2' h5 h6).1, (m2' h5 h6).2, h5, h6]; exact m1'
              · have hne : (x : Int) * 17 + y ≠ (x0 : Int) * 17 + y0 := by omega
                unfold TR
                rw [m3' 16 _ (by omega) (by omega) (by omega), m3' 17 _ (by omega) (by omega) (by omega)]
                exact hT x y (by omega) h2 h3 h4 h5 h6
            · rw [m3' c j b3 (by omega) (fun ⟨hb, hc, hj⟩ => b4 ⟨x0, y0, hc, by omega, by omega, by omega, by omega, by omega, by omega, hj⟩)]
              exact hW c j b1 b2 b3 b4
    · obtain ⟨y0, rfl⟩ : ∃ y0, m = y0 + 1 := ⟨m - 1, by omega⟩
      rw [show ((y0 + 1 : Nat) : Int) - 1 = (y0 : Int) by omega]
      refine x_startOver (fun M7 b7 f7 => ?_)
      have e7 : ∀ c j, c ≠ 12 → M7 c j = N c j := fun c j a => f7 _ _ (by omega)
      have a2 := hC (y0 + 1) (by omega) (by omega)
      unfold RR at a2
      rw [show ((e : Int) * 17 + ((y0 + 1 : Nat) : Int)) = (e : Int) * 17 + y0 + 1 by omega] at a2
      refine x_offerAdd0 (s := s) (t := t) (pr := pr) (e := e) (f := f) (prN.fr (fun j => e7 _ _ (by omega))) hp (by omega) (by omega) (by omega) (by omega) (by rw [e7 _ _ (by omega), e7 _ _ (by omega)]; exact a2) (fun v mv h l hRp => ?_)
      refine x_offer0 b7 hRp (fun M9 b9 f9 => ?_)
      refine x_keepRest (by omega) (by omega) (fun M11 c1 c2 c3 => ?_)
      rw [w32_id (x := (y0 : Int) + -1) (by omega) (by omega)]
      have e11 : ∀ c j, c ≠ 12 → ¬ ((c = 18 ∨ c = 19) ∧ j = (e : Int) * 17 + y0) → M11 c j = N c j := fun c j a b => by rw [c3 _ _ b, f9 _ _ (by omega), e7 _ _ a]
      refine ⟨⟨y0, by omega, by omega, by omega, fun x h1 h2 => ?_, fun y h1 h2 => ?_, fun c j a b d => ?_⟩, by (try dsimp only); omega⟩
      · unfold RR
        rw [e11 18 _ (by omega) (by omega), e11 19 _ (by omega) (by omega)]; exact hR x h1 h2
      · by_cases ey : y = y0
        · subst ey
          unfold RR
          rw [c1, c2]
          exact ⟨_, mn_add (by omega) mv, b9.1, b9.2.1, b9.2.2.1⟩
        · unfold RR
          rw [e11 18 _ (by omega) (by omega), e11 19 _ (by omega) (by omega)]; exact hC y (by omega) h2
      · rw [c3 _ _ (by omega), f9 _ _ d, f7 _ _ d]; exact hN c j a b d
  · obtain ⟨x0, rfl⟩ : ∃ x0, n = x0 + 1 := ⟨n - 1, by omega⟩
    rw [show ((x0 + 1 : Nat) : Int) - 1 = (x0 : Int) by omega]
    refine x_startOver (fun M7 b7 f7 => ?_)
    have e7 : ∀ c j, c ≠ 12 → M7 c j = N c j := fun c j a => f7 _ _ (by omega)
    have a1 := hR (x0 + 1) (by omega) (by omega)
    unfold RR at a1
    refine x_offerDrop (s := s) (t := t) (pr := pr) (e := e) (f := f) (prN.fr (fun j => e7 _ _ (by omega))) hp (by omega) (by omega) (by omega) (by omega) (by rw [e7 _ _ (by omega), e7 _ _ (by omega)]; exact a1) b7 (fun M9 v mv b9 f9 => ?_)
    refine x_keepRest (by omega) (by omega) (fun M11 c1 c2 c3 => ?_)
    rw [w32_id (x := (x0 : Int) + -1) (by omega) (by omega)]
    refine ⟨⟨x0, by omega, by omega, by omega, fun x h1 h2 => ?_, fun c j a b d => ?_⟩, by (try dsimp only); omega⟩
    · by_cases ex : x = x0
      · subst ex
        unfold RR
        rw [c1, c2]
        exact ⟨_, mn_drop (by omega) mv, b9.1, b9.2.1, b9.2.2.1⟩
      · unfold RR
        rw [c3 18 _ (by omega), c3 19 _ (by omega), f9 _ _ (by omega), f9 _ _ (by omega), e7 _ _ (by omega), e7 _ _ (by omega)]; exact hR x (by omega) h2
    · rw [c3 _ _ (by omega), f9 _ _ d, f7 _ _ d]; exact hN c j a b d
/-- no node that this one is within ends where it ends -/
def EA (t : T) (i : Nat) : Prop := ∀ j, j < i → j + sz t j ≠ i + sz t i
theorem x_endsAlone {k : Int} {t : T} {i : Nat} (ct : Ct M k t) (wt : Wt t) (hi : i < t.length) (h1 : EA t i → Q 1 M) (h0 : ¬ EA t i → Q 0 M) : R_X2_endsAlone V k i M Q := by
  have t16 := wt.1
  have hok := wt.ok hi
  have hse := sz_end hi
  apply of_X2_endsAlone
  unfold wp_X2_endsAlone
  refine ⟨by omega, ?_⟩
  intro v1 hv1
  rw [(ct.2 i hi).2.1] at hv1
  apply x_has
  rw [ct.1.1]
  rcases Nat.eq_zero_or_pos i with rfl | hpos
  · rw [par_zero] at hv1
    rw [if_neg (by omega)]
    exact ⟨fun _ => h1 (fun j hj => by omega), fun c => by omega⟩
  · obtain ⟨p, q, p1, p2, p3⟩ := par_ex hok hi hpos
    have hp : p < t.length := by omega
    have e1 : par t i = p := by rw [p3]; exact par_chd hok hp p2
    have hps := sz_end hp
    rw [e1] at hv1
    subst hv1
    rw [if_pos (by omega)]
    refine ⟨fun c => by omega, fun _ => ⟨by omega, by omega, ?_⟩⟩
    rw [(ct.2 i hi).1, (ct.2 p hp).1, w32_id (by omega) (by omega), w32_id (by omega) (by omega)]
    refine ⟨fun c => h0 (fun hE => hE p p1 (by omega)), fun c => h1 (fun j hj hjs => ?_)⟩
    have zi := sz_pos hi
    have hin : j ∈ anc t i := mem_anc.mpr ⟨hj, by omega⟩
    have hpi : p ∈ anc t i := by rw [p3, anc_chd hok hp p2]; simp
    rw [p3, anc_chd hok hp p2] at hin
    rcases List.mem_append.mp hin with g | g
    · have hjp := mem_anc.mp g
      have n1 := nest (l := t) (i := j) (j := p) (by omega) hjp.2
      have hpi' := mem_anc.mp hpi
      have n2 := nest (l := t) (i := p) (j := i) (by omega) hpi'.2
      omega
    · rw [List.mem_singleton.mp g] at hjs; omega
theorem top_ex {t : T} : ∀ (n x : Nat), x < n → ∃ j, j ≤ x ∧ j + sz t j = x + sz t x ∧ EA t j
  | 0, x, h => by omega
  | n + 1, x, h => by
    by_cases hE : EA t x
    · exact ⟨x, by omega, rfl, hE⟩
    · obtain ⟨j, hj, hjs⟩ : ∃ j, j < x ∧ j + sz t j = x + sz t x := by
        apply Classical.byContradiction
        intro hc
        exact hE (fun j hj hjs => hc ⟨j, hj, hjs⟩)
      obtain ⟨j', a, b, c⟩ := top_ex n j (by omega)
      exact ⟨j', by omega, by omega, c⟩
theorem EA.uniq {t : T} {i j : Nat} (hi : EA t i) (hj : EA t j) (h : i + sz t i = j + sz t j) : i = j := by
  rcases Nat.lt_trichotomy i j with g | g | g
  · exact absurd h (hj i g)
  · exact g
  · exact absurd h.symm (hi j g)
/-- the trees whose price is known: those of a first node n or behind, or of the one ahead of it and of a second m or behind -/
def VPn (N : Mem) (s t : T) (pr : Int → Int) (n m : Nat) : Prop := ∀ x y jx jy : Nat, x < s.length → y < t.length → jx ≤ x → jx + sz s jx = x + sz s x → EA s jx → jy ≤ y → jy + sz t jy = y + sz t y → EA t jy → (n ≤ jx ∨ (jx + 1 = n ∧ m ≤ jy)) → TR N s t pr x y
theorem x_lead0 {s t : T} {pr : Int → Int} {k1 k2 : Int} (hk1 : 19 < k1) (hk2 : 19 < k2) (cs : Ct M k1 s) (ct : Ct M k2 t) (hm : PrM M pr) (hp : PrOK pr) (ws : Wt s) (wt : Wt t) (hs : 0 < s.length) (ht : 0 < t.length)
    (q : ∀ M', Rg s t pr 0 s.length 0 t.length (M' 16 0) (M' 17 0) → (∀ c j, c ≠ 16 → c ≠ 17 → c ≠ 18 → c ≠ 19 → ¬ (c = 12 ∧ (j = 10 ∨ j = 11)) → M' c j = M c j) → R_X2_tell V k1 k2 M' (fun _ M3 => Q 0 M3)) : R_X2_lead V k1 k2 M Q := by
  have s16 := ws.1
  have t16 := wt.1
  apply of_X2_lead
  unfold wp_X2_lead
  intro v1 hv1
  rw [cs.1.1, w32_id (by omega) (by omega)] at hv1
  subst hv1
  unfold wp_X2_lead_7
  refine ⟨fun z N => ∃ n : Nat, z = (n : Int) - 1 ∧ n ≤ s.length ∧ VPn N s t pr n t.length ∧ (∀ c j, c ≠ 16 → c ≠ 17 → c ≠ 18 → c ≠ 19 → ¬ (c = 12 ∧ (j = 10 ∨ j = 11)) → N c j = M c j), fun z _ => (z + 1).toNat, ⟨s.length, rfl, by omega, fun x y jx jy h1 h2 h3 _ _ h6 => by omega, fun _ _ _ _ _ _ _ => rfl⟩, ?_⟩
  rintro z N ⟨n, rfl, hn, hV, hN⟩
  have csN : Ct N k1 s := cs.fr (fun c j _ _ => hN _ _ (by omega) (by omega) (by omega) (by omega) (by omega))
  have ctN : Ct N k2 t := ct.fr (fun c j _ _ => hN _ _ (by omega) (by omega) (by omega) (by omega) (by omega))
  unfold wp_X2_lead_7_b
  refine ⟨fun g => ?_, fun g => ?_⟩
  · have hn0 : n = 0 := by omega
    subst hn0
    refine q N ?_ hN
    have := hV 0 0 0 0 hs ht (by omega) rfl (fun j hj => by omega) (by omega) rfl (fun j hj => by omega) (Or.inl (by omega))
    unfold TR at this
    have z1 : sz s 0 = s.length := by unfold sz; rw [List.drop_zero, ok_fp' (ws.ok hs)]
    have z2 : sz t 0 = t.length := by unfold sz; rw [List.drop_zero, ok_fp' (wt.ok ht)]
    rw [z1, z2] at this
    simpa using this
  · obtain ⟨i, rfl⟩ : ∃ i, n = i + 1 := ⟨n - 1, by omega⟩
    have hi : i < s.length := by omega
    have hie := sz_end hi
    intro v4 hv4
    rw [ctN.1.1, w32_id (by omega) (by omega)] at hv4
    subst hv4
    rw [show ((i + 1 : Nat) : Int) - 1 = (i : Int) by omega]
    unfold wp_X2_lead_19
    refine ⟨fun z P => ∃ m : Nat, z = (m : Int) - 1 ∧ m ≤ t.length ∧ VPn P s t pr (i + 1) m ∧ (∀ c j, c ≠ 16 → c ≠ 17 → c ≠ 18 → c ≠ 19 → ¬ (c = 12 ∧ (j = 10 ∨ j = 11)) → P c j = M c j), fun z _ => (z + 1).toNat, ⟨t.length, rfl, by omega, hV, hN⟩, ?_⟩
    clear hV hN csN ctN
    rintro z P ⟨m, rfl, hmm, hV, hN⟩
    have csN : Ct P k1 s := cs.fr (fun c j _ _ => hN _ _ (by omega) (by omega) (by omega) (by omega) (by omega))
    have ctN : Ct P k2 t := ct.fr (fun c j _ _ => hN _ _ (by omega) (by omega) (by omega) (by omega) (by omega))
    have prN : PrM P pr := hm.fr (fun j => hN _ _ (by omega) (by omega) (by omega) (by omega) (by omega))
    unfold wp_X2_lead_19_b
    refine ⟨fun g1 => ?_, fun g1 => ?_⟩
    · have hm0 : m = 0 := by omega
      subst hm0
      rw [w32_id (x := (i : Int) + -1) (by omega) (by omega)]
      exact ⟨⟨i, by omega, by omega, fun x y jx jy h1 h2 h3 h4 h5 h6 h7 h8 h9 => hV x y jx jy h1 h2 h3 h4 h5 h6 h7 h8 (by omega), hN⟩, by (try dsimp only); omega⟩
    · obtain ⟨k, rfl⟩ : ∃ k, m = k + 1 := ⟨m - 1, by omega⟩
      have hk : k < t.length := by omega
      have hke := sz_end hk
      rw [show ((k + 1 : Nat) : Int) - 1 = (k : Int) by omega, w32_id (x := (k : Int) + -1) (by omega) (by omega)]
      have skip : ¬ (EA s i ∧ EA t k) → VPn P s t pr (i + 1) k := fun hne x y jx jy h1 h2 h3 h4 h5 h6 h7 h8 h9 => by
        refine hV x y jx jy h1 h2 h3 h4 h5 h6 h7 h8 ?_
        rcases h9 with g | ⟨g, g'⟩
        · exact Or.inl g
        · refine Or.inr ⟨g, ?_⟩
          have e1 : jx = i := by omega
          subst e1
          rcases Nat.lt_or_ge k jy with w | w
          · omega
          · have e2 : jy = k := by omega
            subst e2
            exact absurd ⟨h5, h8⟩ hne
      refine x_endsAlone csN ws hi (fun hE => ⟨fun c => by omega, fun _ => ?_⟩) (fun hE => ⟨fun _ => ⟨⟨k, by omega, by omega, skip (fun w => hE w.1), hN⟩, by (try dsimp only); omega⟩, fun c => by omega⟩)
      refine x_endsAlone ctN wt hk (fun hE' => ⟨fun c => by omega, fun _ => ?_⟩) (fun hE' => ⟨fun _ => ⟨⟨k, by omega, by omega, skip (fun w => hE' w.2), hN⟩, by (try dsimp only); omega⟩, fun c => by omega⟩)
      refine x_weigh hk1 hk2 csN ctN prN hp ws wt hi hk (fun x y a1 a2 b1 b2 hne => ?_) (fun M' hT hW => ?_)
      · obtain ⟨jx, c1, c2, c3⟩ := top_ex (t := s) (x + 1) x (by omega)
        obtain ⟨jy, d1, d2, d3⟩ := top_ex (t := t) (y + 1) y (by omega)
        have nx := nest (l := s) (i := i) (j := x) a1 a2
        have ny := nest (l := t) (i := k) (j := y) b1 b2
        have zx := sz_pos (l := s) (i := x) (by omega)
        have zy := sz_pos (l := t) (i := y) (by omega)
        refine hV x y jx jy (by omega) (by omega) c1 c2 c3 d1 d2 d3 ?_
        by_cases ex : x + sz s x = i + sz s i
        · have e1 : jx = i := c3.uniq hE (by omega)
          right
          refine ⟨by omega, ?_⟩
          rcases Nat.lt_or_ge k jy with w | w
          · omega
          · exfalso
            have n2 := nest (l := t) (i := jy) (j := k) w (by omega)
            exact hne ⟨ex, by omega⟩
        · left
          rcases Nat.lt_or_ge i jx with w | w
          · omega
          · exfalso
            have n2 := nest (l := s) (i := jx) (j := i) w (by omega)
            omega
      · refine ⟨⟨k, by omega, by omega, fun x y jx jy h1 h2 h3 h4 h5 h6 h7 h8 h9 => ?_, fun c j a b d e g => ?_⟩, by (try dsimp only); omega⟩
        · by_cases hnew : jx = i ∧ jy = k
          · obtain ⟨rfl, rfl⟩ := hnew
            have zx := sz_pos (l := s) (i := x) (by omega)
            have zy := sz_pos (l := t) (i := y) (by omega)
            exact hT x y h3 (by omega) h6 (by omega) h4.symm h7.symm
          · have hold := hV x y jx jy h1 h2 h3 h4 h5 h6 h7 h8 (by omega)
            have hyl : y ≤ 16 := by omega
            unfold TR at hold ⊢
            have key : ∀ c : Int, c = 16 ∨ c = 17 → M' c ((x : Int) * 17 + y) = P c ((x : Int) * 17 + y) := by
              intro c hc
              refine hW c _ (by omega) (by omega) (by omega) ?_
              rintro ⟨x', y', -, b1, b2, b3, b4, b5, b6, b7⟩
              have exy : x' = x ∧ y' = y := by omega
              obtain ⟨rfl, rfl⟩ := exy
              exact hnew ⟨h5.uniq hE (by omega), h8.uniq hE' (by omega)⟩
            rw [key 16 (Or.inl rfl), key 17 (Or.inr rfl)]
            exact hold
        · rw [hW c j d e g (fun ⟨x, y, hc, _⟩ => by omega)]
          exact hN c j a b d e g
end WEIGH
