/-! the reference's work on one pair of regions -/
/-- the orders in memory -/
def OM (N : Mem) (s t : T) : Prop := N 203 10 = s.length ∧ N 203 11 = t.length ∧ (∀ r : Nat, r < s.length → N 216 ((s.length : Int) - r) = nu s r ∧ N 212 ((s.length : Int) - r) = (s.length : Int) - r - zm s r + 1) ∧ (∀ r : Nat, r < t.length → N 217 ((t.length : Int) - r) = nu t r ∧ N 213 ((t.length : Int) - r) = (t.length : Int) - r - zm t r + 1)
/-- the prices in memory: to drop, to lead, to add -/
def PM (N : Mem) (s t : T) (D : Nat → Int) (Ld : Nat → Nat → Int) (A : Int) : Prop := (∀ a : Nat, a < s.length → N 215 a = D a) ∧ (∀ a b : Nat, a < s.length → b < t.length → N 214 (16 * (a : Int) + b) = Ld a b) ∧ N 208 1 = A
def PB (s t : T) (D : Nat → Int) (Ld : Nat → Nat → Int) (A : Int) : Prop := (∀ a, 0 ≤ D a ∧ D a ≤ 100000) ∧ (∀ a b, 0 ≤ Ld a b ∧ Ld a b ≤ 100000) ∧ 0 ≤ A ∧ A ≤ 9
abbrev MnM (s t : T) (D : Nat → Int) (Ld : Nat → Nat → Int) (A : Int) (r e q f : Nat) (v : Int) : Prop := Mn (zm s) (zm t) (fun r => D (nu s r)) (fun r q => Ld (nu s r) (nu t q) - A) A r e q f v
theorem MnM.bd {s t : T} {D : Nat → Int} {Ld : Nat → Nat → Int} {A v : Int} {r e q f : Nat} (h : MnM s t D Ld A r e q f v) (hb : PB s t D Ld A) (hr : r ≤ e) (he : e ≤ 16) (hq : q ≤ f) (hf : f ≤ 16) : -1000 ≤ v ∧ v ≤ 2000000 := by
  obtain ⟨⟨g, h1, h2⟩, -⟩ := h
  have b1 := cS_bd (D := fun r => D (nu s r)) (E := fun r q => Ld (nu s r) (nu t q) - A) (g := g) (fun _ => -9) (fun _ => 100000) (fun a => by have := hb.1 (nu s a); omega) (fun a b _ => by have := hb.2.1 (nu s a) (nu t b); have := hb.2.2; omega) (e - r) r
  rw [cS_flat (w := fun _ => (-9 : Int)), cS_flat (w := fun _ => (100000 : Int)), cS_const, cS_const] at b1
  have b2 := pA_bd hb.2.2 hq hf
  omega
def FM (N : Mem) (s t : T) (D : Nat → Int) (Ld : Nat → Nat → Int) (A : Int) (e f r q : Nat) : Prop := MnM s t D Ld A r e q f (N 219 (17 * ((s.length : Int) - r) + ((t.length : Int) - q)))
def TM (N : Mem) (s t : T) (D : Nat → Int) (Ld : Nat → Nat → Int) (A : Int) (r q : Nat) : Prop := MnM s t D Ld A r (r + zm s r) q (q + zm t q) (N 218 (17 * ((s.length : Int) - r) + ((t.length : Int) - q)))
def GF (s t : T) (i k : Nat) (M M' : Mem) : Prop := ∀ c j : Int, c ≠ 219 → ¬ (∃ x y : Nat, c = 218 ∧ i ≤ x ∧ x < i + zm s i ∧ k ≤ y ∧ y < k + zm t k ∧ x + zm s x = i + zm s i ∧ y + zm t y = k + zm t k ∧ j = 17 * ((s.length : Int) - x) + ((t.length : Int) - y)) → M' c j = M c j
section FOREST
variable {V : VV} {M : Mem} {Q : Int → Mem → Prop}
theorem m_lesser {a b : Int} (h : Q (if b ≤ a then b else a) M) : R_X10_lesser V a b M Q := by
  apply of_X10_lesser
  unfold wp_X10_lesser
  refine ⟨fun c => ?_, fun c => ?_⟩
  · rwa [if_pos c] at h
  · rwa [if_neg c] at h
theorem m_workForest {s t : T} {D : Nat → Int} {Ld : Nat → Nat → Int} {A : Int} {i k : Nat} (ho : OM M s t) (hp : PM M s t D Ld A) (hb : PB s t D Ld A) (s16 : s.length ≤ 16) (t16 : t.length ≤ 16) (hi : i < s.length) (hk : k < t.length)
    (ht : ∀ x y : Nat, i ≤ x → x < i + zm s i → k ≤ y → y < k + zm t k → ¬ (x + zm s x = i + zm s i ∧ y + zm t y = k + zm t k) → TM M s t D Ld A x y)
    (q : ∀ M', (∀ x y : Nat, i ≤ x → x < i + zm s i → k ≤ y → y < k + zm t k → x + zm s x = i + zm s i → y + zm t y = k + zm t k → TM M' s t D Ld A x y) → GF s t i k M M' → Q 0 M') : R_X10_workForest V ((s.length : Int) - i) ((t.length : Int) - k) M Q := by
  have he := zm_end hi
  have hf := zm_end hk
  have zi := zm_pos hi
  have zk := zm_pos hk
  apply of_X10_workForest
  unfold wp_X10_workForest
  refine ⟨by omega, ?_⟩
  intro v1 hv1
  refine ⟨by omega, ?_⟩
  intro v2 hv2
  rw [(ho.2.2.1 i hi).2] at hv1
  rw [(ho.2.2.2 k hk).2] at hv2
  generalize hE : i + zm s i = e at *
  generalize hF : k + zm t k = f at *
  obtain ⟨n, hn⟩ : ∃ n, s.length = n := ⟨_, rfl⟩
  obtain ⟨m, hm⟩ : ∃ m, t.length = m := ⟨_, rfl⟩
  have hv1' : v1 = (n : Int) - e + 1 := by omega
  have hv2' : v2 = (m : Int) - f + 1 := by omega
  subst hv1'
  subst hv2'
  clear hv1 hv2
  rw [hn, hm]
  have cc : ∀ (x y : Nat), x ≤ n → y ≤ m → w32 (w32 (17 * ((n : Int) - x)) + ((m : Int) - y)) = 17 * ((n : Int) - x) + ((m : Int) - y) := fun x y h1 h2 => by
    rw [w32_id (x := 17 * ((n : Int) - x)) (by omega) (by omega), w32_id (by omega) (by omega)]
  have c0 : w32 (w32 (w32 (17 * w32 ((n : Int) - e + 1 - 1)) + ((m : Int) - f + 1)) - 1) = 17 * ((n : Int) - e) + ((m : Int) - f) := by
    rw [w32_id (x := (n : Int) - e + 1 - 1) (by omega) (by omega), w32_id (x := 17 * _) (by omega) (by omega), w32_id (x := _ + ((m : Int) - f + 1)) (by omega) (by omega), w32_id (by omega) (by omega)]; omega
  rw [c0]
  clear c0
  refine ⟨by omega, ?_⟩
  /- the first column -/
  unfold wp_X10_workForest_35
  refine ⟨fun z N => ∃ x : Nat, z = (n : Int) - x + 1 ∧ i ≤ x ∧ x ≤ e ∧ (∀ x' : Nat, x ≤ x' → x' ≤ e → FM N s t D Ld A e f x' f) ∧ (∀ c j, c ≠ 219 → N c j = M c j), fun z _ => (20 - z).toNat, ⟨e, rfl, by omega, by omega, fun x h1 h2 => ?_, fun c j a => mset_cell _ a _ _ _⟩, ?_⟩
  · have : x = e := by omega
    subst this
    unfold FM
    rw [hn, hm, mset_same]
    exact mn_nil
  rintro z N ⟨x, rfl, x1, x2, hR, hN⟩
  unfold wp_X10_workForest_35_b
  refine ⟨fun g => ?_, fun g => ?_⟩
  · have hxi : x = i := by omega
    subst hxi
    clear g
    unfold wp_X10_workForest_96
    refine ⟨fun z N => ∃ y : Nat, z = (m : Int) - y + 1 ∧ k ≤ y ∧ y ≤ f ∧ (∀ x' : Nat, x ≤ x' → x' ≤ e → FM N s t D Ld A e f x' f) ∧ (∀ y' : Nat, y ≤ y' → y' ≤ f → FM N s t D Ld A e f e y') ∧ (∀ c j, c ≠ 219 → N c j = M c j), fun z _ => (20 - z).toNat, ⟨f, rfl, by omega, by omega, hR, fun y h1 h2 => by rw [show y = f by omega]; exact hR e (by omega) (by omega), hN⟩, ?_⟩
    clear hR hN
    rintro z N ⟨y, rfl, y1, y2, hR, hC, hN⟩
    unfold wp_X10_workForest_96_b
    refine ⟨fun g => ?_, fun g => ?_⟩
    · have hyk : y = k := by omega
      subst hyk
      clear g
      unfold wp_X10_workForest_148
      refine ⟨fun z N => ∃ p : Nat, z = (n : Int) - p + 1 ∧ x ≤ p ∧ p ≤ e ∧ (∀ x' y' : Nat, (p ≤ x' ∨ y' = f) → x ≤ x' → x' ≤ e → y ≤ y' → y' ≤ f → FM N s t D Ld A e f x' y') ∧ (∀ x' y' : Nat, p ≤ x' → x' < e → y ≤ y' → y' < f → x' + zm s x' = e → y' + zm t y' = f → TM N s t D Ld A x' y') ∧ GF s t x y M N, fun z _ => (20 - z).toNat, ⟨e, rfl, by omega, by omega, fun x' y' a1 a2 a3 a4 a5 => ?_, fun x' y' h1 h2 => by omega, fun c j a _ => hN c j a⟩, ?_⟩
      · rcases Nat.lt_or_ge x' e with g | g
        · rw [show y' = f by omega]; exact hR x' a2 a3
        · rw [show x' = e by omega]; exact hC y' a4 a5
      clear hR hC hN
      rintro z N ⟨p, rfl, p1, p2, hR, hT, hW⟩
      unfold wp_X10_workForest_148_b
      refine ⟨fun g => ?_, fun g => ?_⟩
      · have hpx : p = x := by omega
        subst hpx
        exact q N (fun x' y' a b c d => hT x' y' a (by omega) c (by omega)) hW
      · obtain ⟨x0, rfl⟩ : ∃ x0, p = x0 + 1 := ⟨p - 1, by omega⟩
        rw [show (n : Int) - ((x0 + 1 : Nat) : Int) + 1 = (n : Int) - x0 by omega]
        have hx0e : x0 + zm s x0 ≤ e := by
          have := zm_nest (t := s) (r := x) (q := x0) (by omega) (by omega) (by omega)
          omega
        unfold wp_X10_workForest_158
        refine ⟨fun z N => ∃ r : Nat, z = (m : Int) - r + 1 ∧ y ≤ r ∧ r ≤ f ∧ (∀ x' y' : Nat, (x0 < x' ∨ (x' = x0 ∧ r ≤ y') ∨ y' = f) → x ≤ x' → x' ≤ e → y ≤ y' → y' ≤ f → FM N s t D Ld A e f x' y') ∧ (∀ x' y' : Nat, (x0 < x' ∨ (x' = x0 ∧ r ≤ y')) → x' < e → y ≤ y' → y' < f → x' + zm s x' = e → y' + zm t y' = f → TM N s t D Ld A x' y') ∧ GF s t x y M N, fun z _ => (20 - z).toNat, ⟨f, rfl, by omega, by omega, fun x' y' h1 h2 h3 h4 h5 => hR x' y' (by omega) h2 h3 h4 h5, fun x' y' h1 h2 h3 h4 => hT x' y' (by omega) h2 h3 h4, hW⟩, ?_⟩
        clear hR hT hW
        rintro z N ⟨r, rfl, r1, r2, hR, hT, hW⟩
        unfold wp_X10_workForest_158_b
        refine ⟨fun g2 => ?_, fun g2 => ?_⟩
        · have hry : r = y := by omega
          subst hry
          rw [w32_id (by omega) (by omega)]
          exact ⟨⟨x0, by omega, by omega, by omega, fun x' y' h1 h2 h3 h4 h5 => hR x' y' (by omega) h2 h3 h4 h5, fun x' y' h1 h2 h3 h4 => hT x' y' (by omega) h2 h3 h4, hW⟩, by (try dsimp only); omega⟩
        · obtain ⟨y0, rfl⟩ : ∃ y0, r = y0 + 1 := ⟨r - 1, by omega⟩
          rw [show (m : Int) - ((y0 + 1 : Nat) : Int) + 1 = (m : Int) - y0 by omega]
          have hy0f : y0 + zm t y0 ≤ f := by
            have := zm_nest (t := t) (r := y) (q := y0) (by omega) (by omega) (by omega)
            omega
          have zx := zm_pos (t := s) (r := x0) (by omega)
          have zy := zm_pos (t := t) (r := y0) (by omega)
          have nx := (nu_spec (t := s) (r := x0) (by omega)).1
          have ny := (nu_spec (t := t) (r := y0) (by omega)).1
          have wN : ∀ c j, c ≠ 218 → c ≠ 219 → N c j = M c j := fun c j a b => hW c j b (fun ⟨_, _, hc, _⟩ => a hc)
          have o1 := ho.2.2.1 x0 (by omega)
          have o2 := ho.2.2.2 y0 (by omega)
          rw [hn] at o1 nx
          rw [hm] at o2 ny
          rw [← wN _ _ (by omega) (by omega), ← wN 212 _ (by omega) (by omega)] at o1
          rw [← wN _ _ (by omega) (by omega), ← wN 213 _ (by omega) (by omega)] at o2
          have d0 : N 215 (nu s x0) = D (nu s x0) := by rw [wN _ _ (by omega) (by omega)]; exact hp.1 _ (by omega)
          have l0 : N 214 (16 * (nu s x0 : Int) + nu t y0) = Ld (nu s x0) (nu t y0) := by rw [wN _ _ (by omega) (by omega)]; exact hp.2.1 _ _ (by omega) (by omega)
          have a0 : N 208 1 = A := by rw [wN _ _ (by omega) (by omega)]; exact hp.2.2
          have i1 : w32 (w32 (17 * w32 ((n : Int) - x0 - 1)) + ((m : Int) - y0)) = 17 * ((n : Int) - ((x0 + 1 : Nat) : Int)) + ((m : Int) - y0) := by
            rw [w32_id (x := (n : Int) - x0 - 1) (by omega) (by omega), show (n : Int) - x0 - 1 = (n : Int) - ((x0 + 1 : Nat) : Int) by omega, cc _ _ (by omega) (by omega)]
          have i2 : w32 (w32 (w32 (17 * ((n : Int) - x0)) + ((m : Int) - y0)) - 1) = 17 * ((n : Int) - x0) + ((m : Int) - ((y0 + 1 : Nat) : Int)) := by
            rw [cc _ _ (by omega) (by omega), w32_id (by omega) (by omega)]; omega
          have i3 : w32 (17 * ((n : Int) - ((x0 + 1 : Nat) : Int)) + ((m : Int) - y0) - 1) = 17 * ((n : Int) - ((x0 + 1 : Nat) : Int)) + ((m : Int) - ((y0 + 1 : Nat) : Int)) := by
            rw [w32_id (by omega) (by omega)]; omega
          have i4 : w32 (w32 (w32 (17 * w32 ((n : Int) - x0 - zm s x0 + 1 - 1)) + ((m : Int) - y0 - zm t y0 + 1)) - 1) = 17 * ((n : Int) - ((x0 + zm s x0 : Nat) : Int)) + ((m : Int) - ((y0 + zm t y0 : Nat) : Int)) := by
            rw [w32_id (x := (n : Int) - x0 - zm s x0 + 1 - 1) (by omega) (by omega), w32_id (x := 17 * _) (by omega) (by omega), w32_id (x := _ + ((m : Int) - y0 - zm t y0 + 1)) (by omega) (by omega), w32_id (by omega) (by omega)]; omega
          have i5 : w32 (w32 (16 * (nu s x0 : Int)) + (nu t y0 : Int)) = 16 * (nu s x0 : Int) + nu t y0 := by
            rw [w32_id (x := 16 * (nu s x0 : Int)) (by omega) (by omega), w32_id (by omega) (by omega)]
          have f1 := hR (x0 + 1) y0 (by omega) (by omega) (by omega) (by omega) (by omega)
          have f2 := hR x0 (y0 + 1) (by omega) (by omega) (by omega) (by omega) (by omega)
          have f3 := hR (x0 + 1) (y0 + 1) (by omega) (by omega) (by omega) (by omega) (by omega)
          have f4 := hR (x0 + zm s x0) (y0 + zm t y0) (by omega) (by omega) (by omega) (by omega) (by omega)
          unfold FM at f1 f2 f3 f4
          rw [hn, hm] at f1 f2 f3 f4
          have b1 := f1.bd hb (by omega) (by omega) (by omega) (by omega)
          have b2 := f2.bd hb (by omega) (by omega) (by omega) (by omega)
          have b3 := f3.bd hb (by omega) (by omega) (by omega) (by omega)
          have b4 := f4.bd hb hx0e (by omega) hy0f (by omega)
          have bD := hb.1 (nu s x0)
          have bL := hb.2.1 (nu s x0) (nu t y0)
          have bA := hb.2.2
          unfold wp_X10_workForest_246 wp_X10_workForest_247
          rw [o1.1, i1, i2, d0, a0]
          clear i1 i2
          generalize hu1 : N 219 (17 * ((n : Int) - ((x0 + 1 : Nat) : Int)) + ((m : Int) - y0)) = u1 at f1 b1 ⊢
          generalize hu2 : N 219 (17 * ((n : Int) - x0) + ((m : Int) - ((y0 + 1 : Nat) : Int))) = u2 at f2 b2 ⊢
          generalize hu3 : N 219 (17 * ((n : Int) - ((x0 + 1 : Nat) : Int)) + ((m : Int) - ((y0 + 1 : Nat) : Int))) = u3 at f3 b3
          generalize hu4 : N 219 (17 * ((n : Int) - ((x0 + zm s x0 : Nat) : Int)) + ((m : Int) - ((y0 + zm t y0 : Nat) : Int))) = u4 at f4 b4
          have i34 : ∀ P : Prop, (w32 (17 * ((n : Int) - ((x0 + 1 : Nat) : Int)) + ((m : Int) - y0) - 1) = 17 * ((n : Int) - ((x0 + 1 : Nat) : Int)) + ((m : Int) - ((y0 + 1 : Nat) : Int)) → w32 (w32 (w32 (17 * w32 ((n : Int) - x0 - zm s x0 + 1 - 1)) + ((m : Int) - y0 - zm t y0 + 1)) - 1) = 17 * ((n : Int) - ((x0 + zm s x0 : Nat) : Int)) + ((m : Int) - ((y0 + zm t y0 : Nat) : Int)) → w32 (w32 (16 * (nu s x0 : Int)) + (nu t y0 : Int)) = 16 * (nu s x0 : Int) + nu t y0 → P) → P := fun P h => h i3 i4 i5
          clear i3 i4 i5
          rw [w32_id (x := u1 + D (nu s x0)) (by omega) (by omega), w32_id (x := u2 + A) (by omega) (by omega)]
          refine ⟨by omega, by omega, by omega, by omega, by omega, ?_⟩
          /- what is done with the last price -/
          have fin : ∀ (b c : Int), (b = 0 ∨ b = 1) → (b = 1 ↔ x0 + zm s x0 = e ∧ y0 + zm t y0 = f) → MnM s t D Ld A x0 e y0 f (if c ≤ (if u2 + A ≤ u1 + D (nu s x0) then u2 + A else u1 + D (nu s x0)) then c else (if u2 + A ≤ u1 + D (nu s x0) then u2 + A else u1 + D (nu s x0))) → wp_X10_workForest_339 V ((n : Int) - x) ((m : Int) - y) ((n : Int) - e + 1) ((m : Int) - f + 1) ((n : Int) - x0) ((m : Int) - y0) (if u2 + A ≤ u1 + D (nu s x0) then u2 + A else u1 + D (nu s x0)) b c N Q (fun z1 N1 => (∃ p : Nat, z1 = (n : Int) - p + 1 ∧ x ≤ p ∧ p ≤ e ∧ (∀ x' y' : Nat, (p ≤ x' ∨ y' = f) → x ≤ x' → x' ≤ e → y ≤ y' → y' ≤ f → FM N1 s t D Ld A e f x' y') ∧ (∀ x' y' : Nat, p ≤ x' → x' < e → y ≤ y' → y' < f → x' + zm s x' = e → y' + zm t y' = f → TM N1 s t D Ld A x' y') ∧ GF s t x y M N1) ∧ (20 - z1).toNat < (20 - ((n : Int) - x0)).toNat) (fun z6 N1 => (∃ r : Nat, z6 = (m : Int) - r + 1 ∧ y ≤ r ∧ r ≤ f ∧ (∀ x' y' : Nat, (x0 < x' ∨ (x' = x0 ∧ r ≤ y') ∨ y' = f) → x ≤ x' → x' ≤ e → y ≤ y' → y' ≤ f → FM N1 s t D Ld A e f x' y') ∧ (∀ x' y' : Nat, (x0 < x' ∨ (x' = x0 ∧ r ≤ y')) → x' < e → y ≤ y' → y' < f → x' + zm s x' = e → y' + zm t y' = f → TM N1 s t D Ld A x' y') ∧ GF s t x y M N1) ∧ (20 - z6).toNat < (20 - ((m : Int) - y0)).toNat) := by
            intro b c hb01 hbb hmn
            unfold wp_X10_workForest_339
            apply m_lesser
            rw [cc x0 y0 (by omega) (by omega), w32_id (x := (m : Int) - y0 + 1) (by omega) (by omega)]
            generalize (if c ≤ (if u2 + A ≤ u1 + D (nu s x0) then u2 + A else u1 + D (nu s x0)) then c else (if u2 + A ≤ u1 + D (nu s x0) then u2 + A else u1 + D (nu s x0))) = w at hmn ⊢
            generalize hM6 : mset N 219 (17 * ((n : Int) - x0) + ((m : Int) - y0)) w = M6
            have g6 : ∀ c j, ¬ (c = 219 ∧ j = 17 * ((n : Int) - x0) + ((m : Int) - y0)) → M6 c j = N c j := fun c j a => by rw [← hM6]; exact if_neg a
            have s6 : M6 219 (17 * ((n : Int) - x0) + ((m : Int) - y0)) = w := by rw [← hM6, mset_same]
            clear hM6
            have nxt : ∀ (N1 : Mem), (∀ c j, c ≠ 218 → N1 c j = M6 c j) → (∀ j, j ≠ 17 * ((n : Int) - x0) + ((m : Int) - y0) → N1 218 j = M6 218 j) → (x0 + zm s x0 = e → y0 + zm t y0 = f → N1 218 (17 * ((n : Int) - x0) + ((m : Int) - y0)) = w) → (¬ (x0 + zm s x0 = e ∧ y0 + zm t y0 = f) → ∀ j, N1 218 j = M6 218 j) → (∃ r : Nat, (m : Int) - y0 + 1 = (m : Int) - r + 1 ∧ y ≤ r ∧ r ≤ f ∧ (∀ x' y' : Nat, (x0 < x' ∨ (x' = x0 ∧ r ≤ y') ∨ y' = f) → x ≤ x' → x' ≤ e → y ≤ y' → y' ≤ f → FM N1 s t D Ld A e f x' y') ∧ (∀ x' y' : Nat, (x0 < x' ∨ (x' = x0 ∧ r ≤ y')) → x' < e → y ≤ y' → y' < f → x' + zm s x' = e → y' + zm t y' = f → TM N1 s t D Ld A x' y') ∧ GF s t x y M N1) ∧ (20 - ((m : Int) - y0 + 1)).toNat < (20 - ((m : Int) - y0)).toNat := by
              intro N1 k1 k2 k3 k4
              refine ⟨⟨y0, rfl, by omega, by omega, fun x' y' h1 h2 h3 h4 h5 => ?_, fun x' y' h1 h2 h3 h4 h5 h6 => ?_, fun c j a b' => ?_⟩, by omega⟩
              · unfold FM
                rw [hn, hm]
                by_cases exy : x' = x0 ∧ y' = y0
                · rw [exy.1, exy.2, k1 _ _ (by omega), s6]; exact hmn
                · rw [k1 _ _ (by omega), g6 _ _ (by omega)]
                  have := hR x' y' (by omega) h2 h3 h4 h5
                  unfold FM at this
                  rw [hn, hm] at this; exact this
              · unfold TM
                rw [hn, hm]
                by_cases exy : x' = x0 ∧ y' = y0
                · obtain ⟨rfl, rfl⟩ := exy
                  rw [k3 h5 h6, h5, h6]; exact hmn
                · rw [k2 _ (by omega), g6 _ _ (by omega)]
                  have := hT x' y' (by omega) h2 h3 h4 h5 h6
                  unfold TM at this
                  rw [hn, hm] at this; exact this
              · have hWc := hW c j a b'
                by_cases hc : c = 218
                · subst hc
                  by_cases hwh : x0 + zm s x0 = e ∧ y0 + zm t y0 = f
                  · have hj : j ≠ 17 * ((n : Int) - x0) + ((m : Int) - y0) := fun hj => b' ⟨x0, y0, rfl, by omega, by omega, by omega, by omega, by omega, by omega, by rw [hn, hm]; exact hj⟩
                    rw [k2 _ hj, g6 _ _ (by omega)]; exact hWc
                  · rw [k4 hwh, g6 _ _ (by omega)]; exact hWc
                · rw [k1 _ _ hc, g6 _ _ (by omega)]; exact hWc
            refine ⟨by omega, fun hb0 => nxt M6 (fun _ _ _ => rfl) (fun _ _ => rfl) (fun a1 a2 => by have := hbb.mpr ⟨a1, a2⟩; omega) (fun _ _ => rfl), fun hb0 => ?_⟩
            intro M7 h7
            subst h7
            refine ⟨by omega, by omega, nxt _ (fun c j a => mset_cell _ a _ _ _) (fun j a => mset_idx _ _ _ a _) (fun _ _ => by rw [mset_same]; exact s6) (fun hne => absurd (hbb.mp (by omega)) hne)⟩
          have mnle : ∀ c, (∀ v, v ≤ D (nu s x0) + u1 → v ≤ A + u2 → v ≤ c → (v = D (nu s x0) + u1 ∨ v = A + u2 ∨ v = c) → MnM s t D Ld A x0 e y0 f v) → MnM s t D Ld A x0 e y0 f (if c ≤ (if u2 + A ≤ u1 + D (nu s x0) then u2 + A else u1 + D (nu s x0)) then c else (if u2 + A ≤ u1 + D (nu s x0) then u2 + A else u1 + D (nu s x0))) := by
            intro c hc
            by_cases q1 : u2 + A ≤ u1 + D (nu s x0)
            · rw [if_pos q1]
              by_cases q2 : c ≤ u2 + A
              · rw [if_pos q2]; exact hc c (by omega) (by omega) (by omega) (Or.inr (Or.inr rfl))
              · rw [if_neg q2]; exact hc _ (by omega) (by omega) (by omega) (Or.inr (Or.inl (by omega)))
            · rw [if_neg q1]
              by_cases q2 : c ≤ u1 + D (nu s x0)
              · rw [if_pos q2]; exact hc c (by omega) (by omega) (by omega) (Or.inr (Or.inr rfl))
              · rw [if_neg q2]; exact hc _ (by omega) (by omega) (by omega) (Or.inl (by omega))
          have els : ¬ (x0 + zm s x0 = e ∧ y0 + zm t y0 = f) → MnM s t D Ld A x0 (x0 + zm s x0) y0 (y0 + zm t y0) (N 218 (17 * ((n : Int) - x0) + ((m : Int) - y0))) := by
            intro hne
            have := ht x0 y0 (by omega) (by omega) (by omega) (by omega) hne
            unfold TM at this
            rw [hn, hm] at this
            rw [hW 218 _ (by omega) (by
              rintro ⟨x', y', -, a1, a2, a3, a4, a5, a6, a7⟩
              rw [hn, hm] at a7
              have exy : x' = x0 ∧ y' = y0 := by omega
              obtain ⟨rfl, rfl⟩ := exy
              exact hne ⟨by omega, by omega⟩)]
            exact this
          have elsw : ¬ (x0 + zm s x0 = e ∧ y0 + zm t y0 = f) → (0 ≤ (n : Int) - x0 ∧ (n : Int) - x0 < 17) ∧ (0 ≤ (m : Int) - y0 ∧ (m : Int) - y0 < 17) ∧ (0 ≤ 17 * ((n : Int) - ((x0 + zm s x0 : Nat) : Int)) + ((m : Int) - ((y0 + zm t y0 : Nat) : Int)) ∧ 17 * ((n : Int) - ((x0 + zm s x0 : Nat) : Int)) + ((m : Int) - ((y0 + zm t y0 : Nat) : Int)) < 289) ∧ (0 ≤ 17 * ((n : Int) - x0) + ((m : Int) - y0) ∧ 17 * ((n : Int) - x0) + ((m : Int) - y0) < 289) ∧ MnM s t D Ld A x0 e y0 f (if w32 (u4 + N 218 (17 * ((n : Int) - x0) + ((m : Int) - y0))) ≤ (if u2 + A ≤ u1 + D (nu s x0) then u2 + A else u1 + D (nu s x0)) then w32 (u4 + N 218 (17 * ((n : Int) - x0) + ((m : Int) - y0))) else (if u2 + A ≤ u1 + D (nu s x0) then u2 + A else u1 + D (nu s x0))) := by
            intro hne
            have tt := els hne
            have bt := tt.bd hb (by omega) (by omega) (by omega) (by omega)
            refine ⟨by omega, by omega, by omega, by omega, ?_⟩
            rw [w32_id (by omega) (by omega)]
            exact mnle _ (fun v l1 l2 l3 he => mn_stepE (by omega) (by omega) zx zy hx0e hy0f (fun a h1 h2 => zm_nest (by omega) h1 h2) (fun b h1 h2 => zm_nest (by omega) h1 h2) f1 f2 tt f4 l1 l2 (by omega) (by omega))
          have no : ¬ (x0 + zm s x0 = e ∧ y0 + zm t y0 = f) → ∀ P : Prop, (((0 ≤ (n : Int) - x0 ∧ (n : Int) - x0 < 17) ∧ (0 ≤ (m : Int) - y0 ∧ (m : Int) - y0 < 17) ∧ (0 ≤ 17 * ((n : Int) - ((x0 + zm s x0 : Nat) : Int)) + ((m : Int) - ((y0 + zm t y0 : Nat) : Int)) ∧ 17 * ((n : Int) - ((x0 + zm s x0 : Nat) : Int)) + ((m : Int) - ((y0 + zm t y0 : Nat) : Int)) < 289) ∧ (0 ≤ 17 * ((n : Int) - x0) + ((m : Int) - y0) ∧ 17 * ((n : Int) - x0) + ((m : Int) - y0) < 289)) → P) → P := fun hne P hP => hP ⟨(elsw hne).1, (elsw hne).2.1, (elsw hne).2.2.1, (elsw hne).2.2.2.1⟩
          apply m_lesser
          refine ⟨by omega, ?_⟩
          apply i34
          intro i3 i4 i5
          rw [o1.1, o1.2, o2.1, o2.2, i3, i4, i5, l0, hu3, hu4, cc x0 y0 (by omega) (by omega)]
          clear i3 i4 i5
          refine ⟨fun g3 => ⟨by omega, fun g4 => ⟨fun w => by omega, fun _ => ?_⟩, fun g4 => ⟨fun _ => ?_, fun w => absurd rfl w⟩⟩, fun g3 => ⟨fun _ => ?_, fun w => absurd rfl w⟩⟩
          · have w1 : x0 + zm s x0 = e := by omega
            have w2 : y0 + zm t y0 = f := by omega
            refine ⟨by omega, by omega, by omega, by omega, ?_⟩
            rw [w32_id (x := u3 + _) (by omega) (by omega)]
            exact fin 1 (u3 + Ld (nu s x0) (nu t y0)) (Or.inr rfl) ⟨fun _ => ⟨w1, w2⟩, fun _ => rfl⟩ (mnle _ (fun v l1 l2 l3 he => mn_stepW (by omega) (by omega) w1 w2 f1 f2 f3 l1 l2 (by omega) (by omega)))
          · have hne : ¬ (x0 + zm s x0 = e ∧ y0 + zm t y0 = f) := by omega
            obtain ⟨q1, q2, q3, q4, q5⟩ := elsw hne
            exact ⟨q1, q2, q3, q4, fin 0 _ (Or.inl rfl) ⟨fun w => by omega, fun w => absurd w hne⟩ q5⟩
          · have hne : ¬ (x0 + zm s x0 = e ∧ y0 + zm t y0 = f) := by omega
            obtain ⟨q1, q2, q3, q4, q5⟩ := elsw hne
            exact ⟨q1, q2, q3, q4, fin 0 _ (Or.inl rfl) ⟨fun w => by omega, fun w => absurd w hne⟩ q5⟩
    · obtain ⟨y0, rfl⟩ : ∃ y0, y = y0 + 1 := ⟨y - 1, by omega⟩
      rw [show (m : Int) - ((y0 + 1 : Nat) : Int) + 1 = (m : Int) - y0 by omega]
      have j1 : w32 (w32 (w32 (17 * w32 ((n : Int) - e + 1 - 1)) + ((m : Int) - y0)) - 1) = 17 * ((n : Int) - e) + ((m : Int) - ((y0 + 1 : Nat) : Int)) := by
        rw [w32_id (x := (n : Int) - e + 1 - 1) (by omega) (by omega), show (n : Int) - e + 1 - 1 = (n : Int) - e by omega, cc _ _ (by omega) (by omega), w32_id (by omega) (by omega)]; omega
      have j2 : w32 (w32 (17 * w32 ((n : Int) - e + 1 - 1)) + ((m : Int) - y0)) = 17 * ((n : Int) - e) + ((m : Int) - y0) := by
        rw [w32_id (x := (n : Int) - e + 1 - 1) (by omega) (by omega), show (n : Int) - e + 1 - 1 = (n : Int) - e by omega, cc _ _ (by omega) (by omega)]
      rw [j1, j2, hN 208 1 (by omega), hp.2.2]
      clear j1 j2
      have f1 := hC (y0 + 1) (by omega) (by omega)
      unfold FM at f1
      rw [hn, hm] at f1
      have b1 := f1.bd hb (by omega) (by omega) (by omega) (by omega)
      have bA := hb.2.2
      rw [w32_id (x := _ + A) (by omega) (by omega), w32_id (x := (m : Int) - y0 + 1) (by omega) (by omega)]
      refine ⟨by omega, by omega, by omega, ⟨y0, by omega, by omega, by omega, fun x' h1 h2 => ?_, fun y' h1 h2 => ?_, fun c j a => by rw [mset_cell _ a]; exact hN c j a⟩, by (try dsimp only); omega⟩
      · unfold FM
        rw [hn, hm, mset_idx _ _ _ (by omega)]
        have := hR x' h1 h2
        unfold FM at this
        rw [hn, hm] at this; exact this
      · unfold FM
        rw [hn, hm]
        by_cases ey : y' = y0
        · rw [ey, mset_same, Int.add_comm]; exact mn_add (by omega) f1
        · rw [mset_idx _ _ _ (by omega)]
          have := hC y' (by omega) h2
          unfold FM at this
          rw [hn, hm] at this; exact this
  · obtain ⟨x0, rfl⟩ : ∃ x0, x = x0 + 1 := ⟨x - 1, by omega⟩
    rw [show (n : Int) - ((x0 + 1 : Nat) : Int) + 1 = (n : Int) - x0 by omega]
    have nx := (nu_spec (t := s) (r := x0) (by omega)).1
    have o1 := (ho.2.2.1 x0 (by omega)).1
    rw [hn] at o1 nx
    rw [← hN _ _ (by omega)] at o1
    have d0 : N 215 (nu s x0) = D (nu s x0) := by rw [hN _ _ (by omega)]; exact hp.1 _ (by omega)
    have j1 : w32 (w32 (w32 (17 * w32 ((n : Int) - x0 - 1)) + ((m : Int) - f + 1)) - 1) = 17 * ((n : Int) - ((x0 + 1 : Nat) : Int)) + ((m : Int) - f) := by
      rw [w32_id (x := (n : Int) - x0 - 1) (by omega) (by omega), w32_id (x := 17 * _) (by omega) (by omega), w32_id (x := _ + ((m : Int) - f + 1)) (by omega) (by omega), w32_id (by omega) (by omega)]; omega
    have j2 : w32 (w32 (w32 (17 * ((n : Int) - x0)) + ((m : Int) - f + 1)) - 1) = 17 * ((n : Int) - x0) + ((m : Int) - f) := by
      rw [w32_id (x := 17 * _) (by omega) (by omega), w32_id (x := _ + ((m : Int) - f + 1)) (by omega) (by omega), w32_id (by omega) (by omega)]; omega
    rw [j1, j2, o1, d0]
    clear j1 j2
    have f1 := hR (x0 + 1) (by omega) (by omega)
    unfold FM at f1
    rw [hn, hm] at f1
    have b1 := f1.bd hb (by omega) (by omega) (by omega) (by omega)
    have bD := hb.1 (nu s x0)
    rw [w32_id (x := _ + D (nu s x0)) (by omega) (by omega), w32_id (x := (n : Int) - x0 + 1) (by omega) (by omega)]
    refine ⟨by omega, by omega, by omega, by omega, ⟨x0, by omega, by omega, by omega, fun x' h1 h2 => ?_, fun c j a => by rw [mset_cell _ a]; exact hN c j a⟩, by (try dsimp only); omega⟩
    unfold FM
    rw [hn, hm]
    by_cases ex : x' = x0
    · rw [ex, mset_same, Int.add_comm]; exact mn_drop (D := fun r => D (nu s r)) (by omega) f1
    · rw [mset_idx _ _ _ (by omega)]
      have := hR x' (by omega) h2
      unfold FM at this
      rw [hn, hm] at this; exact this
end FOREST
