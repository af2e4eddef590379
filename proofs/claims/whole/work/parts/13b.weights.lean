/-! weights: a price, then the row of partners, five bits each -/
theorem cS_lin {D D1 D2 : Nat → Int} {E E1 E2 : Nat → Nat → Int} {g : Ldg} (k : Int) : ∀ (d x : Nat), (∀ a, D a = D1 a * k + D2 a) → (∀ a b, E a b = E1 a b * k + E2 a b) → cS D E g d x = cS D1 E1 g d x * k + cS D2 E2 g d x
  | 0, _, _, _ => by simp [cS]
  | d + 1, x, h1, h2 => by
    have ih := cS_lin (g := g) k d (x + 1) h1 h2
    simp only [cS]
    rw [ih, Int.add_mul]
    cases g x with
    | none => simp only [h1]; omega
    | some y => simp only [h2]; omega
/-- bounds of such a sum -/
theorem cS_bd {D : Nat → Int} {E : Nat → Nat → Int} {g : Ldg} (lo hi : Nat → Int) (hD : ∀ a, lo a ≤ D a ∧ D a ≤ hi a) (hE : ∀ a b, g a = some b → lo a ≤ E a b ∧ E a b ≤ hi a) : ∀ d x, cS lo (fun a _ => lo a) g d x ≤ cS D E g d x ∧ cS D E g d x ≤ cS hi (fun a _ => hi a) g d x
  | 0, _ => by simp [cS]
  | d + 1, x => by
    have ih := cS_bd lo hi hD hE d (x + 1)
    simp only [cS]
    cases hg : g x with
    | none => have := hD x; simp only; omega
    | some y => have := hE x y hg; simp only; omega
theorem cS_flat {w : Nat → Int} {g : Ldg} : ∀ d x, cS w (fun a _ => w a) g d x = cS w (fun a _ => w a) (fun _ => none) d x
  | 0, _ => rfl
  | d + 1, x => by
    simp only [cS]
    rw [cS_flat d (x + 1)]
    cases g x <;> rfl
theorem cS_const {w : Int} : ∀ d x, cS (fun _ => w) (fun _ _ => w) (fun _ => none) d x = w * d
  | 0, _ => by simp [cS]
  | d + 1, x => by
    simp only [cS]
    rw [cS_const d (x + 1), Int.natCast_add, Int.mul_add]; omega
def whi (x : Nat) : Int := if x < 8 then 32 ^ (7 - x) else 0
def wlo (x : Nat) : Int := if x < 8 then 0 else if x < 16 then 32 ^ (15 - x) else 0
def bhi (x : Nat) : Int := if x < 8 then 32 ^ (8 - x) - 1 else 0
def blo (x : Nat) : Int := if x < 8 then 32 ^ 8 - 1 else if x < 16 then 32 ^ (16 - x) - 1 else 0
/-- a row as a number -/
def dS (w : Nat → Int) (g : Ldg) (d x : Nat) : Int := cS (fun a => 16 * w a) (fun a b => (b : Int) * w a) g d x
theorem dS_bd {w b : Nat → Int} {g : Ldg} (hw : ∀ x, x < 16 → 0 ≤ w x ∧ 16 * w x + b (x + 1) ≤ b x) (hb : ∀ x, 0 ≤ b x) (hg : ∀ a y, g a = some y → y < 16) : ∀ d x, x + d ≤ 16 → 0 ≤ dS w g d x ∧ dS w g d x ≤ b x
  | 0, x, _ => by have := hb x; simp [dS, cS]; omega
  | d + 1, x, h => by
    have ih := dS_bd hw hb hg d (x + 1) (by omega)
    have h1 := hw x (by omega)
    unfold dS at ih ⊢
    simp only [cS]
    cases hq : g x with
    | none => simp only; omega
    | some y =>
      have hy := hg x y hq
      simp only
      have a1 : (y : Int) * w x ≤ 16 * w x := Int.mul_le_mul_of_nonneg_right (by omega) h1.1
      have a2 : 0 ≤ (y : Int) * w x := Int.mul_nonneg (by omega) h1.1
      omega
theorem whi_ok : ∀ x, x < 16 → 0 ≤ whi x ∧ 16 * whi x + bhi (x + 1) ≤ bhi x := by decide
theorem wlo_ok : ∀ x, x < 16 → 0 ≤ wlo x ∧ 16 * wlo x + blo (x + 1) ≤ blo x := by decide
theorem pow_pos32 (n : Nat) : (1 : Int) ≤ 32 ^ n := by
  induction n with
  | zero => simp
  | succ n ih => rw [Int.pow_succ]; omega
theorem bhi_ge (x : Nat) : 0 ≤ bhi x := by
  unfold bhi
  split
  · have := pow_pos32 (8 - x); omega
  · omega
theorem blo_ge (x : Nat) : 0 ≤ blo x := by
  unfold blo
  split
  · omega
  · split
    · have := pow_pos32 (16 - x); omega
    · omega
/-- what stands ahead of node x in a row is a multiple -/
theorem dS_mul {w : Nat → Int} {g : Ldg} {u : Int} {x0 : Nat} (hu : ∀ x, x < x0 → w x % u = 0) : ∀ d x, x + d ≤ x0 → ∃ q, dS w g d x = q * u
  | 0, x, _ => ⟨0, by simp [dS, cS]⟩
  | d + 1, x, h => by
    obtain ⟨q, hq⟩ := dS_mul (g := g) hu d (x + 1) (by omega)
    obtain ⟨c, hc⟩ : ∃ c, w x = u * c := Int.dvd_of_emod_eq_zero (hu x (by omega))
    unfold dS at hq ⊢
    simp only [cS]
    rw [hq, hc]
    cases g x with
    | none => exact ⟨16 * c + q, by simp only; rw [Int.add_mul, Int.mul_assoc, Int.mul_comm c u]⟩
    | some y => exact ⟨(y : Int) * c + q, by simp only; rw [Int.add_mul, Int.mul_assoc, Int.mul_comm c u]⟩
/-- the digit of node x -/
def dig (g : Ldg) (x : Nat) : Int := match g x with
  | some y => y
  | none => 16
theorem dS_split {w : Nat → Int} {g : Ldg} {n x : Nat} (hx : x < n) : dS w g n 0 = dS w g x 0 + dig g x * w x + dS w g (n - (x + 1)) (x + 1) := by
  unfold dS
  rw [show n = x + (1 + (n - (x + 1))) by omega, cS_add, cS_add]
  rw [show x + (1 + (n - (x + 1))) - (x + 1) = n - (x + 1) by omega]
  simp only [cS, dig, Nat.zero_add]
  cases g x <;> (simp only; omega)
theorem hi_mod : ∀ x0, x0 ≤ 8 → ∀ x, x < x0 → whi x % (32 ^ (8 - x0)) = 0 := by decide
theorem lo_mod : ∀ x0, x0 ≤ 16 → ∀ x, x < x0 → wlo x % (32 ^ (16 - x0)) = 0 := by decide
theorem hi_digit {g : Ldg} {n x : Nat} (hn : n ≤ 16) (hx : x < n) (h8 : x < 8) (hg : ∀ a y, g a = some y → y < 16) (P : Int) : (P * 1099511627776 + dS whi g n 0) / ((2 ^ (5 * (7 - x)) : Nat) : Int) % 32 = dig g x := by
  obtain ⟨q, hq⟩ := dS_mul (g := g) (hi_mod x (by omega)) x 0 (by omega)
  have hb := dS_bd (g := g) whi_ok bhi_ge hg (n - (x + 1)) (x + 1) (by omega)
  rw [dS_split hx, hq]
  generalize dS whi g (n - (x + 1)) (x + 1) = r at hb
  have hd : 0 ≤ dig g x ∧ dig g x ≤ 16 := by
    unfold dig
    cases h : g x with
    | none => simp
    | some y => have := hg x y h; simp only; omega
  generalize dig g x = dd at hd
  clear hq
  have : x = 0 ∨ x = 1 ∨ x = 2 ∨ x = 3 ∨ x = 4 ∨ x = 5 ∨ x = 6 ∨ x = 7 := by omega
  rcases this with rfl | rfl | rfl | rfl | rfl | rfl | rfl | rfl <;> (simp [whi, bhi] at hb ⊢; omega)
theorem lo_digit {g : Ldg} {n x : Nat} (hn : n ≤ 16) (hx : x < n) (h8 : 8 ≤ x) (hg : ∀ a y, g a = some y → y < 16) : dS wlo g n 0 / ((2 ^ (5 * (15 - x)) : Nat) : Int) % 32 = dig g x := by
  obtain ⟨q, hq⟩ := dS_mul (g := g) (lo_mod x (by omega)) x 0 (by omega)
  have hb := dS_bd (g := g) wlo_ok blo_ge hg (n - (x + 1)) (x + 1) (by omega)
  rw [dS_split hx, hq]
  generalize dS wlo g (n - (x + 1)) (x + 1) = r at hb
  have hd : 0 ≤ dig g x ∧ dig g x ≤ 16 := by
    unfold dig
    cases h : g x with
    | none => simp
    | some y => have := hg x y h; simp only; omega
  generalize dig g x = dd at hd
  clear hq
  have : x = 8 ∨ x = 9 ∨ x = 10 ∨ x = 11 ∨ x = 12 ∨ x = 13 ∨ x = 14 ∨ x = 15 := by omega
  rcases this with rfl | rfl | rfl | rfl | rfl | rfl | rfl | rfl <;> (simp [wlo, blo] at hb ⊢; omega)
/-- of two rows the lesser number is the first -/
theorem row_lt {w b : Nat → Int} {g g' : Ldg} {n x : Nat} (hw : ∀ x, x < 16 → 0 ≤ w x ∧ 16 * w x + b (x + 1) ≤ b x) (hb : ∀ x, 0 ≤ b x) (hn : n ≤ 16) (hx : x < n) (hg : ∀ a y, g a = some y → y < 16) (hg' : ∀ a y, g' a = some y → y < 16) (h1 : ∀ j, j < x → g j = g' j) (h2 : dig g' x < dig g x) (h3 : b (x + 1) < w x) : dS w g' n 0 < dS w g n 0 := by
  rw [dS_split hx, dS_split (g := g) hx]
  have e : dS w g' x 0 = dS w g x 0 := cS_congr x 0 (fun a _ ha => (h1 a (by omega)).symm)
  have b1 := dS_bd (g := g) hw hb hg (n - (x + 1)) (x + 1) (by omega)
  have b2 := dS_bd (g := g') hw hb hg' (n - (x + 1)) (x + 1) (by omega)
  have : (dig g' x + 1) * w x ≤ dig g x * w x := Int.mul_le_mul_of_nonneg_right (by omega) (hw x (by omega)).1
  rw [Int.add_mul] at this
  rw [e]; omega
theorem hi_sep : ∀ x, x < 8 → bhi (x + 1) < whi x := by decide
theorem lo_sep : ∀ x, x < 16 → 8 ≤ x → blo (x + 1) < wlo x := by decide
/-! the price as such a sum -/
def prD (pr : Int → Int) : Nat → Int := fun _ => pr 0
def prE (s t : T) (pr : Int → Int) : Nat → Nat → Int := fun a b => (if lb s a = lb t b then 0 else pr 2) - pr 1
theorem price_go {s t : T} {pr : Int → Int} {g : Ldg} : ∀ n, cS (prD pr) (prE s t pr) g n 0 = pr 0 * ((n : Int) - ((List.range n).countP (fun a => (g a).isSome) : Nat)) - pr 1 * ((List.range n).countP (fun a => (g a).isSome) : Nat) + pr 2 * ((List.range n).countP (fun a => match g a with | some b => lb s a != lb t b | none => false) : Nat)
  | 0 => by simp [cS]
  | n + 1 => by
    have ih := price_go (s := s) (t := t) (pr := pr) (g := g) n
    rw [cS_add n 1 0, ih, List.range_succ, List.countP_append, List.countP_append]
    simp only [cS, Nat.zero_add, List.countP_cons, List.countP_nil, Int.natCast_add, Int.add_zero]
    generalize ((List.range n).countP (fun a => (g a).isSome) : Nat) = c1
    generalize ((List.range n).countP (fun a => match g a with | some b => lb s a != lb t b | none => false) : Nat) = c2
    cases g n with
    | none =>
      simp only [prD, Option.isSome_none, Bool.false_eq_true, if_false, Int.natCast_zero, Int.add_zero]
      rw [show ((n : Int) + ((1 : Nat) : Int) - (c1 : Int)) = ((n : Int) - c1) + 1 by omega, Int.mul_add, Int.mul_one]
      omega
    | some b =>
      simp only [prE, Option.isSome_some, if_true]
      rw [show ((n : Int) + ((1 : Nat) : Int) - ((c1 : Int) + ((1 : Nat) : Int))) = (n : Int) - c1 by omega, Int.mul_add (pr 1)]
      by_cases h : lb s n = lb t b
      · have : (lb s n != lb t b) = false := by simp [h]
        simp only [h, this, if_true, Bool.false_eq_true, if_false]
        simp; omega
      · have : (lb s n != lb t b) = true := by simp [h]
        simp only [h, this, if_true, if_false, Int.mul_add]
        simp; omega
theorem price_eq {s t : T} {pr : Int → Int} {g : Ldg} : cS (prD pr) (prE s t pr) g s.length 0 + pr 1 * (t.length : Int) = pcL s t pr g := by
  rw [price_go]
  show pr 0 * ((s.length : Int) - (ledN s g : Nat)) - pr 1 * (ledN s g : Nat) + pr 2 * (renN s t g : Nat) + pr 1 * (t.length : Int) = pcL s t pr g
  unfold pcL
  rw [Int.mul_sub (pr 1)]
  omega
/-! the class's weights: high and low -/
def hiD (pr : Int → Int) : Nat → Int := fun a => pr 0 * 1099511627776 + 16 * whi a
def hiE (s t : T) (pr : Int → Int) : Nat → Nat → Int := fun a b => prE s t pr a b * 1099511627776 + (b : Int) * whi a
def loD : Nat → Int := fun a => 16 * wlo a
def loE : Nat → Nat → Int := fun a b => (b : Int) * wlo a
def wtD (pr : Int → Int) : Nat → Int := fun a => hiD pr a * 1099511627776 + loD a
def wtE (s t : T) (pr : Int → Int) : Nat → Nat → Int := fun a b => hiE s t pr a b * 1099511627776 + loE a b
def wtA (pr : Int → Int) : Int := pr 1 * 1099511627776 * 1099511627776
def PrOK (pr : Int → Int) : Prop := ∀ w, 0 ≤ w → w ≤ 2 → 0 ≤ pr w ∧ pr w ≤ 9
/-- high and low of the least over a region -/
def Rg (s t : T) (pr : Int → Int) (x e y f : Nat) (h l : Int) : Prop := ∃ v, Mn (sz s) (sz t) (wtD pr) (wtE s t pr) (wtA pr) x e y f v ∧ v = h * 1099511627776 + l ∧ 0 ≤ l ∧ l < 1099511627776
/-- each leading's own high and low -/
theorem wt_split {s t : T} {pr : Int → Int} {g : Ldg} {x e y f : Nat} : cS (wtD pr) (wtE s t pr) g (e - x) x + wtA pr * ((f : Int) - y) = (cS (hiD pr) (hiE s t pr) g (e - x) x + pr 1 * ((f : Int) - y) * 1099511627776) * 1099511627776 + dS wlo g (e - x) x := by
  rw [cS_lin (g := g) 1099511627776 (e - x) x (D := wtD pr) (E := wtE s t pr) (D1 := hiD pr) (E1 := hiE s t pr) (D2 := loD) (E2 := loE) (fun _ => rfl) (fun _ _ => rfl)]
  have e1 : cS loD loE g (e - x) x = dS wlo g (e - x) x := rfl
  have e2 : wtA pr * ((f : Int) - y) = pr 1 * ((f : Int) - y) * 1099511627776 * 1099511627776 := by
    unfold wtA
    rw [Int.mul_assoc (pr 1), Int.mul_comm _ ((f : Int) - y), ← Int.mul_assoc, Int.mul_comm ((f : Int) - y) (pr 1)]
    rw [Int.mul_assoc (pr 1 * ((f : Int) - y))]
  rw [e1, e2, Int.add_mul]; omega
theorem hi_split {s t : T} {pr : Int → Int} {g : Ldg} {d x : Nat} : cS (hiD pr) (hiE s t pr) g d x = cS (prD pr) (prE s t pr) g d x * 1099511627776 + dS whi g d x :=
  cS_lin (g := g) 1099511627776 d x (D := hiD pr) (E := hiE s t pr) (D1 := prD pr) (E1 := prE s t pr) (D2 := fun a => 16 * whi a) (E2 := fun a b => (b : Int) * whi a) (fun _ => rfl) (fun _ _ => rfl)
theorem pr_bd {s t : T} {pr : Int → Int} (hp : PrOK pr) {g : Ldg} {d x : Nat} : -(9 * (d : Int)) ≤ cS (prD pr) (prE s t pr) g d x ∧ cS (prD pr) (prE s t pr) g d x ≤ 9 * (d : Int) := by
  have h0 := hp 0 (by omega) (by omega)
  have h1 := hp 1 (by omega) (by omega)
  have h2 := hp 2 (by omega) (by omega)
  have := cS_bd (D := prD pr) (E := prE s t pr) (g := g) (fun _ => -9) (fun _ => 9) (fun a => by unfold prD; omega) (fun a b _ => by unfold prE; split <;> omega) d x
  rw [cS_flat (w := fun _ => (-9 : Int)), cS_flat (w := fun _ => (9 : Int)), cS_const, cS_const] at this
  omega
theorem pA_bd {p : Int} {f y : Nat} (h : 0 ≤ p ∧ p ≤ 9) (hy : y ≤ f) (hf : f ≤ 16) : 0 ≤ p * ((f : Int) - y) ∧ p * ((f : Int) - y) ≤ 144 := by
  have a1 : p * ((f : Int) - y) ≤ 9 * ((f : Int) - y) := Int.mul_le_mul_of_nonneg_right h.2 (by omega)
  have a2 : 0 ≤ p * ((f : Int) - y) := Int.mul_nonneg h.1 (by omega)
  omega
/-- the least's own leading -/
theorem Rg.ex {s t : T} {pr : Int → Int} {x e y f : Nat} {h l : Int} (hr : Rg s t pr x e y f h l) (hp : PrOK pr) (hx : x ≤ e) (he : e ≤ 16) (hy : y ≤ f) (hf : f ≤ 16) : ∃ g, LG (sz s) (sz t) x e y f g ∧ h = cS (hiD pr) (hiE s t pr) g (e - x) x + pr 1 * ((f : Int) - y) * 1099511627776 ∧ l = dS wlo g (e - x) x ∧ -500000000000000 ≤ h ∧ h ≤ 500000000000000 := by
  obtain ⟨v, ⟨⟨g, h1, h2⟩, h3⟩, h4, h5, h6⟩ := hr
  have hg : ∀ a b, g a = some b → b < 16 := fun a b hab => by have := h1.1 a b hab; omega
  have b1 := dS_bd (g := g) wlo_ok blo_ge hg (e - x) x (by omega)
  have b2 := dS_bd (g := g) whi_ok bhi_ge hg (e - x) x (by omega)
  have b3 : blo x < 1099511627776 := by
    unfold blo
    split
    · decide
    · split
      · have : ∀ q, q < 16 → (32 : Int) ^ (16 - (q + 8)) - 1 < 1099511627776 := by decide
        have := this (x - 8) (by omega)
        rwa [show x - 8 + 8 = x by omega] at this
      · omega
  have b4 : bhi x < 1099511627776 := by
    unfold bhi
    split
    · have : ∀ q, q < 8 → (32 : Int) ^ (8 - q) - 1 < 1099511627776 := by decide
      exact this x (by omega)
    · omega
  have b5 := pr_bd (s := s) (t := t) hp (g := g) (d := e - x) (x := x)
  have b6 := pA_bd (hp 1 (by omega) (by omega)) hy hf
  have hs := hi_split (s := s) (t := t) (pr := pr) (g := g) (d := e - x) (x := x)
  rw [wt_split] at h2
  refine ⟨g, h1, ?_, ?_, ?_, ?_⟩
  · omega
  · omega
  · omega
  · omega
theorem Rg.lo {s t : T} {pr : Int → Int} {x e y f : Nat} {h l : Int} (hr : Rg s t pr x e y f h l) (hp : PrOK pr) (hx : x ≤ e) (he : e ≤ 16) (hy : y ≤ f) (hf : f ≤ 16) : ∃ g, LG (sz s) (sz t) x e y f g ∧ l = dS wlo g (e - x) x := by
  obtain ⟨g, h1, -, h3, -⟩ := hr.ex hp hx he hy hf
  exact ⟨g, h1, h3⟩
theorem dS_lt {g : Ldg} {x e : Nat} (he : e ≤ 16) (hx : x ≤ e) (hg : ∀ a y, g a = some y → y < 16) : 0 ≤ dS wlo g (e - x) x ∧ dS wlo g (e - x) x < 1099511627776 := by
  have b1 := dS_bd (g := g) wlo_ok blo_ge hg (e - x) x (by omega)
  have b3 : blo x < 1099511627776 := by
    unfold blo
    split
    · decide
    · split
      · have : ∀ q, q < 16 → (32 : Int) ^ (16 - (q + 8)) - 1 < 1099511627776 := by decide
        have := this (x - 8) (by omega)
        rwa [show x - 8 + 8 = x by omega] at this
      · omega
  omega
/-! shifts -/
theorem shr64_eq {a : Int} (h : lr a) (k : Nat) (hk : k ≤ 40) : shr64 a k = a / ((2 ^ k : Nat) : Int) := by
  have e : ∀ k : Nat, k ≤ 40 → (((i32 (k : Int)).toInt64 &&& 63).toBitVec.smod 64).toNat = k := by decide +kernel
  unfold shr64
  show ((i64 a >>> ((i32 (k : Int)).toInt64 &&& 63)).toBitVec).toInt = _
  rw [Int64.toBitVec_shiftRight, BitVec.toInt_sshiftRight', e k hk, Int.shiftRight_eq_div_pow]
  have : (i64 a).toBitVec.toInt = a := i64_of h
  rw [this]
theorem and31 {a : Int} (h : 0 ≤ a) (h2 : a ≤ 9223372036854775807) : and64 a 31 = a % 32 := by
  unfold and64
  show ((i64 a &&& i64 31).toBitVec).toInt = _
  rw [Int64.toBitVec_and]
  have e1 : (i64 31).toBitVec = 31#64 := by decide
  have e2 : (i64 a).toBitVec.toNat = a.toNat := by
    show (BitVec.ofInt 64 a).toNat = _
    rw [BitVec.toNat_ofInt]
    congr 1
    apply Int.emod_eq_of_lt h
    omega
  have e3 : ((i64 a).toBitVec &&& 31#64).toNat = a.toNat % 32 := by
    rw [BitVec.toNat_and, e2]
    exact Nat.and_two_pow_sub_one_eq_mod a.toNat 5
  rw [e1, BitVec.toInt_eq_toNat_of_lt (by rw [e3]; omega), e3]
  omega
theorem shlH : ∀ y : Nat, y ≤ 16 → ∀ x : Nat, x < 8 → shl64 y (w32 (5 * w32 (7 - x))) = y * whi x := by decide +kernel
theorem shlL : ∀ y : Nat, y ≤ 16 → ∀ x : Nat, x < 16 → 8 ≤ x → shl64 y (w32 (5 * w32 (15 - x))) = y * wlo x := by decide +kernel
theorem shl40 : ∀ p : Nat, p ≤ 9 → shl64 p 40 = p * 1099511627776 := by decide +kernel
