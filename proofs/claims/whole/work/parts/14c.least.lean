/-! the reference's least price -/
theorem zm_root {t : T} (wt : Wt t) (h : 0 < t.length) : zm t 0 = t.length := by
  have z : sz t 0 = t.length := by unfold sz; rw [List.drop_zero, ok_fp' (wt.ok h)]
  have r : rp t 0 = 0 := by
    unfold rp postI
    rw [z, dep_zero]; omega
  have := zm_rp h
  rw [r, z] at this; exact this
/-- v is the least price -/
def LeP (s t : T) (pr : Int → Int) (v : Int) : Prop := (∃ g, Lead s t g ∧ pcL s t pr g = v) ∧ ∀ g, Lead s t g → v ≤ pcL s t pr g
def ldP (s t : T) (pr : Int → Int) : Nat → Nat → Int := fun a b => if lb s a = lb t b then 0 else pr 2
theorem LeP.of {s t : T} {pr : Int → Int} {v : Int} (h : Mn (sz s) (sz t) (fun _ => pr 0) (fun a b => ldP s t pr a b - pr 1) (pr 1) 0 s.length 0 t.length v) : LeP s t pr v := by
  have e : ∀ g, cS (fun _ => pr 0) (fun a b => ldP s t pr a b - pr 1) g (s.length - 0) 0 + pr 1 * ((t.length : Int) - ((0 : Nat) : Int)) = pcL s t pr g := by
    intro g
    rw [Nat.sub_zero, show ((t.length : Int) - ((0 : Nat) : Int)) = t.length by omega]
    exact price_eq
  obtain ⟨⟨g, h1, h2⟩, h3⟩ := h
  refine ⟨⟨g, h1, by rw [← h2]; exact (e g).symm⟩, fun g' hg' => ?_⟩
  have := h3 g' hg'
  rw [e g'] at this; exact this
theorem PB.price {s t : T} {pr : Int → Int} (hp : PrOK pr) : PB s t (fun _ => pr 0) (ldP s t pr) (pr 1) := by
  have h0 := hp 0 (by omega) (by omega)
  have h1 := hp 1 (by omega) (by omega)
  have h2 := hp 2 (by omega) (by omega)
  refine ⟨fun _ => by (try dsimp only); omega, fun a b => ?_, by omega, by omega⟩
  unfold ldP; split <;> omega
section LEAST
variable {V : VV} {M : Mem} {Q : Int → Mem → Prop}
theorem m_work {s t : T} {D : Nat → Int} {Ld : Nat → Nat → Int} {A : Int} (ho : OM M s t) (hp : PM M s t D Ld A) (hb : PB s t D Ld A) (ws : Wt s) (wt : Wt t) (hs : 0 < s.length) (ht : 0 < t.length)
    (q : ∀ (M' : Mem) (v : Int), Mn (sz s) (sz t) D (fun a b => Ld a b - A) A 0 s.length 0 t.length v → (∀ c j, c ≠ 218 → c ≠ 219 → M' c j = M c j) → Q v M') : R_X10_work V M Q := by
  have s16 := ws.1
  have t16 := wt.1
  apply of_X10_work
  unfold wp_X10_work wp_X10_work_2
  refine ⟨fun z N => ∃ p : Nat, z = (s.length : Int) - p + 1 ∧ p ≤ s.length ∧ (∀ r q : Nat, p ≤ r → r < s.length → q < t.length → TM N s t D Ld A r q) ∧ (∀ c j, c ≠ 218 → c ≠ 219 → N c j = M c j), fun z _ => (20 - z).toNat, ⟨s.length, by omega, by omega, fun r q h1 h2 => by omega, fun _ _ _ _ => rfl⟩, ?_⟩
  rintro z N ⟨p, rfl, hps, hT, hN⟩
  unfold wp_X10_work_2_b
  rw [hN 203 10 (by omega) (by omega), hN 203 11 (by omega) (by omega), ho.1, ho.2.1]
  refine ⟨fun c => ?_, fun c => ?_⟩
  · have hp0 : p = 0 := by omega
    subst hp0
    rw [w32_id (x := 17 * (s.length : Int)) (by omega) (by omega), w32_id (by omega) (by omega)]
    refine ⟨by omega, q N _ ?_ hN⟩
    have := hT 0 0 (by omega) hs ht
    unfold TM at this
    rw [zm_root ws hs, zm_root wt ht, Nat.zero_add, Nat.zero_add] at this
    have e : (17 * ((s.length : Int) - ((0 : Nat) : Int)) + ((t.length : Int) - ((0 : Nat) : Int))) = 17 * (s.length : Int) + t.length := by omega
    rw [e] at this
    exact mn_mirror (E := fun a b => Ld a b - A) this
  · obtain ⟨x, rfl⟩ : ∃ x, p = x + 1 := ⟨p - 1, by omega⟩
    rw [show (s.length : Int) - ((x + 1 : Nat) : Int) + 1 = (s.length : Int) - x by omega]
    unfold wp_X10_work_12
    refine ⟨fun z P => ∃ r : Nat, z = (t.length : Int) - r + 1 ∧ r ≤ t.length ∧ (∀ a b : Nat, (x < a ∨ (a = x ∧ r ≤ b)) → a < s.length → b < t.length → TM P s t D Ld A a b) ∧ (∀ c j, c ≠ 218 → c ≠ 219 → P c j = M c j), fun z _ => (20 - z).toNat, ⟨t.length, by omega, by omega, fun a b h1 h2 h3 => hT a b (by omega) h2 h3, hN⟩, ?_⟩
    clear hT hN
    rintro z P ⟨r, rfl, hrt, hT, hN⟩
    unfold wp_X10_work_12_b
    rw [hN 203 11 (by omega) (by omega), ho.2.1]
    refine ⟨fun c1 => ?_, fun c1 => ?_⟩
    · rw [w32_id (by omega) (by omega)]
      exact ⟨⟨x, by omega, by omega, fun a b h1 h2 h3 => hT a b (by omega) h2 h3, hN⟩, by (try dsimp only); omega⟩
    · obtain ⟨y, rfl⟩ : ∃ y, r = y + 1 := ⟨r - 1, by omega⟩
      rw [show (t.length : Int) - ((y + 1 : Nat) : Int) + 1 = (t.length : Int) - y by omega]
      have hx : x < s.length := by omega
      have hy : y < t.length := by omega
      have hxe := zm_end hx
      have hye := zm_end hy
      have oP : OM P s t := ⟨by rw [hN _ _ (by omega) (by omega)]; exact ho.1, by rw [hN _ _ (by omega) (by omega)]; exact ho.2.1, fun r hr => by rw [hN _ _ (by omega) (by omega), hN _ _ (by omega) (by omega)]; exact ho.2.2.1 r hr, fun r hr => by rw [hN _ _ (by omega) (by omega), hN _ _ (by omega) (by omega)]; exact ho.2.2.2 r hr⟩
      have pP : PM P s t D Ld A := ⟨fun a ha => by rw [hN _ _ (by omega) (by omega)]; exact hp.1 a ha, fun a b ha hb => by rw [hN _ _ (by omega) (by omega)]; exact hp.2.1 a b ha hb, by rw [hN _ _ (by omega) (by omega)]; exact hp.2.2⟩
      refine m_workForest oP pP hb s16 t16 hx hy (fun a b a1 a2 b1 b2 hne => hT a b ?_ (by omega) (by omega)) (fun M' hT' hW => ?_)
      · by_cases e : a = x
        · right
          refine ⟨e, ?_⟩
          by_cases e2 : b = y
          · subst e; subst e2; exact absurd ⟨rfl, rfl⟩ hne
          · omega
        · left; omega
      · rw [w32_id (by omega) (by omega)]
        refine ⟨⟨y, by omega, by omega, fun a b h1 h2 h3 => ?_, fun c j a b => ?_⟩, by (try dsimp only); omega⟩
        · by_cases hin : x ≤ a ∧ a < x + zm s x ∧ y ≤ b ∧ b < y + zm t y ∧ a + zm s a = x + zm s x ∧ b + zm t b = y + zm t y
          · exact hT' a b hin.1 hin.2.1 hin.2.2.1 hin.2.2.2.1 hin.2.2.2.2.1 hin.2.2.2.2.2
          · have zx := zm_pos hx
            have zy := zm_pos hy
            have hne : ¬ (a = x ∧ b = y) := fun ⟨e1, e2⟩ => hin (by subst e1; subst e2; exact ⟨by omega, by omega, by omega, by omega, rfl, rfl⟩)
            unfold TM
            rw [hW 218 _ (by omega) (by
              rintro ⟨x', y', -, a1, a2, a3, a4, a5, a6, a7⟩
              have exy : x' = a ∧ y' = b := by omega
              obtain ⟨rfl, rfl⟩ := exy
              exact hin ⟨a1, a2, a3, a4, a5, a6⟩)]
            exact hT a b (by omega) h2 h3
        · rw [hW c j b (fun ⟨_, _, hc, _⟩ => a hc)]; exact hN c j a b
end LEAST
