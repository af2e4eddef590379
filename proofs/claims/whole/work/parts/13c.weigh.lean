/-! the class's leader: one pair of regions -/
theorem cmp_lt {a b : Int} : cmp64 a b < 0 ↔ a < b := by unfold cmp64; split <;> (try split) <;> omega
theorem cmp_eq {a b : Int} : cmp64 a b = 0 ↔ a = b := by unfold cmp64; split <;> (try split) <;> omega
theorem cmp_ge {a b : Int} : 0 ≤ cmp64 a b ↔ b ≤ a := by unfold cmp64; split <;> (try split) <;> omega
def Rp (h l c : Int) : Prop := c = h * 1099511627776 + l ∧ 0 ≤ l ∧ l < 1099511627776 ∧ -2000000000000000 ≤ h ∧ h ≤ 2000000000000000
theorem whi_bd : ∀ x, x < 16 → 0 ≤ whi x ∧ whi x ≤ 34359738368 := by decide
theorem wlo_bd : ∀ x, x < 16 → 0 ≤ wlo x ∧ wlo x ≤ 34359738368 := by decide
section CAND
variable {s t : T} {pr : Int → Int} {x e y f : Nat} {h l : Int}
theorem cd1 (hr : Rg s t pr (x + 1) e y f h l) (hp : PrOK pr) (hx : x < e) (he : e ≤ 16) (hy : y ≤ f) (hf : f ≤ 16) : ∃ v, Mn (sz s) (sz t) (wtD pr) (wtE s t pr) (wtA pr) (x + 1) e y f v ∧ Rp (h + (pr 0 * 1099511627776 + 16 * whi x)) (l + 16 * wlo x) (wtD pr x + v) := by
  obtain ⟨g, h1, h2, h3, h4, h5⟩ := hr.ex hp (by omega) he hy hf
  obtain ⟨v, m1, m2, m3, m4⟩ := hr
  have hg : ∀ a b, g a = some b → b < 16 := fun a b hab => by have := h1.1 a b hab; omega
  have b := dS_lt (g := g) he (x := x) (by omega) hg
  have e1 : dS wlo g (e - x) x = 16 * wlo x + dS wlo g (e - (x + 1)) (x + 1) := by
    unfold dS
    rw [cS_step hx, h1.out (by omega)]
  have p0 := hp 0 (by omega) (by omega)
  have w := whi_bd x (by omega)
  refine ⟨v, m1, ?_, by omega, by omega, by omega, by omega⟩
  unfold wtD hiD loD; omega
theorem cd2 (hr : Rg s t pr x e (y + 1) f h l) (hp : PrOK pr) (hx : x ≤ e) (he : e ≤ 16) (hy : y < f) (hf : f ≤ 16) : ∃ v, Mn (sz s) (sz t) (wtD pr) (wtE s t pr) (wtA pr) x e (y + 1) f v ∧ Rp (h + pr 1 * 1099511627776) l (wtA pr + v) := by
  obtain ⟨g, h1, h2, h3, h4, h5⟩ := hr.ex hp hx he (by omega) hf
  obtain ⟨v, m1, m2, m3, m4⟩ := hr
  have p1 := hp 1 (by omega) (by omega)
  refine ⟨v, m1, ?_, by omega, by omega, by omega, by omega⟩
  unfold wtA; omega
theorem cd3w (hr : Rg s t pr (x + 1) e (y + 1) f h l) (hp : PrOK pr) (hx : x < e) (he : e ≤ 16) (hy : y < f) (hf : f ≤ 16) : ∃ v, Mn (sz s) (sz t) (wtD pr) (wtE s t pr) (wtA pr) (x + 1) e (y + 1) f v ∧ Rp (h + ((if lb s x = lb t y then 0 else pr 2) * 1099511627776 + (y : Int) * whi x)) (l + (y : Int) * wlo x) (wtE s t pr x y + wtA pr + v) := by
  obtain ⟨g, h1, h2, h3, h4, h5⟩ := hr.ex hp (by omega) he (by omega) hf
  obtain ⟨v, m1, m2, m3, m4⟩ := hr
  have hg : ∀ a b, (fun a => if a = x then some y else g a) a = some b → b < 16 := fun a b hab => by
    by_cases q : a = x
    · simp only [q, if_true, Option.some.injEq] at hab; omega
    · simp only [q, if_false] at hab
      have := h1.1 a b hab; omega
  have b := dS_lt (g := fun a => if a = x then some y else g a) he (x := x) (by omega) hg
  have e1 : dS wlo (fun a => if a = x then some y else g a) (e - x) x = (y : Int) * wlo x + dS wlo g (e - (x + 1)) (x + 1) := by
    unfold dS
    rw [cS_step hx, cS_congr (g := fun a => if a = x then some y else g a) (g' := g) (e - (x + 1)) (x + 1) (fun a ha _ => if_neg (by omega))]
    simp only [if_true]
  have p1 := hp 1 (by omega) (by omega)
  have p2 := hp 2 (by omega) (by omega)
  have w := whi_bd x (by omega)
  have w2 : 0 ≤ (y : Int) * whi x ∧ (y : Int) * whi x ≤ 16 * whi x := ⟨Int.mul_nonneg (by omega) w.1, Int.mul_le_mul_of_nonneg_right (by omega) w.1⟩
  refine ⟨v, m1, ?_, by omega, by omega, by split <;> omega, by split <;> omega⟩
  unfold wtE wtA hiE loE prE
  split <;> omega
theorem cd3e {m n : Nat} {h' l' : Int} (ht : Rg s t pr x m y n h l) (hr : Rg s t pr m e n f h' l') (hp : PrOK pr) (hx : x ≤ m) (hm : m ≤ e) (he : e ≤ 16) (hy : y ≤ n) (hn : n ≤ f) (hf : f ≤ 16) : ∃ u v, Mn (sz s) (sz t) (wtD pr) (wtE s t pr) (wtA pr) x m y n u ∧ Mn (sz s) (sz t) (wtD pr) (wtE s t pr) (wtA pr) m e n f v ∧ Rp (h' + h) (l' + l) (u + v) := by
  obtain ⟨g, h1, h2, h3, h4, h5⟩ := ht.ex hp hx (by omega) hy (by omega)
  obtain ⟨g', h1', h2', h3', h4', h5'⟩ := hr.ex hp hm he hn hf
  obtain ⟨u, m1, m2, m3, m4⟩ := ht
  obtain ⟨v, m1', m2', m3', m4'⟩ := hr
  have hg : ∀ a b, (fun a => if a < m then g a else g' a) a = some b → b < 16 := fun a b hab => by
    by_cases q : a < m
    · simp only [q, if_true] at hab
      have := h1.1 a b hab; omega
    · simp only [q, if_false] at hab
      have := h1'.1 a b hab; omega
  have b := dS_lt (g := fun a => if a < m then g a else g' a) he (x := x) (by omega) hg
  have e1 : dS wlo (fun a => if a < m then g a else g' a) (e - x) x = dS wlo g (m - x) x + dS wlo g' (e - m) m := by
    unfold dS
    rw [show e - x = (m - x) + (e - m) by omega, cS_add, show x + (m - x) = m by omega, cS_congr (g := fun a => if a < m then g a else g' a) (g' := g) (m - x) x (fun a _ ha => if_pos (by omega)), cS_congr (g := fun a => if a < m then g a else g' a) (g' := g') (e - m) m (fun a ha _ => if_neg (by omega))]
  refine ⟨u, v, m1, m1', by omega, by omega, by omega, by omega, by omega⟩
end CAND
def F12 (M M' : Mem) : Prop := ∀ c j, ¬ (c = 12 ∧ (j = 10 ∨ j = 11)) → M' c j = M c j
theorem F12.rf (M : Mem) : F12 M M := fun _ _ _ => rfl
theorem F12.trans {M M' M'' : Mem} (h : F12 M M') (h' : F12 M' M'') : F12 M M'' := fun c j a => (h' c j a).trans (h c j a)
def BestOK (M : Mem) (c : Int) : Prop := Rp (M 12 10) (M 12 11) c
section OFFER
variable {V : VV} {M : Mem} {Q : Int → Mem → Prop}
theorem set12 {M M1 : Mem} {h l : Int} (e : M1 = mset M 12 10 h) : mset M1 12 11 l 12 10 = h ∧ mset M1 12 11 l 12 11 = l ∧ F12 M (mset M1 12 11 l) := by
  refine ⟨by rw [mset_idx _ _ _ (by omega), e, mset_same], mset_same _ _ _ _, fun c j a => ?_⟩
  rw [show mset M1 12 11 l c j = M1 c j from if_neg (by omega), e]
  exact if_neg (by omega)
theorem x_offer {h l c c' : Int} (hb : BestOK M c) (hr : Rp h l c') (q : ∀ M' c'', BestOK M' c'' → c'' ≤ c → c'' ≤ c' → (c'' = c ∨ c'' = c') → F12 M M' → Q 0 M') : R_X2_offer V h l M Q := by
  have hb' := hb
  obtain ⟨b1, b2, b3, b4, b5⟩ := hb
  have hr' := hr
  obtain ⟨r1, r2, r3, r4, r5⟩ := hr
  apply of_X2_offer
  unfold wp_X2_offer
  rw [cmp_lt, cmp_eq, cmp_ge]
  refine ⟨fun g M1 h1 => ?_, fun g => ⟨fun g1 => ⟨fun g2 => ?_, fun g2 M1 h1 => ?_⟩, fun g1 => ?_⟩⟩
  · obtain ⟨s1, s2, s3⟩ := set12 (l := l) h1
    exact q _ c' (by unfold BestOK; rw [s1, s2]; exact hr') (by omega) (by omega) (Or.inr rfl) s3
  · exact q M c hb' (by omega) (by omega) (Or.inl rfl) (F12.rf _)
  · obtain ⟨s1, s2, s3⟩ := set12 (l := l) h1
    exact q _ c' (by unfold BestOK; rw [s1, s2]; exact hr') (by omega) (by omega) (Or.inr rfl) s3
  · exact q M c hb' (by omega) (by omega) (Or.inl rfl) (F12.rf _)
theorem x_offer0 {h l c' : Int} (hb : M 12 10 = 1152921504606846976) (hr : Rp h l c') (q : ∀ M', BestOK M' c' → F12 M M' → Q 0 M') : R_X2_offer V h l M Q := by
  have hr' := hr
  obtain ⟨r1, r2, r3, r4, r5⟩ := hr
  apply of_X2_offer
  unfold wp_X2_offer
  rw [cmp_lt, cmp_eq, cmp_ge, hb]
  refine ⟨fun g M1 h1 => ?_, fun g => by omega⟩
  obtain ⟨s1, s2, s3⟩ := set12 (l := l) h1
  exact q _ (by unfold BestOK; rw [s1, s2]; exact hr') s3
theorem x_startOver (q : ∀ M' : Mem, M' 12 10 = 1152921504606846976 → F12 M M' → Q 0 M') : R_X2_startOver V M Q := by
  apply of_X2_startOver
  unfold wp_X2_startOver
  intro M1 h1
  obtain ⟨s1, s2, s3⟩ := set12 (l := 1152921504606846976) h1
  exact q _ s1 s3
theorem x_highOf {p : Int} {x y : Nat} (hp : 0 ≤ p ∧ p ≤ 9) (hx : x < 16) (hy : y ≤ 16) (h : Q (p * 1099511627776 + (y : Int) * whi x) M) : R_X2_highOf V p x y M Q := by
  obtain ⟨n, rfl⟩ : ∃ n : Nat, p = n := ⟨p.toNat, by omega⟩
  have w := whi_bd x hx
  have w2 : 0 ≤ (y : Int) * whi x ∧ (y : Int) * whi x ≤ 16 * whi x := ⟨Int.mul_nonneg (by omega) w.1, Int.mul_le_mul_of_nonneg_right (by omega) w.1⟩
  apply of_X2_highOf
  unfold wp_X2_highOf wp_X2_highOf_19
  rw [shl40 n (by omega)]
  refine ⟨fun c => ?_, fun c => ?_⟩
  · have e : whi x = 0 := by unfold whi; rw [if_neg (by omega)]
    rw [e] at h
    rw [w64_id (by omega) (by omega)]
    simpa using h
  · rw [shlH y hy x (by omega), w64_id (by omega) (by omega)]; exact h
theorem x_lowOf {x y : Nat} (hx : x < 16) (hy : y ≤ 16) (h : Q ((y : Int) * wlo x) M) : R_X2_lowOf V x y M Q := by
  apply of_X2_lowOf
  unfold wp_X2_lowOf
  refine ⟨fun c => ?_, fun c => ?_⟩
  · rw [shlL y hy x hx (by omega)]; exact h
  · have e : wlo x = 0 := by unfold wlo; rw [if_pos (by omega)]
    rw [e] at h; simpa using h
/-- the prices in memory -/
def PrM (M : Mem) (pr : Int → Int) : Prop := ∀ w, 0 ≤ w → w ≤ 2 → M 13 w = pr w
theorem PrM.fr {M M' : Mem} {pr : Int → Int} (h : PrM M pr) (hf : ∀ j, M' 13 j = M 13 j) : PrM M' pr := fun w a b => by rw [hf]; exact h w a b
theorem ix_ok {x y : Nat} (hx : x ≤ 16) (hy : y ≤ 16) : w32 (w32 ((x : Int) * 17) + y) = (x : Int) * 17 + y ∧ (0 ≤ (x : Int) * 17 + y ∧ (x : Int) * 17 + y < 289) := by
  rw [w32_id (x := (x : Int) * 17) (by omega) (by omega), w32_id (by omega) (by omega)]
  exact ⟨rfl, by omega, by omega⟩
theorem x_offerDrop {s t : T} {pr : Int → Int} {x e y f : Nat} (hm : PrM M pr) (hp : PrOK pr) (hx : x < e) (he : e ≤ 16) (hy : y ≤ f) (hf : f ≤ 16) (hr : Rg s t pr (x + 1) e y f (M 18 (((x + 1 : Nat) : Int) * 17 + y)) (M 19 (((x + 1 : Nat) : Int) * 17 + y))) (hb : M 12 10 = 1152921504606846976)
    (q : ∀ M' v, Mn (sz s) (sz t) (wtD pr) (wtE s t pr) (wtA pr) (x + 1) e y f v → BestOK M' (wtD pr x + v) → F12 M M' → Q 0 M') : R_X2_offerDrop V x y M Q := by
  obtain ⟨v, m1, r1⟩ := cd1 hr hp hx he hy hf
  have p0 := hp 0 (by omega) (by omega)
  have bd := r1.2
  obtain ⟨g, -, -, -, g4, g5⟩ := hr.ex hp (by omega) he hy hf
  obtain ⟨-, -, -, l1, l2⟩ := hr
  have wl := wlo_bd x (by omega)
  apply of_X2_offerDrop
  unfold wp_X2_offerDrop
  obtain ⟨e1, e2⟩ := ix_ok (x := x + 1) (y := y) (by omega) (by omega)
  rw [show w32 ((x : Int) + 1) = ((x + 1 : Nat) : Int) by rw [w_succ (by omega)]; omega, e1]
  clear e1
  rintro v1 rfl
  refine ⟨e2, by omega, ?_⟩
  rw [hm 0 (by omega) (by omega)]
  refine x_highOf (y := 16) p0 (by omega) (by omega) ?_
  refine ⟨e2, ?_⟩
  refine x_lowOf (y := 16) (by omega) (by omega) ?_
  rw [w64_id (x := _ + (pr 0 * 1099511627776 + _)) (by omega) (by omega), w64_id (by omega) (by omega)]
  exact x_offer0 hb r1 (fun M' b' f' => q M' v m1 b' f')
theorem x_offerAdd0 {s t : T} {pr : Int → Int} {x e y f : Nat} (hm : PrM M pr) (hp : PrOK pr) (hx : x ≤ e) (he : e ≤ 16) (hy : y < f) (hf : f ≤ 16) (hr : Rg s t pr x e (y + 1) f (M 18 ((x : Int) * 17 + y + 1)) (M 19 ((x : Int) * 17 + y + 1)))
    (q : ∀ v, Mn (sz s) (sz t) (wtD pr) (wtE s t pr) (wtA pr) x e (y + 1) f v → ∀ h l, Rp h l (wtA pr + v) → R_X2_offer V h l M (fun _ M' => Q 0 M')) : R_X2_offerAdd V x y M Q := by
  obtain ⟨v, m1, r1⟩ := cd2 hr hp hx he hy hf
  obtain ⟨g, -, -, -, g4, g5⟩ := hr.ex hp hx he (by omega) hf
  have p1 := hp 1 (by omega) (by omega)
  obtain ⟨n, hn⟩ : ∃ n : Nat, pr 1 = n := ⟨(pr 1).toNat, by omega⟩
  apply of_X2_offerAdd
  unfold wp_X2_offerAdd
  obtain ⟨e1, e2⟩ := ix_ok (x := x) (y := y) (by omega) (by omega)
  rw [e1, w32_id (by omega) (by omega)]
  clear e1
  rintro v1 rfl
  refine ⟨by omega, by omega, by omega, ?_⟩
  rw [hm 1 (by omega) (by omega), hn, shl40 n (by omega), w64_id (by omega) (by omega)]
  rw [hn] at r1
  exact q v m1 _ _ r1
theorem x_keepRest {x y : Nat} (hx : x ≤ 16) (hy : y ≤ 16) (q : ∀ M' : Mem, M' 18 ((x : Int) * 17 + y) = M 12 10 → M' 19 ((x : Int) * 17 + y) = M 12 11 → (∀ c j, ¬ ((c = 18 ∨ c = 19) ∧ j = (x : Int) * 17 + y) → M' c j = M c j) → Q 0 M') : R_X2_keepRest V x y M Q := by
  apply of_X2_keepRest
  unfold wp_X2_keepRest
  obtain ⟨e1, e2⟩ := ix_ok hx hy
  rw [e1]
  clear e1
  refine ⟨e2, ?_⟩
  intro M1 h1
  refine ⟨e2, q _ ?_ ?_ (fun c j a => ?_)⟩
  · rw [mset_cell _ (by omega), h1, mset_same]
  · rw [mset_same, h1, mset_cell _ (by omega)]
  · rw [show ∀ v, mset M1 19 ((x : Int) * 17 + y) v c j = M1 c j from fun v => if_neg (by omega), h1]
    exact if_neg (by omega)
theorem x_weighPair {s t : T} {pr : Int → Int} {k1 k2 : Int} {x e y f : Nat} (hk1 : 19 < k1) (hk2 : 19 < k2) (cs : Ct M k1 s) (ct : Ct M k2 t) (hm : PrM M pr) (hp : PrOK pr) (hx : x < e) (he : e ≤ s.length) (s16 : s.length ≤ 16) (hy : y < f) (hf : f ≤ t.length) (t16 : t.length ≤ 16) (ex : x + sz s x ≤ e) (ey : y + sz t y ≤ f)
    (r1 : Rg s t pr (x + 1) e y f (M 18 (((x + 1 : Nat) : Int) * 17 + y)) (M 19 (((x + 1 : Nat) : Int) * 17 + y))) (r2 : Rg s t pr x e (y + 1) f (M 18 ((x : Int) * 17 + y + 1)) (M 19 ((x : Int) * 17 + y + 1)))
    (rw' : x + sz s x = e → y + sz t y = f → Rg s t pr (x + 1) e (y + 1) f (M 18 (((x + 1 : Nat) : Int) * 17 + y + 1)) (M 19 (((x + 1 : Nat) : Int) * 17 + y + 1)))
    (re : ¬ (x + sz s x = e ∧ y + sz t y = f) → Rg s t pr (x + sz s x) e (y + sz t y) f (M 18 (((x + sz s x : Nat) : Int) * 17 + ((y + sz t y : Nat) : Int))) (M 19 (((x + sz s x : Nat) : Int) * 17 + ((y + sz t y : Nat) : Int))) ∧ Rg s t pr x (x + sz s x) y (y + sz t y) (M 16 ((x : Int) * 17 + y)) (M 17 ((x : Int) * 17 + y)))
    (q : ∀ M', Rg s t pr x e y f (M' 18 ((x : Int) * 17 + y)) (M' 19 ((x : Int) * 17 + y)) → (x + sz s x = e → y + sz t y = f → M' 16 ((x : Int) * 17 + y) = M' 18 ((x : Int) * 17 + y) ∧ M' 17 ((x : Int) * 17 + y) = M' 19 ((x : Int) * 17 + y)) → (∀ c j, ¬ (c = 12 ∧ (j = 10 ∨ j = 11)) → ¬ ((c = 18 ∨ c = 19) ∧ j = (x : Int) * 17 + y) → ¬ ((x + sz s x = e ∧ y + sz t y = f) ∧ (c = 16 ∨ c = 17) ∧ j = (x : Int) * 17 + y) → M' c j = M c j) → Q 0 M') : R_X2_weighPair V k1 x e k2 y f M Q := by
  have hxs : x < s.length := by omega
  have hyt : y < t.length := by omega
  have zx := sz_pos hxs
  have zy := sz_pos hyt
  have ib := (ix_ok (x := x) (y := y) (by omega) (by omega)).2
  apply of_X2_weighPair
  unfold wp_X2_weighPair
  refine ⟨by omega, ?_⟩
  intro v1 hv1
  refine ⟨by omega, ?_⟩
  intro v2 hv2
  rw [(cs.2 x hxs).1, w32_id (by omega) (by omega)] at hv1
  rw [(ct.2 y hyt).1, w32_id (by omega) (by omega)] at hv2
  refine x_startOver (fun M4 b4 f4 => ?_)
  have e4 : ∀ c j, c ≠ 12 → M4 c j = M c j := fun c j a => f4 _ _ (by omega)
  refine x_offerDrop (s := s) (t := t) (pr := pr) (e := e) (f := f) (hm.fr (fun j => e4 _ _ (by omega))) hp hx (by omega) (by omega) (by omega) (by rw [e4 _ _ (by omega), e4 _ _ (by omega)]; exact r1) b4 (fun M6 v1' m1 b6 f6 => ?_)
  have e6 : ∀ c j, c ≠ 12 → M6 c j = M c j := fun c j a => by rw [f6 _ _ (by omega)]; exact e4 c j a
  refine x_offerAdd0 (s := s) (t := t) (pr := pr) (e := e) (f := f) (hm.fr (fun j => e6 _ _ (by omega))) hp (by omega) (by omega) hy (by omega) (by rw [e6 _ _ (by omega), e6 _ _ (by omega)]; exact r2) (fun v2' m2 h l hR => ?_)
  refine x_offer b6 hR (fun M8 c8 b8 a8 a8' o8 f8 => ?_)
  have e8 : ∀ c j, c ≠ 12 → M8 c j = M c j := fun c j a => by rw [f8 _ _ (by omega)]; exact e6 c j a
  have f48 : F12 M M8 := (f4.trans f6).trans f8
  /- the last step: the best is kept -/
  have last : ∀ (N : Mem) (c : Int), BestOK N c → Mn (sz s) (sz t) (wtD pr) (wtE s t pr) (wtA pr) x e y f c → (x + sz s x = e → y + sz t y = f → N 16 ((x : Int) * 17 + y) = N 12 10 ∧ N 17 ((x : Int) * 17 + y) = N 12 11) → (∀ c j, ¬ (c = 12 ∧ (j = 10 ∨ j = 11)) → ¬ ((x + sz s x = e ∧ y + sz t y = f) ∧ (c = 16 ∨ c = 17) ∧ j = (x : Int) * 17 + y) → N c j = M c j) → wp_X2_weighPair_218 V x y N Q := by
    intro N c hb hmn htr hfr
    unfold wp_X2_weighPair_218
    refine x_keepRest (by omega) (by omega) (fun M' k1 k2 k3 => ?_)
    refine q M' ⟨c, hmn, ?_⟩ (fun a b => ?_) (fun c j a b d => by rw [k3 _ _ b]; exact hfr c j a d)
    · rw [k1, k2]; exact ⟨hb.1, hb.2.1, hb.2.2.1⟩
    · rw [k3 16 _ (by omega), k3 17 _ (by omega), k1, k2]; exact htr a b
  have els : ¬ (x + sz s x = e ∧ y + sz t y = f) → wp_X2_weighPair_165 V x y v1 v2 M8 Q := by
    intro hne
    obtain ⟨ra, rb⟩ := re hne
    unfold wp_X2_weighPair_165
    obtain ⟨u, v3, mu, m3, hR3⟩ := cd3e rb ra hp (by omega) ex (by omega) (by omega) ey (by omega)
    obtain ⟨ga, -, -, -, a4, a5⟩ := ra.ex hp ex (by omega) ey (by omega)
    obtain ⟨gb, -, -, -, b4, b5⟩ := rb.ex hp (by omega) (by omega) (by omega) (by omega)
    obtain ⟨-, -, -, la1, la2⟩ := ra
    obtain ⟨-, -, -, lb1, lb2⟩ := rb
    have jb := (ix_ok (x := x + sz s x) (y := y + sz t y) (by omega) (by omega)).2
    rw [show v1 = ((x + sz s x : Nat) : Int) by omega, show v2 = ((y + sz t y : Nat) : Int) by omega, (ix_ok (x := x + sz s x) (y := y + sz t y) (by omega) (by omega)).1, (ix_ok (x := x) (y := y) (by omega) (by omega)).1]
    rintro v9 rfl v10 rfl
    refine ⟨jb, ib, jb, ib, ?_⟩
    rw [e8 _ _ (by omega), e8 _ _ (by omega), e8 _ _ (by omega), e8 _ _ (by omega), w64_id (by omega) (by omega), w64_id (by omega) (by omega)]
    refine x_offer b8 hR3 (fun M9 c9 b9 a9 a9' o9 f9 => ?_)
    refine last M9 c9 b9 (mn_stepE hx hy zx zy ex ey (fun a h1 h2 => nest h1 h2) (fun b h1 h2 => nest h1 h2) m1 m2 mu m3 (by omega) (by omega) (by omega) (by omega)) (fun a b => absurd ⟨a, b⟩ hne) (fun c j a _ => by rw [f9 _ _ a]; exact f48 c j a)
  refine ⟨fun c1 => ⟨fun c2 => ?_, fun c2 => els (by omega)⟩, fun c1 => els (by omega)⟩
  have w1 : x + sz s x = e := by omega
  have w2 : y + sz t y = f := by omega
  have r3 := rw' w1 w2
  obtain ⟨v3, m3, hR3⟩ := cd3w r3 hp hx (by omega) hy (by omega)
  obtain ⟨g3, -, -, -, g4, g5⟩ := r3.ex hp (by omega) (by omega) (by omega) (by omega)
  obtain ⟨-, -, -, l31, l32⟩ := r3
  have whb := whi_bd x (by omega)
  have wlb := wlo_bd x (by omega)
  have wh2 : 0 ≤ (y : Int) * whi x ∧ (y : Int) * whi x ≤ 16 * whi x := ⟨Int.mul_nonneg (by omega) whb.1, Int.mul_le_mul_of_nonneg_right (by omega) whb.1⟩
  have wl2 : 0 ≤ (y : Int) * wlo x ∧ (y : Int) * wlo x ≤ 16 * wlo x := ⟨Int.mul_nonneg (by omega) wlb.1, Int.mul_le_mul_of_nonneg_right (by omega) wlb.1⟩
  intro v15 hv15
  rw [show w32 ((x : Int) + 1) = ((x + 1 : Nat) : Int) by rw [w_succ (by omega)]; omega] at hv15
  rw [(ix_ok (x := x + 1) (y := y) (by omega) (by omega)).1, w32_id (by omega) (by omega)] at hv15
  have d94 : ∀ p : Int, (p = if lb s x = lb t y then 0 else pr 2) → wp_X2_weighPair_94 V x y v15 p M8 Q := by
    intro p hpp
    have hp9 : 0 ≤ p ∧ p ≤ 9 := by
      have := hp 2 (by omega) (by omega)
      rw [hpp]; split <;> omega
    unfold wp_X2_weighPair_94
    rw [(ix_ok (x := x) (y := y) (by omega) (by omega)).1]
    refine ⟨by omega, ?_⟩
    refine x_highOf hp9 (by omega) (by omega) ?_
    refine ⟨by omega, ?_⟩
    refine x_lowOf (by omega) (by omega) ?_
    rw [hv15, e8 _ _ (by omega), e8 _ _ (by omega), w64_id (x := _ + (p * 1099511627776 + _)) (by omega) (by omega), w64_id (by omega) (by omega)]
    rw [← hpp] at hR3
    refine x_offer b8 hR3 (fun M9 c9 b9 a9 a9' o9 f9 => ?_)
    refine ⟨ib, ?_⟩
    intro M22 h22
    refine ⟨ib, ?_⟩
    have g16 : mset M22 17 ((x : Int) * 17 + y) (M22 12 11) 16 ((x : Int) * 17 + y) = M9 12 10 := by rw [mset_cell _ (by omega), h22, mset_same]
    have g17 : mset M22 17 ((x : Int) * 17 + y) (M22 12 11) 17 ((x : Int) * 17 + y) = M9 12 11 := by rw [mset_same, h22, mset_cell _ (by omega)]
    have gf : ∀ c j, ¬ ((c = 16 ∨ c = 17) ∧ j = (x : Int) * 17 + y) → mset M22 17 ((x : Int) * 17 + y) (M22 12 11) c j = M9 c j := fun c j a => by
      rw [show mset M22 17 ((x : Int) * 17 + y) (M22 12 11) c j = M22 c j from if_neg (by omega), h22]
      exact if_neg (by omega)
    refine last _ c9 (by unfold BestOK; rw [gf _ _ (by omega), gf _ _ (by omega)]; exact b9) (mn_stepW hx hy w1 w2 m1 m2 m3 (by omega) (by omega) (by omega) (by omega)) (fun _ _ => ?_) (fun c j a b => ?_)
    · rw [g16, g17, gf _ _ (by omega), gf _ _ (by omega)]; exact ⟨rfl, rfl⟩
    · rw [gf _ _ (by omega), f9 _ _ a]; exact f48 c j a
  refine ⟨by omega, by omega, ?_⟩
  rw [e8 _ _ (by omega), e8 _ _ (by omega), (cs.1.2 x hxs).1, (ct.1.2 y hyt).1, e8 13 2 (by omega), hm 2 (by omega) (by omega)]
  exact ⟨fun g => d94 0 (by rw [if_pos g]), fun g => ⟨by omega, d94 (pr 2) (by rw [if_neg g])⟩⟩
end OFFER
