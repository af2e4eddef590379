/-! the class's joining, as functions: terms 0-31 nodes, 32-47 holes -/
def tm (Z : T4) (q : Nat) : Nat := if hol Z q then 32 + nh Z q else q
def tw (Z : T4) (τ : Int → T) (c : Nat) : T := if c < 32 then tv Z τ c else τ (vr (c - 32))
def Pr (Z : T4) (x : Nat) : Prop := x < 32 ∧ nOK Z x ∧ hol Z x = false
def Tm (Z : T4) (c : Nat) : Prop := Pr Z c ∨ (32 ≤ c ∧ c < 48)
theorem Tm.lt {Z : T4} {c : Nat} (h : Tm Z c) : c < 48 := by
  rcases h with g | g
  · have := g.1; omega
  · exact g.2
theorem tm_ok {Z : T4} (hZ : Z4 Z) {q : Nat} (h : nOK Z q) (h32 : q < 32) : Tm Z (tm Z q) ∧ ∀ τ, tw Z τ (tm Z q) = tv Z τ q := by
  unfold tm
  cases hh : hol Z q with
  | true =>
    simp only [if_true]
    have := (tv_hole (τ := fun v => [(v, 0)]) hZ h hh).2.2
    refine ⟨Or.inr ⟨by omega, by omega⟩, fun τ => ?_⟩
    unfold tw
    rw [if_neg (by omega), (tv_hole hZ h hh).1]
    congr 2; omega
  | false =>
    simp only [Bool.false_eq_true, if_false]
    exact ⟨Or.inl ⟨h32, h, hh⟩, fun τ => by unfold tw; rw [if_pos h32]⟩
def jS (f : Nat → Nat) : Nat → Nat
  | 0 => 0
  | n + 1 => jS f n + f n
theorem jS_congr {f g : Nat → Nat} : ∀ n, (∀ c, c < n → g c = f c) → jS g n = jS f n
  | 0, _ => rfl
  | n + 1, h => by unfold jS; rw [jS_congr n (fun c hc => h c (by omega)), h n (by omega)]
theorem jS_upd {f g : Nat → Nat} {p : Nat} : ∀ n, p < n → (∀ c, c < n → c ≠ p → g c = f c) → jS g n + f p = jS f n + g p
  | 0, h, _ => by omega
  | n + 1, h, hg => by
    unfold jS
    by_cases e : p = n
    · rw [jS_congr n (fun c hc => hg c (by omega) (by omega)), e]; omega
    · have := jS_upd n (by omega) (fun c hc => hg c (by omega))
      rw [hg n (by omega) (by omega)]; omega
theorem jS_two {f g : Nat → Nat} {p q n : Nat} (hp : p < n) (hq : q < n) (hpq : p ≠ q) (h : ∀ c, c < n → c ≠ p → c ≠ q → g c = f c) : jS g n + f p + f q = jS f n + g p + g q := by
  have a1 := jS_upd (f := f) (g := fun c => if c = q then g q else f c) n hq (fun c _ hc => by simp [hc])
  have a2 := jS_upd (f := fun c => if c = q then g q else f c) (g := g) n hp (fun c h1 h2 => by
    by_cases e : c = q
    · simp [e]
    · simp only [if_neg e]; exact h c h1 h2 e)
  simp only [if_true, if_neg hpq] at a1 a2
  omega
def jf (Z : T4) (k : Nat → Nat) (s : Nat → Int) (p : Nat) : Nat := if k p = p ∧ 0 ≤ s p then nar Z (s p).toNat else 0
/-- kin, or to be kin -/
def Cl (Z : T4) (k : Nat → Nat) (w : List (Nat × Nat)) (a b : Nat) : Prop := ∀ f : Nat → Nat, (∀ c, Tm Z c → f (k c) = f c) → (∀ e ∈ w, f (tm Z e.1) = f (tm Z e.2)) → f a = f b
def JI (Z : T4) (i n : Nat) (k : Nat → Nat) (s : Nat → Int) (w : List (Nat × Nat)) : Prop :=
  (∀ c, Tm Z c → Tm Z (k c) ∧ k (k c) = k c) ∧
  (∀ c, c < 32 → ¬ Tm Z c → k c = c ∧ s c = c) ∧
  (∀ p, Tm Z p → k p = p → (s p = -1 ∧ ∀ x, Pr Z x → k x ≠ p) ∨ (0 ≤ s p ∧ Pr Z (s p).toNat ∧ k (s p).toNat = p)) ∧
  (∀ p, Tm Z p → k p = p → 0 ≤ s p → ∀ x, Pr Z x → k x = p → nlb Z (s p).toNat = nlb Z x ∧ nar Z (s p).toNat = nar Z x ∧ ∀ j, j < nar Z x → Cl Z k w (tm Z (nch Z (s p).toNat j)) (tm Z (nch Z x j))) ∧
  (∀ τ, okθ τ → (tv Z τ i = tv Z τ 16 ↔ (∀ c, Tm Z c → tw Z τ c = tw Z τ (k c)) ∧ ∀ e ∈ w, tv Z τ e.1 = tv Z τ e.2)) ∧
  (∀ e ∈ w, nOK Z e.1 ∧ e.1 < 32 ∧ nOK Z e.2 ∧ e.2 < 32) ∧
  (n + w.length + jS (jf Z k s) 48 ≤ 31) ∧
  (∀ c, Tm Z c → s c = -1 ∨ (0 ≤ s c ∧ Pr Z (s c).toNat ∧ k (s c).toNat = k c))
theorem JI.kin {Z : T4} {i n : Nat} {k : Nat → Nat} {s : Nat → Int} {w : List (Nat × Nat)} (h : JI Z i n k s w) : ∀ c, Tm Z c → Tm Z (k c) ∧ k (k c) = k c := h.1
theorem JI.un {Z : T4} {i n : Nat} {k : Nat → Nat} {s : Nat → Int} {w : List (Nat × Nat)} (h : JI Z i n k s w) : ∀ c, c < 32 → ¬ Tm Z c → k c = c ∧ s c = c := h.2.1
theorem JI.shp {Z : T4} {i n : Nat} {k : Nat → Nat} {s : Nat → Int} {w : List (Nat × Nat)} (h : JI Z i n k s w) : ∀ p, Tm Z p → k p = p → (s p = -1 ∧ ∀ x, Pr Z x → k x ≠ p) ∨ (0 ≤ s p ∧ Pr Z (s p).toNat ∧ k (s p).toNat = p) := h.2.2.1
theorem JI.par {Z : T4} {i n : Nat} {k : Nat → Nat} {s : Nat → Int} {w : List (Nat × Nat)} (h : JI Z i n k s w) : ∀ p, Tm Z p → k p = p → 0 ≤ s p → ∀ x, Pr Z x → k x = p → nlb Z (s p).toNat = nlb Z x ∧ nar Z (s p).toNat = nar Z x ∧ ∀ j, j < nar Z x → Cl Z k w (tm Z (nch Z (s p).toNat j)) (tm Z (nch Z x j)) := h.2.2.2.1
theorem JI.sem {Z : T4} {i n : Nat} {k : Nat → Nat} {s : Nat → Int} {w : List (Nat × Nat)} (h : JI Z i n k s w) : ∀ τ, okθ τ → (tv Z τ i = tv Z τ 16 ↔ (∀ c, Tm Z c → tw Z τ c = tw Z τ (k c)) ∧ ∀ e ∈ w, tv Z τ e.1 = tv Z τ e.2) := h.2.2.2.2.1
theorem JI.wok {Z : T4} {i n : Nat} {k : Nat → Nat} {s : Nat → Int} {w : List (Nat × Nat)} (h : JI Z i n k s w) : ∀ e ∈ w, nOK Z e.1 ∧ e.1 < 32 ∧ nOK Z e.2 ∧ e.2 < 32 := h.2.2.2.2.2.1
theorem JI.cnt {Z : T4} {i n : Nat} {k : Nat → Nat} {s : Nat → Int} {w : List (Nat × Nat)} (h : JI Z i n k s w) : n + w.length + jS (jf Z k s) 48 ≤ 31 := h.2.2.2.2.2.2.1
theorem JI.old {Z : T4} {i n : Nat} {k : Nat → Nat} {s : Nat → Int} {w : List (Nat × Nat)} (h : JI Z i n k s w) : ∀ c, Tm Z c → s c = -1 ∨ (0 ≤ s c ∧ Pr Z (s c).toNat ∧ k (s c).toNat = k c) := h.2.2.2.2.2.2.2
def jk (k : Nat → Nat) (p q : Nat) : Nat → Nat := fun c => if k c = q then p else k c
def js (s : Nat → Int) (p q : Nat) : Nat → Int := fun c => if c = p ∧ s p < 0 then s q else s c
theorem pr_ch {Z : T4} (hZ : Z4 Z) {x j : Nat} (h : Pr Z x) (hj : j < nar Z x) : nOK Z (nch Z x j) ∧ nch Z x j < 32 := by
  obtain ⟨a1, a2, -⟩ := nch_t hZ h.2.1 hj
  have := h.1
  exact ⟨a1, by omega⟩
section JOIN
variable {Z : T4} {i n : Nat} {k : Nat → Nat} {s : Nat → Int} {w : List (Nat × Nat)} {u v : Nat}
theorem ji_same (hZ : Z4 Z) (h : JI Z i n k s (w ++ [(u, v)])) (he : k (tm Z u) = k (tm Z v)) : JI Z i (n + 1) k s w := by
  obtain ⟨w1, w2, w3, w4⟩ := h.wok (u, v) (by simp)
  simp only at w1 w2 w3 w4
  obtain ⟨u1, u2⟩ := tm_ok hZ w1 w2
  obtain ⟨v1, v2⟩ := tm_ok hZ w3 w4
  refine ⟨h.kin, h.un, h.shp, fun p a b c x d e => ?_, fun τ ht => ?_, fun e he' => h.wok e (by simp [he']), by have := h.cnt; simp at this; omega, h.old⟩
  · obtain ⟨g1, g2, g3⟩ := h.par p a b c x d e
    refine ⟨g1, g2, fun j hj f hf hw => g3 j hj f hf (fun e he' => ?_)⟩
    rcases List.mem_append.mp he' with g | g
    · exact hw e g
    · simp at g; rw [g]
      show f (tm Z u) = f (tm Z v)
      rw [← hf _ u1, ← hf _ v1, he]
  · rw [h.sem τ ht]
    constructor
    · rintro ⟨a, b⟩; exact ⟨a, fun e he' => b e (by simp [he'])⟩
    · rintro ⟨a, b⟩
      refine ⟨a, fun e he' => ?_⟩
      rcases List.mem_append.mp he' with g | g
      · exact b e g
      · simp at g; rw [g]
        show tv Z τ u = tv Z τ v
        rw [← u2, ← v2, a _ u1, a _ v1, he]
theorem ji_tw (hZ : Z4 Z) (h : JI Z i n k s (w ++ [(u, v)])) {τ : Int → T} (ht : okθ τ) (ho : tv Z τ i = tv Z τ 16) : tw Z τ (k (tm Z u)) = tw Z τ (k (tm Z v)) := by
  obtain ⟨w1, w2, w3, w4⟩ := h.wok (u, v) (by simp)
  simp only at w1 w2 w3 w4
  obtain ⟨u1, u2⟩ := tm_ok hZ w1 w2
  obtain ⟨v1, v2⟩ := tm_ok hZ w3 w4
  obtain ⟨a, b⟩ := (h.sem τ ht).mp ho
  rw [← a _ u1, ← a _ v1, u2, v2]
  exact b (u, v) (by simp)
/-- the trees of two shapes that are to be kin -/
theorem ji_shapes (hZ : Z4 Z) (h : JI Z i n k s (w ++ [(u, v)])) (hp : 0 ≤ s (k (tm Z u))) (hq : 0 ≤ s (k (tm Z v))) : Pr Z (s (k (tm Z u))).toNat ∧ Pr Z (s (k (tm Z v))).toNat ∧ ∀ τ, okθ τ → tv Z τ i = tv Z τ 16 → tv Z τ (s (k (tm Z u))).toNat = tv Z τ (s (k (tm Z v))).toNat := by
  obtain ⟨w1, w2, w3, w4⟩ := h.wok (u, v) (by simp)
  simp only at w1 w2 w3 w4
  obtain ⟨u1, u2⟩ := tm_ok hZ w1 w2
  obtain ⟨v1, v2⟩ := tm_ok hZ w3 w4
  obtain ⟨p1, p2⟩ := h.kin _ u1
  obtain ⟨q1, q2⟩ := h.kin _ v1
  rcases h.shp _ p1 p2 with g | ⟨-, g1, g2⟩
  · omega
  rcases h.shp _ q1 q2 with g | ⟨-, k1, k2⟩
  · omega
  refine ⟨g1, k1, fun τ ht ho => ?_⟩
  have e := ji_tw hZ h ht ho
  obtain ⟨a, -⟩ := (h.sem τ ht).mp ho
  have e1 := a _ (Or.inl g1)
  have e2 := a _ (Or.inl k1)
  rw [g2, ← h.kin _ u1 |>.2] at e1
  rw [k2] at e2
  have t1 : tw Z τ (s (k (tm Z u))).toNat = tv Z τ (s (k (tm Z u))).toNat := by unfold tw; rw [if_pos g1.1]
  have t2 : tw Z τ (s (k (tm Z v))).toNat = tv Z τ (s (k (tm Z v))).toNat := by unfold tw; rw [if_pos k1.1]
  rw [p2] at e1
  rw [← t1, ← t2, e1, e2, e]
theorem ji_clash (hZ : Z4 Z) (h : JI Z i n k s (w ++ [(u, v)])) (hp : 0 ≤ s (k (tm Z u))) (hq : 0 ≤ s (k (tm Z v))) (hne : nlb Z (s (k (tm Z u))).toNat ≠ nlb Z (s (k (tm Z v))).toNat ∨ nar Z (s (k (tm Z u))).toNat ≠ nar Z (s (k (tm Z v))).toNat) : ∀ τ, okθ τ → tv Z τ i ≠ tv Z τ 16 := by
  intro τ ht ho
  obtain ⟨a1, a2, a3⟩ := ji_shapes hZ h hp hq
  obtain ⟨b1, b2, -⟩ := (tv_eq hZ ht a1.2.1 a2.2.1 a1.2.2 a2.2.2).mp (a3 τ ht ho)
  rcases hne with g | g
  · exact g b1
  · exact g b2
def jw (Z : T4) (s : Nat → Int) (p q : Nat) : List (Nat × Nat) := if 0 ≤ s p ∧ 0 ≤ s q then (List.range (nar Z (s p).toNat)).map (fun j => (nch Z (s p).toNat j, nch Z (s q).toNat j)) else []
theorem ji_join (hZ : Z4 Z) (h : JI Z i n k s (w ++ [(u, v)])) {p q : Nat} (hp : k (tm Z u) = p) (hq : k (tm Z v) = q) (hne : p ≠ q) (hm : 0 ≤ s p → 0 ≤ s q → nlb Z (s p).toNat = nlb Z (s q).toNat ∧ nar Z (s p).toNat = nar Z (s q).toNat) : JI Z i (n + 1) (jk k p q) (js s p q) (w ++ jw Z s p q) := by
  obtain ⟨w1, w2, w3, w4⟩ := h.wok (u, v) (by simp)
  simp only at w1 w2 w3 w4
  obtain ⟨u1, u2⟩ := tm_ok hZ w1 w2
  obtain ⟨v1, v2⟩ := tm_ok hZ w3 w4
  obtain ⟨p1, p2⟩ := h.kin _ u1
  obtain ⟨q1, q2⟩ := h.kin _ v1
  have hsh := ji_shapes hZ h
  have htw := fun τ ht => ji_tw hZ h (τ := τ) ht
  rw [hp] at p1 p2 hsh htw
  rw [hq] at q1 q2 hsh htw
  have kp : jk k p q p = p := by unfold jk; rw [p2, if_neg hne]
  have kq : jk k p q q = p := by unfold jk; rw [q2, if_pos rfl]
  have root : ∀ c, jk k p q c = c ↔ (k c = c ∧ c ≠ q) := by
    intro c
    unfold jk
    by_cases e : k c = q
    · rw [if_pos e]
      constructor
      · intro g; rw [← g, p2] at e; exact absurd e hne
      · rintro ⟨a, b⟩; rw [a] at e; exact absurd e b
    · rw [if_neg e]
      constructor
      · intro g; exact ⟨g, fun b => by rw [b] at g e; exact e g⟩
      · rintro ⟨a, -⟩; exact a
  have hcl : ∀ a b, Cl Z k (w ++ [(u, v)]) a b → Cl Z (jk k p q) (w ++ jw Z s p q) a b := by
    intro a b g f hf hw
    have fq : f p = f q := by have := hf q q1; rw [kq] at this; exact this
    have fk : ∀ c, Tm Z c → f (k c) = f c := by
      intro c hc
      have := hf c hc
      unfold jk at this
      by_cases e : k c = q
      · rw [if_pos e] at this; rw [e, ← fq, this]
      · rw [if_neg e] at this; exact this
    refine g f fk (fun e he => ?_)
    rcases List.mem_append.mp he with g' | g'
    · exact hw e (by simp [g'])
    · simp at g'; rw [g']
      show f (tm Z u) = f (tm Z v)
      rw [← fk _ u1, ← fk _ v1, hp, hq, fq]
  refine ⟨fun c hc => ?_, fun c hc hn => ?_, fun r hr hk => ?_, fun r hr hk hs x hx hxr => ?_, fun τ ht => ?_, fun e he => ?_, ?_, fun c hc => ?_⟩
  · by_cases e : k c = q
    · have : jk k p q c = p := by unfold jk; rw [if_pos e]
      rw [this]; exact ⟨p1, kp⟩
    · have : jk k p q c = k c := by unfold jk; rw [if_neg e]
      rw [this]
      exact ⟨(h.kin c hc).1, (root _).mpr ⟨(h.kin c hc).2, e⟩⟩
  · obtain ⟨a, b⟩ := h.un c hc hn
    have cq : c ≠ q := fun e => hn (e ▸ q1)
    have cp : c ≠ p := fun e => hn (e ▸ p1)
    refine ⟨(root c).mpr ⟨a, cq⟩, ?_⟩
    unfold js; rw [if_neg (fun g => cp g.1)]; exact b
  · obtain ⟨k1, k2⟩ := (root r).mp hk
    by_cases e : r = p
    · rw [e]
      by_cases sp : s p < 0
      · have e1 : js s p q p = s q := by unfold js; rw [if_pos ⟨rfl, sp⟩]
        rw [e1]
        rcases h.shp p p1 p2 with ⟨a1, a2⟩ | ⟨a1, -⟩
        · rcases h.shp q q1 q2 with ⟨b1, b2⟩ | ⟨b1, b2, b3⟩
          · refine Or.inl ⟨b1, fun x hx => ?_⟩
            unfold jk
            rw [if_neg (b2 x hx)]; exact a2 x hx
          · refine Or.inr ⟨b1, b2, ?_⟩
            unfold jk; rw [if_pos b3]
        · omega
      · have e1 : js s p q p = s p := by unfold js; rw [if_neg (fun g => sp g.2)]
        rw [e1]
        rcases h.shp p p1 p2 with ⟨a1, a2⟩ | ⟨a1, a2, a3⟩
        · omega
        · refine Or.inr ⟨a1, a2, ?_⟩
          unfold jk; rw [a3, if_neg hne]
    · have e1 : js s p q r = s r := by unfold js; rw [if_neg (fun g => e g.1)]
      rw [e1]
      rcases h.shp r hr k1 with ⟨a1, a2⟩ | ⟨a1, a2, a3⟩
      · refine Or.inl ⟨a1, fun x hx => ?_⟩
        unfold jk
        split
        · exact fun g => e g.symm
        · exact a2 x hx
      · refine Or.inr ⟨a1, a2, ?_⟩
        unfold jk; rw [a3, if_neg k2]
  · obtain ⟨k1, k2⟩ := (root r).mp hk
    have old : ∀ r', Tm Z r' → k r' = r' → 0 ≤ s r' → k x = r' → nlb Z (s r').toNat = nlb Z x ∧ nar Z (s r').toNat = nar Z x ∧ ∀ j, j < nar Z x → Cl Z (jk k p q) (w ++ jw Z s p q) (tm Z (nch Z (s r').toNat j)) (tm Z (nch Z x j)) := fun r' a b c d => by
      obtain ⟨g1, g2, g3⟩ := h.par r' a b c x hx d
      exact ⟨g1, g2, fun j hj => hcl _ _ (g3 j hj)⟩
    by_cases e : r = p
    · rw [e] at hs ⊢
      by_cases sp : s p < 0
      · have e1 : js s p q p = s q := by unfold js; rw [if_pos ⟨rfl, sp⟩]
        rw [e1] at hs ⊢
        have hkx : k x = q := by
          by_cases g : k x = q
          · exact g
          · unfold jk at hxr; rw [if_neg g, e] at hxr
            rcases h.shp p p1 p2 with ⟨a1, a2⟩ | ⟨a1, -⟩
            · exact absurd hxr (a2 x hx)
            · omega
        exact old q q1 q2 hs hkx
      · have e1 : js s p q p = s p := by unfold js; rw [if_neg (fun g => sp g.2)]
        rw [e1] at hs ⊢
        by_cases g : k x = q
        · have sq : 0 ≤ s q := by
            rcases h.shp q q1 q2 with ⟨b1, b2⟩ | ⟨b1, -⟩
            · exact absurd g (b2 x hx)
            · exact b1
          obtain ⟨m1, m2⟩ := hm hs sq
          obtain ⟨o1, o2, o3⟩ := old q q1 q2 sq g
          refine ⟨m1.trans o1, m2.trans o2, fun j hj f hf hw => ?_⟩
          have := hw (nch Z (s p).toNat j, nch Z (s q).toNat j) (by
            refine List.mem_append.mpr (Or.inr ?_)
            unfold jw
            rw [if_pos ⟨hs, sq⟩]
            exact List.mem_map.mpr ⟨j, List.mem_range.mpr (by omega), rfl⟩)
          exact this.trans (o3 j hj f hf hw)
        · have hkx : k x = p := by unfold jk at hxr; rw [if_neg g, e] at hxr; exact hxr
          exact old p p1 p2 hs hkx
    · have e1 : js s p q r = s r := by unfold js; rw [if_neg (fun g => e g.1)]
      rw [e1] at hs ⊢
      have hkx : k x = r := by
        unfold jk at hxr
        by_cases g : k x = q
        · rw [if_pos g] at hxr; exact absurd hxr.symm e
        · rw [if_neg g] at hxr; exact hxr
      exact old r hr k1 hs hkx
  · constructor
    · intro ho
      obtain ⟨a, b⟩ := (h.sem τ ht).mp ho
      have epq := htw τ ht ho
      refine ⟨fun c hc => ?_, fun e he => ?_⟩
      · unfold jk
        by_cases g : k c = q
        · rw [if_pos g, epq, ← g]; exact a c hc
        · rw [if_neg g]; exact a c hc
      · rcases List.mem_append.mp he with g | g
        · exact b e (by simp [g])
        · unfold jw at g
          by_cases hs : 0 ≤ s p ∧ 0 ≤ s q
          · rw [if_pos hs] at g
            obtain ⟨j, hj, rfl⟩ := List.mem_map.mp g
            obtain ⟨a1, a2, a3⟩ := hsh hs.1 hs.2
            exact ((tv_eq hZ ht a1.2.1 a2.2.1 a1.2.2 a2.2.2).mp (a3 τ ht ho)).2.2 j (List.mem_range.mp hj)
          · rw [if_neg hs] at g; simp at g
    · rintro ⟨a, b⟩
      have epq : tw Z τ q = tw Z τ p := by have := a q q1; rw [kq] at this; exact this
      have ak : ∀ c, Tm Z c → tw Z τ c = tw Z τ (k c) := by
        intro c hc
        have := a c hc
        unfold jk at this
        by_cases g : k c = q
        · rw [if_pos g] at this; rw [g, this, epq]
        · rw [if_neg g] at this; exact this
      refine (h.sem τ ht).mpr ⟨ak, fun e he => ?_⟩
      rcases List.mem_append.mp he with g | g
      · exact b e (by simp [g])
      · simp at g; rw [g]
        show tv Z τ u = tv Z τ v
        rw [← u2, ← v2, ak _ u1, ak _ v1, hp, hq, epq]
  · rcases List.mem_append.mp he with g | g
    · exact h.wok e (by simp [g])
    · unfold jw at g
      by_cases hs : 0 ≤ s p ∧ 0 ≤ s q
      · rw [if_pos hs] at g
        obtain ⟨j, hj, rfl⟩ := List.mem_map.mp g
        obtain ⟨a1, a2, -⟩ := hsh hs.1 hs.2
        have hj' := List.mem_range.mp hj
        have := (hm hs.1 hs.2).2
        obtain ⟨b1, b2⟩ := pr_ch hZ a1 hj'
        obtain ⟨b3, b4⟩ := pr_ch hZ a2 (show j < nar Z (s q).toNat by omega)
        exact ⟨b1, b2, b3, b4⟩
      · rw [if_neg hs] at g; simp at g
  · have hc := h.cnt
    have two := jS_two (f := jf Z k s) (g := jf Z (jk k p q) (js s p q)) (n := 48) p1.lt q1.lt hne (fun c _ cp cq => by
      unfold jf
      have : (jk k p q c = c) ↔ (k c = c) := by rw [root c]; exact ⟨fun g => g.1, fun g => ⟨g, cq⟩⟩
      have e1 : js s p q c = s c := by unfold js; rw [if_neg (fun g => cp g.1)]
      rw [e1]; simp only [this])
    have fq : jf Z (jk k p q) (js s p q) q = 0 := by
      unfold jf; rw [if_neg (fun g => hne (by rw [kq] at g; exact g.1))]
    have gp : jf Z k s p = if 0 ≤ s p then nar Z (s p).toNat else 0 := by unfold jf; simp only [p2, true_and]
    have gq : jf Z k s q = if 0 ≤ s q then nar Z (s q).toNat else 0 := by unfold jf; simp only [q2, true_and]
    have fp' : jf Z (jk k p q) (js s p q) p = if 0 ≤ js s p q p then nar Z (js s p q p).toNat else 0 := by unfold jf; simp only [kp, true_and]
    rw [List.length_append] at hc ⊢
    simp only [List.length_cons, List.length_nil] at hc
    have lw : (jw Z s p q).length = if 0 ≤ s p ∧ 0 ≤ s q then nar Z (s p).toNat else 0 := by unfold jw; split <;> simp
    rw [fq, gp, gq, fp'] at two
    rw [lw]
    by_cases sp : 0 ≤ s p
    · have e1 : js s p q p = s p := by unfold js; rw [if_neg (fun g => by omega)]
      rw [e1] at two
      by_cases sq : 0 ≤ s q
      · have := (hm sp sq).2
        rw [if_pos ⟨sp, sq⟩]
        rw [if_pos sp, if_pos sq] at two
        omega
      · rw [if_neg (fun g => sq g.2)]
        rw [if_neg sq] at two
        omega
    · have e1 : js s p q p = s q := by unfold js; rw [if_pos ⟨rfl, by omega⟩]
      rw [e1] at two
      rw [if_neg (fun g => sp g.1)]
      rw [if_neg sp] at two
      omega
  · have kk : ∀ a b, k a = k b → jk k p q a = jk k p q b := fun a b e => by unfold jk; rw [e]
    by_cases e : c = p ∧ s p < 0
    · have e1 : js s p q c = s q := by unfold js; rw [if_pos e]
      rw [e1, e.1, kp]
      rcases h.old q q1 with g | ⟨g1, g2, g3⟩
      · exact Or.inl g
      · exact Or.inr ⟨g1, g2, by rw [kk _ q g3, kq]⟩
    · have e1 : js s p q c = s c := by unfold js; rw [if_neg e]
      rw [e1]
      rcases h.old c hc with g | ⟨g1, g2, g3⟩
      · exact Or.inl g
      · exact Or.inr ⟨g1, g2, kk _ _ g3⟩
end JOIN
