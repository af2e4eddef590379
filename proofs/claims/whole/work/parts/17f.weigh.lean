/-! the class's joining in memory: weighing -/
theorem nar_un {Z : T4} (hZ : Z4 Z) {x : Nat} (hx : x < 32) (h : ¬ Pr Z x) : nar Z x = 0 := by
  by_cases ho : nOK Z x
  · cases hh : hol Z x with
    | true => exact (tv_hole (τ := fun v => [(v, 0)]) hZ ho hh).2.1
    | false => exact absurd ⟨hx, ho, hh⟩ h
  · have : ¬ x % 16 < (nt Z x).length := fun g => ho ⟨by omega, g⟩
    unfold nar ar
    rw [List.getD_eq_getElem?_getD, List.getElem?_eq_none (by omega)]; rfl
def pt (Z : T4) (k : Nat → Nat) (s : Nat → Int) (c j : Nat) : Nat := k (tm Z (nch Z (s c).toNat j))
def StuckAt (Z : T4) (k : Nat → Nat) (s : Nat → Int) (N : Mem) (c : Nat) : Prop := 0 ≤ s c ∧ ∃ j, j < nar Z (s c).toNat ∧ N 136 (pt Z k s c j : Nat) = 0
def GoodAt (Z : T4) (k : Nat → Nat) (s : Nat → Int) (N : Mem) (c : Nat) (v : Int) : Prop := (s c < 0 → v = 1) ∧ (0 ≤ s c → (∀ j, j < nar Z (s c).toNat → 0 < N 136 (pt Z k s c j : Nat)) ∧ v = imin (1 + hsum Z k N (s c).toNat (nar Z (s c).toNat) : Nat) 1000)
def WI (Z : T4) (k : Nat → Nat) (s : Nat → Int) (N : Mem) : Prop := (∀ c : Nat, c < 48 → 0 ≤ N 136 c ∧ N 136 c ≤ 1000) ∧ ∃ (ρ : Nat → Nat) (U : Nat), ∀ c : Nat, c < 48 → 0 < N 136 c → ρ c < U ∧ GoodAt Z k s N c (N 136 c) ∧ (0 ≤ s c → ∀ j, j < nar Z (s c).toNat → ρ (pt Z k s c j) < ρ c)
def kn (N : Mem) (m : Nat) : Nat := jS (fun d => if 0 < N 136 (d : Nat) then 1 else 0) m
theorem kn_succ (N : Mem) (m : Nat) : kn N (m + 1) = kn N m + if 0 < N 136 (m : Nat) then 1 else 0 := rfl
theorem kn_le (N : Mem) (m : Nat) : kn N m ≤ m := by
  have := jS_mono (f := fun d => if 0 < N 136 (d : Nat) then 1 else 0) (g := fun _ => 1) m (fun c _ => by split <;> omega)
  rw [jS_const] at this; exact this
theorem kn_all {N : Mem} {m : Nat} (h : kn N m = m) : ∀ c : Nat, c < m → 0 < N 136 c := by
  intro c hc
  by_cases g : 0 < N 136 c
  · exact g
  · have := jS_lt (f := fun d => if 0 < N 136 (d : Nat) then 1 else 0) (g := fun _ => 1) m hc (fun c _ => by split <;> omega) (by rw [if_neg g]; omega)
    rw [jS_const] at this
    unfold kn at h; omega
theorem kn_not {N : Mem} {m : Nat} (h : kn N m ≠ m) : ∃ c : Nat, c < m ∧ ¬ 0 < N 136 c := by
  induction m with
  | zero => exact absurd rfl h
  | succ m ih =>
    by_cases g : 0 < N 136 (m : Nat)
    · rw [kn_succ, if_pos g] at h
      obtain ⟨c, h1, h2⟩ := ih (by omega)
      exact ⟨c, by omega, h2⟩
    · exact ⟨m, by omega, g⟩
theorem kn_set {N : Mem} {c : Nat} {v : Int} (h0 : N 136 c = 0) (hv : 0 < v) {m : Nat} (hc : c < m) : kn (mset N 136 c v) m = kn N m + 1 := by
  have := jS_upd (f := fun d => if 0 < N 136 (d : Nat) then 1 else 0) (g := fun d => if 0 < mset N 136 c v 136 (d : Nat) then 1 else 0) m hc (fun d _ hd => by
    show (if 0 < mset N 136 c v 136 (d : Nat) then 1 else 0) = (if 0 < N 136 (d : Nat) then 1 else 0)
    rw [mset_idx _ _ _ (by omega)])
  rw [mset_same, if_pos hv, if_neg (by omega)] at this
  unfold kn; omega
theorem kn_set_le {N : Mem} {c : Nat} {v : Int} {m : Nat} (hc : m ≤ c) : kn (mset N 136 c v) m = kn N m := by
  unfold kn
  exact jS_congr m (fun d hd => by rw [mset_idx _ _ _ (by omega)])
section WEIGH
variable {V : VV} {M : Mem} {Q : Int → Mem → Prop} {Z : T4} {i n : Nat} {k : Nat → Nat} {s : Nat → Int} {w : List (Nat × Nat)}
theorem good_stuck {N : Mem} {c : Nat} {v : Int} (h : GoodAt Z k s N c v) : ¬ StuckAt Z k s N c := by
  rintro ⟨a, j, b, d⟩
  have := (h.2 a).1 j b
  omega
theorem ji_sh (hZ : Z4 Z) (hj : JI Z i n k s w) {c : Nat} (hc : c < 48) : s c = -1 ∨ (0 ≤ s c ∧ (s c).toNat < 32 ∧ (Pr Z (s c).toNat ∨ nar Z (s c).toNat = 0)) := by
  by_cases ht : Tm Z c
  · rcases hj.old c ht with g | ⟨g1, g2, -⟩
    · exact Or.inl g
    · exact Or.inr ⟨g1, g2.1, Or.inl g2⟩
  · have c32 : c < 32 := by
      by_cases g : c < 32
      · exact g
      · exact absurd (Or.inr ⟨by omega, hc⟩) ht
    have e := (hj.un c c32 ht).2
    rw [e, Int.toNat_natCast]
    exact Or.inr ⟨by omega, c32, Or.inr (nar_un hZ c32 (fun g => ht (Or.inl g)))⟩
theorem ji_pt (hZ : Z4 Z) (hj : JI Z i n k s w) {c j : Nat} (hc : c < 48) (hs : 0 ≤ s c) (hl : j < nar Z (s c).toNat) : Tm Z (pt Z k s c j) ∧ pt Z k s c j < 48 ∧ k (pt Z k s c j) = pt Z k s c j := by
  rcases ji_sh hZ hj hc with g | ⟨g1, g2, g3⟩
  · omega
  · rcases g3 with g | g
    · obtain ⟨c1, c2⟩ := pr_ch hZ g hl
      obtain ⟨t1, -⟩ := tm_ok hZ c1 c2
      obtain ⟨a, b⟩ := hj.kin _ t1
      exact ⟨a, a.lt, b⟩
    · omega
theorem x_heft {c : Nat} (hZ : Z4 Z) (hj : JI Z i n k s w) (hm : JM Z M k s w) (hb : ∀ c : Nat, c < 48 → 0 ≤ M 136 c ∧ M 136 c ≤ 1000) (hc : c < 48) (h0 : StuckAt Z k s M c → Q 0 M) (h1 : ∀ v : Int, 0 < v → v ≤ 1000 → GoodAt Z k s M c v → Q v M) : R_X1_heftBy V (s c) M Q := by
  rcases ji_sh hZ hj hc with g | ⟨g1, g2, g3⟩
  · rw [g]
    apply of_X1_heftBy
    unfold wp_X1_heftBy
    exact ⟨fun _ => h1 1 (by omega) (by omega) ⟨fun _ => rfl, fun z => by omega⟩, fun z => by omega⟩
  · obtain ⟨x, hx⟩ : ∃ x : Nat, s c = x := ⟨(s c).toNat, by omega⟩
    have ex : (s c).toNat = x := by omega
    rw [ex] at g2 g3
    rw [hx]
    refine x_heftBy hZ hm g2 g3 (fun c hc => (hj.kin c hc).1.lt) hb (fun j a b => h0 ⟨g1, j, by rw [ex]; exact a, by unfold pt; rw [ex]; exact b⟩) (fun hp => h1 _ ?_ ?_ ⟨fun z => by omega, fun _ => ⟨fun j hl => ?_, ?_⟩⟩)
    · unfold imin; split <;> omega
    · unfold imin; split <;> omega
    · unfold pt; rw [ex] at hl ⊢; exact hp j hl
    · rw [ex]
theorem wi_set {N : Mem} (hZ : Z4 Z) (hj : JI Z i n k s w) (h : WI Z k s N) {c : Nat} {v : Int} (hc : c < 48) (h0 : N 136 c = 0) (hv : 0 < v) (hv2 : v ≤ 1000) (hg : GoodAt Z k s N c v) : WI Z k s (mset N 136 c v) := by
  obtain ⟨h1, ρ, U, h2⟩ := h
  have keep : ∀ d : Nat, d ≠ c → mset N 136 c v 136 d = N 136 d := fun d hd => mset_idx _ _ _ (by omega) _
  have good : ∀ (d : Nat) (v' : Int), d < 48 → GoodAt Z k s N d v' → GoodAt Z k s (mset N 136 c v) d v' := by
    intro d v' hd ⟨a, b⟩
    refine ⟨a, fun hs => ?_⟩
    obtain ⟨b1, b2⟩ := b hs
    have ne : ∀ j, j < nar Z (s d).toNat → pt Z k s d j ≠ c := fun j hl e => by
      have := b1 j hl
      rw [e] at this; omega
    refine ⟨fun j hl => by rw [keep _ (ne j hl)]; exact b1 j hl, ?_⟩
    rw [b2]
    have : hsum Z k (mset N 136 c v) (s d).toNat (nar Z (s d).toNat) = hsum Z k N (s d).toNat (nar Z (s d).toNat) := by
      unfold hsum
      exact jS_congr _ (fun j hl => by
        show (mset N 136 c v 136 (pt Z k s d j : Nat)).toNat = (N 136 (pt Z k s d j : Nat)).toNat
        rw [keep _ (ne j hl)])
    rw [this]
  refine ⟨fun d hd => ?_, fun d => if d = c then U else ρ d, U + 1, fun d hd hpos => ?_⟩
  · by_cases e : d = c
    · rw [e, mset_same]; omega
    · rw [keep d e]; exact h1 d hd
  · have hpart : ∀ d' v', GoodAt Z k s N d' v' → 0 ≤ s d' → ∀ j, j < nar Z (s d').toNat → pt Z k s d' j ≠ c ∧ 0 < N 136 (pt Z k s d' j : Nat) := fun d' v' g hs j hl => by
      have := (g.2 hs).1 j hl
      exact ⟨fun e => by rw [e] at this; omega, this⟩
    by_cases e : d = c
    · subst e
      rw [mset_same]
      refine ⟨by simp, good d v hd hg, fun hs j hl => ?_⟩
      obtain ⟨p1, p2⟩ := hpart d v hg hs j hl
      show (if pt Z k s d j = d then U else ρ (pt Z k s d j)) < (if d = d then U else ρ d)
      rw [if_neg p1, if_pos rfl]
      exact (h2 _ (ji_pt hZ hj hd hs hl).2.1 p2).1
    · rw [keep d e] at hpos ⊢
      obtain ⟨q1, q2, q3⟩ := h2 d hd hpos
      refine ⟨by show (if d = c then U else ρ d) < U + 1; rw [if_neg e]; omega, good d _ hd q2, fun hs j hl => ?_⟩
      obtain ⟨p1, p2⟩ := hpart d _ q2 hs j hl
      show (if pt Z k s d j = c then U else ρ (pt Z k s d j)) < (if d = c then U else ρ d)
      rw [if_neg p1, if_neg e]
      exact q3 hs j hl
theorem x_weighKin (hZ : Z4 Z) (hj : JI Z i n k s w) (hm : JM Z M k s w) (h0 : ∀ M' : Mem, Fx 136 136 M M' → (∀ c : Nat, c < 48 → M' 136 c = 0 → StuckAt Z k s M' c) → (∃ c : Nat, c < 48 ∧ M' 136 c = 0) → Q 0 M') (h1 : ∀ M' : Mem, Fx 136 136 M M' → WI Z k s M' → (∀ c : Nat, c < 48 → 0 < M' 136 c) → Q 1 M') : R_X1_weigh V M Q := by
  have jm : ∀ N : Mem, Fx 136 136 M N → JM Z N k s w := fun N hF => ⟨hm.1.fr (fun c j a b => hF c j (by omega)), fun c hc => by rw [hF _ _ (by omega), hF _ _ (by omega)]; exact hm.2.1 c hc, by rw [hF _ _ (by omega)]; exact hm.2.2.1, fun m e he => by rw [hF _ _ (by omega), hF _ _ (by omega)]; exact hm.2.2.2 m e he⟩
  apply of_X1_weigh
  unfold wp_X1_weigh wp_X1_weigh_2
  refine ⟨fun y N => ∃ m : Nat, y = m ∧ m ≤ 48 ∧ Fx 136 136 M N ∧ ∀ c : Nat, c < m → N 136 c = 0, fun y _ => (49 - y).toNat, ⟨0, rfl, by omega, Fx.rf _ _ _, fun c hc => by omega⟩, ?_⟩
  rintro y N ⟨m, rfl, hm48, hF, hN⟩
  unfold wp_X1_weigh_2_b
  refine ⟨fun d => ?_, fun d => ⟨by omega, ⟨m + 1, by rw [w32_id (by omega) (by omega)]; omega, by omega, hF.set (by omega) (by omega), fun c hc => ?_⟩, by (try dsimp only); rw [w32_id (by omega) (by omega)]; omega⟩⟩
  · have e48 : m = 48 := by omega
    subst e48
    have wi0 : WI Z k s N := ⟨fun c hc => by rw [hN c hc]; omega, fun _ => 0, 0, fun c hc hp => by rw [hN c hc] at hp; omega⟩
    unfold wp_X1_weigh_25
    refine ⟨fun y1 y2 N1 => ∃ r : Nat, y2 = r ∧ r ≤ 48 ∧ Fx 136 136 M N1 ∧ WI Z k s N1 ∧ ((r = 0 ∧ y1 = 0) ∨ (0 < r ∧ y1 = kn N1 48)) ∧ (r ≤ kn N1 48 ∨ ∀ c : Nat, c < 48 → N1 136 c = 0 → StuckAt Z k s N1 c), fun _ y2 _ => (49 - y2).toNat, ⟨0, rfl, by omega, hF, wi0, Or.inl ⟨rfl, rfl⟩, Or.inl (by omega)⟩, ?_⟩
    rintro y1 y2 N1 ⟨r, rfl, hr, hF1, hw1, hk1, hs1⟩
    have kle := kn_le N1 48
    have fin : (48 ≤ (r : Int) ∨ 48 ≤ y1) → wp_X1_weigh_101 V y1 N1 Q := by
      intro hor
      unfold wp_X1_weigh_101
      refine ⟨fun e => h1 N1 hF1 hw1 (kn_all ?_), fun e => h0 N1 hF1 ?_ ?_⟩
      · rcases hk1 with g | g <;> omega
      · rcases hs1 with g | g
        · rcases hk1 with g' | g' <;> omega
        · exact g
      · obtain ⟨c, c1, c2⟩ := kn_not (N := N1) (m := 48) (by rcases hk1 with g | g <;> omega)
        exact ⟨c, c1, by have := (hw1.1 c c1).1; omega⟩
    unfold wp_X1_weigh_25_b
    refine ⟨fun d => fin (Or.inl d), fun d => ⟨fun d2 => fin (Or.inr d2), fun d2 => ?_⟩⟩
    unfold wp_X1_weigh_41
    refine ⟨fun z1 z3 N2 => ∃ c : Nat, z3 = c ∧ c ≤ 48 ∧ z1 = kn N2 c ∧ Fx 136 136 M N2 ∧ WI Z k s N2 ∧ ((N2 = N1 ∧ ∀ d : Nat, d < c → N1 136 d = 0 → StuckAt Z k s N1 d) ∨ (kn N1 48 < kn N2 48 ∧ ¬ ∀ c : Nat, c < 48 → N1 136 c = 0 → StuckAt Z k s N1 c)), fun _ z3 _ => (49 - z3).toNat, ⟨0, rfl, by omega, rfl, hF1, hw1, Or.inl ⟨rfl, fun d hd => by omega⟩⟩, ?_⟩
    rintro z1 z3 N2 ⟨c, rfl, hc, rfl, hF2, hw2, hor⟩
    have ec : w32 ((c : Int) + 1) = ((c + 1 : Nat) : Int) := by have := hc; rw [w32_id (by omega) (by omega)]; omega
    have kc := kn_le N2 c
    unfold wp_X1_weigh_41_b
    refine ⟨fun d3 => ?_, fun d3 => ⟨by omega, fun e => ⟨by omega, ?_⟩, fun e => ?_⟩⟩
    · have e48 : c = 48 := by omega
      subst e48
      rw [w32_id (by omega) (by omega)]
      refine ⟨⟨r + 1, by omega, by omega, hF2, hw2, Or.inr ⟨by omega, rfl⟩, ?_⟩, by (try dsimp only); omega⟩
      rcases hor with ⟨g1, g2⟩ | ⟨g1, g2⟩
      · rw [g1]; exact Or.inr g2
      · rcases hs1 with g | g
        · left; omega
        · exact absurd g g2
    · have jm2 := jm N2 hF2
      rw [(jm2.2.1 c (by omega)).2]
      refine x_heft hZ hj jm2 hw2.1 (by omega) (fun st => ⟨by omega, ?_⟩) (fun v v1 v2 gd => ⟨by omega, ?_⟩)
      · have e0 : mset N2 136 c 0 = N2 := by rw [← e]; exact mset_self _ _ _
        rw [e0]
        unfold wp_X1_weigh_72 wp_X1_weigh_87
        rw [ec]
        refine ⟨by omega, fun _ => ⟨⟨c + 1, rfl, by omega, ?_, hF2, hw2, ?_⟩, by (try dsimp only); omega⟩, fun z => by omega⟩
        · rw [kn_succ, if_neg (by omega), w32_id (by omega) (by omega)]; omega
        · rcases hor with ⟨g1, g2⟩ | g
          · refine Or.inl ⟨g1, fun d hd hd0 => ?_⟩
            by_cases ed : d = c
            · rw [ed, ← g1]; exact st
            · exact g2 d (by omega) hd0
          · exact Or.inr g
      · unfold wp_X1_weigh_72 wp_X1_weigh_87
        rw [mset_same, ec]
        refine ⟨by omega, fun z => by omega, fun _ => ⟨⟨c + 1, rfl, by omega, ?_, hF2.set (by omega) (by omega), wi_set hZ hj hw2 (by omega) e v1 v2 gd, Or.inr ?_⟩, by (try dsimp only); omega⟩⟩
        · rw [kn_succ, kn_set_le (Nat.le_refl _), mset_same, if_pos v1, w32_id (by omega) (by omega)]; omega
        · rw [kn_set e v1 (by omega)]
          rcases hor with ⟨g1, g2⟩ | ⟨g1, g2⟩
          · refine ⟨by rw [g1]; omega, fun all => ?_⟩
            rw [g1] at gd e
            exact good_stuck gd (all c (by omega) e)
          · exact ⟨by omega, g2⟩
    · have hpos : 0 < N2 136 c := by have := (hw2.1 c (by omega)).1; omega
      unfold wp_X1_weigh_72 wp_X1_weigh_87
      rw [ec]
      refine ⟨by omega, fun z => by omega, fun _ => ⟨⟨c + 1, rfl, by omega, ?_, hF2, hw2, ?_⟩, by (try dsimp only); omega⟩⟩
      · rw [kn_succ, if_pos hpos, w32_id (by omega) (by omega)]; omega
      · rcases hor with ⟨g1, g2⟩ | g
        · refine Or.inl ⟨g1, fun d hd hd0 => ?_⟩
          by_cases ed : d = c
          · rw [ed, ← g1] at hd0; omega
          · exact g2 d (by omega) hd0
        · exact Or.inr g
  · by_cases e : c = m
    · rw [e, mset_same]
    · rw [mset_idx _ _ _ (by omega)]; exact hN c (by omega)
end WEIGH
