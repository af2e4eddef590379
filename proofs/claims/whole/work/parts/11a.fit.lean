/-! fitting -/
/-- what is put for the holes, as nodes of t in a row of memory -/
def BndOK (M : Mem) (c : Int) (t : T) (env : EnvT) : Prop := ∀ h : Nat, h < 8 → (env (65 + h) = none ∧ M c h < 0) ∨ ∃ n : Nat, n < t.length ∧ env (65 + h) = some (sub t n) ∧ M c h = n
/-- where the fitting of l to node i of t stands -/
def FitAt (l t : T) (i p a : Nat) (env : EnvT) : Prop := p ≤ l.length ∧ a ≤ t.length ∧ fitAt l t i = mtc (l.drop p) (t.drop a) env ∧ ∃ m m', ok m (l.drop p) ∧ ok (m + m') (t.drop a)
theorem FitAt.start {l t : T} {i : Nat} (hl : ok 1 l) (ht : ok 1 t) (hi : i < t.length) : FitAt l t i 0 i env0 := by
  obtain ⟨m, hm⟩ := ok_drop1 ht hi
  exact ⟨Nat.zero_le _, by omega, by simp [fitAt], 1, m, by simpa using hl, hm⟩
theorem FitAt.lt {l t : T} {i p a : Nat} {env : EnvT} (h : FitAt l t i p a env) (hp : p < l.length) : a < t.length := by
  obtain ⟨-, h2, -, m, m', h4, h5⟩ := h
  rcases Nat.lt_or_ge a t.length with q | q
  · exact q
  · rw [List.drop_eq_nil_of_le q] at h5
    rw [drop_cons hp] at h4
    cases m with
    | zero => exact absurd h4 (by simp [ok])
    | succ m =>
      rw [show m + 1 + m' = (m + m') + 1 by omega] at h5
      exact absurd h5 (by simp [ok])
theorem FitAt.fin {l t : T} {i a : Nat} {env : EnvT} (h : FitAt l t i l.length a env) : fitAt l t i = some env := by
  rw [h.2.2.1, List.drop_length]; cases t.drop a <;> rfl
theorem drop_sub {t : T} {a : Nat} : (t.drop a).drop (fp 1 (t.drop a)) = t.drop (a + sz t a) := by rw [List.drop_drop]; rfl
theorem take_sub {t : T} {a : Nat} : (t.drop a).take (fp 1 (t.drop a)) = sub t a := rfl
theorem mtc_hole {l t : T} {p a : Nat} {env : EnvT} (hp : p < l.length) (hh : isH (lb l p) = true) : mtc (l.drop p) (t.drop a) env = (match env (lb l p) with | none => mtc (l.drop (p + 1)) (t.drop (a + sz t a)) (eset env (lb l p) (sub t a)) | some s => if s = sub t a then mtc (l.drop (p + 1)) (t.drop (a + sz t a)) env else none) := by
  rw [drop_cons hp]
  conv => lhs; unfold mtc
  simp only [hh, if_true, drop_sub, take_sub]
  cases env (lb l p) <;> rfl
theorem mtc_lab {l t : T} {p a : Nat} {env : EnvT} (hp : p < l.length) (ha : a < t.length) (hh : isH (lb l p) = false) : mtc (l.drop p) (t.drop a) env = if lb l p = lb t a ∧ ar l p = ar t a then mtc (l.drop (p + 1)) (t.drop (a + 1)) env else none := by
  rw [drop_cons hp, drop_cons ha]
  conv => lhs; unfold mtc
  simp only [hh, Bool.false_eq_true, if_false, Prod.mk.injEq]
theorem FitAt.lab {l t : T} {i p a : Nat} {env : EnvT} (h : FitAt l t i p a env) (hp : p < l.length) (hh : isH (lb l p) = false) (he : lb l p = lb t a ∧ ar l p = ar t a) : FitAt l t i (p + 1) (a + 1) env := by
  have ha := h.lt hp
  obtain ⟨h1, h2, h3, m, m', h4, h5⟩ := h
  refine ⟨by omega, by omega, by rw [h3, mtc_lab hp ha hh, if_pos he], ?_⟩
  rw [drop_cons hp] at h4
  rw [drop_cons ha] at h5
  cases m with
  | zero => exact absurd h4 (by simp [ok])
  | succ m =>
    rw [show m + 1 + m' = (m + m') + 1 by omega] at h5
    have h4' : ok (m + ar l p) (l.drop (p + 1)) := h4
    have h5' : ok (m + m' + ar t a) (t.drop (a + 1)) := h5
    exact ⟨m + ar l p, m', h4', by rw [he.2, show m + ar t a + m' = m + m' + ar t a by omega]; exact h5'⟩
theorem FitAt.nolab {l t : T} {i p a : Nat} {env : EnvT} (h : FitAt l t i p a env) (hp : p < l.length) (hh : isH (lb l p) = false) (he : ¬ (lb l p = lb t a ∧ ar l p = ar t a)) : fitAt l t i = none := by
  rw [h.2.2.1, mtc_lab hp (h.lt hp) hh, if_neg he]
theorem FitAt.oks {l t : T} {i p a : Nat} {env : EnvT} (h : FitAt l t i p a env) (hp : p < l.length) (h0 : ar l p = 0) : ∃ m m', ok m (l.drop (p + 1)) ∧ ok (m + m') (t.drop (a + sz t a)) := by
  obtain ⟨h1, h2, h3, m, m', h4, h5⟩ := h
  rw [drop_cons hp] at h4
  cases m with
  | zero => exact absurd h4 (by simp [ok])
  | succ m =>
    have h4' : ok (m + ar l p) (l.drop (p + 1)) := h4
    rw [h0] at h4'
    rw [show m + 1 + m' = 1 + (m + m') by omega] at h5
    have := (ok_split _ 1 _ h5).2
    rw [drop_sub] at this
    exact ⟨m, m', h4', this⟩
theorem FitAt.new {l t : T} {i p a : Nat} {env : EnvT} (h : FitAt l t i p a env) (hp : p < l.length) (hh : isH (lb l p) = true) (h0 : ar l p = 0) (he : env (lb l p) = none) : FitAt l t i (p + 1) (a + sz t a) (eset env (lb l p) (sub t a)) :=
  ⟨by omega, sz_end (h.lt hp), by rw [h.2.2.1, mtc_hole hp hh, he], h.oks hp h0⟩
theorem FitAt.old {l t : T} {i p a : Nat} {env : EnvT} (h : FitAt l t i p a env) (hp : p < l.length) (hh : isH (lb l p) = true) (h0 : ar l p = 0) (he : env (lb l p) = some (sub t a)) : FitAt l t i (p + 1) (a + sz t a) env :=
  ⟨by omega, sz_end (h.lt hp), by rw [h.2.2.1, mtc_hole hp hh, he]; simp, h.oks hp h0⟩
theorem FitAt.no {l t : T} {i p a : Nat} {env : EnvT} {s : T} (h : FitAt l t i p a env) (hp : p < l.length) (hh : isH (lb l p) = true) (he : env (lb l p) = some s) (hs : s ≠ sub t a) : fitAt l t i = none := by
  rw [h.2.2.1, mtc_hole hp hh, he]; simp [hs]
theorem BndOK.set {M : Mem} {c : Int} {t : T} {env : EnvT} (h : BndOK M c t env) {q a : Nat} (ha : a < t.length) : BndOK (mset M c q a) c t (eset env (65 + q) (sub t a)) := by
  intro h' hh
  by_cases e : h' = q
  · subst e
    right
    exact ⟨a, ha, by simp [eset], mset_same _ _ _ _⟩
  · rw [mset_idx _ _ _ (by omega)]
    have : eset env (65 + (q : Int)) (sub t a) (65 + (h' : Int)) = env (65 + h') := by simp [eset]; omega
    rw [this]
    exact h h' hh
/-- holes of a tree have no parts -/
theorem Wd.hole {l : T} (h : Wd l) {p : Nat} (hp : p < l.length) (hh : isH (lb l p) = true) : ar l p = 0 := by
  have hm : (lb l p, ar l p) ∈ l := by
    have e : (lb l p, ar l p) = l[p] := by simp [lb, ar, List.getD_eq_getElem?_getD, List.getElem?_eq_getElem hp]
    rw [e]; exact List.getElem_mem hp
  rcases h.2 _ hm with g | g
  · simp only at g
    rw [isH_iff] at hh; omega
  · exact g.2
section FIT
variable {V : VV} {M : Mem} {Q : Int → Mem → Prop}
theorem x_suits {k r : Int} {l t : T} {i nr : Nat} (h28 : M 28 0 = nr) (hnr : nr ≤ 6) (hr : 0 ≤ r ∧ r < nr) (hk : k + 6 < 28 ∨ (32 ≤ k ∧ k + 6 < 39) ∨ 123 ≤ k) (hl : Cu M (39 + 14 * r) l) (wl : Wd l) (l0 : l ≠ []) (lh : isH (lb l 0) = false) (ht : Ct M k t) (wt : Wt t) (hi : i < t.length)
    (h0 : ∀ M', Fx 31 31 M M' → fitAt l t i = none → Q 0 M') (h1 : ∀ M' env, Fx 31 31 M M' → fitAt l t i = some env → BndOK M' 31 t env → Q 1 M') : R_X6_suits V r k i M Q := by
  have l16 := wl.1.1
  have t16 := wt.1
  have lp : 0 < l.length := List.length_pos_iff.mpr l0
  have okl := wl.1.ok lp
  have okt := wt.ok hi
  apply of_X6_suits
  unfold wp_X6_suits
  apply of_X6_has
  unfold wp_X6_has
  refine ⟨fun c => by omega, fun _ => ⟨fun c => by omega, fun _ => ⟨fun c => by omega, fun _ => ⟨fun c => by omega, fun _ => ?_⟩⟩⟩⟩
  apply x_has
  rw [ht.1.1, if_pos (by omega)]
  refine ⟨fun c => by omega, fun _ => ⟨by omega, by omega, by omega, fun c => ?_, fun c => ?_⟩⟩
  · clear c h28
    unfold wp_X6_suits_41
    refine ⟨fun j N => ∃ n : Nat, j = n ∧ n ≤ 8 ∧ Fx 31 31 M N ∧ ∀ q : Nat, q < n → N 31 q < 0, fun j _ => (9 - j).toNat, ⟨0, rfl, by omega, Fx.rf _ _ _, fun q hq => by omega⟩, ?_⟩
    rintro j N ⟨n, rfl, hn, hF, hN⟩
    unfold wp_X6_suits_41_b
    refine ⟨fun d => ⟨by omega, ?_⟩, fun d => ⟨by omega, ⟨n + 1, by rw [w32_id (by omega) (by omega)]; omega, by omega, hF.set (by omega) (by omega), fun q hq => ?_⟩, by (try dsimp only); rw [w32_id (by omega) (by omega)]; omega⟩⟩
    · have hn8 : n = 8 := by omega
      subst hn8
      unfold wp_X6_suits_76
      refine ⟨fun a p N' => ∃ (an pn : Nat) (env : EnvT), a = an ∧ p = pn ∧ Fx 31 31 M N' ∧ FitAt l t i pn an env ∧ BndOK N' 31 t env, fun _ p _ => (17 - p).toNat, ⟨i, 0, env0, rfl, rfl, hF, FitAt.start okl okt hi, fun h hh => Or.inl ⟨rfl, hN h hh⟩⟩, ?_⟩
      rintro a p N' ⟨an, pn, env, rfl, rfl, hF', hfit, hb⟩
      have hl' : Cu N' (39 + 14 * r) l := hF'.cu (by omega) hl
      have ht' : Ct N' k t := hF'.ct (by omega) ht
      unfold wp_X6_suits_76_b wp_X6_suits_165
      rw [hl'.1]
      refine ⟨fun g => ?_, fun g => ?_⟩
      · have : pn = l.length := by have := hfit.1; omega
        subst this
        exact h1 N' env hF' hfit.fin hb
      · have hp : pn < l.length := by omega
        have ha := hfit.lt hp
        have hse := sz_end ha
        apply x_has
        rw [ht'.1.1, if_pos (by omega)]
        refine ⟨fun q => by omega, fun _ => ⟨by omega, ?_⟩⟩
        rw [(hl'.2 pn hp).1]
        apply x_isHole
        have ep : w32 ((pn : Int) + 1) = pn + 1 := w32_id (by omega) (by omega)
        have ea : w32 ((an : Int) + 1) = an + 1 := w32_id (by omega) (by omega)
        rw [ep, ea]
        clear ep ea
        by_cases hh : 65 ≤ lb l pn ∧ lb l pn ≤ 72
        · rw [if_pos hh]
          have hH := isH_iff.mpr hh
          have har := wl.hole hp hH
          refine ⟨fun q => by omega, fun _ => ⟨by omega, ?_⟩⟩
          intro v9 hv9
          rw [(hl'.2 pn hp).1, w32_id (by omega) (by omega)] at hv9
          obtain ⟨q, hq⟩ : ∃ q : Nat, lb l pn = 65 + q := ⟨(lb l pn - 65).toNat, by omega⟩
          have hv : v9 = q := by omega
          subst hv
          refine ⟨by omega, fun g1 => ⟨by omega, ?_⟩, fun g1 => ⟨by omega, by omega, ?_⟩⟩
          · rcases hb q (by omega) with ⟨-, g2⟩ | ⟨n, n1, n2, n3⟩
            · omega
            · rw [n3]
              refine x_isAs ht'.1 ht'.1 (ht'.2 n n1).1 (ht'.2 an ha).1 t16 t16 n1 ha ?_
              refine ⟨fun g2 => h0 N' hF' (hfit.no hp hH (by rw [hq]; exact n2) (fun e => by rw [if_pos e] at g2; omega)), fun g2 => ⟨by omega, ?_⟩⟩
              intro v hv
              rw [(ht'.2 an ha).1, w32_id (by omega) (by omega)] at hv
              have he : sub t n = sub t an := by
                split at g2
                · assumption
                · exact absurd rfl g2
              refine ⟨⟨an + sz t an, pn + 1, env, by omega, by omega, hF', hfit.old hp hH har (by rw [hq, n2, he]), hb⟩, by (try dsimp only); omega⟩
          · intro v hv
            rw [mset_cell _ (by omega), (ht'.2 an ha).1, w32_id (by omega) (by omega)] at hv
            rcases hb q (by omega) with ⟨g2, -⟩ | ⟨n, n1, n2, n3⟩
            · refine ⟨⟨an + sz t an, pn + 1, eset env (65 + q) (sub t an), by omega, by omega, hF'.set (by omega) (by omega), ?_, hb.set ha⟩, by (try dsimp only); omega⟩
              have := hfit.new hp hH har (by rw [hq]; exact g2)
              rwa [hq] at this
            · omega
        · rw [if_neg hh]
          have hH : isH (lb l pn) = false := Bool.eq_false_iff.mpr (fun q => hh (isH_iff.mp q))
          refine ⟨fun _ => ⟨by omega, by omega, ?_⟩, fun q => by omega⟩
          rw [(ht'.1.2 an ha).1, (ht'.1.2 an ha).2, (hl'.2 pn hp).1, (hl'.2 pn hp).2]
          refine ⟨fun g1 => ⟨by omega, by omega, fun g2 => ?_, fun g2 => h0 N' hF' (hfit.nolab hp hH (fun q => g2 (by omega)))⟩, fun g1 => h0 N' hF' (hfit.nolab hp hH (fun q => g1 q.1))⟩
          exact ⟨⟨an + 1, pn + 1, env, by omega, by omega, hF', hfit.lab hp hH ⟨g1, by omega⟩, hb⟩, by (try dsimp only); omega⟩
    · by_cases hqn : q = n
      · subst hqn; rw [mset_same]; omega
      · rw [mset_idx _ _ _ (by omega)]; exact hN q (by omega)
  · refine h0 M (Fx.rf _ _ _) ((FitAt.start okl okt hi).nolab lp lh (fun g => c ?_))
    rw [(ht.1.2 i hi).1, ← g.1]
    exact (hl.2 0 lp).1
end FIT
