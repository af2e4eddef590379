/-! the class's joining in memory, whole -/
section WHOLEJOIN
variable {V : VV} {M : Mem} {Q : Int → Mem → Prop} {Z : T4} {i : Nat}
theorem x_join {xa xb : Int} (hZ : Z4 Z) (ha : xa ≤ 116) (hb : xb ≤ 116) (ca : Ct M xa Z.1) (cb : Ct M xb Z.2.1) (hi : i < Z.1.length) (hne : Z.2.1 ≠ [])
    (h0 : ∀ M' : Mem, Fx 129 139 M M' → (∀ τ, okθ τ → tv Z τ i ≠ tv Z τ 16) → Q 0 M')
    (h1 : ∀ (M' : Mem) (n : Nat) (k : Nat → Nat) (s : Nat → Int), Fx 129 139 M M' → JI Z i n k s [] → JM Z M' k s [] → WI Z k s M' → (∀ c : Nat, c < 48 → 0 < M' 136 c) → Q 1 M') : R_X1_join V xa i xb M Q := by
  have a16 := hZ.1.1.1
  have ok16 : nOK Z 16 := ⟨by omega, by
    have : nt Z 16 = Z.2.1 := by unfold nt; rw [if_neg (by omega), if_pos (by omega)]
    rw [this]; exact List.length_pos_iff.mpr hne⟩
  have oki : nOK Z i := ⟨by omega, by
    have : nt Z i = Z.1 := by unfold nt; rw [if_pos (by omega)]
    rw [this, Nat.mod_eq_of_lt (by omega)]; exact hi⟩
  have start := ji_start hZ oki (by omega) ok16
  apply of_X1_join
  unfold wp_X1_join
  show R_X1_load V xa ((0 : Nat) : Int) ((32 : Nat) : Int) M _
  refine x_load ha (by omega) (by omega) ca hZ.1 (fun M1 f1 r1 => ?_)
  show R_X1_load V xb ((16 : Nat) : Int) ((40 : Nat) : Int) M1 _
  refine x_load hb (by omega) (by omega) (cb.fr (fun c j _ _ => f1 c j (by omega))) hZ.2.1 (fun M2 f2 r2 => ?_)
  have hL : Ld Z M2 := Ld.of hZ (fun j hj => by
    have := r1 j hj
    unfold LdR at this ⊢
    rw [f2 130 _ (by omega), f2 131 _ (by omega), f2 132 _ (by omega), f2 133 _ (by omega)]
    exact this) r2
  have hF2 : Fx 129 139 M M2 := fun c j hc => by rw [f2 c j (by omega), f1 c j (by omega)]
  unfold wp_X1_join_20
  refine ⟨fun y N => ∃ m : Nat, y = m ∧ m ≤ 48 ∧ Fx 134 135 M2 N ∧ ∀ c : Nat, c < m → N 134 c = c ∧ N 135 c = if c < 32 then (c : Int) else -1, fun y _ => (49 - y).toNat, ⟨0, rfl, by omega, Fx.rf _ _ _, fun c hc => by omega⟩, ?_⟩
  rintro y N ⟨m, rfl, hm, hF, hN⟩
  have em : m < 48 → w32 ((m : Int) + 1) = ((m + 1 : Nat) : Int) := fun _ => by rw [w32_id (by omega) (by omega)]; omega
  have stp : m < 48 → ∀ v : Int, (v = if m < 32 then (m : Int) else -1) → (∃ m' : Nat, ((m + 1 : Nat) : Int) = m' ∧ m' ≤ 48 ∧ Fx 134 135 M2 (mset (mset N 134 m m) 135 m v) ∧ ∀ c : Nat, c < m' → mset (mset N 134 m m) 135 m v 134 c = c ∧ mset (mset N 134 m m) 135 m v 135 c = if c < 32 then (c : Int) else -1) ∧ (49 - ((m + 1 : Nat) : Int)).toNat < (49 - (m : Int)).toNat := by
    intro hm' v hv
    refine ⟨⟨m + 1, rfl, by omega, (hF.set (by omega) (by omega)).set (by omega) (by omega), fun c hc => ?_⟩, by omega⟩
    by_cases e : c = m
    · subst e
      rw [mset_same, mset_cell _ (by omega), mset_same]
      exact ⟨rfl, hv⟩
    · rw [mset_idx _ _ _ (by omega), mset_idx _ _ _ (by omega), mset_idx _ _ _ (by omega), mset_idx _ _ _ (by omega)]
      exact hN c (by omega)
  unfold wp_X1_join_20_b
  refine ⟨fun d => ?_, fun d => ⟨by omega, fun e => ?_, fun e => ?_⟩⟩
  · have e48 : m = 48 := by omega
    subst e48
    clear em stp
    intro M5 h5
    have f5 : ∀ c j : Int, c ≠ 129 → M5 c j = N c j := fun c j hc => by rw [h5]; exact mset_cell _ hc _ _ _
    have hF5 : Fx 129 139 M M5 := fun c j hc => by rw [f5 c j (by omega), hF c j (by omega)]; exact hF2 c j hc
    have jm5 : JM Z M5 (fun c => c) (fun c => if c < 32 then (c : Int) else -1) [] := by
      refine ⟨hL.fr (fun c j _ _ => by rw [f5 c j (by omega), hF c j (by omega)]), fun c hc => ?_, by rw [h5, mset_same]; rfl, fun m e he => by simp at he⟩
      rw [f5 134 _ (by omega), f5 135 _ (by omega)]
      exact hN c hc
    show R_X1_await V i ((16 : Nat) : Int) M5 _
    refine x_await jm5 (by simp) (by omega) (by omega) (fun M7 f7 jm7 => ?_)
    rw [List.nil_append] at jm7
    unfold wp_X1_join_77
    refine ⟨fun y N1 => ∃ (n : Nat) (k : Nat → Nat) (s : Nat → Int) (w : List (Nat × Nat)), y = n ∧ Fx 129 139 M N1 ∧ JI Z i n k s w ∧ JM Z N1 k s w, fun y _ => (97 - y).toNat, ⟨0, _, _, _, rfl, hF5.trans f7, start, jm7⟩, ?_⟩
    rintro y N1 ⟨n, k, s, w, rfl, hF1, hJ, hM⟩
    have hcnt := hJ.cnt
    unfold wp_X1_join_77_b
    refine ⟨fun d => by omega, fun _ => ?_⟩
    rw [hM.2.2.1]
    refine ⟨fun d => ?_, fun d => ?_⟩
    · have hw : w = [] := List.length_eq_zero_iff.mp (by omega)
      subst hw
      unfold wp_X1_join_154
      refine x_weighKin hZ hJ hM (fun M9 f9 st ex => ⟨Or.inl rfl, h0 M9 (hF1.trans (f9.mono (by omega) (by omega))) (fun τ ht => ?_)⟩) (fun M9 f9 wi al => ⟨Or.inr rfl, h1 M9 n k s (hF1.trans (f9.mono (by omega) (by omega))) hJ ⟨hM.1.fr (fun c j a b => f9 c j (by omega)), fun c hc => by rw [f9 _ _ (by omega), f9 _ _ (by omega)]; exact hM.2.1 c hc, by rw [f9 _ _ (by omega)]; exact hM.2.2.1, fun m e he => by simp at he⟩ wi al⟩)
      have next : ∀ c : Nat, c < 48 → M9 136 c = 0 → ∃ j, 0 ≤ s c ∧ j < nar Z (s c).toNat ∧ M9 136 (pt Z k s c j : Nat) = 0 ∧ Tm Z (pt Z k s c j) ∧ pt Z k s c j < 48 ∧ k (pt Z k s c j) = pt Z k s c j := fun c hc e => by
        obtain ⟨a, j, b, d⟩ := st c hc e
        obtain ⟨p1, p2, p3⟩ := ji_pt hZ hJ hc a b
        exact ⟨j, a, b, d, p1, p2, p3⟩
      obtain ⟨c, c1, c2⟩ := ex
      obtain ⟨j, -, -, q1, q2, q3, q4⟩ := next c c1 c2
      refine ji_stuck hZ hJ (U := fun p => Tm Z p ∧ k p = p ∧ M9 136 (p : Nat) = 0) (fun p hp => ?_) ⟨q2, q4, q1⟩ ht
      obtain ⟨j', s1, s2, s3, s4, s5, s6⟩ := next p hp.1.lt hp.2.2
      exact ⟨hp.1, hp.2.1, s1, j', s2, s4, s6, s3⟩
    · intro M10 h10
      obtain ⟨w', e, rfl⟩ : ∃ w' e, w = w' ++ [e] := ⟨w.dropLast, w.getLast (fun g => by rw [g] at d; simp at d), (List.dropLast_concat_getLast _).symm⟩
      obtain ⟨u, v⟩ := e
      rw [List.length_append] at h10 hcnt
      simp only [List.length_cons, List.length_nil] at h10 hcnt
      rw [w32_id (by omega) (by omega)] at h10
      have f10 : ∀ c j : Int, c ≠ 129 → M10 c j = N1 c j := fun c j hc => by rw [h10]; exact mset_cell _ hc _ _ _
      have e10 : M10 129 9 = (w'.length : Nat) := by rw [h10, mset_same]; omega
      obtain ⟨g1, g2⟩ := hM.2.2.2 w'.length (u, v) (by simp)
      have jm10 : JM Z M10 k s w' := by
        refine ⟨hM.1.fr (fun c j _ _ => f10 c j (by omega)), fun c hc => by rw [f10 134 _ (by omega), f10 135 _ (by omega)]; exact hM.2.1 c hc, e10, fun m e he => ?_⟩
        rw [f10 137 _ (by omega), f10 138 _ (by omega)]
        refine hM.2.2.2 m e ?_
        have hl : m < w'.length := by
          by_cases g : m < w'.length
          · exact g
          · rw [List.getElem?_eq_none (by omega)] at he; cases he
        rw [List.getElem?_append_left hl]; exact he
      obtain ⟨w1, w2, w3, w4⟩ := hJ.wok (u, v) (by simp)
      simp only at w1 w2 w3 w4 g1 g2
      obtain ⟨u1, -⟩ := tm_ok hZ w1 w2
      obtain ⟨v1, -⟩ := tm_ok hZ w3 w4
      have lu := u1.lt
      have lv := v1.lt
      rw [e10, f10 137 _ (by omega), f10 138 _ (by omega), g1, g2, (jm10.1 u w2).2.2.2, (jm10.1 v w4).2.2.2, (jm10.2.1 _ lu).1, (jm10.2.1 _ lv).1]
      refine ⟨by omega, by omega, by omega, by omega, by omega, by omega, ?_⟩
      have hF10 : Fx 129 139 M M10 := fun c j hc => by rw [f10 c j (by omega)]; exact hF1 c j hc
      refine x_joinKin hZ hJ jm10 (fun M' f' no => ⟨fun _ => h0 M' (hF10.trans f') no, fun z => absurd rfl z⟩) (fun M' k' s' w'' f' hJ' hM' => ⟨fun z => by omega, fun _ => ⟨⟨n + 1, k', s', w'', ?_, hF10.trans f', hJ', hM'⟩, ?_⟩⟩)
      · rw [w32_id (by omega) (by omega)]; omega
      · (try dsimp only); rw [w32_id (by omega) (by omega)]; omega
  · rw [em (by omega)]
    intro M13 h13
    refine ⟨by omega, ?_⟩
    rw [h13]
    exact stp (by omega) (-1) (by rw [if_neg (by omega)])
  · rw [em (by omega)]
    intro M13 h13
    refine ⟨by omega, ?_⟩
    rw [h13]
    exact stp (by omega) m (by rw [if_pos (by omega)])
end WHOLEJOIN
