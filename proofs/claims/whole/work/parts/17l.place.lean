/-! the class: where a node of the first tree comes to stand -/
section PLACE
variable {V : VV} {M : Mem} {Q : Int → Mem → Prop} {Z : T4} {i n : Nat} {k : Nat → Nat} {s : Nat → Int}
theorem app_take_succ {θ : Int → T} {q : Nat} (hZ : Z4 Z) (hq : q < 16) (ho : nOK Z q) : (app θ ((varA Z.1).take (q + 1))).length = (app θ ((varA Z.1).take q)).length + if hol Z q then (tv Z θ q).length else 1 := by
  have e : nt Z q = Z.1 := by unfold nt; rw [if_pos hq]
  have em : q % 16 = q := Nat.mod_eq_of_lt hq
  have hB : isB q = false := by unfold isB; simp; omega
  have hl : q < Z.1.length := by have := ho.2; rw [e, em] at this; exact this
  have hl2 : q < (varA Z.1).length := by unfold varA; simpa using hl
  have nv : nvt Z q = varA Z.1 := by unfold nvt; rw [hB, e]; rfl
  have hv := nvt_at (Z := Z) (q := q) (i := q) (by rw [e]; exact hl)
  rw [nv, e, hB] at hv
  have el : (varA Z.1)[q] = (lb (varA Z.1) q, ar (varA Z.1) q) := by unfold lb ar; simp [hl2]
  rw [List.take_succ_eq_append_getElem hl2, app_append, List.length_append, el, app_cons, app_nil, List.append_nil, hv.2]
  congr 1
  cases hh : hol Z q with
  | true =>
    have hh' : isH (lb Z.1 q) = true := by unfold hol nlb at hh; rw [e, em] at hh; exact hh
    have hr := isH_iff.mp hh'
    rw [if_pos hh', (tv_hole hZ ho hh).1]
    simp only [Bool.false_eq_true, if_false, if_true]
    rw [if_pos (by omega)]
    congr 2
    unfold vr nh nlb
    rw [e, em, hB]
    simp only [Bool.false_eq_true, if_false]
    omega
  | false =>
    have hh' : isH (lb Z.1 q) = false := by unfold hol nlb at hh; rw [e, em] at hh; exact hh
    have lab := (tv_node (τ := fun v => [(v, 0)]) hZ ho hh).2.1
    unfold nlb at lab
    rw [e, em] at lab
    rw [hh']
    simp only [Bool.false_eq_true, if_false]
    rw [if_neg (by omega)]; rfl
theorem app_len_mono {θ : Int → T} (u : T) (q : Nat) : (app θ (u.take q)).length ≤ (app θ u).length := by
  conv => rhs; rw [← List.take_append_drop q u]
  rw [app_append, List.length_append]; omega
theorem x_placeOf {ρ : Nat → Nat} (hZ : Z4 Z) (h : JI Z i n k s []) (hm : JK Z M k s) (hw : WI Z k s M) (hall : ∀ c : Nat, c < 48 → 0 < M 136 c) (hr : Rk Z k s ρ) (hi : i < Z.1.length) (h16 : (app (th Z (jrs k s)) (varA Z.1)).length ≤ 16) (hq : Q (app (th Z (jrs k s)) ((varA Z.1).take i)).length M) : R_X1_placeOf V i M Q := by
  have a16 := hZ.1.1.1
  apply of_X1_placeOf
  unfold wp_X1_placeOf wp_X1_placeOf_4
  refine ⟨fun y2 y3 N => ∃ q : Nat, y3 = q ∧ q ≤ i ∧ N = M ∧ y2 = ((app (th Z (jrs k s)) ((varA Z.1).take q)).length : Nat), fun _ y3 _ => (17 - y3).toNat, ⟨0, rfl, by omega, rfl, by simp [app]⟩, ?_⟩
  rintro y2 y3 N ⟨q, rfl, hqi, rfl, rfl⟩
  unfold wp_X1_placeOf_4_b
  refine ⟨fun g => ?_, fun g => ⟨fun g2 => by omega, fun g2 => ⟨by omega, ?_⟩⟩⟩
  · have : q = i := by omega
    subst this; exact hq
  · have e : nt Z q = Z.1 := by unfold nt; rw [if_pos (by omega)]
    have ho : nOK Z q := ⟨by omega, by rw [e, Nat.mod_eq_of_lt (by omega)]; omega⟩
    have nx := app_take_succ (θ := th Z (jrs k s)) hZ (by omega) ho
    have bd := app_len_mono (θ := th Z (jrs k s)) (varA Z.1) (q + 1)
    obtain ⟨l1, -, -, l4⟩ := hm.1 q (by omega)
    rw [l1]
    have ev : w32 ((q : Int) + 1) = ((q + 1 : Nat) : Int) := by rw [w32_id (by omega) (by omega)]; omega
    unfold wp_X1_placeOf_48
    rw [ev]
    clear ev
    apply x_isHole
    cases hh : hol Z q with
    | false =>
      rw [hh] at nx
      simp only [Bool.false_eq_true, if_false] at nx
      have lab := (tv_node (τ := fun v => [(v, 0)]) hZ ho hh).2.1
      rw [if_neg (by omega)]
      refine ⟨fun _ => ⟨⟨q + 1, rfl, by omega, rfl, ?_⟩, by (try dsimp only); omega⟩, fun z => absurd rfl z⟩
      rw [w32_id (by omega) (by omega)]; omega
    | true =>
      rw [hh] at nx
      simp only [if_true] at nx
      have hr' := isH_iff.mp hh
      rw [if_pos hr']
      obtain ⟨t1, t2⟩ := tm_ok hZ ho (by omega)
      obtain ⟨k1, k2⟩ := h.kin _ t1
      have tl := t1.lt
      have kl := k1.lt
      have hf := ji_heft hZ h hw hall hr _ (k (tm Z q)) k1 k2 (Nat.lt_succ_self _)
      rw [← ji_kin hZ h hr t1, t2, if_neg (by omega)] at hf
      refine ⟨fun z => by omega, fun _ => ?_⟩
      rw [l4, (hm.2 _ tl).1, hf]
      refine ⟨by omega, by omega, by omega, ⟨q + 1, rfl, by omega, rfl, ?_⟩, by (try dsimp only); omega⟩
      rw [w32_id (by omega) (by omega)]; omega
end PLACE
