def rm_X7_init : Room := { frames := 1, cells := 6, slots := 96, locals := 20 }
theorem hy_X7_init : yX7_init.cls ≠ "java/lang/invoke/MethodHandle" ∧ yX7_init.cls ≠ "java/lang/invoke/VarHandle" ∧ (parseMethodDescriptor yX7_init.desc).map (fun d => d.parameters.length) = some 0 := by decide +kernel
theorem ctor_X7_init (V : VV) (k : Nat) (C : Nat → va_E) (hC : C k = .inr (7, [.int 0, .null, .null, .null, .null, .null, .null])) {Q : (Nat → va_E) → Nat → Prop} (hq : ∀ C', (∀ j, j < k → C' j = C j) → (∀ i, i < 7 → C' (k + i) = treeE V k i) → Q C' (k + 7)) : RunsC V yX7_init (.code yX7_init cX7_init 1 none) rm_X7_init 6 96 [(17, ((k : Nat) : Int))] C (k + 1) Q := by
  refine metc_in (own := "TreeHands$Tree") (by decide +kernel) rfl rfl (Nat.le_of_ble_eq_true rfl) ?_
  intro X G Z hi hn hr hv
  subst hv
  have hR : roomC X 6 96 := by
    obtain ⟨V0, nL, p, e, R, s, m, args, below, meth, c, cells, slots, A, Q0⟩ := X
    have hr : R = rm_X7_init := hr
    subst hr
    exact ⟨Nat.le_of_ble_eq_true rfl, Nat.le_of_ble_eq_true rfl⟩
  show BW X 0 0 0 [(17, ((k : Nat) : Int))] [] C (k + 1)
  generalize hC0 : C = C0 at hC ⊢
  have hB0 : ∀ j, j < k → C0 j = C j := fun j _ => by rw [hC0]
  clear hC0
  have f0 := hC
  refine bm_aload (i := 0) (t := 14) (pc := 0) G dX7_init_0 rfl rfl rfl (by omega) ?_
  refine bm_obj (t := 14) (pc := 1) G dX7_init_1 tw_m_RX7_3 (by omega) (by rw [hr]; exact ⟨Nat.le_of_ble_eq_true rfl, Nat.le_of_ble_eq_true rfl⟩) rfl ?_
  refine bm_aload (i := 0) (t := 14) (pc := 4) G dX7_init_4 rfl rfl rfl (by omega) ?_
  refine bm_bipush (pc := 5) G dX7_init_5 (by decide) ?_
  refine bm_newi (pc := 7) G 16 dX7_init_7 (by decide) (hR.le (by decide) (by decide)) ?_
  generalize hC1 : cup C0 (k + 1) _ = C1
  have hB1 : ∀ j, j < k → C1 j = C j := fun j hj => by rw [← hC1, cup_ne _ (by omega)]; exact hB0 j hj
  have f0 : C1 k = .inr (7, [.int 0, .null, .null, .null, .null, .null, .null]) := by rw [← hC1, cup_ne _ (by omega)]; exact f0
  have g1 : C1 (k + 1) = .inl ((vX X).2.2.1, 16, .inl (fun _ => 0)) := by rw [← hC1, cup_same]
  clear hC1
  refine bm_putR (t := 113) (o := k) (q := k + 1) (fs := [.int 0, .null, .null, .null, .null, .null, .null]) (pc := 9) G hi 7 1 dX7_init_9 rfl inX7 tyX7_ok nmX7 (by decide) tw_f_RX7_9 rfl rfl rfl (by omega) f0 (Nat.le_of_ble_eq_true rfl) (fun _ => rfl) (fun _ => rfl) ?_
  generalize hC2 : cup C1 k _ = C2
  have hB2 : ∀ j, j < k → C2 j = C j := fun j hj => by rw [← hC2, cup_ne _ (by omega)]; exact hB1 j hj
  have f0 : C2 k = .inr (7, [.int 0, .ref ((vX X).2.2.2.2.2 + (k + 1)), .null, .null, .null, .null, .null]) := by rw [← hC2, cup_same]; rfl
  have g1 : C2 (k + 1) = .inl ((vX X).2.2.1, 16, .inl (fun _ => 0)) := by rw [← hC2, cup_ne _ (by omega)]; exact g1
  clear hC2
  refine bm_aload (i := 0) (t := 14) (pc := 12) G dX7_init_12 rfl rfl rfl (by omega) ?_
  refine bm_bipush (pc := 13) G dX7_init_13 (by decide) ?_
  refine bm_newi (pc := 15) G 16 dX7_init_15 (by decide) (hR.le (by decide) (by decide)) ?_
  generalize hC3 : cup C2 (k + 2) _ = C3
  have hB3 : ∀ j, j < k → C3 j = C j := fun j hj => by rw [← hC3, cup_ne _ (by omega)]; exact hB2 j hj
  have f0 : C3 k = .inr (7, [.int 0, .ref ((vX X).2.2.2.2.2 + (k + 1)), .null, .null, .null, .null, .null]) := by rw [← hC3, cup_ne _ (by omega)]; exact f0
  have g1 : C3 (k + 1) = .inl ((vX X).2.2.1, 16, .inl (fun _ => 0)) := by rw [← hC3, cup_ne _ (by omega)]; exact g1
  have g2 : C3 (k + 2) = .inl ((vX X).2.2.1, 16, .inl (fun _ => 0)) := by rw [← hC3, cup_same]
  clear hC3
  refine bm_putR (t := 113) (o := k) (q := k + 2) (fs := [.int 0, .ref ((vX X).2.2.2.2.2 + (k + 1)), .null, .null, .null, .null, .null]) (pc := 17) G hi 7 2 dX7_init_17 rfl inX7 tyX7_ok nmX7 (by decide) tw_f_RX7_15 rfl rfl rfl (by omega) f0 (Nat.le_of_ble_eq_true rfl) (fun _ => rfl) (fun _ => rfl) ?_
  generalize hC4 : cup C3 k _ = C4
  have hB4 : ∀ j, j < k → C4 j = C j := fun j hj => by rw [← hC4, cup_ne _ (by omega)]; exact hB3 j hj
  have f0 : C4 k = .inr (7, [.int 0, .ref ((vX X).2.2.2.2.2 + (k + 1)), .ref ((vX X).2.2.2.2.2 + (k + 2)), .null, .null, .null, .null]) := by rw [← hC4, cup_same]; rfl
  have g1 : C4 (k + 1) = .inl ((vX X).2.2.1, 16, .inl (fun _ => 0)) := by rw [← hC4, cup_ne _ (by omega)]; exact g1
  have g2 : C4 (k + 2) = .inl ((vX X).2.2.1, 16, .inl (fun _ => 0)) := by rw [← hC4, cup_ne _ (by omega)]; exact g2
  clear hC4
  refine bm_aload (i := 0) (t := 14) (pc := 20) G dX7_init_20 rfl rfl rfl (by omega) ?_
  refine bm_bipush (pc := 21) G dX7_init_21 (by decide) ?_
  refine bm_newi (pc := 23) G 16 dX7_init_23 (by decide) (hR.le (by decide) (by decide)) ?_
  generalize hC5 : cup C4 (k + 3) _ = C5
  have hB5 : ∀ j, j < k → C5 j = C j := fun j hj => by rw [← hC5, cup_ne _ (by omega)]; exact hB4 j hj
  have f0 : C5 k = .inr (7, [.int 0, .ref ((vX X).2.2.2.2.2 + (k + 1)), .ref ((vX X).2.2.2.2.2 + (k + 2)), .null, .null, .null, .null]) := by rw [← hC5, cup_ne _ (by omega)]; exact f0
  have g1 : C5 (k + 1) = .inl ((vX X).2.2.1, 16, .inl (fun _ => 0)) := by rw [← hC5, cup_ne _ (by omega)]; exact g1
  have g2 : C5 (k + 2) = .inl ((vX X).2.2.1, 16, .inl (fun _ => 0)) := by rw [← hC5, cup_ne _ (by omega)]; exact g2
  have g3 : C5 (k + 3) = .inl ((vX X).2.2.1, 16, .inl (fun _ => 0)) := by rw [← hC5, cup_same]
  clear hC5
  refine bm_putR (t := 113) (o := k) (q := k + 3) (fs := [.int 0, .ref ((vX X).2.2.2.2.2 + (k + 1)), .ref ((vX X).2.2.2.2.2 + (k + 2)), .null, .null, .null, .null]) (pc := 25) G hi 7 3 dX7_init_25 rfl inX7 tyX7_ok nmX7 (by decide) tw_f_RX7_18 rfl rfl rfl (by omega) f0 (Nat.le_of_ble_eq_true rfl) (fun _ => rfl) (fun _ => rfl) ?_
  generalize hC6 : cup C5 k _ = C6
  have hB6 : ∀ j, j < k → C6 j = C j := fun j hj => by rw [← hC6, cup_ne _ (by omega)]; exact hB5 j hj
  have f0 : C6 k = .inr (7, [.int 0, .ref ((vX X).2.2.2.2.2 + (k + 1)), .ref ((vX X).2.2.2.2.2 + (k + 2)), .ref ((vX X).2.2.2.2.2 + (k + 3)), .null, .null, .null]) := by rw [← hC6, cup_same]; rfl
  have g1 : C6 (k + 1) = .inl ((vX X).2.2.1, 16, .inl (fun _ => 0)) := by rw [← hC6, cup_ne _ (by omega)]; exact g1
  have g2 : C6 (k + 2) = .inl ((vX X).2.2.1, 16, .inl (fun _ => 0)) := by rw [← hC6, cup_ne _ (by omega)]; exact g2
  have g3 : C6 (k + 3) = .inl ((vX X).2.2.1, 16, .inl (fun _ => 0)) := by rw [← hC6, cup_ne _ (by omega)]; exact g3
  clear hC6
  refine bm_aload (i := 0) (t := 14) (pc := 28) G dX7_init_28 rfl rfl rfl (by omega) ?_
  refine bm_bipush (pc := 29) G dX7_init_29 (by decide) ?_
  refine bm_newi (pc := 31) G 16 dX7_init_31 (by decide) (hR.le (by decide) (by decide)) ?_
  generalize hC7 : cup C6 (k + 4) _ = C7
  have hB7 : ∀ j, j < k → C7 j = C j := fun j hj => by rw [← hC7, cup_ne _ (by omega)]; exact hB6 j hj
  have f0 : C7 k = .inr (7, [.int 0, .ref ((vX X).2.2.2.2.2 + (k + 1)), .ref ((vX X).2.2.2.2.2 + (k + 2)), .ref ((vX X).2.2.2.2.2 + (k + 3)), .null, .null, .null]) := by rw [← hC7, cup_ne _ (by omega)]; exact f0
  have g1 : C7 (k + 1) = .inl ((vX X).2.2.1, 16, .inl (fun _ => 0)) := by rw [← hC7, cup_ne _ (by omega)]; exact g1
  have g2 : C7 (k + 2) = .inl ((vX X).2.2.1, 16, .inl (fun _ => 0)) := by rw [← hC7, cup_ne _ (by omega)]; exact g2
  have g3 : C7 (k + 3) = .inl ((vX X).2.2.1, 16, .inl (fun _ => 0)) := by rw [← hC7, cup_ne _ (by omega)]; exact g3
  have g4 : C7 (k + 4) = .inl ((vX X).2.2.1, 16, .inl (fun _ => 0)) := by rw [← hC7, cup_same]
  clear hC7
  refine bm_putR (t := 113) (o := k) (q := k + 4) (fs := [.int 0, .ref ((vX X).2.2.2.2.2 + (k + 1)), .ref ((vX X).2.2.2.2.2 + (k + 2)), .ref ((vX X).2.2.2.2.2 + (k + 3)), .null, .null, .null]) (pc := 33) G hi 7 4 dX7_init_33 rfl inX7 tyX7_ok nmX7 (by decide) tw_f_RX7_21 rfl rfl rfl (by omega) f0 (Nat.le_of_ble_eq_true rfl) (fun _ => rfl) (fun _ => rfl) ?_
  generalize hC8 : cup C7 k _ = C8
  have hB8 : ∀ j, j < k → C8 j = C j := fun j hj => by rw [← hC8, cup_ne _ (by omega)]; exact hB7 j hj
  have f0 : C8 k = .inr (7, [.int 0, .ref ((vX X).2.2.2.2.2 + (k + 1)), .ref ((vX X).2.2.2.2.2 + (k + 2)), .ref ((vX X).2.2.2.2.2 + (k + 3)), .ref ((vX X).2.2.2.2.2 + (k + 4)), .null, .null]) := by rw [← hC8, cup_same]; rfl
  have g1 : C8 (k + 1) = .inl ((vX X).2.2.1, 16, .inl (fun _ => 0)) := by rw [← hC8, cup_ne _ (by omega)]; exact g1
  have g2 : C8 (k + 2) = .inl ((vX X).2.2.1, 16, .inl (fun _ => 0)) := by rw [← hC8, cup_ne _ (by omega)]; exact g2
  have g3 : C8 (k + 3) = .inl ((vX X).2.2.1, 16, .inl (fun _ => 0)) := by rw [← hC8, cup_ne _ (by omega)]; exact g3
  have g4 : C8 (k + 4) = .inl ((vX X).2.2.1, 16, .inl (fun _ => 0)) := by rw [← hC8, cup_ne _ (by omega)]; exact g4
  clear hC8
  refine bm_aload (i := 0) (t := 14) (pc := 36) G dX7_init_36 rfl rfl rfl (by omega) ?_
  refine bm_bipush (pc := 37) G dX7_init_37 (by decide) ?_
  refine bm_newi (pc := 39) G 16 dX7_init_39 (by decide) (hR.le (by decide) (by decide)) ?_
  generalize hC9 : cup C8 (k + 5) _ = C9
  have hB9 : ∀ j, j < k → C9 j = C j := fun j hj => by rw [← hC9, cup_ne _ (by omega)]; exact hB8 j hj
  have f0 : C9 k = .inr (7, [.int 0, .ref ((vX X).2.2.2.2.2 + (k + 1)), .ref ((vX X).2.2.2.2.2 + (k + 2)), .ref ((vX X).2.2.2.2.2 + (k + 3)), .ref ((vX X).2.2.2.2.2 + (k + 4)), .null, .null]) := by rw [← hC9, cup_ne _ (by omega)]; exact f0
  have g1 : C9 (k + 1) = .inl ((vX X).2.2.1, 16, .inl (fun _ => 0)) := by rw [← hC9, cup_ne _ (by omega)]; exact g1
  have g2 : C9 (k + 2) = .inl ((vX X).2.2.1, 16, .inl (fun _ => 0)) := by rw [← hC9, cup_ne _ (by omega)]; exact g2
  have g3 : C9 (k + 3) = .inl ((vX X).2.2.1, 16, .inl (fun _ => 0)) := by rw [← hC9, cup_ne _ (by omega)]; exact g3
  have g4 : C9 (k + 4) = .inl ((vX X).2.2.1, 16, .inl (fun _ => 0)) := by rw [← hC9, cup_ne _ (by omega)]; exact g4
  have g5 : C9 (k + 5) = .inl ((vX X).2.2.1, 16, .inl (fun _ => 0)) := by rw [← hC9, cup_same]
  clear hC9
  refine bm_putR (t := 113) (o := k) (q := k + 5) (fs := [.int 0, .ref ((vX X).2.2.2.2.2 + (k + 1)), .ref ((vX X).2.2.2.2.2 + (k + 2)), .ref ((vX X).2.2.2.2.2 + (k + 3)), .ref ((vX X).2.2.2.2.2 + (k + 4)), .null, .null]) (pc := 41) G hi 7 5 dX7_init_41 rfl inX7 tyX7_ok nmX7 (by decide) tw_f_RX7_24 rfl rfl rfl (by omega) f0 (Nat.le_of_ble_eq_true rfl) (fun _ => rfl) (fun _ => rfl) ?_
  generalize hC10 : cup C9 k _ = C10
  have hB10 : ∀ j, j < k → C10 j = C j := fun j hj => by rw [← hC10, cup_ne _ (by omega)]; exact hB9 j hj
  have f0 : C10 k = .inr (7, [.int 0, .ref ((vX X).2.2.2.2.2 + (k + 1)), .ref ((vX X).2.2.2.2.2 + (k + 2)), .ref ((vX X).2.2.2.2.2 + (k + 3)), .ref ((vX X).2.2.2.2.2 + (k + 4)), .ref ((vX X).2.2.2.2.2 + (k + 5)), .null]) := by rw [← hC10, cup_same]; rfl
  have g1 : C10 (k + 1) = .inl ((vX X).2.2.1, 16, .inl (fun _ => 0)) := by rw [← hC10, cup_ne _ (by omega)]; exact g1
  have g2 : C10 (k + 2) = .inl ((vX X).2.2.1, 16, .inl (fun _ => 0)) := by rw [← hC10, cup_ne _ (by omega)]; exact g2
  have g3 : C10 (k + 3) = .inl ((vX X).2.2.1, 16, .inl (fun _ => 0)) := by rw [← hC10, cup_ne _ (by omega)]; exact g3
  have g4 : C10 (k + 4) = .inl ((vX X).2.2.1, 16, .inl (fun _ => 0)) := by rw [← hC10, cup_ne _ (by omega)]; exact g4
  have g5 : C10 (k + 5) = .inl ((vX X).2.2.1, 16, .inl (fun _ => 0)) := by rw [← hC10, cup_ne _ (by omega)]; exact g5
  clear hC10
  refine bm_aload (i := 0) (t := 14) (pc := 44) G dX7_init_44 rfl rfl rfl (by omega) ?_
  refine bm_bipush (pc := 45) G dX7_init_45 (by decide) ?_
  refine bm_newi (pc := 47) G 16 dX7_init_47 (by decide) (hR.le (by decide) (by decide)) ?_
  generalize hC11 : cup C10 (k + 6) _ = C11
  have hB11 : ∀ j, j < k → C11 j = C j := fun j hj => by rw [← hC11, cup_ne _ (by omega)]; exact hB10 j hj
  have f0 : C11 k = .inr (7, [.int 0, .ref ((vX X).2.2.2.2.2 + (k + 1)), .ref ((vX X).2.2.2.2.2 + (k + 2)), .ref ((vX X).2.2.2.2.2 + (k + 3)), .ref ((vX X).2.2.2.2.2 + (k + 4)), .ref ((vX X).2.2.2.2.2 + (k + 5)), .null]) := by rw [← hC11, cup_ne _ (by omega)]; exact f0
  have g1 : C11 (k + 1) = .inl ((vX X).2.2.1, 16, .inl (fun _ => 0)) := by rw [← hC11, cup_ne _ (by omega)]; exact g1
  have g2 : C11 (k + 2) = .inl ((vX X).2.2.1, 16, .inl (fun _ => 0)) := by rw [← hC11, cup_ne _ (by omega)]; exact g2
  have g3 : C11 (k + 3) = .inl ((vX X).2.2.1, 16, .inl (fun _ => 0)) := by rw [← hC11, cup_ne _ (by omega)]; exact g3
  have g4 : C11 (k + 4) = .inl ((vX X).2.2.1, 16, .inl (fun _ => 0)) := by rw [← hC11, cup_ne _ (by omega)]; exact g4
  have g5 : C11 (k + 5) = .inl ((vX X).2.2.1, 16, .inl (fun _ => 0)) := by rw [← hC11, cup_ne _ (by omega)]; exact g5
  have g6 : C11 (k + 6) = .inl ((vX X).2.2.1, 16, .inl (fun _ => 0)) := by rw [← hC11, cup_same]
  clear hC11
  refine bm_putR (t := 113) (o := k) (q := k + 6) (fs := [.int 0, .ref ((vX X).2.2.2.2.2 + (k + 1)), .ref ((vX X).2.2.2.2.2 + (k + 2)), .ref ((vX X).2.2.2.2.2 + (k + 3)), .ref ((vX X).2.2.2.2.2 + (k + 4)), .ref ((vX X).2.2.2.2.2 + (k + 5)), .null]) (pc := 49) G hi 7 6 dX7_init_49 rfl inX7 tyX7_ok nmX7 (by decide) tw_f_RX7_27 rfl rfl rfl (by omega) f0 (Nat.le_of_ble_eq_true rfl) (fun _ => rfl) (fun _ => rfl) ?_
  generalize hC12 : cup C11 k _ = C12
  have hB12 : ∀ j, j < k → C12 j = C j := fun j hj => by rw [← hC12, cup_ne _ (by omega)]; exact hB11 j hj
  have f0 : C12 k = .inr (7, [.int 0, .ref ((vX X).2.2.2.2.2 + (k + 1)), .ref ((vX X).2.2.2.2.2 + (k + 2)), .ref ((vX X).2.2.2.2.2 + (k + 3)), .ref ((vX X).2.2.2.2.2 + (k + 4)), .ref ((vX X).2.2.2.2.2 + (k + 5)), .ref ((vX X).2.2.2.2.2 + (k + 6))]) := by rw [← hC12, cup_same]; rfl
  have g1 : C12 (k + 1) = .inl ((vX X).2.2.1, 16, .inl (fun _ => 0)) := by rw [← hC12, cup_ne _ (by omega)]; exact g1
  have g2 : C12 (k + 2) = .inl ((vX X).2.2.1, 16, .inl (fun _ => 0)) := by rw [← hC12, cup_ne _ (by omega)]; exact g2
  have g3 : C12 (k + 3) = .inl ((vX X).2.2.1, 16, .inl (fun _ => 0)) := by rw [← hC12, cup_ne _ (by omega)]; exact g3
  have g4 : C12 (k + 4) = .inl ((vX X).2.2.1, 16, .inl (fun _ => 0)) := by rw [← hC12, cup_ne _ (by omega)]; exact g4
  have g5 : C12 (k + 5) = .inl ((vX X).2.2.1, 16, .inl (fun _ => 0)) := by rw [← hC12, cup_ne _ (by omega)]; exact g5
  have g6 : C12 (k + 6) = .inl ((vX X).2.2.1, 16, .inl (fun _ => 0)) := by rw [← hC12, cup_ne _ (by omega)]; exact g6
  clear hC12
  refine bm_ret (pc := 52) G Z dX7_init_52 ?_
  refine hq C12 hB12 (fun i h => ?_)
  rcases (show i = 0 ∨ i = 1 ∨ i = 2 ∨ i = 3 ∨ i = 4 ∨ i = 5 ∨ i = 6 by omega) with rfl | rfl | rfl | rfl | rfl | rfl | rfl
  · exact f0
  · exact g1
  · exact g2
  · exact g3
  · exact g4
  · exact g5
  · exact g6
theorem ctor_T (V : VV) (k : Nat) (hk : (k : Int) ∈ treeL) (C : Nat → va_E) (hC : C k = .inr (7, [.int 0, .null, .null, .null, .null, .null, .null])) {Q : (Nat → va_E) → Nat → Prop} (hq : ∀ C', (∀ j, j < k → C' j = C j) → (∀ j, k ≤ j → j < k + 7 → C' j = cellE V M0 j) → Q C' (k + 7)) : RunsC V yX7_init (.code yX7_init cX7_init 1 none) rm_X7_init 6 96 [(17, ((k : Nat) : Int))] C (k + 1) Q :=
  ctor_X7_init V k C hC fun C' h1 h2 => hq C' h1 fun j h3 h4 => by
    have h5 := h2 (j - k) (by omega)
    rw [show k + (j - k) = j by omega] at h5
    rw [h5, ← tree_fin V hk (j - k) (by omega), show k + (j - k) = j by omega]
def rm_X5_init : Room := { frames := 1, cells := 1, slots := 60, locals := 20 }
theorem hy_X5_init : yX5_init.cls ≠ "java/lang/invoke/MethodHandle" ∧ yX5_init.cls ≠ "java/lang/invoke/VarHandle" ∧ (parseMethodDescriptor yX5_init.desc).map (fun d => d.parameters.length) = some 0 := by decide +kernel
theorem fin_1 (V : VV) : (.inr (5, [.int 0, .ref (V.2.2.2.2.2 + 2)]) : va_E) = cellE V M0 1 := by
  rfl
set_option maxRecDepth 20000 in
set_option maxHeartbeats 2000000 in
theorem ctor_X5_init (V : VV) (C : Nat → va_E) (hC : C 1 = .inr (5, [.int 0, .null])) {Q : (Nat → va_E) → Nat → Prop} (hq : ∀ C', (∀ j, j < 1 → C' j = C j) → (∀ j, 1 ≤ j → j < 3 → C' j = cellE V M0 j) → Q C' 3) : RunsC V yX5_init (.code yX5_init cX5_init 1 none) rm_X5_init 1 60 [(15, ((1 : Nat) : Int))] C 2 Q := by
  refine metc_in (own := "TreeHands$Pad") (by decide +kernel) rfl rfl (Nat.le_of_ble_eq_true rfl) ?_
  intro X G Z hi hn hr hv
  subst hv
  have hR : roomC X 1 60 := by
    obtain ⟨V0, nL, p, e, R, s, m, args, below, meth, c, cells, slots, A, Q0⟩ := X
    have hr : R = rm_X5_init := hr
    subst hr
    exact ⟨Nat.le_of_ble_eq_true rfl, Nat.le_of_ble_eq_true rfl⟩
  show BW X 0 0 0 [(15, ((1 : Nat) : Int))] [] C 2
  have hF0 : ∀ j, 1 ≤ j → j ≠ 1 → j < 2 → C j = cellE (vX X) M0 j := fun j h1 h2 h3 => by omega
  have hB0 : ∀ j, j < 1 → C j = C j := fun _ _ => rfl
  have f1 := hC
  generalize hC0 : C = C0 at f1 hF0 ⊢
  have hB0 : ∀ j, j < 1 → C0 j = C j := fun j _ => by rw [hC0]
  clear hC0
  refine bm_aload (i := 0) (t := 12) (pc := 0) G dX5_init_0 rfl rfl rfl (by decide) ?_
  refine bm_obj (t := 12) (pc := 1) G dX5_init_1 tw_m_RX5_3 (by decide) (by rw [hr]; exact ⟨Nat.le_of_ble_eq_true rfl, Nat.le_of_ble_eq_true rfl⟩) rfl ?_
  refine bm_aload (i := 0) (t := 12) (pc := 4) G dX5_init_4 rfl rfl rfl (by decide) ?_
  refine bm_bipush (pc := 5) G dX5_init_5 (by decide) ?_
  refine bm_newi (pc := 7) G 60 dX5_init_7 (by decide) (hR.le (by decide) (by decide)) ?_
  generalize hC1 : cup C0 2 _ = C1
  have hF1 : ∀ j, 1 ≤ j → j ≠ 1 → j < 3 → C1 j = cellE (vX X) M0 j := by
    intro j h0 q1 h9
    rw [← hC1]
    by_cases h : j = 2
    · subst h; rw [cup_same]; exact (cellZ_i (vX X) (k := 2) (n := 60) rfl (by decide) (by decide)).symm
    · rw [cup_ne _ h]; exact hF0 j h0 q1 (by omega)
  have hB1 : ∀ j, j < 1 → C1 j = C j := fun j hj => by rw [← hC1, cup_ne _ (by omega)]; exact hB0 j hj
  have f1 : C1 1 = .inr (5, [.int 0, .null]) := by rw [← hC1, cup_ne _ (by decide)]; exact f1
  clear hC1
  refine bm_putR (t := 157) (o := 1) (q := 2) (fs := [.int 0, .null]) (pc := 9) G hi 5 1 dX5_init_9 rfl inX5 tyX5_ok nmX5 (by decide) tw_f_RX5_9 rfl rfl rfl (by decide) f1 (Nat.le_of_ble_eq_true rfl) (fun _ => rfl) (fun _ => rfl) ?_
  generalize hC2 : cup C1 1 _ = C2
  have hF2 : ∀ j, 1 ≤ j → j ≠ 1 → j < 3 → C2 j = cellE (vX X) M0 j := by
    intro j h0 q1 h9
    rw [← hC2]
    rw [cup_ne _ q1]
    exact hF1 j h0 q1 (by omega)
  have hB2 : ∀ j, j < 1 → C2 j = C j := fun j hj => by rw [← hC2, cup_ne _ (by omega)]; exact hB1 j hj
  have f1 : C2 1 = .inr (5, [.int 0, .ref ((vX X).2.2.2.2.2 + 2)]) := by rw [← hC2, cup_same] <;> rfl
  clear hC2
  refine bm_ret (pc := 12) G Z dX5_init_12 ?_
  refine hq C2 hB2 (fun j h0 h9 => ?_)
  by_cases hc1 : j = 1
  · subst hc1; rw [f1]; exact fin_1 (vX X)
  exact hF2 j h0 hc1 h9
def rm_X2_init : Room := { frames := 1, cells := 7, slots := 1191, locals := 20 }
theorem hy_X2_init : yX2_init.cls ≠ "java/lang/invoke/MethodHandle" ∧ yX2_init.cls ≠ "java/lang/invoke/VarHandle" ∧ (parseMethodDescriptor yX2_init.desc).map (fun d => d.parameters.length) = some 0 := by decide +kernel
theorem fin_12 (V : VV) : (.inr (2, [.ref (V.2.2.2.2.2 + 13), .ref (V.2.2.2.2.2 + 14), .ref (V.2.2.2.2.2 + 15), .int 0, .int 0, .int 0, .ref (V.2.2.2.2.2 + 16), .ref (V.2.2.2.2.2 + 17), .ref (V.2.2.2.2.2 + 18), .ref (V.2.2.2.2.2 + 19), .long 0, .long 0]) : va_E) = cellE V M0 12 := by
  rfl
theorem fin_13 (V : VV) : (.inl (V.2.2.1, 3, .inl (upd (upd (upd (fun _ => 0) (Int.toNat 0) (i32 3)) (Int.toNat 1) (i32 3)) (Int.toNat 2) (i32 2))) : va_E) = cellE V M0 13 := by
  rw [cellE_ia (n := 3) rfl (by decide)]
  congr 4
  funext j
  match j with
  | 0 => rfl
  | 1 => rfl
  | 2 => rfl
  | j + 3 =>
    rw [M0_arr (by decide) (by omega)]
    rfl
set_option maxRecDepth 20000 in
set_option maxHeartbeats 2000000 in
theorem ctor_X2_init (V : VV) (C : Nat → va_E) (hC : C 12 = .inr (2, [.null, .null, .null, .int 0, .int 0, .int 0, .null, .null, .null, .null, .long 0, .long 0])) {Q : (Nat → va_E) → Nat → Prop} (hq : ∀ C', (∀ j, j < 12 → C' j = C j) → (∀ j, 12 ≤ j → j < 20 → C' j = cellE V M0 j) → Q C' 20) : RunsC V yX2_init (.code yX2_init cX2_init 1 none) rm_X2_init 7 1191 [(12, ((12 : Nat) : Int))] C 13 Q := by
  refine metc_in (own := "TreeHands$Leader") (by decide +kernel) rfl rfl (Nat.le_of_ble_eq_true rfl) ?_
  intro X G Z hi hn hr hv
  subst hv
  have hR : roomC X 7 1191 := by
    obtain ⟨V0, nL, p, e, R, s, m, args, below, meth, c, cells, slots, A, Q0⟩ := X
    have hr : R = rm_X2_init := hr
    subst hr
    exact ⟨Nat.le_of_ble_eq_true rfl, Nat.le_of_ble_eq_true rfl⟩
  show BW X 0 0 0 [(12, ((12 : Nat) : Int))] [] C 13
  have hF0 : ∀ j, 12 ≤ j → j ≠ 12 → j < 13 → C j = cellE (vX X) M0 j := fun j h1 h2 h3 => by omega
  have hB0 : ∀ j, j < 12 → C j = C j := fun _ _ => rfl
  have f12 := hC
  generalize hC0 : C = C0 at f12 hF0 ⊢
  have hB0 : ∀ j, j < 12 → C0 j = C j := fun j _ => by rw [hC0]
  clear hC0
  refine bm_aload (i := 0) (t := 9) (pc := 0) G dX2_init_0 rfl rfl rfl (by decide) ?_
  refine bm_obj (t := 9) (pc := 1) G dX2_init_1 tw_m_RX2_3 (by decide) (by rw [hr]; exact ⟨Nat.le_of_ble_eq_true rfl, Nat.le_of_ble_eq_true rfl⟩) rfl ?_
  refine bm_aload (i := 0) (t := 9) (pc := 4) G dX2_init_4 rfl rfl rfl (by decide) ?_
  refine bm_iconst (pc := 5) G dX2_init_5 ?_
  refine bm_newi (pc := 6) G 3 dX2_init_6 (by decide) (hR.le (by decide) (by decide)) ?_
  generalize hC1 : cup C0 13 _ = C1
  have hF1 : ∀ j, 12 ≤ j → j ≠ 12 → j ≠ 13 → j < 14 → C1 j = cellE (vX X) M0 j := by
    intro j h0 q12 q13 h9
    rw [← hC1]
    rw [cup_ne _ q13]
    exact hF0 j h0 q12 (by omega)
  have hB1 : ∀ j, j < 12 → C1 j = C j := fun j hj => by rw [← hC1, cup_ne _ (by omega)]; exact hB0 j hj
  have f12 : C1 12 = .inr (2, [.null, .null, .null, .int 0, .int 0, .int 0, .null, .null, .null, .null, .long 0, .long 0]) := by rw [← hC1, cup_ne _ (by decide)]; exact f12
  have f13 : C1 13 = .inl ((vX X).2.2.1, 3, .inl (fun _ => 0)) := by rw [← hC1, cup_same] <;> rfl
  clear hC1
  refine bm_dup (pc := 8) G dX2_init_8 (Nat.ne_of_beq_eq_false rfl) ?_
  refine bm_iconst (pc := 9) G dX2_init_9 ?_
  refine bm_iconst (pc := 10) G dX2_init_10 ?_
  refine bm_iast (t := 100) (o := 13) (N := 3) (pc := 11) G dX2_init_11 (by decide) f13 (by decide) (by decide) ?_
  generalize hC2 : cup C1 13 _ = C2
  have hF2 : ∀ j, 12 ≤ j → j ≠ 12 → j ≠ 13 → j < 14 → C2 j = cellE (vX X) M0 j := by
    intro j h0 q12 q13 h9
    rw [← hC2]
    rw [cup_ne _ q13]
    exact hF1 j h0 q12 q13 (by omega)
  have hB2 : ∀ j, j < 12 → C2 j = C j := fun j hj => by rw [← hC2, cup_ne _ (by omega)]; exact hB1 j hj
  have f12 : C2 12 = .inr (2, [.null, .null, .null, .int 0, .int 0, .int 0, .null, .null, .null, .null, .long 0, .long 0]) := by rw [← hC2, cup_ne _ (by decide)]; exact f12
  have f13 : C2 13 = .inl ((vX X).2.2.1, 3, .inl (upd (fun _ => 0) (Int.toNat 0) (i32 3))) := by rw [← hC2, cup_same] <;> rfl
  clear hC2
  refine bm_dup (pc := 12) G dX2_init_12 (Nat.ne_of_beq_eq_false rfl) ?_
  refine bm_iconst (pc := 13) G dX2_init_13 ?_
  refine bm_iconst (pc := 14) G dX2_init_14 ?_
  refine bm_iast (t := 100) (o := 13) (N := 3) (pc := 15) G dX2_init_15 (by decide) f13 (by decide) (by decide) ?_
  generalize hC3 : cup C2 13 _ = C3
  have hF3 : ∀ j, 12 ≤ j → j ≠ 12 → j ≠ 13 → j < 14 → C3 j = cellE (vX X) M0 j := by
    intro j h0 q12 q13 h9
    rw [← hC3]
    rw [cup_ne _ q13]
    exact hF2 j h0 q12 q13 (by omega)
  have hB3 : ∀ j, j < 12 → C3 j = C j := fun j hj => by rw [← hC3, cup_ne _ (by omega)]; exact hB2 j hj
  have f12 : C3 12 = .inr (2, [.null, .null, .null, .int 0, .int 0, .int 0, .null, .null, .null, .null, .long 0, .long 0]) := by rw [← hC3, cup_ne _ (by decide)]; exact f12
  have f13 : C3 13 = .inl ((vX X).2.2.1, 3, .inl (upd (upd (fun _ => 0) (Int.toNat 0) (i32 3)) (Int.toNat 1) (i32 3))) := by rw [← hC3, cup_same] <;> rfl
  clear hC3
  refine bm_dup (pc := 16) G dX2_init_16 (Nat.ne_of_beq_eq_false rfl) ?_
  refine bm_iconst (pc := 17) G dX2_init_17 ?_
  refine bm_iconst (pc := 18) G dX2_init_18 ?_
  refine bm_iast (t := 100) (o := 13) (N := 3) (pc := 19) G dX2_init_19 (by decide) f13 (by decide) (by decide) ?_
  generalize hC4 : cup C3 13 _ = C4
  have hF4 : ∀ j, 12 ≤ j → j ≠ 12 → j ≠ 13 → j < 14 → C4 j = cellE (vX X) M0 j := by
    intro j h0 q12 q13 h9
    rw [← hC4]
    rw [cup_ne _ q13]
    exact hF3 j h0 q12 q13 (by omega)
  have hB4 : ∀ j, j < 12 → C4 j = C j := fun j hj => by rw [← hC4, cup_ne _ (by omega)]; exact hB3 j hj
  have f12 : C4 12 = .inr (2, [.null, .null, .null, .int 0, .int 0, .int 0, .null, .null, .null, .null, .long 0, .long 0]) := by rw [← hC4, cup_ne _ (by decide)]; exact f12
  have f13 : C4 13 = .inl ((vX X).2.2.1, 3, .inl (upd (upd (upd (fun _ => 0) (Int.toNat 0) (i32 3)) (Int.toNat 1) (i32 3)) (Int.toNat 2) (i32 2))) := by rw [← hC4, cup_same] <;> rfl
  clear hC4
  refine bm_putR (t := 100) (o := 12) (q := 13) (fs := [.null, .null, .null, .int 0, .int 0, .int 0, .null, .null, .null, .null, .long 0, .long 0]) (pc := 20) G hi 2 0 dX2_init_20 rfl inX2 tyX2_ok nmX2 (by decide) tw_f_RX2_9 rfl rfl rfl (by decide) f12 (Nat.le_of_ble_eq_true rfl) (fun _ => rfl) (fun _ => rfl) ?_
  generalize hC5 : cup C4 12 _ = C5
  have hF5 : ∀ j, 12 ≤ j → j ≠ 12 → j ≠ 13 → j < 14 → C5 j = cellE (vX X) M0 j := by
    intro j h0 q12 q13 h9
    rw [← hC5]
    rw [cup_ne _ q12]
    exact hF4 j h0 q12 q13 (by omega)
  have hB5 : ∀ j, j < 12 → C5 j = C j := fun j hj => by rw [← hC5, cup_ne _ (by omega)]; exact hB4 j hj
  have f12 : C5 12 = .inr (2, [.ref ((vX X).2.2.2.2.2 + 13), .null, .null, .int 0, .int 0, .int 0, .null, .null, .null, .null, .long 0, .long 0]) := by rw [← hC5, cup_same] <;> rfl
  have f13 : C5 13 = .inl ((vX X).2.2.1, 3, .inl (upd (upd (upd (fun _ => 0) (Int.toNat 0) (i32 3)) (Int.toNat 1) (i32 3)) (Int.toNat 2) (i32 2))) := by rw [← hC5, cup_ne _ (by decide)]; exact f13
  clear hC5
  refine bm_aload (i := 0) (t := 9) (pc := 23) G dX2_init_23 rfl rfl rfl (by decide) ?_
  refine bm_bipush (pc := 24) G dX2_init_24 (by decide) ?_
  refine bm_newi (pc := 26) G 16 dX2_init_26 (by decide) (hR.le (by decide) (by decide)) ?_
  generalize hC6 : cup C5 14 _ = C6
  have hF6 : ∀ j, 12 ≤ j → j ≠ 12 → j ≠ 13 → j < 15 → C6 j = cellE (vX X) M0 j := by
    intro j h0 q12 q13 h9
    rw [← hC6]
    by_cases h : j = 14
    · subst h; rw [cup_same]; exact (cellZ_i (vX X) (k := 14) (n := 16) rfl (by decide) (by decide)).symm
    · rw [cup_ne _ h]; exact hF5 j h0 q12 q13 (by omega)
  have hB6 : ∀ j, j < 12 → C6 j = C j := fun j hj => by rw [← hC6, cup_ne _ (by omega)]; exact hB5 j hj
  have f12 : C6 12 = .inr (2, [.ref ((vX X).2.2.2.2.2 + 13), .null, .null, .int 0, .int 0, .int 0, .null, .null, .null, .null, .long 0, .long 0]) := by rw [← hC6, cup_ne _ (by decide)]; exact f12
  have f13 : C6 13 = .inl ((vX X).2.2.1, 3, .inl (upd (upd (upd (fun _ => 0) (Int.toNat 0) (i32 3)) (Int.toNat 1) (i32 3)) (Int.toNat 2) (i32 2))) := by rw [← hC6, cup_ne _ (by decide)]; exact f13
  clear hC6
  refine bm_putR (t := 113) (o := 12) (q := 14) (fs := [.ref ((vX X).2.2.2.2.2 + 13), .null, .null, .int 0, .int 0, .int 0, .null, .null, .null, .null, .long 0, .long 0]) (pc := 28) G hi 2 1 dX2_init_28 rfl inX2 tyX2_ok nmX2 (by decide) tw_f_RX2_15 rfl rfl rfl (by decide) f12 (Nat.le_of_ble_eq_true rfl) (fun _ => rfl) (fun _ => rfl) ?_
  generalize hC7 : cup C6 12 _ = C7
  have hF7 : ∀ j, 12 ≤ j → j ≠ 12 → j ≠ 13 → j < 15 → C7 j = cellE (vX X) M0 j := by
    intro j h0 q12 q13 h9
    rw [← hC7]
    rw [cup_ne _ q12]
    exact hF6 j h0 q12 q13 (by omega)
  have hB7 : ∀ j, j < 12 → C7 j = C j := fun j hj => by rw [← hC7, cup_ne _ (by omega)]; exact hB6 j hj
  have f12 : C7 12 = .inr (2, [.ref ((vX X).2.2.2.2.2 + 13), .ref ((vX X).2.2.2.2.2 + 14), .null, .int 0, .int 0, .int 0, .null, .null, .null, .null, .long 0, .long 0]) := by rw [← hC7, cup_same] <;> rfl
  have f13 : C7 13 = .inl ((vX X).2.2.1, 3, .inl (upd (upd (upd (fun _ => 0) (Int.toNat 0) (i32 3)) (Int.toNat 1) (i32 3)) (Int.toNat 2) (i32 2))) := by rw [← hC7, cup_ne _ (by decide)]; exact f13
  clear hC7
  refine bm_aload (i := 0) (t := 9) (pc := 31) G dX2_init_31 rfl rfl rfl (by decide) ?_
  refine bm_bipush (pc := 32) G dX2_init_32 (by decide) ?_
  refine bm_newi (pc := 34) G 16 dX2_init_34 (by decide) (hR.le (by decide) (by decide)) ?_
  generalize hC8 : cup C7 15 _ = C8
  have hF8 : ∀ j, 12 ≤ j → j ≠ 12 → j ≠ 13 → j < 16 → C8 j = cellE (vX X) M0 j := by
    intro j h0 q12 q13 h9
    rw [← hC8]
    by_cases h : j = 15
    · subst h; rw [cup_same]; exact (cellZ_i (vX X) (k := 15) (n := 16) rfl (by decide) (by decide)).symm
    · rw [cup_ne _ h]; exact hF7 j h0 q12 q13 (by omega)
  have hB8 : ∀ j, j < 12 → C8 j = C j := fun j hj => by rw [← hC8, cup_ne _ (by omega)]; exact hB7 j hj
  have f12 : C8 12 = .inr (2, [.ref ((vX X).2.2.2.2.2 + 13), .ref ((vX X).2.2.2.2.2 + 14), .null, .int 0, .int 0, .int 0, .null, .null, .null, .null, .long 0, .long 0]) := by rw [← hC8, cup_ne _ (by decide)]; exact f12
  have f13 : C8 13 = .inl ((vX X).2.2.1, 3, .inl (upd (upd (upd (fun _ => 0) (Int.toNat 0) (i32 3)) (Int.toNat 1) (i32 3)) (Int.toNat 2) (i32 2))) := by rw [← hC8, cup_ne _ (by decide)]; exact f13
  clear hC8
  refine bm_putR (t := 113) (o := 12) (q := 15) (fs := [.ref ((vX X).2.2.2.2.2 + 13), .ref ((vX X).2.2.2.2.2 + 14), .null, .int 0, .int 0, .int 0, .null, .null, .null, .null, .long 0, .long 0]) (pc := 36) G hi 2 2 dX2_init_36 rfl inX2 tyX2_ok nmX2 (by decide) tw_f_RX2_18 rfl rfl rfl (by decide) f12 (Nat.le_of_ble_eq_true rfl) (fun _ => rfl) (fun _ => rfl) ?_
  generalize hC9 : cup C8 12 _ = C9
  have hF9 : ∀ j, 12 ≤ j → j ≠ 12 → j ≠ 13 → j < 16 → C9 j = cellE (vX X) M0 j := by
    intro j h0 q12 q13 h9
    rw [← hC9]
    rw [cup_ne _ q12]
    exact hF8 j h0 q12 q13 (by omega)
  have hB9 : ∀ j, j < 12 → C9 j = C j := fun j hj => by rw [← hC9, cup_ne _ (by omega)]; exact hB8 j hj
  have f12 : C9 12 = .inr (2, [.ref ((vX X).2.2.2.2.2 + 13), .ref ((vX X).2.2.2.2.2 + 14), .ref ((vX X).2.2.2.2.2 + 15), .int 0, .int 0, .int 0, .null, .null, .null, .null, .long 0, .long 0]) := by rw [← hC9, cup_same] <;> rfl
  have f13 : C9 13 = .inl ((vX X).2.2.1, 3, .inl (upd (upd (upd (fun _ => 0) (Int.toNat 0) (i32 3)) (Int.toNat 1) (i32 3)) (Int.toNat 2) (i32 2))) := by rw [← hC9, cup_ne _ (by decide)]; exact f13
  clear hC9
  refine bm_aload (i := 0) (t := 9) (pc := 39) G dX2_init_39 rfl rfl rfl (by decide) ?_
  refine bm_sipush (pc := 40) G dX2_init_40 (by decide) ?_
  refine bm_newl (pc := 43) G 289 dX2_init_43 (by decide) (hR.le (by decide) (by decide)) ?_
  generalize hC10 : cup C9 16 _ = C10
  have hF10 : ∀ j, 12 ≤ j → j ≠ 12 → j ≠ 13 → j < 17 → C10 j = cellE (vX X) M0 j := by
    intro j h0 q12 q13 h9
    rw [← hC10]
    by_cases h : j = 16
    · subst h; rw [cup_same]; exact (cellZ_l (vX X) (k := 16) (n := 289) rfl (by decide) (by decide)).symm
    · rw [cup_ne _ h]; exact hF9 j h0 q12 q13 (by omega)
  have hB10 : ∀ j, j < 12 → C10 j = C j := fun j hj => by rw [← hC10, cup_ne _ (by omega)]; exact hB9 j hj
  have f12 : C10 12 = .inr (2, [.ref ((vX X).2.2.2.2.2 + 13), .ref ((vX X).2.2.2.2.2 + 14), .ref ((vX X).2.2.2.2.2 + 15), .int 0, .int 0, .int 0, .null, .null, .null, .null, .long 0, .long 0]) := by rw [← hC10, cup_ne _ (by decide)]; exact f12
  have f13 : C10 13 = .inl ((vX X).2.2.1, 3, .inl (upd (upd (upd (fun _ => 0) (Int.toNat 0) (i32 3)) (Int.toNat 1) (i32 3)) (Int.toNat 2) (i32 2))) := by rw [← hC10, cup_ne _ (by decide)]; exact f13
  clear hC10
  refine bm_putR (t := 10286) (o := 12) (q := 16) (fs := [.ref ((vX X).2.2.2.2.2 + 13), .ref ((vX X).2.2.2.2.2 + 14), .ref ((vX X).2.2.2.2.2 + 15), .int 0, .int 0, .int 0, .null, .null, .null, .null, .long 0, .long 0]) (pc := 45) G hi 2 6 dX2_init_45 rfl inX2 tyX2_ok nmX2 (by decide) tw_f_RX2_21 rfl rfl rfl (by decide) f12 (Nat.le_of_ble_eq_true rfl) (fun _ => rfl) (fun _ => rfl) ?_
  generalize hC11 : cup C10 12 _ = C11
  have hF11 : ∀ j, 12 ≤ j → j ≠ 12 → j ≠ 13 → j < 17 → C11 j = cellE (vX X) M0 j := by
    intro j h0 q12 q13 h9
    rw [← hC11]
    rw [cup_ne _ q12]
    exact hF10 j h0 q12 q13 (by omega)
  have hB11 : ∀ j, j < 12 → C11 j = C j := fun j hj => by rw [← hC11, cup_ne _ (by omega)]; exact hB10 j hj
  have f12 : C11 12 = .inr (2, [.ref ((vX X).2.2.2.2.2 + 13), .ref ((vX X).2.2.2.2.2 + 14), .ref ((vX X).2.2.2.2.2 + 15), .int 0, .int 0, .int 0, .ref ((vX X).2.2.2.2.2 + 16), .null, .null, .null, .long 0, .long 0]) := by rw [← hC11, cup_same] <;> rfl
  have f13 : C11 13 = .inl ((vX X).2.2.1, 3, .inl (upd (upd (upd (fun _ => 0) (Int.toNat 0) (i32 3)) (Int.toNat 1) (i32 3)) (Int.toNat 2) (i32 2))) := by rw [← hC11, cup_ne _ (by decide)]; exact f13
  clear hC11
  refine bm_aload (i := 0) (t := 9) (pc := 48) G dX2_init_48 rfl rfl rfl (by decide) ?_
  refine bm_sipush (pc := 49) G dX2_init_49 (by decide) ?_
  refine bm_newl (pc := 52) G 289 dX2_init_52 (by decide) (hR.le (by decide) (by decide)) ?_
  generalize hC12 : cup C11 17 _ = C12
  have hF12 : ∀ j, 12 ≤ j → j ≠ 12 → j ≠ 13 → j < 18 → C12 j = cellE (vX X) M0 j := by
    intro j h0 q12 q13 h9
    rw [← hC12]
    by_cases h : j = 17
    · subst h; rw [cup_same]; exact (cellZ_l (vX X) (k := 17) (n := 289) rfl (by decide) (by decide)).symm
    · rw [cup_ne _ h]; exact hF11 j h0 q12 q13 (by omega)
  have hB12 : ∀ j, j < 12 → C12 j = C j := fun j hj => by rw [← hC12, cup_ne _ (by omega)]; exact hB11 j hj
  have f12 : C12 12 = .inr (2, [.ref ((vX X).2.2.2.2.2 + 13), .ref ((vX X).2.2.2.2.2 + 14), .ref ((vX X).2.2.2.2.2 + 15), .int 0, .int 0, .int 0, .ref ((vX X).2.2.2.2.2 + 16), .null, .null, .null, .long 0, .long 0]) := by rw [← hC12, cup_ne _ (by decide)]; exact f12
  have f13 : C12 13 = .inl ((vX X).2.2.1, 3, .inl (upd (upd (upd (fun _ => 0) (Int.toNat 0) (i32 3)) (Int.toNat 1) (i32 3)) (Int.toNat 2) (i32 2))) := by rw [← hC12, cup_ne _ (by decide)]; exact f13
  clear hC12
  refine bm_putR (t := 10286) (o := 12) (q := 17) (fs := [.ref ((vX X).2.2.2.2.2 + 13), .ref ((vX X).2.2.2.2.2 + 14), .ref ((vX X).2.2.2.2.2 + 15), .int 0, .int 0, .int 0, .ref ((vX X).2.2.2.2.2 + 16), .null, .null, .null, .long 0, .long 0]) (pc := 54) G hi 2 7 dX2_init_54 rfl inX2 tyX2_ok nmX2 (by decide) tw_f_RX2_25 rfl rfl rfl (by decide) f12 (Nat.le_of_ble_eq_true rfl) (fun _ => rfl) (fun _ => rfl) ?_
  generalize hC13 : cup C12 12 _ = C13
  have hF13 : ∀ j, 12 ≤ j → j ≠ 12 → j ≠ 13 → j < 18 → C13 j = cellE (vX X) M0 j := by
    intro j h0 q12 q13 h9
    rw [← hC13]
    rw [cup_ne _ q12]
    exact hF12 j h0 q12 q13 (by omega)
  have hB13 : ∀ j, j < 12 → C13 j = C j := fun j hj => by rw [← hC13, cup_ne _ (by omega)]; exact hB12 j hj
  have f12 : C13 12 = .inr (2, [.ref ((vX X).2.2.2.2.2 + 13), .ref ((vX X).2.2.2.2.2 + 14), .ref ((vX X).2.2.2.2.2 + 15), .int 0, .int 0, .int 0, .ref ((vX X).2.2.2.2.2 + 16), .ref ((vX X).2.2.2.2.2 + 17), .null, .null, .long 0, .long 0]) := by rw [← hC13, cup_same] <;> rfl
  have f13 : C13 13 = .inl ((vX X).2.2.1, 3, .inl (upd (upd (upd (fun _ => 0) (Int.toNat 0) (i32 3)) (Int.toNat 1) (i32 3)) (Int.toNat 2) (i32 2))) := by rw [← hC13, cup_ne _ (by decide)]; exact f13
  clear hC13
  refine bm_aload (i := 0) (t := 9) (pc := 57) G dX2_init_57 rfl rfl rfl (by decide) ?_
  refine bm_sipush (pc := 58) G dX2_init_58 (by decide) ?_
  refine bm_newl (pc := 61) G 289 dX2_init_61 (by decide) (hR.le (by decide) (by decide)) ?_
  generalize hC14 : cup C13 18 _ = C14
  have hF14 : ∀ j, 12 ≤ j → j ≠ 12 → j ≠ 13 → j < 19 → C14 j = cellE (vX X) M0 j := by
    intro j h0 q12 q13 h9
    rw [← hC14]
    by_cases h : j = 18
    · subst h; rw [cup_same]; exact (cellZ_l (vX X) (k := 18) (n := 289) rfl (by decide) (by decide)).symm
    · rw [cup_ne _ h]; exact hF13 j h0 q12 q13 (by omega)
  have hB14 : ∀ j, j < 12 → C14 j = C j := fun j hj => by rw [← hC14, cup_ne _ (by omega)]; exact hB13 j hj
  have f12 : C14 12 = .inr (2, [.ref ((vX X).2.2.2.2.2 + 13), .ref ((vX X).2.2.2.2.2 + 14), .ref ((vX X).2.2.2.2.2 + 15), .int 0, .int 0, .int 0, .ref ((vX X).2.2.2.2.2 + 16), .ref ((vX X).2.2.2.2.2 + 17), .null, .null, .long 0, .long 0]) := by rw [← hC14, cup_ne _ (by decide)]; exact f12
  have f13 : C14 13 = .inl ((vX X).2.2.1, 3, .inl (upd (upd (upd (fun _ => 0) (Int.toNat 0) (i32 3)) (Int.toNat 1) (i32 3)) (Int.toNat 2) (i32 2))) := by rw [← hC14, cup_ne _ (by decide)]; exact f13
  clear hC14
  refine bm_putR (t := 10286) (o := 12) (q := 18) (fs := [.ref ((vX X).2.2.2.2.2 + 13), .ref ((vX X).2.2.2.2.2 + 14), .ref ((vX X).2.2.2.2.2 + 15), .int 0, .int 0, .int 0, .ref ((vX X).2.2.2.2.2 + 16), .ref ((vX X).2.2.2.2.2 + 17), .null, .null, .long 0, .long 0]) (pc := 63) G hi 2 8 dX2_init_63 rfl inX2 tyX2_ok nmX2 (by decide) tw_f_RX2_28 rfl rfl rfl (by decide) f12 (Nat.le_of_ble_eq_true rfl) (fun _ => rfl) (fun _ => rfl) ?_
  generalize hC15 : cup C14 12 _ = C15
  have hF15 : ∀ j, 12 ≤ j → j ≠ 12 → j ≠ 13 → j < 19 → C15 j = cellE (vX X) M0 j := by
    intro j h0 q12 q13 h9
    rw [← hC15]
    rw [cup_ne _ q12]
    exact hF14 j h0 q12 q13 (by omega)
  have hB15 : ∀ j, j < 12 → C15 j = C j := fun j hj => by rw [← hC15, cup_ne _ (by omega)]; exact hB14 j hj
  have f12 : C15 12 = .inr (2, [.ref ((vX X).2.2.2.2.2 + 13), .ref ((vX X).2.2.2.2.2 + 14), .ref ((vX X).2.2.2.2.2 + 15), .int 0, .int 0, .int 0, .ref ((vX X).2.2.2.2.2 + 16), .ref ((vX X).2.2.2.2.2 + 17), .ref ((vX X).2.2.2.2.2 + 18), .null, .long 0, .long 0]) := by rw [← hC15, cup_same] <;> rfl
  have f13 : C15 13 = .inl ((vX X).2.2.1, 3, .inl (upd (upd (upd (fun _ => 0) (Int.toNat 0) (i32 3)) (Int.toNat 1) (i32 3)) (Int.toNat 2) (i32 2))) := by rw [← hC15, cup_ne _ (by decide)]; exact f13
  clear hC15
  refine bm_aload (i := 0) (t := 9) (pc := 66) G dX2_init_66 rfl rfl rfl (by decide) ?_
  refine bm_sipush (pc := 67) G dX2_init_67 (by decide) ?_
  refine bm_newl (pc := 70) G 289 dX2_init_70 (by decide) (hR.le (by decide) (by decide)) ?_
  generalize hC16 : cup C15 19 _ = C16
  have hF16 : ∀ j, 12 ≤ j → j ≠ 12 → j ≠ 13 → j < 20 → C16 j = cellE (vX X) M0 j := by
    intro j h0 q12 q13 h9
    rw [← hC16]
    by_cases h : j = 19
    · subst h; rw [cup_same]; exact (cellZ_l (vX X) (k := 19) (n := 289) rfl (by decide) (by decide)).symm
    · rw [cup_ne _ h]; exact hF15 j h0 q12 q13 (by omega)
  have hB16 : ∀ j, j < 12 → C16 j = C j := fun j hj => by rw [← hC16, cup_ne _ (by omega)]; exact hB15 j hj
  have f12 : C16 12 = .inr (2, [.ref ((vX X).2.2.2.2.2 + 13), .ref ((vX X).2.2.2.2.2 + 14), .ref ((vX X).2.2.2.2.2 + 15), .int 0, .int 0, .int 0, .ref ((vX X).2.2.2.2.2 + 16), .ref ((vX X).2.2.2.2.2 + 17), .ref ((vX X).2.2.2.2.2 + 18), .null, .long 0, .long 0]) := by rw [← hC16, cup_ne _ (by decide)]; exact f12
  have f13 : C16 13 = .inl ((vX X).2.2.1, 3, .inl (upd (upd (upd (fun _ => 0) (Int.toNat 0) (i32 3)) (Int.toNat 1) (i32 3)) (Int.toNat 2) (i32 2))) := by rw [← hC16, cup_ne _ (by decide)]; exact f13
  clear hC16
  refine bm_putR (t := 10286) (o := 12) (q := 19) (fs := [.ref ((vX X).2.2.2.2.2 + 13), .ref ((vX X).2.2.2.2.2 + 14), .ref ((vX X).2.2.2.2.2 + 15), .int 0, .int 0, .int 0, .ref ((vX X).2.2.2.2.2 + 16), .ref ((vX X).2.2.2.2.2 + 17), .ref ((vX X).2.2.2.2.2 + 18), .null, .long 0, .long 0]) (pc := 72) G hi 2 9 dX2_init_72 rfl inX2 tyX2_ok nmX2 (by decide) tw_f_RX2_31 rfl rfl rfl (by decide) f12 (Nat.le_of_ble_eq_true rfl) (fun _ => rfl) (fun _ => rfl) ?_
  generalize hC17 : cup C16 12 _ = C17
  have hF17 : ∀ j, 12 ≤ j → j ≠ 12 → j ≠ 13 → j < 20 → C17 j = cellE (vX X) M0 j := by
    intro j h0 q12 q13 h9
    rw [← hC17]
    rw [cup_ne _ q12]
    exact hF16 j h0 q12 q13 (by omega)
  have hB17 : ∀ j, j < 12 → C17 j = C j := fun j hj => by rw [← hC17, cup_ne _ (by omega)]; exact hB16 j hj
  have f12 : C17 12 = .inr (2, [.ref ((vX X).2.2.2.2.2 + 13), .ref ((vX X).2.2.2.2.2 + 14), .ref ((vX X).2.2.2.2.2 + 15), .int 0, .int 0, .int 0, .ref ((vX X).2.2.2.2.2 + 16), .ref ((vX X).2.2.2.2.2 + 17), .ref ((vX X).2.2.2.2.2 + 18), .ref ((vX X).2.2.2.2.2 + 19), .long 0, .long 0]) := by rw [← hC17, cup_same] <;> rfl
  have f13 : C17 13 = .inl ((vX X).2.2.1, 3, .inl (upd (upd (upd (fun _ => 0) (Int.toNat 0) (i32 3)) (Int.toNat 1) (i32 3)) (Int.toNat 2) (i32 2))) := by rw [← hC17, cup_ne _ (by decide)]; exact f13
  clear hC17
  refine bm_ret (pc := 75) G Z dX2_init_75 ?_
  refine hq C17 hB17 (fun j h0 h9 => ?_)
  by_cases hc12 : j = 12
  · subst hc12; rw [f12]; exact fin_12 (vX X)
  by_cases hc13 : j = 13
  · subst hc13; rw [f13]; exact fin_13 (vX X)
  exact hF17 j h0 hc12 hc13 h9
def rm_X3_init : Room := { frames := 1, cells := 4, slots := 64, locals := 20 }
theorem hy_X3_init : yX3_init.cls ≠ "java/lang/invoke/MethodHandle" ∧ yX3_init.cls ≠ "java/lang/invoke/VarHandle" ∧ (parseMethodDescriptor yX3_init.desc).map (fun d => d.parameters.length) = some 0 := by decide +kernel
theorem fin_20 (V : VV) : (.inr (3, [.int 0, .int 0, .ref (V.2.2.2.2.2 + 21), .ref (V.2.2.2.2.2 + 22), .ref (V.2.2.2.2.2 + 23), .ref (V.2.2.2.2.2 + 24)]) : va_E) = cellE V M0 20 := by
  rfl
set_option maxRecDepth 20000 in
set_option maxHeartbeats 2000000 in
theorem ctor_X3_init (V : VV) (C : Nat → va_E) (hC : C 20 = .inr (3, [.int 0, .int 0, .null, .null, .null, .null])) {Q : (Nat → va_E) → Nat → Prop} (hq : ∀ C', (∀ j, j < 20 → C' j = C j) → (∀ j, 20 ≤ j → j < 25 → C' j = cellE V M0 j) → Q C' 25) : RunsC V yX3_init (.code yX3_init cX3_init 1 none) rm_X3_init 4 64 [(13, ((20 : Nat) : Int))] C 21 Q := by
  refine metc_in (own := "TreeHands$Mover") (by decide +kernel) rfl rfl (Nat.le_of_ble_eq_true rfl) ?_
  intro X G Z hi hn hr hv
  subst hv
  have hR : roomC X 4 64 := by
    obtain ⟨V0, nL, p, e, R, s, m, args, below, meth, c, cells, slots, A, Q0⟩ := X
    have hr : R = rm_X3_init := hr
    subst hr
    exact ⟨Nat.le_of_ble_eq_true rfl, Nat.le_of_ble_eq_true rfl⟩
  show BW X 0 0 0 [(13, ((20 : Nat) : Int))] [] C 21
  have hF0 : ∀ j, 20 ≤ j → j ≠ 20 → j < 21 → C j = cellE (vX X) M0 j := fun j h1 h2 h3 => by omega
  have hB0 : ∀ j, j < 20 → C j = C j := fun _ _ => rfl
  have f20 := hC
  generalize hC0 : C = C0 at f20 hF0 ⊢
  have hB0 : ∀ j, j < 20 → C0 j = C j := fun j _ => by rw [hC0]
  clear hC0
  refine bm_aload (i := 0) (t := 10) (pc := 0) G dX3_init_0 rfl rfl rfl (by decide) ?_
  refine bm_obj (t := 10) (pc := 1) G dX3_init_1 tw_m_RX3_3 (by decide) (by rw [hr]; exact ⟨Nat.le_of_ble_eq_true rfl, Nat.le_of_ble_eq_true rfl⟩) rfl ?_
  refine bm_aload (i := 0) (t := 10) (pc := 4) G dX3_init_4 rfl rfl rfl (by decide) ?_
  refine bm_bipush (pc := 5) G dX3_init_5 (by decide) ?_
  refine bm_newi (pc := 7) G 16 dX3_init_7 (by decide) (hR.le (by decide) (by decide)) ?_
  generalize hC1 : cup C0 21 _ = C1
  have hF1 : ∀ j, 20 ≤ j → j ≠ 20 → j < 22 → C1 j = cellE (vX X) M0 j := by
    intro j h0 q20 h9
    rw [← hC1]
    by_cases h : j = 21
    · subst h; rw [cup_same]; exact (cellZ_i (vX X) (k := 21) (n := 16) rfl (by decide) (by decide)).symm
    · rw [cup_ne _ h]; exact hF0 j h0 q20 (by omega)
  have hB1 : ∀ j, j < 20 → C1 j = C j := fun j hj => by rw [← hC1, cup_ne _ (by omega)]; exact hB0 j hj
  have f20 : C1 20 = .inr (3, [.int 0, .int 0, .null, .null, .null, .null]) := by rw [← hC1, cup_ne _ (by decide)]; exact f20
  clear hC1
  refine bm_putR (t := 113) (o := 20) (q := 21) (fs := [.int 0, .int 0, .null, .null, .null, .null]) (pc := 9) G hi 3 2 dX3_init_9 rfl inX3 tyX3_ok nmX3 (by decide) tw_f_RX3_9 rfl rfl rfl (by decide) f20 (Nat.le_of_ble_eq_true rfl) (fun _ => rfl) (fun _ => rfl) ?_
  generalize hC2 : cup C1 20 _ = C2
  have hF2 : ∀ j, 20 ≤ j → j ≠ 20 → j < 22 → C2 j = cellE (vX X) M0 j := by
    intro j h0 q20 h9
    rw [← hC2]
    rw [cup_ne _ q20]
    exact hF1 j h0 q20 (by omega)
  have hB2 : ∀ j, j < 20 → C2 j = C j := fun j hj => by rw [← hC2, cup_ne _ (by omega)]; exact hB1 j hj
  have f20 : C2 20 = .inr (3, [.int 0, .int 0, .ref ((vX X).2.2.2.2.2 + 21), .null, .null, .null]) := by rw [← hC2, cup_same] <;> rfl
  clear hC2
  refine bm_aload (i := 0) (t := 10) (pc := 12) G dX3_init_12 rfl rfl rfl (by decide) ?_
  refine bm_bipush (pc := 13) G dX3_init_13 (by decide) ?_
  refine bm_newi (pc := 15) G 16 dX3_init_15 (by decide) (hR.le (by decide) (by decide)) ?_
  generalize hC3 : cup C2 22 _ = C3
  have hF3 : ∀ j, 20 ≤ j → j ≠ 20 → j < 23 → C3 j = cellE (vX X) M0 j := by
    intro j h0 q20 h9
    rw [← hC3]
    by_cases h : j = 22
    · subst h; rw [cup_same]; exact (cellZ_i (vX X) (k := 22) (n := 16) rfl (by decide) (by decide)).symm
    · rw [cup_ne _ h]; exact hF2 j h0 q20 (by omega)
  have hB3 : ∀ j, j < 20 → C3 j = C j := fun j hj => by rw [← hC3, cup_ne _ (by omega)]; exact hB2 j hj
  have f20 : C3 20 = .inr (3, [.int 0, .int 0, .ref ((vX X).2.2.2.2.2 + 21), .null, .null, .null]) := by rw [← hC3, cup_ne _ (by decide)]; exact f20
  clear hC3
  refine bm_putR (t := 113) (o := 20) (q := 22) (fs := [.int 0, .int 0, .ref ((vX X).2.2.2.2.2 + 21), .null, .null, .null]) (pc := 17) G hi 3 3 dX3_init_17 rfl inX3 tyX3_ok nmX3 (by decide) tw_f_RX3_15 rfl rfl rfl (by decide) f20 (Nat.le_of_ble_eq_true rfl) (fun _ => rfl) (fun _ => rfl) ?_
  generalize hC4 : cup C3 20 _ = C4
  have hF4 : ∀ j, 20 ≤ j → j ≠ 20 → j < 23 → C4 j = cellE (vX X) M0 j := by
    intro j h0 q20 h9
    rw [← hC4]
    rw [cup_ne _ q20]
    exact hF3 j h0 q20 (by omega)
  have hB4 : ∀ j, j < 20 → C4 j = C j := fun j hj => by rw [← hC4, cup_ne _ (by omega)]; exact hB3 j hj
  have f20 : C4 20 = .inr (3, [.int 0, .int 0, .ref ((vX X).2.2.2.2.2 + 21), .ref ((vX X).2.2.2.2.2 + 22), .null, .null]) := by rw [← hC4, cup_same] <;> rfl
  clear hC4
  refine bm_aload (i := 0) (t := 10) (pc := 20) G dX3_init_20 rfl rfl rfl (by decide) ?_
  refine bm_bipush (pc := 21) G dX3_init_21 (by decide) ?_
  refine bm_newi (pc := 23) G 16 dX3_init_23 (by decide) (hR.le (by decide) (by decide)) ?_
  generalize hC5 : cup C4 23 _ = C5
  have hF5 : ∀ j, 20 ≤ j → j ≠ 20 → j < 24 → C5 j = cellE (vX X) M0 j := by
    intro j h0 q20 h9
    rw [← hC5]
    by_cases h : j = 23
    · subst h; rw [cup_same]; exact (cellZ_i (vX X) (k := 23) (n := 16) rfl (by decide) (by decide)).symm
    · rw [cup_ne _ h]; exact hF4 j h0 q20 (by omega)
  have hB5 : ∀ j, j < 20 → C5 j = C j := fun j hj => by rw [← hC5, cup_ne _ (by omega)]; exact hB4 j hj
  have f20 : C5 20 = .inr (3, [.int 0, .int 0, .ref ((vX X).2.2.2.2.2 + 21), .ref ((vX X).2.2.2.2.2 + 22), .null, .null]) := by rw [← hC5, cup_ne _ (by decide)]; exact f20
  clear hC5
  refine bm_putR (t := 113) (o := 20) (q := 23) (fs := [.int 0, .int 0, .ref ((vX X).2.2.2.2.2 + 21), .ref ((vX X).2.2.2.2.2 + 22), .null, .null]) (pc := 25) G hi 3 4 dX3_init_25 rfl inX3 tyX3_ok nmX3 (by decide) tw_f_RX3_18 rfl rfl rfl (by decide) f20 (Nat.le_of_ble_eq_true rfl) (fun _ => rfl) (fun _ => rfl) ?_
  generalize hC6 : cup C5 20 _ = C6
  have hF6 : ∀ j, 20 ≤ j → j ≠ 20 → j < 24 → C6 j = cellE (vX X) M0 j := by
    intro j h0 q20 h9
    rw [← hC6]
    rw [cup_ne _ q20]
    exact hF5 j h0 q20 (by omega)
  have hB6 : ∀ j, j < 20 → C6 j = C j := fun j hj => by rw [← hC6, cup_ne _ (by omega)]; exact hB5 j hj
  have f20 : C6 20 = .inr (3, [.int 0, .int 0, .ref ((vX X).2.2.2.2.2 + 21), .ref ((vX X).2.2.2.2.2 + 22), .ref ((vX X).2.2.2.2.2 + 23), .null]) := by rw [← hC6, cup_same] <;> rfl
  clear hC6
  refine bm_aload (i := 0) (t := 10) (pc := 28) G dX3_init_28 rfl rfl rfl (by decide) ?_
  refine bm_bipush (pc := 29) G dX3_init_29 (by decide) ?_
  refine bm_newi (pc := 31) G 16 dX3_init_31 (by decide) (hR.le (by decide) (by decide)) ?_
  generalize hC7 : cup C6 24 _ = C7
  have hF7 : ∀ j, 20 ≤ j → j ≠ 20 → j < 25 → C7 j = cellE (vX X) M0 j := by
    intro j h0 q20 h9
    rw [← hC7]
    by_cases h : j = 24
    · subst h; rw [cup_same]; exact (cellZ_i (vX X) (k := 24) (n := 16) rfl (by decide) (by decide)).symm
    · rw [cup_ne _ h]; exact hF6 j h0 q20 (by omega)
  have hB7 : ∀ j, j < 20 → C7 j = C j := fun j hj => by rw [← hC7, cup_ne _ (by omega)]; exact hB6 j hj
  have f20 : C7 20 = .inr (3, [.int 0, .int 0, .ref ((vX X).2.2.2.2.2 + 21), .ref ((vX X).2.2.2.2.2 + 22), .ref ((vX X).2.2.2.2.2 + 23), .null]) := by rw [← hC7, cup_ne _ (by decide)]; exact f20
  clear hC7
  refine bm_putR (t := 113) (o := 20) (q := 24) (fs := [.int 0, .int 0, .ref ((vX X).2.2.2.2.2 + 21), .ref ((vX X).2.2.2.2.2 + 22), .ref ((vX X).2.2.2.2.2 + 23), .null]) (pc := 33) G hi 3 5 dX3_init_33 rfl inX3 tyX3_ok nmX3 (by decide) tw_f_RX3_21 rfl rfl rfl (by decide) f20 (Nat.le_of_ble_eq_true rfl) (fun _ => rfl) (fun _ => rfl) ?_
  generalize hC8 : cup C7 20 _ = C8
  have hF8 : ∀ j, 20 ≤ j → j ≠ 20 → j < 25 → C8 j = cellE (vX X) M0 j := by
    intro j h0 q20 h9
    rw [← hC8]
    rw [cup_ne _ q20]
    exact hF7 j h0 q20 (by omega)
  have hB8 : ∀ j, j < 20 → C8 j = C j := fun j hj => by rw [← hC8, cup_ne _ (by omega)]; exact hB7 j hj
  have f20 : C8 20 = .inr (3, [.int 0, .int 0, .ref ((vX X).2.2.2.2.2 + 21), .ref ((vX X).2.2.2.2.2 + 22), .ref ((vX X).2.2.2.2.2 + 23), .ref ((vX X).2.2.2.2.2 + 24)]) := by rw [← hC8, cup_same] <;> rfl
  clear hC8
  refine bm_ret (pc := 36) G Z dX3_init_36 ?_
  refine hq C8 hB8 (fun j h0 h9 => ?_)
  by_cases hc20 : j = 20
  · subst hc20; rw [f20]; exact fin_20 (vX X)
  exact hF8 j h0 hc20 h9
def rm_X0_init : Room := { frames := 1, cells := 2, slots := 16, locals := 20 }
theorem hy_X0_init : yX0_init.cls ≠ "java/lang/invoke/MethodHandle" ∧ yX0_init.cls ≠ "java/lang/invoke/VarHandle" ∧ (parseMethodDescriptor yX0_init.desc).map (fun d => d.parameters.length) = some 0 := by decide +kernel
theorem fin_25 (V : VV) : (.inr (0, [.int 0, .ref (V.2.2.2.2.2 + 26), .ref (V.2.2.2.2.2 + 27)]) : va_E) = cellE V M0 25 := by
  rfl
set_option maxRecDepth 20000 in
set_option maxHeartbeats 2000000 in
theorem ctor_X0_init (V : VV) (C : Nat → va_E) (hC : C 25 = .inr (0, [.int 0, .null, .null])) {Q : (Nat → va_E) → Nat → Prop} (hq : ∀ C', (∀ j, j < 25 → C' j = C j) → (∀ j, 25 ≤ j → j < 28 → C' j = cellE V M0 j) → Q C' 28) : RunsC V yX0_init (.code yX0_init cX0_init 1 none) rm_X0_init 2 16 [(10, ((25 : Nat) : Int))] C 26 Q := by
  refine metc_in (own := "TreeHands$Commoner") (by decide +kernel) rfl rfl (Nat.le_of_ble_eq_true rfl) ?_
  intro X G Z hi hn hr hv
  subst hv
  have hR : roomC X 2 16 := by
    obtain ⟨V0, nL, p, e, R, s, m, args, below, meth, c, cells, slots, A, Q0⟩ := X
    have hr : R = rm_X0_init := hr
    subst hr
    exact ⟨Nat.le_of_ble_eq_true rfl, Nat.le_of_ble_eq_true rfl⟩
  show BW X 0 0 0 [(10, ((25 : Nat) : Int))] [] C 26
  have hF0 : ∀ j, 25 ≤ j → j ≠ 25 → j < 26 → C j = cellE (vX X) M0 j := fun j h1 h2 h3 => by omega
  have hB0 : ∀ j, j < 25 → C j = C j := fun _ _ => rfl
  have f25 := hC
  generalize hC0 : C = C0 at f25 hF0 ⊢
  have hB0 : ∀ j, j < 25 → C0 j = C j := fun j _ => by rw [hC0]
  clear hC0
  refine bm_aload (i := 0) (t := 7) (pc := 0) G dX0_init_0 rfl rfl rfl (by decide) ?_
  refine bm_obj (t := 7) (pc := 1) G dX0_init_1 tw_m_RX0_3 (by decide) (by rw [hr]; exact ⟨Nat.le_of_ble_eq_true rfl, Nat.le_of_ble_eq_true rfl⟩) rfl ?_
  refine bm_aload (i := 0) (t := 7) (pc := 4) G dX0_init_4 rfl rfl rfl (by decide) ?_
  refine bm_bipush (pc := 5) G dX0_init_5 (by decide) ?_
  refine bm_newi (pc := 7) G 8 dX0_init_7 (by decide) (hR.le (by decide) (by decide)) ?_
  generalize hC1 : cup C0 26 _ = C1
  have hF1 : ∀ j, 25 ≤ j → j ≠ 25 → j < 27 → C1 j = cellE (vX X) M0 j := by
    intro j h0 q25 h9
    rw [← hC1]
    by_cases h : j = 26
    · subst h; rw [cup_same]; exact (cellZ_i (vX X) (k := 26) (n := 8) rfl (by decide) (by decide)).symm
    · rw [cup_ne _ h]; exact hF0 j h0 q25 (by omega)
  have hB1 : ∀ j, j < 25 → C1 j = C j := fun j hj => by rw [← hC1, cup_ne _ (by omega)]; exact hB0 j hj
  have f25 : C1 25 = .inr (0, [.int 0, .null, .null]) := by rw [← hC1, cup_ne _ (by decide)]; exact f25
  clear hC1
  refine bm_putR (t := 105) (o := 25) (q := 26) (fs := [.int 0, .null, .null]) (pc := 9) G hi 0 1 dX0_init_9 rfl inX0 tyX0_ok nmX0 (by decide) tw_f_RX0_9 rfl rfl rfl (by decide) f25 (Nat.le_of_ble_eq_true rfl) (fun _ => rfl) (fun _ => rfl) ?_
  generalize hC2 : cup C1 25 _ = C2
  have hF2 : ∀ j, 25 ≤ j → j ≠ 25 → j < 27 → C2 j = cellE (vX X) M0 j := by
    intro j h0 q25 h9
    rw [← hC2]
    rw [cup_ne _ q25]
    exact hF1 j h0 q25 (by omega)
  have hB2 : ∀ j, j < 25 → C2 j = C j := fun j hj => by rw [← hC2, cup_ne _ (by omega)]; exact hB1 j hj
  have f25 : C2 25 = .inr (0, [.int 0, .ref ((vX X).2.2.2.2.2 + 26), .null]) := by rw [← hC2, cup_same] <;> rfl
  clear hC2
  refine bm_aload (i := 0) (t := 7) (pc := 12) G dX0_init_12 rfl rfl rfl (by decide) ?_
  refine bm_bipush (pc := 13) G dX0_init_13 (by decide) ?_
  refine bm_newi (pc := 15) G 8 dX0_init_15 (by decide) (hR.le (by decide) (by decide)) ?_
  generalize hC3 : cup C2 27 _ = C3
  have hF3 : ∀ j, 25 ≤ j → j ≠ 25 → j < 28 → C3 j = cellE (vX X) M0 j := by
    intro j h0 q25 h9
    rw [← hC3]
    by_cases h : j = 27
    · subst h; rw [cup_same]; exact (cellZ_i (vX X) (k := 27) (n := 8) rfl (by decide) (by decide)).symm
    · rw [cup_ne _ h]; exact hF2 j h0 q25 (by omega)
  have hB3 : ∀ j, j < 25 → C3 j = C j := fun j hj => by rw [← hC3, cup_ne _ (by omega)]; exact hB2 j hj
  have f25 : C3 25 = .inr (0, [.int 0, .ref ((vX X).2.2.2.2.2 + 26), .null]) := by rw [← hC3, cup_ne _ (by decide)]; exact f25
  clear hC3
  refine bm_putR (t := 105) (o := 25) (q := 27) (fs := [.int 0, .ref ((vX X).2.2.2.2.2 + 26), .null]) (pc := 17) G hi 0 2 dX0_init_17 rfl inX0 tyX0_ok nmX0 (by decide) tw_f_RX0_15 rfl rfl rfl (by decide) f25 (Nat.le_of_ble_eq_true rfl) (fun _ => rfl) (fun _ => rfl) ?_
  generalize hC4 : cup C3 25 _ = C4
  have hF4 : ∀ j, 25 ≤ j → j ≠ 25 → j < 28 → C4 j = cellE (vX X) M0 j := by
    intro j h0 q25 h9
    rw [← hC4]
    rw [cup_ne _ q25]
    exact hF3 j h0 q25 (by omega)
  have hB4 : ∀ j, j < 25 → C4 j = C j := fun j hj => by rw [← hC4, cup_ne _ (by omega)]; exact hB3 j hj
  have f25 : C4 25 = .inr (0, [.int 0, .ref ((vX X).2.2.2.2.2 + 26), .ref ((vX X).2.2.2.2.2 + 27)]) := by rw [← hC4, cup_same] <;> rfl
  clear hC4
  refine bm_ret (pc := 20) G Z dX0_init_20 ?_
  refine hq C4 hB4 (fun j h0 h9 => ?_)
  by_cases hc25 : j = 25
  · subst hc25; rw [f25]; exact fin_25 (vX X)
  exact hF4 j h0 hc25 h9
def rm_X6_init : Room := { frames := 2, cells := 94, slots := 1359, locals := 40 }
theorem hy_X6_init : yX6_init.cls ≠ "java/lang/invoke/MethodHandle" ∧ yX6_init.cls ≠ "java/lang/invoke/VarHandle" ∧ (parseMethodDescriptor yX6_init.desc).map (fun d => d.parameters.length) = some 0 := by decide +kernel
theorem fin_28 (V : VV) : (.inr (6, [.int 0, .ref (V.2.2.2.2.2 + 29), .ref (V.2.2.2.2.2 + 30), .ref (V.2.2.2.2.2 + 31), .ref (V.2.2.2.2.2 + 32)]) : va_E) = cellE V M0 28 := by
  rfl
theorem fin_29 (V : VV) : (.inl (V.2.2.2.2.1, 6, .inr (.inr (.inr (.inr (va_up (va_up (va_up (va_up (va_up (va_up (fun _ => none) (Int.toNat 0) (some (V.2.2.2.2.2 + 39))) (Int.toNat 1) (some (V.2.2.2.2.2 + 53))) (Int.toNat 2) (some (V.2.2.2.2.2 + 67))) (Int.toNat 3) (some (V.2.2.2.2.2 + 81))) (Int.toNat 4) (some (V.2.2.2.2.2 + 95))) (Int.toNat 5) (some (V.2.2.2.2.2 + 109))))))) : va_E) = cellE V M0 29 := by
  rw [cellE_ta (by decide)]
  congr 7
  funext j
  match j with
  | 0 => rfl
  | 1 => rfl
  | 2 => rfl
  | 3 => rfl
  | 4 => rfl
  | 5 => rfl
  | j + 6 =>
    rw [if_neg (by show ¬ j + 6 < 6; omega)]
    rfl
theorem fin_30 (V : VV) : (.inl (V.2.2.2.2.1, 6, .inr (.inr (.inr (.inr (va_up (va_up (va_up (va_up (va_up (va_up (fun _ => none) (Int.toNat 0) (some (V.2.2.2.2.2 + 46))) (Int.toNat 1) (some (V.2.2.2.2.2 + 60))) (Int.toNat 2) (some (V.2.2.2.2.2 + 74))) (Int.toNat 3) (some (V.2.2.2.2.2 + 88))) (Int.toNat 4) (some (V.2.2.2.2.2 + 102))) (Int.toNat 5) (some (V.2.2.2.2.2 + 116))))))) : va_E) = cellE V M0 30 := by
  rw [cellE_ta (by decide)]
  congr 7
  funext j
  match j with
  | 0 => rfl
  | 1 => rfl
  | 2 => rfl
  | 3 => rfl
  | 4 => rfl
  | 5 => rfl
  | j + 6 =>
    rw [if_neg (by show ¬ j + 6 < 6; omega)]
    rfl
set_option maxRecDepth 20000 in
set_option maxHeartbeats 2000000 in
theorem ctor_X6_init (V : VV) (C : Nat → va_E) (hC : C 28 = .inr (6, [.int 0, .null, .null, .null, .null])) {Q : (Nat → va_E) → Nat → Prop} (hq : ∀ C', (∀ j, j < 28 → C' j = C j) → (∀ j, 28 ≤ j → j < 123 → C' j = cellE V M0 j) → Q C' 123) : RunsC V yX6_init (.code yX6_init cX6_init 2 none) rm_X6_init 94 1359 [(16, ((28 : Nat) : Int))] C 29 Q := by
  refine metc_in (own := "TreeHands$Rules") (by decide +kernel) rfl rfl (Nat.le_of_ble_eq_true rfl) ?_
  intro X G Z hi hn hr hv
  subst hv
  have hR : roomC X 94 1359 := by
    obtain ⟨V0, nL, p, e, R, s, m, args, below, meth, c, cells, slots, A, Q0⟩ := X
    have hr : R = rm_X6_init := hr
    subst hr
    exact ⟨Nat.le_of_ble_eq_true rfl, Nat.le_of_ble_eq_true rfl⟩
  show BW X 0 0 0 [(16, ((28 : Nat) : Int)), (99, 0)] [] C 29
  have hF0 : ∀ j, 28 ≤ j → j ≠ 28 → j < 29 → C j = cellE (vX X) M0 j := fun j h1 h2 h3 => by omega
  have hB0 : ∀ j, j < 28 → C j = C j := fun _ _ => rfl
  have f28 := hC
  generalize hC0 : C = C0 at f28 hF0 ⊢
  have hB0 : ∀ j, j < 28 → C0 j = C j := fun j _ => by rw [hC0]
  clear hC0
  refine bm_aload (i := 0) (t := 13) (pc := 0) G dX6_init_0 rfl rfl rfl (by decide) ?_
  refine bm_obj (t := 13) (pc := 1) G dX6_init_1 tw_m_RX6_3 (by decide) (by rw [hr]; exact ⟨Nat.le_of_ble_eq_true rfl, Nat.le_of_ble_eq_true rfl⟩) rfl ?_
  refine bm_aload (i := 0) (t := 13) (pc := 4) G dX6_init_4 rfl rfl rfl (by decide) ?_
  refine bm_bipush (pc := 5) G dX6_init_5 (by decide) ?_
  refine bm_newt (t := 19999) (pc := 7) G 6 dX6_init_7 tw_l_RX6_9 (by decide) (hR.le (by decide) (by decide)) ?_
  generalize hC1 : cup C0 29 _ = C1
  have hF1 : ∀ j, 28 ≤ j → j ≠ 28 → j ≠ 29 → j < 30 → C1 j = cellE (vX X) M0 j := by
    intro j h0 q28 q29 h9
    rw [← hC1]
    rw [cup_ne _ q29]
    exact hF0 j h0 q28 (by omega)
  have hB1 : ∀ j, j < 28 → C1 j = C j := fun j hj => by rw [← hC1, cup_ne _ (by omega)]; exact hB0 j hj
  have f28 : C1 28 = .inr (6, [.int 0, .null, .null, .null, .null]) := by rw [← hC1, cup_ne _ (by decide)]; exact f28
  have f29 : C1 29 = .inl ((vX X).2.2.2.2.1, 6, .inr (.inr (.inr (.inr (fun _ => none))))) := by rw [← hC1, cup_same] <;> rfl
  clear hC1
  refine bm_putR (t := 19999) (o := 28) (q := 29) (fs := [.int 0, .null, .null, .null, .null]) (pc := 10) G hi 6 1 dX6_init_10 rfl inX6 tyX6_ok nmX6 (by decide) tw_f_RX6_11 rfl rfl rfl (by decide) f28 (Nat.le_of_ble_eq_true rfl) (fun _ => rfl) (fun _ => rfl) ?_
  generalize hC2 : cup C1 28 _ = C2
  have hF2 : ∀ j, 28 ≤ j → j ≠ 28 → j ≠ 29 → j < 30 → C2 j = cellE (vX X) M0 j := by
    intro j h0 q28 q29 h9
    rw [← hC2]
    rw [cup_ne _ q28]
    exact hF1 j h0 q28 q29 (by omega)
  have hB2 : ∀ j, j < 28 → C2 j = C j := fun j hj => by rw [← hC2, cup_ne _ (by omega)]; exact hB1 j hj
  have f28 : C2 28 = .inr (6, [.int 0, .ref ((vX X).2.2.2.2.2 + 29), .null, .null, .null]) := by rw [← hC2, cup_same] <;> rfl
  have f29 : C2 29 = .inl ((vX X).2.2.2.2.1, 6, .inr (.inr (.inr (.inr (fun _ => none))))) := by rw [← hC2, cup_ne _ (by decide)]; exact f29
  clear hC2
  refine bm_aload (i := 0) (t := 13) (pc := 13) G dX6_init_13 rfl rfl rfl (by decide) ?_
  refine bm_bipush (pc := 14) G dX6_init_14 (by decide) ?_
  refine bm_newt (t := 20000) (pc := 16) G 6 dX6_init_16 tw_l_RX6_9 (by decide) (hR.le (by decide) (by decide)) ?_
  generalize hC3 : cup C2 30 _ = C3
  have hF3 : ∀ j, 28 ≤ j → j ≠ 28 → j ≠ 29 → j ≠ 30 → j < 31 → C3 j = cellE (vX X) M0 j := by
    intro j h0 q28 q29 q30 h9
    rw [← hC3]
    rw [cup_ne _ q30]
    exact hF2 j h0 q28 q29 (by omega)
  have hB3 : ∀ j, j < 28 → C3 j = C j := fun j hj => by rw [← hC3, cup_ne _ (by omega)]; exact hB2 j hj
  have f28 : C3 28 = .inr (6, [.int 0, .ref ((vX X).2.2.2.2.2 + 29), .null, .null, .null]) := by rw [← hC3, cup_ne _ (by decide)]; exact f28
  have f29 : C3 29 = .inl ((vX X).2.2.2.2.1, 6, .inr (.inr (.inr (.inr (fun _ => none))))) := by rw [← hC3, cup_ne _ (by decide)]; exact f29
  have f30 : C3 30 = .inl ((vX X).2.2.2.2.1, 6, .inr (.inr (.inr (.inr (fun _ => none))))) := by rw [← hC3, cup_same] <;> rfl
  clear hC3
  refine bm_putR (t := 20000) (o := 28) (q := 30) (fs := [.int 0, .ref ((vX X).2.2.2.2.2 + 29), .null, .null, .null]) (pc := 19) G hi 6 2 dX6_init_19 rfl inX6 tyX6_ok nmX6 (by decide) tw_f_RX6_17 rfl rfl rfl (by decide) f28 (Nat.le_of_ble_eq_true rfl) (fun _ => rfl) (fun _ => rfl) ?_
  generalize hC4 : cup C3 28 _ = C4
  have hF4 : ∀ j, 28 ≤ j → j ≠ 28 → j ≠ 29 → j ≠ 30 → j < 31 → C4 j = cellE (vX X) M0 j := by
    intro j h0 q28 q29 q30 h9
    rw [← hC4]
    rw [cup_ne _ q28]
    exact hF3 j h0 q28 q29 q30 (by omega)
  have hB4 : ∀ j, j < 28 → C4 j = C j := fun j hj => by rw [← hC4, cup_ne _ (by omega)]; exact hB3 j hj
  have f28 : C4 28 = .inr (6, [.int 0, .ref ((vX X).2.2.2.2.2 + 29), .ref ((vX X).2.2.2.2.2 + 30), .null, .null]) := by rw [← hC4, cup_same] <;> rfl
  have f29 : C4 29 = .inl ((vX X).2.2.2.2.1, 6, .inr (.inr (.inr (.inr (fun _ => none))))) := by rw [← hC4, cup_ne _ (by decide)]; exact f29
  have f30 : C4 30 = .inl ((vX X).2.2.2.2.1, 6, .inr (.inr (.inr (.inr (fun _ => none))))) := by rw [← hC4, cup_ne _ (by decide)]; exact f30
  clear hC4
  refine bm_aload (i := 0) (t := 13) (pc := 22) G dX6_init_22 rfl rfl rfl (by decide) ?_
  refine bm_bipush (pc := 23) G dX6_init_23 (by decide) ?_
  refine bm_newi (pc := 25) G 8 dX6_init_25 (by decide) (hR.le (by decide) (by decide)) ?_
  generalize hC5 : cup C4 31 _ = C5
  have hF5 : ∀ j, 28 ≤ j → j ≠ 28 → j ≠ 29 → j ≠ 30 → j < 32 → C5 j = cellE (vX X) M0 j := by
    intro j h0 q28 q29 q30 h9
    rw [← hC5]
    by_cases h : j = 31
    · subst h; rw [cup_same]; exact (cellZ_i (vX X) (k := 31) (n := 8) rfl (by decide) (by decide)).symm
    · rw [cup_ne _ h]; exact hF4 j h0 q28 q29 q30 (by omega)
  have hB5 : ∀ j, j < 28 → C5 j = C j := fun j hj => by rw [← hC5, cup_ne _ (by omega)]; exact hB4 j hj
  have f28 : C5 28 = .inr (6, [.int 0, .ref ((vX X).2.2.2.2.2 + 29), .ref ((vX X).2.2.2.2.2 + 30), .null, .null]) := by rw [← hC5, cup_ne _ (by decide)]; exact f28
  have f29 : C5 29 = .inl ((vX X).2.2.2.2.1, 6, .inr (.inr (.inr (.inr (fun _ => none))))) := by rw [← hC5, cup_ne _ (by decide)]; exact f29
  have f30 : C5 30 = .inl ((vX X).2.2.2.2.1, 6, .inr (.inr (.inr (.inr (fun _ => none))))) := by rw [← hC5, cup_ne _ (by decide)]; exact f30
  clear hC5
  refine bm_putR (t := 105) (o := 28) (q := 31) (fs := [.int 0, .ref ((vX X).2.2.2.2.2 + 29), .ref ((vX X).2.2.2.2.2 + 30), .null, .null]) (pc := 27) G hi 6 3 dX6_init_27 rfl inX6 tyX6_ok nmX6 (by decide) tw_f_RX6_20 rfl rfl rfl (by decide) f28 (Nat.le_of_ble_eq_true rfl) (fun _ => rfl) (fun _ => rfl) ?_
  generalize hC6 : cup C5 28 _ = C6
  have hF6 : ∀ j, 28 ≤ j → j ≠ 28 → j ≠ 29 → j ≠ 30 → j < 32 → C6 j = cellE (vX X) M0 j := by
    intro j h0 q28 q29 q30 h9
    rw [← hC6]
    rw [cup_ne _ q28]
    exact hF5 j h0 q28 q29 q30 (by omega)
  have hB6 : ∀ j, j < 28 → C6 j = C j := fun j hj => by rw [← hC6, cup_ne _ (by omega)]; exact hB5 j hj
  have f28 : C6 28 = .inr (6, [.int 0, .ref ((vX X).2.2.2.2.2 + 29), .ref ((vX X).2.2.2.2.2 + 30), .ref ((vX X).2.2.2.2.2 + 31), .null]) := by rw [← hC6, cup_same] <;> rfl
  have f29 : C6 29 = .inl ((vX X).2.2.2.2.1, 6, .inr (.inr (.inr (.inr (fun _ => none))))) := by rw [← hC6, cup_ne _ (by decide)]; exact f29
  have f30 : C6 30 = .inl ((vX X).2.2.2.2.1, 6, .inr (.inr (.inr (.inr (fun _ => none))))) := by rw [← hC6, cup_ne _ (by decide)]; exact f30
  clear hC6
  refine bm_aload (i := 0) (t := 13) (pc := 30) G dX6_init_30 rfl rfl rfl (by decide) ?_
  refine bm_new (fs := [.int 0, .null, .null, .null, .null, .null, .null]) (pc := 31) G 7 tyX7 dX6_init_31 rfl inX7 tyX7_ok (by decide) tw_l_RX6_9 tw_x_RX7 tw_z_RX7 (hR.le (by decide) (by decide)) ?_
  generalize hC7 : cup C6 32 _ = C7
  have hF7 : ∀ j, 28 ≤ j → j ≠ 28 → j ≠ 29 → j ≠ 30 → j ≠ 32 → j < 33 → C7 j = cellE (vX X) M0 j := by
    intro j h0 q28 q29 q30 q32 h9
    rw [← hC7]
    rw [cup_ne _ q32]
    exact hF6 j h0 q28 q29 q30 (by omega)
  have hB7 : ∀ j, j < 28 → C7 j = C j := fun j hj => by rw [← hC7, cup_ne _ (by omega)]; exact hB6 j hj
  have f28 : C7 28 = .inr (6, [.int 0, .ref ((vX X).2.2.2.2.2 + 29), .ref ((vX X).2.2.2.2.2 + 30), .ref ((vX X).2.2.2.2.2 + 31), .null]) := by rw [← hC7, cup_ne _ (by decide)]; exact f28
  have f29 : C7 29 = .inl ((vX X).2.2.2.2.1, 6, .inr (.inr (.inr (.inr (fun _ => none))))) := by rw [← hC7, cup_ne _ (by decide)]; exact f29
  have f30 : C7 30 = .inl ((vX X).2.2.2.2.1, 6, .inr (.inr (.inr (.inr (fun _ => none))))) := by rw [← hC7, cup_ne _ (by decide)]; exact f30
  have f32 : C7 32 = .inr (7, [.int 0, .null, .null, .null, .null, .null, .null]) := by rw [← hC7, cup_same] <;> rfl
  clear hC7
  refine bm_dup (pc := 34) G dX6_init_34 (Nat.ne_of_beq_eq_false rfl) ?_
  refine bm_callN (t := 14) (nc := 6) (ns := 96) (st := [(17, _), (16, _)]) (rmc := rm_X7_init) (pc := 35) G [] rfl dX6_init_35 (by decide) tw_n_RX6_24 tw_i_X7_init tw_z_RX7 tw_c_X7_init hy_X7_init (by rw [hr]; exact ⟨rfl, rfl, Nat.le_of_ble_eq_true rfl, Nat.le_of_ble_eq_true rfl⟩) rfl (hR.le (by decide) (by decide)) ?_
  refine ctor_T (vX X) 32 (by decide) _ f32 (fun C8 hL hN => ?_)
  show BW X 10 123 38 _ [(17, _), (16, _)] C8 39
  have hF8 : ∀ j, 28 ≤ j → j ≠ 28 → j ≠ 29 → j ≠ 30 → j < 39 → C8 j = cellE (vX X) M0 j := by
    intro j h0 q28 q29 q30 h9
    by_cases h : j < 32
    · rw [hL j h]; exact hF7 j h0 q28 q29 q30 (by omega) (by omega)
    · exact hN j (by omega) h9
  have hB8 : ∀ j, j < 28 → C8 j = C j := fun j hj => by rw [hL j (by omega)]; exact hB7 j hj
  have f28 : C8 28 = .inr (6, [.int 0, .ref ((vX X).2.2.2.2.2 + 29), .ref ((vX X).2.2.2.2.2 + 30), .ref ((vX X).2.2.2.2.2 + 31), .null]) := by rw [hL 28 (by decide)]; exact f28
  have f29 : C8 29 = .inl ((vX X).2.2.2.2.1, 6, .inr (.inr (.inr (.inr (fun _ => none))))) := by rw [hL 29 (by decide)]; exact f29
  have f30 : C8 30 = .inl ((vX X).2.2.2.2.1, 6, .inr (.inr (.inr (.inr (fun _ => none))))) := by rw [hL 30 (by decide)]; exact f30
  have e32 : C8 32 = .inr (7, _) := (hF8 32 (by decide) (by decide) (by decide) (by decide) (by decide)).trans (tree_fin (vX X) (k := 32) (by decide) 0 (by decide))
  clear hL hN
  refine bm_putR (t := 14) (o := 28) (q := 32) (fs := [.int 0, .ref ((vX X).2.2.2.2.2 + 29), .ref ((vX X).2.2.2.2.2 + 30), .ref ((vX X).2.2.2.2.2 + 31), .null]) (pc := 38) G hi 6 4 dX6_init_38 rfl inX6 tyX6_ok nmX6 (by decide) tw_f_RX6_25 rfl rfl rfl (by decide) f28 (Nat.le_of_ble_eq_true rfl) (fun _ => rfl) (fun _ => rfl) ?_
  generalize hC9 : cup C8 28 _ = C9
  have hF9 : ∀ j, 28 ≤ j → j ≠ 28 → j ≠ 29 → j ≠ 30 → j < 39 → C9 j = cellE (vX X) M0 j := by
    intro j h0 q28 q29 q30 h9
    rw [← hC9]
    rw [cup_ne _ q28]
    exact hF8 j h0 q28 q29 q30 (by omega)
  have hB9 : ∀ j, j < 28 → C9 j = C j := fun j hj => by rw [← hC9, cup_ne _ (by omega)]; exact hB8 j hj
  have f28 : C9 28 = .inr (6, [.int 0, .ref ((vX X).2.2.2.2.2 + 29), .ref ((vX X).2.2.2.2.2 + 30), .ref ((vX X).2.2.2.2.2 + 31), .ref ((vX X).2.2.2.2.2 + 32)]) := by rw [← hC9, cup_same] <;> rfl
  have f29 : C9 29 = .inl ((vX X).2.2.2.2.1, 6, .inr (.inr (.inr (.inr (fun _ => none))))) := by rw [← hC9, cup_ne _ (by decide)]; exact f29
  have f30 : C9 30 = .inl ((vX X).2.2.2.2.1, 6, .inr (.inr (.inr (.inr (fun _ => none))))) := by rw [← hC9, cup_ne _ (by decide)]; exact f30
  clear hC9
  refine bm_iconst (pc := 41) G dX6_init_41 ?_
  refine bm_istore (pc := 42) G dX6_init_42 rfl (nlx hn rfl) rfl ?_
  refine bm_iload (i := 1) (pc := 43) (ls := [(16, _), (0, _)]) G dX6_init_43 rfl rfl ?_
  refine bm_bipush (pc := 44) G dX6_init_44 (by decide) ?_
  refine bm_gen (pc := 46) G 81 dX6_init_46 (by decide) (by decide) ?_
  refine bm_aload (i := 0) (t := 13) (pc := 49) G dX6_init_49 rfl rfl rfl (by decide) ?_
  refine bm_getr (t := 19999) (o := 28) (q := 29) (fs := [.int 0, .ref ((vX X).2.2.2.2.2 + 29), .ref ((vX X).2.2.2.2.2 + 30), .ref ((vX X).2.2.2.2.2 + 31), .ref ((vX X).2.2.2.2.2 + 32)]) (pc := 50) G 6 1 dX6_init_50 rfl inX6 (by decide) tw_f_RX6_11 rfl (by decide) f28 rfl ?_
  refine bm_iload (i := 1) (pc := 53) G dX6_init_53 rfl rfl ?_
  refine bm_new (fs := [.int 0, .null, .null, .null, .null, .null, .null]) (pc := 54) G 7 tyX7 dX6_init_54 rfl inX7 tyX7_ok (by decide) tw_l_RX6_9 tw_x_RX7 tw_z_RX7 (hR.le (by decide) (by decide)) ?_
  generalize hC10 : cup C9 39 _ = C10
  have hF10 : ∀ j, 28 ≤ j → j ≠ 28 → j ≠ 29 → j ≠ 30 → j ≠ 39 → j < 40 → C10 j = cellE (vX X) M0 j := by
    intro j h0 q28 q29 q30 q39 h9
    rw [← hC10]
    rw [cup_ne _ q39]
    exact hF9 j h0 q28 q29 q30 (by omega)
  have hB10 : ∀ j, j < 28 → C10 j = C j := fun j hj => by rw [← hC10, cup_ne _ (by omega)]; exact hB9 j hj
  have f28 : C10 28 = .inr (6, [.int 0, .ref ((vX X).2.2.2.2.2 + 29), .ref ((vX X).2.2.2.2.2 + 30), .ref ((vX X).2.2.2.2.2 + 31), .ref ((vX X).2.2.2.2.2 + 32)]) := by rw [← hC10, cup_ne _ (by decide)]; exact f28
  have f29 : C10 29 = .inl ((vX X).2.2.2.2.1, 6, .inr (.inr (.inr (.inr (fun _ => none))))) := by rw [← hC10, cup_ne _ (by decide)]; exact f29
  have f30 : C10 30 = .inl ((vX X).2.2.2.2.1, 6, .inr (.inr (.inr (.inr (fun _ => none))))) := by rw [← hC10, cup_ne _ (by decide)]; exact f30
  have f39 : C10 39 = .inr (7, [.int 0, .null, .null, .null, .null, .null, .null]) := by rw [← hC10, cup_same] <;> rfl
  clear hC10
  refine bm_dup (pc := 57) G dX6_init_57 (Nat.ne_of_beq_eq_false rfl) ?_
  refine bm_callN (t := 14) (nc := 6) (ns := 96) (st := [(17, _), (0, _), (20002, _)]) (rmc := rm_X7_init) (pc := 58) G [] rfl dX6_init_58 (by decide) tw_n_RX6_24 tw_i_X7_init tw_z_RX7 tw_c_X7_init hy_X7_init (by rw [hr]; exact ⟨rfl, rfl, Nat.le_of_ble_eq_true rfl, Nat.le_of_ble_eq_true rfl⟩) rfl (hR.le (by decide) (by decide)) ?_
  refine ctor_T (vX X) 39 (by decide) _ f39 (fun C11 hL hN => ?_)
  show BW X 17 226 61 _ [(17, _), (0, _), (20002, _)] C11 46
  have hF11 : ∀ j, 28 ≤ j → j ≠ 28 → j ≠ 29 → j ≠ 30 → j < 46 → C11 j = cellE (vX X) M0 j := by
    intro j h0 q28 q29 q30 h9
    by_cases h : j < 39
    · rw [hL j h]; exact hF10 j h0 q28 q29 q30 (by omega) (by omega)
    · exact hN j (by omega) h9
  have hB11 : ∀ j, j < 28 → C11 j = C j := fun j hj => by rw [hL j (by omega)]; exact hB10 j hj
  have f28 : C11 28 = .inr (6, [.int 0, .ref ((vX X).2.2.2.2.2 + 29), .ref ((vX X).2.2.2.2.2 + 30), .ref ((vX X).2.2.2.2.2 + 31), .ref ((vX X).2.2.2.2.2 + 32)]) := by rw [hL 28 (by decide)]; exact f28
  have f29 : C11 29 = .inl ((vX X).2.2.2.2.1, 6, .inr (.inr (.inr (.inr (fun _ => none))))) := by rw [hL 29 (by decide)]; exact f29
  have f30 : C11 30 = .inl ((vX X).2.2.2.2.1, 6, .inr (.inr (.inr (.inr (fun _ => none))))) := by rw [hL 30 (by decide)]; exact f30
  have e39 : C11 39 = .inr (7, _) := (hF11 39 (by decide) (by decide) (by decide) (by decide) (by decide)).trans (tree_fin (vX X) (k := 39) (by decide) 0 (by decide))
  clear hL hN
  refine bm_aast (t := 19999) (o := 29) (N := 6) (q := 39) (pc := 61) G 7 dX6_init_61 (by decide) f29 (by decide) (e39) rfl rfl (by decide) (by decide) ?_
  generalize hC12 : cup C11 29 _ = C12
  have hF12 : ∀ j, 28 ≤ j → j ≠ 28 → j ≠ 29 → j ≠ 30 → j < 46 → C12 j = cellE (vX X) M0 j := by
    intro j h0 q28 q29 q30 h9
    rw [← hC12]
    rw [cup_ne _ q29]
    exact hF11 j h0 q28 q29 q30 (by omega)
  have hB12 : ∀ j, j < 28 → C12 j = C j := fun j hj => by rw [← hC12, cup_ne _ (by omega)]; exact hB11 j hj
  have f28 : C12 28 = .inr (6, [.int 0, .ref ((vX X).2.2.2.2.2 + 29), .ref ((vX X).2.2.2.2.2 + 30), .ref ((vX X).2.2.2.2.2 + 31), .ref ((vX X).2.2.2.2.2 + 32)]) := by rw [← hC12, cup_ne _ (by decide)]; exact f28
  have f29 : C12 29 = .inl ((vX X).2.2.2.2.1, 6, .inr (.inr (.inr (.inr (va_up (fun _ => none) (Int.toNat 0) (some ((vX X).2.2.2.2.2 + 39))))))) := by rw [← hC12, cup_same] <;> rfl
  have f30 : C12 30 = .inl ((vX X).2.2.2.2.1, 6, .inr (.inr (.inr (.inr (fun _ => none))))) := by rw [← hC12, cup_ne _ (by decide)]; exact f30
  clear hC12
  refine bm_aload (i := 0) (t := 13) (pc := 62) G dX6_init_62 rfl rfl rfl (by decide) ?_
  refine bm_getr (t := 20000) (o := 28) (q := 30) (fs := [.int 0, .ref ((vX X).2.2.2.2.2 + 29), .ref ((vX X).2.2.2.2.2 + 30), .ref ((vX X).2.2.2.2.2 + 31), .ref ((vX X).2.2.2.2.2 + 32)]) (pc := 63) G 6 2 dX6_init_63 rfl inX6 (by decide) tw_f_RX6_17 rfl (by decide) f28 rfl ?_
  refine bm_iload (i := 1) (pc := 66) G dX6_init_66 rfl rfl ?_
  refine bm_new (fs := [.int 0, .null, .null, .null, .null, .null, .null]) (pc := 67) G 7 tyX7 dX6_init_67 rfl inX7 tyX7_ok (by decide) tw_l_RX6_9 tw_x_RX7 tw_z_RX7 (hR.le (by decide) (by decide)) ?_
  generalize hC13 : cup C12 46 _ = C13
  have hF13 : ∀ j, 28 ≤ j → j ≠ 28 → j ≠ 29 → j ≠ 30 → j ≠ 46 → j < 47 → C13 j = cellE (vX X) M0 j := by
    intro j h0 q28 q29 q30 q46 h9
    rw [← hC13]
    rw [cup_ne _ q46]
    exact hF12 j h0 q28 q29 q30 (by omega)
  have hB13 : ∀ j, j < 28 → C13 j = C j := fun j hj => by rw [← hC13, cup_ne _ (by omega)]; exact hB12 j hj
  have f28 : C13 28 = .inr (6, [.int 0, .ref ((vX X).2.2.2.2.2 + 29), .ref ((vX X).2.2.2.2.2 + 30), .ref ((vX X).2.2.2.2.2 + 31), .ref ((vX X).2.2.2.2.2 + 32)]) := by rw [← hC13, cup_ne _ (by decide)]; exact f28
  have f29 : C13 29 = .inl ((vX X).2.2.2.2.1, 6, .inr (.inr (.inr (.inr (va_up (fun _ => none) (Int.toNat 0) (some ((vX X).2.2.2.2.2 + 39))))))) := by rw [← hC13, cup_ne _ (by decide)]; exact f29
  have f30 : C13 30 = .inl ((vX X).2.2.2.2.1, 6, .inr (.inr (.inr (.inr (fun _ => none))))) := by rw [← hC13, cup_ne _ (by decide)]; exact f30
  have f46 : C13 46 = .inr (7, [.int 0, .null, .null, .null, .null, .null, .null]) := by rw [← hC13, cup_same] <;> rfl
  clear hC13
  refine bm_dup (pc := 70) G dX6_init_70 (Nat.ne_of_beq_eq_false rfl) ?_
  refine bm_callN (t := 14) (nc := 6) (ns := 96) (st := [(17, _), (0, _), (20003, _)]) (rmc := rm_X7_init) (pc := 71) G [] rfl dX6_init_71 (by decide) tw_n_RX6_24 tw_i_X7_init tw_z_RX7 tw_c_X7_init hy_X7_init (by rw [hr]; exact ⟨rfl, rfl, Nat.le_of_ble_eq_true rfl, Nat.le_of_ble_eq_true rfl⟩) rfl (hR.le (by decide) (by decide)) ?_
  refine ctor_T (vX X) 46 (by decide) _ f46 (fun C14 hL hN => ?_)
  show BW X 24 329 74 _ [(17, _), (0, _), (20003, _)] C14 53
  have hF14 : ∀ j, 28 ≤ j → j ≠ 28 → j ≠ 29 → j ≠ 30 → j < 53 → C14 j = cellE (vX X) M0 j := by
    intro j h0 q28 q29 q30 h9
    by_cases h : j < 46
    · rw [hL j h]; exact hF13 j h0 q28 q29 q30 (by omega) (by omega)
    · exact hN j (by omega) h9
  have hB14 : ∀ j, j < 28 → C14 j = C j := fun j hj => by rw [hL j (by omega)]; exact hB13 j hj
  have f28 : C14 28 = .inr (6, [.int 0, .ref ((vX X).2.2.2.2.2 + 29), .ref ((vX X).2.2.2.2.2 + 30), .ref ((vX X).2.2.2.2.2 + 31), .ref ((vX X).2.2.2.2.2 + 32)]) := by rw [hL 28 (by decide)]; exact f28
  have f29 : C14 29 = .inl ((vX X).2.2.2.2.1, 6, .inr (.inr (.inr (.inr (va_up (fun _ => none) (Int.toNat 0) (some ((vX X).2.2.2.2.2 + 39))))))) := by rw [hL 29 (by decide)]; exact f29
  have f30 : C14 30 = .inl ((vX X).2.2.2.2.1, 6, .inr (.inr (.inr (.inr (fun _ => none))))) := by rw [hL 30 (by decide)]; exact f30
  have e46 : C14 46 = .inr (7, _) := (hF14 46 (by decide) (by decide) (by decide) (by decide) (by decide)).trans (tree_fin (vX X) (k := 46) (by decide) 0 (by decide))
  clear hL hN
  refine bm_aast (t := 20000) (o := 30) (N := 6) (q := 46) (pc := 74) G 7 dX6_init_74 (by decide) f30 (by decide) (e46) rfl rfl (by decide) (by decide) ?_
  generalize hC15 : cup C14 30 _ = C15
  have hF15 : ∀ j, 28 ≤ j → j ≠ 28 → j ≠ 29 → j ≠ 30 → j < 53 → C15 j = cellE (vX X) M0 j := by
    intro j h0 q28 q29 q30 h9
    rw [← hC15]
    rw [cup_ne _ q30]
    exact hF14 j h0 q28 q29 q30 (by omega)
  have hB15 : ∀ j, j < 28 → C15 j = C j := fun j hj => by rw [← hC15, cup_ne _ (by omega)]; exact hB14 j hj
  have f28 : C15 28 = .inr (6, [.int 0, .ref ((vX X).2.2.2.2.2 + 29), .ref ((vX X).2.2.2.2.2 + 30), .ref ((vX X).2.2.2.2.2 + 31), .ref ((vX X).2.2.2.2.2 + 32)]) := by rw [← hC15, cup_ne _ (by decide)]; exact f28
  have f29 : C15 29 = .inl ((vX X).2.2.2.2.1, 6, .inr (.inr (.inr (.inr (va_up (fun _ => none) (Int.toNat 0) (some ((vX X).2.2.2.2.2 + 39))))))) := by rw [← hC15, cup_ne _ (by decide)]; exact f29
  have f30 : C15 30 = .inl ((vX X).2.2.2.2.1, 6, .inr (.inr (.inr (.inr (va_up (fun _ => none) (Int.toNat 0) (some ((vX X).2.2.2.2.2 + 46))))))) := by rw [← hC15, cup_same] <;> rfl
  clear hC15
  refine bm_iinc (v := 1) (pc := 75) G dX6_init_75 rfl (nlx hn rfl) rfl (by decide) ?_
  refine bm_goto (pc := 78) (ls := [(16, _), (0, _)]) G 43 dX6_init_78 (by decide) ?_
  refine bm_iload (i := 1) (pc := 43) G dX6_init_43 rfl rfl ?_
  refine bm_bipush (pc := 44) G dX6_init_44 (by decide) ?_
  refine bm_gen (pc := 46) G 81 dX6_init_46 (by decide) (by decide) ?_
  refine bm_aload (i := 0) (t := 13) (pc := 49) G dX6_init_49 rfl rfl rfl (by decide) ?_
  refine bm_getr (t := 19999) (o := 28) (q := 29) (fs := [.int 0, .ref ((vX X).2.2.2.2.2 + 29), .ref ((vX X).2.2.2.2.2 + 30), .ref ((vX X).2.2.2.2.2 + 31), .ref ((vX X).2.2.2.2.2 + 32)]) (pc := 50) G 6 1 dX6_init_50 rfl inX6 (by decide) tw_f_RX6_11 rfl (by decide) f28 rfl ?_
  refine bm_iload (i := 1) (pc := 53) G dX6_init_53 rfl rfl ?_
  refine bm_new (fs := [.int 0, .null, .null, .null, .null, .null, .null]) (pc := 54) G 7 tyX7 dX6_init_54 rfl inX7 tyX7_ok (by decide) tw_l_RX6_9 tw_x_RX7 tw_z_RX7 (hR.le (by decide) (by decide)) ?_
  generalize hC16 : cup C15 53 _ = C16
  have hF16 : ∀ j, 28 ≤ j → j ≠ 28 → j ≠ 29 → j ≠ 30 → j ≠ 53 → j < 54 → C16 j = cellE (vX X) M0 j := by
    intro j h0 q28 q29 q30 q53 h9
    rw [← hC16]
    rw [cup_ne _ q53]
    exact hF15 j h0 q28 q29 q30 (by omega)
  have hB16 : ∀ j, j < 28 → C16 j = C j := fun j hj => by rw [← hC16, cup_ne _ (by omega)]; exact hB15 j hj
  have f28 : C16 28 = .inr (6, [.int 0, .ref ((vX X).2.2.2.2.2 + 29), .ref ((vX X).2.2.2.2.2 + 30), .ref ((vX X).2.2.2.2.2 + 31), .ref ((vX X).2.2.2.2.2 + 32)]) := by rw [← hC16, cup_ne _ (by decide)]; exact f28
  have f29 : C16 29 = .inl ((vX X).2.2.2.2.1, 6, .inr (.inr (.inr (.inr (va_up (fun _ => none) (Int.toNat 0) (some ((vX X).2.2.2.2.2 + 39))))))) := by rw [← hC16, cup_ne _ (by decide)]; exact f29
  have f30 : C16 30 = .inl ((vX X).2.2.2.2.1, 6, .inr (.inr (.inr (.inr (va_up (fun _ => none) (Int.toNat 0) (some ((vX X).2.2.2.2.2 + 46))))))) := by rw [← hC16, cup_ne _ (by decide)]; exact f30
  have f53 : C16 53 = .inr (7, [.int 0, .null, .null, .null, .null, .null, .null]) := by rw [← hC16, cup_same] <;> rfl
  clear hC16
  refine bm_dup (pc := 57) G dX6_init_57 (Nat.ne_of_beq_eq_false rfl) ?_
  refine bm_callN (t := 14) (nc := 6) (ns := 96) (st := [(17, _), (0, _), (20002, _)]) (rmc := rm_X7_init) (pc := 58) G [] rfl dX6_init_58 (by decide) tw_n_RX6_24 tw_i_X7_init tw_z_RX7 tw_c_X7_init hy_X7_init (by rw [hr]; exact ⟨rfl, rfl, Nat.le_of_ble_eq_true rfl, Nat.le_of_ble_eq_true rfl⟩) rfl (hR.le (by decide) (by decide)) ?_
  refine ctor_T (vX X) 53 (by decide) _ f53 (fun C17 hL hN => ?_)
  show BW X 31 432 61 _ [(17, _), (0, _), (20002, _)] C17 60
  have hF17 : ∀ j, 28 ≤ j → j ≠ 28 → j ≠ 29 → j ≠ 30 → j < 60 → C17 j = cellE (vX X) M0 j := by
    intro j h0 q28 q29 q30 h9
    by_cases h : j < 53
    · rw [hL j h]; exact hF16 j h0 q28 q29 q30 (by omega) (by omega)
    · exact hN j (by omega) h9
  have hB17 : ∀ j, j < 28 → C17 j = C j := fun j hj => by rw [hL j (by omega)]; exact hB16 j hj
  have f28 : C17 28 = .inr (6, [.int 0, .ref ((vX X).2.2.2.2.2 + 29), .ref ((vX X).2.2.2.2.2 + 30), .ref ((vX X).2.2.2.2.2 + 31), .ref ((vX X).2.2.2.2.2 + 32)]) := by rw [hL 28 (by decide)]; exact f28
  have f29 : C17 29 = .inl ((vX X).2.2.2.2.1, 6, .inr (.inr (.inr (.inr (va_up (fun _ => none) (Int.toNat 0) (some ((vX X).2.2.2.2.2 + 39))))))) := by rw [hL 29 (by decide)]; exact f29
  have f30 : C17 30 = .inl ((vX X).2.2.2.2.1, 6, .inr (.inr (.inr (.inr (va_up (fun _ => none) (Int.toNat 0) (some ((vX X).2.2.2.2.2 + 46))))))) := by rw [hL 30 (by decide)]; exact f30
  have e53 : C17 53 = .inr (7, _) := (hF17 53 (by decide) (by decide) (by decide) (by decide) (by decide)).trans (tree_fin (vX X) (k := 53) (by decide) 0 (by decide))
  clear hL hN
  refine bm_aast (t := 19999) (o := 29) (N := 6) (q := 53) (pc := 61) G 7 dX6_init_61 (by decide) f29 (by decide) (e53) rfl rfl (by decide) (by decide) ?_
  generalize hC18 : cup C17 29 _ = C18
  have hF18 : ∀ j, 28 ≤ j → j ≠ 28 → j ≠ 29 → j ≠ 30 → j < 60 → C18 j = cellE (vX X) M0 j := by
    intro j h0 q28 q29 q30 h9
    rw [← hC18]
    rw [cup_ne _ q29]
    exact hF17 j h0 q28 q29 q30 (by omega)
  have hB18 : ∀ j, j < 28 → C18 j = C j := fun j hj => by rw [← hC18, cup_ne _ (by omega)]; exact hB17 j hj
  have f28 : C18 28 = .inr (6, [.int 0, .ref ((vX X).2.2.2.2.2 + 29), .ref ((vX X).2.2.2.2.2 + 30), .ref ((vX X).2.2.2.2.2 + 31), .ref ((vX X).2.2.2.2.2 + 32)]) := by rw [← hC18, cup_ne _ (by decide)]; exact f28
  have f29 : C18 29 = .inl ((vX X).2.2.2.2.1, 6, .inr (.inr (.inr (.inr (va_up (va_up (fun _ => none) (Int.toNat 0) (some ((vX X).2.2.2.2.2 + 39))) (Int.toNat 1) (some ((vX X).2.2.2.2.2 + 53))))))) := by rw [← hC18, cup_same] <;> rfl
  have f30 : C18 30 = .inl ((vX X).2.2.2.2.1, 6, .inr (.inr (.inr (.inr (va_up (fun _ => none) (Int.toNat 0) (some ((vX X).2.2.2.2.2 + 46))))))) := by rw [← hC18, cup_ne _ (by decide)]; exact f30
  clear hC18
  refine bm_aload (i := 0) (t := 13) (pc := 62) G dX6_init_62 rfl rfl rfl (by decide) ?_
  refine bm_getr (t := 20000) (o := 28) (q := 30) (fs := [.int 0, .ref ((vX X).2.2.2.2.2 + 29), .ref ((vX X).2.2.2.2.2 + 30), .ref ((vX X).2.2.2.2.2 + 31), .ref ((vX X).2.2.2.2.2 + 32)]) (pc := 63) G 6 2 dX6_init_63 rfl inX6 (by decide) tw_f_RX6_17 rfl (by decide) f28 rfl ?_
  refine bm_iload (i := 1) (pc := 66) G dX6_init_66 rfl rfl ?_
  refine bm_new (fs := [.int 0, .null, .null, .null, .null, .null, .null]) (pc := 67) G 7 tyX7 dX6_init_67 rfl inX7 tyX7_ok (by decide) tw_l_RX6_9 tw_x_RX7 tw_z_RX7 (hR.le (by decide) (by decide)) ?_
  generalize hC19 : cup C18 60 _ = C19
  have hF19 : ∀ j, 28 ≤ j → j ≠ 28 → j ≠ 29 → j ≠ 30 → j ≠ 60 → j < 61 → C19 j = cellE (vX X) M0 j := by
    intro j h0 q28 q29 q30 q60 h9
    rw [← hC19]
    rw [cup_ne _ q60]
    exact hF18 j h0 q28 q29 q30 (by omega)
  have hB19 : ∀ j, j < 28 → C19 j = C j := fun j hj => by rw [← hC19, cup_ne _ (by omega)]; exact hB18 j hj
  have f28 : C19 28 = .inr (6, [.int 0, .ref ((vX X).2.2.2.2.2 + 29), .ref ((vX X).2.2.2.2.2 + 30), .ref ((vX X).2.2.2.2.2 + 31), .ref ((vX X).2.2.2.2.2 + 32)]) := by rw [← hC19, cup_ne _ (by decide)]; exact f28
  have f29 : C19 29 = .inl ((vX X).2.2.2.2.1, 6, .inr (.inr (.inr (.inr (va_up (va_up (fun _ => none) (Int.toNat 0) (some ((vX X).2.2.2.2.2 + 39))) (Int.toNat 1) (some ((vX X).2.2.2.2.2 + 53))))))) := by rw [← hC19, cup_ne _ (by decide)]; exact f29
  have f30 : C19 30 = .inl ((vX X).2.2.2.2.1, 6, .inr (.inr (.inr (.inr (va_up (fun _ => none) (Int.toNat 0) (some ((vX X).2.2.2.2.2 + 46))))))) := by rw [← hC19, cup_ne _ (by decide)]; exact f30
  have f60 : C19 60 = .inr (7, [.int 0, .null, .null, .null, .null, .null, .null]) := by rw [← hC19, cup_same] <;> rfl
  clear hC19
  refine bm_dup (pc := 70) G dX6_init_70 (Nat.ne_of_beq_eq_false rfl) ?_
  refine bm_callN (t := 14) (nc := 6) (ns := 96) (st := [(17, _), (0, _), (20003, _)]) (rmc := rm_X7_init) (pc := 71) G [] rfl dX6_init_71 (by decide) tw_n_RX6_24 tw_i_X7_init tw_z_RX7 tw_c_X7_init hy_X7_init (by rw [hr]; exact ⟨rfl, rfl, Nat.le_of_ble_eq_true rfl, Nat.le_of_ble_eq_true rfl⟩) rfl (hR.le (by decide) (by decide)) ?_
  refine ctor_T (vX X) 60 (by decide) _ f60 (fun C20 hL hN => ?_)
  show BW X 38 535 74 _ [(17, _), (0, _), (20003, _)] C20 67
  have hF20 : ∀ j, 28 ≤ j → j ≠ 28 → j ≠ 29 → j ≠ 30 → j < 67 → C20 j = cellE (vX X) M0 j := by
    intro j h0 q28 q29 q30 h9
    by_cases h : j < 60
    · rw [hL j h]; exact hF19 j h0 q28 q29 q30 (by omega) (by omega)
    · exact hN j (by omega) h9
  have hB20 : ∀ j, j < 28 → C20 j = C j := fun j hj => by rw [hL j (by omega)]; exact hB19 j hj
  have f28 : C20 28 = .inr (6, [.int 0, .ref ((vX X).2.2.2.2.2 + 29), .ref ((vX X).2.2.2.2.2 + 30), .ref ((vX X).2.2.2.2.2 + 31), .ref ((vX X).2.2.2.2.2 + 32)]) := by rw [hL 28 (by decide)]; exact f28
  have f29 : C20 29 = .inl ((vX X).2.2.2.2.1, 6, .inr (.inr (.inr (.inr (va_up (va_up (fun _ => none) (Int.toNat 0) (some ((vX X).2.2.2.2.2 + 39))) (Int.toNat 1) (some ((vX X).2.2.2.2.2 + 53))))))) := by rw [hL 29 (by decide)]; exact f29
  have f30 : C20 30 = .inl ((vX X).2.2.2.2.1, 6, .inr (.inr (.inr (.inr (va_up (fun _ => none) (Int.toNat 0) (some ((vX X).2.2.2.2.2 + 46))))))) := by rw [hL 30 (by decide)]; exact f30
  have e60 : C20 60 = .inr (7, _) := (hF20 60 (by decide) (by decide) (by decide) (by decide) (by decide)).trans (tree_fin (vX X) (k := 60) (by decide) 0 (by decide))
  clear hL hN
  refine bm_aast (t := 20000) (o := 30) (N := 6) (q := 60) (pc := 74) G 7 dX6_init_74 (by decide) f30 (by decide) (e60) rfl rfl (by decide) (by decide) ?_
  generalize hC21 : cup C20 30 _ = C21
  have hF21 : ∀ j, 28 ≤ j → j ≠ 28 → j ≠ 29 → j ≠ 30 → j < 67 → C21 j = cellE (vX X) M0 j := by
    intro j h0 q28 q29 q30 h9
    rw [← hC21]
    rw [cup_ne _ q30]
    exact hF20 j h0 q28 q29 q30 (by omega)
  have hB21 : ∀ j, j < 28 → C21 j = C j := fun j hj => by rw [← hC21, cup_ne _ (by omega)]; exact hB20 j hj
  have f28 : C21 28 = .inr (6, [.int 0, .ref ((vX X).2.2.2.2.2 + 29), .ref ((vX X).2.2.2.2.2 + 30), .ref ((vX X).2.2.2.2.2 + 31), .ref ((vX X).2.2.2.2.2 + 32)]) := by rw [← hC21, cup_ne _ (by decide)]; exact f28
  have f29 : C21 29 = .inl ((vX X).2.2.2.2.1, 6, .inr (.inr (.inr (.inr (va_up (va_up (fun _ => none) (Int.toNat 0) (some ((vX X).2.2.2.2.2 + 39))) (Int.toNat 1) (some ((vX X).2.2.2.2.2 + 53))))))) := by rw [← hC21, cup_ne _ (by decide)]; exact f29
  have f30 : C21 30 = .inl ((vX X).2.2.2.2.1, 6, .inr (.inr (.inr (.inr (va_up (va_up (fun _ => none) (Int.toNat 0) (some ((vX X).2.2.2.2.2 + 46))) (Int.toNat 1) (some ((vX X).2.2.2.2.2 + 60))))))) := by rw [← hC21, cup_same] <;> rfl
  clear hC21
  refine bm_iinc (v := 2) (pc := 75) G dX6_init_75 rfl (nlx hn rfl) rfl (by decide) ?_
  refine bm_goto (pc := 78) (ls := [(16, _), (0, _)]) G 43 dX6_init_78 (by decide) ?_
  refine bm_iload (i := 1) (pc := 43) G dX6_init_43 rfl rfl ?_
  refine bm_bipush (pc := 44) G dX6_init_44 (by decide) ?_
  refine bm_gen (pc := 46) G 81 dX6_init_46 (by decide) (by decide) ?_
  refine bm_aload (i := 0) (t := 13) (pc := 49) G dX6_init_49 rfl rfl rfl (by decide) ?_
  refine bm_getr (t := 19999) (o := 28) (q := 29) (fs := [.int 0, .ref ((vX X).2.2.2.2.2 + 29), .ref ((vX X).2.2.2.2.2 + 30), .ref ((vX X).2.2.2.2.2 + 31), .ref ((vX X).2.2.2.2.2 + 32)]) (pc := 50) G 6 1 dX6_init_50 rfl inX6 (by decide) tw_f_RX6_11 rfl (by decide) f28 rfl ?_
  refine bm_iload (i := 1) (pc := 53) G dX6_init_53 rfl rfl ?_
  refine bm_new (fs := [.int 0, .null, .null, .null, .null, .null, .null]) (pc := 54) G 7 tyX7 dX6_init_54 rfl inX7 tyX7_ok (by decide) tw_l_RX6_9 tw_x_RX7 tw_z_RX7 (hR.le (by decide) (by decide)) ?_
  generalize hC22 : cup C21 67 _ = C22
  have hF22 : ∀ j, 28 ≤ j → j ≠ 28 → j ≠ 29 → j ≠ 30 → j ≠ 67 → j < 68 → C22 j = cellE (vX X) M0 j := by
    intro j h0 q28 q29 q30 q67 h9
    rw [← hC22]
    rw [cup_ne _ q67]
    exact hF21 j h0 q28 q29 q30 (by omega)
  have hB22 : ∀ j, j < 28 → C22 j = C j := fun j hj => by rw [← hC22, cup_ne _ (by omega)]; exact hB21 j hj
  have f28 : C22 28 = .inr (6, [.int 0, .ref ((vX X).2.2.2.2.2 + 29), .ref ((vX X).2.2.2.2.2 + 30), .ref ((vX X).2.2.2.2.2 + 31), .ref ((vX X).2.2.2.2.2 + 32)]) := by rw [← hC22, cup_ne _ (by decide)]; exact f28
  have f29 : C22 29 = .inl ((vX X).2.2.2.2.1, 6, .inr (.inr (.inr (.inr (va_up (va_up (fun _ => none) (Int.toNat 0) (some ((vX X).2.2.2.2.2 + 39))) (Int.toNat 1) (some ((vX X).2.2.2.2.2 + 53))))))) := by rw [← hC22, cup_ne _ (by decide)]; exact f29
  have f30 : C22 30 = .inl ((vX X).2.2.2.2.1, 6, .inr (.inr (.inr (.inr (va_up (va_up (fun _ => none) (Int.toNat 0) (some ((vX X).2.2.2.2.2 + 46))) (Int.toNat 1) (some ((vX X).2.2.2.2.2 + 60))))))) := by rw [← hC22, cup_ne _ (by decide)]; exact f30
  have f67 : C22 67 = .inr (7, [.int 0, .null, .null, .null, .null, .null, .null]) := by rw [← hC22, cup_same] <;> rfl
  clear hC22
  refine bm_dup (pc := 57) G dX6_init_57 (Nat.ne_of_beq_eq_false rfl) ?_
  refine bm_callN (t := 14) (nc := 6) (ns := 96) (st := [(17, _), (0, _), (20002, _)]) (rmc := rm_X7_init) (pc := 58) G [] rfl dX6_init_58 (by decide) tw_n_RX6_24 tw_i_X7_init tw_z_RX7 tw_c_X7_init hy_X7_init (by rw [hr]; exact ⟨rfl, rfl, Nat.le_of_ble_eq_true rfl, Nat.le_of_ble_eq_true rfl⟩) rfl (hR.le (by decide) (by decide)) ?_
  refine ctor_T (vX X) 67 (by decide) _ f67 (fun C23 hL hN => ?_)
  show BW X 45 638 61 _ [(17, _), (0, _), (20002, _)] C23 74
  have hF23 : ∀ j, 28 ≤ j → j ≠ 28 → j ≠ 29 → j ≠ 30 → j < 74 → C23 j = cellE (vX X) M0 j := by
    intro j h0 q28 q29 q30 h9
    by_cases h : j < 67
    · rw [hL j h]; exact hF22 j h0 q28 q29 q30 (by omega) (by omega)
    · exact hN j (by omega) h9
  have hB23 : ∀ j, j < 28 → C23 j = C j := fun j hj => by rw [hL j (by omega)]; exact hB22 j hj
  have f28 : C23 28 = .inr (6, [.int 0, .ref ((vX X).2.2.2.2.2 + 29), .ref ((vX X).2.2.2.2.2 + 30), .ref ((vX X).2.2.2.2.2 + 31), .ref ((vX X).2.2.2.2.2 + 32)]) := by rw [hL 28 (by decide)]; exact f28
  have f29 : C23 29 = .inl ((vX X).2.2.2.2.1, 6, .inr (.inr (.inr (.inr (va_up (va_up (fun _ => none) (Int.toNat 0) (some ((vX X).2.2.2.2.2 + 39))) (Int.toNat 1) (some ((vX X).2.2.2.2.2 + 53))))))) := by rw [hL 29 (by decide)]; exact f29
  have f30 : C23 30 = .inl ((vX X).2.2.2.2.1, 6, .inr (.inr (.inr (.inr (va_up (va_up (fun _ => none) (Int.toNat 0) (some ((vX X).2.2.2.2.2 + 46))) (Int.toNat 1) (some ((vX X).2.2.2.2.2 + 60))))))) := by rw [hL 30 (by decide)]; exact f30
  have e67 : C23 67 = .inr (7, _) := (hF23 67 (by decide) (by decide) (by decide) (by decide) (by decide)).trans (tree_fin (vX X) (k := 67) (by decide) 0 (by decide))
  clear hL hN
  refine bm_aast (t := 19999) (o := 29) (N := 6) (q := 67) (pc := 61) G 7 dX6_init_61 (by decide) f29 (by decide) (e67) rfl rfl (by decide) (by decide) ?_
  generalize hC24 : cup C23 29 _ = C24
  have hF24 : ∀ j, 28 ≤ j → j ≠ 28 → j ≠ 29 → j ≠ 30 → j < 74 → C24 j = cellE (vX X) M0 j := by
    intro j h0 q28 q29 q30 h9
    rw [← hC24]
    rw [cup_ne _ q29]
    exact hF23 j h0 q28 q29 q30 (by omega)
  have hB24 : ∀ j, j < 28 → C24 j = C j := fun j hj => by rw [← hC24, cup_ne _ (by omega)]; exact hB23 j hj
  have f28 : C24 28 = .inr (6, [.int 0, .ref ((vX X).2.2.2.2.2 + 29), .ref ((vX X).2.2.2.2.2 + 30), .ref ((vX X).2.2.2.2.2 + 31), .ref ((vX X).2.2.2.2.2 + 32)]) := by rw [← hC24, cup_ne _ (by decide)]; exact f28
  have f29 : C24 29 = .inl ((vX X).2.2.2.2.1, 6, .inr (.inr (.inr (.inr (va_up (va_up (va_up (fun _ => none) (Int.toNat 0) (some ((vX X).2.2.2.2.2 + 39))) (Int.toNat 1) (some ((vX X).2.2.2.2.2 + 53))) (Int.toNat 2) (some ((vX X).2.2.2.2.2 + 67))))))) := by rw [← hC24, cup_same] <;> rfl
  have f30 : C24 30 = .inl ((vX X).2.2.2.2.1, 6, .inr (.inr (.inr (.inr (va_up (va_up (fun _ => none) (Int.toNat 0) (some ((vX X).2.2.2.2.2 + 46))) (Int.toNat 1) (some ((vX X).2.2.2.2.2 + 60))))))) := by rw [← hC24, cup_ne _ (by decide)]; exact f30
  clear hC24
  refine bm_aload (i := 0) (t := 13) (pc := 62) G dX6_init_62 rfl rfl rfl (by decide) ?_
  refine bm_getr (t := 20000) (o := 28) (q := 30) (fs := [.int 0, .ref ((vX X).2.2.2.2.2 + 29), .ref ((vX X).2.2.2.2.2 + 30), .ref ((vX X).2.2.2.2.2 + 31), .ref ((vX X).2.2.2.2.2 + 32)]) (pc := 63) G 6 2 dX6_init_63 rfl inX6 (by decide) tw_f_RX6_17 rfl (by decide) f28 rfl ?_
  refine bm_iload (i := 1) (pc := 66) G dX6_init_66 rfl rfl ?_
  refine bm_new (fs := [.int 0, .null, .null, .null, .null, .null, .null]) (pc := 67) G 7 tyX7 dX6_init_67 rfl inX7 tyX7_ok (by decide) tw_l_RX6_9 tw_x_RX7 tw_z_RX7 (hR.le (by decide) (by decide)) ?_
  generalize hC25 : cup C24 74 _ = C25
  have hF25 : ∀ j, 28 ≤ j → j ≠ 28 → j ≠ 29 → j ≠ 30 → j ≠ 74 → j < 75 → C25 j = cellE (vX X) M0 j := by
    intro j h0 q28 q29 q30 q74 h9
    rw [← hC25]
    rw [cup_ne _ q74]
    exact hF24 j h0 q28 q29 q30 (by omega)
  have hB25 : ∀ j, j < 28 → C25 j = C j := fun j hj => by rw [← hC25, cup_ne _ (by omega)]; exact hB24 j hj
  have f28 : C25 28 = .inr (6, [.int 0, .ref ((vX X).2.2.2.2.2 + 29), .ref ((vX X).2.2.2.2.2 + 30), .ref ((vX X).2.2.2.2.2 + 31), .ref ((vX X).2.2.2.2.2 + 32)]) := by rw [← hC25, cup_ne _ (by decide)]; exact f28
  have f29 : C25 29 = .inl ((vX X).2.2.2.2.1, 6, .inr (.inr (.inr (.inr (va_up (va_up (va_up (fun _ => none) (Int.toNat 0) (some ((vX X).2.2.2.2.2 + 39))) (Int.toNat 1) (some ((vX X).2.2.2.2.2 + 53))) (Int.toNat 2) (some ((vX X).2.2.2.2.2 + 67))))))) := by rw [← hC25, cup_ne _ (by decide)]; exact f29
  have f30 : C25 30 = .inl ((vX X).2.2.2.2.1, 6, .inr (.inr (.inr (.inr (va_up (va_up (fun _ => none) (Int.toNat 0) (some ((vX X).2.2.2.2.2 + 46))) (Int.toNat 1) (some ((vX X).2.2.2.2.2 + 60))))))) := by rw [← hC25, cup_ne _ (by decide)]; exact f30
  have f74 : C25 74 = .inr (7, [.int 0, .null, .null, .null, .null, .null, .null]) := by rw [← hC25, cup_same] <;> rfl
  clear hC25
  refine bm_dup (pc := 70) G dX6_init_70 (Nat.ne_of_beq_eq_false rfl) ?_
  refine bm_callN (t := 14) (nc := 6) (ns := 96) (st := [(17, _), (0, _), (20003, _)]) (rmc := rm_X7_init) (pc := 71) G [] rfl dX6_init_71 (by decide) tw_n_RX6_24 tw_i_X7_init tw_z_RX7 tw_c_X7_init hy_X7_init (by rw [hr]; exact ⟨rfl, rfl, Nat.le_of_ble_eq_true rfl, Nat.le_of_ble_eq_true rfl⟩) rfl (hR.le (by decide) (by decide)) ?_
  refine ctor_T (vX X) 74 (by decide) _ f74 (fun C26 hL hN => ?_)
  show BW X 52 741 74 _ [(17, _), (0, _), (20003, _)] C26 81
  have hF26 : ∀ j, 28 ≤ j → j ≠ 28 → j ≠ 29 → j ≠ 30 → j < 81 → C26 j = cellE (vX X) M0 j := by
    intro j h0 q28 q29 q30 h9
    by_cases h : j < 74
    · rw [hL j h]; exact hF25 j h0 q28 q29 q30 (by omega) (by omega)
    · exact hN j (by omega) h9
  have hB26 : ∀ j, j < 28 → C26 j = C j := fun j hj => by rw [hL j (by omega)]; exact hB25 j hj
  have f28 : C26 28 = .inr (6, [.int 0, .ref ((vX X).2.2.2.2.2 + 29), .ref ((vX X).2.2.2.2.2 + 30), .ref ((vX X).2.2.2.2.2 + 31), .ref ((vX X).2.2.2.2.2 + 32)]) := by rw [hL 28 (by decide)]; exact f28
  have f29 : C26 29 = .inl ((vX X).2.2.2.2.1, 6, .inr (.inr (.inr (.inr (va_up (va_up (va_up (fun _ => none) (Int.toNat 0) (some ((vX X).2.2.2.2.2 + 39))) (Int.toNat 1) (some ((vX X).2.2.2.2.2 + 53))) (Int.toNat 2) (some ((vX X).2.2.2.2.2 + 67))))))) := by rw [hL 29 (by decide)]; exact f29
  have f30 : C26 30 = .inl ((vX X).2.2.2.2.1, 6, .inr (.inr (.inr (.inr (va_up (va_up (fun _ => none) (Int.toNat 0) (some ((vX X).2.2.2.2.2 + 46))) (Int.toNat 1) (some ((vX X).2.2.2.2.2 + 60))))))) := by rw [hL 30 (by decide)]; exact f30
  have e74 : C26 74 = .inr (7, _) := (hF26 74 (by decide) (by decide) (by decide) (by decide) (by decide)).trans (tree_fin (vX X) (k := 74) (by decide) 0 (by decide))
  clear hL hN
  refine bm_aast (t := 20000) (o := 30) (N := 6) (q := 74) (pc := 74) G 7 dX6_init_74 (by decide) f30 (by decide) (e74) rfl rfl (by decide) (by decide) ?_
  generalize hC27 : cup C26 30 _ = C27
  have hF27 : ∀ j, 28 ≤ j → j ≠ 28 → j ≠ 29 → j ≠ 30 → j < 81 → C27 j = cellE (vX X) M0 j := by
    intro j h0 q28 q29 q30 h9
    rw [← hC27]
    rw [cup_ne _ q30]
    exact hF26 j h0 q28 q29 q30 (by omega)
  have hB27 : ∀ j, j < 28 → C27 j = C j := fun j hj => by rw [← hC27, cup_ne _ (by omega)]; exact hB26 j hj
  have f28 : C27 28 = .inr (6, [.int 0, .ref ((vX X).2.2.2.2.2 + 29), .ref ((vX X).2.2.2.2.2 + 30), .ref ((vX X).2.2.2.2.2 + 31), .ref ((vX X).2.2.2.2.2 + 32)]) := by rw [← hC27, cup_ne _ (by decide)]; exact f28
  have f29 : C27 29 = .inl ((vX X).2.2.2.2.1, 6, .inr (.inr (.inr (.inr (va_up (va_up (va_up (fun _ => none) (Int.toNat 0) (some ((vX X).2.2.2.2.2 + 39))) (Int.toNat 1) (some ((vX X).2.2.2.2.2 + 53))) (Int.toNat 2) (some ((vX X).2.2.2.2.2 + 67))))))) := by rw [← hC27, cup_ne _ (by decide)]; exact f29
  have f30 : C27 30 = .inl ((vX X).2.2.2.2.1, 6, .inr (.inr (.inr (.inr (va_up (va_up (va_up (fun _ => none) (Int.toNat 0) (some ((vX X).2.2.2.2.2 + 46))) (Int.toNat 1) (some ((vX X).2.2.2.2.2 + 60))) (Int.toNat 2) (some ((vX X).2.2.2.2.2 + 74))))))) := by rw [← hC27, cup_same] <;> rfl
  clear hC27
  refine bm_iinc (v := 3) (pc := 75) G dX6_init_75 rfl (nlx hn rfl) rfl (by decide) ?_
  refine bm_goto (pc := 78) (ls := [(16, _), (0, _)]) G 43 dX6_init_78 (by decide) ?_
  refine bm_iload (i := 1) (pc := 43) G dX6_init_43 rfl rfl ?_
  refine bm_bipush (pc := 44) G dX6_init_44 (by decide) ?_
  refine bm_gen (pc := 46) G 81 dX6_init_46 (by decide) (by decide) ?_
  refine bm_aload (i := 0) (t := 13) (pc := 49) G dX6_init_49 rfl rfl rfl (by decide) ?_
  refine bm_getr (t := 19999) (o := 28) (q := 29) (fs := [.int 0, .ref ((vX X).2.2.2.2.2 + 29), .ref ((vX X).2.2.2.2.2 + 30), .ref ((vX X).2.2.2.2.2 + 31), .ref ((vX X).2.2.2.2.2 + 32)]) (pc := 50) G 6 1 dX6_init_50 rfl inX6 (by decide) tw_f_RX6_11 rfl (by decide) f28 rfl ?_
  refine bm_iload (i := 1) (pc := 53) G dX6_init_53 rfl rfl ?_
  refine bm_new (fs := [.int 0, .null, .null, .null, .null, .null, .null]) (pc := 54) G 7 tyX7 dX6_init_54 rfl inX7 tyX7_ok (by decide) tw_l_RX6_9 tw_x_RX7 tw_z_RX7 (hR.le (by decide) (by decide)) ?_
  generalize hC28 : cup C27 81 _ = C28
  have hF28 : ∀ j, 28 ≤ j → j ≠ 28 → j ≠ 29 → j ≠ 30 → j ≠ 81 → j < 82 → C28 j = cellE (vX X) M0 j := by
    intro j h0 q28 q29 q30 q81 h9
    rw [← hC28]
    rw [cup_ne _ q81]
    exact hF27 j h0 q28 q29 q30 (by omega)
  have hB28 : ∀ j, j < 28 → C28 j = C j := fun j hj => by rw [← hC28, cup_ne _ (by omega)]; exact hB27 j hj
  have f28 : C28 28 = .inr (6, [.int 0, .ref ((vX X).2.2.2.2.2 + 29), .ref ((vX X).2.2.2.2.2 + 30), .ref ((vX X).2.2.2.2.2 + 31), .ref ((vX X).2.2.2.2.2 + 32)]) := by rw [← hC28, cup_ne _ (by decide)]; exact f28
  have f29 : C28 29 = .inl ((vX X).2.2.2.2.1, 6, .inr (.inr (.inr (.inr (va_up (va_up (va_up (fun _ => none) (Int.toNat 0) (some ((vX X).2.2.2.2.2 + 39))) (Int.toNat 1) (some ((vX X).2.2.2.2.2 + 53))) (Int.toNat 2) (some ((vX X).2.2.2.2.2 + 67))))))) := by rw [← hC28, cup_ne _ (by decide)]; exact f29
  have f30 : C28 30 = .inl ((vX X).2.2.2.2.1, 6, .inr (.inr (.inr (.inr (va_up (va_up (va_up (fun _ => none) (Int.toNat 0) (some ((vX X).2.2.2.2.2 + 46))) (Int.toNat 1) (some ((vX X).2.2.2.2.2 + 60))) (Int.toNat 2) (some ((vX X).2.2.2.2.2 + 74))))))) := by rw [← hC28, cup_ne _ (by decide)]; exact f30
  have f81 : C28 81 = .inr (7, [.int 0, .null, .null, .null, .null, .null, .null]) := by rw [← hC28, cup_same] <;> rfl
  clear hC28
  refine bm_dup (pc := 57) G dX6_init_57 (Nat.ne_of_beq_eq_false rfl) ?_
  refine bm_callN (t := 14) (nc := 6) (ns := 96) (st := [(17, _), (0, _), (20002, _)]) (rmc := rm_X7_init) (pc := 58) G [] rfl dX6_init_58 (by decide) tw_n_RX6_24 tw_i_X7_init tw_z_RX7 tw_c_X7_init hy_X7_init (by rw [hr]; exact ⟨rfl, rfl, Nat.le_of_ble_eq_true rfl, Nat.le_of_ble_eq_true rfl⟩) rfl (hR.le (by decide) (by decide)) ?_
  refine ctor_T (vX X) 81 (by decide) _ f81 (fun C29 hL hN => ?_)
  show BW X 59 844 61 _ [(17, _), (0, _), (20002, _)] C29 88
  have hF29 : ∀ j, 28 ≤ j → j ≠ 28 → j ≠ 29 → j ≠ 30 → j < 88 → C29 j = cellE (vX X) M0 j := by
    intro j h0 q28 q29 q30 h9
    by_cases h : j < 81
    · rw [hL j h]; exact hF28 j h0 q28 q29 q30 (by omega) (by omega)
    · exact hN j (by omega) h9
  have hB29 : ∀ j, j < 28 → C29 j = C j := fun j hj => by rw [hL j (by omega)]; exact hB28 j hj
  have f28 : C29 28 = .inr (6, [.int 0, .ref ((vX X).2.2.2.2.2 + 29), .ref ((vX X).2.2.2.2.2 + 30), .ref ((vX X).2.2.2.2.2 + 31), .ref ((vX X).2.2.2.2.2 + 32)]) := by rw [hL 28 (by decide)]; exact f28
  have f29 : C29 29 = .inl ((vX X).2.2.2.2.1, 6, .inr (.inr (.inr (.inr (va_up (va_up (va_up (fun _ => none) (Int.toNat 0) (some ((vX X).2.2.2.2.2 + 39))) (Int.toNat 1) (some ((vX X).2.2.2.2.2 + 53))) (Int.toNat 2) (some ((vX X).2.2.2.2.2 + 67))))))) := by rw [hL 29 (by decide)]; exact f29
  have f30 : C29 30 = .inl ((vX X).2.2.2.2.1, 6, .inr (.inr (.inr (.inr (va_up (va_up (va_up (fun _ => none) (Int.toNat 0) (some ((vX X).2.2.2.2.2 + 46))) (Int.toNat 1) (some ((vX X).2.2.2.2.2 + 60))) (Int.toNat 2) (some ((vX X).2.2.2.2.2 + 74))))))) := by rw [hL 30 (by decide)]; exact f30
  have e81 : C29 81 = .inr (7, _) := (hF29 81 (by decide) (by decide) (by decide) (by decide) (by decide)).trans (tree_fin (vX X) (k := 81) (by decide) 0 (by decide))
  clear hL hN
  refine bm_aast (t := 19999) (o := 29) (N := 6) (q := 81) (pc := 61) G 7 dX6_init_61 (by decide) f29 (by decide) (e81) rfl rfl (by decide) (by decide) ?_
  generalize hC30 : cup C29 29 _ = C30
  have hF30 : ∀ j, 28 ≤ j → j ≠ 28 → j ≠ 29 → j ≠ 30 → j < 88 → C30 j = cellE (vX X) M0 j := by
    intro j h0 q28 q29 q30 h9
    rw [← hC30]
    rw [cup_ne _ q29]
    exact hF29 j h0 q28 q29 q30 (by omega)
  have hB30 : ∀ j, j < 28 → C30 j = C j := fun j hj => by rw [← hC30, cup_ne _ (by omega)]; exact hB29 j hj
  have f28 : C30 28 = .inr (6, [.int 0, .ref ((vX X).2.2.2.2.2 + 29), .ref ((vX X).2.2.2.2.2 + 30), .ref ((vX X).2.2.2.2.2 + 31), .ref ((vX X).2.2.2.2.2 + 32)]) := by rw [← hC30, cup_ne _ (by decide)]; exact f28
  have f29 : C30 29 = .inl ((vX X).2.2.2.2.1, 6, .inr (.inr (.inr (.inr (va_up (va_up (va_up (va_up (fun _ => none) (Int.toNat 0) (some ((vX X).2.2.2.2.2 + 39))) (Int.toNat 1) (some ((vX X).2.2.2.2.2 + 53))) (Int.toNat 2) (some ((vX X).2.2.2.2.2 + 67))) (Int.toNat 3) (some ((vX X).2.2.2.2.2 + 81))))))) := by rw [← hC30, cup_same] <;> rfl
  have f30 : C30 30 = .inl ((vX X).2.2.2.2.1, 6, .inr (.inr (.inr (.inr (va_up (va_up (va_up (fun _ => none) (Int.toNat 0) (some ((vX X).2.2.2.2.2 + 46))) (Int.toNat 1) (some ((vX X).2.2.2.2.2 + 60))) (Int.toNat 2) (some ((vX X).2.2.2.2.2 + 74))))))) := by rw [← hC30, cup_ne _ (by decide)]; exact f30
  clear hC30
  refine bm_aload (i := 0) (t := 13) (pc := 62) G dX6_init_62 rfl rfl rfl (by decide) ?_
  refine bm_getr (t := 20000) (o := 28) (q := 30) (fs := [.int 0, .ref ((vX X).2.2.2.2.2 + 29), .ref ((vX X).2.2.2.2.2 + 30), .ref ((vX X).2.2.2.2.2 + 31), .ref ((vX X).2.2.2.2.2 + 32)]) (pc := 63) G 6 2 dX6_init_63 rfl inX6 (by decide) tw_f_RX6_17 rfl (by decide) f28 rfl ?_
  refine bm_iload (i := 1) (pc := 66) G dX6_init_66 rfl rfl ?_
  refine bm_new (fs := [.int 0, .null, .null, .null, .null, .null, .null]) (pc := 67) G 7 tyX7 dX6_init_67 rfl inX7 tyX7_ok (by decide) tw_l_RX6_9 tw_x_RX7 tw_z_RX7 (hR.le (by decide) (by decide)) ?_
  generalize hC31 : cup C30 88 _ = C31
  have hF31 : ∀ j, 28 ≤ j → j ≠ 28 → j ≠ 29 → j ≠ 30 → j ≠ 88 → j < 89 → C31 j = cellE (vX X) M0 j := by
    intro j h0 q28 q29 q30 q88 h9
    rw [← hC31]
    rw [cup_ne _ q88]
    exact hF30 j h0 q28 q29 q30 (by omega)
  have hB31 : ∀ j, j < 28 → C31 j = C j := fun j hj => by rw [← hC31, cup_ne _ (by omega)]; exact hB30 j hj
  have f28 : C31 28 = .inr (6, [.int 0, .ref ((vX X).2.2.2.2.2 + 29), .ref ((vX X).2.2.2.2.2 + 30), .ref ((vX X).2.2.2.2.2 + 31), .ref ((vX X).2.2.2.2.2 + 32)]) := by rw [← hC31, cup_ne _ (by decide)]; exact f28
  have f29 : C31 29 = .inl ((vX X).2.2.2.2.1, 6, .inr (.inr (.inr (.inr (va_up (va_up (va_up (va_up (fun _ => none) (Int.toNat 0) (some ((vX X).2.2.2.2.2 + 39))) (Int.toNat 1) (some ((vX X).2.2.2.2.2 + 53))) (Int.toNat 2) (some ((vX X).2.2.2.2.2 + 67))) (Int.toNat 3) (some ((vX X).2.2.2.2.2 + 81))))))) := by rw [← hC31, cup_ne _ (by decide)]; exact f29
  have f30 : C31 30 = .inl ((vX X).2.2.2.2.1, 6, .inr (.inr (.inr (.inr (va_up (va_up (va_up (fun _ => none) (Int.toNat 0) (some ((vX X).2.2.2.2.2 + 46))) (Int.toNat 1) (some ((vX X).2.2.2.2.2 + 60))) (Int.toNat 2) (some ((vX X).2.2.2.2.2 + 74))))))) := by rw [← hC31, cup_ne _ (by decide)]; exact f30
  have f88 : C31 88 = .inr (7, [.int 0, .null, .null, .null, .null, .null, .null]) := by rw [← hC31, cup_same] <;> rfl
  clear hC31
  refine bm_dup (pc := 70) G dX6_init_70 (Nat.ne_of_beq_eq_false rfl) ?_
  refine bm_callN (t := 14) (nc := 6) (ns := 96) (st := [(17, _), (0, _), (20003, _)]) (rmc := rm_X7_init) (pc := 71) G [] rfl dX6_init_71 (by decide) tw_n_RX6_24 tw_i_X7_init tw_z_RX7 tw_c_X7_init hy_X7_init (by rw [hr]; exact ⟨rfl, rfl, Nat.le_of_ble_eq_true rfl, Nat.le_of_ble_eq_true rfl⟩) rfl (hR.le (by decide) (by decide)) ?_
  refine ctor_T (vX X) 88 (by decide) _ f88 (fun C32 hL hN => ?_)
  show BW X 66 947 74 _ [(17, _), (0, _), (20003, _)] C32 95
  have hF32 : ∀ j, 28 ≤ j → j ≠ 28 → j ≠ 29 → j ≠ 30 → j < 95 → C32 j = cellE (vX X) M0 j := by
    intro j h0 q28 q29 q30 h9
    by_cases h : j < 88
    · rw [hL j h]; exact hF31 j h0 q28 q29 q30 (by omega) (by omega)
    · exact hN j (by omega) h9
  have hB32 : ∀ j, j < 28 → C32 j = C j := fun j hj => by rw [hL j (by omega)]; exact hB31 j hj
  have f28 : C32 28 = .inr (6, [.int 0, .ref ((vX X).2.2.2.2.2 + 29), .ref ((vX X).2.2.2.2.2 + 30), .ref ((vX X).2.2.2.2.2 + 31), .ref ((vX X).2.2.2.2.2 + 32)]) := by rw [hL 28 (by decide)]; exact f28
  have f29 : C32 29 = .inl ((vX X).2.2.2.2.1, 6, .inr (.inr (.inr (.inr (va_up (va_up (va_up (va_up (fun _ => none) (Int.toNat 0) (some ((vX X).2.2.2.2.2 + 39))) (Int.toNat 1) (some ((vX X).2.2.2.2.2 + 53))) (Int.toNat 2) (some ((vX X).2.2.2.2.2 + 67))) (Int.toNat 3) (some ((vX X).2.2.2.2.2 + 81))))))) := by rw [hL 29 (by decide)]; exact f29
  have f30 : C32 30 = .inl ((vX X).2.2.2.2.1, 6, .inr (.inr (.inr (.inr (va_up (va_up (va_up (fun _ => none) (Int.toNat 0) (some ((vX X).2.2.2.2.2 + 46))) (Int.toNat 1) (some ((vX X).2.2.2.2.2 + 60))) (Int.toNat 2) (some ((vX X).2.2.2.2.2 + 74))))))) := by rw [hL 30 (by decide)]; exact f30
  have e88 : C32 88 = .inr (7, _) := (hF32 88 (by decide) (by decide) (by decide) (by decide) (by decide)).trans (tree_fin (vX X) (k := 88) (by decide) 0 (by decide))
  clear hL hN
  refine bm_aast (t := 20000) (o := 30) (N := 6) (q := 88) (pc := 74) G 7 dX6_init_74 (by decide) f30 (by decide) (e88) rfl rfl (by decide) (by decide) ?_
  generalize hC33 : cup C32 30 _ = C33
  have hF33 : ∀ j, 28 ≤ j → j ≠ 28 → j ≠ 29 → j ≠ 30 → j < 95 → C33 j = cellE (vX X) M0 j := by
    intro j h0 q28 q29 q30 h9
    rw [← hC33]
    rw [cup_ne _ q30]
    exact hF32 j h0 q28 q29 q30 (by omega)
  have hB33 : ∀ j, j < 28 → C33 j = C j := fun j hj => by rw [← hC33, cup_ne _ (by omega)]; exact hB32 j hj
  have f28 : C33 28 = .inr (6, [.int 0, .ref ((vX X).2.2.2.2.2 + 29), .ref ((vX X).2.2.2.2.2 + 30), .ref ((vX X).2.2.2.2.2 + 31), .ref ((vX X).2.2.2.2.2 + 32)]) := by rw [← hC33, cup_ne _ (by decide)]; exact f28
  have f29 : C33 29 = .inl ((vX X).2.2.2.2.1, 6, .inr (.inr (.inr (.inr (va_up (va_up (va_up (va_up (fun _ => none) (Int.toNat 0) (some ((vX X).2.2.2.2.2 + 39))) (Int.toNat 1) (some ((vX X).2.2.2.2.2 + 53))) (Int.toNat 2) (some ((vX X).2.2.2.2.2 + 67))) (Int.toNat 3) (some ((vX X).2.2.2.2.2 + 81))))))) := by rw [← hC33, cup_ne _ (by decide)]; exact f29
  have f30 : C33 30 = .inl ((vX X).2.2.2.2.1, 6, .inr (.inr (.inr (.inr (va_up (va_up (va_up (va_up (fun _ => none) (Int.toNat 0) (some ((vX X).2.2.2.2.2 + 46))) (Int.toNat 1) (some ((vX X).2.2.2.2.2 + 60))) (Int.toNat 2) (some ((vX X).2.2.2.2.2 + 74))) (Int.toNat 3) (some ((vX X).2.2.2.2.2 + 88))))))) := by rw [← hC33, cup_same] <;> rfl
  clear hC33
  refine bm_iinc (v := 4) (pc := 75) G dX6_init_75 rfl (nlx hn rfl) rfl (by decide) ?_
  refine bm_goto (pc := 78) (ls := [(16, _), (0, _)]) G 43 dX6_init_78 (by decide) ?_
  refine bm_iload (i := 1) (pc := 43) G dX6_init_43 rfl rfl ?_
  refine bm_bipush (pc := 44) G dX6_init_44 (by decide) ?_
  refine bm_gen (pc := 46) G 81 dX6_init_46 (by decide) (by decide) ?_
  refine bm_aload (i := 0) (t := 13) (pc := 49) G dX6_init_49 rfl rfl rfl (by decide) ?_
  refine bm_getr (t := 19999) (o := 28) (q := 29) (fs := [.int 0, .ref ((vX X).2.2.2.2.2 + 29), .ref ((vX X).2.2.2.2.2 + 30), .ref ((vX X).2.2.2.2.2 + 31), .ref ((vX X).2.2.2.2.2 + 32)]) (pc := 50) G 6 1 dX6_init_50 rfl inX6 (by decide) tw_f_RX6_11 rfl (by decide) f28 rfl ?_
  refine bm_iload (i := 1) (pc := 53) G dX6_init_53 rfl rfl ?_
  refine bm_new (fs := [.int 0, .null, .null, .null, .null, .null, .null]) (pc := 54) G 7 tyX7 dX6_init_54 rfl inX7 tyX7_ok (by decide) tw_l_RX6_9 tw_x_RX7 tw_z_RX7 (hR.le (by decide) (by decide)) ?_
  generalize hC34 : cup C33 95 _ = C34
  have hF34 : ∀ j, 28 ≤ j → j ≠ 28 → j ≠ 29 → j ≠ 30 → j ≠ 95 → j < 96 → C34 j = cellE (vX X) M0 j := by
    intro j h0 q28 q29 q30 q95 h9
    rw [← hC34]
    rw [cup_ne _ q95]
    exact hF33 j h0 q28 q29 q30 (by omega)
  have hB34 : ∀ j, j < 28 → C34 j = C j := fun j hj => by rw [← hC34, cup_ne _ (by omega)]; exact hB33 j hj
  have f28 : C34 28 = .inr (6, [.int 0, .ref ((vX X).2.2.2.2.2 + 29), .ref ((vX X).2.2.2.2.2 + 30), .ref ((vX X).2.2.2.2.2 + 31), .ref ((vX X).2.2.2.2.2 + 32)]) := by rw [← hC34, cup_ne _ (by decide)]; exact f28
  have f29 : C34 29 = .inl ((vX X).2.2.2.2.1, 6, .inr (.inr (.inr (.inr (va_up (va_up (va_up (va_up (fun _ => none) (Int.toNat 0) (some ((vX X).2.2.2.2.2 + 39))) (Int.toNat 1) (some ((vX X).2.2.2.2.2 + 53))) (Int.toNat 2) (some ((vX X).2.2.2.2.2 + 67))) (Int.toNat 3) (some ((vX X).2.2.2.2.2 + 81))))))) := by rw [← hC34, cup_ne _ (by decide)]; exact f29
  have f30 : C34 30 = .inl ((vX X).2.2.2.2.1, 6, .inr (.inr (.inr (.inr (va_up (va_up (va_up (va_up (fun _ => none) (Int.toNat 0) (some ((vX X).2.2.2.2.2 + 46))) (Int.toNat 1) (some ((vX X).2.2.2.2.2 + 60))) (Int.toNat 2) (some ((vX X).2.2.2.2.2 + 74))) (Int.toNat 3) (some ((vX X).2.2.2.2.2 + 88))))))) := by rw [← hC34, cup_ne _ (by decide)]; exact f30
  have f95 : C34 95 = .inr (7, [.int 0, .null, .null, .null, .null, .null, .null]) := by rw [← hC34, cup_same] <;> rfl
  clear hC34
  refine bm_dup (pc := 57) G dX6_init_57 (Nat.ne_of_beq_eq_false rfl) ?_
  refine bm_callN (t := 14) (nc := 6) (ns := 96) (st := [(17, _), (0, _), (20002, _)]) (rmc := rm_X7_init) (pc := 58) G [] rfl dX6_init_58 (by decide) tw_n_RX6_24 tw_i_X7_init tw_z_RX7 tw_c_X7_init hy_X7_init (by rw [hr]; exact ⟨rfl, rfl, Nat.le_of_ble_eq_true rfl, Nat.le_of_ble_eq_true rfl⟩) rfl (hR.le (by decide) (by decide)) ?_
  refine ctor_T (vX X) 95 (by decide) _ f95 (fun C35 hL hN => ?_)
  show BW X 73 1050 61 _ [(17, _), (0, _), (20002, _)] C35 102
  have hF35 : ∀ j, 28 ≤ j → j ≠ 28 → j ≠ 29 → j ≠ 30 → j < 102 → C35 j = cellE (vX X) M0 j := by
    intro j h0 q28 q29 q30 h9
    by_cases h : j < 95
    · rw [hL j h]; exact hF34 j h0 q28 q29 q30 (by omega) (by omega)
    · exact hN j (by omega) h9
  have hB35 : ∀ j, j < 28 → C35 j = C j := fun j hj => by rw [hL j (by omega)]; exact hB34 j hj
  have f28 : C35 28 = .inr (6, [.int 0, .ref ((vX X).2.2.2.2.2 + 29), .ref ((vX X).2.2.2.2.2 + 30), .ref ((vX X).2.2.2.2.2 + 31), .ref ((vX X).2.2.2.2.2 + 32)]) := by rw [hL 28 (by decide)]; exact f28
  have f29 : C35 29 = .inl ((vX X).2.2.2.2.1, 6, .inr (.inr (.inr (.inr (va_up (va_up (va_up (va_up (fun _ => none) (Int.toNat 0) (some ((vX X).2.2.2.2.2 + 39))) (Int.toNat 1) (some ((vX X).2.2.2.2.2 + 53))) (Int.toNat 2) (some ((vX X).2.2.2.2.2 + 67))) (Int.toNat 3) (some ((vX X).2.2.2.2.2 + 81))))))) := by rw [hL 29 (by decide)]; exact f29
  have f30 : C35 30 = .inl ((vX X).2.2.2.2.1, 6, .inr (.inr (.inr (.inr (va_up (va_up (va_up (va_up (fun _ => none) (Int.toNat 0) (some ((vX X).2.2.2.2.2 + 46))) (Int.toNat 1) (some ((vX X).2.2.2.2.2 + 60))) (Int.toNat 2) (some ((vX X).2.2.2.2.2 + 74))) (Int.toNat 3) (some ((vX X).2.2.2.2.2 + 88))))))) := by rw [hL 30 (by decide)]; exact f30
  have e95 : C35 95 = .inr (7, _) := (hF35 95 (by decide) (by decide) (by decide) (by decide) (by decide)).trans (tree_fin (vX X) (k := 95) (by decide) 0 (by decide))
  clear hL hN
  refine bm_aast (t := 19999) (o := 29) (N := 6) (q := 95) (pc := 61) G 7 dX6_init_61 (by decide) f29 (by decide) (e95) rfl rfl (by decide) (by decide) ?_
  generalize hC36 : cup C35 29 _ = C36
  have hF36 : ∀ j, 28 ≤ j → j ≠ 28 → j ≠ 29 → j ≠ 30 → j < 102 → C36 j = cellE (vX X) M0 j := by
    intro j h0 q28 q29 q30 h9
    rw [← hC36]
    rw [cup_ne _ q29]
    exact hF35 j h0 q28 q29 q30 (by omega)
  have hB36 : ∀ j, j < 28 → C36 j = C j := fun j hj => by rw [← hC36, cup_ne _ (by omega)]; exact hB35 j hj
  have f28 : C36 28 = .inr (6, [.int 0, .ref ((vX X).2.2.2.2.2 + 29), .ref ((vX X).2.2.2.2.2 + 30), .ref ((vX X).2.2.2.2.2 + 31), .ref ((vX X).2.2.2.2.2 + 32)]) := by rw [← hC36, cup_ne _ (by decide)]; exact f28
  have f29 : C36 29 = .inl ((vX X).2.2.2.2.1, 6, .inr (.inr (.inr (.inr (va_up (va_up (va_up (va_up (va_up (fun _ => none) (Int.toNat 0) (some ((vX X).2.2.2.2.2 + 39))) (Int.toNat 1) (some ((vX X).2.2.2.2.2 + 53))) (Int.toNat 2) (some ((vX X).2.2.2.2.2 + 67))) (Int.toNat 3) (some ((vX X).2.2.2.2.2 + 81))) (Int.toNat 4) (some ((vX X).2.2.2.2.2 + 95))))))) := by rw [← hC36, cup_same] <;> rfl
  have f30 : C36 30 = .inl ((vX X).2.2.2.2.1, 6, .inr (.inr (.inr (.inr (va_up (va_up (va_up (va_up (fun _ => none) (Int.toNat 0) (some ((vX X).2.2.2.2.2 + 46))) (Int.toNat 1) (some ((vX X).2.2.2.2.2 + 60))) (Int.toNat 2) (some ((vX X).2.2.2.2.2 + 74))) (Int.toNat 3) (some ((vX X).2.2.2.2.2 + 88))))))) := by rw [← hC36, cup_ne _ (by decide)]; exact f30
  clear hC36
  refine bm_aload (i := 0) (t := 13) (pc := 62) G dX6_init_62 rfl rfl rfl (by decide) ?_
  refine bm_getr (t := 20000) (o := 28) (q := 30) (fs := [.int 0, .ref ((vX X).2.2.2.2.2 + 29), .ref ((vX X).2.2.2.2.2 + 30), .ref ((vX X).2.2.2.2.2 + 31), .ref ((vX X).2.2.2.2.2 + 32)]) (pc := 63) G 6 2 dX6_init_63 rfl inX6 (by decide) tw_f_RX6_17 rfl (by decide) f28 rfl ?_
  refine bm_iload (i := 1) (pc := 66) G dX6_init_66 rfl rfl ?_
  refine bm_new (fs := [.int 0, .null, .null, .null, .null, .null, .null]) (pc := 67) G 7 tyX7 dX6_init_67 rfl inX7 tyX7_ok (by decide) tw_l_RX6_9 tw_x_RX7 tw_z_RX7 (hR.le (by decide) (by decide)) ?_
  generalize hC37 : cup C36 102 _ = C37
  have hF37 : ∀ j, 28 ≤ j → j ≠ 28 → j ≠ 29 → j ≠ 30 → j ≠ 102 → j < 103 → C37 j = cellE (vX X) M0 j := by
    intro j h0 q28 q29 q30 q102 h9
    rw [← hC37]
    rw [cup_ne _ q102]
    exact hF36 j h0 q28 q29 q30 (by omega)
  have hB37 : ∀ j, j < 28 → C37 j = C j := fun j hj => by rw [← hC37, cup_ne _ (by omega)]; exact hB36 j hj
  have f28 : C37 28 = .inr (6, [.int 0, .ref ((vX X).2.2.2.2.2 + 29), .ref ((vX X).2.2.2.2.2 + 30), .ref ((vX X).2.2.2.2.2 + 31), .ref ((vX X).2.2.2.2.2 + 32)]) := by rw [← hC37, cup_ne _ (by decide)]; exact f28
  have f29 : C37 29 = .inl ((vX X).2.2.2.2.1, 6, .inr (.inr (.inr (.inr (va_up (va_up (va_up (va_up (va_up (fun _ => none) (Int.toNat 0) (some ((vX X).2.2.2.2.2 + 39))) (Int.toNat 1) (some ((vX X).2.2.2.2.2 + 53))) (Int.toNat 2) (some ((vX X).2.2.2.2.2 + 67))) (Int.toNat 3) (some ((vX X).2.2.2.2.2 + 81))) (Int.toNat 4) (some ((vX X).2.2.2.2.2 + 95))))))) := by rw [← hC37, cup_ne _ (by decide)]; exact f29
  have f30 : C37 30 = .inl ((vX X).2.2.2.2.1, 6, .inr (.inr (.inr (.inr (va_up (va_up (va_up (va_up (fun _ => none) (Int.toNat 0) (some ((vX X).2.2.2.2.2 + 46))) (Int.toNat 1) (some ((vX X).2.2.2.2.2 + 60))) (Int.toNat 2) (some ((vX X).2.2.2.2.2 + 74))) (Int.toNat 3) (some ((vX X).2.2.2.2.2 + 88))))))) := by rw [← hC37, cup_ne _ (by decide)]; exact f30
  have f102 : C37 102 = .inr (7, [.int 0, .null, .null, .null, .null, .null, .null]) := by rw [← hC37, cup_same] <;> rfl
  clear hC37
  refine bm_dup (pc := 70) G dX6_init_70 (Nat.ne_of_beq_eq_false rfl) ?_
  refine bm_callN (t := 14) (nc := 6) (ns := 96) (st := [(17, _), (0, _), (20003, _)]) (rmc := rm_X7_init) (pc := 71) G [] rfl dX6_init_71 (by decide) tw_n_RX6_24 tw_i_X7_init tw_z_RX7 tw_c_X7_init hy_X7_init (by rw [hr]; exact ⟨rfl, rfl, Nat.le_of_ble_eq_true rfl, Nat.le_of_ble_eq_true rfl⟩) rfl (hR.le (by decide) (by decide)) ?_
  refine ctor_T (vX X) 102 (by decide) _ f102 (fun C38 hL hN => ?_)
  show BW X 80 1153 74 _ [(17, _), (0, _), (20003, _)] C38 109
  have hF38 : ∀ j, 28 ≤ j → j ≠ 28 → j ≠ 29 → j ≠ 30 → j < 109 → C38 j = cellE (vX X) M0 j := by
    intro j h0 q28 q29 q30 h9
    by_cases h : j < 102
    · rw [hL j h]; exact hF37 j h0 q28 q29 q30 (by omega) (by omega)
    · exact hN j (by omega) h9
  have hB38 : ∀ j, j < 28 → C38 j = C j := fun j hj => by rw [hL j (by omega)]; exact hB37 j hj
  have f28 : C38 28 = .inr (6, [.int 0, .ref ((vX X).2.2.2.2.2 + 29), .ref ((vX X).2.2.2.2.2 + 30), .ref ((vX X).2.2.2.2.2 + 31), .ref ((vX X).2.2.2.2.2 + 32)]) := by rw [hL 28 (by decide)]; exact f28
  have f29 : C38 29 = .inl ((vX X).2.2.2.2.1, 6, .inr (.inr (.inr (.inr (va_up (va_up (va_up (va_up (va_up (fun _ => none) (Int.toNat 0) (some ((vX X).2.2.2.2.2 + 39))) (Int.toNat 1) (some ((vX X).2.2.2.2.2 + 53))) (Int.toNat 2) (some ((vX X).2.2.2.2.2 + 67))) (Int.toNat 3) (some ((vX X).2.2.2.2.2 + 81))) (Int.toNat 4) (some ((vX X).2.2.2.2.2 + 95))))))) := by rw [hL 29 (by decide)]; exact f29
  have f30 : C38 30 = .inl ((vX X).2.2.2.2.1, 6, .inr (.inr (.inr (.inr (va_up (va_up (va_up (va_up (fun _ => none) (Int.toNat 0) (some ((vX X).2.2.2.2.2 + 46))) (Int.toNat 1) (some ((vX X).2.2.2.2.2 + 60))) (Int.toNat 2) (some ((vX X).2.2.2.2.2 + 74))) (Int.toNat 3) (some ((vX X).2.2.2.2.2 + 88))))))) := by rw [hL 30 (by decide)]; exact f30
  have e102 : C38 102 = .inr (7, _) := (hF38 102 (by decide) (by decide) (by decide) (by decide) (by decide)).trans (tree_fin (vX X) (k := 102) (by decide) 0 (by decide))
  clear hL hN
  refine bm_aast (t := 20000) (o := 30) (N := 6) (q := 102) (pc := 74) G 7 dX6_init_74 (by decide) f30 (by decide) (e102) rfl rfl (by decide) (by decide) ?_
  generalize hC39 : cup C38 30 _ = C39
  have hF39 : ∀ j, 28 ≤ j → j ≠ 28 → j ≠ 29 → j ≠ 30 → j < 109 → C39 j = cellE (vX X) M0 j := by
    intro j h0 q28 q29 q30 h9
    rw [← hC39]
    rw [cup_ne _ q30]
    exact hF38 j h0 q28 q29 q30 (by omega)
  have hB39 : ∀ j, j < 28 → C39 j = C j := fun j hj => by rw [← hC39, cup_ne _ (by omega)]; exact hB38 j hj
  have f28 : C39 28 = .inr (6, [.int 0, .ref ((vX X).2.2.2.2.2 + 29), .ref ((vX X).2.2.2.2.2 + 30), .ref ((vX X).2.2.2.2.2 + 31), .ref ((vX X).2.2.2.2.2 + 32)]) := by rw [← hC39, cup_ne _ (by decide)]; exact f28
  have f29 : C39 29 = .inl ((vX X).2.2.2.2.1, 6, .inr (.inr (.inr (.inr (va_up (va_up (va_up (va_up (va_up (fun _ => none) (Int.toNat 0) (some ((vX X).2.2.2.2.2 + 39))) (Int.toNat 1) (some ((vX X).2.2.2.2.2 + 53))) (Int.toNat 2) (some ((vX X).2.2.2.2.2 + 67))) (Int.toNat 3) (some ((vX X).2.2.2.2.2 + 81))) (Int.toNat 4) (some ((vX X).2.2.2.2.2 + 95))))))) := by rw [← hC39, cup_ne _ (by decide)]; exact f29
  have f30 : C39 30 = .inl ((vX X).2.2.2.2.1, 6, .inr (.inr (.inr (.inr (va_up (va_up (va_up (va_up (va_up (fun _ => none) (Int.toNat 0) (some ((vX X).2.2.2.2.2 + 46))) (Int.toNat 1) (some ((vX X).2.2.2.2.2 + 60))) (Int.toNat 2) (some ((vX X).2.2.2.2.2 + 74))) (Int.toNat 3) (some ((vX X).2.2.2.2.2 + 88))) (Int.toNat 4) (some ((vX X).2.2.2.2.2 + 102))))))) := by rw [← hC39, cup_same] <;> rfl
  clear hC39
  refine bm_iinc (v := 5) (pc := 75) G dX6_init_75 rfl (nlx hn rfl) rfl (by decide) ?_
  refine bm_goto (pc := 78) (ls := [(16, _), (0, _)]) G 43 dX6_init_78 (by decide) ?_
  refine bm_iload (i := 1) (pc := 43) G dX6_init_43 rfl rfl ?_
  refine bm_bipush (pc := 44) G dX6_init_44 (by decide) ?_
  refine bm_gen (pc := 46) G 81 dX6_init_46 (by decide) (by decide) ?_
  refine bm_aload (i := 0) (t := 13) (pc := 49) G dX6_init_49 rfl rfl rfl (by decide) ?_
  refine bm_getr (t := 19999) (o := 28) (q := 29) (fs := [.int 0, .ref ((vX X).2.2.2.2.2 + 29), .ref ((vX X).2.2.2.2.2 + 30), .ref ((vX X).2.2.2.2.2 + 31), .ref ((vX X).2.2.2.2.2 + 32)]) (pc := 50) G 6 1 dX6_init_50 rfl inX6 (by decide) tw_f_RX6_11 rfl (by decide) f28 rfl ?_
  refine bm_iload (i := 1) (pc := 53) G dX6_init_53 rfl rfl ?_
  refine bm_new (fs := [.int 0, .null, .null, .null, .null, .null, .null]) (pc := 54) G 7 tyX7 dX6_init_54 rfl inX7 tyX7_ok (by decide) tw_l_RX6_9 tw_x_RX7 tw_z_RX7 (hR.le (by decide) (by decide)) ?_
  generalize hC40 : cup C39 109 _ = C40
  have hF40 : ∀ j, 28 ≤ j → j ≠ 28 → j ≠ 29 → j ≠ 30 → j ≠ 109 → j < 110 → C40 j = cellE (vX X) M0 j := by
    intro j h0 q28 q29 q30 q109 h9
    rw [← hC40]
    rw [cup_ne _ q109]
    exact hF39 j h0 q28 q29 q30 (by omega)
  have hB40 : ∀ j, j < 28 → C40 j = C j := fun j hj => by rw [← hC40, cup_ne _ (by omega)]; exact hB39 j hj
  have f28 : C40 28 = .inr (6, [.int 0, .ref ((vX X).2.2.2.2.2 + 29), .ref ((vX X).2.2.2.2.2 + 30), .ref ((vX X).2.2.2.2.2 + 31), .ref ((vX X).2.2.2.2.2 + 32)]) := by rw [← hC40, cup_ne _ (by decide)]; exact f28
  have f29 : C40 29 = .inl ((vX X).2.2.2.2.1, 6, .inr (.inr (.inr (.inr (va_up (va_up (va_up (va_up (va_up (fun _ => none) (Int.toNat 0) (some ((vX X).2.2.2.2.2 + 39))) (Int.toNat 1) (some ((vX X).2.2.2.2.2 + 53))) (Int.toNat 2) (some ((vX X).2.2.2.2.2 + 67))) (Int.toNat 3) (some ((vX X).2.2.2.2.2 + 81))) (Int.toNat 4) (some ((vX X).2.2.2.2.2 + 95))))))) := by rw [← hC40, cup_ne _ (by decide)]; exact f29
  have f30 : C40 30 = .inl ((vX X).2.2.2.2.1, 6, .inr (.inr (.inr (.inr (va_up (va_up (va_up (va_up (va_up (fun _ => none) (Int.toNat 0) (some ((vX X).2.2.2.2.2 + 46))) (Int.toNat 1) (some ((vX X).2.2.2.2.2 + 60))) (Int.toNat 2) (some ((vX X).2.2.2.2.2 + 74))) (Int.toNat 3) (some ((vX X).2.2.2.2.2 + 88))) (Int.toNat 4) (some ((vX X).2.2.2.2.2 + 102))))))) := by rw [← hC40, cup_ne _ (by decide)]; exact f30
  have f109 : C40 109 = .inr (7, [.int 0, .null, .null, .null, .null, .null, .null]) := by rw [← hC40, cup_same] <;> rfl
  clear hC40
  refine bm_dup (pc := 57) G dX6_init_57 (Nat.ne_of_beq_eq_false rfl) ?_
  refine bm_callN (t := 14) (nc := 6) (ns := 96) (st := [(17, _), (0, _), (20002, _)]) (rmc := rm_X7_init) (pc := 58) G [] rfl dX6_init_58 (by decide) tw_n_RX6_24 tw_i_X7_init tw_z_RX7 tw_c_X7_init hy_X7_init (by rw [hr]; exact ⟨rfl, rfl, Nat.le_of_ble_eq_true rfl, Nat.le_of_ble_eq_true rfl⟩) rfl (hR.le (by decide) (by decide)) ?_
  refine ctor_T (vX X) 109 (by decide) _ f109 (fun C41 hL hN => ?_)
  show BW X 87 1256 61 _ [(17, _), (0, _), (20002, _)] C41 116
  have hF41 : ∀ j, 28 ≤ j → j ≠ 28 → j ≠ 29 → j ≠ 30 → j < 116 → C41 j = cellE (vX X) M0 j := by
    intro j h0 q28 q29 q30 h9
    by_cases h : j < 109
    · rw [hL j h]; exact hF40 j h0 q28 q29 q30 (by omega) (by omega)
    · exact hN j (by omega) h9
  have hB41 : ∀ j, j < 28 → C41 j = C j := fun j hj => by rw [hL j (by omega)]; exact hB40 j hj
  have f28 : C41 28 = .inr (6, [.int 0, .ref ((vX X).2.2.2.2.2 + 29), .ref ((vX X).2.2.2.2.2 + 30), .ref ((vX X).2.2.2.2.2 + 31), .ref ((vX X).2.2.2.2.2 + 32)]) := by rw [hL 28 (by decide)]; exact f28
  have f29 : C41 29 = .inl ((vX X).2.2.2.2.1, 6, .inr (.inr (.inr (.inr (va_up (va_up (va_up (va_up (va_up (fun _ => none) (Int.toNat 0) (some ((vX X).2.2.2.2.2 + 39))) (Int.toNat 1) (some ((vX X).2.2.2.2.2 + 53))) (Int.toNat 2) (some ((vX X).2.2.2.2.2 + 67))) (Int.toNat 3) (some ((vX X).2.2.2.2.2 + 81))) (Int.toNat 4) (some ((vX X).2.2.2.2.2 + 95))))))) := by rw [hL 29 (by decide)]; exact f29
  have f30 : C41 30 = .inl ((vX X).2.2.2.2.1, 6, .inr (.inr (.inr (.inr (va_up (va_up (va_up (va_up (va_up (fun _ => none) (Int.toNat 0) (some ((vX X).2.2.2.2.2 + 46))) (Int.toNat 1) (some ((vX X).2.2.2.2.2 + 60))) (Int.toNat 2) (some ((vX X).2.2.2.2.2 + 74))) (Int.toNat 3) (some ((vX X).2.2.2.2.2 + 88))) (Int.toNat 4) (some ((vX X).2.2.2.2.2 + 102))))))) := by rw [hL 30 (by decide)]; exact f30
  have e109 : C41 109 = .inr (7, _) := (hF41 109 (by decide) (by decide) (by decide) (by decide) (by decide)).trans (tree_fin (vX X) (k := 109) (by decide) 0 (by decide))
  clear hL hN
  refine bm_aast (t := 19999) (o := 29) (N := 6) (q := 109) (pc := 61) G 7 dX6_init_61 (by decide) f29 (by decide) (e109) rfl rfl (by decide) (by decide) ?_
  generalize hC42 : cup C41 29 _ = C42
  have hF42 : ∀ j, 28 ≤ j → j ≠ 28 → j ≠ 29 → j ≠ 30 → j < 116 → C42 j = cellE (vX X) M0 j := by
    intro j h0 q28 q29 q30 h9
    rw [← hC42]
    rw [cup_ne _ q29]
    exact hF41 j h0 q28 q29 q30 (by omega)
  have hB42 : ∀ j, j < 28 → C42 j = C j := fun j hj => by rw [← hC42, cup_ne _ (by omega)]; exact hB41 j hj
  have f28 : C42 28 = .inr (6, [.int 0, .ref ((vX X).2.2.2.2.2 + 29), .ref ((vX X).2.2.2.2.2 + 30), .ref ((vX X).2.2.2.2.2 + 31), .ref ((vX X).2.2.2.2.2 + 32)]) := by rw [← hC42, cup_ne _ (by decide)]; exact f28
  have f29 : C42 29 = .inl ((vX X).2.2.2.2.1, 6, .inr (.inr (.inr (.inr (va_up (va_up (va_up (va_up (va_up (va_up (fun _ => none) (Int.toNat 0) (some ((vX X).2.2.2.2.2 + 39))) (Int.toNat 1) (some ((vX X).2.2.2.2.2 + 53))) (Int.toNat 2) (some ((vX X).2.2.2.2.2 + 67))) (Int.toNat 3) (some ((vX X).2.2.2.2.2 + 81))) (Int.toNat 4) (some ((vX X).2.2.2.2.2 + 95))) (Int.toNat 5) (some ((vX X).2.2.2.2.2 + 109))))))) := by rw [← hC42, cup_same] <;> rfl
  have f30 : C42 30 = .inl ((vX X).2.2.2.2.1, 6, .inr (.inr (.inr (.inr (va_up (va_up (va_up (va_up (va_up (fun _ => none) (Int.toNat 0) (some ((vX X).2.2.2.2.2 + 46))) (Int.toNat 1) (some ((vX X).2.2.2.2.2 + 60))) (Int.toNat 2) (some ((vX X).2.2.2.2.2 + 74))) (Int.toNat 3) (some ((vX X).2.2.2.2.2 + 88))) (Int.toNat 4) (some ((vX X).2.2.2.2.2 + 102))))))) := by rw [← hC42, cup_ne _ (by decide)]; exact f30
  clear hC42
  refine bm_aload (i := 0) (t := 13) (pc := 62) G dX6_init_62 rfl rfl rfl (by decide) ?_
  refine bm_getr (t := 20000) (o := 28) (q := 30) (fs := [.int 0, .ref ((vX X).2.2.2.2.2 + 29), .ref ((vX X).2.2.2.2.2 + 30), .ref ((vX X).2.2.2.2.2 + 31), .ref ((vX X).2.2.2.2.2 + 32)]) (pc := 63) G 6 2 dX6_init_63 rfl inX6 (by decide) tw_f_RX6_17 rfl (by decide) f28 rfl ?_
  refine bm_iload (i := 1) (pc := 66) G dX6_init_66 rfl rfl ?_
  refine bm_new (fs := [.int 0, .null, .null, .null, .null, .null, .null]) (pc := 67) G 7 tyX7 dX6_init_67 rfl inX7 tyX7_ok (by decide) tw_l_RX6_9 tw_x_RX7 tw_z_RX7 (hR.le (by decide) (by decide)) ?_
  generalize hC43 : cup C42 116 _ = C43
  have hF43 : ∀ j, 28 ≤ j → j ≠ 28 → j ≠ 29 → j ≠ 30 → j ≠ 116 → j < 117 → C43 j = cellE (vX X) M0 j := by
    intro j h0 q28 q29 q30 q116 h9
    rw [← hC43]
    rw [cup_ne _ q116]
    exact hF42 j h0 q28 q29 q30 (by omega)
  have hB43 : ∀ j, j < 28 → C43 j = C j := fun j hj => by rw [← hC43, cup_ne _ (by omega)]; exact hB42 j hj
  have f28 : C43 28 = .inr (6, [.int 0, .ref ((vX X).2.2.2.2.2 + 29), .ref ((vX X).2.2.2.2.2 + 30), .ref ((vX X).2.2.2.2.2 + 31), .ref ((vX X).2.2.2.2.2 + 32)]) := by rw [← hC43, cup_ne _ (by decide)]; exact f28
  have f29 : C43 29 = .inl ((vX X).2.2.2.2.1, 6, .inr (.inr (.inr (.inr (va_up (va_up (va_up (va_up (va_up (va_up (fun _ => none) (Int.toNat 0) (some ((vX X).2.2.2.2.2 + 39))) (Int.toNat 1) (some ((vX X).2.2.2.2.2 + 53))) (Int.toNat 2) (some ((vX X).2.2.2.2.2 + 67))) (Int.toNat 3) (some ((vX X).2.2.2.2.2 + 81))) (Int.toNat 4) (some ((vX X).2.2.2.2.2 + 95))) (Int.toNat 5) (some ((vX X).2.2.2.2.2 + 109))))))) := by rw [← hC43, cup_ne _ (by decide)]; exact f29
  have f30 : C43 30 = .inl ((vX X).2.2.2.2.1, 6, .inr (.inr (.inr (.inr (va_up (va_up (va_up (va_up (va_up (fun _ => none) (Int.toNat 0) (some ((vX X).2.2.2.2.2 + 46))) (Int.toNat 1) (some ((vX X).2.2.2.2.2 + 60))) (Int.toNat 2) (some ((vX X).2.2.2.2.2 + 74))) (Int.toNat 3) (some ((vX X).2.2.2.2.2 + 88))) (Int.toNat 4) (some ((vX X).2.2.2.2.2 + 102))))))) := by rw [← hC43, cup_ne _ (by decide)]; exact f30
  have f116 : C43 116 = .inr (7, [.int 0, .null, .null, .null, .null, .null, .null]) := by rw [← hC43, cup_same] <;> rfl
  clear hC43
  refine bm_dup (pc := 70) G dX6_init_70 (Nat.ne_of_beq_eq_false rfl) ?_
  refine bm_callN (t := 14) (nc := 6) (ns := 96) (st := [(17, _), (0, _), (20003, _)]) (rmc := rm_X7_init) (pc := 71) G [] rfl dX6_init_71 (by decide) tw_n_RX6_24 tw_i_X7_init tw_z_RX7 tw_c_X7_init hy_X7_init (by rw [hr]; exact ⟨rfl, rfl, Nat.le_of_ble_eq_true rfl, Nat.le_of_ble_eq_true rfl⟩) rfl (hR.le (by decide) (by decide)) ?_
  refine ctor_T (vX X) 116 (by decide) _ f116 (fun C44 hL hN => ?_)
  show BW X 94 1359 74 _ [(17, _), (0, _), (20003, _)] C44 123
  have hF44 : ∀ j, 28 ≤ j → j ≠ 28 → j ≠ 29 → j ≠ 30 → j < 123 → C44 j = cellE (vX X) M0 j := by
    intro j h0 q28 q29 q30 h9
    by_cases h : j < 116
    · rw [hL j h]; exact hF43 j h0 q28 q29 q30 (by omega) (by omega)
    · exact hN j (by omega) h9
  have hB44 : ∀ j, j < 28 → C44 j = C j := fun j hj => by rw [hL j (by omega)]; exact hB43 j hj
  have f28 : C44 28 = .inr (6, [.int 0, .ref ((vX X).2.2.2.2.2 + 29), .ref ((vX X).2.2.2.2.2 + 30), .ref ((vX X).2.2.2.2.2 + 31), .ref ((vX X).2.2.2.2.2 + 32)]) := by rw [hL 28 (by decide)]; exact f28
  have f29 : C44 29 = .inl ((vX X).2.2.2.2.1, 6, .inr (.inr (.inr (.inr (va_up (va_up (va_up (va_up (va_up (va_up (fun _ => none) (Int.toNat 0) (some ((vX X).2.2.2.2.2 + 39))) (Int.toNat 1) (some ((vX X).2.2.2.2.2 + 53))) (Int.toNat 2) (some ((vX X).2.2.2.2.2 + 67))) (Int.toNat 3) (some ((vX X).2.2.2.2.2 + 81))) (Int.toNat 4) (some ((vX X).2.2.2.2.2 + 95))) (Int.toNat 5) (some ((vX X).2.2.2.2.2 + 109))))))) := by rw [hL 29 (by decide)]; exact f29
  have f30 : C44 30 = .inl ((vX X).2.2.2.2.1, 6, .inr (.inr (.inr (.inr (va_up (va_up (va_up (va_up (va_up (fun _ => none) (Int.toNat 0) (some ((vX X).2.2.2.2.2 + 46))) (Int.toNat 1) (some ((vX X).2.2.2.2.2 + 60))) (Int.toNat 2) (some ((vX X).2.2.2.2.2 + 74))) (Int.toNat 3) (some ((vX X).2.2.2.2.2 + 88))) (Int.toNat 4) (some ((vX X).2.2.2.2.2 + 102))))))) := by rw [hL 30 (by decide)]; exact f30
  have e116 : C44 116 = .inr (7, _) := (hF44 116 (by decide) (by decide) (by decide) (by decide) (by decide)).trans (tree_fin (vX X) (k := 116) (by decide) 0 (by decide))
  clear hL hN
  refine bm_aast (t := 20000) (o := 30) (N := 6) (q := 116) (pc := 74) G 7 dX6_init_74 (by decide) f30 (by decide) (e116) rfl rfl (by decide) (by decide) ?_
  generalize hC45 : cup C44 30 _ = C45
  have hF45 : ∀ j, 28 ≤ j → j ≠ 28 → j ≠ 29 → j ≠ 30 → j < 123 → C45 j = cellE (vX X) M0 j := by
    intro j h0 q28 q29 q30 h9
    rw [← hC45]
    rw [cup_ne _ q30]
    exact hF44 j h0 q28 q29 q30 (by omega)
  have hB45 : ∀ j, j < 28 → C45 j = C j := fun j hj => by rw [← hC45, cup_ne _ (by omega)]; exact hB44 j hj
  have f28 : C45 28 = .inr (6, [.int 0, .ref ((vX X).2.2.2.2.2 + 29), .ref ((vX X).2.2.2.2.2 + 30), .ref ((vX X).2.2.2.2.2 + 31), .ref ((vX X).2.2.2.2.2 + 32)]) := by rw [← hC45, cup_ne _ (by decide)]; exact f28
  have f29 : C45 29 = .inl ((vX X).2.2.2.2.1, 6, .inr (.inr (.inr (.inr (va_up (va_up (va_up (va_up (va_up (va_up (fun _ => none) (Int.toNat 0) (some ((vX X).2.2.2.2.2 + 39))) (Int.toNat 1) (some ((vX X).2.2.2.2.2 + 53))) (Int.toNat 2) (some ((vX X).2.2.2.2.2 + 67))) (Int.toNat 3) (some ((vX X).2.2.2.2.2 + 81))) (Int.toNat 4) (some ((vX X).2.2.2.2.2 + 95))) (Int.toNat 5) (some ((vX X).2.2.2.2.2 + 109))))))) := by rw [← hC45, cup_ne _ (by decide)]; exact f29
  have f30 : C45 30 = .inl ((vX X).2.2.2.2.1, 6, .inr (.inr (.inr (.inr (va_up (va_up (va_up (va_up (va_up (va_up (fun _ => none) (Int.toNat 0) (some ((vX X).2.2.2.2.2 + 46))) (Int.toNat 1) (some ((vX X).2.2.2.2.2 + 60))) (Int.toNat 2) (some ((vX X).2.2.2.2.2 + 74))) (Int.toNat 3) (some ((vX X).2.2.2.2.2 + 88))) (Int.toNat 4) (some ((vX X).2.2.2.2.2 + 102))) (Int.toNat 5) (some ((vX X).2.2.2.2.2 + 116))))))) := by rw [← hC45, cup_same] <;> rfl
  clear hC45
  refine bm_iinc (v := 6) (pc := 75) G dX6_init_75 rfl (nlx hn rfl) rfl (by decide) ?_
  refine bm_goto (pc := 78) (ls := [(16, _), (0, _)]) G 43 dX6_init_78 (by decide) ?_
  refine bm_iload (i := 1) (pc := 43) G dX6_init_43 rfl rfl ?_
  refine bm_bipush (pc := 44) G dX6_init_44 (by decide) ?_
  refine bm_get (pc := 46) G 81 dX6_init_46 (by decide) (by decide) ?_
  refine bm_ret (pc := 81) G Z dX6_init_81 ?_
  refine hq C45 hB45 (fun j h0 h9 => ?_)
  by_cases hc28 : j = 28
  · subst hc28; rw [f28]; exact fin_28 (vX X)
  by_cases hc29 : j = 29
  · subst hc29; rw [f29]; exact fin_29 (vX X)
  by_cases hc30 : j = 30
  · subst hc30; rw [f30]; exact fin_30 (vX X)
  exact hF45 j h0 hc28 hc29 hc30 h9
def rm_X8_init : Room := { frames := 1, cells := 3, slots := 1733, locals := 20 }
theorem hy_X8_init : yX8_init.cls ≠ "java/lang/invoke/MethodHandle" ∧ yX8_init.cls ≠ "java/lang/invoke/VarHandle" ∧ (parseMethodDescriptor yX8_init.desc).map (fun d => d.parameters.length) = some 1 := by decide +kernel
theorem fin_123 (V : VV) : (.inr (8, [.int 0, .ref (V.2.2.2.2.2 + 28), .ref (V.2.2.2.2.2 + 124), .ref (V.2.2.2.2.2 + 125), .ref (V.2.2.2.2.2 + 126), .int 0, .int 0]) : va_E) = cellE V M0 123 := by
  rfl
set_option maxRecDepth 20000 in
set_option maxHeartbeats 2000000 in
theorem ctor_X8_init (V : VV) (C : Nat → va_E) (hC : C 123 = .inr (8, [.int 0, .null, .null, .null, .null, .int 0, .int 0])) {Q : (Nat → va_E) → Nat → Prop} (hq : ∀ C', (∀ j, j < 123 → C' j = C j) → (∀ j, 123 ≤ j → j < 127 → C' j = cellE V M0 j) → Q C' 127) : RunsC V yX8_init (.code yX8_init cX8_init 2 none) rm_X8_init 3 1733 [(18, ((123 : Nat) : Int)), (16, ((28 : Nat) : Int))] C 124 Q := by
  refine metc_in (own := "TreeHands$Walker") (by decide +kernel) rfl rfl (Nat.le_of_ble_eq_true rfl) ?_
  intro X G Z hi hn hr hv
  subst hv
  have hR : roomC X 3 1733 := by
    obtain ⟨V0, nL, p, e, R, s, m, args, below, meth, c, cells, slots, A, Q0⟩ := X
    have hr : R = rm_X8_init := hr
    subst hr
    exact ⟨Nat.le_of_ble_eq_true rfl, Nat.le_of_ble_eq_true rfl⟩
  show BW X 0 0 0 [(18, ((123 : Nat) : Int)), (16, ((28 : Nat) : Int))] [] C 124
  have hF0 : ∀ j, 123 ≤ j → j ≠ 123 → j < 124 → C j = cellE (vX X) M0 j := fun j h1 h2 h3 => by omega
  have hB0 : ∀ j, j < 123 → C j = C j := fun _ _ => rfl
  have f123 := hC
  generalize hC0 : C = C0 at f123 hF0 ⊢
  have hB0 : ∀ j, j < 123 → C0 j = C j := fun j _ => by rw [hC0]
  clear hC0
  refine bm_aload (i := 0) (t := 15) (pc := 0) G dX8_init_0 rfl rfl rfl (by decide) ?_
  refine bm_obj (t := 15) (pc := 1) G dX8_init_1 tw_m_RX8_3 (by decide) (by rw [hr]; exact ⟨Nat.le_of_ble_eq_true rfl, Nat.le_of_ble_eq_true rfl⟩) rfl ?_
  refine bm_aload (i := 0) (t := 15) (pc := 4) G dX8_init_4 rfl rfl rfl (by decide) ?_
  refine bm_bipush (pc := 5) G dX8_init_5 (by decide) ?_
  refine bm_newi (pc := 7) G 16 dX8_init_7 (by decide) (hR.le (by decide) (by decide)) ?_
  generalize hC1 : cup C0 124 _ = C1
  have hF1 : ∀ j, 123 ≤ j → j ≠ 123 → j < 125 → C1 j = cellE (vX X) M0 j := by
    intro j h0 q123 h9
    rw [← hC1]
    by_cases h : j = 124
    · subst h; rw [cup_same]; exact (cellZ_i (vX X) (k := 124) (n := 16) rfl (by decide) (by decide)).symm
    · rw [cup_ne _ h]; exact hF0 j h0 q123 (by omega)
  have hB1 : ∀ j, j < 123 → C1 j = C j := fun j hj => by rw [← hC1, cup_ne _ (by omega)]; exact hB0 j hj
  have f123 : C1 123 = .inr (8, [.int 0, .null, .null, .null, .null, .int 0, .int 0]) := by rw [← hC1, cup_ne _ (by decide)]; exact f123
  clear hC1
  refine bm_putR (t := 113) (o := 123) (q := 124) (fs := [.int 0, .null, .null, .null, .null, .int 0, .int 0]) (pc := 9) G hi 8 2 dX8_init_9 rfl inX8 tyX8_ok nmX8 (by decide) tw_f_RX8_9 rfl rfl rfl (by decide) f123 (Nat.le_of_ble_eq_true rfl) (fun _ => rfl) (fun _ => rfl) ?_
  generalize hC2 : cup C1 123 _ = C2
  have hF2 : ∀ j, 123 ≤ j → j ≠ 123 → j < 125 → C2 j = cellE (vX X) M0 j := by
    intro j h0 q123 h9
    rw [← hC2]
    rw [cup_ne _ q123]
    exact hF1 j h0 q123 (by omega)
  have hB2 : ∀ j, j < 123 → C2 j = C j := fun j hj => by rw [← hC2, cup_ne _ (by omega)]; exact hB1 j hj
  have f123 : C2 123 = .inr (8, [.int 0, .null, .ref ((vX X).2.2.2.2.2 + 124), .null, .null, .int 0, .int 0]) := by rw [← hC2, cup_same] <;> rfl
  clear hC2
  refine bm_aload (i := 0) (t := 15) (pc := 12) G dX8_init_12 rfl rfl rfl (by decide) ?_
  refine bm_bipush (pc := 13) G dX8_init_13 (by decide) ?_
  refine bm_newi (pc := 15) G 101 dX8_init_15 (by decide) (hR.le (by decide) (by decide)) ?_
  generalize hC3 : cup C2 125 _ = C3
  have hF3 : ∀ j, 123 ≤ j → j ≠ 123 → j < 126 → C3 j = cellE (vX X) M0 j := by
    intro j h0 q123 h9
    rw [← hC3]
    by_cases h : j = 125
    · subst h; rw [cup_same]; exact (cellZ_i (vX X) (k := 125) (n := 101) rfl (by decide) (by decide)).symm
    · rw [cup_ne _ h]; exact hF2 j h0 q123 (by omega)
  have hB3 : ∀ j, j < 123 → C3 j = C j := fun j hj => by rw [← hC3, cup_ne _ (by omega)]; exact hB2 j hj
  have f123 : C3 123 = .inr (8, [.int 0, .null, .ref ((vX X).2.2.2.2.2 + 124), .null, .null, .int 0, .int 0]) := by rw [← hC3, cup_ne _ (by decide)]; exact f123
  clear hC3
  refine bm_putR (t := 198) (o := 123) (q := 125) (fs := [.int 0, .null, .ref ((vX X).2.2.2.2.2 + 124), .null, .null, .int 0, .int 0]) (pc := 17) G hi 8 3 dX8_init_17 rfl inX8 tyX8_ok nmX8 (by decide) tw_f_RX8_15 rfl rfl rfl (by decide) f123 (Nat.le_of_ble_eq_true rfl) (fun _ => rfl) (fun _ => rfl) ?_
  generalize hC4 : cup C3 123 _ = C4
  have hF4 : ∀ j, 123 ≤ j → j ≠ 123 → j < 126 → C4 j = cellE (vX X) M0 j := by
    intro j h0 q123 h9
    rw [← hC4]
    rw [cup_ne _ q123]
    exact hF3 j h0 q123 (by omega)
  have hB4 : ∀ j, j < 123 → C4 j = C j := fun j hj => by rw [← hC4, cup_ne _ (by omega)]; exact hB3 j hj
  have f123 : C4 123 = .inr (8, [.int 0, .null, .ref ((vX X).2.2.2.2.2 + 124), .ref ((vX X).2.2.2.2.2 + 125), .null, .int 0, .int 0]) := by rw [← hC4, cup_same] <;> rfl
  clear hC4
  refine bm_aload (i := 0) (t := 15) (pc := 20) G dX8_init_20 rfl rfl rfl (by decide) ?_
  refine bm_sipush (pc := 21) G dX8_init_21 (by decide) ?_
  refine bm_newi (pc := 24) G 1616 dX8_init_24 (by decide) (hR.le (by decide) (by decide)) ?_
  generalize hC5 : cup C4 126 _ = C5
  have hF5 : ∀ j, 123 ≤ j → j ≠ 123 → j < 127 → C5 j = cellE (vX X) M0 j := by
    intro j h0 q123 h9
    rw [← hC5]
    by_cases h : j = 126
    · subst h; rw [cup_same]; exact (cellZ_i (vX X) (k := 126) (n := 1616) rfl (by decide) (by decide)).symm
    · rw [cup_ne _ h]; exact hF4 j h0 q123 (by omega)
  have hB5 : ∀ j, j < 123 → C5 j = C j := fun j hj => by rw [← hC5, cup_ne _ (by omega)]; exact hB4 j hj
  have f123 : C5 123 = .inr (8, [.int 0, .null, .ref ((vX X).2.2.2.2.2 + 124), .ref ((vX X).2.2.2.2.2 + 125), .null, .int 0, .int 0]) := by rw [← hC5, cup_ne _ (by decide)]; exact f123
  clear hC5
  refine bm_putR (t := 1713) (o := 123) (q := 126) (fs := [.int 0, .null, .ref ((vX X).2.2.2.2.2 + 124), .ref ((vX X).2.2.2.2.2 + 125), .null, .int 0, .int 0]) (pc := 26) G hi 8 4 dX8_init_26 rfl inX8 tyX8_ok nmX8 (by decide) tw_f_RX8_18 rfl rfl rfl (by decide) f123 (Nat.le_of_ble_eq_true rfl) (fun _ => rfl) (fun _ => rfl) ?_
  generalize hC6 : cup C5 123 _ = C6
  have hF6 : ∀ j, 123 ≤ j → j ≠ 123 → j < 127 → C6 j = cellE (vX X) M0 j := by
    intro j h0 q123 h9
    rw [← hC6]
    rw [cup_ne _ q123]
    exact hF5 j h0 q123 (by omega)
  have hB6 : ∀ j, j < 123 → C6 j = C j := fun j hj => by rw [← hC6, cup_ne _ (by omega)]; exact hB5 j hj
  have f123 : C6 123 = .inr (8, [.int 0, .null, .ref ((vX X).2.2.2.2.2 + 124), .ref ((vX X).2.2.2.2.2 + 125), .ref ((vX X).2.2.2.2.2 + 126), .int 0, .int 0]) := by rw [← hC6, cup_same] <;> rfl
  clear hC6
  refine bm_aload (i := 0) (t := 15) (pc := 29) G dX8_init_29 rfl rfl rfl (by decide) ?_
  refine bm_aload (i := 1) (t := 13) (pc := 30) G dX8_init_30 rfl rfl rfl (by decide) ?_
  refine bm_putR (t := 13) (o := 123) (q := 28) (fs := [.int 0, .null, .ref ((vX X).2.2.2.2.2 + 124), .ref ((vX X).2.2.2.2.2 + 125), .ref ((vX X).2.2.2.2.2 + 126), .int 0, .int 0]) (pc := 31) G hi 8 1 dX8_init_31 rfl inX8 tyX8_ok nmX8 (by decide) tw_f_RX8_21 rfl rfl rfl (by decide) f123 (Nat.le_of_ble_eq_true rfl) (fun _ => rfl) (fun _ => rfl) ?_
  generalize hC7 : cup C6 123 _ = C7
  have hF7 : ∀ j, 123 ≤ j → j ≠ 123 → j < 127 → C7 j = cellE (vX X) M0 j := by
    intro j h0 q123 h9
    rw [← hC7]
    rw [cup_ne _ q123]
    exact hF6 j h0 q123 (by omega)
  have hB7 : ∀ j, j < 123 → C7 j = C j := fun j hj => by rw [← hC7, cup_ne _ (by omega)]; exact hB6 j hj
  have f123 : C7 123 = .inr (8, [.int 0, .ref ((vX X).2.2.2.2.2 + 28), .ref ((vX X).2.2.2.2.2 + 124), .ref ((vX X).2.2.2.2.2 + 125), .ref ((vX X).2.2.2.2.2 + 126), .int 0, .int 0]) := by rw [← hC7, cup_same] <;> rfl
  clear hC7
  refine bm_ret (pc := 34) G Z dX8_init_34 ?_
  refine hq C7 hB7 (fun j h0 h9 => ?_)
  by_cases hc123 : j = 123
  · subst hc123; rw [f123]; exact fin_123 (vX X)
  exact hF7 j h0 hc123 h9
def rm_X1_init : Room := { frames := 1, cells := 10, slots := 512, locals := 20 }
theorem hy_X1_init : yX1_init.cls ≠ "java/lang/invoke/MethodHandle" ∧ yX1_init.cls ≠ "java/lang/invoke/VarHandle" ∧ (parseMethodDescriptor yX1_init.desc).map (fun d => d.parameters.length) = some 0 := by decide +kernel
theorem fin_129 (V : VV) : (.inr (1, [.ref (V.2.2.2.2.2 + 130), .ref (V.2.2.2.2.2 + 131), .ref (V.2.2.2.2.2 + 132), .ref (V.2.2.2.2.2 + 133), .ref (V.2.2.2.2.2 + 134), .ref (V.2.2.2.2.2 + 135), .ref (V.2.2.2.2.2 + 136), .ref (V.2.2.2.2.2 + 137), .ref (V.2.2.2.2.2 + 138), .int 0, .ref (V.2.2.2.2.2 + 139)]) : va_E) = cellE V M0 129 := by
  rfl
set_option maxRecDepth 20000 in
set_option maxHeartbeats 2000000 in
theorem ctor_X1_init (V : VV) (C : Nat → va_E) (hC : C 129 = .inr (1, [.null, .null, .null, .null, .null, .null, .null, .null, .null, .int 0, .null])) {Q : (Nat → va_E) → Nat → Prop} (hq : ∀ C', (∀ j, j < 129 → C' j = C j) → (∀ j, 129 ≤ j → j < 140 → C' j = cellE V M0 j) → Q C' 140) : RunsC V yX1_init (.code yX1_init cX1_init 1 none) rm_X1_init 10 512 [(11, ((129 : Nat) : Int))] C 130 Q := by
  refine metc_in (own := "TreeHands$Joiner") (by decide +kernel) rfl rfl (Nat.le_of_ble_eq_true rfl) ?_
  intro X G Z hi hn hr hv
  subst hv
  have hR : roomC X 10 512 := by
    obtain ⟨V0, nL, p, e, R, s, m, args, below, meth, c, cells, slots, A, Q0⟩ := X
    have hr : R = rm_X1_init := hr
    subst hr
    exact ⟨Nat.le_of_ble_eq_true rfl, Nat.le_of_ble_eq_true rfl⟩
  show BW X 0 0 0 [(11, ((129 : Nat) : Int))] [] C 130
  have hF0 : ∀ j, 129 ≤ j → j ≠ 129 → j < 130 → C j = cellE (vX X) M0 j := fun j h1 h2 h3 => by omega
  have hB0 : ∀ j, j < 129 → C j = C j := fun _ _ => rfl
  have f129 := hC
  generalize hC0 : C = C0 at f129 hF0 ⊢
  have hB0 : ∀ j, j < 129 → C0 j = C j := fun j _ => by rw [hC0]
  clear hC0
  refine bm_aload (i := 0) (t := 8) (pc := 0) G dX1_init_0 rfl rfl rfl (by decide) ?_
  refine bm_obj (t := 8) (pc := 1) G dX1_init_1 tw_m_RX1_5 (by decide) (by rw [hr]; exact ⟨Nat.le_of_ble_eq_true rfl, Nat.le_of_ble_eq_true rfl⟩) rfl ?_
  refine bm_aload (i := 0) (t := 8) (pc := 4) G dX1_init_4 rfl rfl rfl (by decide) ?_
  refine bm_bipush (pc := 5) G dX1_init_5 (by decide) ?_
  refine bm_newi (pc := 7) G 32 dX1_init_7 (by decide) (hR.le (by decide) (by decide)) ?_
  generalize hC1 : cup C0 130 _ = C1
  have hF1 : ∀ j, 129 ≤ j → j ≠ 129 → j < 131 → C1 j = cellE (vX X) M0 j := by
    intro j h0 q129 h9
    rw [← hC1]
    by_cases h : j = 130
    · subst h; rw [cup_same]; exact (cellZ_i (vX X) (k := 130) (n := 32) rfl (by decide) (by decide)).symm
    · rw [cup_ne _ h]; exact hF0 j h0 q129 (by omega)
  have hB1 : ∀ j, j < 129 → C1 j = C j := fun j hj => by rw [← hC1, cup_ne _ (by omega)]; exact hB0 j hj
  have f129 : C1 129 = .inr (1, [.null, .null, .null, .null, .null, .null, .null, .null, .null, .int 0, .null]) := by rw [← hC1, cup_ne _ (by decide)]; exact f129
  clear hC1
  refine bm_putR (t := 129) (o := 129) (q := 130) (fs := [.null, .null, .null, .null, .null, .null, .null, .null, .null, .int 0, .null]) (pc := 9) G hi 1 0 dX1_init_9 rfl inX1 tyX1_ok nmX1 (by decide) tw_f_RX1_11 rfl rfl rfl (by decide) f129 (Nat.le_of_ble_eq_true rfl) (fun _ => rfl) (fun _ => rfl) ?_
  generalize hC2 : cup C1 129 _ = C2
  have hF2 : ∀ j, 129 ≤ j → j ≠ 129 → j < 131 → C2 j = cellE (vX X) M0 j := by
    intro j h0 q129 h9
    rw [← hC2]
    rw [cup_ne _ q129]
    exact hF1 j h0 q129 (by omega)
  have hB2 : ∀ j, j < 129 → C2 j = C j := fun j hj => by rw [← hC2, cup_ne _ (by omega)]; exact hB1 j hj
  have f129 : C2 129 = .inr (1, [.ref ((vX X).2.2.2.2.2 + 130), .null, .null, .null, .null, .null, .null, .null, .null, .int 0, .null]) := by rw [← hC2, cup_same] <;> rfl
  clear hC2
  refine bm_aload (i := 0) (t := 8) (pc := 12) G dX1_init_12 rfl rfl rfl (by decide) ?_
  refine bm_bipush (pc := 13) G dX1_init_13 (by decide) ?_
  refine bm_newi (pc := 15) G 32 dX1_init_15 (by decide) (hR.le (by decide) (by decide)) ?_
  generalize hC3 : cup C2 131 _ = C3
  have hF3 : ∀ j, 129 ≤ j → j ≠ 129 → j < 132 → C3 j = cellE (vX X) M0 j := by
    intro j h0 q129 h9
    rw [← hC3]
    by_cases h : j = 131
    · subst h; rw [cup_same]; exact (cellZ_i (vX X) (k := 131) (n := 32) rfl (by decide) (by decide)).symm
    · rw [cup_ne _ h]; exact hF2 j h0 q129 (by omega)
  have hB3 : ∀ j, j < 129 → C3 j = C j := fun j hj => by rw [← hC3, cup_ne _ (by omega)]; exact hB2 j hj
  have f129 : C3 129 = .inr (1, [.ref ((vX X).2.2.2.2.2 + 130), .null, .null, .null, .null, .null, .null, .null, .null, .int 0, .null]) := by rw [← hC3, cup_ne _ (by decide)]; exact f129
  clear hC3
  refine bm_putR (t := 129) (o := 129) (q := 131) (fs := [.ref ((vX X).2.2.2.2.2 + 130), .null, .null, .null, .null, .null, .null, .null, .null, .int 0, .null]) (pc := 17) G hi 1 1 dX1_init_17 rfl inX1 tyX1_ok nmX1 (by decide) tw_f_RX1_15 rfl rfl rfl (by decide) f129 (Nat.le_of_ble_eq_true rfl) (fun _ => rfl) (fun _ => rfl) ?_
  generalize hC4 : cup C3 129 _ = C4
  have hF4 : ∀ j, 129 ≤ j → j ≠ 129 → j < 132 → C4 j = cellE (vX X) M0 j := by
    intro j h0 q129 h9
    rw [← hC4]
    rw [cup_ne _ q129]
    exact hF3 j h0 q129 (by omega)
  have hB4 : ∀ j, j < 129 → C4 j = C j := fun j hj => by rw [← hC4, cup_ne _ (by omega)]; exact hB3 j hj
  have f129 : C4 129 = .inr (1, [.ref ((vX X).2.2.2.2.2 + 130), .ref ((vX X).2.2.2.2.2 + 131), .null, .null, .null, .null, .null, .null, .null, .int 0, .null]) := by rw [← hC4, cup_same] <;> rfl
  clear hC4
  refine bm_aload (i := 0) (t := 8) (pc := 20) G dX1_init_20 rfl rfl rfl (by decide) ?_
  refine bm_bipush (pc := 21) G dX1_init_21 (by decide) ?_
  refine bm_newi (pc := 23) G 32 dX1_init_23 (by decide) (hR.le (by decide) (by decide)) ?_
  generalize hC5 : cup C4 132 _ = C5
  have hF5 : ∀ j, 129 ≤ j → j ≠ 129 → j < 133 → C5 j = cellE (vX X) M0 j := by
    intro j h0 q129 h9
    rw [← hC5]
    by_cases h : j = 132
    · subst h; rw [cup_same]; exact (cellZ_i (vX X) (k := 132) (n := 32) rfl (by decide) (by decide)).symm
    · rw [cup_ne _ h]; exact hF4 j h0 q129 (by omega)
  have hB5 : ∀ j, j < 129 → C5 j = C j := fun j hj => by rw [← hC5, cup_ne _ (by omega)]; exact hB4 j hj
  have f129 : C5 129 = .inr (1, [.ref ((vX X).2.2.2.2.2 + 130), .ref ((vX X).2.2.2.2.2 + 131), .null, .null, .null, .null, .null, .null, .null, .int 0, .null]) := by rw [← hC5, cup_ne _ (by decide)]; exact f129
  clear hC5
  refine bm_putR (t := 129) (o := 129) (q := 132) (fs := [.ref ((vX X).2.2.2.2.2 + 130), .ref ((vX X).2.2.2.2.2 + 131), .null, .null, .null, .null, .null, .null, .null, .int 0, .null]) (pc := 25) G hi 1 2 dX1_init_25 rfl inX1 tyX1_ok nmX1 (by decide) tw_f_RX1_18 rfl rfl rfl (by decide) f129 (Nat.le_of_ble_eq_true rfl) (fun _ => rfl) (fun _ => rfl) ?_
  generalize hC6 : cup C5 129 _ = C6
  have hF6 : ∀ j, 129 ≤ j → j ≠ 129 → j < 133 → C6 j = cellE (vX X) M0 j := by
    intro j h0 q129 h9
    rw [← hC6]
    rw [cup_ne _ q129]
    exact hF5 j h0 q129 (by omega)
  have hB6 : ∀ j, j < 129 → C6 j = C j := fun j hj => by rw [← hC6, cup_ne _ (by omega)]; exact hB5 j hj
  have f129 : C6 129 = .inr (1, [.ref ((vX X).2.2.2.2.2 + 130), .ref ((vX X).2.2.2.2.2 + 131), .ref ((vX X).2.2.2.2.2 + 132), .null, .null, .null, .null, .null, .null, .int 0, .null]) := by rw [← hC6, cup_same] <;> rfl
  clear hC6
  refine bm_aload (i := 0) (t := 8) (pc := 28) G dX1_init_28 rfl rfl rfl (by decide) ?_
  refine bm_bipush (pc := 29) G dX1_init_29 (by decide) ?_
  refine bm_newi (pc := 31) G 32 dX1_init_31 (by decide) (hR.le (by decide) (by decide)) ?_
  generalize hC7 : cup C6 133 _ = C7
  have hF7 : ∀ j, 129 ≤ j → j ≠ 129 → j < 134 → C7 j = cellE (vX X) M0 j := by
    intro j h0 q129 h9
    rw [← hC7]
    by_cases h : j = 133
    · subst h; rw [cup_same]; exact (cellZ_i (vX X) (k := 133) (n := 32) rfl (by decide) (by decide)).symm
    · rw [cup_ne _ h]; exact hF6 j h0 q129 (by omega)
  have hB7 : ∀ j, j < 129 → C7 j = C j := fun j hj => by rw [← hC7, cup_ne _ (by omega)]; exact hB6 j hj
  have f129 : C7 129 = .inr (1, [.ref ((vX X).2.2.2.2.2 + 130), .ref ((vX X).2.2.2.2.2 + 131), .ref ((vX X).2.2.2.2.2 + 132), .null, .null, .null, .null, .null, .null, .int 0, .null]) := by rw [← hC7, cup_ne _ (by decide)]; exact f129
  clear hC7
  refine bm_putR (t := 129) (o := 129) (q := 133) (fs := [.ref ((vX X).2.2.2.2.2 + 130), .ref ((vX X).2.2.2.2.2 + 131), .ref ((vX X).2.2.2.2.2 + 132), .null, .null, .null, .null, .null, .null, .int 0, .null]) (pc := 33) G hi 1 3 dX1_init_33 rfl inX1 tyX1_ok nmX1 (by decide) tw_f_RX1_21 rfl rfl rfl (by decide) f129 (Nat.le_of_ble_eq_true rfl) (fun _ => rfl) (fun _ => rfl) ?_
  generalize hC8 : cup C7 129 _ = C8
  have hF8 : ∀ j, 129 ≤ j → j ≠ 129 → j < 134 → C8 j = cellE (vX X) M0 j := by
    intro j h0 q129 h9
    rw [← hC8]
    rw [cup_ne _ q129]
    exact hF7 j h0 q129 (by omega)
  have hB8 : ∀ j, j < 129 → C8 j = C j := fun j hj => by rw [← hC8, cup_ne _ (by omega)]; exact hB7 j hj
  have f129 : C8 129 = .inr (1, [.ref ((vX X).2.2.2.2.2 + 130), .ref ((vX X).2.2.2.2.2 + 131), .ref ((vX X).2.2.2.2.2 + 132), .ref ((vX X).2.2.2.2.2 + 133), .null, .null, .null, .null, .null, .int 0, .null]) := by rw [← hC8, cup_same] <;> rfl
  clear hC8
  refine bm_aload (i := 0) (t := 8) (pc := 36) G dX1_init_36 rfl rfl rfl (by decide) ?_
  refine bm_bipush (pc := 37) G dX1_init_37 (by decide) ?_
  refine bm_newi (pc := 39) G 48 dX1_init_39 (by decide) (hR.le (by decide) (by decide)) ?_
  generalize hC9 : cup C8 134 _ = C9
  have hF9 : ∀ j, 129 ≤ j → j ≠ 129 → j < 135 → C9 j = cellE (vX X) M0 j := by
    intro j h0 q129 h9
    rw [← hC9]
    by_cases h : j = 134
    · subst h; rw [cup_same]; exact (cellZ_i (vX X) (k := 134) (n := 48) rfl (by decide) (by decide)).symm
    · rw [cup_ne _ h]; exact hF8 j h0 q129 (by omega)
  have hB9 : ∀ j, j < 129 → C9 j = C j := fun j hj => by rw [← hC9, cup_ne _ (by omega)]; exact hB8 j hj
  have f129 : C9 129 = .inr (1, [.ref ((vX X).2.2.2.2.2 + 130), .ref ((vX X).2.2.2.2.2 + 131), .ref ((vX X).2.2.2.2.2 + 132), .ref ((vX X).2.2.2.2.2 + 133), .null, .null, .null, .null, .null, .int 0, .null]) := by rw [← hC9, cup_ne _ (by decide)]; exact f129
  clear hC9
  refine bm_putR (t := 145) (o := 129) (q := 134) (fs := [.ref ((vX X).2.2.2.2.2 + 130), .ref ((vX X).2.2.2.2.2 + 131), .ref ((vX X).2.2.2.2.2 + 132), .ref ((vX X).2.2.2.2.2 + 133), .null, .null, .null, .null, .null, .int 0, .null]) (pc := 41) G hi 1 4 dX1_init_41 rfl inX1 tyX1_ok nmX1 (by decide) tw_f_RX1_24 rfl rfl rfl (by decide) f129 (Nat.le_of_ble_eq_true rfl) (fun _ => rfl) (fun _ => rfl) ?_
  generalize hC10 : cup C9 129 _ = C10
  have hF10 : ∀ j, 129 ≤ j → j ≠ 129 → j < 135 → C10 j = cellE (vX X) M0 j := by
    intro j h0 q129 h9
    rw [← hC10]
    rw [cup_ne _ q129]
    exact hF9 j h0 q129 (by omega)
  have hB10 : ∀ j, j < 129 → C10 j = C j := fun j hj => by rw [← hC10, cup_ne _ (by omega)]; exact hB9 j hj
  have f129 : C10 129 = .inr (1, [.ref ((vX X).2.2.2.2.2 + 130), .ref ((vX X).2.2.2.2.2 + 131), .ref ((vX X).2.2.2.2.2 + 132), .ref ((vX X).2.2.2.2.2 + 133), .ref ((vX X).2.2.2.2.2 + 134), .null, .null, .null, .null, .int 0, .null]) := by rw [← hC10, cup_same] <;> rfl
  clear hC10
  refine bm_aload (i := 0) (t := 8) (pc := 44) G dX1_init_44 rfl rfl rfl (by decide) ?_
  refine bm_bipush (pc := 45) G dX1_init_45 (by decide) ?_
  refine bm_newi (pc := 47) G 48 dX1_init_47 (by decide) (hR.le (by decide) (by decide)) ?_
  generalize hC11 : cup C10 135 _ = C11
  have hF11 : ∀ j, 129 ≤ j → j ≠ 129 → j < 136 → C11 j = cellE (vX X) M0 j := by
    intro j h0 q129 h9
    rw [← hC11]
    by_cases h : j = 135
    · subst h; rw [cup_same]; exact (cellZ_i (vX X) (k := 135) (n := 48) rfl (by decide) (by decide)).symm
    · rw [cup_ne _ h]; exact hF10 j h0 q129 (by omega)
  have hB11 : ∀ j, j < 129 → C11 j = C j := fun j hj => by rw [← hC11, cup_ne _ (by omega)]; exact hB10 j hj
  have f129 : C11 129 = .inr (1, [.ref ((vX X).2.2.2.2.2 + 130), .ref ((vX X).2.2.2.2.2 + 131), .ref ((vX X).2.2.2.2.2 + 132), .ref ((vX X).2.2.2.2.2 + 133), .ref ((vX X).2.2.2.2.2 + 134), .null, .null, .null, .null, .int 0, .null]) := by rw [← hC11, cup_ne _ (by decide)]; exact f129
  clear hC11
  refine bm_putR (t := 145) (o := 129) (q := 135) (fs := [.ref ((vX X).2.2.2.2.2 + 130), .ref ((vX X).2.2.2.2.2 + 131), .ref ((vX X).2.2.2.2.2 + 132), .ref ((vX X).2.2.2.2.2 + 133), .ref ((vX X).2.2.2.2.2 + 134), .null, .null, .null, .null, .int 0, .null]) (pc := 49) G hi 1 5 dX1_init_49 rfl inX1 tyX1_ok nmX1 (by decide) tw_f_RX1_27 rfl rfl rfl (by decide) f129 (Nat.le_of_ble_eq_true rfl) (fun _ => rfl) (fun _ => rfl) ?_
  generalize hC12 : cup C11 129 _ = C12
  have hF12 : ∀ j, 129 ≤ j → j ≠ 129 → j < 136 → C12 j = cellE (vX X) M0 j := by
    intro j h0 q129 h9
    rw [← hC12]
    rw [cup_ne _ q129]
    exact hF11 j h0 q129 (by omega)
  have hB12 : ∀ j, j < 129 → C12 j = C j := fun j hj => by rw [← hC12, cup_ne _ (by omega)]; exact hB11 j hj
  have f129 : C12 129 = .inr (1, [.ref ((vX X).2.2.2.2.2 + 130), .ref ((vX X).2.2.2.2.2 + 131), .ref ((vX X).2.2.2.2.2 + 132), .ref ((vX X).2.2.2.2.2 + 133), .ref ((vX X).2.2.2.2.2 + 134), .ref ((vX X).2.2.2.2.2 + 135), .null, .null, .null, .int 0, .null]) := by rw [← hC12, cup_same] <;> rfl
  clear hC12
  refine bm_aload (i := 0) (t := 8) (pc := 52) G dX1_init_52 rfl rfl rfl (by decide) ?_
  refine bm_bipush (pc := 53) G dX1_init_53 (by decide) ?_
  refine bm_newi (pc := 55) G 48 dX1_init_55 (by decide) (hR.le (by decide) (by decide)) ?_
  generalize hC13 : cup C12 136 _ = C13
  have hF13 : ∀ j, 129 ≤ j → j ≠ 129 → j < 137 → C13 j = cellE (vX X) M0 j := by
    intro j h0 q129 h9
    rw [← hC13]
    by_cases h : j = 136
    · subst h; rw [cup_same]; exact (cellZ_i (vX X) (k := 136) (n := 48) rfl (by decide) (by decide)).symm
    · rw [cup_ne _ h]; exact hF12 j h0 q129 (by omega)
  have hB13 : ∀ j, j < 129 → C13 j = C j := fun j hj => by rw [← hC13, cup_ne _ (by omega)]; exact hB12 j hj
  have f129 : C13 129 = .inr (1, [.ref ((vX X).2.2.2.2.2 + 130), .ref ((vX X).2.2.2.2.2 + 131), .ref ((vX X).2.2.2.2.2 + 132), .ref ((vX X).2.2.2.2.2 + 133), .ref ((vX X).2.2.2.2.2 + 134), .ref ((vX X).2.2.2.2.2 + 135), .null, .null, .null, .int 0, .null]) := by rw [← hC13, cup_ne _ (by decide)]; exact f129
  clear hC13
  refine bm_putR (t := 145) (o := 129) (q := 136) (fs := [.ref ((vX X).2.2.2.2.2 + 130), .ref ((vX X).2.2.2.2.2 + 131), .ref ((vX X).2.2.2.2.2 + 132), .ref ((vX X).2.2.2.2.2 + 133), .ref ((vX X).2.2.2.2.2 + 134), .ref ((vX X).2.2.2.2.2 + 135), .null, .null, .null, .int 0, .null]) (pc := 57) G hi 1 6 dX1_init_57 rfl inX1 tyX1_ok nmX1 (by decide) tw_f_RX1_30 rfl rfl rfl (by decide) f129 (Nat.le_of_ble_eq_true rfl) (fun _ => rfl) (fun _ => rfl) ?_
  generalize hC14 : cup C13 129 _ = C14
  have hF14 : ∀ j, 129 ≤ j → j ≠ 129 → j < 137 → C14 j = cellE (vX X) M0 j := by
    intro j h0 q129 h9
    rw [← hC14]
    rw [cup_ne _ q129]
    exact hF13 j h0 q129 (by omega)
  have hB14 : ∀ j, j < 129 → C14 j = C j := fun j hj => by rw [← hC14, cup_ne _ (by omega)]; exact hB13 j hj
  have f129 : C14 129 = .inr (1, [.ref ((vX X).2.2.2.2.2 + 130), .ref ((vX X).2.2.2.2.2 + 131), .ref ((vX X).2.2.2.2.2 + 132), .ref ((vX X).2.2.2.2.2 + 133), .ref ((vX X).2.2.2.2.2 + 134), .ref ((vX X).2.2.2.2.2 + 135), .ref ((vX X).2.2.2.2.2 + 136), .null, .null, .int 0, .null]) := by rw [← hC14, cup_same] <;> rfl
  clear hC14
  refine bm_aload (i := 0) (t := 8) (pc := 60) G dX1_init_60 rfl rfl rfl (by decide) ?_
  refine bm_bipush (pc := 61) G dX1_init_61 (by decide) ?_
  refine bm_newi (pc := 63) G 96 dX1_init_63 (by decide) (hR.le (by decide) (by decide)) ?_
  generalize hC15 : cup C14 137 _ = C15
  have hF15 : ∀ j, 129 ≤ j → j ≠ 129 → j < 138 → C15 j = cellE (vX X) M0 j := by
    intro j h0 q129 h9
    rw [← hC15]
    by_cases h : j = 137
    · subst h; rw [cup_same]; exact (cellZ_i (vX X) (k := 137) (n := 96) rfl (by decide) (by decide)).symm
    · rw [cup_ne _ h]; exact hF14 j h0 q129 (by omega)
  have hB15 : ∀ j, j < 129 → C15 j = C j := fun j hj => by rw [← hC15, cup_ne _ (by omega)]; exact hB14 j hj
  have f129 : C15 129 = .inr (1, [.ref ((vX X).2.2.2.2.2 + 130), .ref ((vX X).2.2.2.2.2 + 131), .ref ((vX X).2.2.2.2.2 + 132), .ref ((vX X).2.2.2.2.2 + 133), .ref ((vX X).2.2.2.2.2 + 134), .ref ((vX X).2.2.2.2.2 + 135), .ref ((vX X).2.2.2.2.2 + 136), .null, .null, .int 0, .null]) := by rw [← hC15, cup_ne _ (by decide)]; exact f129
  clear hC15
  refine bm_putR (t := 193) (o := 129) (q := 137) (fs := [.ref ((vX X).2.2.2.2.2 + 130), .ref ((vX X).2.2.2.2.2 + 131), .ref ((vX X).2.2.2.2.2 + 132), .ref ((vX X).2.2.2.2.2 + 133), .ref ((vX X).2.2.2.2.2 + 134), .ref ((vX X).2.2.2.2.2 + 135), .ref ((vX X).2.2.2.2.2 + 136), .null, .null, .int 0, .null]) (pc := 65) G hi 1 7 dX1_init_65 rfl inX1 tyX1_ok nmX1 (by decide) tw_f_RX1_33 rfl rfl rfl (by decide) f129 (Nat.le_of_ble_eq_true rfl) (fun _ => rfl) (fun _ => rfl) ?_
  generalize hC16 : cup C15 129 _ = C16
  have hF16 : ∀ j, 129 ≤ j → j ≠ 129 → j < 138 → C16 j = cellE (vX X) M0 j := by
    intro j h0 q129 h9
    rw [← hC16]
    rw [cup_ne _ q129]
    exact hF15 j h0 q129 (by omega)
  have hB16 : ∀ j, j < 129 → C16 j = C j := fun j hj => by rw [← hC16, cup_ne _ (by omega)]; exact hB15 j hj
  have f129 : C16 129 = .inr (1, [.ref ((vX X).2.2.2.2.2 + 130), .ref ((vX X).2.2.2.2.2 + 131), .ref ((vX X).2.2.2.2.2 + 132), .ref ((vX X).2.2.2.2.2 + 133), .ref ((vX X).2.2.2.2.2 + 134), .ref ((vX X).2.2.2.2.2 + 135), .ref ((vX X).2.2.2.2.2 + 136), .ref ((vX X).2.2.2.2.2 + 137), .null, .int 0, .null]) := by rw [← hC16, cup_same] <;> rfl
  clear hC16
  refine bm_aload (i := 0) (t := 8) (pc := 68) G dX1_init_68 rfl rfl rfl (by decide) ?_
  refine bm_bipush (pc := 69) G dX1_init_69 (by decide) ?_
  refine bm_newi (pc := 71) G 96 dX1_init_71 (by decide) (hR.le (by decide) (by decide)) ?_
  generalize hC17 : cup C16 138 _ = C17
  have hF17 : ∀ j, 129 ≤ j → j ≠ 129 → j < 139 → C17 j = cellE (vX X) M0 j := by
    intro j h0 q129 h9
    rw [← hC17]
    by_cases h : j = 138
    · subst h; rw [cup_same]; exact (cellZ_i (vX X) (k := 138) (n := 96) rfl (by decide) (by decide)).symm
    · rw [cup_ne _ h]; exact hF16 j h0 q129 (by omega)
  have hB17 : ∀ j, j < 129 → C17 j = C j := fun j hj => by rw [← hC17, cup_ne _ (by omega)]; exact hB16 j hj
  have f129 : C17 129 = .inr (1, [.ref ((vX X).2.2.2.2.2 + 130), .ref ((vX X).2.2.2.2.2 + 131), .ref ((vX X).2.2.2.2.2 + 132), .ref ((vX X).2.2.2.2.2 + 133), .ref ((vX X).2.2.2.2.2 + 134), .ref ((vX X).2.2.2.2.2 + 135), .ref ((vX X).2.2.2.2.2 + 136), .ref ((vX X).2.2.2.2.2 + 137), .null, .int 0, .null]) := by rw [← hC17, cup_ne _ (by decide)]; exact f129
  clear hC17
  refine bm_putR (t := 193) (o := 129) (q := 138) (fs := [.ref ((vX X).2.2.2.2.2 + 130), .ref ((vX X).2.2.2.2.2 + 131), .ref ((vX X).2.2.2.2.2 + 132), .ref ((vX X).2.2.2.2.2 + 133), .ref ((vX X).2.2.2.2.2 + 134), .ref ((vX X).2.2.2.2.2 + 135), .ref ((vX X).2.2.2.2.2 + 136), .ref ((vX X).2.2.2.2.2 + 137), .null, .int 0, .null]) (pc := 73) G hi 1 8 dX1_init_73 rfl inX1 tyX1_ok nmX1 (by decide) tw_f_RX1_36 rfl rfl rfl (by decide) f129 (Nat.le_of_ble_eq_true rfl) (fun _ => rfl) (fun _ => rfl) ?_
  generalize hC18 : cup C17 129 _ = C18
  have hF18 : ∀ j, 129 ≤ j → j ≠ 129 → j < 139 → C18 j = cellE (vX X) M0 j := by
    intro j h0 q129 h9
    rw [← hC18]
    rw [cup_ne _ q129]
    exact hF17 j h0 q129 (by omega)
  have hB18 : ∀ j, j < 129 → C18 j = C j := fun j hj => by rw [← hC18, cup_ne _ (by omega)]; exact hB17 j hj
  have f129 : C18 129 = .inr (1, [.ref ((vX X).2.2.2.2.2 + 130), .ref ((vX X).2.2.2.2.2 + 131), .ref ((vX X).2.2.2.2.2 + 132), .ref ((vX X).2.2.2.2.2 + 133), .ref ((vX X).2.2.2.2.2 + 134), .ref ((vX X).2.2.2.2.2 + 135), .ref ((vX X).2.2.2.2.2 + 136), .ref ((vX X).2.2.2.2.2 + 137), .ref ((vX X).2.2.2.2.2 + 138), .int 0, .null]) := by rw [← hC18, cup_same] <;> rfl
  clear hC18
  refine bm_aload (i := 0) (t := 8) (pc := 76) G dX1_init_76 rfl rfl rfl (by decide) ?_
  refine bm_bipush (pc := 77) G dX1_init_77 (by decide) ?_
  refine bm_newi (pc := 79) G 48 dX1_init_79 (by decide) (hR.le (by decide) (by decide)) ?_
  generalize hC19 : cup C18 139 _ = C19
  have hF19 : ∀ j, 129 ≤ j → j ≠ 129 → j < 140 → C19 j = cellE (vX X) M0 j := by
    intro j h0 q129 h9
    rw [← hC19]
    by_cases h : j = 139
    · subst h; rw [cup_same]; exact (cellZ_i (vX X) (k := 139) (n := 48) rfl (by decide) (by decide)).symm
    · rw [cup_ne _ h]; exact hF18 j h0 q129 (by omega)
  have hB19 : ∀ j, j < 129 → C19 j = C j := fun j hj => by rw [← hC19, cup_ne _ (by omega)]; exact hB18 j hj
  have f129 : C19 129 = .inr (1, [.ref ((vX X).2.2.2.2.2 + 130), .ref ((vX X).2.2.2.2.2 + 131), .ref ((vX X).2.2.2.2.2 + 132), .ref ((vX X).2.2.2.2.2 + 133), .ref ((vX X).2.2.2.2.2 + 134), .ref ((vX X).2.2.2.2.2 + 135), .ref ((vX X).2.2.2.2.2 + 136), .ref ((vX X).2.2.2.2.2 + 137), .ref ((vX X).2.2.2.2.2 + 138), .int 0, .null]) := by rw [← hC19, cup_ne _ (by decide)]; exact f129
  clear hC19
  refine bm_putR (t := 145) (o := 129) (q := 139) (fs := [.ref ((vX X).2.2.2.2.2 + 130), .ref ((vX X).2.2.2.2.2 + 131), .ref ((vX X).2.2.2.2.2 + 132), .ref ((vX X).2.2.2.2.2 + 133), .ref ((vX X).2.2.2.2.2 + 134), .ref ((vX X).2.2.2.2.2 + 135), .ref ((vX X).2.2.2.2.2 + 136), .ref ((vX X).2.2.2.2.2 + 137), .ref ((vX X).2.2.2.2.2 + 138), .int 0, .null]) (pc := 81) G hi 1 10 dX1_init_81 rfl inX1 tyX1_ok nmX1 (by decide) tw_f_RX1_39 rfl rfl rfl (by decide) f129 (Nat.le_of_ble_eq_true rfl) (fun _ => rfl) (fun _ => rfl) ?_
  generalize hC20 : cup C19 129 _ = C20
  have hF20 : ∀ j, 129 ≤ j → j ≠ 129 → j < 140 → C20 j = cellE (vX X) M0 j := by
    intro j h0 q129 h9
    rw [← hC20]
    rw [cup_ne _ q129]
    exact hF19 j h0 q129 (by omega)
  have hB20 : ∀ j, j < 129 → C20 j = C j := fun j hj => by rw [← hC20, cup_ne _ (by omega)]; exact hB19 j hj
  have f129 : C20 129 = .inr (1, [.ref ((vX X).2.2.2.2.2 + 130), .ref ((vX X).2.2.2.2.2 + 131), .ref ((vX X).2.2.2.2.2 + 132), .ref ((vX X).2.2.2.2.2 + 133), .ref ((vX X).2.2.2.2.2 + 134), .ref ((vX X).2.2.2.2.2 + 135), .ref ((vX X).2.2.2.2.2 + 136), .ref ((vX X).2.2.2.2.2 + 137), .ref ((vX X).2.2.2.2.2 + 138), .int 0, .ref ((vX X).2.2.2.2.2 + 139)]) := by rw [← hC20, cup_same] <;> rfl
  clear hC20
  refine bm_ret (pc := 84) G Z dX1_init_84 ?_
  refine hq C20 hB20 (fun j h0 h9 => ?_)
  by_cases hc129 : j = 129
  · subst hc129; rw [f129]; exact fin_129 (vX X)
  exact hF20 j h0 hc129 h9
def rm_X4_init : Room := { frames := 2, cells := 33, slots := 836, locals := 40 }
theorem hy_X4_init : yX4_init.cls ≠ "java/lang/invoke/MethodHandle" ∧ yX4_init.cls ≠ "java/lang/invoke/VarHandle" ∧ (parseMethodDescriptor yX4_init.desc).map (fun d => d.parameters.length) = some 2 := by decide +kernel
theorem fin_127 (V : VV) : (.inr (4, [.int 0, .ref (V.2.2.2.2.2 + 128), .ref (V.2.2.2.2.2 + 28), .ref (V.2.2.2.2.2 + 123), .ref (V.2.2.2.2.2 + 129), .ref (V.2.2.2.2.2 + 140), .int 0, .ref (V.2.2.2.2.2 + 147), .ref (V.2.2.2.2.2 + 154)]) : va_E) = cellE V M0 127 := by
  rfl
set_option maxRecDepth 20000 in
set_option maxHeartbeats 2000000 in
theorem ctor_X4_init (V : VV) (C : Nat → va_E) (hC : C 127 = .inr (4, [.int 0, .null, .null, .null, .null, .null, .int 0, .null, .null])) {Q : (Nat → va_E) → Nat → Prop} (hq : ∀ C', (∀ j, j < 127 → C' j = C j) → (∀ j, 127 ≤ j → j < 161 → C' j = cellE V M0 j) → Q C' 161) : RunsC V yX4_init (.code yX4_init cX4_init 3 none) rm_X4_init 33 836 [(14, ((127 : Nat) : Int)), (16, ((28 : Nat) : Int)), (18, ((123 : Nat) : Int))] C 128 Q := by
  refine metc_in (own := "TreeHands$Overlapper") (by decide +kernel) rfl rfl (Nat.le_of_ble_eq_true rfl) ?_
  intro X G Z hi hn hr hv
  subst hv
  have hR : roomC X 33 836 := by
    obtain ⟨V0, nL, p, e, R, s, m, args, below, meth, c, cells, slots, A, Q0⟩ := X
    have hr : R = rm_X4_init := hr
    subst hr
    exact ⟨Nat.le_of_ble_eq_true rfl, Nat.le_of_ble_eq_true rfl⟩
  show BW X 0 0 0 [(14, ((127 : Nat) : Int)), (16, ((28 : Nat) : Int)), (18, ((123 : Nat) : Int))] [] C 128
  have hF0 : ∀ j, 127 ≤ j → j ≠ 127 → j < 128 → C j = cellE (vX X) M0 j := fun j h1 h2 h3 => by omega
  have hB0 : ∀ j, j < 127 → C j = C j := fun _ _ => rfl
  have f127 := hC
  generalize hC0 : C = C0 at f127 hF0 ⊢
  have hB0 : ∀ j, j < 127 → C0 j = C j := fun j _ => by rw [hC0]
  clear hC0
  refine bm_aload (i := 0) (t := 11) (pc := 0) G dX4_init_0 rfl rfl rfl (by decide) ?_
  refine bm_obj (t := 11) (pc := 1) G dX4_init_1 tw_m_RX4_3 (by decide) (by rw [hr]; exact ⟨Nat.le_of_ble_eq_true rfl, Nat.le_of_ble_eq_true rfl⟩) rfl ?_
  refine bm_aload (i := 0) (t := 11) (pc := 4) G dX4_init_4 rfl rfl rfl (by decide) ?_
  refine bm_iconst (pc := 5) G dX4_init_5 ?_
  refine bm_newi (pc := 6) G 4 dX4_init_6 (by decide) (hR.le (by decide) (by decide)) ?_
  generalize hC1 : cup C0 128 _ = C1
  have hF1 : ∀ j, 127 ≤ j → j ≠ 127 → j < 129 → C1 j = cellE (vX X) M0 j := by
    intro j h0 q127 h9
    rw [← hC1]
    by_cases h : j = 128
    · subst h; rw [cup_same]; exact (cellZ_i (vX X) (k := 128) (n := 4) rfl (by decide) (by decide)).symm
    · rw [cup_ne _ h]; exact hF0 j h0 q127 (by omega)
  have hB1 : ∀ j, j < 127 → C1 j = C j := fun j hj => by rw [← hC1, cup_ne _ (by omega)]; exact hB0 j hj
  have f127 : C1 127 = .inr (4, [.int 0, .null, .null, .null, .null, .null, .int 0, .null, .null]) := by rw [← hC1, cup_ne _ (by decide)]; exact f127
  clear hC1
  refine bm_putR (t := 101) (o := 127) (q := 128) (fs := [.int 0, .null, .null, .null, .null, .null, .int 0, .null, .null]) (pc := 8) G hi 4 1 dX4_init_8 rfl inX4 tyX4_ok nmX4 (by decide) tw_f_RX4_9 rfl rfl rfl (by decide) f127 (Nat.le_of_ble_eq_true rfl) (fun _ => rfl) (fun _ => rfl) ?_
  generalize hC2 : cup C1 127 _ = C2
  have hF2 : ∀ j, 127 ≤ j → j ≠ 127 → j < 129 → C2 j = cellE (vX X) M0 j := by
    intro j h0 q127 h9
    rw [← hC2]
    rw [cup_ne _ q127]
    exact hF1 j h0 q127 (by omega)
  have hB2 : ∀ j, j < 127 → C2 j = C j := fun j hj => by rw [← hC2, cup_ne _ (by omega)]; exact hB1 j hj
  have f127 : C2 127 = .inr (4, [.int 0, .ref ((vX X).2.2.2.2.2 + 128), .null, .null, .null, .null, .int 0, .null, .null]) := by rw [← hC2, cup_same] <;> rfl
  clear hC2
  refine bm_aload (i := 0) (t := 11) (pc := 11) G dX4_init_11 rfl rfl rfl (by decide) ?_
  refine bm_new (fs := [.null, .null, .null, .null, .null, .null, .null, .null, .null, .int 0, .null]) (pc := 12) G 1 tyX1 dX4_init_12 rfl inX1 tyX1_ok (by decide) tw_l_RX4_15 tw_x_RX1 tw_z_RX1 (hR.le (by decide) (by decide)) ?_
  generalize hC3 : cup C2 129 _ = C3
  have hF3 : ∀ j, 127 ≤ j → j ≠ 127 → j ≠ 129 → j < 130 → C3 j = cellE (vX X) M0 j := by
    intro j h0 q127 q129 h9
    rw [← hC3]
    rw [cup_ne _ q129]
    exact hF2 j h0 q127 (by omega)
  have hB3 : ∀ j, j < 127 → C3 j = C j := fun j hj => by rw [← hC3, cup_ne _ (by omega)]; exact hB2 j hj
  have f127 : C3 127 = .inr (4, [.int 0, .ref ((vX X).2.2.2.2.2 + 128), .null, .null, .null, .null, .int 0, .null, .null]) := by rw [← hC3, cup_ne _ (by decide)]; exact f127
  have f129 : C3 129 = .inr (1, [.null, .null, .null, .null, .null, .null, .null, .null, .null, .int 0, .null]) := by rw [← hC3, cup_same] <;> rfl
  clear hC3
  refine bm_dup (pc := 15) G dX4_init_15 (Nat.ne_of_beq_eq_false rfl) ?_
  refine bm_callN (t := 8) (nc := 10) (ns := 512) (st := [(11, _), (14, _)]) (rmc := rm_X1_init) (pc := 16) G [] rfl dX4_init_16 (by decide) tw_n_RX4_17 tw_i_X1_init tw_z_RX1 tw_c_X1_init hy_X1_init (by rw [hr]; exact ⟨rfl, rfl, Nat.le_of_ble_eq_true rfl, Nat.le_of_ble_eq_true rfl⟩) rfl (hR.le (by decide) (by decide)) ?_
  refine ctor_X1_init (vX X) _ f129 (fun C4 hL hN => ?_)
  show BW X 12 527 19 _ [(11, _), (14, _)] C4 140
  have hF4 : ∀ j, 127 ≤ j → j ≠ 127 → j < 140 → C4 j = cellE (vX X) M0 j := by
    intro j h0 q127 h9
    by_cases h : j < 129
    · rw [hL j h]; exact hF3 j h0 q127 (by omega) (by omega)
    · exact hN j (by omega) h9
  have hB4 : ∀ j, j < 127 → C4 j = C j := fun j hj => by rw [hL j (by omega)]; exact hB3 j hj
  have f127 : C4 127 = .inr (4, [.int 0, .ref ((vX X).2.2.2.2.2 + 128), .null, .null, .null, .null, .int 0, .null, .null]) := by rw [hL 127 (by decide)]; exact f127
  clear hL hN
  refine bm_putR (t := 8) (o := 127) (q := 129) (fs := [.int 0, .ref ((vX X).2.2.2.2.2 + 128), .null, .null, .null, .null, .int 0, .null, .null]) (pc := 19) G hi 4 4 dX4_init_19 rfl inX4 tyX4_ok nmX4 (by decide) tw_f_RX4_18 rfl rfl rfl (by decide) f127 (Nat.le_of_ble_eq_true rfl) (fun _ => rfl) (fun _ => rfl) ?_
  generalize hC5 : cup C4 127 _ = C5
  have hF5 : ∀ j, 127 ≤ j → j ≠ 127 → j < 140 → C5 j = cellE (vX X) M0 j := by
    intro j h0 q127 h9
    rw [← hC5]
    rw [cup_ne _ q127]
    exact hF4 j h0 q127 (by omega)
  have hB5 : ∀ j, j < 127 → C5 j = C j := fun j hj => by rw [← hC5, cup_ne _ (by omega)]; exact hB4 j hj
  have f127 : C5 127 = .inr (4, [.int 0, .ref ((vX X).2.2.2.2.2 + 128), .null, .null, .ref ((vX X).2.2.2.2.2 + 129), .null, .int 0, .null, .null]) := by rw [← hC5, cup_same] <;> rfl
  clear hC5
  refine bm_aload (i := 0) (t := 11) (pc := 22) G dX4_init_22 rfl rfl rfl (by decide) ?_
  refine bm_new (fs := [.int 0, .null, .null, .null, .null, .null, .null]) (pc := 23) G 7 tyX7 dX4_init_23 rfl inX7 tyX7_ok (by decide) tw_l_RX4_22 tw_x_RX7 tw_z_RX7 (hR.le (by decide) (by decide)) ?_
  generalize hC6 : cup C5 140 _ = C6
  have hF6 : ∀ j, 127 ≤ j → j ≠ 127 → j ≠ 140 → j < 141 → C6 j = cellE (vX X) M0 j := by
    intro j h0 q127 q140 h9
    rw [← hC6]
    rw [cup_ne _ q140]
    exact hF5 j h0 q127 (by omega)
  have hB6 : ∀ j, j < 127 → C6 j = C j := fun j hj => by rw [← hC6, cup_ne _ (by omega)]; exact hB5 j hj
  have f127 : C6 127 = .inr (4, [.int 0, .ref ((vX X).2.2.2.2.2 + 128), .null, .null, .ref ((vX X).2.2.2.2.2 + 129), .null, .int 0, .null, .null]) := by rw [← hC6, cup_ne _ (by decide)]; exact f127
  have f140 : C6 140 = .inr (7, [.int 0, .null, .null, .null, .null, .null, .null]) := by rw [← hC6, cup_same] <;> rfl
  clear hC6
  refine bm_dup (pc := 26) G dX4_init_26 (Nat.ne_of_beq_eq_false rfl) ?_
  refine bm_callN (t := 14) (nc := 6) (ns := 96) (st := [(17, _), (14, _)]) (rmc := rm_X7_init) (pc := 27) G [] rfl dX4_init_27 (by decide) tw_n_RX4_24 tw_i_X7_init tw_z_RX7 tw_c_X7_init hy_X7_init (by rw [hr]; exact ⟨rfl, rfl, Nat.le_of_ble_eq_true rfl, Nat.le_of_ble_eq_true rfl⟩) rfl (hR.le (by decide) (by decide)) ?_
  refine ctor_T (vX X) 140 (by decide) _ f140 (fun C7 hL hN => ?_)
  show BW X 19 630 30 _ [(17, _), (14, _)] C7 147
  have hF7 : ∀ j, 127 ≤ j → j ≠ 127 → j < 147 → C7 j = cellE (vX X) M0 j := by
    intro j h0 q127 h9
    by_cases h : j < 140
    · rw [hL j h]; exact hF6 j h0 q127 (by omega) (by omega)
    · exact hN j (by omega) h9
  have hB7 : ∀ j, j < 127 → C7 j = C j := fun j hj => by rw [hL j (by omega)]; exact hB6 j hj
  have f127 : C7 127 = .inr (4, [.int 0, .ref ((vX X).2.2.2.2.2 + 128), .null, .null, .ref ((vX X).2.2.2.2.2 + 129), .null, .int 0, .null, .null]) := by rw [hL 127 (by decide)]; exact f127
  have e140 : C7 140 = .inr (7, _) := (hF7 140 (by decide) (by decide) (by decide)).trans (tree_fin (vX X) (k := 140) (by decide) 0 (by decide))
  clear hL hN
  refine bm_putR (t := 14) (o := 127) (q := 140) (fs := [.int 0, .ref ((vX X).2.2.2.2.2 + 128), .null, .null, .ref ((vX X).2.2.2.2.2 + 129), .null, .int 0, .null, .null]) (pc := 30) G hi 4 5 dX4_init_30 rfl inX4 tyX4_ok nmX4 (by decide) tw_f_RX4_25 rfl rfl rfl (by decide) f127 (Nat.le_of_ble_eq_true rfl) (fun _ => rfl) (fun _ => rfl) ?_
  generalize hC8 : cup C7 127 _ = C8
  have hF8 : ∀ j, 127 ≤ j → j ≠ 127 → j < 147 → C8 j = cellE (vX X) M0 j := by
    intro j h0 q127 h9
    rw [← hC8]
    rw [cup_ne _ q127]
    exact hF7 j h0 q127 (by omega)
  have hB8 : ∀ j, j < 127 → C8 j = C j := fun j hj => by rw [← hC8, cup_ne _ (by omega)]; exact hB7 j hj
  have f127 : C8 127 = .inr (4, [.int 0, .ref ((vX X).2.2.2.2.2 + 128), .null, .null, .ref ((vX X).2.2.2.2.2 + 129), .ref ((vX X).2.2.2.2.2 + 140), .int 0, .null, .null]) := by rw [← hC8, cup_same] <;> rfl
  clear hC8
  refine bm_aload (i := 0) (t := 11) (pc := 33) G dX4_init_33 rfl rfl rfl (by decide) ?_
  refine bm_new (fs := [.int 0, .null, .null, .null, .null, .null, .null]) (pc := 34) G 7 tyX7 dX4_init_34 rfl inX7 tyX7_ok (by decide) tw_l_RX4_22 tw_x_RX7 tw_z_RX7 (hR.le (by decide) (by decide)) ?_
  generalize hC9 : cup C8 147 _ = C9
  have hF9 : ∀ j, 127 ≤ j → j ≠ 127 → j ≠ 147 → j < 148 → C9 j = cellE (vX X) M0 j := by
    intro j h0 q127 q147 h9
    rw [← hC9]
    rw [cup_ne _ q147]
    exact hF8 j h0 q127 (by omega)
  have hB9 : ∀ j, j < 127 → C9 j = C j := fun j hj => by rw [← hC9, cup_ne _ (by omega)]; exact hB8 j hj
  have f127 : C9 127 = .inr (4, [.int 0, .ref ((vX X).2.2.2.2.2 + 128), .null, .null, .ref ((vX X).2.2.2.2.2 + 129), .ref ((vX X).2.2.2.2.2 + 140), .int 0, .null, .null]) := by rw [← hC9, cup_ne _ (by decide)]; exact f127
  have f147 : C9 147 = .inr (7, [.int 0, .null, .null, .null, .null, .null, .null]) := by rw [← hC9, cup_same] <;> rfl
  clear hC9
  refine bm_dup (pc := 37) G dX4_init_37 (Nat.ne_of_beq_eq_false rfl) ?_
  refine bm_callN (t := 14) (nc := 6) (ns := 96) (st := [(17, _), (14, _)]) (rmc := rm_X7_init) (pc := 38) G [] rfl dX4_init_38 (by decide) tw_n_RX4_24 tw_i_X7_init tw_z_RX7 tw_c_X7_init hy_X7_init (by rw [hr]; exact ⟨rfl, rfl, Nat.le_of_ble_eq_true rfl, Nat.le_of_ble_eq_true rfl⟩) rfl (hR.le (by decide) (by decide)) ?_
  refine ctor_T (vX X) 147 (by decide) _ f147 (fun C10 hL hN => ?_)
  show BW X 26 733 41 _ [(17, _), (14, _)] C10 154
  have hF10 : ∀ j, 127 ≤ j → j ≠ 127 → j < 154 → C10 j = cellE (vX X) M0 j := by
    intro j h0 q127 h9
    by_cases h : j < 147
    · rw [hL j h]; exact hF9 j h0 q127 (by omega) (by omega)
    · exact hN j (by omega) h9
  have hB10 : ∀ j, j < 127 → C10 j = C j := fun j hj => by rw [hL j (by omega)]; exact hB9 j hj
  have f127 : C10 127 = .inr (4, [.int 0, .ref ((vX X).2.2.2.2.2 + 128), .null, .null, .ref ((vX X).2.2.2.2.2 + 129), .ref ((vX X).2.2.2.2.2 + 140), .int 0, .null, .null]) := by rw [hL 127 (by decide)]; exact f127
  have e147 : C10 147 = .inr (7, _) := (hF10 147 (by decide) (by decide) (by decide)).trans (tree_fin (vX X) (k := 147) (by decide) 0 (by decide))
  clear hL hN
  refine bm_putR (t := 14) (o := 127) (q := 147) (fs := [.int 0, .ref ((vX X).2.2.2.2.2 + 128), .null, .null, .ref ((vX X).2.2.2.2.2 + 129), .ref ((vX X).2.2.2.2.2 + 140), .int 0, .null, .null]) (pc := 41) G hi 4 7 dX4_init_41 rfl inX4 tyX4_ok nmX4 (by decide) tw_f_RX4_29 rfl rfl rfl (by decide) f127 (Nat.le_of_ble_eq_true rfl) (fun _ => rfl) (fun _ => rfl) ?_
  generalize hC11 : cup C10 127 _ = C11
  have hF11 : ∀ j, 127 ≤ j → j ≠ 127 → j < 154 → C11 j = cellE (vX X) M0 j := by
    intro j h0 q127 h9
    rw [← hC11]
    rw [cup_ne _ q127]
    exact hF10 j h0 q127 (by omega)
  have hB11 : ∀ j, j < 127 → C11 j = C j := fun j hj => by rw [← hC11, cup_ne _ (by omega)]; exact hB10 j hj
  have f127 : C11 127 = .inr (4, [.int 0, .ref ((vX X).2.2.2.2.2 + 128), .null, .null, .ref ((vX X).2.2.2.2.2 + 129), .ref ((vX X).2.2.2.2.2 + 140), .int 0, .ref ((vX X).2.2.2.2.2 + 147), .null]) := by rw [← hC11, cup_same] <;> rfl
  clear hC11
  refine bm_aload (i := 0) (t := 11) (pc := 44) G dX4_init_44 rfl rfl rfl (by decide) ?_
  refine bm_new (fs := [.int 0, .null, .null, .null, .null, .null, .null]) (pc := 45) G 7 tyX7 dX4_init_45 rfl inX7 tyX7_ok (by decide) tw_l_RX4_22 tw_x_RX7 tw_z_RX7 (hR.le (by decide) (by decide)) ?_
  generalize hC12 : cup C11 154 _ = C12
  have hF12 : ∀ j, 127 ≤ j → j ≠ 127 → j ≠ 154 → j < 155 → C12 j = cellE (vX X) M0 j := by
    intro j h0 q127 q154 h9
    rw [← hC12]
    rw [cup_ne _ q154]
    exact hF11 j h0 q127 (by omega)
  have hB12 : ∀ j, j < 127 → C12 j = C j := fun j hj => by rw [← hC12, cup_ne _ (by omega)]; exact hB11 j hj
  have f127 : C12 127 = .inr (4, [.int 0, .ref ((vX X).2.2.2.2.2 + 128), .null, .null, .ref ((vX X).2.2.2.2.2 + 129), .ref ((vX X).2.2.2.2.2 + 140), .int 0, .ref ((vX X).2.2.2.2.2 + 147), .null]) := by rw [← hC12, cup_ne _ (by decide)]; exact f127
  have f154 : C12 154 = .inr (7, [.int 0, .null, .null, .null, .null, .null, .null]) := by rw [← hC12, cup_same] <;> rfl
  clear hC12
  refine bm_dup (pc := 48) G dX4_init_48 (Nat.ne_of_beq_eq_false rfl) ?_
  refine bm_callN (t := 14) (nc := 6) (ns := 96) (st := [(17, _), (14, _)]) (rmc := rm_X7_init) (pc := 49) G [] rfl dX4_init_49 (by decide) tw_n_RX4_24 tw_i_X7_init tw_z_RX7 tw_c_X7_init hy_X7_init (by rw [hr]; exact ⟨rfl, rfl, Nat.le_of_ble_eq_true rfl, Nat.le_of_ble_eq_true rfl⟩) rfl (hR.le (by decide) (by decide)) ?_
  refine ctor_T (vX X) 154 (by decide) _ f154 (fun C13 hL hN => ?_)
  show BW X 33 836 52 _ [(17, _), (14, _)] C13 161
  have hF13 : ∀ j, 127 ≤ j → j ≠ 127 → j < 161 → C13 j = cellE (vX X) M0 j := by
    intro j h0 q127 h9
    by_cases h : j < 154
    · rw [hL j h]; exact hF12 j h0 q127 (by omega) (by omega)
    · exact hN j (by omega) h9
  have hB13 : ∀ j, j < 127 → C13 j = C j := fun j hj => by rw [hL j (by omega)]; exact hB12 j hj
  have f127 : C13 127 = .inr (4, [.int 0, .ref ((vX X).2.2.2.2.2 + 128), .null, .null, .ref ((vX X).2.2.2.2.2 + 129), .ref ((vX X).2.2.2.2.2 + 140), .int 0, .ref ((vX X).2.2.2.2.2 + 147), .null]) := by rw [hL 127 (by decide)]; exact f127
  have e154 : C13 154 = .inr (7, _) := (hF13 154 (by decide) (by decide) (by decide)).trans (tree_fin (vX X) (k := 154) (by decide) 0 (by decide))
  clear hL hN
  refine bm_putR (t := 14) (o := 127) (q := 154) (fs := [.int 0, .ref ((vX X).2.2.2.2.2 + 128), .null, .null, .ref ((vX X).2.2.2.2.2 + 129), .ref ((vX X).2.2.2.2.2 + 140), .int 0, .ref ((vX X).2.2.2.2.2 + 147), .null]) (pc := 52) G hi 4 8 dX4_init_52 rfl inX4 tyX4_ok nmX4 (by decide) tw_f_RX4_32 rfl rfl rfl (by decide) f127 (Nat.le_of_ble_eq_true rfl) (fun _ => rfl) (fun _ => rfl) ?_
  generalize hC14 : cup C13 127 _ = C14
  have hF14 : ∀ j, 127 ≤ j → j ≠ 127 → j < 161 → C14 j = cellE (vX X) M0 j := by
    intro j h0 q127 h9
    rw [← hC14]
    rw [cup_ne _ q127]
    exact hF13 j h0 q127 (by omega)
  have hB14 : ∀ j, j < 127 → C14 j = C j := fun j hj => by rw [← hC14, cup_ne _ (by omega)]; exact hB13 j hj
  have f127 : C14 127 = .inr (4, [.int 0, .ref ((vX X).2.2.2.2.2 + 128), .null, .null, .ref ((vX X).2.2.2.2.2 + 129), .ref ((vX X).2.2.2.2.2 + 140), .int 0, .ref ((vX X).2.2.2.2.2 + 147), .ref ((vX X).2.2.2.2.2 + 154)]) := by rw [← hC14, cup_same] <;> rfl
  clear hC14
  refine bm_aload (i := 0) (t := 11) (pc := 55) G dX4_init_55 rfl rfl rfl (by decide) ?_
  refine bm_aload (i := 1) (t := 13) (pc := 56) G dX4_init_56 rfl rfl rfl (by decide) ?_
  refine bm_putR (t := 13) (o := 127) (q := 28) (fs := [.int 0, .ref ((vX X).2.2.2.2.2 + 128), .null, .null, .ref ((vX X).2.2.2.2.2 + 129), .ref ((vX X).2.2.2.2.2 + 140), .int 0, .ref ((vX X).2.2.2.2.2 + 147), .ref ((vX X).2.2.2.2.2 + 154)]) (pc := 57) G hi 4 2 dX4_init_57 rfl inX4 tyX4_ok nmX4 (by decide) tw_f_RX4_35 rfl rfl rfl (by decide) f127 (Nat.le_of_ble_eq_true rfl) (fun _ => rfl) (fun _ => rfl) ?_
  generalize hC15 : cup C14 127 _ = C15
  have hF15 : ∀ j, 127 ≤ j → j ≠ 127 → j < 161 → C15 j = cellE (vX X) M0 j := by
    intro j h0 q127 h9
    rw [← hC15]
    rw [cup_ne _ q127]
    exact hF14 j h0 q127 (by omega)
  have hB15 : ∀ j, j < 127 → C15 j = C j := fun j hj => by rw [← hC15, cup_ne _ (by omega)]; exact hB14 j hj
  have f127 : C15 127 = .inr (4, [.int 0, .ref ((vX X).2.2.2.2.2 + 128), .ref ((vX X).2.2.2.2.2 + 28), .null, .ref ((vX X).2.2.2.2.2 + 129), .ref ((vX X).2.2.2.2.2 + 140), .int 0, .ref ((vX X).2.2.2.2.2 + 147), .ref ((vX X).2.2.2.2.2 + 154)]) := by rw [← hC15, cup_same] <;> rfl
  clear hC15
  refine bm_aload (i := 0) (t := 11) (pc := 60) G dX4_init_60 rfl rfl rfl (by decide) ?_
  refine bm_aload (i := 2) (t := 15) (pc := 61) G dX4_init_61 rfl rfl rfl (by decide) ?_
  refine bm_putR (t := 15) (o := 127) (q := 123) (fs := [.int 0, .ref ((vX X).2.2.2.2.2 + 128), .ref ((vX X).2.2.2.2.2 + 28), .null, .ref ((vX X).2.2.2.2.2 + 129), .ref ((vX X).2.2.2.2.2 + 140), .int 0, .ref ((vX X).2.2.2.2.2 + 147), .ref ((vX X).2.2.2.2.2 + 154)]) (pc := 62) G hi 4 3 dX4_init_62 rfl inX4 tyX4_ok nmX4 (by decide) tw_f_RX4_39 rfl rfl rfl (by decide) f127 (Nat.le_of_ble_eq_true rfl) (fun _ => rfl) (fun _ => rfl) ?_
  generalize hC16 : cup C15 127 _ = C16
  have hF16 : ∀ j, 127 ≤ j → j ≠ 127 → j < 161 → C16 j = cellE (vX X) M0 j := by
    intro j h0 q127 h9
    rw [← hC16]
    rw [cup_ne _ q127]
    exact hF15 j h0 q127 (by omega)
  have hB16 : ∀ j, j < 127 → C16 j = C j := fun j hj => by rw [← hC16, cup_ne _ (by omega)]; exact hB15 j hj
  have f127 : C16 127 = .inr (4, [.int 0, .ref ((vX X).2.2.2.2.2 + 128), .ref ((vX X).2.2.2.2.2 + 28), .ref ((vX X).2.2.2.2.2 + 123), .ref ((vX X).2.2.2.2.2 + 129), .ref ((vX X).2.2.2.2.2 + 140), .int 0, .ref ((vX X).2.2.2.2.2 + 147), .ref ((vX X).2.2.2.2.2 + 154)]) := by rw [← hC16, cup_same] <;> rfl
  clear hC16
  refine bm_ret (pc := 65) G Z dX4_init_65 ?_
  refine hq C16 hB16 (fun j h0 h9 => ?_)
  by_cases hc127 : j = 127
  · subst hc127; rw [f127]; exact fin_127 (vX X)
  exact hF16 j h0 hc127 h9
def rm_X9_init : Room := { frames := 3, cells := 202, slots := 6090, locals := 62 }
theorem hy_X9_init : yX9_init.cls ≠ "java/lang/invoke/MethodHandle" ∧ yX9_init.cls ≠ "java/lang/invoke/VarHandle" ∧ (parseMethodDescriptor yX9_init.desc).map (fun d => d.parameters.length) = some 0 := by decide +kernel
theorem fin_0 (V : VV) : (.inr (9, [.ref (V.2.2.2.2.2 + 1), .ref (V.2.2.2.2.2 + 3), .ref (V.2.2.2.2.2 + 4), .ref (V.2.2.2.2.2 + 11), .ref (V.2.2.2.2.2 + 12), .ref (V.2.2.2.2.2 + 20), .ref (V.2.2.2.2.2 + 25), .ref (V.2.2.2.2.2 + 28), .ref (V.2.2.2.2.2 + 123), .ref (V.2.2.2.2.2 + 127), .int (i32 (-6)), .int (i32 (-1)), .int (i32 (-1))]) : va_E) = cellE V M0 0 := by
  rfl
theorem fin_3 (V : VV) : (.inl (V.2.2.2.2.1, 6, .inr (.inr (.inr (.inr (va_up (va_up (va_up (va_up (va_up (va_up (fun _ => none) (Int.toNat 0) (some (V.2.2.2.2.2 + 161))) (Int.toNat 1) (some (V.2.2.2.2.2 + 168))) (Int.toNat 2) (some (V.2.2.2.2.2 + 175))) (Int.toNat 3) (some (V.2.2.2.2.2 + 182))) (Int.toNat 4) (some (V.2.2.2.2.2 + 189))) (Int.toNat 5) (some (V.2.2.2.2.2 + 196))))))) : va_E) = cellE V M0 3 := by
  rw [cellE_ta (by decide)]
  congr 7
  funext j
  match j with
  | 0 => rfl
  | 1 => rfl
  | 2 => rfl
  | 3 => rfl
  | 4 => rfl
  | 5 => rfl
  | j + 6 =>
    rw [if_neg (by show ¬ j + 6 < 6; omega)]
    rfl
set_option maxRecDepth 20000 in
set_option maxHeartbeats 2000000 in
theorem ctor_X9_init (V : VV) (C : Nat → va_E) (hC : C 0 = .inr (9, [.null, .null, .null, .null, .null, .null, .null, .null, .null, .null, .int 0, .int 0, .int 0])) {Q : (Nat → va_E) → Nat → Prop} (hq : ∀ C', (∀ j, j < 0 → C' j = C j) → (∀ j, 0 ≤ j → j < 203 → C' j = cellE V M0 j) → Q C' 203) : RunsC V yX9_init (.code yX9_init cX9_init 2 none) rm_X9_init 202 6090 [(19, ((0 : Nat) : Int))] C 1 Q := by
  refine metc_in (own := "TreeHands") (by decide +kernel) rfl rfl (Nat.le_of_ble_eq_true rfl) ?_
  intro X G Z hi hn hr hv
  subst hv
  have hR : roomC X 202 6090 := by
    obtain ⟨V0, nL, p, e, R, s, m, args, below, meth, c, cells, slots, A, Q0⟩ := X
    have hr : R = rm_X9_init := hr
    subst hr
    exact ⟨Nat.le_of_ble_eq_true rfl, Nat.le_of_ble_eq_true rfl⟩
  show BW X 0 0 0 [(19, ((0 : Nat) : Int)), (99, 0)] [] C 1
  have hF0 : ∀ j, 0 ≤ j → j ≠ 0 → j < 1 → C j = cellE (vX X) M0 j := fun j h1 h2 h3 => by omega
  have hB0 : ∀ j, j < 0 → C j = C j := fun _ _ => rfl
  have f0 := hC
  generalize hC0 : C = C0 at f0 hF0 ⊢
  have hB0 : ∀ j, j < 0 → C0 j = C j := fun j _ => by rw [hC0]
  clear hC0
  refine bm_aload (i := 0) (t := 16) (pc := 0) G dX9_init_0 rfl rfl rfl (by decide) ?_
  refine bm_obj (t := 16) (pc := 1) G dX9_init_1 tw_m_RX9_1 (by decide) (by rw [hr]; exact ⟨Nat.le_of_ble_eq_true rfl, Nat.le_of_ble_eq_true rfl⟩) rfl ?_
  refine bm_aload (i := 0) (t := 16) (pc := 4) G dX9_init_4 rfl rfl rfl (by decide) ?_
  refine bm_new (fs := [.int 0, .null]) (pc := 5) G 5 tyX5 dX9_init_5 rfl inX5 tyX5_ok (by decide) tw_l_RX9_7 tw_x_RX5 tw_z_RX5 (hR.le (by decide) (by decide)) ?_
  generalize hC1 : cup C0 1 _ = C1
  have hF1 : ∀ j, 0 ≤ j → j ≠ 0 → j ≠ 1 → j < 2 → C1 j = cellE (vX X) M0 j := by
    intro j h0 q0 q1 h9
    rw [← hC1]
    rw [cup_ne _ q1]
    exact hF0 j h0 q0 (by omega)
  have hB1 : ∀ j, j < 0 → C1 j = C j := fun j hj => by rw [← hC1, cup_ne _ (by omega)]; exact hB0 j hj
  have f0 : C1 0 = .inr (9, [.null, .null, .null, .null, .null, .null, .null, .null, .null, .null, .int 0, .int 0, .int 0]) := by rw [← hC1, cup_ne _ (by decide)]; exact f0
  have f1 : C1 1 = .inr (5, [.int 0, .null]) := by rw [← hC1, cup_same] <;> rfl
  clear hC1
  refine bm_dup (pc := 8) G dX9_init_8 (Nat.ne_of_beq_eq_false rfl) ?_
  refine bm_callN (t := 12) (nc := 1) (ns := 60) (st := [(15, _), (19, _)]) (rmc := rm_X5_init) (pc := 9) G [] rfl dX9_init_9 (by decide) tw_n_RX9_9 tw_i_X5_init tw_z_RX5 tw_c_X5_init hy_X5_init (by rw [hr]; exact ⟨rfl, rfl, Nat.le_of_ble_eq_true rfl, Nat.le_of_ble_eq_true rfl⟩) rfl (hR.le (by decide) (by decide)) ?_
  refine ctor_X5_init (vX X) _ f1 (fun C2 hL hN => ?_)
  show BW X 2 62 12 _ [(15, _), (19, _)] C2 3
  have hF2 : ∀ j, 0 ≤ j → j ≠ 0 → j < 3 → C2 j = cellE (vX X) M0 j := by
    intro j h0 q0 h9
    by_cases h : j < 1
    · rw [hL j h]; exact hF1 j h0 q0 (by omega) (by omega)
    · exact hN j (by omega) h9
  have hB2 : ∀ j, j < 0 → C2 j = C j := fun j hj => by rw [hL j (by omega)]; exact hB1 j hj
  have f0 : C2 0 = .inr (9, [.null, .null, .null, .null, .null, .null, .null, .null, .null, .null, .int 0, .int 0, .int 0]) := by rw [hL 0 (by decide)]; exact f0
  clear hL hN
  refine bm_putR (t := 12) (o := 0) (q := 1) (fs := [.null, .null, .null, .null, .null, .null, .null, .null, .null, .null, .int 0, .int 0, .int 0]) (pc := 12) G hi 9 0 dX9_init_12 rfl inX9 tyX9_ok nmX9 (by decide) tw_f_RX9_10 rfl rfl rfl (by decide) f0 (Nat.le_of_ble_eq_true rfl) (fun _ => rfl) (fun _ => rfl) ?_
  generalize hC3 : cup C2 0 _ = C3
  have hF3 : ∀ j, 0 ≤ j → j ≠ 0 → j < 3 → C3 j = cellE (vX X) M0 j := by
    intro j h0 q0 h9
    rw [← hC3]
    rw [cup_ne _ q0]
    exact hF2 j h0 q0 (by omega)
  have hB3 : ∀ j, j < 0 → C3 j = C j := fun j hj => by rw [← hC3, cup_ne _ (by omega)]; exact hB2 j hj
  have f0 : C3 0 = .inr (9, [.ref ((vX X).2.2.2.2.2 + 1), .null, .null, .null, .null, .null, .null, .null, .null, .null, .int 0, .int 0, .int 0]) := by rw [← hC3, cup_same] <;> rfl
  clear hC3
  refine bm_aload (i := 0) (t := 16) (pc := 15) G dX9_init_15 rfl rfl rfl (by decide) ?_
  refine bm_bipush (pc := 16) G dX9_init_16 (by decide) ?_
  refine bm_newt (t := 19998) (pc := 18) G 6 dX9_init_18 tw_l_RX9_16 (by decide) (hR.le (by decide) (by decide)) ?_
  generalize hC4 : cup C3 3 _ = C4
  have hF4 : ∀ j, 0 ≤ j → j ≠ 0 → j ≠ 3 → j < 4 → C4 j = cellE (vX X) M0 j := by
    intro j h0 q0 q3 h9
    rw [← hC4]
    rw [cup_ne _ q3]
    exact hF3 j h0 q0 (by omega)
  have hB4 : ∀ j, j < 0 → C4 j = C j := fun j hj => by rw [← hC4, cup_ne _ (by omega)]; exact hB3 j hj
  have f0 : C4 0 = .inr (9, [.ref ((vX X).2.2.2.2.2 + 1), .null, .null, .null, .null, .null, .null, .null, .null, .null, .int 0, .int 0, .int 0]) := by rw [← hC4, cup_ne _ (by decide)]; exact f0
  have f3 : C4 3 = .inl ((vX X).2.2.2.2.1, 6, .inr (.inr (.inr (.inr (fun _ => none))))) := by rw [← hC4, cup_same] <;> rfl
  clear hC4
  refine bm_putR (t := 19998) (o := 0) (q := 3) (fs := [.ref ((vX X).2.2.2.2.2 + 1), .null, .null, .null, .null, .null, .null, .null, .null, .null, .int 0, .int 0, .int 0]) (pc := 21) G hi 9 1 dX9_init_21 rfl inX9 tyX9_ok nmX9 (by decide) tw_f_RX9_18 rfl rfl rfl (by decide) f0 (Nat.le_of_ble_eq_true rfl) (fun _ => rfl) (fun _ => rfl) ?_
  generalize hC5 : cup C4 0 _ = C5
  have hF5 : ∀ j, 0 ≤ j → j ≠ 0 → j ≠ 3 → j < 4 → C5 j = cellE (vX X) M0 j := by
    intro j h0 q0 q3 h9
    rw [← hC5]
    rw [cup_ne _ q0]
    exact hF4 j h0 q0 q3 (by omega)
  have hB5 : ∀ j, j < 0 → C5 j = C j := fun j hj => by rw [← hC5, cup_ne _ (by omega)]; exact hB4 j hj
  have f0 : C5 0 = .inr (9, [.ref ((vX X).2.2.2.2.2 + 1), .ref ((vX X).2.2.2.2.2 + 3), .null, .null, .null, .null, .null, .null, .null, .null, .int 0, .int 0, .int 0]) := by rw [← hC5, cup_same] <;> rfl
  have f3 : C5 3 = .inl ((vX X).2.2.2.2.1, 6, .inr (.inr (.inr (.inr (fun _ => none))))) := by rw [← hC5, cup_ne _ (by decide)]; exact f3
  clear hC5
  refine bm_aload (i := 0) (t := 16) (pc := 24) G dX9_init_24 rfl rfl rfl (by decide) ?_
  refine bm_new (fs := [.int 0, .null, .null, .null, .null, .null, .null]) (pc := 25) G 7 tyX7 dX9_init_25 rfl inX7 tyX7_ok (by decide) tw_l_RX9_16 tw_x_RX7 tw_z_RX7 (hR.le (by decide) (by decide)) ?_
  generalize hC6 : cup C5 4 _ = C6
  have hF6 : ∀ j, 0 ≤ j → j ≠ 0 → j ≠ 3 → j ≠ 4 → j < 5 → C6 j = cellE (vX X) M0 j := by
    intro j h0 q0 q3 q4 h9
    rw [← hC6]
    rw [cup_ne _ q4]
    exact hF5 j h0 q0 q3 (by omega)
  have hB6 : ∀ j, j < 0 → C6 j = C j := fun j hj => by rw [← hC6, cup_ne _ (by omega)]; exact hB5 j hj
  have f0 : C6 0 = .inr (9, [.ref ((vX X).2.2.2.2.2 + 1), .ref ((vX X).2.2.2.2.2 + 3), .null, .null, .null, .null, .null, .null, .null, .null, .int 0, .int 0, .int 0]) := by rw [← hC6, cup_ne _ (by decide)]; exact f0
  have f3 : C6 3 = .inl ((vX X).2.2.2.2.1, 6, .inr (.inr (.inr (.inr (fun _ => none))))) := by rw [← hC6, cup_ne _ (by decide)]; exact f3
  have f4 : C6 4 = .inr (7, [.int 0, .null, .null, .null, .null, .null, .null]) := by rw [← hC6, cup_same] <;> rfl
  clear hC6
  refine bm_dup (pc := 28) G dX9_init_28 (Nat.ne_of_beq_eq_false rfl) ?_
  refine bm_callN (t := 14) (nc := 6) (ns := 96) (st := [(17, _), (19, _)]) (rmc := rm_X7_init) (pc := 29) G [] rfl dX9_init_29 (by decide) tw_n_RX9_22 tw_i_X7_init tw_z_RX7 tw_c_X7_init hy_X7_init (by rw [hr]; exact ⟨rfl, rfl, Nat.le_of_ble_eq_true rfl, Nat.le_of_ble_eq_true rfl⟩) rfl (hR.le (by decide) (by decide)) ?_
  refine ctor_T (vX X) 4 (by decide) _ f4 (fun C7 hL hN => ?_)
  show BW X 10 171 32 _ [(17, _), (19, _)] C7 11
  have hF7 : ∀ j, 0 ≤ j → j ≠ 0 → j ≠ 3 → j < 11 → C7 j = cellE (vX X) M0 j := by
    intro j h0 q0 q3 h9
    by_cases h : j < 4
    · rw [hL j h]; exact hF6 j h0 q0 q3 (by omega) (by omega)
    · exact hN j (by omega) h9
  have hB7 : ∀ j, j < 0 → C7 j = C j := fun j hj => by rw [hL j (by omega)]; exact hB6 j hj
  have f0 : C7 0 = .inr (9, [.ref ((vX X).2.2.2.2.2 + 1), .ref ((vX X).2.2.2.2.2 + 3), .null, .null, .null, .null, .null, .null, .null, .null, .int 0, .int 0, .int 0]) := by rw [hL 0 (by decide)]; exact f0
  have f3 : C7 3 = .inl ((vX X).2.2.2.2.1, 6, .inr (.inr (.inr (.inr (fun _ => none))))) := by rw [hL 3 (by decide)]; exact f3
  have e4 : C7 4 = .inr (7, _) := (hF7 4 (by decide) (by decide) (by decide) (by decide)).trans (tree_fin (vX X) (k := 4) (by decide) 0 (by decide))
  clear hL hN
  refine bm_putR (t := 14) (o := 0) (q := 4) (fs := [.ref ((vX X).2.2.2.2.2 + 1), .ref ((vX X).2.2.2.2.2 + 3), .null, .null, .null, .null, .null, .null, .null, .null, .int 0, .int 0, .int 0]) (pc := 32) G hi 9 2 dX9_init_32 rfl inX9 tyX9_ok nmX9 (by decide) tw_f_RX9_23 rfl rfl rfl (by decide) f0 (Nat.le_of_ble_eq_true rfl) (fun _ => rfl) (fun _ => rfl) ?_
  generalize hC8 : cup C7 0 _ = C8
  have hF8 : ∀ j, 0 ≤ j → j ≠ 0 → j ≠ 3 → j < 11 → C8 j = cellE (vX X) M0 j := by
    intro j h0 q0 q3 h9
    rw [← hC8]
    rw [cup_ne _ q0]
    exact hF7 j h0 q0 q3 (by omega)
  have hB8 : ∀ j, j < 0 → C8 j = C j := fun j hj => by rw [← hC8, cup_ne _ (by omega)]; exact hB7 j hj
  have f0 : C8 0 = .inr (9, [.ref ((vX X).2.2.2.2.2 + 1), .ref ((vX X).2.2.2.2.2 + 3), .ref ((vX X).2.2.2.2.2 + 4), .null, .null, .null, .null, .null, .null, .null, .int 0, .int 0, .int 0]) := by rw [← hC8, cup_same] <;> rfl
  have f3 : C8 3 = .inl ((vX X).2.2.2.2.1, 6, .inr (.inr (.inr (.inr (fun _ => none))))) := by rw [← hC8, cup_ne _ (by decide)]; exact f3
  clear hC8
  refine bm_aload (i := 0) (t := 16) (pc := 35) G dX9_init_35 rfl rfl rfl (by decide) ?_
  refine bm_bipush (pc := 36) G dX9_init_36 (by decide) ?_
  refine bm_newi (pc := 38) G 60 dX9_init_38 (by decide) (hR.le (by decide) (by decide)) ?_
  generalize hC9 : cup C8 11 _ = C9
  have hF9 : ∀ j, 0 ≤ j → j ≠ 0 → j ≠ 3 → j < 12 → C9 j = cellE (vX X) M0 j := by
    intro j h0 q0 q3 h9
    rw [← hC9]
    by_cases h : j = 11
    · subst h; rw [cup_same]; exact (cellZ_i (vX X) (k := 11) (n := 60) rfl (by decide) (by decide)).symm
    · rw [cup_ne _ h]; exact hF8 j h0 q0 q3 (by omega)
  have hB9 : ∀ j, j < 0 → C9 j = C j := fun j hj => by rw [← hC9, cup_ne _ (by omega)]; exact hB8 j hj
  have f0 : C9 0 = .inr (9, [.ref ((vX X).2.2.2.2.2 + 1), .ref ((vX X).2.2.2.2.2 + 3), .ref ((vX X).2.2.2.2.2 + 4), .null, .null, .null, .null, .null, .null, .null, .int 0, .int 0, .int 0]) := by rw [← hC9, cup_ne _ (by decide)]; exact f0
  have f3 : C9 3 = .inl ((vX X).2.2.2.2.1, 6, .inr (.inr (.inr (.inr (fun _ => none))))) := by rw [← hC9, cup_ne _ (by decide)]; exact f3
  clear hC9
  refine bm_putR (t := 157) (o := 0) (q := 11) (fs := [.ref ((vX X).2.2.2.2.2 + 1), .ref ((vX X).2.2.2.2.2 + 3), .ref ((vX X).2.2.2.2.2 + 4), .null, .null, .null, .null, .null, .null, .null, .int 0, .int 0, .int 0]) (pc := 40) G hi 9 3 dX9_init_40 rfl inX9 tyX9_ok nmX9 (by decide) tw_f_RX9_27 rfl rfl rfl (by decide) f0 (Nat.le_of_ble_eq_true rfl) (fun _ => rfl) (fun _ => rfl) ?_
  generalize hC10 : cup C9 0 _ = C10
  have hF10 : ∀ j, 0 ≤ j → j ≠ 0 → j ≠ 3 → j < 12 → C10 j = cellE (vX X) M0 j := by
    intro j h0 q0 q3 h9
    rw [← hC10]
    rw [cup_ne _ q0]
    exact hF9 j h0 q0 q3 (by omega)
  have hB10 : ∀ j, j < 0 → C10 j = C j := fun j hj => by rw [← hC10, cup_ne _ (by omega)]; exact hB9 j hj
  have f0 : C10 0 = .inr (9, [.ref ((vX X).2.2.2.2.2 + 1), .ref ((vX X).2.2.2.2.2 + 3), .ref ((vX X).2.2.2.2.2 + 4), .ref ((vX X).2.2.2.2.2 + 11), .null, .null, .null, .null, .null, .null, .int 0, .int 0, .int 0]) := by rw [← hC10, cup_same] <;> rfl
  have f3 : C10 3 = .inl ((vX X).2.2.2.2.1, 6, .inr (.inr (.inr (.inr (fun _ => none))))) := by rw [← hC10, cup_ne _ (by decide)]; exact f3
  clear hC10
  refine bm_aload (i := 0) (t := 16) (pc := 43) G dX9_init_43 rfl rfl rfl (by decide) ?_
  refine bm_new (fs := [.null, .null, .null, .int 0, .int 0, .int 0, .null, .null, .null, .null, .long 0, .long 0]) (pc := 44) G 2 tyX2 dX9_init_44 rfl inX2 tyX2_ok (by decide) tw_l_RX9_31 tw_x_RX2 tw_z_RX2 (hR.le (by decide) (by decide)) ?_
  generalize hC11 : cup C10 12 _ = C11
  have hF11 : ∀ j, 0 ≤ j → j ≠ 0 → j ≠ 3 → j ≠ 12 → j < 13 → C11 j = cellE (vX X) M0 j := by
    intro j h0 q0 q3 q12 h9
    rw [← hC11]
    rw [cup_ne _ q12]
    exact hF10 j h0 q0 q3 (by omega)
  have hB11 : ∀ j, j < 0 → C11 j = C j := fun j hj => by rw [← hC11, cup_ne _ (by omega)]; exact hB10 j hj
  have f0 : C11 0 = .inr (9, [.ref ((vX X).2.2.2.2.2 + 1), .ref ((vX X).2.2.2.2.2 + 3), .ref ((vX X).2.2.2.2.2 + 4), .ref ((vX X).2.2.2.2.2 + 11), .null, .null, .null, .null, .null, .null, .int 0, .int 0, .int 0]) := by rw [← hC11, cup_ne _ (by decide)]; exact f0
  have f3 : C11 3 = .inl ((vX X).2.2.2.2.1, 6, .inr (.inr (.inr (.inr (fun _ => none))))) := by rw [← hC11, cup_ne _ (by decide)]; exact f3
  have f12 : C11 12 = .inr (2, [.null, .null, .null, .int 0, .int 0, .int 0, .null, .null, .null, .null, .long 0, .long 0]) := by rw [← hC11, cup_same] <;> rfl
  clear hC11
  refine bm_dup (pc := 47) G dX9_init_47 (Nat.ne_of_beq_eq_false rfl) ?_
  refine bm_callN (t := 9) (nc := 7) (ns := 1191) (st := [(12, _), (19, _)]) (rmc := rm_X2_init) (pc := 48) G [] rfl dX9_init_48 (by decide) tw_n_RX9_33 tw_i_X2_init tw_z_RX2 tw_c_X2_init hy_X2_init (by rw [hr]; exact ⟨rfl, rfl, Nat.le_of_ble_eq_true rfl, Nat.le_of_ble_eq_true rfl⟩) rfl (hR.le (by decide) (by decide)) ?_
  refine ctor_X2_init (vX X) _ f12 (fun C12 hL hN => ?_)
  show BW X 19 1434 51 _ [(12, _), (19, _)] C12 20
  have hF12 : ∀ j, 0 ≤ j → j ≠ 0 → j ≠ 3 → j < 20 → C12 j = cellE (vX X) M0 j := by
    intro j h0 q0 q3 h9
    by_cases h : j < 12
    · rw [hL j h]; exact hF11 j h0 q0 q3 (by omega) (by omega)
    · exact hN j (by omega) h9
  have hB12 : ∀ j, j < 0 → C12 j = C j := fun j hj => by rw [hL j (by omega)]; exact hB11 j hj
  have f0 : C12 0 = .inr (9, [.ref ((vX X).2.2.2.2.2 + 1), .ref ((vX X).2.2.2.2.2 + 3), .ref ((vX X).2.2.2.2.2 + 4), .ref ((vX X).2.2.2.2.2 + 11), .null, .null, .null, .null, .null, .null, .int 0, .int 0, .int 0]) := by rw [hL 0 (by decide)]; exact f0
  have f3 : C12 3 = .inl ((vX X).2.2.2.2.1, 6, .inr (.inr (.inr (.inr (fun _ => none))))) := by rw [hL 3 (by decide)]; exact f3
  clear hL hN
  refine bm_putR (t := 9) (o := 0) (q := 12) (fs := [.ref ((vX X).2.2.2.2.2 + 1), .ref ((vX X).2.2.2.2.2 + 3), .ref ((vX X).2.2.2.2.2 + 4), .ref ((vX X).2.2.2.2.2 + 11), .null, .null, .null, .null, .null, .null, .int 0, .int 0, .int 0]) (pc := 51) G hi 9 4 dX9_init_51 rfl inX9 tyX9_ok nmX9 (by decide) tw_f_RX9_34 rfl rfl rfl (by decide) f0 (Nat.le_of_ble_eq_true rfl) (fun _ => rfl) (fun _ => rfl) ?_
  generalize hC13 : cup C12 0 _ = C13
  have hF13 : ∀ j, 0 ≤ j → j ≠ 0 → j ≠ 3 → j < 20 → C13 j = cellE (vX X) M0 j := by
    intro j h0 q0 q3 h9
    rw [← hC13]
    rw [cup_ne _ q0]
    exact hF12 j h0 q0 q3 (by omega)
  have hB13 : ∀ j, j < 0 → C13 j = C j := fun j hj => by rw [← hC13, cup_ne _ (by omega)]; exact hB12 j hj
  have f0 : C13 0 = .inr (9, [.ref ((vX X).2.2.2.2.2 + 1), .ref ((vX X).2.2.2.2.2 + 3), .ref ((vX X).2.2.2.2.2 + 4), .ref ((vX X).2.2.2.2.2 + 11), .ref ((vX X).2.2.2.2.2 + 12), .null, .null, .null, .null, .null, .int 0, .int 0, .int 0]) := by rw [← hC13, cup_same] <;> rfl
  have f3 : C13 3 = .inl ((vX X).2.2.2.2.1, 6, .inr (.inr (.inr (.inr (fun _ => none))))) := by rw [← hC13, cup_ne _ (by decide)]; exact f3
  clear hC13
  refine bm_aload (i := 0) (t := 16) (pc := 54) G dX9_init_54 rfl rfl rfl (by decide) ?_
  refine bm_new (fs := [.int 0, .int 0, .null, .null, .null, .null]) (pc := 55) G 3 tyX3 dX9_init_55 rfl inX3 tyX3_ok (by decide) tw_l_RX9_38 tw_x_RX3 tw_z_RX3 (hR.le (by decide) (by decide)) ?_
  generalize hC14 : cup C13 20 _ = C14
  have hF14 : ∀ j, 0 ≤ j → j ≠ 0 → j ≠ 3 → j ≠ 20 → j < 21 → C14 j = cellE (vX X) M0 j := by
    intro j h0 q0 q3 q20 h9
    rw [← hC14]
    rw [cup_ne _ q20]
    exact hF13 j h0 q0 q3 (by omega)
  have hB14 : ∀ j, j < 0 → C14 j = C j := fun j hj => by rw [← hC14, cup_ne _ (by omega)]; exact hB13 j hj
  have f0 : C14 0 = .inr (9, [.ref ((vX X).2.2.2.2.2 + 1), .ref ((vX X).2.2.2.2.2 + 3), .ref ((vX X).2.2.2.2.2 + 4), .ref ((vX X).2.2.2.2.2 + 11), .ref ((vX X).2.2.2.2.2 + 12), .null, .null, .null, .null, .null, .int 0, .int 0, .int 0]) := by rw [← hC14, cup_ne _ (by decide)]; exact f0
  have f3 : C14 3 = .inl ((vX X).2.2.2.2.1, 6, .inr (.inr (.inr (.inr (fun _ => none))))) := by rw [← hC14, cup_ne _ (by decide)]; exact f3
  have f20 : C14 20 = .inr (3, [.int 0, .int 0, .null, .null, .null, .null]) := by rw [← hC14, cup_same] <;> rfl
  clear hC14
  refine bm_dup (pc := 58) G dX9_init_58 (Nat.ne_of_beq_eq_false rfl) ?_
  refine bm_callN (t := 10) (nc := 4) (ns := 64) (st := [(13, _), (19, _)]) (rmc := rm_X3_init) (pc := 59) G [] rfl dX9_init_59 (by decide) tw_n_RX9_40 tw_i_X3_init tw_z_RX3 tw_c_X3_init hy_X3_init (by rw [hr]; exact ⟨rfl, rfl, Nat.le_of_ble_eq_true rfl, Nat.le_of_ble_eq_true rfl⟩) rfl (hR.le (by decide) (by decide)) ?_
  refine ctor_X3_init (vX X) _ f20 (fun C15 hL hN => ?_)
  show BW X 24 1504 62 _ [(13, _), (19, _)] C15 25
  have hF15 : ∀ j, 0 ≤ j → j ≠ 0 → j ≠ 3 → j < 25 → C15 j = cellE (vX X) M0 j := by
    intro j h0 q0 q3 h9
    by_cases h : j < 20
    · rw [hL j h]; exact hF14 j h0 q0 q3 (by omega) (by omega)
    · exact hN j (by omega) h9
  have hB15 : ∀ j, j < 0 → C15 j = C j := fun j hj => by rw [hL j (by omega)]; exact hB14 j hj
  have f0 : C15 0 = .inr (9, [.ref ((vX X).2.2.2.2.2 + 1), .ref ((vX X).2.2.2.2.2 + 3), .ref ((vX X).2.2.2.2.2 + 4), .ref ((vX X).2.2.2.2.2 + 11), .ref ((vX X).2.2.2.2.2 + 12), .null, .null, .null, .null, .null, .int 0, .int 0, .int 0]) := by rw [hL 0 (by decide)]; exact f0
  have f3 : C15 3 = .inl ((vX X).2.2.2.2.1, 6, .inr (.inr (.inr (.inr (fun _ => none))))) := by rw [hL 3 (by decide)]; exact f3
  clear hL hN
  refine bm_putR (t := 10) (o := 0) (q := 20) (fs := [.ref ((vX X).2.2.2.2.2 + 1), .ref ((vX X).2.2.2.2.2 + 3), .ref ((vX X).2.2.2.2.2 + 4), .ref ((vX X).2.2.2.2.2 + 11), .ref ((vX X).2.2.2.2.2 + 12), .null, .null, .null, .null, .null, .int 0, .int 0, .int 0]) (pc := 62) G hi 9 5 dX9_init_62 rfl inX9 tyX9_ok nmX9 (by decide) tw_f_RX9_41 rfl rfl rfl (by decide) f0 (Nat.le_of_ble_eq_true rfl) (fun _ => rfl) (fun _ => rfl) ?_
  generalize hC16 : cup C15 0 _ = C16
  have hF16 : ∀ j, 0 ≤ j → j ≠ 0 → j ≠ 3 → j < 25 → C16 j = cellE (vX X) M0 j := by
    intro j h0 q0 q3 h9
    rw [← hC16]
    rw [cup_ne _ q0]
    exact hF15 j h0 q0 q3 (by omega)
  have hB16 : ∀ j, j < 0 → C16 j = C j := fun j hj => by rw [← hC16, cup_ne _ (by omega)]; exact hB15 j hj
  have f0 : C16 0 = .inr (9, [.ref ((vX X).2.2.2.2.2 + 1), .ref ((vX X).2.2.2.2.2 + 3), .ref ((vX X).2.2.2.2.2 + 4), .ref ((vX X).2.2.2.2.2 + 11), .ref ((vX X).2.2.2.2.2 + 12), .ref ((vX X).2.2.2.2.2 + 20), .null, .null, .null, .null, .int 0, .int 0, .int 0]) := by rw [← hC16, cup_same] <;> rfl
  have f3 : C16 3 = .inl ((vX X).2.2.2.2.1, 6, .inr (.inr (.inr (.inr (fun _ => none))))) := by rw [← hC16, cup_ne _ (by decide)]; exact f3
  clear hC16
  refine bm_aload (i := 0) (t := 16) (pc := 65) G dX9_init_65 rfl rfl rfl (by decide) ?_
  refine bm_new (fs := [.int 0, .null, .null]) (pc := 66) G 0 tyX0 dX9_init_66 rfl inX0 tyX0_ok (by decide) tw_l_RX9_45 tw_x_RX0 tw_z_RX0 (hR.le (by decide) (by decide)) ?_
  generalize hC17 : cup C16 25 _ = C17
  have hF17 : ∀ j, 0 ≤ j → j ≠ 0 → j ≠ 3 → j ≠ 25 → j < 26 → C17 j = cellE (vX X) M0 j := by
    intro j h0 q0 q3 q25 h9
    rw [← hC17]
    rw [cup_ne _ q25]
    exact hF16 j h0 q0 q3 (by omega)
  have hB17 : ∀ j, j < 0 → C17 j = C j := fun j hj => by rw [← hC17, cup_ne _ (by omega)]; exact hB16 j hj
  have f0 : C17 0 = .inr (9, [.ref ((vX X).2.2.2.2.2 + 1), .ref ((vX X).2.2.2.2.2 + 3), .ref ((vX X).2.2.2.2.2 + 4), .ref ((vX X).2.2.2.2.2 + 11), .ref ((vX X).2.2.2.2.2 + 12), .ref ((vX X).2.2.2.2.2 + 20), .null, .null, .null, .null, .int 0, .int 0, .int 0]) := by rw [← hC17, cup_ne _ (by decide)]; exact f0
  have f3 : C17 3 = .inl ((vX X).2.2.2.2.1, 6, .inr (.inr (.inr (.inr (fun _ => none))))) := by rw [← hC17, cup_ne _ (by decide)]; exact f3
  have f25 : C17 25 = .inr (0, [.int 0, .null, .null]) := by rw [← hC17, cup_same] <;> rfl
  clear hC17
  refine bm_dup (pc := 69) G dX9_init_69 (Nat.ne_of_beq_eq_false rfl) ?_
  refine bm_callN (t := 7) (nc := 2) (ns := 16) (st := [(10, _), (19, _)]) (rmc := rm_X0_init) (pc := 70) G [] rfl dX9_init_70 (by decide) tw_n_RX9_47 tw_i_X0_init tw_z_RX0 tw_c_X0_init hy_X0_init (by rw [hr]; exact ⟨rfl, rfl, Nat.le_of_ble_eq_true rfl, Nat.le_of_ble_eq_true rfl⟩) rfl (hR.le (by decide) (by decide)) ?_
  refine ctor_X0_init (vX X) _ f25 (fun C18 hL hN => ?_)
  show BW X 27 1523 73 _ [(10, _), (19, _)] C18 28
  have hF18 : ∀ j, 0 ≤ j → j ≠ 0 → j ≠ 3 → j < 28 → C18 j = cellE (vX X) M0 j := by
    intro j h0 q0 q3 h9
    by_cases h : j < 25
    · rw [hL j h]; exact hF17 j h0 q0 q3 (by omega) (by omega)
    · exact hN j (by omega) h9
  have hB18 : ∀ j, j < 0 → C18 j = C j := fun j hj => by rw [hL j (by omega)]; exact hB17 j hj
  have f0 : C18 0 = .inr (9, [.ref ((vX X).2.2.2.2.2 + 1), .ref ((vX X).2.2.2.2.2 + 3), .ref ((vX X).2.2.2.2.2 + 4), .ref ((vX X).2.2.2.2.2 + 11), .ref ((vX X).2.2.2.2.2 + 12), .ref ((vX X).2.2.2.2.2 + 20), .null, .null, .null, .null, .int 0, .int 0, .int 0]) := by rw [hL 0 (by decide)]; exact f0
  have f3 : C18 3 = .inl ((vX X).2.2.2.2.1, 6, .inr (.inr (.inr (.inr (fun _ => none))))) := by rw [hL 3 (by decide)]; exact f3
  clear hL hN
  refine bm_putR (t := 7) (o := 0) (q := 25) (fs := [.ref ((vX X).2.2.2.2.2 + 1), .ref ((vX X).2.2.2.2.2 + 3), .ref ((vX X).2.2.2.2.2 + 4), .ref ((vX X).2.2.2.2.2 + 11), .ref ((vX X).2.2.2.2.2 + 12), .ref ((vX X).2.2.2.2.2 + 20), .null, .null, .null, .null, .int 0, .int 0, .int 0]) (pc := 73) G hi 9 6 dX9_init_73 rfl inX9 tyX9_ok nmX9 (by decide) tw_f_RX9_48 rfl rfl rfl (by decide) f0 (Nat.le_of_ble_eq_true rfl) (fun _ => rfl) (fun _ => rfl) ?_
  generalize hC19 : cup C18 0 _ = C19
  have hF19 : ∀ j, 0 ≤ j → j ≠ 0 → j ≠ 3 → j < 28 → C19 j = cellE (vX X) M0 j := by
    intro j h0 q0 q3 h9
    rw [← hC19]
    rw [cup_ne _ q0]
    exact hF18 j h0 q0 q3 (by omega)
  have hB19 : ∀ j, j < 0 → C19 j = C j := fun j hj => by rw [← hC19, cup_ne _ (by omega)]; exact hB18 j hj
  have f0 : C19 0 = .inr (9, [.ref ((vX X).2.2.2.2.2 + 1), .ref ((vX X).2.2.2.2.2 + 3), .ref ((vX X).2.2.2.2.2 + 4), .ref ((vX X).2.2.2.2.2 + 11), .ref ((vX X).2.2.2.2.2 + 12), .ref ((vX X).2.2.2.2.2 + 20), .ref ((vX X).2.2.2.2.2 + 25), .null, .null, .null, .int 0, .int 0, .int 0]) := by rw [← hC19, cup_same] <;> rfl
  have f3 : C19 3 = .inl ((vX X).2.2.2.2.1, 6, .inr (.inr (.inr (.inr (fun _ => none))))) := by rw [← hC19, cup_ne _ (by decide)]; exact f3
  clear hC19
  refine bm_aload (i := 0) (t := 16) (pc := 76) G dX9_init_76 rfl rfl rfl (by decide) ?_
  refine bm_new (fs := [.int 0, .null, .null, .null, .null]) (pc := 77) G 6 tyX6 dX9_init_77 rfl inX6 tyX6_ok (by decide) tw_l_RX9_52 tw_x_RX6 tw_z_RX6 (hR.le (by decide) (by decide)) ?_
  generalize hC20 : cup C19 28 _ = C20
  have hF20 : ∀ j, 0 ≤ j → j ≠ 0 → j ≠ 3 → j ≠ 28 → j < 29 → C20 j = cellE (vX X) M0 j := by
    intro j h0 q0 q3 q28 h9
    rw [← hC20]
    rw [cup_ne _ q28]
    exact hF19 j h0 q0 q3 (by omega)
  have hB20 : ∀ j, j < 0 → C20 j = C j := fun j hj => by rw [← hC20, cup_ne _ (by omega)]; exact hB19 j hj
  have f0 : C20 0 = .inr (9, [.ref ((vX X).2.2.2.2.2 + 1), .ref ((vX X).2.2.2.2.2 + 3), .ref ((vX X).2.2.2.2.2 + 4), .ref ((vX X).2.2.2.2.2 + 11), .ref ((vX X).2.2.2.2.2 + 12), .ref ((vX X).2.2.2.2.2 + 20), .ref ((vX X).2.2.2.2.2 + 25), .null, .null, .null, .int 0, .int 0, .int 0]) := by rw [← hC20, cup_ne _ (by decide)]; exact f0
  have f3 : C20 3 = .inl ((vX X).2.2.2.2.1, 6, .inr (.inr (.inr (.inr (fun _ => none))))) := by rw [← hC20, cup_ne _ (by decide)]; exact f3
  have f28 : C20 28 = .inr (6, [.int 0, .null, .null, .null, .null]) := by rw [← hC20, cup_same] <;> rfl
  clear hC20
  refine bm_dup (pc := 80) G dX9_init_80 (Nat.ne_of_beq_eq_false rfl) ?_
  refine bm_call (t := 13) (nc := 94) (ns := 1359) (st := [(16, _), (19, _)]) (rmc := rm_X6_init) (pc := 81) G [] rfl dX9_init_81 (by decide) tw_m_RX9_54 tw_i_X6_init tw_z_RX6 tw_c_X6_init hy_X6_init (by rw [hr]; exact ⟨rfl, rfl, Nat.le_of_ble_eq_true rfl, Nat.le_of_ble_eq_true rfl⟩) rfl (hR.le (by decide) (by decide)) ?_
  refine ctor_X6_init (vX X) _ f28 (fun C21 hL hN => ?_)
  show BW X 122 2887 84 _ [(16, _), (19, _)] C21 123
  have hF21 : ∀ j, 0 ≤ j → j ≠ 0 → j ≠ 3 → j < 123 → C21 j = cellE (vX X) M0 j := by
    intro j h0 q0 q3 h9
    by_cases h : j < 28
    · rw [hL j h]; exact hF20 j h0 q0 q3 (by omega) (by omega)
    · exact hN j (by omega) h9
  have hB21 : ∀ j, j < 0 → C21 j = C j := fun j hj => by rw [hL j (by omega)]; exact hB20 j hj
  have f0 : C21 0 = .inr (9, [.ref ((vX X).2.2.2.2.2 + 1), .ref ((vX X).2.2.2.2.2 + 3), .ref ((vX X).2.2.2.2.2 + 4), .ref ((vX X).2.2.2.2.2 + 11), .ref ((vX X).2.2.2.2.2 + 12), .ref ((vX X).2.2.2.2.2 + 20), .ref ((vX X).2.2.2.2.2 + 25), .null, .null, .null, .int 0, .int 0, .int 0]) := by rw [hL 0 (by decide)]; exact f0
  have f3 : C21 3 = .inl ((vX X).2.2.2.2.1, 6, .inr (.inr (.inr (.inr (fun _ => none))))) := by rw [hL 3 (by decide)]; exact f3
  clear hL hN
  refine bm_putR (t := 13) (o := 0) (q := 28) (fs := [.ref ((vX X).2.2.2.2.2 + 1), .ref ((vX X).2.2.2.2.2 + 3), .ref ((vX X).2.2.2.2.2 + 4), .ref ((vX X).2.2.2.2.2 + 11), .ref ((vX X).2.2.2.2.2 + 12), .ref ((vX X).2.2.2.2.2 + 20), .ref ((vX X).2.2.2.2.2 + 25), .null, .null, .null, .int 0, .int 0, .int 0]) (pc := 84) G hi 9 7 dX9_init_84 rfl inX9 tyX9_ok nmX9 (by decide) tw_f_RX9_55 rfl rfl rfl (by decide) f0 (Nat.le_of_ble_eq_true rfl) (fun _ => rfl) (fun _ => rfl) ?_
  generalize hC22 : cup C21 0 _ = C22
  have hF22 : ∀ j, 0 ≤ j → j ≠ 0 → j ≠ 3 → j < 123 → C22 j = cellE (vX X) M0 j := by
    intro j h0 q0 q3 h9
    rw [← hC22]
    rw [cup_ne _ q0]
    exact hF21 j h0 q0 q3 (by omega)
  have hB22 : ∀ j, j < 0 → C22 j = C j := fun j hj => by rw [← hC22, cup_ne _ (by omega)]; exact hB21 j hj
  have f0 : C22 0 = .inr (9, [.ref ((vX X).2.2.2.2.2 + 1), .ref ((vX X).2.2.2.2.2 + 3), .ref ((vX X).2.2.2.2.2 + 4), .ref ((vX X).2.2.2.2.2 + 11), .ref ((vX X).2.2.2.2.2 + 12), .ref ((vX X).2.2.2.2.2 + 20), .ref ((vX X).2.2.2.2.2 + 25), .ref ((vX X).2.2.2.2.2 + 28), .null, .null, .int 0, .int 0, .int 0]) := by rw [← hC22, cup_same] <;> rfl
  have f3 : C22 3 = .inl ((vX X).2.2.2.2.1, 6, .inr (.inr (.inr (.inr (fun _ => none))))) := by rw [← hC22, cup_ne _ (by decide)]; exact f3
  clear hC22
  refine bm_aload (i := 0) (t := 16) (pc := 87) G dX9_init_87 rfl rfl rfl (by decide) ?_
  refine bm_new (fs := [.int 0, .null, .null, .null, .null, .int 0, .int 0]) (pc := 88) G 8 tyX8 dX9_init_88 rfl inX8 tyX8_ok (by decide) tw_l_RX9_59 tw_x_RX8 tw_z_RX8 (hR.le (by decide) (by decide)) ?_
  generalize hC23 : cup C22 123 _ = C23
  have hF23 : ∀ j, 0 ≤ j → j ≠ 0 → j ≠ 3 → j ≠ 123 → j < 124 → C23 j = cellE (vX X) M0 j := by
    intro j h0 q0 q3 q123 h9
    rw [← hC23]
    rw [cup_ne _ q123]
    exact hF22 j h0 q0 q3 (by omega)
  have hB23 : ∀ j, j < 0 → C23 j = C j := fun j hj => by rw [← hC23, cup_ne _ (by omega)]; exact hB22 j hj
  have f0 : C23 0 = .inr (9, [.ref ((vX X).2.2.2.2.2 + 1), .ref ((vX X).2.2.2.2.2 + 3), .ref ((vX X).2.2.2.2.2 + 4), .ref ((vX X).2.2.2.2.2 + 11), .ref ((vX X).2.2.2.2.2 + 12), .ref ((vX X).2.2.2.2.2 + 20), .ref ((vX X).2.2.2.2.2 + 25), .ref ((vX X).2.2.2.2.2 + 28), .null, .null, .int 0, .int 0, .int 0]) := by rw [← hC23, cup_ne _ (by decide)]; exact f0
  have f3 : C23 3 = .inl ((vX X).2.2.2.2.1, 6, .inr (.inr (.inr (.inr (fun _ => none))))) := by rw [← hC23, cup_ne _ (by decide)]; exact f3
  have f123 : C23 123 = .inr (8, [.int 0, .null, .null, .null, .null, .int 0, .int 0]) := by rw [← hC23, cup_same] <;> rfl
  clear hC23
  refine bm_dup (pc := 91) G dX9_init_91 (Nat.ne_of_beq_eq_false rfl) ?_
  refine bm_aload (i := 0) (t := 16) (pc := 92) G dX9_init_92 rfl rfl rfl (by decide) ?_
  refine bm_getr (t := 13) (o := 0) (q := 28) (fs := [.ref ((vX X).2.2.2.2.2 + 1), .ref ((vX X).2.2.2.2.2 + 3), .ref ((vX X).2.2.2.2.2 + 4), .ref ((vX X).2.2.2.2.2 + 11), .ref ((vX X).2.2.2.2.2 + 12), .ref ((vX X).2.2.2.2.2 + 20), .ref ((vX X).2.2.2.2.2 + 25), .ref ((vX X).2.2.2.2.2 + 28), .null, .null, .int 0, .int 0, .int 0]) (pc := 93) G 9 7 dX9_init_93 rfl inX9 (by decide) tw_f_RX9_55 rfl (by decide) f0 rfl ?_
  refine bm_call (t := 15) (nc := 3) (ns := 1733) (st := [(18, _), (19, _)]) (rmc := rm_X8_init) (pc := 96) G [(16, _)] rfl dX9_init_96 (by decide) tw_m_RX9_61 tw_i_X8_init tw_z_RX8 tw_c_X8_init hy_X8_init (by rw [hr]; exact ⟨rfl, rfl, Nat.le_of_ble_eq_true rfl, Nat.le_of_ble_eq_true rfl⟩) rfl (hR.le (by decide) (by decide)) ?_
  refine ctor_X8_init (vX X) _ f123 (fun C24 hL hN => ?_)
  show BW X 126 4627 99 _ [(18, _), (19, _)] C24 127
  have hF24 : ∀ j, 0 ≤ j → j ≠ 0 → j ≠ 3 → j < 127 → C24 j = cellE (vX X) M0 j := by
    intro j h0 q0 q3 h9
    by_cases h : j < 123
    · rw [hL j h]; exact hF23 j h0 q0 q3 (by omega) (by omega)
    · exact hN j (by omega) h9
  have hB24 : ∀ j, j < 0 → C24 j = C j := fun j hj => by rw [hL j (by omega)]; exact hB23 j hj
  have f0 : C24 0 = .inr (9, [.ref ((vX X).2.2.2.2.2 + 1), .ref ((vX X).2.2.2.2.2 + 3), .ref ((vX X).2.2.2.2.2 + 4), .ref ((vX X).2.2.2.2.2 + 11), .ref ((vX X).2.2.2.2.2 + 12), .ref ((vX X).2.2.2.2.2 + 20), .ref ((vX X).2.2.2.2.2 + 25), .ref ((vX X).2.2.2.2.2 + 28), .null, .null, .int 0, .int 0, .int 0]) := by rw [hL 0 (by decide)]; exact f0
  have f3 : C24 3 = .inl ((vX X).2.2.2.2.1, 6, .inr (.inr (.inr (.inr (fun _ => none))))) := by rw [hL 3 (by decide)]; exact f3
  clear hL hN
  refine bm_putR (t := 15) (o := 0) (q := 123) (fs := [.ref ((vX X).2.2.2.2.2 + 1), .ref ((vX X).2.2.2.2.2 + 3), .ref ((vX X).2.2.2.2.2 + 4), .ref ((vX X).2.2.2.2.2 + 11), .ref ((vX X).2.2.2.2.2 + 12), .ref ((vX X).2.2.2.2.2 + 20), .ref ((vX X).2.2.2.2.2 + 25), .ref ((vX X).2.2.2.2.2 + 28), .null, .null, .int 0, .int 0, .int 0]) (pc := 99) G hi 9 8 dX9_init_99 rfl inX9 tyX9_ok nmX9 (by decide) tw_f_RX9_64 rfl rfl rfl (by decide) f0 (Nat.le_of_ble_eq_true rfl) (fun _ => rfl) (fun _ => rfl) ?_
  generalize hC25 : cup C24 0 _ = C25
  have hF25 : ∀ j, 0 ≤ j → j ≠ 0 → j ≠ 3 → j < 127 → C25 j = cellE (vX X) M0 j := by
    intro j h0 q0 q3 h9
    rw [← hC25]
    rw [cup_ne _ q0]
    exact hF24 j h0 q0 q3 (by omega)
  have hB25 : ∀ j, j < 0 → C25 j = C j := fun j hj => by rw [← hC25, cup_ne _ (by omega)]; exact hB24 j hj
  have f0 : C25 0 = .inr (9, [.ref ((vX X).2.2.2.2.2 + 1), .ref ((vX X).2.2.2.2.2 + 3), .ref ((vX X).2.2.2.2.2 + 4), .ref ((vX X).2.2.2.2.2 + 11), .ref ((vX X).2.2.2.2.2 + 12), .ref ((vX X).2.2.2.2.2 + 20), .ref ((vX X).2.2.2.2.2 + 25), .ref ((vX X).2.2.2.2.2 + 28), .ref ((vX X).2.2.2.2.2 + 123), .null, .int 0, .int 0, .int 0]) := by rw [← hC25, cup_same] <;> rfl
  have f3 : C25 3 = .inl ((vX X).2.2.2.2.1, 6, .inr (.inr (.inr (.inr (fun _ => none))))) := by rw [← hC25, cup_ne _ (by decide)]; exact f3
  clear hC25
  refine bm_aload (i := 0) (t := 16) (pc := 102) G dX9_init_102 rfl rfl rfl (by decide) ?_
  refine bm_new (fs := [.int 0, .null, .null, .null, .null, .null, .int 0, .null, .null]) (pc := 103) G 4 tyX4 dX9_init_103 rfl inX4 tyX4_ok (by decide) tw_l_RX9_68 tw_x_RX4 tw_z_RX4 (hR.le (by decide) (by decide)) ?_
  generalize hC26 : cup C25 127 _ = C26
  have hF26 : ∀ j, 0 ≤ j → j ≠ 0 → j ≠ 3 → j ≠ 127 → j < 128 → C26 j = cellE (vX X) M0 j := by
    intro j h0 q0 q3 q127 h9
    rw [← hC26]
    rw [cup_ne _ q127]
    exact hF25 j h0 q0 q3 (by omega)
  have hB26 : ∀ j, j < 0 → C26 j = C j := fun j hj => by rw [← hC26, cup_ne _ (by omega)]; exact hB25 j hj
  have f0 : C26 0 = .inr (9, [.ref ((vX X).2.2.2.2.2 + 1), .ref ((vX X).2.2.2.2.2 + 3), .ref ((vX X).2.2.2.2.2 + 4), .ref ((vX X).2.2.2.2.2 + 11), .ref ((vX X).2.2.2.2.2 + 12), .ref ((vX X).2.2.2.2.2 + 20), .ref ((vX X).2.2.2.2.2 + 25), .ref ((vX X).2.2.2.2.2 + 28), .ref ((vX X).2.2.2.2.2 + 123), .null, .int 0, .int 0, .int 0]) := by rw [← hC26, cup_ne _ (by decide)]; exact f0
  have f3 : C26 3 = .inl ((vX X).2.2.2.2.1, 6, .inr (.inr (.inr (.inr (fun _ => none))))) := by rw [← hC26, cup_ne _ (by decide)]; exact f3
  have f127 : C26 127 = .inr (4, [.int 0, .null, .null, .null, .null, .null, .int 0, .null, .null]) := by rw [← hC26, cup_same] <;> rfl
  clear hC26
  refine bm_dup (pc := 106) G dX9_init_106 (Nat.ne_of_beq_eq_false rfl) ?_
  refine bm_aload (i := 0) (t := 16) (pc := 107) G dX9_init_107 rfl rfl rfl (by decide) ?_
  refine bm_getr (t := 13) (o := 0) (q := 28) (fs := [.ref ((vX X).2.2.2.2.2 + 1), .ref ((vX X).2.2.2.2.2 + 3), .ref ((vX X).2.2.2.2.2 + 4), .ref ((vX X).2.2.2.2.2 + 11), .ref ((vX X).2.2.2.2.2 + 12), .ref ((vX X).2.2.2.2.2 + 20), .ref ((vX X).2.2.2.2.2 + 25), .ref ((vX X).2.2.2.2.2 + 28), .ref ((vX X).2.2.2.2.2 + 123), .null, .int 0, .int 0, .int 0]) (pc := 108) G 9 7 dX9_init_108 rfl inX9 (by decide) tw_f_RX9_55 rfl (by decide) f0 rfl ?_
  refine bm_aload (i := 0) (t := 16) (pc := 111) G dX9_init_111 rfl rfl rfl (by decide) ?_
  refine bm_getr (t := 15) (o := 0) (q := 123) (fs := [.ref ((vX X).2.2.2.2.2 + 1), .ref ((vX X).2.2.2.2.2 + 3), .ref ((vX X).2.2.2.2.2 + 4), .ref ((vX X).2.2.2.2.2 + 11), .ref ((vX X).2.2.2.2.2 + 12), .ref ((vX X).2.2.2.2.2 + 20), .ref ((vX X).2.2.2.2.2 + 25), .ref ((vX X).2.2.2.2.2 + 28), .ref ((vX X).2.2.2.2.2 + 123), .null, .int 0, .int 0, .int 0]) (pc := 112) G 9 8 dX9_init_112 rfl inX9 (by decide) tw_f_RX9_64 rfl (by decide) f0 rfl ?_
  refine bm_call (t := 11) (nc := 33) (ns := 836) (st := [(14, _), (19, _)]) (rmc := rm_X4_init) (pc := 115) G [(16, _), (18, _)] rfl dX9_init_115 (by decide) tw_m_RX9_70 tw_i_X4_init tw_z_RX4 tw_c_X4_init hy_X4_init (by rw [hr]; exact ⟨rfl, rfl, Nat.le_of_ble_eq_true rfl, Nat.le_of_ble_eq_true rfl⟩) rfl (hR.le (by decide) (by decide)) ?_
  refine ctor_X4_init (vX X) _ f127 (fun C27 hL hN => ?_)
  show BW X 160 5472 118 _ [(14, _), (19, _)] C27 161
  have hF27 : ∀ j, 0 ≤ j → j ≠ 0 → j ≠ 3 → j < 161 → C27 j = cellE (vX X) M0 j := by
    intro j h0 q0 q3 h9
    by_cases h : j < 127
    · rw [hL j h]; exact hF26 j h0 q0 q3 (by omega) (by omega)
    · exact hN j (by omega) h9
  have hB27 : ∀ j, j < 0 → C27 j = C j := fun j hj => by rw [hL j (by omega)]; exact hB26 j hj
  have f0 : C27 0 = .inr (9, [.ref ((vX X).2.2.2.2.2 + 1), .ref ((vX X).2.2.2.2.2 + 3), .ref ((vX X).2.2.2.2.2 + 4), .ref ((vX X).2.2.2.2.2 + 11), .ref ((vX X).2.2.2.2.2 + 12), .ref ((vX X).2.2.2.2.2 + 20), .ref ((vX X).2.2.2.2.2 + 25), .ref ((vX X).2.2.2.2.2 + 28), .ref ((vX X).2.2.2.2.2 + 123), .null, .int 0, .int 0, .int 0]) := by rw [hL 0 (by decide)]; exact f0
  have f3 : C27 3 = .inl ((vX X).2.2.2.2.1, 6, .inr (.inr (.inr (.inr (fun _ => none))))) := by rw [hL 3 (by decide)]; exact f3
  clear hL hN
  refine bm_putR (t := 11) (o := 0) (q := 127) (fs := [.ref ((vX X).2.2.2.2.2 + 1), .ref ((vX X).2.2.2.2.2 + 3), .ref ((vX X).2.2.2.2.2 + 4), .ref ((vX X).2.2.2.2.2 + 11), .ref ((vX X).2.2.2.2.2 + 12), .ref ((vX X).2.2.2.2.2 + 20), .ref ((vX X).2.2.2.2.2 + 25), .ref ((vX X).2.2.2.2.2 + 28), .ref ((vX X).2.2.2.2.2 + 123), .null, .int 0, .int 0, .int 0]) (pc := 118) G hi 9 9 dX9_init_118 rfl inX9 tyX9_ok nmX9 (by decide) tw_f_RX9_73 rfl rfl rfl (by decide) f0 (Nat.le_of_ble_eq_true rfl) (fun _ => rfl) (fun _ => rfl) ?_
  generalize hC28 : cup C27 0 _ = C28
  have hF28 : ∀ j, 0 ≤ j → j ≠ 0 → j ≠ 3 → j < 161 → C28 j = cellE (vX X) M0 j := by
    intro j h0 q0 q3 h9
    rw [← hC28]
    rw [cup_ne _ q0]
    exact hF27 j h0 q0 q3 (by omega)
  have hB28 : ∀ j, j < 0 → C28 j = C j := fun j hj => by rw [← hC28, cup_ne _ (by omega)]; exact hB27 j hj
  have f0 : C28 0 = .inr (9, [.ref ((vX X).2.2.2.2.2 + 1), .ref ((vX X).2.2.2.2.2 + 3), .ref ((vX X).2.2.2.2.2 + 4), .ref ((vX X).2.2.2.2.2 + 11), .ref ((vX X).2.2.2.2.2 + 12), .ref ((vX X).2.2.2.2.2 + 20), .ref ((vX X).2.2.2.2.2 + 25), .ref ((vX X).2.2.2.2.2 + 28), .ref ((vX X).2.2.2.2.2 + 123), .ref ((vX X).2.2.2.2.2 + 127), .int 0, .int 0, .int 0]) := by rw [← hC28, cup_same] <;> rfl
  have f3 : C28 3 = .inl ((vX X).2.2.2.2.1, 6, .inr (.inr (.inr (.inr (fun _ => none))))) := by rw [← hC28, cup_ne _ (by decide)]; exact f3
  clear hC28
  refine bm_aload (i := 0) (t := 16) (pc := 121) G dX9_init_121 rfl rfl rfl (by decide) ?_
  refine bm_bipush (pc := 122) G dX9_init_122 (by decide) ?_
  refine bm_puti (o := 0) (fs := [.ref ((vX X).2.2.2.2.2 + 1), .ref ((vX X).2.2.2.2.2 + 3), .ref ((vX X).2.2.2.2.2 + 4), .ref ((vX X).2.2.2.2.2 + 11), .ref ((vX X).2.2.2.2.2 + 12), .ref ((vX X).2.2.2.2.2 + 20), .ref ((vX X).2.2.2.2.2 + 25), .ref ((vX X).2.2.2.2.2 + 28), .ref ((vX X).2.2.2.2.2 + 123), .ref ((vX X).2.2.2.2.2 + 127), .int 0, .int 0, .int 0]) (pc := 124) G 9 10 dX9_init_124 rfl inX9 tyX9_ok nmX9 (by decide) tw_f_RX9_77 rfl rfl (by decide) f0 (Nat.le_of_ble_eq_true rfl) rfl ?_
  generalize hC29 : cup C28 0 _ = C29
  have hF29 : ∀ j, 0 ≤ j → j ≠ 0 → j ≠ 3 → j < 161 → C29 j = cellE (vX X) M0 j := by
    intro j h0 q0 q3 h9
    rw [← hC29]
    rw [cup_ne _ q0]
    exact hF28 j h0 q0 q3 (by omega)
  have hB29 : ∀ j, j < 0 → C29 j = C j := fun j hj => by rw [← hC29, cup_ne _ (by omega)]; exact hB28 j hj
  have f0 : C29 0 = .inr (9, [.ref ((vX X).2.2.2.2.2 + 1), .ref ((vX X).2.2.2.2.2 + 3), .ref ((vX X).2.2.2.2.2 + 4), .ref ((vX X).2.2.2.2.2 + 11), .ref ((vX X).2.2.2.2.2 + 12), .ref ((vX X).2.2.2.2.2 + 20), .ref ((vX X).2.2.2.2.2 + 25), .ref ((vX X).2.2.2.2.2 + 28), .ref ((vX X).2.2.2.2.2 + 123), .ref ((vX X).2.2.2.2.2 + 127), .int (i32 (-6)), .int 0, .int 0]) := by rw [← hC29, cup_same] <;> rfl
  have f3 : C29 3 = .inl ((vX X).2.2.2.2.1, 6, .inr (.inr (.inr (.inr (fun _ => none))))) := by rw [← hC29, cup_ne _ (by decide)]; exact f3
  clear hC29
  refine bm_aload (i := 0) (t := 16) (pc := 127) G dX9_init_127 rfl rfl rfl (by decide) ?_
  refine bm_iconst (pc := 128) G dX9_init_128 ?_
  refine bm_puti (o := 0) (fs := [.ref ((vX X).2.2.2.2.2 + 1), .ref ((vX X).2.2.2.2.2 + 3), .ref ((vX X).2.2.2.2.2 + 4), .ref ((vX X).2.2.2.2.2 + 11), .ref ((vX X).2.2.2.2.2 + 12), .ref ((vX X).2.2.2.2.2 + 20), .ref ((vX X).2.2.2.2.2 + 25), .ref ((vX X).2.2.2.2.2 + 28), .ref ((vX X).2.2.2.2.2 + 123), .ref ((vX X).2.2.2.2.2 + 127), .int (i32 (-6)), .int 0, .int 0]) (pc := 129) G 9 11 dX9_init_129 rfl inX9 tyX9_ok nmX9 (by decide) tw_f_RX9_81 rfl rfl (by decide) f0 (Nat.le_of_ble_eq_true rfl) rfl ?_
  generalize hC30 : cup C29 0 _ = C30
  have hF30 : ∀ j, 0 ≤ j → j ≠ 0 → j ≠ 3 → j < 161 → C30 j = cellE (vX X) M0 j := by
    intro j h0 q0 q3 h9
    rw [← hC30]
    rw [cup_ne _ q0]
    exact hF29 j h0 q0 q3 (by omega)
  have hB30 : ∀ j, j < 0 → C30 j = C j := fun j hj => by rw [← hC30, cup_ne _ (by omega)]; exact hB29 j hj
  have f0 : C30 0 = .inr (9, [.ref ((vX X).2.2.2.2.2 + 1), .ref ((vX X).2.2.2.2.2 + 3), .ref ((vX X).2.2.2.2.2 + 4), .ref ((vX X).2.2.2.2.2 + 11), .ref ((vX X).2.2.2.2.2 + 12), .ref ((vX X).2.2.2.2.2 + 20), .ref ((vX X).2.2.2.2.2 + 25), .ref ((vX X).2.2.2.2.2 + 28), .ref ((vX X).2.2.2.2.2 + 123), .ref ((vX X).2.2.2.2.2 + 127), .int (i32 (-6)), .int (i32 (-1)), .int 0]) := by rw [← hC30, cup_same] <;> rfl
  have f3 : C30 3 = .inl ((vX X).2.2.2.2.1, 6, .inr (.inr (.inr (.inr (fun _ => none))))) := by rw [← hC30, cup_ne _ (by decide)]; exact f3
  clear hC30
  refine bm_aload (i := 0) (t := 16) (pc := 132) G dX9_init_132 rfl rfl rfl (by decide) ?_
  refine bm_iconst (pc := 133) G dX9_init_133 ?_
  refine bm_puti (o := 0) (fs := [.ref ((vX X).2.2.2.2.2 + 1), .ref ((vX X).2.2.2.2.2 + 3), .ref ((vX X).2.2.2.2.2 + 4), .ref ((vX X).2.2.2.2.2 + 11), .ref ((vX X).2.2.2.2.2 + 12), .ref ((vX X).2.2.2.2.2 + 20), .ref ((vX X).2.2.2.2.2 + 25), .ref ((vX X).2.2.2.2.2 + 28), .ref ((vX X).2.2.2.2.2 + 123), .ref ((vX X).2.2.2.2.2 + 127), .int (i32 (-6)), .int (i32 (-1)), .int 0]) (pc := 134) G 9 12 dX9_init_134 rfl inX9 tyX9_ok nmX9 (by decide) tw_f_RX9_84 rfl rfl (by decide) f0 (Nat.le_of_ble_eq_true rfl) rfl ?_
  generalize hC31 : cup C30 0 _ = C31
  have hF31 : ∀ j, 0 ≤ j → j ≠ 0 → j ≠ 3 → j < 161 → C31 j = cellE (vX X) M0 j := by
    intro j h0 q0 q3 h9
    rw [← hC31]
    rw [cup_ne _ q0]
    exact hF30 j h0 q0 q3 (by omega)
  have hB31 : ∀ j, j < 0 → C31 j = C j := fun j hj => by rw [← hC31, cup_ne _ (by omega)]; exact hB30 j hj
  have f0 : C31 0 = .inr (9, [.ref ((vX X).2.2.2.2.2 + 1), .ref ((vX X).2.2.2.2.2 + 3), .ref ((vX X).2.2.2.2.2 + 4), .ref ((vX X).2.2.2.2.2 + 11), .ref ((vX X).2.2.2.2.2 + 12), .ref ((vX X).2.2.2.2.2 + 20), .ref ((vX X).2.2.2.2.2 + 25), .ref ((vX X).2.2.2.2.2 + 28), .ref ((vX X).2.2.2.2.2 + 123), .ref ((vX X).2.2.2.2.2 + 127), .int (i32 (-6)), .int (i32 (-1)), .int (i32 (-1))]) := by rw [← hC31, cup_same] <;> rfl
  have f3 : C31 3 = .inl ((vX X).2.2.2.2.1, 6, .inr (.inr (.inr (.inr (fun _ => none))))) := by rw [← hC31, cup_ne _ (by decide)]; exact f3
  clear hC31
  refine bm_iconst (pc := 137) G dX9_init_137 ?_
  refine bm_istore (pc := 138) G dX9_init_138 rfl (nlx hn rfl) rfl ?_
  refine bm_iload (i := 1) (pc := 139) (ls := [(19, _), (0, _)]) G dX9_init_139 rfl rfl ?_
  refine bm_bipush (pc := 140) G dX9_init_140 (by decide) ?_
  refine bm_gen (pc := 142) G 164 dX9_init_142 (by decide) (by decide) ?_
  refine bm_aload (i := 0) (t := 16) (pc := 145) G dX9_init_145 rfl rfl rfl (by decide) ?_
  refine bm_getr (t := 19998) (o := 0) (q := 3) (fs := [.ref ((vX X).2.2.2.2.2 + 1), .ref ((vX X).2.2.2.2.2 + 3), .ref ((vX X).2.2.2.2.2 + 4), .ref ((vX X).2.2.2.2.2 + 11), .ref ((vX X).2.2.2.2.2 + 12), .ref ((vX X).2.2.2.2.2 + 20), .ref ((vX X).2.2.2.2.2 + 25), .ref ((vX X).2.2.2.2.2 + 28), .ref ((vX X).2.2.2.2.2 + 123), .ref ((vX X).2.2.2.2.2 + 127), .int (i32 (-6)), .int (i32 (-1)), .int (i32 (-1))]) (pc := 146) G 9 1 dX9_init_146 rfl inX9 (by decide) tw_f_RX9_18 rfl (by decide) f0 rfl ?_
  refine bm_iload (i := 1) (pc := 149) G dX9_init_149 rfl rfl ?_
  refine bm_new (fs := [.int 0, .null, .null, .null, .null, .null, .null]) (pc := 150) G 7 tyX7 dX9_init_150 rfl inX7 tyX7_ok (by decide) tw_l_RX9_16 tw_x_RX7 tw_z_RX7 (hR.le (by decide) (by decide)) ?_
  generalize hC32 : cup C31 161 _ = C32
  have hF32 : ∀ j, 0 ≤ j → j ≠ 0 → j ≠ 3 → j ≠ 161 → j < 162 → C32 j = cellE (vX X) M0 j := by
    intro j h0 q0 q3 q161 h9
    rw [← hC32]
    rw [cup_ne _ q161]
    exact hF31 j h0 q0 q3 (by omega)
  have hB32 : ∀ j, j < 0 → C32 j = C j := fun j hj => by rw [← hC32, cup_ne _ (by omega)]; exact hB31 j hj
  have f0 : C32 0 = .inr (9, [.ref ((vX X).2.2.2.2.2 + 1), .ref ((vX X).2.2.2.2.2 + 3), .ref ((vX X).2.2.2.2.2 + 4), .ref ((vX X).2.2.2.2.2 + 11), .ref ((vX X).2.2.2.2.2 + 12), .ref ((vX X).2.2.2.2.2 + 20), .ref ((vX X).2.2.2.2.2 + 25), .ref ((vX X).2.2.2.2.2 + 28), .ref ((vX X).2.2.2.2.2 + 123), .ref ((vX X).2.2.2.2.2 + 127), .int (i32 (-6)), .int (i32 (-1)), .int (i32 (-1))]) := by rw [← hC32, cup_ne _ (by decide)]; exact f0
  have f3 : C32 3 = .inl ((vX X).2.2.2.2.1, 6, .inr (.inr (.inr (.inr (fun _ => none))))) := by rw [← hC32, cup_ne _ (by decide)]; exact f3
  have f161 : C32 161 = .inr (7, [.int 0, .null, .null, .null, .null, .null, .null]) := by rw [← hC32, cup_same] <;> rfl
  clear hC32
  refine bm_dup (pc := 153) G dX9_init_153 (Nat.ne_of_beq_eq_false rfl) ?_
  refine bm_callN (t := 14) (nc := 6) (ns := 96) (st := [(17, _), (0, _), (20001, _)]) (rmc := rm_X7_init) (pc := 154) G [] rfl dX9_init_154 (by decide) tw_n_RX9_22 tw_i_X7_init tw_z_RX7 tw_c_X7_init hy_X7_init (by rw [hr]; exact ⟨rfl, rfl, Nat.le_of_ble_eq_true rfl, Nat.le_of_ble_eq_true rfl⟩) rfl (hR.le (by decide) (by decide)) ?_
  refine ctor_T (vX X) 161 (by decide) _ f161 (fun C33 hL hN => ?_)
  show BW X 167 5575 157 _ [(17, _), (0, _), (20001, _)] C33 168
  have hF33 : ∀ j, 0 ≤ j → j ≠ 0 → j ≠ 3 → j < 168 → C33 j = cellE (vX X) M0 j := by
    intro j h0 q0 q3 h9
    by_cases h : j < 161
    · rw [hL j h]; exact hF32 j h0 q0 q3 (by omega) (by omega)
    · exact hN j (by omega) h9
  have hB33 : ∀ j, j < 0 → C33 j = C j := fun j hj => by rw [hL j (by omega)]; exact hB32 j hj
  have f0 : C33 0 = .inr (9, [.ref ((vX X).2.2.2.2.2 + 1), .ref ((vX X).2.2.2.2.2 + 3), .ref ((vX X).2.2.2.2.2 + 4), .ref ((vX X).2.2.2.2.2 + 11), .ref ((vX X).2.2.2.2.2 + 12), .ref ((vX X).2.2.2.2.2 + 20), .ref ((vX X).2.2.2.2.2 + 25), .ref ((vX X).2.2.2.2.2 + 28), .ref ((vX X).2.2.2.2.2 + 123), .ref ((vX X).2.2.2.2.2 + 127), .int (i32 (-6)), .int (i32 (-1)), .int (i32 (-1))]) := by rw [hL 0 (by decide)]; exact f0
  have f3 : C33 3 = .inl ((vX X).2.2.2.2.1, 6, .inr (.inr (.inr (.inr (fun _ => none))))) := by rw [hL 3 (by decide)]; exact f3
  have e161 : C33 161 = .inr (7, _) := (hF33 161 (by decide) (by decide) (by decide) (by decide)).trans (tree_fin (vX X) (k := 161) (by decide) 0 (by decide))
  clear hL hN
  refine bm_aast (t := 19998) (o := 3) (N := 6) (q := 161) (pc := 157) G 7 dX9_init_157 (by decide) f3 (by decide) (e161) rfl rfl (by decide) (by decide) ?_
  generalize hC34 : cup C33 3 _ = C34
  have hF34 : ∀ j, 0 ≤ j → j ≠ 0 → j ≠ 3 → j < 168 → C34 j = cellE (vX X) M0 j := by
    intro j h0 q0 q3 h9
    rw [← hC34]
    rw [cup_ne _ q3]
    exact hF33 j h0 q0 q3 (by omega)
  have hB34 : ∀ j, j < 0 → C34 j = C j := fun j hj => by rw [← hC34, cup_ne _ (by omega)]; exact hB33 j hj
  have f0 : C34 0 = .inr (9, [.ref ((vX X).2.2.2.2.2 + 1), .ref ((vX X).2.2.2.2.2 + 3), .ref ((vX X).2.2.2.2.2 + 4), .ref ((vX X).2.2.2.2.2 + 11), .ref ((vX X).2.2.2.2.2 + 12), .ref ((vX X).2.2.2.2.2 + 20), .ref ((vX X).2.2.2.2.2 + 25), .ref ((vX X).2.2.2.2.2 + 28), .ref ((vX X).2.2.2.2.2 + 123), .ref ((vX X).2.2.2.2.2 + 127), .int (i32 (-6)), .int (i32 (-1)), .int (i32 (-1))]) := by rw [← hC34, cup_ne _ (by decide)]; exact f0
  have f3 : C34 3 = .inl ((vX X).2.2.2.2.1, 6, .inr (.inr (.inr (.inr (va_up (fun _ => none) (Int.toNat 0) (some ((vX X).2.2.2.2.2 + 161))))))) := by rw [← hC34, cup_same] <;> rfl
  clear hC34
  refine bm_iinc (v := 1) (pc := 158) G dX9_init_158 rfl (nlx hn rfl) rfl (by decide) ?_
  refine bm_goto (pc := 161) (ls := [(19, _), (0, _)]) G 139 dX9_init_161 (by decide) ?_
  refine bm_iload (i := 1) (pc := 139) G dX9_init_139 rfl rfl ?_
  refine bm_bipush (pc := 140) G dX9_init_140 (by decide) ?_
  refine bm_gen (pc := 142) G 164 dX9_init_142 (by decide) (by decide) ?_
  refine bm_aload (i := 0) (t := 16) (pc := 145) G dX9_init_145 rfl rfl rfl (by decide) ?_
  refine bm_getr (t := 19998) (o := 0) (q := 3) (fs := [.ref ((vX X).2.2.2.2.2 + 1), .ref ((vX X).2.2.2.2.2 + 3), .ref ((vX X).2.2.2.2.2 + 4), .ref ((vX X).2.2.2.2.2 + 11), .ref ((vX X).2.2.2.2.2 + 12), .ref ((vX X).2.2.2.2.2 + 20), .ref ((vX X).2.2.2.2.2 + 25), .ref ((vX X).2.2.2.2.2 + 28), .ref ((vX X).2.2.2.2.2 + 123), .ref ((vX X).2.2.2.2.2 + 127), .int (i32 (-6)), .int (i32 (-1)), .int (i32 (-1))]) (pc := 146) G 9 1 dX9_init_146 rfl inX9 (by decide) tw_f_RX9_18 rfl (by decide) f0 rfl ?_
  refine bm_iload (i := 1) (pc := 149) G dX9_init_149 rfl rfl ?_
  refine bm_new (fs := [.int 0, .null, .null, .null, .null, .null, .null]) (pc := 150) G 7 tyX7 dX9_init_150 rfl inX7 tyX7_ok (by decide) tw_l_RX9_16 tw_x_RX7 tw_z_RX7 (hR.le (by decide) (by decide)) ?_
  generalize hC35 : cup C34 168 _ = C35
  have hF35 : ∀ j, 0 ≤ j → j ≠ 0 → j ≠ 3 → j ≠ 168 → j < 169 → C35 j = cellE (vX X) M0 j := by
    intro j h0 q0 q3 q168 h9
    rw [← hC35]
    rw [cup_ne _ q168]
    exact hF34 j h0 q0 q3 (by omega)
  have hB35 : ∀ j, j < 0 → C35 j = C j := fun j hj => by rw [← hC35, cup_ne _ (by omega)]; exact hB34 j hj
  have f0 : C35 0 = .inr (9, [.ref ((vX X).2.2.2.2.2 + 1), .ref ((vX X).2.2.2.2.2 + 3), .ref ((vX X).2.2.2.2.2 + 4), .ref ((vX X).2.2.2.2.2 + 11), .ref ((vX X).2.2.2.2.2 + 12), .ref ((vX X).2.2.2.2.2 + 20), .ref ((vX X).2.2.2.2.2 + 25), .ref ((vX X).2.2.2.2.2 + 28), .ref ((vX X).2.2.2.2.2 + 123), .ref ((vX X).2.2.2.2.2 + 127), .int (i32 (-6)), .int (i32 (-1)), .int (i32 (-1))]) := by rw [← hC35, cup_ne _ (by decide)]; exact f0
  have f3 : C35 3 = .inl ((vX X).2.2.2.2.1, 6, .inr (.inr (.inr (.inr (va_up (fun _ => none) (Int.toNat 0) (some ((vX X).2.2.2.2.2 + 161))))))) := by rw [← hC35, cup_ne _ (by decide)]; exact f3
  have f168 : C35 168 = .inr (7, [.int 0, .null, .null, .null, .null, .null, .null]) := by rw [← hC35, cup_same] <;> rfl
  clear hC35
  refine bm_dup (pc := 153) G dX9_init_153 (Nat.ne_of_beq_eq_false rfl) ?_
  refine bm_callN (t := 14) (nc := 6) (ns := 96) (st := [(17, _), (0, _), (20001, _)]) (rmc := rm_X7_init) (pc := 154) G [] rfl dX9_init_154 (by decide) tw_n_RX9_22 tw_i_X7_init tw_z_RX7 tw_c_X7_init hy_X7_init (by rw [hr]; exact ⟨rfl, rfl, Nat.le_of_ble_eq_true rfl, Nat.le_of_ble_eq_true rfl⟩) rfl (hR.le (by decide) (by decide)) ?_
  refine ctor_T (vX X) 168 (by decide) _ f168 (fun C36 hL hN => ?_)
  show BW X 174 5678 157 _ [(17, _), (0, _), (20001, _)] C36 175
  have hF36 : ∀ j, 0 ≤ j → j ≠ 0 → j ≠ 3 → j < 175 → C36 j = cellE (vX X) M0 j := by
    intro j h0 q0 q3 h9
    by_cases h : j < 168
    · rw [hL j h]; exact hF35 j h0 q0 q3 (by omega) (by omega)
    · exact hN j (by omega) h9
  have hB36 : ∀ j, j < 0 → C36 j = C j := fun j hj => by rw [hL j (by omega)]; exact hB35 j hj
  have f0 : C36 0 = .inr (9, [.ref ((vX X).2.2.2.2.2 + 1), .ref ((vX X).2.2.2.2.2 + 3), .ref ((vX X).2.2.2.2.2 + 4), .ref ((vX X).2.2.2.2.2 + 11), .ref ((vX X).2.2.2.2.2 + 12), .ref ((vX X).2.2.2.2.2 + 20), .ref ((vX X).2.2.2.2.2 + 25), .ref ((vX X).2.2.2.2.2 + 28), .ref ((vX X).2.2.2.2.2 + 123), .ref ((vX X).2.2.2.2.2 + 127), .int (i32 (-6)), .int (i32 (-1)), .int (i32 (-1))]) := by rw [hL 0 (by decide)]; exact f0
  have f3 : C36 3 = .inl ((vX X).2.2.2.2.1, 6, .inr (.inr (.inr (.inr (va_up (fun _ => none) (Int.toNat 0) (some ((vX X).2.2.2.2.2 + 161))))))) := by rw [hL 3 (by decide)]; exact f3
  have e168 : C36 168 = .inr (7, _) := (hF36 168 (by decide) (by decide) (by decide) (by decide)).trans (tree_fin (vX X) (k := 168) (by decide) 0 (by decide))
  clear hL hN
  refine bm_aast (t := 19998) (o := 3) (N := 6) (q := 168) (pc := 157) G 7 dX9_init_157 (by decide) f3 (by decide) (e168) rfl rfl (by decide) (by decide) ?_
  generalize hC37 : cup C36 3 _ = C37
  have hF37 : ∀ j, 0 ≤ j → j ≠ 0 → j ≠ 3 → j < 175 → C37 j = cellE (vX X) M0 j := by
    intro j h0 q0 q3 h9
    rw [← hC37]
    rw [cup_ne _ q3]
    exact hF36 j h0 q0 q3 (by omega)
  have hB37 : ∀ j, j < 0 → C37 j = C j := fun j hj => by rw [← hC37, cup_ne _ (by omega)]; exact hB36 j hj
  have f0 : C37 0 = .inr (9, [.ref ((vX X).2.2.2.2.2 + 1), .ref ((vX X).2.2.2.2.2 + 3), .ref ((vX X).2.2.2.2.2 + 4), .ref ((vX X).2.2.2.2.2 + 11), .ref ((vX X).2.2.2.2.2 + 12), .ref ((vX X).2.2.2.2.2 + 20), .ref ((vX X).2.2.2.2.2 + 25), .ref ((vX X).2.2.2.2.2 + 28), .ref ((vX X).2.2.2.2.2 + 123), .ref ((vX X).2.2.2.2.2 + 127), .int (i32 (-6)), .int (i32 (-1)), .int (i32 (-1))]) := by rw [← hC37, cup_ne _ (by decide)]; exact f0
  have f3 : C37 3 = .inl ((vX X).2.2.2.2.1, 6, .inr (.inr (.inr (.inr (va_up (va_up (fun _ => none) (Int.toNat 0) (some ((vX X).2.2.2.2.2 + 161))) (Int.toNat 1) (some ((vX X).2.2.2.2.2 + 168))))))) := by rw [← hC37, cup_same] <;> rfl
  clear hC37
  refine bm_iinc (v := 2) (pc := 158) G dX9_init_158 rfl (nlx hn rfl) rfl (by decide) ?_
  refine bm_goto (pc := 161) (ls := [(19, _), (0, _)]) G 139 dX9_init_161 (by decide) ?_
  refine bm_iload (i := 1) (pc := 139) G dX9_init_139 rfl rfl ?_
  refine bm_bipush (pc := 140) G dX9_init_140 (by decide) ?_
  refine bm_gen (pc := 142) G 164 dX9_init_142 (by decide) (by decide) ?_
  refine bm_aload (i := 0) (t := 16) (pc := 145) G dX9_init_145 rfl rfl rfl (by decide) ?_
  refine bm_getr (t := 19998) (o := 0) (q := 3) (fs := [.ref ((vX X).2.2.2.2.2 + 1), .ref ((vX X).2.2.2.2.2 + 3), .ref ((vX X).2.2.2.2.2 + 4), .ref ((vX X).2.2.2.2.2 + 11), .ref ((vX X).2.2.2.2.2 + 12), .ref ((vX X).2.2.2.2.2 + 20), .ref ((vX X).2.2.2.2.2 + 25), .ref ((vX X).2.2.2.2.2 + 28), .ref ((vX X).2.2.2.2.2 + 123), .ref ((vX X).2.2.2.2.2 + 127), .int (i32 (-6)), .int (i32 (-1)), .int (i32 (-1))]) (pc := 146) G 9 1 dX9_init_146 rfl inX9 (by decide) tw_f_RX9_18 rfl (by decide) f0 rfl ?_
  refine bm_iload (i := 1) (pc := 149) G dX9_init_149 rfl rfl ?_
  refine bm_new (fs := [.int 0, .null, .null, .null, .null, .null, .null]) (pc := 150) G 7 tyX7 dX9_init_150 rfl inX7 tyX7_ok (by decide) tw_l_RX9_16 tw_x_RX7 tw_z_RX7 (hR.le (by decide) (by decide)) ?_
  generalize hC38 : cup C37 175 _ = C38
  have hF38 : ∀ j, 0 ≤ j → j ≠ 0 → j ≠ 3 → j ≠ 175 → j < 176 → C38 j = cellE (vX X) M0 j := by
    intro j h0 q0 q3 q175 h9
    rw [← hC38]
    rw [cup_ne _ q175]
    exact hF37 j h0 q0 q3 (by omega)
  have hB38 : ∀ j, j < 0 → C38 j = C j := fun j hj => by rw [← hC38, cup_ne _ (by omega)]; exact hB37 j hj
  have f0 : C38 0 = .inr (9, [.ref ((vX X).2.2.2.2.2 + 1), .ref ((vX X).2.2.2.2.2 + 3), .ref ((vX X).2.2.2.2.2 + 4), .ref ((vX X).2.2.2.2.2 + 11), .ref ((vX X).2.2.2.2.2 + 12), .ref ((vX X).2.2.2.2.2 + 20), .ref ((vX X).2.2.2.2.2 + 25), .ref ((vX X).2.2.2.2.2 + 28), .ref ((vX X).2.2.2.2.2 + 123), .ref ((vX X).2.2.2.2.2 + 127), .int (i32 (-6)), .int (i32 (-1)), .int (i32 (-1))]) := by rw [← hC38, cup_ne _ (by decide)]; exact f0
  have f3 : C38 3 = .inl ((vX X).2.2.2.2.1, 6, .inr (.inr (.inr (.inr (va_up (va_up (fun _ => none) (Int.toNat 0) (some ((vX X).2.2.2.2.2 + 161))) (Int.toNat 1) (some ((vX X).2.2.2.2.2 + 168))))))) := by rw [← hC38, cup_ne _ (by decide)]; exact f3
  have f175 : C38 175 = .inr (7, [.int 0, .null, .null, .null, .null, .null, .null]) := by rw [← hC38, cup_same] <;> rfl
  clear hC38
  refine bm_dup (pc := 153) G dX9_init_153 (Nat.ne_of_beq_eq_false rfl) ?_
  refine bm_callN (t := 14) (nc := 6) (ns := 96) (st := [(17, _), (0, _), (20001, _)]) (rmc := rm_X7_init) (pc := 154) G [] rfl dX9_init_154 (by decide) tw_n_RX9_22 tw_i_X7_init tw_z_RX7 tw_c_X7_init hy_X7_init (by rw [hr]; exact ⟨rfl, rfl, Nat.le_of_ble_eq_true rfl, Nat.le_of_ble_eq_true rfl⟩) rfl (hR.le (by decide) (by decide)) ?_
  refine ctor_T (vX X) 175 (by decide) _ f175 (fun C39 hL hN => ?_)
  show BW X 181 5781 157 _ [(17, _), (0, _), (20001, _)] C39 182
  have hF39 : ∀ j, 0 ≤ j → j ≠ 0 → j ≠ 3 → j < 182 → C39 j = cellE (vX X) M0 j := by
    intro j h0 q0 q3 h9
    by_cases h : j < 175
    · rw [hL j h]; exact hF38 j h0 q0 q3 (by omega) (by omega)
    · exact hN j (by omega) h9
  have hB39 : ∀ j, j < 0 → C39 j = C j := fun j hj => by rw [hL j (by omega)]; exact hB38 j hj
  have f0 : C39 0 = .inr (9, [.ref ((vX X).2.2.2.2.2 + 1), .ref ((vX X).2.2.2.2.2 + 3), .ref ((vX X).2.2.2.2.2 + 4), .ref ((vX X).2.2.2.2.2 + 11), .ref ((vX X).2.2.2.2.2 + 12), .ref ((vX X).2.2.2.2.2 + 20), .ref ((vX X).2.2.2.2.2 + 25), .ref ((vX X).2.2.2.2.2 + 28), .ref ((vX X).2.2.2.2.2 + 123), .ref ((vX X).2.2.2.2.2 + 127), .int (i32 (-6)), .int (i32 (-1)), .int (i32 (-1))]) := by rw [hL 0 (by decide)]; exact f0
  have f3 : C39 3 = .inl ((vX X).2.2.2.2.1, 6, .inr (.inr (.inr (.inr (va_up (va_up (fun _ => none) (Int.toNat 0) (some ((vX X).2.2.2.2.2 + 161))) (Int.toNat 1) (some ((vX X).2.2.2.2.2 + 168))))))) := by rw [hL 3 (by decide)]; exact f3
  have e175 : C39 175 = .inr (7, _) := (hF39 175 (by decide) (by decide) (by decide) (by decide)).trans (tree_fin (vX X) (k := 175) (by decide) 0 (by decide))
  clear hL hN
  refine bm_aast (t := 19998) (o := 3) (N := 6) (q := 175) (pc := 157) G 7 dX9_init_157 (by decide) f3 (by decide) (e175) rfl rfl (by decide) (by decide) ?_
  generalize hC40 : cup C39 3 _ = C40
  have hF40 : ∀ j, 0 ≤ j → j ≠ 0 → j ≠ 3 → j < 182 → C40 j = cellE (vX X) M0 j := by
    intro j h0 q0 q3 h9
    rw [← hC40]
    rw [cup_ne _ q3]
    exact hF39 j h0 q0 q3 (by omega)
  have hB40 : ∀ j, j < 0 → C40 j = C j := fun j hj => by rw [← hC40, cup_ne _ (by omega)]; exact hB39 j hj
  have f0 : C40 0 = .inr (9, [.ref ((vX X).2.2.2.2.2 + 1), .ref ((vX X).2.2.2.2.2 + 3), .ref ((vX X).2.2.2.2.2 + 4), .ref ((vX X).2.2.2.2.2 + 11), .ref ((vX X).2.2.2.2.2 + 12), .ref ((vX X).2.2.2.2.2 + 20), .ref ((vX X).2.2.2.2.2 + 25), .ref ((vX X).2.2.2.2.2 + 28), .ref ((vX X).2.2.2.2.2 + 123), .ref ((vX X).2.2.2.2.2 + 127), .int (i32 (-6)), .int (i32 (-1)), .int (i32 (-1))]) := by rw [← hC40, cup_ne _ (by decide)]; exact f0
  have f3 : C40 3 = .inl ((vX X).2.2.2.2.1, 6, .inr (.inr (.inr (.inr (va_up (va_up (va_up (fun _ => none) (Int.toNat 0) (some ((vX X).2.2.2.2.2 + 161))) (Int.toNat 1) (some ((vX X).2.2.2.2.2 + 168))) (Int.toNat 2) (some ((vX X).2.2.2.2.2 + 175))))))) := by rw [← hC40, cup_same] <;> rfl
  clear hC40
  refine bm_iinc (v := 3) (pc := 158) G dX9_init_158 rfl (nlx hn rfl) rfl (by decide) ?_
  refine bm_goto (pc := 161) (ls := [(19, _), (0, _)]) G 139 dX9_init_161 (by decide) ?_
  refine bm_iload (i := 1) (pc := 139) G dX9_init_139 rfl rfl ?_
  refine bm_bipush (pc := 140) G dX9_init_140 (by decide) ?_
  refine bm_gen (pc := 142) G 164 dX9_init_142 (by decide) (by decide) ?_
  refine bm_aload (i := 0) (t := 16) (pc := 145) G dX9_init_145 rfl rfl rfl (by decide) ?_
  refine bm_getr (t := 19998) (o := 0) (q := 3) (fs := [.ref ((vX X).2.2.2.2.2 + 1), .ref ((vX X).2.2.2.2.2 + 3), .ref ((vX X).2.2.2.2.2 + 4), .ref ((vX X).2.2.2.2.2 + 11), .ref ((vX X).2.2.2.2.2 + 12), .ref ((vX X).2.2.2.2.2 + 20), .ref ((vX X).2.2.2.2.2 + 25), .ref ((vX X).2.2.2.2.2 + 28), .ref ((vX X).2.2.2.2.2 + 123), .ref ((vX X).2.2.2.2.2 + 127), .int (i32 (-6)), .int (i32 (-1)), .int (i32 (-1))]) (pc := 146) G 9 1 dX9_init_146 rfl inX9 (by decide) tw_f_RX9_18 rfl (by decide) f0 rfl ?_
  refine bm_iload (i := 1) (pc := 149) G dX9_init_149 rfl rfl ?_
  refine bm_new (fs := [.int 0, .null, .null, .null, .null, .null, .null]) (pc := 150) G 7 tyX7 dX9_init_150 rfl inX7 tyX7_ok (by decide) tw_l_RX9_16 tw_x_RX7 tw_z_RX7 (hR.le (by decide) (by decide)) ?_
  generalize hC41 : cup C40 182 _ = C41
  have hF41 : ∀ j, 0 ≤ j → j ≠ 0 → j ≠ 3 → j ≠ 182 → j < 183 → C41 j = cellE (vX X) M0 j := by
    intro j h0 q0 q3 q182 h9
    rw [← hC41]
    rw [cup_ne _ q182]
    exact hF40 j h0 q0 q3 (by omega)
  have hB41 : ∀ j, j < 0 → C41 j = C j := fun j hj => by rw [← hC41, cup_ne _ (by omega)]; exact hB40 j hj
  have f0 : C41 0 = .inr (9, [.ref ((vX X).2.2.2.2.2 + 1), .ref ((vX X).2.2.2.2.2 + 3), .ref ((vX X).2.2.2.2.2 + 4), .ref ((vX X).2.2.2.2.2 + 11), .ref ((vX X).2.2.2.2.2 + 12), .ref ((vX X).2.2.2.2.2 + 20), .ref ((vX X).2.2.2.2.2 + 25), .ref ((vX X).2.2.2.2.2 + 28), .ref ((vX X).2.2.2.2.2 + 123), .ref ((vX X).2.2.2.2.2 + 127), .int (i32 (-6)), .int (i32 (-1)), .int (i32 (-1))]) := by rw [← hC41, cup_ne _ (by decide)]; exact f0
  have f3 : C41 3 = .inl ((vX X).2.2.2.2.1, 6, .inr (.inr (.inr (.inr (va_up (va_up (va_up (fun _ => none) (Int.toNat 0) (some ((vX X).2.2.2.2.2 + 161))) (Int.toNat 1) (some ((vX X).2.2.2.2.2 + 168))) (Int.toNat 2) (some ((vX X).2.2.2.2.2 + 175))))))) := by rw [← hC41, cup_ne _ (by decide)]; exact f3
  have f182 : C41 182 = .inr (7, [.int 0, .null, .null, .null, .null, .null, .null]) := by rw [← hC41, cup_same] <;> rfl
  clear hC41
  refine bm_dup (pc := 153) G dX9_init_153 (Nat.ne_of_beq_eq_false rfl) ?_
  refine bm_callN (t := 14) (nc := 6) (ns := 96) (st := [(17, _), (0, _), (20001, _)]) (rmc := rm_X7_init) (pc := 154) G [] rfl dX9_init_154 (by decide) tw_n_RX9_22 tw_i_X7_init tw_z_RX7 tw_c_X7_init hy_X7_init (by rw [hr]; exact ⟨rfl, rfl, Nat.le_of_ble_eq_true rfl, Nat.le_of_ble_eq_true rfl⟩) rfl (hR.le (by decide) (by decide)) ?_
  refine ctor_T (vX X) 182 (by decide) _ f182 (fun C42 hL hN => ?_)
  show BW X 188 5884 157 _ [(17, _), (0, _), (20001, _)] C42 189
  have hF42 : ∀ j, 0 ≤ j → j ≠ 0 → j ≠ 3 → j < 189 → C42 j = cellE (vX X) M0 j := by
    intro j h0 q0 q3 h9
    by_cases h : j < 182
    · rw [hL j h]; exact hF41 j h0 q0 q3 (by omega) (by omega)
    · exact hN j (by omega) h9
  have hB42 : ∀ j, j < 0 → C42 j = C j := fun j hj => by rw [hL j (by omega)]; exact hB41 j hj
  have f0 : C42 0 = .inr (9, [.ref ((vX X).2.2.2.2.2 + 1), .ref ((vX X).2.2.2.2.2 + 3), .ref ((vX X).2.2.2.2.2 + 4), .ref ((vX X).2.2.2.2.2 + 11), .ref ((vX X).2.2.2.2.2 + 12), .ref ((vX X).2.2.2.2.2 + 20), .ref ((vX X).2.2.2.2.2 + 25), .ref ((vX X).2.2.2.2.2 + 28), .ref ((vX X).2.2.2.2.2 + 123), .ref ((vX X).2.2.2.2.2 + 127), .int (i32 (-6)), .int (i32 (-1)), .int (i32 (-1))]) := by rw [hL 0 (by decide)]; exact f0
  have f3 : C42 3 = .inl ((vX X).2.2.2.2.1, 6, .inr (.inr (.inr (.inr (va_up (va_up (va_up (fun _ => none) (Int.toNat 0) (some ((vX X).2.2.2.2.2 + 161))) (Int.toNat 1) (some ((vX X).2.2.2.2.2 + 168))) (Int.toNat 2) (some ((vX X).2.2.2.2.2 + 175))))))) := by rw [hL 3 (by decide)]; exact f3
  have e182 : C42 182 = .inr (7, _) := (hF42 182 (by decide) (by decide) (by decide) (by decide)).trans (tree_fin (vX X) (k := 182) (by decide) 0 (by decide))
  clear hL hN
  refine bm_aast (t := 19998) (o := 3) (N := 6) (q := 182) (pc := 157) G 7 dX9_init_157 (by decide) f3 (by decide) (e182) rfl rfl (by decide) (by decide) ?_
  generalize hC43 : cup C42 3 _ = C43
  have hF43 : ∀ j, 0 ≤ j → j ≠ 0 → j ≠ 3 → j < 189 → C43 j = cellE (vX X) M0 j := by
    intro j h0 q0 q3 h9
    rw [← hC43]
    rw [cup_ne _ q3]
    exact hF42 j h0 q0 q3 (by omega)
  have hB43 : ∀ j, j < 0 → C43 j = C j := fun j hj => by rw [← hC43, cup_ne _ (by omega)]; exact hB42 j hj
  have f0 : C43 0 = .inr (9, [.ref ((vX X).2.2.2.2.2 + 1), .ref ((vX X).2.2.2.2.2 + 3), .ref ((vX X).2.2.2.2.2 + 4), .ref ((vX X).2.2.2.2.2 + 11), .ref ((vX X).2.2.2.2.2 + 12), .ref ((vX X).2.2.2.2.2 + 20), .ref ((vX X).2.2.2.2.2 + 25), .ref ((vX X).2.2.2.2.2 + 28), .ref ((vX X).2.2.2.2.2 + 123), .ref ((vX X).2.2.2.2.2 + 127), .int (i32 (-6)), .int (i32 (-1)), .int (i32 (-1))]) := by rw [← hC43, cup_ne _ (by decide)]; exact f0
  have f3 : C43 3 = .inl ((vX X).2.2.2.2.1, 6, .inr (.inr (.inr (.inr (va_up (va_up (va_up (va_up (fun _ => none) (Int.toNat 0) (some ((vX X).2.2.2.2.2 + 161))) (Int.toNat 1) (some ((vX X).2.2.2.2.2 + 168))) (Int.toNat 2) (some ((vX X).2.2.2.2.2 + 175))) (Int.toNat 3) (some ((vX X).2.2.2.2.2 + 182))))))) := by rw [← hC43, cup_same] <;> rfl
  clear hC43
  refine bm_iinc (v := 4) (pc := 158) G dX9_init_158 rfl (nlx hn rfl) rfl (by decide) ?_
  refine bm_goto (pc := 161) (ls := [(19, _), (0, _)]) G 139 dX9_init_161 (by decide) ?_
  refine bm_iload (i := 1) (pc := 139) G dX9_init_139 rfl rfl ?_
  refine bm_bipush (pc := 140) G dX9_init_140 (by decide) ?_
  refine bm_gen (pc := 142) G 164 dX9_init_142 (by decide) (by decide) ?_
  refine bm_aload (i := 0) (t := 16) (pc := 145) G dX9_init_145 rfl rfl rfl (by decide) ?_
  refine bm_getr (t := 19998) (o := 0) (q := 3) (fs := [.ref ((vX X).2.2.2.2.2 + 1), .ref ((vX X).2.2.2.2.2 + 3), .ref ((vX X).2.2.2.2.2 + 4), .ref ((vX X).2.2.2.2.2 + 11), .ref ((vX X).2.2.2.2.2 + 12), .ref ((vX X).2.2.2.2.2 + 20), .ref ((vX X).2.2.2.2.2 + 25), .ref ((vX X).2.2.2.2.2 + 28), .ref ((vX X).2.2.2.2.2 + 123), .ref ((vX X).2.2.2.2.2 + 127), .int (i32 (-6)), .int (i32 (-1)), .int (i32 (-1))]) (pc := 146) G 9 1 dX9_init_146 rfl inX9 (by decide) tw_f_RX9_18 rfl (by decide) f0 rfl ?_
  refine bm_iload (i := 1) (pc := 149) G dX9_init_149 rfl rfl ?_
  refine bm_new (fs := [.int 0, .null, .null, .null, .null, .null, .null]) (pc := 150) G 7 tyX7 dX9_init_150 rfl inX7 tyX7_ok (by decide) tw_l_RX9_16 tw_x_RX7 tw_z_RX7 (hR.le (by decide) (by decide)) ?_
  generalize hC44 : cup C43 189 _ = C44
  have hF44 : ∀ j, 0 ≤ j → j ≠ 0 → j ≠ 3 → j ≠ 189 → j < 190 → C44 j = cellE (vX X) M0 j := by
    intro j h0 q0 q3 q189 h9
    rw [← hC44]
    rw [cup_ne _ q189]
    exact hF43 j h0 q0 q3 (by omega)
  have hB44 : ∀ j, j < 0 → C44 j = C j := fun j hj => by rw [← hC44, cup_ne _ (by omega)]; exact hB43 j hj
  have f0 : C44 0 = .inr (9, [.ref ((vX X).2.2.2.2.2 + 1), .ref ((vX X).2.2.2.2.2 + 3), .ref ((vX X).2.2.2.2.2 + 4), .ref ((vX X).2.2.2.2.2 + 11), .ref ((vX X).2.2.2.2.2 + 12), .ref ((vX X).2.2.2.2.2 + 20), .ref ((vX X).2.2.2.2.2 + 25), .ref ((vX X).2.2.2.2.2 + 28), .ref ((vX X).2.2.2.2.2 + 123), .ref ((vX X).2.2.2.2.2 + 127), .int (i32 (-6)), .int (i32 (-1)), .int (i32 (-1))]) := by rw [← hC44, cup_ne _ (by decide)]; exact f0
  have f3 : C44 3 = .inl ((vX X).2.2.2.2.1, 6, .inr (.inr (.inr (.inr (va_up (va_up (va_up (va_up (fun _ => none) (Int.toNat 0) (some ((vX X).2.2.2.2.2 + 161))) (Int.toNat 1) (some ((vX X).2.2.2.2.2 + 168))) (Int.toNat 2) (some ((vX X).2.2.2.2.2 + 175))) (Int.toNat 3) (some ((vX X).2.2.2.2.2 + 182))))))) := by rw [← hC44, cup_ne _ (by decide)]; exact f3
  have f189 : C44 189 = .inr (7, [.int 0, .null, .null, .null, .null, .null, .null]) := by rw [← hC44, cup_same] <;> rfl
  clear hC44
  refine bm_dup (pc := 153) G dX9_init_153 (Nat.ne_of_beq_eq_false rfl) ?_
  refine bm_callN (t := 14) (nc := 6) (ns := 96) (st := [(17, _), (0, _), (20001, _)]) (rmc := rm_X7_init) (pc := 154) G [] rfl dX9_init_154 (by decide) tw_n_RX9_22 tw_i_X7_init tw_z_RX7 tw_c_X7_init hy_X7_init (by rw [hr]; exact ⟨rfl, rfl, Nat.le_of_ble_eq_true rfl, Nat.le_of_ble_eq_true rfl⟩) rfl (hR.le (by decide) (by decide)) ?_
  refine ctor_T (vX X) 189 (by decide) _ f189 (fun C45 hL hN => ?_)
  show BW X 195 5987 157 _ [(17, _), (0, _), (20001, _)] C45 196
  have hF45 : ∀ j, 0 ≤ j → j ≠ 0 → j ≠ 3 → j < 196 → C45 j = cellE (vX X) M0 j := by
    intro j h0 q0 q3 h9
    by_cases h : j < 189
    · rw [hL j h]; exact hF44 j h0 q0 q3 (by omega) (by omega)
    · exact hN j (by omega) h9
  have hB45 : ∀ j, j < 0 → C45 j = C j := fun j hj => by rw [hL j (by omega)]; exact hB44 j hj
  have f0 : C45 0 = .inr (9, [.ref ((vX X).2.2.2.2.2 + 1), .ref ((vX X).2.2.2.2.2 + 3), .ref ((vX X).2.2.2.2.2 + 4), .ref ((vX X).2.2.2.2.2 + 11), .ref ((vX X).2.2.2.2.2 + 12), .ref ((vX X).2.2.2.2.2 + 20), .ref ((vX X).2.2.2.2.2 + 25), .ref ((vX X).2.2.2.2.2 + 28), .ref ((vX X).2.2.2.2.2 + 123), .ref ((vX X).2.2.2.2.2 + 127), .int (i32 (-6)), .int (i32 (-1)), .int (i32 (-1))]) := by rw [hL 0 (by decide)]; exact f0
  have f3 : C45 3 = .inl ((vX X).2.2.2.2.1, 6, .inr (.inr (.inr (.inr (va_up (va_up (va_up (va_up (fun _ => none) (Int.toNat 0) (some ((vX X).2.2.2.2.2 + 161))) (Int.toNat 1) (some ((vX X).2.2.2.2.2 + 168))) (Int.toNat 2) (some ((vX X).2.2.2.2.2 + 175))) (Int.toNat 3) (some ((vX X).2.2.2.2.2 + 182))))))) := by rw [hL 3 (by decide)]; exact f3
  have e189 : C45 189 = .inr (7, _) := (hF45 189 (by decide) (by decide) (by decide) (by decide)).trans (tree_fin (vX X) (k := 189) (by decide) 0 (by decide))
  clear hL hN
  refine bm_aast (t := 19998) (o := 3) (N := 6) (q := 189) (pc := 157) G 7 dX9_init_157 (by decide) f3 (by decide) (e189) rfl rfl (by decide) (by decide) ?_
  generalize hC46 : cup C45 3 _ = C46
  have hF46 : ∀ j, 0 ≤ j → j ≠ 0 → j ≠ 3 → j < 196 → C46 j = cellE (vX X) M0 j := by
    intro j h0 q0 q3 h9
    rw [← hC46]
    rw [cup_ne _ q3]
    exact hF45 j h0 q0 q3 (by omega)
  have hB46 : ∀ j, j < 0 → C46 j = C j := fun j hj => by rw [← hC46, cup_ne _ (by omega)]; exact hB45 j hj
  have f0 : C46 0 = .inr (9, [.ref ((vX X).2.2.2.2.2 + 1), .ref ((vX X).2.2.2.2.2 + 3), .ref ((vX X).2.2.2.2.2 + 4), .ref ((vX X).2.2.2.2.2 + 11), .ref ((vX X).2.2.2.2.2 + 12), .ref ((vX X).2.2.2.2.2 + 20), .ref ((vX X).2.2.2.2.2 + 25), .ref ((vX X).2.2.2.2.2 + 28), .ref ((vX X).2.2.2.2.2 + 123), .ref ((vX X).2.2.2.2.2 + 127), .int (i32 (-6)), .int (i32 (-1)), .int (i32 (-1))]) := by rw [← hC46, cup_ne _ (by decide)]; exact f0
  have f3 : C46 3 = .inl ((vX X).2.2.2.2.1, 6, .inr (.inr (.inr (.inr (va_up (va_up (va_up (va_up (va_up (fun _ => none) (Int.toNat 0) (some ((vX X).2.2.2.2.2 + 161))) (Int.toNat 1) (some ((vX X).2.2.2.2.2 + 168))) (Int.toNat 2) (some ((vX X).2.2.2.2.2 + 175))) (Int.toNat 3) (some ((vX X).2.2.2.2.2 + 182))) (Int.toNat 4) (some ((vX X).2.2.2.2.2 + 189))))))) := by rw [← hC46, cup_same] <;> rfl
  clear hC46
  refine bm_iinc (v := 5) (pc := 158) G dX9_init_158 rfl (nlx hn rfl) rfl (by decide) ?_
  refine bm_goto (pc := 161) (ls := [(19, _), (0, _)]) G 139 dX9_init_161 (by decide) ?_
  refine bm_iload (i := 1) (pc := 139) G dX9_init_139 rfl rfl ?_
  refine bm_bipush (pc := 140) G dX9_init_140 (by decide) ?_
  refine bm_gen (pc := 142) G 164 dX9_init_142 (by decide) (by decide) ?_
  refine bm_aload (i := 0) (t := 16) (pc := 145) G dX9_init_145 rfl rfl rfl (by decide) ?_
  refine bm_getr (t := 19998) (o := 0) (q := 3) (fs := [.ref ((vX X).2.2.2.2.2 + 1), .ref ((vX X).2.2.2.2.2 + 3), .ref ((vX X).2.2.2.2.2 + 4), .ref ((vX X).2.2.2.2.2 + 11), .ref ((vX X).2.2.2.2.2 + 12), .ref ((vX X).2.2.2.2.2 + 20), .ref ((vX X).2.2.2.2.2 + 25), .ref ((vX X).2.2.2.2.2 + 28), .ref ((vX X).2.2.2.2.2 + 123), .ref ((vX X).2.2.2.2.2 + 127), .int (i32 (-6)), .int (i32 (-1)), .int (i32 (-1))]) (pc := 146) G 9 1 dX9_init_146 rfl inX9 (by decide) tw_f_RX9_18 rfl (by decide) f0 rfl ?_
  refine bm_iload (i := 1) (pc := 149) G dX9_init_149 rfl rfl ?_
  refine bm_new (fs := [.int 0, .null, .null, .null, .null, .null, .null]) (pc := 150) G 7 tyX7 dX9_init_150 rfl inX7 tyX7_ok (by decide) tw_l_RX9_16 tw_x_RX7 tw_z_RX7 (hR.le (by decide) (by decide)) ?_
  generalize hC47 : cup C46 196 _ = C47
  have hF47 : ∀ j, 0 ≤ j → j ≠ 0 → j ≠ 3 → j ≠ 196 → j < 197 → C47 j = cellE (vX X) M0 j := by
    intro j h0 q0 q3 q196 h9
    rw [← hC47]
    rw [cup_ne _ q196]
    exact hF46 j h0 q0 q3 (by omega)
  have hB47 : ∀ j, j < 0 → C47 j = C j := fun j hj => by rw [← hC47, cup_ne _ (by omega)]; exact hB46 j hj
  have f0 : C47 0 = .inr (9, [.ref ((vX X).2.2.2.2.2 + 1), .ref ((vX X).2.2.2.2.2 + 3), .ref ((vX X).2.2.2.2.2 + 4), .ref ((vX X).2.2.2.2.2 + 11), .ref ((vX X).2.2.2.2.2 + 12), .ref ((vX X).2.2.2.2.2 + 20), .ref ((vX X).2.2.2.2.2 + 25), .ref ((vX X).2.2.2.2.2 + 28), .ref ((vX X).2.2.2.2.2 + 123), .ref ((vX X).2.2.2.2.2 + 127), .int (i32 (-6)), .int (i32 (-1)), .int (i32 (-1))]) := by rw [← hC47, cup_ne _ (by decide)]; exact f0
  have f3 : C47 3 = .inl ((vX X).2.2.2.2.1, 6, .inr (.inr (.inr (.inr (va_up (va_up (va_up (va_up (va_up (fun _ => none) (Int.toNat 0) (some ((vX X).2.2.2.2.2 + 161))) (Int.toNat 1) (some ((vX X).2.2.2.2.2 + 168))) (Int.toNat 2) (some ((vX X).2.2.2.2.2 + 175))) (Int.toNat 3) (some ((vX X).2.2.2.2.2 + 182))) (Int.toNat 4) (some ((vX X).2.2.2.2.2 + 189))))))) := by rw [← hC47, cup_ne _ (by decide)]; exact f3
  have f196 : C47 196 = .inr (7, [.int 0, .null, .null, .null, .null, .null, .null]) := by rw [← hC47, cup_same] <;> rfl
  clear hC47
  refine bm_dup (pc := 153) G dX9_init_153 (Nat.ne_of_beq_eq_false rfl) ?_
  refine bm_callN (t := 14) (nc := 6) (ns := 96) (st := [(17, _), (0, _), (20001, _)]) (rmc := rm_X7_init) (pc := 154) G [] rfl dX9_init_154 (by decide) tw_n_RX9_22 tw_i_X7_init tw_z_RX7 tw_c_X7_init hy_X7_init (by rw [hr]; exact ⟨rfl, rfl, Nat.le_of_ble_eq_true rfl, Nat.le_of_ble_eq_true rfl⟩) rfl (hR.le (by decide) (by decide)) ?_
  refine ctor_T (vX X) 196 (by decide) _ f196 (fun C48 hL hN => ?_)
  show BW X 202 6090 157 _ [(17, _), (0, _), (20001, _)] C48 203
  have hF48 : ∀ j, 0 ≤ j → j ≠ 0 → j ≠ 3 → j < 203 → C48 j = cellE (vX X) M0 j := by
    intro j h0 q0 q3 h9
    by_cases h : j < 196
    · rw [hL j h]; exact hF47 j h0 q0 q3 (by omega) (by omega)
    · exact hN j (by omega) h9
  have hB48 : ∀ j, j < 0 → C48 j = C j := fun j hj => by rw [hL j (by omega)]; exact hB47 j hj
  have f0 : C48 0 = .inr (9, [.ref ((vX X).2.2.2.2.2 + 1), .ref ((vX X).2.2.2.2.2 + 3), .ref ((vX X).2.2.2.2.2 + 4), .ref ((vX X).2.2.2.2.2 + 11), .ref ((vX X).2.2.2.2.2 + 12), .ref ((vX X).2.2.2.2.2 + 20), .ref ((vX X).2.2.2.2.2 + 25), .ref ((vX X).2.2.2.2.2 + 28), .ref ((vX X).2.2.2.2.2 + 123), .ref ((vX X).2.2.2.2.2 + 127), .int (i32 (-6)), .int (i32 (-1)), .int (i32 (-1))]) := by rw [hL 0 (by decide)]; exact f0
  have f3 : C48 3 = .inl ((vX X).2.2.2.2.1, 6, .inr (.inr (.inr (.inr (va_up (va_up (va_up (va_up (va_up (fun _ => none) (Int.toNat 0) (some ((vX X).2.2.2.2.2 + 161))) (Int.toNat 1) (some ((vX X).2.2.2.2.2 + 168))) (Int.toNat 2) (some ((vX X).2.2.2.2.2 + 175))) (Int.toNat 3) (some ((vX X).2.2.2.2.2 + 182))) (Int.toNat 4) (some ((vX X).2.2.2.2.2 + 189))))))) := by rw [hL 3 (by decide)]; exact f3
  have e196 : C48 196 = .inr (7, _) := (hF48 196 (by decide) (by decide) (by decide) (by decide)).trans (tree_fin (vX X) (k := 196) (by decide) 0 (by decide))
  clear hL hN
  refine bm_aast (t := 19998) (o := 3) (N := 6) (q := 196) (pc := 157) G 7 dX9_init_157 (by decide) f3 (by decide) (e196) rfl rfl (by decide) (by decide) ?_
  generalize hC49 : cup C48 3 _ = C49
  have hF49 : ∀ j, 0 ≤ j → j ≠ 0 → j ≠ 3 → j < 203 → C49 j = cellE (vX X) M0 j := by
    intro j h0 q0 q3 h9
    rw [← hC49]
    rw [cup_ne _ q3]
    exact hF48 j h0 q0 q3 (by omega)
  have hB49 : ∀ j, j < 0 → C49 j = C j := fun j hj => by rw [← hC49, cup_ne _ (by omega)]; exact hB48 j hj
  have f0 : C49 0 = .inr (9, [.ref ((vX X).2.2.2.2.2 + 1), .ref ((vX X).2.2.2.2.2 + 3), .ref ((vX X).2.2.2.2.2 + 4), .ref ((vX X).2.2.2.2.2 + 11), .ref ((vX X).2.2.2.2.2 + 12), .ref ((vX X).2.2.2.2.2 + 20), .ref ((vX X).2.2.2.2.2 + 25), .ref ((vX X).2.2.2.2.2 + 28), .ref ((vX X).2.2.2.2.2 + 123), .ref ((vX X).2.2.2.2.2 + 127), .int (i32 (-6)), .int (i32 (-1)), .int (i32 (-1))]) := by rw [← hC49, cup_ne _ (by decide)]; exact f0
  have f3 : C49 3 = .inl ((vX X).2.2.2.2.1, 6, .inr (.inr (.inr (.inr (va_up (va_up (va_up (va_up (va_up (va_up (fun _ => none) (Int.toNat 0) (some ((vX X).2.2.2.2.2 + 161))) (Int.toNat 1) (some ((vX X).2.2.2.2.2 + 168))) (Int.toNat 2) (some ((vX X).2.2.2.2.2 + 175))) (Int.toNat 3) (some ((vX X).2.2.2.2.2 + 182))) (Int.toNat 4) (some ((vX X).2.2.2.2.2 + 189))) (Int.toNat 5) (some ((vX X).2.2.2.2.2 + 196))))))) := by rw [← hC49, cup_same] <;> rfl
  clear hC49
  refine bm_iinc (v := 6) (pc := 158) G dX9_init_158 rfl (nlx hn rfl) rfl (by decide) ?_
  refine bm_goto (pc := 161) (ls := [(19, _), (0, _)]) G 139 dX9_init_161 (by decide) ?_
  refine bm_iload (i := 1) (pc := 139) G dX9_init_139 rfl rfl ?_
  refine bm_bipush (pc := 140) G dX9_init_140 (by decide) ?_
  refine bm_get (pc := 142) G 164 dX9_init_142 (by decide) (by decide) ?_
  refine bm_ret (pc := 164) G Z dX9_init_164 ?_
  refine hq C49 hB49 (fun j h0 h9 => ?_)
  by_cases hc0 : j = 0
  · subst hc0; rw [f0]; exact fin_0 (vX X)
  by_cases hc3 : j = 3
  · subst hc3; rw [f3]; exact fin_3 (vX X)
  exact hF49 j h0 hc0 hc3 h9
def rm_X10_init : Room := { frames := 1, cells := 32, slots := 6535, locals := 20 }
theorem hy_X10_init : yX10_init.cls ≠ "java/lang/invoke/MethodHandle" ∧ yX10_init.cls ≠ "java/lang/invoke/VarHandle" ∧ (parseMethodDescriptor yX10_init.desc).map (fun d => d.parameters.length) = some 0 := by decide +kernel
theorem fin_203 (V : VV) : (.inr (10, [.ref (V.2.2.2.2.2 + 204), .ref (V.2.2.2.2.2 + 205), .ref (V.2.2.2.2.2 + 206), .int 0, .ref (V.2.2.2.2.2 + 207), .int 0, .ref (V.2.2.2.2.2 + 208), .int (i32 (-6)), .int 0, .ref (V.2.2.2.2.2 + 209), .int 0, .int 0, .ref (V.2.2.2.2.2 + 210), .ref (V.2.2.2.2.2 + 211), .ref (V.2.2.2.2.2 + 212), .ref (V.2.2.2.2.2 + 213), .ref (V.2.2.2.2.2 + 214), .ref (V.2.2.2.2.2 + 215), .ref (V.2.2.2.2.2 + 216), .ref (V.2.2.2.2.2 + 217), .ref (V.2.2.2.2.2 + 218), .ref (V.2.2.2.2.2 + 219), .ref (V.2.2.2.2.2 + 220), .ref (V.2.2.2.2.2 + 221), .int 0, .ref (V.2.2.2.2.2 + 222), .ref (V.2.2.2.2.2 + 223), .int 0, .ref (V.2.2.2.2.2 + 224), .ref (V.2.2.2.2.2 + 225), .ref (V.2.2.2.2.2 + 226), .ref (V.2.2.2.2.2 + 227), .ref (V.2.2.2.2.2 + 228), .int 0, .ref (V.2.2.2.2.2 + 229), .ref (V.2.2.2.2.2 + 230), .ref (V.2.2.2.2.2 + 231), .int 0, .int 0, .int 0, .ref (V.2.2.2.2.2 + 232), .ref (V.2.2.2.2.2 + 233), .ref (V.2.2.2.2.2 + 234), .ref (V.2.2.2.2.2 + 235)]) : va_E) = cellE V M0 203 := by
  rfl
theorem fin_208 (V : VV) : (.inl (V.2.2.1, 3, .inl (upd (upd (upd (fun _ => 0) (Int.toNat 0) (i32 3)) (Int.toNat 1) (i32 3)) (Int.toNat 2) (i32 2))) : va_E) = cellE V M0 208 := by
  rw [cellE_ia (n := 3) rfl (by decide)]
  congr 4
  funext j
  match j with
  | 0 => rfl
  | 1 => rfl
  | 2 => rfl
  | j + 3 =>
    rw [M0_arr (by decide) (by omega)]
    rfl
set_option maxRecDepth 20000 in
set_option maxHeartbeats 2000000 in
theorem ctor_X10_init (V : VV) (C : Nat → va_E) (hC : C 203 = .inr (10, [.null, .null, .null, .int 0, .null, .int 0, .null, .int 0, .int 0, .null, .int 0, .int 0, .null, .null, .null, .null, .null, .null, .null, .null, .null, .null, .null, .null, .int 0, .null, .null, .int 0, .null, .null, .null, .null, .null, .int 0, .null, .null, .null, .int 0, .int 0, .int 0, .null, .null, .null, .null])) {Q : (Nat → va_E) → Nat → Prop} (hq : ∀ C', (∀ j, j < 203 → C' j = C j) → (∀ j, 203 ≤ j → j < 236 → C' j = cellE V M0 j) → Q C' 236) : RunsC V yX10_init (.code yX10_init cX10_init 1 none) rm_X10_init 32 6535 [(20, ((203 : Nat) : Int))] C 204 Q := by
  refine metc_in (own := "TreeHandsModel") (by decide +kernel) rfl rfl (Nat.le_of_ble_eq_true rfl) ?_
  intro X G Z hi hn hr hv
  subst hv
  have hR : roomC X 32 6535 := by
    obtain ⟨V0, nL, p, e, R, s, m, args, below, meth, c, cells, slots, A, Q0⟩ := X
    have hr : R = rm_X10_init := hr
    subst hr
    exact ⟨Nat.le_of_ble_eq_true rfl, Nat.le_of_ble_eq_true rfl⟩
  show BW X 0 0 0 [(20, ((203 : Nat) : Int))] [] C 204
  have hF0 : ∀ j, 203 ≤ j → j ≠ 203 → j < 204 → C j = cellE (vX X) M0 j := fun j h1 h2 h3 => by omega
  have hB0 : ∀ j, j < 203 → C j = C j := fun _ _ => rfl
  have f203 := hC
  generalize hC0 : C = C0 at f203 hF0 ⊢
  have hB0 : ∀ j, j < 203 → C0 j = C j := fun j _ => by rw [hC0]
  clear hC0
  refine bm_aload (i := 0) (t := 17) (pc := 0) G dX10_init_0 rfl rfl rfl (by decide) ?_
  refine bm_obj (t := 17) (pc := 1) G dX10_init_1 tw_m_RX10_1 (by decide) (by rw [hr]; exact ⟨Nat.le_of_ble_eq_true rfl, Nat.le_of_ble_eq_true rfl⟩) rfl ?_
  refine bm_aload (i := 0) (t := 17) (pc := 4) G dX10_init_4 rfl rfl rfl (by decide) ?_
  refine bm_bipush (pc := 5) G dX10_init_5 (by decide) ?_
  refine bm_newi (pc := 7) G 21 dX10_init_7 (by decide) (hR.le (by decide) (by decide)) ?_
  generalize hC1 : cup C0 204 _ = C1
  have hF1 : ∀ j, 203 ≤ j → j ≠ 203 → j < 205 → C1 j = cellE (vX X) M0 j := by
    intro j h0 q203 h9
    rw [← hC1]
    by_cases h : j = 204
    · subst h; rw [cup_same]; exact (cellZ_i (vX X) (k := 204) (n := 21) rfl (by decide) (by decide)).symm
    · rw [cup_ne _ h]; exact hF0 j h0 q203 (by omega)
  have hB1 : ∀ j, j < 203 → C1 j = C j := fun j hj => by rw [← hC1, cup_ne _ (by omega)]; exact hB0 j hj
  have f203 : C1 203 = .inr (10, [.null, .null, .null, .int 0, .null, .int 0, .null, .int 0, .int 0, .null, .int 0, .int 0, .null, .null, .null, .null, .null, .null, .null, .null, .null, .null, .null, .null, .int 0, .null, .null, .int 0, .null, .null, .null, .null, .null, .int 0, .null, .null, .null, .int 0, .int 0, .int 0, .null, .null, .null, .null]) := by rw [← hC1, cup_ne _ (by decide)]; exact f203
  clear hC1
  refine bm_putR (t := 118) (o := 203) (q := 204) (fs := [.null, .null, .null, .int 0, .null, .int 0, .null, .int 0, .int 0, .null, .int 0, .int 0, .null, .null, .null, .null, .null, .null, .null, .null, .null, .null, .null, .null, .int 0, .null, .null, .int 0, .null, .null, .null, .null, .null, .int 0, .null, .null, .null, .int 0, .int 0, .int 0, .null, .null, .null, .null]) (pc := 9) G hi 10 0 dX10_init_9 rfl inX10 tyX10_ok nmX10 (by decide) tw_f_RX10_7 rfl rfl rfl (by decide) f203 (Nat.le_of_ble_eq_true rfl) (fun _ => rfl) (fun _ => rfl) ?_
  generalize hC2 : cup C1 203 _ = C2
  have hF2 : ∀ j, 203 ≤ j → j ≠ 203 → j < 205 → C2 j = cellE (vX X) M0 j := by
    intro j h0 q203 h9
    rw [← hC2]
    rw [cup_ne _ q203]
    exact hF1 j h0 q203 (by omega)
  have hB2 : ∀ j, j < 203 → C2 j = C j := fun j hj => by rw [← hC2, cup_ne _ (by omega)]; exact hB1 j hj
  have f203 : C2 203 = .inr (10, [.ref ((vX X).2.2.2.2.2 + 204), .null, .null, .int 0, .null, .int 0, .null, .int 0, .int 0, .null, .int 0, .int 0, .null, .null, .null, .null, .null, .null, .null, .null, .null, .null, .null, .null, .int 0, .null, .null, .int 0, .null, .null, .null, .null, .null, .int 0, .null, .null, .null, .int 0, .int 0, .int 0, .null, .null, .null, .null]) := by rw [← hC2, cup_same] <;> rfl
  clear hC2
  refine bm_aload (i := 0) (t := 17) (pc := 12) G dX10_init_12 rfl rfl rfl (by decide) ?_
  refine bm_sipush (pc := 13) G dX10_init_13 (by decide) ?_
  refine bm_newi (pc := 16) G 672 dX10_init_16 (by decide) (hR.le (by decide) (by decide)) ?_
  generalize hC3 : cup C2 205 _ = C3
  have hF3 : ∀ j, 203 ≤ j → j ≠ 203 → j < 206 → C3 j = cellE (vX X) M0 j := by
    intro j h0 q203 h9
    rw [← hC3]
    by_cases h : j = 205
    · subst h; rw [cup_same]; exact (cellZ_i (vX X) (k := 205) (n := 672) rfl (by decide) (by decide)).symm
    · rw [cup_ne _ h]; exact hF2 j h0 q203 (by omega)
  have hB3 : ∀ j, j < 203 → C3 j = C j := fun j hj => by rw [← hC3, cup_ne _ (by omega)]; exact hB2 j hj
  have f203 : C3 203 = .inr (10, [.ref ((vX X).2.2.2.2.2 + 204), .null, .null, .int 0, .null, .int 0, .null, .int 0, .int 0, .null, .int 0, .int 0, .null, .null, .null, .null, .null, .null, .null, .null, .null, .null, .null, .null, .int 0, .null, .null, .int 0, .null, .null, .null, .null, .null, .int 0, .null, .null, .null, .int 0, .int 0, .int 0, .null, .null, .null, .null]) := by rw [← hC3, cup_ne _ (by decide)]; exact f203
  clear hC3
  refine bm_putR (t := 769) (o := 203) (q := 205) (fs := [.ref ((vX X).2.2.2.2.2 + 204), .null, .null, .int 0, .null, .int 0, .null, .int 0, .int 0, .null, .int 0, .int 0, .null, .null, .null, .null, .null, .null, .null, .null, .null, .null, .null, .null, .int 0, .null, .null, .int 0, .null, .null, .null, .null, .null, .int 0, .null, .null, .null, .int 0, .int 0, .int 0, .null, .null, .null, .null]) (pc := 18) G hi 10 1 dX10_init_18 rfl inX10 tyX10_ok nmX10 (by decide) tw_f_RX10_13 rfl rfl rfl (by decide) f203 (Nat.le_of_ble_eq_true rfl) (fun _ => rfl) (fun _ => rfl) ?_
  generalize hC4 : cup C3 203 _ = C4
  have hF4 : ∀ j, 203 ≤ j → j ≠ 203 → j < 206 → C4 j = cellE (vX X) M0 j := by
    intro j h0 q203 h9
    rw [← hC4]
    rw [cup_ne _ q203]
    exact hF3 j h0 q203 (by omega)
  have hB4 : ∀ j, j < 203 → C4 j = C j := fun j hj => by rw [← hC4, cup_ne _ (by omega)]; exact hB3 j hj
  have f203 : C4 203 = .inr (10, [.ref ((vX X).2.2.2.2.2 + 204), .ref ((vX X).2.2.2.2.2 + 205), .null, .int 0, .null, .int 0, .null, .int 0, .int 0, .null, .int 0, .int 0, .null, .null, .null, .null, .null, .null, .null, .null, .null, .null, .null, .null, .int 0, .null, .null, .int 0, .null, .null, .null, .null, .null, .int 0, .null, .null, .null, .int 0, .int 0, .int 0, .null, .null, .null, .null]) := by rw [← hC4, cup_same] <;> rfl
  clear hC4
  refine bm_aload (i := 0) (t := 17) (pc := 21) G dX10_init_21 rfl rfl rfl (by decide) ?_
  refine bm_sipush (pc := 22) G dX10_init_22 (by decide) ?_
  refine bm_newi (pc := 25) G 672 dX10_init_25 (by decide) (hR.le (by decide) (by decide)) ?_
  generalize hC5 : cup C4 206 _ = C5
  have hF5 : ∀ j, 203 ≤ j → j ≠ 203 → j < 207 → C5 j = cellE (vX X) M0 j := by
    intro j h0 q203 h9
    rw [← hC5]
    by_cases h : j = 206
    · subst h; rw [cup_same]; exact (cellZ_i (vX X) (k := 206) (n := 672) rfl (by decide) (by decide)).symm
    · rw [cup_ne _ h]; exact hF4 j h0 q203 (by omega)
  have hB5 : ∀ j, j < 203 → C5 j = C j := fun j hj => by rw [← hC5, cup_ne _ (by omega)]; exact hB4 j hj
  have f203 : C5 203 = .inr (10, [.ref ((vX X).2.2.2.2.2 + 204), .ref ((vX X).2.2.2.2.2 + 205), .null, .int 0, .null, .int 0, .null, .int 0, .int 0, .null, .int 0, .int 0, .null, .null, .null, .null, .null, .null, .null, .null, .null, .null, .null, .null, .int 0, .null, .null, .int 0, .null, .null, .null, .null, .null, .int 0, .null, .null, .null, .int 0, .int 0, .int 0, .null, .null, .null, .null]) := by rw [← hC5, cup_ne _ (by decide)]; exact f203
  clear hC5
  refine bm_putR (t := 769) (o := 203) (q := 206) (fs := [.ref ((vX X).2.2.2.2.2 + 204), .ref ((vX X).2.2.2.2.2 + 205), .null, .int 0, .null, .int 0, .null, .int 0, .int 0, .null, .int 0, .int 0, .null, .null, .null, .null, .null, .null, .null, .null, .null, .null, .null, .null, .int 0, .null, .null, .int 0, .null, .null, .null, .null, .null, .int 0, .null, .null, .null, .int 0, .int 0, .int 0, .null, .null, .null, .null]) (pc := 27) G hi 10 2 dX10_init_27 rfl inX10 tyX10_ok nmX10 (by decide) tw_f_RX10_16 rfl rfl rfl (by decide) f203 (Nat.le_of_ble_eq_true rfl) (fun _ => rfl) (fun _ => rfl) ?_
  generalize hC6 : cup C5 203 _ = C6
  have hF6 : ∀ j, 203 ≤ j → j ≠ 203 → j < 207 → C6 j = cellE (vX X) M0 j := by
    intro j h0 q203 h9
    rw [← hC6]
    rw [cup_ne _ q203]
    exact hF5 j h0 q203 (by omega)
  have hB6 : ∀ j, j < 203 → C6 j = C j := fun j hj => by rw [← hC6, cup_ne _ (by omega)]; exact hB5 j hj
  have f203 : C6 203 = .inr (10, [.ref ((vX X).2.2.2.2.2 + 204), .ref ((vX X).2.2.2.2.2 + 205), .ref ((vX X).2.2.2.2.2 + 206), .int 0, .null, .int 0, .null, .int 0, .int 0, .null, .int 0, .int 0, .null, .null, .null, .null, .null, .null, .null, .null, .null, .null, .null, .null, .int 0, .null, .null, .int 0, .null, .null, .null, .null, .null, .int 0, .null, .null, .null, .int 0, .int 0, .int 0, .null, .null, .null, .null]) := by rw [← hC6, cup_same] <;> rfl
  clear hC6
  refine bm_aload (i := 0) (t := 17) (pc := 30) G dX10_init_30 rfl rfl rfl (by decide) ?_
  refine bm_bipush (pc := 31) G dX10_init_31 (by decide) ?_
  refine bm_newi (pc := 33) G 60 dX10_init_33 (by decide) (hR.le (by decide) (by decide)) ?_
  generalize hC7 : cup C6 207 _ = C7
  have hF7 : ∀ j, 203 ≤ j → j ≠ 203 → j < 208 → C7 j = cellE (vX X) M0 j := by
    intro j h0 q203 h9
    rw [← hC7]
    by_cases h : j = 207
    · subst h; rw [cup_same]; exact (cellZ_i (vX X) (k := 207) (n := 60) rfl (by decide) (by decide)).symm
    · rw [cup_ne _ h]; exact hF6 j h0 q203 (by omega)
  have hB7 : ∀ j, j < 203 → C7 j = C j := fun j hj => by rw [← hC7, cup_ne _ (by omega)]; exact hB6 j hj
  have f203 : C7 203 = .inr (10, [.ref ((vX X).2.2.2.2.2 + 204), .ref ((vX X).2.2.2.2.2 + 205), .ref ((vX X).2.2.2.2.2 + 206), .int 0, .null, .int 0, .null, .int 0, .int 0, .null, .int 0, .int 0, .null, .null, .null, .null, .null, .null, .null, .null, .null, .null, .null, .null, .int 0, .null, .null, .int 0, .null, .null, .null, .null, .null, .int 0, .null, .null, .null, .int 0, .int 0, .int 0, .null, .null, .null, .null]) := by rw [← hC7, cup_ne _ (by decide)]; exact f203
  clear hC7
  refine bm_putR (t := 157) (o := 203) (q := 207) (fs := [.ref ((vX X).2.2.2.2.2 + 204), .ref ((vX X).2.2.2.2.2 + 205), .ref ((vX X).2.2.2.2.2 + 206), .int 0, .null, .int 0, .null, .int 0, .int 0, .null, .int 0, .int 0, .null, .null, .null, .null, .null, .null, .null, .null, .null, .null, .null, .null, .int 0, .null, .null, .int 0, .null, .null, .null, .null, .null, .int 0, .null, .null, .null, .int 0, .int 0, .int 0, .null, .null, .null, .null]) (pc := 35) G hi 10 4 dX10_init_35 rfl inX10 tyX10_ok nmX10 (by decide) tw_f_RX10_19 rfl rfl rfl (by decide) f203 (Nat.le_of_ble_eq_true rfl) (fun _ => rfl) (fun _ => rfl) ?_
  generalize hC8 : cup C7 203 _ = C8
  have hF8 : ∀ j, 203 ≤ j → j ≠ 203 → j < 208 → C8 j = cellE (vX X) M0 j := by
    intro j h0 q203 h9
    rw [← hC8]
    rw [cup_ne _ q203]
    exact hF7 j h0 q203 (by omega)
  have hB8 : ∀ j, j < 203 → C8 j = C j := fun j hj => by rw [← hC8, cup_ne _ (by omega)]; exact hB7 j hj
  have f203 : C8 203 = .inr (10, [.ref ((vX X).2.2.2.2.2 + 204), .ref ((vX X).2.2.2.2.2 + 205), .ref ((vX X).2.2.2.2.2 + 206), .int 0, .ref ((vX X).2.2.2.2.2 + 207), .int 0, .null, .int 0, .int 0, .null, .int 0, .int 0, .null, .null, .null, .null, .null, .null, .null, .null, .null, .null, .null, .null, .int 0, .null, .null, .int 0, .null, .null, .null, .null, .null, .int 0, .null, .null, .null, .int 0, .int 0, .int 0, .null, .null, .null, .null]) := by rw [← hC8, cup_same] <;> rfl
  clear hC8
  refine bm_aload (i := 0) (t := 17) (pc := 38) G dX10_init_38 rfl rfl rfl (by decide) ?_
  refine bm_iconst (pc := 39) G dX10_init_39 ?_
  refine bm_newi (pc := 40) G 3 dX10_init_40 (by decide) (hR.le (by decide) (by decide)) ?_
  generalize hC9 : cup C8 208 _ = C9
  have hF9 : ∀ j, 203 ≤ j → j ≠ 203 → j ≠ 208 → j < 209 → C9 j = cellE (vX X) M0 j := by
    intro j h0 q203 q208 h9
    rw [← hC9]
    rw [cup_ne _ q208]
    exact hF8 j h0 q203 (by omega)
  have hB9 : ∀ j, j < 203 → C9 j = C j := fun j hj => by rw [← hC9, cup_ne _ (by omega)]; exact hB8 j hj
  have f203 : C9 203 = .inr (10, [.ref ((vX X).2.2.2.2.2 + 204), .ref ((vX X).2.2.2.2.2 + 205), .ref ((vX X).2.2.2.2.2 + 206), .int 0, .ref ((vX X).2.2.2.2.2 + 207), .int 0, .null, .int 0, .int 0, .null, .int 0, .int 0, .null, .null, .null, .null, .null, .null, .null, .null, .null, .null, .null, .null, .int 0, .null, .null, .int 0, .null, .null, .null, .null, .null, .int 0, .null, .null, .null, .int 0, .int 0, .int 0, .null, .null, .null, .null]) := by rw [← hC9, cup_ne _ (by decide)]; exact f203
  have f208 : C9 208 = .inl ((vX X).2.2.1, 3, .inl (fun _ => 0)) := by rw [← hC9, cup_same] <;> rfl
  clear hC9
  refine bm_putR (t := 100) (o := 203) (q := 208) (fs := [.ref ((vX X).2.2.2.2.2 + 204), .ref ((vX X).2.2.2.2.2 + 205), .ref ((vX X).2.2.2.2.2 + 206), .int 0, .ref ((vX X).2.2.2.2.2 + 207), .int 0, .null, .int 0, .int 0, .null, .int 0, .int 0, .null, .null, .null, .null, .null, .null, .null, .null, .null, .null, .null, .null, .int 0, .null, .null, .int 0, .null, .null, .null, .null, .null, .int 0, .null, .null, .null, .int 0, .int 0, .int 0, .null, .null, .null, .null]) (pc := 42) G hi 10 6 dX10_init_42 rfl inX10 tyX10_ok nmX10 (by decide) tw_f_RX10_22 rfl rfl rfl (by decide) f203 (Nat.le_of_ble_eq_true rfl) (fun _ => rfl) (fun _ => rfl) ?_
  generalize hC10 : cup C9 203 _ = C10
  have hF10 : ∀ j, 203 ≤ j → j ≠ 203 → j ≠ 208 → j < 209 → C10 j = cellE (vX X) M0 j := by
    intro j h0 q203 q208 h9
    rw [← hC10]
    rw [cup_ne _ q203]
    exact hF9 j h0 q203 q208 (by omega)
  have hB10 : ∀ j, j < 203 → C10 j = C j := fun j hj => by rw [← hC10, cup_ne _ (by omega)]; exact hB9 j hj
  have f203 : C10 203 = .inr (10, [.ref ((vX X).2.2.2.2.2 + 204), .ref ((vX X).2.2.2.2.2 + 205), .ref ((vX X).2.2.2.2.2 + 206), .int 0, .ref ((vX X).2.2.2.2.2 + 207), .int 0, .ref ((vX X).2.2.2.2.2 + 208), .int 0, .int 0, .null, .int 0, .int 0, .null, .null, .null, .null, .null, .null, .null, .null, .null, .null, .null, .null, .int 0, .null, .null, .int 0, .null, .null, .null, .null, .null, .int 0, .null, .null, .null, .int 0, .int 0, .int 0, .null, .null, .null, .null]) := by rw [← hC10, cup_same] <;> rfl
  have f208 : C10 208 = .inl ((vX X).2.2.1, 3, .inl (fun _ => 0)) := by rw [← hC10, cup_ne _ (by decide)]; exact f208
  clear hC10
  refine bm_aload (i := 0) (t := 17) (pc := 45) G dX10_init_45 rfl rfl rfl (by decide) ?_
  refine bm_bipush (pc := 46) G dX10_init_46 (by decide) ?_
  refine bm_newi (pc := 48) G 64 dX10_init_48 (by decide) (hR.le (by decide) (by decide)) ?_
  generalize hC11 : cup C10 209 _ = C11
  have hF11 : ∀ j, 203 ≤ j → j ≠ 203 → j ≠ 208 → j < 210 → C11 j = cellE (vX X) M0 j := by
    intro j h0 q203 q208 h9
    rw [← hC11]
    by_cases h : j = 209
    · subst h; rw [cup_same]; exact (cellZ_i (vX X) (k := 209) (n := 64) rfl (by decide) (by decide)).symm
    · rw [cup_ne _ h]; exact hF10 j h0 q203 q208 (by omega)
  have hB11 : ∀ j, j < 203 → C11 j = C j := fun j hj => by rw [← hC11, cup_ne _ (by omega)]; exact hB10 j hj
  have f203 : C11 203 = .inr (10, [.ref ((vX X).2.2.2.2.2 + 204), .ref ((vX X).2.2.2.2.2 + 205), .ref ((vX X).2.2.2.2.2 + 206), .int 0, .ref ((vX X).2.2.2.2.2 + 207), .int 0, .ref ((vX X).2.2.2.2.2 + 208), .int 0, .int 0, .null, .int 0, .int 0, .null, .null, .null, .null, .null, .null, .null, .null, .null, .null, .null, .null, .int 0, .null, .null, .int 0, .null, .null, .null, .null, .null, .int 0, .null, .null, .null, .int 0, .int 0, .int 0, .null, .null, .null, .null]) := by rw [← hC11, cup_ne _ (by decide)]; exact f203
  have f208 : C11 208 = .inl ((vX X).2.2.1, 3, .inl (fun _ => 0)) := by rw [← hC11, cup_ne _ (by decide)]; exact f208
  clear hC11
  refine bm_putR (t := 161) (o := 203) (q := 209) (fs := [.ref ((vX X).2.2.2.2.2 + 204), .ref ((vX X).2.2.2.2.2 + 205), .ref ((vX X).2.2.2.2.2 + 206), .int 0, .ref ((vX X).2.2.2.2.2 + 207), .int 0, .ref ((vX X).2.2.2.2.2 + 208), .int 0, .int 0, .null, .int 0, .int 0, .null, .null, .null, .null, .null, .null, .null, .null, .null, .null, .null, .null, .int 0, .null, .null, .int 0, .null, .null, .null, .null, .null, .int 0, .null, .null, .null, .int 0, .int 0, .int 0, .null, .null, .null, .null]) (pc := 50) G hi 10 9 dX10_init_50 rfl inX10 tyX10_ok nmX10 (by decide) tw_f_RX10_25 rfl rfl rfl (by decide) f203 (Nat.le_of_ble_eq_true rfl) (fun _ => rfl) (fun _ => rfl) ?_
  generalize hC12 : cup C11 203 _ = C12
  have hF12 : ∀ j, 203 ≤ j → j ≠ 203 → j ≠ 208 → j < 210 → C12 j = cellE (vX X) M0 j := by
    intro j h0 q203 q208 h9
    rw [← hC12]
    rw [cup_ne _ q203]
    exact hF11 j h0 q203 q208 (by omega)
  have hB12 : ∀ j, j < 203 → C12 j = C j := fun j hj => by rw [← hC12, cup_ne _ (by omega)]; exact hB11 j hj
  have f203 : C12 203 = .inr (10, [.ref ((vX X).2.2.2.2.2 + 204), .ref ((vX X).2.2.2.2.2 + 205), .ref ((vX X).2.2.2.2.2 + 206), .int 0, .ref ((vX X).2.2.2.2.2 + 207), .int 0, .ref ((vX X).2.2.2.2.2 + 208), .int 0, .int 0, .ref ((vX X).2.2.2.2.2 + 209), .int 0, .int 0, .null, .null, .null, .null, .null, .null, .null, .null, .null, .null, .null, .null, .int 0, .null, .null, .int 0, .null, .null, .null, .null, .null, .int 0, .null, .null, .null, .int 0, .int 0, .int 0, .null, .null, .null, .null]) := by rw [← hC12, cup_same] <;> rfl
  have f208 : C12 208 = .inl ((vX X).2.2.1, 3, .inl (fun _ => 0)) := by rw [← hC12, cup_ne _ (by decide)]; exact f208
  clear hC12
  refine bm_aload (i := 0) (t := 17) (pc := 53) G dX10_init_53 rfl rfl rfl (by decide) ?_
  refine bm_bipush (pc := 54) G dX10_init_54 (by decide) ?_
  refine bm_newi (pc := 56) G 16 dX10_init_56 (by decide) (hR.le (by decide) (by decide)) ?_
  generalize hC13 : cup C12 210 _ = C13
  have hF13 : ∀ j, 203 ≤ j → j ≠ 203 → j ≠ 208 → j < 211 → C13 j = cellE (vX X) M0 j := by
    intro j h0 q203 q208 h9
    rw [← hC13]
    by_cases h : j = 210
    · subst h; rw [cup_same]; exact (cellZ_i (vX X) (k := 210) (n := 16) rfl (by decide) (by decide)).symm
    · rw [cup_ne _ h]; exact hF12 j h0 q203 q208 (by omega)
  have hB13 : ∀ j, j < 203 → C13 j = C j := fun j hj => by rw [← hC13, cup_ne _ (by omega)]; exact hB12 j hj
  have f203 : C13 203 = .inr (10, [.ref ((vX X).2.2.2.2.2 + 204), .ref ((vX X).2.2.2.2.2 + 205), .ref ((vX X).2.2.2.2.2 + 206), .int 0, .ref ((vX X).2.2.2.2.2 + 207), .int 0, .ref ((vX X).2.2.2.2.2 + 208), .int 0, .int 0, .ref ((vX X).2.2.2.2.2 + 209), .int 0, .int 0, .null, .null, .null, .null, .null, .null, .null, .null, .null, .null, .null, .null, .int 0, .null, .null, .int 0, .null, .null, .null, .null, .null, .int 0, .null, .null, .null, .int 0, .int 0, .int 0, .null, .null, .null, .null]) := by rw [← hC13, cup_ne _ (by decide)]; exact f203
  have f208 : C13 208 = .inl ((vX X).2.2.1, 3, .inl (fun _ => 0)) := by rw [← hC13, cup_ne _ (by decide)]; exact f208
  clear hC13
  refine bm_putR (t := 113) (o := 203) (q := 210) (fs := [.ref ((vX X).2.2.2.2.2 + 204), .ref ((vX X).2.2.2.2.2 + 205), .ref ((vX X).2.2.2.2.2 + 206), .int 0, .ref ((vX X).2.2.2.2.2 + 207), .int 0, .ref ((vX X).2.2.2.2.2 + 208), .int 0, .int 0, .ref ((vX X).2.2.2.2.2 + 209), .int 0, .int 0, .null, .null, .null, .null, .null, .null, .null, .null, .null, .null, .null, .null, .int 0, .null, .null, .int 0, .null, .null, .null, .null, .null, .int 0, .null, .null, .null, .int 0, .int 0, .int 0, .null, .null, .null, .null]) (pc := 58) G hi 10 12 dX10_init_58 rfl inX10 tyX10_ok nmX10 (by decide) tw_f_RX10_28 rfl rfl rfl (by decide) f203 (Nat.le_of_ble_eq_true rfl) (fun _ => rfl) (fun _ => rfl) ?_
  generalize hC14 : cup C13 203 _ = C14
  have hF14 : ∀ j, 203 ≤ j → j ≠ 203 → j ≠ 208 → j < 211 → C14 j = cellE (vX X) M0 j := by
    intro j h0 q203 q208 h9
    rw [← hC14]
    rw [cup_ne _ q203]
    exact hF13 j h0 q203 q208 (by omega)
  have hB14 : ∀ j, j < 203 → C14 j = C j := fun j hj => by rw [← hC14, cup_ne _ (by omega)]; exact hB13 j hj
  have f203 : C14 203 = .inr (10, [.ref ((vX X).2.2.2.2.2 + 204), .ref ((vX X).2.2.2.2.2 + 205), .ref ((vX X).2.2.2.2.2 + 206), .int 0, .ref ((vX X).2.2.2.2.2 + 207), .int 0, .ref ((vX X).2.2.2.2.2 + 208), .int 0, .int 0, .ref ((vX X).2.2.2.2.2 + 209), .int 0, .int 0, .ref ((vX X).2.2.2.2.2 + 210), .null, .null, .null, .null, .null, .null, .null, .null, .null, .null, .null, .int 0, .null, .null, .int 0, .null, .null, .null, .null, .null, .int 0, .null, .null, .null, .int 0, .int 0, .int 0, .null, .null, .null, .null]) := by rw [← hC14, cup_same] <;> rfl
  have f208 : C14 208 = .inl ((vX X).2.2.1, 3, .inl (fun _ => 0)) := by rw [← hC14, cup_ne _ (by decide)]; exact f208
  clear hC14
  refine bm_aload (i := 0) (t := 17) (pc := 61) G dX10_init_61 rfl rfl rfl (by decide) ?_
  refine bm_bipush (pc := 62) G dX10_init_62 (by decide) ?_
  refine bm_newi (pc := 64) G 16 dX10_init_64 (by decide) (hR.le (by decide) (by decide)) ?_
  generalize hC15 : cup C14 211 _ = C15
  have hF15 : ∀ j, 203 ≤ j → j ≠ 203 → j ≠ 208 → j < 212 → C15 j = cellE (vX X) M0 j := by
    intro j h0 q203 q208 h9
    rw [← hC15]
    by_cases h : j = 211
    · subst h; rw [cup_same]; exact (cellZ_i (vX X) (k := 211) (n := 16) rfl (by decide) (by decide)).symm
    · rw [cup_ne _ h]; exact hF14 j h0 q203 q208 (by omega)
  have hB15 : ∀ j, j < 203 → C15 j = C j := fun j hj => by rw [← hC15, cup_ne _ (by omega)]; exact hB14 j hj
  have f203 : C15 203 = .inr (10, [.ref ((vX X).2.2.2.2.2 + 204), .ref ((vX X).2.2.2.2.2 + 205), .ref ((vX X).2.2.2.2.2 + 206), .int 0, .ref ((vX X).2.2.2.2.2 + 207), .int 0, .ref ((vX X).2.2.2.2.2 + 208), .int 0, .int 0, .ref ((vX X).2.2.2.2.2 + 209), .int 0, .int 0, .ref ((vX X).2.2.2.2.2 + 210), .null, .null, .null, .null, .null, .null, .null, .null, .null, .null, .null, .int 0, .null, .null, .int 0, .null, .null, .null, .null, .null, .int 0, .null, .null, .null, .int 0, .int 0, .int 0, .null, .null, .null, .null]) := by rw [← hC15, cup_ne _ (by decide)]; exact f203
  have f208 : C15 208 = .inl ((vX X).2.2.1, 3, .inl (fun _ => 0)) := by rw [← hC15, cup_ne _ (by decide)]; exact f208
  clear hC15
  refine bm_putR (t := 113) (o := 203) (q := 211) (fs := [.ref ((vX X).2.2.2.2.2 + 204), .ref ((vX X).2.2.2.2.2 + 205), .ref ((vX X).2.2.2.2.2 + 206), .int 0, .ref ((vX X).2.2.2.2.2 + 207), .int 0, .ref ((vX X).2.2.2.2.2 + 208), .int 0, .int 0, .ref ((vX X).2.2.2.2.2 + 209), .int 0, .int 0, .ref ((vX X).2.2.2.2.2 + 210), .null, .null, .null, .null, .null, .null, .null, .null, .null, .null, .null, .int 0, .null, .null, .int 0, .null, .null, .null, .null, .null, .int 0, .null, .null, .null, .int 0, .int 0, .int 0, .null, .null, .null, .null]) (pc := 66) G hi 10 13 dX10_init_66 rfl inX10 tyX10_ok nmX10 (by decide) tw_f_RX10_31 rfl rfl rfl (by decide) f203 (Nat.le_of_ble_eq_true rfl) (fun _ => rfl) (fun _ => rfl) ?_
  generalize hC16 : cup C15 203 _ = C16
  have hF16 : ∀ j, 203 ≤ j → j ≠ 203 → j ≠ 208 → j < 212 → C16 j = cellE (vX X) M0 j := by
    intro j h0 q203 q208 h9
    rw [← hC16]
    rw [cup_ne _ q203]
    exact hF15 j h0 q203 q208 (by omega)
  have hB16 : ∀ j, j < 203 → C16 j = C j := fun j hj => by rw [← hC16, cup_ne _ (by omega)]; exact hB15 j hj
  have f203 : C16 203 = .inr (10, [.ref ((vX X).2.2.2.2.2 + 204), .ref ((vX X).2.2.2.2.2 + 205), .ref ((vX X).2.2.2.2.2 + 206), .int 0, .ref ((vX X).2.2.2.2.2 + 207), .int 0, .ref ((vX X).2.2.2.2.2 + 208), .int 0, .int 0, .ref ((vX X).2.2.2.2.2 + 209), .int 0, .int 0, .ref ((vX X).2.2.2.2.2 + 210), .ref ((vX X).2.2.2.2.2 + 211), .null, .null, .null, .null, .null, .null, .null, .null, .null, .null, .int 0, .null, .null, .int 0, .null, .null, .null, .null, .null, .int 0, .null, .null, .null, .int 0, .int 0, .int 0, .null, .null, .null, .null]) := by rw [← hC16, cup_same] <;> rfl
  have f208 : C16 208 = .inl ((vX X).2.2.1, 3, .inl (fun _ => 0)) := by rw [← hC16, cup_ne _ (by decide)]; exact f208
  clear hC16
  refine bm_aload (i := 0) (t := 17) (pc := 69) G dX10_init_69 rfl rfl rfl (by decide) ?_
  refine bm_bipush (pc := 70) G dX10_init_70 (by decide) ?_
  refine bm_newi (pc := 72) G 17 dX10_init_72 (by decide) (hR.le (by decide) (by decide)) ?_
  generalize hC17 : cup C16 212 _ = C17
  have hF17 : ∀ j, 203 ≤ j → j ≠ 203 → j ≠ 208 → j < 213 → C17 j = cellE (vX X) M0 j := by
    intro j h0 q203 q208 h9
    rw [← hC17]
    by_cases h : j = 212
    · subst h; rw [cup_same]; exact (cellZ_i (vX X) (k := 212) (n := 17) rfl (by decide) (by decide)).symm
    · rw [cup_ne _ h]; exact hF16 j h0 q203 q208 (by omega)
  have hB17 : ∀ j, j < 203 → C17 j = C j := fun j hj => by rw [← hC17, cup_ne _ (by omega)]; exact hB16 j hj
  have f203 : C17 203 = .inr (10, [.ref ((vX X).2.2.2.2.2 + 204), .ref ((vX X).2.2.2.2.2 + 205), .ref ((vX X).2.2.2.2.2 + 206), .int 0, .ref ((vX X).2.2.2.2.2 + 207), .int 0, .ref ((vX X).2.2.2.2.2 + 208), .int 0, .int 0, .ref ((vX X).2.2.2.2.2 + 209), .int 0, .int 0, .ref ((vX X).2.2.2.2.2 + 210), .ref ((vX X).2.2.2.2.2 + 211), .null, .null, .null, .null, .null, .null, .null, .null, .null, .null, .int 0, .null, .null, .int 0, .null, .null, .null, .null, .null, .int 0, .null, .null, .null, .int 0, .int 0, .int 0, .null, .null, .null, .null]) := by rw [← hC17, cup_ne _ (by decide)]; exact f203
  have f208 : C17 208 = .inl ((vX X).2.2.1, 3, .inl (fun _ => 0)) := by rw [← hC17, cup_ne _ (by decide)]; exact f208
  clear hC17
  refine bm_putR (t := 114) (o := 203) (q := 212) (fs := [.ref ((vX X).2.2.2.2.2 + 204), .ref ((vX X).2.2.2.2.2 + 205), .ref ((vX X).2.2.2.2.2 + 206), .int 0, .ref ((vX X).2.2.2.2.2 + 207), .int 0, .ref ((vX X).2.2.2.2.2 + 208), .int 0, .int 0, .ref ((vX X).2.2.2.2.2 + 209), .int 0, .int 0, .ref ((vX X).2.2.2.2.2 + 210), .ref ((vX X).2.2.2.2.2 + 211), .null, .null, .null, .null, .null, .null, .null, .null, .null, .null, .int 0, .null, .null, .int 0, .null, .null, .null, .null, .null, .int 0, .null, .null, .null, .int 0, .int 0, .int 0, .null, .null, .null, .null]) (pc := 74) G hi 10 14 dX10_init_74 rfl inX10 tyX10_ok nmX10 (by decide) tw_f_RX10_34 rfl rfl rfl (by decide) f203 (Nat.le_of_ble_eq_true rfl) (fun _ => rfl) (fun _ => rfl) ?_
  generalize hC18 : cup C17 203 _ = C18
  have hF18 : ∀ j, 203 ≤ j → j ≠ 203 → j ≠ 208 → j < 213 → C18 j = cellE (vX X) M0 j := by
    intro j h0 q203 q208 h9
    rw [← hC18]
    rw [cup_ne _ q203]
    exact hF17 j h0 q203 q208 (by omega)
  have hB18 : ∀ j, j < 203 → C18 j = C j := fun j hj => by rw [← hC18, cup_ne _ (by omega)]; exact hB17 j hj
  have f203 : C18 203 = .inr (10, [.ref ((vX X).2.2.2.2.2 + 204), .ref ((vX X).2.2.2.2.2 + 205), .ref ((vX X).2.2.2.2.2 + 206), .int 0, .ref ((vX X).2.2.2.2.2 + 207), .int 0, .ref ((vX X).2.2.2.2.2 + 208), .int 0, .int 0, .ref ((vX X).2.2.2.2.2 + 209), .int 0, .int 0, .ref ((vX X).2.2.2.2.2 + 210), .ref ((vX X).2.2.2.2.2 + 211), .ref ((vX X).2.2.2.2.2 + 212), .null, .null, .null, .null, .null, .null, .null, .null, .null, .int 0, .null, .null, .int 0, .null, .null, .null, .null, .null, .int 0, .null, .null, .null, .int 0, .int 0, .int 0, .null, .null, .null, .null]) := by rw [← hC18, cup_same] <;> rfl
  have f208 : C18 208 = .inl ((vX X).2.2.1, 3, .inl (fun _ => 0)) := by rw [← hC18, cup_ne _ (by decide)]; exact f208
  clear hC18
  refine bm_aload (i := 0) (t := 17) (pc := 77) G dX10_init_77 rfl rfl rfl (by decide) ?_
  refine bm_bipush (pc := 78) G dX10_init_78 (by decide) ?_
  refine bm_newi (pc := 80) G 17 dX10_init_80 (by decide) (hR.le (by decide) (by decide)) ?_
  generalize hC19 : cup C18 213 _ = C19
  have hF19 : ∀ j, 203 ≤ j → j ≠ 203 → j ≠ 208 → j < 214 → C19 j = cellE (vX X) M0 j := by
    intro j h0 q203 q208 h9
    rw [← hC19]
    by_cases h : j = 213
    · subst h; rw [cup_same]; exact (cellZ_i (vX X) (k := 213) (n := 17) rfl (by decide) (by decide)).symm
    · rw [cup_ne _ h]; exact hF18 j h0 q203 q208 (by omega)
  have hB19 : ∀ j, j < 203 → C19 j = C j := fun j hj => by rw [← hC19, cup_ne _ (by omega)]; exact hB18 j hj
  have f203 : C19 203 = .inr (10, [.ref ((vX X).2.2.2.2.2 + 204), .ref ((vX X).2.2.2.2.2 + 205), .ref ((vX X).2.2.2.2.2 + 206), .int 0, .ref ((vX X).2.2.2.2.2 + 207), .int 0, .ref ((vX X).2.2.2.2.2 + 208), .int 0, .int 0, .ref ((vX X).2.2.2.2.2 + 209), .int 0, .int 0, .ref ((vX X).2.2.2.2.2 + 210), .ref ((vX X).2.2.2.2.2 + 211), .ref ((vX X).2.2.2.2.2 + 212), .null, .null, .null, .null, .null, .null, .null, .null, .null, .int 0, .null, .null, .int 0, .null, .null, .null, .null, .null, .int 0, .null, .null, .null, .int 0, .int 0, .int 0, .null, .null, .null, .null]) := by rw [← hC19, cup_ne _ (by decide)]; exact f203
  have f208 : C19 208 = .inl ((vX X).2.2.1, 3, .inl (fun _ => 0)) := by rw [← hC19, cup_ne _ (by decide)]; exact f208
  clear hC19
  refine bm_putR (t := 114) (o := 203) (q := 213) (fs := [.ref ((vX X).2.2.2.2.2 + 204), .ref ((vX X).2.2.2.2.2 + 205), .ref ((vX X).2.2.2.2.2 + 206), .int 0, .ref ((vX X).2.2.2.2.2 + 207), .int 0, .ref ((vX X).2.2.2.2.2 + 208), .int 0, .int 0, .ref ((vX X).2.2.2.2.2 + 209), .int 0, .int 0, .ref ((vX X).2.2.2.2.2 + 210), .ref ((vX X).2.2.2.2.2 + 211), .ref ((vX X).2.2.2.2.2 + 212), .null, .null, .null, .null, .null, .null, .null, .null, .null, .int 0, .null, .null, .int 0, .null, .null, .null, .null, .null, .int 0, .null, .null, .null, .int 0, .int 0, .int 0, .null, .null, .null, .null]) (pc := 82) G hi 10 15 dX10_init_82 rfl inX10 tyX10_ok nmX10 (by decide) tw_f_RX10_37 rfl rfl rfl (by decide) f203 (Nat.le_of_ble_eq_true rfl) (fun _ => rfl) (fun _ => rfl) ?_
  generalize hC20 : cup C19 203 _ = C20
  have hF20 : ∀ j, 203 ≤ j → j ≠ 203 → j ≠ 208 → j < 214 → C20 j = cellE (vX X) M0 j := by
    intro j h0 q203 q208 h9
    rw [← hC20]
    rw [cup_ne _ q203]
    exact hF19 j h0 q203 q208 (by omega)
  have hB20 : ∀ j, j < 203 → C20 j = C j := fun j hj => by rw [← hC20, cup_ne _ (by omega)]; exact hB19 j hj
  have f203 : C20 203 = .inr (10, [.ref ((vX X).2.2.2.2.2 + 204), .ref ((vX X).2.2.2.2.2 + 205), .ref ((vX X).2.2.2.2.2 + 206), .int 0, .ref ((vX X).2.2.2.2.2 + 207), .int 0, .ref ((vX X).2.2.2.2.2 + 208), .int 0, .int 0, .ref ((vX X).2.2.2.2.2 + 209), .int 0, .int 0, .ref ((vX X).2.2.2.2.2 + 210), .ref ((vX X).2.2.2.2.2 + 211), .ref ((vX X).2.2.2.2.2 + 212), .ref ((vX X).2.2.2.2.2 + 213), .null, .null, .null, .null, .null, .null, .null, .null, .int 0, .null, .null, .int 0, .null, .null, .null, .null, .null, .int 0, .null, .null, .null, .int 0, .int 0, .int 0, .null, .null, .null, .null]) := by rw [← hC20, cup_same] <;> rfl
  have f208 : C20 208 = .inl ((vX X).2.2.1, 3, .inl (fun _ => 0)) := by rw [← hC20, cup_ne _ (by decide)]; exact f208
  clear hC20
  refine bm_aload (i := 0) (t := 17) (pc := 85) G dX10_init_85 rfl rfl rfl (by decide) ?_
  refine bm_sipush (pc := 86) G dX10_init_86 (by decide) ?_
  refine bm_newi (pc := 89) G 256 dX10_init_89 (by decide) (hR.le (by decide) (by decide)) ?_
  generalize hC21 : cup C20 214 _ = C21
  have hF21 : ∀ j, 203 ≤ j → j ≠ 203 → j ≠ 208 → j < 215 → C21 j = cellE (vX X) M0 j := by
    intro j h0 q203 q208 h9
    rw [← hC21]
    by_cases h : j = 214
    · subst h; rw [cup_same]; exact (cellZ_i (vX X) (k := 214) (n := 256) rfl (by decide) (by decide)).symm
    · rw [cup_ne _ h]; exact hF20 j h0 q203 q208 (by omega)
  have hB21 : ∀ j, j < 203 → C21 j = C j := fun j hj => by rw [← hC21, cup_ne _ (by omega)]; exact hB20 j hj
  have f203 : C21 203 = .inr (10, [.ref ((vX X).2.2.2.2.2 + 204), .ref ((vX X).2.2.2.2.2 + 205), .ref ((vX X).2.2.2.2.2 + 206), .int 0, .ref ((vX X).2.2.2.2.2 + 207), .int 0, .ref ((vX X).2.2.2.2.2 + 208), .int 0, .int 0, .ref ((vX X).2.2.2.2.2 + 209), .int 0, .int 0, .ref ((vX X).2.2.2.2.2 + 210), .ref ((vX X).2.2.2.2.2 + 211), .ref ((vX X).2.2.2.2.2 + 212), .ref ((vX X).2.2.2.2.2 + 213), .null, .null, .null, .null, .null, .null, .null, .null, .int 0, .null, .null, .int 0, .null, .null, .null, .null, .null, .int 0, .null, .null, .null, .int 0, .int 0, .int 0, .null, .null, .null, .null]) := by rw [← hC21, cup_ne _ (by decide)]; exact f203
  have f208 : C21 208 = .inl ((vX X).2.2.1, 3, .inl (fun _ => 0)) := by rw [← hC21, cup_ne _ (by decide)]; exact f208
  clear hC21
  refine bm_putR (t := 353) (o := 203) (q := 214) (fs := [.ref ((vX X).2.2.2.2.2 + 204), .ref ((vX X).2.2.2.2.2 + 205), .ref ((vX X).2.2.2.2.2 + 206), .int 0, .ref ((vX X).2.2.2.2.2 + 207), .int 0, .ref ((vX X).2.2.2.2.2 + 208), .int 0, .int 0, .ref ((vX X).2.2.2.2.2 + 209), .int 0, .int 0, .ref ((vX X).2.2.2.2.2 + 210), .ref ((vX X).2.2.2.2.2 + 211), .ref ((vX X).2.2.2.2.2 + 212), .ref ((vX X).2.2.2.2.2 + 213), .null, .null, .null, .null, .null, .null, .null, .null, .int 0, .null, .null, .int 0, .null, .null, .null, .null, .null, .int 0, .null, .null, .null, .int 0, .int 0, .int 0, .null, .null, .null, .null]) (pc := 91) G hi 10 16 dX10_init_91 rfl inX10 tyX10_ok nmX10 (by decide) tw_f_RX10_40 rfl rfl rfl (by decide) f203 (Nat.le_of_ble_eq_true rfl) (fun _ => rfl) (fun _ => rfl) ?_
  generalize hC22 : cup C21 203 _ = C22
  have hF22 : ∀ j, 203 ≤ j → j ≠ 203 → j ≠ 208 → j < 215 → C22 j = cellE (vX X) M0 j := by
    intro j h0 q203 q208 h9
    rw [← hC22]
    rw [cup_ne _ q203]
    exact hF21 j h0 q203 q208 (by omega)
  have hB22 : ∀ j, j < 203 → C22 j = C j := fun j hj => by rw [← hC22, cup_ne _ (by omega)]; exact hB21 j hj
  have f203 : C22 203 = .inr (10, [.ref ((vX X).2.2.2.2.2 + 204), .ref ((vX X).2.2.2.2.2 + 205), .ref ((vX X).2.2.2.2.2 + 206), .int 0, .ref ((vX X).2.2.2.2.2 + 207), .int 0, .ref ((vX X).2.2.2.2.2 + 208), .int 0, .int 0, .ref ((vX X).2.2.2.2.2 + 209), .int 0, .int 0, .ref ((vX X).2.2.2.2.2 + 210), .ref ((vX X).2.2.2.2.2 + 211), .ref ((vX X).2.2.2.2.2 + 212), .ref ((vX X).2.2.2.2.2 + 213), .ref ((vX X).2.2.2.2.2 + 214), .null, .null, .null, .null, .null, .null, .null, .int 0, .null, .null, .int 0, .null, .null, .null, .null, .null, .int 0, .null, .null, .null, .int 0, .int 0, .int 0, .null, .null, .null, .null]) := by rw [← hC22, cup_same] <;> rfl
  have f208 : C22 208 = .inl ((vX X).2.2.1, 3, .inl (fun _ => 0)) := by rw [← hC22, cup_ne _ (by decide)]; exact f208
  clear hC22
  refine bm_aload (i := 0) (t := 17) (pc := 94) G dX10_init_94 rfl rfl rfl (by decide) ?_
  refine bm_bipush (pc := 95) G dX10_init_95 (by decide) ?_
  refine bm_newi (pc := 97) G 16 dX10_init_97 (by decide) (hR.le (by decide) (by decide)) ?_
  generalize hC23 : cup C22 215 _ = C23
  have hF23 : ∀ j, 203 ≤ j → j ≠ 203 → j ≠ 208 → j < 216 → C23 j = cellE (vX X) M0 j := by
    intro j h0 q203 q208 h9
    rw [← hC23]
    by_cases h : j = 215
    · subst h; rw [cup_same]; exact (cellZ_i (vX X) (k := 215) (n := 16) rfl (by decide) (by decide)).symm
    · rw [cup_ne _ h]; exact hF22 j h0 q203 q208 (by omega)
  have hB23 : ∀ j, j < 203 → C23 j = C j := fun j hj => by rw [← hC23, cup_ne _ (by omega)]; exact hB22 j hj
  have f203 : C23 203 = .inr (10, [.ref ((vX X).2.2.2.2.2 + 204), .ref ((vX X).2.2.2.2.2 + 205), .ref ((vX X).2.2.2.2.2 + 206), .int 0, .ref ((vX X).2.2.2.2.2 + 207), .int 0, .ref ((vX X).2.2.2.2.2 + 208), .int 0, .int 0, .ref ((vX X).2.2.2.2.2 + 209), .int 0, .int 0, .ref ((vX X).2.2.2.2.2 + 210), .ref ((vX X).2.2.2.2.2 + 211), .ref ((vX X).2.2.2.2.2 + 212), .ref ((vX X).2.2.2.2.2 + 213), .ref ((vX X).2.2.2.2.2 + 214), .null, .null, .null, .null, .null, .null, .null, .int 0, .null, .null, .int 0, .null, .null, .null, .null, .null, .int 0, .null, .null, .null, .int 0, .int 0, .int 0, .null, .null, .null, .null]) := by rw [← hC23, cup_ne _ (by decide)]; exact f203
  have f208 : C23 208 = .inl ((vX X).2.2.1, 3, .inl (fun _ => 0)) := by rw [← hC23, cup_ne _ (by decide)]; exact f208
  clear hC23
  refine bm_putR (t := 113) (o := 203) (q := 215) (fs := [.ref ((vX X).2.2.2.2.2 + 204), .ref ((vX X).2.2.2.2.2 + 205), .ref ((vX X).2.2.2.2.2 + 206), .int 0, .ref ((vX X).2.2.2.2.2 + 207), .int 0, .ref ((vX X).2.2.2.2.2 + 208), .int 0, .int 0, .ref ((vX X).2.2.2.2.2 + 209), .int 0, .int 0, .ref ((vX X).2.2.2.2.2 + 210), .ref ((vX X).2.2.2.2.2 + 211), .ref ((vX X).2.2.2.2.2 + 212), .ref ((vX X).2.2.2.2.2 + 213), .ref ((vX X).2.2.2.2.2 + 214), .null, .null, .null, .null, .null, .null, .null, .int 0, .null, .null, .int 0, .null, .null, .null, .null, .null, .int 0, .null, .null, .null, .int 0, .int 0, .int 0, .null, .null, .null, .null]) (pc := 99) G hi 10 17 dX10_init_99 rfl inX10 tyX10_ok nmX10 (by decide) tw_f_RX10_43 rfl rfl rfl (by decide) f203 (Nat.le_of_ble_eq_true rfl) (fun _ => rfl) (fun _ => rfl) ?_
  generalize hC24 : cup C23 203 _ = C24
  have hF24 : ∀ j, 203 ≤ j → j ≠ 203 → j ≠ 208 → j < 216 → C24 j = cellE (vX X) M0 j := by
    intro j h0 q203 q208 h9
    rw [← hC24]
    rw [cup_ne _ q203]
    exact hF23 j h0 q203 q208 (by omega)
  have hB24 : ∀ j, j < 203 → C24 j = C j := fun j hj => by rw [← hC24, cup_ne _ (by omega)]; exact hB23 j hj
  have f203 : C24 203 = .inr (10, [.ref ((vX X).2.2.2.2.2 + 204), .ref ((vX X).2.2.2.2.2 + 205), .ref ((vX X).2.2.2.2.2 + 206), .int 0, .ref ((vX X).2.2.2.2.2 + 207), .int 0, .ref ((vX X).2.2.2.2.2 + 208), .int 0, .int 0, .ref ((vX X).2.2.2.2.2 + 209), .int 0, .int 0, .ref ((vX X).2.2.2.2.2 + 210), .ref ((vX X).2.2.2.2.2 + 211), .ref ((vX X).2.2.2.2.2 + 212), .ref ((vX X).2.2.2.2.2 + 213), .ref ((vX X).2.2.2.2.2 + 214), .ref ((vX X).2.2.2.2.2 + 215), .null, .null, .null, .null, .null, .null, .int 0, .null, .null, .int 0, .null, .null, .null, .null, .null, .int 0, .null, .null, .null, .int 0, .int 0, .int 0, .null, .null, .null, .null]) := by rw [← hC24, cup_same] <;> rfl
  have f208 : C24 208 = .inl ((vX X).2.2.1, 3, .inl (fun _ => 0)) := by rw [← hC24, cup_ne _ (by decide)]; exact f208
  clear hC24
  refine bm_aload (i := 0) (t := 17) (pc := 102) G dX10_init_102 rfl rfl rfl (by decide) ?_
  refine bm_bipush (pc := 103) G dX10_init_103 (by decide) ?_
  refine bm_newi (pc := 105) G 17 dX10_init_105 (by decide) (hR.le (by decide) (by decide)) ?_
  generalize hC25 : cup C24 216 _ = C25
  have hF25 : ∀ j, 203 ≤ j → j ≠ 203 → j ≠ 208 → j < 217 → C25 j = cellE (vX X) M0 j := by
    intro j h0 q203 q208 h9
    rw [← hC25]
    by_cases h : j = 216
    · subst h; rw [cup_same]; exact (cellZ_i (vX X) (k := 216) (n := 17) rfl (by decide) (by decide)).symm
    · rw [cup_ne _ h]; exact hF24 j h0 q203 q208 (by omega)
  have hB25 : ∀ j, j < 203 → C25 j = C j := fun j hj => by rw [← hC25, cup_ne _ (by omega)]; exact hB24 j hj
  have f203 : C25 203 = .inr (10, [.ref ((vX X).2.2.2.2.2 + 204), .ref ((vX X).2.2.2.2.2 + 205), .ref ((vX X).2.2.2.2.2 + 206), .int 0, .ref ((vX X).2.2.2.2.2 + 207), .int 0, .ref ((vX X).2.2.2.2.2 + 208), .int 0, .int 0, .ref ((vX X).2.2.2.2.2 + 209), .int 0, .int 0, .ref ((vX X).2.2.2.2.2 + 210), .ref ((vX X).2.2.2.2.2 + 211), .ref ((vX X).2.2.2.2.2 + 212), .ref ((vX X).2.2.2.2.2 + 213), .ref ((vX X).2.2.2.2.2 + 214), .ref ((vX X).2.2.2.2.2 + 215), .null, .null, .null, .null, .null, .null, .int 0, .null, .null, .int 0, .null, .null, .null, .null, .null, .int 0, .null, .null, .null, .int 0, .int 0, .int 0, .null, .null, .null, .null]) := by rw [← hC25, cup_ne _ (by decide)]; exact f203
  have f208 : C25 208 = .inl ((vX X).2.2.1, 3, .inl (fun _ => 0)) := by rw [← hC25, cup_ne _ (by decide)]; exact f208
  clear hC25
  refine bm_putR (t := 114) (o := 203) (q := 216) (fs := [.ref ((vX X).2.2.2.2.2 + 204), .ref ((vX X).2.2.2.2.2 + 205), .ref ((vX X).2.2.2.2.2 + 206), .int 0, .ref ((vX X).2.2.2.2.2 + 207), .int 0, .ref ((vX X).2.2.2.2.2 + 208), .int 0, .int 0, .ref ((vX X).2.2.2.2.2 + 209), .int 0, .int 0, .ref ((vX X).2.2.2.2.2 + 210), .ref ((vX X).2.2.2.2.2 + 211), .ref ((vX X).2.2.2.2.2 + 212), .ref ((vX X).2.2.2.2.2 + 213), .ref ((vX X).2.2.2.2.2 + 214), .ref ((vX X).2.2.2.2.2 + 215), .null, .null, .null, .null, .null, .null, .int 0, .null, .null, .int 0, .null, .null, .null, .null, .null, .int 0, .null, .null, .null, .int 0, .int 0, .int 0, .null, .null, .null, .null]) (pc := 107) G hi 10 18 dX10_init_107 rfl inX10 tyX10_ok nmX10 (by decide) tw_f_RX10_46 rfl rfl rfl (by decide) f203 (Nat.le_of_ble_eq_true rfl) (fun _ => rfl) (fun _ => rfl) ?_
  generalize hC26 : cup C25 203 _ = C26
  have hF26 : ∀ j, 203 ≤ j → j ≠ 203 → j ≠ 208 → j < 217 → C26 j = cellE (vX X) M0 j := by
    intro j h0 q203 q208 h9
    rw [← hC26]
    rw [cup_ne _ q203]
    exact hF25 j h0 q203 q208 (by omega)
  have hB26 : ∀ j, j < 203 → C26 j = C j := fun j hj => by rw [← hC26, cup_ne _ (by omega)]; exact hB25 j hj
  have f203 : C26 203 = .inr (10, [.ref ((vX X).2.2.2.2.2 + 204), .ref ((vX X).2.2.2.2.2 + 205), .ref ((vX X).2.2.2.2.2 + 206), .int 0, .ref ((vX X).2.2.2.2.2 + 207), .int 0, .ref ((vX X).2.2.2.2.2 + 208), .int 0, .int 0, .ref ((vX X).2.2.2.2.2 + 209), .int 0, .int 0, .ref ((vX X).2.2.2.2.2 + 210), .ref ((vX X).2.2.2.2.2 + 211), .ref ((vX X).2.2.2.2.2 + 212), .ref ((vX X).2.2.2.2.2 + 213), .ref ((vX X).2.2.2.2.2 + 214), .ref ((vX X).2.2.2.2.2 + 215), .ref ((vX X).2.2.2.2.2 + 216), .null, .null, .null, .null, .null, .int 0, .null, .null, .int 0, .null, .null, .null, .null, .null, .int 0, .null, .null, .null, .int 0, .int 0, .int 0, .null, .null, .null, .null]) := by rw [← hC26, cup_same] <;> rfl
  have f208 : C26 208 = .inl ((vX X).2.2.1, 3, .inl (fun _ => 0)) := by rw [← hC26, cup_ne _ (by decide)]; exact f208
  clear hC26
  refine bm_aload (i := 0) (t := 17) (pc := 110) G dX10_init_110 rfl rfl rfl (by decide) ?_
  refine bm_bipush (pc := 111) G dX10_init_111 (by decide) ?_
  refine bm_newi (pc := 113) G 17 dX10_init_113 (by decide) (hR.le (by decide) (by decide)) ?_
  generalize hC27 : cup C26 217 _ = C27
  have hF27 : ∀ j, 203 ≤ j → j ≠ 203 → j ≠ 208 → j < 218 → C27 j = cellE (vX X) M0 j := by
    intro j h0 q203 q208 h9
    rw [← hC27]
    by_cases h : j = 217
    · subst h; rw [cup_same]; exact (cellZ_i (vX X) (k := 217) (n := 17) rfl (by decide) (by decide)).symm
    · rw [cup_ne _ h]; exact hF26 j h0 q203 q208 (by omega)
  have hB27 : ∀ j, j < 203 → C27 j = C j := fun j hj => by rw [← hC27, cup_ne _ (by omega)]; exact hB26 j hj
  have f203 : C27 203 = .inr (10, [.ref ((vX X).2.2.2.2.2 + 204), .ref ((vX X).2.2.2.2.2 + 205), .ref ((vX X).2.2.2.2.2 + 206), .int 0, .ref ((vX X).2.2.2.2.2 + 207), .int 0, .ref ((vX X).2.2.2.2.2 + 208), .int 0, .int 0, .ref ((vX X).2.2.2.2.2 + 209), .int 0, .int 0, .ref ((vX X).2.2.2.2.2 + 210), .ref ((vX X).2.2.2.2.2 + 211), .ref ((vX X).2.2.2.2.2 + 212), .ref ((vX X).2.2.2.2.2 + 213), .ref ((vX X).2.2.2.2.2 + 214), .ref ((vX X).2.2.2.2.2 + 215), .ref ((vX X).2.2.2.2.2 + 216), .null, .null, .null, .null, .null, .int 0, .null, .null, .int 0, .null, .null, .null, .null, .null, .int 0, .null, .null, .null, .int 0, .int 0, .int 0, .null, .null, .null, .null]) := by rw [← hC27, cup_ne _ (by decide)]; exact f203
  have f208 : C27 208 = .inl ((vX X).2.2.1, 3, .inl (fun _ => 0)) := by rw [← hC27, cup_ne _ (by decide)]; exact f208
  clear hC27
  refine bm_putR (t := 114) (o := 203) (q := 217) (fs := [.ref ((vX X).2.2.2.2.2 + 204), .ref ((vX X).2.2.2.2.2 + 205), .ref ((vX X).2.2.2.2.2 + 206), .int 0, .ref ((vX X).2.2.2.2.2 + 207), .int 0, .ref ((vX X).2.2.2.2.2 + 208), .int 0, .int 0, .ref ((vX X).2.2.2.2.2 + 209), .int 0, .int 0, .ref ((vX X).2.2.2.2.2 + 210), .ref ((vX X).2.2.2.2.2 + 211), .ref ((vX X).2.2.2.2.2 + 212), .ref ((vX X).2.2.2.2.2 + 213), .ref ((vX X).2.2.2.2.2 + 214), .ref ((vX X).2.2.2.2.2 + 215), .ref ((vX X).2.2.2.2.2 + 216), .null, .null, .null, .null, .null, .int 0, .null, .null, .int 0, .null, .null, .null, .null, .null, .int 0, .null, .null, .null, .int 0, .int 0, .int 0, .null, .null, .null, .null]) (pc := 115) G hi 10 19 dX10_init_115 rfl inX10 tyX10_ok nmX10 (by decide) tw_f_RX10_49 rfl rfl rfl (by decide) f203 (Nat.le_of_ble_eq_true rfl) (fun _ => rfl) (fun _ => rfl) ?_
  generalize hC28 : cup C27 203 _ = C28
  have hF28 : ∀ j, 203 ≤ j → j ≠ 203 → j ≠ 208 → j < 218 → C28 j = cellE (vX X) M0 j := by
    intro j h0 q203 q208 h9
    rw [← hC28]
    rw [cup_ne _ q203]
    exact hF27 j h0 q203 q208 (by omega)
  have hB28 : ∀ j, j < 203 → C28 j = C j := fun j hj => by rw [← hC28, cup_ne _ (by omega)]; exact hB27 j hj
  have f203 : C28 203 = .inr (10, [.ref ((vX X).2.2.2.2.2 + 204), .ref ((vX X).2.2.2.2.2 + 205), .ref ((vX X).2.2.2.2.2 + 206), .int 0, .ref ((vX X).2.2.2.2.2 + 207), .int 0, .ref ((vX X).2.2.2.2.2 + 208), .int 0, .int 0, .ref ((vX X).2.2.2.2.2 + 209), .int 0, .int 0, .ref ((vX X).2.2.2.2.2 + 210), .ref ((vX X).2.2.2.2.2 + 211), .ref ((vX X).2.2.2.2.2 + 212), .ref ((vX X).2.2.2.2.2 + 213), .ref ((vX X).2.2.2.2.2 + 214), .ref ((vX X).2.2.2.2.2 + 215), .ref ((vX X).2.2.2.2.2 + 216), .ref ((vX X).2.2.2.2.2 + 217), .null, .null, .null, .null, .int 0, .null, .null, .int 0, .null, .null, .null, .null, .null, .int 0, .null, .null, .null, .int 0, .int 0, .int 0, .null, .null, .null, .null]) := by rw [← hC28, cup_same] <;> rfl
  have f208 : C28 208 = .inl ((vX X).2.2.1, 3, .inl (fun _ => 0)) := by rw [← hC28, cup_ne _ (by decide)]; exact f208
  clear hC28
  refine bm_aload (i := 0) (t := 17) (pc := 118) G dX10_init_118 rfl rfl rfl (by decide) ?_
  refine bm_sipush (pc := 119) G dX10_init_119 (by decide) ?_
  refine bm_newi (pc := 122) G 289 dX10_init_122 (by decide) (hR.le (by decide) (by decide)) ?_
  generalize hC29 : cup C28 218 _ = C29
  have hF29 : ∀ j, 203 ≤ j → j ≠ 203 → j ≠ 208 → j < 219 → C29 j = cellE (vX X) M0 j := by
    intro j h0 q203 q208 h9
    rw [← hC29]
    by_cases h : j = 218
    · subst h; rw [cup_same]; exact (cellZ_i (vX X) (k := 218) (n := 289) rfl (by decide) (by decide)).symm
    · rw [cup_ne _ h]; exact hF28 j h0 q203 q208 (by omega)
  have hB29 : ∀ j, j < 203 → C29 j = C j := fun j hj => by rw [← hC29, cup_ne _ (by omega)]; exact hB28 j hj
  have f203 : C29 203 = .inr (10, [.ref ((vX X).2.2.2.2.2 + 204), .ref ((vX X).2.2.2.2.2 + 205), .ref ((vX X).2.2.2.2.2 + 206), .int 0, .ref ((vX X).2.2.2.2.2 + 207), .int 0, .ref ((vX X).2.2.2.2.2 + 208), .int 0, .int 0, .ref ((vX X).2.2.2.2.2 + 209), .int 0, .int 0, .ref ((vX X).2.2.2.2.2 + 210), .ref ((vX X).2.2.2.2.2 + 211), .ref ((vX X).2.2.2.2.2 + 212), .ref ((vX X).2.2.2.2.2 + 213), .ref ((vX X).2.2.2.2.2 + 214), .ref ((vX X).2.2.2.2.2 + 215), .ref ((vX X).2.2.2.2.2 + 216), .ref ((vX X).2.2.2.2.2 + 217), .null, .null, .null, .null, .int 0, .null, .null, .int 0, .null, .null, .null, .null, .null, .int 0, .null, .null, .null, .int 0, .int 0, .int 0, .null, .null, .null, .null]) := by rw [← hC29, cup_ne _ (by decide)]; exact f203
  have f208 : C29 208 = .inl ((vX X).2.2.1, 3, .inl (fun _ => 0)) := by rw [← hC29, cup_ne _ (by decide)]; exact f208
  clear hC29
  refine bm_putR (t := 386) (o := 203) (q := 218) (fs := [.ref ((vX X).2.2.2.2.2 + 204), .ref ((vX X).2.2.2.2.2 + 205), .ref ((vX X).2.2.2.2.2 + 206), .int 0, .ref ((vX X).2.2.2.2.2 + 207), .int 0, .ref ((vX X).2.2.2.2.2 + 208), .int 0, .int 0, .ref ((vX X).2.2.2.2.2 + 209), .int 0, .int 0, .ref ((vX X).2.2.2.2.2 + 210), .ref ((vX X).2.2.2.2.2 + 211), .ref ((vX X).2.2.2.2.2 + 212), .ref ((vX X).2.2.2.2.2 + 213), .ref ((vX X).2.2.2.2.2 + 214), .ref ((vX X).2.2.2.2.2 + 215), .ref ((vX X).2.2.2.2.2 + 216), .ref ((vX X).2.2.2.2.2 + 217), .null, .null, .null, .null, .int 0, .null, .null, .int 0, .null, .null, .null, .null, .null, .int 0, .null, .null, .null, .int 0, .int 0, .int 0, .null, .null, .null, .null]) (pc := 124) G hi 10 20 dX10_init_124 rfl inX10 tyX10_ok nmX10 (by decide) tw_f_RX10_52 rfl rfl rfl (by decide) f203 (Nat.le_of_ble_eq_true rfl) (fun _ => rfl) (fun _ => rfl) ?_
  generalize hC30 : cup C29 203 _ = C30
  have hF30 : ∀ j, 203 ≤ j → j ≠ 203 → j ≠ 208 → j < 219 → C30 j = cellE (vX X) M0 j := by
    intro j h0 q203 q208 h9
    rw [← hC30]
    rw [cup_ne _ q203]
    exact hF29 j h0 q203 q208 (by omega)
  have hB30 : ∀ j, j < 203 → C30 j = C j := fun j hj => by rw [← hC30, cup_ne _ (by omega)]; exact hB29 j hj
  have f203 : C30 203 = .inr (10, [.ref ((vX X).2.2.2.2.2 + 204), .ref ((vX X).2.2.2.2.2 + 205), .ref ((vX X).2.2.2.2.2 + 206), .int 0, .ref ((vX X).2.2.2.2.2 + 207), .int 0, .ref ((vX X).2.2.2.2.2 + 208), .int 0, .int 0, .ref ((vX X).2.2.2.2.2 + 209), .int 0, .int 0, .ref ((vX X).2.2.2.2.2 + 210), .ref ((vX X).2.2.2.2.2 + 211), .ref ((vX X).2.2.2.2.2 + 212), .ref ((vX X).2.2.2.2.2 + 213), .ref ((vX X).2.2.2.2.2 + 214), .ref ((vX X).2.2.2.2.2 + 215), .ref ((vX X).2.2.2.2.2 + 216), .ref ((vX X).2.2.2.2.2 + 217), .ref ((vX X).2.2.2.2.2 + 218), .null, .null, .null, .int 0, .null, .null, .int 0, .null, .null, .null, .null, .null, .int 0, .null, .null, .null, .int 0, .int 0, .int 0, .null, .null, .null, .null]) := by rw [← hC30, cup_same] <;> rfl
  have f208 : C30 208 = .inl ((vX X).2.2.1, 3, .inl (fun _ => 0)) := by rw [← hC30, cup_ne _ (by decide)]; exact f208
  clear hC30
  refine bm_aload (i := 0) (t := 17) (pc := 127) G dX10_init_127 rfl rfl rfl (by decide) ?_
  refine bm_sipush (pc := 128) G dX10_init_128 (by decide) ?_
  refine bm_newi (pc := 131) G 289 dX10_init_131 (by decide) (hR.le (by decide) (by decide)) ?_
  generalize hC31 : cup C30 219 _ = C31
  have hF31 : ∀ j, 203 ≤ j → j ≠ 203 → j ≠ 208 → j < 220 → C31 j = cellE (vX X) M0 j := by
    intro j h0 q203 q208 h9
    rw [← hC31]
    by_cases h : j = 219
    · subst h; rw [cup_same]; exact (cellZ_i (vX X) (k := 219) (n := 289) rfl (by decide) (by decide)).symm
    · rw [cup_ne _ h]; exact hF30 j h0 q203 q208 (by omega)
  have hB31 : ∀ j, j < 203 → C31 j = C j := fun j hj => by rw [← hC31, cup_ne _ (by omega)]; exact hB30 j hj
  have f203 : C31 203 = .inr (10, [.ref ((vX X).2.2.2.2.2 + 204), .ref ((vX X).2.2.2.2.2 + 205), .ref ((vX X).2.2.2.2.2 + 206), .int 0, .ref ((vX X).2.2.2.2.2 + 207), .int 0, .ref ((vX X).2.2.2.2.2 + 208), .int 0, .int 0, .ref ((vX X).2.2.2.2.2 + 209), .int 0, .int 0, .ref ((vX X).2.2.2.2.2 + 210), .ref ((vX X).2.2.2.2.2 + 211), .ref ((vX X).2.2.2.2.2 + 212), .ref ((vX X).2.2.2.2.2 + 213), .ref ((vX X).2.2.2.2.2 + 214), .ref ((vX X).2.2.2.2.2 + 215), .ref ((vX X).2.2.2.2.2 + 216), .ref ((vX X).2.2.2.2.2 + 217), .ref ((vX X).2.2.2.2.2 + 218), .null, .null, .null, .int 0, .null, .null, .int 0, .null, .null, .null, .null, .null, .int 0, .null, .null, .null, .int 0, .int 0, .int 0, .null, .null, .null, .null]) := by rw [← hC31, cup_ne _ (by decide)]; exact f203
  have f208 : C31 208 = .inl ((vX X).2.2.1, 3, .inl (fun _ => 0)) := by rw [← hC31, cup_ne _ (by decide)]; exact f208
  clear hC31
  refine bm_putR (t := 386) (o := 203) (q := 219) (fs := [.ref ((vX X).2.2.2.2.2 + 204), .ref ((vX X).2.2.2.2.2 + 205), .ref ((vX X).2.2.2.2.2 + 206), .int 0, .ref ((vX X).2.2.2.2.2 + 207), .int 0, .ref ((vX X).2.2.2.2.2 + 208), .int 0, .int 0, .ref ((vX X).2.2.2.2.2 + 209), .int 0, .int 0, .ref ((vX X).2.2.2.2.2 + 210), .ref ((vX X).2.2.2.2.2 + 211), .ref ((vX X).2.2.2.2.2 + 212), .ref ((vX X).2.2.2.2.2 + 213), .ref ((vX X).2.2.2.2.2 + 214), .ref ((vX X).2.2.2.2.2 + 215), .ref ((vX X).2.2.2.2.2 + 216), .ref ((vX X).2.2.2.2.2 + 217), .ref ((vX X).2.2.2.2.2 + 218), .null, .null, .null, .int 0, .null, .null, .int 0, .null, .null, .null, .null, .null, .int 0, .null, .null, .null, .int 0, .int 0, .int 0, .null, .null, .null, .null]) (pc := 133) G hi 10 21 dX10_init_133 rfl inX10 tyX10_ok nmX10 (by decide) tw_f_RX10_55 rfl rfl rfl (by decide) f203 (Nat.le_of_ble_eq_true rfl) (fun _ => rfl) (fun _ => rfl) ?_
  generalize hC32 : cup C31 203 _ = C32
  have hF32 : ∀ j, 203 ≤ j → j ≠ 203 → j ≠ 208 → j < 220 → C32 j = cellE (vX X) M0 j := by
    intro j h0 q203 q208 h9
    rw [← hC32]
    rw [cup_ne _ q203]
    exact hF31 j h0 q203 q208 (by omega)
  have hB32 : ∀ j, j < 203 → C32 j = C j := fun j hj => by rw [← hC32, cup_ne _ (by omega)]; exact hB31 j hj
  have f203 : C32 203 = .inr (10, [.ref ((vX X).2.2.2.2.2 + 204), .ref ((vX X).2.2.2.2.2 + 205), .ref ((vX X).2.2.2.2.2 + 206), .int 0, .ref ((vX X).2.2.2.2.2 + 207), .int 0, .ref ((vX X).2.2.2.2.2 + 208), .int 0, .int 0, .ref ((vX X).2.2.2.2.2 + 209), .int 0, .int 0, .ref ((vX X).2.2.2.2.2 + 210), .ref ((vX X).2.2.2.2.2 + 211), .ref ((vX X).2.2.2.2.2 + 212), .ref ((vX X).2.2.2.2.2 + 213), .ref ((vX X).2.2.2.2.2 + 214), .ref ((vX X).2.2.2.2.2 + 215), .ref ((vX X).2.2.2.2.2 + 216), .ref ((vX X).2.2.2.2.2 + 217), .ref ((vX X).2.2.2.2.2 + 218), .ref ((vX X).2.2.2.2.2 + 219), .null, .null, .int 0, .null, .null, .int 0, .null, .null, .null, .null, .null, .int 0, .null, .null, .null, .int 0, .int 0, .int 0, .null, .null, .null, .null]) := by rw [← hC32, cup_same] <;> rfl
  have f208 : C32 208 = .inl ((vX X).2.2.1, 3, .inl (fun _ => 0)) := by rw [← hC32, cup_ne _ (by decide)]; exact f208
  clear hC32
  refine bm_aload (i := 0) (t := 17) (pc := 136) G dX10_init_136 rfl rfl rfl (by decide) ?_
  refine bm_bipush (pc := 137) G dX10_init_137 (by decide) ?_
  refine bm_newi (pc := 139) G 16 dX10_init_139 (by decide) (hR.le (by decide) (by decide)) ?_
  generalize hC33 : cup C32 220 _ = C33
  have hF33 : ∀ j, 203 ≤ j → j ≠ 203 → j ≠ 208 → j < 221 → C33 j = cellE (vX X) M0 j := by
    intro j h0 q203 q208 h9
    rw [← hC33]
    by_cases h : j = 220
    · subst h; rw [cup_same]; exact (cellZ_i (vX X) (k := 220) (n := 16) rfl (by decide) (by decide)).symm
    · rw [cup_ne _ h]; exact hF32 j h0 q203 q208 (by omega)
  have hB33 : ∀ j, j < 203 → C33 j = C j := fun j hj => by rw [← hC33, cup_ne _ (by omega)]; exact hB32 j hj
  have f203 : C33 203 = .inr (10, [.ref ((vX X).2.2.2.2.2 + 204), .ref ((vX X).2.2.2.2.2 + 205), .ref ((vX X).2.2.2.2.2 + 206), .int 0, .ref ((vX X).2.2.2.2.2 + 207), .int 0, .ref ((vX X).2.2.2.2.2 + 208), .int 0, .int 0, .ref ((vX X).2.2.2.2.2 + 209), .int 0, .int 0, .ref ((vX X).2.2.2.2.2 + 210), .ref ((vX X).2.2.2.2.2 + 211), .ref ((vX X).2.2.2.2.2 + 212), .ref ((vX X).2.2.2.2.2 + 213), .ref ((vX X).2.2.2.2.2 + 214), .ref ((vX X).2.2.2.2.2 + 215), .ref ((vX X).2.2.2.2.2 + 216), .ref ((vX X).2.2.2.2.2 + 217), .ref ((vX X).2.2.2.2.2 + 218), .ref ((vX X).2.2.2.2.2 + 219), .null, .null, .int 0, .null, .null, .int 0, .null, .null, .null, .null, .null, .int 0, .null, .null, .null, .int 0, .int 0, .int 0, .null, .null, .null, .null]) := by rw [← hC33, cup_ne _ (by decide)]; exact f203
  have f208 : C33 208 = .inl ((vX X).2.2.1, 3, .inl (fun _ => 0)) := by rw [← hC33, cup_ne _ (by decide)]; exact f208
  clear hC33
  refine bm_putR (t := 113) (o := 203) (q := 220) (fs := [.ref ((vX X).2.2.2.2.2 + 204), .ref ((vX X).2.2.2.2.2 + 205), .ref ((vX X).2.2.2.2.2 + 206), .int 0, .ref ((vX X).2.2.2.2.2 + 207), .int 0, .ref ((vX X).2.2.2.2.2 + 208), .int 0, .int 0, .ref ((vX X).2.2.2.2.2 + 209), .int 0, .int 0, .ref ((vX X).2.2.2.2.2 + 210), .ref ((vX X).2.2.2.2.2 + 211), .ref ((vX X).2.2.2.2.2 + 212), .ref ((vX X).2.2.2.2.2 + 213), .ref ((vX X).2.2.2.2.2 + 214), .ref ((vX X).2.2.2.2.2 + 215), .ref ((vX X).2.2.2.2.2 + 216), .ref ((vX X).2.2.2.2.2 + 217), .ref ((vX X).2.2.2.2.2 + 218), .ref ((vX X).2.2.2.2.2 + 219), .null, .null, .int 0, .null, .null, .int 0, .null, .null, .null, .null, .null, .int 0, .null, .null, .null, .int 0, .int 0, .int 0, .null, .null, .null, .null]) (pc := 141) G hi 10 22 dX10_init_141 rfl inX10 tyX10_ok nmX10 (by decide) tw_f_RX10_58 rfl rfl rfl (by decide) f203 (Nat.le_of_ble_eq_true rfl) (fun _ => rfl) (fun _ => rfl) ?_
  generalize hC34 : cup C33 203 _ = C34
  have hF34 : ∀ j, 203 ≤ j → j ≠ 203 → j ≠ 208 → j < 221 → C34 j = cellE (vX X) M0 j := by
    intro j h0 q203 q208 h9
    rw [← hC34]
    rw [cup_ne _ q203]
    exact hF33 j h0 q203 q208 (by omega)
  have hB34 : ∀ j, j < 203 → C34 j = C j := fun j hj => by rw [← hC34, cup_ne _ (by omega)]; exact hB33 j hj
  have f203 : C34 203 = .inr (10, [.ref ((vX X).2.2.2.2.2 + 204), .ref ((vX X).2.2.2.2.2 + 205), .ref ((vX X).2.2.2.2.2 + 206), .int 0, .ref ((vX X).2.2.2.2.2 + 207), .int 0, .ref ((vX X).2.2.2.2.2 + 208), .int 0, .int 0, .ref ((vX X).2.2.2.2.2 + 209), .int 0, .int 0, .ref ((vX X).2.2.2.2.2 + 210), .ref ((vX X).2.2.2.2.2 + 211), .ref ((vX X).2.2.2.2.2 + 212), .ref ((vX X).2.2.2.2.2 + 213), .ref ((vX X).2.2.2.2.2 + 214), .ref ((vX X).2.2.2.2.2 + 215), .ref ((vX X).2.2.2.2.2 + 216), .ref ((vX X).2.2.2.2.2 + 217), .ref ((vX X).2.2.2.2.2 + 218), .ref ((vX X).2.2.2.2.2 + 219), .ref ((vX X).2.2.2.2.2 + 220), .null, .int 0, .null, .null, .int 0, .null, .null, .null, .null, .null, .int 0, .null, .null, .null, .int 0, .int 0, .int 0, .null, .null, .null, .null]) := by rw [← hC34, cup_same] <;> rfl
  have f208 : C34 208 = .inl ((vX X).2.2.1, 3, .inl (fun _ => 0)) := by rw [← hC34, cup_ne _ (by decide)]; exact f208
  clear hC34
  refine bm_aload (i := 0) (t := 17) (pc := 144) G dX10_init_144 rfl rfl rfl (by decide) ?_
  refine bm_bipush (pc := 145) G dX10_init_145 (by decide) ?_
  refine bm_newi (pc := 147) G 16 dX10_init_147 (by decide) (hR.le (by decide) (by decide)) ?_
  generalize hC35 : cup C34 221 _ = C35
  have hF35 : ∀ j, 203 ≤ j → j ≠ 203 → j ≠ 208 → j < 222 → C35 j = cellE (vX X) M0 j := by
    intro j h0 q203 q208 h9
    rw [← hC35]
    by_cases h : j = 221
    · subst h; rw [cup_same]; exact (cellZ_i (vX X) (k := 221) (n := 16) rfl (by decide) (by decide)).symm
    · rw [cup_ne _ h]; exact hF34 j h0 q203 q208 (by omega)
  have hB35 : ∀ j, j < 203 → C35 j = C j := fun j hj => by rw [← hC35, cup_ne _ (by omega)]; exact hB34 j hj
  have f203 : C35 203 = .inr (10, [.ref ((vX X).2.2.2.2.2 + 204), .ref ((vX X).2.2.2.2.2 + 205), .ref ((vX X).2.2.2.2.2 + 206), .int 0, .ref ((vX X).2.2.2.2.2 + 207), .int 0, .ref ((vX X).2.2.2.2.2 + 208), .int 0, .int 0, .ref ((vX X).2.2.2.2.2 + 209), .int 0, .int 0, .ref ((vX X).2.2.2.2.2 + 210), .ref ((vX X).2.2.2.2.2 + 211), .ref ((vX X).2.2.2.2.2 + 212), .ref ((vX X).2.2.2.2.2 + 213), .ref ((vX X).2.2.2.2.2 + 214), .ref ((vX X).2.2.2.2.2 + 215), .ref ((vX X).2.2.2.2.2 + 216), .ref ((vX X).2.2.2.2.2 + 217), .ref ((vX X).2.2.2.2.2 + 218), .ref ((vX X).2.2.2.2.2 + 219), .ref ((vX X).2.2.2.2.2 + 220), .null, .int 0, .null, .null, .int 0, .null, .null, .null, .null, .null, .int 0, .null, .null, .null, .int 0, .int 0, .int 0, .null, .null, .null, .null]) := by rw [← hC35, cup_ne _ (by decide)]; exact f203
  have f208 : C35 208 = .inl ((vX X).2.2.1, 3, .inl (fun _ => 0)) := by rw [← hC35, cup_ne _ (by decide)]; exact f208
  clear hC35
  refine bm_putR (t := 113) (o := 203) (q := 221) (fs := [.ref ((vX X).2.2.2.2.2 + 204), .ref ((vX X).2.2.2.2.2 + 205), .ref ((vX X).2.2.2.2.2 + 206), .int 0, .ref ((vX X).2.2.2.2.2 + 207), .int 0, .ref ((vX X).2.2.2.2.2 + 208), .int 0, .int 0, .ref ((vX X).2.2.2.2.2 + 209), .int 0, .int 0, .ref ((vX X).2.2.2.2.2 + 210), .ref ((vX X).2.2.2.2.2 + 211), .ref ((vX X).2.2.2.2.2 + 212), .ref ((vX X).2.2.2.2.2 + 213), .ref ((vX X).2.2.2.2.2 + 214), .ref ((vX X).2.2.2.2.2 + 215), .ref ((vX X).2.2.2.2.2 + 216), .ref ((vX X).2.2.2.2.2 + 217), .ref ((vX X).2.2.2.2.2 + 218), .ref ((vX X).2.2.2.2.2 + 219), .ref ((vX X).2.2.2.2.2 + 220), .null, .int 0, .null, .null, .int 0, .null, .null, .null, .null, .null, .int 0, .null, .null, .null, .int 0, .int 0, .int 0, .null, .null, .null, .null]) (pc := 149) G hi 10 23 dX10_init_149 rfl inX10 tyX10_ok nmX10 (by decide) tw_f_RX10_61 rfl rfl rfl (by decide) f203 (Nat.le_of_ble_eq_true rfl) (fun _ => rfl) (fun _ => rfl) ?_
  generalize hC36 : cup C35 203 _ = C36
  have hF36 : ∀ j, 203 ≤ j → j ≠ 203 → j ≠ 208 → j < 222 → C36 j = cellE (vX X) M0 j := by
    intro j h0 q203 q208 h9
    rw [← hC36]
    rw [cup_ne _ q203]
    exact hF35 j h0 q203 q208 (by omega)
  have hB36 : ∀ j, j < 203 → C36 j = C j := fun j hj => by rw [← hC36, cup_ne _ (by omega)]; exact hB35 j hj
  have f203 : C36 203 = .inr (10, [.ref ((vX X).2.2.2.2.2 + 204), .ref ((vX X).2.2.2.2.2 + 205), .ref ((vX X).2.2.2.2.2 + 206), .int 0, .ref ((vX X).2.2.2.2.2 + 207), .int 0, .ref ((vX X).2.2.2.2.2 + 208), .int 0, .int 0, .ref ((vX X).2.2.2.2.2 + 209), .int 0, .int 0, .ref ((vX X).2.2.2.2.2 + 210), .ref ((vX X).2.2.2.2.2 + 211), .ref ((vX X).2.2.2.2.2 + 212), .ref ((vX X).2.2.2.2.2 + 213), .ref ((vX X).2.2.2.2.2 + 214), .ref ((vX X).2.2.2.2.2 + 215), .ref ((vX X).2.2.2.2.2 + 216), .ref ((vX X).2.2.2.2.2 + 217), .ref ((vX X).2.2.2.2.2 + 218), .ref ((vX X).2.2.2.2.2 + 219), .ref ((vX X).2.2.2.2.2 + 220), .ref ((vX X).2.2.2.2.2 + 221), .int 0, .null, .null, .int 0, .null, .null, .null, .null, .null, .int 0, .null, .null, .null, .int 0, .int 0, .int 0, .null, .null, .null, .null]) := by rw [← hC36, cup_same] <;> rfl
  have f208 : C36 208 = .inl ((vX X).2.2.1, 3, .inl (fun _ => 0)) := by rw [← hC36, cup_ne _ (by decide)]; exact f208
  clear hC36
  refine bm_aload (i := 0) (t := 17) (pc := 152) G dX10_init_152 rfl rfl rfl (by decide) ?_
  refine bm_bipush (pc := 153) G dX10_init_153 (by decide) ?_
  refine bm_newi (pc := 155) G 16 dX10_init_155 (by decide) (hR.le (by decide) (by decide)) ?_
  generalize hC37 : cup C36 222 _ = C37
  have hF37 : ∀ j, 203 ≤ j → j ≠ 203 → j ≠ 208 → j < 223 → C37 j = cellE (vX X) M0 j := by
    intro j h0 q203 q208 h9
    rw [← hC37]
    by_cases h : j = 222
    · subst h; rw [cup_same]; exact (cellZ_i (vX X) (k := 222) (n := 16) rfl (by decide) (by decide)).symm
    · rw [cup_ne _ h]; exact hF36 j h0 q203 q208 (by omega)
  have hB37 : ∀ j, j < 203 → C37 j = C j := fun j hj => by rw [← hC37, cup_ne _ (by omega)]; exact hB36 j hj
  have f203 : C37 203 = .inr (10, [.ref ((vX X).2.2.2.2.2 + 204), .ref ((vX X).2.2.2.2.2 + 205), .ref ((vX X).2.2.2.2.2 + 206), .int 0, .ref ((vX X).2.2.2.2.2 + 207), .int 0, .ref ((vX X).2.2.2.2.2 + 208), .int 0, .int 0, .ref ((vX X).2.2.2.2.2 + 209), .int 0, .int 0, .ref ((vX X).2.2.2.2.2 + 210), .ref ((vX X).2.2.2.2.2 + 211), .ref ((vX X).2.2.2.2.2 + 212), .ref ((vX X).2.2.2.2.2 + 213), .ref ((vX X).2.2.2.2.2 + 214), .ref ((vX X).2.2.2.2.2 + 215), .ref ((vX X).2.2.2.2.2 + 216), .ref ((vX X).2.2.2.2.2 + 217), .ref ((vX X).2.2.2.2.2 + 218), .ref ((vX X).2.2.2.2.2 + 219), .ref ((vX X).2.2.2.2.2 + 220), .ref ((vX X).2.2.2.2.2 + 221), .int 0, .null, .null, .int 0, .null, .null, .null, .null, .null, .int 0, .null, .null, .null, .int 0, .int 0, .int 0, .null, .null, .null, .null]) := by rw [← hC37, cup_ne _ (by decide)]; exact f203
  have f208 : C37 208 = .inl ((vX X).2.2.1, 3, .inl (fun _ => 0)) := by rw [← hC37, cup_ne _ (by decide)]; exact f208
  clear hC37
  refine bm_putR (t := 113) (o := 203) (q := 222) (fs := [.ref ((vX X).2.2.2.2.2 + 204), .ref ((vX X).2.2.2.2.2 + 205), .ref ((vX X).2.2.2.2.2 + 206), .int 0, .ref ((vX X).2.2.2.2.2 + 207), .int 0, .ref ((vX X).2.2.2.2.2 + 208), .int 0, .int 0, .ref ((vX X).2.2.2.2.2 + 209), .int 0, .int 0, .ref ((vX X).2.2.2.2.2 + 210), .ref ((vX X).2.2.2.2.2 + 211), .ref ((vX X).2.2.2.2.2 + 212), .ref ((vX X).2.2.2.2.2 + 213), .ref ((vX X).2.2.2.2.2 + 214), .ref ((vX X).2.2.2.2.2 + 215), .ref ((vX X).2.2.2.2.2 + 216), .ref ((vX X).2.2.2.2.2 + 217), .ref ((vX X).2.2.2.2.2 + 218), .ref ((vX X).2.2.2.2.2 + 219), .ref ((vX X).2.2.2.2.2 + 220), .ref ((vX X).2.2.2.2.2 + 221), .int 0, .null, .null, .int 0, .null, .null, .null, .null, .null, .int 0, .null, .null, .null, .int 0, .int 0, .int 0, .null, .null, .null, .null]) (pc := 157) G hi 10 25 dX10_init_157 rfl inX10 tyX10_ok nmX10 (by decide) tw_f_RX10_64 rfl rfl rfl (by decide) f203 (Nat.le_of_ble_eq_true rfl) (fun _ => rfl) (fun _ => rfl) ?_
  generalize hC38 : cup C37 203 _ = C38
  have hF38 : ∀ j, 203 ≤ j → j ≠ 203 → j ≠ 208 → j < 223 → C38 j = cellE (vX X) M0 j := by
    intro j h0 q203 q208 h9
    rw [← hC38]
    rw [cup_ne _ q203]
    exact hF37 j h0 q203 q208 (by omega)
  have hB38 : ∀ j, j < 203 → C38 j = C j := fun j hj => by rw [← hC38, cup_ne _ (by omega)]; exact hB37 j hj
  have f203 : C38 203 = .inr (10, [.ref ((vX X).2.2.2.2.2 + 204), .ref ((vX X).2.2.2.2.2 + 205), .ref ((vX X).2.2.2.2.2 + 206), .int 0, .ref ((vX X).2.2.2.2.2 + 207), .int 0, .ref ((vX X).2.2.2.2.2 + 208), .int 0, .int 0, .ref ((vX X).2.2.2.2.2 + 209), .int 0, .int 0, .ref ((vX X).2.2.2.2.2 + 210), .ref ((vX X).2.2.2.2.2 + 211), .ref ((vX X).2.2.2.2.2 + 212), .ref ((vX X).2.2.2.2.2 + 213), .ref ((vX X).2.2.2.2.2 + 214), .ref ((vX X).2.2.2.2.2 + 215), .ref ((vX X).2.2.2.2.2 + 216), .ref ((vX X).2.2.2.2.2 + 217), .ref ((vX X).2.2.2.2.2 + 218), .ref ((vX X).2.2.2.2.2 + 219), .ref ((vX X).2.2.2.2.2 + 220), .ref ((vX X).2.2.2.2.2 + 221), .int 0, .ref ((vX X).2.2.2.2.2 + 222), .null, .int 0, .null, .null, .null, .null, .null, .int 0, .null, .null, .null, .int 0, .int 0, .int 0, .null, .null, .null, .null]) := by rw [← hC38, cup_same] <;> rfl
  have f208 : C38 208 = .inl ((vX X).2.2.1, 3, .inl (fun _ => 0)) := by rw [← hC38, cup_ne _ (by decide)]; exact f208
  clear hC38
  refine bm_aload (i := 0) (t := 17) (pc := 160) G dX10_init_160 rfl rfl rfl (by decide) ?_
  refine bm_bipush (pc := 161) G dX10_init_161 (by decide) ?_
  refine bm_newi (pc := 163) G 16 dX10_init_163 (by decide) (hR.le (by decide) (by decide)) ?_
  generalize hC39 : cup C38 223 _ = C39
  have hF39 : ∀ j, 203 ≤ j → j ≠ 203 → j ≠ 208 → j < 224 → C39 j = cellE (vX X) M0 j := by
    intro j h0 q203 q208 h9
    rw [← hC39]
    by_cases h : j = 223
    · subst h; rw [cup_same]; exact (cellZ_i (vX X) (k := 223) (n := 16) rfl (by decide) (by decide)).symm
    · rw [cup_ne _ h]; exact hF38 j h0 q203 q208 (by omega)
  have hB39 : ∀ j, j < 203 → C39 j = C j := fun j hj => by rw [← hC39, cup_ne _ (by omega)]; exact hB38 j hj
  have f203 : C39 203 = .inr (10, [.ref ((vX X).2.2.2.2.2 + 204), .ref ((vX X).2.2.2.2.2 + 205), .ref ((vX X).2.2.2.2.2 + 206), .int 0, .ref ((vX X).2.2.2.2.2 + 207), .int 0, .ref ((vX X).2.2.2.2.2 + 208), .int 0, .int 0, .ref ((vX X).2.2.2.2.2 + 209), .int 0, .int 0, .ref ((vX X).2.2.2.2.2 + 210), .ref ((vX X).2.2.2.2.2 + 211), .ref ((vX X).2.2.2.2.2 + 212), .ref ((vX X).2.2.2.2.2 + 213), .ref ((vX X).2.2.2.2.2 + 214), .ref ((vX X).2.2.2.2.2 + 215), .ref ((vX X).2.2.2.2.2 + 216), .ref ((vX X).2.2.2.2.2 + 217), .ref ((vX X).2.2.2.2.2 + 218), .ref ((vX X).2.2.2.2.2 + 219), .ref ((vX X).2.2.2.2.2 + 220), .ref ((vX X).2.2.2.2.2 + 221), .int 0, .ref ((vX X).2.2.2.2.2 + 222), .null, .int 0, .null, .null, .null, .null, .null, .int 0, .null, .null, .null, .int 0, .int 0, .int 0, .null, .null, .null, .null]) := by rw [← hC39, cup_ne _ (by decide)]; exact f203
  have f208 : C39 208 = .inl ((vX X).2.2.1, 3, .inl (fun _ => 0)) := by rw [← hC39, cup_ne _ (by decide)]; exact f208
  clear hC39
  refine bm_putR (t := 113) (o := 203) (q := 223) (fs := [.ref ((vX X).2.2.2.2.2 + 204), .ref ((vX X).2.2.2.2.2 + 205), .ref ((vX X).2.2.2.2.2 + 206), .int 0, .ref ((vX X).2.2.2.2.2 + 207), .int 0, .ref ((vX X).2.2.2.2.2 + 208), .int 0, .int 0, .ref ((vX X).2.2.2.2.2 + 209), .int 0, .int 0, .ref ((vX X).2.2.2.2.2 + 210), .ref ((vX X).2.2.2.2.2 + 211), .ref ((vX X).2.2.2.2.2 + 212), .ref ((vX X).2.2.2.2.2 + 213), .ref ((vX X).2.2.2.2.2 + 214), .ref ((vX X).2.2.2.2.2 + 215), .ref ((vX X).2.2.2.2.2 + 216), .ref ((vX X).2.2.2.2.2 + 217), .ref ((vX X).2.2.2.2.2 + 218), .ref ((vX X).2.2.2.2.2 + 219), .ref ((vX X).2.2.2.2.2 + 220), .ref ((vX X).2.2.2.2.2 + 221), .int 0, .ref ((vX X).2.2.2.2.2 + 222), .null, .int 0, .null, .null, .null, .null, .null, .int 0, .null, .null, .null, .int 0, .int 0, .int 0, .null, .null, .null, .null]) (pc := 165) G hi 10 26 dX10_init_165 rfl inX10 tyX10_ok nmX10 (by decide) tw_f_RX10_67 rfl rfl rfl (by decide) f203 (Nat.le_of_ble_eq_true rfl) (fun _ => rfl) (fun _ => rfl) ?_
  generalize hC40 : cup C39 203 _ = C40
  have hF40 : ∀ j, 203 ≤ j → j ≠ 203 → j ≠ 208 → j < 224 → C40 j = cellE (vX X) M0 j := by
    intro j h0 q203 q208 h9
    rw [← hC40]
    rw [cup_ne _ q203]
    exact hF39 j h0 q203 q208 (by omega)
  have hB40 : ∀ j, j < 203 → C40 j = C j := fun j hj => by rw [← hC40, cup_ne _ (by omega)]; exact hB39 j hj
  have f203 : C40 203 = .inr (10, [.ref ((vX X).2.2.2.2.2 + 204), .ref ((vX X).2.2.2.2.2 + 205), .ref ((vX X).2.2.2.2.2 + 206), .int 0, .ref ((vX X).2.2.2.2.2 + 207), .int 0, .ref ((vX X).2.2.2.2.2 + 208), .int 0, .int 0, .ref ((vX X).2.2.2.2.2 + 209), .int 0, .int 0, .ref ((vX X).2.2.2.2.2 + 210), .ref ((vX X).2.2.2.2.2 + 211), .ref ((vX X).2.2.2.2.2 + 212), .ref ((vX X).2.2.2.2.2 + 213), .ref ((vX X).2.2.2.2.2 + 214), .ref ((vX X).2.2.2.2.2 + 215), .ref ((vX X).2.2.2.2.2 + 216), .ref ((vX X).2.2.2.2.2 + 217), .ref ((vX X).2.2.2.2.2 + 218), .ref ((vX X).2.2.2.2.2 + 219), .ref ((vX X).2.2.2.2.2 + 220), .ref ((vX X).2.2.2.2.2 + 221), .int 0, .ref ((vX X).2.2.2.2.2 + 222), .ref ((vX X).2.2.2.2.2 + 223), .int 0, .null, .null, .null, .null, .null, .int 0, .null, .null, .null, .int 0, .int 0, .int 0, .null, .null, .null, .null]) := by rw [← hC40, cup_same] <;> rfl
  have f208 : C40 208 = .inl ((vX X).2.2.1, 3, .inl (fun _ => 0)) := by rw [← hC40, cup_ne _ (by decide)]; exact f208
  clear hC40
  refine bm_aload (i := 0) (t := 17) (pc := 168) G dX10_init_168 rfl rfl rfl (by decide) ?_
  refine bm_bipush (pc := 169) G dX10_init_169 (by decide) ?_
  refine bm_newi (pc := 171) G 64 dX10_init_171 (by decide) (hR.le (by decide) (by decide)) ?_
  generalize hC41 : cup C40 224 _ = C41
  have hF41 : ∀ j, 203 ≤ j → j ≠ 203 → j ≠ 208 → j < 225 → C41 j = cellE (vX X) M0 j := by
    intro j h0 q203 q208 h9
    rw [← hC41]
    by_cases h : j = 224
    · subst h; rw [cup_same]; exact (cellZ_i (vX X) (k := 224) (n := 64) rfl (by decide) (by decide)).symm
    · rw [cup_ne _ h]; exact hF40 j h0 q203 q208 (by omega)
  have hB41 : ∀ j, j < 203 → C41 j = C j := fun j hj => by rw [← hC41, cup_ne _ (by omega)]; exact hB40 j hj
  have f203 : C41 203 = .inr (10, [.ref ((vX X).2.2.2.2.2 + 204), .ref ((vX X).2.2.2.2.2 + 205), .ref ((vX X).2.2.2.2.2 + 206), .int 0, .ref ((vX X).2.2.2.2.2 + 207), .int 0, .ref ((vX X).2.2.2.2.2 + 208), .int 0, .int 0, .ref ((vX X).2.2.2.2.2 + 209), .int 0, .int 0, .ref ((vX X).2.2.2.2.2 + 210), .ref ((vX X).2.2.2.2.2 + 211), .ref ((vX X).2.2.2.2.2 + 212), .ref ((vX X).2.2.2.2.2 + 213), .ref ((vX X).2.2.2.2.2 + 214), .ref ((vX X).2.2.2.2.2 + 215), .ref ((vX X).2.2.2.2.2 + 216), .ref ((vX X).2.2.2.2.2 + 217), .ref ((vX X).2.2.2.2.2 + 218), .ref ((vX X).2.2.2.2.2 + 219), .ref ((vX X).2.2.2.2.2 + 220), .ref ((vX X).2.2.2.2.2 + 221), .int 0, .ref ((vX X).2.2.2.2.2 + 222), .ref ((vX X).2.2.2.2.2 + 223), .int 0, .null, .null, .null, .null, .null, .int 0, .null, .null, .null, .int 0, .int 0, .int 0, .null, .null, .null, .null]) := by rw [← hC41, cup_ne _ (by decide)]; exact f203
  have f208 : C41 208 = .inl ((vX X).2.2.1, 3, .inl (fun _ => 0)) := by rw [← hC41, cup_ne _ (by decide)]; exact f208
  clear hC41
  refine bm_putR (t := 161) (o := 203) (q := 224) (fs := [.ref ((vX X).2.2.2.2.2 + 204), .ref ((vX X).2.2.2.2.2 + 205), .ref ((vX X).2.2.2.2.2 + 206), .int 0, .ref ((vX X).2.2.2.2.2 + 207), .int 0, .ref ((vX X).2.2.2.2.2 + 208), .int 0, .int 0, .ref ((vX X).2.2.2.2.2 + 209), .int 0, .int 0, .ref ((vX X).2.2.2.2.2 + 210), .ref ((vX X).2.2.2.2.2 + 211), .ref ((vX X).2.2.2.2.2 + 212), .ref ((vX X).2.2.2.2.2 + 213), .ref ((vX X).2.2.2.2.2 + 214), .ref ((vX X).2.2.2.2.2 + 215), .ref ((vX X).2.2.2.2.2 + 216), .ref ((vX X).2.2.2.2.2 + 217), .ref ((vX X).2.2.2.2.2 + 218), .ref ((vX X).2.2.2.2.2 + 219), .ref ((vX X).2.2.2.2.2 + 220), .ref ((vX X).2.2.2.2.2 + 221), .int 0, .ref ((vX X).2.2.2.2.2 + 222), .ref ((vX X).2.2.2.2.2 + 223), .int 0, .null, .null, .null, .null, .null, .int 0, .null, .null, .null, .int 0, .int 0, .int 0, .null, .null, .null, .null]) (pc := 173) G hi 10 28 dX10_init_173 rfl inX10 tyX10_ok nmX10 (by decide) tw_f_RX10_70 rfl rfl rfl (by decide) f203 (Nat.le_of_ble_eq_true rfl) (fun _ => rfl) (fun _ => rfl) ?_
  generalize hC42 : cup C41 203 _ = C42
  have hF42 : ∀ j, 203 ≤ j → j ≠ 203 → j ≠ 208 → j < 225 → C42 j = cellE (vX X) M0 j := by
    intro j h0 q203 q208 h9
    rw [← hC42]
    rw [cup_ne _ q203]
    exact hF41 j h0 q203 q208 (by omega)
  have hB42 : ∀ j, j < 203 → C42 j = C j := fun j hj => by rw [← hC42, cup_ne _ (by omega)]; exact hB41 j hj
  have f203 : C42 203 = .inr (10, [.ref ((vX X).2.2.2.2.2 + 204), .ref ((vX X).2.2.2.2.2 + 205), .ref ((vX X).2.2.2.2.2 + 206), .int 0, .ref ((vX X).2.2.2.2.2 + 207), .int 0, .ref ((vX X).2.2.2.2.2 + 208), .int 0, .int 0, .ref ((vX X).2.2.2.2.2 + 209), .int 0, .int 0, .ref ((vX X).2.2.2.2.2 + 210), .ref ((vX X).2.2.2.2.2 + 211), .ref ((vX X).2.2.2.2.2 + 212), .ref ((vX X).2.2.2.2.2 + 213), .ref ((vX X).2.2.2.2.2 + 214), .ref ((vX X).2.2.2.2.2 + 215), .ref ((vX X).2.2.2.2.2 + 216), .ref ((vX X).2.2.2.2.2 + 217), .ref ((vX X).2.2.2.2.2 + 218), .ref ((vX X).2.2.2.2.2 + 219), .ref ((vX X).2.2.2.2.2 + 220), .ref ((vX X).2.2.2.2.2 + 221), .int 0, .ref ((vX X).2.2.2.2.2 + 222), .ref ((vX X).2.2.2.2.2 + 223), .int 0, .ref ((vX X).2.2.2.2.2 + 224), .null, .null, .null, .null, .int 0, .null, .null, .null, .int 0, .int 0, .int 0, .null, .null, .null, .null]) := by rw [← hC42, cup_same] <;> rfl
  have f208 : C42 208 = .inl ((vX X).2.2.1, 3, .inl (fun _ => 0)) := by rw [← hC42, cup_ne _ (by decide)]; exact f208
  clear hC42
  refine bm_aload (i := 0) (t := 17) (pc := 176) G dX10_init_176 rfl rfl rfl (by decide) ?_
  refine bm_bipush (pc := 177) G dX10_init_177 (by decide) ?_
  refine bm_newi (pc := 179) G 64 dX10_init_179 (by decide) (hR.le (by decide) (by decide)) ?_
  generalize hC43 : cup C42 225 _ = C43
  have hF43 : ∀ j, 203 ≤ j → j ≠ 203 → j ≠ 208 → j < 226 → C43 j = cellE (vX X) M0 j := by
    intro j h0 q203 q208 h9
    rw [← hC43]
    by_cases h : j = 225
    · subst h; rw [cup_same]; exact (cellZ_i (vX X) (k := 225) (n := 64) rfl (by decide) (by decide)).symm
    · rw [cup_ne _ h]; exact hF42 j h0 q203 q208 (by omega)
  have hB43 : ∀ j, j < 203 → C43 j = C j := fun j hj => by rw [← hC43, cup_ne _ (by omega)]; exact hB42 j hj
  have f203 : C43 203 = .inr (10, [.ref ((vX X).2.2.2.2.2 + 204), .ref ((vX X).2.2.2.2.2 + 205), .ref ((vX X).2.2.2.2.2 + 206), .int 0, .ref ((vX X).2.2.2.2.2 + 207), .int 0, .ref ((vX X).2.2.2.2.2 + 208), .int 0, .int 0, .ref ((vX X).2.2.2.2.2 + 209), .int 0, .int 0, .ref ((vX X).2.2.2.2.2 + 210), .ref ((vX X).2.2.2.2.2 + 211), .ref ((vX X).2.2.2.2.2 + 212), .ref ((vX X).2.2.2.2.2 + 213), .ref ((vX X).2.2.2.2.2 + 214), .ref ((vX X).2.2.2.2.2 + 215), .ref ((vX X).2.2.2.2.2 + 216), .ref ((vX X).2.2.2.2.2 + 217), .ref ((vX X).2.2.2.2.2 + 218), .ref ((vX X).2.2.2.2.2 + 219), .ref ((vX X).2.2.2.2.2 + 220), .ref ((vX X).2.2.2.2.2 + 221), .int 0, .ref ((vX X).2.2.2.2.2 + 222), .ref ((vX X).2.2.2.2.2 + 223), .int 0, .ref ((vX X).2.2.2.2.2 + 224), .null, .null, .null, .null, .int 0, .null, .null, .null, .int 0, .int 0, .int 0, .null, .null, .null, .null]) := by rw [← hC43, cup_ne _ (by decide)]; exact f203
  have f208 : C43 208 = .inl ((vX X).2.2.1, 3, .inl (fun _ => 0)) := by rw [← hC43, cup_ne _ (by decide)]; exact f208
  clear hC43
  refine bm_putR (t := 161) (o := 203) (q := 225) (fs := [.ref ((vX X).2.2.2.2.2 + 204), .ref ((vX X).2.2.2.2.2 + 205), .ref ((vX X).2.2.2.2.2 + 206), .int 0, .ref ((vX X).2.2.2.2.2 + 207), .int 0, .ref ((vX X).2.2.2.2.2 + 208), .int 0, .int 0, .ref ((vX X).2.2.2.2.2 + 209), .int 0, .int 0, .ref ((vX X).2.2.2.2.2 + 210), .ref ((vX X).2.2.2.2.2 + 211), .ref ((vX X).2.2.2.2.2 + 212), .ref ((vX X).2.2.2.2.2 + 213), .ref ((vX X).2.2.2.2.2 + 214), .ref ((vX X).2.2.2.2.2 + 215), .ref ((vX X).2.2.2.2.2 + 216), .ref ((vX X).2.2.2.2.2 + 217), .ref ((vX X).2.2.2.2.2 + 218), .ref ((vX X).2.2.2.2.2 + 219), .ref ((vX X).2.2.2.2.2 + 220), .ref ((vX X).2.2.2.2.2 + 221), .int 0, .ref ((vX X).2.2.2.2.2 + 222), .ref ((vX X).2.2.2.2.2 + 223), .int 0, .ref ((vX X).2.2.2.2.2 + 224), .null, .null, .null, .null, .int 0, .null, .null, .null, .int 0, .int 0, .int 0, .null, .null, .null, .null]) (pc := 181) G hi 10 29 dX10_init_181 rfl inX10 tyX10_ok nmX10 (by decide) tw_f_RX10_73 rfl rfl rfl (by decide) f203 (Nat.le_of_ble_eq_true rfl) (fun _ => rfl) (fun _ => rfl) ?_
  generalize hC44 : cup C43 203 _ = C44
  have hF44 : ∀ j, 203 ≤ j → j ≠ 203 → j ≠ 208 → j < 226 → C44 j = cellE (vX X) M0 j := by
    intro j h0 q203 q208 h9
    rw [← hC44]
    rw [cup_ne _ q203]
    exact hF43 j h0 q203 q208 (by omega)
  have hB44 : ∀ j, j < 203 → C44 j = C j := fun j hj => by rw [← hC44, cup_ne _ (by omega)]; exact hB43 j hj
  have f203 : C44 203 = .inr (10, [.ref ((vX X).2.2.2.2.2 + 204), .ref ((vX X).2.2.2.2.2 + 205), .ref ((vX X).2.2.2.2.2 + 206), .int 0, .ref ((vX X).2.2.2.2.2 + 207), .int 0, .ref ((vX X).2.2.2.2.2 + 208), .int 0, .int 0, .ref ((vX X).2.2.2.2.2 + 209), .int 0, .int 0, .ref ((vX X).2.2.2.2.2 + 210), .ref ((vX X).2.2.2.2.2 + 211), .ref ((vX X).2.2.2.2.2 + 212), .ref ((vX X).2.2.2.2.2 + 213), .ref ((vX X).2.2.2.2.2 + 214), .ref ((vX X).2.2.2.2.2 + 215), .ref ((vX X).2.2.2.2.2 + 216), .ref ((vX X).2.2.2.2.2 + 217), .ref ((vX X).2.2.2.2.2 + 218), .ref ((vX X).2.2.2.2.2 + 219), .ref ((vX X).2.2.2.2.2 + 220), .ref ((vX X).2.2.2.2.2 + 221), .int 0, .ref ((vX X).2.2.2.2.2 + 222), .ref ((vX X).2.2.2.2.2 + 223), .int 0, .ref ((vX X).2.2.2.2.2 + 224), .ref ((vX X).2.2.2.2.2 + 225), .null, .null, .null, .int 0, .null, .null, .null, .int 0, .int 0, .int 0, .null, .null, .null, .null]) := by rw [← hC44, cup_same] <;> rfl
  have f208 : C44 208 = .inl ((vX X).2.2.1, 3, .inl (fun _ => 0)) := by rw [← hC44, cup_ne _ (by decide)]; exact f208
  clear hC44
  refine bm_aload (i := 0) (t := 17) (pc := 184) G dX10_init_184 rfl rfl rfl (by decide) ?_
  refine bm_bipush (pc := 185) G dX10_init_185 (by decide) ?_
  refine bm_newi (pc := 187) G 16 dX10_init_187 (by decide) (hR.le (by decide) (by decide)) ?_
  generalize hC45 : cup C44 226 _ = C45
  have hF45 : ∀ j, 203 ≤ j → j ≠ 203 → j ≠ 208 → j < 227 → C45 j = cellE (vX X) M0 j := by
    intro j h0 q203 q208 h9
    rw [← hC45]
    by_cases h : j = 226
    · subst h; rw [cup_same]; exact (cellZ_i (vX X) (k := 226) (n := 16) rfl (by decide) (by decide)).symm
    · rw [cup_ne _ h]; exact hF44 j h0 q203 q208 (by omega)
  have hB45 : ∀ j, j < 203 → C45 j = C j := fun j hj => by rw [← hC45, cup_ne _ (by omega)]; exact hB44 j hj
  have f203 : C45 203 = .inr (10, [.ref ((vX X).2.2.2.2.2 + 204), .ref ((vX X).2.2.2.2.2 + 205), .ref ((vX X).2.2.2.2.2 + 206), .int 0, .ref ((vX X).2.2.2.2.2 + 207), .int 0, .ref ((vX X).2.2.2.2.2 + 208), .int 0, .int 0, .ref ((vX X).2.2.2.2.2 + 209), .int 0, .int 0, .ref ((vX X).2.2.2.2.2 + 210), .ref ((vX X).2.2.2.2.2 + 211), .ref ((vX X).2.2.2.2.2 + 212), .ref ((vX X).2.2.2.2.2 + 213), .ref ((vX X).2.2.2.2.2 + 214), .ref ((vX X).2.2.2.2.2 + 215), .ref ((vX X).2.2.2.2.2 + 216), .ref ((vX X).2.2.2.2.2 + 217), .ref ((vX X).2.2.2.2.2 + 218), .ref ((vX X).2.2.2.2.2 + 219), .ref ((vX X).2.2.2.2.2 + 220), .ref ((vX X).2.2.2.2.2 + 221), .int 0, .ref ((vX X).2.2.2.2.2 + 222), .ref ((vX X).2.2.2.2.2 + 223), .int 0, .ref ((vX X).2.2.2.2.2 + 224), .ref ((vX X).2.2.2.2.2 + 225), .null, .null, .null, .int 0, .null, .null, .null, .int 0, .int 0, .int 0, .null, .null, .null, .null]) := by rw [← hC45, cup_ne _ (by decide)]; exact f203
  have f208 : C45 208 = .inl ((vX X).2.2.1, 3, .inl (fun _ => 0)) := by rw [← hC45, cup_ne _ (by decide)]; exact f208
  clear hC45
  refine bm_putR (t := 113) (o := 203) (q := 226) (fs := [.ref ((vX X).2.2.2.2.2 + 204), .ref ((vX X).2.2.2.2.2 + 205), .ref ((vX X).2.2.2.2.2 + 206), .int 0, .ref ((vX X).2.2.2.2.2 + 207), .int 0, .ref ((vX X).2.2.2.2.2 + 208), .int 0, .int 0, .ref ((vX X).2.2.2.2.2 + 209), .int 0, .int 0, .ref ((vX X).2.2.2.2.2 + 210), .ref ((vX X).2.2.2.2.2 + 211), .ref ((vX X).2.2.2.2.2 + 212), .ref ((vX X).2.2.2.2.2 + 213), .ref ((vX X).2.2.2.2.2 + 214), .ref ((vX X).2.2.2.2.2 + 215), .ref ((vX X).2.2.2.2.2 + 216), .ref ((vX X).2.2.2.2.2 + 217), .ref ((vX X).2.2.2.2.2 + 218), .ref ((vX X).2.2.2.2.2 + 219), .ref ((vX X).2.2.2.2.2 + 220), .ref ((vX X).2.2.2.2.2 + 221), .int 0, .ref ((vX X).2.2.2.2.2 + 222), .ref ((vX X).2.2.2.2.2 + 223), .int 0, .ref ((vX X).2.2.2.2.2 + 224), .ref ((vX X).2.2.2.2.2 + 225), .null, .null, .null, .int 0, .null, .null, .null, .int 0, .int 0, .int 0, .null, .null, .null, .null]) (pc := 189) G hi 10 30 dX10_init_189 rfl inX10 tyX10_ok nmX10 (by decide) tw_f_RX10_76 rfl rfl rfl (by decide) f203 (Nat.le_of_ble_eq_true rfl) (fun _ => rfl) (fun _ => rfl) ?_
  generalize hC46 : cup C45 203 _ = C46
  have hF46 : ∀ j, 203 ≤ j → j ≠ 203 → j ≠ 208 → j < 227 → C46 j = cellE (vX X) M0 j := by
    intro j h0 q203 q208 h9
    rw [← hC46]
    rw [cup_ne _ q203]
    exact hF45 j h0 q203 q208 (by omega)
  have hB46 : ∀ j, j < 203 → C46 j = C j := fun j hj => by rw [← hC46, cup_ne _ (by omega)]; exact hB45 j hj
  have f203 : C46 203 = .inr (10, [.ref ((vX X).2.2.2.2.2 + 204), .ref ((vX X).2.2.2.2.2 + 205), .ref ((vX X).2.2.2.2.2 + 206), .int 0, .ref ((vX X).2.2.2.2.2 + 207), .int 0, .ref ((vX X).2.2.2.2.2 + 208), .int 0, .int 0, .ref ((vX X).2.2.2.2.2 + 209), .int 0, .int 0, .ref ((vX X).2.2.2.2.2 + 210), .ref ((vX X).2.2.2.2.2 + 211), .ref ((vX X).2.2.2.2.2 + 212), .ref ((vX X).2.2.2.2.2 + 213), .ref ((vX X).2.2.2.2.2 + 214), .ref ((vX X).2.2.2.2.2 + 215), .ref ((vX X).2.2.2.2.2 + 216), .ref ((vX X).2.2.2.2.2 + 217), .ref ((vX X).2.2.2.2.2 + 218), .ref ((vX X).2.2.2.2.2 + 219), .ref ((vX X).2.2.2.2.2 + 220), .ref ((vX X).2.2.2.2.2 + 221), .int 0, .ref ((vX X).2.2.2.2.2 + 222), .ref ((vX X).2.2.2.2.2 + 223), .int 0, .ref ((vX X).2.2.2.2.2 + 224), .ref ((vX X).2.2.2.2.2 + 225), .ref ((vX X).2.2.2.2.2 + 226), .null, .null, .int 0, .null, .null, .null, .int 0, .int 0, .int 0, .null, .null, .null, .null]) := by rw [← hC46, cup_same] <;> rfl
  have f208 : C46 208 = .inl ((vX X).2.2.1, 3, .inl (fun _ => 0)) := by rw [← hC46, cup_ne _ (by decide)]; exact f208
  clear hC46
  refine bm_aload (i := 0) (t := 17) (pc := 192) G dX10_init_192 rfl rfl rfl (by decide) ?_
  refine bm_bipush (pc := 193) G dX10_init_193 (by decide) ?_
  refine bm_newi (pc := 195) G 16 dX10_init_195 (by decide) (hR.le (by decide) (by decide)) ?_
  generalize hC47 : cup C46 227 _ = C47
  have hF47 : ∀ j, 203 ≤ j → j ≠ 203 → j ≠ 208 → j < 228 → C47 j = cellE (vX X) M0 j := by
    intro j h0 q203 q208 h9
    rw [← hC47]
    by_cases h : j = 227
    · subst h; rw [cup_same]; exact (cellZ_i (vX X) (k := 227) (n := 16) rfl (by decide) (by decide)).symm
    · rw [cup_ne _ h]; exact hF46 j h0 q203 q208 (by omega)
  have hB47 : ∀ j, j < 203 → C47 j = C j := fun j hj => by rw [← hC47, cup_ne _ (by omega)]; exact hB46 j hj
  have f203 : C47 203 = .inr (10, [.ref ((vX X).2.2.2.2.2 + 204), .ref ((vX X).2.2.2.2.2 + 205), .ref ((vX X).2.2.2.2.2 + 206), .int 0, .ref ((vX X).2.2.2.2.2 + 207), .int 0, .ref ((vX X).2.2.2.2.2 + 208), .int 0, .int 0, .ref ((vX X).2.2.2.2.2 + 209), .int 0, .int 0, .ref ((vX X).2.2.2.2.2 + 210), .ref ((vX X).2.2.2.2.2 + 211), .ref ((vX X).2.2.2.2.2 + 212), .ref ((vX X).2.2.2.2.2 + 213), .ref ((vX X).2.2.2.2.2 + 214), .ref ((vX X).2.2.2.2.2 + 215), .ref ((vX X).2.2.2.2.2 + 216), .ref ((vX X).2.2.2.2.2 + 217), .ref ((vX X).2.2.2.2.2 + 218), .ref ((vX X).2.2.2.2.2 + 219), .ref ((vX X).2.2.2.2.2 + 220), .ref ((vX X).2.2.2.2.2 + 221), .int 0, .ref ((vX X).2.2.2.2.2 + 222), .ref ((vX X).2.2.2.2.2 + 223), .int 0, .ref ((vX X).2.2.2.2.2 + 224), .ref ((vX X).2.2.2.2.2 + 225), .ref ((vX X).2.2.2.2.2 + 226), .null, .null, .int 0, .null, .null, .null, .int 0, .int 0, .int 0, .null, .null, .null, .null]) := by rw [← hC47, cup_ne _ (by decide)]; exact f203
  have f208 : C47 208 = .inl ((vX X).2.2.1, 3, .inl (fun _ => 0)) := by rw [← hC47, cup_ne _ (by decide)]; exact f208
  clear hC47
  refine bm_putR (t := 113) (o := 203) (q := 227) (fs := [.ref ((vX X).2.2.2.2.2 + 204), .ref ((vX X).2.2.2.2.2 + 205), .ref ((vX X).2.2.2.2.2 + 206), .int 0, .ref ((vX X).2.2.2.2.2 + 207), .int 0, .ref ((vX X).2.2.2.2.2 + 208), .int 0, .int 0, .ref ((vX X).2.2.2.2.2 + 209), .int 0, .int 0, .ref ((vX X).2.2.2.2.2 + 210), .ref ((vX X).2.2.2.2.2 + 211), .ref ((vX X).2.2.2.2.2 + 212), .ref ((vX X).2.2.2.2.2 + 213), .ref ((vX X).2.2.2.2.2 + 214), .ref ((vX X).2.2.2.2.2 + 215), .ref ((vX X).2.2.2.2.2 + 216), .ref ((vX X).2.2.2.2.2 + 217), .ref ((vX X).2.2.2.2.2 + 218), .ref ((vX X).2.2.2.2.2 + 219), .ref ((vX X).2.2.2.2.2 + 220), .ref ((vX X).2.2.2.2.2 + 221), .int 0, .ref ((vX X).2.2.2.2.2 + 222), .ref ((vX X).2.2.2.2.2 + 223), .int 0, .ref ((vX X).2.2.2.2.2 + 224), .ref ((vX X).2.2.2.2.2 + 225), .ref ((vX X).2.2.2.2.2 + 226), .null, .null, .int 0, .null, .null, .null, .int 0, .int 0, .int 0, .null, .null, .null, .null]) (pc := 197) G hi 10 31 dX10_init_197 rfl inX10 tyX10_ok nmX10 (by decide) tw_f_RX10_79 rfl rfl rfl (by decide) f203 (Nat.le_of_ble_eq_true rfl) (fun _ => rfl) (fun _ => rfl) ?_
  generalize hC48 : cup C47 203 _ = C48
  have hF48 : ∀ j, 203 ≤ j → j ≠ 203 → j ≠ 208 → j < 228 → C48 j = cellE (vX X) M0 j := by
    intro j h0 q203 q208 h9
    rw [← hC48]
    rw [cup_ne _ q203]
    exact hF47 j h0 q203 q208 (by omega)
  have hB48 : ∀ j, j < 203 → C48 j = C j := fun j hj => by rw [← hC48, cup_ne _ (by omega)]; exact hB47 j hj
  have f203 : C48 203 = .inr (10, [.ref ((vX X).2.2.2.2.2 + 204), .ref ((vX X).2.2.2.2.2 + 205), .ref ((vX X).2.2.2.2.2 + 206), .int 0, .ref ((vX X).2.2.2.2.2 + 207), .int 0, .ref ((vX X).2.2.2.2.2 + 208), .int 0, .int 0, .ref ((vX X).2.2.2.2.2 + 209), .int 0, .int 0, .ref ((vX X).2.2.2.2.2 + 210), .ref ((vX X).2.2.2.2.2 + 211), .ref ((vX X).2.2.2.2.2 + 212), .ref ((vX X).2.2.2.2.2 + 213), .ref ((vX X).2.2.2.2.2 + 214), .ref ((vX X).2.2.2.2.2 + 215), .ref ((vX X).2.2.2.2.2 + 216), .ref ((vX X).2.2.2.2.2 + 217), .ref ((vX X).2.2.2.2.2 + 218), .ref ((vX X).2.2.2.2.2 + 219), .ref ((vX X).2.2.2.2.2 + 220), .ref ((vX X).2.2.2.2.2 + 221), .int 0, .ref ((vX X).2.2.2.2.2 + 222), .ref ((vX X).2.2.2.2.2 + 223), .int 0, .ref ((vX X).2.2.2.2.2 + 224), .ref ((vX X).2.2.2.2.2 + 225), .ref ((vX X).2.2.2.2.2 + 226), .ref ((vX X).2.2.2.2.2 + 227), .null, .int 0, .null, .null, .null, .int 0, .int 0, .int 0, .null, .null, .null, .null]) := by rw [← hC48, cup_same] <;> rfl
  have f208 : C48 208 = .inl ((vX X).2.2.1, 3, .inl (fun _ => 0)) := by rw [← hC48, cup_ne _ (by decide)]; exact f208
  clear hC48
  refine bm_aload (i := 0) (t := 17) (pc := 200) G dX10_init_200 rfl rfl rfl (by decide) ?_
  refine bm_bipush (pc := 201) G dX10_init_201 (by decide) ?_
  refine bm_newi (pc := 203) G 8 dX10_init_203 (by decide) (hR.le (by decide) (by decide)) ?_
  generalize hC49 : cup C48 228 _ = C49
  have hF49 : ∀ j, 203 ≤ j → j ≠ 203 → j ≠ 208 → j < 229 → C49 j = cellE (vX X) M0 j := by
    intro j h0 q203 q208 h9
    rw [← hC49]
    by_cases h : j = 228
    · subst h; rw [cup_same]; exact (cellZ_i (vX X) (k := 228) (n := 8) rfl (by decide) (by decide)).symm
    · rw [cup_ne _ h]; exact hF48 j h0 q203 q208 (by omega)
  have hB49 : ∀ j, j < 203 → C49 j = C j := fun j hj => by rw [← hC49, cup_ne _ (by omega)]; exact hB48 j hj
  have f203 : C49 203 = .inr (10, [.ref ((vX X).2.2.2.2.2 + 204), .ref ((vX X).2.2.2.2.2 + 205), .ref ((vX X).2.2.2.2.2 + 206), .int 0, .ref ((vX X).2.2.2.2.2 + 207), .int 0, .ref ((vX X).2.2.2.2.2 + 208), .int 0, .int 0, .ref ((vX X).2.2.2.2.2 + 209), .int 0, .int 0, .ref ((vX X).2.2.2.2.2 + 210), .ref ((vX X).2.2.2.2.2 + 211), .ref ((vX X).2.2.2.2.2 + 212), .ref ((vX X).2.2.2.2.2 + 213), .ref ((vX X).2.2.2.2.2 + 214), .ref ((vX X).2.2.2.2.2 + 215), .ref ((vX X).2.2.2.2.2 + 216), .ref ((vX X).2.2.2.2.2 + 217), .ref ((vX X).2.2.2.2.2 + 218), .ref ((vX X).2.2.2.2.2 + 219), .ref ((vX X).2.2.2.2.2 + 220), .ref ((vX X).2.2.2.2.2 + 221), .int 0, .ref ((vX X).2.2.2.2.2 + 222), .ref ((vX X).2.2.2.2.2 + 223), .int 0, .ref ((vX X).2.2.2.2.2 + 224), .ref ((vX X).2.2.2.2.2 + 225), .ref ((vX X).2.2.2.2.2 + 226), .ref ((vX X).2.2.2.2.2 + 227), .null, .int 0, .null, .null, .null, .int 0, .int 0, .int 0, .null, .null, .null, .null]) := by rw [← hC49, cup_ne _ (by decide)]; exact f203
  have f208 : C49 208 = .inl ((vX X).2.2.1, 3, .inl (fun _ => 0)) := by rw [← hC49, cup_ne _ (by decide)]; exact f208
  clear hC49
  refine bm_putR (t := 105) (o := 203) (q := 228) (fs := [.ref ((vX X).2.2.2.2.2 + 204), .ref ((vX X).2.2.2.2.2 + 205), .ref ((vX X).2.2.2.2.2 + 206), .int 0, .ref ((vX X).2.2.2.2.2 + 207), .int 0, .ref ((vX X).2.2.2.2.2 + 208), .int 0, .int 0, .ref ((vX X).2.2.2.2.2 + 209), .int 0, .int 0, .ref ((vX X).2.2.2.2.2 + 210), .ref ((vX X).2.2.2.2.2 + 211), .ref ((vX X).2.2.2.2.2 + 212), .ref ((vX X).2.2.2.2.2 + 213), .ref ((vX X).2.2.2.2.2 + 214), .ref ((vX X).2.2.2.2.2 + 215), .ref ((vX X).2.2.2.2.2 + 216), .ref ((vX X).2.2.2.2.2 + 217), .ref ((vX X).2.2.2.2.2 + 218), .ref ((vX X).2.2.2.2.2 + 219), .ref ((vX X).2.2.2.2.2 + 220), .ref ((vX X).2.2.2.2.2 + 221), .int 0, .ref ((vX X).2.2.2.2.2 + 222), .ref ((vX X).2.2.2.2.2 + 223), .int 0, .ref ((vX X).2.2.2.2.2 + 224), .ref ((vX X).2.2.2.2.2 + 225), .ref ((vX X).2.2.2.2.2 + 226), .ref ((vX X).2.2.2.2.2 + 227), .null, .int 0, .null, .null, .null, .int 0, .int 0, .int 0, .null, .null, .null, .null]) (pc := 205) G hi 10 32 dX10_init_205 rfl inX10 tyX10_ok nmX10 (by decide) tw_f_RX10_82 rfl rfl rfl (by decide) f203 (Nat.le_of_ble_eq_true rfl) (fun _ => rfl) (fun _ => rfl) ?_
  generalize hC50 : cup C49 203 _ = C50
  have hF50 : ∀ j, 203 ≤ j → j ≠ 203 → j ≠ 208 → j < 229 → C50 j = cellE (vX X) M0 j := by
    intro j h0 q203 q208 h9
    rw [← hC50]
    rw [cup_ne _ q203]
    exact hF49 j h0 q203 q208 (by omega)
  have hB50 : ∀ j, j < 203 → C50 j = C j := fun j hj => by rw [← hC50, cup_ne _ (by omega)]; exact hB49 j hj
  have f203 : C50 203 = .inr (10, [.ref ((vX X).2.2.2.2.2 + 204), .ref ((vX X).2.2.2.2.2 + 205), .ref ((vX X).2.2.2.2.2 + 206), .int 0, .ref ((vX X).2.2.2.2.2 + 207), .int 0, .ref ((vX X).2.2.2.2.2 + 208), .int 0, .int 0, .ref ((vX X).2.2.2.2.2 + 209), .int 0, .int 0, .ref ((vX X).2.2.2.2.2 + 210), .ref ((vX X).2.2.2.2.2 + 211), .ref ((vX X).2.2.2.2.2 + 212), .ref ((vX X).2.2.2.2.2 + 213), .ref ((vX X).2.2.2.2.2 + 214), .ref ((vX X).2.2.2.2.2 + 215), .ref ((vX X).2.2.2.2.2 + 216), .ref ((vX X).2.2.2.2.2 + 217), .ref ((vX X).2.2.2.2.2 + 218), .ref ((vX X).2.2.2.2.2 + 219), .ref ((vX X).2.2.2.2.2 + 220), .ref ((vX X).2.2.2.2.2 + 221), .int 0, .ref ((vX X).2.2.2.2.2 + 222), .ref ((vX X).2.2.2.2.2 + 223), .int 0, .ref ((vX X).2.2.2.2.2 + 224), .ref ((vX X).2.2.2.2.2 + 225), .ref ((vX X).2.2.2.2.2 + 226), .ref ((vX X).2.2.2.2.2 + 227), .ref ((vX X).2.2.2.2.2 + 228), .int 0, .null, .null, .null, .int 0, .int 0, .int 0, .null, .null, .null, .null]) := by rw [← hC50, cup_same] <;> rfl
  have f208 : C50 208 = .inl ((vX X).2.2.1, 3, .inl (fun _ => 0)) := by rw [← hC50, cup_ne _ (by decide)]; exact f208
  clear hC50
  refine bm_aload (i := 0) (t := 17) (pc := 208) G dX10_init_208 rfl rfl rfl (by decide) ?_
  refine bm_bipush (pc := 209) G dX10_init_209 (by decide) ?_
  refine bm_newi (pc := 211) G 101 dX10_init_211 (by decide) (hR.le (by decide) (by decide)) ?_
  generalize hC51 : cup C50 229 _ = C51
  have hF51 : ∀ j, 203 ≤ j → j ≠ 203 → j ≠ 208 → j < 230 → C51 j = cellE (vX X) M0 j := by
    intro j h0 q203 q208 h9
    rw [← hC51]
    by_cases h : j = 229
    · subst h; rw [cup_same]; exact (cellZ_i (vX X) (k := 229) (n := 101) rfl (by decide) (by decide)).symm
    · rw [cup_ne _ h]; exact hF50 j h0 q203 q208 (by omega)
  have hB51 : ∀ j, j < 203 → C51 j = C j := fun j hj => by rw [← hC51, cup_ne _ (by omega)]; exact hB50 j hj
  have f203 : C51 203 = .inr (10, [.ref ((vX X).2.2.2.2.2 + 204), .ref ((vX X).2.2.2.2.2 + 205), .ref ((vX X).2.2.2.2.2 + 206), .int 0, .ref ((vX X).2.2.2.2.2 + 207), .int 0, .ref ((vX X).2.2.2.2.2 + 208), .int 0, .int 0, .ref ((vX X).2.2.2.2.2 + 209), .int 0, .int 0, .ref ((vX X).2.2.2.2.2 + 210), .ref ((vX X).2.2.2.2.2 + 211), .ref ((vX X).2.2.2.2.2 + 212), .ref ((vX X).2.2.2.2.2 + 213), .ref ((vX X).2.2.2.2.2 + 214), .ref ((vX X).2.2.2.2.2 + 215), .ref ((vX X).2.2.2.2.2 + 216), .ref ((vX X).2.2.2.2.2 + 217), .ref ((vX X).2.2.2.2.2 + 218), .ref ((vX X).2.2.2.2.2 + 219), .ref ((vX X).2.2.2.2.2 + 220), .ref ((vX X).2.2.2.2.2 + 221), .int 0, .ref ((vX X).2.2.2.2.2 + 222), .ref ((vX X).2.2.2.2.2 + 223), .int 0, .ref ((vX X).2.2.2.2.2 + 224), .ref ((vX X).2.2.2.2.2 + 225), .ref ((vX X).2.2.2.2.2 + 226), .ref ((vX X).2.2.2.2.2 + 227), .ref ((vX X).2.2.2.2.2 + 228), .int 0, .null, .null, .null, .int 0, .int 0, .int 0, .null, .null, .null, .null]) := by rw [← hC51, cup_ne _ (by decide)]; exact f203
  have f208 : C51 208 = .inl ((vX X).2.2.1, 3, .inl (fun _ => 0)) := by rw [← hC51, cup_ne _ (by decide)]; exact f208
  clear hC51
  refine bm_putR (t := 198) (o := 203) (q := 229) (fs := [.ref ((vX X).2.2.2.2.2 + 204), .ref ((vX X).2.2.2.2.2 + 205), .ref ((vX X).2.2.2.2.2 + 206), .int 0, .ref ((vX X).2.2.2.2.2 + 207), .int 0, .ref ((vX X).2.2.2.2.2 + 208), .int 0, .int 0, .ref ((vX X).2.2.2.2.2 + 209), .int 0, .int 0, .ref ((vX X).2.2.2.2.2 + 210), .ref ((vX X).2.2.2.2.2 + 211), .ref ((vX X).2.2.2.2.2 + 212), .ref ((vX X).2.2.2.2.2 + 213), .ref ((vX X).2.2.2.2.2 + 214), .ref ((vX X).2.2.2.2.2 + 215), .ref ((vX X).2.2.2.2.2 + 216), .ref ((vX X).2.2.2.2.2 + 217), .ref ((vX X).2.2.2.2.2 + 218), .ref ((vX X).2.2.2.2.2 + 219), .ref ((vX X).2.2.2.2.2 + 220), .ref ((vX X).2.2.2.2.2 + 221), .int 0, .ref ((vX X).2.2.2.2.2 + 222), .ref ((vX X).2.2.2.2.2 + 223), .int 0, .ref ((vX X).2.2.2.2.2 + 224), .ref ((vX X).2.2.2.2.2 + 225), .ref ((vX X).2.2.2.2.2 + 226), .ref ((vX X).2.2.2.2.2 + 227), .ref ((vX X).2.2.2.2.2 + 228), .int 0, .null, .null, .null, .int 0, .int 0, .int 0, .null, .null, .null, .null]) (pc := 213) G hi 10 34 dX10_init_213 rfl inX10 tyX10_ok nmX10 (by decide) tw_f_RX10_85 rfl rfl rfl (by decide) f203 (Nat.le_of_ble_eq_true rfl) (fun _ => rfl) (fun _ => rfl) ?_
  generalize hC52 : cup C51 203 _ = C52
  have hF52 : ∀ j, 203 ≤ j → j ≠ 203 → j ≠ 208 → j < 230 → C52 j = cellE (vX X) M0 j := by
    intro j h0 q203 q208 h9
    rw [← hC52]
    rw [cup_ne _ q203]
    exact hF51 j h0 q203 q208 (by omega)
  have hB52 : ∀ j, j < 203 → C52 j = C j := fun j hj => by rw [← hC52, cup_ne _ (by omega)]; exact hB51 j hj
  have f203 : C52 203 = .inr (10, [.ref ((vX X).2.2.2.2.2 + 204), .ref ((vX X).2.2.2.2.2 + 205), .ref ((vX X).2.2.2.2.2 + 206), .int 0, .ref ((vX X).2.2.2.2.2 + 207), .int 0, .ref ((vX X).2.2.2.2.2 + 208), .int 0, .int 0, .ref ((vX X).2.2.2.2.2 + 209), .int 0, .int 0, .ref ((vX X).2.2.2.2.2 + 210), .ref ((vX X).2.2.2.2.2 + 211), .ref ((vX X).2.2.2.2.2 + 212), .ref ((vX X).2.2.2.2.2 + 213), .ref ((vX X).2.2.2.2.2 + 214), .ref ((vX X).2.2.2.2.2 + 215), .ref ((vX X).2.2.2.2.2 + 216), .ref ((vX X).2.2.2.2.2 + 217), .ref ((vX X).2.2.2.2.2 + 218), .ref ((vX X).2.2.2.2.2 + 219), .ref ((vX X).2.2.2.2.2 + 220), .ref ((vX X).2.2.2.2.2 + 221), .int 0, .ref ((vX X).2.2.2.2.2 + 222), .ref ((vX X).2.2.2.2.2 + 223), .int 0, .ref ((vX X).2.2.2.2.2 + 224), .ref ((vX X).2.2.2.2.2 + 225), .ref ((vX X).2.2.2.2.2 + 226), .ref ((vX X).2.2.2.2.2 + 227), .ref ((vX X).2.2.2.2.2 + 228), .int 0, .ref ((vX X).2.2.2.2.2 + 229), .null, .null, .int 0, .int 0, .int 0, .null, .null, .null, .null]) := by rw [← hC52, cup_same] <;> rfl
  have f208 : C52 208 = .inl ((vX X).2.2.1, 3, .inl (fun _ => 0)) := by rw [← hC52, cup_ne _ (by decide)]; exact f208
  clear hC52
  refine bm_aload (i := 0) (t := 17) (pc := 216) G dX10_init_216 rfl rfl rfl (by decide) ?_
  refine bm_sipush (pc := 217) G dX10_init_217 (by decide) ?_
  refine bm_newi (pc := 220) G 1616 dX10_init_220 (by decide) (hR.le (by decide) (by decide)) ?_
  generalize hC53 : cup C52 230 _ = C53
  have hF53 : ∀ j, 203 ≤ j → j ≠ 203 → j ≠ 208 → j < 231 → C53 j = cellE (vX X) M0 j := by
    intro j h0 q203 q208 h9
    rw [← hC53]
    by_cases h : j = 230
    · subst h; rw [cup_same]; exact (cellZ_i (vX X) (k := 230) (n := 1616) rfl (by decide) (by decide)).symm
    · rw [cup_ne _ h]; exact hF52 j h0 q203 q208 (by omega)
  have hB53 : ∀ j, j < 203 → C53 j = C j := fun j hj => by rw [← hC53, cup_ne _ (by omega)]; exact hB52 j hj
  have f203 : C53 203 = .inr (10, [.ref ((vX X).2.2.2.2.2 + 204), .ref ((vX X).2.2.2.2.2 + 205), .ref ((vX X).2.2.2.2.2 + 206), .int 0, .ref ((vX X).2.2.2.2.2 + 207), .int 0, .ref ((vX X).2.2.2.2.2 + 208), .int 0, .int 0, .ref ((vX X).2.2.2.2.2 + 209), .int 0, .int 0, .ref ((vX X).2.2.2.2.2 + 210), .ref ((vX X).2.2.2.2.2 + 211), .ref ((vX X).2.2.2.2.2 + 212), .ref ((vX X).2.2.2.2.2 + 213), .ref ((vX X).2.2.2.2.2 + 214), .ref ((vX X).2.2.2.2.2 + 215), .ref ((vX X).2.2.2.2.2 + 216), .ref ((vX X).2.2.2.2.2 + 217), .ref ((vX X).2.2.2.2.2 + 218), .ref ((vX X).2.2.2.2.2 + 219), .ref ((vX X).2.2.2.2.2 + 220), .ref ((vX X).2.2.2.2.2 + 221), .int 0, .ref ((vX X).2.2.2.2.2 + 222), .ref ((vX X).2.2.2.2.2 + 223), .int 0, .ref ((vX X).2.2.2.2.2 + 224), .ref ((vX X).2.2.2.2.2 + 225), .ref ((vX X).2.2.2.2.2 + 226), .ref ((vX X).2.2.2.2.2 + 227), .ref ((vX X).2.2.2.2.2 + 228), .int 0, .ref ((vX X).2.2.2.2.2 + 229), .null, .null, .int 0, .int 0, .int 0, .null, .null, .null, .null]) := by rw [← hC53, cup_ne _ (by decide)]; exact f203
  have f208 : C53 208 = .inl ((vX X).2.2.1, 3, .inl (fun _ => 0)) := by rw [← hC53, cup_ne _ (by decide)]; exact f208
  clear hC53
  refine bm_putR (t := 1713) (o := 203) (q := 230) (fs := [.ref ((vX X).2.2.2.2.2 + 204), .ref ((vX X).2.2.2.2.2 + 205), .ref ((vX X).2.2.2.2.2 + 206), .int 0, .ref ((vX X).2.2.2.2.2 + 207), .int 0, .ref ((vX X).2.2.2.2.2 + 208), .int 0, .int 0, .ref ((vX X).2.2.2.2.2 + 209), .int 0, .int 0, .ref ((vX X).2.2.2.2.2 + 210), .ref ((vX X).2.2.2.2.2 + 211), .ref ((vX X).2.2.2.2.2 + 212), .ref ((vX X).2.2.2.2.2 + 213), .ref ((vX X).2.2.2.2.2 + 214), .ref ((vX X).2.2.2.2.2 + 215), .ref ((vX X).2.2.2.2.2 + 216), .ref ((vX X).2.2.2.2.2 + 217), .ref ((vX X).2.2.2.2.2 + 218), .ref ((vX X).2.2.2.2.2 + 219), .ref ((vX X).2.2.2.2.2 + 220), .ref ((vX X).2.2.2.2.2 + 221), .int 0, .ref ((vX X).2.2.2.2.2 + 222), .ref ((vX X).2.2.2.2.2 + 223), .int 0, .ref ((vX X).2.2.2.2.2 + 224), .ref ((vX X).2.2.2.2.2 + 225), .ref ((vX X).2.2.2.2.2 + 226), .ref ((vX X).2.2.2.2.2 + 227), .ref ((vX X).2.2.2.2.2 + 228), .int 0, .ref ((vX X).2.2.2.2.2 + 229), .null, .null, .int 0, .int 0, .int 0, .null, .null, .null, .null]) (pc := 222) G hi 10 35 dX10_init_222 rfl inX10 tyX10_ok nmX10 (by decide) tw_f_RX10_88 rfl rfl rfl (by decide) f203 (Nat.le_of_ble_eq_true rfl) (fun _ => rfl) (fun _ => rfl) ?_
  generalize hC54 : cup C53 203 _ = C54
  have hF54 : ∀ j, 203 ≤ j → j ≠ 203 → j ≠ 208 → j < 231 → C54 j = cellE (vX X) M0 j := by
    intro j h0 q203 q208 h9
    rw [← hC54]
    rw [cup_ne _ q203]
    exact hF53 j h0 q203 q208 (by omega)
  have hB54 : ∀ j, j < 203 → C54 j = C j := fun j hj => by rw [← hC54, cup_ne _ (by omega)]; exact hB53 j hj
  have f203 : C54 203 = .inr (10, [.ref ((vX X).2.2.2.2.2 + 204), .ref ((vX X).2.2.2.2.2 + 205), .ref ((vX X).2.2.2.2.2 + 206), .int 0, .ref ((vX X).2.2.2.2.2 + 207), .int 0, .ref ((vX X).2.2.2.2.2 + 208), .int 0, .int 0, .ref ((vX X).2.2.2.2.2 + 209), .int 0, .int 0, .ref ((vX X).2.2.2.2.2 + 210), .ref ((vX X).2.2.2.2.2 + 211), .ref ((vX X).2.2.2.2.2 + 212), .ref ((vX X).2.2.2.2.2 + 213), .ref ((vX X).2.2.2.2.2 + 214), .ref ((vX X).2.2.2.2.2 + 215), .ref ((vX X).2.2.2.2.2 + 216), .ref ((vX X).2.2.2.2.2 + 217), .ref ((vX X).2.2.2.2.2 + 218), .ref ((vX X).2.2.2.2.2 + 219), .ref ((vX X).2.2.2.2.2 + 220), .ref ((vX X).2.2.2.2.2 + 221), .int 0, .ref ((vX X).2.2.2.2.2 + 222), .ref ((vX X).2.2.2.2.2 + 223), .int 0, .ref ((vX X).2.2.2.2.2 + 224), .ref ((vX X).2.2.2.2.2 + 225), .ref ((vX X).2.2.2.2.2 + 226), .ref ((vX X).2.2.2.2.2 + 227), .ref ((vX X).2.2.2.2.2 + 228), .int 0, .ref ((vX X).2.2.2.2.2 + 229), .ref ((vX X).2.2.2.2.2 + 230), .null, .int 0, .int 0, .int 0, .null, .null, .null, .null]) := by rw [← hC54, cup_same] <;> rfl
  have f208 : C54 208 = .inl ((vX X).2.2.1, 3, .inl (fun _ => 0)) := by rw [← hC54, cup_ne _ (by decide)]; exact f208
  clear hC54
  refine bm_aload (i := 0) (t := 17) (pc := 225) G dX10_init_225 rfl rfl rfl (by decide) ?_
  refine bm_sipush (pc := 226) G dX10_init_226 (by decide) ?_
  refine bm_newi (pc := 229) G 1616 dX10_init_229 (by decide) (hR.le (by decide) (by decide)) ?_
  generalize hC55 : cup C54 231 _ = C55
  have hF55 : ∀ j, 203 ≤ j → j ≠ 203 → j ≠ 208 → j < 232 → C55 j = cellE (vX X) M0 j := by
    intro j h0 q203 q208 h9
    rw [← hC55]
    by_cases h : j = 231
    · subst h; rw [cup_same]; exact (cellZ_i (vX X) (k := 231) (n := 1616) rfl (by decide) (by decide)).symm
    · rw [cup_ne _ h]; exact hF54 j h0 q203 q208 (by omega)
  have hB55 : ∀ j, j < 203 → C55 j = C j := fun j hj => by rw [← hC55, cup_ne _ (by omega)]; exact hB54 j hj
  have f203 : C55 203 = .inr (10, [.ref ((vX X).2.2.2.2.2 + 204), .ref ((vX X).2.2.2.2.2 + 205), .ref ((vX X).2.2.2.2.2 + 206), .int 0, .ref ((vX X).2.2.2.2.2 + 207), .int 0, .ref ((vX X).2.2.2.2.2 + 208), .int 0, .int 0, .ref ((vX X).2.2.2.2.2 + 209), .int 0, .int 0, .ref ((vX X).2.2.2.2.2 + 210), .ref ((vX X).2.2.2.2.2 + 211), .ref ((vX X).2.2.2.2.2 + 212), .ref ((vX X).2.2.2.2.2 + 213), .ref ((vX X).2.2.2.2.2 + 214), .ref ((vX X).2.2.2.2.2 + 215), .ref ((vX X).2.2.2.2.2 + 216), .ref ((vX X).2.2.2.2.2 + 217), .ref ((vX X).2.2.2.2.2 + 218), .ref ((vX X).2.2.2.2.2 + 219), .ref ((vX X).2.2.2.2.2 + 220), .ref ((vX X).2.2.2.2.2 + 221), .int 0, .ref ((vX X).2.2.2.2.2 + 222), .ref ((vX X).2.2.2.2.2 + 223), .int 0, .ref ((vX X).2.2.2.2.2 + 224), .ref ((vX X).2.2.2.2.2 + 225), .ref ((vX X).2.2.2.2.2 + 226), .ref ((vX X).2.2.2.2.2 + 227), .ref ((vX X).2.2.2.2.2 + 228), .int 0, .ref ((vX X).2.2.2.2.2 + 229), .ref ((vX X).2.2.2.2.2 + 230), .null, .int 0, .int 0, .int 0, .null, .null, .null, .null]) := by rw [← hC55, cup_ne _ (by decide)]; exact f203
  have f208 : C55 208 = .inl ((vX X).2.2.1, 3, .inl (fun _ => 0)) := by rw [← hC55, cup_ne _ (by decide)]; exact f208
  clear hC55
  refine bm_putR (t := 1713) (o := 203) (q := 231) (fs := [.ref ((vX X).2.2.2.2.2 + 204), .ref ((vX X).2.2.2.2.2 + 205), .ref ((vX X).2.2.2.2.2 + 206), .int 0, .ref ((vX X).2.2.2.2.2 + 207), .int 0, .ref ((vX X).2.2.2.2.2 + 208), .int 0, .int 0, .ref ((vX X).2.2.2.2.2 + 209), .int 0, .int 0, .ref ((vX X).2.2.2.2.2 + 210), .ref ((vX X).2.2.2.2.2 + 211), .ref ((vX X).2.2.2.2.2 + 212), .ref ((vX X).2.2.2.2.2 + 213), .ref ((vX X).2.2.2.2.2 + 214), .ref ((vX X).2.2.2.2.2 + 215), .ref ((vX X).2.2.2.2.2 + 216), .ref ((vX X).2.2.2.2.2 + 217), .ref ((vX X).2.2.2.2.2 + 218), .ref ((vX X).2.2.2.2.2 + 219), .ref ((vX X).2.2.2.2.2 + 220), .ref ((vX X).2.2.2.2.2 + 221), .int 0, .ref ((vX X).2.2.2.2.2 + 222), .ref ((vX X).2.2.2.2.2 + 223), .int 0, .ref ((vX X).2.2.2.2.2 + 224), .ref ((vX X).2.2.2.2.2 + 225), .ref ((vX X).2.2.2.2.2 + 226), .ref ((vX X).2.2.2.2.2 + 227), .ref ((vX X).2.2.2.2.2 + 228), .int 0, .ref ((vX X).2.2.2.2.2 + 229), .ref ((vX X).2.2.2.2.2 + 230), .null, .int 0, .int 0, .int 0, .null, .null, .null, .null]) (pc := 231) G hi 10 36 dX10_init_231 rfl inX10 tyX10_ok nmX10 (by decide) tw_f_RX10_91 rfl rfl rfl (by decide) f203 (Nat.le_of_ble_eq_true rfl) (fun _ => rfl) (fun _ => rfl) ?_
  generalize hC56 : cup C55 203 _ = C56
  have hF56 : ∀ j, 203 ≤ j → j ≠ 203 → j ≠ 208 → j < 232 → C56 j = cellE (vX X) M0 j := by
    intro j h0 q203 q208 h9
    rw [← hC56]
    rw [cup_ne _ q203]
    exact hF55 j h0 q203 q208 (by omega)
  have hB56 : ∀ j, j < 203 → C56 j = C j := fun j hj => by rw [← hC56, cup_ne _ (by omega)]; exact hB55 j hj
  have f203 : C56 203 = .inr (10, [.ref ((vX X).2.2.2.2.2 + 204), .ref ((vX X).2.2.2.2.2 + 205), .ref ((vX X).2.2.2.2.2 + 206), .int 0, .ref ((vX X).2.2.2.2.2 + 207), .int 0, .ref ((vX X).2.2.2.2.2 + 208), .int 0, .int 0, .ref ((vX X).2.2.2.2.2 + 209), .int 0, .int 0, .ref ((vX X).2.2.2.2.2 + 210), .ref ((vX X).2.2.2.2.2 + 211), .ref ((vX X).2.2.2.2.2 + 212), .ref ((vX X).2.2.2.2.2 + 213), .ref ((vX X).2.2.2.2.2 + 214), .ref ((vX X).2.2.2.2.2 + 215), .ref ((vX X).2.2.2.2.2 + 216), .ref ((vX X).2.2.2.2.2 + 217), .ref ((vX X).2.2.2.2.2 + 218), .ref ((vX X).2.2.2.2.2 + 219), .ref ((vX X).2.2.2.2.2 + 220), .ref ((vX X).2.2.2.2.2 + 221), .int 0, .ref ((vX X).2.2.2.2.2 + 222), .ref ((vX X).2.2.2.2.2 + 223), .int 0, .ref ((vX X).2.2.2.2.2 + 224), .ref ((vX X).2.2.2.2.2 + 225), .ref ((vX X).2.2.2.2.2 + 226), .ref ((vX X).2.2.2.2.2 + 227), .ref ((vX X).2.2.2.2.2 + 228), .int 0, .ref ((vX X).2.2.2.2.2 + 229), .ref ((vX X).2.2.2.2.2 + 230), .ref ((vX X).2.2.2.2.2 + 231), .int 0, .int 0, .int 0, .null, .null, .null, .null]) := by rw [← hC56, cup_same] <;> rfl
  have f208 : C56 208 = .inl ((vX X).2.2.1, 3, .inl (fun _ => 0)) := by rw [← hC56, cup_ne _ (by decide)]; exact f208
  clear hC56
  refine bm_aload (i := 0) (t := 17) (pc := 234) G dX10_init_234 rfl rfl rfl (by decide) ?_
  refine bm_bipush (pc := 235) G dX10_init_235 (by decide) ?_
  refine bm_newi (pc := 237) G 16 dX10_init_237 (by decide) (hR.le (by decide) (by decide)) ?_
  generalize hC57 : cup C56 232 _ = C57
  have hF57 : ∀ j, 203 ≤ j → j ≠ 203 → j ≠ 208 → j < 233 → C57 j = cellE (vX X) M0 j := by
    intro j h0 q203 q208 h9
    rw [← hC57]
    by_cases h : j = 232
    · subst h; rw [cup_same]; exact (cellZ_i (vX X) (k := 232) (n := 16) rfl (by decide) (by decide)).symm
    · rw [cup_ne _ h]; exact hF56 j h0 q203 q208 (by omega)
  have hB57 : ∀ j, j < 203 → C57 j = C j := fun j hj => by rw [← hC57, cup_ne _ (by omega)]; exact hB56 j hj
  have f203 : C57 203 = .inr (10, [.ref ((vX X).2.2.2.2.2 + 204), .ref ((vX X).2.2.2.2.2 + 205), .ref ((vX X).2.2.2.2.2 + 206), .int 0, .ref ((vX X).2.2.2.2.2 + 207), .int 0, .ref ((vX X).2.2.2.2.2 + 208), .int 0, .int 0, .ref ((vX X).2.2.2.2.2 + 209), .int 0, .int 0, .ref ((vX X).2.2.2.2.2 + 210), .ref ((vX X).2.2.2.2.2 + 211), .ref ((vX X).2.2.2.2.2 + 212), .ref ((vX X).2.2.2.2.2 + 213), .ref ((vX X).2.2.2.2.2 + 214), .ref ((vX X).2.2.2.2.2 + 215), .ref ((vX X).2.2.2.2.2 + 216), .ref ((vX X).2.2.2.2.2 + 217), .ref ((vX X).2.2.2.2.2 + 218), .ref ((vX X).2.2.2.2.2 + 219), .ref ((vX X).2.2.2.2.2 + 220), .ref ((vX X).2.2.2.2.2 + 221), .int 0, .ref ((vX X).2.2.2.2.2 + 222), .ref ((vX X).2.2.2.2.2 + 223), .int 0, .ref ((vX X).2.2.2.2.2 + 224), .ref ((vX X).2.2.2.2.2 + 225), .ref ((vX X).2.2.2.2.2 + 226), .ref ((vX X).2.2.2.2.2 + 227), .ref ((vX X).2.2.2.2.2 + 228), .int 0, .ref ((vX X).2.2.2.2.2 + 229), .ref ((vX X).2.2.2.2.2 + 230), .ref ((vX X).2.2.2.2.2 + 231), .int 0, .int 0, .int 0, .null, .null, .null, .null]) := by rw [← hC57, cup_ne _ (by decide)]; exact f203
  have f208 : C57 208 = .inl ((vX X).2.2.1, 3, .inl (fun _ => 0)) := by rw [← hC57, cup_ne _ (by decide)]; exact f208
  clear hC57
  refine bm_putR (t := 113) (o := 203) (q := 232) (fs := [.ref ((vX X).2.2.2.2.2 + 204), .ref ((vX X).2.2.2.2.2 + 205), .ref ((vX X).2.2.2.2.2 + 206), .int 0, .ref ((vX X).2.2.2.2.2 + 207), .int 0, .ref ((vX X).2.2.2.2.2 + 208), .int 0, .int 0, .ref ((vX X).2.2.2.2.2 + 209), .int 0, .int 0, .ref ((vX X).2.2.2.2.2 + 210), .ref ((vX X).2.2.2.2.2 + 211), .ref ((vX X).2.2.2.2.2 + 212), .ref ((vX X).2.2.2.2.2 + 213), .ref ((vX X).2.2.2.2.2 + 214), .ref ((vX X).2.2.2.2.2 + 215), .ref ((vX X).2.2.2.2.2 + 216), .ref ((vX X).2.2.2.2.2 + 217), .ref ((vX X).2.2.2.2.2 + 218), .ref ((vX X).2.2.2.2.2 + 219), .ref ((vX X).2.2.2.2.2 + 220), .ref ((vX X).2.2.2.2.2 + 221), .int 0, .ref ((vX X).2.2.2.2.2 + 222), .ref ((vX X).2.2.2.2.2 + 223), .int 0, .ref ((vX X).2.2.2.2.2 + 224), .ref ((vX X).2.2.2.2.2 + 225), .ref ((vX X).2.2.2.2.2 + 226), .ref ((vX X).2.2.2.2.2 + 227), .ref ((vX X).2.2.2.2.2 + 228), .int 0, .ref ((vX X).2.2.2.2.2 + 229), .ref ((vX X).2.2.2.2.2 + 230), .ref ((vX X).2.2.2.2.2 + 231), .int 0, .int 0, .int 0, .null, .null, .null, .null]) (pc := 239) G hi 10 40 dX10_init_239 rfl inX10 tyX10_ok nmX10 (by decide) tw_f_RX10_94 rfl rfl rfl (by decide) f203 (Nat.le_of_ble_eq_true rfl) (fun _ => rfl) (fun _ => rfl) ?_
  generalize hC58 : cup C57 203 _ = C58
  have hF58 : ∀ j, 203 ≤ j → j ≠ 203 → j ≠ 208 → j < 233 → C58 j = cellE (vX X) M0 j := by
    intro j h0 q203 q208 h9
    rw [← hC58]
    rw [cup_ne _ q203]
    exact hF57 j h0 q203 q208 (by omega)
  have hB58 : ∀ j, j < 203 → C58 j = C j := fun j hj => by rw [← hC58, cup_ne _ (by omega)]; exact hB57 j hj
  have f203 : C58 203 = .inr (10, [.ref ((vX X).2.2.2.2.2 + 204), .ref ((vX X).2.2.2.2.2 + 205), .ref ((vX X).2.2.2.2.2 + 206), .int 0, .ref ((vX X).2.2.2.2.2 + 207), .int 0, .ref ((vX X).2.2.2.2.2 + 208), .int 0, .int 0, .ref ((vX X).2.2.2.2.2 + 209), .int 0, .int 0, .ref ((vX X).2.2.2.2.2 + 210), .ref ((vX X).2.2.2.2.2 + 211), .ref ((vX X).2.2.2.2.2 + 212), .ref ((vX X).2.2.2.2.2 + 213), .ref ((vX X).2.2.2.2.2 + 214), .ref ((vX X).2.2.2.2.2 + 215), .ref ((vX X).2.2.2.2.2 + 216), .ref ((vX X).2.2.2.2.2 + 217), .ref ((vX X).2.2.2.2.2 + 218), .ref ((vX X).2.2.2.2.2 + 219), .ref ((vX X).2.2.2.2.2 + 220), .ref ((vX X).2.2.2.2.2 + 221), .int 0, .ref ((vX X).2.2.2.2.2 + 222), .ref ((vX X).2.2.2.2.2 + 223), .int 0, .ref ((vX X).2.2.2.2.2 + 224), .ref ((vX X).2.2.2.2.2 + 225), .ref ((vX X).2.2.2.2.2 + 226), .ref ((vX X).2.2.2.2.2 + 227), .ref ((vX X).2.2.2.2.2 + 228), .int 0, .ref ((vX X).2.2.2.2.2 + 229), .ref ((vX X).2.2.2.2.2 + 230), .ref ((vX X).2.2.2.2.2 + 231), .int 0, .int 0, .int 0, .ref ((vX X).2.2.2.2.2 + 232), .null, .null, .null]) := by rw [← hC58, cup_same] <;> rfl
  have f208 : C58 208 = .inl ((vX X).2.2.1, 3, .inl (fun _ => 0)) := by rw [← hC58, cup_ne _ (by decide)]; exact f208
  clear hC58
  refine bm_aload (i := 0) (t := 17) (pc := 242) G dX10_init_242 rfl rfl rfl (by decide) ?_
  refine bm_sipush (pc := 243) G dX10_init_243 (by decide) ?_
  refine bm_newi (pc := 246) G 128 dX10_init_246 (by decide) (hR.le (by decide) (by decide)) ?_
  generalize hC59 : cup C58 233 _ = C59
  have hF59 : ∀ j, 203 ≤ j → j ≠ 203 → j ≠ 208 → j < 234 → C59 j = cellE (vX X) M0 j := by
    intro j h0 q203 q208 h9
    rw [← hC59]
    by_cases h : j = 233
    · subst h; rw [cup_same]; exact (cellZ_i (vX X) (k := 233) (n := 128) rfl (by decide) (by decide)).symm
    · rw [cup_ne _ h]; exact hF58 j h0 q203 q208 (by omega)
  have hB59 : ∀ j, j < 203 → C59 j = C j := fun j hj => by rw [← hC59, cup_ne _ (by omega)]; exact hB58 j hj
  have f203 : C59 203 = .inr (10, [.ref ((vX X).2.2.2.2.2 + 204), .ref ((vX X).2.2.2.2.2 + 205), .ref ((vX X).2.2.2.2.2 + 206), .int 0, .ref ((vX X).2.2.2.2.2 + 207), .int 0, .ref ((vX X).2.2.2.2.2 + 208), .int 0, .int 0, .ref ((vX X).2.2.2.2.2 + 209), .int 0, .int 0, .ref ((vX X).2.2.2.2.2 + 210), .ref ((vX X).2.2.2.2.2 + 211), .ref ((vX X).2.2.2.2.2 + 212), .ref ((vX X).2.2.2.2.2 + 213), .ref ((vX X).2.2.2.2.2 + 214), .ref ((vX X).2.2.2.2.2 + 215), .ref ((vX X).2.2.2.2.2 + 216), .ref ((vX X).2.2.2.2.2 + 217), .ref ((vX X).2.2.2.2.2 + 218), .ref ((vX X).2.2.2.2.2 + 219), .ref ((vX X).2.2.2.2.2 + 220), .ref ((vX X).2.2.2.2.2 + 221), .int 0, .ref ((vX X).2.2.2.2.2 + 222), .ref ((vX X).2.2.2.2.2 + 223), .int 0, .ref ((vX X).2.2.2.2.2 + 224), .ref ((vX X).2.2.2.2.2 + 225), .ref ((vX X).2.2.2.2.2 + 226), .ref ((vX X).2.2.2.2.2 + 227), .ref ((vX X).2.2.2.2.2 + 228), .int 0, .ref ((vX X).2.2.2.2.2 + 229), .ref ((vX X).2.2.2.2.2 + 230), .ref ((vX X).2.2.2.2.2 + 231), .int 0, .int 0, .int 0, .ref ((vX X).2.2.2.2.2 + 232), .null, .null, .null]) := by rw [← hC59, cup_ne _ (by decide)]; exact f203
  have f208 : C59 208 = .inl ((vX X).2.2.1, 3, .inl (fun _ => 0)) := by rw [← hC59, cup_ne _ (by decide)]; exact f208
  clear hC59
  refine bm_putR (t := 225) (o := 203) (q := 233) (fs := [.ref ((vX X).2.2.2.2.2 + 204), .ref ((vX X).2.2.2.2.2 + 205), .ref ((vX X).2.2.2.2.2 + 206), .int 0, .ref ((vX X).2.2.2.2.2 + 207), .int 0, .ref ((vX X).2.2.2.2.2 + 208), .int 0, .int 0, .ref ((vX X).2.2.2.2.2 + 209), .int 0, .int 0, .ref ((vX X).2.2.2.2.2 + 210), .ref ((vX X).2.2.2.2.2 + 211), .ref ((vX X).2.2.2.2.2 + 212), .ref ((vX X).2.2.2.2.2 + 213), .ref ((vX X).2.2.2.2.2 + 214), .ref ((vX X).2.2.2.2.2 + 215), .ref ((vX X).2.2.2.2.2 + 216), .ref ((vX X).2.2.2.2.2 + 217), .ref ((vX X).2.2.2.2.2 + 218), .ref ((vX X).2.2.2.2.2 + 219), .ref ((vX X).2.2.2.2.2 + 220), .ref ((vX X).2.2.2.2.2 + 221), .int 0, .ref ((vX X).2.2.2.2.2 + 222), .ref ((vX X).2.2.2.2.2 + 223), .int 0, .ref ((vX X).2.2.2.2.2 + 224), .ref ((vX X).2.2.2.2.2 + 225), .ref ((vX X).2.2.2.2.2 + 226), .ref ((vX X).2.2.2.2.2 + 227), .ref ((vX X).2.2.2.2.2 + 228), .int 0, .ref ((vX X).2.2.2.2.2 + 229), .ref ((vX X).2.2.2.2.2 + 230), .ref ((vX X).2.2.2.2.2 + 231), .int 0, .int 0, .int 0, .ref ((vX X).2.2.2.2.2 + 232), .null, .null, .null]) (pc := 248) G hi 10 41 dX10_init_248 rfl inX10 tyX10_ok nmX10 (by decide) tw_f_RX10_97 rfl rfl rfl (by decide) f203 (Nat.le_of_ble_eq_true rfl) (fun _ => rfl) (fun _ => rfl) ?_
  generalize hC60 : cup C59 203 _ = C60
  have hF60 : ∀ j, 203 ≤ j → j ≠ 203 → j ≠ 208 → j < 234 → C60 j = cellE (vX X) M0 j := by
    intro j h0 q203 q208 h9
    rw [← hC60]
    rw [cup_ne _ q203]
    exact hF59 j h0 q203 q208 (by omega)
  have hB60 : ∀ j, j < 203 → C60 j = C j := fun j hj => by rw [← hC60, cup_ne _ (by omega)]; exact hB59 j hj
  have f203 : C60 203 = .inr (10, [.ref ((vX X).2.2.2.2.2 + 204), .ref ((vX X).2.2.2.2.2 + 205), .ref ((vX X).2.2.2.2.2 + 206), .int 0, .ref ((vX X).2.2.2.2.2 + 207), .int 0, .ref ((vX X).2.2.2.2.2 + 208), .int 0, .int 0, .ref ((vX X).2.2.2.2.2 + 209), .int 0, .int 0, .ref ((vX X).2.2.2.2.2 + 210), .ref ((vX X).2.2.2.2.2 + 211), .ref ((vX X).2.2.2.2.2 + 212), .ref ((vX X).2.2.2.2.2 + 213), .ref ((vX X).2.2.2.2.2 + 214), .ref ((vX X).2.2.2.2.2 + 215), .ref ((vX X).2.2.2.2.2 + 216), .ref ((vX X).2.2.2.2.2 + 217), .ref ((vX X).2.2.2.2.2 + 218), .ref ((vX X).2.2.2.2.2 + 219), .ref ((vX X).2.2.2.2.2 + 220), .ref ((vX X).2.2.2.2.2 + 221), .int 0, .ref ((vX X).2.2.2.2.2 + 222), .ref ((vX X).2.2.2.2.2 + 223), .int 0, .ref ((vX X).2.2.2.2.2 + 224), .ref ((vX X).2.2.2.2.2 + 225), .ref ((vX X).2.2.2.2.2 + 226), .ref ((vX X).2.2.2.2.2 + 227), .ref ((vX X).2.2.2.2.2 + 228), .int 0, .ref ((vX X).2.2.2.2.2 + 229), .ref ((vX X).2.2.2.2.2 + 230), .ref ((vX X).2.2.2.2.2 + 231), .int 0, .int 0, .int 0, .ref ((vX X).2.2.2.2.2 + 232), .ref ((vX X).2.2.2.2.2 + 233), .null, .null]) := by rw [← hC60, cup_same] <;> rfl
  have f208 : C60 208 = .inl ((vX X).2.2.1, 3, .inl (fun _ => 0)) := by rw [← hC60, cup_ne _ (by decide)]; exact f208
  clear hC60
  refine bm_aload (i := 0) (t := 17) (pc := 251) G dX10_init_251 rfl rfl rfl (by decide) ?_
  refine bm_sipush (pc := 252) G dX10_init_252 (by decide) ?_
  refine bm_newi (pc := 255) G 128 dX10_init_255 (by decide) (hR.le (by decide) (by decide)) ?_
  generalize hC61 : cup C60 234 _ = C61
  have hF61 : ∀ j, 203 ≤ j → j ≠ 203 → j ≠ 208 → j < 235 → C61 j = cellE (vX X) M0 j := by
    intro j h0 q203 q208 h9
    rw [← hC61]
    by_cases h : j = 234
    · subst h; rw [cup_same]; exact (cellZ_i (vX X) (k := 234) (n := 128) rfl (by decide) (by decide)).symm
    · rw [cup_ne _ h]; exact hF60 j h0 q203 q208 (by omega)
  have hB61 : ∀ j, j < 203 → C61 j = C j := fun j hj => by rw [← hC61, cup_ne _ (by omega)]; exact hB60 j hj
  have f203 : C61 203 = .inr (10, [.ref ((vX X).2.2.2.2.2 + 204), .ref ((vX X).2.2.2.2.2 + 205), .ref ((vX X).2.2.2.2.2 + 206), .int 0, .ref ((vX X).2.2.2.2.2 + 207), .int 0, .ref ((vX X).2.2.2.2.2 + 208), .int 0, .int 0, .ref ((vX X).2.2.2.2.2 + 209), .int 0, .int 0, .ref ((vX X).2.2.2.2.2 + 210), .ref ((vX X).2.2.2.2.2 + 211), .ref ((vX X).2.2.2.2.2 + 212), .ref ((vX X).2.2.2.2.2 + 213), .ref ((vX X).2.2.2.2.2 + 214), .ref ((vX X).2.2.2.2.2 + 215), .ref ((vX X).2.2.2.2.2 + 216), .ref ((vX X).2.2.2.2.2 + 217), .ref ((vX X).2.2.2.2.2 + 218), .ref ((vX X).2.2.2.2.2 + 219), .ref ((vX X).2.2.2.2.2 + 220), .ref ((vX X).2.2.2.2.2 + 221), .int 0, .ref ((vX X).2.2.2.2.2 + 222), .ref ((vX X).2.2.2.2.2 + 223), .int 0, .ref ((vX X).2.2.2.2.2 + 224), .ref ((vX X).2.2.2.2.2 + 225), .ref ((vX X).2.2.2.2.2 + 226), .ref ((vX X).2.2.2.2.2 + 227), .ref ((vX X).2.2.2.2.2 + 228), .int 0, .ref ((vX X).2.2.2.2.2 + 229), .ref ((vX X).2.2.2.2.2 + 230), .ref ((vX X).2.2.2.2.2 + 231), .int 0, .int 0, .int 0, .ref ((vX X).2.2.2.2.2 + 232), .ref ((vX X).2.2.2.2.2 + 233), .null, .null]) := by rw [← hC61, cup_ne _ (by decide)]; exact f203
  have f208 : C61 208 = .inl ((vX X).2.2.1, 3, .inl (fun _ => 0)) := by rw [← hC61, cup_ne _ (by decide)]; exact f208
  clear hC61
  refine bm_putR (t := 225) (o := 203) (q := 234) (fs := [.ref ((vX X).2.2.2.2.2 + 204), .ref ((vX X).2.2.2.2.2 + 205), .ref ((vX X).2.2.2.2.2 + 206), .int 0, .ref ((vX X).2.2.2.2.2 + 207), .int 0, .ref ((vX X).2.2.2.2.2 + 208), .int 0, .int 0, .ref ((vX X).2.2.2.2.2 + 209), .int 0, .int 0, .ref ((vX X).2.2.2.2.2 + 210), .ref ((vX X).2.2.2.2.2 + 211), .ref ((vX X).2.2.2.2.2 + 212), .ref ((vX X).2.2.2.2.2 + 213), .ref ((vX X).2.2.2.2.2 + 214), .ref ((vX X).2.2.2.2.2 + 215), .ref ((vX X).2.2.2.2.2 + 216), .ref ((vX X).2.2.2.2.2 + 217), .ref ((vX X).2.2.2.2.2 + 218), .ref ((vX X).2.2.2.2.2 + 219), .ref ((vX X).2.2.2.2.2 + 220), .ref ((vX X).2.2.2.2.2 + 221), .int 0, .ref ((vX X).2.2.2.2.2 + 222), .ref ((vX X).2.2.2.2.2 + 223), .int 0, .ref ((vX X).2.2.2.2.2 + 224), .ref ((vX X).2.2.2.2.2 + 225), .ref ((vX X).2.2.2.2.2 + 226), .ref ((vX X).2.2.2.2.2 + 227), .ref ((vX X).2.2.2.2.2 + 228), .int 0, .ref ((vX X).2.2.2.2.2 + 229), .ref ((vX X).2.2.2.2.2 + 230), .ref ((vX X).2.2.2.2.2 + 231), .int 0, .int 0, .int 0, .ref ((vX X).2.2.2.2.2 + 232), .ref ((vX X).2.2.2.2.2 + 233), .null, .null]) (pc := 257) G hi 10 42 dX10_init_257 rfl inX10 tyX10_ok nmX10 (by decide) tw_f_RX10_100 rfl rfl rfl (by decide) f203 (Nat.le_of_ble_eq_true rfl) (fun _ => rfl) (fun _ => rfl) ?_
  generalize hC62 : cup C61 203 _ = C62
  have hF62 : ∀ j, 203 ≤ j → j ≠ 203 → j ≠ 208 → j < 235 → C62 j = cellE (vX X) M0 j := by
    intro j h0 q203 q208 h9
    rw [← hC62]
    rw [cup_ne _ q203]
    exact hF61 j h0 q203 q208 (by omega)
  have hB62 : ∀ j, j < 203 → C62 j = C j := fun j hj => by rw [← hC62, cup_ne _ (by omega)]; exact hB61 j hj
  have f203 : C62 203 = .inr (10, [.ref ((vX X).2.2.2.2.2 + 204), .ref ((vX X).2.2.2.2.2 + 205), .ref ((vX X).2.2.2.2.2 + 206), .int 0, .ref ((vX X).2.2.2.2.2 + 207), .int 0, .ref ((vX X).2.2.2.2.2 + 208), .int 0, .int 0, .ref ((vX X).2.2.2.2.2 + 209), .int 0, .int 0, .ref ((vX X).2.2.2.2.2 + 210), .ref ((vX X).2.2.2.2.2 + 211), .ref ((vX X).2.2.2.2.2 + 212), .ref ((vX X).2.2.2.2.2 + 213), .ref ((vX X).2.2.2.2.2 + 214), .ref ((vX X).2.2.2.2.2 + 215), .ref ((vX X).2.2.2.2.2 + 216), .ref ((vX X).2.2.2.2.2 + 217), .ref ((vX X).2.2.2.2.2 + 218), .ref ((vX X).2.2.2.2.2 + 219), .ref ((vX X).2.2.2.2.2 + 220), .ref ((vX X).2.2.2.2.2 + 221), .int 0, .ref ((vX X).2.2.2.2.2 + 222), .ref ((vX X).2.2.2.2.2 + 223), .int 0, .ref ((vX X).2.2.2.2.2 + 224), .ref ((vX X).2.2.2.2.2 + 225), .ref ((vX X).2.2.2.2.2 + 226), .ref ((vX X).2.2.2.2.2 + 227), .ref ((vX X).2.2.2.2.2 + 228), .int 0, .ref ((vX X).2.2.2.2.2 + 229), .ref ((vX X).2.2.2.2.2 + 230), .ref ((vX X).2.2.2.2.2 + 231), .int 0, .int 0, .int 0, .ref ((vX X).2.2.2.2.2 + 232), .ref ((vX X).2.2.2.2.2 + 233), .ref ((vX X).2.2.2.2.2 + 234), .null]) := by rw [← hC62, cup_same] <;> rfl
  have f208 : C62 208 = .inl ((vX X).2.2.1, 3, .inl (fun _ => 0)) := by rw [← hC62, cup_ne _ (by decide)]; exact f208
  clear hC62
  refine bm_aload (i := 0) (t := 17) (pc := 260) G dX10_init_260 rfl rfl rfl (by decide) ?_
  refine bm_sipush (pc := 261) G dX10_init_261 (by decide) ?_
  refine bm_newi (pc := 264) G 256 dX10_init_264 (by decide) (hR.le (by decide) (by decide)) ?_
  generalize hC63 : cup C62 235 _ = C63
  have hF63 : ∀ j, 203 ≤ j → j ≠ 203 → j ≠ 208 → j < 236 → C63 j = cellE (vX X) M0 j := by
    intro j h0 q203 q208 h9
    rw [← hC63]
    by_cases h : j = 235
    · subst h; rw [cup_same]; exact (cellZ_i (vX X) (k := 235) (n := 256) rfl (by decide) (by decide)).symm
    · rw [cup_ne _ h]; exact hF62 j h0 q203 q208 (by omega)
  have hB63 : ∀ j, j < 203 → C63 j = C j := fun j hj => by rw [← hC63, cup_ne _ (by omega)]; exact hB62 j hj
  have f203 : C63 203 = .inr (10, [.ref ((vX X).2.2.2.2.2 + 204), .ref ((vX X).2.2.2.2.2 + 205), .ref ((vX X).2.2.2.2.2 + 206), .int 0, .ref ((vX X).2.2.2.2.2 + 207), .int 0, .ref ((vX X).2.2.2.2.2 + 208), .int 0, .int 0, .ref ((vX X).2.2.2.2.2 + 209), .int 0, .int 0, .ref ((vX X).2.2.2.2.2 + 210), .ref ((vX X).2.2.2.2.2 + 211), .ref ((vX X).2.2.2.2.2 + 212), .ref ((vX X).2.2.2.2.2 + 213), .ref ((vX X).2.2.2.2.2 + 214), .ref ((vX X).2.2.2.2.2 + 215), .ref ((vX X).2.2.2.2.2 + 216), .ref ((vX X).2.2.2.2.2 + 217), .ref ((vX X).2.2.2.2.2 + 218), .ref ((vX X).2.2.2.2.2 + 219), .ref ((vX X).2.2.2.2.2 + 220), .ref ((vX X).2.2.2.2.2 + 221), .int 0, .ref ((vX X).2.2.2.2.2 + 222), .ref ((vX X).2.2.2.2.2 + 223), .int 0, .ref ((vX X).2.2.2.2.2 + 224), .ref ((vX X).2.2.2.2.2 + 225), .ref ((vX X).2.2.2.2.2 + 226), .ref ((vX X).2.2.2.2.2 + 227), .ref ((vX X).2.2.2.2.2 + 228), .int 0, .ref ((vX X).2.2.2.2.2 + 229), .ref ((vX X).2.2.2.2.2 + 230), .ref ((vX X).2.2.2.2.2 + 231), .int 0, .int 0, .int 0, .ref ((vX X).2.2.2.2.2 + 232), .ref ((vX X).2.2.2.2.2 + 233), .ref ((vX X).2.2.2.2.2 + 234), .null]) := by rw [← hC63, cup_ne _ (by decide)]; exact f203
  have f208 : C63 208 = .inl ((vX X).2.2.1, 3, .inl (fun _ => 0)) := by rw [← hC63, cup_ne _ (by decide)]; exact f208
  clear hC63
  refine bm_putR (t := 353) (o := 203) (q := 235) (fs := [.ref ((vX X).2.2.2.2.2 + 204), .ref ((vX X).2.2.2.2.2 + 205), .ref ((vX X).2.2.2.2.2 + 206), .int 0, .ref ((vX X).2.2.2.2.2 + 207), .int 0, .ref ((vX X).2.2.2.2.2 + 208), .int 0, .int 0, .ref ((vX X).2.2.2.2.2 + 209), .int 0, .int 0, .ref ((vX X).2.2.2.2.2 + 210), .ref ((vX X).2.2.2.2.2 + 211), .ref ((vX X).2.2.2.2.2 + 212), .ref ((vX X).2.2.2.2.2 + 213), .ref ((vX X).2.2.2.2.2 + 214), .ref ((vX X).2.2.2.2.2 + 215), .ref ((vX X).2.2.2.2.2 + 216), .ref ((vX X).2.2.2.2.2 + 217), .ref ((vX X).2.2.2.2.2 + 218), .ref ((vX X).2.2.2.2.2 + 219), .ref ((vX X).2.2.2.2.2 + 220), .ref ((vX X).2.2.2.2.2 + 221), .int 0, .ref ((vX X).2.2.2.2.2 + 222), .ref ((vX X).2.2.2.2.2 + 223), .int 0, .ref ((vX X).2.2.2.2.2 + 224), .ref ((vX X).2.2.2.2.2 + 225), .ref ((vX X).2.2.2.2.2 + 226), .ref ((vX X).2.2.2.2.2 + 227), .ref ((vX X).2.2.2.2.2 + 228), .int 0, .ref ((vX X).2.2.2.2.2 + 229), .ref ((vX X).2.2.2.2.2 + 230), .ref ((vX X).2.2.2.2.2 + 231), .int 0, .int 0, .int 0, .ref ((vX X).2.2.2.2.2 + 232), .ref ((vX X).2.2.2.2.2 + 233), .ref ((vX X).2.2.2.2.2 + 234), .null]) (pc := 266) G hi 10 43 dX10_init_266 rfl inX10 tyX10_ok nmX10 (by decide) tw_f_RX10_103 rfl rfl rfl (by decide) f203 (Nat.le_of_ble_eq_true rfl) (fun _ => rfl) (fun _ => rfl) ?_
  generalize hC64 : cup C63 203 _ = C64
  have hF64 : ∀ j, 203 ≤ j → j ≠ 203 → j ≠ 208 → j < 236 → C64 j = cellE (vX X) M0 j := by
    intro j h0 q203 q208 h9
    rw [← hC64]
    rw [cup_ne _ q203]
    exact hF63 j h0 q203 q208 (by omega)
  have hB64 : ∀ j, j < 203 → C64 j = C j := fun j hj => by rw [← hC64, cup_ne _ (by omega)]; exact hB63 j hj
  have f203 : C64 203 = .inr (10, [.ref ((vX X).2.2.2.2.2 + 204), .ref ((vX X).2.2.2.2.2 + 205), .ref ((vX X).2.2.2.2.2 + 206), .int 0, .ref ((vX X).2.2.2.2.2 + 207), .int 0, .ref ((vX X).2.2.2.2.2 + 208), .int 0, .int 0, .ref ((vX X).2.2.2.2.2 + 209), .int 0, .int 0, .ref ((vX X).2.2.2.2.2 + 210), .ref ((vX X).2.2.2.2.2 + 211), .ref ((vX X).2.2.2.2.2 + 212), .ref ((vX X).2.2.2.2.2 + 213), .ref ((vX X).2.2.2.2.2 + 214), .ref ((vX X).2.2.2.2.2 + 215), .ref ((vX X).2.2.2.2.2 + 216), .ref ((vX X).2.2.2.2.2 + 217), .ref ((vX X).2.2.2.2.2 + 218), .ref ((vX X).2.2.2.2.2 + 219), .ref ((vX X).2.2.2.2.2 + 220), .ref ((vX X).2.2.2.2.2 + 221), .int 0, .ref ((vX X).2.2.2.2.2 + 222), .ref ((vX X).2.2.2.2.2 + 223), .int 0, .ref ((vX X).2.2.2.2.2 + 224), .ref ((vX X).2.2.2.2.2 + 225), .ref ((vX X).2.2.2.2.2 + 226), .ref ((vX X).2.2.2.2.2 + 227), .ref ((vX X).2.2.2.2.2 + 228), .int 0, .ref ((vX X).2.2.2.2.2 + 229), .ref ((vX X).2.2.2.2.2 + 230), .ref ((vX X).2.2.2.2.2 + 231), .int 0, .int 0, .int 0, .ref ((vX X).2.2.2.2.2 + 232), .ref ((vX X).2.2.2.2.2 + 233), .ref ((vX X).2.2.2.2.2 + 234), .ref ((vX X).2.2.2.2.2 + 235)]) := by rw [← hC64, cup_same] <;> rfl
  have f208 : C64 208 = .inl ((vX X).2.2.1, 3, .inl (fun _ => 0)) := by rw [← hC64, cup_ne _ (by decide)]; exact f208
  clear hC64
  refine bm_aload (i := 0) (t := 17) (pc := 269) G dX10_init_269 rfl rfl rfl (by decide) ?_
  refine bm_getr (t := 100) (o := 203) (q := 208) (fs := [.ref ((vX X).2.2.2.2.2 + 204), .ref ((vX X).2.2.2.2.2 + 205), .ref ((vX X).2.2.2.2.2 + 206), .int 0, .ref ((vX X).2.2.2.2.2 + 207), .int 0, .ref ((vX X).2.2.2.2.2 + 208), .int 0, .int 0, .ref ((vX X).2.2.2.2.2 + 209), .int 0, .int 0, .ref ((vX X).2.2.2.2.2 + 210), .ref ((vX X).2.2.2.2.2 + 211), .ref ((vX X).2.2.2.2.2 + 212), .ref ((vX X).2.2.2.2.2 + 213), .ref ((vX X).2.2.2.2.2 + 214), .ref ((vX X).2.2.2.2.2 + 215), .ref ((vX X).2.2.2.2.2 + 216), .ref ((vX X).2.2.2.2.2 + 217), .ref ((vX X).2.2.2.2.2 + 218), .ref ((vX X).2.2.2.2.2 + 219), .ref ((vX X).2.2.2.2.2 + 220), .ref ((vX X).2.2.2.2.2 + 221), .int 0, .ref ((vX X).2.2.2.2.2 + 222), .ref ((vX X).2.2.2.2.2 + 223), .int 0, .ref ((vX X).2.2.2.2.2 + 224), .ref ((vX X).2.2.2.2.2 + 225), .ref ((vX X).2.2.2.2.2 + 226), .ref ((vX X).2.2.2.2.2 + 227), .ref ((vX X).2.2.2.2.2 + 228), .int 0, .ref ((vX X).2.2.2.2.2 + 229), .ref ((vX X).2.2.2.2.2 + 230), .ref ((vX X).2.2.2.2.2 + 231), .int 0, .int 0, .int 0, .ref ((vX X).2.2.2.2.2 + 232), .ref ((vX X).2.2.2.2.2 + 233), .ref ((vX X).2.2.2.2.2 + 234), .ref ((vX X).2.2.2.2.2 + 235)]) (pc := 270) G 10 6 dX10_init_270 rfl inX10 (by decide) tw_f_RX10_22 rfl (by decide) f203 rfl ?_
  refine bm_iconst (pc := 273) G dX10_init_273 ?_
  refine bm_iconst (pc := 274) G dX10_init_274 ?_
  refine bm_iast (t := 100) (o := 208) (N := 3) (pc := 275) G dX10_init_275 (by decide) f208 (by decide) (by decide) ?_
  generalize hC65 : cup C64 208 _ = C65
  have hF65 : ∀ j, 203 ≤ j → j ≠ 203 → j ≠ 208 → j < 236 → C65 j = cellE (vX X) M0 j := by
    intro j h0 q203 q208 h9
    rw [← hC65]
    rw [cup_ne _ q208]
    exact hF64 j h0 q203 q208 (by omega)
  have hB65 : ∀ j, j < 203 → C65 j = C j := fun j hj => by rw [← hC65, cup_ne _ (by omega)]; exact hB64 j hj
  have f203 : C65 203 = .inr (10, [.ref ((vX X).2.2.2.2.2 + 204), .ref ((vX X).2.2.2.2.2 + 205), .ref ((vX X).2.2.2.2.2 + 206), .int 0, .ref ((vX X).2.2.2.2.2 + 207), .int 0, .ref ((vX X).2.2.2.2.2 + 208), .int 0, .int 0, .ref ((vX X).2.2.2.2.2 + 209), .int 0, .int 0, .ref ((vX X).2.2.2.2.2 + 210), .ref ((vX X).2.2.2.2.2 + 211), .ref ((vX X).2.2.2.2.2 + 212), .ref ((vX X).2.2.2.2.2 + 213), .ref ((vX X).2.2.2.2.2 + 214), .ref ((vX X).2.2.2.2.2 + 215), .ref ((vX X).2.2.2.2.2 + 216), .ref ((vX X).2.2.2.2.2 + 217), .ref ((vX X).2.2.2.2.2 + 218), .ref ((vX X).2.2.2.2.2 + 219), .ref ((vX X).2.2.2.2.2 + 220), .ref ((vX X).2.2.2.2.2 + 221), .int 0, .ref ((vX X).2.2.2.2.2 + 222), .ref ((vX X).2.2.2.2.2 + 223), .int 0, .ref ((vX X).2.2.2.2.2 + 224), .ref ((vX X).2.2.2.2.2 + 225), .ref ((vX X).2.2.2.2.2 + 226), .ref ((vX X).2.2.2.2.2 + 227), .ref ((vX X).2.2.2.2.2 + 228), .int 0, .ref ((vX X).2.2.2.2.2 + 229), .ref ((vX X).2.2.2.2.2 + 230), .ref ((vX X).2.2.2.2.2 + 231), .int 0, .int 0, .int 0, .ref ((vX X).2.2.2.2.2 + 232), .ref ((vX X).2.2.2.2.2 + 233), .ref ((vX X).2.2.2.2.2 + 234), .ref ((vX X).2.2.2.2.2 + 235)]) := by rw [← hC65, cup_ne _ (by decide)]; exact f203
  have f208 : C65 208 = .inl ((vX X).2.2.1, 3, .inl (upd (fun _ => 0) (Int.toNat 0) (i32 3))) := by rw [← hC65, cup_same] <;> rfl
  clear hC65
  refine bm_aload (i := 0) (t := 17) (pc := 276) G dX10_init_276 rfl rfl rfl (by decide) ?_
  refine bm_getr (t := 100) (o := 203) (q := 208) (fs := [.ref ((vX X).2.2.2.2.2 + 204), .ref ((vX X).2.2.2.2.2 + 205), .ref ((vX X).2.2.2.2.2 + 206), .int 0, .ref ((vX X).2.2.2.2.2 + 207), .int 0, .ref ((vX X).2.2.2.2.2 + 208), .int 0, .int 0, .ref ((vX X).2.2.2.2.2 + 209), .int 0, .int 0, .ref ((vX X).2.2.2.2.2 + 210), .ref ((vX X).2.2.2.2.2 + 211), .ref ((vX X).2.2.2.2.2 + 212), .ref ((vX X).2.2.2.2.2 + 213), .ref ((vX X).2.2.2.2.2 + 214), .ref ((vX X).2.2.2.2.2 + 215), .ref ((vX X).2.2.2.2.2 + 216), .ref ((vX X).2.2.2.2.2 + 217), .ref ((vX X).2.2.2.2.2 + 218), .ref ((vX X).2.2.2.2.2 + 219), .ref ((vX X).2.2.2.2.2 + 220), .ref ((vX X).2.2.2.2.2 + 221), .int 0, .ref ((vX X).2.2.2.2.2 + 222), .ref ((vX X).2.2.2.2.2 + 223), .int 0, .ref ((vX X).2.2.2.2.2 + 224), .ref ((vX X).2.2.2.2.2 + 225), .ref ((vX X).2.2.2.2.2 + 226), .ref ((vX X).2.2.2.2.2 + 227), .ref ((vX X).2.2.2.2.2 + 228), .int 0, .ref ((vX X).2.2.2.2.2 + 229), .ref ((vX X).2.2.2.2.2 + 230), .ref ((vX X).2.2.2.2.2 + 231), .int 0, .int 0, .int 0, .ref ((vX X).2.2.2.2.2 + 232), .ref ((vX X).2.2.2.2.2 + 233), .ref ((vX X).2.2.2.2.2 + 234), .ref ((vX X).2.2.2.2.2 + 235)]) (pc := 277) G 10 6 dX10_init_277 rfl inX10 (by decide) tw_f_RX10_22 rfl (by decide) f203 rfl ?_
  refine bm_iconst (pc := 280) G dX10_init_280 ?_
  refine bm_iconst (pc := 281) G dX10_init_281 ?_
  refine bm_iast (t := 100) (o := 208) (N := 3) (pc := 282) G dX10_init_282 (by decide) f208 (by decide) (by decide) ?_
  generalize hC66 : cup C65 208 _ = C66
  have hF66 : ∀ j, 203 ≤ j → j ≠ 203 → j ≠ 208 → j < 236 → C66 j = cellE (vX X) M0 j := by
    intro j h0 q203 q208 h9
    rw [← hC66]
    rw [cup_ne _ q208]
    exact hF65 j h0 q203 q208 (by omega)
  have hB66 : ∀ j, j < 203 → C66 j = C j := fun j hj => by rw [← hC66, cup_ne _ (by omega)]; exact hB65 j hj
  have f203 : C66 203 = .inr (10, [.ref ((vX X).2.2.2.2.2 + 204), .ref ((vX X).2.2.2.2.2 + 205), .ref ((vX X).2.2.2.2.2 + 206), .int 0, .ref ((vX X).2.2.2.2.2 + 207), .int 0, .ref ((vX X).2.2.2.2.2 + 208), .int 0, .int 0, .ref ((vX X).2.2.2.2.2 + 209), .int 0, .int 0, .ref ((vX X).2.2.2.2.2 + 210), .ref ((vX X).2.2.2.2.2 + 211), .ref ((vX X).2.2.2.2.2 + 212), .ref ((vX X).2.2.2.2.2 + 213), .ref ((vX X).2.2.2.2.2 + 214), .ref ((vX X).2.2.2.2.2 + 215), .ref ((vX X).2.2.2.2.2 + 216), .ref ((vX X).2.2.2.2.2 + 217), .ref ((vX X).2.2.2.2.2 + 218), .ref ((vX X).2.2.2.2.2 + 219), .ref ((vX X).2.2.2.2.2 + 220), .ref ((vX X).2.2.2.2.2 + 221), .int 0, .ref ((vX X).2.2.2.2.2 + 222), .ref ((vX X).2.2.2.2.2 + 223), .int 0, .ref ((vX X).2.2.2.2.2 + 224), .ref ((vX X).2.2.2.2.2 + 225), .ref ((vX X).2.2.2.2.2 + 226), .ref ((vX X).2.2.2.2.2 + 227), .ref ((vX X).2.2.2.2.2 + 228), .int 0, .ref ((vX X).2.2.2.2.2 + 229), .ref ((vX X).2.2.2.2.2 + 230), .ref ((vX X).2.2.2.2.2 + 231), .int 0, .int 0, .int 0, .ref ((vX X).2.2.2.2.2 + 232), .ref ((vX X).2.2.2.2.2 + 233), .ref ((vX X).2.2.2.2.2 + 234), .ref ((vX X).2.2.2.2.2 + 235)]) := by rw [← hC66, cup_ne _ (by decide)]; exact f203
  have f208 : C66 208 = .inl ((vX X).2.2.1, 3, .inl (upd (upd (fun _ => 0) (Int.toNat 0) (i32 3)) (Int.toNat 1) (i32 3))) := by rw [← hC66, cup_same] <;> rfl
  clear hC66
  refine bm_aload (i := 0) (t := 17) (pc := 283) G dX10_init_283 rfl rfl rfl (by decide) ?_
  refine bm_getr (t := 100) (o := 203) (q := 208) (fs := [.ref ((vX X).2.2.2.2.2 + 204), .ref ((vX X).2.2.2.2.2 + 205), .ref ((vX X).2.2.2.2.2 + 206), .int 0, .ref ((vX X).2.2.2.2.2 + 207), .int 0, .ref ((vX X).2.2.2.2.2 + 208), .int 0, .int 0, .ref ((vX X).2.2.2.2.2 + 209), .int 0, .int 0, .ref ((vX X).2.2.2.2.2 + 210), .ref ((vX X).2.2.2.2.2 + 211), .ref ((vX X).2.2.2.2.2 + 212), .ref ((vX X).2.2.2.2.2 + 213), .ref ((vX X).2.2.2.2.2 + 214), .ref ((vX X).2.2.2.2.2 + 215), .ref ((vX X).2.2.2.2.2 + 216), .ref ((vX X).2.2.2.2.2 + 217), .ref ((vX X).2.2.2.2.2 + 218), .ref ((vX X).2.2.2.2.2 + 219), .ref ((vX X).2.2.2.2.2 + 220), .ref ((vX X).2.2.2.2.2 + 221), .int 0, .ref ((vX X).2.2.2.2.2 + 222), .ref ((vX X).2.2.2.2.2 + 223), .int 0, .ref ((vX X).2.2.2.2.2 + 224), .ref ((vX X).2.2.2.2.2 + 225), .ref ((vX X).2.2.2.2.2 + 226), .ref ((vX X).2.2.2.2.2 + 227), .ref ((vX X).2.2.2.2.2 + 228), .int 0, .ref ((vX X).2.2.2.2.2 + 229), .ref ((vX X).2.2.2.2.2 + 230), .ref ((vX X).2.2.2.2.2 + 231), .int 0, .int 0, .int 0, .ref ((vX X).2.2.2.2.2 + 232), .ref ((vX X).2.2.2.2.2 + 233), .ref ((vX X).2.2.2.2.2 + 234), .ref ((vX X).2.2.2.2.2 + 235)]) (pc := 284) G 10 6 dX10_init_284 rfl inX10 (by decide) tw_f_RX10_22 rfl (by decide) f203 rfl ?_
  refine bm_iconst (pc := 287) G dX10_init_287 ?_
  refine bm_iconst (pc := 288) G dX10_init_288 ?_
  refine bm_iast (t := 100) (o := 208) (N := 3) (pc := 289) G dX10_init_289 (by decide) f208 (by decide) (by decide) ?_
  generalize hC67 : cup C66 208 _ = C67
  have hF67 : ∀ j, 203 ≤ j → j ≠ 203 → j ≠ 208 → j < 236 → C67 j = cellE (vX X) M0 j := by
    intro j h0 q203 q208 h9
    rw [← hC67]
    rw [cup_ne _ q208]
    exact hF66 j h0 q203 q208 (by omega)
  have hB67 : ∀ j, j < 203 → C67 j = C j := fun j hj => by rw [← hC67, cup_ne _ (by omega)]; exact hB66 j hj
  have f203 : C67 203 = .inr (10, [.ref ((vX X).2.2.2.2.2 + 204), .ref ((vX X).2.2.2.2.2 + 205), .ref ((vX X).2.2.2.2.2 + 206), .int 0, .ref ((vX X).2.2.2.2.2 + 207), .int 0, .ref ((vX X).2.2.2.2.2 + 208), .int 0, .int 0, .ref ((vX X).2.2.2.2.2 + 209), .int 0, .int 0, .ref ((vX X).2.2.2.2.2 + 210), .ref ((vX X).2.2.2.2.2 + 211), .ref ((vX X).2.2.2.2.2 + 212), .ref ((vX X).2.2.2.2.2 + 213), .ref ((vX X).2.2.2.2.2 + 214), .ref ((vX X).2.2.2.2.2 + 215), .ref ((vX X).2.2.2.2.2 + 216), .ref ((vX X).2.2.2.2.2 + 217), .ref ((vX X).2.2.2.2.2 + 218), .ref ((vX X).2.2.2.2.2 + 219), .ref ((vX X).2.2.2.2.2 + 220), .ref ((vX X).2.2.2.2.2 + 221), .int 0, .ref ((vX X).2.2.2.2.2 + 222), .ref ((vX X).2.2.2.2.2 + 223), .int 0, .ref ((vX X).2.2.2.2.2 + 224), .ref ((vX X).2.2.2.2.2 + 225), .ref ((vX X).2.2.2.2.2 + 226), .ref ((vX X).2.2.2.2.2 + 227), .ref ((vX X).2.2.2.2.2 + 228), .int 0, .ref ((vX X).2.2.2.2.2 + 229), .ref ((vX X).2.2.2.2.2 + 230), .ref ((vX X).2.2.2.2.2 + 231), .int 0, .int 0, .int 0, .ref ((vX X).2.2.2.2.2 + 232), .ref ((vX X).2.2.2.2.2 + 233), .ref ((vX X).2.2.2.2.2 + 234), .ref ((vX X).2.2.2.2.2 + 235)]) := by rw [← hC67, cup_ne _ (by decide)]; exact f203
  have f208 : C67 208 = .inl ((vX X).2.2.1, 3, .inl (upd (upd (upd (fun _ => 0) (Int.toNat 0) (i32 3)) (Int.toNat 1) (i32 3)) (Int.toNat 2) (i32 2))) := by rw [← hC67, cup_same] <;> rfl
  clear hC67
  refine bm_aload (i := 0) (t := 17) (pc := 290) G dX10_init_290 rfl rfl rfl (by decide) ?_
  refine bm_bipush (pc := 291) G dX10_init_291 (by decide) ?_
  refine bm_puti (o := 203) (fs := [.ref ((vX X).2.2.2.2.2 + 204), .ref ((vX X).2.2.2.2.2 + 205), .ref ((vX X).2.2.2.2.2 + 206), .int 0, .ref ((vX X).2.2.2.2.2 + 207), .int 0, .ref ((vX X).2.2.2.2.2 + 208), .int 0, .int 0, .ref ((vX X).2.2.2.2.2 + 209), .int 0, .int 0, .ref ((vX X).2.2.2.2.2 + 210), .ref ((vX X).2.2.2.2.2 + 211), .ref ((vX X).2.2.2.2.2 + 212), .ref ((vX X).2.2.2.2.2 + 213), .ref ((vX X).2.2.2.2.2 + 214), .ref ((vX X).2.2.2.2.2 + 215), .ref ((vX X).2.2.2.2.2 + 216), .ref ((vX X).2.2.2.2.2 + 217), .ref ((vX X).2.2.2.2.2 + 218), .ref ((vX X).2.2.2.2.2 + 219), .ref ((vX X).2.2.2.2.2 + 220), .ref ((vX X).2.2.2.2.2 + 221), .int 0, .ref ((vX X).2.2.2.2.2 + 222), .ref ((vX X).2.2.2.2.2 + 223), .int 0, .ref ((vX X).2.2.2.2.2 + 224), .ref ((vX X).2.2.2.2.2 + 225), .ref ((vX X).2.2.2.2.2 + 226), .ref ((vX X).2.2.2.2.2 + 227), .ref ((vX X).2.2.2.2.2 + 228), .int 0, .ref ((vX X).2.2.2.2.2 + 229), .ref ((vX X).2.2.2.2.2 + 230), .ref ((vX X).2.2.2.2.2 + 231), .int 0, .int 0, .int 0, .ref ((vX X).2.2.2.2.2 + 232), .ref ((vX X).2.2.2.2.2 + 233), .ref ((vX X).2.2.2.2.2 + 234), .ref ((vX X).2.2.2.2.2 + 235)]) (pc := 293) G 10 7 dX10_init_293 rfl inX10 tyX10_ok nmX10 (by decide) tw_f_RX10_106 rfl rfl (by decide) f203 (Nat.le_of_ble_eq_true rfl) rfl ?_
  generalize hC68 : cup C67 203 _ = C68
  have hF68 : ∀ j, 203 ≤ j → j ≠ 203 → j ≠ 208 → j < 236 → C68 j = cellE (vX X) M0 j := by
    intro j h0 q203 q208 h9
    rw [← hC68]
    rw [cup_ne _ q203]
    exact hF67 j h0 q203 q208 (by omega)
  have hB68 : ∀ j, j < 203 → C68 j = C j := fun j hj => by rw [← hC68, cup_ne _ (by omega)]; exact hB67 j hj
  have f203 : C68 203 = .inr (10, [.ref ((vX X).2.2.2.2.2 + 204), .ref ((vX X).2.2.2.2.2 + 205), .ref ((vX X).2.2.2.2.2 + 206), .int 0, .ref ((vX X).2.2.2.2.2 + 207), .int 0, .ref ((vX X).2.2.2.2.2 + 208), .int (i32 (-6)), .int 0, .ref ((vX X).2.2.2.2.2 + 209), .int 0, .int 0, .ref ((vX X).2.2.2.2.2 + 210), .ref ((vX X).2.2.2.2.2 + 211), .ref ((vX X).2.2.2.2.2 + 212), .ref ((vX X).2.2.2.2.2 + 213), .ref ((vX X).2.2.2.2.2 + 214), .ref ((vX X).2.2.2.2.2 + 215), .ref ((vX X).2.2.2.2.2 + 216), .ref ((vX X).2.2.2.2.2 + 217), .ref ((vX X).2.2.2.2.2 + 218), .ref ((vX X).2.2.2.2.2 + 219), .ref ((vX X).2.2.2.2.2 + 220), .ref ((vX X).2.2.2.2.2 + 221), .int 0, .ref ((vX X).2.2.2.2.2 + 222), .ref ((vX X).2.2.2.2.2 + 223), .int 0, .ref ((vX X).2.2.2.2.2 + 224), .ref ((vX X).2.2.2.2.2 + 225), .ref ((vX X).2.2.2.2.2 + 226), .ref ((vX X).2.2.2.2.2 + 227), .ref ((vX X).2.2.2.2.2 + 228), .int 0, .ref ((vX X).2.2.2.2.2 + 229), .ref ((vX X).2.2.2.2.2 + 230), .ref ((vX X).2.2.2.2.2 + 231), .int 0, .int 0, .int 0, .ref ((vX X).2.2.2.2.2 + 232), .ref ((vX X).2.2.2.2.2 + 233), .ref ((vX X).2.2.2.2.2 + 234), .ref ((vX X).2.2.2.2.2 + 235)]) := by rw [← hC68, cup_same] <;> rfl
  have f208 : C68 208 = .inl ((vX X).2.2.1, 3, .inl (upd (upd (upd (fun _ => 0) (Int.toNat 0) (i32 3)) (Int.toNat 1) (i32 3)) (Int.toNat 2) (i32 2))) := by rw [← hC68, cup_ne _ (by decide)]; exact f208
  clear hC68
  refine bm_ret (pc := 296) G Z dX10_init_296 ?_
  refine hq C68 hB68 (fun j h0 h9 => ?_)
  by_cases hc203 : j = 203
  · subst hc203; rw [f203]; exact fin_203 (vX X)
  by_cases hc208 : j = 208
  · subst hc208; rw [f208]; exact fin_208 (vX X)
  exact hF68 j h0 hc203 hc208 h9
