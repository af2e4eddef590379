/-! the class: of what kind an overlap is -/
def KdF (M M' : Mem) : Prop := ∀ c j : Int, ¬ (31 ≤ c ∧ c ≤ 38) → ¬ (123 ≤ c ∧ c ≤ 126) → ¬ (129 ≤ c ∧ c ≤ 160) → ¬ (c = 127 ∧ j = 6) → M' c j = M c j
theorem KdF.of {M M' : Mem} (h : PkF M M') : KdF M M' := fun c j _ _ h3 h4 => h c j (by omega) h4
theorem KdF.trans {M M' M'' : Mem} (h : KdF M M') (h' : KdF M' M'') : KdF M M'' := fun c j a b d e => by rw [h' c j a b d e, h c j a b d e]
theorem RelC.kd {M M' : Mem} {σ : St} (h : RelC M σ) (hi : Inv σ) (hf : KdF M M') : RelC M' σ := by
  obtain ⟨h1, h2, h3, h4, h5, h6, h7, h8, h9⟩ := h
  have hn := hi.2.2.2.1
  refine ⟨by rw [hf _ _ (by omega) (by omega) (by omega) (by omega)]; exact h1, fun i x hx => by rw [hf _ _ (by omega) (by omega) (by omega) (by omega)]; exact h2 i x hx, fun t a b => (h3 t a b).fr (fun c j _ _ => hf _ _ (by omega) (by omega) (by omega) (by omega)), by rw [hf _ _ (by omega) (by omega) (by omega) (by omega)]; exact h4, fun r a b => ⟨(h5 r a b).1.fr (fun c j _ _ => hf _ _ (by omega) (by omega) (by omega) (by omega)), (h5 r a b).2.fr (fun c j _ _ => hf _ _ (by omega) (by omega) (by omega) (by omega))⟩, fun w a b => by rw [hf _ _ (by omega) (by omega) (by omega) (by omega)]; exact h6 w a b, by rw [hf _ _ (by omega) (by omega) (by omega) (by omega)]; exact h7, ?_, ?_⟩
  · rw [hf 0 11 (by omega) (by omega) (by omega) (by omega), hf 0 12 (by omega) (by omega) (by omega) (by omega)]
    rcases h8 with g | ⟨g1, g2, g3, g4, g5, g6, g7⟩
    · exact Or.inl g
    · exact Or.inr ⟨g1, g2, g3, g4, g5, g6, g7.fr (fun c j _ _ => hf _ _ (by omega) (by omega) (by omega) (by omega))⟩
  · rw [hf 127 0 (by omega) (by omega) (by omega) (by omega)]
    rcases h9 with g | ⟨g1, g2⟩
    · exact Or.inl g
    · exact Or.inr ⟨g1, fun w a b => by rw [hf _ _ (by omega) (by omega) (by omega) (by omega)]; exact g2 w a b⟩
theorem walk_wk {lf rt : Int → T} {nr : Nat} {w : Bool} (hr : ∀ r : Int, 0 ≤ r → r < nr → Wr (lf r) (rt r)) {t : T} (h : Wk t) : Wk (walkF lf rt nr w t).2.2 :=
  walk_keeps (P := Wk) (fun t i r env ht hf h16 => by
    obtain ⟨a1, a2, a3⟩ := ff_spec hf
    exact ht.done (hr r (by omega) (by omega)) a1 a3 h16) 101 [] t h
section KINDAT
variable {V : VV} {M : Mem} {Q : Int → Mem → Prop} {σ : St}
theorem x_kindAt {a b : Int} {i : Nat} (hI : Inv σ) (hC : RelC M σ) (ha : 0 ≤ a ∧ a < σ.nr) (hb : 0 ≤ b ∧ b < σ.nr) (hi : i < (σ.lf a).length) (h : ∀ M' : Mem, KdF M M' → Q (ovK σ.lf σ.rt σ.nr a b i) M') : R_X4_kindAt V a b i M Q := by
  have nr6 := hI.2.2.2.1
  have hr := hI.2.2.2.2.1
  have wa := hr a ha.1 ha.2
  have wb := hr b hb.1 hb.2
  obtain ⟨Z, hZe⟩ : ∃ Z : T4, Z = (σ.lf a, σ.lf b, σ.rt a, σ.rt b) := ⟨_, rfl⟩
  have hZ : Z4 Z := by rw [hZe]; exact ⟨wa.1, wb.1, wa.2.1, wb.2.1⟩
  have z1 : Z.1 = σ.lf a := by rw [hZe]
  have z2 : Z.2.1 = σ.lf b := by rw [hZe]
  have a16 := wa.1.1.1
  apply of_X4_kindAt
  unfold wp_X4_kindAt
  refine x_findPeak hI hC ha hb hi hZe (fun M' f' no => ⟨fun z => by omega, fun _ => ?_⟩) (fun M2 n k s ρ t f2 hJ hK hW hall hrk ht okt => ⟨fun l16 => ⟨fun z => by omega, fun _ => ?_⟩, fun l16 c2 n2 => ⟨fun _ => ?_, fun z => absurd rfl z⟩⟩)
  · have := ovK_none (lf := σ.lf) (rt := σ.rt) (nr := σ.nr) (a := a) (b := b) (i := i) (fun θ hu => no θ hu.1 (by rw [tv_first (by omega), tv_second hZ (by rw [z2]; exact wb.2.2.1), z1, z2]; exact hu.2))
    rw [this] at h
    exact h M' (KdF.of f')
  · have hmg := ji_mgu hZ (by omega) (by rw [z2]; exact wb.2.2.1) hJ hrk
    rw [z1, z2] at hmg
    have e := ovK_mgu hr ha hb hi hmg
    have : kindOf σ.lf σ.rt σ.nr a b i (th Z (jrs k s)) = 3 := by unfold kindOf; rw [if_pos (Or.inl (by rw [← ht]; exact l16))]
    rw [e, this] at h
    exact h M2 (KdF.of f2)
  · have hmg := ji_mgu hZ (by omega) (by rw [z2]; exact wb.2.2.1) hJ hrk
    rw [z1, z2] at hmg
    have eK := ovK_mgu hr ha hb hi hmg
    rw [eK] at h
    clear eK
    have hθ := hmg.1.1
    have hlab : ∀ v : Int, LbT (th Z (jrs k s) v) := fun v => th_lab hZ v
    generalize hth : th Z (jrs k s) = θ at hmg hθ h ht hlab
    have lt : LbT t := by rw [ht]; exact lbt_app (fun v _ => hlab v) (lbt_A wa.1)
    have fl := fo_len t []
    have fl' : (fo t).length ≤ 16 := by simp only [List.length_nil] at fl; unfold fo; omega
    have hf := nmF_ok fl'
    rw [nmd_rl] at c2
    obtain ⟨enA, fA, dA⟩ := done_first hf hθ wa
    obtain ⟨enB, fB, dB, pB⟩ := done_second hf hθ wa.1 wb hi hmg.1.2
    rw [← ht] at fA dA fB dB pB
    have htop : Wk (rl (nmF t) t) := by
      refine ⟨⟨by rw [rl_len]; exact l16, fun _ => (ok_rl _ _ 1).mpr okt⟩, fun e => ?_, fun p hp => ?_⟩
      · have l0 := congrArg List.length e
        rw [rl_len, List.length_nil] at l0
        have := ok_pos (n := 0) okt
        omega
      · unfold rl at hp
        obtain ⟨q, hq, rfl⟩ := List.mem_map.mp hp
        show 0 ≤ nmF t q.1 ∧ nmF t q.1 ≤ 2000
        unfold nmF
        rcases lt q hq with g | g
        · have hm := fo_all t q hq g
          have := List.idxOf_lt_length_of_mem hm
          rw [if_pos hm]; omega
        · rw [if_neg (fun z => by have := fo_neg z; omega)]; omega
    have pos : 0 < (rl (nmF t) t).length := List.length_pos_iff.mpr htop.2.1
    have okRA : ok 1 (app θ (varA (σ.rt a))) := ok_app_t hθ _ 1 (V0_varA wa.2.1) (ok_varA.mpr (wa.2.1.1.ok (i := 0) (List.length_pos_iff.mpr wa.2.2.2.1)))
    have v3 : V0 (repl (varA (σ.lf a)) i (varB (σ.rt b))) := by
      intro p hp
      unfold repl at hp
      rcases List.mem_append.mp hp with hp | hp
      · rcases List.mem_append.mp hp with hp | hp
        · exact V0_varA wa.1 p (List.mem_of_mem_take hp)
        · exact V0_varB wb.2.1 p hp
      · exact V0_varA wa.1 p (List.mem_of_mem_drop hp)
    have lb3 : LbT (repl (varA (σ.lf a)) i (varB (σ.rt b))) := by
      intro p hp
      unfold repl at hp
      rcases List.mem_append.mp hp with hp | hp
      · rcases List.mem_append.mp hp with hp | hp
        · exact lbt_A wa.1 p (List.mem_of_mem_take hp)
        · exact lbt_B wb.2.1 p hp
      · exact lbt_A wa.1 p (List.mem_of_mem_drop hp)
    have okRB : ok 1 (app θ (repl (varA (σ.lf a)) i (varB (σ.rt b)))) := ok_app_t hθ _ 1 v3 (ok_repl _ 1 i _ (ok_varA.mpr (wa.1.1.ok (i := 0) (List.length_pos_iff.mpr wa.2.2.1))) (by rw [varA_len]; exact hi) (ok_varB.mpr (wb.2.1.1.ok (i := 0) (List.length_pos_iff.mpr wb.2.2.2.1))))
    have ne : ∀ {t : T}, ok 1 t → t ≠ [] := fun ho e => by rw [e] at ho; exact absurd ho (by simp [ok])
    obtain ⟨wA, uA⟩ := walkF_rl hf (w := true) hr (lbt_app (fun v _ => hlab v) (lbt_A wa.2.1)).U (ne okRA) okRA
    obtain ⟨wB, uB⟩ := walkF_rl hf (w := true) hr (lbt_app (fun v _ => hlab v) lb3).U (ne okRB) okRB
    have klA : ∀ {env : EnvT}, fitAt (σ.lf a) (rl (nmF t) t) 0 = some env → doneAt (σ.rt a) (rl (nmF t) t) 0 env = rl (nmF t) (app θ (varA (σ.rt a))) := fun e => by
      rw [fA] at e; rw [← Option.some.inj e]; exact dA
    have klB : ∀ {env : EnvT}, fitAt (σ.lf b) (rl (nmF t) t) (app θ ((varA (σ.lf a)).take i)).length = some env → doneAt (σ.rt b) (rl (nmF t) t) (app θ ((varA (σ.lf a)).take i)).length env = rl (nmF t) (app θ (repl (varA (σ.lf a)) i (varB (σ.rt b)))) := fun e => by
      rw [fB] at e; rw [← Option.some.inj e]; exact dB
    have hC2 := hC.kd hI (KdF.of f2)
    unfold kindOf at h
    rw [← ht] at h
    generalize hXA : app θ (varA (σ.rt a)) = XA at h okRA wA uA klA
    generalize hXB : app θ (repl (varA (σ.lf a)) i (varB (σ.rt b))) = XB at h okRB wB uB klB
    refine x_copyAll c2 (by rw [rl_len]; exact l16) (by omega) (fun M4 c4 f4 => ?_)
    refine x_copyAll (c2.fr (fun c j _ _ => f4 c j (by omega))) (by rw [rl_len]; exact l16) (by omega) (fun M6 c6 f6 => ?_)
    have k6 : KdF M2 M6 := fun c j _ _ _ _ => by rw [f6 c j (by omega), f4 c j (by omega)]
    have hC6 := hC2.kd hI k6
    have c147 : Ct M6 147 (rl (nmF t) t) := c4.fr (fun c j _ _ => f6 c j (by omega))
    /- what comes behind the first rewriting -/
    have second : ∀ M8 : Mem, (∀ c j : Int, ¬ (31 ≤ c ∧ c ≤ 38) → ¬ (147 ≤ c ∧ c ≤ 153) → M8 c j = M6 c j) → (XA.length ≤ 16 → Ct M8 147 (rl (nmF t) XA) ∧ Wk (rl (nmF t) XA)) → R_X1_placeOf V i M8 (fun r9 M10 => R_X6_rewrite V b 154 r9 M10 (fun r11 M12 => (16 < (XA.length : Int) → Q 3 M12) ∧ (¬ (16 < (XA.length : Int)) → (r11 ≤ 16 → R_X8_run V 147 1 M12 (fun r13 M14 => (r13 = 0 → R_X8_run V 154 1 M14 (fun r15 M16 => (r15 = 0 → R_X7_isAs V 147 0 154 0 M16 (fun r17 M18 => (r17 = 0 → Q 1 M18) ∧ (¬ (r17 = 0) → Q 2 M18))) ∧ (¬ (r15 = 0) → Q 1 M16))) ∧ (¬ (r13 = 0) → Q 1 M14))) ∧ (¬ (r11 ≤ 16) → Q 3 M12)))) := by
      intro M8 f8 hA8
      have k8 : KdF M6 M8 := fun c j h1 _ h3 _ => f8 c j h1 (by omega)
      have fr8 : ∀ c j : Int, 129 ≤ c → c ≤ 139 → M8 c j = M2 c j := fun c j h1 h2 => by rw [f8 c j (by omega) (by omega), f6 c j (by omega), f4 c j (by omega)]
      have hC8 := hC6.kd hI k8
      have jk8 : JK Z M8 k s := ⟨hK.1.fr (fun c j _ _ => fr8 c j (by omega) (by omega)), fun c hc => by rw [fr8 134 _ (by omega) (by omega), fr8 135 _ (by omega) (by omega)]; exact hK.2 c hc⟩
      refine x_placeOf hZ hJ jk8 (hW.fr (fun j => fr8 136 j (by omega) (by omega))) (fun c hc => by rw [fr8 136 _ (by omega) (by omega)]; exact hall c hc) hrk (by rw [z1]; exact hi) (by rw [z1, hth, ← ht]; exact l16) ?_
      rw [z1, hth]
      have c154 : Ct M8 154 (rl (nmF t) t) := c6.fr (fun c j _ _ => f8 c j (by omega) (by omega))
      have k08 : KdF M M8 := (KdF.of f2).trans (k6.trans k8)
      refine x_rewrite hC8.2.2.2.1 nr6 hb (by omega) (hC8.2.2.2.2.1 b hb.1 hb.2).1.1 (hC8.2.2.2.2.1 b hb.1 hb.2).2.1 wb c154 htop.1 pB (fun M12 f12 e12 => ?_) (fun M12 env f12 e12 l12 => ?_) (fun M12 env e12 l12 o12 c12 f12 => ?_)
      · rw [fB] at e12; cases e12
      · rw [klB e12, rl_len] at l12 ⊢
        rw [if_pos (by omega)] at h
        have k12 : KdF M M12 := k08.trans (fun c j _ _ _ _ => f12 c j (by omega))
        exact ⟨fun _ => h M12 k12, fun _ => ⟨fun z => by omega, fun _ => h M12 k12⟩⟩
      · have wkB := htop.done wb pB e12 l12
        rw [klB e12] at l12 c12 wkB ⊢
        rw [rl_len] at l12 ⊢
        have k12 : KdF M M12 := k08.trans (fun c j _ _ _ _ => f12 c j (by omega) (by omega))
        have hC12 := hC.kd hI k12
        refine ⟨fun z => ?_, fun z => ⟨fun _ => ?_, fun z' => by omega⟩⟩
        · rw [if_pos (by omega)] at h; exact h M12 k12
        · rw [if_neg (by omega)] at h
          obtain ⟨cA, wkA⟩ := hA8 (by omega)
          have c12A : Ct M12 147 (rl (nmF t) XA) := cA.fr (fun c j _ _ => f12 c j (by omega) (by omega))
          refine x_run (b := true) (by simp) hC12.2.2.2.1 nr6 (by omega) (fun r h1 h2 => ⟨(hC12.2.2.2.2.1 r h1 h2).1.1, (hC12.2.2.2.2.1 r h1 h2).2.1, hr r h1 h2⟩) c12A wkA (fun M14 c14 _ f14 => ?_)
          have k14 : KdF M M14 := k12.trans (fun c j _ _ _ _ => f14 c j (by omega) (by omega) (by omega))
          have hC14 := hC.kd hI k14
          have wA' := walk_wk (w := true) hr wkA
          rw [wA] at c14 wA' ⊢
          refine ⟨fun r13 => ?_, fun r13 => ?_⟩
          · refine x_run (b := true) (by simp) hC14.2.2.2.1 nr6 (by omega) (fun r h1 h2 => ⟨(hC14.2.2.2.2.1 r h1 h2).1.1, (hC14.2.2.2.2.1 r h1 h2).2.1, hr r h1 h2⟩) (c12.fr (fun c j _ _ => f14 c j (by omega) (by omega) (by omega))) wkB (fun M16 c16 _ f16 => ?_)
            have k16 : KdF M M16 := k14.trans (fun c j _ _ _ _ => f16 c j (by omega) (by omega) (by omega))
            have wB' := walk_wk (w := true) hr wkB
            rw [wB] at c16 wB' ⊢
            refine ⟨fun r15 => ?_, fun r15 => ?_⟩
            · have cA16 := c14.fr (M' := M16) (fun c j _ _ => f16 c j (by omega) (by omega) (by omega))
              simp only at cA16 c16 wA' wB' r13 r15
              have lA := List.length_pos_iff.mpr wA'.2.1
              have lB := List.length_pos_iff.mpr wB'.2.1
              have sub0 : ∀ {u : T}, Wk u → sub u 0 = u := fun {u} hu => by
                have := ok_fp u [] 1 (hu.1.2 hu.2.1)
                rw [List.append_nil] at this
                unfold sub sz
                rw [List.drop_zero, this, List.take_length]
              refine x_isAs cA16.1 c16.1 (cA16.2 0 lA).1 (c16.2 0 lB).1 wA'.1.1 wB'.1.1 lA lB ?_
              rw [sub0 wA', sub0 wB']
              by_cases e : rl (nmF t) (walkF σ.lf σ.rt σ.nr true XA).2.2 = rl (nmF t) (walkF σ.lf σ.rt σ.nr true XB).2.2
              · rw [if_pos e]
                have e' := rl_inj hf uA uB e
                rw [if_pos ⟨r13, r15, e'⟩] at h
                exact ⟨fun z => by omega, fun _ => h M16 k16⟩
              · rw [if_neg e]
                rw [if_neg (fun z => e (by rw [z.2.2]))] at h
                exact ⟨fun _ => h M16 k16, fun z => absurd rfl z⟩
            · rw [if_neg (fun z => r15 z.2.1)] at h
              exact h M16 k16
          · rw [if_neg (fun z => r13 z.1)] at h
            exact h M14 k14
    refine x_rewrite (i := 0) hC6.2.2.2.1 nr6 ha (by omega) (hC6.2.2.2.2.1 a ha.1 ha.2).1.1 (hC6.2.2.2.2.1 a ha.1 ha.2).2.1 wa c147 htop.1 pos (fun M8 f8 e8 => ?_) (fun M8 env f8 e8 l8 => ?_) (fun M8 env e8 l8 o8 c8 f8 => ?_)
    · rw [fA] at e8; cases e8
    · rw [klA e8, rl_len] at l8 ⊢
      exact second M8 (fun c j h1 _ => f8 c j (by omega)) (fun z => by omega)
    · have wkA := htop.done wa pos e8 l8
      rw [klA e8] at l8 c8 wkA ⊢
      rw [rl_len] at l8 ⊢
      exact second M8 (fun c j h1 h2 => f8 c j (by omega) (by omega)) (fun _ => ⟨c8, wkA⟩)
end KINDAT
