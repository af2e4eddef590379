/-! the class writes the tree of kin, variables by first occurrence -/
theorem flat_ge {F : Nat → T} : ∀ l : List Nat, (∀ c ∈ l, 1 ≤ (F c).length) → l.length ≤ (l.flatMap F).length
  | [], _ => by simp
  | c :: l, h => by
    rw [List.flatMap_cons, List.length_append, List.length_cons]
    have := flat_ge l (fun d hd => h d (List.mem_cons_of_mem _ hd))
    have := h c List.mem_cons_self
    omega
theorem fo_len : ∀ (t : T) (l : List Int), (t.foldl foS l).length ≤ l.length + t.length
  | [], l => by simp
  | p :: t, l => by
    rw [List.foldl_cons]
    have := fo_len t (foS l p)
    have e : (foS l p).length ≤ l.length + 1 := by unfold foS; split <;> simp
    simp only [List.length_cons]; omega
theorem nmd_ok {l : List Int} {t : T} {n : Nat} : ok n (nmd l t) ↔ ok n t := ok_var t _ (fun p => by split <;> rfl) n
theorem take_snoc {t r : T} {m : Nat} {p : Int × Nat} (h : t.drop m = p :: r) : m < t.length ∧ t.take (m + 1) = t.take m ++ [p] ∧ t.drop (m + 1) = r := by
  have hm : m < t.length := by
    by_cases g : m < t.length
    · exact g
    · rw [List.drop_eq_nil_of_le (by omega)] at h; cases h
  rw [List.drop_eq_getElem_cons hm] at h
  simp only [List.cons.injEq] at h
  refine ⟨hm, ?_, h.2⟩
  rw [List.take_succ_eq_append_getElem hm, h.1]
section WRITE
variable {V : VV} {M : Mem} {Q : Int → Mem → Prop} {Z : T4} {i n : Nat} {k : Nat → Nat} {s : Nat → Int}
/-- what writing leaves as it was -/
def WrF (kk : Int) (M N : Mem) : Prop := ∀ c j : Int, c < kk ∨ kk + 6 < c → c ≠ 137 → c ≠ 139 → ¬ (c = 129 ∧ j = 9) → N c j = M c j
theorem x_writeKin {kk : Int} {ρ : Nat → Nat} {t : T} (hZ : Z4 Z) (h : JI Z i n k s []) (hm : JK Z M k s) (hr : Rk Z k s ρ) (h0 : Tm Z 0) (hkk : 139 < kk) (ht : tw Z (th Z (jrs k s)) (k 0) = t) (h16 : t.length ≤ 16) (hok : ok 1 t)
    (hq : ∀ M' : Mem, WrF kk M M' → Ct M' kk (nmd (fo t) t) → Q (fo t).length M') : R_X1_write V kk M Q := by
  have sh : ∀ c, Tm Z c → k c = c → _ := fun c a b => ji_shape hZ h hr a b
  have h48 := fun c hc => (h.kin c hc).1.lt
  have ne1 : ∀ c, Tm Z c → k c = c → 1 ≤ (tw Z (th Z (jrs k s)) c).length := fun c a b => by
    obtain ⟨s1, s2⟩ := sh c a b
    by_cases g : s c < 0
    · rw [(s1 g).2]; simp
    · rw [(s2 (by omega)).2]; simp
  apply of_X1_write
  unfold wp_X1_write wp_X1_write_2
  refine ⟨fun y N => ∃ m : Nat, y = m ∧ m ≤ 48 ∧ Fx 139 139 M N ∧ ∀ c : Nat, c < m → N 139 c = 0, fun y _ => (49 - y).toNat, ⟨0, rfl, by omega, Fx.rf _ _ _, fun c hc => by omega⟩, ?_⟩
  rintro y N ⟨m, rfl, hm48, hF, hN⟩
  unfold wp_X1_write_2_b
  refine ⟨fun d => ?_, fun d => ⟨by omega, ⟨m + 1, by rw [w32_id (by omega) (by omega)]; omega, by omega, hF.set (by omega) (by omega), fun c hc => ?_⟩, by (try dsimp only); rw [w32_id (by omega) (by omega)]; omega⟩⟩
  · have e48 : m = 48 := by omega
    subst e48
    intro M1 h1
    have f1 : ∀ c j : Int, c ≠ kk → M1 c j = N c j := fun c j hc => by rw [h1]; exact mset_cell _ hc _ _ _
    refine ⟨by omega, by omega, ?_⟩
    intro M2 h2
    rw [f1 134 _ (by omega), hF 134 _ (by omega), show M 134 0 = (k 0 : Nat) from (hm.2 0 (by omega)).1] at h2
    have f2 : ∀ c j : Int, c ≠ 137 → M2 c j = M1 c j := fun c j hc => by rw [h2]; exact mset_cell _ hc _ _ _
    have f3 : ∀ c j : Int, ¬ (c = 129 ∧ j = 9) → mset M2 129 9 1 c j = M2 c j := fun c j hc => by unfold mset; rw [if_neg hc]
    unfold wp_X1_write_47
    refine ⟨fun y2 y3 N1 => ∃ (m : Nat) (st : List Nat), y3 = m ∧ m ≤ t.length ∧ y2 = ((fo (t.take m)).length : Nat) ∧ WrF kk M N1 ∧ Cu N1 kk (nmd (fo (t.take m)) (t.take m)) ∧ Stk N1 st ∧ (∀ c ∈ st, Tm Z c ∧ k c = c) ∧ t.drop m = st.reverse.flatMap (tw Z (th Z (jrs k s))) ∧ ∀ a : Nat, a < 16 → N1 139 ((32 + a : Nat) : Int) = if vr a ∈ fo (t.take m) then (((fo (t.take m)).idxOf (vr a) : Nat) : Int) + 1 else 0, fun _ y3 _ => (17 - y3).toNat, ⟨0, [k 0], rfl, by omega, by simp [fo], fun c j c1 c2 c3 c4 => by rw [f3 c j c4, f2 c j c2, f1 c j (by omega), hF c j (by omega)], ⟨?_, fun i hi => by simp [nmd] at hi⟩, ⟨by rw [mset_same]; rfl, fun m c hc => ?_⟩, fun c hc => by simp at hc; rw [hc]; exact h.kin 0 h0, by simp [ht], fun a ha => ?_⟩, ?_⟩
    · rw [f3 kk 0 (by omega), f2 kk 0 (by omega), h1, mset_same]; simp [nmd]
    · rw [f3 137 _ (by omega)]
      have hm0 : m = 0 := by
        by_cases g : m = 0
        · exact g
        · rw [List.getElem?_eq_none (by simp; omega)] at hc; cases hc
      subst hm0
      simp at hc
      rw [h2]
      show mset M1 137 0 (k 0 : Nat) 137 0 = _
      rw [mset_same, hc]
    · rw [f3 139 _ (by omega), f2 139 _ (by omega), f1 139 _ (by omega), hN _ (by omega), if_neg (by simp [fo])]
    rintro y2 y3 N1 ⟨m, st, rfl, hml, rfl, hF1, hC, hS, hst, hd, hmk⟩
    have fin : m = t.length → wp_X1_write_161 V kk ((fo (t.take m)).length : Nat) N1 Q := fun e => by
      rw [e, List.take_length] at hC ⊢
      unfold wp_X1_write_161
      refine x_settle hC ⟨by unfold nmd; simpa using h16, fun _ => nmd_ok.mpr hok⟩ (fun M' c1 c2 => hq M' (fun c j a1 a2 a3 a4 => by rw [c2 c j (by omega)]; exact hF1 c j a1 a2 a3 a4) c1)
    unfold wp_X1_write_47_b
    refine ⟨fun g => fin (by omega), fun g => ?_⟩
    rw [hS.1]
    refine ⟨fun g2 => fin ?_, fun g2 => ?_⟩
    · have : st = [] := List.length_eq_zero_iff.mp (by omega)
      rw [this] at hd
      simp at hd; omega
    · obtain ⟨st', c, rfl⟩ : ∃ st' c, st = st' ++ [c] := ⟨st.dropLast, st.getLast (fun g => by rw [g] at g2; simp at g2), (List.dropLast_concat_getLast _).symm⟩
      intro M5 h5
      rw [List.length_append] at h5
      simp only [List.length_cons, List.length_nil] at h5
      have hc := hst c (by simp)
      have lc := hc.1.lt
      have slen : (st' ++ [c]).length ≤ t.length - m := by
        have := flat_ge (F := tw Z (th Z (jrs k s))) (st' ++ [c]).reverse (fun d hd => by have := hst d (List.mem_reverse.mp hd); exact ne1 d this.1 this.2)
        rw [List.length_reverse] at this
        have e2 : (t.drop m).length = t.length - m := List.length_drop
        rw [hd] at e2
        omega
      rw [List.reverse_append] at hd
      simp only [List.reverse_cons, List.reverse_nil, List.nil_append, List.cons_append, List.flatMap_cons] at hd
      rw [List.length_append] at slen
      simp only [List.length_cons, List.length_nil] at slen
      rw [w32_id (by omega) (by omega)] at h5
      have f5 : ∀ c j : Int, ¬ (c = 129 ∧ j = 9) → M5 c j = N1 c j := fun c j hc => by rw [h5]; unfold mset; rw [if_neg hc]
      have e5 : M5 129 9 = (st'.length : Nat) := by rw [h5, mset_same]; omega
      have top5 : M5 137 (st'.length : Nat) = (c : Nat) := by rw [f5 137 _ (by omega)]; exact hS.2 st'.length c (by simp)
      rw [e5, top5]
      refine ⟨by omega, ?_⟩
      intro v6 h6
      subst h6
      refine ⟨by omega, ?_⟩
      intro v7 h7
      have jk5 : JK Z M5 k s := ⟨hm.1.fr (fun c j a b => by rw [f5 c j (by omega)]; exact hF1 c j (by omega) (by omega) (by omega) (by omega)), fun c hc => by rw [f5 134 _ (by omega), f5 135 _ (by omega), hF1 134 _ (by omega) (by omega) (by omega) (by omega), hF1 135 _ (by omega) (by omega) (by omega) (by omega)]; exact hm.2 c hc⟩
      rw [(jk5.2 c lc).2] at h7
      subst h7
      have st5 : Stk M5 st' := ⟨e5, fun m' c' hc' => by
        rw [f5 137 _ (by omega)]
        refine hS.2 m' c' ?_
        have hl : m' < st'.length := by
          by_cases g : m' < st'.length
          · exact g
          · rw [List.getElem?_eq_none (by omega)] at hc'; cases hc'
        rw [List.getElem?_append_left hl]; exact hc'⟩
      have cu5 : Cu M5 kk (nmd (fo (t.take m)) (t.take m)) := ⟨by rw [f5 _ _ (by omega)]; exact hC.1, fun i hi => by rw [f5 _ _ (by omega), f5 _ _ (by omega)]; exact hC.2 i hi⟩
      have wr5 : WrF kk M M5 := fun c j a1 a2 a3 a4 => by rw [f5 c j a4]; exact hF1 c j a1 a2 a3 a4
      have mk5 : ∀ a : Nat, a < 16 → M5 139 ((32 + a : Nat) : Int) = if vr a ∈ fo (t.take m) then (((fo (t.take m)).idxOf (vr a) : Nat) : Int) + 1 else 0 := fun a ha => by rw [f5 139 _ (by omega)]; exact hmk a ha
      have nl : (nmd (fo (t.take m)) (t.take m)).length = m := by unfold nmd; simp; omega
      refine ⟨fun sc => ?_, fun sc => ?_⟩
      · obtain ⟨c32, ec⟩ := (sh c hc.1 hc.2).1 sc
        rw [ec, List.singleton_append] at hd
        obtain ⟨t1, t2, t3⟩ := take_snoc hd
        have efo : fo (t.take (m + 1)) = foS (fo (t.take m)) (vr (c - 32), 0) := by rw [t2, fo_snoc]
        have put : ∀ (N5 : Mem) (y : Int), (∀ d j : Int, ¬ (d = 139 ∧ j = c) → N5 d j = M5 d j) → N5 139 c = (((fo (t.take (m + 1))).idxOf (vr (c - 32)) : Nat) : Int) + 1 → y = ((fo (t.take (m + 1))).length : Nat) → (∀ a : Nat, a < 16 → 32 + a ≠ c → (if vr a ∈ fo (t.take m) then (((fo (t.take m)).idxOf (vr a) : Nat) : Int) + 1 else 0) = (if vr a ∈ fo (t.take (m + 1)) then (((fo (t.take (m + 1))).idxOf (vr a) : Nat) : Int) + 1 else 0)) → wp_X1_write_143 V kk y m c N5 Q (fun z2 z3 N1 => (∃ (m : Nat) (st : List Nat), z3 = m ∧ m ≤ t.length ∧ z2 = ((fo (t.take m)).length : Nat) ∧ WrF kk M N1 ∧ Cu N1 kk (nmd (fo (t.take m)) (t.take m)) ∧ Stk N1 st ∧ (∀ c ∈ st, Tm Z c ∧ k c = c) ∧ t.drop m = st.reverse.flatMap (tw Z (th Z (jrs k s))) ∧ ∀ a : Nat, a < 16 → N1 139 ((32 + a : Nat) : Int) = if vr a ∈ fo (t.take m) then (((fo (t.take m)).idxOf (vr a) : Nat) : Int) + 1 else 0) ∧ (17 - z3).toNat < (17 - (m : Int)).toNat) := by
          intro N5 y fN eN ey hmarks
          unfold wp_X1_write_143
          have em : w32 ((m : Int) + 1) = ((m + 1 : Nat) : Int) := by rw [w32_id (by omega) (by omega)]; omega
          rw [em]
          clear em
          refine ⟨by omega, ?_⟩
          show R_X7_append V kk _ ((0 : Nat) : Int) N5 _
          have cuN : Cu N5 kk (nmd (fo (t.take m)) (t.take m)) := ⟨by rw [fN _ _ (by omega)]; exact cu5.1, fun i hi => by rw [fN _ _ (by omega), fN _ _ (by omega)]; exact cu5.2 i hi⟩
          refine x_append cuN (by omega) (fun M9 cu9 f9 => ?_)
          refine ⟨⟨m + 1, st', rfl, by omega, ey, fun d j a1 a2 a3 a4 => by rw [f9 d j (by omega), fN d j (by omega)]; exact wr5 d j a1 a2 a3 a4, ?_, ⟨by rw [f9 129 9 (by omega), fN 129 9 (by omega)]; exact st5.1, fun m' c' hc' => by rw [f9 137 _ (by omega), fN 137 _ (by omega)]; exact st5.2 m' c' hc'⟩, fun d hd' => hst d (by simp [hd']), t3, fun a ha => ?_⟩, by omega⟩
          · have := nmd_snoc (t.take m) (vr (c - 32), 0)
            rw [← t2, if_pos (show vr (c - 32) < 0 from vr_lt _)] at this
            rw [this]
            rw [eN, efo] at cu9
            exact cu9
          · rw [f9 139 _ (by omega)]
            by_cases e : 32 + a = c
            · have ea : a = c - 32 := by omega
              rw [e, eN, ea, if_pos (by rw [efo]; exact foS_new (vr_lt _))]
            · rw [fN 139 _ (by omega), mk5 a ha]; exact hmarks a ha e
        have mc := mk5 (c - 32) (by omega)
        rw [show 32 + (c - 32) = c by omega] at mc
        have inj : ∀ a : Nat, 32 + a ≠ c → vr a ≠ vr (c - 32) := fun a ha e => by unfold vr at e; omega
        refine ⟨by omega, fun z => ⟨by omega, ?_⟩, fun z => ?_⟩
        · have nin : vr (c - 32) ∉ fo (t.take m) := fun g => by rw [if_pos g] at mc; omega
          have efo2 : fo (t.take (m + 1)) = fo (t.take m) ++ [vr (c - 32)] := by rw [efo]; unfold foS; rw [if_pos ⟨vr_lt _, nin⟩]
          have fl : (fo (t.take m)).length ≤ 16 := by
            have := fo_len (t.take m) []
            simp only [List.length_nil, List.length_take] at this
            unfold fo; omega
          rw [w32_id (by omega) (by omega)]
          refine put _ _ (fun d j hd' => by unfold mset; rw [if_neg hd']) ?_ ?_ (fun a ha e => ?_)
          · rw [mset_same, efo2, List.idxOf_append, if_neg nin]; simp
          · rw [efo2]; simp
          · rw [efo2]
            by_cases g : vr a ∈ fo (t.take m)
            · rw [if_pos g, if_pos (List.mem_append.mpr (Or.inl g)), List.idxOf_append, if_pos g]
            · rw [if_neg g, if_neg (by simp; exact ⟨g, inj a e⟩)]
        · have yin : vr (c - 32) ∈ fo (t.take m) := by
            by_cases g : vr (c - 32) ∈ fo (t.take m)
            · exact g
            · rw [if_neg g] at mc; omega
          have efo2 : fo (t.take (m + 1)) = fo (t.take m) := by rw [efo]; unfold foS; rw [if_neg (fun g => g.2 yin)]
          refine put M5 _ (fun d j _ => rfl) ?_ ?_ (fun a ha e => ?_)
          · rw [mc, if_pos yin, efo2]
          · rw [efo2]
          · rw [efo2]
      · obtain ⟨px, ec⟩ := (sh c hc.1 hc.2).2 (by omega)
        rw [ec, List.cons_append] at hd
        obtain ⟨t1, t2, t3⟩ := take_snoc hd
        have em : w32 ((m : Int) + 1) = ((m + 1 : Nat) : Int) := by rw [w32_id (by omega) (by omega)]; omega
        rw [em]
        clear em
        have hpt : ∀ j, j < nar Z (s c).toNat → Tm Z (pt Z k s c j) ∧ k (pt Z k s c j) = pt Z k s c j := fun j hj => by
          obtain ⟨a1, -, a3⟩ := ji_pt hZ h lc (show 0 ≤ s c by omega) hj
          exact ⟨a1, a3⟩
        have hn16 : nar Z (s c).toNat ≤ 16 := by
          have g := flat_ge (F := fun j => tw Z (th Z (jrs k s)) (pt Z k s c j)) (List.range (nar Z (s c).toNat)) (fun j hj => by
            obtain ⟨a1, a2⟩ := hpt j (List.mem_range.mp hj)
            exact ne1 _ a1 a2)
          have e2 : (t.drop (m + 1)).length = t.length - (m + 1) := List.length_drop
          rw [t3, List.length_append] at e2
          rw [List.length_range] at g
          omega
        have lab := (tv_node (τ := fun v => [(v, 0)]) hZ px.2.1 px.2.2).2.1
        have efo : fo (t.take (m + 1)) = fo (t.take m) := by
          rw [t2, fo_snoc]; unfold foS; rw [if_neg (fun z => by have := z.1; simp only at this; omega)]
        have enm := nmd_snoc (t.take m) (nlb Z (s c).toNat, nar Z (s c).toNat)
        rw [← t2, if_neg (show ¬ nlb Z (s c).toNat < 0 by omega)] at enm
        have ept : ∀ j, pt Z k s c j = k (tm Z (nch Z (s c).toNat j)) := fun _ => rfl
        generalize hx : (s c).toNat = x at px t2 t3 hpt hn16 lab efo enm ept
        have sx : s c = (x : Nat) := by omega
        have lx := px.1
        rw [sx, (jk5.1 x lx).1, (jk5.1 x lx).2.1]
        refine ⟨by omega, by omega, ?_⟩
        refine x_append cu5 (by omega) (fun M11 cu11 f11 => ?_)
        refine x_awaitParts hZ ⟨jk5.1.fr (fun c j _ _ => f11 c j (by omega)), fun c hc => by rw [f11 134 _ (by omega), f11 135 _ (by omega)]; exact jk5.2 c hc⟩ px (st := st') ⟨by rw [f11 129 9 (by omega)]; exact st5.1, fun m' c' hc' => by rw [f11 137 _ (by omega)]; exact st5.2 m' c' hc'⟩ (by omega) h48 (fun M13 f13 st13 => ?_)
        refine ⟨⟨m + 1, _, rfl, by omega, by rw [efo], fun d j a1 a2 a3 a4 => by rw [f13 d j a2 a4, f11 d j (by omega)]; exact wr5 d j a1 a2 a3 a4, ?_, st13, fun d hd' => ?_, ?_, fun a ha => ?_⟩, by (try dsimp only); omega⟩
        · rw [enm]
          exact ⟨by rw [f13 _ _ (by omega) (by omega)]; exact cu11.1, fun i hi => by rw [f13 _ _ (by omega) (by omega), f13 _ _ (by omega) (by omega)]; exact cu11.2 i hi⟩
        · rcases List.mem_append.mp hd' with g | g
          · exact hst d (by simp [g])
          · obtain ⟨j, hj, rfl⟩ := List.mem_map.mp (List.mem_reverse.mp g)
            have := hpt j (List.mem_range.mp hj)
            rw [ept j] at this
            exact this
        · rw [t3, List.reverse_append, List.reverse_reverse, List.flatMap_append, List.flatMap_map]
          simp only [ept]
        · rw [f13 139 _ (by omega) (by omega), f11 139 _ (by omega), efo]; exact mk5 a ha
  · by_cases e : c = m
    · rw [e, mset_same]
    · rw [mset_idx _ _ _ (by omega)]; exact hN c (by omega)
end WRITE
