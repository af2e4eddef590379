/-! edits, moved -/
theorem StP.turn1 {s t : T} {g : Ldg} {st : (Nat → Bool) × (Nat → Bool) × List (Nat × Nat)} {x : Nat} (h : StP s t g st) (hx : x < s.length) : StP s t g (mvStep s t st x) := by
  unfold mvStep
  cases hu : st.1 x with
  | true => exact h
  | false =>
    simp only [Bool.false_eq_true, if_false]
    cases hf : (List.range t.length).find? (fun y => !st.2.1 y && decide (sub s x = sub t y)) with
    | none => exact h
    | some y =>
      have h1 := List.find?_some hf
      have h2 := List.mem_of_find?_eq_some hf
      simp only [Bool.and_eq_true, Bool.not_eq_true', decide_eq_true_eq] at h1
      exact h.step hx (by simpa using h2) h1.2 hu
theorem StP.all {s t : T} {g : Ldg} : ∀ (l : List Nat) (st : (Nat → Bool) × (Nat → Bool) × List (Nat × Nat)), StP s t g st → (∀ x ∈ l, x < s.length) → StP s t g (l.foldl (mvStep s t) st)
  | [], st, h, _ => h
  | x :: l, st, h, hl => StP.all l _ (h.turn1 (hl x List.mem_cons_self)) (fun z hz => hl z (List.mem_cons_of_mem _ hz))
theorem mv_len {s t : T} {g : Ldg} (s16 : s.length ≤ 16) : (mvAll s t g).length ≤ s.length ∧ ∀ p ∈ mvAll s t g, p.1 < s.length ∧ p.2 < t.length := by
  have := StP.all (mvOrd s) _ (StP.start s t g) (fun x hx => (mvOrd_mem s16).mp hx)
  refine ⟨Nat.le_trans this.2.2.2 cnt_le, fun p hp => ?_⟩
  have h := this.2.2.1 p hp
  exact ⟨h.1, h.2.1⟩
section EDITS
variable {V : VV} {M : Mem} {Q : Int → Mem → Prop}
theorem x_pairAt {i : Int} {P : List (Nat × Nat)} (h16 : P.length ≤ 16) (hP : ∀ p ∈ P, p.1 < 16 ∧ p.2 < 16) (h0 : M 20 0 = P.length) (hp : ∀ (i : Nat) (p : Nat × Nat), P[i]? = some p → M 21 i = p.1 ∧ M 22 i = p.2) (q1 : ¬ (0 ≤ i ∧ i < P.length) → Q (-6) M) (q2 : ∀ (n : Nat) (p : Nat × Nat), i = n → P[n]? = some p → Q (100 * (p.1 : Int) + p.2) M) : R_X3_pairAt V i M Q := by
  apply of_X3_pairAt
  unfold wp_X3_pairAt
  rw [h0]
  refine ⟨fun c => q1 (by omega), fun c => ⟨fun d => q1 (by omega), fun d => ⟨fun e => by omega, fun e => ⟨by omega, by omega, ?_⟩⟩⟩⟩
  obtain ⟨n, rfl⟩ : ∃ n : Nat, i = n := ⟨i.toNat, by omega⟩
  have hn : n < P.length := by omega
  have hg := List.getElem?_eq_getElem hn
  have hb := hP _ (List.mem_of_getElem? hg)
  have := hp n _ hg
  rw [this.1, this.2, w32_id (x := 100 * _) (by omega) (by omega), w32_id (by omega) (by omega)]
  exact q2 n _ rfl hg
theorem op_moved {s t i : Int} (hR : Rel M) : R_X9_moved V s t i M (fun r1 M1 => R_X10_moved V s t i M1 (fun r2 M2 => r1 = r2 ∧ Rel M2)) := by
  obtain ⟨σ, hI, hC, hM⟩ := hR
  apply of_X9_moved
  unfold wp_X9_moved
  refine x_leads hI hC (fun hne => ⟨fun _ => ?_, fun c => by omega⟩) (fun M1 s1 s2 t1 t2 ns nt lk hC1 f1 => ⟨fun c => by omega, fun _ => ?_⟩)
  · apply of_X10_moved
    unfold wp_X10_moved
    apply m_areBoth
    rw [if_neg]
    · exact ⟨fun _ => ⟨rfl, σ, hI, hC, hM⟩, fun c => by omega⟩
    · rintro ⟨a, b, c, d⟩
      exact hne ⟨⟨a, (Mem.emp hM a.1 a.2).mp c⟩, b, (Mem.emp hM b.1 b.2).mp d⟩
  · have hM1 : RelM M1 σ := hM.fr (fun c j hc => f1 _ _ (by omega))
    have ws := (hI.2.2.1 s s1 s2).1
    have wt := (hI.2.2.1 t t1 t2).1
    have s16 := ws.1
    have t16 := wt.1
    obtain ⟨g, hl, -, -, -, -, l20, -, l21⟩ := lk
    have ml := mv_len (t := σ.tr t) (g := g) s16
    have mdl : ∀ r : Int, (¬ (0 ≤ i ∧ i < (mvAll (σ.tr s) (σ.tr t) g).length) → r = -6) → (∀ (n : Nat) (p : Nat × Nat), i = n → (mvAll (σ.tr s) (σ.tr t) g)[n]? = some p → r = 100 * (p.1 : Int) + p.2) → R_X10_moved V s t i M1 (fun r2 M2 => r = r2 ∧ Rel M2) := by
      intro r a1 a2
      apply of_X10_moved
      unfold wp_X10_moved
      apply m_areBoth
      rw [if_pos ⟨⟨s1, s2⟩, ⟨t1, t2⟩, (Mem.emp hM1 s1 s2).mpr ns, (Mem.emp hM1 t1 t2).mpr nt⟩]
      refine ⟨fun c => by omega, fun _ => ?_⟩
      refine m_layMoved ⟨s1, s2⟩ ⟨t1, t2⟩ (hM1.2.2.1 s s1 s2) (hM1.2.2.1 t t1 t2) ws wt (List.length_pos_iff.mpr ns) (List.length_pos_iff.mpr nt) hM1.2.2.2.2.2.1 hI.2.2.2.2.2.1 hl (fun M3 _ _ _ m3 f3 => ?_)
      have fin : Rel M3 := ⟨σ, hI, hC1.fr hI (fun c j hc => f3 _ _ (by omega) (by omega)), hM1.core hI (fun c j hc => by unfold corM at hc; exact f3 _ _ (by omega) (by omega))⟩
      rw [m3.1, w32_id (by omega) (by omega)]
      apply m_in
      by_cases hi : 0 ≤ i ∧ i ≤ ((mvAll (σ.tr s) (σ.tr t) g).length : Int) - 1
      · rw [if_pos hi]
        refine ⟨fun c => by omega, fun _ => ⟨by omega, by omega, ?_, fin⟩⟩
        obtain ⟨n, rfl⟩ : ∃ n : Nat, i = n := ⟨i.toNat, by omega⟩
        have hn : n < (mvAll (σ.tr s) (σ.tr t) g).length := by omega
        have hg := List.getElem?_eq_getElem hn
        have hb := ml.2 _ (List.mem_of_getElem? hg)
        have e := m3.2.2 n _ hg
        rw [e.1, e.2, w32_id (x := 100 * _) (by omega) (by omega), w32_id (by omega) (by omega)]
        exact a2 n _ rfl hg
      · rw [if_neg hi]
        exact ⟨fun _ => ⟨a1 (by omega), fin⟩, fun c => by omega⟩
    refine x_pairAt (by omega) (fun p hp => by have := ml.2 p hp; omega) l20 l21 (fun hne => mdl _ (fun _ => rfl) (fun n p hn hp => ?_)) (fun n p hn hp => mdl _ (fun hne => ?_) (fun n' p' hn' hp' => ?_))
    · exfalso
      have : n < (mvAll (σ.tr s) (σ.tr t) g).length := by
        rcases Nat.lt_or_ge n (mvAll (σ.tr s) (σ.tr t) g).length with w | w
        · exact w
        · rw [List.getElem?_eq_none w] at hp; cases hp
      omega
    · exfalso
      have : n < (mvAll (σ.tr s) (σ.tr t) g).length := by
        rcases Nat.lt_or_ge n (mvAll (σ.tr s) (σ.tr t) g).length with w | w
        · exact w
        · rw [List.getElem?_eq_none w] at hp; cases hp
      omega
    · have : n' = n := by omega
      subst this
      rw [hp] at hp'
      rw [Option.some.inj hp']
theorem m_edits38 {u w x3 : Int} {s t : T} {g : Ldg} (hu : 0 ≤ u ∧ u ≤ 5) (hw : 0 ≤ w ∧ w ≤ 5) (ms : Mt M u s) (mt : Mt M w t) (s16 : s.length ≤ 16) (t16 : t.length ≤ 16) (hg : Lead s t g) (hr : ∀ a : Nat, a < s.length → M 220 a = rowL g a) (h10 : M 203 10 = s.length) (h11 : M 203 11 = t.length) (hm : MM M s (mvAll s t g))
    (h : Q (if x3 = 0 then (ledN s g : Int) else if x3 = 1 then (renN s t g : Int) else if x3 = 2 then (s.length : Int) - ledN s g else if x3 = 3 then (t.length : Int) - ledN s g else if x3 = 4 then ((mvAll s t g).length : Int) else (mvNodes s (mvAll s t g) : Int)) M) : wp_X10_edits_38 V u w x3 0 0 0 M Q := by
  have cl := cnt_le (p := ledB g) (n := s.length)
  unfold wp_X10_edits_38
  refine ⟨fun z4 z5 z6 => ∃ n : Nat, z6 = n ∧ n ≤ s.length ∧ z4 = ((List.range n).countP (ledB g) : Nat) ∧ z5 = ((List.range n).countP (renB s t g) : Nat), fun _ _ z6 => (17 - z6).toNat, ⟨0, rfl, by omega, rfl, rfl⟩, ?_⟩
  rintro z4 z5 z6 ⟨n, rfl, hn, rfl, rfl⟩
  have c1 := cnt_le (p := ledB g) (n := n)
  have c2 := cnt_le (p := renB s t g) (n := n)
  unfold wp_X10_edits_38_b
  rw [h10, h11, hm.1, hm.2.1]
  refine ⟨fun c => ?_, fun c => ⟨by omega, ?_⟩⟩
  · have hns : n = s.length := by omega
    subst hns
    rw [ledN_eq, renN_eq] at h
    refine ⟨fun e => by rwa [if_pos e] at h, fun e => ⟨fun e1 => by rwa [if_neg e, if_pos e1] at h, fun e1 => ⟨fun e2 => ?_, fun e2 => ⟨fun e3 => ?_, fun e3 => ⟨fun e4 => by rwa [if_neg e, if_neg e1, if_neg e2, if_neg e3, if_pos e4] at h, fun e4 => by rwa [if_neg e, if_neg e1, if_neg e2, if_neg e3, if_neg e4] at h⟩⟩⟩⟩⟩
    · rw [if_neg e, if_neg e1, if_pos e2] at h
      rw [w32_id (by omega) (by omega)]; exact h
    · rw [if_neg e, if_neg e1, if_neg e2, if_pos e3] at h
      rw [w32_id (by omega) (by omega)]; exact h
  · have hns : n < s.length := by omega
    unfold wp_X10_edits_66 wp_X10_edits_119 wp_X10_edits_120
    rw [hr n hns]
    cases hgn : g n with
    | none =>
      have er : rowL g n = 99 := by unfold rowL; rw [hgn]
      have e1 : ledB g n = false := by simp [ledB, hgn]
      have e2 : renB s t g n = false := by simp [renB, hgn]
      rw [er, w_succ (by omega), w32_id (x := _ + (0 : Int)) (by omega) (by omega)]
      refine ⟨fun _ => ⟨by omega, fun _ => ?_, fun w => by omega⟩, fun w => by omega⟩
      rw [w32_id (x := _ + (0 : Int)) (by omega) (by omega)]
      exact ⟨⟨n + 1, by omega, by omega, by rw [cnt_succ, e1]; simp, by rw [cnt_succ, e2]; simp⟩, by (try dsimp only); omega⟩
    | some b =>
      have hb := (hg.1 n b hgn).2.2.2
      have er : rowL g n = b := by unfold rowL; rw [hgn]
      have e1 : ledB g n = true := by simp [ledB, hgn]
      have i2 := (w_idx (x := u) (i := n) (by omega) (by omega) (by omega)).2
      have i4 := (w_idx (x := w) (i := b) (by omega) (by omega) (by omega)).2
      rw [er, w_succ (by omega), (w_idx (x := u) (i := n) (by omega) (by omega) (by omega)).1, (w_idx (x := w) (i := b) (by omega) (by omega) (by omega)).1, (ms.2 n hns).1, (mt.2 b hb).1]
      refine ⟨fun z => by omega, fun _ => ⟨by omega, fun z => by omega, fun _ => ⟨i2, by omega, i4, fun z => ?_, fun z => ?_⟩⟩⟩
      · have e2 : renB s t g n = false := by simp [renB, hgn, z]
        rw [w_succ (by omega), w32_id (x := _ + (0 : Int)) (by omega) (by omega)]
        exact ⟨⟨n + 1, by omega, by omega, by rw [cnt_succ, e1]; simp, by rw [cnt_succ, e2]; simp⟩, by (try dsimp only); omega⟩
      · have e2 : renB s t g n = true := by simp [renB, hgn, z]
        rw [w_succ (by omega), w_succ (by omega)]
        exact ⟨⟨n + 1, by omega, by omega, by rw [cnt_succ, e1]; simp, by rw [cnt_succ, e2]; simp⟩, by (try dsimp only); omega⟩
theorem op_edits {s t x : Int} (hR : Rel M) : R_X9_edits V s t x M (fun r1 M1 => R_X10_edits V s t x M1 (fun r2 M2 => r1 = r2 ∧ Rel M2)) := by
  obtain ⟨σ, hI, hC, hM⟩ := hR
  have un : ¬ (((0 ≤ s ∧ s ≤ 5) ∧ σ.tr s ≠ []) ∧ ((0 ≤ t ∧ t ≤ 5) ∧ σ.tr t ≠ [])) → R_X10_edits V s t x M (fun r2 M2 => -1 = r2 ∧ Rel M2) := by
    intro hne
    apply of_X10_edits
    unfold wp_X10_edits
    apply m_areBoth
    rw [if_neg]
    · exact ⟨fun _ => ⟨rfl, σ, hI, hC, hM⟩, fun c => by omega⟩
    · rintro ⟨a, b, c, d⟩
      exact hne ⟨⟨a, (Mem.emp hM a.1 a.2).mp c⟩, b, (Mem.emp hM b.1 b.2).mp d⟩
  have pos : ∀ u, 0 ≤ u → u ≤ 5 → (0 < M (161 + 7 * u) 0 ↔ σ.tr u ≠ []) := fun u a b => by
    rw [(hC.2.2.1 u a b).1.1]
    have := List.length_pos_iff (l := σ.tr u)
    constructor
    · intro w; exact this.mp (by omega)
    · intro w; have := this.mpr w; omega
  apply of_X9_edits
  unfold wp_X9_edits
  apply x_filledAt
  apply x_filledAt
  by_cases hs : (0 ≤ s ∧ s ≤ 5) ∧ 0 < M (161 + 7 * s) 0
  · rw [if_pos hs]
    refine ⟨fun c => by omega, fun _ => ?_⟩
    by_cases ht : (0 ≤ t ∧ t ≤ 5) ∧ 0 < M (161 + 7 * t) 0
    · rw [if_pos ht]
      refine ⟨fun c => by omega, fun _ => ?_⟩
      refine x_leads hI hC (fun hne => ⟨fun _ => un hne, fun c => by omega⟩) (fun M1 s1 s2 t1 t2 ns nt lk hC1 f1 => ⟨fun c => by omega, fun _ => ?_⟩)
      have hM1 : RelM M1 σ := hM.fr (fun c j hc => f1 _ _ (by omega))
      have ws := (hI.2.2.1 s s1 s2).1
      have wt := (hI.2.2.1 t t1 t2).1
      have s16 := ws.1
      have t16 := wt.1
      obtain ⟨g, hl, -, l4, l5, -, l20, l201, -⟩ := lk
      have cl : ledN (σ.tr s) g ≤ (σ.tr s).length := by rw [ledN_eq]; exact cnt_le
      have hpre : ∀ Q' : Int → Mem → Prop, (¬ (0 ≤ x ∧ x ≤ 5) → Q' (-2) M1) → (0 ≤ x → x ≤ 5 → R_X10_layMoved V s t M1 (fun _ M6 => wp_X10_edits_38 V s t x 0 0 0 M6 Q')) → R_X10_edits V s t x M1 Q' := by
        intro Q' q1 q2
        apply of_X10_edits
        unfold wp_X10_edits
        apply m_areBoth
        rw [if_pos ⟨⟨s1, s2⟩, ⟨t1, t2⟩, (Mem.emp hM1 s1 s2).mpr ns, (Mem.emp hM1 t1 t2).mpr nt⟩]
        refine ⟨fun c => by omega, fun _ => ?_⟩
        apply m_in
        by_cases hx : 0 ≤ x ∧ x ≤ 5
        · rw [if_pos hx]
          exact ⟨fun c => by omega, fun _ => q2 hx.1 hx.2⟩
        · rw [if_neg hx]
          exact ⟨fun _ => q1 hx, fun c => by omega⟩
      have mdl : ∀ r : Int, (r = if x = 0 then (ledN (σ.tr s) g : Int) else if x = 1 then (renN (σ.tr s) (σ.tr t) g : Int) else if x = 2 then ((σ.tr s).length : Int) - ledN (σ.tr s) g else if x = 3 then ((σ.tr t).length : Int) - ledN (σ.tr s) g else if x = 4 then ((mvAll (σ.tr s) (σ.tr t) g).length : Int) else (mvNodes (σ.tr s) (mvAll (σ.tr s) (σ.tr t) g) : Int)) → 0 ≤ x → x ≤ 5 → R_X10_edits V s t x M1 (fun r2 M2 => r = r2 ∧ Rel M2) := by
        intro r hr x1 x2
        refine hpre _ (fun w => absurd ⟨x1, x2⟩ w) (fun _ _ => ?_)
        refine m_layMoved ⟨s1, s2⟩ ⟨t1, t2⟩ (hM1.2.2.1 s s1 s2) (hM1.2.2.1 t t1 t2) ws wt (List.length_pos_iff.mpr ns) (List.length_pos_iff.mpr nt) hM1.2.2.2.2.2.1 hI.2.2.2.2.2.1 hl (fun M3 r3 a10 a11 m3 f3 => ?_)
        have mtF : ∀ {u : Int} {z : T}, Mt M1 u z → Mt M3 u z := fun hm => ⟨by rw [f3 _ _ (by omega) (by omega)]; exact hm.1, fun i hi => by rw [f3 _ _ (by omega) (by omega), f3 _ _ (by omega) (by omega)]; exact hm.2 i hi⟩
        exact m_edits38 ⟨s1, s2⟩ ⟨t1, t2⟩ (mtF (hM1.2.2.1 s s1 s2)) (mtF (hM1.2.2.1 t t1 t2)) s16 t16 hl.1 r3 a10 a11 m3 ⟨hr, σ, hI, hC1.fr hI (fun c j hc => f3 _ _ (by omega) (by omega)), hM1.core hI (fun c j hc => by unfold corM at hc; exact f3 _ _ (by omega) (by omega))⟩
      have c1 := (hC1.2.2.1 s s1 s2).1.1
      have c2 := (hC1.2.2.1 t t1 t2).1.1
      rw [c1, c2, l4, l5, l20, l201]
      refine ⟨fun w => hpre _ (fun _ => ⟨rfl, σ, hI, hC1, hM1⟩) (fun a b => by omega), fun w => mdl _ (by rw [if_pos w]) (by omega) (by omega), fun w => mdl _ (by rw [if_neg (by omega), if_pos w]) (by omega) (by omega), fun w => mdl _ ?_ (by omega) (by omega), fun w => mdl _ ?_ (by omega) (by omega), fun w => mdl _ (by rw [if_neg (by omega), if_neg (by omega), if_neg (by omega), if_neg (by omega), if_pos w]) (by omega) (by omega), fun w => mdl _ (by rw [if_neg (by omega), if_neg (by omega), if_neg (by omega), if_neg (by omega), if_neg (by omega)]) (by omega) (by omega)⟩
      · rw [if_neg (by omega), if_neg (by omega), if_pos w, w32_id (by omega) (by omega)]
      · rw [if_neg (by omega), if_neg (by omega), if_neg (by omega), if_pos w, w32_id (by omega) (by omega)]
    · rw [if_neg ht]
      refine ⟨fun _ => un (fun w => ht ⟨w.2.1, (pos t w.2.1.1 w.2.1.2).mpr w.2.2⟩), fun c => by omega⟩
  · rw [if_neg hs]
    refine ⟨fun _ => un (fun w => hs ⟨w.1.1, (pos s w.1.1.1 w.1.1.2).mpr w.1.2⟩), fun c => by omega⟩
end EDITS
