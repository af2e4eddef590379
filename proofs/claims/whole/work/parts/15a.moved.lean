/-! moved pairs: the best pair, again and again -/
def inS (s : T) (P : List (Nat × Nat)) (a : Nat) : Bool := P.any (fun p => decide (p.1 ≤ a) && decide (a < p.1 + sz s p.1))
def inT (t : T) (P : List (Nat × Nat)) (b : Nat) : Bool := P.any (fun p => decide (p.2 ≤ b) && decide (b < p.2 + sz t p.2))
theorem inS_true {s : T} {P : List (Nat × Nat)} {a : Nat} : inS s P a = true ↔ ∃ p ∈ P, p.1 ≤ a ∧ a < p.1 + sz s p.1 := by
  unfold inS
  rw [List.any_eq_true]
  constructor
  · rintro ⟨p, h1, h2⟩
    simp only [Bool.and_eq_true, decide_eq_true_eq] at h2
    exact ⟨p, h1, h2⟩
  · rintro ⟨p, h1, h2, h3⟩
    exact ⟨p, h1, by simp [h2, h3]⟩
theorem inT_true {t : T} {P : List (Nat × Nat)} {b : Nat} : inT t P b = true ↔ ∃ p ∈ P, p.2 ≤ b ∧ b < p.2 + sz t p.2 := by
  unfold inT
  rw [List.any_eq_true]
  constructor
  · rintro ⟨p, h1, h2⟩
    simp only [Bool.and_eq_true, decide_eq_true_eq] at h2
    exact ⟨p, h1, h2⟩
  · rintro ⟨p, h1, h2, h3⟩
    exact ⟨p, h1, by simp [h2, h3]⟩
/-- free nodes -/
def fr1 (s : T) (g : Ldg) (P : List (Nat × Nat)) (a : Nat) : Bool := !ledB g a && !inS s P a
def fr2 (s t : T) (g : Ldg) (P : List (Nat × Nat)) (b : Nat) : Bool := !hitB s g b && !inT t P b
/-- a pair that may be taken -/
def Cand (s t : T) (g : Ldg) (P : List (Nat × Nat)) (x y : Nat) : Prop := x < s.length ∧ y < t.length ∧ sub s x = sub t y ∧ (∀ a, x ≤ a → a < x + sz s x → fr1 s g P a = true) ∧ (∀ b, y ≤ b → b < y + sz t y → fr2 s t g P b = true)
theorem Cand.less {s t : T} {g : Ldg} {P P' : List (Nat × Nat)} {x y : Nat} (h : Cand s t g (P ++ P') x y) : Cand s t g P x y := by
  obtain ⟨h1, h2, h3, h4, h5⟩ := h
  refine ⟨h1, h2, h3, fun a a1 a2 => ?_, fun b b1 b2 => ?_⟩
  · have := h4 a a1 a2
    unfold fr1 inS at this ⊢
    rw [List.any_append] at this
    simp only [Bool.and_eq_true, Bool.not_eq_true', Bool.or_eq_false_iff] at this ⊢
    exact ⟨this.1, this.2.1⟩
  · have := h5 b b1 b2
    unfold fr2 inT at this ⊢
    rw [List.any_append] at this
    simp only [Bool.and_eq_true, Bool.not_eq_true', Bool.or_eq_false_iff] at this ⊢
    exact ⟨this.1, this.2.1⟩
/-- the marks are those of the pairs -/
def StP (s t : T) (g : Ldg) (st : (Nat → Bool) × (Nat → Bool) × List (Nat × Nat)) : Prop := (∀ k, st.1 k = (mvUs s g k || inS s st.2.2 k)) ∧ (∀ k, st.2.1 k = (mvUt s t g k || inT t st.2.2 k)) ∧ (∀ p ∈ st.2.2, p.1 < s.length ∧ p.2 < t.length ∧ sub s p.1 = sub t p.2) ∧ st.2.2.length ≤ (List.range s.length).countP st.1
theorem StP.start (s t : T) (g : Ldg) : StP s t g (mvF s t g []) := by
  refine ⟨fun k => ?_, fun k => ?_, fun p hp => ?_, Nat.zero_le _⟩
  · show mvUs s g k = (mvUs s g k || inS s [] k)
    simp [inS]
  · show mvUt s t g k = (mvUt s t g k || inT t [] k)
    simp [inT]
  · have hp' : p ∈ ([] : List (Nat × Nat)) := hp
    simp at hp'
theorem StP.step {s t : T} {g : Ldg} {st : (Nat → Bool) × (Nat → Bool) × List (Nat × Nat)} {x y : Nat} (h : StP s t g st) (hx : x < s.length) (hy : y < t.length) (hxy : sub s x = sub t y) (hu : st.1 x = false) : StP s t g (mark s st.1 x, mark t st.2.1 y, st.2.2 ++ [(x, y)]) := by
  obtain ⟨h1, h2, h3, h4⟩ := h
  refine ⟨fun k => ?_, fun k => ?_, fun p hp => ?_, ?_⟩
  · show mark s st.1 x k = (mvUs s g k || inS s (st.2.2 ++ [(x, y)]) k)
    unfold mark inS
    rw [h1 k, List.any_append]
    unfold inS
    simp [Bool.or_assoc]
  · show mark t st.2.1 y k = (mvUt s t g k || inT t (st.2.2 ++ [(x, y)]) k)
    unfold mark inT
    rw [h2 k, List.any_append]
    unfold inT
    simp [Bool.or_assoc]
  · have hp' : p ∈ st.2.2 ++ [(x, y)] := hp
    rcases List.mem_append.mp hp' with w | w
    · exact h3 p w
    · rw [List.mem_singleton.mp w]; exact ⟨hx, hy, hxy⟩
  · show (st.2.2 ++ [(x, y)]).length ≤ (List.range s.length).countP (mark s st.1 x)
    have := cnt_mark hx hu
    simp only [List.length_append, List.length_cons, List.length_nil]
    omega
theorem sub_sz {s t : T} {x y : Nat} (h : sub s x = sub t y) : sz s x = sz t y := by rw [← sub_len, ← sub_len, h]
/-- whose turn it is can be taken just if it may -/
theorem turn {s t : T} {g : Ldg} {st : (Nat → Bool) × (Nat → Bool) × List (Nat × Nat)} {x y : Nat} (hg : Lead s t g) (h : StP s t g st) (hx : x < s.length) (hy : y < t.length) (hs : ∀ p ∈ st.2.2, sz s x ≤ sz s p.1) : (st.1 x = false ∧ st.2.1 y = false ∧ sub s x = sub t y) ↔ Cand s t g st.2.2 x y := by
  obtain ⟨h1, h2, h3, -⟩ := h
  have zx := sz_pos hx
  have zy := sz_pos hy
  have ex := sz_end hx
  have ey := sz_end hy
  rw [h1 x, h2 y, mvUt_eq hg, mvUs_eq]
  simp only [Bool.or_eq_false_iff]
  constructor
  · rintro ⟨⟨a1, a2⟩, ⟨b1, b2⟩, c⟩
    refine ⟨hx, hy, c, fun a q1 q2 => ?_, fun b q1 q2 => ?_⟩
    · unfold fr1
      simp only [Bool.and_eq_true, Bool.not_eq_true']
      refine ⟨?_, ?_⟩
      · cases hq : ledB g a with
        | false => rfl
        | true =>
          have : subB s (ledB g) x = true := subB_true.mpr ⟨a, by omega, q1, q2, hq⟩
          rw [this] at a1; cases a1
      · cases hq : inS s st.2.2 a with
        | false => rfl
        | true =>
          obtain ⟨p, p1, p2, p3⟩ := inS_true.mp hq
          exfalso
          have hps := hs p p1
          rcases Nat.lt_or_ge x p.1 with w | w
          · have := sz_within hx w (by omega)
            omega
          · have : inS s st.2.2 x = true := inS_true.mpr ⟨p, p1, w, by omega⟩
            rw [this] at a2; cases a2
    · unfold fr2
      simp only [Bool.and_eq_true, Bool.not_eq_true']
      refine ⟨?_, ?_⟩
      · cases hq : hitB s g b with
        | false => rfl
        | true =>
          have : subB t (hitB s g) y = true := subB_true.mpr ⟨b, by omega, q1, q2, hq⟩
          rw [this] at b1; cases b1
      · cases hq : inT t st.2.2 b with
        | false => rfl
        | true =>
          obtain ⟨p, p1, p2, p3⟩ := inT_true.mp hq
          exfalso
          have hps := hs p p1
          have e1 := sub_sz (h3 p p1).2.2
          have e2 := sub_sz c
          rcases Nat.lt_or_ge y p.2 with w | w
          · have := sz_within hy w (by omega)
            omega
          · have : inT t st.2.2 y = true := inT_true.mpr ⟨p, p1, w, by omega⟩
            rw [this] at b2; cases b2
  · rintro ⟨-, -, c, q1, q2⟩
    have fx := q1 x (by omega) (by omega)
    have fy := q2 y (by omega) (by omega)
    unfold fr1 at fx
    unfold fr2 at fy
    simp only [Bool.and_eq_true, Bool.not_eq_true'] at fx fy
    refine ⟨⟨?_, fx.2⟩, ⟨?_, fy.2⟩, c⟩
    · cases hq : subB s (ledB g) x with
      | false => rfl
      | true =>
        obtain ⟨a, a1, a2, a3, a4⟩ := subB_true.mp hq
        have := q1 a a2 a3
        unfold fr1 at this
        rw [a4] at this; simp at this
    · cases hq : subB t (hitB s g) y with
      | false => rfl
      | true =>
        obtain ⟨b, a1, a2, a3, a4⟩ := subB_true.mp hq
        have := q2 b a2 a3
        unfold fr2 at this
        rw [a4] at this; simp at this
/-- a turn without a pair that may be taken -/
theorem turn_no {s t : T} {g : Ldg} {st : (Nat → Bool) × (Nat → Bool) × List (Nat × Nat)} {x : Nat} (hg : Lead s t g) (h : StP s t g st) (hx : x < s.length) (hs : ∀ p ∈ st.2.2, sz s x ≤ sz s p.1) (hno : ∀ y, ¬ Cand s t g st.2.2 x y) : mvStep s t st x = st := by
  unfold mvStep
  cases hu : st.1 x with
  | true => rfl
  | false =>
    have : (List.range t.length).find? (fun y => !st.2.1 y && decide (sub s x = sub t y)) = none := by
      rw [List.find?_eq_none]
      intro y hy hh
      simp only [Bool.and_eq_true, Bool.not_eq_true', decide_eq_true_eq] at hh
      exact hno y ((turn hg h hx (by simpa using hy) hs).mp ⟨hu, hh.1, hh.2⟩)
    rw [this]; rfl
theorem turn_yes {s t : T} {g : Ldg} {st : (Nat → Bool) × (Nat → Bool) × List (Nat × Nat)} {x y : Nat} (hg : Lead s t g) (h : StP s t g st) (hx : x < s.length) (hs : ∀ p ∈ st.2.2, sz s x ≤ sz s p.1) (hc : Cand s t g st.2.2 x y) (hmin : ∀ y', y' < y → ¬ Cand s t g st.2.2 x y') : mvStep s t st x = (mark s st.1 x, mark t st.2.1 y, st.2.2 ++ [(x, y)]) ∧ st.1 x = false := by
  have hy := hc.2.1
  obtain ⟨u1, u2, u3⟩ := (turn hg h hx hy hs).mpr hc
  refine ⟨?_, u1⟩
  unfold mvStep
  have : (List.range t.length).find? (fun y => !st.2.1 y && decide (sub s x = sub t y)) = some y := by
    refine find_range hy (fun k hk => ?_) (by simp [u2, u3])
    cases hq : (!st.2.1 k && decide (sub s x = sub t k)) with
    | false => rfl
    | true =>
      simp only [Bool.and_eq_true, Bool.not_eq_true', decide_eq_true_eq] at hq
      exact absurd ((turn hg h hx (by omega) hs).mp ⟨u1, hq.1, hq.2⟩) (hmin k hk)
  rw [u1, this]; rfl
/-! the order of turns -/
def ordR (s : T) (a b : Nat) : Prop := sz s b < sz s a ∨ (sz s a = sz s b ∧ a < b)
theorem mvOrd_mem {s : T} (s16 : s.length ≤ 16) {x : Nat} : x ∈ mvOrd s ↔ x < s.length := by
  unfold mvOrd
  rw [List.mem_flatMap]
  constructor
  · rintro ⟨d, -, h⟩
    have := (List.mem_filter.mp h).1
    simpa using this
  · intro h
    have z := sz_pos h
    have e := sz_end h
    refine ⟨16 - sz s x, by simp; omega, List.mem_filter.mpr ⟨by simpa using h, by simp; omega⟩⟩
theorem mvOrd_ord (s : T) : (mvOrd s).Pairwise (ordR s) := by
  unfold mvOrd
  rw [List.pairwise_flatMap]
  refine ⟨fun d hd => ?_, ?_⟩
  · refine List.Pairwise.imp_of_mem ?_ ((List.pairwise_lt_range (n := s.length)).filter _)
    intro a b ha hb hab
    have h1 := (List.mem_filter.mp ha).2
    have h2 := (List.mem_filter.mp hb).2
    simp at h1 h2
    exact Or.inr ⟨by omega, hab⟩
  · refine List.Pairwise.imp_of_mem ?_ (List.pairwise_lt_range (n := 16))
    intro a b ha hb hab x hx y hy
    have h1 := (List.mem_filter.mp hx).2
    have h2 := (List.mem_filter.mp hy).2
    simp at h1 h2 ha hb
    exact Or.inl (by omega)
/-- turns l1 are over: nothing is left for them -/
def Over (s t : T) (g : Ldg) (l1 l2 : List Nat) : Prop := mvOrd s = l1 ++ l2 ∧ StP s t g (mvF s t g l1) ∧ (∀ x ∈ l1, ∀ y, ¬ Cand s t g (mvF s t g l1).2.2 x y) ∧ (∀ p ∈ (mvF s t g l1).2.2, p.1 ∈ l1)
theorem Over.start (s t : T) (g : Ldg) : Over s t g [] (mvOrd s) := ⟨rfl, StP.start s t g, fun x hx => by simp at hx, fun p hp => by
  have hp' : p ∈ ([] : List (Nat × Nat)) := hp
  simp at hp'⟩
theorem Over.sizes {s t : T} {g : Ldg} {l1 l2 : List Nat} (h : Over s t g l1 l2) {x : Nat} (hx : x ∈ l2) : ∀ p ∈ (mvF s t g l1).2.2, sz s x ≤ sz s p.1 := by
  intro p hp
  have ho := mvOrd_ord s
  rw [h.1] at ho
  have := (List.pairwise_append.mp ho).2.2 p.1 (h.2.2.2 p hp) x hx
  unfold ordR at this
  omega
theorem mvF_snoc {s t : T} {g : Ldg} {l : List Nat} {x : Nat} : mvF s t g (l ++ [x]) = mvStep s t (mvF s t g l) x := by
  unfold mvF; rw [List.foldl_append]; rfl
/-- turns that find nothing -/
theorem Over.skip {s t : T} {g : Ldg} (hg : Lead s t g) (s16 : s.length ≤ 16) : ∀ (l3 l1 l4 : List Nat), Over s t g l1 (l3 ++ l4) → (∀ x ∈ l3, ∀ y, ¬ Cand s t g (mvF s t g l1).2.2 x y) → Over s t g (l1 ++ l3) l4 ∧ mvF s t g (l1 ++ l3) = mvF s t g l1
  | [], l1, l4, h, _ => by
    rw [List.append_nil]; exact ⟨h, rfl⟩
  | x :: l3, l1, l4, h, hno => by
    have hxm : x ∈ x :: l3 ++ l4 := by simp
    have hx : x < s.length := (mvOrd_mem s16).mp (by rw [h.1]; exact List.mem_append_right _ hxm)
    have e : mvF s t g (l1 ++ [x]) = mvF s t g l1 := by
      rw [mvF_snoc]
      exact turn_no hg h.2.1 hx (h.sizes hxm) (hno x (by simp))
    have h' : Over s t g (l1 ++ [x]) (l3 ++ l4) := by
      refine ⟨by rw [h.1]; simp, by rw [e]; exact h.2.1, fun z hz y => ?_, fun p hp => ?_⟩
      · rw [e]
        rcases List.mem_append.mp hz with w | w
        · exact h.2.2.1 z w y
        · rw [List.mem_singleton.mp w]; exact hno x (by simp) y
      · rw [e] at hp
        exact List.mem_append_left _ (h.2.2.2 p hp)
    obtain ⟨r1, r2⟩ := Over.skip hg s16 l3 (l1 ++ [x]) l4 h' (fun z hz y => by rw [e]; exact hno z (List.mem_cons_of_mem _ hz) y)
    rw [List.append_assoc] at r1 r2
    exact ⟨r1, by rw [← e]; exact r2⟩
/-- nothing is left at all -/
theorem Over.fin {s t : T} {g : Ldg} {l1 l2 : List Nat} (hg : Lead s t g) (s16 : s.length ≤ 16) (h : Over s t g l1 l2) (hno : ∀ x y, ¬ Cand s t g (mvF s t g l1).2.2 x y) : (mvF s t g l1).2.2 = mvAll s t g := by
  have := (Over.skip hg s16 l2 l1 [] (by rw [List.append_nil]; exact h) (fun x _ y => hno x y)).2
  rw [← this, ← h.1]; rfl
/-- the best pair is the next that is taken -/
theorem Over.next {s t : T} {g : Ldg} {l1 l2 : List Nat} {x y : Nat} (hg : Lead s t g) (s16 : s.length ≤ 16) (h : Over s t g l1 l2) (hc : Cand s t g (mvF s t g l1).2.2 x y) (hbest : ∀ x' y', Cand s t g (mvF s t g l1).2.2 x' y' → sz s x' < sz s x ∨ (sz s x' = sz s x ∧ (x < x' ∨ (x = x' ∧ y ≤ y')))) : ∃ l1' l2', Over s t g l1' l2' ∧ (mvF s t g l1').2.2 = (mvF s t g l1).2.2 ++ [(x, y)] ∧ (mvF s t g l1).2.2.length < s.length := by
  have hx := hc.1
  have hxm : x ∈ l1 ++ l2 := by rw [← h.1]; exact (mvOrd_mem s16).mpr hx
  have hx2 : x ∈ l2 := by
    rcases List.mem_append.mp hxm with w | w
    · exact absurd hc (h.2.2.1 x w y)
    · exact w
  obtain ⟨l3, l4, rfl⟩ := List.append_of_mem hx2
  have ho := mvOrd_ord s
  rw [h.1] at ho
  have hl3 : ∀ z ∈ l3, ∀ y', ¬ Cand s t g (mvF s t g l1).2.2 z y' := by
    intro z hz y' hcz
    have h1 := (List.pairwise_append.mp ho).2.1
    have h2 := (List.pairwise_append.mp h1).2.2 z hz x (by simp)
    unfold ordR at h2
    have := hbest z y' hcz
    omega
  obtain ⟨r1, r2⟩ := Over.skip hg s16 l3 l1 (x :: l4) h hl3
  have hsz := r1.sizes (x := x) (by simp)
  rw [r2] at hsz
  have sp := h.2.1
  obtain ⟨t1, t2⟩ := turn_yes hg sp hx hsz hc (fun y' hy' hc' => by
    have := hbest x y' hc'
    omega)
  have e : mvF s t g (l1 ++ l3 ++ [x]) = (mark s (mvF s t g l1).1 x, mark t (mvF s t g l1).2.1 y, (mvF s t g l1).2.2 ++ [(x, y)]) := by rw [mvF_snoc, r2]; exact t1
  have sp' : StP s t g (mvF s t g (l1 ++ l3 ++ [x])) := by rw [e]; exact sp.step hx hc.2.1 hc.2.2.1 t2
  refine ⟨l1 ++ l3 ++ [x], l4, ⟨by rw [h.1]; simp, sp', fun z hz y' hcz => ?_, fun p hp => ?_⟩, by rw [e], ?_⟩
  · have hcz' := hcz
    rw [e] at hcz
    have hcz2 : Cand s t g ((mvF s t g l1).2.2 ++ [(x, y)]) z y' := hcz
    rcases List.mem_append.mp hz with w | w
    · rcases List.mem_append.mp w with w2 | w2
      · exact h.2.2.1 z w2 y' hcz2.less
      · exact hl3 z w2 y' hcz2.less
    · rw [List.mem_singleton.mp w] at hcz2
      have := hcz2.2.2.2.1 x (by omega) (by have := sz_pos hx; omega)
      unfold fr1 at this
      have hin : inS s ((mvF s t g l1).2.2 ++ [(x, y)]) x = true := inS_true.mpr ⟨(x, y), by simp, by simp, by have := sz_pos hx; simp; omega⟩
      rw [hin] at this; simp at this
  · rw [e] at hp
    have hp' : p ∈ (mvF s t g l1).2.2 ++ [(x, y)] := hp
    rcases List.mem_append.mp hp' with w | w
    · exact List.mem_append_left _ (List.mem_append_left _ (h.2.2.2 p w))
    · rw [List.mem_singleton.mp w]; simp
  · have c1 := sp'.2.2.2
    rw [e] at c1
    have c2 := cnt_le (p := mark s (mvF s t g l1).1 x) (n := s.length)
    have c3 : ((mvF s t g l1).2.2 ++ [(x, y)]).length ≤ (List.range s.length).countP (mark s (mvF s t g l1).1 x) := c1
    simp only [List.length_append, List.length_cons, List.length_nil] at c3
    omega
