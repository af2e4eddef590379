/-! trees from their ends: the reference's order -/
theorem dep_up {t : T} {i j : Nat} (h : i ≤ j) : dep t j ≤ dep t i + (j - i) := by
  unfold dep anc
  obtain ⟨b, rfl⟩ : ∃ b, j = i + b := ⟨j - i, by omega⟩
  rw [List.range_add, List.filter_append, List.length_append]
  have e1 : ((List.range i).filter (fun k => decide (i + b < k + sz t k))).length ≤ ((List.range i).filter (fun k => decide (i < k + sz t k))).length := by
    rw [← List.countP_eq_length_filter, ← List.countP_eq_length_filter]
    apply List.countP_mono_left
    intro k hk g
    simp at hk g ⊢
    omega
  have e3 : (((List.range b).map (i + ·)).filter (fun k => decide (i + b < k + sz t k))).length ≤ b := by
    have := List.length_filter_le (fun k => decide (i + b < k + sz t k)) ((List.range b).map (i + ·))
    simpa using this
  omega
def rp (t : T) (i : Nat) : Nat := t.length - 1 - postI t i
def nu (t : T) (r : Nat) : Nat := ordOf true t (t.length - 1 - r)
def zm (t : T) (r : Nat) : Nat := sz t (nu t r)
theorem nu_spec {t : T} {r : Nat} (hr : r < t.length) : nu t r < t.length ∧ rp t (nu t r) = r := by
  obtain ⟨i, hi, e1, e2⟩ := ord_ex (t := t) (k := t.length - 1 - r) (by omega)
  have : nu t r = i := e2
  rw [this]
  refine ⟨hi, ?_⟩
  unfold rp; omega
theorem nu_rp {t : T} {i : Nat} (hi : i < t.length) : nu t (rp t i) = i := by
  have := post_lt hi
  unfold nu rp
  rw [show t.length - 1 - (t.length - 1 - postI t i) = postI t i by omega, ord_post hi]
theorem rp_lt {t : T} {i : Nat} (hi : i < t.length) : rp t i < t.length := by unfold rp; omega
theorem rp_inj {t : T} {i j : Nat} (hi : i < t.length) (hj : j < t.length) (h : rp t i = rp t j) : i = j := by rw [← nu_rp hi, h, nu_rp hj]
theorem zm_rp {t : T} {i : Nat} (hi : i < t.length) : zm t (rp t i) = sz t i := by unfold zm; rw [nu_rp hi]
theorem rp_in {t : T} {i j : Nat} (hj : j < t.length) (h1 : i < j) (h2 : j < i + sz t i) : rp t i < rp t j ∧ rp t j < rp t i + sz t i := by
  have hi : i < t.length := by omega
  have a := dep_in h1 h2
  have b := nest (l := t) (i := i) (j := j) (by omega) h2
  have c := dep_up (t := t) (i := i) (j := j) (by omega)
  have d := dep_le t i
  have d' := dep_le t j
  have p := post_lt hi
  have zi := sz_pos hi
  have zj := sz_pos hj
  unfold rp
  unfold postI at p ⊢
  omega
theorem rp_out {t : T} {i j : Nat} (hi : i < t.length) (hj : j < t.length) (h : i + sz t i ≤ j) : rp t j + sz t j ≤ rp t i := by
  have a := dep_out h
  have d := dep_le t i
  have d' := dep_le t j
  have p := post_lt hj
  have zi := sz_pos hi
  have zj := sz_pos hj
  unfold rp
  unfold postI at p ⊢
  omega
theorem zm_pos {t : T} {r : Nat} (hr : r < t.length) : 1 ≤ zm t r := sz_pos (nu_spec hr).1
theorem rp_end {t : T} {i : Nat} (hi : i < t.length) : rp t i + sz t i ≤ t.length := by
  have a := dep_le t i
  have p := post_lt hi
  have z := sz_pos hi
  have d := dep_up (t := t) (i := 0) (j := i) (by omega)
  unfold rp
  unfold postI at p ⊢
  omega
theorem zm_end {t : T} {r : Nat} (hr : r < t.length) : r + zm t r ≤ t.length := by
  obtain ⟨h1, h2⟩ := nu_spec hr
  have := rp_end h1
  rw [h2] at this; exact this
theorem zm_nest {t : T} {r q : Nat} (hr : r < t.length) (h1 : r ≤ q) (h2 : q < r + zm t r) : q + zm t q ≤ r + zm t r := by
  have he := zm_end hr
  have hq : q < t.length := by omega
  obtain ⟨a1, a2⟩ := nu_spec hr
  obtain ⟨b1, b2⟩ := nu_spec hq
  by_cases e : r = q
  · rw [e]; exact Nat.le_refl _
  · rcases Nat.lt_trichotomy (nu t r) (nu t q) with g | g | g
    · rcases Nat.lt_or_ge (nu t q) (nu t r + sz t (nu t r)) with w | w
      · /- q's node lies within r's -/
        have c := dep_in g w
        have d := nest (l := t) (i := nu t r) (j := nu t q) (by omega) w
        have u := dep_up (t := t) (i := nu t r) (j := nu t q) (by omega)
        have d1 := dep_le t (nu t r)
        have d2 := dep_le t (nu t q)
        have p1 := post_lt a1
        have p2 := post_lt b1
        have zq := sz_pos b1
        unfold zm at *
        unfold rp at a2 b2
        unfold postI at a2 b2 p1 p2
        omega
      · have := rp_out a1 b1 w
        rw [a2, b2] at this
        omega
    · rw [g, b2] at a2; omega
    · rcases Nat.lt_or_ge (nu t r) (nu t q + sz t (nu t q)) with w | w
      · have := rp_in a1 g w
        rw [a2, b2] at this
        omega
      · have := rp_out b1 a1 w
        rw [a2, b2] at this
        unfold zm at h2
        omega
/-- a leading seen from the ends -/
def gmir (s t : T) (g : Ldg) : Ldg := fun r => if r < s.length then (g (nu s r)).map (rp t) else none
def gori (s t : T) (g : Ldg) : Ldg := fun a => if a < s.length then (g (rp s a)).map (nu t) else none
theorem lead_mir {s t : T} {g : Ldg} (h : Lead s t g) : LG (zm s) (zm t) 0 s.length 0 t.length (gmir s t g) := by
  have get : ∀ r q, gmir s t g r = some q → r < s.length ∧ ∃ b, g (nu s r) = some b ∧ b < t.length ∧ q = rp t b := by
    intro r q hr
    unfold gmir at hr
    split at hr
    · rename_i hl
      rw [Option.map_eq_some_iff] at hr
      obtain ⟨b, hb, e⟩ := hr
      exact ⟨hl, b, hb, (h.1 _ _ hb).2.2.2, e.symm⟩
    · cases hr
  refine ⟨fun r q hr => ?_, fun r q r' q' hr hr' hlt => ?_⟩
  · obtain ⟨h1, b, -, h3, rfl⟩ := get r q hr
    exact ⟨by omega, h1, by omega, rp_lt h3⟩
  · obtain ⟨h1, b, h2, h3, rfl⟩ := get r q hr
    obtain ⟨h1', b', h2', h3', rfl⟩ := get r' q' hr'
    obtain ⟨a1, a2⟩ := nu_spec h1
    obtain ⟨a1', a2'⟩ := nu_spec h1'
    rw [zm_rp h3]
    show _ ∧ (r' < r + sz s (nu s r) ↔ _)
    rcases Nat.lt_trichotomy (nu s r) (nu s r') with k | k | k
    · obtain ⟨c1, c2⟩ := h.2 _ _ _ _ h2 h2' k
      rcases Nat.lt_or_ge (nu s r') (nu s r + sz s (nu s r)) with w | w
      · have e1 := rp_in a1' k w
        have e2 := rp_in h3' c1 (c2.mp w)
        rw [a2, a2'] at e1
        omega
      · have e1 := rp_out a1 a1' w
        rw [a2, a2'] at e1
        omega
    · rw [k, a2'] at a2; omega
    · obtain ⟨c1, c2⟩ := h.2 _ _ _ _ h2' h2 k
      rcases Nat.lt_or_ge (nu s r) (nu s r' + sz s (nu s r')) with w | w
      · have e1 := rp_in a1 k w
        rw [a2, a2'] at e1
        omega
      · have e1 := rp_out a1' a1 w
        have w2 : b' + sz t b' ≤ b := by
          rcases Nat.lt_or_ge b (b' + sz t b') with z | z
          · have := c2.mpr z; omega
          · exact z
        have e2 := rp_out h3' h3 w2
        have z1 := sz_pos h3
        rw [a2, a2'] at e1
        omega
theorem mir_lead {s t : T} {g : Ldg} (h : LG (zm s) (zm t) 0 s.length 0 t.length g) : Lead s t (gori s t g) := by
  have get : ∀ a b, gori s t g a = some b → a < s.length ∧ b < t.length ∧ g (rp s a) = some (rp t b) := by
    intro a b ha
    unfold gori at ha
    split at ha
    · rename_i hl
      rw [Option.map_eq_some_iff] at ha
      obtain ⟨q, hq, e⟩ := ha
      have hql := (h.1 _ _ hq).2.2.2
      obtain ⟨n1, n2⟩ := nu_spec hql
      rw [e] at n1 n2
      exact ⟨hl, n1, by rw [hq, n2]⟩
    · cases ha
  refine ⟨fun a b ha => ?_, fun a b a' b' ha ha' hlt => ?_⟩
  · obtain ⟨h1, h2, -⟩ := get a b ha
    exact ⟨by omega, h1, by omega, h2⟩
  · obtain ⟨h1, h2, h3⟩ := get a b ha
    obtain ⟨h1', h2', h3'⟩ := get a' b' ha'
    have zb := sz_pos h2
    have zb' := sz_pos h2'
    have hbb : b ≠ b' := by
      intro e
      subst e
      have n1 : rp s a ≠ rp s a' := fun e => by have := rp_inj h1 h1' e; omega
      rcases Nat.lt_or_ge (rp s a) (rp s a') with w | w
      · have := (h.2 _ _ _ _ h3 h3' w).1; omega
      · have := (h.2 _ _ _ _ h3' h3 (by omega)).1; omega
    rcases Nat.lt_or_ge a' (a + sz s a) with w | w
    · have e1 := rp_in h1' hlt w
      have e2 := h.2 _ _ _ _ h3 h3' e1.1
      rw [zm_rp h1, zm_rp h2] at e2
      have e3 := e2.2.mp e1.2
      rcases Nat.lt_or_ge b b' with k | k
      · rcases Nat.lt_or_ge b' (b + sz t b) with z | z
        · omega
        · have := rp_out h2 h2' z; omega
      · exfalso
        rcases Nat.lt_or_ge b (b' + sz t b') with z | z
        · have := rp_in h2 (by omega) z; omega
        · have := rp_out h2' h2 z; omega
    · have e1 := rp_out h1 h1' w
      have za := sz_pos h1'
      have e2 := h.2 _ _ _ _ h3' h3 (by omega)
      rw [zm_rp h1', zm_rp h2'] at e2
      have e3 : ¬ rp t b < rp t b' + sz t b' := fun z => by have := e2.2.mpr z; omega
      rcases Nat.lt_or_ge b b' with k | k
      · rcases Nat.lt_or_ge b' (b + sz t b) with z | z
        · have := rp_in h2' k z; omega
        · omega
      · exfalso
        rcases Nat.lt_or_ge b (b' + sz t b') with z | z
        · have := rp_in h2 (by omega) z; omega
        · have := rp_out h2' h2 z; omega
/-! sums in another order -/
def sumL (F : Nat → Int) (l : List Nat) : Int := l.foldr (fun a acc => F a + acc) 0
theorem sumL_app (F : Nat → Int) : ∀ l l' : List Nat, sumL F (l ++ l') = sumL F l + sumL F l'
  | [], l' => by simp [sumL]
  | a :: l, l' => by
    have := sumL_app F l l'
    unfold sumL at this ⊢
    simp only [List.cons_append, List.foldr_cons]
    rw [this]; omega
theorem sumL_perm {F : Nat → Int} {l l' : List Nat} (h : l.Perm l') : sumL F l = sumL F l' := by
  unfold sumL
  exact h.foldr_eq' (fun x _ y _ z => by omega) 0
theorem sumL_map {F : Nat → Int} {h : Nat → Nat} : ∀ l : List Nat, sumL F (l.map h) = sumL (fun a => F (h a)) l
  | [] => rfl
  | a :: l => by
    have := sumL_map (F := F) (h := h) l
    unfold sumL at this ⊢
    simp only [List.map_cons, List.foldr_cons]
    rw [this]
theorem sumL_congr {F G : Nat → Int} : ∀ l : List Nat, (∀ a ∈ l, F a = G a) → sumL F l = sumL G l
  | [], _ => rfl
  | a :: l, h => by
    have := sumL_congr (F := F) (G := G) l (fun b hb => h b (List.mem_cons_of_mem _ hb))
    unfold sumL at this ⊢
    simp only [List.foldr_cons]
    rw [this, h a List.mem_cons_self]
def trm (D : Nat → Int) (E : Nat → Nat → Int) (g : Ldg) (a : Nat) : Int := match g a with
  | some b => E a b
  | none => D a
theorem cS_sum {D : Nat → Int} {E : Nat → Nat → Int} {g : Ldg} : ∀ n, cS D E g n 0 = sumL (trm D E g) (List.range n)
  | 0 => rfl
  | n + 1 => by
    rw [cS_add n 1 0, cS_sum n, List.range_succ, sumL_app]
    simp only [cS, sumL, List.foldr_cons, List.foldr_nil, Nat.zero_add, trm]
    cases g n <;> rfl
theorem nu_perm (t : T) : ((List.range t.length).map (nu t)).Perm (List.range t.length) := by
  rw [List.perm_ext_iff_of_nodup]
  · intro a
    constructor
    · intro h
      obtain ⟨r, hr, e⟩ := List.mem_map.mp h
      have := (nu_spec (t := t) (r := r) (by simpa using hr)).1
      rw [e] at this
      simpa using this
    · intro h
      have ha : a < t.length := by simpa using h
      exact List.mem_map.mpr ⟨rp t a, by simpa using rp_lt ha, nu_rp ha⟩
  · unfold List.Nodup
    rw [List.pairwise_map]
    refine List.Pairwise.imp_of_mem ?_ (List.pairwise_lt_range (n := t.length))
    intro a b ha hb hab e
    have h1 := (nu_spec (t := t) (r := a) (by simpa using ha)).2
    have h2 := (nu_spec (t := t) (r := b) (by simpa using hb)).2
    rw [e, h2] at h1
    omega
  · exact List.nodup_range
/-- the least seen from the ends is the least -/
theorem mn_mirror {s t : T} {D : Nat → Int} {E : Nat → Nat → Int} {A v : Int} (h : Mn (zm s) (zm t) (fun r => D (nu s r)) (fun r q => E (nu s r) (nu t q)) A 0 s.length 0 t.length v) : Mn (sz s) (sz t) D E A 0 s.length 0 t.length v := by
  have sum : ∀ (g g' : Ldg), (∀ r, r < s.length → trm (fun r => D (nu s r)) (fun r q => E (nu s r) (nu t q)) g' r = trm D E g (nu s r)) → cS (fun r => D (nu s r)) (fun r q => E (nu s r) (nu t q)) g' s.length 0 = cS D E g s.length 0 := by
    intro g g' hh
    rw [cS_sum, cS_sum, ← sumL_perm (F := trm D E g) (nu_perm s), sumL_map]
    exact sumL_congr _ (fun a ha => hh a (by simpa using ha))
  obtain ⟨⟨g', h1, h2⟩, h3⟩ := h
  rw [Nat.sub_zero] at h2
  refine ⟨⟨gori s t g', mir_lead h1, ?_⟩, fun g hg => ?_⟩
  · rw [Nat.sub_zero, ← h2]
    congr 1
    refine (sum (gori s t g') g' (fun r hr => ?_)).symm
    obtain ⟨n1, n2⟩ := nu_spec hr
    unfold trm gori
    rw [if_pos n1, n2]
    cases g' r <;> rfl
  · have := h3 _ (lead_mir hg)
    rw [Nat.sub_zero] at this ⊢
    rw [sum g (gmir s t g) (fun r hr => ?_)] at this
    · exact this
    · unfold trm gmir
      rw [if_pos hr]
      cases hgr : g (nu s r) with
      | none => rfl
      | some b =>
        have hb := (hg.1 _ _ hgr).2.2.2
        simp only [Option.map_some]
        rw [nu_rp hb]
