/-! variables by first occurrence; what waits to be written -/
def foS (l : List Int) (p : Int × Nat) : List Int := if p.1 < 0 ∧ p.1 ∉ l then l ++ [p.1] else l
/-- the variables of a tree, as they come -/
def fo (t : T) : List Int := t.foldl foS []
def nmd (l : List Int) (t : T) : T := t.map (fun p => if p.1 < 0 then ((l.idxOf p.1 : Int) + 1, p.2) else p)
theorem fo_snoc (t : T) (p : Int × Nat) : fo (t ++ [p]) = foS (fo t) p := by unfold fo; rw [List.foldl_append]; rfl
theorem foS_mem {l : List Int} {p : Int × Nat} {v : Int} (h : v ∈ l) : v ∈ foS l p ∧ (foS l p).idxOf v = l.idxOf v := by
  unfold foS
  split
  · exact ⟨List.mem_append.mpr (Or.inl h), by rw [List.idxOf_append, if_pos h]⟩
  · exact ⟨h, rfl⟩
theorem foS_new {l : List Int} {p : Int × Nat} (h : p.1 < 0) : p.1 ∈ foS l p := by
  unfold foS
  by_cases g : p.1 ∈ l
  · rw [if_neg (fun z => z.2 g)]; exact g
  · rw [if_pos ⟨h, g⟩]; simp
theorem fo_all (t : T) : ∀ p ∈ t, p.1 < 0 → p.1 ∈ fo t := by
  have gen : ∀ (t1 t2 : T), (∀ p ∈ t1, p.1 < 0 → p.1 ∈ fo t1) → ∀ p ∈ t1 ++ t2, p.1 < 0 → p.1 ∈ fo (t1 ++ t2) := by
    intro t1 t2
    induction t2 generalizing t1 with
    | nil => intro h; rw [List.append_nil]; exact h
    | cons q t2 ih =>
      intro h
      have := ih (t1 ++ [q]) (fun p hp hn => by
        rw [fo_snoc]
        rcases List.mem_append.mp hp with g | g
        · exact (foS_mem (h p g hn)).1
        · simp at g; subst g; exact foS_new hn)
      rw [List.append_assoc] at this
      exact this
  exact gen [] t (fun p hp => by simp at hp)
theorem nmd_snoc (t : T) (p : Int × Nat) : nmd (fo (t ++ [p])) (t ++ [p]) = nmd (fo t) t ++ [if p.1 < 0 then (((foS (fo t) p).idxOf p.1 : Int) + 1, p.2) else p] := by
  unfold nmd
  rw [List.map_append, fo_snoc]
  congr 1
  apply List.map_congr_left
  intro q hq
  by_cases h : q.1 < 0
  · rw [if_pos h, if_pos h, (foS_mem (fo_all t q hq h)).2]
  · rw [if_neg h, if_neg h]
/-- what waits -/
def Stk (M : Mem) (st : List Nat) : Prop := M 129 9 = st.length ∧ ∀ (m c : Nat), st[m]? = some c → M 137 m = c
def JK (Z : T4) (M : Mem) (k : Nat → Nat) (s : Nat → Int) : Prop := Ld Z M ∧ ∀ c : Nat, c < 48 → M 134 c = k c ∧ M 135 c = s c
section PARTS
variable {V : VV} {M : Mem} {Q : Int → Mem → Prop} {Z : T4} {k : Nat → Nat} {s : Nat → Int} {st : List Nat}
theorem x_awaitParts {x : Nat} (hZ : Z4 Z) (hm : JK Z M k s) (hx : Pr Z x) (hs : Stk M st) (hl : st.length + nar Z x ≤ 96) (hk : ∀ c, Tm Z c → k c < 48) (h : ∀ M' : Mem, (∀ c j : Int, c ≠ 137 → ¬ (c = 129 ∧ j = 9) → M' c j = M c j) → Stk M' (st ++ ((List.range (nar Z x)).map (fun j => k (tm Z (nch Z x j)))).reverse) → Q 0 M') : R_X1_awaitParts V x M Q := by
  have lx := hx.1
  apply of_X1_awaitParts
  unfold wp_X1_awaitParts
  rw [(hm.1 x lx).2.1, hs.1]
  refine ⟨by omega, ?_⟩
  intro top htop
  rw [w32_id (by omega) (by omega)] at htop
  subst htop
  unfold wp_X1_awaitParts_19
  refine ⟨fun y2 y4 N => ∃ j : Nat, y4 = ((j + 1 : Nat) : Int) ∧ j ≤ nar Z x ∧ y2 = (nch Z x j : Nat) ∧ (∀ c j : Int, c ≠ 137 → N c j = M c j) ∧ (∀ m : Nat, m < st.length → N 137 m = M 137 m) ∧ ∀ j' : Nat, j' < j → N 137 ((st.length + nar Z x - (j' + 1) : Nat) : Int) = (k (tm Z (nch Z x j')) : Nat), fun _ y4 _ => (nar Z x + 2 - y4).toNat, ⟨0, rfl, by omega, by rw [w32_id (by omega) (by omega), nch_zero]; omega, fun _ _ _ => rfl, fun _ _ => rfl, fun j' hj' => by omega⟩, ?_⟩
  rintro y2 y4 N ⟨j, rfl, hj, rfl, hF, hlow, hup⟩
  unfold wp_X1_awaitParts_19_b
  rw [hF 131 _ (by omega), (hm.1 x lx).2.1]
  refine ⟨by omega, fun g => ?_, fun g => ⟨fun g2 => ?_, fun g2 => ⟨fun g3 => by omega, fun g3 => ?_⟩⟩⟩
  · have ej : j = nar Z x := by omega
    subst ej
    unfold wp_X1_awaitParts_77
    have et : imin ((st.length : Int) + nar Z x) 96 = (st.length : Int) + nar Z x := by unfold imin; rw [if_neg (by omega)]
    rw [et]
    refine h _ (fun c j c1 c2 => ?_) ⟨?_, fun m c hc => ?_⟩
    · by_cases e : c = 129
      · rw [mset_idx _ _ _ (by omega)]; exact hF c j c1
      · rw [mset_cell _ e]; exact hF c j c1
    · rw [mset_same]; simp
    · rw [mset_cell _ (by omega)]
      by_cases hlt : m < st.length
      · rw [List.getElem?_append_left hlt] at hc
        rw [hlow m hlt]; exact hs.2 m c hc
      · rw [List.getElem?_append_right (by omega)] at hc
        have hm2 : m - st.length < nar Z x := by
          by_cases g : m - st.length < nar Z x
          · exact g
          · rw [List.getElem?_eq_none (by simp; omega)] at hc; cases hc
        rw [List.getElem?_reverse (by simp; omega)] at hc
        simp only [List.length_map, List.length_range] at hc
        rw [List.getElem?_map, List.getElem?_range (by omega)] at hc
        simp at hc
        have := hup (nar Z x - 1 - (m - st.length)) (by omega)
        rw [hc, show st.length + nar Z x - (nar Z x - 1 - (m - st.length) + 1) = m by omega] at this
        exact this
  · have := (pr_ch hZ hx (show j < nar Z x by omega)).2
    omega
  · obtain ⟨c1, c2⟩ := pr_ch hZ hx (show j < nar Z x by omega)
    obtain ⟨t1, -⟩ := tm_ok hZ c1 c2
    have nx := nch_succ hZ hx.2.1 (show j < nar Z x by omega)
    have bx := nch_le hZ (j + 1) hx
    have lt := t1.lt
    obtain ⟨-, -, e3, e4⟩ := hm.1 _ c2
    rw [hF 133 _ (by omega), e4, hF 134 _ (by omega), (hm.2 _ lt).1]
    rw [w32_id (x := (st.length : Int) + nar Z x - ((j + 1 : Nat) : Int)) (by omega) (by omega)]
    refine ⟨by omega, by omega, by omega, ?_⟩
    intro N2 h2
    have f2 : ∀ c j : Int, c ≠ 137 → N2 c j = M c j := fun c j hc => by rw [h2, mset_cell _ hc]; exact hF c j hc
    rw [f2 132 _ (by omega), e3 c1]
    refine ⟨by omega, ?_⟩
    intro v hv
    rw [w32_id (by omega) (by omega)] at hv
    have e1 : w32 (((j + 1 : Nat) : Int) + 1) = ((j + 1 + 1 : Nat) : Int) := by rw [w32_id (by omega) (by omega)]; omega
    rw [e1]
    clear e1
    refine ⟨⟨j + 1, rfl, by omega, by omega, f2, fun m hm' => ?_, fun j' hj' => ?_⟩, by (try dsimp only); omega⟩
    · rw [h2, mset_idx _ _ _ (by omega)]; exact hlow m hm'
    · by_cases e : j' = j
      · rw [e, h2, show ((st.length + nar Z x - (j + 1) : Nat) : Int) = (st.length : Int) + nar Z x - ((j + 1 : Nat) : Int) by omega, mset_same]
      · rw [h2, mset_idx _ _ _ (by omega)]; exact hup j' (by omega)
end PARTS
