/-! nodes of four trees, of which the first and the third share holes, and the second and the fourth -/
abbrev T4 : Type := T × T × T × T
def nt (Z : T4) (q : Nat) : T := if q < 16 then Z.1 else if q < 32 then Z.2.1 else if q < 48 then Z.2.2.1 else Z.2.2.2
def nlb (Z : T4) (q : Nat) : Int := lb (nt Z q) (q % 16)
def nar (Z : T4) (q : Nat) : Nat := ar (nt Z q) (q % 16)
def nsz (Z : T4) (q : Nat) : Nat := sz (nt Z q) (q % 16)
def nOK (Z : T4) (q : Nat) : Prop := q < 64 ∧ q % 16 < (nt Z q).length
def Z4 (Z : T4) : Prop := Wd Z.1 ∧ Wd Z.2.1 ∧ Wd Z.2.2.1 ∧ Wd Z.2.2.2
def isB (q : Nat) : Bool := decide (q / 16 % 2 = 1)
/-- the tree with variables for holes -/
def nvt (Z : T4) (q : Nat) : T := if isB q then varB (nt Z q) else varA (nt Z q)
def tv (Z : T4) (τ : Int → T) (q : Nat) : T := app τ (sub (nvt Z q) (q % 16))
/-- which hole: 0 to 7, 8 to 15 -/
def nh (Z : T4) (q : Nat) : Nat := (nlb Z q - 65).toNat + (if isB q then 8 else 0)
def hol (Z : T4) (q : Nat) : Bool := isH (nlb Z q)
/-- part k -/
def nch (Z : T4) (q k : Nat) : Nat := q / 16 * 16 + chd (nt Z q) (q % 16) k
def vr (h : Nat) : Int := -(h : Int) - 1
theorem Z4.wd {Z : T4} (h : Z4 Z) (q : Nat) : Wd (nt Z q) := by
  unfold nt
  split
  · exact h.1
  · split
    · exact h.2.1
    · split
      · exact h.2.2.1
      · exact h.2.2.2
theorem nOK.ok {Z : T4} (hZ : Z4 Z) {q : Nat} (h : nOK Z q) : ok 1 (nt Z q) := (hZ.wd q).1.ok h.2
theorem nvt_len (Z : T4) (q : Nat) : (nvt Z q).length = (nt Z q).length := by unfold nvt; split <;> simp [varA, varB]
theorem nvt_ok {Z : T4} {q n : Nat} : ok n (nvt Z q) ↔ ok n (nt Z q) := by
  unfold nvt; split
  · exact ok_varB
  · exact ok_varA
theorem nvt_sz (Z : T4) (q i : Nat) : sz (nvt Z q) i = sz (nt Z q) i := by
  unfold nvt; split
  · exact sz_varB _ _
  · exact sz_varA _ _
theorem nvt_V0 {Z : T4} (hZ : Z4 Z) (q : Nat) : V0 (nvt Z q) := by
  unfold nvt; split
  · exact V0_varB (hZ.wd q)
  · exact V0_varA (hZ.wd q)
theorem nvt_at {Z : T4} {q i : Nat} (hi : i < (nt Z q).length) : ar (nvt Z q) i = ar (nt Z q) i ∧ lb (nvt Z q) i = (if isH (lb (nt Z q) i) then (if isB q then 56 - lb (nt Z q) i else 64 - lb (nt Z q) i) else lb (nt Z q) i) := by
  unfold nvt
  cases hb : isB q with
  | true =>
    simp only [if_true]
    unfold varB lb ar
    rw [List.getD_eq_getElem?_getD, List.getElem?_map, List.getD_eq_getElem?_getD, List.getElem?_eq_getElem hi]
    simp only [Option.map_some, Option.getD_some]
    split <;> simp
  | false =>
    simp only [Bool.false_eq_true, if_false]
    unfold varA lb ar
    rw [List.getD_eq_getElem?_getD, List.getElem?_map, List.getD_eq_getElem?_getD, List.getElem?_eq_getElem hi]
    simp only [Option.map_some, Option.getD_some]
    split <;> simp
theorem sub_cons {t : T} {i : Nat} (hi : i < t.length) : sub t i = (lb t i, ar t i) :: (t.drop (i + 1)).take (fp (ar t i) (t.drop (i + 1))) := by
  unfold sub
  rw [sz_eq hi, drop_cons hi, Nat.add_comm, List.take_succ_cons]
/-- the parts one behind the other -/
theorem forest_split {t : T} {i : Nat} : ∀ k, (t.drop (i + 1)).take (fp k (t.drop (i + 1))) = (List.range k).flatMap (fun j => sub t (chd t i j))
  | 0 => by simp [fp]
  | k + 1 => by
    rw [fp_add, List.take_add, forest_split k, List.range_succ, List.flatMap_append]
    congr 1
    simp only [List.flatMap_cons, List.flatMap_nil, List.append_nil]
    unfold sub sz
    rw [List.drop_drop]
    rfl
theorem app_flat (θ : Int → T) (F : Nat → T) : ∀ l : List Nat, app θ (l.flatMap F) = l.flatMap (fun k => app θ (F k))
  | [] => rfl
  | k :: l => by
    rw [List.flatMap_cons, List.flatMap_cons, app_append, app_flat θ F l]
theorem nch_t {Z : T4} {q k : Nat} (hZ : Z4 Z) (h : nOK Z q) (hk : k < nar Z q) : nOK Z (nch Z q k) ∧ nch Z q k / 16 = q / 16 ∧ nch Z q k % 16 = chd (nt Z q) (q % 16) k ∧ nt Z (nch Z q k) = nt Z q ∧ isB (nch Z q k) = isB q := by
  have hc := chd_lt (h.ok hZ) h.2 hk
  have h16 := (hZ.wd q).1.1
  have h64 := h.1
  have e1 : nch Z q k / 16 = q / 16 := by unfold nch; omega
  have e2 : nch Z q k % 16 = chd (nt Z q) (q % 16) k := by unfold nch; omega
  have e3 : nt Z (nch Z q k) = nt Z q := by
    have a1 : (nch Z q k < 16 ↔ q < 16) := by omega
    have a2 : (nch Z q k < 32 ↔ q < 32) := by omega
    have a3 : (nch Z q k < 48 ↔ q < 48) := by omega
    unfold nt
    simp only [a1, a2, a3]
  refine ⟨⟨by omega, by rw [e3, e2]; exact hc⟩, e1, e2, e3, ?_⟩
  unfold isB; rw [e1]
theorem nvt_eq {Z : T4} {q q' : Nat} (h1 : nt Z q' = nt Z q) (h2 : isB q' = isB q) : nvt Z q' = nvt Z q := by unfold nvt; rw [h1, h2]
theorem chd_nvt (Z : T4) (q i k : Nat) : chd (nvt Z q) i k = chd (nt Z q) i k := by
  unfold chd
  congr 1
  unfold nvt
  split
  · unfold varB; rw [← List.map_drop]; exact fp_var _ _ fB_2 k
  · unfold varA; rw [← List.map_drop]; exact fp_var _ _ fA_2 k
theorem tv_hole {Z : T4} {τ : Int → T} {q : Nat} (hZ : Z4 Z) (h : nOK Z q) (hh : hol Z q = true) : tv Z τ q = τ (vr (nh Z q)) ∧ nar Z q = 0 ∧ nh Z q < 16 := by
  have har : nar Z q = 0 := (hZ.wd q).hole h.2 hh
  have hr := isH_iff.mp hh
  have hv := nvt_at (Z := Z) (q := q) h.2
  have hlab : lb (nvt Z q) (q % 16) = vr (nh Z q) := by
    rw [hv.2, if_pos (show isH (lb (nt Z q) (q % 16)) = true from hh)]
    unfold vr nh nlb
    unfold nlb at hr
    split <;> omega
  have hlt : vr (nh Z q) < 0 := by unfold vr; omega
  refine ⟨?_, har, ?_⟩
  · unfold tv
    rw [sub_cons (by rw [nvt_len]; exact h.2), hv.1, hlab, show ar (nt Z q) (q % 16) = 0 from har]
    simp only [fp, List.take_zero]
    rw [app_cons, if_pos hlt, app_nil, List.append_nil]
  · unfold nh; split <;> omega
theorem tv_node {Z : T4} {τ : Int → T} {q : Nat} (hZ : Z4 Z) (h : nOK Z q) (hh : hol Z q = false) : tv Z τ q = (nlb Z q, nar Z q) :: (List.range (nar Z q)).flatMap (fun k => tv Z τ (nch Z q k)) ∧ 97 ≤ nlb Z q ∧ nlb Z q ≤ 122 := by
  have hv := nvt_at (Z := Z) (q := q) h.2
  have hlab : lb (nvt Z q) (q % 16) = nlb Z q := by rw [hv.2, if_neg (by rw [show isH (lb (nt Z q) (q % 16)) = false from hh]; simp)]; rfl
  have hlet : 97 ≤ nlb Z q ∧ nlb Z q ≤ 122 := by
    rcases (hZ.wd q).2 _ (mem_lbar h.2) with g | g
    · exact g
    · have : isH (nlb Z q) = true := g.1
      rw [show isH (nlb Z q) = false from hh] at this; cases this
  refine ⟨?_, hlet⟩
  conv => lhs; unfold tv
  rw [sub_cons (by rw [nvt_len]; exact h.2), hv.1, hlab, forest_split, app_cons, if_neg (by show ¬ nlb Z q < 0; omega), app_flat]
  show (nlb Z q, nar Z q) :: _ = _
  congr 1
  have gen : ∀ l : List Nat, (∀ k ∈ l, k < nar Z q) → l.flatMap (fun k => app τ (sub (nvt Z q) (chd (nvt Z q) (q % 16) k))) = l.flatMap (fun k => tv Z τ (nch Z q k)) := by
    intro l
    induction l with
    | nil => intro _; rfl
    | cons k l ih =>
      intro hl
      rw [List.flatMap_cons, List.flatMap_cons, ih (fun z hz => hl z (List.mem_cons_of_mem _ hz))]
      congr 1
      obtain ⟨-, -, c2, c3, c4⟩ := nch_t hZ h (hl k List.mem_cons_self)
      unfold tv
      rw [nvt_eq c3 c4, c2, chd_nvt]
  exact gen _ (fun k hk => List.mem_range.mp hk)
theorem tv_ok {Z : T4} {τ : Int → T} {q : Nat} (hZ : Z4 Z) (hτ : okθ τ) (h : nOK Z q) : ok 1 (tv Z τ q) := by
  unfold tv
  have hl : q % 16 < (nvt Z q).length := by rw [nvt_len]; exact h.2
  refine ok_app_t hτ _ 1 (fun p hp => nvt_V0 hZ q p (List.mem_of_mem_drop (List.mem_of_mem_take hp))) (ok_sub (nvt_ok.mpr (h.ok hZ)) hl)
/-- trees one behind the other are told apart -/
theorem flat_ok {F : Nat → T} : ∀ n, (∀ k, k < n → ok 1 (F k)) → ok n ((List.range n).flatMap F)
  | 0, _ => by simp [ok]
  | n + 1, h => by
    rw [List.range_succ, List.flatMap_append]
    simp only [List.flatMap_cons, List.flatMap_nil, List.append_nil]
    exact ok_app _ _ n 1 (flat_ok n (fun k hk => h k (by omega))) (h n (by omega))
theorem flat_inj {F G : Nat → T} : ∀ n, (∀ k, k < n → ok 1 (F k)) → (∀ k, k < n → ok 1 (G k)) → (List.range n).flatMap F = (List.range n).flatMap G → ∀ k, k < n → F k = G k
  | 0, _, _, _, k, hk => by omega
  | n + 1, hF, hG, e, k, hk => by
    rw [List.range_succ, List.flatMap_append, List.flatMap_append] at e
    simp only [List.flatMap_cons, List.flatMap_nil, List.append_nil] at e
    have oF := flat_ok n (fun k hk => hF k (by omega))
    have oG := flat_ok n (fun k hk => hG k (by omega))
    have l1 := ok_fp _ (F n) n oF
    have l2 := ok_fp _ (G n) n oG
    rw [e, l2] at l1
    have e2 := List.append_inj e l1.symm
    by_cases hkn : k = n
    · rw [hkn]; exact e2.2
    · exact flat_inj n (fun k hk => hF k (by omega)) (fun k hk => hG k (by omega)) e2.1 k (by omega)
theorem flat_congr {F G : Nat → T} {n : Nat} (h : ∀ k, k < n → F k = G k) : (List.range n).flatMap F = (List.range n).flatMap G := by
  have gen : ∀ l : List Nat, (∀ k ∈ l, F k = G k) → l.flatMap F = l.flatMap G := by
    intro l
    induction l with
    | nil => intro _; rfl
    | cons k l ih =>
      intro hl
      rw [List.flatMap_cons, List.flatMap_cons, hl k List.mem_cons_self, ih (fun z hz => hl z (List.mem_cons_of_mem _ hz))]
  exact gen _ (fun k hk => h k (by simpa using hk))
/-- two nodes that are no holes have one tree just if their parts have -/
theorem tv_eq {Z : T4} {τ : Int → T} {x y : Nat} (hZ : Z4 Z) (hτ : okθ τ) (hx : nOK Z x) (hy : nOK Z y) (ix : hol Z x = false) (iy : hol Z y = false) : tv Z τ x = tv Z τ y ↔ nlb Z x = nlb Z y ∧ nar Z x = nar Z y ∧ ∀ k, k < nar Z x → tv Z τ (nch Z x k) = tv Z τ (nch Z y k) := by
  rw [(tv_node hZ hx ix).1, (tv_node hZ hy iy).1]
  constructor
  · intro e
    simp only [List.cons.injEq, Prod.mk.injEq] at e
    obtain ⟨⟨e1, e2⟩, e3⟩ := e
    refine ⟨e1, e2, ?_⟩
    rw [← e2] at e3
    exact flat_inj (nar Z x) (fun k hk => tv_ok hZ hτ (nch_t hZ hx hk).1) (fun k hk => tv_ok hZ hτ (nch_t hZ hy (by omega)).1) e3
  · rintro ⟨e1, e2, e3⟩
    rw [e1, ← e2, flat_congr e3]
/-- a part is less -/
theorem tv_lt {Z : T4} {τ : Int → T} {q k : Nat} (hZ : Z4 Z) (h : nOK Z q) (hh : hol Z q = false) (hk : k < nar Z q) : (tv Z τ (nch Z q k)).length < (tv Z τ q).length := by
  rw [(tv_node hZ h hh).1, List.length_cons]
  have gen : ∀ n, k < n → (tv Z τ (nch Z q k)).length ≤ ((List.range n).flatMap (fun k => tv Z τ (nch Z q k))).length := by
    intro n
    induction n with
    | zero => intro h; omega
    | succ n ih =>
      intro h
      rw [List.range_succ, List.flatMap_append, List.length_append]
      by_cases e : k = n
      · subst e; simp
      · have := ih (by omega)
        omega
  have := gen _ hk
  omega
