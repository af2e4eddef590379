/-! what the reference's spreads are -/
def kap (c : Int) : Int := if c < 0 then 999 - c else c
theorem kap_ok : RlOK (fun c => c < 0 ∨ (65 ≤ c ∧ c ≤ 122)) kap := by
  refine ⟨fun c c' hc hc' e => ?_, fun c h1 h2 => ⟨?_, Or.inr ⟨h1, h2⟩⟩⟩
  · unfold kap at e
    split at e <;> split at e <;> omega
  · unfold kap; rw [if_neg (by omega)]
theorem LbT.V {t : T} (h : LbT t) : LabU (fun c => c < 0 ∨ (65 ≤ c ∧ c ≤ 122)) t := fun p hp => by
  rcases h p hp with g | g
  · exact Or.inl g
  · exact Or.inr (by omega)
theorem rl_flat (f : Int → Int) (F : Nat → T) : ∀ l : List Nat, rl f (l.flatMap F) = l.flatMap (fun k => rl f (F k))
  | [] => rfl
  | k :: l => by rw [List.flatMap_cons, List.flatMap_cons, rl_app, rl_flat f F l]
def seg (t : T) (a b : Nat) : T := (t.drop a).take (b - a)
theorem seg_app {t : T} {a b c : Nat} (h1 : a ≤ b) (h2 : b ≤ c) : seg t a b ++ seg t b c = seg t a c := by
  unfold seg
  rw [show c - a = (b - a) + (c - b) by omega, List.take_add, List.drop_drop, show a + (b - a) = b by omega]
theorem seg_nil (t : T) (a : Nat) : seg t a a = [] := by unfold seg; rw [Nat.sub_self, List.take_zero]
theorem seg_sub (t : T) (a : Nat) : seg t a (a + sz t a) = sub t a := by unfold seg sub; rw [show a + sz t a - a = sz t a by omega]
/-- node q's tree, with r in the place of node i -/
def sgr (t : T) (i : Nat) (r : T) (q : Nat) : T := if q ≤ i ∧ i < q + sz t q then seg t q i ++ r ++ seg t (i + sz t i) (q + sz t q) else sub t q
theorem sgr_flat {t : T} {i q : Nat} (r : T) (h1 : q < i) : ∀ n, ((List.range n).flatMap (fun k => sgr t i r (chd t q k)) = if i < chd t q n then seg t (q + 1) i ++ r ++ seg t (i + sz t i) (chd t q n) else seg t (q + 1) (chd t q n)) ∧ (i < chd t q n → i + sz t i ≤ chd t q n)
  | 0 => by
    rw [chd_zero, if_neg (by omega), seg_nil]
    exact ⟨rfl, fun z => by omega⟩
  | n + 1 => by
    obtain ⟨ih1, ih2⟩ := sgr_flat (t := t) r h1 n
    have m0 := chd_mono t q (Nat.zero_le n)
    rw [chd_zero] at m0
    rw [List.range_succ, List.flatMap_append, ih1, chd_succ]
    simp only [List.flatMap_cons, List.flatMap_nil, List.append_nil]
    generalize chd t q n = c at ih2 m0 ⊢
    by_cases g1 : i < c
    · have g2 := ih2 g1
      rw [if_pos g1, if_pos (by omega)]
      refine ⟨?_, fun _ => by omega⟩
      unfold sgr
      rw [if_neg (by omega), ← seg_sub, List.append_assoc, seg_app (by omega) (by omega)]
    · by_cases g2 : i < c + sz t c
      · rw [if_neg g1, if_pos g2]
        refine ⟨?_, fun _ => nest (by omega) g2⟩
        unfold sgr
        rw [if_pos ⟨by omega, g2⟩, ← List.append_assoc, ← List.append_assoc, seg_app (by omega) (by omega)]
      · rw [if_neg g1, if_neg g2]
        refine ⟨?_, fun z => by omega⟩
        unfold sgr
        rw [if_neg (by omega), ← seg_sub, seg_app (by omega) (by omega)]
theorem sgr_node {t : T} {i q : Nat} (r : T) (hq : q < t.length) (h1 : q < i) (h2 : i < q + sz t q) : sgr t i r q = (lb t q, ar t q) :: (List.range (ar t q)).flatMap (fun k => sgr t i r (chd t q k)) := by
  rw [(sgr_flat (t := t) r h1 (ar t q)).1, chd_end hq, if_pos h2]
  conv => lhs; unfold sgr
  rw [if_pos ⟨by omega, h2⟩]
  have : seg t q i = (lb t q, ar t q) :: seg t (q + 1) i := by
    unfold seg
    rw [drop_cons hq, show i - q = (i - (q + 1)) + 1 by omega, List.take_succ_cons]
  rw [this]; rfl
theorem sgr_self {t : T} {i : Nat} (r : T) (hi : i < t.length) : sgr t i r i = r := by
  have := sz_pos hi
  unfold sgr
  rw [if_pos ⟨by omega, by omega⟩, seg_nil, seg_nil]; simp
theorem sgr_top {t : T} {i : Nat} (r : T) (ht : ok 1 t) (hi : i < t.length) : sgr t i r 0 = repl t i r := by
  have z : sz t 0 = t.length := by unfold sz; rw [List.drop_zero]; exact ok_fp' ht
  unfold sgr repl
  rw [z, if_pos ⟨by omega, by omega⟩]
  congr 1
  unfold seg
  rw [List.take_of_length_le (by simp)]
theorem sub_zero {t : T} (ht : ok 1 t) : sub t 0 = t := by
  unfold sub sz
  rw [List.drop_zero, ok_fp' ht, List.take_length]
section LAIDU
variable {Z : T4} {P : Nat → Int} {ρ : Nat → Nat}
theorem tv_32 (hZ : Z4 Z) (hne : Z.2.2.1 ≠ []) {τ : Int → T} : tv Z τ 32 = app τ (varA Z.2.2.1) := by
  have e : nt Z 32 = Z.2.2.1 := by unfold nt; rw [if_neg (by omega), if_neg (by omega), if_pos (by omega)]
  have hB : isB 32 = false := by unfold isB; simp
  unfold tv nvt
  rw [e, hB]
  show app τ (sub (varA Z.2.2.1) 0) = _
  rw [sub_zero (ok_varA.mpr (hZ.2.2.1.1.ok (i := 0) (List.length_pos_iff.mpr hne)))]
theorem tv_48 (hZ : Z4 Z) (hne : Z.2.2.2 ≠ []) {τ : Int → T} : tv Z τ 48 = app τ (varB Z.2.2.2) := by
  have e : nt Z 48 = Z.2.2.2 := by unfold nt; rw [if_neg (by omega), if_neg (by omega), if_neg (by omega)]
  have hB : isB 48 = true := by unfold isB; simp
  unfold tv nvt
  rw [e, hB]
  show app τ (sub (varB Z.2.2.2) 0) = _
  rw [sub_zero (ok_varB.mpr (hZ.2.2.2.1.ok (i := 0) (List.length_pos_iff.mpr hne)))]
theorem kap_vr (h : Nat) : kap (vr h) = 1000 + (h : Int) := by unfold kap vr; rw [if_pos (by omega)]; omega
/-- one node laid out -/
theorem laid_eq (hZ : Z4 Z) (hA : Ac Z P ρ) {q n : Nat} (hF : Fo Z P q n) : (hol Z n = true → rl kap (tv Z (tp Z P) q) = [(1000 + (nh Z n : Int), 0)]) ∧ (hol Z n = false → rl kap (tv Z (tp Z P) q) = (nlb Z n, nar Z n) :: (List.range (nar Z n)).flatMap (fun k => rl kap (tv Z (tp Z P) (nch Z n k)))) := by
  refine ⟨fun hh => ?_, fun hh => ?_⟩
  · rw [fo_hole hZ hA hF hh]
    show [(kap (vr (nh Z n)), 0)] = _
    rw [kap_vr]
  · have lab := (tv_node (τ := tp Z P) hZ hF.1 hh).2
    rw [fo_node hZ hA hF hh]
    show (kap (nlb Z n), nar Z n) :: rl kap _ = _
    rw [rl_flat, show kap (nlb Z n) = nlb Z n by unfold kap; rw [if_neg (by omega)]]
theorem laid_all (hZ : Z4 Z) (hA : Ac Z P ρ) : ∀ q n, nOK Z q → Fo Z P (if (q : Int) = -1 then 48 else q) n → (hol Z n = true → rl kap (tv Z (tp Z P) q) = [(1000 + (nh Z n : Int), 0)]) ∧ (hol Z n = false → rl kap (tv Z (tp Z P) q) = (nlb Z n, nar Z n) :: (List.range (nar Z n)).flatMap (fun k => rl kap (tv Z (tp Z P) (nch Z n k)))) := by
  intro q n _ hF
  rw [if_neg (by omega)] at hF
  exact laid_eq hZ hA hF
/-- the tree with the second rule's right in the place of node i -/
def uR (Z : T4) (P : Nat → Int) (i q : Nat) : T := if q ≤ i ∧ i < q + sz (varA Z.1) q then rl kap (app (tp Z P) (sgr (varA Z.1) i (varB Z.2.2.2) q)) else rl kap (tv Z (tp Z P) q)
theorem laid_repl (hZ : Z4 Z) (hA : Ac Z P ρ) {i : Nat} (hi : i < Z.1.length) (hr : Z.2.2.2 ≠ []) (hP : ∀ h, h < 16 → 0 ≤ P h → (i : Int) < P h) : ∀ q n, nOK Z q → Fo Z P (if (q : Int) = i then 48 else q) n → (hol Z n = true → uR Z P i q = [(1000 + (nh Z n : Int), 0)]) ∧ (hol Z n = false → uR Z P i q = (nlb Z n, nar Z n) :: (List.range (nar Z n)).flatMap (fun k => uR Z P i (nch Z n k))) := by
  have a16 := hZ.1.1.1
  have hiv : i < (varA Z.1).length := by rw [varA_len]; exact hi
  intro q n hq hF
  /- parts of what lies behind i -/
  have behind : ∀ m, i < m → (List.range (nar Z m)).flatMap (fun k => rl kap (tv Z (tp Z P) (nch Z m k))) = (List.range (nar Z m)).flatMap (fun k => uR Z P i (nch Z m k)) := fun m hm => flat_congr (fun k _ => by
    have := nch_mono Z m k
    unfold uR
    rw [if_neg (by omega)])
  by_cases e : q = i
  · subst e
    rw [if_pos rfl] at hF
    have eU : uR Z P q q = rl kap (tv Z (tp Z P) 48) := by
      have := sz_pos hiv
      unfold uR
      rw [if_pos ⟨by omega, by omega⟩, sgr_self _ hiv, tv_48 hZ hr]
    obtain ⟨u1, u2⟩ := laid_eq hZ hA hF
    rw [eU]
    refine ⟨u1, fun hh => ?_⟩
    have nm : q < n := by
      rcases hF.2.2.2.2 with g | ⟨h, h1, h2⟩
      · omega
      · have := hP h h1 (by omega); omega
    rw [u2 hh, behind n nm]
  · rw [if_neg (by omega)] at hF
    by_cases anc : q ≤ i ∧ i < q + sz (varA Z.1) q
    · have hq16 : q < 16 := by omega
      have en : nt Z q = Z.1 := by unfold nt; rw [if_pos hq16]
      have em : q % 16 = q := Nat.mod_eq_of_lt hq16
      have hB : isB q = false := by unfold isB; simp; omega
      have hql : q < Z.1.length := by omega
      have hqv : q < (varA Z.1).length := by rw [varA_len]; exact hql
      have nv : nvt Z q = varA Z.1 := by unfold nvt; rw [hB, en]; rfl
      have hho : hol Z q = false := by
        cases hho : hol Z q with
        | false => rfl
        | true =>
          have z := (tv_hole (τ := fun v => [(v, 0)]) hZ hq hho).2.1
          unfold nar at z
          rw [en, em] at z
          rw [sz_varA, sz_eq hql, z] at anc
          simp [fp] at anc
          omega
      have enq : n = q := hF.2.2.2.1 hho
      subst enq
      refine ⟨fun hh => absurd hh (by rw [hho]; simp), fun _ => ?_⟩
      have lab := (tv_node (τ := fun v => [(v, 0)]) hZ hq hho).2
      have hv := nvt_at (Z := Z) (q := n) (i := n) (by rw [en]; exact hql)
      rw [nv, en, hB] at hv
      have hh' : isH (lb Z.1 n) = false := by unfold hol nlb at hho; rw [en, em] at hho; exact hho
      rw [hh'] at hv
      simp only [Bool.false_eq_true, if_false] at hv
      have l1 : nlb Z n = lb (varA Z.1) n := by unfold nlb; rw [en, em, hv.2]
      have l2 : nar Z n = ar (varA Z.1) n := by unfold nar; rw [en, em, hv.1]
      have hch : ∀ k, nch Z n k = chd (varA Z.1) n k := fun k => by
        have := chd_nvt Z n n k
        rw [nv, en] at this
        unfold nch
        rw [en, em, ← this]
        omega
      conv => lhs; unfold uR
      rw [if_pos anc, sgr_node _ hqv (by omega) anc.2, app_cons, if_neg (by rw [← l1]; show ¬ nlb Z n < 0; omega), app_flat, ← l1, ← l2, List.singleton_append]
      show (kap (nlb Z n), nar Z n) :: rl kap ((List.range (nar Z n)).flatMap (fun k => app (tp Z P) (sgr (varA Z.1) i (varB Z.2.2.2) (chd (varA Z.1) n k)))) = _
      rw [rl_flat, show kap (nlb Z n) = nlb Z n by unfold kap; rw [if_neg (by omega)]]
      congr 1
      refine flat_congr (fun k hk => ?_)
      obtain ⟨c1, c2, -, -, -⟩ := nch_t hZ hq hk
      have ck := hch k
      unfold uR
      by_cases ac : nch Z n k ≤ i ∧ i < nch Z n k + sz (varA Z.1) (nch Z n k)
      · rw [if_pos ac, ck]
      · rw [if_neg ac]
        have : sgr (varA Z.1) i (varB Z.2.2.2) (chd (varA Z.1) n k) = sub (varA Z.1) (nch Z n k) := by
          rw [← ck]; unfold sgr; rw [if_neg ac]
        rw [this]
        have c16 : nch Z n k < 16 := by omega
        rw [tv_first c16]
    · obtain ⟨u1, u2⟩ := laid_eq hZ hA hF
      have eU : uR Z P i q = rl kap (tv Z (tp Z P) q) := by unfold uR; rw [if_neg anc]
      rw [eU]
      refine ⟨u1, fun hh => ?_⟩
      rw [u2 hh]
      congr 1
      rcases hF.2.2.2.2 with g | ⟨h, h1, h2⟩
      · subst g
        refine flat_congr (fun k hk => ?_)
        obtain ⟨c1, c2, c3, c4, -⟩ := nch_t hZ hq hk
        have gt := nch_mono Z n k
        unfold uR
        rw [if_neg (fun z => anc ⟨by omega, ?_⟩)]
        have n16 : n < 16 := by omega
        have en : nt Z n = Z.1 := by unfold nt; rw [if_pos n16]
        have em : n % 16 = n := Nat.mod_eq_of_lt n16
        have ce : nch Z n k = chd Z.1 n k := by unfold nch; rw [en, em]; omega
        have hk' : k < ar Z.1 n := by unfold nar at hk; rw [en, em] at hk; exact hk
        have hnl : n < Z.1.length := by have := hq.2; rw [en, em] at this; exact this
        have m1 := chd_mono Z.1 n (show k + 1 ≤ ar Z.1 n by omega)
        rw [chd_end hnl, chd_succ, ← ce] at m1
        have z2 := z.2
        rw [sz_varA] at z2
        rw [sz_varA]
        omega
      · have := hP h h1 (by omega)
        exact behind n (by omega)
theorem uR_top (hZ : Z4 Z) {i : Nat} (hi : i < Z.1.length) : uR Z P i 0 = rl kap (app (tp Z P) (repl (varA Z.1) i (varB Z.2.2.2))) := by
  have ok1 : ok 1 (varA Z.1) := ok_varA.mpr (hZ.1.1.ok hi)
  have hiv : i < (varA Z.1).length := by rw [varA_len]; exact hi
  have z : sz (varA Z.1) 0 = (varA Z.1).length := by unfold sz; rw [List.drop_zero]; exact ok_fp' ok1
  unfold uR
  rw [z, if_pos ⟨by omega, by omega⟩, sgr_top _ ok1 hiv]
/-- variables are -1 to -16 -/
def LbN (t : T) : Prop := ∀ p ∈ t, p.1 < 0 → -16 ≤ p.1
theorem vr_ge {h : Nat} (hh : h < 16) : -16 ≤ vr h := by unfold vr; omega
theorem thF_neg {rs : Nat → Int} {r : Nat → Nat} (hZ : Z4 Z) (hS : Solved Z rs r) : ∀ (n h : Nat), h < 16 → LbN (thF Z rs n h)
  | 0, h, hh => fun p hp _ => by
    unfold thF at hp
    rw [List.mem_singleton.mp hp]; exact vr_ge hh
  | n + 1, h, hh => by
    unfold thF
    rw [if_pos hh]
    by_cases hn : rs h < 0
    · rw [if_pos hn]; intro p hp _; rw [List.mem_singleton.mp hp]
      obtain ⟨h', a1, a2, -⟩ := hS.2 h hh hn
      show -16 ≤ rs h
      rw [a2]; exact vr_ge a1
    · rw [if_neg hn]
      intro p hp hlt
      unfold app at hp
      rw [List.mem_flatMap] at hp
      obtain ⟨x, hx, hpx⟩ := hp
      by_cases hx0 : x.1 < 0
      · rw [if_pos hx0] at hpx
        obtain ⟨h', b1, b2, -, -⟩ := sub_var hZ hx hx0
        rw [b2] at hpx
        dsimp only at hpx
        rw [vr_inv] at hpx
        exact thF_neg hZ hS n h' b1 p hpx hlt
      · rw [if_neg hx0] at hpx
        rw [List.mem_singleton.mp hpx] at hlt
        exact absurd hlt hx0
theorem tp_neg (hZ : Z4 Z) (hA : Ac Z P ρ) {v : Int} (hv : v < 0 ∧ -16 ≤ v) : LbN (tp Z P v) := thF_neg hZ (ac_solved hZ hA) 18 _ (by omega)
theorem app_neg (hZ : Z4 Z) (hA : Ac Z P ρ) {t : T} (ht : LbN t) : LbN (app (tp Z P) t) := by
  intro p hp hlt
  unfold app at hp
  rw [List.mem_flatMap] at hp
  obtain ⟨x, hx, hpx⟩ := hp
  by_cases hx0 : x.1 < 0
  · rw [if_pos hx0] at hpx
    exact tp_neg hZ hA ⟨hx0, ht x hx hx0⟩ p hpx hlt
  · rw [if_neg hx0] at hpx
    rw [List.mem_singleton.mp hpx] at hlt
    exact absurd hlt hx0
theorem lbn_A {t : T} (h : Wd t) : LbN (varA t) := by
  intro p hp hlt
  unfold varA at hp
  obtain ⟨q, hq, rfl⟩ := List.mem_map.mp hp
  by_cases hh : isH q.1 = true
  · rw [if_pos hh]; have := isH_iff.mp hh; show -16 ≤ 64 - q.1; omega
  · rw [if_neg hh] at hlt
    rcases h.2 q hq with g | g
    · omega
    · exact absurd g.1 hh
theorem lbn_B {t : T} (h : Wd t) : LbN (varB t) := by
  intro p hp hlt
  unfold varB at hp
  obtain ⟨q, hq, rfl⟩ := List.mem_map.mp hp
  by_cases hh : isH q.1 = true
  · rw [if_pos hh]; have := isH_iff.mp hh; show -16 ≤ 56 - q.1; omega
  · rw [if_neg hh] at hlt
    rcases h.2 q hq with g | g
    · omega
    · exact absurd g.1 hh
theorem kap_wk {t : T} (h1 : LbT t) (h2 : LbN t) (ho : ok 1 t) (h16 : t.length ≤ 16) : Wk (rl kap t) := by
  refine ⟨⟨by rw [rl_len]; exact h16, fun _ => (ok_rl _ _ 1).mpr ho⟩, fun e => ?_, fun p hp => ?_⟩
  · have l0 := congrArg List.length e
    rw [rl_len, List.length_nil] at l0
    have := ok_pos (n := 0) ho
    omega
  · unfold rl at hp
    obtain ⟨q, hq, rfl⟩ := List.mem_map.mp hp
    show 0 ≤ kap q.1 ∧ kap q.1 ≤ 2000
    unfold kap
    rcases h1 q hq with g | g
    · have := h2 q hq g
      rw [if_pos g]; omega
    · rw [if_neg (by omega)]; omega
end LAIDU
