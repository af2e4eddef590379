/-! prices -/
section LEAST3
variable {V : VV} {M : Mem} {Q : Int → Mem → Prop}
theorem m_layPrices {x y : Int} {s t : T} {pr : Int → Int} (hx : 0 ≤ x ∧ x ≤ 5) (hy : 0 ≤ y ∧ y ≤ 5) (ms : Mt M x s) (mt : Mt M y t) (s16 : s.length ≤ 16) (t16 : t.length ≤ 16) (hp : ∀ w, 0 ≤ w → w ≤ 2 → M 208 w = pr w) (ho : OM M s t)
    (q : ∀ M', PM M' s t (fun _ => pr 0) (ldP s t pr) (pr 1) → (∀ c j, c ≠ 214 → c ≠ 215 → M' c j = M c j) → Q 0 M') : R_X10_layPrices V x y M Q := by
  apply of_X10_layPrices
  unfold wp_X10_layPrices wp_X10_layPrices_2
  refine ⟨fun z N => ∃ n : Nat, z = n ∧ n ≤ s.length ∧ (∀ a : Nat, a < n → N 215 a = pr 0) ∧ (∀ a b : Nat, a < n → b < t.length → N 214 (16 * (a : Int) + b) = ldP s t pr a b) ∧ (∀ c j, c ≠ 214 → c ≠ 215 → N c j = M c j), fun z _ => (17 - z).toNat, ⟨0, rfl, by omega, fun a ha => by omega, fun a b ha => by omega, fun _ _ _ _ => rfl⟩, ?_⟩
  rintro z N ⟨n, rfl, hn, hD, hL, hN⟩
  unfold wp_X10_layPrices_2_b
  rw [hN 203 10 (by omega) (by omega), ho.1]
  refine ⟨fun c => q N ⟨fun a ha => hD a (by omega), fun a b ha => hL a b (by omega), by rw [hN _ _ (by omega) (by omega)]; exact hp 1 (by omega) (by omega)⟩ hN, fun c => ⟨by omega, by omega, ?_⟩⟩
  have hns : n < s.length := by omega
  rw [hN 208 0 (by omega) (by omega), hp 0 (by omega) (by omega)]
  unfold wp_X10_layPrices_25
  refine ⟨fun z P => ∃ k : Nat, z = k ∧ k ≤ t.length ∧ (∀ a : Nat, a < n + 1 → P 215 a = pr 0) ∧ (∀ a b : Nat, (a < n ∨ (a = n ∧ b < k)) → b < t.length → P 214 (16 * (a : Int) + b) = ldP s t pr a b) ∧ (∀ c j, c ≠ 214 → c ≠ 215 → P c j = M c j), fun z _ => (17 - z).toNat, ⟨0, rfl, by omega, fun a ha => ?_, fun a b ha hb => ?_, fun c j a b => by rw [mset_cell _ b]; exact hN c j a b⟩, ?_⟩
  · by_cases e : a = n
    · rw [e, mset_same]
    · rw [mset_idx _ _ _ (by omega)]; exact hD a (by omega)
  · rw [mset_cell _ (by omega)]; exact hL a b (by omega) hb
  clear hD hL hN
  rintro z P ⟨k, rfl, hk, hD, hL, hN⟩
  unfold wp_X10_layPrices_25_b
  rw [hN 203 11 (by omega) (by omega), ho.2.1]
  refine ⟨fun c1 => ?_, fun c1 => ?_⟩
  · rw [w_succ (by omega)]
    exact ⟨⟨n + 1, by omega, by omega, hD, fun a b ha hb => hL a b (by omega) hb, hN⟩, by (try dsimp only); omega⟩
  · have hkt : k < t.length := by omega
    have e2 := (w_idx (x := x) (i := n) (by omega) (by omega) (by omega)).2
    have e4 := (w_idx (x := y) (i := k) (by omega) (by omega) (by omega)).2
    rw [(w_idx (x := x) (i := n) (by omega) (by omega) (by omega)).1, (w_idx (x := y) (i := k) (by omega) (by omega) (by omega)).1, w32_id (x := 16 * (n : Int)) (by omega) (by omega), w32_id (x := 16 * (n : Int) + k) (by omega) (by omega), w_succ (by omega), hN 205 _ (by omega) (by omega), hN 205 _ (by omega) (by omega), (ms.2 n hns).1, (mt.2 k hkt).1, hN 208 2 (by omega) (by omega), hp 2 (by omega) (by omega)]
    have fin : ∀ v : Int, v = ldP s t pr n k → (∃ k' : Nat, (k : Int) + 1 = k' ∧ k' ≤ t.length ∧ (∀ a : Nat, a < n + 1 → mset P 214 (16 * (n : Int) + k) v 215 a = pr 0) ∧ (∀ a b : Nat, (a < n ∨ (a = n ∧ b < k')) → b < t.length → mset P 214 (16 * (n : Int) + k) v 214 (16 * (a : Int) + b) = ldP s t pr a b) ∧ (∀ c j, c ≠ 214 → c ≠ 215 → mset P 214 (16 * (n : Int) + k) v c j = M c j)) ∧ (17 - ((k : Int) + 1)).toNat < (17 - (k : Int)).toNat := by
      intro v hv
      refine ⟨⟨k + 1, by omega, by omega, fun a ha => by rw [mset_cell _ (by omega)]; exact hD a ha, fun a b ha hb => ?_, fun c j a b => by rw [mset_cell _ a]; exact hN c j a b⟩, by omega⟩
      by_cases e : a = n ∧ b = k
      · rw [e.1, e.2, mset_same]; exact hv
      · rw [mset_idx _ _ _ (by omega)]; exact hL a b (by omega) hb
    refine ⟨e2, e4, fun g => ⟨by omega, fin 0 (by unfold ldP; rw [if_pos g])⟩, fun g => ⟨by omega, by omega, fin (pr 2) (by unfold ldP; rw [if_neg g])⟩⟩
/-- what the reference's leading may change -/
def FL (M M' : Mem) : Prop := ∀ c j, ¬ (c = 203 ∧ (j = 10 ∨ j = 11)) → ¬ (210 ≤ c ∧ c ≤ 221) → M' c j = M c j
theorem m_leastOf {x y : Int} {s t : T} {pr : Int → Int} (hx : 0 ≤ x ∧ x ≤ 5) (hy : 0 ≤ y ∧ y ≤ 5) (ms : Mt M x s) (mt : Mt M y t) (ws : Wt s) (wt : Wt t) (hs : 0 < s.length) (ht : 0 < t.length) (hp : ∀ w, 0 ≤ w → w ≤ 2 → M 208 w = pr w) (hpo : PrOK pr)
    (q : ∀ (M' : Mem) (v : Int), LeP s t pr v → OM M' s t → PM M' s t (fun _ => pr 0) (ldP s t pr) (pr 1) → FL M M' → Q v M') : R_X10_leastOf V x y M Q := by
  apply of_X10_leastOf
  unfold wp_X10_leastOf
  refine m_layOrders hx hy ms mt ws wt (fun M2 o2 f2 => ?_)
  have mtF : ∀ {u : Int} {w : T}, Mt M u w → Mt M2 u w := fun hm => ⟨by rw [f2 _ _ (by omega) (by omega) (by omega) (by omega)]; exact hm.1, fun i hi => by rw [f2 _ _ (by omega) (by omega) (by omega) (by omega), f2 _ _ (by omega) (by omega) (by omega) (by omega)]; exact hm.2 i hi⟩
  refine m_layPrices (pr := pr) hx hy (mtF ms) (mtF mt) ws.1 wt.1 (fun w a b => by rw [f2 _ _ (by omega) (by omega) (by omega) (by omega)]; exact hp w a b) o2 (fun M4 p4 f4 => ?_)
  have o4 : OM M4 s t := ⟨by rw [f4 _ _ (by omega) (by omega)]; exact o2.1, by rw [f4 _ _ (by omega) (by omega)]; exact o2.2.1, fun r hr => by rw [f4 _ _ (by omega) (by omega), f4 _ _ (by omega) (by omega)]; exact o2.2.2.1 r hr, fun r hr => by rw [f4 _ _ (by omega) (by omega), f4 _ _ (by omega) (by omega)]; exact o2.2.2.2 r hr⟩
  refine m_work o4 p4 (PB.price hpo) ws wt hs ht (fun M6 v hv f6 => ?_)
  refine q M6 v (LeP.of hv) ⟨by rw [f6 _ _ (by omega) (by omega)]; exact o4.1, by rw [f6 _ _ (by omega) (by omega)]; exact o4.2.1, fun r hr => by rw [f6 _ _ (by omega) (by omega), f6 _ _ (by omega) (by omega)]; exact o4.2.2.1 r hr, fun r hr => by rw [f6 _ _ (by omega) (by omega), f6 _ _ (by omega) (by omega)]; exact o4.2.2.2 r hr⟩ ⟨fun a ha => by rw [f6 _ _ (by omega) (by omega)]; exact p4.1 a ha, fun a b ha hb => by rw [f6 _ _ (by omega) (by omega)]; exact p4.2.1 a b ha hb, by rw [f6 _ _ (by omega) (by omega)]; exact p4.2.2⟩ (fun c j a b => by rw [f6 _ _ (by omega) (by omega), f4 _ _ (by omega) (by omega), f2 _ _ a (by omega) (by omega) (by omega)])
theorem op_least {s t : Int} (hR : Rel M) : R_X9_least V s t M (fun r1 M1 => R_X10_least V s t M1 (fun r2 M2 => r1 = r2 ∧ Rel M2)) := by
  obtain ⟨σ, hI, hC, hM⟩ := hR
  have emp : ∀ u, 0 ≤ u → u ≤ 5 → ∀ N, RelM N σ → (0 < N 204 u ↔ σ.tr u ≠ []) := fun u a b N hN => by
    rw [(hN.2.2.1 u a b).1]
    have := List.length_pos_iff (l := σ.tr u)
    constructor
    · intro w; exact this.mp (by omega)
    · intro w; have := this.mpr w; omega
  apply of_X9_least
  unfold wp_X9_least
  refine x_leads hI hC (fun hne => ⟨fun _ => ?_, fun c => by omega⟩) (fun M1 s1 s2 t1 t2 ns nt lk hC1 f1 => ⟨fun c => by omega, fun _ => ?_⟩)
  · apply of_X10_least
    unfold wp_X10_least
    apply m_areBoth
    rw [if_neg]
    · exact ⟨fun _ => ⟨rfl, σ, hI, hC, hM⟩, fun c => by omega⟩
    · rintro ⟨a, b, c, d⟩
      exact hne ⟨⟨a, (emp s a.1 a.2 M hM).mp c⟩, b, (emp t b.1 b.2 M hM).mp d⟩
  · have hM1 : RelM M1 σ := hM.fr (fun c j hc => f1 _ _ (by omega))
    obtain ⟨g, hl, l3, -⟩ := lk
    rw [l3]
    apply of_X10_least
    unfold wp_X10_least
    apply m_areBoth
    rw [if_pos ⟨⟨s1, s2⟩, ⟨t1, t2⟩, (emp s s1 s2 M1 hM1).mpr ns, (emp t t1 t2 M1 hM1).mpr nt⟩]
    refine ⟨fun c => by omega, fun _ => ?_⟩
    refine m_leastOf ⟨s1, s2⟩ ⟨t1, t2⟩ (hM1.2.2.1 s s1 s2) (hM1.2.2.1 t t1 t2) (hI.2.2.1 s s1 s2).1 (hI.2.2.1 t t1 t2).1 (List.length_pos_iff.mpr ns) (List.length_pos_iff.mpr nt) hM1.2.2.2.2.2.1 hI.2.2.2.2.2.1 (fun M3 v hv _ _ f3 => ⟨?_, σ, hI, hC1.fr hI (fun c j hc => f3 _ _ (by omega) (by omega)), hM1.core hI (fun c j hc => f3 _ _ (by unfold corM at hc; omega) (by unfold corM at hc; omega))⟩)
    obtain ⟨⟨g', a1, a2⟩, a3⟩ := hv
    have b1 := a3 g hl.1
    have b2 := (hl.2 g' a1).1
    omega
end LEAST3
