/-! the reference's fitting; fits -/
theorem Fx.mt {a b x : Int} {M M' : Mem} {t : T} (h : Fx a b M M') (hk : 206 < a ∨ b < 204) (hm : Mt M x t) : Mt M' x t :=
  ⟨by rw [h _ _ (by omega)]; exact hm.1, fun i hi => by rw [h _ _ (by omega), h _ _ (by omega)]; exact hm.2 i hi⟩
theorem mset_self (M : Mem) (k j : Int) : mset M k j (M k j) = M := by
  funext a b
  unfold mset
  split
  · rename_i h; rw [h.1, h.2]
  · rfl
section FIT2
variable {V : VV} {M : Mem} {Q : Int → Mem → Prop}
theorem m_fitsAt {x r : Int} {l t : T} {i : Nat} (hx : 0 ≤ x ∧ x ≤ 20) (hr : 0 ≤ r ∧ r ≤ 5) (hl : Mt M (6 + r) l) (wl : Wd l) (l0 : l ≠ []) (ht : Mt M x t) (wt : Wt t) (hi : i < t.length)
    (h0 : ∀ M', Fx 228 228 M M' → fitAt l t i = none → Q 0 M') (h1 : ∀ M' env, Fx 228 228 M M' → fitAt l t i = some env → BndOK M' 228 t env → Q 1 M') : R_X10_fitsAt V x i r M Q := by
  have l16 := wl.1.1
  have t16 := wt.1
  have lp : 0 < l.length := List.length_pos_iff.mpr l0
  have okl := wl.1.ok lp
  have okt := wt.ok hi
  apply of_X10_fitsAt
  unfold wp_X10_fitsAt wp_X10_fitsAt_3
  refine ⟨fun j N => ∃ n : Nat, j = n ∧ n ≤ 8 ∧ Fx 228 228 M N ∧ ∀ q : Nat, q < n → N 228 q < 0, fun j _ => (9 - j).toNat, ⟨0, rfl, by omega, Fx.rf _ _ _, fun q hq => by omega⟩, ?_⟩
  rintro j N ⟨n, rfl, hn, hF, hN⟩
  unfold wp_X10_fitsAt_3_b
  refine ⟨fun d => ?_, fun d => ⟨by omega, ⟨n + 1, by rw [w32_id (by omega) (by omega)]; omega, by omega, hF.set (by omega) (by omega), fun q hq => ?_⟩, by (try dsimp only); rw [w32_id (by omega) (by omega)]; omega⟩⟩
  · have hn8 : n = 8 := by omega
    subst hn8
    rw [w32_id (x := 6 + r) (by omega) (by omega)]
    unfold wp_X10_fitsAt_37
    refine ⟨fun a p N' => ∃ (an pn : Nat) (env : EnvT), a = an ∧ p = pn ∧ Fx 228 228 M N' ∧ FitAt l t i pn an env ∧ BndOK N' 228 t env, fun _ p _ => (17 - p).toNat, ⟨i, 0, env0, rfl, rfl, hF, FitAt.start okl okt hi, fun h hh => Or.inl ⟨rfl, hN h hh⟩⟩, ?_⟩
    rintro a p N' ⟨an, pn, env, rfl, rfl, hF', hfit, hb⟩
    have hl' : Mt N' (6 + r) l := hF'.mt (by omega) hl
    have ht' : Mt N' x t := hF'.mt (by omega) ht
    have hpl := hfit.1
    have hal := hfit.2.1
    unfold wp_X10_fitsAt_37_b
    rw [hl'.1]
    refine ⟨by omega, fun g => ?_, fun g => ?_⟩
    · have : pn = l.length := by omega
      subst this
      exact h1 N' env hF' hfit.fin hb
    · have hp : pn < l.length := by omega
      have ha := hfit.lt hp
      have hse := sz_end ha
      have e1 : w32 (w32 (32 * (6 + r)) + (pn : Int)) = 32 * (6 + r) + pn := by rw [w32_id (x := 32 * (6 + r)) (by omega) (by omega), w32_id (by omega) (by omega)]
      have e2 : w32 (w32 (32 * x) + (an : Int)) = 32 * x + an := by rw [w32_id (x := 32 * x) (by omega) (by omega), w32_id (by omega) (by omega)]
      have ep : w32 ((pn : Int) + 1) = pn + 1 := w32_id (by omega) (by omega)
      have ea : w32 ((an : Int) + 1) = an + 1 := w32_id (by omega) (by omega)
      rw [e1, e2, ep, ea]
      clear e1 e2 ep ea
      refine ⟨by omega, ?_⟩
      intro v hv
      rw [(hl'.2 pn hp).1] at hv
      subst hv
      apply m_isHole
      by_cases hh : 65 ≤ lb l pn ∧ lb l pn ≤ 72
      · rw [if_pos hh]
        have hH := isH_iff.mpr hh
        have har := wl.hole hp hH
        obtain ⟨q, hq⟩ : ∃ q : Nat, lb l pn = 65 + q := ⟨(lb l pn - 65).toNat, by omega⟩
        have ev : w32 (lb l pn - 65) = q := by rw [w32_id (by omega) (by omega)]; omega
        rw [ev]
        clear ev
        refine ⟨fun c => by omega, fun _ => ⟨by omega, fun g1 => ?_, fun g1 => ⟨by omega, ?_⟩⟩⟩
        · unfold wp_X10_fitsAt_109 wp_X10_fitsAt_137
          refine ⟨by omega, fun c => by omega, fun _ => ⟨by omega, ?_⟩⟩
          intro M4 h4
          have hF4 : Fx 228 228 M M4 := by rw [h4]; exact hF'.set (by omega) (by omega)
          refine m_sizeOf hx (hF4.mt (by omega) ht) wt ha ?_
          rw [w32_id (x := (an : Int) + _) (by omega) (by omega), w_succ (by omega)]
          rcases hb q (by omega) with ⟨g2, -⟩ | ⟨n, n1, n2, n3⟩
          · refine ⟨⟨an + sz t an, pn + 1, eset env (65 + q) (sub t an), by omega, by omega, hF4, ?_, ?_⟩, by (try dsimp only); omega⟩
            · have := hfit.new hp hH har (by rw [hq]; exact g2)
              rwa [hq] at this
            · rw [h4]; exact hb.set ha
          · omega
        · rcases hb q (by omega) with ⟨-, g2⟩ | ⟨n, n1, n2, n3⟩
          · omega
          · rw [n3]
            refine m_same hx hx ht' ht' wt wt n1 ha ?_
            refine ⟨fun g2 => h0 N' hF' (hfit.no hp hH (by rw [hq]; exact n2) (fun e => by rw [if_pos e] at g2; omega)), fun g2 => ?_⟩
            have he : sub t n = sub t an := by
              split at g2
              · assumption
              · exact absurd rfl g2
            unfold wp_X10_fitsAt_109 wp_X10_fitsAt_137
            refine ⟨by omega, fun _ => ⟨by omega, by omega, ?_⟩, fun c => by omega⟩
            intro M4 h4
            rw [mset_self] at h4
            subst h4
            refine m_sizeOf hx ht' wt ha ?_
            rw [w32_id (x := (an : Int) + _) (by omega) (by omega), w_succ (by omega)]
            exact ⟨⟨an + sz t an, pn + 1, env, by omega, by omega, hF', hfit.old hp hH har (by rw [hq, n2, he]), hb⟩, by (try dsimp only); omega⟩
      · rw [if_neg hh]
        have hH : isH (lb l pn) = false := Bool.eq_false_iff.mpr (fun q => hh (isH_iff.mp q))
        refine ⟨fun _ => ⟨by omega, ?_⟩, fun q => by omega⟩
        rw [(ht'.2 an ha).1, (ht'.2 an ha).2, (hl'.2 pn hp).2]
        refine ⟨fun g1 => ⟨by omega, by omega, fun g2 => ?_, fun g2 => h0 N' hF' (hfit.nolab hp hH (fun q => g2 (by omega)))⟩, fun g1 => h0 N' hF' (hfit.nolab hp hH (fun q => g1 q.1))⟩
        exact ⟨⟨an + 1, pn + 1, env, by omega, by omega, hF', hfit.lab hp hH ⟨g1, by omega⟩, hb⟩, by (try dsimp only); omega⟩
  · by_cases hqn : q = n
    · subst hqn; rw [mset_same]; omega
    · rw [mset_idx _ _ _ (by omega)]; exact hN q (by omega)
def fbN (lf : Int → T) (t : T) (i n : Nat) : Nat := (List.range n).foldl (fun b (r : Nat) => if (fitAt (lf r) t i).isSome then b ||| 2 ^ r else b) 0
theorem fbN_succ (lf : Int → T) (t : T) (i n : Nat) : fbN lf t i (n + 1) = if (fitAt (lf n) t i).isSome then fbN lf t i n ||| 2 ^ n else fbN lf t i n := by
  unfold fbN; rw [List.range_succ, List.foldl_append]; rfl
theorem fbN_lt (lf : Int → T) (t : T) (i : Nat) : ∀ n, n ≤ 8 → fbN lf t i n < 256
  | 0, _ => by simp [fbN]
  | n + 1, h => by
    have ih := fbN_lt lf t i n (by omega)
    rw [fbN_succ]
    split
    · exact (or8 _ ih n (by omega)).2
    · exact ih
theorem or0 : ∀ b : Nat, b < 256 → or32 b 0 = b := by decide +kernel
theorem op_fits {t i : Int} (hR : Rel M) : R_X9_fits V t i M (fun r1 M1 => R_X10_fits V t i M1 (fun r2 M2 => r1 = r2 ∧ Rel M2)) := by
  obtain ⟨σ, hI, hC, hM⟩ := hR
  have un : ¬ ((0 ≤ t ∧ t ≤ 5) ∧ 0 ≤ i ∧ i < (σ.tr t).length) → R_X10_fits V t i M (fun r2 M2 => -1 = r2 ∧ Rel M2) := by
    intro hx
    apply of_X10_fits
    unfold wp_X10_fits
    exact m_node_case hI hM (fun g => ⟨fun _ => ⟨rfl, σ, hI, hC, hM⟩, fun c => by omega⟩) (fun n hn a b hlt => by omega)
  have hnr := hI.2.2.2.1
  apply of_X9_fits
  unfold wp_X9_fits
  apply x_treeAt
  by_cases ht : 0 ≤ t ∧ t ≤ 5
  · rw [if_pos ht]
    refine ⟨fun c => by omega, fun _ => ?_⟩
    have ct := hC.2.2.1 t ht.1 ht.2
    apply x_has
    rw [ct.1.1]
    by_cases hi : 0 ≤ i ∧ i < (σ.tr t).length
    · rw [if_pos hi]
      refine ⟨fun c => by omega, fun _ => ?_⟩
      obtain ⟨n, rfl⟩ : ∃ n : Nat, i = n := ⟨i.toNat, by omega⟩
      have hn : n < (σ.tr t).length := by omega
      have wd := hI.2.2.1 t ht.1 ht.2
      have h16 := wd.1.1
      refine x_holeCount ct.1 h16 ?_
      refine ⟨fun c => ?_, fun c => ?_⟩
      · have hpl : plain (σ.tr t) = true := (plain_iff _).mpr (by omega)
        unfold wp_X9_fits_36
        refine ⟨fun b j N => ∃ q : Nat, j = q ∧ q ≤ σ.nr ∧ b = fbN σ.lf (σ.tr t) n q ∧ Fx 31 31 M N, fun _ j _ => (7 - j).toNat, ⟨0, rfl, by omega, rfl, Fx.rf _ _ _⟩, ?_⟩
        rintro b j N ⟨q, rfl, hq, rfl, hF⟩
        unfold wp_X9_fits_36_b
        have n28 : N 28 0 = σ.nr := by rw [hF _ _ (by omega)]; exact hC.2.2.2.1
        rw [n28]
        have hlt := fbN_lt σ.lf (σ.tr t) n q (by omega)
        have eq1 : w32 ((q : Int) + 1) = q + 1 := w32_id (by omega) (by omega)
        rw [eq1]
        clear eq1
        refine ⟨fun d => ?_, fun d => ?_⟩
        · have hqe : q = σ.nr := by omega
          have hCN : RelC N σ := hC.core hI (fun c j hc => hF _ _ (by unfold cor at hc; omega))
          have hMN : RelM N σ := hM.fr (fun c j hc => hF _ _ (by omega))
          apply of_X10_fits
          unfold wp_X10_fits
          refine m_node_case hI hMN (fun g => absurd ⟨ht, hi⟩ g) (fun n' hn' a b hlt' => ⟨fun c => by omega, fun _ => ?_⟩)
          have mt := hMN.2.2.1 t ht.1 ht.2
          refine m_isPlain (by omega) mt wd.1 ?_
          rw [if_pos hpl]
          refine ⟨fun c => by omega, fun _ => ?_⟩
          unfold wp_X10_fits_27
          refine ⟨fun b j N' => ∃ q : Nat, j = q ∧ q ≤ σ.nr ∧ b = fbN σ.lf (σ.tr t) n q ∧ Fx 228 228 N N', fun _ j _ => (7 - j).toNat, ⟨0, rfl, by omega, rfl, Fx.rf _ _ _⟩, ?_⟩
          rintro b j N' ⟨p, rfl, hp, rfl, hF'⟩
          unfold wp_X10_fits_27_b wp_X10_fits_56
          have n5 : N' 203 5 = σ.nr := by rw [hF' _ _ (by omega)]; exact hMN.2.2.2.1
          rw [n5]
          have ep1 : w32 ((p : Int) + 1) = p + 1 := w32_id (by omega) (by omega)
          rw [ep1]
          clear ep1
          refine ⟨fun d => ⟨?_, σ, hI, hCN.fr hI (fun c j hc => hF' _ _ (by omega)), hMN.core hI (fun c j hc => hF' _ _ (by unfold corM at hc; omega))⟩, fun d => ?_⟩
          · have hpe : p = σ.nr := by omega
            rw [hqe, hpe]
          · have wr := hI.2.2.2.2.1 p (by omega) (by omega)
            have ml := (hMN.2.2.2.2.1 p (by omega) (by omega)).1
            have hlt2 := fbN_lt σ.lf (σ.tr t) n p (by omega)
            refine m_fitsAt (by omega) (by omega) (hF'.mt (by omega) ml) wr.1 wr.2.2.1 (hF'.mt (by omega) mt) wd.1 hn (fun M' f' e => ?_) (fun M' env f' e _ => ?_)
            · refine ⟨fun _ v hv => ⟨⟨p + 1, by omega, by omega, ?_, hF'.trans f'⟩, by (try dsimp only); omega⟩, fun c => by omega⟩
              rw [hv, or0 _ hlt2, fbN_succ, e]; rfl
            · refine ⟨fun c => by omega, fun _ v hv => ⟨⟨p + 1, by omega, by omega, ?_, hF'.trans f'⟩, by (try dsimp only); omega⟩⟩
              rw [hv, (or8 _ hlt2 p (by omega)).1, fbN_succ, e]; rfl
        · have wr := hI.2.2.2.2.1 q (by omega) (by omega)
          have cl := hC.2.2.2.2.1 q (by omega) (by omega)
          refine x_suits n28 hnr ⟨by omega, by omega⟩ (by omega) (hF.cu (by omega) cl.1.1) wr.1 wr.2.2.1 wr.2.2.2.2.1 (hF.ct (by omega) ct) wd.1 hn (fun M' f' e => ?_) (fun M' env f' e _ => ?_)
          · refine ⟨fun _ => ⟨⟨q + 1, by omega, by omega, ?_, hF.trans f'⟩, by (try dsimp only); omega⟩, fun c => by omega⟩
            rw [fbN_succ, e]; rfl
          · refine ⟨fun c => by omega, fun _ v hv => ⟨⟨q + 1, by omega, by omega, ?_, hF.trans f'⟩, by (try dsimp only); omega⟩⟩
            rw [hv, (or8 _ hlt q (by omega)).1, fbN_succ, e]; rfl
      · apply of_X10_fits
        unfold wp_X10_fits
        refine m_node_case hI hM (fun g => absurd ⟨ht, hi⟩ g) (fun n' hn' a b hlt' => ⟨fun c => by omega, fun _ => ?_⟩)
        refine m_isPlain (by omega) (hM.2.2.1 t ht.1 ht.2) wd.1 ?_
        rw [if_neg (fun q => c (by rw [(plain_iff _).mp q]; omega))]
        exact ⟨fun _ => ⟨rfl, σ, hI, hC, hM⟩, fun c => by omega⟩
    · rw [if_neg hi]
      exact ⟨fun _ => un (by omega), fun c => by omega⟩
  · rw [if_neg ht]
    exact ⟨fun _ => un (by omega), fun c => by omega⟩
end FIT2
