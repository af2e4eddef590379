/-! the class names a peak's holes -/
def pkT (t : T) : T := t.map (fun p => if p.1 < 0 then (65 + ((fo t).idxOf p.1 : Int), p.2) else p)
section NAMED
variable {V : VV} {M : Mem} {Q : Int → Mem → Prop}
theorem x_namePeak {kk : Int} {t : T} (hk : kk + 6 < 127 ∨ 146 < kk) (hC : Ct M 140 (nmd (fo t) t)) (hn : M 127 6 = (fo t).length) (hl : ∀ p ∈ t, p.1 < 0 ∨ 97 ≤ p.1 ∧ p.1 ≤ 122) (h16 : t.length ≤ 16) (hok : ok 1 t) (h0 : 8 < (fo t).length → Q 0 M) (h1 : (fo t).length ≤ 8 → ∀ M' : Mem, Ct M' kk (pkT t) → Fx kk (kk + 6) M M' → Q 1 M') : R_X4_namePeak V kk M Q := by
  have nl : (nmd (fo t) t).length = t.length := by unfold nmd; simp
  have pl : (pkT t).length = t.length := by unfold pkT; simp
  apply of_X4_namePeak
  unfold wp_X4_namePeak
  rw [hn]
  refine ⟨fun g => ?_, fun g => h0 (by omega)⟩
  have g8 : (fo t).length ≤ 8 := by omega
  unfold wp_X4_namePeak_18
  refine ⟨fun y N => ∃ q : Nat, y = q ∧ q ≤ t.length ∧ Fx kk (kk + 6) M N ∧ Cu N kk ((pkT t).take q), fun y _ => (17 - y).toNat, ⟨0, rfl, by omega, (Fx.rf _ _ _).set (by omega) (by omega), by rw [mset_same]; simp, fun i hi => by simp at hi⟩, ?_⟩
  rintro y N ⟨q, rfl, hq, hF, hN⟩
  have cN : Ct N 140 (nmd (fo t) t) := hC.fr (fun c j _ _ => hF c j (by omega))
  unfold wp_X4_namePeak_18_b
  rw [cN.1.1, nl]
  refine ⟨fun g2 => ?_, fun g2 => ⟨by omega, ?_⟩⟩
  · have : q = t.length := by omega
    rw [this, ← pl, List.take_length] at hN
    refine x_settle hN ⟨by omega, fun _ => (ok_var t _ (fun p => by split <;> rfl) 1).mpr hok⟩ (fun M' c' f' => h1 g8 M' c' (hF.trans (f'.mono (by omega) (by omega))))
  · have hlt : q < t.length := by omega
    have el1 : lb (nmd (fo t) t) q = if t[q].1 < 0 then ((fo t).idxOf t[q].1 : Int) + 1 else t[q].1 := by
      unfold nmd lb
      rw [List.getD_eq_getElem?_getD, List.getElem?_map, List.getElem?_eq_getElem hlt]
      simp only [Option.map_some, Option.getD_some]
      split <;> rfl
    have el2 : ar (nmd (fo t) t) q = t[q].2 := by
      unfold nmd ar
      rw [List.getD_eq_getElem?_getD, List.getElem?_map, List.getElem?_eq_getElem hlt]
      simp only [Option.map_some, Option.getD_some]
      split <;> rfl
    obtain ⟨c1, c2⟩ := cN.1.2 q (by omega)
    have hmem : t[q] ∈ t := List.getElem_mem hlt
    have tl : ((pkT t).take q).length < 16 := by rw [List.length_take]; omega
    have put : ∀ v : Int, (v = if t[q].1 < 0 then 65 + ((fo t).idxOf t[q].1 : Int) else t[q].1) → wp_X4_namePeak_56 V kk q v kk N Q (fun z N1 => (∃ q : Nat, z = q ∧ q ≤ t.length ∧ Fx kk (kk + 6) M N1 ∧ Cu N1 kk ((pkT t).take q)) ∧ (17 - z).toNat < (17 - (q : Int)).toNat) := by
      intro v hv
      unfold wp_X4_namePeak_56
      have ev : w32 ((q : Int) + 1) = ((q + 1 : Nat) : Int) := by rw [w32_id (by omega) (by omega)]; omega
      rw [ev]
      clear ev
      rw [show (140 : Int) + 2 = 142 from rfl]
      rw [show (140 : Int) + 2 = 142 from rfl] at c2
      rw [c2, el2]
      refine ⟨by omega, ?_⟩
      refine x_append hN tl (fun M5 c5 f5 => ⟨⟨q + 1, rfl, by omega, hF.trans (f5.mono (by omega) (by omega)), ?_⟩, by omega⟩)
      have : (pkT t).take (q + 1) = (pkT t).take q ++ [(v, t[q].2)] := by
        rw [List.take_succ_eq_append_getElem (by omega)]
        congr 2
        unfold pkT
        rw [List.getElem_map, hv]
        split <;> rfl
      rw [this]; exact c5
    intro v3 h3
    rw [show (140 : Int) + 1 = 141 from rfl] at h3 c1
    rw [c1, el1] at h3
    by_cases hv : t[q].1 < 0
    · rw [if_pos hv] at h3 put
      have hin := fo_all t _ hmem hv
      have hidx := List.idxOf_lt_length_of_mem hin
      refine ⟨fun z => by omega, fun z => put _ ?_⟩
      rw [w32_id (x := 65 + v3) (by omega) (by omega), w32_id (by omega) (by omega)]
      omega
    · rw [if_neg hv] at h3 put
      have := hl _ hmem
      refine ⟨fun z => put _ h3, fun z => by omega⟩
end NAMED
