/-! the reference lays the least -/
def OMx (N : Mem) (s t : T) : Prop := OM N s t
/-- the nodes of t that are led to so far -/
def LT (N : Mem) (t : T) (g : Ldg) (i : Nat) : Prop := ∀ b : Nat, b < t.length → (∃ a : Nat, a < i ∧ g a = some b ∧ N 221 b = a) ∨ ((∀ a, a < i → g a ≠ some b) ∧ N 221 b = -6)
theorem OM.fr {N N' : Mem} {s t : T} (h : OM N s t) (hf : ∀ c j, c ≠ 214 → c ≠ 215 → c ≠ 218 → c ≠ 219 → c ≠ 220 → c ≠ 221 → N' c j = N c j) : OM N' s t := by
  have e : ∀ c j, c = 203 ∨ c = 212 ∨ c = 213 ∨ c = 216 ∨ c = 217 → N' c j = N c j := fun c j hc => hf c j (by omega) (by omega) (by omega) (by omega) (by omega) (by omega)
  exact ⟨by rw [e _ _ (by omega)]; exact h.1, by rw [e _ _ (by omega)]; exact h.2.1, fun r hr => by rw [e _ _ (by omega), e _ _ (by omega)]; exact h.2.2.1 r hr, fun r hr => by rw [e _ _ (by omega), e _ _ (by omega)]; exact h.2.2.2 r hr⟩
section DWLW
variable {s t : T} {pr : Int → Int} {g : Ldg} {i a b : Nat} {fx : Bool} {ko : Option Nat}
theorem Dw_lt (h : a < i) : Dw pr g i fx a = if (g a).isSome then 100000 else pr 0 := if_pos h
theorem Dw_gt (h : i < a) : Dw pr g i fx a = pr 0 := by unfold Dw; rw [if_neg (by omega), if_neg (by omega)]
theorem Dw_false (h : ¬ a < i) : Dw pr g i false a = pr 0 := by unfold Dw; rw [if_neg h, if_neg (by simp)]
theorem Dw_eq : Dw pr g i true i = 100000 := by unfold Dw; rw [if_neg (by omega), if_pos ⟨rfl, rfl⟩]
theorem Lw_lt (h : a < i) : Lw s t pr g i ko a b = if g a = some b then ldP s t pr a b else 100000 := if_pos h
theorem Lw_gt (h : i < a) : Lw s t pr g i ko a b = ldP s t pr a b := by unfold Lw; rw [if_neg (by omega), if_neg (by omega)]
theorem Lw_none (h : ¬ a < i) : Lw s t pr g i none a b = ldP s t pr a b := by unfold Lw; rw [if_neg h, if_neg (by simp)]
theorem Lw_eq {k : Nat} : Lw s t pr g i (some k) i b = if k = b then ldP s t pr i b else 100000 := by
  unfold Lw
  rw [if_neg (by omega)]
  by_cases h : k = b
  · rw [if_pos h, if_neg (by rw [h]; simp)]
  · rw [if_neg h, if_pos ⟨rfl, by simp, by simpa using h⟩]
end DWLW
section LAYING
variable {V : VV} {M : Mem} {Q : Int → Mem → Prop}
theorem m_keepOnly {s t : T} {pr : Int → Int} {g : Ldg} {i k : Nat} (s16 : s.length ≤ 16) (t16 : t.length ≤ 16) (hi : i < s.length) (h11 : M 203 11 = t.length) (hp : PM M s t (Dw pr g i true) (Lw s t pr g i none) (pr 1)) (q : ∀ M', PM M' s t (Dw pr g i true) (Lw s t pr g i (some k)) (pr 1) → (∀ c j, c ≠ 214 → M' c j = M c j) → Q 0 M') : R_X10_keepOnly V i k M Q := by
  apply of_X10_keepOnly
  unfold wp_X10_keepOnly wp_X10_keepOnly_2
  refine ⟨fun z N => ∃ n : Nat, z = n ∧ n ≤ t.length ∧ (∀ a b : Nat, a < s.length → b < t.length → N 214 (16 * (a : Int) + b) = if a = i ∧ b < n then Lw s t pr g i (some k) a b else Lw s t pr g i none a b) ∧ (∀ c j, c ≠ 214 → N c j = M c j), fun z _ => (17 - z).toNat, ⟨0, rfl, by omega, fun a b ha hb => by rw [if_neg (by omega)]; exact hp.2.1 a b ha hb, fun _ _ _ => rfl⟩, ?_⟩
  rintro z N ⟨n, rfl, hn, hL, hN⟩
  unfold wp_X10_keepOnly_2_b
  rw [hN 203 11 (by omega), h11]
  refine ⟨fun c => ?_, fun c => ?_⟩
  · refine q N ⟨fun a ha => by rw [hN _ _ (by omega)]; exact hp.1 a ha, fun a b ha hb => ?_, by rw [hN _ _ (by omega)]; exact hp.2.2⟩ hN
    rw [hL a b ha hb]
    split
    · rfl
    · unfold Lw
      by_cases w : a < i
      · rw [if_pos w, if_pos w]
      · rw [if_neg w, if_neg w, if_neg (by simp), if_neg (by omega)]
  · have hnt : n < t.length := by omega
    have hLn := hL i n hi hnt
    rw [if_neg (by omega)] at hLn
    rw [w32_id (x := 16 * (i : Int)) (by omega) (by omega), w32_id (x := 16 * (i : Int) + n) (by omega) (by omega), w_succ (by omega), hLn]
    have fin : ∀ v : Int, v = Lw s t pr g i (some k) i n → (∃ n' : Nat, (n : Int) + 1 = n' ∧ n' ≤ t.length ∧ (∀ a b : Nat, a < s.length → b < t.length → mset N 214 (16 * (i : Int) + n) v 214 (16 * (a : Int) + b) = if a = i ∧ b < n' then Lw s t pr g i (some k) a b else Lw s t pr g i none a b) ∧ (∀ c j, c ≠ 214 → mset N 214 (16 * (i : Int) + n) v c j = M c j)) ∧ (17 - ((n : Int) + 1)).toNat < (17 - (n : Int)).toNat := by
      intro v hv
      refine ⟨⟨n + 1, by omega, by omega, fun a b ha hb => ?_, fun c j a => by rw [mset_cell _ a]; exact hN c j a⟩, by omega⟩
      by_cases e : a = i ∧ b = n
      · rw [e.1, e.2, mset_same, if_pos (by omega)]; exact hv
      · rw [mset_idx _ _ _ (by omega), hL a b ha hb]
        by_cases w : a = i ∧ b < n
        · rw [if_pos w, if_pos (by omega)]
        · rw [if_neg w, if_neg (by omega)]
    refine ⟨fun d => ⟨by omega, by omega, fin _ ?_⟩, fun d => ⟨by omega, fin _ ?_⟩⟩
    · have : n = k := by omega
      subst this
      unfold Lw
      rw [if_neg (by omega), if_neg (by simp), if_neg (by omega), if_neg (by simp)]
    · unfold Lw
      rw [if_neg (by omega), if_pos ⟨rfl, by simp, by simp; omega⟩]
theorem m_bringBack {x y : Int} {s t : T} {pr : Int → Int} {g : Ldg} {i k : Nat} (hx : 0 ≤ x ∧ x ≤ 5) (hy : 0 ≤ y ∧ y ≤ 5) (ms : Mt M x s) (mt : Mt M y t) (h208 : M 208 2 = pr 2) (s16 : s.length ≤ 16) (t16 : t.length ≤ 16) (hi : i < s.length) (h11 : M 203 11 = t.length) (hp : PM M s t (Dw pr g i true) (Lw s t pr g i (some k)) (pr 1)) (q : ∀ M', PM M' s t (Dw pr g i true) (Lw s t pr g i none) (pr 1) → (∀ c j, c ≠ 214 → M' c j = M c j) → Q 0 M') : R_X10_bringBack V x y i M Q := by
  apply of_X10_bringBack
  unfold wp_X10_bringBack wp_X10_bringBack_3
  refine ⟨fun z N => ∃ n : Nat, z = n ∧ n ≤ t.length ∧ (∀ a b : Nat, a < s.length → b < t.length → N 214 (16 * (a : Int) + b) = if a = i ∧ b < n then ldP s t pr a b else Lw s t pr g i (some k) a b) ∧ (∀ c j, c ≠ 214 → N c j = M c j), fun z _ => (17 - z).toNat, ⟨0, rfl, by omega, fun a b ha hb => by rw [if_neg (by omega)]; exact hp.2.1 a b ha hb, fun _ _ _ => rfl⟩, ?_⟩
  rintro z N ⟨n, rfl, hn, hL, hN⟩
  unfold wp_X10_bringBack_3_b
  rw [hN 203 11 (by omega), h11]
  refine ⟨fun c => ?_, fun c => ?_⟩
  · refine q N ⟨fun a ha => by rw [hN _ _ (by omega)]; exact hp.1 a ha, fun a b ha hb => ?_, by rw [hN _ _ (by omega)]; exact hp.2.2⟩ hN
    rw [hL a b ha hb]
    by_cases w : a = i
    · rw [if_pos (by omega)]
      unfold Lw
      rw [if_neg (by omega), if_neg (by simp)]
    · rw [if_neg (by omega)]
      unfold Lw
      by_cases w2 : a < i
      · rw [if_pos w2, if_pos w2]
      · rw [if_neg w2, if_neg w2, if_neg (by omega), if_neg (by simp)]
  · have hnt : n < t.length := by omega
    have e2 := (w_idx (x := x) (i := i) (by omega) (by omega) (by omega)).2
    have e4 := (w_idx (x := y) (i := n) (by omega) (by omega) (by omega)).2
    rw [(w_idx (x := x) (i := i) (by omega) (by omega) (by omega)).1, (w_idx (x := y) (i := n) (by omega) (by omega) (by omega)).1, w32_id (x := 16 * (i : Int)) (by omega) (by omega), w32_id (x := 16 * (i : Int) + n) (by omega) (by omega), w_succ (by omega), hN 205 _ (by omega), hN 205 _ (by omega), (ms.2 i hi).1, (mt.2 n hnt).1, hN 208 2 (by omega), h208]
    have fin : ∀ v : Int, v = ldP s t pr i n → (∃ n' : Nat, (n : Int) + 1 = n' ∧ n' ≤ t.length ∧ (∀ a b : Nat, a < s.length → b < t.length → mset N 214 (16 * (i : Int) + n) v 214 (16 * (a : Int) + b) = if a = i ∧ b < n' then ldP s t pr a b else Lw s t pr g i (some k) a b) ∧ (∀ c j, c ≠ 214 → mset N 214 (16 * (i : Int) + n) v c j = M c j)) ∧ (17 - ((n : Int) + 1)).toNat < (17 - (n : Int)).toNat := by
      intro v hv
      refine ⟨⟨n + 1, by omega, by omega, fun a b ha hb => ?_, fun c j a => by rw [mset_cell _ a]; exact hN c j a⟩, by omega⟩
      by_cases e : a = i ∧ b = n
      · rw [e.1, e.2, mset_same, if_pos (by omega)]; exact hv
      · rw [mset_idx _ _ _ (by omega), hL a b ha hb]
        by_cases w : a = i ∧ b < n
        · rw [if_pos w, if_pos (by omega)]
        · rw [if_neg w, if_neg (by omega)]
    exact ⟨e2, e4, fun d => ⟨by omega, fin 0 (by unfold ldP; rw [if_pos d])⟩, fun d => ⟨by omega, by omega, fin (pr 2) (by unfold ldP; rw [if_neg d])⟩⟩
theorem m_layLed {x y : Int} {s t : T} {pr : Int → Int} {g : Ldg} (hx : 0 ≤ x ∧ x ≤ 5) (hy : 0 ≤ y ∧ y ≤ 5) (ms : Mt M x s) (mt : Mt M y t) (ws : Wt s) (wt : Wt t) (hs : 0 < s.length) (ht : 0 < t.length) (hp : ∀ w, 0 ≤ w → w ≤ 2 → M 208 w = pr w) (hpo : PrOK pr) (hl : IsLeast s t pr g)
    (q : ∀ M' : Mem, (∀ a : Nat, a < s.length → M' 220 a = rowL g a) → LT M' t g s.length → M' 203 10 = s.length → M' 203 11 = t.length → FL M M' → Q 0 M') : R_X10_layLed V x y M Q := by
  have s16 := ws.1
  have t16 := wt.1
  have p0 := hpo 0 (by omega) (by omega)
  have gy : ∀ a b, g a = some b → b < 16 := fun a b h => by have := hl.1.1 a b h; omega
  apply of_X10_layLed
  unfold wp_X10_layLed
  refine m_leastOf hx hy ms mt ws wt hs ht hp hpo (fun M2 v0 hv0 o2 p2 f2 => ?_)
  unfold wp_X10_layLed_10
  refine ⟨fun z N => ∃ n : Nat, z = n ∧ n ≤ t.length ∧ (∀ b : Nat, b < n → N 221 b = -6) ∧ (∀ c j, c ≠ 221 → N c j = M2 c j), fun z _ => (17 - z).toNat, ⟨0, rfl, by omega, fun b hb => by omega, fun _ _ _ => rfl⟩, ?_⟩
  rintro z N ⟨n, rfl, hn, h6, hN⟩
  unfold wp_X10_layLed_10_b
  rw [hN 203 11 (by omega), o2.2.1]
  refine ⟨fun c => ?_, fun c => ?_⟩
  · have hnt : n = t.length := by omega
    subst hnt
    clear c
    unfold wp_X10_layLed_37
    refine ⟨fun z P => ∃ i : Nat, z = i ∧ i ≤ s.length ∧ OM P s t ∧ PM P s t (Dw pr g i false) (Lw s t pr g i none) (pr 1) ∧ (∀ a : Nat, a < i → P 220 a = rowL g a) ∧ LT P t g i ∧ FL M P, fun z _ => (17 - z).toNat, ⟨0, rfl, by omega, o2.fr (fun c j _ _ _ _ _ a => hN c j a), ⟨fun a ha => ?_, fun a b ha hb => ?_, by rw [hN _ _ (by omega)]; exact p2.2.2⟩, fun a ha => by omega, fun b hb => Or.inr ⟨fun a ha => by omega, h6 b hb⟩, fun c j a b => by rw [hN _ _ (by omega)]; exact f2 c j a b⟩, ?_⟩
    · rw [hN _ _ (by omega), p2.1 a ha]
      unfold Dw; simp
    · rw [hN _ _ (by omega), p2.2.1 a b ha hb]
      unfold Lw; simp
    clear h6 hN
    rintro z P ⟨i, rfl, hi, oP, pP, rP, lP, fP⟩
    unfold wp_X10_layLed_37_b
    rw [oP.1]
    refine ⟨fun c => ?_, fun c => ⟨by omega, ?_⟩⟩
    · have his : i = s.length := by omega
      subst his
      exact q P rP lP oP.1 oP.2.1 fP
    · have his : i < s.length := by omega
      intro v3 hv3
      have hv3' : v3 = pr 0 := by
        rw [hv3, pP.1 i his]
        unfold Dw
        rw [if_neg (by omega), if_neg (by simp)]
      subst hv3'
      refine ⟨by omega, ?_⟩
      have mtF : ∀ {R : Mem} {u : Int} {w : T}, FL M R → Mt M u w → Mt R u w := fun f hm => ⟨by rw [f _ _ (by omega) (by omega)]; exact hm.1, fun i hi => by rw [f _ _ (by omega) (by omega), f _ _ (by omega) (by omega)]; exact hm.2 i hi⟩
      unfold wp_X10_layLed_71
      refine ⟨fun z5 z7 R => ∃ kk : Nat, z7 = kk ∧ kk ≤ t.length ∧ OM R s t ∧ (∀ a : Nat, a < i → R 220 a = rowL g a) ∧ LT R t g i ∧ FL M R ∧ ((z5 = 99 ∧ PM R s t (Dw pr g i true) (Lw s t pr g i none) (pr 1) ∧ ∀ k', k' < kk → g i ≠ some k') ∨ (∃ b : Nat, g i = some b ∧ z5 = b ∧ PM R s t (Dw pr g i true) (Lw s t pr g i (some b)) (pr 1))), fun _ z7 _ => (17 - z7).toNat, ⟨0, rfl, by omega, oP.fr (fun c j _ a _ _ _ _ => mset_cell _ a _ _ _), fun a ha => by rw [mset_cell _ (by omega)]; exact rP a ha, fun b hb => by rw [mset_cell _ (by omega)]; exact lP b hb, fun c j a b => by rw [mset_cell _ (by omega)]; exact fP c j a b, Or.inl ⟨rfl, ⟨fun a ha => ?_, fun a b ha hb => by rw [mset_cell _ (by omega)]; exact pP.2.1 a b ha hb, by rw [mset_cell _ (by omega)]; exact pP.2.2⟩, fun k' hk' => by omega⟩⟩, ?_⟩
      · by_cases e : a = i
        · rw [e, mset_same]
          unfold Dw
          rw [if_neg (by omega), if_pos ⟨rfl, rfl⟩]
        · rw [mset_idx _ _ _ (by omega), pP.1 a ha]
          unfold Dw
          by_cases w : a < i
          · rw [if_pos w, if_pos w]
          · rw [if_neg w, if_neg w, if_neg (by simp), if_neg (by omega)]
      clear oP pP rP lP fP
      rintro z5 z7 R ⟨kk, rfl, hkk, oR, rR, lR, fR, hcase⟩
      /- the row's end -/
      have fin : ((z5 = 99 ∧ PM R s t (Dw pr g i true) (Lw s t pr g i none) (pr 1) ∧ g i = none) ∨ (∃ b : Nat, g i = some b ∧ z5 = b ∧ PM R s t (Dw pr g i true) (Lw s t pr g i (some b)) (pr 1))) → wp_X10_layLed_161 V x y v0 i z5 (pr 0) R Q (fun z1 N1 => (∃ i : Nat, z1 = i ∧ i ≤ s.length ∧ OM N1 s t ∧ PM N1 s t (Dw pr g i false) (Lw s t pr g i none) (pr 1) ∧ (∀ a : Nat, a < i → N1 220 a = rowL g a) ∧ LT N1 t g i ∧ FL M N1) ∧ (17 - z1).toNat < (17 - (i : Int)).toNat) := by
        intro hc
        unfold wp_X10_layLed_161
        refine ⟨by omega, fun w => ?_, fun w => ?_⟩
        · rcases hc with ⟨-, pR, hgn⟩ | ⟨b, hgb, hz, -⟩
          · intro M5 h5
            refine ⟨by omega, ?_⟩
            generalize hM6 : mset M5 215 (i : Int) (pr 0) = M6
            have g6 : ∀ c j : Int, ¬ (c = 215 ∧ j = i) → ¬ (c = 220 ∧ j = i) → M6 c j = R c j := fun c j a b => by
              rw [← hM6, show mset M5 215 (i : Int) (pr 0) c j = M5 c j from if_neg a, h5]; exact if_neg b
            have g6a : M6 215 i = pr 0 := by rw [← hM6, mset_same]
            have g6b : M6 220 i = 99 := by rw [← hM6, mset_cell _ (by omega), h5, mset_same]; exact w
            clear hM6
            unfold wp_X10_layLed_189
            refine ⟨fun z N => ∃ n : Nat, z = n ∧ n ≤ t.length ∧ (∀ b : Nat, b < n → N 214 (16 * (i : Int) + b) = 100000) ∧ (∀ c j, ¬ (c = 214 ∧ 16 * (i : Int) ≤ j ∧ j < 16 * (i : Int) + 16) → N c j = M6 c j), fun z _ => (17 - z).toNat, ⟨0, rfl, by omega, fun b hb => by omega, fun _ _ _ => rfl⟩, ?_⟩
            rintro z N ⟨n, rfl, hn, hF, hN⟩
            unfold wp_X10_layLed_189_b
            rw [hN 203 11 (by omega), g6 _ _ (by omega) (by omega), oR.2.1]
            refine ⟨fun c1 => ?_, fun c1 => ?_⟩
            · rw [w_succ (by omega)]
              refine ⟨⟨i + 1, by omega, by omega, oR.fr (fun c j a1 a2 _ _ a5 _ => by rw [hN _ _ (by omega), g6 _ _ (by omega) (by omega)]), ⟨fun a ha => ?_, fun a b ha hb => ?_, ?_⟩, fun a ha => ?_, fun b hb => ?_, fun c j a b => by rw [hN _ _ (by omega), g6 _ _ (by omega) (by omega)]; exact fR c j a b⟩, by (try dsimp only); omega⟩
              · rw [hN _ _ (by omega)]
                by_cases e : a = i
                · rw [e, g6a, Dw_lt (by omega), hgn]; simp
                · rw [g6 _ _ (by omega) (by omega), pR.1 a ha]
                  by_cases w2 : a < i
                  · rw [Dw_lt w2, Dw_lt (by omega)]
                  · rw [Dw_gt (by omega), Dw_false (by omega)]
              · by_cases e : a = i
                · rw [e, hF b (by omega), Lw_lt (by omega), hgn, if_neg (by simp)]
                · rw [hN _ _ (by omega), g6 _ _ (by omega) (by omega), pR.2.1 a b ha hb]
                  by_cases w2 : a < i
                  · rw [Lw_lt w2, Lw_lt (by omega)]
                  · rw [Lw_none (by omega), Lw_none (by omega)]
              · rw [hN _ _ (by omega), g6 _ _ (by omega) (by omega)]; exact pR.2.2
              · rw [hN _ _ (by omega)]
                by_cases e : a = i
                · rw [e, g6b]; unfold rowL; rw [hgn]
                · rw [g6 _ _ (by omega) (by omega)]; exact rR a (by omega)
              · rw [hN _ _ (by omega), g6 _ _ (by omega) (by omega)]
                rcases lR b hb with ⟨a, a1, a2, a3⟩ | ⟨a1, a2⟩
                · exact Or.inl ⟨a, by omega, a2, a3⟩
                · refine Or.inr ⟨fun a ha => ?_, a2⟩
                  by_cases e : a = i
                  · rw [e, hgn]; simp
                  · exact a1 a (by omega)
            · have hnt : n < t.length := by omega
              rw [w32_id (x := 16 * (i : Int)) (by omega) (by omega), w32_id (x := 16 * (i : Int) + n) (by omega) (by omega), w_succ (by omega)]
              refine ⟨by omega, ⟨n + 1, by omega, by omega, fun b hb => ?_, fun c j a => ?_⟩, by (try dsimp only); omega⟩
              · by_cases e : b = n
                · rw [e, mset_same]
                · rw [mset_idx _ _ _ (by omega)]; exact hF b (by omega)
              · rw [show mset N 214 (16 * (i : Int) + n) 100000 c j = N c j from if_neg (by omega)]; exact hN c j a
          · have := gy i b hgb
            omega
        · rcases hc with ⟨z99, -, -⟩ | ⟨b, hgb, hz, pR⟩
          · exact absurd z99 w
          · have hb16 := (hl.1.1 i b hgb).2.2.2
            intro M4 h4
            subst hz
            refine ⟨by omega, ?_⟩
            rw [w_succ (by omega)]
            generalize hM6 : mset M4 221 (b : Int) (i : Int) = M6
            have g6 : ∀ c j : Int, ¬ (c = 221 ∧ j = b) → ¬ (c = 220 ∧ j = i) → M6 c j = R c j := fun c j a d => by
              rw [← hM6, show mset M4 221 (b : Int) (i : Int) c j = M4 c j from if_neg a, h4]; exact if_neg d
            have g6a : M6 221 b = i := by rw [← hM6, mset_same]
            have g6b : M6 220 i = b := by rw [← hM6, mset_cell _ (by omega), h4, mset_same]
            refine ⟨⟨i + 1, by omega, by omega, oR.fr (fun c j _ _ _ _ a5 a6 => g6 _ _ (by omega) (by omega)), ⟨fun a ha => ?_, fun a b' ha hb => ?_, by rw [g6 _ _ (by omega) (by omega)]; exact pR.2.2⟩, fun a ha => ?_, fun b' hb' => ?_, fun c j a d => by rw [g6 _ _ (by omega) (by omega)]; exact fR c j a d⟩, by (try dsimp only); omega⟩
            · rw [g6 _ _ (by omega) (by omega), pR.1 a ha]
              by_cases e : a = i
              · rw [e, Dw_eq, Dw_lt (by omega), hgb]; simp
              · by_cases w2 : a < i
                · rw [Dw_lt w2, Dw_lt (by omega)]
                · rw [Dw_gt (by omega), Dw_false (by omega)]
            · rw [g6 _ _ (by omega) (by omega), pR.2.1 a b' ha hb]
              by_cases e : a = i
              · rw [e, Lw_eq, Lw_lt (by omega), hgb]
                by_cases w2 : b = b'
                · rw [if_pos w2, if_pos (by rw [w2])]
                · rw [if_neg w2, if_neg (by simpa using w2)]
              · by_cases w2 : a < i
                · rw [Lw_lt w2, Lw_lt (by omega)]
                · rw [Lw_gt (by omega), Lw_none (by omega)]
            · by_cases e : a = i
              · rw [e, g6b]; unfold rowL; rw [hgb]
              · rw [g6 _ _ (by omega) (by omega)]; exact rR a (by omega)
            · by_cases e : b' = b
              · rw [e]; exact Or.inl ⟨i, by omega, hgb, g6a⟩
              · rw [g6 _ _ (by omega) (by omega)]
                rcases lR b' hb' with ⟨a, a1, a2, a3⟩ | ⟨a1, a2⟩
                · exact Or.inl ⟨a, by omega, a2, a3⟩
                · refine Or.inr ⟨fun a ha => ?_, a2⟩
                  by_cases e2 : a = i
                  · rw [e2, hgb]; simp; omega
                  · exact a1 a (by omega)
      unfold wp_X10_layLed_71_b
      rw [oR.2.1]
      refine ⟨fun c1 => fin ?_, fun c1 => ⟨fun c2 => ?_, fun c2 => fin ?_⟩⟩
      · rcases hcase with ⟨a1, a2, a3⟩ | h
        · refine Or.inl ⟨a1, a2, ?_⟩
          cases hgi : g i with
          | none => rfl
          | some b => exact absurd hgi (a3 b (by have := hl.1.1 i b hgi; omega))
        · exact Or.inr h
      · rcases hcase with ⟨-, pR, hno⟩ | ⟨b, hgb, hz, -⟩
        · have hkt : kk < t.length := by omega
          subst c2
          have skip : g i ≠ some kk → (∃ kk' : Nat, w32 ((kk : Int) + 1) = kk' ∧ kk' ≤ t.length ∧ OM R s t ∧ (∀ a : Nat, a < i → R 220 a = rowL g a) ∧ LT R t g i ∧ FL M R ∧ (((99 : Int) = 99 ∧ PM R s t (Dw pr g i true) (Lw s t pr g i none) (pr 1) ∧ ∀ k', k' < kk' → g i ≠ some k') ∨ (∃ b : Nat, g i = some b ∧ (99 : Int) = b ∧ PM R s t (Dw pr g i true) (Lw s t pr g i (some b)) (pr 1)))) ∧ (17 - w32 ((kk : Int) + 1)).toNat < (17 - (kk : Int)).toNat := by
            intro hne
            rw [w_succ (by omega)]
            refine ⟨⟨kk + 1, by omega, by omega, oR, rR, lR, fR, Or.inl ⟨rfl, pR, fun k' hk' => ?_⟩⟩, by omega⟩
            by_cases e : k' = kk
            · rw [e]; exact hne
            · exact hno k' (by omega)
          refine ⟨by omega, fun c3 => skip ?_, fun c3 => ?_⟩
          · intro hgk
            rcases lR kk hkt with ⟨a, a1, a2, a3⟩ | ⟨a1, a2⟩
            · have := (hl.1.2 a kk i kk a2 hgk a1).1
              omega
            · omega
          · have hL : R 214 (16 * (i : Int) + kk) = ldP s t pr i kk := by
              rw [pR.2.1 i kk his hkt]
              unfold Lw
              rw [if_neg (by omega), if_neg (by simp)]
            have lb9 : 0 ≤ ldP s t pr i kk ∧ ldP s t pr i kk ≤ 9 := by
              have := hpo 2 (by omega) (by omega)
              unfold ldP; split <;> omega
            rw [w32_id (x := 16 * (i : Int)) (by omega) (by omega), w32_id (x := 16 * (i : Int) + kk) (by omega) (by omega), hL]
            refine ⟨by omega, fun c4 => by omega, fun _ => ?_⟩
            refine m_keepOnly s16 t16 his oR.2.1 pR (fun M7 p7 f7 => ?_)
            have o7 : OM M7 s t := oR.fr (fun c j a _ _ _ _ _ => f7 c j a)
            refine m_work o7 p7 (PB.row hpo) ws wt hs ht (fun M9 v hv f9 => ?_)
            have o9 : OM M9 s t := o7.fr (fun c j _ _ a b _ _ => f9 c j a b)
            have p9 : PM M9 s t (Dw pr g i true) (Lw s t pr g i (some kk)) (pr 1) := ⟨fun a ha => by rw [f9 _ _ (by omega) (by omega)]; exact p7.1 a ha, fun a b ha hb => by rw [f9 _ _ (by omega) (by omega)]; exact p7.2.1 a b ha hb, by rw [f9 _ _ (by omega) (by omega)]; exact p7.2.2⟩
            have fl9 : FL M M9 := fun c j a b => by rw [f9 _ _ (by omega) (by omega), f7 _ _ (by omega)]; exact fR c j a b
            have r9 : ∀ a : Nat, a < i → M9 220 a = rowL g a := fun a ha => by rw [f9 _ _ (by omega) (by omega), f7 _ _ (by omega)]; exact rR a ha
            have l9 : LT M9 t g i := fun b hb => by rw [f9 _ _ (by omega) (by omega), f7 _ _ (by omega)]; exact lR b hb
            have key : v = v0 ↔ g i = some kk := (row_try hpo s16 t16 his hv0 hv).trans (row_found t16 hl hv0 his hno)
            refine ⟨fun c5 => ?_, fun c5 => ?_⟩
            · have hgk := key.mp c5
              unfold wp_X10_layLed_138
              refine ⟨fun w => by omega, fun _ => ?_⟩
              rw [w_succ (by omega)]
              exact ⟨⟨kk + 1, by omega, by omega, o9, r9, l9, fl9, Or.inr ⟨kk, hgk, rfl, p9⟩⟩, by (try dsimp only); omega⟩
            · have hgk : g i ≠ some kk := fun w => c5 (key.mpr w)
              unfold wp_X10_layLed_138
              refine ⟨fun _ => ?_, fun w => absurd rfl w⟩
              refine m_bringBack hx hy (mtF fl9 ms) (mtF fl9 mt) (by rw [fl9 _ _ (by omega) (by omega)]; exact hp 2 (by omega) (by omega)) s16 t16 his o9.2.1 p9 (fun M11 p11 f11 => ?_)
              rw [w_succ (by omega)]
              refine ⟨⟨kk + 1, by omega, by omega, o9.fr (fun c j a _ _ _ _ _ => f11 c j a), fun a ha => by rw [f11 _ _ (by omega)]; exact r9 a ha, fun b hb => by rw [f11 _ _ (by omega)]; exact l9 b hb, fun c j a b => by rw [f11 _ _ (by omega)]; exact fl9 c j a b, Or.inl ⟨rfl, p11, fun k' hk' => ?_⟩⟩, by (try dsimp only); omega⟩
              by_cases e : k' = kk
              · rw [e]; exact hgk
              · exact hno k' (by omega)
        · have := gy i b hgb
          omega
      · rcases hcase with ⟨a1, -, -⟩ | h
        · exact absurd a1 c2
        · exact Or.inr h
  · rw [w_succ (by omega)]
    refine ⟨by omega, ⟨n + 1, by omega, by omega, fun b hb => ?_, fun c j a => by rw [mset_cell _ a]; exact hN c j a⟩, by (try dsimp only); omega⟩
    by_cases e : b = n
    · rw [e, mset_same]
    · rw [mset_idx _ _ _ (by omega)]; exact h6 b (by omega)
end LAYING
