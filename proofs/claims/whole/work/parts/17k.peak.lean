/-! the class finds a peak -/
def PkF (M M' : Mem) : Prop := ∀ c j : Int, c < 129 ∨ 146 < c → ¬ (c = 127 ∧ j = 6) → M' c j = M c j
theorem WI.fr {Z : T4} {k : Nat → Nat} {s : Nat → Int} {N N' : Mem} (h : WI Z k s N) (hf : ∀ j : Int, N' 136 j = N 136 j) : WI Z k s N' := by
  unfold WI GoodAt hsum at h ⊢
  simp only [hf]
  exact h
theorem tv_zero {Z : T4} (hZ : Z4 Z) (hne : Z.1 ≠ []) {τ : Int → T} : tv Z τ 0 = app τ (varA Z.1) := by
  rw [tv_first (by omega)]
  have ok1 : ok 1 (varA Z.1) := ok_varA.mpr (hZ.1.1.ok (i := 0) (List.length_pos_iff.mpr hne))
  congr 1
  unfold sub sz
  have := ok_fp (varA Z.1) [] 1 ok1
  rw [List.append_nil] at this
  rw [List.drop_zero, this, List.take_length]
section PEAK
variable {V : VV} {M : Mem} {Q : Int → Mem → Prop} {σ : St}
theorem x_findPeak {a b : Int} {i : Nat} (hI : Inv σ) (hC : RelC M σ) (ha : 0 ≤ a ∧ a < σ.nr) (hb : 0 ≤ b ∧ b < σ.nr) (hi : i < (σ.lf a).length) {Z : T4} (hZe : Z = (σ.lf a, σ.lf b, σ.rt a, σ.rt b))
    (h0 : ∀ M' : Mem, PkF M M' → (∀ τ, okθ τ → tv Z τ i ≠ tv Z τ 16) → Q 0 M')
    (h1 : ∀ (M' : Mem) (n : Nat) (k : Nat → Nat) (s : Nat → Int) (ρ : Nat → Nat) (t : T), PkF M M' → JI Z i n k s [] → JK Z M' k s → WI Z k s M' → (∀ c : Nat, c < 48 → 0 < M' 136 c) → Rk Z k s ρ → t = app (th Z (jrs k s)) (varA (σ.lf a)) → ok 1 t → (16 < t.length → Q 3 M') ∧ (t.length ≤ 16 → Ct M' 140 (nmd (fo t) t) → M' 127 6 = (fo t).length → Q 1 M')) : R_X4_findPeak V a b i M Q := by
  have nr6 := hI.2.2.2.1
  have hn : M 28 0 = σ.nr := hC.2.2.2.1
  obtain ⟨wa1, wa2, wa3, wa4, wa5, -⟩ := hI.2.2.2.2.1 a ha.1 ha.2
  obtain ⟨wb1, wb2, wb3, wb4, wb5, -⟩ := hI.2.2.2.2.1 b hb.1 hb.2
  have hZ : Z4 Z := by rw [hZe]; exact ⟨wa1, wb1, wa2, wb2⟩
  have z1 : Z.1 = σ.lf a := by rw [hZe]
  have z2 : Z.2.1 = σ.lf b := by rw [hZe]
  have ca : Ct M (39 + 14 * a) Z.1 := by rw [z1]; exact (hC.2.2.2.2.1 a ha.1 ha.2).1
  have cb : Ct M (39 + 14 * b) Z.2.1 := by rw [z2]; exact (hC.2.2.2.2.1 b hb.1 hb.2).1
  have t0 : nt Z 0 = σ.lf a := by unfold nt; rw [if_pos (by omega), z1]
  have ok0 : nOK Z 0 := ⟨by omega, by rw [t0]; exact List.length_pos_iff.mpr wa3⟩
  have ho0 : hol Z 0 = false := by unfold hol nlb; rw [t0]; exact wa5
  have tm0 : Tm Z 0 := Or.inl ⟨by omega, ok0, ho0⟩
  apply of_X4_findPeak
  unfold wp_X4_findPeak
  apply x_rhas
  rw [if_pos (by omega)]
  refine ⟨fun z => by omega, fun _ => ?_⟩
  apply x_rhas
  rw [if_pos (by omega)]
  refine ⟨fun z => by omega, fun _ => ⟨by omega, by omega, ?_⟩⟩
  refine x_join hZ (by omega) (by omega) ca cb (by rw [z1]; exact hi) (by rw [z2]; exact wb3) (fun M6 f6 no => ⟨fun _ => h0 M6 (fun c j c1 _ => f6 c j (by omega)) no, fun z => absurd rfl z⟩) (fun M6 n k s f6 hJ hM hW hall => ⟨fun z => by omega, fun _ => ?_⟩)
  obtain ⟨ρ, hr⟩ := wi_rank hW hall
  have hS := ji_solved hZ hJ hr
  have et : tw Z (th Z (jrs k s)) (k 0) = app (th Z (jrs k s)) (varA (σ.lf a)) := by
    rw [← ji_kin hZ hJ hr tm0]
    have : tw Z (th Z (jrs k s)) 0 = tv Z (th Z (jrs k s)) 0 := by unfold tw; rw [if_pos (by omega)]
    rw [this, tv_zero hZ (by rw [z1]; exact wa3), z1]
  have okt : ok 1 (app (th Z (jrs k s)) (varA (σ.lf a))) := by
    have := tv_ok hZ (th_ok hZ hS) ok0
    rw [tv_zero hZ (by rw [z1]; exact wa3), z1] at this
    exact this
  obtain ⟨k1, k2⟩ := hJ.kin 0 tm0
  have hf := ji_heft hZ hJ hW hall hr _ (k 0) k1 k2 (Nat.lt_succ_self _)
  rw [et] at hf
  have k48 := k1.lt
  have e134 : M6 134 0 = (k 0 : Nat) := (hM.2.1 0 (by omega)).1
  have jk6 : JK Z M6 k s := ⟨hM.1, hM.2.1⟩
  apply of_X1_nodes
  unfold wp_X1_nodes
  rw [e134, hf]
  generalize htt : app (th Z (jrs k s)) (varA (σ.lf a)) = t at et okt hf
  refine ⟨by omega, by omega, fun g => ?_, fun g => ?_⟩
  · have l16 : t.length ≤ 16 := by
      by_cases g1 : 1000 < t.length
      · rw [if_pos g1] at g; omega
      · rw [if_neg g1] at g; omega
    refine x_writeKin hZ hJ jk6 hr tm0 (by omega) et l16 okt (fun M10 f10 c10 => ?_)
    have f11 : ∀ c j : Int, ¬ (c = 127 ∧ j = 6) → mset M10 127 6 ((fo t).length : Nat) c j = M10 c j := fun c j hc => by unfold mset; rw [if_neg hc]
    refine (h1 _ n k s ρ t (fun c j c1 c2 => by rw [f11 c j c2, f10 c j (by omega) (by omega) (by omega) (by omega), f6 c j (by omega)]) hJ ⟨hM.1.fr (fun c j _ _ => by rw [f11 c j (by omega), f10 c j (by omega) (by omega) (by omega) (by omega)]), fun c hc => ?_⟩ (hW.fr (fun j => by rw [f11 136 j (by omega), f10 136 j (by omega) (by omega) (by omega) (by omega)])) (fun c hc => ?_) hr htt.symm okt).2 l16 (c10.fr (fun c j _ _ => f11 c j (by omega))) (by rw [mset_same])
    · rw [f11 134 _ (by omega), f10 134 _ (by omega) (by omega) (by omega) (by omega), f11 135 _ (by omega), f10 135 _ (by omega) (by omega) (by omega) (by omega)]; exact hM.2.1 c hc
    · rw [f11 136 _ (by omega), f10 136 _ (by omega) (by omega) (by omega) (by omega)]; exact hall c hc
  · have l16 : 16 < t.length := by
      by_cases g1 : 1000 < t.length
      · omega
      · rw [if_neg g1] at g; omega
    exact (h1 M6 n k s ρ t (fun c j c1 _ => f6 c j (by omega)) hJ jk6 hW hall hr htt.symm okt).1 l16
end PEAK
