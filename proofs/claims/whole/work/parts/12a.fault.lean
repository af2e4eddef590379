/-! the fault -/
def isLb (c : Int) : Bool := decide (97 ≤ c ∧ c ≤ 122)
theorem isLb_iff {c : Int} : isLb c = true ↔ 97 ≤ c ∧ c ≤ 122 := by simp [isLb]
/-- may the sign m follow the sign l (0: none) with o open -/
def mayF (l m o : Int) : Bool := if l = 0 ∨ l = 40 then isLb m || isH m else if m = 40 then isLb l else decide (0 < o) && (isLb m || isH m || m == 41)
def fO (m o : Int) : Int := if m = 40 then o + 1 else if m = 41 then o - 1 else o
def fgo : List Int → Nat → Int → Int → Int
  | [], n, o, l => if l = 0 ∨ 0 < o then n else -1
  | m :: r, n, o, l => if mayF l m o then fgo r (n + 1) (fO m o) m else n
theorem fgo_nil (n : Nat) (o l : Int) : fgo [] n o l = if l = 0 ∨ 0 < o then (n : Int) else -1 := rfl
theorem fgo_cons (m : Int) (r : List Int) (n : Nat) (o l : Int) : fgo (m :: r) n o l = if mayF l m o then fgo r (n + 1) (fO m o) m else (n : Int) := rfl
def good : List Int → Int → Int → Prop
  | [], o, l => l ≠ 0 ∧ o ≤ 0
  | m :: r, o, l => mayF l m o = true ∧ good r (fO m o) m
theorem fgo_good : ∀ (r : List Int) (n : Nat) (o l : Int), fgo r n o l < 0 ↔ good r o l
  | [], n, o, l => by
    unfold fgo good
    split <;> omega
  | m :: r, n, o, l => by
    unfold fgo good
    split
    · rename_i h
      rw [fgo_good r]
      exact ⟨fun g => ⟨h, g⟩, fun g => g.2⟩
    · rename_i h
      exact ⟨fun g => by omega, fun g => absurd g.1 h⟩
theorem fgo_ge : ∀ (r : List Int) (n : Nat) (o l : Int), 0 ≤ fgo r n o l ∨ fgo r n o l = -1
  | [], n, o, l => by
    unfold fgo
    split <;> omega
  | m :: r, n, o, l => by
    unfold fgo
    split
    · exact fgo_ge r _ _ _
    · omega
theorem pad_at {p : List Int} {i : Nat} (hi : i < p.length) : p.drop i = p.getD i 0 :: p.drop (i + 1) := by
  rw [List.drop_eq_getElem_cons hi]; simp [hi]
theorem padAt.get {M : Mem} {c : Int} {p : List Int} (h : padAt M c p) {i : Nat} (hi : i < p.length) : M c i = p.getD i 0 := h i _ (by simp [hi])
theorem getD_mem {p : List Int} {i : Nat} (hi : i < p.length) : p.getD i 0 ∈ p := by
  simp [hi]
section FAULT
variable {V : VV} {M : Mem} {Q : Int → Mem → Prop}
theorem x_isLabel {c : Int} (h : Q (if isLb c then 1 else 0) M) : R_X9_isLabel V c M Q := by
  apply of_X9_isLabel
  unfold wp_X9_isLabel
  refine ⟨fun c1 => ?_, fun c1 => ⟨fun d => ?_, fun d => ?_⟩⟩
  · rwa [if_neg (by rw [isLb_iff]; omega)] at h
  · rwa [if_neg (by rw [isLb_iff]; omega)] at h
  · rwa [if_pos (by rw [isLb_iff]; omega)] at h
theorem x_mayFollow {l m o : Int} (h : Q (if mayF l m o then 1 else 0) M) : R_X5_mayFollow V l m o M Q := by
  have core : ∀ s : Int, (s = if isLb m || isH m then 1 else 0) → wp_X5_mayFollow_19 V l m o s M Q := by
    intro s hs
    unfold wp_X5_mayFollow_19
    have h01 : s = 0 ∨ s = 1 := by rw [hs]; split <;> simp
    refine ⟨fun c => ⟨h01, ?_⟩, fun c => ⟨fun d => ⟨h01, ?_⟩, fun d => ⟨fun e => ?_, fun e => ⟨fun g => ?_, fun g => ⟨fun k => ⟨fun q => ?_, fun q => ?_⟩, fun k => ?_⟩⟩⟩⟩⟩
    · have e : mayF l m o = (isLb m || isH m) := by unfold mayF; rw [if_pos (Or.inl c)]
      rw [e, ← hs] at h; exact h
    · have e : mayF l m o = (isLb m || isH m) := by unfold mayF; rw [if_pos (Or.inr d)]
      rw [e, ← hs] at h; exact h
    · apply x_isLabel
      have e' : mayF l m o = isLb l := by unfold mayF; rw [if_neg (by omega), if_pos e]
      rw [e'] at h
      exact ⟨by split <;> simp, h⟩
    · have e' : mayF l m o = false := by unfold mayF; rw [if_neg (by omega), if_neg e]; simp; omega
      rw [e'] at h; exact h
    · have e' : mayF l m o = true := by unfold mayF; rw [if_neg (by omega), if_neg e, q]; simp; omega
      rw [e'] at h; exact h
    · have hf : (isLb m || isH m) = false := by
        rw [k] at hs
        split at hs
        · omega
        · rename_i z; exact Bool.eq_false_iff.mpr z
      have e' : mayF l m o = false := by unfold mayF; rw [if_neg (by omega), if_neg e, hf]; simp [q]
      rw [e'] at h; exact h
    · have ht : (isLb m || isH m) = true := by
        rw [hs] at k
        split at k
        · assumption
        · exact absurd rfl k
      have e' : mayF l m o = true := by unfold mayF; rw [if_neg (by omega), if_neg e, ht]; simp; omega
      rw [e'] at h; exact h
  apply of_X5_mayFollow
  unfold wp_X5_mayFollow wp_X5_mayFollow_14
  apply x_isLabel
  by_cases h1 : isLb m = true
  · rw [if_pos h1]
    exact ⟨fun c => by omega, fun _ => core 1 (by rw [h1]; rfl)⟩
  · have h1' : isLb m = false := Bool.eq_false_iff.mpr h1
    rw [if_neg h1]
    refine ⟨fun _ => ?_, fun c => by omega⟩
    apply x_isHole
    by_cases h2 : 65 ≤ m ∧ m ≤ 72
    · rw [if_pos h2]
      exact ⟨fun c => by omega, fun _ => core 1 (by rw [isH_iff.mpr h2, h1']; rfl)⟩
    · rw [if_neg h2]
      have h2' : isH m = false := Bool.eq_false_iff.mpr (fun q => h2 (isH_iff.mp q))
      exact ⟨fun _ => core 0 (by rw [h1', h2']; rfl), fun c => by omega⟩
theorem x_firstFault {p : List Int} (h0 : M 1 0 = p.length) (hp : padAt M 2 p) (h60 : p.length ≤ 60) (hr : ∀ x ∈ p, 33 ≤ x ∧ x ≤ 126) (h : Q (fgo p 0 0 0) M) : R_X5_firstFault V M Q := by
  apply of_X5_firstFault
  unfold wp_X5_firstFault wp_X5_firstFault_6
  refine ⟨fun o l j N => N = M ∧ ∃ i : Nat, j = i ∧ i ≤ p.length ∧ fgo p 0 0 0 = fgo (p.drop i) i o l ∧ -(i : Int) ≤ o ∧ o ≤ i, fun _ _ j _ => (61 - j).toNat, ⟨rfl, 0, rfl, by omega, by simp, by simp, by simp⟩, ?_⟩
  rintro o l j N ⟨rfl, i, rfl, hi, he, b1, b2⟩
  unfold wp_X5_firstFault_6_b wp_X5_firstFault_57
  rw [h0]
  refine ⟨fun g => ?_, fun g => ⟨by omega, ?_⟩⟩
  · have hil : i = p.length := by omega
    subst hil
    rw [List.drop_length, fgo_nil] at he
    rw [he] at h
    refine ⟨fun c => ?_, fun c => ⟨fun d => ?_, fun d => ?_⟩⟩
    · rwa [if_pos (Or.inl c)] at h
    · rwa [if_neg (by omega)] at h
    · rwa [if_pos (Or.inr (by omega))] at h
  · have hil : i < p.length := by omega
    rw [pad_at hil, fgo_cons] at he
    intro v hv
    rw [hp.get hil] at hv
    rw [← hv] at he
    apply x_mayFollow
    rw [w_succ (by omega)]
    by_cases hm : mayF l v o = true
    · rw [if_pos hm] at he ⊢
      refine ⟨fun c => by omega, fun _ => ⟨fun c => ?_, fun c => ⟨fun d => ?_, fun d => ?_⟩⟩⟩
      · rw [w32_id (by omega) (by omega)]
        exact ⟨⟨rfl, i + 1, by omega, by omega, by rw [he]; unfold fO; rw [if_pos c], by omega, by omega⟩, by (try dsimp only); omega⟩
      · rw [w32_id (by omega) (by omega)]
        exact ⟨⟨rfl, i + 1, by omega, by omega, by rw [he]; unfold fO; rw [if_neg c, if_pos d]; rfl, by omega, by omega⟩, by (try dsimp only); omega⟩
      · exact ⟨⟨rfl, i + 1, by omega, by omega, by rw [he]; unfold fO; rw [if_neg c, if_neg d], by omega, by omega⟩, by (try dsimp only); omega⟩
    · rw [if_neg hm] at he ⊢
      rw [he] at h
      exact ⟨fun _ => h, fun c => by omega⟩
theorem m_faultOf {p : List Int} (h0 : M 203 3 = p.length) (hp : padAt M 207 p) (h60 : p.length ≤ 60) (h : Q (if fgo p 0 0 0 < 0 then -6 else fgo p 0 0 0) M) : R_X10_faultOf V M Q := by
  apply of_X10_faultOf
  unfold wp_X10_faultOf wp_X10_faultOf_9
  refine ⟨fun o a b j N => N = M ∧ ∃ (i : Nat) (l : Int), j = i ∧ i ≤ p.length ∧ fgo p 0 0 0 = fgo (p.drop i) i o l ∧ 0 ≤ o ∧ o ≤ i ∧ (l = 40 → 0 < o) ∧ (a = if l = 0 ∨ l = 40 then 1 else 0) ∧ (b = if isLb l then 1 else 0), fun _ _ _ j _ => (61 - j).toNat, ⟨rfl, 0, 0, rfl, by omega, by simp, by simp, by simp, by simp, by simp, by simp [isLb]⟩, ?_⟩
  rintro o a b j N ⟨rfl, i, l, rfl, hi, he, b1, b2, b3, ha, hb⟩
  unfold wp_X10_faultOf_9_b
  rw [h0]
  refine ⟨fun g => ?_, fun g => ⟨by omega, ?_⟩⟩
  · have hil : i = p.length := by omega
    subst hil
    rw [List.drop_length, fgo_nil] at he
    refine ⟨fun c => ?_, fun c => ?_⟩
    · have hl : ¬ (l = 0 ∨ l = 40) := fun q => by rw [if_pos q] at ha; omega
      refine ⟨fun d => ?_, fun d => ?_⟩
      · rw [if_neg (by omega)] at he
        rw [he, if_pos (by omega)] at h; exact h
      · rw [if_pos (by omega)] at he
        rw [he, if_neg (by omega)] at h; exact h
    · have hl : l = 0 ∨ l = 40 := by
        rw [ha] at c
        split at c
        · assumption
        · exact absurd rfl c
      rw [if_pos (by omega)] at he
      rw [he, if_neg (by omega)] at h; exact h
  · have hil : i < p.length := by omega
    rw [pad_at hil, fgo_cons] at he
    intro v hv
    rw [hp.get hil] at hv
    rw [← hv] at he
    clear hv
    have bad : mayF l v o = false → Q i N := by
      intro hm
      rw [if_neg (by rw [hm]; simp)] at he
      rw [he, if_neg (by omega)] at h; exact h
    have ok' : ∀ (o' a' b' : Int), mayF l v o = true → o' = fO v o → 0 ≤ o' → (a' = if v = 0 ∨ v = 40 then 1 else 0) → (b' = if isLb v then 1 else 0) → (N = N ∧ ∃ (i' : Nat) (l : Int), (i : Int) + 1 = i' ∧ i' ≤ p.length ∧ fgo p 0 0 0 = fgo (p.drop i') i' o' l ∧ 0 ≤ o' ∧ o' ≤ i' ∧ (l = 40 → 0 < o') ∧ (a' = if l = 0 ∨ l = 40 then 1 else 0) ∧ (b' = if isLb l then 1 else 0)) ∧ (61 - ((i : Int) + 1)).toNat < (61 - (i : Int)).toNat := by
      intro o' a' b' hm ho h0' ha' hb'
      rw [if_pos hm] at he
      refine ⟨⟨rfl, i + 1, v, by omega, by omega, by rw [he, ho], h0', ?_, ?_, ha', hb'⟩, by omega⟩
      · rw [ho]; unfold fO; split
        · omega
        · split <;> omega
      · intro hv; rw [ho]; unfold fO; rw [if_pos hv]; omega
    have c103 : v ≠ 40 → (isLb v || isH v) = false → wp_X10_faultOf_103 V o a i v N Q (fun z1 z2 z3 z4 N1 => (N1 = N ∧ ∃ (i : Nat) (l : Int), z4 = i ∧ i ≤ p.length ∧ fgo p 0 0 0 = fgo (p.drop i) i z1 l ∧ 0 ≤ z1 ∧ z1 ≤ i ∧ (l = 40 → 0 < z1) ∧ (z2 = if l = 0 ∨ l = 40 then 1 else 0) ∧ (z3 = if isLb l then 1 else 0)) ∧ (61 - z4).toNat < (61 - (i : Int)).toNat) := by
      intro hv40 hnl
      have hLb : isLb v = false := by
        cases h1 : isLb v with
        | false => rfl
        | true => rw [h1] at hnl; cases hnl
      unfold wp_X10_faultOf_103
      refine ⟨fun c => ⟨fun d => bad ?_, fun d => ⟨fun e => ?_, fun e => bad ?_⟩⟩, fun c => bad ?_⟩
      · unfold mayF; rw [hnl]
        split
        · rfl
        · (try rw [if_neg hv40]); simp; omega
      · have hl : ¬ (l = 0 ∨ l = 40) := fun q => by rw [if_pos q] at ha; omega
        rw [w32_id (by omega) (by omega), w_succ (by omega)]
        refine ok' _ _ _ ?_ ?_ (by omega) ?_ ?_
        · unfold mayF; rw [if_neg hl, if_neg hv40, c]; simp; omega
        · unfold fO; rw [if_neg hv40, if_pos c]; rfl
        · rw [e, if_neg (by omega)]
        · rw [hLb]; rfl
      · have hl : l = 0 ∨ l = 40 := by
          rw [ha] at e
          split at e
          · assumption
          · exact absurd rfl e
        unfold mayF; rw [if_pos hl, hnl]
      · unfold mayF; rw [hnl]
        split
        · rfl
        · (try rw [if_neg hv40]); simp [c]
    have c82 : (v = 40 ∨ (isLb v || isH v) = false ∨ (¬ (l = 0 ∨ l = 40) ∧ o ≤ 0)) → wp_X10_faultOf_82 V o a b i v N Q (fun z1 z2 z3 z4 N1 => (N1 = N ∧ ∃ (i : Nat) (l : Int), z4 = i ∧ i ≤ p.length ∧ fgo p 0 0 0 = fgo (p.drop i) i z1 l ∧ 0 ≤ z1 ∧ z1 ≤ i ∧ (l = 40 → 0 < z1) ∧ (z2 = if l = 0 ∨ l = 40 then 1 else 0) ∧ (z3 = if isLb l then 1 else 0)) ∧ (61 - z4).toNat < (61 - (i : Int)).toNat) := by
      intro hc
      unfold wp_X10_faultOf_82
      refine ⟨fun c => ⟨fun d => ?_, fun d => ?_⟩, fun c => ?_⟩
      · unfold wp_X10_faultOf_103
        refine ⟨fun q => by omega, fun _ => bad ?_⟩
        have hnb : ¬ isLb l = true := fun q => by rw [if_pos q] at hb; omega
        unfold mayF
        split
        · rw [c]; rfl
        · (try rw [if_pos c]); exact Bool.eq_false_iff.mpr hnb
      · have hlb : isLb l = true := by
          rw [hb] at d
          split at d
          · assumption
          · exact absurd rfl d
        have hl : ¬ (l = 0 ∨ l = 40) := fun q => by rw [isLb_iff] at hlb; omega
        rw [w32_id (by omega) (by omega), w_succ (by omega)]
        refine ok' _ _ _ ?_ ?_ (by omega) ?_ ?_
        · unfold mayF; rw [if_neg hl, if_pos c]; exact hlb
        · unfold fO; rw [if_pos c]
        · rw [if_pos (Or.inr c)]
        · rw [c]; rfl
      · rcases hc with q | q | ⟨q1, q2⟩
        · exact absurd q c
        · exact c103 c q
        · cases hnl : (isLb v || isH v) with
          | false => exact c103 c hnl
          | true =>
            unfold wp_X10_faultOf_103
            have hm : mayF l v o = false := by unfold mayF; rw [if_neg q1, if_neg c]; simp; omega
            refine ⟨fun z => ⟨fun _ => bad hm, fun z2 => by omega⟩, fun _ => bad hm⟩
    have c52 : ∀ s : Int, (s = if isLb v || isH v then 1 else 0) → wp_X10_faultOf_52 V o a b i v s N Q (fun z1 z2 z3 z4 N1 => (N1 = N ∧ ∃ (i : Nat) (l : Int), z4 = i ∧ i ≤ p.length ∧ fgo p 0 0 0 = fgo (p.drop i) i z1 l ∧ 0 ≤ z1 ∧ z1 ≤ i ∧ (l = 40 → 0 < z1) ∧ (z2 = if l = 0 ∨ l = 40 then 1 else 0) ∧ (z3 = if isLb l then 1 else 0)) ∧ (61 - z4).toNat < (61 - (i : Int)).toNat) := by
      intro s hs
      unfold wp_X10_faultOf_52 wp_X10_faultOf_67
      have hletter : ∀ z : ¬ s = 0, (isLb v || isH v) = true := fun z => by
        rw [hs] at z
        split at z
        · assumption
        · exact absurd rfl z
      have h67 : ¬ s = 0 → (l = 0 ∨ l = 40 ∨ 0 < o) → R_X10_in V v 97 122 N (fun r4 M5 => ((M5 = N ∧ ∃ (i' : Nat) (l : Int), w32 ((i : Int) + 1) = i' ∧ i' ≤ p.length ∧ fgo p 0 0 0 = fgo (p.drop i') i' o l ∧ 0 ≤ o ∧ o ≤ i' ∧ (l = 40 → 0 < o) ∧ ((0 : Int) = if l = 0 ∨ l = 40 then 1 else 0) ∧ (r4 = if isLb l then 1 else 0)) ∧ (61 - w32 ((i : Int) + 1)).toNat < (61 - (i : Int)).toNat)) := by
        intro z hz
        have hle := hletter z
        have hv4 : v ≠ 0 ∧ v ≠ 40 ∧ v ≠ 41 := by
          rw [Bool.or_eq_true, isLb_iff, isH_iff] at hle; omega
        apply m_in
        rw [w_succ (by omega)]
        refine ok' _ _ _ ?_ ?_ b1 ?_ ?_
        · unfold mayF; rw [hle]
          split
          · rfl
          · rw [if_neg hv4.2.1]; simp; omega
        · unfold fO; rw [if_neg hv4.2.1, if_neg hv4.2.2]
        · rw [if_neg (by omega)]
        · unfold isLb; simp
      refine ⟨fun c => c82 (Or.inr (Or.inl ?_)), fun c => ⟨fun d => ⟨fun e => c82 (Or.inr (Or.inr ⟨?_, e⟩)), fun e => h67 c (by omega)⟩, fun d => h67 c ?_⟩⟩
      · cases hnl : (isLb v || isH v) with
        | false => rfl
        | true => rw [hnl] at hs; simp at hs; omega
      · intro q; rw [if_pos q] at ha; omega
      · rw [ha] at d
        split at d
        · omega
        · exact absurd rfl d
    apply m_in
    unfold wp_X10_faultOf_47
    by_cases h1 : 97 ≤ v ∧ v ≤ 122
    · rw [if_pos h1]
      exact ⟨fun c => by omega, fun _ => c52 1 (by rw [isLb_iff.mpr h1]; rfl)⟩
    · rw [if_neg h1]
      have h1' : isLb v = false := Bool.eq_false_iff.mpr (fun q => h1 (isLb_iff.mp q))
      refine ⟨fun _ => ?_, fun c => by omega⟩
      apply m_isHole
      by_cases h2 : 65 ≤ v ∧ v ≤ 72
      · rw [if_pos h2]
        exact ⟨fun c => by omega, fun _ => c52 1 (by rw [isH_iff.mpr h2, h1']; rfl)⟩
      · rw [if_neg h2]
        have h2' : isH v = false := Bool.eq_false_iff.mpr (fun q => h2 (isH_iff.mp q))
        exact ⟨fun _ => c52 0 (by rw [h1', h2']; rfl), fun c => by omega⟩
theorem op_fault (hR : Rel M) : R_X9_fault V M (fun r1 M1 => R_X10_fault V M1 (fun r2 M2 => r1 = r2 ∧ Rel M2)) := by
  obtain ⟨σ, hI, hC, hM⟩ := hR
  apply of_X9_fault
  unfold wp_X9_fault
  refine x_firstFault hC.1 hC.2.1 hI.1 hI.2.1 ?_
  have mdl : ∀ r : Int, (r = if fgo σ.pad 0 0 0 < 0 then -6 else fgo σ.pad 0 0 0) → R_X10_fault V M (fun r2 M2 => r = r2 ∧ Rel M2) := by
    intro r hr
    apply of_X10_fault
    unfold wp_X10_fault
    exact m_faultOf hM.1 hM.2.1 hI.1 ⟨hr, σ, hI, hC, hM⟩
  exact ⟨fun c => mdl _ (by rw [if_neg (by omega)]), fun c => mdl _ (by rw [if_pos (by omega)])⟩
end FAULT
