/-! a peak's names do not hang on the names of its variables -/
section SAMEPEAK
variable {U : Int → Prop} {g : Int → Int}
theorem idx_map (hi : ∀ c c', U c → U c' → g c = g c' → c = c') : ∀ (l : List Int), (∀ v ∈ l, U v) → ∀ v, U v → (l.map g).idxOf (g v) = l.idxOf v
  | [], _, _, _ => by simp
  | w :: l, hl, v, hv => by
    have ih := idx_map hi l (fun z hz => hl z (List.mem_cons_of_mem _ hz)) v hv
    rw [List.map_cons, List.idxOf_cons, List.idxOf_cons]
    by_cases e : w = v
    · simp [e]
    · have : g w ≠ g v := fun z => e (hi _ _ (hl w List.mem_cons_self) hv z)
      have b1 : (g w == g v) = false := by rw [beq_eq_false_iff_ne]; exact this
      have b2 : (w == v) = false := by rw [beq_eq_false_iff_ne]; exact e
      rw [b1, b2, ih]
theorem mem_map_inj (hi : ∀ c c', U c → U c' → g c = g c' → c = c') {l : List Int} (hl : ∀ v ∈ l, U v) {v : Int} (hv : U v) : g v ∈ l.map g ↔ v ∈ l := by
  constructor
  · intro h
    obtain ⟨w, hw, e⟩ := List.mem_map.mp h
    rw [← hi _ _ (hl w hw) hv e]; exact hw
  · exact fun h => List.mem_map.mpr ⟨v, h, rfl⟩
theorem fo_rl (hi : ∀ c c', U c → U c' → g c = g c' → c = c') (hn : ∀ c, U c → (g c < 0 ↔ c < 0)) : ∀ (t : T) (l : List Int), (∀ v ∈ l, U v) → LabU U t → (rl g t).foldl foS (l.map g) = (t.foldl foS l).map g ∧ ∀ v ∈ t.foldl foS l, U v
  | [], l, hl, _ => ⟨rfl, hl⟩
  | p :: t, l, hl, ht => by
    have hp : U p.1 := ht p List.mem_cons_self
    have e : foS (l.map g) (g p.1, p.2) = (foS l p).map g := by
      unfold foS
      by_cases c : p.1 < 0 ∧ p.1 ∉ l
      · rw [if_pos c, if_pos ⟨(hn _ hp).mpr c.1, fun z => c.2 ((mem_map_inj hi hl hp).mp z)⟩]; simp
      · rw [if_neg c, if_neg (fun z => c ⟨(hn _ hp).mp z.1, fun y => z.2 ((mem_map_inj hi hl hp).mpr y)⟩)]
    have hl' : ∀ v ∈ foS l p, U v := by
      intro v hv
      unfold foS at hv
      split at hv
      · rcases List.mem_append.mp hv with z | z
        · exact hl v z
        · simp at z; rw [z]; exact hp
      · exact hl v hv
    have := fo_rl hi hn t (foS l p) hl' (fun q hq => ht q (List.mem_cons_of_mem _ hq))
    rw [← e] at this
    exact this
theorem pkT_rl (hi : ∀ c c', U c → U c' → g c = g c' → c = c') (hn : ∀ c, U c → (g c < 0 ↔ c < 0)) (hs : ∀ c, 0 ≤ c → g c = c) {t : T} (ht : LabU U t) : pkT (rl g t) = pkT t ∧ (fo (rl g t)).length = (fo t).length := by
  obtain ⟨e, hU⟩ := fo_rl hi hn t [] (fun v hv => by simp at hv) ht
  have e' : fo (rl g t) = (fo t).map g := e
  refine ⟨?_, by rw [e']; simp⟩
  unfold pkT
  rw [e']
  unfold rl
  rw [List.map_map]
  apply List.map_congr_left
  intro p hp
  have hup := ht p hp
  show (if g p.1 < 0 then (65 + (((fo t).map g).idxOf (g p.1) : Int), p.2) else (g p.1, p.2)) = _
  by_cases c : p.1 < 0
  · rw [if_pos ((hn _ hup).mpr c), if_pos c, idx_map hi (fo t) hU _ hup]
  · rw [if_neg (fun z => c ((hn _ hup).mp z)), if_neg c, hs _ (by omega)]
end SAMEPEAK
