/-! ===== what stays ===== -/
def SameG (rows : List Nat) (fl : List (Nat × Nat)) (lr : List Nat) (lf : List (Nat × Nat)) (σ τ : Hp) : Prop := (∀ c ∈ rows, τ.1 c = σ.1 c) ∧ (∀ q ∈ fl, τ.1 q.1 q.2 = σ.1 q.1 q.2) ∧ (∀ c ∈ lr, τ.2 c = σ.2 c) ∧ ∀ q ∈ lf, τ.2 q.1 q.2 = σ.2 q.1 q.2
def offI (rows : List Nat) (fl : List (Nat × Nat)) (c k : Nat) : Bool := !(rows.any (Nat.beq c)) && !(fl.any fun q => Nat.beq q.1 c && Nat.beq q.2 k)
def offC (rows : List Nat) (fl : List (Nat × Nat)) (c : Nat) : Bool := !(rows.any (Nat.beq c)) && !(fl.any fun q => Nat.beq q.1 c)
theorem SameG.rf {rows : List Nat} {fl : List (Nat × Nat)} {lr : List Nat} {lf : List (Nat × Nat)} {σ : Hp} : SameG rows fl lr lf σ σ := ⟨fun _ _ => rfl, fun _ _ => rfl, fun _ _ => rfl, fun _ _ => rfl⟩
theorem SameG.tr {rows : List Nat} {fl : List (Nat × Nat)} {lr : List Nat} {lf : List (Nat × Nat)} {σ τ u : Hp} (h1 : SameG rows fl lr lf σ τ) (h2 : SameG rows fl lr lf τ u) : SameG rows fl lr lf σ u := ⟨fun c hc => (h2.1 c hc).trans (h1.1 c hc), fun c hc => (h2.2.1 c hc).trans (h1.2.1 c hc), fun c hc => (h2.2.2.1 c hc).trans (h1.2.2.1 c hc), fun c hc => (h2.2.2.2 c hc).trans (h1.2.2.2 c hc)⟩
theorem any_beq {rows : List Nat} {c : Nat} (h : rows.any (Nat.beq c) = false) : ∀ a ∈ rows, a ≠ c := fun a ha e => by
  rw [List.any_eq_false] at h
  exact h a ha (by rw [e]; exact Nat.beq_refl c)
theorem SameG.sI {rows : List Nat} {fl : List (Nat × Nat)} {lr : List Nat} {lf : List (Nat × Nat)} {σ τ : Hp} {c k : Nat} {v : Int32} (hs : SameG rows fl lr lf σ τ) (h : offI rows fl c k = true) : SameG rows fl lr lf σ (sI τ c k v) := by
  unfold offI at h
  rw [Bool.and_eq_true, Bool.not_eq_true', Bool.not_eq_true'] at h
  refine ⟨fun a ha => ?_, fun q hq => ?_, hs.2.2.1, hs.2.2.2⟩
  · rw [sI_r, if_neg (any_beq h.1 a ha)]; exact hs.1 a ha
  · rw [sI_r]
    by_cases e : q.1 = c
    · rw [if_pos e, upd_r, if_neg, ← e]
      · exact hs.2.1 q hq
      · intro e2
        have := List.any_eq_false.mp h.2 q hq
        rw [e, e2, Nat.beq_refl, Nat.beq_refl] at this
        exact this rfl
    · rw [if_neg e]; exact hs.2.1 q hq
theorem SameG.sC {rows : List Nat} {fl : List (Nat × Nat)} {lr : List Nat} {lf : List (Nat × Nat)} {σ τ : Hp} {c : Nat} {f : Nat → Int32} (hs : SameG rows fl lr lf σ τ) (h : offC rows fl c = true) : SameG rows fl lr lf σ (sC τ c f) := by
  unfold offC at h
  rw [Bool.and_eq_true, Bool.not_eq_true', Bool.not_eq_true'] at h
  refine ⟨fun a ha => ?_, fun q hq => ?_, hs.2.2.1, hs.2.2.2⟩
  · rw [sC_r, if_neg (any_beq h.1 a ha)]; exact hs.1 a ha
  · rw [sC_r, if_neg]
    · exact hs.2.1 q hq
    · intro e
      have := List.any_eq_false.mp h.2 q hq
      rw [e, Nat.beq_refl] at this
      exact this rfl
theorem SameG.sL {rows : List Nat} {fl : List (Nat × Nat)} {lr : List Nat} {lf : List (Nat × Nat)} {σ τ : Hp} {c k : Nat} {v : Int64} (hs : SameG rows fl lr lf σ τ) (h : offI lr lf c k = true) : SameG rows fl lr lf σ (sL τ c k v) := by
  unfold offI at h
  rw [Bool.and_eq_true, Bool.not_eq_true', Bool.not_eq_true'] at h
  refine ⟨hs.1, hs.2.1, fun a ha => ?_, fun q hq => ?_⟩
  · rw [sL_l, if_neg (any_beq h.1 a ha)]; exact hs.2.2.1 a ha
  · rw [sL_l]
    by_cases e : q.1 = c
    · rw [if_pos e, updL_r, if_neg, ← e]
      · exact hs.2.2.2 q hq
      · intro e2
        have := List.any_eq_false.mp h.2 q hq
        rw [e, e2, Nat.beq_refl, Nat.beq_refl] at this
        exact this rfl
    · rw [if_neg e]; exact hs.2.2.2 q hq
/-- a heap that is another only at cells of a list: rows then are those of before elsewhere -/
theorem SameG.of {rows : List Nat} {fl : List (Nat × Nat)} {lr : List Nat} {lf : List (Nat × Nat)} {σ τ : Hp} (h1 : ∀ c ∈ rows, τ.1 c = σ.1 c) (h2 : ∀ q ∈ fl, τ.1 q.1 q.2 = σ.1 q.1 q.2) (h3 : τ.2 = σ.2) : SameG rows fl lr lf σ τ := ⟨h1, h2, fun _ _ => by rw [h3], fun _ _ => by rw [h3]⟩
theorem CX.cong {n : Nat} {th sg : Nat → Int32} {T U : Nat → Nat → Int32} (h : CX n th sg T) (h0 : U 0 0 = T 0 0) (h1 : U 0 1 = T 0 1) (hr : ∀ j, 1 ≤ j → j ≤ 12 → U j = T j) : CX n th sg U := by
  obtain ⟨a1, a2, z, b1, b2, b3, b4⟩ := h
  refine ⟨h0.trans a1, fun i hi => ?_, z, b1, h1.trans b2, b3, fun k hk => by rw [hr 12 (by omega) (by omega)]; exact b4 k hk⟩
  obtain ⟨c1, c2, c3, c4, c5, c6, c7, c8, c9⟩ := a2 i hi
  exact ⟨by rw [hr 1 (by omega) (by omega)]; exact c1, by rw [hr 2 (by omega) (by omega)]; exact c2, by rw [hr 4 (by omega) (by omega)]; exact c3, by rw [hr 5 (by omega) (by omega)]; exact c4, by rw [hr 6 (by omega) (by omega)]; exact c5, by rw [hr 7 (by omega) (by omega)]; exact c6, by rw [hr 8 (by omega) (by omega)]; exact c7, by rw [hr 3 (by omega) (by omega)]; exact c8, by rw [hr 9 (by omega) (by omega), hr 10 (by omega) (by omega), hr 11 (by omega) (by omega)]; exact c9⟩
theorem CW.cong {n : Nat} {th sg am mem : Nat → Int32} {now ne : Nat} {ev : Nat → Int32} {W U : Nat → Nat → Int32} (h : CW n th sg am mem now ne ev W) (h0 : U 0 0 = W 0 0) (h4 : U 0 4 = W 0 4) (hr : ∀ j, 1 ≤ j → j ≤ 8 → U j = W j) : CW n th sg am mem now ne ev U := by
  obtain ⟨c1, c2, c3, c4, c5, c6, c7, c8⟩ := h
  exact ⟨h0.trans c1, h4.trans c2, by rw [hr 1 (by omega) (by omega), hr 2 (by omega) (by omega), hr 3 (by omega) (by omega)]; exact c3, by rw [hr 4 (by omega) (by omega)]; exact c4, by rw [hr 5 (by omega) (by omega)]; exact c5, by rw [hr 6 (by omega) (by omega)]; exact c6, by rw [hr 7 (by omega) (by omega)]; exact c7, by rw [hr 8 (by omega) (by omega)]; exact c8⟩
abbrev SameC : Hp → Hp → Prop := SameG [99, 100, 105, 106, 107, 108, 4, 5, 6, 7, 8, 9, 10, 11, 12, 13, 14, 15, 46, 47, 48, 49, 50, 51, 52, 53, 78] [(98, 0), (98, 19), (98, 25), (3, 0), (3, 1), (45, 0), (45, 4)] [] [(98, 22), (98, 23), (98, 24), (45, 1), (45, 2), (45, 3)]
abbrev SameK : Hp → Hp → Prop := SameG [126, 80, 32, 33, 34, 35, 36, 37, 38, 39, 40, 41, 42, 43, 68, 69, 70, 71, 72, 73, 74, 75] [(0, 6), (98, 56), (31, 0), (31, 1), (67, 0), (67, 4)] [] [(98, 59), (98, 60), (98, 61), (67, 1), (67, 2), (67, 3)]
abbrev SameR : Hp → Hp → Prop := SameG [2, 101, 81, 118, 82, 83, 84, 119, 120, 85, 86, 87, 122, 123, 124, 89, 125] [(1, 1), (1, 2), (1, 3), (98, 4), (98, 10), (98, 11), (0, 10), (98, 43), (88, 3), (98, 54)] [121] []
theorem in_rows {rows : List Nat} {fl : List (Nat × Nat)} {lr : List Nat} {lf : List (Nat × Nat)} {σ τ : Hp} (h : SameG rows fl lr lf σ τ) (c : Nat) (hc : rows.any (Nat.beq c) = true) : τ.1 c = σ.1 c := by
  obtain ⟨a, ha, e⟩ := List.any_eq_true.mp hc
  rw [Nat.eq_of_beq_eq_true e]
  exact h.1 a ha
theorem RCore.same {σ τ : Hp} {n now ne : Nat} (h : RCore σ n now ne) (hs : SameC σ τ) : RCore τ n now ne := by
  obtain ⟨a1, a2, a3, ⟨b1, b2, b3, b4, b5, b6⟩, d1, d2, d3⟩ := h
  have hr := in_rows hs
  have hf := hs.2.1
  have hl := hs.2.2.2
  refine ⟨(hf (98, 0) (by decide)).trans a1, (hf (98, 19) (by decide)).trans a2, (hf (98, 25) (by decide)).trans a3, ?_, (hl (45, 1) (by decide)).trans (d1.trans (hl (98, 22) (by decide)).symm), (hl (45, 2) (by decide)).trans (d2.trans (hl (98, 23) (by decide)).symm), (hl (45, 3) (by decide)).trans (d3.trans (hl (98, 24) (by decide)).symm)⟩
  rw [hr 99 rfl, hr 100 rfl, hr 105 rfl, hr 106 rfl, hr 107 rfl, hr 108 rfl, hr 78 rfl]
  refine ⟨b1, b2.cong (hf (3, 0) (by decide)) (hf (3, 1) (by decide)) (fun j h1 h2 => ?_), b3, b4.cong (hf (45, 0) (by decide)) (hf (45, 4) (by decide)) (fun j h1 h2 => ?_), b5, b6⟩
  · obtain ⟨k, rfl⟩ : ∃ k, j = k + 1 := ⟨j - 1, by omega⟩
    show τ.1 (3 + (k + 1)) = σ.1 (3 + (k + 1))
    match k, h2 with
    | 0, _ | 1, _ | 2, _ | 3, _ | 4, _ | 5, _ | 6, _ | 7, _ | 8, _ | 9, _ | 10, _ | 11, _ => exact hr _ rfl
    | k + 12, h => exact absurd h (by omega)
  · obtain ⟨k, rfl⟩ : ∃ k, j = k + 1 := ⟨j - 1, by omega⟩
    show τ.1 (45 + (k + 1)) = σ.1 (45 + (k + 1))
    match k, h2 with
    | 0, _ | 1, _ | 2, _ | 3, _ | 4, _ | 5, _ | 6, _ | 7, _ => exact hr _ rfl
    | k + 8, h => exact absurd h (by omega)
theorem RKept.same {σ τ : Hp} (h : RKept σ) (hs : SameK σ τ) : RKept τ := by
  have hr := in_rows hs
  have hf := hs.2.1
  have hl := hs.2.2.2
  obtain ⟨a, h⟩ := h
  refine ⟨(hf (0, 6) (by decide)).trans (a.trans (hf (98, 56) (by decide)).symm), ?_⟩
  rcases h with h | ⟨h0, n, now, ne, a1, a2, a3, ⟨b1, b2, b3, b4, b5, b6⟩, d1, d2, d3⟩
  · exact Or.inl ((hf (98, 56) (by decide)).trans h)
  · refine Or.inr ⟨(hf (98, 56) (by decide)).trans h0, n, now, ne, ?_⟩
    rw [hr 126 rfl, hr 80 rfl]
    refine ⟨a1, a2, a3, ⟨b1, b2.cong (hf (31, 0) (by decide)) (hf (31, 1) (by decide)) (fun j h1 h2 => ?_), b3, b4.cong (hf (67, 0) (by decide)) (hf (67, 4) (by decide)) (fun j h1 h2 => ?_), b5, b6⟩, (hl (67, 1) (by decide)).trans (d1.trans (hl (98, 59) (by decide)).symm), (hl (67, 2) (by decide)).trans (d2.trans (hl (98, 60) (by decide)).symm), (hl (67, 3) (by decide)).trans (d3.trans (hl (98, 61) (by decide)).symm)⟩
    · obtain ⟨k, rfl⟩ : ∃ k, j = k + 1 := ⟨j - 1, by omega⟩
      show τ.1 (31 + (k + 1)) = σ.1 (31 + (k + 1))
      match k, h2 with
      | 0, _ | 1, _ | 2, _ | 3, _ | 4, _ | 5, _ | 6, _ | 7, _ | 8, _ | 9, _ | 10, _ | 11, _ => exact hr _ rfl
      | k + 12, h => exact absurd h (by omega)
    · obtain ⟨k, rfl⟩ : ∃ k, j = k + 1 := ⟨j - 1, by omega⟩
      show τ.1 (67 + (k + 1)) = σ.1 (67 + (k + 1))
      match k, h2 with
      | 0, _ | 1, _ | 2, _ | 3, _ | 4, _ | 5, _ | 6, _ | 7, _ => exact hr _ rfl
      | k + 8, h => exact absurd h (by omega)
theorem RRest.same {σ τ : Hp} (h : RRest σ) (hs : SameR σ τ) : RRest τ := by
  have hr := in_rows hs
  have hf := hs.2.1
  obtain ⟨h1, h2, h3, h4, h5, h6⟩ := h
  unfold RRest
  rw [hr 2 rfl, hr 101 rfl, hr 81 rfl, hr 118 rfl, hr 82 rfl, hr 83 rfl, hr 84 rfl, hr 119 rfl, hr 120 rfl, hr 85 rfl, hr 86 rfl, hr 87 rfl, hr 122 rfl, hr 123 rfl, hr 124 rfl, hr 89 rfl, hr 125 rfl, hs.2.2.1 121 (by decide), hf (1, 1) (by decide), hf (1, 2) (by decide), hf (1, 3) (by decide), hf (98, 4) (by decide), hf (98, 10) (by decide), hf (98, 11) (by decide), hf (0, 10) (by decide), hf (98, 43) (by decide), hf (88, 3) (by decide), hf (98, 54) (by decide)]
  exact ⟨h1, h2, h3, h4, h5, h6⟩
theorem Rel.same {σ τ : Hp} (h : Rel σ) (h1 : SameC σ τ) (h2 : SameR σ τ) (h3 : SameK σ τ) : Rel τ := by
  obtain ⟨⟨n, now, ne, a⟩, b, c⟩ := h
  exact ⟨⟨n, now, ne, a.same h1⟩, b.same h2, c.same h3⟩
