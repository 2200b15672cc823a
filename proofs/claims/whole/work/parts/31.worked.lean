/-! ===== worked, of the model ===== -/
theorem evs_len {th sg V : Nat → Int32} {i : Nat} : ∀ (c k h h' : Nat) (l : List Int32), l.length = h → hgs th sg i c k h = some h' → (evs th sg V c k l).length = h' := by
  intro c
  induction c with
  | zero => intro k h h' l hl hh; cases hh; exact hl
  | succ c ih =>
    intro k h h' l hl hh
    unfold hgs at hh
    cases hg : hg1 th i (sN (sg k)) h with
    | none => rw [hg] at hh; cases hh
    | some h1 =>
      rw [hg] at hh
      refine ih (k + 1) h1 h' _ ?_ hh
      unfold hg1 at hg
      unfold ev1
      split at hg
      · rename_i e
        rw [if_pos e]
        split at hg
        · cases hg; rw [List.length_cons, hl]
        · cases hg
      · rename_i e
        rw [if_neg e]
        split at hg
        · rename_i e2
          rw [if_pos e2]
          split at hg
          · cases hg; rw [List.length_cons, hl]
          · cases hg
        · rename_i e2
          rw [if_neg e2]
          split at hg
          · rename_i e3
            rw [if_pos e3]
            split at hg
            · rename_i e4
              cases hg
              match l, hl with
              | x :: l, hl => exact hl
              | [], hl => exact absurd e4.2.2 (by rw [← hl]; decide)
            · cases hg
          · rename_i e3
            rw [if_neg e3]
            split at hg
            · rename_i e4
              rw [if_pos e4]
              split at hg
              · rename_i e5
                cases hg
                match l, hl with
                | x :: l, hl => exact hl
                | [], hl => exact absurd e5 (by rw [← hl]; decide)
              · cases hg
            · rename_i e4
              rw [if_neg e4]
              split at hg
              · rename_i e5
                cases hg
                match l, hl with
                | y :: x :: l, hl => rw [List.length_cons] at hl ⊢; rw [List.length_cons] at hl; omega
                | [x], hl => exact absurd e5.2 (by rw [← hl]; show ¬ 1 < 1; decide)
                | [], hl => exact absurd e5.2 (by rw [← hl]; decide)
              · cases hg
theorem hg1_cases {th : Nat → Int32} {i s h h1 : Nat} (hg : hg1 th i s h = some h1) : (s < 100000 ∧ h < 32 ∧ h1 = h + 1) ∨ (∃ j, j < i ∧ s = 100000 + j ∧ s < 200000 ∧ h < 32 ∧ h1 = h + 1) ∨ (∃ t, t < i ∧ s = 200000 + t ∧ s < 300000 ∧ th (20 * t) = 4 ∧ 0 < h ∧ h1 = h) ∨ (s = 400001 ∧ 0 < h ∧ h1 = h) ∨ (isJ s ∧ 1 < h ∧ h1 + 1 = h) := by
  unfold hg1 at hg
  split at hg
  · rename_i e
    split at hg
    · rename_i e2; cases hg; exact Or.inl ⟨e, e2, rfl⟩
    · cases hg
  · rename_i e
    split at hg
    · rename_i e2
      split at hg
      · rename_i e3; cases hg; exact Or.inr (Or.inl ⟨s - 100000, e3.1, by omega, e2, e3.2, rfl⟩)
      · cases hg
    · rename_i e2
      split at hg
      · rename_i e3
        split at hg
        · rename_i e4; cases hg; exact Or.inr (Or.inr (Or.inl ⟨s - 200000, e4.1, by omega, e3, e4.2.1, e4.2.2, rfl⟩))
        · cases hg
      · split at hg
        · rename_i e4
          split at hg
          · rename_i e5; cases hg; exact Or.inr (Or.inr (Or.inr (Or.inl ⟨e4, e5, rfl⟩)))
          · cases hg
        · split at hg
          · rename_i e5; cases hg; exact Or.inr (Or.inr (Or.inr (Or.inr ⟨e5.1, e5.2, by omega⟩)))
          · cases hg
theorem ev1_J {th V : Nat → Int32} {s : Nat} {x y : Int32} {l : List Int32} (hs : isJ s) : ev1 th V s (y :: x :: l) = js s x y :: l := by
  rcases hs with rfl | rfl | rfl | rfl | rfl | rfl | rfl <;> rfl
