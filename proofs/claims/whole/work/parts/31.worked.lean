/-! ===== worked, of the model ===== -/
theorem evs_len {th sg V : Nat → Int32} {i : Nat} : ∀ (c k h h' : Nat) (l : List Int32), l.length = h → hgs th sg i c k h = some h' → (evs th sg V c k l).length = h' := by
  intro c
  induction c with
  | zero => intro k h h' l hl hh; cases hh; exact hl
  | succ c ih =>
    intro k h h' l hl hh
    unfold hgs at hh
    cases hg : hg1 th i (sN (sg k)) h with
    | none => rw [hg] at hh; cases hh
    | some h1 =>
      rw [hg] at hh
      refine ih (k + 1) h1 h' _ ?_ hh
      unfold hg1 at hg
      unfold ev1
      split at hg
      · rename_i e
        rw [if_pos e]
        split at hg
        · cases hg; rw [List.length_cons, hl]
        · cases hg
      · rename_i e
        rw [if_neg e]
        split at hg
        · rename_i e2
          rw [if_pos e2]
          split at hg
          · cases hg; rw [List.length_cons, hl]
          · cases hg
        · rename_i e2
          rw [if_neg e2]
          split at hg
          · rename_i e3
            rw [if_pos e3]
            split at hg
            · rename_i e4
              cases hg
              match l, hl with
              | x :: l, hl => exact hl
              | [], hl => exact absurd e4.2.2 (by rw [← hl]; decide)
            · cases hg
          · rename_i e3
            rw [if_neg e3]
            split at hg
            · rename_i e4
              rw [if_pos e4]
              split at hg
              · rename_i e5
                cases hg
                match l, hl with
                | x :: l, hl => exact hl
                | [], hl => exact absurd e5 (by rw [← hl]; decide)
              · cases hg
            · rename_i e4
              rw [if_neg e4]
              split at hg
              · rename_i e5
                cases hg
                match l, hl with
                | y :: x :: l, hl => rw [List.length_cons] at hl ⊢; rw [List.length_cons] at hl; omega
                | [x], hl => exact absurd e5.2 (by rw [← hl]; show ¬ 1 < 1; decide)
                | [], hl => exact absurd e5.2 (by rw [← hl]; decide)
              · cases hg
