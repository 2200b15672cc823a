/-! ===== how high an E stands ===== -/
def hgl (th : Nat → Int32) (i : Nat) : List Nat → Nat → Option Nat
  | [], h => some h
  | s :: l, h => (hg1 th i s h).bind (hgl th i l)
theorem hgl_app {th : Nat → Int32} {i : Nat} : ∀ (a b : List Nat) (h : Nat), hgl th i (a ++ b) h = (hgl th i a h).bind (hgl th i b)
  | [], b, h => rfl
  | s :: l, b, h => by
    show (hg1 th i s h).bind (hgl th i (l ++ b)) = ((hg1 th i s h).bind (hgl th i l)).bind (hgl th i b)
    cases hg1 th i s h with
    | none => rfl
    | some h' => exact hgl_app l b h'
theorem hgs_hgl {th sg : Nat → Int32} {i : Nat} : ∀ (s : List Nat) (k h : Nat), (∀ q, q < s.length → sg (k + q) = nI (s.getD q 0)) → (∀ x ∈ s, x < 400002) → hgs th sg i s.length k h = hgl th i s h
  | [], k, h, _, _ => rfl
  | x :: l, k, h, hq, hx => by
    show (hg1 th i (sN (sg k)) h).bind (hgs th sg i l.length (k + 1)) = (hg1 th i x h).bind (hgl th i l)
    have e0 : sg k = nI x := hq 0 (Nat.succ_pos _)
    have x0 := hx x (List.mem_cons_self ..)
    rw [e0, show sN (nI x) = x from nI_clamp (by omega)]
    cases hg1 th i x h with
    | none => rfl
    | some h' =>
      refine hgs_hgl l (k + 1) h' (fun q hl => ?_) (fun y hy => hx y (List.mem_cons_of_mem _ hy))
      have := hq (q + 1) (Nat.succ_lt_succ hl)
      rw [show k + 1 + q = k + (q + 1) by omega]
      exact this
def HgP (th : Nat → Int32) (i B : Nat) (sub : Nat → Res) : Prop := ∀ j j' s, sub j = .ok (j', s) → ∀ h, h ≤ B → hgl th i s h = some (h + 1)
theorem hg_num {th : Nat → Int32} {i v h : Nat} (hv : v ≤ 99999) (hh : h ≤ 31) : hg1 th i v h = some (h + 1) := by
  unfold hg1
  rw [if_pos (by omega), if_pos (by omega)]
theorem hg_name {th : Nat → Int32} {i t h : Nat} (ht : t < i) (h16 : t < 16) (hh : h ≤ 31) : hg1 th i (100000 + t) h = some (h + 1) := by
  unfold hg1
  rw [if_neg (by omega), if_pos (by omega), if_pos ⟨by omega, by omega⟩]
theorem hg_tab {th : Nat → Int32} {i t h : Nat} (ht : t < i) (h16 : t < 16) (h4 : th (20 * t) = 4) (hh : 0 < h) : hg1 th i (200000 + t) h = some h := by
  unfold hg1
  rw [if_neg (by omega), if_neg (by omega), if_pos (by omega), if_pos ⟨by omega, by rw [show 200000 + t - 200000 = t by omega]; exact h4, hh⟩]
theorem hg_turn {th : Nat → Int32} {i h : Nat} (hh : 0 < h) : hg1 th i 400001 h = some h := by
  unfold hg1
  rw [if_neg (by omega), if_neg (by omega), if_neg (by omega), if_pos rfl, if_pos hh]
theorem hg_bin {th : Nat → Int32} {i x h : Nat} (hx : x = 400000 ∨ x = 300042 ∨ x = 300043 ∨ x = 300045 ∨ x = 300047 ∨ x = 300060 ∨ x = 300061) (hh : 1 < h) : hg1 th i x h = some (h - 1) := by
  unfold hg1
  rw [if_neg (by omega), if_neg (by omega), if_neg (by omega), if_neg (by omega), if_pos ⟨hx, hh⟩]
theorem lp_Hg {th : Nat → Int32} {i B : Nat} {mk : Nat → Nat} {sub : Nat → Res} (hmk : ∀ j, mk j ≠ 0 → (mk j = 400000 ∨ mk j = 300042 ∨ mk j = 300043 ∨ mk j = 300045 ∨ mk j = 300047 ∨ mk j = 300060 ∨ mk j = 300061)) (hs : HgP th i (B + 1) sub) : ∀ c j s j' s', lp mk sub c j s = .ok (j', s') → (∀ h, h ≤ B → hgl th i s h = some (h + 1)) → ∀ h, h ≤ B → hgl th i s' h = some (h + 1) := by
  intro c
  induction c with
  | zero =>
    intro j s j' s' h
    injection h with h
    injection h with h1 h2
    rw [← h2]; exact id
  | succ c ih =>
    intro j s j' s' h hp
    unfold lp at h
    by_cases e : mk j = 0
    · rw [if_pos e] at h
      injection h with h
      injection h with h1 h2
      rw [← h2]; exact hp
    · rw [if_neg e] at h
      cases hsub : sub (j + 1) with
      | error x => rw [hsub] at h; cases h
      | ok p =>
        obtain ⟨j1, s1⟩ := p
        rw [hsub] at h
        refine ih j1 _ j' s' h (fun q hq => ?_)
        rw [hgl_app, hgl_app, hp q hq]
        show ((hgl th i s1 (q + 1)).bind (hgl th i [mk j])) = _
        rw [hs _ _ _ hsub (q + 1) (by omega)]
        show (hg1 th i (mk j) (q + 1 + 1)).bind (hgl th i []) = _
        rw [hg_bin (hmk j e) (by omega)]
        rfl
theorem lvl_Hg {th : Nat → Int32} {i B c : Nat} {mk : Nat → Nat} {sub : Nat → Res} (hmk : ∀ j, mk j ≠ 0 → (mk j = 400000 ∨ mk j = 300042 ∨ mk j = 300043 ∨ mk j = 300045 ∨ mk j = 300047 ∨ mk j = 300060 ∨ mk j = 300061)) (hs : HgP th i (B + 1) sub) : HgP th i B (lvl mk sub c) := by
  intro j j' s h
  unfold lvl at h
  cases hsub : sub j with
  | error x => rw [hsub] at h; cases h
  | ok p =>
    obtain ⟨j1, s1⟩ := p
    rw [hsub] at h
    exact lp_Hg hmk hs c j1 s1 j' s h (fun q hq => hs _ _ _ hsub q (by omega))
theorem mk_vals {b : Nat → Nat} {m : Nat} : (∀ j, mk2 b m j ≠ 0 → (mk2 b m j = 300042 ∨ mk2 b m j = 300047)) ∧ (∀ j, mk1 b m j ≠ 0 → (mk1 b m j = 300043 ∨ mk1 b m j = 300045)) ∧ (∀ j, mk0 b m j ≠ 0 → (mk0 b m j = 300060 ∨ mk0 b m j = 300061)) := by
  refine ⟨fun j h => ?_, fun j h => ?_, fun j h => ?_⟩
  · obtain ⟨c, hc, h1, h2⟩ := mk_c (c1 := 42) (c2 := 47) h
    have h1' : mk2 b m j = 300000 + c := h1
    omega
  · obtain ⟨c, hc, h1, h2⟩ := mk_c (c1 := 43) (c2 := 45) h
    have h1' : mk1 b m j = 300000 + c := h1
    omega
  · obtain ⟨c, hc, h1, h2⟩ := mk_c (c1 := 60) (c2 := 61) h
    have h1' : mk0 b m j = 300000 + c := h1
    omega
theorem pExp_Hg {th : Nat → Int32} {i B : Nat} {b : Nat → Nat} {m : Nat} {one : Nat → Res} (h : HgP th i (B + 3) one) : HgP th i B (pExp b m one) := by
  have h2 : HgP th i (B + 2) (pTerm b m one) := lvl_Hg (fun j hj => by have := mk_vals.1 j hj; omega) h
  have h1 : HgP th i (B + 1) (pSum b m one) := lvl_Hg (fun j hj => by have := mk_vals.2.1 j hj; omega) h2
  exact lvl_Hg (fun j hj => by have := mk_vals.2.2 j hj; omega) h1
theorem oneF_Hg {th : Nat → Int32} {i B : Nat} {b : Nat → Nat} {m : Nat} {fd : Nat → Option Nat} {tb : Nat → Bool} {go : Bool} {E self : Nat → Res} (hB : B ≤ 31) (hi : i ≤ 16) (hfd : ∀ x t, fd x = some t → t < i) (htb : ∀ t, t < i → tb t = true → th (20 * t) = 4) (hE : HgP th i (B + 1) E) (hself : HgP th i B self) : HgP th i B (oneF b m fd tb go E self) := by
  intro j j' s h q hq
  unfold oneF at h
  split at h
  · rename_i e
    injection h with h
    injection h with h1 h2
    rw [← h2]
    show (hg1 th i (dv b (tk b m j)) q).bind (hgl th i []) = _
    rw [hg_num e.2.2.2 (by omega)]
    rfl
  · split at h
    · cases hf : fd (wv b (tk b m j)) with
      | none => rw [hf] at h; cases h
      | some t =>
        rw [hf] at h
        have ht := hfd _ _ hf
        replace h : nameF b m tb go E t j = .ok (j', s) := h
        unfold nameF at h
        split at h
        · rename_i ett
          split at h
          · cases hE2 : E (j + 2) with
            | error x => rw [hE2] at h; cases h
            | ok p =>
              obtain ⟨j1, s1⟩ := p
              rw [hE2] at h
              replace h : (if isS b (tk b m j1) 93 then (Except.ok (j1 + 1, s1 ++ [200000 + t]) : Res) else .error (1, j1)) = .ok (j', s) := h
              split at h
              · injection h with h
                injection h with h1 h2
                rw [← h2, hgl_app, hE _ _ _ hE2 q (by omega)]
                show (hg1 th i (200000 + t) (q + 1)).bind (hgl th i []) = _
                rw [hg_tab ht (by omega) (htb t ht ett) (by omega)]
                rfl
              · cases h
          · cases h
        · injection h with h
          injection h with h1 h2
          rw [← h2]
          show (hg1 th i (100000 + t) q).bind (hgl th i []) = _
          rw [hg_name ht (by omega) (by omega)]
          rfl
    · split at h
      · split at h
        · unfold mnF at h
          cases hs : self (j + 1) with
          | error x => rw [hs] at h; cases h
          | ok p =>
            obtain ⟨j1, s1⟩ := p
            rw [hs] at h
            injection h with h
            injection h with h1 h2
            rw [← h2, hgl_app, hself _ _ _ hs q hq]
            show (hg1 th i 400001 (q + 1)).bind (hgl th i []) = _
            rw [hg_turn (by omega)]
            rfl
        · split at h
          · unfold brF at h
            cases hE2 : E (j + 1) with
            | error x => rw [hE2] at h; cases h
            | ok p =>
              obtain ⟨j1, s1⟩ := p
              rw [hE2] at h
              replace h : (if isS b (tk b m j1) 41 then (Except.ok (j1 + 1, s1) : Res) else .error (1, j1)) = .ok (j', s) := h
              split at h
              · injection h with h
                injection h with h1 h2
                rw [← h2]
                exact hE _ _ _ hE2 q (by omega)
              · cases h
          · split at h
            · unfold lsF at h
              split at h
              · cases hE2 : E (j + 2) with
                | error x => rw [hE2] at h; cases h
                | ok p =>
                  obtain ⟨j1, s1⟩ := p
                  rw [hE2] at h
                  replace h : (if isS b (tk b m j1) 44 then (match E (j1 + 1) with
                    | .error e => (.error e : Res)
                    | .ok (j2, s2) => if isS b (tk b m j2) 41 then .ok (j2 + 1, s1 ++ s2 ++ [400000]) else .error (1, j2)) else .error (1, j1)) = .ok (j', s) := h
                  split at h
                  · cases hE3 : E (j1 + 1) with
                    | error x => rw [hE3] at h; cases h
                    | ok p =>
                      obtain ⟨j2, s2⟩ := p
                      rw [hE3] at h
                      replace h : (if isS b (tk b m j2) 41 then (Except.ok (j2 + 1, s1 ++ s2 ++ [400000]) : Res) else .error (1, j2)) = .ok (j', s) := h
                      split at h
                      · injection h with h
                        injection h with h1 h2
                        rw [← h2, hgl_app, hgl_app, hE _ _ _ hE2 q (by omega)]
                        show (hgl th i s2 (q + 1)).bind (hgl th i [400000]) = _
                        rw [hE _ _ _ hE3 (q + 1) (by omega)]
                        show (hg1 th i 400000 (q + 1 + 1)).bind (hgl th i []) = _
                        rw [hg_bin (Or.inl rfl) (by omega)]
                        rfl
                      · cases h
                  · cases h
              · cases h
            · cases h
      · cases h
theorem HgP.le {th : Nat → Int32} {i B B' : Nat} {sub : Nat → Res} (h : HgP th i B sub) (hl : B' ≤ B) : HgP th i B' sub := fun j j' s hs q hq => h j j' s hs q (by omega)
theorem pOne_Hg {th : Nat → Int32} {i : Nat} {b : Nat → Nat} {m : Nat} {fd : Nat → Option Nat} {tb : Nat → Bool} (hi : i ≤ 16) (hfd : ∀ x t, fd x = some t → t < i) (htb : ∀ t, t < i → tb t = true → th (20 * t) = 4) : ∀ r, r ≤ 4 → HgP th i (31 - 4 * r) (pOne b m fd tb r)
  | 0, _ => oneF_Hg (by omega) hi hfd htb (fun j j' s h => by cases h) (fun j j' s h => by cases h)
  | r + 1, hr => by
    have ih := pOne_Hg (b := b) (m := m) hi hfd htb r (by omega)
    exact oneF_Hg (by omega) hi hfd htb (pExp_Hg (ih.le (by omega))) (ih.le (by omega))
theorem pE_Hg {th : Nat → Int32} {i : Nat} {b : Nat → Nat} {m : Nat} {fd : Nat → Option Nat} {tb : Nat → Bool} (hi : i ≤ 16) (hfd : ∀ x t, fd x = some t → t < i) (htb : ∀ t, t < i → tb t = true → th (20 * t) = 4) {j j' : Nat} {s : List Nat} (h : pExp b m (pOne b m fd tb 4) j = .ok (j', s)) : hgl th i s 0 = some 1 :=
  pExp_Hg (B := 12) (pOne_Hg (b := b) (m := m) hi hfd htb 4 (Nat.le_refl _)) j j' s h 0 (by omega)
/-- what is mentioned is ahead -/
theorem hg_men {th : Nat → Int32} {i t : Nat} : ∀ (s : List Nat) (h h' : Nat), i ≤ 16 → hgl th i s h = some h' → t < 16 → men s t → t < i
  | [], h, h', _, _, _, hm => by
    rcases hm with z | z <;> cases z
  | x :: l, h, h', hi, hh, ht, hm => by
    replace hh : (hg1 th i x h).bind (hgl th i l) = some h' := hh
    cases hx : hg1 th i x h with
    | none => rw [hx] at hh; cases hh
    | some h2 =>
      rw [hx] at hh
      by_cases hl : men l t
      · exact hg_men l h2 h' hi hh ht hl
      · unfold hg1 at hx
        rcases hm with z | z
        · rcases List.mem_cons.mp z with z | z
          · rw [if_neg (by omega), if_pos (by omega)] at hx
            split at hx
            · rename_i w; omega
            · cases hx
          · exact absurd (Or.inl z) hl
        · rcases List.mem_cons.mp z with z | z
          · rw [if_neg (by omega), if_neg (by omega), if_pos (by omega)] at hx
            split at hx
            · rename_i w; omega
            · cases hx
          · exact absurd (Or.inr z) hl
