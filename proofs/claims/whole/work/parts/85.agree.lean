/-! ===== two rows that say the same ===== -/
def AgT (n : Nat) (th sg th' sg' : Nat → Int32) : Prop := ∀ i, i < n → (∀ w, w < 8 → th' (20 * i + w) = th (20 * i + w)) ∧ (th (20 * i) = 4 → ∀ k, k < sN (th (20 * i + 3)) → th' (20 * i + 8 + 2 * k) = th (20 * i + 8 + 2 * k) ∧ th' (20 * i + 9 + 2 * k) = th (20 * i + 9 + 2 * k)) ∧ ∀ k, sN (th (20 * i + 6)) ≤ k → k < sN (th (20 * i + 7)) → sg' k = sg k
theorem AgT.f {n : Nat} {th sg th' sg' : Nat → Int32} (h : AgT n th sg th' sg') {i : Nat} (hi : i < n) (w : Nat) (hw : w < 8) : th' (20 * i + w) = th (20 * i + w) := (h i hi).1 w hw
theorem AgT.k {n : Nat} {th sg th' sg' : Nat → Int32} (h : AgT n th sg th' sg') {i : Nat} (hi : i < n) : th' (20 * i) = th (20 * i) := (h i hi).1 0 (by decide)
theorem lkB_at {th th' : Nat → Int32} {t c : Nat} {x : Int32} (ha : ∀ k, k < c → th' (20 * t + 8 + 2 * k) = th (20 * t + 8 + 2 * k) ∧ th' (20 * t + 9 + 2 * k) = th (20 * t + 9 + 2 * k)) : ∀ m k, 1 ≤ k → k + m = c + 1 → lkB th' (20 * t + 8) x m k = lkB th (20 * t + 8) x m k
  | 0, k, _, _ => rfl
  | 1, k, h1, hk => by
    show th' (20 * t + 8 + 2 * k - 1) = th (20 * t + 8 + 2 * k - 1)
    have := (ha (k - 1) (by omega)).2
    rw [show 20 * t + 9 + 2 * (k - 1) = 20 * t + 8 + 2 * k - 1 by omega] at this
    exact this
  | m + 2, k, h1, hk => by
    have e1 := (ha (k - 1) (by omega)).2
    have e2 := (ha (k - 1) (by omega)).1
    have e3 := (ha k (by omega)).1
    have e4 := (ha k (by omega)).2
    rw [show 20 * t + 9 + 2 * (k - 1) = 20 * t + 8 + 2 * k - 1 by omega] at e1
    rw [show 20 * t + 8 + 2 * (k - 1) = 20 * t + 8 + 2 * k - 2 by omega] at e2
    rw [show 20 * t + 9 + 2 * k = 20 * t + 8 + 2 * k + 1 by omega] at e4
    unfold lkB
    rw [e1, e2, e3, e4, lkB_at ha (m + 1) (k + 1) (by omega) (by omega)]
theorem lk_at {n : Nat} {th sg th' sg' : Nat → Int32} (tw : TW n th sg) (h : AgT n th sg th' sg') {t : Nat} (ht : t < n) (h4 : th (20 * t) = 4) (x : Int32) : lk th' t x = lk th t x := by
  obtain ⟨c, c1, c2, c3, -⟩ := (tw.2 t ht).2.2.2.2.2.2.2 h4
  have hs : sN (th (20 * t + 3)) = c := by rw [c3]; exact nI_clamp (by omega)
  have ha := (h t ht).2.1 h4
  rw [hs] at ha
  have a0 := ha 0 (by omega)
  unfold lk
  rw [(h.f ht 3 (by decide)), hs, show th' (20 * t + 8) = th (20 * t + 8) from a0.1, show th' (20 * t + 9) = th (20 * t + 9) from a0.2, lkB_at ha c 1 (by omega) (by omega)]
theorem ev1_at {th th' V : Nat → Int32} {s : Nat} {l : List Int32} (h : 200000 ≤ s → s < 300000 → ∀ x, lk th' (s - 200000) x = lk th (s - 200000) x) : ev1 th' V s l = ev1 th V s l := by
  unfold ev1
  by_cases h1 : s < 100000
  · rw [if_pos h1, if_pos h1]
  · rw [if_neg h1, if_neg h1]
    by_cases h2 : s < 200000
    · rw [if_pos h2, if_pos h2]
    · rw [if_neg h2, if_neg h2]
      by_cases h3 : s < 300000
      · rw [if_pos h3, if_pos h3]
        cases l with
        | nil => rfl
        | cons x l =>
          show lk th' (s - 200000) x :: l = lk th (s - 200000) x :: l
          rw [h (by omega) h3 x]
      · rw [if_neg h3, if_neg h3]
theorem evs_at {n : Nat} {th sg th' sg' V : Nat → Int32} (tw : TW n th sg) (ag : AgT n th sg th' sg') {i : Nat} (hi : i < n) : ∀ (c k h h' : Nat) (l : List Int32), hgs th sg i c k h = some h' → (∀ q, k ≤ q → q < k + c → sg' q = sg q) → evs th' sg' V c k l = evs th sg V c k l := by
  intro c
  induction c with
  | zero => intros; rfl
  | succ c ih =>
    intro k h h' l hh hq
    unfold hgs at hh
    cases hg : hg1 th i (sN (sg k)) h with
    | none => rw [hg] at hh; cases hh
    | some h1 =>
      rw [hg] at hh
      unfold evs
      rw [hq k (by omega) (by omega)]
      have e : ev1 th' V (sN (sg k)) l = ev1 th V (sN (sg k)) l := ev1_at (fun a b x => by
        rcases hg1_cases hg with ⟨e1, _⟩ | ⟨j, e1, e2, _⟩ | ⟨t, e1, e2, e3, e4, _⟩ | ⟨e1, _⟩ | ⟨e1, _⟩
        · omega
        · omega
        · rw [show sN (sg k) - 200000 = t by omega]
          exact lk_at tw ag (by omega) e4 x
        · omega
        · rcases e1 with e | e | e | e | e | e | e <;> omega)
      rw [e]
      exact ih (k + 1) h1 h' _ hh (fun q q1 q2 => hq q (by omega) (by omega))
theorem wrk_at {n : Nat} {th sg th' sg' V : Nat → Int32} (tw : TW n th sg) (ag : AgT n th sg th' sg') {i : Nat} (hi : i < n) (hk : th (20 * i) = 2 ∨ th (20 * i) = 3 ∨ th (20 * i) = 6) : wrk th' sg' V i = wrk th sg V i := by
  obtain ⟨a, b, hab, hb, ha6, hb7, -, hh⟩ := tw.hg hi
  have hq := (ag i hi).2.2
  have s6 : sN (th (20 * i + 6)) = a := by rw [ha6]; exact nI_clamp (by omega)
  have s7 : sN (th (20 * i + 7)) = b := by rw [hb7]; exact nI_clamp (by omega)
  rw [s6, s7] at hq
  unfold wrk
  rw [ag.f hi 6 (by decide), ag.f hi 7 (by decide), s6, s7, evs_at tw ag hi (b - a) a 0 1 [] (hh hk) (fun q q1 q2 => hq q q1 (by omega))]
theorem val1_at {n : Nat} {th sg th' sg' am mem V : Nat → Int32} {now : Nat} (tw : TW n th sg) (ag : AgT n th sg th' sg') {i : Nat} (hi : i < n) : val1 th' sg' am mem now V i = val1 th sg am mem now V i := by
  unfold val1
  rw [ag.k hi, ag.f hi 3 (by decide)]
  by_cases h1 : th (20 * i) = 1 ∨ th (20 * i) = 5
  · rw [if_pos h1, if_pos h1]
  · rw [if_neg h1, if_neg h1]
    by_cases h6 : th (20 * i) = 6
    · rw [if_pos h6, if_pos h6, wrk_at tw ag hi (Or.inr (Or.inr h6))]
    · rw [if_neg h6, if_neg h6]
      by_cases h3 : th (20 * i) = 3
      · rw [if_pos h3, if_pos h3, wrk_at tw ag hi (Or.inr (Or.inl h3))]
      · rw [if_neg h3, if_neg h3]
theorem vto_at {n : Nat} {th sg th' sg' am mem : Nat → Int32} {now : Nat} (tw : TW n th sg) (ag : AgT n th sg th' sg') : ∀ k, k ≤ n → vto th' sg' am mem now k = vto th sg am mem now k
  | 0, _ => rfl
  | k + 1, hk => by
    show upd (vto th' sg' am mem now k) k (val1 th' sg' am mem now (vto th' sg' am mem now k) k) = upd (vto th sg am mem now k) k (val1 th sg am mem now (vto th sg am mem now k) k)
    rw [vto_at tw ag k (by omega), val1_at tw ag (by omega)]
theorem sm_at {f g : Nat → Int64} : ∀ n, (∀ k, k < n → f k = g k) → sm n f = sm n g
  | 0, _ => rfl
  | n + 1, h => by
    show sm n f + f n = sm n g + g n
    rw [sm_at n (fun k hk => h k (by omega)), h n (by omega)]
theorem fl1_at {n : Nat} {th sg th' sg' V : Nat → Int32} (ag : AgT n th sg th' sg') {i : Nat} (hi : i < n) : fl1 n th' V i = fl1 n th V i := by
  have hs : ∀ s, allS n th' V s = allS n th V s := fun s => sm_at n (fun k hk => by rw [ag.k hk, ag.f hk 4 (by decide)])
  unfold fl1
  rw [ag.f hi 4 (by decide), hs]
theorem CW_at {n : Nat} {th sg th' sg' am mem : Nat → Int32} {now ne : Nat} {ev : Nat → Int32} {W : Nat → Nat → Int32} (tw : TW n th sg) (ag : AgT n th sg th' sg') (h : CW n th sg am mem now ne ev W) : CW n th' sg' am mem now ne ev W := by
  obtain ⟨h1, h2, h3, h4, h5, h6, h7, h8⟩ := h
  have hv : vto th' sg' am mem now n = vto th sg am mem now n := vto_at tw ag n (Nat.le_refl _)
  refine ⟨h1, h2, h3, fun i hi z => h4 i hi (by rw [ag.k hi] at z; exact z), fun i hi => by rw [hv]; exact h5 i hi, fun i hi z => ?_, fun i hi z => ?_, fun i hi z => ?_⟩
  · rw [ag.k hi] at z
    rw [hv, fl1_at ag hi]; exact h6 i hi z
  · rw [ag.k hi] at z
    rw [hv, wrk_at tw ag hi (Or.inl z)]; exact h7 i hi z
  · rw [ag.k hi] at z
    rw [ag.f hi 3 (by decide)]
    exact h8 i hi z
theorem am0_at {n : Nat} {th sg th' sg' am : Nat → Int32} (ag : AgT n th sg th' sg') : am0 n th' am = am0 n th am := by
  funext i
  unfold am0
  by_cases hi : i < n
  · rw [if_pos hi, if_pos hi, ag.f hi 3 (by decide)]
  · rw [if_neg hi, if_neg hi]
