/-! ===== rows that are alike as far as they reach ===== -/
def Ag (N : Nat) (f g : Nat → Int32) : Prop := ∀ k, k < N → g k = f k
theorem hg1_ag {th th' : Nat → Int32} (ht : Ag 320 th th') {i s h : Nat} (hi : i ≤ 16) : hg1 th' i s h = hg1 th i s h := by
  unfold hg1
  by_cases h1 : s < 100000
  · rw [if_pos h1, if_pos h1]
  · rw [if_neg h1, if_neg h1]
    by_cases h2 : s < 200000
    · rw [if_pos h2, if_pos h2]
    · rw [if_neg h2, if_neg h2]
      by_cases h3 : s < 300000
      · rw [if_pos h3, if_pos h3]
        by_cases hlt : s - 200000 < i
        · rw [ht (20 * (s - 200000)) (by omega)]
        · rw [if_neg (fun z => hlt z.1), if_neg (fun z => hlt z.1)]
      · rw [if_neg h3, if_neg h3]
theorem hgs_ag {th th' sg sg' : Nat → Int32} (ht : Ag 320 th th') (hs : Ag 300 sg sg') {i : Nat} (hi : i ≤ 16) : ∀ (c k h : Nat), k + c ≤ 300 → hgs th' sg' i c k h = hgs th sg i c k h := by
  intro c
  induction c with
  | zero => intros; rfl
  | succ c ih =>
    intro k h hk
    show (hg1 th' i (sN (sg' k)) h).bind (hgs th' sg' i c (k + 1)) = (hg1 th i (sN (sg k)) h).bind (hgs th sg i c (k + 1))
    rw [hs k (by omega), hg1_ag ht hi, show hgs th' sg' i c (k + 1) = hgs th sg i c (k + 1) from funext (fun h => ih (k + 1) h (by omega))]
theorem TW.ag {n : Nat} {th th' sg sg' : Nat → Int32} (ht : Ag 320 th th') (hs : Ag 300 sg sg') (tw : TW n th sg) : TW n th' sg' := by
  have h16 := tw.1
  refine ⟨h16, fun i hi => ?_⟩
  have H0 : th' (20 * i) = th (20 * i) := ht _ (by omega)
  have H : ∀ c, c < 20 → th' (20 * i + c) = th (20 * i + c) := fun c hc => ht _ (by omega)
  have E : ∀ e, endO th i e → endO th' i e := fun e h => by
    rcases h with h | ⟨h3, j, hj, e1, e2⟩
    · exact Or.inl h
    · exact Or.inr ⟨H0.trans h3, j, hj, e1, (ht _ (by omega)).trans e2⟩
  obtain ⟨t1, t2, t3, t4, t5, t6, t7, t8⟩ := tw.2 i hi
  unfold TW1
  rw [H0, H 1 (by omega), H 2 (by omega), H 3 (by omega), H 4 (by omega), H 5 (by omega), H 6 (by omega), H 7 (by omega)]
  refine ⟨t1, t2, E _ t3, E _ t4, ?_, t6, t7, fun h4 => ?_⟩
  · obtain ⟨a, b, hab, hb, e6, e7, hsg, hh⟩ := t5
    exact ⟨a, b, hab, hb, e6, e7, fun k h1 h2 => by rw [hs k (by omega)]; exact hsg k h1 h2, fun hk => by rw [hgs_ag ht hs (by omega) _ _ _ (by omega)]; exact hh hk⟩
  · obtain ⟨c, c2, c6, e3, at0, hat, hasc, hv⟩ := t8 h4
    exact ⟨c, c2, c6, e3, at0, fun k hk => ⟨(hat k hk).1, by rw [ht _ (by omega)]; exact (hat k hk).2⟩, hasc, fun k hk => by rw [ht _ (by omega)]; exact hv k hk⟩
theorem lkB_ag {th th' : Nat → Int32} (ht : Ag 320 th th') {t : Nat} (htt : t < 16) {x : Int32} : ∀ r k, k + r ≤ 7 → 1 ≤ k → lkB th' (20 * t + 8) x r k = lkB th (20 * t + 8) x r k
  | 0, _, _, _ => rfl
  | 1, k, hk, h1 => ht _ (by omega)
  | r + 2, k, hk, h1 => by
    show (if x < th' (20 * t + 8 + 2 * k) then th' (20 * t + 8 + 2 * k - 1) + ((th' (20 * t + 8 + 2 * k + 1) - th' (20 * t + 8 + 2 * k - 1)).toInt64 * (x - th' (20 * t + 8 + 2 * k - 2)).toInt64 / (th' (20 * t + 8 + 2 * k) - th' (20 * t + 8 + 2 * k - 2)).toInt64).toInt32 else lkB th' (20 * t + 8) x (r + 1) (k + 1)) = (if x < th (20 * t + 8 + 2 * k) then th (20 * t + 8 + 2 * k - 1) + ((th (20 * t + 8 + 2 * k + 1) - th (20 * t + 8 + 2 * k - 1)).toInt64 * (x - th (20 * t + 8 + 2 * k - 2)).toInt64 / (th (20 * t + 8 + 2 * k) - th (20 * t + 8 + 2 * k - 2)).toInt64).toInt32 else lkB th (20 * t + 8) x (r + 1) (k + 1))
    rw [lkB_ag ht htt (r + 1) (k + 1) (by omega) (by omega), ht (20 * t + 8 + 2 * k) (by omega), ht (20 * t + 8 + 2 * k - 1) (by omega), ht (20 * t + 8 + 2 * k + 1) (by omega), ht (20 * t + 8 + 2 * k - 2) (by omega)]
theorem lk_ag {th th' : Nat → Int32} (ht : Ag 320 th th') {t c : Nat} (htt : t < 16) (ok : TabOK th t c) {x : Int32} : lk th' t x = lk th t x := by
  unfold lk
  have c6 := ok.2.2.1
  rw [ht (20 * t + 8) (by omega), ht (20 * t + 9) (by omega), ht (20 * t + 3) (by omega), ok.1, sN_nI (by omega), lkB_ag ht htt c 1 (by omega) (by omega)]
theorem evs_ag {th th' sg sg' V : Nat → Int32} (ht : Ag 320 th th') (hs : Ag 300 sg sg') {i : Nat} (hi : i ≤ 16) (tabs : ∀ t, t < i → th (20 * t) = 4 → ∃ c, TabOK th t c) : ∀ (c k h h' : Nat) (l : List Int32), k + c ≤ 300 → hgs th sg i c k h = some h' → evs th' sg' V c k l = evs th sg V c k l := by
  intro c
  induction c with
  | zero => intros; rfl
  | succ c ih =>
    intro k h h' l hk hh
    unfold hgs at hh
    cases hg : hg1 th i (sN (sg k)) h with
    | none => rw [hg] at hh; cases hh
    | some h1 =>
      rw [hg] at hh
      show evs th' sg' V c (k + 1) (ev1 th' V (sN (sg' k)) l) = evs th sg V c (k + 1) (ev1 th V (sN (sg k)) l)
      rw [hs k (by omega)]
      have e : ev1 th' V (sN (sg k)) l = ev1 th V (sN (sg k)) l := by
        generalize sN (sg k) = s at hg
        rcases hg1_cases hg with ⟨e1, _⟩ | ⟨j, e1, e2, e3, _⟩ | ⟨t, ht1, e2, e3, e4, _⟩ | ⟨e1, _⟩ | ⟨e1, _⟩
        · unfold ev1; rw [if_pos e1, if_pos e1]
        · unfold ev1; rw [if_neg (by omega), if_pos e3, if_neg (by omega), if_pos e3]
        · obtain ⟨cc, ok⟩ := tabs t ht1 e4
          unfold ev1
          rw [if_neg (by omega), if_neg (by omega), if_pos e3, if_neg (by omega), if_neg (by omega), if_pos e3, show s - 200000 = t by omega]
          match l with
          | [] => rfl
          | x :: l => show lk th' t x :: l = lk th t x :: l; rw [lk_ag ht (by omega) ok]
        · unfold ev1; simp only [if_neg (show ¬ s < 100000 by omega), if_neg (show ¬ s < 200000 by omega), if_neg (show ¬ s < 300000 by omega)]
        · have h3 : 300000 ≤ s := by rcases e1 with e | e | e | e | e | e | e <;> omega
          unfold ev1; simp only [if_neg (show ¬ s < 100000 by omega), if_neg (show ¬ s < 200000 by omega), if_neg (show ¬ s < 300000 by omega)]
      rw [e]
      exact ih (k + 1) h1 h' _ (by omega) hh
theorem wrk_ag {n : Nat} {th th' sg sg' V : Nat → Int32} (ht : Ag 320 th th') (hs : Ag 300 sg sg') (tw : TW n th sg) {i : Nat} (hi : i < n) (hk : th (20 * i) = 2 ∨ th (20 * i) = 3 ∨ th (20 * i) = 6) : wrk th' sg' V i = wrk th sg V i := by
  have h16 := tw.1
  obtain ⟨a, b, hab, hb, ha6, hb7, -, hh⟩ := tw.hg hi
  unfold wrk
  rw [ht (20 * i + 6) (by omega), ht (20 * i + 7) (by omega), ha6, hb7, sN_nI (by omega), sN_nI (by omega), evs_ag ht hs (by omega) (fun t h1 h4 => tw.tab (by omega) h4) (b - a) a 0 1 [] (by omega) (hh hk)]
theorem vto_ag {n : Nat} {th th' sg sg' am am' mem mem' : Nat → Int32} {now : Nat} (ht : Ag 320 th th') (hs : Ag 300 sg sg') (ha : Ag 16 am am') (hm : Ag 160 mem mem') (tw : TW n th sg) : ∀ k, k ≤ n → vto th' sg' am' mem' now k = vto th sg am mem now k
  | 0, _ => rfl
  | k + 1, hk => by
    have h16 := tw.1
    show upd (vto th' sg' am' mem' now k) k (val1 th' sg' am' mem' now (vto th' sg' am' mem' now k) k) = upd (vto th sg am mem now k) k (val1 th sg am mem now (vto th sg am mem now k) k)
    rw [vto_ag ht hs ha hm tw k (by omega)]
    have e : val1 th' sg' am' mem' now (vto th sg am mem now k) k = val1 th sg am mem now (vto th sg am mem now k) k := by
      unfold val1
      rw [ht (20 * k) (by omega), ht (20 * k + 3) (by omega), ha k (by omega), hm (10 * k + (now - sN (th (20 * k + 3))) % 10) (by omega)]
      by_cases h1 : th (20 * k) = 1 ∨ th (20 * k) = 5
      · rw [if_pos h1, if_pos h1]
      · rw [if_neg h1, if_neg h1]
        by_cases h6 : th (20 * k) = 6
        · rw [if_pos h6, if_pos h6]; exact wrk_ag ht hs tw (by omega) (Or.inr (Or.inr h6))
        · rw [if_neg h6, if_neg h6]
          by_cases h3 : th (20 * k) = 3
          · rw [if_pos h3, if_pos h3, wrk_ag ht hs tw (by omega) (Or.inr (Or.inl h3))]
          · rw [if_neg h3, if_neg h3]
    rw [e]
theorem fl1_ag {n : Nat} {th th' V : Nat → Int32} (ht : Ag 320 th th') (h16 : n ≤ 16) {i : Nat} (hi : i < n) : fl1 n th' V i = fl1 n th V i := by
  have hA : ∀ s, allS n th' V s = allS n th V s := fun s => sm_congr n (fun k hk => by rw [ht (20 * k) (by omega), ht (20 * k + 4) (by omega)])
  unfold fl1
  rw [ht (20 * i + 4) (by omega), hA]
theorem mvB_ag {sg sg' : Nat → Int32} (hs : Ag 300 sg sg') {i : Nat} {bit : Int32} : ∀ (c k : Nat) (x : Int32), k + c ≤ 300 → mvB sg' i bit c k x = mvB sg i bit c k x := by
  intro c
  induction c with
  | zero => intros; rfl
  | succ c ih =>
    intro k x hk
    show mvB sg' i bit c (k + 1) (x ||| (if sg' k = nI (100000 + i) ∨ sg' k = nI (200000 + i) then bit else 0)) = mvB sg i bit c (k + 1) (x ||| (if sg k = nI (100000 + i) ∨ sg k = nI (200000 + i) then bit else 0))
    rw [hs k (by omega), ih (k + 1) _ (by omega)]
theorem mvd_ag {n : Nat} {th th' sg sg' : Nat → Int32} (ht : Ag 320 th th') (hs : Ag 300 sg sg') (tw : TW n th sg) {i : Nat} (hi : i < n) : mvd n th' sg' i = mvd n th sg i := by
  have h16 := tw.1
  have hT : ∀ b x, b ≤ n → mvT th' sg' i b x = mvT th sg i b x := by
    intro b
    induction b with
    | zero => intros; rfl
    | succ b ih =>
      intro x hb
      obtain ⟨a, e, hae, he3, ha6, he7, -, -⟩ := tw.hg (i := b) (by omega)
      show mvB sg' i (1 <<< nI b) (sN (th' (20 * b + 7)) - sN (th' (20 * b + 6))) (sN (th' (20 * b + 6))) (mvT th' sg' i b x) = mvB sg i (1 <<< nI b) (sN (th (20 * b + 7)) - sN (th (20 * b + 6))) (sN (th (20 * b + 6))) (mvT th sg i b x)
      rw [ht (20 * b + 7) (by omega), ht (20 * b + 6) (by omega), ih x (by omega), ha6, he7, sN_nI (by omega), sN_nI (by omega)]
      exact mvB_ag hs _ _ _ (by omega)
  unfold mvd
  rw [hT n _ (Nat.le_refl _), ht (20 * i) (by omega), ht (20 * i + 4) (by omega), ht (20 * i + 5) (by omega)]
theorem CX.ag {n : Nat} {th th' sg sg' : Nat → Int32} {T : Nat → Nat → Int32} (ht : Ag 320 th th') (hs : Ag 300 sg sg') (tw : TW n th sg) (cx : CX n th sg T) : CX n th' sg' T := by
  have h16 := tw.1
  obtain ⟨a1, a2, z, b1, b2, b3, b4⟩ := cx
  refine ⟨a1, fun i hi => ?_, z, b1, b2, fun i hi => by rw [ht _ (by omega)]; exact b3 i hi, fun k hk => by rw [hs k (by omega)]; exact b4 k hk⟩
  obtain ⟨c1, c2, c3, c4, c5, c6, c7, c8, c9⟩ := a2 i hi
  unfold CX1
  rw [ht (20 * i) (by omega), ht (20 * i + 1) (by omega), ht (20 * i + 3) (by omega), ht (20 * i + 4) (by omega), ht (20 * i + 5) (by omega), ht (20 * i + 6) (by omega), ht (20 * i + 7) (by omega), mvd_ag ht hs tw hi]
  refine ⟨c1, c2, c3, c4, c5, c6, c7, c8, fun h4 => ⟨(c9 h4).1, fun k hk => ?_⟩⟩
  obtain ⟨c, ok⟩ := tw.tab hi h4
  have hk' : k < c := by rw [ok.1, sN_nI (by have := ok.2.2.1; omega)] at hk; exact hk
  have c6 := ok.2.2.1
  rw [ht _ (by omega), ht _ (by omega)]
  exact (c9 h4).2 k hk
theorem CORE.ag {n : Nat} {th th' sg sg' am am' mem mem' ev ev' pa pa' : Nat → Int32} {now ne : Nat} {T W : Nat → Nat → Int32} {P : Nat → Int32} (ht : Ag 320 th th') (hs : Ag 300 sg sg') (ha : Ag 16 am am') (hm : Ag 160 mem mem') (he : Ag 18 ev ev') (hp : Ag 960 pa pa') (h : CORE n th sg am mem now ne ev pa T W P) : CORE n th' sg' am' mem' now ne ev' pa' T W P := by
  obtain ⟨tw, cx, mw, cw, ps, h60⟩ := h
  have h16 := tw.1
  have h6 := mw.2.1
  refine ⟨tw.ag ht hs, cx.ag ht hs tw, ⟨fun i hi e => ?_, h6, fun e he' => ?_⟩, ?_, fun s i h1 h2 => ?_, h60⟩
  · rw [ht _ (by omega)] at e
    rw [ha i (by omega)]; exact mw.1 i hi e
  · obtain ⟨j, hj, e1, e2⟩ := mw.2.2 e he'
    exact ⟨j, hj, by rw [he _ (by omega)]; exact e1, by rw [ht _ (by omega)]; exact e2⟩
  · obtain ⟨c1, c2, c3, c4, c5, c6, c7, c8⟩ := cw
    have hv := vto_ag (now := now) ht hs ha hm tw n (Nat.le_refl _)
    refine ⟨c1, c2, fun e he' => ?_, fun i hi e => ?_, fun i hi => ?_, fun i hi e => ?_, fun i hi e => ?_, fun i hi e s h1 h2 => ?_⟩
    · rw [he (3 * e) (by omega), he (3 * e + 1) (by omega), he (3 * e + 2) (by omega)]; exact c3 e he'
    · rw [ht (20 * i) (by omega)] at e
      rw [ha i (by omega)]; exact c4 i hi e
    · rw [hv]; exact c5 i hi
    · rw [ht (20 * i) (by omega)] at e
      rw [hv, fl1_ag ht h16 hi]; exact c6 i hi e
    · rw [ht (20 * i) (by omega)] at e
      rw [hv, wrk_ag ht hs tw hi (Or.inl e)]; exact c7 i hi e
    · rw [ht (20 * i) (by omega)] at e
      rw [ht (20 * i + 3) (by omega)] at h2 ⊢
      rw [hm _ (by omega)]; exact c8 i hi e s h1 h2
  · rw [hp _ (by omega)]; exact ps s i h1 h2
