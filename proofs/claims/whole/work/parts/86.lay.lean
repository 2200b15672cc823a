/-! ===== a text that is laid out as its records say ===== -/
def Lay1 (r : RcT) (i : Nat) (th sg : Nat → Int32) : Prop :=
  th (20 * i) = nI r.kd ∧ th (20 * i + 1) = nI r.nm ∧ th (20 * i + 2) = nI r.lg ∧ (r.kd ≠ 4 → th (20 * i + 3) = nI r.fi) ∧ th (20 * i + 4) = eI r.fr ∧ th (20 * i + 5) = eI r.to ∧ th (20 * i + 6) = nI r.c ∧ th (20 * i + 7) = nI (r.c + r.s.length) ∧ (r.kd = 4 → th (20 * i + 3) = nI r.cs.length ∧ ∀ k, k < r.cs.length → th (20 * i + 8 + 2 * k) = nI (r.cs.getD k (0, 0)).1 ∧ th (20 * i + 9 + 2 * k) = nI (r.cs.getD k (0, 0)).2) ∧ ∀ q, q < r.s.length → sg (r.c + q) = nI (r.s.getD q 0)
def Lay (ρ : Rho) (n : Nat) (th sg : Nat → Int32) : Prop := ∀ i, i < n → Lay1 (ρ i) i th sg
theorem getD_lt : ∀ (s : List Nat) (q N : Nat), (∀ x ∈ s, x < N) → q < s.length → s.getD q 0 < N
  | [], q, N, _, h => absurd h (Nat.not_lt_zero _)
  | x :: l, 0, N, hx, _ => hx x (List.mem_cons_self ..)
  | x :: l, q + 1, N, hx, h => getD_lt l q N (fun y hy => hx y (List.mem_cons_of_mem _ hy)) (Nat.lt_of_succ_lt_succ h)
theorem lay_end {ρ : Rho} {n i : Nat} {th sg : Nat → Int32} {e : Option Nat} (hi : i < n) (h : Lay ρ n th sg) (v : endV ρ i (ρ i).kd e) : endO th i (eI e) := by
  rcases v with z | ⟨k3, j, hj, z, k1⟩
  · rw [z]; exact Or.inl rfl
  · rw [z]
    refine Or.inr ⟨?_, j, hj, rfl, ?_⟩
    · rw [(h i hi).1, k3]; rfl
    · rw [(h j (by omega)).1, k1]; rfl
theorem lay_TW {ρ : Rho} {n c j : Nat} {th sg : Nat → Int32} (v : VL ρ n c j) (h : Lay ρ n th sg) : TW n th sg := by
  refine ⟨v.1, fun i hi => ?_⟩
  obtain ⟨⟨⟨k1, k6⟩, ⟨l1, l5, n1, n2⟩, vf, vt, c3, x4, hg, mn, d2, d1, d4⟩, vc, vn⟩ := v.2.2.1 i hi
  obtain ⟨h0, h1, h2, h3, h4, h5, h6, h7, h8, h9⟩ := h i hi
  have i16 := v.1
  have kd : ∀ x, x < 7 → th (20 * i) = nI x → (ρ i).kd = x := fun x hx z => (nI_eq (by omega) (by omega)).mp (h0.symm.trans z)
  refine ⟨⟨_, k1, k6, h0⟩, ⟨_, _, l1, l5, n1, n2, h2, h1⟩, ?_, ?_, ⟨(ρ i).c, (ρ i).c + (ρ i).s.length, by omega, c3, h6, h7, fun k a1 a2 => ?_, fun z => ?_⟩, fun z => ?_, fun z => ?_, fun z => ?_⟩
  · rw [h4]; exact lay_end hi h vf
  · rw [h5]; exact lay_end hi h vt
  · have := h9 (k - (ρ i).c) (by omega)
    rw [show (ρ i).c + (k - (ρ i).c) = k by omega] at this
    exact ⟨_, getD_lt _ _ _ x4 (by omega), this⟩
  · rw [show (ρ i).c + (ρ i).s.length - (ρ i).c = (ρ i).s.length by omega, hgs_hgl _ _ _ h9 x4]
    refine hg ?_ th (fun t ht k4 => by rw [(h t (by omega)).1, k4]; rfl)
    rcases z with z | z | z
    · exact Or.inl (kd 2 (by omega) z)
    · exact Or.inr (Or.inl (kd 3 (by omega) z))
    · exact Or.inr (Or.inr (kd 6 (by omega) z))
  · have k2 := kd 2 (by omega) z
    have := d2 k2
    exact ⟨_, this.1, this.2, h3 (by omega)⟩
  · have k15 : (ρ i).kd = 1 ∨ (ρ i).kd = 5 := by
      rcases z with z | z
      · exact Or.inl (kd 1 (by omega) z)
      · exact Or.inr (kd 5 (by omega) z)
    exact ⟨_, d1 k15, h3 (by omega)⟩
  · have k4 := kd 4 (by omega) z
    obtain ⟨e1, e2, e3, e4⟩ := d4 k4
    obtain ⟨g1, g2⟩ := h8 k4
    exact ⟨_, e1, e2, g1, fun k => ((ρ i).cs.getD k (0, 0)).1, fun k hk => ⟨(e3 k hk).1, (g2 k hk).1⟩, e4, fun k hk => ⟨_, (e3 k hk).2, (g2 k hk).2⟩⟩
theorem mvB_men {sg : Nat → Int32} {i : Nat} {bit : Int32} (hi : i < 16) : ∀ (s : List Nat) (k : Nat) (x : Int32), (∀ q, q < s.length → sg (k + q) = nI (s.getD q 0)) → (∀ y ∈ s, y < 400002) → mvB sg i bit s.length k x = if 100000 + i ∈ s ∨ 200000 + i ∈ s then x ||| bit else x
  | [], k, x, _, _ => by
    rw [if_neg (show ¬ (100000 + i ∈ ([] : List Nat) ∨ 200000 + i ∈ ([] : List Nat)) from men_nil)]
    rfl
  | y :: l, k, x, hq, hx => by
    have e0 : sg k = nI y := hq 0 (Nat.succ_pos _)
    have y0 := hx y (List.mem_cons_self ..)
    have ih := mvB_men (sg := sg) (bit := bit) hi l (k + 1) (x ||| (if sg k = nI (100000 + i) ∨ sg k = nI (200000 + i) then bit else 0)) (fun q hl => by
      have := hq (q + 1) (Nat.succ_lt_succ hl)
      rw [show k + 1 + q = k + (q + 1) by omega]
      exact this) (fun z hz => hx z (List.mem_cons_of_mem _ hz))
    show mvB sg i bit l.length (k + 1) (x ||| (if sg k = nI (100000 + i) ∨ sg k = nI (200000 + i) then bit else 0)) = _
    rw [ih, e0]
    by_cases hy : y = 100000 + i ∨ y = 200000 + i
    · have hc : nI y = nI (100000 + i) ∨ nI y = nI (200000 + i) := by
        rcases hy with z | z
        · exact Or.inl (by rw [z])
        · exact Or.inr (by rw [z])
      have hm : 100000 + i ∈ y :: l ∨ 200000 + i ∈ y :: l := by
        rcases hy with z | z
        · exact Or.inl (by rw [z]; exact List.mem_cons_self ..)
        · exact Or.inr (by rw [z]; exact List.mem_cons_self ..)
      rw [if_pos hm, if_pos hc]
      by_cases hl : 100000 + i ∈ l ∨ 200000 + i ∈ l
      · rw [if_pos hl, Int32.or_assoc, Int32.or_self]
      · rw [if_neg hl]
    · have hc : ¬ (nI y = nI (100000 + i) ∨ nI y = nI (200000 + i)) := fun z => hy (by
        rcases z with z | z
        · exact Or.inl ((nI_eq (by omega) (by omega)).mp z)
        · exact Or.inr ((nI_eq (by omega) (by omega)).mp z))
      rw [if_neg hc, Int32.or_zero]
      by_cases hl : 100000 + i ∈ l ∨ 200000 + i ∈ l
      · have hm : 100000 + i ∈ y :: l ∨ 200000 + i ∈ y :: l := by
          rcases hl with z | z
          · exact Or.inl (List.mem_cons_of_mem _ z)
          · exact Or.inr (List.mem_cons_of_mem _ z)
        rw [if_pos hl, if_pos hm]
      · have hm : ¬ (100000 + i ∈ y :: l ∨ 200000 + i ∈ y :: l) := fun z => by
          rcases z with z | z
          · rcases List.mem_cons.mp z with w | w
            · exact hy (Or.inl w.symm)
            · exact hl (Or.inl w)
          · rcases List.mem_cons.mp z with w | w
            · exact hy (Or.inr w.symm)
            · exact hl (Or.inr w)
        rw [if_neg hl, if_neg hm]
theorem lay_mvT {ρ : Rho} {n c j i : Nat} {th sg : Nat → Int32} (v : VL ρ n c j) (h : Lay ρ n th sg) (hi : i < n) : ∀ b, b ≤ n → mvT th sg i b (mvI (ρ i)) = mvR ρ i b
  | 0, _ => rfl
  | b + 1, hb => by
    have i16 := v.1
    obtain ⟨-, -, -, -, -, -, h6, h7, -, h9⟩ := h b (by omega)
    obtain ⟨⟨-, -, -, -, c3, x4, -⟩, -, -⟩ := v.2.2.1 b (by omega)
    have s6 : sN (th (20 * b + 6)) = (ρ b).c := by rw [h6]; exact nI_clamp (by omega)
    have s7 : sN (th (20 * b + 7)) = (ρ b).c + (ρ b).s.length := by rw [h7]; exact nI_clamp (by omega)
    show mvB sg i (1 <<< nI b) (sN (th (20 * b + 7)) - sN (th (20 * b + 6))) (sN (th (20 * b + 6))) (mvT th sg i b (mvI (ρ i))) = (if 100000 + i ∈ (ρ b).s ∨ 200000 + i ∈ (ρ b).s then mvR ρ i b ||| (1 <<< nI b) else mvR ρ i b)
    rw [s6, s7, show (ρ b).c + (ρ b).s.length - (ρ b).c = (ρ b).s.length by omega, mvB_men (by omega) _ _ _ h9 x4, lay_mvT v h hi b (by omega)]
theorem lay_mvd {ρ : Rho} {n c j i : Nat} {th sg : Nat → Int32} (v : VL ρ n c j) (h : Lay ρ n th sg) (hi : i < n) : mvd n th sg i = mvR ρ i n := by
  obtain ⟨h0, -, -, -, h4, h5, -⟩ := h i hi
  have k6 := (v.2.2.1 i hi).1.1.2
  unfold mvd
  rw [h0, h4, h5, ← lay_mvT v h hi n (Nat.le_refl _)]
  congr 1
  unfold mvI
  by_cases k3 : (ρ i).kd = 3
  · rw [if_pos k3, if_pos (by rw [k3]; rfl)]
  · rw [if_neg k3, if_neg (show ¬ nI (ρ i).kd = 3 from fun z => k3 ((nI_eq (b := 3) (by omega) (by omega)).mp z))]
theorem VL.c300 {ρ : Rho} {n c j : Nat} (v : VL ρ n c j) : c ≤ 300 := by
  by_cases h : c = 0
  · omega
  · obtain ⟨i, hi, h1, h2⟩ := v.2.2.2 (c - 1) (by omega)
    have := (v.2.2.1 i hi).1.2.2.2.2.1
    omega
theorem lay_CX {ρ : Rho} {n c j : Nat} {th sg : Nat → Int32} {T : Nat → Nat → Int32} {σ : Hp} (v : VL ρ n c j) (h : Lay ρ n th sg) (cl : CLs ρ n c [] σ) (hT : ∀ a, a ≤ 12 → T a = σ.1 (17 + a)) : CX n th sg T := by
  obtain ⟨l1, l2, l3, -⟩ := cl
  have i16 := v.1
  refine ⟨by rw [hT 0 (by omega)]; exact l1, fun i hi => ?_, c, v.c300, by rw [hT 0 (by omega)]; exact l2, fun i hi => ?_, fun k hk => ?_⟩
  · obtain ⟨h0, h1, h2, h3, h4, h5, h6, h7, h8, h9⟩ := h i hi
    obtain ⟨a1, a2, a3, a4, a5, a6, a7, a8, a9, a10⟩ := l3 i hi
    obtain ⟨⟨⟨k1, k6⟩, -, -, -, -, -, -, -, -, -, d4⟩, -, -⟩ := v.2.2.1 i hi
    refine ⟨?_, ?_, ?_, ?_, ?_, ?_, ?_, fun z => ?_, fun z => ?_⟩
    · rw [hT 1 (by omega)]; exact a1.trans h0.symm
    · rw [hT 2 (by omega)]; exact a2.trans h1.symm
    · rw [hT 4 (by omega)]; exact a4.trans h4.symm
    · rw [hT 5 (by omega)]; exact a5.trans h5.symm
    · rw [hT 6 (by omega)]; exact a6.trans h6.symm
    · rw [hT 7 (by omega)]; exact a7.trans h7.symm
    · rw [hT 8 (by omega), lay_mvd v h hi]; exact a8.trans (if_neg (fun z => men_nil z))
    · have k4 : (ρ i).kd ≠ 4 := fun y => z (by rw [h0, y]; rfl)
      rw [hT 3 (by omega)]; exact (a3 k4).trans (h3 k4).symm
    · have k4 : (ρ i).kd = 4 := (nI_eq (b := 4) (by omega) (by omega)).mp (h0.symm.trans z)
      obtain ⟨b1, b2⟩ := a9 k4
      obtain ⟨g1, g2⟩ := h8 k4
      have := (d4 k4).2.1
      refine ⟨by rw [hT 9 (by omega)]; exact b1.trans g1.symm, fun k hk => ?_⟩
      rw [g1, sN_nI (by omega)] at hk
      rw [hT 10 (by omega), hT 11 (by omega)]
      exact ⟨(b2 k hk).1.trans (g2 k hk).1.symm, (b2 k hk).2.trans (g2 k hk).2.symm⟩
  · obtain ⟨-, -, -, -, -, -, -, h7, -⟩ := h i hi
    obtain ⟨⟨-, -, -, -, c3, -⟩, vc, -⟩ := v.2.2.1 i hi
    rw [h7, sN_nI (by omega)]
    exact vc
  · obtain ⟨i, hi, k1, k2⟩ := v.2.2.2 k hk
    obtain ⟨-, -, -, -, -, -, -, -, -, h9⟩ := h i hi
    obtain ⟨-, -, -, -, -, -, -, -, -, a10⟩ := l3 i hi
    obtain ⟨⟨-, -, -, -, c3, x4, -⟩, -, -⟩ := v.2.2.1 i hi
    have g := h9 (k - (ρ i).c) (by omega)
    have a := a10 (k - (ρ i).c) (by omega)
    rw [show (ρ i).c + (k - (ρ i).c) = k by omega] at g a
    have hl := getD_lt _ (k - (ρ i).c) _ x4 (by omega)
    rw [hT 12 (by omega), g, sN_nI (by omega)]
    exact a
/-- two that are laid so say the same -/
theorem lay_ag {ρ : Rho} {n c j : Nat} {th sg th' sg' : Nat → Int32} (v : VL ρ n c j) (h : Lay ρ n th sg) (h' : Lay ρ n th' sg') : AgT n th sg th' sg' := by
  intro i hi
  have i16 := v.1
  obtain ⟨h0, h1, h2, h3, h4, h5, h6, h7, h8, h9⟩ := h i hi
  obtain ⟨g0, g1, g2, g3, g4, g5, g6, g7, g8, g9⟩ := h' i hi
  obtain ⟨⟨⟨k1, k6⟩, -, -, -, c3, -, -, -, -, -, d4⟩, -, -⟩ := v.2.2.1 i hi
  refine ⟨fun w hw => ?_, fun z k hk => ?_, fun k a1 a2 => ?_⟩
  · match w, hw with
    | 0, _ => exact g0.trans h0.symm
    | 1, _ => exact g1.trans h1.symm
    | 2, _ => exact g2.trans h2.symm
    | 3, _ =>
      by_cases k4 : (ρ i).kd = 4
      · exact (g8 k4).1.trans (h8 k4).1.symm
      · exact (g3 k4).trans (h3 k4).symm
    | 4, _ => exact g4.trans h4.symm
    | 5, _ => exact g5.trans h5.symm
    | 6, _ => exact g6.trans h6.symm
    | 7, _ => exact g7.trans h7.symm
    | w + 8, hw => exact absurd hw (by omega)
  · have k4 : (ρ i).kd = 4 := (nI_eq (b := 4) (by omega) (by omega)).mp (h0.symm.trans z)
    have := (d4 k4).2.1
    rw [(h8 k4).1, sN_nI (by omega)] at hk
    exact ⟨((g8 k4).2 k hk).1.trans ((h8 k4).2 k hk).1.symm, ((g8 k4).2 k hk).2.trans ((h8 k4).2 k hk).2.symm⟩
  · rw [h6, sN_nI (by omega)] at a1
    rw [h7, sN_nI (by omega)] at a2
    have e1 := h9 (k - (ρ i).c) (by omega)
    have e2 := g9 (k - (ρ i).c) (by omega)
    rw [show (ρ i).c + (k - (ρ i).c) = k by omega] at e1 e2
    exact e2.trans e1.symm
/-! one that is laid so -/
def thR (ρ : Rho) (x : Nat) : Int32 :=
  if x % 20 = 0 then nI (ρ (x / 20)).kd else if x % 20 = 1 then nI (ρ (x / 20)).nm else if x % 20 = 2 then nI (ρ (x / 20)).lg else if x % 20 = 3 then (if (ρ (x / 20)).kd = 4 then nI (ρ (x / 20)).cs.length else nI (ρ (x / 20)).fi) else if x % 20 = 4 then eI (ρ (x / 20)).fr else if x % 20 = 5 then eI (ρ (x / 20)).to else if x % 20 = 6 then nI (ρ (x / 20)).c else if x % 20 = 7 then nI ((ρ (x / 20)).c + (ρ (x / 20)).s.length)
  else if x % 2 = 0 then nI ((ρ (x / 20)).cs.getD ((x % 20 - 8) / 2) (0, 0)).1 else nI ((ρ (x / 20)).cs.getD ((x % 20 - 9) / 2) (0, 0)).2
def SgL (ρ : Rho) (n : Nat) (sg : Nat → Int32) : Prop := ∀ i, i < n → ∀ q, q < (ρ i).s.length → sg ((ρ i).c + q) = nI ((ρ i).s.getD q 0)
theorem thR_lay {ρ : Rho} {n c j : Nat} {sg : Nat → Int32} (v : VL ρ n c j) (h : SgL ρ n sg) : Lay ρ n (thR ρ) sg := by
  intro i hi
  have dv : ∀ w, w < 20 → (20 * i + w) / 20 = i := fun w hw => by omega
  have md : ∀ w, w < 20 → (20 * i + w) % 20 = w := fun w hw => by omega
  have d0 : 20 * i / 20 = i := by omega
  have m0 : 20 * i % 20 = 0 := by omega
  refine ⟨?_, ?_, ?_, fun z => ?_, ?_, ?_, ?_, ?_, fun z => ⟨?_, fun k hk => ⟨?_, ?_⟩⟩, h i hi⟩
  · unfold thR; rw [d0, m0]; rfl
  · unfold thR; rw [dv 1 (by omega), md 1 (by omega)]; rfl
  · unfold thR; rw [dv 2 (by omega), md 2 (by omega)]; rfl
  · unfold thR; rw [dv 3 (by omega), md 3 (by omega), if_neg z]; rfl
  · unfold thR; rw [dv 4 (by omega), md 4 (by omega)]; rfl
  · unfold thR; rw [dv 5 (by omega), md 5 (by omega)]; rfl
  · unfold thR; rw [dv 6 (by omega), md 6 (by omega)]; rfl
  · unfold thR; rw [dv 7 (by omega), md 7 (by omega)]; rfl
  · unfold thR; rw [dv 3 (by omega), md 3 (by omega), if_pos z]; rfl
  · have := ((v.2.2.1 i hi).1.2.2.2.2.2.2.2.2.2.2 z).2.1
    have hk6 : k < 6 := by omega
    unfold thR
    rw [show 20 * i + 8 + 2 * k = 20 * i + (8 + 2 * k) by omega, dv (8 + 2 * k) (by omega), md (8 + 2 * k) (by omega), if_neg (by omega), if_neg (by omega), if_neg (by omega), if_neg (by omega), if_neg (by omega), if_neg (by omega), if_neg (by omega), if_neg (by omega), if_pos (by omega), show (8 + 2 * k - 8) / 2 = k by omega]
  · have := ((v.2.2.1 i hi).1.2.2.2.2.2.2.2.2.2.2 z).2.1
    have hk6 : k < 6 := by omega
    unfold thR
    rw [show 20 * i + 9 + 2 * k = 20 * i + (9 + 2 * k) by omega, dv (9 + 2 * k) (by omega), md (9 + 2 * k) (by omega), if_neg (by omega), if_neg (by omega), if_neg (by omega), if_neg (by omega), if_neg (by omega), if_neg (by omega), if_neg (by omega), if_neg (by omega), if_neg (by omega), show (9 + 2 * k - 9) / 2 = k by omega]
theorem SgL.suc {ρ : Rho} {n c j : Nat} {sg : Nat → Int32} {r : RcT} (v : VL ρ n c j) (h4 : r.c = c) (h : SgL ρ n sg) : SgL (updR ρ n r) (n + 1) (fun k => if k < c then sg k else nI (r.s.getD (k - c) 0)) := by
  intro i hi q hq
  by_cases e : i = n
  · have en : updR ρ n r i = r := if_pos e
    rw [en] at hq ⊢
    rw [h4]
    show (if c + q < c then _ else nI (r.s.getD (c + q - c) 0)) = _
    rw [if_neg (by omega), show c + q - c = q by omega]
  · have en : updR ρ n r i = ρ i := if_neg e
    rw [en] at hq ⊢
    have := (v.2.2.1 i (by omega)).2.1
    show (if (ρ i).c + q < c then sg ((ρ i).c + q) else _) = _
    rw [if_pos (by omega)]
    exact h i (by omega) q hq
theorem pAll_sg {b : Nat → Nat} {m : Nat} (hm : m ≤ 300) (hb : ∀ k, k < m → b k < 256) : ∀ (f n c j : Nat) (ρ : Rho), n + f = 16 → VL ρ n c j → (∃ sg, SgL ρ n sg) → ∀ n' ρ' c', pAll b m f ρ n c j = .ok (n', ρ', c') → ∃ sg, SgL ρ' n' sg := by
  intro f
  induction f with
  | zero =>
    intro n c j ρ hn v h n' ρ' c' hp
    unfold pAll at hp
    by_cases e : (tk b m j).1 = 0
    · rw [if_pos e] at hp
      injection hp with hp
      injection hp with p1 p2
      injection p2 with p2 p3
      rw [← p1, ← p2]; exact h
    · rw [if_neg e] at hp; cases hp
  | succ f ih =>
    intro n c j ρ hn v h n' ρ' c' hp
    unfold pAll at hp
    by_cases e : (tk b m j).1 = 0
    · rw [if_pos e] at hp
      injection hp with hp
      injection hp with p1 p2
      injection p2 with p2 p3
      rw [← p1, ← p2]; exact h
    · rw [if_neg e] at hp
      cases ht : pThing b m ρ n c j with
      | error x => rw [ht] at hp; cases hp
      | ok p =>
        obtain ⟨j', r⟩ := p
        rw [ht] at hp
        obtain ⟨p1, p2, p3, p4, p5, p6⟩ := pThing_ok hm hb (by omega) v.2.1 ht
        obtain ⟨sg, hs⟩ := h
        exact ih (n + 1) (c + r.s.length) j' (updR ρ n r) (by omega) (v.suc (by omega) p3 p4 p5 p6) ⟨_, hs.suc v p4⟩ n' ρ' c' hp
