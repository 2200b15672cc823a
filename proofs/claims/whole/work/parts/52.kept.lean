/-! ===== keep, back ===== -/
theorem CX.pt {n : Nat} {th sg : Nat → Int32} {T U : Nat → Nat → Int32} (tw : TW n th sg) (h : CX n th sg T) (h0 : U 0 0 = T 0 0) (h1 : U 0 1 = T 0 1) (h9 : ∀ j, 1 ≤ j → j ≤ 9 → ∀ i, i < 16 → U j i = T j i) (h11 : ∀ j, 10 ≤ j → j ≤ 11 → ∀ k, k < 96 → U j k = T j k) (h12 : ∀ k, k < sN (T 0 1) → U 12 k = T 12 k) : CX n th sg U := by
  have h16 := tw.1
  obtain ⟨a1, a2, z, b1, b2, b3, b4⟩ := h
  refine ⟨h0.trans a1, fun i hi => ?_, z, b1, h1.trans b2, b3, fun k hk => by rw [h12 k (by rw [b2, sN_nI (by omega)]; exact hk)]; exact b4 k hk⟩
  obtain ⟨c1, c2, c3, c4, c5, c6, c7, c8, c9⟩ := a2 i hi
  refine ⟨by rw [h9 1 (by omega) (by omega) i (by omega)]; exact c1, by rw [h9 2 (by omega) (by omega) i (by omega)]; exact c2, by rw [h9 4 (by omega) (by omega) i (by omega)]; exact c3, by rw [h9 5 (by omega) (by omega) i (by omega)]; exact c4, by rw [h9 6 (by omega) (by omega) i (by omega)]; exact c5, by rw [h9 7 (by omega) (by omega) i (by omega)]; exact c6, by rw [h9 8 (by omega) (by omega) i (by omega)]; exact c7, fun e => by rw [h9 3 (by omega) (by omega) i (by omega)]; exact c8 e, fun e => ⟨by rw [h9 9 (by omega) (by omega) i (by omega)]; exact (c9 e).1, fun k hk => ?_⟩⟩
  obtain ⟨c, ok⟩ := tw.tab hi e
  have hk' : k < c := by rw [ok.1, sN_nI (by have := ok.2.2.1; omega)] at hk; exact hk
  have c6 := ok.2.2.1
  rw [h11 10 (by omega) (by omega) _ (by omega), h11 11 (by omega) (by omega) _ (by omega)]
  exact (c9 e).2 k hk
def TkT (t z : Nat) (σ τ : Hp) : Prop := (∀ c, c < t ∨ t + 12 < c → τ.1 c = σ.1 c) ∧ τ.2 = σ.2 ∧ τ.1 t 0 = σ.1 z 0 ∧ τ.1 t 1 = σ.1 z 1 ∧ (∀ j, 1 ≤ j → j ≤ 9 → ∀ i, i < 16 → τ.1 (t + j) i = σ.1 (z + j) i) ∧ (∀ j, 10 ≤ j → j ≤ 11 → ∀ k, k < 96 → τ.1 (t + j) k = σ.1 (z + j) k) ∧ ∀ k, k < sN (σ.1 z 1) → τ.1 (t + 12) k = σ.1 (z + 12) k
set_option maxHeartbeats 2000000 in
theorem p_ttake {d : Nat} {K : Po} {σ : Hp} {t z m : Nat} (hs : (t = 31 ∧ z = 3) ∨ (t = 3 ∧ z = 31)) (hm : σ.1 z 1 = nI m) (hm3 : m ≤ 300) (q : ∀ τ : Hp, TkT t z σ τ → K none τ) : CTs (d + 1) y_Tx_take [.ref t, .ref z] σ K := by
  have c300 : ¬ σ.1 z 1 < 0 ∧ (0 : Int32).toNatClampNeg + (σ.1 z 1).toNatClampNeg ≤ 300 := by
    rw [hm, nI_clamp (by omega)]
    exact ⟨nI_pos (by omega), by show 0 + m ≤ 300; omega⟩
  refine e_Tx_take hs (t_Tx_take_0 hs ⟨by decide, by decide, by decide, by decide, by decide, by decide, by decide, by decide, by decide, by decide +kernel, by decide +kernel, ⟨by decide, by decide, c300.1, c300.2, c300.2⟩, q _ ?_⟩)
  have n1 : ∀ a b, a ≠ b → t + a ≠ t + b := fun a b h => by omega
  refine ⟨fun c hc => ?_, rfl, ?_, ?_, fun j h1 h2 i hi => ?_, fun j h1 h2 k hk => ?_, fun k hk => ?_⟩
  · rw [sC_r, if_neg (by omega), sC_r, if_neg (by omega), sC_r, if_neg (by omega), sC_r, if_neg (by omega), sC_r, if_neg (by omega), sC_r, if_neg (by omega), sC_r, if_neg (by omega), sC_r, if_neg (by omega), sC_r, if_neg (by omega), sC_r, if_neg (by omega), sC_r, if_neg (by omega), sC_r, if_neg (by omega), sI_r, if_neg (by omega), sI_r, if_neg (by omega)]
  · rw [sC_r, if_neg (by omega), sC_r, if_neg (by omega), sC_r, if_neg (by omega), sC_r, if_neg (by omega), sC_r, if_neg (by omega), sC_r, if_neg (by omega), sC_r, if_neg (by omega), sC_r, if_neg (by omega), sC_r, if_neg (by omega), sC_r, if_neg (by omega), sC_r, if_neg (by omega), sC_r, if_neg (by omega), sI_r, if_pos rfl, upd_r, if_neg (by decide), sI_r, if_pos rfl, pk_us]
  · rw [sC_r, if_neg (by omega), sC_r, if_neg (by omega), sC_r, if_neg (by omega), sC_r, if_neg (by omega), sC_r, if_neg (by omega), sC_r, if_neg (by omega), sC_r, if_neg (by omega), sC_r, if_neg (by omega), sC_r, if_neg (by omega), sC_r, if_neg (by omega), sC_r, if_neg (by omega), sC_r, if_neg (by omega), sI_r, if_pos rfl, pk_us]
  · obtain rfl | rfl | rfl | rfl | rfl | rfl | rfl | rfl | rfl : j = 1 ∨ j = 2 ∨ j = 3 ∨ j = 4 ∨ j = 5 ∨ j = 6 ∨ j = 7 ∨ j = 8 ∨ j = 9 := by omega
    · rw [sC_r, if_neg (by omega), sC_r, if_neg (by omega), sC_r, if_neg (by omega), sC_r, if_neg (by omega), sC_r, if_neg (by omega), sC_r, if_neg (by omega), sC_r, if_neg (by omega), sC_r, if_neg (by omega), sC_r, if_neg (by omega), sC_r, if_neg (by omega), sC_r, if_neg (by omega), sC_r, if_pos rfl]; exact cpy0 (N := 16) hi
    · rw [sC_r, if_neg (by omega), sC_r, if_neg (by omega), sC_r, if_neg (by omega), sC_r, if_neg (by omega), sC_r, if_neg (by omega), sC_r, if_neg (by omega), sC_r, if_neg (by omega), sC_r, if_neg (by omega), sC_r, if_neg (by omega), sC_r, if_neg (by omega), sC_r, if_pos rfl]; exact cpy0 (N := 16) hi
    · rw [sC_r, if_neg (by omega), sC_r, if_neg (by omega), sC_r, if_neg (by omega), sC_r, if_neg (by omega), sC_r, if_neg (by omega), sC_r, if_neg (by omega), sC_r, if_neg (by omega), sC_r, if_neg (by omega), sC_r, if_neg (by omega), sC_r, if_pos rfl]; exact cpy0 (N := 16) hi
    · rw [sC_r, if_neg (by omega), sC_r, if_neg (by omega), sC_r, if_neg (by omega), sC_r, if_neg (by omega), sC_r, if_neg (by omega), sC_r, if_neg (by omega), sC_r, if_neg (by omega), sC_r, if_neg (by omega), sC_r, if_pos rfl]; exact cpy0 (N := 16) hi
    · rw [sC_r, if_neg (by omega), sC_r, if_neg (by omega), sC_r, if_neg (by omega), sC_r, if_neg (by omega), sC_r, if_neg (by omega), sC_r, if_neg (by omega), sC_r, if_neg (by omega), sC_r, if_pos rfl]; exact cpy0 (N := 16) hi
    · rw [sC_r, if_neg (by omega), sC_r, if_neg (by omega), sC_r, if_neg (by omega), sC_r, if_neg (by omega), sC_r, if_neg (by omega), sC_r, if_neg (by omega), sC_r, if_pos rfl]; exact cpy0 (N := 16) hi
    · rw [sC_r, if_neg (by omega), sC_r, if_neg (by omega), sC_r, if_neg (by omega), sC_r, if_neg (by omega), sC_r, if_neg (by omega), sC_r, if_pos rfl]; exact cpy0 (N := 16) hi
    · rw [sC_r, if_neg (by omega), sC_r, if_neg (by omega), sC_r, if_neg (by omega), sC_r, if_neg (by omega), sC_r, if_pos rfl]; exact cpy0 (N := 16) hi
    · rw [sC_r, if_neg (by omega), sC_r, if_neg (by omega), sC_r, if_neg (by omega), sC_r, if_pos rfl]; exact cpy0 (N := 16) hi
  · have e96 : (Int32.ofNat 96).toNatClampNeg = 96 := by decide +kernel
    obtain rfl | rfl : j = 10 ∨ j = 11 := by omega
    · rw [sC_r, if_neg (by omega), sC_r, if_neg (by omega), sC_r, if_pos rfl, cl16.2.2.1, e96]; exact cpy0 hk
    · rw [sC_r, if_neg (by omega), sC_r, if_pos rfl, cl16.2.2.1, e96]; exact cpy0 hk
  · rw [sC_r, if_pos rfl, cl16.2.2.1]; exact cpy0 hk
/-- the model moves a row out, or in -/
def MvF (σ τ : Hp) (b : Nat) : Prop := τ.2 = σ.2 ∧ (∀ x, x ≠ 58 → τ.1 98 x = σ.1 98 x) ∧ τ.1 98 58 = nI b
theorem p_moveK {d : Nat} {K : Po} {σ : Hp} {p N b : Nat} (hs : (p = 127) ∨ (p = 99) ∨ (p = 100) ∨ (p = 105) ∨ (p = 106) ∨ (p = 107) ∨ (p = 108)) (hN : N ≤ ln p) (hb : b + N ≤ 1800) (hb0 : σ.1 98 58 = nI b) (q : ∀ τ : Hp, MvF σ τ (b + N) → (∀ c, c ≠ 98 → c ≠ 126 → τ.1 c = σ.1 c) → (∀ k, τ.1 126 k = if b ≤ k ∧ k < b + N then σ.1 p (k - b) else σ.1 126 k) → K none τ) : CTs (d + 1) y_M_move [.ref 98, .ref p, .int (nI N), .int 1] σ K := by
  have hln : ln p < 2 ^ 31 := by rcases hs with rfl | rfl | rfl | rfl | rfl | rfl | rfl <;> decide
  refine e_M_move hs (t_M_move_0 hs ?_)
  have key : ∀ (c k : Nat) (τ : Hp), k + c = N → MvF σ τ (b + k) → (∀ c, c ≠ 98 → c ≠ 126 → τ.1 c = σ.1 c) → (∀ j, τ.1 126 j = if b ≤ j ∧ j < b + k then σ.1 p (j - b) else σ.1 126 j) → WP c_M_move (CTs d) K (3, [(0, .ref 98), (1, .ref p), (2, .int (nI N)), (3, .int 1), (4, .int (nI k))], []) τ := by
    intro c
    induction c with
    | zero =>
      intro k τ hk f t1 tr
      have ek : k = N := by omega
      rw [ek] at f tr ⊢
      exact t_M_move_3 hs (ifp (Int32.le_refl _) (q τ f t1 tr))
    | succ c ih =>
      intro k τ hk f t1 tr
      refine t_M_move_3 hs ?_
      rw [f.2.2, nI_1, nI_1, nI_clamp (n := b + k) (by omega), nI_clamp (n := k) (by omega), t1 p (by omega) (by omega)]
      refine ifn (nI_ge (by omega) (by omega)) (ifn (by decide) ⟨vp_in_nI (by omega) (by omega), vp_in_nI (by omega) (by omega), ih (k + 1) _ (by omega) ⟨f.1, fun x hx => by rw [sI_r, if_pos rfl, upd_r, if_neg hx, sI_r, if_neg (by decide)]; exact f.2.1 x hx, by rw [sI_r, if_pos rfl, pk_us]; rfl⟩ (fun c h1 h2 => by rw [sI_r, if_neg h1, sI_r, if_neg h2]; exact t1 c h1 h2) (fun j => ?_)⟩)
      rw [sI_r, if_neg (by decide), sI_r, if_pos rfl, upd_r, tr j]
      by_cases e : j = b + k
      · rw [if_pos e, if_pos (by omega), e, show b + k - b = k by omega]
      · rw [if_neg e]
        by_cases h : b ≤ j ∧ j < b + k
        · rw [if_pos h, if_pos ⟨h.1, by omega⟩]
        · rw [if_neg h, if_neg (fun z => h ⟨z.1, by omega⟩)]
  exact key N 0 σ (by omega) ⟨rfl, fun _ _ => rfl, hb0⟩ (fun _ _ _ => rfl) (fun j => by rw [if_neg (by omega)])
theorem p_moveB {d : Nat} {K : Po} {σ : Hp} {p N b : Nat} (hs : (p = 127) ∨ (p = 99) ∨ (p = 100) ∨ (p = 105) ∨ (p = 106) ∨ (p = 107) ∨ (p = 108)) (hN : N ≤ ln p) (hN31 : N < 2 ^ 30) (hb : b + N ≤ 1800) (hb0 : σ.1 98 58 = nI b) (q : ∀ τ : Hp, MvF σ τ (b + N) → (∀ c, c ≠ 98 → c ≠ p → τ.1 c = σ.1 c) → (∀ k, τ.1 p k = if k < N then σ.1 126 (b + k) else σ.1 p k) → K none τ) : CTs (d + 1) y_M_move [.ref 98, .ref p, .int (nI N), .int 0] σ K := by
  have hln : ln p < 2 ^ 31 := by rcases hs with rfl | rfl | rfl | rfl | rfl | rfl | rfl <;> decide
  refine e_M_move hs (t_M_move_0 hs ?_)
  have key : ∀ (c k : Nat) (τ : Hp), k + c = N → MvF σ τ (b + k) → (∀ c, c ≠ 98 → c ≠ p → τ.1 c = σ.1 c) → (∀ j, τ.1 p j = if j < k then σ.1 126 (b + j) else σ.1 p j) → WP c_M_move (CTs d) K (3, [(0, .ref 98), (1, .ref p), (2, .int (nI N)), (3, .int 0), (4, .int (nI k))], []) τ := by
    intro c
    induction c with
    | zero =>
      intro k τ hk f t1 tr
      have ek : k = N := by omega
      rw [ek] at f tr ⊢
      exact t_M_move_3 hs (ifp (Int32.le_refl _) (q τ f t1 tr))
    | succ c ih =>
      intro k τ hk f t1 tr
      refine t_M_move_3 hs ?_
      rw [f.2.2, nI_1, nI_1, nI_clamp (n := b + k) (by omega), nI_clamp (n := k) (by omega), t1 126 (by decide) (by omega)]
      refine ifn (nI_ge (by omega) (by omega)) (ifp rfl ⟨vp_in_nI (by omega) (by omega), vp_in_nI (by omega) (by omega), ih (k + 1) _ (by omega) ⟨f.1, fun x hx => by rw [sI_r, if_pos rfl, upd_r, if_neg hx, sI_r, if_neg (by omega)]; exact f.2.1 x hx, by rw [sI_r, if_pos rfl, pk_us]; rfl⟩ (fun c h1 h2 => by rw [sI_r, if_neg h1, sI_r, if_neg h2]; exact t1 c h1 h2) (fun j => ?_)⟩)
      rw [sI_r, if_neg (by omega), sI_r, if_pos rfl, upd_r, tr j]
      by_cases e : j = k
      · rw [if_pos e, if_pos (by omega), e]
      · rw [if_neg e]
        by_cases h : j < k
        · rw [if_pos h, if_pos (by omega)]
        · rw [if_neg h, if_neg (by omega)]
  exact key N 0 σ (by omega) ⟨rfl, fun _ _ => rfl, hb0⟩ (fun _ _ _ => rfl) (fun j => by rw [if_neg (by omega)])
theorem ln_mv : ln 127 = 3 ∧ ln 99 = 320 ∧ ln 100 = 300 ∧ ln 105 = 16 ∧ ln 106 = 160 ∧ ln 107 = 18 ∧ ln 108 = 960 := by decide
set_option maxHeartbeats 2000000 in
theorem p_keepAll {d : Nat} {K : Po} {σ : Hp} (q : ∀ τ : Hp, τ.2 = σ.2 → (∀ c, c ≠ 98 → c ≠ 126 → c ≠ 127 → τ.1 c = σ.1 c) → (∀ x, x ≠ 58 → τ.1 98 x = σ.1 98 x) → τ.1 126 0 = σ.1 98 0 → τ.1 126 1 = σ.1 98 19 → τ.1 126 2 = σ.1 98 25 → Ag 320 (σ.1 99) (fun k => τ.1 126 (3 + k)) → Ag 300 (σ.1 100) (fun k => τ.1 126 (323 + k)) → Ag 16 (σ.1 105) (fun k => τ.1 126 (623 + k)) → Ag 160 (σ.1 106) (fun k => τ.1 126 (639 + k)) → Ag 18 (σ.1 107) (fun k => τ.1 126 (799 + k)) → Ag 960 (σ.1 108) (fun k => τ.1 126 (817 + k)) → K none τ) : CTs (d + 2) y_M_moveAll [.ref 98, .int 1] σ K := by
  obtain ⟨n1, n2, n3, n4, n5, n6, n7⟩ := ln_mv
  refine e_M_moveAll (t_M_moveAll_0 ⟨vp_in_nI (n := 0) (by omega) (by omega), vp_in_nI (n := 1) (by omega) (by omega), vp_in_nI (n := 2) (by omega) (by omega), ?_⟩)
  generalize h0 : sI (sI (sI (sI σ 98 58 (0 : Int32)) 127 (0 : Int32).toNatClampNeg (σ.1 98 0)) 127 (1 : Int32).toNatClampNeg (σ.1 98 19)) 127 (2 : Int32).toNatClampNeg (σ.1 98 25) = s0
  have o0 : ∀ c, c ≠ 98 → c ≠ 127 → s0.1 c = σ.1 c := fun c h1 h2 => by rw [← h0, sI_r, if_neg h2, sI_r, if_neg h2, sI_r, if_neg h2, sI_r, if_neg h1]
  have x0 : ∀ x, s0.1 98 x = if x = 58 then 0 else σ.1 98 x := fun x => by rw [← h0, sI_r, if_neg (by decide), sI_r, if_neg (by decide), sI_r, if_neg (by decide), sI_r, if_pos rfl, upd_r]
  have y0 : s0.1 127 0 = σ.1 98 0 ∧ s0.1 127 1 = σ.1 98 19 ∧ s0.1 127 2 = σ.1 98 25 := by
    rw [← h0]
    refine ⟨?_, ?_, ?_⟩
    · rw [sI_r, if_pos rfl, upd_r, if_neg (by decide), sI_r, if_pos rfl, upd_r, if_neg (by decide), sI_r, if_pos rfl, upd_r, if_pos (by decide)]
    · rw [sI_r, if_pos rfl, upd_r, if_neg (by decide), sI_r, if_pos rfl, upd_r, if_pos (by decide)]
    · rw [sI_r, if_pos rfl, upd_r, if_pos (by decide)]
  refine p_moveK (N := 3) (b := 0) (Or.inl rfl) (by omega) (by omega) (by rw [x0, if_pos rfl]; rfl) (fun s1 f1 c1 r1 => ?_)
  refine p_moveK (N := 320) (b := 3) (Or.inr (Or.inl rfl)) (by omega) (by omega) f1.2.2 (fun s2 f2 c2 r2 => ?_)
  refine p_moveK (N := 300) (b := 323) (Or.inr (Or.inr (Or.inl rfl))) (by omega) (by omega) f2.2.2 (fun s3 f3 c3 r3 => ?_)
  refine p_moveK (N := 16) (b := 623) (Or.inr (Or.inr (Or.inr (Or.inl rfl)))) (by omega) (by omega) f3.2.2 (fun s4 f4 c4 r4 => ?_)
  refine p_moveK (N := 160) (b := 639) (Or.inr (Or.inr (Or.inr (Or.inr (Or.inl rfl))))) (by omega) (by omega) f4.2.2 (fun s5 f5 c5 r5 => ?_)
  refine p_moveK (N := 18) (b := 799) (Or.inr (Or.inr (Or.inr (Or.inr (Or.inr (Or.inl rfl)))))) (by omega) (by omega) f5.2.2 (fun s6 f6 c6 r6 => ?_)
  refine p_moveK (N := 960) (b := 817) (Or.inr (Or.inr (Or.inr (Or.inr (Or.inr (Or.inr rfl)))))) (by omega) (by omega) f6.2.2 (fun s7 f7 c7 r7 => ?_)
  refine q s7 (by rw [f7.1, f6.1, f5.1, f4.1, f3.1, f2.1, f1.1, ← h0]; rfl) (fun c h1 h2 h3 => by rw [c7 c h1 h2, c6 c h1 h2, c5 c h1 h2, c4 c h1 h2, c3 c h1 h2, c2 c h1 h2, c1 c h1 h2, o0 c h1 h3]) (fun x hx => by rw [f7.2.1 x hx, f6.2.1 x hx, f5.2.1 x hx, f4.2.1 x hx, f3.2.1 x hx, f2.2.1 x hx, f1.2.1 x hx, x0, if_neg hx]) ?_ ?_ ?_ (fun k hk => ?_) (fun k hk => ?_) (fun k hk => ?_) (fun k hk => ?_) (fun k hk => ?_) (fun k hk => ?_)
  · rw [r7, if_neg (by omega), r6, if_neg (by omega), r5, if_neg (by omega), r4, if_neg (by omega), r3, if_neg (by omega), r2, if_neg (by omega), r1, if_pos (by omega)]; exact y0.1
  · rw [r7, if_neg (by omega), r6, if_neg (by omega), r5, if_neg (by omega), r4, if_neg (by omega), r3, if_neg (by omega), r2, if_neg (by omega), r1, if_pos (by omega)]; exact y0.2.1
  · rw [r7, if_neg (by omega), r6, if_neg (by omega), r5, if_neg (by omega), r4, if_neg (by omega), r3, if_neg (by omega), r2, if_neg (by omega), r1, if_pos (by omega)]; exact y0.2.2
  · show s7.1 126 (3 + k) = _
    rw [r7, if_neg (by omega), r6, if_neg (by omega), r5, if_neg (by omega), r4, if_neg (by omega), r3, if_neg (by omega), r2, if_pos (by omega), show 3 + k - 3 = k by omega, c1 99 (by decide) (by decide), o0 99 (by decide) (by decide)]
  · show s7.1 126 (323 + k) = _
    rw [r7, if_neg (by omega), r6, if_neg (by omega), r5, if_neg (by omega), r4, if_neg (by omega), r3, if_pos (by omega), show 323 + k - 323 = k by omega, c2 100 (by decide) (by decide), c1 100 (by decide) (by decide), o0 100 (by decide) (by decide)]
  · show s7.1 126 (623 + k) = _
    rw [r7, if_neg (by omega), r6, if_neg (by omega), r5, if_neg (by omega), r4, if_pos (by omega), show 623 + k - 623 = k by omega, c3 105 (by decide) (by decide), c2 105 (by decide) (by decide), c1 105 (by decide) (by decide), o0 105 (by decide) (by decide)]
  · show s7.1 126 (639 + k) = _
    rw [r7, if_neg (by omega), r6, if_neg (by omega), r5, if_pos (by omega), show 639 + k - 639 = k by omega, c4 106 (by decide) (by decide), c3 106 (by decide) (by decide), c2 106 (by decide) (by decide), c1 106 (by decide) (by decide), o0 106 (by decide) (by decide)]
  · show s7.1 126 (799 + k) = _
    rw [r7, if_neg (by omega), r6, if_pos (by omega), show 799 + k - 799 = k by omega, c5 107 (by decide) (by decide), c4 107 (by decide) (by decide), c3 107 (by decide) (by decide), c2 107 (by decide) (by decide), c1 107 (by decide) (by decide), o0 107 (by decide) (by decide)]
  · show s7.1 126 (817 + k) = _
    rw [r7, if_pos (by omega), show 817 + k - 817 = k by omega, c6 108 (by decide) (by decide), c5 108 (by decide) (by decide), c4 108 (by decide) (by decide), c3 108 (by decide) (by decide), c2 108 (by decide) (by decide), c1 108 (by decide) (by decide), o0 108 (by decide) (by decide)]
set_option maxHeartbeats 2000000 in
theorem p_backAll {d : Nat} {K : Po} {σ : Hp} (q : ∀ τ : Hp, τ.2 = σ.2 → (∀ c, c < 98 ∨ c = 101 ∨ 109 ≤ c ∧ c ≤ 126 → τ.1 c = σ.1 c) → (∀ x, x ≠ 58 → τ.1 98 x = σ.1 98 x) → τ.1 127 0 = σ.1 126 0 → τ.1 127 1 = σ.1 126 1 → τ.1 127 2 = σ.1 126 2 → Ag 320 (fun k => σ.1 126 (3 + k)) (τ.1 99) → Ag 300 (fun k => σ.1 126 (323 + k)) (τ.1 100) → Ag 16 (fun k => σ.1 126 (623 + k)) (τ.1 105) → Ag 160 (fun k => σ.1 126 (639 + k)) (τ.1 106) → Ag 18 (fun k => σ.1 126 (799 + k)) (τ.1 107) → Ag 960 (fun k => σ.1 126 (817 + k)) (τ.1 108) → K none τ) : CTs (d + 2) y_M_moveAll [.ref 98, .int 0] σ K := by
  obtain ⟨n1, n2, n3, n4, n5, n6, n7⟩ := ln_mv
  refine e_M_moveAll (t_M_moveAll_0 ⟨vp_in_nI (n := 0) (by omega) (by omega), vp_in_nI (n := 1) (by omega) (by omega), vp_in_nI (n := 2) (by omega) (by omega), ?_⟩)
  generalize h0 : sI (sI (sI (sI σ 98 58 (0 : Int32)) 127 (0 : Int32).toNatClampNeg (σ.1 98 0)) 127 (1 : Int32).toNatClampNeg (σ.1 98 19)) 127 (2 : Int32).toNatClampNeg (σ.1 98 25) = s0
  have o0 : ∀ c, c ≠ 98 → c ≠ 127 → s0.1 c = σ.1 c := fun c h1 h2 => by rw [← h0, sI_r, if_neg h2, sI_r, if_neg h2, sI_r, if_neg h2, sI_r, if_neg h1]
  have x0 : ∀ x, s0.1 98 x = if x = 58 then 0 else σ.1 98 x := fun x => by rw [← h0, sI_r, if_neg (by decide), sI_r, if_neg (by decide), sI_r, if_neg (by decide), sI_r, if_pos rfl, upd_r]
  refine p_moveB (N := 3) (b := 0) (Or.inl rfl) (by omega) (by omega) (by omega) (by rw [x0, if_pos rfl]; rfl) (fun s1 f1 c1 r1 => ?_)
  refine p_moveB (N := 320) (b := 3) (Or.inr (Or.inl rfl)) (by omega) (by omega) (by omega) f1.2.2 (fun s2 f2 c2 r2 => ?_)
  refine p_moveB (N := 300) (b := 323) (Or.inr (Or.inr (Or.inl rfl))) (by omega) (by omega) (by omega) f2.2.2 (fun s3 f3 c3 r3 => ?_)
  refine p_moveB (N := 16) (b := 623) (Or.inr (Or.inr (Or.inr (Or.inl rfl)))) (by omega) (by omega) (by omega) f3.2.2 (fun s4 f4 c4 r4 => ?_)
  refine p_moveB (N := 160) (b := 639) (Or.inr (Or.inr (Or.inr (Or.inr (Or.inl rfl))))) (by omega) (by omega) (by omega) f4.2.2 (fun s5 f5 c5 r5 => ?_)
  refine p_moveB (N := 18) (b := 799) (Or.inr (Or.inr (Or.inr (Or.inr (Or.inr (Or.inl rfl)))))) (by omega) (by omega) (by omega) f5.2.2 (fun s6 f6 c6 r6 => ?_)
  refine p_moveB (N := 960) (b := 817) (Or.inr (Or.inr (Or.inr (Or.inr (Or.inr (Or.inr rfl)))))) (by omega) (by omega) (by omega) f6.2.2 (fun s7 f7 c7 r7 => ?_)
  have a0 : s0.1 126 = σ.1 126 := o0 126 (by decide) (by decide)
  have a1 : s1.1 126 = σ.1 126 := (c1 126 (by decide) (by decide)).trans a0
  have a2 : s2.1 126 = σ.1 126 := (c2 126 (by decide) (by decide)).trans a1
  have a3 : s3.1 126 = σ.1 126 := (c3 126 (by decide) (by decide)).trans a2
  have a4 : s4.1 126 = σ.1 126 := (c4 126 (by decide) (by decide)).trans a3
  have a5 : s5.1 126 = σ.1 126 := (c5 126 (by decide) (by decide)).trans a4
  have a6 : s6.1 126 = σ.1 126 := (c6 126 (by decide) (by decide)).trans a5
  refine q s7 (by rw [f7.1, f6.1, f5.1, f4.1, f3.1, f2.1, f1.1, ← h0]; rfl) (fun c hc => by rw [c7 c (by omega) (by omega), c6 c (by omega) (by omega), c5 c (by omega) (by omega), c4 c (by omega) (by omega), c3 c (by omega) (by omega), c2 c (by omega) (by omega), c1 c (by omega) (by omega), o0 c (by omega) (by omega)]) (fun x hx => by rw [f7.2.1 x hx, f6.2.1 x hx, f5.2.1 x hx, f4.2.1 x hx, f3.2.1 x hx, f2.2.1 x hx, f1.2.1 x hx, x0, if_neg hx]) ?_ ?_ ?_ (fun k hk => ?_) (fun k hk => ?_) (fun k hk => ?_) (fun k hk => ?_) (fun k hk => ?_) (fun k hk => ?_)
  · rw [c7 127 (by decide) (by decide), c6 127 (by decide) (by decide), c5 127 (by decide) (by decide), c4 127 (by decide) (by decide), c3 127 (by decide) (by decide), c2 127 (by decide) (by decide), r1, if_pos (by omega), a0]
  · rw [c7 127 (by decide) (by decide), c6 127 (by decide) (by decide), c5 127 (by decide) (by decide), c4 127 (by decide) (by decide), c3 127 (by decide) (by decide), c2 127 (by decide) (by decide), r1, if_pos (by omega), a0]
  · rw [c7 127 (by decide) (by decide), c6 127 (by decide) (by decide), c5 127 (by decide) (by decide), c4 127 (by decide) (by decide), c3 127 (by decide) (by decide), c2 127 (by decide) (by decide), r1, if_pos (by omega), a0]
  · show s7.1 99 k = σ.1 126 (3 + k)
    rw [c7 99 (by decide) (by decide), c6 99 (by decide) (by decide), c5 99 (by decide) (by decide), c4 99 (by decide) (by decide), c3 99 (by decide) (by decide), r2, if_pos hk, a1]
  · show s7.1 100 k = σ.1 126 (323 + k)
    rw [c7 100 (by decide) (by decide), c6 100 (by decide) (by decide), c5 100 (by decide) (by decide), c4 100 (by decide) (by decide), r3, if_pos hk, a2]
  · show s7.1 105 k = σ.1 126 (623 + k)
    rw [c7 105 (by decide) (by decide), c6 105 (by decide) (by decide), c5 105 (by decide) (by decide), r4, if_pos hk, a3]
  · show s7.1 106 k = σ.1 126 (639 + k)
    rw [c7 106 (by decide) (by decide), c6 106 (by decide) (by decide), r5, if_pos hk, a4]
  · show s7.1 107 k = σ.1 126 (799 + k)
    rw [c7 107 (by decide) (by decide), r6, if_pos hk, a5]
  · show s7.1 108 k = σ.1 126 (817 + k)
    rw [r7, if_pos hk, a6]
theorem cl976 : (Int32.ofNat 976).toNatClampNeg = 976 := by decide +kernel
/-- a core carried over to other cells of the class -/
theorem CORE.tk {n : Nat} {th sg am mem ev pa : Nat → Int32} {now ne : Nat} {T W T' W' : Nat → Nat → Int32} {P P' : Nat → Int32} (h : CORE n th sg am mem now ne ev pa T W P) (t0 : T' 0 0 = T 0 0) (t1 : T' 0 1 = T 0 1) (t9 : ∀ j, 1 ≤ j → j ≤ 9 → ∀ i, i < 16 → T' j i = T j i) (t11 : ∀ j, 10 ≤ j → j ≤ 11 → ∀ k, k < 96 → T' j k = T j k) (t12 : ∀ k, k < sN (T 0 1) → T' 12 k = T 12 k) (w0 : W' 0 0 = W 0 0) (w4 : W' 0 4 = W 0 4) (w3 : ∀ j, 1 ≤ j → j ≤ 3 → ∀ e, e < 6 → W' j e = W j e) (w7 : ∀ j, 4 ≤ j → j ≤ 7 → ∀ i, i < 16 → W' j i = W j i) (w8 : ∀ x, x < 144 → W' 8 x = W 8 x) (hP : ∀ k, k < 976 → P' k = P k) : CORE n th sg am mem now ne ev pa T' W' P' := by
  obtain ⟨tw, cx, mw, cw, ps, h60⟩ := h
  have h16 := tw.1
  exact ⟨tw, cx.pt tw t0 t1 t9 t11 t12, mw, cw.pt tw mw.2.1 w0 w4 w3 w7 w8, fun s i h1 h2 => by rw [hP _ (by omega)]; exact ps s i h1 h2, h60⟩
theorem CX.z {n : Nat} {th sg : Nat → Int32} {T : Nat → Nat → Int32} (h : CX n th sg T) : ∃ z, z ≤ 300 ∧ T 0 1 = nI z := by
  obtain ⟨-, -, z, b1, b2, -, -⟩ := h
  exact ⟨z, b1, b2⟩
set_option maxHeartbeats 2000000 in
theorem op_keep : O_keep Rel := by
  intro σ h
  obtain ⟨⟨n, now, ne, hc⟩, hr, hkp⟩ := id h
  obtain ⟨a, b, c, core, wl⟩ := id hc
  obtain ⟨z, hz, ez⟩ := core.2.1.z
  refine e_SS_keep (t_SS_keep_0 (p_ttake (m := z) (Or.inl ⟨rfl, rfl⟩) ez hz (fun τ ⟨t1, t2, t3, t4, t5, t6, t7⟩ => p_take (Or.inr (Or.inl ⟨rfl, rfl⟩)) (fun u ⟨u1, u2, u3, u4, ⟨u5, u6, u7⟩, u8, u9, u10⟩ => ⟨by decide +kernel, vb1, ?_⟩))))
  generalize hV : sI (sC u 80 (va_cpy (u.1 78) (u.1 80) (0 : Int32).toNatClampNeg (0 : Int32).toNatClampNeg (Int32.ofNat 976).toNatClampNeg)) 0 6 (1 : Int32) = v
  have v1 : ∀ c, c ≠ 80 → c ≠ 0 → v.1 c = u.1 c := fun c h1 h2 => by rw [← hV, sI_r, if_neg h2, sC_r, if_neg h1]
  have v0 : ∀ x, v.1 0 x = if x = 6 then 1 else u.1 0 x := fun x => by rw [← hV, sI_r, if_pos rfl, upd_r, sC_r, if_neg (show ¬ (0 : Nat) = 80 by decide)]
  have v80 : ∀ k, k < 976 → v.1 80 k = u.1 78 k := fun k hk => by rw [← hV, sI_r, if_neg (by decide), sC_r, if_pos rfl, cl16.2.2.1, cl976]; exact cpy0 hk
  have v2 : v.2 = u.2 := by rw [← hV]; rfl
  have U : ∀ c, c < 31 ∨ 43 < c → c < 67 ∨ 75 < c → u.1 c = σ.1 c := fun c h1 h2 => (u1 c (by omega)).trans (t1 c (by omega))
  have V : ∀ c, c < 31 ∨ 43 < c → c < 67 ∨ 75 < c → c ≠ 80 → c ≠ 0 → v.1 c = σ.1 c := fun c h1 h2 h3 h4 => (v1 c h3 h4).trans (U c h1 h2)
  have V2 : ∀ c, c ≠ 67 → v.2 c = σ.2 c := fun c hc => by rw [v2, u2 c hc, t2]
  refine e_M_keep (t_M_keep_0 (p_keepAll (fun x x2 x1 x98 y0 y1 y2 g1 g2 g3 g4 g5 g6 => ⟨vb1, rfl, ?_⟩)))
  generalize hY : sI (sL (sL (sL x 98 59 (x.2 98 22)) 98 60 (x.2 98 23)) 98 61 (x.2 98 24)) 98 56 (1 : Int32) = y
  have Y1 : ∀ c, c ≠ 98 → y.1 c = x.1 c := fun c h1 => by rw [← hY, sI_r, if_neg h1, sL_r, sL_r, sL_r]
  have Y98 : ∀ k, y.1 98 k = if k = 56 then 1 else x.1 98 k := fun k => by rw [← hY, sI_r, if_pos rfl, upd_r, sL_r, sL_r, sL_r]
  have Y2 : ∀ c, c ≠ 98 → y.2 c = x.2 c := fun c h1 => by rw [← hY, sI_l, sL_l, if_neg h1, sL_l, if_neg h1, sL_l, if_neg h1]
  have Yl : ∀ k, y.2 98 k = if k = 61 then x.2 98 24 else if k = 60 then x.2 98 23 else if k = 59 then x.2 98 22 else x.2 98 k := fun k => by
    rw [← hY, sI_l, sL_l, if_pos rfl, updL_r, sL_l, if_pos rfl, updL_r, sL_l, if_pos rfl, updL_r]
  have A : ∀ c, (c < 31 ∨ 43 < c) ∧ (c < 67 ∨ 75 < c) ∧ c ≠ 80 ∧ c ≠ 0 ∧ c ≠ 98 ∧ c ≠ 126 ∧ c ≠ 127 → y.1 c = σ.1 c := fun c h => by rw [Y1 c h.2.2.2.2.1, x1 c h.2.2.2.2.1 h.2.2.2.2.2.1 h.2.2.2.2.2.2]; exact V c h.1 h.2.1 h.2.2.1 h.2.2.2.1
  have B : ∀ k, k ≠ 56 → k ≠ 58 → y.1 98 k = σ.1 98 k := fun k h1 h2 => by rw [Y98, if_neg h1, x98 k h2, V 98 (by omega) (by omega) (by decide) (by decide)]
  have S98 : v.1 98 = σ.1 98 := V 98 (by omega) (by omega) (by decide) (by decide)
  have X98 : x.2 98 = σ.2 98 := by rw [x2, V2 98 (by decide)]
  refine ⟨⟨n, now, ne, hc.same ⟨fun c hc => A c ((by decide : ∀ c ∈ ([99, 100, 105, 106, 107, 108, 4, 5, 6, 7, 8, 9, 10, 11, 12, 13, 14, 15, 46, 47, 48, 49, 50, 51, 52, 53, 78] : List Nat), (c < 31 ∨ 43 < c) ∧ (c < 67 ∨ 75 < c) ∧ c ≠ 80 ∧ c ≠ 0 ∧ c ≠ 98 ∧ c ≠ 126 ∧ c ≠ 127) c hc), fun q hq => ?_, fun c hc => absurd hc (by intro h; cases h), fun q hq => ?_⟩⟩, hr.same ⟨fun c hc => A c ((by decide : ∀ c ∈ ([2, 101, 81, 118, 82, 83, 84, 119, 120, 85, 86, 87, 122, 123, 124, 89, 125] : List Nat), (c < 31 ∨ 43 < c) ∧ (c < 67 ∨ 75 < c) ∧ c ≠ 80 ∧ c ≠ 0 ∧ c ≠ 98 ∧ c ≠ 126 ∧ c ≠ 127) c hc), fun q hq => ?_, fun c hc => ?_, fun q hq => absurd hq (by intro h; cases h)⟩, ?_⟩
  · rcases (by decide : ∀ q ∈ ([(98, 0), (98, 19), (98, 25), (3, 0), (3, 1), (45, 0), (45, 4)] : List (Nat × Nat)), (q.1 = 98 ∧ q.2 ≠ 56 ∧ q.2 ≠ 58) ∨ ((q.1 < 31 ∨ 43 < q.1) ∧ (q.1 < 67 ∨ 75 < q.1) ∧ q.1 ≠ 80 ∧ q.1 ≠ 0 ∧ q.1 ≠ 98 ∧ q.1 ≠ 126 ∧ q.1 ≠ 127)) q hq with ⟨e1, e2, e3⟩ | e
    · rw [e1]; exact B q.2 e2 e3
    · rw [A q.1 e]
  · rcases (by decide : ∀ q ∈ ([(98, 22), (98, 23), (98, 24), (45, 1), (45, 2), (45, 3)] : List (Nat × Nat)), (q.1 = 98 ∧ q.2 ≠ 61 ∧ q.2 ≠ 60 ∧ q.2 ≠ 59) ∨ (q.1 ≠ 98 ∧ q.1 ≠ 67)) q hq with ⟨e1, e2, e3, e4⟩ | ⟨e1, e2⟩
    · rw [e1, Yl, if_neg e2, if_neg e3, if_neg e4, X98]
    · rw [Y2 q.1 e1, x2, V2 q.1 e2]
  · rcases (by decide : ∀ q ∈ ([(1, 1), (1, 2), (1, 3), (98, 4), (98, 10), (98, 11), (0, 10), (98, 43), (88, 3), (98, 54)] : List (Nat × Nat)), (q.1 = 98 ∧ q.2 ≠ 56 ∧ q.2 ≠ 58) ∨ (q.1 = 0 ∧ q.2 ≠ 6) ∨ ((q.1 < 31 ∨ 43 < q.1) ∧ (q.1 < 67 ∨ 75 < q.1) ∧ q.1 ≠ 80 ∧ q.1 ≠ 0 ∧ q.1 ≠ 98 ∧ q.1 ≠ 126 ∧ q.1 ≠ 127)) q hq with ⟨e1, e2, e3⟩ | ⟨e1, e2⟩ | e
    · rw [e1]; exact B q.2 e2 e3
    · rw [e1, Y1 0 (by decide), x1 0 (by decide) (by decide) (by decide), v0, if_neg e2, U 0 (by omega) (by omega)]
    · rw [A q.1 e]
  · obtain ⟨e1, e2⟩ := (by decide : ∀ c ∈ ([121] : List Nat), c ≠ 98 ∧ c ≠ 67) c hc
    rw [Y2 c e1, x2, V2 c e2]
  · have y126 : y.1 126 = x.1 126 := Y1 126 (by decide)
    have yc : ∀ c, c ≠ 98 → c ≠ 126 → c ≠ 127 → y.1 c = v.1 c := fun c h1 h2 h3 => by rw [Y1 c h1, x1 c h1 h2 h3]
    refine ⟨?_, Or.inr ⟨?_, n, now, ne, ?_, ?_, ?_, ?_, ?_, ?_, ?_⟩⟩
    · rw [Y1 0 (by decide), x1 0 (by decide) (by decide) (by decide), v0, if_pos rfl, Y98, if_pos rfl]
    · rw [Y98, if_pos rfl]
    · rw [y126, y0, S98]; exact a
    · rw [y126, y1, S98]; exact b
    · rw [y126, y2, S98]; exact c
    · rw [y126]
      have core' : CORE n (v.1 99) (v.1 100) (v.1 105) (v.1 106) now ne (v.1 107) (v.1 108) (fun j => σ.1 (3 + j)) (fun j => σ.1 (45 + j)) (σ.1 78) := by
        rw [V 99 (by omega) (by omega) (by decide) (by decide), V 100 (by omega) (by omega) (by decide) (by decide), V 105 (by omega) (by omega) (by decide) (by decide), V 106 (by omega) (by omega) (by decide) (by decide), V 107 (by omega) (by omega) (by decide) (by decide), V 108 (by omega) (by omega) (by decide) (by decide)]
        exact core
      refine (core'.ag g1 g2 g3 g4 g5 g6).tk ?_ ?_ (fun j h1 h2 i hi => ?_) (fun j h1 h2 k hk => ?_) (fun k hk => ?_) ?_ ?_ (fun j h1 h2 e he => ?_) (fun j h1 h2 i hi => ?_) (fun k hk => ?_) (fun k hk => ?_)
      · show y.1 31 0 = σ.1 3 0
        rw [yc 31 (by decide) (by decide) (by decide), v1 31 (by decide) (by decide), u1 31 (by omega)]; exact t3
      · show y.1 31 1 = σ.1 3 1
        rw [yc 31 (by decide) (by decide) (by decide), v1 31 (by decide) (by decide), u1 31 (by omega)]; exact t4
      · show y.1 (31 + j) i = σ.1 (3 + j) i
        rw [yc (31 + j) (by omega) (by omega) (by omega), v1 (31 + j) (by omega) (by omega), u1 (31 + j) (by omega)]; exact t5 j h1 h2 i hi
      · show y.1 (31 + j) k = σ.1 (3 + j) k
        rw [yc (31 + j) (by omega) (by omega) (by omega), v1 (31 + j) (by omega) (by omega), u1 (31 + j) (by omega)]; exact t6 j h1 h2 k hk
      · show y.1 43 k = σ.1 15 k
        rw [yc 43 (by decide) (by decide) (by decide), v1 43 (by decide) (by decide), u1 43 (by omega)]; exact t7 k hk
      · show y.1 67 0 = σ.1 45 0
        rw [yc 67 (by decide) (by decide) (by decide), v1 67 (by decide) (by decide), u3, t1 45 (by omega)]
      · show y.1 67 4 = σ.1 45 4
        rw [yc 67 (by decide) (by decide) (by decide), v1 67 (by decide) (by decide), u4, t1 45 (by omega)]
      · show y.1 (67 + j) e = σ.1 (45 + j) e
        rw [yc (67 + j) (by omega) (by omega) (by omega), v1 (67 + j) (by omega) (by omega), u8 j h1 h2 e he, t1 (45 + j) (by omega)]
      · show y.1 (67 + j) i = σ.1 (45 + j) i
        rw [yc (67 + j) (by omega) (by omega) (by omega), v1 (67 + j) (by omega) (by omega), u9 j h1 h2 i hi, t1 (45 + j) (by omega)]
      · show y.1 75 k = σ.1 53 k
        rw [yc 75 (by decide) (by decide) (by decide), v1 75 (by decide) (by decide), u10 k hk, t1 (45 + 8) (by omega)]
      · rw [yc 80 (by decide) (by decide) (by decide), v80 k hk, U 78 (by omega) (by omega)]
    · show y.2 67 1 = y.2 98 59
      rw [Yl, if_neg (by decide), if_neg (by decide), if_pos rfl, Y2 67 (by decide), x2, v2, u5, t2, u2 98 (by decide), t2]; exact wl.1
    · show y.2 67 2 = y.2 98 60
      rw [Yl, if_neg (by decide), if_pos rfl, Y2 67 (by decide), x2, v2, u6, t2, u2 98 (by decide), t2]; exact wl.2.1
    · show y.2 67 3 = y.2 98 61
      rw [Yl, if_pos rfl, Y2 67 (by decide), x2, v2, u7, t2, u2 98 (by decide), t2]; exact wl.2.2
set_option maxHeartbeats 2000000 in
theorem op_back : O_back Rel := by
  intro σ h
  obtain ⟨⟨n0, now0, ne0, hc⟩, hr, hkp⟩ := id h
  obtain ⟨ek, hk⟩ := id hkp
  refine e_SS_back (t_SS_back_0 ?_)
  rw [ek]
  rcases hk with hk | ⟨hk, n, now, ne, a, b, c, core, wl⟩
  · exact ifp hk (e_M_back (t_M_back_0 (ifp hk ⟨rfl, h⟩)))
  obtain ⟨z, hz, ez⟩ := core.2.1.z
  refine ifn (by rw [hk]; decide) (p_ttake (m := z) (Or.inr ⟨rfl, rfl⟩) ez hz (fun τ ⟨t1, t2, t3, t4, t5, t6, t7⟩ => p_take (Or.inr (Or.inr ⟨rfl, rfl⟩)) (fun u ⟨u1, u2, u3, u4, ⟨u5, u6, u7⟩, u8, u9, u10⟩ => ⟨by decide +kernel, ?_⟩)))
  generalize hV : sC u 78 (va_cpy (u.1 80) (u.1 78) (0 : Int32).toNatClampNeg (0 : Int32).toNatClampNeg (Int32.ofNat 976).toNatClampNeg) = v
  have v1 : ∀ c, c ≠ 78 → v.1 c = u.1 c := fun c h1 => by rw [← hV, sC_r, if_neg h1]
  have v78 : ∀ k, k < 976 → v.1 78 k = u.1 80 k := fun k hk => by rw [← hV, sC_r, if_pos rfl, cl16.2.2.1, cl976]; exact cpy0 hk
  have v2 : v.2 = u.2 := by rw [← hV]; rfl
  have U : ∀ c, c < 3 ∨ 15 < c → c < 45 ∨ 53 < c → u.1 c = σ.1 c := fun c h1 h2 => (u1 c (by omega)).trans (t1 c (by omega))
  have V : ∀ c, c < 3 ∨ 15 < c → c < 45 ∨ 53 < c → c ≠ 78 → v.1 c = σ.1 c := fun c h1 h2 h3 => (v1 c h3).trans (U c h1 h2)
  have V2 : ∀ c, c ≠ 45 → v.2 c = σ.2 c := fun c hc => by rw [v2, u2 c hc, t2]
  have S98 : v.1 98 = σ.1 98 := V 98 (by omega) (by omega) (by decide)
  have S126 : v.1 126 = σ.1 126 := V 126 (by omega) (by omega) (by decide)
  have u450 : u.1 45 0 = nI now := by rw [u3, t1 67 (by omega)]; exact core.2.2.2.1.1
  refine e_M_back (t_M_back_0 (ifn (by rw [S98, hk]; decide) (p_backAll (fun x x2 x1 x98 y0 y1 y2 g1 g2 g3 g4 g5 g6 => ⟨vp_in_nI (n := 0) (by omega) (by omega), vp_in_nI (n := 1) (by omega) (by omega), vp_in_nI (n := 2) (by omega) (by omega), ?_⟩))))
  rw [S126] at y0 y1 y2 g1 g2 g3 g4 g5 g6
  have c0 : x.1 127 (0 : Int32).toNatClampNeg = nI n := by rw [cl16.2.2.1, y0]; exact a
  have c1 : x.1 127 (1 : Int32).toNatClampNeg = nI now := by rw [show (1 : Int32).toNatClampNeg = 1 by decide, y1]; exact b
  have c2 : x.1 127 (2 : Int32).toNatClampNeg = nI ne := by rw [show (2 : Int32).toNatClampNeg = 2 by decide, y2]; exact c
  rw [c0, c1, c2, u450]
  refine ⟨rfl, ?_⟩
  generalize hY : sL (sL (sL (sI (sI (sI x 98 0 (nI n)) 98 19 (nI now)) 98 25 (nI ne)) 98 22 (x.2 98 59)) 98 23 (x.2 98 60)) 98 24 (x.2 98 61) = y
  have Y1 : ∀ c, c ≠ 98 → y.1 c = x.1 c := fun c h1 => by rw [← hY, sL_r, sL_r, sL_r, sI_r, if_neg h1, sI_r, if_neg h1, sI_r, if_neg h1]
  have Y98 : ∀ k, y.1 98 k = if k = 25 then nI ne else if k = 19 then nI now else if k = 0 then nI n else x.1 98 k := fun k => by rw [← hY, sL_r, sL_r, sL_r, sI_r, if_pos rfl, upd_r, sI_r, if_pos rfl, upd_r, sI_r, if_pos rfl, upd_r]
  have Y2 : ∀ c, c ≠ 98 → y.2 c = x.2 c := fun c h1 => by rw [← hY, sL_l, if_neg h1, sL_l, if_neg h1, sL_l, if_neg h1]; rfl
  have Yl : ∀ k, y.2 98 k = if k = 24 then x.2 98 61 else if k = 23 then x.2 98 60 else if k = 22 then x.2 98 59 else x.2 98 k := fun k => by
    rw [← hY, sL_l, if_pos rfl, updL_r, sL_l, if_pos rfl, updL_r, sL_l, if_pos rfl, updL_r]; rfl
  have A : ∀ c, (c < 3 ∨ 15 < c) ∧ (c < 45 ∨ 53 < c) ∧ c ≠ 78 ∧ c ≠ 98 ∧ (c < 98 ∨ c = 101 ∨ 109 ≤ c ∧ c ≤ 126) → y.1 c = σ.1 c := fun c h => by rw [Y1 c h.2.2.2.1, x1 c h.2.2.2.2]; exact V c h.1 h.2.1 h.2.2.1
  have B : ∀ k, k ≠ 0 → k ≠ 19 → k ≠ 25 → k ≠ 58 → y.1 98 k = σ.1 98 k := fun k h1 h2 h3 h4 => by rw [Y98, if_neg h3, if_neg h2, if_neg h1, x98 k h4, S98]
  have X98 : x.2 98 = σ.2 98 := by rw [x2, V2 98 (by decide)]
  have yc : ∀ c, c < 98 → y.1 c = v.1 c := fun c h1 => by rw [Y1 c (by omega), x1 c (Or.inl h1)]
  refine ⟨⟨n, now, ne, ?_, ?_, ?_, ?_, ?_, ?_, ?_⟩, hr.same ⟨fun c hc => A c ((by decide : ∀ c ∈ ([2, 101, 81, 118, 82, 83, 84, 119, 120, 85, 86, 87, 122, 123, 124, 89, 125] : List Nat), (c < 3 ∨ 15 < c) ∧ (c < 45 ∨ 53 < c) ∧ c ≠ 78 ∧ c ≠ 98 ∧ (c < 98 ∨ c = 101 ∨ 109 ≤ c ∧ c ≤ 126)) c hc), fun q hq => ?_, fun c hc => ?_, fun q hq => absurd hq (by intro h; cases h)⟩, hkp.same ⟨fun c hc => A c ((by decide : ∀ c ∈ ([126, 80, 32, 33, 34, 35, 36, 37, 38, 39, 40, 41, 42, 43, 68, 69, 70, 71, 72, 73, 74, 75] : List Nat), (c < 3 ∨ 15 < c) ∧ (c < 45 ∨ 53 < c) ∧ c ≠ 78 ∧ c ≠ 98 ∧ (c < 98 ∨ c = 101 ∨ 109 ≤ c ∧ c ≤ 126)) c hc), fun q hq => ?_, fun c hc => absurd hc (by intro h; cases h), fun q hq => ?_⟩⟩
  · rw [Y98, if_neg (by decide), if_neg (by decide), if_pos rfl]
  · rw [Y98, if_neg (by decide), if_pos rfl]
  · rw [Y98, if_pos rfl]
  · rw [Y1 99 (by decide), Y1 100 (by decide), Y1 105 (by decide), Y1 106 (by decide), Y1 107 (by decide), Y1 108 (by decide)]
    refine (core.ag g1 g2 g3 g4 g5 g6).tk ?_ ?_ (fun j h1 h2 i hi => ?_) (fun j h1 h2 k hk => ?_) (fun k hk => ?_) ?_ ?_ (fun j h1 h2 e he => ?_) (fun j h1 h2 i hi => ?_) (fun k hk => ?_) (fun k hk => ?_)
    · show y.1 3 0 = σ.1 31 0
      rw [yc 3 (by decide), v1 3 (by decide), u1 3 (by omega)]; exact t3
    · show y.1 3 1 = σ.1 31 1
      rw [yc 3 (by decide), v1 3 (by decide), u1 3 (by omega)]; exact t4
    · show y.1 (3 + j) i = σ.1 (31 + j) i
      rw [yc (3 + j) (by omega), v1 (3 + j) (by omega), u1 (3 + j) (by omega)]; exact t5 j h1 h2 i hi
    · show y.1 (3 + j) k = σ.1 (31 + j) k
      rw [yc (3 + j) (by omega), v1 (3 + j) (by omega), u1 (3 + j) (by omega)]; exact t6 j h1 h2 k hk
    · show y.1 15 k = σ.1 43 k
      rw [yc 15 (by decide), v1 15 (by decide), u1 15 (by omega)]; exact t7 k hk
    · show y.1 45 0 = σ.1 67 0
      rw [yc 45 (by decide), v1 45 (by decide), u3, t1 67 (by omega)]
    · show y.1 45 4 = σ.1 67 4
      rw [yc 45 (by decide), v1 45 (by decide), u4, t1 67 (by omega)]
    · show y.1 (45 + j) e = σ.1 (67 + j) e
      rw [yc (45 + j) (by omega), v1 (45 + j) (by omega), u8 j h1 h2 e he, t1 (67 + j) (by omega)]
    · show y.1 (45 + j) i = σ.1 (67 + j) i
      rw [yc (45 + j) (by omega), v1 (45 + j) (by omega), u9 j h1 h2 i hi, t1 (67 + j) (by omega)]
    · show y.1 53 k = σ.1 75 k
      rw [yc 53 (by decide), v1 53 (by decide), u10 k hk, t1 (67 + 8) (by omega)]
    · rw [yc 78 (by decide), v78 k hk, U 80 (by omega) (by omega)]
  · show y.2 45 1 = y.2 98 22
    rw [Yl, if_neg (by decide), if_neg (by decide), if_pos rfl, Y2 45 (by decide), X98, x2, v2, u5, t2]; exact wl.1
  · show y.2 45 2 = y.2 98 23
    rw [Yl, if_neg (by decide), if_pos rfl, Y2 45 (by decide), X98, x2, v2, u6, t2]; exact wl.2.1
  · show y.2 45 3 = y.2 98 24
    rw [Yl, if_pos rfl, Y2 45 (by decide), X98, x2, v2, u7, t2]; exact wl.2.2
  · rcases (by decide : ∀ q ∈ ([(1, 1), (1, 2), (1, 3), (98, 4), (98, 10), (98, 11), (0, 10), (98, 43), (88, 3), (98, 54)] : List (Nat × Nat)), (q.1 = 98 ∧ q.2 ≠ 0 ∧ q.2 ≠ 19 ∧ q.2 ≠ 25 ∧ q.2 ≠ 58) ∨ ((q.1 < 3 ∨ 15 < q.1) ∧ (q.1 < 45 ∨ 53 < q.1) ∧ q.1 ≠ 78 ∧ q.1 ≠ 98 ∧ (q.1 < 98 ∨ q.1 = 101 ∨ 109 ≤ q.1 ∧ q.1 ≤ 126))) q hq with ⟨e1, e2, e3, e4, e5⟩ | e
    · rw [e1]; exact B q.2 e2 e3 e4 e5
    · rw [A q.1 e]
  · obtain ⟨e1, e2⟩ := (by decide : ∀ c ∈ ([121] : List Nat), c ≠ 98 ∧ c ≠ 45) c hc
    rw [Y2 c e1, x2, V2 c e2]
  · rcases (by decide : ∀ q ∈ ([(0, 6), (98, 56), (31, 0), (31, 1), (67, 0), (67, 4)] : List (Nat × Nat)), (q.1 = 98 ∧ q.2 ≠ 0 ∧ q.2 ≠ 19 ∧ q.2 ≠ 25 ∧ q.2 ≠ 58) ∨ ((q.1 < 3 ∨ 15 < q.1) ∧ (q.1 < 45 ∨ 53 < q.1) ∧ q.1 ≠ 78 ∧ q.1 ≠ 98 ∧ (q.1 < 98 ∨ q.1 = 101 ∨ 109 ≤ q.1 ∧ q.1 ≤ 126))) q hq with ⟨e1, e2, e3, e4, e5⟩ | e
    · rw [e1]; exact B q.2 e2 e3 e4 e5
    · rw [A q.1 e]
  · rcases (by decide : ∀ q ∈ ([(98, 59), (98, 60), (98, 61), (67, 1), (67, 2), (67, 3)] : List (Nat × Nat)), (q.1 = 98 ∧ q.2 ≠ 24 ∧ q.2 ≠ 23 ∧ q.2 ≠ 22) ∨ (q.1 ≠ 98 ∧ q.1 ≠ 45)) q hq with ⟨e1, e2, e3, e4⟩ | ⟨e1, e2⟩
    · rw [e1, Yl, if_neg e2, if_neg e3, if_neg e4, X98]
    · rw [Y2 q.1 e1, x2, V2 q.1 e2]
