/-! ===== what moves what, as bits ===== -/
theorem or_nI {a b : Nat} (ha : a < 2 ^ 31) (hb : b < 2 ^ 31) : nI a ||| nI b = nI (a ||| b) := by
  have hab : a ||| b < 2 ^ 31 := Nat.or_lt_two_pow ha hb
  apply Int32.toBitVec_inj.mp
  apply BitVec.eq_of_toNat_eq
  rw [Int32.toBitVec_or, BitVec.toNat_or, pk_tn (by omega), pk_tn (by omega), pk_tn (by omega)]
theorem sh31 : ∀ k, k < 16 → ((nI k &&& 31).toBitVec.smod 32).toNat = k ∧ (1 : Int32) <<< (nI k &&& 31) = nI (2 ^ k) ∧ (1 : Int32) <<< nI k = nI (2 ^ k) := by decide +kernel
theorem bit_nI {m k : Nat} (hm : m < 2 ^ 31) (hk : k < 16) : (nI m >>> (nI k &&& 31)) &&& 1 = if m.testBit k then 1 else 0 := by
  rw [pk_shrN hm _ k (sh31 k hk).1, pk_andN (n := m / 2 ^ k) (Nat.lt_of_le_of_lt (Nat.div_le_self _ _) (by omega)) 1 (by decide), Nat.testBit_eq_decide_div_mod_eq]
  by_cases h : m / 2 ^ k % 2 = 1
  · rw [if_pos (by rw [h]; decide), show 2 ^ 1 = 2 from rfl, h]; rfl
  · rw [if_neg (by rw [decide_eq_true_eq]; exact h), show m / 2 ^ k % 2 ^ 1 = 0 by omega]; rfl
theorem bit1 {m k : Nat} (hm : m < 2 ^ 31) (hk : k < 16) (h : m.testBit k = true) : (nI m >>> (nI k &&& 31)) &&& 1 = 1 := by rw [bit_nI hm hk, if_pos h]
theorem bit0 {m k : Nat} (hm : m < 2 ^ 31) (hk : k < 16) (h : ¬ m.testBit k = true) : (nI m >>> (nI k &&& 31)) &&& 1 = 0 := by rw [bit_nI hm hk, if_neg h]
/-- masks of n bits -/
def Mk (n : Nat) (x : Int32) (m : Nat) : Prop := x = nI m ∧ m < 2 ^ n
theorem pw16 {n : Nat} (h : n ≤ 16) : 2 ^ n ≤ 2 ^ 16 := Nat.pow_le_pow_right (by omega) h
theorem Mk.or {n : Nat} {x y : Int32} {a b : Nat} (h16 : n ≤ 16) (hx : Mk n x a) (hy : Mk n y b) : Mk n (x ||| y) (a ||| b) := by
  have := pw16 h16
  exact ⟨by rw [hx.1, hy.1]; exact or_nI (by have := hx.2; omega) (by have := hy.2; omega), Nat.or_lt_two_pow hx.2 hy.2⟩
theorem Mk.z {n : Nat} : Mk n 0 0 := ⟨rfl, Nat.two_pow_pos n⟩
theorem Mk.one {n b : Nat} (h16 : n ≤ 16) (hb : b < n) : Mk n (1 <<< nI b) (2 ^ b) := ⟨(sh31 b (by omega)).2.2, Nat.pow_lt_pow_right (by omega) hb⟩
theorem mvB_N {n b : Nat} {sg : Nat → Int32} {i : Nat} (h16 : n ≤ 16) (hb : b < n) : ∀ (c k : Nat) (x : Int32) (m : Nat), Mk n x m → ∃ m', Mk n (mvB sg i (1 <<< nI b) c k x) m' := by
  intro c
  induction c with
  | zero => intro k x m h; exact ⟨m, h⟩
  | succ c ih =>
    intro k x m h
    show ∃ m', Mk n (mvB sg i (1 <<< nI b) c (k + 1) (x ||| (if sg k = nI (100000 + i) ∨ sg k = nI (200000 + i) then 1 <<< nI b else 0))) m'
    by_cases e : sg k = nI (100000 + i) ∨ sg k = nI (200000 + i)
    · rw [if_pos e]; exact ih (k + 1) _ _ (Mk.or h16 h (Mk.one h16 hb))
    · rw [if_neg e]; exact ih (k + 1) _ _ (Mk.or h16 h Mk.z)
theorem mvT_N {n : Nat} {th sg : Nat → Int32} {i : Nat} (h16 : n ≤ 16) : ∀ (b : Nat) (x : Int32) (m : Nat), b ≤ n → Mk n x m → ∃ m', Mk n (mvT th sg i b x) m' := by
  intro b
  induction b with
  | zero => intro x m _ h; exact ⟨m, h⟩
  | succ b ih =>
    intro x m hb h
    obtain ⟨m', h'⟩ := ih x m (by omega) h
    exact mvB_N h16 (by omega) _ _ _ m' h'
theorem mvE_N {n : Nat} {e : Int32} (h16 : n ≤ 16) (h : e = -9 ∨ ∃ j, j < n ∧ e = nI j) : ∃ m, Mk n (mvE e) m := by
  rcases h with h | ⟨j, hj, h⟩
  · exact ⟨0, by rw [h]; exact Mk.z⟩
  · refine ⟨2 ^ j, ?_⟩
    unfold mvE
    rw [h, if_pos (nI_pos' (by omega))]
    exact Mk.one h16 hj
theorem mvd_N {n : Nat} {th sg : Nat → Int32} (tw : TW n th sg) {i : Nat} (hi : i < n) : ∃ m, Mk n (mvd n th sg i) m := by
  unfold mvd
  by_cases e3 : th (20 * i) = 3
  · rw [if_pos e3]
    obtain ⟨a, ha⟩ := mvE_N (e := th (20 * i + 4)) tw.1 (by rcases tw.e4 i hi e3 with h | ⟨j, hj, h, -⟩; exact Or.inl h; exact Or.inr ⟨j, hj, h⟩)
    obtain ⟨b, hb⟩ := mvE_N (e := th (20 * i + 5)) tw.1 (by rcases tw.e5 i hi e3 with h | ⟨j, hj, h, -⟩; exact Or.inl h; exact Or.inr ⟨j, hj, h⟩)
    exact mvT_N tw.1 n _ _ (Nat.le_refl _) (Mk.or tw.1 ha hb)
  · rw [if_neg e3]
    exact mvT_N tw.1 n _ _ (Nat.le_refl _) Mk.z
theorem a31 {j : Nat} (h : j < 16) : nI j &&& 31 = nI j := by
  have := pk_andN (n := j) (m := 31) (by omega) 5 (by decide)
  rw [show j % 2 ^ 5 = j from Nat.mod_eq_of_lt (by omega)] at this
  exact this
set_option maxHeartbeats 1000000 in
theorem p_movedBy {d : Nat} {K : Po} {σ : Hp} {n i : Nat} (hn : σ.1 98 0 = nI n) (tw : TW n (σ.1 99) (σ.1 100)) (hi : i < n) (q : K (some (.int (mvd n (σ.1 99) (σ.1 100) i))) σ) : CTs (d + 2) y_M_movedBy [.ref 98, .int (nI i)] σ K := by
  have h16 := tw.1
  have k79 : ∀ (b e : Nat) (x : Int32), b < n → σ.1 99 (20 * b + 7) = nI e → e ≤ 300 → (∀ y : Int32, y = mvB (σ.1 100) i (1 <<< nI b) (e - sN (σ.1 99 (20 * b + 6))) (sN (σ.1 99 (20 * b + 6))) x → WP c_M_movedBy (CTs (d + 1)) K (62, [(0, .ref 98), (1, .int (nI i)), (2, .int y), (3, .int (nI (b + 1)))], []) σ) → ∀ (c k : Nat) (y : Int32), k + c = e → mvB (σ.1 100) i (1 <<< nI b) c k y = mvB (σ.1 100) i (1 <<< nI b) (e - sN (σ.1 99 (20 * b + 6))) (sN (σ.1 99 (20 * b + 6))) x → WP c_M_movedBy (CTs (d + 1)) K (79, [(0, .ref 98), (1, .int (nI i)), (2, .int y), (3, .int (nI b)), (4, .int (nI k))], []) σ := by
    intro b e x hb he he3 qq c
    induction c with
    | zero =>
      intro k y hk hy
      have ek : k = e := by omega
      refine t_M_movedBy_79 (p_of (w := 7) (by omega) (by omega) ?_)
      rw [he, ek, nI_1]
      exact ifp (Int32.le_refl _) (qq y hy)
    | succ c ih =>
      intro k y hk hy
      refine t_M_movedBy_79 (p_of (w := 7) (by omega) (by omega) ?_)
      rw [he, nI_1 k, nI_clamp (n := k) (by omega), show (100000 : Int32) + nI i = nI (100000 + i) from nI_add 100000 i, show (200000 : Int32) + nI i = nI (200000 + i) from nI_add 200000 i, a31 (j := b) (by omega)]
      have hy' : mvB (σ.1 100) i (1 <<< nI b) c (k + 1) (y ||| (if σ.1 100 k = nI (100000 + i) ∨ σ.1 100 k = nI (200000 + i) then 1 <<< nI b else 0)) = mvB (σ.1 100) i (1 <<< nI b) (e - sN (σ.1 99 (20 * b + 6))) (sN (σ.1 99 (20 * b + 6))) x := hy
      have hv : vp_in (nI k) 300 := vp_in_nI (by omega) (by omega)
      refine ifn (nI_ge (by omega) (by omega)) ⟨hv, ite2 (fun e1 => ih (k + 1) _ (by omega) ?_) (fun e1 => ⟨hv, ite2 (fun e2 => ih (k + 1) _ (by omega) ?_) (fun e2 => ih (k + 1) _ (by omega) ?_)⟩)⟩
      · rw [if_pos (Or.inl e1)] at hy'; exact hy'
      · rw [if_pos (Or.inr e2)] at hy'; exact hy'
      · rw [if_neg (fun z => z.elim e1 e2)] at hy'; exact hy'
  have k62 : ∀ (x0 : Int32), mvT (σ.1 99) (σ.1 100) i n x0 = mvd n (σ.1 99) (σ.1 100) i → ∀ (c b : Nat) (y : Int32), b + c = n → y = mvT (σ.1 99) (σ.1 100) i b x0 → WP c_M_movedBy (CTs (d + 1)) K (62, [(0, .ref 98), (1, .int (nI i)), (2, .int y), (3, .int (nI b))], []) σ := by
    intro x0 hx0 c
    induction c with
    | zero =>
      intro b y hb hy
      have eb : b = n := by omega
      refine t_M_movedBy_62 ?_
      rw [hn, eb]
      rw [eb] at hy
      refine ifp (Int32.le_refl _) ?_
      rw [hy, hx0]; exact q
    | succ c ih =>
      intro b y hb hy
      have hbn : b < n := by omega
      obtain ⟨a, e, hae, he3, ha6, he7, -, -⟩ := tw.hg hbn
      refine t_M_movedBy_62 ?_
      rw [hn]
      refine ifn (nI_ge (by omega) (by omega)) (p_of (w := 6) (by omega) (by omega) ?_)
      rw [ha6]
      refine k79 b e y hbn he7 he3 (fun z hz => ih (b + 1) z (by omega) ?_) (e - a) a y (by omega) ?_
      · rw [hz, hy]
        show _ = mvB (σ.1 100) i (1 <<< nI b) (sN (σ.1 99 (20 * b + 7)) - sN (σ.1 99 (20 * b + 6))) (sN (σ.1 99 (20 * b + 6))) (mvT (σ.1 99) (σ.1 100) i b x0)
        rw [he7, sN_nI (v := e) (by omega)]
      · rw [ha6, sN_nI (by omega)]
  refine e_M_movedBy (t_M_movedBy_0 (p_of (w := 0) (by omega) (by omega) (ite2 (fun e3 => p_of (w := 4) (by omega) (by omega) ?_) (fun e3 => ?_))))
  · replace e3 : σ.1 99 (20 * i) = 3 := e3
    have hd : mvT (σ.1 99) (σ.1 100) i n (mvE (σ.1 99 (20 * i + 4)) ||| mvE (σ.1 99 (20 * i + 5))) = mvd n (σ.1 99) (σ.1 100) i := by unfold mvd; rw [if_pos e3]
    have en : mvE (-9) = 0 := by decide
    have ep : ∀ j, j < n → mvE (nI j) = 1 <<< nI j := fun j hj => by unfold mvE; rw [if_pos (nI_pos' (by omega))]
    rcases tw.e4 i hi e3 with e | ⟨j, hj, e, -⟩
    · rcases tw.e5 i hi e3 with e' | ⟨j', hj', e', -⟩
      · rw [e, e', en] at hd
        rw [e]
        refine ifp (by decide) (p_of (w := 5) (by omega) (by omega) ?_)
        rw [e']
        refine ifp (by decide) (k62 _ hd n 0 _ (by omega) (show ((0 : Int32) ||| 0) ||| 0 = (0 : Int32) ||| 0 by decide))
      · rw [e, e', en, ep j' hj'] at hd
        rw [e]
        refine ifp (by decide) (p_of (w := 5) (by omega) (by omega) ?_)
        rw [e']
        refine ifn (nI_pos (by omega)) (p_of (w := 5) (by omega) (by omega) ?_)
        rw [e']
        refine k62 _ hd n 0 _ (by omega) ?_
        show ((0 : Int32) ||| 0) ||| ((1 : Int32) <<< (nI j' &&& 31)) = (0 : Int32) ||| ((1 : Int32) <<< nI j')
        rw [a31 (by omega), Int32.zero_or]
    · rcases tw.e5 i hi e3 with e' | ⟨j', hj', e', -⟩
      · rw [e, e', en, ep j hj] at hd
        rw [e]
        refine ifn (nI_pos (by omega)) (p_of (w := 4) (by omega) (by omega) (p_of (w := 5) (by omega) (by omega) ?_))
        rw [e, e']
        refine ifp (by decide) (k62 _ hd n 0 _ (by omega) ?_)
        show ((0 : Int32) ||| ((1 : Int32) <<< (nI j &&& 31))) ||| (0 : Int32) = ((1 : Int32) <<< nI j) ||| (0 : Int32)
        rw [a31 (by omega), Int32.zero_or]
      · rw [e, e', ep j hj, ep j' hj'] at hd
        rw [e]
        refine ifn (nI_pos (by omega)) (p_of (w := 4) (by omega) (by omega) (p_of (w := 5) (by omega) (by omega) ?_))
        rw [e, e']
        refine ifn (nI_pos (by omega)) (p_of (w := 5) (by omega) (by omega) ?_)
        rw [e']
        refine k62 _ hd n 0 _ (by omega) ?_
        show ((0 : Int32) ||| ((1 : Int32) <<< (nI j &&& 31))) ||| ((1 : Int32) <<< (nI j' &&& 31)) = ((1 : Int32) <<< nI j) ||| ((1 : Int32) <<< nI j')
        rw [a31 (j := j) (by omega), a31 (j := j') (by omega), Int32.zero_or]
  · replace e3 : ¬ σ.1 99 (20 * i) = 3 := e3
    exact k62 0 (by unfold mvd; rw [if_neg e3]) n 0 0 (by omega) rfl
theorem op_moves : O_moves Rel := by
  intro σ a1 h
  obtain ⟨⟨n, now, ne, a, b, c, ⟨tw, cx, mw, cw, ps, h60⟩, wl⟩, -, -⟩ := id h
  have h16 := tw.1
  refine e_SS_moves (t_SS_moves_0 ?_)
  rcases ixc a1 (n := n) (by omega) with z | ⟨i, hi, rfl⟩
  · exact p_has0 (Or.inl rfl) cx.1 z (o0 (e_M_moves (t_M_moves_0 (p_isThing0 a h16 z (o0 ⟨rfl, h⟩)))))
  · refine p_has1 (Or.inl rfl) cx.1 h16 hi (o1 ⟨vp_in_nI (by omega) (by omega), e_M_moves (t_M_moves_0 (p_isThing1 a h16 hi (o1 (p_movedBy a tw hi ⟨?_, h⟩))))⟩)
    rw [nI_clamp (n := i) (by omega)]
    exact cx.mv hi
/-! ===== reached: rounds in place, and rounds apart ===== -/
def gsI (M : Nat → Nat) : Nat → Nat → Nat → Nat
  | 0, _, x => x
  | c + 1, k, x => gsI M c (k + 1) (if x.testBit k = true then x ||| M k else x)
def jcI (M : Nat → Nat) (s : Nat) : Nat → Nat → Nat → Nat
  | 0, _, y => y
  | c + 1, k, y => jcI M s c (k + 1) (if s.testBit k = true then y ||| M k else y)
def itR (f : Nat → Nat) : Nat → Nat → Nat
  | 0, x => x
  | r + 1, x => f (itR f r x)
def Sub (a b : Nat) : Prop := ∀ k, a.testBit k = true → b.testBit k = true
theorem Sub.rf {a : Nat} : Sub a a := fun _ h => h
theorem Sub.tr {a b c : Nat} (h1 : Sub a b) (h2 : Sub b c) : Sub a c := fun k h => h2 k (h1 k h)
theorem Sub.orl {a b : Nat} : Sub a (a ||| b) := fun k h => by rw [Nat.testBit_or, h]; rfl
theorem Sub.orr {a b : Nat} : Sub b (a ||| b) := fun k h => by rw [Nat.testBit_or, h, Bool.or_true]
theorem Sub.or {a b c : Nat} (h1 : Sub a c) (h2 : Sub b c) : Sub (a ||| b) c := fun k h => by
  rw [Nat.testBit_or, Bool.or_eq_true] at h
  exact h.elim (h1 k) (h2 k)
theorem Sub.eq {a b : Nat} (h1 : Sub a b) (h2 : Sub b a) : a = b := Nat.eq_of_testBit_eq (fun k => by
  cases ha : a.testBit k with
  | true => rw [h1 k ha]
  | false =>
    cases hb : b.testBit k with
    | true => rw [h2 k hb] at ha; cases ha
    | false => rfl)
def Clo (n : Nat) (M : Nat → Nat) (F : Nat) : Prop := ∀ b, b < n → F.testBit b = true → Sub (M b) F
theorem gsI_up {M : Nat → Nat} : ∀ c k x, Sub x (gsI M c k x) := by
  intro c
  induction c with
  | zero => intro k x; exact Sub.rf
  | succ c ih =>
    intro k x
    show Sub x (gsI M c (k + 1) (if x.testBit k = true then x ||| M k else x))
    by_cases h : x.testBit k = true
    · rw [if_pos h]; exact Sub.orl.tr (ih _ _)
    · rw [if_neg h]; exact ih _ _
theorem gsI_in {n : Nat} {M : Nat → Nat} {F : Nat} (hF : Clo n M F) : ∀ c k x, k + c ≤ n → Sub x F → Sub (gsI M c k x) F := by
  intro c
  induction c with
  | zero => intro k x _ h; exact h
  | succ c ih =>
    intro k x hk hx
    show Sub (gsI M c (k + 1) (if x.testBit k = true then x ||| M k else x)) F
    by_cases h : x.testBit k = true
    · rw [if_pos h]; exact ih _ _ (by omega) (hx.or (hF k (by omega) (hx k h)))
    · rw [if_neg h]; exact ih _ _ (by omega) hx
theorem gsI_M {M : Nat → Nat} : ∀ c k x b, k ≤ b → b < k + c → x.testBit b = true → Sub (M b) (gsI M c k x) := by
  intro c
  induction c with
  | zero => intro k x b h1 h2; omega
  | succ c ih =>
    intro k x b h1 h2 hb
    show Sub (M b) (gsI M c (k + 1) (if x.testBit k = true then x ||| M k else x))
    by_cases e : b = k
    · subst e
      rw [if_pos hb]
      exact Sub.orr.tr (gsI_up _ _ _)
    · refine ih (k + 1) _ b (by omega) (by omega) ?_
      by_cases h : x.testBit k = true
      · rw [if_pos h]; exact Sub.orl b hb
      · rw [if_neg h]; exact hb
theorem jcI_up {M : Nat → Nat} {s : Nat} : ∀ c k y, Sub y (jcI M s c k y) := by
  intro c
  induction c with
  | zero => intro k x; exact Sub.rf
  | succ c ih =>
    intro k y
    show Sub y (jcI M s c (k + 1) (if s.testBit k = true then y ||| M k else y))
    by_cases h : s.testBit k = true
    · rw [if_pos h]; exact Sub.orl.tr (ih _ _)
    · rw [if_neg h]; exact ih _ _
theorem jcI_in {M : Nat → Nat} {s F : Nat} : ∀ c k y, (∀ b, k ≤ b → b < k + c → s.testBit b = true → Sub (M b) F) → Sub y F → Sub (jcI M s c k y) F := by
  intro c
  induction c with
  | zero => intro k x _ h; exact h
  | succ c ih =>
    intro k y hM hy
    show Sub (jcI M s c (k + 1) (if s.testBit k = true then y ||| M k else y)) F
    by_cases h : s.testBit k = true
    · rw [if_pos h]; exact ih _ _ (fun b h1 h2 => hM b (by omega) (by omega)) (hy.or (hM k (by omega) (by omega) h))
    · rw [if_neg h]; exact ih _ _ (fun b h1 h2 => hM b (by omega) (by omega)) hy
theorem jcI_M {M : Nat → Nat} {s : Nat} : ∀ c k y b, k ≤ b → b < k + c → s.testBit b = true → Sub (M b) (jcI M s c k y) := by
  intro c
  induction c with
  | zero => intro k x b h1 h2; omega
  | succ c ih =>
    intro k y b h1 h2 hb
    show Sub (M b) (jcI M s c (k + 1) (if s.testBit k = true then y ||| M k else y))
    by_cases e : b = k
    · subst e
      rw [if_pos hb]
      exact Sub.orr.tr (jcI_up _ _ _)
    · exact ih (k + 1) _ b (by omega) (by omega) hb
theorem jcI_lt {n : Nat} {M : Nat → Nat} {s : Nat} (hM : ∀ b, b < n → M b < 2 ^ n) : ∀ c k y, k + c ≤ n → y < 2 ^ n → jcI M s c k y < 2 ^ n := by
  intro c
  induction c with
  | zero => intro k y _ h; exact h
  | succ c ih =>
    intro k y hk hy
    show jcI M s c (k + 1) (if s.testBit k = true then y ||| M k else y) < 2 ^ n
    by_cases h : s.testBit k = true
    · rw [if_pos h]; exact ih _ _ (by omega) (Nat.or_lt_two_pow hy (hM k (by omega)))
    · rw [if_neg h]; exact ih _ _ (by omega) hy
theorem gsI_lt {n : Nat} {M : Nat → Nat} (hM : ∀ b, b < n → M b < 2 ^ n) : ∀ c k x, k + c ≤ n → x < 2 ^ n → gsI M c k x < 2 ^ n := by
  intro c
  induction c with
  | zero => intro k y _ h; exact h
  | succ c ih =>
    intro k x hk hx
    show gsI M c (k + 1) (if x.testBit k = true then x ||| M k else x) < 2 ^ n
    by_cases h : x.testBit k = true
    · rw [if_pos h]; exact ih _ _ (by omega) (Nat.or_lt_two_pow hx (hM k (by omega)))
    · rw [if_neg h]; exact ih _ _ (by omega) hx
def cnt : Nat → Nat → Nat
  | 0, _ => 0
  | k + 1, x => cnt k x + (if x.testBit k = true then 1 else 0)
theorem cnt_le {x : Nat} : ∀ k, cnt k x ≤ k
  | 0 => Nat.le_refl _
  | k + 1 => by
    show cnt k x + (if x.testBit k = true then 1 else 0) ≤ k + 1
    have := cnt_le (x := x) k
    by_cases h : x.testBit k = true
    · rw [if_pos h]; omega
    · rw [if_neg h]; omega
theorem cnt_sub {x y : Nat} (h : Sub x y) : ∀ k, cnt k x ≤ cnt k y
  | 0 => Nat.le_refl _
  | k + 1 => by
    show cnt k x + (if x.testBit k = true then 1 else 0) ≤ cnt k y + (if y.testBit k = true then 1 else 0)
    have := cnt_sub h k
    by_cases hx : x.testBit k = true
    · rw [if_pos hx, if_pos (h k hx)]; omega
    · rw [if_neg hx]; omega
theorem cnt_lt {x y j : Nat} (h : Sub x y) (hy : y.testBit j = true) (hx : ¬ x.testBit j = true) : ∀ k, j < k → cnt k x + 1 ≤ cnt k y
  | 0, hk => absurd hk (by omega)
  | k + 1, hk => by
    show cnt k x + (if x.testBit k = true then 1 else 0) + 1 ≤ cnt k y + (if y.testBit k = true then 1 else 0)
    by_cases e : j = k
    · subst e
      have := cnt_sub h j
      rw [if_neg hx, if_pos hy]; omega
    · have := cnt_lt h hy hx k (by omega)
      by_cases hx2 : x.testBit k = true
      · rw [if_pos hx2, if_pos (h k hx2)]; omega
      · rw [if_neg hx2]; omega
theorem cnt_full {x : Nat} : ∀ k, k ≤ cnt k x → ∀ j, j < k → x.testBit j = true
  | 0, _, j, hj => absurd hj (by omega)
  | k + 1, h, j, hj => by
    have h' : k + 1 ≤ cnt k x + (if x.testBit k = true then 1 else 0) := h
    have h2 := cnt_le (x := x) k
    by_cases hx : x.testBit k = true
    · rw [if_pos hx] at h'
      by_cases e : j = k
      · rw [e]; exact hx
      · exact cnt_full k (by omega) j (by omega)
    · rw [if_neg hx] at h'; omega
theorem tb_lt {x n k : Nat} (hx : x < 2 ^ n) (h : x.testBit k = true) : k < n := by
  by_cases hk : k < n
  · exact hk
  · have := Nat.testBit_lt_two_pow (x := x) (i := k) (Nat.lt_of_lt_of_le hx (Nat.pow_le_pow_right (by omega) (by omega)))
    rw [this] at h; cases h
theorem rounds_eq {n : Nat} {M : Nat → Nat} (hM : ∀ b, b < n → M b < 2 ^ n) {x : Nat} (hx : x < 2 ^ n) : itR (fun s => gsI M n 0 s) n x = itR (fun s => jcI M s n 0 s) n x := by
  have jlt : ∀ r, itR (fun s => jcI M s n 0 s) r x < 2 ^ n := fun r => by
    induction r with
    | zero => exact hx
    | succ r ih => exact jcI_lt hM n 0 _ (by omega) ih
  have jup : ∀ r, Sub x (itR (fun s => jcI M s n 0 s) r x) := fun r => by
    induction r with
    | zero => exact Sub.rf
    | succ r ih => exact ih.tr (jcI_up _ _ _)
  have clo : ∀ r, Clo n M (itR (fun s => jcI M s n 0 s) r x) ∨ r ≤ cnt n (itR (fun s => jcI M s n 0 s) r x) := fun r => by
    induction r with
    | zero => exact Or.inr (Nat.zero_le _)
    | succ r ih =>
      generalize hs : itR (fun s => jcI M s n 0 s) r x = s at ih
      have e : itR (fun s => jcI M s n 0 s) (r + 1) x = jcI M s n 0 s := by rw [← hs]; rfl
      rw [e]
      rcases ih with c | c
      · left
        have e2 : jcI M s n 0 s = s := Sub.eq (jcI_in n 0 s (fun b _ h2 h3 => c b (by omega) h3) Sub.rf) (jcI_up n 0 s)
        rw [e2]; exact c
      · by_cases hc : ∃ j, (jcI M s n 0 s).testBit j = true ∧ ¬ s.testBit j = true
        · obtain ⟨j, h1, h2⟩ := hc
          right
          have hj : j < n := tb_lt (jcI_lt hM n 0 s (by omega) (by rw [← hs]; exact jlt r)) h1
          have := cnt_lt (jcI_up (M := M) (s := s) n 0 s) h1 h2 n hj
          omega
        · left
          have e2 : jcI M s n 0 s = s := Sub.eq (fun k hk => Classical.byContradiction (fun z => hc ⟨k, hk, z⟩)) (jcI_up n 0 s)
          intro b hb hbs
          rw [e2] at hbs
          exact jcI_M n 0 s b (by omega) (by omega) hbs
  have cn : Clo n M (itR (fun s => jcI M s n 0 s) n x) := by
    rcases clo n with c | c
    · exact c
    · intro b hb _ k hk
      exact cnt_full n c k (tb_lt (hM b hb) hk)
  have gin : ∀ r, Sub (itR (fun s => gsI M n 0 s) r x) (itR (fun s => jcI M s n 0 s) n x) := fun r => by
    induction r with
    | zero => exact jup n
    | succ r ih => exact gsI_in cn n 0 _ (by omega) ih
  have jg : ∀ r, Sub (itR (fun s => jcI M s n 0 s) r x) (itR (fun s => gsI M n 0 s) r x) := fun r => by
    induction r with
    | zero => exact Sub.rf
    | succ r ih => exact jcI_in n 0 _ (fun b h1 h2 h3 => gsI_M n 0 _ b h1 h2 (ih b h3)) (ih.tr (gsI_up _ _ _))
  exact Sub.eq (gin n) (jg n)
theorem p_allMoved {d : Nat} {K : Po} {σ : Hp} {n i : Nat} {M : Nat → Nat} (h16 : n ≤ 16) (hn : σ.1 3 0 = nI n) (hM : ∀ b, b < n → Mk n (σ.1 11 b) (M b)) (hi : i < n) (q : K (some (.int (nI (itR (fun s => gsI M n 0 s) n (M i))))) σ) : CTs (d + 1) y_Tx_allMovedBy [.ref 3, .int (nI i)] σ K := by
  refine e_Tx_allMovedBy rfl (t_Tx_allMovedBy_0 rfl ⟨vp_in_nI (by omega) (by omega), ?_⟩)
  have p16 := pw16 h16
  have hlt : ∀ b, b < n → M b < 2 ^ n := fun b hb => (hM b hb).2
  rw [nI_clamp (n := i) (by omega), show σ.1 (3 + 8) i = nI (M i) from (hM i hi).1]
  have k20 : ∀ (r : Nat) (X : Nat), (∀ y, y = X → WP c_Tx_allMovedBy (CTs d) K (9, [(0, .ref 3), (2, .int (nI y)), (3, .int (nI (r + 1)))], []) σ) → ∀ (c k x : Nat), k + c = n → x < 2 ^ n → gsI M c k x = X → WP c_Tx_allMovedBy (CTs d) K (20, [(0, .ref 3), (2, .int (nI x)), (3, .int (nI r)), (4, .int (nI k))], []) σ := by
    intro r X qq c
    induction c with
    | zero =>
      intro k x hk hx hX
      have ek : k = n := by omega
      refine t_Tx_allMovedBy_20 rfl ?_
      rw [hn, ek, nI_1]
      exact ifp (Int32.le_refl _) (qq x hX)
    | succ c ih =>
      intro k x hk hx hX
      refine t_Tx_allMovedBy_20 rfl ?_
      have hX' : gsI M c (k + 1) (if x.testBit k = true then x ||| M k else x) = X := hX
      rw [hn, nI_1 k, nI_clamp (n := k) (by omega)]
      refine ifn (nI_ge (by omega) (by omega)) ?_
      by_cases h : x.testBit k = true
      · rw [if_pos h] at hX'
        refine ifn (by rw [bit1 (by omega) (by omega) h]; decide) ⟨vp_in_nI (by omega) (by omega), ?_⟩
        rw [show σ.1 (3 + 8) k = nI (M k) from (hM k (by omega)).1, or_nI (by omega) (by have := hlt k (by omega); omega)]
        exact ih (k + 1) _ (by omega) (Nat.or_lt_two_pow hx (hlt k (by omega))) hX'
      · rw [if_neg h] at hX'
        exact ifp (bit0 (by omega) (by omega) h) (ih (k + 1) x (by omega) hx hX')
  have k9 : ∀ (c r x : Nat), r + c = n → x = itR (fun s => gsI M n 0 s) r (M i) → x < 2 ^ n → WP c_Tx_allMovedBy (CTs d) K (9, [(0, .ref 3), (2, .int (nI x)), (3, .int (nI r))], []) σ := by
    intro c
    induction c with
    | zero =>
      intro r x hr hx _
      have er : r = n := by omega
      refine t_Tx_allMovedBy_9 rfl ?_
      rw [hn, er]
      rw [er] at hx
      refine ifp (Int32.le_refl _) ?_
      rw [hx]; exact q
    | succ c ih =>
      intro r x hr hx hxl
      refine t_Tx_allMovedBy_9 rfl ?_
      rw [hn]
      refine ifn (nI_ge (by omega) (by omega)) (k20 r (gsI M n 0 x) (fun y hy => ih (r + 1) y (by omega) ?_ ?_) n 0 x (by omega) hxl rfl)
      · rw [hy, hx]; rfl
      · rw [hy]; exact gsI_lt hlt n 0 x (by omega) hxl
  exact k9 n 0 (M i) (by omega) rfl (hlt i hi)
theorem p_mreached {d : Nat} {K : Po} {σ : Hp} {n i : Nat} {M : Nat → Nat} (hn : σ.1 98 0 = nI n) (tw : TW n (σ.1 99) (σ.1 100)) (hM : ∀ b, b < n → Mk n (mvd n (σ.1 99) (σ.1 100) b) (M b)) (hi : i < n) (q : K (some (.int (nI (itR (fun s => jcI M s n 0 s) n (M i))))) σ) : CTs (d + 3) y_M_reached [.ref 98, .int (nI i)] σ K := by
  have h16 := tw.1
  have p16 := pw16 h16
  have hlt : ∀ b, b < n → M b < 2 ^ n := fun b hb => (hM b hb).2
  refine e_M_reached (t_M_reached_0 (p_isThing1 hn h16 hi (o1 (p_movedBy hn tw hi ?_))))
  rw [(hM i hi).1]
  have k32 : ∀ (r s : Nat), s < 2 ^ n → (∀ y, y = jcI M s n 0 s → WP c_M_reached (CTs (d + 2)) K (18, [(0, .ref 98), (2, .int (nI y)), (3, .int (nI (r + 1)))], []) σ) → ∀ (c k y : Nat), k + c = n → y < 2 ^ n → jcI M s c k y = jcI M s n 0 s → WP c_M_reached (CTs (d + 2)) K (32, [(0, .ref 98), (2, .int (nI s)), (3, .int (nI r)), (4, .int (nI y)), (5, .int (nI k))], []) σ := by
    intro r s hs qq c
    induction c with
    | zero =>
      intro k y hk hy hX
      have ek : k = n := by omega
      refine t_M_reached_32 ?_
      rw [hn, ek, nI_1]
      exact ifp (Int32.le_refl _) (qq y hX)
    | succ c ih =>
      intro k y hk hy hX
      refine t_M_reached_32 ?_
      have hX' : jcI M s c (k + 1) (if s.testBit k = true then y ||| M k else y) = jcI M s n 0 s := hX
      rw [hn, nI_1 k]
      refine ifn (nI_ge (by omega) (by omega)) ?_
      by_cases h : s.testBit k = true
      · rw [if_pos h] at hX'
        refine ifp (bit1 (by omega) (by omega) h) (p_movedBy hn tw (by omega) ?_)
        have e : oI (some (.int (mvd n (σ.1 99) (σ.1 100) k))) = nI (M k) := (hM k (by omega)).1
        rw [e, or_nI (by omega) (by have := hlt k (by omega); omega)]
        exact ih (k + 1) _ (by omega) (Nat.or_lt_two_pow hy (hlt k (by omega))) hX'
      · rw [if_neg h] at hX'
        refine ifn (by rw [bit0 (by omega) (by omega) h]; decide) ?_
        rw [Int32.or_zero]
        exact ih (k + 1) y (by omega) hy hX'
  have k18 : ∀ (c r x : Nat), r + c = n → x = itR (fun s => jcI M s n 0 s) r (M i) → x < 2 ^ n → WP c_M_reached (CTs (d + 2)) K (18, [(0, .ref 98), (2, .int (nI x)), (3, .int (nI r))], []) σ := by
    intro c
    induction c with
    | zero =>
      intro r x hr hx _
      have er : r = n := by omega
      refine t_M_reached_18 ?_
      rw [hn, er]
      rw [er] at hx
      refine ifp (Int32.le_refl _) ?_
      rw [hx]; exact q
    | succ c ih =>
      intro r x hr hx hxl
      refine t_M_reached_18 ?_
      rw [hn]
      refine ifn (nI_ge (by omega) (by omega)) (k32 r x hxl (fun y hy => ih (r + 1) y (by omega) ?_ ?_) n 0 x (by omega) hxl rfl)
      · rw [hy, hx]; rfl
      · rw [hy]; exact jcI_lt hlt n 0 x (by omega) hxl
  exact k18 n 0 (M i) (by omega) rfl (hlt i hi)
theorem mvd_M {n : Nat} {th sg : Nat → Int32} (tw : TW n th sg) : ∃ M : Nat → Nat, ∀ b, b < n → Mk n (mvd n th sg b) (M b) := by
  refine ⟨fun b => (mvd n th sg b).toNatClampNeg, fun b hb => ?_⟩
  obtain ⟨m, h1, h2⟩ := mvd_N tw hb
  have p16 := pw16 tw.1
  have e : (mvd n th sg b).toNatClampNeg = m := by rw [h1]; exact nI_clamp (by omega)
  exact ⟨by show _ = nI ((mvd n th sg b).toNatClampNeg); rw [e]; exact h1, by show (mvd n th sg b).toNatClampNeg < _; rw [e]; exact h2⟩
theorem op_reached : O_reached Rel := by
  intro σ a1 h
  obtain ⟨⟨n, now, ne, a, b, c, ⟨tw, cx, mw, cw, ps, h60⟩, wl⟩, -, -⟩ := id h
  have h16 := tw.1
  obtain ⟨M, hM⟩ := mvd_M tw
  refine e_SS_reached (t_SS_reached_0 ?_)
  rcases ixc a1 (n := n) (by omega) with z | ⟨i, hi, rfl⟩
  · exact p_has0 (Or.inl rfl) cx.1 z (o0 (e_M_reached (t_M_reached_0 (p_isThing0 a h16 z (o0 ⟨rfl, h⟩)))))
  · refine p_has1 (Or.inl rfl) cx.1 h16 hi (o1 (p_allMoved (M := M) h16 cx.n (fun b hb => by rw [cx.mv hb]; exact hM b hb) hi (p_mreached a tw hM hi ⟨?_, h⟩)))
    rw [rounds_eq (fun b hb => (hM b hb).2) (hM i hi).2]; rfl
