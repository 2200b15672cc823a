/-! ===== sums; stores never fall below nought ===== -/
theorem l_ss (x y a b : Int64) : (x - y) + (a - b) = (x + a) - (y + b) := by
  first
    | grind
    | (simp only [Int64.sub_eq_add_neg, Int64.neg_add]; ac_rfl)
theorem l_sub (x a b : Int64) : x - a + b = x + (b - a) := by
  first
    | grind
    | (simp only [Int64.sub_eq_add_neg]; ac_rfl)
theorem sm_congr {f g : Nat → Int64} : ∀ n, (∀ k, k < n → f k = g k) → sm n f = sm n g
  | 0, _ => rfl
  | n + 1, h => by
    show sm n f + f n = sm n g + g n
    rw [sm_congr n (fun k hk => h k (by omega)), h n (by omega)]
def smN : Nat → (Nat → Nat) → Nat
  | 0, _ => 0
  | k + 1, f => smN k f + f k
theorem sm_lN {f : Nat → Int64} {g : Nat → Nat} : ∀ n, (∀ k, k < n → f k = lN (g k)) → sm n f = lN (smN n g)
  | 0, _ => rfl
  | n + 1, h => by
    show sm n f + f n = lN (smN n g + g n)
    rw [sm_lN n (fun k hk => h k (by omega)), h n (by omega), lN_add]
theorem smN_le {f g : Nat → Nat} : ∀ n, (∀ k, k < n → f k ≤ g k) → smN n f ≤ smN n g
  | 0, _ => Nat.le_refl _
  | n + 1, h => by
    show smN n f + f n ≤ smN n g + g n
    have a := smN_le n (fun k hk => h k (by omega))
    have b := h n (by omega)
    omega
theorem smN_mul {f : Nat → Nat} {c : Nat} : ∀ n, smN n (fun k => f k * c) = smN n f * c
  | 0 => (Nat.zero_mul c).symm
  | n + 1 => by
    show smN n (fun k => f k * c) + f n * c = (smN n f + f n) * c
    rw [smN_mul n, Nat.add_mul]
theorem smN_bd {f : Nat → Nat} {B : Nat} : ∀ n, (∀ k, k < n → f k ≤ B) → smN n f ≤ n * B
  | 0, _ => Nat.zero_le _
  | n + 1, h => by
    show smN n f + f n ≤ (n + 1) * B
    have a := smN_bd n (fun k hk => h k (by omega))
    have b := h n (by omega)
    rw [Nat.succ_mul]
    omega
theorem sm_sub {f g : Nat → Int64} : ∀ n, sm n (fun k => f k - g k) = sm n f - sm n g
  | 0 => (Int64.sub_zero (0 : Int64)).symm
  | n + 1 => by
    show sm n (fun k => f k - g k) + (f n - g n) = (sm n f + f n) - (sm n g + g n)
    rw [sm_sub n, l_ss]
/-- values that stand: streams' and stores' are natural -/
def VN (n : Nat) (th V : Nat → Int32) : Prop := (∀ k, k < n → th (20 * k) = 3 → ∃ v, v < 2 ^ 31 ∧ V k = nI v) ∧ ∀ j, j < n → th (20 * j) = 1 → ∃ a, a ≤ 999999 ∧ V j = nI a
def AN (n : Nat) (th V : Nat → Int32) (j : Nat) : Nat := smN n (fun k => if th (20 * k) = 3 ∧ th (20 * k + 4) = nI j then sN (V k) else 0)
theorem sN_nI {v : Nat} (h : v < 2 ^ 31) : sN (nI v) = v := nI_clamp h
theorem allS_N {n : Nat} {th V : Nat → Int32} (hV : VN n th V) (j : Nat) : allS n th V (nI j) = lN (AN n th V j) := by
  refine sm_lN n (fun k hk => ?_)
  by_cases h : th (20 * k) = 3 ∧ th (20 * k + 4) = nI j
  · obtain ⟨v, hv, e⟩ := hV.1 k hk h.1
    rw [if_pos h, if_pos h, e, nI_l hv, sN_nI hv]
  · rw [if_neg h, if_neg h]; rfl
theorem AN_bd {n : Nat} {th V : Nat → Int32} (h16 : n ≤ 16) (hV : VN n th V) (j : Nat) : AN n th V j ≤ 2 ^ 35 := by
  have := smN_bd (f := fun k => if th (20 * k) = 3 ∧ th (20 * k + 4) = nI j then sN (V k) else 0) (B := 2 ^ 31) n (fun k hk => by
    show (if th (20 * k) = 3 ∧ th (20 * k + 4) = nI j then sN (V k) else 0) ≤ 2 ^ 31
    by_cases h : th (20 * k) = 3 ∧ th (20 * k + 4) = nI j
    · obtain ⟨v, hv, e⟩ := hV.1 k hk h.1
      rw [if_pos h, e, sN_nI hv]; omega
    · rw [if_neg h]; omega)
  unfold AN
  have h2 : n * 2 ^ 31 ≤ 16 * 2 ^ 31 := Nat.mul_le_mul_right _ h16
  omega
/-- a stream's share, as a natural number -/
def fN (n : Nat) (th V : Nat → Int32) (k : Nat) : Nat :=
  if th (20 * k + 4) < 0 then sN (V k)
  else if sN (V (sN (th (20 * k + 4)))) < AN n th V (sN (th (20 * k + 4))) then sN (V k) * sN (V (sN (th (20 * k + 4)))) / AN n th V (sN (th (20 * k + 4))) else sN (V k)
theorem fN_at {n : Nat} {th V : Nat → Int32} {k j : Nat} (hj : j < 2 ^ 31) (e : th (20 * k + 4) = nI j) : fN n th V k = if sN (V j) < AN n th V j then sN (V k) * sN (V j) / AN n th V j else sN (V k) := by
  unfold fN
  rw [e, sN_nI hj, if_neg (nI_pos hj)]
theorem div_small {v a A : Nat} (h : a < A) : v * a / A ≤ v := by
  have h1 : v * a ≤ v * A := Nat.mul_le_mul_left _ (by omega)
  have h2 : v * a / A ≤ v * A / A := Nat.div_le_div_right h1
  rw [Nat.mul_div_cancel _ (by omega)] at h2
  exact h2
theorem fl1_N {n : Nat} {th V : Nat → Int32} (h16 : n ≤ 16) (hV : VN n th V) (e4 : EndO n th 4) {k : Nat} (hk : k < n) (e3 : th (20 * k) = 3) : fl1 n th V k = nI (fN n th V k) ∧ fN n th V k < 2 ^ 31 := by
  obtain ⟨v, hv, ev⟩ := hV.1 k hk e3
  rcases e4 k hk e3 with e | ⟨j, hj, e, ej⟩
  · unfold fl1 fN
    rw [e, if_pos (by decide), if_pos (by decide), ev, sN_nI hv]
    exact ⟨rfl, hv⟩
  · rw [fN_at (j := j) (by omega) e]
    unfold fl1
    obtain ⟨a, ha, eja⟩ := hV.2 j hj ej
    have hA := AN_bd h16 hV j
    rw [e, if_neg (nI_pos (by omega)), sN_nI (by omega), allS_N hV, ev, eja, sN_nI hv, sN_nI (v := a) (by omega), nI_l (by omega), nI_l hv]
    by_cases hlt : a < AN n th V j
    · rw [if_pos ((pk_lLT (by omega) (by omega)).mpr hlt), if_pos hlt]
      have hm : v * a < 2 ^ 63 := Nat.lt_of_le_of_lt (Nat.mul_le_mul (Nat.le_of_lt hv) ha) (by decide)
      rw [lN_mul, pk_lDiv hm (by omega) (by omega), lN_i]
      have := div_small (v := v) hlt
      exact ⟨rfl, by omega⟩
    · rw [if_neg (fun z => hlt ((pk_lLT (by omega) (by omega)).mp z)), if_neg hlt]
      exact ⟨rfl, hv⟩
def inN (n : Nat) (th V : Nat → Int32) (i k : Nat) : Nat := if th (20 * k) = 3 ∧ th (20 * k + 5) = nI i then fN n th V k else 0
def ouN (n : Nat) (th V : Nat → Int32) (i k : Nat) : Nat := if th (20 * k) = 3 ∧ th (20 * k + 4) = nI i then fN n th V k else 0
theorem goes_N {n : Nat} {th V : Nat → Int32} (h16 : n ≤ 16) (hV : VN n th V) (e4 : EndO n th 4) (i : Nat) : goes n th V i = lN (smN n (inN n th V i)) - lN (smN n (ouN n th V i)) := by
  rw [← sm_lN (f := fun k => lN (inN n th V i k)) n (fun _ _ => rfl), ← sm_lN (f := fun k => lN (ouN n th V i k)) n (fun _ _ => rfl), ← sm_sub n]
  refine sm_congr n (fun k hk => ?_)
  show (if th (20 * k) = 3 then (if th (20 * k + 5) = nI i then (fl1 n th V k).toInt64 else 0) - (if th (20 * k + 4) = nI i then (fl1 n th V k).toInt64 else 0) else 0) = lN (inN n th V i k) - lN (ouN n th V i k)
  unfold inN ouN
  by_cases e3 : th (20 * k) = 3
  · obtain ⟨h1, h2⟩ := fl1_N h16 hV e4 hk e3
    rw [if_pos e3, h1, nI_l h2]
    by_cases h5 : th (20 * k + 5) = nI i
    · by_cases h4 : th (20 * k + 4) = nI i
      · rw [if_pos h5, if_pos h4, if_pos ⟨e3, h5⟩, if_pos ⟨e3, h4⟩]
      · rw [if_pos h5, if_neg h4, if_pos ⟨e3, h5⟩, if_neg (fun z => h4 z.2)]; rfl
    · by_cases h4 : th (20 * k + 4) = nI i
      · rw [if_neg h5, if_pos h4, if_neg (fun z => h5 z.2), if_pos ⟨e3, h4⟩]; rfl
      · rw [if_neg h5, if_neg h4, if_neg (fun z => h5 z.2), if_neg (fun z => h4 z.2)]; rfl
  · rw [if_neg e3, if_neg (fun z => e3 z.1), if_neg (fun z => e3 z.1)]; decide
/-- what goes out of a store is no more than it holds -/
theorem ou_le {n : Nat} {th V : Nat → Int32} (h16 : n ≤ 16) {i a : Nat} (hi : i < n) (hV : VN n th V) (ha : a ≤ 999999) (e : V i = nI a) : smN n (ouN n th V i) ≤ a := by
  have hA := AN_bd h16 hV i
  by_cases hlt : a < AN n th V i
  · have h1 : smN n (fun k => ouN n th V i k * AN n th V i) ≤ smN n (fun k => (if th (20 * k) = 3 ∧ th (20 * k + 4) = nI i then sN (V k) else 0) * a) := smN_le n (fun k hk => by
      show ouN n th V i k * AN n th V i ≤ (if th (20 * k) = 3 ∧ th (20 * k + 4) = nI i then sN (V k) else 0) * a
      unfold ouN
      by_cases h : th (20 * k) = 3 ∧ th (20 * k + 4) = nI i
      · rw [if_pos h, if_pos h, fN_at (by omega) h.2, e, sN_nI (by omega), if_pos hlt]
        exact Nat.div_mul_le_self _ _
      · rw [if_neg h, if_neg h, Nat.zero_mul]; exact Nat.zero_le _)
    rw [smN_mul, smN_mul] at h1
    have h2 : smN n (ouN n th V i) * AN n th V i ≤ a * AN n th V i := Nat.le_trans h1 (by rw [Nat.mul_comm]; exact Nat.le_refl _)
    exact Nat.le_of_mul_le_mul_right h2 (by omega)
  · have h1 : smN n (ouN n th V i) ≤ AN n th V i := smN_le n (fun k hk => by
      unfold ouN
      by_cases h : th (20 * k) = 3 ∧ th (20 * k + 4) = nI i
      · rw [if_pos h, if_pos h, fN_at (by omega) h.2, e, sN_nI (by omega), if_neg hlt]; exact Nat.le_refl _
      · rw [if_neg h]; exact Nat.zero_le _)
    omega
theorem in_bd {n : Nat} {th V : Nat → Int32} (h16 : n ≤ 16) (hV : VN n th V) (e4 : EndO n th 4) (i : Nat) : smN n (inN n th V i) ≤ 2 ^ 35 := by
  have := smN_bd (f := inN n th V i) (B := 2 ^ 31) n (fun k hk => by
    unfold inN
    by_cases h : th (20 * k) = 3 ∧ th (20 * k + 5) = nI i
    · rw [if_pos h]; exact Nat.le_of_lt (fl1_N h16 hV e4 hk h.1).2
    · rw [if_neg h]; omega)
  have h2 : n * 2 ^ 31 ≤ 16 * 2 ^ 31 := Nat.mul_le_mul_right _ h16
  omega
theorem lev_N {n : Nat} {th am V : Nat → Int32} (h16 : n ≤ 16) (hV : VN n th V) (e4 : EndO n th 4) {i a : Nat} (hi : i < n) (ha : a ≤ 999999) (e : V i = nI a) (ea : am i = nI a) : ∃ x, x < 2 ^ 40 ∧ lev n th am V i = lN x := by
  have h1 := ou_le h16 hi hV ha e
  have h2 := in_bd h16 hV e4 i
  refine ⟨a + smN n (inN n th V i) - smN n (ouN n th V i), by omega, ?_⟩
  unfold lev
  rw [ea, nI_l (by omega), goes_N h16 hV e4 i]
  have h3 : lN a + (lN (smN n (inN n th V i)) - lN (smN n (ouN n th V i))) = (lN a + lN (smN n (inN n th V i))) - lN (smN n (ouN n th V i)) := by
    first
      | grind
      | (simp only [Int64.sub_eq_add_neg]; ac_rfl)
  rw [h3, lN_add, lN_sub (by omega)]
theorem vto_VN {n now : Nat} {th sg am mem : Nat → Int32} (tw : TW n th sg) (hst : ∀ i, i < n → th (20 * i) = 1 → ∃ a, a ≤ 999999 ∧ am i = nI a) : VN n th (vto th sg am mem now n) := by
  refine ⟨fun k hk e3 => ?_, fun j hj e1 => ?_⟩
  · rw [vv_fix tw hk]
    unfold val1
    rw [if_neg (by rw [e3]; decide), if_neg (by rw [e3]; decide), if_pos e3]
    by_cases h : wrk th sg (vto th sg am mem now n) k < 0
    · rw [if_pos h]; exact ⟨0, by omega, rfl⟩
    · rw [if_neg h]; exact nI_of h
  · rw [vv_fix tw hj]
    unfold val1
    rw [if_pos (Or.inl e1)]
    exact hst j hj e1
theorem vto_st {n now : Nat} {th sg am mem : Nat → Int32} (tw : TW n th sg) {j : Nat} (hj : j < n) (e : th (20 * j) = 1 ∨ th (20 * j) = 5) : vto th sg am mem now n j = am j := by
  rw [vv_fix tw hj]
  unfold val1
  rw [if_pos e]
/-! ===== one step, as a whole ===== -/
def capL (x : Int64) : Int64 := if 999999 < x then 999999 else x
def spl (n : Nat) (th am V : Nat → Int32) (i : Nat) : Int64 := if th (20 * i) = 1 ∧ 999999 < lev n th am V i then lev n th am V i - 999999 else 0
def chg (n : Nat) (th am V : Nat → Int32) : Nat → Int32
  | 0 => 0
  | k + 1 => if chg n th am V k = 0 then (if th (20 * k) = 1 ∧ ¬ capL (lev n th am V k) = (am k).toInt64 then 1 else 0) else 1
def mst (th sg V : Nat → Int32) (now : Nat) (mem : Nat → Int32) : Nat → Nat → Int32
  | 0 => mem
  | k + 1 => if th (20 * k) = 2 then upd (mst th sg V now mem k) (10 * k + now % 10) (wrk th sg V k) else mst th sg V now mem k
def pouK (n : Nat) (th am V : Nat → Int32) (k i : Nat) : Int32 := if i < k ∧ th (20 * i) = 1 then (capL (lev n th am V i)).toInt32 else am i
def amS (n : Nat) (th sg am mem : Nat → Int32) (now ne : Nat) (ev : Nat → Int32) : Nat → Int32 := evIn ev (now + 1) ne (pouK n th am (vto th sg am mem now n) n)
def memS (n : Nat) (th sg am mem : Nat → Int32) (now : Nat) : Nat → Int32 := mst th sg (vto th sg am mem now n) now mem n
def spS (n : Nat) (th sg am mem : Nat → Int32) (now : Nat) (sp : Int64) : Int64 := sp + sm n (spl n th am (vto th sg am mem now n))
def caF (n : Nat) (th V : Nat → Int32) (w k : Nat) : Int64 := if th (20 * k) = 3 ∧ th (20 * k + w) < 0 then (fl1 n th V k).toInt64 else 0
def caS (n : Nat) (th sg am mem : Nat → Int32) (now w : Nat) (ca : Int64) : Int64 := ca + sm n (caF n th (vto th sg am mem now n) w)
def chS (n : Nat) (th sg am mem : Nat → Int32) (now : Nat) : Int32 := chg n th am (vto th sg am mem now n) n
theorem chg_b {n : Nat} {th am V : Nat → Int32} : ∀ k, vb (chg n th am V k)
  | 0 => vb0
  | k + 1 => by
    show vb (if chg n th am V k = 0 then _ else _)
    by_cases h : chg n th am V k = 0
    · rw [if_pos h]
      by_cases h2 : th (20 * k) = 1 ∧ ¬ capL (lev n th am V k) = (am k).toInt64
      · rw [if_pos h2]; exact vb1
      · rw [if_neg h2]; exact vb0
    · rw [if_neg h]; exact vb1
theorem evIn_off {n ne : Nat} {th ev am : Nat → Int32} {t : Nat} (hE : ∀ e, e < ne → ∃ j, j < n ∧ ev (3 * e + 1) = nI j ∧ th (20 * j) = 5) (h16 : n ≤ 16) {i : Nat} (hi : i < n) (h5 : ¬ th (20 * i) = 5) : ∀ e, e ≤ ne → evIn ev t e am i = am i
  | 0, _ => rfl
  | e + 1, he => by
    show (if ev (3 * e) = nI t then upd (evIn ev t e am) (sN (ev (3 * e + 1))) (ev (3 * e + 2)) else evIn ev t e am) i = am i
    have ih := evIn_off (am := am) (t := t) hE h16 hi h5 e (by omega)
    by_cases h : ev (3 * e) = nI t
    · obtain ⟨j, hj, e1, e2⟩ := hE e (by omega)
      rw [if_pos h, e1, sN_nI (by omega), pk_un (fun z => h5 (by rw [z]; exact e2))]
      exact ih
    · rw [if_neg h]; exact ih
theorem MW.step {n now ne : Nat} {th sg am mem ev : Nat → Int32} (tw : TW n th sg) (mw : MW n th am ne ev) : MW n th (amS n th sg am mem now ne ev) ne ev := by
  refine ⟨fun i hi e1 => ?_, mw.2⟩
  unfold amS
  rw [evIn_off mw.2.2 tw.1 hi (fun z => absurd (e1.symm.trans z) (by decide)) ne (Nat.le_refl _)]
  unfold pouK
  rw [if_pos ⟨hi, e1⟩]
  obtain ⟨a, ha, ea⟩ := mw.1 i hi e1
  have hV := vto_VN (now := now) (mem := mem) tw mw.1
  obtain ⟨x, hx, ex⟩ := lev_N (am := am) tw.1 hV tw.e4 hi ha ((vto_st tw hi (Or.inl e1)).trans ea) ea
  unfold capL
  rw [ex]
  by_cases h : (999999 : Int64) < lN x
  · rw [if_pos h]; exact ⟨999999, by omega, by decide⟩
  · rw [if_neg h, lN_i]
    exact ⟨x, by
      have h2 : ¬ 999999 < x := fun z => h ((pk_lLT (a := 999999) (by omega) (by omega)).mpr z)
      omega, rfl⟩
