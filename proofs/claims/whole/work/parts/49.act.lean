/-! ===== acts ===== -/
def lat (l : List Int32) (j : Nat) : Int32 := l.getD j 0
theorem lat_old {l : List Int32} {b : Int32} {j : Nat} (h : j < l.length) : lat (l ++ [b]) j = lat l j := by
  unfold lat
  rw [List.getD_eq_getElem?_getD, List.getD_eq_getElem?_getD, List.getElem?_append_left h]
theorem lat_new {l : List Int32} {b : Int32} : lat (l ++ [b]) l.length = b := by
  unfold lat
  rw [List.getD_eq_getElem?_getD, List.getElem?_append_right (Nat.le_refl _), Nat.sub_self]
  rfl
/-- the class's doing: number, letters, the bodies so far, whether parted -/
def DoS (nu L : Int32) (l : List Int32) (p : Int32) (σ : Hp) : Prop := σ.1 88 0 = nu ∧ σ.1 88 1 = L ∧ σ.1 88 2 = p ∧ σ.1 88 3 = nI l.length ∧ ∀ j, j < l.length → σ.1 89 j = lat l j
def MoS (kd nu L : Int32) (l : List Int32) (p : Int32) (σ : Hp) : Prop := σ.1 98 50 = kd ∧ σ.1 98 51 = nu ∧ σ.1 98 52 = L ∧ σ.1 98 55 = p ∧ σ.1 98 54 = nI l.length ∧ ∀ j, j < l.length → σ.1 125 j = lat l j
def FrD (σ τ : Hp) : Prop := τ.2 = σ.2 ∧ ∀ c, c ≠ 88 → c ≠ 89 → τ.1 c = σ.1 c
def FrE (σ τ : Hp) : Prop := τ.2 = σ.2 ∧ (∀ c, c ≠ 98 → c ≠ 125 → τ.1 c = σ.1 c) ∧ ∀ x, x ≠ 54 → x ≠ 55 → τ.1 98 x = σ.1 98 x
theorem FrD.rf {σ : Hp} : FrD σ σ := ⟨rfl, fun _ _ _ => rfl⟩
theorem FrD.tr {σ τ u : Hp} (h1 : FrD σ τ) (h2 : FrD τ u) : FrD σ u := ⟨h2.1.trans h1.1, fun c a b => (h2.2 c a b).trans (h1.2 c a b)⟩
theorem FrE.rf {σ : Hp} : FrE σ σ := ⟨rfl, fun _ _ _ => rfl, fun _ _ _ => rfl⟩
theorem FrE.tr {σ τ u : Hp} (h1 : FrE σ τ) (h2 : FrE τ u) : FrE σ u := ⟨h2.1.trans h1.1, fun c a b => (h2.2.1 c a b).trans (h1.2.1 c a b), fun x a b => (h2.2.2 x a b).trans (h1.2.2 x a b)⟩
theorem p_beg {d : Nat} {K : Po} {σ : Hp} {nu L b : Int32} {l : List Int32} (ds : DoS nu L l 0 σ) (hl : l.length < 30) (q : ∀ τ : Hp, FrD σ τ → DoS nu L (l ++ [b]) 0 τ → K none τ) : CTs (d + 1) y_Do_begins [.ref 88, .int b] σ K := by
  obtain ⟨d0, d1, d2, d3, dr⟩ := ds
  refine e_Do_begins (t_Do_begins_0 ?_)
  rw [d3, nI_1, nI_clamp (n := l.length) (by omega)]
  refine ifp d2 (ifp (nI_lt (b := 30) hl (by omega)) ⟨vp_in_nI hl (by omega), q _ ⟨rfl, fun c h1 h2 => by rw [sI_r, if_neg h1, sI_r, if_neg h2]⟩ ⟨?_, ?_, ?_, ?_, fun j hj => ?_⟩⟩)
  · rw [sI_r, if_pos rfl, upd_r, if_neg (by decide), sI_r, if_neg (by decide)]; exact d0
  · rw [sI_r, if_pos rfl, upd_r, if_neg (by decide), sI_r, if_neg (by decide)]; exact d1
  · rw [sI_r, if_pos rfl, upd_r, if_neg (by decide), sI_r, if_neg (by decide)]; exact d2
  · rw [sI_r, if_pos rfl, pk_us, List.length_append]; rfl
  · rw [List.length_append] at hj
    have hj' : j < l.length + 1 := hj
    rw [sI_r, if_neg (by decide), sI_r, if_pos rfl, upd_r]
    by_cases e : j = l.length
    · rw [if_pos e, e, lat_new]
    · rw [if_neg e, lat_old (by omega)]; exact dr j (by omega)
theorem p_begP {d : Nat} {K : Po} {σ : Hp} {nu L b : Int32} {l : List Int32} (ds : DoS nu L l 1 σ) (q : K none σ) : CTs (d + 1) y_Do_begins [.ref 88, .int b] σ K := by
  refine e_Do_begins (t_Do_begins_0 (ifn ?_ q))
  rw [ds.2.2.1]; decide
theorem p_ran {d : Nat} {K : Po} {σ : Hp} {kd nu L p b : Int32} {l : List Int32} (ds : MoS kd nu L l p σ) (hl : l.length < 30) (q : ∀ τ : Hp, FrE σ τ → MoS kd nu L (l ++ [b]) p τ → K none τ) : CTs (d + 1) y_M_ran [.ref 98, .int b] σ K := by
  obtain ⟨d0, d1, d2, d3, d4, dr⟩ := ds
  refine e_M_ran (t_M_ran_0 ?_)
  rw [d4, nI_1, nI_clamp (n := l.length) (by omega)]
  refine ifn (nI_ge (b := 30) hl (by omega)) ⟨vp_in_nI hl (by omega), q _ ⟨rfl, fun c h1 h2 => by rw [sI_r, if_neg h1, sI_r, if_neg h2], fun x h1 _ => by rw [sI_r, if_pos rfl, upd_r, if_neg h1, sI_r, if_neg (by decide)]⟩ ⟨?_, ?_, ?_, ?_, ?_, fun j hj => ?_⟩⟩
  · rw [sI_r, if_pos rfl, upd_r, if_neg (by decide), sI_r, if_neg (by decide)]; exact d0
  · rw [sI_r, if_pos rfl, upd_r, if_neg (by decide), sI_r, if_neg (by decide)]; exact d1
  · rw [sI_r, if_pos rfl, upd_r, if_neg (by decide), sI_r, if_neg (by decide)]; exact d2
  · rw [sI_r, if_pos rfl, upd_r, if_neg (by decide), sI_r, if_neg (by decide)]; exact d3
  · rw [sI_r, if_pos rfl, pk_us, List.length_append]; rfl
  · rw [List.length_append] at hj
    have hj' : j < l.length + 1 := hj
    rw [sI_r, if_neg (by decide), sI_r, if_pos rfl, upd_r]
    by_cases e : j = l.length
    · rw [if_pos e, e, lat_new]
    · rw [if_neg e, lat_old (by omega)]; exact dr j (by omega)
/-! what each act comes to -/
def rdL (k : Nat) : List Int32 := if k = 2 then [30, 10] else if k = 4 then [50, 10] else if k = 5 ∨ k = 6 then [60, 10] else [10]
def rdV (k : Nat) (nu x : Int32) : Int32 := if k = 2 then (x + nu) * 3 else if k = 4 then 0 - (x + nu) else if k = 5 ∨ k = 6 then (x + nu) - 4 else x + nu
def pz (nu L : Int32) : Int32 := if L = nu then 1 else 0
def utL (k : Nat) (nu L : Int32) : List Int32 := if k = 3 then [40, 12] else if k = 4 then (if L = nu then [51, 40, 12] else [51, 40, 12, 50, 10]) else [12]
def utV (k : Nat) (nu L x : Int32) : Int32 := if k = 3 then ((x + 2) / (L - nu)) ^^^ 1 else if k = 4 then (((x + 2) / (L - nu)) ^^^ 1) + rdV 4 nu nu else x / (L - nu)
def stL (k : Nat) (nu L : Int32) : List Int32 := if k = 1 ∨ k = 2 then [20, 11] ++ rdL k else if k = 6 then [70, 11] ++ rdL 6 ++ [12] else [11] ++ rdL k
def stV (k : Nat) (nu L x : Int32) : Int32 := if k = 1 ∨ k = 2 then rdV k nu x * 2 - L else if k = 6 then rdV 6 nu x * 2 + L / (L - nu) else rdV k nu x * 2
def stP (k : Nat) (nu L : Int32) : Int32 := if k = 6 then pz nu L else 0
def tlL (k : Nat) (nu L : Int32) : List Int32 := if k = 2 then [31, 13] ++ stL 2 nu L ++ [12] else if k = 6 then [71, 13] ++ stL 6 nu L else [13] ++ stL k nu L
def tlV (k : Nat) (nu L x : Int32) : Int32 := if k = 2 then (stV 2 nu L x ^^^ L) + nu / (L - nu) else if k = 6 then (stV 6 nu L x ^^^ L) * 2 else stV k nu L x ^^^ L
def tlP (k : Nat) (nu L : Int32) : Int32 := if k = 2 ∨ k = 6 then pz nu L else 0
theorem cK {k : Nat} (h1 : 1 ≤ k) (h6 : k ≤ 6) : (91 + k = 91) ∨ (91 + k = 92) ∨ (91 + k = 93) ∨ (91 + k = 94) ∨ (91 + k = 95) ∨ (91 + k = 96) ∨ (91 + k = 97) := by omega
theorem app2 (l : List Int32) (a b : Int32) : l ++ [a] ++ [b] = l ++ [a, b] := by rw [List.append_assoc]; rfl
theorem p_Thr {d : Nat} {K : Po} {σ : Hp} {k : Nat} {nu L x : Int32} {l : List Int32} (h1 : 1 ≤ k) (h6 : k ≤ 6) (ds : DoS nu L l 0 σ) (hl : l.length < 30) (q : ∀ τ : Hp, FrD σ τ → DoS nu L (l ++ [10]) 0 τ → K (some (.int (x + nu))) τ) : CTs (d + 2) y_Th_reads [.ref (91 + k), .ref 88, .int x] σ K := by
  refine e_Th_reads (cK h1 h6) (t_Th_reads_0 (cK h1 h6) (p_beg ds hl (fun τ f dt => ?_)))
  rw [dt.1]
  exact q τ f dt
theorem c_reads {d : Nat} {K : Po} {σ : Hp} {k : Nat} {nu L x : Int32} {l : List Int32} (h1 : 1 ≤ k) (h6 : k ≤ 6) (ds : DoS nu L l 0 σ) (hl : l.length < 20) (q : ∀ τ : Hp, FrD σ τ → DoS nu L (l ++ rdL k) 0 τ → K (some (.int (rdV k nu x))) τ) : CTs (d + 3) (d_reads (91 + k)) [.ref (91 + k), .ref 88, .int x] σ K := by
  have hl1 : ∀ b : Int32, (l ++ [b]).length < 30 := fun b => by rw [List.length_append]; show l.length + 1 < 30; omega
  match k, h1, h6, q with
  | 1, _, _, q => exact p_Thr (k := 1) (by omega) (by omega) ds (by omega) q
  | 2, _, _, q => exact e_De_reads rfl (t_De_reads_0 rfl (p_beg ds (by omega) (fun τ f dt => p_Thr (k := 2) (by omega) (by omega) dt (hl1 _) (fun u fu du => q u (f.tr fu) (by rw [app2] at du; exact du)))))
  | 3, _, _, q => exact p_Thr (k := 3) (by omega) (by omega) ds (by omega) q
  | 4, _, _, q => exact e_Tb_reads rfl (t_Tb_reads_0 rfl (p_beg ds (by omega) (fun τ f dt => p_Thr (k := 4) (by omega) (by omega) dt (hl1 _) (fun u fu du => q u (f.tr fu) (by rw [app2] at du; exact du)))))
  | 5, _, _, q => exact e_He_reads (Or.inl rfl) (t_He_reads_0 (Or.inl rfl) (p_beg ds (by omega) (fun τ f dt => p_Thr (k := 5) (by omega) (by omega) dt (hl1 _) (fun u fu du => q u (f.tr fu) (by rw [app2] at du; exact du)))))
  | 6, _, _, q => exact e_He_reads (Or.inr rfl) (t_He_reads_0 (Or.inr rfl) (p_beg ds (by omega) (fun τ f dt => p_Thr (k := 6) (by omega) (by omega) dt (hl1 _) (fun u fu du => q u (f.tr fu) (by rw [app2] at du; exact du)))))
theorem c_tsteps {d : Nat} {K : Po} {σ : Hp} {k : Nat} {nu L x : Int32} {l : List Int32} (h1 : 1 ≤ k) (h6 : k ≤ 6) (ds : DoS nu L l 0 σ) (hl : l.length < 15) (q : ∀ τ : Hp, FrD σ τ → DoS nu L (l ++ [11] ++ rdL k) 0 τ → K (some (.int (rdV k nu x * 2))) τ) : CTs (d + 4) y_Th_steps [.ref (91 + k), .ref 88, .int x] σ K :=
  e_Th_steps (cK h1 h6) (t_Th_steps_0 (cK h1 h6) (p_beg ds (by omega) (fun τ f dt => c_reads h1 h6 dt (by rw [List.length_append]; show l.length + 1 < 20; omega) (fun u fu du => q u (f.tr fu) du))))
theorem c_tunits {d : Nat} {K : Po} {σ : Hp} {k : Nat} {nu L x : Int32} {l : List Int32} (h1 : 1 ≤ k) (h6 : k ≤ 6) (ds : DoS nu L l 0 σ) (hl : l.length < 30) (q : ∀ (v : Int32) (τ : Hp), FrD σ τ → DoS nu L (l ++ [12]) (pz nu L) τ → (¬ L = nu → v = x / (L - nu)) → K (some (.int v)) τ) : CTs (d + 2) y_Th_units [.ref (91 + k), .ref 88, .int x] σ K := by
  refine e_Th_units (cK h1 h6) (t_Th_units_0 (cK h1 h6) (p_beg ds hl (fun τ f dt => ?_)))
  rw [dt.1, dt.2.1]
  have hz : L - nu = 0 ↔ L = nu := ⟨fun e => by
    have := congrArg (fun z => z + nu) e
    simpa using this, fun e => by rw [e, Int32.sub_self]⟩
  refine ite2 (fun e => ⟨vb1, q 0 _ (f.tr ⟨rfl, fun c h1 _ => by rw [sI_r, if_neg h1]⟩) ?_ (fun z => absurd (hz.mp e) z)⟩) (fun e => ⟨e, q _ τ f ?_ (fun _ => rfl)⟩)
  · obtain ⟨d0, d1, d2, d3, dr⟩ := dt
    unfold pz
    rw [if_pos (hz.mp e)]
    exact ⟨by rw [sI_r, if_pos rfl, upd_r, if_neg (by decide)]; exact d0, by rw [sI_r, if_pos rfl, upd_r, if_neg (by decide)]; exact d1, by rw [sI_r, if_pos rfl, pk_us], by rw [sI_r, if_pos rfl, upd_r, if_neg (by decide)]; exact d3, fun j hj => by rw [sI_r, if_neg (by decide)]; exact dr j hj⟩
  · unfold pz
    rw [if_neg (fun z => e (hz.mpr z))]
    exact dt
theorem c_units {d : Nat} {K : Po} {σ : Hp} {k : Nat} {nu L x : Int32} {l : List Int32} (h1 : 1 ≤ k) (h6 : k ≤ 6) (ds : DoS nu L l 0 σ) (hl : l.length < 15) (q : ∀ (v : Int32) (τ : Hp), FrD σ τ → DoS nu L (l ++ utL k nu L) (pz nu L) τ → (¬ L = nu → v = utV k nu L x) → K (some (.int v)) τ) : CTs (d + 4) (d_units (91 + k)) [.ref (91 + k), .ref 88, .int x] σ K := by
  have hl1 : ∀ b : Int32, (l ++ [b]).length < 30 := fun b => by rw [List.length_append]; show l.length + 1 < 30; omega
  have hl2 : ∀ b c : Int32, (l ++ [b] ++ [c]).length < 30 := fun b c => by rw [List.length_append, List.length_append]; show l.length + 1 + 1 < 30; omega
  match k, h1, h6, q with
  | 1, _, _, q => exact c_tunits (k := 1) (by omega) (by omega) ds (by omega) q
  | 2, _, _, q => exact c_tunits (k := 2) (by omega) (by omega) ds (by omega) q
  | 3, _, _, q => exact e_Sr_units (Or.inl rfl) (t_Sr_units_0 (Or.inl rfl) (p_beg ds (by omega) (fun τ f dt => c_tunits (k := 3) (by omega) (by omega) dt (hl1 _) (fun v u fu du hv => q _ u (f.tr fu) (by rw [app2] at du; exact du) (fun hne => by rw [show oI (some (.int v)) = v from rfl, hv hne]; rfl)))))
  | 4, _, _, q =>
    refine e_Tb_units rfl (t_Tb_units_0 rfl (p_beg ds (by omega) (fun τ f dt => e_Sr_units (Or.inr rfl) (t_Sr_units_0 (Or.inr rfl) (p_beg dt (hl1 _) (fun τ2 f2 dt2 => c_tunits (k := 4) (by omega) (by omega) dt2 (hl2 _ _) (fun v u fu du hv => ?_)))))))
    have e3 : l ++ [51] ++ [40] ++ [12] = l ++ [51, 40, 12] := by rw [app2, List.append_assoc]; rfl
    rw [e3] at du
    rw [du.1]
    unfold pz at du q
    unfold utL at q
    by_cases e : L = nu
    · rw [if_pos e] at du q
      rw [if_neg (by decide), if_pos rfl, if_pos e] at q
      refine e_Tb_reads rfl (t_Tb_reads_0 rfl (p_begP du (e_Th_reads (Or.inr (Or.inr (Or.inr (Or.inr (Or.inl rfl))))) (t_Th_reads_0 (Or.inr (Or.inr (Or.inr (Or.inr (Or.inl rfl))))) (p_begP du ?_)))))
      exact q _ u ((f.tr f2).tr fu) du (fun z => absurd e z)
    · rw [if_neg e] at du q
      rw [if_neg (by decide), if_pos rfl, if_neg e] at q
      refine c_reads (k := 4) (by omega) (by omega) du (by rw [List.length_append]; show l.length + 3 < 20; omega) (fun y fy dy => q _ y (((f.tr f2).tr fu).tr fy) (by rw [List.append_assoc] at dy; exact dy) (fun hne => by rw [show oI (some (.int (oI (some (.int v)) ^^^ 1))) = v ^^^ 1 from rfl, hv hne]; rfl))
  | 5, _, _, q => exact c_tunits (k := 5) (by omega) (by omega) ds (by omega) q
  | 6, _, _, q => exact c_tunits (k := 6) (by omega) (by omega) ds (by omega) q
theorem app3 (l a b : List Int32) : l ++ a ++ b = l ++ (a ++ b) := List.append_assoc l a b
theorem rdL_len (k : Nat) : (rdL k).length ≤ 2 := by
  unfold rdL
  by_cases h2 : k = 2
  · rw [if_pos h2]; decide
  · rw [if_neg h2]
    by_cases h4 : k = 4
    · rw [if_pos h4]; decide
    · rw [if_neg h4]
      by_cases h5 : k = 5 ∨ k = 6
      · rw [if_pos h5]; decide
      · rw [if_neg h5]; decide
theorem c_steps {d : Nat} {K : Po} {σ : Hp} {k : Nat} {nu L x : Int32} {l : List Int32} (h1 : 1 ≤ k) (h6 : k ≤ 6) (ds : DoS nu L l 0 σ) (hl : l.length < 8) (q : ∀ (v : Int32) (τ : Hp), FrD σ τ → DoS nu L (l ++ stL k nu L) (stP k nu L) τ → (stP k nu L = 0 → v = stV k nu L x) → K (some (.int v)) τ) : CTs (d + 5) (d_steps (91 + k)) [.ref (91 + k), .ref 88, .int x] σ K := by
  have hl1 : ∀ b : Int32, (l ++ [b]).length < 15 := fun b => by rw [List.length_append]; show l.length + 1 < 15; omega
  have st : ∀ k : Nat, 1 ≤ k → k ≤ 2 → (∀ (v : Int32) (τ : Hp), FrD σ τ → DoS nu L (l ++ stL k nu L) (stP k nu L) τ → (stP k nu L = 0 → v = stV k nu L x) → K (some (.int v)) τ) → CTs (d + 5) y_St_steps [.ref (91 + k), .ref 88, .int x] σ K := fun k k1 k2 q => by
    have hs : 91 + k = 92 ∨ 91 + k = 93 := by omega
    refine e_St_steps hs (t_St_steps_0 hs (p_beg ds (by omega) (fun τ f dt => c_tsteps (by omega) (by omega) dt (hl1 _) (fun u fu du => ?_))))
    rw [du.2.1]
    refine q _ u (f.tr fu) ?_ (fun _ => ?_)
    · unfold stL stP
      rw [if_pos (by omega), if_neg (by omega)]
      rw [app2, app3] at du; exact du
    · unfold stV; rw [if_pos (by omega)]; rfl
  have pl : ∀ k : Nat, 3 ≤ k → k ≤ 5 → (∀ (v : Int32) (τ : Hp), FrD σ τ → DoS nu L (l ++ stL k nu L) (stP k nu L) τ → (stP k nu L = 0 → v = stV k nu L x) → K (some (.int v)) τ) → CTs (d + 5) y_Th_steps [.ref (91 + k), .ref 88, .int x] σ K := fun k k1 k2 q => by
    refine c_tsteps (by omega) (by omega) ds (by omega) (fun u fu du => q _ u fu ?_ (fun _ => ?_))
    · unfold stL stP
      rw [if_neg (by omega), if_neg (by omega), if_neg (by omega)]
      rw [app3] at du; exact du
    · unfold stV; rw [if_neg (by omega), if_neg (by omega)]
  match k, h1, h6, q with
  | 1, _, _, q => exact st 1 (by omega) (by omega) q
  | 2, _, _, q => exact st 2 (by omega) (by omega) q
  | 3, _, _, q => exact pl 3 (by omega) (by omega) q
  | 4, _, _, q => exact pl 4 (by omega) (by omega) q
  | 5, _, _, q => exact pl 5 (by omega) (by omega) q
  | 6, _, _, q =>
    refine e_Hl_steps rfl (t_Hl_steps_0 rfl (p_beg ds (by omega) (fun τ f dt => c_tsteps (k := 6) (by omega) (by omega) dt (hl1 _) (fun u fu du => ?_))))
    rw [du.2.1]
    refine c_tunits (k := 6) (by omega) (by omega) du (by rw [List.length_append, List.length_append, List.length_append]; have := rdL_len 6; show l.length + 1 + 1 + _ < 30; omega) (fun v y fy dy hv => q _ y ((f.tr fu).tr fy) ?_ (fun hp => ?_))
    · rw [app2, app3, app3] at dy
      exact dy
    · have hne : ¬ L = nu := fun e => by
        have hp' : pz nu L = 0 := hp
        unfold pz at hp'
        rw [if_pos e] at hp'
        exact absurd hp' (by decide)
      rw [show oI (some (.int v)) = v from rfl, hv hne]; rfl
theorem stL_len (k : Nat) (nu L : Int32) : (stL k nu L).length ≤ 5 := by
  have := rdL_len k
  have h6 := rdL_len 6
  unfold stL
  by_cases h : k = 1 ∨ k = 2
  · rw [if_pos h, List.length_append]; show 2 + _ ≤ 5; omega
  · rw [if_neg h]
    by_cases h2 : k = 6
    · rw [if_pos h2, List.length_append, List.length_append]; show 2 + _ + 1 ≤ 5; omega
    · rw [if_neg h2, List.length_append]; show 1 + _ ≤ 5; omega
theorem c_ttells {d : Nat} {K : Po} {σ : Hp} {k : Nat} {nu L x : Int32} {l : List Int32} (h1 : 1 ≤ k) (h6 : k ≤ 6) (ds : DoS nu L l 0 σ) (hl : l.length < 5) (q : ∀ (v : Int32) (τ : Hp), FrD σ τ → DoS nu L (l ++ [13] ++ stL k nu L) (stP k nu L) τ → (stP k nu L = 0 → v = stV k nu L x ^^^ L) → K (some (.int v)) τ) : CTs (d + 6) y_Th_tells [.ref (91 + k), .ref 88, .int x] σ K := by
  refine e_Th_tells (cK h1 h6) (t_Th_tells_0 (cK h1 h6) (p_beg ds (by omega) (fun τ f dt => c_steps h1 h6 dt (by rw [List.length_append]; show l.length + 1 < 8; omega) (fun v u fu du hv => ?_))))
  rw [du.2.1]
  exact q _ u (f.tr fu) du (fun hp => by rw [show oI (some (.int v)) = v from rfl, hv hp])
theorem c_tells {d : Nat} {K : Po} {σ : Hp} {k : Nat} {nu L x : Int32} (h1 : 1 ≤ k) (h6 : k ≤ 6) (ds : DoS nu L [] 0 σ) (q : ∀ (v : Int32) (τ : Hp), FrD σ τ → DoS nu L (tlL k nu L) (tlP k nu L) τ → (tlP k nu L = 0 → v = tlV k nu L x) → K (some (.int v)) τ) : CTs (d + 7) (d_tells (91 + k)) [.ref (91 + k), .ref 88, .int x] σ K := by
  have pl : ∀ k : Nat, 1 ≤ k → k ≤ 6 → k ≠ 2 → k ≠ 6 → (∀ (v : Int32) (τ : Hp), FrD σ τ → DoS nu L (tlL k nu L) (tlP k nu L) τ → (tlP k nu L = 0 → v = tlV k nu L x) → K (some (.int v)) τ) → CTs (d + 7) y_Th_tells [.ref (91 + k), .ref 88, .int x] σ K := fun k k1 k2 n2 n6 q => by
    refine c_ttells k1 k2 ds (by decide) (fun v u fu du hv => q v u fu ?_ (fun hp => ?_))
    · unfold tlL tlP
      rw [if_neg n2, if_neg n6, if_neg (by omega)]
      unfold stP at du
      rw [if_neg n6] at du
      exact du
    · unfold tlV
      rw [if_neg n2, if_neg n6]
      exact hv (by unfold stP; rw [if_neg n6])
  match k, h1, h6, q with
  | 1, _, _, q => exact pl 1 (by omega) (by omega) (by omega) (by omega) q
  | 2, _, _, q =>
    refine e_De_tells rfl (t_De_tells_0 rfl (p_beg ds (by decide) (fun τ f dt => c_ttells (k := 2) (by omega) (by omega) dt (by decide) (fun v u fu du hv => ?_))))
    rw [du.1]
    refine c_tunits (k := 2) (by omega) (by omega) du (by rw [List.length_append, List.length_append]; have := stL_len 2 nu L; show 1 + 1 + _ < 30; omega) (fun w y fy dy hw => q _ y ((f.tr fu).tr fy) dy (fun hp => ?_))
    have hne : ¬ L = nu := fun e => by
      have hp' : pz nu L = 0 := hp
      unfold pz at hp'
      rw [if_pos e] at hp'
      exact absurd hp' (by decide)
    rw [show oI (some (.int v)) = v from rfl, show oI (some (.int w)) = w from rfl, hv rfl, hw hne]; rfl
  | 3, _, _, q => exact pl 3 (by omega) (by omega) (by omega) (by omega) q
  | 4, _, _, q => exact pl 4 (by omega) (by omega) (by omega) (by omega) q
  | 5, _, _, q => exact pl 5 (by omega) (by omega) (by omega) (by omega) q
  | 6, _, _, q =>
    exact e_Hl_tells rfl (t_Hl_tells_0 rfl (p_beg ds (by decide) (fun τ f dt => c_ttells (k := 6) (by omega) (by omega) dt (by decide) (fun v u fu du hv => q _ u (f.tr fu) du (fun hp => by rw [show oI (some (.int v)) = v from rfl, hv hp]; rfl)))))
