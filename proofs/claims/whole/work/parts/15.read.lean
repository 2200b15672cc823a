/-! ===== read() of the class: behind a text without a fault the two texts change their places ===== -/
def sw (x : Nat) : Nat := cond (Nat.ble 31 x) x (cond (Nat.ble 17 x) (x - 14) (cond (Nat.ble 3 x) (x + 14) x))
def swp (σ : Hp) : Hp := (fun c => σ.1 (sw c), fun c => σ.2 (sw c))
theorem sw_big {x : Nat} (h : 31 ≤ x) : sw x = x := by unfold sw; rw [Nat.ble_eq_true_of_le h]; rfl
theorem sw_sw : ∀ c, c < 128 → sw (sw c) = c ∧ sw c < 128 := by decide +kernel
theorem sw_kd : ∀ k, k < 128 → kd (sw k) = kd k ∧ ln (sw k) = ln k := by decide +kernel
theorem sw_ft : ∀ k, k < 128 → Nat.ble 2 k = true → Nat.ble 13 (kd k) = false → ∀ j, j < nf (kd k) → Nat.ble 2 (ft (kd k) j) = true → sw (k + (ft (kd k) j - 2)) = sw k + (ft (kd k) j - 2) := by decide +kernel
def adS (ad : Nat → Nat) : Nat → Nat := fun c => ad (cond (Nat.ble 128 c) c (sw c))
theorem adS_eq (ad : Nat → Nat) (c : Nat) : adS ad c = ad (sw c) := by
  unfold adS
  cases h : Nat.ble 128 c with
  | false => rfl
  | true => rw [sw_big (by have := Nat.le_of_ble_eq_true h; omega)]; rfl
theorem adS_inj {ad : Nat → Nat} (h : Inj ad) : Inj (adS ad) := by
  intro i j hi hj e
  rw [adS_eq, adS_eq] at e
  have := h _ _ (sw_sw i hi).2 (sw_sw j hj).2 e
  rw [← (sw_sw i hi).1, ← (sw_sw j hj).1, this]
theorem adS_AA (ad : Nat → Nat) : AA (adS ad) = AA ad := by
  funext q
  refine propext ⟨fun ⟨c, h1, h2⟩ => ⟨sw c, (sw_sw c h1).2, by rw [h2, adS_eq]⟩, fun ⟨c, h1, h2⟩ => ⟨sw c, (sw_sw c h1).2, by rw [adS_eq, (sw_sw c h1).1, h2]⟩⟩
theorem fv_sw {ad : Nat → Nat} {σ : Hp} {k k' ci j : Nat} (h1 : (swp σ).1 k = σ.1 k') (h2 : (swp σ).2 k = σ.2 k') (h3 : Nat.ble 2 (ft ci j) = true → sw (k + (ft ci j - 2)) = k' + (ft ci j - 2)) : fv (adS ad) (swp σ) k ci j = fv ad σ k' ci j := by
  unfold fv
  cases hf : ft ci j with
  | zero => show Value.int _ = Value.int _; rw [h1]
  | succ n =>
    cases n with
    | zero => show Value.long _ = Value.long _; rw [h2]
    | succ o =>
      show Value.ref (adS ad (k + o)) = Value.ref (ad (k' + o))
      rw [hf] at h3
      have h4 := h3 (Nat.ble_eq_true_of_le (by omega))
      rw [show o + 1 + 1 - 2 = o by omega] at h4
      rw [adS_eq, h4]
theorem cel_sw {t : T3} {ad : Nat → Nat} {σ : Hp} {k : Nat} (hk : k < 128) (h2 : 2 ≤ k) : cel t (adS ad) (swp σ) k = cel t ad σ (sw k) := by
  obtain ⟨e1, e2⟩ := sw_kd k hk
  have hle := kd_le k hk
  by_cases h13 : kd k = 13
  · rw [cel_i (by rw [h13]; rfl), cel_i (by rw [e1, h13]; rfl), e2]
    rfl
  · by_cases h14 : kd k = 14
    · rw [cel_l (by rw [h14]; rfl), cel_l (by rw [e1, h14]; rfl), e2]
      rfl
    · by_cases h15 : kd k = 15
      · rw [cel_q (by rw [h15]; rfl), cel_q (by rw [e1, h15]; rfl), e2]
        have : (fun i => some (adS ad (91 + i))) = (fun i => some (ad (91 + i))) := funext fun i => by rw [adS_eq, sw_big (by omega)]
        rw [this]
      · have hb : Nat.ble 13 (kd k) = false := Bool.eq_false_iff.mpr (fun q => by have := Nat.le_of_ble_eq_true q; omega)
        rw [cel_o (Nat.beq_refl _) hb, cel_o (by rw [e1]; exact Nat.beq_refl _) hb]
        refine congrArg (fun l => (Sum.inr (kd k, l) : va_E)) (List.map_congr_left (fun j hj => ?_))
        exact fv_sw rfl rfl (fun hf => sw_ft k hk (Nat.ble_eq_true_of_le h2) hb j (List.mem_range.mp hj) hf)
/-- the world with the two fields changed is the world with the roles changed -/
theorem swp_P {G : va_G} {t : T3} {ad : Nat → Nat} {σ : Hp} {H : Heap} (hP : va_P G cls (((wsA t ad σ).set 0 (ad 0, .inr (11, ((List.range 20).map (fv ad σ 0 11)).set 1 (.ref (ad 17))))).set 1 (ad 1, .inr (4, ((List.range 10).map (fv ad σ 1 4)).set 4 (.ref (ad 3))))) H) : va_P G cls (wsA t (adS ad) (swp σ)) H := by
  intro k q hq
  by_cases hk : k < 128
  · rw [ws_get hk] at hq
    cases hq
    have h0 : k = 0 ∨ k = 1 ∨ 2 ≤ k := by omega
    have hlen : (wsA t ad σ).length = 128 := by simp [wsA]
    rcases h0 with rfl | rfl | h2
    · have h1 := hP 0 (ad 0, .inr (11, ((List.range 20).map (fv ad σ 0 11)).set 1 (.ref (ad 17)))) (by rw [List.getElem?_set_ne (by omega), List.getElem?_set_self (by rw [hlen]; omega)])
      rw [adS_eq]
      have e : cel t (adS ad) (swp σ) 0 = .inr (11, ((List.range 20).map (fv ad σ 0 11)).set 1 (.ref (ad 17))) := by
        rw [cel_o (ci := 11) rfl rfl]
        rfl
      rw [e]
      exact h1
    · have h1 := hP 1 (ad 1, .inr (4, ((List.range 10).map (fv ad σ 1 4)).set 4 (.ref (ad 3)))) (by rw [List.getElem?_set_self (by rw [List.length_set, hlen]; omega)])
      rw [adS_eq]
      have e : cel t (adS ad) (swp σ) 1 = .inr (4, ((List.range 10).map (fv ad σ 1 4)).set 4 (.ref (ad 3))) := by
        rw [cel_o (ci := 4) rfl rfl]
        rfl
      rw [e]
      exact h1
    · obtain ⟨s1, s2⟩ := sw_sw k hk
      have hs : 2 ≤ sw k := by
        rcases Nat.lt_or_ge (sw k) 2 with z | z
        · exfalso
          have : sw k = 0 ∨ sw k = 1 := by omega
          rcases this with w | w
          · rw [w] at s1
            have : k = 0 := s1.symm.trans (rfl : sw 0 = 0)
            omega
          · rw [w] at s1
            have : k = 1 := s1.symm.trans (rfl : sw 1 = 1)
            omega
        · exact z
      have h1 := hP (sw k) (ad (sw k), cel t ad σ (sw k)) (by rw [List.getElem?_set_ne (by omega), List.getElem?_set_ne (by omega), ws_get s2])
      rw [adS_eq, cel_sw hk h2]
      exact h1
  · simp [wsA, hk] at hq
theorem w_474 : Cond.methodLink "StoreStreams" 116 yX4_write ∈ lw_good := lg_t2 130 rfl rfl
theorem w_228 : Cond.fieldLink "StoreStreams" 123 "StoreStreams$Scribe" "text" "LStoreStreams$Text;" ∈ lw_good := lg_t1 124 rfl rfl
/-- what read() comes to -/
def RDs (d : Nat) (σ : Hp) (K : Po) : Prop := CTs d y_Sc_write [.ref 1] σ (fun r σ1 => if oI r = 0 then K (some (.int ((-100 : Int32) - σ1.1 1 2))) σ1 else CTs d y_Wo_restart [.ref 45, .ref 3] (sI (sI (swp σ1) 45 4 0) 0 10 0) (fun _ σ3 => K (some (.int (σ3.1 3 0))) σ3))
def QinR (G : va_G) (t : T3) (ad : Nat → Nat) (K : Po) : Array Value → State → Outcome → State → Prop := fun _ st oc u => (∃ (r : Int32) (τ : Hp) (ad' : Nat → Nat), oc = .returned (some (.int r)) ∧ K (some (.int r)) τ ∧ (ad' = ad ∨ ad' = adS ad) ∧ va_P G cls (wsA t ad' τ) u.heap) ∧ va_F (AA ad) st u
theorem Stat_S {A : Nat → Prop} {ad : Nat → Nat} {U : State} {H : Heap} (h : Stat A ad U H) : Stat A (adS ad) U H := h
set_option maxHeartbeats 4000000 in
theorem read_met (l : Launch) (G : va_G) (t : T3) (ad : Nat → Nat) (hJ : Inj ad) (d : Nat) (σ : Hp) (K : Po) (h : RDs d σ K) : Met l yX11_read (Cond.code yX11_read cX11_read 2 (some .int) :: lw_good) (rmD (d + 1)) (Pin G t ad σ [.ref 0]) (QinR G t ad K) 0 0 (AA ad) := by
  refine Met.ofW (cc := cX11_read) (maxL := 2) (ret := some .int) (by decide +kernel) rfl ?_
  intro p e s m args below meth c s₁ Bd hml hv
  obtain ⟨rfl, hP, hK, hst⟩ := hv
  have hts0 := atoms_spec (ws := Cond.code yX11_read cX11_read 2 (some .int) :: lw_good) Bd.pre
  have hts : ∀ w ∈ lw_good, w.before ([Value.ref 0].map (mv ad)).toArray s = true := fun w hw => hts0 w (List.mem_cons_of_mem _ hw)
  have hown : s.vm.findClass "StoreStreams" = some m.cls := findClass_of_methodNamed Bd.named
  have hx := Bd.exec
  have hb := Bd.bytes
  have hr := Bd.returns
  have hlocks := Bd.notSynchronized
  have hl := lv_entry ([Value.ref (ad 0)]) (n := 2) (Nat.le_of_ble_eq_true rfl)
  rw [show ([Value.ref 0].map (mv ad)).toArray = [Value.ref (ad 0)].toArray from rfl, lg_entry_eq]
  have stp : ∀ (ad2 : Nat → Nat) (_hJ2 : Inj ad2) (_hA : AA ad2 = AA ad) (_h2 : Stat (AA ad) ad2 s s.heap) (_h3 : ad2 = ad ∨ ad2 = adS ad) {i : Sm} {pc : Nat} {lv : Lv} {st : List Value} {τ : Hp}, SndI mi cX11_read "StoreStreams" 2 (some .int) i pc → i (Jd p l e (rmD (d + 1)) s m [Value.ref (ad 0)].toArray below meth c 2 G t ad2 (QinR G t ad K)) (CTs d) K lv st τ → Jd p l e (rmD (d + 1)) s m [Value.ref (ad 0)].toArray below meth c 2 G t ad2 (QinR G t ad K) (pc, lv, st) τ := by
    intro ad2 hJ2 hA h2 h3 i pc lv st τ hs hi
    exact hs.2 p l e (rmD (d + 1)) s m [Value.ref (ad 0)].toArray below meth c G t ad2 d (QinR G t ad K) ⟨hx, hb, hml, hr, hlocks, hown, hts, hK, hJ2, by rw [hA]; exact h2, Nat.le_refl _, by show 64 * d + 64 ≤ 64 * (d + 1); omega⟩ (CTs d) (fun y a σ K z => cts_sound l G t ad2 hJ2 d y a σ K z) K (fun r τ u q1 q2 q3 q4 => by
      obtain ⟨v, rfl⟩ := (show ∃ v, r = some (.int v) from q1)
      exact ⟨⟨v, τ, ad2, rfl, q2, h3, q3⟩, by rw [hA] at q4; exact q4⟩) _ (fun _ _ z => z) lv st τ hi
  have s1 := fun {i pc lv st τ} => @stp ad hJ rfl hst (Or.inl rfl) i pc lv st τ
  have s2 := fun {i pc lv st τ} => @stp (adS ad) (adS_inj hJ) (adS_AA ad) (Stat_S hst) (Or.inr rfl) i pc lv st τ
  have key : Jd p l e (rmD (d + 1)) s m [Value.ref (ad 0)].toArray below meth c 2 G t ad (QinR G t ad K) (0, [(0, .ref 0)], []) σ := by
    refine s1 (i := i_lA 0 1) (pc := 0) (n_aload_n (k := 0) (by decide +kernel) rfl) ?_
    refine s1 (i := i_gA 11 0 1 4) (pc := 1) (n_gA (C := RX11) (T := TX11) (by decide +kernel) rfl inX11 rfl (by decide) rfl w_405) ?_
    refine s1 (i := i_cI (rk 4) 8 1 7) (pc := 4) (n_cI (run_V (T := TX4) (N := 10) (by decide +kernel) k_Sc_write v_Sc_write rfl rfl w_474) (Or.inr rfl)) ?_
    refine cts_w h (fun r σ1 hk => ?_)
    refine s1 (i := i_ne 21 10) (pc := 7) (n_ifne (off := 14) (by decide +kernel) (by decide)) ?_
    show if oI r = 0 then Jd p l e (rmD (d + 1)) s m [Value.ref (ad 0)].toArray below meth c 2 G t ad (QinR G t ad K) (10, [(0, .ref 0)], []) σ1 else Jd p l e (rmD (d + 1)) s m [Value.ref (ad 0)].toArray below meth c 2 G t ad (QinR G t ad K) (21, [(0, .ref 0)], []) σ1
    by_cases hz : oI r = 0
    · rw [if_pos hz]
      rw [if_pos hz] at hk
      refine s1 (i := i_pI (-100) 12) (pc := 10) (n_bipush (n := -100) (by decide +kernel) (by decide +kernel)) ?_
      refine s1 (i := i_lA 0 13) (pc := 12) (n_aload_n (k := 0) (by decide +kernel) rfl) ?_
      refine s1 (i := i_gA 11 0 1 16) (pc := 13) (n_gA (C := RX11) (T := TX11) (by decide +kernel) rfl inX11 rfl (by decide) rfl w_405) ?_
      refine s1 (i := i_gI 4 2 19) (pc := 16) (n_gI (C := RX4) (T := TX4) (by decide +kernel) rfl inX4 rfl (by decide) rfl w_224) ?_
      refine s1 (i := i_b (fun x y => x - y) 20) (pc := 19) (n_isub (by decide +kernel)) ?_
      exact s1 (i := i_rI) (pc := 20) (n_rI (by decide +kernel)) hk
    · rw [if_neg hz]
      rw [if_neg hz] at hk
      intro H locs ls hP hS hl
      have hl0 : ls[0]? = some (.val (.ref (ad 0))) := hl.2.2 (0, .ref (ad 0)) (by simp [mvl, mv, Value.category])
      have h0w : (wsA t ad σ1)[0]? = some (ad 0, .inr (11, (List.range 20).map (fv ad σ1 0 11))) := by rw [ws_get (by omega), cel_o (ci := 11) rfl rfl]; rfl
      have h1w : (wsA t ad σ1)[1]? = some (ad 1, .inr (4, (List.range 10).map (fv ad σ1 1 4))) := by rw [ws_get (by omega), cel_o (ci := 4) rfl rfl]; rfl
      refine lv_aload_n (k := 0) hx hb (by decide +kernel) rfl hl0 ?_
      refine va_get (D := G) (ci := 11) (C := RX11) (T := TX11) (N := 20) (v := .ref (ad 3)) hx hb hts inX11 hown hK hP 0 h0w rfl 1 (by decide) (hts _ w_406) (fun _ h9 => h9) rfl (by decide +kernel) ?_
      refine lv_astore_n (k := 1) hx hb (by decide +kernel) rfl hl (by decide) rfl (fun ls hl => ?_)
      have hl0 : ls[0]? = some (.val (.ref (ad 0))) := hl.2.2 (0, .ref (ad 0)) (by simp [mvl, mv, Value.category])
      have hl1 : ls[1]? = some (.val (.ref (ad 3))) := hl.2.2 (1, .ref (ad 3)) List.mem_cons_self
      refine lv_aload_n (k := 0) hx hb (by decide +kernel) rfl hl0 ?_
      refine lv_aload_n (k := 0) hx hb (by decide +kernel) rfl hl0 ?_
      refine va_get (D := G) (ci := 11) (C := RX11) (T := TX11) (N := 20) (v := .ref (ad 1)) hx hb hts inX11 hown hK hP 0 h0w rfl 0 (by decide) (hts _ w_405) (fun _ h9 => h9) rfl (by decide +kernel) ?_
      refine va_get (D := G) (ci := 4) (C := RX4) (T := TX4) (N := 10) (v := .ref (ad 17)) hx hb hts inX4 hown hK hP 1 h1w rfl 4 (by decide) (hts _ w_228) (fun _ h9 => h9) rfl (by decide +kernel) ?_
      refine va_put (D := G) (ci := 11) (v := .ref (ad 17)) (ty := .object "StoreStreams$Text") (C := RX11) (T := TX11) (N := 20) hx hb hts inX11 tyX11 tyX11_ok nmX11 hown hK hP (va_Dws hJ) hS 0 h0w rfl 1 (by decide) (hts _ w_406) (fun _ h9 => h9) rfl (by decide +kernel) rfl rfl (by simp) (by decide +kernel) (fun H locs hP hD hS => ?_)
      have h0w : ((wsA t ad σ1).set 0 (ad 0, .inr (11, ((List.range 20).map (fv ad σ1 0 11)).set 1 (.ref (ad 17)))))[0]? = some (ad 0, .inr (11, ((List.range 20).map (fv ad σ1 0 11)).set 1 (.ref (ad 17)))) := List.getElem?_set_self (by simp [wsA])
      have h1w : ((wsA t ad σ1).set 0 (ad 0, .inr (11, ((List.range 20).map (fv ad σ1 0 11)).set 1 (.ref (ad 17)))))[1]? = some (ad 1, .inr (4, (List.range 10).map (fv ad σ1 1 4))) := by rw [List.getElem?_set_ne (by omega)]; exact h1w
      refine lv_aload_n (k := 0) hx hb (by decide +kernel) rfl hl0 ?_
      refine va_get (D := G) (ci := 11) (C := RX11) (T := TX11) (N := 20) (v := .ref (ad 1)) hx hb hts inX11 hown hK hP 0 h0w rfl 0 (by decide) (hts _ w_405) (fun _ h9 => h9) rfl (by decide +kernel) ?_
      refine lv_aload_n (k := 1) hx hb (by decide +kernel) rfl hl1 ?_
      refine va_put (D := G) (ci := 4) (v := .ref (ad 3)) (ty := .object "StoreStreams$Text") (C := RX4) (T := TX4) (N := 10) hx hb hts inX4 tyX4 tyX4_ok nmX4 hown hK hP hD hS 1 h1w rfl 4 (by decide) (hts _ w_228) (fun _ h9 => h9) rfl (by decide +kernel) rfl rfl (by simp) (by decide +kernel) (fun H locs hP hD hS => ?_)
      have hP2 := swp_P hP
      have tail : Jd p l e (rmD (d + 1)) s m [Value.ref (ad 0)].toArray below meth c 2 G t (adS ad) (QinR G t ad K) (45, [(0, .ref 0)], []) (swp σ1) := by
        refine s2 (i := i_lA 0 46) (pc := 45) (n_aload_n (k := 0) (by decide +kernel) rfl) ?_
        refine s2 (i := i_gA 11 2 45 49) (pc := 46) (n_gA (C := RX11) (T := TX11) (by decide +kernel) rfl inX11 rfl (by decide) rfl w_407) ?_
        refine s2 (i := i_pI (0) 50) (pc := 49) (n_iconst (n := 0) (by decide +kernel) (by decide +kernel)) ?_
        refine s2 (i := i_fI 10 4 53) (pc := 50) (n_fI (C := RX10) (T := TX10) (by decide +kernel) rfl inX10 rfl tyX10 tyX10_ok nmX10 (by decide) rfl w_272 rfl (by decide +kernel)) ?_
        refine s2 (i := i_lA 0 54) (pc := 53) (n_aload_n (k := 0) (by decide +kernel) rfl) ?_
        refine s2 (i := i_pI (0) 55) (pc := 54) (n_iconst (n := 0) (by decide +kernel) (by decide +kernel)) ?_
        refine s2 (i := i_fI 11 10 58) (pc := 55) (n_fI (C := RX11) (T := TX11) (by decide +kernel) rfl inX11 rfl tyX11 tyX11_ok nmX11 (by decide) rfl w_415 rfl (by decide +kernel)) ?_
        refine s2 (i := i_lA 0 59) (pc := 58) (n_aload_n (k := 0) (by decide +kernel) rfl) ?_
        refine s2 (i := i_gA 11 2 45 62) (pc := 59) (n_gA (C := RX11) (T := TX11) (by decide +kernel) rfl inX11 rfl (by decide) rfl w_407) ?_
        refine s2 (i := i_lA 0 63) (pc := 62) (n_aload_n (k := 0) (by decide +kernel) rfl) ?_
        refine s2 (i := i_gA 11 1 3 66) (pc := 63) (n_gA (C := RX11) (T := TX11) (by decide +kernel) rfl inX11 rfl (by decide) rfl w_406) ?_
        refine s2 (i := i_cv (rk 10) 53 2 69) (pc := 66) (n_cv (run_V (T := TX10) (N := 15) (by decide +kernel) k_Wo_restart v_Wo_restart rfl rfl w_597) rfl) ?_
        refine cts_w hk (fun _ σ3 hk3 => ?_)
        refine s2 (i := i_lA 0 70) (pc := 69) (n_aload_n (k := 0) (by decide +kernel) rfl) ?_
        refine s2 (i := i_gA 11 1 3 73) (pc := 70) (n_gA (C := RX11) (T := TX11) (by decide +kernel) rfl inX11 rfl (by decide) rfl w_406) ?_
        refine s2 (i := i_gI 8 0 76) (pc := 73) (n_gI (C := RX8) (T := TX8) (by decide +kernel) rfl inX8 rfl (by decide) rfl w_142) ?_
        exact s2 (i := i_rI) (pc := 76) (n_rI (by decide +kernel)) hk3
      have fin := tail H locs ls hP2 (by rw [adS_AA]; exact hS) (lv_sub hl [1] rfl)
      rw [adS_AA] at fin
      exact fin
  exact key s.heap [] _ hP va_S.rf hl
