theorem law_G {s : State} {args : Array Value} (hts : ∀ w ∈ lw_good, w.before args s = true) : ∃ G : va_G, ∀ (k : Nat) (q : vw_C), cls[k]? = some q → u_Kn s q.1 q.2.1 q.2.2 (G.1 k) (G.2 k) := by
  obtain ⟨c0, i0, h0⟩ := u_known (C := RX0) (T := TX0) (N := 0) (n := 0) hts inX0 (hts _ (lg_t2 27 rfl rfl))
  obtain ⟨c1, i1, h1⟩ := u_known (C := RX1) (T := TX1) (N := 5) (n := 5) hts inX1 (hts _ (lg_t1 218 rfl rfl))
  obtain ⟨c2, i2, h2⟩ := u_known (C := RX2) (T := TX2) (N := 0) (n := 0) hts inX2 (hts _ (lg_t2 48 rfl rfl))
  obtain ⟨c3, i3, h3⟩ := u_known (C := RX3) (T := TX3) (N := 0) (n := 0) hts inX3 (hts _ (lg_t2 55 rfl rfl))
  obtain ⟨c4, i4, h4⟩ := u_known (C := RX4) (T := TX4) (N := 10) (n := 10) hts inX4 (hts _ (lg_t1 26 rfl rfl))
  obtain ⟨c5, i5, h5⟩ := u_known (C := RX5) (T := TX5) (N := 0) (n := 0) hts inX5 (hts _ (lg_t2 20 rfl rfl))
  obtain ⟨c6, i6, h6⟩ := u_known (C := RX6) (T := TX6) (N := 0) (n := 0) hts inX6 (hts _ (lg_t2 34 rfl rfl))
  obtain ⟨c7, i7, h7⟩ := u_known (C := RX7) (T := TX7) (N := 0) (n := 0) hts inX7 (hts _ (lg_t2 41 rfl rfl))
  obtain ⟨c8, i8, h8⟩ := u_known (C := RX8) (T := TX8) (N := 17) (n := 17) hts inX8 (hts _ (lg_t1 32 rfl rfl))
  obtain ⟨c9, i9, h9⟩ := u_known (C := RX9) (T := TX9) (N := 0) (n := 0) hts inX9 (hts _ (lg_t2 13 rfl rfl))
  obtain ⟨c10, i10, h10⟩ := u_known (C := RX10) (T := TX10) (N := 15) (n := 15) hts inX10 (hts _ (lg_t1 154 rfl rfl))
  obtain ⟨c11, i11, h11⟩ := u_known (C := RX11) (T := TX11) (N := 20) (n := 20) hts inX11 (hts _ (lg_t1 18 rfl rfl))
  obtain ⟨c12, i12, h12⟩ := u_known (C := RX12) (T := TX12) (N := 63) (n := 63) hts inX12 (hts _ (lg_t4 188 rfl rfl))
  refine ⟨(fun k => ([c0, c1, c2, c3, c4, c5, c6, c7, c8, c9, c10, c11, c12] : List ClassId).getD k c0, fun k => ([i0, i1, i2, i3, i4, i5, i6, i7, i8, i9, i10, i11, i12] : List (Nat → Nat)).getD k i0), ?_⟩
  intro k q hq
  match k, hq with
  | 0, hq => cases hq; exact h0
  | 1, hq => cases hq; exact h1
  | 2, hq => cases hq; exact h2
  | 3, hq => cases hq; exact h3
  | 4, hq => cases hq; exact h4
  | 5, hq => cases hq; exact h5
  | 6, hq => cases hq; exact h6
  | 7, hq => cases hq; exact h7
  | 8, hq => cases hq; exact h8
  | 9, hq => cases hq; exact h9
  | 10, hq => cases hq; exact h10
  | 11, hq => cases hq; exact h11
  | 12, hq => cases hq; exact h12
  | k + 13, hq => simp at hq
theorem law_K {s : State} {args : Array Value} (hts : ∀ w ∈ lw_tbl, w.before args s = true) : ∃ (G : va_G) (t : T3), va_K G cls (tysA t) s := by
  obtain ⟨G, hG⟩ := law_G (fun w hw => hts w (lw_good_sub w hw))
  obtain ⟨cI, kI, pI, a1, a2, a3⟩ := Cond.arrayClass_spec (hts (.arrayClass .int) (tk_1 _ (List.mem_of_getElem? (i := 114) rfl)))
  obtain ⟨cL, kL, pL, b1, b2, b3⟩ := Cond.arrayClass_spec (hts (.arrayClass .long) (tk_1 _ (List.mem_of_getElem? (i := 216) rfl)))
  obtain ⟨comp, cO, kO, d1, d2, d3, d4, d5⟩ := Cond.arrayOver_spec (hts (.arrayOver (.object "StoreStreams$Thing")) (tk_2 _ (List.mem_of_getElem? (i := 12) rfl)))
  refine ⟨G, (cI, cL, cO), hG, ?_⟩
  intro k q hq
  match k, hq with
  | 0, hq => cases hq; exact ⟨fun N z => ⟨(fun k h => by cases h), kI, a2, pI, a3⟩, a1⟩
  | 1, hq => cases hq; exact ⟨fun N z => ⟨(fun k h => by cases h), kL, b2, pL, b3⟩, b1⟩
  | 2, hq => cases hq; exact ⟨fun N z => ⟨(fun k h => by cases h), kO, d3, comp, d4⟩, kO, comp, d3, d4, d1, d5⟩
  | k + 3, hq => simp [tysA] at hq
theorem nwM_in : (nwM.all fun q => decide (Cond.methodLinkNest q.1 q.2.1 q.2.2 "StoreStreams" ∈ lw_tbl)) = true := by decide +kernel
theorem nwC_in : (nwC.all fun C => decide (Cond.castable C "StoreStreams$Thing" ∈ lw_tbl)) = true := by decide +kernel
theorem law_NW {s : State} {args : Array Value} (hts : ∀ w ∈ lw_tbl, w.before args s = true) : NWs s := by
  refine ⟨fun q hq => va_Nw.of rfl (hts _ (of_decide_eq_true (List.all_eq_true.mp nwM_in q hq))), fun C hC => va_Nw.of rfl (hts _ (of_decide_eq_true (List.all_eq_true.mp nwC_in C hC))), va_AO.of (hts _ (tk_2 _ (List.mem_of_getElem? (i := 12) rfl)))⟩
theorem law_eK : ∀ j, j < 11 → Cond.eq (.elem (.static "StoreStreams" "KEYS" "[I") (.int (Int32.ofNat j))) (.int (tv 128 j)) ∈ flatC (Jvm.Cond.and given_1 narrow_1) := by decide +kernel
theorem law_eA : ∀ j, j < 7 → Cond.eq (.elem (.static "StoreStreams" "ABOVE" "[I") (.int (Int32.ofNat j))) (.int (tv 129 j)) ∈ flatC (Jvm.Cond.and given_1 narrow_1) := by decide +kernel
theorem law_St {s : State} {args : Array Value} (hts : ∀ w ∈ lw_tbl, w.before args s = true) (hgv : (Jvm.Cond.and given_1 narrow_1).before args s = true) : ∃ tK tA : Nat, ∀ ad : Nat → Nat, ad 128 = tK → ad 129 = tA → (∀ c, c < 128 → s.heap.size ≤ ad c) → Stat (AA ad) ad s s.heap := by
  have fl := flat_of_before _ hgv
  have hA : ∀ a : Nat, a < s.heap.size → ¬ (fun q => s.heap.size ≤ q) a := fun a h => Nat.not_le.mpr h
  have hmKEYS := law_eK
  have hmABOVE := law_eA
  obtain ⟨tKEYS, eKEYS, TKEYS⟩ := va_Tof (tm := .static "StoreStreams" "KEYS" "[I") (ty := .int) (N := 11) (f := fun j => .int (tv 128 j)) (A := fun q => s.heap.size ≤ q) (by decide) (fl _ (by decide +kernel)) (va_eqt (fl (.eq (.length (.static "StoreStreams" "KEYS" "[I")) (.int 11)) (by decide +kernel)))
    (fun j hj => va_eqt (fl (.eq (.elem (.static "StoreStreams" "KEYS" "[I") (.int (Int32.ofNat j))) (.int (tv 128 j))) (hmKEYS j hj))) hA
  obtain ⟨tABOVE, eABOVE, TABOVE⟩ := va_Tof (tm := .static "StoreStreams" "ABOVE" "[I") (ty := .int) (N := 7) (f := fun j => .int (tv 129 j)) (A := fun q => s.heap.size ≤ q) (by decide) (fl _ (by decide +kernel)) (va_eqt (fl (.eq (.length (.static "StoreStreams" "ABOVE" "[I")) (.int 7)) (by decide +kernel)))
    (fun j hj => va_eqt (fl (.eq (.elem (.static "StoreStreams" "ABOVE" "[I") (.int (Int32.ofNat j))) (.int (tv 129 j))) (hmABOVE j hj))) hA
  have z1 := va_Zref (A := fun q => s.heap.size ≤ q) (hts (.laysStatic "StoreStreams" "KEYS" "[I") (tk_2 _ (List.mem_of_getElem? (i := 177) rfl))) (hts (.initialized "StoreStreams") (tk_1 _ (List.mem_of_getElem? (i := 1) rfl))) eKEYS hA
  have z2 := va_Zref (A := fun q => s.heap.size ≤ q) (hts (.laysStatic "StoreStreams" "ABOVE" "[I") (tk_4 _ (List.mem_of_getElem? (i := 62) rfl))) (hts (.initialized "StoreStreams") (tk_1 _ (List.mem_of_getElem? (i := 1) rfl))) eABOVE hA
  refine ⟨tKEYS, tABOVE, fun ad h1 h2 h3 => ?_⟩
  have hs : ∀ q, AA ad q → s.heap.size ≤ q := fun q ⟨c, a1, a2⟩ => by rw [a2]; exact h3 c a1
  unfold Stat
  rw [h1, h2]
  refine ⟨z1.narrow hs, ?_, z2.narrow hs, ?_, va_Nw.of rfl (hts _ (tk_2 _ (List.mem_of_getElem? (i := 176) rfl)))⟩
  · obtain ⟨cell, b1, b2, b3, b4, b5, b6, b7⟩ := TKEYS
    exact ⟨cell, b1, b2, b3, b4, b5, b6, fun z => b7 (hs _ z)⟩
  · obtain ⟨cell, b1, b2, b3, b4, b5, b6, b7⟩ := TABOVE
    exact ⟨cell, b1, b2, b3, b4, b5, b6, fun z => b7 (hs _ z)⟩
theorem df_12 : ∀ j, j < nf 12 → defaultValue (tyX12 j) = vp_V (dfl 12) j := by decide +kernel
theorem rm1 : room_1.frames = 2048 ∧ room_1.cells = 600000 ∧ room_1.slots = 7302250 ∧ room_1.locals = 84000 := ⟨rfl, rfl, rfl, rfl⟩
set_option maxHeartbeats 2000000 in
set_option maxRecDepth 20000 in
/-- one object of the two: new, dup, invokespecial -/
theorem law_mk {p : Program} {l : Launch} {e : Env} {s : State} {m : MethodId} {args : Array Value} {below : List Frame} {meth : Method} {c : Code} {Q : State → Prop} {G : va_G} {t : T3} {B pc i1 i2 ci y : Nat} {C : String} {T : u_T} {ty0 : Nat → FieldType} {es es' : List CE} {ls : Array Slot} {H : Heap} {locs : List Loc} (hx : p.tables.exec = Jvm.exec) (hb : c.code = code) (hml : c.maxLocals = 4) (hown : s.vm.findClass R_law = some m.cls) (hts : ∀ w ∈ lw_good, w.before args s = true) (hK : va_K G cls (tysA t) s) (hN : NWs s) (hB : s.heap.size = B)
    (hd1 : decode code pc = .ok (.new i1, 3)) (hd2 : decode code (pc + 3) = .ok (.dup, 1)) (hd3 : decode code (pc + 3 + 1) = .ok (.invokespecial i2, 3)) (hc : cls[ci]? = some (C, T, nf ci)) (hin0 : ∀ w ∈ u_ws C T (nf ci), w ∈ lw_good) (h13 : Nat.ble 13 ci = false) (hty : ∀ k, k < nf ci → parseFieldDescriptor (T k).2.2.1 = some (ty0 k)) (hfs : ∀ j, j < nf ci → defaultValue (ty0 j) = vp_V (dfl ci) j) (hdf : (dfl ci).map (mv (ad0 B)) = dfl ci) (hw : Cond.classLink R_law i1 C ∈ lw_good) (hw1 : Cond.instantiable C (nf ci) ∈ lw_good) (hw2 : Cond.initialized C ∈ lw_good)
    (hm : MOK miC y 0) (hret : (miC y).2.2.2 = none) (hnm : (miC y).1.name = "<init>") (hw3 : Cond.methodLink R_law i2 (miC y).1 ∈ lw_good) (hw4 : Cond.instanceMethod (miC y).1 ∈ lw_good) (hev : evC kc 300 y 0 es.length [] (es ++ [(ci, 0, dfl ci, [])]) = some es') (hl1 : es.length + 1 ≤ es'.length) (hl2 : tot es + nf ci ≤ tot es') (hl3 : es'.length ≤ 600000) (hl4 : tot es' ≤ 7302250)
    (hP : va_P G cls (wl B t es) H) (hS : va_S (fun q => s.heap.size ≤ q) s.heap H locs) (hsz : ls.size = 4)
    (kk : ∀ (H1 : Heap) (locs1 : List Loc), va_P G cls (wl B t es') H1 → va_S (fun q => s.heap.size ≤ q) s.heap H1 locs1 → W p l e room_1 s m args below meth c H1 locs1 es'.length (tot es') Q (F0 m (pc + 3 + 1 + 3) ls [.ref (B + es.length)])) : W p l e room_1 s m args below meth c H locs es.length (tot es) Q (F0 m pc ls []) := by
  subst hB
  have hz : szE (ci, 0, dfl ci, []) = nf ci := by unfold szE; dsimp only; rw [h13]; rfl
  obtain ⟨r1, r2, r3, r4⟩ := rm1
  refine w_sized (fun hz0 => ?_)
  refine va_new (ci := ci) (fs := (dfl ci).map (mv (ad0 s.heap.size))) (C := C) (T := T) (N := nf ci) hx hb hts hin0 ty0 hty hown (hts _ hw) (hts _ hw1) (hts _ hw2) hK hP (wl_D s.heap.size t es) hS (fun q hq => hq) hc (fun j hj => by rw [hdf]; exact hfs j hj) (by omega) (by omega) hd1 (fun q H hP hD hS => ?_)
  refine w_sized (fun hz1 => ?_)
  have hq := q_at hP hD (by omega)
  subst hq
  refine lv_dup hx hb hd2 rfl ?_
  replace hP : va_P G cls (wl s.heap.size t (es ++ [(ci, 0, dfl ci, [])])) H := by rw [wl_app, conc_o h13]; exact hP
  have hlen : (es ++ [((ci, 0, dfl ci, []) : CE)]).length = es.length + 1 := by rw [List.length_append, List.length_singleton]
  have htot : tot (es ++ [((ci, 0, dfl ci, []) : CE)]) = tot es + nf ci := by rw [tot_app, hz]
  have hsz1 := wl_sz hP (by omega) (by rw [hlen]; omega)
  have hcon := evC_met kc_ok l G t s.heap.size 300 y es.length _ es' hev
  obtain ⟨m1, m2, m3, m4⟩ := hm
  unfold ConC at hcon
  have hcode := m1
  rw [hret] at hcode hcon
  have hrun := va_runI (e := e) (below := below) (meth := meth) (As := []) (b := s.heap.size + es.length) (n := 0) (rest := [.ref (s.heap.size + es.length)]) (Ts := lw_good) (locs := locs) (g := F0 m (pc + 3 + 1) ls (.ref (s.heap.size + es.length) :: [.ref (s.heap.size + es.length)])) ⟨hx, hb, hml, hown, hts⟩ hcon ⟨callB_of 0 hts (good_ws hcode) rfl rfl rfl (hts _ m2) (hts _ hw3) m3 ⟨by rw [r1]; show 300 + 1 ≤ 2048; omega, by rw [r4]; show 8 + ((miC y).2.2.1 + 11) + 64 * 300 ≤ 84000; omega⟩, hnm, hts _ hw4⟩ ⟨pinC_blind, fun U hU hW => ⟨rfl, by rw [hU]; exact hP, by rw [hU]; exact hsz1, va_K.moved hW.alike hK, hN.to hW⟩⟩ rfl rfl hsz rfl (Nat.le_of_ble_eq_true rfl) hd3 (cells := es.length + 1) (slots := tot es + nf ci) ⟨by rw [hlen, r2]; omega, by rw [htot, r3]; omega⟩
  refine run_goC hrun hS (fun H1 locs1 hP1 hS1 => ?_)
  have key := kk H1 locs1 hP1 hS1
  rw [hlen, htot, show es.length + 1 + (es'.length - (es.length + 1)) = es'.length by omega, show tot es + nf ci + (tot es' - (tot es + nf ci)) = tot es' by omega]
  exact key
set_option maxHeartbeats 4000000 in
set_option maxRecDepth 20000 in
/-- the law, from its entry, when the two programs answer alike from every world of Rel, and the world behind the constructors is one -/
theorem law_all {Rel : Hp → Prop} (h0 : Rel σ0) (hO : OPS Rel) {p : Program} {e : Env} {s : State} {m : MethodId} {below : List Frame} {meth : Method} {c : Code} (l : Launch) {b L : Nat} {xs : Nat → Int32} (hL : L ≤ 384) (C0 : lw_At p s m meth c b L xs) : W p l e room_1 s m #[Value.ref b] below meth c s.heap [] 0 0 (lw_Z below #[Value.ref b] s) (entryFrame m ([Value.ref b] : List Value).toArray 4) := by
  obtain ⟨hx, hb, hr, hml, hown, hts0, hX, hbl, hlocks, hgv⟩ := id C0
  have hts : ∀ w ∈ lw_good, w.before #[Value.ref b] s = true := fun w hw => hts0 w (lw_good_sub w hw)
  obtain ⟨G, t, hK⟩ := law_K hts0
  have hN := law_NW hts0
  obtain ⟨tK, tA, hSt⟩ := law_St hts0 hgv
  obtain ⟨n1, n2, n3, n4⟩ := es_len
  have hS : va_S (fun q : Nat => s.heap.size ≤ q) s.heap s.heap [] := va_S.rf
  have hP : va_P G cls (wl s.heap.size t []) s.heap := fun k q h => by simp [wl] at h
  have hl := lv_entry ([.ref b]) (n := 4) (Nat.le_of_ble_eq_true rfl)
  rw [lg_entry_eq]
  generalize (lg_sl ([.ref b]) ++ List.replicate (4 - (lg_sl ([.ref b])).length) Slot.unset).toArray = ls at hl ⊢
  have hl : lv_has ls 4 [(0, .ref b)] := hl
  refine law_mk (es := []) (es' := es1) (ci := 11) (y := 1) (C := RX11) (T := TX11) hx hb hml hown hts hK hN rfl (by decide +kernel) (by decide +kernel) (by decide +kernel) rfl inX11 rfl tyX11_ok df_11 rfl (lg_t1 17 rfl rfl) (lg_t1 18 rfl rfl) (lg_t1 1 rfl rfl) kk_1 rfl rfl (lg_t1 19 rfl rfl) (lg_t1 20 rfl rfl) es1_ev (by rw [n1]; decide) (by rw [n3]; decide) (by rw [n1]; decide) (by rw [n3]; decide) hP hS hl.1 (fun H locs hP hS => ?_)
  refine lv_astore_n (k := 1) (lv' := [(1, .ref s.heap.size), (0, .ref b)]) hx hb (by decide +kernel) rfl hl (by decide) rfl (fun ls hl => ?_)
  refine law_mk (es := es1) (es' := es2) (ci := 12) (y := 13) (C := RX12) (T := TX12) hx hb hml hown hts hK hN rfl (by decide +kernel) (by decide +kernel) (by decide +kernel) rfl inX12 rfl tyX12_ok df_12 rfl (lg_t4 187 rfl rfl) (lg_t4 188 rfl rfl) (lg_t1 13 rfl rfl) kk_13 rfl rfl (lg_t4 189 rfl rfl) (lg_t4 190 rfl rfl) (by rw [n1]; exact es2_ev) (by rw [n1, n2]; decide) (by rw [n3, n4]; decide) (by rw [n2]; decide) (by rw [n4]; decide) hP hS hl.1 (fun H locs hP hS => ?_)
  rw [n1, n2, n4]
  refine lv_astore_n (k := 2) (lv' := [(2, .ref (s.heap.size + 98)), (1, .ref s.heap.size), (0, .ref b)]) hx hb (by decide +kernel) rfl hl (by decide) rfl (fun ls hl => ?_)
  refine lv_iconst (n := 0) (v := nI 0) hx hb (by decide +kernel) (by decide) ?_
  refine lv_istore_n (k := 3) (lv' := [(3, .int (nI 0)), (2, .ref (s.heap.size + 98)), (1, .ref s.heap.size), (0, .ref b)]) hx hb (by decide +kernel) rfl hl (by decide) rfl (fun ls hl => ?_)
  have hge : ∀ c, c < 128 → s.heap.size ≤ adX s.heap.size tK tA c := fun c hc => by rw [adX_lt hc]; exact Nat.le_add_right _ _
  have hLI : LI s s.heap.size (s.heap.size + 98) (adX s.heap.size tK tA) := ⟨adX_inj _ _ _, rfl, rfl, hge, hSt _ rfl rfl hge⟩
  refine law_loop (Rel := Rel) (G := G) (t := t) (aS := s.heap.size) (aM := s.heap.size + 98) hL C0 hK hO (fun σ ad H locs ls hS => ?_) (L + 1) 0 (by omega) (by omega) σ0 (adX s.heap.size tK tA) H locs ls ⟨h0, hLI, init_P hP, hS, hl.1, hl.2.1, fun q hq => hl.2.2 q (by simp only [List.mem_cons, List.not_mem_nil, or_false] at hq ⊢; rcases hq with h | h | h | h <;> simp [h])⟩
  refine va_forget (fun q hq => hS.2.2 q hq) ?_
  refine W.widen (k := 600000) (n := 7302250) (by decide) (by decide) ?_
  refine lv_iconst (n := 1) (v := 1) hx hb (by decide +kernel) (by decide) ?_
  exact lw_ret hx hb hr hlocks (by decide +kernel)
