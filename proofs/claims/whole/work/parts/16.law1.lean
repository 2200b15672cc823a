set_option maxHeartbeats 4000000 in
set_option maxRecDepth 20000 in
theorem law_feed {p : Program} {l : Launch} {e : Env} {s : State} {m : MethodId} {below : List Frame} {meth : Method} {c : Code} {b L : Nat} {xs : Nat → Int32} {G : va_G} {t : T3} {Rel : Hp → Prop} {Q : State → Prop} {aS aM : Nat} {x3 : Int32} (C0 : lw_At p s m meth c b L xs) (hK : va_K G cls (tysA t) s) (hv : ∀ k : Nat, k < 6 → vp_in (x3 + nI k) L) (hO : O_feed Rel) (σ : Hp) (ad : Nat → Nat) (H : Heap) (locs : List Loc) (ls : Array Slot) (hR : Rel σ) (hLI : LI s aS aM ad) (hP : va_P G cls (wsA t ad σ) H) (hS : va_S (fun q => s.heap.size ≤ q) s.heap H locs) (hl : lv_has ls 4 [(0, .ref b), (1, .ref aS), (2, .ref aM), (3, .int x3)]) (kk : ∀ (σ : Hp) (ad : Nat → Nat) (H : Heap) (locs : List Loc) (ls : Array Slot), Rel σ → LI s aS aM ad → va_P G cls (wsA t ad σ) H → va_S (fun q => s.heap.size ≤ q) s.heap H locs → lv_has ls 4 [(0, .ref b), (1, .ref aS), (2, .ref aM), (3, .int x3)] → W p l e room_1 s m #[Value.ref b] below meth c H locs 128 13160 Q (F0 m 1379 ls [])) : W p l e room_1 s m #[Value.ref b] below meth c H locs 128 13160 Q (F0 m 196 ls []) := by
  obtain ⟨hx, hb, hr, hml, hown, hts0, hX, hbl, hlocks, hgv⟩ := C0
  have hts : ∀ w ∈ lw_good, w.before #[Value.ref b] s = true := fun w hw => hts0 w (lw_good_sub w hw)
  have hbA : ¬ (fun q : Nat => s.heap.size ≤ q) b := Nat.not_le.mpr hbl
  obtain ⟨j1, j2, j3, j4, j5⟩ := id hLI
  refine lv_aload_n (k := 1) hx hb (by decide +kernel) rfl (lv_at hl 1 rfl) ?_
  refine lv_aload_n (k := 0) hx hb (by decide +kernel) rfl (lv_at hl 0 rfl) ?_
  refine lv_iload_n (k := 3) hx hb (by decide +kernel) rfl (lv_at hl 3 rfl) ?_
  refine lv_iconst (n := 1) (v := nI 1) hx hb (by decide +kernel) (by decide) ?_
  refine lv_iadd hx hb (by decide +kernel) ?_
  refine va_sld hx hb hX hbl hbA hS (hv 1 (by decide)) (by decide +kernel) ?_
  refine lv_i2l hx hb (by decide +kernel) rfl ?_
  refine lv_bipush (n := 32) (v := 32) hx hb (by decide +kernel) (by decide +kernel) ?_
  refine lv_lshl hx hb (by decide +kernel) rfl ?_
  refine lv_aload_n (k := 0) hx hb (by decide +kernel) rfl (lv_at hl 0 rfl) ?_
  refine lv_iload_n (k := 3) hx hb (by decide +kernel) rfl (lv_at hl 3 rfl) ?_
  refine lv_iconst (n := 2) (v := nI 2) hx hb (by decide +kernel) (by decide) ?_
  refine lv_iadd hx hb (by decide +kernel) ?_
  refine va_sld hx hb hX hbl hbA hS (hv 2 (by decide)) (by decide +kernel) ?_
  refine lv_i2l hx hb (by decide +kernel) rfl ?_
  refine lv_ldc2 hx hb hown (hts _ w_1648) (by decide +kernel) ?_
  refine lv_land hx hb (by decide +kernel) ?_
  refine lv_lor hx hb (by decide +kernel) ?_
  refine lv_aload_n (k := 0) hx hb (by decide +kernel) rfl (lv_at hl 0 rfl) ?_
  refine lv_iload_n (k := 3) hx hb (by decide +kernel) rfl (lv_at hl 3 rfl) ?_
  refine lv_iconst (n := 3) (v := nI 3) hx hb (by decide +kernel) (by decide) ?_
  refine lv_iadd hx hb (by decide +kernel) ?_
  refine va_sld hx hb hX hbl hbA hS (hv 3 (by decide)) (by decide +kernel) ?_
  rw [← j2]
  refine law_V (d := 60) (y := y_SS_feed) (n := 2) (c0 := 0) (ci := 11) (T := TX11) (N := 20) (as := [.long _, .int _]) (rest := []) hx hb hml hown hts hK j1 j5 j4 (by decide) (by decide) rfl rfl rfl k_SS_feed v_SS_feed w_466 (by decide +kernel) rfl (Nat.le_of_ble_eq_true rfl) (hO σ _ _ hR) hP hS hl.1 ⟨by decide, by decide⟩ (fun r1 σ1 H locs hrt1 hk hP hS => ?_)
  obtain ⟨v1, rfl⟩ := (show ∃ v, r1 = some (.int v) from hrt1)
  refine lv_aload_n (k := 2) hx hb (by decide +kernel) rfl (lv_at hl 2 rfl) ?_
  refine lv_aload_n (k := 0) hx hb (by decide +kernel) rfl (lv_at hl 0 rfl) ?_
  refine lv_iload_n (k := 3) hx hb (by decide +kernel) rfl (lv_at hl 3 rfl) ?_
  refine lv_iconst (n := 1) (v := nI 1) hx hb (by decide +kernel) (by decide) ?_
  refine lv_iadd hx hb (by decide +kernel) ?_
  refine va_sld hx hb hX hbl hbA hS (hv 1 (by decide)) (by decide +kernel) ?_
  refine lv_i2l hx hb (by decide +kernel) rfl ?_
  refine lv_bipush (n := 32) (v := 32) hx hb (by decide +kernel) (by decide +kernel) ?_
  refine lv_lshl hx hb (by decide +kernel) rfl ?_
  refine lv_aload_n (k := 0) hx hb (by decide +kernel) rfl (lv_at hl 0 rfl) ?_
  refine lv_iload_n (k := 3) hx hb (by decide +kernel) rfl (lv_at hl 3 rfl) ?_
  refine lv_iconst (n := 2) (v := nI 2) hx hb (by decide +kernel) (by decide) ?_
  refine lv_iadd hx hb (by decide +kernel) ?_
  refine va_sld hx hb hX hbl hbA hS (hv 2 (by decide)) (by decide +kernel) ?_
  refine lv_i2l hx hb (by decide +kernel) rfl ?_
  refine lv_ldc2 hx hb hown (hts _ w_1648) (by decide +kernel) ?_
  refine lv_land hx hb (by decide +kernel) ?_
  refine lv_lor hx hb (by decide +kernel) ?_
  refine lv_aload_n (k := 0) hx hb (by decide +kernel) rfl (lv_at hl 0 rfl) ?_
  refine lv_iload_n (k := 3) hx hb (by decide +kernel) rfl (lv_at hl 3 rfl) ?_
  refine lv_iconst (n := 3) (v := nI 3) hx hb (by decide +kernel) (by decide) ?_
  refine lv_iadd hx hb (by decide +kernel) ?_
  refine va_sld hx hb hX hbl hbA hS (hv 3 (by decide)) (by decide +kernel) ?_
  rw [← j3]
  refine law_V (d := 60) (y := y_M_feed) (n := 2) (c0 := 98) (ci := 12) (T := TX12) (N := 63) (as := [.long _, .int _]) (rest := [.int _]) hx hb hml hown hts hK j1 j5 j4 (by decide) (by decide) rfl rfl rfl k_M_feed v_M_feed w_1207 (by decide +kernel) rfl (Nat.le_of_ble_eq_true rfl) hk hP hS hl.1 ⟨by decide, by decide⟩ (fun r2 σ1 H locs hrt2 hk hP hS => ?_)
  obtain ⟨v2, rfl⟩ := (show ∃ v, r2 = some (.int v) from hrt2)
  refine lv_icmp_eq (tgt := 1379) (off := 1125) hx hb (by decide +kernel) (by decide) (fun _ => ?_) (fun hne => absurd hk.1 hne)
  exact kk σ1 _ H locs ls hk.2 hLI hP hS hl
set_option maxHeartbeats 4000000 in
set_option maxRecDepth 20000 in
theorem law_read {p : Program} {l : Launch} {e : Env} {s : State} {m : MethodId} {below : List Frame} {meth : Method} {c : Code} {b L : Nat} {xs : Nat → Int32} {G : va_G} {t : T3} {Rel : Hp → Prop} {Q : State → Prop} {aS aM : Nat} {x3 : Int32} (C0 : lw_At p s m meth c b L xs) (hK : va_K G cls (tysA t) s) (hv : ∀ k : Nat, k < 6 → vp_in (x3 + nI k) L) (hO : O_read Rel) (σ : Hp) (ad : Nat → Nat) (H : Heap) (locs : List Loc) (ls : Array Slot) (hR : Rel σ) (hLI : LI s aS aM ad) (hP : va_P G cls (wsA t ad σ) H) (hS : va_S (fun q => s.heap.size ≤ q) s.heap H locs) (hl : lv_has ls 4 [(0, .ref b), (1, .ref aS), (2, .ref aM), (3, .int x3)]) (kk : ∀ (σ : Hp) (ad : Nat → Nat) (H : Heap) (locs : List Loc) (ls : Array Slot), Rel σ → LI s aS aM ad → va_P G cls (wsA t ad σ) H → va_S (fun q => s.heap.size ≤ q) s.heap H locs → lv_has ls 4 [(0, .ref b), (1, .ref aS), (2, .ref aM), (3, .int x3)] → W p l e room_1 s m #[Value.ref b] below meth c H locs 128 13160 Q (F0 m 1379 ls [])) : W p l e room_1 s m #[Value.ref b] below meth c H locs 128 13160 Q (F0 m 259 ls []) := by
  obtain ⟨hx, hb, hr, hml, hown, hts0, hX, hbl, hlocks, hgv⟩ := C0
  have hts : ∀ w ∈ lw_good, w.before #[Value.ref b] s = true := fun w hw => hts0 w (lw_good_sub w hw)
  have hbA : ¬ (fun q : Nat => s.heap.size ≤ q) b := Nat.not_le.mpr hbl
  obtain ⟨j1, j2, j3, j4, j5⟩ := id hLI
  refine lv_aload_n (k := 1) hx hb (by decide +kernel) rfl (lv_at hl 1 rfl) ?_
  have hcall := hO σ hR
  rw [← j2]
  refine law_R (d := 60) hx hb hml hown hts hK j1 j5 j4 (by decide) (by decide) w_rd0 w_105 w_471 w_472 w_470 (by decide +kernel) (Nat.le_of_ble_eq_true rfl) hcall hP hS hl.1 ⟨by decide, by decide⟩ (fun r σ1 ad' H locs hk hor hP hS => ?_)
  have hLI : LI s aS aM ad' := by rcases hor with z | z; rw [z]; exact hLI; rw [z]; exact hLI.sw
  obtain ⟨j1, j2, j3, j4, j5⟩ := id hLI
  refine lv_aload_n (k := 2) hx hb (by decide +kernel) rfl (lv_at hl 2 rfl) ?_
  rw [← j3]
  refine law_V (d := 60) (y := y_M_read) (n := 0) (c0 := 98) (ci := 12) (T := TX12) (N := 63) (as := []) (rest := [.int _]) hx hb hml hown hts hK j1 j5 j4 (by decide) (by decide) rfl rfl rfl k_M_read v_M_read w_1215 (by decide +kernel) rfl (Nat.le_of_ble_eq_true rfl) hk hP hS hl.1 ⟨by decide, by decide⟩ (fun r2 σ1 H locs hrt2 hk hP hS => ?_)
  obtain ⟨v2, rfl⟩ := (show ∃ v, r2 = some (.int v) from hrt2)
  refine lv_icmp_eq (tgt := 1379) (off := 1112) hx hb (by decide +kernel) (by decide) (fun _ => ?_) (fun hne => absurd hk.1 hne)
  exact kk σ1 _ H locs ls hk.2 hLI hP hS hl
set_option maxHeartbeats 4000000 in
set_option maxRecDepth 20000 in
theorem law_fault {p : Program} {l : Launch} {e : Env} {s : State} {m : MethodId} {below : List Frame} {meth : Method} {c : Code} {b L : Nat} {xs : Nat → Int32} {G : va_G} {t : T3} {Rel : Hp → Prop} {Q : State → Prop} {aS aM : Nat} {x3 : Int32} (C0 : lw_At p s m meth c b L xs) (hK : va_K G cls (tysA t) s) (hv : ∀ k : Nat, k < 6 → vp_in (x3 + nI k) L) (hO : O_fault Rel) (σ : Hp) (ad : Nat → Nat) (H : Heap) (locs : List Loc) (ls : Array Slot) (hR : Rel σ) (hLI : LI s aS aM ad) (hP : va_P G cls (wsA t ad σ) H) (hS : va_S (fun q => s.heap.size ≤ q) s.heap H locs) (hl : lv_has ls 4 [(0, .ref b), (1, .ref aS), (2, .ref aM), (3, .int x3)]) (kk : ∀ (σ : Hp) (ad : Nat → Nat) (H : Heap) (locs : List Loc) (ls : Array Slot), Rel σ → LI s aS aM ad → va_P G cls (wsA t ad σ) H → va_S (fun q => s.heap.size ≤ q) s.heap H locs → lv_has ls 4 [(0, .ref b), (1, .ref aS), (2, .ref aM), (3, .int x3)] → W p l e room_1 s m #[Value.ref b] below meth c H locs 128 13160 Q (F0 m 1379 ls [])) : W p l e room_1 s m #[Value.ref b] below meth c H locs 128 13160 Q (F0 m 272 ls []) := by
  obtain ⟨hx, hb, hr, hml, hown, hts0, hX, hbl, hlocks, hgv⟩ := C0
  have hts : ∀ w ∈ lw_good, w.before #[Value.ref b] s = true := fun w hw => hts0 w (lw_good_sub w hw)
  have hbA : ¬ (fun q : Nat => s.heap.size ≤ q) b := Nat.not_le.mpr hbl
  obtain ⟨j1, j2, j3, j4, j5⟩ := id hLI
  refine lv_aload_n (k := 1) hx hb (by decide +kernel) rfl (lv_at hl 1 rfl) ?_
  refine lv_aload_n (k := 0) hx hb (by decide +kernel) rfl (lv_at hl 0 rfl) ?_
  refine lv_iload_n (k := 3) hx hb (by decide +kernel) rfl (lv_at hl 3 rfl) ?_
  refine lv_iconst (n := 1) (v := nI 1) hx hb (by decide +kernel) (by decide) ?_
  refine lv_iadd hx hb (by decide +kernel) ?_
  refine va_sld hx hb hX hbl hbA hS (hv 1 (by decide)) (by decide +kernel) ?_
  rw [← j2]
  refine law_V (d := 60) (y := y_SS_fault) (n := 1) (c0 := 0) (ci := 11) (T := TX11) (N := 20) (as := [.int _]) (rest := []) hx hb hml hown hts hK j1 j5 j4 (by decide) (by decide) rfl rfl rfl k_SS_fault v_SS_fault w_645 (by decide +kernel) rfl (Nat.le_of_ble_eq_true rfl) (hO σ _ hR) hP hS hl.1 ⟨by decide, by decide⟩ (fun r1 σ1 H locs hrt1 hk hP hS => ?_)
  obtain ⟨v1, rfl⟩ := (show ∃ v, r1 = some (.int v) from hrt1)
  refine lv_aload_n (k := 2) hx hb (by decide +kernel) rfl (lv_at hl 2 rfl) ?_
  refine lv_aload_n (k := 0) hx hb (by decide +kernel) rfl (lv_at hl 0 rfl) ?_
  refine lv_iload_n (k := 3) hx hb (by decide +kernel) rfl (lv_at hl 3 rfl) ?_
  refine lv_iconst (n := 1) (v := nI 1) hx hb (by decide +kernel) (by decide) ?_
  refine lv_iadd hx hb (by decide +kernel) ?_
  refine va_sld hx hb hX hbl hbA hS (hv 1 (by decide)) (by decide +kernel) ?_
  rw [← j3]
  refine law_V (d := 60) (y := y_M_fault) (n := 1) (c0 := 98) (ci := 12) (T := TX12) (N := 63) (as := [.int _]) (rest := [.int _]) hx hb hml hown hts hK j1 j5 j4 (by decide) (by decide) rfl rfl rfl k_M_fault v_M_fault w_1368 (by decide +kernel) rfl (Nat.le_of_ble_eq_true rfl) hk hP hS hl.1 ⟨by decide, by decide⟩ (fun r2 σ1 H locs hrt2 hk hP hS => ?_)
  obtain ⟨v2, rfl⟩ := (show ∃ v, r2 = some (.int v) from hrt2)
  refine lv_icmp_eq (tgt := 1379) (off := 1089) hx hb (by decide +kernel) (by decide) (fun _ => ?_) (fun hne => absurd hk.1 hne)
  exact kk σ1 _ H locs ls hk.2 hLI hP hS hl
set_option maxHeartbeats 4000000 in
set_option maxRecDepth 20000 in
theorem law_named {p : Program} {l : Launch} {e : Env} {s : State} {m : MethodId} {below : List Frame} {meth : Method} {c : Code} {b L : Nat} {xs : Nat → Int32} {G : va_G} {t : T3} {Rel : Hp → Prop} {Q : State → Prop} {aS aM : Nat} {x3 : Int32} (C0 : lw_At p s m meth c b L xs) (hK : va_K G cls (tysA t) s) (hv : ∀ k : Nat, k < 6 → vp_in (x3 + nI k) L) (hO : O_named Rel) (σ : Hp) (ad : Nat → Nat) (H : Heap) (locs : List Loc) (ls : Array Slot) (hR : Rel σ) (hLI : LI s aS aM ad) (hP : va_P G cls (wsA t ad σ) H) (hS : va_S (fun q => s.heap.size ≤ q) s.heap H locs) (hl : lv_has ls 4 [(0, .ref b), (1, .ref aS), (2, .ref aM), (3, .int x3)]) (kk : ∀ (σ : Hp) (ad : Nat → Nat) (H : Heap) (locs : List Loc) (ls : Array Slot), Rel σ → LI s aS aM ad → va_P G cls (wsA t ad σ) H → va_S (fun q => s.heap.size ≤ q) s.heap H locs → lv_has ls 4 [(0, .ref b), (1, .ref aS), (2, .ref aM), (3, .int x3)] → W p l e room_1 s m #[Value.ref b] below meth c H locs 128 13160 Q (F0 m 1379 ls [])) : W p l e room_1 s m #[Value.ref b] below meth c H locs 128 13160 Q (F0 m 295 ls []) := by
  obtain ⟨hx, hb, hr, hml, hown, hts0, hX, hbl, hlocks, hgv⟩ := C0
  have hts : ∀ w ∈ lw_good, w.before #[Value.ref b] s = true := fun w hw => hts0 w (lw_good_sub w hw)
  have hbA : ¬ (fun q : Nat => s.heap.size ≤ q) b := Nat.not_le.mpr hbl
  obtain ⟨j1, j2, j3, j4, j5⟩ := id hLI
  refine lv_aload_n (k := 1) hx hb (by decide +kernel) rfl (lv_at hl 1 rfl) ?_
  refine lv_aload_n (k := 0) hx hb (by decide +kernel) rfl (lv_at hl 0 rfl) ?_
  refine lv_iload_n (k := 3) hx hb (by decide +kernel) rfl (lv_at hl 3 rfl) ?_
  refine lv_iconst (n := 1) (v := nI 1) hx hb (by decide +kernel) (by decide) ?_
  refine lv_iadd hx hb (by decide +kernel) ?_
  refine va_sld hx hb hX hbl hbA hS (hv 1 (by decide)) (by decide +kernel) ?_
  rw [← j2]
  refine law_V (d := 60) (y := y_SS_named) (n := 1) (c0 := 0) (ci := 11) (T := TX11) (N := 20) (as := [.int _]) (rest := []) hx hb hml hown hts hK j1 j5 j4 (by decide) (by decide) rfl rfl rfl k_SS_named v_SS_named w_649 (by decide +kernel) rfl (Nat.le_of_ble_eq_true rfl) (hO σ _ hR) hP hS hl.1 ⟨by decide, by decide⟩ (fun r1 σ1 H locs hrt1 hk hP hS => ?_)
  obtain ⟨v1, rfl⟩ := (show ∃ v, r1 = some (.int v) from hrt1)
  refine lv_aload_n (k := 2) hx hb (by decide +kernel) rfl (lv_at hl 2 rfl) ?_
  refine lv_aload_n (k := 0) hx hb (by decide +kernel) rfl (lv_at hl 0 rfl) ?_
  refine lv_iload_n (k := 3) hx hb (by decide +kernel) rfl (lv_at hl 3 rfl) ?_
  refine lv_iconst (n := 1) (v := nI 1) hx hb (by decide +kernel) (by decide) ?_
  refine lv_iadd hx hb (by decide +kernel) ?_
  refine va_sld hx hb hX hbl hbA hS (hv 1 (by decide)) (by decide +kernel) ?_
  rw [← j3]
  refine law_V (d := 60) (y := y_M_named) (n := 1) (c0 := 98) (ci := 12) (T := TX12) (N := 63) (as := [.int _]) (rest := [.int _]) hx hb hml hown hts hK j1 j5 j4 (by decide) (by decide) rfl rfl rfl k_M_named v_M_named w_1372 (by decide +kernel) rfl (Nat.le_of_ble_eq_true rfl) hk hP hS hl.1 ⟨by decide, by decide⟩ (fun r2 σ1 H locs hrt2 hk hP hS => ?_)
  obtain ⟨v2, rfl⟩ := (show ∃ v, r2 = some (.int v) from hrt2)
  refine lv_icmp_eq (tgt := 1379) (off := 1066) hx hb (by decide +kernel) (by decide) (fun _ => ?_) (fun hne => absurd hk.1 hne)
  exact kk σ1 _ H locs ls hk.2 hLI hP hS hl
set_option maxHeartbeats 4000000 in
set_option maxRecDepth 20000 in
theorem law_thing {p : Program} {l : Launch} {e : Env} {s : State} {m : MethodId} {below : List Frame} {meth : Method} {c : Code} {b L : Nat} {xs : Nat → Int32} {G : va_G} {t : T3} {Rel : Hp → Prop} {Q : State → Prop} {aS aM : Nat} {x3 : Int32} (C0 : lw_At p s m meth c b L xs) (hK : va_K G cls (tysA t) s) (hv : ∀ k : Nat, k < 6 → vp_in (x3 + nI k) L) (hO : O_thing Rel) (σ : Hp) (ad : Nat → Nat) (H : Heap) (locs : List Loc) (ls : Array Slot) (hR : Rel σ) (hLI : LI s aS aM ad) (hP : va_P G cls (wsA t ad σ) H) (hS : va_S (fun q => s.heap.size ≤ q) s.heap H locs) (hl : lv_has ls 4 [(0, .ref b), (1, .ref aS), (2, .ref aM), (3, .int x3)]) (kk : ∀ (σ : Hp) (ad : Nat → Nat) (H : Heap) (locs : List Loc) (ls : Array Slot), Rel σ → LI s aS aM ad → va_P G cls (wsA t ad σ) H → va_S (fun q => s.heap.size ≤ q) s.heap H locs → lv_has ls 4 [(0, .ref b), (1, .ref aS), (2, .ref aM), (3, .int x3)] → W p l e room_1 s m #[Value.ref b] below meth c H locs 128 13160 Q (F0 m 1379 ls [])) : W p l e room_1 s m #[Value.ref b] below meth c H locs 128 13160 Q (F0 m 318 ls []) := by
  obtain ⟨hx, hb, hr, hml, hown, hts0, hX, hbl, hlocks, hgv⟩ := C0
  have hts : ∀ w ∈ lw_good, w.before #[Value.ref b] s = true := fun w hw => hts0 w (lw_good_sub w hw)
  have hbA : ¬ (fun q : Nat => s.heap.size ≤ q) b := Nat.not_le.mpr hbl
  obtain ⟨j1, j2, j3, j4, j5⟩ := id hLI
  refine lv_aload_n (k := 1) hx hb (by decide +kernel) rfl (lv_at hl 1 rfl) ?_
  refine lv_aload_n (k := 0) hx hb (by decide +kernel) rfl (lv_at hl 0 rfl) ?_
  refine lv_iload_n (k := 3) hx hb (by decide +kernel) rfl (lv_at hl 3 rfl) ?_
  refine lv_iconst (n := 1) (v := nI 1) hx hb (by decide +kernel) (by decide) ?_
  refine lv_iadd hx hb (by decide +kernel) ?_
  refine va_sld hx hb hX hbl hbA hS (hv 1 (by decide)) (by decide +kernel) ?_
  refine lv_aload_n (k := 0) hx hb (by decide +kernel) rfl (lv_at hl 0 rfl) ?_
  refine lv_iload_n (k := 3) hx hb (by decide +kernel) rfl (lv_at hl 3 rfl) ?_
  refine lv_iconst (n := 2) (v := nI 2) hx hb (by decide +kernel) (by decide) ?_
  refine lv_iadd hx hb (by decide +kernel) ?_
  refine va_sld hx hb hX hbl hbA hS (hv 2 (by decide)) (by decide +kernel) ?_
  rw [← j2]
  refine law_V (d := 60) (y := y_SS_thing) (n := 2) (c0 := 0) (ci := 11) (T := TX11) (N := 20) (as := [.int _, .int _]) (rest := []) hx hb hml hown hts hK j1 j5 j4 (by decide) (by decide) rfl rfl rfl k_SS_thing v_SS_thing w_654 (by decide +kernel) rfl (Nat.le_of_ble_eq_true rfl) (hO σ _ _ hR) hP hS hl.1 ⟨by decide, by decide⟩ (fun r1 σ1 H locs hrt1 hk hP hS => ?_)
  obtain ⟨v1, rfl⟩ := (show ∃ v, r1 = some (.int v) from hrt1)
  refine lv_aload_n (k := 2) hx hb (by decide +kernel) rfl (lv_at hl 2 rfl) ?_
  refine lv_aload_n (k := 0) hx hb (by decide +kernel) rfl (lv_at hl 0 rfl) ?_
  refine lv_iload_n (k := 3) hx hb (by decide +kernel) rfl (lv_at hl 3 rfl) ?_
  refine lv_iconst (n := 1) (v := nI 1) hx hb (by decide +kernel) (by decide) ?_
  refine lv_iadd hx hb (by decide +kernel) ?_
  refine va_sld hx hb hX hbl hbA hS (hv 1 (by decide)) (by decide +kernel) ?_
  refine lv_aload_n (k := 0) hx hb (by decide +kernel) rfl (lv_at hl 0 rfl) ?_
  refine lv_iload_n (k := 3) hx hb (by decide +kernel) rfl (lv_at hl 3 rfl) ?_
  refine lv_iconst (n := 2) (v := nI 2) hx hb (by decide +kernel) (by decide) ?_
  refine lv_iadd hx hb (by decide +kernel) ?_
  refine va_sld hx hb hX hbl hbA hS (hv 2 (by decide)) (by decide +kernel) ?_
  rw [← j3]
  refine law_V (d := 60) (y := y_M_thing) (n := 2) (c0 := 98) (ci := 12) (T := TX12) (N := 63) (as := [.int _, .int _]) (rest := [.int _]) hx hb hml hown hts hK j1 j5 j4 (by decide) (by decide) rfl rfl rfl k_M_thing v_M_thing w_1376 (by decide +kernel) rfl (Nat.le_of_ble_eq_true rfl) hk hP hS hl.1 ⟨by decide, by decide⟩ (fun r2 σ1 H locs hrt2 hk hP hS => ?_)
  obtain ⟨v2, rfl⟩ := (show ∃ v, r2 = some (.int v) from hrt2)
  refine lv_icmp_eq (tgt := 1379) (off := 1033) hx hb (by decide +kernel) (by decide) (fun _ => ?_) (fun hne => absurd hk.1 hne)
  exact kk σ1 _ H locs ls hk.2 hLI hP hS hl
set_option maxHeartbeats 4000000 in
set_option maxRecDepth 20000 in
theorem law_value {p : Program} {l : Launch} {e : Env} {s : State} {m : MethodId} {below : List Frame} {meth : Method} {c : Code} {b L : Nat} {xs : Nat → Int32} {G : va_G} {t : T3} {Rel : Hp → Prop} {Q : State → Prop} {aS aM : Nat} {x3 : Int32} (C0 : lw_At p s m meth c b L xs) (hK : va_K G cls (tysA t) s) (hv : ∀ k : Nat, k < 6 → vp_in (x3 + nI k) L) (hO : O_value Rel) (σ : Hp) (ad : Nat → Nat) (H : Heap) (locs : List Loc) (ls : Array Slot) (hR : Rel σ) (hLI : LI s aS aM ad) (hP : va_P G cls (wsA t ad σ) H) (hS : va_S (fun q => s.heap.size ≤ q) s.heap H locs) (hl : lv_has ls 4 [(0, .ref b), (1, .ref aS), (2, .ref aM), (3, .int x3)]) (kk : ∀ (σ : Hp) (ad : Nat → Nat) (H : Heap) (locs : List Loc) (ls : Array Slot), Rel σ → LI s aS aM ad → va_P G cls (wsA t ad σ) H → va_S (fun q => s.heap.size ≤ q) s.heap H locs → lv_has ls 4 [(0, .ref b), (1, .ref aS), (2, .ref aM), (3, .int x3)] → W p l e room_1 s m #[Value.ref b] below meth c H locs 128 13160 Q (F0 m 1379 ls [])) : W p l e room_1 s m #[Value.ref b] below meth c H locs 128 13160 Q (F0 m 351 ls []) := by
  obtain ⟨hx, hb, hr, hml, hown, hts0, hX, hbl, hlocks, hgv⟩ := C0
  have hts : ∀ w ∈ lw_good, w.before #[Value.ref b] s = true := fun w hw => hts0 w (lw_good_sub w hw)
  have hbA : ¬ (fun q : Nat => s.heap.size ≤ q) b := Nat.not_le.mpr hbl
  obtain ⟨j1, j2, j3, j4, j5⟩ := id hLI
  refine lv_aload_n (k := 1) hx hb (by decide +kernel) rfl (lv_at hl 1 rfl) ?_
  refine lv_aload_n (k := 0) hx hb (by decide +kernel) rfl (lv_at hl 0 rfl) ?_
  refine lv_iload_n (k := 3) hx hb (by decide +kernel) rfl (lv_at hl 3 rfl) ?_
  refine lv_iconst (n := 1) (v := nI 1) hx hb (by decide +kernel) (by decide) ?_
  refine lv_iadd hx hb (by decide +kernel) ?_
  refine va_sld hx hb hX hbl hbA hS (hv 1 (by decide)) (by decide +kernel) ?_
  rw [← j2]
  refine law_V (d := 60) (y := y_SS_value) (n := 1) (c0 := 0) (ci := 11) (T := TX11) (N := 20) (as := [.int _]) (rest := []) hx hb hml hown hts hK j1 j5 j4 (by decide) (by decide) rfl rfl rfl k_SS_value v_SS_value w_659 (by decide +kernel) rfl (Nat.le_of_ble_eq_true rfl) (hO σ _ hR) hP hS hl.1 ⟨by decide, by decide⟩ (fun r1 σ1 H locs hrt1 hk hP hS => ?_)
  obtain ⟨v1, rfl⟩ := (show ∃ v, r1 = some (.int v) from hrt1)
  refine lv_aload_n (k := 2) hx hb (by decide +kernel) rfl (lv_at hl 2 rfl) ?_
  refine lv_aload_n (k := 0) hx hb (by decide +kernel) rfl (lv_at hl 0 rfl) ?_
  refine lv_iload_n (k := 3) hx hb (by decide +kernel) rfl (lv_at hl 3 rfl) ?_
  refine lv_iconst (n := 1) (v := nI 1) hx hb (by decide +kernel) (by decide) ?_
  refine lv_iadd hx hb (by decide +kernel) ?_
  refine va_sld hx hb hX hbl hbA hS (hv 1 (by decide)) (by decide +kernel) ?_
  rw [← j3]
  refine law_V (d := 60) (y := y_M_value) (n := 1) (c0 := 98) (ci := 12) (T := TX12) (N := 63) (as := [.int _]) (rest := [.int _]) hx hb hml hown hts hK j1 j5 j4 (by decide) (by decide) rfl rfl rfl k_M_value v_M_value w_1384 (by decide +kernel) rfl (Nat.le_of_ble_eq_true rfl) hk hP hS hl.1 ⟨by decide, by decide⟩ (fun r2 σ1 H locs hrt2 hk hP hS => ?_)
  obtain ⟨v2, rfl⟩ := (show ∃ v, r2 = some (.int v) from hrt2)
  refine lv_icmp_eq (tgt := 1379) (off := 1010) hx hb (by decide +kernel) (by decide) (fun _ => ?_) (fun hne => absurd hk.1 hne)
  exact kk σ1 _ H locs ls hk.2 hLI hP hS hl
set_option maxHeartbeats 4000000 in
set_option maxRecDepth 20000 in
theorem law_at {p : Program} {l : Launch} {e : Env} {s : State} {m : MethodId} {below : List Frame} {meth : Method} {c : Code} {b L : Nat} {xs : Nat → Int32} {G : va_G} {t : T3} {Rel : Hp → Prop} {Q : State → Prop} {aS aM : Nat} {x3 : Int32} (C0 : lw_At p s m meth c b L xs) (hK : va_K G cls (tysA t) s) (hv : ∀ k : Nat, k < 6 → vp_in (x3 + nI k) L) (hO : O_at Rel) (σ : Hp) (ad : Nat → Nat) (H : Heap) (locs : List Loc) (ls : Array Slot) (hR : Rel σ) (hLI : LI s aS aM ad) (hP : va_P G cls (wsA t ad σ) H) (hS : va_S (fun q => s.heap.size ≤ q) s.heap H locs) (hl : lv_has ls 4 [(0, .ref b), (1, .ref aS), (2, .ref aM), (3, .int x3)]) (kk : ∀ (σ : Hp) (ad : Nat → Nat) (H : Heap) (locs : List Loc) (ls : Array Slot), Rel σ → LI s aS aM ad → va_P G cls (wsA t ad σ) H → va_S (fun q => s.heap.size ≤ q) s.heap H locs → lv_has ls 4 [(0, .ref b), (1, .ref aS), (2, .ref aM), (3, .int x3)] → W p l e room_1 s m #[Value.ref b] below meth c H locs 128 13160 Q (F0 m 1379 ls [])) : W p l e room_1 s m #[Value.ref b] below meth c H locs 128 13160 Q (F0 m 374 ls []) := by
  obtain ⟨hx, hb, hr, hml, hown, hts0, hX, hbl, hlocks, hgv⟩ := C0
  have hts : ∀ w ∈ lw_good, w.before #[Value.ref b] s = true := fun w hw => hts0 w (lw_good_sub w hw)
  have hbA : ¬ (fun q : Nat => s.heap.size ≤ q) b := Nat.not_le.mpr hbl
  obtain ⟨j1, j2, j3, j4, j5⟩ := id hLI
  refine lv_aload_n (k := 1) hx hb (by decide +kernel) rfl (lv_at hl 1 rfl) ?_
  refine lv_aload_n (k := 0) hx hb (by decide +kernel) rfl (lv_at hl 0 rfl) ?_
  refine lv_iload_n (k := 3) hx hb (by decide +kernel) rfl (lv_at hl 3 rfl) ?_
  refine lv_iconst (n := 1) (v := nI 1) hx hb (by decide +kernel) (by decide) ?_
  refine lv_iadd hx hb (by decide +kernel) ?_
  refine va_sld hx hb hX hbl hbA hS (hv 1 (by decide)) (by decide +kernel) ?_
  refine lv_aload_n (k := 0) hx hb (by decide +kernel) rfl (lv_at hl 0 rfl) ?_
  refine lv_iload_n (k := 3) hx hb (by decide +kernel) rfl (lv_at hl 3 rfl) ?_
  refine lv_iconst (n := 2) (v := nI 2) hx hb (by decide +kernel) (by decide) ?_
  refine lv_iadd hx hb (by decide +kernel) ?_
  refine va_sld hx hb hX hbl hbA hS (hv 2 (by decide)) (by decide +kernel) ?_
  rw [← j2]
  refine law_V (d := 60) (y := y_SS_at) (n := 2) (c0 := 0) (ci := 11) (T := TX11) (N := 20) (as := [.int _, .int _]) (rest := []) hx hb hml hown hts hK j1 j5 j4 (by decide) (by decide) rfl rfl rfl k_SS_at v_SS_at w_664 (by decide +kernel) rfl (Nat.le_of_ble_eq_true rfl) (hO σ _ _ hR) hP hS hl.1 ⟨by decide, by decide⟩ (fun r1 σ1 H locs hrt1 hk hP hS => ?_)
  obtain ⟨v1, rfl⟩ := (show ∃ v, r1 = some (.int v) from hrt1)
  refine lv_aload_n (k := 2) hx hb (by decide +kernel) rfl (lv_at hl 2 rfl) ?_
  refine lv_aload_n (k := 0) hx hb (by decide +kernel) rfl (lv_at hl 0 rfl) ?_
  refine lv_iload_n (k := 3) hx hb (by decide +kernel) rfl (lv_at hl 3 rfl) ?_
  refine lv_iconst (n := 1) (v := nI 1) hx hb (by decide +kernel) (by decide) ?_
  refine lv_iadd hx hb (by decide +kernel) ?_
  refine va_sld hx hb hX hbl hbA hS (hv 1 (by decide)) (by decide +kernel) ?_
  refine lv_aload_n (k := 0) hx hb (by decide +kernel) rfl (lv_at hl 0 rfl) ?_
  refine lv_iload_n (k := 3) hx hb (by decide +kernel) rfl (lv_at hl 3 rfl) ?_
  refine lv_iconst (n := 2) (v := nI 2) hx hb (by decide +kernel) (by decide) ?_
  refine lv_iadd hx hb (by decide +kernel) ?_
  refine va_sld hx hb hX hbl hbA hS (hv 2 (by decide)) (by decide +kernel) ?_
  rw [← j3]
  refine law_V (d := 60) (y := y_M_at) (n := 2) (c0 := 98) (ci := 12) (T := TX12) (N := 63) (as := [.int _, .int _]) (rest := [.int _]) hx hb hml hown hts hK j1 j5 j4 (by decide) (by decide) rfl rfl rfl k_M_at v_M_at w_1404 (by decide +kernel) rfl (Nat.le_of_ble_eq_true rfl) hk hP hS hl.1 ⟨by decide, by decide⟩ (fun r2 σ1 H locs hrt2 hk hP hS => ?_)
  obtain ⟨v2, rfl⟩ := (show ∃ v, r2 = some (.int v) from hrt2)
  refine lv_icmp_eq (tgt := 1379) (off := 977) hx hb (by decide +kernel) (by decide) (fun _ => ?_) (fun hne => absurd hk.1 hne)
  exact kk σ1 _ H locs ls hk.2 hLI hP hS hl
set_option maxHeartbeats 4000000 in
set_option maxRecDepth 20000 in
theorem law_flow {p : Program} {l : Launch} {e : Env} {s : State} {m : MethodId} {below : List Frame} {meth : Method} {c : Code} {b L : Nat} {xs : Nat → Int32} {G : va_G} {t : T3} {Rel : Hp → Prop} {Q : State → Prop} {aS aM : Nat} {x3 : Int32} (C0 : lw_At p s m meth c b L xs) (hK : va_K G cls (tysA t) s) (hv : ∀ k : Nat, k < 6 → vp_in (x3 + nI k) L) (hO : O_flow Rel) (σ : Hp) (ad : Nat → Nat) (H : Heap) (locs : List Loc) (ls : Array Slot) (hR : Rel σ) (hLI : LI s aS aM ad) (hP : va_P G cls (wsA t ad σ) H) (hS : va_S (fun q => s.heap.size ≤ q) s.heap H locs) (hl : lv_has ls 4 [(0, .ref b), (1, .ref aS), (2, .ref aM), (3, .int x3)]) (kk : ∀ (σ : Hp) (ad : Nat → Nat) (H : Heap) (locs : List Loc) (ls : Array Slot), Rel σ → LI s aS aM ad → va_P G cls (wsA t ad σ) H → va_S (fun q => s.heap.size ≤ q) s.heap H locs → lv_has ls 4 [(0, .ref b), (1, .ref aS), (2, .ref aM), (3, .int x3)] → W p l e room_1 s m #[Value.ref b] below meth c H locs 128 13160 Q (F0 m 1379 ls [])) : W p l e room_1 s m #[Value.ref b] below meth c H locs 128 13160 Q (F0 m 407 ls []) := by
  obtain ⟨hx, hb, hr, hml, hown, hts0, hX, hbl, hlocks, hgv⟩ := C0
  have hts : ∀ w ∈ lw_good, w.before #[Value.ref b] s = true := fun w hw => hts0 w (lw_good_sub w hw)
  have hbA : ¬ (fun q : Nat => s.heap.size ≤ q) b := Nat.not_le.mpr hbl
  obtain ⟨j1, j2, j3, j4, j5⟩ := id hLI
  refine lv_aload_n (k := 1) hx hb (by decide +kernel) rfl (lv_at hl 1 rfl) ?_
  refine lv_aload_n (k := 0) hx hb (by decide +kernel) rfl (lv_at hl 0 rfl) ?_
  refine lv_iload_n (k := 3) hx hb (by decide +kernel) rfl (lv_at hl 3 rfl) ?_
  refine lv_iconst (n := 1) (v := nI 1) hx hb (by decide +kernel) (by decide) ?_
  refine lv_iadd hx hb (by decide +kernel) ?_
  refine va_sld hx hb hX hbl hbA hS (hv 1 (by decide)) (by decide +kernel) ?_
  refine lv_aload_n (k := 0) hx hb (by decide +kernel) rfl (lv_at hl 0 rfl) ?_
  refine lv_iload_n (k := 3) hx hb (by decide +kernel) rfl (lv_at hl 3 rfl) ?_
  refine lv_iconst (n := 2) (v := nI 2) hx hb (by decide +kernel) (by decide) ?_
  refine lv_iadd hx hb (by decide +kernel) ?_
  refine va_sld hx hb hX hbl hbA hS (hv 2 (by decide)) (by decide +kernel) ?_
  rw [← j2]
  refine law_V (d := 60) (y := y_SS_flow) (n := 2) (c0 := 0) (ci := 11) (T := TX11) (N := 20) (as := [.int _, .int _]) (rest := []) hx hb hml hown hts hK j1 j5 j4 (by decide) (by decide) rfl rfl rfl k_SS_flow v_SS_flow w_672 (by decide +kernel) rfl (Nat.le_of_ble_eq_true rfl) (hO σ _ _ hR) hP hS hl.1 ⟨by decide, by decide⟩ (fun r1 σ1 H locs hrt1 hk hP hS => ?_)
  obtain ⟨v1, rfl⟩ := (show ∃ v, r1 = some (.int v) from hrt1)
  refine lv_aload_n (k := 2) hx hb (by decide +kernel) rfl (lv_at hl 2 rfl) ?_
  refine lv_aload_n (k := 0) hx hb (by decide +kernel) rfl (lv_at hl 0 rfl) ?_
  refine lv_iload_n (k := 3) hx hb (by decide +kernel) rfl (lv_at hl 3 rfl) ?_
  refine lv_iconst (n := 1) (v := nI 1) hx hb (by decide +kernel) (by decide) ?_
  refine lv_iadd hx hb (by decide +kernel) ?_
  refine va_sld hx hb hX hbl hbA hS (hv 1 (by decide)) (by decide +kernel) ?_
  refine lv_aload_n (k := 0) hx hb (by decide +kernel) rfl (lv_at hl 0 rfl) ?_
  refine lv_iload_n (k := 3) hx hb (by decide +kernel) rfl (lv_at hl 3 rfl) ?_
  refine lv_iconst (n := 2) (v := nI 2) hx hb (by decide +kernel) (by decide) ?_
  refine lv_iadd hx hb (by decide +kernel) ?_
  refine va_sld hx hb hX hbl hbA hS (hv 2 (by decide)) (by decide +kernel) ?_
  rw [← j3]
  refine law_V (d := 60) (y := y_M_flow) (n := 2) (c0 := 98) (ci := 12) (T := TX12) (N := 63) (as := [.int _, .int _]) (rest := [.int _]) hx hb hml hown hts hK j1 j5 j4 (by decide) (by decide) rfl rfl rfl k_M_flow v_M_flow w_1412 (by decide +kernel) rfl (Nat.le_of_ble_eq_true rfl) hk hP hS hl.1 ⟨by decide, by decide⟩ (fun r2 σ1 H locs hrt2 hk hP hS => ?_)
  obtain ⟨v2, rfl⟩ := (show ∃ v, r2 = some (.int v) from hrt2)
  refine lv_icmp_eq (tgt := 1379) (off := 944) hx hb (by decide +kernel) (by decide) (fun _ => ?_) (fun hne => absurd hk.1 hne)
  exact kk σ1 _ H locs ls hk.2 hLI hP hS hl
set_option maxHeartbeats 4000000 in
set_option maxRecDepth 20000 in
theorem law_run {p : Program} {l : Launch} {e : Env} {s : State} {m : MethodId} {below : List Frame} {meth : Method} {c : Code} {b L : Nat} {xs : Nat → Int32} {G : va_G} {t : T3} {Rel : Hp → Prop} {Q : State → Prop} {aS aM : Nat} {x3 : Int32} (C0 : lw_At p s m meth c b L xs) (hK : va_K G cls (tysA t) s) (hv : ∀ k : Nat, k < 6 → vp_in (x3 + nI k) L) (hO : O_run Rel) (σ : Hp) (ad : Nat → Nat) (H : Heap) (locs : List Loc) (ls : Array Slot) (hR : Rel σ) (hLI : LI s aS aM ad) (hP : va_P G cls (wsA t ad σ) H) (hS : va_S (fun q => s.heap.size ≤ q) s.heap H locs) (hl : lv_has ls 4 [(0, .ref b), (1, .ref aS), (2, .ref aM), (3, .int x3)]) (kk : ∀ (σ : Hp) (ad : Nat → Nat) (H : Heap) (locs : List Loc) (ls : Array Slot), Rel σ → LI s aS aM ad → va_P G cls (wsA t ad σ) H → va_S (fun q => s.heap.size ≤ q) s.heap H locs → lv_has ls 4 [(0, .ref b), (1, .ref aS), (2, .ref aM), (3, .int x3)] → W p l e room_1 s m #[Value.ref b] below meth c H locs 128 13160 Q (F0 m 1379 ls [])) : W p l e room_1 s m #[Value.ref b] below meth c H locs 128 13160 Q (F0 m 440 ls []) := by
  obtain ⟨hx, hb, hr, hml, hown, hts0, hX, hbl, hlocks, hgv⟩ := C0
  have hts : ∀ w ∈ lw_good, w.before #[Value.ref b] s = true := fun w hw => hts0 w (lw_good_sub w hw)
  have hbA : ¬ (fun q : Nat => s.heap.size ≤ q) b := Nat.not_le.mpr hbl
  obtain ⟨j1, j2, j3, j4, j5⟩ := id hLI
  refine lv_aload_n (k := 1) hx hb (by decide +kernel) rfl (lv_at hl 1 rfl) ?_
  refine lv_aload_n (k := 0) hx hb (by decide +kernel) rfl (lv_at hl 0 rfl) ?_
  refine lv_iload_n (k := 3) hx hb (by decide +kernel) rfl (lv_at hl 3 rfl) ?_
  refine lv_iconst (n := 1) (v := nI 1) hx hb (by decide +kernel) (by decide) ?_
  refine lv_iadd hx hb (by decide +kernel) ?_
  refine va_sld hx hb hX hbl hbA hS (hv 1 (by decide)) (by decide +kernel) ?_
  rw [← j2]
  refine law_V (d := 60) (y := y_SS_run) (n := 1) (c0 := 0) (ci := 11) (T := TX11) (N := 20) (as := [.int _]) (rest := []) hx hb hml hown hts hK j1 j5 j4 (by decide) (by decide) rfl rfl rfl k_SS_run v_SS_run w_676 (by decide +kernel) rfl (Nat.le_of_ble_eq_true rfl) (hO σ _ hR) hP hS hl.1 ⟨by decide, by decide⟩ (fun r1 σ1 H locs hrt1 hk hP hS => ?_)
  obtain ⟨v1, rfl⟩ := (show ∃ v, r1 = some (.int v) from hrt1)
  refine lv_aload_n (k := 2) hx hb (by decide +kernel) rfl (lv_at hl 2 rfl) ?_
  refine lv_aload_n (k := 0) hx hb (by decide +kernel) rfl (lv_at hl 0 rfl) ?_
  refine lv_iload_n (k := 3) hx hb (by decide +kernel) rfl (lv_at hl 3 rfl) ?_
  refine lv_iconst (n := 1) (v := nI 1) hx hb (by decide +kernel) (by decide) ?_
  refine lv_iadd hx hb (by decide +kernel) ?_
  refine va_sld hx hb hX hbl hbA hS (hv 1 (by decide)) (by decide +kernel) ?_
  rw [← j3]
  refine law_V (d := 60) (y := y_M_run) (n := 1) (c0 := 98) (ci := 12) (T := TX12) (N := 63) (as := [.int _]) (rest := [.int _]) hx hb hml hown hts hK j1 j5 j4 (by decide) (by decide) rfl rfl rfl k_M_run v_M_run w_1420 (by decide +kernel) rfl (Nat.le_of_ble_eq_true rfl) hk hP hS hl.1 ⟨by decide, by decide⟩ (fun r2 σ1 H locs hrt2 hk hP hS => ?_)
  obtain ⟨v2, rfl⟩ := (show ∃ v, r2 = some (.int v) from hrt2)
  refine lv_icmp_eq (tgt := 1379) (off := 921) hx hb (by decide +kernel) (by decide) (fun _ => ?_) (fun hne => absurd hk.1 hne)
  exact kk σ1 _ H locs ls hk.2 hLI hP hS hl
set_option maxHeartbeats 4000000 in
set_option maxRecDepth 20000 in
theorem law_begin {p : Program} {l : Launch} {e : Env} {s : State} {m : MethodId} {below : List Frame} {meth : Method} {c : Code} {b L : Nat} {xs : Nat → Int32} {G : va_G} {t : T3} {Rel : Hp → Prop} {Q : State → Prop} {aS aM : Nat} {x3 : Int32} (C0 : lw_At p s m meth c b L xs) (hK : va_K G cls (tysA t) s) (hv : ∀ k : Nat, k < 6 → vp_in (x3 + nI k) L) (hO : O_begin Rel) (σ : Hp) (ad : Nat → Nat) (H : Heap) (locs : List Loc) (ls : Array Slot) (hR : Rel σ) (hLI : LI s aS aM ad) (hP : va_P G cls (wsA t ad σ) H) (hS : va_S (fun q => s.heap.size ≤ q) s.heap H locs) (hl : lv_has ls 4 [(0, .ref b), (1, .ref aS), (2, .ref aM), (3, .int x3)]) (kk : ∀ (σ : Hp) (ad : Nat → Nat) (H : Heap) (locs : List Loc) (ls : Array Slot), Rel σ → LI s aS aM ad → va_P G cls (wsA t ad σ) H → va_S (fun q => s.heap.size ≤ q) s.heap H locs → lv_has ls 4 [(0, .ref b), (1, .ref aS), (2, .ref aM), (3, .int x3)] → W p l e room_1 s m #[Value.ref b] below meth c H locs 128 13160 Q (F0 m 1379 ls [])) : W p l e room_1 s m #[Value.ref b] below meth c H locs 128 13160 Q (F0 m 463 ls []) := by
  obtain ⟨hx, hb, hr, hml, hown, hts0, hX, hbl, hlocks, hgv⟩ := C0
  have hts : ∀ w ∈ lw_good, w.before #[Value.ref b] s = true := fun w hw => hts0 w (lw_good_sub w hw)
  have hbA : ¬ (fun q : Nat => s.heap.size ≤ q) b := Nat.not_le.mpr hbl
  obtain ⟨j1, j2, j3, j4, j5⟩ := id hLI
  refine lv_aload_n (k := 1) hx hb (by decide +kernel) rfl (lv_at hl 1 rfl) ?_
  rw [← j2]
  refine law_V (d := 60) (y := y_SS_begin) (n := 0) (c0 := 0) (ci := 11) (T := TX11) (N := 20) (as := []) (rest := []) hx hb hml hown hts hK j1 j5 j4 (by decide) (by decide) rfl rfl rfl k_SS_begin v_SS_begin w_698 (by decide +kernel) rfl (Nat.le_of_ble_eq_true rfl) (hO σ  hR) hP hS hl.1 ⟨by decide, by decide⟩ (fun r1 σ1 H locs hrt1 hk hP hS => ?_)
  obtain ⟨v1, rfl⟩ := (show ∃ v, r1 = some (.int v) from hrt1)
  refine lv_aload_n (k := 2) hx hb (by decide +kernel) rfl (lv_at hl 2 rfl) ?_
  rw [← j3]
  refine law_V (d := 60) (y := y_M_begin) (n := 0) (c0 := 98) (ci := 12) (T := TX12) (N := 63) (as := []) (rest := [.int _]) hx hb hml hown hts hK j1 j5 j4 (by decide) (by decide) rfl rfl rfl k_M_begin v_M_begin w_1429 (by decide +kernel) rfl (Nat.le_of_ble_eq_true rfl) hk hP hS hl.1 ⟨by decide, by decide⟩ (fun r2 σ1 H locs hrt2 hk hP hS => ?_)
  obtain ⟨v2, rfl⟩ := (show ∃ v, r2 = some (.int v) from hrt2)
  refine lv_icmp_eq (tgt := 1379) (off := 908) hx hb (by decide +kernel) (by decide) (fun _ => ?_) (fun hne => absurd hk.1 hne)
  exact kk σ1 _ H locs ls hk.2 hLI hP hS hl
set_option maxHeartbeats 4000000 in
set_option maxRecDepth 20000 in
theorem law_change {p : Program} {l : Launch} {e : Env} {s : State} {m : MethodId} {below : List Frame} {meth : Method} {c : Code} {b L : Nat} {xs : Nat → Int32} {G : va_G} {t : T3} {Rel : Hp → Prop} {Q : State → Prop} {aS aM : Nat} {x3 : Int32} (C0 : lw_At p s m meth c b L xs) (hK : va_K G cls (tysA t) s) (hv : ∀ k : Nat, k < 6 → vp_in (x3 + nI k) L) (hO : O_change Rel) (σ : Hp) (ad : Nat → Nat) (H : Heap) (locs : List Loc) (ls : Array Slot) (hR : Rel σ) (hLI : LI s aS aM ad) (hP : va_P G cls (wsA t ad σ) H) (hS : va_S (fun q => s.heap.size ≤ q) s.heap H locs) (hl : lv_has ls 4 [(0, .ref b), (1, .ref aS), (2, .ref aM), (3, .int x3)]) (kk : ∀ (σ : Hp) (ad : Nat → Nat) (H : Heap) (locs : List Loc) (ls : Array Slot), Rel σ → LI s aS aM ad → va_P G cls (wsA t ad σ) H → va_S (fun q => s.heap.size ≤ q) s.heap H locs → lv_has ls 4 [(0, .ref b), (1, .ref aS), (2, .ref aM), (3, .int x3)] → W p l e room_1 s m #[Value.ref b] below meth c H locs 128 13160 Q (F0 m 1379 ls [])) : W p l e room_1 s m #[Value.ref b] below meth c H locs 128 13160 Q (F0 m 476 ls []) := by
  obtain ⟨hx, hb, hr, hml, hown, hts0, hX, hbl, hlocks, hgv⟩ := C0
  have hts : ∀ w ∈ lw_good, w.before #[Value.ref b] s = true := fun w hw => hts0 w (lw_good_sub w hw)
  have hbA : ¬ (fun q : Nat => s.heap.size ≤ q) b := Nat.not_le.mpr hbl
  obtain ⟨j1, j2, j3, j4, j5⟩ := id hLI
  refine lv_aload_n (k := 1) hx hb (by decide +kernel) rfl (lv_at hl 1 rfl) ?_
  refine lv_aload_n (k := 0) hx hb (by decide +kernel) rfl (lv_at hl 0 rfl) ?_
  refine lv_iload_n (k := 3) hx hb (by decide +kernel) rfl (lv_at hl 3 rfl) ?_
  refine lv_iconst (n := 1) (v := nI 1) hx hb (by decide +kernel) (by decide) ?_
  refine lv_iadd hx hb (by decide +kernel) ?_
  refine va_sld hx hb hX hbl hbA hS (hv 1 (by decide)) (by decide +kernel) ?_
  refine lv_aload_n (k := 0) hx hb (by decide +kernel) rfl (lv_at hl 0 rfl) ?_
  refine lv_iload_n (k := 3) hx hb (by decide +kernel) rfl (lv_at hl 3 rfl) ?_
  refine lv_iconst (n := 2) (v := nI 2) hx hb (by decide +kernel) (by decide) ?_
  refine lv_iadd hx hb (by decide +kernel) ?_
  refine va_sld hx hb hX hbl hbA hS (hv 2 (by decide)) (by decide +kernel) ?_
  rw [← j2]
  refine law_V (d := 60) (y := y_SS_change) (n := 2) (c0 := 0) (ci := 11) (T := TX11) (N := 20) (as := [.int _, .int _]) (rest := []) hx hb hml hown hts hK j1 j5 j4 (by decide) (by decide) rfl rfl rfl k_SS_change v_SS_change w_702 (by decide +kernel) rfl (Nat.le_of_ble_eq_true rfl) (hO σ _ _ hR) hP hS hl.1 ⟨by decide, by decide⟩ (fun r1 σ1 H locs hrt1 hk hP hS => ?_)
  obtain ⟨v1, rfl⟩ := (show ∃ v, r1 = some (.int v) from hrt1)
  refine lv_aload_n (k := 2) hx hb (by decide +kernel) rfl (lv_at hl 2 rfl) ?_
  refine lv_aload_n (k := 0) hx hb (by decide +kernel) rfl (lv_at hl 0 rfl) ?_
  refine lv_iload_n (k := 3) hx hb (by decide +kernel) rfl (lv_at hl 3 rfl) ?_
  refine lv_iconst (n := 1) (v := nI 1) hx hb (by decide +kernel) (by decide) ?_
  refine lv_iadd hx hb (by decide +kernel) ?_
  refine va_sld hx hb hX hbl hbA hS (hv 1 (by decide)) (by decide +kernel) ?_
  refine lv_aload_n (k := 0) hx hb (by decide +kernel) rfl (lv_at hl 0 rfl) ?_
  refine lv_iload_n (k := 3) hx hb (by decide +kernel) rfl (lv_at hl 3 rfl) ?_
  refine lv_iconst (n := 2) (v := nI 2) hx hb (by decide +kernel) (by decide) ?_
  refine lv_iadd hx hb (by decide +kernel) ?_
  refine va_sld hx hb hX hbl hbA hS (hv 2 (by decide)) (by decide +kernel) ?_
  rw [← j3]
  refine law_V (d := 60) (y := y_M_change) (n := 2) (c0 := 98) (ci := 12) (T := TX12) (N := 63) (as := [.int _, .int _]) (rest := [.int _]) hx hb hml hown hts hK j1 j5 j4 (by decide) (by decide) rfl rfl rfl k_M_change v_M_change w_1433 (by decide +kernel) rfl (Nat.le_of_ble_eq_true rfl) hk hP hS hl.1 ⟨by decide, by decide⟩ (fun r2 σ1 H locs hrt2 hk hP hS => ?_)
  obtain ⟨v2, rfl⟩ := (show ∃ v, r2 = some (.int v) from hrt2)
  refine lv_icmp_eq (tgt := 1379) (off := 875) hx hb (by decide +kernel) (by decide) (fun _ => ?_) (fun hne => absurd hk.1 hne)
  exact kk σ1 _ H locs ls hk.2 hLI hP hS hl
set_option maxHeartbeats 4000000 in
set_option maxRecDepth 20000 in
theorem law_event {p : Program} {l : Launch} {e : Env} {s : State} {m : MethodId} {below : List Frame} {meth : Method} {c : Code} {b L : Nat} {xs : Nat → Int32} {G : va_G} {t : T3} {Rel : Hp → Prop} {Q : State → Prop} {aS aM : Nat} {x3 : Int32} (C0 : lw_At p s m meth c b L xs) (hK : va_K G cls (tysA t) s) (hv : ∀ k : Nat, k < 6 → vp_in (x3 + nI k) L) (hO : O_event Rel) (σ : Hp) (ad : Nat → Nat) (H : Heap) (locs : List Loc) (ls : Array Slot) (hR : Rel σ) (hLI : LI s aS aM ad) (hP : va_P G cls (wsA t ad σ) H) (hS : va_S (fun q => s.heap.size ≤ q) s.heap H locs) (hl : lv_has ls 4 [(0, .ref b), (1, .ref aS), (2, .ref aM), (3, .int x3)]) (kk : ∀ (σ : Hp) (ad : Nat → Nat) (H : Heap) (locs : List Loc) (ls : Array Slot), Rel σ → LI s aS aM ad → va_P G cls (wsA t ad σ) H → va_S (fun q => s.heap.size ≤ q) s.heap H locs → lv_has ls 4 [(0, .ref b), (1, .ref aS), (2, .ref aM), (3, .int x3)] → W p l e room_1 s m #[Value.ref b] below meth c H locs 128 13160 Q (F0 m 1379 ls [])) : W p l e room_1 s m #[Value.ref b] below meth c H locs 128 13160 Q (F0 m 509 ls []) := by
  obtain ⟨hx, hb, hr, hml, hown, hts0, hX, hbl, hlocks, hgv⟩ := C0
  have hts : ∀ w ∈ lw_good, w.before #[Value.ref b] s = true := fun w hw => hts0 w (lw_good_sub w hw)
  have hbA : ¬ (fun q : Nat => s.heap.size ≤ q) b := Nat.not_le.mpr hbl
  obtain ⟨j1, j2, j3, j4, j5⟩ := id hLI
  refine lv_aload_n (k := 1) hx hb (by decide +kernel) rfl (lv_at hl 1 rfl) ?_
  refine lv_aload_n (k := 0) hx hb (by decide +kernel) rfl (lv_at hl 0 rfl) ?_
  refine lv_iload_n (k := 3) hx hb (by decide +kernel) rfl (lv_at hl 3 rfl) ?_
  refine lv_iconst (n := 1) (v := nI 1) hx hb (by decide +kernel) (by decide) ?_
  refine lv_iadd hx hb (by decide +kernel) ?_
  refine va_sld hx hb hX hbl hbA hS (hv 1 (by decide)) (by decide +kernel) ?_
  refine lv_aload_n (k := 0) hx hb (by decide +kernel) rfl (lv_at hl 0 rfl) ?_
  refine lv_iload_n (k := 3) hx hb (by decide +kernel) rfl (lv_at hl 3 rfl) ?_
  refine lv_iconst (n := 2) (v := nI 2) hx hb (by decide +kernel) (by decide) ?_
  refine lv_iadd hx hb (by decide +kernel) ?_
  refine va_sld hx hb hX hbl hbA hS (hv 2 (by decide)) (by decide +kernel) ?_
  refine lv_aload_n (k := 0) hx hb (by decide +kernel) rfl (lv_at hl 0 rfl) ?_
  refine lv_iload_n (k := 3) hx hb (by decide +kernel) rfl (lv_at hl 3 rfl) ?_
  refine lv_iconst (n := 3) (v := nI 3) hx hb (by decide +kernel) (by decide) ?_
  refine lv_iadd hx hb (by decide +kernel) ?_
  refine va_sld hx hb hX hbl hbA hS (hv 3 (by decide)) (by decide +kernel) ?_
  rw [← j2]
  refine law_V (d := 60) (y := y_SS_event) (n := 3) (c0 := 0) (ci := 11) (T := TX11) (N := 20) (as := [.int _, .int _, .int _]) (rest := []) hx hb hml hown hts hK j1 j5 j4 (by decide) (by decide) rfl rfl rfl k_SS_event v_SS_event w_714 (by decide +kernel) rfl (Nat.le_of_ble_eq_true rfl) (hO σ _ _ _ hR) hP hS hl.1 ⟨by decide, by decide⟩ (fun r1 σ1 H locs hrt1 hk hP hS => ?_)
  obtain ⟨v1, rfl⟩ := (show ∃ v, r1 = some (.int v) from hrt1)
  refine lv_aload_n (k := 2) hx hb (by decide +kernel) rfl (lv_at hl 2 rfl) ?_
  refine lv_aload_n (k := 0) hx hb (by decide +kernel) rfl (lv_at hl 0 rfl) ?_
  refine lv_iload_n (k := 3) hx hb (by decide +kernel) rfl (lv_at hl 3 rfl) ?_
  refine lv_iconst (n := 1) (v := nI 1) hx hb (by decide +kernel) (by decide) ?_
  refine lv_iadd hx hb (by decide +kernel) ?_
  refine va_sld hx hb hX hbl hbA hS (hv 1 (by decide)) (by decide +kernel) ?_
  refine lv_aload_n (k := 0) hx hb (by decide +kernel) rfl (lv_at hl 0 rfl) ?_
  refine lv_iload_n (k := 3) hx hb (by decide +kernel) rfl (lv_at hl 3 rfl) ?_
  refine lv_iconst (n := 2) (v := nI 2) hx hb (by decide +kernel) (by decide) ?_
  refine lv_iadd hx hb (by decide +kernel) ?_
  refine va_sld hx hb hX hbl hbA hS (hv 2 (by decide)) (by decide +kernel) ?_
  refine lv_aload_n (k := 0) hx hb (by decide +kernel) rfl (lv_at hl 0 rfl) ?_
  refine lv_iload_n (k := 3) hx hb (by decide +kernel) rfl (lv_at hl 3 rfl) ?_
  refine lv_iconst (n := 3) (v := nI 3) hx hb (by decide +kernel) (by decide) ?_
  refine lv_iadd hx hb (by decide +kernel) ?_
  refine va_sld hx hb hX hbl hbA hS (hv 3 (by decide)) (by decide +kernel) ?_
  rw [← j3]
  refine law_V (d := 60) (y := y_M_event) (n := 3) (c0 := 98) (ci := 12) (T := TX12) (N := 63) (as := [.int _, .int _, .int _]) (rest := [.int _]) hx hb hml hown hts hK j1 j5 j4 (by decide) (by decide) rfl rfl rfl k_M_event v_M_event w_1441 (by decide +kernel) rfl (Nat.le_of_ble_eq_true rfl) hk hP hS hl.1 ⟨by decide, by decide⟩ (fun r2 σ1 H locs hrt2 hk hP hS => ?_)
  obtain ⟨v2, rfl⟩ := (show ∃ v, r2 = some (.int v) from hrt2)
  refine lv_icmp_eq (tgt := 1379) (off := 832) hx hb (by decide +kernel) (by decide) (fun _ => ?_) (fun hne => absurd hk.1 hne)
  exact kk σ1 _ H locs ls hk.2 hLI hP hS hl
