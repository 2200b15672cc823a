set_option maxHeartbeats 4000000 in
set_option maxRecDepth 20000 in
theorem law_sum {p : Program} {l : Launch} {e : Env} {s : State} {m : MethodId} {below : List Frame} {meth : Method} {c : Code} {b L : Nat} {xs : Nat → Int32} {G : va_G} {t : T3} {Rel : Hp → Prop} {Q : State → Prop} {aS aM : Nat} {x3 : Int32} (C0 : lw_At p s m meth c b L xs) (hK : va_K G cls (tysA t) s) (hv : ∀ k : Nat, k < 6 → vp_in (x3 + nI k) L) (hO : O_sum Rel) (σ : Hp) (ad : Nat → Nat) (H : Heap) (locs : List Loc) (ls : Array Slot) (hR : Rel σ) (hLI : LI s aS aM ad) (hP : va_P G cls (wsA t ad σ) H) (hS : va_S (fun q => s.heap.size ≤ q) s.heap H locs) (hl : lv_has ls 4 [(0, .ref b), (1, .ref aS), (2, .ref aM), (3, .int x3)]) (kk : ∀ (σ : Hp) (ad : Nat → Nat) (H : Heap) (locs : List Loc) (ls : Array Slot), Rel σ → LI s aS aM ad → va_P G cls (wsA t ad σ) H → va_S (fun q => s.heap.size ≤ q) s.heap H locs → lv_has ls 4 [(0, .ref b), (1, .ref aS), (2, .ref aM), (3, .int x3)] → W p l e room_1 s m #[Value.ref b] below meth c H locs 128 13160 Q (F0 m 1379 ls [])) : W p l e room_1 s m #[Value.ref b] below meth c H locs 128 13160 Q (F0 m 552 ls []) := by
  obtain ⟨hx, hb, hr, hml, hown, hts0, hX, hbl, hlocks, hgv⟩ := C0
  have hts : ∀ w ∈ lw_good, w.before #[Value.ref b] s = true := fun w hw => hts0 w (lw_good_sub w hw)
  have hbA : ¬ (fun q : Nat => s.heap.size ≤ q) b := Nat.not_le.mpr hbl
  obtain ⟨j1, j2, j3, j4, j5⟩ := id hLI
  refine lv_aload_n (k := 1) hx hb (by decide +kernel) rfl (lv_at hl 1 rfl) ?_
  refine lv_aload_n (k := 0) hx hb (by decide +kernel) rfl (lv_at hl 0 rfl) ?_
  refine lv_iload_n (k := 3) hx hb (by decide +kernel) rfl (lv_at hl 3 rfl) ?_
  refine lv_iconst (n := 1) (v := nI 1) hx hb (by decide +kernel) (by decide) ?_
  refine lv_iadd hx hb (by decide +kernel) ?_
  refine va_sld hx hb hX hbl hbA hS (hv 1 (by decide)) (by decide +kernel) ?_
  rw [← j2]
  refine law_V (d := 60) (y := y_SS_sum) (n := 1) (c0 := 0) (ci := 11) (T := TX11) (N := 20) (as := [.int _]) (rest := []) hx hb hml hown hts hK j1 j5 j4 (by decide) (by decide) rfl rfl rfl k_SS_sum v_SS_sum w_718 (by decide +kernel) rfl (Nat.le_of_ble_eq_true rfl) (hO σ _ hR) hP hS hl.1 ⟨by decide, by decide⟩ (fun r1 σ1 H locs hrt1 hk hP hS => ?_)
  obtain ⟨v1, rfl⟩ := (show ∃ v, r1 = some (.long v) from hrt1)
  refine lv_aload_n (k := 2) hx hb (by decide +kernel) rfl (lv_at hl 2 rfl) ?_
  refine lv_aload_n (k := 0) hx hb (by decide +kernel) rfl (lv_at hl 0 rfl) ?_
  refine lv_iload_n (k := 3) hx hb (by decide +kernel) rfl (lv_at hl 3 rfl) ?_
  refine lv_iconst (n := 1) (v := nI 1) hx hb (by decide +kernel) (by decide) ?_
  refine lv_iadd hx hb (by decide +kernel) ?_
  refine va_sld hx hb hX hbl hbA hS (hv 1 (by decide)) (by decide +kernel) ?_
  rw [← j3]
  refine law_V (d := 60) (y := y_M_sum) (n := 1) (c0 := 98) (ci := 12) (T := TX12) (N := 63) (as := [.int _]) (rest := [.long _]) hx hb hml hown hts hK j1 j5 j4 (by decide) (by decide) rfl rfl rfl k_M_sum v_M_sum w_1445 (by decide +kernel) rfl (Nat.le_of_ble_eq_true rfl) hk hP hS hl.1 ⟨by decide, by decide⟩ (fun r2 σ1 H locs hrt2 hk hP hS => ?_)
  obtain ⟨v2, rfl⟩ := (show ∃ v, r2 = some (.long v) from hrt2)
  refine W.lcmp hx hb (by decide +kernel) ?_
  refine lv_if_eq (tgt := 1379) (off := 808) hx hb (by decide +kernel) (by decide) (fun _ => ?_) (fun hne => absurd (lg_cmp_self hk.1) hne)
  exact kk σ1 _ H locs ls hk.2 hLI hP hS hl
set_option maxHeartbeats 4000000 in
set_option maxRecDepth 20000 in
theorem law_moves {p : Program} {l : Launch} {e : Env} {s : State} {m : MethodId} {below : List Frame} {meth : Method} {c : Code} {b L : Nat} {xs : Nat → Int32} {G : va_G} {t : T3} {Rel : Hp → Prop} {Q : State → Prop} {aS aM : Nat} {x3 : Int32} (C0 : lw_At p s m meth c b L xs) (hK : va_K G cls (tysA t) s) (hv : ∀ k : Nat, k < 6 → vp_in (x3 + nI k) L) (hO : O_moves Rel) (σ : Hp) (ad : Nat → Nat) (H : Heap) (locs : List Loc) (ls : Array Slot) (hR : Rel σ) (hLI : LI s aS aM ad) (hP : va_P G cls (wsA t ad σ) H) (hS : va_S (fun q => s.heap.size ≤ q) s.heap H locs) (hl : lv_has ls 4 [(0, .ref b), (1, .ref aS), (2, .ref aM), (3, .int x3)]) (kk : ∀ (σ : Hp) (ad : Nat → Nat) (H : Heap) (locs : List Loc) (ls : Array Slot), Rel σ → LI s aS aM ad → va_P G cls (wsA t ad σ) H → va_S (fun q => s.heap.size ≤ q) s.heap H locs → lv_has ls 4 [(0, .ref b), (1, .ref aS), (2, .ref aM), (3, .int x3)] → W p l e room_1 s m #[Value.ref b] below meth c H locs 128 13160 Q (F0 m 1379 ls [])) : W p l e room_1 s m #[Value.ref b] below meth c H locs 128 13160 Q (F0 m 576 ls []) := by
  obtain ⟨hx, hb, hr, hml, hown, hts0, hX, hbl, hlocks, hgv⟩ := C0
  have hts : ∀ w ∈ lw_good, w.before #[Value.ref b] s = true := fun w hw => hts0 w (lw_good_sub w hw)
  have hbA : ¬ (fun q : Nat => s.heap.size ≤ q) b := Nat.not_le.mpr hbl
  obtain ⟨j1, j2, j3, j4, j5⟩ := id hLI
  refine lv_aload_n (k := 1) hx hb (by decide +kernel) rfl (lv_at hl 1 rfl) ?_
  refine lv_aload_n (k := 0) hx hb (by decide +kernel) rfl (lv_at hl 0 rfl) ?_
  refine lv_iload_n (k := 3) hx hb (by decide +kernel) rfl (lv_at hl 3 rfl) ?_
  refine lv_iconst (n := 1) (v := nI 1) hx hb (by decide +kernel) (by decide) ?_
  refine lv_iadd hx hb (by decide +kernel) ?_
  refine va_sld hx hb hX hbl hbA hS (hv 1 (by decide)) (by decide +kernel) ?_
  rw [← j2]
  refine law_V (d := 60) (y := y_SS_moves) (n := 1) (c0 := 0) (ci := 11) (T := TX11) (N := 20) (as := [.int _]) (rest := []) hx hb hml hown hts hK j1 j5 j4 (by decide) (by decide) rfl rfl rfl k_SS_moves v_SS_moves w_727 (by decide +kernel) rfl (Nat.le_of_ble_eq_true rfl) (hO σ _ hR) hP hS hl.1 ⟨by decide, by decide⟩ (fun r1 σ1 H locs hrt1 hk hP hS => ?_)
  obtain ⟨v1, rfl⟩ := (show ∃ v, r1 = some (.int v) from hrt1)
  refine lv_aload_n (k := 2) hx hb (by decide +kernel) rfl (lv_at hl 2 rfl) ?_
  refine lv_aload_n (k := 0) hx hb (by decide +kernel) rfl (lv_at hl 0 rfl) ?_
  refine lv_iload_n (k := 3) hx hb (by decide +kernel) rfl (lv_at hl 3 rfl) ?_
  refine lv_iconst (n := 1) (v := nI 1) hx hb (by decide +kernel) (by decide) ?_
  refine lv_iadd hx hb (by decide +kernel) ?_
  refine va_sld hx hb hX hbl hbA hS (hv 1 (by decide)) (by decide +kernel) ?_
  rw [← j3]
  refine law_V (d := 60) (y := y_M_moves) (n := 1) (c0 := 98) (ci := 12) (T := TX12) (N := 63) (as := [.int _]) (rest := [.int _]) hx hb hml hown hts hK j1 j5 j4 (by decide) (by decide) rfl rfl rfl k_M_moves v_M_moves w_1449 (by decide +kernel) rfl (Nat.le_of_ble_eq_true rfl) hk hP hS hl.1 ⟨by decide, by decide⟩ (fun r2 σ1 H locs hrt2 hk hP hS => ?_)
  obtain ⟨v2, rfl⟩ := (show ∃ v, r2 = some (.int v) from hrt2)
  refine lv_icmp_eq (tgt := 1379) (off := 785) hx hb (by decide +kernel) (by decide) (fun _ => ?_) (fun hne => absurd hk.1 hne)
  exact kk σ1 _ H locs ls hk.2 hLI hP hS hl
set_option maxHeartbeats 4000000 in
set_option maxRecDepth 20000 in
theorem law_reached {p : Program} {l : Launch} {e : Env} {s : State} {m : MethodId} {below : List Frame} {meth : Method} {c : Code} {b L : Nat} {xs : Nat → Int32} {G : va_G} {t : T3} {Rel : Hp → Prop} {Q : State → Prop} {aS aM : Nat} {x3 : Int32} (C0 : lw_At p s m meth c b L xs) (hK : va_K G cls (tysA t) s) (hv : ∀ k : Nat, k < 6 → vp_in (x3 + nI k) L) (hO : O_reached Rel) (σ : Hp) (ad : Nat → Nat) (H : Heap) (locs : List Loc) (ls : Array Slot) (hR : Rel σ) (hLI : LI s aS aM ad) (hP : va_P G cls (wsA t ad σ) H) (hS : va_S (fun q => s.heap.size ≤ q) s.heap H locs) (hl : lv_has ls 4 [(0, .ref b), (1, .ref aS), (2, .ref aM), (3, .int x3)]) (kk : ∀ (σ : Hp) (ad : Nat → Nat) (H : Heap) (locs : List Loc) (ls : Array Slot), Rel σ → LI s aS aM ad → va_P G cls (wsA t ad σ) H → va_S (fun q => s.heap.size ≤ q) s.heap H locs → lv_has ls 4 [(0, .ref b), (1, .ref aS), (2, .ref aM), (3, .int x3)] → W p l e room_1 s m #[Value.ref b] below meth c H locs 128 13160 Q (F0 m 1379 ls [])) : W p l e room_1 s m #[Value.ref b] below meth c H locs 128 13160 Q (F0 m 599 ls []) := by
  obtain ⟨hx, hb, hr, hml, hown, hts0, hX, hbl, hlocks, hgv⟩ := C0
  have hts : ∀ w ∈ lw_good, w.before #[Value.ref b] s = true := fun w hw => hts0 w (lw_good_sub w hw)
  have hbA : ¬ (fun q : Nat => s.heap.size ≤ q) b := Nat.not_le.mpr hbl
  obtain ⟨j1, j2, j3, j4, j5⟩ := id hLI
  refine lv_aload_n (k := 1) hx hb (by decide +kernel) rfl (lv_at hl 1 rfl) ?_
  refine lv_aload_n (k := 0) hx hb (by decide +kernel) rfl (lv_at hl 0 rfl) ?_
  refine lv_iload_n (k := 3) hx hb (by decide +kernel) rfl (lv_at hl 3 rfl) ?_
  refine lv_iconst (n := 1) (v := nI 1) hx hb (by decide +kernel) (by decide) ?_
  refine lv_iadd hx hb (by decide +kernel) ?_
  refine va_sld hx hb hX hbl hbA hS (hv 1 (by decide)) (by decide +kernel) ?_
  rw [← j2]
  refine law_V (d := 60) (y := y_SS_reached) (n := 1) (c0 := 0) (ci := 11) (T := TX11) (N := 20) (as := [.int _]) (rest := []) hx hb hml hown hts hK j1 j5 j4 (by decide) (by decide) rfl rfl rfl k_SS_reached v_SS_reached w_731 (by decide +kernel) rfl (Nat.le_of_ble_eq_true rfl) (hO σ _ hR) hP hS hl.1 ⟨by decide, by decide⟩ (fun r1 σ1 H locs hrt1 hk hP hS => ?_)
  obtain ⟨v1, rfl⟩ := (show ∃ v, r1 = some (.int v) from hrt1)
  refine lv_aload_n (k := 2) hx hb (by decide +kernel) rfl (lv_at hl 2 rfl) ?_
  refine lv_aload_n (k := 0) hx hb (by decide +kernel) rfl (lv_at hl 0 rfl) ?_
  refine lv_iload_n (k := 3) hx hb (by decide +kernel) rfl (lv_at hl 3 rfl) ?_
  refine lv_iconst (n := 1) (v := nI 1) hx hb (by decide +kernel) (by decide) ?_
  refine lv_iadd hx hb (by decide +kernel) ?_
  refine va_sld hx hb hX hbl hbA hS (hv 1 (by decide)) (by decide +kernel) ?_
  rw [← j3]
  refine law_V (d := 60) (y := y_M_reached) (n := 1) (c0 := 98) (ci := 12) (T := TX12) (N := 63) (as := [.int _]) (rest := [.int _]) hx hb hml hown hts hK j1 j5 j4 (by decide) (by decide) rfl rfl rfl k_M_reached v_M_reached w_1457 (by decide +kernel) rfl (Nat.le_of_ble_eq_true rfl) hk hP hS hl.1 ⟨by decide, by decide⟩ (fun r2 σ1 H locs hrt2 hk hP hS => ?_)
  obtain ⟨v2, rfl⟩ := (show ∃ v, r2 = some (.int v) from hrt2)
  refine lv_icmp_eq (tgt := 1379) (off := 762) hx hb (by decide +kernel) (by decide) (fun _ => ?_) (fun hne => absurd hk.1 hne)
  exact kk σ1 _ H locs ls hk.2 hLI hP hS hl
set_option maxHeartbeats 4000000 in
set_option maxRecDepth 20000 in
theorem law_rings {p : Program} {l : Launch} {e : Env} {s : State} {m : MethodId} {below : List Frame} {meth : Method} {c : Code} {b L : Nat} {xs : Nat → Int32} {G : va_G} {t : T3} {Rel : Hp → Prop} {Q : State → Prop} {aS aM : Nat} {x3 : Int32} (C0 : lw_At p s m meth c b L xs) (hK : va_K G cls (tysA t) s) (hv : ∀ k : Nat, k < 6 → vp_in (x3 + nI k) L) (hO : O_rings Rel) (σ : Hp) (ad : Nat → Nat) (H : Heap) (locs : List Loc) (ls : Array Slot) (hR : Rel σ) (hLI : LI s aS aM ad) (hP : va_P G cls (wsA t ad σ) H) (hS : va_S (fun q => s.heap.size ≤ q) s.heap H locs) (hl : lv_has ls 4 [(0, .ref b), (1, .ref aS), (2, .ref aM), (3, .int x3)]) (kk : ∀ (σ : Hp) (ad : Nat → Nat) (H : Heap) (locs : List Loc) (ls : Array Slot), Rel σ → LI s aS aM ad → va_P G cls (wsA t ad σ) H → va_S (fun q => s.heap.size ≤ q) s.heap H locs → lv_has ls 4 [(0, .ref b), (1, .ref aS), (2, .ref aM), (3, .int x3)] → W p l e room_1 s m #[Value.ref b] below meth c H locs 128 13160 Q (F0 m 1379 ls [])) : W p l e room_1 s m #[Value.ref b] below meth c H locs 128 13160 Q (F0 m 622 ls []) := by
  obtain ⟨hx, hb, hr, hml, hown, hts0, hX, hbl, hlocks, hgv⟩ := C0
  have hts : ∀ w ∈ lw_good, w.before #[Value.ref b] s = true := fun w hw => hts0 w (lw_good_sub w hw)
  have hbA : ¬ (fun q : Nat => s.heap.size ≤ q) b := Nat.not_le.mpr hbl
  obtain ⟨j1, j2, j3, j4, j5⟩ := id hLI
  refine lv_aload_n (k := 1) hx hb (by decide +kernel) rfl (lv_at hl 1 rfl) ?_
  rw [← j2]
  refine law_V (d := 60) (y := y_SS_rings) (n := 0) (c0 := 0) (ci := 11) (T := TX11) (N := 20) (as := []) (rest := []) hx hb hml hown hts hK j1 j5 j4 (by decide) (by decide) rfl rfl rfl k_SS_rings v_SS_rings w_739 (by decide +kernel) rfl (Nat.le_of_ble_eq_true rfl) (hO σ  hR) hP hS hl.1 ⟨by decide, by decide⟩ (fun r1 σ1 H locs hrt1 hk hP hS => ?_)
  obtain ⟨v1, rfl⟩ := (show ∃ v, r1 = some (.int v) from hrt1)
  refine lv_aload_n (k := 2) hx hb (by decide +kernel) rfl (lv_at hl 2 rfl) ?_
  rw [← j3]
  refine law_V (d := 60) (y := y_M_rings) (n := 0) (c0 := 98) (ci := 12) (T := TX12) (N := 63) (as := []) (rest := [.int _]) hx hb hml hown hts hK j1 j5 j4 (by decide) (by decide) rfl rfl rfl k_M_rings v_M_rings w_1461 (by decide +kernel) rfl (Nat.le_of_ble_eq_true rfl) hk hP hS hl.1 ⟨by decide, by decide⟩ (fun r2 σ1 H locs hrt2 hk hP hS => ?_)
  obtain ⟨v2, rfl⟩ := (show ∃ v, r2 = some (.int v) from hrt2)
  refine lv_icmp_eq (tgt := 1379) (off := 749) hx hb (by decide +kernel) (by decide) (fun _ => ?_) (fun hne => absurd hk.1 hne)
  exact kk σ1 _ H locs ls hk.2 hLI hP hS hl
set_option maxHeartbeats 4000000 in
set_option maxRecDepth 20000 in
theorem law_ring {p : Program} {l : Launch} {e : Env} {s : State} {m : MethodId} {below : List Frame} {meth : Method} {c : Code} {b L : Nat} {xs : Nat → Int32} {G : va_G} {t : T3} {Rel : Hp → Prop} {Q : State → Prop} {aS aM : Nat} {x3 : Int32} (C0 : lw_At p s m meth c b L xs) (hK : va_K G cls (tysA t) s) (hv : ∀ k : Nat, k < 6 → vp_in (x3 + nI k) L) (hO : O_ring Rel) (σ : Hp) (ad : Nat → Nat) (H : Heap) (locs : List Loc) (ls : Array Slot) (hR : Rel σ) (hLI : LI s aS aM ad) (hP : va_P G cls (wsA t ad σ) H) (hS : va_S (fun q => s.heap.size ≤ q) s.heap H locs) (hl : lv_has ls 4 [(0, .ref b), (1, .ref aS), (2, .ref aM), (3, .int x3)]) (kk : ∀ (σ : Hp) (ad : Nat → Nat) (H : Heap) (locs : List Loc) (ls : Array Slot), Rel σ → LI s aS aM ad → va_P G cls (wsA t ad σ) H → va_S (fun q => s.heap.size ≤ q) s.heap H locs → lv_has ls 4 [(0, .ref b), (1, .ref aS), (2, .ref aM), (3, .int x3)] → W p l e room_1 s m #[Value.ref b] below meth c H locs 128 13160 Q (F0 m 1379 ls [])) : W p l e room_1 s m #[Value.ref b] below meth c H locs 128 13160 Q (F0 m 635 ls []) := by
  obtain ⟨hx, hb, hr, hml, hown, hts0, hX, hbl, hlocks, hgv⟩ := C0
  have hts : ∀ w ∈ lw_good, w.before #[Value.ref b] s = true := fun w hw => hts0 w (lw_good_sub w hw)
  have hbA : ¬ (fun q : Nat => s.heap.size ≤ q) b := Nat.not_le.mpr hbl
  obtain ⟨j1, j2, j3, j4, j5⟩ := id hLI
  refine lv_aload_n (k := 1) hx hb (by decide +kernel) rfl (lv_at hl 1 rfl) ?_
  refine lv_aload_n (k := 0) hx hb (by decide +kernel) rfl (lv_at hl 0 rfl) ?_
  refine lv_iload_n (k := 3) hx hb (by decide +kernel) rfl (lv_at hl 3 rfl) ?_
  refine lv_iconst (n := 1) (v := nI 1) hx hb (by decide +kernel) (by decide) ?_
  refine lv_iadd hx hb (by decide +kernel) ?_
  refine va_sld hx hb hX hbl hbA hS (hv 1 (by decide)) (by decide +kernel) ?_
  refine lv_aload_n (k := 0) hx hb (by decide +kernel) rfl (lv_at hl 0 rfl) ?_
  refine lv_iload_n (k := 3) hx hb (by decide +kernel) rfl (lv_at hl 3 rfl) ?_
  refine lv_iconst (n := 2) (v := nI 2) hx hb (by decide +kernel) (by decide) ?_
  refine lv_iadd hx hb (by decide +kernel) ?_
  refine va_sld hx hb hX hbl hbA hS (hv 2 (by decide)) (by decide +kernel) ?_
  rw [← j2]
  refine law_V (d := 60) (y := y_SS_ring) (n := 2) (c0 := 0) (ci := 11) (T := TX11) (N := 20) (as := [.int _, .int _]) (rest := []) hx hb hml hown hts hK j1 j5 j4 (by decide) (by decide) rfl rfl rfl k_SS_ring v_SS_ring w_751 (by decide +kernel) rfl (Nat.le_of_ble_eq_true rfl) (hO σ _ _ hR) hP hS hl.1 ⟨by decide, by decide⟩ (fun r1 σ1 H locs hrt1 hk hP hS => ?_)
  obtain ⟨v1, rfl⟩ := (show ∃ v, r1 = some (.int v) from hrt1)
  refine lv_aload_n (k := 2) hx hb (by decide +kernel) rfl (lv_at hl 2 rfl) ?_
  refine lv_aload_n (k := 0) hx hb (by decide +kernel) rfl (lv_at hl 0 rfl) ?_
  refine lv_iload_n (k := 3) hx hb (by decide +kernel) rfl (lv_at hl 3 rfl) ?_
  refine lv_iconst (n := 1) (v := nI 1) hx hb (by decide +kernel) (by decide) ?_
  refine lv_iadd hx hb (by decide +kernel) ?_
  refine va_sld hx hb hX hbl hbA hS (hv 1 (by decide)) (by decide +kernel) ?_
  refine lv_aload_n (k := 0) hx hb (by decide +kernel) rfl (lv_at hl 0 rfl) ?_
  refine lv_iload_n (k := 3) hx hb (by decide +kernel) rfl (lv_at hl 3 rfl) ?_
  refine lv_iconst (n := 2) (v := nI 2) hx hb (by decide +kernel) (by decide) ?_
  refine lv_iadd hx hb (by decide +kernel) ?_
  refine va_sld hx hb hX hbl hbA hS (hv 2 (by decide)) (by decide +kernel) ?_
  rw [← j3]
  refine law_V (d := 60) (y := y_M_ring) (n := 2) (c0 := 98) (ci := 12) (T := TX12) (N := 63) (as := [.int _, .int _]) (rest := [.int _]) hx hb hml hown hts hK j1 j5 j4 (by decide) (by decide) rfl rfl rfl k_M_ring v_M_ring w_1473 (by decide +kernel) rfl (Nat.le_of_ble_eq_true rfl) hk hP hS hl.1 ⟨by decide, by decide⟩ (fun r2 σ1 H locs hrt2 hk hP hS => ?_)
  obtain ⟨v2, rfl⟩ := (show ∃ v, r2 = some (.int v) from hrt2)
  refine lv_icmp_eq (tgt := 1379) (off := 716) hx hb (by decide +kernel) (by decide) (fun _ => ?_) (fun hne => absurd hk.1 hne)
  exact kk σ1 _ H locs ls hk.2 hLI hP hS hl
set_option maxHeartbeats 4000000 in
set_option maxRecDepth 20000 in
theorem law_rest {p : Program} {l : Launch} {e : Env} {s : State} {m : MethodId} {below : List Frame} {meth : Method} {c : Code} {b L : Nat} {xs : Nat → Int32} {G : va_G} {t : T3} {Rel : Hp → Prop} {Q : State → Prop} {aS aM : Nat} {x3 : Int32} (C0 : lw_At p s m meth c b L xs) (hK : va_K G cls (tysA t) s) (hv : ∀ k : Nat, k < 6 → vp_in (x3 + nI k) L) (hO : O_rest Rel) (σ : Hp) (ad : Nat → Nat) (H : Heap) (locs : List Loc) (ls : Array Slot) (hR : Rel σ) (hLI : LI s aS aM ad) (hP : va_P G cls (wsA t ad σ) H) (hS : va_S (fun q => s.heap.size ≤ q) s.heap H locs) (hl : lv_has ls 4 [(0, .ref b), (1, .ref aS), (2, .ref aM), (3, .int x3)]) (kk : ∀ (σ : Hp) (ad : Nat → Nat) (H : Heap) (locs : List Loc) (ls : Array Slot), Rel σ → LI s aS aM ad → va_P G cls (wsA t ad σ) H → va_S (fun q => s.heap.size ≤ q) s.heap H locs → lv_has ls 4 [(0, .ref b), (1, .ref aS), (2, .ref aM), (3, .int x3)] → W p l e room_1 s m #[Value.ref b] below meth c H locs 128 13160 Q (F0 m 1379 ls [])) : W p l e room_1 s m #[Value.ref b] below meth c H locs 128 13160 Q (F0 m 668 ls []) := by
  obtain ⟨hx, hb, hr, hml, hown, hts0, hX, hbl, hlocks, hgv⟩ := C0
  have hts : ∀ w ∈ lw_good, w.before #[Value.ref b] s = true := fun w hw => hts0 w (lw_good_sub w hw)
  have hbA : ¬ (fun q : Nat => s.heap.size ≤ q) b := Nat.not_le.mpr hbl
  obtain ⟨j1, j2, j3, j4, j5⟩ := id hLI
  refine lv_aload_n (k := 1) hx hb (by decide +kernel) rfl (lv_at hl 1 rfl) ?_
  refine lv_aload_n (k := 0) hx hb (by decide +kernel) rfl (lv_at hl 0 rfl) ?_
  refine lv_iload_n (k := 3) hx hb (by decide +kernel) rfl (lv_at hl 3 rfl) ?_
  refine lv_iconst (n := 1) (v := nI 1) hx hb (by decide +kernel) (by decide) ?_
  refine lv_iadd hx hb (by decide +kernel) ?_
  refine va_sld hx hb hX hbl hbA hS (hv 1 (by decide)) (by decide +kernel) ?_
  rw [← j2]
  refine law_V (d := 60) (y := y_SS_rest) (n := 1) (c0 := 0) (ci := 11) (T := TX11) (N := 20) (as := [.int _]) (rest := []) hx hb hml hown hts hK j1 j5 j4 (by decide) (by decide) rfl rfl rfl k_SS_rest v_SS_rest w_755 (by decide +kernel) rfl (Nat.le_of_ble_eq_true rfl) (hO σ _ hR) hP hS hl.1 ⟨by decide, by decide⟩ (fun r1 σ1 H locs hrt1 hk hP hS => ?_)
  obtain ⟨v1, rfl⟩ := (show ∃ v, r1 = some (.int v) from hrt1)
  refine lv_aload_n (k := 2) hx hb (by decide +kernel) rfl (lv_at hl 2 rfl) ?_
  refine lv_aload_n (k := 0) hx hb (by decide +kernel) rfl (lv_at hl 0 rfl) ?_
  refine lv_iload_n (k := 3) hx hb (by decide +kernel) rfl (lv_at hl 3 rfl) ?_
  refine lv_iconst (n := 1) (v := nI 1) hx hb (by decide +kernel) (by decide) ?_
  refine lv_iadd hx hb (by decide +kernel) ?_
  refine va_sld hx hb hX hbl hbA hS (hv 1 (by decide)) (by decide +kernel) ?_
  rw [← j3]
  refine law_V (d := 60) (y := y_M_rest) (n := 1) (c0 := 98) (ci := 12) (T := TX12) (N := 63) (as := [.int _]) (rest := [.int _]) hx hb hml hown hts hK j1 j5 j4 (by decide) (by decide) rfl rfl rfl k_M_rest v_M_rest w_1477 (by decide +kernel) rfl (Nat.le_of_ble_eq_true rfl) hk hP hS hl.1 ⟨by decide, by decide⟩ (fun r2 σ1 H locs hrt2 hk hP hS => ?_)
  obtain ⟨v2, rfl⟩ := (show ∃ v, r2 = some (.int v) from hrt2)
  refine lv_icmp_eq (tgt := 1379) (off := 693) hx hb (by decide +kernel) (by decide) (fun _ => ?_) (fun hne => absurd hk.1 hne)
  exact kk σ1 _ H locs ls hk.2 hLI hP hS hl
set_option maxHeartbeats 4000000 in
set_option maxRecDepth 20000 in
theorem law_swing {p : Program} {l : Launch} {e : Env} {s : State} {m : MethodId} {below : List Frame} {meth : Method} {c : Code} {b L : Nat} {xs : Nat → Int32} {G : va_G} {t : T3} {Rel : Hp → Prop} {Q : State → Prop} {aS aM : Nat} {x3 : Int32} (C0 : lw_At p s m meth c b L xs) (hK : va_K G cls (tysA t) s) (hv : ∀ k : Nat, k < 6 → vp_in (x3 + nI k) L) (hO : O_swing Rel) (σ : Hp) (ad : Nat → Nat) (H : Heap) (locs : List Loc) (ls : Array Slot) (hR : Rel σ) (hLI : LI s aS aM ad) (hP : va_P G cls (wsA t ad σ) H) (hS : va_S (fun q => s.heap.size ≤ q) s.heap H locs) (hl : lv_has ls 4 [(0, .ref b), (1, .ref aS), (2, .ref aM), (3, .int x3)]) (kk : ∀ (σ : Hp) (ad : Nat → Nat) (H : Heap) (locs : List Loc) (ls : Array Slot), Rel σ → LI s aS aM ad → va_P G cls (wsA t ad σ) H → va_S (fun q => s.heap.size ≤ q) s.heap H locs → lv_has ls 4 [(0, .ref b), (1, .ref aS), (2, .ref aM), (3, .int x3)] → W p l e room_1 s m #[Value.ref b] below meth c H locs 128 13160 Q (F0 m 1379 ls [])) : W p l e room_1 s m #[Value.ref b] below meth c H locs 128 13160 Q (F0 m 691 ls []) := by
  obtain ⟨hx, hb, hr, hml, hown, hts0, hX, hbl, hlocks, hgv⟩ := C0
  have hts : ∀ w ∈ lw_good, w.before #[Value.ref b] s = true := fun w hw => hts0 w (lw_good_sub w hw)
  have hbA : ¬ (fun q : Nat => s.heap.size ≤ q) b := Nat.not_le.mpr hbl
  obtain ⟨j1, j2, j3, j4, j5⟩ := id hLI
  refine lv_aload_n (k := 1) hx hb (by decide +kernel) rfl (lv_at hl 1 rfl) ?_
  refine lv_aload_n (k := 0) hx hb (by decide +kernel) rfl (lv_at hl 0 rfl) ?_
  refine lv_iload_n (k := 3) hx hb (by decide +kernel) rfl (lv_at hl 3 rfl) ?_
  refine lv_iconst (n := 1) (v := nI 1) hx hb (by decide +kernel) (by decide) ?_
  refine lv_iadd hx hb (by decide +kernel) ?_
  refine va_sld hx hb hX hbl hbA hS (hv 1 (by decide)) (by decide +kernel) ?_
  refine lv_aload_n (k := 0) hx hb (by decide +kernel) rfl (lv_at hl 0 rfl) ?_
  refine lv_iload_n (k := 3) hx hb (by decide +kernel) rfl (lv_at hl 3 rfl) ?_
  refine lv_iconst (n := 2) (v := nI 2) hx hb (by decide +kernel) (by decide) ?_
  refine lv_iadd hx hb (by decide +kernel) ?_
  refine va_sld hx hb hX hbl hbA hS (hv 2 (by decide)) (by decide +kernel) ?_
  rw [← j2]
  refine law_V (d := 60) (y := y_SS_swing) (n := 2) (c0 := 0) (ci := 11) (T := TX11) (N := 20) (as := [.int _, .int _]) (rest := []) hx hb hml hown hts hK j1 j5 j4 (by decide) (by decide) rfl rfl rfl k_SS_swing v_SS_swing w_763 (by decide +kernel) rfl (Nat.le_of_ble_eq_true rfl) (hO σ _ _ hR) hP hS hl.1 ⟨by decide, by decide⟩ (fun r1 σ1 H locs hrt1 hk hP hS => ?_)
  obtain ⟨v1, rfl⟩ := (show ∃ v, r1 = some (.int v) from hrt1)
  refine lv_aload_n (k := 2) hx hb (by decide +kernel) rfl (lv_at hl 2 rfl) ?_
  refine lv_aload_n (k := 0) hx hb (by decide +kernel) rfl (lv_at hl 0 rfl) ?_
  refine lv_iload_n (k := 3) hx hb (by decide +kernel) rfl (lv_at hl 3 rfl) ?_
  refine lv_iconst (n := 1) (v := nI 1) hx hb (by decide +kernel) (by decide) ?_
  refine lv_iadd hx hb (by decide +kernel) ?_
  refine va_sld hx hb hX hbl hbA hS (hv 1 (by decide)) (by decide +kernel) ?_
  refine lv_aload_n (k := 0) hx hb (by decide +kernel) rfl (lv_at hl 0 rfl) ?_
  refine lv_iload_n (k := 3) hx hb (by decide +kernel) rfl (lv_at hl 3 rfl) ?_
  refine lv_iconst (n := 2) (v := nI 2) hx hb (by decide +kernel) (by decide) ?_
  refine lv_iadd hx hb (by decide +kernel) ?_
  refine va_sld hx hb hX hbl hbA hS (hv 2 (by decide)) (by decide +kernel) ?_
  rw [← j3]
  refine law_V (d := 60) (y := y_M_swing) (n := 2) (c0 := 98) (ci := 12) (T := TX12) (N := 63) (as := [.int _, .int _]) (rest := [.int _]) hx hb hml hown hts hK j1 j5 j4 (by decide) (by decide) rfl rfl rfl k_M_swing v_M_swing w_1493 (by decide +kernel) rfl (Nat.le_of_ble_eq_true rfl) hk hP hS hl.1 ⟨by decide, by decide⟩ (fun r2 σ1 H locs hrt2 hk hP hS => ?_)
  obtain ⟨v2, rfl⟩ := (show ∃ v, r2 = some (.int v) from hrt2)
  refine lv_icmp_eq (tgt := 1379) (off := 660) hx hb (by decide +kernel) (by decide) (fun _ => ?_) (fun hne => absurd hk.1 hne)
  exact kk σ1 _ H locs ls hk.2 hLI hP hS hl
set_option maxHeartbeats 4000000 in
set_option maxRecDepth 20000 in
theorem law_pull {p : Program} {l : Launch} {e : Env} {s : State} {m : MethodId} {below : List Frame} {meth : Method} {c : Code} {b L : Nat} {xs : Nat → Int32} {G : va_G} {t : T3} {Rel : Hp → Prop} {Q : State → Prop} {aS aM : Nat} {x3 : Int32} (C0 : lw_At p s m meth c b L xs) (hK : va_K G cls (tysA t) s) (hv : ∀ k : Nat, k < 6 → vp_in (x3 + nI k) L) (hO : O_pull Rel) (σ : Hp) (ad : Nat → Nat) (H : Heap) (locs : List Loc) (ls : Array Slot) (hR : Rel σ) (hLI : LI s aS aM ad) (hP : va_P G cls (wsA t ad σ) H) (hS : va_S (fun q => s.heap.size ≤ q) s.heap H locs) (hl : lv_has ls 4 [(0, .ref b), (1, .ref aS), (2, .ref aM), (3, .int x3)]) (kk : ∀ (σ : Hp) (ad : Nat → Nat) (H : Heap) (locs : List Loc) (ls : Array Slot), Rel σ → LI s aS aM ad → va_P G cls (wsA t ad σ) H → va_S (fun q => s.heap.size ≤ q) s.heap H locs → lv_has ls 4 [(0, .ref b), (1, .ref aS), (2, .ref aM), (3, .int x3)] → W p l e room_1 s m #[Value.ref b] below meth c H locs 128 13160 Q (F0 m 1379 ls [])) : W p l e room_1 s m #[Value.ref b] below meth c H locs 128 13160 Q (F0 m 724 ls []) := by
  obtain ⟨hx, hb, hr, hml, hown, hts0, hX, hbl, hlocks, hgv⟩ := C0
  have hts : ∀ w ∈ lw_good, w.before #[Value.ref b] s = true := fun w hw => hts0 w (lw_good_sub w hw)
  have hbA : ¬ (fun q : Nat => s.heap.size ≤ q) b := Nat.not_le.mpr hbl
  obtain ⟨j1, j2, j3, j4, j5⟩ := id hLI
  refine lv_aload_n (k := 1) hx hb (by decide +kernel) rfl (lv_at hl 1 rfl) ?_
  refine lv_aload_n (k := 0) hx hb (by decide +kernel) rfl (lv_at hl 0 rfl) ?_
  refine lv_iload_n (k := 3) hx hb (by decide +kernel) rfl (lv_at hl 3 rfl) ?_
  refine lv_iconst (n := 1) (v := nI 1) hx hb (by decide +kernel) (by decide) ?_
  refine lv_iadd hx hb (by decide +kernel) ?_
  refine va_sld hx hb hX hbl hbA hS (hv 1 (by decide)) (by decide +kernel) ?_
  refine lv_aload_n (k := 0) hx hb (by decide +kernel) rfl (lv_at hl 0 rfl) ?_
  refine lv_iload_n (k := 3) hx hb (by decide +kernel) rfl (lv_at hl 3 rfl) ?_
  refine lv_iconst (n := 2) (v := nI 2) hx hb (by decide +kernel) (by decide) ?_
  refine lv_iadd hx hb (by decide +kernel) ?_
  refine va_sld hx hb hX hbl hbA hS (hv 2 (by decide)) (by decide +kernel) ?_
  refine lv_aload_n (k := 0) hx hb (by decide +kernel) rfl (lv_at hl 0 rfl) ?_
  refine lv_iload_n (k := 3) hx hb (by decide +kernel) rfl (lv_at hl 3 rfl) ?_
  refine lv_iconst (n := 3) (v := nI 3) hx hb (by decide +kernel) (by decide) ?_
  refine lv_iadd hx hb (by decide +kernel) ?_
  refine va_sld hx hb hX hbl hbA hS (hv 3 (by decide)) (by decide +kernel) ?_
  refine lv_aload_n (k := 0) hx hb (by decide +kernel) rfl (lv_at hl 0 rfl) ?_
  refine lv_iload_n (k := 3) hx hb (by decide +kernel) rfl (lv_at hl 3 rfl) ?_
  refine lv_iconst (n := 4) (v := nI 4) hx hb (by decide +kernel) (by decide) ?_
  refine lv_iadd hx hb (by decide +kernel) ?_
  refine va_sld hx hb hX hbl hbA hS (hv 4 (by decide)) (by decide +kernel) ?_
  rw [← j2]
  refine law_V (d := 60) (y := y_SS_pull) (n := 4) (c0 := 0) (ci := 11) (T := TX11) (N := 20) (as := [.int _, .int _, .int _, .int _]) (rest := []) hx hb hml hown hts hK j1 j5 j4 (by decide) (by decide) rfl rfl rfl k_SS_pull v_SS_pull w_771 (by decide +kernel) rfl (Nat.le_of_ble_eq_true rfl) (hO σ _ _ _ _ hR) hP hS hl.1 ⟨by decide, by decide⟩ (fun r1 σ1 H locs hrt1 hk hP hS => ?_)
  obtain ⟨v1, rfl⟩ := (show ∃ v, r1 = some (.int v) from hrt1)
  refine lv_aload_n (k := 2) hx hb (by decide +kernel) rfl (lv_at hl 2 rfl) ?_
  refine lv_aload_n (k := 0) hx hb (by decide +kernel) rfl (lv_at hl 0 rfl) ?_
  refine lv_iload_n (k := 3) hx hb (by decide +kernel) rfl (lv_at hl 3 rfl) ?_
  refine lv_iconst (n := 1) (v := nI 1) hx hb (by decide +kernel) (by decide) ?_
  refine lv_iadd hx hb (by decide +kernel) ?_
  refine va_sld hx hb hX hbl hbA hS (hv 1 (by decide)) (by decide +kernel) ?_
  refine lv_aload_n (k := 0) hx hb (by decide +kernel) rfl (lv_at hl 0 rfl) ?_
  refine lv_iload_n (k := 3) hx hb (by decide +kernel) rfl (lv_at hl 3 rfl) ?_
  refine lv_iconst (n := 2) (v := nI 2) hx hb (by decide +kernel) (by decide) ?_
  refine lv_iadd hx hb (by decide +kernel) ?_
  refine va_sld hx hb hX hbl hbA hS (hv 2 (by decide)) (by decide +kernel) ?_
  refine lv_aload_n (k := 0) hx hb (by decide +kernel) rfl (lv_at hl 0 rfl) ?_
  refine lv_iload_n (k := 3) hx hb (by decide +kernel) rfl (lv_at hl 3 rfl) ?_
  refine lv_iconst (n := 3) (v := nI 3) hx hb (by decide +kernel) (by decide) ?_
  refine lv_iadd hx hb (by decide +kernel) ?_
  refine va_sld hx hb hX hbl hbA hS (hv 3 (by decide)) (by decide +kernel) ?_
  refine lv_aload_n (k := 0) hx hb (by decide +kernel) rfl (lv_at hl 0 rfl) ?_
  refine lv_iload_n (k := 3) hx hb (by decide +kernel) rfl (lv_at hl 3 rfl) ?_
  refine lv_iconst (n := 4) (v := nI 4) hx hb (by decide +kernel) (by decide) ?_
  refine lv_iadd hx hb (by decide +kernel) ?_
  refine va_sld hx hb hX hbl hbA hS (hv 4 (by decide)) (by decide +kernel) ?_
  rw [← j3]
  refine law_V (d := 60) (y := y_M_pull) (n := 4) (c0 := 98) (ci := 12) (T := TX12) (N := 63) (as := [.int _, .int _, .int _, .int _]) (rest := [.int _]) hx hb hml hown hts hK j1 j5 j4 (by decide) (by decide) rfl rfl rfl k_M_pull v_M_pull w_1501 (by decide +kernel) rfl (Nat.le_of_ble_eq_true rfl) hk hP hS hl.1 ⟨by decide, by decide⟩ (fun r2 σ1 H locs hrt2 hk hP hS => ?_)
  obtain ⟨v2, rfl⟩ := (show ∃ v, r2 = some (.int v) from hrt2)
  refine lv_icmp_eq (tgt := 1379) (off := 607) hx hb (by decide +kernel) (by decide) (fun _ => ?_) (fun hne => absurd hk.1 hne)
  exact kk σ1 _ H locs ls hk.2 hLI hP hS hl
set_option maxHeartbeats 4000000 in
set_option maxRecDepth 20000 in
theorem law_best {p : Program} {l : Launch} {e : Env} {s : State} {m : MethodId} {below : List Frame} {meth : Method} {c : Code} {b L : Nat} {xs : Nat → Int32} {G : va_G} {t : T3} {Rel : Hp → Prop} {Q : State → Prop} {aS aM : Nat} {x3 : Int32} (C0 : lw_At p s m meth c b L xs) (hK : va_K G cls (tysA t) s) (hv : ∀ k : Nat, k < 6 → vp_in (x3 + nI k) L) (hO : O_best Rel) (σ : Hp) (ad : Nat → Nat) (H : Heap) (locs : List Loc) (ls : Array Slot) (hR : Rel σ) (hLI : LI s aS aM ad) (hP : va_P G cls (wsA t ad σ) H) (hS : va_S (fun q => s.heap.size ≤ q) s.heap H locs) (hl : lv_has ls 4 [(0, .ref b), (1, .ref aS), (2, .ref aM), (3, .int x3)]) (kk : ∀ (σ : Hp) (ad : Nat → Nat) (H : Heap) (locs : List Loc) (ls : Array Slot), Rel σ → LI s aS aM ad → va_P G cls (wsA t ad σ) H → va_S (fun q => s.heap.size ≤ q) s.heap H locs → lv_has ls 4 [(0, .ref b), (1, .ref aS), (2, .ref aM), (3, .int x3)] → W p l e room_1 s m #[Value.ref b] below meth c H locs 128 13160 Q (F0 m 1379 ls [])) : W p l e room_1 s m #[Value.ref b] below meth c H locs 128 13160 Q (F0 m 777 ls []) := by
  obtain ⟨hx, hb, hr, hml, hown, hts0, hX, hbl, hlocks, hgv⟩ := C0
  have hts : ∀ w ∈ lw_good, w.before #[Value.ref b] s = true := fun w hw => hts0 w (lw_good_sub w hw)
  have hbA : ¬ (fun q : Nat => s.heap.size ≤ q) b := Nat.not_le.mpr hbl
  obtain ⟨j1, j2, j3, j4, j5⟩ := id hLI
  refine lv_aload_n (k := 1) hx hb (by decide +kernel) rfl (lv_at hl 1 rfl) ?_
  refine lv_aload_n (k := 0) hx hb (by decide +kernel) rfl (lv_at hl 0 rfl) ?_
  refine lv_iload_n (k := 3) hx hb (by decide +kernel) rfl (lv_at hl 3 rfl) ?_
  refine lv_iconst (n := 1) (v := nI 1) hx hb (by decide +kernel) (by decide) ?_
  refine lv_iadd hx hb (by decide +kernel) ?_
  refine va_sld hx hb hX hbl hbA hS (hv 1 (by decide)) (by decide +kernel) ?_
  refine lv_aload_n (k := 0) hx hb (by decide +kernel) rfl (lv_at hl 0 rfl) ?_
  refine lv_iload_n (k := 3) hx hb (by decide +kernel) rfl (lv_at hl 3 rfl) ?_
  refine lv_iconst (n := 2) (v := nI 2) hx hb (by decide +kernel) (by decide) ?_
  refine lv_iadd hx hb (by decide +kernel) ?_
  refine va_sld hx hb hX hbl hbA hS (hv 2 (by decide)) (by decide +kernel) ?_
  refine lv_aload_n (k := 0) hx hb (by decide +kernel) rfl (lv_at hl 0 rfl) ?_
  refine lv_iload_n (k := 3) hx hb (by decide +kernel) rfl (lv_at hl 3 rfl) ?_
  refine lv_iconst (n := 3) (v := nI 3) hx hb (by decide +kernel) (by decide) ?_
  refine lv_iadd hx hb (by decide +kernel) ?_
  refine va_sld hx hb hX hbl hbA hS (hv 3 (by decide)) (by decide +kernel) ?_
  refine lv_aload_n (k := 0) hx hb (by decide +kernel) rfl (lv_at hl 0 rfl) ?_
  refine lv_iload_n (k := 3) hx hb (by decide +kernel) rfl (lv_at hl 3 rfl) ?_
  refine lv_iconst (n := 4) (v := nI 4) hx hb (by decide +kernel) (by decide) ?_
  refine lv_iadd hx hb (by decide +kernel) ?_
  refine va_sld hx hb hX hbl hbA hS (hv 4 (by decide)) (by decide +kernel) ?_
  refine lv_aload_n (k := 0) hx hb (by decide +kernel) rfl (lv_at hl 0 rfl) ?_
  refine lv_iload_n (k := 3) hx hb (by decide +kernel) rfl (lv_at hl 3 rfl) ?_
  refine lv_iconst (n := 5) (v := nI 5) hx hb (by decide +kernel) (by decide) ?_
  refine lv_iadd hx hb (by decide +kernel) ?_
  refine va_sld hx hb hX hbl hbA hS (hv 5 (by decide)) (by decide +kernel) ?_
  rw [← j2]
  refine law_V (d := 60) (y := y_SS_best) (n := 5) (c0 := 0) (ci := 11) (T := TX11) (N := 20) (as := [.int _, .int _, .int _, .int _, .int _]) (rest := []) hx hb hml hown hts hK j1 j5 j4 (by decide) (by decide) rfl rfl rfl k_SS_best v_SS_best w_779 (by decide +kernel) rfl (Nat.le_of_ble_eq_true rfl) (hO σ _ _ _ _ _ hR) hP hS hl.1 ⟨by decide, by decide⟩ (fun r1 σ1 H locs hrt1 hk hP hS => ?_)
  obtain ⟨v1, rfl⟩ := (show ∃ v, r1 = some (.int v) from hrt1)
  refine lv_aload_n (k := 2) hx hb (by decide +kernel) rfl (lv_at hl 2 rfl) ?_
  refine lv_aload_n (k := 0) hx hb (by decide +kernel) rfl (lv_at hl 0 rfl) ?_
  refine lv_iload_n (k := 3) hx hb (by decide +kernel) rfl (lv_at hl 3 rfl) ?_
  refine lv_iconst (n := 1) (v := nI 1) hx hb (by decide +kernel) (by decide) ?_
  refine lv_iadd hx hb (by decide +kernel) ?_
  refine va_sld hx hb hX hbl hbA hS (hv 1 (by decide)) (by decide +kernel) ?_
  refine lv_aload_n (k := 0) hx hb (by decide +kernel) rfl (lv_at hl 0 rfl) ?_
  refine lv_iload_n (k := 3) hx hb (by decide +kernel) rfl (lv_at hl 3 rfl) ?_
  refine lv_iconst (n := 2) (v := nI 2) hx hb (by decide +kernel) (by decide) ?_
  refine lv_iadd hx hb (by decide +kernel) ?_
  refine va_sld hx hb hX hbl hbA hS (hv 2 (by decide)) (by decide +kernel) ?_
  refine lv_aload_n (k := 0) hx hb (by decide +kernel) rfl (lv_at hl 0 rfl) ?_
  refine lv_iload_n (k := 3) hx hb (by decide +kernel) rfl (lv_at hl 3 rfl) ?_
  refine lv_iconst (n := 3) (v := nI 3) hx hb (by decide +kernel) (by decide) ?_
  refine lv_iadd hx hb (by decide +kernel) ?_
  refine va_sld hx hb hX hbl hbA hS (hv 3 (by decide)) (by decide +kernel) ?_
  refine lv_aload_n (k := 0) hx hb (by decide +kernel) rfl (lv_at hl 0 rfl) ?_
  refine lv_iload_n (k := 3) hx hb (by decide +kernel) rfl (lv_at hl 3 rfl) ?_
  refine lv_iconst (n := 4) (v := nI 4) hx hb (by decide +kernel) (by decide) ?_
  refine lv_iadd hx hb (by decide +kernel) ?_
  refine va_sld hx hb hX hbl hbA hS (hv 4 (by decide)) (by decide +kernel) ?_
  refine lv_aload_n (k := 0) hx hb (by decide +kernel) rfl (lv_at hl 0 rfl) ?_
  refine lv_iload_n (k := 3) hx hb (by decide +kernel) rfl (lv_at hl 3 rfl) ?_
  refine lv_iconst (n := 5) (v := nI 5) hx hb (by decide +kernel) (by decide) ?_
  refine lv_iadd hx hb (by decide +kernel) ?_
  refine va_sld hx hb hX hbl hbA hS (hv 5 (by decide)) (by decide +kernel) ?_
  rw [← j3]
  refine law_V (d := 60) (y := y_M_best) (n := 5) (c0 := 98) (ci := 12) (T := TX12) (N := 63) (as := [.int _, .int _, .int _, .int _, .int _]) (rest := [.int _]) hx hb hml hown hts hK j1 j5 j4 (by decide) (by decide) rfl rfl rfl k_M_best v_M_best w_1509 (by decide +kernel) rfl (Nat.le_of_ble_eq_true rfl) hk hP hS hl.1 ⟨by decide, by decide⟩ (fun r2 σ1 H locs hrt2 hk hP hS => ?_)
  obtain ⟨v2, rfl⟩ := (show ∃ v, r2 = some (.int v) from hrt2)
  refine lv_icmp_eq (tgt := 1379) (off := 544) hx hb (by decide +kernel) (by decide) (fun _ => ?_) (fun hne => absurd hk.1 hne)
  exact kk σ1 _ H locs ls hk.2 hLI hP hS hl
set_option maxHeartbeats 4000000 in
set_option maxRecDepth 20000 in
theorem law_miss {p : Program} {l : Launch} {e : Env} {s : State} {m : MethodId} {below : List Frame} {meth : Method} {c : Code} {b L : Nat} {xs : Nat → Int32} {G : va_G} {t : T3} {Rel : Hp → Prop} {Q : State → Prop} {aS aM : Nat} {x3 : Int32} (C0 : lw_At p s m meth c b L xs) (hK : va_K G cls (tysA t) s) (hv : ∀ k : Nat, k < 6 → vp_in (x3 + nI k) L) (hO : O_miss Rel) (σ : Hp) (ad : Nat → Nat) (H : Heap) (locs : List Loc) (ls : Array Slot) (hR : Rel σ) (hLI : LI s aS aM ad) (hP : va_P G cls (wsA t ad σ) H) (hS : va_S (fun q => s.heap.size ≤ q) s.heap H locs) (hl : lv_has ls 4 [(0, .ref b), (1, .ref aS), (2, .ref aM), (3, .int x3)]) (kk : ∀ (σ : Hp) (ad : Nat → Nat) (H : Heap) (locs : List Loc) (ls : Array Slot), Rel σ → LI s aS aM ad → va_P G cls (wsA t ad σ) H → va_S (fun q => s.heap.size ≤ q) s.heap H locs → lv_has ls 4 [(0, .ref b), (1, .ref aS), (2, .ref aM), (3, .int x3)] → W p l e room_1 s m #[Value.ref b] below meth c H locs 128 13160 Q (F0 m 1379 ls [])) : W p l e room_1 s m #[Value.ref b] below meth c H locs 128 13160 Q (F0 m 840 ls []) := by
  obtain ⟨hx, hb, hr, hml, hown, hts0, hX, hbl, hlocks, hgv⟩ := C0
  have hts : ∀ w ∈ lw_good, w.before #[Value.ref b] s = true := fun w hw => hts0 w (lw_good_sub w hw)
  have hbA : ¬ (fun q : Nat => s.heap.size ≤ q) b := Nat.not_le.mpr hbl
  obtain ⟨j1, j2, j3, j4, j5⟩ := id hLI
  refine lv_aload_n (k := 1) hx hb (by decide +kernel) rfl (lv_at hl 1 rfl) ?_
  refine lv_aload_n (k := 0) hx hb (by decide +kernel) rfl (lv_at hl 0 rfl) ?_
  refine lv_iload_n (k := 3) hx hb (by decide +kernel) rfl (lv_at hl 3 rfl) ?_
  refine lv_iconst (n := 1) (v := nI 1) hx hb (by decide +kernel) (by decide) ?_
  refine lv_iadd hx hb (by decide +kernel) ?_
  refine va_sld hx hb hX hbl hbA hS (hv 1 (by decide)) (by decide +kernel) ?_
  refine lv_aload_n (k := 0) hx hb (by decide +kernel) rfl (lv_at hl 0 rfl) ?_
  refine lv_iload_n (k := 3) hx hb (by decide +kernel) rfl (lv_at hl 3 rfl) ?_
  refine lv_iconst (n := 2) (v := nI 2) hx hb (by decide +kernel) (by decide) ?_
  refine lv_iadd hx hb (by decide +kernel) ?_
  refine va_sld hx hb hX hbl hbA hS (hv 2 (by decide)) (by decide +kernel) ?_
  rw [← j2]
  refine law_V (d := 60) (y := y_SS_miss) (n := 2) (c0 := 0) (ci := 11) (T := TX11) (N := 20) (as := [.int _, .int _]) (rest := []) hx hb hml hown hts hK j1 j5 j4 (by decide) (by decide) rfl rfl rfl k_SS_miss v_SS_miss w_788 (by decide +kernel) rfl (Nat.le_of_ble_eq_true rfl) (hO σ _ _ hR) hP hS hl.1 ⟨by decide, by decide⟩ (fun r1 σ1 H locs hrt1 hk hP hS => ?_)
  obtain ⟨v1, rfl⟩ := (show ∃ v, r1 = some (.long v) from hrt1)
  refine lv_aload_n (k := 2) hx hb (by decide +kernel) rfl (lv_at hl 2 rfl) ?_
  refine lv_aload_n (k := 0) hx hb (by decide +kernel) rfl (lv_at hl 0 rfl) ?_
  refine lv_iload_n (k := 3) hx hb (by decide +kernel) rfl (lv_at hl 3 rfl) ?_
  refine lv_iconst (n := 1) (v := nI 1) hx hb (by decide +kernel) (by decide) ?_
  refine lv_iadd hx hb (by decide +kernel) ?_
  refine va_sld hx hb hX hbl hbA hS (hv 1 (by decide)) (by decide +kernel) ?_
  refine lv_aload_n (k := 0) hx hb (by decide +kernel) rfl (lv_at hl 0 rfl) ?_
  refine lv_iload_n (k := 3) hx hb (by decide +kernel) rfl (lv_at hl 3 rfl) ?_
  refine lv_iconst (n := 2) (v := nI 2) hx hb (by decide +kernel) (by decide) ?_
  refine lv_iadd hx hb (by decide +kernel) ?_
  refine va_sld hx hb hX hbl hbA hS (hv 2 (by decide)) (by decide +kernel) ?_
  rw [← j3]
  refine law_V (d := 60) (y := y_M_miss) (n := 2) (c0 := 98) (ci := 12) (T := TX12) (N := 63) (as := [.int _, .int _]) (rest := [.long _]) hx hb hml hown hts hK j1 j5 j4 (by decide) (by decide) rfl rfl rfl k_M_miss v_M_miss w_1517 (by decide +kernel) rfl (Nat.le_of_ble_eq_true rfl) hk hP hS hl.1 ⟨by decide, by decide⟩ (fun r2 σ1 H locs hrt2 hk hP hS => ?_)
  obtain ⟨v2, rfl⟩ := (show ∃ v, r2 = some (.long v) from hrt2)
  refine W.lcmp hx hb (by decide +kernel) ?_
  refine lv_if_eq (tgt := 1379) (off := 510) hx hb (by decide +kernel) (by decide) (fun _ => ?_) (fun hne => absurd (lg_cmp_self hk.1) hne)
  exact kk σ1 _ H locs ls hk.2 hLI hP hS hl
