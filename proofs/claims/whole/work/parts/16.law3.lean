set_option maxHeartbeats 4000000 in
set_option maxRecDepth 20000 in
theorem law_fit {p : Program} {l : Launch} {e : Env} {s : State} {m : MethodId} {below : List Frame} {meth : Method} {c : Code} {b L : Nat} {xs : Nat → Int32} {G : va_G} {t : T3} {Rel : Hp → Prop} {Q : State → Prop} {aS aM : Nat} {x3 : Int32} (C0 : lw_At p s m meth c b L xs) (hK : va_K G cls (tysA t) s) (hv : ∀ k : Nat, k < 6 → vp_in (x3 + nI k) L) (hO : O_fit Rel) (σ : Hp) (ad : Nat → Nat) (H : Heap) (locs : List Loc) (ls : Array Slot) (hR : Rel σ) (hLI : LI s aS aM ad) (hP : va_P G cls (wsA t ad σ) H) (hS : va_S (fun q => s.heap.size ≤ q) s.heap H locs) (hl : lv_has ls 4 [(0, .ref b), (1, .ref aS), (2, .ref aM), (3, .int x3)]) (kk : ∀ (σ : Hp) (ad : Nat → Nat) (H : Heap) (locs : List Loc) (ls : Array Slot), Rel σ → LI s aS aM ad → va_P G cls (wsA t ad σ) H → va_S (fun q => s.heap.size ≤ q) s.heap H locs → lv_has ls 4 [(0, .ref b), (1, .ref aS), (2, .ref aM), (3, .int x3)] → W p l e room_1 s m #[Value.ref b] below meth c H locs 128 13160 Q (F0 m 1379 ls [])) : W p l e room_1 s m #[Value.ref b] below meth c H locs 128 13160 Q (F0 m 874 ls []) := by
  obtain ⟨hx, hb, hr, hml, hown, hts0, hX, hbl, hlocks, hgv⟩ := C0
  have hts : ∀ w ∈ lw_good, w.before #[Value.ref b] s = true := fun w hw => hts0 w (lw_good_sub w hw)
  have hbA : ¬ (fun q : Nat => s.heap.size ≤ q) b := Nat.not_le.mpr hbl
  obtain ⟨j1, j2, j3, j4, j5⟩ := id hLI
  refine lv_aload_n (k := 1) hx hb (by decide +kernel) rfl (lv_at hl 1 rfl) ?_
  refine lv_aload_n (k := 0) hx hb (by decide +kernel) rfl (lv_at hl 0 rfl) ?_
  refine lv_iload_n (k := 3) hx hb (by decide +kernel) rfl (lv_at hl 3 rfl) ?_
  refine lv_iconst (n := 1) (v := nI 1) hx hb (by decide +kernel) (by decide) ?_
  refine lv_iadd hx hb (by decide +kernel) ?_
  refine va_sld hx hb hX hbl hbA hS (hv 1 (by decide)) (by decide +kernel) ?_
  refine lv_aload_n (k := 0) hx hb (by decide +kernel) rfl (lv_at hl 0 rfl) ?_
  refine lv_iload_n (k := 3) hx hb (by decide +kernel) rfl (lv_at hl 3 rfl) ?_
  refine lv_iconst (n := 2) (v := nI 2) hx hb (by decide +kernel) (by decide) ?_
  refine lv_iadd hx hb (by decide +kernel) ?_
  refine va_sld hx hb hX hbl hbA hS (hv 2 (by decide)) (by decide +kernel) ?_
  refine lv_aload_n (k := 0) hx hb (by decide +kernel) rfl (lv_at hl 0 rfl) ?_
  refine lv_iload_n (k := 3) hx hb (by decide +kernel) rfl (lv_at hl 3 rfl) ?_
  refine lv_iconst (n := 3) (v := nI 3) hx hb (by decide +kernel) (by decide) ?_
  refine lv_iadd hx hb (by decide +kernel) ?_
  refine va_sld hx hb hX hbl hbA hS (hv 3 (by decide)) (by decide +kernel) ?_
  refine lv_aload_n (k := 0) hx hb (by decide +kernel) rfl (lv_at hl 0 rfl) ?_
  refine lv_iload_n (k := 3) hx hb (by decide +kernel) rfl (lv_at hl 3 rfl) ?_
  refine lv_iconst (n := 4) (v := nI 4) hx hb (by decide +kernel) (by decide) ?_
  refine lv_iadd hx hb (by decide +kernel) ?_
  refine va_sld hx hb hX hbl hbA hS (hv 4 (by decide)) (by decide +kernel) ?_
  refine lv_aload_n (k := 0) hx hb (by decide +kernel) rfl (lv_at hl 0 rfl) ?_
  refine lv_iload_n (k := 3) hx hb (by decide +kernel) rfl (lv_at hl 3 rfl) ?_
  refine lv_iconst (n := 5) (v := nI 5) hx hb (by decide +kernel) (by decide) ?_
  refine lv_iadd hx hb (by decide +kernel) ?_
  refine va_sld hx hb hX hbl hbA hS (hv 5 (by decide)) (by decide +kernel) ?_
  rw [← j2]
  refine law_V (d := 60) (y := y_SS_fit) (n := 5) (c0 := 0) (ci := 11) (T := TX11) (N := 20) (as := [.int _, .int _, .int _, .int _, .int _]) (rest := []) hx hb hml hown hts hK j1 j5 j4 (by decide) (by decide) rfl rfl rfl k_SS_fit v_SS_fit w_813 (by decide +kernel) rfl (Nat.le_of_ble_eq_true rfl) (hO σ _ _ _ _ _ hR) hP hS hl.1 ⟨by decide, by decide⟩ (fun r1 σ1 H locs hrt1 hk hP hS => ?_)
  obtain ⟨v1, rfl⟩ := (show ∃ v, r1 = some (.int v) from hrt1)
  refine lv_aload_n (k := 2) hx hb (by decide +kernel) rfl (lv_at hl 2 rfl) ?_
  refine lv_aload_n (k := 0) hx hb (by decide +kernel) rfl (lv_at hl 0 rfl) ?_
  refine lv_iload_n (k := 3) hx hb (by decide +kernel) rfl (lv_at hl 3 rfl) ?_
  refine lv_iconst (n := 1) (v := nI 1) hx hb (by decide +kernel) (by decide) ?_
  refine lv_iadd hx hb (by decide +kernel) ?_
  refine va_sld hx hb hX hbl hbA hS (hv 1 (by decide)) (by decide +kernel) ?_
  refine lv_aload_n (k := 0) hx hb (by decide +kernel) rfl (lv_at hl 0 rfl) ?_
  refine lv_iload_n (k := 3) hx hb (by decide +kernel) rfl (lv_at hl 3 rfl) ?_
  refine lv_iconst (n := 2) (v := nI 2) hx hb (by decide +kernel) (by decide) ?_
  refine lv_iadd hx hb (by decide +kernel) ?_
  refine va_sld hx hb hX hbl hbA hS (hv 2 (by decide)) (by decide +kernel) ?_
  refine lv_aload_n (k := 0) hx hb (by decide +kernel) rfl (lv_at hl 0 rfl) ?_
  refine lv_iload_n (k := 3) hx hb (by decide +kernel) rfl (lv_at hl 3 rfl) ?_
  refine lv_iconst (n := 3) (v := nI 3) hx hb (by decide +kernel) (by decide) ?_
  refine lv_iadd hx hb (by decide +kernel) ?_
  refine va_sld hx hb hX hbl hbA hS (hv 3 (by decide)) (by decide +kernel) ?_
  refine lv_aload_n (k := 0) hx hb (by decide +kernel) rfl (lv_at hl 0 rfl) ?_
  refine lv_iload_n (k := 3) hx hb (by decide +kernel) rfl (lv_at hl 3 rfl) ?_
  refine lv_iconst (n := 4) (v := nI 4) hx hb (by decide +kernel) (by decide) ?_
  refine lv_iadd hx hb (by decide +kernel) ?_
  refine va_sld hx hb hX hbl hbA hS (hv 4 (by decide)) (by decide +kernel) ?_
  refine lv_aload_n (k := 0) hx hb (by decide +kernel) rfl (lv_at hl 0 rfl) ?_
  refine lv_iload_n (k := 3) hx hb (by decide +kernel) rfl (lv_at hl 3 rfl) ?_
  refine lv_iconst (n := 5) (v := nI 5) hx hb (by decide +kernel) (by decide) ?_
  refine lv_iadd hx hb (by decide +kernel) ?_
  refine va_sld hx hb hX hbl hbA hS (hv 5 (by decide)) (by decide +kernel) ?_
  rw [← j3]
  refine law_V (d := 60) (y := y_M_fit) (n := 5) (c0 := 98) (ci := 12) (T := TX12) (N := 63) (as := [.int _, .int _, .int _, .int _, .int _]) (rest := [.int _]) hx hb hml hown hts hK j1 j5 j4 (by decide) (by decide) rfl rfl rfl k_M_fit v_M_fit w_1533 (by decide +kernel) rfl (Nat.le_of_ble_eq_true rfl) hk hP hS hl.1 ⟨by decide, by decide⟩ (fun r2 σ1 H locs hrt2 hk hP hS => ?_)
  obtain ⟨v2, rfl⟩ := (show ∃ v, r2 = some (.int v) from hrt2)
  refine lv_icmp_eq (tgt := 1379) (off := 447) hx hb (by decide +kernel) (by decide) (fun _ => ?_) (fun hne => absurd hk.1 hne)
  exact kk σ1 _ H locs ls hk.2 hLI hP hS hl
set_option maxHeartbeats 4000000 in
set_option maxRecDepth 20000 in
theorem law_prove {p : Program} {l : Launch} {e : Env} {s : State} {m : MethodId} {below : List Frame} {meth : Method} {c : Code} {b L : Nat} {xs : Nat → Int32} {G : va_G} {t : T3} {Rel : Hp → Prop} {Q : State → Prop} {aS aM : Nat} {x3 : Int32} (C0 : lw_At p s m meth c b L xs) (hK : va_K G cls (tysA t) s) (hv : ∀ k : Nat, k < 6 → vp_in (x3 + nI k) L) (hO : O_prove Rel) (σ : Hp) (ad : Nat → Nat) (H : Heap) (locs : List Loc) (ls : Array Slot) (hR : Rel σ) (hLI : LI s aS aM ad) (hP : va_P G cls (wsA t ad σ) H) (hS : va_S (fun q => s.heap.size ≤ q) s.heap H locs) (hl : lv_has ls 4 [(0, .ref b), (1, .ref aS), (2, .ref aM), (3, .int x3)]) (kk : ∀ (σ : Hp) (ad : Nat → Nat) (H : Heap) (locs : List Loc) (ls : Array Slot), Rel σ → LI s aS aM ad → va_P G cls (wsA t ad σ) H → va_S (fun q => s.heap.size ≤ q) s.heap H locs → lv_has ls 4 [(0, .ref b), (1, .ref aS), (2, .ref aM), (3, .int x3)] → W p l e room_1 s m #[Value.ref b] below meth c H locs 128 13160 Q (F0 m 1379 ls [])) : W p l e room_1 s m #[Value.ref b] below meth c H locs 128 13160 Q (F0 m 937 ls []) := by
  obtain ⟨hx, hb, hr, hml, hown, hts0, hX, hbl, hlocks, hgv⟩ := C0
  have hts : ∀ w ∈ lw_good, w.before #[Value.ref b] s = true := fun w hw => hts0 w (lw_good_sub w hw)
  have hbA : ¬ (fun q : Nat => s.heap.size ≤ q) b := Nat.not_le.mpr hbl
  obtain ⟨j1, j2, j3, j4, j5⟩ := id hLI
  refine lv_aload_n (k := 1) hx hb (by decide +kernel) rfl (lv_at hl 1 rfl) ?_
  refine lv_aload_n (k := 0) hx hb (by decide +kernel) rfl (lv_at hl 0 rfl) ?_
  refine lv_iload_n (k := 3) hx hb (by decide +kernel) rfl (lv_at hl 3 rfl) ?_
  refine lv_iconst (n := 1) (v := nI 1) hx hb (by decide +kernel) (by decide) ?_
  refine lv_iadd hx hb (by decide +kernel) ?_
  refine va_sld hx hb hX hbl hbA hS (hv 1 (by decide)) (by decide +kernel) ?_
  rw [← j2]
  refine law_V (d := 60) (y := y_SS_prove) (n := 1) (c0 := 0) (ci := 11) (T := TX11) (N := 20) (as := [.int _]) (rest := []) hx hb hml hown hts hK j1 j5 j4 (by decide) (by decide) rfl rfl rfl k_SS_prove v_SS_prove w_817 (by decide +kernel) rfl (Nat.le_of_ble_eq_true rfl) (hO σ _ hR) hP hS hl.1 ⟨by decide, by decide⟩ (fun r1 σ1 H locs hrt1 hk hP hS => ?_)
  obtain ⟨v1, rfl⟩ := (show ∃ v, r1 = some (.int v) from hrt1)
  refine lv_aload_n (k := 2) hx hb (by decide +kernel) rfl (lv_at hl 2 rfl) ?_
  refine lv_aload_n (k := 0) hx hb (by decide +kernel) rfl (lv_at hl 0 rfl) ?_
  refine lv_iload_n (k := 3) hx hb (by decide +kernel) rfl (lv_at hl 3 rfl) ?_
  refine lv_iconst (n := 1) (v := nI 1) hx hb (by decide +kernel) (by decide) ?_
  refine lv_iadd hx hb (by decide +kernel) ?_
  refine va_sld hx hb hX hbl hbA hS (hv 1 (by decide)) (by decide +kernel) ?_
  rw [← j3]
  refine law_V (d := 60) (y := y_M_prove) (n := 1) (c0 := 98) (ci := 12) (T := TX12) (N := 63) (as := [.int _]) (rest := [.int _]) hx hb hml hown hts hK j1 j5 j4 (by decide) (by decide) rfl rfl rfl k_M_prove v_M_prove w_1537 (by decide +kernel) rfl (Nat.le_of_ble_eq_true rfl) hk hP hS hl.1 ⟨by decide, by decide⟩ (fun r2 σ1 H locs hrt2 hk hP hS => ?_)
  obtain ⟨v2, rfl⟩ := (show ∃ v, r2 = some (.int v) from hrt2)
  refine lv_icmp_eq (tgt := 1379) (off := 424) hx hb (by decide +kernel) (by decide) (fun _ => ?_) (fun hne => absurd hk.1 hne)
  exact kk σ1 _ H locs ls hk.2 hLI hP hS hl
set_option maxHeartbeats 4000000 in
set_option maxRecDepth 20000 in
theorem law_row {p : Program} {l : Launch} {e : Env} {s : State} {m : MethodId} {below : List Frame} {meth : Method} {c : Code} {b L : Nat} {xs : Nat → Int32} {G : va_G} {t : T3} {Rel : Hp → Prop} {Q : State → Prop} {aS aM : Nat} {x3 : Int32} (C0 : lw_At p s m meth c b L xs) (hK : va_K G cls (tysA t) s) (hv : ∀ k : Nat, k < 6 → vp_in (x3 + nI k) L) (hO : O_row Rel) (σ : Hp) (ad : Nat → Nat) (H : Heap) (locs : List Loc) (ls : Array Slot) (hR : Rel σ) (hLI : LI s aS aM ad) (hP : va_P G cls (wsA t ad σ) H) (hS : va_S (fun q => s.heap.size ≤ q) s.heap H locs) (hl : lv_has ls 4 [(0, .ref b), (1, .ref aS), (2, .ref aM), (3, .int x3)]) (kk : ∀ (σ : Hp) (ad : Nat → Nat) (H : Heap) (locs : List Loc) (ls : Array Slot), Rel σ → LI s aS aM ad → va_P G cls (wsA t ad σ) H → va_S (fun q => s.heap.size ≤ q) s.heap H locs → lv_has ls 4 [(0, .ref b), (1, .ref aS), (2, .ref aM), (3, .int x3)] → W p l e room_1 s m #[Value.ref b] below meth c H locs 128 13160 Q (F0 m 1379 ls [])) : W p l e room_1 s m #[Value.ref b] below meth c H locs 128 13160 Q (F0 m 960 ls []) := by
  obtain ⟨hx, hb, hr, hml, hown, hts0, hX, hbl, hlocks, hgv⟩ := C0
  have hts : ∀ w ∈ lw_good, w.before #[Value.ref b] s = true := fun w hw => hts0 w (lw_good_sub w hw)
  have hbA : ¬ (fun q : Nat => s.heap.size ≤ q) b := Nat.not_le.mpr hbl
  obtain ⟨j1, j2, j3, j4, j5⟩ := id hLI
  refine lv_aload_n (k := 1) hx hb (by decide +kernel) rfl (lv_at hl 1 rfl) ?_
  refine lv_aload_n (k := 0) hx hb (by decide +kernel) rfl (lv_at hl 0 rfl) ?_
  refine lv_iload_n (k := 3) hx hb (by decide +kernel) rfl (lv_at hl 3 rfl) ?_
  refine lv_iconst (n := 1) (v := nI 1) hx hb (by decide +kernel) (by decide) ?_
  refine lv_iadd hx hb (by decide +kernel) ?_
  refine va_sld hx hb hX hbl hbA hS (hv 1 (by decide)) (by decide +kernel) ?_
  refine lv_aload_n (k := 0) hx hb (by decide +kernel) rfl (lv_at hl 0 rfl) ?_
  refine lv_iload_n (k := 3) hx hb (by decide +kernel) rfl (lv_at hl 3 rfl) ?_
  refine lv_iconst (n := 2) (v := nI 2) hx hb (by decide +kernel) (by decide) ?_
  refine lv_iadd hx hb (by decide +kernel) ?_
  refine va_sld hx hb hX hbl hbA hS (hv 2 (by decide)) (by decide +kernel) ?_
  rw [← j2]
  refine law_V (d := 60) (y := y_SS_row) (n := 2) (c0 := 0) (ci := 11) (T := TX11) (N := 20) (as := [.int _, .int _]) (rest := []) hx hb hml hown hts hK j1 j5 j4 (by decide) (by decide) rfl rfl rfl k_SS_row v_SS_row w_821 (by decide +kernel) rfl (Nat.le_of_ble_eq_true rfl) (hO σ _ _ hR) hP hS hl.1 ⟨by decide, by decide⟩ (fun r1 σ1 H locs hrt1 hk hP hS => ?_)
  obtain ⟨v1, rfl⟩ := (show ∃ v, r1 = some (.int v) from hrt1)
  refine lv_aload_n (k := 2) hx hb (by decide +kernel) rfl (lv_at hl 2 rfl) ?_
  refine lv_aload_n (k := 0) hx hb (by decide +kernel) rfl (lv_at hl 0 rfl) ?_
  refine lv_iload_n (k := 3) hx hb (by decide +kernel) rfl (lv_at hl 3 rfl) ?_
  refine lv_iconst (n := 1) (v := nI 1) hx hb (by decide +kernel) (by decide) ?_
  refine lv_iadd hx hb (by decide +kernel) ?_
  refine va_sld hx hb hX hbl hbA hS (hv 1 (by decide)) (by decide +kernel) ?_
  refine lv_aload_n (k := 0) hx hb (by decide +kernel) rfl (lv_at hl 0 rfl) ?_
  refine lv_iload_n (k := 3) hx hb (by decide +kernel) rfl (lv_at hl 3 rfl) ?_
  refine lv_iconst (n := 2) (v := nI 2) hx hb (by decide +kernel) (by decide) ?_
  refine lv_iadd hx hb (by decide +kernel) ?_
  refine va_sld hx hb hX hbl hbA hS (hv 2 (by decide)) (by decide +kernel) ?_
  rw [← j3]
  refine law_V (d := 60) (y := y_M_row) (n := 2) (c0 := 98) (ci := 12) (T := TX12) (N := 63) (as := [.int _, .int _]) (rest := [.int _]) hx hb hml hown hts hK j1 j5 j4 (by decide) (by decide) rfl rfl rfl k_M_row v_M_row w_1541 (by decide +kernel) rfl (Nat.le_of_ble_eq_true rfl) hk hP hS hl.1 ⟨by decide, by decide⟩ (fun r2 σ1 H locs hrt2 hk hP hS => ?_)
  obtain ⟨v2, rfl⟩ := (show ∃ v, r2 = some (.int v) from hrt2)
  refine lv_icmp_eq (tgt := 1379) (off := 391) hx hb (by decide +kernel) (by decide) (fun _ => ?_) (fun hne => absurd hk.1 hne)
  exact kk σ1 _ H locs ls hk.2 hLI hP hS hl
set_option maxHeartbeats 4000000 in
set_option maxRecDepth 20000 in
theorem law_alterRow {p : Program} {l : Launch} {e : Env} {s : State} {m : MethodId} {below : List Frame} {meth : Method} {c : Code} {b L : Nat} {xs : Nat → Int32} {G : va_G} {t : T3} {Rel : Hp → Prop} {Q : State → Prop} {aS aM : Nat} {x3 : Int32} (C0 : lw_At p s m meth c b L xs) (hK : va_K G cls (tysA t) s) (hv : ∀ k : Nat, k < 6 → vp_in (x3 + nI k) L) (hO : O_alterRow Rel) (σ : Hp) (ad : Nat → Nat) (H : Heap) (locs : List Loc) (ls : Array Slot) (hR : Rel σ) (hLI : LI s aS aM ad) (hP : va_P G cls (wsA t ad σ) H) (hS : va_S (fun q => s.heap.size ≤ q) s.heap H locs) (hl : lv_has ls 4 [(0, .ref b), (1, .ref aS), (2, .ref aM), (3, .int x3)]) (kk : ∀ (σ : Hp) (ad : Nat → Nat) (H : Heap) (locs : List Loc) (ls : Array Slot), Rel σ → LI s aS aM ad → va_P G cls (wsA t ad σ) H → va_S (fun q => s.heap.size ≤ q) s.heap H locs → lv_has ls 4 [(0, .ref b), (1, .ref aS), (2, .ref aM), (3, .int x3)] → W p l e room_1 s m #[Value.ref b] below meth c H locs 128 13160 Q (F0 m 1379 ls [])) : W p l e room_1 s m #[Value.ref b] below meth c H locs 128 13160 Q (F0 m 993 ls []) := by
  obtain ⟨hx, hb, hr, hml, hown, hts0, hX, hbl, hlocks, hgv⟩ := C0
  have hts : ∀ w ∈ lw_good, w.before #[Value.ref b] s = true := fun w hw => hts0 w (lw_good_sub w hw)
  have hbA : ¬ (fun q : Nat => s.heap.size ≤ q) b := Nat.not_le.mpr hbl
  obtain ⟨j1, j2, j3, j4, j5⟩ := id hLI
  refine lv_aload_n (k := 1) hx hb (by decide +kernel) rfl (lv_at hl 1 rfl) ?_
  refine lv_aload_n (k := 0) hx hb (by decide +kernel) rfl (lv_at hl 0 rfl) ?_
  refine lv_iload_n (k := 3) hx hb (by decide +kernel) rfl (lv_at hl 3 rfl) ?_
  refine lv_iconst (n := 1) (v := nI 1) hx hb (by decide +kernel) (by decide) ?_
  refine lv_iadd hx hb (by decide +kernel) ?_
  refine va_sld hx hb hX hbl hbA hS (hv 1 (by decide)) (by decide +kernel) ?_
  refine lv_aload_n (k := 0) hx hb (by decide +kernel) rfl (lv_at hl 0 rfl) ?_
  refine lv_iload_n (k := 3) hx hb (by decide +kernel) rfl (lv_at hl 3 rfl) ?_
  refine lv_iconst (n := 2) (v := nI 2) hx hb (by decide +kernel) (by decide) ?_
  refine lv_iadd hx hb (by decide +kernel) ?_
  refine va_sld hx hb hX hbl hbA hS (hv 2 (by decide)) (by decide +kernel) ?_
  refine lv_aload_n (k := 0) hx hb (by decide +kernel) rfl (lv_at hl 0 rfl) ?_
  refine lv_iload_n (k := 3) hx hb (by decide +kernel) rfl (lv_at hl 3 rfl) ?_
  refine lv_iconst (n := 3) (v := nI 3) hx hb (by decide +kernel) (by decide) ?_
  refine lv_iadd hx hb (by decide +kernel) ?_
  refine va_sld hx hb hX hbl hbA hS (hv 3 (by decide)) (by decide +kernel) ?_
  rw [← j2]
  refine law_V (d := 60) (y := y_SS_alterRow) (n := 3) (c0 := 0) (ci := 11) (T := TX11) (N := 20) (as := [.int _, .int _, .int _]) (rest := []) hx hb hml hown hts hK j1 j5 j4 (by decide) (by decide) rfl rfl rfl k_SS_alterRow v_SS_alterRow w_829 (by decide +kernel) rfl (Nat.le_of_ble_eq_true rfl) (hO σ _ _ _ hR) hP hS hl.1 ⟨by decide, by decide⟩ (fun r1 σ1 H locs hrt1 hk hP hS => ?_)
  obtain ⟨v1, rfl⟩ := (show ∃ v, r1 = some (.int v) from hrt1)
  refine lv_aload_n (k := 2) hx hb (by decide +kernel) rfl (lv_at hl 2 rfl) ?_
  refine lv_aload_n (k := 0) hx hb (by decide +kernel) rfl (lv_at hl 0 rfl) ?_
  refine lv_iload_n (k := 3) hx hb (by decide +kernel) rfl (lv_at hl 3 rfl) ?_
  refine lv_iconst (n := 1) (v := nI 1) hx hb (by decide +kernel) (by decide) ?_
  refine lv_iadd hx hb (by decide +kernel) ?_
  refine va_sld hx hb hX hbl hbA hS (hv 1 (by decide)) (by decide +kernel) ?_
  refine lv_aload_n (k := 0) hx hb (by decide +kernel) rfl (lv_at hl 0 rfl) ?_
  refine lv_iload_n (k := 3) hx hb (by decide +kernel) rfl (lv_at hl 3 rfl) ?_
  refine lv_iconst (n := 2) (v := nI 2) hx hb (by decide +kernel) (by decide) ?_
  refine lv_iadd hx hb (by decide +kernel) ?_
  refine va_sld hx hb hX hbl hbA hS (hv 2 (by decide)) (by decide +kernel) ?_
  refine lv_aload_n (k := 0) hx hb (by decide +kernel) rfl (lv_at hl 0 rfl) ?_
  refine lv_iload_n (k := 3) hx hb (by decide +kernel) rfl (lv_at hl 3 rfl) ?_
  refine lv_iconst (n := 3) (v := nI 3) hx hb (by decide +kernel) (by decide) ?_
  refine lv_iadd hx hb (by decide +kernel) ?_
  refine va_sld hx hb hX hbl hbA hS (hv 3 (by decide)) (by decide +kernel) ?_
  rw [← j3]
  refine law_V (d := 60) (y := y_M_alterRow) (n := 3) (c0 := 98) (ci := 12) (T := TX12) (N := 63) (as := [.int _, .int _, .int _]) (rest := [.int _]) hx hb hml hown hts hK j1 j5 j4 (by decide) (by decide) rfl rfl rfl k_M_alterRow v_M_alterRow w_1549 (by decide +kernel) rfl (Nat.le_of_ble_eq_true rfl) hk hP hS hl.1 ⟨by decide, by decide⟩ (fun r2 σ1 H locs hrt2 hk hP hS => ?_)
  obtain ⟨v2, rfl⟩ := (show ∃ v, r2 = some (.int v) from hrt2)
  refine lv_icmp_eq (tgt := 1379) (off := 348) hx hb (by decide +kernel) (by decide) (fun _ => ?_) (fun hne => absurd hk.1 hne)
  exact kk σ1 _ H locs ls hk.2 hLI hP hS hl
set_option maxHeartbeats 4000000 in
set_option maxRecDepth 20000 in
theorem law_judge {p : Program} {l : Launch} {e : Env} {s : State} {m : MethodId} {below : List Frame} {meth : Method} {c : Code} {b L : Nat} {xs : Nat → Int32} {G : va_G} {t : T3} {Rel : Hp → Prop} {Q : State → Prop} {aS aM : Nat} {x3 : Int32} (C0 : lw_At p s m meth c b L xs) (hK : va_K G cls (tysA t) s) (hv : ∀ k : Nat, k < 6 → vp_in (x3 + nI k) L) (hO : O_judge Rel) (σ : Hp) (ad : Nat → Nat) (H : Heap) (locs : List Loc) (ls : Array Slot) (hR : Rel σ) (hLI : LI s aS aM ad) (hP : va_P G cls (wsA t ad σ) H) (hS : va_S (fun q => s.heap.size ≤ q) s.heap H locs) (hl : lv_has ls 4 [(0, .ref b), (1, .ref aS), (2, .ref aM), (3, .int x3)]) (kk : ∀ (σ : Hp) (ad : Nat → Nat) (H : Heap) (locs : List Loc) (ls : Array Slot), Rel σ → LI s aS aM ad → va_P G cls (wsA t ad σ) H → va_S (fun q => s.heap.size ≤ q) s.heap H locs → lv_has ls 4 [(0, .ref b), (1, .ref aS), (2, .ref aM), (3, .int x3)] → W p l e room_1 s m #[Value.ref b] below meth c H locs 128 13160 Q (F0 m 1379 ls [])) : W p l e room_1 s m #[Value.ref b] below meth c H locs 128 13160 Q (F0 m 1036 ls []) := by
  obtain ⟨hx, hb, hr, hml, hown, hts0, hX, hbl, hlocks, hgv⟩ := C0
  have hts : ∀ w ∈ lw_good, w.before #[Value.ref b] s = true := fun w hw => hts0 w (lw_good_sub w hw)
  have hbA : ¬ (fun q : Nat => s.heap.size ≤ q) b := Nat.not_le.mpr hbl
  obtain ⟨j1, j2, j3, j4, j5⟩ := id hLI
  refine lv_aload_n (k := 1) hx hb (by decide +kernel) rfl (lv_at hl 1 rfl) ?_
  refine lv_aload_n (k := 0) hx hb (by decide +kernel) rfl (lv_at hl 0 rfl) ?_
  refine lv_iload_n (k := 3) hx hb (by decide +kernel) rfl (lv_at hl 3 rfl) ?_
  refine lv_iconst (n := 1) (v := nI 1) hx hb (by decide +kernel) (by decide) ?_
  refine lv_iadd hx hb (by decide +kernel) ?_
  refine va_sld hx hb hX hbl hbA hS (hv 1 (by decide)) (by decide +kernel) ?_
  rw [← j2]
  refine law_V (d := 60) (y := y_SS_judge) (n := 1) (c0 := 0) (ci := 11) (T := TX11) (N := 20) (as := [.int _]) (rest := []) hx hb hml hown hts hK j1 j5 j4 (by decide) (by decide) rfl rfl rfl k_SS_judge v_SS_judge w_833 (by decide +kernel) rfl (Nat.le_of_ble_eq_true rfl) (hO σ _ hR) hP hS hl.1 ⟨by decide, by decide⟩ (fun r1 σ1 H locs hrt1 hk hP hS => ?_)
  obtain ⟨v1, rfl⟩ := (show ∃ v, r1 = some (.int v) from hrt1)
  refine lv_aload_n (k := 2) hx hb (by decide +kernel) rfl (lv_at hl 2 rfl) ?_
  refine lv_aload_n (k := 0) hx hb (by decide +kernel) rfl (lv_at hl 0 rfl) ?_
  refine lv_iload_n (k := 3) hx hb (by decide +kernel) rfl (lv_at hl 3 rfl) ?_
  refine lv_iconst (n := 1) (v := nI 1) hx hb (by decide +kernel) (by decide) ?_
  refine lv_iadd hx hb (by decide +kernel) ?_
  refine va_sld hx hb hX hbl hbA hS (hv 1 (by decide)) (by decide +kernel) ?_
  rw [← j3]
  refine law_V (d := 60) (y := y_M_judge) (n := 1) (c0 := 98) (ci := 12) (T := TX12) (N := 63) (as := [.int _]) (rest := [.int _]) hx hb hml hown hts hK j1 j5 j4 (by decide) (by decide) rfl rfl rfl k_M_judge v_M_judge w_1553 (by decide +kernel) rfl (Nat.le_of_ble_eq_true rfl) hk hP hS hl.1 ⟨by decide, by decide⟩ (fun r2 σ1 H locs hrt2 hk hP hS => ?_)
  obtain ⟨v2, rfl⟩ := (show ∃ v, r2 = some (.int v) from hrt2)
  refine lv_icmp_eq (tgt := 1379) (off := 325) hx hb (by decide +kernel) (by decide) (fun _ => ?_) (fun hne => absurd hk.1 hne)
  exact kk σ1 _ H locs ls hk.2 hLI hP hS hl
set_option maxHeartbeats 4000000 in
set_option maxRecDepth 20000 in
theorem law_sheet {p : Program} {l : Launch} {e : Env} {s : State} {m : MethodId} {below : List Frame} {meth : Method} {c : Code} {b L : Nat} {xs : Nat → Int32} {G : va_G} {t : T3} {Rel : Hp → Prop} {Q : State → Prop} {aS aM : Nat} {x3 : Int32} (C0 : lw_At p s m meth c b L xs) (hK : va_K G cls (tysA t) s) (hv : ∀ k : Nat, k < 6 → vp_in (x3 + nI k) L) (hO : O_sheet Rel) (σ : Hp) (ad : Nat → Nat) (H : Heap) (locs : List Loc) (ls : Array Slot) (hR : Rel σ) (hLI : LI s aS aM ad) (hP : va_P G cls (wsA t ad σ) H) (hS : va_S (fun q => s.heap.size ≤ q) s.heap H locs) (hl : lv_has ls 4 [(0, .ref b), (1, .ref aS), (2, .ref aM), (3, .int x3)]) (kk : ∀ (σ : Hp) (ad : Nat → Nat) (H : Heap) (locs : List Loc) (ls : Array Slot), Rel σ → LI s aS aM ad → va_P G cls (wsA t ad σ) H → va_S (fun q => s.heap.size ≤ q) s.heap H locs → lv_has ls 4 [(0, .ref b), (1, .ref aS), (2, .ref aM), (3, .int x3)] → W p l e room_1 s m #[Value.ref b] below meth c H locs 128 13160 Q (F0 m 1379 ls [])) : W p l e room_1 s m #[Value.ref b] below meth c H locs 128 13160 Q (F0 m 1059 ls []) := by
  obtain ⟨hx, hb, hr, hml, hown, hts0, hX, hbl, hlocks, hgv⟩ := C0
  have hts : ∀ w ∈ lw_good, w.before #[Value.ref b] s = true := fun w hw => hts0 w (lw_good_sub w hw)
  have hbA : ¬ (fun q : Nat => s.heap.size ≤ q) b := Nat.not_le.mpr hbl
  obtain ⟨j1, j2, j3, j4, j5⟩ := id hLI
  refine lv_aload_n (k := 1) hx hb (by decide +kernel) rfl (lv_at hl 1 rfl) ?_
  refine lv_aload_n (k := 0) hx hb (by decide +kernel) rfl (lv_at hl 0 rfl) ?_
  refine lv_iload_n (k := 3) hx hb (by decide +kernel) rfl (lv_at hl 3 rfl) ?_
  refine lv_iconst (n := 1) (v := nI 1) hx hb (by decide +kernel) (by decide) ?_
  refine lv_iadd hx hb (by decide +kernel) ?_
  refine va_sld hx hb hX hbl hbA hS (hv 1 (by decide)) (by decide +kernel) ?_
  refine lv_aload_n (k := 0) hx hb (by decide +kernel) rfl (lv_at hl 0 rfl) ?_
  refine lv_iload_n (k := 3) hx hb (by decide +kernel) rfl (lv_at hl 3 rfl) ?_
  refine lv_iconst (n := 2) (v := nI 2) hx hb (by decide +kernel) (by decide) ?_
  refine lv_iadd hx hb (by decide +kernel) ?_
  refine va_sld hx hb hX hbl hbA hS (hv 2 (by decide)) (by decide +kernel) ?_
  refine lv_aload_n (k := 0) hx hb (by decide +kernel) rfl (lv_at hl 0 rfl) ?_
  refine lv_iload_n (k := 3) hx hb (by decide +kernel) rfl (lv_at hl 3 rfl) ?_
  refine lv_iconst (n := 3) (v := nI 3) hx hb (by decide +kernel) (by decide) ?_
  refine lv_iadd hx hb (by decide +kernel) ?_
  refine va_sld hx hb hX hbl hbA hS (hv 3 (by decide)) (by decide +kernel) ?_
  rw [← j2]
  refine law_V (d := 60) (y := y_SS_sheet) (n := 3) (c0 := 0) (ci := 11) (T := TX11) (N := 20) (as := [.int _, .int _, .int _]) (rest := []) hx hb hml hown hts hK j1 j5 j4 (by decide) (by decide) rfl rfl rfl k_SS_sheet v_SS_sheet w_837 (by decide +kernel) rfl (Nat.le_of_ble_eq_true rfl) (hO σ _ _ _ hR) hP hS hl.1 ⟨by decide, by decide⟩ (fun r1 σ1 H locs hrt1 hk hP hS => ?_)
  obtain ⟨v1, rfl⟩ := (show ∃ v, r1 = some (.int v) from hrt1)
  refine lv_aload_n (k := 2) hx hb (by decide +kernel) rfl (lv_at hl 2 rfl) ?_
  refine lv_aload_n (k := 0) hx hb (by decide +kernel) rfl (lv_at hl 0 rfl) ?_
  refine lv_iload_n (k := 3) hx hb (by decide +kernel) rfl (lv_at hl 3 rfl) ?_
  refine lv_iconst (n := 1) (v := nI 1) hx hb (by decide +kernel) (by decide) ?_
  refine lv_iadd hx hb (by decide +kernel) ?_
  refine va_sld hx hb hX hbl hbA hS (hv 1 (by decide)) (by decide +kernel) ?_
  refine lv_aload_n (k := 0) hx hb (by decide +kernel) rfl (lv_at hl 0 rfl) ?_
  refine lv_iload_n (k := 3) hx hb (by decide +kernel) rfl (lv_at hl 3 rfl) ?_
  refine lv_iconst (n := 2) (v := nI 2) hx hb (by decide +kernel) (by decide) ?_
  refine lv_iadd hx hb (by decide +kernel) ?_
  refine va_sld hx hb hX hbl hbA hS (hv 2 (by decide)) (by decide +kernel) ?_
  refine lv_aload_n (k := 0) hx hb (by decide +kernel) rfl (lv_at hl 0 rfl) ?_
  refine lv_iload_n (k := 3) hx hb (by decide +kernel) rfl (lv_at hl 3 rfl) ?_
  refine lv_iconst (n := 3) (v := nI 3) hx hb (by decide +kernel) (by decide) ?_
  refine lv_iadd hx hb (by decide +kernel) ?_
  refine va_sld hx hb hX hbl hbA hS (hv 3 (by decide)) (by decide +kernel) ?_
  rw [← j3]
  refine law_V (d := 60) (y := y_M_sheet) (n := 3) (c0 := 98) (ci := 12) (T := TX12) (N := 63) (as := [.int _, .int _, .int _]) (rest := [.int _]) hx hb hml hown hts hK j1 j5 j4 (by decide) (by decide) rfl rfl rfl k_M_sheet v_M_sheet w_1557 (by decide +kernel) rfl (Nat.le_of_ble_eq_true rfl) hk hP hS hl.1 ⟨by decide, by decide⟩ (fun r2 σ1 H locs hrt2 hk hP hS => ?_)
  obtain ⟨v2, rfl⟩ := (show ∃ v, r2 = some (.int v) from hrt2)
  refine lv_icmp_eq (tgt := 1379) (off := 282) hx hb (by decide +kernel) (by decide) (fun _ => ?_) (fun hne => absurd hk.1 hne)
  exact kk σ1 _ H locs ls hk.2 hLI hP hS hl
set_option maxHeartbeats 4000000 in
set_option maxRecDepth 20000 in
theorem law_put {p : Program} {l : Launch} {e : Env} {s : State} {m : MethodId} {below : List Frame} {meth : Method} {c : Code} {b L : Nat} {xs : Nat → Int32} {G : va_G} {t : T3} {Rel : Hp → Prop} {Q : State → Prop} {aS aM : Nat} {x3 : Int32} (C0 : lw_At p s m meth c b L xs) (hK : va_K G cls (tysA t) s) (hv : ∀ k : Nat, k < 6 → vp_in (x3 + nI k) L) (hO : O_put Rel) (σ : Hp) (ad : Nat → Nat) (H : Heap) (locs : List Loc) (ls : Array Slot) (hR : Rel σ) (hLI : LI s aS aM ad) (hP : va_P G cls (wsA t ad σ) H) (hS : va_S (fun q => s.heap.size ≤ q) s.heap H locs) (hl : lv_has ls 4 [(0, .ref b), (1, .ref aS), (2, .ref aM), (3, .int x3)]) (kk : ∀ (σ : Hp) (ad : Nat → Nat) (H : Heap) (locs : List Loc) (ls : Array Slot), Rel σ → LI s aS aM ad → va_P G cls (wsA t ad σ) H → va_S (fun q => s.heap.size ≤ q) s.heap H locs → lv_has ls 4 [(0, .ref b), (1, .ref aS), (2, .ref aM), (3, .int x3)] → W p l e room_1 s m #[Value.ref b] below meth c H locs 128 13160 Q (F0 m 1379 ls [])) : W p l e room_1 s m #[Value.ref b] below meth c H locs 128 13160 Q (F0 m 1102 ls []) := by
  obtain ⟨hx, hb, hr, hml, hown, hts0, hX, hbl, hlocks, hgv⟩ := C0
  have hts : ∀ w ∈ lw_good, w.before #[Value.ref b] s = true := fun w hw => hts0 w (lw_good_sub w hw)
  have hbA : ¬ (fun q : Nat => s.heap.size ≤ q) b := Nat.not_le.mpr hbl
  obtain ⟨j1, j2, j3, j4, j5⟩ := id hLI
  refine lv_aload_n (k := 1) hx hb (by decide +kernel) rfl (lv_at hl 1 rfl) ?_
  refine lv_aload_n (k := 0) hx hb (by decide +kernel) rfl (lv_at hl 0 rfl) ?_
  refine lv_iload_n (k := 3) hx hb (by decide +kernel) rfl (lv_at hl 3 rfl) ?_
  refine lv_iconst (n := 1) (v := nI 1) hx hb (by decide +kernel) (by decide) ?_
  refine lv_iadd hx hb (by decide +kernel) ?_
  refine va_sld hx hb hX hbl hbA hS (hv 1 (by decide)) (by decide +kernel) ?_
  refine lv_aload_n (k := 0) hx hb (by decide +kernel) rfl (lv_at hl 0 rfl) ?_
  refine lv_iload_n (k := 3) hx hb (by decide +kernel) rfl (lv_at hl 3 rfl) ?_
  refine lv_iconst (n := 2) (v := nI 2) hx hb (by decide +kernel) (by decide) ?_
  refine lv_iadd hx hb (by decide +kernel) ?_
  refine va_sld hx hb hX hbl hbA hS (hv 2 (by decide)) (by decide +kernel) ?_
  refine lv_aload_n (k := 0) hx hb (by decide +kernel) rfl (lv_at hl 0 rfl) ?_
  refine lv_iload_n (k := 3) hx hb (by decide +kernel) rfl (lv_at hl 3 rfl) ?_
  refine lv_iconst (n := 3) (v := nI 3) hx hb (by decide +kernel) (by decide) ?_
  refine lv_iadd hx hb (by decide +kernel) ?_
  refine va_sld hx hb hX hbl hbA hS (hv 3 (by decide)) (by decide +kernel) ?_
  rw [← j2]
  refine law_V (d := 60) (y := y_SS_put) (n := 3) (c0 := 0) (ci := 11) (T := TX11) (N := 20) (as := [.int _, .int _, .int _]) (rest := []) hx hb hml hown hts hK j1 j5 j4 (by decide) (by decide) rfl rfl rfl k_SS_put v_SS_put w_847 (by decide +kernel) rfl (Nat.le_of_ble_eq_true rfl) (hO σ _ _ _ hR) hP hS hl.1 ⟨by decide, by decide⟩ (fun r1 σ1 H locs hrt1 hk hP hS => ?_)
  obtain ⟨v1, rfl⟩ := (show ∃ v, r1 = some (.int v) from hrt1)
  refine lv_aload_n (k := 2) hx hb (by decide +kernel) rfl (lv_at hl 2 rfl) ?_
  refine lv_aload_n (k := 0) hx hb (by decide +kernel) rfl (lv_at hl 0 rfl) ?_
  refine lv_iload_n (k := 3) hx hb (by decide +kernel) rfl (lv_at hl 3 rfl) ?_
  refine lv_iconst (n := 1) (v := nI 1) hx hb (by decide +kernel) (by decide) ?_
  refine lv_iadd hx hb (by decide +kernel) ?_
  refine va_sld hx hb hX hbl hbA hS (hv 1 (by decide)) (by decide +kernel) ?_
  refine lv_aload_n (k := 0) hx hb (by decide +kernel) rfl (lv_at hl 0 rfl) ?_
  refine lv_iload_n (k := 3) hx hb (by decide +kernel) rfl (lv_at hl 3 rfl) ?_
  refine lv_iconst (n := 2) (v := nI 2) hx hb (by decide +kernel) (by decide) ?_
  refine lv_iadd hx hb (by decide +kernel) ?_
  refine va_sld hx hb hX hbl hbA hS (hv 2 (by decide)) (by decide +kernel) ?_
  refine lv_aload_n (k := 0) hx hb (by decide +kernel) rfl (lv_at hl 0 rfl) ?_
  refine lv_iload_n (k := 3) hx hb (by decide +kernel) rfl (lv_at hl 3 rfl) ?_
  refine lv_iconst (n := 3) (v := nI 3) hx hb (by decide +kernel) (by decide) ?_
  refine lv_iadd hx hb (by decide +kernel) ?_
  refine va_sld hx hb hX hbl hbA hS (hv 3 (by decide)) (by decide +kernel) ?_
  rw [← j3]
  refine law_V (d := 60) (y := y_M_put) (n := 3) (c0 := 98) (ci := 12) (T := TX12) (N := 63) (as := [.int _, .int _, .int _]) (rest := [.int _]) hx hb hml hown hts hK j1 j5 j4 (by decide) (by decide) rfl rfl rfl k_M_put v_M_put w_1561 (by decide +kernel) rfl (Nat.le_of_ble_eq_true rfl) hk hP hS hl.1 ⟨by decide, by decide⟩ (fun r2 σ1 H locs hrt2 hk hP hS => ?_)
  obtain ⟨v2, rfl⟩ := (show ∃ v, r2 = some (.int v) from hrt2)
  refine lv_icmp_eq (tgt := 1379) (off := 239) hx hb (by decide +kernel) (by decide) (fun _ => ?_) (fun hne => absurd hk.1 hne)
  exact kk σ1 _ H locs ls hk.2 hLI hP hS hl
set_option maxHeartbeats 4000000 in
set_option maxRecDepth 20000 in
theorem law_item {p : Program} {l : Launch} {e : Env} {s : State} {m : MethodId} {below : List Frame} {meth : Method} {c : Code} {b L : Nat} {xs : Nat → Int32} {G : va_G} {t : T3} {Rel : Hp → Prop} {Q : State → Prop} {aS aM : Nat} {x3 : Int32} (C0 : lw_At p s m meth c b L xs) (hK : va_K G cls (tysA t) s) (hv : ∀ k : Nat, k < 6 → vp_in (x3 + nI k) L) (hO : O_item Rel) (σ : Hp) (ad : Nat → Nat) (H : Heap) (locs : List Loc) (ls : Array Slot) (hR : Rel σ) (hLI : LI s aS aM ad) (hP : va_P G cls (wsA t ad σ) H) (hS : va_S (fun q => s.heap.size ≤ q) s.heap H locs) (hl : lv_has ls 4 [(0, .ref b), (1, .ref aS), (2, .ref aM), (3, .int x3)]) (kk : ∀ (σ : Hp) (ad : Nat → Nat) (H : Heap) (locs : List Loc) (ls : Array Slot), Rel σ → LI s aS aM ad → va_P G cls (wsA t ad σ) H → va_S (fun q => s.heap.size ≤ q) s.heap H locs → lv_has ls 4 [(0, .ref b), (1, .ref aS), (2, .ref aM), (3, .int x3)] → W p l e room_1 s m #[Value.ref b] below meth c H locs 128 13160 Q (F0 m 1379 ls [])) : W p l e room_1 s m #[Value.ref b] below meth c H locs 128 13160 Q (F0 m 1145 ls []) := by
  obtain ⟨hx, hb, hr, hml, hown, hts0, hX, hbl, hlocks, hgv⟩ := C0
  have hts : ∀ w ∈ lw_good, w.before #[Value.ref b] s = true := fun w hw => hts0 w (lw_good_sub w hw)
  have hbA : ¬ (fun q : Nat => s.heap.size ≤ q) b := Nat.not_le.mpr hbl
  obtain ⟨j1, j2, j3, j4, j5⟩ := id hLI
  refine lv_aload_n (k := 1) hx hb (by decide +kernel) rfl (lv_at hl 1 rfl) ?_
  refine lv_aload_n (k := 0) hx hb (by decide +kernel) rfl (lv_at hl 0 rfl) ?_
  refine lv_iload_n (k := 3) hx hb (by decide +kernel) rfl (lv_at hl 3 rfl) ?_
  refine lv_iconst (n := 1) (v := nI 1) hx hb (by decide +kernel) (by decide) ?_
  refine lv_iadd hx hb (by decide +kernel) ?_
  refine va_sld hx hb hX hbl hbA hS (hv 1 (by decide)) (by decide +kernel) ?_
  refine lv_aload_n (k := 0) hx hb (by decide +kernel) rfl (lv_at hl 0 rfl) ?_
  refine lv_iload_n (k := 3) hx hb (by decide +kernel) rfl (lv_at hl 3 rfl) ?_
  refine lv_iconst (n := 2) (v := nI 2) hx hb (by decide +kernel) (by decide) ?_
  refine lv_iadd hx hb (by decide +kernel) ?_
  refine va_sld hx hb hX hbl hbA hS (hv 2 (by decide)) (by decide +kernel) ?_
  refine lv_aload_n (k := 0) hx hb (by decide +kernel) rfl (lv_at hl 0 rfl) ?_
  refine lv_iload_n (k := 3) hx hb (by decide +kernel) rfl (lv_at hl 3 rfl) ?_
  refine lv_iconst (n := 3) (v := nI 3) hx hb (by decide +kernel) (by decide) ?_
  refine lv_iadd hx hb (by decide +kernel) ?_
  refine va_sld hx hb hX hbl hbA hS (hv 3 (by decide)) (by decide +kernel) ?_
  rw [← j2]
  refine law_V (d := 60) (y := y_SS_item) (n := 3) (c0 := 0) (ci := 11) (T := TX11) (N := 20) (as := [.int _, .int _, .int _]) (rest := []) hx hb hml hown hts hK j1 j5 j4 (by decide) (by decide) rfl rfl rfl k_SS_item v_SS_item w_854 (by decide +kernel) rfl (Nat.le_of_ble_eq_true rfl) (hO σ _ _ _ hR) hP hS hl.1 ⟨by decide, by decide⟩ (fun r1 σ1 H locs hrt1 hk hP hS => ?_)
  obtain ⟨v1, rfl⟩ := (show ∃ v, r1 = some (.int v) from hrt1)
  refine lv_aload_n (k := 2) hx hb (by decide +kernel) rfl (lv_at hl 2 rfl) ?_
  refine lv_aload_n (k := 0) hx hb (by decide +kernel) rfl (lv_at hl 0 rfl) ?_
  refine lv_iload_n (k := 3) hx hb (by decide +kernel) rfl (lv_at hl 3 rfl) ?_
  refine lv_iconst (n := 1) (v := nI 1) hx hb (by decide +kernel) (by decide) ?_
  refine lv_iadd hx hb (by decide +kernel) ?_
  refine va_sld hx hb hX hbl hbA hS (hv 1 (by decide)) (by decide +kernel) ?_
  refine lv_aload_n (k := 0) hx hb (by decide +kernel) rfl (lv_at hl 0 rfl) ?_
  refine lv_iload_n (k := 3) hx hb (by decide +kernel) rfl (lv_at hl 3 rfl) ?_
  refine lv_iconst (n := 2) (v := nI 2) hx hb (by decide +kernel) (by decide) ?_
  refine lv_iadd hx hb (by decide +kernel) ?_
  refine va_sld hx hb hX hbl hbA hS (hv 2 (by decide)) (by decide +kernel) ?_
  refine lv_aload_n (k := 0) hx hb (by decide +kernel) rfl (lv_at hl 0 rfl) ?_
  refine lv_iload_n (k := 3) hx hb (by decide +kernel) rfl (lv_at hl 3 rfl) ?_
  refine lv_iconst (n := 3) (v := nI 3) hx hb (by decide +kernel) (by decide) ?_
  refine lv_iadd hx hb (by decide +kernel) ?_
  refine va_sld hx hb hX hbl hbA hS (hv 3 (by decide)) (by decide +kernel) ?_
  rw [← j3]
  refine law_V (d := 60) (y := y_M_item) (n := 3) (c0 := 98) (ci := 12) (T := TX12) (N := 63) (as := [.int _, .int _, .int _]) (rest := [.int _]) hx hb hml hown hts hK j1 j5 j4 (by decide) (by decide) rfl rfl rfl k_M_item v_M_item w_1565 (by decide +kernel) rfl (Nat.le_of_ble_eq_true rfl) hk hP hS hl.1 ⟨by decide, by decide⟩ (fun r2 σ1 H locs hrt2 hk hP hS => ?_)
  obtain ⟨v2, rfl⟩ := (show ∃ v, r2 = some (.int v) from hrt2)
  refine lv_icmp_eq (tgt := 1379) (off := 196) hx hb (by decide +kernel) (by decide) (fun _ => ?_) (fun hne => absurd hk.1 hne)
  exact kk σ1 _ H locs ls hk.2 hLI hP hS hl
