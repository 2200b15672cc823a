set_option maxHeartbeats 4000000 in
set_option maxRecDepth 20000 in
theorem law_shelf {p : Program} {l : Launch} {e : Env} {s : State} {m : MethodId} {below : List Frame} {meth : Method} {c : Code} {b L : Nat} {xs : Nat → Int32} {G : va_G} {t : T3} {Rel : Hp → Prop} {Q : State → Prop} {aS aM : Nat} {x3 : Int32} (C0 : lw_At p s m meth c b L xs) (hK : va_K G cls (tysA t) s) (hv : ∀ k : Nat, k < 6 → vp_in (x3 + nI k) L) (hO : O_shelf Rel) (σ : Hp) (ad : Nat → Nat) (H : Heap) (locs : List Loc) (ls : Array Slot) (hR : Rel σ) (hLI : LI s aS aM ad) (hP : va_P G cls (wsA t ad σ) H) (hS : va_S (fun q => s.heap.size ≤ q) s.heap H locs) (hl : lv_has ls 4 [(0, .ref b), (1, .ref aS), (2, .ref aM), (3, .int x3)]) (kk : ∀ (σ : Hp) (ad : Nat → Nat) (H : Heap) (locs : List Loc) (ls : Array Slot), Rel σ → LI s aS aM ad → va_P G cls (wsA t ad σ) H → va_S (fun q => s.heap.size ≤ q) s.heap H locs → lv_has ls 4 [(0, .ref b), (1, .ref aS), (2, .ref aM), (3, .int x3)] → W p l e room_1 s m #[Value.ref b] below meth c H locs 128 13160 Q (F0 m 1379 ls [])) : W p l e room_1 s m #[Value.ref b] below meth c H locs 128 13160 Q (F0 m 1188 ls []) := by
  obtain ⟨hx, hb, hr, hml, hown, hts0, hX, hbl, hlocks, hgv⟩ := C0
  have hts : ∀ w ∈ lw_good, w.before #[Value.ref b] s = true := fun w hw => hts0 w (lw_good_sub w hw)
  have hbA : ¬ (fun q : Nat => s.heap.size ≤ q) b := Nat.not_le.mpr hbl
  obtain ⟨j1, j2, j3, j4, j5⟩ := id hLI
  refine lv_aload_n (k := 1) hx hb (by decide +kernel) rfl (lv_at hl 1 rfl) ?_
  refine lv_aload_n (k := 0) hx hb (by decide +kernel) rfl (lv_at hl 0 rfl) ?_
  refine lv_iload_n (k := 3) hx hb (by decide +kernel) rfl (lv_at hl 3 rfl) ?_
  refine lv_iconst (n := 1) (v := nI 1) hx hb (by decide +kernel) (by decide) ?_
  refine lv_iadd hx hb (by decide +kernel) ?_
  refine va_sld hx hb hX hbl hbA hS (hv 1 (by decide)) (by decide +kernel) ?_
  refine lv_aload_n (k := 0) hx hb (by decide +kernel) rfl (lv_at hl 0 rfl) ?_
  refine lv_iload_n (k := 3) hx hb (by decide +kernel) rfl (lv_at hl 3 rfl) ?_
  refine lv_iconst (n := 2) (v := nI 2) hx hb (by decide +kernel) (by decide) ?_
  refine lv_iadd hx hb (by decide +kernel) ?_
  refine va_sld hx hb hX hbl hbA hS (hv 2 (by decide)) (by decide +kernel) ?_
  refine lv_aload_n (k := 0) hx hb (by decide +kernel) rfl (lv_at hl 0 rfl) ?_
  refine lv_iload_n (k := 3) hx hb (by decide +kernel) rfl (lv_at hl 3 rfl) ?_
  refine lv_iconst (n := 3) (v := nI 3) hx hb (by decide +kernel) (by decide) ?_
  refine lv_iadd hx hb (by decide +kernel) ?_
  refine va_sld hx hb hX hbl hbA hS (hv 3 (by decide)) (by decide +kernel) ?_
  rw [← j2]
  refine law_V (d := 60) (y := y_SS_shelf) (n := 3) (c0 := 0) (ci := 11) (T := TX11) (N := 20) (as := [.int _, .int _, .int _]) (rest := []) hx hb hml hown hts hK j1 j5 j4 (by decide) (by decide) rfl rfl rfl k_SS_shelf v_SS_shelf w_858 (by decide +kernel) rfl (Nat.le_of_ble_eq_true rfl) (hO σ _ _ _ hR) hP hS hl.1 ⟨by decide, by decide⟩ (fun r1 σ1 H locs hrt1 hk hP hS => ?_)
  obtain ⟨v1, rfl⟩ := (show ∃ v, r1 = some (.int v) from hrt1)
  refine lv_aload_n (k := 2) hx hb (by decide +kernel) rfl (lv_at hl 2 rfl) ?_
  refine lv_aload_n (k := 0) hx hb (by decide +kernel) rfl (lv_at hl 0 rfl) ?_
  refine lv_iload_n (k := 3) hx hb (by decide +kernel) rfl (lv_at hl 3 rfl) ?_
  refine lv_iconst (n := 1) (v := nI 1) hx hb (by decide +kernel) (by decide) ?_
  refine lv_iadd hx hb (by decide +kernel) ?_
  refine va_sld hx hb hX hbl hbA hS (hv 1 (by decide)) (by decide +kernel) ?_
  refine lv_aload_n (k := 0) hx hb (by decide +kernel) rfl (lv_at hl 0 rfl) ?_
  refine lv_iload_n (k := 3) hx hb (by decide +kernel) rfl (lv_at hl 3 rfl) ?_
  refine lv_iconst (n := 2) (v := nI 2) hx hb (by decide +kernel) (by decide) ?_
  refine lv_iadd hx hb (by decide +kernel) ?_
  refine va_sld hx hb hX hbl hbA hS (hv 2 (by decide)) (by decide +kernel) ?_
  refine lv_aload_n (k := 0) hx hb (by decide +kernel) rfl (lv_at hl 0 rfl) ?_
  refine lv_iload_n (k := 3) hx hb (by decide +kernel) rfl (lv_at hl 3 rfl) ?_
  refine lv_iconst (n := 3) (v := nI 3) hx hb (by decide +kernel) (by decide) ?_
  refine lv_iadd hx hb (by decide +kernel) ?_
  refine va_sld hx hb hX hbl hbA hS (hv 3 (by decide)) (by decide +kernel) ?_
  rw [← j3]
  refine law_V (d := 60) (y := y_M_shelf) (n := 3) (c0 := 98) (ci := 12) (T := TX12) (N := 63) (as := [.int _, .int _, .int _]) (rest := [.int _]) hx hb hml hown hts hK j1 j5 j4 (by decide) (by decide) rfl rfl rfl k_M_shelf v_M_shelf w_1569 (by decide +kernel) rfl (Nat.le_of_ble_eq_true rfl) hk hP hS hl.1 ⟨by decide, by decide⟩ (fun r2 σ1 H locs hrt2 hk hP hS => ?_)
  obtain ⟨v2, rfl⟩ := (show ∃ v, r2 = some (.int v) from hrt2)
  refine lv_icmp_eq (tgt := 1379) (off := 153) hx hb (by decide +kernel) (by decide) (fun _ => ?_) (fun hne => absurd hk.1 hne)
  exact kk σ1 _ H locs ls hk.2 hLI hP hS hl
set_option maxHeartbeats 4000000 in
set_option maxRecDepth 20000 in
theorem law_taken {p : Program} {l : Launch} {e : Env} {s : State} {m : MethodId} {below : List Frame} {meth : Method} {c : Code} {b L : Nat} {xs : Nat → Int32} {G : va_G} {t : T3} {Rel : Hp → Prop} {Q : State → Prop} {aS aM : Nat} {x3 : Int32} (C0 : lw_At p s m meth c b L xs) (hK : va_K G cls (tysA t) s) (hv : ∀ k : Nat, k < 6 → vp_in (x3 + nI k) L) (hO : O_taken Rel) (σ : Hp) (ad : Nat → Nat) (H : Heap) (locs : List Loc) (ls : Array Slot) (hR : Rel σ) (hLI : LI s aS aM ad) (hP : va_P G cls (wsA t ad σ) H) (hS : va_S (fun q => s.heap.size ≤ q) s.heap H locs) (hl : lv_has ls 4 [(0, .ref b), (1, .ref aS), (2, .ref aM), (3, .int x3)]) (kk : ∀ (σ : Hp) (ad : Nat → Nat) (H : Heap) (locs : List Loc) (ls : Array Slot), Rel σ → LI s aS aM ad → va_P G cls (wsA t ad σ) H → va_S (fun q => s.heap.size ≤ q) s.heap H locs → lv_has ls 4 [(0, .ref b), (1, .ref aS), (2, .ref aM), (3, .int x3)] → W p l e room_1 s m #[Value.ref b] below meth c H locs 128 13160 Q (F0 m 1379 ls [])) : W p l e room_1 s m #[Value.ref b] below meth c H locs 128 13160 Q (F0 m 1231 ls []) := by
  obtain ⟨hx, hb, hr, hml, hown, hts0, hX, hbl, hlocks, hgv⟩ := C0
  have hts : ∀ w ∈ lw_good, w.before #[Value.ref b] s = true := fun w hw => hts0 w (lw_good_sub w hw)
  have hbA : ¬ (fun q : Nat => s.heap.size ≤ q) b := Nat.not_le.mpr hbl
  obtain ⟨j1, j2, j3, j4, j5⟩ := id hLI
  refine lv_aload_n (k := 1) hx hb (by decide +kernel) rfl (lv_at hl 1 rfl) ?_
  refine lv_aload_n (k := 0) hx hb (by decide +kernel) rfl (lv_at hl 0 rfl) ?_
  refine lv_iload_n (k := 3) hx hb (by decide +kernel) rfl (lv_at hl 3 rfl) ?_
  refine lv_iconst (n := 1) (v := nI 1) hx hb (by decide +kernel) (by decide) ?_
  refine lv_iadd hx hb (by decide +kernel) ?_
  refine va_sld hx hb hX hbl hbA hS (hv 1 (by decide)) (by decide +kernel) ?_
  refine lv_aload_n (k := 0) hx hb (by decide +kernel) rfl (lv_at hl 0 rfl) ?_
  refine lv_iload_n (k := 3) hx hb (by decide +kernel) rfl (lv_at hl 3 rfl) ?_
  refine lv_iconst (n := 2) (v := nI 2) hx hb (by decide +kernel) (by decide) ?_
  refine lv_iadd hx hb (by decide +kernel) ?_
  refine va_sld hx hb hX hbl hbA hS (hv 2 (by decide)) (by decide +kernel) ?_
  rw [← j2]
  refine law_V (d := 60) (y := y_SS_taken) (n := 2) (c0 := 0) (ci := 11) (T := TX11) (N := 20) (as := [.int _, .int _]) (rest := []) hx hb hml hown hts hK j1 j5 j4 (by decide) (by decide) rfl rfl rfl k_SS_taken v_SS_taken w_874 (by decide +kernel) rfl (Nat.le_of_ble_eq_true rfl) (hO σ _ _ hR) hP hS hl.1 ⟨by decide, by decide⟩ (fun r1 σ1 H locs hrt1 hk hP hS => ?_)
  obtain ⟨v1, rfl⟩ := (show ∃ v, r1 = some (.int v) from hrt1)
  refine lv_aload_n (k := 2) hx hb (by decide +kernel) rfl (lv_at hl 2 rfl) ?_
  refine lv_aload_n (k := 0) hx hb (by decide +kernel) rfl (lv_at hl 0 rfl) ?_
  refine lv_iload_n (k := 3) hx hb (by decide +kernel) rfl (lv_at hl 3 rfl) ?_
  refine lv_iconst (n := 1) (v := nI 1) hx hb (by decide +kernel) (by decide) ?_
  refine lv_iadd hx hb (by decide +kernel) ?_
  refine va_sld hx hb hX hbl hbA hS (hv 1 (by decide)) (by decide +kernel) ?_
  refine lv_aload_n (k := 0) hx hb (by decide +kernel) rfl (lv_at hl 0 rfl) ?_
  refine lv_iload_n (k := 3) hx hb (by decide +kernel) rfl (lv_at hl 3 rfl) ?_
  refine lv_iconst (n := 2) (v := nI 2) hx hb (by decide +kernel) (by decide) ?_
  refine lv_iadd hx hb (by decide +kernel) ?_
  refine va_sld hx hb hX hbl hbA hS (hv 2 (by decide)) (by decide +kernel) ?_
  rw [← j3]
  refine law_V (d := 60) (y := y_M_taken) (n := 2) (c0 := 98) (ci := 12) (T := TX12) (N := 63) (as := [.int _, .int _]) (rest := [.int _]) hx hb hml hown hts hK j1 j5 j4 (by decide) (by decide) rfl rfl rfl k_M_taken v_M_taken w_1577 (by decide +kernel) rfl (Nat.le_of_ble_eq_true rfl) hk hP hS hl.1 ⟨by decide, by decide⟩ (fun r2 σ1 H locs hrt2 hk hP hS => ?_)
  obtain ⟨v2, rfl⟩ := (show ∃ v, r2 = some (.int v) from hrt2)
  refine lv_icmp_eq (tgt := 1379) (off := 120) hx hb (by decide +kernel) (by decide) (fun _ => ?_) (fun hne => absurd hk.1 hne)
  exact kk σ1 _ H locs ls hk.2 hLI hP hS hl
set_option maxHeartbeats 4000000 in
set_option maxRecDepth 20000 in
theorem law_act {p : Program} {l : Launch} {e : Env} {s : State} {m : MethodId} {below : List Frame} {meth : Method} {c : Code} {b L : Nat} {xs : Nat → Int32} {G : va_G} {t : T3} {Rel : Hp → Prop} {Q : State → Prop} {aS aM : Nat} {x3 : Int32} (C0 : lw_At p s m meth c b L xs) (hK : va_K G cls (tysA t) s) (hv : ∀ k : Nat, k < 6 → vp_in (x3 + nI k) L) (hO : O_act Rel) (σ : Hp) (ad : Nat → Nat) (H : Heap) (locs : List Loc) (ls : Array Slot) (hR : Rel σ) (hLI : LI s aS aM ad) (hP : va_P G cls (wsA t ad σ) H) (hS : va_S (fun q => s.heap.size ≤ q) s.heap H locs) (hl : lv_has ls 4 [(0, .ref b), (1, .ref aS), (2, .ref aM), (3, .int x3)]) (kk : ∀ (σ : Hp) (ad : Nat → Nat) (H : Heap) (locs : List Loc) (ls : Array Slot), Rel σ → LI s aS aM ad → va_P G cls (wsA t ad σ) H → va_S (fun q => s.heap.size ≤ q) s.heap H locs → lv_has ls 4 [(0, .ref b), (1, .ref aS), (2, .ref aM), (3, .int x3)] → W p l e room_1 s m #[Value.ref b] below meth c H locs 128 13160 Q (F0 m 1379 ls [])) : W p l e room_1 s m #[Value.ref b] below meth c H locs 128 13160 Q (F0 m 1264 ls []) := by
  obtain ⟨hx, hb, hr, hml, hown, hts0, hX, hbl, hlocks, hgv⟩ := C0
  have hts : ∀ w ∈ lw_good, w.before #[Value.ref b] s = true := fun w hw => hts0 w (lw_good_sub w hw)
  have hbA : ¬ (fun q : Nat => s.heap.size ≤ q) b := Nat.not_le.mpr hbl
  obtain ⟨j1, j2, j3, j4, j5⟩ := id hLI
  refine lv_aload_n (k := 1) hx hb (by decide +kernel) rfl (lv_at hl 1 rfl) ?_
  refine lv_aload_n (k := 0) hx hb (by decide +kernel) rfl (lv_at hl 0 rfl) ?_
  refine lv_iload_n (k := 3) hx hb (by decide +kernel) rfl (lv_at hl 3 rfl) ?_
  refine lv_iconst (n := 1) (v := nI 1) hx hb (by decide +kernel) (by decide) ?_
  refine lv_iadd hx hb (by decide +kernel) ?_
  refine va_sld hx hb hX hbl hbA hS (hv 1 (by decide)) (by decide +kernel) ?_
  refine lv_aload_n (k := 0) hx hb (by decide +kernel) rfl (lv_at hl 0 rfl) ?_
  refine lv_iload_n (k := 3) hx hb (by decide +kernel) rfl (lv_at hl 3 rfl) ?_
  refine lv_iconst (n := 2) (v := nI 2) hx hb (by decide +kernel) (by decide) ?_
  refine lv_iadd hx hb (by decide +kernel) ?_
  refine va_sld hx hb hX hbl hbA hS (hv 2 (by decide)) (by decide +kernel) ?_
  refine lv_aload_n (k := 0) hx hb (by decide +kernel) rfl (lv_at hl 0 rfl) ?_
  refine lv_iload_n (k := 3) hx hb (by decide +kernel) rfl (lv_at hl 3 rfl) ?_
  refine lv_iconst (n := 3) (v := nI 3) hx hb (by decide +kernel) (by decide) ?_
  refine lv_iadd hx hb (by decide +kernel) ?_
  refine va_sld hx hb hX hbl hbA hS (hv 3 (by decide)) (by decide +kernel) ?_
  rw [← j2]
  refine law_V (d := 60) (y := y_SS_act) (n := 3) (c0 := 0) (ci := 11) (T := TX11) (N := 20) (as := [.int _, .int _, .int _]) (rest := []) hx hb hml hown hts hK j1 j5 j4 (by decide) (by decide) rfl rfl rfl k_SS_act v_SS_act w_887 (by decide +kernel) rfl (Nat.le_of_ble_eq_true rfl) (hO σ _ _ _ hR) hP hS hl.1 ⟨by decide, by decide⟩ (fun r1 σ1 H locs hrt1 hk hP hS => ?_)
  obtain ⟨v1, rfl⟩ := (show ∃ v, r1 = some (.int v) from hrt1)
  refine lv_aload_n (k := 2) hx hb (by decide +kernel) rfl (lv_at hl 2 rfl) ?_
  refine lv_aload_n (k := 0) hx hb (by decide +kernel) rfl (lv_at hl 0 rfl) ?_
  refine lv_iload_n (k := 3) hx hb (by decide +kernel) rfl (lv_at hl 3 rfl) ?_
  refine lv_iconst (n := 1) (v := nI 1) hx hb (by decide +kernel) (by decide) ?_
  refine lv_iadd hx hb (by decide +kernel) ?_
  refine va_sld hx hb hX hbl hbA hS (hv 1 (by decide)) (by decide +kernel) ?_
  refine lv_aload_n (k := 0) hx hb (by decide +kernel) rfl (lv_at hl 0 rfl) ?_
  refine lv_iload_n (k := 3) hx hb (by decide +kernel) rfl (lv_at hl 3 rfl) ?_
  refine lv_iconst (n := 2) (v := nI 2) hx hb (by decide +kernel) (by decide) ?_
  refine lv_iadd hx hb (by decide +kernel) ?_
  refine va_sld hx hb hX hbl hbA hS (hv 2 (by decide)) (by decide +kernel) ?_
  refine lv_aload_n (k := 0) hx hb (by decide +kernel) rfl (lv_at hl 0 rfl) ?_
  refine lv_iload_n (k := 3) hx hb (by decide +kernel) rfl (lv_at hl 3 rfl) ?_
  refine lv_iconst (n := 3) (v := nI 3) hx hb (by decide +kernel) (by decide) ?_
  refine lv_iadd hx hb (by decide +kernel) ?_
  refine va_sld hx hb hX hbl hbA hS (hv 3 (by decide)) (by decide +kernel) ?_
  rw [← j3]
  refine law_V (d := 60) (y := y_M_act) (n := 3) (c0 := 98) (ci := 12) (T := TX12) (N := 63) (as := [.int _, .int _, .int _]) (rest := [.int _]) hx hb hml hown hts hK j1 j5 j4 (by decide) (by decide) rfl rfl rfl k_M_act v_M_act w_1588 (by decide +kernel) rfl (Nat.le_of_ble_eq_true rfl) hk hP hS hl.1 ⟨by decide, by decide⟩ (fun r2 σ1 H locs hrt2 hk hP hS => ?_)
  obtain ⟨v2, rfl⟩ := (show ∃ v, r2 = some (.int v) from hrt2)
  refine lv_icmp_eq (tgt := 1379) (off := 77) hx hb (by decide +kernel) (by decide) (fun _ => ?_) (fun hne => absurd hk.1 hne)
  exact kk σ1 _ H locs ls hk.2 hLI hP hS hl
set_option maxHeartbeats 4000000 in
set_option maxRecDepth 20000 in
theorem law_trace {p : Program} {l : Launch} {e : Env} {s : State} {m : MethodId} {below : List Frame} {meth : Method} {c : Code} {b L : Nat} {xs : Nat → Int32} {G : va_G} {t : T3} {Rel : Hp → Prop} {Q : State → Prop} {aS aM : Nat} {x3 : Int32} (C0 : lw_At p s m meth c b L xs) (hK : va_K G cls (tysA t) s) (hv : ∀ k : Nat, k < 6 → vp_in (x3 + nI k) L) (hO : O_trace Rel) (σ : Hp) (ad : Nat → Nat) (H : Heap) (locs : List Loc) (ls : Array Slot) (hR : Rel σ) (hLI : LI s aS aM ad) (hP : va_P G cls (wsA t ad σ) H) (hS : va_S (fun q => s.heap.size ≤ q) s.heap H locs) (hl : lv_has ls 4 [(0, .ref b), (1, .ref aS), (2, .ref aM), (3, .int x3)]) (kk : ∀ (σ : Hp) (ad : Nat → Nat) (H : Heap) (locs : List Loc) (ls : Array Slot), Rel σ → LI s aS aM ad → va_P G cls (wsA t ad σ) H → va_S (fun q => s.heap.size ≤ q) s.heap H locs → lv_has ls 4 [(0, .ref b), (1, .ref aS), (2, .ref aM), (3, .int x3)] → W p l e room_1 s m #[Value.ref b] below meth c H locs 128 13160 Q (F0 m 1379 ls [])) : W p l e room_1 s m #[Value.ref b] below meth c H locs 128 13160 Q (F0 m 1307 ls []) := by
  obtain ⟨hx, hb, hr, hml, hown, hts0, hX, hbl, hlocks, hgv⟩ := C0
  have hts : ∀ w ∈ lw_good, w.before #[Value.ref b] s = true := fun w hw => hts0 w (lw_good_sub w hw)
  have hbA : ¬ (fun q : Nat => s.heap.size ≤ q) b := Nat.not_le.mpr hbl
  obtain ⟨j1, j2, j3, j4, j5⟩ := id hLI
  refine lv_aload_n (k := 1) hx hb (by decide +kernel) rfl (lv_at hl 1 rfl) ?_
  refine lv_aload_n (k := 0) hx hb (by decide +kernel) rfl (lv_at hl 0 rfl) ?_
  refine lv_iload_n (k := 3) hx hb (by decide +kernel) rfl (lv_at hl 3 rfl) ?_
  refine lv_iconst (n := 1) (v := nI 1) hx hb (by decide +kernel) (by decide) ?_
  refine lv_iadd hx hb (by decide +kernel) ?_
  refine va_sld hx hb hX hbl hbA hS (hv 1 (by decide)) (by decide +kernel) ?_
  rw [← j2]
  refine law_V (d := 60) (y := y_SS_trace) (n := 1) (c0 := 0) (ci := 11) (T := TX11) (N := 20) (as := [.int _]) (rest := []) hx hb hml hown hts hK j1 j5 j4 (by decide) (by decide) rfl rfl rfl k_SS_trace v_SS_trace w_990 (by decide +kernel) rfl (Nat.le_of_ble_eq_true rfl) (hO σ _ hR) hP hS hl.1 ⟨by decide, by decide⟩ (fun r1 σ1 H locs hrt1 hk hP hS => ?_)
  obtain ⟨v1, rfl⟩ := (show ∃ v, r1 = some (.int v) from hrt1)
  refine lv_aload_n (k := 2) hx hb (by decide +kernel) rfl (lv_at hl 2 rfl) ?_
  refine lv_aload_n (k := 0) hx hb (by decide +kernel) rfl (lv_at hl 0 rfl) ?_
  refine lv_iload_n (k := 3) hx hb (by decide +kernel) rfl (lv_at hl 3 rfl) ?_
  refine lv_iconst (n := 1) (v := nI 1) hx hb (by decide +kernel) (by decide) ?_
  refine lv_iadd hx hb (by decide +kernel) ?_
  refine va_sld hx hb hX hbl hbA hS (hv 1 (by decide)) (by decide +kernel) ?_
  rw [← j3]
  refine law_V (d := 60) (y := y_M_trace) (n := 1) (c0 := 98) (ci := 12) (T := TX12) (N := 63) (as := [.int _]) (rest := [.int _]) hx hb hml hown hts hK j1 j5 j4 (by decide) (by decide) rfl rfl rfl k_M_trace v_M_trace w_1624 (by decide +kernel) rfl (Nat.le_of_ble_eq_true rfl) hk hP hS hl.1 ⟨by decide, by decide⟩ (fun r2 σ1 H locs hrt2 hk hP hS => ?_)
  obtain ⟨v2, rfl⟩ := (show ∃ v, r2 = some (.int v) from hrt2)
  refine lv_icmp_eq (tgt := 1379) (off := 54) hx hb (by decide +kernel) (by decide) (fun _ => ?_) (fun hne => absurd hk.1 hne)
  exact kk σ1 _ H locs ls hk.2 hLI hP hS hl
set_option maxHeartbeats 4000000 in
set_option maxRecDepth 20000 in
theorem law_many {p : Program} {l : Launch} {e : Env} {s : State} {m : MethodId} {below : List Frame} {meth : Method} {c : Code} {b L : Nat} {xs : Nat → Int32} {G : va_G} {t : T3} {Rel : Hp → Prop} {Q : State → Prop} {aS aM : Nat} {x3 : Int32} (C0 : lw_At p s m meth c b L xs) (hK : va_K G cls (tysA t) s) (hv : ∀ k : Nat, k < 6 → vp_in (x3 + nI k) L) (hO : O_many Rel) (σ : Hp) (ad : Nat → Nat) (H : Heap) (locs : List Loc) (ls : Array Slot) (hR : Rel σ) (hLI : LI s aS aM ad) (hP : va_P G cls (wsA t ad σ) H) (hS : va_S (fun q => s.heap.size ≤ q) s.heap H locs) (hl : lv_has ls 4 [(0, .ref b), (1, .ref aS), (2, .ref aM), (3, .int x3)]) (kk : ∀ (σ : Hp) (ad : Nat → Nat) (H : Heap) (locs : List Loc) (ls : Array Slot), Rel σ → LI s aS aM ad → va_P G cls (wsA t ad σ) H → va_S (fun q => s.heap.size ≤ q) s.heap H locs → lv_has ls 4 [(0, .ref b), (1, .ref aS), (2, .ref aM), (3, .int x3)] → W p l e room_1 s m #[Value.ref b] below meth c H locs 128 13160 Q (F0 m 1379 ls [])) : W p l e room_1 s m #[Value.ref b] below meth c H locs 128 13160 Q (F0 m 1330 ls []) := by
  obtain ⟨hx, hb, hr, hml, hown, hts0, hX, hbl, hlocks, hgv⟩ := C0
  have hts : ∀ w ∈ lw_good, w.before #[Value.ref b] s = true := fun w hw => hts0 w (lw_good_sub w hw)
  have hbA : ¬ (fun q : Nat => s.heap.size ≤ q) b := Nat.not_le.mpr hbl
  obtain ⟨j1, j2, j3, j4, j5⟩ := id hLI
  refine lv_aload_n (k := 1) hx hb (by decide +kernel) rfl (lv_at hl 1 rfl) ?_
  refine lv_aload_n (k := 0) hx hb (by decide +kernel) rfl (lv_at hl 0 rfl) ?_
  refine lv_iload_n (k := 3) hx hb (by decide +kernel) rfl (lv_at hl 3 rfl) ?_
  refine lv_iconst (n := 1) (v := nI 1) hx hb (by decide +kernel) (by decide) ?_
  refine lv_iadd hx hb (by decide +kernel) ?_
  refine va_sld hx hb hX hbl hbA hS (hv 1 (by decide)) (by decide +kernel) ?_
  rw [← j2]
  refine law_V (d := 60) (y := y_SS_many) (n := 1) (c0 := 0) (ci := 11) (T := TX11) (N := 20) (as := [.int _]) (rest := []) hx hb hml hown hts hK j1 j5 j4 (by decide) (by decide) rfl rfl rfl k_SS_many v_SS_many w_994 (by decide +kernel) rfl (Nat.le_of_ble_eq_true rfl) (hO σ _ hR) hP hS hl.1 ⟨by decide, by decide⟩ (fun r1 σ1 H locs hrt1 hk hP hS => ?_)
  obtain ⟨v1, rfl⟩ := (show ∃ v, r1 = some (.int v) from hrt1)
  refine lv_aload_n (k := 2) hx hb (by decide +kernel) rfl (lv_at hl 2 rfl) ?_
  refine lv_aload_n (k := 0) hx hb (by decide +kernel) rfl (lv_at hl 0 rfl) ?_
  refine lv_iload_n (k := 3) hx hb (by decide +kernel) rfl (lv_at hl 3 rfl) ?_
  refine lv_iconst (n := 1) (v := nI 1) hx hb (by decide +kernel) (by decide) ?_
  refine lv_iadd hx hb (by decide +kernel) ?_
  refine va_sld hx hb hX hbl hbA hS (hv 1 (by decide)) (by decide +kernel) ?_
  rw [← j3]
  refine law_V (d := 60) (y := y_M_many) (n := 1) (c0 := 98) (ci := 12) (T := TX12) (N := 63) (as := [.int _]) (rest := [.int _]) hx hb hml hown hts hK j1 j5 j4 (by decide) (by decide) rfl rfl rfl k_M_many v_M_many w_1628 (by decide +kernel) rfl (Nat.le_of_ble_eq_true rfl) hk hP hS hl.1 ⟨by decide, by decide⟩ (fun r2 σ1 H locs hrt2 hk hP hS => ?_)
  obtain ⟨v2, rfl⟩ := (show ∃ v, r2 = some (.int v) from hrt2)
  refine lv_icmp_eq (tgt := 1379) (off := 31) hx hb (by decide +kernel) (by decide) (fun _ => ?_) (fun hne => absurd hk.1 hne)
  exact kk σ1 _ H locs ls hk.2 hLI hP hS hl
set_option maxHeartbeats 4000000 in
set_option maxRecDepth 20000 in
theorem law_keep {p : Program} {l : Launch} {e : Env} {s : State} {m : MethodId} {below : List Frame} {meth : Method} {c : Code} {b L : Nat} {xs : Nat → Int32} {G : va_G} {t : T3} {Rel : Hp → Prop} {Q : State → Prop} {aS aM : Nat} {x3 : Int32} (C0 : lw_At p s m meth c b L xs) (hK : va_K G cls (tysA t) s) (hv : ∀ k : Nat, k < 6 → vp_in (x3 + nI k) L) (hO : O_keep Rel) (σ : Hp) (ad : Nat → Nat) (H : Heap) (locs : List Loc) (ls : Array Slot) (hR : Rel σ) (hLI : LI s aS aM ad) (hP : va_P G cls (wsA t ad σ) H) (hS : va_S (fun q => s.heap.size ≤ q) s.heap H locs) (hl : lv_has ls 4 [(0, .ref b), (1, .ref aS), (2, .ref aM), (3, .int x3)]) (kk : ∀ (σ : Hp) (ad : Nat → Nat) (H : Heap) (locs : List Loc) (ls : Array Slot), Rel σ → LI s aS aM ad → va_P G cls (wsA t ad σ) H → va_S (fun q => s.heap.size ≤ q) s.heap H locs → lv_has ls 4 [(0, .ref b), (1, .ref aS), (2, .ref aM), (3, .int x3)] → W p l e room_1 s m #[Value.ref b] below meth c H locs 128 13160 Q (F0 m 1379 ls [])) : W p l e room_1 s m #[Value.ref b] below meth c H locs 128 13160 Q (F0 m 1353 ls []) := by
  obtain ⟨hx, hb, hr, hml, hown, hts0, hX, hbl, hlocks, hgv⟩ := C0
  have hts : ∀ w ∈ lw_good, w.before #[Value.ref b] s = true := fun w hw => hts0 w (lw_good_sub w hw)
  have hbA : ¬ (fun q : Nat => s.heap.size ≤ q) b := Nat.not_le.mpr hbl
  obtain ⟨j1, j2, j3, j4, j5⟩ := id hLI
  refine lv_aload_n (k := 1) hx hb (by decide +kernel) rfl (lv_at hl 1 rfl) ?_
  rw [← j2]
  refine law_V (d := 60) (y := y_SS_keep) (n := 0) (c0 := 0) (ci := 11) (T := TX11) (N := 20) (as := []) (rest := []) hx hb hml hown hts hK j1 j5 j4 (by decide) (by decide) rfl rfl rfl k_SS_keep v_SS_keep w_998 (by decide +kernel) rfl (Nat.le_of_ble_eq_true rfl) (hO σ  hR) hP hS hl.1 ⟨by decide, by decide⟩ (fun r1 σ1 H locs hrt1 hk hP hS => ?_)
  obtain ⟨v1, rfl⟩ := (show ∃ v, r1 = some (.int v) from hrt1)
  refine lv_aload_n (k := 2) hx hb (by decide +kernel) rfl (lv_at hl 2 rfl) ?_
  rw [← j3]
  refine law_V (d := 60) (y := y_M_keep) (n := 0) (c0 := 98) (ci := 12) (T := TX12) (N := 63) (as := []) (rest := [.int _]) hx hb hml hown hts hK j1 j5 j4 (by decide) (by decide) rfl rfl rfl k_M_keep v_M_keep w_1632 (by decide +kernel) rfl (Nat.le_of_ble_eq_true rfl) hk hP hS hl.1 ⟨by decide, by decide⟩ (fun r2 σ1 H locs hrt2 hk hP hS => ?_)
  obtain ⟨v2, rfl⟩ := (show ∃ v, r2 = some (.int v) from hrt2)
  refine lv_icmp_eq (tgt := 1379) (off := 18) hx hb (by decide +kernel) (by decide) (fun _ => ?_) (fun hne => absurd hk.1 hne)
  exact kk σ1 _ H locs ls hk.2 hLI hP hS hl
set_option maxHeartbeats 4000000 in
set_option maxRecDepth 20000 in
theorem law_back {p : Program} {l : Launch} {e : Env} {s : State} {m : MethodId} {below : List Frame} {meth : Method} {c : Code} {b L : Nat} {xs : Nat → Int32} {G : va_G} {t : T3} {Rel : Hp → Prop} {Q : State → Prop} {aS aM : Nat} {x3 : Int32} (C0 : lw_At p s m meth c b L xs) (hK : va_K G cls (tysA t) s) (hv : ∀ k : Nat, k < 6 → vp_in (x3 + nI k) L) (hO : O_back Rel) (σ : Hp) (ad : Nat → Nat) (H : Heap) (locs : List Loc) (ls : Array Slot) (hR : Rel σ) (hLI : LI s aS aM ad) (hP : va_P G cls (wsA t ad σ) H) (hS : va_S (fun q => s.heap.size ≤ q) s.heap H locs) (hl : lv_has ls 4 [(0, .ref b), (1, .ref aS), (2, .ref aM), (3, .int x3)]) (kk : ∀ (σ : Hp) (ad : Nat → Nat) (H : Heap) (locs : List Loc) (ls : Array Slot), Rel σ → LI s aS aM ad → va_P G cls (wsA t ad σ) H → va_S (fun q => s.heap.size ≤ q) s.heap H locs → lv_has ls 4 [(0, .ref b), (1, .ref aS), (2, .ref aM), (3, .int x3)] → W p l e room_1 s m #[Value.ref b] below meth c H locs 128 13160 Q (F0 m 1379 ls [])) : W p l e room_1 s m #[Value.ref b] below meth c H locs 128 13160 Q (F0 m 1366 ls []) := by
  obtain ⟨hx, hb, hr, hml, hown, hts0, hX, hbl, hlocks, hgv⟩ := C0
  have hts : ∀ w ∈ lw_good, w.before #[Value.ref b] s = true := fun w hw => hts0 w (lw_good_sub w hw)
  have hbA : ¬ (fun q : Nat => s.heap.size ≤ q) b := Nat.not_le.mpr hbl
  obtain ⟨j1, j2, j3, j4, j5⟩ := id hLI
  refine lv_aload_n (k := 1) hx hb (by decide +kernel) rfl (lv_at hl 1 rfl) ?_
  rw [← j2]
  refine law_V (d := 60) (y := y_SS_back) (n := 0) (c0 := 0) (ci := 11) (T := TX11) (N := 20) (as := []) (rest := []) hx hb hml hown hts hK j1 j5 j4 (by decide) (by decide) rfl rfl rfl k_SS_back v_SS_back w_1007 (by decide +kernel) rfl (Nat.le_of_ble_eq_true rfl) (hO σ  hR) hP hS hl.1 ⟨by decide, by decide⟩ (fun r1 σ1 H locs hrt1 hk hP hS => ?_)
  obtain ⟨v1, rfl⟩ := (show ∃ v, r1 = some (.int v) from hrt1)
  refine lv_aload_n (k := 2) hx hb (by decide +kernel) rfl (lv_at hl 2 rfl) ?_
  rw [← j3]
  refine law_V (d := 60) (y := y_M_back) (n := 0) (c0 := 98) (ci := 12) (T := TX12) (N := 63) (as := []) (rest := [.int _]) hx hb hml hown hts hK j1 j5 j4 (by decide) (by decide) rfl rfl rfl k_M_back v_M_back w_1644 (by decide +kernel) rfl (Nat.le_of_ble_eq_true rfl) hk hP hS hl.1 ⟨by decide, by decide⟩ (fun r2 σ1 H locs hrt2 hk hP hS => ?_)
  obtain ⟨v2, rfl⟩ := (show ∃ v, r2 = some (.int v) from hrt2)
  refine lv_icmp_eq (tgt := 1379) (off := 5) hx hb (by decide +kernel) (by decide) (fun _ => ?_) (fun hne => absurd hk.1 hne)
  exact kk σ1 _ H locs ls hk.2 hLI hP hS hl
