def law_offs : Array Int := #[163, 226, 239, 262, 285, 318, 341, 374, 407, 430, 443, 476, 519, 543, 566, 589, 602, 635, 658, 691, 744, 807, 841, 904, 927, 960, 1003, 1026, 1069, 1112, 1155, 1198, 1231, 1274, 1297, 1320, 1333]
theorem law_dec : decode code 33 = .ok (.tableswitch 1346 0 36 law_offs, 163) := by decide +kernel
def law_I (s : State) (b aS aM : Nat) (G : va_G) (t : T3) (Rel : Hp → Prop) (x3 : Int32) (σ : Hp) (ad : Nat → Nat) (H : Heap) (locs : List Loc) (ls : Array Slot) : Prop := Rel σ ∧ LI s aS aM ad ∧ va_P G cls (wsA t ad σ) H ∧ va_S (fun q => s.heap.size ≤ q) s.heap H locs ∧ lv_has ls 4 [(0, .ref b), (1, .ref aS), (2, .ref aM), (3, .int x3)]
set_option maxHeartbeats 2000000 in
set_option maxRecDepth 20000 in
theorem law_sw {p : Program} {l : Launch} {e : Env} {s : State} {m : MethodId} {below : List Frame} {meth : Method} {c : Code} {b L : Nat} {xs : Nat → Int32} {G : va_G} {t : T3} {Rel : Hp → Prop} {Q : State → Prop} {aS aM : Nat} {x3 : Int32} (C0 : lw_At p s m meth c b L xs) (hK : va_K G cls (tysA t) s) (hv : ∀ k : Nat, k < 6 → vp_in (x3 + nI k) L) (hO : OPS Rel) (σ : Hp) (ad : Nat → Nat) (H : Heap) (locs : List Loc) (ls : Array Slot) (hI : law_I s b aS aM G t Rel x3 σ ad H locs ls)
    (kk : ∀ (σ : Hp) (ad : Nat → Nat) (H : Heap) (locs : List Loc) (ls : Array Slot), law_I s b aS aM G t Rel x3 σ ad H locs ls → W p l e room_1 s m #[Value.ref b] below meth c H locs 128 13160 Q (F0 m 1379 ls [])) (j : Nat) (hj : j < 64) : W p l e room_1 s m #[Value.ref b] below meth c H locs 128 13160 Q (F0 m 33 ls [.int (nI j)]) := by
  obtain ⟨hR, hLI, hP, hS, hl⟩ := hI
  have kk' : ∀ (σ : Hp) (ad : Nat → Nat) (H : Heap) (locs : List Loc) (ls : Array Slot), Rel σ → LI s aS aM ad → va_P G cls (wsA t ad σ) H → va_S (fun q => s.heap.size ≤ q) s.heap H locs → lv_has ls 4 [(0, .ref b), (1, .ref aS), (2, .ref aM), (3, .int x3)] → W p l e room_1 s m #[Value.ref b] below meth c H locs 128 13160 Q (F0 m 1379 ls []) := fun σ ad H locs ls a1 a2 a3 a4 a5 => kk σ ad H locs ls ⟨a1, a2, a3, a4, a5⟩
  have hx := C0.1
  have hb := C0.2.1
  have hi : (nI j).toInt = (j : Int) := nI_toInt (by omega)
  by_cases h37 : 36 < j
  · exact lv_tableOut (tgt := 1379) hx hb law_dec (by right; rw [hi]; omega) (by decide) (kk' σ ad H locs ls hR hLI hP hS hl)
  · have hin : ∀ (off : Int) (tgt : Nat), law_offs[j]? = some off → (33 : Int) + off = (tgt : Int) → W p l e room_1 s m #[Value.ref b] below meth c H locs 128 13160 Q (F0 m tgt ls []) → W p l e room_1 s m #[Value.ref b] below meth c H locs 128 13160 Q (F0 m 33 ls [.int (nI j)]) := fun off tgt h1 h2 h3 => lv_tableIn (off := off) (tgt := tgt) hx hb law_dec (by rw [hi]; omega) (by rw [hi]; omega) (by rw [hi, show ((j : Int) - 0).toNat = j from by omega]; exact h1) h2 h3
    obtain ⟨o0, o1, o2, o3, o4, o5, o6, o7, o8, o9, o10, o11, o12, o13, o14, o15, o16, o17, o18, o19, o20, o21, o22, o23, o24, o25, o26, o27, o28, o29, o30, o31, o32, o33, o34, o35, o36⟩ := hO
    match j, h37 with
    | 0, _ => exact hin 163 196 rfl rfl (law_feed C0 hK hv o0 σ ad H locs ls hR hLI hP hS hl kk')
    | 1, _ => exact hin 226 259 rfl rfl (law_read C0 hK hv o1 σ ad H locs ls hR hLI hP hS hl kk')
    | 2, _ => exact hin 239 272 rfl rfl (law_fault C0 hK hv o2 σ ad H locs ls hR hLI hP hS hl kk')
    | 3, _ => exact hin 262 295 rfl rfl (law_named C0 hK hv o3 σ ad H locs ls hR hLI hP hS hl kk')
    | 4, _ => exact hin 285 318 rfl rfl (law_thing C0 hK hv o4 σ ad H locs ls hR hLI hP hS hl kk')
    | 5, _ => exact hin 318 351 rfl rfl (law_value C0 hK hv o5 σ ad H locs ls hR hLI hP hS hl kk')
    | 6, _ => exact hin 341 374 rfl rfl (law_at C0 hK hv o6 σ ad H locs ls hR hLI hP hS hl kk')
    | 7, _ => exact hin 374 407 rfl rfl (law_flow C0 hK hv o7 σ ad H locs ls hR hLI hP hS hl kk')
    | 8, _ => exact hin 407 440 rfl rfl (law_run C0 hK hv o8 σ ad H locs ls hR hLI hP hS hl kk')
    | 9, _ => exact hin 430 463 rfl rfl (law_begin C0 hK hv o9 σ ad H locs ls hR hLI hP hS hl kk')
    | 10, _ => exact hin 443 476 rfl rfl (law_change C0 hK hv o10 σ ad H locs ls hR hLI hP hS hl kk')
    | 11, _ => exact hin 476 509 rfl rfl (law_event C0 hK hv o11 σ ad H locs ls hR hLI hP hS hl kk')
    | 12, _ => exact hin 519 552 rfl rfl (law_sum C0 hK hv o12 σ ad H locs ls hR hLI hP hS hl kk')
    | 13, _ => exact hin 543 576 rfl rfl (law_moves C0 hK hv o13 σ ad H locs ls hR hLI hP hS hl kk')
    | 14, _ => exact hin 566 599 rfl rfl (law_reached C0 hK hv o14 σ ad H locs ls hR hLI hP hS hl kk')
    | 15, _ => exact hin 589 622 rfl rfl (law_rings C0 hK hv o15 σ ad H locs ls hR hLI hP hS hl kk')
    | 16, _ => exact hin 602 635 rfl rfl (law_ring C0 hK hv o16 σ ad H locs ls hR hLI hP hS hl kk')
    | 17, _ => exact hin 635 668 rfl rfl (law_rest C0 hK hv o17 σ ad H locs ls hR hLI hP hS hl kk')
    | 18, _ => exact hin 658 691 rfl rfl (law_swing C0 hK hv o18 σ ad H locs ls hR hLI hP hS hl kk')
    | 19, _ => exact hin 691 724 rfl rfl (law_pull C0 hK hv o19 σ ad H locs ls hR hLI hP hS hl kk')
    | 20, _ => exact hin 744 777 rfl rfl (law_best C0 hK hv o20 σ ad H locs ls hR hLI hP hS hl kk')
    | 21, _ => exact hin 807 840 rfl rfl (law_miss C0 hK hv o21 σ ad H locs ls hR hLI hP hS hl kk')
    | 22, _ => exact hin 841 874 rfl rfl (law_fit C0 hK hv o22 σ ad H locs ls hR hLI hP hS hl kk')
    | 23, _ => exact hin 904 937 rfl rfl (law_prove C0 hK hv o23 σ ad H locs ls hR hLI hP hS hl kk')
    | 24, _ => exact hin 927 960 rfl rfl (law_row C0 hK hv o24 σ ad H locs ls hR hLI hP hS hl kk')
    | 25, _ => exact hin 960 993 rfl rfl (law_alterRow C0 hK hv o25 σ ad H locs ls hR hLI hP hS hl kk')
    | 26, _ => exact hin 1003 1036 rfl rfl (law_judge C0 hK hv o26 σ ad H locs ls hR hLI hP hS hl kk')
    | 27, _ => exact hin 1026 1059 rfl rfl (law_sheet C0 hK hv o27 σ ad H locs ls hR hLI hP hS hl kk')
    | 28, _ => exact hin 1069 1102 rfl rfl (law_put C0 hK hv o28 σ ad H locs ls hR hLI hP hS hl kk')
    | 29, _ => exact hin 1112 1145 rfl rfl (law_item C0 hK hv o29 σ ad H locs ls hR hLI hP hS hl kk')
    | 30, _ => exact hin 1155 1188 rfl rfl (law_shelf C0 hK hv o30 σ ad H locs ls hR hLI hP hS hl kk')
    | 31, _ => exact hin 1198 1231 rfl rfl (law_taken C0 hK hv o31 σ ad H locs ls hR hLI hP hS hl kk')
    | 32, _ => exact hin 1231 1264 rfl rfl (law_act C0 hK hv o32 σ ad H locs ls hR hLI hP hS hl kk')
    | 33, _ => exact hin 1274 1307 rfl rfl (law_trace C0 hK hv o33 σ ad H locs ls hR hLI hP hS hl kk')
    | 34, _ => exact hin 1297 1330 rfl rfl (law_many C0 hK hv o34 σ ad H locs ls hR hLI hP hS hl kk')
    | 35, _ => exact hin 1320 1353 rfl rfl (law_keep C0 hK hv o35 σ ad H locs ls hR hLI hP hS hl kk')
    | 36, _ => exact hin 1333 1366 rfl rfl (law_back C0 hK hv o36 σ ad H locs ls hR hLI hP hS hl kk')
    | j + 37, h => exact absurd (by omega) h
set_option maxHeartbeats 2000000 in
set_option maxRecDepth 20000 in
theorem law_loop {p : Program} {l : Launch} {e : Env} {s : State} {m : MethodId} {below : List Frame} {meth : Method} {c : Code} {b L : Nat} {xs : Nat → Int32} {G : va_G} {t : T3} {Rel : Hp → Prop} {Q : State → Prop} {aS aM : Nat} (hL : L ≤ 384) (C0 : lw_At p s m meth c b L xs) (hK : va_K G cls (tysA t) s) (hO : OPS Rel)
    (kk : ∀ (σ : Hp) (ad : Nat → Nat) (H : Heap) (locs : List Loc) (ls : Array Slot), va_S (fun q => s.heap.size ≤ q) s.heap H locs → W p l e room_1 s m #[Value.ref b] below meth c H locs 128 13160 Q (F0 m 1385 ls [])) : ∀ (n i : Nat), L < i + n → i < 1000 → ∀ (σ : Hp) (ad : Nat → Nat) (H : Heap) (locs : List Loc) (ls : Array Slot), law_I s b aS aM G t Rel (nI i) σ ad H locs ls → W p l e room_1 s m #[Value.ref b] below meth c H locs 128 13160 Q (F0 m 18 ls []) := by
  obtain ⟨hx, hb, hr, hml, hown, hts0, hX, hbl, hlocks, hgv⟩ := id C0
  have hbA : ¬ (fun q : Nat => s.heap.size ≤ q) b := Nat.not_le.mpr hbl
  intro n
  induction n with
  | zero =>
    intro i h1 h2 σ ad H locs ls hI
    obtain ⟨hR, hLI, hP, hS, hl⟩ := id hI
    refine lv_iload_n (k := 3) hx hb (by decide +kernel) rfl (lv_at hl 3 rfl) ?_
    refine lv_aload_n (k := 0) hx hb (by decide +kernel) rfl (lv_at hl 0 rfl) ?_
    refine va_slen hx hb hX hbl hbA hS (by decide +kernel) ?_
    refine lv_bipush (n := 6) (v := nI 6) hx hb (by decide +kernel) (by decide +kernel) ?_
    refine lv_isub hx hb (by decide +kernel) ?_
    refine lv_icmp_gt (tgt := 1385) (off := 1361) hx hb (by decide +kernel) (by decide) (fun _ => kk σ ad H locs ls hS) (fun h => absurd ?_ h)
    rw [Int32.lt_iff_toInt_lt, show (Int32.ofNat L - nI 6).toInt = (L : Int) - (6 : Nat) from pk_sub_toInt (by omega) (by omega), nI_toInt (by omega)]
    omega
  | succ n ih =>
    intro i h1 h2 σ ad H locs ls hI
    obtain ⟨hR, hLI, hP, hS, hl⟩ := id hI
    refine lv_iload_n (k := 3) hx hb (by decide +kernel) rfl (lv_at hl 3 rfl) ?_
    refine lv_aload_n (k := 0) hx hb (by decide +kernel) rfl (lv_at hl 0 rfl) ?_
    refine va_slen hx hb hX hbl hbA hS (by decide +kernel) ?_
    refine lv_bipush (n := 6) (v := nI 6) hx hb (by decide +kernel) (by decide +kernel) ?_
    refine lv_isub hx hb (by decide +kernel) ?_
    refine lv_icmp_gt (tgt := 1385) (off := 1361) hx hb (by decide +kernel) (by decide) (fun _ => kk σ ad H locs ls hS) (fun h => ?_)
    rw [Int32.lt_iff_toInt_lt, show (Int32.ofNat L - nI 6).toInt = (L : Int) - (6 : Nat) from pk_sub_toInt (by omega) (by omega), nI_toInt (by omega)] at h
    have h6 : i + 6 ≤ L := by omega
    have hv : ∀ k : Nat, k < 6 → vp_in (nI i + nI k) L := fun k hk => by rw [nI_add]; exact vp_in_nI (by omega) (by omega)
    refine lv_aload_n (k := 0) hx hb (by decide +kernel) rfl (lv_at hl 0 rfl) ?_
    refine lv_iload_n (k := 3) hx hb (by decide +kernel) rfl (lv_at hl 3 rfl) ?_
    refine va_sld hx hb hX hbl hbA hS (vp_in_nI (by omega) (by omega)) (by decide +kernel) ?_
    refine lv_bipush (n := 63) (v := 63) hx hb (by decide +kernel) (by decide +kernel) ?_
    refine lv_iand hx hb (by decide +kernel) ?_
    obtain ⟨j, hj, ej⟩ := pk_andE (xs (nI i).toNatClampNeg) (m := 63) 6 (by decide)
    rw [ej]
    refine law_sw C0 hK hv hO σ ad H locs ls hI (fun σ ad H locs ls hI => ?_) j hj
    obtain ⟨hR, hLI, hP, hS, hl⟩ := hI
    refine lv_iinc (k := 3) (n := 6) (v := nI (i + 6)) (lv' := [(3, .int (nI (i + 6))), (0, .ref b), (1, .ref aS), (2, .ref aM)]) hx hb (by decide +kernel) hl rfl (nI_add i 6) (by decide) rfl (fun ls hl => ?_)
    refine lv_goto (tgt := 18) (off := -1364) hx hb (by decide +kernel) (by decide) ?_
    exact ih (i + 6) (by omega) (by omega) σ ad H locs ls ⟨hR, hLI, hP, hS, hl.1, hl.2.1, fun q hq => hl.2.2 q (by simp only [List.mem_cons, List.not_mem_nil, or_false] at hq ⊢; rcases hq with h | h | h | h <;> simp [h])⟩
