/-! ===== rows over the heap ===== -/
theorem n_gI {mi : MI} {cc : ByteArray} {own : String} {nL : Nat} {rt : Option FieldType} {pc : Nat} {C : String} {T : u_T} {ci k i : Nat} (hd : decode cc pc = .ok (.getfield i, 3)) (hc : cls[ci]? = some (C, T, nf ci)) (hin : ∀ w ∈ u_ws C T (nf ci), w ∈ lw_good) (h13 : Nat.ble 13 ci = false) (hk : k < nf ci) (hf : ft ci k = 0) (hw : Cond.fieldLink own i (T k).1 (T k).2.1 (T k).2.2.1 ∈ lw_good) : SndI mi cc own nL rt (i_gI ci k (pc + 3)) pc := by
  refine ⟨m_gI _ _ _, ?_⟩
  intro p l e R s m args below meth c G t ad d Qc F call hcall Q hQ X hX lv st σ h H locs ls hP hS hl
  obtain ⟨hx, hb, hml, hr, hlocks, hown, hts, hK, hJ, hst, hfr, hlo⟩ := F
  unfold i_gI at h
  split at h
  · rename_i q st'
    cases hq : Nat.beq (kd q) ci with
    | false => rw [hq] at h; exact h.elim
    | true =>
      rw [hq] at h
      have hlt : q < 128 := kd_lt hq (by cases h9 : Nat.beq ci 99 with | false => rfl | true => rw [Nat.eq_of_beq_eq_true h9] at h13; cases h13)
      refine va_get (D := G) (ci := ci) (C := C) (T := T) (N := nf ci) hx hb hts hin hown hK hP q (by rw [ws_get hlt, cel_o hq h13]) hc k hk (hts _ hw) (fun _ h9 => h9) (v := .int (σ.1 q k)) (by rw [fs_get hk]; unfold fv; rw [hf]) hd ?_
      exact hX _ _ h H locs ls hP hS hl
  · exact h.elim
theorem n_gL {mi : MI} {cc : ByteArray} {own : String} {nL : Nat} {rt : Option FieldType} {pc : Nat} {C : String} {T : u_T} {ci k i : Nat} (hd : decode cc pc = .ok (.getfield i, 3)) (hc : cls[ci]? = some (C, T, nf ci)) (hin : ∀ w ∈ u_ws C T (nf ci), w ∈ lw_good) (h13 : Nat.ble 13 ci = false) (hk : k < nf ci) (hf : ft ci k = 1) (hw : Cond.fieldLink own i (T k).1 (T k).2.1 (T k).2.2.1 ∈ lw_good) : SndI mi cc own nL rt (i_gL ci k (pc + 3)) pc := by
  refine ⟨m_gL _ _ _, ?_⟩
  intro p l e R s m args below meth c G t ad d Qc F call hcall Q hQ X hX lv st σ h H locs ls hP hS hl
  obtain ⟨hx, hb, hml, hr, hlocks, hown, hts, hK, hJ, hst, hfr, hlo⟩ := F
  unfold i_gL at h
  split at h
  · rename_i q st'
    cases hq : Nat.beq (kd q) ci with
    | false => rw [hq] at h; exact h.elim
    | true =>
      rw [hq] at h
      have hlt : q < 128 := kd_lt hq (by cases h9 : Nat.beq ci 99 with | false => rfl | true => rw [Nat.eq_of_beq_eq_true h9] at h13; cases h13)
      refine va_get (D := G) (ci := ci) (C := C) (T := T) (N := nf ci) hx hb hts hin hown hK hP q (by rw [ws_get hlt, cel_o hq h13]) hc k hk (hts _ hw) (fun _ h9 => h9) (v := .long (σ.2 q k)) (by rw [fs_get hk]; unfold fv; rw [hf]) hd ?_
      exact hX _ _ h H locs ls hP hS hl
  · exact h.elim
theorem n_gA {mi : MI} {cc : ByteArray} {own : String} {nL : Nat} {rt : Option FieldType} {pc : Nat} {C : String} {T : u_T} {ci k i o : Nat} (hd : decode cc pc = .ok (.getfield i, 3)) (hc : cls[ci]? = some (C, T, nf ci)) (hin : ∀ w ∈ u_ws C T (nf ci), w ∈ lw_good) (h13 : Nat.ble 13 ci = false) (hk : k < nf ci) (hf : ft ci k = o + 2) (hw : Cond.fieldLink own i (T k).1 (T k).2.1 (T k).2.2.1 ∈ lw_good) : SndI mi cc own nL rt (i_gA ci k o (pc + 3)) pc := by
  refine ⟨m_gA _ _ _ _, ?_⟩
  intro p l e R s m args below meth c G t ad d Qc F call hcall Q hQ X hX lv st σ h H locs ls hP hS hl
  obtain ⟨hx, hb, hml, hr, hlocks, hown, hts, hK, hJ, hst, hfr, hlo⟩ := F
  unfold i_gA at h
  split at h
  · rename_i q st'
    cases hq : Nat.beq (kd q) ci with
    | false => rw [hq] at h; exact h.elim
    | true =>
      rw [hq] at h
      have hlt : q < 128 := kd_lt hq (by cases h9 : Nat.beq ci 99 with | false => rfl | true => rw [Nat.eq_of_beq_eq_true h9] at h13; cases h13)
      refine va_get (D := G) (ci := ci) (C := C) (T := T) (N := nf ci) hx hb hts hin hown hK hP q (by rw [ws_get hlt, cel_o hq h13]) hc k hk (hts _ hw) (fun _ h9 => h9) (v := .ref (ad (q + o))) (by rw [fs_get hk]; unfold fv; rw [hf]) hd ?_
      exact hX _ _ h H locs ls hP hS hl
  · exact h.elim
theorem n_fI {mi : MI} {cc : ByteArray} {own : String} {nL : Nat} {rt : Option FieldType} {pc : Nat} {C : String} {T : u_T} {ci k i : Nat} (hd : decode cc pc = .ok (.putfield i, 3)) (hc : cls[ci]? = some (C, T, nf ci)) (hin : ∀ w ∈ u_ws C T (nf ci), w ∈ lw_good) (h13 : Nat.ble 13 ci = false) (ty0 : Nat → FieldType) (hty : ∀ k, k < nf ci → parseFieldDescriptor (T k).2.2.1 = some (ty0 k)) (hnm : ∀ a, a < nf ci → ∀ b, b < nf ci → a ≠ b → (T a).2.1 ≠ (T b).2.1) (hk : k < nf ci) (hf : ft ci k = 0) (hw : Cond.fieldLink own i (T k).1 (T k).2.1 (T k).2.2.1 ∈ lw_good) (hfin : (T k).2.2.2 = false) (hpt : parseFieldDescriptor (T k).2.2.1 = some .int) : SndI mi cc own nL rt (i_fI ci k (pc + 3)) pc := by
  refine ⟨m_fI _ _ _, ?_⟩
  intro p l e R s m args below meth c G t ad d Qc F call hcall Q hQ X hX lv st σ h H locs ls hP hS hl
  obtain ⟨hx, hb, hml, hr, hlocks, hown, hts, hK, hJ, hst, hfr, hlo⟩ := F
  unfold i_fI at h
  split at h
  · rename_i v q st'
    cases hq : Nat.beq (kd q) ci with
    | false => rw [hq] at h; exact h.elim
    | true =>
      rw [hq] at h
      have hlt : q < 128 := kd_lt hq (by cases h9 : Nat.beq ci 99 with | false => rfl | true => rw [Nat.eq_of_beq_eq_true h9] at h13; cases h13)
      refine va_put (D := G) (ci := ci) (v := .int v) (ty := .int) (C := C) (T := T) (N := nf ci) hx hb hts hin ty0 hty hnm hown hK hP (va_Dws hJ) hS q (by rw [ws_get hlt, cel_o hq h13]) hc k hk (hts _ hw) (fun _ h9 => h9) hfin hpt rfl rfl (by simp [hk]) hd (fun H1 locs1 hP1 hD1 hS1 => ?_)
      rw [ws_fI hq h13 hk hf] at hP1
      exact hX _ _ h H1 locs1 ls hP1 hS1 hl
  · exact h.elim
theorem vb_nar {v : Int32} (h : vb v) : narrow .boolean (.int v) = .int v := by rcases h with rfl | rfl <;> rfl
theorem vb_fit {v : Int32} (h : vb v) : fits .boolean (.int v) = true := by rcases h with rfl | rfl <;> rfl
theorem n_fZ {mi : MI} {cc : ByteArray} {own : String} {nL : Nat} {rt : Option FieldType} {pc : Nat} {C : String} {T : u_T} {ci k i : Nat} (hd : decode cc pc = .ok (.putfield i, 3)) (hc : cls[ci]? = some (C, T, nf ci)) (hin : ∀ w ∈ u_ws C T (nf ci), w ∈ lw_good) (h13 : Nat.ble 13 ci = false) (ty0 : Nat → FieldType) (hty : ∀ k, k < nf ci → parseFieldDescriptor (T k).2.2.1 = some (ty0 k)) (hnm : ∀ a, a < nf ci → ∀ b, b < nf ci → a ≠ b → (T a).2.1 ≠ (T b).2.1) (hk : k < nf ci) (hf : ft ci k = 0) (hw : Cond.fieldLink own i (T k).1 (T k).2.1 (T k).2.2.1 ∈ lw_good) (hfin : (T k).2.2.2 = false) (hpt : parseFieldDescriptor (T k).2.2.1 = some .boolean) : SndI mi cc own nL rt (i_fZ ci k (pc + 3)) pc := by
  refine ⟨m_fZ _ _ _, ?_⟩
  intro p l e R s m args below meth c G t ad d Qc F call hcall Q hQ X hX lv st σ h H locs ls hP hS hl
  obtain ⟨hx, hb, hml, hr, hlocks, hown, hts, hK, hJ, hst, hfr, hlo⟩ := F
  unfold i_fZ at h
  split at h
  · rename_i v q st'
    cases hq : Nat.beq (kd q) ci with
    | false => rw [hq] at h; exact h.elim
    | true =>
      rw [hq] at h
      have hlt : q < 128 := kd_lt hq (by cases h9 : Nat.beq ci 99 with | false => rfl | true => rw [Nat.eq_of_beq_eq_true h9] at h13; cases h13)
      refine va_put (D := G) (ci := ci) (v := .int v) (ty := .boolean) (C := C) (T := T) (N := nf ci) hx hb hts hin ty0 hty hnm hown hK hP (va_Dws hJ) hS q (by rw [ws_get hlt, cel_o hq h13]) hc k hk (hts _ hw) (fun _ h9 => h9) hfin hpt (vb_nar h.1) (vb_fit h.1) (by simp [hk]) hd (fun H1 locs1 hP1 hD1 hS1 => ?_)
      rw [ws_fI hq h13 hk hf] at hP1
      exact hX _ _ h.2 H1 locs1 ls hP1 hS1 hl
  · exact h.elim
theorem n_fL {mi : MI} {cc : ByteArray} {own : String} {nL : Nat} {rt : Option FieldType} {pc : Nat} {C : String} {T : u_T} {ci k i : Nat} (hd : decode cc pc = .ok (.putfield i, 3)) (hc : cls[ci]? = some (C, T, nf ci)) (hin : ∀ w ∈ u_ws C T (nf ci), w ∈ lw_good) (h13 : Nat.ble 13 ci = false) (ty0 : Nat → FieldType) (hty : ∀ k, k < nf ci → parseFieldDescriptor (T k).2.2.1 = some (ty0 k)) (hnm : ∀ a, a < nf ci → ∀ b, b < nf ci → a ≠ b → (T a).2.1 ≠ (T b).2.1) (hk : k < nf ci) (hf : ft ci k = 1) (hw : Cond.fieldLink own i (T k).1 (T k).2.1 (T k).2.2.1 ∈ lw_good) (hfin : (T k).2.2.2 = false) (hpt : parseFieldDescriptor (T k).2.2.1 = some .long) : SndI mi cc own nL rt (i_fL ci k (pc + 3)) pc := by
  refine ⟨m_fL _ _ _, ?_⟩
  intro p l e R s m args below meth c G t ad d Qc F call hcall Q hQ X hX lv st σ h H locs ls hP hS hl
  obtain ⟨hx, hb, hml, hr, hlocks, hown, hts, hK, hJ, hst, hfr, hlo⟩ := F
  unfold i_fL at h
  split at h
  · rename_i v q st'
    cases hq : Nat.beq (kd q) ci with
    | false => rw [hq] at h; exact h.elim
    | true =>
      rw [hq] at h
      have hlt : q < 128 := kd_lt hq (by cases h9 : Nat.beq ci 99 with | false => rfl | true => rw [Nat.eq_of_beq_eq_true h9] at h13; cases h13)
      refine va_put (D := G) (ci := ci) (v := .long v) (ty := .long) (C := C) (T := T) (N := nf ci) hx hb hts hin ty0 hty hnm hown hK hP (va_Dws hJ) hS q (by rw [ws_get hlt, cel_o hq h13]) hc k hk (hts _ hw) (fun _ h9 => h9) hfin hpt rfl rfl (by simp [hk]) hd (fun H1 locs1 hP1 hD1 hS1 => ?_)
      rw [ws_fL hq h13 hk hf] at hP1
      exact hX _ _ h H1 locs1 ls hP1 hS1 hl
  · exact h.elim
theorem n_ald {mi : MI} {cc : ByteArray} {own : String} {nL : Nat} {rt : Option FieldType} {pc : Nat} (hd : decode cc pc = .ok (.iaload, 1)) : SndI mi cc own nL rt (i_ald (pc + 1)) pc := by
  refine ⟨m_ald _, ?_⟩
  intro p l e R s m args below meth c G t ad d Qc F call hcall Q hQ X hX lv st σ h H locs ls hP hS hl
  obtain ⟨hx, hb, hml, hr, hlocks, hown, hts, hK, hJ, hst, hfr, hlo⟩ := F
  unfold i_ald at h
  split at h
  · rename_i v q st'
    cases hq : Nat.beq (kd q) 13 with
    | false => rw [hq] at h; exact h.elim
    | true =>
      rw [hq] at h
      have hlt : q < 128 := kd_lt hq rfl
      refine va_iald (D := G) hx hb hK hP q 0 (by rw [ws_get hlt, cel_i hq]) rfl h.1 hd ?_
      exact hX _ _ h.2 H locs ls hP hS hl
  · exact h.elim
theorem n_lald {mi : MI} {cc : ByteArray} {own : String} {nL : Nat} {rt : Option FieldType} {pc : Nat} (hd : decode cc pc = .ok (.laload, 1)) : SndI mi cc own nL rt (i_lald (pc + 1)) pc := by
  refine ⟨m_lald _, ?_⟩
  intro p l e R s m args below meth c G t ad d Qc F call hcall Q hQ X hX lv st σ h H locs ls hP hS hl
  obtain ⟨hx, hb, hml, hr, hlocks, hown, hts, hK, hJ, hst, hfr, hlo⟩ := F
  unfold i_lald at h
  split at h
  · rename_i v q st'
    cases hq : Nat.beq (kd q) 14 with
    | false => rw [hq] at h; exact h.elim
    | true =>
      rw [hq] at h
      have hlt : q < 128 := kd_lt hq rfl
      refine va_lald (D := G) hx hb hK hP q 1 (by rw [ws_get hlt, cel_l hq]) rfl h.1 hd ?_
      exact hX _ _ h.2 H locs ls hP hS hl
  · exact h.elim
theorem n_aald {mi : MI} {cc : ByteArray} {own : String} {nL : Nat} {rt : Option FieldType} {pc : Nat} (hd : decode cc pc = .ok (.aaload, 1)) : SndI mi cc own nL rt (i_aald (pc + 1)) pc := by
  refine ⟨m_aald _, ?_⟩
  intro p l e R s m args below meth c G t ad d Qc F call hcall Q hQ X hX lv st σ h H locs ls hP hS hl
  obtain ⟨hx, hb, hml, hr, hlocks, hown, hts, hK, hJ, hst, hfr, hlo⟩ := F
  unfold i_aald at h
  split at h
  · rename_i v q st'
    cases hq : Nat.beq (kd q) 15 with
    | false => rw [hq] at h; exact h.elim
    | true =>
      rw [hq] at h
      have hlt : q < 128 := kd_lt hq rfl
      refine va_aldq (D := G) hx hb hK hP q 2 (by rw [ws_get hlt, cel_q hq]) rfl h.1 hd ?_
      exact hX _ _ h.2 H locs ls hP hS hl
  · exact h.elim
theorem n_ast {mi : MI} {cc : ByteArray} {own : String} {nL : Nat} {rt : Option FieldType} {pc : Nat} (hd : decode cc pc = .ok (.iastore, 1)) : SndI mi cc own nL rt (i_ast (pc + 1)) pc := by
  refine ⟨m_ast _, ?_⟩
  intro p l e R s m args below meth c G t ad d Qc F call hcall Q hQ X hX lv st σ h H locs ls hP hS hl
  obtain ⟨hx, hb, hml, hr, hlocks, hown, hts, hK, hJ, hst, hfr, hlo⟩ := F
  unfold i_ast at h
  split at h
  · rename_i v i q st'
    cases hq : Nat.beq (kd q) 13 with
    | false => rw [hq] at h; exact h.elim
    | true =>
      rw [hq] at h
      have hlt : q < 128 := kd_lt hq rfl
      refine va_iast (D := G) hx hb hK hP (va_Dws hJ) hS q 0 (by rw [ws_get hlt, cel_i hq]) rfl h.1 hd (fun H1 locs1 hP1 hD1 hS1 => ?_)
      rw [ws_ai hq] at hP1
      exact hX _ _ h.2 H1 locs1 ls hP1 hS1 hl
  · exact h.elim
theorem n_last {mi : MI} {cc : ByteArray} {own : String} {nL : Nat} {rt : Option FieldType} {pc : Nat} (hd : decode cc pc = .ok (.lastore, 1)) : SndI mi cc own nL rt (i_last (pc + 1)) pc := by
  refine ⟨m_last _, ?_⟩
  intro p l e R s m args below meth c G t ad d Qc F call hcall Q hQ X hX lv st σ h H locs ls hP hS hl
  obtain ⟨hx, hb, hml, hr, hlocks, hown, hts, hK, hJ, hst, hfr, hlo⟩ := F
  unfold i_last at h
  split at h
  · rename_i v i q st'
    cases hq : Nat.beq (kd q) 14 with
    | false => rw [hq] at h; exact h.elim
    | true =>
      rw [hq] at h
      have hlt : q < 128 := kd_lt hq rfl
      refine va_last (D := G) hx hb hK hP (va_Dws hJ) hS q 1 (by rw [ws_get hlt, cel_l hq]) rfl h.1 hd (fun H1 locs1 hP1 hD1 hS1 => ?_)
      rw [ws_al hq] at hP1
      exact hX _ _ h.2 H1 locs1 ls hP1 hS1 hl
  · exact h.elim
theorem n_aln {mi : MI} {cc : ByteArray} {own : String} {nL : Nat} {rt : Option FieldType} {pc : Nat} (hd : decode cc pc = .ok (.arraylength, 1)) : SndI mi cc own nL rt (i_aln (pc + 1)) pc := by
  refine ⟨m_aln _, ?_⟩
  intro p l e R s m args below meth c G t ad d Qc F call hcall Q hQ X hX lv st σ h H locs ls hP hS hl
  obtain ⟨hx, hb, hml, hr, hlocks, hown, hts, hK, hJ, hst, hfr, hlo⟩ := F
  unfold i_aln at h
  split at h
  · rename_i q st'
    cases hq : Nat.beq (kd q) 13 with
    | true =>
      rw [hq] at h
      have hlt : q < 128 := kd_lt hq rfl
      refine va_alen (D := G) hx hb hK hP q 0 (by rw [ws_get hlt, cel_i hq]) rfl rfl hd ?_
      exact hX _ _ h H locs ls hP hS hl
    | false =>
      rw [hq] at h
      cases hq2 : Nat.beq (kd q) 14 with
      | true =>
        rw [hq2] at h
        have hlt : q < 128 := kd_lt hq2 rfl
        refine va_alen (D := G) hx hb hK hP q 1 (by rw [ws_get hlt, cel_l hq2]) rfl rfl hd ?_
        exact hX _ _ h H locs ls hP hS hl
      | false => rw [hq2] at h; exact h.elim
  · exact h.elim
theorem n_gsA {mi : MI} {cc : ByteArray} {own : String} {nL : Nat} {rt : Option FieldType} {pc : Nat} {i : Nat} (hd : decode cc pc = .ok (.getstatic i, 3)) (hw : Cond.fieldLink own i "StoreStreams" "ABOVE" "[I" ∈ lw_good) : SndI mi cc own nL rt (i_gs 129 (pc + 3)) pc := by
  refine ⟨m_gs _ _, ?_⟩
  intro p l e R s m args below meth c G t ad d Qc F call hcall Q hQ X hX lv st σ h H locs ls hP hS hl
  obtain ⟨hx, hb, hml, hr, hlocks, hown, hts, hK, hJ, hst, hfr, hlo⟩ := F
  exact va_gets hx hb hst.2.2.1 hS hown (hts _ hw) (fun _ h9 => h9) hd (hX _ _ h H locs ls hP hS hl)
theorem n_gsK {mi : MI} {cc : ByteArray} {nL : Nat} {rt : Option FieldType} {pc : Nat} (hd : decode cc pc = .ok (.getstatic 68, 3)) : SndI mi cc "StoreStreams$Scribe" nL rt (i_gs 128 (pc + 3)) pc := by
  refine ⟨m_gs _ _, ?_⟩
  intro p l e R s m args below meth c G t ad d Qc F call hcall Q hQ X hX lv st σ h H locs ls hP hS hl
  obtain ⟨hx, hb, hml, hr, hlocks, hown, hts, hK, hJ, hst, hfr, hlo⟩ := F
  exact va_getsN hx hb hst.1 hS hown (va_Nw.use rfl hst.2.2.2.2) (fun _ h9 => h9) hd (hX _ _ h H locs ls hP hS hl)
theorem st_T {A : Nat → Prop} {ad : Nat → Nat} {U : State} {H : Heap} {k : Nat} (h : Stat A ad U H) (hk : k = 128 ∨ k = 129) : va_T .int (ad k) (tn k) (fun j => .int (tv k j)) A U H := by
  rcases hk with rfl | rfl
  · exact h.2.1
  · exact h.2.2.2.1
theorem n_tld {mi : MI} {cc : ByteArray} {own : String} {nL : Nat} {rt : Option FieldType} {pc : Nat} {k : Nat} (hd : decode cc pc = .ok (.iaload, 1)) (hk : k = 128 ∨ k = 129) : SndI mi cc own nL rt (i_tld k (pc + 1)) pc := by
  refine ⟨m_tld _ _, ?_⟩
  intro p l e R s m args below meth c G t ad d Qc F call hcall Q hQ X hX lv st σ h H locs ls hP hS hl
  obtain ⟨hx, hb, hml, hr, hlocks, hown, hts, hK, hJ, hst, hfr, hlo⟩ := F
  unfold i_tld at h
  split at h
  · rename_i v q st'
    cases hq : Nat.beq q k with
    | false => rw [hq] at h; exact h.elim
    | true =>
      rw [hq] at h
      have e := Nat.eq_of_beq_eq_true hq
      subst e
      exact va_ti hx hb (st_T hst hk) hS h.1 rfl hd (hX _ _ h.2 H locs ls hP hS hl)
  · exact h.elim
theorem n_tln {mi : MI} {cc : ByteArray} {own : String} {nL : Nat} {rt : Option FieldType} {pc : Nat} {k : Nat} (hd : decode cc pc = .ok (.arraylength, 1)) (hk : k = 128 ∨ k = 129) : SndI mi cc own nL rt (i_tln k (pc + 1)) pc := by
  refine ⟨m_tln _ _, ?_⟩
  intro p l e R s m args below meth c G t ad d Qc F call hcall Q hQ X hX lv st σ h H locs ls hP hS hl
  obtain ⟨hx, hb, hml, hr, hlocks, hown, hts, hK, hJ, hst, hfr, hlo⟩ := F
  unfold i_tln at h
  split at h
  · rename_i q st'
    cases hq : Nat.beq q k with
    | false => rw [hq] at h; exact h.elim
    | true =>
      rw [hq] at h
      have e := Nat.eq_of_beq_eq_true hq
      subst e
      exact va_tlen hx hb (st_T hst hk) hS rfl hd (hX _ _ h H locs ls hP hS hl)
  · exact h.elim
theorem n_mx {mi : MI} {cc : ByteArray} {own : String} {nL : Nat} {rt : Option FieldType} {pc : Nat} {i : Nat} (hd : decode cc pc = .ok (.invokestatic i, 3)) (hw : Cond.methodLink own i Lib.Math.max.name ∈ lw_good) (hw1 : Cond.static Lib.Math.max.name ∈ lw_good) (hw2 : Cond.initialized "java/lang/Math" ∈ lw_good) (hw3 : Cond.code Lib.Math.max.name Lib.Math.max.code 2 (some .int) ∈ lw_good) : SndI mi cc own nL rt (i_mx (pc + 3)) pc := by
  refine ⟨m_mx _, ?_⟩
  intro p l e R s m args below meth c G t ad d Qc F call hcall Q hQ X hX lv st σ h H locs ls hP hS hl
  obtain ⟨hx, hb, hml, hr, hlocks, hown, hts, hK, hJ, hst, hfr, hlo⟩ := F
  unfold i_mx at h
  split at h
  · rename_i st'
    cases hq : Nat.ble (cs st') 8 with
    | false => rw [hq] at h; exact h.elim
    | true =>
      rw [hq] at h
      have h8 := Nat.le_of_ble_eq_true hq
      refine va_mmax hx hb (by rw [hml]; exact hl.1.symm) hown (hts _ hw) (hts _ hw1) (hts _ hw2) (hts _ hw3) (by omega) (by rw [mv_cs]; omega) (Nat.zero_le _) (Nat.zero_le _) hd ?_
      exact hX _ _ h H locs ls hP hS hl
  · exact h.elim
theorem n_mn {mi : MI} {cc : ByteArray} {own : String} {nL : Nat} {rt : Option FieldType} {pc : Nat} {i : Nat} (hd : decode cc pc = .ok (.invokestatic i, 3)) (hw : Cond.methodLink own i Lib.Math.min.name ∈ lw_good) (hw1 : Cond.static Lib.Math.min.name ∈ lw_good) (hw2 : Cond.initialized "java/lang/Math" ∈ lw_good) (hw3 : Cond.code Lib.Math.min.name Lib.Math.min.code 2 (some .int) ∈ lw_good) : SndI mi cc own nL rt (i_mn (pc + 3)) pc := by
  refine ⟨m_mn _, ?_⟩
  intro p l e R s m args below meth c G t ad d Qc F call hcall Q hQ X hX lv st σ h H locs ls hP hS hl
  obtain ⟨hx, hb, hml, hr, hlocks, hown, hts, hK, hJ, hst, hfr, hlo⟩ := F
  unfold i_mn at h
  split at h
  · rename_i st'
    cases hq : Nat.ble (cs st') 8 with
    | false => rw [hq] at h; exact h.elim
    | true =>
      rw [hq] at h
      have h8 := Nat.le_of_ble_eq_true hq
      refine va_mmin hx hb (by rw [hml]; exact hl.1.symm) hown (hts _ hw) (hts _ hw1) (hts _ hw2) (hts _ hw3) (by omega) (by rw [mv_cs]; omega) (Nat.zero_le _) (Nat.zero_le _) hd ?_
      exact hX _ _ h H locs ls hP hS hl
  · exact h.elim
theorem n_mabs {mi : MI} {cc : ByteArray} {own : String} {nL : Nat} {rt : Option FieldType} {pc : Nat} {i : Nat} (hd : decode cc pc = .ok (.invokestatic i, 3)) (hw : Cond.methodLink own i Lib.MathLoose.abs_long.x ∈ lw_good) (hw1 : Cond.static Lib.MathLoose.abs_long.x ∈ lw_good) (hw2 : Cond.initialized "java/lang/Math" ∈ lw_good) (hw3 : Cond.code Lib.MathLoose.abs_long.x Lib.MathLoose.abs_long.code 2 (some .long) ∈ lw_good) : SndI mi cc own nL rt (i_mabs (pc + 3)) pc := by
  refine ⟨m_mabs _, ?_⟩
  intro p l e R s m args below meth c G t ad d Qc F call hcall Q hQ X hX lv st σ h H locs ls hP hS hl
  obtain ⟨hx, hb, hml, hr, hlocks, hown, hts, hK, hJ, hst, hfr, hlo⟩ := F
  unfold i_mabs at h
  split at h
  · rename_i st'
    cases hq : Nat.ble (cs st') 8 with
    | false => rw [hq] at h; exact h.elim
    | true =>
      rw [hq] at h
      have h8 := Nat.le_of_ble_eq_true hq
      refine va_mabs_long hx hb (by rw [hml]; exact hl.1.symm) hown (hts _ hw) (hts _ hw1) (hts _ hw2) (hts _ hw3) (by omega) (by rw [mv_cs]; omega) (Nat.zero_le _) (Nat.zero_le _) hd ?_
      exact hX _ _ h H locs ls hP hS hl
  · exact h.elim
theorem n_cpy {mi : MI} {cc : ByteArray} {own : String} {nL : Nat} {rt : Option FieldType} {pc : Nat} {i : Nat} (hd : decode cc pc = .ok (.invokestatic i, 3)) (hw : Cond.methodLink own i arraycopyName ∈ lw_good) (hw0 : Cond.native arraycopyName ∈ lw_good) (hw1 : Cond.static arraycopyName ∈ lw_good) (hw2 : Cond.initialized "java/lang/System" ∈ lw_good) : SndI mi cc own nL rt (i_cpy (pc + 3)) pc := by
  refine ⟨m_cpy _, ?_⟩
  intro p l e R s m args below meth c G t ad d Qc F call hcall Q hQ X hX lv st σ h H locs ls hP hS hl
  obtain ⟨hx, hb, hml, hr, hlocks, hown, hts, hK, hJ, hst, hfr, hlo⟩ := F
  unfold i_cpy at h
  split at h
  · rename_i n dp q sp a st'
    cases hq : (Nat.ble (cs st') 8 && (Nat.beq (kd a) 13 && (Nat.beq (kd q) 13 && !(Nat.beq a q)))) with
    | false => rw [hq] at h; exact h.elim
    | true =>
      rw [hq] at h
      simp only [Bool.and_eq_true] at hq
      obtain ⟨q8, qa, qd, qn⟩ := hq
      have h8 := Nat.le_of_ble_eq_true q8
      have hlt : q < 128 := kd_lt qd rfl
      have hla : a < 128 := kd_lt qa rfl
      obtain ⟨⟨h1, h2, h3, h4, h5⟩, h6⟩ := h
      have hnw : nativeFrameWords "java/lang/System" "arraycopy" 5 ≤ 40 := by decide
      refine va_copyi (D := G) hx hb (by rw [hml]; exact hl.1.symm) hown (hts _ hw) (hts _ hw0) (hts _ hw1) (hts _ hw2) hK hP (va_Dws hJ) hS a q 0 0 (by rw [ws_get hla, cel_i qa]) (by rw [ws_get hlt, cel_i qd]) rfl rfl rfl h1 h2 h3 h4 h5 (fun _ _ => rfl) (by omega) (by rw [mv_cs]; omega) hd (fun H1 locs1 hP1 hD1 hS1 => ?_)
      rw [ws_ac qd] at hP1
      exact hX _ _ h6 H1 locs1 ls hP1 hS1 hl
  · exact h.elim
theorem n_rI {mi : MI} {cc : ByteArray} {own : String} {nL : Nat} {pc : Nat} (hd : decode cc pc = .ok (.ireturn, 1)) : SndI mi cc own nL (some .int) i_rI pc := by
  refine ⟨m_rI, ?_⟩
  intro p l e R s m args below meth c G t ad d Qc F call hcall Q hQ X hX lv st σ h H locs ls hP hS hl
  obtain ⟨hx, hb, hml, hr, hlocks, hown, hts, hK, hJ, hst, hfr, hlo⟩ := F
  unfold i_rI at h
  split at h
  · rename_i v
    exact W.iret hx hb hr (fun u hu hW => hQ (some (.int v)) σ u ⟨_, rfl⟩ h (by rw [hu]; exact hP) (hS.F hu)) hS.2.2 hd
  · exact h.elim
theorem n_rZ {mi : MI} {cc : ByteArray} {own : String} {nL : Nat} {pc : Nat} (hd : decode cc pc = .ok (.ireturn, 1)) : SndI mi cc own nL (some .boolean) i_rZ pc := by
  refine ⟨m_rZ, ?_⟩
  intro p l e R s m args below meth c G t ad d Qc F call hcall Q hQ X hX lv st σ h H locs ls hP hS hl
  obtain ⟨hx, hb, hml, hr, hlocks, hown, hts, hK, hJ, hst, hfr, hlo⟩ := F
  unfold i_rZ at h
  split at h
  · rename_i v
    exact W.zret hx hb hr (vb_nar h.1) (fun u hu hW => hQ (some (.int v)) σ u ⟨_, rfl⟩ h.2 (by rw [hu]; exact hP) (hS.F hu)) hS.2.2 hd
  · exact h.elim
theorem n_rL {mi : MI} {cc : ByteArray} {own : String} {nL : Nat} {pc : Nat} (hd : decode cc pc = .ok (.lreturn, 1)) : SndI mi cc own nL (some .long) i_rL pc := by
  refine ⟨m_rL, ?_⟩
  intro p l e R s m args below meth c G t ad d Qc F call hcall Q hQ X hX lv st σ h H locs ls hP hS hl
  obtain ⟨hx, hb, hml, hr, hlocks, hown, hts, hK, hJ, hst, hfr, hlo⟩ := F
  unfold i_rL at h
  split at h
  · rename_i v
    exact W.lret hx hb hr (fun u hu hW => hQ (some (.long v)) σ u ⟨_, rfl⟩ h (by rw [hu]; exact hP) (hS.F hu)) hS.2.2 hd
  · exact h.elim
theorem n_rV {mi : MI} {cc : ByteArray} {own : String} {nL : Nat} {pc : Nat} (hd : decode cc pc = .ok (.return_, 1)) : SndI mi cc own nL (none) i_rV pc := by
  refine ⟨m_rV, ?_⟩
  intro p l e R s m args below meth c G t ad d Qc F call hcall Q hQ X hX lv st σ h H locs ls hP hS hl
  obtain ⟨hx, hb, hml, hr, hlocks, hown, hts, hK, hJ, hst, hfr, hlo⟩ := F
  unfold i_rV at h
  split at h
  · exact W.vret hx hb hr (fun u hu hW => hQ none σ u rfl h (by rw [hu]; exact hP) (hS.F hu)) hS.2.2 hd
  · exact h.elim
theorem sw_go {p : Program} {l : Launch} {e : Env} {R : Room} {s : State} {m : MethodId} {args : Array Value} {below : List Frame} {meth : Method} {c : Code} {nL : Nat} {G : va_G} {t : T3} {ad : Nat → Nat} {Qc : Array Value → State → Outcome → State → Prop} {X : Fr → Hp → Prop} {lv : Lv} {st : List Value} {σ : Hp} {x : Int32} {k : Nat} : ∀ {ts : List (Int32 × Nat)}, swc X lv st σ x k ts → ∃ g : Nat, X (g, lv, st) σ ∧ ((∃ q ∈ ts, q.1 = x ∧ q.2 = g ∧ ts.find? (fun q => q.1 == x) = some q) ∨ (g = k ∧ ∀ q ∈ ts, q.1 ≠ x)) := by
  intro ts
  induction ts with
  | nil => intro h; exact ⟨k, h, Or.inr ⟨rfl, fun q hq => by cases hq⟩⟩
  | cons a l ih =>
    intro h
    obtain ⟨v, g⟩ := a
    unfold swc at h
    by_cases e : x = v
    · rw [if_pos e] at h
      exact ⟨g, h, Or.inl ⟨(v, g), List.mem_cons_self, e.symm, rfl, by simp [e]⟩⟩
    · rw [if_neg e] at h
      obtain ⟨g2, h1, h2⟩ := ih h
      refine ⟨g2, h1, ?_⟩
      rcases h2 with ⟨q, q1, q2, q3, q4⟩ | ⟨q1, q2⟩
      · exact Or.inl ⟨q, List.mem_cons_of_mem _ q1, q2, q3, by rw [List.find?_cons_of_neg (by simpa using fun z => e z.symm)]; exact q4⟩
      · exact Or.inr ⟨q1, fun q hq => by rcases List.mem_cons.mp hq with rfl | hq; exact fun z => e z.symm; exact q2 q hq⟩
/-- a table's rows: the j-th value from lo on goes to the j-th place -/
def tsOk (pc lo : Int) (offs : List Int) (ts : List (Int32 × Nat)) : Bool := decide (offs.length = ts.length) && (List.range ts.length).all (fun j => match ts[j]?, offs[j]? with
  | some q, some o => decide (q.1.toInt = lo + j) && decide (pc + o = (q.2 : Int))
  | _, _ => false)
theorem ts_at {pc lo : Int} {offs : List Int} {ts : List (Int32 × Nat)} (h : tsOk pc lo offs ts = true) : offs.length = ts.length ∧ ∀ (j : Nat) (q : Int32 × Nat), ts[j]? = some q → ∃ o : Int, offs[j]? = some o ∧ q.1.toInt = lo + j ∧ pc + o = (q.2 : Int) := by
  unfold tsOk at h
  simp only [Bool.and_eq_true, decide_eq_true_eq] at h
  refine ⟨h.1, fun j q hj => ?_⟩
  have hlt : j < ts.length := (List.getElem?_eq_some_iff.mp hj).1
  have h2 := List.all_eq_true.mp h.2 j (List.mem_range.mpr hlt)
  have ho : j < offs.length := by rw [h.1]; exact hlt
  rw [hj, List.getElem?_eq_getElem ho] at h2
  simp only [Bool.and_eq_true, decide_eq_true_eq] at h2
  exact ⟨offs[j], List.getElem?_eq_getElem ho, h2.1, h2.2⟩
theorem n_tsw {mi : MI} {cc : ByteArray} {own : String} {nL : Nat} {rt : Option FieldType} {pc : Nat} {dflt lo hi : Int} {offs : Array Int} {len : Nat} {ts : List (Int32 × Nat)} {k : Nat} (hd : decode cc pc = .ok (.tableswitch dflt lo hi offs, len)) (hok : tsOk (pc : Int) lo offs.toList ts = true) (hlen : lo + (ts.length : Int) = hi + 1) (hk : (pc : Int) + dflt = (k : Int)) : SndI mi cc own nL rt (i_sw ts k) pc := by
  refine ⟨m_sw _ _, ?_⟩
  intro p l e R s m args below meth c G t ad d Qc F call hcall Q hQ X hX lv st σ h H locs ls hP hS hl
  obtain ⟨hx, hb, hml, hr, hlocks, hown, hts, hK, hJ, hst, hfr, hlo⟩ := F
  unfold i_sw at h
  split at h
  · rename_i x st'
    obtain ⟨hl1, hl2⟩ := ts_at hok
    obtain ⟨g, hg, hc⟩ := sw_go (p := p) (l := l) (e := e) (R := R) (s := s) (m := m) (args := args) (below := below) (meth := meth) (c := c) (nL := nL) (G := G) (t := t) (ad := ad) (Qc := Qc) h
    rcases hc with ⟨q, q1, q2, q3, -⟩ | ⟨q1, q2⟩
    · obtain ⟨j, hj, hjq⟩ := List.mem_iff_getElem.mp q1
      obtain ⟨o, o1, o2, o3⟩ := hl2 j q (by rw [List.getElem?_eq_getElem hj, hjq])
      rw [q2] at o2
      rw [q3] at o3
      exact lv_tableIn hx hb hd (by omega) (by omega) (off := o) (by rw [← Array.getElem?_toList, show (x.toInt - lo).toNat = j by omega]; exact o1) o3 (hX _ _ hg H locs ls hP hS hl)
    · rw [q1] at hg
      refine lv_tableOut hx hb hd ?_ hk (hX _ _ hg H locs ls hP hS hl)
      rcases Int.lt_or_le x.toInt lo with z | z
      · exact Or.inl z
      · refine Or.inr (Int.not_le.mp fun z2 => ?_)
        have hj : (x.toInt - lo).toNat < ts.length := by omega
        obtain ⟨o, -, o2, -⟩ := hl2 _ _ (List.getElem?_eq_getElem hj)
        exact q2 _ (List.getElem_mem hj) (Int32.toInt_inj.mp (by omega))
  · exact h.elim
def lsOk (pc : Int) (ps : List (Int × Int)) (ts : List (Int32 × Nat)) : Bool := decide (ps.map (fun q => (q.1, pc + q.2)) = ts.map (fun q => (q.1.toInt, (q.2 : Int)))) && (ps.zip (ps.drop 1)).all (fun (a, next) => a.1 < next.1)
