theorem n_stop {mi : MI} {cc : ByteArray} {own : String} {nL : Nat} {rt : Option FieldType} {pc : Nat} : SndI mi cc own nL rt i_stop pc := ⟨fun _ _ _ _ _ _ _ _ _ _ _ _ h => h.elim, fun _ _ _ _ _ _ _ _ _ _ _ _ _ _ _ _ _ _ _ _ _ _ _ _ _ h => h.elim⟩
theorem n_cond {mi : MI} {cc : ByteArray} {own : String} {nL : Nat} {rt : Option FieldType} {pc : Nat} {b : Bool} {i j : Sm} (hi : SndI mi cc own nL rt i pc) (hj : SndI mi cc own nL rt j pc) : SndI mi cc own nL rt (cond b i j) pc := by cases b; exact hj; exact hi
theorem n_leaf {mi : MI} {cc : ByteArray} {own : String} {nL : Nat} {rt : Option FieldType} {pc k : Nat} {i : Sm} (hi : SndI mi cc own nL rt i k) : SndI mi cc own nL rt (cond (Nat.beq pc k) i i_stop) pc := by
  cases hb : Nat.beq pc k with
  | true => rw [Nat.eq_of_beq_eq_true hb]; exact hi
  | false => exact n_stop
theorem m_pI (v : Int32) (nx : Nat) : Mono (i_pI v nx) := by
  intro X Y call call' Q Q' hX hc hQ lv st σ h
  exact hX _ _ h
theorem m_pL (v : Int64) (nx : Nat) : Mono (i_pL v nx) := by
  intro X Y call call' Q Q' hX hc hQ lv st σ h
  exact hX _ _ h
theorem m_go (nx : Nat) : Mono (i_go nx) := by
  intro X Y call call' Q Q' hX hc hQ lv st σ h
  exact hX _ _ h
theorem m_gs (k nx : Nat) : Mono (i_gs k nx) := by
  intro X Y call call' Q Q' hX hc hQ lv st σ h
  exact hX _ _ h
theorem m_lI (i nx : Nat) : Mono (i_lI i nx) := by
  intro X Y call call' Q Q' hX hc hQ lv st σ h
  revert h; unfold i_lI; cases lget lv i with
  | none => exact id
  | some v => cases v <;> first | exact id | exact hX _ _
theorem m_lL (i nx : Nat) : Mono (i_lL i nx) := by
  intro X Y call call' Q Q' hX hc hQ lv st σ h
  revert h; unfold i_lL; cases lget lv i with
  | none => exact id
  | some v => cases v <;> first | exact id | exact hX _ _
theorem m_lA (i nx : Nat) : Mono (i_lA i nx) := by
  intro X Y call call' Q Q' hX hc hQ lv st σ h
  revert h; unfold i_lA; cases lget lv i with
  | none => exact id
  | some v => cases v <;> first | exact id | exact hX _ _
theorem m_inc (i : Nat) (k : Int32) (nx : Nat) : Mono (i_inc i k nx) := by
  intro X Y call call' Q Q' hX hc hQ lv st σ h
  revert h; unfold i_inc; cases lget lv i with
  | none => exact id
  | some v => cases v <;> first | exact id | exact hX _ _
theorem m_sI (i nx : Nat) : Mono (i_sI i nx) := by
  intro X Y call call' Q Q' hX hc hQ lv st σ h
  revert h; unfold i_sI; split
  · exact hX _ _
  · exact id
theorem m_sL (i nx : Nat) : Mono (i_sL i nx) := by
  intro X Y call call' Q Q' hX hc hQ lv st σ h
  revert h; unfold i_sL; split
  · exact hX _ _
  · exact id
theorem m_sA (i nx : Nat) : Mono (i_sA i nx) := by
  intro X Y call call' Q Q' hX hc hQ lv st σ h
  revert h; unfold i_sA; split
  · exact hX _ _
  · exact id
theorem m_b (f : Int32 → Int32 → Int32) (nx : Nat) : Mono (i_b f nx) := by
  intro X Y call call' Q Q' hX hc hQ lv st σ h
  revert h; unfold i_b; split
  · exact hX _ _
  · exact id
theorem m_bL (f : Int64 → Int64 → Int64) (nx : Nat) : Mono (i_bL f nx) := by
  intro X Y call call' Q Q' hX hc hQ lv st σ h
  revert h; unfold i_bL; split
  · exact hX _ _
  · exact id
theorem m_u (f : Int32 → Int32) (nx : Nat) : Mono (i_u f nx) := by
  intro X Y call call' Q Q' hX hc hQ lv st σ h
  revert h; unfold i_u; split
  · exact hX _ _
  · exact id
theorem m_uL (f : Int64 → Int64) (nx : Nat) : Mono (i_uL f nx) := by
  intro X Y call call' Q Q' hX hc hQ lv st σ h
  revert h; unfold i_uL; split
  · exact hX _ _
  · exact id
theorem m_i2l (nx : Nat) : Mono (i_i2l nx) := by
  intro X Y call call' Q Q' hX hc hQ lv st σ h
  revert h; unfold i_i2l; split
  · exact hX _ _
  · exact id
theorem m_l2i (nx : Nat) : Mono (i_l2i nx) := by
  intro X Y call call' Q Q' hX hc hQ lv st σ h
  revert h; unfold i_l2i; split
  · exact hX _ _
  · exact id
theorem m_lsh (f : Int64 → Int32 → Int64) (nx : Nat) : Mono (i_lsh f nx) := by
  intro X Y call call' Q Q' hX hc hQ lv st σ h
  revert h; unfold i_lsh; split
  · exact hX _ _
  · exact id
theorem m_lcmp (nx : Nat) : Mono (i_lcmp nx) := by
  intro X Y call call' Q Q' hX hc hQ lv st σ h
  revert h; unfold i_lcmp; split
  · exact hX _ _
  · exact id
theorem m_dup2 (nx : Nat) : Mono (i_dup2 nx) := by
  intro X Y call call' Q Q' hX hc hQ lv st σ h
  revert h; unfold i_dup2; split
  · exact hX _ _
  · exact id
theorem m_pop (nx : Nat) : Mono (i_pop nx) := by
  intro X Y call call' Q Q' hX hc hQ lv st σ h
  revert h; unfold i_pop; split
  · exact hX _ _
  · exact id
theorem m_dup (nx : Nat) : Mono (i_dup nx) := by
  intro X Y call call' Q Q' hX hc hQ lv st σ h
  revert h; unfold i_dup; split
  · exact hX _ _
  · exact hX _ _
  · exact id
theorem m_div (nx : Nat) : Mono (i_div nx) := by
  intro X Y call call' Q Q' hX hc hQ lv st σ h
  revert h; unfold i_div; split
  · exact fun h => ⟨h.1, hX _ _ h.2⟩
  · exact id
theorem m_rem (nx : Nat) : Mono (i_rem nx) := by
  intro X Y call call' Q Q' hX hc hQ lv st σ h
  revert h; unfold i_rem; split
  · exact fun h => ⟨h.1, hX _ _ h.2⟩
  · exact id
theorem m_ldiv (nx : Nat) : Mono (i_ldiv nx) := by
  intro X Y call call' Q Q' hX hc hQ lv st σ h
  revert h; unfold i_ldiv; split
  · exact fun h => ⟨h.1, hX _ _ h.2⟩
  · exact id
theorem m_eq (t nx : Nat) : Mono (i_eq t nx) := by
  intro X Y call call' Q Q' hX hc hQ lv st σ h
  revert h; unfold i_eq; split
  · split <;> exact hX _ _
  · exact id
theorem m_ne (t nx : Nat) : Mono (i_ne t nx) := by
  intro X Y call call' Q Q' hX hc hQ lv st σ h
  revert h; unfold i_ne; split
  · split <;> exact hX _ _
  · exact id
theorem m_lt (t nx : Nat) : Mono (i_lt t nx) := by
  intro X Y call call' Q Q' hX hc hQ lv st σ h
  revert h; unfold i_lt; split
  · split <;> exact hX _ _
  · exact id
theorem m_ge (t nx : Nat) : Mono (i_ge t nx) := by
  intro X Y call call' Q Q' hX hc hQ lv st σ h
  revert h; unfold i_ge; split
  · split <;> exact hX _ _
  · exact id
theorem m_gt (t nx : Nat) : Mono (i_gt t nx) := by
  intro X Y call call' Q Q' hX hc hQ lv st σ h
  revert h; unfold i_gt; split
  · split <;> exact hX _ _
  · exact id
theorem m_le (t nx : Nat) : Mono (i_le t nx) := by
  intro X Y call call' Q Q' hX hc hQ lv st σ h
  revert h; unfold i_le; split
  · split <;> exact hX _ _
  · exact id
theorem m_ceq (t nx : Nat) : Mono (i_ceq t nx) := by
  intro X Y call call' Q Q' hX hc hQ lv st σ h
  revert h; unfold i_ceq; split
  · split <;> exact hX _ _
  · exact id
theorem m_cne (t nx : Nat) : Mono (i_cne t nx) := by
  intro X Y call call' Q Q' hX hc hQ lv st σ h
  revert h; unfold i_cne; split
  · split <;> exact hX _ _
  · exact id
theorem m_clt (t nx : Nat) : Mono (i_clt t nx) := by
  intro X Y call call' Q Q' hX hc hQ lv st σ h
  revert h; unfold i_clt; split
  · split <;> exact hX _ _
  · exact id
theorem m_cge (t nx : Nat) : Mono (i_cge t nx) := by
  intro X Y call call' Q Q' hX hc hQ lv st σ h
  revert h; unfold i_cge; split
  · split <;> exact hX _ _
  · exact id
theorem m_cgt (t nx : Nat) : Mono (i_cgt t nx) := by
  intro X Y call call' Q Q' hX hc hQ lv st σ h
  revert h; unfold i_cgt; split
  · split <;> exact hX _ _
  · exact id
theorem m_cle (t nx : Nat) : Mono (i_cle t nx) := by
  intro X Y call call' Q Q' hX hc hQ lv st σ h
  revert h; unfold i_cle; split
  · split <;> exact hX _ _
  · exact id
theorem m_swc {X Y : Fr → Hp → Prop} (hX : ∀ fr σ, X fr σ → Y fr σ) {lv : Lv} {st : List Value} {σ : Hp} {x : Int32} {d : Nat} : ∀ {ts : List (Int32 × Nat)}, swc X lv st σ x d ts → swc Y lv st σ x d ts := by
  intro ts
  induction ts with
  | nil => exact hX _ _
  | cons q t ih =>
    obtain ⟨v, k⟩ := q
    unfold swc
    split
    · exact hX _ _
    · exact ih
theorem m_sw (ts : List (Int32 × Nat)) (k : Nat) : Mono (i_sw ts k) := by
  intro X Y call call' Q Q' hX hc hQ lv st σ h
  revert h; unfold i_sw; split
  · exact m_swc hX
  · exact id
theorem m_gI (ci k nx : Nat) : Mono (i_gI ci k nx) := by
  intro X Y call call' Q Q' hX hc hQ lv st σ h
  revert h; unfold i_gI; split
  · rename_i q _; cases Nat.beq (kd q) ci
    · exact id
    · exact hX _ _
  · exact id
theorem m_gL (ci k nx : Nat) : Mono (i_gL ci k nx) := by
  intro X Y call call' Q Q' hX hc hQ lv st σ h
  revert h; unfold i_gL; split
  · rename_i q _; cases Nat.beq (kd q) ci
    · exact id
    · exact hX _ _
  · exact id
theorem m_gA (ci k o nx : Nat) : Mono (i_gA ci k o nx) := by
  intro X Y call call' Q Q' hX hc hQ lv st σ h
  revert h; unfold i_gA; split
  · rename_i q _; cases Nat.beq (kd q) ci
    · exact id
    · exact hX _ _
  · exact id
theorem m_fI (ci k nx : Nat) : Mono (i_fI ci k nx) := by
  intro X Y call call' Q Q' hX hc hQ lv st σ h
  revert h; unfold i_fI; split
  · rename_i q _; cases Nat.beq (kd q) ci
    · exact id
    · exact hX _ _
  · exact id
theorem m_fL (ci k nx : Nat) : Mono (i_fL ci k nx) := by
  intro X Y call call' Q Q' hX hc hQ lv st σ h
  revert h; unfold i_fL; split
  · rename_i q _; cases Nat.beq (kd q) ci
    · exact id
    · exact hX _ _
  · exact id
theorem m_tln (k nx : Nat) : Mono (i_tln k nx) := by
  intro X Y call call' Q Q' hX hc hQ lv st σ h
  revert h; unfold i_tln; split
  · rename_i q _; cases Nat.beq q k
    · exact id
    · exact hX _ _
  · exact id
theorem m_tld (k nx : Nat) : Mono (i_tld k nx) := by
  intro X Y call call' Q Q' hX hc hQ lv st σ h
  revert h; unfold i_tld; split
  · rename_i q _; cases Nat.beq q k
    · exact id
    · exact fun h => ⟨h.1, hX _ _ h.2⟩
  · exact id
theorem m_fZ (ci k nx : Nat) : Mono (i_fZ ci k nx) := by
  intro X Y call call' Q Q' hX hc hQ lv st σ h
  revert h; unfold i_fZ; split
  · rename_i q _; cases Nat.beq (kd q) ci
    · exact id
    · exact fun h => ⟨h.1, hX _ _ h.2⟩
  · exact id
theorem m_ald (nx : Nat) : Mono (i_ald nx) := by
  intro X Y call call' Q Q' hX hc hQ lv st σ h
  revert h; unfold i_ald; split
  · rename_i q _; cases Nat.beq (kd q) 13
    · exact id
    · exact fun h => ⟨h.1, hX _ _ h.2⟩
  · exact id
theorem m_lald (nx : Nat) : Mono (i_lald nx) := by
  intro X Y call call' Q Q' hX hc hQ lv st σ h
  revert h; unfold i_lald; split
  · rename_i q _; cases Nat.beq (kd q) 14
    · exact id
    · exact fun h => ⟨h.1, hX _ _ h.2⟩
  · exact id
theorem m_ast (nx : Nat) : Mono (i_ast nx) := by
  intro X Y call call' Q Q' hX hc hQ lv st σ h
  revert h; unfold i_ast; split
  · rename_i q _; cases Nat.beq (kd q) 13
    · exact id
    · exact fun h => ⟨h.1, hX _ _ h.2⟩
  · exact id
theorem m_last (nx : Nat) : Mono (i_last nx) := by
  intro X Y call call' Q Q' hX hc hQ lv st σ h
  revert h; unfold i_last; split
  · rename_i q _; cases Nat.beq (kd q) 14
    · exact id
    · exact fun h => ⟨h.1, hX _ _ h.2⟩
  · exact id
theorem m_aald (nx : Nat) : Mono (i_aald nx) := by
  intro X Y call call' Q Q' hX hc hQ lv st σ h
  revert h; unfold i_aald; split
  · rename_i q _; cases Nat.beq (kd q) 15
    · exact id
    · exact fun h => ⟨h.1, hX _ _ h.2⟩
  · exact id
theorem m_aln (nx : Nat) : Mono (i_aln nx) := by
  intro X Y call call' Q Q' hX hc hQ lv st σ h
  revert h; unfold i_aln; split
  · rename_i q _; cases Nat.beq (kd q) 13
    · cases Nat.beq (kd q) 14
      · exact id
      · exact hX _ _
    · exact hX _ _
  · exact id
theorem m_mx (nx : Nat) : Mono (i_mx nx) := by
  intro X Y call call' Q Q' hX hc hQ lv st σ h
  revert h; unfold i_mx; split
  · rename_i q; cases Nat.ble (cs q) 8
    · exact id
    · exact hX _ _
  · exact id
theorem m_mn (nx : Nat) : Mono (i_mn nx) := by
  intro X Y call call' Q Q' hX hc hQ lv st σ h
  revert h; unfold i_mn; split
  · rename_i q; cases Nat.ble (cs q) 8
    · exact id
    · exact hX _ _
  · exact id
theorem m_mabs (nx : Nat) : Mono (i_mabs nx) := by
  intro X Y call call' Q Q' hX hc hQ lv st σ h
  revert h; unfold i_mabs; split
  · rename_i q; cases Nat.ble (cs q) 8
    · exact id
    · exact hX _ _
  · exact id
theorem m_cpy (nx : Nat) : Mono (i_cpy nx) := by
  intro X Y call call' Q Q' hX hc hQ lv st σ h
  revert h; unfold i_cpy; split
  · rename_i q a st; cases (Nat.ble (cs st) 8 && (Nat.beq (kd a) 13 && (Nat.beq (kd _) 13 && !(Nat.beq a _))))
    · exact id
    · exact fun h => ⟨h.1, hX _ _ h.2⟩
  · exact id
theorem m_cv (k : List Value → Bool) (y n nx : Nat) : Mono (i_cv k y n nx) := by
  intro X Y call call' Q Q' hX hc hQ lv st σ h
  revert h; unfold i_cv; cases (Nat.ble (cs (st.drop n)) 8 && (Nat.beq (st.take n).length n && k (st.take n).reverse))
  · exact id
  · exact hc _ _ _ _ _ (fun r τ => hX _ _)
theorem m_cI (k : List Value → Bool) (y n nx : Nat) : Mono (i_cI k y n nx) := by
  intro X Y call call' Q Q' hX hc hQ lv st σ h
  revert h; unfold i_cI; cases (Nat.ble (cs (st.drop n)) 8 && (Nat.beq (st.take n).length n && k (st.take n).reverse))
  · exact id
  · exact hc _ _ _ _ _ (fun r τ => hX _ _)
theorem m_cL (k : List Value → Bool) (y n nx : Nat) : Mono (i_cL k y n nx) := by
  intro X Y call call' Q Q' hX hc hQ lv st σ h
  revert h; unfold i_cL; cases (Nat.ble (cs (st.drop n)) 8 && (Nat.beq (st.take n).length n && k (st.take n).reverse))
  · exact id
  · exact hc _ _ _ _ _ (fun r τ => hX _ _)
theorem m_cD (f : Nat → Nat) (n nx : Nat) : Mono (i_cD f n nx) := by
  intro X Y call call' Q Q' hX hc hQ lv st σ h
  revert h; unfold i_cD; cases (Nat.ble (cs (st.drop n)) 8 && (Nat.beq (st.take n).length n && rT (st.take n).reverse))
  · exact id
  · exact hc _ _ _ _ _ (fun r τ => hX _ _)
theorem m_rI : Mono i_rI := by
  intro X Y call call' Q Q' hX hc hQ lv st σ h
  revert h; unfold i_rI; split
  · exact hQ _ _
  · exact id
theorem m_rL : Mono i_rL := by
  intro X Y call call' Q Q' hX hc hQ lv st σ h
  revert h; unfold i_rL; split
  · exact hQ _ _
  · exact id
theorem m_rV : Mono i_rV := by
  intro X Y call call' Q Q' hX hc hQ lv st σ h
  revert h; unfold i_rV; split
  · exact hQ _ _
  · exact id
theorem m_rZ : Mono i_rZ := by
  intro X Y call call' Q Q' hX hc hQ lv st σ h
  revert h; unfold i_rZ; split
  · exact fun h => ⟨h.1, hQ _ _ h.2⟩
  · exact id
theorem n_iconst {mi : MI} {cc : ByteArray} {own : String} {nL : Nat} {rt : Option FieldType} {pc : Nat} {n : Int} {v : Int32} (hd : decode cc pc = .ok (.iconst n, 1)) (hv : Int32.ofInt n = v) : SndI mi cc own nL rt (i_pI v (pc + 1)) pc := by
  refine ⟨m_pI _ _, ?_⟩
  intro p l e R s m args below meth c G t ad d Qc F call hcall Q hQ X hX lv st σ h H locs ls hP hS hl
  obtain ⟨hx, hb, hml, hr, hlocks, hown, hts, hK, hJ, hst, hfr, hlo⟩ := F
  exact lv_iconst hx hb hd hv (hX _ _ h H locs ls hP hS hl)
theorem n_bipush {mi : MI} {cc : ByteArray} {own : String} {nL : Nat} {rt : Option FieldType} {pc : Nat} {n : Int} {v : Int32} (hd : decode cc pc = .ok (.bipush n, 2)) (hv : (Int8.ofInt n).toInt32 = v) : SndI mi cc own nL rt (i_pI v (pc + 2)) pc := by
  refine ⟨m_pI _ _, ?_⟩
  intro p l e R s m args below meth c G t ad d Qc F call hcall Q hQ X hX lv st σ h H locs ls hP hS hl
  obtain ⟨hx, hb, hml, hr, hlocks, hown, hts, hK, hJ, hst, hfr, hlo⟩ := F
  exact lv_bipush hx hb hd hv (hX _ _ h H locs ls hP hS hl)
theorem n_sipush {mi : MI} {cc : ByteArray} {own : String} {nL : Nat} {rt : Option FieldType} {pc : Nat} {n : Int} {v : Int32} (hd : decode cc pc = .ok (.sipush n, 3)) (hv : (Int16.ofInt n).toInt32 = v) : SndI mi cc own nL rt (i_pI v (pc + 3)) pc := by
  refine ⟨m_pI _ _, ?_⟩
  intro p l e R s m args below meth c G t ad d Qc F call hcall Q hQ X hX lv st σ h H locs ls hP hS hl
  obtain ⟨hx, hb, hml, hr, hlocks, hown, hts, hK, hJ, hst, hfr, hlo⟩ := F
  exact lv_sipush hx hb hd hv (hX _ _ h H locs ls hP hS hl)
theorem n_ldc {mi : MI} {cc : ByteArray} {own : String} {nL : Nat} {rt : Option FieldType} {pc : Nat} {i : Nat} {v : Int32} (hd : decode cc pc = .ok (.ldc i, 2)) (hw : Cond.constant own i v ∈ lw_good) : SndI mi cc own nL rt (i_pI v (pc + 2)) pc := by
  refine ⟨m_pI _ _, ?_⟩
  intro p l e R s m args below meth c G t ad d Qc F call hcall Q hQ X hX lv st σ h H locs ls hP hS hl
  obtain ⟨hx, hb, hml, hr, hlocks, hown, hts, hK, hJ, hst, hfr, hlo⟩ := F
  exact lv_ldc hx hb hown (hts _ hw) hd (hX _ _ h H locs ls hP hS hl)
theorem n_ldcw {mi : MI} {cc : ByteArray} {own : String} {nL : Nat} {rt : Option FieldType} {pc : Nat} {i : Nat} {v : Int32} (hd : decode cc pc = .ok (.ldc_w i, 3)) (hw : Cond.constant own i v ∈ lw_good) : SndI mi cc own nL rt (i_pI v (pc + 3)) pc := by
  refine ⟨m_pI _ _, ?_⟩
  intro p l e R s m args below meth c G t ad d Qc F call hcall Q hQ X hX lv st σ h H locs ls hP hS hl
  obtain ⟨hx, hb, hml, hr, hlocks, hown, hts, hK, hJ, hst, hfr, hlo⟩ := F
  exact lv_ldcw hx hb hown (hts _ hw) hd (hX _ _ h H locs ls hP hS hl)
theorem n_ldc2 {mi : MI} {cc : ByteArray} {own : String} {nL : Nat} {rt : Option FieldType} {pc : Nat} {i : Nat} {v : Int64} (hd : decode cc pc = .ok (.ldc2_w i, 3)) (hw : Cond.constantLong own i v ∈ lw_good) : SndI mi cc own nL rt (i_pL v (pc + 3)) pc := by
  refine ⟨m_pL _ _, ?_⟩
  intro p l e R s m args below meth c G t ad d Qc F call hcall Q hQ X hX lv st σ h H locs ls hP hS hl
  obtain ⟨hx, hb, hml, hr, hlocks, hown, hts, hK, hJ, hst, hfr, hlo⟩ := F
  exact lv_ldc2 hx hb hown (hts _ hw) hd (hX _ _ h H locs ls hP hS hl)
theorem n_lconst {mi : MI} {cc : ByteArray} {own : String} {nL : Nat} {rt : Option FieldType} {pc : Nat} {n : Fin 2} {v : Int64} (hd : decode cc pc = .ok (.lconst n, 1)) (hv : Int64.ofNat (n : Nat) = v) : SndI mi cc own nL rt (i_pL v (pc + 1)) pc := by
  refine ⟨m_pL _ _, ?_⟩
  intro p l e R s m args below meth c G t ad d Qc F call hcall Q hQ X hX lv st σ h H locs ls hP hS hl
  obtain ⟨hx, hb, hml, hr, hlocks, hown, hts, hK, hJ, hst, hfr, hlo⟩ := F
  exact lv_lconst hx hb hd hv (hX _ _ h H locs ls hP hS hl)
theorem n_iload_n {mi : MI} {cc : ByteArray} {own : String} {nL : Nat} {rt : Option FieldType} {pc : Nat} {k : Fin 4} {i : Nat} (hd : decode cc pc = .ok (.iload_n k, 1)) (hi : (k : Nat) = i) : SndI mi cc own nL rt (i_lI i (pc + 1)) pc := by
  refine ⟨m_lI _ _, ?_⟩
  intro p l e R s m args below meth c G t ad d Qc F call hcall Q hQ X hX lv st σ h H locs ls hP hS hl
  obtain ⟨hx, hb, hml, hr, hlocks, hown, hts, hK, hJ, hst, hfr, hlo⟩ := F
  unfold i_lI at h
  split at h
  · rename_i v hg
    exact lv_iload_n hx hb hd hi (lget_at hl hg) (hX _ _ h H locs ls hP hS hl)
  · exact h.elim
theorem n_iload {mi : MI} {cc : ByteArray} {own : String} {nL : Nat} {rt : Option FieldType} {pc : Nat} {i : Nat} (hd : decode cc pc = .ok (.iload i, 2)) : SndI mi cc own nL rt (i_lI i (pc + 2)) pc := by
  refine ⟨m_lI _ _, ?_⟩
  intro p l e R s m args below meth c G t ad d Qc F call hcall Q hQ X hX lv st σ h H locs ls hP hS hl
  obtain ⟨hx, hb, hml, hr, hlocks, hown, hts, hK, hJ, hst, hfr, hlo⟩ := F
  unfold i_lI at h
  split at h
  · rename_i v hg
    exact lv_iload hx hb hd (lget_at hl hg) (hX _ _ h H locs ls hP hS hl)
  · exact h.elim
theorem n_lload_n {mi : MI} {cc : ByteArray} {own : String} {nL : Nat} {rt : Option FieldType} {pc : Nat} {k : Fin 4} {i : Nat} (hd : decode cc pc = .ok (.lload_n k, 1)) (hi : (k : Nat) = i) : SndI mi cc own nL rt (i_lL i (pc + 1)) pc := by
  refine ⟨m_lL _ _, ?_⟩
  intro p l e R s m args below meth c G t ad d Qc F call hcall Q hQ X hX lv st σ h H locs ls hP hS hl
  obtain ⟨hx, hb, hml, hr, hlocks, hown, hts, hK, hJ, hst, hfr, hlo⟩ := F
  unfold i_lL at h
  split at h
  · rename_i v hg
    exact lv_lload_n hx hb hd hi (lget_at hl hg) (hX _ _ h H locs ls hP hS hl)
  · exact h.elim
theorem n_lload {mi : MI} {cc : ByteArray} {own : String} {nL : Nat} {rt : Option FieldType} {pc : Nat} {i : Nat} (hd : decode cc pc = .ok (.lload i, 2)) : SndI mi cc own nL rt (i_lL i (pc + 2)) pc := by
  refine ⟨m_lL _ _, ?_⟩
  intro p l e R s m args below meth c G t ad d Qc F call hcall Q hQ X hX lv st σ h H locs ls hP hS hl
  obtain ⟨hx, hb, hml, hr, hlocks, hown, hts, hK, hJ, hst, hfr, hlo⟩ := F
  unfold i_lL at h
  split at h
  · rename_i v hg
    exact lv_lload hx hb hd (lget_at hl hg) (hX _ _ h H locs ls hP hS hl)
  · exact h.elim
theorem n_aload_n {mi : MI} {cc : ByteArray} {own : String} {nL : Nat} {rt : Option FieldType} {pc : Nat} {k : Fin 4} {i : Nat} (hd : decode cc pc = .ok (.aload_n k, 1)) (hi : (k : Nat) = i) : SndI mi cc own nL rt (i_lA i (pc + 1)) pc := by
  refine ⟨m_lA _ _, ?_⟩
  intro p l e R s m args below meth c G t ad d Qc F call hcall Q hQ X hX lv st σ h H locs ls hP hS hl
  obtain ⟨hx, hb, hml, hr, hlocks, hown, hts, hK, hJ, hst, hfr, hlo⟩ := F
  unfold i_lA at h
  split at h
  · rename_i v hg
    exact lv_aload_n hx hb hd hi (lget_at hl hg) (hX _ _ h H locs ls hP hS hl)
  · exact h.elim
theorem n_aload {mi : MI} {cc : ByteArray} {own : String} {nL : Nat} {rt : Option FieldType} {pc : Nat} {i : Nat} (hd : decode cc pc = .ok (.aload i, 2)) : SndI mi cc own nL rt (i_lA i (pc + 2)) pc := by
  refine ⟨m_lA _ _, ?_⟩
  intro p l e R s m args below meth c G t ad d Qc F call hcall Q hQ X hX lv st σ h H locs ls hP hS hl
  obtain ⟨hx, hb, hml, hr, hlocks, hown, hts, hK, hJ, hst, hfr, hlo⟩ := F
  unfold i_lA at h
  split at h
  · rename_i v hg
    exact lv_aload hx hb hd (lget_at hl hg) (hX _ _ h H locs ls hP hS hl)
  · exact h.elim
theorem n_istore_n {mi : MI} {cc : ByteArray} {own : String} {nL : Nat} {rt : Option FieldType} {pc : Nat} {k : Fin 4} {i : Nat} (hd : decode cc pc = .ok (.istore_n k, 1)) (hi : (k : Nat) = i) (hn : i < nL) : SndI mi cc own nL rt (i_sI i (pc + 1)) pc := by
  refine ⟨m_sI _ _, ?_⟩
  intro p l e R s m args below meth c G t ad d Qc F call hcall Q hQ X hX lv st σ h H locs ls hP hS hl
  obtain ⟨hx, hb, hml, hr, hlocks, hown, hts, hK, hJ, hst, hfr, hlo⟩ := F
  unfold i_sI at h
  split at h
  · exact lv_istore_n hx hb hd hi hl hn rfl (fun ls' hl' => hX _ _ h H locs ls' hP hS (lv_1 hl'))
  · exact h.elim
theorem n_istore {mi : MI} {cc : ByteArray} {own : String} {nL : Nat} {rt : Option FieldType} {pc : Nat} {i : Nat} (hd : decode cc pc = .ok (.istore i, 2)) (hn : i < nL) : SndI mi cc own nL rt (i_sI i (pc + 2)) pc := by
  refine ⟨m_sI _ _, ?_⟩
  intro p l e R s m args below meth c G t ad d Qc F call hcall Q hQ X hX lv st σ h H locs ls hP hS hl
  obtain ⟨hx, hb, hml, hr, hlocks, hown, hts, hK, hJ, hst, hfr, hlo⟩ := F
  unfold i_sI at h
  split at h
  · exact lv_istore hx hb hd hl hn rfl (fun ls' hl' => hX _ _ h H locs ls' hP hS (lv_1 hl'))
  · exact h.elim
theorem n_lstore_n {mi : MI} {cc : ByteArray} {own : String} {nL : Nat} {rt : Option FieldType} {pc : Nat} {k : Fin 4} {i : Nat} (hd : decode cc pc = .ok (.lstore_n k, 1)) (hi : (k : Nat) = i) (hn : i + 1 < nL) : SndI mi cc own nL rt (i_sL i (pc + 1)) pc := by
  refine ⟨m_sL _ _, ?_⟩
  intro p l e R s m args below meth c G t ad d Qc F call hcall Q hQ X hX lv st σ h H locs ls hP hS hl
  obtain ⟨hx, hb, hml, hr, hlocks, hown, hts, hK, hJ, hst, hfr, hlo⟩ := F
  unfold i_sL at h
  split at h
  · exact lv_lstore_n hx hb hd hi hl hn rfl (fun ls' hl' => hX _ _ h H locs ls' hP hS (lv_2 hl'))
  · exact h.elim
theorem n_lstore {mi : MI} {cc : ByteArray} {own : String} {nL : Nat} {rt : Option FieldType} {pc : Nat} {i : Nat} (hd : decode cc pc = .ok (.lstore i, 2)) (hn : i + 1 < nL) : SndI mi cc own nL rt (i_sL i (pc + 2)) pc := by
  refine ⟨m_sL _ _, ?_⟩
  intro p l e R s m args below meth c G t ad d Qc F call hcall Q hQ X hX lv st σ h H locs ls hP hS hl
  obtain ⟨hx, hb, hml, hr, hlocks, hown, hts, hK, hJ, hst, hfr, hlo⟩ := F
  unfold i_sL at h
  split at h
  · exact lv_lstore hx hb hd hl hn rfl (fun ls' hl' => hX _ _ h H locs ls' hP hS (lv_2 hl'))
  · exact h.elim
theorem n_astore_n {mi : MI} {cc : ByteArray} {own : String} {nL : Nat} {rt : Option FieldType} {pc : Nat} {k : Fin 4} {i : Nat} (hd : decode cc pc = .ok (.astore_n k, 1)) (hi : (k : Nat) = i) (hn : i < nL) : SndI mi cc own nL rt (i_sA i (pc + 1)) pc := by
  refine ⟨m_sA _ _, ?_⟩
  intro p l e R s m args below meth c G t ad d Qc F call hcall Q hQ X hX lv st σ h H locs ls hP hS hl
  obtain ⟨hx, hb, hml, hr, hlocks, hown, hts, hK, hJ, hst, hfr, hlo⟩ := F
  unfold i_sA at h
  split at h
  · exact lv_astore_n hx hb hd hi hl hn rfl (fun ls' hl' => hX _ _ h H locs ls' hP hS (lv_1 hl'))
  · exact h.elim
theorem n_astore {mi : MI} {cc : ByteArray} {own : String} {nL : Nat} {rt : Option FieldType} {pc : Nat} {i : Nat} (hd : decode cc pc = .ok (.astore i, 2)) (hn : i < nL) : SndI mi cc own nL rt (i_sA i (pc + 2)) pc := by
  refine ⟨m_sA _ _, ?_⟩
  intro p l e R s m args below meth c G t ad d Qc F call hcall Q hQ X hX lv st σ h H locs ls hP hS hl
  obtain ⟨hx, hb, hml, hr, hlocks, hown, hts, hK, hJ, hst, hfr, hlo⟩ := F
  unfold i_sA at h
  split at h
  · exact lv_astore hx hb hd hl hn rfl (fun ls' hl' => hX _ _ h H locs ls' hP hS (lv_1 hl'))
  · exact h.elim
theorem n_iinc {mi : MI} {cc : ByteArray} {own : String} {nL : Nat} {rt : Option FieldType} {pc : Nat} {i : Nat} {n : Int} {v : Int32} (hd : decode cc pc = .ok (.iinc i n, 3)) (hv : Int32.ofInt n = v) (hn : i < nL) : SndI mi cc own nL rt (i_inc i v (pc + 3)) pc := by
  refine ⟨m_inc _ _ _, ?_⟩
  intro p l e R s m args below meth c G t ad d Qc F call hcall Q hQ X hX lv st σ h H locs ls hP hS hl
  obtain ⟨hx, hb, hml, hr, hlocks, hown, hts, hK, hJ, hst, hfr, hlo⟩ := F
  unfold i_inc at h
  split at h
  · rename_i x hg
    obtain ⟨k, hk⟩ := lget_ix hg
    exact lv_iinc hx hb hd hl (k := k) (x := x) (by rw [List.getElem?_map, hk]; rfl) (by rw [hv]) hn rfl (fun ls' hl' => hX _ _ h H locs ls' hP hS (lv_1 hl'))
  · exact h.elim
theorem n_iadd {mi : MI} {cc : ByteArray} {own : String} {nL : Nat} {rt : Option FieldType} {pc : Nat} (hd : decode cc pc = .ok (.iadd, 1)) : SndI mi cc own nL rt (i_b (fun x y => x + y) (pc + 1)) pc := by
  refine ⟨m_b _ _, ?_⟩
  intro p l e R s m args below meth c G t ad d Qc F call hcall Q hQ X hX lv st σ h H locs ls hP hS hl
  obtain ⟨hx, hb, hml, hr, hlocks, hown, hts, hK, hJ, hst, hfr, hlo⟩ := F
  unfold i_b at h
  split at h
  · exact lv_iadd hx hb hd (hX _ _ h H locs ls hP hS hl)
  · exact h.elim
theorem n_isub {mi : MI} {cc : ByteArray} {own : String} {nL : Nat} {rt : Option FieldType} {pc : Nat} (hd : decode cc pc = .ok (.isub, 1)) : SndI mi cc own nL rt (i_b (fun x y => x - y) (pc + 1)) pc := by
  refine ⟨m_b _ _, ?_⟩
  intro p l e R s m args below meth c G t ad d Qc F call hcall Q hQ X hX lv st σ h H locs ls hP hS hl
  obtain ⟨hx, hb, hml, hr, hlocks, hown, hts, hK, hJ, hst, hfr, hlo⟩ := F
  unfold i_b at h
  split at h
  · exact lv_isub hx hb hd (hX _ _ h H locs ls hP hS hl)
  · exact h.elim
theorem n_imul {mi : MI} {cc : ByteArray} {own : String} {nL : Nat} {rt : Option FieldType} {pc : Nat} (hd : decode cc pc = .ok (.imul, 1)) : SndI mi cc own nL rt (i_b (fun x y => x * y) (pc + 1)) pc := by
  refine ⟨m_b _ _, ?_⟩
  intro p l e R s m args below meth c G t ad d Qc F call hcall Q hQ X hX lv st σ h H locs ls hP hS hl
  obtain ⟨hx, hb, hml, hr, hlocks, hown, hts, hK, hJ, hst, hfr, hlo⟩ := F
  unfold i_b at h
  split at h
  · exact lv_imul hx hb hd (hX _ _ h H locs ls hP hS hl)
  · exact h.elim
theorem n_iand {mi : MI} {cc : ByteArray} {own : String} {nL : Nat} {rt : Option FieldType} {pc : Nat} (hd : decode cc pc = .ok (.iand, 1)) : SndI mi cc own nL rt (i_b (fun x y => x &&& y) (pc + 1)) pc := by
  refine ⟨m_b _ _, ?_⟩
  intro p l e R s m args below meth c G t ad d Qc F call hcall Q hQ X hX lv st σ h H locs ls hP hS hl
  obtain ⟨hx, hb, hml, hr, hlocks, hown, hts, hK, hJ, hst, hfr, hlo⟩ := F
  unfold i_b at h
  split at h
  · exact lv_iand hx hb hd (hX _ _ h H locs ls hP hS hl)
  · exact h.elim
theorem n_ior {mi : MI} {cc : ByteArray} {own : String} {nL : Nat} {rt : Option FieldType} {pc : Nat} (hd : decode cc pc = .ok (.ior, 1)) : SndI mi cc own nL rt (i_b (fun x y => x ||| y) (pc + 1)) pc := by
  refine ⟨m_b _ _, ?_⟩
  intro p l e R s m args below meth c G t ad d Qc F call hcall Q hQ X hX lv st σ h H locs ls hP hS hl
  obtain ⟨hx, hb, hml, hr, hlocks, hown, hts, hK, hJ, hst, hfr, hlo⟩ := F
  unfold i_b at h
  split at h
  · exact lv_ior hx hb hd (hX _ _ h H locs ls hP hS hl)
  · exact h.elim
theorem n_ixor {mi : MI} {cc : ByteArray} {own : String} {nL : Nat} {rt : Option FieldType} {pc : Nat} (hd : decode cc pc = .ok (.ixor, 1)) : SndI mi cc own nL rt (i_b (fun x y => x ^^^ y) (pc + 1)) pc := by
  refine ⟨m_b _ _, ?_⟩
  intro p l e R s m args below meth c G t ad d Qc F call hcall Q hQ X hX lv st σ h H locs ls hP hS hl
  obtain ⟨hx, hb, hml, hr, hlocks, hown, hts, hK, hJ, hst, hfr, hlo⟩ := F
  unfold i_b at h
  split at h
  · exact lv_ixor hx hb hd (hX _ _ h H locs ls hP hS hl)
  · exact h.elim
theorem n_ishl {mi : MI} {cc : ByteArray} {own : String} {nL : Nat} {rt : Option FieldType} {pc : Nat} (hd : decode cc pc = .ok (.ishl, 1)) : SndI mi cc own nL rt (i_b (fun x y => x <<< (y &&& 31)) (pc + 1)) pc := by
  refine ⟨m_b _ _, ?_⟩
  intro p l e R s m args below meth c G t ad d Qc F call hcall Q hQ X hX lv st σ h H locs ls hP hS hl
  obtain ⟨hx, hb, hml, hr, hlocks, hown, hts, hK, hJ, hst, hfr, hlo⟩ := F
  unfold i_b at h
  split at h
  · exact lv_ishl hx hb hd (hX _ _ h H locs ls hP hS hl)
  · exact h.elim
theorem n_ishr {mi : MI} {cc : ByteArray} {own : String} {nL : Nat} {rt : Option FieldType} {pc : Nat} (hd : decode cc pc = .ok (.ishr, 1)) : SndI mi cc own nL rt (i_b (fun x y => x >>> (y &&& 31)) (pc + 1)) pc := by
  refine ⟨m_b _ _, ?_⟩
  intro p l e R s m args below meth c G t ad d Qc F call hcall Q hQ X hX lv st σ h H locs ls hP hS hl
  obtain ⟨hx, hb, hml, hr, hlocks, hown, hts, hK, hJ, hst, hfr, hlo⟩ := F
  unfold i_b at h
  split at h
  · exact lv_ishr hx hb hd (hX _ _ h H locs ls hP hS hl)
  · exact h.elim
theorem n_ladd {mi : MI} {cc : ByteArray} {own : String} {nL : Nat} {rt : Option FieldType} {pc : Nat} (hd : decode cc pc = .ok (.ladd, 1)) : SndI mi cc own nL rt (i_bL (fun x y => x + y) (pc + 1)) pc := by
  refine ⟨m_bL _ _, ?_⟩
  intro p l e R s m args below meth c G t ad d Qc F call hcall Q hQ X hX lv st σ h H locs ls hP hS hl
  obtain ⟨hx, hb, hml, hr, hlocks, hown, hts, hK, hJ, hst, hfr, hlo⟩ := F
  unfold i_bL at h
  split at h
  · exact lv_ladd hx hb hd (hX _ _ h H locs ls hP hS hl)
  · exact h.elim
theorem n_lsub {mi : MI} {cc : ByteArray} {own : String} {nL : Nat} {rt : Option FieldType} {pc : Nat} (hd : decode cc pc = .ok (.lsub, 1)) : SndI mi cc own nL rt (i_bL (fun x y => x - y) (pc + 1)) pc := by
  refine ⟨m_bL _ _, ?_⟩
  intro p l e R s m args below meth c G t ad d Qc F call hcall Q hQ X hX lv st σ h H locs ls hP hS hl
  obtain ⟨hx, hb, hml, hr, hlocks, hown, hts, hK, hJ, hst, hfr, hlo⟩ := F
  unfold i_bL at h
  split at h
  · exact lv_lsub hx hb hd (hX _ _ h H locs ls hP hS hl)
  · exact h.elim
theorem n_lmul {mi : MI} {cc : ByteArray} {own : String} {nL : Nat} {rt : Option FieldType} {pc : Nat} (hd : decode cc pc = .ok (.lmul, 1)) : SndI mi cc own nL rt (i_bL (fun x y => x * y) (pc + 1)) pc := by
  refine ⟨m_bL _ _, ?_⟩
  intro p l e R s m args below meth c G t ad d Qc F call hcall Q hQ X hX lv st σ h H locs ls hP hS hl
  obtain ⟨hx, hb, hml, hr, hlocks, hown, hts, hK, hJ, hst, hfr, hlo⟩ := F
  unfold i_bL at h
  split at h
  · exact lv_lmul hx hb hd (hX _ _ h H locs ls hP hS hl)
  · exact h.elim
theorem n_land {mi : MI} {cc : ByteArray} {own : String} {nL : Nat} {rt : Option FieldType} {pc : Nat} (hd : decode cc pc = .ok (.land, 1)) : SndI mi cc own nL rt (i_bL (fun x y => x &&& y) (pc + 1)) pc := by
  refine ⟨m_bL _ _, ?_⟩
  intro p l e R s m args below meth c G t ad d Qc F call hcall Q hQ X hX lv st σ h H locs ls hP hS hl
  obtain ⟨hx, hb, hml, hr, hlocks, hown, hts, hK, hJ, hst, hfr, hlo⟩ := F
  unfold i_bL at h
  split at h
  · exact lv_land hx hb hd (hX _ _ h H locs ls hP hS hl)
  · exact h.elim
theorem n_lor {mi : MI} {cc : ByteArray} {own : String} {nL : Nat} {rt : Option FieldType} {pc : Nat} (hd : decode cc pc = .ok (.lor, 1)) : SndI mi cc own nL rt (i_bL (fun x y => x ||| y) (pc + 1)) pc := by
  refine ⟨m_bL _ _, ?_⟩
  intro p l e R s m args below meth c G t ad d Qc F call hcall Q hQ X hX lv st σ h H locs ls hP hS hl
  obtain ⟨hx, hb, hml, hr, hlocks, hown, hts, hK, hJ, hst, hfr, hlo⟩ := F
  unfold i_bL at h
  split at h
  · exact lv_lor hx hb hd (hX _ _ h H locs ls hP hS hl)
  · exact h.elim
theorem n_lxor {mi : MI} {cc : ByteArray} {own : String} {nL : Nat} {rt : Option FieldType} {pc : Nat} (hd : decode cc pc = .ok (.lxor, 1)) : SndI mi cc own nL rt (i_bL (fun x y => x ^^^ y) (pc + 1)) pc := by
  refine ⟨m_bL _ _, ?_⟩
  intro p l e R s m args below meth c G t ad d Qc F call hcall Q hQ X hX lv st σ h H locs ls hP hS hl
  obtain ⟨hx, hb, hml, hr, hlocks, hown, hts, hK, hJ, hst, hfr, hlo⟩ := F
  unfold i_bL at h
  split at h
  · exact lv_lxor hx hb hd (hX _ _ h H locs ls hP hS hl)
  · exact h.elim
theorem n_idiv {mi : MI} {cc : ByteArray} {own : String} {nL : Nat} {rt : Option FieldType} {pc : Nat} (hd : decode cc pc = .ok (.idiv, 1)) : SndI mi cc own nL rt (i_div (pc + 1)) pc := by
  refine ⟨m_div _, ?_⟩
  intro p l e R s m args below meth c G t ad d Qc F call hcall Q hQ X hX lv st σ h H locs ls hP hS hl
  obtain ⟨hx, hb, hml, hr, hlocks, hown, hts, hK, hJ, hst, hfr, hlo⟩ := F
  unfold i_div at h
  split at h
  · exact lv_idiv hx hb hd h.1 (hX _ _ h.2 H locs ls hP hS hl)
  · exact h.elim
theorem n_irem {mi : MI} {cc : ByteArray} {own : String} {nL : Nat} {rt : Option FieldType} {pc : Nat} (hd : decode cc pc = .ok (.irem, 1)) : SndI mi cc own nL rt (i_rem (pc + 1)) pc := by
  refine ⟨m_rem _, ?_⟩
  intro p l e R s m args below meth c G t ad d Qc F call hcall Q hQ X hX lv st σ h H locs ls hP hS hl
  obtain ⟨hx, hb, hml, hr, hlocks, hown, hts, hK, hJ, hst, hfr, hlo⟩ := F
  unfold i_rem at h
  split at h
  · exact lv_irem hx hb hd h.1 (hX _ _ h.2 H locs ls hP hS hl)
  · exact h.elim
theorem n_ldiv {mi : MI} {cc : ByteArray} {own : String} {nL : Nat} {rt : Option FieldType} {pc : Nat} (hd : decode cc pc = .ok (.ldiv, 1)) : SndI mi cc own nL rt (i_ldiv (pc + 1)) pc := by
  refine ⟨m_ldiv _, ?_⟩
  intro p l e R s m args below meth c G t ad d Qc F call hcall Q hQ X hX lv st σ h H locs ls hP hS hl
  obtain ⟨hx, hb, hml, hr, hlocks, hown, hts, hK, hJ, hst, hfr, hlo⟩ := F
  unfold i_ldiv at h
  split at h
  · exact lv_ldiv hx hb hd h.1 (hX _ _ h.2 H locs ls hP hS hl)
  · exact h.elim
theorem n_ineg {mi : MI} {cc : ByteArray} {own : String} {nL : Nat} {rt : Option FieldType} {pc : Nat} (hd : decode cc pc = .ok (.ineg, 1)) : SndI mi cc own nL rt (i_u (fun x => -x) (pc + 1)) pc := by
  refine ⟨m_u _ _, ?_⟩
  intro p l e R s m args below meth c G t ad d Qc F call hcall Q hQ X hX lv st σ h H locs ls hP hS hl
  obtain ⟨hx, hb, hml, hr, hlocks, hown, hts, hK, hJ, hst, hfr, hlo⟩ := F
  unfold i_u at h
  split at h
  · exact lv_ineg hx hb hd (hX _ _ h H locs ls hP hS hl)
  · exact h.elim
theorem n_i2b {mi : MI} {cc : ByteArray} {own : String} {nL : Nat} {rt : Option FieldType} {pc : Nat} (hd : decode cc pc = .ok (.i2b, 1)) : SndI mi cc own nL rt (i_u (fun x => x.toInt8.toInt32) (pc + 1)) pc := by
  refine ⟨m_u _ _, ?_⟩
  intro p l e R s m args below meth c G t ad d Qc F call hcall Q hQ X hX lv st σ h H locs ls hP hS hl
  obtain ⟨hx, hb, hml, hr, hlocks, hown, hts, hK, hJ, hst, hfr, hlo⟩ := F
  unfold i_u at h
  split at h
  · exact lv_i2b hx hb hd rfl (hX _ _ h H locs ls hP hS hl)
  · exact h.elim
theorem n_i2s {mi : MI} {cc : ByteArray} {own : String} {nL : Nat} {rt : Option FieldType} {pc : Nat} (hd : decode cc pc = .ok (.i2s, 1)) : SndI mi cc own nL rt (i_u (fun x => x.toInt16.toInt32) (pc + 1)) pc := by
  refine ⟨m_u _ _, ?_⟩
  intro p l e R s m args below meth c G t ad d Qc F call hcall Q hQ X hX lv st σ h H locs ls hP hS hl
  obtain ⟨hx, hb, hml, hr, hlocks, hown, hts, hK, hJ, hst, hfr, hlo⟩ := F
  unfold i_u at h
  split at h
  · exact lv_i2s hx hb hd rfl (hX _ _ h H locs ls hP hS hl)
  · exact h.elim
theorem n_lneg {mi : MI} {cc : ByteArray} {own : String} {nL : Nat} {rt : Option FieldType} {pc : Nat} (hd : decode cc pc = .ok (.lneg, 1)) : SndI mi cc own nL rt (i_uL (fun x => -x) (pc + 1)) pc := by
  refine ⟨m_uL _ _, ?_⟩
  intro p l e R s m args below meth c G t ad d Qc F call hcall Q hQ X hX lv st σ h H locs ls hP hS hl
  obtain ⟨hx, hb, hml, hr, hlocks, hown, hts, hK, hJ, hst, hfr, hlo⟩ := F
  unfold i_uL at h
  split at h
  · exact lv_lneg hx hb hd (hX _ _ h H locs ls hP hS hl)
  · exact h.elim
theorem n_i2l {mi : MI} {cc : ByteArray} {own : String} {nL : Nat} {rt : Option FieldType} {pc : Nat} (hd : decode cc pc = .ok (.i2l, 1)) : SndI mi cc own nL rt (i_i2l (pc + 1)) pc := by
  refine ⟨m_i2l _, ?_⟩
  intro p l e R s m args below meth c G t ad d Qc F call hcall Q hQ X hX lv st σ h H locs ls hP hS hl
  obtain ⟨hx, hb, hml, hr, hlocks, hown, hts, hK, hJ, hst, hfr, hlo⟩ := F
  unfold i_i2l at h
  split at h
  · exact lv_i2l hx hb hd rfl (hX _ _ h H locs ls hP hS hl)
  · exact h.elim
theorem n_l2i {mi : MI} {cc : ByteArray} {own : String} {nL : Nat} {rt : Option FieldType} {pc : Nat} (hd : decode cc pc = .ok (.l2i, 1)) : SndI mi cc own nL rt (i_l2i (pc + 1)) pc := by
  refine ⟨m_l2i _, ?_⟩
  intro p l e R s m args below meth c G t ad d Qc F call hcall Q hQ X hX lv st σ h H locs ls hP hS hl
  obtain ⟨hx, hb, hml, hr, hlocks, hown, hts, hK, hJ, hst, hfr, hlo⟩ := F
  unfold i_l2i at h
  split at h
  · exact lv_l2i hx hb hd rfl (hX _ _ h H locs ls hP hS hl)
  · exact h.elim
theorem n_lushr {mi : MI} {cc : ByteArray} {own : String} {nL : Nat} {rt : Option FieldType} {pc : Nat} (hd : decode cc pc = .ok (.lushr, 1)) : SndI mi cc own nL rt (i_lsh (fun x y => (x.toUInt64 >>> (y.toInt64.toUInt64 &&& Int64.toUInt64 63)).toInt64) (pc + 1)) pc := by
  refine ⟨m_lsh _ _, ?_⟩
  intro p l e R s m args below meth c G t ad d Qc F call hcall Q hQ X hX lv st σ h H locs ls hP hS hl
  obtain ⟨hx, hb, hml, hr, hlocks, hown, hts, hK, hJ, hst, hfr, hlo⟩ := F
  unfold i_lsh at h
  split at h
  · exact lv_lushr hx hb hd rfl (hX _ _ h H locs ls hP hS hl)
  · exact h.elim
theorem n_lshl {mi : MI} {cc : ByteArray} {own : String} {nL : Nat} {rt : Option FieldType} {pc : Nat} (hd : decode cc pc = .ok (.lshl, 1)) : SndI mi cc own nL rt (i_lsh (fun x y => x <<< (y.toInt64 &&& 63)) (pc + 1)) pc := by
  refine ⟨m_lsh _ _, ?_⟩
  intro p l e R s m args below meth c G t ad d Qc F call hcall Q hQ X hX lv st σ h H locs ls hP hS hl
  obtain ⟨hx, hb, hml, hr, hlocks, hown, hts, hK, hJ, hst, hfr, hlo⟩ := F
  unfold i_lsh at h
  split at h
  · exact lv_lshl hx hb hd rfl (hX _ _ h H locs ls hP hS hl)
  · exact h.elim
theorem n_lshr {mi : MI} {cc : ByteArray} {own : String} {nL : Nat} {rt : Option FieldType} {pc : Nat} (hd : decode cc pc = .ok (.lshr, 1)) : SndI mi cc own nL rt (i_lsh (fun x y => x >>> (y.toInt64 &&& 63)) (pc + 1)) pc := by
  refine ⟨m_lsh _ _, ?_⟩
  intro p l e R s m args below meth c G t ad d Qc F call hcall Q hQ X hX lv st σ h H locs ls hP hS hl
  obtain ⟨hx, hb, hml, hr, hlocks, hown, hts, hK, hJ, hst, hfr, hlo⟩ := F
  unfold i_lsh at h
  split at h
  · exact lv_lshr hx hb hd rfl (hX _ _ h H locs ls hP hS hl)
  · exact h.elim
theorem n_lcmp {mi : MI} {cc : ByteArray} {own : String} {nL : Nat} {rt : Option FieldType} {pc : Nat} (hd : decode cc pc = .ok (.lcmp, 1)) : SndI mi cc own nL rt (i_lcmp (pc + 1)) pc := by
  refine ⟨m_lcmp _, ?_⟩
  intro p l e R s m args below meth c G t ad d Qc F call hcall Q hQ X hX lv st σ h H locs ls hP hS hl
  obtain ⟨hx, hb, hml, hr, hlocks, hown, hts, hK, hJ, hst, hfr, hlo⟩ := F
  unfold i_lcmp at h
  split at h
  · exact W.lcmp hx hb hd (hX _ _ h H locs ls hP hS hl)
  · exact h.elim
theorem n_dup {mi : MI} {cc : ByteArray} {own : String} {nL : Nat} {rt : Option FieldType} {pc : Nat} (hd : decode cc pc = .ok (.dup, 1)) : SndI mi cc own nL rt (i_dup (pc + 1)) pc := by
  refine ⟨m_dup _, ?_⟩
  intro p l e R s m args below meth c G t ad d Qc F call hcall Q hQ X hX lv st σ h H locs ls hP hS hl
  obtain ⟨hx, hb, hml, hr, hlocks, hown, hts, hK, hJ, hst, hfr, hlo⟩ := F
  unfold i_dup at h
  split at h
  · exact lv_dup hx hb hd rfl (hX _ _ h H locs ls hP hS hl)
  · exact lv_dup hx hb hd rfl (hX _ _ h H locs ls hP hS hl)
  · exact h.elim
theorem n_dup2 {mi : MI} {cc : ByteArray} {own : String} {nL : Nat} {rt : Option FieldType} {pc : Nat} (hd : decode cc pc = .ok (.dup2, 1)) : SndI mi cc own nL rt (i_dup2 (pc + 1)) pc := by
  refine ⟨m_dup2 _, ?_⟩
  intro p l e R s m args below meth c G t ad d Qc F call hcall Q hQ X hX lv st σ h H locs ls hP hS hl
  obtain ⟨hx, hb, hml, hr, hlocks, hown, hts, hK, hJ, hst, hfr, hlo⟩ := F
  unfold i_dup2 at h
  split at h
  · exact lv_dup2_11 hx hb hd rfl rfl (hX _ _ h H locs ls hP hS hl)
  · exact h.elim
theorem n_pop {mi : MI} {cc : ByteArray} {own : String} {nL : Nat} {rt : Option FieldType} {pc : Nat} (hd : decode cc pc = .ok (.pop, 1)) : SndI mi cc own nL rt (i_pop (pc + 1)) pc := by
  refine ⟨m_pop _, ?_⟩
  intro p l e R s m args below meth c G t ad d Qc F call hcall Q hQ X hX lv st σ h H locs ls hP hS hl
  obtain ⟨hx, hb, hml, hr, hlocks, hown, hts, hK, hJ, hst, hfr, hlo⟩ := F
  unfold i_pop at h
  split at h
  · exact lv_pop hx hb hd rfl (hX _ _ h H locs ls hP hS hl)
  · exact h.elim
theorem n_ifeq {mi : MI} {cc : ByteArray} {own : String} {nL : Nat} {rt : Option FieldType} {pc : Nat} {off : Int} {tgt : Nat} (hd : decode cc pc = .ok (.ifCond .eq off, 3)) (ht : (pc : Int) + off = (tgt : Int)) : SndI mi cc own nL rt (i_eq tgt (pc + 3)) pc := by
  refine ⟨m_eq _ _, ?_⟩
  intro p l e R s m args below meth c G t ad d Qc F call hcall Q hQ X hX lv st σ h H locs ls hP hS hl
  obtain ⟨hx, hb, hml, hr, hlocks, hown, hts, hK, hJ, hst, hfr, hlo⟩ := F
  unfold i_eq at h
  split at h
  · exact lv_if_eq hx hb hd ht (fun q => by rw [if_pos q] at h; exact hX _ _ h H locs ls hP hS hl) (fun q => by rw [if_neg q] at h; exact hX _ _ h H locs ls hP hS hl)
  · exact h.elim
theorem n_ifceq {mi : MI} {cc : ByteArray} {own : String} {nL : Nat} {rt : Option FieldType} {pc : Nat} {off : Int} {tgt : Nat} (hd : decode cc pc = .ok (.if_icmp .eq off, 3)) (ht : (pc : Int) + off = (tgt : Int)) : SndI mi cc own nL rt (i_ceq tgt (pc + 3)) pc := by
  refine ⟨m_ceq _ _, ?_⟩
  intro p l e R s m args below meth c G t ad d Qc F call hcall Q hQ X hX lv st σ h H locs ls hP hS hl
  obtain ⟨hx, hb, hml, hr, hlocks, hown, hts, hK, hJ, hst, hfr, hlo⟩ := F
  unfold i_ceq at h
  split at h
  · exact lv_icmp_eq hx hb hd ht (fun q => by rw [if_pos q] at h; exact hX _ _ h H locs ls hP hS hl) (fun q => by rw [if_neg q] at h; exact hX _ _ h H locs ls hP hS hl)
  · exact h.elim
theorem n_ifne {mi : MI} {cc : ByteArray} {own : String} {nL : Nat} {rt : Option FieldType} {pc : Nat} {off : Int} {tgt : Nat} (hd : decode cc pc = .ok (.ifCond .ne off, 3)) (ht : (pc : Int) + off = (tgt : Int)) : SndI mi cc own nL rt (i_ne tgt (pc + 3)) pc := by
  refine ⟨m_ne _ _, ?_⟩
  intro p l e R s m args below meth c G t ad d Qc F call hcall Q hQ X hX lv st σ h H locs ls hP hS hl
  obtain ⟨hx, hb, hml, hr, hlocks, hown, hts, hK, hJ, hst, hfr, hlo⟩ := F
  unfold i_ne at h
  split at h
  · exact lv_if_ne hx hb hd ht (fun q => by rw [if_neg q] at h; exact hX _ _ h H locs ls hP hS hl) (fun q => by rw [if_pos q] at h; exact hX _ _ h H locs ls hP hS hl)
  · exact h.elim
theorem n_ifcne {mi : MI} {cc : ByteArray} {own : String} {nL : Nat} {rt : Option FieldType} {pc : Nat} {off : Int} {tgt : Nat} (hd : decode cc pc = .ok (.if_icmp .ne off, 3)) (ht : (pc : Int) + off = (tgt : Int)) : SndI mi cc own nL rt (i_cne tgt (pc + 3)) pc := by
  refine ⟨m_cne _ _, ?_⟩
  intro p l e R s m args below meth c G t ad d Qc F call hcall Q hQ X hX lv st σ h H locs ls hP hS hl
  obtain ⟨hx, hb, hml, hr, hlocks, hown, hts, hK, hJ, hst, hfr, hlo⟩ := F
  unfold i_cne at h
  split at h
  · exact lv_icmp_ne hx hb hd ht (fun q => by rw [if_neg q] at h; exact hX _ _ h H locs ls hP hS hl) (fun q => by rw [if_pos q] at h; exact hX _ _ h H locs ls hP hS hl)
  · exact h.elim
theorem n_iflt {mi : MI} {cc : ByteArray} {own : String} {nL : Nat} {rt : Option FieldType} {pc : Nat} {off : Int} {tgt : Nat} (hd : decode cc pc = .ok (.ifCond .lt off, 3)) (ht : (pc : Int) + off = (tgt : Int)) : SndI mi cc own nL rt (i_lt tgt (pc + 3)) pc := by
  refine ⟨m_lt _ _, ?_⟩
  intro p l e R s m args below meth c G t ad d Qc F call hcall Q hQ X hX lv st σ h H locs ls hP hS hl
  obtain ⟨hx, hb, hml, hr, hlocks, hown, hts, hK, hJ, hst, hfr, hlo⟩ := F
  unfold i_lt at h
  split at h
  · exact lv_if_lt hx hb hd ht (fun q => by rw [if_pos q] at h; exact hX _ _ h H locs ls hP hS hl) (fun q => by rw [if_neg q] at h; exact hX _ _ h H locs ls hP hS hl)
  · exact h.elim
theorem n_ifclt {mi : MI} {cc : ByteArray} {own : String} {nL : Nat} {rt : Option FieldType} {pc : Nat} {off : Int} {tgt : Nat} (hd : decode cc pc = .ok (.if_icmp .lt off, 3)) (ht : (pc : Int) + off = (tgt : Int)) : SndI mi cc own nL rt (i_clt tgt (pc + 3)) pc := by
  refine ⟨m_clt _ _, ?_⟩
  intro p l e R s m args below meth c G t ad d Qc F call hcall Q hQ X hX lv st σ h H locs ls hP hS hl
  obtain ⟨hx, hb, hml, hr, hlocks, hown, hts, hK, hJ, hst, hfr, hlo⟩ := F
  unfold i_clt at h
  split at h
  · exact lv_icmp_lt hx hb hd ht (fun q => by rw [if_pos q] at h; exact hX _ _ h H locs ls hP hS hl) (fun q => by rw [if_neg q] at h; exact hX _ _ h H locs ls hP hS hl)
  · exact h.elim
theorem n_ifge {mi : MI} {cc : ByteArray} {own : String} {nL : Nat} {rt : Option FieldType} {pc : Nat} {off : Int} {tgt : Nat} (hd : decode cc pc = .ok (.ifCond .ge off, 3)) (ht : (pc : Int) + off = (tgt : Int)) : SndI mi cc own nL rt (i_ge tgt (pc + 3)) pc := by
  refine ⟨m_ge _ _, ?_⟩
  intro p l e R s m args below meth c G t ad d Qc F call hcall Q hQ X hX lv st σ h H locs ls hP hS hl
  obtain ⟨hx, hb, hml, hr, hlocks, hown, hts, hK, hJ, hst, hfr, hlo⟩ := F
  unfold i_ge at h
  split at h
  · exact lv_if_ge hx hb hd ht (fun q => by rw [if_pos q] at h; exact hX _ _ h H locs ls hP hS hl) (fun q => by rw [if_neg q] at h; exact hX _ _ h H locs ls hP hS hl)
  · exact h.elim
theorem n_ifcge {mi : MI} {cc : ByteArray} {own : String} {nL : Nat} {rt : Option FieldType} {pc : Nat} {off : Int} {tgt : Nat} (hd : decode cc pc = .ok (.if_icmp .ge off, 3)) (ht : (pc : Int) + off = (tgt : Int)) : SndI mi cc own nL rt (i_cge tgt (pc + 3)) pc := by
  refine ⟨m_cge _ _, ?_⟩
  intro p l e R s m args below meth c G t ad d Qc F call hcall Q hQ X hX lv st σ h H locs ls hP hS hl
  obtain ⟨hx, hb, hml, hr, hlocks, hown, hts, hK, hJ, hst, hfr, hlo⟩ := F
  unfold i_cge at h
  split at h
  · exact lv_icmp_ge hx hb hd ht (fun q => by rw [if_pos q] at h; exact hX _ _ h H locs ls hP hS hl) (fun q => by rw [if_neg q] at h; exact hX _ _ h H locs ls hP hS hl)
  · exact h.elim
theorem n_ifgt {mi : MI} {cc : ByteArray} {own : String} {nL : Nat} {rt : Option FieldType} {pc : Nat} {off : Int} {tgt : Nat} (hd : decode cc pc = .ok (.ifCond .gt off, 3)) (ht : (pc : Int) + off = (tgt : Int)) : SndI mi cc own nL rt (i_gt tgt (pc + 3)) pc := by
  refine ⟨m_gt _ _, ?_⟩
  intro p l e R s m args below meth c G t ad d Qc F call hcall Q hQ X hX lv st σ h H locs ls hP hS hl
  obtain ⟨hx, hb, hml, hr, hlocks, hown, hts, hK, hJ, hst, hfr, hlo⟩ := F
  unfold i_gt at h
  split at h
  · exact lv_if_gt hx hb hd ht (fun q => by rw [if_pos q] at h; exact hX _ _ h H locs ls hP hS hl) (fun q => by rw [if_neg q] at h; exact hX _ _ h H locs ls hP hS hl)
  · exact h.elim
theorem n_ifcgt {mi : MI} {cc : ByteArray} {own : String} {nL : Nat} {rt : Option FieldType} {pc : Nat} {off : Int} {tgt : Nat} (hd : decode cc pc = .ok (.if_icmp .gt off, 3)) (ht : (pc : Int) + off = (tgt : Int)) : SndI mi cc own nL rt (i_cgt tgt (pc + 3)) pc := by
  refine ⟨m_cgt _ _, ?_⟩
  intro p l e R s m args below meth c G t ad d Qc F call hcall Q hQ X hX lv st σ h H locs ls hP hS hl
  obtain ⟨hx, hb, hml, hr, hlocks, hown, hts, hK, hJ, hst, hfr, hlo⟩ := F
  unfold i_cgt at h
  split at h
  · exact lv_icmp_gt hx hb hd ht (fun q => by rw [if_pos q] at h; exact hX _ _ h H locs ls hP hS hl) (fun q => by rw [if_neg q] at h; exact hX _ _ h H locs ls hP hS hl)
  · exact h.elim
theorem n_ifle {mi : MI} {cc : ByteArray} {own : String} {nL : Nat} {rt : Option FieldType} {pc : Nat} {off : Int} {tgt : Nat} (hd : decode cc pc = .ok (.ifCond .le off, 3)) (ht : (pc : Int) + off = (tgt : Int)) : SndI mi cc own nL rt (i_le tgt (pc + 3)) pc := by
  refine ⟨m_le _ _, ?_⟩
  intro p l e R s m args below meth c G t ad d Qc F call hcall Q hQ X hX lv st σ h H locs ls hP hS hl
  obtain ⟨hx, hb, hml, hr, hlocks, hown, hts, hK, hJ, hst, hfr, hlo⟩ := F
  unfold i_le at h
  split at h
  · exact lv_if_le hx hb hd ht (fun q => by rw [if_pos q] at h; exact hX _ _ h H locs ls hP hS hl) (fun q => by rw [if_neg q] at h; exact hX _ _ h H locs ls hP hS hl)
  · exact h.elim
theorem n_ifcle {mi : MI} {cc : ByteArray} {own : String} {nL : Nat} {rt : Option FieldType} {pc : Nat} {off : Int} {tgt : Nat} (hd : decode cc pc = .ok (.if_icmp .le off, 3)) (ht : (pc : Int) + off = (tgt : Int)) : SndI mi cc own nL rt (i_cle tgt (pc + 3)) pc := by
  refine ⟨m_cle _ _, ?_⟩
  intro p l e R s m args below meth c G t ad d Qc F call hcall Q hQ X hX lv st σ h H locs ls hP hS hl
  obtain ⟨hx, hb, hml, hr, hlocks, hown, hts, hK, hJ, hst, hfr, hlo⟩ := F
  unfold i_cle at h
  split at h
  · exact lv_icmp_le hx hb hd ht (fun q => by rw [if_pos q] at h; exact hX _ _ h H locs ls hP hS hl) (fun q => by rw [if_neg q] at h; exact hX _ _ h H locs ls hP hS hl)
  · exact h.elim
theorem n_goto {mi : MI} {cc : ByteArray} {own : String} {nL : Nat} {rt : Option FieldType} {pc : Nat} {off : Int} {tgt : Nat} (hd : decode cc pc = .ok (.goto off, 3)) (ht : (pc : Int) + off = (tgt : Int)) : SndI mi cc own nL rt (i_go tgt) pc := by
  refine ⟨m_go _, ?_⟩
  intro p l e R s m args below meth c G t ad d Qc F call hcall Q hQ X hX lv st σ h H locs ls hP hS hl
  obtain ⟨hx, hb, hml, hr, hlocks, hown, hts, hK, hJ, hst, hfr, hlo⟩ := F
  exact lv_goto hx hb hd ht (hX _ _ h H locs ls hP hS hl)
