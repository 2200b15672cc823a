/-! ===== calls ===== -/
theorem Stat.to {A : Nat → Prop} {ad : Nat → Nat} {s U : State} {H H1 : Heap} (h : Stat A ad s H) (hW : s.WarmedH U.vm) (hq : ∀ a : Nat, a < H.size → ¬ A a → H1[a]? = H[a]?) : Stat A ad U H1 :=
  ⟨(va_Z.moved hW.alike h.1).kept hq, (va_T.moved hW.alike h.2.1).kept hq, (va_Z.moved hW.alike h.2.2.1).kept hq, (va_T.moved hW.alike h.2.2.2.1).kept hq, va_Nw.warmF hW h.2.2.2.2⟩
theorem Stat.at {A : Nat → Prop} {ad : Nat → Nat} {s U : State} {H : Heap} (h : Stat A ad s H) (hv : s.vm = U.vm) : Stat A ad U H :=
  ⟨va_Z.moved (by rw [hv]; exact Vm.Alike.refl _) h.1, va_T.moved (by rw [hv]; exact Vm.Alike.refl _) h.2.1, va_Z.moved (by rw [hv]; exact Vm.Alike.refl _) h.2.2.1, va_T.moved (by rw [hv]; exact Vm.Alike.refl _) h.2.2.2.1, va_Nw.same rfl hv h.2.2.2.2⟩
theorem pin_blind {G : va_G} {t : T3} {ad : Nat → Nat} {σ : Hp} {a : List Value} : FrameBlind (Pin G t ad σ a) := fun _ U g mk q => by
  obtain ⟨q0, q1, q2, q3⟩ := q
  exact ⟨q0, q1, va_K.moved (u := U) (U := U.calling g mk _) (Vm.Alike.refl U.vm) q2, q3.at (U := U.calling g mk _) rfl⟩
theorem pin_at {G : va_G} {t : T3} {ad : Nat → Nat} {σ : Hp} {a : List Value} {s : State} {H : Heap} {locs : List Loc} {av : Array Value} (ha : av = (a.map (mv ad)).toArray) (hP : va_P G cls (wsA t ad σ) H) (hK : va_K G cls (tysA t) s) (hst : Stat (AA ad) ad s s.heap) (hS : va_S (AA ad) s.heap H locs) : ∀ U : State, U.heap = H → s.WarmedH U.vm → Pin G t ad σ a av U := by
  intro U hU hW
  subst ha
  exact ⟨rfl, by rw [hU]; exact hP, va_K.moved hW.alike hK, by rw [hU]; exact hst.to hW hS.2.1⟩
section RG
variable {p : Program} {l : Launch} {e : Env} {R : Room} {s : State} {m : MethodId} {args : Array Value} {below : List Frame} {meth : Method} {c : Code} {H : Heap} {locs : List Loc} {Q : State → Prop} {G : va_G} {t : T3} {ad : Nat → Nat} {K : Po} {rty : Option FieldType} {a : Array Value} {pc : Nat} {ls : Array Slot} {st0 rest : List Value}
theorem run_go (hr : va_Run p l e R s m args below meth c H locs 0 0 0 0 (F0 m pc ls st0) rest (Qin G t ad rty K a) (AA ad)) (hS : va_S (AA ad) s.heap H locs)
    (kk : ∀ (r : Option Value) (τ : Hp) (H1 : Heap) (locs1 : List Loc), rtok rty r → K r τ → va_P G cls (wsA t ad τ) H1 → va_S (AA ad) s.heap H1 locs1 → W p l e R s m args below meth c H1 locs1 0 0 Q (F0 m (pc + 3) ls ((r.map (mv ad)).toList ++ rest))) : W p l e R s m args below meth c H locs 0 0 Q (F0 m pc ls st0) := by
  intro T hT X
  obtain ⟨v, st₀, u, T', L, h0, X', hL, e1, e2, ⟨⟨r, τ, hv, hrt, hk, hp⟩, hz, hf⟩, stp⟩ := hr T hT X
  have ev : v = r.map (mv ad) := by injection hv
  subst ev
  rw [h0] at hz hf
  obtain ⟨t2, a1, b1⟩ := kk r τ T'.heap (locs ++ L) hrt hk (by rw [e1]; exact hp)
    ⟨Nat.le_trans hS.1 (by rw [e1]; exact hz), fun q h1 h2 => by rw [e1, hf q (Nat.lt_of_lt_of_le h1 hS.1) h2]; exact hS.2.1 q h1 h2, fun q hq => by
      rcases List.mem_append.mp hq with h | h
      · exact hS.2.2 q h
      · exact hL q h⟩ T' rfl X'
  exact ⟨t2, stp t2 a1, b1⟩
end RG
theorem good_ws {w : Cond} (h : w ∈ lw_good) : GoodIn lw_good (w :: lw_good) := fun x hx => by
  have hm : x ∈ lw_good := by rcases List.mem_cons.mp hx with rfl | q; exact h; exact q
  exact ⟨hm, good_of_word (List.mem_filter.mp hm).2⟩
def MOK (mi : MI) (y n : Nat) : Prop := Cond.code (mi y).1 (mi y).2.1 (mi y).2.2.1 (mi y).2.2.2 ∈ lw_good ∧ Cond.initialized (mi y).1.cls ∈ lw_good ∧ ((mi y).1.cls ≠ "java/lang/invoke/MethodHandle" ∧ (mi y).1.cls ≠ "java/lang/invoke/VarHandle" ∧ (parseMethodDescriptor (mi y).1.desc).map (fun d => d.parameters.length) = some n) ∧ (mi y).2.2.1 ≤ 45
def MOV (mi : MI) (y : Nat) : Prop := Cond.instanceMethod (mi y).1 ∈ lw_good ∧ Cond.selects (mi y).1.cls (mi y).1 (mi y).1 ∈ lw_good
theorem st_split (ad : Nat → Nat) (st : List Value) (n : Nat) : st.map (mv ad) = ((st.take n).reverse.map (mv ad)).reverse ++ (st.drop n).map (mv ad) := by
  rw [List.map_reverse, List.reverse_reverse, ← List.map_append, List.take_append_drop]
theorem rk_spec {ci : Nat} {a : List Value} (h : rk ci a = true) : ∃ (c : Nat) (b : List Value), a = .ref c :: b ∧ Nat.beq (kd c) ci = true := by
  unfold rk at h
  split at h
  · exact ⟨_, _, rfl, h⟩
  · cases h
theorem rT_spec {a : List Value} (h : rT a = true) : ∃ (c : Nat) (b : List Value), a = .ref c :: b ∧ 91 ≤ c ∧ c ≤ 97 := by
  unfold rT at h
  split at h
  · simp only [Bool.and_eq_true] at h
    exact ⟨_, _, rfl, Nat.le_of_ble_eq_true h.1, Nat.le_of_ble_eq_true h.2⟩
  · cases h
/-- what a call of a kind gives: the callee's contract, run -/
def RunOK (mi : MI) (cc : ByteArray) (own : String) (nL : Nat) (rt : Option FieldType) (r : List Value → Bool) (f : Nat → Nat) (n pc : Nat) : Prop :=
  ∀ (p : Program) (l : Launch) (e : Env) (R : Room) (s : State) (m : MethodId) (args : Array Value) (below : List Frame) (meth : Method) (c : Code) (G : va_G) (t : T3) (ad : Nat → Nat) (d : Nat), Ctx p R s m args meth c cc own nL rt G t ad d →
    ∀ (st : List Value) (σ : Hp) (K : Po) (H : Heap) (locs : List Loc) (ls : Array Slot), Con mi l G t ad d (f (hdr (st.take n).reverse)) (st.take n).reverse σ K → r (st.take n).reverse = true → (st.take n).length = n → Nat.ble (cs (st.drop n)) 8 = true → va_P G cls (wsA t ad σ) H → va_S (AA ad) s.heap H locs → ls.size = nL →
    ∃ a : Array Value, va_Run p l e R s m args below meth c H locs 0 0 0 0 (F0 m pc ls (st.map (mv ad))) ((st.drop n).map (mv ad)) (Qin G t ad (mi (f (hdr (st.take n).reverse))).2.2.2 K a) (AA ad)
theorem run_V {mi : MI} {cc : ByteArray} {own : String} {nL : Nat} {rt : Option FieldType} {pc ci i y n : Nat} {T : u_T} {N : Nat} (hd : decode cc pc = .ok (.invokevirtual i, 3)) (hm : MOK mi y n) (hv : MOV mi y) (hc : cls[ci]? = some ((mi y).1.cls, T, N)) (h13 : Nat.ble 13 ci = false) (hw : Cond.methodLink own i (mi y).1 ∈ lw_good) : RunOK mi cc own nL rt (rk ci) (fun _ => y) (n + 1) pc := by
  intro p l e R s m args below meth c G t ad d F st σ K H locs ls hcon hrk hlen h8 hP hS hsz
  obtain ⟨hx, hb, hml, hr, hlocks, hown, hts, hK, hJ, hst, hfr, hlo⟩ := F
  obtain ⟨q, b, ea, hq⟩ := rk_spec hrk
  have hlt : q < 128 := kd_lt hq (by cases h9 : Nat.beq ci 99 with | false => rfl | true => rw [Nat.eq_of_beq_eq_true h9] at h13; cases h13)
  have hlb : b.length = n := by
    have := congrArg List.length ea
    rw [List.length_reverse, hlen] at this
    simpa using this.symm
  obtain ⟨m1, m2, m3, m4⟩ := hm
  have h8' := Nat.le_of_ble_eq_true h8
  rw [ea] at hcon
  refine ⟨_, va_runV (As := b.map (mv ad)) (b := ad q) (C := (mi y).1.cls) (Ts := lw_good) ⟨hx, hb, hml, hown, hts⟩ hcon ⟨callB_of n hts (good_ws m1) rfl rfl rfl (hts _ m2) (hts _ hw) m3 ⟨hfr, by show 8 + ((mi y).2.2.1 + 11) + 64 * d ≤ R.locals; omega⟩, hts _ hv.1, hts _ hv.2⟩ ⟨pin_blind, va_recv hK hP hc (by rw [ws_get hlt, cel_o hq h13]), pin_at rfl hP hK hst hS⟩ rfl (by simp [hlb]) hsz (by show st.map (mv ad) = _; rw [st_split ad st (n + 1), ea]; simp [mv]) (by rw [mv_cs]; show 2 * 0 + _ ≤ 8; omega) hd ⟨Nat.zero_le _, Nat.zero_le _⟩⟩
theorem run_S {mi : MI} {cc : ByteArray} {own : String} {nL : Nat} {rt : Option FieldType} {pc i y n : Nat} (hd : decode cc pc = .ok (.invokestatic i, 3)) (hm : MOK mi y n) (hv : Cond.static (mi y).1 ∈ lw_good) (hw : Cond.methodLink own i (mi y).1 ∈ lw_good) : RunOK mi cc own nL rt rS (fun _ => y) n pc := by
  intro p l e R s m args below meth c G t ad d F st σ K H locs ls hcon hrk hlen h8 hP hS hsz
  obtain ⟨hx, hb, hml, hr, hlocks, hown, hts, hK, hJ, hst, hfr, hlo⟩ := F
  obtain ⟨m1, m2, m3, m4⟩ := hm
  have h8' := Nat.le_of_ble_eq_true h8
  refine ⟨_, va_runS (As := (st.take n).reverse.map (mv ad)) (Ts := lw_good) ⟨hx, hb, hml, hown, hts⟩ hcon ⟨callB_of n hts (good_ws m1) rfl rfl rfl (hts _ m2) (hts _ hw) m3 ⟨hfr, by show 8 + ((mi y).2.2.1 + 11) + 64 * d ≤ R.locals; omega⟩, hts _ hv⟩ ⟨pin_blind, pin_at rfl hP hK hst hS⟩ rfl (by rw [List.length_map, List.length_reverse, hlen]) hsz (st_split ad st n) (by rw [mv_cs]; show 2 * 0 + _ ≤ 8; omega) hd ⟨Nat.zero_le _, Nat.zero_le _⟩⟩
/-- the act that a receiver's class selects; a superclass's act -/
theorem th_kd {c : Nat} (h1 : 91 ≤ c) (h2 : c ≤ 97) : c < 128 ∧ Nat.ble 13 (kd c) = false := by
  have : c = 91 ∨ c = 92 ∨ c = 93 ∨ c = 94 ∨ c = 95 ∨ c = 96 ∨ c = 97 := by omega
  rcases this with rfl | rfl | rfl | rfl | rfl | rfl | rfl <;> exact ⟨by omega, rfl⟩
/-- words of an act's call: x is named, the class of cell c selects f c -/
def DOK (mi : MI) (own : String) (i n : Nat) (x : MethodName) (f : Nat → Nat) (c : Nat) : Prop := MOK mi (f c) n ∧ Cond.methodLink own i x ∈ lw_good ∧ Cond.sameMethod x.cls x.cls x.name x.desc ∈ lw_good ∧ Cond.instanceMethod x ∈ lw_good ∧ (∃ (b0 : ByteArray) (m0 : Nat) (r0 : Option FieldType), Cond.code x b0 m0 r0 ∈ lw_good) ∧ (parseMethodDescriptor x.desc).map (fun d => d.parameters.length) = some n ∧ (x.cls ≠ "java/lang/invoke/MethodHandle" ∧ x.cls ≠ "java/lang/invoke/VarHandle") ∧ ∃ (q : vw_C), cls[kd c]? = some q ∧ Cond.selects q.1 x (mi (f c)).1 ∈ lw_good ∧ Cond.instanceMethod (mi (f c)).1 ∈ lw_good
theorem run_D {mi : MI} {cc : ByteArray} {own : String} {nL : Nat} {rt : Option FieldType} {pc i n : Nat} {x : MethodName} {f : Nat → Nat} (hd : decode cc pc = .ok (.invokevirtual i, 3)) (hD : ∀ c, 91 ≤ c → c ≤ 97 → DOK mi own i n x f c) : RunOK mi cc own nL rt rT f (n + 1) pc := by
  intro p l e R s m args below meth c G t ad d F st σ K H locs ls hcon hrk hlen h8 hP hS hsz
  obtain ⟨hx, hb, hml, hr, hlocks, hown, hts, hK, hJ, hst, hfr, hlo⟩ := F
  obtain ⟨q, b, ea, hq1, hq2⟩ := rT_spec hrk
  obtain ⟨hlt, h13⟩ := th_kd hq1 hq2
  have hlb : b.length = n := by
    have := congrArg List.length ea
    rw [List.length_reverse, hlen] at this
    simpa using this.symm
  have hh : hdr (st.take (n + 1)).reverse = q := by rw [ea]; rfl
  rw [hh] at hcon ⊢
  obtain ⟨⟨m1, m2, m3, m4⟩, w1, w2, w3, ⟨b0, m0, r0, w4⟩, w5, w6, qc, w7, w8, w9⟩ := hD q hq1 hq2
  have h8' := Nat.le_of_ble_eq_true h8
  rw [ea] at hcon
  have hT : GoodIn lw_good (va_wsO own i qc.1 x.cls x (mi (f q)).1 (Cond.code (mi (f q)).1 (mi (f q)).2.1 (mi (f q)).2.2.1 (mi (f q)).2.2.2 :: lw_good)) := by
    intro w hw
    have hm : w ∈ lw_good := by
      unfold va_wsO at hw
      rcases List.mem_append.mp hw with hw | hw
      · simp only [List.mem_cons, List.not_mem_nil, or_false] at hw
        rcases hw with rfl | rfl | rfl | rfl | rfl | rfl
        · exact w1
        · exact w2
        · exact w3
        · exact w8
        · exact w9
        · exact m2
      · exact (good_ws m1 w hw).1
    exact ⟨hm, good_of_word (List.mem_filter.mp hm).2⟩
  refine ⟨_, va_runU (As := b.map (mv ad)) (b := ad q) (C := qc.1) (owner := x.cls) (x := x) (Ts := lw_good) ⟨hx, hb, hml, hown, hts⟩ hcon (va_cwO n hts hT rfl rfl rfl (h0 := w4) ⟨w6.1, w6.2, w5⟩ ⟨hfr, by show 8 + ((mi (f q)).2.2.1 + 11) + 64 * d ≤ R.locals; omega⟩) ⟨pin_blind, va_recv hK hP w7 (by rw [ws_get hlt, cel_o (Nat.beq_refl _) h13]), pin_at rfl hP hK hst hS⟩ rfl (by simp [hlb]) hsz (by show st.map (mv ad) = _; rw [st_split ad st (n + 1), ea]; simp [mv]) (by rw [mv_cs]; show 2 * 0 + _ ≤ 8; omega) hd ⟨Nat.zero_le _, Nat.zero_le _⟩⟩
theorem run_U {mi : MI} {cc : ByteArray} {own : String} {nL : Nat} {rt : Option FieldType} {pc i y n : Nat} (hd : decode cc pc = .ok (.invokespecial i, 3)) (hm : MOK mi y n) (hw : Cond.methodLink own i (mi y).1 ∈ lw_good) (hw1 : Cond.sameMethod (mi y).1.cls (mi y).1.cls (mi y).1.name (mi y).1.desc ∈ lw_good) (hw2 : Cond.superclass own (mi y).1.cls ∈ lw_good) (hw3 : Cond.instanceMethod (mi y).1 ∈ lw_good) (hn : (mi y).1.name ≠ "<init>") : RunOK mi cc own nL rt rT (fun _ => y) (n + 1) pc := by
  intro p l e R s m args below meth c G t ad d F st σ K H locs ls hcon hrk hlen h8 hP hS hsz
  obtain ⟨hx, hb, hml, hr, hlocks, hown, hts, hK, hJ, hst, hfr, hlo⟩ := F
  obtain ⟨q, b, ea, hq1, hq2⟩ := rT_spec hrk
  obtain ⟨hlt, h13⟩ := th_kd hq1 hq2
  have hlb : b.length = n := by
    have := congrArg List.length ea
    rw [List.length_reverse, hlen] at this
    simpa using this.symm
  obtain ⟨m1, m2, m3, m4⟩ := hm
  have h8' := Nat.le_of_ble_eq_true h8
  rw [ea] at hcon
  have hk : kd q < cls.length := by
    show kd q < 13
    exact Nat.not_le.mp fun z => by rw [Nat.ble_eq_true_of_le z] at h13; cases h13
  have hT : GoodIn lw_good (va_wsSU own i (mi y).1 (Cond.code (mi y).1 (mi y).2.1 (mi y).2.2.1 (mi y).2.2.2 :: lw_good)) := by
    intro w hw'
    have hm : w ∈ lw_good := by
      unfold va_wsSU at hw'
      rcases List.mem_append.mp hw' with hw' | hw'
      · simp only [List.mem_cons, List.not_mem_nil, or_false] at hw'
        rcases hw' with rfl | rfl | rfl | rfl | rfl
        · exact hw
        · exact hw1
        · exact hw2
        · exact hw3
        · exact m2
      · exact (good_ws m1 w hw').1
    exact ⟨hm, good_of_word (List.mem_filter.mp hm).2⟩
  have hc : cls[kd q]? = some cls[kd q] := List.getElem?_eq_getElem hk
  refine ⟨_, va_runSU (As := b.map (mv ad)) (b := ad q) (hK.1 _ _ hc).2 ⟨hx, hb, hml, hown, hts⟩ hcon (va_cwSU n hts hT rfl rfl rfl ⟨hn, m3.2.2⟩ ⟨hfr, by show 8 + ((mi y).2.2.1 + 11) + 64 * d ≤ R.locals; omega⟩) ⟨pin_blind, va_recv hK hP hc (by rw [ws_get hlt, cel_o (Nat.beq_refl _) h13]), pin_at rfl hP hK hst hS⟩ rfl (by simp [hlb]) hsz (by show st.map (mv ad) = _; rw [st_split ad st (n + 1), ea]; simp [mv]) (by rw [mv_cs]; show 2 * 0 + _ ≤ 8; omega) hd ⟨Nat.zero_le _, Nat.zero_le _⟩⟩
theorem n_cv {mi : MI} {cc : ByteArray} {own : String} {nL : Nat} {rt : Option FieldType} {pc : Nat} {r : List Value → Bool} {y n : Nat} (hrun : RunOK mi cc own nL rt r (fun _ => y) n pc) (hret : (mi y).2.2.2 = none) : SndI mi cc own nL rt (i_cv r y n (pc + 3)) pc := by
  refine ⟨m_cv _ _ _ _, ?_⟩
  intro p l e R s m args below meth c G t ad d Qc F call hcall Q hQ X hX lv st σ h H locs ls hP hS hl
  have F0' := F
  obtain ⟨hx, hb, hml, hr, hlocks, hown, hts, hK, hJ, hst, hfr, hlo⟩ := F
  unfold i_cv at h
  cases hq : (Nat.ble (cs (st.drop n)) 8 && (Nat.beq (st.take n).length n && r (st.take n).reverse)) with
  | false => rw [hq] at h; exact h.elim
  | true =>
    rw [hq] at h
    simp only [Bool.and_eq_true] at hq
    obtain ⟨a, hR⟩ := hrun p l e R s m args below meth c G t ad d F0' st σ _ H locs ls (hcall _ _ _ _ h) hq.2.2 (Nat.eq_of_beq_eq_true hq.2.1) hq.1 hP hS hl.1
    refine run_go hR hS (fun r τ H1 locs1 hrt hk hP1 hS1 => ?_)
    rw [hret] at hrt
    have e : r = none := hrt
    subst e
    exact hX _ _ hk H1 locs1 ls hP1 hS1 hl
theorem n_cI {mi : MI} {cc : ByteArray} {own : String} {nL : Nat} {rt : Option FieldType} {pc : Nat} {r : List Value → Bool} {y n : Nat} (hrun : RunOK mi cc own nL rt r (fun _ => y) n pc) (hret : (mi y).2.2.2 = some .int ∨ (mi y).2.2.2 = some .boolean) : SndI mi cc own nL rt (i_cI r y n (pc + 3)) pc := by
  refine ⟨m_cI _ _ _ _, ?_⟩
  intro p l e R s m args below meth c G t ad d Qc F call hcall Q hQ X hX lv st σ h H locs ls hP hS hl
  have F0' := F
  obtain ⟨hx, hb, hml, hr, hlocks, hown, hts, hK, hJ, hst, hfr, hlo⟩ := F
  unfold i_cI at h
  cases hq : (Nat.ble (cs (st.drop n)) 8 && (Nat.beq (st.take n).length n && r (st.take n).reverse)) with
  | false => rw [hq] at h; exact h.elim
  | true =>
    rw [hq] at h
    simp only [Bool.and_eq_true] at hq
    obtain ⟨a, hR⟩ := hrun p l e R s m args below meth c G t ad d F0' st σ _ H locs ls (hcall _ _ _ _ h) hq.2.2 (Nat.eq_of_beq_eq_true hq.2.1) hq.1 hP hS hl.1
    refine run_go hR hS (fun r τ H1 locs1 hrt hk hP1 hS1 => ?_)
    have e : ∃ v, r = some (.int v) := by rcases hret with q | q <;> (rw [q] at hrt; exact hrt)
    obtain ⟨v, rfl⟩ := e
    exact hX _ _ hk H1 locs1 ls hP1 hS1 hl
theorem n_cL {mi : MI} {cc : ByteArray} {own : String} {nL : Nat} {rt : Option FieldType} {pc : Nat} {r : List Value → Bool} {y n : Nat} (hrun : RunOK mi cc own nL rt r (fun _ => y) n pc) (hret : (mi y).2.2.2 = some .long) : SndI mi cc own nL rt (i_cL r y n (pc + 3)) pc := by
  refine ⟨m_cL _ _ _ _, ?_⟩
  intro p l e R s m args below meth c G t ad d Qc F call hcall Q hQ X hX lv st σ h H locs ls hP hS hl
  have F0' := F
  obtain ⟨hx, hb, hml, hr, hlocks, hown, hts, hK, hJ, hst, hfr, hlo⟩ := F
  unfold i_cL at h
  cases hq : (Nat.ble (cs (st.drop n)) 8 && (Nat.beq (st.take n).length n && r (st.take n).reverse)) with
  | false => rw [hq] at h; exact h.elim
  | true =>
    rw [hq] at h
    simp only [Bool.and_eq_true] at hq
    obtain ⟨a, hR⟩ := hrun p l e R s m args below meth c G t ad d F0' st σ _ H locs ls (hcall _ _ _ _ h) hq.2.2 (Nat.eq_of_beq_eq_true hq.2.1) hq.1 hP hS hl.1
    refine run_go hR hS (fun r τ H1 locs1 hrt hk hP1 hS1 => ?_)
    rw [hret] at hrt
    obtain ⟨v, rfl⟩ := (show ∃ v, r = some (.long v) from hrt)
    exact hX _ _ hk H1 locs1 ls hP1 hS1 hl
theorem n_cD {mi : MI} {cc : ByteArray} {own : String} {nL : Nat} {rt : Option FieldType} {pc : Nat} {f : Nat → Nat} {n : Nat} (hrun : RunOK mi cc own nL rt rT f n pc) (hret : ∀ c, 91 ≤ c → c ≤ 97 → (mi (f c)).2.2.2 = some .int) : SndI mi cc own nL rt (i_cD f n (pc + 3)) pc := by
  refine ⟨m_cD _ _ _, ?_⟩
  intro p l e R s m args below meth c G t ad d Qc F call hcall Q hQ X hX lv st σ h H locs ls hP hS hl
  have F0' := F
  obtain ⟨hx, hb, hml, hr, hlocks, hown, hts, hK, hJ, hst, hfr, hlo⟩ := F
  unfold i_cD at h
  cases hq : (Nat.ble (cs (st.drop n)) 8 && (Nat.beq (st.take n).length n && rT (st.take n).reverse)) with
  | false => rw [hq] at h; exact h.elim
  | true =>
    rw [hq] at h
    simp only [Bool.and_eq_true] at hq
    obtain ⟨a, hR⟩ := hrun p l e R s m args below meth c G t ad d F0' st σ _ H locs ls (hcall _ _ _ _ h) hq.2.2 (Nat.eq_of_beq_eq_true hq.2.1) hq.1 hP hS hl.1
    refine run_go hR hS (fun r τ H1 locs1 hrt hk hP1 hS1 => ?_)
    obtain ⟨q, b, ea, hq1, hq2⟩ := rT_spec hq.2.2
    rw [hret _ (by rw [ea]; exact hq1) (by rw [ea]; exact hq2)] at hrt
    obtain ⟨v, rfl⟩ := (show ∃ v, r = some (.int v) from hrt)
    exact hX _ _ hk H1 locs1 ls hP1 hS1 hl
theorem ls_go {pc : Int} {dflt : Int} {k : Nat} (hk : pc + dflt = (k : Int)) {X : Fr → Hp → Prop} {lv : Lv} {st : List Value} {σ : Hp} {x : Int32} : ∀ {ps : List (Int × Int)} {ts : List (Int32 × Nat)}, ps.map (fun q => (q.1, pc + q.2)) = ts.map (fun q => (q.1.toInt, (q.2 : Int))) → swc X lv st σ x k ts → ∃ g : Nat, X (g, lv, st) σ ∧ pc + Op.lookupswitch.offset ps dflt x.toInt = (g : Int) := by
  intro ps
  induction ps with
  | nil =>
    intro ts he h
    cases ts with
    | nil => exact ⟨k, h, hk⟩
    | cons a l => simp at he
  | cons a l ih =>
    intro ts he h
    cases ts with
    | nil => simp at he
    | cons b l2 =>
      obtain ⟨a1, a2⟩ := a
      obtain ⟨v, g⟩ := b
      simp only [List.map_cons, List.cons.injEq, Prod.mk.injEq] at he
      obtain ⟨⟨e1, e2⟩, e3⟩ := he
      unfold swc at h
      rw [Op.lookupswitch.offset_cons]
      by_cases e : x = v
      · rw [if_pos e] at h
        rw [if_pos (by rw [e1, e])]
        exact ⟨g, h, e2⟩
      · rw [if_neg e] at h
        rw [if_neg (by rw [e1]; exact fun z => e (Int32.toInt_inj.mp z.symm))]
        exact ih e3 h
theorem n_lsw {mi : MI} {cc : ByteArray} {own : String} {nL : Nat} {rt : Option FieldType} {pc : Nat} {dflt : Int} {ps : Array (Int × Int)} {len : Nat} {ts : List (Int32 × Nat)} {k : Nat} (hd : decode cc pc = .ok (.lookupswitch dflt ps, len)) (hok : ps.toList.map (fun q => (q.1, (pc : Int) + q.2)) = ts.map (fun q => (q.1.toInt, (q.2 : Int)))) (hp : (ps.toList.zip (ps.toList.drop 1)).all (fun (a, next) => a.1 < next.1) = true) (hk : (pc : Int) + dflt = (k : Int)) : SndI mi cc own nL rt (i_sw ts k) pc := by
  refine ⟨m_sw _ _, ?_⟩
  intro p l e R s m args below meth c G t ad d Qc F call hcall Q hQ X hX lv st σ h H locs ls hP hS hl
  have F0' := F
  obtain ⟨hx, hb, hml, hr, hlocks, hown, hts, hK, hJ, hst, hfr, hlo⟩ := F
  unfold i_sw at h
  split at h
  · obtain ⟨g, hg, hgo⟩ := ls_go hk hok h
    exact lv_lookup hx hb hd hp rfl hgo (hX _ _ hg H locs ls hP hS hl)
  · exact h.elim
