def R_law : String := "StoreStreamsLaw"
def lw_P (b : Addr) (xs : List Int32) (args : Array Value) (s : State) : Prop := args = #[.ref b] ∧ s.IntsAt b xs ∧ xs.length ≤ 384 ∧ (Jvm.Cond.and given_1 narrow_1).before args s = true
def lw_Q (_ : Array Value) (s : State) (o : Outcome) (t : State) : Prop := o = .returned (some (.int 1)) ∧ Framed s o t [] 600000 7302250
def lw_Z (below : List Frame) (a : Array Value) (s : State) : State → Prop := fun t => ∃ o, t.status = .running ∧ Ended t below o ∧ lw_Q a s o t
/-- the law's own end, with 1 on the stack, nothing written that was there before, its room as the claim has it -/
theorem lw_ret {p : Program} {l : Launch} {e : Env} {s : State} {m : MethodId} {below : List Frame} {meth : Method} {c : Code} {b : Nat} (hx : p.tables.exec = Jvm.exec) (hb : c.code = code) (hr : meth.sig.returnType = ret) (hlocks : meth.locks = false) {pc : Nat} {H : Heap} {ls : Array Slot} (hdg : decode code pc = .ok (.ireturn, 1)) : W p l e room_1 s m #[Value.ref b] below meth c H [] 600000 7302250 (lw_Z below #[Value.ref b] s) (F0 m pc ls [.int 1]) := by
  intro T hT X
  obtain ⟨fs, hret, hrun, hended, hW, hframe⟩ := X.leave (v := some (.int 1)) (hlocks := hlocks) (fun h => by rw [hr] at h; cases h)
  have hmeth' : T.vm.method? m = some meth := X.method'
  refine ⟨T.setFrames fs, ?_, .returned (some (.int 1)), hrun, hended, rfl, ⟨_, rfl⟩, hW, hframe⟩
  jvm_step X.here [X.here.top, hx, hb, hdg, hmeth', hr, ret, narrow_b1]
  (try refine ⟨rfl, ?_⟩); (try refine ⟨rfl, ?_⟩)
  first | (intro acts; rw [hret _ acts rfl rfl rfl]) | rw [hret _ _ rfl rfl rfl]
  exact Steps.refl _
/-- what holds at the law's entry: the machine, the code, the tables' words (any of lw_tbl by 'hts w (by decide +kernel)'), the script of L ints xs at the cell b, what the Statement gives of the start (any of its parts by flat_of_before) -/
def lw_At (p : Program) (s : State) (m : MethodId) (meth : Method) (c : Code) (b L : Nat) (xs : Nat → Int32) : Prop :=
  p.tables.exec = Jvm.exec ∧ c.code = code ∧ meth.sig.returnType = ret ∧ c.maxLocals = 4 ∧ s.vm.findClass R_law = some m.cls ∧ (∀ w ∈ lw_tbl, w.before #[Value.ref b] s = true) ∧ va_X b L xs s s.heap ∧ b < s.heap.size ∧ meth.locks = false ∧ (Jvm.Cond.and given_1 narrow_1).before #[Value.ref b] s = true
/-! ===== the law's calls ===== -/
section LAW
variable {p : Program} {l : Launch} {e : Env} {R : Room} {s : State} {m : MethodId} {args : Array Value} {below : List Frame} {meth : Method} {c : Code} {H : Heap} {locs : List Loc} {cells slots : Nat} {Q : State → Prop} {G : va_G} {t : T3} {ad : Nat → Nat}
theorem law_go {K : Po} {Qr : State → Outcome → State → Prop} {pc : Nat} {ls : Array Slot} {st0 rest : List Value} (hA : ∀ c, c < 128 → s.heap.size ≤ ad c) (hr : va_Run p l e R s m args below meth c H locs cells slots 0 0 (F0 m pc ls st0) rest Qr (AA ad)) (hS : va_S (fun q => s.heap.size ≤ q) s.heap H locs) (hF : ∀ st oc u, Qr st oc u → va_F (AA ad) st u)
    (kk : ∀ (v : Option Value) (st0 u : State) (H1 : Heap) (locs1 : List Loc), Qr st0 (.returned v) u → u.heap = H1 → va_S (fun q => s.heap.size ≤ q) s.heap H1 locs1 → W p l e R s m args below meth c H1 locs1 cells slots Q (F0 m (pc + 3) ls (v.toList ++ rest))) : W p l e R s m args below meth c H locs cells slots Q (F0 m pc ls st0) := by
  intro T hT X
  obtain ⟨v, st₀, u, T', L, h0, X', hL, e1, e2, hq, stp⟩ := hr T hT X
  obtain ⟨hz, hf⟩ := hF _ _ _ hq
  rw [h0] at hz hf
  have hAA : ∀ q, AA ad q → s.heap.size ≤ q := fun q ⟨c, h1, h2⟩ => by rw [h2]; exact hA c h1
  obtain ⟨t2, a1, b1⟩ := kk v st₀ u T'.heap (locs ++ L) hq e1.symm
    ⟨Nat.le_trans hS.1 (by rw [e1]; exact hz), fun q h1 h2 => by rw [e1, hf q (Nat.lt_of_lt_of_le h1 hS.1) (fun z => h2 (hAA q z))]; exact hS.2.1 q h1 h2, fun q hq => by
      rcases List.mem_append.mp hq with h | h
      · exact hS.2.2 q h
      · exact hAA _ (hL q h)⟩ T' rfl X'
  exact ⟨t2, stp t2 a1, b1⟩
theorem law_pin {σ : Hp} {a : List Value} {av : Array Value} (ha : av = (a.map (mv ad)).toArray) (hP : va_P G cls (wsA t ad σ) H) (hK : va_K G cls (tysA t) s) (hst : Stat (AA ad) ad s s.heap) (hS : va_S (fun q => s.heap.size ≤ q) s.heap H locs) : ∀ U : State, U.heap = H → s.WarmedH U.vm → Pin G t ad σ a av U := by
  intro U hU hW
  subst ha
  exact ⟨rfl, by rw [hU]; exact hP, va_K.moved hW.alike hK, by rw [hU]; exact hst.to hW (fun q h1 _ => hS.2.1 q h1 (Nat.not_le.mpr h1))⟩
/-- a call of one of the two objects -/
theorem law_V {cc : ByteArray} {own : String} {nL d y n i c0 ci N : Nat} {T : u_T} {pc : Nat} {ls : Array Slot} {as rest : List Value} {σ : Hp} {K : Po} (hx : p.tables.exec = Jvm.exec) (hb : c.code = cc) (hml : c.maxLocals = nL) (hown : s.vm.findClass own = some m.cls) (hts : ∀ w ∈ lw_good, w.before args s = true) (hK : va_K G cls (tysA t) s) (hJ : Inj ad) (hst : Stat (AA ad) ad s s.heap) (hA : ∀ c, c < 128 → s.heap.size ≤ ad c) (hd1 : d + 1 ≤ R.frames) (hd2 : 64 * d + 64 ≤ R.locals)
    (hc : cls[ci]? = some ((mi y).1.cls, T, N)) (hk : Nat.beq (kd c0) ci = true) (h13 : Nat.ble 13 ci = false) (hm : MOK mi y n) (hv : MOV mi y) (hw : Cond.methodLink own i (mi y).1 ∈ lw_good) (hdg : decode cc pc = .ok (.invokevirtual i, 3)) (has : as.length = n) (h8 : (rest.map fun v => v.category).sum ≤ 8) (hcall : CTs d y (.ref c0 :: as) σ K) (hP : va_P G cls (wsA t ad σ) H) (hS : va_S (fun q => s.heap.size ≤ q) s.heap H locs) (hsz : ls.size = nL) (hcR : cells ≤ R.cells ∧ slots ≤ R.slots)
    (kk : ∀ (r : Option Value) (τ : Hp) (H1 : Heap) (locs1 : List Loc), rtok (mi y).2.2.2 r → K r τ → va_P G cls (wsA t ad τ) H1 → va_S (fun q => s.heap.size ≤ q) s.heap H1 locs1 → W p l e R s m args below meth c H1 locs1 cells slots Q (F0 m (pc + 3) ls ((r.map (mv ad)).toList ++ rest))) :
    W p l e R s m args below meth c H locs cells slots Q (F0 m pc ls ((as.map (mv ad)).reverse ++ .ref (ad c0) :: rest)) := by
  have hcon := cts_sound l G t ad hJ d y _ σ K hcall
  obtain ⟨m1, m2, m3, m4⟩ := hm
  have hlt : c0 < 128 := kd_lt hk (by cases h9 : Nat.beq ci 99 with | false => rfl | true => rw [Nat.eq_of_beq_eq_true h9] at h13; cases h13)
  have hrun := va_runV (e := e) (below := below) (meth := meth) (As := as.map (mv ad)) (b := ad c0) (C := (mi y).1.cls) (Ts := lw_good) (rest := rest) (locs := locs) (cells := cells) (slots := slots) (g := F0 m pc ls ((as.map (mv ad)).reverse ++ .ref (ad c0) :: rest)) ⟨hx, hb, hml, hown, hts⟩ hcon ⟨callB_of n hts (good_ws m1) rfl rfl rfl (hts _ m2) (hts _ hw) m3 ⟨hd1, by show 8 + ((mi y).2.2.1 + 11) + 64 * d ≤ R.locals; omega⟩, hts _ hv.1, hts _ hv.2⟩ ⟨pin_blind, va_recv hK hP hc (by rw [ws_get hlt, cel_o hk h13]), law_pin rfl hP hK hst hS⟩ rfl (by rw [List.length_map, has]) hsz rfl (by show 2 * 0 + _ ≤ 8; omega) hdg ⟨by omega, by omega⟩
  refine law_go (K := K) hA hrun hS (fun st oc u hq => hq.2) (fun v st0 u H1 locs1 hq hu hS1 => ?_)
  obtain ⟨⟨r, τ, hv2, hrt, hk2, hp⟩, -⟩ := hq
  have ev : v = r.map (mv ad) := by injection hv2
  subst ev
  exact kk r τ H1 locs1 hrt hk2 (by rw [← hu]; exact hp) hS1
theorem law_R {cc : ByteArray} {own : String} {nL d i : Nat} {pc : Nat} {ls : Array Slot} {rest : List Value} {σ : Hp} {K : Po} (hx : p.tables.exec = Jvm.exec) (hb : c.code = cc) (hml : c.maxLocals = nL) (hown : s.vm.findClass own = some m.cls) (hts : ∀ w ∈ lw_good, w.before args s = true) (hK : va_K G cls (tysA t) s) (hJ : Inj ad) (hst : Stat (AA ad) ad s s.heap) (hA : ∀ c, c < 128 → s.heap.size ≤ ad c) (hd1 : d + 2 ≤ R.frames) (hd2 : 64 * (d + 1) + 64 ≤ R.locals)
    (hw0 : Cond.code yX11_read cX11_read 2 (some .int) ∈ lw_good) (hw1 : Cond.initialized "StoreStreams" ∈ lw_good) (hw2 : Cond.instanceMethod yX11_read ∈ lw_good) (hw3 : Cond.selects "StoreStreams" yX11_read yX11_read ∈ lw_good) (hw : Cond.methodLink own i yX11_read ∈ lw_good) (hdg : decode cc pc = .ok (.invokevirtual i, 3)) (h8 : (rest.map fun v => v.category).sum ≤ 8) (hcall : RDs d σ K) (hP : va_P G cls (wsA t ad σ) H) (hS : va_S (fun q => s.heap.size ≤ q) s.heap H locs) (hsz : ls.size = nL) (hcR : cells ≤ R.cells ∧ slots ≤ R.slots)
    (kk : ∀ (r : Int32) (τ : Hp) (ad' : Nat → Nat) (H1 : Heap) (locs1 : List Loc), K (some (.int r)) τ → (ad' = ad ∨ ad' = adS ad) → va_P G cls (wsA t ad' τ) H1 → va_S (fun q => s.heap.size ≤ q) s.heap H1 locs1 → W p l e R s m args below meth c H1 locs1 cells slots Q (F0 m (pc + 3) ls (.int r :: rest))) :
    W p l e R s m args below meth c H locs cells slots Q (F0 m pc ls (.ref (ad 0) :: rest)) := by
  have hcon := read_met l G t ad hJ d σ K hcall
  have hrun := va_runV (e := e) (below := below) (meth := meth) (As := []) (b := ad 0) (C := "StoreStreams") (Ts := lw_good) (rest := rest) (locs := locs) (cells := cells) (slots := slots) (g := F0 m pc ls (.ref (ad 0) :: rest)) ⟨hx, hb, hml, hown, hts⟩ hcon ⟨callB_of 0 hts (good_ws hw0) rfl rfl rfl (hts _ hw1) (hts _ hw) (by decide +kernel) ⟨hd1, by show 8 + (2 + 11) + 64 * (d + 1) ≤ R.locals; omega⟩, hts _ hw2, hts _ hw3⟩ ⟨pin_blind, va_recv (ci := 11) (q := (RX11, TX11, 20)) (q0 := 0) (a := ad 0) hK hP rfl ((ws_get (c := 0) (by omega)).trans (by rw [cel_o (c := 0) (ci := 11) rfl rfl])), law_pin rfl hP hK hst hS⟩ rfl rfl hsz rfl (by show 2 * 0 + _ ≤ 8; omega) hdg ⟨by omega, by omega⟩
  refine law_go (K := K) hA hrun hS (fun st oc u hq => hq.2) (fun v st0 u H1 locs1 hq hu hS1 => ?_)
  obtain ⟨⟨r, τ, ad', hv2, hk2, hor, hp⟩, -⟩ := hq
  have ev : v = some (.int r) := by injection hv2
  subst ev
  exact kk r τ ad' H1 locs1 hk2 hor (by rw [← hu]; exact hp) hS1
end LAW
def LI (s : State) (aS aM : Nat) (ad : Nat → Nat) : Prop := Inj ad ∧ ad 0 = aS ∧ ad 98 = aM ∧ (∀ c, c < 128 → s.heap.size ≤ ad c) ∧ Stat (AA ad) ad s s.heap
theorem LI.sw {s : State} {aS aM : Nat} {ad : Nat → Nat} (h : LI s aS aM ad) : LI s aS aM (adS ad) := by
  obtain ⟨h1, h2, h3, h4, h5⟩ := h
  exact ⟨adS_inj h1, by rw [adS_eq]; exact h2, by rw [adS_eq, sw_big (by omega)]; exact h3, fun c hc => by rw [adS_eq]; exact h4 _ (sw_sw c hc).2, by rw [adS_AA]; exact Stat_S h5⟩
def O_feed (Rel : Hp → Prop) : Prop := ∀ (σ : Hp) (a1 : Int64) (a2 : Int32), Rel σ → CTs 60 y_SS_feed [.ref 0, .long a1, .int a2] σ (fun r σ1 => CTs 60 y_M_feed [.ref 98, .long a1, .int a2] σ1 (fun r' σ2 => oI r = oI r' ∧ Rel σ2))
def O_read (Rel : Hp → Prop) : Prop := ∀ (σ : Hp), Rel σ → RDs 60 σ (fun r σ1 => CTs 60 y_M_read [.ref 98] σ1 (fun r' σ2 => oI r = oI r' ∧ Rel σ2))
def O_fault (Rel : Hp → Prop) : Prop := ∀ (σ : Hp) (a1 : Int32), Rel σ → CTs 60 y_SS_fault [.ref 0, .int a1] σ (fun r σ1 => CTs 60 y_M_fault [.ref 98, .int a1] σ1 (fun r' σ2 => oI r = oI r' ∧ Rel σ2))
def O_named (Rel : Hp → Prop) : Prop := ∀ (σ : Hp) (a1 : Int32), Rel σ → CTs 60 y_SS_named [.ref 0, .int a1] σ (fun r σ1 => CTs 60 y_M_named [.ref 98, .int a1] σ1 (fun r' σ2 => oI r = oI r' ∧ Rel σ2))
def O_thing (Rel : Hp → Prop) : Prop := ∀ (σ : Hp) (a1 : Int32) (a2 : Int32), Rel σ → CTs 60 y_SS_thing [.ref 0, .int a1, .int a2] σ (fun r σ1 => CTs 60 y_M_thing [.ref 98, .int a1, .int a2] σ1 (fun r' σ2 => oI r = oI r' ∧ Rel σ2))
def O_value (Rel : Hp → Prop) : Prop := ∀ (σ : Hp) (a1 : Int32), Rel σ → CTs 60 y_SS_value [.ref 0, .int a1] σ (fun r σ1 => CTs 60 y_M_value [.ref 98, .int a1] σ1 (fun r' σ2 => oI r = oI r' ∧ Rel σ2))
def O_at (Rel : Hp → Prop) : Prop := ∀ (σ : Hp) (a1 : Int32) (a2 : Int32), Rel σ → CTs 60 y_SS_at [.ref 0, .int a1, .int a2] σ (fun r σ1 => CTs 60 y_M_at [.ref 98, .int a1, .int a2] σ1 (fun r' σ2 => oI r = oI r' ∧ Rel σ2))
def O_flow (Rel : Hp → Prop) : Prop := ∀ (σ : Hp) (a1 : Int32) (a2 : Int32), Rel σ → CTs 60 y_SS_flow [.ref 0, .int a1, .int a2] σ (fun r σ1 => CTs 60 y_M_flow [.ref 98, .int a1, .int a2] σ1 (fun r' σ2 => oI r = oI r' ∧ Rel σ2))
def O_run (Rel : Hp → Prop) : Prop := ∀ (σ : Hp) (a1 : Int32), Rel σ → CTs 60 y_SS_run [.ref 0, .int a1] σ (fun r σ1 => CTs 60 y_M_run [.ref 98, .int a1] σ1 (fun r' σ2 => oI r = oI r' ∧ Rel σ2))
def O_begin (Rel : Hp → Prop) : Prop := ∀ (σ : Hp) , Rel σ → CTs 60 y_SS_begin [.ref 0] σ (fun r σ1 => CTs 60 y_M_begin [.ref 98] σ1 (fun r' σ2 => oI r = oI r' ∧ Rel σ2))
def O_change (Rel : Hp → Prop) : Prop := ∀ (σ : Hp) (a1 : Int32) (a2 : Int32), Rel σ → CTs 60 y_SS_change [.ref 0, .int a1, .int a2] σ (fun r σ1 => CTs 60 y_M_change [.ref 98, .int a1, .int a2] σ1 (fun r' σ2 => oI r = oI r' ∧ Rel σ2))
def O_event (Rel : Hp → Prop) : Prop := ∀ (σ : Hp) (a1 : Int32) (a2 : Int32) (a3 : Int32), Rel σ → CTs 60 y_SS_event [.ref 0, .int a1, .int a2, .int a3] σ (fun r σ1 => CTs 60 y_M_event [.ref 98, .int a1, .int a2, .int a3] σ1 (fun r' σ2 => oI r = oI r' ∧ Rel σ2))
def O_sum (Rel : Hp → Prop) : Prop := ∀ (σ : Hp) (a1 : Int32), Rel σ → CTs 60 y_SS_sum [.ref 0, .int a1] σ (fun r σ1 => CTs 60 y_M_sum [.ref 98, .int a1] σ1 (fun r' σ2 => oL r = oL r' ∧ Rel σ2))
def O_moves (Rel : Hp → Prop) : Prop := ∀ (σ : Hp) (a1 : Int32), Rel σ → CTs 60 y_SS_moves [.ref 0, .int a1] σ (fun r σ1 => CTs 60 y_M_moves [.ref 98, .int a1] σ1 (fun r' σ2 => oI r = oI r' ∧ Rel σ2))
def O_reached (Rel : Hp → Prop) : Prop := ∀ (σ : Hp) (a1 : Int32), Rel σ → CTs 60 y_SS_reached [.ref 0, .int a1] σ (fun r σ1 => CTs 60 y_M_reached [.ref 98, .int a1] σ1 (fun r' σ2 => oI r = oI r' ∧ Rel σ2))
def O_rings (Rel : Hp → Prop) : Prop := ∀ (σ : Hp) , Rel σ → CTs 60 y_SS_rings [.ref 0] σ (fun r σ1 => CTs 60 y_M_rings [.ref 98] σ1 (fun r' σ2 => oI r = oI r' ∧ Rel σ2))
def O_ring (Rel : Hp → Prop) : Prop := ∀ (σ : Hp) (a1 : Int32) (a2 : Int32), Rel σ → CTs 60 y_SS_ring [.ref 0, .int a1, .int a2] σ (fun r σ1 => CTs 60 y_M_ring [.ref 98, .int a1, .int a2] σ1 (fun r' σ2 => oI r = oI r' ∧ Rel σ2))
def O_rest (Rel : Hp → Prop) : Prop := ∀ (σ : Hp) (a1 : Int32), Rel σ → CTs 60 y_SS_rest [.ref 0, .int a1] σ (fun r σ1 => CTs 60 y_M_rest [.ref 98, .int a1] σ1 (fun r' σ2 => oI r = oI r' ∧ Rel σ2))
def O_swing (Rel : Hp → Prop) : Prop := ∀ (σ : Hp) (a1 : Int32) (a2 : Int32), Rel σ → CTs 60 y_SS_swing [.ref 0, .int a1, .int a2] σ (fun r σ1 => CTs 60 y_M_swing [.ref 98, .int a1, .int a2] σ1 (fun r' σ2 => oI r = oI r' ∧ Rel σ2))
def O_pull (Rel : Hp → Prop) : Prop := ∀ (σ : Hp) (a1 : Int32) (a2 : Int32) (a3 : Int32) (a4 : Int32), Rel σ → CTs 60 y_SS_pull [.ref 0, .int a1, .int a2, .int a3, .int a4] σ (fun r σ1 => CTs 60 y_M_pull [.ref 98, .int a1, .int a2, .int a3, .int a4] σ1 (fun r' σ2 => oI r = oI r' ∧ Rel σ2))
def O_best (Rel : Hp → Prop) : Prop := ∀ (σ : Hp) (a1 : Int32) (a2 : Int32) (a3 : Int32) (a4 : Int32) (a5 : Int32), Rel σ → CTs 60 y_SS_best [.ref 0, .int a1, .int a2, .int a3, .int a4, .int a5] σ (fun r σ1 => CTs 60 y_M_best [.ref 98, .int a1, .int a2, .int a3, .int a4, .int a5] σ1 (fun r' σ2 => oI r = oI r' ∧ Rel σ2))
def O_miss (Rel : Hp → Prop) : Prop := ∀ (σ : Hp) (a1 : Int32) (a2 : Int32), Rel σ → CTs 60 y_SS_miss [.ref 0, .int a1, .int a2] σ (fun r σ1 => CTs 60 y_M_miss [.ref 98, .int a1, .int a2] σ1 (fun r' σ2 => oL r = oL r' ∧ Rel σ2))
def O_fit (Rel : Hp → Prop) : Prop := ∀ (σ : Hp) (a1 : Int32) (a2 : Int32) (a3 : Int32) (a4 : Int32) (a5 : Int32), Rel σ → CTs 60 y_SS_fit [.ref 0, .int a1, .int a2, .int a3, .int a4, .int a5] σ (fun r σ1 => CTs 60 y_M_fit [.ref 98, .int a1, .int a2, .int a3, .int a4, .int a5] σ1 (fun r' σ2 => oI r = oI r' ∧ Rel σ2))
def O_prove (Rel : Hp → Prop) : Prop := ∀ (σ : Hp) (a1 : Int32), Rel σ → CTs 60 y_SS_prove [.ref 0, .int a1] σ (fun r σ1 => CTs 60 y_M_prove [.ref 98, .int a1] σ1 (fun r' σ2 => oI r = oI r' ∧ Rel σ2))
def O_row (Rel : Hp → Prop) : Prop := ∀ (σ : Hp) (a1 : Int32) (a2 : Int32), Rel σ → CTs 60 y_SS_row [.ref 0, .int a1, .int a2] σ (fun r σ1 => CTs 60 y_M_row [.ref 98, .int a1, .int a2] σ1 (fun r' σ2 => oI r = oI r' ∧ Rel σ2))
def O_alterRow (Rel : Hp → Prop) : Prop := ∀ (σ : Hp) (a1 : Int32) (a2 : Int32) (a3 : Int32), Rel σ → CTs 60 y_SS_alterRow [.ref 0, .int a1, .int a2, .int a3] σ (fun r σ1 => CTs 60 y_M_alterRow [.ref 98, .int a1, .int a2, .int a3] σ1 (fun r' σ2 => oI r = oI r' ∧ Rel σ2))
def O_judge (Rel : Hp → Prop) : Prop := ∀ (σ : Hp) (a1 : Int32), Rel σ → CTs 60 y_SS_judge [.ref 0, .int a1] σ (fun r σ1 => CTs 60 y_M_judge [.ref 98, .int a1] σ1 (fun r' σ2 => oI r = oI r' ∧ Rel σ2))
def O_sheet (Rel : Hp → Prop) : Prop := ∀ (σ : Hp) (a1 : Int32) (a2 : Int32) (a3 : Int32), Rel σ → CTs 60 y_SS_sheet [.ref 0, .int a1, .int a2, .int a3] σ (fun r σ1 => CTs 60 y_M_sheet [.ref 98, .int a1, .int a2, .int a3] σ1 (fun r' σ2 => oI r = oI r' ∧ Rel σ2))
def O_put (Rel : Hp → Prop) : Prop := ∀ (σ : Hp) (a1 : Int32) (a2 : Int32) (a3 : Int32), Rel σ → CTs 60 y_SS_put [.ref 0, .int a1, .int a2, .int a3] σ (fun r σ1 => CTs 60 y_M_put [.ref 98, .int a1, .int a2, .int a3] σ1 (fun r' σ2 => oI r = oI r' ∧ Rel σ2))
def O_item (Rel : Hp → Prop) : Prop := ∀ (σ : Hp) (a1 : Int32) (a2 : Int32) (a3 : Int32), Rel σ → CTs 60 y_SS_item [.ref 0, .int a1, .int a2, .int a3] σ (fun r σ1 => CTs 60 y_M_item [.ref 98, .int a1, .int a2, .int a3] σ1 (fun r' σ2 => oI r = oI r' ∧ Rel σ2))
def O_shelf (Rel : Hp → Prop) : Prop := ∀ (σ : Hp) (a1 : Int32) (a2 : Int32) (a3 : Int32), Rel σ → CTs 60 y_SS_shelf [.ref 0, .int a1, .int a2, .int a3] σ (fun r σ1 => CTs 60 y_M_shelf [.ref 98, .int a1, .int a2, .int a3] σ1 (fun r' σ2 => oI r = oI r' ∧ Rel σ2))
def O_taken (Rel : Hp → Prop) : Prop := ∀ (σ : Hp) (a1 : Int32) (a2 : Int32), Rel σ → CTs 60 y_SS_taken [.ref 0, .int a1, .int a2] σ (fun r σ1 => CTs 60 y_M_taken [.ref 98, .int a1, .int a2] σ1 (fun r' σ2 => oI r = oI r' ∧ Rel σ2))
def O_act (Rel : Hp → Prop) : Prop := ∀ (σ : Hp) (a1 : Int32) (a2 : Int32) (a3 : Int32), Rel σ → CTs 60 y_SS_act [.ref 0, .int a1, .int a2, .int a3] σ (fun r σ1 => CTs 60 y_M_act [.ref 98, .int a1, .int a2, .int a3] σ1 (fun r' σ2 => oI r = oI r' ∧ Rel σ2))
def O_trace (Rel : Hp → Prop) : Prop := ∀ (σ : Hp) (a1 : Int32), Rel σ → CTs 60 y_SS_trace [.ref 0, .int a1] σ (fun r σ1 => CTs 60 y_M_trace [.ref 98, .int a1] σ1 (fun r' σ2 => oI r = oI r' ∧ Rel σ2))
def O_many (Rel : Hp → Prop) : Prop := ∀ (σ : Hp) (a1 : Int32), Rel σ → CTs 60 y_SS_many [.ref 0, .int a1] σ (fun r σ1 => CTs 60 y_M_many [.ref 98, .int a1] σ1 (fun r' σ2 => oI r = oI r' ∧ Rel σ2))
def O_keep (Rel : Hp → Prop) : Prop := ∀ (σ : Hp) , Rel σ → CTs 60 y_SS_keep [.ref 0] σ (fun r σ1 => CTs 60 y_M_keep [.ref 98] σ1 (fun r' σ2 => oI r = oI r' ∧ Rel σ2))
def O_back (Rel : Hp → Prop) : Prop := ∀ (σ : Hp) , Rel σ → CTs 60 y_SS_back [.ref 0] σ (fun r σ1 => CTs 60 y_M_back [.ref 98] σ1 (fun r' σ2 => oI r = oI r' ∧ Rel σ2))
def OPS (Rel : Hp → Prop) : Prop := O_feed Rel ∧ O_read Rel ∧ O_fault Rel ∧ O_named Rel ∧ O_thing Rel ∧ O_value Rel ∧ O_at Rel ∧ O_flow Rel ∧ O_run Rel ∧ O_begin Rel ∧ O_change Rel ∧ O_event Rel ∧ O_sum Rel ∧ O_moves Rel ∧ O_reached Rel ∧ O_rings Rel ∧ O_ring Rel ∧ O_rest Rel ∧ O_swing Rel ∧ O_pull Rel ∧ O_best Rel ∧ O_miss Rel ∧ O_fit Rel ∧ O_prove Rel ∧ O_row Rel ∧ O_alterRow Rel ∧ O_judge Rel ∧ O_sheet Rel ∧ O_put Rel ∧ O_item Rel ∧ O_shelf Rel ∧ O_taken Rel ∧ O_act Rel ∧ O_trace Rel ∧ O_many Rel ∧ O_keep Rel ∧ O_back Rel
theorem lg_cmp_self {x y : Int64} (h : x = y) : lg_cmp x y = 0 := by subst h; simp [lg_cmp]
theorem w_466 : Cond.methodLink "StoreStreamsLaw" 15 yX11_feed ∈ lw_good := lg_t2 122 rfl rfl
theorem w_470 : Cond.methodLink "StoreStreamsLaw" 20 yX11_read ∈ lw_good := lg_t2 126 rfl rfl
theorem w_471 : Cond.instanceMethod yX11_read ∈ lw_good := lg_t2 127 rfl rfl
theorem w_472 : Cond.selects "StoreStreams" yX11_read yX11_read ∈ lw_good := lg_t2 128 rfl rfl
theorem w_645 : Cond.methodLink "StoreStreamsLaw" 25 yX11_fault ∈ lw_good := lg_t3 61 rfl rfl
theorem w_649 : Cond.methodLink "StoreStreamsLaw" 30 yX11_named ∈ lw_good := lg_t3 65 rfl rfl
theorem w_654 : Cond.methodLink "StoreStreamsLaw" 34 yX11_thing ∈ lw_good := lg_t3 70 rfl rfl
theorem w_659 : Cond.methodLink "StoreStreamsLaw" 39 yX11_value ∈ lw_good := lg_t3 75 rfl rfl
theorem w_664 : Cond.methodLink "StoreStreamsLaw" 43 yX11_at ∈ lw_good := lg_t3 80 rfl rfl
theorem w_672 : Cond.methodLink "StoreStreamsLaw" 47 yX11_flow ∈ lw_good := lg_t3 88 rfl rfl
theorem w_676 : Cond.methodLink "StoreStreamsLaw" 51 yX11_run ∈ lw_good := lg_t3 92 rfl rfl
theorem w_698 : Cond.methodLink "StoreStreamsLaw" 55 yX11_begin ∈ lw_good := lg_t3 114 rfl rfl
theorem w_702 : Cond.methodLink "StoreStreamsLaw" 59 yX11_change ∈ lw_good := lg_t3 118 rfl rfl
theorem w_714 : Cond.methodLink "StoreStreamsLaw" 63 yX11_event ∈ lw_good := lg_t3 130 rfl rfl
theorem w_718 : Cond.methodLink "StoreStreamsLaw" 68 yX11_sum ∈ lw_good := lg_t3 134 rfl rfl
theorem w_727 : Cond.methodLink "StoreStreamsLaw" 73 yX11_moves ∈ lw_good := lg_t3 143 rfl rfl
theorem w_731 : Cond.methodLink "StoreStreamsLaw" 77 yX11_reached ∈ lw_good := lg_t3 147 rfl rfl
theorem w_739 : Cond.methodLink "StoreStreamsLaw" 81 yX11_rings ∈ lw_good := lg_t3 155 rfl rfl
theorem w_751 : Cond.methodLink "StoreStreamsLaw" 85 yX11_ring ∈ lw_good := lg_t3 167 rfl rfl
theorem w_755 : Cond.methodLink "StoreStreamsLaw" 89 yX11_rest ∈ lw_good := lg_t3 171 rfl rfl
theorem w_763 : Cond.methodLink "StoreStreamsLaw" 93 yX11_swing ∈ lw_good := lg_t3 179 rfl rfl
theorem w_771 : Cond.methodLink "StoreStreamsLaw" 97 yX11_pull ∈ lw_good := lg_t3 187 rfl rfl
theorem w_779 : Cond.methodLink "StoreStreamsLaw" 102 yX11_best ∈ lw_good := lg_t3 195 rfl rfl
theorem w_788 : Cond.methodLink "StoreStreamsLaw" 107 yX11_miss ∈ lw_good := lg_t3 204 rfl rfl
theorem w_813 : Cond.methodLink "StoreStreamsLaw" 112 yX11_fit ∈ lw_good := lg_t3 229 rfl rfl
theorem w_817 : Cond.methodLink "StoreStreamsLaw" 116 yX11_prove ∈ lw_good := lg_t3 233 rfl rfl
theorem w_821 : Cond.methodLink "StoreStreamsLaw" 120 yX11_row ∈ lw_good := lg_t3 237 rfl rfl
theorem w_829 : Cond.methodLink "StoreStreamsLaw" 124 yX11_alterRow ∈ lw_good := lg_t4 5 rfl rfl
theorem w_833 : Cond.methodLink "StoreStreamsLaw" 128 yX11_judge ∈ lw_good := lg_t4 9 rfl rfl
theorem w_837 : Cond.methodLink "StoreStreamsLaw" 132 yX11_sheet ∈ lw_good := lg_t4 13 rfl rfl
theorem w_847 : Cond.methodLink "StoreStreamsLaw" 136 yX11_put ∈ lw_good := lg_t4 23 rfl rfl
theorem w_854 : Cond.methodLink "StoreStreamsLaw" 140 yX11_item ∈ lw_good := lg_t4 30 rfl rfl
theorem w_858 : Cond.methodLink "StoreStreamsLaw" 144 yX11_shelf ∈ lw_good := lg_t4 34 rfl rfl
theorem w_874 : Cond.methodLink "StoreStreamsLaw" 148 yX11_taken ∈ lw_good := lg_t4 50 rfl rfl
theorem w_887 : Cond.methodLink "StoreStreamsLaw" 152 yX11_act ∈ lw_good := lg_t4 63 rfl rfl
theorem w_990 : Cond.methodLink "StoreStreamsLaw" 156 yX11_trace ∈ lw_good := lg_t4 166 rfl rfl
theorem w_994 : Cond.methodLink "StoreStreamsLaw" 160 yX11_many ∈ lw_good := lg_t4 170 rfl rfl
theorem w_998 : Cond.methodLink "StoreStreamsLaw" 164 yX11_keep ∈ lw_good := lg_t4 174 rfl rfl
theorem w_1007 : Cond.methodLink "StoreStreamsLaw" 168 yX11_back ∈ lw_good := lg_t4 183 rfl rfl
theorem w_1207 : Cond.methodLink "StoreStreamsLaw" 19 yX12_feed ∈ lw_good := lg_t5 143 rfl rfl
theorem w_1215 : Cond.methodLink "StoreStreamsLaw" 24 yX12_read ∈ lw_good := lg_t5 151 rfl rfl
theorem w_1368 : Cond.methodLink "StoreStreamsLaw" 29 yX12_fault ∈ lw_good := lg_t6 64 rfl rfl
theorem w_1372 : Cond.methodLink "StoreStreamsLaw" 33 yX12_named ∈ lw_good := lg_t6 68 rfl rfl
theorem w_1376 : Cond.methodLink "StoreStreamsLaw" 38 yX12_thing ∈ lw_good := lg_t6 72 rfl rfl
theorem w_1384 : Cond.methodLink "StoreStreamsLaw" 42 yX12_value ∈ lw_good := lg_t6 80 rfl rfl
theorem w_1404 : Cond.methodLink "StoreStreamsLaw" 46 yX12_at ∈ lw_good := lg_t6 100 rfl rfl
theorem w_1412 : Cond.methodLink "StoreStreamsLaw" 50 yX12_flow ∈ lw_good := lg_t6 108 rfl rfl
theorem w_1420 : Cond.methodLink "StoreStreamsLaw" 54 yX12_run ∈ lw_good := lg_t6 116 rfl rfl
theorem w_1429 : Cond.methodLink "StoreStreamsLaw" 58 yX12_begin ∈ lw_good := lg_t6 125 rfl rfl
theorem w_1433 : Cond.methodLink "StoreStreamsLaw" 62 yX12_change ∈ lw_good := lg_t6 129 rfl rfl
theorem w_1441 : Cond.methodLink "StoreStreamsLaw" 67 yX12_event ∈ lw_good := lg_t6 137 rfl rfl
theorem w_1445 : Cond.methodLink "StoreStreamsLaw" 72 yX12_sum ∈ lw_good := lg_t6 141 rfl rfl
theorem w_1449 : Cond.methodLink "StoreStreamsLaw" 76 yX12_moves ∈ lw_good := lg_t6 145 rfl rfl
theorem w_1457 : Cond.methodLink "StoreStreamsLaw" 80 yX12_reached ∈ lw_good := lg_t6 153 rfl rfl
theorem w_1461 : Cond.methodLink "StoreStreamsLaw" 84 yX12_rings ∈ lw_good := lg_t6 157 rfl rfl
theorem w_1473 : Cond.methodLink "StoreStreamsLaw" 88 yX12_ring ∈ lw_good := lg_t6 169 rfl rfl
theorem w_1477 : Cond.methodLink "StoreStreamsLaw" 92 yX12_rest ∈ lw_good := lg_t6 173 rfl rfl
theorem w_1493 : Cond.methodLink "StoreStreamsLaw" 96 yX12_swing ∈ lw_good := lg_t6 189 rfl rfl
theorem w_1501 : Cond.methodLink "StoreStreamsLaw" 101 yX12_pull ∈ lw_good := lg_t6 197 rfl rfl
theorem w_1509 : Cond.methodLink "StoreStreamsLaw" 106 yX12_best ∈ lw_good := lg_t6 205 rfl rfl
theorem w_1517 : Cond.methodLink "StoreStreamsLaw" 111 yX12_miss ∈ lw_good := lg_t6 213 rfl rfl
theorem w_1533 : Cond.methodLink "StoreStreamsLaw" 115 yX12_fit ∈ lw_good := lg_t6 229 rfl rfl
theorem w_1537 : Cond.methodLink "StoreStreamsLaw" 119 yX12_prove ∈ lw_good := lg_t6 233 rfl rfl
theorem w_1541 : Cond.methodLink "StoreStreamsLaw" 123 yX12_row ∈ lw_good := lg_t6 237 rfl rfl
theorem w_1549 : Cond.methodLink "StoreStreamsLaw" 127 yX12_alterRow ∈ lw_good := lg_t7 5 rfl rfl
theorem w_1553 : Cond.methodLink "StoreStreamsLaw" 131 yX12_judge ∈ lw_good := lg_t7 9 rfl rfl
theorem w_1557 : Cond.methodLink "StoreStreamsLaw" 135 yX12_sheet ∈ lw_good := lg_t7 13 rfl rfl
theorem w_1561 : Cond.methodLink "StoreStreamsLaw" 139 yX12_put ∈ lw_good := lg_t7 17 rfl rfl
theorem w_1565 : Cond.methodLink "StoreStreamsLaw" 143 yX12_item ∈ lw_good := lg_t7 21 rfl rfl
theorem w_1569 : Cond.methodLink "StoreStreamsLaw" 147 yX12_shelf ∈ lw_good := lg_t7 25 rfl rfl
theorem w_1577 : Cond.methodLink "StoreStreamsLaw" 151 yX12_taken ∈ lw_good := lg_t7 33 rfl rfl
theorem w_1588 : Cond.methodLink "StoreStreamsLaw" 155 yX12_act ∈ lw_good := lg_t7 44 rfl rfl
theorem w_1624 : Cond.methodLink "StoreStreamsLaw" 159 yX12_trace ∈ lw_good := lg_t7 80 rfl rfl
theorem w_1628 : Cond.methodLink "StoreStreamsLaw" 163 yX12_many ∈ lw_good := lg_t7 84 rfl rfl
theorem w_1632 : Cond.methodLink "StoreStreamsLaw" 167 yX12_keep ∈ lw_good := lg_t7 88 rfl rfl
theorem w_1644 : Cond.methodLink "StoreStreamsLaw" 171 yX12_back ∈ lw_good := lg_t7 100 rfl rfl
theorem w_1648 : Cond.constantLong "StoreStreamsLaw" 13 (4294967295) ∈ lw_good := lg_t7 104 rfl rfl
theorem w_rd0 : Cond.code yX11_read cX11_read 2 (some .int) ∈ lw_good := lg_t2 129 rfl rfl
