/-! ===== methods: what a call comes to, by depth; it holds of the machine ===== -/
def lsn (a : List Value) : Nat := match a with
  | [] => 0
  | v :: l => v.category + lsn l
/-- ms: the code of a method by its number; mL: how many local slots it has -/
def CT (ms : Nat → Nat → Sm) (mL : Nat → Nat) : Nat → Cl
  | 0 => fun _ _ _ _ => False
  | d + 1 => fun y a σ K => cond (Nat.ble (lsn a) (mL y)) (WP (ms y) (CT ms mL d) K (0, lv_args 0 a, []) σ) False
theorem wp_mono {c : Nat → Sm} (hm : ∀ pc, Mono (c pc)) {call call' : Cl} {Q Q' : Po} (hc : ∀ y a σ K K', (∀ r τ, K r τ → K' r τ) → call y a σ K → call' y a σ K') (hQ : ∀ r τ, Q r τ → Q' r τ) {fr : Fr} {σ : Hp} (h : WP c call Q fr σ) : WP c call' Q' fr σ := by
  intro X hX hw
  exact h X (fun pc lv st τ hh => hX pc lv st τ (hm pc _ _ _ _ _ _ (fun _ _ q => q) hc hQ lv st τ hh)) hw
theorem wp_in {c : Nat → Sm} (hm : ∀ pc, Mono (c pc)) {call : Cl} (hc : CMono call) {Q : Po} {pc : Nat} {lv : Lv} {st : List Value} {σ : Hp} (h : c pc (WP c call Q) call Q lv st σ) : WP c call Q (pc, lv, st) σ := fun X hX hw => hX pc lv st σ (hm pc _ _ _ _ _ _ (fun _ _ w => w X hX hw) hc (fun _ _ q => q) lv st σ h)
/-- fewer locals are enough -/
theorem wp_weak {c : Nat → Sm} {call : Cl} {Q : Po} {pc : Nat} {lv lv' : Lv} {st : List Value} {σ : Hp} (hs : ∀ q ∈ lv, q ∈ lv') (h : WP c call Q (pc, lv, st) σ) : WP c call Q (pc, lv', st) σ := fun X hX hw => hw pc lv lv' st σ hs (h X hX hw)
theorem wp_flt {c : Nat → Sm} {call : Cl} {Q : Po} {fr : Fr} {f : Nat × Value → Bool} {σ : Hp} (h : WP c call Q (fr.1, fr.2.1.filter f, fr.2.2) σ) : WP c call Q fr σ := by
  obtain ⟨pc, lv, st⟩ := fr
  exact wp_weak (fun _ hq => (List.mem_filter.mp hq).1) h
theorem wp_run {c : Nat → Sm} (hm : ∀ pc, Mono (c pc)) {call : Cl} (hc : CMono call) {Q : Po} {cut : Nat → Bool} : ∀ (n : Nat) {fr : Fr} {σ : Hp}, wk c call Q cut (WP c call Q) n fr σ → WP c call Q fr σ := by
  intro n
  induction n with
  | zero => intro fr σ h; exact h
  | succ n ih =>
    intro fr σ h
    obtain ⟨pc, lv, st⟩ := fr
    unfold wk at h
    cases hb : cut (pc, lv, st).1 with
    | true => rw [hb] at h; exact h
    | false =>
      rw [hb] at h
      exact wp_in hm hc (hm pc _ _ _ _ _ _ (fun _ _ w => ih w) hc (fun _ _ q => q) lv st σ h)
theorem wp_go {c : Nat → Sm} (hm : ∀ pc, Mono (c pc)) {call : Cl} (hc : CMono call) {Q : Po} (cut : Nat → Bool) (n : Nat) {pc : Nat} {lv : Lv} {st : List Value} {σ : Hp} (h : c pc (wk c call Q cut (WP c call Q) n) call Q lv st σ) : WP c call Q (pc, lv, st) σ :=
  wp_in hm hc (hm pc _ _ _ _ _ _ (fun _ _ w => wp_run hm hc n w) hc (fun _ _ q => q) lv st σ h)
/-- from a place on to the cuts, where the locals that are wanted no more are left out -/
theorem wp_cut {c : Nat → Sm} (hm : ∀ pc, Mono (c pc)) {call : Cl} (hc : CMono call) {Q : Po} (cut : Nat → Bool) (lk : Nat → Nat → Bool) (n : Nat) {pc : Nat} {lv : Lv} {st : List Value} {σ : Hp} (h : c pc (wk c call Q cut (fun fr τ => WP c call Q (fr.1, fr.2.1.filter (fun q => lk fr.1 q.1), fr.2.2) τ) n) call Q lv st σ) : WP c call Q (pc, lv, st) σ := by
  have key : ∀ (n : Nat) (fr : Fr) (τ : Hp), wk c call Q cut (fun fr τ => WP c call Q (fr.1, fr.2.1.filter (fun q => lk fr.1 q.1), fr.2.2) τ) n fr τ → wk c call Q cut (WP c call Q) n fr τ := by
    intro n
    induction n with
    | zero => intro fr τ z; exact wp_flt z
    | succ n ih =>
      intro fr τ z
      unfold wk at z ⊢
      cases hb : cut fr.1 with
      | true => rw [hb] at z; exact wp_flt z
      | false =>
        rw [hb] at z
        exact hm fr.1 _ _ _ _ _ _ ih hc (fun _ _ q => q) _ _ τ z
  exact wp_go hm hc cut n (hm pc _ _ _ _ _ _ (key n) hc (fun _ _ q => q) lv st σ h)
theorem ct_mono {ms : Nat → Nat → Sm} {mL : Nat → Nat} (hm : ∀ y pc, Mono (ms y pc)) : ∀ (d d' : Nat), d ≤ d' → ∀ (y : Nat) (a : List Value) (σ : Hp) (K K' : Po), (∀ r τ, K r τ → K' r τ) → CT ms mL d y a σ K → CT ms mL d' y a σ K' := by
  intro d
  induction d with
  | zero => intro d' _ y a σ K K' _ h; exact h.elim
  | succ d ih =>
    intro d' hd y a σ K K' hK h
    obtain ⟨e, rfl⟩ : ∃ e, d' = e + 1 := ⟨d' - 1, by omega⟩
    unfold CT at h ⊢
    cases hb : Nat.ble (lsn a) (mL y) with
    | false => rw [hb] at h; exact h.elim
    | true =>
      rw [hb] at h
      exact wp_mono (hm y) (fun y a σ K K' q z => ih e (by omega) y a σ K K' q z) hK h
theorem ct_cm {ms : Nat → Nat → Sm} {mL : Nat → Nat} (hm : ∀ y pc, Mono (ms y pc)) (d : Nat) : CMono (CT ms mL d) := fun y a σ K K' q z => ct_mono hm d d (Nat.le_refl d) y a σ K K' q z
theorem lsn_eq (ad : Nat → Nat) : ∀ a : List Value, (lg_sl (a.map (mv ad))).length = lsn a := by
  intro a
  induction a with
  | nil => rfl
  | cons v l ih =>
    rw [List.map_cons, show lg_sl (mv ad v :: l.map (mv ad)) = (if (mv ad v).category = 2 then [.val (mv ad v), .second] else [.val (mv ad v)]) ++ lg_sl (l.map (mv ad)) from rfl, List.length_append, ih, mv_cat]
    show _ = v.category + lsn l
    cases v <;> rfl
theorem lva_map (ad : Nat → Nat) : ∀ (a : List Value) (i : Nat), (lv_args i a).map (mvl ad) = lv_args i (a.map (mv ad)) := by
  intro a
  induction a with
  | nil => intro i; rfl
  | cons v l ih =>
    intro i
    simp only [lv_args, List.map_cons]
    rw [ih, mv_cat]
    rfl
theorem ct_sound {mi : MI} {ms : Nat → Nat → Sm} (hS : ∀ y, plainName (mi y).1.cls = true ∧ ∀ pc, SndI mi (mi y).2.1 (mi y).1.cls (mi y).2.2.1 (mi y).2.2.2 (ms y pc) pc) (l : Launch) (G : va_G) (t : T3) (ad : Nat → Nat) (hJ : Inj ad) : ∀ (d y : Nat) (a : List Value) (σ : Hp) (K : Po), CT ms (fun y => (mi y).2.2.1) d y a σ K → Con mi l G t ad d y a σ K := by
  intro d
  induction d with
  | zero => intro y a σ K h; exact h.elim
  | succ d ih =>
    intro y a σ K h
    unfold CT at h
    cases hb : Nat.ble (lsn a) (mi y).2.2.1 with
    | false => simp only [hb] at h; exact h.elim
    | true =>
      simp only [hb] at h
      have hle := Nat.le_of_ble_eq_true hb
      refine Met.ofW (cc := (mi y).2.1) (maxL := (mi y).2.2.1) (ret := (mi y).2.2.2) (hS y).1 rfl ?_
      intro p e s m args below meth c s₁ B hml hv
      obtain ⟨rfl, hP, hK, hst⟩ := hv
      have hts := atoms_spec (ws := Cond.code (mi y).1 (mi y).2.1 (mi y).2.2.1 (mi y).2.2.2 :: lw_good) B.pre
      have hown : s.vm.findClass (mi y).1.cls = some m.cls := findClass_of_methodNamed B.named
      have hl := lv_entry (a.map (mv ad)) (n := (mi y).2.2.1) (by rw [lsn_eq]; exact hle)
      rw [lg_entry_eq]
      have key : Jd p l e (rmD (d + 1)) s m (a.map (mv ad)).toArray below meth c (mi y).2.2.1 G t ad (Qin G t ad (mi y).2.2.2 K) (0, lv_args 0 a, []) σ :=
        h (Jd p l e (rmD (d + 1)) s m (a.map (mv ad)).toArray below meth c (mi y).2.2.1 G t ad (Qin G t ad (mi y).2.2.2 K)) (fun pc lv st τ hh => ((hS y).2 pc).2 p l e (rmD (d + 1)) s m _ below meth c G t ad d _ ⟨B.exec, B.bytes, hml, B.returns, B.notSynchronized, hown, fun w hw => hts w (List.mem_cons_of_mem _ hw), hK, hJ, hst, Nat.le_refl _, by show 64 * d + 64 ≤ 64 * (d + 1); omega⟩ _ (fun y a σ K z => ih y a σ K z) K (fun r τ u h1 h2 h3 h4 => ⟨⟨r, τ, rfl, h1, h2, h3⟩, h4⟩) _ (fun _ _ z => z) lv st τ hh) (fun pc lv lv' st τ hs z H locs ls q1 q2 q3 => z H locs ls q1 q2 ⟨q3.1, q3.2.1, fun q hq => q3.2.2 q (by obtain ⟨w, hw, rfl⟩ := List.mem_map.mp hq; exact List.mem_map_of_mem (hs w hw))⟩)
      exact key s.heap [] _ hP va_S.rf (by rw [lva_map]; exact hl)
/-! ===== super.m(..) where the superclass inherits m ===== -/
section SX
variable {p : Program} {l : Launch} {e : Env} {R : Room} {s : State} {m : MethodId} {args : Array Value} {below : List Frame} {meth : Method} {c : Code}
theorem callSX {T : State} {locs : List Loc} {cells slots : Nat} (X : Stand p l e R s m args below meth c T locs cells slots) (hexec : p.tables.exec = Jvm.exec) {own owner : String} {index : Nat} {x y : MethodName} {bytes : ByteArray} {maxL : Nat} {ret : Option FieldType} (hyx : y = ⟨owner, x.name, x.desc⟩)
    (hown : s.vm.findClass own = some m.cls) (hlink : (Cond.methodLink own index x).before args s = true) (hsame : (Cond.sameMethod x.cls owner x.name x.desc).before args s = true) (hsup : (Cond.superclass own x.cls).before args s = true) (hsup2 : (Cond.superclass x.cls owner).before args s = true)
    (hinst : (Cond.instanceMethod y).before args s = true) (hcode : (Cond.code y bytes maxL ret).before args s = true) (hno : y.name ≠ "<init>")
    {W : Nat} {Pre : Pt → Array Value → Prop} {Post : Pt → Array Value → Option Value → Pt → Prop} (hK : Back l R p e below s args y 3 W Pre Post)
    {b : Addr} {cellB : Cell} {kB : Class} (hcell : T.heap[b]? = some cellB) (hobj : cellB.vm.isStatics = false) (hkB : s.vm.classes[cellB.cls]? = some kB)
    {g : JFrame} (hg : g.method = m) (hsize : g.locals.size = c.maxLocals) {argsL rest : List Value} (hlen : ∀ sig, parseMethodDescriptor y.desc = some sig → argsL.length = sig.parameters.length)
    (hstack : g.stack = argsL.reverse ++ .ref b :: rest) (hW : 2 * g.monitorRoom + (rest.map fun v => v.category).sum ≤ W) (hdg : decode c.code g.pc = .ok (.invokespecial index, 3))
    (hpre : ∀ vm₁, s.WarmedH vm₁ → Pre ⟨T.setVm vm₁, locs, cells, slots⟩ (Value.ref b :: argsL).toArray) :
    ∃ (v : Option Value) (vm₁ : Vm) (B : Pt), s.WarmedH vm₁ ∧ Stand p l e R s m args below meth c B.U B.locs B.cells B.slots ∧ Post ⟨T.setVm vm₁, locs, cells, slots⟩ (Value.ref b :: argsL).toArray v B ∧
      ∀ target, Steps p.tables e below (B.U.setTop { g with pc := g.pc + 3, stack := v.toList ++ rest }) target → Steps p.tables e below (T.setTop g) target := by
  obtain ⟨mk, methM, hnamed, hmethM, hstM, habM⟩ := Cond.instanceMethod_spec hinst
  obtain ⟨methM', cM, hmethM', -, -, -, -, -, -, hsigM⟩ := Cond.code_spec hnamed hcode
  cases hmethM.symm.trans hmethM'
  obtain ⟨ps, dk, kp, hps, hdk, hkp, hsuper, -, -, hnid⟩ := Cond.superclass_spec hown hsup
  obtain ⟨pt, pk, kt, hpt, hpk, hkt, hsuper2, -, -, -⟩ := Cond.superclass_spec hps hsup2
  subst hyx
  have hn : s.methodNamed? ⟨owner, x.name, x.desc⟩ = some mk := hnamed
  have hpm : pt = mk.cls := Option.some.inj (hpt.symm.trans (findClass_of_methodNamed hnamed))
  have hsz : 0 < s.vm.classes.size := Nat.lt_of_le_of_lt (Nat.zero_le _) (Array.getElem?_eq_some_iff.mp hpk).1
  have hsub : s.vm.isSubclass ps mk.cls = true := by
    rw [← hpm]
    unfold Vm.isSubclass
    obtain ⟨k, hk⟩ : ∃ k, s.vm.classes.size = k + 1 := ⟨s.vm.classes.size - 1, by omega⟩
    rw [hk]
    simp [Vm.isSubclassAux, hpk, hsuper2]
  obtain ⟨vm₁, X₁, hstep₁⟩ := X.invokespecialUp hexec hown hlink hsame hn hmethM hstM habM hno hdk hnid hps hsuper hsub (a := b) (cell := cellB) hcell
    (fun z h => by rw [h] at hobj; cases hobj) hkB (g := g) hg (argsL := argsL) (rest := rest) (hlen _ hsigM) hstack hdg
  obtain ⟨v, B, X', hpost, hsteps⟩ := hK m meth c ⟨T.setVm vm₁, locs, cells, slots⟩ { g with stack := rest } (.invokespecial index) mk (Value.ref b :: argsL).toArray X₁ hg hsize hdg hW (X₁.named hnamed) (hpre vm₁ X₁.warmed)
  exact ⟨v, vm₁, B, X₁.warmed, X', hpost, fun target h => hstep₁ _ (by rw [doInvoke_state]; exact hsteps.trans h)⟩
end SX
theorem run_X {mi : MI} {cc : ByteArray} {own : String} {nL : Nat} {rt : Option FieldType} {pc i y n : Nat} {x : MethodName} (hd : decode cc pc = .ok (.invokespecial i, 3)) (hm : MOK mi y n) (hyx : (mi y).1 = ⟨(mi y).1.cls, x.name, x.desc⟩) (hw : Cond.methodLink own i x ∈ lw_good) (hw1 : Cond.sameMethod x.cls (mi y).1.cls x.name x.desc ∈ lw_good) (hw2 : Cond.superclass own x.cls ∈ lw_good) (hw4 : Cond.superclass x.cls (mi y).1.cls ∈ lw_good) (hw3 : Cond.instanceMethod (mi y).1 ∈ lw_good) (hn : (mi y).1.name ≠ "<init>") : RunOK mi cc own nL rt rT (fun _ => y) (n + 1) pc := by
  intro p l e R s m args below meth c G t ad d F st σ K H locs ls hcon hrk hlen h8 hP hS hsz
  obtain ⟨hx, hb, hml, hr, hlocks, hown, hts, hK, hJ, hst, hfr, hlo⟩ := F
  obtain ⟨q, b, ea, hq1, hq2⟩ := rT_spec hrk
  obtain ⟨hlt, h13⟩ := th_kd hq1 hq2
  have hlb : b.length = n := by
    have := congrArg List.length ea
    rw [List.length_reverse, hlen] at this
    simpa using this.symm
  obtain ⟨m1, m2, m3, m4⟩ := hm
  have h8' := Nat.le_of_ble_eq_true h8
  rw [ea] at hcon
  have hk : kd q < cls.length := by
    show kd q < 13
    exact Nat.not_le.mp fun z => by rw [Nat.ble_eq_true_of_le z] at h13; cases h13
  have hc : cls[kd q]? = some cls[kd q] := List.getElem?_eq_getElem hk
  obtain ⟨cellB, hcB, hoB, hclB⟩ := va_recv hK hP hc (by rw [ws_get hlt, cel_o (Nat.beq_refl _) h13])
  obtain ⟨hfc, kB, hkB, -⟩ := (hK.1 _ _ hc).2
  have hce : G.1 (kd q) = cellB.cls := Option.some.inj (hfc.symm.trans hclB)
  rw [hce] at hkB
  have hini := hts _ m2
  have hB : Back l R p e below s args (mi y).1 3 8 (PreOf R 0 0 (Pin G t ad σ (.ref q :: b))) (PostOf (Qin G t ad (mi y).2.2.2 K) 0 0 (AA ad)) := back_of (bytes := (mi y).2.1) (maxL := (mi y).2.2.1) (ret := (mi y).2.2.2) hcon pin_blind rfl rfl hfr (by show 8 + ((mi y).2.2.1 + 11) + 64 * d ≤ R.locals; omega) (pay_in hts (good_ws m1)) List.mem_cons_self (fun a' U hW => word_at hW (good_of_word (List.mem_filter.mp m2).2) hini)
  refine ⟨((Value.ref q :: b).map (mv ad)).toArray, ?_⟩
  intro T hT X
  obtain ⟨v, vm₁, ⟨U', l2, c2, s2⟩, hW₁, X', ⟨g', mk, t', L, e1, e2, hqq, h1, hL, h2, h3⟩, stp⟩ := callSX X hx (bytes := (mi y).2.1) (maxL := (mi y).2.2.1) (ret := (mi y).2.2.2) hyx hown (hts _ hw) (hts _ hw1) (hts _ hw2) (hts _ hw4) (hts _ hw3) (hts _ m1) hn hB (by rw [hT]; exact hcB) hoB hkB (g := F0 m pc ls (st.map (mv ad))) rfl (hsz.trans hml.symm) (argsL := b.map (mv ad)) (rest := (st.drop (n + 1)).map (mv ad)) (fun sig h => by rw [List.length_map, hlb]; have := m3.2.2; rw [h] at this; exact (Option.some.inj this).symm) (by show st.map (mv ad) = _; rw [st_split ad st (n + 1), ea]; simp [mv]) (by rw [mv_cs]; show 2 * 0 + _ ≤ 8; omega) (by rw [hb]; exact hd)
    (fun vm₁ hW₁ => ⟨Nat.zero_le _, Nat.zero_le _, pin_at rfl hP hK hst hS (T.setVm vm₁) hT hW₁⟩)
  dsimp only [Pt.U, Pt.locs, Pt.cells, Pt.slots] at X' e1 e2 h1 h2 h3 stp
  subst h1; subst h2; subst h3
  exact ⟨v, (T.setVm vm₁).calling g' mk ((Value.ref q :: b).map (mv ad)).toArray, t', U', L, hT, X', hL, e1, e2, hqq, stp⟩
/-- a method that the receiver's class inherits, named through that class -/
theorem run_I {mi : MI} {cc : ByteArray} {own : String} {nL : Nat} {rt : Option FieldType} {pc ci i y n : Nat} {x : MethodName} {C : String} {T : u_T} {N : Nat} (hd : decode cc pc = .ok (.invokevirtual i, 3)) (hm : MOK mi y n) (hyx : (mi y).1 = ⟨(mi y).1.cls, x.name, x.desc⟩) (hc : cls[ci]? = some (C, T, N)) (h13 : Nat.ble 13 ci = false) (hw : Cond.methodLink own i x ∈ lw_good) (hw1 : Cond.sameMethod x.cls (mi y).1.cls x.name x.desc ∈ lw_good) (hw2 : Cond.selects C x (mi y).1 ∈ lw_good) (hw3 : Cond.instanceMethod (mi y).1 ∈ lw_good) : RunOK mi cc own nL rt (rk ci) (fun _ => y) (n + 1) pc := by
  intro p l e R s m args below meth c G t ad d F st σ K H locs ls hcon hrk hlen h8 hP hS hsz
  obtain ⟨hx, hb, hml, hr, hlocks, hown, hts, hK, hJ, hst, hfr, hlo⟩ := F
  obtain ⟨q, b, ea, hq⟩ := rk_spec hrk
  have hlt : q < 128 := kd_lt hq (by cases h9 : Nat.beq ci 99 with | false => rfl | true => rw [Nat.eq_of_beq_eq_true h9] at h13; cases h13)
  have hlb : b.length = n := by
    have := congrArg List.length ea
    rw [List.length_reverse, hlen] at this
    simpa using this.symm
  obtain ⟨m1, m2, m3, m4⟩ := hm
  have h8' := Nat.le_of_ble_eq_true h8
  rw [ea] at hcon
  have hdx : (parseMethodDescriptor x.desc).map (fun d => d.parameters.length) = some n := by have := m3.2.2; rw [hyx] at this; exact this
  have hT : GoodIn lw_good (va_wsU own i C (mi y).1.cls x (mi y).1 (Cond.code (mi y).1 (mi y).2.1 (mi y).2.2.1 (mi y).2.2.2 :: lw_good)) := by
    intro w hw'
    have hm : w ∈ lw_good := by
      unfold va_wsU at hw'
      rcases List.mem_append.mp hw' with hw' | hw'
      · simp only [List.mem_cons, List.not_mem_nil, or_false] at hw'
        rcases hw' with rfl | rfl | rfl | rfl | rfl
        · exact hw
        · exact hw1
        · exact hw2
        · exact hw3
        · exact m2
      · exact (good_ws m1 w hw').1
    exact ⟨hm, good_of_word (List.mem_filter.mp hm).2⟩
  refine ⟨_, va_runU (As := b.map (mv ad)) (b := ad q) (C := C) (owner := (mi y).1.cls) (x := x) (Ts := lw_good) ⟨hx, hb, hml, hown, hts⟩ hcon (va_cwU n hts hT rfl rfl rfl hyx ⟨m3.1, m3.2.1, hdx⟩ ⟨hfr, by show 8 + ((mi y).2.2.1 + 11) + 64 * d ≤ R.locals; omega⟩) ⟨pin_blind, va_recv hK hP hc (by rw [ws_get hlt, cel_o hq h13]), pin_at rfl hP hK hst hS⟩ rfl (by simp [hlb]) hsz (by show st.map (mv ad) = _; rw [st_split ad st (n + 1), ea]; simp [mv]) (by rw [mv_cs]; show 2 * 0 + _ ≤ 8; omega) hd ⟨Nat.zero_le _, Nat.zero_le _⟩⟩
