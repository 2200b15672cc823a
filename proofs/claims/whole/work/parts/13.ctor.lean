/-! ===== constructors: straight codes that make cells one behind another ===== -/
abbrev CE : Type := Nat × Nat × List Value × List (Nat × Value)
abbrev Ki : Type := Nat → List Value → List CE → Option (Nat × (Nat × Nat) × Nat × List Value × List CE)
def dfl (ci : Nat) : List Value := (List.range (nf ci)).map (fun k => cond (Nat.beq (ft ci k) 0) (.int 0) (cond (Nat.beq (ft ci k) 1) (.long 0) .null))
def ovI : List (Nat × Value) → Nat → Int32
  | [] => fun _ => 0
  | (k, .int v) :: l => upd (ovI l) k v
  | _ :: l => ovI l
def ovR (B : Nat) : List (Nat × Value) → Nat → Option Nat
  | [] => fun _ => none
  | (k, .ref v) :: l => va_up (ovR B l) k (some (B + v))
  | _ :: l => ovR B l
def ad0 (B : Nat) : Nat → Nat := fun k => B + k
def conc (B : Nat) (t : T3) (e : CE) : va_E := cond (Nat.beq e.1 13) (.inl (t.1, e.2.1, .inl (ovI e.2.2.2))) (cond (Nat.beq e.1 14) (.inl (t.2.1, e.2.1, .inr (.inl (fun _ => 0)))) (cond (Nat.beq e.1 15) (.inl (t.2.2, e.2.1, .inr (.inr (.inr (.inr (ovR B e.2.2.2)))))) (.inr (e.1, e.2.2.1.map (mv (ad0 B))))))
def wl (B : Nat) (t : T3) (es : List CE) : va_W := es.zipIdx.map (fun q => (B + q.2, conc B t q.1))
def szE (e : CE) : Nat := cond (Nat.ble 13 e.1) e.2.1 (nf e.1)
def tot (es : List CE) : Nat := (es.map szE).sum
theorem wl_get {B : Nat} {t : T3} {es : List CE} {k : Nat} {e : CE} (h : es[k]? = some e) : (wl B t es)[k]? = some (B + k, conc B t e) := by
  simp [wl, List.getElem?_zipIdx, h]
theorem wl_inv {B : Nat} {t : T3} {es : List CE} {k : Nat} {q : Nat × va_E} (h : (wl B t es)[k]? = some q) : ∃ e, es[k]? = some e ∧ q = (B + k, conc B t e) := by
  simp only [wl, List.getElem?_map, List.getElem?_zipIdx, Option.map_map, Option.map_eq_some_iff] at h
  obtain ⟨e, h1, h2⟩ := h
  exact ⟨e, h1, by rw [← h2]; simp⟩
theorem wl_app (B : Nat) (t : T3) (es : List CE) (e : CE) : wl B t (es ++ [e]) = wl B t es ++ [(B + es.length, conc B t e)] := by
  simp [wl, List.zipIdx_append]
theorem wl_set {B : Nat} {t : T3} {es : List CE} {k : Nat} {e : CE} (_h : k < es.length) : (wl B t es).set k (B + k, conc B t e) = wl B t (es.set k e) := by
  apply List.ext_getElem?
  intro j
  rw [List.getElem?_set]
  by_cases hj : k = j
  · subst hj
    simp [wl, List.getElem?_zipIdx, _h]
  · rw [if_neg hj]
    simp [wl, List.getElem?_zipIdx, List.getElem?_set, hj]
theorem wl_D (B : Nat) (t : T3) (es : List CE) : va_D (fun q => B ≤ q) (wl B t es) := by
  refine ⟨fun i j p q hp hq e => ?_, fun k q hq => ?_⟩
  · obtain ⟨_, _, rfl⟩ := wl_inv hp
    obtain ⟨_, _, rfl⟩ := wl_inv hq
    dsimp only at e
    omega
  · obtain ⟨_, _, rfl⟩ := wl_inv hq
    exact Nat.le_add_right _ _
theorem tot_app (es : List CE) (e : CE) : tot (es ++ [e]) = tot es + szE e := by simp [tot]
theorem tot_set {es : List CE} {k : Nat} {e e' : CE} (h : es[k]? = some e) (hz : szE e' = szE e) : tot (es.set k e') = tot es := by
  have : (es.set k e').map szE = es.map szE := by
    apply List.ext_getElem?
    intro j
    rw [List.getElem?_map, List.getElem?_map, List.getElem?_set]
    by_cases hj : k = j
    · subst hj
      have hl := (List.getElem?_eq_some_iff.mp h).1
      rw [if_pos rfl, if_pos hl, h]
      exact congrArg some hz
    · rw [if_neg hj]
  unfold tot
  rw [this]
def k_al (nx : Nat) : Ki := fun o st es => some (0, (0, 0), nx, .ref o :: st, es)
def k_dup (nx : Nat) : Ki := fun _ st es => match st with
  | .ref v :: st => some (0, (0, 0), nx, .ref v :: .ref v :: st, es)
  | _ => none
def k_pI (v : Int32) (nx : Nat) : Ki := fun _ st es => some (0, (0, 0), nx, .int v :: st, es)
def k_pL (v : Int64) (nx : Nat) : Ki := fun _ st es => some (0, (0, 0), nx, .long v :: st, es)
def k_new (ci nx : Nat) : Ki := fun _ st es => some (0, (0, 0), nx, .ref es.length :: st, es ++ [(ci, 0, dfl ci, [])])
def k_nq (nx : Nat) : Ki := fun _ st es => match st with
  | .int n :: st => cond (decide (0 ≤ n) && Nat.ble n.toNatClampNeg 4000) (some (0, (0, 0), nx, .ref es.length :: st, es ++ [(15, n.toNatClampNeg, [], [])])) none
  | _ => none
def k_na (k nx : Nat) : Ki := fun _ st es => match st with
  | .int n :: st => cond (decide (0 ≤ n) && Nat.ble n.toNatClampNeg 4000) (some (0, (0, 0), nx, .ref es.length :: st, es ++ [(k, n.toNatClampNeg, [], [])])) none
  | _ => none
def k_pf (chk : Value → Bool) (ci k nx : Nat) : Ki := fun _ st es => match st with
  | v :: .ref c :: st => match es[c]? with
    | some (ci', 0, fs, []) => cond (Nat.beq ci' ci && (Nat.ble (k + 1) fs.length && chk v)) (some (0, (0, 0), nx, st, es.set c (ci, 0, fs.set k v, []))) none
    | _ => none
  | _ => none
def k_ast (nx : Nat) : Ki := fun _ st es => match st with
  | .int v :: .int i :: .ref c :: st => match es[c]? with
    | some (13, n, [], ov) => cond (decide (0 ≤ i) && Nat.ble (i.toNatClampNeg + 1) n) (some (0, (0, 0), nx, st, es.set c (13, n, [], (i.toNatClampNeg, .int v) :: ov))) none
    | _ => none
  | _ => none
def thC (ci : Nat) : Bool := Nat.beq ci 9 || (Nat.beq ci 5 || (Nat.beq ci 0 || (Nat.beq ci 6 || (Nat.beq ci 7 || (Nat.beq ci 2 || Nat.beq ci 3)))))
def k_aast (nx : Nat) : Ki := fun _ st es => match st with
  | .ref v :: .int i :: .ref c :: st => match es[c]?, es[v]? with
    | some (15, n, [], ov), some (ci, 0, _, []) => cond (thC ci && (decide (0 ≤ i) && Nat.ble (i.toNatClampNeg + 1) n)) (some (0, (0, 0), nx, st, es.set c (15, n, [], (i.toNatClampNeg, .ref v) :: ov))) none
    | _, _ => none
  | _ => none
def k_cc (y nx : Nat) : Ki := fun _ st es => match st with
  | .ref r :: st => cond (Nat.ble (r + 1) es.length && Nat.ble (cs st) 8) (some (1, (y, r), nx, st, es)) none
  | _ => none
def k_oi (nx : Nat) : Ki := fun _ st es => match st with
  | .ref _ :: st => cond (Nat.ble (cs st) 8) (some (0, (0, 0), nx, st, es)) none
  | _ => none
def k_rt : Ki := fun _ st es => match st with
  | [] => some (2, (0, 0), 0, [], es)
  | _ => none
def k_stop : Ki := fun _ _ _ => none
def evC (code : Nat → Nat → Ki) : Nat → Nat → Nat → Nat → List Value → List CE → Option (List CE)
  | 0, _, _, _, _, _ => none
  | n + 1, y, pc, o, st, es => match code y pc o st es with
    | some (0, _, pc', st', es') => evC code n y pc' o st' es'
    | some (1, q, pc', st', es') => match evC code n q.1 0 q.2 [] es' with
      | some es2 => evC code n y pc' o st' es2
      | none => none
    | some (2, _, _, _, es') => some es'
    | _ => none
/-- what the tables say besides the good words -/
def nwM : List (String × Nat × MethodName) := [("StoreStreams", 9, yX4_init), ("StoreStreams$Scribe", 27, yX8_init), ("StoreStreams", 18, yX8_init), ("StoreStreams", 25, yX10_init), ("StoreStreams", 80, yX1_init), ("StoreStreams", 87, yX9_init), ("StoreStreams", 90, yX5_init), ("StoreStreams$Store", 1, yX9_init), ("StoreStreams", 93, yX0_init), ("StoreStreams$Delay", 1, yX5_init), ("StoreStreams", 96, yX6_init), ("StoreStreams$Stream", 1, yX9_init), ("StoreStreams", 99, yX7_init), ("StoreStreams$Table", 1, yX6_init), ("StoreStreams", 102, yX2_init), ("StoreStreams$Held", 1, yX9_init), ("StoreStreams", 105, yX3_init), ("StoreStreams$Helper", 1, yX2_init)]
def nwC : List String := [RX5, RX0, RX6, RX7, RX2, RX3]
def NWs (U : State) : Prop := (∀ q ∈ nwM, va_Nw (.methodLinkNest q.1 q.2.1 q.2.2 "StoreStreams") U) ∧ (∀ C ∈ nwC, va_Nw (.castable C "StoreStreams$Thing") U) ∧ va_AO "StoreStreams$Thing" U
theorem NWs.to {s U : State} (h : NWs s) (hW : s.WarmedH U.vm) : NWs U := ⟨fun q hq => va_Nw.warmM hW (h.1 q hq), fun C hC => va_Nw.warmC hW (h.2.1 C hC), va_AO.moved hW.alike h.2.2⟩
theorem NWs.at {s U : State} (h : NWs s) (hv : s.vm = U.vm) : NWs U := ⟨fun q hq => va_Nw.same rfl hv (h.1 q hq), fun C hC => va_Nw.same rfl hv (h.2.1 C hC), va_AO.moved (by rw [hv]; exact Vm.Alike.refl _) h.2.2⟩
def rmC (n mc ms : Nat) : Room := { frames := n, cells := mc, slots := ms, locals := 64 * n }
def PinC (G : va_G) (t : T3) (B : Nat) (es : List CE) (r : Nat) : Array Value → State → Prop := va_Pc [.ref (B + r)] (fun U => va_P G cls (wl B t es) U.heap ∧ U.heap.size = B + es.length ∧ va_K G cls (tysA t) U ∧ NWs U)
def QinC (G : va_G) (t : T3) (B : Nat) (es : List CE) : Array Value → State → Outcome → State → Prop := fun _ st oc u => (oc = .returned none ∧ va_P G cls (wl B t es) u.heap) ∧ va_F (fun q => B ≤ q) st u
def ConC (mi : MI) (l : Launch) (G : va_G) (t : T3) (B n y r : Nat) (es es' : List CE) : Prop := Met l (mi y).1 (Cond.code (mi y).1 (mi y).2.1 (mi y).2.2.1 (mi y).2.2.2 :: lw_good) (rmC n (es'.length - es.length) (tot es' - tot es)) (PinC G t B es r) (QinC G t B es') (es'.length - es.length) (tot es' - tot es) (fun q => B ≤ q)
def CtxC (p : Program) (R : Room) (s : State) (m : MethodId) (args : Array Value) (meth : Method) (c : Code) (cc : ByteArray) (own : String) (G : va_G) (t : T3) (B n n0 : Nat) : Prop :=
  p.tables.exec = Jvm.exec ∧ c.code = cc ∧ meth.locks = false ∧ s.vm.findClass own = some m.cls ∧ (∀ w ∈ lw_good, w.before args s = true) ∧ va_K G cls (tysA t) s ∧ NWs s ∧ s.heap.size = B + n0 ∧ n + 1 ≤ R.frames ∧ 64 * n + 64 ≤ R.locals ∧ c.maxLocals = 1 ∧ meth.name = "<init>"
def JC (p : Program) (l : Launch) (e : Env) (R : Room) (s : State) (m : MethodId) (args : Array Value) (below : List Frame) (meth : Method) (c : Code) (G : va_G) (t : T3) (B n0 t0 o : Nat) (Q : State → Prop) (pc : Nat) (st : List Value) (es : List CE) : Prop :=
  ∀ (H : Heap) (locs : List Loc) (ls : Array Slot), va_P G cls (wl B t es) H → va_S (fun q => B ≤ q) s.heap H locs → lv_has ls 1 [(0, .ref (B + o))] → n0 ≤ es.length → t0 ≤ tot es → W p l e R s m args below meth c H locs (es.length - n0) (tot es - t0) Q (F0 m pc ls (st.map (mv (ad0 B))))
/-- a row of a constructor's code tells the truth -/
def Km (i : Ki) : Prop := ∀ (o : Nat) (st : List Value) (es : List CE) (tg : Nat) (q : Nat × Nat) (pc' : Nat) (st' : List Value) (es' : List CE), i o st es = some (tg, q, pc', st', es') → (tg = 0 → es.length ≤ es'.length ∧ tot es ≤ tot es') ∧ (tg = 1 → es' = es ∧ q.2 < es.length) ∧ (tg = 2 → es' = es)
def SndC (mi : MI) (cc : ByteArray) (own : String) (i : Ki) (pc : Nat) : Prop :=
  Km i ∧
  ∀ (p : Program) (l : Launch) (e : Env) (R : Room) (s : State) (m : MethodId) (args : Array Value) (below : List Frame) (meth : Method) (c : Code) (G : va_G) (t : T3) (B n n0 : Nat), CtxC p R s m args meth c cc own G t B n n0 →
    ∀ (t0 o : Nat) (Q : State → Prop) (st : List Value) (es : List CE) (tg : Nat) (q : Nat × Nat) (pc' : Nat) (st' : List Value) (es' : List CE), i o st es = some (tg, q, pc', st', es') →
      (tg = 0 → es'.length - n0 ≤ R.cells → tot es' - t0 ≤ R.slots → JC p l e R s m args below meth c G t B n0 t0 o Q pc' st' es' → JC p l e R s m args below meth c G t B n0 t0 o Q pc st es) ∧
      (tg = 1 → es' = es ∧ ∀ es2, ConC mi l G t B n q.1 q.2 es es2 → es2.length - n0 ≤ R.cells → tot es2 - t0 ≤ R.slots → es.length ≤ es2.length → tot es ≤ tot es2 → JC p l e R s m args below meth c G t B n0 t0 o Q pc' st' es2 → JC p l e R s m args below meth c G t B n0 t0 o Q pc st es) ∧
      (tg = 2 → es' = es ∧ st = [] ∧ decode cc pc = .ok (.return_, 1))
theorem km_al (nx : Nat) : Km (k_al nx) := by
  intro o st es tg q pc' st' es' h
  cases h
  exact ⟨fun _ => ⟨Nat.le_refl _, Nat.le_refl _⟩, fun h => (by cases h), fun h => (by cases h)⟩
theorem km_pI (v : Int32) (nx : Nat) : Km (k_pI v nx) := by
  intro o st es tg q pc' st' es' h
  cases h
  exact ⟨fun _ => ⟨Nat.le_refl _, Nat.le_refl _⟩, fun h => (by cases h), fun h => (by cases h)⟩
theorem km_pL (v : Int64) (nx : Nat) : Km (k_pL v nx) := by
  intro o st es tg q pc' st' es' h
  cases h
  exact ⟨fun _ => ⟨Nat.le_refl _, Nat.le_refl _⟩, fun h => (by cases h), fun h => (by cases h)⟩
theorem km_dup (nx : Nat) : Km (k_dup nx) := by
  intro o st es tg q pc' st' es' h
  unfold k_dup at h
  split at h
  · cases h
    exact ⟨fun _ => ⟨Nat.le_refl _, Nat.le_refl _⟩, fun h => (by cases h), fun h => (by cases h)⟩
  · cases h
theorem km_oi (nx : Nat) : Km (k_oi nx) := by
  intro o st es tg q pc' st' es' h
  unfold k_oi at h
  split at h
  · rename_i r st2
    cases hq : Nat.ble (cs st2) 8 with
    | false => rw [hq] at h; cases h
    | true =>
      rw [hq] at h
      cases h
      exact ⟨fun _ => ⟨Nat.le_refl _, Nat.le_refl _⟩, fun h => (by cases h), fun h => (by cases h)⟩
  · cases h
theorem km_new (ci nx : Nat) : Km (k_new ci nx) := by
  intro o st es tg q pc' st' es' h
  cases h
  exact ⟨fun _ => ⟨by simp, by rw [tot_app]; omega⟩, fun h => (by cases h), fun h => (by cases h)⟩
theorem km_na (k nx : Nat) : Km (k_na k nx) := by
  intro o st es tg q pc' st' es' h
  unfold k_na at h
  split at h
  · rename_i n1 st2
    cases hq : (decide (0 ≤ n1) && Nat.ble n1.toNatClampNeg 4000) with
    | false => rw [hq] at h; cases h
    | true =>
      rw [hq] at h
      cases h
      exact ⟨fun _ => ⟨by simp, by rw [tot_app]; omega⟩, fun h => (by cases h), fun h => (by cases h)⟩
  · cases h
theorem km_nq (nx : Nat) : Km (k_nq nx) := by
  intro o st es tg q pc' st' es' h
  unfold k_nq at h
  split at h
  · rename_i n1 st2
    cases hq : (decide (0 ≤ n1) && Nat.ble n1.toNatClampNeg 4000) with
    | false => rw [hq] at h; cases h
    | true =>
      rw [hq] at h
      cases h
      exact ⟨fun _ => ⟨by simp, by rw [tot_app]; omega⟩, fun h => (by cases h), fun h => (by cases h)⟩
  · cases h
theorem km_pf (chk : Value → Bool) (ci k nx : Nat) : Km (k_pf chk ci k nx) := by
  intro o st es tg q pc' st' es' h
  unfold k_pf at h
  split at h
  · rename_i v a st2
    split at h
    · rename_i ci' fs hes
      cases hq : (Nat.beq ci' ci && (Nat.ble (k + 1) fs.length && chk v)) with
      | false => rw [hq] at h; cases h
      | true =>
        rw [hq] at h
        cases h
        simp only [Bool.and_eq_true] at hq
        have e1 := Nat.eq_of_beq_eq_true hq.1
        subst e1
        exact ⟨fun _ => ⟨by simp, by rw [tot_set hes (by unfold szE; dsimp only)]; exact Nat.le_refl _⟩, fun h => (by cases h), fun h => (by cases h)⟩
    · cases h
  · cases h
theorem km_ast (nx : Nat) : Km (k_ast nx) := by
  intro o st es tg q pc' st' es' h
  unfold k_ast at h
  split at h
  · rename_i v i a st2
    split at h
    · rename_i n1 ov hes
      cases hq : (decide (0 ≤ i) && Nat.ble (i.toNatClampNeg + 1) n1) with
      | false => rw [hq] at h; cases h
      | true =>
        rw [hq] at h
        cases h
        exact ⟨fun _ => ⟨by simp, by rw [tot_set (e' := (13, n1, [], (i.toNatClampNeg, .int v) :: ov)) hes rfl]; exact Nat.le_refl _⟩, fun h => (by cases h), fun h => (by cases h)⟩
    · cases h
  · cases h
theorem km_aast (nx : Nat) : Km (k_aast nx) := by
  intro o st es tg q pc' st' es' h
  unfold k_aast at h
  split at h
  · rename_i v i a st2
    split at h
    · rename_i n1 ov ci fs hes hev
      cases hq : (thC ci && (decide (0 ≤ i) && Nat.ble (i.toNatClampNeg + 1) n1)) with
      | false => rw [hq] at h; cases h
      | true =>
        rw [hq] at h
        cases h
        exact ⟨fun _ => ⟨by simp, by rw [tot_set (e' := (15, n1, [], (i.toNatClampNeg, .ref v) :: ov)) hes rfl]; exact Nat.le_refl _⟩, fun h => (by cases h), fun h => (by cases h)⟩
    · cases h
  · cases h
theorem km_cc (y nx : Nat) : Km (k_cc y nx) := by
  intro o st es tg q pc' st' es' h
  unfold k_cc at h
  split at h
  · rename_i r st2
    cases hq : (Nat.ble (r + 1) es.length && Nat.ble (cs st2) 8) with
    | false => rw [hq] at h; cases h
    | true =>
      rw [hq] at h
      cases h
      simp only [Bool.and_eq_true] at hq
      exact ⟨fun h => (by cases h), fun _ => ⟨rfl, Nat.le_of_ble_eq_true hq.1⟩, fun h => (by cases h)⟩
  · cases h
theorem km_rt : Km k_rt := by
  intro o st es tg q pc' st' es' h
  unfold k_rt at h
  split at h
  · cases h
    exact ⟨fun h => (by cases h), fun h => (by cases h), fun _ => rfl⟩
  · cases h
theorem evC_mono {code : Nat → Nat → Ki} (hk : ∀ y pc, Km (code y pc)) : ∀ (n y pc o : Nat) (st : List Value) (es es' : List CE), evC code n y pc o st es = some es' → es.length ≤ es'.length ∧ tot es ≤ tot es' := by
  intro n
  induction n with
  | zero => intro y pc o st es es' h; cases h
  | succ n ih =>
    intro y pc o st es es' h
    unfold evC at h
    split at h
    · rename_i q pc' st' es1 hcode
      have h1 := (hk y pc _ _ _ _ _ _ _ _ hcode).1 rfl
      have h2 := ih _ _ _ _ _ _ h
      exact ⟨by omega, by omega⟩
    · rename_i q pc' st' es1 hcode
      obtain ⟨e1, -⟩ := (hk y pc _ _ _ _ _ _ _ _ hcode).2.1 rfl
      subst e1
      split at h
      · rename_i es2 hev
        have h1 := ih _ _ _ _ _ _ hev
        have h2 := ih _ _ _ _ _ _ h
        exact ⟨by omega, by omega⟩
      · cases h
    · rename_i q pc' st' es1 hcode
      cases h
      rw [(hk y pc _ _ _ _ _ _ _ _ hcode).2.2 rfl]
      exact ⟨Nat.le_refl _, Nat.le_refl _⟩
    · cases h
theorem w_sized {p : Program} {l : Launch} {e : Env} {R : Room} {s : State} {m : MethodId} {args : Array Value} {below : List Frame} {meth : Method} {c : Code} {H : Heap} {locs : List Loc} {cells slots : Nat} {Q : State → Prop} {g : JFrame} (h : H.size ≤ s.heap.size + cells → W p l e R s m args below meth c H locs cells slots Q g) : W p l e R s m args below meth c H locs cells slots Q g := fun T hT X => h (by rw [← hT]; exact X.same.2.2.1) T hT X
theorem q_at {G : va_G} {t : T3} {B q : Nat} {es : List CE} {x : va_E} {H1 : Heap} (hP : va_P G cls (wl B t es ++ [(q, x)]) H1) (hD : va_D (fun q => B ≤ q) (wl B t es ++ [(q, x)])) (hz : H1.size ≤ B + es.length + 1) : q = B + es.length := by
  have hlen : (wl B t es).length = es.length := by simp [wl]
  have hlast : (wl B t es ++ [(q, x)])[es.length]? = some (q, x) := by rw [← hlen]; simp
  have h1 := (hP _ _ hlast).lt
  have h2 := hD.2 _ _ hlast
  dsimp only at h1 h2
  rcases Nat.lt_or_ge q (B + es.length) with hlt | hge
  · exfalso
    have hk : q - B < es.length := by omega
    have h3 : (wl B t es ++ [(q, x)])[q - B]? = some (B + (q - B), conc B t es[q - B]) := by
      rw [List.getElem?_append_left (by rw [hlen]; exact hk)]
      exact wl_get (List.getElem?_eq_getElem hk)
    have := hD.1 _ _ _ _ h3 hlast (by dsimp only; omega)
    omega
  · omega
theorem conc_o {B : Nat} {t : T3} {ci n : Nat} {fs : List Value} {ov : List (Nat × Value)} (h : Nat.ble 13 ci = false) : conc B t (ci, n, fs, ov) = .inr (ci, fs.map (mv (ad0 B))) := by
  have hl : ci < 13 := Nat.not_le.mp (fun q => by rw [Nat.ble_eq_true_of_le q] at h; cases h)
  have q : ∀ k, 13 ≤ k → Nat.beq ci k = false := fun k hk => by
    cases hb : Nat.beq ci k with
    | false => rfl
    | true => have := Nat.eq_of_beq_eq_true hb; omega
  unfold conc
  dsimp only
  rw [q 13 (by omega), q 14 (by omega), q 15 (by omega)]
  rfl
theorem x0 {a b : Nat} {A : Prop} (h : a = b) (hn : a = 0) (hb : Nat.beq b 0 = false) : A := by rw [← h, hn] at hb; cases hb
theorem h_al {mi : MI} {cc : ByteArray} {own : String} {pc : Nat} (hd : decode cc pc = .ok (.aload_n 0, 1)) : SndC mi cc own (k_al (pc + 1)) pc := by
  refine ⟨km_al _, ?_⟩
  intro p l e R s m args below meth c G t B n n0 F t0 o Q st es tg q pc' st' es' h
  obtain ⟨hx, hb, hlocks, hown, hts, hK, hN, hs0, hfr, hlo, hml, hin⟩ := F
  unfold k_al at h
  cases h
  refine ⟨fun _ _ _ hJ => ?_, fun h => (by cases h), fun h => (by cases h)⟩
  intro H locs ls hP hS hl h1 h2
  exact lv_aload_n hx hb hd rfl (hl.2.2 (0, .ref (B + o)) List.mem_cons_self) (hJ H locs ls hP hS hl h1 h2)
theorem h_dup {mi : MI} {cc : ByteArray} {own : String} {pc : Nat} (hd : decode cc pc = .ok (.dup, 1)) : SndC mi cc own (k_dup (pc + 1)) pc := by
  refine ⟨km_dup _, ?_⟩
  intro p l e R s m args below meth c G t B n n0 F t0 o Q st es tg q pc' st' es' h
  obtain ⟨hx, hb, hlocks, hown, hts, hK, hN, hs0, hfr, hlo, hml, hin⟩ := F
  unfold k_dup at h
  split at h
  · cases h
    refine ⟨fun _ _ _ hJ => ?_, fun h => (by cases h), fun h => (by cases h)⟩
    intro H locs ls hP hS hl h1 h2
    exact lv_dup hx hb hd rfl (hJ H locs ls hP hS hl h1 h2)
  · cases h
theorem h_iconst {mi : MI} {cc : ByteArray} {own : String} {pc : Nat} {k : Int} {v : Int32} (hd : decode cc pc = .ok (.iconst k, 1)) (hv : Int32.ofInt k = v) : SndC mi cc own (k_pI v (pc + 1)) pc := by
  refine ⟨km_pI _ _, ?_⟩
  intro p l e R s m args below meth c G t B n n0 F t0 o Q st es tg q pc' st' es' h
  obtain ⟨hx, hb, hlocks, hown, hts, hK, hN, hs0, hfr, hlo, hml, hin⟩ := F
  unfold k_pI at h
  cases h
  refine ⟨fun _ _ _ hJ => ?_, fun h => (by cases h), fun h => (by cases h)⟩
  intro H locs ls hP hS hl h1 h2
  exact lv_iconst hx hb hd hv (hJ H locs ls hP hS hl h1 h2)
theorem h_bipush {mi : MI} {cc : ByteArray} {own : String} {pc : Nat} {k : Int} {v : Int32} (hd : decode cc pc = .ok (.bipush k, 2)) (hv : (Int8.ofInt k).toInt32 = v) : SndC mi cc own (k_pI v (pc + 2)) pc := by
  refine ⟨km_pI _ _, ?_⟩
  intro p l e R s m args below meth c G t B n n0 F t0 o Q st es tg q pc' st' es' h
  obtain ⟨hx, hb, hlocks, hown, hts, hK, hN, hs0, hfr, hlo, hml, hin⟩ := F
  unfold k_pI at h
  cases h
  refine ⟨fun _ _ _ hJ => ?_, fun h => (by cases h), fun h => (by cases h)⟩
  intro H locs ls hP hS hl h1 h2
  exact lv_bipush hx hb hd hv (hJ H locs ls hP hS hl h1 h2)
theorem h_sipush {mi : MI} {cc : ByteArray} {own : String} {pc : Nat} {k : Int} {v : Int32} (hd : decode cc pc = .ok (.sipush k, 3)) (hv : (Int16.ofInt k).toInt32 = v) : SndC mi cc own (k_pI v (pc + 3)) pc := by
  refine ⟨km_pI _ _, ?_⟩
  intro p l e R s m args below meth c G t B n n0 F t0 o Q st es tg q pc' st' es' h
  obtain ⟨hx, hb, hlocks, hown, hts, hK, hN, hs0, hfr, hlo, hml, hin⟩ := F
  unfold k_pI at h
  cases h
  refine ⟨fun _ _ _ hJ => ?_, fun h => (by cases h), fun h => (by cases h)⟩
  intro H locs ls hP hS hl h1 h2
  exact lv_sipush hx hb hd hv (hJ H locs ls hP hS hl h1 h2)
theorem h_lconst {mi : MI} {cc : ByteArray} {own : String} {pc : Nat} {k : Fin 2} {v : Int64} (hd : decode cc pc = .ok (.lconst k, 1)) (hv : Int64.ofNat (k : Nat) = v) : SndC mi cc own (k_pL v (pc + 1)) pc := by
  refine ⟨km_pL _ _, ?_⟩
  intro p l e R s m args below meth c G t B n n0 F t0 o Q st es tg q pc' st' es' h
  obtain ⟨hx, hb, hlocks, hown, hts, hK, hN, hs0, hfr, hlo, hml, hin⟩ := F
  unfold k_pL at h
  cases h
  refine ⟨fun _ _ _ hJ => ?_, fun h => (by cases h), fun h => (by cases h)⟩
  intro H locs ls hP hS hl h1 h2
  exact lv_lconst hx hb hd hv (hJ H locs ls hP hS hl h1 h2)
theorem h_oi {mi : MI} {cc : ByteArray} {own : String} {pc : Nat} {i : Nat} (hd : decode cc pc = .ok (.invokespecial i, 3)) (hw : Cond.methodLink own i objectInit ∈ lw_good) (hw1 : Cond.instanceMethod objectInit ∈ lw_good) (hw2 : Cond.code objectInit ⟨#[0xb1]⟩ 1 none ∈ lw_good) : SndC mi cc own (k_oi (pc + 3)) pc := by
  refine ⟨km_oi _, ?_⟩
  intro p l e R s m args below meth c G t B n n0 F t0 o Q st es tg q pc' st' es' h
  obtain ⟨hx, hb, hlocks, hown, hts, hK, hN, hs0, hfr, hlo, hml, hin⟩ := F
  unfold k_oi at h
  split at h
  · rename_i r st2
    cases hq : Nat.ble (cs st2) 8 with
    | false => rw [hq] at h; cases h
    | true =>
      rw [hq] at h
      cases h
      have h8 := Nat.le_of_ble_eq_true hq
      refine ⟨fun _ _ _ hJ => ?_, fun h => (by cases h), fun h => (by cases h)⟩
      intro H locs ls hP hS hl h1 h2
      exact W.objInit hx hb hown (hts _ hw) (hts _ hw1) (hts _ hw2) rfl (by rw [hml]; exact hl.1) rfl hd (by omega) (by rw [mv_cs]; show 2 * 0 + _ + 12 ≤ R.locals; omega) (hJ H locs ls hP hS hl h1 h2)
  · cases h
theorem h_new {mi : MI} {cc : ByteArray} {own : String} {pc : Nat} {C : String} {T : u_T} {ci i : Nat} (hd : decode cc pc = .ok (.new i, 3)) (hc : cls[ci]? = some (C, T, nf ci)) (hin0 : ∀ w ∈ u_ws C T (nf ci), w ∈ lw_good) (h13 : Nat.ble 13 ci = false) (ty0 : Nat → FieldType) (hty : ∀ k, k < nf ci → parseFieldDescriptor (T k).2.2.1 = some (ty0 k)) (hfs : ∀ j, j < nf ci → defaultValue (ty0 j) = vp_V (dfl ci) j) (hdf : ∀ B, (dfl ci).map (mv (ad0 B)) = dfl ci) (hw : Cond.classLink own i C ∈ lw_good) (hw1 : Cond.instantiable C (nf ci) ∈ lw_good) (hw2 : Cond.initialized C ∈ lw_good) : SndC mi cc own (k_new ci (pc + 3)) pc := by
  refine ⟨km_new _ _, ?_⟩
  intro p l e R s m args below meth c G t B n n0 F t0 o Q st es tg q pc' st' es' h
  obtain ⟨hx, hb, hlocks, hown, hts, hK, hN, hs0, hfr, hlo, hml, hin⟩ := F
  unfold k_new at h
  cases h
  have hz : szE (ci, 0, dfl ci, []) = nf ci := by unfold szE; dsimp only; rw [h13]; rfl
  refine ⟨fun _ hc1 hc2 hJ => ?_, fun h => (by cases h), fun h => (by cases h)⟩
  intro H locs ls hP hS hl h1 h2
  rw [List.length_append, List.length_singleton] at hc1
  rw [tot_app, hz] at hc2
  refine va_new (ci := ci) (fs := (dfl ci).map (mv (ad0 B))) (C := C) (T := T) (N := nf ci) hx hb hts hin0 ty0 hty hown (hts _ hw) (hts _ hw1) (hts _ hw2) hK hP (wl_D B t es) hS (fun q hq => by show B ≤ q; omega) hc (fun j hj => by rw [hdf]; exact hfs j hj) (by omega) (by omega) hd (fun q H1 hP1 hD1 hS1 => ?_)
  refine w_sized (fun hz1 => ?_)
  have hq := q_at hP1 hD1 (by omega)
  subst hq
  have key := hJ H1 locs ls (by rw [wl_app, conc_o h13]; exact hP1) hS1 hl (by simp; omega) (by rw [tot_app]; omega)
  have e1 : (es ++ [((ci, 0, dfl ci, []) : CE)]).length - n0 = es.length - n0 + 1 := by rw [List.length_append, List.length_singleton]; omega
  have e2 : tot (es ++ [((ci, 0, dfl ci, []) : CE)]) - t0 = tot es - t0 + nf ci := by rw [tot_app, hz]; omega
  rw [e1, e2] at key
  exact key
theorem h_naI {mi : MI} {cc : ByteArray} {own : String} {pc : Nat} (hd : decode cc pc = .ok (.newarray .int, 2)) (hw : Cond.arrayClass .int ∈ lw_good) : SndC mi cc own (k_na 13 (pc + 2)) pc := by
  refine ⟨km_na _ _, ?_⟩
  intro p l e R s m args below meth c G t B n n0 F t0 o Q st es tg q pc' st' es' h
  obtain ⟨hx, hb, hlocks, hown, hts, hK, hN, hs0, hfr, hlo, hml, hin⟩ := F
  unfold k_na at h
  split at h
  · rename_i n1 st2
    cases hq : (decide (0 ≤ n1) && Nat.ble n1.toNatClampNeg 4000) with
    | false => rw [hq] at h; cases h
    | true =>
      rw [hq] at h
      cases h
      simp only [Bool.and_eq_true, decide_eq_true_eq] at hq
      have h4 := Nat.le_of_ble_eq_true hq.2
      refine ⟨fun _ hc1 hc2 hJ => ?_, fun h => (by cases h), fun h => (by cases h)⟩
      intro H locs ls hP hS hl h1 h2
      have hz : szE (13, n1.toNatClampNeg, [], []) = n1.toNatClampNeg := rfl
      rw [List.length_append, List.length_singleton] at hc1
      rw [tot_app, hz] at hc2
      refine va_newa (atype := .int) (ty := .int) (a0 := (n1.toNatClampNeg, .inl (fun _ => 0))) hx hb (hts _ hw) rfl hK hP (wl_D B t es) hS (fun q hq => by show B ≤ q; omega) (fun _ => rfl) (Int32.not_lt.mpr hq.1) rfl (by show _ * 4 ≤ _; omega) (by omega) (by omega) hd (fun q cA H1 hK1 hP1 hD1 hS1 => ?_)
      refine w_sized (fun hz1 => ?_)
      have hq1 := q_at hP1 hD1 (by omega)
      subst hq1
      have hcA : cA = t.1 := by
        have a1 : s.vm.findClass ("[" ++ (.int : FieldType).toString) = some cA := (hK1.2 3 _ rfl).2
        have a2 : s.vm.findClass ("[" ++ (.int : FieldType).toString) = some t.1 := (hK.2 0 _ rfl).2
        exact Option.some.inj (a1.symm.trans a2)
      subst hcA
      have key := hJ H1 locs ls (by rw [wl_app]; exact hP1) hS1 hl (by simp; omega) (by rw [tot_app]; omega)
      have e1 : (es ++ [((13, n1.toNatClampNeg, [], []) : CE)]).length - n0 = es.length - n0 + 1 := by rw [List.length_append, List.length_singleton]; omega
      have e2 : tot (es ++ [((13, n1.toNatClampNeg, [], []) : CE)]) - t0 = tot es - t0 + n1.toNatClampNeg := by rw [tot_app, hz]; omega
      rw [e1, e2] at key
      exact key
  · cases h
theorem h_naL {mi : MI} {cc : ByteArray} {own : String} {pc : Nat} (hd : decode cc pc = .ok (.newarray .long, 2)) (hw : Cond.arrayClass .long ∈ lw_good) : SndC mi cc own (k_na 14 (pc + 2)) pc := by
  refine ⟨km_na _ _, ?_⟩
  intro p l e R s m args below meth c G t B n n0 F t0 o Q st es tg q pc' st' es' h
  obtain ⟨hx, hb, hlocks, hown, hts, hK, hN, hs0, hfr, hlo, hml, hin⟩ := F
  unfold k_na at h
  split at h
  · rename_i n1 st2
    cases hq : (decide (0 ≤ n1) && Nat.ble n1.toNatClampNeg 4000) with
    | false => rw [hq] at h; cases h
    | true =>
      rw [hq] at h
      cases h
      simp only [Bool.and_eq_true, decide_eq_true_eq] at hq
      have h4 := Nat.le_of_ble_eq_true hq.2
      refine ⟨fun _ hc1 hc2 hJ => ?_, fun h => (by cases h), fun h => (by cases h)⟩
      intro H locs ls hP hS hl h1 h2
      have hz : szE (14, n1.toNatClampNeg, [], []) = n1.toNatClampNeg := rfl
      rw [List.length_append, List.length_singleton] at hc1
      rw [tot_app, hz] at hc2
      refine va_newa (atype := .long) (ty := .long) (a0 := (n1.toNatClampNeg, .inr (.inl (fun _ => 0)))) hx hb (hts _ hw) rfl hK hP (wl_D B t es) hS (fun q hq => by show B ≤ q; omega) (fun _ => rfl) (Int32.not_lt.mpr hq.1) rfl (by show _ * 8 ≤ _; omega) (by omega) (by omega) hd (fun q cA H1 hK1 hP1 hD1 hS1 => ?_)
      refine w_sized (fun hz1 => ?_)
      have hq1 := q_at hP1 hD1 (by omega)
      subst hq1
      have hcA : cA = t.2.1 := by
        have a1 : s.vm.findClass ("[" ++ (.long : FieldType).toString) = some cA := (hK1.2 3 _ rfl).2
        have a2 : s.vm.findClass ("[" ++ (.long : FieldType).toString) = some t.2.1 := (hK.2 1 _ rfl).2
        exact Option.some.inj (a1.symm.trans a2)
      subst hcA
      have key := hJ H1 locs ls (by rw [wl_app]; exact hP1) hS1 hl (by simp; omega) (by rw [tot_app]; omega)
      have e1 : (es ++ [((14, n1.toNatClampNeg, [], []) : CE)]).length - n0 = es.length - n0 + 1 := by rw [List.length_append, List.length_singleton]; omega
      have e2 : tot (es ++ [((14, n1.toNatClampNeg, [], []) : CE)]) - t0 = tot es - t0 + n1.toNatClampNeg := by rw [tot_app, hz]; omega
      rw [e1, e2] at key
      exact key
  · cases h
theorem h_nq {mi : MI} {cc : ByteArray} {own : String} {pc : Nat} {i : Nat} (hd : decode cc pc = .ok (.anewarray i, 3)) (hw : Cond.classLink own i "StoreStreams$Thing" ∈ lw_good) : SndC mi cc own (k_nq (pc + 3)) pc := by
  refine ⟨km_nq _, ?_⟩
  intro p l e R s m args below meth c G t B n n0 F t0 o Q st es tg q pc' st' es' h
  obtain ⟨hx, hb, hlocks, hown, hts, hK, hN, hs0, hfr, hlo, hml, hin⟩ := F
  unfold k_nq at h
  split at h
  · rename_i n1 st2
    cases hq : (decide (0 ≤ n1) && Nat.ble n1.toNatClampNeg 4000) with
    | false => rw [hq] at h; cases h
    | true =>
      rw [hq] at h
      cases h
      simp only [Bool.and_eq_true, decide_eq_true_eq] at hq
      have h4 := Nat.le_of_ble_eq_true hq.2
      refine ⟨fun _ hc1 hc2 hJ => ?_, fun h => (by cases h), fun h => (by cases h)⟩
      intro H locs ls hP hS hl h1 h2
      have hz : szE (15, n1.toNatClampNeg, [], []) = n1.toNatClampNeg := rfl
      rw [List.length_append, List.length_singleton] at hc1
      rw [tot_app, hz] at hc2
      refine va_newq hx hb hown (hts _ hw) hN.2.2 hK hP (wl_D B t es) hS (fun q hq => by show B ≤ q; omega) (Int32.not_lt.mpr hq.1) rfl (by omega) (by omega) (by omega) hd (fun q cA H1 hK1 hP1 hD1 hS1 => ?_)
      refine w_sized (fun hz1 => ?_)
      have hq1 := q_at hP1 hD1 (by omega)
      subst hq1
      have hcA : cA = t.2.2 := by
        obtain ⟨_, _, _, _, _, a1⟩ := (hK1.2 3 _ rfl).2
        obtain ⟨_, _, _, _, _, a2⟩ := (hK.2 2 _ rfl).2
        exact Option.some.inj (a1.symm.trans a2)
      subst hcA
      have key := hJ H1 locs ls (by rw [wl_app]; exact hP1) hS1 hl (by simp; omega) (by rw [tot_app]; omega)
      have e1 : (es ++ [((15, n1.toNatClampNeg, [], []) : CE)]).length - n0 = es.length - n0 + 1 := by rw [List.length_append, List.length_singleton]; omega
      have e2 : tot (es ++ [((15, n1.toNatClampNeg, [], []) : CE)]) - t0 = tot es - t0 + n1.toNatClampNeg := by rw [tot_app, hz]; omega
      rw [e1, e2] at key
      exact key
  · cases h
def ckI (v : Value) : Bool := match v with
  | .int _ => true
  | _ => false
def ckZ (v : Value) : Bool := match v with
  | .int x => x == 0 || x == 1
  | _ => false
def ckL (v : Value) : Bool := match v with
  | .long _ => true
  | _ => false
def ckR (v : Value) : Bool := match v with
  | .ref _ => true
  | _ => false
def CKo (chk : Value → Bool) (ty : FieldType) : Prop := ∀ (B : Nat) (v : Value), chk v = true → narrow ty (mv (ad0 B) v) = mv (ad0 B) v ∧ fits ty (mv (ad0 B) v) = true
theorem ck_I : CKo ckI .int := fun B v h => by cases v <;> first | exact ⟨rfl, rfl⟩ | cases h
theorem ck_Z : CKo ckZ .boolean := fun B v h => by
  cases v with
  | int x =>
    have hx : x = 0 ∨ x = 1 := by simpa [ckZ] using h
    exact ⟨vb_nar hx, vb_fit hx⟩
  | _ => cases h
theorem ck_L : CKo ckL .long := fun B v h => by cases v <;> first | exact ⟨rfl, rfl⟩ | cases h
theorem ck_RA (ty : FieldType) : CKo ckR (.array ty) := fun B v h => by cases v <;> first | exact ⟨rfl, rfl⟩ | cases h
theorem ck_RO (C : String) : CKo ckR (.object C) := fun B v h => by cases v <;> first | exact ⟨rfl, rfl⟩ | cases h
theorem h_pf {mi : MI} {cc : ByteArray} {own : String} {pc : Nat} {chk : Value → Bool} {ty : FieldType} {C : String} {T : u_T} {ci k i : Nat} (hd : decode cc pc = .ok (.putfield i, 3)) (hck : CKo chk ty) (hc : cls[ci]? = some (C, T, nf ci)) (hin0 : ∀ w ∈ u_ws C T (nf ci), w ∈ lw_good) (h13 : Nat.ble 13 ci = false) (ty0 : Nat → FieldType) (hty : ∀ k, k < nf ci → parseFieldDescriptor (T k).2.2.1 = some (ty0 k)) (hnm : ∀ a, a < nf ci → ∀ b, b < nf ci → a ≠ b → (T a).2.1 ≠ (T b).2.1) (hk : k < nf ci) (hw : Cond.fieldLink own i (T k).1 (T k).2.1 (T k).2.2.1 ∈ lw_good) (hfin : (T k).2.2.2 = false) (hpt : parseFieldDescriptor (T k).2.2.1 = some ty) : SndC mi cc own (k_pf chk ci k (pc + 3)) pc := by
  refine ⟨km_pf _ _ _ _, ?_⟩
  intro p l e R s m args below meth c G t B n n0 F t0 o Q st es tg q pc' st' es' h
  obtain ⟨hx, hb, hlocks, hown, hts, hK, hN, hs0, hfr, hlo, hml, hin⟩ := F
  unfold k_pf at h
  split at h
  · rename_i v a st2
    split at h
    · rename_i ci' fs hes
      cases hq : (Nat.beq ci' ci && (Nat.ble (k + 1) fs.length && chk v)) with
      | false => rw [hq] at h; cases h
      | true =>
        rw [hq] at h
        cases h
        simp only [Bool.and_eq_true] at hq
        obtain ⟨q1, q2, q3⟩ := hq
        have e1 := Nat.eq_of_beq_eq_true q1
        subst e1
        have hkl : k < fs.length := Nat.le_of_ble_eq_true q2
        have hlt : a < es.length := (List.getElem?_eq_some_iff.mp hes).1
        have htot : tot (es.set a (ci', 0, fs.set k v, [])) = tot es := tot_set hes (by unfold szE; dsimp only)
        refine ⟨fun _ _ _ hJ => ?_, fun h => (by cases h), fun h => (by cases h)⟩
        intro H locs ls hP hS hl h1 h2
        refine va_put (D := G) (ci := ci') (a := B + a) (fs := fs.map (mv (ad0 B))) (v := mv (ad0 B) v) (ty := ty) (C := C) (T := T) (N := nf ci') hx hb hts hin0 ty0 hty hnm hown hK hP (wl_D B t es) hS a (by rw [wl_get hes, conc_o h13]) hc k hk (hts _ hw) (fun _ h9 => h9) hfin hpt (hck B v q3).1 (hck B v q3).2 (by simpa using hkl) hd (fun H1 locs1 hP1 hD1 hS1 => ?_)
        have key := hJ H1 locs1 ls (by rw [← wl_set hlt, conc_o h13, List.map_set]; exact hP1) hS1 hl (by simpa using h1) (by rw [htot]; exact h2)
        rw [List.length_set, htot] at key
        exact key
    · cases h
  · cases h
theorem h_pfF {mi : MI} {cc : ByteArray} {own : String} {pc : Nat} {chk : Value → Bool} {ty : FieldType} {C : String} {T : u_T} {ci k i : Nat} (hd : decode cc pc = .ok (.putfield i, 3)) (hck : CKo chk ty) (hc : cls[ci]? = some (C, T, nf ci)) (hin0 : ∀ w ∈ u_ws C T (nf ci), w ∈ lw_good) (h13 : Nat.ble 13 ci = false) (ty0 : Nat → FieldType) (hty : ∀ k, k < nf ci → parseFieldDescriptor (T k).2.2.1 = some (ty0 k)) (hnm : ∀ a, a < nf ci → ∀ b, b < nf ci → a ≠ b → (T a).2.1 ≠ (T b).2.1) (hk : k < nf ci) (hw : Cond.fieldLink own i (T k).1 (T k).2.1 (T k).2.2.1 ∈ lw_good) (hfin : (T k).2.2.2 = true) (hdecl : (T k).1 = own) (hpt : parseFieldDescriptor (T k).2.2.1 = some ty) : SndC mi cc own (k_pf chk ci k (pc + 3)) pc := by
  refine ⟨km_pf _ _ _ _, ?_⟩
  intro p l e R s m args below meth c G t B n n0 F t0 o Q st es tg q pc' st' es' h
  obtain ⟨hx, hb, hlocks, hown, hts, hK, hN, hs0, hfr, hlo, hml, hin⟩ := F
  unfold k_pf at h
  split at h
  · rename_i v a st2
    split at h
    · rename_i ci' fs hes
      cases hq : (Nat.beq ci' ci && (Nat.ble (k + 1) fs.length && chk v)) with
      | false => rw [hq] at h; cases h
      | true =>
        rw [hq] at h
        cases h
        simp only [Bool.and_eq_true] at hq
        obtain ⟨q1, q2, q3⟩ := hq
        have e1 := Nat.eq_of_beq_eq_true q1
        subst e1
        have hkl : k < fs.length := Nat.le_of_ble_eq_true q2
        have hlt : a < es.length := (List.getElem?_eq_some_iff.mp hes).1
        have htot : tot (es.set a (ci', 0, fs.set k v, [])) = tot es := tot_set hes (by unfold szE; dsimp only)
        refine ⟨fun _ _ _ hJ => ?_, fun h => (by cases h), fun h => (by cases h)⟩
        intro H locs ls hP hS hl h1 h2
        refine va_putF (D := G) (ci := ci') (a := B + a) (fs := fs.map (mv (ad0 B))) (v := mv (ad0 B) v) (ty := ty) (C := C) (T := T) (N := nf ci') hx hb hts hin0 ty0 hty hnm hown hK hP (wl_D B t es) hS a (by rw [wl_get hes, conc_o h13]) hc k hk (hts _ hw) (fun _ h9 => h9) hfin hin hdecl hpt (hck B v q3).1 (hck B v q3).2 (by simpa using hkl) hd (fun H1 locs1 hP1 hD1 hS1 => ?_)
        have key := hJ H1 locs1 ls (by rw [← wl_set hlt, conc_o h13, List.map_set]; exact hP1) hS1 hl (by simpa using h1) (by rw [htot]; exact h2)
        rw [List.length_set, htot] at key
        exact key
    · cases h
  · cases h
theorem h_ast {mi : MI} {cc : ByteArray} {own : String} {pc : Nat} (hd : decode cc pc = .ok (.iastore, 1)) : SndC mi cc own (k_ast (pc + 1)) pc := by
  refine ⟨km_ast _, ?_⟩
  intro p l e R s m args below meth c G t B n n0 F t0 o Q st es tg q pc' st' es' h
  obtain ⟨hx, hb, hlocks, hown, hts, hK, hN, hs0, hfr, hlo, hml, hin⟩ := F
  unfold k_ast at h
  split at h
  · rename_i v i a st2
    split at h
    · rename_i n1 ov hes
      cases hq : (decide (0 ≤ i) && Nat.ble (i.toNatClampNeg + 1) n1) with
      | false => rw [hq] at h; cases h
      | true =>
        rw [hq] at h
        cases h
        simp only [Bool.and_eq_true, decide_eq_true_eq] at hq
        have hkl : i.toNatClampNeg < n1 := Nat.le_of_ble_eq_true hq.2
        have hlt : a < es.length := (List.getElem?_eq_some_iff.mp hes).1
        have htot : tot (es.set a (13, n1, [], (i.toNatClampNeg, .int v) :: ov)) = tot es := tot_set (e' := (13, n1, [], (i.toNatClampNeg, .int v) :: ov)) hes rfl
        refine ⟨fun _ _ _ hJ => ?_, fun h => (by cases h), fun h => (by cases h)⟩
        intro H locs ls hP hS hl h1 h2
        refine va_iast (D := G) (x := v) hx hb hK hP (wl_D B t es) hS a 0 (wl_get hes) rfl (i := i) (show vp_in i n1 from fun z => by rcases z with z | z; exact absurd hq.1 (Int32.not_le.mpr z); omega) hd (fun H1 locs1 hP1 hD1 hS1 => ?_)
        have key := hJ H1 locs1 ls (by rw [← wl_set hlt]; exact hP1) hS1 hl (by simpa using h1) (by rw [htot]; exact h2)
        rw [List.length_set, htot] at key
        exact key
    · cases h
  · cases h
theorem h_aast {mi : MI} {cc : ByteArray} {own : String} {pc : Nat} (hd : decode cc pc = .ok (.aastore, 1)) : SndC mi cc own (k_aast (pc + 1)) pc := by
  refine ⟨km_aast _, ?_⟩
  intro p l e R s m args below meth c G t B n n0 F t0 o Q st es tg q pc' st' es' h
  obtain ⟨hx, hb, hlocks, hown, hts, hK, hN, hs0, hfr, hlo, hml, hin⟩ := F
  unfold k_aast at h
  split at h
  · rename_i v i a st2
    split at h
    · rename_i n1 ov ci fs hes hev
      cases hq : (thC ci && (decide (0 ≤ i) && Nat.ble (i.toNatClampNeg + 1) n1)) with
      | false => rw [hq] at h; cases h
      | true =>
        rw [hq] at h
        cases h
        simp only [Bool.and_eq_true, decide_eq_true_eq] at hq
        obtain ⟨q0, q1, q2⟩ := hq
        have hkl : i.toNatClampNeg < n1 := Nat.le_of_ble_eq_true q2
        have hlt : a < es.length := (List.getElem?_eq_some_iff.mp hes).1
        have htot : tot (es.set a (15, n1, [], (i.toNatClampNeg, .ref v) :: ov)) = tot es := tot_set (e' := (15, n1, [], (i.toNatClampNeg, .ref v) :: ov)) hes rfl
        refine ⟨fun _ _ _ hJ => ?_, fun h => (by cases h), fun h => (by cases h)⟩
        intro H locs ls hP hS hl h1 h2
        have hvi : vp_in i n1 := fun z => by rcases z with z | z; exact absurd q1 (Int32.not_le.mpr z); omega
        have go : ∀ (H1 : Heap) (locs1 : List Loc), va_P G cls ((wl B t es).set a (B + a, conc B t (15, n1, [], (i.toNatClampNeg, .ref v) :: ov))) H1 → va_S (fun q => B ≤ q) s.heap H1 locs1 → W p l e R s m args below meth c H1 locs1 (es.length - n0) (tot es - t0) Q (F0 m (pc + 1) ls (st'.map (mv (ad0 B)))) := by
          intro H1 locs1 hP1 hS1
          have key := hJ H1 locs1 ls (by rw [← wl_set hlt]; exact hP1) hS1 hl (by simpa using h1) (by rw [htot]; exact h2)
          rw [List.length_set, htot] at key
          exact key
        have hcase : ci = 9 ∨ ci = 5 ∨ ci = 0 ∨ ci = 6 ∨ ci = 7 ∨ ci = 2 ∨ ci = 3 := by
          simp only [thC, Bool.or_eq_true] at q0
          rcases q0 with z | z | z | z | z | z | z <;> (have := Nat.eq_of_beq_eq_true z; omega)
        rcases hcase with rfl | rfl | rfl | rfl | rfl | rfl | rfl
        · exact va_astq (D := G) hx hb hK hP (wl_D B t es) hS a 2 v 9 (wl_get hes) rfl (wl_get hev) rfl hvi hd (fun H1 locs1 hP1 hD1 hS1 => go H1 locs1 hP1 hS1)
        · exact va_astqO (D := G) (E := "StoreStreams$Thing") (r := (RX5, TX5, 0)) hx hb hK hP (wl_D B t es) hS a 2 v 5 (wl_get hes) rfl (hN.2.1 RX5 (by simp [nwC])) (wl_get hev) rfl hvi hd (fun H1 locs1 hP1 hD1 hS1 => go H1 locs1 hP1 hS1)
        · exact va_astqO (D := G) (E := "StoreStreams$Thing") (r := (RX0, TX0, 0)) hx hb hK hP (wl_D B t es) hS a 2 v 0 (wl_get hes) rfl (hN.2.1 RX0 (by simp [nwC])) (wl_get hev) rfl hvi hd (fun H1 locs1 hP1 hD1 hS1 => go H1 locs1 hP1 hS1)
        · exact va_astqO (D := G) (E := "StoreStreams$Thing") (r := (RX6, TX6, 0)) hx hb hK hP (wl_D B t es) hS a 2 v 6 (wl_get hes) rfl (hN.2.1 RX6 (by simp [nwC])) (wl_get hev) rfl hvi hd (fun H1 locs1 hP1 hD1 hS1 => go H1 locs1 hP1 hS1)
        · exact va_astqO (D := G) (E := "StoreStreams$Thing") (r := (RX7, TX7, 0)) hx hb hK hP (wl_D B t es) hS a 2 v 7 (wl_get hes) rfl (hN.2.1 RX7 (by simp [nwC])) (wl_get hev) rfl hvi hd (fun H1 locs1 hP1 hD1 hS1 => go H1 locs1 hP1 hS1)
        · exact va_astqO (D := G) (E := "StoreStreams$Thing") (r := (RX2, TX2, 0)) hx hb hK hP (wl_D B t es) hS a 2 v 2 (wl_get hes) rfl (hN.2.1 RX2 (by simp [nwC])) (wl_get hev) rfl hvi hd (fun H1 locs1 hP1 hD1 hS1 => go H1 locs1 hP1 hS1)
        · exact va_astqO (D := G) (E := "StoreStreams$Thing") (r := (RX3, TX3, 0)) hx hb hK hP (wl_D B t es) hS a 2 v 3 (wl_get hes) rfl (hN.2.1 RX3 (by simp [nwC])) (wl_get hev) rfl hvi hd (fun H1 locs1 hP1 hD1 hS1 => go H1 locs1 hP1 hS1)
    · cases h
  · cases h
theorem h_rt {mi : MI} {cc : ByteArray} {own : String} {pc : Nat} (hd : decode cc pc = .ok (.return_, 1)) : SndC mi cc own (k_rt) pc := by
  refine ⟨km_rt, ?_⟩
  intro p l e R s m args below meth c G t B n n0 F t0 o Q st es tg q pc' st' es' h
  obtain ⟨hx, hb, hlocks, hown, hts, hK, hN, hs0, hfr, hlo, hml, hin⟩ := F
  unfold k_rt at h
  split at h
  · cases h
    exact ⟨fun h => (by cases h), fun h => (by cases h), fun _ => ⟨rfl, rfl, hd⟩⟩
  · cases h
theorem h_stop {mi : MI} {cc : ByteArray} {own : String} {pc : Nat} : SndC mi cc own k_stop pc := by
  refine ⟨fun o st es tg q pc' st' es' h => (by cases h), ?_⟩
  intro p l e R s m args below meth c G t B n n0 F t0 o Q st es tg q pc' st' es' h
  cases h
theorem h_cond {mi : MI} {cc : ByteArray} {own : String} {pc : Nat} {b : Bool} {i j : Ki} (hi : SndC mi cc own i pc) (hj : SndC mi cc own j pc) : SndC mi cc own (cond b i j) pc := by cases b; exact hj; exact hi
theorem h_leaf {mi : MI} {cc : ByteArray} {own : String} {pc k : Nat} {i : Ki} (hi : SndC mi cc own i k) : SndC mi cc own (cond (Nat.beq pc k) i k_stop) pc := by
  cases hb : Nat.beq pc k with
  | true => rw [Nat.eq_of_beq_eq_true hb]; exact hi
  | false => exact h_stop
theorem pinC_blind {G : va_G} {t : T3} {B r : Nat} {es : List CE} : FrameBlind (PinC G t B es r) := fun _ U g mk q => by
  obtain ⟨q0, q1, q2, q3, q4⟩ := q
  exact ⟨q0, q1, q2, va_K.moved (u := U) (U := U.calling g mk _) (Vm.Alike.refl U.vm) q3, q4.at (U := U.calling g mk _) rfl⟩
theorem run_goC {p : Program} {l : Launch} {e : Env} {R : Room} {s : State} {m : MethodId} {args : Array Value} {below : List Frame} {meth : Method} {c : Code} {H : Heap} {locs : List Loc} {Q : State → Prop} {G : va_G} {t : T3} {B cells slots mc ms : Nat} {es2 : List CE} {a : Array Value} {pc : Nat} {ls : Array Slot} {st0 rest : List Value} (hr : va_Run p l e R s m args below meth c H locs cells slots mc ms (F0 m pc ls st0) rest (QinC G t B es2 a) (fun q => B ≤ q)) (hS : va_S (fun q => B ≤ q) s.heap H locs)
    (kk : ∀ (H1 : Heap) (locs1 : List Loc), va_P G cls (wl B t es2) H1 → va_S (fun q => B ≤ q) s.heap H1 locs1 → W p l e R s m args below meth c H1 locs1 (cells + mc) (slots + ms) Q (F0 m (pc + 3) ls rest)) : W p l e R s m args below meth c H locs cells slots Q (F0 m pc ls st0) := by
  intro T hT X
  obtain ⟨v, st₀, u, T', L, h0, X', hL, e1, e2, ⟨⟨hv, hp⟩, hz, hf⟩, stp⟩ := hr T hT X
  have ev : v = none := by injection hv
  subst ev
  rw [h0] at hz hf
  obtain ⟨t2, a1, b1⟩ := kk T'.heap (locs ++ L) (by rw [e1]; exact hp)
    ⟨Nat.le_trans hS.1 (by rw [e1]; exact hz), fun q h1 h2 => by rw [e1, hf q (Nat.lt_of_lt_of_le h1 hS.1) h2]; exact hS.2.1 q h1 h2, fun q hq => by
      rcases List.mem_append.mp hq with h | h
      · exact hS.2.2 q h
      · exact hL q h⟩ T' rfl X'
  exact ⟨t2, stp t2 a1, b1⟩
theorem wl_sz {G : va_G} {t : T3} {B : Nat} {es : List CE} {H : Heap} (hP : va_P G cls (wl B t es) H) (h0 : 0 < es.length) (hz : H.size ≤ B + es.length) : H.size = B + es.length := by
  have hk : es.length - 1 < es.length := by omega
  have := (hP _ _ (wl_get (B := B) (t := t) (List.getElem?_eq_getElem hk))).lt
  dsimp only at this
  omega
theorem h_cc {mi : MI} {cc : ByteArray} {own : String} {pc : Nat} {i y : Nat} (hd : decode cc pc = .ok (.invokespecial i, 3)) (hm : MOK mi y 0) (hret : (mi y).2.2.2 = none) (hnm : (mi y).1.name = "<init>") (hw : (own, i, (mi y).1) ∈ nwM) (hw1 : Cond.instanceMethod (mi y).1 ∈ lw_good) : SndC mi cc own (k_cc y (pc + 3)) pc := by
  refine ⟨km_cc _ _, ?_⟩
  intro p l e R s m args below meth c G t B n n0 F t0 o Q st es tg q pc' st' es' h
  obtain ⟨hx, hb, hlocks, hown, hts, hK, hN, hs0, hfr, hlo, hml, hin⟩ := F
  unfold k_cc at h
  split at h
  · rename_i r st2
    cases hq : (Nat.ble (r + 1) es.length && Nat.ble (cs st2) 8) with
    | false => rw [hq] at h; cases h
    | true =>
      rw [hq] at h
      cases h
      simp only [Bool.and_eq_true] at hq
      have hrl : r < es.length := Nat.le_of_ble_eq_true hq.1
      have h8 := Nat.le_of_ble_eq_true hq.2
      obtain ⟨m1, m2, m3, m4⟩ := hm
      refine ⟨fun h => (by cases h), fun _ => ⟨rfl, fun es2 hcon hc1 hc2 hle1 hle2 hJ => ?_⟩, fun h => (by cases h)⟩
      intro H locs ls hP hS hl h1 h2
      refine w_sized (fun hz1 => ?_)
      have hsz := wl_sz hP (Nat.lt_of_le_of_lt (Nat.zero_le r) hrl) (by omega)
      dsimp only at hcon
      unfold ConC at hcon
      have hcode := m1
      rw [hret] at hcode hcon
      have hrun := va_runIN (e := e) (below := below) (meth := meth) (As := []) (b := B + r) (n := 0) (rest := st'.map (mv (ad0 B))) (Ts := lw_good) (host := "StoreStreams") (g := F0 m pc ls (.ref (B + r) :: st'.map (mv (ad0 B)))) ⟨hx, hb, hml, hown, hts⟩ hcon ⟨va_cnB 0 hts (good_ws hcode) rfl rfl rfl (hN.1 _ hw) (hts _ m2) m3 ⟨hfr, by show 8 + ((mi y).2.2.1 + 11) + 64 * n ≤ R.locals; omega⟩, hnm, hts _ hw1⟩ ⟨pinC_blind, fun U hU hW => ⟨rfl, by rw [hU]; exact hP, by rw [hU]; exact hsz, va_K.moved hW.alike hK, hN.to hW⟩⟩ rfl rfl hl.1 rfl (by rw [mv_cs]; show 2 * 0 + _ ≤ 8; omega) hd (locs := locs) (cells := es.length - n0) (slots := tot es - t0) ⟨by omega, by omega⟩
      refine run_goC hrun hS (fun H1 locs1 hP1 hS1 => ?_)
      have key := hJ H1 locs1 ls hP1 hS1 hl (by omega) (by omega)
      rw [show es2.length - n0 = es.length - n0 + (es2.length - es.length) by omega, show tot es2 - t0 = tot es - t0 + (tot es2 - tot es) by omega] at key
      exact key
  · cases h
theorem evC_sound {mi : MI} {code : Nat → Nat → Ki} (hS : ∀ y, (plainName (mi y).1.cls = true ∧ (mi y).2.2.1 = 1 ∧ (mi y).2.2.2 = none ∧ (mi y).1.name = "<init>") ∧ ∀ pc, SndC mi (mi y).2.1 (mi y).1.cls (code y pc) pc) (l : Launch) (G : va_G) (t : T3) (B : Nat) : ∀ (n y pc o : Nat) (st : List Value) (es es' : List CE), evC code n y pc o st es = some es' →
    ∀ (p : Program) (e : Env) (R : Room) (s : State) (m : MethodId) (args : Array Value) (below : List Frame) (meth : Method) (c : Code) (n0 t0 : Nat) (Qc : Array Value → State → Outcome → State → Prop), (p.tables.exec = Jvm.exec ∧ c.code = (mi y).2.1 ∧ meth.locks = false ∧ s.vm.findClass (mi y).1.cls = some m.cls ∧ (∀ w ∈ lw_good, w.before args s = true) ∧ va_K G cls (tysA t) s ∧ NWs s ∧ s.heap.size = B + n0 ∧ c.maxLocals = 1 ∧ meth.name = "<init>") → meth.sig.returnType = none → n ≤ R.frames → 64 * n ≤ R.locals → es'.length - n0 ≤ R.cells → tot es' - t0 ≤ R.slots → (∀ u : State, va_P G cls (wl B t es') u.heap → va_F (fun q => B ≤ q) s u → Qc args s (.returned none) u) →
    JC p l e R s m args below meth c G t B n0 t0 o (MQ below Qc args s (es'.length - n0) (tot es' - t0) (fun q => B ≤ q)) pc st es := by
  have hkm : ∀ y pc, Km (code y pc) := fun y pc => ((hS y).2 pc).1
  intro n
  induction n with
  | zero => intro y pc o st es es' h; cases h
  | succ n ih =>
    intro y pc o st es es' h p e R s m args below meth c n0 t0 Qc F hr hfr hlo hc1 hc2 hq
    obtain ⟨f1, f2, f3, f4, f5, f6, f7, f8, f9, f10⟩ := id F
    have F' : CtxC p R s m args meth c (mi y).2.1 (mi y).1.cls G t B n n0 := ⟨f1, f2, f3, f4, f5, f6, f7, f8, hfr, by omega, f9, f10⟩
    have met : ∀ (y2 r : Nat) (a a2 : List CE), r < a.length → evC code n y2 0 r [] a = some a2 → ConC mi l G t B n y2 r a a2 ∧ a.length ≤ a2.length ∧ tot a ≤ tot a2 := by
      intro y2 r a a2 hr2 hev
      have hmono : a.length ≤ a2.length ∧ tot a ≤ tot a2 := evC_mono hkm n y2 0 r [] a a2 hev
      refine ⟨?_, hmono⟩
      refine Met.ofW (cc := (mi y2).2.1) (maxL := (mi y2).2.2.1) (ret := (mi y2).2.2.2) (hS y2).1.1 rfl ?_
      intro p e s m args below meth c s₁ Bd hml hv
      obtain ⟨rfl, hP, hsz, hK, hN⟩ := hv
      have hts := atoms_spec (ws := Cond.code (mi y2).1 (mi y2).2.1 (mi y2).2.2.1 (mi y2).2.2.2 :: lw_good) Bd.pre
      have hl := lv_entry ([.ref (B + r)]) (n := (mi y2).2.2.1) (by rw [(hS y2).1.2.1]; exact Nat.le_refl _)
      rw [lg_entry_eq]
      have hin : meth.name = "<init>" := ((name_of_methodNamed Bd.named Bd.method).1).trans (hS y2).1.2.2.2
      have key := (ih y2 0 r [] a a2 hev p e (rmC n (a2.length - a.length) (tot a2 - tot a)) s m _ below meth c a.length (tot a) (QinC G t B a2) ⟨Bd.exec, Bd.bytes, Bd.notSynchronized, findClass_of_methodNamed Bd.named, fun w hw => hts w (List.mem_cons_of_mem _ hw), hK, hN, hsz, hml.trans (hS y2).1.2.1, hin⟩ (Bd.returns.trans (hS y2).1.2.2.1) (Nat.le_refl _) (Nat.le_refl _) (Nat.le_refl _) (Nat.le_refl _) (fun u hu hF => ⟨⟨rfl, hu⟩, hF⟩)) s.heap [] _ hP va_S.rf (by rw [(hS y2).1.2.1] at hl; exact hl) (Nat.le_refl _) (Nat.le_refl _)
      rw [Nat.sub_self, Nat.sub_self] at key
      rw [(hS y2).1.2.1]
      exact key
    unfold evC at h
    split at h
    · rename_i q pc' st' es1 hcode
      have g := (((hS y).2 pc).2 p l e R s m args below meth c G t B n n0 F' t0 o (MQ below Qc args s (es'.length - n0) (tot es' - t0) (fun q => B ≤ q)) st es _ _ _ _ _ hcode).1 rfl
      have k1 := evC_mono hkm _ _ _ _ _ _ _ h
      exact g (by omega) (by omega) (ih y pc' o st' es1 es' h p e R s m args below meth c n0 t0 Qc F hr (by omega) (by omega) hc1 hc2 hq)
    · rename_i q pc' st' es1 hcode
      obtain ⟨e1, hrl⟩ := (hkm y pc _ _ _ _ _ _ _ _ hcode).2.1 rfl
      subst e1
      obtain ⟨-, g2⟩ := (((hS y).2 pc).2 p l e R s m args below meth c G t B n n0 F' t0 o (MQ below Qc args s (es'.length - n0) (tot es' - t0) (fun q => B ≤ q)) st es1 _ _ _ _ _ hcode).2.1 rfl
      split at h
      · rename_i es2 hev
        have k1 := evC_mono hkm _ _ _ _ _ _ _ h
        obtain ⟨m1, m2, m3⟩ := met q.1 q.2 es1 es2 hrl hev
        exact g2 es2 m1 (by omega) (by omega) m2 m3 (ih y pc' o st' es2 es' h p e R s m args below meth c n0 t0 Qc F hr (by omega) (by omega) hc1 hc2 hq)
      · cases h
    · rename_i q pc' st' es1 hcode
      cases h
      obtain ⟨e1, e2, e3⟩ := (((hS y).2 pc).2 p l e R s m args below meth c G t B n n0 F' t0 o (MQ below Qc args s (es'.length - n0) (tot es' - t0) (fun q => B ≤ q)) st es _ _ _ _ _ hcode).2.2 rfl
      subst e1
      subst e2
      intro H locs ls hP hSx hl h1 h2
      exact W.vret f1 f2 hr (fun u hu hW => hq u (by rw [hu]; exact hP) (hSx.F hu)) hSx.2.2 e3
    · cases h
