/-! ===== the machine over the kit: what the cells are in a heap, and that each transformer tells the truth ===== -/
def mv (ad : Nat → Nat) : Value → Value
  | .ref a => .ref (ad a)
  | v => v
def mvl (ad : Nat → Nat) (q : Nat × Value) : Nat × Value := (q.1, mv ad q.2)
theorem mv_cat (ad : Nat → Nat) (v : Value) : (mv ad v).category = v.category := by cases v <;> rfl
theorem mv_cs (ad : Nat → Nat) (st : List Value) : ((st.map (mv ad)).map fun v => v.category).sum = cs st := by
  unfold cs
  rw [List.map_map]
  congr 1
  exact List.map_congr_left (fun v _ => mv_cat ad v)
def fv (ad : Nat → Nat) (σ : Hp) (c ci k : Nat) : Value := match ft ci k with
  | 0 => .int (σ.1 c k)
  | 1 => .long (σ.2 c k)
  | o + 2 => .ref (ad (c + o))
abbrev T3 : Type := ClassId × ClassId × ClassId
def cel (t : T3) (ad : Nat → Nat) (σ : Hp) (c : Nat) : va_E := cond (Nat.beq (kd c) 13) (.inl (t.1, ln c, .inl (σ.1 c))) (cond (Nat.beq (kd c) 14) (.inl (t.2.1, ln c, .inr (.inl (σ.2 c)))) (cond (Nat.beq (kd c) 15) (.inl (t.2.2, ln c, .inr (.inr (.inr (.inr (fun i => some (ad (91 + i)))))))) (.inr (kd c, (List.range (nf (kd c))).map (fv ad σ c (kd c))))))
def wsA (t : T3) (ad : Nat → Nat) (σ : Hp) : va_W := (List.range 128).map (fun c => (ad c, cel t ad σ c))
def tysA (t : T3) : List (ClassId × FieldType) := [(t.1, .int), (t.2.1, .long), (t.2.2, .object "StoreStreams$Thing")]
def AA (ad : Nat → Nat) : Nat → Prop := fun q => ∃ c, c < 128 ∧ q = ad c
def Inj (ad : Nat → Nat) : Prop := ∀ i j, i < 128 → j < 128 → ad i = ad j → i = j
def Stat (A : Nat → Prop) (ad : Nat → Nat) (U : State) (H : Heap) : Prop := va_Z "StoreStreams" "KEYS" "[I" (.ref (ad 128)) A U H ∧ va_T .int (ad 128) 11 (fun j => .int (tv 128 j)) A U H ∧ va_Z "StoreStreams" "ABOVE" "[I" (.ref (ad 129)) A U H ∧ va_T .int (ad 129) 7 (fun j => .int (tv 129 j)) A U H ∧ va_Nw (.fieldLinkNest "StoreStreams$Scribe" 68 "StoreStreams" "KEYS" "[I" "StoreStreams") U
theorem kd_lt {c k : Nat} (h : Nat.beq (kd c) k = true) (hk : Nat.beq k 99 = false) : c < 128 := by
  rcases Nat.lt_or_ge c 128 with q | q
  · exact q
  · exfalso
    have e : kd c = 99 := by unfold kd; rw [show Nat.ble 128 c = true from Nat.ble_eq_true_of_le q]; rfl
    rw [e] at h
    rw [Nat.eq_of_beq_eq_true h] at hk
    have := Nat.beq_refl k
    rw [this] at hk
    cases hk
theorem ws_get {t : T3} {ad : Nat → Nat} {σ : Hp} {c : Nat} (h : c < 128) : (wsA t ad σ)[c]? = some (ad c, cel t ad σ c) := by
  simp [wsA, h]
theorem ws_set {t : T3} {ad : Nat → Nat} {σ τ : Hp} {c : Nat} {e : va_E} (he : e = cel t ad τ c) (ho : ∀ d, d ≠ c → cel t ad τ d = cel t ad σ d) : (wsA t ad σ).set c (ad c, e) = wsA t ad τ := by
  apply List.ext_getElem?
  intro j
  rw [List.getElem?_set]
  by_cases hj : c = j
  · subst hj
    by_cases h : c < 128
    · simp [wsA, h, he]
    · simp [wsA, h]
  · rw [if_neg hj]
    by_cases h : j < 128
    · rw [ws_get h, ws_get h, ho j (fun q => hj q.symm)]
    · simp [wsA, h]
theorem va_Dws {t : T3} {ad : Nat → Nat} {σ : Hp} (h : Inj ad) : va_D (AA ad) (wsA t ad σ) := by
  have key : ∀ (k : Nat) (q : Nat × va_E), (wsA t ad σ)[k]? = some q → k < 128 ∧ q.1 = ad k := by
    intro k q hq
    by_cases hk : k < 128
    · rw [ws_get hk] at hq
      cases hq
      exact ⟨hk, rfl⟩
    · simp [wsA, hk] at hq
  refine ⟨fun i j p q hp hq e => ?_, fun k q hq => ?_⟩
  · obtain ⟨h1, h2⟩ := key i p hp
    obtain ⟨h3, h4⟩ := key j q hq
    exact h i j h1 h3 (by rw [← h2, ← h4, e])
  · obtain ⟨h1, h2⟩ := key k q hq
    exact ⟨k, h1, h2⟩
theorem cel_o {t : T3} {ad : Nat → Nat} {σ : Hp} {c ci : Nat} (h : Nat.beq (kd c) ci = true) (hc : Nat.ble 13 ci = false) : cel t ad σ c = .inr (ci, (List.range (nf ci)).map (fv ad σ c ci)) := by
  have e := Nat.eq_of_beq_eq_true h
  have hl : ci < 13 := Nat.not_le.mp (fun q => by rw [Nat.ble_eq_true_of_le q] at hc; cases hc)
  have q : ∀ k, 13 ≤ k → Nat.beq ci k = false := fun k hk => by
    cases hb : Nat.beq ci k with
    | false => rfl
    | true => have := Nat.eq_of_beq_eq_true hb; omega
  unfold cel
  rw [e, q 13 (by omega), q 14 (by omega), q 15 (by omega)]
  rfl
theorem cel_i {t : T3} {ad : Nat → Nat} {σ : Hp} {c : Nat} (h : Nat.beq (kd c) 13 = true) : cel t ad σ c = .inl (t.1, ln c, .inl (σ.1 c)) := by unfold cel; rw [h]; rfl
theorem cel_l {t : T3} {ad : Nat → Nat} {σ : Hp} {c : Nat} (h : Nat.beq (kd c) 14 = true) : cel t ad σ c = .inl (t.2.1, ln c, .inr (.inl (σ.2 c))) := by
  have e := Nat.eq_of_beq_eq_true h
  unfold cel; rw [e]; rfl
theorem cel_q {t : T3} {ad : Nat → Nat} {σ : Hp} {c : Nat} (h : Nat.beq (kd c) 15 = true) : cel t ad σ c = .inl (t.2.2, ln c, .inr (.inr (.inr (.inr (fun i => some (ad (91 + i))))))) := by
  have e := Nat.eq_of_beq_eq_true h
  unfold cel; rw [e]; rfl
theorem fv_eq {ad : Nat → Nat} {σ τ : Hp} {c ci k : Nat} (h1 : τ.1 c k = σ.1 c k) (h2 : τ.2 c k = σ.2 c k) : fv ad τ c ci k = fv ad σ c ci k := by
  unfold fv
  split <;> simp_all
theorem cel_eq {t : T3} {ad : Nat → Nat} {σ τ : Hp} {c : Nat} (h1 : τ.1 c = σ.1 c) (h2 : τ.2 c = σ.2 c) : cel t ad τ c = cel t ad σ c := by
  unfold cel
  rw [h1, h2]
  have : (fv ad τ c (kd c)) = (fv ad σ c (kd c)) := funext fun k => fv_eq (by rw [h1]) (by rw [h2])
  rw [this]
theorem sI_ne {σ : Hp} {c k d : Nat} {v : Int32} (h : d ≠ c) : (sI σ c k v).1 d = σ.1 d := if_neg h
theorem sI_eq (σ : Hp) (c k : Nat) (v : Int32) : (sI σ c k v).1 c = upd (σ.1 c) k v := if_pos rfl
theorem sL_ne {σ : Hp} {c k d : Nat} {v : Int64} (h : d ≠ c) : (sL σ c k v).2 d = σ.2 d := if_neg h
theorem sL_eq (σ : Hp) (c k : Nat) (v : Int64) : (sL σ c k v).2 c = vp_updL (σ.2 c) k v := if_pos rfl
theorem sC_ne {σ : Hp} {c d : Nat} {f : Nat → Int32} (h : d ≠ c) : (sC σ c f).1 d = σ.1 d := if_neg h
theorem sC_eq (σ : Hp) (c : Nat) (f : Nat → Int32) : (sC σ c f).1 c = f := if_pos rfl
/-- a field of an object, written -/
theorem fs_set {ad : Nat → Nat} {σ τ : Hp} {c ci k : Nat} {w : Value} (hk : k < nf ci) (hw : fv ad τ c ci k = w) (ho : ∀ j, j ≠ k → fv ad τ c ci j = fv ad σ c ci j) : ((List.range (nf ci)).map (fv ad σ c ci)).set k w = (List.range (nf ci)).map (fv ad τ c ci) := by
  apply List.ext_getElem?
  intro j
  rw [List.getElem?_set]
  by_cases hj : k = j
  · subst hj
    simp [hk, hw]
  · rw [if_neg hj]
    by_cases h : j < nf ci
    · simp [h, ho j (fun q => hj q.symm)]
    · simp [h]
theorem ws_fI {t : T3} {ad : Nat → Nat} {σ : Hp} {c ci k : Nat} {v : Int32} (h : Nat.beq (kd c) ci = true) (hc : Nat.ble 13 ci = false) (hk : k < nf ci) (hf : ft ci k = 0) : (wsA t ad σ).set c (ad c, .inr (ci, ((List.range (nf ci)).map (fv ad σ c ci)).set k (.int v))) = wsA t ad (sI σ c k v) := by
  refine ws_set ?_ (fun d hd => cel_eq (sI_ne hd) rfl)
  rw [cel_o h hc]
  exact congrArg (fun l => (Sum.inr (ci, l) : va_E)) (fs_set (ad := ad) (c := c) hk (τ := sI σ c k v) (by unfold fv; rw [hf]; show Value.int ((sI σ c k v).1 c k) = _; rw [sI_eq]; simp [upd]) (fun j hj => fv_eq (by rw [sI_eq]; simp [upd, hj]) rfl))
theorem ws_fL {t : T3} {ad : Nat → Nat} {σ : Hp} {c ci k : Nat} {v : Int64} (h : Nat.beq (kd c) ci = true) (hc : Nat.ble 13 ci = false) (hk : k < nf ci) (hf : ft ci k = 1) : (wsA t ad σ).set c (ad c, .inr (ci, ((List.range (nf ci)).map (fv ad σ c ci)).set k (.long v))) = wsA t ad (sL σ c k v) := by
  refine ws_set ?_ (fun d hd => cel_eq rfl (sL_ne hd))
  rw [cel_o h hc]
  exact congrArg (fun l => (Sum.inr (ci, l) : va_E)) (fs_set (ad := ad) (c := c) hk (τ := sL σ c k v) (by unfold fv; rw [hf]; show Value.long ((sL σ c k v).2 c k) = _; rw [sL_eq]; simp [vp_updL]) (fun j hj => fv_eq rfl (by rw [sL_eq]; simp [vp_updL, hj])))
theorem ws_ai {t : T3} {ad : Nat → Nat} {σ : Hp} {c k : Nat} {v : Int32} (h : Nat.beq (kd c) 13 = true) : (wsA t ad σ).set c (ad c, .inl (t.1, ln c, .inl (upd (σ.1 c) k v))) = wsA t ad (sI σ c k v) :=
  ws_set (by rw [cel_i h, sI_eq]) (fun d hd => cel_eq (sI_ne hd) rfl)
theorem ws_al {t : T3} {ad : Nat → Nat} {σ : Hp} {c k : Nat} {v : Int64} (h : Nat.beq (kd c) 14 = true) : (wsA t ad σ).set c (ad c, .inl (t.2.1, ln c, .inr (.inl (vp_updL (σ.2 c) k v)))) = wsA t ad (sL σ c k v) :=
  ws_set (by rw [cel_l h, sL_eq]) (fun d hd => cel_eq rfl (sL_ne hd))
theorem ws_ac {t : T3} {ad : Nat → Nat} {σ : Hp} {c : Nat} {f : Nat → Int32} (h : Nat.beq (kd c) 13 = true) : (wsA t ad σ).set c (ad c, .inl (t.1, ln c, .inl f)) = wsA t ad (sC σ c f) :=
  ws_set (by rw [cel_i h, sC_eq]) (fun d hd => cel_eq (sC_ne hd) rfl)
theorem fs_get {ad : Nat → Nat} {σ : Hp} {c ci k : Nat} (hk : k < nf ci) : ((List.range (nf ci)).map (fv ad σ c ci))[k]? = some (fv ad σ c ci k) := by simp [hk]
/-! the locals -/
theorem lget_at {ls : Array Slot} {nL : Nat} {ad : Nat → Nat} {i : Nat} {v : Value} : ∀ {lv : Lv}, lv_has ls nL (lv.map (mvl ad)) → lget lv i = some v → ls[i]? = some (.val (mv ad v)) := by
  intro lv
  induction lv with
  | nil => intro _ h; cases h
  | cons q t ih =>
    intro hl h
    obtain ⟨j, w⟩ := q
    unfold lget at h
    cases hb : Nat.beq j i with
    | true =>
      rw [hb] at h
      have e := Nat.eq_of_beq_eq_true hb
      subst e
      cases h
      exact hl.2.2 (j, mv ad v) (by simp [mvl])
    | false =>
      rw [hb] at h
      exact ih ⟨hl.1, hl.2.1, fun q hq => hl.2.2 q (by simp only [List.map_cons]; exact List.mem_cons_of_mem _ hq)⟩ h
theorem lst1_in {i : Nat} {v : Value} : ∀ {lv : Lv} {q : Nat × Value}, q ∈ lst1 lv i v → q = (i, v) ∨ (q ∈ lv ∧ lgo i q = true) := by
  intro lv
  induction lv with
  | nil => intro q h; exact Or.inl (List.mem_singleton.mp h)
  | cons a t ih =>
    intro q h
    obtain ⟨j, w⟩ := a
    unfold lst1 at h
    cases hb : Nat.beq j i with
    | true =>
      rw [hb] at h
      rcases List.mem_cons.mp h with h | h
      · exact Or.inl h
      · obtain ⟨h1, h2⟩ := List.mem_filter.mp h
        exact Or.inr ⟨List.mem_cons_of_mem _ h1, h2⟩
    | false =>
      rw [hb] at h
      cases hg : lgo i (j, w) with
      | true =>
        rw [hg] at h
        rcases List.mem_cons.mp h with h | h
        · subst h
          exact Or.inr ⟨List.mem_cons_self, hg⟩
        · rcases ih h with h | ⟨h1, h2⟩
          · exact Or.inl h
          · exact Or.inr ⟨List.mem_cons_of_mem _ h1, h2⟩
      | false =>
        rw [hg] at h
        rcases ih h with h | ⟨h1, h2⟩
        · exact Or.inl h
        · exact Or.inr ⟨List.mem_cons_of_mem _ h1, h2⟩
theorem lst2_in {i : Nat} {v : Value} : ∀ {lv : Lv} {q : Nat × Value}, q ∈ lst2 lv i v → q = (i, v) ∨ (q ∈ lv ∧ lgo2 i q = true) := by
  intro lv
  induction lv with
  | nil => intro q h; exact Or.inl (List.mem_singleton.mp h)
  | cons a t ih =>
    intro q h
    obtain ⟨j, w⟩ := a
    unfold lst2 at h
    cases hb : Nat.beq j i with
    | true =>
      rw [hb] at h
      rcases List.mem_cons.mp h with h | h
      · exact Or.inl h
      · obtain ⟨h1, h2⟩ := List.mem_filter.mp h
        exact Or.inr ⟨List.mem_cons_of_mem _ h1, h2⟩
    | false =>
      rw [hb] at h
      cases hg : lgo2 i (j, w) with
      | true =>
        rw [hg] at h
        rcases List.mem_cons.mp h with h | h
        · subst h
          exact Or.inr ⟨List.mem_cons_self, hg⟩
        · rcases ih h with h | ⟨h1, h2⟩
          · exact Or.inl h
          · exact Or.inr ⟨List.mem_cons_of_mem _ h1, h2⟩
      | false =>
        rw [hg] at h
        rcases ih h with h | ⟨h1, h2⟩
        · exact Or.inl h
        · exact Or.inr ⟨List.mem_cons_of_mem _ h1, h2⟩
theorem beqN (a b : Nat) : (a == b) = Nat.beq a b := by
  cases h : Nat.beq a b with
  | true => simp [Nat.eq_of_beq_eq_true h]
  | false => simp [Nat.ne_of_beq_eq_false h]
theorem lgo_k {i : Nat} {ad : Nat → Nat} {q : Nat × Value} (h : lgo i q = true) : (!((mvl ad q).1 == i) && !((mvl ad q).1 + 1 == i && (mvl ad q).2.category == 2)) = true := by
  unfold lgo at h
  show (!(q.1 == i) && !(q.1 + 1 == i && (mv ad q.2).category == 2)) = true
  rw [mv_cat, beqN, beqN, beqN]
  exact h
theorem lgo2_k {i : Nat} {ad : Nat → Nat} {q : Nat × Value} (h : lgo2 i q = true) : (!((mvl ad q).1 == i) && (!((mvl ad q).1 == i + 1) && !((mvl ad q).1 + 1 == i && (mvl ad q).2.category == 2))) = true := by
  unfold lgo2 at h
  simp only [Bool.and_eq_true] at h
  have h1 := lgo_k (ad := ad) h.1
  simp only [Bool.and_eq_true] at h1 ⊢
  exact ⟨h1.1, by rw [beqN]; exact h.2, h1.2⟩
theorem lv_1 {ls : Array Slot} {nL i : Nat} {ad : Nat → Nat} {v : Value} {lv : Lv} (h : lv_has ls nL ((i, mv ad v) :: (lv.map (mvl ad)).filter (fun q => !(q.1 == i) && !(q.1 + 1 == i && q.2.category == 2)))) : lv_has ls nL ((lst1 lv i v).map (mvl ad)) := by
  refine ⟨h.1, h.2.1, fun q hq => h.2.2 q ?_⟩
  obtain ⟨a, ha, rfl⟩ := List.mem_map.mp hq
  rcases lst1_in ha with rfl | ⟨h1, h2⟩
  · exact List.mem_cons_self
  · exact List.mem_cons_of_mem _ (List.mem_filter.mpr ⟨List.mem_map_of_mem h1, lgo_k h2⟩)
theorem lv_2 {ls : Array Slot} {nL i : Nat} {ad : Nat → Nat} {v : Value} {lv : Lv} (h : lv_has ls nL ((i, mv ad v) :: (lv.map (mvl ad)).filter (fun q => !(q.1 == i) && (!(q.1 == i + 1) && !(q.1 + 1 == i && q.2.category == 2))))) : lv_has ls nL ((lst2 lv i v).map (mvl ad)) := by
  refine ⟨h.1, h.2.1, fun q hq => h.2.2 q ?_⟩
  obtain ⟨a, ha, rfl⟩ := List.mem_map.mp hq
  rcases lst2_in ha with rfl | ⟨h1, h2⟩
  · exact List.mem_cons_self
  · exact List.mem_cons_of_mem _ (List.mem_filter.mpr ⟨List.mem_map_of_mem h1, lgo2_k h2⟩)
theorem lget_ix {i : Nat} {v : Value} : ∀ {lv : Lv}, lget lv i = some v → ∃ k : Nat, lv[k]? = some (i, v) := by
  intro lv
  induction lv with
  | nil => intro h; cases h
  | cons q t ih =>
    intro h
    obtain ⟨j, w⟩ := q
    unfold lget at h
    cases hb : Nat.beq j i with
    | true =>
      rw [hb] at h
      have e := Nat.eq_of_beq_eq_true hb
      subst e
      cases h
      exact ⟨0, rfl⟩
    | false =>
      rw [hb] at h
      obtain ⟨k, hk⟩ := ih h
      exact ⟨k + 1, hk⟩
/-! the frame of a method, its contract, and what it is that a transformer tells the truth -/
abbrev MI : Type := Nat → MethodName × ByteArray × Nat × Option FieldType
def rmD (d : Nat) : Room := { frames := d, cells := 0, slots := 0, locals := 64 * d }
def rtok (rt : Option FieldType) (r : Option Value) : Prop := match rt with
  | none => r = none
  | some .int => ∃ v, r = some (.int v)
  | some .boolean => ∃ v, r = some (.int v)
  | some .long => ∃ v, r = some (.long v)
  | _ => False
def Pin (G : va_G) (t : T3) (ad : Nat → Nat) (σ : Hp) (a : List Value) : Array Value → State → Prop := va_Pc (a.map (mv ad)) (fun U => va_P G cls (wsA t ad σ) U.heap ∧ va_K G cls (tysA t) U ∧ Stat (AA ad) ad U U.heap)
def Qin (G : va_G) (t : T3) (ad : Nat → Nat) (rt : Option FieldType) (K : Po) : Array Value → State → Outcome → State → Prop := fun _ st oc u => (∃ (r : Option Value) (τ : Hp), oc = .returned (r.map (mv ad)) ∧ rtok rt r ∧ K r τ ∧ va_P G cls (wsA t ad τ) u.heap) ∧ va_F (AA ad) st u
def Con (mi : MI) (l : Launch) (G : va_G) (t : T3) (ad : Nat → Nat) (d y : Nat) (a : List Value) (σ : Hp) (K : Po) : Prop := Met l (mi y).1 (Cond.code (mi y).1 (mi y).2.1 (mi y).2.2.1 (mi y).2.2.2 :: lw_good) (rmD d) (Pin G t ad σ a) (Qin G t ad (mi y).2.2.2 K) 0 0 (AA ad)
def Ctx (p : Program) (R : Room) (s : State) (m : MethodId) (args : Array Value) (meth : Method) (c : Code) (cc : ByteArray) (own : String) (nL : Nat) (rt : Option FieldType) (G : va_G) (t : T3) (ad : Nat → Nat) (d : Nat) : Prop :=
  p.tables.exec = Jvm.exec ∧ c.code = cc ∧ c.maxLocals = nL ∧ meth.sig.returnType = rt ∧ meth.locks = false ∧ s.vm.findClass own = some m.cls ∧ (∀ w ∈ lw_good, w.before args s = true) ∧ va_K G cls (tysA t) s ∧ Inj ad ∧ Stat (AA ad) ad s s.heap ∧ d + 1 ≤ R.frames ∧ 64 * d + 64 ≤ R.locals
def Jd (p : Program) (l : Launch) (e : Env) (R : Room) (s : State) (m : MethodId) (args : Array Value) (below : List Frame) (meth : Method) (c : Code) (nL : Nat) (G : va_G) (t : T3) (ad : Nat → Nat) (Qc : Array Value → State → Outcome → State → Prop) (fr : Fr) (σ : Hp) : Prop :=
  ∀ (H : Heap) (locs : List Loc) (ls : Array Slot), va_P G cls (wsA t ad σ) H → va_S (AA ad) s.heap H locs → lv_has ls nL (fr.2.1.map (mvl ad)) → W p l e R s m args below meth c H locs 0 0 (MQ below Qc args s 0 0 (AA ad)) (F0 m fr.1 ls (fr.2.2.map (mv ad)))
def SndI (mi : MI) (cc : ByteArray) (own : String) (nL : Nat) (rt : Option FieldType) (i : Sm) (pc : Nat) : Prop :=
  Mono i ∧ ∀ (p : Program) (l : Launch) (e : Env) (R : Room) (s : State) (m : MethodId) (args : Array Value) (below : List Frame) (meth : Method) (c : Code) (G : va_G) (t : T3) (ad : Nat → Nat) (d : Nat) (Qc : Array Value → State → Outcome → State → Prop), Ctx p R s m args meth c cc own nL rt G t ad d →
    ∀ (call : Cl), (∀ y a σ K, call y a σ K → Con mi l G t ad d y a σ K) → ∀ (Q : Po), (∀ (r : Option Value) (τ : Hp) (u : State), rtok rt r → Q r τ → va_P G cls (wsA t ad τ) u.heap → va_F (AA ad) s u → Qc args s (.returned (r.map (mv ad))) u) →
    ∀ (X : Fr → Hp → Prop), (∀ fr τ, X fr τ → Jd p l e R s m args below meth c nL G t ad Qc fr τ) → ∀ (lv : Lv) (st : List Value) (σ : Hp), i X call Q lv st σ → Jd p l e R s m args below meth c nL G t ad Qc (pc, lv, st) σ
