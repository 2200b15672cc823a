/-! ===== the world behind the two constructors ===== -/
/-- the order in which the cells are made -/
def pm (x : Nat) : Nat := (cond (Nat.ble 45 x) (cond (Nat.ble 78 x) (cond (Nat.ble 80 x) x (x - 25)) (cond (Nat.ble 67 x) (x + 2) (x - 14))) (cond (Nat.ble 17 x) (cond (Nat.ble 31 x) (x + 24) (x - 14)) (cond (Nat.ble 3 x) (x + 14) x)))
def pmi (x : Nat) : Nat := (cond (Nat.ble 53 x) (cond (Nat.ble 69 x) (cond (Nat.ble 80 x) x (x - 2)) (cond (Nat.ble 55 x) (x - 24) (x + 25))) (cond (Nat.ble 17 x) (cond (Nat.ble 31 x) (x + 14) (x - 14)) (cond (Nat.ble 3 x) (x + 14) x)))
def es1 : List CE := (evC kc 300 1 0 0 [] [(11, 0, dfl 11, [])]).getD []
def es2 : List CE := (evC kc 300 13 0 98 [] (es1 ++ [(12, 0, dfl 12, [])])).getD []
theorem es1_some : (evC kc 300 1 0 0 [] [(11, 0, dfl 11, [])]).isSome = true := by decide +kernel
theorem es2_some : (evC kc 300 13 0 98 [] (es1 ++ [(12, 0, dfl 12, [])])).isSome = true := by decide +kernel
theorem es1_ev : evC kc 300 1 0 0 [] [(11, 0, dfl 11, [])] = some es1 := by
  have h := es1_some
  unfold es1
  cases e : evC kc 300 1 0 0 [] [(11, 0, dfl 11, [])] with
  | none => rw [e] at h; cases h
  | some v => rfl
theorem es2_ev : evC kc 300 13 0 98 [] (es1 ++ [(12, 0, dfl 12, [])]) = some es2 := by
  have h := es2_some
  unfold es2
  cases e : evC kc 300 13 0 98 [] (es1 ++ [(12, 0, dfl 12, [])]) with
  | none => rw [e] at h; cases h
  | some v => rfl
def fvX (c ci k : Nat) : Value := match ft ci k with
  | 0 => .int 0
  | 1 => .long 0
  | o + 2 => .ref (pm (c + o))
def ovX (c : Nat) : List (Nat × Value) := cond (Nat.beq c 82 || (Nat.beq c 119 || Nat.beq c 122)) [(3, .int (-1)), (2, .int (-1)), (1, .int (-1)), (0, .int (-1))] (cond (Nat.beq c 90) [(6, .ref 97), (5, .ref 96), (4, .ref 95), (3, .ref 94), (2, .ref 93), (1, .ref 92), (0, .ref 91)] [])
def ceX (c : Nat) : CE := cond (Nat.ble 13 (kd c)) (kd c, ln c, [], ovX c) (kd c, 0, (List.range (nf (kd c))).map (fvX c (kd c)), [])
def veq (a b : Value) : Bool := match a, b with
  | .int x, .int y => decide (x = y)
  | .long x, .long y => decide (x = y)
  | .ref x, .ref y => Nat.beq x y
  | .null, .null => true
  | _, _ => false
theorem veq_eq {a b : Value} (h : veq a b = true) : a = b := by
  unfold veq at h
  split at h
  · exact congrArg Value.int (of_decide_eq_true h)
  · exact congrArg Value.long (of_decide_eq_true h)
  · exact congrArg Value.ref (Nat.eq_of_beq_eq_true h)
  · rfl
  · cases h
def vleq : List Value → List Value → Bool
  | [], [] => true
  | a :: l, b :: m => veq a b && vleq l m
  | _, _ => false
theorem vleq_eq : ∀ {l m : List Value}, vleq l m = true → l = m
  | [], [], _ => rfl
  | a :: l, b :: m, h => by
    simp only [vleq, Bool.and_eq_true] at h
    rw [veq_eq h.1, vleq_eq h.2]
  | [], _ :: _, h => by cases h
  | _ :: _, [], h => by cases h
def oleq : List (Nat × Value) → List (Nat × Value) → Bool
  | [], [] => true
  | a :: l, b :: m => Nat.beq a.1 b.1 && (veq a.2 b.2 && oleq l m)
  | _, _ => false
theorem oleq_eq : ∀ {l m : List (Nat × Value)}, oleq l m = true → l = m
  | [], [], _ => rfl
  | (i, a) :: l, (j, b) :: m, h => by
    simp only [oleq, Bool.and_eq_true] at h
    rw [show i = j from Nat.eq_of_beq_eq_true h.1, veq_eq h.2.1, oleq_eq h.2.2]
  | [], _ :: _, h => by cases h
  | _ :: _, [], h => by cases h
def ceq (a : Option CE) (b : CE) : Bool := match a with
  | some a => Nat.beq a.1 b.1 && (Nat.beq a.2.1 b.2.1 && (vleq a.2.2.1 b.2.2.1 && oleq a.2.2.2 b.2.2.2))
  | none => false
theorem ceq_eq {a : Option CE} {b : CE} (h : ceq a b = true) : a = some b := by
  cases a with
  | none => cases h
  | some a =>
    obtain ⟨a1, a2, a3, a4⟩ := a
    obtain ⟨b1, b2, b3, b4⟩ := b
    simp only [ceq, Bool.and_eq_true] at h
    rw [show a1 = b1 from Nat.eq_of_beq_eq_true h.1, show a2 = b2 from Nat.eq_of_beq_eq_true h.2.1, vleq_eq h.2.2.1, oleq_eq h.2.2.2]
theorem es2_all : (List.range 128).all (fun c => ceq es2[pm c]? (ceX c)) = true := by decide +kernel
theorem es2_at (c : Nat) (h : c < 128) : es2[pm c]? = some (ceX c) := ceq_eq (List.all_eq_true.mp es2_all c (List.mem_range.mpr h))
theorem es_len : es1.length = 98 ∧ es2.length = 128 ∧ tot es1 = 6446 ∧ tot es2 = 13160 := by decide +kernel
theorem pm_inv : ∀ c, c < 128 → pmi (pm c) = c := by decide +kernel
theorem kd_le : ∀ c, c < 128 → kd c ≤ 15 := by decide +kernel
theorem ov_nil : ∀ c, c < 128 → Nat.ble 13 (kd c) = false → ovX c = [] := by decide +kernel
theorem ft_in : ∀ c, c < 128 → Nat.ble 13 (kd c) = false → ∀ k, k < nf (kd c) → c + (ft (kd c) k - 2) < 128 := by decide +kernel
theorem kd15 : ∀ c, c < 128 → kd c = 15 → c = 90 := by decide +kernel
def σ0 : Hp := (fun c => ovI (ovX c), fun _ _ => 0)
def adX (B tK tA : Nat) : Nat → Nat := fun c => cond (Nat.ble 128 c) (cond (Nat.beq c 128) tK tA) (B + pm c)
theorem adX_lt {B tK tA c : Nat} (h : c < 128) : adX B tK tA c = B + pm c := by
  unfold adX
  rw [show Nat.ble 128 c = false from Bool.eq_false_iff.mpr (fun q => by have := Nat.le_of_ble_eq_true q; omega)]
  rfl
theorem adX_inj (B tK tA : Nat) : Inj (adX B tK tA) := by
  intro i j hi hj h
  rw [adX_lt hi, adX_lt hj] at h
  have : pm i = pm j := by omega
  rw [← pm_inv i hi, ← pm_inv j hj, this]
theorem conc_cel {B tK tA c : Nat} {t : T3} (h : c < 128) (h15 : kd c ≠ 15) : conc B t (ceX c) = cel t (adX B tK tA) σ0 c := by
  have hle := kd_le c h
  by_cases h13 : kd c = 13
  · unfold conc cel ceX
    rw [h13]
    rfl
  · by_cases h14 : kd c = 14
    · unfold conc cel ceX
      rw [h14]
      rfl
    · have hlt : kd c < 13 := by omega
      have hb : Nat.ble 13 (kd c) = false := Bool.eq_false_iff.mpr (fun q => by have := Nat.le_of_ble_eq_true q; omega)
      rw [cel_o (Nat.beq_refl _) hb]
      unfold ceX
      rw [hb]
      show conc B t (kd c, 0, (List.range (nf (kd c))).map (fvX c (kd c)), []) = _
      rw [conc_o hb, List.map_map]
      refine congrArg (fun l => (Sum.inr (kd c, l) : va_E)) (List.map_congr_left (fun k hk => ?_))
      have hk' := List.mem_range.mp hk
      have hin := ft_in c h hb k hk'
      show mv (ad0 B) (fvX c (kd c) k) = fv (adX B tK tA) σ0 c (kd c) k
      unfold fvX fv
      cases hf : ft (kd c) k with
      | zero =>
        show Value.int 0 = Value.int (ovI (ovX c) k)
        rw [ov_nil c h hb]
        rfl
      | succ n =>
        cases n with
        | zero => rfl
        | succ o =>
          show Value.ref (B + pm (c + o)) = Value.ref (adX B tK tA (c + o))
          rw [hf] at hin
          rw [adX_lt (by omega)]
theorem init_P {G : va_G} {t : T3} {B tK tA : Nat} {H : Heap} (hP : va_P G cls (wl B t es2) H) : va_P G cls (wsA t (adX B tK tA) σ0) H := by
  intro k q hq
  by_cases hk : k < 128
  · rw [ws_get hk] at hq
    cases hq
    have h1 := hP (pm k) _ (wl_get (es2_at k hk))
    rw [adX_lt hk]
    by_cases h15 : kd k = 15
    · have e := kd15 k hk h15
      subst e
      show H[B + 90]? = some (vp_cell _ _)
      have h2 : H[B + 90]? = some (vp_cell t.2.2 (7, .inr (.inr (.inr (.inr (ovR B (ovX 90))))))) := h1
      rw [h2]
      show some (arrV t.2.2 7 (fun j => va_rf (ovR B (ovX 90) j))) = some (arrV t.2.2 7 (fun j => va_rf (some (adX B tK tA (91 + j)))))
      unfold arrV
      congr 3
      funext j
      match j with
      | ⟨0, _⟩ => rfl
      | ⟨1, _⟩ => rfl
      | ⟨2, _⟩ => rfl
      | ⟨3, _⟩ => rfl
      | ⟨4, _⟩ => rfl
      | ⟨5, _⟩ => rfl
      | ⟨6, _⟩ => rfl
    · rw [← conc_cel hk h15]
      exact h1
  · simp [wsA, hk] at hq
theorem evC_met {mi : MI} {code : Nat → Nat → Ki} (hS : ∀ y, (plainName (mi y).1.cls = true ∧ (mi y).2.2.1 = 1 ∧ (mi y).2.2.2 = none ∧ (mi y).1.name = "<init>") ∧ ∀ pc, SndC mi (mi y).2.1 (mi y).1.cls (code y pc) pc) (l : Launch) (G : va_G) (t : T3) (B n y r : Nat) (es es' : List CE) (hev : evC code n y 0 r [] es = some es') : ConC mi l G t B n y r es es' := by
  refine Met.ofW (cc := (mi y).2.1) (maxL := (mi y).2.2.1) (ret := (mi y).2.2.2) (hS y).1.1 rfl ?_
  intro p e s m args below meth c s₁ Bd hml hv
  obtain ⟨rfl, hP, hsz, hK, hN⟩ := hv
  have hts := atoms_spec (ws := Cond.code (mi y).1 (mi y).2.1 (mi y).2.2.1 (mi y).2.2.2 :: lw_good) Bd.pre
  have hl := lv_entry ([.ref (B + r)]) (n := (mi y).2.2.1) (by rw [(hS y).1.2.1]; exact Nat.le_refl _)
  rw [lg_entry_eq]
  have hin : meth.name = "<init>" := ((name_of_methodNamed Bd.named Bd.method).1).trans (hS y).1.2.2.2
  have key := (evC_sound hS l G t B n y 0 r [] es es' hev p e (rmC n (es'.length - es.length) (tot es' - tot es)) s m _ below meth c es.length (tot es) (QinC G t B es') ⟨Bd.exec, Bd.bytes, Bd.notSynchronized, findClass_of_methodNamed Bd.named, fun w hw => hts w (List.mem_cons_of_mem _ hw), hK, hN, hsz, hml.trans (hS y).1.2.1, hin⟩ (Bd.returns.trans (hS y).1.2.2.1) (Nat.le_refl _) (Nat.le_refl _) (Nat.le_refl _) (Nat.le_refl _) (fun u hu hF => ⟨⟨rfl, hu⟩, hF⟩)) s.heap [] _ hP va_S.rf (by rw [(hS y).1.2.1] at hl; exact hl) (Nat.le_refl _) (Nat.le_refl _)
  rw [Nat.sub_self, Nat.sub_self] at key
  rw [(hS y).1.2.1]
  exact key
