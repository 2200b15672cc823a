/-! ===== rings of the model ===== -/
def RM (n : Nat) (M : Nat → Nat) (σ : Hp) : Prop := σ.1 98 0 = nI n ∧ ∀ i, i < n → σ.1 113 i = nI (M i)
def FH (σ τ : Hp) : Prop := τ.2 = σ.2 ∧ (∀ c, c ≠ 98 → c ≠ 114 → τ.1 c = σ.1 c) ∧ ∀ x, x ≠ 34 → τ.1 98 x = σ.1 98 x
theorem FH.rf {σ : Hp} : FH σ σ := ⟨rfl, fun _ _ _ => rfl, fun _ _ => rfl⟩
theorem FH.tr {σ τ u : Hp} (h1 : FH σ τ) (h2 : FH τ u) : FH σ u := ⟨h2.1.trans h1.1, fun c a b => (h2.2.1 c a b).trans (h1.2.1 c a b), fun x a => (h2.2.2 x a).trans (h1.2.2 x a)⟩
theorem RM.fr {n : Nat} {M : Nat → Nat} {σ τ : Hp} (h : RM n M σ) (f : FH σ τ) : RM n M τ := ⟨(f.2.2 0 (by decide)).trans h.1, fun i hi => by rw [f.2.1 113 (by decide) (by decide)]; exact h.2 i hi⟩
/-- the k-th from below of a stack -/
theorem PSt.mem {row : Nat → Int32} : ∀ {l : List Nat}, PSt row l → ∀ (n i : Nat), (∀ y ∈ l, y < n) → n ≤ 16 → i < 16 → (l.contains i = true ↔ ∃ j, j < l.length ∧ row j = nI i)
  | [], _, _, _, _, _, _ => ⟨fun h => absurd h (by simp), fun h => h.elim (fun j hj => absurd hj.1 (by show ¬ j < 0; omega))⟩
  | x :: l, h, n, i, hall, h16, hi => by
    have ih := PSt.mem h.2 n i (fun y hy => hall y (List.mem_cons_of_mem x hy)) h16 hi
    rw [List.contains_cons, Bool.or_eq_true, ih]
    have hx := hall x (by simp)
    constructor
    · intro h'
      rcases h' with h' | ⟨j, hj, ej⟩
      · exact ⟨l.length, by show l.length < l.length + 1; omega, by rw [h.1, eq_of_beq h']⟩
      · exact ⟨j, by show j < l.length + 1; omega, ej⟩
    · intro ⟨j, hj, ej⟩
      have hj' : j < l.length + 1 := hj
      by_cases e : j = l.length
      · left
        rw [e, h.1] at ej
        rw [(nI_eq (by omega) (by omega)).mp ej]
        exact beq_self_eq_true i
      · exact Or.inr ⟨j, by omega, ej⟩
theorem p_mayStand {d : Nat} {K : Po} {σ : Hp} {n k : Nat} {M : Nat → Nat} {l : List Nat} (h16 : n ≤ 16) (hM : ∀ i, i < n → M i < 2 ^ 16) (rm : RM n M σ) (hall : ∀ y ∈ l, y < n) (hl : l.length ≤ 6) (ps : PSt (σ.1 114) l) (hp : σ.1 98 34 = nI l.length) (hk : k < n) (q : K (some (.int (if l.length < 6 ∧ may M l k = true then 1 else 0))) σ) : CTs (d + 1) y_M_mayStand [.ref 98, .int (nI k)] σ K := by
  refine e_M_mayStand (t_M_mayStand_0 ?_)
  rw [hp]
  match l, hall, hl, ps, hp, q with
  | [], _, _, _, _, q => exact ifp rfl ⟨vb1, q⟩
  | x :: l, hall, hl, ps, hp, q =>
    have hl' : l.length + 1 ≤ 6 := hl
    have hx : x < n := hall x (by simp)
    have hf : fst1 (x :: l) < n := hall _ (fst1_mem (by simp))
    have hMx := hM x hx
    refine ifn (nI_ne0 (by show 0 < l.length + 1; omega) (by show l.length + 1 < _; omega)) ?_
    by_cases e6 : (x :: l).length = 6
    · rw [if_neg (fun z => absurd z.1 (by omega))] at q
      exact ifp (by rw [e6]; rfl) ⟨vb0, q⟩
    · have h6 : (x :: l).length < 6 := by
        have : (x :: l).length = l.length + 1 := rfl
        omega
      refine ifn (fun z => e6 ((nI_eq (b := 6) (by omega) (by omega)).mp z)) ⟨vp_in_nI (n := 0) (by omega) (by omega), ?_⟩
      have e0 : σ.1 114 0 = nI (fst1 (x :: l)) := ps.f (by simp)
      have z0 : (0 : Int32).toNatClampNeg = 0 := by decide
      have el : nI (x :: l).length - 1 = nI l.length := nI_pred l.length
      rw [z0, e0, el, nI_clamp (n := l.length) (by omega), ps.1, nI_clamp (n := x) (by omega), rm.2 x hx]
      have hmay : may M (x :: l) k = (decide (fst1 (x :: l) < k) && ((M x).testBit k && !((x :: l).contains k))) := rfl
      rw [hmay] at q
      by_cases hlt : fst1 (x :: l) < k
      · rw [decide_eq_true hlt, Bool.true_and] at q
        refine ifn (nI_ge hlt (by omega)) ⟨vp_in_nI (by omega) (by omega), vp_in_nI (by omega) (by omega), ?_⟩
        by_cases hb : (M x).testBit k = true
        · rw [hb, Bool.true_and] at q
          refine ifn (by rw [bit1 (by omega) (by omega) hb]; decide) ?_
          have mem := ps.mem n k hall h16 (by omega)
          have loop : ∀ c j, j + c = (x :: l).length → (∀ i, i < j → ¬ σ.1 114 i = nI k) → WP c_M_mayStand (CTs d) K (55, [(0, .ref 98), (1, .int (nI k)), (2, .int (nI j))], []) σ := by
            intro c
            induction c with
            | zero =>
              intro j hj hn
              refine t_M_mayStand_55 ?_
              rw [hp]
              refine ifp (nI_le (by omega) (by omega)) ⟨vb1, ?_⟩
              have hc : (x :: l).contains k = false := by
                rw [Bool.eq_false_iff]
                intro z
                obtain ⟨i, hi, ei⟩ := mem.mp z
                exact hn i (by omega) ei
              rw [hc, if_pos ⟨h6, rfl⟩] at q
              exact q
            | succ c ih =>
              intro j hj hn
              refine t_M_mayStand_55 ?_
              rw [hp, nI_clamp (n := j) (by omega), nI_1]
              refine ifn (nI_ge (by omega) (by omega)) ⟨vp_in_nI (by omega) (by omega), ite2 (fun e => ⟨vb0, ?_⟩) (fun e => ih (j + 1) (by omega) (fun i hi => ?_))⟩
              · have hc : (x :: l).contains k = true := mem.mpr ⟨j, by omega, e⟩
                rw [hc, if_neg (fun z => absurd z.2 (by decide))] at q
                exact q
              · by_cases ei : i = j
                · rw [ei]; exact e
                · exact hn i (by omega)
          exact loop (x :: l).length 0 (by omega) (fun i hi => absurd hi (by omega))
        · rw [Bool.eq_false_iff.mpr hb, Bool.false_and, if_neg (fun z => absurd z.2 (by decide))] at q
          exact ifp (bit0 (by omega) (by omega) hb) ⟨vb0, q⟩
      · rw [decide_eq_false hlt, Bool.false_and, if_neg (fun z => absurd z.2 (by decide))] at q
        exact ifp (nI_le (by omega) (by omega)) ⟨vb0, q⟩
/-- what is left to see below a path: the rings of those that come next, from k on -/
def kidL (n : Nat) (M : Nat → Nat) : Nat → List Nat → Nat → Nat → List (List Nat)
  | 0, _, _, _ => []
  | f + 1, l, c, k => scn (fun j => rgs n M f (j :: l)) (may M l) c k
theorem rgs_kid {n : Nat} {M : Nat → Nat} : ∀ (f : Nat) (l : List Nat), rgs n M f l = own M l ++ kidL n M f l n 0
  | 0, l => (List.append_nil _).symm
  | _ + 1, _ => rfl
set_option maxHeartbeats 2000000 in
theorem p_mscan {n : Nat} {M : Nat → Nat} {w : Int32} {d : Nat} {K : Po} (h16 : n ≤ 16) (hM : ∀ i, i < n → M i < 2 ^ 16) : ∀ (f : Nat) (l : List Nat), l.length + f = 6 → (∀ y ∈ l, y < n) → ∀ (c k s : Nat) (σ : Hp), k + c = n → RM n M σ → PSt (σ.1 114) l → σ.1 98 34 = nI l.length →
    (∀ s' r τ, skL w s (kidL n M f l c k) = (s', some r) → r.length ≤ 6 → r ≠ [] → FH σ τ → τ.1 98 34 = nI r.length → PSt (τ.1 114) r → K (some (.int w)) τ) →
    (∀ s' τ, skL w s (kidL n M f l c k) = (s', none) → FH σ τ → τ.1 98 34 = nI l.length → PSt (τ.1 114) l → WP c_M_findRing (CTs (d + 1)) K (36, [(0, .ref 98), (1, .int w), (2, .int (nI s')), (3, .int (nI n))], []) τ) →
    WP c_M_findRing (CTs (d + 1)) K (36, [(0, .ref 98), (1, .int w), (2, .int (nI s)), (3, .int (nI k))], []) σ := by
  intro f
  induction f with
  | zero =>
    intro l hlen hall c
    induction c with
    | zero =>
      intro k s σ hk rm ps hp q1 q0
      have ek : k = n := by omega
      rw [ek]
      exact q0 s σ rfl FH.rf hp ps
    | succ c ih =>
      intro k s σ hk rm ps hp q1 q0
      refine t_M_findRing_36 ?_
      rw [rm.1, nI_1 k]
      refine ifn (nI_ge (by omega) (by omega)) (p_mayStand h16 hM rm hall (by omega) ps hp (by omega) ?_)
      rw [show (if l.length < 6 ∧ may M l k = true then (1 : Int32) else 0) = 0 from if_neg (fun z => absurd z.1 (by omega))]
      exact ifp rfl (ih (k + 1) s σ (by omega) rm ps hp q1 q0)
  | succ f ihf =>
    intro l hlen hall c
    induction c with
    | zero =>
      intro k s σ hk rm ps hp q1 q0
      have ek : k = n := by omega
      rw [ek]
      exact q0 s σ rfl FH.rf hp ps
    | succ c ih =>
      intro k s σ hk rm ps hp q1 q0
      have hkid : kidL n M (f + 1) l (c + 1) k = (if may M l k = true then rgs n M f (k :: l) else []) ++ kidL n M (f + 1) l c (k + 1) := rfl
      rw [hkid] at q1 q0
      refine t_M_findRing_36 ?_
      rw [rm.1, nI_1 k]
      refine ifn (nI_ge (by omega) (by omega)) (p_mayStand h16 hM rm hall (by omega) ps hp (by omega) ?_)
      by_cases hm : may M l k = true
      · rw [show (if l.length < 6 ∧ may M l k = true then (1 : Int32) else 0) = 1 from if_pos ⟨by omega, hm⟩]
        rw [if_pos hm, rgs_kid, List.append_assoc] at q1 q0
        refine ifn (by decide) ?_
        rw [rm.1]
        have hMk := hM k (by omega)
        refine ifn (fun z => absurd ((nI_eq (by omega) (by omega)).mp z) (by omega)) ?_
        rw [hp, nI_clamp (n := l.length) (by omega), nI_clamp (n := k) (by omega), nI_1 l.length, rm.2 k (by omega)]
        have z0 : (0 : Int32).toNatClampNeg = 0 := by decide
        have epk : PSt (upd (σ.1 114) l.length (nI k)) (k :: l) := ⟨pk_us, ps.up (Nat.le_refl _)⟩
        have e0 : (sI σ 114 l.length (nI k)).1 114 (0 : Int32).toNatClampNeg = nI (fst1 (k :: l)) := by rw [z0, sI_r, if_pos rfl]; exact epk.f (by simp)
        have hall' : ∀ y ∈ k :: l, y < n := fun y hy => by
          rcases List.mem_cons.mp hy with h | h
          · rw [h]; omega
          · exact hall y h
        have hf : fst1 (k :: l) < n := hall' _ (fst1_mem (by simp))
        rw [e0]
        generalize hS : sI (sI σ 114 l.length (nI k)) 98 34 (nI (l.length + 1)) = S
        have fS : FH σ S := by rw [← hS]; exact ⟨rfl, fun c h1 h2 => by rw [sI_r, if_neg h1, sI_r, if_neg h2], fun x h1 => by rw [sI_r, if_pos rfl, upd_r, if_neg h1, sI_r, if_neg (by decide)]⟩
        have SP : PSt (S.1 114) (k :: l) := by rw [← hS, sI_r, if_neg (by decide), sI_r, if_pos rfl]; exact epk
        have S34 : S.1 98 34 = nI (k :: l).length := by rw [← hS, sI_r, if_pos rfl, pk_us]; rfl
        -- from a new path on, the count being s1
        have deep : ∀ s1 : Nat, skL w s (own M (k :: l) ++ (kidL n M f (k :: l) n 0 ++ kidL n M (f + 1) l c (k + 1))) = skL w s1 (kidL n M f (k :: l) n 0 ++ kidL n M (f + 1) l c (k + 1)) → WP c_M_findRing (CTs (d + 1)) K (36, [(0, .ref 98), (1, .int w), (2, .int (nI s1)), (3, .int 0)], []) S := by
          intro s1 es
          refine ihf (k :: l) (by show l.length + 1 + f = 6; omega) hall' n 0 s1 S (by omega) (rm.fr fS) SP S34 (fun s' r τ ev hr hne ft h34 pt => q1 s' r τ (by rw [es, skL_s ev]) hr hne (fS.tr ft) h34 pt) (fun s' τ ev ft h34 pt => ?_)
          refine t_M_findRing_36 ?_
          have el1 : nI (k :: l).length - 1 = nI l.length := nI_pred l.length
          rw [((rm.fr fS).fr ft).1, h34, el1, nI_clamp (n := l.length) (by omega), pt.1, nI_1 k]
          refine ifp (Int32.le_refl _) (ifp rfl (ifn (nI_ne0 (by show 0 < l.length + 1; omega) (by show l.length + 1 < _; omega)) ⟨vp_in_nI (by omega) (by omega), ?_⟩))
          generalize hT : sI τ 98 34 (nI l.length) = T
          have fT : FH τ T := by rw [← hT]; exact ⟨rfl, fun c h1 h2 => by rw [sI_r, if_neg h1], fun x h1 => by rw [sI_r, if_pos rfl, upd_r, if_neg h1]⟩
          have T114 : T.1 114 = τ.1 114 := by rw [← hT, sI_r, if_neg (by decide)]
          have fa := (fS.tr ft).tr fT
          refine ih (k + 1) s' T (by omega) (rm.fr fa) (by rw [T114]; exact pt.2) (by rw [← hT, sI_r, if_pos rfl, pk_us]) (fun s2 r u ev2 hr hne fu h34u pu => q1 s2 r u (by rw [es, skL_n ev, ev2]) hr hne (fa.tr fu) h34u pu) (fun s2 u ev2 fu h34u pu => q0 s2 u (by rw [es, skL_n ev, ev2]) (fa.tr fu) h34u pu)
        refine ⟨vp_in_nI (by omega) (by omega), vp_in_nI (by omega) (by omega), vp_in_nI (n := 0) (by omega) (by omega), ?_⟩
        have hown : own M (k :: l) = if (M k).testBit (fst1 (k :: l)) = true then [k :: l] else [] := rfl
        by_cases hb : (M k).testBit (fst1 (k :: l)) = true
        · rw [if_pos hb] at hown
          refine ifp (bit1 (by omega) (by omega) hb) (ite2 (fun e => ?_) (fun e => ?_))
          · rw [e]
            refine q1 (s + 1) (k :: l) S ?_ (by show l.length + 1 ≤ 6; omega) (by simp) fS S34 SP
            rw [hown]
            show (if nI s = w then (s + 1, some (k :: l)) else _) = _
            rw [if_pos e]
          · rw [nI_1 s]
            refine deep (s + 1) ?_
            rw [hown]
            show (if nI s = w then (s + 1, some (k :: l)) else _) = _
            rw [if_neg e]; rfl
        · rw [if_neg hb] at hown
          refine ifn (by rw [bit0 (by omega) (by omega) hb]; decide) (deep s ?_)
          rw [hown]; rfl
      · rw [show (if l.length < 6 ∧ may M l k = true then (1 : Int32) else 0) = 0 from if_neg (fun z => hm z.2)]
        rw [if_neg hm, List.nil_append] at q1 q0
        exact ifp rfl (ih (k + 1) s σ (by omega) rm ps hp q1 q0)
/-- what a search of the model leaves -/
def FI (σ τ : Hp) : Prop := τ.2 = σ.2 ∧ (∀ c, c ≠ 98 → c ≠ 113 → c ≠ 114 → τ.1 c = σ.1 c) ∧ ∀ x, x ≠ 34 → τ.1 98 x = σ.1 98 x
set_option maxHeartbeats 1000000 in
theorem p_findRing {d : Nat} {K : Po} {σ : Hp} {n : Nat} {M : Nat → Nat} {w : Int32} (hn : σ.1 98 0 = nI n) (tw : TW n (σ.1 99) (σ.1 100)) (hMk : ∀ b, b < n → Mk n (mvd n (σ.1 99) (σ.1 100) b) (M b)) (q1 : ∀ s' r τ, skL w 0 (allR n M) = (s', some r) → r.length ≤ 6 → r ≠ [] → FI σ τ → τ.1 98 34 = nI r.length → PSt (τ.1 114) r → K (some (.int w)) τ) (q0 : ∀ s' τ, skL w 0 (allR n M) = (s', none) → FI σ τ → τ.1 98 34 = 0 → K (some (.int (nI s'))) τ) : CTs (d + 3) y_M_findRing [.ref 98, .int w] σ K := by
  have h16 := tw.1
  have p16 := pw16 h16
  have hM : ∀ i, i < n → M i < 2 ^ 16 := fun i hi => Nat.lt_of_lt_of_le (hMk i hi).2 p16
  refine e_M_findRing (t_M_findRing_0 ?_)
  have loop : ∀ (c k : Nat) (τ : Hp), k + c = n → τ.2 = σ.2 → (∀ c, c ≠ 113 → τ.1 c = σ.1 c) → (∀ i, i < k → τ.1 113 i = nI (M i)) → WP c_M_findRing (CTs (d + 2)) K (2, [(0, .ref 98), (1, .int w), (2, .int (nI k))], []) τ := by
    intro c
    induction c with
    | zero =>
      intro k τ hk t2 t1 tm
      have ek : k = n := by omega
      rw [ek] at tm ⊢
      refine t_M_findRing_2 ?_
      rw [t1 98 (by decide), hn]
      refine ifp (Int32.le_refl _) ?_
      generalize hS : sI τ 98 34 (0 : Int32) = S
      have S1 : ∀ c, c ≠ 98 → S.1 c = τ.1 c := fun c hc => by rw [← hS, sI_r, if_neg hc]
      have S98 : ∀ x, x ≠ 34 → S.1 98 x = σ.1 98 x := fun x hx => by rw [← hS, sI_r, if_pos rfl, upd_r, if_neg hx, t1 98 (by decide)]
      have S34 : S.1 98 34 = 0 := by rw [← hS, sI_r, if_pos rfl, pk_us]
      have S2 : S.2 = σ.2 := by rw [← hS]; exact t2
      have fi : ∀ u, FH S u → FI σ u := fun u fu => ⟨fu.1.trans S2, fun c h1 h2 h3 => by rw [fu.2.1 c h1 h3, S1 c h1]; exact t1 c h2, fun x hx => (fu.2.2 x hx).trans (S98 x hx)⟩
      have rm : RM n M S := ⟨by rw [S98 0 (by decide)]; exact hn, fun i hi => by rw [S1 113 (by decide)]; exact tm i hi⟩
      refine p_mscan (d := d + 1) (w := w) h16 hM 6 [] rfl (fun y hy => by cases hy) n 0 0 S (by omega) rm trivial S34 (fun s' r u ev hr hne fu h34 pu => q1 s' r u ev hr hne (fi u fu) h34 pu) (fun s' u ev fu h34 pu => ?_)
      refine t_M_findRing_36 ?_
      have h34' : u.1 98 34 = 0 := h34
      rw [(rm.fr fu).1, h34']
      exact ifp (Int32.le_refl _) (ifp rfl (ifp rfl (q0 s' u ev (fi u fu) h34')))
    | succ c ih =>
      intro k τ hk t2 t1 tm
      have hk' : k < n := by omega
      refine t_M_findRing_2 ?_
      rw [t1 98 (by decide), hn, nI_1 k, nI_clamp (n := k) (by omega)]
      refine ifn (nI_ge (by omega) (by omega)) (p_movedBy (n := n) (by rw [t1 98 (by decide)]; exact hn) (by rw [t1 99 (by decide), t1 100 (by decide)]; exact tw) hk' ⟨vp_in_nI (by omega) (by omega), ih (k + 1) _ (by omega) t2 (fun c hc => by rw [sI_r, if_neg hc]; exact t1 c hc) (fun i hi => ?_)⟩)
      rw [sI_r, if_pos rfl, upd_r]
      by_cases e : i = k
      · rw [if_pos e, e, t1 99 (by decide), t1 100 (by decide)]; exact (hMk k hk').1
      · rw [if_neg e]; exact tm i (by omega)
  exact loop n 0 σ (by omega) rfl (fun _ _ => rfl) (fun i hi => absurd hi (by omega))
/-! how many rings there can be -/
theorem scn_len {g : Nat → List (List Nat)} {my : Nat → Bool} {B : Nat} (h : ∀ k, (g k).length ≤ B) : ∀ c k, (scn g my c k).length ≤ c * B := by
  intro c
  induction c with
  | zero => intro k; exact Nat.zero_le _
  | succ c ih =>
    intro k
    show ((if my k = true then g k else []) ++ scn g my c (k + 1)).length ≤ (c + 1) * B
    rw [List.length_append, Nat.succ_mul]
    have a := ih (k + 1)
    have b : (if my k = true then g k else []).length ≤ B := by
      by_cases e : my k = true
      · rw [if_pos e]; exact h k
      · rw [if_neg e]; exact Nat.zero_le _
    omega
theorem rgs_len {n : Nat} {M : Nat → Nat} (h16 : n ≤ 16) : ∀ f l, (rgs n M f l).length ≤ 17 ^ f := by
  intro f
  have hown : ∀ l, (own M l).length ≤ 1 := fun l => by
    unfold own
    by_cases h : (M (l.headD 0)).testBit (fst1 l) = true
    · rw [if_pos h]; exact Nat.le_refl _
    · rw [if_neg h]; exact Nat.zero_le _
  induction f with
  | zero => intro l; exact hown l
  | succ f ih =>
    intro l
    show (own M l ++ scn (fun k => rgs n M f (k :: l)) (may M l) n 0).length ≤ 17 ^ (f + 1)
    rw [List.length_append, Nat.pow_succ]
    have a := hown l
    have b := scn_len (g := fun k => rgs n M f (k :: l)) (my := may M l) (B := 17 ^ f) (fun k => ih (k :: l)) n 0
    have c : n * 17 ^ f ≤ 16 * 17 ^ f := Nat.mul_le_mul_right _ h16
    have e : 0 < 17 ^ f := Nat.pow_pos (by omega)
    omega
theorem allR_len {n : Nat} {M : Nat → Nat} (h16 : n ≤ 16) : (allR n M).length < 2 ^ 31 := by
  have b := scn_len (g := fun k => rgs n M 5 [k]) (my := may M []) (B := 17 ^ 5) (fun k => rgs_len h16 5 [k]) n 0
  have c : n * 17 ^ 5 ≤ 16 * 17 ^ 5 := Nat.mul_le_mul_right _ h16
  have e : (16 : Nat) * 17 ^ 5 < 2 ^ 31 := by decide
  exact Nat.lt_of_le_of_lt (Nat.le_trans b c) e
theorem skL_res {w : Int32} : ∀ (L : List (List Nat)) (s s' : Nat), s + L.length < 2 ^ 31 → (∀ r, skL w s L = (s', some r) → ∃ j, s ≤ j ∧ j < s + L.length ∧ w = nI j ∧ s' = j + 1) ∧ (skL w s L = (s', none) → s' = s + L.length ∧ ∀ j, s ≤ j → j < s + L.length → ¬ w = nI j) := by
  intro L
  induction L with
  | nil =>
    intro s s' hs
    refine ⟨fun r h => ?_, fun h => ?_⟩
    · injection h with h1 h2
      cases h2
    · injection h with h1 _
      exact ⟨h1.symm, fun j h1 h2 => absurd h2 (by show ¬ j < s + 0; omega)⟩
  | cons x L ih =>
    intro s s' hs
    have hs' : s + (L.length + 1) < 2 ^ 31 := hs
    have e : skL w s (x :: L) = if nI s = w then (s + 1, some x) else skL w (s + 1) L := rfl
    rw [e]
    have hlen : (x :: L).length = L.length + 1 := rfl
    by_cases h : nI s = w
    · rw [if_pos h]
      refine ⟨fun r hr => ?_, fun hr => ?_⟩
      · injection hr with h1 _
        exact ⟨s, Nat.le_refl _, by omega, h.symm, h1.symm⟩
      · injection hr with _ h2
        cases h2
    · rw [if_neg h]
      obtain ⟨i1, i2⟩ := ih (s + 1) s' (by omega)
      refine ⟨fun r hr => ?_, fun hr => ?_⟩
      · obtain ⟨j, h1, h2, h3, h4⟩ := i1 r hr
        exact ⟨j, by omega, by omega, h3, h4⟩
      · obtain ⟨h1, h2⟩ := i2 hr
        refine ⟨by omega, fun j hj1 hj2 => ?_⟩
        by_cases e : j = s
        · rw [e]; exact fun z => h z.symm
        · exact h2 j (by omega) (by omega)
theorem Rel.rg {σ τ u : Hp} (h : Rel σ) (f1 : FG σ τ) (f2 : FI τ u) : Rel u := by
  have u2 : u.2 = σ.2 := f2.1.trans f1.1
  have A : ∀ c, c ≠ 3 ∧ c ≠ 16 ∧ c ≠ 98 ∧ c ≠ 113 ∧ c ≠ 114 → u.1 c = σ.1 c := fun c h => (f2.2.1 c h.2.2.1 h.2.2.2.1 h.2.2.2.2).trans (f1.2.1 c h.1 h.2.1)
  have B : ∀ x, x ≠ 34 → u.1 98 x = σ.1 98 x := fun x hx => by rw [f2.2.2 x hx, f1.2.1 98 (by decide) (by decide)]
  have C : ∀ x, x ≠ 15 → x ≠ 16 → u.1 3 x = σ.1 3 x := fun x h1 h2 => by rw [f2.2.1 3 (by decide) (by decide) (by decide)]; exact f1.2.2 x h1 h2
  refine h.same (SameG.of (fun c hc => A c ((by decide : ∀ c ∈ ([99, 100, 105, 106, 107, 108, 4, 5, 6, 7, 8, 9, 10, 11, 12, 13, 14, 15, 46, 47, 48, 49, 50, 51, 52, 53, 78] : List Nat), c ≠ 3 ∧ c ≠ 16 ∧ c ≠ 98 ∧ c ≠ 113 ∧ c ≠ 114) c hc)) (fun q hq => ?_) u2) (SameG.of (fun c hc => A c ((by decide : ∀ c ∈ ([2, 101, 81, 118, 82, 83, 84, 119, 120, 85, 86, 87, 122, 123, 124, 89, 125] : List Nat), c ≠ 3 ∧ c ≠ 16 ∧ c ≠ 98 ∧ c ≠ 113 ∧ c ≠ 114) c hc)) (fun q hq => ?_) u2) (SameG.of (fun c hc => A c ((by decide : ∀ c ∈ ([126, 80, 32, 33, 34, 35, 36, 37, 38, 39, 40, 41, 42, 43, 68, 69, 70, 71, 72, 73, 74, 75] : List Nat), c ≠ 3 ∧ c ≠ 16 ∧ c ≠ 98 ∧ c ≠ 113 ∧ c ≠ 114) c hc)) (fun q hq => ?_) u2)
  · rcases (by decide : ∀ q ∈ ([(98, 0), (98, 19), (98, 25), (3, 0), (3, 1), (45, 0), (45, 4)] : List (Nat × Nat)), (q.1 = 98 ∧ q.2 ≠ 34) ∨ (q.1 = 3 ∧ q.2 ≠ 15 ∧ q.2 ≠ 16) ∨ (q.1 ≠ 3 ∧ q.1 ≠ 16 ∧ q.1 ≠ 98 ∧ q.1 ≠ 113 ∧ q.1 ≠ 114)) q hq with ⟨e1, e2⟩ | ⟨e1, e2, e3⟩ | e
    · rw [e1]; exact B q.2 e2
    · rw [e1]; exact C q.2 e2 e3
    · rw [A q.1 e]
  · rcases (by decide : ∀ q ∈ ([(1, 1), (1, 2), (1, 3), (98, 4), (98, 10), (98, 11), (0, 10), (98, 43), (88, 3), (98, 54)] : List (Nat × Nat)), (q.1 = 98 ∧ q.2 ≠ 34) ∨ (q.1 ≠ 3 ∧ q.1 ≠ 16 ∧ q.1 ≠ 98 ∧ q.1 ≠ 113 ∧ q.1 ≠ 114)) q hq with ⟨e1, e2⟩ | e
    · rw [e1]; exact B q.2 e2
    · rw [A q.1 e]
  · rcases (by decide : ∀ q ∈ ([(0, 6), (98, 56), (31, 0), (31, 1), (67, 0), (67, 4)] : List (Nat × Nat)), (q.1 = 98 ∧ q.2 ≠ 34) ∨ (q.1 ≠ 3 ∧ q.1 ≠ 16 ∧ q.1 ≠ 98 ∧ q.1 ≠ 113 ∧ q.1 ≠ 114)) q hq with ⟨e1, e2⟩ | e
    · rw [e1]; exact B q.2 e2
    · rw [A q.1 e]
theorem op_rings : O_rings Rel := by
  intro σ h
  obtain ⟨⟨n, now, ne, a, b, c, ⟨tw, cx, mw, cw, ps, h60⟩, wl⟩, -, -⟩ := id h
  have h16 := tw.1
  have p16 := pw16 h16
  obtain ⟨M, hMk⟩ := mvd_M tw
  have hM : ∀ i, i < n → M i < 2 ^ 16 := fun i hi => Nat.lt_of_lt_of_le (hMk i hi).2 p16
  have rc : RC n M σ := ⟨cx.n, fun i hi => (cx.mv hi).trans (hMk i hi).1⟩
  have hlen := allR_len (M := M) h16
  have nos : ∀ s' r, ¬ skL (-1) 0 (allR n M) = (s', some r) := fun s' r e => by
    obtain ⟨j, -, h2, h3, -⟩ := (skL_res (w := -1) (allR n M) 0 s' (by omega)).1 r e
    exact nI_nm1 (k := j) (by omega) h3.symm
  refine e_SS_rings (t_SS_rings_0 (p_seek h16 hM rc (fun s' r τ e => absurd e (nos s' r)) (fun s' τ e f => ?_)))
  have f98 := f.2.1 98 (by decide) (by decide)
  have f99 := f.2.1 99 (by decide) (by decide)
  have f100 := f.2.1 100 (by decide) (by decide)
  refine e_M_rings (t_M_rings_0 (p_findRing (n := n) (M := M) (by rw [f98]; exact a) (by rw [f99, f100]; exact tw) (by rw [f99, f100]; exact hMk) (fun s2 r u e2 => absurd e2 (nos s2 r)) (fun s2 u e2 fu _ => ⟨?_, h.rg f fu⟩)))
  rw [e] at e2
  injection e2 with e3 _
  rw [e3]
theorem op_ring : O_ring Rel := by
  intro σ a1 a2 h
  obtain ⟨⟨n, now, ne, a, b, c, ⟨tw, cx, mw, cw, ps, h60⟩, wl⟩, -, -⟩ := id h
  have h16 := tw.1
  have p16 := pw16 h16
  obtain ⟨M, hMk⟩ := mvd_M tw
  have hM : ∀ i, i < n → M i < 2 ^ 16 := fun i hi => Nat.lt_of_lt_of_le (hMk i hi).2 p16
  have rc : RC n M σ := ⟨cx.n, fun i hi => (cx.mv hi).trans (hMk i hi).1⟩
  have hlen := allR_len (M := M) h16
  refine e_SS_ring (t_SS_ring_0 (ite2 (fun h1 => ?_) (fun h1 => e_M_ring (t_M_ring_0 (ifn h1 ⟨rfl, h⟩)))))
  refine ite2 (fun h0 => e_M_ring (t_M_ring_0 (ifp h1 (ifn (Int32.not_le.mpr h0) (ifp h0 ⟨rfl, h⟩))))) (fun h0 => ?_)
  obtain ⟨j, hj, rfl⟩ := nI_of h0
  have mgo : ∀ (τ : Hp) (r : Int32), FG σ τ → (∀ s' o, skL (nI j) 0 (allR n M) = (s', some o) → ∀ u, FI τ u → u.1 98 34 = nI o.length → PSt (u.1 114) o → o.length ≤ 6 → o ≠ [] → (if a2 = -1 then r = u.1 98 34 else if u.1 98 34 ≤ a2 then r = -3 else vp_in a2 6 ∧ r = u.1 114 a2.toNatClampNeg)) → (∀ s', skL (nI j) 0 (allR n M) = (s', none) → r = -3) → CTs 60 y_M_ring [.ref 98, .int (nI j), .int a2] τ (fun r' σ2 => oI (some (.int r)) = oI r' ∧ Rel σ2) := by
    intro τ r f r1 r0
    have f98 := f.2.1 98 (by decide) (by decide)
    have f99 := f.2.1 99 (by decide) (by decide)
    have f100 := f.2.1 100 (by decide) (by decide)
    refine e_M_ring (t_M_ring_0 (ifp h1 (ifp (nI_pos' hj) (p_findRing (n := n) (M := M) (by rw [f98]; exact a) (by rw [f99, f100]; exact tw) (by rw [f99, f100]; exact hMk) (fun s2 o u e2 hl hne fu h34 pu => ifn h0 (ifp rfl ?_)) (fun s2 u e2 fu h34 => ifn h0 ?_)))))
    · have hr := r1 s2 o e2 u fu h34 pu hl hne
      have hpos : 0 < o.length := by
        match o, hne with
        | _ :: l, _ => show 0 < l.length + 1; omega
      refine ifn (by rw [h34]; exact nI_ne0 hpos (by omega)) (ite2 (fun e => ?_) (fun e => ite2 (fun e3 => ?_) (fun e3 => ?_)))
      · rw [if_pos e] at hr; exact ⟨hr, h.rg f fu⟩
      · rw [if_neg e, if_pos e3] at hr; exact ⟨hr, h.rg f fu⟩
      · rw [if_neg e, if_neg e3] at hr; exact ⟨hr.1, hr.2, h.rg f fu⟩
    · refine ite2 (fun _ => ifp h34 ⟨r0 s2 e2, h.rg f fu⟩) (fun _ => ⟨r0 s2 e2, h.rg f fu⟩)
  refine p_seek h16 hM rc (fun s' o τ e hl f h15 po => ?_) (fun s' τ e f => ?_)
  · obtain ⟨j2, -, h2, h3, h4⟩ := (skL_res (w := nI j) (allR n M) 0 s' (by omega)).1 o e
    have ej : j = j2 := (nI_eq hj (by omega)).mp h3
    have un : ∀ s'' o', skL (nI j) 0 (allR n M) = (s'', some o') → o' = o := fun s'' o' e' => by
      rw [e] at e'
      injection e' with _ e2
      injection e2 with e3
      exact e3.symm
    have nn : ∀ s'', ¬ skL (nI j) 0 (allR n M) = (s'', none) := fun s'' e' => by
      rw [e] at e'
      injection e' with _ e2
      cases e2
    refine ifp (nI_lt (b := s') (by omega) (by omega)) ?_
    rw [h15]
    refine ite2 (fun e1 => mgo τ _ f (fun s'' o' e' u fu h34 pu hl' hne => ?_) (fun s'' e' => absurd e' (nn s''))) (fun e1 => ite2 (fun e2 => mgo τ _ f (fun s'' o' e' u fu h34 pu hl' hne => ?_) (fun s'' e' => absurd e' (nn s''))) (fun e2 => ?_))
    · rw [if_pos e1, h34, un s'' o' e']
    · rw [if_neg e1, h34, un s'' o' e', if_pos e2]
    · have hge : ¬ a2 < 0 := fun z => e1 (Int32.le_antisymm (by
        rw [Int32.le_iff_toInt_le]
        rw [Int32.lt_iff_toInt_lt, show (0 : Int32).toInt = 0 from by decide] at z
        rw [show (-1 : Int32).toInt = -1 from by decide]
        omega) h1)
      obtain ⟨k, hk, rfl⟩ := nI_of hge
      have hko : k < o.length := Nat.lt_of_not_le (fun z => e2 (nI_le z hk))
      have hv : vp_in (nI k) 6 := vp_in_nI (by omega) (by omega)
      rw [nI_clamp (n := k) hk]
      refine ⟨hv, mgo τ _ f (fun s'' o' e' u fu h34 pu hl' hne => ?_) (fun s'' e' => absurd e' (nn s''))⟩
      rw [un s'' o' e'] at h34 pu
      rw [if_neg e1, h34, if_neg e2, nI_clamp (n := k) hk]
      exact ⟨hv, po.eq pu k hko⟩
  · obtain ⟨h2, h3⟩ := (skL_res (w := nI j) (allR n M) 0 s' (by omega)).2 e
    have hle : ¬ j < s' := fun z => h3 j (Nat.zero_le _) (by omega) rfl
    refine ifn (nI_nlt (by omega) hj) (mgo τ _ f (fun s'' o' e' => ?_) (fun _ _ => rfl))
    rw [e] at e'
    injection e' with _ e2
    cases e2
