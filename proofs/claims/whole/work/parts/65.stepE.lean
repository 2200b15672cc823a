/-! ===== the reference reads an E: its small steps ===== -/
def bdN (x : Nat) : Nat := if x = 300042 ∨ x = 300047 then 3 else if x = 300043 ∨ x = 300045 then 2 else if x = 300060 ∨ x = 300061 then 1 else 0
theorem bd_eq {x c : Nat} (hx : x < 2 ^ 31) (hc : c < 100) (h : nI x - 300000 = nI c) : x = 300000 + c := by
  refine (nI_eq hx (by omega)).mp ?_
  rw [← nI_add 300000 c, ← h, Int32.add_comm]
  exact (Int32.sub_add_cancel _ _).symm
theorem p_binds {d : Nat} {K : Po} {σ : Hp} {x : Nat} (hx : x < 2 ^ 31) (q : K (some (.int (nI (bdN x)))) σ) : CTs (d + 1) y_M_binds [.int (nI x)] σ K := by
  refine e_M_binds (t_M_binds_0 ?_)
  by_cases e1 : x = 300042
  · subst e1
    exact ifp (by decide) q
  by_cases e2 : x = 300043
  · subst e2
    exact ifn (by decide) (ifp (by decide) q)
  by_cases e3 : x = 300045
  · subst e3
    exact ifn (by decide) (ifn (by decide) (ifn (by decide) (ifp (by decide) q)))
  by_cases e4 : x = 300047
  · subst e4
    exact ifn (by decide) (ifn (by decide) (ifn (by decide) (ifn (by decide) (ifn (by decide) (ifp (by decide) q)))))
  have hn : ∀ c : Nat, c < 100 → x ≠ 300000 + c → ¬ nI x - 300000 = nI c := fun c hc h z => h (bd_eq hx hc z)
  have q0 : x ≠ 300060 → x ≠ 300061 → K (some (.int 0)) σ := fun e5 e6 => by
    unfold bdN at q
    rw [if_neg (by omega), if_neg (by omega), if_neg (by omega)] at q
    exact q
  have k1 : ∀ c : Nat, c < 100 → c ≠ 60 → c ≠ 61 → nI x - 300000 = nI c → K (some (.int 0)) σ := fun c hc c1 c2 z => by
    have := bd_eq hx hc z
    exact q0 (by omega) (by omega)
  refine ifn (hn 42 (by omega) (by omega)) (ifn (hn 43 (by omega) (by omega)) (ite2 (fun z => k1 44 (by omega) (by omega) (by omega) z) (fun _ => ifn (hn 45 (by omega) (by omega)) (ite2 (fun z => k1 46 (by omega) (by omega) (by omega) z) (fun _ => ifn (hn 47 (by omega) (by omega)) ?_)))))
  refine ite2 (fun z => k1 48 (by omega) (by omega) (by omega) z) (fun _ => ite2 (fun z => k1 49 (by omega) (by omega) (by omega) z) (fun _ => ite2 (fun z => k1 50 (by omega) (by omega) (by omega) z) (fun _ => ite2 (fun z => k1 51 (by omega) (by omega) (by omega) z) (fun _ => ite2 (fun z => k1 52 (by omega) (by omega) (by omega) z) (fun _ => ite2 (fun z => k1 53 (by omega) (by omega) (by omega) z) (fun _ => ?_))))))
  refine ite2 (fun z => k1 54 (by omega) (by omega) (by omega) z) (fun _ => ite2 (fun z => k1 55 (by omega) (by omega) (by omega) z) (fun _ => ite2 (fun z => k1 56 (by omega) (by omega) (by omega) z) (fun _ => ite2 (fun z => k1 57 (by omega) (by omega) (by omega) z) (fun _ => ite2 (fun z => k1 58 (by omega) (by omega) (by omega) z) (fun _ => ite2 (fun z => k1 59 (by omega) (by omega) (by omega) z) (fun _ => ?_))))))
  refine ite2 (fun z => ?_) (fun z5 => ite2 (fun z => ?_) (fun z6 => ?_))
  · have := bd_eq (c := 60) hx (by omega) z
    subst this
    exact q
  · have := bd_eq (c := 61) hx (by omega) z
    subst this
    exact q
  · refine q0 (fun e5 => z5 ?_) (fun e6 => z6 ?_)
    · rw [e5]; decide
    · rw [e6]; decide
theorem rep_cons {k x : Nat} {P : List Nat} : List.replicate (k + 1) x ++ P = x :: (List.replicate k x ++ P) := rfl
theorem m_ended {d : Nat} {K : Po} {e : EC} {F : Option (Nat × Nat)} {j : Nat} {P : List Nat} {o : Nat} (hP : ¬ P.headD 0 = 400001) (hP2 : P.headD 0 < 2 ^ 31) : ∀ (k : Nat) (E : List Nat) (σ : Hp), MR e F j (List.replicate k 400001 ++ P) E (o + k) σ → e.c0 + E.length + k + P.length ≤ 300 → (∀ τ : Hp, MR e F j P (E ++ List.replicate k 400001) o τ → K none τ) → WP c_M_ended (CTs (d + 1)) K (0, [(0, .ref 98)], []) σ := by
  intro k
  induction k with
  | zero =>
    intro E σ h hb q
    refine t_M_ended_0 (m_top h (by show P.length ≤ 300; omega) ?_)
    refine ifn (fun z => hP ?_) (q σ (by rw [List.replicate_zero, List.append_nil]; exact h))
    exact (nI_eq (b := 400001) hP2 (by omega)).mp z
  | succ k ih =>
    intro E σ h hb q
    rw [rep_cons] at h
    refine t_M_ended_0 (m_top h ?_ (ifp rfl ?_))
    · show (List.replicate k 400001 ++ P).length + 1 ≤ 300
      rw [List.length_append, List.length_replicate]
      omega
    · refine m_emit (x := 400001) h (by omega) (fun τ h2 => ih (E ++ [400001]) _ (m_popB h2) ?_ (fun τ2 h3 => q τ2 ?_))
      · rw [List.length_append]
        show e.c0 + (E.length + 1) + k + P.length ≤ 300
        omega
      · rw [List.append_assoc] at h3
        exact h3
theorem p_mended {d : Nat} {K : Po} {e : EC} {F : Option (Nat × Nat)} {j : Nat} {P E : List Nat} {o k : Nat} {σ : Hp} (hP : ¬ P.headD 0 = 400001) (hP2 : P.headD 0 < 2 ^ 31) (h : MR e F j (List.replicate k 400001 ++ P) E (o + k) σ) (hb : e.c0 + E.length + k + P.length ≤ 300) (q : ∀ τ : Hp, MR e F j P (E ++ List.replicate k 400001) o τ → K none τ) : CTs (d + 2) y_M_ended [.ref 98] σ K := e_M_ended (m_ended hP hP2 k E σ h hb q)
theorem m_settle {d : Nat} {K : Po} {e : EC} {F : Option (Nat × Nat)} {j lv : Nat} {P : List Nat} {o : Nat} (hlv : lv < 4) (hP : bdN (P.headD 0) < lv) (hP2 : P.headD 0 < 2 ^ 31) : ∀ (Q E : List Nat) (σ : Hp), (∀ x ∈ Q, lv ≤ bdN x) → MR e F j (Q ++ P) E o σ → e.c0 + E.length + Q.length + P.length ≤ 300 → (∀ τ : Hp, MR e F j P (E ++ Q) o τ → K none τ) → WP c_M_settle (CTs (d + 1)) K (0, [(0, .ref 98), (1, .int (nI lv))], []) σ := by
  have bd3 : ∀ x, bdN x ≤ 3 := fun x => by
    unfold bdN
    split
    · omega
    · split
      · omega
      · split <;> omega
  intro Q
  induction Q with
  | nil =>
    intro E σ hQ h hb q
    refine t_M_settle_0 (m_top h (by show P.length ≤ 300; replace hb : e.c0 + E.length + 0 + P.length ≤ 300 := hb; omega) (p_binds hP2 ?_))
    exact ifp (nI_lt hP (by omega)) (q σ (by rw [List.append_nil]; exact h))
  | cons x Q ih =>
    intro E σ hQ h hb q
    have hx := hQ x (List.mem_cons_self ..)
    have hx0 : bdN x ≠ 0 → x < 2 ^ 31 := fun z => by
      unfold bdN at z
      by_cases a : x = 300042 ∨ x = 300047
      · omega
      · rw [if_neg a] at z
        by_cases b : x = 300043 ∨ x = 300045
        · omega
        · rw [if_neg b] at z
          by_cases c : x = 300060 ∨ x = 300061
          · omega
          · rw [if_neg c] at z; exact absurd rfl z
    have hxl : x < 2 ^ 31 := hx0 (by omega)
    have hl : (x :: Q).length = Q.length + 1 := rfl
    rw [hl] at hb
    have hlen : (x :: Q ++ P).length ≤ 300 := by
      show (Q ++ P).length + 1 ≤ 300
      rw [List.length_append]; omega
    refine t_M_settle_0 (m_top h hlen (p_binds hxl ?_))
    have b3 := bd3 x
    refine ifn (nI_nlt (a := bdN x) (b := lv) hx (by omega)) (m_top h hlen ?_)
    refine m_emit (x := x) h (by omega) (fun τ h2 => ih (E ++ [x]) _ (fun y hy => hQ y (List.mem_cons_of_mem _ hy)) (m_popA h2) ?_ (fun τ2 h3 => q τ2 ?_))
    · rw [List.length_append]
      show e.c0 + (E.length + 1) + Q.length + P.length ≤ 300
      omega
    · rw [List.append_assoc] at h3
      exact h3
theorem p_msettle {d : Nat} {K : Po} {e : EC} {F : Option (Nat × Nat)} {j lv : Nat} {P Q E : List Nat} {o : Nat} {σ : Hp} (hlv : lv < 4) (hP : bdN (P.headD 0) < lv) (hP2 : P.headD 0 < 2 ^ 31) (hQ : ∀ x ∈ Q, lv ≤ bdN x) (h : MR e F j (Q ++ P) E o σ) (hb : e.c0 + E.length + Q.length + P.length ≤ 300) (q : ∀ τ : Hp, MR e F j P (E ++ Q) o τ → K none τ) : CTs (d + 2) y_M_settle [.ref 98, .int (nI lv)] σ K := e_M_settle (m_settle hlv hP hP2 Q E σ hQ h hb q)
theorem p_mknown {d : Nat} {K : Po} {σ : Hp} {n x : Nat} (fd : Option Nat) (hn : σ.1 98 12 = nI n) (h16 : n ≤ 16) (hw : σ.2 98 8 = lN x) (hfd : ∀ i, (fd = some i ↔ i < n ∧ σ.1 102 (20 * i + 1) = nI x)) (k0 : fd = none → K (some (.int (-1))) σ) (k1 : ∀ i, i < n → fd = some i → K (some (.int (nI i))) σ) (hx : x < 2 ^ 31) : CTs (d + 1) y_M_known [.ref 98] σ K := by
  refine e_M_known (t_M_known_0 ?_)
  have key : ∀ c k (v : Int32), k + c = n → ((v = -1 ∧ ∀ i, i < k → ¬ σ.1 102 (20 * i + 1) = nI x) ∨ ∃ i, i < k ∧ v = nI i ∧ σ.1 102 (20 * i + 1) = nI x) → WP c_M_known (CTs d) K (4, [(0, .ref 98), (1, .int v), (2, .int (nI k))], []) σ := by
    intro c
    induction c with
    | zero =>
      intro k v hk hv
      refine t_M_known_4 ?_
      rw [hn]
      refine ifp (nI_le (by omega) (by omega)) ?_
      rcases hv with ⟨e1, e2⟩ | ⟨i, hi, e1, e2⟩
      · rw [e1]
        refine k0 ?_
        cases hf : fd with
        | none => rfl
        | some i => have := (hfd i).mp hf; exact absurd this.2 (e2 i (by omega))
      · rw [e1]
        exact k1 i (by omega) ((hfd i).mpr ⟨by omega, e2⟩)
    | succ c ih =>
      intro k v hk hv
      refine t_M_known_4 ?_
      obtain ⟨v1, v2⟩ := ix_of (i := k) (w := 1) (by omega) (by omega)
      replace v1 : vp_in ((20 : Int32) * nI k + 1) 320 := v1
      replace v2 : ((20 : Int32) * nI k + 1).toNatClampNeg = 20 * k + 1 := v2
      rw [hn, hw, v2, nI_1]
      refine ifn (nI_ge (by omega) (by omega)) ⟨v1, ite2 (fun z => ?_) (fun z => ?_)⟩
      · have e0 := congrArg Int64.toInt32 ((lg_cmp_eq _ _).mp z)
        rw [lN_i, Int32.toInt32_toInt64] at e0
        exact ih (k + 1) _ (by omega) (Or.inr ⟨k, by omega, rfl, e0⟩)
      · have hne : ¬ σ.1 102 (20 * k + 1) = nI x := fun y => z ((lg_cmp_eq _ _).mpr (by rw [y, nI_l hx]))
        refine ih (k + 1) v (by omega) ?_
        rcases hv with ⟨e1, e2⟩ | ⟨i, hi, e1, e2⟩
        · refine Or.inl ⟨e1, fun i hi => ?_⟩
          by_cases ei : i = k
          · rw [ei]; exact hne
          · exact e2 i (by omega)
        · exact Or.inr ⟨i, by omega, e1, e2⟩
  exact key n 0 (-1) (by omega) (Or.inl ⟨rfl, fun i hi => absurd hi (by omega)⟩)
theorem p_mclose {d : Nat} {K : Po} {e : EC} {F : Option (Nat × Nat)} {j : Nat} {P E : List Nat} {o k x : Nat} {σ : Hp} (hP : ¬ P.headD 0 = 400001) (hP2 : P.headD 0 < 2 ^ 31) (h : MR e F j (x :: (List.replicate k 400001 ++ P)) E (o + k + 1) σ) (hb : e.c0 + E.length + k + P.length ≤ 300) (q : ∀ τ : Hp, MR e F j P (E ++ List.replicate k 400001) o τ → K none τ) : CTs (d + 3) y_M_closes [.ref 98] σ K := e_M_closes (t_M_closes_0 (p_mended hP hP2 (m_popB h) hb q))
theorem p_mopen {d : Nat} {K : Po} {e : EC} {j : Nat} {P E : List Nat} {o x : Nat} {σ : Hp} (h : MR e none j P E o σ) (hr : P.length < 300) (ho : o ≤ 4) (q1 : o < 4 → ∀ τ : Hp, MR e none j (x :: P) E (o + 1) τ → K none τ) (q0 : o = 4 → ∀ τ : Hp, MR e (some (1, (tk e.b e.m j).2.1)) j (x :: P) E (o + 1) τ → K none τ) : CTs (d + 3) y_M_opens [.ref 98, .int (nI x)] σ K := by
  refine e_M_opens (t_M_opens_0 ?_)
  rw [h.2.2.2.2.2.2.1]
  by_cases e4 : o = 4
  · refine ifp (by rw [e4]; rfl) (m_faults (f := 1) h (fun τ h2 => ?_))
    exact m_pend (m_open1 h2) hr (q0 e4)
  · refine ifn (fun z => e4 ((nI_eq (b := 4) (by omega) (by omega)).mp z)) ?_
    have h2 := m_open1 h
    rw [h.2.2.2.2.2.2.1] at h2
    exact m_pend h2 hr (q1 (by omega))
