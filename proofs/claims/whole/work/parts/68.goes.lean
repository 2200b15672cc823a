/-! ===== the reference reads an E: behind a part ===== -/
theorem sOp {e : EC} {Q : Po} (k : MOk e) {j o v c : Nat} {S B X : List Nat} (hc : bdN (300000 + c) = v) (hv : v = 2 ∨ v = 3) (hc2 : c < 256) (hb : e.c0 + X.length + S.length + B.length ≤ j) (hs : isS e.b (tk e.b e.m j) c) (hS : ∀ x ∈ S, v ≤ bdN x) (hB : bdN (B.headD 0) < v) (hB2 : B.headD 0 < 2 ^ 31) (q : GG e Q 1 (j + 1) ((300000 + c) :: B) (X ++ S) o) : GG e Q 0 j (S ++ B) X o := by
  intro σ h
  have hm := k.1
  have hj := isS_m hs
  refine g0 h (e_M_goesOn (t_M_goesOn_0 ?_))
  rw [h.1.1, h.1.2.2.2.2.2 hs.1, hs.2]
  refine ifp (by rw [hs.1]; rfl) ?_
  rw [show (300000 : Int32) + nI c = nI (300000 + c) from nI_add 300000 c]
  refine p_binds (by omega) ?_
  rw [hc]
  refine ifn (nI_nle (n := v) (by omega) (by omega)) (ifn (fun z => ?_) ?_)
  · have := (nI_eq (a := v) (b := 1) (by omega) (by omega)).mp z
    omega
  · refine p_msettle (lv := v) (by omega) hB hB2 hS h (by omega) (fun τ h2 => ifn (fun z => ?_) ?_)
    · have := (nI_eq (a := v) (b := 1) (by omega) (by omega)).mp z
      omega
    · rw [h2.1.2.2.2.2.2 hs.1, hs.2, show (300000 : Int32) + nI c = nI (300000 + c) from nI_add 300000 c]
      exact m_pend h2 (by omega) (fun τ2 h3 => m_av k h3 (fun τ3 h4 => q τ3 h4))
theorem sCmp {e : EC} {Q : Po} (k : MOk e) {j o c : Nat} {S B X : List Nat} (hc : c = 60 ∨ c = 61) (hb : e.c0 + X.length + S.length + B.length ≤ j) (hs : isS e.b (tk e.b e.m j) c) (hS : ∀ x ∈ S, 2 ≤ bdN x) (hB : bdN (B.headD 0) < 2) (hB2 : B.headD 0 < 2 ^ 31) (q : bdN (B.headD 0) = 0 → GG e Q 1 (j + 1) ((300000 + c) :: B) (X ++ S) o) (ff : bdN (B.headD 0) = 1 → FF e Q 1 j) : GG e Q 0 j (S ++ B) X o := by
  intro σ h
  have hm := k.1
  have hj := isS_m hs
  have hcb : bdN (300000 + c) = 1 := by
    rcases hc with z | z
    · rw [z]; rfl
    · rw [z]; rfl
  refine g0 h (e_M_goesOn (t_M_goesOn_0 ?_))
  rw [h.1.1, h.1.2.2.2.2.2 hs.1, hs.2]
  refine ifp (by rw [hs.1]; rfl) ?_
  rw [show (300000 : Int32) + nI c = nI (300000 + c) from nI_add 300000 c]
  refine p_binds (by omega) ?_
  rw [hcb]
  refine ifn (by decide) (ifp (by decide) ?_)
  refine p_msettle (lv := 2) (by omega) hB hB2 hS h (by omega) (fun τ h2 => ifp (by decide) (m_top h2 (by omega) (p_binds hB2 ?_)))
  by_cases e1 : bdN (B.headD 0) = 1
  · refine ifp (by rw [e1]; rfl) (m_faults (f := 1) h2 (fun τ2 h3 => ?_))
    rw [h3.1.2.2.2.2.2 hs.1, hs.2, show (300000 : Int32) + nI c = nI (300000 + c) from nI_add 300000 c]
    exact m_pend h3 (by omega) (fun τ3 h4 => m_av k h4 (fun τ4 h5 => gF (ff e1) (by decide) (by decide) h5))
  · refine ifn (fun z => e1 ((nI_eq (b := 1) (by omega) (by omega)).mp z)) ?_
    rw [h2.1.2.2.2.2.2 hs.1, hs.2, show (300000 : Int32) + nI c = nI (300000 + c) from nI_add 300000 c]
    exact m_pend h2 (by omega) (fun τ2 h3 => m_av k h3 (fun τ3 h4 => q (by omega) τ3 h4))
/-- no sign of an E at this token -/
def noOp (e : EC) (j : Nat) : Prop := mk2 e.b e.m j = 0 ∧ mk1 e.b e.m j = 0 ∧ mk0 e.b e.m j = 0
theorem noOp.bd {e : EC} {j : Nat} (h : noOp e j) (h3 : (tk e.b e.m j).1 = 3) : bdN (300000 + e.b (tk e.b e.m j).2.1) = 0 := by
  obtain ⟨m2, m1, m0⟩ := h
  have key : ∀ {c1 c2 x y : Nat}, x ≠ 0 → y ≠ 0 → (if isS e.b (tk e.b e.m j) c1 then x else if isS e.b (tk e.b e.m j) c2 then y else 0) = 0 → e.b (tk e.b e.m j).2.1 ≠ c1 ∧ e.b (tk e.b e.m j).2.1 ≠ c2 := fun {c1 c2 x y} hx hy z => by
    by_cases a : isS e.b (tk e.b e.m j) c1
    · rw [if_pos a] at z; exact absurd z hx
    · rw [if_neg a] at z
      by_cases b : isS e.b (tk e.b e.m j) c2
      · rw [if_pos b] at z; exact absurd z hy
      · exact ⟨fun w => a ⟨h3, w⟩, fun w => b ⟨h3, w⟩⟩
  have k2 := key (by decide) (by decide) m2
  have k1 := key (by decide) (by decide) m1
  have k0 := key (by decide) (by decide) m0
  unfold bdN
  rw [if_neg (by omega), if_neg (by omega), if_neg (by omega)]
theorem sRest {e : EC} {K : Po} (k : MOk e) {j o : Nat} {S B X : List Nat} {σ : Hp} (h : MR e none j (S ++ B) X o σ) (hb : e.c0 + X.length + S.length + B.length ≤ j) (hjm : j ≤ e.m) (hn : noOp e j) (hS : ∀ x ∈ S, 1 ≤ bdN x) (hB : bdN (B.headD 0) = 0) (hB2 : B.headD 0 < 2 ^ 31)
    (q0 : B.headD 0 = 0 → ∀ τ : Hp, MR e none j B (X ++ S) o τ → K (some (.int (-1))) τ)
    (q44 : B.headD 0 ≠ 0 → isS e.b (tk e.b e.m j) 44 → B.headD 0 = 400003 → ∀ τ : Hp, MR e none j B (X ++ S) o τ → vp_in (τ.1 98 17 - 1) 300 ∧ CTs 7 y_M_advance [.ref 98] (sI τ 104 (τ.1 98 17 - 1).toNatClampNeg 400004) (fun _ σ4 => K (some (.int 1)) σ4))
    (q : B.headD 0 ≠ 0 → ¬ (isS e.b (tk e.b e.m j) 44 ∧ B.headD 0 = 400003) → ∀ τ : Hp, MR e none j B (X ++ S) o τ → WP c_M_goesOn (CTs 7) K (129, [(0, .ref 98), (2, .int (nI (B.headD 0)))], []) τ) : CTs 8 y_M_goesOn [.ref 98] σ K := by
  have hm := k.1
  refine e_M_goesOn (t_M_goesOn_0 ?_)
  have tail : ∀ τ : Hp, MR e none j B (X ++ S) o τ → CTs 7 y_M_top [.ref 98] τ (fun r2 σ2 => (if (oI r2) = 0 then (K (some (.int (-1))) σ2) else (CTs 7 y_M_isMark [.ref 98, .int 44] σ2 (fun r3 σ3 => (if (oI r3) = 0 then (WP c_M_goesOn (CTs 7) K (129, [(0, .ref 98), (2, .int (oI r2))], []) σ3) else ((if (oI r2) = 400003 then (vp_in ((σ3.1 98 17) - 1) 300 ∧ (CTs 7 y_M_advance [.ref 98] (sI σ3 104 ((σ3.1 98 17) - 1).toNatClampNeg 400004) (fun _ σ4 => K (some (.int 1)) σ4))) else (WP c_M_goesOn (CTs 7) K (129, [(0, .ref 98), (2, .int (oI r2))], []) σ3)))))))) := fun τ h2 => by
    refine m_top h2 (by omega) ?_
    by_cases e0 : B.headD 0 = 0
    · exact ifp (by rw [e0]; rfl) (q0 e0 τ h2)
    · refine ifn (fun z => e0 ((nI_eq (b := 0) hB2 (by omega)).mp z)) ?_
      refine q_mk (c := 44) (k.TB j) h2.1 (by decide) (fun h44 => o1 ?_) (fun h44 => o0 (q e0 (fun z => h44 z.1) τ h2))
      by_cases e3 : B.headD 0 = 400003
      · exact ifp (by rw [e3]; rfl) (q44 e0 h44 e3 τ h2)
      · exact ifn (fun z => e3 ((nI_eq (b := 400003) hB2 (by omega)).mp z)) (q e0 (fun z => e3 z.2) τ h2)
  have b3 := (k.TB j).1
  rw [h.1.1]
  by_cases e3 : (tk e.b e.m j).1 = 3
  · refine ifp (by rw [e3]; rfl) ?_
    rw [h.1.2.2.2.2.2 e3, show (300000 : Int32) + nI (e.b (tk e.b e.m j).2.1) = nI (300000 + e.b (tk e.b e.m j).2.1) from nI_add 300000 _]
    have hlt := (k.TB j).2.2.2.2.2.1 e3
    refine p_binds (by omega) ?_
    rw [hn.bd e3]
    exact ifp (by decide) (p_msettle (lv := 1) (by omega) (by omega) hB2 hS h (by omega) (fun τ h2 => tail τ h2))
  · exact ifn (fun z => e3 ((nI_eq (b := 3) (by omega) (by omega)).mp z)) (ifp (by decide) (p_msettle (lv := 1) (by omega) (by omega) hB2 hS h (by omega) (fun τ h2 => tail τ h2)))
theorem sTop {e : EC} {Q : Po} (k : MOk e) {j o : Nat} {S X : List Nat} (hb : e.c0 + X.length + S.length ≤ j) (hjm : j ≤ e.m) (hn : noOp e j) (hS : ∀ x ∈ S, 1 ≤ bdN x) (q : ∀ τ : Hp, MR e none j [] (X ++ S) o τ → Q none τ) : GG e Q 0 j (S ++ []) X o := by
  intro σ h
  refine g0 h (sRest k h (by show e.c0 + X.length + S.length + 0 ≤ j; omega) hjm hn hS rfl (by decide) (fun _ τ h2 => ?_) (fun z => absurd rfl z) (fun z => absurd rfl z))
  exact t_M_wantE_14 (m_good1 h2 (o1 (ifp (by decide) (q τ h2))))
theorem sEnd {e : EC} {Q : Po} (k : MOk e) {j o kk x : Nat} {S R X : List Nat} (hb : e.c0 + X.length + S.length + kk + R.length + 1 ≤ j) (hjm : j ≤ e.m) (hn : noOp e j) (hS : ∀ y ∈ S, 1 ≤ bdN y) (hx1 : 400002 ≤ x) (hx2 : x < 600000) (hR : ¬ R.headD 0 = 400001) (hR2 : R.headD 0 < 2 ^ 31)
    (c44 : x = 400003 → isS e.b (tk e.b e.m j) 44 → GG e Q 1 (j + 1) (400004 :: (List.replicate kk 400001 ++ R)) (X ++ S) (o + kk + 1))
    (c41 : x = 400002 → isS e.b (tk e.b e.m j) 41 → GG e Q 0 (j + 1) R (X ++ S ++ List.replicate kk 400001) o)
    (c4l : x = 400004 → isS e.b (tk e.b e.m j) 41 → GG e Q 0 (j + 1) R (X ++ S ++ [400000] ++ List.replicate kk 400001) o)
    (c93 : ∀ i, x = 500000 + i → isS e.b (tk e.b e.m j) 93 → GG e Q 0 (j + 1) R (X ++ S ++ [200000 + i] ++ List.replicate kk 400001) o)
    (ff : ¬ (x = 400003 ∧ isS e.b (tk e.b e.m j) 44) → ¬ (x = 400002 ∧ isS e.b (tk e.b e.m j) 41) → ¬ (x = 400004 ∧ isS e.b (tk e.b e.m j) 41) → ¬ (500000 ≤ x ∧ isS e.b (tk e.b e.m j) 93) → FF e Q 1 j) : GG e Q 0 j (S ++ x :: (List.replicate kk 400001 ++ R)) X (o + kk + 1) := by
  intro σ h
  have hm := k.1
  have hPl : (x :: (List.replicate kk 400001 ++ R)).length = kk + R.length + 1 := by
    show (List.replicate kk 400001 ++ R).length + 1 = _
    rw [List.length_append, List.length_replicate]
  have hhd : (x :: (List.replicate kk 400001 ++ R)).headD 0 = x := rfl
  have hXS : (X ++ S).length = X.length + S.length := List.length_append
  refine g0 h (sRest k h (by omega) hjm hn hS ?_ (by rw [hhd]; omega) (fun z => ?_) (fun _ h44 e3 τ h2 => ?_) (fun _ h44 τ h2 => ?_))
  · rw [hhd]
    unfold bdN
    rw [if_neg (by omega), if_neg (by omega), if_neg (by omega)]
  · rw [hhd] at z; omega
  · rw [hhd] at e3
    rw [h2.2.2.2.2.1, hPl, nI_pred, nI_clamp (n := kk + R.length) (by omega)]
    refine ⟨vp_in_nI (by omega) (by omega), ?_⟩
    have h3 : MR e none j (400004 :: (List.replicate kk 400001 ++ R)) (X ++ S) (o + kk + 1) (sI τ 104 (kk + R.length) 400004) := by
      have hl2 : (List.replicate kk 400001 ++ R).length = kk + R.length := by rw [List.length_append, List.length_replicate]
      refine m_fld h2 rfl (fun y y1 y2 => by rw [sI_r, if_neg (by decide)]) (fun c c1 c2 => by rw [sI_r, if_neg c2]) ?_ ?_ ?_
      · rw [sI_r, if_neg (by decide)]; exact h2.2.2.2.2.1
      · rw [sI_r, if_neg (by decide)]; exact h2.2.2.2.2.2.2.1
      · rw [sI_r, if_pos rfl]
        refine ⟨by rw [hl2, upd_r, if_pos rfl]; rfl, h2.2.2.2.2.2.1.2.cong (fun q hq => by rw [upd_r, if_neg (by omega)])⟩
    exact m_av k h3 (fun τ2 h4 => c44 e3 h44 τ2 h4)
  · rw [hhd] at h44 ⊢
    have h44' : ¬ (x = 400003 ∧ isS e.b (tk e.b e.m j) 44) := fun z => h44 ⟨z.2, z.1⟩
    have ne : ∀ {c : Nat}, x ≠ c → c < 2 ^ 31 → ¬ nI x = nI c := fun {c} hne hc z => hne ((nI_eq (by omega) hc).mp z)
    have cl : ∀ (y : Nat) (Y : List Nat) (τ : Hp), MR e none j (x :: (List.replicate kk 400001 ++ R)) Y (o + kk + 1) τ → e.c0 + Y.length + kk + R.length ≤ 300 → GG e Q 0 (j + 1) R (Y ++ List.replicate kk 400001) o → CTs 7 y_M_closes [.ref 98] τ (fun _ σ6 => CTs 7 y_M_advance [.ref 98] σ6 (fun _ σ7 => WP c_M_wantE (CTs 8) Q (14, [(0, .ref 98), (2, .int (oI (some (.int 0))))], []) σ7)) := fun y Y τ h3 hb3 q3 => p_mclose hR hR2 h3 hb3 (fun τ2 h4 => m_av k h4 (fun τ3 h5 => q3 τ3 h5))
    refine t_M_goesOn_129 (q_mk (c := 41) (k.TB j) h2.1 (by decide) (fun h41 => o1 ?_) (fun h41 => o0 ?_))
    · have h93 : ¬ isS e.b (tk e.b e.m j) 93 := fun z => by have := z.2; have := h41.2; omega
      by_cases e2 : x = 400002
      · refine ifp (by rw [e2]; rfl) (ifp (by rw [e2]; rfl) ?_)
        exact cl 0 (X ++ S) τ h2 (by omega) (c41 e2 h41)
      · refine ifn (ne (c := 400002) e2 (by decide)) (q_mk (c := 41) (k.TB j) h2.1 (by decide) (fun _ => o1 ?_) (fun z => absurd h41 z))
        by_cases e4 : x = 400004
        · refine ifp (by rw [e4]; rfl) (ifn (ne (c := 400002) e2 (by decide)) (ifp (by rw [e4]; rfl) ?_))
          refine m_emit (x := 400000) h2 (by omega) (fun τ2 h3 => cl 0 (X ++ S ++ [400000]) τ2 h3 ?_ (c4l e4 h41))
          rw [List.length_append]
          show e.c0 + ((X ++ S).length + 1) + kk + R.length ≤ 300
          omega
        · refine ifn (ne (c := 400004) e4 (by decide)) (q_mk (c := 93) (k.TB j) h2.1 (by decide) (fun z => absurd z h93) (fun _ => o0 ?_))
          exact m_faults (f := 1) h2 (fun τ2 h3 => gF (ff h44' (fun z => e2 z.1) (fun z => e4 z.1) (fun z => h93 z.2)) (by decide) (by decide) h3)
    · refine q_mk (c := 41) (k.TB j) h2.1 (by decide) (fun z => absurd z h41) (fun _ => o0 ?_)
      refine q_mk (c := 93) (k.TB j) h2.1 (by decide) (fun h93 => o1 ?_) (fun h93 => o0 ?_)
      · by_cases e5 : x < 500000
        · exact ifp (nI_lt (b := 500000) e5 (by omega)) (m_faults (f := 1) h2 (fun τ2 h3 => gF (ff h44' (fun z => h41 z.2) (fun z => h41 z.2) (fun z => by have := z.1; omega)) (by decide) (by decide) h3))
        · refine ifn (nI_nlt (a := x) (b := 500000) (by omega) (by omega)) (ifn (ne (c := 400002) (by omega) (by omega)) (ifn (ne (c := 400004) (by omega) (by omega)) ?_))
          obtain ⟨i, hi⟩ : ∃ i, x = 500000 + i := ⟨x - 500000, by omega⟩
          have ex : (200000 : Int32) + nI x - 500000 = nI (200000 + i) := by
            rw [hi, show (200000 : Int32) + nI (500000 + i) = nI (200000 + (500000 + i)) from nI_add 200000 _]
            have := pk_sub (a := 200000 + (500000 + i)) (b := 500000) (by omega)
            rw [show 200000 + (500000 + i) - 500000 = 200000 + i by omega] at this
            exact this
          rw [ex]
          refine m_emit (x := 200000 + i) h2 (by omega) (fun τ2 h3 => cl 0 (X ++ S ++ [200000 + i]) τ2 h3 ?_ (c93 i hi h93))
          rw [List.length_append]
          show e.c0 + ((X ++ S).length + 1) + kk + R.length ≤ 300
          omega
      · exact m_faults (f := 1) h2 (fun τ2 h3 => gF (ff h44' (fun z => h41 z.2) (fun z => h41 z.2) (fun z => h93 z.2)) (by decide) (by decide) h3)
