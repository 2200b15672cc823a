set_option maxRecDepth 20000 in
theorem t_SS_keep_0 {d : Nat} {Q : Po} {σ : Hp}    (h : CTs d y_Tx_take [.ref 31, .ref 3] σ (fun _ σ1 => 
    CTs d y_Wo_take [.ref 67, .ref 45] σ1 (fun _ σ2 => 
      (¬ (0 : Int32) < 0 ∧ ¬ (0 : Int32) < 0 ∧ ¬ (Int32.ofNat 976) < 0 ∧ (0 : Int32).toNatClampNeg + (Int32.ofNat 976).toNatClampNeg ≤ 976 ∧ (0 : Int32).toNatClampNeg + (Int32.ofNat 976).toNatClampNeg ≤ 976) ∧ (vb (1 : Int32) ∧ (Q (some (.int (1 : Int32))) (sI (sC σ2 80 (va_cpy (σ2.1 78) (σ2.1 80) (0 : Int32).toNatClampNeg (0 : Int32).toNatClampNeg (Int32.ofNat 976).toNatClampNeg)) 0 6 (1 : Int32))))))) : WP c_SS_keep (CTs d) Q (0, [(0, .ref 0)], []) σ := wp_cut (ms_mono y_SS_keep) (cts_cm d) (fun x => false) (fun _ _ => false) 27 h
theorem e_SS_keep {d : Nat} {Q : Po} {σ : Hp}    (h : WP c_SS_keep (CTs d) Q (0, [(0, .ref 0)], []) σ) : CTs (d + 1) y_SS_keep [.ref 0] σ Q := h
set_option maxRecDepth 20000 in
theorem t_SS_back_0 {d : Nat} {Q : Po} {σ : Hp}    (h : (if (σ.1 0 6) = 0 then 
    (Q (some (.int (-3 : Int32))) σ)
    else 
    (CTs d y_Tx_take [.ref 3, .ref 31] σ (fun _ σ1 => 
      CTs d y_Wo_take [.ref 45, .ref 67] σ1 (fun _ σ2 => 
        (¬ (0 : Int32) < 0 ∧ ¬ (0 : Int32) < 0 ∧ ¬ (Int32.ofNat 976) < 0 ∧ (0 : Int32).toNatClampNeg + (Int32.ofNat 976).toNatClampNeg ≤ 976 ∧ (0 : Int32).toNatClampNeg + (Int32.ofNat 976).toNatClampNeg ≤ 976) ∧ (Q (some (.int (σ2.1 45 0))) (sC σ2 78 (va_cpy (σ2.1 80) (σ2.1 78) (0 : Int32).toNatClampNeg (0 : Int32).toNatClampNeg (Int32.ofNat 976).toNatClampNeg)))))))) : WP c_SS_back (CTs d) Q (0, [(0, .ref 0)], []) σ := wp_cut (ms_mono y_SS_back) (cts_cm d) (fun x => false) (fun _ _ => false) 31 h
theorem e_SS_back {d : Nat} {Q : Po} {σ : Hp}    (h : WP c_SS_back (CTs d) Q (0, [(0, .ref 0)], []) σ) : CTs (d + 1) y_SS_back [.ref 0] σ Q := h
set_option maxRecDepth 20000 in
theorem t_SS_valueThen_0 {d : Nat} {Q : Po} {σ : Hp}  {a1 : Int32} {a2 : Int32}  (h : (if a2 = (σ.1 45 0) then 
    (vp_in a1 16 ∧ (Q (some (.int (σ.1 50 (a1).toNatClampNeg))) σ))
    else 
    (vp_in ((a2 * (16 : Int32)) + a1) 976 ∧ (Q (some (.int (σ.1 78 ((a2 * (16 : Int32)) + a1).toNatClampNeg))) σ)))) : WP c_SS_valueThen (CTs d) Q (0, [(0, .ref 0), (1, .int a1), (2, .int a2)], []) σ := wp_cut (ms_mono y_SS_valueThen) (cts_cm d) (fun x => false) (fun _ _ => false) 23 h
theorem e_SS_valueThen {d : Nat} {Q : Po} {σ : Hp}  {a1 : Int32} {a2 : Int32}  (h : WP c_SS_valueThen (CTs d) Q (0, [(0, .ref 0), (1, .int a1), (2, .int a2)], []) σ) : CTs (d + 1) y_SS_valueThen [.ref 0, .int a1, .int a2] σ Q := h
set_option maxRecDepth 20000 in
theorem t_SS_sameStores_0 {d : Nat} {Q : Po} {σ : Hp}  {a1 : Int32} {a2 : Int32}  (h : WP c_SS_sameStores (CTs d) Q (2, [(0, .ref 0), (1, .int a1), (2, .int a2), (3, .int (0 : Int32))], []) σ) : WP c_SS_sameStores (CTs d) Q (0, [(0, .ref 0), (1, .int a1), (2, .int a2)], []) σ := wp_cut (ms_mono y_SS_sameStores) (cts_cm d) (fun x => Nat.beq x 2) (fun x i => (cond (Nat.beq x 2) (Nat.beq i 0 || Nat.beq i 1 || Nat.beq i 2 || Nat.beq i 3) false)) 5 h
set_option maxRecDepth 20000 in
theorem t_SS_sameStores_2 {d : Nat} {Q : Po} {σ : Hp}  {v1 : Int32} {v2 : Int32} {v3 : Int32}  (h : (if (σ.1 3 0) ≤ v3 then 
    (vb (1 : Int32) ∧ Q (some (.int (1 : Int32))) σ)
    else 
    (vp_in v3 16 ∧ ((if (σ.1 4 (v3).toNatClampNeg) = (1 : Int32) then 
      (vp_in ((v1 * (16 : Int32)) + v3) 976 ∧ (vp_in ((v2 * (16 : Int32)) + v3) 976 ∧ ((if (σ.1 79 ((v1 * (16 : Int32)) + v3).toNatClampNeg) = (σ.1 79 ((v2 * (16 : Int32)) + v3).toNatClampNeg) then 
        (WP c_SS_sameStores (CTs d) Q (2, [(0, .ref 0), (1, .int v1), (2, .int v2), (3, .int (v3 + (1 : Int32)))], []) σ)
        else 
        (vb (0 : Int32) ∧ Q (some (.int (0 : Int32))) σ)))))
      else 
      (WP c_SS_sameStores (CTs d) Q (2, [(0, .ref 0), (1, .int v1), (2, .int v2), (3, .int (v3 + (1 : Int32)))], []) σ)))))) : WP c_SS_sameStores (CTs d) Q (2, [(0, .ref 0), (1, .int v1), (2, .int v2), (3, .int v3)], []) σ := wp_cut (ms_mono y_SS_sameStores) (cts_cm d) (fun x => Nat.beq x 2) (fun x i => (cond (Nat.beq x 2) (Nat.beq i 0 || Nat.beq i 1 || Nat.beq i 2 || Nat.beq i 3) false)) 41 h
theorem e_SS_sameStores {d : Nat} {Q : Po} {σ : Hp}  {a1 : Int32} {a2 : Int32}  (h : WP c_SS_sameStores (CTs d) Q (0, [(0, .ref 0), (1, .int a1), (2, .int a2)], []) σ) : CTs (d + 1) y_SS_sameStores [.ref 0, .int a1, .int a2] σ Q := h
set_option maxRecDepth 20000 in
theorem t_SS_valueBehind_0 {d : Nat} {Q : Po} {σ : Hp}  {a1 : Int32} {a2 : Int32} {a3 : Int32} {a4 : Int32}  (h : CTs d y_Wo_take [.ref 56, .ref 45] σ (fun _ σ1 => 
    CTs d y_Wo_hold [.ref 56, .ref 3, .int a1, .int a2] σ1 (fun _ σ2 => 
      WP c_SS_valueBehind (CTs d) Q (27, [(0, .ref 0), (3, .int a3), (4, .int a4), (5, .int (0 : Int32))], []) σ2))) : WP c_SS_valueBehind (CTs d) Q (0, [(0, .ref 0), (1, .int a1), (2, .int a2), (3, .int a3), (4, .int a4)], []) σ := wp_cut (ms_mono y_SS_valueBehind) (cts_cm d) (fun x => Nat.beq x 27) (fun x i => (cond (Nat.beq x 27) (Nat.beq i 0 || Nat.beq i 3 || Nat.beq i 4 || Nat.beq i 5) false)) 17 h
set_option maxRecDepth 20000 in
theorem t_SS_valueBehind_27 {d : Nat} {Q : Po} {σ : Hp}  {v3 : Int32} {v4 : Int32} {v5 : Int32}  (h : (if v4 ≤ v5 then 
    (vp_in v3 16 ∧ (Q (some (.int (σ.1 61 (v3).toNatClampNeg))) σ))
    else 
    (CTs d y_Wo_advance [.ref 56, .ref 3] σ (fun r1 σ1 => 
      WP c_SS_valueBehind (CTs d) Q (27, [(0, .ref 0), (3, .int v3), (4, .int v4), (5, .int (v5 + (1 : Int32)))], []) σ1)))) : WP c_SS_valueBehind (CTs d) Q (27, [(0, .ref 0), (3, .int v3), (4, .int v4), (5, .int v5)], []) σ := wp_cut (ms_mono y_SS_valueBehind) (cts_cm d) (fun x => Nat.beq x 27) (fun x i => (cond (Nat.beq x 27) (Nat.beq i 0 || Nat.beq i 3 || Nat.beq i 4 || Nat.beq i 5) false)) 20 h
theorem e_SS_valueBehind {d : Nat} {Q : Po} {σ : Hp}  {a1 : Int32} {a2 : Int32} {a3 : Int32} {a4 : Int32}  (h : WP c_SS_valueBehind (CTs d) Q (0, [(0, .ref 0), (1, .int a1), (2, .int a2), (3, .int a3), (4, .int a4)], []) σ) : CTs (d + 1) y_SS_valueBehind [.ref 0, .int a1, .int a2, .int a3, .int a4] σ Q := h
set_option maxRecDepth 20000 in
theorem t_SS_mayTry_0 {d : Nat} {Q : Po} {σ : Hp}  {a1 : Int32} {a2 : Int32} {a3 : Int32} {a4 : Int32}  (h : CTs d y_Tx_is [.ref 3, .int a1, .int (5 : Int32)] σ (fun r1 σ1 => 
    (if (oI r1) = 0 then 
      (vb (0 : Int32) ∧ Q (some (.int (0 : Int32))) σ1)
      else 
      (CTs d y_Tx_is [.ref 3, .int a4, .int (1 : Int32)] σ1 (fun r2 σ2 => 
        (if (oI r2) = 0 then 
          (vb (0 : Int32) ∧ Q (some (.int (0 : Int32))) σ2)
          else 
          ((if (lg_cmp ((a3).toInt64 - (a2).toInt64) (0 : Int64)) < 0 then 
            (vb (0 : Int32) ∧ Q (some (.int (0 : Int32))) σ2)
            else 
            ((if 0 < (lg_cmp ((a3).toInt64 - (a2).toInt64) (20 : Int64)) then 
              (vb (0 : Int32) ∧ Q (some (.int (0 : Int32))) σ2)
              else 
              (vb (1 : Int32) ∧ Q (some (.int (1 : Int32))) σ2))))))))))) : WP c_SS_mayTry (CTs d) Q (0, [(0, .ref 0), (1, .int a1), (2, .int a2), (3, .int a3), (4, .int a4)], []) σ := wp_cut (ms_mono y_SS_mayTry) (cts_cm d) (fun x => false) (fun _ _ => false) 39 h
theorem e_SS_mayTry {d : Nat} {Q : Po} {σ : Hp}  {a1 : Int32} {a2 : Int32} {a3 : Int32} {a4 : Int32}  (h : WP c_SS_mayTry (CTs d) Q (0, [(0, .ref 0), (1, .int a1), (2, .int a2), (3, .int a3), (4, .int a4)], []) σ) : CTs (d + 1) y_SS_mayTry [.ref 0, .int a1, .int a2, .int a3, .int a4] σ Q := h
set_option maxRecDepth 20000 in
theorem t_SS_missWith_0 {d : Nat} {Q : Po} {σ : Hp}  {a1 : Int32} {a2 : Int32} {a3 : Int32} {a4 : Int32}  (h : CTs d y_Wo_take [.ref 56, .ref 45] σ (fun _ σ1 => 
    CTs d y_Wo_restart [.ref 56, .ref 3] σ1 (fun _ σ2 => 
      (if a1 = (-1 : Int32) then 
        (WP c_SS_missWith (CTs d) Q (46, [(0, .ref 0), (3, .int a3), (4, .int a4), (5, .long (0 : Int64)), (7, .int (0 : Int32))], []) σ2)
        else 
        (CTs d y_Wo_hold [.ref 56, .ref 3, .int a1, .int a2] σ2 (fun _ σ3 => 
          WP c_SS_missWith (CTs d) Q (46, [(0, .ref 0), (3, .int a3), (4, .int a4), (5, .long (0 : Int64)), (7, .int (0 : Int32))], []) σ3)))))) : WP c_SS_missWith (CTs d) Q (0, [(0, .ref 0), (1, .int a1), (2, .int a2), (3, .int a3), (4, .int a4)], []) σ := wp_cut (ms_mono y_SS_missWith) (cts_cm d) (fun x => Nat.beq x 46) (fun x i => (cond (Nat.beq x 46) (Nat.beq i 0 || Nat.beq i 3 || Nat.beq i 4 || Nat.beq i 5 || Nat.beq i 7) false)) 32 h
set_option maxRecDepth 20000 in
theorem t_SS_missWith_46 {d : Nat} {Q : Po} {σ : Hp}  {v3 : Int32} {v4 : Int32} {v5 : Int64} {v7 : Int32}  (h : vp_in v4 4 ∧ ((if (σ.1 83 (v4).toNatClampNeg) ≤ v7 then 
    (Q (some (.long v5)) σ)
    else 
    ((if v7 ≤ 0 then 
      (vp_in ((v4 * (40 : Int32)) + v7) 160 ∧ ((if (σ.1 84 ((v4 * (40 : Int32)) + v7).toNatClampNeg) < 0 then 
        (WP c_SS_missWith (CTs d) Q (46, [(0, .ref 0), (3, .int v3), (4, .int v4), (5, .long v5), (7, .int (v7 + (1 : Int32)))], []) σ)
        else 
        (vp_in v3 16 ∧ (WP c_SS_missWith (CTs d) Q (46, [(0, .ref 0), (3, .int v3), (4, .int v4), (5, .long (v5 + (if 0 < (((σ.1 84 ((v4 * (40 : Int32)) + v7).toNatClampNeg)).toInt64 - ((σ.1 60 (v3).toNatClampNeg)).toInt64) then (((σ.1 84 ((v4 * (40 : Int32)) + v7).toNatClampNeg)).toInt64 - ((σ.1 60 (v3).toNatClampNeg)).toInt64) else -(((σ.1 84 ((v4 * (40 : Int32)) + v7).toNatClampNeg)).toInt64 - ((σ.1 60 (v3).toNatClampNeg)).toInt64)))), (7, .int (v7 + (1 : Int32)))], []) σ)))))
      else 
      (CTs d y_Wo_advance [.ref 56, .ref 3] σ (fun r1 σ1 => 
        vp_in ((v4 * (40 : Int32)) + v7) 160 ∧ ((if (σ1.1 84 ((v4 * (40 : Int32)) + v7).toNatClampNeg) < 0 then 
          (WP c_SS_missWith (CTs d) Q (46, [(0, .ref 0), (3, .int v3), (4, .int v4), (5, .long v5), (7, .int (v7 + (1 : Int32)))], []) σ1)
          else 
          (vp_in v3 16 ∧ (WP c_SS_missWith (CTs d) Q (46, [(0, .ref 0), (3, .int v3), (4, .int v4), (5, .long (v5 + (if 0 < (((σ1.1 84 ((v4 * (40 : Int32)) + v7).toNatClampNeg)).toInt64 - ((σ1.1 60 (v3).toNatClampNeg)).toInt64) then (((σ1.1 84 ((v4 * (40 : Int32)) + v7).toNatClampNeg)).toInt64 - ((σ1.1 60 (v3).toNatClampNeg)).toInt64) else -(((σ1.1 84 ((v4 * (40 : Int32)) + v7).toNatClampNeg)).toInt64 - ((σ1.1 60 (v3).toNatClampNeg)).toInt64)))), (7, .int (v7 + (1 : Int32)))], []) σ1))))))))))) : WP c_SS_missWith (CTs d) Q (46, [(0, .ref 0), (3, .int v3), (4, .int v4), (5, .long v5), (7, .int v7)], []) σ := wp_cut (ms_mono y_SS_missWith) (cts_cm d) (fun x => Nat.beq x 46) (fun x i => (cond (Nat.beq x 46) (Nat.beq i 0 || Nat.beq i 3 || Nat.beq i 4 || Nat.beq i 5 || Nat.beq i 7) false)) 78 h
theorem e_SS_missWith {d : Nat} {Q : Po} {σ : Hp}  {a1 : Int32} {a2 : Int32} {a3 : Int32} {a4 : Int32}  (h : WP c_SS_missWith (CTs d) Q (0, [(0, .ref 0), (1, .int a1), (2, .int a2), (3, .int a3), (4, .int a4)], []) σ) : CTs (d + 1) y_SS_missWith [.ref 0, .int a1, .int a2, .int a3, .int a4] σ Q := h
set_option maxRecDepth 20000 in
theorem t_SS_isRow_0 {d : Nat} {Q : Po} {σ : Hp}  {a1 : Int32} {a2 : Int32}  (h : (if a1 < 0 then 
    (vb (0 : Int32) ∧ Q (some (.int (0 : Int32))) σ)
    else 
    ((if (σ.1 0 10) ≤ a1 then 
      (vb (0 : Int32) ∧ Q (some (.int (0 : Int32))) σ)
      else 
      ((if a2 = 0 then 
        (vb (1 : Int32) ∧ Q (some (.int (1 : Int32))) σ)
        else 
        ((if a2 = (1 : Int32) then 
          (vb (1 : Int32) ∧ Q (some (.int (1 : Int32))) σ)
          else 
          (vb (0 : Int32) ∧ Q (some (.int (0 : Int32))) σ))))))))) : WP c_SS_isRow (CTs d) Q (0, [(0, .ref 0), (1, .int a1), (2, .int a2)], []) σ := wp_cut (ms_mono y_SS_isRow) (cts_cm d) (fun x => false) (fun _ _ => false) 25 h
theorem e_SS_isRow {d : Nat} {Q : Po} {σ : Hp}  {a1 : Int32} {a2 : Int32}  (h : WP c_SS_isRow (CTs d) Q (0, [(0, .ref 0), (1, .int a1), (2, .int a2)], []) σ) : CTs (d + 1) y_SS_isRow [.ref 0, .int a1, .int a2] σ Q := h
set_option maxRecDepth 20000 in
theorem t_SS_isSheet_0 {d : Nat} {Q : Po} {σ : Hp}  {a1 : Int32}  (h : (if a1 < 0 then 
    (vb (0 : Int32) ∧ Q (some (.int (0 : Int32))) σ)
    else 
    ((if (4 : Int32) ≤ a1 then 
      (vb (0 : Int32) ∧ Q (some (.int (0 : Int32))) σ)
      else 
      (vb (1 : Int32) ∧ Q (some (.int (1 : Int32))) σ))))) : WP c_SS_isSheet (CTs d) Q (0, [(0, .ref 0), (1, .int a1)], []) σ := wp_cut (ms_mono y_SS_isSheet) (cts_cm d) (fun x => false) (fun _ _ => false) 14 h
theorem e_SS_isSheet {d : Nat} {Q : Po} {σ : Hp}  {a1 : Int32}  (h : WP c_SS_isSheet (CTs d) Q (0, [(0, .ref 0), (1, .int a1)], []) σ) : CTs (d + 1) y_SS_isSheet [.ref 0, .int a1] σ Q := h
set_option maxRecDepth 20000 in
theorem t_SS_isMissing_0 {d : Nat} {Q : Po} {σ : Hp}  {a1 : Int32}  (h : vp_in a1 4 ∧ ((if (σ.1 82 (a1).toNatClampNeg) = (-1 : Int32) then 
    (vb (1 : Int32) ∧ Q (some (.int (1 : Int32))) σ)
    else 
    (vb (0 : Int32) ∧ Q (some (.int (0 : Int32))) σ)))) : WP c_SS_isMissing (CTs d) Q (0, [(0, .ref 0), (1, .int a1)], []) σ := wp_cut (ms_mono y_SS_isMissing) (cts_cm d) (fun x => false) (fun _ _ => false) 13 h
theorem e_SS_isMissing {d : Nat} {Q : Po} {σ : Hp}  {a1 : Int32}  (h : WP c_SS_isMissing (CTs d) Q (0, [(0, .ref 0), (1, .int a1)], []) σ) : CTs (d + 1) y_SS_isMissing [.ref 0, .int a1] σ Q := h
set_option maxRecDepth 20000 in
theorem t_SS_mayBe_0 {d : Nat} {Q : Po} {σ : Hp}  {a1 : Int32} {a2 : Int32}  (h : CTs d y_SS_isMissing [.ref 0, .int a1] σ (fun r1 σ1 => 
    (if (oI r1) = 0 then 
      (vp_in a1 4 ∧ ((if (σ1.1 82 (a1).toNatClampNeg) = a2 then 
        (vb (1 : Int32) ∧ Q (some (.int (1 : Int32))) σ1)
        else 
        (vb (0 : Int32) ∧ Q (some (.int (0 : Int32))) σ1))))
      else 
      (vb (1 : Int32) ∧ Q (some (.int (1 : Int32))) σ1)))) : WP c_SS_mayBe (CTs d) Q (0, [(0, .ref 0), (1, .int a1), (2, .int a2)], []) σ := wp_cut (ms_mono y_SS_mayBe) (cts_cm d) (fun x => false) (fun _ _ => false) 20 h
theorem e_SS_mayBe {d : Nat} {Q : Po} {σ : Hp}  {a1 : Int32} {a2 : Int32}  (h : WP c_SS_mayBe (CTs d) Q (0, [(0, .ref 0), (1, .int a1), (2, .int a2)], []) σ) : CTs (d + 1) y_SS_mayBe [.ref 0, .int a1, .int a2] σ Q := h
set_option maxRecDepth 20000 in
theorem t_SS_narrowed_0 {d : Nat} {Q : Po} {σ : Hp}  {a0 : Int32} {a1 : Int32}  (h : (if a1 = 0 then 
    (Q (some (.int (a0.toInt8.toInt32))) σ)
    else 
    ((if a1 = (1 : Int32) then 
      (Q (some (.int (a0.toInt16.toInt32))) σ)
      else 
      (Q (some (.int a0)) σ))))) : WP c_SS_narrowed (CTs d) Q (0, [(0, .int a0), (1, .int a1)], []) σ := wp_cut (ms_mono y_SS_narrowed) (cts_cm d) (fun x => false) (fun _ _ => false) 16 h
theorem e_SS_narrowed {d : Nat} {Q : Po} {σ : Hp}  {a0 : Int32} {a1 : Int32}  (h : WP c_SS_narrowed (CTs d) Q (0, [(0, .int a0), (1, .int a1)], []) σ) : CTs (d + 1) y_SS_narrowed [.int a0, .int a1] σ Q := h
set_option maxRecDepth 20000 in
theorem t_SS_isShelf_0 {d : Nat} {Q : Po} {σ : Hp}  {a1 : Int32}  (h : (if a1 < 0 then 
    (vb (0 : Int32) ∧ Q (some (.int (0 : Int32))) σ)
    else 
    ((if (4 : Int32) ≤ a1 then 
      (vb (0 : Int32) ∧ Q (some (.int (0 : Int32))) σ)
      else 
      (vb (1 : Int32) ∧ Q (some (.int (1 : Int32))) σ))))) : WP c_SS_isShelf (CTs d) Q (0, [(0, .ref 0), (1, .int a1)], []) σ := wp_cut (ms_mono y_SS_isShelf) (cts_cm d) (fun x => false) (fun _ _ => false) 14 h
theorem e_SS_isShelf {d : Nat} {Q : Po} {σ : Hp}  {a1 : Int32}  (h : WP c_SS_isShelf (CTs d) Q (0, [(0, .ref 0), (1, .int a1)], []) σ) : CTs (d + 1) y_SS_isShelf [.ref 0, .int a1] σ Q := h
set_option maxRecDepth 20000 in
theorem t_SS_lay_0 {d : Nat} {Q : Po} {σ : Hp}  {a1 : Int32} {a2 : Int32} {a3 : Int32} {a4 : Int32}  (h : vp_in a1 4 ∧ (vp_in a1 4 ∧ (vp_in a1 4 ∧ (Q (some (.int (1 : Int32))) (sI (sI (sI σ 85 (a1).toNatClampNeg a2) 86 (a1).toNatClampNeg a3) 87 (a1).toNatClampNeg a4))))) : WP c_SS_lay (CTs d) Q (0, [(0, .ref 0), (1, .int a1), (2, .int a2), (3, .int a3), (4, .int a4)], []) σ := wp_cut (ms_mono y_SS_lay) (cts_cm d) (fun x => false) (fun _ _ => false) 19 h
theorem e_SS_lay {d : Nat} {Q : Po} {σ : Hp}  {a1 : Int32} {a2 : Int32} {a3 : Int32} {a4 : Int32}  (h : WP c_SS_lay (CTs d) Q (0, [(0, .ref 0), (1, .int a1), (2, .int a2), (3, .int a3), (4, .int a4)], []) σ) : CTs (d + 1) y_SS_lay [.ref 0, .int a1, .int a2, .int a3, .int a4] σ Q := h
set_option maxRecDepth 20000 in
theorem t_SS_layRow_0 {d : Nat} {Q : Po} {σ : Hp}  {a1 : Int32} {a2 : Int32}  (h : CTs d y_SS_isMissing [.ref 0, .int a2] σ (fun r1 σ1 => 
    (if (oI r1) = 0 then 
      (vp_in a2 4 ∧ (vp_in a2 4 ∧ (CTs d y_SS_lay [.ref 0, .int a1, .int (2 : Int32), .int (σ1.1 82 (a2).toNatClampNeg), .int (σ1.1 83 (a2).toNatClampNeg)] σ1 (fun r2 σ2 => 
        Q (some (.int (oI r2))) σ2))))
      else 
      (CTs d y_SS_lay [.ref 0, .int a1, .int (0 : Int32), .int (0 : Int32), .int (0 : Int32)] σ1 (fun r3 σ3 => 
        Q (some (.int (oI r3))) σ3))))) : WP c_SS_layRow (CTs d) Q (0, [(0, .ref 0), (1, .int a1), (2, .int a2)], []) σ := wp_cut (ms_mono y_SS_layRow) (cts_cm d) (fun x => false) (fun _ _ => false) 26 h
theorem e_SS_layRow {d : Nat} {Q : Po} {σ : Hp}  {a1 : Int32} {a2 : Int32}  (h : WP c_SS_layRow (CTs d) Q (0, [(0, .ref 0), (1, .int a1), (2, .int a2)], []) σ) : CTs (d + 1) y_SS_layRow [.ref 0, .int a1, .int a2] σ Q := h
set_option maxRecDepth 20000 in
theorem t_SS_thingOn_0 {d : Nat} {Q : Po} {σ : Hp}  {a1 : Int32}  (h : vp_in a1 4 ∧ ((if (σ.1 85 (a1).toNatClampNeg) = (1 : Int32) then 
    (vp_in a1 4 ∧ (CTs d y_Tx_has [.ref 3, .int (σ.1 86 (a1).toNatClampNeg)] σ (fun r1 σ1 => 
      (if (oI r1) = 0 then 
        ((if (0 : Int32) = 0 then 
          (Q (some (.int (-1 : Int32))) σ1)
          else 
          (vp_in a1 4 ∧ (Q (some (.int (σ1.1 86 (a1).toNatClampNeg))) σ1))))
        else 
        ((if (1 : Int32) = 0 then 
          (Q (some (.int (-1 : Int32))) σ1)
          else 
          (vp_in a1 4 ∧ (Q (some (.int (σ1.1 86 (a1).toNatClampNeg))) σ1))))))))
    else 
    ((if (0 : Int32) = 0 then 
      (Q (some (.int (-1 : Int32))) σ)
      else 
      (vp_in a1 4 ∧ (Q (some (.int (σ.1 86 (a1).toNatClampNeg))) σ))))))) : WP c_SS_thingOn (CTs d) Q (0, [(0, .ref 0), (1, .int a1)], []) σ := wp_cut (ms_mono y_SS_thingOn) (cts_cm d) (fun x => false) (fun _ _ => false) 53 h
theorem e_SS_thingOn {d : Nat} {Q : Po} {σ : Hp}  {a1 : Int32}  (h : WP c_SS_thingOn (CTs d) Q (0, [(0, .ref 0), (1, .int a1)], []) σ) : CTs (d + 1) y_SS_thingOn [.ref 0, .int a1] σ Q := h
set_option maxRecDepth 20000 in
theorem t_SS_isUnder_0 {d : Nat} {Q : Po} {σ : Hp}  {a0 : Int32} {a1 : Int32}  (h : WP c_SS_isUnder (CTs d) Q (4, [(1, .int a1), (2, .int a0), (3, .int (0 : Int32))], []) σ) : WP c_SS_isUnder (CTs d) Q (0, [(0, .int a0), (1, .int a1)], []) σ := wp_cut (ms_mono y_SS_isUnder) (cts_cm d) (fun x => Nat.beq x 4) (fun x i => (cond (Nat.beq x 4) (Nat.beq i 1 || Nat.beq i 2 || Nat.beq i 3) false)) 7 h
set_option maxRecDepth 20000 in
theorem t_SS_isUnder_4 {d : Nat} {Q : Po} {σ : Hp}  {v1 : Int32} {v2 : Int32} {v3 : Int32}  (h : (if (7 : Int32) ≤ v3 then 
    (vb (0 : Int32) ∧ Q (some (.int (0 : Int32))) σ)
    else 
    ((if v2 = v1 then 
      (vb (1 : Int32) ∧ Q (some (.int (1 : Int32))) σ)
      else 
      (vp_in v2 7 ∧ (WP c_SS_isUnder (CTs d) Q (4, [(1, .int v1), (2, .int (tv 129 (v2).toNatClampNeg)), (3, .int (v3 + (1 : Int32)))], []) σ)))))) : WP c_SS_isUnder (CTs d) Q (4, [(1, .int v1), (2, .int v2), (3, .int v3)], []) σ := wp_cut (ms_mono y_SS_isUnder) (cts_cm d) (fun x => Nat.beq x 4) (fun x i => (cond (Nat.beq x 4) (Nat.beq i 1 || Nat.beq i 2 || Nat.beq i 3) false)) 19 h
theorem e_SS_isUnder {d : Nat} {Q : Po} {σ : Hp}  {a0 : Int32} {a1 : Int32}  (h : WP c_SS_isUnder (CTs d) Q (0, [(0, .int a0), (1, .int a1)], []) σ) : CTs (d + 1) y_SS_isUnder [.int a0, .int a1] σ Q := h
set_option maxRecDepth 20000 in
theorem t_M_in_0 {d : Nat} {Q : Po} {σ : Hp}  {a0 : Int32} {a1 : Int32} {a2 : Int32}  (h : (if a0 < a1 then 
    (vb (0 : Int32) ∧ Q (some (.int (0 : Int32))) σ)
    else 
    ((if a2 < a0 then 
      (vb (0 : Int32) ∧ Q (some (.int (0 : Int32))) σ)
      else 
      (vb (1 : Int32) ∧ Q (some (.int (1 : Int32))) σ))))) : WP c_M_in (CTs d) Q (0, [(0, .int a0), (1, .int a1), (2, .int a2)], []) σ := wp_cut (ms_mono y_M_in) (cts_cm d) (fun x => false) (fun _ _ => false) 15 h
theorem e_M_in {d : Nat} {Q : Po} {σ : Hp}  {a0 : Int32} {a1 : Int32} {a2 : Int32}  (h : WP c_M_in (CTs d) Q (0, [(0, .int a0), (1, .int a1), (2, .int a2)], []) σ) : CTs (d + 1) y_M_in [.int a0, .int a1, .int a2] σ Q := h
set_option maxRecDepth 20000 in
theorem t_M_isThing_0 {d : Nat} {Q : Po} {σ : Hp}  {a1 : Int32}  (h : CTs d y_M_in [.int a1, .int (0 : Int32), .int ((σ.1 98 0) - (1 : Int32))] σ (fun r1 σ1 => 
    vb (oI r1) ∧ Q (some (.int (oI r1))) σ1)) : WP c_M_isThing (CTs d) Q (0, [(0, .ref 98), (1, .int a1)], []) σ := wp_cut (ms_mono y_M_isThing) (cts_cm d) (fun x => false) (fun _ _ => false) 10 h
theorem e_M_isThing {d : Nat} {Q : Po} {σ : Hp}  {a1 : Int32}  (h : WP c_M_isThing (CTs d) Q (0, [(0, .ref 98), (1, .int a1)], []) σ) : CTs (d + 1) y_M_isThing [.ref 98, .int a1] σ Q := h
set_option maxRecDepth 20000 in
theorem t_M_of_0 {d : Nat} {Q : Po} {σ : Hp}  {a1 : Int32} {a2 : Int32}  (h : vp_in (((20 : Int32) * a1) + a2) 320 ∧ (Q (some (.int (σ.1 99 (((20 : Int32) * a1) + a2).toNatClampNeg))) σ)) : WP c_M_of (CTs d) Q (0, [(0, .ref 98), (1, .int a1), (2, .int a2)], []) σ := wp_cut (ms_mono y_M_of) (cts_cm d) (fun x => false) (fun _ _ => false) 11 h
theorem e_M_of {d : Nat} {Q : Po} {σ : Hp}  {a1 : Int32} {a2 : Int32}  (h : WP c_M_of (CTs d) Q (0, [(0, .ref 98), (1, .int a1), (2, .int a2)], []) σ) : CTs (d + 1) y_M_of [.ref 98, .int a1, .int a2] σ Q := h
set_option maxRecDepth 20000 in
theorem t_M_isKind_0 {d : Nat} {Q : Po} {σ : Hp}  {a1 : Int32} {a2 : Int32}  (h : CTs d y_M_isThing [.ref 98, .int a1] σ (fun r1 σ1 => 
    (if (oI r1) = 0 then 
      (vb (0 : Int32) ∧ Q (some (.int (0 : Int32))) σ1)
      else 
      (CTs d y_M_isThing [.ref 98, .int a1] σ1 (fun r2 σ2 => 
        (if (oI r2) = 0 then 
          (vp_in ((20 : Int32) * (0 : Int32)) 320 ∧ ((if (σ2.1 99 ((20 : Int32) * (0 : Int32)).toNatClampNeg) = a2 then 
            (vb (1 : Int32) ∧ Q (some (.int (1 : Int32))) σ2)
            else 
            (vb (0 : Int32) ∧ Q (some (.int (0 : Int32))) σ2))))
          else 
          (vp_in ((20 : Int32) * a1) 320 ∧ ((if (σ2.1 99 ((20 : Int32) * a1).toNatClampNeg) = a2 then 
            (vb (1 : Int32) ∧ Q (some (.int (1 : Int32))) σ2)
            else 
            (vb (0 : Int32) ∧ Q (some (.int (0 : Int32))) σ2)))))))))) : WP c_M_isKind (CTs d) Q (0, [(0, .ref 98), (1, .int a1), (2, .int a2)], []) σ := wp_cut (ms_mono y_M_isKind) (cts_cm d) (fun x => false) (fun _ _ => false) 36 h
theorem e_M_isKind {d : Nat} {Q : Po} {σ : Hp}  {a1 : Int32} {a2 : Int32}  (h : WP c_M_isKind (CTs d) Q (0, [(0, .ref 98), (1, .int a1), (2, .int a2)], []) σ) : CTs (d + 1) y_M_isKind [.ref 98, .int a1, .int a2] σ Q := h
set_option maxRecDepth 20000 in
theorem t_M_feed_0 {d : Nat} {Q : Po} {σ : Hp}  {a1 : Int64} {a3 : Int32}  (h : CTs d y_M_in [.int a3, .int (1 : Int32), .int (8 : Int32)] σ (fun r1 σ1 => 
    (if (oI r1) = 0 then 
      (Q (some (.int (-1 : Int32))) σ1)
      else 
      ((if ((σ1.1 98 4) + a3) ≤ (300 : Int32) then 
        (WP c_M_feed (CTs d) Q (30, [(0, .ref 98), (1, .long a1), (3, .int a3), (4, .int (0 : Int32))], []) σ1)
        else 
        (Q (some (.int (-2 : Int32))) σ1)))))) : WP c_M_feed (CTs d) Q (0, [(0, .ref 98), (1, .long a1), (3, .int a3)], []) σ := wp_cut (ms_mono y_M_feed) (cts_cm d) (fun x => Nat.beq x 30) (fun x i => (cond (Nat.beq x 30) (Nat.beq i 0 || Nat.beq i 1 || Nat.beq i 3 || Nat.beq i 4) false)) 20 h
set_option maxRecDepth 20000 in
theorem t_M_feed_30 {d : Nat} {Q : Po} {σ : Hp}  {v1 : Int64} {v3 : Int32} {v4 : Int32}  (h : (if v3 ≤ v4 then 
    (Q (some (.int (σ.1 98 4))) σ)
    else 
    (vp_in (σ.1 98 4) 300 ∧ (WP c_M_feed (CTs d) Q (30, [(0, .ref 98), (1, .long v1), (3, .int v3), (4, .int (v4 + (1 : Int32)))], []) (sI (sI σ 101 (σ.1 98 4).toNatClampNeg (((v1 >>> (((8 : Int32) * v4).toInt64 &&& 63)) &&& (255 : Int64))).toInt32) 98 4 ((σ.1 98 4) + (1 : Int32))))))) : WP c_M_feed (CTs d) Q (30, [(0, .ref 98), (1, .long v1), (3, .int v3), (4, .int v4)], []) σ := wp_cut (ms_mono y_M_feed) (cts_cm d) (fun x => Nat.beq x 30) (fun x i => (cond (Nat.beq x 30) (Nat.beq i 0 || Nat.beq i 1 || Nat.beq i 3 || Nat.beq i 4) false)) 30 h
theorem e_M_feed {d : Nat} {Q : Po} {σ : Hp}  {a1 : Int64} {a3 : Int32}  (h : WP c_M_feed (CTs d) Q (0, [(0, .ref 98), (1, .long a1), (3, .int a3)], []) σ) : CTs (d + 1) y_M_feed [.ref 98, .long a1, .int a3] σ Q := h
set_option maxRecDepth 20000 in
theorem t_M_byteAt_0 {d : Nat} {Q : Po} {σ : Hp}  {a1 : Int32}  (h : (if (σ.1 98 4) ≤ a1 then 
    (Q (some (.int (-1 : Int32))) σ)
    else 
    (vp_in a1 300 ∧ (Q (some (.int (σ.1 101 (a1).toNatClampNeg))) σ)))) : WP c_M_byteAt (CTs d) Q (0, [(0, .ref 98), (1, .int a1)], []) σ := wp_cut (ms_mono y_M_byteAt) (cts_cm d) (fun x => false) (fun _ _ => false) 14 h
theorem e_M_byteAt {d : Nat} {Q : Po} {σ : Hp}  {a1 : Int32}  (h : WP c_M_byteAt (CTs d) Q (0, [(0, .ref 98), (1, .int a1)], []) σ) : CTs (d + 1) y_M_byteAt [.ref 98, .int a1] σ Q := h
set_option maxRecDepth 20000 in
theorem t_M_isLetter_0 {d : Nat} {Q : Po} {σ : Hp}  {a0 : Int32}  (h : CTs d y_M_in [.int a0, .int (97 : Int32), .int (122 : Int32)] σ (fun r1 σ1 => 
    vb (oI r1) ∧ Q (some (.int (oI r1))) σ1)) : WP c_M_isLetter (CTs d) Q (0, [(0, .int a0)], []) σ := wp_cut (ms_mono y_M_isLetter) (cts_cm d) (fun x => false) (fun _ _ => false) 7 h
theorem e_M_isLetter {d : Nat} {Q : Po} {σ : Hp}  {a0 : Int32}  (h : WP c_M_isLetter (CTs d) Q (0, [(0, .int a0)], []) σ) : CTs (d + 1) y_M_isLetter [.int a0] σ Q := h
set_option maxRecDepth 20000 in
theorem t_M_isDigit_0 {d : Nat} {Q : Po} {σ : Hp}  {a0 : Int32}  (h : CTs d y_M_in [.int a0, .int (48 : Int32), .int (57 : Int32)] σ (fun r1 σ1 => 
    vb (oI r1) ∧ Q (some (.int (oI r1))) σ1)) : WP c_M_isDigit (CTs d) Q (0, [(0, .int a0)], []) σ := wp_cut (ms_mono y_M_isDigit) (cts_cm d) (fun x => false) (fun _ _ => false) 7 h
theorem e_M_isDigit {d : Nat} {Q : Po} {σ : Hp}  {a0 : Int32}  (h : WP c_M_isDigit (CTs d) Q (0, [(0, .int a0)], []) σ) : CTs (d + 1) y_M_isDigit [.int a0] σ Q := h
set_option maxRecDepth 20000 in
theorem t_M_advance_0 {d : Nat} {Q : Po} {σ : Hp}    (h : WP c_M_advance (CTs d) Q (8, [(0, .ref 98)], []) (sI σ 98 6 (σ.1 98 7))) : WP c_M_advance (CTs d) Q (0, [(0, .ref 98)], []) σ := wp_cut (ms_mono y_M_advance) (cts_cm d) (fun x => Nat.beq x 8 || Nat.beq x 126 || Nat.beq x 207) (fun x i => (cond (Nat.beq x 207) (Nat.beq i 0) (cond (Nat.beq x 126) (Nat.beq i 0) (cond (Nat.beq x 8) (Nat.beq i 0) false)))) 7 h
set_option maxRecDepth 20000 in
theorem t_M_advance_8 {d : Nat} {Q : Po} {σ : Hp}    (h : CTs d y_M_byteAt [.ref 98, .int (σ.1 98 6)] σ (fun r1 σ1 => 
    (if (oI r1) = (32 : Int32) then 
      (WP c_M_advance (CTs d) Q (8, [(0, .ref 98)], []) (sI σ1 98 6 ((σ1.1 98 6) + (1 : Int32))))
      else 
      (CTs d y_M_byteAt [.ref 98, .int (σ1.1 98 6)] (sI σ1 98 7 (σ1.1 98 6)) (fun r2 σ2 => 
        (if 0 ≤ (oI r2) then 
          (CTs d y_M_isLetter [.int (oI r2)] σ2 (fun r3 σ3 => 
            (if (oI r3) = 0 then 
              (CTs d y_M_isDigit [.int (oI r2)] σ3 (fun r4 σ4 => 
                (if (oI r4) = 0 then 
                  ((if (3 : Int32) = (2 : Int32) then 
                    ((if (3 : Int32) = (3 : Int32) then 
                      (WP c_M_advance (CTs d) Q (126, [(0, .ref 98)], []) (sI (sI (sL (sI σ4 98 5 (3 : Int32)) 98 8 (0 : Int64)) 98 9 (0 : Int32)) 98 7 ((σ4.1 98 7) + (1 : Int32))))
                      else 
                      (WP c_M_advance (CTs d) Q (126, [(0, .ref 98)], []) (sI (sL (sI σ4 98 5 (3 : Int32)) 98 8 (0 : Int64)) 98 9 (0 : Int32)))))
                    else 
                    ((if (3 : Int32) = (3 : Int32) then 
                      (WP c_M_advance (CTs d) Q (126, [(0, .ref 98)], []) (sI (sI (sL (sI σ4 98 5 (3 : Int32)) 98 8 (0 : Int64)) 98 9 (oI r2)) 98 7 ((σ4.1 98 7) + (1 : Int32))))
                      else 
                      (WP c_M_advance (CTs d) Q (126, [(0, .ref 98)], []) (sI (sL (sI σ4 98 5 (3 : Int32)) 98 8 (0 : Int64)) 98 9 (oI r2)))))))
                  else 
                  ((if (2 : Int32) = (2 : Int32) then 
                    ((if (2 : Int32) = (3 : Int32) then 
                      (WP c_M_advance (CTs d) Q (126, [(0, .ref 98)], []) (sI (sI (sL (sI σ4 98 5 (2 : Int32)) 98 8 (0 : Int64)) 98 9 (0 : Int32)) 98 7 ((σ4.1 98 7) + (1 : Int32))))
                      else 
                      (WP c_M_advance (CTs d) Q (126, [(0, .ref 98)], []) (sI (sL (sI σ4 98 5 (2 : Int32)) 98 8 (0 : Int64)) 98 9 (0 : Int32)))))
                    else 
                    ((if (2 : Int32) = (3 : Int32) then 
                      (WP c_M_advance (CTs d) Q (126, [(0, .ref 98)], []) (sI (sI (sL (sI σ4 98 5 (2 : Int32)) 98 8 (0 : Int64)) 98 9 (oI r2)) 98 7 ((σ4.1 98 7) + (1 : Int32))))
                      else 
                      (WP c_M_advance (CTs d) Q (126, [(0, .ref 98)], []) (sI (sL (sI σ4 98 5 (2 : Int32)) 98 8 (0 : Int64)) 98 9 (oI r2))))))))))
              else 
              ((if (1 : Int32) = (2 : Int32) then 
                ((if (1 : Int32) = (3 : Int32) then 
                  (WP c_M_advance (CTs d) Q (126, [(0, .ref 98)], []) (sI (sI (sL (sI σ3 98 5 (1 : Int32)) 98 8 (0 : Int64)) 98 9 (0 : Int32)) 98 7 ((σ3.1 98 7) + (1 : Int32))))
                  else 
                  (WP c_M_advance (CTs d) Q (126, [(0, .ref 98)], []) (sI (sL (sI σ3 98 5 (1 : Int32)) 98 8 (0 : Int64)) 98 9 (0 : Int32)))))
                else 
                ((if (1 : Int32) = (3 : Int32) then 
                  (WP c_M_advance (CTs d) Q (126, [(0, .ref 98)], []) (sI (sI (sL (sI σ3 98 5 (1 : Int32)) 98 8 (0 : Int64)) 98 9 (oI r2)) 98 7 ((σ3.1 98 7) + (1 : Int32))))
                  else 
                  (WP c_M_advance (CTs d) Q (126, [(0, .ref 98)], []) (sI (sL (sI σ3 98 5 (1 : Int32)) 98 8 (0 : Int64)) 98 9 (oI r2))))))))))
          else 
          ((if (0 : Int32) = (2 : Int32) then 
            ((if (0 : Int32) = (3 : Int32) then 
              (WP c_M_advance (CTs d) Q (126, [(0, .ref 98)], []) (sI (sI (sL (sI σ2 98 5 (0 : Int32)) 98 8 (0 : Int64)) 98 9 (0 : Int32)) 98 7 ((σ2.1 98 7) + (1 : Int32))))
              else 
              (WP c_M_advance (CTs d) Q (126, [(0, .ref 98)], []) (sI (sL (sI σ2 98 5 (0 : Int32)) 98 8 (0 : Int64)) 98 9 (0 : Int32)))))
            else 
            ((if (0 : Int32) = (3 : Int32) then 
              (WP c_M_advance (CTs d) Q (126, [(0, .ref 98)], []) (sI (sI (sL (sI σ2 98 5 (0 : Int32)) 98 8 (0 : Int64)) 98 9 (oI r2)) 98 7 ((σ2.1 98 7) + (1 : Int32))))
              else 
              (WP c_M_advance (CTs d) Q (126, [(0, .ref 98)], []) (sI (sL (sI σ2 98 5 (0 : Int32)) 98 8 (0 : Int64)) 98 9 (oI r2))))))))))))) : WP c_M_advance (CTs d) Q (8, [(0, .ref 98)], []) σ := wp_cut (ms_mono y_M_advance) (cts_cm d) (fun x => Nat.beq x 8 || Nat.beq x 126 || Nat.beq x 207) (fun x i => (cond (Nat.beq x 207) (Nat.beq i 0) (cond (Nat.beq x 126) (Nat.beq i 0) (cond (Nat.beq x 8) (Nat.beq i 0) false)))) 193 h
set_option maxRecDepth 20000 in
theorem t_M_advance_126 {d : Nat} {Q : Po} {σ : Hp}    (h : (if (σ.1 98 5) = (1 : Int32) then 
    (CTs d y_M_byteAt [.ref 98, .int (σ.1 98 7)] σ (fun r1 σ1 => 
      CTs d y_M_isLetter [.int (oI r1)] σ1 (fun r2 σ2 => 
        (if (oI r2) = 0 then 
          (WP c_M_advance (CTs d) Q (207, [(0, .ref 98)], []) σ2)
          else 
          ((if (6 : Int32) ≤ ((σ2.1 98 7) - (σ2.1 98 6)) then 
            (WP c_M_advance (CTs d) Q (126, [(0, .ref 98)], []) (sI (sL σ2 98 8 (-1 : Int64)) 98 7 ((σ2.1 98 7) + (1 : Int32))))
            else 
            (CTs d y_M_byteAt [.ref 98, .int (σ2.1 98 7)] σ2 (fun r3 σ3 => 
              WP c_M_advance (CTs d) Q (126, [(0, .ref 98)], []) (sI (sL σ3 98 8 ((((27 : Int64) * (σ2.2 98 8)) + ((oI r3)).toInt64) - (96 : Int64))) 98 7 ((σ3.1 98 7) + (1 : Int32)))))))))))
    else 
    (WP c_M_advance (CTs d) Q (207, [(0, .ref 98)], []) σ))) : WP c_M_advance (CTs d) Q (126, [(0, .ref 98)], []) σ := wp_cut (ms_mono y_M_advance) (cts_cm d) (fun x => Nat.beq x 8 || Nat.beq x 126 || Nat.beq x 207) (fun x i => (cond (Nat.beq x 207) (Nat.beq i 0) (cond (Nat.beq x 126) (Nat.beq i 0) (cond (Nat.beq x 8) (Nat.beq i 0) false)))) 54 h
set_option maxRecDepth 20000 in
theorem t_M_advance_207 {d : Nat} {Q : Po} {σ : Hp}    (h : (if (σ.1 98 5) = (2 : Int32) then 
    (CTs d y_M_byteAt [.ref 98, .int (σ.1 98 7)] σ (fun r1 σ1 => 
      CTs d y_M_isDigit [.int (oI r1)] σ1 (fun r2 σ2 => 
        (if (oI r2) = 0 then 
          (Q none σ2)
          else 
          ((if (5 : Int32) ≤ ((σ2.1 98 7) - (σ2.1 98 6)) then 
            (WP c_M_advance (CTs d) Q (207, [(0, .ref 98)], []) (sI (sI σ2 98 9 (-1 : Int32)) 98 7 ((σ2.1 98 7) + (1 : Int32))))
            else 
            (CTs d y_M_byteAt [.ref 98, .int (σ2.1 98 7)] σ2 (fun r3 σ3 => 
              WP c_M_advance (CTs d) Q (207, [(0, .ref 98)], []) (sI (sI σ3 98 9 ((((10 : Int32) * (σ2.1 98 9)) + (oI r3)) - (48 : Int32))) 98 7 ((σ3.1 98 7) + (1 : Int32)))))))))))
    else 
    (Q none σ))) : WP c_M_advance (CTs d) Q (207, [(0, .ref 98)], []) σ := wp_cut (ms_mono y_M_advance) (cts_cm d) (fun x => Nat.beq x 8 || Nat.beq x 126 || Nat.beq x 207) (fun x i => (cond (Nat.beq x 207) (Nat.beq i 0) (cond (Nat.beq x 126) (Nat.beq i 0) (cond (Nat.beq x 8) (Nat.beq i 0) false)))) 53 h
theorem e_M_advance {d : Nat} {Q : Po} {σ : Hp}    (h : WP c_M_advance (CTs d) Q (0, [(0, .ref 98)], []) σ) : CTs (d + 1) y_M_advance [.ref 98] σ Q := h
set_option maxRecDepth 20000 in
theorem t_M_isGood_0 {d : Nat} {Q : Po} {σ : Hp}    (h : (if (σ.1 98 10) = 0 then 
    (vb (1 : Int32) ∧ Q (some (.int (1 : Int32))) σ)
    else 
    (vb (0 : Int32) ∧ Q (some (.int (0 : Int32))) σ))) : WP c_M_isGood (CTs d) Q (0, [(0, .ref 98)], []) σ := wp_cut (ms_mono y_M_isGood) (cts_cm d) (fun x => false) (fun _ _ => false) 10 h
theorem e_M_isGood {d : Nat} {Q : Po} {σ : Hp}    (h : WP c_M_isGood (CTs d) Q (0, [(0, .ref 98)], []) σ) : CTs (d + 1) y_M_isGood [.ref 98] σ Q := h
set_option maxRecDepth 20000 in
theorem t_M_faults_0 {d : Nat} {Q : Po} {σ : Hp}  {a1 : Int32}  (h : CTs d y_M_isGood [.ref 98] σ (fun r1 σ1 => 
    (if (oI r1) = 0 then 
      (Q none σ1)
      else 
      (Q none (sI (sI σ1 98 10 a1) 98 11 (σ1.1 98 6)))))) : WP c_M_faults (CTs d) Q (0, [(0, .ref 98), (1, .int a1)], []) σ := wp_cut (ms_mono y_M_faults) (cts_cm d) (fun x => false) (fun _ _ => false) 14 h
theorem e_M_faults {d : Nat} {Q : Po} {σ : Hp}  {a1 : Int32}  (h : WP c_M_faults (CTs d) Q (0, [(0, .ref 98), (1, .int a1)], []) σ) : CTs (d + 1) y_M_faults [.ref 98, .int a1] σ Q := h
set_option maxRecDepth 20000 in
theorem t_M_isMark_0 {d : Nat} {Q : Po} {σ : Hp}  {a1 : Int32}  (h : (if (σ.1 98 5) = (3 : Int32) then 
    ((if (σ.1 98 9) = a1 then 
      (vb (1 : Int32) ∧ Q (some (.int (1 : Int32))) σ)
      else 
      (vb (0 : Int32) ∧ Q (some (.int (0 : Int32))) σ)))
    else 
    (vb (0 : Int32) ∧ Q (some (.int (0 : Int32))) σ))) : WP c_M_isMark (CTs d) Q (0, [(0, .ref 98), (1, .int a1)], []) σ := wp_cut (ms_mono y_M_isMark) (cts_cm d) (fun x => false) (fun _ _ => false) 17 h
theorem e_M_isMark {d : Nat} {Q : Po} {σ : Hp}  {a1 : Int32}  (h : WP c_M_isMark (CTs d) Q (0, [(0, .ref 98), (1, .int a1)], []) σ) : CTs (d + 1) y_M_isMark [.ref 98, .int a1] σ Q := h
set_option maxRecDepth 20000 in
theorem t_M_isWord_0 {d : Nat} {Q : Po} {σ : Hp}  {a1 : Int64}  (h : (if (σ.1 98 5) = (1 : Int32) then 
    ((if (lg_cmp (σ.2 98 8) a1) = 0 then 
      (vb (1 : Int32) ∧ Q (some (.int (1 : Int32))) σ)
      else 
      (vb (0 : Int32) ∧ Q (some (.int (0 : Int32))) σ)))
    else 
    (vb (0 : Int32) ∧ Q (some (.int (0 : Int32))) σ))) : WP c_M_isWord (CTs d) Q (0, [(0, .ref 98), (1, .long a1)], []) σ := wp_cut (ms_mono y_M_isWord) (cts_cm d) (fun x => false) (fun _ _ => false) 18 h
theorem e_M_isWord {d : Nat} {Q : Po} {σ : Hp}  {a1 : Int64}  (h : WP c_M_isWord (CTs d) Q (0, [(0, .ref 98), (1, .long a1)], []) σ) : CTs (d + 1) y_M_isWord [.ref 98, .long a1] σ Q := h
set_option maxRecDepth 20000 in
theorem t_M_isKey_0 {d : Nat} {Q : Po} {σ : Hp}    (h : CTs d y_M_kindHere [.ref 98] σ (fun r1 σ1 => 
    (if 0 < (oI r1) then 
      (vb (1 : Int32) ∧ Q (some (.int (1 : Int32))) σ1)
      else 
      (CTs d y_M_isWord [.ref 98, .long (131638 : Int64)] σ1 (fun r2 σ2 => 
        (if (oI r2) = 0 then 
          (CTs d y_M_isWord [.ref 98, .long (555 : Int64)] σ2 (fun r3 σ3 => 
            (if (oI r3) = 0 then 
              (CTs d y_M_isWord [.ref 98, .long (11522 : Int64)] σ3 (fun r4 σ4 => 
                (if (oI r4) = 0 then 
                  (CTs d y_M_isWord [.ref 98, .long (411 : Int64)] σ4 (fun r5 σ5 => 
                    (if (oI r5) = 0 then 
                      (CTs d y_M_isWord [.ref 98, .long (6476969 : Int64)] σ5 (fun r6 σ6 => 
                        (if (oI r6) = 0 then 
                          (vb (0 : Int32) ∧ Q (some (.int (0 : Int32))) σ6)
                          else 
                          (vb (1 : Int32) ∧ Q (some (.int (1 : Int32))) σ6))))
                      else 
                      (vb (1 : Int32) ∧ Q (some (.int (1 : Int32))) σ5))))
                  else 
                  (vb (1 : Int32) ∧ Q (some (.int (1 : Int32))) σ4))))
              else 
              (vb (1 : Int32) ∧ Q (some (.int (1 : Int32))) σ3))))
          else 
          (vb (1 : Int32) ∧ Q (some (.int (1 : Int32))) σ2))))))) : WP c_M_isKey (CTs d) Q (0, [(0, .ref 98)], []) σ := wp_cut (ms_mono y_M_isKey) (cts_cm d) (fun x => false) (fun _ _ => false) 45 h
theorem e_M_isKey {d : Nat} {Q : Po} {σ : Hp}    (h : WP c_M_isKey (CTs d) Q (0, [(0, .ref 98)], []) σ) : CTs (d + 1) y_M_isKey [.ref 98] σ Q := h
set_option maxRecDepth 20000 in
theorem t_M_kindHere_0 {d : Nat} {Q : Po} {σ : Hp}    (h : CTs d y_M_isWord [.ref 98, .long (10502465 : Int64)] σ (fun r1 σ1 => 
    (if (oI r1) = 0 then 
      (CTs d y_M_isWord [.ref 98, .long (283616032 : Int64)] σ1 (fun r2 σ2 => 
        (if (oI r2) = 0 then 
          (CTs d y_M_isWord [.ref 98, .long (117696474 : Int64)] σ2 (fun r3 σ3 => 
            (if (oI r3) = 0 then 
              (CTs d y_M_isWord [.ref 98, .long (212302449 : Int64)] σ3 (fun r4 σ4 => 
                (if (oI r4) = 0 then 
                  (CTs d y_M_isWord [.ref 98, .long (10650290 : Int64)] σ4 (fun r5 σ5 => 
                    (if (oI r5) = 0 then 
                      (CTs d y_M_isWord [.ref 98, .long (2232979 : Int64)] σ5 (fun r6 σ6 => 
                        (if (oI r6) = 0 then 
                          (Q (some (.int (0 : Int32))) σ6)
                          else 
                          (Q (some (.int (2 : Int32))) σ6))))
                      else 
                      (Q (some (.int (4 : Int32))) σ5))))
                  else 
                  (Q (some (.int (5 : Int32))) σ4))))
              else 
              (Q (some (.int (6 : Int32))) σ3))))
          else 
          (Q (some (.int (3 : Int32))) σ2))))
      else 
      (Q (some (.int (1 : Int32))) σ1)))) : WP c_M_kindHere (CTs d) Q (0, [(0, .ref 98)], []) σ := wp_cut (ms_mono y_M_kindHere) (cts_cm d) (fun x => false) (fun _ _ => false) 46 h
theorem e_M_kindHere {d : Nat} {Q : Po} {σ : Hp}    (h : WP c_M_kindHere (CTs d) Q (0, [(0, .ref 98)], []) σ) : CTs (d + 1) y_M_kindHere [.ref 98] σ Q := h
set_option maxRecDepth 20000 in
theorem t_M_isName_0 {d : Nat} {Q : Po} {σ : Hp}    (h : (if (σ.1 98 5) = (1 : Int32) then 
    ((if (5 : Int32) < ((σ.1 98 7) - (σ.1 98 6)) then 
      (vb (0 : Int32) ∧ Q (some (.int (0 : Int32))) σ)
      else 
      (CTs d y_M_isKey [.ref 98] σ (fun r1 σ1 => 
        (if (oI r1) = 0 then 
          (vb (1 : Int32) ∧ Q (some (.int (1 : Int32))) σ1)
          else 
          (vb (0 : Int32) ∧ Q (some (.int (0 : Int32))) σ1))))))
    else 
    (vb (0 : Int32) ∧ Q (some (.int (0 : Int32))) σ))) : WP c_M_isName (CTs d) Q (0, [(0, .ref 98)], []) σ := wp_cut (ms_mono y_M_isName) (cts_cm d) (fun x => false) (fun _ _ => false) 25 h
theorem e_M_isName {d : Nat} {Q : Po} {σ : Hp}    (h : WP c_M_isName (CTs d) Q (0, [(0, .ref 98)], []) σ) : CTs (d + 1) y_M_isName [.ref 98] σ Q := h
set_option maxRecDepth 20000 in
theorem t_M_wantMark_0 {d : Nat} {Q : Po} {σ : Hp}  {a1 : Int32}  (h : CTs d y_M_isGood [.ref 98] σ (fun r1 σ1 => 
    (if (oI r1) = 0 then 
      (CTs d y_M_isGood [.ref 98] σ1 (fun r2 σ2 => 
        (if (oI r2) = 0 then 
          (Q none σ2)
          else 
          (CTs d y_M_advance [.ref 98] σ2 (fun _ σ3 => 
            Q none σ3)))))
      else 
      (CTs d y_M_isMark [.ref 98, .int a1] σ1 (fun r4 σ4 => 
        (if (oI r4) = 0 then 
          (CTs d y_M_faults [.ref 98, .int (1 : Int32)] σ4 (fun _ σ7 => 
            CTs d y_M_isGood [.ref 98] σ7 (fun r8 σ8 => 
              (if (oI r8) = 0 then 
                (Q none σ8)
                else 
                (CTs d y_M_advance [.ref 98] σ8 (fun _ σ9 => 
                  Q none σ9))))))
          else 
          (CTs d y_M_isGood [.ref 98] σ4 (fun r5 σ5 => 
            (if (oI r5) = 0 then 
              (Q none σ5)
              else 
              (CTs d y_M_advance [.ref 98] σ5 (fun _ σ6 => 
                Q none σ6))))))))))) : WP c_M_wantMark (CTs d) Q (0, [(0, .ref 98), (1, .int a1)], []) σ := wp_cut (ms_mono y_M_wantMark) (cts_cm d) (fun x => false) (fun _ _ => false) 33 h
theorem e_M_wantMark {d : Nat} {Q : Po} {σ : Hp}  {a1 : Int32}  (h : WP c_M_wantMark (CTs d) Q (0, [(0, .ref 98), (1, .int a1)], []) σ) : CTs (d + 1) y_M_wantMark [.ref 98, .int a1] σ Q := h
set_option maxRecDepth 20000 in
theorem t_M_wantWord_0 {d : Nat} {Q : Po} {σ : Hp}  {a1 : Int64}  (h : CTs d y_M_isGood [.ref 98] σ (fun r1 σ1 => 
    (if (oI r1) = 0 then 
      (CTs d y_M_isGood [.ref 98] σ1 (fun r2 σ2 => 
        (if (oI r2) = 0 then 
          (Q none σ2)
          else 
          (CTs d y_M_advance [.ref 98] σ2 (fun _ σ3 => 
            Q none σ3)))))
      else 
      (CTs d y_M_isWord [.ref 98, .long a1] σ1 (fun r4 σ4 => 
        (if (oI r4) = 0 then 
          (CTs d y_M_faults [.ref 98, .int (1 : Int32)] σ4 (fun _ σ7 => 
            CTs d y_M_isGood [.ref 98] σ7 (fun r8 σ8 => 
              (if (oI r8) = 0 then 
                (Q none σ8)
                else 
                (CTs d y_M_advance [.ref 98] σ8 (fun _ σ9 => 
                  Q none σ9))))))
          else 
          (CTs d y_M_isGood [.ref 98] σ4 (fun r5 σ5 => 
            (if (oI r5) = 0 then 
              (Q none σ5)
              else 
              (CTs d y_M_advance [.ref 98] σ5 (fun _ σ6 => 
                Q none σ6))))))))))) : WP c_M_wantWord (CTs d) Q (0, [(0, .ref 98), (1, .long a1)], []) σ := wp_cut (ms_mono y_M_wantWord) (cts_cm d) (fun x => false) (fun _ _ => false) 33 h
theorem e_M_wantWord {d : Nat} {Q : Po} {σ : Hp}  {a1 : Int64}  (h : WP c_M_wantWord (CTs d) Q (0, [(0, .ref 98), (1, .long a1)], []) σ) : CTs (d + 1) y_M_wantWord [.ref 98, .long a1] σ Q := h
set_option maxRecDepth 20000 in
theorem t_M_wantNumber_0 {d : Nat} {Q : Po} {σ : Hp}  {a1 : Int32} {a2 : Int32}  (h : CTs d y_M_isGood [.ref 98] σ (fun r1 σ1 => 
    (if (oI r1) = 0 then 
      (CTs d y_M_isGood [.ref 98] σ1 (fun r2 σ2 => 
        (if (oI r2) = 0 then 
          (Q (some (.int (0 : Int32))) σ2)
          else 
          (CTs d y_M_advance [.ref 98] σ2 (fun _ σ3 => 
            Q (some (.int (σ.1 98 9))) σ3)))))
      else 
      ((if (σ1.1 98 5) = (2 : Int32) then 
        ((if (σ.1 98 9) < a1 then 
          (CTs d y_M_faults [.ref 98, .int (1 : Int32)] σ1 (fun _ σ7 => 
            CTs d y_M_isGood [.ref 98] σ7 (fun r8 σ8 => 
              (if (oI r8) = 0 then 
                (Q (some (.int (0 : Int32))) σ8)
                else 
                (CTs d y_M_advance [.ref 98] σ8 (fun _ σ9 => 
                  Q (some (.int (σ.1 98 9))) σ9))))))
          else 
          ((if (σ.1 98 9) ≤ a2 then 
            (CTs d y_M_isGood [.ref 98] σ1 (fun r10 σ10 => 
              (if (oI r10) = 0 then 
                (Q (some (.int (0 : Int32))) σ10)
                else 
                (CTs d y_M_advance [.ref 98] σ10 (fun _ σ11 => 
                  Q (some (.int (σ.1 98 9))) σ11)))))
            else 
            (CTs d y_M_faults [.ref 98, .int (1 : Int32)] σ1 (fun _ σ12 => 
              CTs d y_M_isGood [.ref 98] σ12 (fun r13 σ13 => 
                (if (oI r13) = 0 then 
                  (Q (some (.int (0 : Int32))) σ13)
                  else 
                  (CTs d y_M_advance [.ref 98] σ13 (fun _ σ14 => 
                    Q (some (.int (σ.1 98 9))) σ14))))))))))
        else 
        (CTs d y_M_faults [.ref 98, .int (1 : Int32)] σ1 (fun _ σ4 => 
          CTs d y_M_isGood [.ref 98] σ4 (fun r5 σ5 => 
            (if (oI r5) = 0 then 
              (Q (some (.int (0 : Int32))) σ5)
              else 
              (CTs d y_M_advance [.ref 98] σ5 (fun _ σ6 => 
                Q (some (.int (σ.1 98 9))) σ6))))))))))) : WP c_M_wantNumber (CTs d) Q (0, [(0, .ref 98), (1, .int a1), (2, .int a2)], []) σ := wp_cut (ms_mono y_M_wantNumber) (cts_cm d) (fun x => false) (fun _ _ => false) 72 h
theorem e_M_wantNumber {d : Nat} {Q : Po} {σ : Hp}  {a1 : Int32} {a2 : Int32}  (h : WP c_M_wantNumber (CTs d) Q (0, [(0, .ref 98), (1, .int a1), (2, .int a2)], []) σ) : CTs (d + 1) y_M_wantNumber [.ref 98, .int a1, .int a2] σ Q := h
set_option maxRecDepth 20000 in
theorem t_M_known_0 {d : Nat} {Q : Po} {σ : Hp}    (h : WP c_M_known (CTs d) Q (4, [(0, .ref 98), (1, .int (-1 : Int32)), (2, .int (0 : Int32))], []) σ) : WP c_M_known (CTs d) Q (0, [(0, .ref 98)], []) σ := wp_cut (ms_mono y_M_known) (cts_cm d) (fun x => Nat.beq x 4) (fun x i => (cond (Nat.beq x 4) (Nat.beq i 0 || Nat.beq i 1 || Nat.beq i 2) false)) 7 h
set_option maxRecDepth 20000 in
theorem t_M_known_4 {d : Nat} {Q : Po} {σ : Hp}  {v1 : Int32} {v2 : Int32}  (h : (if (σ.1 98 12) ≤ v2 then 
    (Q (some (.int v1)) σ)
    else 
    (vp_in (((20 : Int32) * v2) + (1 : Int32)) 320 ∧ ((if (lg_cmp ((σ.1 102 (((20 : Int32) * v2) + (1 : Int32)).toNatClampNeg)).toInt64 (σ.2 98 8)) = 0 then 
      (WP c_M_known (CTs d) Q (4, [(0, .ref 98), (1, .int v2), (2, .int (v2 + (1 : Int32)))], []) σ)
      else 
      (WP c_M_known (CTs d) Q (4, [(0, .ref 98), (1, .int v1), (2, .int (v2 + (1 : Int32)))], []) σ)))))) : WP c_M_known (CTs d) Q (4, [(0, .ref 98), (1, .int v1), (2, .int v2)], []) σ := wp_cut (ms_mono y_M_known) (cts_cm d) (fun x => Nat.beq x 4) (fun x i => (cond (Nat.beq x 4) (Nat.beq i 0 || Nat.beq i 1 || Nat.beq i 2) false)) 32 h
theorem e_M_known {d : Nat} {Q : Po} {σ : Hp}    (h : WP c_M_known (CTs d) Q (0, [(0, .ref 98)], []) σ) : CTs (d + 1) y_M_known [.ref 98] σ Q := h
set_option maxRecDepth 20000 in
theorem t_M_emit_0 {d : Nat} {Q : Po} {σ : Hp}  {a1 : Int32}  (h : vp_in (σ.1 98 14) 300 ∧ (Q none (sI (sI σ 103 (σ.1 98 14).toNatClampNeg a1) 98 14 ((σ.1 98 14) + (1 : Int32))))) : WP c_M_emit (CTs d) Q (0, [(0, .ref 98), (1, .int a1)], []) σ := wp_cut (ms_mono y_M_emit) (cts_cm d) (fun x => false) (fun _ _ => false) 15 h
theorem e_M_emit {d : Nat} {Q : Po} {σ : Hp}  {a1 : Int32}  (h : WP c_M_emit (CTs d) Q (0, [(0, .ref 98), (1, .int a1)], []) σ) : CTs (d + 1) y_M_emit [.ref 98, .int a1] σ Q := h
set_option maxRecDepth 20000 in
theorem t_M_top_0 {d : Nat} {Q : Po} {σ : Hp}    (h : (if (σ.1 98 17) = 0 then 
    (Q (some (.int (0 : Int32))) σ)
    else 
    (vp_in ((σ.1 98 17) - (1 : Int32)) 300 ∧ (Q (some (.int (σ.1 104 ((σ.1 98 17) - (1 : Int32)).toNatClampNeg))) σ)))) : WP c_M_top (CTs d) Q (0, [(0, .ref 98)], []) σ := wp_cut (ms_mono y_M_top) (cts_cm d) (fun x => false) (fun _ _ => false) 16 h
theorem e_M_top {d : Nat} {Q : Po} {σ : Hp}    (h : WP c_M_top (CTs d) Q (0, [(0, .ref 98)], []) σ) : CTs (d + 1) y_M_top [.ref 98] σ Q := h
set_option maxRecDepth 20000 in
theorem t_M_opens_0 {d : Nat} {Q : Po} {σ : Hp}  {a1 : Int32}  (h : (if (σ.1 98 18) = (4 : Int32) then 
    (CTs d y_M_faults [.ref 98, .int (1 : Int32)] σ (fun _ σ2 => 
      CTs d y_M_pend [.ref 98, .int a1] (sI σ2 98 18 ((σ2.1 98 18) + (1 : Int32))) (fun _ σ3 => 
        Q none σ3)))
    else 
    (CTs d y_M_pend [.ref 98, .int a1] (sI σ 98 18 ((σ.1 98 18) + (1 : Int32))) (fun _ σ1 => 
      Q none σ1)))) : WP c_M_opens (CTs d) Q (0, [(0, .ref 98), (1, .int a1)], []) σ := wp_cut (ms_mono y_M_opens) (cts_cm d) (fun x => false) (fun _ _ => false) 29 h
theorem e_M_opens {d : Nat} {Q : Po} {σ : Hp}  {a1 : Int32}  (h : WP c_M_opens (CTs d) Q (0, [(0, .ref 98), (1, .int a1)], []) σ) : CTs (d + 1) y_M_opens [.ref 98, .int a1] σ Q := h
set_option maxRecDepth 20000 in
theorem t_M_pend_0 {d : Nat} {Q : Po} {σ : Hp}  {a1 : Int32}  (h : vp_in (σ.1 98 17) 300 ∧ (Q none (sI (sI σ 104 (σ.1 98 17).toNatClampNeg a1) 98 17 ((σ.1 98 17) + (1 : Int32))))) : WP c_M_pend (CTs d) Q (0, [(0, .ref 98), (1, .int a1)], []) σ := wp_cut (ms_mono y_M_pend) (cts_cm d) (fun x => false) (fun _ _ => false) 15 h
theorem e_M_pend {d : Nat} {Q : Po} {σ : Hp}  {a1 : Int32}  (h : WP c_M_pend (CTs d) Q (0, [(0, .ref 98), (1, .int a1)], []) σ) : CTs (d + 1) y_M_pend [.ref 98, .int a1] σ Q := h
set_option maxRecDepth 20000 in
theorem t_M_closes_0 {d : Nat} {Q : Po} {σ : Hp}    (h : CTs d y_M_ended [.ref 98] (sI (sI σ 98 17 ((σ.1 98 17) - (1 : Int32))) 98 18 ((σ.1 98 18) - (1 : Int32))) (fun _ σ1 => 
    Q none σ1)) : WP c_M_closes (CTs d) Q (0, [(0, .ref 98)], []) σ := wp_cut (ms_mono y_M_closes) (cts_cm d) (fun x => false) (fun _ _ => false) 17 h
theorem e_M_closes {d : Nat} {Q : Po} {σ : Hp}    (h : WP c_M_closes (CTs d) Q (0, [(0, .ref 98)], []) σ) : CTs (d + 1) y_M_closes [.ref 98] σ Q := h
set_option maxRecDepth 20000 in
theorem t_M_ended_0 {d : Nat} {Q : Po} {σ : Hp}    (h : CTs d y_M_top [.ref 98] σ (fun r1 σ1 => 
    (if (oI r1) = (400001 : Int32) then 
      (CTs d y_M_emit [.ref 98, .int (400001 : Int32)] σ1 (fun _ σ2 => 
        WP c_M_ended (CTs d) Q (0, [(0, .ref 98)], []) (sI (sI σ2 98 17 ((σ2.1 98 17) - (1 : Int32))) 98 18 ((σ2.1 98 18) - (1 : Int32)))))
      else 
      (Q none σ1)))) : WP c_M_ended (CTs d) Q (0, [(0, .ref 98)], []) σ := wp_cut (ms_mono y_M_ended) (cts_cm d) (fun x => Nat.beq x 0) (fun x i => (cond (Nat.beq x 0) (Nat.beq i 0) false)) 24 h
theorem e_M_ended {d : Nat} {Q : Po} {σ : Hp}    (h : WP c_M_ended (CTs d) Q (0, [(0, .ref 98)], []) σ) : CTs (d + 1) y_M_ended [.ref 98] σ Q := h
set_option maxRecDepth 20000 in
theorem t_M_binds_0 {d : Nat} {Q : Po} {σ : Hp}  {a0 : Int32}  (h : (if (a0 - (300000 : Int32)) = 42 then 
    (Q (some (.int (3 : Int32))) σ)
    else if (a0 - (300000 : Int32)) = 43 then 
    (Q (some (.int (2 : Int32))) σ)
    else if (a0 - (300000 : Int32)) = 44 then 
    (Q (some (.int (0 : Int32))) σ)
    else if (a0 - (300000 : Int32)) = 45 then 
    (Q (some (.int (2 : Int32))) σ)
    else if (a0 - (300000 : Int32)) = 46 then 
    (Q (some (.int (0 : Int32))) σ)
    else if (a0 - (300000 : Int32)) = 47 then 
    (Q (some (.int (3 : Int32))) σ)
    else if (a0 - (300000 : Int32)) = 48 then 
    (Q (some (.int (0 : Int32))) σ)
    else if (a0 - (300000 : Int32)) = 49 then 
    (Q (some (.int (0 : Int32))) σ)
    else if (a0 - (300000 : Int32)) = 50 then 
    (Q (some (.int (0 : Int32))) σ)
    else if (a0 - (300000 : Int32)) = 51 then 
    (Q (some (.int (0 : Int32))) σ)
    else if (a0 - (300000 : Int32)) = 52 then 
    (Q (some (.int (0 : Int32))) σ)
    else if (a0 - (300000 : Int32)) = 53 then 
    (Q (some (.int (0 : Int32))) σ)
    else if (a0 - (300000 : Int32)) = 54 then 
    (Q (some (.int (0 : Int32))) σ)
    else if (a0 - (300000 : Int32)) = 55 then 
    (Q (some (.int (0 : Int32))) σ)
    else if (a0 - (300000 : Int32)) = 56 then 
    (Q (some (.int (0 : Int32))) σ)
    else if (a0 - (300000 : Int32)) = 57 then 
    (Q (some (.int (0 : Int32))) σ)
    else if (a0 - (300000 : Int32)) = 58 then 
    (Q (some (.int (0 : Int32))) σ)
    else if (a0 - (300000 : Int32)) = 59 then 
    (Q (some (.int (0 : Int32))) σ)
    else if (a0 - (300000 : Int32)) = 60 then 
    (Q (some (.int (1 : Int32))) σ)
    else if (a0 - (300000 : Int32)) = 61 then 
    (Q (some (.int (1 : Int32))) σ)
    else (Q (some (.int (0 : Int32))) σ))) : WP c_M_binds (CTs d) Q (0, [(0, .int a0)], []) σ := wp_cut (ms_mono y_M_binds) (cts_cm d) (fun x => false) (fun _ _ => false) 48 h
theorem e_M_binds {d : Nat} {Q : Po} {σ : Hp}  {a0 : Int32}  (h : WP c_M_binds (CTs d) Q (0, [(0, .int a0)], []) σ) : CTs (d + 1) y_M_binds [.int a0] σ Q := h
set_option maxRecDepth 20000 in
theorem t_M_settle_0 {d : Nat} {Q : Po} {σ : Hp}  {a1 : Int32}  (h : CTs d y_M_top [.ref 98] σ (fun r1 σ1 => 
    CTs d y_M_binds [.int (oI r1)] σ1 (fun r2 σ2 => 
      (if (oI r2) < a1 then 
        (Q none σ2)
        else 
        (CTs d y_M_top [.ref 98] σ2 (fun r3 σ3 => 
          CTs d y_M_emit [.ref 98, .int (oI r3)] σ3 (fun _ σ4 => 
            WP c_M_settle (CTs d) Q (0, [(0, .ref 98), (1, .int a1)], []) (sI σ4 98 17 ((σ4.1 98 17) - (1 : Int32)))))))))) : WP c_M_settle (CTs d) Q (0, [(0, .ref 98), (1, .int a1)], []) σ := wp_cut (ms_mono y_M_settle) (cts_cm d) (fun x => Nat.beq x 0) (fun x i => (cond (Nat.beq x 0) (Nat.beq i 0 || Nat.beq i 1) false)) 20 h
theorem e_M_settle {d : Nat} {Q : Po} {σ : Hp}  {a1 : Int32}  (h : WP c_M_settle (CTs d) Q (0, [(0, .ref 98), (1, .int a1)], []) σ) : CTs (d + 1) y_M_settle [.ref 98, .int a1] σ Q := h
set_option maxRecDepth 20000 in
theorem t_M_part_0 {d : Nat} {Q : Po} {σ : Hp}    (h : (if (σ.1 98 5) = (2 : Int32) then 
    (CTs d y_M_wantNumber [.ref 98, .int (0 : Int32), .int (99999 : Int32)] σ (fun r29 σ29 => 
      CTs d y_M_emit [.ref 98, .int (oI r29)] σ29 (fun _ σ30 => 
        CTs d y_M_ended [.ref 98] σ30 (fun _ σ31 => 
          vb (1 : Int32) ∧ Q (some (.int (1 : Int32))) σ31))))
    else 
    (CTs d y_M_isMark [.ref 98, .int (45 : Int32)] σ (fun r1 σ1 => 
      (if (oI r1) = 0 then 
        (CTs d y_M_isMark [.ref 98, .int (40 : Int32)] σ1 (fun r7 σ7 => 
          (if (oI r7) = 0 then 
            (CTs d y_M_isWord [.ref 98, .long (6476969 : Int64)] σ7 (fun r8 σ8 => 
              (if (oI r8) = 0 then 
                (CTs d y_M_isName [.ref 98] σ8 (fun r9 σ9 => 
                  (if (oI r9) = 0 then 
                    (CTs d y_M_faults [.ref 98, .int (1 : Int32)] σ9 (fun _ σ19 => 
                      vb (0 : Int32) ∧ Q (some (.int (0 : Int32))) σ19))
                    else 
                    (CTs d y_M_known [.ref 98] σ9 (fun r10 σ10 => 
                      (if 0 ≤ (oI r10) then 
                        (CTs d y_M_advance [.ref 98] σ10 (fun _ σ11 => 
                          vp_in ((20 : Int32) * (oI r10)) 320 ∧ ((if (σ11.1 102 ((20 : Int32) * (oI r10)).toNatClampNeg) = (4 : Int32) then 
                            (CTs d y_M_isMark [.ref 98, .int (91 : Int32)] σ11 (fun r12 σ12 => 
                              (if (oI r12) = 0 then 
                                (CTs d y_M_faults [.ref 98, .int (1 : Int32)] σ12 (fun _ σ13 => 
                                  vb (0 : Int32) ∧ Q (some (.int (0 : Int32))) σ13))
                                else 
                                (CTs d y_M_opens [.ref 98, .int ((500000 : Int32) + (oI r10))] σ12 (fun _ σ14 => 
                                  CTs d y_M_advance [.ref 98] σ14 (fun _ σ15 => 
                                    vb (0 : Int32) ∧ Q (some (.int (0 : Int32))) σ15))))))
                            else 
                            (CTs d y_M_emit [.ref 98, .int ((100000 : Int32) + (oI r10))] σ11 (fun _ σ16 => 
                              CTs d y_M_ended [.ref 98] σ16 (fun _ σ17 => 
                                vb (1 : Int32) ∧ Q (some (.int (1 : Int32))) σ17)))))))
                        else 
                        (CTs d y_M_faults [.ref 98, .int (2 : Int32)] σ10 (fun _ σ18 => 
                          vb (0 : Int32) ∧ Q (some (.int (0 : Int32))) σ18))))))))
                else 
                (CTs d y_M_opens [.ref 98, .int (400003 : Int32)] σ8 (fun _ σ20 => 
                  CTs d y_M_isGood [.ref 98] σ20 (fun r21 σ21 => 
                    (if (oI r21) = 0 then 
                      (vb (0 : Int32) ∧ Q (some (.int (0 : Int32))) σ21)
                      else 
                      (CTs d y_M_advance [.ref 98] σ21 (fun _ σ22 => 
                        CTs d y_M_wantMark [.ref 98, .int (40 : Int32)] σ22 (fun _ σ23 => 
                          vb (0 : Int32) ∧ Q (some (.int (0 : Int32))) σ23))))))))))
            else 
            (CTs d y_M_isMark [.ref 98, .int (45 : Int32)] σ7 (fun r24 σ24 => 
              (if (oI r24) = 0 then 
                (CTs d y_M_opens [.ref 98, .int (400002 : Int32)] σ24 (fun _ σ25 => 
                  CTs d y_M_advance [.ref 98] σ25 (fun _ σ26 => 
                    vb (0 : Int32) ∧ Q (some (.int (0 : Int32))) σ26)))
                else 
                (CTs d y_M_opens [.ref 98, .int (400001 : Int32)] σ24 (fun _ σ27 => 
                  CTs d y_M_advance [.ref 98] σ27 (fun _ σ28 => 
                    vb (0 : Int32) ∧ Q (some (.int (0 : Int32))) σ28)))))))))
        else 
        (CTs d y_M_isMark [.ref 98, .int (45 : Int32)] σ1 (fun r2 σ2 => 
          (if (oI r2) = 0 then 
            (CTs d y_M_opens [.ref 98, .int (400002 : Int32)] σ2 (fun _ σ3 => 
              CTs d y_M_advance [.ref 98] σ3 (fun _ σ4 => 
                vb (0 : Int32) ∧ Q (some (.int (0 : Int32))) σ4)))
            else 
            (CTs d y_M_opens [.ref 98, .int (400001 : Int32)] σ2 (fun _ σ5 => 
              CTs d y_M_advance [.ref 98] σ5 (fun _ σ6 => 
                vb (0 : Int32) ∧ Q (some (.int (0 : Int32))) σ6))))))))))) : WP c_M_part (CTs d) Q (0, [(0, .ref 98)], []) σ := wp_cut (ms_mono y_M_part) (cts_cm d) (fun x => false) (fun _ _ => false) 137 h
theorem e_M_part {d : Nat} {Q : Po} {σ : Hp}    (h : WP c_M_part (CTs d) Q (0, [(0, .ref 98)], []) σ) : CTs (d + 1) y_M_part [.ref 98] σ Q := h
set_option maxRecDepth 20000 in
theorem t_M_goesOn_0 {d : Nat} {Q : Po} {σ : Hp}    (h : (if (σ.1 98 5) = (3 : Int32) then 
    (CTs d y_M_binds [.int ((300000 : Int32) + (σ.1 98 9))] σ (fun r25 σ25 => 
      (if (oI r25) ≤ 0 then 
        (CTs d y_M_settle [.ref 98, .int (1 : Int32)] σ25 (fun _ σ26 => 
          CTs d y_M_top [.ref 98] σ26 (fun r27 σ27 => 
            (if (oI r27) = 0 then 
              (Q (some (.int (-1 : Int32))) σ27)
              else 
              (CTs d y_M_isMark [.ref 98, .int (44 : Int32)] σ27 (fun r28 σ28 => 
                (if (oI r28) = 0 then 
                  (WP c_M_goesOn (CTs d) Q (129, [(0, .ref 98), (2, .int (oI r27))], []) σ28)
                  else 
                  ((if (oI r27) = (400003 : Int32) then 
                    (vp_in ((σ28.1 98 17) - (1 : Int32)) 300 ∧ (CTs d y_M_advance [.ref 98] (sI σ28 104 ((σ28.1 98 17) - (1 : Int32)).toNatClampNeg (400004 : Int32)) (fun _ σ29 => 
                      Q (some (.int (1 : Int32))) σ29)))
                    else 
                    (WP c_M_goesOn (CTs d) Q (129, [(0, .ref 98), (2, .int (oI r27))], []) σ28))))))))))
        else 
        ((if (oI r25) = (1 : Int32) then 
          (CTs d y_M_settle [.ref 98, .int (2 : Int32)] σ25 (fun _ σ40 => 
            (if (oI r25) = (1 : Int32) then 
              (CTs d y_M_top [.ref 98] σ40 (fun r43 σ43 => 
                CTs d y_M_binds [.int (oI r43)] σ43 (fun r44 σ44 => 
                  (if (oI r44) = (1 : Int32) then 
                    (CTs d y_M_faults [.ref 98, .int (1 : Int32)] σ44 (fun _ σ47 => 
                      CTs d y_M_pend [.ref 98, .int ((300000 : Int32) + (σ47.1 98 9))] σ47 (fun _ σ48 => 
                        CTs d y_M_advance [.ref 98] σ48 (fun _ σ49 => 
                          Q (some (.int (1 : Int32))) σ49))))
                    else 
                    (CTs d y_M_pend [.ref 98, .int ((300000 : Int32) + (σ44.1 98 9))] σ44 (fun _ σ45 => 
                      CTs d y_M_advance [.ref 98] σ45 (fun _ σ46 => 
                        Q (some (.int (1 : Int32))) σ46)))))))
              else 
              (CTs d y_M_pend [.ref 98, .int ((300000 : Int32) + (σ40.1 98 9))] σ40 (fun _ σ41 => 
                CTs d y_M_advance [.ref 98] σ41 (fun _ σ42 => 
                  Q (some (.int (1 : Int32))) σ42))))))
          else 
          (CTs d y_M_settle [.ref 98, .int (oI r25)] σ25 (fun _ σ30 => 
            (if (oI r25) = (1 : Int32) then 
              (CTs d y_M_top [.ref 98] σ30 (fun r33 σ33 => 
                CTs d y_M_binds [.int (oI r33)] σ33 (fun r34 σ34 => 
                  (if (oI r34) = (1 : Int32) then 
                    (CTs d y_M_faults [.ref 98, .int (1 : Int32)] σ34 (fun _ σ37 => 
                      CTs d y_M_pend [.ref 98, .int ((300000 : Int32) + (σ37.1 98 9))] σ37 (fun _ σ38 => 
                        CTs d y_M_advance [.ref 98] σ38 (fun _ σ39 => 
                          Q (some (.int (1 : Int32))) σ39))))
                    else 
                    (CTs d y_M_pend [.ref 98, .int ((300000 : Int32) + (σ34.1 98 9))] σ34 (fun _ σ35 => 
                      CTs d y_M_advance [.ref 98] σ35 (fun _ σ36 => 
                        Q (some (.int (1 : Int32))) σ36)))))))
              else 
              (CTs d y_M_pend [.ref 98, .int ((300000 : Int32) + (σ30.1 98 9))] σ30 (fun _ σ31 => 
                CTs d y_M_advance [.ref 98] σ31 (fun _ σ32 => 
                  Q (some (.int (1 : Int32))) σ32)))))))))))
    else 
    ((if (0 : Int32) ≤ 0 then 
      (CTs d y_M_settle [.ref 98, .int (1 : Int32)] σ (fun _ σ1 => 
        CTs d y_M_top [.ref 98] σ1 (fun r2 σ2 => 
          (if (oI r2) = 0 then 
            (Q (some (.int (-1 : Int32))) σ2)
            else 
            (CTs d y_M_isMark [.ref 98, .int (44 : Int32)] σ2 (fun r3 σ3 => 
              (if (oI r3) = 0 then 
                (WP c_M_goesOn (CTs d) Q (129, [(0, .ref 98), (2, .int (oI r2))], []) σ3)
                else 
                ((if (oI r2) = (400003 : Int32) then 
                  (vp_in ((σ3.1 98 17) - (1 : Int32)) 300 ∧ (CTs d y_M_advance [.ref 98] (sI σ3 104 ((σ3.1 98 17) - (1 : Int32)).toNatClampNeg (400004 : Int32)) (fun _ σ4 => 
                    Q (some (.int (1 : Int32))) σ4)))
                  else 
                  (WP c_M_goesOn (CTs d) Q (129, [(0, .ref 98), (2, .int (oI r2))], []) σ3))))))))))
      else 
      ((if (0 : Int32) = (1 : Int32) then 
        (CTs d y_M_settle [.ref 98, .int (2 : Int32)] σ (fun _ σ15 => 
          (if (0 : Int32) = (1 : Int32) then 
            (CTs d y_M_top [.ref 98] σ15 (fun r18 σ18 => 
              CTs d y_M_binds [.int (oI r18)] σ18 (fun r19 σ19 => 
                (if (oI r19) = (1 : Int32) then 
                  (CTs d y_M_faults [.ref 98, .int (1 : Int32)] σ19 (fun _ σ22 => 
                    CTs d y_M_pend [.ref 98, .int ((300000 : Int32) + (σ22.1 98 9))] σ22 (fun _ σ23 => 
                      CTs d y_M_advance [.ref 98] σ23 (fun _ σ24 => 
                        Q (some (.int (1 : Int32))) σ24))))
                  else 
                  (CTs d y_M_pend [.ref 98, .int ((300000 : Int32) + (σ19.1 98 9))] σ19 (fun _ σ20 => 
                    CTs d y_M_advance [.ref 98] σ20 (fun _ σ21 => 
                      Q (some (.int (1 : Int32))) σ21)))))))
            else 
            (CTs d y_M_pend [.ref 98, .int ((300000 : Int32) + (σ15.1 98 9))] σ15 (fun _ σ16 => 
              CTs d y_M_advance [.ref 98] σ16 (fun _ σ17 => 
                Q (some (.int (1 : Int32))) σ17))))))
        else 
        (CTs d y_M_settle [.ref 98, .int (0 : Int32)] σ (fun _ σ5 => 
          (if (0 : Int32) = (1 : Int32) then 
            (CTs d y_M_top [.ref 98] σ5 (fun r8 σ8 => 
              CTs d y_M_binds [.int (oI r8)] σ8 (fun r9 σ9 => 
                (if (oI r9) = (1 : Int32) then 
                  (CTs d y_M_faults [.ref 98, .int (1 : Int32)] σ9 (fun _ σ12 => 
                    CTs d y_M_pend [.ref 98, .int ((300000 : Int32) + (σ12.1 98 9))] σ12 (fun _ σ13 => 
                      CTs d y_M_advance [.ref 98] σ13 (fun _ σ14 => 
                        Q (some (.int (1 : Int32))) σ14))))
                  else 
                  (CTs d y_M_pend [.ref 98, .int ((300000 : Int32) + (σ9.1 98 9))] σ9 (fun _ σ10 => 
                    CTs d y_M_advance [.ref 98] σ10 (fun _ σ11 => 
                      Q (some (.int (1 : Int32))) σ11)))))))
            else 
            (CTs d y_M_pend [.ref 98, .int ((300000 : Int32) + (σ5.1 98 9))] σ5 (fun _ σ6 => 
              CTs d y_M_advance [.ref 98] σ6 (fun _ σ7 => 
                Q (some (.int (1 : Int32))) σ7)))))))))))) : WP c_M_goesOn (CTs d) Q (0, [(0, .ref 98)], []) σ := wp_cut (ms_mono y_M_goesOn) (cts_cm d) (fun x => Nat.beq x 129) (fun x i => (cond (Nat.beq x 129) (Nat.beq i 0 || Nat.beq i 2) false)) 263 h
set_option maxRecDepth 20000 in
theorem t_M_goesOn_129 {d : Nat} {Q : Po} {σ : Hp}  {v2 : Int32}  (h : CTs d y_M_isMark [.ref 98, .int (41 : Int32)] σ (fun r1 σ1 => 
    (if (oI r1) = 0 then 
      (CTs d y_M_isMark [.ref 98, .int (41 : Int32)] σ1 (fun r2 σ2 => 
        (if (oI r2) = 0 then 
          (CTs d y_M_isMark [.ref 98, .int (93 : Int32)] σ2 (fun r3 σ3 => 
            (if (oI r3) = 0 then 
              (CTs d y_M_faults [.ref 98, .int (1 : Int32)] σ3 (fun _ σ4 => 
                Q (some (.int (-1 : Int32))) σ4))
              else 
              ((if v2 < (500000 : Int32) then 
                (CTs d y_M_faults [.ref 98, .int (1 : Int32)] σ3 (fun _ σ5 => 
                  Q (some (.int (-1 : Int32))) σ5))
                else 
                ((if v2 = (400002 : Int32) then 
                  (CTs d y_M_closes [.ref 98] σ3 (fun _ σ6 => 
                    CTs d y_M_advance [.ref 98] σ6 (fun _ σ7 => 
                      Q (some (.int (0 : Int32))) σ7)))
                  else 
                  ((if v2 = (400004 : Int32) then 
                    (CTs d y_M_emit [.ref 98, .int (400000 : Int32)] σ3 (fun _ σ11 => 
                      CTs d y_M_closes [.ref 98] σ11 (fun _ σ12 => 
                        CTs d y_M_advance [.ref 98] σ12 (fun _ σ13 => 
                          Q (some (.int (0 : Int32))) σ13))))
                    else 
                    (CTs d y_M_emit [.ref 98, .int (((200000 : Int32) + v2) - (500000 : Int32))] σ3 (fun _ σ8 => 
                      CTs d y_M_closes [.ref 98] σ8 (fun _ σ9 => 
                        CTs d y_M_advance [.ref 98] σ9 (fun _ σ10 => 
                          Q (some (.int (0 : Int32))) σ10)))))))))))))
          else 
          ((if v2 = (400004 : Int32) then 
            ((if v2 = (400002 : Int32) then 
              (CTs d y_M_closes [.ref 98] σ2 (fun _ σ14 => 
                CTs d y_M_advance [.ref 98] σ14 (fun _ σ15 => 
                  Q (some (.int (0 : Int32))) σ15)))
              else 
              ((if v2 = (400004 : Int32) then 
                (CTs d y_M_emit [.ref 98, .int (400000 : Int32)] σ2 (fun _ σ19 => 
                  CTs d y_M_closes [.ref 98] σ19 (fun _ σ20 => 
                    CTs d y_M_advance [.ref 98] σ20 (fun _ σ21 => 
                      Q (some (.int (0 : Int32))) σ21))))
                else 
                (CTs d y_M_emit [.ref 98, .int (((200000 : Int32) + v2) - (500000 : Int32))] σ2 (fun _ σ16 => 
                  CTs d y_M_closes [.ref 98] σ16 (fun _ σ17 => 
                    CTs d y_M_advance [.ref 98] σ17 (fun _ σ18 => 
                      Q (some (.int (0 : Int32))) σ18))))))))
            else 
            (CTs d y_M_isMark [.ref 98, .int (93 : Int32)] σ2 (fun r22 σ22 => 
              (if (oI r22) = 0 then 
                (CTs d y_M_faults [.ref 98, .int (1 : Int32)] σ22 (fun _ σ23 => 
                  Q (some (.int (-1 : Int32))) σ23))
                else 
                ((if v2 < (500000 : Int32) then 
                  (CTs d y_M_faults [.ref 98, .int (1 : Int32)] σ22 (fun _ σ24 => 
                    Q (some (.int (-1 : Int32))) σ24))
                  else 
                  ((if v2 = (400002 : Int32) then 
                    (CTs d y_M_closes [.ref 98] σ22 (fun _ σ25 => 
                      CTs d y_M_advance [.ref 98] σ25 (fun _ σ26 => 
                        Q (some (.int (0 : Int32))) σ26)))
                    else 
                    ((if v2 = (400004 : Int32) then 
                      (CTs d y_M_emit [.ref 98, .int (400000 : Int32)] σ22 (fun _ σ30 => 
                        CTs d y_M_closes [.ref 98] σ30 (fun _ σ31 => 
                          CTs d y_M_advance [.ref 98] σ31 (fun _ σ32 => 
                            Q (some (.int (0 : Int32))) σ32))))
                      else 
                      (CTs d y_M_emit [.ref 98, .int (((200000 : Int32) + v2) - (500000 : Int32))] σ22 (fun _ σ27 => 
                        CTs d y_M_closes [.ref 98] σ27 (fun _ σ28 => 
                          CTs d y_M_advance [.ref 98] σ28 (fun _ σ29 => 
                            Q (some (.int (0 : Int32))) σ29))))))))))))))))))
      else 
      ((if v2 = (400002 : Int32) then 
        ((if v2 = (400002 : Int32) then 
          (CTs d y_M_closes [.ref 98] σ1 (fun _ σ33 => 
            CTs d y_M_advance [.ref 98] σ33 (fun _ σ34 => 
              Q (some (.int (0 : Int32))) σ34)))
          else 
          ((if v2 = (400004 : Int32) then 
            (CTs d y_M_emit [.ref 98, .int (400000 : Int32)] σ1 (fun _ σ38 => 
              CTs d y_M_closes [.ref 98] σ38 (fun _ σ39 => 
                CTs d y_M_advance [.ref 98] σ39 (fun _ σ40 => 
                  Q (some (.int (0 : Int32))) σ40))))
            else 
            (CTs d y_M_emit [.ref 98, .int (((200000 : Int32) + v2) - (500000 : Int32))] σ1 (fun _ σ35 => 
              CTs d y_M_closes [.ref 98] σ35 (fun _ σ36 => 
                CTs d y_M_advance [.ref 98] σ36 (fun _ σ37 => 
                  Q (some (.int (0 : Int32))) σ37))))))))
        else 
        (CTs d y_M_isMark [.ref 98, .int (41 : Int32)] σ1 (fun r41 σ41 => 
          (if (oI r41) = 0 then 
            (CTs d y_M_isMark [.ref 98, .int (93 : Int32)] σ41 (fun r42 σ42 => 
              (if (oI r42) = 0 then 
                (CTs d y_M_faults [.ref 98, .int (1 : Int32)] σ42 (fun _ σ43 => 
                  Q (some (.int (-1 : Int32))) σ43))
                else 
                ((if v2 < (500000 : Int32) then 
                  (CTs d y_M_faults [.ref 98, .int (1 : Int32)] σ42 (fun _ σ44 => 
                    Q (some (.int (-1 : Int32))) σ44))
                  else 
                  ((if v2 = (400002 : Int32) then 
                    (CTs d y_M_closes [.ref 98] σ42 (fun _ σ45 => 
                      CTs d y_M_advance [.ref 98] σ45 (fun _ σ46 => 
                        Q (some (.int (0 : Int32))) σ46)))
                    else 
                    ((if v2 = (400004 : Int32) then 
                      (CTs d y_M_emit [.ref 98, .int (400000 : Int32)] σ42 (fun _ σ50 => 
                        CTs d y_M_closes [.ref 98] σ50 (fun _ σ51 => 
                          CTs d y_M_advance [.ref 98] σ51 (fun _ σ52 => 
                            Q (some (.int (0 : Int32))) σ52))))
                      else 
                      (CTs d y_M_emit [.ref 98, .int (((200000 : Int32) + v2) - (500000 : Int32))] σ42 (fun _ σ47 => 
                        CTs d y_M_closes [.ref 98] σ47 (fun _ σ48 => 
                          CTs d y_M_advance [.ref 98] σ48 (fun _ σ49 => 
                            Q (some (.int (0 : Int32))) σ49)))))))))))))
            else 
            ((if v2 = (400004 : Int32) then 
              ((if v2 = (400002 : Int32) then 
                (CTs d y_M_closes [.ref 98] σ41 (fun _ σ53 => 
                  CTs d y_M_advance [.ref 98] σ53 (fun _ σ54 => 
                    Q (some (.int (0 : Int32))) σ54)))
                else 
                ((if v2 = (400004 : Int32) then 
                  (CTs d y_M_emit [.ref 98, .int (400000 : Int32)] σ41 (fun _ σ58 => 
                    CTs d y_M_closes [.ref 98] σ58 (fun _ σ59 => 
                      CTs d y_M_advance [.ref 98] σ59 (fun _ σ60 => 
                        Q (some (.int (0 : Int32))) σ60))))
                  else 
                  (CTs d y_M_emit [.ref 98, .int (((200000 : Int32) + v2) - (500000 : Int32))] σ41 (fun _ σ55 => 
                    CTs d y_M_closes [.ref 98] σ55 (fun _ σ56 => 
                      CTs d y_M_advance [.ref 98] σ56 (fun _ σ57 => 
                        Q (some (.int (0 : Int32))) σ57))))))))
              else 
              (CTs d y_M_isMark [.ref 98, .int (93 : Int32)] σ41 (fun r61 σ61 => 
                (if (oI r61) = 0 then 
                  (CTs d y_M_faults [.ref 98, .int (1 : Int32)] σ61 (fun _ σ62 => 
                    Q (some (.int (-1 : Int32))) σ62))
                  else 
                  ((if v2 < (500000 : Int32) then 
                    (CTs d y_M_faults [.ref 98, .int (1 : Int32)] σ61 (fun _ σ63 => 
                      Q (some (.int (-1 : Int32))) σ63))
                    else 
                    ((if v2 = (400002 : Int32) then 
                      (CTs d y_M_closes [.ref 98] σ61 (fun _ σ64 => 
                        CTs d y_M_advance [.ref 98] σ64 (fun _ σ65 => 
                          Q (some (.int (0 : Int32))) σ65)))
                      else 
                      ((if v2 = (400004 : Int32) then 
                        (CTs d y_M_emit [.ref 98, .int (400000 : Int32)] σ61 (fun _ σ69 => 
                          CTs d y_M_closes [.ref 98] σ69 (fun _ σ70 => 
                            CTs d y_M_advance [.ref 98] σ70 (fun _ σ71 => 
                              Q (some (.int (0 : Int32))) σ71))))
                        else 
                        (CTs d y_M_emit [.ref 98, .int (((200000 : Int32) + v2) - (500000 : Int32))] σ61 (fun _ σ66 => 
                          CTs d y_M_closes [.ref 98] σ66 (fun _ σ67 => 
                            CTs d y_M_advance [.ref 98] σ67 (fun _ σ68 => 
                              Q (some (.int (0 : Int32))) σ68))))))))))))))))))))))) : WP c_M_goesOn (CTs d) Q (129, [(0, .ref 98), (2, .int v2)], []) σ := wp_cut (ms_mono y_M_goesOn) (cts_cm d) (fun x => Nat.beq x 129) (fun x i => (cond (Nat.beq x 129) (Nat.beq i 0 || Nat.beq i 2) false)) 329 h
theorem e_M_goesOn {d : Nat} {Q : Po} {σ : Hp}    (h : WP c_M_goesOn (CTs d) Q (0, [(0, .ref 98)], []) σ) : CTs (d + 1) y_M_goesOn [.ref 98] σ Q := h
set_option maxRecDepth 20000 in
theorem t_M_wantE_0 {d : Nat} {Q : Po} {σ : Hp}    (h : WP c_M_wantE (CTs d) Q (14, [(0, .ref 98), (2, .int (1 : Int32))], []) (sI (sI σ 98 17 (0 : Int32)) 98 18 (0 : Int32))) : WP c_M_wantE (CTs d) Q (0, [(0, .ref 98)], []) σ := wp_cut (ms_mono y_M_wantE) (cts_cm d) (fun x => Nat.beq x 14) (fun x i => (cond (Nat.beq x 14) (Nat.beq i 0 || Nat.beq i 2) false)) 13 h
set_option maxRecDepth 20000 in
theorem t_M_wantE_14 {d : Nat} {Q : Po} {σ : Hp}  {v2 : Int32}  (h : CTs d y_M_isGood [.ref 98] σ (fun r1 σ1 => 
    (if (oI r1) = 0 then 
      (Q none σ1)
      else 
      ((if v2 < 0 then 
        (Q none σ1)
        else 
        ((if v2 = (1 : Int32) then 
          (CTs d y_M_part [.ref 98] σ1 (fun r3 σ3 => 
            (if (oI r3) = 0 then 
              (WP c_M_wantE (CTs d) Q (14, [(0, .ref 98), (2, .int (1 : Int32))], []) σ3)
              else 
              (WP c_M_wantE (CTs d) Q (14, [(0, .ref 98), (2, .int (0 : Int32))], []) σ3))))
          else 
          (CTs d y_M_goesOn [.ref 98] σ1 (fun r2 σ2 => 
            WP c_M_wantE (CTs d) Q (14, [(0, .ref 98), (2, .int (oI r2))], []) σ2))))))))) : WP c_M_wantE (CTs d) Q (14, [(0, .ref 98), (2, .int v2)], []) σ := wp_cut (ms_mono y_M_wantE) (cts_cm d) (fun x => Nat.beq x 14) (fun x i => (cond (Nat.beq x 14) (Nat.beq i 0 || Nat.beq i 2) false)) 31 h
theorem e_M_wantE {d : Nat} {Q : Po} {σ : Hp}    (h : WP c_M_wantE (CTs d) Q (0, [(0, .ref 98)], []) σ) : CTs (d + 1) y_M_wantE [.ref 98] σ Q := h
set_option maxRecDepth 20000 in
theorem t_M_wantEnd_0 {d : Nat} {Q : Po} {σ : Hp}    (h : CTs d y_M_isGood [.ref 98] σ (fun r1 σ1 => 
    (if (oI r1) = 0 then 
      (Q (some (.int (-9 : Int32))) σ1)
      else 
      (CTs d y_M_isWord [.ref 98, .long (11522 : Int64)] σ1 (fun r2 σ2 => 
        (if (oI r2) = 0 then 
          (CTs d y_M_isName [.ref 98] σ2 (fun r3 σ3 => 
            (if (oI r3) = 0 then 
              (CTs d y_M_isName [.ref 98] σ3 (fun r4 σ4 => 
                (if (oI r4) = 0 then 
                  (CTs d y_M_faults [.ref 98, .int (1 : Int32)] σ4 (fun _ σ8 => 
                    Q (some (.int (-1 : Int32))) σ8))
                  else 
                  ((if 0 ≤ (-1 : Int32) then 
                    (vp_in ((20 : Int32) * (-1 : Int32)) 320 ∧ ((if (σ4.1 102 ((20 : Int32) * (-1 : Int32)).toNatClampNeg) = (1 : Int32) then 
                      (CTs d y_M_advance [.ref 98] σ4 (fun _ σ5 => 
                        Q (some (.int (-1 : Int32))) σ5))
                      else 
                      (CTs d y_M_faults [.ref 98, .int (3 : Int32)] σ4 (fun _ σ6 => 
                        Q (some (.int (-1 : Int32))) σ6)))))
                    else 
                    (CTs d y_M_faults [.ref 98, .int (2 : Int32)] σ4 (fun _ σ7 => 
                      Q (some (.int (-1 : Int32))) σ7)))))))
              else 
              (CTs d y_M_known [.ref 98] σ3 (fun r9 σ9 => 
                CTs d y_M_isName [.ref 98] σ9 (fun r10 σ10 => 
                  (if (oI r10) = 0 then 
                    (CTs d y_M_faults [.ref 98, .int (1 : Int32)] σ10 (fun _ σ14 => 
                      Q (some (.int (oI r9))) σ14))
                    else 
                    ((if 0 ≤ (oI r9) then 
                      (vp_in ((20 : Int32) * (oI r9)) 320 ∧ ((if (σ10.1 102 ((20 : Int32) * (oI r9)).toNatClampNeg) = (1 : Int32) then 
                        (CTs d y_M_advance [.ref 98] σ10 (fun _ σ11 => 
                          Q (some (.int (oI r9))) σ11))
                        else 
                        (CTs d y_M_faults [.ref 98, .int (3 : Int32)] σ10 (fun _ σ12 => 
                          Q (some (.int (oI r9))) σ12)))))
                      else 
                      (CTs d y_M_faults [.ref 98, .int (2 : Int32)] σ10 (fun _ σ13 => 
                        Q (some (.int (oI r9))) σ13)))))))))))
          else 
          (CTs d y_M_advance [.ref 98] σ2 (fun _ σ15 => 
            Q (some (.int (-9 : Int32))) σ15)))))))) : WP c_M_wantEnd (CTs d) Q (0, [(0, .ref 98)], []) σ := wp_cut (ms_mono y_M_wantEnd) (cts_cm d) (fun x => false) (fun _ _ => false) 94 h
theorem e_M_wantEnd {d : Nat} {Q : Po} {σ : Hp}    (h : WP c_M_wantEnd (CTs d) Q (0, [(0, .ref 98)], []) σ) : CTs (d + 1) y_M_wantEnd [.ref 98] σ Q := h
set_option maxRecDepth 20000 in
theorem t_M_wantCorners_0 {d : Nat} {Q : Po} {σ : Hp}  {a1 : Int32}  (h : WP c_M_wantCorners (CTs d) Q (4, [(0, .ref 98), (1, .int a1), (2, .int (0 : Int32)), (3, .int (-1 : Int32))], []) σ) : WP c_M_wantCorners (CTs d) Q (0, [(0, .ref 98), (1, .int a1)], []) σ := wp_cut (ms_mono y_M_wantCorners) (cts_cm d) (fun x => Nat.beq x 4 || Nat.beq x 41) (fun x i => (cond (Nat.beq x 41) (Nat.beq i 0 || Nat.beq i 1 || Nat.beq i 2) (cond (Nat.beq x 4) (Nat.beq i 0 || Nat.beq i 1 || Nat.beq i 2 || Nat.beq i 3) false))) 7 h
set_option maxRecDepth 20000 in
theorem t_M_wantCorners_4 {d : Nat} {Q : Po} {σ : Hp}  {v1 : Int32} {v2 : Int32} {v3 : Int32}  (h : CTs d y_M_isGood [.ref 98] σ (fun r1 σ1 => 
    (if (oI r1) = 0 then 
      (Q none σ1)
      else 
      ((if (σ1.1 98 5) = (2 : Int32) then 
        ((if (σ1.1 98 9) < 0 then 
          (WP c_M_wantCorners (CTs d) Q (41, [(0, .ref 98), (1, .int v1), (2, .int v2)], []) σ1)
          else 
          ((if v3 < (σ1.1 98 9) then 
            (WP c_M_wantCorners (CTs d) Q (41, [(0, .ref 98), (1, .int v1), (2, .int v2)], []) σ1)
            else 
            (CTs d y_M_faults [.ref 98, .int (3 : Int32)] σ1 (fun _ σ2 => 
              WP c_M_wantCorners (CTs d) Q (41, [(0, .ref 98), (1, .int v1), (2, .int v2)], []) σ2))))))
        else 
        (WP c_M_wantCorners (CTs d) Q (41, [(0, .ref 98), (1, .int v1), (2, .int v2)], []) σ1)))))) : WP c_M_wantCorners (CTs d) Q (4, [(0, .ref 98), (1, .int v1), (2, .int v2), (3, .int v3)], []) σ := wp_cut (ms_mono y_M_wantCorners) (cts_cm d) (fun x => Nat.beq x 4 || Nat.beq x 41) (fun x i => (cond (Nat.beq x 41) (Nat.beq i 0 || Nat.beq i 1 || Nat.beq i 2) (cond (Nat.beq x 4) (Nat.beq i 0 || Nat.beq i 1 || Nat.beq i 2 || Nat.beq i 3) false))) 25 h
set_option maxRecDepth 20000 in
theorem t_M_wantCorners_41 {d : Nat} {Q : Po} {σ : Hp}  {v1 : Int32} {v2 : Int32}  (h : CTs d y_M_wantNumber [.ref 98, .int (0 : Int32), .int (99999 : Int32)] σ (fun r1 σ1 => 
    CTs d y_M_wantMark [.ref 98, .int (58 : Int32)] σ1 (fun _ σ2 => 
      CTs d y_M_wantNumber [.ref 98, .int (0 : Int32), .int (99999 : Int32)] σ2 (fun r3 σ3 => 
        ¬ (6 : Int32) = 0 ∧ (vp_in ((v1 + (8 : Int32)) + ((2 : Int32) * (v2 - v2 / (6 : Int32) * (6 : Int32)))) 320 ∧ (¬ (6 : Int32) = 0 ∧ (vp_in (((v1 + (8 : Int32)) + ((2 : Int32) * (v2 - v2 / (6 : Int32) * (6 : Int32)))) + (1 : Int32)) 320 ∧ (CTs d y_M_isGood [.ref 98] (sI (sI σ3 102 ((v1 + (8 : Int32)) + ((2 : Int32) * (v2 - v2 / (6 : Int32) * (6 : Int32)))).toNatClampNeg (oI r1)) 102 (((v1 + (8 : Int32)) + ((2 : Int32) * (v2 - v2 / (6 : Int32) * (6 : Int32)))) + (1 : Int32)).toNatClampNeg (oI r3)) (fun r4 σ4 => 
          (if (oI r4) = 0 then 
            (CTs d y_M_isGood [.ref 98] σ4 (fun r5 σ5 => 
              (if (oI r5) = 0 then 
                (CTs d y_M_isGood [.ref 98] σ5 (fun r6 σ6 => 
                  (if (oI r6) = 0 then 
                    (WP c_M_wantCorners (CTs d) Q (4, [(0, .ref 98), (1, .int v1), (2, .int (v2 + (1 : Int32))), (3, .int (oI r1))], []) σ6)
                    else 
                    (CTs d y_M_advance [.ref 98] σ6 (fun _ σ7 => 
                      WP c_M_wantCorners (CTs d) Q (4, [(0, .ref 98), (1, .int v1), (2, .int (v2 + (1 : Int32))), (3, .int (oI r1))], []) σ7)))))
                else 
                ((if (v2 + (1 : Int32)) = (6 : Int32) then 
                  (CTs d y_M_faults [.ref 98, .int (1 : Int32)] σ5 (fun _ σ10 => 
                    CTs d y_M_isGood [.ref 98] σ10 (fun r11 σ11 => 
                      (if (oI r11) = 0 then 
                        (WP c_M_wantCorners (CTs d) Q (4, [(0, .ref 98), (1, .int v1), (2, .int (v2 + (1 : Int32))), (3, .int (oI r1))], []) σ11)
                        else 
                        (CTs d y_M_advance [.ref 98] σ11 (fun _ σ12 => 
                          WP c_M_wantCorners (CTs d) Q (4, [(0, .ref 98), (1, .int v1), (2, .int (v2 + (1 : Int32))), (3, .int (oI r1))], []) σ12))))))
                  else 
                  (CTs d y_M_isGood [.ref 98] σ5 (fun r8 σ8 => 
                    (if (oI r8) = 0 then 
                      (WP c_M_wantCorners (CTs d) Q (4, [(0, .ref 98), (1, .int v1), (2, .int (v2 + (1 : Int32))), (3, .int (oI r1))], []) σ8)
                      else 
                      (CTs d y_M_advance [.ref 98] σ8 (fun _ σ9 => 
                        WP c_M_wantCorners (CTs d) Q (4, [(0, .ref 98), (1, .int v1), (2, .int (v2 + (1 : Int32))), (3, .int (oI r1))], []) σ9))))))))))
            else 
            (CTs d y_M_isMark [.ref 98, .int (44 : Int32)] σ4 (fun r13 σ13 => 
              (if (oI r13) = 0 then 
                ((if (2 : Int32) ≤ (v2 + (1 : Int32)) then 
                  (vp_in (v1 + (3 : Int32)) 320 ∧ (Q none (sI σ13 102 (v1 + (3 : Int32)).toNatClampNeg (v2 + (1 : Int32)))))
                  else 
                  (CTs d y_M_faults [.ref 98, .int (1 : Int32)] σ13 (fun _ σ22 => 
                    vp_in (v1 + (3 : Int32)) 320 ∧ (Q none (sI σ22 102 (v1 + (3 : Int32)).toNatClampNeg (v2 + (1 : Int32))))))))
                else 
                (CTs d y_M_isGood [.ref 98] σ13 (fun r14 σ14 => 
                  (if (oI r14) = 0 then 
                    (CTs d y_M_isGood [.ref 98] σ14 (fun r15 σ15 => 
                      (if (oI r15) = 0 then 
                        (WP c_M_wantCorners (CTs d) Q (4, [(0, .ref 98), (1, .int v1), (2, .int (v2 + (1 : Int32))), (3, .int (oI r1))], []) σ15)
                        else 
                        (CTs d y_M_advance [.ref 98] σ15 (fun _ σ16 => 
                          WP c_M_wantCorners (CTs d) Q (4, [(0, .ref 98), (1, .int v1), (2, .int (v2 + (1 : Int32))), (3, .int (oI r1))], []) σ16)))))
                    else 
                    ((if (v2 + (1 : Int32)) = (6 : Int32) then 
                      (CTs d y_M_faults [.ref 98, .int (1 : Int32)] σ14 (fun _ σ19 => 
                        CTs d y_M_isGood [.ref 98] σ19 (fun r20 σ20 => 
                          (if (oI r20) = 0 then 
                            (WP c_M_wantCorners (CTs d) Q (4, [(0, .ref 98), (1, .int v1), (2, .int (v2 + (1 : Int32))), (3, .int (oI r1))], []) σ20)
                            else 
                            (CTs d y_M_advance [.ref 98] σ20 (fun _ σ21 => 
                              WP c_M_wantCorners (CTs d) Q (4, [(0, .ref 98), (1, .int v1), (2, .int (v2 + (1 : Int32))), (3, .int (oI r1))], []) σ21))))))
                      else 
                      (CTs d y_M_isGood [.ref 98] σ14 (fun r17 σ17 => 
                        (if (oI r17) = 0 then 
                          (WP c_M_wantCorners (CTs d) Q (4, [(0, .ref 98), (1, .int v1), (2, .int (v2 + (1 : Int32))), (3, .int (oI r1))], []) σ17)
                          else 
                          (CTs d y_M_advance [.ref 98] σ17 (fun _ σ18 => 
                            WP c_M_wantCorners (CTs d) Q (4, [(0, .ref 98), (1, .int v1), (2, .int (v2 + (1 : Int32))), (3, .int (oI r1))], []) σ18))))))))))))))))))))))) : WP c_M_wantCorners (CTs d) Q (41, [(0, .ref 98), (1, .int v1), (2, .int v2)], []) σ := wp_cut (ms_mono y_M_wantCorners) (cts_cm d) (fun x => Nat.beq x 4 || Nat.beq x 41) (fun x i => (cond (Nat.beq x 41) (Nat.beq i 0 || Nat.beq i 1 || Nat.beq i 2) (cond (Nat.beq x 4) (Nat.beq i 0 || Nat.beq i 1 || Nat.beq i 2 || Nat.beq i 3) false))) 147 h
theorem e_M_wantCorners {d : Nat} {Q : Po} {σ : Hp}  {a1 : Int32}  (h : WP c_M_wantCorners (CTs d) Q (0, [(0, .ref 98), (1, .int a1)], []) σ) : CTs (d + 1) y_M_wantCorners [.ref 98, .int a1] σ Q := h
