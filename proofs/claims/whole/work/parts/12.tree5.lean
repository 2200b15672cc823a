set_option maxRecDepth 20000 in
theorem t_M_swing_0 {d : Nat} {Q : Po} {σ : Hp}  {a1 : Int32} {a2 : Int32}  (h : CTs d y_M_in [.int a1, .int (0 : Int32), .int (60 : Int32)] σ (fun r1 σ1 => 
    (if (oI r1) = 0 then 
      (Q (some (.int (-1 : Int32))) σ1)
      else 
      (CTs d y_M_in [.int a2, .int (0 : Int32), .int (1 : Int32)] σ1 (fun r2 σ2 => 
        (if (oI r2) = 0 then 
          (Q (some (.int (-1 : Int32))) σ2)
          else 
          (CTs d y_M_setAside [.ref 98] σ2 (fun _ σ3 => 
            WP c_M_swing (CTs d) Q (34, [(0, .ref 98), (1, .int a1), (2, .int a2), (3, .int (-3 : Int32)), (4, .int (0 : Int32)), (5, .int (0 : Int32))], []) σ3)))))))) : WP c_M_swing (CTs d) Q (0, [(0, .ref 98), (1, .int a1), (2, .int a2)], []) σ := wp_cut (ms_mono y_M_swing) (cts_cm d) (fun x => Nat.beq x 34 || Nat.beq x 47 || Nat.beq x 88) (fun x i => (cond (Nat.beq x 88) (Nat.beq i 0 || Nat.beq i 1 || Nat.beq i 2 || Nat.beq i 3 || Nat.beq i 4 || Nat.beq i 5 || Nat.beq i 6) (cond (Nat.beq x 47) (Nat.beq i 0 || Nat.beq i 1 || Nat.beq i 2 || Nat.beq i 3 || Nat.beq i 4 || Nat.beq i 5 || Nat.beq i 6) (cond (Nat.beq x 34) (Nat.beq i 0 || Nat.beq i 1 || Nat.beq i 2 || Nat.beq i 3 || Nat.beq i 4 || Nat.beq i 5) false)))) 25 h
set_option maxRecDepth 20000 in
theorem t_M_swing_34 {d : Nat} {Q : Po} {σ : Hp}  {v1 : Int32} {v2 : Int32} {v3 : Int32} {v4 : Int32} {v5 : Int32}  (h : (if v1 < v5 then 
    (CTs d y_M_putBack [.ref 98] σ (fun _ σ1 => 
      (if 0 ≤ v3 then 
        ((if v2 = 0 then 
          (Q (some (.int v3)) σ1)
          else 
          (Q (some (.int v4)) σ1)))
        else 
        (Q (some (.int (-3 : Int32))) σ1))))
    else 
    ((if 0 ≤ v3 then 
      (CTs d y_M_putBack [.ref 98] σ (fun _ σ2 => 
        (if 0 ≤ v3 then 
          ((if v2 = 0 then 
            (Q (some (.int v3)) σ2)
            else 
            (Q (some (.int v4)) σ2)))
          else 
          (Q (some (.int (-3 : Int32))) σ2))))
      else 
      (WP c_M_swing (CTs d) Q (47, [(0, .ref 98), (1, .int v1), (2, .int v2), (3, .int v3), (4, .int v4), (5, .int v5), (6, .int (0 : Int32))], []) σ))))) : WP c_M_swing (CTs d) Q (34, [(0, .ref 98), (1, .int v1), (2, .int v2), (3, .int v3), (4, .int v4), (5, .int v5)], []) σ := wp_cut (ms_mono y_M_swing) (cts_cm d) (fun x => Nat.beq x 34 || Nat.beq x 47 || Nat.beq x 88) (fun x i => (cond (Nat.beq x 88) (Nat.beq i 0 || Nat.beq i 1 || Nat.beq i 2 || Nat.beq i 3 || Nat.beq i 4 || Nat.beq i 5 || Nat.beq i 6) (cond (Nat.beq x 47) (Nat.beq i 0 || Nat.beq i 1 || Nat.beq i 2 || Nat.beq i 3 || Nat.beq i 4 || Nat.beq i 5 || Nat.beq i 6) (cond (Nat.beq x 34) (Nat.beq i 0 || Nat.beq i 1 || Nat.beq i 2 || Nat.beq i 3 || Nat.beq i 4 || Nat.beq i 5) false)))) 38 h
set_option maxRecDepth 20000 in
theorem t_M_swing_47 {d : Nat} {Q : Po} {σ : Hp}  {v1 : Int32} {v2 : Int32} {v3 : Int32} {v4 : Int32} {v5 : Int32} {v6 : Int32}  (h : (if (σ.1 98 0) ≤ v6 then 
    (WP c_M_swing (CTs d) Q (88, [(0, .ref 98), (1, .int v1), (2, .int v2), (3, .int v3), (4, .int v4), (5, .int v5), (6, .int (v5 - (1 : Int32)))], []) σ)
    else 
    (vp_in v6 16 ∧ (vp_in (((16 : Int32) * v5) + v6) 976 ∧ (WP c_M_swing (CTs d) Q (47, [(0, .ref 98), (1, .int v1), (2, .int v2), (3, .int v3), (4, .int v4), (5, .int v5), (6, .int (v6 + (1 : Int32)))], []) (sI σ 117 (((16 : Int32) * v5) + v6).toNatClampNeg (σ.1 105 (v6).toNatClampNeg))))))) : WP c_M_swing (CTs d) Q (47, [(0, .ref 98), (1, .int v1), (2, .int v2), (3, .int v3), (4, .int v4), (5, .int v5), (6, .int v6)], []) σ := wp_cut (ms_mono y_M_swing) (cts_cm d) (fun x => Nat.beq x 34 || Nat.beq x 47 || Nat.beq x 88) (fun x i => (cond (Nat.beq x 88) (Nat.beq i 0 || Nat.beq i 1 || Nat.beq i 2 || Nat.beq i 3 || Nat.beq i 4 || Nat.beq i 5 || Nat.beq i 6) (cond (Nat.beq x 47) (Nat.beq i 0 || Nat.beq i 1 || Nat.beq i 2 || Nat.beq i 3 || Nat.beq i 4 || Nat.beq i 5 || Nat.beq i 6) (cond (Nat.beq x 34) (Nat.beq i 0 || Nat.beq i 1 || Nat.beq i 2 || Nat.beq i 3 || Nat.beq i 4 || Nat.beq i 5) false)))) 26 h
set_option maxRecDepth 20000 in
theorem t_M_swing_88 {d : Nat} {Q : Po} {σ : Hp}  {v1 : Int32} {v2 : Int32} {v3 : Int32} {v4 : Int32} {v5 : Int32} {v6 : Int32}  (h : (if v6 < 0 then 
    (CTs d y_M_steps [.ref 98] σ (fun r1 σ1 => 
      WP c_M_swing (CTs d) Q (34, [(0, .ref 98), (1, .int v1), (2, .int v2), (3, .int v3), (4, .int v4), (5, .int (v5 + (1 : Int32)))], []) σ1))
    else 
    ((if 0 ≤ v3 then 
      (CTs d y_M_steps [.ref 98] σ (fun r2 σ2 => 
        WP c_M_swing (CTs d) Q (34, [(0, .ref 98), (1, .int v1), (2, .int v2), (3, .int v3), (4, .int v4), (5, .int (v5 + (1 : Int32)))], []) σ2))
      else 
      (CTs d y_M_isAlike [.ref 98, .int v6, .int v5] σ (fun r3 σ3 => 
        (if (oI r3) = 0 then 
          (WP c_M_swing (CTs d) Q (88, [(0, .ref 98), (1, .int v1), (2, .int v2), (3, .int v3), (4, .int v4), (5, .int v5), (6, .int (v6 + (-1 : Int32)))], []) σ3)
          else 
          (WP c_M_swing (CTs d) Q (88, [(0, .ref 98), (1, .int v1), (2, .int v2), (3, .int v5), (4, .int (v5 - v6)), (5, .int v5), (6, .int (v6 + (-1 : Int32)))], []) σ3)))))))) : WP c_M_swing (CTs d) Q (88, [(0, .ref 98), (1, .int v1), (2, .int v2), (3, .int v3), (4, .int v4), (5, .int v5), (6, .int v6)], []) σ := wp_cut (ms_mono y_M_swing) (cts_cm d) (fun x => Nat.beq x 34 || Nat.beq x 47 || Nat.beq x 88) (fun x i => (cond (Nat.beq x 88) (Nat.beq i 0 || Nat.beq i 1 || Nat.beq i 2 || Nat.beq i 3 || Nat.beq i 4 || Nat.beq i 5 || Nat.beq i 6) (cond (Nat.beq x 47) (Nat.beq i 0 || Nat.beq i 1 || Nat.beq i 2 || Nat.beq i 3 || Nat.beq i 4 || Nat.beq i 5 || Nat.beq i 6) (cond (Nat.beq x 34) (Nat.beq i 0 || Nat.beq i 1 || Nat.beq i 2 || Nat.beq i 3 || Nat.beq i 4 || Nat.beq i 5) false)))) 35 h
theorem e_M_swing {d : Nat} {Q : Po} {σ : Hp}  {a1 : Int32} {a2 : Int32}  (h : WP c_M_swing (CTs d) Q (0, [(0, .ref 98), (1, .int a1), (2, .int a2)], []) σ) : CTs (d + 1) y_M_swing [.ref 98, .int a1, .int a2] σ Q := h
set_option maxRecDepth 20000 in
theorem t_M_valueOn_0 {d : Nat} {Q : Po} {σ : Hp}  {a1 : Int32} {a2 : Int32} {a3 : Int32} {a4 : Int32}  (h : CTs d y_M_setAside [.ref 98] σ (fun _ σ1 => 
    (if a1 < 0 then 
      (WP c_M_valueOn (CTs d) Q (18, [(0, .ref 98), (3, .int a3), (4, .int a4), (5, .int (0 : Int32))], []) σ1)
      else 
      (vp_in a1 16 ∧ (WP c_M_valueOn (CTs d) Q (18, [(0, .ref 98), (3, .int a3), (4, .int a4), (5, .int (0 : Int32))], []) (sI σ1 105 (a1).toNatClampNeg a2)))))) : WP c_M_valueOn (CTs d) Q (0, [(0, .ref 98), (1, .int a1), (2, .int a2), (3, .int a3), (4, .int a4)], []) σ := wp_cut (ms_mono y_M_valueOn) (cts_cm d) (fun x => Nat.beq x 18) (fun x i => (cond (Nat.beq x 18) (Nat.beq i 0 || Nat.beq i 3 || Nat.beq i 4 || Nat.beq i 5) false)) 17 h
set_option maxRecDepth 20000 in
theorem t_M_valueOn_18 {d : Nat} {Q : Po} {σ : Hp}  {v3 : Int32} {v4 : Int32} {v5 : Int32}  (h : (if v4 ≤ v5 then 
    (CTs d y_M_findValues [.ref 98] σ (fun _ σ1 => 
      vp_in v3 16 ∧ (CTs d y_M_putBack [.ref 98] σ1 (fun _ σ2 => 
        Q (some (.int (σ1.1 110 (v3).toNatClampNeg))) σ2))))
    else 
    (CTs d y_M_steps [.ref 98] σ (fun r3 σ3 => 
      WP c_M_valueOn (CTs d) Q (18, [(0, .ref 98), (3, .int v3), (4, .int v4), (5, .int (v5 + (1 : Int32)))], []) σ3)))) : WP c_M_valueOn (CTs d) Q (18, [(0, .ref 98), (3, .int v3), (4, .int v4), (5, .int v5)], []) σ := wp_cut (ms_mono y_M_valueOn) (cts_cm d) (fun x => Nat.beq x 18) (fun x i => (cond (Nat.beq x 18) (Nat.beq i 0 || Nat.beq i 3 || Nat.beq i 4 || Nat.beq i 5) false)) 22 h
theorem e_M_valueOn {d : Nat} {Q : Po} {σ : Hp}  {a1 : Int32} {a2 : Int32} {a3 : Int32} {a4 : Int32}  (h : WP c_M_valueOn (CTs d) Q (0, [(0, .ref 98), (1, .int a1), (2, .int a2), (3, .int a3), (4, .int a4)], []) σ) : CTs (d + 1) y_M_valueOn [.ref 98, .int a1, .int a2, .int a3, .int a4] σ Q := h
set_option maxRecDepth 20000 in
theorem t_M_pull_0 {d : Nat} {Q : Po} {σ : Hp}  {a1 : Int32} {a2 : Int32} {a3 : Int32} {a4 : Int32}  (h : CTs d y_M_isKind [.ref 98, .int a1, .int (5 : Int32)] σ (fun r1 σ1 => 
    (if (oI r1) = 0 then 
      (Q (some (.int (-2147483648 : Int32))) σ1)
      else 
      (CTs d y_M_isThing [.ref 98, .int a3] σ1 (fun r2 σ2 => 
        (if (oI r2) = 0 then 
          (Q (some (.int (-2147483648 : Int32))) σ2)
          else 
          (CTs d y_M_in [.int a4, .int (0 : Int32), .int (60 : Int32)] σ2 (fun r3 σ3 => 
            (if (oI r3) = 0 then 
              (Q (some (.int (-2147483648 : Int32))) σ3)
              else 
              (vp_in a1 16 ∧ (CTs d y_M_valueOn [.ref 98, .int a1, .int ((σ3.1 105 (a1).toNatClampNeg) + a2), .int a3, .int a4] σ3 (fun r4 σ4 => 
                CTs d y_M_valueOn [.ref 98, .int (-1 : Int32), .int (0 : Int32), .int a3, .int a4] σ4 (fun r5 σ5 => 
                  Q (some (.int ((oI r4) - (oI r5)))) σ5))))))))))))) : WP c_M_pull (CTs d) Q (0, [(0, .ref 98), (1, .int a1), (2, .int a2), (3, .int a3), (4, .int a4)], []) σ := wp_cut (ms_mono y_M_pull) (cts_cm d) (fun x => false) (fun _ _ => false) 41 h
theorem e_M_pull {d : Nat} {Q : Po} {σ : Hp}  {a1 : Int32} {a2 : Int32} {a3 : Int32} {a4 : Int32}  (h : WP c_M_pull (CTs d) Q (0, [(0, .ref 98), (1, .int a1), (2, .int a2), (3, .int a3), (4, .int a4)], []) σ) : CTs (d + 1) y_M_pull [.ref 98, .int a1, .int a2, .int a3, .int a4] σ Q := h
set_option maxRecDepth 20000 in
theorem t_M_isSpan_0 {d : Nat} {Q : Po} {σ : Hp}  {a0 : Int32} {a1 : Int32}  (h : (if a1 < a0 then 
    (vb (0 : Int32) ∧ Q (some (.int (0 : Int32))) σ)
    else 
    ((if 0 < (lg_cmp ((a1).toInt64 - (a0).toInt64) (20 : Int64)) then 
      (vb (0 : Int32) ∧ Q (some (.int (0 : Int32))) σ)
      else 
      (vb (1 : Int32) ∧ Q (some (.int (1 : Int32))) σ))))) : WP c_M_isSpan (CTs d) Q (0, [(0, .int a0), (1, .int a1)], []) σ := wp_cut (ms_mono y_M_isSpan) (cts_cm d) (fun x => false) (fun _ _ => false) 20 h
theorem e_M_isSpan {d : Nat} {Q : Po} {σ : Hp}  {a0 : Int32} {a1 : Int32}  (h : WP c_M_isSpan (CTs d) Q (0, [(0, .int a0), (1, .int a1)], []) σ) : CTs (d + 1) y_M_isSpan [.int a0, .int a1] σ Q := h
set_option maxRecDepth 20000 in
theorem t_M_best_0 {d : Nat} {Q : Po} {σ : Hp}  {a1 : Int32} {a2 : Int32} {a3 : Int32} {a4 : Int32} {a5 : Int32}  (h : CTs d y_M_isKind [.ref 98, .int a1, .int (5 : Int32)] σ (fun r1 σ1 => 
    (if (oI r1) = 0 then 
      (Q (some (.int (-2147483648 : Int32))) σ1)
      else 
      (CTs d y_M_isKind [.ref 98, .int a4, .int (1 : Int32)] σ1 (fun r2 σ2 => 
        (if (oI r2) = 0 then 
          (Q (some (.int (-2147483648 : Int32))) σ2)
          else 
          (CTs d y_M_isSpan [.int a2, .int a3] σ2 (fun r3 σ3 => 
            (if (oI r3) = 0 then 
              (Q (some (.int (-2147483648 : Int32))) σ3)
              else 
              (CTs d y_M_in [.int a5, .int (0 : Int32), .int (60 : Int32)] σ3 (fun r4 σ4 => 
                (if (oI r4) = 0 then 
                  (Q (some (.int (-2147483648 : Int32))) σ4)
                  else 
                  (WP c_M_best (CTs d) Q (51, [(0, .ref 98), (1, .int a1), (2, .int a2), (3, .int a3), (4, .int a4), (5, .int a5), (6, .int a2), (7, .int (-1 : Int32)), (8, .int (0 : Int32))], []) σ4))))))))))))) : WP c_M_best (CTs d) Q (0, [(0, .ref 98), (1, .int a1), (2, .int a2), (3, .int a3), (4, .int a4), (5, .int a5)], []) σ := wp_cut (ms_mono y_M_best) (cts_cm d) (fun x => Nat.beq x 51) (fun x i => (cond (Nat.beq x 51) (Nat.beq i 0 || Nat.beq i 1 || Nat.beq i 2 || Nat.beq i 3 || Nat.beq i 4 || Nat.beq i 5 || Nat.beq i 6 || Nat.beq i 7 || Nat.beq i 8) false)) 36 h
set_option maxRecDepth 20000 in
theorem t_M_best_51 {d : Nat} {Q : Po} {σ : Hp}  {v1 : Int32} {v2 : Int32} {v3 : Int32} {v4 : Int32} {v5 : Int32} {v6 : Int32} {v7 : Int32} {v8 : Int32}  (h : (if (v3 - v2) < v8 then 
    (Q (some (.int v6)) σ)
    else 
    (CTs d y_M_valueOn [.ref 98, .int v1, .int (v2 + v8), .int v4, .int v5] σ (fun r1 σ1 => 
      (if (oI r1) ≤ v7 then 
        (WP c_M_best (CTs d) Q (51, [(0, .ref 98), (1, .int v1), (2, .int v2), (3, .int v3), (4, .int v4), (5, .int v5), (6, .int v6), (7, .int v7), (8, .int (v8 + (1 : Int32)))], []) σ1)
        else 
        (WP c_M_best (CTs d) Q (51, [(0, .ref 98), (1, .int v1), (2, .int v2), (3, .int v3), (4, .int v4), (5, .int v5), (6, .int (v2 + v8)), (7, .int (oI r1)), (8, .int (v8 + (1 : Int32)))], []) σ1)))))) : WP c_M_best (CTs d) Q (51, [(0, .ref 98), (1, .int v1), (2, .int v2), (3, .int v3), (4, .int v4), (5, .int v5), (6, .int v6), (7, .int v7), (8, .int v8)], []) σ := wp_cut (ms_mono y_M_best) (cts_cm d) (fun x => Nat.beq x 51) (fun x i => (cond (Nat.beq x 51) (Nat.beq i 0 || Nat.beq i 1 || Nat.beq i 2 || Nat.beq i 3 || Nat.beq i 4 || Nat.beq i 5 || Nat.beq i 6 || Nat.beq i 7 || Nat.beq i 8) false)) 33 h
theorem e_M_best {d : Nat} {Q : Po} {σ : Hp}  {a1 : Int32} {a2 : Int32} {a3 : Int32} {a4 : Int32} {a5 : Int32}  (h : WP c_M_best (CTs d) Q (0, [(0, .ref 98), (1, .int a1), (2, .int a2), (3, .int a3), (4, .int a4), (5, .int a5)], []) σ) : CTs (d + 1) y_M_best [.ref 98, .int a1, .int a2, .int a3, .int a4, .int a5] σ Q := h
set_option maxRecDepth 20000 in
theorem t_M_missOf_0 {d : Nat} {Q : Po} {σ : Hp}  {a1 : Int32} {a2 : Int32} {a3 : Int32} {a4 : Int32}  (h : CTs d y_M_setAside [.ref 98] σ (fun _ σ1 => 
    CTs d y_M_beginWorld [.ref 98] σ1 (fun _ σ2 => 
      (if a3 < 0 then 
        (WP c_M_missOf (CTs d) Q (26, [(0, .ref 98), (1, .int a1), (2, .int a2), (5, .long (0 : Int64)), (7, .int (0 : Int32))], []) σ2)
        else 
        (vp_in a3 16 ∧ (WP c_M_missOf (CTs d) Q (26, [(0, .ref 98), (1, .int a1), (2, .int a2), (5, .long (0 : Int64)), (7, .int (0 : Int32))], []) (sI σ2 105 (a3).toNatClampNeg a4))))))) : WP c_M_missOf (CTs d) Q (0, [(0, .ref 98), (1, .int a1), (2, .int a2), (3, .int a3), (4, .int a4)], []) σ := wp_cut (ms_mono y_M_missOf) (cts_cm d) (fun x => Nat.beq x 26) (fun x i => (cond (Nat.beq x 26) (Nat.beq i 0 || Nat.beq i 1 || Nat.beq i 2 || Nat.beq i 5 || Nat.beq i 7) false)) 23 h
set_option maxRecDepth 20000 in
theorem t_M_missOf_26 {d : Nat} {Q : Po} {σ : Hp}  {v1 : Int32} {v2 : Int32} {v5 : Int64} {v7 : Int32}  (h : vp_in v2 4 ∧ ((if (σ.1 120 (v2).toNatClampNeg) ≤ v7 then 
    (CTs d y_M_putBack [.ref 98] σ (fun _ σ1 => 
      Q (some (.long v5)) σ1))
    else 
    (vp_in (((40 : Int32) * v2) + v7) 160 ∧ (vp_in v1 16 ∧ ((if 0 ≤ (lg_cmp (σ.2 121 (((40 : Int32) * v2) + v7).toNatClampNeg) (0 : Int64)) then 
      ((if 0 ≤ (lg_cmp ((σ.2 121 (((40 : Int32) * v2) + v7).toNatClampNeg) - ((σ.1 105 (v1).toNatClampNeg)).toInt64) (0 : Int64)) then 
        (CTs d y_M_steps [.ref 98] σ (fun r2 σ2 => 
          WP c_M_missOf (CTs d) Q (26, [(0, .ref 98), (1, .int v1), (2, .int v2), (5, .long (v5 + ((σ.2 121 (((40 : Int32) * v2) + v7).toNatClampNeg) - ((σ.1 105 (v1).toNatClampNeg)).toInt64))), (7, .int (v7 + (1 : Int32)))], []) σ2))
        else 
        (CTs d y_M_steps [.ref 98] σ (fun r3 σ3 => 
          WP c_M_missOf (CTs d) Q (26, [(0, .ref 98), (1, .int v1), (2, .int v2), (5, .long (v5 + (-((σ.2 121 (((40 : Int32) * v2) + v7).toNatClampNeg) - ((σ.1 105 (v1).toNatClampNeg)).toInt64)))), (7, .int (v7 + (1 : Int32)))], []) σ3))))
      else 
      (CTs d y_M_steps [.ref 98] σ (fun r4 σ4 => 
        WP c_M_missOf (CTs d) Q (26, [(0, .ref 98), (1, .int v1), (2, .int v2), (5, .long (v5 + (0 : Int64))), (7, .int (v7 + (1 : Int32)))], []) σ4))))))))) : WP c_M_missOf (CTs d) Q (26, [(0, .ref 98), (1, .int v1), (2, .int v2), (5, .long v5), (7, .int v7)], []) σ := wp_cut (ms_mono y_M_missOf) (cts_cm d) (fun x => Nat.beq x 26) (fun x i => (cond (Nat.beq x 26) (Nat.beq i 0 || Nat.beq i 1 || Nat.beq i 2 || Nat.beq i 5 || Nat.beq i 7) false)) 68 h
theorem e_M_missOf {d : Nat} {Q : Po} {σ : Hp}  {a1 : Int32} {a2 : Int32} {a3 : Int32} {a4 : Int32}  (h : WP c_M_missOf (CTs d) Q (0, [(0, .ref 98), (1, .int a1), (2, .int a2), (3, .int a3), (4, .int a4)], []) σ) : CTs (d + 1) y_M_missOf [.ref 98, .int a1, .int a2, .int a3, .int a4] σ Q := h
set_option maxRecDepth 20000 in
theorem t_M_miss_0 {d : Nat} {Q : Po} {σ : Hp}  {a1 : Int32} {a2 : Int32}  (h : CTs d y_M_isThing [.ref 98, .int a1] σ (fun r1 σ1 => 
    (if (oI r1) = 0 then 
      (Q (some (.long (-1 : Int64))) σ1)
      else 
      (CTs d y_M_isShelf [.int a2] σ1 (fun r2 σ2 => 
        (if (oI r2) = 0 then 
          (Q (some (.long (-1 : Int64))) σ2)
          else 
          (CTs d y_M_of [.ref 98, .int a1, .int (0 : Int32)] σ2 (fun r3 σ3 => 
            (if (oI r3) = (1 : Int32) then 
              (CTs d y_M_lacksSort [.ref 98, .int a2, .int (2 : Int32)] σ3 (fun r4 σ4 => 
                (if (oI r4) = 0 then 
                  (CTs d y_M_missOf [.ref 98, .int a1, .int a2, .int (-1 : Int32), .int (0 : Int32)] σ4 (fun r5 σ5 => 
                    Q (some (.long (oL r5))) σ5))
                  else 
                  (Q (some (.long ((oI r4)).toInt64)) σ4))))
              else 
              (Q (some (.long (-13 : Int64))) σ3)))))))))) : WP c_M_miss (CTs d) Q (0, [(0, .ref 98), (1, .int a1), (2, .int a2)], []) σ := wp_cut (ms_mono y_M_miss) (cts_cm d) (fun x => false) (fun _ _ => false) 39 h
theorem e_M_miss {d : Nat} {Q : Po} {σ : Hp}  {a1 : Int32} {a2 : Int32}  (h : WP c_M_miss (CTs d) Q (0, [(0, .ref 98), (1, .int a1), (2, .int a2)], []) σ) : CTs (d + 1) y_M_miss [.ref 98, .int a1, .int a2] σ Q := h
set_option maxRecDepth 20000 in
theorem t_M_fit_0 {d : Nat} {Q : Po} {σ : Hp}  {a1 : Int32} {a2 : Int32} {a3 : Int32} {a4 : Int32} {a5 : Int32}  (h : CTs d y_M_isKind [.ref 98, .int a1, .int (5 : Int32)] σ (fun r1 σ1 => 
    (if (oI r1) = 0 then 
      (Q (some (.int (-2147483648 : Int32))) σ1)
      else 
      (CTs d y_M_isKind [.ref 98, .int a4, .int (1 : Int32)] σ1 (fun r2 σ2 => 
        (if (oI r2) = 0 then 
          (Q (some (.int (-2147483648 : Int32))) σ2)
          else 
          (CTs d y_M_isSpan [.int a2, .int a3] σ2 (fun r3 σ3 => 
            (if (oI r3) = 0 then 
              (Q (some (.int (-2147483648 : Int32))) σ3)
              else 
              (CTs d y_M_isShelf [.int a5] σ3 (fun r4 σ4 => 
                (if (oI r4) = 0 then 
                  (Q (some (.int (-2147483648 : Int32))) σ4)
                  else 
                  (CTs d y_M_isShelf [.int a5] σ4 (fun r5 σ5 => 
                    (if (oI r5) = 0 then 
                      (CTs d y_M_lacksSort [.ref 98, .int (0 : Int32), .int (2 : Int32)] σ5 (fun r6 σ6 => 
                        (if (oI r6) = 0 then 
                          (CTs d y_M_missOf [.ref 98, .int a4, .int a5, .int a1, .int a2] σ6 (fun r7 σ7 => 
                            WP c_M_fit (CTs d) Q (79, [(0, .ref 98), (1, .int a1), (2, .int a2), (3, .int a3), (4, .int a4), (5, .int a5), (6, .int a2), (7, .long (oL r7)), (9, .int (1 : Int32))], []) σ7))
                          else 
                          (Q (some (.int (-2147483648 : Int32))) σ6))))
                      else 
                      (CTs d y_M_lacksSort [.ref 98, .int a5, .int (2 : Int32)] σ5 (fun r8 σ8 => 
                        (if (oI r8) = 0 then 
                          (CTs d y_M_missOf [.ref 98, .int a4, .int a5, .int a1, .int a2] σ8 (fun r9 σ9 => 
                            WP c_M_fit (CTs d) Q (79, [(0, .ref 98), (1, .int a1), (2, .int a2), (3, .int a3), (4, .int a4), (5, .int a5), (6, .int a2), (7, .long (oL r9)), (9, .int (1 : Int32))], []) σ9))
                          else 
                          (Q (some (.int (-2147483648 : Int32))) σ8))))))))))))))))))) : WP c_M_fit (CTs d) Q (0, [(0, .ref 98), (1, .int a1), (2, .int a2), (3, .int a3), (4, .int a4), (5, .int a5)], []) σ := wp_cut (ms_mono y_M_fit) (cts_cm d) (fun x => Nat.beq x 79) (fun x i => (cond (Nat.beq x 79) (Nat.beq i 0 || Nat.beq i 1 || Nat.beq i 2 || Nat.beq i 3 || Nat.beq i 4 || Nat.beq i 5 || Nat.beq i 6 || Nat.beq i 7 || Nat.beq i 9) false)) 68 h
set_option maxRecDepth 20000 in
theorem t_M_fit_79 {d : Nat} {Q : Po} {σ : Hp}  {v1 : Int32} {v2 : Int32} {v3 : Int32} {v4 : Int32} {v5 : Int32} {v6 : Int32} {v7 : Int64} {v9 : Int32}  (h : (if (v3 - v2) < v9 then 
    (Q (some (.int v6)) σ)
    else 
    (CTs d y_M_missOf [.ref 98, .int v4, .int v5, .int v1, .int (v2 + v9)] σ (fun r1 σ1 => 
      (if 0 ≤ (lg_cmp (oL r1) v7) then 
        (WP c_M_fit (CTs d) Q (79, [(0, .ref 98), (1, .int v1), (2, .int v2), (3, .int v3), (4, .int v4), (5, .int v5), (6, .int v6), (7, .long v7), (9, .int (v9 + (1 : Int32)))], []) σ1)
        else 
        (WP c_M_fit (CTs d) Q (79, [(0, .ref 98), (1, .int v1), (2, .int v2), (3, .int v3), (4, .int v4), (5, .int v5), (6, .int (v2 + v9)), (7, .long (oL r1)), (9, .int (v9 + (1 : Int32)))], []) σ1)))))) : WP c_M_fit (CTs d) Q (79, [(0, .ref 98), (1, .int v1), (2, .int v2), (3, .int v3), (4, .int v4), (5, .int v5), (6, .int v6), (7, .long v7), (9, .int v9)], []) σ := wp_cut (ms_mono y_M_fit) (cts_cm d) (fun x => Nat.beq x 79) (fun x i => (cond (Nat.beq x 79) (Nat.beq i 0 || Nat.beq i 1 || Nat.beq i 2 || Nat.beq i 3 || Nat.beq i 4 || Nat.beq i 5 || Nat.beq i 6 || Nat.beq i 7 || Nat.beq i 9) false)) 34 h
theorem e_M_fit {d : Nat} {Q : Po} {σ : Hp}  {a1 : Int32} {a2 : Int32} {a3 : Int32} {a4 : Int32} {a5 : Int32}  (h : WP c_M_fit (CTs d) Q (0, [(0, .ref 98), (1, .int a1), (2, .int a2), (3, .int a3), (4, .int a4), (5, .int a5)], []) σ) : CTs (d + 1) y_M_fit [.ref 98, .int a1, .int a2, .int a3, .int a4, .int a5] σ Q := h
set_option maxRecDepth 20000 in
theorem t_M_prove_0 {d : Nat} {Q : Po} {σ : Hp}  {a1 : Int32}  (h : CTs d y_M_isThing [.ref 98, .int a1] σ (fun r1 σ1 => 
    (if (oI r1) = 0 then 
      (Q (some (.int (-1 : Int32))) σ1)
      else 
      (WP c_M_prove (CTs d) Q (22, [(0, .ref 98), (1, .int a1), (2, .int (0 : Int32))], []) (sI σ1 98 43 ((σ1.1 98 19) + (1 : Int32))))))) : WP c_M_prove (CTs d) Q (0, [(0, .ref 98), (1, .int a1)], []) σ := wp_cut (ms_mono y_M_prove) (cts_cm d) (fun x => Nat.beq x 22) (fun x i => (cond (Nat.beq x 22) (Nat.beq i 0 || Nat.beq i 1 || Nat.beq i 2) false)) 17 h
set_option maxRecDepth 20000 in
theorem t_M_prove_22 {d : Nat} {Q : Po} {σ : Hp}  {v1 : Int32} {v2 : Int32}  (h : (if (σ.1 98 19) < v2 then 
    (Q (some (.int (σ.1 98 43))) σ)
    else 
    (vp_in ((2 : Int32) * v2) 122 ∧ (CTs d y_M_was [.ref 98, .int v1, .int v2] (sI σ 118 ((2 : Int32) * v2).toNatClampNeg v2) (fun r1 σ1 => 
      vp_in (((2 : Int32) * v2) + (1 : Int32)) 122 ∧ (WP c_M_prove (CTs d) Q (22, [(0, .ref 98), (1, .int v1), (2, .int (v2 + (1 : Int32)))], []) (sI σ1 118 (((2 : Int32) * v2) + (1 : Int32)).toNatClampNeg (oI r1)))))))) : WP c_M_prove (CTs d) Q (22, [(0, .ref 98), (1, .int v1), (2, .int v2)], []) σ := wp_cut (ms_mono y_M_prove) (cts_cm d) (fun x => Nat.beq x 22) (fun x i => (cond (Nat.beq x 22) (Nat.beq i 0 || Nat.beq i 1 || Nat.beq i 2) false)) 31 h
theorem e_M_prove {d : Nat} {Q : Po} {σ : Hp}  {a1 : Int32}  (h : WP c_M_prove (CTs d) Q (0, [(0, .ref 98), (1, .int a1)], []) σ) : CTs (d + 1) y_M_prove [.ref 98, .int a1] σ Q := h
set_option maxRecDepth 20000 in
theorem t_M_isRow_0 {d : Nat} {Q : Po} {σ : Hp}  {a1 : Int32} {a2 : Int32}  (h : CTs d y_M_in [.int a1, .int (0 : Int32), .int ((σ.1 98 43) - (1 : Int32))] σ (fun r1 σ1 => 
    (if (oI r1) = 0 then 
      (vb (0 : Int32) ∧ Q (some (.int (0 : Int32))) σ1)
      else 
      (CTs d y_M_in [.int a2, .int (0 : Int32), .int (1 : Int32)] σ1 (fun r2 σ2 => 
        (if (oI r2) = 0 then 
          (vb (0 : Int32) ∧ Q (some (.int (0 : Int32))) σ2)
          else 
          (vb (1 : Int32) ∧ Q (some (.int (1 : Int32))) σ2))))))) : WP c_M_isRow (CTs d) Q (0, [(0, .ref 98), (1, .int a1), (2, .int a2)], []) σ := wp_cut (ms_mono y_M_isRow) (cts_cm d) (fun x => false) (fun _ _ => false) 22 h
theorem e_M_isRow {d : Nat} {Q : Po} {σ : Hp}  {a1 : Int32} {a2 : Int32}  (h : WP c_M_isRow (CTs d) Q (0, [(0, .ref 98), (1, .int a1), (2, .int a2)], []) σ) : CTs (d + 1) y_M_isRow [.ref 98, .int a1, .int a2] σ Q := h
set_option maxRecDepth 20000 in
theorem t_M_row_0 {d : Nat} {Q : Po} {σ : Hp}  {a1 : Int32} {a2 : Int32}  (h : CTs d y_M_isRow [.ref 98, .int a1, .int a2] σ (fun r1 σ1 => 
    (if (oI r1) = 0 then 
      (Q (some (.int (-2147483648 : Int32))) σ1)
      else 
      (vp_in (((2 : Int32) * a1) + a2) 122 ∧ (Q (some (.int (σ1.1 118 (((2 : Int32) * a1) + a2).toNatClampNeg))) σ1))))) : WP c_M_row (CTs d) Q (0, [(0, .ref 98), (1, .int a1), (2, .int a2)], []) σ := wp_cut (ms_mono y_M_row) (cts_cm d) (fun x => false) (fun _ _ => false) 19 h
theorem e_M_row {d : Nat} {Q : Po} {σ : Hp}  {a1 : Int32} {a2 : Int32}  (h : WP c_M_row (CTs d) Q (0, [(0, .ref 98), (1, .int a1), (2, .int a2)], []) σ) : CTs (d + 1) y_M_row [.ref 98, .int a1, .int a2] σ Q := h
set_option maxRecDepth 20000 in
theorem t_M_alterRow_0 {d : Nat} {Q : Po} {σ : Hp}  {a1 : Int32} {a2 : Int32} {a3 : Int32}  (h : CTs d y_M_isRow [.ref 98, .int a1, .int a2] σ (fun r1 σ1 => 
    (if (oI r1) = 0 then 
      (Q (some (.int (-2147483648 : Int32))) σ1)
      else 
      (vp_in (((2 : Int32) * a1) + a2) 122 ∧ (vp_in (((2 : Int32) * a1) + a2) 122 ∧ (Q (some (.int (σ1.1 118 (((2 : Int32) * a1) + a2).toNatClampNeg))) (sI σ1 118 (((2 : Int32) * a1) + a2).toNatClampNeg a3))))))) : WP c_M_alterRow (CTs d) Q (0, [(0, .ref 98), (1, .int a1), (2, .int a2), (3, .int a3)], []) σ := wp_cut (ms_mono y_M_alterRow) (cts_cm d) (fun x => false) (fun _ _ => false) 29 h
theorem e_M_alterRow {d : Nat} {Q : Po} {σ : Hp}  {a1 : Int32} {a2 : Int32} {a3 : Int32}  (h : WP c_M_alterRow (CTs d) Q (0, [(0, .ref 98), (1, .int a1), (2, .int a2), (3, .int a3)], []) σ) : CTs (d + 1) y_M_alterRow [.ref 98, .int a1, .int a2, .int a3] σ Q := h
set_option maxRecDepth 20000 in
theorem t_M_judge_0 {d : Nat} {Q : Po} {σ : Hp}  {a1 : Int32}  (h : CTs d y_M_isThing [.ref 98, .int a1] σ (fun r1 σ1 => 
    (if (oI r1) = 0 then 
      (Q (some (.int (-1 : Int32))) σ1)
      else 
      (WP c_M_judge (CTs d) Q (12, [(0, .ref 98), (1, .int a1), (2, .int (0 : Int32))], []) σ1)))) : WP c_M_judge (CTs d) Q (0, [(0, .ref 98), (1, .int a1)], []) σ := wp_cut (ms_mono y_M_judge) (cts_cm d) (fun x => Nat.beq x 12) (fun x i => (cond (Nat.beq x 12) (Nat.beq i 0 || Nat.beq i 1 || Nat.beq i 2) false)) 11 h
set_option maxRecDepth 20000 in
theorem t_M_judge_12 {d : Nat} {Q : Po} {σ : Hp}  {v1 : Int32} {v2 : Int32}  (h : (if (σ.1 98 43) ≤ v2 then 
    ((if (σ.1 98 19) < (σ.1 98 43) then 
      (Q (some (.int (0 : Int32))) σ)
      else 
      (Q (some (.int (222 : Int32))) σ)))
    else 
    (vp_in ((2 : Int32) * v2) 122 ∧ ((if (σ.1 118 ((2 : Int32) * v2).toNatClampNeg) = v2 then 
      ((if (σ.1 98 19) < v2 then 
        (Q (some (.int (v2 + (1 : Int32)))) σ)
        else 
        (vp_in (((2 : Int32) * v2) + (1 : Int32)) 122 ∧ (CTs d y_M_was [.ref 98, .int v1, .int v2] σ (fun r1 σ1 => 
          (if (σ.1 118 (((2 : Int32) * v2) + (1 : Int32)).toNatClampNeg) = (oI r1) then 
            (WP c_M_judge (CTs d) Q (12, [(0, .ref 98), (1, .int v1), (2, .int (v2 + (1 : Int32)))], []) σ1)
            else 
            (Q (some (.int (v2 + (1 : Int32)))) σ1)))))))
      else 
      (Q (some (.int (v2 + (1 : Int32)))) σ)))))) : WP c_M_judge (CTs d) Q (12, [(0, .ref 98), (1, .int v1), (2, .int v2)], []) σ := wp_cut (ms_mono y_M_judge) (cts_cm d) (fun x => Nat.beq x 12) (fun x i => (cond (Nat.beq x 12) (Nat.beq i 0 || Nat.beq i 1 || Nat.beq i 2) false)) 56 h
theorem e_M_judge {d : Nat} {Q : Po} {σ : Hp}  {a1 : Int32}  (h : WP c_M_judge (CTs d) Q (0, [(0, .ref 98), (1, .int a1)], []) σ) : CTs (d + 1) y_M_judge [.ref 98, .int a1] σ Q := h
set_option maxRecDepth 20000 in
theorem t_M_isShelf_0 {d : Nat} {Q : Po} {σ : Hp}  {a0 : Int32}  (h : CTs d y_M_in [.int a0, .int (0 : Int32), .int (3 : Int32)] σ (fun r1 σ1 => 
    vb (oI r1) ∧ Q (some (.int (oI r1))) σ1)) : WP c_M_isShelf (CTs d) Q (0, [(0, .int a0)], []) σ := wp_cut (ms_mono y_M_isShelf) (cts_cm d) (fun x => false) (fun _ _ => false) 7 h
theorem e_M_isShelf {d : Nat} {Q : Po} {σ : Hp}  {a0 : Int32}  (h : WP c_M_isShelf (CTs d) Q (0, [(0, .int a0)], []) σ) : CTs (d + 1) y_M_isShelf [.int a0] σ Q := h
set_option maxRecDepth 20000 in
theorem t_M_sheet_0 {d : Nat} {Q : Po} {σ : Hp}  {a1 : Int32} {a2 : Int32} {a3 : Int32}  (h : CTs d y_M_isShelf [.int a1] σ (fun r1 σ1 => 
    (if (oI r1) = 0 then 
      (Q (some (.int (-1 : Int32))) σ1)
      else 
      (CTs d y_M_in [.int a2, .int (-1 : Int32), .int (3 : Int32)] σ1 (fun r2 σ2 => 
        (if (oI r2) = 0 then 
          (Q (some (.int (-1 : Int32))) σ2)
          else 
          ((if a2 < 0 then 
            ((if a2 < 0 then 
              (vp_in a1 4 ∧ ((if 0 ≤ a2 then 
                (vp_in a1 4 ∧ (WP c_M_sheet (CTs d) Q (64, [(0, .ref 98), (1, .int a1), (4, .int (0 : Int32))], []) (sI (sI σ2 119 (a1).toNatClampNeg a2) 120 (a1).toNatClampNeg a3)))
                else 
                (vp_in a1 4 ∧ (WP c_M_sheet (CTs d) Q (64, [(0, .ref 98), (1, .int a1), (4, .int (0 : Int32))], []) (sI (sI σ2 119 (a1).toNatClampNeg a2) 120 (a1).toNatClampNeg (0 : Int32)))))))
              else 
              ((if 0 ≤ a3 then 
                (vp_in a1 4 ∧ ((if 0 ≤ a2 then 
                  (vp_in a1 4 ∧ (WP c_M_sheet (CTs d) Q (64, [(0, .ref 98), (1, .int a1), (4, .int (0 : Int32))], []) (sI (sI σ2 119 (a1).toNatClampNeg a2) 120 (a1).toNatClampNeg a3)))
                  else 
                  (vp_in a1 4 ∧ (WP c_M_sheet (CTs d) Q (64, [(0, .ref 98), (1, .int a1), (4, .int (0 : Int32))], []) (sI (sI σ2 119 (a1).toNatClampNeg a2) 120 (a1).toNatClampNeg (0 : Int32)))))))
                else 
                (Q (some (.int (-14 : Int32))) σ2)))))
            else 
            ((if a3 ≤ (40 : Int32) then 
              ((if a2 < 0 then 
                (vp_in a1 4 ∧ ((if 0 ≤ a2 then 
                  (vp_in a1 4 ∧ (WP c_M_sheet (CTs d) Q (64, [(0, .ref 98), (1, .int a1), (4, .int (0 : Int32))], []) (sI (sI σ2 119 (a1).toNatClampNeg a2) 120 (a1).toNatClampNeg a3)))
                  else 
                  (vp_in a1 4 ∧ (WP c_M_sheet (CTs d) Q (64, [(0, .ref 98), (1, .int a1), (4, .int (0 : Int32))], []) (sI (sI σ2 119 (a1).toNatClampNeg a2) 120 (a1).toNatClampNeg (0 : Int32)))))))
                else 
                ((if 0 ≤ a3 then 
                  (vp_in a1 4 ∧ ((if 0 ≤ a2 then 
                    (vp_in a1 4 ∧ (WP c_M_sheet (CTs d) Q (64, [(0, .ref 98), (1, .int a1), (4, .int (0 : Int32))], []) (sI (sI σ2 119 (a1).toNatClampNeg a2) 120 (a1).toNatClampNeg a3)))
                    else 
                    (vp_in a1 4 ∧ (WP c_M_sheet (CTs d) Q (64, [(0, .ref 98), (1, .int a1), (4, .int (0 : Int32))], []) (sI (sI σ2 119 (a1).toNatClampNeg a2) 120 (a1).toNatClampNeg (0 : Int32)))))))
                  else 
                  (Q (some (.int (-14 : Int32))) σ2)))))
              else 
              (Q (some (.int (-1 : Int32))) σ2))))))))))) : WP c_M_sheet (CTs d) Q (0, [(0, .ref 98), (1, .int a1), (2, .int a2), (3, .int a3)], []) σ := wp_cut (ms_mono y_M_sheet) (cts_cm d) (fun x => Nat.beq x 64) (fun x i => (cond (Nat.beq x 64) (Nat.beq i 0 || Nat.beq i 1 || Nat.beq i 4) false)) 117 h
set_option maxRecDepth 20000 in
theorem t_M_sheet_64 {d : Nat} {Q : Po} {σ : Hp}  {v1 : Int32} {v4 : Int32}  (h : (if (40 : Int32) ≤ v4 then 
    (Q (some (.int (1 : Int32))) σ)
    else 
    (vp_in (((40 : Int32) * v1) + v4) 160 ∧ (WP c_M_sheet (CTs d) Q (64, [(0, .ref 98), (1, .int v1), (4, .int (v4 + (1 : Int32)))], []) (sL σ 121 (((40 : Int32) * v1) + v4).toNatClampNeg (0 : Int64)))))) : WP c_M_sheet (CTs d) Q (64, [(0, .ref 98), (1, .int v1), (4, .int v4)], []) σ := wp_cut (ms_mono y_M_sheet) (cts_cm d) (fun x => Nat.beq x 64) (fun x i => (cond (Nat.beq x 64) (Nat.beq i 0 || Nat.beq i 1 || Nat.beq i 4) false)) 19 h
theorem e_M_sheet {d : Nat} {Q : Po} {σ : Hp}  {a1 : Int32} {a2 : Int32} {a3 : Int32}  (h : WP c_M_sheet (CTs d) Q (0, [(0, .ref 98), (1, .int a1), (2, .int a2), (3, .int a3)], []) σ) : CTs (d + 1) y_M_sheet [.ref 98, .int a1, .int a2, .int a3] σ Q := h
set_option maxRecDepth 20000 in
theorem t_M_put_0 {d : Nat} {Q : Po} {σ : Hp}  {a1 : Int32} {a2 : Int32} {a3 : Int32}  (h : CTs d y_M_isShelf [.int a1] σ (fun r1 σ1 => 
    (if (oI r1) = 0 then 
      (Q (some (.int (-1 : Int32))) σ1)
      else 
      (vp_in a1 4 ∧ ((if 0 ≤ (σ1.1 119 (a1).toNatClampNeg) then 
        (vp_in a1 4 ∧ (CTs d y_M_in [.int a2, .int (0 : Int32), .int ((σ1.1 120 (a1).toNatClampNeg) - (1 : Int32))] σ1 (fun r2 σ2 => 
          (if (oI r2) = 0 then 
            (Q (some (.int (-12 : Int32))) σ2)
            else 
            (vp_in a1 4 ∧ ((if (σ2.1 119 (a1).toNatClampNeg) = 0 then 
              (vp_in (((40 : Int32) * a1) + a2) 160 ∧ (Q (some (.int (1 : Int32))) (sL σ2 121 (((40 : Int32) * a1) + a2).toNatClampNeg ((a3.toInt8.toInt32)).toInt64)))
              else 
              (vp_in a1 4 ∧ ((if (σ2.1 119 (a1).toNatClampNeg) = (1 : Int32) then 
                (vp_in (((40 : Int32) * a1) + a2) 160 ∧ (Q (some (.int (1 : Int32))) (sL σ2 121 (((40 : Int32) * a1) + a2).toNatClampNeg ((a3.toInt16.toInt32)).toInt64)))
                else 
                (vp_in (((40 : Int32) * a1) + a2) 160 ∧ (Q (some (.int (1 : Int32))) (sL σ2 121 (((40 : Int32) * a1) + a2).toNatClampNeg (a3).toInt64)))))))))))))
        else 
        (Q (some (.int (-11 : Int32))) σ1))))))) : WP c_M_put (CTs d) Q (0, [(0, .ref 98), (1, .int a1), (2, .int a2), (3, .int a3)], []) σ := wp_cut (ms_mono y_M_put) (cts_cm d) (fun x => false) (fun _ _ => false) 63 h
theorem e_M_put {d : Nat} {Q : Po} {σ : Hp}  {a1 : Int32} {a2 : Int32} {a3 : Int32}  (h : WP c_M_put (CTs d) Q (0, [(0, .ref 98), (1, .int a1), (2, .int a2), (3, .int a3)], []) σ) : CTs (d + 1) y_M_put [.ref 98, .int a1, .int a2, .int a3] σ Q := h
set_option maxRecDepth 20000 in
theorem t_M_lacksSort_0 {d : Nat} {Q : Po} {σ : Hp}  {a1 : Int32} {a2 : Int32}  (h : vp_in a1 4 ∧ ((if 0 ≤ (σ.1 119 (a1).toNatClampNeg) then 
    (vp_in a1 4 ∧ ((if (σ.1 119 (a1).toNatClampNeg) = a2 then 
      (Q (some (.int (0 : Int32))) σ)
      else 
      (Q (some (.int (-13 : Int32))) σ))))
    else 
    (Q (some (.int (-11 : Int32))) σ)))) : WP c_M_lacksSort (CTs d) Q (0, [(0, .ref 98), (1, .int a1), (2, .int a2)], []) σ := wp_cut (ms_mono y_M_lacksSort) (cts_cm d) (fun x => false) (fun _ _ => false) 21 h
theorem e_M_lacksSort {d : Nat} {Q : Po} {σ : Hp}  {a1 : Int32} {a2 : Int32}  (h : WP c_M_lacksSort (CTs d) Q (0, [(0, .ref 98), (1, .int a1), (2, .int a2)], []) σ) : CTs (d + 1) y_M_lacksSort [.ref 98, .int a1, .int a2] σ Q := h
set_option maxRecDepth 20000 in
theorem t_M_item_0 {d : Nat} {Q : Po} {σ : Hp}  {a1 : Int32} {a2 : Int32} {a3 : Int32}  (h : CTs d y_M_isShelf [.int a1] σ (fun r1 σ1 => 
    (if (oI r1) = 0 then 
      (Q (some (.int (-1 : Int32))) σ1)
      else 
      (CTs d y_M_in [.int a2, .int (0 : Int32), .int (3 : Int32)] σ1 (fun r2 σ2 => 
        (if (oI r2) = 0 then 
          (Q (some (.int (-1 : Int32))) σ2)
          else 
          (CTs d y_M_lacksSort [.ref 98, .int a1, .int a2] σ2 (fun r3 σ3 => 
            (if (oI r3) = 0 then 
              (vp_in a1 4 ∧ (CTs d y_M_in [.int a3, .int (0 : Int32), .int ((σ3.1 120 (a1).toNatClampNeg) - (1 : Int32))] σ3 (fun r4 σ4 => 
                (if (oI r4) = 0 then 
                  (Q (some (.int (-12 : Int32))) σ4)
                  else 
                  (vp_in (((40 : Int32) * a1) + a3) 160 ∧ (Q (some (.int ((σ4.2 121 (((40 : Int32) * a1) + a3).toNatClampNeg)).toInt32)) σ4))))))
              else 
              (Q (some (.int (oI r3))) σ3)))))))))) : WP c_M_item (CTs d) Q (0, [(0, .ref 98), (1, .int a1), (2, .int a2), (3, .int a3)], []) σ := wp_cut (ms_mono y_M_item) (cts_cm d) (fun x => false) (fun _ _ => false) 46 h
theorem e_M_item {d : Nat} {Q : Po} {σ : Hp}  {a1 : Int32} {a2 : Int32} {a3 : Int32}  (h : WP c_M_item (CTs d) Q (0, [(0, .ref 98), (1, .int a1), (2, .int a2), (3, .int a3)], []) σ) : CTs (d + 1) y_M_item [.ref 98, .int a1, .int a2, .int a3] σ Q := h
set_option maxRecDepth 20000 in
theorem t_M_isHeld_0 {d : Nat} {Q : Po} {σ : Hp}  {a1 : Int32} {a2 : Int32}  (h : (if a1 = 0 then 
    (CTs d y_M_isThing [.ref 98, .int a2] σ (fun r2 σ2 => 
      vb (oI r2) ∧ Q (some (.int (oI r2))) σ2))
    else 
    ((if a1 = (1 : Int32) then 
      (CTs d y_M_isShelf [.int a2] σ (fun r1 σ1 => 
        vb (oI r1) ∧ Q (some (.int (oI r1))) σ1))
      else 
      ((if a1 = (2 : Int32) then 
        (vb (1 : Int32) ∧ Q (some (.int (1 : Int32))) σ)
        else 
        (vb (0 : Int32) ∧ Q (some (.int (0 : Int32))) σ))))))) : WP c_M_isHeld (CTs d) Q (0, [(0, .ref 98), (1, .int a1), (2, .int a2)], []) σ := wp_cut (ms_mono y_M_isHeld) (cts_cm d) (fun x => false) (fun _ _ => false) 24 h
theorem e_M_isHeld {d : Nat} {Q : Po} {σ : Hp}  {a1 : Int32} {a2 : Int32}  (h : WP c_M_isHeld (CTs d) Q (0, [(0, .ref 98), (1, .int a1), (2, .int a2)], []) σ) : CTs (d + 1) y_M_isHeld [.ref 98, .int a1, .int a2] σ Q := h
set_option maxRecDepth 20000 in
theorem t_M_shelf_0 {d : Nat} {Q : Po} {σ : Hp}  {a1 : Int32} {a2 : Int32} {a3 : Int32}  (h : CTs d y_M_isShelf [.int a1] σ (fun r1 σ1 => 
    (if (oI r1) = 0 then 
      (Q (some (.int (-1 : Int32))) σ1)
      else 
      (CTs d y_M_isHeld [.ref 98, .int a2, .int a3] σ1 (fun r2 σ2 => 
        (if (oI r2) = 0 then 
          (Q (some (.int (-1 : Int32))) σ2)
          else 
          ((if a2 = (2 : Int32) then 
            (vp_in a1 4 ∧ ((if a2 = (1 : Int32) then 
              (vp_in a3 4 ∧ (vp_in a1 4 ∧ ((if a2 = (1 : Int32) then 
                (vp_in a3 4 ∧ (vp_in a1 4 ∧ (Q (some (.int (1 : Int32))) (sI (sI (sI σ2 122 (a1).toNatClampNeg (-1 : Int32)) 123 (a1).toNatClampNeg (σ2.1 119 (a3).toNatClampNeg)) 124 (a1).toNatClampNeg (σ2.1 120 (a3).toNatClampNeg)))))
                else 
                (vp_in a1 4 ∧ (Q (some (.int (1 : Int32))) (sI (sI (sI σ2 122 (a1).toNatClampNeg (-1 : Int32)) 123 (a1).toNatClampNeg (σ2.1 119 (a3).toNatClampNeg)) 124 (a1).toNatClampNeg (0 : Int32))))))))
              else 
              (vp_in a1 4 ∧ ((if a2 = (1 : Int32) then 
                (vp_in a3 4 ∧ (vp_in a1 4 ∧ (Q (some (.int (1 : Int32))) (sI (sI (sI σ2 122 (a1).toNatClampNeg (-1 : Int32)) 123 (a1).toNatClampNeg a3) 124 (a1).toNatClampNeg (σ2.1 120 (a3).toNatClampNeg)))))
                else 
                (vp_in a1 4 ∧ (Q (some (.int (1 : Int32))) (sI (sI (sI σ2 122 (a1).toNatClampNeg (-1 : Int32)) 123 (a1).toNatClampNeg a3) 124 (a1).toNatClampNeg (0 : Int32))))))))))
            else 
            ((if a2 = (1 : Int32) then 
              (vp_in a3 4 ∧ ((if 0 ≤ (σ2.1 119 (a3).toNatClampNeg) then 
                (vp_in a1 4 ∧ ((if a2 = (1 : Int32) then 
                  (vp_in a3 4 ∧ (vp_in a1 4 ∧ ((if a2 = (1 : Int32) then 
                    (vp_in a3 4 ∧ (vp_in a1 4 ∧ (Q (some (.int (1 : Int32))) (sI (sI (sI σ2 122 (a1).toNatClampNeg a2) 123 (a1).toNatClampNeg (σ2.1 119 (a3).toNatClampNeg)) 124 (a1).toNatClampNeg (σ2.1 120 (a3).toNatClampNeg)))))
                    else 
                    (vp_in a1 4 ∧ (Q (some (.int (1 : Int32))) (sI (sI (sI σ2 122 (a1).toNatClampNeg a2) 123 (a1).toNatClampNeg (σ2.1 119 (a3).toNatClampNeg)) 124 (a1).toNatClampNeg (0 : Int32))))))))
                  else 
                  (vp_in a1 4 ∧ ((if a2 = (1 : Int32) then 
                    (vp_in a3 4 ∧ (vp_in a1 4 ∧ (Q (some (.int (1 : Int32))) (sI (sI (sI σ2 122 (a1).toNatClampNeg a2) 123 (a1).toNatClampNeg a3) 124 (a1).toNatClampNeg (σ2.1 120 (a3).toNatClampNeg)))))
                    else 
                    (vp_in a1 4 ∧ (Q (some (.int (1 : Int32))) (sI (sI (sI σ2 122 (a1).toNatClampNeg a2) 123 (a1).toNatClampNeg a3) 124 (a1).toNatClampNeg (0 : Int32))))))))))
                else 
                (vp_in a1 4 ∧ ((if a2 = (1 : Int32) then 
                  (vp_in a3 4 ∧ (vp_in a1 4 ∧ ((if a2 = (1 : Int32) then 
                    (vp_in a3 4 ∧ (vp_in a1 4 ∧ (Q (some (.int (1 : Int32))) (sI (sI (sI σ2 122 (a1).toNatClampNeg (-1 : Int32)) 123 (a1).toNatClampNeg (σ2.1 119 (a3).toNatClampNeg)) 124 (a1).toNatClampNeg (σ2.1 120 (a3).toNatClampNeg)))))
                    else 
                    (vp_in a1 4 ∧ (Q (some (.int (1 : Int32))) (sI (sI (sI σ2 122 (a1).toNatClampNeg (-1 : Int32)) 123 (a1).toNatClampNeg (σ2.1 119 (a3).toNatClampNeg)) 124 (a1).toNatClampNeg (0 : Int32))))))))
                  else 
                  (vp_in a1 4 ∧ ((if a2 = (1 : Int32) then 
                    (vp_in a3 4 ∧ (vp_in a1 4 ∧ (Q (some (.int (1 : Int32))) (sI (sI (sI σ2 122 (a1).toNatClampNeg (-1 : Int32)) 123 (a1).toNatClampNeg a3) 124 (a1).toNatClampNeg (σ2.1 120 (a3).toNatClampNeg)))))
                    else 
                    (vp_in a1 4 ∧ (Q (some (.int (1 : Int32))) (sI (sI (sI σ2 122 (a1).toNatClampNeg (-1 : Int32)) 123 (a1).toNatClampNeg a3) 124 (a1).toNatClampNeg (0 : Int32)))))))))))))
              else 
              (vp_in a1 4 ∧ ((if a2 = (1 : Int32) then 
                (vp_in a3 4 ∧ (vp_in a1 4 ∧ ((if a2 = (1 : Int32) then 
                  (vp_in a3 4 ∧ (vp_in a1 4 ∧ (Q (some (.int (1 : Int32))) (sI (sI (sI σ2 122 (a1).toNatClampNeg a2) 123 (a1).toNatClampNeg (σ2.1 119 (a3).toNatClampNeg)) 124 (a1).toNatClampNeg (σ2.1 120 (a3).toNatClampNeg)))))
                  else 
                  (vp_in a1 4 ∧ (Q (some (.int (1 : Int32))) (sI (sI (sI σ2 122 (a1).toNatClampNeg a2) 123 (a1).toNatClampNeg (σ2.1 119 (a3).toNatClampNeg)) 124 (a1).toNatClampNeg (0 : Int32))))))))
                else 
                (vp_in a1 4 ∧ ((if a2 = (1 : Int32) then 
                  (vp_in a3 4 ∧ (vp_in a1 4 ∧ (Q (some (.int (1 : Int32))) (sI (sI (sI σ2 122 (a1).toNatClampNeg a2) 123 (a1).toNatClampNeg a3) 124 (a1).toNatClampNeg (σ2.1 120 (a3).toNatClampNeg)))))
                  else 
                  (vp_in a1 4 ∧ (Q (some (.int (1 : Int32))) (sI (sI (sI σ2 122 (a1).toNatClampNeg a2) 123 (a1).toNatClampNeg a3) 124 (a1).toNatClampNeg (0 : Int32)))))))))))))))))))) : WP c_M_shelf (CTs d) Q (0, [(0, .ref 98), (1, .int a1), (2, .int a2), (3, .int a3)], []) σ := wp_cut (ms_mono y_M_shelf) (cts_cm d) (fun x => false) (fun _ _ => false) 238 h
theorem e_M_shelf {d : Nat} {Q : Po} {σ : Hp}  {a1 : Int32} {a2 : Int32} {a3 : Int32}  (h : WP c_M_shelf (CTs d) Q (0, [(0, .ref 98), (1, .int a1), (2, .int a2), (3, .int a3)], []) σ) : CTs (d + 1) y_M_shelf [.ref 98, .int a1, .int a2, .int a3] σ Q := h
set_option maxRecDepth 20000 in
theorem t_M_kindOn_0 {d : Nat} {Q : Po} {σ : Hp}  {a1 : Int32}  (h : vp_in a1 4 ∧ ((if (σ.1 122 (a1).toNatClampNeg) = 0 then 
    (vp_in a1 4 ∧ (CTs d y_M_isThing [.ref 98, .int (σ.1 123 (a1).toNatClampNeg)] σ (fun r1 σ1 => 
      (if (oI r1) = 0 then 
        (Q (some (.int (-1 : Int32))) σ1)
        else 
        (vp_in a1 4 ∧ (CTs d y_M_of [.ref 98, .int (σ1.1 123 (a1).toNatClampNeg), .int (0 : Int32)] σ1 (fun r2 σ2 => 
          Q (some (.int (oI r2))) σ2)))))))
    else 
    (vp_in a1 4 ∧ ((if 0 ≤ (σ.1 122 (a1).toNatClampNeg) then 
      (Q (some (.int (9 : Int32))) σ)
      else 
      (Q (some (.int (-1 : Int32))) σ))))))) : WP c_M_kindOn (CTs d) Q (0, [(0, .ref 98), (1, .int a1)], []) σ := wp_cut (ms_mono y_M_kindOn) (cts_cm d) (fun x => false) (fun _ _ => false) 35 h
theorem e_M_kindOn {d : Nat} {Q : Po} {σ : Hp}  {a1 : Int32}  (h : WP c_M_kindOn (CTs d) Q (0, [(0, .ref 98), (1, .int a1)], []) σ) : CTs (d + 1) y_M_kindOn [.ref 98, .int a1] σ Q := h
set_option maxRecDepth 20000 in
theorem t_M_isUnder_0 {d : Nat} {Q : Po} {σ : Hp}  {a0 : Int32} {a1 : Int32}  (h : (if a1 = 0 then 
    (vb (1 : Int32) ∧ Q (some (.int (1 : Int32))) σ)
    else 
    ((if a1 = a0 then 
      (vb (1 : Int32) ∧ Q (some (.int (1 : Int32))) σ)
      else 
      ((if a1 = (1 : Int32) then 
        ((if a0 = (2 : Int32) then 
          (vb (1 : Int32) ∧ Q (some (.int (1 : Int32))) σ)
          else 
          ((if a1 = (3 : Int32) then 
            ((if a0 = (4 : Int32) then 
              (vb (1 : Int32) ∧ Q (some (.int (1 : Int32))) σ)
              else 
              ((if a1 = (5 : Int32) then 
                ((if a0 = (6 : Int32) then 
                  (vb (1 : Int32) ∧ Q (some (.int (1 : Int32))) σ)
                  else 
                  (vb (0 : Int32) ∧ Q (some (.int (0 : Int32))) σ)))
                else 
                (vb (0 : Int32) ∧ Q (some (.int (0 : Int32))) σ)))))
            else 
            ((if a1 = (5 : Int32) then 
              ((if a0 = (6 : Int32) then 
                (vb (1 : Int32) ∧ Q (some (.int (1 : Int32))) σ)
                else 
                (vb (0 : Int32) ∧ Q (some (.int (0 : Int32))) σ)))
              else 
              (vb (0 : Int32) ∧ Q (some (.int (0 : Int32))) σ)))))))
        else 
        ((if a1 = (3 : Int32) then 
          ((if a0 = (4 : Int32) then 
            (vb (1 : Int32) ∧ Q (some (.int (1 : Int32))) σ)
            else 
            ((if a1 = (5 : Int32) then 
              ((if a0 = (6 : Int32) then 
                (vb (1 : Int32) ∧ Q (some (.int (1 : Int32))) σ)
                else 
                (vb (0 : Int32) ∧ Q (some (.int (0 : Int32))) σ)))
              else 
              (vb (0 : Int32) ∧ Q (some (.int (0 : Int32))) σ)))))
          else 
          ((if a1 = (5 : Int32) then 
            ((if a0 = (6 : Int32) then 
              (vb (1 : Int32) ∧ Q (some (.int (1 : Int32))) σ)
              else 
              (vb (0 : Int32) ∧ Q (some (.int (0 : Int32))) σ)))
            else 
            (vb (0 : Int32) ∧ Q (some (.int (0 : Int32))) σ))))))))))) : WP c_M_isUnder (CTs d) Q (0, [(0, .int a0), (1, .int a1)], []) σ := wp_cut (ms_mono y_M_isUnder) (cts_cm d) (fun x => false) (fun _ _ => false) 92 h
theorem e_M_isUnder {d : Nat} {Q : Po} {σ : Hp}  {a0 : Int32} {a1 : Int32}  (h : WP c_M_isUnder (CTs d) Q (0, [(0, .int a0), (1, .int a1)], []) σ) : CTs (d + 1) y_M_isUnder [.int a0, .int a1] σ Q := h
set_option maxRecDepth 20000 in
theorem t_M_taken_0 {d : Nat} {Q : Po} {σ : Hp}  {a1 : Int32} {a2 : Int32}  (h : CTs d y_M_isShelf [.int a1] σ (fun r1 σ1 => 
    (if (oI r1) = 0 then 
      (Q (some (.int (-1 : Int32))) σ1)
      else 
      (CTs d y_M_in [.int a2, .int (0 : Int32), .int (6 : Int32)] σ1 (fun r2 σ2 => 
        (if (oI r2) = 0 then 
          (CTs d y_M_in [.int a2, .int (10 : Int32), .int (13 : Int32)] σ2 (fun r5 σ5 => 
            (if (oI r5) = 0 then 
              (Q (some (.int (-1 : Int32))) σ5)
              else 
              (CTs d y_M_kindOn [.ref 98, .int a1] σ5 (fun r6 σ6 => 
                (if 0 ≤ (oI r6) then 
                  ((if (oI r6) = (9 : Int32) then 
                    (vp_in a1 4 ∧ ((if a2 = ((10 : Int32) + (σ6.1 123 (a1).toNatClampNeg)) then 
                      (vp_in a1 4 ∧ (Q (some (.int (σ6.1 124 (a1).toNatClampNeg))) σ6))
                      else 
                      (Q (some (.int (-13 : Int32))) σ6))))
                    else 
                    ((if (10 : Int32) ≤ a2 then 
                      (Q (some (.int (-13 : Int32))) σ6)
                      else 
                      (CTs d y_M_isUnder [.int (oI r6), .int a2] σ6 (fun r7 σ7 => 
                        (if (oI r7) = 0 then 
                          (Q (some (.int (-13 : Int32))) σ7)
                          else 
                          (vp_in a1 4 ∧ (Q (some (.int (σ7.1 123 (a1).toNatClampNeg))) σ7)))))))))
                  else 
                  (Q (some (.int (-11 : Int32))) σ6)))))))
          else 
          (CTs d y_M_kindOn [.ref 98, .int a1] σ2 (fun r3 σ3 => 
            (if 0 ≤ (oI r3) then 
              ((if (oI r3) = (9 : Int32) then 
                (vp_in a1 4 ∧ ((if a2 = ((10 : Int32) + (σ3.1 123 (a1).toNatClampNeg)) then 
                  (vp_in a1 4 ∧ (Q (some (.int (σ3.1 124 (a1).toNatClampNeg))) σ3))
                  else 
                  (Q (some (.int (-13 : Int32))) σ3))))
                else 
                ((if (10 : Int32) ≤ a2 then 
                  (Q (some (.int (-13 : Int32))) σ3)
                  else 
                  (CTs d y_M_isUnder [.int (oI r3), .int a2] σ3 (fun r4 σ4 => 
                    (if (oI r4) = 0 then 
                      (Q (some (.int (-13 : Int32))) σ4)
                      else 
                      (vp_in a1 4 ∧ (Q (some (.int (σ4.1 123 (a1).toNatClampNeg))) σ4)))))))))
              else 
              (Q (some (.int (-11 : Int32))) σ3)))))))))) : WP c_M_taken (CTs d) Q (0, [(0, .ref 98), (1, .int a1), (2, .int a2)], []) σ := wp_cut (ms_mono y_M_taken) (cts_cm d) (fun x => false) (fun _ _ => false) 107 h
theorem e_M_taken {d : Nat} {Q : Po} {σ : Hp}  {a1 : Int32} {a2 : Int32}  (h : WP c_M_taken (CTs d) Q (0, [(0, .ref 98), (1, .int a1), (2, .int a2)], []) σ) : CTs (d + 1) y_M_taken [.ref 98, .int a1, .int a2] σ Q := h
set_option maxRecDepth 20000 in
theorem t_M_ran_0 {d : Nat} {Q : Po} {σ : Hp}  {a1 : Int32}  (h : (if (30 : Int32) ≤ (σ.1 98 54) then 
    (Q none σ)
    else 
    (vp_in (σ.1 98 54) 30 ∧ (Q none (sI (sI σ 125 (σ.1 98 54).toNatClampNeg a1) 98 54 ((σ.1 98 54) + (1 : Int32))))))) : WP c_M_ran (CTs d) Q (0, [(0, .ref 98), (1, .int a1)], []) σ := wp_cut (ms_mono y_M_ran) (cts_cm d) (fun x => false) (fun _ _ => false) 20 h
theorem e_M_ran {d : Nat} {Q : Po} {σ : Hp}  {a1 : Int32}  (h : WP c_M_ran (CTs d) Q (0, [(0, .ref 98), (1, .int a1)], []) σ) : CTs (d + 1) y_M_ran [.ref 98, .int a1] σ Q := h
set_option maxRecDepth 20000 in
theorem t_M_readsIt_0 {d : Nat} {Q : Po} {σ : Hp}  {a1 : Int32}  (h : (if (σ.1 98 50) = (2 : Int32) then 
    ((if (30 : Int32) ≤ 0 then 
      (WP c_M_readsIt (CTs d) Q (59, [(0, .ref 98), (1, .int a1), (2, .int (30 : Int32))], []) σ)
      else 
      (CTs d y_M_ran [.ref 98, .int (30 : Int32)] σ (fun _ σ5 => 
        WP c_M_readsIt (CTs d) Q (59, [(0, .ref 98), (1, .int a1), (2, .int (30 : Int32))], []) σ5))))
    else 
    ((if (σ.1 98 50) = (4 : Int32) then 
      ((if (50 : Int32) ≤ 0 then 
        (WP c_M_readsIt (CTs d) Q (59, [(0, .ref 98), (1, .int a1), (2, .int (50 : Int32))], []) σ)
        else 
        (CTs d y_M_ran [.ref 98, .int (50 : Int32)] σ (fun _ σ4 => 
          WP c_M_readsIt (CTs d) Q (59, [(0, .ref 98), (1, .int a1), (2, .int (50 : Int32))], []) σ4))))
      else 
      ((if (σ.1 98 50) = (5 : Int32) then 
        ((if (60 : Int32) ≤ 0 then 
          (WP c_M_readsIt (CTs d) Q (59, [(0, .ref 98), (1, .int a1), (2, .int (60 : Int32))], []) σ)
          else 
          (CTs d y_M_ran [.ref 98, .int (60 : Int32)] σ (fun _ σ1 => 
            WP c_M_readsIt (CTs d) Q (59, [(0, .ref 98), (1, .int a1), (2, .int (60 : Int32))], []) σ1))))
        else 
        ((if (σ.1 98 50) = (6 : Int32) then 
          ((if (60 : Int32) ≤ 0 then 
            (WP c_M_readsIt (CTs d) Q (59, [(0, .ref 98), (1, .int a1), (2, .int (60 : Int32))], []) σ)
            else 
            (CTs d y_M_ran [.ref 98, .int (60 : Int32)] σ (fun _ σ3 => 
              WP c_M_readsIt (CTs d) Q (59, [(0, .ref 98), (1, .int a1), (2, .int (60 : Int32))], []) σ3))))
          else 
          ((if (0 : Int32) ≤ 0 then 
            (WP c_M_readsIt (CTs d) Q (59, [(0, .ref 98), (1, .int a1), (2, .int (0 : Int32))], []) σ)
            else 
            (CTs d y_M_ran [.ref 98, .int (0 : Int32)] σ (fun _ σ2 => 
              WP c_M_readsIt (CTs d) Q (59, [(0, .ref 98), (1, .int a1), (2, .int (0 : Int32))], []) σ2)))))))))))) : WP c_M_readsIt (CTs d) Q (0, [(0, .ref 98), (1, .int a1)], []) σ := wp_cut (ms_mono y_M_readsIt) (cts_cm d) (fun x => Nat.beq x 59) (fun x i => (cond (Nat.beq x 59) (Nat.beq i 0 || Nat.beq i 1 || Nat.beq i 2) false)) 67 h
set_option maxRecDepth 20000 in
theorem t_M_readsIt_59 {d : Nat} {Q : Po} {σ : Hp}  {v1 : Int32} {v2 : Int32}  (h : CTs d y_M_ran [.ref 98, .int (10 : Int32)] σ (fun _ σ1 => 
    (if v2 = (30 : Int32) then 
      (Q (some (.int ((v1 + (σ1.1 98 51)) * (3 : Int32)))) σ1)
      else 
      ((if v2 = (50 : Int32) then 
        (Q (some (.int ((0 : Int32) - (v1 + (σ1.1 98 51))))) σ1)
        else 
        ((if v2 = (60 : Int32) then 
          (Q (some (.int ((v1 + (σ1.1 98 51)) - (4 : Int32)))) σ1)
          else 
          (Q (some (.int (v1 + (σ1.1 98 51)))) σ1)))))))) : WP c_M_readsIt (CTs d) Q (59, [(0, .ref 98), (1, .int v1), (2, .int v2)], []) σ := wp_cut (ms_mono y_M_readsIt) (cts_cm d) (fun x => Nat.beq x 59) (fun x i => (cond (Nat.beq x 59) (Nat.beq i 0 || Nat.beq i 1 || Nat.beq i 2) false)) 36 h
theorem e_M_readsIt {d : Nat} {Q : Po} {σ : Hp}  {a1 : Int32}  (h : WP c_M_readsIt (CTs d) Q (0, [(0, .ref 98), (1, .int a1)], []) σ) : CTs (d + 1) y_M_readsIt [.ref 98, .int a1] σ Q := h
set_option maxRecDepth 20000 in
theorem t_M_thingSteps_0 {d : Nat} {Q : Po} {σ : Hp}  {a1 : Int32}  (h : CTs d y_M_ran [.ref 98, .int (11 : Int32)] σ (fun _ σ1 => 
    CTs d y_M_readsIt [.ref 98, .int a1] σ1 (fun r2 σ2 => 
      Q (some (.int ((oI r2) * (2 : Int32)))) σ2))) : WP c_M_thingSteps (CTs d) Q (0, [(0, .ref 98), (1, .int a1)], []) σ := wp_cut (ms_mono y_M_thingSteps) (cts_cm d) (fun x => false) (fun _ _ => false) 11 h
theorem e_M_thingSteps {d : Nat} {Q : Po} {σ : Hp}  {a1 : Int32}  (h : WP c_M_thingSteps (CTs d) Q (0, [(0, .ref 98), (1, .int a1)], []) σ) : CTs (d + 1) y_M_thingSteps [.ref 98, .int a1] σ Q := h
set_option maxRecDepth 20000 in
theorem t_M_stepsIt_0 {d : Nat} {Q : Po} {σ : Hp}  {a1 : Int32}  (h : (if (σ.1 98 50) = (1 : Int32) then 
    (CTs d y_M_ran [.ref 98, .int (20 : Int32)] σ (fun _ σ1 => 
      CTs d y_M_thingSteps [.ref 98, .int a1] σ1 (fun r2 σ2 => 
        Q (some (.int ((oI r2) - (σ2.1 98 52)))) σ2)))
    else 
    ((if (σ.1 98 50) = (2 : Int32) then 
      (CTs d y_M_ran [.ref 98, .int (20 : Int32)] σ (fun _ σ7 => 
        CTs d y_M_thingSteps [.ref 98, .int a1] σ7 (fun r8 σ8 => 
          Q (some (.int ((oI r8) - (σ8.1 98 52)))) σ8)))
      else 
      ((if (σ.1 98 50) = (6 : Int32) then 
        (CTs d y_M_ran [.ref 98, .int (70 : Int32)] σ (fun _ σ4 => 
          CTs d y_M_thingSteps [.ref 98, .int a1] σ4 (fun r5 σ5 => 
            CTs d y_M_unitsIt [.ref 98, .int (σ5.1 98 52)] σ5 (fun r6 σ6 => 
              Q (some (.int ((oI r5) + (oI r6)))) σ6))))
        else 
        (CTs d y_M_thingSteps [.ref 98, .int a1] σ (fun r3 σ3 => 
          Q (some (.int (oI r3))) σ3)))))))) : WP c_M_stepsIt (CTs d) Q (0, [(0, .ref 98), (1, .int a1)], []) σ := wp_cut (ms_mono y_M_stepsIt) (cts_cm d) (fun x => false) (fun _ _ => false) 52 h
theorem e_M_stepsIt {d : Nat} {Q : Po} {σ : Hp}  {a1 : Int32}  (h : WP c_M_stepsIt (CTs d) Q (0, [(0, .ref 98), (1, .int a1)], []) σ) : CTs (d + 1) y_M_stepsIt [.ref 98, .int a1] σ Q := h
set_option maxRecDepth 20000 in
theorem t_M_thingUnits_0 {d : Nat} {Q : Po} {σ : Hp}  {a1 : Int32}  (h : CTs d y_M_ran [.ref 98, .int (12 : Int32)] σ (fun _ σ1 => 
    (if (σ1.1 98 52) = (σ1.1 98 51) then 
      (vb (1 : Int32) ∧ (Q (some (.int (0 : Int32))) (sI σ1 98 55 (1 : Int32))))
      else 
      (¬ ((σ1.1 98 52) - (σ1.1 98 51)) = 0 ∧ (Q (some (.int (a1 / ((σ1.1 98 52) - (σ1.1 98 51))))) σ1))))) : WP c_M_thingUnits (CTs d) Q (0, [(0, .ref 98), (1, .int a1)], []) σ := wp_cut (ms_mono y_M_thingUnits) (cts_cm d) (fun x => false) (fun _ _ => false) 23 h
theorem e_M_thingUnits {d : Nat} {Q : Po} {σ : Hp}  {a1 : Int32}  (h : WP c_M_thingUnits (CTs d) Q (0, [(0, .ref 98), (1, .int a1)], []) σ) : CTs (d + 1) y_M_thingUnits [.ref 98, .int a1] σ Q := h
set_option maxRecDepth 20000 in
theorem t_M_unitsIt_0 {d : Nat} {Q : Po} {σ : Hp}  {a1 : Int32}  (h : (if (σ.1 98 50) = (3 : Int32) then 
    (CTs d y_M_ran [.ref 98, .int (40 : Int32)] σ (fun _ σ6 => 
      CTs d y_M_thingUnits [.ref 98, .int (a1 + (2 : Int32))] σ6 (fun r7 σ7 => 
        Q (some (.int ((oI r7) ^^^ (1 : Int32)))) σ7)))
    else 
    ((if (σ.1 98 50) = (4 : Int32) then 
      (CTs d y_M_ran [.ref 98, .int (51 : Int32)] σ (fun _ σ2 => 
        CTs d y_M_ran [.ref 98, .int (40 : Int32)] σ2 (fun _ σ3 => 
          CTs d y_M_thingUnits [.ref 98, .int (a1 + (2 : Int32))] σ3 (fun r4 σ4 => 
            (if (σ4.1 98 55) = 0 then 
              (CTs d y_M_readsIt [.ref 98, .int (σ4.1 98 51)] σ4 (fun r5 σ5 => 
                Q (some (.int (((oI r4) ^^^ (1 : Int32)) + (oI r5)))) σ5))
              else 
              (Q (some (.int (0 : Int32))) σ4))))))
      else 
      (CTs d y_M_thingUnits [.ref 98, .int a1] σ (fun r1 σ1 => 
        Q (some (.int (oI r1))) σ1)))))) : WP c_M_unitsIt (CTs d) Q (0, [(0, .ref 98), (1, .int a1)], []) σ := wp_cut (ms_mono y_M_unitsIt) (cts_cm d) (fun x => false) (fun _ _ => false) 52 h
theorem e_M_unitsIt {d : Nat} {Q : Po} {σ : Hp}  {a1 : Int32}  (h : WP c_M_unitsIt (CTs d) Q (0, [(0, .ref 98), (1, .int a1)], []) σ) : CTs (d + 1) y_M_unitsIt [.ref 98, .int a1] σ Q := h
set_option maxRecDepth 20000 in
theorem t_M_thingTells_0 {d : Nat} {Q : Po} {σ : Hp}  {a1 : Int32}  (h : CTs d y_M_ran [.ref 98, .int (13 : Int32)] σ (fun _ σ1 => 
    CTs d y_M_stepsIt [.ref 98, .int a1] σ1 (fun r2 σ2 => 
      Q (some (.int ((oI r2) ^^^ (σ2.1 98 52)))) σ2))) : WP c_M_thingTells (CTs d) Q (0, [(0, .ref 98), (1, .int a1)], []) σ := wp_cut (ms_mono y_M_thingTells) (cts_cm d) (fun x => false) (fun _ _ => false) 12 h
theorem e_M_thingTells {d : Nat} {Q : Po} {σ : Hp}  {a1 : Int32}  (h : WP c_M_thingTells (CTs d) Q (0, [(0, .ref 98), (1, .int a1)], []) σ) : CTs (d + 1) y_M_thingTells [.ref 98, .int a1] σ Q := h
set_option maxRecDepth 20000 in
theorem t_M_tellsIt_0 {d : Nat} {Q : Po} {σ : Hp}  {a1 : Int32}  (h : (if (σ.1 98 50) = (2 : Int32) then 
    (CTs d y_M_ran [.ref 98, .int (31 : Int32)] σ (fun _ σ4 => 
      CTs d y_M_thingTells [.ref 98, .int a1] σ4 (fun r5 σ5 => 
        CTs d y_M_unitsIt [.ref 98, .int (σ5.1 98 51)] σ5 (fun r6 σ6 => 
          Q (some (.int ((oI r5) + (oI r6)))) σ6))))
    else 
    ((if (σ.1 98 50) = (6 : Int32) then 
      (CTs d y_M_ran [.ref 98, .int (71 : Int32)] σ (fun _ σ2 => 
        CTs d y_M_thingTells [.ref 98, .int a1] σ2 (fun r3 σ3 => 
          Q (some (.int ((oI r3) * (2 : Int32)))) σ3)))
      else 
      (CTs d y_M_thingTells [.ref 98, .int a1] σ (fun r1 σ1 => 
        Q (some (.int (oI r1))) σ1)))))) : WP c_M_tellsIt (CTs d) Q (0, [(0, .ref 98), (1, .int a1)], []) σ := wp_cut (ms_mono y_M_tellsIt) (cts_cm d) (fun x => false) (fun _ _ => false) 37 h
theorem e_M_tellsIt {d : Nat} {Q : Po} {σ : Hp}  {a1 : Int32}  (h : WP c_M_tellsIt (CTs d) Q (0, [(0, .ref 98), (1, .int a1)], []) σ) : CTs (d + 1) y_M_tellsIt [.ref 98, .int a1] σ Q := h
set_option maxRecDepth 20000 in
theorem t_M_act_0 {d : Nat} {Q : Po} {σ : Hp}  {a1 : Int32} {a2 : Int32} {a3 : Int32}  (h : CTs d y_M_isShelf [.int a1] (sI σ 98 54 (0 : Int32)) (fun r1 σ1 => 
    (if (oI r1) = 0 then 
      (Q (some (.int (0 : Int32))) σ1)
      else 
      (CTs d y_M_in [.int a2, .int (0 : Int32), .int (3 : Int32)] σ1 (fun r2 σ2 => 
        (if (oI r2) = 0 then 
          (Q (some (.int (0 : Int32))) σ2)
          else 
          (CTs d y_M_kindOn [.ref 98, .int a1] σ2 (fun r3 σ3 => 
            CTs d y_M_in [.int (oI r3), .int (1 : Int32), .int (6 : Int32)] σ3 (fun r4 σ4 => 
              (if (oI r4) = 0 then 
                (Q (some (.int (0 : Int32))) σ4)
                else 
                (CTs d y_M_kindOn [.ref 98, .int a1] σ4 (fun r5 σ5 => 
                  vp_in a1 4 ∧ (CTs d y_M_of [.ref 98, .int (σ5.1 123 (a1).toNatClampNeg), .int (2 : Int32)] (sI (sI σ5 98 50 (oI r5)) 98 51 (σ5.1 123 (a1).toNatClampNeg)) (fun r6 σ6 => 
                    vb (0 : Int32) ∧ ((if a2 = 0 then 
                      (CTs d y_M_readsIt [.ref 98, .int a3] (sI (sI σ6 98 52 (oI r6)) 98 55 (0 : Int32)) (fun r10 σ10 => 
                        (if (σ10.1 98 55) = 0 then 
                          (Q (some (.int (oI r10))) σ10)
                          else 
                          (Q (some (.int (-15 : Int32))) σ10))))
                      else 
                      ((if a2 = (1 : Int32) then 
                        (CTs d y_M_stepsIt [.ref 98, .int a3] (sI (sI σ6 98 52 (oI r6)) 98 55 (0 : Int32)) (fun r9 σ9 => 
                          (if (σ9.1 98 55) = 0 then 
                            (Q (some (.int (oI r9))) σ9)
                            else 
                            (Q (some (.int (-15 : Int32))) σ9))))
                        else 
                        ((if a2 = (2 : Int32) then 
                          (CTs d y_M_unitsIt [.ref 98, .int a3] (sI (sI σ6 98 52 (oI r6)) 98 55 (0 : Int32)) (fun r8 σ8 => 
                            (if (σ8.1 98 55) = 0 then 
                              (Q (some (.int (oI r8))) σ8)
                              else 
                              (Q (some (.int (-15 : Int32))) σ8))))
                          else 
                          (CTs d y_M_tellsIt [.ref 98, .int a3] (sI (sI σ6 98 52 (oI r6)) 98 55 (0 : Int32)) (fun r7 σ7 => 
                            (if (σ7.1 98 55) = 0 then 
                              (Q (some (.int (oI r7))) σ7)
                              else 
                              (Q (some (.int (-15 : Int32))) σ7)))))))))))))))))))))))) : WP c_M_act (CTs d) Q (0, [(0, .ref 98), (1, .int a1), (2, .int a2), (3, .int a3)], []) σ := wp_cut (ms_mono y_M_act) (cts_cm d) (fun x => false) (fun _ _ => false) 106 h
theorem e_M_act {d : Nat} {Q : Po} {σ : Hp}  {a1 : Int32} {a2 : Int32} {a3 : Int32}  (h : WP c_M_act (CTs d) Q (0, [(0, .ref 98), (1, .int a1), (2, .int a2), (3, .int a3)], []) σ) : CTs (d + 1) y_M_act [.ref 98, .int a1, .int a2, .int a3] σ Q := h
set_option maxRecDepth 20000 in
theorem t_M_trace_0 {d : Nat} {Q : Po} {σ : Hp}  {a1 : Int32}  (h : CTs d y_M_in [.int a1, .int (0 : Int32), .int ((σ.1 98 54) - (1 : Int32))] σ (fun r1 σ1 => 
    (if (oI r1) = 0 then 
      (Q (some (.int (-3 : Int32))) σ1)
      else 
      (vp_in a1 30 ∧ (Q (some (.int (σ1.1 125 (a1).toNatClampNeg))) σ1))))) : WP c_M_trace (CTs d) Q (0, [(0, .ref 98), (1, .int a1)], []) σ := wp_cut (ms_mono y_M_trace) (cts_cm d) (fun x => false) (fun _ _ => false) 18 h
theorem e_M_trace {d : Nat} {Q : Po} {σ : Hp}  {a1 : Int32}  (h : WP c_M_trace (CTs d) Q (0, [(0, .ref 98), (1, .int a1)], []) σ) : CTs (d + 1) y_M_trace [.ref 98, .int a1] σ Q := h
set_option maxRecDepth 20000 in
theorem t_M_many_0 {d : Nat} {Q : Po} {σ : Hp}  {a1 : Int32}  (h : (if a1 = 0 then 
    (Q (some (.int (σ.1 98 0))) σ)
    else if a1 = 1 then 
    (Q (some (.int (σ.1 98 19))) σ)
    else if a1 = 2 then 
    (Q (some (.int (σ.1 98 25))) σ)
    else if a1 = 3 then 
    (Q (some (.int (σ.1 98 43))) σ)
    else if a1 = 4 then 
    (Q (some (.int (σ.1 98 4))) σ)
    else if a1 = 5 then 
    (Q (some (.int (σ.1 98 54))) σ)
    else (Q (some (.int (-1 : Int32))) σ))) : WP c_M_many (CTs d) Q (0, [(0, .ref 98), (1, .int a1)], []) σ := wp_cut (ms_mono y_M_many) (cts_cm d) (fun x => false) (fun _ _ => false) 24 h
theorem e_M_many {d : Nat} {Q : Po} {σ : Hp}  {a1 : Int32}  (h : WP c_M_many (CTs d) Q (0, [(0, .ref 98), (1, .int a1)], []) σ) : CTs (d + 1) y_M_many [.ref 98, .int a1] σ Q := h
set_option maxRecDepth 20000 in
theorem t_M_move_0 {d : Nat} {Q : Po} {σ : Hp} {p : Nat} {a2 : Int32} {a3 : Int32} (hs : (p = 127) ∨ (p = 99) ∨ (p = 100) ∨ (p = 105) ∨ (p = 106) ∨ (p = 107) ∨ (p = 108)) (h : WP c_M_move (CTs d) Q (3, [(0, .ref 98), (1, .ref p), (2, .int a2), (3, .int a3), (4, .int (0 : Int32))], []) σ) : WP c_M_move (CTs d) Q (0, [(0, .ref 98), (1, .ref p), (2, .int a2), (3, .int a3)], []) σ := by
  rcases hs with rfl | rfl | rfl | rfl | rfl | rfl | rfl <;> exact wp_cut (ms_mono y_M_move) (cts_cm d) (fun x => Nat.beq x 3) (fun x i => (cond (Nat.beq x 3) (Nat.beq i 0 || Nat.beq i 1 || Nat.beq i 2 || Nat.beq i 3 || Nat.beq i 4) false)) 5 h
set_option maxRecDepth 20000 in
theorem t_M_move_3 {d : Nat} {Q : Po} {σ : Hp} {p : Nat} {v2 : Int32} {v3 : Int32} {v4 : Int32} (hs : (p = 127) ∨ (p = 99) ∨ (p = 100) ∨ (p = 105) ∨ (p = 106) ∨ (p = 107) ∨ (p = 108)) (h : (if v2 ≤ v4 then 
    (Q none σ)
    else 
    ((if v3 = 0 then 
      (vp_in (σ.1 98 58) 1800 ∧ (vp_in v4 (ln p) ∧ (WP c_M_move (CTs d) Q (3, [(0, .ref 98), (1, .ref p), (2, .int v2), (3, .int v3), (4, .int (v4 + (1 : Int32)))], []) (sI (sI σ p (v4).toNatClampNeg (σ.1 126 (σ.1 98 58).toNatClampNeg)) 98 58 ((σ.1 98 58) + (1 : Int32))))))
      else 
      (vp_in v4 (ln p) ∧ (vp_in (σ.1 98 58) 1800 ∧ (WP c_M_move (CTs d) Q (3, [(0, .ref 98), (1, .ref p), (2, .int v2), (3, .int v3), (4, .int (v4 + (1 : Int32)))], []) (sI (sI σ 126 (σ.1 98 58).toNatClampNeg (σ.1 p (v4).toNatClampNeg)) 98 58 ((σ.1 98 58) + (1 : Int32)))))))))) : WP c_M_move (CTs d) Q (3, [(0, .ref 98), (1, .ref p), (2, .int v2), (3, .int v3), (4, .int v4)], []) σ := by
  rcases hs with rfl | rfl | rfl | rfl | rfl | rfl | rfl <;> exact wp_cut (ms_mono y_M_move) (cts_cm d) (fun x => Nat.beq x 3) (fun x i => (cond (Nat.beq x 3) (Nat.beq i 0 || Nat.beq i 1 || Nat.beq i 2 || Nat.beq i 3 || Nat.beq i 4) false)) 43 h
theorem e_M_move {d : Nat} {Q : Po} {σ : Hp} {p : Nat} {a2 : Int32} {a3 : Int32} (hs : (p = 127) ∨ (p = 99) ∨ (p = 100) ∨ (p = 105) ∨ (p = 106) ∨ (p = 107) ∨ (p = 108)) (h : WP c_M_move (CTs d) Q (0, [(0, .ref 98), (1, .ref p), (2, .int a2), (3, .int a3)], []) σ) : CTs (d + 1) y_M_move [.ref 98, .ref p, .int a2, .int a3] σ Q := by
  rcases hs with rfl | rfl | rfl | rfl | rfl | rfl | rfl <;> exact h
set_option maxRecDepth 20000 in
theorem t_M_moveAll_0 {d : Nat} {Q : Po} {σ : Hp}  {a1 : Int32}  (h : vp_in (0 : Int32) 3 ∧ (vp_in (1 : Int32) 3 ∧ (vp_in (2 : Int32) 3 ∧ (CTs d y_M_move [.ref 98, .ref 127, .int (3 : Int32), .int a1] (sI (sI (sI (sI σ 98 58 (0 : Int32)) 127 (0 : Int32).toNatClampNeg (σ.1 98 0)) 127 (1 : Int32).toNatClampNeg (σ.1 98 19)) 127 (2 : Int32).toNatClampNeg (σ.1 98 25)) (fun _ σ1 => 
    CTs d y_M_move [.ref 98, .ref 99, .int (320 : Int32), .int a1] σ1 (fun _ σ2 => 
      CTs d y_M_move [.ref 98, .ref 100, .int (300 : Int32), .int a1] σ2 (fun _ σ3 => 
        CTs d y_M_move [.ref 98, .ref 105, .int (16 : Int32), .int a1] σ3 (fun _ σ4 => 
          CTs d y_M_move [.ref 98, .ref 106, .int (160 : Int32), .int a1] σ4 (fun _ σ5 => 
            CTs d y_M_move [.ref 98, .ref 107, .int (18 : Int32), .int a1] σ5 (fun _ σ6 => 
              CTs d y_M_move [.ref 98, .ref 108, .int (960 : Int32), .int a1] σ6 (fun _ σ7 => 
                Q none σ7))))))))))) : WP c_M_moveAll (CTs d) Q (0, [(0, .ref 98), (1, .int a1)], []) σ := wp_cut (ms_mono y_M_moveAll) (cts_cm d) (fun x => false) (fun _ _ => false) 66 h
theorem e_M_moveAll {d : Nat} {Q : Po} {σ : Hp}  {a1 : Int32}  (h : WP c_M_moveAll (CTs d) Q (0, [(0, .ref 98), (1, .int a1)], []) σ) : CTs (d + 1) y_M_moveAll [.ref 98, .int a1] σ Q := h
set_option maxRecDepth 20000 in
theorem t_M_keep_0 {d : Nat} {Q : Po} {σ : Hp}    (h : CTs d y_M_moveAll [.ref 98, .int (1 : Int32)] σ (fun _ σ1 => 
    vb (1 : Int32) ∧ (Q (some (.int (1 : Int32))) (sI (sL (sL (sL σ1 98 59 (σ1.2 98 22)) 98 60 (σ1.2 98 23)) 98 61 (σ1.2 98 24)) 98 56 (1 : Int32))))) : WP c_M_keep (CTs d) Q (0, [(0, .ref 98)], []) σ := wp_cut (ms_mono y_M_keep) (cts_cm d) (fun x => false) (fun _ _ => false) 22 h
theorem e_M_keep {d : Nat} {Q : Po} {σ : Hp}    (h : WP c_M_keep (CTs d) Q (0, [(0, .ref 98)], []) σ) : CTs (d + 1) y_M_keep [.ref 98] σ Q := h
set_option maxRecDepth 20000 in
theorem t_M_back_0 {d : Nat} {Q : Po} {σ : Hp}    (h : (if (σ.1 98 56) = 0 then 
    (Q (some (.int (-3 : Int32))) σ)
    else 
    (CTs d y_M_moveAll [.ref 98, .int (0 : Int32)] σ (fun _ σ1 => 
      vp_in (0 : Int32) 3 ∧ (vp_in (1 : Int32) 3 ∧ (vp_in (2 : Int32) 3 ∧ (Q (some (.int (σ1.1 127 (1 : Int32).toNatClampNeg))) (sL (sL (sL (sI (sI (sI σ1 98 0 (σ1.1 127 (0 : Int32).toNatClampNeg)) 98 19 (σ1.1 127 (1 : Int32).toNatClampNeg)) 98 25 (σ1.1 127 (2 : Int32).toNatClampNeg)) 98 22 (σ1.2 98 59)) 98 23 (σ1.2 98 60)) 98 24 (σ1.2 98 61))))))))) : WP c_M_back (CTs d) Q (0, [(0, .ref 98)], []) σ := wp_cut (ms_mono y_M_back) (cts_cm d) (fun x => false) (fun _ _ => false) 43 h
theorem e_M_back {d : Nat} {Q : Po} {σ : Hp}    (h : WP c_M_back (CTs d) Q (0, [(0, .ref 98)], []) σ) : CTs (d + 1) y_M_back [.ref 98] σ Q := h
set_option maxRecDepth 20000 in
theorem t_Ar_fill_0 {d : Nat} {Q : Po} {σ : Hp} {q : Nat} {a1 : Int32} {a2 : Int32} {a3 : Int32} (hs : (q = 84)) (h : CTs d y_Ar_rangeCheck [.int (Int32.ofNat 160), .int a1, .int a2] σ (fun _ σ1 => 
    WP c_Ar_fill (CTs d) Q (10, [(0, .ref q), (2, .int a2), (3, .int a3), (4, .int a1)], []) σ1)) : WP c_Ar_fill (CTs d) Q (0, [(0, .ref q), (1, .int a1), (2, .int a2), (3, .int a3)], []) σ := by
  obtain rfl := hs
  exact wp_cut (ms_mono y_Ar_fill) (cts_cm d) (fun x => Nat.beq x 10) (fun x i => (cond (Nat.beq x 10) (Nat.beq i 0 || Nat.beq i 2 || Nat.beq i 3 || Nat.beq i 4) false)) 10 h
set_option maxRecDepth 20000 in
theorem t_Ar_fill_10 {d : Nat} {Q : Po} {σ : Hp} {q : Nat} {v2 : Int32} {v3 : Int32} {v4 : Int32} (hs : (q = 84)) (h : (if v2 ≤ v4 then 
    (Q none σ)
    else 
    (vp_in v4 160 ∧ (WP c_Ar_fill (CTs d) Q (10, [(0, .ref q), (2, .int v2), (3, .int v3), (4, .int (v4 + (1 : Int32)))], []) (sI σ q (v4).toNatClampNeg v3))))) : WP c_Ar_fill (CTs d) Q (10, [(0, .ref q), (2, .int v2), (3, .int v3), (4, .int v4)], []) σ := by
  obtain rfl := hs
  exact wp_cut (ms_mono y_Ar_fill) (cts_cm d) (fun x => Nat.beq x 10) (fun x i => (cond (Nat.beq x 10) (Nat.beq i 0 || Nat.beq i 2 || Nat.beq i 3 || Nat.beq i 4) false)) 13 h
theorem e_Ar_fill {d : Nat} {Q : Po} {σ : Hp} {q : Nat} {a1 : Int32} {a2 : Int32} {a3 : Int32} (hs : (q = 84)) (h : WP c_Ar_fill (CTs d) Q (0, [(0, .ref q), (1, .int a1), (2, .int a2), (3, .int a3)], []) σ) : CTs (d + 1) y_Ar_fill [.ref q, .int a1, .int a2, .int a3] σ Q := by
  obtain rfl := hs
  exact h
set_option maxRecDepth 20000 in
theorem t_Ar_fillL_0 {d : Nat} {Q : Po} {σ : Hp} {q : Nat} {a1 : Int64} (hs : (q = 54) ∨ (q = 65)) (h : WP c_Ar_fillL (CTs d) Q (6, [(0, .ref q), (1, .long a1), (3, .int (0 : Int32)), (4, .int (Int32.ofNat 16))], []) σ) : WP c_Ar_fillL (CTs d) Q (0, [(0, .ref q), (1, .long a1)], []) σ := by
  rcases hs with rfl | rfl <;> exact wp_cut (ms_mono y_Ar_fillL) (cts_cm d) (fun x => Nat.beq x 6) (fun x i => (cond (Nat.beq x 6) (Nat.beq i 0 || Nat.beq i 1 || Nat.beq i 3 || Nat.beq i 4) false)) 8 h
set_option maxRecDepth 20000 in
theorem t_Ar_fillL_6 {d : Nat} {Q : Po} {σ : Hp} {q : Nat} {v1 : Int64} {v3 : Int32} {v4 : Int32} (hs : (q = 54) ∨ (q = 65)) (h : (if v4 ≤ v3 then 
    (Q none σ)
    else 
    (vp_in v3 16 ∧ (WP c_Ar_fillL (CTs d) Q (6, [(0, .ref q), (1, .long v1), (3, .int (v3 + (1 : Int32))), (4, .int v4)], []) (sL σ q (v3).toNatClampNeg v1))))) : WP c_Ar_fillL (CTs d) Q (6, [(0, .ref q), (1, .long v1), (3, .int v3), (4, .int v4)], []) σ := by
  rcases hs with rfl | rfl <;> exact wp_cut (ms_mono y_Ar_fillL) (cts_cm d) (fun x => Nat.beq x 6) (fun x i => (cond (Nat.beq x 6) (Nat.beq i 0 || Nat.beq i 1 || Nat.beq i 3 || Nat.beq i 4) false)) 13 h
theorem e_Ar_fillL {d : Nat} {Q : Po} {σ : Hp} {q : Nat} {a1 : Int64} (hs : (q = 54) ∨ (q = 65)) (h : WP c_Ar_fillL (CTs d) Q (0, [(0, .ref q), (1, .long a1)], []) σ) : CTs (d + 1) y_Ar_fillL [.ref q, .long a1] σ Q := by
  rcases hs with rfl | rfl <;> exact h
set_option maxRecDepth 20000 in
theorem t_Ar_rangeCheck_0 {d : Nat} {Q : Po} {σ : Hp}  {a0 : Int32} {a1 : Int32} {a2 : Int32}  (h : (if a1 ≤ a2 then 
    ((if 0 ≤ a1 then 
      ((if a2 ≤ a0 then 
        (Q none σ)
        else 
        (False)))
      else 
      (False)))
    else 
    (False))) : WP c_Ar_rangeCheck (CTs d) Q (0, [(0, .int a0), (1, .int a1), (2, .int a2)], []) σ := wp_cut (ms_mono y_Ar_rangeCheck) (cts_cm d) (fun x => false) (fun _ _ => false) 14 h
theorem e_Ar_rangeCheck {d : Nat} {Q : Po} {σ : Hp}  {a0 : Int32} {a1 : Int32} {a2 : Int32}  (h : WP c_Ar_rangeCheck (CTs d) Q (0, [(0, .int a0), (1, .int a1), (2, .int a2)], []) σ) : CTs (d + 1) y_Ar_rangeCheck [.int a0, .int a1, .int a2] σ Q := h
