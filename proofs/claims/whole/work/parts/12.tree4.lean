set_option maxRecDepth 20000 in
theorem t_M_wantThing_0 {d : Nat} {Q : Po} {σ : Hp}    (h : CTs d y_M_kindHere [.ref 98] σ (fun r1 σ1 => 
    (if (16 : Int32) ≤ (σ1.1 98 12) then 
      ((if (oI r1) = 0 then 
        (CTs d y_M_faults [.ref 98, .int (1 : Int32)] σ1 (fun _ σ2 => 
          Q none σ2))
        else 
        ((if (σ1.1 98 12) = (16 : Int32) then 
          (CTs d y_M_faults [.ref 98, .int (1 : Int32)] σ1 (fun _ σ8 => 
            Q none σ8))
          else 
          (CTs d y_M_advance [.ref 98] σ1 (fun _ σ3 => 
            CTs d y_M_isName [.ref 98] σ3 (fun r4 σ4 => 
              (if (oI r4) = 0 then 
                (CTs d y_M_faults [.ref 98, .int (1 : Int32)] σ4 (fun _ σ7 => 
                  WP c_M_wantThing (CTs d) Q (76, [(0, .ref 98), (1, .int (oI r1)), (2, .int ((20 : Int32) * (0 : Int32)))], []) σ7))
                else 
                (CTs d y_M_known [.ref 98] σ4 (fun r5 σ5 => 
                  (if (oI r5) < 0 then 
                    (WP c_M_wantThing (CTs d) Q (76, [(0, .ref 98), (1, .int (oI r1)), (2, .int ((20 : Int32) * (0 : Int32)))], []) σ5)
                    else 
                    (CTs d y_M_faults [.ref 98, .int (2 : Int32)] σ5 (fun _ σ6 => 
                      WP c_M_wantThing (CTs d) Q (76, [(0, .ref 98), (1, .int (oI r1)), (2, .int ((20 : Int32) * (0 : Int32)))], []) σ6)))))))))))))
      else 
      ((if (oI r1) = 0 then 
        (CTs d y_M_faults [.ref 98, .int (1 : Int32)] σ1 (fun _ σ9 => 
          Q none σ9))
        else 
        ((if (σ1.1 98 12) = (16 : Int32) then 
          (CTs d y_M_faults [.ref 98, .int (1 : Int32)] σ1 (fun _ σ15 => 
            Q none σ15))
          else 
          (CTs d y_M_advance [.ref 98] σ1 (fun _ σ10 => 
            CTs d y_M_isName [.ref 98] σ10 (fun r11 σ11 => 
              (if (oI r11) = 0 then 
                (CTs d y_M_faults [.ref 98, .int (1 : Int32)] σ11 (fun _ σ14 => 
                  WP c_M_wantThing (CTs d) Q (76, [(0, .ref 98), (1, .int (oI r1)), (2, .int ((20 : Int32) * (σ1.1 98 12)))], []) σ14))
                else 
                (CTs d y_M_known [.ref 98] σ11 (fun r12 σ12 => 
                  (if (oI r12) < 0 then 
                    (WP c_M_wantThing (CTs d) Q (76, [(0, .ref 98), (1, .int (oI r1)), (2, .int ((20 : Int32) * (σ1.1 98 12)))], []) σ12)
                    else 
                    (CTs d y_M_faults [.ref 98, .int (2 : Int32)] σ12 (fun _ σ13 => 
                      WP c_M_wantThing (CTs d) Q (76, [(0, .ref 98), (1, .int (oI r1)), (2, .int ((20 : Int32) * (σ1.1 98 12)))], []) σ13)))))))))))))))) : WP c_M_wantThing (CTs d) Q (0, [(0, .ref 98)], []) σ := wp_cut (ms_mono y_M_wantThing) (cts_cm d) (fun x => Nat.beq x 76 || Nat.beq x 197) (fun x i => (cond (Nat.beq x 197) (Nat.beq i 0 || Nat.beq i 1 || Nat.beq i 2) (cond (Nat.beq x 76) (Nat.beq i 0 || Nat.beq i 1 || Nat.beq i 2) false))) 82 h
set_option maxRecDepth 20000 in
theorem t_M_wantThing_76 {d : Nat} {Q : Po} {σ : Hp}  {v1 : Int32} {v2 : Int32}  (h : CTs d y_M_isGood [.ref 98] σ (fun r1 σ1 => 
    (if (oI r1) = 0 then 
      (Q none σ1)
      else 
      (vp_in v2 320 ∧ (vp_in (v2 + (1 : Int32)) 320 ∧ (vp_in (v2 + (2 : Int32)) 320 ∧ (vp_in (v2 + (3 : Int32)) 320 ∧ (vp_in (v2 + (4 : Int32)) 320 ∧ (vp_in (v2 + (5 : Int32)) 320 ∧ (CTs d y_M_advance [.ref 98] (sI (sI (sI (sI (sI (sI σ1 102 (v2).toNatClampNeg v1) 102 (v2 + (1 : Int32)).toNatClampNeg ((σ1.2 98 8)).toInt32) 102 (v2 + (2 : Int32)).toNatClampNeg ((σ1.1 98 7) - (σ1.1 98 6))) 102 (v2 + (3 : Int32)).toNatClampNeg (0 : Int32)) 102 (v2 + (4 : Int32)).toNatClampNeg (-9 : Int32)) 102 (v2 + (5 : Int32)).toNatClampNeg (-9 : Int32)) (fun _ σ2 => 
        (if v1 = (3 : Int32) then 
          (CTs d y_M_wantWord [.ref 98, .long (131638 : Int64)] σ2 (fun _ σ3 => 
            CTs d y_M_wantEnd [.ref 98] σ3 (fun r4 σ4 => 
              vp_in (v2 + (4 : Int32)) 320 ∧ (CTs d y_M_wantWord [.ref 98, .long (555 : Int64)] (sI σ4 102 (v2 + (4 : Int32)).toNatClampNeg (oI r4)) (fun _ σ5 => 
                CTs d y_M_wantEnd [.ref 98] σ5 (fun r6 σ6 => 
                  vp_in (v2 + (5 : Int32)) 320 ∧ (WP c_M_wantThing (CTs d) Q (197, [(0, .ref 98), (1, .int v1), (2, .int v2)], []) (sI σ6 102 (v2 + (5 : Int32)).toNatClampNeg (oI r6)))))))))
          else 
          (WP c_M_wantThing (CTs d) Q (197, [(0, .ref 98), (1, .int v1), (2, .int v2)], []) σ2))))))))))))) : WP c_M_wantThing (CTs d) Q (76, [(0, .ref 98), (1, .int v1), (2, .int v2)], []) σ := wp_cut (ms_mono y_M_wantThing) (cts_cm d) (fun x => Nat.beq x 76 || Nat.beq x 197) (fun x i => (cond (Nat.beq x 197) (Nat.beq i 0 || Nat.beq i 1 || Nat.beq i 2) (cond (Nat.beq x 76) (Nat.beq i 0 || Nat.beq i 1 || Nat.beq i 2) false))) 81 h
set_option maxRecDepth 20000 in
theorem t_M_wantThing_197 {d : Nat} {Q : Po} {σ : Hp}  {v1 : Int32} {v2 : Int32}  (h : CTs d y_M_wantMark [.ref 98, .int (61 : Int32)] σ (fun _ σ1 => 
    vp_in (v2 + (6 : Int32)) 320 ∧ ((if v1 = (1 : Int32) then 
      (CTs d y_M_wantNumber [.ref 98, .int (0 : Int32), .int (99999 : Int32)] (sI σ1 102 (v2 + (6 : Int32)).toNatClampNeg (σ1.1 98 14)) (fun r2 σ2 => 
        vp_in (v2 + (3 : Int32)) 320 ∧ (vp_in (v2 + (7 : Int32)) 320 ∧ (CTs d y_M_wantMark [.ref 98, .int (59 : Int32)] (sI (sI σ2 102 (v2 + (3 : Int32)).toNatClampNeg (oI r2)) 102 (v2 + (7 : Int32)).toNatClampNeg (σ2.1 98 14)) (fun _ σ3 => 
          Q none (sI σ3 98 12 ((σ3.1 98 12) + (1 : Int32))))))))
      else 
      ((if v1 = (5 : Int32) then 
        (CTs d y_M_wantNumber [.ref 98, .int (0 : Int32), .int (99999 : Int32)] (sI σ1 102 (v2 + (6 : Int32)).toNatClampNeg (σ1.1 98 14)) (fun r12 σ12 => 
          vp_in (v2 + (3 : Int32)) 320 ∧ (vp_in (v2 + (7 : Int32)) 320 ∧ (CTs d y_M_wantMark [.ref 98, .int (59 : Int32)] (sI (sI σ12 102 (v2 + (3 : Int32)).toNatClampNeg (oI r12)) 102 (v2 + (7 : Int32)).toNatClampNeg (σ12.1 98 14)) (fun _ σ13 => 
            Q none (sI σ13 98 12 ((σ13.1 98 12) + (1 : Int32))))))))
        else 
        ((if v1 = (4 : Int32) then 
          (CTs d y_M_wantCorners [.ref 98, .int v2] (sI σ1 102 (v2 + (6 : Int32)).toNatClampNeg (σ1.1 98 14)) (fun _ σ10 => 
            vp_in (v2 + (7 : Int32)) 320 ∧ (CTs d y_M_wantMark [.ref 98, .int (59 : Int32)] (sI σ10 102 (v2 + (7 : Int32)).toNatClampNeg (σ10.1 98 14)) (fun _ σ11 => 
              Q none (sI σ11 98 12 ((σ11.1 98 12) + (1 : Int32)))))))
          else 
          ((if v1 = (2 : Int32) then 
            (CTs d y_M_wantNumber [.ref 98, .int (1 : Int32), .int (9 : Int32)] (sI σ1 102 (v2 + (6 : Int32)).toNatClampNeg (σ1.1 98 14)) (fun r6 σ6 => 
              vp_in (v2 + (3 : Int32)) 320 ∧ (CTs d y_M_wantWord [.ref 98, .long (411 : Int64)] (sI σ6 102 (v2 + (3 : Int32)).toNatClampNeg (oI r6)) (fun _ σ7 => 
                CTs d y_M_wantE [.ref 98] σ7 (fun _ σ8 => 
                  vp_in (v2 + (7 : Int32)) 320 ∧ (CTs d y_M_wantMark [.ref 98, .int (59 : Int32)] (sI σ8 102 (v2 + (7 : Int32)).toNatClampNeg (σ8.1 98 14)) (fun _ σ9 => 
                    Q none (sI σ9 98 12 ((σ9.1 98 12) + (1 : Int32))))))))))
            else 
            (CTs d y_M_wantE [.ref 98] (sI σ1 102 (v2 + (6 : Int32)).toNatClampNeg (σ1.1 98 14)) (fun _ σ4 => 
              vp_in (v2 + (7 : Int32)) 320 ∧ (CTs d y_M_wantMark [.ref 98, .int (59 : Int32)] (sI σ4 102 (v2 + (7 : Int32)).toNatClampNeg (σ4.1 98 14)) (fun _ σ5 => 
                Q none (sI σ5 98 12 ((σ5.1 98 12) + (1 : Int32))))))))))))))))) : WP c_M_wantThing (CTs d) Q (197, [(0, .ref 98), (1, .int v1), (2, .int v2)], []) σ := wp_cut (ms_mono y_M_wantThing) (cts_cm d) (fun x => Nat.beq x 76 || Nat.beq x 197) (fun x i => (cond (Nat.beq x 197) (Nat.beq i 0 || Nat.beq i 1 || Nat.beq i 2) (cond (Nat.beq x 76) (Nat.beq i 0 || Nat.beq i 1 || Nat.beq i 2) false))) 158 h
theorem e_M_wantThing {d : Nat} {Q : Po} {σ : Hp}    (h : WP c_M_wantThing (CTs d) Q (0, [(0, .ref 98)], []) σ) : CTs (d + 1) y_M_wantThing [.ref 98] σ Q := h
set_option maxRecDepth 20000 in
theorem t_M_read_0 {d : Nat} {Q : Po} {σ : Hp}    (h : CTs d y_M_advance [.ref 98] (sI (sI (sI (sI (sI σ 98 10 (0 : Int32)) 98 11 (0 : Int32)) 98 12 (0 : Int32)) 98 14 (0 : Int32)) 98 7 (0 : Int32)) (fun _ σ1 => 
    WP c_M_read (CTs d) Q (29, [(0, .ref 98)], []) σ1)) : WP c_M_read (CTs d) Q (0, [(0, .ref 98)], []) σ := wp_cut (ms_mono y_M_read) (cts_cm d) (fun x => Nat.beq x 29 || Nat.beq x 80 || Nat.beq x 111) (fun x i => (cond (Nat.beq x 111) (Nat.beq i 0 || Nat.beq i 1) (cond (Nat.beq x 80) (Nat.beq i 0 || Nat.beq i 1) (cond (Nat.beq x 29) (Nat.beq i 0) false)))) 20 h
set_option maxRecDepth 20000 in
theorem t_M_read_29 {d : Nat} {Q : Po} {σ : Hp}    (h : CTs d y_M_isGood [.ref 98] σ (fun r1 σ1 => 
    (if (oI r1) = 0 then 
      (CTs d y_M_isGood [.ref 98] (sI σ1 98 4 (0 : Int32)) (fun r2 σ2 => 
        (if (oI r2) = 0 then 
          (Q (some (.int ((-100 : Int32) - (σ2.1 98 10)))) σ2)
          else 
          (WP c_M_read (CTs d) Q (80, [(0, .ref 98), (1, .int (0 : Int32))], []) (sI σ2 98 0 (σ2.1 98 12))))))
      else 
      ((if (σ1.1 98 5) = 0 then 
        (CTs d y_M_isGood [.ref 98] (sI σ1 98 4 (0 : Int32)) (fun r3 σ3 => 
          (if (oI r3) = 0 then 
            (Q (some (.int ((-100 : Int32) - (σ3.1 98 10)))) σ3)
            else 
            (WP c_M_read (CTs d) Q (80, [(0, .ref 98), (1, .int (0 : Int32))], []) (sI σ3 98 0 (σ3.1 98 12))))))
        else 
        (CTs d y_M_wantThing [.ref 98] σ1 (fun _ σ4 => 
          WP c_M_read (CTs d) Q (29, [(0, .ref 98)], []) σ4))))))) : WP c_M_read (CTs d) Q (29, [(0, .ref 98)], []) σ := wp_cut (ms_mono y_M_read) (cts_cm d) (fun x => Nat.beq x 29 || Nat.beq x 80 || Nat.beq x 111) (fun x i => (cond (Nat.beq x 111) (Nat.beq i 0 || Nat.beq i 1) (cond (Nat.beq x 80) (Nat.beq i 0 || Nat.beq i 1) (cond (Nat.beq x 29) (Nat.beq i 0) false)))) 48 h
set_option maxRecDepth 20000 in
theorem t_M_read_80 {d : Nat} {Q : Po} {σ : Hp}  {v1 : Int32}  (h : (if ((20 : Int32) * (σ.1 98 0)) ≤ v1 then 
    (WP c_M_read (CTs d) Q (111, [(0, .ref 98), (1, .int (0 : Int32))], []) σ)
    else 
    (vp_in v1 320 ∧ (vp_in v1 320 ∧ (WP c_M_read (CTs d) Q (80, [(0, .ref 98), (1, .int (v1 + (1 : Int32)))], []) (sI σ 99 (v1).toNatClampNeg (σ.1 102 (v1).toNatClampNeg))))))) : WP c_M_read (CTs d) Q (80, [(0, .ref 98), (1, .int v1)], []) σ := wp_cut (ms_mono y_M_read) (cts_cm d) (fun x => Nat.beq x 29 || Nat.beq x 80 || Nat.beq x 111) (fun x i => (cond (Nat.beq x 111) (Nat.beq i 0 || Nat.beq i 1) (cond (Nat.beq x 80) (Nat.beq i 0 || Nat.beq i 1) (cond (Nat.beq x 29) (Nat.beq i 0) false)))) 22 h
set_option maxRecDepth 20000 in
theorem t_M_read_111 {d : Nat} {Q : Po} {σ : Hp}  {v1 : Int32}  (h : (if (σ.1 98 14) ≤ v1 then 
    (CTs d y_M_beginAll [.ref 98] (sI (sI σ 98 25 (0 : Int32)) 98 43 (0 : Int32)) (fun _ σ1 => 
      Q (some (.int (σ1.1 98 0))) σ1))
    else 
    (vp_in v1 300 ∧ (vp_in v1 300 ∧ (WP c_M_read (CTs d) Q (111, [(0, .ref 98), (1, .int (v1 + (1 : Int32)))], []) (sI σ 100 (v1).toNatClampNeg (σ.1 103 (v1).toNatClampNeg))))))) : WP c_M_read (CTs d) Q (111, [(0, .ref 98), (1, .int v1)], []) σ := wp_cut (ms_mono y_M_read) (cts_cm d) (fun x => Nat.beq x 29 || Nat.beq x 80 || Nat.beq x 111) (fun x i => (cond (Nat.beq x 111) (Nat.beq i 0 || Nat.beq i 1) (cond (Nat.beq x 80) (Nat.beq i 0 || Nat.beq i 1) (cond (Nat.beq x 29) (Nat.beq i 0) false)))) 28 h
theorem e_M_read {d : Nat} {Q : Po} {σ : Hp}    (h : WP c_M_read (CTs d) Q (0, [(0, .ref 98)], []) σ) : CTs (d + 1) y_M_read [.ref 98] σ Q := h
set_option maxRecDepth 20000 in
theorem t_M_fault_0 {d : Nat} {Q : Po} {σ : Hp}  {a1 : Int32}  (h : CTs d y_M_in [.int a1, .int (0 : Int32), .int (1 : Int32)] σ (fun r1 σ1 => 
    (if (oI r1) = 0 then 
      (Q (some (.int (-1 : Int32))) σ1)
      else 
      ((if a1 = 0 then 
        (Q (some (.int (σ1.1 98 10))) σ1)
        else 
        (Q (some (.int (σ1.1 98 11))) σ1)))))) : WP c_M_fault (CTs d) Q (0, [(0, .ref 98), (1, .int a1)], []) σ := wp_cut (ms_mono y_M_fault) (cts_cm d) (fun x => false) (fun _ _ => false) 19 h
theorem e_M_fault {d : Nat} {Q : Po} {σ : Hp}  {a1 : Int32}  (h : WP c_M_fault (CTs d) Q (0, [(0, .ref 98), (1, .int a1)], []) σ) : CTs (d + 1) y_M_fault [.ref 98, .int a1] σ Q := h
set_option maxRecDepth 20000 in
theorem t_M_named_0 {d : Nat} {Q : Po} {σ : Hp}  {a1 : Int32}  (h : WP c_M_named (CTs d) Q (2, [(0, .ref 98), (1, .int a1), (2, .int (0 : Int32))], []) σ) : WP c_M_named (CTs d) Q (0, [(0, .ref 98), (1, .int a1)], []) σ := wp_cut (ms_mono y_M_named) (cts_cm d) (fun x => Nat.beq x 2) (fun x i => (cond (Nat.beq x 2) (Nat.beq i 0 || Nat.beq i 1 || Nat.beq i 2) false)) 5 h
set_option maxRecDepth 20000 in
theorem t_M_named_2 {d : Nat} {Q : Po} {σ : Hp}  {v1 : Int32} {v2 : Int32}  (h : (if (σ.1 98 0) ≤ v2 then 
    (Q (some (.int (-3 : Int32))) σ)
    else 
    (CTs d y_M_of [.ref 98, .int v2, .int (1 : Int32)] σ (fun r1 σ1 => 
      (if (oI r1) = v1 then 
        (Q (some (.int v2)) σ1)
        else 
        (WP c_M_named (CTs d) Q (2, [(0, .ref 98), (1, .int v1), (2, .int (v2 + (1 : Int32)))], []) σ1)))))) : WP c_M_named (CTs d) Q (2, [(0, .ref 98), (1, .int v1), (2, .int v2)], []) σ := wp_cut (ms_mono y_M_named) (cts_cm d) (fun x => Nat.beq x 2) (fun x i => (cond (Nat.beq x 2) (Nat.beq i 0 || Nat.beq i 1 || Nat.beq i 2) false)) 19 h
theorem e_M_named {d : Nat} {Q : Po} {σ : Hp}  {a1 : Int32}  (h : WP c_M_named (CTs d) Q (0, [(0, .ref 98), (1, .int a1)], []) σ) : CTs (d + 1) y_M_named [.ref 98, .int a1] σ Q := h
set_option maxRecDepth 20000 in
theorem t_M_thing_0 {d : Nat} {Q : Po} {σ : Hp}  {a1 : Int32} {a2 : Int32}  (h : CTs d y_M_isThing [.ref 98, .int a1] σ (fun r1 σ1 => 
    (if (oI r1) = 0 then 
      (Q (some (.int (-1 : Int32))) σ1)
      else 
      (CTs d y_M_in [.int a2, .int (0 : Int32), .int (3 : Int32)] σ1 (fun r2 σ2 => 
        (if (oI r2) = 0 then 
          (Q (some (.int (-1 : Int32))) σ2)
          else 
          ((if a2 = 0 then 
            (CTs d y_M_of [.ref 98, .int a1, .int (0 : Int32)] σ2 (fun r6 σ6 => 
              Q (some (.int (oI r6))) σ6))
            else 
            ((if a2 = (1 : Int32) then 
              (CTs d y_M_of [.ref 98, .int a1, .int (1 : Int32)] σ2 (fun r5 σ5 => 
                Q (some (.int (oI r5))) σ5))
              else 
              ((if a2 = (2 : Int32) then 
                (CTs d y_M_of [.ref 98, .int a1, .int (4 : Int32)] σ2 (fun r4 σ4 => 
                  Q (some (.int (oI r4))) σ4))
                else 
                (CTs d y_M_of [.ref 98, .int a1, .int (5 : Int32)] σ2 (fun r3 σ3 => 
                  Q (some (.int (oI r3))) σ3)))))))))))))) : WP c_M_thing (CTs d) Q (0, [(0, .ref 98), (1, .int a1), (2, .int a2)], []) σ := wp_cut (ms_mono y_M_thing) (cts_cm d) (fun x => false) (fun _ _ => false) 44 h
theorem e_M_thing {d : Nat} {Q : Po} {σ : Hp}  {a1 : Int32} {a2 : Int32}  (h : WP c_M_thing (CTs d) Q (0, [(0, .ref 98), (1, .int a1), (2, .int a2)], []) σ) : CTs (d + 1) y_M_thing [.ref 98, .int a1, .int a2] σ Q := h
set_option maxRecDepth 20000 in
theorem t_M_beginWorld_0 {d : Nat} {Q : Po} {σ : Hp}    (h : WP c_M_beginWorld (CTs d) Q (22, [(0, .ref 98), (1, .int (0 : Int32))], []) (sL (sL (sL (sI σ 98 19 (0 : Int32)) 98 22 (0 : Int64)) 98 23 (0 : Int64)) 98 24 (0 : Int64))) : WP c_M_beginWorld (CTs d) Q (0, [(0, .ref 98)], []) σ := wp_cut (ms_mono y_M_beginWorld) (cts_cm d) (fun x => Nat.beq x 22) (fun x i => (cond (Nat.beq x 22) (Nat.beq i 0 || Nat.beq i 1) false)) 17 h
set_option maxRecDepth 20000 in
theorem t_M_beginWorld_22 {d : Nat} {Q : Po} {σ : Hp}  {v1 : Int32}  (h : (if (σ.1 98 0) ≤ v1 then 
    (Q none σ)
    else 
    (CTs d y_M_of [.ref 98, .int v1, .int (3 : Int32)] σ (fun r1 σ1 => 
      vp_in v1 16 ∧ (WP c_M_beginWorld (CTs d) Q (22, [(0, .ref 98), (1, .int (v1 + (1 : Int32)))], []) (sI σ1 105 (v1).toNatClampNeg (oI r1))))))) : WP c_M_beginWorld (CTs d) Q (22, [(0, .ref 98), (1, .int v1)], []) σ := wp_cut (ms_mono y_M_beginWorld) (cts_cm d) (fun x => Nat.beq x 22) (fun x i => (cond (Nat.beq x 22) (Nat.beq i 0 || Nat.beq i 1) false)) 18 h
theorem e_M_beginWorld {d : Nat} {Q : Po} {σ : Hp}    (h : WP c_M_beginWorld (CTs d) Q (0, [(0, .ref 98)], []) σ) : CTs (d + 1) y_M_beginWorld [.ref 98] σ Q := h
set_option maxRecDepth 20000 in
theorem t_M_beginAll_0 {d : Nat} {Q : Po} {σ : Hp}    (h : CTs d y_M_beginWorld [.ref 98] σ (fun _ σ1 => 
    Q none σ1)) : WP c_M_beginAll (CTs d) Q (0, [(0, .ref 98)], []) σ := wp_cut (ms_mono y_M_beginAll) (cts_cm d) (fun x => false) (fun _ _ => false) 5 h
theorem e_M_beginAll {d : Nat} {Q : Po} {σ : Hp}    (h : WP c_M_beginAll (CTs d) Q (0, [(0, .ref 98)], []) σ) : CTs (d + 1) y_M_beginAll [.ref 98] σ Q := h
set_option maxRecDepth 20000 in
theorem t_M_onLine_0 {d : Nat} {Q : Po} {σ : Hp}  {a1 : Int32} {a2 : Int32}  (h : CTs d y_M_of [.ref 98, .int a1, .int (3 : Int32)] σ (fun r1 σ1 => 
    vp_in (((20 : Int32) * a1) + (8 : Int32)) 320 ∧ ((if (σ1.1 99 (((20 : Int32) * a1) + (8 : Int32)).toNatClampNeg) < a2 then 
      (WP c_M_onLine (CTs d) Q (38, [(0, .ref 98), (2, .int a2), (3, .int (((20 : Int32) * a1) + (8 : Int32))), (4, .int (oI r1)), (5, .int (1 : Int32))], []) σ1)
      else 
      (vp_in ((((20 : Int32) * a1) + (8 : Int32)) + (1 : Int32)) 320 ∧ (Q (some (.int (σ1.1 99 ((((20 : Int32) * a1) + (8 : Int32)) + (1 : Int32)).toNatClampNeg))) σ1)))))) : WP c_M_onLine (CTs d) Q (0, [(0, .ref 98), (1, .int a1), (2, .int a2)], []) σ := wp_cut (ms_mono y_M_onLine) (cts_cm d) (fun x => Nat.beq x 38) (fun x i => (cond (Nat.beq x 38) (Nat.beq i 0 || Nat.beq i 2 || Nat.beq i 3 || Nat.beq i 4 || Nat.beq i 5) false)) 29 h
set_option maxRecDepth 20000 in
theorem t_M_onLine_38 {d : Nat} {Q : Po} {σ : Hp}  {v2 : Int32} {v3 : Int32} {v4 : Int32} {v5 : Int32}  (h : (if v4 ≤ v5 then 
    (vp_in ((v3 + ((2 : Int32) * v4)) - (1 : Int32)) 320 ∧ (Q (some (.int (σ.1 99 ((v3 + ((2 : Int32) * v4)) - (1 : Int32)).toNatClampNeg))) σ))
    else 
    (vp_in (v3 + ((2 : Int32) * v5)) 320 ∧ ((if (σ.1 99 (v3 + ((2 : Int32) * v5)).toNatClampNeg) ≤ v2 then 
      (WP c_M_onLine (CTs d) Q (38, [(0, .ref 98), (2, .int v2), (3, .int v3), (4, .int v4), (5, .int (v5 + (1 : Int32)))], []) σ)
      else 
      (vp_in ((v3 + ((2 : Int32) * v5)) + (1 : Int32)) 320 ∧ (vp_in ((v3 + ((2 : Int32) * v5)) - (1 : Int32)) 320 ∧ (vp_in ((v3 + ((2 : Int32) * v5)) - (1 : Int32)) 320 ∧ (vp_in ((v3 + ((2 : Int32) * v5)) - (2 : Int32)) 320 ∧ (vp_in (v3 + ((2 : Int32) * v5)) 320 ∧ (vp_in ((v3 + ((2 : Int32) * v5)) - (2 : Int32)) 320 ∧ (¬ (((σ.1 99 (v3 + ((2 : Int32) * v5)).toNatClampNeg) - (σ.1 99 ((v3 + ((2 : Int32) * v5)) - (2 : Int32)).toNatClampNeg))).toInt64 = 0 ∧ (Q (some (.int ((σ.1 99 ((v3 + ((2 : Int32) * v5)) - (1 : Int32)).toNatClampNeg) + ((((((σ.1 99 ((v3 + ((2 : Int32) * v5)) + (1 : Int32)).toNatClampNeg) - (σ.1 99 ((v3 + ((2 : Int32) * v5)) - (1 : Int32)).toNatClampNeg))).toInt64 * ((v2 - (σ.1 99 ((v3 + ((2 : Int32) * v5)) - (2 : Int32)).toNatClampNeg))).toInt64) / (((σ.1 99 (v3 + ((2 : Int32) * v5)).toNatClampNeg) - (σ.1 99 ((v3 + ((2 : Int32) * v5)) - (2 : Int32)).toNatClampNeg))).toInt64)).toInt32))) σ))))))))))))) : WP c_M_onLine (CTs d) Q (38, [(0, .ref 98), (2, .int v2), (3, .int v3), (4, .int v4), (5, .int v5)], []) σ := wp_cut (ms_mono y_M_onLine) (cts_cm d) (fun x => Nat.beq x 38) (fun x i => (cond (Nat.beq x 38) (Nat.beq i 0 || Nat.beq i 2 || Nat.beq i 3 || Nat.beq i 4 || Nat.beq i 5) false)) 79 h
theorem e_M_onLine {d : Nat} {Q : Po} {σ : Hp}  {a1 : Int32} {a2 : Int32}  (h : WP c_M_onLine (CTs d) Q (0, [(0, .ref 98), (1, .int a1), (2, .int a2)], []) σ) : CTs (d + 1) y_M_onLine [.ref 98, .int a1, .int a2] σ Q := h
set_option maxRecDepth 20000 in
theorem t_M_joined_0 {d : Nat} {Q : Po} {σ : Hp}  {a0 : Int32} {a1 : Int32} {a2 : Int32}  (h : (if a0 = 42 then 
    (Q (some (.int (a1 * a2))) σ)
    else if a0 = 43 then 
    (Q (some (.int (a1 + a2))) σ)
    else if a0 = 45 then 
    (Q (some (.int (a1 - a2))) σ)
    else if a0 = 47 then 
    ((if a2 = 0 then 
      (Q (some (.int (0 : Int32))) σ)
      else 
      ((if a2 = (-1 : Int32) then 
        (Q (some (.int ((0 : Int32) - a1))) σ)
        else 
        (¬ a2 = 0 ∧ (Q (some (.int (a1 / a2))) σ))))))
    else if a0 = 60 then 
    ((if a2 ≤ a1 then 
      (Q (some (.int (0 : Int32))) σ)
      else 
      (Q (some (.int (1 : Int32))) σ)))
    else ((if a1 = a2 then 
      (Q (some (.int (1 : Int32))) σ)
      else 
      (Q (some (.int (0 : Int32))) σ))))) : WP c_M_joined (CTs d) Q (0, [(0, .int a0), (1, .int a1), (2, .int a2)], []) σ := wp_cut (ms_mono y_M_joined) (cts_cm d) (fun x => false) (fun _ _ => false) 49 h
theorem e_M_joined {d : Nat} {Q : Po} {σ : Hp}  {a0 : Int32} {a1 : Int32} {a2 : Int32}  (h : WP c_M_joined (CTs d) Q (0, [(0, .int a0), (1, .int a1), (2, .int a2)], []) σ) : CTs (d + 1) y_M_joined [.int a0, .int a1, .int a2] σ Q := h
set_option maxRecDepth 20000 in
theorem t_M_worked_0 {d : Nat} {Q : Po} {σ : Hp}  {a1 : Int32}  (h : CTs d y_M_of [.ref 98, .int a1, .int (6 : Int32)] σ (fun r1 σ1 => 
    WP c_M_worked (CTs d) Q (10, [(0, .ref 98), (1, .int a1), (2, .int (0 : Int32)), (3, .int (oI r1))], []) σ1)) : WP c_M_worked (CTs d) Q (0, [(0, .ref 98), (1, .int a1)], []) σ := wp_cut (ms_mono y_M_worked) (cts_cm d) (fun x => Nat.beq x 10) (fun x i => (cond (Nat.beq x 10) (Nat.beq i 0 || Nat.beq i 1 || Nat.beq i 2 || Nat.beq i 3) false)) 10 h
set_option maxRecDepth 20000 in
theorem t_M_worked_10 {d : Nat} {Q : Po} {σ : Hp}  {v1 : Int32} {v2 : Int32} {v3 : Int32}  (h : CTs d y_M_of [.ref 98, .int v1, .int (7 : Int32)] σ (fun r1 σ1 => 
    (if (oI r1) ≤ v3 then 
      (vp_in (0 : Int32) 300 ∧ (Q (some (.int (σ1.1 109 (0 : Int32).toNatClampNeg))) σ1))
      else 
      (vp_in v3 300 ∧ ((if (100000 : Int32) ≤ (σ1.1 100 (v3).toNatClampNeg) then 
        ((if (200000 : Int32) ≤ (σ1.1 100 (v3).toNatClampNeg) then 
          ((if (300000 : Int32) ≤ (σ1.1 100 (v3).toNatClampNeg) then 
            ((if (σ1.1 100 (v3).toNatClampNeg) = (400001 : Int32) then 
              (vp_in (v2 - (1 : Int32)) 300 ∧ (vp_in (v2 - (1 : Int32)) 300 ∧ (WP c_M_worked (CTs d) Q (10, [(0, .ref 98), (1, .int v1), (2, .int v2), (3, .int (v3 + (1 : Int32)))], []) (sI σ1 109 (v2 - (1 : Int32)).toNatClampNeg ((0 : Int32) - (σ1.1 109 (v2 - (1 : Int32)).toNatClampNeg))))))
              else 
              (vp_in ((v2 + (-1 : Int32)) - (1 : Int32)) 300 ∧ (vp_in (v2 + (-1 : Int32)) 300 ∧ ((if (σ1.1 100 (v3).toNatClampNeg) = (400000 : Int32) then 
                ((if (σ1.1 109 (v2 + (-1 : Int32)).toNatClampNeg) ≤ (σ1.1 109 ((v2 + (-1 : Int32)) - (1 : Int32)).toNatClampNeg) then 
                  (vp_in ((v2 + (-1 : Int32)) - (1 : Int32)) 300 ∧ (WP c_M_worked (CTs d) Q (10, [(0, .ref 98), (1, .int v1), (2, .int (v2 + (-1 : Int32))), (3, .int (v3 + (1 : Int32)))], []) (sI σ1 109 ((v2 + (-1 : Int32)) - (1 : Int32)).toNatClampNeg (σ1.1 109 (v2 + (-1 : Int32)).toNatClampNeg))))
                  else 
                  (vp_in ((v2 + (-1 : Int32)) - (1 : Int32)) 300 ∧ (WP c_M_worked (CTs d) Q (10, [(0, .ref 98), (1, .int v1), (2, .int (v2 + (-1 : Int32))), (3, .int (v3 + (1 : Int32)))], []) (sI σ1 109 ((v2 + (-1 : Int32)) - (1 : Int32)).toNatClampNeg (σ1.1 109 ((v2 + (-1 : Int32)) - (1 : Int32)).toNatClampNeg))))))
                else 
                (CTs d y_M_joined [.int ((σ1.1 100 (v3).toNatClampNeg) - (300000 : Int32)), .int (σ1.1 109 ((v2 + (-1 : Int32)) - (1 : Int32)).toNatClampNeg), .int (σ1.1 109 (v2 + (-1 : Int32)).toNatClampNeg)] σ1 (fun r2 σ2 => 
                  vp_in ((v2 + (-1 : Int32)) - (1 : Int32)) 300 ∧ (WP c_M_worked (CTs d) Q (10, [(0, .ref 98), (1, .int v1), (2, .int (v2 + (-1 : Int32))), (3, .int (v3 + (1 : Int32)))], []) (sI σ2 109 ((v2 + (-1 : Int32)) - (1 : Int32)).toNatClampNeg (oI r2)))))))))))
            else 
            (vp_in (v2 - (1 : Int32)) 300 ∧ (CTs d y_M_onLine [.ref 98, .int ((σ1.1 100 (v3).toNatClampNeg) - (200000 : Int32)), .int (σ1.1 109 (v2 - (1 : Int32)).toNatClampNeg)] σ1 (fun r3 σ3 => 
              vp_in (v2 - (1 : Int32)) 300 ∧ (WP c_M_worked (CTs d) Q (10, [(0, .ref 98), (1, .int v1), (2, .int v2), (3, .int (v3 + (1 : Int32)))], []) (sI σ3 109 (v2 - (1 : Int32)).toNatClampNeg (oI r3))))))))
          else 
          (vp_in ((σ1.1 100 (v3).toNatClampNeg) - (100000 : Int32)) 16 ∧ (vp_in v2 300 ∧ (WP c_M_worked (CTs d) Q (10, [(0, .ref 98), (1, .int v1), (2, .int (v2 + (1 : Int32))), (3, .int (v3 + (1 : Int32)))], []) (sI σ1 109 (v2).toNatClampNeg (σ1.1 110 ((σ1.1 100 (v3).toNatClampNeg) - (100000 : Int32)).toNatClampNeg)))))))
        else 
        (vp_in v2 300 ∧ (WP c_M_worked (CTs d) Q (10, [(0, .ref 98), (1, .int v1), (2, .int (v2 + (1 : Int32))), (3, .int (v3 + (1 : Int32)))], []) (sI σ1 109 (v2).toNatClampNeg (σ1.1 100 (v3).toNatClampNeg)))))))))) : WP c_M_worked (CTs d) Q (10, [(0, .ref 98), (1, .int v1), (2, .int v2), (3, .int v3)], []) σ := wp_cut (ms_mono y_M_worked) (cts_cm d) (fun x => Nat.beq x 10) (fun x i => (cond (Nat.beq x 10) (Nat.beq i 0 || Nat.beq i 1 || Nat.beq i 2 || Nat.beq i 3) false)) 140 h
theorem e_M_worked {d : Nat} {Q : Po} {σ : Hp}  {a1 : Int32}  (h : WP c_M_worked (CTs d) Q (0, [(0, .ref 98), (1, .int a1)], []) σ) : CTs (d + 1) y_M_worked [.ref 98, .int a1] σ Q := h
set_option maxRecDepth 20000 in
theorem t_M_findValues_0 {d : Nat} {Q : Po} {σ : Hp}    (h : WP c_M_findValues (CTs d) Q (2, [(0, .ref 98), (1, .int (0 : Int32))], []) σ) : WP c_M_findValues (CTs d) Q (0, [(0, .ref 98)], []) σ := wp_cut (ms_mono y_M_findValues) (cts_cm d) (fun x => Nat.beq x 2) (fun x i => (cond (Nat.beq x 2) (Nat.beq i 0 || Nat.beq i 1) false)) 5 h
set_option maxRecDepth 20000 in
theorem t_M_findValues_2 {d : Nat} {Q : Po} {σ : Hp}  {v1 : Int32}  (h : (if (σ.1 98 0) ≤ v1 then 
    (Q none σ)
    else 
    (CTs d y_M_of [.ref 98, .int v1, .int (3 : Int32)] σ (fun r1 σ1 => 
      CTs d y_M_of [.ref 98, .int v1, .int (0 : Int32)] σ1 (fun r2 σ2 => 
        (if (oI r2) = 1 then 
          (vp_in v1 16 ∧ (vp_in v1 16 ∧ (WP c_M_findValues (CTs d) Q (2, [(0, .ref 98), (1, .int (v1 + (1 : Int32)))], []) (sI σ2 110 (v1).toNatClampNeg (σ2.1 105 (v1).toNatClampNeg)))))
          else if (oI r2) = 2 then 
          (CTs d y_M_worked [.ref 98, .int v1] σ2 (fun r3 σ3 => 
            vp_in v1 16 ∧ ((if (oI r1) ≤ (σ3.1 98 19) then 
              (¬ (10 : Int32) = 0 ∧ (vp_in (((10 : Int32) * v1) + (((σ3.1 98 19) - (oI r1)) - ((σ3.1 98 19) - (oI r1)) / (10 : Int32) * (10 : Int32))) 160 ∧ (vp_in v1 16 ∧ (WP c_M_findValues (CTs d) Q (2, [(0, .ref 98), (1, .int (v1 + (1 : Int32)))], []) (sI (sI σ3 111 (v1).toNatClampNeg (oI r3)) 110 (v1).toNatClampNeg (σ3.1 106 (((10 : Int32) * v1) + (((σ3.1 98 19) - (oI r1)) - ((σ3.1 98 19) - (oI r1)) / (10 : Int32) * (10 : Int32))).toNatClampNeg))))))
              else 
              (vp_in v1 16 ∧ (WP c_M_findValues (CTs d) Q (2, [(0, .ref 98), (1, .int (v1 + (1 : Int32)))], []) (sI (sI σ3 111 (v1).toNatClampNeg (oI r3)) 110 (v1).toNatClampNeg (0 : Int32))))))))
          else if (oI r2) = 3 then 
          (CTs d y_M_worked [.ref 98, .int v1] σ2 (fun r4 σ4 => 
            (if 0 ≤ (oI r4) then 
              (vp_in v1 16 ∧ (WP c_M_findValues (CTs d) Q (2, [(0, .ref 98), (1, .int (v1 + (1 : Int32)))], []) (sI σ4 110 (v1).toNatClampNeg (oI r4))))
              else 
              (vp_in v1 16 ∧ (WP c_M_findValues (CTs d) Q (2, [(0, .ref 98), (1, .int (v1 + (1 : Int32)))], []) (sI σ4 110 (v1).toNatClampNeg (0 : Int32)))))))
          else if (oI r2) = 4 then 
          (vp_in v1 16 ∧ (WP c_M_findValues (CTs d) Q (2, [(0, .ref 98), (1, .int (v1 + (1 : Int32)))], []) (sI σ2 110 (v1).toNatClampNeg (0 : Int32))))
          else if (oI r2) = 5 then 
          (vp_in v1 16 ∧ (vp_in v1 16 ∧ (WP c_M_findValues (CTs d) Q (2, [(0, .ref 98), (1, .int (v1 + (1 : Int32)))], []) (sI σ2 110 (v1).toNatClampNeg (σ2.1 105 (v1).toNatClampNeg)))))
          else if (oI r2) = 6 then 
          (CTs d y_M_worked [.ref 98, .int v1] σ2 (fun r5 σ5 => 
            vp_in v1 16 ∧ (WP c_M_findValues (CTs d) Q (2, [(0, .ref 98), (1, .int (v1 + (1 : Int32)))], []) (sI σ5 110 (v1).toNatClampNeg (oI r5)))))
          else (vp_in v1 16 ∧ (WP c_M_findValues (CTs d) Q (2, [(0, .ref 98), (1, .int (v1 + (1 : Int32)))], []) (sI σ2 110 (v1).toNatClampNeg (0 : Int32)))))))))) : WP c_M_findValues (CTs d) Q (2, [(0, .ref 98), (1, .int v1)], []) σ := wp_cut (ms_mono y_M_findValues) (cts_cm d) (fun x => Nat.beq x 2) (fun x i => (cond (Nat.beq x 2) (Nat.beq i 0 || Nat.beq i 1) false)) 129 h
theorem e_M_findValues {d : Nat} {Q : Po} {σ : Hp}    (h : WP c_M_findValues (CTs d) Q (0, [(0, .ref 98)], []) σ) : CTs (d + 1) y_M_findValues [.ref 98] σ Q := h
set_option maxRecDepth 20000 in
theorem t_M_flowOf_0 {d : Nat} {Q : Po} {σ : Hp}  {a1 : Int32}  (h : CTs d y_M_of [.ref 98, .int a1, .int (4 : Int32)] σ (fun r1 σ1 => 
    (if 0 ≤ (oI r1) then 
      (WP c_M_flowOf (CTs d) Q (23, [(0, .ref 98), (1, .int a1), (2, .int (oI r1)), (3, .long (0 : Int64)), (5, .int (0 : Int32))], []) σ1)
      else 
      (vp_in a1 16 ∧ (Q (some (.int (σ1.1 110 (a1).toNatClampNeg))) σ1))))) : WP c_M_flowOf (CTs d) Q (0, [(0, .ref 98), (1, .int a1)], []) σ := wp_cut (ms_mono y_M_flowOf) (cts_cm d) (fun x => Nat.beq x 23) (fun x i => (cond (Nat.beq x 23) (Nat.beq i 0 || Nat.beq i 1 || Nat.beq i 2 || Nat.beq i 3 || Nat.beq i 5) false)) 19 h
set_option maxRecDepth 20000 in
theorem t_M_flowOf_23 {d : Nat} {Q : Po} {σ : Hp}  {v1 : Int32} {v2 : Int32} {v3 : Int64} {v5 : Int32}  (h : (if (σ.1 98 0) ≤ v5 then 
    (vp_in v2 16 ∧ ((if (lg_cmp v3 ((σ.1 110 (v2).toNatClampNeg)).toInt64) ≤ 0 then 
      (vp_in v1 16 ∧ (Q (some (.int (σ.1 110 (v1).toNatClampNeg))) σ))
      else 
      (vp_in v1 16 ∧ (vp_in v2 16 ∧ (¬ v3 = 0 ∧ (Q (some (.int (((((σ.1 110 (v1).toNatClampNeg)).toInt64 * ((σ.1 110 (v2).toNatClampNeg)).toInt64) / v3)).toInt32)) σ)))))))
    else 
    (CTs d y_M_of [.ref 98, .int v5, .int (0 : Int32)] σ (fun r1 σ1 => 
      (if (oI r1) = (3 : Int32) then 
        (CTs d y_M_of [.ref 98, .int v5, .int (4 : Int32)] σ1 (fun r2 σ2 => 
          (if (oI r2) = v2 then 
            (vp_in v5 16 ∧ (WP c_M_flowOf (CTs d) Q (23, [(0, .ref 98), (1, .int v1), (2, .int v2), (3, .long (v3 + ((σ2.1 110 (v5).toNatClampNeg)).toInt64)), (5, .int (v5 + (1 : Int32)))], []) σ2))
            else 
            (WP c_M_flowOf (CTs d) Q (23, [(0, .ref 98), (1, .int v1), (2, .int v2), (3, .long (v3 + (0 : Int64))), (5, .int (v5 + (1 : Int32)))], []) σ2))))
        else 
        (WP c_M_flowOf (CTs d) Q (23, [(0, .ref 98), (1, .int v1), (2, .int v2), (3, .long (v3 + (0 : Int64))), (5, .int (v5 + (1 : Int32)))], []) σ1)))))) : WP c_M_flowOf (CTs d) Q (23, [(0, .ref 98), (1, .int v1), (2, .int v2), (3, .long v3), (5, .int v5)], []) σ := wp_cut (ms_mono y_M_flowOf) (cts_cm d) (fun x => Nat.beq x 23) (fun x i => (cond (Nat.beq x 23) (Nat.beq i 0 || Nat.beq i 1 || Nat.beq i 2 || Nat.beq i 3 || Nat.beq i 5) false)) 71 h
theorem e_M_flowOf {d : Nat} {Q : Po} {σ : Hp}  {a1 : Int32}  (h : WP c_M_flowOf (CTs d) Q (0, [(0, .ref 98), (1, .int a1)], []) σ) : CTs (d + 1) y_M_flowOf [.ref 98, .int a1] σ Q := h
set_option maxRecDepth 20000 in
theorem t_M_steps_0 {d : Nat} {Q : Po} {σ : Hp}    (h : CTs d y_M_findValues [.ref 98] σ (fun _ σ1 => 
    WP c_M_steps (CTs d) Q (6, [(0, .ref 98), (1, .int (0 : Int32))], []) σ1)) : WP c_M_steps (CTs d) Q (0, [(0, .ref 98)], []) σ := wp_cut (ms_mono y_M_steps) (cts_cm d) (fun x => Nat.beq x 6 || Nat.beq x 29 || Nat.beq x 171 || Nat.beq x 294) (fun x i => (cond (Nat.beq x 294) (Nat.beq i 0 || Nat.beq i 1 || Nat.beq i 2) (cond (Nat.beq x 171) (Nat.beq i 0 || Nat.beq i 1 || Nat.beq i 2) (cond (Nat.beq x 29) (Nat.beq i 0 || Nat.beq i 1) (cond (Nat.beq x 6) (Nat.beq i 0 || Nat.beq i 1) false))))) 7 h
set_option maxRecDepth 20000 in
theorem t_M_steps_6 {d : Nat} {Q : Po} {σ : Hp}  {v1 : Int32}  (h : (if (σ.1 98 0) ≤ v1 then 
    (WP c_M_steps (CTs d) Q (29, [(0, .ref 98), (1, .int (0 : Int32))], []) σ)
    else 
    (vp_in v1 16 ∧ (WP c_M_steps (CTs d) Q (6, [(0, .ref 98), (1, .int (v1 + (1 : Int32)))], []) (sL σ 112 (v1).toNatClampNeg (0 : Int64)))))) : WP c_M_steps (CTs d) Q (6, [(0, .ref 98), (1, .int v1)], []) σ := wp_cut (ms_mono y_M_steps) (cts_cm d) (fun x => Nat.beq x 6 || Nat.beq x 29 || Nat.beq x 171 || Nat.beq x 294) (fun x i => (cond (Nat.beq x 294) (Nat.beq i 0 || Nat.beq i 1 || Nat.beq i 2) (cond (Nat.beq x 171) (Nat.beq i 0 || Nat.beq i 1 || Nat.beq i 2) (cond (Nat.beq x 29) (Nat.beq i 0 || Nat.beq i 1) (cond (Nat.beq x 6) (Nat.beq i 0 || Nat.beq i 1) false))))) 17 h
set_option maxRecDepth 20000 in
theorem t_M_steps_29 {d : Nat} {Q : Po} {σ : Hp}  {v1 : Int32}  (h : (if (σ.1 98 0) ≤ v1 then 
    (WP c_M_steps (CTs d) Q (171, [(0, .ref 98), (1, .int (0 : Int32)), (2, .int (0 : Int32))], []) σ)
    else 
    (CTs d y_M_of [.ref 98, .int v1, .int (0 : Int32)] σ (fun r1 σ1 => 
      (if (oI r1) = (2 : Int32) then 
        (¬ (10 : Int32) = 0 ∧ (vp_in v1 16 ∧ (vp_in (((10 : Int32) * v1) + ((σ1.1 98 19) - (σ1.1 98 19) / (10 : Int32) * (10 : Int32))) 160 ∧ (CTs d y_M_of [.ref 98, .int v1, .int (0 : Int32)] (sI σ1 106 (((10 : Int32) * v1) + ((σ1.1 98 19) - (σ1.1 98 19) / (10 : Int32) * (10 : Int32))).toNatClampNeg (σ1.1 111 (v1).toNatClampNeg)) (fun r6 σ6 => 
          (if (oI r6) = (3 : Int32) then 
            (CTs d y_M_flowOf [.ref 98, .int v1] σ6 (fun r7 σ7 => 
              CTs d y_M_of [.ref 98, .int v1, .int (4 : Int32)] σ7 (fun r8 σ8 => 
                CTs d y_M_of [.ref 98, .int v1, .int (5 : Int32)] σ8 (fun r9 σ9 => 
                  (if 0 ≤ (oI r8) then 
                    (vp_in (oI r8) 16 ∧ (vp_in (oI r8) 16 ∧ ((if 0 ≤ (oI r9) then 
                      (vp_in (oI r9) 16 ∧ (vp_in (oI r9) 16 ∧ (WP c_M_steps (CTs d) Q (29, [(0, .ref 98), (1, .int (v1 + (1 : Int32)))], []) (sL (sL σ9 112 (oI r8).toNatClampNeg ((σ9.2 112 (oI r8).toNatClampNeg) - ((oI r7)).toInt64)) 112 (oI r9).toNatClampNeg (((sL σ9 112 (oI r8).toNatClampNeg ((σ9.2 112 (oI r8).toNatClampNeg) - ((oI r7)).toInt64)).2 112 (oI r9).toNatClampNeg) + ((oI r7)).toInt64)))))
                      else 
                      (WP c_M_steps (CTs d) Q (29, [(0, .ref 98), (1, .int (v1 + (1 : Int32)))], []) (sL (sL σ9 112 (oI r8).toNatClampNeg ((σ9.2 112 (oI r8).toNatClampNeg) - ((oI r7)).toInt64)) 98 24 ((σ9.2 98 24) + ((oI r7)).toInt64)))))))
                    else 
                    ((if 0 ≤ (oI r9) then 
                      (vp_in (oI r9) 16 ∧ (vp_in (oI r9) 16 ∧ (WP c_M_steps (CTs d) Q (29, [(0, .ref 98), (1, .int (v1 + (1 : Int32)))], []) (sL (sL σ9 98 23 ((σ9.2 98 23) + ((oI r7)).toInt64)) 112 (oI r9).toNatClampNeg ((σ9.2 112 (oI r9).toNatClampNeg) + ((oI r7)).toInt64)))))
                      else 
                      (WP c_M_steps (CTs d) Q (29, [(0, .ref 98), (1, .int (v1 + (1 : Int32)))], []) (sL (sL σ9 98 23 ((σ9.2 98 23) + ((oI r7)).toInt64)) 98 24 ((σ9.2 98 24) + ((oI r7)).toInt64))))))))))
            else 
            (WP c_M_steps (CTs d) Q (29, [(0, .ref 98), (1, .int (v1 + (1 : Int32)))], []) σ6)))))))
        else 
        (CTs d y_M_of [.ref 98, .int v1, .int (0 : Int32)] σ1 (fun r2 σ2 => 
          (if (oI r2) = (3 : Int32) then 
            (CTs d y_M_flowOf [.ref 98, .int v1] σ2 (fun r3 σ3 => 
              CTs d y_M_of [.ref 98, .int v1, .int (4 : Int32)] σ3 (fun r4 σ4 => 
                CTs d y_M_of [.ref 98, .int v1, .int (5 : Int32)] σ4 (fun r5 σ5 => 
                  (if 0 ≤ (oI r4) then 
                    (vp_in (oI r4) 16 ∧ (vp_in (oI r4) 16 ∧ ((if 0 ≤ (oI r5) then 
                      (vp_in (oI r5) 16 ∧ (vp_in (oI r5) 16 ∧ (WP c_M_steps (CTs d) Q (29, [(0, .ref 98), (1, .int (v1 + (1 : Int32)))], []) (sL (sL σ5 112 (oI r4).toNatClampNeg ((σ5.2 112 (oI r4).toNatClampNeg) - ((oI r3)).toInt64)) 112 (oI r5).toNatClampNeg (((sL σ5 112 (oI r4).toNatClampNeg ((σ5.2 112 (oI r4).toNatClampNeg) - ((oI r3)).toInt64)).2 112 (oI r5).toNatClampNeg) + ((oI r3)).toInt64)))))
                      else 
                      (WP c_M_steps (CTs d) Q (29, [(0, .ref 98), (1, .int (v1 + (1 : Int32)))], []) (sL (sL σ5 112 (oI r4).toNatClampNeg ((σ5.2 112 (oI r4).toNatClampNeg) - ((oI r3)).toInt64)) 98 24 ((σ5.2 98 24) + ((oI r3)).toInt64)))))))
                    else 
                    ((if 0 ≤ (oI r5) then 
                      (vp_in (oI r5) 16 ∧ (vp_in (oI r5) 16 ∧ (WP c_M_steps (CTs d) Q (29, [(0, .ref 98), (1, .int (v1 + (1 : Int32)))], []) (sL (sL σ5 98 23 ((σ5.2 98 23) + ((oI r3)).toInt64)) 112 (oI r5).toNatClampNeg ((σ5.2 112 (oI r5).toNatClampNeg) + ((oI r3)).toInt64)))))
                      else 
                      (WP c_M_steps (CTs d) Q (29, [(0, .ref 98), (1, .int (v1 + (1 : Int32)))], []) (sL (sL σ5 98 23 ((σ5.2 98 23) + ((oI r3)).toInt64)) 98 24 ((σ5.2 98 24) + ((oI r3)).toInt64))))))))))
            else 
            (WP c_M_steps (CTs d) Q (29, [(0, .ref 98), (1, .int (v1 + (1 : Int32)))], []) σ2))))))))) : WP c_M_steps (CTs d) Q (29, [(0, .ref 98), (1, .int v1)], []) σ := wp_cut (ms_mono y_M_steps) (cts_cm d) (fun x => Nat.beq x 6 || Nat.beq x 29 || Nat.beq x 171 || Nat.beq x 294) (fun x i => (cond (Nat.beq x 294) (Nat.beq i 0 || Nat.beq i 1 || Nat.beq i 2) (cond (Nat.beq x 171) (Nat.beq i 0 || Nat.beq i 1 || Nat.beq i 2) (cond (Nat.beq x 29) (Nat.beq i 0 || Nat.beq i 1) (cond (Nat.beq x 6) (Nat.beq i 0 || Nat.beq i 1) false))))) 206 h
set_option maxRecDepth 20000 in
theorem t_M_steps_171 {d : Nat} {Q : Po} {σ : Hp}  {v1 : Int32} {v2 : Int32}  (h : (if (σ.1 98 0) ≤ v2 then 
    (WP c_M_steps (CTs d) Q (294, [(0, .ref 98), (1, .int v1), (2, .int (0 : Int32))], []) (sI σ 98 19 ((σ.1 98 19) + (1 : Int32))))
    else 
    (CTs d y_M_of [.ref 98, .int v2, .int (0 : Int32)] σ (fun r1 σ1 => 
      (if (oI r1) = (1 : Int32) then 
        (vp_in v2 16 ∧ (vp_in v2 16 ∧ ((if (lg_cmp (((σ1.1 105 (v2).toNatClampNeg)).toInt64 + (σ1.2 112 (v2).toNatClampNeg)) (999999 : Int64)) ≤ 0 then 
          ((if (lg_cmp (((σ1.1 105 (v2).toNatClampNeg)).toInt64 + (σ1.2 112 (v2).toNatClampNeg)) (999999 : Int64)) ≤ 0 then 
            ((if v1 = 0 then 
              (vp_in v2 16 ∧ ((if (lg_cmp (((σ1.1 105 (v2).toNatClampNeg)).toInt64 + (σ1.2 112 (v2).toNatClampNeg)) ((σ1.1 105 (v2).toNatClampNeg)).toInt64) = 0 then 
                (vp_in v2 16 ∧ (WP c_M_steps (CTs d) Q (171, [(0, .ref 98), (1, .int (0 : Int32)), (2, .int (v2 + (1 : Int32)))], []) (sI (sL σ1 98 22 ((σ1.2 98 22) + (0 : Int64))) 105 (v2).toNatClampNeg ((((σ1.1 105 (v2).toNatClampNeg)).toInt64 + (σ1.2 112 (v2).toNatClampNeg))).toInt32)))
                else 
                (vp_in v2 16 ∧ (WP c_M_steps (CTs d) Q (171, [(0, .ref 98), (1, .int (1 : Int32)), (2, .int (v2 + (1 : Int32)))], []) (sI (sL σ1 98 22 ((σ1.2 98 22) + (0 : Int64))) 105 (v2).toNatClampNeg ((((σ1.1 105 (v2).toNatClampNeg)).toInt64 + (σ1.2 112 (v2).toNatClampNeg))).toInt32))))))
              else 
              (vp_in v2 16 ∧ (WP c_M_steps (CTs d) Q (171, [(0, .ref 98), (1, .int (1 : Int32)), (2, .int (v2 + (1 : Int32)))], []) (sI (sL σ1 98 22 ((σ1.2 98 22) + (0 : Int64))) 105 (v2).toNatClampNeg ((((σ1.1 105 (v2).toNatClampNeg)).toInt64 + (σ1.2 112 (v2).toNatClampNeg))).toInt32)))))
            else 
            ((if v1 = 0 then 
              (vp_in v2 16 ∧ ((if (lg_cmp (999999 : Int64) ((σ1.1 105 (v2).toNatClampNeg)).toInt64) = 0 then 
                (vp_in v2 16 ∧ (WP c_M_steps (CTs d) Q (171, [(0, .ref 98), (1, .int (0 : Int32)), (2, .int (v2 + (1 : Int32)))], []) (sI (sL σ1 98 22 ((σ1.2 98 22) + (0 : Int64))) 105 (v2).toNatClampNeg ((999999 : Int64)).toInt32)))
                else 
                (vp_in v2 16 ∧ (WP c_M_steps (CTs d) Q (171, [(0, .ref 98), (1, .int (1 : Int32)), (2, .int (v2 + (1 : Int32)))], []) (sI (sL σ1 98 22 ((σ1.2 98 22) + (0 : Int64))) 105 (v2).toNatClampNeg ((999999 : Int64)).toInt32))))))
              else 
              (vp_in v2 16 ∧ (WP c_M_steps (CTs d) Q (171, [(0, .ref 98), (1, .int (1 : Int32)), (2, .int (v2 + (1 : Int32)))], []) (sI (sL σ1 98 22 ((σ1.2 98 22) + (0 : Int64))) 105 (v2).toNatClampNeg ((999999 : Int64)).toInt32)))))))
          else 
          ((if (lg_cmp (((σ1.1 105 (v2).toNatClampNeg)).toInt64 + (σ1.2 112 (v2).toNatClampNeg)) (999999 : Int64)) ≤ 0 then 
            ((if v1 = 0 then 
              (vp_in v2 16 ∧ ((if (lg_cmp (((σ1.1 105 (v2).toNatClampNeg)).toInt64 + (σ1.2 112 (v2).toNatClampNeg)) ((σ1.1 105 (v2).toNatClampNeg)).toInt64) = 0 then 
                (vp_in v2 16 ∧ (WP c_M_steps (CTs d) Q (171, [(0, .ref 98), (1, .int (0 : Int32)), (2, .int (v2 + (1 : Int32)))], []) (sI (sL σ1 98 22 ((σ1.2 98 22) + ((((σ1.1 105 (v2).toNatClampNeg)).toInt64 + (σ1.2 112 (v2).toNatClampNeg)) - (999999 : Int64)))) 105 (v2).toNatClampNeg ((((σ1.1 105 (v2).toNatClampNeg)).toInt64 + (σ1.2 112 (v2).toNatClampNeg))).toInt32)))
                else 
                (vp_in v2 16 ∧ (WP c_M_steps (CTs d) Q (171, [(0, .ref 98), (1, .int (1 : Int32)), (2, .int (v2 + (1 : Int32)))], []) (sI (sL σ1 98 22 ((σ1.2 98 22) + ((((σ1.1 105 (v2).toNatClampNeg)).toInt64 + (σ1.2 112 (v2).toNatClampNeg)) - (999999 : Int64)))) 105 (v2).toNatClampNeg ((((σ1.1 105 (v2).toNatClampNeg)).toInt64 + (σ1.2 112 (v2).toNatClampNeg))).toInt32))))))
              else 
              (vp_in v2 16 ∧ (WP c_M_steps (CTs d) Q (171, [(0, .ref 98), (1, .int (1 : Int32)), (2, .int (v2 + (1 : Int32)))], []) (sI (sL σ1 98 22 ((σ1.2 98 22) + ((((σ1.1 105 (v2).toNatClampNeg)).toInt64 + (σ1.2 112 (v2).toNatClampNeg)) - (999999 : Int64)))) 105 (v2).toNatClampNeg ((((σ1.1 105 (v2).toNatClampNeg)).toInt64 + (σ1.2 112 (v2).toNatClampNeg))).toInt32)))))
            else 
            ((if v1 = 0 then 
              (vp_in v2 16 ∧ ((if (lg_cmp (999999 : Int64) ((σ1.1 105 (v2).toNatClampNeg)).toInt64) = 0 then 
                (vp_in v2 16 ∧ (WP c_M_steps (CTs d) Q (171, [(0, .ref 98), (1, .int (0 : Int32)), (2, .int (v2 + (1 : Int32)))], []) (sI (sL σ1 98 22 ((σ1.2 98 22) + ((((σ1.1 105 (v2).toNatClampNeg)).toInt64 + (σ1.2 112 (v2).toNatClampNeg)) - (999999 : Int64)))) 105 (v2).toNatClampNeg ((999999 : Int64)).toInt32)))
                else 
                (vp_in v2 16 ∧ (WP c_M_steps (CTs d) Q (171, [(0, .ref 98), (1, .int (1 : Int32)), (2, .int (v2 + (1 : Int32)))], []) (sI (sL σ1 98 22 ((σ1.2 98 22) + ((((σ1.1 105 (v2).toNatClampNeg)).toInt64 + (σ1.2 112 (v2).toNatClampNeg)) - (999999 : Int64)))) 105 (v2).toNatClampNeg ((999999 : Int64)).toInt32))))))
              else 
              (vp_in v2 16 ∧ (WP c_M_steps (CTs d) Q (171, [(0, .ref 98), (1, .int (1 : Int32)), (2, .int (v2 + (1 : Int32)))], []) (sI (sL σ1 98 22 ((σ1.2 98 22) + ((((σ1.1 105 (v2).toNatClampNeg)).toInt64 + (σ1.2 112 (v2).toNatClampNeg)) - (999999 : Int64)))) 105 (v2).toNatClampNeg ((999999 : Int64)).toInt32)))))))))))
        else 
        (WP c_M_steps (CTs d) Q (171, [(0, .ref 98), (1, .int v1), (2, .int (v2 + (1 : Int32)))], []) σ1)))))) : WP c_M_steps (CTs d) Q (171, [(0, .ref 98), (1, .int v1), (2, .int v2)], []) σ := wp_cut (ms_mono y_M_steps) (cts_cm d) (fun x => Nat.beq x 6 || Nat.beq x 29 || Nat.beq x 171 || Nat.beq x 294) (fun x i => (cond (Nat.beq x 294) (Nat.beq i 0 || Nat.beq i 1 || Nat.beq i 2) (cond (Nat.beq x 171) (Nat.beq i 0 || Nat.beq i 1 || Nat.beq i 2) (cond (Nat.beq x 29) (Nat.beq i 0 || Nat.beq i 1) (cond (Nat.beq x 6) (Nat.beq i 0 || Nat.beq i 1) false))))) 249 h
set_option maxRecDepth 20000 in
theorem t_M_steps_294 {d : Nat} {Q : Po} {σ : Hp}  {v1 : Int32} {v2 : Int32}  (h : (if (σ.1 98 25) ≤ v2 then 
    (vb v1 ∧ Q (some (.int v1)) σ)
    else 
    (vp_in ((3 : Int32) * v2) 18 ∧ ((if (σ.1 107 ((3 : Int32) * v2).toNatClampNeg) = (σ.1 98 19) then 
      (vp_in (((3 : Int32) * v2) + (1 : Int32)) 18 ∧ (vp_in (((3 : Int32) * v2) + (2 : Int32)) 18 ∧ (vp_in (σ.1 107 (((3 : Int32) * v2) + (1 : Int32)).toNatClampNeg) 16 ∧ (WP c_M_steps (CTs d) Q (294, [(0, .ref 98), (1, .int v1), (2, .int (v2 + (1 : Int32)))], []) (sI σ 105 (σ.1 107 (((3 : Int32) * v2) + (1 : Int32)).toNatClampNeg).toNatClampNeg (σ.1 107 (((3 : Int32) * v2) + (2 : Int32)).toNatClampNeg))))))
      else 
      (WP c_M_steps (CTs d) Q (294, [(0, .ref 98), (1, .int v1), (2, .int (v2 + (1 : Int32)))], []) σ)))))) : WP c_M_steps (CTs d) Q (294, [(0, .ref 98), (1, .int v1), (2, .int v2)], []) σ := wp_cut (ms_mono y_M_steps) (cts_cm d) (fun x => Nat.beq x 6 || Nat.beq x 29 || Nat.beq x 171 || Nat.beq x 294) (fun x i => (cond (Nat.beq x 294) (Nat.beq i 0 || Nat.beq i 1 || Nat.beq i 2) (cond (Nat.beq x 171) (Nat.beq i 0 || Nat.beq i 1 || Nat.beq i 2) (cond (Nat.beq x 29) (Nat.beq i 0 || Nat.beq i 1) (cond (Nat.beq x 6) (Nat.beq i 0 || Nat.beq i 1) false))))) 42 h
theorem e_M_steps {d : Nat} {Q : Po} {σ : Hp}    (h : WP c_M_steps (CTs d) Q (0, [(0, .ref 98)], []) σ) : CTs (d + 1) y_M_steps [.ref 98] σ Q := h
set_option maxRecDepth 20000 in
theorem t_M_value_0 {d : Nat} {Q : Po} {σ : Hp}  {a1 : Int32}  (h : CTs d y_M_isThing [.ref 98, .int a1] σ (fun r1 σ1 => 
    (if (oI r1) = 0 then 
      (Q (some (.int (-2147483648 : Int32))) σ1)
      else 
      (CTs d y_M_findValues [.ref 98] σ1 (fun _ σ2 => 
        vp_in a1 16 ∧ (Q (some (.int (σ2.1 110 (a1).toNatClampNeg))) σ2)))))) : WP c_M_value (CTs d) Q (0, [(0, .ref 98), (1, .int a1)], []) σ := wp_cut (ms_mono y_M_value) (cts_cm d) (fun x => false) (fun _ _ => false) 15 h
theorem e_M_value {d : Nat} {Q : Po} {σ : Hp}  {a1 : Int32}  (h : WP c_M_value (CTs d) Q (0, [(0, .ref 98), (1, .int a1)], []) σ) : CTs (d + 1) y_M_value [.ref 98, .int a1] σ Q := h
set_option maxRecDepth 20000 in
theorem t_M_was_0 {d : Nat} {Q : Po} {σ : Hp}  {a1 : Int32} {a2 : Int32}  (h : (if (σ.1 98 19) ≤ a2 then 
    (CTs d y_M_findValues [.ref 98] σ (fun _ σ1 => 
      vp_in a1 16 ∧ (Q (some (.int (σ1.1 110 (a1).toNatClampNeg))) σ1)))
    else 
    (vp_in (((16 : Int32) * a2) + a1) 960 ∧ (Q (some (.int (σ.1 108 (((16 : Int32) * a2) + a1).toNatClampNeg))) σ)))) : WP c_M_was (CTs d) Q (0, [(0, .ref 98), (1, .int a1), (2, .int a2)], []) σ := wp_cut (ms_mono y_M_was) (cts_cm d) (fun x => false) (fun _ _ => false) 22 h
theorem e_M_was {d : Nat} {Q : Po} {σ : Hp}  {a1 : Int32} {a2 : Int32}  (h : WP c_M_was (CTs d) Q (0, [(0, .ref 98), (1, .int a1), (2, .int a2)], []) σ) : CTs (d + 1) y_M_was [.ref 98, .int a1, .int a2] σ Q := h
set_option maxRecDepth 20000 in
theorem t_M_at_0 {d : Nat} {Q : Po} {σ : Hp}  {a1 : Int32} {a2 : Int32}  (h : CTs d y_M_isThing [.ref 98, .int a1] σ (fun r1 σ1 => 
    (if (oI r1) = 0 then 
      (Q (some (.int (-2147483648 : Int32))) σ1)
      else 
      (CTs d y_M_in [.int a2, .int (0 : Int32), .int (σ1.1 98 19)] σ1 (fun r2 σ2 => 
        (if (oI r2) = 0 then 
          (Q (some (.int (-2147483648 : Int32))) σ2)
          else 
          (CTs d y_M_was [.ref 98, .int a1, .int a2] σ2 (fun r3 σ3 => 
            Q (some (.int (oI r3))) σ3)))))))) : WP c_M_at (CTs d) Q (0, [(0, .ref 98), (1, .int a1), (2, .int a2)], []) σ := wp_cut (ms_mono y_M_at) (cts_cm d) (fun x => false) (fun _ _ => false) 22 h
theorem e_M_at {d : Nat} {Q : Po} {σ : Hp}  {a1 : Int32} {a2 : Int32}  (h : WP c_M_at (CTs d) Q (0, [(0, .ref 98), (1, .int a1), (2, .int a2)], []) σ) : CTs (d + 1) y_M_at [.ref 98, .int a1, .int a2] σ Q := h
set_option maxRecDepth 20000 in
theorem t_M_flow_0 {d : Nat} {Q : Po} {σ : Hp}  {a1 : Int32} {a2 : Int32}  (h : CTs d y_M_isThing [.ref 98, .int a1] σ (fun r1 σ1 => 
    (if (oI r1) = 0 then 
      (Q (some (.int (-1 : Int32))) σ1)
      else 
      (CTs d y_M_in [.int a2, .int (0 : Int32), .int (1 : Int32)] σ1 (fun r2 σ2 => 
        (if (oI r2) = 0 then 
          (Q (some (.int (-1 : Int32))) σ2)
          else 
          (CTs d y_M_of [.ref 98, .int a1, .int (0 : Int32)] σ2 (fun r3 σ3 => 
            (if (oI r3) = (3 : Int32) then 
              (CTs d y_M_findValues [.ref 98] σ3 (fun _ σ4 => 
                (if a2 = 0 then 
                  (CTs d y_M_flowOf [.ref 98, .int a1] σ4 (fun r6 σ6 => 
                    Q (some (.int (oI r6))) σ6))
                  else 
                  (vp_in a1 16 ∧ (CTs d y_M_flowOf [.ref 98, .int a1] σ4 (fun r5 σ5 => 
                    Q (some (.int ((σ4.1 110 (a1).toNatClampNeg) - (oI r5)))) σ5))))))
              else 
              (Q (some (.int (-13 : Int32))) σ3)))))))))) : WP c_M_flow (CTs d) Q (0, [(0, .ref 98), (1, .int a1), (2, .int a2)], []) σ := wp_cut (ms_mono y_M_flow) (cts_cm d) (fun x => false) (fun _ _ => false) 41 h
theorem e_M_flow {d : Nat} {Q : Po} {σ : Hp}  {a1 : Int32} {a2 : Int32}  (h : WP c_M_flow (CTs d) Q (0, [(0, .ref 98), (1, .int a1), (2, .int a2)], []) σ) : CTs (d + 1) y_M_flow [.ref 98, .int a1, .int a2] σ Q := h
set_option maxRecDepth 20000 in
theorem t_M_run_0 {d : Nat} {Q : Po} {σ : Hp}  {a1 : Int32}  (h : CTs d y_M_in [.int a1, .int (1 : Int32), .int (60 : Int32)] σ (fun r1 σ1 => 
    (if (oI r1) = 0 then 
      (Q (some (.int (-1 : Int32))) σ1)
      else 
      ((if ((σ1.1 98 19) + a1) ≤ (60 : Int32) then 
        (WP c_M_run (CTs d) Q (28, [(0, .ref 98), (1, .int a1), (2, .int (0 : Int32))], []) σ1)
        else 
        (Q (some (.int (-2 : Int32))) σ1)))))) : WP c_M_run (CTs d) Q (0, [(0, .ref 98), (1, .int a1)], []) σ := wp_cut (ms_mono y_M_run) (cts_cm d) (fun x => Nat.beq x 28 || Nat.beq x 39) (fun x i => (cond (Nat.beq x 39) (Nat.beq i 0 || Nat.beq i 1 || Nat.beq i 2 || Nat.beq i 3) (cond (Nat.beq x 28) (Nat.beq i 0 || Nat.beq i 1 || Nat.beq i 2) false))) 20 h
set_option maxRecDepth 20000 in
theorem t_M_run_28 {d : Nat} {Q : Po} {σ : Hp}  {v1 : Int32} {v2 : Int32}  (h : (if v1 ≤ v2 then 
    (Q (some (.int (σ.1 98 19))) σ)
    else 
    (CTs d y_M_findValues [.ref 98] σ (fun _ σ1 => 
      WP c_M_run (CTs d) Q (39, [(0, .ref 98), (1, .int v1), (2, .int v2), (3, .int (0 : Int32))], []) σ1)))) : WP c_M_run (CTs d) Q (28, [(0, .ref 98), (1, .int v1), (2, .int v2)], []) σ := wp_cut (ms_mono y_M_run) (cts_cm d) (fun x => Nat.beq x 28 || Nat.beq x 39) (fun x i => (cond (Nat.beq x 39) (Nat.beq i 0 || Nat.beq i 1 || Nat.beq i 2 || Nat.beq i 3) (cond (Nat.beq x 28) (Nat.beq i 0 || Nat.beq i 1 || Nat.beq i 2) false))) 13 h
set_option maxRecDepth 20000 in
theorem t_M_run_39 {d : Nat} {Q : Po} {σ : Hp}  {v1 : Int32} {v2 : Int32} {v3 : Int32}  (h : (if (σ.1 98 0) ≤ v3 then 
    (CTs d y_M_steps [.ref 98] σ (fun r1 σ1 => 
      WP c_M_run (CTs d) Q (28, [(0, .ref 98), (1, .int v1), (2, .int (v2 + (1 : Int32)))], []) σ1))
    else 
    (vp_in v3 16 ∧ (vp_in (((16 : Int32) * (σ.1 98 19)) + v3) 960 ∧ (WP c_M_run (CTs d) Q (39, [(0, .ref 98), (1, .int v1), (2, .int v2), (3, .int (v3 + (1 : Int32)))], []) (sI σ 108 (((16 : Int32) * (σ.1 98 19)) + v3).toNatClampNeg (σ.1 110 (v3).toNatClampNeg))))))) : WP c_M_run (CTs d) Q (39, [(0, .ref 98), (1, .int v1), (2, .int v2), (3, .int v3)], []) σ := wp_cut (ms_mono y_M_run) (cts_cm d) (fun x => Nat.beq x 28 || Nat.beq x 39) (fun x i => (cond (Nat.beq x 39) (Nat.beq i 0 || Nat.beq i 1 || Nat.beq i 2 || Nat.beq i 3) (cond (Nat.beq x 28) (Nat.beq i 0 || Nat.beq i 1 || Nat.beq i 2) false))) 28 h
theorem e_M_run {d : Nat} {Q : Po} {σ : Hp}  {a1 : Int32}  (h : WP c_M_run (CTs d) Q (0, [(0, .ref 98), (1, .int a1)], []) σ) : CTs (d + 1) y_M_run [.ref 98, .int a1] σ Q := h
set_option maxRecDepth 20000 in
theorem t_M_begin_0 {d : Nat} {Q : Po} {σ : Hp}    (h : CTs d y_M_beginAll [.ref 98] σ (fun _ σ1 => 
    Q (some (.int (σ.1 98 19))) σ1)) : WP c_M_begin (CTs d) Q (0, [(0, .ref 98)], []) σ := wp_cut (ms_mono y_M_begin) (cts_cm d) (fun x => false) (fun _ _ => false) 9 h
theorem e_M_begin {d : Nat} {Q : Po} {σ : Hp}    (h : WP c_M_begin (CTs d) Q (0, [(0, .ref 98)], []) σ) : CTs (d + 1) y_M_begin [.ref 98] σ Q := h
set_option maxRecDepth 20000 in
theorem t_M_change_0 {d : Nat} {Q : Po} {σ : Hp}  {a1 : Int32} {a2 : Int32}  (h : CTs d y_M_isKind [.ref 98, .int a1, .int (5 : Int32)] σ (fun r1 σ1 => 
    (if (oI r1) = 0 then 
      (Q (some (.int (-2147483648 : Int32))) σ1)
      else 
      (vp_in a1 16 ∧ (vp_in a1 16 ∧ (Q (some (.int (σ1.1 105 (a1).toNatClampNeg))) (sI σ1 105 (a1).toNatClampNeg a2))))))) : WP c_M_change (CTs d) Q (0, [(0, .ref 98), (1, .int a1), (2, .int a2)], []) σ := wp_cut (ms_mono y_M_change) (cts_cm d) (fun x => false) (fun _ _ => false) 21 h
theorem e_M_change {d : Nat} {Q : Po} {σ : Hp}  {a1 : Int32} {a2 : Int32}  (h : WP c_M_change (CTs d) Q (0, [(0, .ref 98), (1, .int a1), (2, .int a2)], []) σ) : CTs (d + 1) y_M_change [.ref 98, .int a1, .int a2] σ Q := h
set_option maxRecDepth 20000 in
theorem t_M_event_0 {d : Nat} {Q : Po} {σ : Hp}  {a1 : Int32} {a2 : Int32} {a3 : Int32}  (h : (if a1 ≤ (σ.1 98 19) then 
    (Q (some (.int (-1 : Int32))) σ)
    else 
    ((if (60 : Int32) < a1 then 
      (Q (some (.int (-1 : Int32))) σ)
      else 
      (CTs d y_M_isThing [.ref 98, .int a2] σ (fun r1 σ1 => 
        (if (oI r1) = 0 then 
          (Q (some (.int (-1 : Int32))) σ1)
          else 
          (CTs d y_M_of [.ref 98, .int a2, .int (0 : Int32)] σ1 (fun r2 σ2 => 
            (if (oI r2) = (5 : Int32) then 
              ((if (σ2.1 98 25) = (6 : Int32) then 
                (Q (some (.int (-2 : Int32))) σ2)
                else 
                (vp_in ((3 : Int32) * (σ2.1 98 25)) 18 ∧ (vp_in (((3 : Int32) * (σ2.1 98 25)) + (1 : Int32)) 18 ∧ (vp_in (((3 : Int32) * (σ2.1 98 25)) + (2 : Int32)) 18 ∧ (Q (some (.int (((σ2.1 98 25) + (1 : Int32)) - (1 : Int32)))) (sI (sI (sI (sI σ2 107 ((3 : Int32) * (σ2.1 98 25)).toNatClampNeg a1) 107 (((3 : Int32) * (σ2.1 98 25)) + (1 : Int32)).toNatClampNeg a2) 107 (((3 : Int32) * (σ2.1 98 25)) + (2 : Int32)).toNatClampNeg a3) 98 25 ((σ2.1 98 25) + (1 : Int32)))))))))
              else 
              (Q (some (.int (-13 : Int32))) σ2))))))))))) : WP c_M_event (CTs d) Q (0, [(0, .ref 98), (1, .int a1), (2, .int a2), (3, .int a3)], []) σ := wp_cut (ms_mono y_M_event) (cts_cm d) (fun x => false) (fun _ _ => false) 72 h
theorem e_M_event {d : Nat} {Q : Po} {σ : Hp}  {a1 : Int32} {a2 : Int32} {a3 : Int32}  (h : WP c_M_event (CTs d) Q (0, [(0, .ref 98), (1, .int a1), (2, .int a2), (3, .int a3)], []) σ) : CTs (d + 1) y_M_event [.ref 98, .int a1, .int a2, .int a3] σ Q := h
set_option maxRecDepth 20000 in
theorem t_M_sum_0 {d : Nat} {Q : Po} {σ : Hp}  {a1 : Int32}  (h : WP c_M_sum (CTs d) Q (5, [(0, .ref 98), (1, .int a1), (2, .long (0 : Int64)), (4, .int (0 : Int32))], []) σ) : WP c_M_sum (CTs d) Q (0, [(0, .ref 98), (1, .int a1)], []) σ := wp_cut (ms_mono y_M_sum) (cts_cm d) (fun x => Nat.beq x 5) (fun x i => (cond (Nat.beq x 5) (Nat.beq i 0 || Nat.beq i 1 || Nat.beq i 2 || Nat.beq i 4) false)) 7 h
set_option maxRecDepth 20000 in
theorem t_M_sum_5 {d : Nat} {Q : Po} {σ : Hp}  {v1 : Int32} {v2 : Int64} {v4 : Int32}  (h : (if (σ.1 98 0) ≤ v4 then 
    ((if v1 = 0 then 
      (Q (some (.long v2)) σ)
      else 
      ((if v1 = (1 : Int32) then 
        (Q (some (.long (σ.2 98 22))) σ)
        else 
        ((if v1 = (2 : Int32) then 
          (Q (some (.long (σ.2 98 23))) σ)
          else 
          ((if v1 = (3 : Int32) then 
            (Q (some (.long (σ.2 98 24))) σ)
            else 
            (Q (some (.long (-1 : Int64))) σ)))))))))
    else 
    (CTs d y_M_of [.ref 98, .int v4, .int (0 : Int32)] σ (fun r1 σ1 => 
      (if (oI r1) = (1 : Int32) then 
        (vp_in v4 16 ∧ (WP c_M_sum (CTs d) Q (5, [(0, .ref 98), (1, .int v1), (2, .long (v2 + ((σ1.1 105 (v4).toNatClampNeg)).toInt64)), (4, .int (v4 + (1 : Int32)))], []) σ1))
        else 
        (WP c_M_sum (CTs d) Q (5, [(0, .ref 98), (1, .int v1), (2, .long (v2 + (0 : Int64))), (4, .int (v4 + (1 : Int32)))], []) σ1)))))) : WP c_M_sum (CTs d) Q (5, [(0, .ref 98), (1, .int v1), (2, .long v2), (4, .int v4)], []) σ := wp_cut (ms_mono y_M_sum) (cts_cm d) (fun x => Nat.beq x 5) (fun x i => (cond (Nat.beq x 5) (Nat.beq i 0 || Nat.beq i 1 || Nat.beq i 2 || Nat.beq i 4) false)) 58 h
theorem e_M_sum {d : Nat} {Q : Po} {σ : Hp}  {a1 : Int32}  (h : WP c_M_sum (CTs d) Q (0, [(0, .ref 98), (1, .int a1)], []) σ) : CTs (d + 1) y_M_sum [.ref 98, .int a1] σ Q := h
set_option maxRecDepth 20000 in
theorem t_M_movedBy_0 {d : Nat} {Q : Po} {σ : Hp}  {a1 : Int32}  (h : CTs d y_M_of [.ref 98, .int a1, .int (0 : Int32)] σ (fun r1 σ1 => 
    (if (oI r1) = (3 : Int32) then 
      (CTs d y_M_of [.ref 98, .int a1, .int (4 : Int32)] σ1 (fun r2 σ2 => 
        (if (oI r2) < 0 then 
          (CTs d y_M_of [.ref 98, .int a1, .int (5 : Int32)] σ2 (fun r3 σ3 => 
            (if (oI r3) < 0 then 
              (WP c_M_movedBy (CTs d) Q (62, [(0, .ref 98), (1, .int a1), (2, .int (((0 : Int32) ||| (0 : Int32)) ||| (0 : Int32))), (3, .int (0 : Int32))], []) σ3)
              else 
              (CTs d y_M_of [.ref 98, .int a1, .int (5 : Int32)] σ3 (fun r4 σ4 => 
                WP c_M_movedBy (CTs d) Q (62, [(0, .ref 98), (1, .int a1), (2, .int (((0 : Int32) ||| (0 : Int32)) ||| ((1 : Int32) <<< ((oI r4) &&& 31)))), (3, .int (0 : Int32))], []) σ4)))))
          else 
          (CTs d y_M_of [.ref 98, .int a1, .int (4 : Int32)] σ2 (fun r5 σ5 => 
            CTs d y_M_of [.ref 98, .int a1, .int (5 : Int32)] σ5 (fun r6 σ6 => 
              (if (oI r6) < 0 then 
                (WP c_M_movedBy (CTs d) Q (62, [(0, .ref 98), (1, .int a1), (2, .int (((0 : Int32) ||| ((1 : Int32) <<< ((oI r5) &&& 31))) ||| (0 : Int32))), (3, .int (0 : Int32))], []) σ6)
                else 
                (CTs d y_M_of [.ref 98, .int a1, .int (5 : Int32)] σ6 (fun r7 σ7 => 
                  WP c_M_movedBy (CTs d) Q (62, [(0, .ref 98), (1, .int a1), (2, .int (((0 : Int32) ||| ((1 : Int32) <<< ((oI r5) &&& 31))) ||| ((1 : Int32) <<< ((oI r7) &&& 31)))), (3, .int (0 : Int32))], []) σ7)))))))))
      else 
      (WP c_M_movedBy (CTs d) Q (62, [(0, .ref 98), (1, .int a1), (2, .int (0 : Int32)), (3, .int (0 : Int32))], []) σ1)))) : WP c_M_movedBy (CTs d) Q (0, [(0, .ref 98), (1, .int a1)], []) σ := wp_cut (ms_mono y_M_movedBy) (cts_cm d) (fun x => Nat.beq x 62 || Nat.beq x 79) (fun x i => (cond (Nat.beq x 79) (Nat.beq i 0 || Nat.beq i 1 || Nat.beq i 2 || Nat.beq i 3 || Nat.beq i 4) (cond (Nat.beq x 62) (Nat.beq i 0 || Nat.beq i 1 || Nat.beq i 2 || Nat.beq i 3) false))) 79 h
set_option maxRecDepth 20000 in
theorem t_M_movedBy_62 {d : Nat} {Q : Po} {σ : Hp}  {v1 : Int32} {v2 : Int32} {v3 : Int32}  (h : (if (σ.1 98 0) ≤ v3 then 
    (Q (some (.int v2)) σ)
    else 
    (CTs d y_M_of [.ref 98, .int v3, .int (6 : Int32)] σ (fun r1 σ1 => 
      WP c_M_movedBy (CTs d) Q (79, [(0, .ref 98), (1, .int v1), (2, .int v2), (3, .int v3), (4, .int (oI r1))], []) σ1)))) : WP c_M_movedBy (CTs d) Q (62, [(0, .ref 98), (1, .int v1), (2, .int v2), (3, .int v3)], []) σ := wp_cut (ms_mono y_M_movedBy) (cts_cm d) (fun x => Nat.beq x 62 || Nat.beq x 79) (fun x i => (cond (Nat.beq x 79) (Nat.beq i 0 || Nat.beq i 1 || Nat.beq i 2 || Nat.beq i 3 || Nat.beq i 4) (cond (Nat.beq x 62) (Nat.beq i 0 || Nat.beq i 1 || Nat.beq i 2 || Nat.beq i 3) false))) 14 h
set_option maxRecDepth 20000 in
theorem t_M_movedBy_79 {d : Nat} {Q : Po} {σ : Hp}  {v1 : Int32} {v2 : Int32} {v3 : Int32} {v4 : Int32}  (h : CTs d y_M_of [.ref 98, .int v3, .int (7 : Int32)] σ (fun r1 σ1 => 
    (if (oI r1) ≤ v4 then 
      (WP c_M_movedBy (CTs d) Q (62, [(0, .ref 98), (1, .int v1), (2, .int v2), (3, .int (v3 + (1 : Int32)))], []) σ1)
      else 
      (vp_in v4 300 ∧ ((if (σ1.1 100 (v4).toNatClampNeg) = ((100000 : Int32) + v1) then 
        (WP c_M_movedBy (CTs d) Q (79, [(0, .ref 98), (1, .int v1), (2, .int (v2 ||| ((1 : Int32) <<< (v3 &&& 31)))), (3, .int v3), (4, .int (v4 + (1 : Int32)))], []) σ1)
        else 
        (vp_in v4 300 ∧ ((if (σ1.1 100 (v4).toNatClampNeg) = ((200000 : Int32) + v1) then 
          (WP c_M_movedBy (CTs d) Q (79, [(0, .ref 98), (1, .int v1), (2, .int (v2 ||| ((1 : Int32) <<< (v3 &&& 31)))), (3, .int v3), (4, .int (v4 + (1 : Int32)))], []) σ1)
          else 
          (WP c_M_movedBy (CTs d) Q (79, [(0, .ref 98), (1, .int v1), (2, .int (v2 ||| (0 : Int32))), (3, .int v3), (4, .int (v4 + (1 : Int32)))], []) σ1)))))))))) : WP c_M_movedBy (CTs d) Q (79, [(0, .ref 98), (1, .int v1), (2, .int v2), (3, .int v3), (4, .int v4)], []) σ := wp_cut (ms_mono y_M_movedBy) (cts_cm d) (fun x => Nat.beq x 62 || Nat.beq x 79) (fun x i => (cond (Nat.beq x 79) (Nat.beq i 0 || Nat.beq i 1 || Nat.beq i 2 || Nat.beq i 3 || Nat.beq i 4) (cond (Nat.beq x 62) (Nat.beq i 0 || Nat.beq i 1 || Nat.beq i 2 || Nat.beq i 3) false))) 52 h
theorem e_M_movedBy {d : Nat} {Q : Po} {σ : Hp}  {a1 : Int32}  (h : WP c_M_movedBy (CTs d) Q (0, [(0, .ref 98), (1, .int a1)], []) σ) : CTs (d + 1) y_M_movedBy [.ref 98, .int a1] σ Q := h
set_option maxRecDepth 20000 in
theorem t_M_moves_0 {d : Nat} {Q : Po} {σ : Hp}  {a1 : Int32}  (h : CTs d y_M_isThing [.ref 98, .int a1] σ (fun r1 σ1 => 
    (if (oI r1) = 0 then 
      (Q (some (.int (-1 : Int32))) σ1)
      else 
      (CTs d y_M_movedBy [.ref 98, .int a1] σ1 (fun r2 σ2 => 
        Q (some (.int (oI r2))) σ2))))) : WP c_M_moves (CTs d) Q (0, [(0, .ref 98), (1, .int a1)], []) σ := wp_cut (ms_mono y_M_moves) (cts_cm d) (fun x => false) (fun _ _ => false) 13 h
theorem e_M_moves {d : Nat} {Q : Po} {σ : Hp}  {a1 : Int32}  (h : WP c_M_moves (CTs d) Q (0, [(0, .ref 98), (1, .int a1)], []) σ) : CTs (d + 1) y_M_moves [.ref 98, .int a1] σ Q := h
set_option maxRecDepth 20000 in
theorem t_M_reached_0 {d : Nat} {Q : Po} {σ : Hp}  {a1 : Int32}  (h : CTs d y_M_isThing [.ref 98, .int a1] σ (fun r1 σ1 => 
    (if (oI r1) = 0 then 
      (Q (some (.int (-1 : Int32))) σ1)
      else 
      (CTs d y_M_movedBy [.ref 98, .int a1] σ1 (fun r2 σ2 => 
        WP c_M_reached (CTs d) Q (18, [(0, .ref 98), (2, .int (oI r2)), (3, .int (0 : Int32))], []) σ2))))) : WP c_M_reached (CTs d) Q (0, [(0, .ref 98), (1, .int a1)], []) σ := wp_cut (ms_mono y_M_reached) (cts_cm d) (fun x => Nat.beq x 18 || Nat.beq x 32) (fun x i => (cond (Nat.beq x 32) (Nat.beq i 0 || Nat.beq i 2 || Nat.beq i 3 || Nat.beq i 4 || Nat.beq i 5) (cond (Nat.beq x 18) (Nat.beq i 0 || Nat.beq i 2 || Nat.beq i 3) false))) 15 h
set_option maxRecDepth 20000 in
theorem t_M_reached_18 {d : Nat} {Q : Po} {σ : Hp}  {v2 : Int32} {v3 : Int32}  (h : (if (σ.1 98 0) ≤ v3 then 
    (Q (some (.int v2)) σ)
    else 
    (WP c_M_reached (CTs d) Q (32, [(0, .ref 98), (2, .int v2), (3, .int v3), (4, .int v2), (5, .int (0 : Int32))], []) σ))) : WP c_M_reached (CTs d) Q (18, [(0, .ref 98), (2, .int v2), (3, .int v3)], []) σ := wp_cut (ms_mono y_M_reached) (cts_cm d) (fun x => Nat.beq x 18 || Nat.beq x 32) (fun x i => (cond (Nat.beq x 32) (Nat.beq i 0 || Nat.beq i 2 || Nat.beq i 3 || Nat.beq i 4 || Nat.beq i 5) (cond (Nat.beq x 18) (Nat.beq i 0 || Nat.beq i 2 || Nat.beq i 3) false))) 13 h
set_option maxRecDepth 20000 in
theorem t_M_reached_32 {d : Nat} {Q : Po} {σ : Hp}  {v2 : Int32} {v3 : Int32} {v4 : Int32} {v5 : Int32}  (h : (if (σ.1 98 0) ≤ v5 then 
    (WP c_M_reached (CTs d) Q (18, [(0, .ref 98), (2, .int v4), (3, .int (v3 + (1 : Int32)))], []) σ)
    else 
    ((if ((v2 >>> (v5 &&& 31)) &&& (1 : Int32)) = (1 : Int32) then 
      (CTs d y_M_movedBy [.ref 98, .int v5] σ (fun r1 σ1 => 
        WP c_M_reached (CTs d) Q (32, [(0, .ref 98), (2, .int v2), (3, .int v3), (4, .int (v4 ||| (oI r1))), (5, .int (v5 + (1 : Int32)))], []) σ1))
      else 
      (WP c_M_reached (CTs d) Q (32, [(0, .ref 98), (2, .int v2), (3, .int v3), (4, .int (v4 ||| (0 : Int32))), (5, .int (v5 + (1 : Int32)))], []) σ))))) : WP c_M_reached (CTs d) Q (32, [(0, .ref 98), (2, .int v2), (3, .int v3), (4, .int v4), (5, .int v5)], []) σ := wp_cut (ms_mono y_M_reached) (cts_cm d) (fun x => Nat.beq x 18 || Nat.beq x 32) (fun x i => (cond (Nat.beq x 32) (Nat.beq i 0 || Nat.beq i 2 || Nat.beq i 3 || Nat.beq i 4 || Nat.beq i 5) (cond (Nat.beq x 18) (Nat.beq i 0 || Nat.beq i 2 || Nat.beq i 3) false))) 34 h
theorem e_M_reached {d : Nat} {Q : Po} {σ : Hp}  {a1 : Int32}  (h : WP c_M_reached (CTs d) Q (0, [(0, .ref 98), (1, .int a1)], []) σ) : CTs (d + 1) y_M_reached [.ref 98, .int a1] σ Q := h
set_option maxRecDepth 20000 in
theorem t_M_findRing_0 {d : Nat} {Q : Po} {σ : Hp}  {a1 : Int32}  (h : WP c_M_findRing (CTs d) Q (2, [(0, .ref 98), (1, .int a1), (2, .int (0 : Int32))], []) σ) : WP c_M_findRing (CTs d) Q (0, [(0, .ref 98), (1, .int a1)], []) σ := wp_cut (ms_mono y_M_findRing) (cts_cm d) (fun x => Nat.beq x 2 || Nat.beq x 36) (fun x i => (cond (Nat.beq x 36) (Nat.beq i 0 || Nat.beq i 1 || Nat.beq i 2 || Nat.beq i 3) (cond (Nat.beq x 2) (Nat.beq i 0 || Nat.beq i 1 || Nat.beq i 2) false))) 5 h
set_option maxRecDepth 20000 in
theorem t_M_findRing_2 {d : Nat} {Q : Po} {σ : Hp}  {v1 : Int32} {v2 : Int32}  (h : (if (σ.1 98 0) ≤ v2 then 
    (WP c_M_findRing (CTs d) Q (36, [(0, .ref 98), (1, .int v1), (2, .int (0 : Int32)), (3, .int (0 : Int32))], []) (sI σ 98 34 (0 : Int32)))
    else 
    (CTs d y_M_movedBy [.ref 98, .int v2] σ (fun r1 σ1 => 
      vp_in v2 16 ∧ (WP c_M_findRing (CTs d) Q (2, [(0, .ref 98), (1, .int v1), (2, .int (v2 + (1 : Int32)))], []) (sI σ1 113 (v2).toNatClampNeg (oI r1))))))) : WP c_M_findRing (CTs d) Q (2, [(0, .ref 98), (1, .int v1), (2, .int v2)], []) σ := wp_cut (ms_mono y_M_findRing) (cts_cm d) (fun x => Nat.beq x 2 || Nat.beq x 36) (fun x i => (cond (Nat.beq x 36) (Nat.beq i 0 || Nat.beq i 1 || Nat.beq i 2 || Nat.beq i 3) (cond (Nat.beq x 2) (Nat.beq i 0 || Nat.beq i 1 || Nat.beq i 2) false))) 24 h
set_option maxRecDepth 20000 in
theorem t_M_findRing_36 {d : Nat} {Q : Po} {σ : Hp}  {v1 : Int32} {v2 : Int32} {v3 : Int32}  (h : (if (σ.1 98 0) ≤ v3 then 
    ((if v3 = (σ.1 98 0) then 
      ((if (σ.1 98 34) = 0 then 
        (Q (some (.int v2)) σ)
        else 
        (vp_in ((σ.1 98 34) - (1 : Int32)) 6 ∧ (WP c_M_findRing (CTs d) Q (36, [(0, .ref 98), (1, .int v1), (2, .int v2), (3, .int ((σ.1 114 ((σ.1 98 34) - (1 : Int32)).toNatClampNeg) + (1 : Int32)))], []) (sI σ 98 34 ((σ.1 98 34) - (1 : Int32)))))))
      else 
      (vp_in (σ.1 98 34) 6 ∧ (vp_in v3 16 ∧ (vp_in (0 : Int32) 6 ∧ ((if (((σ.1 113 (v3).toNatClampNeg) >>> (((sI σ 114 (σ.1 98 34).toNatClampNeg v3).1 114 (0 : Int32).toNatClampNeg) &&& 31)) &&& (1 : Int32)) = (1 : Int32) then 
        ((if v2 = v1 then 
          (Q (some (.int v2)) (sI (sI σ 114 (σ.1 98 34).toNatClampNeg v3) 98 34 ((σ.1 98 34) + (1 : Int32))))
          else 
          (WP c_M_findRing (CTs d) Q (36, [(0, .ref 98), (1, .int v1), (2, .int (v2 + (1 : Int32))), (3, .int (0 : Int32))], []) (sI (sI σ 114 (σ.1 98 34).toNatClampNeg v3) 98 34 ((σ.1 98 34) + (1 : Int32))))))
        else 
        (WP c_M_findRing (CTs d) Q (36, [(0, .ref 98), (1, .int v1), (2, .int v2), (3, .int (0 : Int32))], []) (sI (sI σ 114 (σ.1 98 34).toNatClampNeg v3) 98 34 ((σ.1 98 34) + (1 : Int32)))))))))))
    else 
    (CTs d y_M_mayStand [.ref 98, .int v3] σ (fun r1 σ1 => 
      (if (oI r1) = 0 then 
        (WP c_M_findRing (CTs d) Q (36, [(0, .ref 98), (1, .int v1), (2, .int v2), (3, .int (v3 + (1 : Int32)))], []) σ1)
        else 
        ((if v3 = (σ1.1 98 0) then 
          ((if (σ1.1 98 34) = 0 then 
            (Q (some (.int v2)) σ1)
            else 
            (vp_in ((σ1.1 98 34) - (1 : Int32)) 6 ∧ (WP c_M_findRing (CTs d) Q (36, [(0, .ref 98), (1, .int v1), (2, .int v2), (3, .int ((σ1.1 114 ((σ1.1 98 34) - (1 : Int32)).toNatClampNeg) + (1 : Int32)))], []) (sI σ1 98 34 ((σ1.1 98 34) - (1 : Int32)))))))
          else 
          (vp_in (σ1.1 98 34) 6 ∧ (vp_in v3 16 ∧ (vp_in (0 : Int32) 6 ∧ ((if (((σ1.1 113 (v3).toNatClampNeg) >>> (((sI σ1 114 (σ1.1 98 34).toNatClampNeg v3).1 114 (0 : Int32).toNatClampNeg) &&& 31)) &&& (1 : Int32)) = (1 : Int32) then 
            ((if v2 = v1 then 
              (Q (some (.int v2)) (sI (sI σ1 114 (σ1.1 98 34).toNatClampNeg v3) 98 34 ((σ1.1 98 34) + (1 : Int32))))
              else 
              (WP c_M_findRing (CTs d) Q (36, [(0, .ref 98), (1, .int v1), (2, .int (v2 + (1 : Int32))), (3, .int (0 : Int32))], []) (sI (sI σ1 114 (σ1.1 98 34).toNatClampNeg v3) 98 34 ((σ1.1 98 34) + (1 : Int32))))))
            else 
            (WP c_M_findRing (CTs d) Q (36, [(0, .ref 98), (1, .int v1), (2, .int v2), (3, .int (0 : Int32))], []) (sI (sI σ1 114 (σ1.1 98 34).toNatClampNeg v3) 98 34 ((σ1.1 98 34) + (1 : Int32)))))))))))))))) : WP c_M_findRing (CTs d) Q (36, [(0, .ref 98), (1, .int v1), (2, .int v2), (3, .int v3)], []) σ := wp_cut (ms_mono y_M_findRing) (cts_cm d) (fun x => Nat.beq x 2 || Nat.beq x 36) (fun x i => (cond (Nat.beq x 36) (Nat.beq i 0 || Nat.beq i 1 || Nat.beq i 2 || Nat.beq i 3) (cond (Nat.beq x 2) (Nat.beq i 0 || Nat.beq i 1 || Nat.beq i 2) false))) 141 h
theorem e_M_findRing {d : Nat} {Q : Po} {σ : Hp}  {a1 : Int32}  (h : WP c_M_findRing (CTs d) Q (0, [(0, .ref 98), (1, .int a1)], []) σ) : CTs (d + 1) y_M_findRing [.ref 98, .int a1] σ Q := h
set_option maxRecDepth 20000 in
theorem t_M_mayStand_0 {d : Nat} {Q : Po} {σ : Hp}  {a1 : Int32}  (h : (if (σ.1 98 34) = 0 then 
    (vb (1 : Int32) ∧ Q (some (.int (1 : Int32))) σ)
    else 
    ((if (σ.1 98 34) = (6 : Int32) then 
      (vb (0 : Int32) ∧ Q (some (.int (0 : Int32))) σ)
      else 
      (vp_in (0 : Int32) 6 ∧ ((if a1 ≤ (σ.1 114 (0 : Int32).toNatClampNeg) then 
        (vb (0 : Int32) ∧ Q (some (.int (0 : Int32))) σ)
        else 
        (vp_in ((σ.1 98 34) - (1 : Int32)) 6 ∧ (vp_in (σ.1 114 ((σ.1 98 34) - (1 : Int32)).toNatClampNeg) 16 ∧ ((if (((σ.1 113 (σ.1 114 ((σ.1 98 34) - (1 : Int32)).toNatClampNeg).toNatClampNeg) >>> (a1 &&& 31)) &&& (1 : Int32)) = 0 then 
          (vb (0 : Int32) ∧ Q (some (.int (0 : Int32))) σ)
          else 
          (WP c_M_mayStand (CTs d) Q (55, [(0, .ref 98), (1, .int a1), (2, .int (0 : Int32))], []) σ)))))))))))) : WP c_M_mayStand (CTs d) Q (0, [(0, .ref 98), (1, .int a1)], []) σ := wp_cut (ms_mono y_M_mayStand) (cts_cm d) (fun x => Nat.beq x 55) (fun x i => (cond (Nat.beq x 55) (Nat.beq i 0 || Nat.beq i 1 || Nat.beq i 2) false)) 41 h
set_option maxRecDepth 20000 in
theorem t_M_mayStand_55 {d : Nat} {Q : Po} {σ : Hp}  {v1 : Int32} {v2 : Int32}  (h : (if (σ.1 98 34) ≤ v2 then 
    (vb (1 : Int32) ∧ Q (some (.int (1 : Int32))) σ)
    else 
    (vp_in v2 6 ∧ ((if (σ.1 114 (v2).toNatClampNeg) = v1 then 
      (vb (0 : Int32) ∧ Q (some (.int (0 : Int32))) σ)
      else 
      (WP c_M_mayStand (CTs d) Q (55, [(0, .ref 98), (1, .int v1), (2, .int (v2 + (1 : Int32)))], []) σ)))))) : WP c_M_mayStand (CTs d) Q (55, [(0, .ref 98), (1, .int v1), (2, .int v2)], []) σ := wp_cut (ms_mono y_M_mayStand) (cts_cm d) (fun x => Nat.beq x 55) (fun x i => (cond (Nat.beq x 55) (Nat.beq i 0 || Nat.beq i 1 || Nat.beq i 2) false)) 19 h
theorem e_M_mayStand {d : Nat} {Q : Po} {σ : Hp}  {a1 : Int32}  (h : WP c_M_mayStand (CTs d) Q (0, [(0, .ref 98), (1, .int a1)], []) σ) : CTs (d + 1) y_M_mayStand [.ref 98, .int a1] σ Q := h
set_option maxRecDepth 20000 in
theorem t_M_rings_0 {d : Nat} {Q : Po} {σ : Hp}    (h : CTs d y_M_findRing [.ref 98, .int (-1 : Int32)] σ (fun r1 σ1 => 
    Q (some (.int (oI r1))) σ1)) : WP c_M_rings (CTs d) Q (0, [(0, .ref 98)], []) σ := wp_cut (ms_mono y_M_rings) (cts_cm d) (fun x => false) (fun _ _ => false) 6 h
theorem e_M_rings {d : Nat} {Q : Po} {σ : Hp}    (h : WP c_M_rings (CTs d) Q (0, [(0, .ref 98)], []) σ) : CTs (d + 1) y_M_rings [.ref 98] σ Q := h
set_option maxRecDepth 20000 in
theorem t_M_ring_0 {d : Nat} {Q : Po} {σ : Hp}  {a1 : Int32} {a2 : Int32}  (h : (if (-1 : Int32) ≤ a2 then 
    ((if 0 ≤ a1 then 
      (CTs d y_M_findRing [.ref 98, .int a1] σ (fun r1 σ1 => 
        (if a1 < 0 then 
          (Q (some (.int (-3 : Int32))) σ1)
          else 
          ((if (oI r1) = a1 then 
            ((if (σ1.1 98 34) = 0 then 
              (Q (some (.int (-3 : Int32))) σ1)
              else 
              ((if a2 = (-1 : Int32) then 
                (Q (some (.int (σ1.1 98 34))) σ1)
                else 
                ((if (σ1.1 98 34) ≤ a2 then 
                  (Q (some (.int (-3 : Int32))) σ1)
                  else 
                  (vp_in a2 6 ∧ (Q (some (.int (σ1.1 114 (a2).toNatClampNeg))) σ1))))))))
            else 
            (Q (some (.int (-3 : Int32))) σ1))))))
      else 
      ((if a1 < 0 then 
        (Q (some (.int (-3 : Int32))) σ)
        else 
        ((if (0 : Int32) = a1 then 
          ((if (σ.1 98 34) = 0 then 
            (Q (some (.int (-3 : Int32))) σ)
            else 
            ((if a2 = (-1 : Int32) then 
              (Q (some (.int (σ.1 98 34))) σ)
              else 
              ((if (σ.1 98 34) ≤ a2 then 
                (Q (some (.int (-3 : Int32))) σ)
                else 
                (vp_in a2 6 ∧ (Q (some (.int (σ.1 114 (a2).toNatClampNeg))) σ))))))))
          else 
          (Q (some (.int (-3 : Int32))) σ)))))))
    else 
    (Q (some (.int (-1 : Int32))) σ))) : WP c_M_ring (CTs d) Q (0, [(0, .ref 98), (1, .int a1), (2, .int a2)], []) σ := wp_cut (ms_mono y_M_ring) (cts_cm d) (fun x => false) (fun _ _ => false) 82 h
theorem e_M_ring {d : Nat} {Q : Po} {σ : Hp}  {a1 : Int32} {a2 : Int32}  (h : WP c_M_ring (CTs d) Q (0, [(0, .ref 98), (1, .int a1), (2, .int a2)], []) σ) : CTs (d + 1) y_M_ring [.ref 98, .int a1, .int a2] σ Q := h
set_option maxRecDepth 20000 in
theorem t_M_copy_0 {d : Nat} {Q : Po} {σ : Hp} {p : Nat} {q : Nat} {a3 : Int32} (hs : (p = 105 ∧ q = 115) ∨ (p = 106 ∧ q = 116) ∨ (p = 115 ∧ q = 105) ∨ (p = 116 ∧ q = 106)) (h : WP c_M_copy (CTs d) Q (3, [(1, .ref p), (2, .ref q), (3, .int a3), (4, .int (0 : Int32))], []) σ) : WP c_M_copy (CTs d) Q (0, [(0, .ref 98), (1, .ref p), (2, .ref q), (3, .int a3)], []) σ := by
  rcases hs with ⟨rfl, rfl⟩ | ⟨rfl, rfl⟩ | ⟨rfl, rfl⟩ | ⟨rfl, rfl⟩ <;> exact wp_cut (ms_mono y_M_copy) (cts_cm d) (fun x => Nat.beq x 3) (fun x i => (cond (Nat.beq x 3) (Nat.beq i 1 || Nat.beq i 2 || Nat.beq i 3 || Nat.beq i 4) false)) 5 h
set_option maxRecDepth 20000 in
theorem t_M_copy_3 {d : Nat} {Q : Po} {σ : Hp} {p : Nat} {q : Nat} {v3 : Int32} {v4 : Int32} (hs : (p = 105 ∧ q = 115) ∨ (p = 106 ∧ q = 116) ∨ (p = 115 ∧ q = 105) ∨ (p = 116 ∧ q = 106)) (h : (if v3 ≤ v4 then 
    (Q none σ)
    else 
    (vp_in v4 (ln p) ∧ (vp_in v4 (ln q) ∧ (WP c_M_copy (CTs d) Q (3, [(1, .ref p), (2, .ref q), (3, .int v3), (4, .int (v4 + (1 : Int32)))], []) (sI σ q (v4).toNatClampNeg (σ.1 p (v4).toNatClampNeg))))))) : WP c_M_copy (CTs d) Q (3, [(1, .ref p), (2, .ref q), (3, .int v3), (4, .int v4)], []) σ := by
  rcases hs with ⟨rfl, rfl⟩ | ⟨rfl, rfl⟩ | ⟨rfl, rfl⟩ | ⟨rfl, rfl⟩ <;> exact wp_cut (ms_mono y_M_copy) (cts_cm d) (fun x => Nat.beq x 3) (fun x i => (cond (Nat.beq x 3) (Nat.beq i 1 || Nat.beq i 2 || Nat.beq i 3 || Nat.beq i 4) false)) 15 h
theorem e_M_copy {d : Nat} {Q : Po} {σ : Hp} {p : Nat} {q : Nat} {a3 : Int32} (hs : (p = 105 ∧ q = 115) ∨ (p = 106 ∧ q = 116) ∨ (p = 115 ∧ q = 105) ∨ (p = 116 ∧ q = 106)) (h : WP c_M_copy (CTs d) Q (0, [(0, .ref 98), (1, .ref p), (2, .ref q), (3, .int a3)], []) σ) : CTs (d + 1) y_M_copy [.ref 98, .ref p, .ref q, .int a3] σ Q := by
  rcases hs with ⟨rfl, rfl⟩ | ⟨rfl, rfl⟩ | ⟨rfl, rfl⟩ | ⟨rfl, rfl⟩ <;> exact h
set_option maxRecDepth 20000 in
theorem t_M_setAside_0 {d : Nat} {Q : Po} {σ : Hp}    (h : CTs d y_M_copy [.ref 98, .ref 105, .ref 115, .int (16 : Int32)] (sI σ 98 35 (σ.1 98 19)) (fun _ σ1 => 
    CTs d y_M_copy [.ref 98, .ref 106, .ref 116, .int (160 : Int32)] σ1 (fun _ σ2 => 
      Q none (sL (sL (sL σ2 98 38 (σ2.2 98 22)) 98 39 (σ2.2 98 23)) 98 40 (σ2.2 98 24))))) : WP c_M_setAside (CTs d) Q (0, [(0, .ref 98)], []) σ := wp_cut (ms_mono y_M_setAside) (cts_cm d) (fun x => false) (fun _ _ => false) 33 h
theorem e_M_setAside {d : Nat} {Q : Po} {σ : Hp}    (h : WP c_M_setAside (CTs d) Q (0, [(0, .ref 98)], []) σ) : CTs (d + 1) y_M_setAside [.ref 98] σ Q := h
set_option maxRecDepth 20000 in
theorem t_M_putBack_0 {d : Nat} {Q : Po} {σ : Hp}    (h : CTs d y_M_copy [.ref 98, .ref 115, .ref 105, .int (16 : Int32)] (sI σ 98 19 (σ.1 98 35)) (fun _ σ1 => 
    CTs d y_M_copy [.ref 98, .ref 116, .ref 106, .int (160 : Int32)] σ1 (fun _ σ2 => 
      Q none (sL (sL (sL σ2 98 22 (σ2.2 98 38)) 98 23 (σ2.2 98 39)) 98 24 (σ2.2 98 40))))) : WP c_M_putBack (CTs d) Q (0, [(0, .ref 98)], []) σ := wp_cut (ms_mono y_M_putBack) (cts_cm d) (fun x => false) (fun _ _ => false) 33 h
theorem e_M_putBack {d : Nat} {Q : Po} {σ : Hp}    (h : WP c_M_putBack (CTs d) Q (0, [(0, .ref 98)], []) σ) : CTs (d + 1) y_M_putBack [.ref 98] σ Q := h
set_option maxRecDepth 20000 in
theorem t_M_rest_0 {d : Nat} {Q : Po} {σ : Hp}  {a1 : Int32}  (h : CTs d y_M_in [.int a1, .int (0 : Int32), .int (200 : Int32)] σ (fun r1 σ1 => 
    (if (oI r1) = 0 then 
      (Q (some (.int (-1 : Int32))) σ1)
      else 
      (CTs d y_M_setAside [.ref 98] σ1 (fun _ σ2 => 
        WP c_M_rest (CTs d) Q (19, [(0, .ref 98), (1, .int a1), (2, .int (0 : Int32))], []) σ2))))) : WP c_M_rest (CTs d) Q (0, [(0, .ref 98), (1, .int a1)], []) σ := wp_cut (ms_mono y_M_rest) (cts_cm d) (fun x => Nat.beq x 19) (fun x i => (cond (Nat.beq x 19) (Nat.beq i 0 || Nat.beq i 1 || Nat.beq i 2) false)) 14 h
set_option maxRecDepth 20000 in
theorem t_M_rest_19 {d : Nat} {Q : Po} {σ : Hp}  {v1 : Int32} {v2 : Int32}  (h : (if v1 < v2 then 
    (CTs d y_M_putBack [.ref 98] σ (fun _ σ1 => 
      (if v2 ≤ v1 then 
        (Q (some (.int v2)) σ1)
        else 
        (Q (some (.int (-3 : Int32))) σ1))))
    else 
    (CTs d y_M_steps [.ref 98] σ (fun r2 σ2 => 
      (if (oI r2) = 0 then 
        (CTs d y_M_putBack [.ref 98] σ2 (fun _ σ3 => 
          (if v2 ≤ v1 then 
            (Q (some (.int v2)) σ3)
            else 
            (Q (some (.int (-3 : Int32))) σ3))))
        else 
        (WP c_M_rest (CTs d) Q (19, [(0, .ref 98), (1, .int v1), (2, .int (v2 + (1 : Int32)))], []) σ2)))))) : WP c_M_rest (CTs d) Q (19, [(0, .ref 98), (1, .int v1), (2, .int v2)], []) σ := wp_cut (ms_mono y_M_rest) (cts_cm d) (fun x => Nat.beq x 19) (fun x i => (cond (Nat.beq x 19) (Nat.beq i 0 || Nat.beq i 1 || Nat.beq i 2) false)) 31 h
theorem e_M_rest {d : Nat} {Q : Po} {σ : Hp}  {a1 : Int32}  (h : WP c_M_rest (CTs d) Q (0, [(0, .ref 98), (1, .int a1)], []) σ) : CTs (d + 1) y_M_rest [.ref 98, .int a1] σ Q := h
set_option maxRecDepth 20000 in
theorem t_M_isAlike_0 {d : Nat} {Q : Po} {σ : Hp}  {a1 : Int32} {a2 : Int32}  (h : WP c_M_isAlike (CTs d) Q (2, [(0, .ref 98), (1, .int a1), (2, .int a2), (3, .int (0 : Int32))], []) σ) : WP c_M_isAlike (CTs d) Q (0, [(0, .ref 98), (1, .int a1), (2, .int a2)], []) σ := wp_cut (ms_mono y_M_isAlike) (cts_cm d) (fun x => Nat.beq x 2) (fun x i => (cond (Nat.beq x 2) (Nat.beq i 0 || Nat.beq i 1 || Nat.beq i 2 || Nat.beq i 3) false)) 5 h
set_option maxRecDepth 20000 in
theorem t_M_isAlike_2 {d : Nat} {Q : Po} {σ : Hp}  {v1 : Int32} {v2 : Int32} {v3 : Int32}  (h : (if (σ.1 98 0) ≤ v3 then 
    (vb (1 : Int32) ∧ Q (some (.int (1 : Int32))) σ)
    else 
    (CTs d y_M_of [.ref 98, .int v3, .int (0 : Int32)] σ (fun r1 σ1 => 
      (if (oI r1) = (1 : Int32) then 
        (vp_in (((16 : Int32) * v1) + v3) 976 ∧ (vp_in (((16 : Int32) * v2) + v3) 976 ∧ ((if (σ1.1 117 (((16 : Int32) * v1) + v3).toNatClampNeg) = (σ1.1 117 (((16 : Int32) * v2) + v3).toNatClampNeg) then 
          (WP c_M_isAlike (CTs d) Q (2, [(0, .ref 98), (1, .int v1), (2, .int v2), (3, .int (v3 + (1 : Int32)))], []) σ1)
          else 
          (vb (0 : Int32) ∧ Q (some (.int (0 : Int32))) σ1)))))
        else 
        (WP c_M_isAlike (CTs d) Q (2, [(0, .ref 98), (1, .int v1), (2, .int v2), (3, .int (v3 + (1 : Int32)))], []) σ1)))))) : WP c_M_isAlike (CTs d) Q (2, [(0, .ref 98), (1, .int v1), (2, .int v2), (3, .int v3)], []) σ := wp_cut (ms_mono y_M_isAlike) (cts_cm d) (fun x => Nat.beq x 2) (fun x i => (cond (Nat.beq x 2) (Nat.beq i 0 || Nat.beq i 1 || Nat.beq i 2 || Nat.beq i 3) false)) 39 h
theorem e_M_isAlike {d : Nat} {Q : Po} {σ : Hp}  {a1 : Int32} {a2 : Int32}  (h : WP c_M_isAlike (CTs d) Q (0, [(0, .ref 98), (1, .int a1), (2, .int a2)], []) σ) : CTs (d + 1) y_M_isAlike [.ref 98, .int a1, .int a2] σ Q := h
