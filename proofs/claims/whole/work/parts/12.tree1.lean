set_option maxRecDepth 20000 in
theorem t_De_reads_0 {d : Nat} {Q : Po} {σ : Hp} {c : Nat} {a2 : Int32} (hs : (c = 93)) (h : CTs d y_Do_begins [.ref 88, .int (30 : Int32)] σ (fun _ σ1 => 
    CTs d y_Th_reads [.ref c, .ref 88, .int a2] σ1 (fun r2 σ2 => 
      Q (some (.int ((oI r2) * (3 : Int32)))) σ2))) : WP c_De_reads (CTs d) Q (0, [(0, .ref c), (1, .ref 88), (2, .int a2)], []) σ := by
  obtain rfl := hs
  exact wp_cut (ms_mono y_De_reads) (cts_cm d) (fun x => false) (fun _ _ => false) 12 h
theorem e_De_reads {d : Nat} {Q : Po} {σ : Hp} {c : Nat} {a2 : Int32} (hs : (c = 93)) (h : WP c_De_reads (CTs d) Q (0, [(0, .ref c), (1, .ref 88), (2, .int a2)], []) σ) : CTs (d + 1) y_De_reads [.ref c, .ref 88, .int a2] σ Q := by
  obtain rfl := hs
  exact h
set_option maxRecDepth 20000 in
theorem t_De_tells_0 {d : Nat} {Q : Po} {σ : Hp} {c : Nat} {a2 : Int32} (hs : (c = 93)) (h : CTs d y_Do_begins [.ref 88, .int (31 : Int32)] σ (fun _ σ1 => 
    CTs d y_Th_tells [.ref c, .ref 88, .int a2] σ1 (fun r2 σ2 => 
      CTs d y_Th_units [.ref c, .ref 88, .int (σ2.1 88 0)] σ2 (fun r3 σ3 => 
        Q (some (.int ((oI r2) + (oI r3)))) σ3)))) : WP c_De_tells (CTs d) Q (0, [(0, .ref c), (1, .ref 88), (2, .int a2)], []) σ := by
  obtain rfl := hs
  exact wp_cut (ms_mono y_De_tells) (cts_cm d) (fun x => false) (fun _ _ => false) 16 h
theorem e_De_tells {d : Nat} {Q : Po} {σ : Hp} {c : Nat} {a2 : Int32} (hs : (c = 93)) (h : WP c_De_tells (CTs d) Q (0, [(0, .ref c), (1, .ref 88), (2, .int a2)], []) σ) : CTs (d + 1) y_De_tells [.ref c, .ref 88, .int a2] σ Q := by
  obtain rfl := hs
  exact h
set_option maxRecDepth 20000 in
theorem t_Do_clear_0 {d : Nat} {Q : Po} {σ : Hp}    (h : vb (0 : Int32) ∧ (Q none (sI (sI σ 88 2 (0 : Int32)) 88 3 (0 : Int32)))) : WP c_Do_clear (CTs d) Q (0, [(0, .ref 88)], []) σ := wp_cut (ms_mono y_Do_clear) (cts_cm d) (fun x => false) (fun _ _ => false) 9 h
theorem e_Do_clear {d : Nat} {Q : Po} {σ : Hp}    (h : WP c_Do_clear (CTs d) Q (0, [(0, .ref 88)], []) σ) : CTs (d + 1) y_Do_clear [.ref 88] σ Q := h
set_option maxRecDepth 20000 in
theorem t_Do_begins_0 {d : Nat} {Q : Po} {σ : Hp}  {a1 : Int32}  (h : (if (σ.1 88 2) = 0 then 
    ((if (σ.1 88 3) < (30 : Int32) then 
      (vp_in (σ.1 88 3) 30 ∧ (Q none (sI (sI σ 89 (σ.1 88 3).toNatClampNeg a1) 88 3 ((σ.1 88 3) + (1 : Int32)))))
      else 
      (Q none σ)))
    else 
    (Q none σ))) : WP c_Do_begins (CTs d) Q (0, [(0, .ref 88), (1, .int a1)], []) σ := wp_cut (ms_mono y_Do_begins) (cts_cm d) (fun x => false) (fun _ _ => false) 24 h
theorem e_Do_begins {d : Nat} {Q : Po} {σ : Hp}  {a1 : Int32}  (h : WP c_Do_begins (CTs d) Q (0, [(0, .ref 88), (1, .int a1)], []) σ) : CTs (d + 1) y_Do_begins [.ref 88, .int a1] σ Q := h
set_option maxRecDepth 20000 in
theorem t_He_reads_0 {d : Nat} {Q : Po} {σ : Hp} {c : Nat} {a2 : Int32} (hs : (c = 96) ∨ (c = 97)) (h : CTs d y_Do_begins [.ref 88, .int (60 : Int32)] σ (fun _ σ1 => 
    CTs d y_Th_reads [.ref c, .ref 88, .int a2] σ1 (fun r2 σ2 => 
      Q (some (.int ((oI r2) - (4 : Int32)))) σ2))) : WP c_He_reads (CTs d) Q (0, [(0, .ref c), (1, .ref 88), (2, .int a2)], []) σ := by
  rcases hs with rfl | rfl <;> exact wp_cut (ms_mono y_He_reads) (cts_cm d) (fun x => false) (fun _ _ => false) 12 h
theorem e_He_reads {d : Nat} {Q : Po} {σ : Hp} {c : Nat} {a2 : Int32} (hs : (c = 96) ∨ (c = 97)) (h : WP c_He_reads (CTs d) Q (0, [(0, .ref c), (1, .ref 88), (2, .int a2)], []) σ) : CTs (d + 1) y_He_reads [.ref c, .ref 88, .int a2] σ Q := by
  rcases hs with rfl | rfl <;> exact h
set_option maxRecDepth 20000 in
theorem t_Hl_steps_0 {d : Nat} {Q : Po} {σ : Hp} {c : Nat} {a2 : Int32} (hs : (c = 97)) (h : CTs d y_Do_begins [.ref 88, .int (70 : Int32)] σ (fun _ σ1 => 
    CTs d y_Th_steps [.ref c, .ref 88, .int a2] σ1 (fun r2 σ2 => 
      CTs d y_Th_units [.ref c, .ref 88, .int (σ2.1 88 1)] σ2 (fun r3 σ3 => 
        Q (some (.int ((oI r2) + (oI r3)))) σ3)))) : WP c_Hl_steps (CTs d) Q (0, [(0, .ref c), (1, .ref 88), (2, .int a2)], []) σ := by
  obtain rfl := hs
  exact wp_cut (ms_mono y_Hl_steps) (cts_cm d) (fun x => false) (fun _ _ => false) 16 h
theorem e_Hl_steps {d : Nat} {Q : Po} {σ : Hp} {c : Nat} {a2 : Int32} (hs : (c = 97)) (h : WP c_Hl_steps (CTs d) Q (0, [(0, .ref c), (1, .ref 88), (2, .int a2)], []) σ) : CTs (d + 1) y_Hl_steps [.ref c, .ref 88, .int a2] σ Q := by
  obtain rfl := hs
  exact h
set_option maxRecDepth 20000 in
theorem t_Hl_tells_0 {d : Nat} {Q : Po} {σ : Hp} {c : Nat} {a2 : Int32} (hs : (c = 97)) (h : CTs d y_Do_begins [.ref 88, .int (71 : Int32)] σ (fun _ σ1 => 
    CTs d y_Th_tells [.ref c, .ref 88, .int a2] σ1 (fun r2 σ2 => 
      Q (some (.int ((oI r2) * (2 : Int32)))) σ2))) : WP c_Hl_tells (CTs d) Q (0, [(0, .ref c), (1, .ref 88), (2, .int a2)], []) σ := by
  obtain rfl := hs
  exact wp_cut (ms_mono y_Hl_tells) (cts_cm d) (fun x => false) (fun _ _ => false) 12 h
theorem e_Hl_tells {d : Nat} {Q : Po} {σ : Hp} {c : Nat} {a2 : Int32} (hs : (c = 97)) (h : WP c_Hl_tells (CTs d) Q (0, [(0, .ref c), (1, .ref 88), (2, .int a2)], []) σ) : CTs (d + 1) y_Hl_tells [.ref c, .ref 88, .int a2] σ Q := by
  obtain rfl := hs
  exact h
set_option maxRecDepth 20000 in
theorem t_Sc_write_0 {d : Nat} {Q : Po} {σ : Hp}    (h : CTs d y_Tx_clear [.ref 17] σ (fun _ σ1 => 
    CTs d y_Sc_next [.ref 1] (sI (sI (sI σ1 1 2 (0 : Int32)) 1 3 (0 : Int32)) 1 5 (0 : Int32)) (fun r2 σ2 => 
      WP c_Sc_write (CTs d) Q (31, [(0, .ref 1), (1, .int (1 : Int32)), (2, .int (0 : Int32))], []) σ2))) : WP c_Sc_write (CTs d) Q (0, [(0, .ref 1)], []) σ := wp_cut (ms_mono y_Sc_write) (cts_cm d) (fun x => Nat.beq x 31) (fun x i => (cond (Nat.beq x 31) (Nat.beq i 0 || Nat.beq i 1 || Nat.beq i 2) false)) 22 h
set_option maxRecDepth 20000 in
theorem t_Sc_write_31 {d : Nat} {Q : Po} {σ : Hp}  {v1 : Int32} {v2 : Int32}  (h : (if (16 : Int32) ≤ v2 then 
    ((if v1 = 0 then 
      (vb (0 : Int32) ∧ Q (some (.int (0 : Int32))) (sI σ 1 1 (0 : Int32)))
      else 
      ((if (σ.1 1 6) = 0 then 
        (vb (1 : Int32) ∧ Q (some (.int (1 : Int32))) (sI σ 1 1 (0 : Int32)))
        else 
        (CTs d y_Sc_wrong [.ref 1, .int (1 : Int32)] σ (fun r1 σ1 => 
          (if (oI r1) = 0 then 
            (vb (0 : Int32) ∧ Q (some (.int (0 : Int32))) (sI σ1 1 1 (0 : Int32)))
            else 
            (vb (1 : Int32) ∧ Q (some (.int (1 : Int32))) (sI σ1 1 1 (0 : Int32))))))))))
    else 
    ((if v1 = 0 then 
      ((if v1 = 0 then 
        (vb (0 : Int32) ∧ Q (some (.int (0 : Int32))) (sI σ 1 1 (0 : Int32)))
        else 
        ((if (σ.1 1 6) = 0 then 
          (vb (1 : Int32) ∧ Q (some (.int (1 : Int32))) (sI σ 1 1 (0 : Int32)))
          else 
          (CTs d y_Sc_wrong [.ref 1, .int (1 : Int32)] σ (fun r2 σ2 => 
            (if (oI r2) = 0 then 
              (vb (0 : Int32) ∧ Q (some (.int (0 : Int32))) (sI σ2 1 1 (0 : Int32)))
              else 
              (vb (1 : Int32) ∧ Q (some (.int (1 : Int32))) (sI σ2 1 1 (0 : Int32))))))))))
      else 
      ((if (σ.1 1 6) = 0 then 
        ((if v1 = 0 then 
          (vb (0 : Int32) ∧ Q (some (.int (0 : Int32))) (sI σ 1 1 (0 : Int32)))
          else 
          ((if (σ.1 1 6) = 0 then 
            (vb (1 : Int32) ∧ Q (some (.int (1 : Int32))) (sI σ 1 1 (0 : Int32)))
            else 
            (CTs d y_Sc_wrong [.ref 1, .int (1 : Int32)] σ (fun r3 σ3 => 
              (if (oI r3) = 0 then 
                (vb (0 : Int32) ∧ Q (some (.int (0 : Int32))) (sI σ3 1 1 (0 : Int32)))
                else 
                (vb (1 : Int32) ∧ Q (some (.int (1 : Int32))) (sI σ3 1 1 (0 : Int32))))))))))
        else 
        (CTs d y_Sc_oneThing [.ref 1] σ (fun r4 σ4 => 
          (if (oI r4) = 0 then 
            (WP c_Sc_write (CTs d) Q (31, [(0, .ref 1), (1, .int (0 : Int32)), (2, .int (v2 + (1 : Int32)))], []) σ4)
            else 
            (CTs d y_Sc_skipSign [.ref 1, .int (59 : Int32)] σ4 (fun r5 σ5 => 
              (if (oI r5) = 0 then 
                (WP c_Sc_write (CTs d) Q (31, [(0, .ref 1), (1, .int (0 : Int32)), (2, .int (v2 + (1 : Int32)))], []) σ5)
                else 
                (WP c_Sc_write (CTs d) Q (31, [(0, .ref 1), (1, .int (1 : Int32)), (2, .int (v2 + (1 : Int32)))], []) σ5))))))))))))) : WP c_Sc_write (CTs d) Q (31, [(0, .ref 1), (1, .int v1), (2, .int v2)], []) σ := wp_cut (ms_mono y_Sc_write) (cts_cm d) (fun x => Nat.beq x 31) (fun x i => (cond (Nat.beq x 31) (Nat.beq i 0 || Nat.beq i 1 || Nat.beq i 2) false)) 150 h
theorem e_Sc_write {d : Nat} {Q : Po} {σ : Hp}    (h : WP c_Sc_write (CTs d) Q (0, [(0, .ref 1)], []) σ) : CTs (d + 1) y_Sc_write [.ref 1] σ Q := h
set_option maxRecDepth 20000 in
theorem t_Sc_wrong_0 {d : Nat} {Q : Po} {σ : Hp}  {a1 : Int32}  (h : vb (0 : Int32) ∧ Q (some (.int (0 : Int32))) (sI (sI σ 1 2 a1) 1 3 (σ.1 1 7))) : WP c_Sc_wrong (CTs d) Q (0, [(0, .ref 1), (1, .int a1)], []) σ := wp_cut (ms_mono y_Sc_wrong) (cts_cm d) (fun x => false) (fun _ _ => false) 11 h
theorem e_Sc_wrong {d : Nat} {Q : Po} {σ : Hp}  {a1 : Int32}  (h : WP c_Sc_wrong (CTs d) Q (0, [(0, .ref 1), (1, .int a1)], []) σ) : CTs (d + 1) y_Sc_wrong [.ref 1, .int a1] σ Q := h
set_option maxRecDepth 20000 in
theorem t_Sc_next_0 {d : Nat} {Q : Po} {σ : Hp}    (h : (if (σ.1 1 1) ≤ (σ.1 1 5) then 
    (CTs d y_Sc_sortAt [.ref 1, .int (σ.1 1 5)] (sI σ 1 7 (σ.1 1 5)) (fun r1 σ1 => 
      (if (oI r1) = (3 : Int32) then 
        (vp_in (σ1.1 1 5) 300 ∧ (vb (1 : Int32) ∧ Q (some (.int (1 : Int32))) (sI (sI (sI (sI (sI σ1 1 6 (oI r1)) 1 8 (0 : Int32)) 1 9 (0 : Int32)) 1 9 (σ1.1 2 (σ1.1 1 5).toNatClampNeg)) 1 5 ((σ1.1 1 5) + (1 : Int32)))))
        else 
        ((if (oI r1) = (1 : Int32) then 
          ((if (oI r1) = (1 : Int32) then 
            ((if (oI r1) = (1 : Int32) then 
              (WP c_Sc_next (CTs d) Q (148, [(0, .ref 1), (1, .int (6 : Int32)), (2, .int (27 : Int32)), (3, .int (96 : Int32))], []) (sI (sI (sI σ1 1 6 (oI r1)) 1 8 (0 : Int32)) 1 9 (0 : Int32)))
              else 
              (WP c_Sc_next (CTs d) Q (148, [(0, .ref 1), (1, .int (6 : Int32)), (2, .int (27 : Int32)), (3, .int (48 : Int32))], []) (sI (sI (sI σ1 1 6 (oI r1)) 1 8 (0 : Int32)) 1 9 (0 : Int32)))))
            else 
            ((if (oI r1) = (1 : Int32) then 
              (WP c_Sc_next (CTs d) Q (148, [(0, .ref 1), (1, .int (6 : Int32)), (2, .int (10 : Int32)), (3, .int (96 : Int32))], []) (sI (sI (sI σ1 1 6 (oI r1)) 1 8 (0 : Int32)) 1 9 (0 : Int32)))
              else 
              (WP c_Sc_next (CTs d) Q (148, [(0, .ref 1), (1, .int (6 : Int32)), (2, .int (10 : Int32)), (3, .int (48 : Int32))], []) (sI (sI (sI σ1 1 6 (oI r1)) 1 8 (0 : Int32)) 1 9 (0 : Int32)))))))
          else 
          ((if (oI r1) = (1 : Int32) then 
            ((if (oI r1) = (1 : Int32) then 
              (WP c_Sc_next (CTs d) Q (148, [(0, .ref 1), (1, .int (5 : Int32)), (2, .int (27 : Int32)), (3, .int (96 : Int32))], []) (sI (sI (sI σ1 1 6 (oI r1)) 1 8 (0 : Int32)) 1 9 (0 : Int32)))
              else 
              (WP c_Sc_next (CTs d) Q (148, [(0, .ref 1), (1, .int (5 : Int32)), (2, .int (27 : Int32)), (3, .int (48 : Int32))], []) (sI (sI (sI σ1 1 6 (oI r1)) 1 8 (0 : Int32)) 1 9 (0 : Int32)))))
            else 
            ((if (oI r1) = (1 : Int32) then 
              (WP c_Sc_next (CTs d) Q (148, [(0, .ref 1), (1, .int (5 : Int32)), (2, .int (10 : Int32)), (3, .int (96 : Int32))], []) (sI (sI (sI σ1 1 6 (oI r1)) 1 8 (0 : Int32)) 1 9 (0 : Int32)))
              else 
              (WP c_Sc_next (CTs d) Q (148, [(0, .ref 1), (1, .int (5 : Int32)), (2, .int (10 : Int32)), (3, .int (48 : Int32))], []) (sI (sI (sI σ1 1 6 (oI r1)) 1 8 (0 : Int32)) 1 9 (0 : Int32))))))))))))
    else 
    (vp_in (σ.1 1 5) 300 ∧ ((if (σ.1 2 (σ.1 1 5).toNatClampNeg) = (32 : Int32) then 
      (WP c_Sc_next (CTs d) Q (0, [(0, .ref 1)], []) (sI σ 1 5 ((σ.1 1 5) + (1 : Int32))))
      else 
      (CTs d y_Sc_sortAt [.ref 1, .int (σ.1 1 5)] (sI σ 1 7 (σ.1 1 5)) (fun r2 σ2 => 
        (if (oI r2) = (3 : Int32) then 
          (vp_in (σ2.1 1 5) 300 ∧ (vb (1 : Int32) ∧ Q (some (.int (1 : Int32))) (sI (sI (sI (sI (sI σ2 1 6 (oI r2)) 1 8 (0 : Int32)) 1 9 (0 : Int32)) 1 9 (σ2.1 2 (σ2.1 1 5).toNatClampNeg)) 1 5 ((σ2.1 1 5) + (1 : Int32)))))
          else 
          ((if (oI r2) = (1 : Int32) then 
            ((if (oI r2) = (1 : Int32) then 
              ((if (oI r2) = (1 : Int32) then 
                (WP c_Sc_next (CTs d) Q (148, [(0, .ref 1), (1, .int (6 : Int32)), (2, .int (27 : Int32)), (3, .int (96 : Int32))], []) (sI (sI (sI σ2 1 6 (oI r2)) 1 8 (0 : Int32)) 1 9 (0 : Int32)))
                else 
                (WP c_Sc_next (CTs d) Q (148, [(0, .ref 1), (1, .int (6 : Int32)), (2, .int (27 : Int32)), (3, .int (48 : Int32))], []) (sI (sI (sI σ2 1 6 (oI r2)) 1 8 (0 : Int32)) 1 9 (0 : Int32)))))
              else 
              ((if (oI r2) = (1 : Int32) then 
                (WP c_Sc_next (CTs d) Q (148, [(0, .ref 1), (1, .int (6 : Int32)), (2, .int (10 : Int32)), (3, .int (96 : Int32))], []) (sI (sI (sI σ2 1 6 (oI r2)) 1 8 (0 : Int32)) 1 9 (0 : Int32)))
                else 
                (WP c_Sc_next (CTs d) Q (148, [(0, .ref 1), (1, .int (6 : Int32)), (2, .int (10 : Int32)), (3, .int (48 : Int32))], []) (sI (sI (sI σ2 1 6 (oI r2)) 1 8 (0 : Int32)) 1 9 (0 : Int32)))))))
            else 
            ((if (oI r2) = (1 : Int32) then 
              ((if (oI r2) = (1 : Int32) then 
                (WP c_Sc_next (CTs d) Q (148, [(0, .ref 1), (1, .int (5 : Int32)), (2, .int (27 : Int32)), (3, .int (96 : Int32))], []) (sI (sI (sI σ2 1 6 (oI r2)) 1 8 (0 : Int32)) 1 9 (0 : Int32)))
                else 
                (WP c_Sc_next (CTs d) Q (148, [(0, .ref 1), (1, .int (5 : Int32)), (2, .int (27 : Int32)), (3, .int (48 : Int32))], []) (sI (sI (sI σ2 1 6 (oI r2)) 1 8 (0 : Int32)) 1 9 (0 : Int32)))))
              else 
              ((if (oI r2) = (1 : Int32) then 
                (WP c_Sc_next (CTs d) Q (148, [(0, .ref 1), (1, .int (5 : Int32)), (2, .int (10 : Int32)), (3, .int (96 : Int32))], []) (sI (sI (sI σ2 1 6 (oI r2)) 1 8 (0 : Int32)) 1 9 (0 : Int32)))
                else 
                (WP c_Sc_next (CTs d) Q (148, [(0, .ref 1), (1, .int (5 : Int32)), (2, .int (10 : Int32)), (3, .int (48 : Int32))], []) (sI (sI (sI σ2 1 6 (oI r2)) 1 8 (0 : Int32)) 1 9 (0 : Int32))))))))))))))))) : WP c_Sc_next (CTs d) Q (0, [(0, .ref 1)], []) σ := wp_cut (ms_mono y_Sc_next) (cts_cm d) (fun x => Nat.beq x 0 || Nat.beq x 148) (fun x i => (cond (Nat.beq x 148) (Nat.beq i 0 || Nat.beq i 1 || Nat.beq i 2 || Nat.beq i 3) (cond (Nat.beq x 0) (Nat.beq i 0) false))) 234 h
set_option maxRecDepth 20000 in
theorem t_Sc_next_148 {d : Nat} {Q : Po} {σ : Hp}  {v1 : Int32} {v2 : Int32} {v3 : Int32}  (h : (if (σ.1 1 1) ≤ (σ.1 1 5) then 
    (vb (1 : Int32) ∧ Q (some (.int (1 : Int32))) σ)
    else 
    (CTs d y_Sc_sortAt [.ref 1, .int (σ.1 1 5)] σ (fun r1 σ1 => 
      (if (oI r1) = (σ1.1 1 6) then 
        ((if v1 < ((σ1.1 1 8) + (1 : Int32)) then 
          (WP c_Sc_next (CTs d) Q (148, [(0, .ref 1), (1, .int v1), (2, .int v2), (3, .int v3)], []) (sI (sI σ1 1 8 ((σ1.1 1 8) + (1 : Int32))) 1 5 ((σ1.1 1 5) + (1 : Int32))))
          else 
          (vp_in (σ1.1 1 5) 300 ∧ (WP c_Sc_next (CTs d) Q (148, [(0, .ref 1), (1, .int v1), (2, .int v2), (3, .int v3)], []) (sI (sI (sI σ1 1 8 ((σ1.1 1 8) + (1 : Int32))) 1 9 ((((σ1.1 1 9) * v2) + (σ1.1 2 (σ1.1 1 5).toNatClampNeg)) - v3)) 1 5 ((σ1.1 1 5) + (1 : Int32)))))))
        else 
        (vb (1 : Int32) ∧ Q (some (.int (1 : Int32))) σ1)))))) : WP c_Sc_next (CTs d) Q (148, [(0, .ref 1), (1, .int v1), (2, .int v2), (3, .int v3)], []) σ := wp_cut (ms_mono y_Sc_next) (cts_cm d) (fun x => Nat.beq x 0 || Nat.beq x 148) (fun x i => (cond (Nat.beq x 148) (Nat.beq i 0 || Nat.beq i 1 || Nat.beq i 2 || Nat.beq i 3) (cond (Nat.beq x 0) (Nat.beq i 0) false))) 58 h
theorem e_Sc_next {d : Nat} {Q : Po} {σ : Hp}    (h : WP c_Sc_next (CTs d) Q (0, [(0, .ref 1)], []) σ) : CTs (d + 1) y_Sc_next [.ref 1] σ Q := h
set_option maxRecDepth 20000 in
theorem t_Sc_sortAt_0 {d : Nat} {Q : Po} {σ : Hp}  {a1 : Int32}  (h : (if a1 < (σ.1 1 1) then 
    (vp_in a1 300 ∧ ((if (σ.1 2 (a1).toNatClampNeg) < (97 : Int32) then 
      (vp_in a1 300 ∧ ((if (σ.1 2 (a1).toNatClampNeg) < (48 : Int32) then 
        (Q (some (.int (3 : Int32))) σ)
        else 
        (vp_in a1 300 ∧ ((if (57 : Int32) < (σ.1 2 (a1).toNatClampNeg) then 
          (Q (some (.int (3 : Int32))) σ)
          else 
          (Q (some (.int (2 : Int32))) σ)))))))
      else 
      (vp_in a1 300 ∧ ((if (122 : Int32) < (σ.1 2 (a1).toNatClampNeg) then 
        (vp_in a1 300 ∧ ((if (σ.1 2 (a1).toNatClampNeg) < (48 : Int32) then 
          (Q (some (.int (3 : Int32))) σ)
          else 
          (vp_in a1 300 ∧ ((if (57 : Int32) < (σ.1 2 (a1).toNatClampNeg) then 
            (Q (some (.int (3 : Int32))) σ)
            else 
            (Q (some (.int (2 : Int32))) σ)))))))
        else 
        (Q (some (.int (1 : Int32))) σ)))))))
    else 
    (Q (some (.int (0 : Int32))) σ))) : WP c_Sc_sortAt (CTs d) Q (0, [(0, .ref 1), (1, .int a1)], []) σ := wp_cut (ms_mono y_Sc_sortAt) (cts_cm d) (fun x => false) (fun _ _ => false) 60 h
theorem e_Sc_sortAt {d : Nat} {Q : Po} {σ : Hp}  {a1 : Int32}  (h : WP c_Sc_sortAt (CTs d) Q (0, [(0, .ref 1), (1, .int a1)], []) σ) : CTs (d + 1) y_Sc_sortAt [.ref 1, .int a1] σ Q := h
set_option maxRecDepth 20000 in
theorem t_Sc_isKey_0 {d : Nat} {Q : Po} {σ : Hp}  {a1 : Int32}  (h : (if (σ.1 1 6) = (1 : Int32) then 
    ((if (6 : Int32) < (σ.1 1 8) then 
      (vb (0 : Int32) ∧ Q (some (.int (0 : Int32))) σ)
      else 
      ((if (σ.1 1 9) = a1 then 
        (vb (1 : Int32) ∧ Q (some (.int (1 : Int32))) σ)
        else 
        (vb (0 : Int32) ∧ Q (some (.int (0 : Int32))) σ)))))
    else 
    (vb (0 : Int32) ∧ Q (some (.int (0 : Int32))) σ))) : WP c_Sc_isKey (CTs d) Q (0, [(0, .ref 1), (1, .int a1)], []) σ := wp_cut (ms_mono y_Sc_isKey) (cts_cm d) (fun x => false) (fun _ _ => false) 23 h
theorem e_Sc_isKey {d : Nat} {Q : Po} {σ : Hp}  {a1 : Int32}  (h : WP c_Sc_isKey (CTs d) Q (0, [(0, .ref 1), (1, .int a1)], []) σ) : CTs (d + 1) y_Sc_isKey [.ref 1, .int a1] σ Q := h
set_option maxRecDepth 20000 in
theorem t_Sc_isSign_0 {d : Nat} {Q : Po} {σ : Hp}  {a1 : Int32}  (h : (if (σ.1 1 6) = (3 : Int32) then 
    ((if (σ.1 1 9) = a1 then 
      (vb (1 : Int32) ∧ Q (some (.int (1 : Int32))) σ)
      else 
      (vb (0 : Int32) ∧ Q (some (.int (0 : Int32))) σ)))
    else 
    (vb (0 : Int32) ∧ Q (some (.int (0 : Int32))) σ))) : WP c_Sc_isSign (CTs d) Q (0, [(0, .ref 1), (1, .int a1)], []) σ := wp_cut (ms_mono y_Sc_isSign) (cts_cm d) (fun x => false) (fun _ _ => false) 17 h
theorem e_Sc_isSign {d : Nat} {Q : Po} {σ : Hp}  {a1 : Int32}  (h : WP c_Sc_isSign (CTs d) Q (0, [(0, .ref 1), (1, .int a1)], []) σ) : CTs (d + 1) y_Sc_isSign [.ref 1, .int a1] σ Q := h
set_option maxRecDepth 20000 in
theorem t_Sc_isName_0 {d : Nat} {Q : Po} {σ : Hp}    (h : (if (σ.1 1 6) = (1 : Int32) then 
    ((if (σ.1 1 8) ≤ (5 : Int32) then 
      (WP c_Sc_isName (CTs d) Q (20, [(0, .ref 1), (1, .int (0 : Int32))], []) σ)
      else 
      (vb (0 : Int32) ∧ Q (some (.int (0 : Int32))) σ)))
    else 
    (vb (0 : Int32) ∧ Q (some (.int (0 : Int32))) σ))) : WP c_Sc_isName (CTs d) Q (0, [(0, .ref 1)], []) σ := wp_cut (ms_mono y_Sc_isName) (cts_cm d) (fun x => Nat.beq x 20) (fun x i => (cond (Nat.beq x 20) (Nat.beq i 0 || Nat.beq i 1) false)) 17 h
set_option maxRecDepth 20000 in
theorem t_Sc_isName_20 {d : Nat} {Q : Po} {σ : Hp}  {v1 : Int32}  (h : (if (Int32.ofNat 11) ≤ v1 then 
    (vb (1 : Int32) ∧ Q (some (.int (1 : Int32))) σ)
    else 
    (vp_in v1 11 ∧ ((if (σ.1 1 9) = (tv 128 (v1).toNatClampNeg) then 
      (vb (0 : Int32) ∧ Q (some (.int (0 : Int32))) σ)
      else 
      (WP c_Sc_isName (CTs d) Q (20, [(0, .ref 1), (1, .int (v1 + (1 : Int32)))], []) σ)))))) : WP c_Sc_isName (CTs d) Q (20, [(0, .ref 1), (1, .int v1)], []) σ := wp_cut (ms_mono y_Sc_isName) (cts_cm d) (fun x => Nat.beq x 20) (fun x i => (cond (Nat.beq x 20) (Nat.beq i 0 || Nat.beq i 1) false)) 19 h
theorem e_Sc_isName {d : Nat} {Q : Po} {σ : Hp}    (h : WP c_Sc_isName (CTs d) Q (0, [(0, .ref 1)], []) σ) : CTs (d + 1) y_Sc_isName [.ref 1] σ Q := h
set_option maxRecDepth 20000 in
theorem t_Sc_isN_0 {d : Nat} {Q : Po} {σ : Hp}  {a1 : Int32} {a2 : Int32}  (h : (if (σ.1 1 6) = (2 : Int32) then 
    ((if (5 : Int32) < (σ.1 1 8) then 
      (vb (0 : Int32) ∧ Q (some (.int (0 : Int32))) σ)
      else 
      ((if (σ.1 1 9) < a1 then 
        (vb (0 : Int32) ∧ Q (some (.int (0 : Int32))) σ)
        else 
        ((if a2 < (σ.1 1 9) then 
          (vb (0 : Int32) ∧ Q (some (.int (0 : Int32))) σ)
          else 
          (vb (1 : Int32) ∧ Q (some (.int (1 : Int32))) σ)))))))
    else 
    (vb (0 : Int32) ∧ Q (some (.int (0 : Int32))) σ))) : WP c_Sc_isN (CTs d) Q (0, [(0, .ref 1), (1, .int a1), (2, .int a2)], []) σ := wp_cut (ms_mono y_Sc_isN) (cts_cm d) (fun x => false) (fun _ _ => false) 29 h
theorem e_Sc_isN {d : Nat} {Q : Po} {σ : Hp}  {a1 : Int32} {a2 : Int32}  (h : WP c_Sc_isN (CTs d) Q (0, [(0, .ref 1), (1, .int a1), (2, .int a2)], []) σ) : CTs (d + 1) y_Sc_isN [.ref 1, .int a1, .int a2] σ Q := h
set_option maxRecDepth 20000 in
theorem t_Sc_skipSign_0 {d : Nat} {Q : Po} {σ : Hp}  {a1 : Int32}  (h : CTs d y_Sc_isSign [.ref 1, .int a1] σ (fun r1 σ1 => 
    (if (oI r1) = 0 then 
      (CTs d y_Sc_wrong [.ref 1, .int (1 : Int32)] σ1 (fun r2 σ2 => 
        vb (oI r2) ∧ Q (some (.int (oI r2))) σ2))
      else 
      (CTs d y_Sc_next [.ref 1] σ1 (fun r3 σ3 => 
        vb (oI r3) ∧ Q (some (.int (oI r3))) σ3))))) : WP c_Sc_skipSign (CTs d) Q (0, [(0, .ref 1), (1, .int a1)], []) σ := wp_cut (ms_mono y_Sc_skipSign) (cts_cm d) (fun x => false) (fun _ _ => false) 14 h
theorem e_Sc_skipSign {d : Nat} {Q : Po} {σ : Hp}  {a1 : Int32}  (h : WP c_Sc_skipSign (CTs d) Q (0, [(0, .ref 1), (1, .int a1)], []) σ) : CTs (d + 1) y_Sc_skipSign [.ref 1, .int a1] σ Q := h
set_option maxRecDepth 20000 in
theorem t_Sc_skipKey_0 {d : Nat} {Q : Po} {σ : Hp}  {a1 : Int32}  (h : CTs d y_Sc_isKey [.ref 1, .int a1] σ (fun r1 σ1 => 
    (if (oI r1) = 0 then 
      (CTs d y_Sc_wrong [.ref 1, .int (1 : Int32)] σ1 (fun r2 σ2 => 
        vb (oI r2) ∧ Q (some (.int (oI r2))) σ2))
      else 
      (CTs d y_Sc_next [.ref 1] σ1 (fun r3 σ3 => 
        vb (oI r3) ∧ Q (some (.int (oI r3))) σ3))))) : WP c_Sc_skipKey (CTs d) Q (0, [(0, .ref 1), (1, .int a1)], []) σ := wp_cut (ms_mono y_Sc_skipKey) (cts_cm d) (fun x => false) (fun _ _ => false) 14 h
theorem e_Sc_skipKey {d : Nat} {Q : Po} {σ : Hp}  {a1 : Int32}  (h : WP c_Sc_skipKey (CTs d) Q (0, [(0, .ref 1), (1, .int a1)], []) σ) : CTs (d + 1) y_Sc_skipKey [.ref 1, .int a1] σ Q := h
set_option maxRecDepth 20000 in
theorem t_Sc_oneThing_0 {d : Nat} {Q : Po} {σ : Hp}    (h : CTs d y_Sc_kindOfKey [.ref 1] σ (fun r1 σ1 => 
    (if (oI r1) = 0 then 
      (CTs d y_Sc_wrong [.ref 1, .int (1 : Int32)] σ1 (fun r41 σ41 => 
        vb (oI r41) ∧ Q (some (.int (oI r41))) σ41))
      else 
      (CTs d y_Sc_next [.ref 1] σ1 (fun r2 σ2 => 
        CTs d y_Sc_newName [.ref 1, .int (oI r1)] σ2 (fun r3 σ3 => 
          (if (oI r3) = 0 then 
            (vb (0 : Int32) ∧ Q (some (.int (0 : Int32))) σ3)
            else 
            ((if (oI r1) = (3 : Int32) then 
              (CTs d y_Sc_ends [.ref 1] σ3 (fun r22 σ22 => 
                (if (oI r22) = 0 then 
                  (vb (0 : Int32) ∧ Q (some (.int (0 : Int32))) σ22)
                  else 
                  (CTs d y_Sc_skipSign [.ref 1, .int (61 : Int32)] σ22 (fun r23 σ23 => 
                    (if (oI r23) = 0 then 
                      (vb (0 : Int32) ∧ Q (some (.int (0 : Int32))) σ23)
                      else 
                      ((if (oI r1) = 1 then 
                        (CTs d y_Sc_first [.ref 1, .int (0 : Int32), .int (99999 : Int32)] σ23 (fun r24 σ24 => 
                          (if (oI r24) = 0 then 
                            (vb (oI r24) ∧ Q (some (.int (oI r24))) σ24)
                            else 
                            (CTs d y_Tx_close [.ref 17] σ24 (fun _ σ25 => 
                              vb (oI r24) ∧ Q (some (.int (oI r24))) σ25)))))
                        else if (oI r1) = 2 then 
                        (CTs d y_Sc_first [.ref 1, .int (1 : Int32), .int (9 : Int32)] σ23 (fun r26 σ26 => 
                          (if (oI r26) = 0 then 
                            ((if (0 : Int32) = 0 then 
                              (vb (0 : Int32) ∧ Q (some (.int (0 : Int32))) σ26)
                              else 
                              (CTs d y_Tx_close [.ref 17] σ26 (fun _ σ27 => 
                                vb (0 : Int32) ∧ Q (some (.int (0 : Int32))) σ27))))
                            else 
                            (CTs d y_Sc_skipKey [.ref 1, .int (411 : Int32)] σ26 (fun r28 σ28 => 
                              (if (oI r28) = 0 then 
                                ((if (0 : Int32) = 0 then 
                                  (vb (0 : Int32) ∧ Q (some (.int (0 : Int32))) σ28)
                                  else 
                                  (CTs d y_Tx_close [.ref 17] σ28 (fun _ σ29 => 
                                    vb (0 : Int32) ∧ Q (some (.int (0 : Int32))) σ29))))
                                else 
                                (CTs d y_Sc_joins [.ref 1, .int (0 : Int32), .int (0 : Int32)] σ28 (fun r30 σ30 => 
                                  (if (oI r30) = 0 then 
                                    ((if (0 : Int32) = 0 then 
                                      (vb (0 : Int32) ∧ Q (some (.int (0 : Int32))) σ30)
                                      else 
                                      (CTs d y_Tx_close [.ref 17] σ30 (fun _ σ31 => 
                                        vb (0 : Int32) ∧ Q (some (.int (0 : Int32))) σ31))))
                                    else 
                                    ((if (1 : Int32) = 0 then 
                                      (vb (1 : Int32) ∧ Q (some (.int (1 : Int32))) σ30)
                                      else 
                                      (CTs d y_Tx_close [.ref 17] σ30 (fun _ σ32 => 
                                        vb (1 : Int32) ∧ Q (some (.int (1 : Int32))) σ32)))))))))))))
                        else if (oI r1) = 3 then 
                        (CTs d y_Sc_joins [.ref 1, .int (0 : Int32), .int (0 : Int32)] σ23 (fun r33 σ33 => 
                          (if (oI r33) = 0 then 
                            (vb (oI r33) ∧ Q (some (.int (oI r33))) σ33)
                            else 
                            (CTs d y_Tx_close [.ref 17] σ33 (fun _ σ34 => 
                              vb (oI r33) ∧ Q (some (.int (oI r33))) σ34)))))
                        else if (oI r1) = 4 then 
                        (CTs d y_Sc_allCorners [.ref 1] σ23 (fun r35 σ35 => 
                          (if (oI r35) = 0 then 
                            (vb (oI r35) ∧ Q (some (.int (oI r35))) σ35)
                            else 
                            (CTs d y_Tx_close [.ref 17] σ35 (fun _ σ36 => 
                              vb (oI r35) ∧ Q (some (.int (oI r35))) σ36)))))
                        else if (oI r1) = 5 then 
                        (CTs d y_Sc_first [.ref 1, .int (0 : Int32), .int (99999 : Int32)] σ23 (fun r37 σ37 => 
                          (if (oI r37) = 0 then 
                            (vb (oI r37) ∧ Q (some (.int (oI r37))) σ37)
                            else 
                            (CTs d y_Tx_close [.ref 17] σ37 (fun _ σ38 => 
                              vb (oI r37) ∧ Q (some (.int (oI r37))) σ38)))))
                        else (CTs d y_Sc_joins [.ref 1, .int (0 : Int32), .int (0 : Int32)] σ23 (fun r39 σ39 => 
                          (if (oI r39) = 0 then 
                            (vb (oI r39) ∧ Q (some (.int (oI r39))) σ39)
                            else 
                            (CTs d y_Tx_close [.ref 17] σ39 (fun _ σ40 => 
                              vb (oI r39) ∧ Q (some (.int (oI r39))) σ40)))))))))))))
              else 
              (CTs d y_Sc_skipSign [.ref 1, .int (61 : Int32)] σ3 (fun r4 σ4 => 
                (if (oI r4) = 0 then 
                  (vb (0 : Int32) ∧ Q (some (.int (0 : Int32))) σ4)
                  else 
                  ((if (oI r1) = 1 then 
                    (CTs d y_Sc_first [.ref 1, .int (0 : Int32), .int (99999 : Int32)] σ4 (fun r5 σ5 => 
                      (if (oI r5) = 0 then 
                        (vb (oI r5) ∧ Q (some (.int (oI r5))) σ5)
                        else 
                        (CTs d y_Tx_close [.ref 17] σ5 (fun _ σ6 => 
                          vb (oI r5) ∧ Q (some (.int (oI r5))) σ6)))))
                    else if (oI r1) = 2 then 
                    (CTs d y_Sc_first [.ref 1, .int (1 : Int32), .int (9 : Int32)] σ4 (fun r7 σ7 => 
                      (if (oI r7) = 0 then 
                        ((if (0 : Int32) = 0 then 
                          (vb (0 : Int32) ∧ Q (some (.int (0 : Int32))) σ7)
                          else 
                          (CTs d y_Tx_close [.ref 17] σ7 (fun _ σ8 => 
                            vb (0 : Int32) ∧ Q (some (.int (0 : Int32))) σ8))))
                        else 
                        (CTs d y_Sc_skipKey [.ref 1, .int (411 : Int32)] σ7 (fun r9 σ9 => 
                          (if (oI r9) = 0 then 
                            ((if (0 : Int32) = 0 then 
                              (vb (0 : Int32) ∧ Q (some (.int (0 : Int32))) σ9)
                              else 
                              (CTs d y_Tx_close [.ref 17] σ9 (fun _ σ10 => 
                                vb (0 : Int32) ∧ Q (some (.int (0 : Int32))) σ10))))
                            else 
                            (CTs d y_Sc_joins [.ref 1, .int (0 : Int32), .int (0 : Int32)] σ9 (fun r11 σ11 => 
                              (if (oI r11) = 0 then 
                                ((if (0 : Int32) = 0 then 
                                  (vb (0 : Int32) ∧ Q (some (.int (0 : Int32))) σ11)
                                  else 
                                  (CTs d y_Tx_close [.ref 17] σ11 (fun _ σ12 => 
                                    vb (0 : Int32) ∧ Q (some (.int (0 : Int32))) σ12))))
                                else 
                                ((if (1 : Int32) = 0 then 
                                  (vb (1 : Int32) ∧ Q (some (.int (1 : Int32))) σ11)
                                  else 
                                  (CTs d y_Tx_close [.ref 17] σ11 (fun _ σ13 => 
                                    vb (1 : Int32) ∧ Q (some (.int (1 : Int32))) σ13)))))))))))))
                    else if (oI r1) = 3 then 
                    (CTs d y_Sc_joins [.ref 1, .int (0 : Int32), .int (0 : Int32)] σ4 (fun r14 σ14 => 
                      (if (oI r14) = 0 then 
                        (vb (oI r14) ∧ Q (some (.int (oI r14))) σ14)
                        else 
                        (CTs d y_Tx_close [.ref 17] σ14 (fun _ σ15 => 
                          vb (oI r14) ∧ Q (some (.int (oI r14))) σ15)))))
                    else if (oI r1) = 4 then 
                    (CTs d y_Sc_allCorners [.ref 1] σ4 (fun r16 σ16 => 
                      (if (oI r16) = 0 then 
                        (vb (oI r16) ∧ Q (some (.int (oI r16))) σ16)
                        else 
                        (CTs d y_Tx_close [.ref 17] σ16 (fun _ σ17 => 
                          vb (oI r16) ∧ Q (some (.int (oI r16))) σ17)))))
                    else if (oI r1) = 5 then 
                    (CTs d y_Sc_first [.ref 1, .int (0 : Int32), .int (99999 : Int32)] σ4 (fun r18 σ18 => 
                      (if (oI r18) = 0 then 
                        (vb (oI r18) ∧ Q (some (.int (oI r18))) σ18)
                        else 
                        (CTs d y_Tx_close [.ref 17] σ18 (fun _ σ19 => 
                          vb (oI r18) ∧ Q (some (.int (oI r18))) σ19)))))
                    else (CTs d y_Sc_joins [.ref 1, .int (0 : Int32), .int (0 : Int32)] σ4 (fun r20 σ20 => 
                      (if (oI r20) = 0 then 
                        (vb (oI r20) ∧ Q (some (.int (oI r20))) σ20)
                        else 
                        (CTs d y_Tx_close [.ref 17] σ20 (fun _ σ21 => 
                          vb (oI r20) ∧ Q (some (.int (oI r20))) σ21))))))))))))))))))) : WP c_Sc_oneThing (CTs d) Q (0, [(0, .ref 1)], []) σ := wp_cut (ms_mono y_Sc_oneThing) (cts_cm d) (fun x => false) (fun _ _ => false) 312 h
theorem e_Sc_oneThing {d : Nat} {Q : Po} {σ : Hp}    (h : WP c_Sc_oneThing (CTs d) Q (0, [(0, .ref 1)], []) σ) : CTs (d + 1) y_Sc_oneThing [.ref 1] σ Q := h
set_option maxRecDepth 20000 in
theorem t_Sc_kindOfKey_0 {d : Nat} {Q : Po} {σ : Hp}    (h : CTs d y_Sc_isKey [.ref 1, .int (10502465 : Int32)] σ (fun r1 σ1 => 
    (if (oI r1) = 0 then 
      (CTs d y_Sc_isKey [.ref 1, .int (2232979 : Int32)] σ1 (fun r2 σ2 => 
        (if (oI r2) = 0 then 
          (CTs d y_Sc_isKey [.ref 1, .int (283616032 : Int32)] σ2 (fun r3 σ3 => 
            (if (oI r3) = 0 then 
              (CTs d y_Sc_isKey [.ref 1, .int (10650290 : Int32)] σ3 (fun r4 σ4 => 
                (if (oI r4) = 0 then 
                  (CTs d y_Sc_isKey [.ref 1, .int (212302449 : Int32)] σ4 (fun r5 σ5 => 
                    (if (oI r5) = 0 then 
                      (CTs d y_Sc_isKey [.ref 1, .int (117696474 : Int32)] σ5 (fun r6 σ6 => 
                        (if (oI r6) = 0 then 
                          (Q (some (.int (0 : Int32))) σ6)
                          else 
                          (Q (some (.int (6 : Int32))) σ6))))
                      else 
                      (Q (some (.int (5 : Int32))) σ5))))
                  else 
                  (Q (some (.int (4 : Int32))) σ4))))
              else 
              (Q (some (.int (3 : Int32))) σ3))))
          else 
          (Q (some (.int (2 : Int32))) σ2))))
      else 
      (Q (some (.int (1 : Int32))) σ1)))) : WP c_Sc_kindOfKey (CTs d) Q (0, [(0, .ref 1)], []) σ := wp_cut (ms_mono y_Sc_kindOfKey) (cts_cm d) (fun x => false) (fun _ _ => false) 41 h
theorem e_Sc_kindOfKey {d : Nat} {Q : Po} {σ : Hp}    (h : WP c_Sc_kindOfKey (CTs d) Q (0, [(0, .ref 1)], []) σ) : CTs (d + 1) y_Sc_kindOfKey [.ref 1] σ Q := h
set_option maxRecDepth 20000 in
theorem t_Sc_newName_0 {d : Nat} {Q : Po} {σ : Hp}  {a1 : Int32}  (h : CTs d y_Sc_isName [.ref 1] σ (fun r1 σ1 => 
    (if (oI r1) = 0 then 
      (CTs d y_Sc_wrong [.ref 1, .int (1 : Int32)] σ1 (fun r6 σ6 => 
        vb (oI r6) ∧ Q (some (.int (oI r6))) σ6))
      else 
      (CTs d y_Tx_find [.ref 17, .int (σ1.1 1 9)] σ1 (fun r2 σ2 => 
        (if (oI r2) < 0 then 
          (CTs d y_Tx_open [.ref 17, .int a1, .int (σ2.1 1 9)] σ2 (fun _ σ3 => 
            CTs d y_Sc_next [.ref 1] σ3 (fun r4 σ4 => 
              vb (oI r4) ∧ Q (some (.int (oI r4))) σ4)))
          else 
          (CTs d y_Sc_wrong [.ref 1, .int (2 : Int32)] σ2 (fun r5 σ5 => 
            vb (oI r5) ∧ Q (some (.int (oI r5))) σ5)))))))) : WP c_Sc_newName (CTs d) Q (0, [(0, .ref 1), (1, .int a1)], []) σ := wp_cut (ms_mono y_Sc_newName) (cts_cm d) (fun x => false) (fun _ _ => false) 28 h
theorem e_Sc_newName {d : Nat} {Q : Po} {σ : Hp}  {a1 : Int32}  (h : WP c_Sc_newName (CTs d) Q (0, [(0, .ref 1), (1, .int a1)], []) σ) : CTs (d + 1) y_Sc_newName [.ref 1, .int a1] σ Q := h
set_option maxRecDepth 20000 in
theorem t_Sc_ends_0 {d : Nat} {Q : Po} {σ : Hp}    (h : CTs d y_Sc_skipKey [.ref 1, .int (131638 : Int32)] σ (fun r1 σ1 => 
    (if (oI r1) = 0 then 
      (vb (0 : Int32) ∧ Q (some (.int (0 : Int32))) σ1)
      else 
      (CTs d y_Sc_end [.ref 1, .ref 21] σ1 (fun r2 σ2 => 
        (if (oI r2) = 0 then 
          (vb (0 : Int32) ∧ Q (some (.int (0 : Int32))) σ2)
          else 
          (CTs d y_Sc_skipKey [.ref 1, .int (555 : Int32)] σ2 (fun r3 σ3 => 
            (if (oI r3) = 0 then 
              (vb (0 : Int32) ∧ Q (some (.int (0 : Int32))) σ3)
              else 
              (CTs d y_Sc_end [.ref 1, .ref 22] σ3 (fun r4 σ4 => 
                (if (oI r4) = 0 then 
                  (vb (0 : Int32) ∧ Q (some (.int (0 : Int32))) σ4)
                  else 
                  (vb (1 : Int32) ∧ Q (some (.int (1 : Int32))) σ4))))))))))))) : WP c_Sc_ends (CTs d) Q (0, [(0, .ref 1)], []) σ := wp_cut (ms_mono y_Sc_ends) (cts_cm d) (fun x => false) (fun _ _ => false) 33 h
theorem e_Sc_ends {d : Nat} {Q : Po} {σ : Hp}    (h : WP c_Sc_ends (CTs d) Q (0, [(0, .ref 1)], []) σ) : CTs (d + 1) y_Sc_ends [.ref 1] σ Q := h
set_option maxRecDepth 20000 in
theorem t_Sc_end_0 {d : Nat} {Q : Po} {σ : Hp} {q : Nat}  (hs : (q = 21) ∨ (q = 22)) (h : CTs d y_Sc_isKey [.ref 1, .int (11522 : Int32)] σ (fun r1 σ1 => 
    (if (oI r1) = 0 then 
      (CTs d y_Sc_isName [.ref 1] σ1 (fun r2 σ2 => 
        (if (oI r2) = 0 then 
          (CTs d y_Sc_wrong [.ref 1, .int (1 : Int32)] σ2 (fun r7 σ7 => 
            vb (oI r7) ∧ Q (some (.int (oI r7))) σ7))
          else 
          (CTs d y_Tx_find [.ref 17, .int (σ2.1 1 9)] σ2 (fun r3 σ3 => 
            (if 0 ≤ (oI r3) then 
              (vp_in (oI r3) 16 ∧ ((if (σ3.1 18 (oI r3).toNatClampNeg) = (1 : Int32) then 
                (vp_in (σ3.1 17 0) 16 ∧ (CTs d y_Sc_next [.ref 1] (sI σ3 q (σ3.1 17 0).toNatClampNeg (oI r3)) (fun r4 σ4 => 
                  vb (oI r4) ∧ Q (some (.int (oI r4))) σ4)))
                else 
                (CTs d y_Sc_wrong [.ref 1, .int (3 : Int32)] σ3 (fun r5 σ5 => 
                  vb (oI r5) ∧ Q (some (.int (oI r5))) σ5)))))
              else 
              (CTs d y_Sc_wrong [.ref 1, .int (2 : Int32)] σ3 (fun r6 σ6 => 
                vb (oI r6) ∧ Q (some (.int (oI r6))) σ6))))))))
      else 
      (vp_in (σ1.1 17 0) 16 ∧ (CTs d y_Sc_next [.ref 1] (sI σ1 q (σ1.1 17 0).toNatClampNeg (-9 : Int32)) (fun r8 σ8 => 
        vb (oI r8) ∧ Q (some (.int (oI r8))) σ8)))))) : WP c_Sc_end (CTs d) Q (0, [(0, .ref 1), (1, .ref q)], []) σ := by
  rcases hs with rfl | rfl <;> exact wp_cut (ms_mono y_Sc_end) (cts_cm d) (fun x => false) (fun _ _ => false) 54 h
theorem e_Sc_end {d : Nat} {Q : Po} {σ : Hp} {q : Nat}  (hs : (q = 21) ∨ (q = 22)) (h : WP c_Sc_end (CTs d) Q (0, [(0, .ref 1), (1, .ref q)], []) σ) : CTs (d + 1) y_Sc_end [.ref 1, .ref q] σ Q := by
  rcases hs with rfl | rfl <;> exact h
set_option maxRecDepth 20000 in
theorem t_Sc_first_0 {d : Nat} {Q : Po} {σ : Hp}  {a1 : Int32} {a2 : Int32}  (h : CTs d y_Sc_isN [.ref 1, .int a1, .int a2] σ (fun r1 σ1 => 
    (if (oI r1) = 0 then 
      (CTs d y_Sc_wrong [.ref 1, .int (1 : Int32)] σ1 (fun r3 σ3 => 
        vb (oI r3) ∧ Q (some (.int (oI r3))) σ3))
      else 
      (vp_in (σ1.1 17 0) 16 ∧ (CTs d y_Sc_next [.ref 1] (sI σ1 20 (σ1.1 17 0).toNatClampNeg (σ1.1 1 9)) (fun r2 σ2 => 
        vb (oI r2) ∧ Q (some (.int (oI r2))) σ2)))))) : WP c_Sc_first (CTs d) Q (0, [(0, .ref 1), (1, .int a1), (2, .int a2)], []) σ := wp_cut (ms_mono y_Sc_first) (cts_cm d) (fun x => false) (fun _ _ => false) 23 h
theorem e_Sc_first {d : Nat} {Q : Po} {σ : Hp}  {a1 : Int32} {a2 : Int32}  (h : WP c_Sc_first (CTs d) Q (0, [(0, .ref 1), (1, .int a1), (2, .int a2)], []) σ) : CTs (d + 1) y_Sc_first [.ref 1, .int a1, .int a2] σ Q := h
set_option maxRecDepth 20000 in
theorem t_Sc_allCorners_0 {d : Nat} {Q : Po} {σ : Hp}    (h : WP c_Sc_allCorners (CTs d) Q (2, [(0, .ref 1), (1, .int (0 : Int32))], []) σ) : WP c_Sc_allCorners (CTs d) Q (0, [(0, .ref 1)], []) σ := wp_cut (ms_mono y_Sc_allCorners) (cts_cm d) (fun x => Nat.beq x 2) (fun x i => (cond (Nat.beq x 2) (Nat.beq i 0 || Nat.beq i 1) false)) 5 h
set_option maxRecDepth 20000 in
theorem t_Sc_allCorners_2 {d : Nat} {Q : Po} {σ : Hp}  {v1 : Int32}  (h : (if (6 : Int32) ≤ v1 then 
    (vb (1 : Int32) ∧ Q (some (.int (1 : Int32))) σ)
    else 
    (CTs d y_Sc_corner [.ref 1, .int v1] σ (fun r1 σ1 => 
      (if (oI r1) = 0 then 
        (vb (0 : Int32) ∧ Q (some (.int (0 : Int32))) σ1)
        else 
        (vp_in (σ1.1 17 0) 16 ∧ (CTs d y_Sc_isSign [.ref 1, .int (44 : Int32)] (sI σ1 26 (σ1.1 17 0).toNatClampNeg (v1 + (1 : Int32))) (fun r2 σ2 => 
          (if (oI r2) = 0 then 
            ((if 0 < v1 then 
              (vb (1 : Int32) ∧ Q (some (.int (1 : Int32))) σ2)
              else 
              (CTs d y_Sc_wrong [.ref 1, .int (1 : Int32)] σ2 (fun r5 σ5 => 
                (if (oI r5) = 0 then 
                  (vb (0 : Int32) ∧ Q (some (.int (0 : Int32))) σ5)
                  else 
                  (vb (1 : Int32) ∧ Q (some (.int (1 : Int32))) σ5))))))
            else 
            ((if v1 = (5 : Int32) then 
              (CTs d y_Sc_wrong [.ref 1, .int (1 : Int32)] σ2 (fun r4 σ4 => 
                vb (oI r4) ∧ Q (some (.int (oI r4))) σ4))
              else 
              (CTs d y_Sc_next [.ref 1] σ2 (fun r3 σ3 => 
                WP c_Sc_allCorners (CTs d) Q (2, [(0, .ref 1), (1, .int (v1 + (1 : Int32)))], []) σ3))))))))))))) : WP c_Sc_allCorners (CTs d) Q (2, [(0, .ref 1), (1, .int v1)], []) σ := wp_cut (ms_mono y_Sc_allCorners) (cts_cm d) (fun x => Nat.beq x 2) (fun x i => (cond (Nat.beq x 2) (Nat.beq i 0 || Nat.beq i 1) false)) 54 h
theorem e_Sc_allCorners {d : Nat} {Q : Po} {σ : Hp}    (h : WP c_Sc_allCorners (CTs d) Q (0, [(0, .ref 1)], []) σ) : CTs (d + 1) y_Sc_allCorners [.ref 1] σ Q := h
set_option maxRecDepth 20000 in
theorem t_Sc_corner_0 {d : Nat} {Q : Po} {σ : Hp}  {a1 : Int32}  (h : CTs d y_Sc_isN [.ref 1, .int (0 : Int32), .int (99999 : Int32)] σ (fun r1 σ1 => 
    (if (oI r1) = 0 then 
      (CTs d y_Sc_wrong [.ref 1, .int (1 : Int32)] σ1 (fun r13 σ13 => 
        vb (oI r13) ∧ Q (some (.int (oI r13))) σ13))
      else 
      ((if a1 ≤ 0 then 
        (vp_in (((σ.1 17 0) * (6 : Int32)) + a1) 96 ∧ (CTs d y_Sc_next [.ref 1] (sI σ1 27 (((σ.1 17 0) * (6 : Int32)) + a1).toNatClampNeg (σ1.1 1 9)) (fun r2 σ2 => 
          CTs d y_Sc_skipSign [.ref 1, .int (58 : Int32)] σ2 (fun r3 σ3 => 
            (if (oI r3) = 0 then 
              (vb (0 : Int32) ∧ Q (some (.int (0 : Int32))) σ3)
              else 
              (CTs d y_Sc_isN [.ref 1, .int (0 : Int32), .int (99999 : Int32)] σ3 (fun r4 σ4 => 
                (if (oI r4) = 0 then 
                  (CTs d y_Sc_wrong [.ref 1, .int (1 : Int32)] σ4 (fun r6 σ6 => 
                    vb (oI r6) ∧ Q (some (.int (oI r6))) σ6))
                  else 
                  (vp_in (((σ.1 17 0) * (6 : Int32)) + a1) 96 ∧ (CTs d y_Sc_next [.ref 1] (sI σ4 28 (((σ.1 17 0) * (6 : Int32)) + a1).toNatClampNeg (σ4.1 1 9)) (fun r5 σ5 => 
                    vb (oI r5) ∧ Q (some (.int (oI r5))) σ5)))))))))))
        else 
        (vp_in ((((σ.1 17 0) * (6 : Int32)) + a1) - (1 : Int32)) 96 ∧ ((if (σ1.1 27 ((((σ.1 17 0) * (6 : Int32)) + a1) - (1 : Int32)).toNatClampNeg) < (σ1.1 1 9) then 
          (vp_in (((σ.1 17 0) * (6 : Int32)) + a1) 96 ∧ (CTs d y_Sc_next [.ref 1] (sI σ1 27 (((σ.1 17 0) * (6 : Int32)) + a1).toNatClampNeg (σ1.1 1 9)) (fun r7 σ7 => 
            CTs d y_Sc_skipSign [.ref 1, .int (58 : Int32)] σ7 (fun r8 σ8 => 
              (if (oI r8) = 0 then 
                (vb (0 : Int32) ∧ Q (some (.int (0 : Int32))) σ8)
                else 
                (CTs d y_Sc_isN [.ref 1, .int (0 : Int32), .int (99999 : Int32)] σ8 (fun r9 σ9 => 
                  (if (oI r9) = 0 then 
                    (CTs d y_Sc_wrong [.ref 1, .int (1 : Int32)] σ9 (fun r11 σ11 => 
                      vb (oI r11) ∧ Q (some (.int (oI r11))) σ11))
                    else 
                    (vp_in (((σ.1 17 0) * (6 : Int32)) + a1) 96 ∧ (CTs d y_Sc_next [.ref 1] (sI σ9 28 (((σ.1 17 0) * (6 : Int32)) + a1).toNatClampNeg (σ9.1 1 9)) (fun r10 σ10 => 
                      vb (oI r10) ∧ Q (some (.int (oI r10))) σ10)))))))))))
          else 
          (CTs d y_Sc_wrong [.ref 1, .int (3 : Int32)] σ1 (fun r12 σ12 => 
            vb (oI r12) ∧ Q (some (.int (oI r12))) σ12)))))))))) : WP c_Sc_corner (CTs d) Q (0, [(0, .ref 1), (1, .int a1)], []) σ := wp_cut (ms_mono y_Sc_corner) (cts_cm d) (fun x => false) (fun _ _ => false) 105 h
theorem e_Sc_corner {d : Nat} {Q : Po} {σ : Hp}  {a1 : Int32}  (h : WP c_Sc_corner (CTs d) Q (0, [(0, .ref 1), (1, .int a1)], []) σ) : CTs (d + 1) y_Sc_corner [.ref 1, .int a1] σ Q := h
set_option maxRecDepth 20000 in
theorem t_Sc_joins_0 {d : Nat} {Q : Po} {σ : Hp}  {a1 : Int32} {a2 : Int32}  (h : (if a1 ≤ (2 : Int32) then 
    (CTs d y_Sc_joins [.ref 1, .int (a1 + (1 : Int32)), .int a2] σ (fun r1 σ1 => 
      (if (oI r1) = 0 then 
        (vb (0 : Int32) ∧ Q (some (.int (0 : Int32))) σ1)
        else 
        ((if a1 = 0 then 
          (WP c_Sc_joins (CTs d) Q (39, [(0, .ref 1), (1, .int a1), (2, .int a2), (3, .int (1 : Int32)), (4, .int (0 : Int32))], []) σ1)
          else 
          (WP c_Sc_joins (CTs d) Q (39, [(0, .ref 1), (1, .int a1), (2, .int a2), (3, .int (300 : Int32)), (4, .int (0 : Int32))], []) σ1))))))
    else 
    (CTs d y_Sc_one [.ref 1, .int a2] σ (fun r2 σ2 => 
      vb (oI r2) ∧ Q (some (.int (oI r2))) σ2)))) : WP c_Sc_joins (CTs d) Q (0, [(0, .ref 1), (1, .int a1), (2, .int a2)], []) σ := wp_cut (ms_mono y_Sc_joins) (cts_cm d) (fun x => Nat.beq x 39) (fun x i => (cond (Nat.beq x 39) (Nat.beq i 0 || Nat.beq i 1 || Nat.beq i 2 || Nat.beq i 3 || Nat.beq i 4) false)) 31 h
set_option maxRecDepth 20000 in
theorem t_Sc_joins_39 {d : Nat} {Q : Po} {σ : Hp}  {v1 : Int32} {v2 : Int32} {v3 : Int32} {v4 : Int32}  (h : (if v3 ≤ v4 then 
    (vb (1 : Int32) ∧ Q (some (.int (1 : Int32))) σ)
    else 
    (CTs d y_Sc_markAt [.ref 1, .int v1] σ (fun r1 σ1 => 
      (if (oI r1) = 0 then 
        (vb (1 : Int32) ∧ Q (some (.int (1 : Int32))) σ1)
        else 
        (CTs d y_Sc_next [.ref 1] σ1 (fun r2 σ2 => 
          CTs d y_Sc_joins [.ref 1, .int (v1 + (1 : Int32)), .int v2] σ2 (fun r3 σ3 => 
            (if (oI r3) = 0 then 
              (vb (0 : Int32) ∧ Q (some (.int (0 : Int32))) σ3)
              else 
              (CTs d y_Tx_addCode [.ref 17, .int (oI r1), .int (0 : Int32)] σ3 (fun r4 σ4 => 
                WP c_Sc_joins (CTs d) Q (39, [(0, .ref 1), (1, .int v1), (2, .int v2), (3, .int v3), (4, .int (v4 + (1 : Int32)))], []) σ4))))))))))) : WP c_Sc_joins (CTs d) Q (39, [(0, .ref 1), (1, .int v1), (2, .int v2), (3, .int v3), (4, .int v4)], []) σ := wp_cut (ms_mono y_Sc_joins) (cts_cm d) (fun x => Nat.beq x 39) (fun x i => (cond (Nat.beq x 39) (Nat.beq i 0 || Nat.beq i 1 || Nat.beq i 2 || Nat.beq i 3 || Nat.beq i 4) false)) 36 h
theorem e_Sc_joins {d : Nat} {Q : Po} {σ : Hp}  {a1 : Int32} {a2 : Int32}  (h : WP c_Sc_joins (CTs d) Q (0, [(0, .ref 1), (1, .int a1), (2, .int a2)], []) σ) : CTs (d + 1) y_Sc_joins [.ref 1, .int a1, .int a2] σ Q := h
set_option maxRecDepth 20000 in
theorem t_Sc_markAt_0 {d : Nat} {Q : Po} {σ : Hp}  {a1 : Int32}  (h : (if a1 = 0 then 
    (CTs d y_Sc_isSign [.ref 1, .int (60 : Int32)] σ (fun r5 σ5 => 
      (if (oI r5) = 0 then 
        (CTs d y_Sc_isSign [.ref 1, .int (61 : Int32)] σ5 (fun r6 σ6 => 
          (if (oI r6) = 0 then 
            (Q (some (.int (0 : Int32))) σ6)
            else 
            (Q (some (.int (9 : Int32))) σ6))))
        else 
        (Q (some (.int (8 : Int32))) σ5))))
    else 
    ((if a1 = (1 : Int32) then 
      (CTs d y_Sc_isSign [.ref 1, .int (43 : Int32)] σ (fun r3 σ3 => 
        (if (oI r3) = 0 then 
          (CTs d y_Sc_isSign [.ref 1, .int (45 : Int32)] σ3 (fun r4 σ4 => 
            (if (oI r4) = 0 then 
              (Q (some (.int (0 : Int32))) σ4)
              else 
              (Q (some (.int (5 : Int32))) σ4))))
          else 
          (Q (some (.int (4 : Int32))) σ3))))
      else 
      (CTs d y_Sc_isSign [.ref 1, .int (42 : Int32)] σ (fun r1 σ1 => 
        (if (oI r1) = 0 then 
          (CTs d y_Sc_isSign [.ref 1, .int (47 : Int32)] σ1 (fun r2 σ2 => 
            (if (oI r2) = 0 then 
              (Q (some (.int (0 : Int32))) σ2)
              else 
              (Q (some (.int (7 : Int32))) σ2))))
          else 
          (Q (some (.int (6 : Int32))) σ1)))))))) : WP c_Sc_markAt (CTs d) Q (0, [(0, .ref 1), (1, .int a1)], []) σ := wp_cut (ms_mono y_Sc_markAt) (cts_cm d) (fun x => false) (fun _ _ => false) 55 h
theorem e_Sc_markAt {d : Nat} {Q : Po} {σ : Hp}  {a1 : Int32}  (h : WP c_Sc_markAt (CTs d) Q (0, [(0, .ref 1), (1, .int a1)], []) σ) : CTs (d + 1) y_Sc_markAt [.ref 1, .int a1] σ Q := h
set_option maxRecDepth 20000 in
theorem t_Sc_one_0 {d : Nat} {Q : Po} {σ : Hp}  {a1 : Int32}  (h : CTs d y_Sc_isN [.ref 1, .int (0 : Int32), .int (99999 : Int32)] σ (fun r1 σ1 => 
    (if (oI r1) = 0 then 
      (CTs d y_Sc_isName [.ref 1] σ1 (fun r2 σ2 => 
        (if (oI r2) = 0 then 
          (CTs d y_Sc_isSign [.ref 1, .int (45 : Int32)] σ2 (fun r3 σ3 => 
            (if (oI r3) = 0 then 
              (CTs d y_Sc_isSign [.ref 1, .int (40 : Int32)] σ3 (fun r4 σ4 => 
                (if (oI r4) = 0 then 
                  (CTs d y_Sc_isKey [.ref 1, .int (6476969 : Int32)] σ4 (fun r5 σ5 => 
                    (if (oI r5) = 0 then 
                      (WP c_Sc_one (CTs d) Q (83, [(0, .ref 1), (1, .int a1)], [.int (0 : Int32)]) σ5)
                      else 
                      (WP c_Sc_one (CTs d) Q (83, [(0, .ref 1), (1, .int a1)], [.int (1 : Int32)]) σ5))))
                  else 
                  (WP c_Sc_one (CTs d) Q (83, [(0, .ref 1), (1, .int a1)], [.int (1 : Int32)]) σ4))))
              else 
              (WP c_Sc_one (CTs d) Q (83, [(0, .ref 1), (1, .int a1)], [.int (1 : Int32)]) σ3))))
          else 
          (CTs d y_Sc_name [.ref 1, .int a1] σ2 (fun r6 σ6 => 
            vb (oI r6) ∧ Q (some (.int (oI r6))) σ6)))))
      else 
      (CTs d y_Tx_addCode [.ref 17, .int (0 : Int32), .int (σ1.1 1 9)] σ1 (fun r7 σ7 => 
        (if (oI r7) = 0 then 
          (vb (0 : Int32) ∧ Q (some (.int (0 : Int32))) σ7)
          else 
          (CTs d y_Sc_next [.ref 1] σ7 (fun r8 σ8 => 
            (if (oI r8) = 0 then 
              (vb (0 : Int32) ∧ Q (some (.int (0 : Int32))) σ8)
              else 
              (vb (1 : Int32) ∧ Q (some (.int (1 : Int32))) σ8)))))))))) : WP c_Sc_one (CTs d) Q (0, [(0, .ref 1), (1, .int a1)], []) σ := wp_cut (ms_mono y_Sc_one) (cts_cm d) (fun x => Nat.beq x 83) (fun x i => (cond (Nat.beq x 83) (Nat.beq i 0 || Nat.beq i 1) false)) 54 h
set_option maxRecDepth 20000 in
theorem t_Sc_one_83 {d : Nat} {Q : Po} {σ : Hp}  {v1 : Int32} {u0 : Int32}  (h : (if u0 = 0 then 
    (CTs d y_Sc_wrong [.ref 1, .int (1 : Int32)] σ (fun r1 σ1 => 
      vb (oI r1) ∧ Q (some (.int (oI r1))) σ1))
    else 
    ((if v1 < (4 : Int32) then 
      (CTs d y_Sc_isSign [.ref 1, .int (45 : Int32)] σ (fun r2 σ2 => 
        (if (oI r2) = 0 then 
          (CTs d y_Sc_isSign [.ref 1, .int (40 : Int32)] σ2 (fun r3 σ3 => 
            (if (oI r3) = 0 then 
              (CTs d y_Sc_next [.ref 1] σ3 (fun r4 σ4 => 
                (if (oI r4) = 0 then 
                  (vb (0 : Int32) ∧ Q (some (.int (0 : Int32))) σ4)
                  else 
                  (CTs d y_Sc_skipSign [.ref 1, .int (40 : Int32)] σ4 (fun r5 σ5 => 
                    (if (oI r5) = 0 then 
                      (vb (0 : Int32) ∧ Q (some (.int (0 : Int32))) σ5)
                      else 
                      (CTs d y_Sc_joins [.ref 1, .int (0 : Int32), .int (v1 + (1 : Int32))] σ5 (fun r6 σ6 => 
                        (if (oI r6) = 0 then 
                          (vb (0 : Int32) ∧ Q (some (.int (0 : Int32))) σ6)
                          else 
                          (CTs d y_Sc_skipSign [.ref 1, .int (44 : Int32)] σ6 (fun r7 σ7 => 
                            (if (oI r7) = 0 then 
                              (vb (0 : Int32) ∧ Q (some (.int (0 : Int32))) σ7)
                              else 
                              (CTs d y_Sc_joins [.ref 1, .int (0 : Int32), .int (v1 + (1 : Int32))] σ7 (fun r8 σ8 => 
                                (if (oI r8) = 0 then 
                                  (vb (0 : Int32) ∧ Q (some (.int (0 : Int32))) σ8)
                                  else 
                                  (CTs d y_Sc_skipSign [.ref 1, .int (41 : Int32)] σ8 (fun r9 σ9 => 
                                    (if (oI r9) = 0 then 
                                      (vb (0 : Int32) ∧ Q (some (.int (0 : Int32))) σ9)
                                      else 
                                      (CTs d y_Tx_addCode [.ref 17, .int (10 : Int32), .int (0 : Int32)] σ9 (fun r10 σ10 => 
                                        (if (oI r10) = 0 then 
                                          (vb (0 : Int32) ∧ Q (some (.int (0 : Int32))) σ10)
                                          else 
                                          (vb (1 : Int32) ∧ Q (some (.int (1 : Int32))) σ10))))))))))))))))))))))
              else 
              (CTs d y_Sc_next [.ref 1] σ3 (fun r11 σ11 => 
                (if (oI r11) = 0 then 
                  (vb (0 : Int32) ∧ Q (some (.int (0 : Int32))) σ11)
                  else 
                  (CTs d y_Sc_joins [.ref 1, .int (0 : Int32), .int (v1 + (1 : Int32))] σ11 (fun r12 σ12 => 
                    (if (oI r12) = 0 then 
                      (vb (0 : Int32) ∧ Q (some (.int (0 : Int32))) σ12)
                      else 
                      (CTs d y_Sc_skipSign [.ref 1, .int (41 : Int32)] σ12 (fun r13 σ13 => 
                        (if (oI r13) = 0 then 
                          (vb (0 : Int32) ∧ Q (some (.int (0 : Int32))) σ13)
                          else 
                          (vb (1 : Int32) ∧ Q (some (.int (1 : Int32))) σ13)))))))))))))
          else 
          (CTs d y_Sc_next [.ref 1] σ2 (fun r14 σ14 => 
            (if (oI r14) = 0 then 
              (vb (0 : Int32) ∧ Q (some (.int (0 : Int32))) σ14)
              else 
              (CTs d y_Sc_one [.ref 1, .int (v1 + (1 : Int32))] σ14 (fun r15 σ15 => 
                (if (oI r15) = 0 then 
                  (vb (0 : Int32) ∧ Q (some (.int (0 : Int32))) σ15)
                  else 
                  (CTs d y_Tx_addCode [.ref 17, .int (2 : Int32), .int (0 : Int32)] σ15 (fun r16 σ16 => 
                    (if (oI r16) = 0 then 
                      (vb (0 : Int32) ∧ Q (some (.int (0 : Int32))) σ16)
                      else 
                      (vb (1 : Int32) ∧ Q (some (.int (1 : Int32))) σ16)))))))))))))
      else 
      (CTs d y_Sc_wrong [.ref 1, .int (1 : Int32)] σ (fun r17 σ17 => 
        vb (oI r17) ∧ Q (some (.int (oI r17))) σ17)))))) : WP c_Sc_one (CTs d) Q (83, [(0, .ref 1), (1, .int v1)], [.int u0]) σ := wp_cut (ms_mono y_Sc_one) (cts_cm d) (fun x => Nat.beq x 83) (fun x i => (cond (Nat.beq x 83) (Nat.beq i 0 || Nat.beq i 1) false)) 123 h
theorem e_Sc_one {d : Nat} {Q : Po} {σ : Hp}  {a1 : Int32}  (h : WP c_Sc_one (CTs d) Q (0, [(0, .ref 1), (1, .int a1)], []) σ) : CTs (d + 1) y_Sc_one [.ref 1, .int a1] σ Q := h
set_option maxRecDepth 20000 in
theorem t_Sc_name_0 {d : Nat} {Q : Po} {σ : Hp}  {a1 : Int32}  (h : CTs d y_Tx_find [.ref 17, .int (σ.1 1 9)] σ (fun r1 σ1 => 
    (if 0 ≤ (oI r1) then 
      (vp_in (oI r1) 16 ∧ (vp_in (oI r1) 16 ∧ (CTs d y_Sc_next [.ref 1] (sI σ1 25 (oI r1).toNatClampNeg ((σ1.1 25 (oI r1).toNatClampNeg) ||| ((1 : Int32) <<< ((σ1.1 17 0) &&& 31)))) (fun r2 σ2 => 
        vp_in (oI r1) 16 ∧ ((if (σ2.1 18 (oI r1).toNatClampNeg) = (4 : Int32) then 
          (CTs d y_Sc_isSign [.ref 1, .int (91 : Int32)] σ2 (fun r3 σ3 => 
            (if (oI r3) = 0 then 
              (CTs d y_Sc_wrong [.ref 1, .int (1 : Int32)] σ3 (fun r4 σ4 => 
                vb (oI r4) ∧ Q (some (.int (oI r4))) σ4))
              else 
              ((if a1 < (4 : Int32) then 
                (CTs d y_Sc_next [.ref 1] σ3 (fun r5 σ5 => 
                  (if (oI r5) = 0 then 
                    (vb (0 : Int32) ∧ Q (some (.int (0 : Int32))) σ5)
                    else 
                    (CTs d y_Sc_joins [.ref 1, .int (0 : Int32), .int (a1 + (1 : Int32))] σ5 (fun r6 σ6 => 
                      (if (oI r6) = 0 then 
                        (vb (0 : Int32) ∧ Q (some (.int (0 : Int32))) σ6)
                        else 
                        (CTs d y_Sc_skipSign [.ref 1, .int (93 : Int32)] σ6 (fun r7 σ7 => 
                          (if (oI r7) = 0 then 
                            (vb (0 : Int32) ∧ Q (some (.int (0 : Int32))) σ7)
                            else 
                            (CTs d y_Tx_addCode [.ref 17, .int (3 : Int32), .int (oI r1)] σ7 (fun r8 σ8 => 
                              (if (oI r8) = 0 then 
                                (vb (0 : Int32) ∧ Q (some (.int (0 : Int32))) σ8)
                                else 
                                (vb (1 : Int32) ∧ Q (some (.int (1 : Int32))) σ8)))))))))))))
                else 
                (CTs d y_Sc_wrong [.ref 1, .int (1 : Int32)] σ3 (fun r9 σ9 => 
                  vb (oI r9) ∧ Q (some (.int (oI r9))) σ9)))))))
          else 
          (CTs d y_Tx_addCode [.ref 17, .int (1 : Int32), .int (oI r1)] σ2 (fun r10 σ10 => 
            vb (oI r10) ∧ Q (some (.int (oI r10))) σ10))))))))
      else 
      (CTs d y_Sc_wrong [.ref 1, .int (2 : Int32)] σ1 (fun r11 σ11 => 
        vb (oI r11) ∧ Q (some (.int (oI r11))) σ11))))) : WP c_Sc_name (CTs d) Q (0, [(0, .ref 1), (1, .int a1)], []) σ := wp_cut (ms_mono y_Sc_name) (cts_cm d) (fun x => false) (fun _ _ => false) 89 h
theorem e_Sc_name {d : Nat} {Q : Po} {σ : Hp}  {a1 : Int32}  (h : WP c_Sc_name (CTs d) Q (0, [(0, .ref 1), (1, .int a1)], []) σ) : CTs (d + 1) y_Sc_name [.ref 1, .int a1] σ Q := h
set_option maxRecDepth 20000 in
theorem t_St_steps_0 {d : Nat} {Q : Po} {σ : Hp} {c : Nat} {a2 : Int32} (hs : (c = 92) ∨ (c = 93)) (h : CTs d y_Do_begins [.ref 88, .int (20 : Int32)] σ (fun _ σ1 => 
    CTs d y_Th_steps [.ref c, .ref 88, .int a2] σ1 (fun r2 σ2 => 
      Q (some (.int ((oI r2) - (σ2.1 88 1)))) σ2))) : WP c_St_steps (CTs d) Q (0, [(0, .ref c), (1, .ref 88), (2, .int a2)], []) σ := by
  rcases hs with rfl | rfl <;> exact wp_cut (ms_mono y_St_steps) (cts_cm d) (fun x => false) (fun _ _ => false) 13 h
theorem e_St_steps {d : Nat} {Q : Po} {σ : Hp} {c : Nat} {a2 : Int32} (hs : (c = 92) ∨ (c = 93)) (h : WP c_St_steps (CTs d) Q (0, [(0, .ref c), (1, .ref 88), (2, .int a2)], []) σ) : CTs (d + 1) y_St_steps [.ref c, .ref 88, .int a2] σ Q := by
  rcases hs with rfl | rfl <;> exact h
set_option maxRecDepth 20000 in
theorem t_Sr_units_0 {d : Nat} {Q : Po} {σ : Hp} {c : Nat} {a2 : Int32} (hs : (c = 94) ∨ (c = 95)) (h : CTs d y_Do_begins [.ref 88, .int (40 : Int32)] σ (fun _ σ1 => 
    CTs d y_Th_units [.ref c, .ref 88, .int (a2 + (2 : Int32))] σ1 (fun r2 σ2 => 
      Q (some (.int ((oI r2) ^^^ (1 : Int32)))) σ2))) : WP c_Sr_units (CTs d) Q (0, [(0, .ref c), (1, .ref 88), (2, .int a2)], []) σ := by
  rcases hs with rfl | rfl <;> exact wp_cut (ms_mono y_Sr_units) (cts_cm d) (fun x => false) (fun _ _ => false) 14 h
theorem e_Sr_units {d : Nat} {Q : Po} {σ : Hp} {c : Nat} {a2 : Int32} (hs : (c = 94) ∨ (c = 95)) (h : WP c_Sr_units (CTs d) Q (0, [(0, .ref c), (1, .ref 88), (2, .int a2)], []) σ) : CTs (d + 1) y_Sr_units [.ref c, .ref 88, .int a2] σ Q := by
  rcases hs with rfl | rfl <;> exact h
set_option maxRecDepth 20000 in
theorem t_Tb_reads_0 {d : Nat} {Q : Po} {σ : Hp} {c : Nat} {a2 : Int32} (hs : (c = 95)) (h : CTs d y_Do_begins [.ref 88, .int (50 : Int32)] σ (fun _ σ1 => 
    CTs d y_Th_reads [.ref c, .ref 88, .int a2] σ1 (fun r2 σ2 => 
      Q (some (.int ((0 : Int32) - (oI r2)))) σ2))) : WP c_Tb_reads (CTs d) Q (0, [(0, .ref c), (1, .ref 88), (2, .int a2)], []) σ := by
  obtain rfl := hs
  exact wp_cut (ms_mono y_Tb_reads) (cts_cm d) (fun x => false) (fun _ _ => false) 12 h
theorem e_Tb_reads {d : Nat} {Q : Po} {σ : Hp} {c : Nat} {a2 : Int32} (hs : (c = 95)) (h : WP c_Tb_reads (CTs d) Q (0, [(0, .ref c), (1, .ref 88), (2, .int a2)], []) σ) : CTs (d + 1) y_Tb_reads [.ref c, .ref 88, .int a2] σ Q := by
  obtain rfl := hs
  exact h
set_option maxRecDepth 20000 in
theorem t_Tb_units_0 {d : Nat} {Q : Po} {σ : Hp} {c : Nat} {a2 : Int32} (hs : (c = 95)) (h : CTs d y_Do_begins [.ref 88, .int (51 : Int32)] σ (fun _ σ1 => 
    CTs d y_Sr_units [.ref c, .ref 88, .int a2] σ1 (fun r2 σ2 => 
      CTs d y_Tb_reads [.ref c, .ref 88, .int (σ2.1 88 0)] σ2 (fun r3 σ3 => 
        Q (some (.int ((oI r2) + (oI r3)))) σ3)))) : WP c_Tb_units (CTs d) Q (0, [(0, .ref c), (1, .ref 88), (2, .int a2)], []) σ := by
  obtain rfl := hs
  exact wp_cut (ms_mono y_Tb_units) (cts_cm d) (fun x => false) (fun _ _ => false) 16 h
theorem e_Tb_units {d : Nat} {Q : Po} {σ : Hp} {c : Nat} {a2 : Int32} (hs : (c = 95)) (h : WP c_Tb_units (CTs d) Q (0, [(0, .ref c), (1, .ref 88), (2, .int a2)], []) σ) : CTs (d + 1) y_Tb_units [.ref c, .ref 88, .int a2] σ Q := by
  obtain rfl := hs
  exact h
set_option maxRecDepth 20000 in
theorem t_Tx_clear_0 {d : Nat} {Q : Po} {σ : Hp} {t : Nat}  (hs : (t = 17)) (h : Q none (sI (sI σ t 0 (0 : Int32)) t 1 (0 : Int32))) : WP c_Tx_clear (CTs d) Q (0, [(0, .ref t)], []) σ := by
  obtain rfl := hs
  exact wp_cut (ms_mono y_Tx_clear) (cts_cm d) (fun x => false) (fun _ _ => false) 9 h
theorem e_Tx_clear {d : Nat} {Q : Po} {σ : Hp} {t : Nat}  (hs : (t = 17)) (h : WP c_Tx_clear (CTs d) Q (0, [(0, .ref t)], []) σ) : CTs (d + 1) y_Tx_clear [.ref t] σ Q := by
  obtain rfl := hs
  exact h
set_option maxRecDepth 20000 in
theorem t_Tx_take_0 {d : Nat} {Q : Po} {σ : Hp} {t : Nat} {z : Nat}  (hs : (t = 31 ∧ z = 3) ∨ (t = 3 ∧ z = 31)) (h : (¬ (0 : Int32) < 0 ∧ ¬ (0 : Int32) < 0 ∧ ¬ (16 : Int32) < 0 ∧ (0 : Int32).toNatClampNeg + (16 : Int32).toNatClampNeg ≤ 16 ∧ (0 : Int32).toNatClampNeg + (16 : Int32).toNatClampNeg ≤ 16) ∧ ((¬ (0 : Int32) < 0 ∧ ¬ (0 : Int32) < 0 ∧ ¬ (16 : Int32) < 0 ∧ (0 : Int32).toNatClampNeg + (16 : Int32).toNatClampNeg ≤ 16 ∧ (0 : Int32).toNatClampNeg + (16 : Int32).toNatClampNeg ≤ 16) ∧ ((¬ (0 : Int32) < 0 ∧ ¬ (0 : Int32) < 0 ∧ ¬ (16 : Int32) < 0 ∧ (0 : Int32).toNatClampNeg + (16 : Int32).toNatClampNeg ≤ 16 ∧ (0 : Int32).toNatClampNeg + (16 : Int32).toNatClampNeg ≤ 16) ∧ ((¬ (0 : Int32) < 0 ∧ ¬ (0 : Int32) < 0 ∧ ¬ (16 : Int32) < 0 ∧ (0 : Int32).toNatClampNeg + (16 : Int32).toNatClampNeg ≤ 16 ∧ (0 : Int32).toNatClampNeg + (16 : Int32).toNatClampNeg ≤ 16) ∧ ((¬ (0 : Int32) < 0 ∧ ¬ (0 : Int32) < 0 ∧ ¬ (16 : Int32) < 0 ∧ (0 : Int32).toNatClampNeg + (16 : Int32).toNatClampNeg ≤ 16 ∧ (0 : Int32).toNatClampNeg + (16 : Int32).toNatClampNeg ≤ 16) ∧ ((¬ (0 : Int32) < 0 ∧ ¬ (0 : Int32) < 0 ∧ ¬ (16 : Int32) < 0 ∧ (0 : Int32).toNatClampNeg + (16 : Int32).toNatClampNeg ≤ 16 ∧ (0 : Int32).toNatClampNeg + (16 : Int32).toNatClampNeg ≤ 16) ∧ ((¬ (0 : Int32) < 0 ∧ ¬ (0 : Int32) < 0 ∧ ¬ (16 : Int32) < 0 ∧ (0 : Int32).toNatClampNeg + (16 : Int32).toNatClampNeg ≤ 16 ∧ (0 : Int32).toNatClampNeg + (16 : Int32).toNatClampNeg ≤ 16) ∧ ((¬ (0 : Int32) < 0 ∧ ¬ (0 : Int32) < 0 ∧ ¬ (16 : Int32) < 0 ∧ (0 : Int32).toNatClampNeg + (16 : Int32).toNatClampNeg ≤ 16 ∧ (0 : Int32).toNatClampNeg + (16 : Int32).toNatClampNeg ≤ 16) ∧ ((¬ (0 : Int32) < 0 ∧ ¬ (0 : Int32) < 0 ∧ ¬ (16 : Int32) < 0 ∧ (0 : Int32).toNatClampNeg + (16 : Int32).toNatClampNeg ≤ 16 ∧ (0 : Int32).toNatClampNeg + (16 : Int32).toNatClampNeg ≤ 16) ∧ ((¬ (0 : Int32) < 0 ∧ ¬ (0 : Int32) < 0 ∧ ¬ (Int32.ofNat 96) < 0 ∧ (0 : Int32).toNatClampNeg + (Int32.ofNat 96).toNatClampNeg ≤ 96 ∧ (0 : Int32).toNatClampNeg + (Int32.ofNat 96).toNatClampNeg ≤ 96) ∧ ((¬ (0 : Int32) < 0 ∧ ¬ (0 : Int32) < 0 ∧ ¬ (Int32.ofNat 96) < 0 ∧ (0 : Int32).toNatClampNeg + (Int32.ofNat 96).toNatClampNeg ≤ 96 ∧ (0 : Int32).toNatClampNeg + (Int32.ofNat 96).toNatClampNeg ≤ 96) ∧ ((¬ (0 : Int32) < 0 ∧ ¬ (0 : Int32) < 0 ∧ ¬ (σ.1 z 1) < 0 ∧ (0 : Int32).toNatClampNeg + (σ.1 z 1).toNatClampNeg ≤ 300 ∧ (0 : Int32).toNatClampNeg + (σ.1 z 1).toNatClampNeg ≤ 300) ∧ (Q none (sC (sC (sC (sC (sC (sC (sC (sC (sC (sC (sC (sC (sI (sI σ t 0 (σ.1 z 0)) t 1 (σ.1 z 1)) (t + 1) (va_cpy (σ.1 (z + 1)) (σ.1 (t + 1)) (0 : Int32).toNatClampNeg (0 : Int32).toNatClampNeg (16 : Int32).toNatClampNeg)) (t + 2) (va_cpy (σ.1 (z + 2)) (σ.1 (t + 2)) (0 : Int32).toNatClampNeg (0 : Int32).toNatClampNeg (16 : Int32).toNatClampNeg)) (t + 3) (va_cpy (σ.1 (z + 3)) (σ.1 (t + 3)) (0 : Int32).toNatClampNeg (0 : Int32).toNatClampNeg (16 : Int32).toNatClampNeg)) (t + 4) (va_cpy (σ.1 (z + 4)) (σ.1 (t + 4)) (0 : Int32).toNatClampNeg (0 : Int32).toNatClampNeg (16 : Int32).toNatClampNeg)) (t + 5) (va_cpy (σ.1 (z + 5)) (σ.1 (t + 5)) (0 : Int32).toNatClampNeg (0 : Int32).toNatClampNeg (16 : Int32).toNatClampNeg)) (t + 6) (va_cpy (σ.1 (z + 6)) (σ.1 (t + 6)) (0 : Int32).toNatClampNeg (0 : Int32).toNatClampNeg (16 : Int32).toNatClampNeg)) (t + 7) (va_cpy (σ.1 (z + 7)) (σ.1 (t + 7)) (0 : Int32).toNatClampNeg (0 : Int32).toNatClampNeg (16 : Int32).toNatClampNeg)) (t + 8) (va_cpy (σ.1 (z + 8)) (σ.1 (t + 8)) (0 : Int32).toNatClampNeg (0 : Int32).toNatClampNeg (16 : Int32).toNatClampNeg)) (t + 9) (va_cpy (σ.1 (z + 9)) (σ.1 (t + 9)) (0 : Int32).toNatClampNeg (0 : Int32).toNatClampNeg (16 : Int32).toNatClampNeg)) (t + 10) (va_cpy (σ.1 (z + 10)) (σ.1 (t + 10)) (0 : Int32).toNatClampNeg (0 : Int32).toNatClampNeg (Int32.ofNat 96).toNatClampNeg)) (t + 11) (va_cpy (σ.1 (z + 11)) (σ.1 (t + 11)) (0 : Int32).toNatClampNeg (0 : Int32).toNatClampNeg (Int32.ofNat 96).toNatClampNeg)) (t + 12) (va_cpy (σ.1 (z + 12)) (σ.1 (t + 12)) (0 : Int32).toNatClampNeg (0 : Int32).toNatClampNeg (σ.1 z 1).toNatClampNeg))))))))))))))) : WP c_Tx_take (CTs d) Q (0, [(0, .ref t), (1, .ref z)], []) σ := by
  rcases hs with ⟨rfl, rfl⟩ | ⟨rfl, rfl⟩ <;> exact wp_cut (ms_mono y_Tx_take) (cts_cm d) (fun x => false) (fun _ _ => false) 112 h
theorem e_Tx_take {d : Nat} {Q : Po} {σ : Hp} {t : Nat} {z : Nat}  (hs : (t = 31 ∧ z = 3) ∨ (t = 3 ∧ z = 31)) (h : WP c_Tx_take (CTs d) Q (0, [(0, .ref t), (1, .ref z)], []) σ) : CTs (d + 1) y_Tx_take [.ref t, .ref z] σ Q := by
  rcases hs with ⟨rfl, rfl⟩ | ⟨rfl, rfl⟩ <;> exact h
set_option maxRecDepth 20000 in
theorem t_Tx_has_0 {d : Nat} {Q : Po} {σ : Hp} {t : Nat} {a1 : Int32} (hs : (t = 3) ∨ (t = 17)) (h : (if a1 < 0 then 
    (vb (0 : Int32) ∧ Q (some (.int (0 : Int32))) σ)
    else 
    ((if (σ.1 t 0) ≤ a1 then 
      (vb (0 : Int32) ∧ Q (some (.int (0 : Int32))) σ)
      else 
      (vb (1 : Int32) ∧ Q (some (.int (1 : Int32))) σ))))) : WP c_Tx_has (CTs d) Q (0, [(0, .ref t), (1, .int a1)], []) σ := by
  rcases hs with rfl | rfl <;> exact wp_cut (ms_mono y_Tx_has) (cts_cm d) (fun x => false) (fun _ _ => false) 15 h
theorem e_Tx_has {d : Nat} {Q : Po} {σ : Hp} {t : Nat} {a1 : Int32} (hs : (t = 3) ∨ (t = 17)) (h : WP c_Tx_has (CTs d) Q (0, [(0, .ref t), (1, .int a1)], []) σ) : CTs (d + 1) y_Tx_has [.ref t, .int a1] σ Q := by
  rcases hs with rfl | rfl <;> exact h
set_option maxRecDepth 20000 in
theorem t_Tx_is_0 {d : Nat} {Q : Po} {σ : Hp} {t : Nat} {a1 : Int32} {a2 : Int32} (hs : (t = 3)) (h : CTs d y_Tx_has [.ref t, .int a1] σ (fun r1 σ1 => 
    (if (oI r1) = 0 then 
      (vb (0 : Int32) ∧ Q (some (.int (0 : Int32))) σ1)
      else 
      (vp_in a1 16 ∧ ((if (σ1.1 (t + 1) (a1).toNatClampNeg) = a2 then 
        (vb (1 : Int32) ∧ Q (some (.int (1 : Int32))) σ1)
        else 
        (vb (0 : Int32) ∧ Q (some (.int (0 : Int32))) σ1))))))) : WP c_Tx_is (CTs d) Q (0, [(0, .ref t), (1, .int a1), (2, .int a2)], []) σ := by
  obtain rfl := hs
  exact wp_cut (ms_mono y_Tx_is) (cts_cm d) (fun x => false) (fun _ _ => false) 19 h
theorem e_Tx_is {d : Nat} {Q : Po} {σ : Hp} {t : Nat} {a1 : Int32} {a2 : Int32} (hs : (t = 3)) (h : WP c_Tx_is (CTs d) Q (0, [(0, .ref t), (1, .int a1), (2, .int a2)], []) σ) : CTs (d + 1) y_Tx_is [.ref t, .int a1, .int a2] σ Q := by
  obtain rfl := hs
  exact h
set_option maxRecDepth 20000 in
theorem t_Tx_find_0 {d : Nat} {Q : Po} {σ : Hp} {t : Nat} {a1 : Int32} (hs : (t = 3) ∨ (t = 17)) (h : WP c_Tx_find (CTs d) Q (2, [(0, .ref t), (1, .int a1), (2, .int (0 : Int32))], []) σ) : WP c_Tx_find (CTs d) Q (0, [(0, .ref t), (1, .int a1)], []) σ := by
  rcases hs with rfl | rfl <;> exact wp_cut (ms_mono y_Tx_find) (cts_cm d) (fun x => Nat.beq x 2) (fun x i => (cond (Nat.beq x 2) (Nat.beq i 0 || Nat.beq i 1 || Nat.beq i 2) false)) 5 h
set_option maxRecDepth 20000 in
theorem t_Tx_find_2 {d : Nat} {Q : Po} {σ : Hp} {t : Nat} {v1 : Int32} {v2 : Int32} (hs : (t = 3) ∨ (t = 17)) (h : (if (σ.1 t 0) ≤ v2 then 
    (Q (some (.int (-1 : Int32))) σ)
    else 
    (vp_in v2 16 ∧ ((if (σ.1 (t + 2) (v2).toNatClampNeg) = v1 then 
      (Q (some (.int v2)) σ)
      else 
      (WP c_Tx_find (CTs d) Q (2, [(0, .ref t), (1, .int v1), (2, .int (v2 + (1 : Int32)))], []) σ)))))) : WP c_Tx_find (CTs d) Q (2, [(0, .ref t), (1, .int v1), (2, .int v2)], []) σ := by
  rcases hs with rfl | rfl <;> exact wp_cut (ms_mono y_Tx_find) (cts_cm d) (fun x => Nat.beq x 2) (fun x i => (cond (Nat.beq x 2) (Nat.beq i 0 || Nat.beq i 1 || Nat.beq i 2) false)) 19 h
theorem e_Tx_find {d : Nat} {Q : Po} {σ : Hp} {t : Nat} {a1 : Int32} (hs : (t = 3) ∨ (t = 17)) (h : WP c_Tx_find (CTs d) Q (0, [(0, .ref t), (1, .int a1)], []) σ) : CTs (d + 1) y_Tx_find [.ref t, .int a1] σ Q := by
  rcases hs with rfl | rfl <;> exact h
set_option maxRecDepth 20000 in
theorem t_Tx_lettersOf_0 {d : Nat} {Q : Po} {σ : Hp} {t : Nat} {a1 : Int32} (hs : (t = 3)) (h : vp_in a1 16 ∧ (WP c_Tx_lettersOf (CTs d) Q (9, [(2, .int (0 : Int32)), (3, .int (σ.1 (t + 2) (a1).toNatClampNeg))], []) σ)) : WP c_Tx_lettersOf (CTs d) Q (0, [(0, .ref t), (1, .int a1)], []) σ := by
  obtain rfl := hs
  exact wp_cut (ms_mono y_Tx_lettersOf) (cts_cm d) (fun x => Nat.beq x 9) (fun x i => (cond (Nat.beq x 9) (Nat.beq i 2 || Nat.beq i 3) false)) 10 h
set_option maxRecDepth 20000 in
theorem t_Tx_lettersOf_9 {d : Nat} {Q : Po} {σ : Hp} {t : Nat} {v2 : Int32} {v3 : Int32} (hs : (t = 3)) (h : (if v3 ≤ 0 then 
    (Q (some (.int v2)) σ)
    else 
    ((if (5 : Int32) ≤ v2 then 
      (Q (some (.int v2)) σ)
      else 
      (¬ (27 : Int32) = 0 ∧ (WP c_Tx_lettersOf (CTs d) Q (9, [(2, .int (v2 + (1 : Int32))), (3, .int (v3 / (27 : Int32)))], []) σ)))))) : WP c_Tx_lettersOf (CTs d) Q (9, [(2, .int v2), (3, .int v3)], []) σ := by
  obtain rfl := hs
  exact wp_cut (ms_mono y_Tx_lettersOf) (cts_cm d) (fun x => Nat.beq x 9) (fun x i => (cond (Nat.beq x 9) (Nat.beq i 2 || Nat.beq i 3) false)) 18 h
theorem e_Tx_lettersOf {d : Nat} {Q : Po} {σ : Hp} {t : Nat} {a1 : Int32} (hs : (t = 3)) (h : WP c_Tx_lettersOf (CTs d) Q (0, [(0, .ref t), (1, .int a1)], []) σ) : CTs (d + 1) y_Tx_lettersOf [.ref t, .int a1] σ Q := by
  obtain rfl := hs
  exact h
set_option maxRecDepth 20000 in
theorem t_Tx_open_0 {d : Nat} {Q : Po} {σ : Hp} {t : Nat} {a1 : Int32} {a2 : Int32} (hs : (t = 17)) (h : vp_in (σ.1 t 0) 16 ∧ (vp_in (σ.1 t 0) 16 ∧ (vp_in (σ.1 t 0) 16 ∧ (vp_in (σ.1 t 0) 16 ∧ (vp_in (σ.1 t 0) 16 ∧ (vp_in (σ.1 t 0) 16 ∧ (vp_in (σ.1 t 0) 16 ∧ (vp_in (σ.1 t 0) 16 ∧ (vp_in (σ.1 t 0) 16 ∧ (Q none (sI (sI (sI (sI (sI (sI (sI (sI (sI σ (t + 1) (σ.1 t 0).toNatClampNeg a1) (t + 2) (σ.1 t 0).toNatClampNeg a2) (t + 3) (σ.1 t 0).toNatClampNeg (0 : Int32)) (t + 4) (σ.1 t 0).toNatClampNeg (-9 : Int32)) (t + 5) (σ.1 t 0).toNatClampNeg (-9 : Int32)) (t + 6) (σ.1 t 0).toNatClampNeg (σ.1 t 1)) (t + 7) (σ.1 t 0).toNatClampNeg (σ.1 t 1)) (t + 8) (σ.1 t 0).toNatClampNeg (0 : Int32)) (t + 9) (σ.1 t 0).toNatClampNeg (0 : Int32)))))))))))) : WP c_Tx_open (CTs d) Q (0, [(0, .ref t), (1, .int a1), (2, .int a2)], []) σ := by
  obtain rfl := hs
  exact wp_cut (ms_mono y_Tx_open) (cts_cm d) (fun x => false) (fun _ _ => false) 59 h
theorem e_Tx_open {d : Nat} {Q : Po} {σ : Hp} {t : Nat} {a1 : Int32} {a2 : Int32} (hs : (t = 17)) (h : WP c_Tx_open (CTs d) Q (0, [(0, .ref t), (1, .int a1), (2, .int a2)], []) σ) : CTs (d + 1) y_Tx_open [.ref t, .int a1, .int a2] σ Q := by
  obtain rfl := hs
  exact h
set_option maxRecDepth 20000 in
theorem t_Tx_close_0 {d : Nat} {Q : Po} {σ : Hp} {t : Nat}  (hs : (t = 17)) (h : vp_in (σ.1 t 0) 16 ∧ (vp_in (σ.1 t 0) 16 ∧ (CTs d y_Tx_has [.ref t, .int (σ.1 (t + 4) (σ.1 t 0).toNatClampNeg)] (sI σ (t + 7) (σ.1 t 0).toNatClampNeg (σ.1 t 1)) (fun r1 σ1 => 
    (if (oI r1) = 0 then 
      (vp_in (σ1.1 t 0) 16 ∧ (CTs d y_Tx_has [.ref t, .int (σ1.1 (t + 5) (σ1.1 t 0).toNatClampNeg)] σ1 (fun r2 σ2 => 
        (if (oI r2) = 0 then 
          (Q none (sI σ2 t 0 ((σ2.1 t 0) + (1 : Int32))))
          else 
          (vp_in (σ2.1 t 0) 16 ∧ (vp_in (σ2.1 t 0) 16 ∧ (vp_in (σ2.1 t 0) 16 ∧ (Q none (sI (sI σ2 (t + 8) (σ2.1 t 0).toNatClampNeg ((σ2.1 (t + 8) (σ2.1 t 0).toNatClampNeg) ||| ((1 : Int32) <<< ((σ2.1 (t + 5) (σ2.1 t 0).toNatClampNeg) &&& 31)))) t 0 ((σ2.1 t 0) + (1 : Int32)))))))))))
      else 
      (vp_in (σ1.1 t 0) 16 ∧ (vp_in (σ1.1 t 0) 16 ∧ (vp_in (σ1.1 t 0) 16 ∧ (vp_in (σ1.1 t 0) 16 ∧ (CTs d y_Tx_has [.ref t, .int (σ1.1 (t + 5) (σ1.1 t 0).toNatClampNeg)] (sI σ1 (t + 8) (σ1.1 t 0).toNatClampNeg ((σ1.1 (t + 8) (σ1.1 t 0).toNatClampNeg) ||| ((1 : Int32) <<< ((σ1.1 (t + 4) (σ1.1 t 0).toNatClampNeg) &&& 31)))) (fun r3 σ3 => 
        (if (oI r3) = 0 then 
          (Q none (sI σ3 t 0 ((σ3.1 t 0) + (1 : Int32))))
          else 
          (vp_in (σ3.1 t 0) 16 ∧ (vp_in (σ3.1 t 0) 16 ∧ (vp_in (σ3.1 t 0) 16 ∧ (Q none (sI (sI σ3 (t + 8) (σ3.1 t 0).toNatClampNeg ((σ3.1 (t + 8) (σ3.1 t 0).toNatClampNeg) ||| ((1 : Int32) <<< ((σ3.1 (t + 5) (σ3.1 t 0).toNatClampNeg) &&& 31)))) t 0 ((σ3.1 t 0) + (1 : Int32))))))))))))))))))) : WP c_Tx_close (CTs d) Q (0, [(0, .ref t)], []) σ := by
  obtain rfl := hs
  exact wp_cut (ms_mono y_Tx_close) (cts_cm d) (fun x => false) (fun _ _ => false) 106 h
theorem e_Tx_close {d : Nat} {Q : Po} {σ : Hp} {t : Nat}  (hs : (t = 17)) (h : WP c_Tx_close (CTs d) Q (0, [(0, .ref t)], []) σ) : CTs (d + 1) y_Tx_close [.ref t] σ Q := by
  obtain rfl := hs
  exact h
set_option maxRecDepth 20000 in
theorem t_Tx_addCode_0 {d : Nat} {Q : Po} {σ : Hp} {t : Nat} {a1 : Int32} {a2 : Int32} (hs : (t = 17)) (h : (if (σ.1 t 1) < (300 : Int32) then 
    (vp_in (σ.1 t 1) 300 ∧ (vb (1 : Int32) ∧ Q (some (.int (1 : Int32))) (sI (sI σ (t + 12) (σ.1 t 1).toNatClampNeg ((a2 <<< ((4 : Int32) &&& 31)) ||| a1)) t 1 ((σ.1 t 1) + (1 : Int32)))))
    else 
    (vb (0 : Int32) ∧ Q (some (.int (0 : Int32))) σ))) : WP c_Tx_addCode (CTs d) Q (0, [(0, .ref t), (1, .int a1), (2, .int a2)], []) σ := by
  obtain rfl := hs
  exact wp_cut (ms_mono y_Tx_addCode) (cts_cm d) (fun x => false) (fun _ _ => false) 26 h
theorem e_Tx_addCode {d : Nat} {Q : Po} {σ : Hp} {t : Nat} {a1 : Int32} {a2 : Int32} (hs : (t = 17)) (h : WP c_Tx_addCode (CTs d) Q (0, [(0, .ref t), (1, .int a1), (2, .int a2)], []) σ) : CTs (d + 1) y_Tx_addCode [.ref t, .int a1, .int a2] σ Q := by
  obtain rfl := hs
  exact h
set_option maxRecDepth 20000 in
theorem t_Tx_look_0 {d : Nat} {Q : Po} {σ : Hp} {t : Nat} {a1 : Int32} {a2 : Int32} (hs : (t = 3)) (h : vp_in a1 16 ∧ (vp_in (a1 * (6 : Int32)) 96 ∧ ((if (σ.1 (t + 10) (a1 * (6 : Int32)).toNatClampNeg) < a2 then 
    (WP c_Tx_look (CTs d) Q (39, [(0, .ref t), (2, .int a2), (3, .int (a1 * (6 : Int32))), (4, .int (((a1 * (6 : Int32)) + (σ.1 (t + 9) (a1).toNatClampNeg)) - (1 : Int32))), (5, .int ((a1 * (6 : Int32)) + (1 : Int32)))], []) σ)
    else 
    (vp_in (a1 * (6 : Int32)) 96 ∧ (Q (some (.int (σ.1 (t + 11) (a1 * (6 : Int32)).toNatClampNeg))) σ)))))) : WP c_Tx_look (CTs d) Q (0, [(0, .ref t), (1, .int a1), (2, .int a2)], []) σ := by
  obtain rfl := hs
  exact wp_cut (ms_mono y_Tx_look) (cts_cm d) (fun x => Nat.beq x 39) (fun x i => (cond (Nat.beq x 39) (Nat.beq i 0 || Nat.beq i 2 || Nat.beq i 3 || Nat.beq i 4 || Nat.beq i 5) false)) 31 h
set_option maxRecDepth 20000 in
theorem t_Tx_look_39 {d : Nat} {Q : Po} {σ : Hp} {t : Nat} {v2 : Int32} {v3 : Int32} {v4 : Int32} {v5 : Int32} (hs : (t = 3)) (h : (if v4 < v5 then 
    ((if v3 ≤ v4 then 
      (vp_in v4 96 ∧ (Q (some (.int (σ.1 (t + 11) (v4).toNatClampNeg))) σ))
      else 
      (Q (some (.int (0 : Int32))) σ)))
    else 
    (vp_in v5 96 ∧ ((if (σ.1 (t + 10) (v5).toNatClampNeg) ≤ v2 then 
      (WP c_Tx_look (CTs d) Q (39, [(0, .ref t), (2, .int v2), (3, .int v3), (4, .int v4), (5, .int (v5 + (1 : Int32)))], []) σ)
      else 
      (CTs d y_Tx_between [.ref t, .int (v5 - (1 : Int32)), .int v2] σ (fun r1 σ1 => 
        Q (some (.int (oI r1))) σ1))))))) : WP c_Tx_look (CTs d) Q (39, [(0, .ref t), (2, .int v2), (3, .int v3), (4, .int v4), (5, .int v5)], []) σ := by
  obtain rfl := hs
  exact wp_cut (ms_mono y_Tx_look) (cts_cm d) (fun x => Nat.beq x 39) (fun x i => (cond (Nat.beq x 39) (Nat.beq i 0 || Nat.beq i 2 || Nat.beq i 3 || Nat.beq i 4 || Nat.beq i 5) false)) 32 h
theorem e_Tx_look {d : Nat} {Q : Po} {σ : Hp} {t : Nat} {a1 : Int32} {a2 : Int32} (hs : (t = 3)) (h : WP c_Tx_look (CTs d) Q (0, [(0, .ref t), (1, .int a1), (2, .int a2)], []) σ) : CTs (d + 1) y_Tx_look [.ref t, .int a1, .int a2] σ Q := by
  obtain rfl := hs
  exact h
set_option maxRecDepth 20000 in
theorem t_Tx_between_0 {d : Nat} {Q : Po} {σ : Hp} {t : Nat} {a1 : Int32} {a2 : Int32} (hs : (t = 3)) (h : vp_in (a1 + (1 : Int32)) 96 ∧ (vp_in a1 96 ∧ (vp_in a1 96 ∧ (vp_in (a1 + (1 : Int32)) 96 ∧ (vp_in a1 96 ∧ ((if 0 < (lg_cmp (((σ.1 (t + 10) (a1 + (1 : Int32)).toNatClampNeg) - (σ.1 (t + 10) (a1).toNatClampNeg))).toInt64 (0 : Int64)) then 
    (vp_in a1 96 ∧ (¬ (((σ.1 (t + 10) (a1 + (1 : Int32)).toNatClampNeg) - (σ.1 (t + 10) (a1).toNatClampNeg))).toInt64 = 0 ∧ (Q (some (.int ((σ.1 (t + 11) (a1).toNatClampNeg) + ((((((σ.1 (t + 11) (a1 + (1 : Int32)).toNatClampNeg) - (σ.1 (t + 11) (a1).toNatClampNeg))).toInt64 * ((a2 - (σ.1 (t + 10) (a1).toNatClampNeg))).toInt64) / (((σ.1 (t + 10) (a1 + (1 : Int32)).toNatClampNeg) - (σ.1 (t + 10) (a1).toNatClampNeg))).toInt64)).toInt32))) σ)))
    else 
    (Q (some (.int (0 : Int32))) σ)))))))) : WP c_Tx_between (CTs d) Q (0, [(0, .ref t), (1, .int a1), (2, .int a2)], []) σ := by
  obtain rfl := hs
  exact wp_cut (ms_mono y_Tx_between) (cts_cm d) (fun x => false) (fun _ _ => false) 55 h
theorem e_Tx_between {d : Nat} {Q : Po} {σ : Hp} {t : Nat} {a1 : Int32} {a2 : Int32} (hs : (t = 3)) (h : WP c_Tx_between (CTs d) Q (0, [(0, .ref t), (1, .int a1), (2, .int a2)], []) σ) : CTs (d + 1) y_Tx_between [.ref t, .int a1, .int a2] σ Q := by
  obtain rfl := hs
  exact h
set_option maxRecDepth 20000 in
theorem t_Tx_allMovedBy_0 {d : Nat} {Q : Po} {σ : Hp} {t : Nat} {a1 : Int32} (hs : (t = 3)) (h : vp_in a1 16 ∧ (WP c_Tx_allMovedBy (CTs d) Q (9, [(0, .ref t), (2, .int (σ.1 (t + 8) (a1).toNatClampNeg)), (3, .int (0 : Int32))], []) σ)) : WP c_Tx_allMovedBy (CTs d) Q (0, [(0, .ref t), (1, .int a1)], []) σ := by
  obtain rfl := hs
  exact wp_cut (ms_mono y_Tx_allMovedBy) (cts_cm d) (fun x => Nat.beq x 9 || Nat.beq x 20) (fun x i => (cond (Nat.beq x 20) (Nat.beq i 0 || Nat.beq i 2 || Nat.beq i 3 || Nat.beq i 4) (cond (Nat.beq x 9) (Nat.beq i 0 || Nat.beq i 2 || Nat.beq i 3) false))) 10 h
set_option maxRecDepth 20000 in
theorem t_Tx_allMovedBy_9 {d : Nat} {Q : Po} {σ : Hp} {t : Nat} {v2 : Int32} {v3 : Int32} (hs : (t = 3)) (h : (if (σ.1 t 0) ≤ v3 then 
    (Q (some (.int v2)) σ)
    else 
    (WP c_Tx_allMovedBy (CTs d) Q (20, [(0, .ref t), (2, .int v2), (3, .int v3), (4, .int (0 : Int32))], []) σ))) : WP c_Tx_allMovedBy (CTs d) Q (9, [(0, .ref t), (2, .int v2), (3, .int v3)], []) σ := by
  obtain rfl := hs
  exact wp_cut (ms_mono y_Tx_allMovedBy) (cts_cm d) (fun x => Nat.beq x 9 || Nat.beq x 20) (fun x i => (cond (Nat.beq x 20) (Nat.beq i 0 || Nat.beq i 2 || Nat.beq i 3 || Nat.beq i 4) (cond (Nat.beq x 9) (Nat.beq i 0 || Nat.beq i 2 || Nat.beq i 3) false))) 11 h
set_option maxRecDepth 20000 in
theorem t_Tx_allMovedBy_20 {d : Nat} {Q : Po} {σ : Hp} {t : Nat} {v2 : Int32} {v3 : Int32} {v4 : Int32} (hs : (t = 3)) (h : (if (σ.1 t 0) ≤ v4 then 
    (WP c_Tx_allMovedBy (CTs d) Q (9, [(0, .ref t), (2, .int v2), (3, .int (v3 + (1 : Int32)))], []) σ)
    else 
    ((if ((v2 >>> (v4 &&& 31)) &&& (1 : Int32)) = 0 then 
      (WP c_Tx_allMovedBy (CTs d) Q (20, [(0, .ref t), (2, .int v2), (3, .int v3), (4, .int (v4 + (1 : Int32)))], []) σ)
      else 
      (vp_in v4 16 ∧ (WP c_Tx_allMovedBy (CTs d) Q (20, [(0, .ref t), (2, .int (v2 ||| (σ.1 (t + 8) (v4).toNatClampNeg))), (3, .int v3), (4, .int (v4 + (1 : Int32)))], []) σ)))))) : WP c_Tx_allMovedBy (CTs d) Q (20, [(0, .ref t), (2, .int v2), (3, .int v3), (4, .int v4)], []) σ := by
  obtain rfl := hs
  exact wp_cut (ms_mono y_Tx_allMovedBy) (cts_cm d) (fun x => Nat.beq x 9 || Nat.beq x 20) (fun x i => (cond (Nat.beq x 20) (Nat.beq i 0 || Nat.beq i 2 || Nat.beq i 3 || Nat.beq i 4) (cond (Nat.beq x 9) (Nat.beq i 0 || Nat.beq i 2 || Nat.beq i 3) false))) 28 h
theorem e_Tx_allMovedBy {d : Nat} {Q : Po} {σ : Hp} {t : Nat} {a1 : Int32} (hs : (t = 3)) (h : WP c_Tx_allMovedBy (CTs d) Q (0, [(0, .ref t), (1, .int a1)], []) σ) : CTs (d + 1) y_Tx_allMovedBy [.ref t, .int a1] σ Q := by
  obtain rfl := hs
  exact h
set_option maxRecDepth 20000 in
theorem t_Tx_seekRing_0 {d : Nat} {Q : Po} {σ : Hp} {t : Nat} {a1 : Int32} (hs : (t = 3)) (h : WP c_Tx_seekRing (CTs d) Q (9, [(0, .ref t), (1, .int a1), (2, .int (0 : Int32)), (3, .int (0 : Int32))], []) (sI σ t 16 (0 : Int32))) : WP c_Tx_seekRing (CTs d) Q (0, [(0, .ref t), (1, .int a1)], []) σ := by
  obtain rfl := hs
  exact wp_cut (ms_mono y_Tx_seekRing) (cts_cm d) (fun x => Nat.beq x 9) (fun x i => (cond (Nat.beq x 9) (Nat.beq i 0 || Nat.beq i 1 || Nat.beq i 2 || Nat.beq i 3) false)) 10 h
set_option maxRecDepth 20000 in
theorem t_Tx_seekRing_9 {d : Nat} {Q : Po} {σ : Hp} {t : Nat} {v1 : Int32} {v2 : Int32} {v3 : Int32} (hs : (t = 3)) (h : (if (σ.1 t 0) ≤ v3 then 
    (Q (some (.int (σ.1 t 16))) σ)
    else 
    ((if v2 = 0 then 
      (vp_in (0 : Int32) 6 ∧ (CTs d y_Tx_goOn [.ref t, .int (1 : Int32), .int ((1 : Int32) <<< (v3 &&& 31)), .int v1] (sI σ (t + 13) (0 : Int32).toNatClampNeg v3) (fun r1 σ1 => 
        WP c_Tx_seekRing (CTs d) Q (9, [(0, .ref t), (1, .int v1), (2, .int (oI r1)), (3, .int (v3 + (1 : Int32)))], []) σ1)))
      else 
      (Q (some (.int (σ.1 t 16))) σ))))) : WP c_Tx_seekRing (CTs d) Q (9, [(0, .ref t), (1, .int v1), (2, .int v2), (3, .int v3)], []) σ := by
  obtain rfl := hs
  exact wp_cut (ms_mono y_Tx_seekRing) (cts_cm d) (fun x => Nat.beq x 9) (fun x i => (cond (Nat.beq x 9) (Nat.beq i 0 || Nat.beq i 1 || Nat.beq i 2 || Nat.beq i 3) false)) 30 h
theorem e_Tx_seekRing {d : Nat} {Q : Po} {σ : Hp} {t : Nat} {a1 : Int32} (hs : (t = 3)) (h : WP c_Tx_seekRing (CTs d) Q (0, [(0, .ref t), (1, .int a1)], []) σ) : CTs (d + 1) y_Tx_seekRing [.ref t, .int a1] σ Q := by
  obtain rfl := hs
  exact h
set_option maxRecDepth 20000 in
theorem t_Tx_goOn_0 {d : Nat} {Q : Po} {σ : Hp} {t : Nat} {a1 : Int32} {a2 : Int32} {a3 : Int32} (hs : (t = 3)) (h : vp_in (a1 - (1 : Int32)) 6 ∧ (vp_in (σ.1 (t + 13) (a1 - (1 : Int32)).toNatClampNeg) 16 ∧ (vp_in (0 : Int32) 6 ∧ ((if (((σ.1 (t + 8) (σ.1 (t + 13) (a1 - (1 : Int32)).toNatClampNeg).toNatClampNeg) >>> ((σ.1 (t + 13) (0 : Int32).toNatClampNeg) &&& 31)) &&& (1 : Int32)) = 0 then 
    ((if a1 < (6 : Int32) then 
      (vp_in (0 : Int32) 6 ∧ (WP c_Tx_goOn (CTs d) Q (74, [(0, .ref t), (1, .int a1), (2, .int a2), (3, .int a3), (4, .int (σ.1 (t + 13) (a1 - (1 : Int32)).toNatClampNeg)), (5, .int ((σ.1 (t + 13) (0 : Int32).toNatClampNeg) + (1 : Int32)))], []) σ))
      else 
      (vb (0 : Int32) ∧ Q (some (.int (0 : Int32))) σ)))
    else 
    ((if (((σ.1 t 16) + (1 : Int32)) - (1 : Int32)) = a3 then 
      (vb (1 : Int32) ∧ Q (some (.int (1 : Int32))) (sI (sI σ t 15 a1) t 16 ((σ.1 t 16) + (1 : Int32))))
      else 
      ((if a1 < (6 : Int32) then 
        (vp_in (0 : Int32) 6 ∧ (WP c_Tx_goOn (CTs d) Q (74, [(0, .ref t), (1, .int a1), (2, .int a2), (3, .int a3), (4, .int (σ.1 (t + 13) (a1 - (1 : Int32)).toNatClampNeg)), (5, .int ((σ.1 (t + 13) (0 : Int32).toNatClampNeg) + (1 : Int32)))], []) (sI (sI σ t 15 a1) t 16 ((σ.1 t 16) + (1 : Int32)))))
        else 
        (vb (0 : Int32) ∧ Q (some (.int (0 : Int32))) (sI (sI σ t 15 a1) t 16 ((σ.1 t 16) + (1 : Int32))))))))))))) : WP c_Tx_goOn (CTs d) Q (0, [(0, .ref t), (1, .int a1), (2, .int a2), (3, .int a3)], []) σ := by
  obtain rfl := hs
  exact wp_cut (ms_mono y_Tx_goOn) (cts_cm d) (fun x => Nat.beq x 74) (fun x i => (cond (Nat.beq x 74) (Nat.beq i 0 || Nat.beq i 1 || Nat.beq i 2 || Nat.beq i 3 || Nat.beq i 4 || Nat.beq i 5) false)) 64 h
set_option maxRecDepth 20000 in
theorem t_Tx_goOn_74 {d : Nat} {Q : Po} {σ : Hp} {t : Nat} {v1 : Int32} {v2 : Int32} {v3 : Int32} {v4 : Int32} {v5 : Int32} (hs : (t = 3)) (h : (if (σ.1 t 0) ≤ v5 then 
    (vb (0 : Int32) ∧ Q (some (.int (0 : Int32))) σ)
    else 
    (vp_in v4 16 ∧ ((if (((σ.1 (t + 8) (v4).toNatClampNeg) >>> (v5 &&& 31)) &&& (1 : Int32)) = 0 then 
      (WP c_Tx_goOn (CTs d) Q (74, [(0, .ref t), (1, .int v1), (2, .int v2), (3, .int v3), (4, .int v4), (5, .int (v5 + (1 : Int32)))], []) σ)
      else 
      ((if ((v2 >>> (v5 &&& 31)) &&& (1 : Int32)) = 0 then 
        (vp_in v1 6 ∧ (CTs d y_Tx_goOn [.ref t, .int (v1 + (1 : Int32)), .int (v2 ||| ((1 : Int32) <<< (v5 &&& 31))), .int v3] (sI σ (t + 13) (v1).toNatClampNeg v5) (fun r1 σ1 => 
          (if (oI r1) = 0 then 
            (WP c_Tx_goOn (CTs d) Q (74, [(0, .ref t), (1, .int v1), (2, .int v2), (3, .int v3), (4, .int v4), (5, .int (v5 + (1 : Int32)))], []) σ1)
            else 
            (vb (1 : Int32) ∧ Q (some (.int (1 : Int32))) σ1)))))
        else 
        (WP c_Tx_goOn (CTs d) Q (74, [(0, .ref t), (1, .int v1), (2, .int v2), (3, .int v3), (4, .int v4), (5, .int (v5 + (1 : Int32)))], []) σ)))))))) : WP c_Tx_goOn (CTs d) Q (74, [(0, .ref t), (1, .int v1), (2, .int v2), (3, .int v3), (4, .int v4), (5, .int v5)], []) σ := by
  obtain rfl := hs
  exact wp_cut (ms_mono y_Tx_goOn) (cts_cm d) (fun x => Nat.beq x 74) (fun x i => (cond (Nat.beq x 74) (Nat.beq i 0 || Nat.beq i 1 || Nat.beq i 2 || Nat.beq i 3 || Nat.beq i 4 || Nat.beq i 5) false)) 51 h
theorem e_Tx_goOn {d : Nat} {Q : Po} {σ : Hp} {t : Nat} {a1 : Int32} {a2 : Int32} {a3 : Int32} (hs : (t = 3)) (h : WP c_Tx_goOn (CTs d) Q (0, [(0, .ref t), (1, .int a1), (2, .int a2), (3, .int a3)], []) σ) : CTs (d + 1) y_Tx_goOn [.ref t, .int a1, .int a2, .int a3] σ Q := by
  obtain rfl := hs
  exact h
set_option maxRecDepth 20000 in
theorem t_Th_reads_0 {d : Nat} {Q : Po} {σ : Hp} {c : Nat} {a2 : Int32} (hs : (c = 91) ∨ (c = 92) ∨ (c = 93) ∨ (c = 94) ∨ (c = 95) ∨ (c = 96) ∨ (c = 97)) (h : CTs d y_Do_begins [.ref 88, .int (10 : Int32)] σ (fun _ σ1 => 
    Q (some (.int (a2 + (σ1.1 88 0)))) σ1)) : WP c_Th_reads (CTs d) Q (0, [(0, .ref c), (1, .ref 88), (2, .int a2)], []) σ := by
  rcases hs with rfl | rfl | rfl | rfl | rfl | rfl | rfl <;> exact wp_cut (ms_mono y_Th_reads) (cts_cm d) (fun x => false) (fun _ _ => false) 10 h
theorem e_Th_reads {d : Nat} {Q : Po} {σ : Hp} {c : Nat} {a2 : Int32} (hs : (c = 91) ∨ (c = 92) ∨ (c = 93) ∨ (c = 94) ∨ (c = 95) ∨ (c = 96) ∨ (c = 97)) (h : WP c_Th_reads (CTs d) Q (0, [(0, .ref c), (1, .ref 88), (2, .int a2)], []) σ) : CTs (d + 1) y_Th_reads [.ref c, .ref 88, .int a2] σ Q := by
  rcases hs with rfl | rfl | rfl | rfl | rfl | rfl | rfl <;> exact h
set_option maxRecDepth 20000 in
theorem t_Th_steps_0 {d : Nat} {Q : Po} {σ : Hp} {c : Nat} {a2 : Int32} (hs : (c = 91) ∨ (c = 92) ∨ (c = 93) ∨ (c = 94) ∨ (c = 95) ∨ (c = 96) ∨ (c = 97)) (h : CTs d y_Do_begins [.ref 88, .int (11 : Int32)] σ (fun _ σ1 => 
    CTs d (d_reads c) [.ref c, .ref 88, .int a2] σ1 (fun r2 σ2 => 
      Q (some (.int ((oI r2) * (2 : Int32)))) σ2))) : WP c_Th_steps (CTs d) Q (0, [(0, .ref c), (1, .ref 88), (2, .int a2)], []) σ := by
  rcases hs with rfl | rfl | rfl | rfl | rfl | rfl | rfl <;> exact wp_cut (ms_mono y_Th_steps) (cts_cm d) (fun x => false) (fun _ _ => false) 12 h
theorem e_Th_steps {d : Nat} {Q : Po} {σ : Hp} {c : Nat} {a2 : Int32} (hs : (c = 91) ∨ (c = 92) ∨ (c = 93) ∨ (c = 94) ∨ (c = 95) ∨ (c = 96) ∨ (c = 97)) (h : WP c_Th_steps (CTs d) Q (0, [(0, .ref c), (1, .ref 88), (2, .int a2)], []) σ) : CTs (d + 1) y_Th_steps [.ref c, .ref 88, .int a2] σ Q := by
  rcases hs with rfl | rfl | rfl | rfl | rfl | rfl | rfl <;> exact h
set_option maxRecDepth 20000 in
theorem t_Th_units_0 {d : Nat} {Q : Po} {σ : Hp} {c : Nat} {a2 : Int32} (hs : (c = 91) ∨ (c = 92) ∨ (c = 93) ∨ (c = 94) ∨ (c = 95) ∨ (c = 96) ∨ (c = 97)) (h : CTs d y_Do_begins [.ref 88, .int (12 : Int32)] σ (fun _ σ1 => 
    (if ((σ1.1 88 1) - (σ1.1 88 0)) = 0 then 
      (vb (1 : Int32) ∧ (Q (some (.int (0 : Int32))) (sI σ1 88 2 (1 : Int32))))
      else 
      (¬ ((σ1.1 88 1) - (σ1.1 88 0)) = 0 ∧ (Q (some (.int (a2 / ((σ1.1 88 1) - (σ1.1 88 0))))) σ1))))) : WP c_Th_units (CTs d) Q (0, [(0, .ref c), (1, .ref 88), (2, .int a2)], []) σ := by
  rcases hs with rfl | rfl | rfl | rfl | rfl | rfl | rfl <;> exact wp_cut (ms_mono y_Th_units) (cts_cm d) (fun x => false) (fun _ _ => false) 22 h
theorem e_Th_units {d : Nat} {Q : Po} {σ : Hp} {c : Nat} {a2 : Int32} (hs : (c = 91) ∨ (c = 92) ∨ (c = 93) ∨ (c = 94) ∨ (c = 95) ∨ (c = 96) ∨ (c = 97)) (h : WP c_Th_units (CTs d) Q (0, [(0, .ref c), (1, .ref 88), (2, .int a2)], []) σ) : CTs (d + 1) y_Th_units [.ref c, .ref 88, .int a2] σ Q := by
  rcases hs with rfl | rfl | rfl | rfl | rfl | rfl | rfl <;> exact h
set_option maxRecDepth 20000 in
theorem t_Th_tells_0 {d : Nat} {Q : Po} {σ : Hp} {c : Nat} {a2 : Int32} (hs : (c = 91) ∨ (c = 92) ∨ (c = 93) ∨ (c = 94) ∨ (c = 95) ∨ (c = 96) ∨ (c = 97)) (h : CTs d y_Do_begins [.ref 88, .int (13 : Int32)] σ (fun _ σ1 => 
    CTs d (d_steps c) [.ref c, .ref 88, .int a2] σ1 (fun r2 σ2 => 
      Q (some (.int ((oI r2) ^^^ (σ2.1 88 1)))) σ2))) : WP c_Th_tells (CTs d) Q (0, [(0, .ref c), (1, .ref 88), (2, .int a2)], []) σ := by
  rcases hs with rfl | rfl | rfl | rfl | rfl | rfl | rfl <;> exact wp_cut (ms_mono y_Th_tells) (cts_cm d) (fun x => false) (fun _ _ => false) 13 h
theorem e_Th_tells {d : Nat} {Q : Po} {σ : Hp} {c : Nat} {a2 : Int32} (hs : (c = 91) ∨ (c = 92) ∨ (c = 93) ∨ (c = 94) ∨ (c = 95) ∨ (c = 96) ∨ (c = 97)) (h : WP c_Th_tells (CTs d) Q (0, [(0, .ref c), (1, .ref 88), (2, .int a2)], []) σ) : CTs (d + 1) y_Th_tells [.ref c, .ref 88, .int a2] σ Q := by
  rcases hs with rfl | rfl | rfl | rfl | rfl | rfl | rfl <;> exact h
