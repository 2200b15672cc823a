set_option maxRecDepth 20000 in
theorem t_Wo_take_0 {d : Nat} {Q : Po} {σ : Hp} {w : Nat} {z : Nat}  (hs : (w = 56 ∧ z = 45) ∨ (w = 67 ∧ z = 45) ∨ (w = 45 ∧ z = 67)) (h : (¬ (0 : Int32) < 0 ∧ ¬ (0 : Int32) < 0 ∧ ¬ (6 : Int32) < 0 ∧ (0 : Int32).toNatClampNeg + (6 : Int32).toNatClampNeg ≤ 6 ∧ (0 : Int32).toNatClampNeg + (6 : Int32).toNatClampNeg ≤ 6) ∧ ((¬ (0 : Int32) < 0 ∧ ¬ (0 : Int32) < 0 ∧ ¬ (6 : Int32) < 0 ∧ (0 : Int32).toNatClampNeg + (6 : Int32).toNatClampNeg ≤ 6 ∧ (0 : Int32).toNatClampNeg + (6 : Int32).toNatClampNeg ≤ 6) ∧ ((¬ (0 : Int32) < 0 ∧ ¬ (0 : Int32) < 0 ∧ ¬ (6 : Int32) < 0 ∧ (0 : Int32).toNatClampNeg + (6 : Int32).toNatClampNeg ≤ 6 ∧ (0 : Int32).toNatClampNeg + (6 : Int32).toNatClampNeg ≤ 6) ∧ ((¬ (0 : Int32) < 0 ∧ ¬ (0 : Int32) < 0 ∧ ¬ (16 : Int32) < 0 ∧ (0 : Int32).toNatClampNeg + (16 : Int32).toNatClampNeg ≤ 16 ∧ (0 : Int32).toNatClampNeg + (16 : Int32).toNatClampNeg ≤ 16) ∧ ((¬ (0 : Int32) < 0 ∧ ¬ (0 : Int32) < 0 ∧ ¬ (16 : Int32) < 0 ∧ (0 : Int32).toNatClampNeg + (16 : Int32).toNatClampNeg ≤ 16 ∧ (0 : Int32).toNatClampNeg + (16 : Int32).toNatClampNeg ≤ 16) ∧ ((¬ (0 : Int32) < 0 ∧ ¬ (0 : Int32) < 0 ∧ ¬ (16 : Int32) < 0 ∧ (0 : Int32).toNatClampNeg + (16 : Int32).toNatClampNeg ≤ 16 ∧ (0 : Int32).toNatClampNeg + (16 : Int32).toNatClampNeg ≤ 16) ∧ ((¬ (0 : Int32) < 0 ∧ ¬ (0 : Int32) < 0 ∧ ¬ (16 : Int32) < 0 ∧ (0 : Int32).toNatClampNeg + (16 : Int32).toNatClampNeg ≤ 16 ∧ (0 : Int32).toNatClampNeg + (16 : Int32).toNatClampNeg ≤ 16) ∧ ((¬ (0 : Int32) < 0 ∧ ¬ (0 : Int32) < 0 ∧ ¬ (Int32.ofNat 144) < 0 ∧ (0 : Int32).toNatClampNeg + (Int32.ofNat 144).toNatClampNeg ≤ 144 ∧ (0 : Int32).toNatClampNeg + (Int32.ofNat 144).toNatClampNeg ≤ 144) ∧ (Q none (sC (sC (sC (sC (sC (sC (sC (sC (sI (sL (sL (sL (sI σ w 0 (σ.1 z 0)) w 1 (σ.2 z 1)) w 2 (σ.2 z 2)) w 3 (σ.2 z 3)) w 4 (σ.1 z 4)) (w + 1) (va_cpy (σ.1 (z + 1)) (σ.1 (w + 1)) (0 : Int32).toNatClampNeg (0 : Int32).toNatClampNeg (6 : Int32).toNatClampNeg)) (w + 2) (va_cpy (σ.1 (z + 2)) (σ.1 (w + 2)) (0 : Int32).toNatClampNeg (0 : Int32).toNatClampNeg (6 : Int32).toNatClampNeg)) (w + 3) (va_cpy (σ.1 (z + 3)) (σ.1 (w + 3)) (0 : Int32).toNatClampNeg (0 : Int32).toNatClampNeg (6 : Int32).toNatClampNeg)) (w + 4) (va_cpy (σ.1 (z + 4)) (σ.1 (w + 4)) (0 : Int32).toNatClampNeg (0 : Int32).toNatClampNeg (16 : Int32).toNatClampNeg)) (w + 5) (va_cpy (σ.1 (z + 5)) (σ.1 (w + 5)) (0 : Int32).toNatClampNeg (0 : Int32).toNatClampNeg (16 : Int32).toNatClampNeg)) (w + 6) (va_cpy (σ.1 (z + 6)) (σ.1 (w + 6)) (0 : Int32).toNatClampNeg (0 : Int32).toNatClampNeg (16 : Int32).toNatClampNeg)) (w + 7) (va_cpy (σ.1 (z + 7)) (σ.1 (w + 7)) (0 : Int32).toNatClampNeg (0 : Int32).toNatClampNeg (16 : Int32).toNatClampNeg)) (w + 8) (va_cpy (σ.1 (z + 8)) (σ.1 (w + 8)) (0 : Int32).toNatClampNeg (0 : Int32).toNatClampNeg (Int32.ofNat 144).toNatClampNeg))))))))))) : WP c_Wo_take (CTs d) Q (0, [(0, .ref w), (1, .ref z)], []) σ := by
  rcases hs with ⟨rfl, rfl⟩ | ⟨rfl, rfl⟩ | ⟨rfl, rfl⟩ <;> exact wp_cut (ms_mono y_Wo_take) (cts_cm d) (fun x => false) (fun _ _ => false) 89 h
theorem e_Wo_take {d : Nat} {Q : Po} {σ : Hp} {w : Nat} {z : Nat}  (hs : (w = 56 ∧ z = 45) ∨ (w = 67 ∧ z = 45) ∨ (w = 45 ∧ z = 67)) (h : WP c_Wo_take (CTs d) Q (0, [(0, .ref w), (1, .ref z)], []) σ) : CTs (d + 1) y_Wo_take [.ref w, .ref z] σ Q := by
  rcases hs with ⟨rfl, rfl⟩ | ⟨rfl, rfl⟩ | ⟨rfl, rfl⟩ <;> exact h
set_option maxRecDepth 20000 in
theorem t_Wo_restart_0 {d : Nat} {Q : Po} {σ : Hp} {w : Nat}  (hs : (w = 45) ∨ (w = 56)) (h : (¬ (0 : Int32) < 0 ∧ ¬ (0 : Int32) < 0 ∧ ¬ (16 : Int32) < 0 ∧ (0 : Int32).toNatClampNeg + (16 : Int32).toNatClampNeg ≤ 16 ∧ (0 : Int32).toNatClampNeg + (16 : Int32).toNatClampNeg ≤ 16) ∧ (CTs d y_Wo_workOut [.ref w, .ref 3] (sC (sL (sL (sL (sI σ w 0 (0 : Int32)) w 1 (0 : Int64)) w 2 (0 : Int64)) w 3 (0 : Int64)) (w + 4) (va_cpy (σ.1 6) (σ.1 (w + 4)) (0 : Int32).toNatClampNeg (0 : Int32).toNatClampNeg (16 : Int32).toNatClampNeg)) (fun _ σ1 => 
    Q none σ1))) : WP c_Wo_restart (CTs d) Q (0, [(0, .ref w), (1, .ref 3)], []) σ := by
  rcases hs with rfl | rfl <;> exact wp_cut (ms_mono y_Wo_restart) (cts_cm d) (fun x => false) (fun _ _ => false) 26 h
theorem e_Wo_restart {d : Nat} {Q : Po} {σ : Hp} {w : Nat}  (hs : (w = 45) ∨ (w = 56)) (h : WP c_Wo_restart (CTs d) Q (0, [(0, .ref w), (1, .ref 3)], []) σ) : CTs (d + 1) y_Wo_restart [.ref w, .ref 3] σ Q := by
  rcases hs with rfl | rfl <;> exact h
set_option maxRecDepth 20000 in
theorem t_Wo_hold_0 {d : Nat} {Q : Po} {σ : Hp} {w : Nat} {a2 : Int32} {a3 : Int32} (hs : (w = 45) ∨ (w = 56)) (h : vp_in a2 16 ∧ (CTs d y_Wo_workOut [.ref w, .ref 3] (sI σ (w + 4) (a2).toNatClampNeg a3) (fun _ σ1 => 
    Q none σ1))) : WP c_Wo_hold (CTs d) Q (0, [(0, .ref w), (1, .ref 3), (2, .int a2), (3, .int a3)], []) σ := by
  rcases hs with rfl | rfl <;> exact wp_cut (ms_mono y_Wo_hold) (cts_cm d) (fun x => false) (fun _ _ => false) 11 h
theorem e_Wo_hold {d : Nat} {Q : Po} {σ : Hp} {w : Nat} {a2 : Int32} {a3 : Int32} (hs : (w = 45) ∨ (w = 56)) (h : WP c_Wo_hold (CTs d) Q (0, [(0, .ref w), (1, .ref 3), (2, .int a2), (3, .int a3)], []) σ) : CTs (d + 1) y_Wo_hold [.ref w, .ref 3, .int a2, .int a3] σ Q := by
  rcases hs with rfl | rfl <;> exact h
set_option maxRecDepth 20000 in
theorem t_Wo_stored_0 {d : Nat} {Q : Po} {σ : Hp} {w : Nat}  (hs : (w = 45)) (h : WP c_Wo_stored (CTs d) Q (5, [(0, .ref w), (1, .ref 3), (2, .long (0 : Int64)), (4, .int (0 : Int32))], []) σ) : WP c_Wo_stored (CTs d) Q (0, [(0, .ref w), (1, .ref 3)], []) σ := by
  obtain rfl := hs
  exact wp_cut (ms_mono y_Wo_stored) (cts_cm d) (fun x => Nat.beq x 5) (fun x i => (cond (Nat.beq x 5) (Nat.beq i 0 || Nat.beq i 1 || Nat.beq i 2 || Nat.beq i 4) false)) 7 h
set_option maxRecDepth 20000 in
theorem t_Wo_stored_5 {d : Nat} {Q : Po} {σ : Hp} {w : Nat} {v2 : Int64} {v4 : Int32} (hs : (w = 45)) (h : (if (σ.1 3 0) ≤ v4 then 
    (Q (some (.long v2)) σ)
    else 
    (vp_in v4 16 ∧ ((if (σ.1 4 (v4).toNatClampNeg) = (1 : Int32) then 
      (vp_in v4 16 ∧ (WP c_Wo_stored (CTs d) Q (5, [(0, .ref w), (1, .ref 3), (2, .long (v2 + ((σ.1 (w + 4) (v4).toNatClampNeg)).toInt64)), (4, .int (v4 + (1 : Int32)))], []) σ))
      else 
      (WP c_Wo_stored (CTs d) Q (5, [(0, .ref w), (1, .ref 3), (2, .long v2), (4, .int (v4 + (1 : Int32)))], []) σ)))))) : WP c_Wo_stored (CTs d) Q (5, [(0, .ref w), (1, .ref 3), (2, .long v2), (4, .int v4)], []) σ := by
  obtain rfl := hs
  exact wp_cut (ms_mono y_Wo_stored) (cts_cm d) (fun x => Nat.beq x 5) (fun x i => (cond (Nat.beq x 5) (Nat.beq i 0 || Nat.beq i 1 || Nat.beq i 2 || Nat.beq i 4) false)) 28 h
theorem e_Wo_stored {d : Nat} {Q : Po} {σ : Hp} {w : Nat}  (hs : (w = 45)) (h : WP c_Wo_stored (CTs d) Q (0, [(0, .ref w), (1, .ref 3)], []) σ) : CTs (d + 1) y_Wo_stored [.ref w, .ref 3] σ Q := by
  obtain rfl := hs
  exact h
set_option maxRecDepth 20000 in
theorem t_Wo_advance_0 {d : Nat} {Q : Po} {σ : Hp} {w : Nat}  (hs : (w = 45) ∨ (w = 56)) (h : CTs d y_Wo_remember [.ref w, .ref 3] σ (fun _ σ1 => 
    CTs d y_Wo_pour [.ref w, .ref 3] σ1 (fun r2 σ2 => 
      WP c_Wo_advance (CTs d) Q (23, [(0, .ref w), (1, .ref 3), (2, .int (oI r2)), (3, .int (0 : Int32))], []) (sI σ2 w 0 ((σ2.1 w 0) + (1 : Int32)))))) : WP c_Wo_advance (CTs d) Q (0, [(0, .ref w), (1, .ref 3)], []) σ := by
  rcases hs with rfl | rfl <;> exact wp_cut (ms_mono y_Wo_advance) (cts_cm d) (fun x => Nat.beq x 23) (fun x i => (cond (Nat.beq x 23) (Nat.beq i 0 || Nat.beq i 1 || Nat.beq i 2 || Nat.beq i 3) false)) 18 h
set_option maxRecDepth 20000 in
theorem t_Wo_advance_23 {d : Nat} {Q : Po} {σ : Hp} {w : Nat} {v2 : Int32} {v3 : Int32} (hs : (w = 45) ∨ (w = 56)) (h : (if (σ.1 w 4) ≤ v3 then 
    (CTs d y_Wo_workOut [.ref w, .ref 3] σ (fun _ σ1 => 
      vb v2 ∧ Q (some (.int v2)) σ1))
    else 
    (vp_in v3 6 ∧ ((if (σ.1 (w + 1) (v3).toNatClampNeg) = (σ.1 w 0) then 
      (vp_in v3 6 ∧ (vp_in v3 6 ∧ (vp_in (σ.1 (w + 2) (v3).toNatClampNeg) 16 ∧ (WP c_Wo_advance (CTs d) Q (23, [(0, .ref w), (1, .ref 3), (2, .int v2), (3, .int (v3 + (1 : Int32)))], []) (sI σ (w + 4) (σ.1 (w + 2) (v3).toNatClampNeg).toNatClampNeg (σ.1 (w + 3) (v3).toNatClampNeg))))))
      else 
      (WP c_Wo_advance (CTs d) Q (23, [(0, .ref w), (1, .ref 3), (2, .int v2), (3, .int (v3 + (1 : Int32)))], []) σ)))))) : WP c_Wo_advance (CTs d) Q (23, [(0, .ref w), (1, .ref 3), (2, .int v2), (3, .int v3)], []) σ := by
  rcases hs with rfl | rfl <;> exact wp_cut (ms_mono y_Wo_advance) (cts_cm d) (fun x => Nat.beq x 23) (fun x i => (cond (Nat.beq x 23) (Nat.beq i 0 || Nat.beq i 1 || Nat.beq i 2 || Nat.beq i 3) false)) 35 h
theorem e_Wo_advance {d : Nat} {Q : Po} {σ : Hp} {w : Nat}  (hs : (w = 45) ∨ (w = 56)) (h : WP c_Wo_advance (CTs d) Q (0, [(0, .ref w), (1, .ref 3)], []) σ) : CTs (d + 1) y_Wo_advance [.ref w, .ref 3] σ Q := by
  rcases hs with rfl | rfl <;> exact h
set_option maxRecDepth 20000 in
theorem t_Wo_remember_0 {d : Nat} {Q : Po} {σ : Hp} {w : Nat}  (hs : (w = 45) ∨ (w = 56)) (h : WP c_Wo_remember (CTs d) Q (2, [(0, .ref w), (1, .ref 3), (2, .int (0 : Int32))], []) σ) : WP c_Wo_remember (CTs d) Q (0, [(0, .ref w), (1, .ref 3)], []) σ := by
  rcases hs with rfl | rfl <;> exact wp_cut (ms_mono y_Wo_remember) (cts_cm d) (fun x => Nat.beq x 2) (fun x i => (cond (Nat.beq x 2) (Nat.beq i 0 || Nat.beq i 1 || Nat.beq i 2) false)) 5 h
set_option maxRecDepth 20000 in
theorem t_Wo_remember_2 {d : Nat} {Q : Po} {σ : Hp} {w : Nat} {v2 : Int32} (hs : (w = 45) ∨ (w = 56)) (h : (if (σ.1 3 0) ≤ v2 then 
    (Q none σ)
    else 
    (vp_in v2 16 ∧ ((if (σ.1 4 (v2).toNatClampNeg) = (2 : Int32) then 
      (CTs d y_Wo_memorySlot [.ref w, .ref 3, .int v2] σ (fun r1 σ1 => 
        vp_in v2 16 ∧ (vp_in (oI r1) 144 ∧ (WP c_Wo_remember (CTs d) Q (2, [(0, .ref w), (1, .ref 3), (2, .int (v2 + (1 : Int32)))], []) (sI σ1 (w + 8) (oI r1).toNatClampNeg (σ1.1 (w + 7) (v2).toNatClampNeg))))))
      else 
      (WP c_Wo_remember (CTs d) Q (2, [(0, .ref w), (1, .ref 3), (2, .int (v2 + (1 : Int32)))], []) σ)))))) : WP c_Wo_remember (CTs d) Q (2, [(0, .ref w), (1, .ref 3), (2, .int v2)], []) σ := by
  rcases hs with rfl | rfl <;> exact wp_cut (ms_mono y_Wo_remember) (cts_cm d) (fun x => Nat.beq x 2) (fun x i => (cond (Nat.beq x 2) (Nat.beq i 0 || Nat.beq i 1 || Nat.beq i 2) false)) 30 h
theorem e_Wo_remember {d : Nat} {Q : Po} {σ : Hp} {w : Nat}  (hs : (w = 45) ∨ (w = 56)) (h : WP c_Wo_remember (CTs d) Q (0, [(0, .ref w), (1, .ref 3)], []) σ) : CTs (d + 1) y_Wo_remember [.ref w, .ref 3] σ Q := by
  rcases hs with rfl | rfl <;> exact h
set_option maxRecDepth 20000 in
theorem t_Wo_memorySlot_0 {d : Nat} {Q : Po} {σ : Hp} {w : Nat} {a2 : Int32} (hs : (w = 45) ∨ (w = 56)) (h : vp_in a2 16 ∧ ((if (σ.1 6 (a2).toNatClampNeg) ≤ 0 then 
    (Q (some (.int ((a2 * (9 : Int32)) + (0 : Int32)))) σ)
    else 
    ((if (9 : Int32) < (σ.1 6 (a2).toNatClampNeg) then 
      (Q (some (.int ((a2 * (9 : Int32)) + (0 : Int32)))) σ)
      else 
      (¬ (σ.1 6 (a2).toNatClampNeg) = 0 ∧ (Q (some (.int ((a2 * (9 : Int32)) + ((σ.1 w 0) - (σ.1 w 0) / (σ.1 6 (a2).toNatClampNeg) * (σ.1 6 (a2).toNatClampNeg))))) σ))))))) : WP c_Wo_memorySlot (CTs d) Q (0, [(0, .ref w), (1, .ref 3), (2, .int a2)], []) σ := by
  rcases hs with rfl | rfl <;> exact wp_cut (ms_mono y_Wo_memorySlot) (cts_cm d) (fun x => false) (fun _ _ => false) 28 h
theorem e_Wo_memorySlot {d : Nat} {Q : Po} {σ : Hp} {w : Nat} {a2 : Int32} (hs : (w = 45) ∨ (w = 56)) (h : WP c_Wo_memorySlot (CTs d) Q (0, [(0, .ref w), (1, .ref 3), (2, .int a2)], []) σ) : CTs (d + 1) y_Wo_memorySlot [.ref w, .ref 3, .int a2] σ Q := by
  rcases hs with rfl | rfl <;> exact h
set_option maxRecDepth 20000 in
theorem t_Wo_pour_0 {d : Nat} {Q : Po} {σ : Hp} {w : Nat}  (hs : (w = 45) ∨ (w = 56)) (h : WP c_Wo_pour (CTs d) Q (2, [(0, .ref w), (1, .ref 3), (2, .int (0 : Int32))], []) σ) : WP c_Wo_pour (CTs d) Q (0, [(0, .ref w), (1, .ref 3)], []) σ := by
  rcases hs with rfl | rfl <;> exact wp_cut (ms_mono y_Wo_pour) (cts_cm d) (fun x => Nat.beq x 2 || Nat.beq x 31 || Nat.beq x 65) (fun x i => (cond (Nat.beq x 65) (Nat.beq i 0 || Nat.beq i 1 || Nat.beq i 2 || Nat.beq i 3) (cond (Nat.beq x 31) (Nat.beq i 0 || Nat.beq i 1 || Nat.beq i 2) (cond (Nat.beq x 2) (Nat.beq i 0 || Nat.beq i 1 || Nat.beq i 2) false)))) 5 h
set_option maxRecDepth 20000 in
theorem t_Wo_pour_2 {d : Nat} {Q : Po} {σ : Hp} {w : Nat} {v2 : Int32} (hs : (w = 45) ∨ (w = 56)) (h : (if (σ.1 3 0) ≤ v2 then 
    (WP c_Wo_pour (CTs d) Q (31, [(0, .ref w), (1, .ref 3), (2, .int (0 : Int32))], []) σ)
    else 
    (vp_in v2 16 ∧ (vp_in v2 16 ∧ (WP c_Wo_pour (CTs d) Q (2, [(0, .ref w), (1, .ref 3), (2, .int (v2 + (1 : Int32)))], []) (sL σ (w + 9) (v2).toNatClampNeg ((σ.1 (w + 4) (v2).toNatClampNeg)).toInt64)))))) : WP c_Wo_pour (CTs d) Q (2, [(0, .ref w), (1, .ref 3), (2, .int v2)], []) σ := by
  rcases hs with rfl | rfl <;> exact wp_cut (ms_mono y_Wo_pour) (cts_cm d) (fun x => Nat.beq x 2 || Nat.beq x 31 || Nat.beq x 65) (fun x i => (cond (Nat.beq x 65) (Nat.beq i 0 || Nat.beq i 1 || Nat.beq i 2 || Nat.beq i 3) (cond (Nat.beq x 31) (Nat.beq i 0 || Nat.beq i 1 || Nat.beq i 2) (cond (Nat.beq x 2) (Nat.beq i 0 || Nat.beq i 1 || Nat.beq i 2) false)))) 21 h
set_option maxRecDepth 20000 in
theorem t_Wo_pour_31 {d : Nat} {Q : Po} {σ : Hp} {w : Nat} {v2 : Int32} (hs : (w = 45) ∨ (w = 56)) (h : (if (σ.1 3 0) ≤ v2 then 
    (WP c_Wo_pour (CTs d) Q (65, [(0, .ref w), (1, .ref 3), (2, .int (0 : Int32)), (3, .int (0 : Int32))], []) σ)
    else 
    (vp_in v2 16 ∧ ((if (σ.1 4 (v2).toNatClampNeg) = (3 : Int32) then 
      (CTs d y_Wo_pourOne [.ref w, .ref 3, .int v2] σ (fun _ σ1 => 
        WP c_Wo_pour (CTs d) Q (31, [(0, .ref w), (1, .ref 3), (2, .int (v2 + (1 : Int32)))], []) σ1))
      else 
      (WP c_Wo_pour (CTs d) Q (31, [(0, .ref w), (1, .ref 3), (2, .int (v2 + (1 : Int32)))], []) σ)))))) : WP c_Wo_pour (CTs d) Q (31, [(0, .ref w), (1, .ref 3), (2, .int v2)], []) σ := by
  rcases hs with rfl | rfl <;> exact wp_cut (ms_mono y_Wo_pour) (cts_cm d) (fun x => Nat.beq x 2 || Nat.beq x 31 || Nat.beq x 65) (fun x i => (cond (Nat.beq x 65) (Nat.beq i 0 || Nat.beq i 1 || Nat.beq i 2 || Nat.beq i 3) (cond (Nat.beq x 31) (Nat.beq i 0 || Nat.beq i 1 || Nat.beq i 2) (cond (Nat.beq x 2) (Nat.beq i 0 || Nat.beq i 1 || Nat.beq i 2) false)))) 27 h
set_option maxRecDepth 20000 in
theorem t_Wo_pour_65 {d : Nat} {Q : Po} {σ : Hp} {w : Nat} {v2 : Int32} {v3 : Int32} (hs : (w = 45) ∨ (w = 56)) (h : (if (σ.1 3 0) ≤ v3 then 
    (vb v2 ∧ Q (some (.int v2)) σ)
    else 
    (vp_in v3 16 ∧ ((if (σ.1 4 (v3).toNatClampNeg) = (1 : Int32) then 
      (vp_in v3 16 ∧ ((if (lg_cmp (σ.2 (w + 9) (v3).toNatClampNeg) (999999 : Int64)) ≤ 0 then 
        ((if v2 = 0 then 
          (vp_in v3 16 ∧ (vp_in v3 16 ∧ ((if (lg_cmp (σ.2 (w + 9) (v3).toNatClampNeg) ((σ.1 (w + 4) (v3).toNatClampNeg)).toInt64) = 0 then 
            (vp_in v3 16 ∧ (vp_in v3 16 ∧ (WP c_Wo_pour (CTs d) Q (65, [(0, .ref w), (1, .ref 3), (2, .int (0 : Int32)), (3, .int (v3 + (1 : Int32)))], []) (sI σ (w + 4) (v3).toNatClampNeg ((σ.2 (w + 9) (v3).toNatClampNeg)).toInt32))))
            else 
            (vp_in v3 16 ∧ (vp_in v3 16 ∧ (WP c_Wo_pour (CTs d) Q (65, [(0, .ref w), (1, .ref 3), (2, .int (1 : Int32)), (3, .int (v3 + (1 : Int32)))], []) (sI σ (w + 4) (v3).toNatClampNeg ((σ.2 (w + 9) (v3).toNatClampNeg)).toInt32))))))))
          else 
          (vp_in v3 16 ∧ (vp_in v3 16 ∧ (WP c_Wo_pour (CTs d) Q (65, [(0, .ref w), (1, .ref 3), (2, .int (1 : Int32)), (3, .int (v3 + (1 : Int32)))], []) (sI σ (w + 4) (v3).toNatClampNeg ((σ.2 (w + 9) (v3).toNatClampNeg)).toInt32))))))
        else 
        (vp_in v3 16 ∧ (vp_in v3 16 ∧ ((if v2 = 0 then 
          (vp_in v3 16 ∧ (vp_in v3 16 ∧ ((if (lg_cmp ((sL (sL σ w 1 ((σ.2 w 1) + ((σ.2 (w + 9) (v3).toNatClampNeg) - (999999 : Int64)))) (w + 9) (v3).toNatClampNeg (999999 : Int64)).2 (w + 9) (v3).toNatClampNeg) ((σ.1 (w + 4) (v3).toNatClampNeg)).toInt64) = 0 then 
            (vp_in v3 16 ∧ (vp_in v3 16 ∧ (WP c_Wo_pour (CTs d) Q (65, [(0, .ref w), (1, .ref 3), (2, .int (0 : Int32)), (3, .int (v3 + (1 : Int32)))], []) (sI (sL (sL σ w 1 ((σ.2 w 1) + ((σ.2 (w + 9) (v3).toNatClampNeg) - (999999 : Int64)))) (w + 9) (v3).toNatClampNeg (999999 : Int64)) (w + 4) (v3).toNatClampNeg (((sL (sL σ w 1 ((σ.2 w 1) + ((σ.2 (w + 9) (v3).toNatClampNeg) - (999999 : Int64)))) (w + 9) (v3).toNatClampNeg (999999 : Int64)).2 (w + 9) (v3).toNatClampNeg)).toInt32))))
            else 
            (vp_in v3 16 ∧ (vp_in v3 16 ∧ (WP c_Wo_pour (CTs d) Q (65, [(0, .ref w), (1, .ref 3), (2, .int (1 : Int32)), (3, .int (v3 + (1 : Int32)))], []) (sI (sL (sL σ w 1 ((σ.2 w 1) + ((σ.2 (w + 9) (v3).toNatClampNeg) - (999999 : Int64)))) (w + 9) (v3).toNatClampNeg (999999 : Int64)) (w + 4) (v3).toNatClampNeg (((sL (sL σ w 1 ((σ.2 w 1) + ((σ.2 (w + 9) (v3).toNatClampNeg) - (999999 : Int64)))) (w + 9) (v3).toNatClampNeg (999999 : Int64)).2 (w + 9) (v3).toNatClampNeg)).toInt32))))))))
          else 
          (vp_in v3 16 ∧ (vp_in v3 16 ∧ (WP c_Wo_pour (CTs d) Q (65, [(0, .ref w), (1, .ref 3), (2, .int (1 : Int32)), (3, .int (v3 + (1 : Int32)))], []) (sI (sL (sL σ w 1 ((σ.2 w 1) + ((σ.2 (w + 9) (v3).toNatClampNeg) - (999999 : Int64)))) (w + 9) (v3).toNatClampNeg (999999 : Int64)) (w + 4) (v3).toNatClampNeg (((sL (sL σ w 1 ((σ.2 w 1) + ((σ.2 (w + 9) (v3).toNatClampNeg) - (999999 : Int64)))) (w + 9) (v3).toNatClampNeg (999999 : Int64)).2 (w + 9) (v3).toNatClampNeg)).toInt32)))))))))))
      else 
      (WP c_Wo_pour (CTs d) Q (65, [(0, .ref w), (1, .ref 3), (2, .int v2), (3, .int (v3 + (1 : Int32)))], []) σ)))))) : WP c_Wo_pour (CTs d) Q (65, [(0, .ref w), (1, .ref 3), (2, .int v2), (3, .int v3)], []) σ := by
  rcases hs with rfl | rfl <;> exact wp_cut (ms_mono y_Wo_pour) (cts_cm d) (fun x => Nat.beq x 2 || Nat.beq x 31 || Nat.beq x 65) (fun x i => (cond (Nat.beq x 65) (Nat.beq i 0 || Nat.beq i 1 || Nat.beq i 2 || Nat.beq i 3) (cond (Nat.beq x 31) (Nat.beq i 0 || Nat.beq i 1 || Nat.beq i 2) (cond (Nat.beq x 2) (Nat.beq i 0 || Nat.beq i 1 || Nat.beq i 2) false)))) 155 h
theorem e_Wo_pour {d : Nat} {Q : Po} {σ : Hp} {w : Nat}  (hs : (w = 45) ∨ (w = 56)) (h : WP c_Wo_pour (CTs d) Q (0, [(0, .ref w), (1, .ref 3)], []) σ) : CTs (d + 1) y_Wo_pour [.ref w, .ref 3] σ Q := by
  rcases hs with rfl | rfl <;> exact h
set_option maxRecDepth 20000 in
theorem t_Wo_pourOne_0 {d : Nat} {Q : Po} {σ : Hp} {w : Nat} {a2 : Int32} (hs : (w = 45) ∨ (w = 56)) (h : vp_in a2 16 ∧ (vp_in a2 16 ∧ (CTs d y_Tx_has [.ref 3, .int (σ.1 7 (a2).toNatClampNeg)] σ (fun r1 σ1 => 
    (if (oI r1) = 0 then 
      (vp_in a2 16 ∧ (CTs d y_Tx_has [.ref 3, .int (σ.1 8 (a2).toNatClampNeg)] (sL σ1 w 2 ((σ1.2 w 2) + ((σ1.1 (w + 6) (a2).toNatClampNeg)).toInt64)) (fun r2 σ2 => 
        (if (oI r2) = 0 then 
          (vp_in a2 16 ∧ (Q none (sL σ2 w 3 ((σ2.2 w 3) + ((σ2.1 (w + 6) (a2).toNatClampNeg)).toInt64))))
          else 
          (vp_in (σ.1 8 (a2).toNatClampNeg) 16 ∧ (vp_in a2 16 ∧ (vp_in (σ.1 8 (a2).toNatClampNeg) 16 ∧ (Q none (sL σ2 (w + 9) (σ.1 8 (a2).toNatClampNeg).toNatClampNeg ((σ2.2 (w + 9) (σ.1 8 (a2).toNatClampNeg).toNatClampNeg) + ((σ2.1 (w + 6) (a2).toNatClampNeg)).toInt64))))))))))
      else 
      (vp_in (σ.1 7 (a2).toNatClampNeg) 16 ∧ (vp_in a2 16 ∧ (vp_in (σ.1 7 (a2).toNatClampNeg) 16 ∧ (CTs d y_Tx_has [.ref 3, .int (σ.1 8 (a2).toNatClampNeg)] (sL σ1 (w + 9) (σ.1 7 (a2).toNatClampNeg).toNatClampNeg ((σ1.2 (w + 9) (σ.1 7 (a2).toNatClampNeg).toNatClampNeg) - ((σ1.1 (w + 6) (a2).toNatClampNeg)).toInt64)) (fun r3 σ3 => 
        (if (oI r3) = 0 then 
          (vp_in a2 16 ∧ (Q none (sL σ3 w 3 ((σ3.2 w 3) + ((σ3.1 (w + 6) (a2).toNatClampNeg)).toInt64))))
          else 
          (vp_in (σ.1 8 (a2).toNatClampNeg) 16 ∧ (vp_in a2 16 ∧ (vp_in (σ.1 8 (a2).toNatClampNeg) 16 ∧ (Q none (sL σ3 (w + 9) (σ.1 8 (a2).toNatClampNeg).toNatClampNeg ((σ3.2 (w + 9) (σ.1 8 (a2).toNatClampNeg).toNatClampNeg) + ((σ3.1 (w + 6) (a2).toNatClampNeg)).toInt64))))))))))))))))) : WP c_Wo_pourOne (CTs d) Q (0, [(0, .ref w), (1, .ref 3), (2, .int a2)], []) σ := by
  rcases hs with rfl | rfl <;> exact wp_cut (ms_mono y_Wo_pourOne) (cts_cm d) (fun x => false) (fun _ _ => false) 97 h
theorem e_Wo_pourOne {d : Nat} {Q : Po} {σ : Hp} {w : Nat} {a2 : Int32} (hs : (w = 45) ∨ (w = 56)) (h : WP c_Wo_pourOne (CTs d) Q (0, [(0, .ref w), (1, .ref 3), (2, .int a2)], []) σ) : CTs (d + 1) y_Wo_pourOne [.ref w, .ref 3, .int a2] σ Q := by
  rcases hs with rfl | rfl <;> exact h
set_option maxRecDepth 20000 in
theorem t_Wo_workOut_0 {d : Nat} {Q : Po} {σ : Hp} {w : Nat}  (hs : (w = 45) ∨ (w = 56)) (h : WP c_Wo_workOut (CTs d) Q (2, [(0, .ref w), (1, .ref 3), (2, .int (0 : Int32))], []) σ) : WP c_Wo_workOut (CTs d) Q (0, [(0, .ref w), (1, .ref 3)], []) σ := by
  rcases hs with rfl | rfl <;> exact wp_cut (ms_mono y_Wo_workOut) (cts_cm d) (fun x => Nat.beq x 2) (fun x i => (cond (Nat.beq x 2) (Nat.beq i 0 || Nat.beq i 1 || Nat.beq i 2) false)) 5 h
set_option maxRecDepth 20000 in
theorem t_Wo_workOut_2 {d : Nat} {Q : Po} {σ : Hp} {w : Nat} {v2 : Int32} (hs : (w = 45) ∨ (w = 56)) (h : (if (σ.1 3 0) ≤ v2 then 
    (CTs d y_Wo_share [.ref w, .ref 3] σ (fun _ σ1 => 
      Q none σ1))
    else 
    (vp_in v2 16 ∧ ((if (σ.1 4 (v2).toNatClampNeg) = 1 then 
      (vp_in v2 16 ∧ (vp_in v2 16 ∧ (WP c_Wo_workOut (CTs d) Q (2, [(0, .ref w), (1, .ref 3), (2, .int (v2 + (1 : Int32)))], []) (sI σ (w + 5) (v2).toNatClampNeg (σ.1 (w + 4) (v2).toNatClampNeg)))))
      else if (σ.1 4 (v2).toNatClampNeg) = 2 then 
      (CTs d y_Wo_worked [.ref w, .ref 3, .int v2] σ (fun r2 σ2 => 
        vp_in v2 16 ∧ (vp_in v2 16 ∧ ((if (σ2.1 6 (v2).toNatClampNeg) ≤ (σ2.1 w 0) then 
          (CTs d y_Wo_memorySlot [.ref w, .ref 3, .int v2] (sI σ2 (w + 7) (v2).toNatClampNeg (oI r2)) (fun r3 σ3 => 
            vp_in (oI r3) 144 ∧ (vp_in v2 16 ∧ (WP c_Wo_workOut (CTs d) Q (2, [(0, .ref w), (1, .ref 3), (2, .int (v2 + (1 : Int32)))], []) (sI σ3 (w + 5) (v2).toNatClampNeg (σ3.1 (w + 8) (oI r3).toNatClampNeg))))))
          else 
          (vp_in v2 16 ∧ (WP c_Wo_workOut (CTs d) Q (2, [(0, .ref w), (1, .ref 3), (2, .int (v2 + (1 : Int32)))], []) (sI (sI σ2 (w + 7) (v2).toNatClampNeg (oI r2)) (w + 5) (v2).toNatClampNeg (0 : Int32)))))))))
      else if (σ.1 4 (v2).toNatClampNeg) = 3 then 
      (CTs d y_Wo_worked [.ref w, .ref 3, .int v2] σ (fun r4 σ4 => 
        vp_in v2 16 ∧ (WP c_Wo_workOut (CTs d) Q (2, [(0, .ref w), (1, .ref 3), (2, .int (v2 + (1 : Int32)))], []) (sI σ4 (w + 5) (v2).toNatClampNeg (if (0 : Int32) < (oI r4) then (oI r4) else (0 : Int32))))))
      else if (σ.1 4 (v2).toNatClampNeg) = 4 then 
      (vp_in v2 16 ∧ (WP c_Wo_workOut (CTs d) Q (2, [(0, .ref w), (1, .ref 3), (2, .int (v2 + (1 : Int32)))], []) (sI σ (w + 5) (v2).toNatClampNeg (0 : Int32))))
      else if (σ.1 4 (v2).toNatClampNeg) = 5 then 
      (vp_in v2 16 ∧ (vp_in v2 16 ∧ (WP c_Wo_workOut (CTs d) Q (2, [(0, .ref w), (1, .ref 3), (2, .int (v2 + (1 : Int32)))], []) (sI σ (w + 5) (v2).toNatClampNeg (σ.1 (w + 4) (v2).toNatClampNeg)))))
      else if (σ.1 4 (v2).toNatClampNeg) = 6 then 
      (CTs d y_Wo_worked [.ref w, .ref 3, .int v2] σ (fun r5 σ5 => 
        vp_in v2 16 ∧ (WP c_Wo_workOut (CTs d) Q (2, [(0, .ref w), (1, .ref 3), (2, .int (v2 + (1 : Int32)))], []) (sI σ5 (w + 5) (v2).toNatClampNeg (oI r5)))))
      else (vp_in v2 16 ∧ (WP c_Wo_workOut (CTs d) Q (2, [(0, .ref w), (1, .ref 3), (2, .int (v2 + (1 : Int32)))], []) (sI σ (w + 5) (v2).toNatClampNeg (0 : Int32))))))))) : WP c_Wo_workOut (CTs d) Q (2, [(0, .ref w), (1, .ref 3), (2, .int v2)], []) σ := by
  rcases hs with rfl | rfl <;> exact wp_cut (ms_mono y_Wo_workOut) (cts_cm d) (fun x => Nat.beq x 2) (fun x i => (cond (Nat.beq x 2) (Nat.beq i 0 || Nat.beq i 1 || Nat.beq i 2) false)) 118 h
theorem e_Wo_workOut {d : Nat} {Q : Po} {σ : Hp} {w : Nat}  (hs : (w = 45) ∨ (w = 56)) (h : WP c_Wo_workOut (CTs d) Q (0, [(0, .ref w), (1, .ref 3)], []) σ) : CTs (d + 1) y_Wo_workOut [.ref w, .ref 3] σ Q := by
  rcases hs with rfl | rfl <;> exact h
set_option maxRecDepth 20000 in
theorem t_Wo_share_0 {d : Nat} {Q : Po} {σ : Hp} {w : Nat}  (hs : (w = 45) ∨ (w = 56)) (h : CTs d y_Ar_fillL [.ref (w + 9), .long (0 : Int64)] σ (fun _ σ1 => 
    WP c_Wo_share (CTs d) Q (10, [(0, .ref w), (1, .ref 3), (2, .int (0 : Int32))], []) σ1)) : WP c_Wo_share (CTs d) Q (0, [(0, .ref w), (1, .ref 3)], []) σ := by
  rcases hs with rfl | rfl <;> exact wp_cut (ms_mono y_Wo_share) (cts_cm d) (fun x => Nat.beq x 10 || Nat.beq x 70) (fun x i => (cond (Nat.beq x 70) (Nat.beq i 0 || Nat.beq i 1 || Nat.beq i 2) (cond (Nat.beq x 10) (Nat.beq i 0 || Nat.beq i 1 || Nat.beq i 2) false))) 9 h
set_option maxRecDepth 20000 in
theorem t_Wo_share_10 {d : Nat} {Q : Po} {σ : Hp} {w : Nat} {v2 : Int32} (hs : (w = 45) ∨ (w = 56)) (h : (if (σ.1 3 0) ≤ v2 then 
    (WP c_Wo_share (CTs d) Q (70, [(0, .ref w), (1, .ref 3), (2, .int (0 : Int32))], []) σ)
    else 
    (vp_in v2 16 ∧ ((if (σ.1 4 (v2).toNatClampNeg) = (3 : Int32) then 
      (vp_in v2 16 ∧ (CTs d y_Tx_has [.ref 3, .int (σ.1 7 (v2).toNatClampNeg)] σ (fun r1 σ1 => 
        (if (oI r1) = 0 then 
          (WP c_Wo_share (CTs d) Q (10, [(0, .ref w), (1, .ref 3), (2, .int (v2 + (1 : Int32)))], []) σ1)
          else 
          (vp_in v2 16 ∧ (vp_in (σ1.1 7 (v2).toNatClampNeg) 16 ∧ (vp_in v2 16 ∧ (vp_in (σ1.1 7 (v2).toNatClampNeg) 16 ∧ (WP c_Wo_share (CTs d) Q (10, [(0, .ref w), (1, .ref 3), (2, .int (v2 + (1 : Int32)))], []) (sL σ1 (w + 9) (σ1.1 7 (v2).toNatClampNeg).toNatClampNeg ((σ1.2 (w + 9) (σ1.1 7 (v2).toNatClampNeg).toNatClampNeg) + ((σ1.1 (w + 5) (v2).toNatClampNeg)).toInt64)))))))))))
      else 
      (WP c_Wo_share (CTs d) Q (10, [(0, .ref w), (1, .ref 3), (2, .int (v2 + (1 : Int32)))], []) σ)))))) : WP c_Wo_share (CTs d) Q (10, [(0, .ref w), (1, .ref 3), (2, .int v2)], []) σ := by
  rcases hs with rfl | rfl <;> exact wp_cut (ms_mono y_Wo_share) (cts_cm d) (fun x => Nat.beq x 10 || Nat.beq x 70) (fun x i => (cond (Nat.beq x 70) (Nat.beq i 0 || Nat.beq i 1 || Nat.beq i 2) (cond (Nat.beq x 10) (Nat.beq i 0 || Nat.beq i 1 || Nat.beq i 2) false))) 46 h
set_option maxRecDepth 20000 in
theorem t_Wo_share_70 {d : Nat} {Q : Po} {σ : Hp} {w : Nat} {v2 : Int32} (hs : (w = 45) ∨ (w = 56)) (h : (if (σ.1 3 0) ≤ v2 then 
    (Q none σ)
    else 
    (vp_in v2 16 ∧ (vp_in v2 16 ∧ ((if (σ.1 4 (v2).toNatClampNeg) = (3 : Int32) then 
      (vp_in v2 16 ∧ (vp_in v2 16 ∧ (CTs d y_Wo_shareOf [.ref w, .int (σ.1 7 (v2).toNatClampNeg), .int (σ.1 (w + 5) (v2).toNatClampNeg), .ref 3] (sI σ (w + 6) (v2).toNatClampNeg (0 : Int32)) (fun r1 σ1 => 
        vp_in v2 16 ∧ (WP c_Wo_share (CTs d) Q (70, [(0, .ref w), (1, .ref 3), (2, .int (v2 + (1 : Int32)))], []) (sI σ1 (w + 6) (v2).toNatClampNeg (oI r1)))))))
      else 
      (WP c_Wo_share (CTs d) Q (70, [(0, .ref w), (1, .ref 3), (2, .int (v2 + (1 : Int32)))], []) (sI σ (w + 6) (v2).toNatClampNeg (0 : Int32))))))))) : WP c_Wo_share (CTs d) Q (70, [(0, .ref w), (1, .ref 3), (2, .int v2)], []) σ := by
  rcases hs with rfl | rfl <;> exact wp_cut (ms_mono y_Wo_share) (cts_cm d) (fun x => Nat.beq x 10 || Nat.beq x 70) (fun x i => (cond (Nat.beq x 70) (Nat.beq i 0 || Nat.beq i 1 || Nat.beq i 2) (cond (Nat.beq x 10) (Nat.beq i 0 || Nat.beq i 1 || Nat.beq i 2) false))) 39 h
theorem e_Wo_share {d : Nat} {Q : Po} {σ : Hp} {w : Nat}  (hs : (w = 45) ∨ (w = 56)) (h : WP c_Wo_share (CTs d) Q (0, [(0, .ref w), (1, .ref 3)], []) σ) : CTs (d + 1) y_Wo_share [.ref w, .ref 3] σ Q := by
  rcases hs with rfl | rfl <;> exact h
set_option maxRecDepth 20000 in
theorem t_Wo_shareOf_0 {d : Nat} {Q : Po} {σ : Hp} {w : Nat} {a1 : Int32} {a2 : Int32} (hs : (w = 45) ∨ (w = 56)) (h : CTs d y_Tx_has [.ref 3, .int a1] σ (fun r1 σ1 => 
    (if (oI r1) = 0 then 
      (Q (some (.int a2)) σ1)
      else 
      (vp_in a1 16 ∧ (vp_in a1 16 ∧ ((if (lg_cmp (σ1.2 (w + 9) (a1).toNatClampNeg) ((σ1.1 (w + 4) (a1).toNatClampNeg)).toInt64) ≤ 0 then 
        (Q (some (.int a2)) σ1)
        else 
        (vp_in a1 16 ∧ ((if 0 < (lg_cmp (σ1.2 (w + 9) (a1).toNatClampNeg) (0 : Int64)) then 
          (vp_in a1 16 ∧ (vp_in a1 16 ∧ (¬ (σ1.2 (w + 9) (a1).toNatClampNeg) = 0 ∧ (Q (some (.int ((((a2).toInt64 * ((σ1.1 (w + 4) (a1).toNatClampNeg)).toInt64) / (σ1.2 (w + 9) (a1).toNatClampNeg))).toInt32)) σ1))))
          else 
          (Q (some (.int a2)) σ1))))))))))) : WP c_Wo_shareOf (CTs d) Q (0, [(0, .ref w), (1, .int a1), (2, .int a2), (3, .ref 3)], []) σ := by
  rcases hs with rfl | rfl <;> exact wp_cut (ms_mono y_Wo_shareOf) (cts_cm d) (fun x => false) (fun _ _ => false) 45 h
theorem e_Wo_shareOf {d : Nat} {Q : Po} {σ : Hp} {w : Nat} {a1 : Int32} {a2 : Int32} (hs : (w = 45) ∨ (w = 56)) (h : WP c_Wo_shareOf (CTs d) Q (0, [(0, .ref w), (1, .int a1), (2, .int a2), (3, .ref 3)], []) σ) : CTs (d + 1) y_Wo_shareOf [.ref w, .int a1, .int a2, .ref 3] σ Q := by
  rcases hs with rfl | rfl <;> exact h
set_option maxRecDepth 20000 in
theorem t_Wo_worked_0 {d : Nat} {Q : Po} {σ : Hp} {w : Nat} {a2 : Int32} (hs : (w = 45) ∨ (w = 56)) (h : vp_in a2 16 ∧ (WP c_Wo_worked (CTs d) Q (10, [(0, .ref w), (1, .ref 3), (2, .int a2), (3, .int (0 : Int32)), (4, .int (σ.1 9 (a2).toNatClampNeg))], []) σ)) : WP c_Wo_worked (CTs d) Q (0, [(0, .ref w), (1, .ref 3), (2, .int a2)], []) σ := by
  rcases hs with rfl | rfl <;> exact wp_cut (ms_mono y_Wo_worked) (cts_cm d) (fun x => Nat.beq x 10) (fun x i => (cond (Nat.beq x 10) (Nat.beq i 0 || Nat.beq i 1 || Nat.beq i 2 || Nat.beq i 3 || Nat.beq i 4) false)) 10 h
set_option maxRecDepth 20000 in
theorem t_Wo_worked_10 {d : Nat} {Q : Po} {σ : Hp} {w : Nat} {v2 : Int32} {v3 : Int32} {v4 : Int32} (hs : (w = 45) ∨ (w = 56)) (h : vp_in v2 16 ∧ ((if (σ.1 10 (v2).toNatClampNeg) ≤ v4 then 
    ((if (1 : Int32) ≤ v3 then 
      (vp_in (0 : Int32) 32 ∧ (Q (some (.int (σ.1 (w + 10) (0 : Int32).toNatClampNeg))) σ))
      else 
      (Q (some (.int (0 : Int32))) σ)))
    else 
    (vp_in v4 300 ∧ (vp_in v4 300 ∧ ((if (1 : Int32) < ((σ.1 15 (v4).toNatClampNeg) &&& (15 : Int32)) then 
      ((if (3 : Int32) < ((σ.1 15 (v4).toNatClampNeg) &&& (15 : Int32)) then 
        ((if (2 : Int32) ≤ v3 then 
          (vp_in ((v3 + (-1 : Int32)) - (1 : Int32)) 32 ∧ (vp_in (v3 + (-1 : Int32)) 32 ∧ (CTs d y_Wo_joined [.int ((σ.1 15 (v4).toNatClampNeg) &&& (15 : Int32)), .int (σ.1 (w + 10) ((v3 + (-1 : Int32)) - (1 : Int32)).toNatClampNeg), .int (σ.1 (w + 10) (v3 + (-1 : Int32)).toNatClampNeg)] σ (fun r1 σ1 => 
            vp_in ((v3 + (-1 : Int32)) - (1 : Int32)) 32 ∧ (WP c_Wo_worked (CTs d) Q (10, [(0, .ref w), (1, .ref 3), (2, .int v2), (3, .int (v3 + (-1 : Int32))), (4, .int (v4 + (1 : Int32)))], []) (sI σ1 (w + 10) ((v3 + (-1 : Int32)) - (1 : Int32)).toNatClampNeg (oI r1)))))))
          else 
          (Q (some (.int (0 : Int32))) σ)))
        else 
        ((if (1 : Int32) ≤ v3 then 
          ((if ((σ.1 15 (v4).toNatClampNeg) &&& (15 : Int32)) = (2 : Int32) then 
            (vp_in (v3 - (1 : Int32)) 32 ∧ (vp_in (v3 - (1 : Int32)) 32 ∧ (WP c_Wo_worked (CTs d) Q (10, [(0, .ref w), (1, .ref 3), (2, .int v2), (3, .int v3), (4, .int (v4 + (1 : Int32)))], []) (sI σ (w + 10) (v3 - (1 : Int32)).toNatClampNeg (-(σ.1 (w + 10) (v3 - (1 : Int32)).toNatClampNeg))))))
            else 
            (vp_in (v3 - (1 : Int32)) 32 ∧ (CTs d y_Tx_look [.ref 3, .int ((σ.1 15 (v4).toNatClampNeg) >>> ((4 : Int32) &&& 31)), .int (σ.1 (w + 10) (v3 - (1 : Int32)).toNatClampNeg)] σ (fun r2 σ2 => 
              vp_in (v3 - (1 : Int32)) 32 ∧ (WP c_Wo_worked (CTs d) Q (10, [(0, .ref w), (1, .ref 3), (2, .int v2), (3, .int v3), (4, .int (v4 + (1 : Int32)))], []) (sI σ2 (w + 10) (v3 - (1 : Int32)).toNatClampNeg (oI r2))))))))
          else 
          (Q (some (.int (0 : Int32))) σ)))))
      else 
      ((if v3 < (32 : Int32) then 
        ((if ((σ.1 15 (v4).toNatClampNeg) &&& (15 : Int32)) = 0 then 
          (vp_in v3 32 ∧ (WP c_Wo_worked (CTs d) Q (10, [(0, .ref w), (1, .ref 3), (2, .int v2), (3, .int (v3 + (1 : Int32))), (4, .int (v4 + (1 : Int32)))], []) (sI σ (w + 10) (v3).toNatClampNeg ((σ.1 15 (v4).toNatClampNeg) >>> ((4 : Int32) &&& 31)))))
          else 
          (vp_in ((σ.1 15 (v4).toNatClampNeg) >>> ((4 : Int32) &&& 31)) 16 ∧ (vp_in v3 32 ∧ (WP c_Wo_worked (CTs d) Q (10, [(0, .ref w), (1, .ref 3), (2, .int v2), (3, .int (v3 + (1 : Int32))), (4, .int (v4 + (1 : Int32)))], []) (sI σ (w + 10) (v3).toNatClampNeg (σ.1 (w + 5) ((σ.1 15 (v4).toNatClampNeg) >>> ((4 : Int32) &&& 31)).toNatClampNeg)))))))
        else 
        (Q (some (.int (0 : Int32))) σ)))))))))) : WP c_Wo_worked (CTs d) Q (10, [(0, .ref w), (1, .ref 3), (2, .int v2), (3, .int v3), (4, .int v4)], []) σ := by
  rcases hs with rfl | rfl <;> exact wp_cut (ms_mono y_Wo_worked) (cts_cm d) (fun x => Nat.beq x 10) (fun x i => (cond (Nat.beq x 10) (Nat.beq i 0 || Nat.beq i 1 || Nat.beq i 2 || Nat.beq i 3 || Nat.beq i 4) false)) 134 h
theorem e_Wo_worked {d : Nat} {Q : Po} {σ : Hp} {w : Nat} {a2 : Int32} (hs : (w = 45) ∨ (w = 56)) (h : WP c_Wo_worked (CTs d) Q (0, [(0, .ref w), (1, .ref 3), (2, .int a2)], []) σ) : CTs (d + 1) y_Wo_worked [.ref w, .ref 3, .int a2] σ Q := by
  rcases hs with rfl | rfl <;> exact h
set_option maxRecDepth 20000 in
theorem t_Wo_joined_0 {d : Nat} {Q : Po} {σ : Hp}  {a0 : Int32} {a1 : Int32} {a2 : Int32}  (h : (if a0 = 4 then 
    (Q (some (.int (a1 + a2))) σ)
    else if a0 = 5 then 
    (Q (some (.int (a1 - a2))) σ)
    else if a0 = 6 then 
    (Q (some (.int (a1 * a2))) σ)
    else if a0 = 7 then 
    ((if a2 = 0 then 
      (Q (some (.int (0 : Int32))) σ)
      else 
      (¬ a2 = 0 ∧ (Q (some (.int (a1 / a2))) σ))))
    else if a0 = 8 then 
    ((if a2 ≤ a1 then 
      (Q (some (.int (0 : Int32))) σ)
      else 
      (Q (some (.int (1 : Int32))) σ)))
    else if a0 = 9 then 
    ((if a1 = a2 then 
      (Q (some (.int (1 : Int32))) σ)
      else 
      (Q (some (.int (0 : Int32))) σ)))
    else (Q (some (.int (if a2 < a1 then a2 else a1))) σ))) : WP c_Wo_joined (CTs d) Q (0, [(0, .int a0), (1, .int a1), (2, .int a2)], []) σ := wp_cut (ms_mono y_Wo_joined) (cts_cm d) (fun x => false) (fun _ _ => false) 45 h
theorem e_Wo_joined {d : Nat} {Q : Po} {σ : Hp}  {a0 : Int32} {a1 : Int32} {a2 : Int32}  (h : WP c_Wo_joined (CTs d) Q (0, [(0, .int a0), (1, .int a1), (2, .int a2)], []) σ) : CTs (d + 1) y_Wo_joined [.int a0, .int a1, .int a2] σ Q := h
set_option maxRecDepth 20000 in
theorem t_SS_feed_0 {d : Nat} {Q : Po} {σ : Hp}  {a1 : Int64} {a3 : Int32}  (h : (if a3 < (1 : Int32) then 
    (Q (some (.int (-1 : Int32))) σ)
    else 
    ((if a3 ≤ (8 : Int32) then 
      ((if ((σ.1 1 1) + a3) ≤ (300 : Int32) then 
        (WP c_SS_feed (CTs d) Q (34, [(0, .ref 0), (1, .long a1), (3, .int a3), (4, .int (0 : Int32))], []) σ)
        else 
        (Q (some (.int (-2 : Int32))) σ)))
      else 
      (Q (some (.int (-1 : Int32))) σ))))) : WP c_SS_feed (CTs d) Q (0, [(0, .ref 0), (1, .long a1), (3, .int a3)], []) σ := wp_cut (ms_mono y_SS_feed) (cts_cm d) (fun x => Nat.beq x 34) (fun x i => (cond (Nat.beq x 34) (Nat.beq i 0 || Nat.beq i 1 || Nat.beq i 3 || Nat.beq i 4) false)) 24 h
set_option maxRecDepth 20000 in
theorem t_SS_feed_34 {d : Nat} {Q : Po} {σ : Hp}  {v1 : Int64} {v3 : Int32} {v4 : Int32}  (h : (if v3 ≤ v4 then 
    (Q (some (.int ((σ.1 1 1) + v3))) (sI σ 1 1 ((σ.1 1 1) + v3)))
    else 
    (vp_in ((σ.1 1 1) + v4) 300 ∧ (WP c_SS_feed (CTs d) Q (34, [(0, .ref 0), (1, .long v1), (3, .int v3), (4, .int (v4 + (1 : Int32)))], []) (sI σ 2 ((σ.1 1 1) + v4).toNatClampNeg ((((v1.toUInt64 >>> (((8 : Int32) * v4).toInt64.toUInt64 &&& Int64.toUInt64 63)).toInt64)).toInt32 &&& (255 : Int32))))))) : WP c_SS_feed (CTs d) Q (34, [(0, .ref 0), (1, .long v1), (3, .int v3), (4, .int v4)], []) σ := wp_cut (ms_mono y_SS_feed) (cts_cm d) (fun x => Nat.beq x 34) (fun x i => (cond (Nat.beq x 34) (Nat.beq i 0 || Nat.beq i 1 || Nat.beq i 3 || Nat.beq i 4) false)) 36 h
theorem e_SS_feed {d : Nat} {Q : Po} {σ : Hp}  {a1 : Int64} {a3 : Int32}  (h : WP c_SS_feed (CTs d) Q (0, [(0, .ref 0), (1, .long a1), (3, .int a3)], []) σ) : CTs (d + 1) y_SS_feed [.ref 0, .long a1, .int a3] σ Q := h
set_option maxRecDepth 20000 in
theorem t_SS_fault_0 {d : Nat} {Q : Po} {σ : Hp}  {a1 : Int32}  (h : (if a1 = 0 then 
    (Q (some (.int (σ.1 1 2))) σ)
    else 
    ((if a1 = (1 : Int32) then 
      (Q (some (.int (σ.1 1 3))) σ)
      else 
      (Q (some (.int (-1 : Int32))) σ))))) : WP c_SS_fault (CTs d) Q (0, [(0, .ref 0), (1, .int a1)], []) σ := wp_cut (ms_mono y_SS_fault) (cts_cm d) (fun x => false) (fun _ _ => false) 18 h
theorem e_SS_fault {d : Nat} {Q : Po} {σ : Hp}  {a1 : Int32}  (h : WP c_SS_fault (CTs d) Q (0, [(0, .ref 0), (1, .int a1)], []) σ) : CTs (d + 1) y_SS_fault [.ref 0, .int a1] σ Q := h
set_option maxRecDepth 20000 in
theorem t_SS_named_0 {d : Nat} {Q : Po} {σ : Hp}  {a1 : Int32}  (h : CTs d y_Tx_find [.ref 3, .int a1] σ (fun r1 σ1 => 
    (if 0 ≤ (oI r1) then 
      (Q (some (.int (oI r1))) σ1)
      else 
      (Q (some (.int (-3 : Int32))) σ1)))) : WP c_SS_named (CTs d) Q (0, [(0, .ref 0), (1, .int a1)], []) σ := wp_cut (ms_mono y_SS_named) (cts_cm d) (fun x => false) (fun _ _ => false) 14 h
theorem e_SS_named {d : Nat} {Q : Po} {σ : Hp}  {a1 : Int32}  (h : WP c_SS_named (CTs d) Q (0, [(0, .ref 0), (1, .int a1)], []) σ) : CTs (d + 1) y_SS_named [.ref 0, .int a1] σ Q := h
set_option maxRecDepth 20000 in
theorem t_SS_thing_0 {d : Nat} {Q : Po} {σ : Hp}  {a1 : Int32} {a2 : Int32}  (h : CTs d y_Tx_has [.ref 3, .int a1] σ (fun r1 σ1 => 
    (if (oI r1) = 0 then 
      (Q (some (.int (-1 : Int32))) σ1)
      else 
      ((if a2 = 0 then 
        (vp_in a1 16 ∧ (Q (some (.int (σ1.1 4 (a1).toNatClampNeg))) σ1))
        else if a2 = 1 then 
        (vp_in a1 16 ∧ (Q (some (.int (σ1.1 5 (a1).toNatClampNeg))) σ1))
        else if a2 = 2 then 
        (vp_in a1 16 ∧ (Q (some (.int (σ1.1 7 (a1).toNatClampNeg))) σ1))
        else if a2 = 3 then 
        (vp_in a1 16 ∧ (Q (some (.int (σ1.1 8 (a1).toNatClampNeg))) σ1))
        else (Q (some (.int (-1 : Int32))) σ1)))))) : WP c_SS_thing (CTs d) Q (0, [(0, .ref 0), (1, .int a1), (2, .int a2)], []) σ := wp_cut (ms_mono y_SS_thing) (cts_cm d) (fun x => false) (fun _ _ => false) 37 h
theorem e_SS_thing {d : Nat} {Q : Po} {σ : Hp}  {a1 : Int32} {a2 : Int32}  (h : WP c_SS_thing (CTs d) Q (0, [(0, .ref 0), (1, .int a1), (2, .int a2)], []) σ) : CTs (d + 1) y_SS_thing [.ref 0, .int a1, .int a2] σ Q := h
set_option maxRecDepth 20000 in
theorem t_SS_value_0 {d : Nat} {Q : Po} {σ : Hp}  {a1 : Int32}  (h : CTs d y_Tx_has [.ref 3, .int a1] σ (fun r1 σ1 => 
    (if (oI r1) = 0 then 
      (Q (some (.int (-2147483648 : Int32))) σ1)
      else 
      (vp_in a1 16 ∧ (Q (some (.int (σ1.1 50 (a1).toNatClampNeg))) σ1))))) : WP c_SS_value (CTs d) Q (0, [(0, .ref 0), (1, .int a1)], []) σ := wp_cut (ms_mono y_SS_value) (cts_cm d) (fun x => false) (fun _ _ => false) 16 h
theorem e_SS_value {d : Nat} {Q : Po} {σ : Hp}  {a1 : Int32}  (h : WP c_SS_value (CTs d) Q (0, [(0, .ref 0), (1, .int a1)], []) σ) : CTs (d + 1) y_SS_value [.ref 0, .int a1] σ Q := h
set_option maxRecDepth 20000 in
theorem t_SS_at_0 {d : Nat} {Q : Po} {σ : Hp}  {a1 : Int32} {a2 : Int32}  (h : CTs d y_Tx_has [.ref 3, .int a1] σ (fun r1 σ1 => 
    (if (oI r1) = 0 then 
      (Q (some (.int (-2147483648 : Int32))) σ1)
      else 
      ((if a2 < 0 then 
        (Q (some (.int (-2147483648 : Int32))) σ1)
        else 
        ((if (σ1.1 45 0) < a2 then 
          (Q (some (.int (-2147483648 : Int32))) σ1)
          else 
          (CTs d y_SS_valueThen [.ref 0, .int a1, .int a2] σ1 (fun r2 σ2 => 
            Q (some (.int (oI r2))) σ2))))))))) : WP c_SS_at (CTs d) Q (0, [(0, .ref 0), (1, .int a1), (2, .int a2)], []) σ := wp_cut (ms_mono y_SS_at) (cts_cm d) (fun x => false) (fun _ _ => false) 26 h
theorem e_SS_at {d : Nat} {Q : Po} {σ : Hp}  {a1 : Int32} {a2 : Int32}  (h : WP c_SS_at (CTs d) Q (0, [(0, .ref 0), (1, .int a1), (2, .int a2)], []) σ) : CTs (d + 1) y_SS_at [.ref 0, .int a1, .int a2] σ Q := h
set_option maxRecDepth 20000 in
theorem t_SS_flow_0 {d : Nat} {Q : Po} {σ : Hp}  {a1 : Int32} {a2 : Int32}  (h : CTs d y_Tx_has [.ref 3, .int a1] σ (fun r1 σ1 => 
    (if (oI r1) = 0 then 
      (Q (some (.int (-1 : Int32))) σ1)
      else 
      ((if a2 < 0 then 
        (Q (some (.int (-1 : Int32))) σ1)
        else 
        ((if a2 ≤ (1 : Int32) then 
          (vp_in a1 16 ∧ ((if (σ1.1 4 (a1).toNatClampNeg) = (3 : Int32) then 
            ((if a2 = 0 then 
              (vp_in a1 16 ∧ (Q (some (.int (σ1.1 51 (a1).toNatClampNeg))) σ1))
              else 
              (vp_in a1 16 ∧ (vp_in a1 16 ∧ (Q (some (.int ((σ1.1 50 (a1).toNatClampNeg) - (σ1.1 51 (a1).toNatClampNeg)))) σ1)))))
            else 
            (Q (some (.int (-13 : Int32))) σ1))))
          else 
          (Q (some (.int (-1 : Int32))) σ1)))))))) : WP c_SS_flow (CTs d) Q (0, [(0, .ref 0), (1, .int a1), (2, .int a2)], []) σ := wp_cut (ms_mono y_SS_flow) (cts_cm d) (fun x => false) (fun _ _ => false) 48 h
theorem e_SS_flow {d : Nat} {Q : Po} {σ : Hp}  {a1 : Int32} {a2 : Int32}  (h : WP c_SS_flow (CTs d) Q (0, [(0, .ref 0), (1, .int a1), (2, .int a2)], []) σ) : CTs (d + 1) y_SS_flow [.ref 0, .int a1, .int a2] σ Q := h
set_option maxRecDepth 20000 in
theorem t_SS_run_0 {d : Nat} {Q : Po} {σ : Hp}  {a1 : Int32}  (h : (if a1 < (1 : Int32) then 
    (Q (some (.int (-1 : Int32))) σ)
    else 
    ((if a1 ≤ (60 : Int32) then 
      ((if ((σ.1 45 0) + a1) ≤ (60 : Int32) then 
        (WP c_SS_run (CTs d) Q (32, [(0, .ref 0), (1, .int a1), (2, .int (0 : Int32))], []) σ)
        else 
        (Q (some (.int (-2 : Int32))) σ)))
      else 
      (Q (some (.int (-1 : Int32))) σ))))) : WP c_SS_run (CTs d) Q (0, [(0, .ref 0), (1, .int a1)], []) σ := wp_cut (ms_mono y_SS_run) (cts_cm d) (fun x => Nat.beq x 32) (fun x i => (cond (Nat.beq x 32) (Nat.beq i 0 || Nat.beq i 1 || Nat.beq i 2) false)) 24 h
set_option maxRecDepth 20000 in
theorem t_SS_run_32 {d : Nat} {Q : Po} {σ : Hp}  {v1 : Int32} {v2 : Int32}  (h : (if v1 ≤ v2 then 
    (Q (some (.int (σ.1 45 0))) σ)
    else 
    ((¬ (0 : Int32) < 0 ∧ ¬ ((σ.1 45 0) * (16 : Int32)) < 0 ∧ ¬ (16 : Int32) < 0 ∧ (0 : Int32).toNatClampNeg + (16 : Int32).toNatClampNeg ≤ 16 ∧ ((σ.1 45 0) * (16 : Int32)).toNatClampNeg + (16 : Int32).toNatClampNeg ≤ 976) ∧ (CTs d y_Wo_advance [.ref 45, .ref 3] (sC σ 78 (va_cpy (σ.1 50) (σ.1 78) (0 : Int32).toNatClampNeg ((σ.1 45 0) * (16 : Int32)).toNatClampNeg (16 : Int32).toNatClampNeg)) (fun r1 σ1 => 
      WP c_SS_run (CTs d) Q (32, [(0, .ref 0), (1, .int v1), (2, .int (v2 + (1 : Int32)))], []) σ1))))) : WP c_SS_run (CTs d) Q (32, [(0, .ref 0), (1, .int v1), (2, .int v2)], []) σ := wp_cut (ms_mono y_SS_run) (cts_cm d) (fun x => Nat.beq x 32) (fun x i => (cond (Nat.beq x 32) (Nat.beq i 0 || Nat.beq i 1 || Nat.beq i 2) false)) 31 h
theorem e_SS_run {d : Nat} {Q : Po} {σ : Hp}  {a1 : Int32}  (h : WP c_SS_run (CTs d) Q (0, [(0, .ref 0), (1, .int a1)], []) σ) : CTs (d + 1) y_SS_run [.ref 0, .int a1] σ Q := h
set_option maxRecDepth 20000 in
theorem t_SS_begin_0 {d : Nat} {Q : Po} {σ : Hp}    (h : CTs d y_Wo_restart [.ref 45, .ref 3] σ (fun _ σ1 => 
    Q (some (.int (σ.1 45 0))) σ1)) : WP c_SS_begin (CTs d) Q (0, [(0, .ref 0)], []) σ := wp_cut (ms_mono y_SS_begin) (cts_cm d) (fun x => false) (fun _ _ => false) 13 h
theorem e_SS_begin {d : Nat} {Q : Po} {σ : Hp}    (h : WP c_SS_begin (CTs d) Q (0, [(0, .ref 0)], []) σ) : CTs (d + 1) y_SS_begin [.ref 0] σ Q := h
set_option maxRecDepth 20000 in
theorem t_SS_change_0 {d : Nat} {Q : Po} {σ : Hp}  {a1 : Int32} {a2 : Int32}  (h : CTs d y_Tx_is [.ref 3, .int a1, .int (5 : Int32)] σ (fun r1 σ1 => 
    (if (oI r1) = 0 then 
      (Q (some (.int (-2147483648 : Int32))) σ1)
      else 
      (vp_in a1 16 ∧ (CTs d y_Wo_hold [.ref 45, .ref 3, .int a1, .int a2] σ1 (fun _ σ2 => 
        Q (some (.int (σ1.1 49 (a1).toNatClampNeg))) σ2)))))) : WP c_SS_change (CTs d) Q (0, [(0, .ref 0), (1, .int a1), (2, .int a2)], []) σ := wp_cut (ms_mono y_SS_change) (cts_cm d) (fun x => false) (fun _ _ => false) 25 h
theorem e_SS_change {d : Nat} {Q : Po} {σ : Hp}  {a1 : Int32} {a2 : Int32}  (h : WP c_SS_change (CTs d) Q (0, [(0, .ref 0), (1, .int a1), (2, .int a2)], []) σ) : CTs (d + 1) y_SS_change [.ref 0, .int a1, .int a2] σ Q := h
set_option maxRecDepth 20000 in
theorem t_SS_event_0 {d : Nat} {Q : Po} {σ : Hp}  {a1 : Int32} {a2 : Int32} {a3 : Int32}  (h : (if a1 ≤ (σ.1 45 0) then 
    (Q (some (.int (-1 : Int32))) σ)
    else 
    ((if (60 : Int32) < a1 then 
      (Q (some (.int (-1 : Int32))) σ)
      else 
      (CTs d y_Tx_has [.ref 3, .int a2] σ (fun r1 σ1 => 
        (if (oI r1) = 0 then 
          (Q (some (.int (-1 : Int32))) σ1)
          else 
          (vp_in a2 16 ∧ ((if (σ1.1 4 (a2).toNatClampNeg) = (5 : Int32) then 
            ((if (σ1.1 45 4) < (6 : Int32) then 
              (vp_in (σ1.1 45 4) 6 ∧ (vp_in (σ1.1 45 4) 6 ∧ (vp_in (σ1.1 45 4) 6 ∧ (Q (some (.int (σ1.1 45 4))) (sI (sI (sI (sI σ1 46 (σ1.1 45 4).toNatClampNeg a1) 47 (σ1.1 45 4).toNatClampNeg a2) 48 (σ1.1 45 4).toNatClampNeg a3) 45 4 ((σ1.1 45 4) + (1 : Int32)))))))
              else 
              (Q (some (.int (-2 : Int32))) σ1)))
            else 
            (Q (some (.int (-13 : Int32))) σ1))))))))))) : WP c_SS_event (CTs d) Q (0, [(0, .ref 0), (1, .int a1), (2, .int a2), (3, .int a3)], []) σ := wp_cut (ms_mono y_SS_event) (cts_cm d) (fun x => false) (fun _ _ => false) 68 h
theorem e_SS_event {d : Nat} {Q : Po} {σ : Hp}  {a1 : Int32} {a2 : Int32} {a3 : Int32}  (h : WP c_SS_event (CTs d) Q (0, [(0, .ref 0), (1, .int a1), (2, .int a2), (3, .int a3)], []) σ) : CTs (d + 1) y_SS_event [.ref 0, .int a1, .int a2, .int a3] σ Q := h
set_option maxRecDepth 20000 in
theorem t_SS_sum_0 {d : Nat} {Q : Po} {σ : Hp}  {a1 : Int32}  (h : (if a1 = 0 then 
    (CTs d y_Wo_stored [.ref 45, .ref 3] σ (fun r1 σ1 => 
      Q (some (.long (oL r1))) σ1))
    else if a1 = 1 then 
    (Q (some (.long (σ.2 45 1))) σ)
    else if a1 = 2 then 
    (Q (some (.long (σ.2 45 2))) σ)
    else if a1 = 3 then 
    (Q (some (.long (σ.2 45 3))) σ)
    else (Q (some (.long (-1 : Int64))) σ))) : WP c_SS_sum (CTs d) Q (0, [(0, .ref 0), (1, .int a1)], []) σ := wp_cut (ms_mono y_SS_sum) (cts_cm d) (fun x => false) (fun _ _ => false) 24 h
theorem e_SS_sum {d : Nat} {Q : Po} {σ : Hp}  {a1 : Int32}  (h : WP c_SS_sum (CTs d) Q (0, [(0, .ref 0), (1, .int a1)], []) σ) : CTs (d + 1) y_SS_sum [.ref 0, .int a1] σ Q := h
set_option maxRecDepth 20000 in
theorem t_SS_moves_0 {d : Nat} {Q : Po} {σ : Hp}  {a1 : Int32}  (h : CTs d y_Tx_has [.ref 3, .int a1] σ (fun r1 σ1 => 
    (if (oI r1) = 0 then 
      (Q (some (.int (-1 : Int32))) σ1)
      else 
      (vp_in a1 16 ∧ (Q (some (.int (σ1.1 11 (a1).toNatClampNeg))) σ1))))) : WP c_SS_moves (CTs d) Q (0, [(0, .ref 0), (1, .int a1)], []) σ := wp_cut (ms_mono y_SS_moves) (cts_cm d) (fun x => false) (fun _ _ => false) 16 h
theorem e_SS_moves {d : Nat} {Q : Po} {σ : Hp}  {a1 : Int32}  (h : WP c_SS_moves (CTs d) Q (0, [(0, .ref 0), (1, .int a1)], []) σ) : CTs (d + 1) y_SS_moves [.ref 0, .int a1] σ Q := h
set_option maxRecDepth 20000 in
theorem t_SS_reached_0 {d : Nat} {Q : Po} {σ : Hp}  {a1 : Int32}  (h : CTs d y_Tx_has [.ref 3, .int a1] σ (fun r1 σ1 => 
    (if (oI r1) = 0 then 
      (Q (some (.int (-1 : Int32))) σ1)
      else 
      (CTs d y_Tx_allMovedBy [.ref 3, .int a1] σ1 (fun r2 σ2 => 
        Q (some (.int (oI r2))) σ2))))) : WP c_SS_reached (CTs d) Q (0, [(0, .ref 0), (1, .int a1)], []) σ := wp_cut (ms_mono y_SS_reached) (cts_cm d) (fun x => false) (fun _ _ => false) 15 h
theorem e_SS_reached {d : Nat} {Q : Po} {σ : Hp}  {a1 : Int32}  (h : WP c_SS_reached (CTs d) Q (0, [(0, .ref 0), (1, .int a1)], []) σ) : CTs (d + 1) y_SS_reached [.ref 0, .int a1] σ Q := h
set_option maxRecDepth 20000 in
theorem t_SS_rings_0 {d : Nat} {Q : Po} {σ : Hp}    (h : CTs d y_Tx_seekRing [.ref 3, .int (-1 : Int32)] σ (fun r1 σ1 => 
    Q (some (.int (oI r1))) σ1)) : WP c_SS_rings (CTs d) Q (0, [(0, .ref 0)], []) σ := wp_cut (ms_mono y_SS_rings) (cts_cm d) (fun x => false) (fun _ _ => false) 7 h
theorem e_SS_rings {d : Nat} {Q : Po} {σ : Hp}    (h : WP c_SS_rings (CTs d) Q (0, [(0, .ref 0)], []) σ) : CTs (d + 1) y_SS_rings [.ref 0] σ Q := h
set_option maxRecDepth 20000 in
theorem t_SS_ring_0 {d : Nat} {Q : Po} {σ : Hp}  {a1 : Int32} {a2 : Int32}  (h : (if (-1 : Int32) ≤ a2 then 
    ((if a1 < 0 then 
      (Q (some (.int (-3 : Int32))) σ)
      else 
      (CTs d y_Tx_seekRing [.ref 3, .int a1] σ (fun r1 σ1 => 
        (if a1 < (oI r1) then 
          ((if a2 = (-1 : Int32) then 
            (Q (some (.int (σ1.1 3 15))) σ1)
            else 
            ((if (σ1.1 3 15) ≤ a2 then 
              (Q (some (.int (-3 : Int32))) σ1)
              else 
              (vp_in a2 6 ∧ (Q (some (.int (σ1.1 16 (a2).toNatClampNeg))) σ1))))))
          else 
          (Q (some (.int (-3 : Int32))) σ1))))))
    else 
    (Q (some (.int (-1 : Int32))) σ))) : WP c_SS_ring (CTs d) Q (0, [(0, .ref 0), (1, .int a1), (2, .int a2)], []) σ := wp_cut (ms_mono y_SS_ring) (cts_cm d) (fun x => false) (fun _ _ => false) 40 h
theorem e_SS_ring {d : Nat} {Q : Po} {σ : Hp}  {a1 : Int32} {a2 : Int32}  (h : WP c_SS_ring (CTs d) Q (0, [(0, .ref 0), (1, .int a1), (2, .int a2)], []) σ) : CTs (d + 1) y_SS_ring [.ref 0, .int a1, .int a2] σ Q := h
set_option maxRecDepth 20000 in
theorem t_SS_rest_0 {d : Nat} {Q : Po} {σ : Hp}  {a1 : Int32}  (h : (if a1 < 0 then 
    (Q (some (.int (-1 : Int32))) σ)
    else 
    ((if a1 ≤ (200 : Int32) then 
      (CTs d y_Wo_take [.ref 56, .ref 45] σ (fun _ σ1 => 
        WP c_SS_rest (CTs d) Q (26, [(0, .ref 0), (1, .int a1), (2, .int (0 : Int32))], []) σ1))
      else 
      (Q (some (.int (-1 : Int32))) σ))))) : WP c_SS_rest (CTs d) Q (0, [(0, .ref 0), (1, .int a1)], []) σ := wp_cut (ms_mono y_SS_rest) (cts_cm d) (fun x => Nat.beq x 26) (fun x i => (cond (Nat.beq x 26) (Nat.beq i 0 || Nat.beq i 1 || Nat.beq i 2) false)) 19 h
set_option maxRecDepth 20000 in
theorem t_SS_rest_26 {d : Nat} {Q : Po} {σ : Hp}  {v1 : Int32} {v2 : Int32}  (h : (if v1 < v2 then 
    (Q (some (.int (-3 : Int32))) σ)
    else 
    (CTs d y_Wo_advance [.ref 56, .ref 3] σ (fun r1 σ1 => 
      (if (oI r1) = 0 then 
        (Q (some (.int v2)) σ1)
        else 
        (WP c_SS_rest (CTs d) Q (26, [(0, .ref 0), (1, .int v1), (2, .int (v2 + (1 : Int32)))], []) σ1)))))) : WP c_SS_rest (CTs d) Q (26, [(0, .ref 0), (1, .int v1), (2, .int v2)], []) σ := wp_cut (ms_mono y_SS_rest) (cts_cm d) (fun x => Nat.beq x 26) (fun x i => (cond (Nat.beq x 26) (Nat.beq i 0 || Nat.beq i 1 || Nat.beq i 2) false)) 18 h
theorem e_SS_rest {d : Nat} {Q : Po} {σ : Hp}  {a1 : Int32}  (h : WP c_SS_rest (CTs d) Q (0, [(0, .ref 0), (1, .int a1)], []) σ) : CTs (d + 1) y_SS_rest [.ref 0, .int a1] σ Q := h
set_option maxRecDepth 20000 in
theorem t_SS_swing_0 {d : Nat} {Q : Po} {σ : Hp}  {a1 : Int32} {a2 : Int32}  (h : (if a1 < 0 then 
    (Q (some (.int (-1 : Int32))) σ)
    else 
    ((if (60 : Int32) < a1 then 
      (Q (some (.int (-1 : Int32))) σ)
      else 
      ((if a2 < 0 then 
        (Q (some (.int (-1 : Int32))) σ)
        else 
        ((if a2 ≤ (1 : Int32) then 
          (CTs d y_Wo_take [.ref 56, .ref 45] σ (fun _ σ1 => 
            (¬ (0 : Int32) < 0 ∧ ¬ (0 : Int32) < 0 ∧ ¬ (16 : Int32) < 0 ∧ (0 : Int32).toNatClampNeg + (16 : Int32).toNatClampNeg ≤ 16 ∧ (0 : Int32).toNatClampNeg + (16 : Int32).toNatClampNeg ≤ 976) ∧ (WP c_SS_swing (CTs d) Q (52, [(0, .ref 0), (1, .int a1), (2, .int a2), (3, .int (1 : Int32))], []) (sC σ1 79 (va_cpy (σ1.1 60) (σ1.1 79) (0 : Int32).toNatClampNeg (0 : Int32).toNatClampNeg (16 : Int32).toNatClampNeg)))))
          else 
          (Q (some (.int (-1 : Int32))) σ))))))))) : WP c_SS_swing (CTs d) Q (0, [(0, .ref 0), (1, .int a1), (2, .int a2)], []) σ := wp_cut (ms_mono y_SS_swing) (cts_cm d) (fun x => Nat.beq x 52 || Nat.beq x 95) (fun x i => (cond (Nat.beq x 95) (Nat.beq i 0 || Nat.beq i 1 || Nat.beq i 2 || Nat.beq i 3 || Nat.beq i 4) (cond (Nat.beq x 52) (Nat.beq i 0 || Nat.beq i 1 || Nat.beq i 2 || Nat.beq i 3) false))) 37 h
set_option maxRecDepth 20000 in
theorem t_SS_swing_52 {d : Nat} {Q : Po} {σ : Hp}  {v1 : Int32} {v2 : Int32} {v3 : Int32}  (h : (if v1 < v3 then 
    (Q (some (.int (-3 : Int32))) σ)
    else 
    (CTs d y_Wo_advance [.ref 56, .ref 3] σ (fun r1 σ1 => 
      (¬ (0 : Int32) < 0 ∧ ¬ (v3 * (16 : Int32)) < 0 ∧ ¬ (16 : Int32) < 0 ∧ (0 : Int32).toNatClampNeg + (16 : Int32).toNatClampNeg ≤ 16 ∧ (v3 * (16 : Int32)).toNatClampNeg + (16 : Int32).toNatClampNeg ≤ 976) ∧ (WP c_SS_swing (CTs d) Q (95, [(0, .ref 0), (1, .int v1), (2, .int v2), (3, .int v3), (4, .int (v3 - (1 : Int32)))], []) (sC σ1 79 (va_cpy (σ1.1 60) (σ1.1 79) (0 : Int32).toNatClampNeg (v3 * (16 : Int32)).toNatClampNeg (16 : Int32).toNatClampNeg))))))) : WP c_SS_swing (CTs d) Q (52, [(0, .ref 0), (1, .int v1), (2, .int v2), (3, .int v3)], []) σ := wp_cut (ms_mono y_SS_swing) (cts_cm d) (fun x => Nat.beq x 52 || Nat.beq x 95) (fun x i => (cond (Nat.beq x 95) (Nat.beq i 0 || Nat.beq i 1 || Nat.beq i 2 || Nat.beq i 3 || Nat.beq i 4) (cond (Nat.beq x 52) (Nat.beq i 0 || Nat.beq i 1 || Nat.beq i 2 || Nat.beq i 3) false))) 29 h
set_option maxRecDepth 20000 in
theorem t_SS_swing_95 {d : Nat} {Q : Po} {σ : Hp}  {v1 : Int32} {v2 : Int32} {v3 : Int32} {v4 : Int32}  (h : (if v4 < 0 then 
    (WP c_SS_swing (CTs d) Q (52, [(0, .ref 0), (1, .int v1), (2, .int v2), (3, .int (v3 + (1 : Int32)))], []) σ)
    else 
    (CTs d y_SS_sameStores [.ref 0, .int v3, .int v4] σ (fun r1 σ1 => 
      (if (oI r1) = 0 then 
        (WP c_SS_swing (CTs d) Q (95, [(0, .ref 0), (1, .int v1), (2, .int v2), (3, .int v3), (4, .int (v4 + (-1 : Int32)))], []) σ1)
        else 
        ((if v2 = 0 then 
          (Q (some (.int v3)) σ1)
          else 
          (Q (some (.int (v3 - v4))) σ1)))))))) : WP c_SS_swing (CTs d) Q (95, [(0, .ref 0), (1, .int v1), (2, .int v2), (3, .int v3), (4, .int v4)], []) σ := wp_cut (ms_mono y_SS_swing) (cts_cm d) (fun x => Nat.beq x 52 || Nat.beq x 95) (fun x i => (cond (Nat.beq x 95) (Nat.beq i 0 || Nat.beq i 1 || Nat.beq i 2 || Nat.beq i 3 || Nat.beq i 4) (cond (Nat.beq x 52) (Nat.beq i 0 || Nat.beq i 1 || Nat.beq i 2 || Nat.beq i 3) false))) 24 h
theorem e_SS_swing {d : Nat} {Q : Po} {σ : Hp}  {a1 : Int32} {a2 : Int32}  (h : WP c_SS_swing (CTs d) Q (0, [(0, .ref 0), (1, .int a1), (2, .int a2)], []) σ) : CTs (d + 1) y_SS_swing [.ref 0, .int a1, .int a2] σ Q := h
set_option maxRecDepth 20000 in
theorem t_SS_pull_0 {d : Nat} {Q : Po} {σ : Hp}  {a1 : Int32} {a2 : Int32} {a3 : Int32} {a4 : Int32}  (h : CTs d y_Tx_is [.ref 3, .int a1, .int (5 : Int32)] σ (fun r1 σ1 => 
    (if (oI r1) = 0 then 
      (Q (some (.int (-2147483648 : Int32))) σ1)
      else 
      (CTs d y_Tx_has [.ref 3, .int a3] σ1 (fun r2 σ2 => 
        (if (oI r2) = 0 then 
          (Q (some (.int (-2147483648 : Int32))) σ2)
          else 
          ((if a4 < 0 then 
            (Q (some (.int (-2147483648 : Int32))) σ2)
            else 
            ((if a4 ≤ (60 : Int32) then 
              (vp_in a1 16 ∧ (CTs d y_SS_valueBehind [.ref 0, .int a1, .int ((σ2.1 49 (a1).toNatClampNeg) + a2), .int a3, .int a4] σ2 (fun r3 σ3 => 
                CTs d y_SS_valueBehind [.ref 0, .int a1, .int (σ2.1 49 (a1).toNatClampNeg), .int a3, .int a4] σ3 (fun r4 σ4 => 
                  Q (some (.int ((oI r3) - (oI r4)))) σ4))))
              else 
              (Q (some (.int (-2147483648 : Int32))) σ2))))))))))) : WP c_SS_pull (CTs d) Q (0, [(0, .ref 0), (1, .int a1), (2, .int a2), (3, .int a3), (4, .int a4)], []) σ := wp_cut (ms_mono y_SS_pull) (cts_cm d) (fun x => false) (fun _ _ => false) 48 h
theorem e_SS_pull {d : Nat} {Q : Po} {σ : Hp}  {a1 : Int32} {a2 : Int32} {a3 : Int32} {a4 : Int32}  (h : WP c_SS_pull (CTs d) Q (0, [(0, .ref 0), (1, .int a1), (2, .int a2), (3, .int a3), (4, .int a4)], []) σ) : CTs (d + 1) y_SS_pull [.ref 0, .int a1, .int a2, .int a3, .int a4] σ Q := h
set_option maxRecDepth 20000 in
theorem t_SS_best_0 {d : Nat} {Q : Po} {σ : Hp}  {a1 : Int32} {a2 : Int32} {a3 : Int32} {a4 : Int32} {a5 : Int32}  (h : CTs d y_SS_mayTry [.ref 0, .int a1, .int a2, .int a3, .int a4] σ (fun r1 σ1 => 
    (if (oI r1) = 0 then 
      (Q (some (.int (-2147483648 : Int32))) σ1)
      else 
      ((if a5 < 0 then 
        (Q (some (.int (-2147483648 : Int32))) σ1)
        else 
        ((if a5 ≤ (60 : Int32) then 
          (CTs d y_SS_valueBehind [.ref 0, .int a1, .int a2, .int a4, .int a5] σ1 (fun r2 σ2 => 
            WP c_SS_best (CTs d) Q (45, [(0, .ref 0), (1, .int a1), (2, .int a2), (3, .int a3), (4, .int a4), (5, .int a5), (6, .int a2), (7, .int (oI r2)), (8, .int (1 : Int32))], []) σ2))
          else 
          (Q (some (.int (-2147483648 : Int32))) σ1)))))))) : WP c_SS_best (CTs d) Q (0, [(0, .ref 0), (1, .int a1), (2, .int a2), (3, .int a3), (4, .int a4), (5, .int a5)], []) σ := wp_cut (ms_mono y_SS_best) (cts_cm d) (fun x => Nat.beq x 45) (fun x i => (cond (Nat.beq x 45) (Nat.beq i 0 || Nat.beq i 1 || Nat.beq i 2 || Nat.beq i 3 || Nat.beq i 4 || Nat.beq i 5 || Nat.beq i 6 || Nat.beq i 7 || Nat.beq i 8) false)) 32 h
set_option maxRecDepth 20000 in
theorem t_SS_best_45 {d : Nat} {Q : Po} {σ : Hp}  {v1 : Int32} {v2 : Int32} {v3 : Int32} {v4 : Int32} {v5 : Int32} {v6 : Int32} {v7 : Int32} {v8 : Int32}  (h : (if (v3 - v2) < v8 then 
    (Q (some (.int v6)) σ)
    else 
    (CTs d y_SS_valueBehind [.ref 0, .int v1, .int (v2 + v8), .int v4, .int v5] σ (fun r1 σ1 => 
      (if (oI r1) ≤ v7 then 
        (WP c_SS_best (CTs d) Q (45, [(0, .ref 0), (1, .int v1), (2, .int v2), (3, .int v3), (4, .int v4), (5, .int v5), (6, .int v6), (7, .int v7), (8, .int (v8 + (1 : Int32)))], []) σ1)
        else 
        (WP c_SS_best (CTs d) Q (45, [(0, .ref 0), (1, .int v1), (2, .int v2), (3, .int v3), (4, .int v4), (5, .int v5), (6, .int (v2 + v8)), (7, .int (oI r1)), (8, .int (v8 + (1 : Int32)))], []) σ1)))))) : WP c_SS_best (CTs d) Q (45, [(0, .ref 0), (1, .int v1), (2, .int v2), (3, .int v3), (4, .int v4), (5, .int v5), (6, .int v6), (7, .int v7), (8, .int v8)], []) σ := wp_cut (ms_mono y_SS_best) (cts_cm d) (fun x => Nat.beq x 45) (fun x i => (cond (Nat.beq x 45) (Nat.beq i 0 || Nat.beq i 1 || Nat.beq i 2 || Nat.beq i 3 || Nat.beq i 4 || Nat.beq i 5 || Nat.beq i 6 || Nat.beq i 7 || Nat.beq i 8) false)) 33 h
theorem e_SS_best {d : Nat} {Q : Po} {σ : Hp}  {a1 : Int32} {a2 : Int32} {a3 : Int32} {a4 : Int32} {a5 : Int32}  (h : WP c_SS_best (CTs d) Q (0, [(0, .ref 0), (1, .int a1), (2, .int a2), (3, .int a3), (4, .int a4), (5, .int a5)], []) σ) : CTs (d + 1) y_SS_best [.ref 0, .int a1, .int a2, .int a3, .int a4, .int a5] σ Q := h
set_option maxRecDepth 20000 in
theorem t_SS_miss_0 {d : Nat} {Q : Po} {σ : Hp}  {a1 : Int32} {a2 : Int32}  (h : CTs d y_Tx_has [.ref 3, .int a1] σ (fun r1 σ1 => 
    (if (oI r1) = 0 then 
      (Q (some (.long (-1 : Int64))) σ1)
      else 
      (CTs d y_SS_isSheet [.ref 0, .int a2] σ1 (fun r2 σ2 => 
        (if (oI r2) = 0 then 
          (Q (some (.long (-1 : Int64))) σ2)
          else 
          (vp_in a1 16 ∧ ((if (σ2.1 4 (a1).toNatClampNeg) = (1 : Int32) then 
            (CTs d y_SS_mayBe [.ref 0, .int a2, .int (2 : Int32)] σ2 (fun r3 σ3 => 
              (if (oI r3) = 0 then 
                (Q (some (.long (-13 : Int64))) σ3)
                else 
                (CTs d y_SS_isMissing [.ref 0, .int a2] σ3 (fun r4 σ4 => 
                  (if (oI r4) = 0 then 
                    (CTs d y_SS_missWith [.ref 0, .int (-1 : Int32), .int (0 : Int32), .int a1, .int a2] σ4 (fun r5 σ5 => 
                      Q (some (.long (oL r5))) σ5))
                    else 
                    (Q (some (.long (-11 : Int64))) σ4)))))))
            else 
            (Q (some (.long (-13 : Int64))) σ2)))))))))) : WP c_SS_miss (CTs d) Q (0, [(0, .ref 0), (1, .int a1), (2, .int a2)], []) σ := wp_cut (ms_mono y_SS_miss) (cts_cm d) (fun x => false) (fun _ _ => false) 44 h
theorem e_SS_miss {d : Nat} {Q : Po} {σ : Hp}  {a1 : Int32} {a2 : Int32}  (h : WP c_SS_miss (CTs d) Q (0, [(0, .ref 0), (1, .int a1), (2, .int a2)], []) σ) : CTs (d + 1) y_SS_miss [.ref 0, .int a1, .int a2] σ Q := h
set_option maxRecDepth 20000 in
theorem t_SS_fit_0 {d : Nat} {Q : Po} {σ : Hp}  {a1 : Int32} {a2 : Int32} {a3 : Int32} {a4 : Int32} {a5 : Int32}  (h : CTs d y_SS_mayTry [.ref 0, .int a1, .int a2, .int a3, .int a4] σ (fun r1 σ1 => 
    (if (oI r1) = 0 then 
      (Q (some (.int (-2147483648 : Int32))) σ1)
      else 
      (CTs d y_SS_isSheet [.ref 0, .int a5] σ1 (fun r2 σ2 => 
        (if (oI r2) = 0 then 
          (Q (some (.int (-2147483648 : Int32))) σ2)
          else 
          (vp_in a5 4 ∧ ((if (σ2.1 82 (a5).toNatClampNeg) = (2 : Int32) then 
            (CTs d y_SS_missWith [.ref 0, .int a1, .int a2, .int a4, .int a5] σ2 (fun r3 σ3 => 
              WP c_SS_fit (CTs d) Q (53, [(0, .ref 0), (1, .int a1), (2, .int a2), (3, .int a3), (4, .int a4), (5, .int a5), (6, .int a2), (7, .long (oL r3)), (9, .int (1 : Int32))], []) σ3))
            else 
            (Q (some (.int (-2147483648 : Int32))) σ2)))))))))) : WP c_SS_fit (CTs d) Q (0, [(0, .ref 0), (1, .int a1), (2, .int a2), (3, .int a3), (4, .int a4), (5, .int a5)], []) σ := wp_cut (ms_mono y_SS_fit) (cts_cm d) (fun x => Nat.beq x 53) (fun x i => (cond (Nat.beq x 53) (Nat.beq i 0 || Nat.beq i 1 || Nat.beq i 2 || Nat.beq i 3 || Nat.beq i 4 || Nat.beq i 5 || Nat.beq i 6 || Nat.beq i 7 || Nat.beq i 9) false)) 37 h
set_option maxRecDepth 20000 in
theorem t_SS_fit_53 {d : Nat} {Q : Po} {σ : Hp}  {v1 : Int32} {v2 : Int32} {v3 : Int32} {v4 : Int32} {v5 : Int32} {v6 : Int32} {v7 : Int64} {v9 : Int32}  (h : (if (v3 - v2) < v9 then 
    (Q (some (.int v6)) σ)
    else 
    (CTs d y_SS_missWith [.ref 0, .int v1, .int (v2 + v9), .int v4, .int v5] σ (fun r1 σ1 => 
      (if 0 ≤ (lg_cmp (oL r1) v7) then 
        (WP c_SS_fit (CTs d) Q (53, [(0, .ref 0), (1, .int v1), (2, .int v2), (3, .int v3), (4, .int v4), (5, .int v5), (6, .int v6), (7, .long v7), (9, .int (v9 + (1 : Int32)))], []) σ1)
        else 
        (WP c_SS_fit (CTs d) Q (53, [(0, .ref 0), (1, .int v1), (2, .int v2), (3, .int v3), (4, .int v4), (5, .int v5), (6, .int (v2 + v9)), (7, .long (oL r1)), (9, .int (v9 + (1 : Int32)))], []) σ1)))))) : WP c_SS_fit (CTs d) Q (53, [(0, .ref 0), (1, .int v1), (2, .int v2), (3, .int v3), (4, .int v4), (5, .int v5), (6, .int v6), (7, .long v7), (9, .int v9)], []) σ := wp_cut (ms_mono y_SS_fit) (cts_cm d) (fun x => Nat.beq x 53) (fun x i => (cond (Nat.beq x 53) (Nat.beq i 0 || Nat.beq i 1 || Nat.beq i 2 || Nat.beq i 3 || Nat.beq i 4 || Nat.beq i 5 || Nat.beq i 6 || Nat.beq i 7 || Nat.beq i 9) false)) 34 h
theorem e_SS_fit {d : Nat} {Q : Po} {σ : Hp}  {a1 : Int32} {a2 : Int32} {a3 : Int32} {a4 : Int32} {a5 : Int32}  (h : WP c_SS_fit (CTs d) Q (0, [(0, .ref 0), (1, .int a1), (2, .int a2), (3, .int a3), (4, .int a4), (5, .int a5)], []) σ) : CTs (d + 1) y_SS_fit [.ref 0, .int a1, .int a2, .int a3, .int a4, .int a5] σ Q := h
set_option maxRecDepth 20000 in
theorem t_SS_prove_0 {d : Nat} {Q : Po} {σ : Hp}  {a1 : Int32}  (h : CTs d y_Tx_has [.ref 3, .int a1] σ (fun r1 σ1 => 
    (if (oI r1) = 0 then 
      (Q (some (.int (-1 : Int32))) σ1)
      else 
      (WP c_SS_prove (CTs d) Q (28, [(0, .ref 0), (1, .int a1), (2, .int (0 : Int32))], []) (sI σ1 0 10 ((σ1.1 45 0) + (1 : Int32))))))) : WP c_SS_prove (CTs d) Q (0, [(0, .ref 0), (1, .int a1)], []) σ := wp_cut (ms_mono y_SS_prove) (cts_cm d) (fun x => Nat.beq x 28) (fun x i => (cond (Nat.beq x 28) (Nat.beq i 0 || Nat.beq i 1 || Nat.beq i 2) false)) 19 h
set_option maxRecDepth 20000 in
theorem t_SS_prove_28 {d : Nat} {Q : Po} {σ : Hp}  {v1 : Int32} {v2 : Int32}  (h : (if (σ.1 0 10) ≤ v2 then 
    (Q (some (.int (σ.1 0 10))) σ)
    else 
    (vp_in ((2 : Int32) * v2) 122 ∧ (CTs d y_SS_valueThen [.ref 0, .int v1, .int v2] (sI σ 81 ((2 : Int32) * v2).toNatClampNeg v2) (fun r1 σ1 => 
      vp_in (((2 : Int32) * v2) + (1 : Int32)) 122 ∧ (WP c_SS_prove (CTs d) Q (28, [(0, .ref 0), (1, .int v1), (2, .int (v2 + (1 : Int32)))], []) (sI σ1 81 (((2 : Int32) * v2) + (1 : Int32)).toNatClampNeg (oI r1)))))))) : WP c_SS_prove (CTs d) Q (28, [(0, .ref 0), (1, .int v1), (2, .int v2)], []) σ := wp_cut (ms_mono y_SS_prove) (cts_cm d) (fun x => Nat.beq x 28) (fun x i => (cond (Nat.beq x 28) (Nat.beq i 0 || Nat.beq i 1 || Nat.beq i 2) false)) 31 h
theorem e_SS_prove {d : Nat} {Q : Po} {σ : Hp}  {a1 : Int32}  (h : WP c_SS_prove (CTs d) Q (0, [(0, .ref 0), (1, .int a1)], []) σ) : CTs (d + 1) y_SS_prove [.ref 0, .int a1] σ Q := h
set_option maxRecDepth 20000 in
theorem t_SS_row_0 {d : Nat} {Q : Po} {σ : Hp}  {a1 : Int32} {a2 : Int32}  (h : CTs d y_SS_isRow [.ref 0, .int a1, .int a2] σ (fun r1 σ1 => 
    (if (oI r1) = 0 then 
      (Q (some (.int (-2147483648 : Int32))) σ1)
      else 
      (vp_in (((2 : Int32) * a1) + a2) 122 ∧ (Q (some (.int (σ1.1 81 (((2 : Int32) * a1) + a2).toNatClampNeg))) σ1))))) : WP c_SS_row (CTs d) Q (0, [(0, .ref 0), (1, .int a1), (2, .int a2)], []) σ := wp_cut (ms_mono y_SS_row) (cts_cm d) (fun x => false) (fun _ _ => false) 19 h
theorem e_SS_row {d : Nat} {Q : Po} {σ : Hp}  {a1 : Int32} {a2 : Int32}  (h : WP c_SS_row (CTs d) Q (0, [(0, .ref 0), (1, .int a1), (2, .int a2)], []) σ) : CTs (d + 1) y_SS_row [.ref 0, .int a1, .int a2] σ Q := h
set_option maxRecDepth 20000 in
theorem t_SS_alterRow_0 {d : Nat} {Q : Po} {σ : Hp}  {a1 : Int32} {a2 : Int32} {a3 : Int32}  (h : CTs d y_SS_isRow [.ref 0, .int a1, .int a2] σ (fun r1 σ1 => 
    (if (oI r1) = 0 then 
      (Q (some (.int (-2147483648 : Int32))) σ1)
      else 
      (vp_in (((2 : Int32) * a1) + a2) 122 ∧ (vp_in (((2 : Int32) * a1) + a2) 122 ∧ (Q (some (.int (σ1.1 81 (((2 : Int32) * a1) + a2).toNatClampNeg))) (sI σ1 81 (((2 : Int32) * a1) + a2).toNatClampNeg a3))))))) : WP c_SS_alterRow (CTs d) Q (0, [(0, .ref 0), (1, .int a1), (2, .int a2), (3, .int a3)], []) σ := wp_cut (ms_mono y_SS_alterRow) (cts_cm d) (fun x => false) (fun _ _ => false) 29 h
theorem e_SS_alterRow {d : Nat} {Q : Po} {σ : Hp}  {a1 : Int32} {a2 : Int32} {a3 : Int32}  (h : WP c_SS_alterRow (CTs d) Q (0, [(0, .ref 0), (1, .int a1), (2, .int a2), (3, .int a3)], []) σ) : CTs (d + 1) y_SS_alterRow [.ref 0, .int a1, .int a2, .int a3] σ Q := h
set_option maxRecDepth 20000 in
theorem t_SS_judge_0 {d : Nat} {Q : Po} {σ : Hp}  {a1 : Int32}  (h : CTs d y_Tx_has [.ref 3, .int a1] σ (fun r1 σ1 => 
    (if (oI r1) = 0 then 
      (Q (some (.int (-1 : Int32))) σ1)
      else 
      (WP c_SS_judge (CTs d) Q (15, [(0, .ref 0), (1, .int a1), (2, .int (0 : Int32))], []) σ1)))) : WP c_SS_judge (CTs d) Q (0, [(0, .ref 0), (1, .int a1)], []) σ := wp_cut (ms_mono y_SS_judge) (cts_cm d) (fun x => Nat.beq x 15) (fun x i => (cond (Nat.beq x 15) (Nat.beq i 0 || Nat.beq i 1 || Nat.beq i 2) false)) 12 h
set_option maxRecDepth 20000 in
theorem t_SS_judge_15 {d : Nat} {Q : Po} {σ : Hp}  {v1 : Int32} {v2 : Int32}  (h : (if (σ.1 0 10) ≤ v2 then 
    ((if (σ.1 45 0) < (σ.1 0 10) then 
      (Q (some (.int (0 : Int32))) σ)
      else 
      (Q (some (.int (222 : Int32))) σ)))
    else 
    (vp_in ((2 : Int32) * v2) 122 ∧ ((if (σ.1 81 ((2 : Int32) * v2).toNatClampNeg) = v2 then 
      ((if (σ.1 45 0) < v2 then 
        (Q (some (.int (v2 + (1 : Int32)))) σ)
        else 
        (vp_in (((2 : Int32) * v2) + (1 : Int32)) 122 ∧ (CTs d y_SS_valueThen [.ref 0, .int v1, .int v2] σ (fun r1 σ1 => 
          (if (σ.1 81 (((2 : Int32) * v2) + (1 : Int32)).toNatClampNeg) = (oI r1) then 
            (WP c_SS_judge (CTs d) Q (15, [(0, .ref 0), (1, .int v1), (2, .int (v2 + (1 : Int32)))], []) σ1)
            else 
            (Q (some (.int (v2 + (1 : Int32)))) σ1)))))))
      else 
      (Q (some (.int (v2 + (1 : Int32)))) σ)))))) : WP c_SS_judge (CTs d) Q (15, [(0, .ref 0), (1, .int v1), (2, .int v2)], []) σ := wp_cut (ms_mono y_SS_judge) (cts_cm d) (fun x => Nat.beq x 15) (fun x i => (cond (Nat.beq x 15) (Nat.beq i 0 || Nat.beq i 1 || Nat.beq i 2) false)) 58 h
theorem e_SS_judge {d : Nat} {Q : Po} {σ : Hp}  {a1 : Int32}  (h : WP c_SS_judge (CTs d) Q (0, [(0, .ref 0), (1, .int a1)], []) σ) : CTs (d + 1) y_SS_judge [.ref 0, .int a1] σ Q := h
set_option maxRecDepth 20000 in
theorem t_SS_sheet_0 {d : Nat} {Q : Po} {σ : Hp}  {a1 : Int32} {a2 : Int32} {a3 : Int32}  (h : CTs d y_SS_isSheet [.ref 0, .int a1] σ (fun r1 σ1 => 
    (if (oI r1) = 0 then 
      (Q (some (.int (-1 : Int32))) σ1)
      else 
      ((if a2 < (-1 : Int32) then 
        (Q (some (.int (-1 : Int32))) σ1)
        else 
        ((if a2 ≤ (3 : Int32) then 
          ((if a2 = (-1 : Int32) then 
            (vp_in a1 4 ∧ ((if a2 = (-1 : Int32) then 
              (vp_in a1 4 ∧ (CTs d y_Ar_fill [.ref 84, .int (a1 * (40 : Int32)), .int ((a1 + (1 : Int32)) * (40 : Int32)), .int (0 : Int32)] (sI (sI σ1 82 (a1).toNatClampNeg a2) 83 (a1).toNatClampNeg (0 : Int32)) (fun _ σ3 => 
                Q (some (.int (1 : Int32))) σ3)))
              else 
              (vp_in a1 4 ∧ (CTs d y_Ar_fill [.ref 84, .int (a1 * (40 : Int32)), .int ((a1 + (1 : Int32)) * (40 : Int32)), .int (0 : Int32)] (sI (sI σ1 82 (a1).toNatClampNeg a2) 83 (a1).toNatClampNeg a3) (fun _ σ2 => 
                Q (some (.int (1 : Int32))) σ2))))))
            else 
            ((if a3 ≤ (40 : Int32) then 
              ((if 0 ≤ a3 then 
                (vp_in a1 4 ∧ ((if a2 = (-1 : Int32) then 
                  (vp_in a1 4 ∧ (CTs d y_Ar_fill [.ref 84, .int (a1 * (40 : Int32)), .int ((a1 + (1 : Int32)) * (40 : Int32)), .int (0 : Int32)] (sI (sI σ1 82 (a1).toNatClampNeg a2) 83 (a1).toNatClampNeg (0 : Int32)) (fun _ σ5 => 
                    Q (some (.int (1 : Int32))) σ5)))
                  else 
                  (vp_in a1 4 ∧ (CTs d y_Ar_fill [.ref 84, .int (a1 * (40 : Int32)), .int ((a1 + (1 : Int32)) * (40 : Int32)), .int (0 : Int32)] (sI (sI σ1 82 (a1).toNatClampNeg a2) 83 (a1).toNatClampNeg a3) (fun _ σ4 => 
                    Q (some (.int (1 : Int32))) σ4))))))
                else 
                (Q (some (.int (-14 : Int32))) σ1)))
              else 
              (Q (some (.int (-1 : Int32))) σ1)))))
          else 
          (Q (some (.int (-1 : Int32))) σ1)))))))) : WP c_SS_sheet (CTs d) Q (0, [(0, .ref 0), (1, .int a1), (2, .int a2), (3, .int a3)], []) σ := wp_cut (ms_mono y_SS_sheet) (cts_cm d) (fun x => false) (fun _ _ => false) 118 h
theorem e_SS_sheet {d : Nat} {Q : Po} {σ : Hp}  {a1 : Int32} {a2 : Int32} {a3 : Int32}  (h : WP c_SS_sheet (CTs d) Q (0, [(0, .ref 0), (1, .int a1), (2, .int a2), (3, .int a3)], []) σ) : CTs (d + 1) y_SS_sheet [.ref 0, .int a1, .int a2, .int a3] σ Q := h
set_option maxRecDepth 20000 in
theorem t_SS_put_0 {d : Nat} {Q : Po} {σ : Hp}  {a1 : Int32} {a2 : Int32} {a3 : Int32}  (h : CTs d y_SS_isSheet [.ref 0, .int a1] σ (fun r1 σ1 => 
    (if (oI r1) = 0 then 
      (Q (some (.int (-1 : Int32))) σ1)
      else 
      (CTs d y_SS_isMissing [.ref 0, .int a1] σ1 (fun r2 σ2 => 
        (if (oI r2) = 0 then 
          ((if a2 < 0 then 
            (Q (some (.int (-12 : Int32))) σ2)
            else 
            (vp_in a1 4 ∧ ((if a2 < (σ2.1 83 (a1).toNatClampNeg) then 
              (vp_in a1 4 ∧ (CTs d y_SS_narrowed [.int a3, .int (σ2.1 82 (a1).toNatClampNeg)] σ2 (fun r3 σ3 => 
                vp_in ((a1 * (40 : Int32)) + a2) 160 ∧ (Q (some (.int (1 : Int32))) (sI σ3 84 ((a1 * (40 : Int32)) + a2).toNatClampNeg (oI r3))))))
              else 
              (Q (some (.int (-12 : Int32))) σ2))))))
          else 
          (Q (some (.int (-11 : Int32))) σ2))))))) : WP c_SS_put (CTs d) Q (0, [(0, .ref 0), (1, .int a1), (2, .int a2), (3, .int a3)], []) σ := wp_cut (ms_mono y_SS_put) (cts_cm d) (fun x => false) (fun _ _ => false) 42 h
theorem e_SS_put {d : Nat} {Q : Po} {σ : Hp}  {a1 : Int32} {a2 : Int32} {a3 : Int32}  (h : WP c_SS_put (CTs d) Q (0, [(0, .ref 0), (1, .int a1), (2, .int a2), (3, .int a3)], []) σ) : CTs (d + 1) y_SS_put [.ref 0, .int a1, .int a2, .int a3] σ Q := h
set_option maxRecDepth 20000 in
theorem t_SS_item_0 {d : Nat} {Q : Po} {σ : Hp}  {a1 : Int32} {a2 : Int32} {a3 : Int32}  (h : CTs d y_SS_isSheet [.ref 0, .int a1] σ (fun r1 σ1 => 
    (if (oI r1) = 0 then 
      (Q (some (.int (-1 : Int32))) σ1)
      else 
      ((if a2 < 0 then 
        (Q (some (.int (-1 : Int32))) σ1)
        else 
        ((if a2 ≤ (3 : Int32) then 
          (CTs d y_SS_mayBe [.ref 0, .int a1, .int a2] σ1 (fun r2 σ2 => 
            (if (oI r2) = 0 then 
              (Q (some (.int (-13 : Int32))) σ2)
              else 
              (CTs d y_SS_isMissing [.ref 0, .int a1] σ2 (fun r3 σ3 => 
                (if (oI r3) = 0 then 
                  ((if a3 < 0 then 
                    (Q (some (.int (-12 : Int32))) σ3)
                    else 
                    (vp_in a1 4 ∧ ((if a3 < (σ3.1 83 (a1).toNatClampNeg) then 
                      (vp_in ((a1 * (40 : Int32)) + a3) 160 ∧ (Q (some (.int (σ3.1 84 ((a1 * (40 : Int32)) + a3).toNatClampNeg))) σ3))
                      else 
                      (Q (some (.int (-12 : Int32))) σ3))))))
                  else 
                  (Q (some (.int (-11 : Int32))) σ3)))))))
          else 
          (Q (some (.int (-1 : Int32))) σ1)))))))) : WP c_SS_item (CTs d) Q (0, [(0, .ref 0), (1, .int a1), (2, .int a2), (3, .int a3)], []) σ := wp_cut (ms_mono y_SS_item) (cts_cm d) (fun x => false) (fun _ _ => false) 51 h
theorem e_SS_item {d : Nat} {Q : Po} {σ : Hp}  {a1 : Int32} {a2 : Int32} {a3 : Int32}  (h : WP c_SS_item (CTs d) Q (0, [(0, .ref 0), (1, .int a1), (2, .int a2), (3, .int a3)], []) σ) : CTs (d + 1) y_SS_item [.ref 0, .int a1, .int a2, .int a3] σ Q := h
set_option maxRecDepth 20000 in
theorem t_SS_shelf_0 {d : Nat} {Q : Po} {σ : Hp}  {a1 : Int32} {a2 : Int32} {a3 : Int32}  (h : CTs d y_SS_isShelf [.ref 0, .int a1] σ (fun r1 σ1 => 
    (if (oI r1) = 0 then 
      (Q (some (.int (-1 : Int32))) σ1)
      else 
      ((if a2 = 0 then 
        (CTs d y_Tx_has [.ref 3, .int a3] σ1 (fun r2 σ2 => 
          (if (oI r2) = 0 then 
            (Q (some (.int (-1 : Int32))) σ2)
            else 
            (CTs d y_SS_lay [.ref 0, .int a1, .int (1 : Int32), .int a3, .int (0 : Int32)] σ2 (fun r3 σ3 => 
              Q (some (.int (oI r3))) σ3)))))
        else if a2 = 1 then 
        (CTs d y_SS_isSheet [.ref 0, .int a3] σ1 (fun r4 σ4 => 
          (if (oI r4) = 0 then 
            (Q (some (.int (-1 : Int32))) σ4)
            else 
            (CTs d y_SS_layRow [.ref 0, .int a1, .int a3] σ4 (fun r5 σ5 => 
              Q (some (.int (oI r5))) σ5)))))
        else if a2 = 2 then 
        (CTs d y_SS_lay [.ref 0, .int a1, .int (0 : Int32), .int (0 : Int32), .int (0 : Int32)] σ1 (fun r6 σ6 => 
          Q (some (.int (oI r6))) σ6))
        else (Q (some (.int (-1 : Int32))) σ1)))))) : WP c_SS_shelf (CTs d) Q (0, [(0, .ref 0), (1, .int a1), (2, .int a2), (3, .int a3)], []) σ := wp_cut (ms_mono y_SS_shelf) (cts_cm d) (fun x => false) (fun _ _ => false) 46 h
theorem e_SS_shelf {d : Nat} {Q : Po} {σ : Hp}  {a1 : Int32} {a2 : Int32} {a3 : Int32}  (h : WP c_SS_shelf (CTs d) Q (0, [(0, .ref 0), (1, .int a1), (2, .int a2), (3, .int a3)], []) σ) : CTs (d + 1) y_SS_shelf [.ref 0, .int a1, .int a2, .int a3] σ Q := h
set_option maxRecDepth 20000 in
theorem t_SS_taken_0 {d : Nat} {Q : Po} {σ : Hp}  {a1 : Int32} {a2 : Int32}  (h : (if a2 < 0 then 
    ((if a2 < (10 : Int32) then 
      (WP c_SS_taken (CTs d) Q (33, [(0, .ref 0), (1, .int a1), (2, .int a2), (3, .int (0 : Int32))], [.int (0 : Int32)]) σ)
      else 
      ((if (13 : Int32) < a2 then 
        (WP c_SS_taken (CTs d) Q (33, [(0, .ref 0), (1, .int a1), (2, .int a2), (3, .int (0 : Int32))], [.int (0 : Int32)]) σ)
        else 
        (WP c_SS_taken (CTs d) Q (33, [(0, .ref 0), (1, .int a1), (2, .int a2), (3, .int (0 : Int32))], [.int (1 : Int32)]) σ)))))
    else 
    ((if (7 : Int32) ≤ a2 then 
      ((if a2 < (10 : Int32) then 
        (WP c_SS_taken (CTs d) Q (33, [(0, .ref 0), (1, .int a1), (2, .int a2), (3, .int (0 : Int32))], [.int (0 : Int32)]) σ)
        else 
        ((if (13 : Int32) < a2 then 
          (WP c_SS_taken (CTs d) Q (33, [(0, .ref 0), (1, .int a1), (2, .int a2), (3, .int (0 : Int32))], [.int (0 : Int32)]) σ)
          else 
          (WP c_SS_taken (CTs d) Q (33, [(0, .ref 0), (1, .int a1), (2, .int a2), (3, .int (0 : Int32))], [.int (1 : Int32)]) σ)))))
      else 
      ((if a2 < (10 : Int32) then 
        (WP c_SS_taken (CTs d) Q (33, [(0, .ref 0), (1, .int a1), (2, .int a2), (3, .int (1 : Int32))], [.int (0 : Int32)]) σ)
        else 
        ((if (13 : Int32) < a2 then 
          (WP c_SS_taken (CTs d) Q (33, [(0, .ref 0), (1, .int a1), (2, .int a2), (3, .int (1 : Int32))], [.int (0 : Int32)]) σ)
          else 
          (WP c_SS_taken (CTs d) Q (33, [(0, .ref 0), (1, .int a1), (2, .int a2), (3, .int (1 : Int32))], [.int (1 : Int32)]) σ))))))))) : WP c_SS_taken (CTs d) Q (0, [(0, .ref 0), (1, .int a1), (2, .int a2)], []) σ := wp_cut (ms_mono y_SS_taken) (cts_cm d) (fun x => Nat.beq x 33) (fun x i => (cond (Nat.beq x 33) (Nat.beq i 0 || Nat.beq i 1 || Nat.beq i 2 || Nat.beq i 3) false)) 53 h
set_option maxRecDepth 20000 in
theorem t_SS_taken_33 {d : Nat} {Q : Po} {σ : Hp}  {v1 : Int32} {v2 : Int32} {v3 : Int32} {u0 : Int32}  (h : CTs d y_SS_isShelf [.ref 0, .int v1] σ (fun r1 σ1 => 
    (if (oI r1) = 0 then 
      (Q (some (.int (-1 : Int32))) σ1)
      else 
      ((if v3 = 0 then 
        ((if u0 = 0 then 
          (Q (some (.int (-1 : Int32))) σ1)
          else 
          (vp_in v1 4 ∧ ((if (σ1.1 85 (v1).toNatClampNeg) = (2 : Int32) then 
            (vp_in v1 4 ∧ ((if (v2 - (10 : Int32)) = (σ1.1 86 (v1).toNatClampNeg) then 
              (vp_in v1 4 ∧ (Q (some (.int (σ1.1 87 (v1).toNatClampNeg))) σ1))
              else 
              (Q (some (.int (-13 : Int32))) σ1))))
            else 
            (CTs d y_SS_thingOn [.ref 0, .int v1] σ1 (fun r4 σ4 => 
              (if 0 ≤ (oI r4) then 
                ((if v3 = 0 then 
                  (Q (some (.int (-13 : Int32))) σ4)
                  else 
                  (vp_in (oI r4) 16 ∧ (CTs d y_SS_isUnder [.int (σ4.1 4 (oI r4).toNatClampNeg), .int v2] σ4 (fun r5 σ5 => 
                    (if (oI r5) = 0 then 
                      (Q (some (.int (-13 : Int32))) σ5)
                      else 
                      (Q (some (.int (oI r4))) σ5)))))))
                else 
                (Q (some (.int (-11 : Int32))) σ4)))))))))
        else 
        (vp_in v1 4 ∧ ((if (σ1.1 85 (v1).toNatClampNeg) = (2 : Int32) then 
          (vp_in v1 4 ∧ ((if (v2 - (10 : Int32)) = (σ1.1 86 (v1).toNatClampNeg) then 
            (vp_in v1 4 ∧ (Q (some (.int (σ1.1 87 (v1).toNatClampNeg))) σ1))
            else 
            (Q (some (.int (-13 : Int32))) σ1))))
          else 
          (CTs d y_SS_thingOn [.ref 0, .int v1] σ1 (fun r2 σ2 => 
            (if 0 ≤ (oI r2) then 
              ((if v3 = 0 then 
                (Q (some (.int (-13 : Int32))) σ2)
                else 
                (vp_in (oI r2) 16 ∧ (CTs d y_SS_isUnder [.int (σ2.1 4 (oI r2).toNatClampNeg), .int v2] σ2 (fun r3 σ3 => 
                  (if (oI r3) = 0 then 
                    (Q (some (.int (-13 : Int32))) σ3)
                    else 
                    (Q (some (.int (oI r2))) σ3)))))))
              else 
              (Q (some (.int (-11 : Int32))) σ2)))))))))))) : WP c_SS_taken (CTs d) Q (33, [(0, .ref 0), (1, .int v1), (2, .int v2), (3, .int v3)], [.int u0]) σ := wp_cut (ms_mono y_SS_taken) (cts_cm d) (fun x => Nat.beq x 33) (fun x i => (cond (Nat.beq x 33) (Nat.beq i 0 || Nat.beq i 1 || Nat.beq i 2 || Nat.beq i 3) false)) 109 h
theorem e_SS_taken {d : Nat} {Q : Po} {σ : Hp}  {a1 : Int32} {a2 : Int32}  (h : WP c_SS_taken (CTs d) Q (0, [(0, .ref 0), (1, .int a1), (2, .int a2)], []) σ) : CTs (d + 1) y_SS_taken [.ref 0, .int a1, .int a2] σ Q := h
set_option maxRecDepth 20000 in
theorem t_SS_act_0 {d : Nat} {Q : Po} {σ : Hp}  {a1 : Int32} {a2 : Int32} {a3 : Int32}  (h : CTs d y_Do_clear [.ref 88] σ (fun _ σ1 => 
    CTs d y_SS_isShelf [.ref 0, .int a1] σ1 (fun r2 σ2 => 
      (if (oI r2) = 0 then 
        ((if (-1 : Int32) < 0 then 
          (Q (some (.int (0 : Int32))) σ2)
          else 
          ((if a2 < 0 then 
            (Q (some (.int (0 : Int32))) σ2)
            else 
            ((if a2 ≤ (3 : Int32) then 
              (CTs d y_Tx_lettersOf [.ref 3, .int (-1 : Int32)] (sI σ2 88 0 (-1 : Int32)) (fun r3 σ3 => 
                vp_in (-1 : Int32) 16 ∧ (vp_in (σ3.1 4 (-1 : Int32).toNatClampNeg) 7 ∧ ((if a2 = 0 then 
                  (cond (Nat.ble 91 (91 + (σ3.1 4 (-1 : Int32).toNatClampNeg).toNatClampNeg) && Nat.ble (91 + (σ3.1 4 (-1 : Int32).toNatClampNeg).toNatClampNeg) 97) (CTs d (d_reads (91 + (σ3.1 4 (-1 : Int32).toNatClampNeg).toNatClampNeg)) [.ref (91 + (σ3.1 4 (-1 : Int32).toNatClampNeg).toNatClampNeg), .ref 88, .int a3] (sI σ3 88 1 (oI r3)) (fun r4 σ4 => 
                    (if (σ4.1 88 2) = 0 then 
                      (Q (some (.int (oI r4))) σ4)
                      else 
                      (Q (some (.int (-15 : Int32))) σ4)))) False)
                  else if a2 = 1 then 
                  (cond (Nat.ble 91 (91 + (σ3.1 4 (-1 : Int32).toNatClampNeg).toNatClampNeg) && Nat.ble (91 + (σ3.1 4 (-1 : Int32).toNatClampNeg).toNatClampNeg) 97) (CTs d (d_steps (91 + (σ3.1 4 (-1 : Int32).toNatClampNeg).toNatClampNeg)) [.ref (91 + (σ3.1 4 (-1 : Int32).toNatClampNeg).toNatClampNeg), .ref 88, .int a3] (sI σ3 88 1 (oI r3)) (fun r5 σ5 => 
                    (if (σ5.1 88 2) = 0 then 
                      (Q (some (.int (oI r5))) σ5)
                      else 
                      (Q (some (.int (-15 : Int32))) σ5)))) False)
                  else if a2 = 2 then 
                  (cond (Nat.ble 91 (91 + (σ3.1 4 (-1 : Int32).toNatClampNeg).toNatClampNeg) && Nat.ble (91 + (σ3.1 4 (-1 : Int32).toNatClampNeg).toNatClampNeg) 97) (CTs d (d_units (91 + (σ3.1 4 (-1 : Int32).toNatClampNeg).toNatClampNeg)) [.ref (91 + (σ3.1 4 (-1 : Int32).toNatClampNeg).toNatClampNeg), .ref 88, .int a3] (sI σ3 88 1 (oI r3)) (fun r6 σ6 => 
                    (if (σ6.1 88 2) = 0 then 
                      (Q (some (.int (oI r6))) σ6)
                      else 
                      (Q (some (.int (-15 : Int32))) σ6)))) False)
                  else (cond (Nat.ble 91 (91 + (σ3.1 4 (-1 : Int32).toNatClampNeg).toNatClampNeg) && Nat.ble (91 + (σ3.1 4 (-1 : Int32).toNatClampNeg).toNatClampNeg) 97) (CTs d (d_tells (91 + (σ3.1 4 (-1 : Int32).toNatClampNeg).toNatClampNeg)) [.ref (91 + (σ3.1 4 (-1 : Int32).toNatClampNeg).toNatClampNeg), .ref 88, .int a3] (sI σ3 88 1 (oI r3)) (fun r7 σ7 => 
                    (if (σ7.1 88 2) = 0 then 
                      (Q (some (.int (oI r7))) σ7)
                      else 
                      (Q (some (.int (-15 : Int32))) σ7)))) False))))))
              else 
              (Q (some (.int (0 : Int32))) σ2)))))))
        else 
        (CTs d y_SS_thingOn [.ref 0, .int a1] σ2 (fun r8 σ8 => 
          (if (oI r8) < 0 then 
            (Q (some (.int (0 : Int32))) σ8)
            else 
            ((if a2 < 0 then 
              (Q (some (.int (0 : Int32))) σ8)
              else 
              ((if a2 ≤ (3 : Int32) then 
                (CTs d y_Tx_lettersOf [.ref 3, .int (oI r8)] (sI σ8 88 0 (oI r8)) (fun r9 σ9 => 
                  vp_in (oI r8) 16 ∧ (vp_in (σ9.1 4 (oI r8).toNatClampNeg) 7 ∧ ((if a2 = 0 then 
                    (cond (Nat.ble 91 (91 + (σ9.1 4 (oI r8).toNatClampNeg).toNatClampNeg) && Nat.ble (91 + (σ9.1 4 (oI r8).toNatClampNeg).toNatClampNeg) 97) (CTs d (d_reads (91 + (σ9.1 4 (oI r8).toNatClampNeg).toNatClampNeg)) [.ref (91 + (σ9.1 4 (oI r8).toNatClampNeg).toNatClampNeg), .ref 88, .int a3] (sI σ9 88 1 (oI r9)) (fun r10 σ10 => 
                      (if (σ10.1 88 2) = 0 then 
                        (Q (some (.int (oI r10))) σ10)
                        else 
                        (Q (some (.int (-15 : Int32))) σ10)))) False)
                    else if a2 = 1 then 
                    (cond (Nat.ble 91 (91 + (σ9.1 4 (oI r8).toNatClampNeg).toNatClampNeg) && Nat.ble (91 + (σ9.1 4 (oI r8).toNatClampNeg).toNatClampNeg) 97) (CTs d (d_steps (91 + (σ9.1 4 (oI r8).toNatClampNeg).toNatClampNeg)) [.ref (91 + (σ9.1 4 (oI r8).toNatClampNeg).toNatClampNeg), .ref 88, .int a3] (sI σ9 88 1 (oI r9)) (fun r11 σ11 => 
                      (if (σ11.1 88 2) = 0 then 
                        (Q (some (.int (oI r11))) σ11)
                        else 
                        (Q (some (.int (-15 : Int32))) σ11)))) False)
                    else if a2 = 2 then 
                    (cond (Nat.ble 91 (91 + (σ9.1 4 (oI r8).toNatClampNeg).toNatClampNeg) && Nat.ble (91 + (σ9.1 4 (oI r8).toNatClampNeg).toNatClampNeg) 97) (CTs d (d_units (91 + (σ9.1 4 (oI r8).toNatClampNeg).toNatClampNeg)) [.ref (91 + (σ9.1 4 (oI r8).toNatClampNeg).toNatClampNeg), .ref 88, .int a3] (sI σ9 88 1 (oI r9)) (fun r12 σ12 => 
                      (if (σ12.1 88 2) = 0 then 
                        (Q (some (.int (oI r12))) σ12)
                        else 
                        (Q (some (.int (-15 : Int32))) σ12)))) False)
                    else (cond (Nat.ble 91 (91 + (σ9.1 4 (oI r8).toNatClampNeg).toNatClampNeg) && Nat.ble (91 + (σ9.1 4 (oI r8).toNatClampNeg).toNatClampNeg) 97) (CTs d (d_tells (91 + (σ9.1 4 (oI r8).toNatClampNeg).toNatClampNeg)) [.ref (91 + (σ9.1 4 (oI r8).toNatClampNeg).toNatClampNeg), .ref 88, .int a3] (sI σ9 88 1 (oI r9)) (fun r13 σ13 => 
                      (if (σ13.1 88 2) = 0 then 
                        (Q (some (.int (oI r13))) σ13)
                        else 
                        (Q (some (.int (-15 : Int32))) σ13)))) False))))))
                else 
                (Q (some (.int (0 : Int32))) σ8)))))))))))) : WP c_SS_act (CTs d) Q (0, [(0, .ref 0), (1, .int a1), (2, .int a2), (3, .int a3)], []) σ := wp_cut (ms_mono y_SS_act) (cts_cm d) (fun x => false) (fun _ _ => false) 212 h
theorem e_SS_act {d : Nat} {Q : Po} {σ : Hp}  {a1 : Int32} {a2 : Int32} {a3 : Int32}  (h : WP c_SS_act (CTs d) Q (0, [(0, .ref 0), (1, .int a1), (2, .int a2), (3, .int a3)], []) σ) : CTs (d + 1) y_SS_act [.ref 0, .int a1, .int a2, .int a3] σ Q := h
set_option maxRecDepth 20000 in
theorem t_SS_trace_0 {d : Nat} {Q : Po} {σ : Hp}  {a1 : Int32}  (h : (if a1 < 0 then 
    (Q (some (.int (-3 : Int32))) σ)
    else 
    ((if (σ.1 88 3) ≤ a1 then 
      (Q (some (.int (-3 : Int32))) σ)
      else 
      (vp_in a1 30 ∧ (Q (some (.int (σ.1 89 (a1).toNatClampNeg))) σ)))))) : WP c_SS_trace (CTs d) Q (0, [(0, .ref 0), (1, .int a1)], []) σ := wp_cut (ms_mono y_SS_trace) (cts_cm d) (fun x => false) (fun _ _ => false) 20 h
theorem e_SS_trace {d : Nat} {Q : Po} {σ : Hp}  {a1 : Int32}  (h : WP c_SS_trace (CTs d) Q (0, [(0, .ref 0), (1, .int a1)], []) σ) : CTs (d + 1) y_SS_trace [.ref 0, .int a1] σ Q := h
set_option maxRecDepth 20000 in
theorem t_SS_many_0 {d : Nat} {Q : Po} {σ : Hp}  {a1 : Int32}  (h : (if a1 = 0 then 
    (Q (some (.int (σ.1 3 0))) σ)
    else if a1 = 1 then 
    (Q (some (.int (σ.1 45 0))) σ)
    else if a1 = 2 then 
    (Q (some (.int (σ.1 45 4))) σ)
    else if a1 = 3 then 
    (Q (some (.int (σ.1 0 10))) σ)
    else if a1 = 4 then 
    (Q (some (.int (σ.1 1 1))) σ)
    else if a1 = 5 then 
    (Q (some (.int (σ.1 88 3))) σ)
    else (Q (some (.int (-1 : Int32))) σ))) : WP c_SS_many (CTs d) Q (0, [(0, .ref 0), (1, .int a1)], []) σ := wp_cut (ms_mono y_SS_many) (cts_cm d) (fun x => false) (fun _ _ => false) 29 h
theorem e_SS_many {d : Nat} {Q : Po} {σ : Hp}  {a1 : Int32}  (h : WP c_SS_many (CTs d) Q (0, [(0, .ref 0), (1, .int a1)], []) σ) : CTs (d + 1) y_SS_many [.ref 0, .int a1] σ Q := h
