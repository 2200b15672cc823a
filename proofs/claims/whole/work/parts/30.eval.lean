/-! ===== what is worked out: stacks, tables, signs ===== -/
def Stk (row : Nat → Int32) : List Int32 → Prop
  | [] => True
  | x :: l => row l.length = x ∧ Stk row l
theorem Stk.up {row : Nat → Int32} {k : Nat} {v : Int32} : ∀ {l : List Int32}, Stk row l → l.length ≤ k → Stk (upd row k v) l
  | [], _, _ => trivial
  | x :: l, h, hk => by
    have hk' : l.length + 1 ≤ k := hk
    exact ⟨by rw [pk_un (by omega)]; exact h.1, Stk.up h.2 (by omega)⟩
theorem Stk.push {row : Nat → Int32} {v : Int32} {l : List Int32} (h : Stk row l) : Stk (upd row l.length v) (v :: l) := ⟨pk_us, h.up (Nat.le_refl _)⟩
theorem div_m1 (x : Int32) : x / (-1) = 0 - x := Int32.toInt_inj.mp (by rw [Int32.toInt_div, Int32.zero_sub, show (-1 : Int32).toInt = -1 from rfl, Int32.toInt_neg, Int.tdiv_neg, Int.tdiv_one])
theorem p_joined {d : Nat} {K : Po} {σ : Hp} {s : Nat} {x y : Int32} (hs : s = 42 ∨ s = 43 ∨ s = 45 ∨ s = 47 ∨ s = 60 ∨ s = 61) (k : K (some (.int (j2 s x y))) σ) : CTs (d + 1) y_M_joined [.int (nI s), .int x, .int y] σ K := by
  refine e_M_joined (t_M_joined_0 ?_)
  rcases hs with rfl | rfl | rfl | rfl | rfl | rfl
  · exact ifp rfl k
  · exact ifn (by decide) (ifp rfl k)
  · exact ifn (by decide) (ifn (by decide) (ifp rfl k))
  · refine ifn (by decide) (ifn (by decide) (ifn (by decide) (ifp rfl ?_)))
    have e : j2 47 x y = if y = 0 then 0 else x / y := rfl
    rw [e] at k
    refine ite2 (fun h0 => ?_) (fun h0 => ite2 (fun h1 => ?_) (fun h1 => ⟨h0, ?_⟩))
    · rw [if_pos h0] at k; exact k
    · rw [if_neg h0, h1, div_m1] at k; exact k
    · rw [if_neg h0] at k; exact k
  · refine ifn (by decide) (ifn (by decide) (ifn (by decide) (ifn (by decide) (ifp rfl ?_))))
    have e : j2 60 x y = if x < y then 1 else 0 := rfl
    rw [e] at k
    refine ite2 (fun h0 => ?_) (fun h0 => ?_)
    · rw [if_neg (Int32.not_lt.mpr h0)] at k; exact k
    · rw [if_pos (Int32.not_le.mp h0)] at k; exact k
  · refine ifn (by decide) (ifn (by decide) (ifn (by decide) (ifn (by decide) (ifn (by decide) ?_))))
    have e : j2 61 x y = if x = y then 1 else 0 := rfl
    rw [e] at k
    refine ite2 (fun h0 => ?_) (fun h0 => ?_)
    · rw [if_pos h0] at k; exact k
    · rw [if_neg h0] at k; exact k
