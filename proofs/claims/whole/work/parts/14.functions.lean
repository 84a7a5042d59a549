/-! THE METHODS AS FUNCTIONS on the memory: written by wip/whole/gen/dec.py out of the code; none: a condition of the machine does not hold, or the loop's count ran out -/
def wel {α β γ : Type} (f : α → γ) (g : β → γ) : α ⊕ β → γ
  | .inl a => f a
  | .inr b => g b
def f_C_isUpTo (a0 : Int32) (a1 : Int32) : Int32 :=
  (if a0 < (0 : Int32) then (0 : Int32) else (if a1 < a0 then (0 : Int32) else (1 : Int32)))
theorem b_C_isUpTo (a0 : Int32) (a1 : Int32) : f_C_isUpTo a0 a1 = 0 ∨ f_C_isUpTo a0 a1 = 1 := by
  unfold f_C_isUpTo
  repeat' split
  all_goals first | exact Or.inl rfl | exact Or.inr rfl
def l_R_make_11 (p0 : Nat) : Nat → Int32 → wc_M → Option (wc_M)
  | 0, _, _ => none
  | n + 1, x3, M => (if (40 : Int32) ≤ x3 then some M else (if wib x3 40 = true then l_R_make_11 p0 n (x3 + (1 : Int32)) (wc_up M 3 p0 (x3).toNatClampNeg (0 : Int32)) else none))
def f_R_make (p0 : Nat) (a1 : Int32) (a2 : Int32) (M : wc_M) : Option wc_M :=
  (Option.bind (l_R_make_11 p0 2000 (0 : Int32) (wc_up (wc_up (wc_up M 2 p0 1 (1 : Int32)) 2 p0 2 a1) 2 p0 3 a2)) fun t2 => some t2)
def f_C_withoutFinding (a1 : Int32) (M : wc_M) : Option (Int32 × wc_M) :=
  some (a1, (wc_up M 0 0 9 (0 : Int32)))
def f_C_found (a1 : Int32) (M : wc_M) : Option (Int32 × wc_M) :=
  some (((-1000010 : Int32) - a1), (wc_up M 0 0 9 a1))
def f_C_row (a1 : Int32) (a2 : Int32) (a3 : Int32) (M : wc_M) : Option (Int32 × wc_M) :=
  (if (f_C_isUpTo a1 (7 : Int32)) = (0 : Int32) then some ((-1000001 : Int32), M) else (if (f_C_isUpTo a2 (2 : Int32)) = (0 : Int32) then some ((-1000001 : Int32), M) else (if a3 ≤ (40 : Int32) then (if (0 : Int32) ≤ a3 then (if wib a1 8 = true then (Option.bind (f_R_make (a1).toNatClampNeg a2 a3 M) fun m3 => (Option.bind (f_C_withoutFinding a3 m3) fun q5 => some (q5.1, q5.2))) else none) else (Option.bind (f_C_found (4 : Int32) M) fun q7 => some (q7.1, q7.2))) else some ((-1000001 : Int32), M))))
def f_M_in (a0 : Int64) (a1 : Int64) (a2 : Int64) : Int32 :=
  (if (lg_cmp a0 a1) < (0 : Int32) then (0 : Int32) else (if (0 : Int32) < (lg_cmp a0 a2) then (0 : Int32) else (1 : Int32)))
theorem b_M_in (a0 : Int64) (a1 : Int64) (a2 : Int64) : f_M_in a0 a1 a2 = 0 ∨ f_M_in a0 a1 a2 = 1 := by
  unfold f_M_in
  repeat' split
  all_goals first | exact Or.inl rfl | exact Or.inr rfl
def f_M_isRow (a0 : Int32) : Int32 :=
  (f_M_in (a0).toInt64 (0 : Int64) (7 : Int64))
theorem b_M_isRow (a0 : Int32) : f_M_isRow a0 = 0 ∨ f_M_isRow a0 = 1 := by
  exact b_M_in ..
def f_M_well (a1 : Int32) (M : wc_M) : Option (Int32 × wc_M) :=
  some (a1, (wc_up M 21 0 3 (0 : Int32)))
def f_M_find (a1 : Int32) (M : wc_M) : Option (Int32 × wc_M) :=
  some (((-1000010 : Int32) - a1), (wc_up M 21 0 3 a1))
def l_M_row_32 (x1 : Int32) (x3 : Int32) : Nat → Int32 → wc_M → Option (wc_M)
  | 0, _, _ => none
  | n + 1, x4, M => (if (40 : Int32) ≤ x4 then some M else (if wib (((40 : Int32) * x1) + x4) 320 = true then l_M_row_32 x1 x3 n (x4 + (1 : Int32)) (wc_up M 24 0 ((((40 : Int32) * x1) + x4)).toNatClampNeg (0 : Int32)) else none))
def f_M_row (a1 : Int32) (a2 : Int32) (a3 : Int32) (M : wc_M) : Option (Int32 × wc_M) :=
  (if (f_M_isRow a1) = (0 : Int32) then some ((-1000001 : Int32), M) else (if (f_M_in (a2).toInt64 (0 : Int64) (2 : Int64)) = (0 : Int32) then some ((-1000001 : Int32), M) else (if a3 ≤ (40 : Int32) then (if (0 : Int32) ≤ a3 then (if wib a1 8 = true then (Option.bind (l_M_row_32 a1 a3 2000 (0 : Int32) (wc_up (wc_up M 22 0 (a1).toNatClampNeg a2) 23 0 (a1).toNatClampNeg a3)) fun t3 => (Option.bind (f_M_well a3 t3) fun q6 => some (q6.1, q6.2))) else none) else (Option.bind (f_M_find (4 : Int32) M) fun q8 => some (q8.1, q8.2))) else some ((-1000001 : Int32), M))))
def f_R_has (p0 : Nat) (a1 : Int32) (a2 : Int32) (M : wc_M) : Int32 :=
  (if a1 < (0 : Int32) then (0 : Int32) else (if a2 < (0 : Int32) then (0 : Int32) else (if ((M 2 p0 3) - a2) < a1 then (0 : Int32) else (1 : Int32))))
theorem b_R_has (p0 : Nat) (a1 : Int32) (a2 : Int32) (M : wc_M) : f_R_has p0 a1 a2 M = 0 ∨ f_R_has p0 a1 a2 M = 1 := by
  unfold f_R_has
  repeat' split
  all_goals first | exact Or.inl rfl | exact Or.inr rfl
def f_C_findingIn (a1 : Int32) (a2 : Int32) (a3 : Int32) (M : wc_M) : Option Int32 :=
  (if wib a1 8 = true then (if (M 2 (a1).toNatClampNeg 1) = (0 : Int32) then some (1 : Int32) else (if (f_R_has (a1).toNatClampNeg a2 a3 M) = (0 : Int32) then some (2 : Int32) else some (0 : Int32))) else none)
def f_R_lowestBits (p0 : Nat) (a1 : Int32) (M : wc_M) : Int32 :=
  (if (M 2 p0 2) = (0 : Int32) then (a1).toInt8.toInt32 else (if (M 2 p0 2) = (1 : Int32) then (a1).toInt16.toInt32 else a1))
def f_C_set (a1 : Int32) (a2 : Int32) (a3 : Int32) (M : wc_M) : Option (Int32 × wc_M) :=
  (if (f_C_isUpTo a1 (7 : Int32)) = (0 : Int32) then some ((-1000001 : Int32), M) else (Option.bind (f_C_findingIn a1 a2 (1 : Int32) M) fun v2 => (if v2 = (0 : Int32) then (if wib a1 8 = true then (if wib a2 40 = true then (Option.bind (f_C_withoutFinding (f_R_lowestBits (a1).toNatClampNeg a3 M) (wc_up M 3 (a1).toNatClampNeg (a2).toNatClampNeg (f_R_lowestBits (a1).toNatClampNeg a3 M))) fun q6 => some (q6.1, q6.2)) else none) else none) else (Option.bind (f_C_found v2 M) fun q8 => some (q8.1, q8.2)))))
def f_M_asLane (a0 : Int32) (a1 : Int32) : Int32 :=
  (if a0 = (0 : Int32) then ((a1 <<< ((24 : Int32) &&& (31 : Int32))) >>> ((24 : Int32) &&& (31 : Int32))) else (if a0 = (1 : Int32) then ((a1 <<< ((16 : Int32) &&& (31 : Int32))) >>> ((16 : Int32) &&& (31 : Int32))) else a1))
def f_M_set (a1 : Int32) (a2 : Int32) (a3 : Int32) (M : wc_M) : Option (Int32 × wc_M) :=
  (if (f_M_isRow a1) = (0 : Int32) then some ((-1000001 : Int32), M) else (if wib a1 8 = true then (if (0 : Int32) ≤ (M 23 0 (a1).toNatClampNeg) then (if (f_M_in (a2).toInt64 (0 : Int64) (((M 23 0 (a1).toNatClampNeg) - (1 : Int32))).toInt64) = (0 : Int32) then (Option.bind (f_M_find (2 : Int32) M) fun q3 => some (q3.1, q3.2)) else (if wib (((40 : Int32) * a1) + a2) 320 = true then (Option.bind (f_M_well ((wc_up M 24 0 ((((40 : Int32) * a1) + a2)).toNatClampNeg (f_M_asLane (M 22 0 (a1).toNatClampNeg) a3)) 24 0 ((((40 : Int32) * a1) + a2)).toNatClampNeg) (wc_up M 24 0 ((((40 : Int32) * a1) + a2)).toNatClampNeg (f_M_asLane (M 22 0 (a1).toNatClampNeg) a3))) fun q6 => some (q6.1, q6.2)) else none)) else (Option.bind (f_M_find (1 : Int32) M) fun q8 => some (q8.1, q8.2))) else none))
def f_C_copy (a1 : Int32) (a2 : Int32) (a3 : Int32) (a4 : Int32) (a5 : Int32) (M : wc_M) : Option (Int32 × wc_M) :=
  (if (f_C_isUpTo a1 (7 : Int32)) = (0 : Int32) then some ((-1000001 : Int32), M) else (if (f_C_isUpTo a3 (7 : Int32)) = (0 : Int32) then some ((-1000001 : Int32), M) else (if wib a1 8 = true then (if wib a3 8 = true then (if (M 2 (a1).toNatClampNeg 1) = (0 : Int32) then (Option.bind (f_C_found (1 : Int32) M) fun q4 => some (q4.1, q4.2)) else (if (M 2 (a3).toNatClampNeg 1) = (0 : Int32) then (Option.bind (f_C_found (1 : Int32) M) fun q6 => some (q6.1, q6.2)) else (if (M 2 (a1).toNatClampNeg 2) = (M 2 (a3).toNatClampNeg 2) then (if (f_R_has (a1).toNatClampNeg a2 a5 M) = (0 : Int32) then (Option.bind (f_C_found (2 : Int32) M) fun q8 => some (q8.1, q8.2)) else (if (f_R_has (a3).toNatClampNeg a4 a5 M) = (0 : Int32) then (Option.bind (f_C_found (2 : Int32) M) fun q10 => some (q10.1, q10.2)) else (if wcb a2 a4 a5 40 40 = true then (Option.bind (f_C_withoutFinding a5 (wc_cp M 3 (a1).toNatClampNeg 3 (a3).toNatClampNeg (a2).toNatClampNeg (a4).toNatClampNeg (a5).toNatClampNeg)) fun q13 => some (q13.1, q13.2)) else none))) else (Option.bind (f_C_found (5 : Int32) M) fun q15 => some (q15.1, q15.2))))) else none) else none)))
def l_M_copy_69 (x1 : Int32) (x2 : Int32) (x3 : Int32) (x4 : Int32) (x5 : Int32) : Nat → Int32 → wc_M → Option (wc_M)
  | 0, _, _ => none
  | n + 1, x6, M => (if x5 ≤ x6 then some M else (if wib ((((40 : Int32) * x1) + x2) + x6) 320 = true then (if wib x6 40 = true then l_M_copy_69 x1 x2 x3 x4 x5 n (x6 + (1 : Int32)) (wc_up M 26 0 (x6).toNatClampNeg (M 24 0 (((((40 : Int32) * x1) + x2) + x6)).toNatClampNeg)) else none) else none))
def l_M_copy_90 (x3 : Int32) (x4 : Int32) (x5 : Int32) : Nat → Int32 → wc_M → Option (wc_M)
  | 0, _, _ => none
  | n + 1, x6, M => (if x5 ≤ x6 then some M else (if wib x6 40 = true then (if wib ((((40 : Int32) * x3) + x4) + x6) 320 = true then l_M_copy_90 x3 x4 x5 n (x6 + (1 : Int32)) (wc_up M 24 0 (((((40 : Int32) * x3) + x4) + x6)).toNatClampNeg (M 26 0 (x6).toNatClampNeg)) else none) else none))
def f_M_copy (a1 : Int32) (a2 : Int32) (a3 : Int32) (a4 : Int32) (a5 : Int32) (M : wc_M) : Option (Int32 × wc_M) :=
  (if (f_M_isRow a1) = (0 : Int32) then some ((-1000001 : Int32), M) else (if (f_M_isRow a3) = (0 : Int32) then some ((-1000001 : Int32), M) else (if wib a1 8 = true then (if (M 23 0 (a1).toNatClampNeg) < (0 : Int32) then (Option.bind (f_M_find (1 : Int32) M) fun q3 => some (q3.1, q3.2)) else (if wib a3 8 = true then (if (0 : Int32) ≤ (M 23 0 (a3).toNatClampNeg) then (if (M 22 0 (a1).toNatClampNeg) = (M 22 0 (a3).toNatClampNeg) then (if a5 < (0 : Int32) then (Option.bind (f_M_find (2 : Int32) M) fun q6 => some (q6.1, q6.2)) else (if (f_M_in (a2).toInt64 (0 : Int64) (((M 23 0 (a1).toNatClampNeg)).toInt64 - (a5).toInt64)) = (0 : Int32) then (Option.bind (f_M_find (2 : Int32) M) fun q8 => some (q8.1, q8.2)) else (if (f_M_in (a4).toInt64 (0 : Int64) (((M 23 0 (a3).toNatClampNeg)).toInt64 - (a5).toInt64)) = (0 : Int32) then (Option.bind (f_M_find (2 : Int32) M) fun q10 => some (q10.1, q10.2)) else (Option.bind (l_M_copy_69 a1 a2 a3 a4 a5 2000 (0 : Int32) M) fun t13 => (Option.bind (l_M_copy_90 a3 a4 a5 2000 (0 : Int32) t13) fun t17 => (Option.bind (f_M_well a5 t17) fun q20 => some (q20.1, q20.2))))))) else (Option.bind (f_M_find (5 : Int32) M) fun q22 => some (q22.1, q22.2))) else (Option.bind (f_M_find (1 : Int32) M) fun q24 => some (q24.1, q24.2))) else none)) else none)))
def f_C_drop (a1 : Int32) (M : wc_M) : Option (Int32 × wc_M) :=
  (if (f_C_isUpTo a1 (7 : Int32)) = (0 : Int32) then some ((-1000001 : Int32), M) else (if wib a1 8 = true then (if (M 2 (a1).toNatClampNeg 1) = (0 : Int32) then (Option.bind (f_C_found (1 : Int32) M) fun q3 => some (q3.1, q3.2)) else (Option.bind (f_C_withoutFinding ((wc_up M 2 (a1).toNatClampNeg 1 (0 : Int32)) 2 (a1).toNatClampNeg 3) (wc_up M 2 (a1).toNatClampNeg 1 (0 : Int32))) fun q5 => some (q5.1, q5.2))) else none))
def f_M_drop (a1 : Int32) (M : wc_M) : Option (Int32 × wc_M) :=
  (if (f_M_isRow a1) = (0 : Int32) then some ((-1000001 : Int32), M) else (if wib a1 8 = true then (if (0 : Int32) ≤ (M 23 0 (a1).toNatClampNeg) then (Option.bind (f_M_well (M 23 0 (a1).toNatClampNeg) (wc_up M 23 0 (a1).toNatClampNeg (-1 : Int32))) fun q3 => some (q3.1, q3.2)) else (Option.bind (f_M_find (1 : Int32) M) fun q5 => some (q5.1, q5.2))) else none))
def f_T_add (a1 : Int32) (M : wc_M) : Option (Int32 × wc_M) :=
  (if (M 4 0 1) < (120 : Int32) then (if wib (M 4 0 1) 120 = true then some ((1 : Int32), (wc_up (wc_up M 5 0 ((M 4 0 1)).toNatClampNeg a1) 4 0 1 (((wc_up M 5 0 ((M 4 0 1)).toNatClampNeg a1) 4 0 1) + (1 : Int32)))) else none) else some ((0 : Int32), M))
def f_C_feed (a1 : Int32) (M : wc_M) : Option (Int32 × wc_M) :=
  (if (f_C_isUpTo a1 (255 : Int32)) = (0 : Int32) then some ((-1000001 : Int32), M) else (Option.bind (f_T_add a1 M) fun q2 => (if q2.1 = (0 : Int32) then some ((-1000003 : Int32), q2.2) else some ((q2.2 4 0 1), q2.2))))
def f_M_feed (a1 : Int32) (M : wc_M) : Option (Int32 × wc_M) :=
  (if (f_M_in (a1).toInt64 (0 : Int64) (255 : Int64)) = (0 : Int32) then some ((-1000001 : Int32), M) else (if (M 21 0 8) = (120 : Int32) then some ((-1000003 : Int32), M) else (if wib (M 21 0 8) 120 = true then some (((wc_up (wc_up M 27 0 ((M 21 0 8)).toNatClampNeg a1) 21 0 8 (((wc_up M 27 0 ((M 21 0 8)).toNatClampNeg a1) 21 0 8) + (1 : Int32))) 21 0 8), (wc_up (wc_up M 27 0 ((M 21 0 8)).toNatClampNeg a1) 21 0 8 (((wc_up M 27 0 ((M 21 0 8)).toNatClampNeg a1) 21 0 8) + (1 : Int32)))) else none)))
def f_P_put (p0 : Nat) (a1 : Int32) (a2 : Int32) (a3 : Int32) (M : wc_M) : Option wc_M :=
  (if wib a1 16 = true then some (wc_up (wc_up (wc_up M 9 p0 (a1).toNatClampNeg a2) 10 p0 (a1).toNatClampNeg a3) 11 p0 (a1).toNatClampNeg (0 : Int32)) else none)
def f_P_clear (p0 : Nat) (a1 : Int32) (M : wc_M) : Option wc_M :=
  (Option.bind (f_P_put p0 a1 (0 : Int32) (0 : Int32) M) fun m2 => some m2)
def l_P_begin_2 (p0 : Nat) : Nat → Int32 → wc_M → Option (wc_M)
  | 0, _, _ => none
  | n + 1, x1, M => (if (16 : Int32) ≤ x1 then some M else (Option.bind (f_P_clear p0 x1 M) fun m2 => l_P_begin_2 p0 n (x1 + (1 : Int32)) m2))
def f_P_begin (p0 : Nat) (M : wc_M) : Option wc_M :=
  (Option.bind (l_P_begin_2 p0 2000 (0 : Int32) M) fun t3 => some (wc_up (wc_up t3 6 p0 5 (1 : Int32)) 6 p0 6 (0 : Int32)))
def f_T_fail (a1 : Int32) (a2 : Int32) (M : wc_M) : Option (Int32 × wc_M) :=
  some ((0 : Int32), (wc_up (wc_up M 4 0 2 a1) 4 0 3 a2))
def f_T_readByte (a1 : Int32) (M : wc_M) : Option (Int32 × wc_M) :=
  (if (M 4 0 1) ≤ (M 4 0 4) then (Option.bind (f_T_fail (1 : Int32) (M 4 0 4) M) fun q2 => (if wzb q2.1 = true then some (q2.1, q2.2) else none)) else (if wib (M 4 0 4) 120 = true then (if (M 5 0 ((M 4 0 4)).toNatClampNeg) = a1 then some ((1 : Int32), (wc_up M 4 0 4 ((M 4 0 4) + (1 : Int32)))) else (Option.bind (f_T_fail (1 : Int32) (M 4 0 4) M) fun q5 => (if wzb q5.1 = true then some (q5.1, q5.2) else none))) else none))
def f_T_isFigure (a0 : Int32) : Int32 :=
  (if a0 < (48 : Int32) then (0 : Int32) else (if (57 : Int32) < a0 then (0 : Int32) else (1 : Int32)))
theorem b_T_isFigure (a0 : Int32) : f_T_isFigure a0 = 0 ∨ f_T_isFigure a0 = 1 := by
  unfold f_T_isFigure
  repeat' split
  all_goals first | exact Or.inl rfl | exact Or.inr rfl
def l_T_readNumber_4 (x1 : Int32) (M : wc_M) : Nat → Int32 → Int32 → Option (Int32 × Int32)
  | 0, _, _ => none
  | n + 1, x2, x3 => (if (3 : Int32) ≤ x2 then some (x2, x3) else (if (M 4 0 1) ≤ ((M 4 0 4) + x2) then some (x2, x3) else (if wib ((M 4 0 4) + x2) 120 = true then (if (f_T_isFigure (M 5 0 (((M 4 0 4) + x2)).toNatClampNeg)) = (0 : Int32) then some (x2, x3) else l_T_readNumber_4 x1 M n (x2 + (1 : Int32)) ((((10 : Int32) * x3) + (M 5 0 (((M 4 0 4) + x2)).toNatClampNeg)) - (48 : Int32))) else none)))
def f_T_readNumber (a1 : Int32) (M : wc_M) : Option (Int32 × wc_M) :=
  (Option.bind (l_T_readNumber_4 a1 M 2000 (0 : Int32) (0 : Int32)) fun t2 => (if t2.1 = (0 : Int32) then (Option.bind (f_T_fail (1 : Int32) (M 4 0 4) M) fun q5 => some ((-1 : Int32), q5.2)) else (if t2.1 = (3 : Int32) then (Option.bind (f_T_fail (1 : Int32) (M 4 0 4) M) fun q7 => some ((-1 : Int32), q7.2)) else (if t2.2 ≤ a1 then some (t2.2, (wc_up M 4 0 4 ((M 4 0 4) + t2.1))) else (Option.bind (f_T_fail (2 : Int32) (M 4 0 4) M) fun q9 => some ((-1 : Int32), q9.2))))))
def l_T_readLines_7_8 (p2 : Nat) : Nat → Int32 → wc_M → Option ((Int32 × wc_M) ⊕ (wc_M))
  | 0, _, _ => none
  | n + 1, x3, M => (if (4 : Int32) ≤ x3 then some (.inr M) else (Option.bind (f_T_readNumber (31 : Int32) M) fun q4 => (if wib x3 4 = true then (if ((wc_up q4.2 7 p2 (x3).toNatClampNeg q4.1) 7 p2 (x3).toNatClampNeg) < (0 : Int32) then some (.inl ((0 : Int32), (wc_up q4.2 7 p2 (x3).toNatClampNeg q4.1))) else (Option.bind (if (3 : Int32) ≤ x3 then some (59 : Int32) else some (44 : Int32)) fun t6 => (Option.bind (f_T_readByte t6 (wc_up q4.2 7 p2 (x3).toNatClampNeg q4.1)) fun q8 => (if q8.1 = (0 : Int32) then some (.inl ((0 : Int32), q8.2)) else l_T_readLines_7_8 p2 n (x3 + (1 : Int32)) q8.2)))) else none)))
def f_T_readLines_7 (a1 : Int32) (p2 : Nat) (M : wc_M) : Option (Int32 × wc_M) :=
  (Option.bind (f_T_readByte a1 M) fun q2 => (if q2.1 = (0 : Int32) then some ((0 : Int32), q2.2) else (Option.bind (l_T_readLines_7_8 p2 2000 (0 : Int32) q2.2) fun o12 => wel (fun r13 => some r13) (fun t10 => some ((1 : Int32), t10)) o12)))
def l_T_readLines_8_8 (p2 : Nat) : Nat → Int32 → wc_M → Option ((Int32 × wc_M) ⊕ (wc_M))
  | 0, _, _ => none
  | n + 1, x3, M => (if (4 : Int32) ≤ x3 then some (.inr M) else (Option.bind (f_T_readNumber (31 : Int32) M) fun q4 => (if wib x3 4 = true then (if ((wc_up q4.2 8 p2 (x3).toNatClampNeg q4.1) 8 p2 (x3).toNatClampNeg) < (0 : Int32) then some (.inl ((0 : Int32), (wc_up q4.2 8 p2 (x3).toNatClampNeg q4.1))) else (Option.bind (if (3 : Int32) ≤ x3 then some (59 : Int32) else some (44 : Int32)) fun t6 => (Option.bind (f_T_readByte t6 (wc_up q4.2 8 p2 (x3).toNatClampNeg q4.1)) fun q8 => (if q8.1 = (0 : Int32) then some (.inl ((0 : Int32), q8.2)) else l_T_readLines_8_8 p2 n (x3 + (1 : Int32)) q8.2)))) else none)))
def f_T_readLines_8 (a1 : Int32) (p2 : Nat) (M : wc_M) : Option (Int32 × wc_M) :=
  (Option.bind (f_T_readByte a1 M) fun q2 => (if q2.1 = (0 : Int32) then some ((0 : Int32), q2.2) else (Option.bind (l_T_readLines_8_8 p2 2000 (0 : Int32) q2.2) fun o12 => wel (fun r13 => some r13) (fun t10 => some ((1 : Int32), t10)) o12)))
def f_T_kindOf (a0 : Int32) : Int32 :=
  (if a0 = (104 : Int32) then (4 : Int32) else (if a0 = (110 : Int32) then (2 : Int32) else (if a0 = (115 : Int32) then (3 : Int32) else (if a0 = (118 : Int32) then (5 : Int32) else (if a0 = (119 : Int32) then (1 : Int32) else (0 : Int32))))))
def f_P_hasWork (p0 : Nat) (a1 : Int32) (M : wc_M) : Option Int32 :=
  (if wib a1 16 = true then (if (M 9 p0 (a1).toNatClampNeg) = (0 : Int32) then some (0 : Int32) else some (1 : Int32)) else none)
def f_T_readWork (a1 : Int32) (p2 : Nat) (M : wc_M) : Option (Int32 × wc_M) :=
  (Option.bind (f_T_readNumber (3 : Int32) M) fun q2 => (if q2.1 < (0 : Int32) then some ((0 : Int32), q2.2) else (Option.bind (f_T_readByte (44 : Int32) q2.2) fun q4 => (if q4.1 = (0 : Int32) then some ((0 : Int32), q4.2) else (Option.bind (f_T_readNumber (3 : Int32) q4.2) fun q6 => (if (0 : Int32) ≤ q6.1 then (Option.bind (f_P_hasWork p2 (((4 : Int32) * q2.1) + q6.1) q6.2) fun v8 => (if v8 = (0 : Int32) then (Option.bind (f_T_readByte (44 : Int32) q6.2) fun q10 => (if q10.1 = (0 : Int32) then some ((0 : Int32), q10.2) else (Option.bind (f_T_readNumber (99 : Int32) q10.2) fun q12 => (if q12.1 < (0 : Int32) then some ((0 : Int32), q12.2) else (Option.bind (f_T_readByte (59 : Int32) q12.2) fun q14 => (if q14.1 = (0 : Int32) then some ((0 : Int32), q14.2) else (Option.bind (f_P_put p2 (((4 : Int32) * q2.1) + q6.1) a1 q12.1 q14.2) fun m16 => some ((1 : Int32), m16)))))))) else (Option.bind (f_T_fail (2 : Int32) (q4.2 4 0 4) q6.2) fun q18 => (if wzb q18.1 = true then some (q18.1, q18.2) else none)))) else some ((0 : Int32), q6.2)))))))
def l_T_readWorks_2 (p1 : Nat) : Nat → Int32 → wc_M → Option ((Int32 × wc_M) ⊕ (wc_M))
  | 0, _, _ => none
  | n + 1, x2, M => (if (6 : Int32) < x2 then some (.inr M) else (if (M 4 0 1) ≤ (M 4 0 4) then some (.inr M) else (if wib (M 4 0 4) 120 = true then (if (f_T_kindOf (M 5 0 ((M 4 0 4)).toNatClampNeg)) = (0 : Int32) then (Option.bind (f_T_fail (1 : Int32) (M 4 0 4) M) fun q3 => (if wzb q3.1 = true then some (.inl (q3.1, q3.2)) else none)) else (if x2 = (6 : Int32) then (Option.bind (f_T_fail (3 : Int32) (M 4 0 4) M) fun q5 => (if wzb q5.1 = true then some (.inl (q5.1, q5.2)) else none)) else (Option.bind (f_T_readWork (f_T_kindOf (M 5 0 ((M 4 0 4)).toNatClampNeg)) p1 (wc_up M 4 0 4 ((M 4 0 4) + (1 : Int32)))) fun q7 => (if q7.1 = (0 : Int32) then some (.inl ((0 : Int32), q7.2)) else l_T_readWorks_2 p1 n (x2 + (1 : Int32)) q7.2)))) else none)))
def f_T_readWorks (p1 : Nat) (M : wc_M) : Option (Int32 × wc_M) :=
  (Option.bind (l_T_readWorks_2 p1 2000 (0 : Int32) M) fun o10 => wel (fun r11 => some r11) (fun t8 => some ((1 : Int32), t8)) o10)
def f_T_read (p1 : Nat) (M : wc_M) : Option (Int32 × wc_M) :=
  (Option.bind (f_P_begin p1 (wc_up M 4 0 4 (0 : Int32))) fun m2 => (Option.bind (f_T_readLines_7 (97 : Int32) p1 m2) fun q4 => (if q4.1 = (0 : Int32) then some ((0 : Int32), q4.2) else (Option.bind (f_T_readLines_8 (98 : Int32) p1 q4.2) fun q6 => (if q6.1 = (0 : Int32) then some ((0 : Int32), q6.2) else (Option.bind (f_T_readWorks p1 q6.2) fun q8 => (if q8.1 = (0 : Int32) then some ((0 : Int32), q8.2) else some ((1 : Int32), q8.2))))))))
def f_P_become (p0 : Nat) (p1 : Nat) (M : wc_M) : Option wc_M :=
  (if wzb ((wc_cp (wc_cp (wc_cp (wc_cp (wc_cp M 7 p1 7 p0 ((0 : Int32)).toNatClampNeg ((0 : Int32)).toNatClampNeg ((4 : Int32)).toNatClampNeg) 8 p1 8 p0 ((0 : Int32)).toNatClampNeg ((0 : Int32)).toNatClampNeg ((4 : Int32)).toNatClampNeg) 9 p1 9 p0 ((0 : Int32)).toNatClampNeg ((0 : Int32)).toNatClampNeg ((16 : Int32)).toNatClampNeg) 10 p1 10 p0 ((0 : Int32)).toNatClampNeg ((0 : Int32)).toNatClampNeg ((16 : Int32)).toNatClampNeg) 11 p1 11 p0 ((0 : Int32)).toNatClampNeg ((0 : Int32)).toNatClampNeg ((16 : Int32)).toNatClampNeg) 6 p1 5) = true then some (wc_up (wc_up (wc_cp (wc_cp (wc_cp (wc_cp (wc_cp M 7 p1 7 p0 ((0 : Int32)).toNatClampNeg ((0 : Int32)).toNatClampNeg ((4 : Int32)).toNatClampNeg) 8 p1 8 p0 ((0 : Int32)).toNatClampNeg ((0 : Int32)).toNatClampNeg ((4 : Int32)).toNatClampNeg) 9 p1 9 p0 ((0 : Int32)).toNatClampNeg ((0 : Int32)).toNatClampNeg ((16 : Int32)).toNatClampNeg) 10 p1 10 p0 ((0 : Int32)).toNatClampNeg ((0 : Int32)).toNatClampNeg ((16 : Int32)).toNatClampNeg) 11 p1 11 p0 ((0 : Int32)).toNatClampNeg ((0 : Int32)).toNatClampNeg ((16 : Int32)).toNatClampNeg) 6 p0 5 ((wc_cp (wc_cp (wc_cp (wc_cp (wc_cp M 7 p1 7 p0 ((0 : Int32)).toNatClampNeg ((0 : Int32)).toNatClampNeg ((4 : Int32)).toNatClampNeg) 8 p1 8 p0 ((0 : Int32)).toNatClampNeg ((0 : Int32)).toNatClampNeg ((4 : Int32)).toNatClampNeg) 9 p1 9 p0 ((0 : Int32)).toNatClampNeg ((0 : Int32)).toNatClampNeg ((16 : Int32)).toNatClampNeg) 10 p1 10 p0 ((0 : Int32)).toNatClampNeg ((0 : Int32)).toNatClampNeg ((16 : Int32)).toNatClampNeg) 11 p1 11 p0 ((0 : Int32)).toNatClampNeg ((0 : Int32)).toNatClampNeg ((16 : Int32)).toNatClampNeg) 6 p1 5)) 6 p0 6 ((wc_up (wc_cp (wc_cp (wc_cp (wc_cp (wc_cp M 7 p1 7 p0 ((0 : Int32)).toNatClampNeg ((0 : Int32)).toNatClampNeg ((4 : Int32)).toNatClampNeg) 8 p1 8 p0 ((0 : Int32)).toNatClampNeg ((0 : Int32)).toNatClampNeg ((4 : Int32)).toNatClampNeg) 9 p1 9 p0 ((0 : Int32)).toNatClampNeg ((0 : Int32)).toNatClampNeg ((16 : Int32)).toNatClampNeg) 10 p1 10 p0 ((0 : Int32)).toNatClampNeg ((0 : Int32)).toNatClampNeg ((16 : Int32)).toNatClampNeg) 11 p1 11 p0 ((0 : Int32)).toNatClampNeg ((0 : Int32)).toNatClampNeg ((16 : Int32)).toNatClampNeg) 6 p0 5 ((wc_cp (wc_cp (wc_cp (wc_cp (wc_cp M 7 p1 7 p0 ((0 : Int32)).toNatClampNeg ((0 : Int32)).toNatClampNeg ((4 : Int32)).toNatClampNeg) 8 p1 8 p0 ((0 : Int32)).toNatClampNeg ((0 : Int32)).toNatClampNeg ((4 : Int32)).toNatClampNeg) 9 p1 9 p0 ((0 : Int32)).toNatClampNeg ((0 : Int32)).toNatClampNeg ((16 : Int32)).toNatClampNeg) 10 p1 10 p0 ((0 : Int32)).toNatClampNeg ((0 : Int32)).toNatClampNeg ((16 : Int32)).toNatClampNeg) 11 p1 11 p0 ((0 : Int32)).toNatClampNeg ((0 : Int32)).toNatClampNeg ((16 : Int32)).toNatClampNeg) 6 p1 5)) 6 p1 6)) else none)
def l_P_works_4 (p0 : Nat) (M : wc_M) : Nat → Int32 → Int32 → Option (Int32)
  | 0, _, _ => none
  | n + 1, x1, x2 => (if (16 : Int32) ≤ x2 then some x1 else (Option.bind (f_P_hasWork p0 x2 M) fun v2 => (if v2 = (0 : Int32) then l_P_works_4 p0 M n x1 (x2 + (1 : Int32)) else l_P_works_4 p0 M n (x1 + (1 : Int32)) (x2 + (1 : Int32)))))
def f_P_works (p0 : Nat) (M : wc_M) : Option Int32 :=
  (Option.bind (l_P_works_4 p0 M 2000 (0 : Int32) (0 : Int32)) fun t3 => some t3)
def f_C_pass (M : wc_M) : Option (Int32 × wc_M) :=
  (Option.bind (f_T_read 1 M) fun q2 => (if q2.1 = (0 : Int32) then some (((-1000100 : Int32) - ((wc_up q2.2 4 0 1 (0 : Int32)) 4 0 3)), (wc_up q2.2 4 0 1 (0 : Int32))) else (Option.bind (f_P_become 0 1 (wc_up q2.2 4 0 1 (0 : Int32))) fun m4 => (Option.bind (f_P_works 0 (wc_up m4 16 0 2 (0 : Int32))) fun v6 => some (v6, (wc_up m4 16 0 2 (0 : Int32)))))))
def l_M_nextToken_17 : Nat → wc_M → Option (wc_M)
  | 0, _ => none
  | n + 1, M => (if (M 21 0 8) ≤ (M 21 0 10) then some M else (if wib (M 21 0 10) 120 = true then (if (f_M_in ((M 27 0 ((M 21 0 10)).toNatClampNeg)).toInt64 (48 : Int64) (57 : Int64)) = (0 : Int32) then some M else (Option.bind (if (M 21 0 12) ≤ (99 : Int32) then some ((((10 : Int32) * (M 21 0 12)) + (M 27 0 ((M 21 0 10)).toNatClampNeg)) - (48 : Int32)) else some (M 21 0 12)) fun t3 => l_M_nextToken_17 n (wc_up (wc_up M 21 0 12 t3) 21 0 10 (((wc_up M 21 0 12 t3) 21 0 10) + (1 : Int32))))) else none))
def f_M_nextToken (M : wc_M) : Option wc_M :=
  (Option.bind (if ((wc_up M 21 0 13 (M 21 0 10)) 21 0 10) = ((wc_up M 21 0 13 (M 21 0 10)) 21 0 8) then some (3 : Int32) else some (0 : Int32)) fun t1 => (Option.bind (l_M_nextToken_17 2000 (wc_up (wc_up (wc_up M 21 0 13 (M 21 0 10)) 21 0 11 t1) 21 0 12 (0 : Int32))) fun t5 => (if (t5 21 0 10) ≤ (t5 21 0 13) then (if (t5 21 0 11) = (0 : Int32) then (if wib (t5 21 0 10) 120 = true then (Option.bind (if (f_M_in (((wc_up t5 21 0 12 (t5 27 0 ((t5 21 0 10)).toNatClampNeg)) 21 0 12)).toInt64 (97 : Int64) (122 : Int64)) = (0 : Int32) then (if ((wc_up t5 21 0 12 (t5 27 0 ((t5 21 0 10)).toNatClampNeg)) 21 0 12) = (44 : Int32) then some (1 : Int32) else (if ((wc_up t5 21 0 12 (t5 27 0 ((t5 21 0 10)).toNatClampNeg)) 21 0 12) = (59 : Int32) then some (1 : Int32) else some (0 : Int32))) else some (1 : Int32)) fun t8 => some (wc_up (wc_up (wc_up t5 21 0 12 (t5 27 0 ((t5 21 0 10)).toNatClampNeg)) 21 0 11 t8) 21 0 10 (((wc_up (wc_up t5 21 0 12 (t5 27 0 ((t5 21 0 10)).toNatClampNeg)) 21 0 11 t8) 21 0 10) + (1 : Int32)))) else none) else some t5) else (if ((t5 21 0 10) - (t5 21 0 13)) ≤ (2 : Int32) then some (wc_up t5 21 0 11 (2 : Int32)) else some (wc_up t5 21 0 11 (0 : Int32))))))
def f_M_isLetter (a1 : Int32) (M : wc_M) : Int32 :=
  (if (M 21 0 11) = (1 : Int32) then (if (M 21 0 12) = a1 then (1 : Int32) else (0 : Int32)) else (0 : Int32))
theorem b_M_isLetter (a1 : Int32) (M : wc_M) : f_M_isLetter a1 M = 0 ∨ f_M_isLetter a1 M = 1 := by
  unfold f_M_isLetter
  repeat' split
  all_goals first | exact Or.inl rfl | exact Or.inr rfl
def f_M_faults (a1 : Int32) (M : wc_M) : Option (Int32 × wc_M) :=
  some ((0 : Int32), (wc_up M 21 0 14 a1))
def f_M_takes (a1 : Int32) (M : wc_M) : Option (Int32 × wc_M) :=
  (if (f_M_isLetter a1 M) = (0 : Int32) then (Option.bind (f_M_faults (1 : Int32) M) fun q2 => (if wzb q2.1 = true then some (q2.1, q2.2) else none)) else (Option.bind (f_M_nextToken M) fun m4 => some ((1 : Int32), m4)))
def f_M_takesNumber (a1 : Int32) (a2 : Int32) (a3 : Int32) (a4 : Int32) (M : wc_M) : Option (Int32 × wc_M) :=
  (if (M 21 0 11) = (2 : Int32) then (if (f_M_in ((M 21 0 12)).toInt64 (a1).toInt64 (a2).toInt64) = (0 : Int32) then (Option.bind (if (M 21 0 11) = (2 : Int32) then some (2 : Int32) else some (1 : Int32)) fun t1 => (Option.bind (f_M_faults t1 M) fun q3 => (if wzb q3.1 = true then some (q3.1, q3.2) else none))) else (if wib a3 57 = true then (Option.bind (f_M_nextToken (wc_up M 28 0 (a3).toNatClampNeg (M 21 0 12))) fun m7 => (Option.bind (f_M_takes a4 m7) fun q9 => (if wzb q9.1 = true then some (q9.1, q9.2) else none))) else none)) else (Option.bind (if (M 21 0 11) = (2 : Int32) then some (2 : Int32) else some (1 : Int32)) fun t10 => (Option.bind (f_M_faults t10 M) fun q12 => (if wzb q12.1 = true then some (q12.1, q12.2) else none))))
def l_M_readFour_6 (x2 : Int32) : Nat → Int32 → Int32 → wc_M → Option (Int32 × wc_M)
  | 0, _, _, _ => none
  | n + 1, x3, x4, M => (if (4 : Int32) ≤ x4 then some (x3, M) else (if x3 = (0 : Int32) then some (x3, M) else (Option.bind (if x4 = (3 : Int32) then some (59 : Int32) else some (44 : Int32)) fun t3 => (Option.bind (f_M_takesNumber (0 : Int32) (31 : Int32) (x2 + x4) t3 M) fun q5 => l_M_readFour_6 x2 n q5.1 (x4 + (1 : Int32)) q5.2))))
def f_M_readFour (a1 : Int32) (a2 : Int32) (M : wc_M) : Option (Int32 × wc_M) :=
  (Option.bind (f_M_takes a1 M) fun q2 => (Option.bind (l_M_readFour_6 a2 2000 q2.1 (0 : Int32) q2.2) fun t7 => (if wzb t7.1 = true then some (t7.1, t7.2) else none)))
def f_M_readWork (a1 : Int32) (M : wc_M) : Option (Int32 × wc_M) :=
  (if (M 21 0 16) = (6 : Int32) then (Option.bind (f_M_faults (3 : Int32) M) fun q2 => (if wzb q2.1 = true then some (q2.1, q2.2) else none)) else (Option.bind (f_M_nextToken M) fun m4 => (if (m4 21 0 11) = (2 : Int32) then (if (m4 21 0 12) ≤ (3 : Int32) then (Option.bind (f_M_nextToken (wc_up m4 21 0 17 (m4 21 0 12))) fun m6 => (Option.bind (f_M_takes (44 : Int32) m6) fun q8 => (if q8.1 = (0 : Int32) then some ((0 : Int32), q8.2) else (if (q8.2 21 0 11) = (2 : Int32) then (if (3 : Int32) < (q8.2 21 0 12) then (Option.bind (if (q8.2 21 0 11) = (2 : Int32) then some (2 : Int32) else some (1 : Int32)) fun t9 => (Option.bind (f_M_faults t9 q8.2) fun q11 => (if wzb q11.1 = true then some (q11.1, q11.2) else none))) else (if wib (((9 : Int32) + ((4 : Int32) * (q8.2 21 0 17))) + (q8.2 21 0 12)) 57 = true then (if (q8.2 28 0 ((((9 : Int32) + ((4 : Int32) * (q8.2 21 0 17))) + (q8.2 21 0 12))).toNatClampNeg) ≤ (0 : Int32) then (Option.bind (f_M_nextToken q8.2) fun m15 => (if wib ((9 : Int32) + (((4 : Int32) * (q8.2 21 0 17)) + (q8.2 21 0 12))) 57 = true then (Option.bind (f_M_takes (44 : Int32) (wc_up (wc_up m15 28 0 (((9 : Int32) + (((4 : Int32) * (q8.2 21 0 17)) + (q8.2 21 0 12)))).toNatClampNeg a1) 21 0 16 (((wc_up m15 28 0 (((9 : Int32) + (((4 : Int32) * (q8.2 21 0 17)) + (q8.2 21 0 12)))).toNatClampNeg a1) 21 0 16) + (1 : Int32)))) fun q18 => (if q18.1 = (0 : Int32) then some ((0 : Int32), q18.2) else (Option.bind (f_M_takesNumber (0 : Int32) (99 : Int32) ((25 : Int32) + (((4 : Int32) * (q8.2 21 0 17)) + (q8.2 21 0 12))) (59 : Int32) q18.2) fun q20 => (if q20.1 = (0 : Int32) then some ((0 : Int32), q20.2) else some ((1 : Int32), q20.2))))) else none)) else (Option.bind (if (q8.2 21 0 11) = (2 : Int32) then some (2 : Int32) else some (1 : Int32)) fun t21 => (Option.bind (f_M_faults t21 q8.2) fun q23 => (if wzb q23.1 = true then some (q23.1, q23.2) else none)))) else none)) else (Option.bind (if (q8.2 21 0 11) = (2 : Int32) then some (2 : Int32) else some (1 : Int32)) fun t25 => (Option.bind (f_M_faults t25 q8.2) fun q27 => (if wzb q27.1 = true then some (q27.1, q27.2) else none))))))) else (Option.bind (if (m4 21 0 11) = (2 : Int32) then some (2 : Int32) else some (1 : Int32)) fun t29 => (Option.bind (f_M_faults t29 m4) fun q31 => (if wzb q31.1 = true then some (q31.1, q31.2) else none)))) else (Option.bind (if (m4 21 0 11) = (2 : Int32) then some (2 : Int32) else some (1 : Int32)) fun t33 => (Option.bind (f_M_faults t33 m4) fun q35 => (if wzb q35.1 = true then some (q35.1, q35.2) else none))))))
def l_M_readPass_8 : Nat → Int32 → wc_M → Option (wc_M)
  | 0, _, _ => none
  | n + 1, x1, M => (if (57 : Int32) ≤ x1 then some M else (if wib x1 57 = true then l_M_readPass_8 n (x1 + (1 : Int32)) (wc_up M 28 0 (x1).toNatClampNeg (0 : Int32)) else none))
def l_M_readPass_34 : Nat → Int32 → wc_M → Option (Int32 × wc_M)
  | 0, _, _ => none
  | n + 1, x1, M => (if x1 = (0 : Int32) then some (x1, M) else (if (M 21 0 11) = (3 : Int32) then some (x1, M) else (Option.bind (if (f_M_isLetter (119 : Int32) M) = (0 : Int32) then (if (f_M_isLetter (110 : Int32) M) = (0 : Int32) then (if (f_M_isLetter (115 : Int32) M) = (0 : Int32) then (if (f_M_isLetter (104 : Int32) M) = (0 : Int32) then (if (f_M_isLetter (118 : Int32) M) = (0 : Int32) then some (0 : Int32) else some (5 : Int32)) else some (4 : Int32)) else some (3 : Int32)) else some (2 : Int32)) else some (1 : Int32)) fun t10 => (if t10 ≤ (0 : Int32) then (Option.bind (f_M_faults (1 : Int32) M) fun q12 => l_M_readPass_34 n q12.1 q12.2) else (Option.bind (f_M_readWork t10 M) fun q14 => l_M_readPass_34 n q14.1 q14.2)))))
def f_M_readPass (M : wc_M) : Option (Int32 × wc_M) :=
  (Option.bind (l_M_readPass_8 2000 (0 : Int32) (wc_up (wc_up M 21 0 10 (0 : Int32)) 21 0 16 (0 : Int32))) fun t2 => (Option.bind (f_M_nextToken t2) fun m5 => (Option.bind (f_M_readFour (97 : Int32) (1 : Int32) m5) fun q7 => (if q7.1 = (0 : Int32) then some ((0 : Int32), q7.2) else (Option.bind (f_M_readFour (98 : Int32) (5 : Int32) q7.2) fun q9 => (if q9.1 = (0 : Int32) then some ((0 : Int32), q9.2) else (Option.bind (l_M_readPass_34 2000 (1 : Int32) q9.2) fun t16 => (if wzb t16.1 = true then some (t16.1, t16.2) else none))))))))
def l_M_pass_19 : Nat → Int32 → wc_M → Option (wc_M)
  | 0, _, _ => none
  | n + 1, x2, M => (if (57 : Int32) ≤ x2 then some M else (if wib x2 57 = true then l_M_pass_19 n (x2 + (1 : Int32)) (wc_up M 25 0 (x2).toNatClampNeg (M 28 0 (x2).toNatClampNeg)) else none))
def f_M_pass (M : wc_M) : Option (Int32 × wc_M) :=
  (Option.bind (f_M_readPass M) fun q2 => (if q2.1 = (0 : Int32) then some (((-1000100 : Int32) - ((wc_up (wc_up q2.2 21 0 8 (0 : Int32)) 21 0 9 ((wc_up q2.2 21 0 8 (0 : Int32)) 21 0 14)) 21 0 13)), (wc_up (wc_up q2.2 21 0 8 (0 : Int32)) 21 0 9 ((wc_up q2.2 21 0 8 (0 : Int32)) 21 0 14))) else (Option.bind (l_M_pass_19 2000 (0 : Int32) (wc_up q2.2 21 0 8 (0 : Int32))) fun t4 => some (((wc_up (wc_up t4 21 0 4 (1 : Int32)) 21 0 22 (0 : Int32)) 21 0 16), (wc_up (wc_up t4 21 0 4 (1 : Int32)) 21 0 22 (0 : Int32))))))
def f_C_fault (M : wc_M) : Int32 :=
  (M 4 0 2)
def f_M_fault (M : wc_M) : Int32 :=
  (M 21 0 9)
def f_C_isCell (a0 : Int32) : Int32 :=
  (f_C_isUpTo a0 (15 : Int32))
theorem b_C_isCell (a0 : Int32) : f_C_isCell a0 = 0 ∨ f_C_isCell a0 = 1 := by
  exact b_C_isUpTo ..
def f_C_isWorkKind (a0 : Int32) : Int32 :=
  (if a0 < (1 : Int32) then (0 : Int32) else (if (5 : Int32) < a0 then (0 : Int32) else (1 : Int32)))
theorem b_C_isWorkKind (a0 : Int32) : f_C_isWorkKind a0 = 0 ∨ f_C_isWorkKind a0 = 1 := by
  unfold f_C_isWorkKind
  repeat' split
  all_goals first | exact Or.inl rfl | exact Or.inr rfl
def f_H_keep (p1 : Nat) (M : wc_M) : Option wc_M :=
  (if wib (M 16 0 1) 24 = true then (Option.bind (f_P_become (2 + ((M 16 0 1)).toNatClampNeg) p1 M) fun m3 => some (wc_up (wc_up m3 16 0 1 (wc_rem ((m3 16 0 1) + (1 : Int32)) (24 : Int32))) 16 0 2 (if (24 : Int32) < (((wc_up m3 16 0 1 (wc_rem ((m3 16 0 1) + (1 : Int32)) (24 : Int32))) 16 0 2) + (1 : Int32)) then (24 : Int32) else (((wc_up m3 16 0 1 (wc_rem ((m3 16 0 1) + (1 : Int32)) (24 : Int32))) 16 0 2) + (1 : Int32))))) else none)
def f_C_setUp (a1 : Int32) (a2 : Int32) (a3 : Int32) (M : wc_M) : Option (Int32 × wc_M) :=
  (if (M 6 0 5) = (0 : Int32) then some ((-1000002 : Int32), M) else (if (f_C_isCell a1) = (0 : Int32) then some ((-1000001 : Int32), M) else (if (f_C_isWorkKind a2) = (0 : Int32) then some ((-1000001 : Int32), M) else (if (f_C_isUpTo a3 (99 : Int32)) = (0 : Int32) then some ((-1000001 : Int32), M) else (Option.bind (f_P_hasWork 0 a1 M) fun v2 => (if v2 = (0 : Int32) then (Option.bind (f_P_works 0 M) fun v4 => (if v4 < (6 : Int32) then (Option.bind (f_H_keep 0 M) fun m6 => (Option.bind (f_P_put 0 a1 a2 a3 m6) fun m8 => (Option.bind (f_P_works 0 m8) fun v10 => some (v10, m8)))) else some ((-1000003 : Int32), M))) else some ((-1000002 : Int32), M)))))))
def f_M_isCell (a0 : Int32) : Int32 :=
  (f_M_in (a0).toInt64 (0 : Int64) (15 : Int64))
theorem b_M_isCell (a0 : Int32) : f_M_isCell a0 = 0 ∨ f_M_isCell a0 = 1 := by
  exact b_M_in ..
def f_M_isWork (a1 : Int32) (M : wc_M) : Option Int32 :=
  (if wib ((9 : Int32) + a1) 57 = true then (if (M 25 0 (((9 : Int32) + a1)).toNatClampNeg) ≤ (0 : Int32) then some (0 : Int32) else some (1 : Int32)) else none)
def l_M_workMany_4 (M : wc_M) : Nat → Int32 → Int32 → Option (Int32)
  | 0, _, _ => none
  | n + 1, x1, x2 => (if (16 : Int32) ≤ x2 then some x1 else (Option.bind (f_M_isWork x2 M) fun v2 => (if v2 = (0 : Int32) then l_M_workMany_4 M n (x1 + (0 : Int32)) (x2 + (1 : Int32)) else l_M_workMany_4 M n (x1 + (1 : Int32)) (x2 + (1 : Int32)))))
def f_M_workMany (M : wc_M) : Option Int32 :=
  (Option.bind (l_M_workMany_4 M 2000 (0 : Int32) (0 : Int32)) fun t3 => some t3)
def l_M_note_6 : Nat → Int32 → wc_M → Option (wc_M)
  | 0, _, _ => none
  | n + 1, x1, M => (if (1311 : Int32) ≤ x1 then some M else (if wib (x1 + (57 : Int32)) 1368 = true then (if wib x1 1368 = true then l_M_note_6 n (x1 + (1 : Int32)) (wc_up M 30 0 (x1).toNatClampNeg (M 30 0 ((x1 + (57 : Int32))).toNatClampNeg)) else none) else none))
def l_M_note_29 : Nat → Int32 → wc_M → Option (wc_M)
  | 0, _, _ => none
  | n + 1, x1, M => (if (57 : Int32) ≤ x1 then some M else (if wib x1 57 = true then (if wib (((57 : Int32) * (M 21 0 22)) + x1) 1368 = true then l_M_note_29 n (x1 + (1 : Int32)) (wc_up M 30 0 ((((57 : Int32) * (M 21 0 22)) + x1)).toNatClampNeg (M 25 0 (x1).toNatClampNeg)) else none) else none))
def f_M_note (M : wc_M) : Option wc_M :=
  (Option.bind (if (M 21 0 22) = (24 : Int32) then (Option.bind (l_M_note_6 2000 (0 : Int32) M) fun t2 => some (wc_up t2 21 0 22 ((t2 21 0 22) - (1 : Int32)))) else some M) fun t1 => (Option.bind (l_M_note_29 2000 (0 : Int32) t1) fun t6 => some (wc_up t6 21 0 22 ((t6 21 0 22) + (1 : Int32)))))
def f_M_setUp (a1 : Int32) (a2 : Int32) (a3 : Int32) (M : wc_M) : Option (Int32 × wc_M) :=
  (if (M 21 0 4) = (0 : Int32) then some ((-1000002 : Int32), M) else (if (f_M_isCell a1) = (0 : Int32) then some ((-1000001 : Int32), M) else (if (f_M_in (a2).toInt64 (1 : Int64) (5 : Int64)) = (0 : Int32) then some ((-1000001 : Int32), M) else (if (f_M_in (a3).toInt64 (0 : Int64) (99 : Int64)) = (0 : Int32) then some ((-1000001 : Int32), M) else (Option.bind (f_M_isWork a1 M) fun v2 => (if v2 = (0 : Int32) then (Option.bind (f_M_workMany M) fun v4 => (if v4 = (6 : Int32) then some ((-1000003 : Int32), M) else (Option.bind (f_M_note M) fun m6 => (if wib ((9 : Int32) + a1) 57 = true then (if wib ((25 : Int32) + a1) 57 = true then (if wib ((41 : Int32) + a1) 57 = true then (Option.bind (f_M_workMany (wc_up (wc_up (wc_up m6 25 0 (((9 : Int32) + a1)).toNatClampNeg a2) 25 0 (((25 : Int32) + a1)).toNatClampNeg a3) 25 0 (((41 : Int32) + a1)).toNatClampNeg (0 : Int32))) fun v11 => some (v11, (wc_up (wc_up (wc_up m6 25 0 (((9 : Int32) + a1)).toNatClampNeg a2) 25 0 (((25 : Int32) + a1)).toNatClampNeg a3) 25 0 (((41 : Int32) + a1)).toNatClampNeg (0 : Int32)))) else none) else none) else none)))) else some ((-1000002 : Int32), M)))))))
def f_C_take (a1 : Int32) (M : wc_M) : Option (Int32 × wc_M) :=
  (if (M 6 0 5) = (0 : Int32) then some ((-1000002 : Int32), M) else (if (f_C_isCell a1) = (0 : Int32) then some ((-1000001 : Int32), M) else (Option.bind (f_P_hasWork 0 a1 M) fun v2 => (if v2 = (0 : Int32) then some ((-1000002 : Int32), M) else (Option.bind (f_H_keep 0 M) fun m4 => (Option.bind (f_P_clear 0 a1 m4) fun m6 => (Option.bind (f_P_works 0 m6) fun v8 => some (v8, m6))))))))
def f_M_clear (a1 : Int32) (M : wc_M) : Option wc_M :=
  (if wib ((9 : Int32) + a1) 57 = true then (if wib ((25 : Int32) + a1) 57 = true then (if wib ((41 : Int32) + a1) 57 = true then some (wc_up (wc_up (wc_up M 25 0 (((9 : Int32) + a1)).toNatClampNeg (0 : Int32)) 25 0 (((25 : Int32) + a1)).toNatClampNeg (0 : Int32)) 25 0 (((41 : Int32) + a1)).toNatClampNeg (0 : Int32)) else none) else none) else none)
def f_M_take (a1 : Int32) (M : wc_M) : Option (Int32 × wc_M) :=
  (if (M 21 0 4) = (0 : Int32) then some ((-1000002 : Int32), M) else (if (f_M_isCell a1) = (0 : Int32) then some ((-1000001 : Int32), M) else (Option.bind (f_M_isWork a1 M) fun v2 => (if v2 = (0 : Int32) then some ((-1000002 : Int32), M) else (Option.bind (f_M_note M) fun m4 => (Option.bind (f_M_clear a1 m4) fun m6 => (Option.bind (f_M_workMany m6) fun v8 => some (v8, m6))))))))
def f_C_turn (a1 : Int32) (M : wc_M) : Option (Int32 × wc_M) :=
  (if (M 6 0 5) = (0 : Int32) then some ((-1000002 : Int32), M) else (if (f_C_isCell a1) = (0 : Int32) then some ((-1000001 : Int32), M) else (if wib a1 16 = true then (if (M 9 0 (a1).toNatClampNeg) = (3 : Int32) then (Option.bind (f_H_keep 0 M) fun m3 => some (((wc_up m3 11 0 (a1).toNatClampNeg ((1 : Int32) - (m3 11 0 (a1).toNatClampNeg))) 11 0 (a1).toNatClampNeg), (wc_up m3 11 0 (a1).toNatClampNeg ((1 : Int32) - (m3 11 0 (a1).toNatClampNeg))))) else some ((-1000002 : Int32), M)) else none)))
def f_M_turn (a1 : Int32) (M : wc_M) : Option (Int32 × wc_M) :=
  (if (M 21 0 4) = (0 : Int32) then some ((-1000002 : Int32), M) else (if (f_M_isCell a1) = (0 : Int32) then some ((-1000001 : Int32), M) else (if wib ((9 : Int32) + a1) 57 = true then (if (M 25 0 (((9 : Int32) + a1)).toNatClampNeg) = (3 : Int32) then (Option.bind (f_M_note M) fun m3 => (if wib ((41 : Int32) + a1) 57 = true then some (((wc_up m3 25 0 (((41 : Int32) + a1)).toNatClampNeg ((1 : Int32) - (m3 25 0 (((41 : Int32) + a1)).toNatClampNeg))) 25 0 (((41 : Int32) + a1)).toNatClampNeg), (wc_up m3 25 0 (((41 : Int32) + a1)).toNatClampNeg ((1 : Int32) - (m3 25 0 (((41 : Int32) + a1)).toNatClampNeg)))) else none)) else some ((-1000002 : Int32), M)) else none)))
def f_C_isLine (a0 : Int32) : Int32 :=
  (f_C_isUpTo a0 (3 : Int32))
theorem b_C_isLine (a0 : Int32) : f_C_isLine a0 = 0 ∨ f_C_isLine a0 = 1 := by
  exact b_C_isUpTo ..
def f_C_gust (a1 : Int32) (a2 : Int32) (M : wc_M) : Option (Int32 × wc_M) :=
  (if (M 6 0 5) = (0 : Int32) then some ((-1000002 : Int32), M) else (if (f_C_isLine a1) = (0 : Int32) then some ((-1000001 : Int32), M) else (if (f_C_isUpTo a2 (31 : Int32)) = (0 : Int32) then some ((-1000001 : Int32), M) else (if wib a1 4 = true then (Option.bind (f_H_keep 0 M) fun m3 => some ((M 7 0 (a1).toNatClampNeg), (wc_up m3 7 0 (a1).toNatClampNeg a2))) else none))))
def f_M_isRowOfPass (a0 : Int32) : Int32 :=
  (f_M_in (a0).toInt64 (0 : Int64) (3 : Int64))
theorem b_M_isRowOfPass (a0 : Int32) : f_M_isRowOfPass a0 = 0 ∨ f_M_isRowOfPass a0 = 1 := by
  exact b_M_in ..
def f_M_gust (a1 : Int32) (a2 : Int32) (M : wc_M) : Option (Int32 × wc_M) :=
  (if (M 21 0 4) = (0 : Int32) then some ((-1000002 : Int32), M) else (if (f_M_isRowOfPass a1) = (0 : Int32) then some ((-1000001 : Int32), M) else (if (f_M_in (a2).toInt64 (0 : Int64) (31 : Int64)) = (0 : Int32) then some ((-1000001 : Int32), M) else (Option.bind (f_M_note M) fun m2 => (if wib ((1 : Int32) + a1) 57 = true then some ((m2 25 0 (((1 : Int32) + a1)).toNatClampNeg), (wc_up m2 25 0 (((1 : Int32) + a1)).toNatClampNeg a2)) else none)))))
def f_A_on (p1 : Nat) (a2 : Int32) (M : wc_M) : Option Int32 :=
  (if wib a2 16 = true then (if (M 9 p1 (a2).toNatClampNeg) = (0 : Int32) then some (M 13 0 (a2).toNatClampNeg) else (if (M 9 p1 (a2).toNatClampNeg) = (1 : Int32) then some (0 : Int32) else (if (M 9 p1 (a2).toNatClampNeg) = (2 : Int32) then some ((M 13 0 (a2).toNatClampNeg) / (2 : Int32)) else (if (M 9 p1 (a2).toNatClampNeg) = (3 : Int32) then (if (M 11 p1 (a2).toNatClampNeg) = (1 : Int32) then some (M 13 0 (a2).toNatClampNeg) else some (0 : Int32)) else some (0 : Int32))))) else none)
def f_A_north (a0 : Int32) (a1 : Int32) (a2 : Int32) : Int32 :=
  (if a0 = (4 : Int32) then a1 else (if a0 = (5 : Int32) then (if (wc_rem a2 (2 : Int32)) = (0 : Int32) then a1 else (0 : Int32)) else (a1 / (2 : Int32))))
def f_A_bring (a1 : Int32) (a2 : Int32) (a3 : Int32) (M : wc_M) : Option wc_M :=
  (if a2 < (0 : Int32) then some (wc_up M 12 0 2 ((M 12 0 2) + a3)) else (if a2 < (4 : Int32) then (if a1 < (4 : Int32) then (if wib (((4 : Int32) * a1) + a2) 16 = true then some (wc_up M 13 0 ((((4 : Int32) * a1) + a2)).toNatClampNeg ((M 13 0 ((((4 : Int32) * a1) + a2)).toNatClampNeg) + a3)) else none) else (if wib a2 4 = true then some (wc_up M 14 0 (a2).toNatClampNeg ((M 14 0 (a2).toNatClampNeg) + a3)) else none)) else some (wc_up M 12 0 2 ((M 12 0 2) + a3))))
def f_A_part (a1 : Int32) (a2 : Int32) (p3 : Nat) (M : wc_M) : Option wc_M :=
  (if wib a1 16 = true then (Option.bind (f_A_bring ((a1 / (4 : Int32)) + (1 : Int32)) (wc_rem a1 (4 : Int32)) a2 M) fun m3 => (Option.bind (f_A_bring ((a1 / (4 : Int32)) + (1 : Int32)) ((wc_rem a1 (4 : Int32)) - (1 : Int32)) (f_A_north (M 9 p3 (a1).toNatClampNeg) ((M 13 0 (a1).toNatClampNeg) - a2) (M 6 p3 6)) m3) fun m5 => (Option.bind (f_A_bring ((a1 / (4 : Int32)) + (1 : Int32)) ((wc_rem a1 (4 : Int32)) + (1 : Int32)) (((M 13 0 (a1).toNatClampNeg) - a2) - (f_A_north (M 9 p3 (a1).toNatClampNeg) ((M 13 0 (a1).toNatClampNeg) - a2) (M 6 p3 6))) m5) fun m7 => some m7))) else none)
def l_A_blow_2 (p1 : Nat) : Nat → Int32 → wc_M → Option (wc_M)
  | 0, _, _ => none
  | n + 1, x2, M => (if (16 : Int32) ≤ x2 then some M else (Option.bind (if (4 : Int32) ≤ x2 then some (0 : Int32) else (if wib x2 4 = true then some (M 7 p1 (x2).toNatClampNeg) else none)) fun t1 => (if wib x2 16 = true then l_A_blow_2 p1 n (x2 + (1 : Int32)) (wc_up M 13 0 (x2).toNatClampNeg t1) else none)))
def l_A_blow_22 (p1 : Nat) : Nat → Int32 → wc_M → Option (wc_M)
  | 0, _, _ => none
  | n + 1, x2, M => (if (4 : Int32) ≤ x2 then some M else (if wib x2 4 = true then l_A_blow_22 p1 n (x2 + (1 : Int32)) (wc_up M 14 0 (x2).toNatClampNeg (0 : Int32)) else none))
def l_A_blow_37 (p1 : Nat) : Nat → Int32 → wc_M → Option (wc_M)
  | 0, _, _ => none
  | n + 1, x2, M => (if (16 : Int32) ≤ x2 then some M else (Option.bind (f_A_on p1 x2 M) fun v11 => (Option.bind (f_A_part x2 v11 p1 M) fun m13 => l_A_blow_37 p1 n (x2 + (1 : Int32)) m13)))
def f_A_blow (p1 : Nat) (M : wc_M) : Option wc_M :=
  (Option.bind (l_A_blow_2 p1 2000 (0 : Int32) M) fun t5 => (Option.bind (l_A_blow_22 p1 2000 (0 : Int32) t5) fun t8 => (Option.bind (l_A_blow_37 p1 2000 (0 : Int32) (wc_up t8 12 0 2 (0 : Int32))) fun t14 => some t14)))
def f_P_isTooMuch (p0 : Nat) (a1 : Int32) (a2 : Int32) (M : wc_M) : Option Int32 :=
  (Option.bind (f_P_hasWork p0 a1 M) fun v2 => (if v2 = (0 : Int32) then some (0 : Int32) else (if wib a1 16 = true then (if a2 ≤ (M 10 p0 (a1).toNatClampNeg) then some (0 : Int32) else some (1 : Int32)) else none)))
def l_P_breakAndRise_2 (p0 : Nat) : Nat → Int32 → wc_M → Option (wc_M)
  | 0, _, _ => none
  | n + 1, x2, M => (if (16 : Int32) ≤ x2 then some M else (if wib x2 16 = true then (Option.bind (f_P_isTooMuch p0 x2 (M 13 0 (x2).toNatClampNeg) M) fun v3 => (if v3 = (0 : Int32) then l_P_breakAndRise_2 p0 n (x2 + (1 : Int32)) M else (Option.bind (f_P_clear p0 x2 M) fun m5 => l_P_breakAndRise_2 p0 n (x2 + (1 : Int32)) m5))) else none))
def l_P_breakAndRise_25 (p0 : Nat) : Nat → Int32 → wc_M → Option (wc_M)
  | 0, _, _ => none
  | n + 1, x2, M => (if (4 : Int32) ≤ x2 then some M else (if wib x2 4 = true then l_P_breakAndRise_25 p0 n (x2 + (1 : Int32)) (wc_up M 7 p0 (x2).toNatClampNeg (wc_rem ((M 7 p0 (x2).toNatClampNeg) + (M 8 p0 (x2).toNatClampNeg)) (32 : Int32))) else none))
def f_P_breakAndRise (p0 : Nat) (M : wc_M) : Option wc_M :=
  (Option.bind (l_P_breakAndRise_2 p0 2000 (0 : Int32) M) fun t6 => (Option.bind (l_P_breakAndRise_25 p0 2000 (0 : Int32) (wc_up t6 6 p0 6 ((t6 6 p0 6) + (1 : Int32)))) fun t9 => some t9))
def f_C_spendHour (p1 : Nat) (M : wc_M) : Option wc_M :=
  (Option.bind (f_A_blow p1 M) fun m2 => (Option.bind (f_P_breakAndRise p1 m2) fun m4 => some m4))
def l_C_hours_25 (x1 : Int32) : Nat → Int32 → wc_M → Option (wc_M)
  | 0, _, _ => none
  | n + 1, x2, M => (if x1 ≤ x2 then some M else (Option.bind (f_H_keep 0 M) fun m2 => (Option.bind (f_C_spendHour 0 m2) fun m4 => l_C_hours_25 x1 n (x2 + (1 : Int32)) m4)))
def f_C_hours (a1 : Int32) (M : wc_M) : Option (Int32 × wc_M) :=
  (if (M 6 0 5) = (0 : Int32) then some ((-1000002 : Int32), M) else (if a1 < (1 : Int32) then some ((-1000001 : Int32), M) else (if a1 ≤ (20 : Int32) then (if ((M 6 0 6) + a1) ≤ (999 : Int32) then (Option.bind (l_C_hours_25 a1 2000 (0 : Int32) M) fun t5 => (Option.bind (f_P_works 0 t5) fun v8 => some (v8, t5))) else some ((-1000003 : Int32), M)) else some ((-1000001 : Int32), M))))
def f_M_goes (a1 : Int32) (a2 : Int32) (a3 : Int32) (M : wc_M) : Option wc_M :=
  (if (f_M_isRowOfPass a2) = (0 : Int32) then some (wc_up M 21 0 19 ((M 21 0 19) + a3)) else (if wib ((((4 : Int32) * a1) + (4 : Int32)) + a2) 20 = true then some (wc_up M 29 0 (((((4 : Int32) * a1) + (4 : Int32)) + a2)).toNatClampNeg ((M 29 0 (((((4 : Int32) * a1) + (4 : Int32)) + a2)).toNatClampNeg) + a3)) else none))
def l_M_blow_5 : Nat → Int32 → wc_M → Option (wc_M)
  | 0, _, _ => none
  | n + 1, x1, M => (if (20 : Int32) ≤ x1 then some M else (Option.bind (if (4 : Int32) ≤ x1 then some (0 : Int32) else (if wib ((1 : Int32) + x1) 57 = true then some (M 25 0 (((1 : Int32) + x1)).toNatClampNeg) else none)) fun t1 => (if wib x1 20 = true then l_M_blow_5 n (x1 + (1 : Int32)) (wc_up M 29 0 (x1).toNatClampNeg t1) else none)))
def l_M_blow_27 : Nat → Int32 → wc_M → Option (wc_M)
  | 0, _, _ => none
  | n + 1, x1, M => (if (16 : Int32) ≤ x1 then some M else (if wib x1 20 = true then (if wib ((9 : Int32) + x1) 57 = true then (Option.bind (if (M 25 0 (((9 : Int32) + x1)).toNatClampNeg) = (4 : Int32) then some (1 : Int32) else (if (M 25 0 (((9 : Int32) + x1)).toNatClampNeg) = (5 : Int32) then (if (wc_rem (M 25 0 ((0 : Int32)).toNatClampNeg) (2 : Int32)) = (0 : Int32) then some (1 : Int32) else some (0 : Int32)) else some (0 : Int32))) fun t9 => (Option.bind (if (M 25 0 (((9 : Int32) + x1)).toNatClampNeg) = (0 : Int32) then some (M 29 0 (x1).toNatClampNeg) else (if (M 25 0 (((9 : Int32) + x1)).toNatClampNeg) = (3 : Int32) then (if wib ((41 : Int32) + x1) 57 = true then (if (M 25 0 (((41 : Int32) + x1)).toNatClampNeg) = (1 : Int32) then some (M 29 0 (x1).toNatClampNeg) else (if (M 25 0 (((9 : Int32) + x1)).toNatClampNeg) = (2 : Int32) then some ((M 29 0 (x1).toNatClampNeg) / (2 : Int32)) else some (0 : Int32))) else none) else (if (M 25 0 (((9 : Int32) + x1)).toNatClampNeg) = (2 : Int32) then some ((M 29 0 (x1).toNatClampNeg) / (2 : Int32)) else some (0 : Int32)))) fun t10 => (Option.bind (if (M 25 0 (((9 : Int32) + x1)).toNatClampNeg) < (4 : Int32) then some (((M 29 0 (x1).toNatClampNeg) - t10) / (2 : Int32)) else (if t9 = (0 : Int32) then some (0 : Int32) else some (M 29 0 (x1).toNatClampNeg))) fun t12 => (Option.bind (f_M_goes (x1 / (4 : Int32)) (wc_rem x1 (4 : Int32)) t10 M) fun m14 => (Option.bind (f_M_goes (x1 / (4 : Int32)) ((wc_rem x1 (4 : Int32)) - (1 : Int32)) t12 m14) fun m16 => (Option.bind (f_M_goes (x1 / (4 : Int32)) ((wc_rem x1 (4 : Int32)) + (1 : Int32)) (((M 29 0 (x1).toNatClampNeg) - t10) - t12) m16) fun m18 => l_M_blow_27 n (x1 + (1 : Int32)) m18)))))) else none) else none))
def f_M_blow (M : wc_M) : Option wc_M :=
  (Option.bind (l_M_blow_5 2000 (0 : Int32) (wc_up M 21 0 19 (0 : Int32))) fun t5 => (Option.bind (l_M_blow_27 2000 (0 : Int32) t5) fun t22 => some t22))
def l_M_oneHour_7 : Nat → Int32 → wc_M → Option (wc_M)
  | 0, _, _ => none
  | n + 1, x1, M => (if (16 : Int32) ≤ x1 then some M else (Option.bind (f_M_isWork x1 M) fun v4 => (if v4 = (0 : Int32) then l_M_oneHour_7 n (x1 + (1 : Int32)) M else (if wib x1 20 = true then (if wib ((25 : Int32) + x1) 57 = true then (if (M 29 0 (x1).toNatClampNeg) ≤ (M 25 0 (((25 : Int32) + x1)).toNatClampNeg) then l_M_oneHour_7 n (x1 + (1 : Int32)) M else (Option.bind (f_M_clear x1 (wc_up M 21 0 20 ((M 21 0 20) ||| ((1 : Int32) <<< (x1 &&& (31 : Int32)))))) fun m8 => l_M_oneHour_7 n (x1 + (1 : Int32)) m8)) else none) else none))))
def l_M_oneHour_48 : Nat → Int32 → wc_M → Option (wc_M)
  | 0, _, _ => none
  | n + 1, x1, M => (if (4 : Int32) ≤ x1 then some M else (if wib ((1 : Int32) + x1) 57 = true then (if wib ((5 : Int32) + x1) 57 = true then l_M_oneHour_48 n (x1 + (1 : Int32)) (wc_up M 25 0 (((1 : Int32) + x1)).toNatClampNeg (wc_rem ((M 25 0 (((1 : Int32) + x1)).toNatClampNeg) + (M 25 0 (((5 : Int32) + x1)).toNatClampNeg)) (32 : Int32))) else none) else none))
def f_M_oneHour (M : wc_M) : Option wc_M :=
  (Option.bind (f_M_blow M) fun m2 => (Option.bind (l_M_oneHour_7 2000 (0 : Int32) (wc_up m2 21 0 20 (0 : Int32))) fun t9 => (Option.bind (l_M_oneHour_48 2000 (0 : Int32) (wc_up t9 25 0 ((0 : Int32)).toNatClampNeg ((t9 25 0 ((0 : Int32)).toNatClampNeg) + (1 : Int32)))) fun t13 => some t13)))
def l_M_hours_25 (x1 : Int32) : Nat → Int32 → wc_M → Option (wc_M)
  | 0, _, _ => none
  | n + 1, x2, M => (if x1 ≤ x2 then some M else (Option.bind (f_M_note M) fun m2 => (Option.bind (f_M_oneHour m2) fun m4 => l_M_hours_25 x1 n (x2 + (1 : Int32)) m4)))
def f_M_hours (a1 : Int32) (M : wc_M) : Option (Int32 × wc_M) :=
  (if (M 21 0 4) = (0 : Int32) then some ((-1000002 : Int32), M) else (if (f_M_in (a1).toInt64 (1 : Int64) (20 : Int64)) = (0 : Int32) then some ((-1000001 : Int32), M) else (if ((M 25 0 ((0 : Int32)).toNatClampNeg) + a1) ≤ (999 : Int32) then (Option.bind (l_M_hours_25 a1 2000 (0 : Int32) M) fun t5 => (Option.bind (f_M_workMany t5) fun v8 => some (v8, t5))) else some ((-1000003 : Int32), M))))
def f_H_takeBack (p1 : Nat) (M : wc_M) : Option wc_M :=
  (if wib ((wc_up (wc_up M 16 0 1 (wc_rem (((M 16 0 1) + (24 : Int32)) - (1 : Int32)) (24 : Int32))) 16 0 2 (((wc_up M 16 0 1 (wc_rem (((M 16 0 1) + (24 : Int32)) - (1 : Int32)) (24 : Int32))) 16 0 2) - (1 : Int32))) 16 0 1) 24 = true then (Option.bind (f_P_become p1 (2 + (((wc_up (wc_up M 16 0 1 (wc_rem (((M 16 0 1) + (24 : Int32)) - (1 : Int32)) (24 : Int32))) 16 0 2 (((wc_up M 16 0 1 (wc_rem (((M 16 0 1) + (24 : Int32)) - (1 : Int32)) (24 : Int32))) 16 0 2) - (1 : Int32))) 16 0 1)).toNatClampNeg) (wc_up (wc_up M 16 0 1 (wc_rem (((M 16 0 1) + (24 : Int32)) - (1 : Int32)) (24 : Int32))) 16 0 2 (((wc_up M 16 0 1 (wc_rem (((M 16 0 1) + (24 : Int32)) - (1 : Int32)) (24 : Int32))) 16 0 2) - (1 : Int32)))) fun m3 => some m3) else none)
def f_C_undo (M : wc_M) : Option (Int32 × wc_M) :=
  (if (M 16 0 2) = (0 : Int32) then some ((-1000002 : Int32), M) else (Option.bind (f_H_takeBack 0 M) fun m2 => some ((m2 16 0 2), m2)))
def l_M_undo_13 : Nat → Int32 → wc_M → Option (wc_M)
  | 0, _, _ => none
  | n + 1, x1, M => (if (57 : Int32) ≤ x1 then some M else (if wib (((57 : Int32) * (M 21 0 22)) + x1) 1368 = true then (if wib x1 57 = true then l_M_undo_13 n (x1 + (1 : Int32)) (wc_up M 25 0 (x1).toNatClampNeg (M 30 0 ((((57 : Int32) * (M 21 0 22)) + x1)).toNatClampNeg)) else none) else none))
def f_M_undo (M : wc_M) : Option (Int32 × wc_M) :=
  (if (M 21 0 22) = (0 : Int32) then some ((-1000002 : Int32), M) else (Option.bind (l_M_undo_13 2000 (0 : Int32) (wc_up M 21 0 22 ((M 21 0 22) - (1 : Int32)))) fun t3 => some ((t3 21 0 22), t3)))
def f_C_feltNow (a1 : Int32) (M : wc_M) : Option (Int32 × wc_M) :=
  (Option.bind (f_A_blow 0 M) fun m2 => (if wib a1 16 = true then some ((m2 13 0 (a1).toNatClampNeg), m2) else none))
def f_C_cell (a1 : Int32) (a2 : Int32) (M : wc_M) : Option (Int32 × wc_M) :=
  (if (M 6 0 5) = (0 : Int32) then some ((-1000002 : Int32), M) else (if (f_C_isCell a1) = (0 : Int32) then some ((-1000001 : Int32), M) else (if (f_C_isUpTo a2 (3 : Int32)) = (0 : Int32) then some ((-1000001 : Int32), M) else (if a2 = (0 : Int32) then (Option.bind (f_C_feltNow a1 M) fun q2 => some (q2.1, q2.2)) else (Option.bind (f_P_hasWork 0 a1 M) fun v4 => (if v4 = (0 : Int32) then some ((-1000000 : Int32), M) else (if a2 = (1 : Int32) then (if wib a1 16 = true then some ((M 9 0 (a1).toNatClampNeg), M) else none) else (if a2 = (2 : Int32) then (if wib a1 16 = true then some ((M 10 0 (a1).toNatClampNeg), M) else none) else (if wib a1 16 = true then some ((M 11 0 (a1).toNatClampNeg), M) else none)))))))))
def f_M_feltNow (a1 : Int32) (M : wc_M) : Option (Int32 × wc_M) :=
  (Option.bind (f_M_blow M) fun m2 => (if wib a1 20 = true then some ((m2 29 0 (a1).toNatClampNeg), m2) else none))
def f_M_cell (a1 : Int32) (a2 : Int32) (M : wc_M) : Option (Int32 × wc_M) :=
  (if (M 21 0 4) = (0 : Int32) then some ((-1000002 : Int32), M) else (if (f_M_isCell a1) = (0 : Int32) then some ((-1000001 : Int32), M) else (if (f_M_in (a2).toInt64 (0 : Int64) (3 : Int64)) = (0 : Int32) then some ((-1000001 : Int32), M) else (if a2 = (0 : Int32) then (Option.bind (f_M_feltNow a1 M) fun q2 => some (q2.1, q2.2)) else (Option.bind (f_M_isWork a1 M) fun v4 => (if v4 = (0 : Int32) then some ((-1000000 : Int32), M) else (Option.bind (if a2 = (1 : Int32) then some (9 : Int32) else (if a2 = (2 : Int32) then some (25 : Int32) else some (41 : Int32))) fun t5 => (if wib (t5 + a1) 57 = true then some ((M 25 0 ((t5 + a1)).toNatClampNeg), M) else none))))))))
def f_C_wind (a1 : Int32) (a2 : Int32) (M : wc_M) : Option Int32 :=
  (if (M 6 0 5) = (0 : Int32) then some (-1000002 : Int32) else (if (f_C_isLine a1) = (0 : Int32) then some (-1000001 : Int32) else (if (f_C_isUpTo a2 (1 : Int32)) = (0 : Int32) then some (-1000001 : Int32) else (if a2 = (0 : Int32) then (if wib a1 4 = true then some (M 7 0 (a1).toNatClampNeg) else none) else (if wib a1 4 = true then some (M 8 0 (a1).toNatClampNeg) else none)))))
def f_M_wind (a1 : Int32) (a2 : Int32) (M : wc_M) : Option Int32 :=
  (if (M 21 0 4) = (0 : Int32) then some (-1000002 : Int32) else (if (f_M_isRowOfPass a1) = (0 : Int32) then some (-1000001 : Int32) else (if (f_M_in (a2).toInt64 (0 : Int64) (1 : Int64)) = (0 : Int32) then some (-1000001 : Int32) else (if a2 = (0 : Int32) then (if wib ((1 : Int32) + a1) 57 = true then some (M 25 0 (((1 : Int32) + a1)).toNatClampNeg) else none) else (if wib ((5 : Int32) + a1) 57 = true then some (M 25 0 (((5 : Int32) + a1)).toNatClampNeg) else none)))))
def l_C_foretell_7 (x1 : Int32) : Nat → Int32 → wc_M → Option (wc_M)
  | 0, _, _ => none
  | n + 1, x2, M => (if x1 ≤ x2 then some M else (Option.bind (f_C_spendHour 1 M) fun m4 => l_C_foretell_7 x1 n (x2 + (1 : Int32)) m4))
def f_C_foretell (a1 : Int32) (M : wc_M) : Option wc_M :=
  (Option.bind (f_P_become 1 0 M) fun m2 => (Option.bind (l_C_foretell_7 a1 2000 (0 : Int32) m2) fun t5 => (Option.bind (f_A_blow 1 t5) fun m8 => some m8)))
def f_C_felt (a1 : Int32) (a2 : Int32) (M : wc_M) : Option (Int32 × wc_M) :=
  (if (M 6 0 5) = (0 : Int32) then some ((-1000002 : Int32), M) else (if (f_C_isCell a1) = (0 : Int32) then some ((-1000001 : Int32), M) else (if (f_C_isUpTo a2 (40 : Int32)) = (0 : Int32) then some ((-1000001 : Int32), M) else (Option.bind (f_C_foretell a2 M) fun m2 => (if wib a1 16 = true then some ((m2 13 0 (a1).toNatClampNeg), m2) else none)))))
def l_M_putAside_2 : Nat → Int32 → wc_M → Option (wc_M)
  | 0, _, _ => none
  | n + 1, x1, M => (if (57 : Int32) ≤ x1 then some M else (if wib x1 57 = true then l_M_putAside_2 n (x1 + (1 : Int32)) (wc_up M 31 0 (x1).toNatClampNeg (M 25 0 (x1).toNatClampNeg)) else none))
def f_M_putAside (M : wc_M) : Option wc_M :=
  (Option.bind (l_M_putAside_2 2000 (0 : Int32) M) fun t2 => some t2)
def l_M_takeBack_2 : Nat → Int32 → wc_M → Option (wc_M)
  | 0, _, _ => none
  | n + 1, x1, M => (if (57 : Int32) ≤ x1 then some M else (if wib x1 57 = true then l_M_takeBack_2 n (x1 + (1 : Int32)) (wc_up M 25 0 (x1).toNatClampNeg (M 31 0 (x1).toNatClampNeg)) else none))
def f_M_takeBack (M : wc_M) : Option wc_M :=
  (Option.bind (l_M_takeBack_2 2000 (0 : Int32) M) fun t2 => some t2)
def l_M_blowIn_4 (x1 : Int32) : Nat → Int32 → wc_M → Option (wc_M)
  | 0, _, _ => none
  | n + 1, x2, M => (if x1 ≤ x2 then some M else (Option.bind (f_M_oneHour M) fun m4 => l_M_blowIn_4 x1 n (x2 + (1 : Int32)) m4))
def f_M_blowIn (a1 : Int32) (M : wc_M) : Option wc_M :=
  (Option.bind (f_M_putAside M) fun m2 => (Option.bind (l_M_blowIn_4 a1 2000 (0 : Int32) m2) fun t5 => (Option.bind (f_M_blow t5) fun m8 => (Option.bind (f_M_takeBack m8) fun m10 => some m10))))
def f_M_felt (a1 : Int32) (a2 : Int32) (M : wc_M) : Option (Int32 × wc_M) :=
  (if (M 21 0 4) = (0 : Int32) then some ((-1000002 : Int32), M) else (if (f_M_isCell a1) = (0 : Int32) then some ((-1000001 : Int32), M) else (if (f_M_in (a2).toInt64 (0 : Int64) (40 : Int64)) = (0 : Int32) then some ((-1000001 : Int32), M) else (Option.bind (f_M_blowIn a2 M) fun m2 => (if wib a1 20 = true then some ((m2 29 0 (a1).toNatClampNeg), m2) else none)))))
def f_C_lost (a1 : Int32) (M : wc_M) : Option (Int32 × wc_M) :=
  (if (M 6 0 5) = (0 : Int32) then some ((-1000002 : Int32), M) else (if (f_C_isUpTo a1 (40 : Int32)) = (0 : Int32) then some ((-1000001 : Int32), M) else (Option.bind (f_C_foretell a1 M) fun m2 => some ((m2 12 0 2), m2))))
def f_M_lost (a1 : Int32) (M : wc_M) : Option (Int32 × wc_M) :=
  (if (M 21 0 4) = (0 : Int32) then some ((-1000002 : Int32), M) else (if (f_M_in (a1).toInt64 (0 : Int64) (40 : Int64)) = (0 : Int32) then some ((-1000001 : Int32), M) else (Option.bind (f_M_blowIn a1 M) fun m2 => some ((m2 21 0 19), m2))))
def f_C_leaves (a1 : Int32) (a2 : Int32) (M : wc_M) : Option (Int32 × wc_M) :=
  (if (M 6 0 5) = (0 : Int32) then some ((-1000002 : Int32), M) else (if (f_C_isLine a1) = (0 : Int32) then some ((-1000001 : Int32), M) else (if (f_C_isUpTo a2 (40 : Int32)) = (0 : Int32) then some ((-1000001 : Int32), M) else (Option.bind (f_C_foretell a2 M) fun m2 => (if wib a1 4 = true then some ((m2 14 0 (a1).toNatClampNeg), m2) else none)))))
def f_M_leaves (a1 : Int32) (a2 : Int32) (M : wc_M) : Option (Int32 × wc_M) :=
  (if (M 21 0 4) = (0 : Int32) then some ((-1000002 : Int32), M) else (if (f_M_isRowOfPass a1) = (0 : Int32) then some ((-1000001 : Int32), M) else (if (f_M_in (a2).toInt64 (0 : Int64) (40 : Int64)) = (0 : Int32) then some ((-1000001 : Int32), M) else (Option.bind (f_M_blowIn a2 M) fun m2 => (if wib ((16 : Int32) + a1) 20 = true then some ((m2 29 0 (((16 : Int32) + a1)).toNatClampNeg), m2) else none)))))
def l_P_firstToBreak_2 (p0 : Nat) (M : wc_M) : Nat → Int32 → Option ((Int32) ⊕ (Unit))
  | 0, _ => none
  | n + 1, x2 => (if (16 : Int32) ≤ x2 then some (.inr ()) else (if wib x2 16 = true then (Option.bind (f_P_isTooMuch p0 x2 (M 13 0 (x2).toNatClampNeg) M) fun v3 => (if v3 = (0 : Int32) then l_P_firstToBreak_2 p0 M n (x2 + (1 : Int32)) else some (.inl x2))) else none))
def f_P_firstToBreak (p0 : Nat) (M : wc_M) : Option Int32 :=
  (Option.bind (l_P_firstToBreak_2 p0 M 2000 (0 : Int32)) fun o6 => wel (fun r7 => some r7) (fun t4 => some (-1000000 : Int32)) o6)
def l_C_breaks_19 (x1 : Int32) : Nat → Int32 → wc_M → Option ((Int32 × wc_M) ⊕ (wc_M))
  | 0, _, _ => none
  | n + 1, x2, M => (if (40 : Int32) < x2 then some (.inr M) else (Option.bind (f_A_blow 1 M) fun m4 => (Option.bind (f_P_firstToBreak 1 m4) fun v6 => (if v6 = (-1000000 : Int32) then (Option.bind (f_C_spendHour 1 m4) fun m8 => l_C_breaks_19 x1 n (x2 + (1 : Int32)) m8) else (if x1 = (0 : Int32) then some (.inl (x2, m4)) else some (.inl (v6, m4)))))))
def f_C_breaks (a1 : Int32) (M : wc_M) : Option (Int32 × wc_M) :=
  (if (M 6 0 5) = (0 : Int32) then some ((-1000002 : Int32), M) else (if (f_C_isUpTo a1 (1 : Int32)) = (0 : Int32) then some ((-1000001 : Int32), M) else (Option.bind (f_P_become 1 0 M) fun m2 => (Option.bind (l_C_breaks_19 a1 2000 (1 : Int32) m2) fun o11 => wel (fun r12 => some r12) (fun t9 => some ((-1000000 : Int32), t9)) o11))))
def f_M_has (a0 : Int32) (a1 : Int32) : Int32 :=
  (if ((a0 >>> (a1 &&& (31 : Int32))) &&& (1 : Int32)) = (1 : Int32) then (1 : Int32) else (0 : Int32))
theorem b_M_has (a0 : Int32) (a1 : Int32) : f_M_has a0 a1 = 0 ∨ f_M_has a0 a1 = 1 := by
  unfold f_M_has
  repeat' split
  all_goals first | exact Or.inl rfl | exact Or.inr rfl
def l_M_breaks_20 (x1 : Int32) : Nat → Int32 → wc_M → Option (Int32 × wc_M)
  | 0, _, _ => none
  | n + 1, x2, M => (if (40 : Int32) ≤ x2 then some (x2, M) else (if (M 21 0 20) = (0 : Int32) then (Option.bind (f_M_oneHour M) fun m4 => l_M_breaks_20 x1 n (x2 + (1 : Int32)) m4) else some (x2, M)))
def l_M_breaks_36 (x1 : Int32) (x2 : Int32) (M : wc_M) : Nat → Int32 → Int32 → Option (Int32)
  | 0, _, _ => none
  | n + 1, x3, x4 => (if x4 < (0 : Int32) then some x3 else (if (f_M_has (M 21 0 20) x4) = (0 : Int32) then l_M_breaks_36 x1 x2 M n x3 (x4 + (-1 : Int32)) else l_M_breaks_36 x1 x2 M n x4 (x4 + (-1 : Int32))))
def f_M_breaks (a1 : Int32) (M : wc_M) : Option (Int32 × wc_M) :=
  (if (M 21 0 4) = (0 : Int32) then some ((-1000002 : Int32), M) else (if (f_M_in (a1).toInt64 (0 : Int64) (1 : Int64)) = (0 : Int32) then some ((-1000001 : Int32), M) else (Option.bind (f_M_putAside M) fun m2 => (Option.bind (l_M_breaks_20 a1 2000 (0 : Int32) (wc_up m2 21 0 20 (0 : Int32))) fun t5 => (Option.bind (f_M_takeBack t5.2) fun m8 => (Option.bind (l_M_breaks_36 a1 t5.1 m8 2000 (-1000000 : Int32) (15 : Int32)) fun t9 => (if (0 : Int32) ≤ t9 then (if a1 = (0 : Int32) then some (t5.1, m8) else some (t9, m8)) else some ((-1000000 : Int32), m8))))))))
def l_C_isFeltEverywhere_2 (p1 : Nat) (x2 : Int32) (M : wc_M) : Nat → Int32 → Option ((Int32) ⊕ (Unit))
  | 0, _ => none
  | n + 1, x3 => (if (16 : Int32) ≤ x3 then some (.inr ()) else (if wib (x2 + x3) 40 = true then (if wib x3 16 = true then (if (M 3 p1 ((x2 + x3)).toNatClampNeg) = (M 13 0 (x3).toNatClampNeg) then l_C_isFeltEverywhere_2 p1 x2 M n (x3 + (1 : Int32)) else some (.inl (0 : Int32))) else none) else none))
def f_C_isFeltEverywhere (p1 : Nat) (a2 : Int32) (M : wc_M) : Option Int32 :=
  (Option.bind (l_C_isFeltEverywhere_2 p1 a2 M 2000 (0 : Int32)) fun o5 => wel (fun r6 => some r6) (fun t3 => some (1 : Int32)) o5)
def l_C_stands_31 (x1 : Int32) (x2 : Int32) : Nat → Int32 → wc_M → Option ((Int32 × wc_M) ⊕ (wc_M))
  | 0, _, _ => none
  | n + 1, x4, M => (if (40 : Int32) ≤ x4 then some (.inr M) else (Option.bind (f_A_blow 1 M) fun m6 => (if wib x1 8 = true then (Option.bind (f_C_isFeltEverywhere (x1).toNatClampNeg x2 m6) fun v9 => (if v9 = (0 : Int32) then (Option.bind (f_C_withoutFinding x4 m6) fun q11 => some (.inl (q11.1, q11.2))) else (Option.bind (f_C_spendHour 1 m6) fun m13 => l_C_stands_31 x1 x2 n (x4 + (1 : Int32)) m13))) else none)))
def f_C_stands (a1 : Int32) (a2 : Int32) (M : wc_M) : Option (Int32 × wc_M) :=
  (if (M 6 0 5) = (0 : Int32) then some ((-1000002 : Int32), M) else (if (f_C_isUpTo a1 (7 : Int32)) = (0 : Int32) then some ((-1000001 : Int32), M) else (Option.bind (f_C_findingIn a1 a2 (16 : Int32) M) fun v2 => (if v2 = (0 : Int32) then (Option.bind (f_P_become 1 0 M) fun m4 => (Option.bind (l_C_stands_31 a1 a2 2000 (0 : Int32) m4) fun o18 => wel (fun r19 => some r19) (fun t14 => (Option.bind (f_C_withoutFinding (40 : Int32) t14) fun q17 => some (q17.1, q17.2))) o18)) else (Option.bind (f_C_found v2 M) fun q21 => some (q21.1, q21.2))))))
def f_M_lacks (a1 : Int32) (a2 : Int32) (a3 : Int32) (M : wc_M) : Option (Int32 × wc_M) :=
  (if wib a1 8 = true then (if (0 : Int32) ≤ (M 23 0 (a1).toNatClampNeg) then (if (f_M_in (a2).toInt64 (0 : Int64) (((M 23 0 (a1).toNatClampNeg) - a3)).toInt64) = (0 : Int32) then (Option.bind (f_M_find (2 : Int32) M) fun q3 => some (q3.1, q3.2)) else some ((0 : Int32), M)) else (Option.bind (f_M_find (1 : Int32) M) fun q5 => some (q5.1, q5.2))) else none)
def l_M_stands_35 (x1 : Int32) (x2 : Int32) (x4 : Int32) (M : wc_M) : Nat → Int32 → Int32 → Option (Int32)
  | 0, _, _ => none
  | n + 1, x5, x6 => (if (16 : Int32) ≤ x6 then some x5 else (if x5 = (0 : Int32) then l_M_stands_35 x1 x2 x4 M n (0 : Int32) (x6 + (1 : Int32)) else (if wib ((((40 : Int32) * x1) + x2) + x6) 320 = true then (if wib x6 20 = true then (if (M 24 0 (((((40 : Int32) * x1) + x2) + x6)).toNatClampNeg) = (M 29 0 (x6).toNatClampNeg) then l_M_stands_35 x1 x2 x4 M n (1 : Int32) (x6 + (1 : Int32)) else l_M_stands_35 x1 x2 x4 M n (0 : Int32) (x6 + (1 : Int32))) else none) else none)))
def l_M_stands_26 (x1 : Int32) (x2 : Int32) : Nat → Int32 → Int32 → wc_M → Option (Int32 × wc_M)
  | 0, _, _, _ => none
  | n + 1, x4, x5, M => (if x5 = (0 : Int32) then some (x4, M) else (if (40 : Int32) ≤ x4 then some (x4, M) else (Option.bind (f_M_blow M) fun m6 => (Option.bind (l_M_stands_35 x1 x2 x4 m6 2000 x5 (0 : Int32)) fun t7 => (Option.bind (if t7 = (0 : Int32) then some (0 : Int32) else some (1 : Int32)) fun t9 => (Option.bind (f_M_oneHour m6) fun m11 => l_M_stands_26 x1 x2 n (x4 + t9) t7 m11))))))
def f_M_stands (a1 : Int32) (a2 : Int32) (M : wc_M) : Option (Int32 × wc_M) :=
  (if (M 21 0 4) = (0 : Int32) then some ((-1000002 : Int32), M) else (if (f_M_isRow a1) = (0 : Int32) then some ((-1000001 : Int32), M) else (Option.bind (f_M_lacks a1 a2 (16 : Int32) M) fun q2 => (if (0 : Int32) ≤ q2.1 then (Option.bind (f_M_putAside q2.2) fun m4 => (Option.bind (l_M_stands_26 a1 a2 2000 (0 : Int32) (1 : Int32) m4) fun t13 => (Option.bind (f_M_takeBack t13.2) fun m16 => (Option.bind (f_M_well t13.1 m16) fun q18 => some (q18.1, q18.2))))) else some (q2.1, q2.2)))))
def l_C_chooseWall_2 (x1 : Int32) (x3 : Int32) (x4 : Int32) : Nat → Int32 → wc_M → Option ((Int32 × wc_M) ⊕ (wc_M))
  | 0, _, _ => none
  | n + 1, x5, M => (if (16 : Int32) ≤ x5 then some (.inr M) else (Option.bind (f_P_hasWork 0 x5 M) fun v2 => (if v2 = (0 : Int32) then (Option.bind (f_P_put 1 x5 (1 : Int32) (0 : Int32) M) fun m4 => (Option.bind (f_A_blow 1 m4) fun m6 => (Option.bind (f_P_clear 1 x5 m6) fun m8 => (if wib x3 16 = true then (if (m8 13 0 (x3).toNatClampNeg) < x4 then l_C_chooseWall_2 x1 x3 x4 n (x5 + (1 : Int32)) m8 else (if wib x1 2 = true then some (.inl ((1 : Int32), (wc_up m8 15 0 (x1).toNatClampNeg x5))) else none)) else none)))) else l_C_chooseWall_2 x1 x3 x4 n (x5 + (1 : Int32)) M)))
def f_C_chooseWall (a1 : Int32) (a2 : Int32) (a3 : Int32) (a4 : Int32) (M : wc_M) : Option (Int32 × wc_M) :=
  (Option.bind (l_C_chooseWall_2 a1 a3 a4 2000 a2 M) fun o13 => wel (fun r14 => some r14) (fun t11 => some ((0 : Int32), t11)) o13)
def l_C_chooseWalls_30 (x1 : Int32) (x2 : Int32) : Nat → Int32 → wc_M → Option ((Int32 × wc_M) ⊕ (wc_M))
  | 0, _, _ => none
  | n + 1, x3, M => (if (16 : Int32) ≤ x3 then some (.inr M) else (Option.bind (f_P_hasWork 0 x3 M) fun v9 => (if v9 = (0 : Int32) then (Option.bind (f_P_put 1 x3 (1 : Int32) (0 : Int32) M) fun m11 => (Option.bind (f_C_chooseWall (1 : Int32) (x3 + (1 : Int32)) x1 x2 (wc_up m11 15 0 ((0 : Int32)).toNatClampNeg x3)) fun q13 => (if q13.1 = (0 : Int32) then (Option.bind (f_P_clear 1 x3 q13.2) fun m15 => l_C_chooseWalls_30 x1 x2 n (x3 + (1 : Int32)) m15) else some (.inl ((2 : Int32), q13.2))))) else l_C_chooseWalls_30 x1 x2 n (x3 + (1 : Int32)) M)))
def f_C_chooseWalls (a1 : Int32) (a2 : Int32) (M : wc_M) : Option (Int32 × wc_M) :=
  (Option.bind (f_P_become 1 0 M) fun m2 => (Option.bind (f_A_blow 1 m2) fun m4 => (if wib a1 16 = true then (if (m4 13 0 (a1).toNatClampNeg) < a2 then (Option.bind (f_C_chooseWall (0 : Int32) (0 : Int32) a1 a2 m4) fun q7 => (if q7.1 = (0 : Int32) then (Option.bind (l_C_chooseWalls_30 a1 a2 2000 (0 : Int32) q7.2) fun o18 => wel (fun r19 => some r19) (fun t16 => some ((-1000000 : Int32), t16)) o18) else some ((1 : Int32), q7.2))) else some ((0 : Int32), m4)) else none)))
def f_C_walls (a1 : Int32) (a2 : Int32) (a3 : Int32) (M : wc_M) : Option (Int32 × wc_M) :=
  (if (M 6 0 5) = (0 : Int32) then some ((-1000002 : Int32), M) else (if (f_C_isCell a1) = (0 : Int32) then some ((-1000001 : Int32), M) else (if (f_C_isUpTo a2 (99 : Int32)) = (0 : Int32) then some ((-1000001 : Int32), M) else (if a3 < (-1 : Int32) then some ((-1000001 : Int32), M) else (if a3 ≤ (1 : Int32) then (Option.bind (f_C_chooseWalls a1 a2 M) fun q2 => (if a3 < (0 : Int32) then some (q2.1, q2.2) else (if q2.1 = (-1000000 : Int32) then some (q2.1, q2.2) else (if q2.1 ≤ a3 then some ((-1000000 : Int32), q2.2) else (if wib a3 2 = true then some ((q2.2 15 0 (a3).toNatClampNeg), q2.2) else none))))) else some ((-1000001 : Int32), M))))))
def f_M_feltWith (a1 : Int32) (a2 : Int32) (a3 : Int32) (M : wc_M) : Option (Int32 × wc_M) :=
  (Option.bind (f_M_putAside M) fun m2 => (Option.bind (if a2 < (0 : Int32) then some m2 else (if wib ((9 : Int32) + a2) 57 = true then some (wc_up m2 25 0 (((9 : Int32) + a2)).toNatClampNeg (1 : Int32)) else none)) fun t3 => (Option.bind (if a3 < (0 : Int32) then some t3 else (if wib ((9 : Int32) + a3) 57 = true then some (wc_up t3 25 0 (((9 : Int32) + a3)).toNatClampNeg (1 : Int32)) else none)) fun t5 => (Option.bind (f_M_feltNow a1 t5) fun q8 => (Option.bind (f_M_takeBack q8.2) fun m10 => some (q8.1, m10))))))
def l_M_walls_35 (x1 : Int32) (x2 : Int32) (x3 : Int32) : Nat → Int32 → wc_M → Option ((Int32 × wc_M) ⊕ (wc_M))
  | 0, _, _ => none
  | n + 1, x4, M => (if (16 : Int32) ≤ x4 then some (.inr M) else (Option.bind (f_M_isWork x4 M) fun v4 => (if v4 = (0 : Int32) then (Option.bind (f_M_feltWith x1 x4 (-1 : Int32) M) fun q6 => (if q6.1 < x2 then l_M_walls_35 x1 x2 x3 n (x4 + (1 : Int32)) q6.2 else (if (0 : Int32) ≤ x3 then (if x3 = (0 : Int32) then some (.inl (x4, q6.2)) else some (.inl ((-1000000 : Int32), q6.2))) else some (.inl ((1 : Int32), q6.2))))) else l_M_walls_35 x1 x2 x3 n (x4 + (1 : Int32)) M)))
def l_M_walls_70 (x1 : Int32) (x2 : Int32) (x3 : Int32) (x4 : Int32) : Nat → Int32 → wc_M → Option ((Int32 × wc_M) ⊕ (wc_M))
  | 0, _, _ => none
  | n + 1, x5, M => (if (16 : Int32) ≤ x5 then some (.inr M) else (Option.bind (f_M_isWork x4 M) fun v10 => (if v10 = (0 : Int32) then (Option.bind (f_M_isWork x5 M) fun v12 => (if v12 = (0 : Int32) then (Option.bind (f_M_feltWith x1 x4 x5 M) fun q14 => (if q14.1 < x2 then l_M_walls_70 x1 x2 x3 x4 n (x5 + (1 : Int32)) q14.2 else (if (0 : Int32) ≤ x3 then (if x3 = (0 : Int32) then some (.inl (x4, q14.2)) else some (.inl (x5, q14.2))) else some (.inl ((2 : Int32), q14.2))))) else l_M_walls_70 x1 x2 x3 x4 n (x5 + (1 : Int32)) M)) else l_M_walls_70 x1 x2 x3 x4 n (x5 + (1 : Int32)) M)))
def l_M_walls_63 (x1 : Int32) (x2 : Int32) (x3 : Int32) : Nat → Int32 → wc_M → Option ((Int32 × wc_M) ⊕ (wc_M))
  | 0, _, _ => none
  | n + 1, x4, M => (if (16 : Int32) ≤ x4 then some (.inr M) else (Option.bind (l_M_walls_70 x1 x2 x3 x4 2000 (x4 + (1 : Int32)) M) fun o11 => wel (fun r12 => some (.inl r12)) (fun t9 => l_M_walls_63 x1 x2 x3 n (x4 + (1 : Int32)) t9) o11))
def f_M_walls (a1 : Int32) (a2 : Int32) (a3 : Int32) (M : wc_M) : Option (Int32 × wc_M) :=
  (if (M 21 0 4) = (0 : Int32) then some ((-1000002 : Int32), M) else (if (f_M_isCell a1) = (0 : Int32) then some ((-1000001 : Int32), M) else (if (f_M_in (a2).toInt64 (0 : Int64) (99 : Int64)) = (0 : Int32) then some ((-1000001 : Int32), M) else (if (f_M_in (a3).toInt64 (-1 : Int64) (1 : Int64)) = (0 : Int32) then some ((-1000001 : Int32), M) else (Option.bind (f_M_feltNow a1 M) fun q2 => (if q2.1 < a2 then (Option.bind (l_M_walls_35 a1 a2 a3 2000 (0 : Int32) q2.2) fun o17 => wel (fun r18 => some r18) (fun t7 => (Option.bind (l_M_walls_63 a1 a2 a3 2000 (0 : Int32) t7) fun o15 => wel (fun r16 => some r16) (fun t13 => some ((-1000000 : Int32), t13)) o15)) o17) else (if (0 : Int32) ≤ a3 then some ((-1000000 : Int32), q2.2) else some ((0 : Int32), q2.2))))))))
def l_C_isFeltAlong_2 (x1 : Int32) (p2 : Nat) (x3 : Int32) (M : wc_M) : Nat → Int32 → Option ((Int32) ⊕ (Unit))
  | 0, _ => none
  | n + 1, x4 => (if (4 : Int32) ≤ x4 then some (.inr ()) else (if wib (x3 + x4) 40 = true then (if wib (((4 : Int32) * x4) + x1) 16 = true then (if (M 3 p2 ((x3 + x4)).toNatClampNeg) = (M 13 0 ((((4 : Int32) * x4) + x1)).toNatClampNeg) then l_C_isFeltAlong_2 x1 p2 x3 M n (x4 + (1 : Int32)) else some (.inl (0 : Int32))) else none) else none))
def f_C_isFeltAlong (a1 : Int32) (p2 : Nat) (a3 : Int32) (M : wc_M) : Option Int32 :=
  (Option.bind (l_C_isFeltAlong_2 a1 p2 a3 M 2000 (0 : Int32)) fun o5 => wel (fun r6 => some r6) (fun t3 => some (1 : Int32)) o5)
def l_C_hidden_39 (x1 : Int32) (x2 : Int32) (x3 : Int32) (x4 : Int32) : Nat → Int32 → Int32 → wc_M → Option (Int32 × wc_M)
  | 0, _, _, _ => none
  | n + 1, x6, x7, M => (if (16 : Int32) ≤ x7 then some (x6, M) else (Option.bind (f_P_hasWork 0 x7 M) fun v6 => (if v6 = (0 : Int32) then (Option.bind (f_P_put 1 x7 x1 (0 : Int32) M) fun m8 => (Option.bind (f_A_blow 1 m8) fun m10 => (Option.bind (f_P_clear 1 x7 m10) fun m12 => (if wib x3 8 = true then (Option.bind (f_C_isFeltAlong x2 (x3).toNatClampNeg x4 m12) fun v15 => (if v15 = (0 : Int32) then l_C_hidden_39 x1 x2 x3 x4 n x6 (x7 + (1 : Int32)) m12 else l_C_hidden_39 x1 x2 x3 x4 n (x6 ||| ((1 : Int32) <<< (x7 &&& (31 : Int32)))) (x7 + (1 : Int32)) m12)) else none)))) else l_C_hidden_39 x1 x2 x3 x4 n x6 (x7 + (1 : Int32)) M)))
def f_C_hidden (a1 : Int32) (a2 : Int32) (a3 : Int32) (a4 : Int32) (M : wc_M) : Option (Int32 × wc_M) :=
  (if (M 6 0 5) = (0 : Int32) then some ((-1000002 : Int32), M) else (if (f_C_isWorkKind a1) = (0 : Int32) then some ((-1000001 : Int32), M) else (if (f_C_isLine a2) = (0 : Int32) then some ((-1000001 : Int32), M) else (if (f_C_isUpTo a3 (7 : Int32)) = (0 : Int32) then some ((-1000001 : Int32), M) else (Option.bind (f_C_findingIn a3 a4 (4 : Int32) M) fun v2 => (if v2 = (0 : Int32) then (Option.bind (f_P_become 1 0 M) fun m4 => (Option.bind (l_C_hidden_39 a1 a2 a3 a4 2000 (0 : Int32) (0 : Int32) m4) fun t16 => (Option.bind (f_C_withoutFinding t16.1 t16.2) fun q19 => some (q19.1, q19.2)))) else (Option.bind (f_C_found v2 M) fun q21 => some (q21.1, q21.2))))))))
def l_M_hidden_53 (x1 : Int32) (x2 : Int32) (x3 : Int32) (x4 : Int32) (x6 : Int32) (x7 : Int32) (M : wc_M) : Nat → Int32 → Int32 → Option (Int32)
  | 0, _, _ => none
  | n + 1, x8, x9 => (if (4 : Int32) ≤ x9 then some x8 else (if x8 = (0 : Int32) then l_M_hidden_53 x1 x2 x3 x4 x6 x7 M n (0 : Int32) (x9 + (1 : Int32)) else (if wib ((((40 : Int32) * x3) + x4) + x9) 320 = true then (if wib (((4 : Int32) * x9) + x2) 20 = true then (if (M 24 0 (((((40 : Int32) * x3) + x4) + x9)).toNatClampNeg) = (M 29 0 ((((4 : Int32) * x9) + x2)).toNatClampNeg) then l_M_hidden_53 x1 x2 x3 x4 x6 x7 M n (1 : Int32) (x9 + (1 : Int32)) else l_M_hidden_53 x1 x2 x3 x4 x6 x7 M n (0 : Int32) (x9 + (1 : Int32))) else none) else none)))
def l_M_hidden_33 (x1 : Int32) (x2 : Int32) (x3 : Int32) (x4 : Int32) : Nat → Int32 → Int32 → wc_M → Option (Int32 × wc_M)
  | 0, _, _, _ => none
  | n + 1, x6, x7, M => (if (16 : Int32) ≤ x7 then some (x6, M) else (Option.bind (f_M_isWork x7 M) fun v4 => (if v4 = (0 : Int32) then (if wib ((9 : Int32) + x7) 57 = true then (Option.bind (f_M_blow (wc_up M 25 0 (((9 : Int32) + x7)).toNatClampNeg x1)) fun m7 => (Option.bind (l_M_hidden_53 x1 x2 x3 x4 x6 x7 m7 2000 (1 : Int32) (0 : Int32)) fun t8 => (if t8 = (0 : Int32) then l_M_hidden_33 x1 x2 x3 x4 n (x6 ||| (0 : Int32)) (x7 + (1 : Int32)) (wc_up m7 25 0 (((9 : Int32) + x7)).toNatClampNeg (0 : Int32)) else l_M_hidden_33 x1 x2 x3 x4 n (x6 ||| ((1 : Int32) <<< (x7 &&& (31 : Int32)))) (x7 + (1 : Int32)) (wc_up m7 25 0 (((9 : Int32) + x7)).toNatClampNeg (0 : Int32))))) else none) else l_M_hidden_33 x1 x2 x3 x4 n x6 (x7 + (1 : Int32)) M)))
def f_M_hidden (a1 : Int32) (a2 : Int32) (a3 : Int32) (a4 : Int32) (M : wc_M) : Option (Int32 × wc_M) :=
  (if (M 21 0 4) = (0 : Int32) then some ((-1000002 : Int32), M) else (if (f_M_in (a1).toInt64 (1 : Int64) (5 : Int64)) = (0 : Int32) then some ((-1000001 : Int32), M) else (if (f_M_isRowOfPass a2) = (0 : Int32) then some ((-1000001 : Int32), M) else (if (f_M_isRow a3) = (0 : Int32) then some ((-1000001 : Int32), M) else (Option.bind (f_M_lacks a3 a4 (4 : Int32) M) fun q2 => (if (0 : Int32) ≤ q2.1 then (Option.bind (l_M_hidden_33 a1 a2 a3 a4 2000 (0 : Int32) (0 : Int32) q2.2) fun t10 => (Option.bind (f_M_well t10.1 t10.2) fun q13 => some (q13.1, q13.2))) else some (q2.1, q2.2)))))))
def l_C_most_26 (x1 : Int32) (x2 : Int32) : Nat → Int32 → Int32 → Int32 → wc_M → Option (Int32 × Int32 × wc_M)
  | 0, _, _, _, _ => none
  | n + 1, x3, x4, x5, M => (if (16 : Int32) ≤ x5 then some (x3, x4, M) else (Option.bind (f_P_hasWork 0 x5 M) fun v4 => (if v4 = (0 : Int32) then (Option.bind (f_P_put 1 x5 (1 : Int32) (0 : Int32) M) fun m6 => (Option.bind (f_A_blow 1 m6) fun m8 => (Option.bind (f_P_clear 1 x5 m8) fun m10 => (if wib x1 4 = true then (if (m10 14 0 (x1).toNatClampNeg) ≤ x4 then l_C_most_26 x1 x2 n x3 x4 (x5 + (1 : Int32)) m10 else l_C_most_26 x1 x2 n x5 (m10 14 0 (x1).toNatClampNeg) (x5 + (1 : Int32)) m10) else none)))) else l_C_most_26 x1 x2 n x3 x4 (x5 + (1 : Int32)) M)))
def f_C_most (a1 : Int32) (a2 : Int32) (M : wc_M) : Option (Int32 × wc_M) :=
  (if (M 6 0 5) = (0 : Int32) then some ((-1000002 : Int32), M) else (if (f_C_isLine a1) = (0 : Int32) then some ((-1000001 : Int32), M) else (if (f_C_isUpTo a2 (1 : Int32)) = (0 : Int32) then some ((-1000001 : Int32), M) else (Option.bind (f_P_become 1 0 M) fun m2 => (Option.bind (l_C_most_26 a1 a2 2000 (-1000000 : Int32) (-1000000 : Int32) (0 : Int32) m2) fun t12 => (if a2 = (0 : Int32) then some (t12.1, t12.2.2) else some (t12.2.1, t12.2.2)))))))
def l_M_most_22 (x1 : Int32) (x2 : Int32) : Nat → Int32 → Int32 → Int32 → wc_M → Option (Int32 × Int32 × wc_M)
  | 0, _, _, _, _ => none
  | n + 1, x3, x4, x5, M => (if (16 : Int32) ≤ x5 then some (x3, x4, M) else (Option.bind (f_M_isWork x5 M) fun v2 => (if v2 = (0 : Int32) then (if wib ((9 : Int32) + x5) 57 = true then (Option.bind (f_M_blow (wc_up M 25 0 (((9 : Int32) + x5)).toNatClampNeg (1 : Int32))) fun m5 => (if wib ((16 : Int32) + x1) 20 = true then (Option.bind (if ((wc_up m5 25 0 (((9 : Int32) + x5)).toNatClampNeg (0 : Int32)) 29 0 (((16 : Int32) + x1)).toNatClampNeg) ≤ x4 then some x3 else some x5) fun t7 => (if ((wc_up m5 25 0 (((9 : Int32) + x5)).toNatClampNeg (0 : Int32)) 29 0 (((16 : Int32) + x1)).toNatClampNeg) ≤ x4 then l_M_most_22 x1 x2 n t7 x4 (x5 + (1 : Int32)) (wc_up m5 25 0 (((9 : Int32) + x5)).toNatClampNeg (0 : Int32)) else l_M_most_22 x1 x2 n t7 ((wc_up m5 25 0 (((9 : Int32) + x5)).toNatClampNeg (0 : Int32)) 29 0 (((16 : Int32) + x1)).toNatClampNeg) (x5 + (1 : Int32)) (wc_up m5 25 0 (((9 : Int32) + x5)).toNatClampNeg (0 : Int32)))) else none)) else none) else l_M_most_22 x1 x2 n x3 x4 (x5 + (1 : Int32)) M)))
def f_M_most (a1 : Int32) (a2 : Int32) (M : wc_M) : Option (Int32 × wc_M) :=
  (if (M 21 0 4) = (0 : Int32) then some ((-1000002 : Int32), M) else (if (f_M_isRowOfPass a1) = (0 : Int32) then some ((-1000001 : Int32), M) else (if (f_M_in (a2).toInt64 (0 : Int64) (1 : Int64)) = (0 : Int32) then some ((-1000001 : Int32), M) else (Option.bind (l_M_most_22 a1 a2 2000 (-1000000 : Int32) (-1 : Int32) (0 : Int32) M) fun t9 => (if (0 : Int32) ≤ t9.1 then (if a2 = (0 : Int32) then some (t9.1, t9.2.2) else some (t9.2.1, t9.2.2)) else some ((-1000000 : Int32), t9.2.2))))))
def l_C_breakByLot_11 (x2 : Int32) : Nat → Int32 → Int32 → Int32 → wc_M → Option (Int32 × wc_M)
  | 0, _, _, _, _ => none
  | n + 1, x3, x4, x5, M => (if (16 : Int32) ≤ x5 then some (x3, M) else (Option.bind (f_P_hasWork 0 x5 M) fun v4 => (if v4 = (0 : Int32) then l_C_breakByLot_11 x2 n x3 x4 (x5 + (1 : Int32)) M else (Option.bind (if (x4 &&& (1 : Int32)) = (1 : Int32) then (Option.bind (f_P_clear 1 x5 M) fun m7 => some ((x3 * x2), m7)) else some ((x3 * ((10 : Int32) - x2)), M)) fun t5 => l_C_breakByLot_11 x2 n t5.1 (x4 >>> ((1 : Int32) &&& (31 : Int32))) (x5 + (1 : Int32)) t5.2))))
def f_C_breakByLot (a1 : Int32) (a2 : Int32) (M : wc_M) : Option (Int32 × wc_M) :=
  (Option.bind (f_P_become 1 0 M) fun m2 => (Option.bind (l_C_breakByLot_11 a2 2000 (1 : Int32) a1 (0 : Int32) m2) fun t9 => some (t9.1, t9.2)))
def l_C_commonDivisor_6 : Nat → Int32 → Int32 → Int32 → Option (Int32)
  | 0, _, _, _ => none
  | n + 1, x2, x3, x4 => (if (100 : Int32) ≤ x4 then some x2 else (if x3 ≤ (0 : Int32) then some x2 else (if ¬ x3 = (0 : Int32) then l_C_commonDivisor_6 n x3 (wc_rem x2 x3) (x4 + (1 : Int32)) else none)))
def f_C_commonDivisor (a0 : Int32) (a1 : Int32) : Option Int32 :=
  (Option.bind (l_C_commonDivisor_6 2000 a0 a1 (0 : Int32)) fun t2 => some (if (1 : Int32) < t2 then t2 else (1 : Int32)))
def l_C_lots_31 (x1 : Int32) (x2 : Int32) (x3 : Int32) (x4 : Int32) : Nat → Int32 → Int32 → Int32 → Option (Int32 × Int32)
  | 0, _, _, _ => none
  | n + 1, x5, x6, x7 => (if x7 ≤ (0 : Int32) then some (x5, x6) else l_C_lots_31 x1 x2 x3 x4 n (x5 * (2 : Int32)) (x6 * (10 : Int32)) (x7 + (-1 : Int32)))
def l_C_lots_47 (x1 : Int32) (x2 : Int32) (x3 : Int32) (x4 : Int32) (x5 : Int32) (x6 : Int32) : Nat → Int32 → Int32 → wc_M → Option (Int32 × wc_M)
  | 0, _, _, _ => none
  | n + 1, x7, x8, M => (if x5 ≤ x8 then some (x7, M) else (Option.bind (f_C_breakByLot x8 x3 M) fun q6 => (Option.bind (f_A_blow 1 q6.2) fun m8 => (if wib x1 16 = true then (if (m8 13 0 (x1).toNatClampNeg) < x2 then l_C_lots_47 x1 x2 x3 x4 x5 x6 n x7 (x8 + (1 : Int32)) m8 else l_C_lots_47 x1 x2 x3 x4 x5 x6 n (x7 + q6.1) (x8 + (1 : Int32)) m8) else none))))
def f_C_lots (a1 : Int32) (a2 : Int32) (a3 : Int32) (a4 : Int32) (M : wc_M) : Option (Int32 × wc_M) :=
  (if (M 6 0 5) = (0 : Int32) then some ((-1000002 : Int32), M) else (if (f_C_isCell a1) = (0 : Int32) then some ((-1000001 : Int32), M) else (if (f_C_isUpTo a2 (99 : Int32)) = (0 : Int32) then some ((-1000001 : Int32), M) else (if (f_C_isUpTo a3 (10 : Int32)) = (0 : Int32) then some ((-1000001 : Int32), M) else (if (f_C_isUpTo a4 (1 : Int32)) = (0 : Int32) then some ((-1000001 : Int32), M) else (Option.bind (f_P_works 0 M) fun v2 => (Option.bind (l_C_lots_31 a1 a2 a3 a4 2000 (1 : Int32) (1 : Int32) v2) fun t3 => (Option.bind (l_C_lots_47 a1 a2 a3 a4 t3.1 t3.2 2000 (0 : Int32) (0 : Int32) M) fun t10 => (Option.bind (f_C_commonDivisor t3.2 t10.1) fun v13 => (Option.bind (if a4 = (0 : Int32) then some t10.1 else some t3.2) fun t14 => (if ¬ v13 = (0 : Int32) then some ((t14 / v13), t10.2) else none)))))))))))
def l_M_lots_39 (x1 : Int32) (x2 : Int32) (x3 : Int32) (x4 : Int32) (x5 : Int32) (x6 : Int32) : Nat → Int32 → Int32 → Option (Int32)
  | 0, _, _ => none
  | n + 1, x7, x8 => (if x5 ≤ x8 then some x7 else l_M_lots_39 x1 x2 x3 x4 x5 x6 n (x7 * (10 : Int32)) (x8 + (1 : Int32)))
def l_M_lots_61 (x1 : Int32) (x2 : Int32) (x3 : Int32) (x4 : Int32) (x5 : Int32) (x6 : Int32) (x7 : Int32) (x8 : Int32) : Nat → Int32 → Int32 → Int32 → wc_M → Option (Int32 × wc_M)
  | 0, _, _, _, _ => none
  | n + 1, x9, x10, x11, M => (if (16 : Int32) ≤ x11 then some (x9, M) else (Option.bind (f_M_isWork x11 M) fun v8 => (if v8 = (0 : Int32) then l_M_lots_61 x1 x2 x3 x4 x5 x6 x7 x8 n x9 x10 (x11 + (1 : Int32)) M else (Option.bind (if (f_M_has x8 x10) = (0 : Int32) then some ((10 : Int32) - x3) else some x3) fun t9 => (if (f_M_has x8 x10) = (0 : Int32) then l_M_lots_61 x1 x2 x3 x4 x5 x6 x7 x8 n (x9 * t9) (x10 + (1 : Int32)) (x11 + (1 : Int32)) M else (Option.bind (f_M_clear x11 M) fun m11 => l_M_lots_61 x1 x2 x3 x4 x5 x6 x7 x8 n (x9 * t9) (x10 + (1 : Int32)) (x11 + (1 : Int32)) m11))))))
def l_M_lots_50 (x1 : Int32) (x2 : Int32) (x3 : Int32) (x4 : Int32) (x5 : Int32) (x7 : Int32) : Nat → Int32 → Int32 → wc_M → Option (Int32 × wc_M)
  | 0, _, _, _ => none
  | n + 1, x6, x8, M => (if ((1 : Int32) <<< (x5 &&& (31 : Int32))) ≤ x8 then some (x6, M) else (Option.bind (l_M_lots_61 x1 x2 x3 x4 x5 x6 x7 x8 2000 (1 : Int32) (0 : Int32) (0 : Int32) M) fun t7 => (Option.bind (f_M_feltNow x1 t7.2) fun q10 => (Option.bind (if q10.1 < x2 then some (0 : Int32) else some t7.1) fun t11 => (Option.bind (f_M_takeBack q10.2) fun m13 => l_M_lots_50 x1 x2 x3 x4 x5 x7 n (x6 + t11) (x8 + (1 : Int32)) m13)))))
def l_M_lots_109 (x4 : Int32) (x6 : Int32) (x7 : Int32) : Nat → Int32 → Int32 → Option (Int32)
  | 0, _, _ => none
  | n + 1, x8, x9 => (if x9 = (0 : Int32) then some x8 else (if ¬ x9 = (0 : Int32) then l_M_lots_109 x4 x6 x7 n x9 (wc_rem x8 x9) else none))
def f_M_lots (a1 : Int32) (a2 : Int32) (a3 : Int32) (a4 : Int32) (M : wc_M) : Option (Int32 × wc_M) :=
  (if (M 21 0 4) = (0 : Int32) then some ((-1000002 : Int32), M) else (if (f_M_isCell a1) = (0 : Int32) then some ((-1000001 : Int32), M) else (if (f_M_in (a2).toInt64 (0 : Int64) (99 : Int64)) = (0 : Int32) then some ((-1000001 : Int32), M) else (if (f_M_in (a3).toInt64 (0 : Int64) (10 : Int64)) = (0 : Int32) then some ((-1000001 : Int32), M) else (if (f_M_in (a4).toInt64 (0 : Int64) (1 : Int64)) = (0 : Int32) then some ((-1000001 : Int32), M) else (Option.bind (f_M_putAside M) fun m2 => (Option.bind (f_M_workMany m2) fun v4 => (Option.bind (l_M_lots_39 a1 a2 a3 a4 v4 (0 : Int32) 2000 (1 : Int32) (0 : Int32)) fun t5 => (Option.bind (l_M_lots_50 a1 a2 a3 a4 v4 t5 2000 (0 : Int32) (0 : Int32) m2) fun t15 => (Option.bind (l_M_lots_109 a4 t15.1 t5 2000 t15.1 t5) fun t18 => (if a4 = (0 : Int32) then (if ¬ t18 = (0 : Int32) then some ((t15.1 / t18), t15.2) else none) else (if ¬ t18 = (0 : Int32) then some ((t5 / t18), t15.2) else none))))))))))))
def f_C_image (a1 : Int32) (M : wc_M) : Option (Int32 × wc_M) :=
  (if (f_C_isUpTo a1 (1 : Int32)) = (0 : Int32) then some ((-1000001 : Int32), M) else (if (M 6 0 5) = (0 : Int32) then some ((-1000002 : Int32), M) else (if wib a1 2 = true then (Option.bind (f_P_become (26 + (a1).toNatClampNeg) 0 M) fun m3 => some ((1 : Int32), m3)) else none)))
def l_M_image_15 (x1 : Int32) : Nat → Int32 → wc_M → Option (wc_M)
  | 0, _, _ => none
  | n + 1, x2, M => (if (57 : Int32) ≤ x2 then some M else (if wib x2 57 = true then (if wib (((57 : Int32) * x1) + x2) 114 = true then l_M_image_15 x1 n (x2 + (1 : Int32)) (wc_up M 33 0 ((((57 : Int32) * x1) + x2)).toNatClampNeg (M 25 0 (x2).toNatClampNeg)) else none) else none))
def f_M_image (a1 : Int32) (M : wc_M) : Option (Int32 × wc_M) :=
  (if (f_M_in (a1).toInt64 (0 : Int64) (1 : Int64)) = (0 : Int32) then some ((-1000001 : Int32), M) else (if (M 21 0 4) = (0 : Int32) then some ((-1000002 : Int32), M) else (Option.bind (l_M_image_15 a1 2000 (0 : Int32) M) fun t3 => (if wib a1 2 = true then some ((1 : Int32), (wc_up t3 32 0 (a1).toNatClampNeg (1 : Int32))) else none))))
def f_C_restore (a1 : Int32) (M : wc_M) : Option (Int32 × wc_M) :=
  (if (f_C_isUpTo a1 (1 : Int32)) = (0 : Int32) then some ((-1000001 : Int32), M) else (if wib a1 2 = true then (if (M 6 (26 + (a1).toNatClampNeg) 5) = (0 : Int32) then some ((-1000002 : Int32), M) else (Option.bind (f_P_become 0 (26 + (a1).toNatClampNeg) M) fun m3 => some ((1 : Int32), (wc_up m3 16 0 2 (0 : Int32))))) else none))
def l_M_restore_17 (x1 : Int32) : Nat → Int32 → wc_M → Option (wc_M)
  | 0, _, _ => none
  | n + 1, x2, M => (if (57 : Int32) ≤ x2 then some M else (if wib (((57 : Int32) * x1) + x2) 114 = true then (if wib x2 57 = true then l_M_restore_17 x1 n (x2 + (1 : Int32)) (wc_up M 25 0 (x2).toNatClampNeg (M 33 0 ((((57 : Int32) * x1) + x2)).toNatClampNeg)) else none) else none))
def f_M_restore (a1 : Int32) (M : wc_M) : Option (Int32 × wc_M) :=
  (if (f_M_in (a1).toInt64 (0 : Int64) (1 : Int64)) = (0 : Int32) then some ((-1000001 : Int32), M) else (if wib a1 2 = true then (if (M 32 0 (a1).toNatClampNeg) = (0 : Int32) then some ((-1000002 : Int32), M) else (Option.bind (l_M_restore_17 a1 2000 (0 : Int32) M) fun t4 => some ((1 : Int32), (wc_up t4 21 0 22 (0 : Int32))))) else none))
def f_C_kind (a1 : Int32) (M : wc_M) : Option Int32 :=
  (if (M 6 0 5) = (0 : Int32) then some (-1000002 : Int32) else (if (f_C_isCell a1) = (0 : Int32) then some (-1000001 : Int32) else (Option.bind (f_P_hasWork 0 a1 M) fun v2 => (if v2 = (0 : Int32) then some (-1000000 : Int32) else (if wib a1 16 = true then some (M 9 0 (a1).toNatClampNeg) else none)))))
def f_M_kind (a1 : Int32) (M : wc_M) : Option Int32 :=
  (if (M 21 0 4) = (0 : Int32) then some (-1000002 : Int32) else (if (f_M_isCell a1) = (0 : Int32) then some (-1000001 : Int32) else (Option.bind (f_M_isWork a1 M) fun v2 => (if v2 = (0 : Int32) then some (-1000000 : Int32) else (if wib ((9 : Int32) + a1) 57 = true then some (M 25 0 (((9 : Int32) + a1)).toNatClampNeg) else none)))))
def l_C_isA_4 (x1 : Int32) : Nat → Int32 → Int32 → Option ((Int32) ⊕ (Unit))
  | 0, _, _ => none
  | n + 1, x2, x3 => (if (6 : Int32) ≤ x3 then some (.inr ()) else (if (f_C_isUpTo x2 (5 : Int32)) = (0 : Int32) then some (.inr ()) else (if x2 = x1 then some (.inl (1 : Int32)) else (if wib x2 6 = true then l_C_isA_4 x1 n (wc_st 35 (x2).toNatClampNeg) (x3 + (1 : Int32)) else none))))
def f_C_isA (a0 : Int32) (a1 : Int32) : Option Int32 :=
  (Option.bind (l_C_isA_4 a1 2000 a0 (0 : Int32)) fun o4 => wel (fun r5 => some r5) (fun t2 => some (0 : Int32)) o4)
def f_C_as (a1 : Int32) (a2 : Int32) (M : wc_M) : Option (Int32 × wc_M) :=
  (if (M 6 0 5) = (0 : Int32) then some ((-1000002 : Int32), M) else (if (f_C_isCell a1) = (0 : Int32) then some ((-1000001 : Int32), M) else (if (f_C_isUpTo a2 (5 : Int32)) = (0 : Int32) then some ((-1000001 : Int32), M) else (Option.bind (f_P_hasWork 0 a1 M) fun v2 => (if v2 = (0 : Int32) then some ((-1000002 : Int32), M) else (if wib a1 16 = true then (Option.bind (f_C_isA (M 9 0 (a1).toNatClampNeg) a2) fun v5 => (if v5 = (0 : Int32) then (Option.bind (f_C_found (3 : Int32) M) fun q7 => some (q7.1, q7.2)) else (Option.bind (f_C_withoutFinding a1 M) fun q9 => some (q9.1, q9.2)))) else none))))))
def f_M_isKind (a0 : Int32) (a1 : Int32) : Int32 :=
  (if a1 = (0 : Int32) then (1 : Int32) else (if a0 = a1 then (1 : Int32) else (if a1 = (1 : Int32) then (if a0 < (4 : Int32) then (1 : Int32) else (if a1 = (4 : Int32) then (if a0 = (5 : Int32) then (1 : Int32) else (0 : Int32)) else (0 : Int32))) else (if a1 = (4 : Int32) then (if a0 = (5 : Int32) then (1 : Int32) else (0 : Int32)) else (0 : Int32)))))
theorem b_M_isKind (a0 : Int32) (a1 : Int32) : f_M_isKind a0 a1 = 0 ∨ f_M_isKind a0 a1 = 1 := by
  unfold f_M_isKind
  repeat' split
  all_goals first | exact Or.inl rfl | exact Or.inr rfl
def f_M_as (a1 : Int32) (a2 : Int32) (M : wc_M) : Option (Int32 × wc_M) :=
  (if (M 21 0 4) = (0 : Int32) then some ((-1000002 : Int32), M) else (if (f_M_isCell a1) = (0 : Int32) then some ((-1000001 : Int32), M) else (if (f_M_in (a2).toInt64 (0 : Int64) (5 : Int64)) = (0 : Int32) then some ((-1000001 : Int32), M) else (Option.bind (f_M_isWork a1 M) fun v2 => (if v2 = (0 : Int32) then some ((-1000002 : Int32), M) else (if wib ((9 : Int32) + a1) 57 = true then (if (f_M_isKind (M 25 0 (((9 : Int32) + a1)).toNatClampNeg) a2) = (0 : Int32) then (Option.bind (f_M_find (3 : Int32) M) fun q5 => some (q5.1, q5.2)) else (Option.bind (f_M_well a1 M) fun q7 => some (q7.1, q7.2))) else none))))))
def f_K_sizeBody (a0 : Int32) : Int32 :=
  (if a0 = (1 : Int32) then (11 : Int32) else (if a0 = (2 : Int32) then (12 : Int32) else (if a0 = (3 : Int32) then (11 : Int32) else (if a0 = (4 : Int32) then (13 : Int32) else (if a0 = (5 : Int32) then (14 : Int32) else (10 : Int32))))))
def f_K_leave (a1 : Int32) (M : wc_M) : Option wc_M :=
  (if (16 : Int32) ≤ (M 19 0 1) then some M else (if wib (M 19 0 1) 16 = true then some (wc_up (wc_up M 20 0 ((M 19 0 1)).toNatClampNeg a1) 19 0 1 (((wc_up M 20 0 ((M 19 0 1)).toNatClampNeg a1) 19 0 1) + (1 : Int32))) else none))
def f_K_markBody (a0 : Int32) : Int32 :=
  (if a0 = (1 : Int32) then (21 : Int32) else (if a0 = (2 : Int32) then (24 : Int32) else (if a0 = (3 : Int32) then (22 : Int32) else (if a0 = (4 : Int32) then (23 : Int32) else (if a0 = (5 : Int32) then (23 : Int32) else (20 : Int32))))))
def f_K_body : Nat → Int32 → Int32 → wc_M → Option (Int32 × wc_M)
  | 0, _, _, _ => none
  | n + 1, a1, a2, M => (if a2 ≤ (16 : Int32) then (Option.bind (f_K_leave a1 M) fun m2 => (if a1 = (10 : Int32) then some ((m2 19 0 3), m2) else (if a1 = (11 : Int32) then (Option.bind (f_K_body n (10 : Int32) (a2 + (1 : Int32)) m2) fun q3 => (Option.bind (f_K_body n (f_K_markBody (q3.2 19 0 2)) (a2 + (1 : Int32)) q3.2) fun q5 => some ((q3.1 + q5.1), q5.2))) else (if a1 = (12 : Int32) then (Option.bind (f_K_body n (11 : Int32) (a2 + (1 : Int32)) m2) fun q7 => some ((-q7.1), q7.2)) else (if a1 = (13 : Int32) then (Option.bind (f_K_body n (10 : Int32) (a2 + (1 : Int32)) m2) fun q9 => some ((q9.1 - (100 : Int32)), q9.2)) else (if a1 = (14 : Int32) then (Option.bind (f_K_body n (13 : Int32) (a2 + (1 : Int32)) m2) fun q11 => some (((2 : Int32) * q11.1), q11.2)) else (if a1 = (15 : Int32) then some ((0 : Int32), m2) else (if a1 = (16 : Int32) then some ((0 : Int32), m2) else (if a1 = (17 : Int32) then some ((0 : Int32), m2) else (if a1 = (18 : Int32) then some ((0 : Int32), m2) else (if a1 = (19 : Int32) then some ((0 : Int32), m2) else (if a1 = (20 : Int32) then some ((m2 19 0 4), m2) else (if a1 = (21 : Int32) then (Option.bind (f_K_body n (20 : Int32) (a2 + (1 : Int32)) m2) fun q13 => some ((q13.1 + (q13.2 19 0 5)), q13.2)) else (if a1 = (22 : Int32) then (Option.bind (f_K_body n (21 : Int32) (a2 + (1 : Int32)) m2) fun q15 => some ((q15.1 - (1000 : Int32)), q15.2)) else (if a1 = (23 : Int32) then (Option.bind (f_K_body n (20 : Int32) (a2 + (1 : Int32)) m2) fun q17 => (Option.bind (f_K_body n (f_K_sizeBody (q17.2 19 0 2)) (a2 + (1 : Int32)) q17.2) fun q19 => some ((q17.1 - q19.1), q19.2))) else (if a1 = (24 : Int32) then (Option.bind (f_K_body n (21 : Int32) (a2 + (1 : Int32)) m2) fun q21 => some (((2 : Int32) * q21.1), q21.2)) else some ((0 : Int32), m2))))))))))))))))) else some ((0 : Int32), M))
def f_K_askSize (M : wc_M) : Option (Int32 × wc_M) :=
  (Option.bind (f_K_body 18 (f_K_sizeBody ((wc_up M 19 0 1 (0 : Int32)) 19 0 2)) (0 : Int32) (wc_up M 19 0 1 (0 : Int32))) fun q2 => some (q2.1, q2.2))
def f_K_askMark (M : wc_M) : Option (Int32 × wc_M) :=
  (Option.bind (f_K_body 18 (f_K_markBody ((wc_up M 19 0 1 (0 : Int32)) 19 0 2)) (0 : Int32) (wc_up M 19 0 1 (0 : Int32))) fun q2 => some (q2.1, q2.2))
def f_C_ask (a1 : Int32) (a2 : Int32) (M : wc_M) : Option (Int32 × wc_M) :=
  (if (M 6 0 5) = (0 : Int32) then some ((-1000002 : Int32), M) else (if (f_C_isCell a1) = (0 : Int32) then some ((-1000001 : Int32), M) else (if (f_C_isUpTo a2 (1 : Int32)) = (0 : Int32) then some ((-1000001 : Int32), M) else (Option.bind (f_P_hasWork 0 a1 M) fun v2 => (if v2 = (0 : Int32) then some ((-1000002 : Int32), M) else (if wib a1 16 = true then (Option.bind (f_C_feltNow a1 (wc_up (wc_up (wc_up M 19 0 2 (M 9 0 (a1).toNatClampNeg)) 19 0 3 ((wc_up M 19 0 2 (M 9 0 (a1).toNatClampNeg)) 10 0 (a1).toNatClampNeg)) 19 0 4 a1)) fun q5 => (if a2 = (0 : Int32) then (Option.bind (f_K_askSize (wc_up q5.2 19 0 5 q5.1)) fun q7 => some (q7.1, q7.2)) else (Option.bind (f_K_askMark (wc_up q5.2 19 0 5 q5.1)) fun q9 => some (q9.1, q9.2)))) else none))))))
def f_M_begin (a1 : Int32) (M : wc_M) : Option wc_M :=
  (if (16 : Int32) ≤ (M 21 0 27) then some M else (if wib (M 21 0 27) 16 = true then some (wc_up (wc_up M 34 0 ((M 21 0 27)).toNatClampNeg a1) 21 0 27 (((wc_up M 34 0 ((M 21 0 27)).toNatClampNeg a1) 21 0 27) + (1 : Int32))) else none))
def f_M_lent (a1 : Int32) (a2 : Int32) (M : wc_M) : Option (Int32 × wc_M) :=
  (Option.bind (f_M_begin a2 M) fun m2 => (if a2 = (10 : Int32) then (if wib ((25 : Int32) + a1) 57 = true then some ((m2 25 0 (((25 : Int32) + a1)).toNatClampNeg), m2) else none) else some (a1, m2)))
def f_M_wallMark (a1 : Int32) (M : wc_M) : Option (Int32 × wc_M) :=
  (Option.bind (f_M_begin (21 : Int32) M) fun m2 => (Option.bind (f_M_lent a1 (20 : Int32) m2) fun q4 => (Option.bind (f_M_feltNow a1 q4.2) fun q6 => some ((q4.1 + q6.1), q6.2))))
def f_M_handSize (a1 : Int32) (M : wc_M) : Option (Int32 × wc_M) :=
  (Option.bind (f_M_begin (13 : Int32) M) fun m2 => (Option.bind (f_M_lent a1 (10 : Int32) m2) fun q4 => some ((q4.1 - (100 : Int32)), q4.2)))
def f_M_sizeOfHand (a1 : Int32) (M : wc_M) : Option (Int32 × wc_M) :=
  (if wib ((9 : Int32) + a1) 57 = true then (if (M 25 0 (((9 : Int32) + a1)).toNatClampNeg) = (5 : Int32) then (Option.bind (f_M_begin (14 : Int32) M) fun m3 => (Option.bind (f_M_handSize a1 m3) fun q5 => some (((2 : Int32) * q5.1), q5.2))) else (Option.bind (f_M_handSize a1 M) fun q7 => some (q7.1, q7.2))) else none)
def f_M_markOf (a1 : Int32) (M : wc_M) : Option (Int32 × wc_M) :=
  (if wib ((9 : Int32) + a1) 57 = true then (if (M 25 0 (((9 : Int32) + a1)).toNatClampNeg) = (2 : Int32) then (Option.bind (f_M_begin (24 : Int32) M) fun m3 => (Option.bind (f_M_wallMark a1 m3) fun q5 => some (((2 : Int32) * q5.1), q5.2))) else (if (M 25 0 (((9 : Int32) + a1)).toNatClampNeg) = (3 : Int32) then (Option.bind (f_M_begin (22 : Int32) M) fun m7 => (Option.bind (f_M_wallMark a1 m7) fun q9 => some ((q9.1 - (1000 : Int32)), q9.2))) else (if (M 25 0 (((9 : Int32) + a1)).toNatClampNeg) = (1 : Int32) then (Option.bind (f_M_wallMark a1 M) fun q11 => some (q11.1, q11.2)) else (Option.bind (f_M_begin (23 : Int32) M) fun m13 => (Option.bind (f_M_lent a1 (20 : Int32) m13) fun q15 => (Option.bind (f_M_sizeOfHand a1 q15.2) fun q17 => some ((q15.1 - q17.1), q17.2))))))) else none)
def f_M_wallSize (a1 : Int32) (M : wc_M) : Option (Int32 × wc_M) :=
  (Option.bind (f_M_begin (11 : Int32) M) fun m2 => (Option.bind (f_M_lent a1 (10 : Int32) m2) fun q4 => (Option.bind (f_M_markOf a1 q4.2) fun q6 => some ((q4.1 + q6.1), q6.2))))
def f_M_sizeOf (a1 : Int32) (M : wc_M) : Option (Int32 × wc_M) :=
  (if wib ((9 : Int32) + a1) 57 = true then (if (M 25 0 (((9 : Int32) + a1)).toNatClampNeg) = (2 : Int32) then (Option.bind (f_M_begin (12 : Int32) M) fun m3 => (Option.bind (f_M_wallSize a1 m3) fun q5 => some ((-q5.1), q5.2))) else (if (M 25 0 (((9 : Int32) + a1)).toNatClampNeg) < (4 : Int32) then (Option.bind (f_M_wallSize a1 M) fun q7 => some (q7.1, q7.2)) else (Option.bind (f_M_sizeOfHand a1 M) fun q9 => some (q9.1, q9.2)))) else none)
def f_M_ask (a1 : Int32) (a2 : Int32) (M : wc_M) : Option (Int32 × wc_M) :=
  (if (M 21 0 4) = (0 : Int32) then some ((-1000002 : Int32), M) else (if (f_M_isCell a1) = (0 : Int32) then some ((-1000001 : Int32), M) else (if (f_M_in (a2).toInt64 (0 : Int64) (1 : Int64)) = (0 : Int32) then some ((-1000001 : Int32), M) else (Option.bind (f_M_isWork a1 M) fun v2 => (if v2 = (0 : Int32) then some ((-1000002 : Int32), M) else (if a2 = (0 : Int32) then (Option.bind (f_M_sizeOf a1 (wc_up M 21 0 27 (0 : Int32))) fun q4 => some (q4.1, q4.2)) else (Option.bind (f_M_markOf a1 (wc_up M 21 0 27 (0 : Int32))) fun q6 => some (q6.1, q6.2))))))))
def f_C_trace (a1 : Int32) (M : wc_M) : Option Int32 :=
  (if (f_C_isUpTo a1 ((M 19 0 1) - (1 : Int32))) = (0 : Int32) then some (-1000000 : Int32) else (if wib a1 16 = true then some (M 20 0 (a1).toNatClampNeg) else none))
def f_M_trace (a1 : Int32) (M : wc_M) : Option Int32 :=
  (if (f_M_in (a1).toInt64 (0 : Int64) (((M 21 0 27) - (1 : Int32))).toInt64) = (0 : Int32) then some (-1000000 : Int32) else (if wib a1 16 = true then some (M 34 0 (a1).toNatClampNeg) else none))
def l_C_rowsThere_4 (M : wc_M) : Nat → Int32 → Int32 → Option (Int32)
  | 0, _, _ => none
  | n + 1, x1, x2 => (if (8 : Int32) ≤ x2 then some x1 else (if wib x2 8 = true then (if (M 2 (x2).toNatClampNeg 1) = (0 : Int32) then l_C_rowsThere_4 M n x1 (x2 + (1 : Int32)) else l_C_rowsThere_4 M n (x1 + (1 : Int32)) (x2 + (1 : Int32))) else none))
def f_C_rowsThere (M : wc_M) : Option Int32 :=
  (Option.bind (l_C_rowsThere_4 M 2000 (0 : Int32) (0 : Int32)) fun t2 => some t2)
def f_C_lostNow (M : wc_M) : Option (Int32 × wc_M) :=
  (Option.bind (f_A_blow 0 M) fun m2 => some ((m2 12 0 2), m2))
def l_C_leavingNow_9 (M : wc_M) : Nat → Int32 → Int32 → Option (Int32)
  | 0, _, _ => none
  | n + 1, x1, x2 => (if (4 : Int32) ≤ x2 then some x1 else (if wib x2 4 = true then l_C_leavingNow_9 M n (x1 + (M 14 0 (x2).toNatClampNeg)) (x2 + (1 : Int32)) else none))
def f_C_leavingNow (M : wc_M) : Option (Int32 × wc_M) :=
  (Option.bind (f_A_blow 0 M) fun m2 => (Option.bind (l_C_leavingNow_9 m2 2000 (0 : Int32) (0 : Int32)) fun t4 => some (t4, m2)))
def f_C_count (a1 : Int32) (M : wc_M) : Option (Int32 × wc_M) :=
  (if a1 = (0 : Int32) then (Option.bind (f_C_rowsThere M) fun v2 => some (v2, M)) else (if a1 = (1 : Int32) then (Option.bind (f_P_works 0 M) fun v4 => some (v4, M)) else (if a1 = (2 : Int32) then some ((M 6 0 6), M) else (if a1 = (3 : Int32) then (Option.bind (f_C_lostNow M) fun q6 => some (q6.1, q6.2)) else (if a1 = (4 : Int32) then (Option.bind (f_C_leavingNow M) fun q8 => some (q8.1, q8.2)) else (if a1 = (5 : Int32) then some ((M 16 0 2), M) else (if a1 = (6 : Int32) then some ((M 4 0 1), M) else some ((-1000001 : Int32), M))))))))
def l_M_count_4 (x1 : Int32) (M : wc_M) : Nat → Int32 → Int32 → Option (Int32)
  | 0, _, _ => none
  | n + 1, x2, x3 => (if (8 : Int32) ≤ x3 then some x2 else (if wib x3 8 = true then (if (M 23 0 (x3).toNatClampNeg) < (0 : Int32) then l_M_count_4 x1 M n (x2 + (0 : Int32)) (x3 + (1 : Int32)) else l_M_count_4 x1 M n (x2 + (1 : Int32)) (x3 + (1 : Int32))) else none))
def f_M_count (a1 : Int32) (M : wc_M) : Option (Int32 × wc_M) :=
  (Option.bind (l_M_count_4 a1 M 2000 (0 : Int32) (0 : Int32)) fun t2 => (Option.bind (f_M_blow M) fun m5 => (if a1 = (0 : Int32) then some (t2, m5) else (if a1 = (1 : Int32) then (Option.bind (f_M_workMany m5) fun v7 => some (v7, m5)) else (if a1 = (2 : Int32) then some ((m5 25 0 ((0 : Int32)).toNatClampNeg), m5) else (if a1 = (3 : Int32) then some ((m5 21 0 19), m5) else (if a1 = (4 : Int32) then some (((((m5 29 0 ((16 : Int32)).toNatClampNeg) + (m5 29 0 ((17 : Int32)).toNatClampNeg)) + (m5 29 0 ((18 : Int32)).toNatClampNeg)) + (m5 29 0 ((19 : Int32)).toNatClampNeg)), m5) else (if a1 = (5 : Int32) then some ((m5 21 0 22), m5) else (if a1 = (6 : Int32) then some ((m5 21 0 8), m5) else some ((-1000001 : Int32), m5))))))))))
def f_C_status (M : wc_M) : Int32 :=
  (M 0 0 9)
def f_M_status (M : wc_M) : Int32 :=
  (M 21 0 3)
