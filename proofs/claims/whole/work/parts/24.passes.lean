/-! PASSES of the class: a memory with one pass put in its place -/
def mP (M : wc_M) (p : Nat) (st : Nat → Int32) (th : Int32) : wc_M := fun k i s => if i = p then (if k = 6 ∧ s = 6 then st 0 else if k = 6 ∧ s = 5 then th else if k = 7 ∧ s < 4 then st (1 + s) else if k = 8 ∧ s < 4 then st (5 + s) else if k = 9 ∧ s < 16 then st (9 + s) else if k = 10 ∧ s < 16 then st (25 + s) else if k = 11 ∧ s < 16 then st (41 + s) else M k i s) else M k i s
def sOk (st : Nat → Int32) : Prop := ∀ k, 57 ≤ k → st k = 0
theorem wst_ok (M : wc_M) (p : Nat) : sOk (wst M p) := by
  intro k hk
  unfold wst
  rw [if_neg (by omega), if_neg (by omega), if_neg (by omega), if_neg (by omega), if_neg (by omega), if_neg (by omega)]
theorem wrs_ok (M : wc_M) (k off : Nat) : sOk (wrs M k off) := by
  intro j hj
  unfold wrs
  rw [if_neg (by omega)]
theorem mP_off {M : wc_M} {p : Nat} {st : Nat → Int32} {th : Int32} {k i s : Nat} (h : k < 6 ∨ 11 < k ∨ i ≠ p) : mP M p st th k i s = M k i s := by
  unfold mP
  grind
theorem mP_th {M : wc_M} {p : Nat} {st : Nat → Int32} {th : Int32} : mP M p st th 6 p 5 = th := by
  unfold mP
  simp
theorem mP_h {M : wc_M} {p : Nat} {st : Nat → Int32} {th : Int32} : mP M p st th 6 p 6 = st 0 := by
  unfold mP
  simp
theorem wst_mP {M : wc_M} {p : Nat} {st : Nat → Int32} {th : Int32} (h : sOk st) : wst (mP M p st th) p = st := by
  funext k
  unfold wst mP
  by_cases h0 : k = 0
  · simp [h0]
  · by_cases h5 : k < 5
    · rw [if_neg h0, if_pos h5]
      simp [show k - 1 < 4 by omega, show 1 + (k - 1) = k by omega]
    · by_cases h9 : k < 9
      · rw [if_neg h0, if_neg h5, if_pos h9]
        simp [show k - 5 < 4 by omega, show 5 + (k - 5) = k by omega]
      · by_cases h25 : k < 25
        · rw [if_neg h0, if_neg h5, if_neg h9, if_pos h25]
          simp [show k - 9 < 16 by omega, show 9 + (k - 9) = k by omega]
        · by_cases h41 : k < 41
          · rw [if_neg h0, if_neg h5, if_neg h9, if_neg h25, if_pos h41]
            simp [show k - 25 < 16 by omega, show 25 + (k - 25) = k by omega]
          · by_cases h57 : k < 57
            · rw [if_neg h0, if_neg h5, if_neg h9, if_neg h25, if_neg h41, if_pos h57]
              simp [show k - 41 < 16 by omega, show 41 + (k - 41) = k by omega]
            · rw [if_neg h0, if_neg h5, if_neg h9, if_neg h25, if_neg h41, if_neg h57, h k (by omega)]
theorem wst_mPn {M : wc_M} {p q : Nat} {st : Nat → Int32} {th : Int32} (h : q ≠ p) : wst (mP M p st th) q = wst M q := by
  refine wst_eq ?_ ?_ ?_ ?_ ?_ ?_
  · exact mP_off (Or.inr (Or.inr h))
  all_goals intro _ _; exact mP_off (Or.inr (Or.inr h))
theorem wst_mA {M : wc_M} {p : Nat} {F : Nat → Int32} {lo : Int32} : wst (mA M F lo) p = wst M p := by
  refine wst_eq ?_ ?_ ?_ ?_ ?_ ?_
  · exact mA_off (by omega)
  all_goals intro _ _; exact mA_off (by omega)
theorem mP_mP {M : wc_M} {p : Nat} {st st' : Nat → Int32} {th th' : Int32} : mP (mP M p st th) p st' th' = mP M p st' th' := by
  funext k i s
  unfold mP
  grind
theorem mA_mA {M : wc_M} {F F' : Nat → Int32} {lo lo' : Int32} : mA (mA M F lo) F' lo' = mA M F' lo' := by
  funext k i s
  unfold mA
  grind
theorem mP_mA {M : wc_M} {p : Nat} {st F : Nat → Int32} {th lo : Int32} : mP (mA M F lo) p st th = mA (mP M p st th) F lo := by
  funext k i s
  by_cases hk : k < 12
  · rw [mA_off (Or.inl hk)]
    unfold mP
    rw [mA_off (Or.inl hk)]
  · rw [mP_off (by omega)]
    unfold mA
    rw [mP_off (by omega)]
theorem mP_id (M : wc_M) (p : Nat) : mP M p (wst M p) (M 6 p 5) = M := by
  funext k i s
  unfold mP
  by_cases hi : i = p
  · subst hi
    rw [if_pos rfl]
    split
    · rename_i h; rw [h.1, h.2]; rfl
    · split
      · rename_i h; rw [h.1, h.2]
      · split
        · rename_i h; rw [wst_g h.2, h.1]
        · split
          · rename_i h; rw [wst_r h.2, h.1]
          · split
            · rename_i h; rw [wst_k h.2, h.1]
            · split
              · rename_i h; rw [wst_o h.2, h.1]
              · split
                · rename_i h; rw [wst_w h.2, h.1]
                · rfl
  · rw [if_neg hi]
def sPut (st : Nat → Int32) (c : Nat) (k h : Int32) : Nat → Int32 := fun j => if j = 9 + c then k else if j = 25 + c then h else if j = 41 + c then 0 else st j
theorem sPut_ok {st : Nat → Int32} {c : Nat} {k h : Int32} (hc : c < 16) (hs : sOk st) : sOk (sPut st c k h) := by
  intro j hj
  unfold sPut
  rw [if_neg (by omega), if_neg (by omega), if_neg (by omega)]
  exact hs j hj
theorem p_become {q p : Nat} {M : wc_M} (h : wzb (M 6 p 5) = true) : f_P_become q p M = some (mP M q (wst M p) (M 6 p 5)) := by
  unfold f_P_become
  have e6 : ∀ s, (wc_cp (wc_cp (wc_cp (wc_cp (wc_cp M 7 p 7 q ((0 : Int32)).toNatClampNeg ((0 : Int32)).toNatClampNeg ((4 : Int32)).toNatClampNeg) 8 p 8 q ((0 : Int32)).toNatClampNeg ((0 : Int32)).toNatClampNeg ((4 : Int32)).toNatClampNeg) 9 p 9 q ((0 : Int32)).toNatClampNeg ((0 : Int32)).toNatClampNeg ((16 : Int32)).toNatClampNeg) 10 p 10 q ((0 : Int32)).toNatClampNeg ((0 : Int32)).toNatClampNeg ((16 : Int32)).toNatClampNeg) 11 p 11 q ((0 : Int32)).toNatClampNeg ((0 : Int32)).toNatClampNeg ((16 : Int32)).toNatClampNeg) 6 p s = M 6 p s := fun s => rfl
  rw [e6, if_pos h]
  congr 1
  funext k i s
  have t0 : ((0 : Int32)).toNatClampNeg = 0 := rfl
  have t4 : ((4 : Int32)).toNatClampNeg = 4 := rfl
  have t16 : ((16 : Int32)).toNatClampNeg = 16 := rfl
  rw [t0, t4, t16]
  by_cases hi : i = q
  · subst hi
    unfold mP
    rw [if_pos rfl]
    by_cases h6 : k = 6
    · subst h6
      by_cases hs6 : s = 6
      · subst hs6
        simp [wc_up, wc_cp, wst_h]
      · by_cases hs5 : s = 5
        · subst hs5
          simp [wc_up, wc_cp]
        · simp [wc_up, wc_cp, hs6, hs5]
    · have hk : ∀ k2 n s, k2 = k → wc_up (wc_up M 6 i 5 0) 6 i 6 0 k2 n s = M k2 n s := fun k2 n s e => by
        subst e
        simp [wc_up, h6]
      by_cases h7 : k = 7
      · subst h7
        by_cases hs : s < 4
        · simp [wc_up, wc_cp, hs, wst_g hs]
        · simp [wc_up, wc_cp, hs]
      · by_cases h8 : k = 8
        · subst h8
          by_cases hs : s < 4
          · simp [wc_up, wc_cp, hs, wst_r hs]
          · simp [wc_up, wc_cp, hs]
        · by_cases h9 : k = 9
          · subst h9
            by_cases hs : s < 16
            · simp [wc_up, wc_cp, hs, wst_k hs]
            · simp [wc_up, wc_cp, hs]
          · by_cases h10 : k = 10
            · subst h10
              by_cases hs : s < 16
              · simp [wc_up, wc_cp, hs, wst_o hs]
              · simp [wc_up, wc_cp, hs]
            · by_cases h11 : k = 11
              · subst h11
                by_cases hs : s < 16
                · simp [wc_up, wc_cp, hs, wst_w hs]
                · simp [wc_up, wc_cp, hs]
              · simp [wc_up, wc_cp, h6, h7, h8, h9, h10, h11]
  · rw [mP_off (Or.inr (Or.inr hi))]
    simp [wc_up, wc_cp, hi]
theorem p_put {p c : Nat} {k h : Int32} {M : wc_M} (hc : c < 16) : f_P_put p (nI c) k h M = some (mP M p (sPut (wst M p) c k h) (M 6 p 5)) := by
  unfold f_P_put
  rw [if_pos (n_wib hc (by decide)), n_t (by omega)]
  congr 1
  have e := mP_id M p
  funext zk zi zs
  unfold wc_up
  by_cases hi : zi = p
  · subst hi
    by_cases h9 : zk = 9 ∧ zs = c
    · obtain ⟨rfl, rfl⟩ := h9
      simp [mP, sPut, hc]
    · by_cases h10 : zk = 10 ∧ zs = c
      · obtain ⟨rfl, rfl⟩ := h10
        simp [mP, sPut, hc]
      · by_cases h11 : zk = 11 ∧ zs = c
        · obtain ⟨rfl, rfl⟩ := h11
          simp [mP, sPut, hc]
        · rw [if_neg (by omega), if_neg (by omega), if_neg (by omega)]
          have e2 := congrFun (congrFun (congrFun e zk) zi) zs
          rw [← e2]
          unfold mP sPut
          grind
  · rw [mP_off (Or.inr (Or.inr hi)), if_neg (by omega), if_neg (by omega), if_neg (by omega)]
theorem p_clear {p c : Nat} {M : wc_M} (hc : c < 16) : f_P_clear p (nI c) M = some (mP M p (sPut (wst M p) c 0 0) (M 6 p 5)) := by
  unfold f_P_clear
  rw [p_put hc]
  rfl
theorem p_has {p c : Nat} {M : wc_M} (hc : c < 16) : f_P_hasWork p (nI c) M = some (if wst M p (9 + c) = 0 then 0 else 1) := by
  unfold f_P_hasWork
  rw [if_pos (n_wib hc (by decide)), n_t (by omega), wst_k hc]
  split <;> rfl
def sWn (st : Nat → Int32) : Nat → Nat
  | 0 => 0
  | c + 1 => sWn st c + (if st (9 + c) = 0 then 0 else 1)
theorem sWn_le (st : Nat → Int32) : ∀ n, sWn st n ≤ n
  | 0 => Nat.le_refl _
  | n + 1 => by
    have := sWn_le st n
    unfold sWn
    split <;> omega
theorem p_works {p : Nat} {M : wc_M} : f_P_works p M = some (nI (sWn (wst M p) 16)) := by
  unfold f_P_works
  have h : l_P_works_4 p M 2000 (nI (sWn (wst M p) 0)) 0 = some (nI (sWn (wst M p) 16)) := loop_to (fun zn zx zs => l_P_works_4 p M zn zs zx) (fun zc => nI (sWn (wst M p) zc)) 16 (nI (sWn (wst M p) 16)) (by
    intro zn zc hzc
    show l_P_works_4 p M (zn + 1) (nI (sWn (wst M p) zc)) (nI zc) = l_P_works_4 p M zn (nI (sWn (wst M p) (zc + 1))) (nI (zc + 1))
    rw [l_P_works_4]
    rw [if_neg (by rw [n_le (by decide) (by omega)]; omega), p_has hzc]
    simp only [Option.bind_some]
    by_cases h0 : wst M p (9 + zc) = 0
    · rw [if_pos h0, if_pos rfl, n_ar]
      have e : sWn (wst M p) (zc + 1) = sWn (wst M p) zc := by
        show sWn (wst M p) zc + (if wst M p (9 + zc) = 0 then 0 else 1) = _
        rw [if_pos h0, Nat.add_zero]
      rw [e]
    · rw [if_neg h0, if_neg (by decide), n_ar, n_ar]
      have e : sWn (wst M p) (zc + 1) = sWn (wst M p) zc + 1 := by
        show sWn (wst M p) zc + (if wst M p (9 + zc) = 0 then 0 else 1) = _
        rw [if_neg h0]
      rw [e]) (by
    intro zn
    show l_P_works_4 p M (zn + 1) (nI (sWn (wst M p) 16)) (nI 16) = _
    rw [l_P_works_4, if_pos (by decide)]) 2000 (by decide)
  rw [show l_P_works_4 p M 2000 0 0 = _ from h]
  rfl
