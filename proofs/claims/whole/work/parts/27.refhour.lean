/-! AN HOUR of the reference's pass; setting aside and taking back -/
def bBs (F st : Nat → Int32) : Nat → Int32
  | 0 => 0
  | c + 1 => if ¬ st (9 + c) = 0 ∧ ¬ F c ≤ st (25 + c) then bBs F st c ||| ((1 : Int32) <<< (nI c &&& 31)) else bBs F st c
noncomputable def bB (st : Nat → Int32) : Int32 := bBs (bF st) st 16
theorem r_isWork {M : wc_M} {st F as : Nat → Int32} {lo br : Int32} {c n : Nat} (hc : c < 16) (hn : n ≤ 5) (he : st (9 + c) = nI n) : f_M_isWork (nI c) (mR M st F lo br as) = some (if st (9 + c) = 0 then 0 else 1) := by
  unfold f_M_isWork
  rw [n_al, if_pos (n_wib (by omega) (by decide)), n_t (by omega), mR_st (by omega), he]
  by_cases h0 : n = 0
  · subst h0
    rfl
  · rw [if_neg (by rw [n_ge (by decide) (by omega)]; omega), if_neg (by rw [n_eq (by decide) (by omega)]; exact h0)]
theorem r_clear {M : wc_M} {st F as : Nat → Int32} {lo br : Int32} {c : Nat} (hc : c < 16) : f_M_clear (nI c) (mR M st F lo br as) = some (mR M (sPut st c 0 0) F lo br as) := by
  unfold f_M_clear
  rw [n_al, n_al, n_al, if_pos (n_wib (by omega) (by decide)), if_pos (n_wib (by omega) (by decide)), if_pos (n_wib (by omega) (by decide)), n_t (by omega), n_t (by omega), n_t (by omega)]
  congr 1
  funext zk zi zs
  unfold wc_up mR sPut
  grind
theorem r_up_br {M : wc_M} {st F as : Nat → Int32} {lo br v : Int32} : wc_up (mR M st F lo br as) 21 0 20 v = mR M st F lo v as := by
  funext zk zi zs
  unfold wc_up mR
  grind
theorem r_up_st {M : wc_M} {st F as : Nat → Int32} {lo br v : Int32} {j : Nat} (hj : j < 57) : wc_up (mR M st F lo br as) 25 0 j v = mR M (fun q => if q = j then v else st q) F lo br as := by
  funext zk zi zs
  unfold wc_up mR
  grind
theorem r_oh7 {M : wc_M} {st F as : Nat → Int32} {lo : Int32} (hk : sKd st) : l_M_oneHour_7 2000 0 (mR M st F lo 0 as) = some (mR M (sBrk F st 16) F lo (bBs F st 16) as) := by
  have h : l_M_oneHour_7 2000 0 (mR M (sBrk F st 0) F lo (bBs F st 0) as) = some (mR M (sBrk F st 16) F lo (bBs F st 16) as) := loop_to (fun zn zx zM => l_M_oneHour_7 zn zx zM) (fun zc => mR M (sBrk F st zc) F lo (bBs F st zc) as) 16 _ (by
    intro zn zc hzc
    show l_M_oneHour_7 (zn + 1) (nI zc) _ = _
    rw [l_M_oneHour_7]
    obtain ⟨kn, hkn, hke⟩ := hk zc hzc
    rw [if_neg (by rw [n_le (by decide) (by omega)]; omega), r_isWork hzc hkn (by rw [(sBrk_at hzc (Nat.le_refl _)).1]; exact hke)]
    simp only [Option.bind_some]
    rw [(sBrk_at hzc (Nat.le_refl _)).1, n_ar]
    by_cases h1 : st (9 + zc) = 0
    · rw [if_pos h1, if_pos rfl, sBrk_n (Or.inl h1)]
      show _ = l_M_oneHour_7 zn (nI (zc + 1)) (mR M (sBrk F st zc) F lo (if ¬ st (9 + zc) = 0 ∧ ¬ F zc ≤ st (25 + zc) then _ else _) as)
      rw [if_neg (fun z => z.1 h1)]
    · rw [if_neg h1, if_neg (by decide), if_pos (n_wib (by omega) (by decide)), n_al, if_pos (n_wib (by omega) (by decide)), n_t (by omega), n_t (by omega), mR_f (by omega), mR_st (by omega), (sBrk_at hzc (Nat.le_refl _)).2.1]
      by_cases h2 : F zc ≤ st (25 + zc)
      · rw [if_pos h2, sBrk_n (Or.inr h2)]
        show _ = l_M_oneHour_7 zn (nI (zc + 1)) (mR M (sBrk F st zc) F lo (if ¬ st (9 + zc) = 0 ∧ ¬ F zc ≤ st (25 + zc) then _ else _) as)
        rw [if_neg (fun z => z.2 h2)]
      · rw [if_neg h2, r_up_br, r_clear hzc]
        simp only [Option.bind_some]
        rw [sBrk_y hzc h1 h2, mR_br]
        show _ = l_M_oneHour_7 zn (nI (zc + 1)) (mR M (sBrk F st (zc + 1)) F lo (if ¬ st (9 + zc) = 0 ∧ ¬ F zc ≤ st (25 + zc) then _ else _) as)
        rw [if_pos ⟨h1, h2⟩]) (by
    intro zn
    show l_M_oneHour_7 (zn + 1) (nI 16) _ = _
    rw [l_M_oneHour_7, if_pos (by decide)]) 2000 (by decide)
  rw [sBrk_0] at h
  exact h
theorem r_oh48 {M : wc_M} {st F as : Nat → Int32} {lo br : Int32} : l_M_oneHour_48 2000 0 (mR M (sRis st 0) F lo br as) = some (mR M (sRis st 4) F lo br as) :=
  loop_to (fun zn zx zM => l_M_oneHour_48 zn zx zM) (fun zc => mR M (sRis st zc) F lo br as) 4 _ (by
    intro zn zc hzc
    show l_M_oneHour_48 (zn + 1) (nI zc) _ = _
    rw [l_M_oneHour_48]
    rw [if_neg (by rw [n_le (by decide) (by omega)]; omega), n_al, n_al, if_pos (n_wib (by omega) (by decide)), if_pos (n_wib (by omega) (by decide)), n_ar, n_t (by omega), n_t (by omega), mR_st (by omega), mR_st (by omega), r_up_st (by omega), sRis_s hzc]) (by
    intro zn
    show l_M_oneHour_48 (zn + 1) (nI 4) _ = _
    rw [l_M_oneHour_48, if_pos (by decide)]) 2000 (by decide)
theorem r_oneHour {M : wc_M} {st F as : Nat → Int32} {lo br : Int32} (hk : sKd st) : f_M_oneHour (mR M st F lo br as) = some (mR M (pH st) (bF st) (bL st) (bB st) as) := by
  unfold f_M_oneHour
  rw [r_blow hk, Option.bind_some, r_up_br, r_oh7 hk, Option.bind_some, show ((0 : Int32)).toNatClampNeg = 0 from rfl, mR_st (by omega), r_up_st (by omega)]
  have e : (fun q => if q = 0 then sBrk (bF st) st 16 0 + 1 else sBrk (bF st) st 16 q) = sRis (sBrk (bF st) st 16) 0 := by
    funext j
    unfold sRis
    by_cases h0 : j = 0
    · rw [if_pos h0, if_pos h0]
    · rw [if_neg h0, if_neg h0, if_neg (by omega)]
  rw [e, r_oh48, Option.bind_some]
  unfold pH bB
  rfl
theorem r_works {M : wc_M} {st F as : Nat → Int32} {lo br : Int32} (hk : sKd st) : f_M_workMany (mR M st F lo br as) = some (nI (sWn st 16)) := by
  unfold f_M_workMany
  have h : l_M_workMany_4 (mR M st F lo br as) 2000 (nI (sWn st 0)) 0 = some (nI (sWn st 16)) := loop_to (fun zn zx zs => l_M_workMany_4 (mR M st F lo br as) zn zs zx) (fun zc => nI (sWn st zc)) 16 (nI (sWn st 16)) (by
    intro zn zc hzc
    show l_M_workMany_4 (mR M st F lo br as) (zn + 1) (nI (sWn st zc)) (nI zc) = l_M_workMany_4 (mR M st F lo br as) zn (nI (sWn st (zc + 1))) (nI (zc + 1))
    rw [l_M_workMany_4]
    obtain ⟨kn, hkn, hke⟩ := hk zc hzc
    rw [if_neg (by rw [n_le (by decide) (by omega)]; omega), r_isWork hzc hkn hke]
    simp only [Option.bind_some]
    by_cases h0 : st (9 + zc) = 0
    · rw [if_pos h0, if_pos rfl, n_ar, n_ar]
      have e : sWn st (zc + 1) = sWn st zc + 0 := by
        show sWn st zc + (if st (9 + zc) = 0 then 0 else 1) = _
        rw [if_pos h0]
      rw [e]
    · rw [if_neg h0, if_neg (by decide), n_ar, n_ar]
      have e : sWn st (zc + 1) = sWn st zc + 1 := by
        show sWn st zc + (if st (9 + zc) = 0 then 0 else 1) = _
        rw [if_neg h0]
      rw [e]) (by
    intro zn
    show l_M_workMany_4 (mR M st F lo br as) (zn + 1) (nI (sWn st 16)) (nI 16) = _
    rw [l_M_workMany_4, if_pos (by decide)]) 2000 (by decide)
  rw [show l_M_workMany_4 (mR M st F lo br as) 2000 0 0 = _ from h]
  rfl
/-- a row copied, place by place -/
def sCp (a b : Nat → Int32) (n : Nat) : Nat → Int32 := fun j => if j < n then a j else b j
theorem sCp_0 {a b : Nat → Int32} : sCp a b 0 = b := by
  funext j
  unfold sCp
  rw [if_neg (by omega)]
theorem sCp_s {a b : Nat → Int32} {n : Nat} : (fun q => if q = n then a n else sCp a b n q) = sCp a b (n + 1) := by
  funext q
  unfold sCp
  grind
theorem sCp_57 {a b : Nat → Int32} (ha : sOk a) (hb : sOk b) : sCp a b 57 = a := by
  funext q
  unfold sCp
  by_cases h : q < 57
  · rw [if_pos h]
  · rw [if_neg h, ha q (by omega), hb q (by omega)]
theorem r_aside {M : wc_M} {st F as : Nat → Int32} {lo br : Int32} (hs : sOk st) (ha : sOk as) : f_M_putAside (mR M st F lo br as) = some (mR M st F lo br st) := by
  unfold f_M_putAside
  have h : l_M_putAside_2 2000 0 (mR M st F lo br (sCp st as 0)) = some (mR M st F lo br (sCp st as 57)) := loop_to (fun zn zx zM => l_M_putAside_2 zn zx zM) (fun zc => mR M st F lo br (sCp st as zc)) 57 _ (by
    intro zn zc hzc
    show l_M_putAside_2 (zn + 1) (nI zc) _ = _
    rw [l_M_putAside_2]
    rw [if_neg (by rw [n_le (by decide) (by omega)]; omega), if_pos (n_wib (by omega) (by decide)), n_ar, n_t (by omega), mR_st (by omega)]
    have e : wc_up (mR M st F lo br (sCp st as zc)) 31 0 zc (st zc) = mR M st F lo br (sCp st as (zc + 1)) := by
      rw [← sCp_s]
      funext zk zi zs
      unfold wc_up mR
      grind
    rw [e]) (by
    intro zn
    show l_M_putAside_2 (zn + 1) (nI 57) _ = _
    rw [l_M_putAside_2, if_pos (by decide)]) 2000 (by decide)
  rw [sCp_0] at h
  rw [h, sCp_57 hs ha]
  rfl
theorem r_back {M : wc_M} {st F as : Nat → Int32} {lo br : Int32} (hs : sOk st) (ha : sOk as) : f_M_takeBack (mR M st F lo br as) = some (mR M as F lo br as) := by
  unfold f_M_takeBack
  have h : l_M_takeBack_2 2000 0 (mR M (sCp as st 0) F lo br as) = some (mR M (sCp as st 57) F lo br as) := loop_to (fun zn zx zM => l_M_takeBack_2 zn zx zM) (fun zc => mR M (sCp as st zc) F lo br as) 57 _ (by
    intro zn zc hzc
    show l_M_takeBack_2 (zn + 1) (nI zc) _ = _
    rw [l_M_takeBack_2]
    rw [if_neg (by rw [n_le (by decide) (by omega)]; omega), if_pos (n_wib (by omega) (by decide)), n_ar, n_t (by omega), mR_as (by omega), r_up_st (by omega), sCp_s]) (by
    intro zn
    show l_M_takeBack_2 (zn + 1) (nI 57) _ = _
    rw [l_M_takeBack_2, if_pos (by decide)]) 2000 (by decide)
  rw [sCp_0] at h
  rw [h, sCp_57 ha hs]
  rfl
