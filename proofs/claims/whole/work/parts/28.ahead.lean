/-! HOURS AHEAD, on both sides -/
noncomputable def pHn (st : Nat → Int32) : Nat → (Nat → Int32)
  | 0 => st
  | n + 1 => pH (pHn st n)
theorem pHn_s (st : Nat → Int32) (n : Nat) : pHn st (n + 1) = pH (pHn st n) := by rw [pHn]
theorem pHn_0 (st : Nat → Int32) : pHn st 0 = st := by rw [pHn]
theorem pHn_ok {st : Nat → Int32} (h : sOk st) : ∀ n, sOk (pHn st n)
  | 0 => by rw [pHn_0]; exact h
  | n + 1 => by rw [pHn_s]; exact pH_ok (pHn_ok h n)
theorem sBrk_k {F st : Nat → Int32} {n c : Nat} : sBrk F st n (9 + c) = st (9 + c) ∨ sBrk F st n (9 + c) = 0 := by
  unfold sBrk
  split
  · exact Or.inr rfl
  · exact Or.inl rfl
theorem sRis_hi {st : Nat → Int32} {n j : Nat} (h : 1 + n ≤ j) : sRis st n j = st j := by
  unfold sRis
  rw [if_neg (by omega), if_neg (by omega)]
theorem pH_kd {st : Nat → Int32} (h : sKd st) : sKd (pH st) := by
  intro zc hzc
  unfold pH
  rw [sRis_hi (by omega)]
  rcases sBrk_k (F := bF st) (st := st) (n := 16) (c := zc) with e | e
  · rw [e]
    exact h zc hzc
  · rw [e]
    exact ⟨0, by omega, rfl⟩
theorem pHn_kd {st : Nat → Int32} (h : sKd st) : ∀ n, sKd (pHn st n)
  | 0 => by rw [pHn_0]; exact h
  | n + 1 => by rw [pHn_s]; exact pH_kd (pHn_kd h n)
def Fo (M : wc_M) : Nat → Int32 := fun j => if j < 16 then M 13 0 j else M 14 0 (j - 16)
theorem mA_id (M : wc_M) : mA M (Fo M) (M 12 0 2) = M := by
  funext zk zi zs
  unfold mA Fo
  by_cases h13 : zk = 13 ∧ zi = 0 ∧ zs < 16
  · rw [if_pos h13, if_pos h13.2.2, h13.1, h13.2.1]
  · rw [if_neg h13]
    by_cases h14 : zk = 14 ∧ zi = 0 ∧ zs < 4
    · rw [if_pos h14, if_neg (by omega), show 16 + zs - 16 = zs by omega, h14.1, h14.2.1]
    · rw [if_neg h14]
      by_cases h12 : zk = 12 ∧ zi = 0 ∧ zs = 2
      · rw [if_pos h12, h12.1, h12.2.1, h12.2.2]
      · rw [if_neg h12]
theorem c_spendA {p : Nat} {M : wc_M} {st F : Nat → Int32} {th lo : Int32} (hs : sOk st) : f_C_spendHour p (mA (mP M p st th) F lo) = some (mA (mP M p (pH st) th) (bF st) (bL st)) := by
  rw [c_spend, wst_mA, wst_mP hs, mP_mA, mP_mP, mA_mA, mA_off (by omega), mP_th]
theorem a_blowA {p : Nat} {M : wc_M} {st F : Nat → Int32} {th lo : Int32} (hs : sOk st) : f_A_blow p (mA (mP M p st th) F lo) = some (mA (mP M p st th) (bF st) (bL st)) := by
  rw [a_blow, wst_mA, wst_mP hs, mA_mA]
/-- what was felt last, before hour n of the look ahead -/
noncomputable def fLast (st : Nat → Int32) (F : Nat → Int32) : Nat → (Nat → Int32)
  | 0 => F
  | n + 1 => bF (pHn st n)
noncomputable def lLast (st : Nat → Int32) (lo : Int32) : Nat → Int32
  | 0 => lo
  | n + 1 => bL (pHn st n)
noncomputable def bLast (st : Nat → Int32) (br : Int32) : Nat → Int32
  | 0 => br
  | n + 1 => bB (pHn st n)
theorem fLast_s (st F : Nat → Int32) (n : Nat) : fLast st F (n + 1) = bF (pHn st n) := by rw [fLast]
theorem lLast_s (st : Nat → Int32) (lo : Int32) (n : Nat) : lLast st lo (n + 1) = bL (pHn st n) := by rw [lLast]
theorem bLast_s (st : Nat → Int32) (br : Int32) (n : Nat) : bLast st br (n + 1) = bB (pHn st n) := by rw [bLast]
theorem fLast_0 (st F : Nat → Int32) : fLast st F 0 = F := by rw [fLast]
theorem lLast_0 (st : Nat → Int32) (lo : Int32) : lLast st lo 0 = lo := by rw [lLast]
theorem bLast_0 (st : Nat → Int32) (br : Int32) : bLast st br 0 = br := by rw [bLast]
theorem c_fore7 {M : wc_M} {st F : Nat → Int32} {th lo : Int32} {zq : Nat} (hs : sOk st) (hq : zq < 2000) : l_C_foretell_7 (nI zq) 2000 0 (mA (mP M 1 (pHn st 0) th) (fLast st F 0) (lLast st lo 0)) = some (mA (mP M 1 (pHn st zq) th) (fLast st F zq) (lLast st lo zq)) :=
  loop_to (fun zn zx zM => l_C_foretell_7 (nI zq) zn zx zM) (fun zc => mA (mP M 1 (pHn st zc) th) (fLast st F zc) (lLast st lo zc)) zq _ (by
    intro zn zc hzc
    show l_C_foretell_7 (nI zq) (zn + 1) (nI zc) _ = _
    rw [l_C_foretell_7, if_neg (by rw [nI_leI (by omega) (by omega)]; omega), c_spendA (pHn_ok hs zc), Option.bind_some, n_ar, pHn_s, fLast_s, lLast_s]) (by
    intro zn
    show l_C_foretell_7 (nI zq) (zn + 1) (nI zq) _ = _
    rw [l_C_foretell_7, if_pos (by rw [nI_leI (by omega) (by omega)]; omega)]) 2000 hq
theorem c_fore {M : wc_M} {zq : Nat} (h : wzb (M 6 0 5) = true) (hq : zq < 2000) : f_C_foretell (nI zq) M = some (mA (mP M 1 (pHn (wst M 0) zq) (M 6 0 5)) (bF (pHn (wst M 0) zq)) (bL (pHn (wst M 0) zq))) := by
  unfold f_C_foretell
  have e := mA_id (mP M 1 (wst M 0) (M 6 0 5))
  have h7 := c_fore7 (M := M) (st := wst M 0) (F := Fo (mP M 1 (wst M 0) (M 6 0 5))) (th := M 6 0 5) (lo := mP M 1 (wst M 0) (M 6 0 5) 12 0 2) (zq := zq) (wst_ok M 0) hq
  rw [pHn_0, fLast_0, lLast_0, e] at h7
  rw [p_become h, Option.bind_some, h7, Option.bind_some, a_blowA (pHn_ok (wst_ok M 0) zq), Option.bind_some]
theorem r_bi4 {M : wc_M} {st F as : Nat → Int32} {lo br : Int32} {zq : Nat} (hk : sKd st) (hq : zq < 2000) : l_M_blowIn_4 (nI zq) 2000 0 (mR M (pHn st 0) (fLast st F 0) (lLast st lo 0) (bLast st br 0) as) = some (mR M (pHn st zq) (fLast st F zq) (lLast st lo zq) (bLast st br zq) as) :=
  loop_to (fun zn zx zM => l_M_blowIn_4 (nI zq) zn zx zM) (fun zc => mR M (pHn st zc) (fLast st F zc) (lLast st lo zc) (bLast st br zc) as) zq _ (by
    intro zn zc hzc
    show l_M_blowIn_4 (nI zq) (zn + 1) (nI zc) _ = _
    rw [l_M_blowIn_4, if_neg (by rw [nI_leI (by omega) (by omega)]; omega), r_oneHour (pHn_kd hk zc), Option.bind_some, n_ar, pHn_s, fLast_s, lLast_s, bLast_s]) (by
    intro zn
    show l_M_blowIn_4 (nI zq) (zn + 1) (nI zq) _ = _
    rw [l_M_blowIn_4, if_pos (by rw [nI_leI (by omega) (by omega)]; omega)]) 2000 hq
theorem r_blowIn {M : wc_M} {st F as : Nat → Int32} {lo br : Int32} {zq : Nat} (hk : sKd st) (hs : sOk st) (ha : sOk as) (hq : zq < 2000) : f_M_blowIn (nI zq) (mR M st F lo br as) = some (mR M st (bF (pHn st zq)) (bL (pHn st zq)) (bLast st br zq) st) := by
  unfold f_M_blowIn
  have h4 := r_bi4 (M := M) (F := F) (as := st) (lo := lo) (br := br) hk hq
  rw [pHn_0, fLast_0, lLast_0, bLast_0] at h4
  rw [r_aside hs ha, Option.bind_some, h4, Option.bind_some, r_blow (pHn_kd hk zq), Option.bind_some, r_back (pHn_ok hs zq) hs, Option.bind_some]
