/-! THE REFERENCE's pass: its row of 57 numbers, what is felt, lost and broken, and the row set aside, put in their places -/
def mR (M : wc_M) (st F : Nat → Int32) (lo br : Int32) (as : Nat → Int32) : wc_M := fun k i s => if k = 25 ∧ i = 0 ∧ s < 57 then st s else if k = 29 ∧ i = 0 ∧ s < 20 then F s else if k = 31 ∧ i = 0 ∧ s < 57 then as s else if k = 21 ∧ i = 0 ∧ s = 19 then lo else if k = 21 ∧ i = 0 ∧ s = 20 then br else M k i s
theorem mR_st {M : wc_M} {st F as : Nat → Int32} {lo br : Int32} {j : Nat} (h : j < 57) : mR M st F lo br as 25 0 j = st j := by
  unfold mR
  rw [if_pos ⟨rfl, rfl, h⟩]
theorem mR_f {M : wc_M} {st F as : Nat → Int32} {lo br : Int32} {j : Nat} (h : j < 20) : mR M st F lo br as 29 0 j = F j := by
  unfold mR
  rw [if_neg (by omega), if_pos ⟨rfl, rfl, h⟩]
theorem mR_as {M : wc_M} {st F as : Nat → Int32} {lo br : Int32} {j : Nat} (h : j < 57) : mR M st F lo br as 31 0 j = as j := by
  unfold mR
  rw [if_neg (by omega), if_neg (by omega), if_pos ⟨rfl, rfl, h⟩]
theorem mR_lo {M : wc_M} {st F as : Nat → Int32} {lo br : Int32} : mR M st F lo br as 21 0 19 = lo := by
  unfold mR
  simp
theorem mR_br {M : wc_M} {st F as : Nat → Int32} {lo br : Int32} : mR M st F lo br as 21 0 20 = br := by
  unfold mR
  simp
theorem mR_off {M : wc_M} {st F as : Nat → Int32} {lo br : Int32} {k i s : Nat} (h : k ≠ 25 ∧ k ≠ 29 ∧ k ≠ 31 ∧ (k ≠ 21 ∨ (s ≠ 19 ∧ s ≠ 20))) : mR M st F lo br as k i s = M k i s := by
  unfold mR
  grind
theorem mR_id (M : wc_M) : mR M (wrs M 25 0) (M 29 0) (M 21 0 19) (M 21 0 20) (wrs M 31 0) = M := by
  funext k i s
  unfold mR wrs
  grind
theorem wrs_mR {M : wc_M} {st F as : Nat → Int32} {lo br : Int32} (h : sOk st) : wrs (mR M st F lo br as) 25 0 = st := by
  funext j
  unfold wrs
  by_cases hj : j < 57
  · rw [if_pos hj, Nat.zero_add, mR_st hj]
  · rw [if_neg hj, h j (by omega)]
theorem r_goes {M : wc_M} {st F as : Nat → Int32} {lo br v : Int32} {x y : Nat} (hx : x ≤ 3) (hy : y < 4) : f_M_goes (nI x) (nI y) v (mR M st F lo br as) = some (mR M st (bAd F (4 * (x + 1) + y) v) lo br as) := by
  unfold f_M_goes
  rw [m_isLine]
  have h1 : ¬ f_C_isUpTo (nI y) 3 = 0 := by
    unfold f_C_isUpTo
    rw [if_neg (n_n0 (by omega)), if_neg (by rw [n_gt (by decide) (by omega)]; omega)]
    decide
  rw [if_neg h1, n_ml, n_ar, nI_add, if_pos (n_wib (by omega) (by decide)), n_t (by omega)]
  congr 1
  have e : 4 * x + 4 + y = 4 * (x + 1) + y := by omega
  rw [e]
  funext zk zi zs
  unfold wc_up mR bAd
  grind
theorem r_goesN {M : wc_M} {st F as : Nat → Int32} {lo br v : Int32} {x y : Nat} (hx : x ≤ 3) (hy : y < 4) : f_M_goes (nI x) (nI y - 1) v (mR M st F lo br as) = some (if y = 0 then mR M st F (lo + v) br as else mR M st (bAd F (4 * (x + 1) + y - 1) v) lo br as) := by
  by_cases h0 : y = 0
  · subst h0
    rw [if_pos rfl]
    unfold f_M_goes
    rw [m_isLine, if_pos (by decide)]
    congr 1
    funext zk zi zs
    unfold wc_up mR
    grind
  · rw [if_neg h0, n_sub (by omega), r_goes hx (by omega), show 4 * (x + 1) + (y - 1) = 4 * (x + 1) + y - 1 by omega]
theorem r_goesS {M : wc_M} {st F as : Nat → Int32} {lo br v : Int32} {x y : Nat} (hx : x ≤ 3) (hy : y < 4) : f_M_goes (nI x) (nI y + 1) v (mR M st F lo br as) = some (if y = 3 then mR M st F (lo + v) br as else mR M st (bAd F (4 * (x + 1) + y + 1) v) lo br as) := by
  rw [n_ar]
  by_cases h0 : y = 3
  · subst h0
    rw [if_pos rfl]
    unfold f_M_goes
    rw [m_isLine, if_pos (by decide)]
    congr 1
    funext zk zi zs
    unfold wc_up mR
    grind
  · rw [if_neg h0, r_goes hx (by omega), show 4 * (x + 1) + (y + 1) = 4 * (x + 1) + y + 1 by omega]
/-- kinds are 0 to 5 -/
def sKd (st : Nat → Int32) : Prop := ∀ c, c < 16 → ∃ n, n ≤ 5 ∧ st (9 + c) = nI n
theorem r_blow27 {M : wc_M} {st as : Nat → Int32} {br : Int32} (hk : sKd st) : l_M_blow_27 2000 0 (mR M st (bS st 0).1 (bS st 0).2 br as) = some (mR M st (bS st 16).1 (bS st 16).2 br as) :=
  loop_to (fun zn zx zM => l_M_blow_27 zn zx zM) (fun zc => mR M st (bS st zc).1 (bS st zc).2 br as) 16 (mR M st (bS st 16).1 (bS st 16).2 br as) (by
    intro zn zc hzc
    show l_M_blow_27 (zn + 1) (nI zc) _ = _
    rw [l_M_blow_27]
    rw [if_neg (by rw [n_le (by decide) (by omega)]; omega), if_pos (n_wib (by omega) (by decide)), n_al, n_al, if_pos (n_wib (by omega) (by decide)), n_t (by omega), n_t (by omega), n_t (by omega), show ((0 : Int32)).toNatClampNeg = 0 from rfl, mR_st (by omega), mR_st (by omega), mR_f (by omega), if_pos (n_wib (show 41 + zc < 57 by omega) (by decide))]
    rw [mR_st (by omega), n_div (by decide) (by decide) (by omega), n_rem (by decide) (by decide) (by omega), n_ar (c := zc)]
    obtain ⟨kn, hkn, hke⟩ := hk zc hzc
    have hon : (if st (9 + zc) = 0 then some ((bS st zc).1 zc) else if st (9 + zc) = 3 then (if st (41 + zc) = 1 then some ((bS st zc).1 zc) else if st (9 + zc) = 2 then some ((bS st zc).1 zc / 2) else some 0) else if st (9 + zc) = 2 then some ((bS st zc).1 zc / 2) else some 0) = some (bOn st zc ((bS st zc).1 zc)) := by
      unfold bOn
      rw [hke]
      rcases (show kn = 0 ∨ kn = 1 ∨ kn = 2 ∨ kn = 3 ∨ kn = 4 ∨ kn = 5 by omega) with rfl | rfl | rfl | rfl | rfl | rfl
      · rfl
      · rfl
      · rfl
      · rw [if_neg (by decide), if_pos (by decide)]
        by_cases ho : st (41 + zc) = 1
        · rw [if_pos ho, if_pos ho]
          rfl
        · rw [if_neg ho, if_neg ho]
          rfl
      · rfl
      · rfl
    have hup : ∃ nf : Int32, (if st (9 + zc) = 4 then some (1 : Int32) else if st (9 + zc) = 5 then (if wc_rem (st 0) 2 = 0 then some 1 else some 0) else some 0) = some nf ∧ (if st (9 + zc) < 4 then some (((bS st zc).1 zc - bOn st zc ((bS st zc).1 zc)) / 2) else if nf = 0 then some (0 : Int32) else some ((bS st zc).1 zc)) = some (bNo st zc ((bS st zc).1 zc - bOn st zc ((bS st zc).1 zc))) := by
      unfold bNo f_A_north
      have hz : ∀ u : Int32, u - 0 = u := fun u => by simp
      by_cases h4 : kn = 4
      · subst h4
        have ho : bOn st zc ((bS st zc).1 zc) = 0 := by
          unfold bOn
          rw [hke]
          rfl
        refine ⟨1, ?_, ?_⟩
        · rw [hke]
          rfl
        · rw [ho, hke, hz]
          rfl
      · by_cases h5 : kn = 5
        · subst h5
          have ho : bOn st zc ((bS st zc).1 zc) = 0 := by
            unfold bOn
            rw [hke]
            rfl
          rw [ho, hke, hz]
          by_cases hr : wc_rem (st 0) 2 = 0
          · refine ⟨1, ?_, ?_⟩
            · rw [if_neg (by decide), if_pos (by decide), if_pos hr]
            · rw [if_pos hr]
              rfl
          · refine ⟨0, ?_, ?_⟩
            · rw [if_neg (by decide), if_pos (by decide), if_neg hr]
            · rw [if_neg hr]
              rfl
        · refine ⟨0, ?_, ?_⟩
          · rw [hke, if_neg (by rw [n_eq (by decide) (by omega)]; exact h4), if_neg (by rw [n_eq (by decide) (by omega)]; exact h5)]
          · rw [hke, if_pos (by rw [n_lt (by decide) (by omega)]; omega), if_neg (by rw [n_eq (by decide) (by omega)]; exact h4), if_neg (by rw [n_eq (by decide) (by omega)]; exact h5)]
    obtain ⟨nf, h9, hup⟩ := hup
    rw [h9]
    simp only [Option.bind_some]
    rw [hon]
    simp only [Option.bind_some]
    rw [hup]
    simp only [Option.bind_some]
    rw [r_goes (by omega) (by omega)]
    simp only [Option.bind_some]
    rw [r_goesN (by omega) (by omega)]
    simp only [Option.bind_some]
    have e4 : 4 * (zc / 4 + 1) + zc % 4 = zc + 4 := by omega
    have fin : ∀ (F : Nat → Int32) (l2 : Int32), F = (bS st (zc + 1)).1 → l2 = (bS st (zc + 1)).2 → l_M_blow_27 zn (nI (zc + 1)) (mR M st F l2 br as) = l_M_blow_27 zn (nI (zc + 1)) (mR M st (bS st (zc + 1)).1 (bS st (zc + 1)).2 br as) := fun F l2 h1 h2 => by rw [h1, h2]
    by_cases h0 : zc % 4 = 0
    · rw [if_pos h0, r_goesS (by omega) (by omega), if_neg (by omega)]
      simp only [Option.bind_some]
      refine fin _ _ ?_ ?_
      · rw [bS_s]
        unfold bSt
        simp only [h0, if_true]
        rw [if_neg (by omega), show 4 * (zc / 4 + 1) + 0 = zc + 4 by omega, show zc + 4 + 1 = zc + 5 by omega]
      · rw [bS_s]
        unfold bSt
        simp only [h0, if_true]
        rw [if_neg (by omega)]
    · rw [if_neg h0, r_goesS (by omega) (by omega)]
      by_cases h3 : zc % 4 = 3
      · rw [if_pos h3]
        simp only [Option.bind_some]
        refine fin _ _ ?_ ?_
        · rw [bS_s]
          unfold bSt
          simp only [h3, if_true]
          rw [if_neg (by omega), show 4 * (zc / 4 + 1) + 3 = zc + 4 by omega, show zc + 4 - 1 = zc + 3 by omega]
        · rw [bS_s]
          unfold bSt
          simp only [h3, if_true]
          rw [if_neg (by omega)]
      · rw [if_neg h3]
        simp only [Option.bind_some]
        refine fin _ _ ?_ ?_
        · rw [bS_s]
          unfold bSt
          simp only [h3, h0, if_false]
          rw [e4, show zc + 4 - 1 = zc + 3 by omega, show zc + 4 + 1 = zc + 5 by omega]
        · rw [bS_s]
          unfold bSt
          simp only [h3, h0, if_false]) (by
    intro zn
    show l_M_blow_27 (zn + 1) (nI 16) _ = _
    rw [l_M_blow_27, if_pos (by decide)]) 2000 (by decide)
def gM5 (M : wc_M) (st as : Nat → Int32) (br : Int32) (F0 : Nat → Int32) (n : Nat) : wc_M := mR M st (fun j => if j < n then (if j < 4 then st (1 + j) else 0) else F0 j) 0 br as
theorem r_blow {M : wc_M} {st F as : Nat → Int32} {lo br : Int32} (hk : sKd st) : f_M_blow (mR M st F lo br as) = some (mR M st (bF st) (bL st) br as) := by
  unfold f_M_blow
  have e0 : wc_up (mR M st F lo br as) 21 0 19 0 = gM5 M st as br F 0 := by
    funext zk zi zs
    unfold gM5 wc_up mR
    grind
  have h : l_M_blow_5 2000 0 (gM5 M st as br F 0) = some (gM5 M st as br F 20) := loop_to (fun zn zx zM => l_M_blow_5 zn zx zM) (fun zc => gM5 M st as br F zc) 20 _ (by
    intro zn zc hzc
    show l_M_blow_5 (zn + 1) (nI zc) _ = _
    rw [l_M_blow_5]
    rw [if_neg (by rw [n_le (by decide) (by omega)]; omega)]
    have e2 : ∀ v : Int32, (v = if zc < 4 then st (1 + zc) else 0) → wc_up (gM5 M st as br F zc) 29 0 zc v = gM5 M st as br F (zc + 1) := by
      intro v hv
      funext zk zi zs
      unfold wc_up gM5 mR
      grind
    by_cases h4 : zc < 4
    · rw [if_neg (by rw [n_le (by decide) (by omega)]; omega), n_al, if_pos (n_wib (by omega) (by decide))]
      simp only [Option.bind_some]
      rw [if_pos (n_wib hzc (by decide)), n_ar, n_t (by omega), n_t (by omega), e2]
      rw [if_pos h4]
      exact mR_st (by omega)
    · rw [if_pos (by rw [n_le (by decide) (by omega)]; omega)]
      simp only [Option.bind_some]
      rw [if_pos (n_wib hzc (by decide)), n_ar, n_t (by omega), e2]
      rw [if_neg h4]) (by
    intro zn
    show l_M_blow_5 (zn + 1) (nI 20) _ = _
    rw [l_M_blow_5, if_pos (by decide)]) 2000 (by decide)
  have e1 : gM5 M st as br F 20 = mR M st (bS st 0).1 (bS st 0).2 br as := by
    rw [bS_0]
    funext zk zi zs
    unfold gM5 mR
    grind
  have h27 := r_blow27 (M := M) (as := as) (br := br) hk
  rw [← bQ_e] at h27
  unfold bF bL
  rw [e0, h, Option.bind_some, e1, h27, Option.bind_some]
