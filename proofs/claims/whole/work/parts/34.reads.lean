/-! WHAT IS READ: cells, winds, kinds, counts, the trace -/
theorem c_feltNow {M : wc_M} {c : Nat} (hc : c < 16) : f_C_feltNow (nI c) M = some (bF (wst M 0) c, mA M (bF (wst M 0)) (bL (wst M 0))) := by
  unfold f_C_feltNow
  rw [a_blow, Option.bind_some, if_pos (n_wib (by omega) (by decide)), n_t (by omega), mA_f hc]
theorem g_feltNow {M : wc_M} {st : Nat → Int32} {c : Nat} (h : wrs M 25 0 = st) (hk : sKd st) (hc : c < 20) : f_M_feltNow (nI c) M = some (bF st c, mR M st (bF st) (bL st) (M 21 0 20) (wrs M 31 0)) := by
  unfold f_M_feltNow
  rw [g_blow h hk, Option.bind_some, if_pos (n_wib (by omega) (by decide)), n_t (by omega), mR_f hc]
theorem Rel_e25 {M : wc_M} (r : Rel M) : wrs M 25 0 = wst M 0 := r.1.2.2.1
theorem Rel_RA {M : wc_M} {F F' as : Nat → Int32} {lo lo' br : Int32} (r : Rel M) : Rel (mR (mA M F lo) (wst M 0) F' lo' br as) := by
  have h := Rel_R (F := F') (lo := lo') (br := br) (as := as) (Rel_A (F := F) (lo := lo) r)
  rw [wst_mA] at h
  exact h
theorem q_cell (a1 a2 : Int32) {M : wc_M} (r : Rel M) : Ag (f_C_cell a1 a2) (f_M_cell a1 a2) M := by
  unfold f_C_cell f_M_cell
  have hw := Rel_w r
  have e25 := Rel_e25 r
  by_cases h0 : M 6 0 5 = 0
  · exact Ag_i (if_pos h0) (if_pos (by rw [Rel_m4 r]; exact h0)) rfl r
  by_cases h1 : f_C_isUpTo a1 15 = 0
  · exact Ag_i (M1 := M) (M2 := M) (by rw [if_neg h0, c_cell, if_pos h1]) (by rw [Rel_m4 r, if_neg h0, m_isCell, if_pos h1]) rfl r
  by_cases h2 : f_C_isUpTo a2 3 = 0
  · exact Ag_i (M1 := M) (M2 := M) (by rw [if_neg h0, c_cell, if_neg h1, if_pos h2]) (by rw [Rel_m4 r, if_neg h0, m_isCell, if_neg h1, m_up_3, if_pos h2]) rfl r
  obtain ⟨zc, hc, rfl⟩ := c_upK (by decide) h1
  by_cases h3 : a2 = 0
  · have e1 : wrs (mA M (bF (wst M 0)) (bL (wst M 0))) 25 0 = wst M 0 := by
      rw [← e25]
      exact wrs_fr (fun zs => mA_off (by omega))
    refine Ag_i (r := bF (wst M 0) zc) (M1 := mA M (bF (wst M 0)) (bL (wst M 0))) (by rw [if_neg h0, c_cell, if_neg h1, if_neg h2, if_pos h3, c_feltNow (by omega), Option.bind_some]) (by rw [mA_off (by omega), Rel_m4 r, if_neg h0, m_isCell, if_neg h1, m_up_3, if_neg h2, if_pos h3, g_feltNow e1 (sW_kd hw) (by omega), Option.bind_some]) rfl (Rel_RA r)
  by_cases h4 : wst M 0 (9 + zc) = 0
  · exact Ag_i (M1 := M) (M2 := M) (by rw [if_neg h0, c_cell, if_neg h1, if_neg h2, if_neg h3, p_has (by omega), Option.bind_some, if_pos h4, if_pos rfl]) (by rw [Rel_m4 r, if_neg h0, m_isCell, if_neg h1, m_up_3, if_neg h2, if_neg h3, g_isWork e25 (sW_kd hw) (by omega), Option.bind_some, if_pos h4, if_pos rfl]) rfl r
  by_cases h5 : a2 = 1
  · refine Ag_i (r := wst M 0 (9 + zc)) (M1 := M) (M2 := M) ?_ ?_ rfl r
    · rw [if_neg h0, c_cell, if_neg h1, if_neg h2, if_neg h3, p_has (by omega), Option.bind_some, if_neg h4, if_neg (by decide), if_pos h5, if_pos (n_wib (by omega) (by decide)), n_t (by omega), wst_k (by omega)]
    · rw [Rel_m4 r, if_neg h0, m_isCell, if_neg h1, m_up_3, if_neg h2, if_neg h3, g_isWork e25 (sW_kd hw) (by omega), Option.bind_some, if_neg h4, if_neg (by decide), if_pos h5, Option.bind_some, n_al, if_pos (n_wib (by omega) (by decide)), n_t (by omega), g_at e25 (by omega)]
  by_cases h6 : a2 = 2
  · refine Ag_i (r := wst M 0 (25 + zc)) (M1 := M) (M2 := M) ?_ ?_ rfl r
    · rw [if_neg h0, c_cell, if_neg h1, if_neg h2, if_neg h3, p_has (by omega), Option.bind_some, if_neg h4, if_neg (by decide), if_neg h5, if_pos h6, if_pos (n_wib (by omega) (by decide)), n_t (by omega), wst_o (by omega)]
    · rw [Rel_m4 r, if_neg h0, m_isCell, if_neg h1, m_up_3, if_neg h2, if_neg h3, g_isWork e25 (sW_kd hw) (by omega), Option.bind_some, if_neg h4, if_neg (by decide), if_neg h5, if_pos h6, Option.bind_some, n_al, if_pos (n_wib (by omega) (by decide)), n_t (by omega), g_at e25 (by omega)]
  · refine Ag_i (r := wst M 0 (41 + zc)) (M1 := M) (M2 := M) ?_ ?_ rfl r
    · rw [if_neg h0, c_cell, if_neg h1, if_neg h2, if_neg h3, p_has (by omega), Option.bind_some, if_neg h4, if_neg (by decide), if_neg h5, if_neg h6, if_pos (n_wib (by omega) (by decide)), n_t (by omega), wst_w (by omega)]
    · rw [Rel_m4 r, if_neg h0, m_isCell, if_neg h1, m_up_3, if_neg h2, if_neg h3, g_isWork e25 (sW_kd hw) (by omega), Option.bind_some, if_neg h4, if_neg (by decide), if_neg h5, if_neg h6, Option.bind_some, n_al, if_pos (n_wib (by omega) (by decide)), n_t (by omega), g_at e25 (by omega)]
theorem q_wind (a1 a2 : Int32) {M : wc_M} (r : Rel M) : ∃ v, f_C_wind a1 a2 M = some v ∧ f_M_wind a1 a2 M = some v := by
  unfold f_C_wind f_M_wind
  have e25 := Rel_e25 r
  by_cases h0 : M 6 0 5 = 0
  · exact ⟨_, if_pos h0, if_pos (by rw [Rel_m4 r]; exact h0)⟩
  by_cases h1 : f_C_isUpTo a1 3 = 0
  · exact ⟨-1000001, by rw [if_neg h0, c_line, if_pos h1], by rw [Rel_m4 r, if_neg h0, m_isLine, if_pos h1]⟩
  by_cases h2 : f_C_isUpTo a2 1 = 0
  · exact ⟨-1000001, by rw [if_neg h0, c_line, if_neg h1, if_pos h2], by rw [Rel_m4 r, if_neg h0, m_isLine, if_neg h1, m_up_1, if_pos h2]⟩
  obtain ⟨zc, hc, rfl⟩ := c_upK (by decide) h1
  by_cases h3 : a2 = 0
  · refine ⟨wst M 0 (1 + zc), ?_, ?_⟩
    · rw [if_neg h0, c_line, if_neg h1, if_neg h2, if_pos h3, if_pos (n_wib (by omega) (by decide)), n_t (by omega), wst_g (by omega)]
    · rw [Rel_m4 r, if_neg h0, m_isLine, if_neg h1, m_up_1, if_neg h2, if_pos h3, n_al, if_pos (n_wib (by omega) (by decide)), n_t (by omega), g_at e25 (by omega)]
  · refine ⟨wst M 0 (5 + zc), ?_, ?_⟩
    · rw [if_neg h0, c_line, if_neg h1, if_neg h2, if_neg h3, if_pos (n_wib (by omega) (by decide)), n_t (by omega), wst_r (by omega)]
    · rw [Rel_m4 r, if_neg h0, m_isLine, if_neg h1, m_up_1, if_neg h2, if_neg h3, n_al, if_pos (n_wib (by omega) (by decide)), n_t (by omega), g_at e25 (by omega)]
theorem q_kind (a1 : Int32) {M : wc_M} (r : Rel M) : ∃ v, f_C_kind a1 M = some v ∧ f_M_kind a1 M = some v := by
  unfold f_C_kind f_M_kind
  have hw := Rel_w r
  have e25 := Rel_e25 r
  by_cases h0 : M 6 0 5 = 0
  · exact ⟨_, if_pos h0, if_pos (by rw [Rel_m4 r]; exact h0)⟩
  by_cases h1 : f_C_isUpTo a1 15 = 0
  · exact ⟨-1000001, by rw [if_neg h0, c_cell, if_pos h1], by rw [Rel_m4 r, if_neg h0, m_isCell, if_pos h1]⟩
  obtain ⟨zc, hc, rfl⟩ := c_upK (by decide) h1
  by_cases h4 : wst M 0 (9 + zc) = 0
  · exact ⟨-1000000, by rw [if_neg h0, c_cell, if_neg h1, p_has (by omega), Option.bind_some, if_pos h4, if_pos rfl], by rw [Rel_m4 r, if_neg h0, m_isCell, if_neg h1, g_isWork e25 (sW_kd hw) (by omega), Option.bind_some, if_pos h4, if_pos rfl]⟩
  · refine ⟨wst M 0 (9 + zc), ?_, ?_⟩
    · rw [if_neg h0, c_cell, if_neg h1, p_has (by omega), Option.bind_some, if_neg h4, if_neg (by decide), if_pos (n_wib (by omega) (by decide)), n_t (by omega), wst_k (by omega)]
    · rw [Rel_m4 r, if_neg h0, m_isCell, if_neg h1, g_isWork e25 (sW_kd hw) (by omega), Option.bind_some, if_neg h4, if_neg (by decide), n_al, if_pos (n_wib (by omega) (by decide)), n_t (by omega), g_at e25 (by omega)]
theorem m_inQ (x v : Int32) : f_M_in x.toInt64 0 (v - 1).toInt64 = f_C_isUpTo x (v - 1) := m_up x (v - 1)
theorem q_trace (a1 : Int32) {M : wc_M} (r : Rel M) : ∃ v, f_C_trace a1 M = some v ∧ f_M_trace a1 M = some v := by
  obtain ⟨n, hn, e1, e2, e3⟩ := r.2.2.2.2.2.2.1
  unfold f_C_trace f_M_trace
  rw [e1, e2, m_inQ]
  by_cases h1 : f_C_isUpTo a1 (nI n - 1) = 0
  · exact ⟨-1000000, by rw [if_pos h1], by rw [if_pos h1]⟩
  · obtain ⟨h2, h3⟩ := c_up0 h1
    have hn0 : 1 ≤ n := by
      by_cases h : n = 0
      · subst h
        exact absurd (Int32.le_trans h2 h3) (by decide)
      · omega
    rw [n_sub hn0] at h3
    obtain ⟨c, hc, rfl⟩ := n_of h2
    have hcn : c ≤ n - 1 := (nI_leI (by omega) (by omega)).mp h3
    refine ⟨M 20 0 c, ?_, ?_⟩
    · rw [if_neg h1, if_pos (n_wib (by omega) (by decide)), n_t (by omega)]
    · rw [if_neg h1, if_pos (n_wib (by omega) (by decide)), n_t (by omega), e3 c (by omega)]
def rcN (M : wc_M) : Nat → Nat
  | 0 => 0
  | c + 1 => rcN M c + (if M 2 c 1 = 0 then 0 else 1)
theorem rcN_s (M : wc_M) (c : Nat) : rcN M (c + 1) = rcN M c + (if M 2 c 1 = 0 then 0 else 1) := by rw [rcN]
theorem c_rows {M : wc_M} : f_C_rowsThere M = some (nI (rcN M 8)) := by
  unfold f_C_rowsThere
  have h : l_C_rowsThere_4 M 2000 (nI (rcN M 0)) 0 = some (nI (rcN M 8)) := loop_to (fun zn zx zs => l_C_rowsThere_4 M zn zs zx) (fun zc => nI (rcN M zc)) 8 _ (by
    intro zn zc hzc
    show l_C_rowsThere_4 M (zn + 1) (nI (rcN M zc)) (nI zc) = l_C_rowsThere_4 M zn (nI (rcN M (zc + 1))) (nI (zc + 1))
    rw [l_C_rowsThere_4, if_neg (by rw [n_le (by decide) (by omega)]; omega), if_pos (n_wib (by omega) (by decide)), n_t (by omega), n_ar, rcN_s]
    by_cases h0 : M 2 zc 1 = 0
    · rw [if_pos h0, if_pos h0]
      rfl
    · rw [if_neg h0, if_neg h0, n_ar]) (by
    intro zn
    show l_C_rowsThere_4 M (zn + 1) (nI (rcN M 8)) (nI 8) = _
    rw [l_C_rowsThere_4, if_pos (by decide)]) 2000 (by decide)
  rw [show l_C_rowsThere_4 M 2000 0 0 = _ from h]
  rfl
theorem m_rows {x : Int32} {M : wc_M} (r : RelR M) : l_M_count_4 x M 2000 0 0 = some (nI (rcN M 8)) :=
  loop_to (fun zn zx zs => l_M_count_4 x M zn zs zx) (fun zc => nI (rcN M zc)) 8 (nI (rcN M 8)) (by
    intro zn zc hzc
    show l_M_count_4 x M (zn + 1) (nI (rcN M zc)) (nI zc) = l_M_count_4 x M zn (nI (rcN M (zc + 1))) (nI (zc + 1))
    rw [l_M_count_4, if_neg (by rw [n_le (by decide) (by omega)]; omega), if_pos (n_wib (by omega) (by decide)), n_t (by omega), n_ar, rcN_s]
    rcases r zc hzc with ⟨h1, h2⟩ | ⟨h1, n, l, hn, hl, h2, h3, _⟩
    · rw [h2, if_pos (by decide), if_pos h1, n_ar]
    · rw [h3, if_neg (n_n0 (by omega)), if_neg (by rw [h1]; decide), n_ar, n_ar]) (by
    intro zn
    show l_M_count_4 x M (zn + 1) (nI (rcN M 8)) (nI 8) = _
    rw [l_M_count_4, if_pos (by decide)]) 2000 (by decide)
theorem c_leaving {M : wc_M} {F : Nat → Int32} {lo : Int32} : l_C_leavingNow_9 (mA M F lo) 2000 0 0 = some (F 16 + F 17 + F 18 + F 19) := by
  have hz : (0 : Int32) + F 16 = F 16 := by simp
  rw [l_C_leavingNow_9, if_neg (by decide), if_pos (show wib 0 4 = true from rfl), show ((0 : Int32)).toNatClampNeg = 0 from rfl, mA_l (by omega), hz, show (0 : Int32) + 1 = 1 from rfl]
  rw [l_C_leavingNow_9, if_neg (by decide), if_pos (show wib 1 4 = true from rfl), show ((1 : Int32)).toNatClampNeg = 1 from rfl, mA_l (by omega), show (1 : Int32) + 1 = 2 from rfl]
  rw [l_C_leavingNow_9, if_neg (by decide), if_pos (show wib 2 4 = true from rfl), show ((2 : Int32)).toNatClampNeg = 2 from rfl, mA_l (by omega), show (2 : Int32) + 1 = 3 from rfl]
  rw [l_C_leavingNow_9, if_neg (by decide), if_pos (show wib 3 4 = true from rfl), show ((3 : Int32)).toNatClampNeg = 3 from rfl, mA_l (by omega), show (3 : Int32) + 1 = 4 from rfl]
  rw [l_C_leavingNow_9, if_pos (by decide)]
noncomputable def vCt (a : Int32) (M : wc_M) : Int32 := if a = 0 then nI (rcN M 8) else if a = 1 then nI (sWn (wst M 0) 16) else if a = 2 then wst M 0 0 else if a = 3 then bL (wst M 0) else if a = 4 then bF (wst M 0) 16 + bF (wst M 0) 17 + bF (wst M 0) 18 + bF (wst M 0) 19 else if a = 5 then M 21 0 22 else if a = 6 then M 21 0 8 else -1000001
theorem m_count {M : wc_M} (a : Int32) (r : Rel M) : f_M_count a M = some (vCt a M, mR M (wst M 0) (bF (wst M 0)) (bL (wst M 0)) (M 21 0 20) (wrs M 31 0)) := by
  have hk := sW_kd (Rel_w r)
  unfold f_M_count vCt
  rw [m_rows r.2.2.1, Option.bind_some, g_blow (Rel_e25 r) hk, Option.bind_some]
  by_cases h0 : a = 0
  · rw [if_pos h0, if_pos h0]
  rw [if_neg h0, if_neg h0]
  by_cases h1 : a = 1
  · rw [if_pos h1, if_pos h1, r_works hk, Option.bind_some]
  rw [if_neg h1, if_neg h1]
  by_cases h2 : a = 2
  · rw [if_pos h2, if_pos h2, show ((0 : Int32)).toNatClampNeg = 0 from rfl, mR_st (by omega)]
  rw [if_neg h2, if_neg h2]
  by_cases h3 : a = 3
  · rw [if_pos h3, if_pos h3, mR_lo]
  rw [if_neg h3, if_neg h3]
  by_cases h4 : a = 4
  · rw [if_pos h4, if_pos h4, show ((16 : Int32)).toNatClampNeg = 16 from rfl, show ((17 : Int32)).toNatClampNeg = 17 from rfl, show ((18 : Int32)).toNatClampNeg = 18 from rfl, show ((19 : Int32)).toNatClampNeg = 19 from rfl, mR_f (by omega), mR_f (by omega), mR_f (by omega), mR_f (by omega)]
  rw [if_neg h4, if_neg h4]
  by_cases h5 : a = 5
  · rw [if_pos h5, if_pos h5, mR_off (by omega)]
  rw [if_neg h5, if_neg h5]
  by_cases h6 : a = 6
  · rw [if_pos h6, if_pos h6, mR_off (by omega)]
  rw [if_neg h6, if_neg h6]
theorem q_count (a1 : Int32) {M : wc_M} (r : Rel M) : Ag (f_C_count a1) (f_M_count a1) M := by
  have key : ∀ M1, Rel M1 → f_C_count a1 M = some (vCt a1 M1, M1) → Ag (f_C_count a1) (f_M_count a1) M := by
    intro M1 r1 h
    exact Ag_i h (m_count a1 r1) rfl (Rel_R r1)
  by_cases h0 : a1 = 0
  · refine key M r ?_
    unfold f_C_count vCt
    rw [if_pos h0, if_pos h0, c_rows, Option.bind_some]
  by_cases h1 : a1 = 1
  · refine key M r ?_
    unfold f_C_count vCt
    rw [if_neg h0, if_neg h0, if_pos h1, if_pos h1, p_works, Option.bind_some]
  by_cases h2 : a1 = 2
  · refine key M r ?_
    unfold f_C_count vCt
    rw [if_neg h0, if_neg h0, if_neg h1, if_neg h1, if_pos h2, if_pos h2, wst_h]
  by_cases h3 : a1 = 3
  · refine key (mA M (bF (wst M 0)) (bL (wst M 0))) (Rel_A r) ?_
    unfold f_C_count f_C_lostNow vCt
    rw [if_neg h0, if_neg h0, if_neg h1, if_neg h1, if_neg h2, if_neg h2, if_pos h3, if_pos h3, a_blow, Option.bind_some, Option.bind_some, mA_lo, wst_mA]
  by_cases h4 : a1 = 4
  · refine key (mA M (bF (wst M 0)) (bL (wst M 0))) (Rel_A r) ?_
    unfold f_C_count f_C_leavingNow vCt
    rw [if_neg h0, if_neg h0, if_neg h1, if_neg h1, if_neg h2, if_neg h2, if_neg h3, if_neg h3, if_pos h4, if_pos h4, a_blow, Option.bind_some, c_leaving, Option.bind_some, Option.bind_some, wst_mA]
  by_cases h5 : a1 = 5
  · refine key M r ?_
    unfold f_C_count vCt
    obtain ⟨H, k, hk, ⟨n, hn, c1, c2, c3⟩, ⟨m1, m2⟩, hH⟩ := r.2.2.2.2.1
    rw [if_neg h0, if_neg h0, if_neg h1, if_neg h1, if_neg h2, if_neg h2, if_neg h3, if_neg h3, if_neg h4, if_neg h4, if_pos h5, if_pos h5, c2, m1]
  by_cases h6 : a1 = 6
  · refine key M r ?_
    unfold f_C_count vCt
    obtain ⟨⟨n, hn, t1, t2, t3⟩, t4⟩ := r.2.2.2.1
    rw [if_neg h0, if_neg h0, if_neg h1, if_neg h1, if_neg h2, if_neg h2, if_neg h3, if_neg h3, if_neg h4, if_neg h4, if_neg h5, if_neg h5, if_pos h6, if_pos h6, t1, t2]
  · refine key M r ?_
    unfold f_C_count vCt
    rw [if_neg h0, if_neg h0, if_neg h1, if_neg h1, if_neg h2, if_neg h2, if_neg h3, if_neg h3, if_neg h4, if_neg h4, if_neg h5, if_neg h5, if_neg h6, if_neg h6]
/-- findings, rows -/
theorem Rel_rw {M M' : wc_M} (h : ∀ k i s, ¬ (k = 2 ∨ k = 3 ∨ k = 22 ∨ k = 23 ∨ k = 24 ∨ (k = 0 ∧ s = 9) ∨ (k = 21 ∧ s = 3) ∨ Irr k i s) → M' k i s = M k i s) (r : Rel M) (rf : RelF M') (rr : RelR M') : Rel M' := by
  obtain ⟨r1, r2, r3, r4, r5, r6, r7, r8⟩ := r
  refine ⟨RelP_of ?_ r1, rf, rr, RelT_of ?_ r4, RelA_of ?_ r5, RelI_of ?_ r6, RelQ_of ?_ r7, RelH_of ?_ r8⟩
  all_goals intro zk zi zs hz; exact h zk zi zs (by unfold Irr; omega)
theorem Rel_fd {M M' : wc_M} (h : ∀ k i s, ¬ ((k = 0 ∧ s = 9) ∨ (k = 21 ∧ s = 3) ∨ Irr k i s) → M' k i s = M k i s) (r : Rel M) (rf : RelF M') : Rel M' :=
  Rel_rw (fun zk zi zs hz => h zk zi zs (by unfold Irr at hz ⊢; omega)) r rf (RelR_of (fun zk zi zs hz => h zk zi zs (by unfold Irr; omega)) r.2.2.1)
theorem Rel_find {M : wc_M} {v : Int32} (r : Rel M) : Rel (wc_up (wc_up M 0 0 9 v) 21 0 3 v) := by
  refine Rel_fd ?_ r ?_
  · intro zk zi zs hz
    unfold wc_up
    rw [if_neg (by omega), if_neg (by omega)]
  · unfold RelF wc_up
    rw [if_pos ⟨rfl, rfl, rfl⟩, if_neg (by omega), if_pos ⟨rfl, rfl, rfl⟩]
theorem q_isA : ∀ n, n ≤ 5 → ∀ w, w ≤ 5 → ¬ n = 0 → f_C_isA (nI n) (nI w) = some (f_M_isKind (nI n) (nI w)) := by
  intro n hn w hw h0
  unfold f_C_isA
  have e0 : ∀ x c, l_C_isA_4 (nI w) 2000 x c = l_C_isA_4 (nI w) (1994 + 6) x c := fun x c => rfl
  rw [e0]
  generalize 1994 = q
  rcases (show n = 1 ∨ n = 2 ∨ n = 3 ∨ n = 4 ∨ n = 5 by omega) with rfl | rfl | rfl | rfl | rfl <;> rcases (show w = 0 ∨ w = 1 ∨ w = 2 ∨ w = 3 ∨ w = 4 ∨ w = 5 by omega) with rfl | rfl | rfl | rfl | rfl | rfl <;> rfl
theorem q_as (a1 a2 : Int32) {M : wc_M} (r : Rel M) : Ag (f_C_as a1 a2) (f_M_as a1 a2) M := by
  unfold f_C_as f_M_as
  have hw := Rel_w r
  have e25 := Rel_e25 r
  by_cases h0 : M 6 0 5 = 0
  · exact Ag_i (if_pos h0) (if_pos (by rw [Rel_m4 r]; exact h0)) rfl r
  by_cases h1 : f_C_isUpTo a1 15 = 0
  · exact Ag_i (M1 := M) (M2 := M) (by rw [if_neg h0, c_cell, if_pos h1]) (by rw [Rel_m4 r, if_neg h0, m_isCell, if_pos h1]) rfl r
  by_cases h2 : f_C_isUpTo a2 5 = 0
  · exact Ag_i (M1 := M) (M2 := M) (by rw [if_neg h0, c_cell, if_neg h1, if_pos h2]) (by rw [Rel_m4 r, if_neg h0, m_isCell, if_neg h1, m_up_5, if_pos h2]) rfl r
  obtain ⟨zc, hc, rfl⟩ := c_upK (by decide) h1
  obtain ⟨zw, hzw, rfl⟩ := c_upK (by decide) h2
  by_cases h4 : wst M 0 (9 + zc) = 0
  · exact Ag_i (M1 := M) (M2 := M) (by rw [if_neg h0, c_cell, if_neg h1, if_neg h2, p_has (by omega), Option.bind_some, if_pos h4, if_pos rfl]) (by rw [Rel_m4 r, if_neg h0, m_isCell, if_neg h1, m_up_5, if_neg h2, g_isWork e25 (sW_kd hw) (by omega), Option.bind_some, if_pos h4, if_pos rfl]) rfl r
  obtain ⟨n, hn, hne⟩ := (sW_kd hw) zc (by omega)
  have hA := q_isA n hn zw hzw (by
    intro e
    rw [hne, e] at h4
    exact h4 rfl)
  have k1 : M 9 0 zc = nI n := by rw [← hne, wst_k (by omega)]
  by_cases h5 : f_M_isKind (nI n) (nI zw) = 0
  · refine Ag_i (r := -1000010 - 3) (M1 := wc_up M 0 0 9 3) (M2 := wc_up (wc_up M 0 0 9 3) 21 0 3 3) ?_ ?_ rfl (Rel_find r)
    · show (if M 6 0 5 = 0 then _ else _) = _
      rw [if_neg h0, c_cell, if_neg h1, if_neg h2, p_has (by omega), Option.bind_some, if_neg h4, if_neg (by decide), if_pos (n_wib (by omega) (by decide)), n_t (by omega), k1, hA, Option.bind_some, if_pos h5]
      rfl
    · have e1 : wrs (wc_up M 0 0 9 3) 25 0 = wst M 0 := e25
      show (if M 21 0 4 = 0 then _ else _) = _
      rw [Rel_m4 r, if_neg h0, m_isCell, if_neg h1, m_up_5, if_neg h2, g_isWork e1 (sW_kd hw) (by omega), Option.bind_some, if_neg h4, if_neg (by decide), n_al, if_pos (n_wib (by omega) (by decide)), n_t (by omega), g_at e1 (by omega), hne, if_pos h5]
      rfl
  · refine Ag_i (r := nI zc) (M1 := wc_up M 0 0 9 0) (M2 := wc_up (wc_up M 0 0 9 0) 21 0 3 0) ?_ ?_ rfl (Rel_find r)
    · show (if M 6 0 5 = 0 then _ else _) = _
      rw [if_neg h0, c_cell, if_neg h1, if_neg h2, p_has (by omega), Option.bind_some, if_neg h4, if_neg (by decide), if_pos (n_wib (by omega) (by decide)), n_t (by omega), k1, hA, Option.bind_some, if_neg h5]
      rfl
    · have e1 : wrs (wc_up M 0 0 9 0) 25 0 = wst M 0 := e25
      show (if M 21 0 4 = 0 then _ else _) = _
      rw [Rel_m4 r, if_neg h0, m_isCell, if_neg h1, m_up_5, if_neg h2, g_isWork e1 (sW_kd hw) (by omega), Option.bind_some, if_neg h4, if_neg (by decide), n_al, if_pos (n_wib (by omega) (by decide)), n_t (by omega), g_at e1 (by omega), hne, if_neg h5]
      rfl
