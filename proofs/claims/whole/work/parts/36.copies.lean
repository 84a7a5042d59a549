/-! COPIES of rows; what STANDS, is HIDDEN, LEAVES most -/
theorem nI_iT {c : Nat} (h : c < 2 ^ 31) : (nI c).toInt = (c : Int) := by
  rw [i_toInt, n_tn (by omega), Int.bmod_def]
  omega
theorem in_long {i : Int32} {L zn : Nat} (hL : L ≤ 40) (hz : zn < 2 ^ 31) : f_M_in i.toInt64 0 ((nI L).toInt64 - (nI zn).toInt64) = if i < 0 then 0 else if nI L - nI zn < i then 0 else 1 := by
  have h1 : i.toInt64 < 0 ↔ i < 0 := l_lt i 0
  have h2 : (nI L).toInt64 - (nI zn).toInt64 < i.toInt64 ↔ nI L - nI zn < i := by
    rw [Int64.lt_iff_toInt_lt, Int32.lt_iff_toInt_lt, Int64.toInt_sub, Int32.toInt_sub, Int32.toInt_toInt64, Int32.toInt_toInt64, Int32.toInt_toInt64, nI_iT (show L < 2 ^ 31 by omega), nI_iT hz, Int.bmod_def, Int.bmod_def]
    omega
  rw [m_in]
  simp only [h1, h2]
theorem n_wcb {a b c n0 n1 : Nat} (h1 : a + c ≤ n0) (h2 : b + c ≤ n1) (h3 : n0 < 2 ^ 31) (h4 : n1 < 2 ^ 31) : wcb (nI a) (nI b) (nI c) n0 n1 = true := by
  unfold wcb
  rw [n_t (show a < 2 ^ 31 by omega), n_t (show b < 2 ^ 31 by omega), n_t (show c < 2 ^ 31 by omega)]
  simp [n_n0 (show a < 2 ^ 31 by omega), n_n0 (show b < 2 ^ 31 by omega), n_n0 (show c < 2 ^ 31 by omega), Nat.ble_eq, h1, h2]
theorem neg1 {n : Nat} (h : n < 2 ^ 31) : ¬ nI n = -1 := by
  intro e
  have := n_n0 h
  rw [e] at this
  exact this (by decide)
theorem q_copy (a1 a2 a3 a4 a5 : Int32) {M : wc_M} (r : Rel M) : Ag (f_C_copy a1 a2 a3 a4 a5) (f_M_copy a1 a2 a3 a4 a5) M := by
  unfold f_C_copy f_M_copy
  by_cases h1 : f_C_isUpTo a1 7 = 0
  · exact Ag_i (M1 := M) (M2 := M) (by rw [if_pos h1]) (by rw [m_isRow, if_pos h1]) rfl r
  by_cases h2 : f_C_isUpTo a3 7 = 0
  · exact Ag_i (M1 := M) (M2 := M) (by rw [if_neg h1, if_pos h2]) (by rw [m_isRow, m_isRow, if_neg h1, if_pos h2]) rfl r
  obtain ⟨za, hza, rfl⟩ := c_upK (by decide) h1
  obtain ⟨zb, hzb, rfl⟩ := c_upK (by decide) h2
  have fnd : ∀ (v : Int32), (∀ zw : wc_M, zw = wc_up M 0 0 9 v → f_M_copy (nI za) a2 (nI zb) a4 a5 zw = some (-1000010 - v, wc_up zw 21 0 3 v)) → f_C_copy (nI za) a2 (nI zb) a4 a5 M = some (-1000010 - v, wc_up M 0 0 9 v) → Ag (f_C_copy (nI za) a2 (nI zb) a4 a5) (f_M_copy (nI za) a2 (nI zb) a4 a5) M := by
    intro v hm hc
    exact Ag_i hc (hm _ rfl) rfl (Rel_find r)
  show Ag (f_C_copy (nI za) a2 (nI zb) a4 a5) (f_M_copy (nI za) a2 (nI zb) a4 a5) M
  have wa : wib (nI za) 8 = true := n_wib (by omega) (by decide)
  have wb : wib (nI zb) 8 = true := n_wib (by omega) (by decide)
  rcases r.2.2.1 za (by omega) with ⟨b1, b2⟩ | ⟨b1, n, l, hn, hl, b2, b3, b4, b5, b6⟩
  · refine fnd 1 (fun zw hw => ?_) ?_
    · unfold f_M_copy
      rw [m_isRow, m_isRow, if_neg h1, if_neg h2, if_pos wa, n_t (by omega), show zw 23 0 za = -1 from by rw [hw]; exact b2, if_pos (by decide)]
      rfl
    · unfold f_C_copy
      rw [if_neg h1, if_neg h2, if_pos wa, if_pos wb, n_t (by omega), if_pos b1]
      rfl
  rcases r.2.2.1 zb (by omega) with ⟨d1, d2⟩ | ⟨d1, n', l', hn', hl', d2, d3, d4, d5, d6⟩
  · refine fnd 1 (fun zw hw => ?_) ?_
    · unfold f_M_copy
      rw [m_isRow, m_isRow, if_neg h1, if_neg h2, if_pos wa, n_t (by omega), show zw 23 0 za = nI n from by rw [hw]; exact b3, if_neg (n_n0 (by omega)), if_pos wb, n_t (by omega), show zw 23 0 zb = -1 from by rw [hw]; exact d2, if_neg (by decide)]
      rfl
    · unfold f_C_copy
      rw [if_neg h1, if_neg h2, if_pos wa, if_pos wb, n_t (by omega), n_t (by omega), if_neg (by rw [b1]; decide), if_pos d1]
      rfl
  have cC : f_C_copy (nI za) a2 (nI zb) a4 a5 M = (if nI l = nI l' then (if (f_R_has za a2 a5 M) = (0 : Int32) then (Option.bind (f_C_found (2 : Int32) M) fun q8 => some (q8.1, q8.2)) else (if (f_R_has zb a4 a5 M) = (0 : Int32) then (Option.bind (f_C_found (2 : Int32) M) fun q10 => some (q10.1, q10.2)) else (if wcb a2 a4 a5 40 40 = true then (Option.bind (f_C_withoutFinding a5 (wc_cp M 3 za 3 zb (a2).toNatClampNeg (a4).toNatClampNeg (a5).toNatClampNeg)) fun q13 => some (q13.1, q13.2)) else none))) else (Option.bind (f_C_found (5 : Int32) M) fun q15 => some (q15.1, q15.2))) := by
    unfold f_C_copy
    rw [if_neg h1, if_neg h2, if_pos wa, if_pos wb, n_t (by omega), n_t (by omega), if_neg (by rw [b1]; decide), if_neg (by rw [d1]; decide), b4, d4]
  have cM : ∀ zw : wc_M, zw 23 0 za = nI n → zw 23 0 zb = nI n' → zw 22 0 za = nI l → zw 22 0 zb = nI l' → f_M_copy (nI za) a2 (nI zb) a4 a5 zw = (if nI l = nI l' then (if a5 < (0 : Int32) then (Option.bind (f_M_find (2 : Int32) zw) fun q6 => some (q6.1, q6.2)) else (if (f_M_in (a2).toInt64 (0 : Int64) ((nI n).toInt64 - (a5).toInt64)) = (0 : Int32) then (Option.bind (f_M_find (2 : Int32) zw) fun q8 => some (q8.1, q8.2)) else (if (f_M_in (a4).toInt64 (0 : Int64) ((nI n').toInt64 - (a5).toInt64)) = (0 : Int32) then (Option.bind (f_M_find (2 : Int32) zw) fun q10 => some (q10.1, q10.2)) else (Option.bind (l_M_copy_69 (nI za) a2 (nI zb) a4 a5 2000 (0 : Int32) zw) fun t13 => (Option.bind (l_M_copy_90 (nI zb) a4 a5 2000 (0 : Int32) t13) fun t17 => (Option.bind (f_M_well a5 t17) fun q20 => some (q20.1, q20.2))))))) else (Option.bind (f_M_find (5 : Int32) zw) fun q22 => some (q22.1, q22.2))) := by
    intro zw w1 w2 w3 w4
    unfold f_M_copy
    rw [m_isRow, m_isRow, if_neg h1, if_neg h2, if_pos wa, n_t (by omega), n_t (by omega), w1, w2, w3, w4, if_neg (n_n0 (by omega)), if_pos wb, if_pos (Int32.not_lt.mp (n_n0 (by omega)))]
  by_cases hl2 : nI l = nI l'
  case neg =>
    refine fnd 5 (fun zw hw => ?_) ?_
    · rw [cM zw (by rw [hw]; exact b3) (by rw [hw]; exact d3) (by rw [hw]; exact b5) (by rw [hw]; exact d5), if_neg hl2]
      rfl
    · rw [cC, if_neg hl2]
      rfl
  by_cases h5 : a5 < 0
  · refine fnd 2 (fun zw hw => ?_) ?_
    · rw [cM zw (by rw [hw]; exact b3) (by rw [hw]; exact d3) (by rw [hw]; exact b5) (by rw [hw]; exact d5), if_pos hl2, if_pos h5]
      rfl
    · have e : f_R_has za a2 a5 M = 0 := by
        unfold f_R_has
        by_cases h : a2 < 0
        · rw [if_pos h]
        · rw [if_neg h, if_pos h5]
      rw [cC, if_pos hl2, if_pos e]
      rfl
  obtain ⟨zn, hzn, rfl⟩ := n_of (Int32.not_lt.mp h5)
  have ha : f_R_has za a2 (nI zn) M = f_M_in a2.toInt64 0 ((nI n).toInt64 - (nI zn).toInt64) := by
    rw [in_long hn hzn]
    unfold f_R_has
    rw [b2]
    by_cases h : a2 < 0
    · rw [if_pos h, if_pos h]
    · rw [if_neg h, if_neg h, if_neg h5]
  have hb : f_R_has zb a4 (nI zn) M = f_M_in a4.toInt64 0 ((nI n').toInt64 - (nI zn).toInt64) := by
    rw [in_long hn' hzn]
    unfold f_R_has
    rw [d2]
    by_cases h : a4 < 0
    · rw [if_pos h, if_pos h]
    · rw [if_neg h, if_neg h, if_neg h5]
  by_cases h6 : f_R_has za a2 (nI zn) M = 0
  · refine fnd 2 (fun zw hw => ?_) ?_
    · rw [cM zw (by rw [hw]; exact b3) (by rw [hw]; exact d3) (by rw [hw]; exact b5) (by rw [hw]; exact d5), if_pos hl2, if_neg h5, ← ha, if_pos h6]
      rfl
    · rw [cC, if_pos hl2, if_pos h6]
      rfl
  by_cases h7 : f_R_has zb a4 (nI zn) M = 0
  · refine fnd 2 (fun zw hw => ?_) ?_
    · rw [cM zw (by rw [hw]; exact b3) (by rw [hw]; exact d3) (by rw [hw]; exact b5) (by rw [hw]; exact d5), if_pos hl2, if_neg h5, ← ha, if_neg h6, ← hb, if_pos h7]
      rfl
    · rw [cC, if_pos hl2, if_neg h6, if_pos h7]
      rfl
  have inb : ∀ (p : Nat) (x : Int32) (L : Nat), L ≤ 40 → M 2 p 3 = nI L → ¬ f_R_has p x (nI zn) M = 0 → ∃ zx, x = nI zx ∧ zx + zn ≤ L := by
    intro p x L hL hp hh
    unfold f_R_has at hh
    rw [hp] at hh
    split at hh
    · exact absurd rfl hh
    · rename_i q1
      split at hh
      · exact absurd rfl hh
      · rename_i q2
        obtain ⟨zx, hzx, rfl⟩ := n_of (Int32.not_lt.mp q1)
        refine ⟨zx, rfl, ?_⟩
        rw [Int32.lt_iff_toInt_lt, Int32.toInt_sub, nI_iT (show L < 2 ^ 31 by omega), nI_iT hzn, nI_iT hzx, Int.bmod_def] at q2
        omega
  obtain ⟨zi, rfl, hzi⟩ := inb za a2 n hn b2 h6
  obtain ⟨zj, rfl, hzj⟩ := inb zb a4 n' hn' d2 h7
  generalize hM1 : wc_up (wc_cp M 3 za 3 zb zi zj zn) 0 0 9 0 = M1
  have f1 : ∀ k i s, ¬ ((k = 3 ∧ i = zb ∧ zj ≤ s ∧ s < zj + zn) ∨ (k = 0 ∧ i = 0 ∧ s = 9)) → M1 k i s = M k i s := by
    intro k i s hz
    rw [← hM1]
    unfold wc_up wc_cp
    rw [if_neg (by omega), if_neg (by omega)]
  have hL1 : l_M_copy_69 (nI za) (nI zi) (nI zb) (nI zj) (nI zn) 2000 0 M1 = some (mI M1 26 0 0 zn (fun q => M1 24 0 (40 * za + zi + q))) := by
    have h := loop_to (fun zm zx zM => l_M_copy_69 (nI za) (nI zi) (nI zb) (nI zj) (nI zn) zm zx zM) (fun zc => mI M1 26 0 0 zc (fun q => M1 24 0 (40 * za + zi + q))) zn (mI M1 26 0 0 zn (fun q => M1 24 0 (40 * za + zi + q))) (by
      intro zm zc hzc
      show l_M_copy_69 (nI za) (nI zi) (nI zb) (nI zj) (nI zn) (zm + 1) (nI zc) _ = _
      have e := mI_up (M := M1) (k := 26) (i := 0) (o := 0) (n := zc) (f := fun q => M1 24 0 (40 * za + zi + q))
      rw [Nat.zero_add] at e
      rw [l_M_copy_69, if_neg (by rw [nI_leI (by omega) (by omega)]; omega), n_ml, nI_add, nI_add, if_pos (n_wib (by omega) (by decide)), if_pos (n_wib (by omega) (by decide)), n_ar, n_t (by omega), n_t (by omega), mI_off (by omega)]
      exact congrArg (l_M_copy_69 (nI za) (nI zi) (nI zb) (nI zj) (nI zn) zm (nI (zc + 1))) e) (by
      intro zm
      show l_M_copy_69 (nI za) (nI zi) (nI zb) (nI zj) (nI zn) (zm + 1) (nI zn) _ = _
      rw [l_M_copy_69, if_pos (by rw [nI_leI (by omega) (by omega)]; omega)]) 2000 (by omega)
    have h : l_M_copy_69 (nI za) (nI zi) (nI zb) (nI zj) (nI zn) 2000 0 (mI M1 26 0 0 0 (fun q => M1 24 0 (40 * za + zi + q))) = _ := h
    rw [mI_0] at h
    exact h
  generalize hN : mI M1 26 0 0 zn (fun q => M1 24 0 (40 * za + zi + q)) = N at hL1
  have hN26 : ∀ q, q < zn → N 26 0 q = M1 24 0 (40 * za + zi + q) := by
    intro q hq
    rw [← hN]
    have := mI_at (M := M1) (k := 26) (i := 0) (o := 0) (n := zn) (j := q) (f := fun q => M1 24 0 (40 * za + zi + q)) hq
    rw [Nat.zero_add] at this
    exact this
  have hL2 : l_M_copy_90 (nI zb) (nI zj) (nI zn) 2000 0 N = some (mI N 24 0 (40 * zb + zj) zn (fun q => N 26 0 q)) := by
    have h := loop_to (fun zm zx zM => l_M_copy_90 (nI zb) (nI zj) (nI zn) zm zx zM) (fun zc => mI N 24 0 (40 * zb + zj) zc (fun q => N 26 0 q)) zn (mI N 24 0 (40 * zb + zj) zn (fun q => N 26 0 q)) (by
      intro zm zc hzc
      show l_M_copy_90 (nI zb) (nI zj) (nI zn) (zm + 1) (nI zc) _ = _
      have e := mI_up (M := N) (k := 24) (i := 0) (o := 40 * zb + zj) (n := zc) (f := fun q => N 26 0 q)
      rw [l_M_copy_90, if_neg (by rw [nI_leI (by omega) (by omega)]; omega), if_pos (n_wib (by omega) (by decide)), n_ml, nI_add, nI_add, if_pos (n_wib (by omega) (by decide)), n_ar, n_t (by omega), n_t (by omega), mI_off (by omega)]
      exact congrArg (l_M_copy_90 (nI zb) (nI zj) (nI zn) zm (nI (zc + 1))) e) (by
      intro zm
      show l_M_copy_90 (nI zb) (nI zj) (nI zn) (zm + 1) (nI zn) _ = _
      rw [l_M_copy_90, if_pos (by rw [nI_leI (by omega) (by omega)]; omega)]) 2000 (by omega)
    have h : l_M_copy_90 (nI zb) (nI zj) (nI zn) 2000 0 (mI N 24 0 (40 * zb + zj) 0 (fun q => N 26 0 q)) = _ := h
    rw [mI_0] at h
    exact h
  generalize hM2 : wc_up (mI N 24 0 (40 * zb + zj) zn (fun q => N 26 0 q)) 21 0 3 0 = M2
  have f2 : ∀ k i s, ¬ ((k = 24 ∧ i = 0 ∧ 40 * zb + zj ≤ s ∧ s < 40 * zb + zj + zn) ∨ k = 26 ∨ (k = 21 ∧ i = 0 ∧ s = 3)) → M2 k i s = M1 k i s := by
    intro k i s hz
    rw [← hM2]
    unfold wc_up
    rw [if_neg (by omega), mI_off (by omega), ← hN, mI_off (by omega)]
  refine Ag_i (r := nI zn) (M1 := M1) (M2 := M2) ?_ ?_ rfl ?_
  · rw [cC, if_pos hl2, if_neg h6, if_neg h7, if_pos (n_wcb (by omega) (by omega) (by decide) (by decide)), n_t (by omega), n_t (by omega), n_t (by omega), ← hM1]
    rfl
  · rw [cM M1 (by rw [f1 _ _ _ (by omega)]; exact b3) (by rw [f1 _ _ _ (by omega)]; exact d3) (by rw [f1 _ _ _ (by omega)]; exact b5) (by rw [f1 _ _ _ (by omega)]; exact d5), if_pos hl2, if_neg h5, ← ha, if_neg h6, ← hb, if_neg h7, hL1, Option.bind_some, hL2, Option.bind_some, ← hM2]
    rfl
  · refine Rel_rw (M := M) ?_ r ?_ (RelR_one (M := M) (r := zb) ?_ (Or.inr ⟨?_, n', l', hn', hl', ?_, ?_, ?_, ?_, ?_⟩) r.2.2.1)
    · intro zk zi zs hz
      unfold Irr at hz
      rw [f2 _ _ _ (by omega), f1 _ _ _ (by omega)]
    · unfold RelF
      rw [f2 0 0 9 (by omega), ← hM2, ← hM1]
      unfold wc_up
      rw [if_pos ⟨rfl, rfl, rfl⟩, if_pos ⟨rfl, rfl, rfl⟩]
    · intro q hq hne
      refine ⟨fun s => ?_, fun s => ?_, ?_, ?_, fun i hi => ?_⟩
      all_goals rw [f2 _ _ _ (by omega), f1 _ _ _ (by omega)]
    · rw [f2 _ _ _ (by omega), f1 _ _ _ (by omega)]
      exact d1
    · rw [f2 _ _ _ (by omega), f1 _ _ _ (by omega)]
      exact d2
    · rw [f2 _ _ _ (by omega), f1 _ _ _ (by omega)]
      exact d3
    · rw [f2 _ _ _ (by omega), f1 _ _ _ (by omega)]
      exact d4
    · rw [f2 _ _ _ (by omega), f1 _ _ _ (by omega)]
      exact d5
    · intro i hi
      rw [f2 _ _ _ (by omega)]
      by_cases hr : zj ≤ i ∧ i < zj + zn
      · have e1 : M1 3 zb i = M 3 za (zi + (i - zj)) := by
          rw [← hM1]
          unfold wc_up wc_cp
          rw [if_neg (by omega), if_pos (by omega)]
        have e2 : M2 24 0 (40 * zb + i) = M 24 0 (40 * za + (zi + (i - zj))) := by
          rw [← hM2]
          unfold wc_up
          rw [if_neg (by omega)]
          have := mI_at (M := N) (k := 24) (i := 0) (o := 40 * zb + zj) (n := zn) (j := i - zj) (f := fun q => N 26 0 q) (by omega)
          rw [show 40 * zb + zj + (i - zj) = 40 * zb + i by omega] at this
          rw [this, hN26 _ (by omega), f1 _ _ _ (by omega), show 40 * za + zi + (i - zj) = 40 * za + (zi + (i - zj)) by omega]
        rw [e1, e2]
        exact b6 _ (by omega)
      · rw [f1 _ _ _ (by omega), f2 _ _ _ (by omega), f1 _ _ _ (by omega)]
        exact d6 i hi
