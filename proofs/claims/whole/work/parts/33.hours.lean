/-! HOURS, undo, images -/
def hyK (k : Nat) : Nat → Nat
  | 0 => k
  | n + 1 => hpK (hyK k n)
noncomputable def hyH (H : Nat → Nat → Int32) (k : Nat) (st : Nat → Int32) : Nat → (Nat → Nat → Int32)
  | 0 => H
  | n + 1 => hpH (hyH H k st n) (hyK k n) (pHn st n)
theorem hyK_s (k n : Nat) : hyK k (n + 1) = hpK (hyK k n) := by rw [hyK]
theorem hyH_s (H : Nat → Nat → Int32) (k : Nat) (st : Nat → Int32) (n : Nat) : hyH H k st (n + 1) = hpH (hyH H k st n) (hyK k n) (pHn st n) := by rw [hyH]
theorem hyK_le {k : Nat} (hk : k ≤ 24) : ∀ n, hyK k n ≤ 24
  | 0 => by rw [hyK]; exact hk
  | n + 1 => by rw [hyK_s]; exact hpK_le (hyK_le hk n)
theorem hy_w {H : Nat → Nat → Int32} {k : Nat} {st : Nat → Int32} (hk : k ≤ 24) (h : ∀ a, a < k → sW (H a)) (hs : sW st) : ∀ n, ∀ a, a < hyK k n → sW (hyH H k st n a)
  | 0 => by rw [hyK, hyH]; exact h
  | n + 1 => by rw [hyK_s, hyH_s]; exact hp_w (hyK_le hk n) (hy_w hk h hs n) (pHn_w hs n)
theorem c_hours {M : wc_M} {H : Nat → Nat → Int32} {k zq : Nat} (hk : k ≤ 24) (ac : RAc M H k) (h1 : M 6 0 5 = 1) (hq : zq < 2000) : ∃ t, l_C_hours_25 (nI zq) 2000 0 M = some t ∧ RAc t (hyH H k (wst M 0) zq) (hyK k zq) ∧ wst t 0 = pHn (wst M 0) zq ∧ t 6 0 5 = 1 ∧ ∀ zk zi zs, ¬ ((6 ≤ zk ∧ zk ≤ 11 ∧ zi ≤ 25) ∨ zk = 16 ∨ (12 ≤ zk ∧ zk ≤ 14)) → t zk zi zs = M zk zi zs := by
  obtain ⟨R, hR, hQ⟩ := loop_inv (fun zn zx zM => l_C_hours_25 (nI zq) zn zx zM) (fun zc t => RAc t (hyH H k (wst M 0) zc) (hyK k zc) ∧ wst t 0 = pHn (wst M 0) zc ∧ t 6 0 5 = 1 ∧ ∀ zk zi zs, ¬ ((6 ≤ zk ∧ zk ≤ 11 ∧ zi ≤ 25) ∨ zk = 16 ∨ (12 ≤ zk ∧ zk ≤ 14)) → t zk zi zs = M zk zi zs) zq (fun t => RAc t (hyH H k (wst M 0) zq) (hyK k zq) ∧ wst t 0 = pHn (wst M 0) zq ∧ t 6 0 5 = 1 ∧ ∀ zk zi zs, ¬ ((6 ≤ zk ∧ zk ≤ 11 ∧ zi ≤ 25) ∨ zk = 16 ∨ (12 ≤ zk ∧ zk ≤ 14)) → t zk zi zs = M zk zi zs) (by
    rintro zn zc t hzc ⟨i1, i2, i3, i4⟩
    obtain ⟨Mk, k1, k2, k3⟩ := h_keep (hyK_le hk zc) i1 i3
    have ws : wst Mk 0 = wst t 0 := wst_fr (fun zk zs h1 h2 => k3 zk 0 zs (by omega))
    have e6 : Mk 6 0 5 = 1 := by rw [k3 6 0 5 (by omega)]; exact i3
    refine ⟨mA (mP Mk 0 (pH (wst Mk 0)) (Mk 6 0 5)) (bF (wst Mk 0)) (bL (wst Mk 0)), ⟨?_, ?_, ?_, ?_⟩, ?_⟩
    · rw [hyH_s, hyK_s, ← i2]
      exact RAc_of (fun zk zi zs hz => by rw [mA_off (by omega), mP_off (by omega)]) k2
    · rw [wst_mA, wst_mP (pH_ok (wst_ok _ _)), ws, i2, pHn_s]
    · rw [mA_off (by omega), mP_th, e6]
    · intro zk zi zs hz
      rw [mA_off (by omega), mP_off (by omega), k3 _ _ _ (by omega), i4 _ _ _ hz]
    · show l_C_hours_25 (nI zq) (zn + 1) (nI zc) t = _
      rw [l_C_hours_25, if_neg (by rw [nI_leI (by omega) (by omega)]; omega), k1, Option.bind_some, c_spend, Option.bind_some, n_ar]) (by
    intro zn t ht
    refine ⟨t, ?_, ht⟩
    show l_C_hours_25 (nI zq) (zn + 1) (nI zq) t = _
    rw [l_C_hours_25, if_pos (by rw [nI_leI (by omega) (by omega)]; omega)]) zq 0 2000 M (by omega) (by omega) hq ⟨by rw [hyH, hyK]; exact ac, by rw [pHn_0], h1, fun _ _ _ _ => rfl⟩
  exact ⟨R, hR, hQ⟩
theorem m_hours {M : wc_M} {H : Nat → Nat → Int32} {k zq : Nat} {st : Nat → Int32} (hk : k ≤ 24) (am : RAm M H k) (hst : wrs M 25 0 = st) (hd : sKd st) (hs : sOk st) (hq : zq < 2000) : ∃ t, l_M_hours_25 (nI zq) 2000 0 M = some t ∧ RAm t (hyH H k st zq) (hyK k zq) ∧ wrs t 25 0 = pHn st zq ∧ ∀ zk zi zs, ¬ (zk = 30 ∨ (zk = 21 ∧ (zs = 22 ∨ zs = 19 ∨ zs = 20)) ∨ zk = 25 ∨ zk = 29 ∨ zk = 31) → t zk zi zs = M zk zi zs := by
  obtain ⟨R, hR, hQ⟩ := loop_inv (fun zn zx zM => l_M_hours_25 (nI zq) zn zx zM) (fun zc t => RAm t (hyH H k st zc) (hyK k zc) ∧ wrs t 25 0 = pHn st zc ∧ ∀ zk zi zs, ¬ (zk = 30 ∨ (zk = 21 ∧ (zs = 22 ∨ zs = 19 ∨ zs = 20)) ∨ zk = 25 ∨ zk = 29 ∨ zk = 31) → t zk zi zs = M zk zi zs) zq (fun t => RAm t (hyH H k st zq) (hyK k zq) ∧ wrs t 25 0 = pHn st zq ∧ ∀ zk zi zs, ¬ (zk = 30 ∨ (zk = 21 ∧ (zs = 22 ∨ zs = 19 ∨ zs = 20)) ∨ zk = 25 ∨ zk = 29 ∨ zk = 31) → t zk zi zs = M zk zi zs) (by
    rintro zn zc t hzc ⟨i1, i2, i3⟩
    obtain ⟨Mn, n1, n2, n3⟩ := m_note (hyK_le hk zc) i1
    have ws : wrs Mn 25 0 = pHn st zc := by
      rw [← i2]
      exact wrs_fr (fun zs => n3 _ _ _ (by omega))
    refine ⟨mR Mn (pH (pHn st zc)) (bF (pHn st zc)) (bL (pHn st zc)) (bB (pHn st zc)) (wrs Mn 31 0), ⟨?_, ?_, ?_⟩, ?_⟩
    · rw [hyH_s, hyK_s, ← i2]
      exact RAm_of (fun zk zi zs hz => by rw [mR_off (by omega)]) n2
    · rw [wrs_mR (pH_ok (pHn_ok hs zc)), pHn_s]
    · intro zk zi zs hz
      rw [mR_off (by omega), n3 _ _ _ (by omega), i3 _ _ _ hz]
    · show l_M_hours_25 (nI zq) (zn + 1) (nI zc) t = _
      rw [l_M_hours_25, if_neg (by rw [nI_leI (by omega) (by omega)]; omega), n1, Option.bind_some, g_oneHour ws (pHn_kd hd zc), Option.bind_some, n_ar]) (by
    intro zn t ht
    refine ⟨t, ?_, ht⟩
    show l_M_hours_25 (nI zq) (zn + 1) (nI zq) t = _
    rw [l_M_hours_25, if_pos (by rw [nI_leI (by omega) (by omega)]; omega)]) zq 0 2000 M (by omega) (by omega) hq ⟨by rw [hyH, hyK]; exact am, by rw [pHn_0]; exact hst, fun _ _ _ _ => rfl⟩
  exact ⟨R, hR, hQ⟩
theorem m_1_20 (x : Int32) : f_M_in x.toInt64 1 20 = if x < 1 then 0 else if 20 < x then 0 else 1 := m_in32 x 1 20
theorem q_hours (a1 : Int32) {M : wc_M} (r : Rel M) : Ag (f_C_hours a1) (f_M_hours a1) M := by
  unfold f_C_hours f_M_hours
  have hw := Rel_w r
  have e25 := r.1.2.2.1
  by_cases h0 : M 6 0 5 = 0
  · exact Ag_i (if_pos h0) (if_pos (by rw [Rel_m4 r]; exact h0)) rfl r
  by_cases h1 : a1 < 1
  · exact Ag_i (M1 := M) (M2 := M) (by rw [if_neg h0, if_pos h1]) (by rw [Rel_m4 r, if_neg h0, m_1_20, if_pos h1, if_pos rfl]) rfl r
  by_cases h2 : a1 ≤ 20
  case neg => exact Ag_i (M1 := M) (M2 := M) (by rw [if_neg h0, if_neg h1, if_neg h2]) (by rw [Rel_m4 r, if_neg h0, m_1_20, if_neg h1, if_pos (Int32.not_le.mp h2), if_pos rfl]) rfl r
  by_cases h3 : M 6 0 6 + a1 ≤ 999
  case neg => exact Ag_i (M1 := M) (M2 := M) (by rw [if_neg h0, if_neg h1, if_pos h2, if_neg h3]) (by rw [Rel_m4 r, if_neg h0, m_1_20, if_neg h1, if_neg (Int32.not_lt.mpr h2), if_neg (by decide), show ((0 : Int32)).toNatClampNeg = 0 from rfl, g_at e25 (by omega), wst_h, if_neg h3]) rfl r
  obtain ⟨zq, hq, rfl⟩ : ∃ q, q ≤ 20 ∧ a1 = nI q := n_ofK (by decide) (Int32.le_trans (by decide) (Int32.not_lt.mp h1)) h2
  obtain ⟨H, k, hk, ac, am, hH⟩ := r.2.2.2.2.1
  obtain ⟨t, t1, t2, t3, t4, t5⟩ := c_hours hk ac (there_1 r h0) (show zq < 2000 by omega)
  have w25 : wrs t 25 0 = wst M 0 := by
    rw [← e25]
    exact wrs_fr (fun zs => t5 _ _ _ (by omega))
  obtain ⟨u, u1, u2, u3, u4⟩ := m_hours hk (RAm_of (fun zk zi zs hz => t5 _ _ _ (by omega)) am) w25 (sW_kd hw) (sW_ok hw) (show zq < 2000 by omega)
  have et : t 21 0 4 = 1 := by rw [t5 _ _ _ (by omega), Rel_m4 r]; exact there_1 r h0
  have eu : wst u 0 = pHn (wst M 0) zq := by
    rw [← t3]
    exact wst_fr (fun zk zs h1 h2 => u4 _ _ _ (by omega))
  have e6 : u 6 0 5 = 1 := by rw [u4 _ _ _ (by omega)]; exact t4
  refine Ag_i (r := nI (sWn (pHn (wst M 0) zq) 16)) (M1 := t) (M2 := u) ?_ ?_ rfl ?_
  · show (if M 6 0 5 = 0 then _ else _) = _
    rw [if_neg h0, if_neg h1, if_pos h2, if_pos h3, t1, Option.bind_some, p_works, Option.bind_some, t3]
  · show (if t 21 0 4 = 0 then _ else _) = _
    rw [et, if_neg (by decide), m_1_20, if_neg h1, if_neg (Int32.not_lt.mpr h2), if_neg (by decide), show ((0 : Int32)).toNatClampNeg = 0 from rfl, g_at w25 (by omega), wst_h, if_pos h3, u1, Option.bind_some, g_works u3 (pHn_kd (sW_kd hw) zq), Option.bind_some]
  · refine Rel_pa (M := M) ?_ r ⟨?_, Or.inr e6, ?_, ?_⟩ ⟨hyH H k (wst M 0) zq, hyK k zq, hyK_le hk zq, RAc_of (fun zk zi zs hz => u4 _ _ _ (by omega)) t2, u2, hy_w hk hH hw zq⟩ e6
    · intro zk zi zs hz
      unfold Oth Irr at hz
      rw [u4 _ _ _ (by omega), t5 _ _ _ (by omega)]
    · rw [u4 _ _ _ (by omega), et, e6]
    · rw [u3, eu]
    · rw [eu]
      exact pHn_w hw zq
theorem Rel_there {M : wc_M} (r : Rel M) (h : ¬ M 16 0 2 = 0) : M 6 0 5 = 1 := by
  rcases r.1.2.1 with e | e
  · exact absurd (r.2.2.2.2.2.2.2 e).1 h
  · exact e
theorem q_undo {M : wc_M} (r : Rel M) : Ag f_C_undo f_M_undo M := by
  unfold f_C_undo f_M_undo
  have hw := Rel_w r
  have e25 := r.1.2.2.1
  obtain ⟨H, k, hk, ⟨n, hn, c1, c2, c3⟩, ⟨m1, m2⟩, hH⟩ := r.2.2.2.2.1
  by_cases h0 : M 16 0 2 = 0
  · exact Ag_i (if_pos h0) (if_pos (by rw [m1, ← c2]; exact h0)) rfl r
  have hth := Rel_there r h0
  have hk0 : k ≠ 0 := by
    intro e
    rw [c2, e] at h0
    exact h0 rfl
  obtain ⟨k, rfl⟩ : ∃ q, k = q + 1 := ⟨k - 1, by omega⟩
  have hix : (n + 23) % 24 = (n + 24 - (k + 1) + k) % 24 := by omega
  obtain ⟨i1, i2⟩ := c3 k (by omega)
  rw [← hix] at i1 i2
  have hHk := hH k (by omega)
  have hC : f_H_takeBack 0 M = some (mP (wc_up (wc_up M 16 0 1 (nI ((n + 23) % 24))) 16 0 2 (nI k)) 0 (H k) 1) := by
    unfold f_H_takeBack
    have e1 : wc_rem ((M 16 0 1 + 24) - 1) 24 = nI ((n + 23) % 24) := by
      rw [c1, n_ar, n_sub (by omega), n_rem (by decide) (by decide) (by omega)]
      rfl
    have e2 : ∀ v : Int32, wc_up M 16 0 1 v 16 0 2 - 1 = nI k := by
      intro v
      unfold wc_up
      rw [if_neg (by omega), c2, n_sub (by omega)]
      rfl
    have e3 : ∀ v w : Int32, wc_up (wc_up M 16 0 1 v) 16 0 2 w 16 0 1 = v := by
      intro v w
      unfold wc_up
      rw [if_neg (by omega), if_pos ⟨rfl, rfl, rfl⟩]
    rw [e1, e2, e3, if_pos (n_wib (by omega) (by decide)), n_t (by omega)]
    have e4 : wc_up (wc_up M 16 0 1 (nI ((n + 23) % 24))) 16 0 2 (nI k) 6 (2 + (n + 23) % 24) 5 = 1 := by
      unfold wc_up
      rw [if_neg (by omega), if_neg (by omega)]
      exact i1
    have e5 : wst (wc_up (wc_up M 16 0 1 (nI ((n + 23) % 24))) 16 0 2 (nI k)) (2 + (n + 23) % 24) = H k := by
      rw [← i2]
      refine wst_fr (fun zk zs h1 h2 => ?_)
      unfold wc_up
      rw [if_neg (by omega), if_neg (by omega)]
    rw [p_become (by rw [e4]; rfl), Option.bind_some, e4, e5]
  generalize hM1 : mP (wc_up (wc_up M 16 0 1 (nI ((n + 23) % 24))) 16 0 2 (nI k)) 0 (H k) 1 = M1 at hC
  have fr : ∀ zk zi zs, ¬ ((6 ≤ zk ∧ zk ≤ 11 ∧ zi = 0) ∨ zk = 16) → M1 zk zi zs = M zk zi zs := by
    intro zk zi zs hz
    rw [← hM1, mP_off (by omega)]
    unfold wc_up
    rw [if_neg (by omega), if_neg (by omega)]
  have f1 : M1 16 0 2 = nI k := by
    rw [← hM1, mP_off (by omega)]
    unfold wc_up
    rw [if_pos ⟨rfl, rfl, rfl⟩]
  have f2 : M1 16 0 1 = nI ((n + 23) % 24) := by
    rw [← hM1, mP_off (by omega)]
    unfold wc_up
    rw [if_neg (by omega), if_pos ⟨rfl, rfl, rfl⟩]
  have f3 : wst M1 0 = H k := by
    rw [← hM1]
    exact wst_mP (sW_ok hHk)
  have f4 : M1 6 0 5 = 1 := by rw [← hM1, mP_th]
  have hL : l_M_undo_13 2000 0 (wc_up M1 21 0 22 (nI k)) = some (mR (wc_up M1 21 0 22 (nI k)) (H k) (M1 29 0) (M1 21 0 19) (M1 21 0 20) (wrs M1 31 0)) := by
    have e30 : ∀ j, j < 57 → M1 30 0 (57 * k + j) = H k j := by
      intro j hj
      rw [fr _ _ _ (by omega), ← m2 k (by omega), wrs_at hj]
    have h : l_M_undo_13 2000 0 (mR (wc_up M1 21 0 22 (nI k)) (sCp (H k) (wrs M1 25 0) 0) (M1 29 0) (M1 21 0 19) (M1 21 0 20) (wrs M1 31 0)) = some (mR (wc_up M1 21 0 22 (nI k)) (sCp (H k) (wrs M1 25 0) 57) (M1 29 0) (M1 21 0 19) (M1 21 0 20) (wrs M1 31 0)) := loop_to (fun zn zx zM => l_M_undo_13 zn zx zM) (fun zc => mR (wc_up M1 21 0 22 (nI k)) (sCp (H k) (wrs M1 25 0) zc) (M1 29 0) (M1 21 0 19) (M1 21 0 20) (wrs M1 31 0)) 57 _ (by
      intro zn zc hzc
      show l_M_undo_13 (zn + 1) (nI zc) _ = _
      have ea : mR (wc_up M1 21 0 22 (nI k)) (sCp (H k) (wrs M1 25 0) zc) (M1 29 0) (M1 21 0 19) (M1 21 0 20) (wrs M1 31 0) 21 0 22 = nI k := by
        rw [mR_off (by omega)]
        unfold wc_up
        rw [if_pos ⟨rfl, rfl, rfl⟩]
      have eb : mR (wc_up M1 21 0 22 (nI k)) (sCp (H k) (wrs M1 25 0) zc) (M1 29 0) (M1 21 0 19) (M1 21 0 20) (wrs M1 31 0) 30 0 (57 * k + zc) = H k zc := by
        rw [mR_off (by omega)]
        unfold wc_up
        rw [if_neg (by omega)]
        exact e30 zc hzc
      rw [l_M_undo_13, if_neg (by rw [n_le (by decide) (by omega)]; omega), ea, n_ml, nI_add, if_pos (n_wib (by omega) (by decide)), if_pos (n_wib (by omega) (by decide)), n_ar, n_t (by omega), n_t (by omega), eb, r_up_st (by omega), sCp_s]) (by
      intro zn
      show l_M_undo_13 (zn + 1) (nI 57) _ = _
      rw [l_M_undo_13, if_pos (by decide)]) 2000 (by decide)
    rw [sCp_0, sCp_57 (sW_ok hHk) (wrs_ok _ _ _)] at h
    have e0 : mR (wc_up M1 21 0 22 (nI k)) (wrs M1 25 0) (M1 29 0) (M1 21 0 19) (M1 21 0 20) (wrs M1 31 0) = wc_up M1 21 0 22 (nI k) := mR_id (wc_up M1 21 0 22 (nI k))
    rw [e0] at h
    exact h
  generalize hM2 : mR (wc_up M1 21 0 22 (nI k)) (H k) (M1 29 0) (M1 21 0 19) (M1 21 0 20) (wrs M1 31 0) = M2 at hL
  have fr2 : ∀ zk zi zs, ¬ (zk = 25 ∨ zk = 29 ∨ zk = 31 ∨ (zk = 21 ∧ (zs = 19 ∨ zs = 20 ∨ zs = 22))) → M2 zk zi zs = M1 zk zi zs := by
    intro zk zi zs hz
    rw [← hM2, mR_off (by omega)]
    unfold wc_up
    rw [if_neg (by omega)]
  have g1 : M2 21 0 22 = nI k := by
    rw [← hM2, mR_off (by omega)]
    unfold wc_up
    rw [if_pos ⟨rfl, rfl, rfl⟩]
  have g2 : wst M2 0 = H k := by
    rw [← f3]
    exact wst_fr (fun zk zs h1 h2 => fr2 _ _ _ (by omega))
  have g3 : M2 6 0 5 = 1 := by rw [fr2 _ _ _ (by omega)]; exact f4
  refine Ag_i (r := nI k) (M1 := M1) (M2 := M2) ?_ ?_ rfl ?_
  · show (if M 16 0 2 = 0 then _ else _) = _
    rw [if_neg h0, hC, Option.bind_some, f1]
  · show (if M1 21 0 22 = 0 then _ else _) = _
    have e22 : M1 21 0 22 = nI (k + 1) := by rw [fr _ _ _ (by omega)]; exact m1
    rw [e22, if_neg (by rw [n_eq (by decide) (by omega)]; omega), n_sub (by omega), show k + 1 - 1 = k by omega, hL, Option.bind_some, g1]
  · refine Rel_pa (M := M) ?_ r ⟨?_, Or.inr g3, ?_, ?_⟩ ⟨H, k, by omega, ⟨(n + 23) % 24, by omega, ?_, ?_, ?_⟩, ⟨g1, ?_⟩, fun a ha => hH a (by omega)⟩ g3
    · intro zk zi zs hz
      unfold Oth Irr at hz
      rw [fr2 _ _ _ (by omega), fr _ _ _ (by omega)]
    · rw [g3, fr2 _ _ _ (by omega), fr _ _ _ (by omega), Rel_m4 r]
      exact hth
    · rw [g2, ← hM2, wrs_mR (sW_ok hHk)]
    · rw [g2]
      exact hHk
    · rw [fr2 _ _ _ (by omega)]
      exact f2
    · rw [fr2 _ _ _ (by omega)]
      exact f1
    · intro a ha
      have ex : ((n + 23) % 24 + 24 - k + a) % 24 = (n + 24 - (k + 1) + a) % 24 := by omega
      rw [ex, fr2 _ _ _ (by omega), fr _ _ _ (by omega), wst_fr (M := M) (fun zk zs h1 h2 => by rw [fr2 _ _ _ (by omega), fr _ _ _ (by omega)])]
      exact c3 a (by omega)
    · intro a ha
      rw [wrs_fr (M := M) (fun zs => by rw [fr2 _ _ _ (by omega), fr _ _ _ (by omega)])]
      exact m2 a (by omega)
theorem q_image (a1 : Int32) {M : wc_M} (r : Rel M) : Ag (f_C_image a1) (f_M_image a1) M := by
  unfold f_C_image f_M_image
  have hw := Rel_w r
  have e25 := r.1.2.2.1
  by_cases h1 : f_C_isUpTo a1 1 = 0
  · exact Ag_i (M1 := M) (M2 := M) (by rw [if_pos h1]) (by rw [m_up_1, if_pos h1]) rfl r
  by_cases h0 : M 6 0 5 = 0
  · exact Ag_i (M1 := M) (M2 := M) (by rw [if_neg h1, if_pos h0]) (by rw [m_up_1, if_neg h1, Rel_m4 r, if_pos h0]) rfl r
  obtain ⟨zc, hc, rfl⟩ := c_upK (by decide) h1
  have hth := there_1 r h0
  generalize hM1 : mP M (26 + zc) (wst M 0) 1 = M1
  have fr : ∀ zk zi zs, ¬ (6 ≤ zk ∧ zk ≤ 11 ∧ zi = 26 + zc) → M1 zk zi zs = M zk zi zs := by
    intro zk zi zs hz
    rw [← hM1, mP_off (by omega)]
  have hL : l_M_image_15 (nI zc) 2000 0 M1 = some (fun k i s => if k = 33 ∧ i = 0 ∧ 57 * zc ≤ s ∧ s < 57 * zc + 57 then wst M 0 (s - 57 * zc) else M1 k i s) := by
    have h : l_M_image_15 (nI zc) 2000 0 (fun k i s => if k = 33 ∧ i = 0 ∧ 57 * zc ≤ s ∧ s < 57 * zc + 0 then wst M 0 (s - 57 * zc) else M1 k i s) = some (fun k i s => if k = 33 ∧ i = 0 ∧ 57 * zc ≤ s ∧ s < 57 * zc + 57 then wst M 0 (s - 57 * zc) else M1 k i s) := loop_to (fun zn zx zM => l_M_image_15 (nI zc) zn zx zM) (fun zq => fun k i s => if k = 33 ∧ i = 0 ∧ 57 * zc ≤ s ∧ s < 57 * zc + zq then wst M 0 (s - 57 * zc) else M1 k i s) 57 _ (by
      intro zn zq hzq
      show l_M_image_15 (nI zc) (zn + 1) (nI zq) _ = l_M_image_15 (nI zc) zn (nI (zq + 1)) _
      have ev : (if 25 = 33 ∧ 0 = 0 ∧ 57 * zc ≤ zq ∧ zq < 57 * zc + zq then wst M 0 (zq - 57 * zc) else M1 25 0 zq) = wst M 0 zq := by
        rw [if_neg (by omega), fr _ _ _ (by omega), g_at e25 hzq]
      rw [l_M_image_15, if_neg (by rw [n_le (by decide) (by omega)]; omega), if_pos (n_wib (by omega) (by decide)), n_ml, nI_add, if_pos (n_wib (by omega) (by decide)), n_ar, n_t (by omega), n_t (by omega), ev]
      congr 1
      funext k i s
      unfold wc_up
      by_cases h2 : k = 33 ∧ i = 0 ∧ s = 57 * zc + zq
      · rw [if_pos h2, if_pos (by omega), h2.2.2, show 57 * zc + zq - 57 * zc = zq by omega]
      · rw [if_neg h2]
        show (if k = 33 ∧ i = 0 ∧ 57 * zc ≤ s ∧ s < 57 * zc + zq then wst M 0 (s - 57 * zc) else M1 k i s) = _
        by_cases h3 : k = 33 ∧ i = 0 ∧ 57 * zc ≤ s ∧ s < 57 * zc + zq
        · rw [if_pos h3, if_pos (by omega)]
        · rw [if_neg h3, if_neg (by omega)]) (by
      intro zn
      show l_M_image_15 (nI zc) (zn + 1) (nI 57) _ = _
      rw [l_M_image_15, if_pos (by decide)]) 2000 (by decide)
    have e0 : (fun k i s => if k = 33 ∧ i = 0 ∧ 57 * zc ≤ s ∧ s < 57 * zc + 0 then wst M 0 (s - 57 * zc) else M1 k i s) = M1 := by
      funext k i s
      rw [if_neg (by omega)]
    rw [e0] at h
    exact h
  generalize hM3 : (fun k i s => if k = 33 ∧ i = 0 ∧ 57 * zc ≤ s ∧ s < 57 * zc + 57 then wst M 0 (s - 57 * zc) else M1 k i s : wc_M) = M3 at hL
  have fr3 : ∀ zk zi zs, ¬ (zk = 33 ∧ zi = 0 ∧ 57 * zc ≤ zs ∧ zs < 57 * zc + 57) → M3 zk zi zs = M1 zk zi zs := by
    intro zk zi zs hz
    rw [← hM3]
    show (if _ then _ else _) = _
    rw [if_neg hz]
  have g3 : ∀ j, j < 57 → M3 33 0 (57 * zc + j) = wst M 0 j := by
    intro j hj
    rw [← hM3]
    show (if _ then _ else _) = _
    rw [if_pos (by omega), show 57 * zc + j - 57 * zc = j by omega]
  have fr4 : ∀ zk zi zs, ¬ (zk = 32 ∧ zi = 0 ∧ zs = zc) → wc_up M3 32 0 zc 1 zk zi zs = M3 zk zi zs := by
    intro zk zi zs hz
    unfold wc_up
    rw [if_neg hz]
  have g4 : wc_up M3 32 0 zc 1 32 0 zc = 1 := by
    unfold wc_up
    rw [if_pos ⟨rfl, rfl, rfl⟩]
  refine Ag_i (r := 1) (M1 := M1) (M2 := wc_up M3 32 0 zc 1) ?_ ?_ rfl ?_
  · show (if f_C_isUpTo (nI zc) 1 = 0 then _ else _) = _
    rw [if_neg h1, if_neg h0, if_pos (n_wib (by omega) (by decide)), n_t (by omega), p_become (Rel_wz r), Option.bind_some, hth, hM1]
  · show (if f_M_in (nI zc).toInt64 0 1 = 0 then _ else _) = _
    rw [m_up_1, if_neg h1, fr _ _ _ (by omega), Rel_m4 r, if_neg h0, hL, Option.bind_some, if_pos (n_wib (by omega) (by decide)), n_t (by omega)]
  · obtain ⟨r1, r2, r3, r4, r5, r6, r7, r8⟩ := r
    refine ⟨RelP_of ?_ r1, RelF_of ?_ r2, RelR_of ?_ r3, RelT_of ?_ r4, RelA_of ?_ r5, ?_, RelQ_of ?_ r7, ?_⟩
    case refine_6 =>
      intro zj hj
      by_cases e : zj = zc
      · subst e
        have ew : wst (wc_up M3 32 0 zj 1) (26 + zj) = wst M 0 := by
          have e1 : wst (wc_up M3 32 0 zj 1) (26 + zj) = wst M1 (26 + zj) := wst_fr (fun zk zs h1 h2 => by rw [fr4 _ _ _ (by omega), fr3 _ _ _ (by omega)])
          rw [e1, ← hM1, wst_mP (wst_ok M 0)]
        refine Or.inr ⟨?_, g4, ?_, ?_⟩
        · rw [fr4 _ _ _ (by omega), fr3 _ _ _ (by omega), ← hM1, mP_th]
        · rw [ew]
          funext q
          unfold wrs
          by_cases hq : q < 57
          · rw [if_pos hq, fr4 _ _ _ (by omega), g3 q hq]
          · rw [if_neg hq]
            exact wst_ok M 0 q (by omega)
        · rw [ew]
          exact hw
      · have e2 := r6 zj hj
        rw [fr4 _ _ _ (by omega), fr4 _ _ _ (by omega), fr3 _ _ _ (by omega), fr3 _ _ _ (by omega), fr _ _ _ (by omega), fr _ _ _ (by omega)]
        have e3 : wst (wc_up M3 32 0 zc 1) (26 + zj) = wst M (26 + zj) := wst_fr (fun zk zs h1 h2 => by rw [fr4 _ _ _ (by omega), fr3 _ _ _ (by omega), fr _ _ _ (by omega)])
        have e4 : wrs (wc_up M3 32 0 zc 1) 33 (57 * zj) = wrs M 33 (57 * zj) := wrs_ext (fun j hj => by rw [fr4 _ _ _ (by omega), fr3 _ _ _ (by omega), fr _ _ _ (by omega)])
        rw [e3, e4]
        exact e2
    case refine_8 =>
      intro e
      rw [fr4 _ _ _ (by omega), fr3 _ _ _ (by omega), fr _ _ _ (by omega)] at e
      exact absurd e h0
    all_goals intro zk zi zs hz; rw [fr4 _ _ _ (by omega), fr3 _ _ _ (by omega), fr _ _ _ (by omega)]
theorem q_restore (a1 : Int32) {M : wc_M} (r : Rel M) : Ag (f_C_restore a1) (f_M_restore a1) M := by
  unfold f_C_restore f_M_restore
  have e25 := r.1.2.2.1
  by_cases h1 : f_C_isUpTo a1 1 = 0
  · exact Ag_i (M1 := M) (M2 := M) (by rw [if_pos h1]) (by rw [m_up_1, if_pos h1]) rfl r
  obtain ⟨zc, hc, rfl⟩ := c_upK (by decide) h1
  have hI := r.2.2.2.2.2.1 zc (by omega)
  by_cases h2 : M 6 (26 + zc) 5 = 0
  · have h3 : M 32 0 zc = 0 := by
      rcases hI with z | z
      · exact z.2
      · rw [z.1] at h2
        exact absurd h2 (by decide)
    exact Ag_i (M1 := M) (M2 := M) (by rw [if_neg h1, if_pos (n_wib (by omega) (by decide)), n_t (by omega), if_pos h2]) (by rw [m_up_1, if_neg h1, if_pos (n_wib (by omega) (by decide)), n_t (by omega), if_pos h3]) rfl r
  obtain ⟨i1, i2, i3, i4⟩ : M 6 (26 + zc) 5 = 1 ∧ M 32 0 zc = 1 ∧ wst M (26 + zc) = wrs M 33 (57 * zc) ∧ sW (wst M (26 + zc)) := by
    rcases hI with z | z
    · exact absurd z.1 h2
    · exact z
  have hth : M 6 0 5 = 1 := by
    rcases r.1.2.1 with e | e
    · exact absurd ((r.2.2.2.2.2.2.2 e).2 zc (by omega)) h2
    · exact e
  generalize hS : wst M (26 + zc) = S at i3 i4
  generalize hM1 : wc_up (mP M 0 S 1) 16 0 2 0 = M1
  have fr : ∀ zk zi zs, ¬ ((6 ≤ zk ∧ zk ≤ 11 ∧ zi = 0) ∨ (zk = 16 ∧ zs = 2)) → M1 zk zi zs = M zk zi zs := by
    intro zk zi zs hz
    rw [← hM1]
    unfold wc_up
    rw [if_neg (by omega), mP_off (by omega)]
  have f2 : M1 16 0 2 = 0 := by
    rw [← hM1]
    unfold wc_up
    rw [if_pos ⟨rfl, rfl, rfl⟩]
  have f3 : wst M1 0 = S := by
    have e1 : wst M1 0 = wst (mP M 0 S 1) 0 := by
      rw [← hM1]
      refine wst_fr (fun zk zs h1 h2 => ?_)
      unfold wc_up
      rw [if_neg (by omega)]
    rw [e1, wst_mP (sW_ok i4)]
  have f4 : M1 6 0 5 = 1 := by
    rw [← hM1]
    unfold wc_up
    rw [if_neg (by omega), mP_th]
  have hL : l_M_restore_17 (nI zc) 2000 0 M1 = some (mR M1 S (M1 29 0) (M1 21 0 19) (M1 21 0 20) (wrs M1 31 0)) := by
    have e33 : ∀ j, j < 57 → M1 33 0 (57 * zc + j) = S j := by
      intro j hj
      rw [fr _ _ _ (by omega), i3, wrs_at hj]
    have h : l_M_restore_17 (nI zc) 2000 0 (mR M1 (sCp S (wrs M1 25 0) 0) (M1 29 0) (M1 21 0 19) (M1 21 0 20) (wrs M1 31 0)) = some (mR M1 (sCp S (wrs M1 25 0) 57) (M1 29 0) (M1 21 0 19) (M1 21 0 20) (wrs M1 31 0)) := loop_to (fun zn zx zM => l_M_restore_17 (nI zc) zn zx zM) (fun zq => mR M1 (sCp S (wrs M1 25 0) zq) (M1 29 0) (M1 21 0 19) (M1 21 0 20) (wrs M1 31 0)) 57 _ (by
      intro zn zq hzq
      show l_M_restore_17 (nI zc) (zn + 1) (nI zq) _ = l_M_restore_17 (nI zc) zn (nI (zq + 1)) _
      rw [l_M_restore_17, if_neg (by rw [n_le (by decide) (by omega)]; omega), n_ml, nI_add, if_pos (n_wib (by omega) (by decide)), if_pos (n_wib (by omega) (by decide)), n_ar, n_t (by omega), n_t (by omega), mR_off (by omega), e33 zq hzq, r_up_st (by omega), sCp_s]) (by
      intro zn
      show l_M_restore_17 (nI zc) (zn + 1) (nI 57) _ = _
      rw [l_M_restore_17, if_pos (by decide)]) 2000 (by decide)
    rw [sCp_0, sCp_57 (sW_ok i4) (wrs_ok _ _ _), mR_id] at h
    exact h
  generalize hM3 : mR M1 S (M1 29 0) (M1 21 0 19) (M1 21 0 20) (wrs M1 31 0) = M3 at hL
  have fr3 : ∀ zk zi zs, ¬ (zk = 25 ∨ zk = 29 ∨ zk = 31 ∨ (zk = 21 ∧ (zs = 19 ∨ zs = 20 ∨ zs = 22))) → wc_up M3 21 0 22 0 zk zi zs = M1 zk zi zs := by
    intro zk zi zs hz
    unfold wc_up
    rw [if_neg (by omega), ← hM3, mR_off (by omega)]
  have g1 : wc_up M3 21 0 22 0 21 0 22 = 0 := by
    unfold wc_up
    rw [if_pos ⟨rfl, rfl, rfl⟩]
  have g2 : wst (wc_up M3 21 0 22 0) 0 = S := by
    rw [← f3]
    exact wst_fr (fun zk zs h1 h2 => fr3 _ _ _ (by omega))
  have g3 : wc_up M3 21 0 22 0 6 0 5 = 1 := by rw [fr3 _ _ _ (by omega)]; exact f4
  refine Ag_i (r := 1) (M1 := M1) (M2 := wc_up M3 21 0 22 0) ?_ ?_ rfl ?_
  · show (if f_C_isUpTo (nI zc) 1 = 0 then _ else _) = _
    rw [if_neg h1, if_pos (n_wib (by omega) (by decide)), n_t (by omega), if_neg h2, p_become (by rw [i1]; rfl), Option.bind_some, i1, hS, hM1]
  · show (if f_M_in (nI zc).toInt64 0 1 = 0 then _ else _) = _
    rw [m_up_1, if_neg h1, if_pos (n_wib (by omega) (by decide)), n_t (by omega), fr _ _ _ (by omega), i2, if_neg (by decide), hL, Option.bind_some]
  · obtain ⟨H, k, hk, ⟨n, hn, c1, c2, c3⟩, am, hH⟩ := r.2.2.2.2.1
    refine Rel_pa (M := M) ?_ r ⟨?_, Or.inr g3, ?_, ?_⟩ ⟨H, 0, by omega, ⟨n, hn, ?_, ?_, fun a ha => by omega⟩, ⟨g1, fun a ha => by omega⟩, fun a ha => by omega⟩ g3
    · intro zk zi zs hz
      unfold Oth Irr at hz
      rw [fr3 _ _ _ (by omega), fr _ _ _ (by omega)]
    · rw [g3, fr3 _ _ _ (by omega), fr _ _ _ (by omega), Rel_m4 r]
      exact hth
    · rw [g2]
      have e1 : wrs (wc_up M3 21 0 22 0) 25 0 = wrs M3 25 0 := by
        refine wrs_fr (fun zs => ?_)
        unfold wc_up
        rw [if_neg (by omega)]
      rw [e1, ← hM3, wrs_mR (sW_ok i4)]
    · rw [g2]
      exact i4
    · rw [fr3 _ _ _ (by omega), fr _ _ _ (by omega)]
      exact c1
    · rw [fr3 _ _ _ (by omega), f2]
      rfl
