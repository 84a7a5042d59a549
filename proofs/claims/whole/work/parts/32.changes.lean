/-! CHANGES of the pass: a work set up, taken, turned, a gust, hours -/
theorem form_of {M : wc_M} {st : Nat → Int32} (h : wrs M 25 0 = st) : mR M st (M 29 0) (M 21 0 19) (M 21 0 20) (wrs M 31 0) = M := by
  have e := mR_id M
  rw [h] at e
  exact e
theorem g_isWork {M : wc_M} {st : Nat → Int32} {c : Nat} (h : wrs M 25 0 = st) (hk : sKd st) (hc : c < 16) : f_M_isWork (nI c) M = some (if st (9 + c) = 0 then 0 else 1) := by
  obtain ⟨n, hn, he⟩ := hk c hc
  have e := r_isWork (M := M) (st := st) (F := M 29 0) (as := wrs M 31 0) (lo := M 21 0 19) (br := M 21 0 20) hc hn he
  rw [form_of h] at e
  exact e
theorem g_works {M : wc_M} {st : Nat → Int32} (h : wrs M 25 0 = st) (hk : sKd st) : f_M_workMany M = some (nI (sWn st 16)) := by
  have e := r_works (M := M) (st := st) (F := M 29 0) (as := wrs M 31 0) (lo := M 21 0 19) (br := M 21 0 20) hk
  rw [form_of h] at e
  exact e
theorem g_blow {M : wc_M} {st : Nat → Int32} (h : wrs M 25 0 = st) (hk : sKd st) : f_M_blow M = some (mR M st (bF st) (bL st) (M 21 0 20) (wrs M 31 0)) := by
  have e := r_blow (M := M) (st := st) (F := M 29 0) (as := wrs M 31 0) (lo := M 21 0 19) (br := M 21 0 20) hk
  rw [form_of h] at e
  exact e
theorem g_oneHour {M : wc_M} {st : Nat → Int32} (h : wrs M 25 0 = st) (hk : sKd st) : f_M_oneHour M = some (mR M (pH st) (bF st) (bL st) (bB st) (wrs M 31 0)) := by
  have e := r_oneHour (M := M) (st := st) (F := M 29 0) (as := wrs M 31 0) (lo := M 21 0 19) (br := M 21 0 20) hk
  rw [form_of h] at e
  exact e
theorem g_at {M : wc_M} {st : Nat → Int32} {j : Nat} (h : wrs M 25 0 = st) (hj : j < 57) : M 25 0 j = st j := by
  rw [← h, wrs_at hj, Nat.zero_add]
theorem there_1 {M : wc_M} (r : Rel M) (h0 : ¬ M 6 0 5 = 0) : M 6 0 5 = 1 := by
  rcases r.1.2.1 with h | h
  · exact absurd h h0
  · exact h
theorem act_step {M : wc_M} (r : Rel M) (h1 : M 6 0 5 = 1) : ∃ Mk, f_H_keep 0 M = some Mk ∧ wst Mk 0 = wst M 0 ∧ Mk 6 0 5 = 1 ∧ ∀ st', sW st' → wst (mP Mk 0 st' 1) 0 = st' ∧ mP Mk 0 st' 1 21 0 4 = 1 ∧ wrs (mP Mk 0 st' 1) 25 0 = wst M 0 ∧ ∃ Mn, f_M_note (mP Mk 0 st' 1) = some Mn ∧ wrs Mn 25 0 = wst M 0 ∧ ∀ F lo br as, Rel (mR Mn st' F lo br as) := by
  obtain ⟨H, k, hk, ac, am, hw⟩ := r.2.2.2.2.1
  obtain ⟨Mk, k1, k2, k3⟩ := h_keep hk ac h1
  have ws : wst Mk 0 = wst M 0 := wst_fr (fun zk zs h1 h2 => k3 zk 0 zs (by omega))
  refine ⟨Mk, k1, ws, ?_, ?_⟩
  · rw [k3 6 0 5 (by omega)]
    exact h1
  intro st' hs'
  have e25 : wrs (mP Mk 0 st' 1) 25 0 = wst M 0 := by
    rw [← r.1.2.2.1]
    exact wrs_fr (fun zs => by rw [mP_off (by omega), k3 _ _ _ (by omega)])
  have em : RAm (mP Mk 0 st' 1) H k := RAm_of (fun zk zi zs hz => by rw [mP_off (by omega), k3 _ _ _ (by omega)]) am
  obtain ⟨Mn, n1, n2, n3⟩ := m_note hk em
  rw [e25] at n2
  have ew : wst (mP Mk 0 st' 1) 0 = st' := wst_mP (sW_ok hs')
  refine ⟨ew, ?_, e25, Mn, n1, ?_, ?_⟩
  · rw [mP_off (by omega), k3 _ _ _ (by omega), Rel_m4 r]
    exact h1
  · rw [← e25]
    exact wrs_fr (fun zs => n3 _ _ _ (by omega))
  intro F lo br as
  have e6 : mR Mn st' F lo br as 6 0 5 = 1 := by rw [mR_off (by omega), n3 _ _ _ (by omega), mP_th]
  have e0 : wst (mR Mn st' F lo br as) 0 = st' := by
    exact (wst_fr (M := mP Mk 0 st' 1) (fun zk zs h1 h2 => by rw [mR_off (by omega), n3 _ _ _ (by omega)])).trans ew
  refine Rel_pa (M := M) ?_ r ⟨?_, Or.inr e6, ?_, ?_⟩ ⟨hpH H k (wst M 0), hpK k, hpK_le hk, ?_, ?_, hp_w hk hw (Rel_w r)⟩ e6
  · intro zk zi zs hz
    unfold Oth Irr at hz
    rw [mR_off (by omega), n3 _ _ _ (by omega), mP_off (by omega), k3 _ _ _ (by omega)]
  · rw [e6, mR_off (by omega), n3 _ _ _ (by omega), mP_off (by omega), k3 _ _ _ (by omega), Rel_m4 r]
    exact h1
  · rw [e0, wrs_mR (sW_ok hs')]
  · rw [e0]
    exact hs'
  · exact RAc_of (fun zk zi zs hz => by rw [mR_off (by omega), n3 _ _ _ (by omega), mP_off (by omega)]) k2
  · exact RAm_of (fun zk zi zs hz => by rw [mR_off (by omega)]) n2
theorem sPut_w {st : Nat → Int32} {c : Nat} {k h : Int32} (hs : sW st) (hc : c < 16) (hk : ∃ n, n ≤ 5 ∧ k = nI n) (h0 : k = 0 → h = 0) (hw : sWn st 16 < 6 ∨ k = 0) : sW (sPut st c k h) := by
  obtain ⟨h1, h2, h3, h4, h5, h6⟩ := hs
  refine ⟨sPut_ok hc h1, ?_, ?_, ?_, ?_, ?_⟩
  · intro zj hj
    unfold sPut
    by_cases e : zj = c
    · rw [if_pos (by omega)]
      exact hk
    · rw [if_neg (by omega), if_neg (by omega), if_neg (by omega)]
      exact h2 zj hj
  · intro zy hy
    unfold sPut
    rw [if_neg (by omega), if_neg (by omega), if_neg (by omega)]
    exact h3 zy hy
  · intro zy hy
    unfold sPut
    rw [if_neg (by omega), if_neg (by omega), if_neg (by omega)]
    exact h4 zy hy
  · intro zj hj
    unfold sPut
    by_cases e : zj = c
    · subst e
      rw [if_pos rfl, if_neg (show ¬ 25 + zj = 9 + zj by omega), if_pos rfl, if_neg (show ¬ 41 + zj = 9 + zj by omega), if_neg (show ¬ 41 + zj = 25 + zj by omega), if_pos rfl]
      exact fun z => ⟨h0 z, rfl⟩
    · rw [if_neg (show ¬ 9 + zj = 9 + c by omega), if_neg (show ¬ 9 + zj = 25 + c by omega), if_neg (show ¬ 9 + zj = 41 + c by omega), if_neg (show ¬ 25 + zj = 9 + c by omega), if_neg (show ¬ 25 + zj = 25 + c by omega), if_neg (show ¬ 25 + zj = 41 + c by omega), if_neg (show ¬ 41 + zj = 9 + c by omega), if_neg (show ¬ 41 + zj = 25 + c by omega), if_neg (show ¬ 41 + zj = 41 + c by omega)]
      exact h5 zj hj
  · rcases hw with hw | hw
    · refine Nat.le_trans (sWn_one (st := st) (c := c) ?_ 16 (by omega)) (by rw [if_pos hc]; omega)
      intro zj hj e
      unfold sPut
      rw [if_neg (by omega), if_neg (by omega), if_neg (by omega)]
    · refine Nat.le_trans (sWn_less (st := st) ?_ 16 (by omega)) h6
      intro zj hj
      unfold sPut
      by_cases e : zj = c
      · rw [if_pos (by omega)]
        exact Or.inr hw
      · rw [if_neg (by omega), if_neg (by omega), if_neg (by omega)]
        exact Or.inl rfl
theorem q_setUp (a1 a2 a3 : Int32) {M : wc_M} (r : Rel M) : Ag (f_C_setUp a1 a2 a3) (f_M_setUp a1 a2 a3) M := by
  unfold f_C_setUp f_M_setUp
  have hw := Rel_w r
  have e25 := r.1.2.2.1
  by_cases h0 : M 6 0 5 = 0
  · exact Ag_i (if_pos h0) (if_pos (by rw [Rel_m4 r]; exact h0)) rfl r
  by_cases h1 : f_C_isUpTo a1 15 = 0
  · exact Ag_i (M1 := M) (M2 := M) (by rw [if_neg h0, c_cell, if_pos h1]) (by rw [Rel_m4 r, if_neg h0, m_isCell, if_pos h1]) rfl r
  by_cases h2 : f_C_isWorkKind a2 = 0
  · exact Ag_i (M1 := M) (M2 := M) (by rw [if_neg h0, c_cell, if_neg h1, if_pos h2]) (by rw [Rel_m4 r, if_neg h0, m_isCell, if_neg h1, m_15, if_pos h2]) rfl r
  by_cases h3 : f_C_isUpTo a3 99 = 0
  · exact Ag_i (M1 := M) (M2 := M) (by rw [if_neg h0, c_cell, if_neg h1, if_neg h2, if_pos h3]) (by rw [Rel_m4 r, if_neg h0, m_isCell, if_neg h1, m_15, if_neg h2, m_up_99, if_pos h3]) rfl r
  obtain ⟨zc, hc, rfl⟩ := c_upK (by decide) h1
  obtain ⟨zk, hk1, hk5, rfl⟩ := c_wk0 h2
  by_cases h4 : wst M 0 (9 + zc) = 0
  case neg => exact Ag_i (M1 := M) (M2 := M) (by rw [if_neg h0, c_cell, if_neg h1, if_neg h2, if_neg h3, p_has (by omega), Option.bind_some, if_neg h4, if_neg (by decide)]) (by rw [Rel_m4 r, if_neg h0, m_isCell, if_neg h1, m_15, if_neg h2, m_up_99, if_neg h3, g_isWork e25 (sW_kd hw) (by omega), Option.bind_some, if_neg h4, if_neg (by decide)]) rfl r
  have hle := hw.2.2.2.2.2
  by_cases h5 : sWn (wst M 0) 16 = 6
  · exact Ag_i (M1 := M) (M2 := M) (by rw [if_neg h0, c_cell, if_neg h1, if_neg h2, if_neg h3, p_has (by omega), Option.bind_some, if_pos h4, if_pos rfl, p_works, Option.bind_some, if_neg (by rw [n_lt (by decide) (by omega)]; omega)]) (by rw [Rel_m4 r, if_neg h0, m_isCell, if_neg h1, m_15, if_neg h2, m_up_99, if_neg h3, g_isWork e25 (sW_kd hw) (by omega), Option.bind_some, if_pos h4, if_pos rfl, g_works e25 (sW_kd hw), Option.bind_some, if_pos (by rw [n_eq (by decide) (by omega)]; exact h5)]) rfl r
  obtain ⟨Mk, k1, k2, k3, k4⟩ := act_step r (there_1 r h0)
  have hw' : sW (sPut (wst M 0) zc (nI zk) a3) := sPut_w hw (by omega) ⟨zk, hk5, rfl⟩ (fun z => by
    have : zk = 0 := (nI_eq (b := 0) (by omega) (by omega)).mp z
    omega) (Or.inl (by omega))
  obtain ⟨m1, m2, m3, Mn, m4, m5, m6⟩ := k4 _ hw'
  refine Ag_i (r := nI (sWn (sPut (wst M 0) zc (nI zk) a3) 16)) (M1 := mP Mk 0 (sPut (wst M 0) zc (nI zk) a3) 1) (M2 := mR Mn (sPut (wst M 0) zc (nI zk) a3) (Mn 29 0) (Mn 21 0 19) (Mn 21 0 20) (wrs Mn 31 0)) ?_ ?_ rfl (m6 _ _ _ _)
  · show (if M 6 0 5 = 0 then _ else _) = _
    rw [if_neg h0, c_cell, if_neg h1, if_neg h2, if_neg h3, p_has (by omega), Option.bind_some, if_pos h4, if_pos rfl, p_works, Option.bind_some, if_pos (by rw [n_lt (by decide) (by omega)]; omega), k1, Option.bind_some, p_put (by omega), Option.bind_some, k2, k3, p_works, Option.bind_some, m1]
  · show (if mP Mk 0 (sPut (wst M 0) zc (nI zk) a3) 1 21 0 4 = 0 then _ else _) = _
    have eP : mR Mn (fun q => if q = 41 + zc then (0 : Int32) else if q = 25 + zc then a3 else if q = 9 + zc then nI zk else wst M 0 q) (Mn 29 0) (Mn 21 0 19) (Mn 21 0 20) (wrs Mn 31 0) = mR Mn (sPut (wst M 0) zc (nI zk) a3) (Mn 29 0) (Mn 21 0 19) (Mn 21 0 20) (wrs Mn 31 0) := by
      congr 1
      funext q
      unfold sPut
      by_cases q1 : q = 9 + zc
      · rw [if_neg (by omega), if_neg (by omega), if_pos q1, if_pos q1]
      · by_cases q2 : q = 25 + zc
        · rw [if_neg (by omega), if_pos q2, if_neg q1, if_pos q2]
        · by_cases q3 : q = 41 + zc
          · rw [if_pos q3, if_neg q1, if_neg q2, if_pos q3]
          · rw [if_neg q3, if_neg q2, if_neg q1, if_neg q1, if_neg q2, if_neg q3]
    have eW : wc_up (wc_up (wc_up Mn 25 0 (9 + zc) (nI zk)) 25 0 (25 + zc) a3) 25 0 (41 + zc) 0 = mR Mn (sPut (wst M 0) zc (nI zk) a3) (Mn 29 0) (Mn 21 0 19) (Mn 21 0 20) (wrs Mn 31 0) := by
      rw [← eP]
      have ef := form_of m5
      rw [← r_up_st (by omega), ← r_up_st (by omega), ← r_up_st (by omega), ef]
    rw [m2, if_neg (by decide), m_isCell, if_neg h1, m_15, if_neg h2, m_up_99, if_neg h3, g_isWork m3 (sW_kd hw) (by omega), Option.bind_some, if_pos h4, if_pos rfl, g_works m3 (sW_kd hw), Option.bind_some, if_neg (by rw [n_eq (by decide) (by omega)]; exact h5), m4, Option.bind_some, n_al, n_al, n_al, if_pos (n_wib (by omega) (by decide)), if_pos (n_wib (by omega) (by decide)), if_pos (n_wib (by omega) (by decide)), n_t (by omega), n_t (by omega), n_t (by omega), eW, r_works (sW_kd hw'), Option.bind_some]
theorem q_take (a1 : Int32) {M : wc_M} (r : Rel M) : Ag (f_C_take a1) (f_M_take a1) M := by
  unfold f_C_take f_M_take
  have hw := Rel_w r
  have e25 := r.1.2.2.1
  by_cases h0 : M 6 0 5 = 0
  · exact Ag_i (if_pos h0) (if_pos (by rw [Rel_m4 r]; exact h0)) rfl r
  by_cases h1 : f_C_isUpTo a1 15 = 0
  · exact Ag_i (M1 := M) (M2 := M) (by rw [if_neg h0, c_cell, if_pos h1]) (by rw [Rel_m4 r, if_neg h0, m_isCell, if_pos h1]) rfl r
  obtain ⟨zc, hc, rfl⟩ := c_upK (by decide) h1
  by_cases h4 : wst M 0 (9 + zc) = 0
  · exact Ag_i (M1 := M) (M2 := M) (by rw [if_neg h0, c_cell, if_neg h1, p_has (by omega), Option.bind_some, if_pos h4, if_pos rfl]) (by rw [Rel_m4 r, if_neg h0, m_isCell, if_neg h1, g_isWork e25 (sW_kd hw) (by omega), Option.bind_some, if_pos h4, if_pos rfl]) rfl r
  obtain ⟨Mk, k1, k2, k3, k4⟩ := act_step r (there_1 r h0)
  have hw' : sW (sPut (wst M 0) zc 0 0) := sPut_w hw (by omega) ⟨0, by omega, rfl⟩ (fun _ => rfl) (Or.inr rfl)
  obtain ⟨m1, m2, m3, Mn, m4, m5, m6⟩ := k4 _ hw'
  refine Ag_i (r := nI (sWn (sPut (wst M 0) zc 0 0) 16)) (M1 := mP Mk 0 (sPut (wst M 0) zc 0 0) 1) (M2 := mR Mn (sPut (wst M 0) zc 0 0) (Mn 29 0) (Mn 21 0 19) (Mn 21 0 20) (wrs Mn 31 0)) ?_ ?_ rfl (m6 _ _ _ _)
  · show (if M 6 0 5 = 0 then _ else _) = _
    rw [if_neg h0, c_cell, if_neg h1, p_has (by omega), Option.bind_some, if_neg h4, if_neg (by decide), k1, Option.bind_some, p_clear (by omega), Option.bind_some, k2, k3, p_works, Option.bind_some, m1]
  · show (if mP Mk 0 (sPut (wst M 0) zc 0 0) 1 21 0 4 = 0 then _ else _) = _
    have eW : f_M_clear (nI zc) Mn = some (mR Mn (sPut (wst M 0) zc 0 0) (Mn 29 0) (Mn 21 0 19) (Mn 21 0 20) (wrs Mn 31 0)) := by
      have e := r_clear (M := Mn) (st := wst M 0) (F := Mn 29 0) (as := wrs Mn 31 0) (lo := Mn 21 0 19) (br := Mn 21 0 20) (c := zc) (by omega)
      rw [form_of m5] at e
      exact e
    rw [m2, if_neg (by decide), m_isCell, if_neg h1, g_isWork m3 (sW_kd hw) (by omega), Option.bind_some, if_neg h4, if_neg (by decide), m4, Option.bind_some, eW, Option.bind_some, r_works (sW_kd hw'), Option.bind_some]
theorem up_w {M : wc_M} {p c : Nat} {v : Int32} (hc : c < 16) : wc_up M 11 p c v = mP M p (fun j => if j = 41 + c then v else wst M p j) (M 6 p 5) := by
  have e := mP_id M p
  funext zk zi zs
  have e2 := congrFun (congrFun (congrFun e zk) zi) zs
  unfold wc_up
  by_cases hi : zk = 11 ∧ zi = p ∧ zs = c
  · obtain ⟨rfl, rfl, rfl⟩ := hi
    unfold mP
    simp [hc]
  · rw [if_neg hi, ← e2]
    unfold mP
    grind
theorem sOpen_w {st : Nat → Int32} {c : Nat} {v : Int32} (hs : sW st) (hc : c < 16) (h0 : ¬ st (9 + c) = 0) : sW (fun j => if j = 41 + c then v else st j) := by
  obtain ⟨h1, h2, h3, h4, h5, h6⟩ := hs
  have eo : ∀ j, j < 41 → (fun j => if j = 41 + c then v else st j) j = st j := fun j hj => if_neg (by omega)
  refine ⟨?_, ?_, ?_, ?_, ?_, ?_⟩
  · intro j hj
    show (if j = 41 + c then v else st j) = 0
    rw [if_neg (by omega)]
    exact h1 j hj
  · intro zj hj
    rw [eo _ (by omega)]
    exact h2 zj hj
  · intro zy hy
    rw [eo _ (by omega)]
    exact h3 zy hy
  · intro zy hy
    rw [eo _ (by omega)]
    exact h4 zy hy
  · intro zj hj
    rw [eo _ (by omega), eo _ (by omega)]
    intro z
    have hne : zj ≠ c := by
      intro e
      subst e
      exact h0 z
    show _ ∧ (if 41 + zj = 41 + c then v else st (41 + zj)) = 0
    rw [if_neg (by omega)]
    exact h5 zj hj z
  · refine Nat.le_trans (sWn_less (st := st) ?_ 16 (by omega)) h6
    intro zj hj
    exact Or.inl (eo _ (by omega))
theorem q_turn (a1 : Int32) {M : wc_M} (r : Rel M) : Ag (f_C_turn a1) (f_M_turn a1) M := by
  unfold f_C_turn f_M_turn
  have hw := Rel_w r
  have e25 := r.1.2.2.1
  by_cases h0 : M 6 0 5 = 0
  · exact Ag_i (if_pos h0) (if_pos (by rw [Rel_m4 r]; exact h0)) rfl r
  by_cases h1 : f_C_isUpTo a1 15 = 0
  · exact Ag_i (M1 := M) (M2 := M) (by rw [if_neg h0, c_cell, if_pos h1]) (by rw [Rel_m4 r, if_neg h0, m_isCell, if_pos h1]) rfl r
  obtain ⟨zc, hc, rfl⟩ := c_upK (by decide) h1
  by_cases h4 : wst M 0 (9 + zc) = 3
  case neg => exact Ag_i (M1 := M) (M2 := M) (by rw [if_neg h0, c_cell, if_neg h1, if_pos (n_wib (by omega) (by decide)), n_t (by omega), ← wst_k (M := M) (p := 0) (c := zc) (by omega), if_neg h4]) (by rw [Rel_m4 r, if_neg h0, m_isCell, if_neg h1, n_al, if_pos (n_wib (by omega) (by decide)), n_t (by omega), g_at e25 (by omega), if_neg h4]) rfl r
  obtain ⟨Mk, k1, k2, k3, k4⟩ := act_step r (there_1 r h0)
  have hw' : sW (fun j => if j = 41 + zc then 1 - wst M 0 (41 + zc) else wst M 0 j) := sOpen_w hw (by omega) (by rw [h4]; decide)
  obtain ⟨m1, m2, m3, Mn, m4, m5, m6⟩ := k4 _ hw'
  refine Ag_i (r := 1 - wst M 0 (41 + zc)) (M1 := mP Mk 0 (fun j => if j = 41 + zc then 1 - wst M 0 (41 + zc) else wst M 0 j) 1) (M2 := mR Mn (fun j => if j = 41 + zc then 1 - wst M 0 (41 + zc) else wst M 0 j) (Mn 29 0) (Mn 21 0 19) (Mn 21 0 20) (wrs Mn 31 0)) ?_ ?_ rfl (m6 _ _ _ _)
  · show (if M 6 0 5 = 0 then _ else _) = _
    have eU : wc_up Mk 11 0 zc (1 - Mk 11 0 zc) = mP Mk 0 (fun j => if j = 41 + zc then 1 - wst M 0 (41 + zc) else wst M 0 j) 1 := by
      rw [up_w (by omega), k2, k3, ← wst_w (M := Mk) (p := 0) (c := zc) (by omega), k2]
    have eV : wc_up Mk 11 0 zc (1 - Mk 11 0 zc) 11 0 zc = 1 - wst M 0 (41 + zc) := by
      unfold wc_up
      rw [if_pos ⟨rfl, rfl, rfl⟩, ← wst_w (M := Mk) (p := 0) (c := zc) (by omega), k2]
    rw [if_neg h0, c_cell, if_neg h1, if_pos (n_wib (by omega) (by decide)), n_t (by omega), ← wst_k (M := M) (p := 0) (c := zc) (by omega), if_pos h4, k1, Option.bind_some, eV, eU]
  · show (if mP Mk 0 (fun j => if j = 41 + zc then 1 - wst M 0 (41 + zc) else wst M 0 j) 1 21 0 4 = 0 then _ else _) = _
    have eU : ∀ v, wc_up Mn 25 0 (41 + zc) v = mR Mn (fun j => if j = 41 + zc then v else wst M 0 j) (Mn 29 0) (Mn 21 0 19) (Mn 21 0 20) (wrs Mn 31 0) := by
      intro v
      rw [← r_up_st (by omega), form_of m5]
    rw [m2, if_neg (by decide), m_isCell, if_neg h1, n_al, if_pos (n_wib (by omega) (by decide)), n_t (by omega), g_at m3 (by omega), if_pos h4, m4, Option.bind_some, n_al, if_pos (n_wib (by omega) (by decide)), n_t (by omega), g_at m5 (by omega), eU, mR_st (by omega), if_pos rfl]
theorem q_gust (a1 a2 : Int32) {M : wc_M} (r : Rel M) : Ag (f_C_gust a1 a2) (f_M_gust a1 a2) M := by
  unfold f_C_gust f_M_gust
  have hw := Rel_w r
  have e25 := r.1.2.2.1
  by_cases h0 : M 6 0 5 = 0
  · exact Ag_i (if_pos h0) (if_pos (by rw [Rel_m4 r]; exact h0)) rfl r
  by_cases h1 : f_C_isUpTo a1 3 = 0
  · exact Ag_i (M1 := M) (M2 := M) (by rw [if_neg h0, c_line, if_pos h1]) (by rw [Rel_m4 r, if_neg h0, m_isLine, if_pos h1]) rfl r
  by_cases h2 : f_C_isUpTo a2 31 = 0
  · exact Ag_i (M1 := M) (M2 := M) (by rw [if_neg h0, c_line, if_neg h1, if_pos h2]) (by rw [Rel_m4 r, if_neg h0, m_isLine, if_neg h1, m_up_31, if_pos h2]) rfl r
  obtain ⟨zc, hc, rfl⟩ := c_upK (by decide) h1
  obtain ⟨zv, hv, rfl⟩ := c_upK (by decide) h2
  obtain ⟨Mk, k1, k2, k3, k4⟩ := act_step r (there_1 r h0)
  have hw' : sW (fun j => if j = 1 + zc then nI zv else wst M 0 j) := by
    obtain ⟨h1, h2, h3, h4, h5, h6⟩ := hw
    have eo : ∀ j, 5 ≤ j → (fun j => if j = 1 + zc then nI zv else wst M 0 j) j = wst M 0 j := fun j hj => if_neg (by omega)
    refine ⟨?_, ?_, ?_, ?_, ?_, ?_⟩
    · intro j hj
      rw [eo _ (by omega)]
      exact h1 j hj
    · intro zj hj
      rw [eo _ (by omega)]
      exact h2 zj hj
    · intro zy hy
      show ∃ n, n < 32 ∧ (if 1 + zy = 1 + zc then nI zv else wst M 0 (1 + zy)) = nI n
      by_cases e : 1 + zy = 1 + zc
      · rw [if_pos e]
        exact ⟨zv, by omega, rfl⟩
      · rw [if_neg e]
        exact h3 zy hy
    · intro zy hy
      rw [eo _ (by omega)]
      exact h4 zy hy
    · intro zj hj
      rw [eo _ (by omega), eo _ (by omega), eo _ (by omega)]
      exact h5 zj hj
    · refine Nat.le_trans (sWn_less (st := wst M 0) ?_ 16 (by omega)) h6
      intro zj hj
      exact Or.inl (eo _ (by omega))
  obtain ⟨m1, m2, m3, Mn, m4, m5, m6⟩ := k4 _ hw'
  refine Ag_i (r := wst M 0 (1 + zc)) (M1 := mP Mk 0 (fun j => if j = 1 + zc then nI zv else wst M 0 j) 1) (M2 := mR Mn (fun j => if j = 1 + zc then nI zv else wst M 0 j) (Mn 29 0) (Mn 21 0 19) (Mn 21 0 20) (wrs Mn 31 0)) ?_ ?_ rfl (m6 _ _ _ _)
  · show (if M 6 0 5 = 0 then _ else _) = _
    rw [if_neg h0, c_line, if_neg h1, if_neg h2, if_pos (n_wib (by omega) (by decide)), k1, Option.bind_some, n_t (by omega), ← wst_g (M := M) (p := 0) (y := zc) (by omega), up_g (by omega), k2, k3]
  · show (if mP Mk 0 (fun j => if j = 1 + zc then nI zv else wst M 0 j) 1 21 0 4 = 0 then _ else _) = _
    have eU : ∀ v, wc_up Mn 25 0 (1 + zc) v = mR Mn (fun j => if j = 1 + zc then v else wst M 0 j) (Mn 29 0) (Mn 21 0 19) (Mn 21 0 20) (wrs Mn 31 0) := by
      intro v
      rw [← r_up_st (by omega), form_of m5]
    rw [m2, if_neg (by decide), m_isLine, if_neg h1, m_up_31, if_neg h2, m4, Option.bind_some, n_al, if_pos (n_wib (by omega) (by decide)), n_t (by omega), g_at m5 (by omega), eU]
