/-! What is HIDDEN, where MOST leaves -/
theorem sPut_back {st : Nat → Int32} {c : Nat} {k h : Int32} (h1 : st (9 + c) = 0) (h2 : st (25 + c) = 0) (h3 : st (41 + c) = 0) : sPut (sPut st c k h) c 0 0 = st := by
  funext q
  unfold sPut
  by_cases q1 : q = 9 + c
  · rw [if_pos q1, q1, h1]
  · rw [if_neg q1]
    by_cases q2 : q = 25 + c
    · rw [if_pos q2, q2, h2]
    · rw [if_neg q2]
      by_cases q3 : q = 41 + c
      · rw [if_pos q3, q3, h3]
      · rw [if_neg q3, if_neg q1, if_neg q2, if_neg q3]
theorem sPut_up {st : Nat → Int32} {c : Nat} {k : Int32} (hc : c < 16) (h2 : st (25 + c) = 0) (h3 : st (41 + c) = 0) : (fun q => if q = 9 + c then k else st q) = sPut st c k 0 := by
  funext q
  unfold sPut
  by_cases q1 : q = 9 + c
  · rw [if_pos q1, if_pos q1]
  · rw [if_neg q1, if_neg q1]
    by_cases q2 : q = 25 + c
    · rw [if_pos q2, q2, h2]
    · rw [if_neg q2]
      by_cases q3 : q = 41 + c
      · rw [if_pos q3, q3, h3]
      · rw [if_neg q3]
theorem sPut_dn {st : Nat → Int32} {c : Nat} {k : Int32} (hc : c < 16) (h1 : st (9 + c) = 0) (h2 : st (25 + c) = 0) (h3 : st (41 + c) = 0) : (fun q => if q = 9 + c then 0 else sPut st c k 0 q) = st := by
  rw [← sPut_up hc h2 h3]
  funext q
  by_cases q1 : q = 9 + c
  · rw [if_pos q1, q1, h1]
  · rw [if_neg q1]
    show (if q = 9 + c then k else st q) = _
    rw [if_neg q1]
theorem sPut_kd {st : Nat → Int32} {c : Nat} {k h : Int32} (hk : sKd st) (hc : c < 16) (hn : ∃ n, n ≤ 5 ∧ k = nI n) : sKd (sPut st c k h) := by
  intro zj hj
  unfold sPut
  by_cases e : zj = c
  · rw [if_pos (by omega)]
    exact hn
  · rw [if_neg (by omega), if_neg (by omega), if_neg (by omega)]
    exact hk zj hj
theorem c_putA {M : wc_M} {st F : Nat → Int32} {th lo k h : Int32} {p c : Nat} (hs : sOk st) (hc : c < 16) : f_P_put p (nI c) k h (mA (mP M p st th) F lo) = some (mA (mP M p (sPut st c k h) th) F lo) := by
  rw [p_put hc, wst_mA, wst_mP hs, mP_mA, mP_mP, mA_off (by omega), mP_th]
theorem c_clearA {M : wc_M} {st F : Nat → Int32} {th lo : Int32} {p c : Nat} (hs : sOk st) (hc : c < 16) : f_P_clear p (nI c) (mA (mP M p st th) F lo) = some (mA (mP M p (sPut st c 0 0) th) F lo) := by
  rw [p_clear hc, wst_mA, wst_mP hs, mP_mA, mP_mP, mA_off (by omega), mP_th]
theorem c_hasA {M : wc_M} {st F : Nat → Int32} {th lo : Int32} {c : Nat} (hc : c < 16) : f_P_hasWork 0 (nI c) (mA (mP M 1 st th) F lo) = some (if wst M 0 (9 + c) = 0 then 0 else 1) := by
  rw [p_has hc, wst_mA, wst_mPn (by omega)]
theorem sFl_cong {f f' g g' : Nat → Int32} : ∀ n, (∀ c, c < n → f c = f' c ∧ g c = g' c) → sFl f g n = sFl f' g' n
  | 0, _ => by rw [sFl, sFl]
  | n + 1, h => by
    rw [sFl_s, sFl_s, sFl_cong n (fun c hc => h c (by omega)), (h n (by omega)).1, (h n (by omega)).2]
theorem c_along {a zi y : Nat} {M : wc_M} {F : Nat → Int32} {lo : Int32} (hi : zi + 4 ≤ 40) (hy : y < 4) : f_C_isFeltAlong (nI y) a (nI zi) (mA M F lo) = some (sFl (fun x => M 3 a (zi + x)) (fun x => F (4 * x + y)) 4) := by
  unfold f_C_isFeltAlong
  have step : ∀ (zn zc : Nat), zc < 4 → l_C_isFeltAlong_2 (nI y) a (nI zi) (mA M F lo) (zn + 1) (nI zc) = if M 3 a (zi + zc) = F (4 * zc + y) then l_C_isFeltAlong_2 (nI y) a (nI zi) (mA M F lo) zn (nI (zc + 1)) else some (.inl 0) := by
    intro zn zc hzc
    rw [l_C_isFeltAlong_2, if_neg (by rw [n_le (by decide) (by omega)]; omega), nI_add, if_pos (n_wib (by omega) (by decide)), n_ml, nI_add, if_pos (n_wib (by omega) (by decide)), n_ar, n_t (by omega), n_t (by omega), mA_off (by omega), mA_f (by omega)]
  rcases sFl_c (fun x => M 3 a (zi + x)) (fun x => F (4 * x + y)) 4 with ⟨h1, h2⟩ | ⟨h1, h2⟩
  · have e : l_C_isFeltAlong_2 (nI y) a (nI zi) (mA M F lo) 2000 0 = some (.inr ()) := loop_to (fun zn zx (_ : Unit) => l_C_isFeltAlong_2 (nI y) a (nI zi) (mA M F lo) zn zx) (fun _ => ()) 4 (.inr ()) (by
      intro zn zc hzc
      show l_C_isFeltAlong_2 (nI y) a (nI zi) (mA M F lo) (zn + 1) (nI zc) = _
      rw [step zn zc hzc, if_pos (h2 zc hzc)]) (by
      intro zn
      show l_C_isFeltAlong_2 (nI y) a (nI zi) (mA M F lo) (zn + 1) (nI 4) = _
      rw [l_C_isFeltAlong_2, if_pos (by decide)]) 2000 (by decide)
    rw [e, Option.bind_some, h1]
    rfl
  · rcases ex_first (fun x => ¬ M 3 a (zi + x) = F (4 * x + y)) 4 with h | ⟨m, h3, h4, h5⟩
    · exact absurd (fun c hc => Classical.not_not.mp (h c hc)) h2
    · have e : l_C_isFeltAlong_2 (nI y) a (nI zi) (mA M F lo) 2000 0 = some (.inl 0) := loop_to (fun zn zx (_ : Unit) => l_C_isFeltAlong_2 (nI y) a (nI zi) (mA M F lo) zn zx) (fun _ => ()) m (.inl 0) (by
        intro zn zc hzc
        show l_C_isFeltAlong_2 (nI y) a (nI zi) (mA M F lo) (zn + 1) (nI zc) = _
        rw [step zn zc (by omega), if_pos (Classical.not_not.mp (h5 zc hzc))]) (by
        intro zn
        show l_C_isFeltAlong_2 (nI y) a (nI zi) (mA M F lo) (zn + 1) (nI m) = _
        rw [step zn m h3, if_neg h4]) 2000 (by omega)
      rw [e, Option.bind_some, h1]
      rfl
theorem m_along {x1 x6 x7 : Int32} {a zi y : Nat} {M : wc_M} (ha : a < 8) (hi : zi + 4 ≤ 40) (hy : y < 4) : l_M_hidden_53 x1 (nI y) (nI a) (nI zi) x6 x7 M 2000 1 0 = some (sFl (fun x => M 24 0 (40 * a + zi + x)) (fun x => M 29 0 (4 * x + y)) 4) :=
  loop_to (fun zn zx zs => l_M_hidden_53 x1 (nI y) (nI a) (nI zi) x6 x7 M zn zs zx) (fun zc => sFl (fun x => M 24 0 (40 * a + zi + x)) (fun x => M 29 0 (4 * x + y)) zc) 4 _ (by
    intro zn zc hzc
    show l_M_hidden_53 x1 (nI y) (nI a) (nI zi) x6 x7 M (zn + 1) (sFl (fun x => M 24 0 (40 * a + zi + x)) (fun x => M 29 0 (4 * x + y)) zc) (nI zc) = l_M_hidden_53 x1 (nI y) (nI a) (nI zi) x6 x7 M zn (sFl (fun x => M 24 0 (40 * a + zi + x)) (fun x => M 29 0 (4 * x + y)) (zc + 1)) (nI (zc + 1))
    rw [l_M_hidden_53, if_neg (by rw [n_le (by decide) (by omega)]; omega), sFl_s, n_ar]
    by_cases h0 : sFl (fun x => M 24 0 (40 * a + zi + x)) (fun x => M 29 0 (4 * x + y)) zc = 0
    · rw [if_pos h0, if_pos h0]
    · rw [if_neg h0, if_neg h0, n_ml, nI_add, nI_add, if_pos (n_wib (by omega) (by decide)), n_ml, nI_add, if_pos (n_wib (by omega) (by decide)), n_t (by omega), n_t (by omega)]
      by_cases h1 : M 24 0 (40 * a + zi + zc) = M 29 0 (4 * zc + y)
      · rw [if_pos h1, if_pos h1]
      · rw [if_neg h1, if_neg h1]) (by
    intro zn
    show l_M_hidden_53 x1 (nI y) (nI a) (nI zi) x6 x7 M (zn + 1) (sFl (fun x => M 24 0 (40 * a + zi + x)) (fun x => M 29 0 (4 * x + y)) 4) (nI 4) = _
    rw [l_M_hidden_53, if_pos (by decide)]) 2000 (by decide)
noncomputable def hB (e st : Nat → Int32) : Nat → Int32
  | 0 => 0
  | c + 1 => if st (9 + c) = 0 then (if e c = 0 then hB e st c else hB e st c ||| ((1 : Int32) <<< (nI c &&& 31))) else hB e st c
theorem hB_s (e st : Nat → Int32) (c : Nat) : hB e st (c + 1) = if st (9 + c) = 0 then (if e c = 0 then hB e st c else hB e st c ||| ((1 : Int32) <<< (nI c &&& 31))) else hB e st c := by rw [hB]
noncomputable def eAl (M : wc_M) (a zi y : Nat) (st : Nat → Int32) (k : Int32) (c : Nat) : Int32 := sFl (fun x => M 3 a (zi + x)) (fun x => bF (sPut st c k 0) (4 * x + y)) 4
theorem c_hid {M : wc_M} {a zi y : Nat} {k th lo : Int32} {F : Nat → Int32} (ha : a < 8) (hi : zi + 4 ≤ 40) (hy : y < 4) (hw : sW (wst M 0)) : ∃ F' lo', l_C_hidden_39 k (nI y) (nI a) (nI zi) 2000 0 0 (mA (mP M 1 (wst M 0) th) F lo) = some (hB (eAl M a zi y (wst M 0) k) (wst M 0) 16, mA (mP M 1 (wst M 0) th) F' lo') := by
  have hs := sW_ok hw
  obtain ⟨R, h1, F', lo', h2⟩ := loop_inv (fun zn zx (s : Int32 × wc_M) => l_C_hidden_39 k (nI y) (nI a) (nI zi) zn s.1 zx s.2) (fun zc s => ∃ F lo, s = (hB (eAl M a zi y (wst M 0) k) (wst M 0) zc, mA (mP M 1 (wst M 0) th) F lo)) 16 (fun R => ∃ F' lo', R = (hB (eAl M a zi y (wst M 0) k) (wst M 0) 16, mA (mP M 1 (wst M 0) th) F' lo')) (by
    rintro zn zc s hzc ⟨F, lo, rfl⟩
    by_cases h0 : wst M 0 (9 + zc) = 0
    · obtain ⟨g1, g2⟩ := hw.2.2.2.2.1 zc hzc h0
      refine ⟨(hB (eAl M a zi y (wst M 0) k) (wst M 0) (zc + 1), mA (mP M 1 (wst M 0) th) (bF (sPut (wst M 0) zc k 0)) (bL (sPut (wst M 0) zc k 0))), ⟨_, _, rfl⟩, ?_⟩
      show l_C_hidden_39 k (nI y) (nI a) (nI zi) (zn + 1) (hB (eAl M a zi y (wst M 0) k) (wst M 0) zc) (nI zc) (mA (mP M 1 (wst M 0) th) F lo) = l_C_hidden_39 k (nI y) (nI a) (nI zi) zn (hB (eAl M a zi y (wst M 0) k) (wst M 0) (zc + 1)) (nI (zc + 1)) (mA (mP M 1 (wst M 0) th) (bF (sPut (wst M 0) zc k 0)) (bL (sPut (wst M 0) zc k 0)))
      have ea : sFl (fun x => mP M 1 (wst M 0) th 3 a (zi + x)) (fun x => bF (sPut (wst M 0) zc k 0) (4 * x + y)) 4 = eAl M a zi y (wst M 0) k zc := sFl_cong 4 (fun x hx => ⟨mP_off (by omega), rfl⟩)
      rw [l_C_hidden_39, if_neg (by rw [n_le (by decide) (by omega)]; omega), c_hasA hzc, Option.bind_some, if_pos h0, if_pos rfl, c_putA hs hzc, Option.bind_some, a_blowA (sPut_ok hzc hs), Option.bind_some, c_clearA (sPut_ok hzc hs) hzc, Option.bind_some, sPut_back h0 g1 g2, if_pos (n_wib (by omega) (by decide)), n_t (by omega), c_along hi hy, Option.bind_some, ea, hB_s, if_pos h0, n_ar]
      by_cases h3 : eAl M a zi y (wst M 0) k zc = 0
      · rw [if_pos h3, if_pos h3]
      · rw [if_neg h3, if_neg h3]
    · refine ⟨(hB (eAl M a zi y (wst M 0) k) (wst M 0) (zc + 1), mA (mP M 1 (wst M 0) th) F lo), ⟨_, _, rfl⟩, ?_⟩
      show l_C_hidden_39 k (nI y) (nI a) (nI zi) (zn + 1) (hB (eAl M a zi y (wst M 0) k) (wst M 0) zc) (nI zc) (mA (mP M 1 (wst M 0) th) F lo) = l_C_hidden_39 k (nI y) (nI a) (nI zi) zn (hB (eAl M a zi y (wst M 0) k) (wst M 0) (zc + 1)) (nI (zc + 1)) (mA (mP M 1 (wst M 0) th) F lo)
      rw [l_C_hidden_39, if_neg (by rw [n_le (by decide) (by omega)]; omega), c_hasA hzc, Option.bind_some, if_neg h0, if_neg (by decide), hB_s, if_neg h0, n_ar]) (by
    rintro zn s ⟨F, lo, rfl⟩
    refine ⟨_, ?_, F, lo, rfl⟩
    show l_C_hidden_39 k (nI y) (nI a) (nI zi) (zn + 1) (hB (eAl M a zi y (wst M 0) k) (wst M 0) 16) (nI 16) (mA (mP M 1 (wst M 0) th) F lo) = _
    rw [l_C_hidden_39, if_pos (by decide)]) 16 0 2000 (0, mA (mP M 1 (wst M 0) th) F lo) (by omega) (by omega) (by omega) ⟨F, lo, by rw [hB]⟩
  rw [h2] at h1
  exact ⟨F', lo', h1⟩
theorem m_hid {N M : wc_M} {a zi y : Nat} {k lo br : Int32} {F as st : Nat → Int32} (ha : a < 8) (hi : zi + 4 ≤ 40) (hy : y < 4) (hw : sW st) (hk : ∃ n, n ≤ 5 ∧ k = nI n) (hr : ∀ j, j < 40 → M 3 a j = N 24 0 (40 * a + j)) : ∃ F' lo', l_M_hidden_33 k (nI y) (nI a) (nI zi) 2000 0 0 (mR N st F lo br as) = some (hB (eAl M a zi y st k) st 16, mR N st F' lo' br as) := by
  have hs := sW_ok hw
  have hd := sW_kd hw
  obtain ⟨R, h1, F', lo', h2⟩ := loop_inv (fun zn zx (s : Int32 × wc_M) => l_M_hidden_33 k (nI y) (nI a) (nI zi) zn s.1 zx s.2) (fun zc s => ∃ F lo, s = (hB (eAl M a zi y st k) st zc, mR N st F lo br as)) 16 (fun R => ∃ F' lo', R = (hB (eAl M a zi y st k) st 16, mR N st F' lo' br as)) (by
    rintro zn zc s hzc ⟨F, lo, rfl⟩
    obtain ⟨kn, hkn, hke⟩ := hd zc hzc
    by_cases h0 : st (9 + zc) = 0
    · obtain ⟨g1, g2⟩ := hw.2.2.2.2.1 zc hzc h0
      refine ⟨(hB (eAl M a zi y st k) st (zc + 1), mR N st (bF (sPut st zc k 0)) (bL (sPut st zc k 0)) br as), ⟨_, _, rfl⟩, ?_⟩
      show l_M_hidden_33 k (nI y) (nI a) (nI zi) (zn + 1) (hB (eAl M a zi y st k) st zc) (nI zc) (mR N st F lo br as) = l_M_hidden_33 k (nI y) (nI a) (nI zi) zn (hB (eAl M a zi y st k) st (zc + 1)) (nI (zc + 1)) (mR N st (bF (sPut st zc k 0)) (bL (sPut st zc k 0)) br as)
      have ea : sFl (fun x => mR N (sPut st zc k 0) (bF (sPut st zc k 0)) (bL (sPut st zc k 0)) br as 24 0 (40 * a + zi + x)) (fun x => mR N (sPut st zc k 0) (bF (sPut st zc k 0)) (bL (sPut st zc k 0)) br as 29 0 (4 * x + y)) 4 = eAl M a zi y st k zc := sFl_cong 4 (fun x hx => ⟨by rw [mR_off (by omega), hr _ (by omega), show 40 * a + zi + x = 40 * a + (zi + x) by omega], mR_f (by omega)⟩)
      rw [l_M_hidden_33, if_neg (by rw [n_le (by decide) (by omega)]; omega), r_isWork hzc hkn hke, Option.bind_some, if_pos h0, if_pos rfl, n_al, if_pos (n_wib (by omega) (by decide)), n_t (by omega), r_up_st (by omega), sPut_up hzc g1 g2, r_blow (sPut_kd hd hzc hk), Option.bind_some, m_along ha hi hy, Option.bind_some, ea, r_up_st (by omega), sPut_dn hzc h0 g1 g2, hB_s, if_pos h0, n_ar]
      by_cases h3 : eAl M a zi y st k zc = 0
      · rw [if_pos h3, if_pos h3, show hB (eAl M a zi y st k) st zc ||| 0 = hB (eAl M a zi y st k) st zc from by simp]
      · rw [if_neg h3, if_neg h3]
    · refine ⟨(hB (eAl M a zi y st k) st (zc + 1), mR N st F lo br as), ⟨_, _, rfl⟩, ?_⟩
      show l_M_hidden_33 k (nI y) (nI a) (nI zi) (zn + 1) (hB (eAl M a zi y st k) st zc) (nI zc) (mR N st F lo br as) = l_M_hidden_33 k (nI y) (nI a) (nI zi) zn (hB (eAl M a zi y st k) st (zc + 1)) (nI (zc + 1)) (mR N st F lo br as)
      rw [l_M_hidden_33, if_neg (by rw [n_le (by decide) (by omega)]; omega), r_isWork hzc hkn hke, Option.bind_some, if_neg h0, if_neg (by decide), hB_s, if_neg h0, n_ar]) (by
    rintro zn s ⟨F, lo, rfl⟩
    refine ⟨_, ?_, F, lo, rfl⟩
    show l_M_hidden_33 k (nI y) (nI a) (nI zi) (zn + 1) (hB (eAl M a zi y st k) st 16) (nI 16) (mR N st F lo br as) = _
    rw [l_M_hidden_33, if_pos (by decide)]) 16 0 2000 (0, mR N st F lo br as) (by omega) (by omega) (by omega) ⟨F, lo, by rw [hB]⟩
  rw [h2] at h1
  exact ⟨F', lo', h1⟩
theorem Rel_w0 {M1 : wc_M} {F as : Nat → Int32} {lo br v : Int32} (r : Rel M1) : Rel (wc_up (mR (wc_up M1 0 0 9 v) (wst M1 0) F lo br as) 21 0 3 v) := by
  refine Rel_fd ?_ (Rel_R (F := F) (lo := lo) (br := br) (as := as) r) ?_
  · intro zk zi2 zs hz
    unfold Irr at hz
    unfold wc_up mR
    by_cases q1 : zk = 25 ∧ zi2 = 0 ∧ zs < 57
    · rw [if_neg (by omega), if_pos q1, if_pos q1]
    · rw [if_neg (by omega), if_neg q1, if_neg q1]
      rw [if_neg (by omega), if_neg (by omega), if_neg (by omega), if_neg (by omega), if_neg (by omega), if_neg (by omega), if_neg (by omega), if_neg (by omega)]
      show (if zk = 0 ∧ zi2 = 0 ∧ zs = 9 then v else M1 zk zi2 zs) = _
      rw [if_neg (by omega)]
  · unfold RelF
    have e1 : ∀ N : wc_M, wc_up N 21 0 3 v 21 0 3 = v := by
      intro N
      unfold wc_up
      rw [if_pos ⟨rfl, rfl, rfl⟩]
    rw [e1]
    unfold wc_up
    rw [if_neg (by omega), mR_off (by omega), if_pos ⟨rfl, rfl, rfl⟩]
theorem q_hidden (a1 a2 a3 a4 : Int32) {M : wc_M} (r : Rel M) : Ag (f_C_hidden a1 a2 a3 a4) (f_M_hidden a1 a2 a3 a4) M := by
  unfold f_C_hidden f_M_hidden
  by_cases h0 : M 6 0 5 = 0
  · exact Ag_i (if_pos h0) (if_pos (by rw [Rel_m4 r]; exact h0)) rfl r
  by_cases h1 : f_C_isWorkKind a1 = 0
  · exact Ag_i (M1 := M) (M2 := M) (by rw [if_neg h0, if_pos h1]) (by rw [Rel_m4 r, if_neg h0, m_15, if_pos h1]) rfl r
  by_cases h2 : f_C_isUpTo a2 3 = 0
  · exact Ag_i (M1 := M) (M2 := M) (by rw [if_neg h0, if_neg h1, c_line, if_pos h2]) (by rw [Rel_m4 r, if_neg h0, m_15, if_neg h1, m_isLine, if_pos h2]) rfl r
  by_cases h3 : f_C_isUpTo a3 7 = 0
  · exact Ag_i (M1 := M) (M2 := M) (by rw [if_neg h0, if_neg h1, c_line, if_neg h2, if_pos h3]) (by rw [Rel_m4 r, if_neg h0, m_15, if_neg h1, m_isLine, if_neg h2, m_isRow, if_pos h3]) rfl r
  obtain ⟨zk, hk1, hk5, rfl⟩ := c_wk0 h1
  obtain ⟨zy, hzy, rfl⟩ := c_upK (by decide) h2
  obtain ⟨za, hza, rfl⟩ := c_upK (by decide) h3
  have hw := Rel_w r
  have hs := sW_ok hw
  rcases fi (M := M) (a := za) (K := 4) (i := a4) (kI := 4) rfl (by omega) (by omega) r.2.2.1 (by omega) with ⟨e1, e2, e3⟩ | ⟨n, hn, e1, ⟨e2, e3⟩ | ⟨zi, rfl, hzi, e2, e3, e4⟩⟩
  · refine Ag_i (r := -1000010 - 1) (M1 := wc_up M 0 0 9 1) (M2 := wc_up (wc_up M 0 0 9 1) 21 0 3 1) ?_ ?_ rfl (Rel_find r)
    · show (if M 6 0 5 = 0 then _ else _) = _
      rw [if_neg h0, if_neg h1, c_line, if_neg h2, if_neg h3, e3, Option.bind_some, if_neg (by decide)]
      rfl
    · show (if M 21 0 4 = 0 then _ else _) = _
      rw [Rel_m4 r, if_neg h0, m_15, if_neg h1, m_isLine, if_neg h2, m_isRow, if_neg h3, g_lacks (by omega), show wc_up M 0 0 9 1 23 0 za = -1 from e2, if_neg (by decide), Option.bind_some, if_neg (show ¬ (0 : Int32) ≤ -1000010 - 1 by decide)]
  · refine Ag_i (r := -1000010 - 2) (M1 := wc_up M 0 0 9 2) (M2 := wc_up (wc_up M 0 0 9 2) 21 0 3 2) ?_ ?_ rfl (Rel_find r)
    · show (if M 6 0 5 = 0 then _ else _) = _
      rw [if_neg h0, if_neg h1, c_line, if_neg h2, if_neg h3, e2, Option.bind_some, if_neg (by decide)]
      rfl
    · show (if M 21 0 4 = 0 then _ else _) = _
      rw [Rel_m4 r, if_neg h0, m_15, if_neg h1, m_isLine, if_neg h2, m_isRow, if_neg h3, g_lacks (by omega), show wc_up M 0 0 9 2 23 0 za = nI n from e1, if_pos (Int32.not_lt.mp (n_n0 (by omega))), e3, if_pos rfl, Option.bind_some, if_neg (show ¬ (0 : Int32) ≤ -1000010 - 2 by decide)]
  have em := mA_id (mP M 1 (wst M 0) (M 6 0 5))
  obtain ⟨F1, lo1, hC⟩ := c_hid (M := M) (a := za) (zi := zi) (y := zy) (k := nI zk) (th := M 6 0 5) (lo := mP M 1 (wst M 0) (M 6 0 5) 12 0 2) (F := Fo (mP M 1 (wst M 0) (M 6 0 5))) (by omega) (by omega) (by omega) hw
  rw [em] at hC
  generalize hM1 : mA (mP M 1 (wst M 0) (M 6 0 5)) F1 lo1 = M1 at hC
  have r1 : Rel M1 := by
    rw [← hM1]
    exact Rel_A (Rel_1 r)
  have w1 : wst M1 0 = wst M 0 := by rw [← hM1, wst_mA, wst_mPn (by omega)]
  have g6 : ∀ k i s, 21 ≤ k → M1 k i s = M k i s := fun k i s h => by rw [← hM1, mA_off (by omega), mP_off (by omega)]
  have ef : wrs (wc_up M1 0 0 9 0) 25 0 = wst M 0 := (wrs_fr (M := M1) (fun zs => rfl)).trans ((Rel_e25 r1).trans w1)
  obtain ⟨F2, lo2, hM⟩ := m_hid (N := wc_up M1 0 0 9 0) (M := M) (a := za) (zi := zi) (y := zy) (k := nI zk) (lo := (wc_up M1 0 0 9 0) 21 0 19) (br := (wc_up M1 0 0 9 0) 21 0 20) (F := (wc_up M1 0 0 9 0) 29 0) (as := wrs (wc_up M1 0 0 9 0) 31 0) (st := wst M 0) (by omega) (by omega) (by omega) hw ⟨zk, hk5, rfl⟩ (by
    intro j hj
    rw [e4 j hj]
    unfold wc_up
    rw [if_neg (by omega), g6 _ _ _ (by omega)])
  rw [form_of ef] at hM
  refine Ag_i (r := hB (eAl M za zi zy (wst M 0) (nI zk)) (wst M 0) 16) (M1 := wc_up M1 0 0 9 0) (M2 := wc_up (mR (wc_up M1 0 0 9 0) (wst M1 0) F2 lo2 ((wc_up M1 0 0 9 0) 21 0 20) (wrs (wc_up M1 0 0 9 0) 31 0)) 21 0 3 0) ?_ ?_ rfl (Rel_w0 r1)
  · show (if M 6 0 5 = 0 then _ else _) = _
    rw [if_neg h0, if_neg h1, c_line, if_neg h2, if_neg h3, e2, Option.bind_some, if_pos rfl, p_become (Rel_wz r), Option.bind_some, hC, Option.bind_some]
    rfl
  · show (if M1 21 0 4 = 0 then _ else _) = _
    rw [show M1 21 0 4 = M 6 0 5 from (g6 _ _ _ (by omega)).trans (Rel_m4 r), if_neg h0, m_15, if_neg h1, m_isLine, if_neg h2, m_isRow, if_neg h3, g_lacks (by omega), show wc_up M1 0 0 9 0 23 0 za = nI n from (g6 23 0 za (by omega)).trans e1, if_pos (Int32.not_lt.mp (n_n0 (by omega))), e3, if_neg (by decide), Option.bind_some]
    show (if (0 : Int32) ≤ 0 then (Option.bind (l_M_hidden_33 (nI zk) (nI zy) (nI za) (nI zi) 2000 (0 : Int32) (0 : Int32) (wc_up M1 0 0 9 0)) _) else _) = _
    rw [if_pos (by decide), hM, Option.bind_some, w1]
    rfl
/-! what is felt is never below nothing -/
def sGu (st : Nat → Int32) : Prop := ∀ y, y < 4 → ∃ n, n < 32 ∧ st (1 + y) = nI n
theorem bOn_b {st : Nat → Int32} {c m : Nat} (hm : m < 2 ^ 31) : ∃ a, a ≤ m ∧ bOn st c (nI m) = nI a := by
  unfold bOn
  split
  · exact ⟨m, Nat.le_refl _, rfl⟩
  · split
    · exact ⟨0, by omega, rfl⟩
    · split
      · exact ⟨m / 2, by omega, n_div (by decide) (by decide) hm⟩
      · split
        · split
          · exact ⟨m, Nat.le_refl _, rfl⟩
          · exact ⟨0, by omega, rfl⟩
        · exact ⟨0, by omega, rfl⟩
theorem bNo_b {st : Nat → Int32} {c m : Nat} (hm : m < 2 ^ 31) : ∃ a, a ≤ m ∧ bNo st c (nI m) = nI a := by
  unfold bNo f_A_north
  split
  · exact ⟨m, Nat.le_refl _, rfl⟩
  · split
    · split
      · exact ⟨m, Nat.le_refl _, rfl⟩
      · exact ⟨0, by omega, rfl⟩
    · exact ⟨m / 2, by omega, n_div (by decide) (by decide) hm⟩
theorem bSt_b {st : Nat → Int32} {c B : Nat} {q : (Nat → Int32) × Int32} (hB : 2 * B < 2 ^ 31) (h : ∀ j, ∃ m, m ≤ B ∧ q.1 j = nI m) : ∀ j, ∃ m, m ≤ 2 * B ∧ (bSt st c q).1 j = nI m := by
  intro j
  obtain ⟨mc, hmc, ec⟩ := h c
  obtain ⟨a, ha, ea⟩ := bOn_b (st := st) (c := c) (m := mc) (by omega)
  have et : nI mc - nI a = nI (mc - a) := pk_sub ha
  obtain ⟨b, hb, eb⟩ := bNo_b (st := st) (c := c) (m := mc - a) (by omega)
  have es : nI (mc - a) - nI b = nI (mc - a - b) := pk_sub hb
  have e0 : (bSt st c q).1 = (if c % 4 = 3 then (if c % 4 = 0 then bAd q.1 (c + 4) (nI a) else bAd (bAd q.1 (c + 4) (nI a)) (c + 3) (nI b)) else bAd (if c % 4 = 0 then bAd q.1 (c + 4) (nI a) else bAd (bAd q.1 (c + 4) (nI a)) (c + 3) (nI b)) (c + 5) (nI (mc - a - b))) := by
    unfold bSt
    simp only [ec, ea, et, eb, es]
  rw [e0]
  obtain ⟨mj, hmj, ej⟩ := h j
  have hA : ∀ (v : Nat) (G : Nat → Int32) (k x : Nat), G j = nI x → bAd G k (nI v) j = if j = k then nI (x + v) else nI x := by
    intro v G k x hG
    unfold bAd
    rw [hG, nI_add]
  by_cases j4 : j = c + 4
  · have g1 : bAd q.1 (c + 4) (nI a) j = nI (mj + a) := by rw [hA a q.1 (c + 4) mj ej, if_pos j4]
    have g2 : bAd (bAd q.1 (c + 4) (nI a)) (c + 3) (nI b) j = nI (mj + a) := by rw [hA b _ (c + 3) (mj + a) g1, if_neg (by omega)]
    refine ⟨mj + a, by omega, ?_⟩
    by_cases h3 : c % 4 = 3
    · rw [if_pos h3, if_neg (by omega)]
      exact g2
    · rw [if_neg h3]
      by_cases h0 : c % 4 = 0
      · rw [if_pos h0, hA _ _ (c + 5) (mj + a) g1, if_neg (by omega)]
      · rw [if_neg h0, hA _ _ (c + 5) (mj + a) g2, if_neg (by omega)]
  · have g1 : bAd q.1 (c + 4) (nI a) j = nI mj := by rw [hA a q.1 (c + 4) mj ej, if_neg j4]
    by_cases j3 : j = c + 3
    · have g2 : bAd (bAd q.1 (c + 4) (nI a)) (c + 3) (nI b) j = nI (mj + b) := by rw [hA b _ (c + 3) mj g1, if_pos j3]
      by_cases h3 : c % 4 = 3
      · rw [if_pos h3, if_neg (by omega)]
        exact ⟨mj + b, by omega, g2⟩
      · rw [if_neg h3]
        by_cases h0 : c % 4 = 0
        · rw [if_pos h0, hA _ _ (c + 5) mj g1, if_neg (by omega)]
          exact ⟨mj, by omega, rfl⟩
        · rw [if_neg h0, hA _ _ (c + 5) (mj + b) g2, if_neg (by omega)]
          exact ⟨mj + b, by omega, rfl⟩
    · have g2 : bAd (bAd q.1 (c + 4) (nI a)) (c + 3) (nI b) j = nI mj := by rw [hA b _ (c + 3) mj g1, if_neg j3]
      by_cases h3 : c % 4 = 3
      · rw [if_pos h3, if_neg (by omega)]
        exact ⟨mj, by omega, g2⟩
      · rw [if_neg h3]
        have g3 : (if c % 4 = 0 then bAd q.1 (c + 4) (nI a) else bAd (bAd q.1 (c + 4) (nI a)) (c + 3) (nI b)) j = nI mj := by
          by_cases h0 : c % 4 = 0
          · rw [if_pos h0]
            exact g1
          · rw [if_neg h0]
            exact g2
        rw [hA _ _ (c + 5) mj g3]
        by_cases j5 : j = c + 5
        · rw [if_pos j5]
          exact ⟨mj + (mc - a - b), by omega, rfl⟩
        · rw [if_neg j5]
          exact ⟨mj, by omega, rfl⟩
theorem bS_b {st : Nat → Int32} (h : sGu st) : ∀ n, n ≤ 16 → ∀ j, ∃ m, m ≤ 31 * 2 ^ n ∧ (bS st n).1 j = nI m
  | 0, _ => by
    intro j
    rw [bS_0]
    show ∃ m, m ≤ 31 * 2 ^ 0 ∧ (if j < 4 then st (1 + j) else 0) = nI m
    by_cases hj : j < 4
    · obtain ⟨n, hn, e⟩ := h j hj
      exact ⟨n, by omega, by rw [if_pos hj, e]⟩
    · exact ⟨0, by omega, by rw [if_neg hj]; rfl⟩
  | n + 1, hn => by
    intro j
    have ih := bS_b h n (by omega)
    have hp : 2 ^ n ≤ 2 ^ 15 := Nat.pow_le_pow_right (by decide) (by omega)
    rw [bS_s]
    obtain ⟨m, hm, e⟩ := bSt_b (st := st) (c := n) (B := 31 * 2 ^ n) (by omega) ih j
    exact ⟨m, by rw [Nat.pow_succ]; omega, e⟩
theorem bF_nn {st : Nat → Int32} (h : sGu st) (j : Nat) : ∃ m, m < 2 ^ 31 ∧ bF st j = nI m := by
  obtain ⟨m, hm, e⟩ := bS_b h 16 (by omega) j
  refine ⟨m, by omega, ?_⟩
  unfold bF
  rw [bQ_e]
  exact e
theorem sPut_gu {st : Nat → Int32} {c : Nat} {k h : Int32} (hg : sGu st) : sGu (sPut st c k h) := by
  intro zy hy
  unfold sPut
  rw [if_neg (by omega), if_neg (by omega), if_neg (by omega)]
  exact hg zy hy
noncomputable def mW (b : Int32) (st : Nat → Int32) (y : Nat) : Nat → Int32 × Int32
  | 0 => (-1000000, b)
  | c + 1 => if st (9 + c) = 0 then (if bF (sPut st c 1 0) (16 + y) ≤ (mW b st y c).2 then mW b st y c else (nI c, bF (sPut st c 1 0) (16 + y))) else mW b st y c
theorem mW_s (b : Int32) (st : Nat → Int32) (y c : Nat) : mW b st y (c + 1) = if st (9 + c) = 0 then (if bF (sPut st c 1 0) (16 + y) ≤ (mW b st y c).2 then mW b st y c else (nI c, bF (sPut st c 1 0) (16 + y))) else mW b st y c := by rw [mW]
theorem mW_e {st : Nat → Int32} {y : Nat} (hg : sGu st) : ∀ n, n ≤ 16 → (mW (-1000000) st y n = (-1000000, -1000000) ∧ mW (-1) st y n = (-1000000, -1)) ∨ (mW (-1000000) st y n = mW (-1) st y n ∧ ∃ c, c < 16 ∧ (mW (-1) st y n).1 = nI c)
  | 0, _ => Or.inl ⟨by rw [mW], by rw [mW]⟩
  | n + 1, hn => by
    have ih := mW_e (y := y) hg n (by omega)
    rw [mW_s, mW_s]
    by_cases h0 : st (9 + n) = 0
    · rw [if_pos h0, if_pos h0]
      obtain ⟨m, hm, e⟩ := bF_nn (sPut_gu (c := n) (k := 1) (h := 0) hg) (16 + y)
      rw [e]
      rcases ih with ⟨i1, i2⟩ | ⟨i1, c, hc, i2⟩
      · rw [i1, i2]
        have n1 : ¬ nI m ≤ ((-1000000, -1000000) : Int32 × Int32).2 := by
          intro z
          exact absurd (Int32.lt_of_le_of_lt (Int32.le_trans (Int32.not_lt.mp (n_n0 hm)) z) (show ((-1000000, -1000000) : Int32 × Int32).2 < 0 by decide)) (by decide)
        have n2 : ¬ nI m ≤ ((-1000000, -1) : Int32 × Int32).2 := by
          intro z
          exact absurd (Int32.lt_of_le_of_lt (Int32.le_trans (Int32.not_lt.mp (n_n0 hm)) z) (show ((-1000000, -1) : Int32 × Int32).2 < 0 by decide)) (by decide)
        rw [if_neg n1, if_neg n2]
        exact Or.inr ⟨rfl, n, by omega, rfl⟩
      · rw [i1]
        by_cases h1 : nI m ≤ (mW (-1) st y n).2
        · rw [if_pos h1]
          exact Or.inr ⟨rfl, c, hc, i2⟩
        · rw [if_neg h1]
          exact Or.inr ⟨rfl, n, by omega, rfl⟩
    · rw [if_neg h0, if_neg h0]
      exact ih
theorem c_most {M : wc_M} {y : Nat} {x2 th lo : Int32} {F : Nat → Int32} (hy : y < 4) (hw : sW (wst M 0)) : ∃ F' lo', l_C_most_26 (nI y) x2 2000 (-1000000) (-1000000) 0 (mA (mP M 1 (wst M 0) th) F lo) = some ((mW (-1000000) (wst M 0) y 16).1, (mW (-1000000) (wst M 0) y 16).2, mA (mP M 1 (wst M 0) th) F' lo') := by
  have hs := sW_ok hw
  obtain ⟨R, h1, F', lo', h2⟩ := loop_inv (fun zn zx (s : Int32 × Int32 × wc_M) => l_C_most_26 (nI y) x2 zn s.1 s.2.1 zx s.2.2) (fun zc s => ∃ F lo, s = ((mW (-1000000) (wst M 0) y zc).1, (mW (-1000000) (wst M 0) y zc).2, mA (mP M 1 (wst M 0) th) F lo)) 16 (fun R => ∃ F' lo', R = ((mW (-1000000) (wst M 0) y 16).1, (mW (-1000000) (wst M 0) y 16).2, mA (mP M 1 (wst M 0) th) F' lo')) (by
    rintro zn zc s hzc ⟨F, lo, rfl⟩
    by_cases h0 : wst M 0 (9 + zc) = 0
    · obtain ⟨g1, g2⟩ := hw.2.2.2.2.1 zc hzc h0
      refine ⟨((mW (-1000000) (wst M 0) y (zc + 1)).1, (mW (-1000000) (wst M 0) y (zc + 1)).2, mA (mP M 1 (wst M 0) th) (bF (sPut (wst M 0) zc 1 0)) (bL (sPut (wst M 0) zc 1 0))), ⟨_, _, rfl⟩, ?_⟩
      show l_C_most_26 (nI y) x2 (zn + 1) (mW (-1000000) (wst M 0) y zc).1 (mW (-1000000) (wst M 0) y zc).2 (nI zc) (mA (mP M 1 (wst M 0) th) F lo) = l_C_most_26 (nI y) x2 zn (mW (-1000000) (wst M 0) y (zc + 1)).1 (mW (-1000000) (wst M 0) y (zc + 1)).2 (nI (zc + 1)) (mA (mP M 1 (wst M 0) th) (bF (sPut (wst M 0) zc 1 0)) (bL (sPut (wst M 0) zc 1 0)))
      rw [l_C_most_26, if_neg (by rw [n_le (by decide) (by omega)]; omega), c_hasA hzc, Option.bind_some, if_pos h0, if_pos rfl, c_putA hs hzc, Option.bind_some, a_blowA (sPut_ok hzc hs), Option.bind_some, c_clearA (sPut_ok hzc hs) hzc, Option.bind_some, sPut_back h0 g1 g2, if_pos (n_wib (by omega) (by decide)), n_t (by omega), mA_l hy, mW_s, if_pos h0, n_ar]
      by_cases h3 : bF (sPut (wst M 0) zc 1 0) (16 + y) ≤ (mW (-1000000) (wst M 0) y zc).2
      · rw [if_pos h3, if_pos h3]
      · rw [if_neg h3, if_neg h3]
    · refine ⟨((mW (-1000000) (wst M 0) y (zc + 1)).1, (mW (-1000000) (wst M 0) y (zc + 1)).2, mA (mP M 1 (wst M 0) th) F lo), ⟨_, _, rfl⟩, ?_⟩
      show l_C_most_26 (nI y) x2 (zn + 1) (mW (-1000000) (wst M 0) y zc).1 (mW (-1000000) (wst M 0) y zc).2 (nI zc) (mA (mP M 1 (wst M 0) th) F lo) = l_C_most_26 (nI y) x2 zn (mW (-1000000) (wst M 0) y (zc + 1)).1 (mW (-1000000) (wst M 0) y (zc + 1)).2 (nI (zc + 1)) (mA (mP M 1 (wst M 0) th) F lo)
      rw [l_C_most_26, if_neg (by rw [n_le (by decide) (by omega)]; omega), c_hasA hzc, Option.bind_some, if_neg h0, if_neg (by decide), mW_s, if_neg h0, n_ar]) (by
    rintro zn s ⟨F, lo, rfl⟩
    refine ⟨_, ?_, F, lo, rfl⟩
    show l_C_most_26 (nI y) x2 (zn + 1) (mW (-1000000) (wst M 0) y 16).1 (mW (-1000000) (wst M 0) y 16).2 (nI 16) (mA (mP M 1 (wst M 0) th) F lo) = _
    rw [l_C_most_26, if_pos (by decide)]) 16 0 2000 (-1000000, -1000000, mA (mP M 1 (wst M 0) th) F lo) (by omega) (by omega) (by omega) ⟨F, lo, by rw [mW]⟩
  rw [h2] at h1
  exact ⟨F', lo', h1⟩
theorem m_most {N : wc_M} {y : Nat} {x2 lo br : Int32} {F as st : Nat → Int32} (hy : y < 4) (hw : sW st) : ∃ F' lo', l_M_most_22 (nI y) x2 2000 (-1000000) (-1) 0 (mR N st F lo br as) = some ((mW (-1) st y 16).1, (mW (-1) st y 16).2, mR N st F' lo' br as) := by
  have hs := sW_ok hw
  have hd := sW_kd hw
  obtain ⟨R, h1, F', lo', h2⟩ := loop_inv (fun zn zx (s : Int32 × Int32 × wc_M) => l_M_most_22 (nI y) x2 zn s.1 s.2.1 zx s.2.2) (fun zc s => ∃ F lo, s = ((mW (-1) st y zc).1, (mW (-1) st y zc).2, mR N st F lo br as)) 16 (fun R => ∃ F' lo', R = ((mW (-1) st y 16).1, (mW (-1) st y 16).2, mR N st F' lo' br as)) (by
    rintro zn zc s hzc ⟨F, lo, rfl⟩
    obtain ⟨kn, hkn, hke⟩ := hd zc hzc
    by_cases h0 : st (9 + zc) = 0
    · obtain ⟨g1, g2⟩ := hw.2.2.2.2.1 zc hzc h0
      refine ⟨((mW (-1) st y (zc + 1)).1, (mW (-1) st y (zc + 1)).2, mR N st (bF (sPut st zc 1 0)) (bL (sPut st zc 1 0)) br as), ⟨_, _, rfl⟩, ?_⟩
      show l_M_most_22 (nI y) x2 (zn + 1) (mW (-1) st y zc).1 (mW (-1) st y zc).2 (nI zc) (mR N st F lo br as) = l_M_most_22 (nI y) x2 zn (mW (-1) st y (zc + 1)).1 (mW (-1) st y (zc + 1)).2 (nI (zc + 1)) (mR N st (bF (sPut st zc 1 0)) (bL (sPut st zc 1 0)) br as)
      rw [l_M_most_22, if_neg (by rw [n_le (by decide) (by omega)]; omega), r_isWork hzc hkn hke, Option.bind_some, if_pos h0, if_pos rfl, n_al, if_pos (n_wib (by omega) (by decide)), n_t (by omega), r_up_st (by omega), sPut_up hzc g1 g2, r_blow (sPut_kd (k := 1) (h := 0) hd hzc ⟨1, by omega, rfl⟩), Option.bind_some, n_al, if_pos (n_wib (by omega) (by decide)), n_t (by omega), r_up_st (by omega), sPut_dn hzc h0 g1 g2, mR_f (by omega), mW_s, if_pos h0, n_ar]
      by_cases h3 : bF (sPut st zc 1 0) (16 + y) ≤ (mW (-1) st y zc).2
      · rw [if_pos h3, if_pos h3, Option.bind_some, if_pos h3]
      · rw [if_neg h3, if_neg h3, Option.bind_some, if_neg h3]
    · refine ⟨((mW (-1) st y (zc + 1)).1, (mW (-1) st y (zc + 1)).2, mR N st F lo br as), ⟨_, _, rfl⟩, ?_⟩
      show l_M_most_22 (nI y) x2 (zn + 1) (mW (-1) st y zc).1 (mW (-1) st y zc).2 (nI zc) (mR N st F lo br as) = l_M_most_22 (nI y) x2 zn (mW (-1) st y (zc + 1)).1 (mW (-1) st y (zc + 1)).2 (nI (zc + 1)) (mR N st F lo br as)
      rw [l_M_most_22, if_neg (by rw [n_le (by decide) (by omega)]; omega), r_isWork hzc hkn hke, Option.bind_some, if_neg h0, if_neg (by decide), mW_s, if_neg h0, n_ar]) (by
    rintro zn s ⟨F, lo, rfl⟩
    refine ⟨_, ?_, F, lo, rfl⟩
    show l_M_most_22 (nI y) x2 (zn + 1) (mW (-1) st y 16).1 (mW (-1) st y 16).2 (nI 16) (mR N st F lo br as) = _
    rw [l_M_most_22, if_pos (by decide)]) 16 0 2000 (-1000000, -1, mR N st F lo br as) (by omega) (by omega) (by omega) ⟨F, lo, by rw [mW]⟩
  rw [h2] at h1
  exact ⟨F', lo', h1⟩
theorem q_most (a1 a2 : Int32) {M : wc_M} (r : Rel M) : Ag (f_C_most a1 a2) (f_M_most a1 a2) M := by
  unfold f_C_most f_M_most
  by_cases h0 : M 6 0 5 = 0
  · exact Ag_i (if_pos h0) (if_pos (by rw [Rel_m4 r]; exact h0)) rfl r
  by_cases h1 : f_C_isUpTo a1 3 = 0
  · exact Ag_i (M1 := M) (M2 := M) (by rw [if_neg h0, c_line, if_pos h1]) (by rw [Rel_m4 r, if_neg h0, m_isLine, if_pos h1]) rfl r
  by_cases h2 : f_C_isUpTo a2 1 = 0
  · exact Ag_i (M1 := M) (M2 := M) (by rw [if_neg h0, c_line, if_neg h1, if_pos h2]) (by rw [Rel_m4 r, if_neg h0, m_isLine, if_neg h1, m_up_1, if_pos h2]) rfl r
  obtain ⟨zy, hzy, rfl⟩ := c_upK (by decide) h1
  have hw := Rel_w r
  have em := mA_id (mP M 1 (wst M 0) (M 6 0 5))
  obtain ⟨F1, lo1, hC⟩ := c_most (M := M) (y := zy) (x2 := a2) (th := M 6 0 5) (lo := mP M 1 (wst M 0) (M 6 0 5) 12 0 2) (F := Fo (mP M 1 (wst M 0) (M 6 0 5))) (by omega) hw
  rw [em] at hC
  generalize hM1 : mA (mP M 1 (wst M 0) (M 6 0 5)) F1 lo1 = M1 at hC
  have r1 : Rel M1 := by
    rw [← hM1]
    exact Rel_A (Rel_1 r)
  have w1 : wst M1 0 = wst M 0 := by rw [← hM1, wst_mA, wst_mPn (by omega)]
  have g4 : M1 21 0 4 = M 6 0 5 := by
    rw [← hM1, mA_off (by omega), mP_off (by omega)]
    exact Rel_m4 r
  have ef : wrs M1 25 0 = wst M 0 := (Rel_e25 r1).trans w1
  obtain ⟨F2, lo2, hM⟩ := m_most (N := M1) (y := zy) (x2 := a2) (lo := M1 21 0 19) (br := M1 21 0 20) (F := M1 29 0) (as := wrs M1 31 0) (st := wst M 0) (by omega) hw
  rw [form_of ef] at hM
  have r2 := Rel_R (F := F2) (lo := lo2) (br := M1 21 0 20) (as := wrs M1 31 0) r1
  rw [w1] at r2
  refine Ag_i (r := if a2 = 0 then (mW (-1000000) (wst M 0) zy 16).1 else (mW (-1000000) (wst M 0) zy 16).2) (M1 := M1) (M2 := mR M1 (wst M 0) F2 lo2 (M1 21 0 20) (wrs M1 31 0)) ?_ ?_ rfl r2
  · show (if M 6 0 5 = 0 then _ else _) = _
    rw [if_neg h0, c_line, if_neg h1, if_neg h2, p_become (Rel_wz r), Option.bind_some, hC, Option.bind_some]
    by_cases ha : a2 = 0
    · rw [if_pos ha, if_pos ha]
    · rw [if_neg ha, if_neg ha]
  · show (if M1 21 0 4 = 0 then _ else _) = _
    rw [g4, if_neg h0, m_isLine, if_neg h1, m_up_1, if_neg h2, hM, Option.bind_some]
    rcases mW_e (st := wst M 0) (y := zy) hw.2.2.1 16 (by omega) with ⟨i1, i2⟩ | ⟨i1, c, hc, i2⟩
    · rw [i1, i2]
      show (if (0 : Int32) ≤ -1000000 then _ else _) = _
      rw [if_neg (by decide)]
      by_cases ha : a2 = 0
      · rw [if_pos ha]
      · rw [if_neg ha]
    · rw [i1]
      show (if (0 : Int32) ≤ (mW (-1) (wst M 0) zy 16).1 then (if a2 = 0 then some ((mW (-1) (wst M 0) zy 16).1, mR M1 (wst M 0) F2 lo2 (M1 21 0 20) (wrs M1 31 0)) else some ((mW (-1) (wst M 0) zy 16).2, mR M1 (wst M 0) F2 lo2 (M1 21 0 20) (wrs M1 31 0))) else _) = _
      rw [if_pos (by rw [i2]; exact Int32.not_lt.mp (n_n0 (by omega)))]
      by_cases ha : a2 = 0
      · rw [if_pos ha, if_pos ha]
      · rw [if_neg ha, if_neg ha]
