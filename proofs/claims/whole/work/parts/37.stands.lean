/-! What STANDS and what is HIDDEN -/
theorem c_even {a zi : Nat} {M : wc_M} {F : Nat → Int32} {lo : Int32} (hi : zi + 16 ≤ 40) : (∀ c, c < 16 → M 3 a (zi + c) = F c) → f_C_isFeltEverywhere a (nI zi) (mA M F lo) = some 1 := by
  intro h
  unfold f_C_isFeltEverywhere
  have e : l_C_isFeltEverywhere_2 a (nI zi) (mA M F lo) 2000 0 = some (.inr ()) := loop_to (fun zn zx (_ : Unit) => l_C_isFeltEverywhere_2 a (nI zi) (mA M F lo) zn zx) (fun _ => ()) 16 (.inr ()) (by
    intro zn zc hzc
    show l_C_isFeltEverywhere_2 a (nI zi) (mA M F lo) (zn + 1) (nI zc) = _
    rw [l_C_isFeltEverywhere_2, if_neg (by rw [n_le (by decide) (by omega)]; omega), nI_add, if_pos (n_wib (by omega) (by decide)), if_pos (n_wib (by omega) (by decide)), n_ar, n_t (by omega), n_t (by omega), mA_off (by omega), mA_f (by omega), if_pos (h zc hzc)]) (by
    intro zn
    show l_C_isFeltEverywhere_2 a (nI zi) (mA M F lo) (zn + 1) (nI 16) = _
    rw [l_C_isFeltEverywhere_2, if_pos (by decide)]) 2000 (by decide)
  rw [e, Option.bind_some]
  rfl
theorem c_evenN {a zi m : Nat} {M : wc_M} {F : Nat → Int32} {lo : Int32} (hi : zi + 16 ≤ 40) (hm : m < 16) (h1 : ∀ c, c < m → M 3 a (zi + c) = F c) (h2 : ¬ M 3 a (zi + m) = F m) : f_C_isFeltEverywhere a (nI zi) (mA M F lo) = some 0 := by
  unfold f_C_isFeltEverywhere
  have e : l_C_isFeltEverywhere_2 a (nI zi) (mA M F lo) 2000 0 = some (.inl 0) := loop_to (fun zn zx (_ : Unit) => l_C_isFeltEverywhere_2 a (nI zi) (mA M F lo) zn zx) (fun _ => ()) m (.inl 0) (by
    intro zn zc hzc
    show l_C_isFeltEverywhere_2 a (nI zi) (mA M F lo) (zn + 1) (nI zc) = _
    rw [l_C_isFeltEverywhere_2, if_neg (by rw [n_le (by decide) (by omega)]; omega), nI_add, if_pos (n_wib (by omega) (by decide)), if_pos (n_wib (by omega) (by decide)), n_ar, n_t (by omega), n_t (by omega), mA_off (by omega), mA_f (by omega), if_pos (h1 zc hzc)]) (by
    intro zn
    show l_C_isFeltEverywhere_2 a (nI zi) (mA M F lo) (zn + 1) (nI m) = _
    rw [l_C_isFeltEverywhere_2, if_neg (by rw [n_le (by decide) (by omega)]; omega), nI_add, if_pos (n_wib (by omega) (by decide)), if_pos (n_wib (by omega) (by decide)), n_t (by omega), n_t (by omega), mA_off (by omega), mA_f (by omega), if_neg h2]) 2000 (by omega)
  rw [e, Option.bind_some]
  rfl
/-- whether what a row holds from i on is what is felt everywhere -/
def evn (M : wc_M) (a zi : Nat) (st : Nat → Int32) : Prop := ∀ c, c < 16 → M 3 a (zi + c) = bF st c
theorem c_ev {a zi : Nat} {M : wc_M} {st : Nat → Int32} {lo : Int32} (hi : zi + 16 ≤ 40) : (evn M a zi st ∧ f_C_isFeltEverywhere a (nI zi) (mA M (bF st) lo) = some 1) ∨ (¬ evn M a zi st ∧ f_C_isFeltEverywhere a (nI zi) (mA M (bF st) lo) = some 0) := by
  rcases ex_first (fun c => ¬ M 3 a (zi + c) = bF st c) 16 with h | ⟨m, h1, h2, h3⟩
  · have h' : evn M a zi st := fun c hc => Classical.not_not.mp (h c hc)
    exact Or.inl ⟨h', c_even hi h'⟩
  · exact Or.inr ⟨fun h => h2 (h m h1), c_evenN hi h1 (fun c hc => Classical.not_not.mp (h3 c hc)) h2⟩
/-- a flag that falls and stays -/
def sFl (f g : Nat → Int32) : Nat → Int32
  | 0 => 1
  | c + 1 => if sFl f g c = 0 then 0 else if f c = g c then 1 else 0
theorem sFl_s (f g : Nat → Int32) (c : Nat) : sFl f g (c + 1) = if sFl f g c = 0 then 0 else if f c = g c then 1 else 0 := by rw [sFl]
theorem sFl_c (f g : Nat → Int32) : ∀ n, (sFl f g n = 1 ∧ ∀ c, c < n → f c = g c) ∨ (sFl f g n = 0 ∧ ¬ ∀ c, c < n → f c = g c)
  | 0 => Or.inl ⟨by rw [sFl], fun c hc => by omega⟩
  | n + 1 => by
    rw [sFl_s]
    rcases sFl_c f g n with ⟨h1, h2⟩ | ⟨h1, h2⟩
    · rw [if_neg (by rw [h1]; decide)]
      by_cases h : f n = g n
      · rw [if_pos h]
        refine Or.inl ⟨rfl, fun c hc => ?_⟩
        by_cases e : c = n
        · rw [e]; exact h
        · exact h2 c (by omega)
      · rw [if_neg h]
        exact Or.inr ⟨rfl, fun z => h (z n (by omega))⟩
    · rw [if_pos h1]
      exact Or.inr ⟨rfl, fun z => h2 (fun c hc => z c (by omega))⟩
theorem m_ev35 {x4 : Int32} {a zi : Nat} {M : wc_M} (ha : a < 8) (hi : zi + 16 ≤ 40) : l_M_stands_35 (nI a) (nI zi) x4 M 2000 1 0 = some (sFl (fun c => M 24 0 (40 * a + zi + c)) (fun c => M 29 0 c) 16) :=
  loop_to (fun zn zx zs => l_M_stands_35 (nI a) (nI zi) x4 M zn zs zx) (fun zc => sFl (fun c => M 24 0 (40 * a + zi + c)) (fun c => M 29 0 c) zc) 16 _ (by
    intro zn zc hzc
    show l_M_stands_35 (nI a) (nI zi) x4 M (zn + 1) (sFl (fun c => M 24 0 (40 * a + zi + c)) (fun c => M 29 0 c) zc) (nI zc) = l_M_stands_35 (nI a) (nI zi) x4 M zn (sFl (fun c => M 24 0 (40 * a + zi + c)) (fun c => M 29 0 c) (zc + 1)) (nI (zc + 1))
    rw [l_M_stands_35, if_neg (by rw [n_le (by decide) (by omega)]; omega), sFl_s, n_ar]
    by_cases h0 : sFl (fun c => M 24 0 (40 * a + zi + c)) (fun c => M 29 0 c) zc = 0
    · rw [if_pos h0, if_pos h0]
    · rw [if_neg h0, if_neg h0, n_ml, nI_add, nI_add, if_pos (n_wib (by omega) (by decide)), if_pos (n_wib (by omega) (by decide)), n_t (by omega), n_t (by omega)]
      by_cases h1 : M 24 0 (40 * a + zi + zc) = M 29 0 zc
      · rw [if_pos h1, if_pos h1]
      · rw [if_neg h1, if_neg h1]) (by
    intro zn
    show l_M_stands_35 (nI a) (nI zi) x4 M (zn + 1) (sFl (fun c => M 24 0 (40 * a + zi + c)) (fun c => M 29 0 c) 16) (nI 16) = _
    rw [l_M_stands_35, if_pos (by decide)]) 2000 (by decide)
theorem m_ev {x4 : Int32} {a zi : Nat} {M N : wc_M} {st F as : Nat → Int32} {lo br : Int32} (ha : a < 8) (hi : zi + 16 ≤ 40) (hr : ∀ j, j < 40 → N 3 a j = M 24 0 (40 * a + j)) (hF : F = bF st) (S : Nat → Int32) : (evn N a zi st ∧ l_M_stands_35 (nI a) (nI zi) x4 (mR M S F lo br as) 2000 1 0 = some 1) ∨ (¬ evn N a zi st ∧ l_M_stands_35 (nI a) (nI zi) x4 (mR M S F lo br as) 2000 1 0 = some 0) := by
  rw [m_ev35 ha hi]
  have e1 : ∀ c, c < 16 → mR M S F lo br as 24 0 (40 * a + zi + c) = N 3 a (zi + c) := by
    intro c hc
    rw [mR_off (by omega), hr _ (by omega), show 40 * a + zi + c = 40 * a + (zi + c) by omega]
  have e2 : ∀ c, c < 16 → mR M S F lo br as 29 0 c = bF st c := by
    intro c hc
    rw [mR_f (by omega), hF]
  rcases sFl_c (fun c => mR M S F lo br as 24 0 (40 * a + zi + c)) (fun c => mR M S F lo br as 29 0 c) 16 with ⟨h1, h2⟩ | ⟨h1, h2⟩
  · refine Or.inl ⟨fun c hc => ?_, by rw [h1]⟩
    have := h2 c hc
    rw [← e1 c hc, ← e2 c hc]
    exact this
  · refine Or.inr ⟨fun z => h2 (fun c hc => ?_), by rw [h1]⟩
    show mR M S F lo br as 24 0 (40 * a + zi + c) = mR M S F lo br as 29 0 c
    rw [e1 c hc, e2 c hc]
    exact z c hc
theorem q_stands (a1 a2 : Int32) {M : wc_M} (r : Rel M) : Ag (f_C_stands a1 a2) (f_M_stands a1 a2) M := by
  unfold f_C_stands f_M_stands
  by_cases h0 : M 6 0 5 = 0
  · exact Ag_i (if_pos h0) (if_pos (by rw [Rel_m4 r]; exact h0)) rfl r
  by_cases h1 : f_C_isUpTo a1 7 = 0
  · exact Ag_i (M1 := M) (M2 := M) (by rw [if_neg h0, if_pos h1]) (by rw [Rel_m4 r, if_neg h0, m_isRow, if_pos h1]) rfl r
  obtain ⟨za, hza, rfl⟩ := c_upK (by decide) h1
  have hw := Rel_w r
  have hs := sW_ok hw
  have hk := sW_kd hw
  rcases fi (M := M) (a := za) (K := 16) (i := a2) (kI := 16) rfl (by omega) (by omega) r.2.2.1 (by omega) with ⟨e1, e2, e3⟩ | ⟨n, hn, e1, ⟨e2, e3⟩ | ⟨zi, rfl, hzi, e2, e3, e4⟩⟩
  · refine Ag_i (r := -1000010 - 1) (M1 := wc_up M 0 0 9 1) (M2 := wc_up (wc_up M 0 0 9 1) 21 0 3 1) ?_ ?_ rfl (Rel_find r)
    · show (if M 6 0 5 = 0 then _ else _) = _
      rw [if_neg h0, if_neg h1, e3, Option.bind_some, if_neg (by decide)]
      rfl
    · show (if M 21 0 4 = 0 then _ else _) = _
      rw [Rel_m4 r, if_neg h0, m_isRow, if_neg h1, g_lacks (by omega), show wc_up M 0 0 9 1 23 0 za = -1 from e2, if_neg (by decide), Option.bind_some, if_neg (show ¬ (0 : Int32) ≤ -1000010 - 1 by decide)]
  · refine Ag_i (r := -1000010 - 2) (M1 := wc_up M 0 0 9 2) (M2 := wc_up (wc_up M 0 0 9 2) 21 0 3 2) ?_ ?_ rfl (Rel_find r)
    · show (if M 6 0 5 = 0 then _ else _) = _
      rw [if_neg h0, if_neg h1, e2, Option.bind_some, if_neg (by decide)]
      rfl
    · show (if M 21 0 4 = 0 then _ else _) = _
      rw [Rel_m4 r, if_neg h0, m_isRow, if_neg h1, g_lacks (by omega), show wc_up M 0 0 9 2 23 0 za = nI n from e1, if_pos (Int32.not_lt.mp (n_n0 (by omega))), e3, if_pos rfl, Option.bind_some, if_neg (show ¬ (0 : Int32) ≤ -1000010 - 2 by decide)]
  have e := mA_id (mP M 1 (wst M 0) (M 6 0 5))
  have fin : ∀ (zm : Nat) (M1 M2 : wc_M), zm ≤ 40 → Rel M1 → wst M1 0 = wst M 0 → M1 21 0 4 = M 6 0 5 → (∀ k i s, k < 6 → M1 k i s = M k i s) → (∀ k i s, 21 < k → M1 k i s = M k i s) → (Option.bind (l_C_stands_31 (nI za) (nI zi) 2000 (0 : Int32) (mP M 1 (wst M 0) (M 6 0 5))) fun o18 => wel (fun r19 => some r19) (fun t14 => (Option.bind (f_C_withoutFinding (40 : Int32) t14) fun q17 => some (q17.1, q17.2))) o18) = some (nI zm, wc_up M1 0 0 9 0) → (∀ (F1 as1 : Nat → Int32) (lo1 br1 : Int32), ∃ F2 lo2 br2, l_M_stands_26 (nI za) (nI zi) 2000 0 1 (mR (wc_up M1 0 0 9 0) (wst M 0) F1 lo1 br1 (wst M 0)) = some (nI zm, M2) ∧ f_M_takeBack M2 = some (mR (wc_up M1 0 0 9 0) (wst M 0) F2 lo2 br2 (wst M 0))) → Ag (fun zM => if zM 6 0 5 = 0 then some (-1000002, zM) else if f_C_isUpTo (nI za) 7 = 0 then some (-1000001, zM) else (Option.bind (f_C_findingIn (nI za) (nI zi) (16 : Int32) zM) fun v2 => (if v2 = (0 : Int32) then (Option.bind (f_P_become 1 0 zM) fun m4 => (Option.bind (l_C_stands_31 (nI za) (nI zi) 2000 (0 : Int32) m4) fun o18 => wel (fun r19 => some r19) (fun t14 => (Option.bind (f_C_withoutFinding (40 : Int32) t14) fun q17 => some (q17.1, q17.2))) o18)) else (Option.bind (f_C_found v2 zM) fun q21 => some (q21.1, q21.2))))) (fun zM => (if (zM 21 0 4) = (0 : Int32) then some ((-1000002 : Int32), zM) else (if (f_M_isRow (nI za)) = (0 : Int32) then some ((-1000001 : Int32), zM) else (Option.bind (f_M_lacks (nI za) (nI zi) (16 : Int32) zM) fun q2 => (if (0 : Int32) ≤ q2.1 then (Option.bind (f_M_putAside q2.2) fun m4 => (Option.bind (l_M_stands_26 (nI za) (nI zi) 2000 (0 : Int32) (1 : Int32) m4) fun t13 => (Option.bind (f_M_takeBack t13.2) fun m16 => (Option.bind (f_M_well t13.1 m16) fun q18 => some (q18.1, q18.2))))) else some (q2.1, q2.2)))))) M := by
    intro zm M1 M2 hzm r1 w1 g4 g5 g6 hC hM
    have ef : wrs (wc_up M1 0 0 9 0) 25 0 = wst M 0 := by
      rw [← w1]
      exact (wrs_fr (M := M1) (fun zs => rfl)).trans (Rel_e25 r1)
    obtain ⟨F2, lo2, br2, hM1, hM2⟩ := hM ((wc_up M1 0 0 9 0) 29 0) (wrs (wc_up M1 0 0 9 0) 31 0) ((wc_up M1 0 0 9 0) 21 0 19) ((wc_up M1 0 0 9 0) 21 0 20)
    have hA := r_aside (M := wc_up M1 0 0 9 0) (st := wst M 0) (F := (wc_up M1 0 0 9 0) 29 0) (as := wrs (wc_up M1 0 0 9 0) 31 0) (lo := (wc_up M1 0 0 9 0) 21 0 19) (br := (wc_up M1 0 0 9 0) 21 0 20) hs (wrs_ok _ _ _)
    rw [form_of ef] at hA
    refine Ag_i (r := nI zm) (M1 := wc_up M1 0 0 9 0) (M2 := wc_up (mR (wc_up M1 0 0 9 0) (wst M 0) F2 lo2 br2 (wst M 0)) 21 0 3 0) ?_ ?_ rfl ?_
    · show (if M 6 0 5 = 0 then _ else _) = _
      rw [if_neg h0, if_neg h1, e2, Option.bind_some, if_pos rfl, p_become (Rel_wz r), Option.bind_some, hC]
    · show (if wc_up M1 0 0 9 0 21 0 4 = 0 then _ else _) = _
      rw [show wc_up M1 0 0 9 0 21 0 4 = M 6 0 5 from g4, if_neg h0, m_isRow, if_neg h1, g_lacks (by omega), show wc_up M1 0 0 9 0 23 0 za = nI n from (g6 23 0 za (by omega)).trans e1, if_pos (Int32.not_lt.mp (n_n0 (by omega))), e3, if_neg (by decide), Option.bind_some]
      show (if (0 : Int32) ≤ 0 then (Option.bind (f_M_putAside (wc_up M1 0 0 9 0)) _) else _) = _
      rw [if_pos (by decide), hA, Option.bind_some, hM1, Option.bind_some]
      show (Option.bind (f_M_takeBack M2) _) = _
      rw [hM2, Option.bind_some]
      rfl
    · have h2 := Rel_R (F := F2) (lo := lo2) (br := br2) (as := wst M 0) r1
      rw [w1] at h2
      refine Rel_fd ?_ h2 ?_
      · intro zk zi2 zs hz
        unfold Irr at hz
        unfold wc_up
        rw [if_neg (by omega)]
        unfold mR
        by_cases q1 : zk = 25 ∧ zi2 = 0 ∧ zs < 57
        · rw [if_pos q1, if_pos q1]
        · rw [if_neg q1, if_neg q1]
          rw [if_neg (by omega), if_neg (by omega), if_neg (by omega), if_neg (by omega), if_neg (by omega), if_neg (by omega), if_neg (by omega), if_neg (by omega)]
          show (if zk = 0 ∧ zi2 = 0 ∧ zs = 9 then 0 else M1 zk zi2 zs) = _
          rw [if_neg (by omega)]
      · unfold RelF
        show (if 21 = 21 ∧ 0 = 0 ∧ 3 = 3 then (0 : Int32) else _) = wc_up (mR (wc_up M1 0 0 9 0) (wst M 0) F2 lo2 br2 (wst M 0)) 21 0 3 0 0 0 9
        rw [if_pos ⟨rfl, rfl, rfl⟩]
        unfold wc_up
        rw [if_neg (by omega), mR_off (by omega), if_pos ⟨rfl, rfl, rfl⟩]
  have hr : ∀ (M1 : wc_M), (∀ k i s, 21 < k → M1 k i s = M k i s) → ∀ j, j < 40 → M 3 za j = wc_up M1 0 0 9 0 24 0 (40 * za + j) := by
    intro M1 g6 j hj
    rw [e4 j hj]
    unfold wc_up
    rw [if_neg (by omega), g6 _ _ _ (by omega)]
  have hCs : ∀ (zc zn : Nat) (th lo : Int32) (F : Nat → Int32), zc < 40 → l_C_stands_31 (nI za) (nI zi) (zn + 1) (nI zc) (mA (mP M 1 (pHn (wst M 0) zc) th) F lo) = Option.bind (f_C_isFeltEverywhere za (nI zi) (mA (mP M 1 (pHn (wst M 0) zc) th) (bF (pHn (wst M 0) zc)) (bL (pHn (wst M 0) zc)))) fun v9 => (if v9 = (0 : Int32) then (Option.bind (f_C_withoutFinding (nI zc) (mA (mP M 1 (pHn (wst M 0) zc) th) (bF (pHn (wst M 0) zc)) (bL (pHn (wst M 0) zc)))) fun q11 => some (.inl (q11.1, q11.2))) else l_C_stands_31 (nI za) (nI zi) zn (nI (zc + 1)) (mA (mP M 1 (pHn (wst M 0) (zc + 1)) th) (bF (pHn (wst M 0) zc)) (bL (pHn (wst M 0) zc)))) := by
    intro zc zn th lo F hzc
    rw [l_C_stands_31, if_neg (by rw [n_le (by decide) (by omega)]; omega), a_blowA (pHn_ok hs zc), Option.bind_some, if_pos (n_wib (by omega) (by decide)), n_t (by omega), c_spendA (pHn_ok hs zc), Option.bind_some, n_ar, ← pHn_s]
  have hMs : ∀ (N : wc_M) (zc zn : Nat) (lo br : Int32) (F as : Nat → Int32), zc < 40 → l_M_stands_26 (nI za) (nI zi) (zn + 1) (nI zc) 1 (mR N (pHn (wst M 0) zc) F lo br as) = (Option.bind (l_M_stands_35 (nI za) (nI zi) (nI zc) (mR N (pHn (wst M 0) zc) (bF (pHn (wst M 0) zc)) (bL (pHn (wst M 0) zc)) br as) 2000 1 (0 : Int32)) fun t7 => (Option.bind (if t7 = (0 : Int32) then some (0 : Int32) else some (1 : Int32)) fun t9 => l_M_stands_26 (nI za) (nI zi) zn (nI zc + t9) t7 (mR N (pHn (wst M 0) (zc + 1)) (bF (pHn (wst M 0) zc)) (bL (pHn (wst M 0) zc)) (bB (pHn (wst M 0) zc)) as))) := by
    intro N zc zn lo br F as hzc
    rw [l_M_stands_26, if_neg (by decide), if_neg (by rw [n_le (by decide) (by omega)]; omega), r_blow (pHn_kd hk zc), Option.bind_some, r_oneHour (pHn_kd hk zc), pHn_s]
    rfl
  rcases ex_first (fun j => ¬ evn M za zi (pHn (wst M 0) j)) 40 with hn' | ⟨m, hm, hf, hn'⟩
  · have hn'' : ∀ j, j < 40 → evn M za zi (pHn (wst M 0) j) := fun j hj => Classical.not_not.mp (hn' j hj)
    have hC := loop_to (fun zn zx zM => l_C_stands_31 (nI za) (nI zi) zn zx zM) (fun zc => mA (mP M 1 (pHn (wst M 0) zc) (M 6 0 5)) (fLast (wst M 0) (Fo (mP M 1 (wst M 0) (M 6 0 5))) zc) (lLast (wst M 0) (mP M 1 (wst M 0) (M 6 0 5) 12 0 2) zc)) 40 (.inr (mA (mP M 1 (pHn (wst M 0) 40) (M 6 0 5)) (fLast (wst M 0) (Fo (mP M 1 (wst M 0) (M 6 0 5))) 40) (lLast (wst M 0) (mP M 1 (wst M 0) (M 6 0 5) 12 0 2) 40))) (by
      intro zn zc hzc
      show l_C_stands_31 (nI za) (nI zi) (zn + 1) (nI zc) _ = l_C_stands_31 (nI za) (nI zi) zn (nI (zc + 1)) (mA (mP M 1 (pHn (wst M 0) (zc + 1)) (M 6 0 5)) (fLast (wst M 0) (Fo (mP M 1 (wst M 0) (M 6 0 5))) (zc + 1)) (lLast (wst M 0) (mP M 1 (wst M 0) (M 6 0 5) 12 0 2) (zc + 1)))
      rw [hCs zc zn _ _ _ hzc, fLast_s, lLast_s]
      rcases c_ev (a := za) (zi := zi) (M := mP M 1 (pHn (wst M 0) zc) (M 6 0 5)) (st := pHn (wst M 0) zc) (lo := bL (pHn (wst M 0) zc)) (by omega) with ⟨_, q⟩ | ⟨q, _⟩
      · rw [q, Option.bind_some, if_neg (by decide)]
      · exact absurd (fun c hc => by rw [mP_off (by omega)]; exact hn'' zc hzc c hc) q) (by
      intro zn
      show l_C_stands_31 (nI za) (nI zi) (zn + 1) (nI 40) _ = _
      rw [l_C_stands_31, if_pos (by decide)]) 2000 (by decide)
    have hC : l_C_stands_31 (nI za) (nI zi) 2000 0 (mA (mP M 1 (pHn (wst M 0) 0) (M 6 0 5)) (fLast (wst M 0) (Fo (mP M 1 (wst M 0) (M 6 0 5))) 0) (lLast (wst M 0) (mP M 1 (wst M 0) (M 6 0 5) 12 0 2) 0)) = _ := hC
    rw [pHn_0, fLast_0, lLast_0, e] at hC
    generalize hM1 : mA (mP M 1 (pHn (wst M 0) 40) (M 6 0 5)) (fLast (wst M 0) (Fo (mP M 1 (wst M 0) (M 6 0 5))) 40) (lLast (wst M 0) (mP M 1 (wst M 0) (M 6 0 5) 12 0 2) 40) = M1 at hC
    have g6 : ∀ k i s, 21 < k → M1 k i s = M k i s := fun k i s h => by rw [← hM1, mA_off (by omega), mP_off (by omega)]
    refine fin 40 M1 (mR (wc_up M1 0 0 9 0) (pHn (wst M 0) 40) (bF (pHn (wst M 0) 39)) (bL (pHn (wst M 0) 39)) (bB (pHn (wst M 0) 39)) (wst M 0)) (by omega) ?_ ?_ ?_ ?_ g6 ?_ ?_
    · rw [← hM1]
      exact Rel_A (Rel_1 r)
    · rw [← hM1, wst_mA, wst_mPn (by omega)]
    · rw [← hM1, mA_off (by omega), mP_off (by omega)]
      exact Rel_m4 r
    · intro k i s h
      rw [← hM1, mA_off (by omega), mP_off (by omega)]
    · rw [hC, Option.bind_some]
      rfl
    · intro F1 as1 lo1 br1
      have hM := loop_to (fun zn zx (zM : Int32 × wc_M) => l_M_stands_26 (nI za) (nI zi) zn zx zM.1 zM.2) (fun zc => ((1 : Int32), mR (wc_up M1 0 0 9 0) (pHn (wst M 0) zc) (fLast (wst M 0) F1 zc) (lLast (wst M 0) lo1 zc) (bLast (wst M 0) br1 zc) (wst M 0))) 40 (nI 40, mR (wc_up M1 0 0 9 0) (pHn (wst M 0) 40) (bF (pHn (wst M 0) 39)) (bL (pHn (wst M 0) 39)) (bB (pHn (wst M 0) 39)) (wst M 0)) (by
        intro zn zc hzc
        show l_M_stands_26 (nI za) (nI zi) (zn + 1) (nI zc) 1 _ = l_M_stands_26 (nI za) (nI zi) zn (nI (zc + 1)) 1 (mR (wc_up M1 0 0 9 0) (pHn (wst M 0) (zc + 1)) (fLast (wst M 0) F1 (zc + 1)) (lLast (wst M 0) lo1 (zc + 1)) (bLast (wst M 0) br1 (zc + 1)) (wst M 0))
        rw [hMs _ zc zn _ _ _ _ hzc, fLast_s, lLast_s, bLast_s]
        rcases m_ev (x4 := nI zc) (M := wc_up M1 0 0 9 0) (N := M) (st := pHn (wst M 0) zc) (F := bF (pHn (wst M 0) zc)) (as := wst M 0) (lo := bL (pHn (wst M 0) zc)) (br := bLast (wst M 0) br1 zc) (show za < 8 by omega) (show zi + 16 ≤ 40 by omega) (hr M1 g6) rfl (pHn (wst M 0) zc) with ⟨_, q⟩ | ⟨q, _⟩
        · rw [q, Option.bind_some, if_neg (by decide), Option.bind_some, n_ar]
        · exact absurd (hn'' zc hzc) q) (by
        intro zn
        show l_M_stands_26 (nI za) (nI zi) (zn + 1) (nI 40) 1 _ = _
        rw [l_M_stands_26, if_neg (by decide), if_pos (by decide), fLast_s, lLast_s, bLast_s]) 2000 (by decide)
      have hM : l_M_stands_26 (nI za) (nI zi) 2000 0 1 (mR (wc_up M1 0 0 9 0) (pHn (wst M 0) 0) (fLast (wst M 0) F1 0) (lLast (wst M 0) lo1 0) (bLast (wst M 0) br1 0) (wst M 0)) = _ := hM
      rw [pHn_0, fLast_0, lLast_0, bLast_0] at hM
      exact ⟨_, _, _, hM, r_back (pHn_ok hs 40) hs⟩
  · have hn'' : ∀ j, j < m → evn M za zi (pHn (wst M 0) j) := fun j hj => Classical.not_not.mp (hn' j hj)
    generalize hM1 : mA (mP M 1 (pHn (wst M 0) m) (M 6 0 5)) (bF (pHn (wst M 0) m)) (bL (pHn (wst M 0) m)) = M1
    have hC := loop_to (fun zn zx zM => l_C_stands_31 (nI za) (nI zi) zn zx zM) (fun zc => mA (mP M 1 (pHn (wst M 0) zc) (M 6 0 5)) (fLast (wst M 0) (Fo (mP M 1 (wst M 0) (M 6 0 5))) zc) (lLast (wst M 0) (mP M 1 (wst M 0) (M 6 0 5) 12 0 2) zc)) m (.inl (nI m, wc_up M1 0 0 9 0)) (by
      intro zn zc hzc
      show l_C_stands_31 (nI za) (nI zi) (zn + 1) (nI zc) _ = l_C_stands_31 (nI za) (nI zi) zn (nI (zc + 1)) (mA (mP M 1 (pHn (wst M 0) (zc + 1)) (M 6 0 5)) (fLast (wst M 0) (Fo (mP M 1 (wst M 0) (M 6 0 5))) (zc + 1)) (lLast (wst M 0) (mP M 1 (wst M 0) (M 6 0 5) 12 0 2) (zc + 1)))
      rw [hCs zc zn _ _ _ (by omega), fLast_s, lLast_s]
      rcases c_ev (a := za) (zi := zi) (M := mP M 1 (pHn (wst M 0) zc) (M 6 0 5)) (st := pHn (wst M 0) zc) (lo := bL (pHn (wst M 0) zc)) (by omega) with ⟨_, q⟩ | ⟨q, _⟩
      · rw [q, Option.bind_some, if_neg (by decide)]
      · exact absurd (fun c hc => by rw [mP_off (by omega)]; exact hn'' zc hzc c hc) q) (by
      intro zn
      show l_C_stands_31 (nI za) (nI zi) (zn + 1) (nI m) _ = _
      rw [hCs m zn _ _ _ hm]
      rcases c_ev (a := za) (zi := zi) (M := mP M 1 (pHn (wst M 0) m) (M 6 0 5)) (st := pHn (wst M 0) m) (lo := bL (pHn (wst M 0) m)) (by omega) with ⟨q, _⟩ | ⟨_, q⟩
      · exact absurd (fun c hc => by have := q c hc; rw [mP_off (by omega)] at this; exact this) hf
      · rw [q, Option.bind_some, if_pos rfl, hM1]
        rfl) 2000 (by omega)
    have hC : l_C_stands_31 (nI za) (nI zi) 2000 0 (mA (mP M 1 (pHn (wst M 0) 0) (M 6 0 5)) (fLast (wst M 0) (Fo (mP M 1 (wst M 0) (M 6 0 5))) 0) (lLast (wst M 0) (mP M 1 (wst M 0) (M 6 0 5) 12 0 2) 0)) = _ := hC
    rw [pHn_0, fLast_0, lLast_0, e] at hC
    have g6 : ∀ k i s, 21 < k → M1 k i s = M k i s := fun k i s h => by rw [← hM1, mA_off (by omega), mP_off (by omega)]
    refine fin m M1 (mR (wc_up M1 0 0 9 0) (pHn (wst M 0) (m + 1)) (bF (pHn (wst M 0) m)) (bL (pHn (wst M 0) m)) (bB (pHn (wst M 0) m)) (wst M 0)) (by omega) ?_ ?_ ?_ ?_ g6 ?_ ?_
    · rw [← hM1]
      exact Rel_A (Rel_1 r)
    · rw [← hM1, wst_mA, wst_mPn (by omega)]
    · rw [← hM1, mA_off (by omega), mP_off (by omega)]
      exact Rel_m4 r
    · intro k i s h
      rw [← hM1, mA_off (by omega), mP_off (by omega)]
    · rw [hC, Option.bind_some]
      rfl
    · intro F1 as1 lo1 br1
      have hM := loop_to (fun zn zx (zM : Int32 × wc_M) => l_M_stands_26 (nI za) (nI zi) (zn + 1) zx zM.1 zM.2) (fun zc => ((1 : Int32), mR (wc_up M1 0 0 9 0) (pHn (wst M 0) zc) (fLast (wst M 0) F1 zc) (lLast (wst M 0) lo1 zc) (bLast (wst M 0) br1 zc) (wst M 0))) m (nI m, mR (wc_up M1 0 0 9 0) (pHn (wst M 0) (m + 1)) (bF (pHn (wst M 0) m)) (bL (pHn (wst M 0) m)) (bB (pHn (wst M 0) m)) (wst M 0)) (by
        intro zn zc hzc
        show l_M_stands_26 (nI za) (nI zi) (zn + 1 + 1) (nI zc) 1 _ = l_M_stands_26 (nI za) (nI zi) (zn + 1) (nI (zc + 1)) 1 (mR (wc_up M1 0 0 9 0) (pHn (wst M 0) (zc + 1)) (fLast (wst M 0) F1 (zc + 1)) (lLast (wst M 0) lo1 (zc + 1)) (bLast (wst M 0) br1 (zc + 1)) (wst M 0))
        rw [hMs _ zc (zn + 1) _ _ _ _ (by omega), fLast_s, lLast_s, bLast_s]
        rcases m_ev (x4 := nI zc) (M := wc_up M1 0 0 9 0) (N := M) (st := pHn (wst M 0) zc) (F := bF (pHn (wst M 0) zc)) (as := wst M 0) (lo := bL (pHn (wst M 0) zc)) (br := bLast (wst M 0) br1 zc) (show za < 8 by omega) (show zi + 16 ≤ 40 by omega) (hr M1 g6) rfl (pHn (wst M 0) zc) with ⟨_, q⟩ | ⟨q, _⟩
        · rw [q, Option.bind_some, if_neg (by decide), Option.bind_some, n_ar]
        · exact absurd (hn'' zc hzc) q) (by
        intro zn
        show l_M_stands_26 (nI za) (nI zi) (zn + 1 + 1) (nI m) 1 _ = _
        rw [hMs _ m (zn + 1) _ _ _ _ hm]
        rcases m_ev (x4 := nI m) (M := wc_up M1 0 0 9 0) (N := M) (st := pHn (wst M 0) m) (F := bF (pHn (wst M 0) m)) (as := wst M 0) (lo := bL (pHn (wst M 0) m)) (br := bLast (wst M 0) br1 m) (show za < 8 by omega) (show zi + 16 ≤ 40 by omega) (hr M1 g6) rfl (pHn (wst M 0) m) with ⟨q, _⟩ | ⟨_, q⟩
        · exact absurd q hf
        · rw [q, Option.bind_some, if_pos rfl, Option.bind_some, l_M_stands_26, if_pos rfl, n_ar]
          rfl) 1999 (by omega)
      have hM : l_M_stands_26 (nI za) (nI zi) 2000 0 1 (mR (wc_up M1 0 0 9 0) (pHn (wst M 0) 0) (fLast (wst M 0) F1 0) (lLast (wst M 0) lo1 0) (bLast (wst M 0) br1 0) (wst M 0)) = _ := hM
      rw [pHn_0, fLast_0, lLast_0, bLast_0] at hM
      exact ⟨_, _, _, hM, r_back (pHn_ok hs (m + 1)) hs⟩
