/-! AN HOUR of the class's pass -/
def brk (F st : Nat → Int32) (c : Nat) : Prop := ¬ st (9 + c) = 0 ∧ ¬ F c ≤ st (25 + c)
def sBrk (F st : Nat → Int32) (n : Nat) : Nat → Int32 := fun j => if 9 ≤ j ∧ j < 57 ∧ (j - 9) % 16 < n ∧ (¬ st (9 + (j - 9) % 16) = 0 ∧ ¬ F ((j - 9) % 16) ≤ st (25 + (j - 9) % 16)) then 0 else st j
def sRis (st : Nat → Int32) (n : Nat) : Nat → Int32 := fun j => if j = 0 then st 0 + 1 else if j < 1 + n then wc_rem (st j + st (j + 4)) 32 else st j
noncomputable def pH (st : Nat → Int32) : Nat → Int32 := sRis (sBrk (bF st) st 16) 4
theorem sBrk_ok {F st : Nat → Int32} {n : Nat} (h : sOk st) : sOk (sBrk F st n) := by
  intro j hj
  unfold sBrk
  rw [if_neg (by omega)]
  exact h j hj
theorem sRis_ok {st : Nat → Int32} {n : Nat} (hn : n ≤ 4) (h : sOk st) : sOk (sRis st n) := by
  intro j hj
  unfold sRis
  rw [if_neg (by omega), if_neg (by omega)]
  exact h j hj
theorem pH_ok {st : Nat → Int32} (h : sOk st) : sOk (pH st) := sRis_ok (by omega) (sBrk_ok h)
theorem sBrk_0 {F st : Nat → Int32} : sBrk F st 0 = st := by
  funext j
  unfold sBrk
  rw [if_neg (by omega)]
theorem sBrk_at {F st : Nat → Int32} {n c : Nat} (hc : c < 16) (hn : n ≤ c) : sBrk F st n (9 + c) = st (9 + c) ∧ sBrk F st n (25 + c) = st (25 + c) ∧ sBrk F st n (41 + c) = st (41 + c) := by
  unfold sBrk
  refine ⟨?_, ?_, ?_⟩
  · rw [if_neg (by omega)]
  · rw [if_neg (by omega)]
  · rw [if_neg (by omega)]
theorem sBrk_n {F st : Nat → Int32} {c : Nat} (h : st (9 + c) = 0 ∨ F c ≤ st (25 + c)) : sBrk F st (c + 1) = sBrk F st c := by
  funext j
  unfold sBrk
  by_cases hj : (j - 9) % 16 = c
  · rw [if_neg (by
      rintro ⟨_, _, _, ha, hb⟩
      rw [hj] at ha hb
      rcases h with h | h
      · exact ha h
      · exact hb h), if_neg (by omega)]
  · by_cases hlt : (j - 9) % 16 < c
    · have h2 : (j - 9) % 16 < c + 1 := by omega
      simp only [hlt, h2]
    · have h2 : ¬ (j - 9) % 16 < c + 1 := by omega
      simp only [hlt, h2]
theorem sBrk_y {F st : Nat → Int32} {c : Nat} (hc : c < 16) (h : ¬ st (9 + c) = 0) (h2 : ¬ F c ≤ st (25 + c)) : sPut (sBrk F st c) c 0 0 = sBrk F st (c + 1) := by
  funext j
  unfold sPut sBrk
  by_cases hj : (j - 9) % 16 = c ∧ 9 ≤ j ∧ j < 57
  · rw [if_pos (c := 9 ≤ j ∧ j < 57 ∧ (j - 9) % 16 < c + 1 ∧ _) (by rw [hj.1]; exact ⟨hj.2.1, hj.2.2, by omega, h, h2⟩)]
    have h3 : j = 9 + c ∨ j = 25 + c ∨ j = 41 + c := by omega
    rcases h3 with h3 | h3 | h3
    · rw [if_pos h3]
    · rw [if_neg (by omega), if_pos h3]
    · rw [if_neg (by omega), if_neg (by omega), if_pos h3]
  · rw [if_neg (by omega), if_neg (by omega), if_neg (by omega)]
    by_cases hlt : (j - 9) % 16 < c
    · have h3 : (j - 9) % 16 < c + 1 := by omega
      simp only [hlt, h3]
    · by_cases h3 : (j - 9) % 16 < c + 1
      · rw [if_neg (by omega), if_neg (by omega)]
      · simp only [hlt, h3]
theorem p_tooMuch {p c : Nat} {v : Int32} {M : wc_M} (hc : c < 16) : f_P_isTooMuch p (nI c) v M = some (if wst M p (9 + c) = 0 then 0 else if v ≤ wst M p (25 + c) then 0 else 1) := by
  unfold f_P_isTooMuch
  rw [p_has hc]
  simp only [Option.bind_some]
  by_cases h0 : wst M p (9 + c) = 0
  · rw [if_pos h0, if_pos rfl, if_pos h0]
  · rw [if_neg h0, if_neg (by decide), if_neg h0, if_pos (n_wib hc (by decide)), n_t (by omega), wst_o hc]
    split <;> rfl
theorem p_br2 {p : Nat} {M : wc_M} {F : Nat → Int32} {lo : Int32} : l_P_breakAndRise_2 p 2000 0 (mA M F lo) = some (mA (mP M p (sBrk F (wst M p) 16) (M 6 p 5)) F lo) := by
  have h : l_P_breakAndRise_2 p 2000 0 (mA (mP M p (sBrk F (wst M p) 0) (M 6 p 5)) F lo) = some (mA (mP M p (sBrk F (wst M p) 16) (M 6 p 5)) F lo) := loop_to (fun zn zx zM => l_P_breakAndRise_2 p zn zx zM) (fun zc => mA (mP M p (sBrk F (wst M p) zc) (M 6 p 5)) F lo) 16 _ (by
    intro zn zc hzc
    show l_P_breakAndRise_2 p (zn + 1) (nI zc) _ = _
    rw [l_P_breakAndRise_2]
    rw [if_neg (by rw [n_le (by decide) (by omega)]; omega), if_pos (n_wib hzc (by decide)), p_tooMuch hzc, n_t (by omega), mA_f hzc]
    simp only [Option.bind_some]
    rw [wst_mA, wst_mP (sBrk_ok (wst_ok M p)), (sBrk_at hzc (Nat.le_refl _)).1, (sBrk_at hzc (Nat.le_refl _)).2.1, n_ar]
    by_cases h1 : wst M p (9 + zc) = 0
    · rw [if_pos h1, if_pos rfl, sBrk_n (Or.inl h1)]
    · by_cases h2 : F zc ≤ wst M p (25 + zc)
      · rw [if_neg h1, if_pos h2, if_pos rfl, sBrk_n (Or.inr h2)]
      · rw [if_neg h1, if_neg h2, if_neg (by decide), p_clear hzc]
        simp only [Option.bind_some]
        rw [wst_mA, wst_mP (sBrk_ok (wst_ok M p)), mP_mA, mP_mP, sBrk_y hzc h1 h2, mA_off (by omega), mP_th]) (by
    intro zn
    show l_P_breakAndRise_2 p (zn + 1) (nI 16) _ = _
    rw [l_P_breakAndRise_2, if_pos (by decide)]) 2000 (by decide)
  rw [sBrk_0, mP_id] at h
  exact h
theorem sRis_s {st : Nat → Int32} {c : Nat} (hc : c < 4) : (fun j => if j = 1 + c then wc_rem (sRis st c (1 + c) + sRis st c (5 + c)) 32 else sRis st c j) = sRis st (c + 1) := by
  funext j
  unfold sRis
  by_cases hj : j = 1 + c
  · subst hj
    rw [if_pos rfl, if_neg (by omega), if_neg (by omega), if_neg (by omega), if_neg (by omega), if_neg (by omega), if_pos (by omega), show 1 + c + 4 = 5 + c by omega]
  · rw [if_neg hj]
    by_cases h0 : j = 0
    · rw [if_pos h0, if_pos h0]
    · rw [if_neg h0, if_neg h0]
      by_cases h1 : j < 1 + c
      · rw [if_pos h1, if_pos (by omega)]
      · rw [if_neg h1, if_neg (by omega)]
theorem up_g {M : wc_M} {p c : Nat} {v : Int32} (hc : c < 4) : wc_up M 7 p c v = mP M p (fun j => if j = 1 + c then v else wst M p j) (M 6 p 5) := by
  have e := mP_id M p
  funext zk zi zs
  have e2 := congrFun (congrFun (congrFun e zk) zi) zs
  unfold wc_up
  by_cases hi : zk = 7 ∧ zi = p ∧ zs = c
  · obtain ⟨rfl, rfl, rfl⟩ := hi
    unfold mP
    simp [hc]
  · rw [if_neg hi, ← e2]
    unfold mP
    grind
theorem mP_g {M : wc_M} {p y : Nat} {st : Nat → Int32} {th : Int32} (hy : y < 4) : mP M p st th 7 p y = st (1 + y) := by
  unfold mP
  simp [hy]
theorem mP_r {M : wc_M} {p y : Nat} {st : Nat → Int32} {th : Int32} (hy : y < 4) : mP M p st th 8 p y = st (5 + y) := by
  unfold mP
  simp [hy]
theorem up_h {M : wc_M} {p : Nat} {v : Int32} : wc_up M 6 p 6 v = mP M p (fun j => if j = 0 then v else wst M p j) (M 6 p 5) := by
  have e := mP_id M p
  funext zk zi zs
  have e2 := congrFun (congrFun (congrFun e zk) zi) zs
  unfold wc_up
  by_cases hi : zk = 6 ∧ zi = p ∧ zs = 6
  · obtain ⟨rfl, rfl, rfl⟩ := hi
    unfold mP
    simp
  · rw [if_neg hi, ← e2]
    unfold mP
    grind
theorem p_br25 {p : Nat} {M : wc_M} {st : Nat → Int32} (hst : sOk st) (hM : M = mP M p (sRis st 0) (M 6 p 5)) : l_P_breakAndRise_25 p 2000 0 M = some (mP M p (sRis st 4) (M 6 p 5)) := by
  have h : l_P_breakAndRise_25 p 2000 0 (mP M p (sRis st 0) (M 6 p 5)) = some (mP M p (sRis st 4) (M 6 p 5)) := loop_to (fun zn zx zM => l_P_breakAndRise_25 p zn zx zM) (fun zc => mP M p (sRis st zc) (M 6 p 5)) 4 _ (by
    intro zn zc hzc
    show l_P_breakAndRise_25 p (zn + 1) (nI zc) _ = _
    rw [l_P_breakAndRise_25]
    rw [if_neg (by rw [n_le (by decide) (by omega)]; omega), if_pos (n_wib hzc (by decide)), n_ar, n_t (by omega), up_g hzc, mP_mP, wst_mP (sRis_ok (by omega) hst), mP_th, mP_g hzc, mP_r hzc, sRis_s hzc]) (by
    intro zn
    show l_P_breakAndRise_25 p (zn + 1) (nI 4) _ = _
    rw [l_P_breakAndRise_25, if_pos (by decide)]) 2000 (by decide)
  rw [← hM] at h
  exact h
theorem p_breakAndRise {p : Nat} {M : wc_M} {F : Nat → Int32} {lo : Int32} : f_P_breakAndRise p (mA M F lo) = some (mA (mP M p (sRis (sBrk F (wst M p) 16) 4) (M 6 p 5)) F lo) := by
  unfold f_P_breakAndRise
  rw [p_br2]
  simp only [Option.bind_some]
  have hs := sBrk_ok (F := F) (n := 16) (wst_ok M p)
  rw [up_h, wst_mA, wst_mP hs, mP_mA, mP_mP, mA_off (by omega), mA_off (by omega), mP_th, mP_h]
  have e : (fun j => if j = 0 then sBrk F (wst M p) 16 0 + 1 else sBrk F (wst M p) 16 j) = sRis (sBrk F (wst M p) 16) 0 := by
    funext j
    unfold sRis
    by_cases h0 : j = 0
    · rw [if_pos h0, if_pos h0]
    · rw [if_neg h0, if_neg h0, if_neg (by omega)]
  rw [e, p_br25 hs]
  · rw [mP_mA, mP_mP, mA_off (by omega), mP_th]
    rfl
  · rw [mP_mA, mP_mP, mA_off (by omega), mP_th]
theorem c_spend {p : Nat} {M : wc_M} : f_C_spendHour p M = some (mA (mP M p (pH (wst M p)) (M 6 p 5)) (bF (wst M p)) (bL (wst M p))) := by
  unfold f_C_spendHour
  rw [a_blow]
  simp only [Option.bind_some]
  rw [p_breakAndRise]
  rfl
