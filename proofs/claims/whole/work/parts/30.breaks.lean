/-! WHAT BREAKS FIRST, on both sides -/
def fbk (F st : Nat → Int32) : Nat → Int32
  | 0 => -1000000
  | k + 1 => if st (9 + (15 - k)) = 0 then fbk F st k else if F (15 - k) ≤ st (25 + (15 - k)) then fbk F st k else nI (15 - k)
theorem fbk_s (F st : Nat → Int32) (k : Nat) : fbk F st (k + 1) = if st (9 + (15 - k)) = 0 then fbk F st k else if F (15 - k) ≤ st (25 + (15 - k)) then fbk F st k else nI (15 - k) := by rw [fbk]
theorem n_nn {c : Nat} (h : c < 2 ^ 31) : ¬ nI c = -1000000 := by
  intro e
  have := n_n0 h
  rw [e] at this
  exact this (by decide)
theorem fbk_c (F st : Nat → Int32) : ∀ k, k ≤ 16 → (fbk F st k = -1000000 ∧ ∀ c, 16 - k ≤ c → c < 16 → ¬ brk F st c) ∨ (∃ c, 16 - k ≤ c ∧ c < 16 ∧ fbk F st k = nI c ∧ brk F st c)
  | 0, _ => Or.inl ⟨by rw [fbk], fun c h1 h2 => by omega⟩
  | k + 1, hk => by
    have ih := fbk_c F st k (by omega)
    rw [fbk_s]
    by_cases h1 : st (9 + (15 - k)) = 0
    · rw [if_pos h1]
      rcases ih with ⟨i1, i2⟩ | ⟨c, i1, i2, i3, i4⟩
      · refine Or.inl ⟨i1, fun c h3 h4 => ?_⟩
        by_cases hc : c = 15 - k
        · subst hc
          exact fun z => z.1 h1
        · exact i2 c (by omega) h4
      · exact Or.inr ⟨c, by omega, i2, i3, i4⟩
    · rw [if_neg h1]
      by_cases h2 : F (15 - k) ≤ st (25 + (15 - k))
      · rw [if_pos h2]
        rcases ih with ⟨i1, i2⟩ | ⟨c, i1, i2, i3, i4⟩
        · refine Or.inl ⟨i1, fun c h3 h4 => ?_⟩
          by_cases hc : c = 15 - k
          · subst hc
            exact fun z => z.2 h2
          · exact i2 c (by omega) h4
        · exact Or.inr ⟨c, by omega, i2, i3, i4⟩
      · rw [if_neg h2]
        exact Or.inr ⟨15 - k, by omega, by omega, rfl, h1, h2⟩
theorem p_ftb {p : Nat} {M : wc_M} {F : Nat → Int32} {lo : Int32} : ∀ (k n : Nat), k ≤ 16 → k < n → l_P_firstToBreak_2 p (mA M F lo) n (nI (16 - k)) = some (if fbk F (wst M p) k = -1000000 then .inr () else .inl (fbk F (wst M p) k))
  | 0, n, _, hn => by
    obtain ⟨n, rfl⟩ : ∃ m, n = m + 1 := ⟨n - 1, by omega⟩
    rw [l_P_firstToBreak_2, if_pos (by decide)]
    rfl
  | k + 1, n, hk, hn => by
    obtain ⟨n, rfl⟩ : ∃ m, n = m + 1 := ⟨n - 1, by omega⟩
    have ih := p_ftb (p := p) (M := M) (F := F) (lo := lo) k n (by omega) (by omega)
    rw [l_P_firstToBreak_2, show 16 - (k + 1) = 15 - k by omega, if_neg (by rw [n_le (by decide) (by omega)]; omega), if_pos (n_wib (by omega) (by decide)), p_tooMuch (by omega), n_t (by omega), mA_f (by omega), wst_mA, Option.bind_some, fbk_s, n_ar, show 15 - k + 1 = 16 - k by omega]
    by_cases h1 : wst M p (9 + (15 - k)) = 0
    · rw [if_pos h1, if_pos rfl, if_pos h1]
      exact ih
    · rw [if_neg h1, if_neg h1]
      by_cases h2 : F (15 - k) ≤ wst M p (25 + (15 - k))
      · rw [if_pos h2, if_pos rfl, if_pos h2]
        exact ih
      · rw [if_neg h2, if_neg (by decide), if_neg h2, if_neg (n_nn (by omega))]
theorem p_first {p : Nat} {M : wc_M} {F : Nat → Int32} {lo : Int32} : f_P_firstToBreak p (mA M F lo) = some (fbk F (wst M p) 16) := by
  unfold f_P_firstToBreak
  have h := p_ftb (p := p) (M := M) (F := F) (lo := lo) 16 2000 (by omega) (by omega)
  rw [show l_P_firstToBreak_2 p (mA M F lo) 2000 0 = _ from h, Option.bind_some]
  by_cases h1 : fbk F (wst M p) 16 = -1000000
  · rw [if_pos h1, h1]
    rfl
  · rw [if_neg h1]
    rfl
/-- the bits of what breaks -/
def bMs (F st : Nat → Int32) : Nat → Nat
  | 0 => 0
  | c + 1 => if ¬ st (9 + c) = 0 ∧ ¬ F c ≤ st (25 + c) then bMs F st c ||| 2 ^ c else bMs F st c
theorem bMs_s (F st : Nat → Int32) (c : Nat) : bMs F st (c + 1) = if ¬ st (9 + c) = 0 ∧ ¬ F c ≤ st (25 + c) then bMs F st c ||| 2 ^ c else bMs F st c := by rw [bMs]
theorem bMs_lt (F st : Nat → Int32) : ∀ n, bMs F st n < 2 ^ n
  | 0 => by rw [bMs]; decide
  | n + 1 => by
    have ih := bMs_lt F st n
    rw [bMs_s]
    split
    · exact Nat.or_lt_two_pow (Nat.lt_trans ih (Nat.pow_lt_pow_right (by decide) (by omega))) (Nat.pow_lt_pow_right (by decide) (by omega))
    · exact Nat.lt_trans ih (Nat.pow_lt_pow_right (by decide) (by omega))
theorem bBs_e (F st : Nat → Int32) : ∀ n, n ≤ 16 → bBs F st n = nI (bMs F st n)
  | 0, _ => by rw [bBs, bMs]; rfl
  | n + 1, hn => by
    rw [bBs, bMs, bBs_e F st n (by omega)]
    split
    · have e : (1 : Int32) <<< (nI n &&& 31) = nI (2 ^ n) := by
        have := n_shl (m := 1) (c := n) (by omega) (by
          rw [Nat.one_mul]
          exact Nat.pow_lt_pow_right (by decide) (by omega))
        rw [Nat.one_mul] at this
        exact this
      rw [e, n_or]
    · rfl
theorem bMs_b (F st : Nat → Int32) {c : Nat} : ∀ n, (bMs F st n).testBit c = true ↔ c < n ∧ brk F st c
  | 0 => by
    rw [bMs]
    simp
  | n + 1 => by
    have ih := bMs_b F st (c := c) n
    rw [bMs_s]
    unfold brk at ih ⊢
    by_cases hb : ¬ st (9 + n) = 0 ∧ ¬ F n ≤ st (25 + n)
    · rw [if_pos hb, Nat.testBit_or, Nat.testBit_two_pow, Bool.or_eq_true, ih, decide_eq_true_iff]
      constructor
      · rintro (h | h)
        · exact ⟨by omega, h.2⟩
        · subst h
          exact ⟨by omega, hb⟩
      · intro h
        by_cases hc : n = c
        · exact Or.inr hc
        · exact Or.inl ⟨by omega, h.2⟩
    · rw [if_neg hb, ih]
      constructor
      · intro h
        exact ⟨by omega, h.2⟩
      · intro h
        by_cases hc : c = n
        · subst hc
          exact absurd h.2 hb
        · exact ⟨by omega, h.2⟩
theorem m_has {m c : Nat} (hm : m < 2 ^ 31) (hc : c < 32) : f_M_has (nI m) (nI c) = if m.testBit c = true then 1 else 0 := by
  unfold f_M_has
  rw [n_shr hm hc, n_and1 (by
    have : m / 2 ^ c ≤ m := Nat.div_le_self _ _
    omega)]
  by_cases h : m / 2 ^ c % 2 = 1
  · have tb : m.testBit c = true := by
      rw [Nat.testBit_eq_decide_div_mod_eq]
      exact decide_eq_true h
    rw [if_pos tb, h]
    rfl
  · have tb : ¬ m.testBit c = true := by
      rw [Nat.testBit_eq_decide_div_mod_eq]
      intro z
      exact h (of_decide_eq_true z)
    rw [if_neg tb, show m / 2 ^ c % 2 = 0 by omega]
    rfl
theorem m_hasB {F st : Nat → Int32} {c : Nat} (hc : c < 16) [Decidable (brk F st c)] : f_M_has (bBs F st 16) (nI c) = if brk F st c then 1 else 0 := by
  have h := bMs_b F st (c := c) 16
  rw [bBs_e F st 16 (by omega), m_has (Nat.lt_trans (bMs_lt F st 16) (by decide)) (by omega)]
  by_cases hb : brk F st c
  · rw [if_pos hb, if_pos (h.mpr ⟨hc, hb⟩)]
  · rw [if_neg hb, if_neg (fun z => hb (h.mp z).2)]
theorem bB_0 {F st : Nat → Int32} (h : ∀ c, c < 16 → ¬ brk F st c) : bBs F st 16 = 0 := by
  have e : ∀ n, n ≤ 16 → bMs F st n = 0 := by
    intro n hn
    induction n with
    | zero => rw [bMs]
    | succ n ih =>
      rw [bMs_s, if_neg (show ¬ (¬ st (9 + n) = 0 ∧ ¬ F n ≤ st (25 + n)) from h n (by omega))]
      exact ih (by omega)
  rw [bBs_e F st 16 (by omega), e 16 (by omega)]
  rfl
theorem bB_n {F st : Nat → Int32} {c : Nat} (hc : c < 16) (h : brk F st c) : ¬ bBs F st 16 = 0 := by
  have h2 := (bMs_b F st (c := c) 16).mpr ⟨hc, h⟩
  have h3 := bMs_lt F st 16
  rw [bBs_e F st 16 (by omega)]
  intro e
  have e2 : bMs F st 16 = 0 := (nI_eq (b := 0) (by omega) (by omega)).mp e
  rw [e2] at h2
  simp at h2
theorem r_bits {x1 x2 : Int32} {M : wc_M} {F st : Nat → Int32} (hM : M 21 0 20 = bBs F st 16) : ∀ (k n : Nat), k ≤ 16 → k < n → l_M_breaks_36 x1 x2 M n (fbk F st (16 - k)) (nI k + (-1)) = some (fbk F st 16)
  | 0, n, _, hn => by
    obtain ⟨n, rfl⟩ : ∃ m, n = m + 1 := ⟨n - 1, by omega⟩
    rw [l_M_breaks_36, if_pos (by decide)]
  | k + 1, n, hk, hn => by
    obtain ⟨n, rfl⟩ : ∃ m, n = m + 1 := ⟨n - 1, by omega⟩
    have ih := r_bits (x1 := x1) (x2 := x2) hM k n (by omega) (by omega)
    have e : fbk F st (16 - k) = if st (9 + k) = 0 then fbk F st (16 - (k + 1)) else if F k ≤ st (25 + k) then fbk F st (16 - (k + 1)) else nI k := by
      have := fbk_s F st (15 - k)
      rw [show 15 - k + 1 = 16 - k by omega, show 15 - (15 - k) = k by omega] at this
      rw [this, show 16 - (k + 1) = 15 - k by omega]
    rw [l_M_breaks_36, n_m1, if_neg (n_n0 (by omega)), hM]
    have hd : Decidable (brk F st k) := by unfold brk; infer_instance
    rw [m_hasB (by omega)]
    by_cases hb : brk F st k
    · rw [if_neg hb.1, if_neg hb.2] at e
      rw [if_pos hb, if_neg (by decide)]
      rw [e] at ih
      exact ih
    · rw [if_neg hb, if_pos rfl]
      have e2 : fbk F st (16 - k) = fbk F st (16 - (k + 1)) := by
        rw [e]
        by_cases h1 : st (9 + k) = 0
        · rw [if_pos h1]
        · rw [if_neg h1]
          by_cases h2 : F k ≤ st (25 + k)
          · rw [if_pos h2]
          · exact absurd ⟨h1, h2⟩ hb
      rw [← e2]
      exact ih
/-- the first work that breaks after n hours -/
noncomputable def fbA (st : Nat → Int32) (n : Nat) : Int32 := fbk (bF (pHn st n)) (pHn st n) 16
theorem fbA_c (st : Nat → Int32) (n : Nat) : (fbA st n = -1000000 ∧ bB (pHn st n) = 0) ∨ (∃ c, c < 16 ∧ fbA st n = nI c ∧ ¬ bB (pHn st n) = 0) := by
  unfold fbA bB
  rcases fbk_c (bF (pHn st n)) (pHn st n) 16 (by omega) with ⟨h1, h2⟩ | ⟨c, h1, h2, h3, h4⟩
  · exact Or.inl ⟨h1, bB_0 (fun c hc => h2 c (by omega) hc)⟩
  · exact Or.inr ⟨c, h2, h3, bB_n h2 h4⟩
theorem ex_first (P : Nat → Prop) (N : Nat) : (∀ j, j < N → ¬ P j) ∨ (∃ m, m < N ∧ P m ∧ ∀ j, j < m → ¬ P j) := by
  induction N with
  | zero => exact Or.inl (fun j hj => by omega)
  | succ N ih =>
    rcases ih with h | ⟨m, h1, h2, h3⟩
    · by_cases hN : P N
      · exact Or.inr ⟨N, by omega, hN, h⟩
      · refine Or.inl (fun j hj => ?_)
        by_cases e : j = N
        · rw [e]; exact hN
        · exact h j (by omega)
    · exact Or.inr ⟨m, by omega, h2, h3⟩
theorem c_br {x1 th lo : Int32} {M : wc_M} {st F : Nat → Int32} {zm : Nat} (hs : sOk st) (hm : zm ≤ 40) (h1 : ∀ j, j < zm → fbA st j = -1000000) (R : (Int32 × wc_M) ⊕ (wc_M)) (he : ∀ n, l_C_breaks_19 x1 (n + 1) (nI zm + 1) (mA (mP M 1 (pHn st zm) th) (fLast st F zm) (lLast st lo zm)) = some R) : l_C_breaks_19 x1 2000 1 (mA (mP M 1 (pHn st 0) th) (fLast st F 0) (lLast st lo 0)) = some R := by
  have h := loop_to (fun zn zx zM => l_C_breaks_19 x1 zn (zx + 1) zM) (fun zc => mA (mP M 1 (pHn st zc) th) (fLast st F zc) (lLast st lo zc)) zm R (by
    intro zn zc hzc
    show l_C_breaks_19 x1 (zn + 1) (nI zc + 1) (mA (mP M 1 (pHn st zc) th) (fLast st F zc) (lLast st lo zc)) = l_C_breaks_19 x1 zn (nI (zc + 1) + 1) (mA (mP M 1 (pHn st (zc + 1)) th) (fLast st F (zc + 1)) (lLast st lo (zc + 1)))
    have e1 : fbk (bF (pHn st zc)) (pHn st zc) 16 = -1000000 := h1 zc hzc
    rw [l_C_breaks_19, n_ar, n_ar, if_neg (by rw [n_gt (by decide) (by omega)]; omega), a_blowA (pHn_ok hs zc), Option.bind_some, p_first, Option.bind_some, wst_mP (pHn_ok hs zc), if_pos e1, c_spendA (pHn_ok hs zc), Option.bind_some, pHn_s, fLast_s, lLast_s]) he 2000 (by omega)
  exact h
theorem r_br {x1 lo : Int32} {M : wc_M} {st F as : Nat → Int32} {zm : Nat} (hk : sKd st) (hm : zm ≤ 40) (h1 : ∀ j, j < zm → bLast st 0 j = 0) (R : Int32 × wc_M) (he : ∀ n, l_M_breaks_20 x1 (n + 1) (nI zm) (mR M (pHn st zm) (fLast st F zm) (lLast st lo zm) (bLast st 0 zm) as) = some R) : l_M_breaks_20 x1 2000 0 (mR M (pHn st 0) (fLast st F 0) (lLast st lo 0) (bLast st 0 0) as) = some R :=
  loop_to (fun zn zx zM => l_M_breaks_20 x1 zn zx zM) (fun zc => mR M (pHn st zc) (fLast st F zc) (lLast st lo zc) (bLast st 0 zc) as) zm R (by
    intro zn zc hzc
    show l_M_breaks_20 x1 (zn + 1) (nI zc) (mR M (pHn st zc) (fLast st F zc) (lLast st lo zc) (bLast st 0 zc) as) = l_M_breaks_20 x1 zn (nI (zc + 1)) (mR M (pHn st (zc + 1)) (fLast st F (zc + 1)) (lLast st lo (zc + 1)) (bLast st 0 (zc + 1)) as)
    rw [l_M_breaks_20, if_neg (by rw [n_le (by decide) (by omega)]; omega), mR_br, if_pos (h1 zc hzc), r_oneHour (pHn_kd hk zc), Option.bind_some, n_ar, pHn_s, fLast_s, lLast_s, bLast_s]) he 2000 (by omega)
theorem q_breaks (a1 : Int32) {M : wc_M} (r : Rel M) : Ag (f_C_breaks a1) (f_M_breaks a1) M := by
  unfold f_C_breaks f_M_breaks
  by_cases h0 : M 6 0 5 = 0
  · exact Ag_i (if_pos h0) (if_pos (by rw [Rel_m4 r]; exact h0)) rfl r
  by_cases h2 : f_C_isUpTo a1 1 = 0
  · exact Ag_i (M1 := M) (M2 := M) (by rw [if_neg h0, if_pos h2]) (by rw [Rel_m4 r, if_neg h0, m_up_1, if_pos h2]) rfl r
  have hw := Rel_w r
  have hs := sW_ok hw
  have hk := sW_kd hw
  have e := mA_id (mP M 1 (wst M 0) (M 6 0 5))
  rcases ex_first (fun j => ¬ fbA (wst M 0) j = -1000000) 40 with hn | ⟨m, hm, hf, hn⟩
  · have hn' : ∀ j, j < 40 → fbA (wst M 0) j = -1000000 := fun j hj => Classical.not_not.mp (hn j hj)
    have hb : ∀ j, j ≤ 40 → bLast (wst M 0) 0 j = 0 := by
      intro j hj
      cases j with
      | zero => exact bLast_0 _ _
      | succ j =>
        rw [bLast_s]
        rcases fbA_c (wst M 0) j with ⟨_, z⟩ | ⟨c, hc, z, _⟩
        · exact z
        · rw [hn' j (by omega)] at z
          exact absurd z.symm (n_nn (by omega))
    have hc := c_br (x1 := a1) (th := M 6 0 5) (lo := mP M 1 (wst M 0) (M 6 0 5) 12 0 2) (M := M) (F := Fo (mP M 1 (wst M 0) (M 6 0 5))) hs (Nat.le_refl 40) hn' _ (by
      intro n
      rw [l_C_breaks_19, if_pos (by decide)])
    rw [pHn_0, fLast_0, lLast_0, e] at hc
    generalize hM1 : mA (mP M 1 (pHn (wst M 0) 40) (M 6 0 5)) (fLast (wst M 0) (Fo (mP M 1 (wst M 0) (M 6 0 5))) 40) (lLast (wst M 0) (mP M 1 (wst M 0) (M 6 0 5) 12 0 2) 40) = M1 at hc
    have r1 : Rel M1 := by
      rw [← hM1]
      exact Rel_A (Rel_1 r)
    have e1 : wst M1 0 = wst M 0 := by rw [← hM1, wst_mA, wst_mPn (by omega)]
    have e0 : M1 21 0 4 = M 6 0 5 := by rw [← hM1, mA_off (by omega), mP_off (by omega)]; exact Rel_m4 r
    have ef := Rel_form r1
    rw [e1] at ef
    have hr := r_br (x1 := a1) (lo := M1 21 0 19) (M := M1) (F := M1 29 0) (as := wst M 0) hk (Nat.le_refl 40) (fun j hj => hb j (by omega)) _ (by
      intro n
      rw [l_M_breaks_20, if_pos (by decide)])
    rw [pHn_0, fLast_0, lLast_0, bLast_0, hb 40 (by omega)] at hr
    have hbits := r_bits (x1 := a1) (x2 := nI 40) (M := mR M1 (wst M 0) (fLast (wst M 0) (M1 29 0) 40) (lLast (wst M 0) (M1 21 0 19) 40) 0 (wst M 0)) (F := bF (pHn (wst M 0) 39)) (st := pHn (wst M 0) 39) (by
      rw [mR_br]
      have := hb 40 (by omega)
      rw [bLast_s] at this
      exact this.symm) 16 2000 (by omega) (by omega)
    rw [show fbk (bF (pHn (wst M 0) 39)) (pHn (wst M 0) 39) 16 = -1000000 from hn' 39 (by omega), show fbk (bF (pHn (wst M 0) 39)) (pHn (wst M 0) 39) (16 - 16) = -1000000 from by rw [show 16 - 16 = 0 from rfl, fbk], show nI 16 + (-1) = 15 from rfl] at hbits
    refine Ag_i (r := -1000000) (M1 := M1) (M2 := mR M1 (wst M 0) (fLast (wst M 0) (M1 29 0) 40) (lLast (wst M 0) (M1 21 0 19) 40) 0 (wst M 0)) ?_ ?_ rfl ?_
    · show (if M 6 0 5 = 0 then _ else _) = _
      rw [if_neg h0, if_neg h2, p_become (Rel_wz r), Option.bind_some, hc, Option.bind_some]
      rfl
    · show (if M1 21 0 4 = 0 then _ else _) = _
      rw [e0, if_neg h0, m_up_1, if_neg h2]
      rw [show f_M_putAside M1 = f_M_putAside (mR M1 (wst M 0) (M1 29 0) (M1 21 0 19) (M1 21 0 20) (wrs M1 31 0)) from by rw [← ef]]
      rw [r_aside hs (wrs_ok _ _ _), Option.bind_some, r_up_br, hr, Option.bind_some]
      show (Option.bind (f_M_takeBack (mR M1 (pHn (wst M 0) 40) (fLast (wst M 0) (M1 29 0) 40) (lLast (wst M 0) (M1 21 0 19) 40) 0 (wst M 0))) fun m8 => (Option.bind (l_M_breaks_36 a1 (nI 40) m8 2000 (-1000000 : Int32) (15 : Int32)) fun t9 => (if (0 : Int32) ≤ t9 then (if a1 = (0 : Int32) then some (nI 40, m8) else some (t9, m8)) else some ((-1000000 : Int32), m8)))) = _
      rw [r_back (pHn_ok hs 40) hs, Option.bind_some, hbits, Option.bind_some, if_neg (by decide)]
    · rw [← e1]
      exact Rel_R r1
  · have hn' : ∀ j, j < m → fbA (wst M 0) j = -1000000 := fun j hj => Classical.not_not.mp (hn j hj)
    have hb : ∀ j, j ≤ m → bLast (wst M 0) 0 j = 0 := by
      intro j hj
      cases j with
      | zero => exact bLast_0 _ _
      | succ j =>
        rw [bLast_s]
        rcases fbA_c (wst M 0) j with ⟨_, z⟩ | ⟨c, hc, z, _⟩
        · exact z
        · rw [hn' j (by omega)] at z
          exact absurd z.symm (n_nn (by omega))
    obtain ⟨fc, hfc, hfe, hfb⟩ : ∃ c, c < 16 ∧ fbA (wst M 0) m = nI c ∧ ¬ bB (pHn (wst M 0) m) = 0 := by
      rcases fbA_c (wst M 0) m with ⟨z, _⟩ | z
      · exact absurd z hf
      · exact z
    have hfe' : fbk (bF (pHn (wst M 0) m)) (pHn (wst M 0) m) 16 = nI fc := hfe
    have hc := c_br (x1 := a1) (th := M 6 0 5) (lo := mP M 1 (wst M 0) (M 6 0 5) 12 0 2) (M := M) (F := Fo (mP M 1 (wst M 0) (M 6 0 5))) (zm := m) hs (by omega) hn' (.inl (if a1 = 0 then nI (m + 1) else nI fc, mA (mP M 1 (pHn (wst M 0) m) (M 6 0 5)) (bF (pHn (wst M 0) m)) (bL (pHn (wst M 0) m)))) (by
      intro n
      rw [l_C_breaks_19, n_ar, if_neg (by rw [n_gt (by decide) (by omega)]; omega), a_blowA (pHn_ok hs m), Option.bind_some, p_first, Option.bind_some, wst_mP (pHn_ok hs m), hfe', if_neg (n_nn (by omega))]
      by_cases ha : a1 = 0
      · rw [if_pos ha, if_pos ha]
      · rw [if_neg ha, if_neg ha])
    rw [pHn_0, fLast_0, lLast_0, e] at hc
    generalize hM1 : mA (mP M 1 (pHn (wst M 0) m) (M 6 0 5)) (bF (pHn (wst M 0) m)) (bL (pHn (wst M 0) m)) = M1 at hc
    have r1 : Rel M1 := by
      rw [← hM1]
      exact Rel_A (Rel_1 r)
    have e1 : wst M1 0 = wst M 0 := by rw [← hM1, wst_mA, wst_mPn (by omega)]
    have e0 : M1 21 0 4 = M 6 0 5 := by rw [← hM1, mA_off (by omega), mP_off (by omega)]; exact Rel_m4 r
    have ef := Rel_form r1
    rw [e1] at ef
    have hr := r_br (x1 := a1) (lo := M1 21 0 19) (M := M1) (F := M1 29 0) (as := wst M 0) (zm := m + 1) hk (by omega) (fun j hj => hb j (by omega)) (nI (m + 1), mR M1 (pHn (wst M 0) (m + 1)) (fLast (wst M 0) (M1 29 0) (m + 1)) (lLast (wst M 0) (M1 21 0 19) (m + 1)) (bLast (wst M 0) 0 (m + 1)) (wst M 0)) (by
      intro n
      rw [l_M_breaks_20]
      by_cases h40 : (40 : Int32) ≤ nI (m + 1)
      · rw [if_pos h40]
      · rw [if_neg h40, mR_br, if_neg (by rw [bLast_s]; exact hfb)])
    rw [pHn_0, fLast_0, lLast_0, bLast_0] at hr
    have hbits := r_bits (x1 := a1) (x2 := nI (m + 1)) (M := mR M1 (wst M 0) (fLast (wst M 0) (M1 29 0) (m + 1)) (lLast (wst M 0) (M1 21 0 19) (m + 1)) (bLast (wst M 0) 0 (m + 1)) (wst M 0)) (F := bF (pHn (wst M 0) m)) (st := pHn (wst M 0) m) (by
      rw [mR_br, bLast_s]
      rfl) 16 2000 (by omega) (by omega)
    rw [hfe', show fbk (bF (pHn (wst M 0) m)) (pHn (wst M 0) m) (16 - 16) = -1000000 from by rw [show 16 - 16 = 0 from rfl, fbk], show nI 16 + (-1) = 15 from rfl] at hbits
    refine Ag_i (r := if a1 = 0 then nI (m + 1) else nI fc) (M1 := M1) (M2 := mR M1 (wst M 0) (fLast (wst M 0) (M1 29 0) (m + 1)) (lLast (wst M 0) (M1 21 0 19) (m + 1)) (bLast (wst M 0) 0 (m + 1)) (wst M 0)) ?_ ?_ rfl ?_
    · show (if M 6 0 5 = 0 then _ else _) = _
      rw [if_neg h0, if_neg h2, p_become (Rel_wz r), Option.bind_some, hc, Option.bind_some]
      rfl
    · show (if M1 21 0 4 = 0 then _ else _) = _
      rw [e0, if_neg h0, m_up_1, if_neg h2]
      rw [show f_M_putAside M1 = f_M_putAside (mR M1 (wst M 0) (M1 29 0) (M1 21 0 19) (M1 21 0 20) (wrs M1 31 0)) from by rw [← ef]]
      rw [r_aside hs (wrs_ok _ _ _), Option.bind_some, r_up_br, hr, Option.bind_some]
      show (Option.bind (f_M_takeBack (mR M1 (pHn (wst M 0) (m + 1)) (fLast (wst M 0) (M1 29 0) (m + 1)) (lLast (wst M 0) (M1 21 0 19) (m + 1)) (bLast (wst M 0) 0 (m + 1)) (wst M 0))) fun m8 => (Option.bind (l_M_breaks_36 a1 (nI (m + 1)) m8 2000 (-1000000 : Int32) (15 : Int32)) fun t9 => (if (0 : Int32) ≤ t9 then (if a1 = (0 : Int32) then some (nI (m + 1), m8) else some (t9, m8)) else some ((-1000000 : Int32), m8)))) = _
      rw [r_back (pHn_ok hs (m + 1)) hs, Option.bind_some, hbits, Option.bind_some, if_pos (Int32.not_lt.mp (n_n0 (by omega)))]
      by_cases ha : a1 = 0
      · rw [if_pos ha, if_pos ha]
      · rw [if_neg ha, if_neg ha]
    · rw [← e1]
      exact Rel_R r1
