/-! LOTS -/
theorem n_remN {a b : Nat} (ha : a < 2 ^ 31) (h0 : 0 < b) (hb : b < 2 ^ 31) : wc_rem (nI a) (nI b) = nI (a % b) := by
  unfold wc_rem
  exact pk_rem ha h0 hb
theorem gcd_st (a b : Nat) : Nat.gcd a b = Nat.gcd b (a % b) := by
  rw [Nat.gcd_comm a b, Nat.gcd_rec b a, Nat.gcd_comm]
theorem gcd_half {a b k : Nat} (hb : b < 2 * 2 ^ k) (h0 : 0 < a % b) (h1 : a % b < b) : b % (a % b) < 2 ^ k := by
  by_cases h : a % b ≤ 2 ^ k
  · exact Nat.lt_of_lt_of_le (Nat.mod_lt _ h0) h
  · rw [Nat.mod_eq_sub_mod (by omega), Nat.mod_eq_of_lt (by omega)]
    omega
theorem c_gcd : ∀ (k a b s n : Nat), a < 2 ^ 31 → b < 2 ^ k → b < 2 ^ 31 → s + 2 * k ≤ 99 → 2 * k + 1 ≤ n → l_C_commonDivisor_6 n (nI a) (nI b) (nI s) = some (nI (Nat.gcd a b))
  | 0, a, b, s, n, ha, hb, hb2, hs, hn => by
    obtain ⟨n, rfl⟩ : ∃ m, n = m + 1 := ⟨n - 1, by omega⟩
    have e : b = 0 := by omega
    subst e
    rw [l_C_commonDivisor_6, if_neg (by rw [n_le (by decide) (by omega)]; omega), if_pos (by decide), Nat.gcd_zero_right]
  | k + 1, a, b, s, n, ha, hb, hb2, hs, hn => by
    obtain ⟨n, rfl⟩ : ∃ m, n = m + 1 + 1 := ⟨n - 2, by omega⟩
    by_cases h0 : b = 0
    · subst h0
      rw [l_C_commonDivisor_6, if_neg (by rw [n_le (by decide) (by omega)]; omega), if_pos (by decide), Nat.gcd_zero_right]
    · have hr : a % b < b := Nat.mod_lt _ (by omega)
      have nb : ¬ nI b ≤ 0 := by
        intro h
        have := (nI_leI (a := b) (b := 0) (by omega) (by omega)).mp h
        omega
      have nb0 : ¬ nI b = 0 := by
        intro h
        exact nb (by rw [h]; decide)
      rw [l_C_commonDivisor_6, if_neg (by rw [n_le (by decide) (by omega)]; omega), if_neg nb, if_pos nb0, n_remN ha (by omega) hb2, n_ar, gcd_st]
      by_cases h1 : a % b = 0
      · rw [h1, l_C_commonDivisor_6, if_neg (by rw [n_le (by decide) (by omega)]; omega), if_pos (by decide), Nat.gcd_zero_right]
      · have nr : ¬ nI (a % b) ≤ 0 := by
          intro h
          have := (nI_leI (a := a % b) (b := 0) (by omega) (by omega)).mp h
          omega
        have nr0 : ¬ nI (a % b) = 0 := by
          intro h
          exact nr (by rw [h]; decide)
        have hh := gcd_half (a := a) (b := b) (k := k) (by rw [Nat.pow_succ] at hb; omega) (by omega) hr
        rw [l_C_commonDivisor_6, if_neg (by rw [n_le (by decide) (by omega)]; omega), if_neg nr, if_pos nr0, n_remN hb2 (by omega) (by omega), n_ar, gcd_st b]
        have hl : b % (a % b) < 2 ^ 31 := Nat.lt_of_le_of_lt (Nat.mod_le _ _) hb2
        exact c_gcd k _ _ _ n (by omega) hh hl (by omega) (by omega)
theorem m_gcd {x4 x6 x7 : Int32} : ∀ (k a b n : Nat), a < 2 ^ 31 → b < 2 ^ k → b < 2 ^ 31 → 2 * k + 1 ≤ n → l_M_lots_109 x4 x6 x7 n (nI a) (nI b) = some (nI (Nat.gcd a b))
  | 0, a, b, n, ha, hb, hb2, hn => by
    obtain ⟨n, rfl⟩ : ∃ m, n = m + 1 := ⟨n - 1, by omega⟩
    have e : b = 0 := by omega
    subst e
    rw [l_M_lots_109, if_pos (by rfl), Nat.gcd_zero_right]
  | k + 1, a, b, n, ha, hb, hb2, hn => by
    obtain ⟨n, rfl⟩ : ∃ m, n = m + 1 + 1 := ⟨n - 2, by omega⟩
    have nz : ∀ q, q < 2 ^ 31 → ¬ q = 0 → ¬ nI q = 0 := by
      intro q hq h0 h
      exact h0 ((nI_eq (b := 0) (by omega) (by omega)).mp h)
    by_cases h0 : b = 0
    · subst h0
      rw [l_M_lots_109, if_pos (by rfl), Nat.gcd_zero_right]
    · have hr : a % b < b := Nat.mod_lt _ (by omega)
      rw [l_M_lots_109, if_neg (nz b hb2 h0), if_pos (nz b hb2 h0), n_remN ha (by omega) hb2, gcd_st]
      by_cases h1 : a % b = 0
      · rw [h1, l_M_lots_109, if_pos (by rfl), Nat.gcd_zero_right]
      · have hh := gcd_half (a := a) (b := b) (k := k) (by rw [Nat.pow_succ] at hb; omega) (by omega) hr
        rw [l_M_lots_109, if_neg (nz _ (by omega) h1), if_pos (nz _ (by omega) h1), n_remN hb2 (by omega) (by omega), gcd_st b]
        have hl : b % (a % b) < 2 ^ 31 := Nat.lt_of_le_of_lt (Nat.mod_le _ _) hb2
        exact m_gcd k _ _ n (by omega) hh hl (by omega)
def ltS (st : Nat → Int32) (B : Nat) (c : Int32) : Nat → (Int32 × Nat) × (Nat → Int32)
  | 0 => ((1, 0), st)
  | x + 1 => if st (9 + x) = 0 then ltS st B c x else if B.testBit (ltS st B c x).1.2 = true then (((ltS st B c x).1.1 * c, (ltS st B c x).1.2 + 1), sPut (ltS st B c x).2 x 0 0) else (((ltS st B c x).1.1 * (10 - c), (ltS st B c x).1.2 + 1), (ltS st B c x).2)
theorem ltS_s (st : Nat → Int32) (B : Nat) (c : Int32) (x : Nat) : ltS st B c (x + 1) = if st (9 + x) = 0 then ltS st B c x else if B.testBit (ltS st B c x).1.2 = true then (((ltS st B c x).1.1 * c, (ltS st B c x).1.2 + 1), sPut (ltS st B c x).2 x 0 0) else (((ltS st B c x).1.1 * (10 - c), (ltS st B c x).1.2 + 1), (ltS st B c x).2) := by rw [ltS]
theorem ltS_0 (st : Nat → Int32) (B : Nat) (c : Int32) : ltS st B c 0 = ((1, 0), st) := by rw [ltS]
theorem ltS_p {st : Nat → Int32} (hs : sOk st) (hk : sKd st) (B zq : Nat) (hq : zq ≤ 10) : ∀ x, x ≤ 16 → (ltS st B (nI zq) x).1.2 = sWn st x ∧ sOk (ltS st B (nI zq) x).2 ∧ sKd (ltS st B (nI zq) x).2 ∧ (∀ y, x ≤ y → y < 16 → (ltS st B (nI zq) x).2 (9 + y) = st (9 + y)) ∧ ∃ w, w ≤ 10 ^ (sWn st x) ∧ (ltS st B (nI zq) x).1.1 = nI w
  | 0, _ => by
    rw [ltS_0]
    exact ⟨by rw [sWn], hs, hk, fun y _ _ => rfl, 1, Nat.pos_of_ne_zero (by simp), rfl⟩
  | x + 1, hx => by
    obtain ⟨i1, i2, i3, i4, w, i5, i6⟩ := ltS_p hs hk B zq hq x (by omega)
    rw [ltS_s, sWn_s]
    by_cases h0 : st (9 + x) = 0
    · rw [if_pos h0, if_pos h0]
      exact ⟨i1, i2, i3, fun y h1 h2 => i4 y (by omega) h2, w, i5, i6⟩
    · rw [if_neg h0, if_neg h0]
      have es : (10 : Int32) - nI zq = nI (10 - zq) := pk_sub (a := 10) hq
      by_cases hb : B.testBit (ltS st B (nI zq) x).1.2 = true
      · rw [if_pos hb]
        refine ⟨by show _ + 1 = _; rw [i1], sPut_ok (by omega) i2, sPut_kd i3 (by omega) ⟨0, by omega, rfl⟩, ?_, w * zq, ?_, ?_⟩
        · intro y h1 h2
          show sPut _ x 0 0 (9 + y) = _
          rw [sPut_off (by omega) (by omega) (by omega)]
          exact i4 y (by omega) h2
        · rw [Nat.pow_succ]
          exact Nat.mul_le_mul i5 hq
        · show _ * _ = _
          rw [i6, pk_mul]
      · rw [if_neg hb]
        refine ⟨by show _ + 1 = _; rw [i1], i2, i3, fun y h1 h2 => i4 y (by omega) h2, w * (10 - zq), ?_, ?_⟩
        · rw [Nat.pow_succ]
          exact Nat.mul_le_mul i5 (by omega)
        · show _ * _ = _
          rw [i6, es, pk_mul]
noncomputable def abL (st : Nat → Int32) (c v : Int32) (zc : Nat) : Nat → Int32
  | 0 => 0
  | B + 1 => if bF (ltS st B c 16).2 zc < v then abL st c v zc B else abL st c v zc B + (ltS st B c 16).1.1
theorem abL_s (st : Nat → Int32) (c v : Int32) (zc B : Nat) : abL st c v zc (B + 1) = if bF (ltS st B c 16).2 zc < v then abL st c v zc B else abL st c v zc B + (ltS st B c 16).1.1 := by rw [abL]
theorem pow10 {n : Nat} (h : n ≤ 6) : 10 ^ n ≤ 1000000 := Nat.pow_le_pow_right (i := n) (j := 6) (by decide) h
theorem abL_b {st : Nat → Int32} (hw : sW st) {v : Int32} {zc zq : Nat} (hq : zq ≤ 10) : ∀ B, ∃ t, t ≤ B * 1000000 ∧ abL st (nI zq) v zc B = nI t
  | 0 => ⟨0, by omega, by rw [abL]; rfl⟩
  | B + 1 => by
    obtain ⟨t, h1, h2⟩ := abL_b hw (v := v) (zc := zc) hq B
    obtain ⟨_, _, _, _, w, i5, i6⟩ := ltS_p (sW_ok hw) (sW_kd hw) B zq hq 16 (by omega)
    have hp := pow10 hw.2.2.2.2.2
    have hm : (B + 1) * 1000000 = B * 1000000 + 1000000 := Nat.succ_mul B 1000000
    rw [abL_s, hm]
    generalize B * 1000000 = Q at h1 ⊢
    by_cases h : bF (ltS st B (nI zq) 16).2 zc < v
    · rw [if_pos h]
      exact ⟨t, Nat.le_trans h1 (Nat.le_add_right _ _), h2⟩
    · rw [if_neg h]
      exact ⟨t + w, Nat.add_le_add h1 (Nat.le_trans i5 hp), by rw [h2, i6, nI_add]⟩
theorem testB {B k : Nat} : B.testBit k = true ↔ B / 2 ^ k % 2 = 1 := by
  rw [Nat.testBit_eq_decide_div_mod_eq]
  exact decide_eq_true_iff
theorem p_clearP {M : wc_M} {S : Nat → Int32} {th : Int32} {p c : Nat} (hs : sOk S) (hc : c < 16) : f_P_clear p (nI c) (mP M p S th) = some (mP M p (sPut S c 0 0) th) := by
  rw [p_clear hc, wst_mP hs, mP_mP, mP_th]
theorem c_lot {M : wc_M} {B zq : Nat} (hB : B < 2 ^ 16) (hq : zq ≤ 10) (hk : sKd (wst M 0)) (ht : wzb (M 6 0 5) = true) : f_C_breakByLot (nI B) (nI zq) M = some ((ltS (wst M 0) B (nI zq) 16).1.1, mP M 1 (ltS (wst M 0) B (nI zq) 16).2 (M 6 0 5)) := by
  have hs := wst_ok M 0
  unfold f_C_breakByLot
  have h := loop_to (fun zn zx (s : Int32 × Int32 × wc_M) => l_C_breakByLot_11 (nI zq) zn s.1 s.2.1 zx s.2.2) (fun x => ((ltS (wst M 0) B (nI zq) x).1.1, nI (B / 2 ^ (ltS (wst M 0) B (nI zq) x).1.2), mP M 1 (ltS (wst M 0) B (nI zq) x).2 (M 6 0 5))) 16 ((ltS (wst M 0) B (nI zq) 16).1.1, mP M 1 (ltS (wst M 0) B (nI zq) 16).2 (M 6 0 5)) (by
    intro zn x hx
    obtain ⟨i1, i2, i3, i4, w, i5, i6⟩ := ltS_p hs hk B zq hq x (by omega)
    show l_C_breakByLot_11 (nI zq) (zn + 1) (ltS (wst M 0) B (nI zq) x).1.1 (nI (B / 2 ^ (ltS (wst M 0) B (nI zq) x).1.2)) (nI x) (mP M 1 (ltS (wst M 0) B (nI zq) x).2 (M 6 0 5)) = l_C_breakByLot_11 (nI zq) zn (ltS (wst M 0) B (nI zq) (x + 1)).1.1 (nI (B / 2 ^ (ltS (wst M 0) B (nI zq) (x + 1)).1.2)) (nI (x + 1)) (mP M 1 (ltS (wst M 0) B (nI zq) (x + 1)).2 (M 6 0 5))
    rw [l_C_breakByLot_11, if_neg (by rw [n_le (by decide) (by omega)]; omega), p_has hx, Option.bind_some, wst_mPn (by omega)]
    by_cases h0 : wst M 0 (9 + x) = 0
    · rw [if_pos h0, if_pos rfl, ltS_s, if_pos h0, n_ar]
    · rw [if_neg h0, if_neg (by decide), ltS_s, if_neg h0]
      generalize hK : (ltS (wst M 0) B (nI zq) x).1.2 = K
      have hBK : B / 2 ^ K < 2 ^ 16 := Nat.lt_of_le_of_lt (Nat.div_le_self _ _) hB
      have e1 : nI (B / 2 ^ K) >>> ((1 : Int32) &&& 31) = nI (B / 2 ^ (K + 1)) := by
        have := n_shr (m := B / 2 ^ K) (c := 1) (by omega) (by omega)
        rw [Nat.div_div_eq_div_mul, Nat.pow_one, ← Nat.pow_succ] at this
        exact this
      rw [n_and1 (by omega), e1, n_ar]
      by_cases hb : B.testBit K = true
      · have hb2 := testB.mp hb
        rw [if_pos hb, if_pos (by rw [hb2]; rfl), p_clearP i2 hx, Option.bind_some, Option.bind_some]
      · have hb2 : B / 2 ^ K % 2 = 0 := by
          have : ¬ B / 2 ^ K % 2 = 1 := fun z => hb (testB.mpr z)
          omega
        rw [if_neg hb, if_neg (by rw [hb2]; decide), Option.bind_some]) (by
    intro zn
    show l_C_breakByLot_11 (nI zq) (zn + 1) (ltS (wst M 0) B (nI zq) 16).1.1 (nI (B / 2 ^ (ltS (wst M 0) B (nI zq) 16).1.2)) (nI 16) (mP M 1 (ltS (wst M 0) B (nI zq) 16).2 (M 6 0 5)) = _
    rw [l_C_breakByLot_11, if_pos (by decide)]) 2000 (by decide)
  have h : l_C_breakByLot_11 (nI zq) 2000 (ltS (wst M 0) B (nI zq) 0).1.1 (nI (B / 2 ^ (ltS (wst M 0) B (nI zq) 0).1.2)) 0 (mP M 1 (ltS (wst M 0) B (nI zq) 0).2 (M 6 0 5)) = some ((ltS (wst M 0) B (nI zq) 16).1.1, mP M 1 (ltS (wst M 0) B (nI zq) 16).2 (M 6 0 5)) := h
  rw [ltS_0] at h
  have h : l_C_breakByLot_11 (nI zq) 2000 1 (nI (B / 2 ^ 0)) 0 (mP M 1 (wst M 0) (M 6 0 5)) = some ((ltS (wst M 0) B (nI zq) 16).1.1, mP M 1 (ltS (wst M 0) B (nI zq) 16).2 (M 6 0 5)) := h
  rw [Nat.pow_zero, Nat.div_one] at h
  rw [p_become ht, Option.bind_some, h, Option.bind_some]
theorem m_lot {N : wc_M} {x1 x2 x4 x5 x6 x7 : Int32} {B zq : Nat} {st F as : Nat → Int32} {lo br : Int32} (hB : B < 2 ^ 16) (hq : zq ≤ 10) (hs : sOk st) (hk : sKd st) : l_M_lots_61 x1 x2 (nI zq) x4 x5 x6 x7 (nI B) 2000 1 0 0 (mR N st F lo br as) = some ((ltS st B (nI zq) 16).1.1, mR N (ltS st B (nI zq) 16).2 F lo br as) := by
  have h := loop_to (fun zn zx (s : Int32 × Int32 × wc_M) => l_M_lots_61 x1 x2 (nI zq) x4 x5 x6 x7 (nI B) zn s.1 s.2.1 zx s.2.2) (fun x => ((ltS st B (nI zq) x).1.1, nI (ltS st B (nI zq) x).1.2, mR N (ltS st B (nI zq) x).2 F lo br as)) 16 ((ltS st B (nI zq) 16).1.1, mR N (ltS st B (nI zq) 16).2 F lo br as) (by
    intro zn x hx
    obtain ⟨i1, i2, i3, i4, w, i5, i6⟩ := ltS_p hs hk B zq hq x (by omega)
    obtain ⟨kn, hkn, hke⟩ := i3 x hx
    have hle : (ltS st B (nI zq) x).1.2 ≤ x := by
      rw [i1]
      exact sWn_le st x
    show l_M_lots_61 x1 x2 (nI zq) x4 x5 x6 x7 (nI B) (zn + 1) (ltS st B (nI zq) x).1.1 (nI (ltS st B (nI zq) x).1.2) (nI x) (mR N (ltS st B (nI zq) x).2 F lo br as) = l_M_lots_61 x1 x2 (nI zq) x4 x5 x6 x7 (nI B) zn (ltS st B (nI zq) (x + 1)).1.1 (nI (ltS st B (nI zq) (x + 1)).1.2) (nI (x + 1)) (mR N (ltS st B (nI zq) (x + 1)).2 F lo br as)
    rw [l_M_lots_61, if_neg (by rw [n_le (by decide) (by omega)]; omega), r_isWork hx hkn hke, Option.bind_some, i4 x (by omega) hx]
    by_cases h0 : st (9 + x) = 0
    · rw [if_pos h0, if_pos rfl, ltS_s, if_pos h0, n_ar]
    · rw [if_neg h0, if_neg (by decide), ltS_s, if_neg h0, m_has (by omega) (by omega)]
      by_cases hb : B.testBit (ltS st B (nI zq) x).1.2 = true
      · rw [if_pos hb, if_pos hb, if_neg (by decide), Option.bind_some, if_neg (by decide), r_clear hx, Option.bind_some, n_ar, n_ar]
      · rw [if_neg hb, if_neg hb, if_pos rfl, Option.bind_some, if_pos rfl, n_ar, n_ar]) (by
    intro zn
    show l_M_lots_61 x1 x2 (nI zq) x4 x5 x6 x7 (nI B) (zn + 1) (ltS st B (nI zq) 16).1.1 (nI (ltS st B (nI zq) 16).1.2) (nI 16) (mR N (ltS st B (nI zq) 16).2 F lo br as) = _
    rw [l_M_lots_61, if_pos (by decide)]) 2000 (by decide)
  have h : l_M_lots_61 x1 x2 (nI zq) x4 x5 x6 x7 (nI B) 2000 (ltS st B (nI zq) 0).1.1 (nI (ltS st B (nI zq) 0).1.2) 0 (mR N (ltS st B (nI zq) 0).2 F lo br as) = _ := h
  rw [ltS_0] at h
  exact h
theorem c_lots31 {x1 x2 x3 x4 : Int32} : ∀ (n p q f : Nat), n < 100 → n < f → l_C_lots_31 x1 x2 x3 x4 f (nI p) (nI q) (nI n) = some (nI (p * 2 ^ n), nI (q * 10 ^ n))
  | 0, p, q, f, _, hf => by
    obtain ⟨f, rfl⟩ : ∃ m, f = m + 1 := ⟨f - 1, by omega⟩
    rw [l_C_lots_31, if_pos (by decide)]
    show some (nI p, nI q) = some (nI (p * 1), nI (q * 1))
    rw [Nat.mul_one, Nat.mul_one]
  | n + 1, p, q, f, hn, hf => by
    obtain ⟨f, rfl⟩ : ∃ m, f = m + 1 := ⟨f - 1, by omega⟩
    have e2 : nI p * 2 = nI (p * 2) := pk_mul p 2
    have e10 : nI q * 10 = nI (q * 10) := pk_mul q 10
    rw [l_C_lots_31, if_neg (by
      intro h
      have := (nI_leI (a := n + 1) (b := 0) (by omega) (by omega)).mp h
      omega), n_m1, e2, e10, c_lots31 n _ _ f (by omega) (by omega), Nat.pow_succ, Nat.pow_succ, Nat.mul_assoc, Nat.mul_assoc, Nat.mul_comm 2, Nat.mul_comm 10]
theorem m_lots39 {x1 x2 x3 x4 x6 : Int32} {n : Nat} (hn : n < 100) : l_M_lots_39 x1 x2 x3 x4 (nI n) x6 2000 1 0 = some (nI (10 ^ n)) := by
  have h := loop_to (fun zn zx zs => l_M_lots_39 x1 x2 x3 x4 (nI n) x6 zn zs zx) (fun zc => nI (10 ^ zc)) n (nI (10 ^ n)) (by
    intro zn zc hzc
    show l_M_lots_39 x1 x2 x3 x4 (nI n) x6 (zn + 1) (nI (10 ^ zc)) (nI zc) = l_M_lots_39 x1 x2 x3 x4 (nI n) x6 zn (nI (10 ^ (zc + 1))) (nI (zc + 1))
    have e10 : nI (10 ^ zc) * 10 = nI (10 ^ zc * 10) := pk_mul _ 10
    rw [l_M_lots_39, if_neg (by rw [nI_leI (by omega) (by omega)]; omega), n_ar, e10, Nat.pow_succ]) (by
    intro zn
    show l_M_lots_39 x1 x2 x3 x4 (nI n) x6 (zn + 1) (nI (10 ^ n)) (nI n) = _
    rw [l_M_lots_39, if_pos (by rw [nI_leI (by omega) (by omega)]; omega)]) 2000 (by omega)
  exact h
theorem c_lots47 {M : wc_M} {x4 x6 v : Int32} {C zc zq : Nat} (hC : C ≤ 64) (hc : zc < 16) (hq : zq ≤ 10) (hk : sKd (wst M 0)) (ht : wzb (M 6 0 5) = true) : ∃ M', l_C_lots_47 (nI zc) v (nI zq) x4 (nI C) x6 2000 0 0 M = some (abL (wst M 0) (nI zq) v zc C, M') ∧ ∀ k i s, ¬ ((6 ≤ k ∧ k ≤ 11 ∧ i = 1) ∨ (12 ≤ k ∧ k ≤ 14)) → M' k i s = M k i s := by
  obtain ⟨R, h1, M', h2, h3⟩ := loop_inv (fun zn zx (s : Int32 × wc_M) => l_C_lots_47 (nI zc) v (nI zq) x4 (nI C) x6 zn s.1 zx s.2) (fun B s => ∃ M', s = (abL (wst M 0) (nI zq) v zc B, M') ∧ ∀ k i s, ¬ ((6 ≤ k ∧ k ≤ 11 ∧ i = 1) ∨ (12 ≤ k ∧ k ≤ 14)) → M' k i s = M k i s) C (fun R => ∃ M', R = (abL (wst M 0) (nI zq) v zc C, M') ∧ ∀ k i s, ¬ ((6 ≤ k ∧ k ≤ 11 ∧ i = 1) ∨ (12 ≤ k ∧ k ≤ 14)) → M' k i s = M k i s) (by
    rintro zn B s hB ⟨M', rfl, hM⟩
    have e0 : wst M' 0 = wst M 0 := wst_fr (fun zk zs h1 h2 => hM _ _ _ (by omega))
    have e1 : M' 6 0 5 = M 6 0 5 := hM _ _ _ (by omega)
    obtain ⟨_, i2, _⟩ := ltS_p (wst_ok M 0) hk B zq hq 16 (by omega)
    refine ⟨(abL (wst M 0) (nI zq) v zc (B + 1), mA (mP M' 1 (ltS (wst M 0) B (nI zq) 16).2 (M 6 0 5)) (bF (ltS (wst M 0) B (nI zq) 16).2) (bL (ltS (wst M 0) B (nI zq) 16).2)), ⟨_, rfl, fun k i s hz => by rw [mA_off (by omega), mP_off (by omega), hM _ _ _ hz]⟩, ?_⟩
    show l_C_lots_47 (nI zc) v (nI zq) x4 (nI C) x6 (zn + 1) (abL (wst M 0) (nI zq) v zc B) (nI B) M' = l_C_lots_47 (nI zc) v (nI zq) x4 (nI C) x6 zn (abL (wst M 0) (nI zq) v zc (B + 1)) (nI (B + 1)) (mA (mP M' 1 (ltS (wst M 0) B (nI zq) 16).2 (M 6 0 5)) (bF (ltS (wst M 0) B (nI zq) 16).2) (bL (ltS (wst M 0) B (nI zq) 16).2))
    rw [l_C_lots_47, if_neg (by rw [nI_leI (by omega) (by omega)]; omega), c_lot (by omega) hq (by rw [e0]; exact hk) (by rw [e1]; exact ht), Option.bind_some, e0, e1, a_blow, Option.bind_some, wst_mP i2, if_pos (n_wib (by omega) (by decide)), n_t (by omega), mA_f hc, abL_s, n_ar]
    by_cases h : bF (ltS (wst M 0) B (nI zq) 16).2 zc < v
    · rw [if_pos h, if_pos h]
    · rw [if_neg h, if_neg h]) (by
    rintro zn s ⟨M', rfl, hM⟩
    refine ⟨_, ?_, M', rfl, hM⟩
    show l_C_lots_47 (nI zc) v (nI zq) x4 (nI C) x6 (zn + 1) (abL (wst M 0) (nI zq) v zc C) (nI C) M' = _
    rw [l_C_lots_47, if_pos (by rw [nI_leI (by omega) (by omega)]; omega)]) C 0 2000 (0, M) (by omega) (by omega) (by omega) ⟨M, by rw [abL], fun _ _ _ _ => rfl⟩
  rw [h2] at h1
  exact ⟨M', h1, h3⟩
theorem m_lots50 {N : wc_M} {x4 x7 v lo br : Int32} {n zc zq : Nat} {st F : Nat → Int32} (hn : n ≤ 6) (hc : zc < 16) (hq : zq ≤ 10) (hs : sOk st) (hk : sKd st) : ∃ F' lo', l_M_lots_50 (nI zc) v (nI zq) x4 (nI n) x7 2000 0 0 (mR N st F lo br st) = some (abL st (nI zq) v zc (2 ^ n), mR N st F' lo' br st) := by
  have hp : 2 ^ n ≤ 64 := Nat.pow_le_pow_right (i := n) (j := 6) (by decide) hn
  have esh : (1 : Int32) <<< (nI n &&& 31) = nI (2 ^ n) := by
    have := n_shl (m := 1) (c := n) (by omega) (by omega)
    rw [Nat.one_mul] at this
    exact this
  obtain ⟨R, h1, F', lo', h2⟩ := loop_inv (fun zn zx (s : Int32 × wc_M) => l_M_lots_50 (nI zc) v (nI zq) x4 (nI n) x7 zn s.1 zx s.2) (fun B s => ∃ F lo, s = (abL st (nI zq) v zc B, mR N st F lo br st)) (2 ^ n) (fun R => ∃ F' lo', R = (abL st (nI zq) v zc (2 ^ n), mR N st F' lo' br st)) (by
    rintro zn B s hB ⟨F, lo, rfl⟩
    obtain ⟨_, i2, i3, _⟩ := ltS_p hs hk B zq hq 16 (by omega)
    refine ⟨(abL st (nI zq) v zc (B + 1), mR N st (bF (ltS st B (nI zq) 16).2) (bL (ltS st B (nI zq) 16).2) br st), ⟨_, _, rfl⟩, ?_⟩
    show l_M_lots_50 (nI zc) v (nI zq) x4 (nI n) x7 (zn + 1) (abL st (nI zq) v zc B) (nI B) (mR N st F lo br st) = l_M_lots_50 (nI zc) v (nI zq) x4 (nI n) x7 zn (abL st (nI zq) v zc (B + 1)) (nI (B + 1)) (mR N st (bF (ltS st B (nI zq) 16).2) (bL (ltS st B (nI zq) 16).2) br st)
    have ef : f_M_feltNow (nI zc) (mR N (ltS st B (nI zq) 16).2 F lo br st) = some (bF (ltS st B (nI zq) 16).2 zc, mR N (ltS st B (nI zq) 16).2 (bF (ltS st B (nI zq) 16).2) (bL (ltS st B (nI zq) 16).2) br st) := by
      unfold f_M_feltNow
      rw [r_blow i3, Option.bind_some, if_pos (n_wib (by omega) (by decide)), n_t (by omega), mR_f (by omega)]
    rw [l_M_lots_50, esh, if_neg (by rw [nI_leI (by omega) (by omega)]; omega), m_lot (by omega) hq hs hk, Option.bind_some, ef, Option.bind_some]
    show Option.bind (if bF (ltS st B (nI zq) 16).2 zc < v then some (0 : Int32) else some (ltS st B (nI zq) 16).1.1) (fun t11 => (Option.bind (f_M_takeBack (mR N (ltS st B (nI zq) 16).2 (bF (ltS st B (nI zq) 16).2) (bL (ltS st B (nI zq) 16).2) br st)) fun m13 => l_M_lots_50 (nI zc) v (nI zq) x4 (nI n) x7 zn (abL st (nI zq) v zc B + t11) (nI B + 1) m13)) = _
    rw [r_back i2 hs, abL_s, n_ar]
    by_cases h : bF (ltS st B (nI zq) 16).2 zc < v
    · rw [if_pos h, if_pos h, Option.bind_some, Option.bind_some, show abL st (nI zq) v zc B + 0 = abL st (nI zq) v zc B from by simp]
    · rw [if_neg h, if_neg h, Option.bind_some, Option.bind_some]) (by
    rintro zn s ⟨F, lo, rfl⟩
    refine ⟨_, ?_, F, lo, rfl⟩
    show l_M_lots_50 (nI zc) v (nI zq) x4 (nI n) x7 (zn + 1) (abL st (nI zq) v zc (2 ^ n)) (nI (2 ^ n)) (mR N st F lo br st) = _
    rw [l_M_lots_50, esh, if_pos (by rw [nI_leI (by omega) (by omega)]; omega)]) (2 ^ n) 0 2000 (0, mR N st F lo br st) (Nat.sub_zero _) (Nat.zero_le _) (Nat.lt_of_le_of_lt hp (by decide)) ⟨F, lo, by rw [abL]⟩
  rw [h2] at h1
  exact ⟨F', lo', h1⟩
theorem q_lots (a1 a2 a3 a4 : Int32) {M : wc_M} (r : Rel M) : Ag (f_C_lots a1 a2 a3 a4) (f_M_lots a1 a2 a3 a4) M := by
  unfold f_C_lots f_M_lots
  by_cases h0 : M 6 0 5 = 0
  · exact Ag_i (if_pos h0) (if_pos (by rw [Rel_m4 r]; exact h0)) rfl r
  by_cases h1 : f_C_isUpTo a1 15 = 0
  · exact Ag_i (M1 := M) (M2 := M) (by rw [if_neg h0, c_cell, if_pos h1]) (by rw [Rel_m4 r, if_neg h0, m_isCell, if_pos h1]) rfl r
  by_cases h2 : f_C_isUpTo a2 99 = 0
  · exact Ag_i (M1 := M) (M2 := M) (by rw [if_neg h0, c_cell, if_neg h1, if_pos h2]) (by rw [Rel_m4 r, if_neg h0, m_isCell, if_neg h1, m_up_99, if_pos h2]) rfl r
  by_cases h3 : f_C_isUpTo a3 10 = 0
  · exact Ag_i (M1 := M) (M2 := M) (by rw [if_neg h0, c_cell, if_neg h1, if_neg h2, if_pos h3]) (by rw [Rel_m4 r, if_neg h0, m_isCell, if_neg h1, m_up_99, if_neg h2, m_up_10, if_pos h3]) rfl r
  by_cases h4 : f_C_isUpTo a4 1 = 0
  · exact Ag_i (M1 := M) (M2 := M) (by rw [if_neg h0, c_cell, if_neg h1, if_neg h2, if_neg h3, if_pos h4]) (by rw [Rel_m4 r, if_neg h0, m_isCell, if_neg h1, m_up_99, if_neg h2, m_up_10, if_neg h3, m_up_1, if_pos h4]) rfl r
  obtain ⟨zc, hzc, rfl⟩ := c_upK (by decide) h1
  obtain ⟨zq, hq, rfl⟩ := c_upK (by decide) h3
  have hc : zc < 16 := by omega
  have hq : zq ≤ 10 := hq
  have hw := Rel_w r
  have hs := sW_ok hw
  have hk := sW_kd hw
  have hn : sWn (wst M 0) 16 ≤ 6 := hw.2.2.2.2.2
  have hp : 2 ^ (sWn (wst M 0) 16) ≤ 64 := Nat.pow_le_pow_right (i := sWn (wst M 0) 16) (j := 6) (by decide) hn
  have h10 := pow10 hn
  have h10p : 0 < 10 ^ (sWn (wst M 0) 16) := Nat.pow_pos (by decide)
  obtain ⟨M1, hC, hM1⟩ := c_lots47 (M := M) (x4 := a4) (x6 := nI (10 ^ (sWn (wst M 0) 16))) (v := a2) (C := 2 ^ (sWn (wst M 0) 16)) (zc := zc) (zq := zq) hp hc hq hk (Rel_wz r)
  have r1 : Rel M1 := Rel_of (fun zk zi zs hz => hM1 _ _ _ (by unfold Irr at hz; omega)) r
  have w1 : wst M1 0 = wst M 0 := wst_fr (fun zk zs _ _ => hM1 _ _ _ (by omega))
  have g4 : M1 21 0 4 = M 6 0 5 := (hM1 _ _ _ (by omega)).trans (Rel_m4 r)
  have ef : wrs M1 25 0 = wst M 0 := (Rel_e25 r1).trans w1
  obtain ⟨F2, lo2, hM⟩ := m_lots50 (N := M1) (x4 := a4) (x7 := nI (10 ^ (sWn (wst M 0) 16))) (v := a2) (lo := M1 21 0 19) (br := M1 21 0 20) (n := sWn (wst M 0) 16) (zc := zc) (zq := zq) (st := wst M 0) (F := M1 29 0) hn hc hq hs hk
  obtain ⟨t, ht, hab⟩ := abL_b hw (v := a2) (zc := zc) hq (2 ^ (sWn (wst M 0) 16))
  have r2 := Rel_R (F := F2) (lo := lo2) (br := M1 21 0 20) (as := wst M 0) r1
  rw [w1] at r2
  rw [hab] at hC hM
  have hA := r_aside (M := M1) (st := wst M 0) (F := M1 29 0) (as := wrs M1 31 0) (lo := M1 21 0 19) (br := M1 21 0 20) hs (wrs_ok _ _ _)
  rw [form_of ef] at hA
  have h31 := c_lots31 (x1 := nI zc) (x2 := a2) (x3 := nI zq) (x4 := a4) (sWn (wst M 0) 16) 1 1 2000 (by omega) (by omega)
  rw [Nat.one_mul, Nat.one_mul] at h31
  have hg1 := c_gcd 31 (10 ^ (sWn (wst M 0) 16)) t 0 2000 (by omega) (by omega) (by omega) (by omega) (by omega)
  have hg2 := m_gcd (x4 := a4) (x6 := nI t) (x7 := nI (10 ^ (sWn (wst M 0) 16))) 31 t (10 ^ (sWn (wst M 0) 16)) 2000 (by omega) (by omega) (by omega) (by omega)
  rw [Nat.gcd_comm] at hg2
  have gp : 0 < Nat.gcd (10 ^ (sWn (wst M 0) 16)) t := Nat.gcd_pos_of_pos_left _ h10p
  have gl : Nat.gcd (10 ^ (sWn (wst M 0) 16)) t ≤ 10 ^ (sWn (wst M 0) 16) := Nat.le_of_dvd h10p (Nat.gcd_dvd_left _ _)
  generalize hG : Nat.gcd (10 ^ (sWn (wst M 0) 16)) t = G at hg1 hg2 gp gl
  have hD : f_C_commonDivisor (nI (10 ^ (sWn (wst M 0) 16))) (nI t) = some (nI G) := by
    unfold f_C_commonDivisor
    rw [show l_C_commonDivisor_6 2000 (nI (10 ^ (sWn (wst M 0) 16))) (nI t) 0 = some (nI G) from hg1, Option.bind_some]
    by_cases h : G = 1
    · rw [h, if_neg (by decide)]
      rfl
    · rw [if_pos (by rw [n_gt (by decide) (by omega)]; omega)]
  have hG0 : ¬ nI G = 0 := fun z => by
    have := (nI_eq (a := G) (b := 0) (by omega) (by omega)).mp z
    omega
  refine Ag_i (r := if a4 = 0 then nI t / nI G else nI (10 ^ (sWn (wst M 0) 16)) / nI G) (M1 := M1) (M2 := mR M1 (wst M 0) F2 lo2 (M1 21 0 20) (wst M 0)) ?_ ?_ rfl r2
  · show (if M 6 0 5 = 0 then _ else _) = _
    rw [if_neg h0, c_cell, if_neg h1, if_neg h2, if_neg h3, if_neg h4, p_works, Option.bind_some]
    rw [show l_C_lots_31 (nI zc) a2 (nI zq) a4 2000 1 1 (nI (sWn (wst M 0) 16)) = _ from h31, Option.bind_some]
    show Option.bind (l_C_lots_47 (nI zc) a2 (nI zq) a4 (nI (2 ^ (sWn (wst M 0) 16))) (nI (10 ^ (sWn (wst M 0) 16))) 2000 0 0 M) _ = _
    rw [hC, Option.bind_some]
    show Option.bind (f_C_commonDivisor (nI (10 ^ (sWn (wst M 0) 16))) (nI t)) _ = _
    rw [hD, Option.bind_some]
    by_cases h : a4 = 0
    · rw [if_pos h, if_pos h, Option.bind_some, if_pos hG0]
    · rw [if_neg h, if_neg h, Option.bind_some, if_pos hG0]
  · show (if M1 21 0 4 = 0 then _ else _) = _
    rw [g4, if_neg h0, m_isCell, if_neg h1, m_up_99, if_neg h2, m_up_10, if_neg h3, m_up_1, if_neg h4, hA, Option.bind_some, r_works hk, Option.bind_some, m_lots39 (by omega), Option.bind_some, hM, Option.bind_some]
    show Option.bind (l_M_lots_109 a4 (nI t) (nI (10 ^ (sWn (wst M 0) 16))) 2000 (nI t) (nI (10 ^ (sWn (wst M 0) 16)))) _ = _
    rw [hg2, Option.bind_some]
    by_cases h : a4 = 0
    · rw [if_pos h, if_pos h, if_pos hG0]
    · rw [if_neg h, if_neg h, if_pos hG0]
