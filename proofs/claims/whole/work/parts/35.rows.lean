/-! ROWS and the tape -/
theorem sh_int (N : Int) (h0 : 0 ≤ N) (h1 : N < 4294967296) : ((N * 16777216 % 4294967296).bmod 4294967296) >>> 24 = (N.bmod 4294967296).bmod 256 := by
  rw [Int.shiftRight_eq_div_pow, Int.bmod_def, Int.bmod_def, Int.bmod_def]
  omega
theorem sh_int16 (N : Int) (h0 : 0 ≤ N) (h1 : N < 4294967296) : ((N * 65536 % 4294967296).bmod 4294967296) >>> 16 = (N.bmod 4294967296).bmod 65536 := by
  rw [Int.shiftRight_eq_div_pow, Int.bmod_def, Int.bmod_def, Int.bmod_def]
  omega
theorem i_toInt (x : Int32) : x.toInt = ((x.toBitVec.toNat : Nat) : Int).bmod 4294967296 := by
  show x.toBitVec.toInt = _
  rw [BitVec.toInt_eq_toNat_bmod]
theorem lane8 (x : Int32) : ((x <<< ((24 : Int32) &&& (31 : Int32))) >>> ((24 : Int32) &&& (31 : Int32))) = x.toInt8.toInt32 := by
  apply Int32.toInt_inj.mp
  obtain ⟨e1, e2⟩ := n_lane x ((24 : Int32) &&& (31 : Int32)) 24 rfl
  have hN : x.toBitVec.toNat < 4294967296 := x.toBitVec.isLt
  rw [e2, i_toInt, e1, Int8.toInt_toInt32, Int32.toInt_toInt8, i_toInt x]
  have := sh_int (x.toBitVec.toNat : Int) (by omega) (by omega)
  rw [← this]
  congr 2
theorem lane16 (x : Int32) : ((x <<< ((16 : Int32) &&& (31 : Int32))) >>> ((16 : Int32) &&& (31 : Int32))) = x.toInt16.toInt32 := by
  apply Int32.toInt_inj.mp
  obtain ⟨e1, e2⟩ := n_lane x ((16 : Int32) &&& (31 : Int32)) 16 rfl
  have hN : x.toBitVec.toNat < 4294967296 := x.toBitVec.isLt
  rw [e2, i_toInt, e1, Int16.toInt_toInt32, Int32.toInt_toInt16, i_toInt x]
  have := sh_int16 (x.toBitVec.toNat : Int) (by omega) (by omega)
  rw [← this]
  congr 2
theorem lanes {M : wc_M} {p : Nat} {x : Int32} : f_R_lowestBits p x M = f_M_asLane (M 2 p 2) x := by
  unfold f_R_lowestBits f_M_asLane
  rw [lane8, lane16]
theorem fi {M : wc_M} {a K : Nat} {i kI : Int32} (hk : kI = nI K) (h1 : 1 ≤ K) (h40 : K ≤ 40) (r : RelR M) (ha : a < 8) : (M 2 a 1 = 0 ∧ M 23 0 a = -1 ∧ f_C_findingIn (nI a) i kI M = some 1) ∨ (∃ n, n ≤ 40 ∧ M 23 0 a = nI n ∧ ((f_C_findingIn (nI a) i kI M = some 2 ∧ f_M_in i.toInt64 0 (nI n - kI).toInt64 = 0) ∨ (∃ zi, i = nI zi ∧ zi + K ≤ n ∧ f_C_findingIn (nI a) i kI M = some 0 ∧ f_M_in i.toInt64 0 (nI n - kI).toInt64 = 1 ∧ ∀ j, j < 40 → M 3 a j = M 24 0 (40 * a + j)))) := by
  rcases r a ha with ⟨e1, e2⟩ | ⟨e1, n, l, hn, hl, e2, e3, e4, e5, e6⟩
  · refine Or.inl ⟨e1, e2, ?_⟩
    unfold f_C_findingIn
    rw [if_pos (n_wib ha (by decide)), n_t (by omega), if_pos e1]
  · refine Or.inr ⟨n, hn, e3, ?_⟩
    have eC : f_C_findingIn (nI a) i kI M = some (if f_R_has a i kI M = 0 then 2 else 0) := by
      unfold f_C_findingIn
      rw [if_pos (n_wib ha (by decide)), n_t (by omega), if_neg (by rw [e1]; decide)]
      split <;> rfl
    have eh : f_R_has a i kI M = f_M_in i.toInt64 0 (nI n - kI).toInt64 := by
      rw [m_up]
      unfold f_R_has f_C_isUpTo
      rw [e2]
      by_cases h : i < 0
      · rw [if_pos h, if_pos h]
      · rw [if_neg h, if_neg h, if_neg (by rw [hk]; exact n_n0 (by omega))]
    rw [eC, eh]
    by_cases h : f_M_in i.toInt64 0 (nI n - kI).toInt64 = 0
    · exact Or.inl ⟨by rw [if_pos h], h⟩
    · refine Or.inr ?_
      rw [m_up] at h ⊢
      obtain ⟨h2, h3⟩ := c_up0 h
      obtain ⟨zi, hzi, rfl⟩ := n_of h2
      have hle : zi + K ≤ n := by
        by_cases hnK : n < K
        · have h4 : nI n - kI < 0 := by
            rw [hk]
            exact n_sneg (by omega) hnK
          exact absurd (Int32.lt_of_le_of_lt (Int32.le_trans h2 h3) h4) (by decide)
        · rw [hk, pk_sub (by omega)] at h3
          have := (nI_leI (by omega) (by omega)).mp h3
          omega
      refine ⟨zi, rfl, hle, by rw [if_neg h], ?_, e6⟩
      unfold f_C_isUpTo at h ⊢
      split at h
      · exact absurd rfl h
      · split at h
        · exact absurd rfl h
        · rename_i q1 q2
          rw [if_neg q1, if_neg q2]
theorem g_lacks {M : wc_M} {a : Nat} {i kI : Int32} (ha : a < 8) : f_M_lacks (nI a) i kI M = if 0 ≤ M 23 0 a then (if f_M_in i.toInt64 0 (M 23 0 a - kI).toInt64 = 0 then some (-1000010 - 2, wc_up M 21 0 3 2) else some (0, M)) else some (-1000010 - 1, wc_up M 21 0 3 1) := by
  unfold f_M_lacks
  rw [if_pos (n_wib ha (by decide)), n_t (by omega)]
  rfl
theorem RelR_one {M M' : wc_M} {r : Nat} (h : ∀ q, q < 8 → q ≠ r → (∀ s, M' 2 q s = M 2 q s) ∧ (∀ s, M' 3 q s = M 3 q s) ∧ M' 22 0 q = M 22 0 q ∧ M' 23 0 q = M 23 0 q ∧ ∀ i, i < 40 → M' 24 0 (40 * q + i) = M 24 0 (40 * q + i)) (hn : (M' 2 r 1 = 0 ∧ M' 23 0 r = -1) ∨ (M' 2 r 1 = 1 ∧ ∃ n l, n ≤ 40 ∧ l ≤ 2 ∧ M' 2 r 3 = nI n ∧ M' 23 0 r = nI n ∧ M' 2 r 2 = nI l ∧ M' 22 0 r = nI l ∧ ∀ i, i < 40 → M' 3 r i = M' 24 0 (40 * r + i))) (rr : RelR M) : RelR M' := by
  intro zq hq
  by_cases e : zq = r
  · subst e
    exact hn
  · obtain ⟨h1, h2, h3, h4, h5⟩ := h zq hq e
    rw [h1, h1, h1, h3, h4]
    rcases rr zq hq with z | ⟨z1, n, l, hn2, hl, z2, z3, z4, z5, z6⟩
    · exact Or.inl z
    · exact Or.inr ⟨z1, n, l, hn2, hl, z2, z3, z4, z5, fun i hi => by rw [h2, h5 i hi]; exact z6 i hi⟩
def mI (M : wc_M) (k i o n : Nat) (f : Nat → Int32) : wc_M := fun k' i' s => if k' = k ∧ i' = i ∧ o ≤ s ∧ s < o + n then f (s - o) else M k' i' s
theorem mI_off {M : wc_M} {k i o n : Nat} {f : Nat → Int32} {k' i' s : Nat} (h : ¬ (k' = k ∧ i' = i ∧ o ≤ s ∧ s < o + n)) : mI M k i o n f k' i' s = M k' i' s := by
  unfold mI
  rw [if_neg h]
theorem mI_at {M : wc_M} {k i o n j : Nat} {f : Nat → Int32} (h : j < n) : mI M k i o n f k i (o + j) = f j := by
  unfold mI
  rw [if_pos ⟨rfl, rfl, by omega, by omega⟩, show o + j - o = j by omega]
theorem mI_0 {M : wc_M} {k i o : Nat} {f : Nat → Int32} : mI M k i o 0 f = M := by
  funext a b c
  exact mI_off (by omega)
theorem mI_up {M : wc_M} {k i o n : Nat} {f : Nat → Int32} : wc_up (mI M k i o n f) k i (o + n) (f n) = mI M k i o (n + 1) f := by
  funext a b c
  unfold wc_up mI
  by_cases h : a = k ∧ b = i ∧ c = o + n
  · rw [if_pos h, if_pos (by omega), h.2.2, show o + n - o = n by omega]
  · rw [if_neg h]
    by_cases h2 : a = k ∧ b = i ∧ o ≤ c ∧ c < o + n
    · rw [if_pos h2, if_pos (by omega)]
    · rw [if_neg h2, if_neg (by omega)]
theorem q_row (a1 a2 a3 : Int32) {M : wc_M} (r : Rel M) : Ag (f_C_row a1 a2 a3) (f_M_row a1 a2 a3) M := by
  unfold f_C_row f_M_row
  by_cases h1 : f_C_isUpTo a1 7 = 0
  · exact Ag_i (M1 := M) (M2 := M) (by rw [if_pos h1]) (by rw [m_isRow, if_pos h1]) rfl r
  by_cases h2 : f_C_isUpTo a2 2 = 0
  · exact Ag_i (M1 := M) (M2 := M) (by rw [if_neg h1, if_pos h2]) (by rw [m_isRow, if_neg h1, m_up_2, if_pos h2]) rfl r
  by_cases h3 : a3 ≤ 40
  case neg => exact Ag_i (M1 := M) (M2 := M) (by rw [if_neg h1, if_neg h2, if_neg h3]) (by rw [m_isRow, if_neg h1, m_up_2, if_neg h2, if_neg h3]) rfl r
  by_cases h4 : 0 ≤ a3
  case neg => exact Ag_i (r := -1000010 - 4) (M1 := wc_up M 0 0 9 4) (M2 := wc_up (wc_up M 0 0 9 4) 21 0 3 4) (by rw [if_neg h1, if_neg h2, if_pos h3, if_neg h4]; rfl) (by rw [m_isRow, if_neg h1, m_up_2, if_neg h2, if_pos h3, if_neg h4]; rfl) rfl (Rel_find r)
  obtain ⟨za, hza, rfl⟩ := c_upK (by decide) h1
  obtain ⟨zl, hzl, rfl⟩ := c_upK (by decide) h2
  obtain ⟨zn, hzn, rfl⟩ : ∃ q, q ≤ 40 ∧ a3 = nI q := n_ofK (by decide) h4 h3
  have hC : ∀ N : wc_M, l_R_make_11 za 2000 0 N = some (mI N 3 za 0 40 (fun _ => 0)) := by
    intro N
    have h : l_R_make_11 za 2000 0 (mI N 3 za 0 0 (fun _ => 0)) = some (mI N 3 za 0 40 (fun _ => 0)) := loop_to (fun zn zx zM => l_R_make_11 za zn zx zM) (fun zc => mI N 3 za 0 zc (fun _ => 0)) 40 _ (by
      intro zn zc hzc
      show l_R_make_11 za (zn + 1) (nI zc) _ = _
      have e := mI_up (M := N) (k := 3) (i := za) (o := 0) (n := zc) (f := fun _ => (0 : Int32))
      rw [Nat.zero_add] at e
      rw [l_R_make_11, if_neg (by rw [n_le (by decide) (by omega)]; omega), if_pos (n_wib (by omega) (by decide)), n_ar, n_t (by omega), e]) (by
      intro zn
      show l_R_make_11 za (zn + 1) (nI 40) _ = _
      rw [l_R_make_11, if_pos (by decide)]) 2000 (by decide)
    rw [mI_0] at h
    exact h
  have hM : ∀ N : wc_M, l_M_row_32 (nI za) (nI zn) 2000 0 N = some (mI N 24 0 (40 * za) 40 (fun _ => 0)) := by
    intro N
    have h : l_M_row_32 (nI za) (nI zn) 2000 0 (mI N 24 0 (40 * za) 0 (fun _ => 0)) = some (mI N 24 0 (40 * za) 40 (fun _ => 0)) := loop_to (fun zm zx zM => l_M_row_32 (nI za) (nI zn) zm zx zM) (fun zc => mI N 24 0 (40 * za) zc (fun _ => 0)) 40 _ (by
      intro zm zc hzc
      show l_M_row_32 (nI za) (nI zn) (zm + 1) (nI zc) _ = _
      have e := mI_up (M := N) (k := 24) (i := 0) (o := 40 * za) (n := zc) (f := fun _ => (0 : Int32))
      rw [l_M_row_32, if_neg (by rw [n_le (by decide) (by omega)]; omega), n_ml, nI_add, if_pos (n_wib (by omega) (by decide)), n_ar, n_t (by omega), e]) (by
      intro zm
      show l_M_row_32 (nI za) (nI zn) (zm + 1) (nI 40) _ = _
      rw [l_M_row_32, if_pos (by decide)]) 2000 (by decide)
    rw [mI_0] at h
    exact h
  generalize hM1 : wc_up (mI (wc_up (wc_up (wc_up M 2 za 1 1) 2 za 2 (nI zl)) 2 za 3 (nI zn)) 3 za 0 40 (fun _ => 0)) 0 0 9 0 = M1
  generalize hM2 : wc_up (mI (wc_up (wc_up M1 22 0 za (nI zl)) 23 0 za (nI zn)) 24 0 (40 * za) 40 (fun _ => 0)) 21 0 3 0 = M2
  refine Ag_i (r := nI zn) (M1 := M1) (M2 := M2) ?_ ?_ rfl ?_
  · show (if f_C_isUpTo (nI za) 7 = 0 then _ else _) = _
    rw [if_neg h1, if_neg h2, if_pos h3, if_pos h4, if_pos (n_wib (by omega) (by decide)), n_t (by omega)]
    unfold f_R_make
    rw [hC, Option.bind_some, Option.bind_some, ← hM1]
    rfl
  · show (if f_M_isRow (nI za) = 0 then _ else _) = _
    rw [m_isRow, if_neg h1, m_up_2, if_neg h2, if_pos h3, if_pos h4, if_pos (n_wib (by omega) (by decide)), n_t (by omega), hM, Option.bind_some, ← hM2]
    rfl
  · have f1 : ∀ k i s, ¬ ((k = 2 ∧ i = za ∧ (s = 1 ∨ s = 2 ∨ s = 3)) ∨ (k = 3 ∧ i = za ∧ s < 40) ∨ (k = 0 ∧ i = 0 ∧ s = 9)) → M1 k i s = M k i s := by
      intro k i s hz
      rw [← hM1]
      unfold wc_up
      rw [if_neg (by omega), mI_off (by omega), if_neg (by omega), if_neg (by omega), if_neg (by omega)]
    have f2 : ∀ k i s, ¬ ((k = 22 ∧ i = 0 ∧ s = za) ∨ (k = 23 ∧ i = 0 ∧ s = za) ∨ (k = 24 ∧ i = 0 ∧ 40 * za ≤ s ∧ s < 40 * za + 40) ∨ (k = 21 ∧ i = 0 ∧ s = 3)) → M2 k i s = M1 k i s := by
      intro k i s hz
      rw [← hM2]
      unfold wc_up
      rw [if_neg (by omega), mI_off (by omega), if_neg (by omega), if_neg (by omega)]
    refine Rel_rw (M := M) ?_ r ?_ (RelR_one (M := M) (r := za) ?_ (Or.inr ⟨?_, zn, zl, hzn, hzl, ?_, ?_, ?_, ?_, ?_⟩) r.2.2.1)
    · intro zk zi zs hz
      rw [f2 _ _ _ (by omega), f1 _ _ _ (by omega)]
    · unfold RelF
      rw [f2 0 0 9 (by omega), ← hM2, ← hM1]
      unfold wc_up
      rw [if_pos ⟨rfl, rfl, rfl⟩, if_pos ⟨rfl, rfl, rfl⟩]
    · intro q hq hne
      refine ⟨fun s => ?_, fun s => ?_, ?_, ?_, fun i hi => ?_⟩
      all_goals rw [f2 _ _ _ (by omega), f1 _ _ _ (by omega)]
    · rw [f2 _ _ _ (by omega), ← hM1]
      unfold wc_up
      rw [if_neg (by omega), mI_off (by omega), if_neg (by omega), if_neg (by omega), if_pos ⟨rfl, rfl, rfl⟩]
    · rw [f2 _ _ _ (by omega), ← hM1]
      unfold wc_up
      rw [if_neg (by omega), mI_off (by omega), if_pos ⟨rfl, rfl, rfl⟩]
    · rw [← hM2]
      unfold wc_up
      rw [if_neg (by omega), mI_off (by omega), if_pos ⟨rfl, rfl, rfl⟩]
    · rw [f2 _ _ _ (by omega), ← hM1]
      unfold wc_up
      rw [if_neg (by omega), mI_off (by omega), if_neg (by omega), if_pos ⟨rfl, rfl, rfl⟩]
    · rw [← hM2]
      unfold wc_up
      rw [if_neg (by omega), mI_off (by omega), if_neg (by omega), if_pos ⟨rfl, rfl, rfl⟩]
    · intro i hi
      have e1 : M2 3 za i = 0 := by
        rw [f2 _ _ _ (by omega), ← hM1]
        unfold wc_up
        rw [if_neg (by omega)]
        have := mI_at (M := (wc_up (wc_up (wc_up M 2 za 1 1) 2 za 2 (nI zl)) 2 za 3 (nI zn))) (k := 3) (i := za) (o := 0) (n := 40) (j := i) (f := fun _ => (0 : Int32)) hi
        rw [Nat.zero_add] at this
        exact this
      have e2 : M2 24 0 (40 * za + i) = 0 := by
        rw [← hM2]
        unfold wc_up
        rw [if_neg (by omega)]
        exact mI_at hi
      rw [e1, e2]
theorem q_drop (a1 : Int32) {M : wc_M} (r : Rel M) : Ag (f_C_drop a1) (f_M_drop a1) M := by
  unfold f_C_drop f_M_drop
  by_cases h1 : f_C_isUpTo a1 7 = 0
  · exact Ag_i (M1 := M) (M2 := M) (by rw [if_pos h1]) (by rw [m_isRow, if_pos h1]) rfl r
  obtain ⟨za, hza, rfl⟩ := c_upK (by decide) h1
  rcases r.2.2.1 za (by omega) with ⟨e1, e2⟩ | ⟨e1, n, l, hn, hl, e2, e3, e4, e5, e6⟩
  · refine Ag_i (r := -1000010 - 1) (M1 := wc_up M 0 0 9 1) (M2 := wc_up (wc_up M 0 0 9 1) 21 0 3 1) ?_ ?_ rfl (Rel_find r)
    · show (if f_C_isUpTo (nI za) 7 = 0 then _ else _) = _
      rw [if_neg h1, if_pos (n_wib (by omega) (by decide)), n_t (by omega), if_pos e1]
      rfl
    · show (if f_M_isRow (nI za) = 0 then _ else _) = _
      rw [m_isRow, if_neg h1, if_pos (n_wib (by omega) (by decide)), n_t (by omega), show wc_up M 0 0 9 1 23 0 za = -1 from e2, if_neg (by decide)]
      rfl
  · refine Ag_i (r := nI n) (M1 := wc_up (wc_up M 2 za 1 0) 0 0 9 0) (M2 := wc_up (wc_up (wc_up (wc_up M 2 za 1 0) 0 0 9 0) 23 0 za (-1)) 21 0 3 0) ?_ ?_ rfl ?_
    · show (if f_C_isUpTo (nI za) 7 = 0 then _ else _) = _
      rw [if_neg h1, if_pos (n_wib (by omega) (by decide)), n_t (by omega), if_neg (by rw [e1]; decide), show wc_up M 2 za 1 0 2 za 3 = nI n from by
        unfold wc_up
        rw [if_neg (by omega)]
        exact e2]
      rfl
    · show (if f_M_isRow (nI za) = 0 then _ else _) = _
      rw [m_isRow, if_neg h1, if_pos (n_wib (by omega) (by decide)), n_t (by omega), show wc_up (wc_up M 2 za 1 0) 0 0 9 0 23 0 za = nI n from e3, if_pos (Int32.not_lt.mp (n_n0 (by omega)))]
      rfl
    · refine Rel_rw (M := M) ?_ r ?_ (RelR_one (M := M) (r := za) ?_ (Or.inl ⟨?_, ?_⟩) r.2.2.1)
      · intro zk zi zs hz
        unfold wc_up
        rw [if_neg (by omega), if_neg (by omega), if_neg (by omega), if_neg (by omega)]
      · unfold RelF wc_up
        rw [if_pos ⟨rfl, rfl, rfl⟩, if_neg (by omega), if_neg (by omega), if_pos ⟨rfl, rfl, rfl⟩]
      · intro q hq hne
        unfold wc_up
        refine ⟨fun s => ?_, fun s => ?_, ?_, ?_, fun i hi => ?_⟩
        all_goals rw [if_neg (by omega), if_neg (by omega), if_neg (by omega), if_neg (by omega)]
      · unfold wc_up
        rw [if_neg (by omega), if_neg (by omega), if_neg (by omega), if_pos ⟨rfl, rfl, rfl⟩]
      · unfold wc_up
        rw [if_neg (by omega), if_pos ⟨rfl, rfl, rfl⟩]
theorem q_set (a1 a2 a3 : Int32) {M : wc_M} (r : Rel M) : Ag (f_C_set a1 a2 a3) (f_M_set a1 a2 a3) M := by
  unfold f_C_set f_M_set
  by_cases h1 : f_C_isUpTo a1 7 = 0
  · exact Ag_i (M1 := M) (M2 := M) (by rw [if_pos h1]) (by rw [m_isRow, if_pos h1]) rfl r
  obtain ⟨za, hza, rfl⟩ := c_upK (by decide) h1
  rcases fi (M := M) (a := za) (K := 1) (i := a2) (kI := 1) rfl (by omega) (by omega) r.2.2.1 (by omega) with ⟨e1, e2, e3⟩ | ⟨n, hn, e1, ⟨e2, e3⟩ | ⟨zi, rfl, hzi, e2, e3, e4⟩⟩
  · refine Ag_i (r := -1000010 - 1) (M1 := wc_up M 0 0 9 1) (M2 := wc_up (wc_up M 0 0 9 1) 21 0 3 1) ?_ ?_ rfl (Rel_find r)
    · show (if f_C_isUpTo (nI za) 7 = 0 then _ else _) = _
      rw [if_neg h1, e3, Option.bind_some, if_neg (by decide)]
      rfl
    · show (if f_M_isRow (nI za) = 0 then _ else _) = _
      rw [m_isRow, if_neg h1, if_pos (n_wib (by omega) (by decide)), n_t (by omega), show wc_up M 0 0 9 1 23 0 za = -1 from e2, if_neg (by decide)]
      rfl
  · refine Ag_i (r := -1000010 - 2) (M1 := wc_up M 0 0 9 2) (M2 := wc_up (wc_up M 0 0 9 2) 21 0 3 2) ?_ ?_ rfl (Rel_find r)
    · show (if f_C_isUpTo (nI za) 7 = 0 then _ else _) = _
      rw [if_neg h1, e2, Option.bind_some, if_neg (by decide)]
      rfl
    · show (if f_M_isRow (nI za) = 0 then _ else _) = _
      rw [m_isRow, if_neg h1, if_pos (n_wib (by omega) (by decide)), n_t (by omega), show wc_up M 0 0 9 2 23 0 za = nI n from e1, if_pos (Int32.not_lt.mp (n_n0 (by omega))), e3, if_pos rfl]
      rfl
  · have el : M 2 za 2 = M 22 0 za ∧ (M 2 za 1 = 1 ∧ ∃ n l, n ≤ 40 ∧ l ≤ 2 ∧ M 2 za 3 = nI n ∧ M 23 0 za = nI n ∧ M 2 za 2 = nI l ∧ M 22 0 za = nI l ∧ ∀ i, i < 40 → M 3 za i = M 24 0 (40 * za + i)) := by
      rcases r.2.2.1 za (by omega) with ⟨z1, z2⟩ | z
      · rw [e1] at z2
        exact absurd z2 (by
          intro e
          have := n_n0 (c := n) (by omega)
          rw [e] at this
          exact this (by decide))
      · refine ⟨?_, z⟩
        obtain ⟨_, n2, l2, _, _, _, _, z4, z5, _⟩ := z
        rw [z4, z5]
    generalize hv : f_M_asLane (M 22 0 za) a3 = zv
    have eC : f_R_lowestBits za a3 M = zv := by rw [lanes, el.1, hv]
    refine Ag_i (r := zv) (M1 := wc_up (wc_up M 3 za zi zv) 0 0 9 0) (M2 := wc_up (wc_up (wc_up (wc_up M 3 za zi zv) 0 0 9 0) 24 0 (40 * za + zi) zv) 21 0 3 0) ?_ ?_ rfl ?_
    · show (if f_C_isUpTo (nI za) 7 = 0 then _ else _) = _
      rw [if_neg h1, e2, Option.bind_some, if_pos rfl, if_pos (n_wib (by omega) (by decide)), if_pos (n_wib (by omega) (by decide)), n_t (by omega), n_t (by omega), eC]
      rfl
    · show (if f_M_isRow (nI za) = 0 then _ else _) = _
      rw [m_isRow, if_neg h1, if_pos (n_wib (by omega) (by decide)), n_t (by omega), show wc_up (wc_up M 3 za zi zv) 0 0 9 0 23 0 za = nI n from e1, if_pos (Int32.not_lt.mp (n_n0 (by omega))), e3, if_neg (by decide), n_ml, nI_add, if_pos (n_wib (by omega) (by decide)), n_t (by omega), show wc_up (wc_up M 3 za zi zv) 0 0 9 0 22 0 za = M 22 0 za from rfl, hv]
      show Option.bind (f_M_well (if 24 = 24 ∧ 0 = 0 ∧ 40 * za + zi = 40 * za + zi then zv else _) _) _ = _
      rw [if_pos ⟨rfl, rfl, rfl⟩]
      rfl
    · obtain ⟨_, z1, n2, l2, z2, z3, z4, z5, z6, z7, z8⟩ := el
      refine Rel_rw (M := M) ?_ r ?_ (RelR_one (M := M) (r := za) ?_ (Or.inr ⟨?_, n2, l2, z2, z3, ?_, ?_, ?_, ?_, ?_⟩) r.2.2.1)
      · intro zk zi zs hz
        unfold wc_up
        rw [if_neg (by omega), if_neg (by omega), if_neg (by omega), if_neg (by omega)]
      · unfold RelF wc_up
        rw [if_pos ⟨rfl, rfl, rfl⟩, if_neg (by omega), if_neg (by omega), if_pos ⟨rfl, rfl, rfl⟩]
      · intro q hq hne
        unfold wc_up
        refine ⟨fun s => ?_, fun s => ?_, ?_, ?_, fun i hi => ?_⟩
        all_goals rw [if_neg (by omega), if_neg (by omega), if_neg (by omega), if_neg (by omega)]
      · exact z1
      · exact z4
      · exact z5
      · exact z6
      · exact z7
      · intro i hi
        unfold wc_up
        by_cases hiz : i = zi
        · subst hiz
          rw [if_neg (by omega), if_neg (by omega), if_neg (by omega), if_pos ⟨rfl, rfl, rfl⟩, if_neg (by omega), if_pos ⟨rfl, rfl, rfl⟩]
        · rw [if_neg (by omega), if_neg (by omega), if_neg (by omega), if_neg (by omega), if_neg (by omega), if_neg (by omega), if_neg (by omega), if_neg (by omega)]
          exact z8 i hi
theorem q_feed (a1 : Int32) {M : wc_M} (r : Rel M) : Ag (f_C_feed a1) (f_M_feed a1) M := by
  unfold f_C_feed f_M_feed f_T_add
  obtain ⟨⟨n, hn, t1, t2, t3⟩, t4⟩ := r.2.2.2.1
  by_cases h1 : f_C_isUpTo a1 255 = 0
  · exact Ag_i (M1 := M) (M2 := M) (by rw [if_pos h1]) (by rw [m_up_255, if_pos h1]) rfl r
  by_cases h2 : n = 120
  · refine Ag_i (r := -1000003) (M1 := M) (M2 := M) ?_ ?_ rfl r
    · rw [if_neg h1, if_neg (by rw [t1, n_lt (by decide) (by omega)]; omega), Option.bind_some, if_pos rfl]
    · rw [m_up_255, if_neg h1, if_pos (by rw [t2, h2]; rfl)]
  · generalize hM1 : wc_up (wc_up M 5 0 n a1) 4 0 1 (nI (n + 1)) = M1
    generalize hM2 : wc_up (wc_up M1 27 0 n a1) 21 0 8 (nI (n + 1)) = M2
    have f1 : ∀ k i s, ¬ ((k = 5 ∧ i = 0 ∧ s = n) ∨ (k = 4 ∧ i = 0 ∧ s = 1)) → M1 k i s = M k i s := by
      intro k i s hz
      rw [← hM1]
      unfold wc_up
      rw [if_neg (by omega), if_neg (by omega)]
    have f2 : ∀ k i s, ¬ ((k = 27 ∧ i = 0 ∧ s = n) ∨ (k = 21 ∧ i = 0 ∧ s = 8)) → M2 k i s = M1 k i s := by
      intro k i s hz
      rw [← hM2]
      unfold wc_up
      rw [if_neg (by omega), if_neg (by omega)]
    have g1 : M1 4 0 1 = nI (n + 1) := by
      rw [← hM1]
      unfold wc_up
      rw [if_pos ⟨rfl, rfl, rfl⟩]
    have g2 : M1 5 0 n = a1 := by
      rw [← hM1]
      unfold wc_up
      rw [if_neg (by omega), if_pos ⟨rfl, rfl, rfl⟩]
    have g3 : M2 21 0 8 = nI (n + 1) := by
      rw [← hM2]
      unfold wc_up
      rw [if_pos ⟨rfl, rfl, rfl⟩]
    have g4 : M2 27 0 n = a1 := by
      rw [← hM2]
      unfold wc_up
      rw [if_neg (by omega), if_pos ⟨rfl, rfl, rfl⟩]
    refine Ag_i (r := nI (n + 1)) (M1 := M1) (M2 := M2) ?_ ?_ rfl ?_
    · show (if f_C_isUpTo a1 255 = 0 then _ else _) = _
      rw [if_neg h1, if_pos (by rw [t1, n_lt (by decide) (by omega)]; omega), t1, if_pos (n_wib (by omega) (by decide)), n_t (by omega), show wc_up M 5 0 n a1 4 0 1 = nI n from t1, n_ar, hM1, Option.bind_some]
      show (if (1 : Int32) = 0 then _ else some (M1 4 0 1, M1)) = _
      rw [if_neg (by decide), g1]
    · have e8 : M1 21 0 8 = nI n := by rw [f1 _ _ _ (by omega)]; exact t2
      rw [m_up_255, if_neg h1, e8, if_neg (by rw [n_eq (by decide) (by omega)]; exact h2), if_pos (n_wib (by omega) (by decide)), n_t (by omega), show wc_up M1 27 0 n a1 21 0 8 = nI n from e8, n_ar, hM2, g3]
    · obtain ⟨r1, r2, r3, r4, r5, r6, r7, r8⟩ := r
      refine ⟨RelP_of ?_ r1, RelF_of ?_ r2, RelR_of ?_ r3, ⟨⟨n + 1, by omega, ?_, g3, ?_⟩, ?_⟩, RelA_of ?_ r5, RelI_of ?_ r6, RelQ_of ?_ r7, RelH_of ?_ r8⟩
      case refine_4 =>
        rw [f2 _ _ _ (by omega)]
        exact g1
      case refine_5 =>
        intro i hi
        by_cases e : i = n
        · rw [e, g4, f2 _ _ _ (by omega), g2]
        · rw [f2 _ _ _ (by omega), f1 _ _ _ (by omega), f2 _ _ _ (by omega), f1 _ _ _ (by omega)]
          exact t3 i (by omega)
      case refine_6 =>
        rw [f2 _ _ _ (by omega), f1 _ _ _ (by omega), f2 _ _ _ (by omega), f1 _ _ _ (by omega)]
        exact t4
      all_goals intro zk zi zs hz; rw [f2 _ _ _ (by omega), f1 _ _ _ (by omega)]
