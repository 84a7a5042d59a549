/-! THE RELATION between what the class keeps and what the reference keeps -/
def sW (st : Nat → Int32) : Prop := sOk st ∧ sKd st ∧ (∀ y, y < 4 → ∃ n, n < 32 ∧ st (1 + y) = nI n) ∧ (∀ y, y < 4 → ∃ n, n < 32 ∧ st (5 + y) = nI n) ∧ (∀ c, c < 16 → st (9 + c) = 0 → st (25 + c) = 0 ∧ st (41 + c) = 0) ∧ sWn st 16 ≤ 6
theorem sW_ok {st : Nat → Int32} (h : sW st) : sOk st := h.1
theorem sW_kd {st : Nat → Int32} (h : sW st) : sKd st := h.2.1
def RelP (M : wc_M) : Prop := M 21 0 4 = M 6 0 5 ∧ (M 6 0 5 = 0 ∨ M 6 0 5 = 1) ∧ wrs M 25 0 = wst M 0 ∧ sW (wst M 0)
def RelF (M : wc_M) : Prop := M 21 0 3 = M 0 0 9
def RelR (M : wc_M) : Prop := ∀ r, r < 8 → (M 2 r 1 = 0 ∧ M 23 0 r = -1) ∨ (M 2 r 1 = 1 ∧ ∃ n l, n ≤ 40 ∧ l ≤ 2 ∧ M 2 r 3 = nI n ∧ M 23 0 r = nI n ∧ M 2 r 2 = nI l ∧ M 22 0 r = nI l ∧ ∀ i, i < 40 → M 3 r i = M 24 0 (40 * r + i))
def RelT (M : wc_M) : Prop := (∃ n, n ≤ 120 ∧ M 4 0 1 = nI n ∧ M 21 0 8 = nI n ∧ ∀ i, i < n → M 5 0 i = M 27 0 i) ∧ M 4 0 2 = M 21 0 9
/-- the acts that can be undone: k rows, the oldest first; as the class has them and as the reference has them -/
def RAc (M : wc_M) (H : Nat → Nat → Int32) (k : Nat) : Prop := ∃ n, n < 24 ∧ M 16 0 1 = nI n ∧ M 16 0 2 = nI k ∧ ∀ a, a < k → M 6 (2 + (n + 24 - k + a) % 24) 5 = 1 ∧ wst M (2 + (n + 24 - k + a) % 24) = H a
def RAm (M : wc_M) (H : Nat → Nat → Int32) (k : Nat) : Prop := M 21 0 22 = nI k ∧ ∀ a, a < k → wrs M 30 (57 * a) = H a
def RelA (M : wc_M) : Prop := ∃ H k, k ≤ 24 ∧ RAc M H k ∧ RAm M H k ∧ ∀ a, a < k → sW (H a)
def RelI (M : wc_M) : Prop := ∀ j, j < 2 → (M 6 (26 + j) 5 = 0 ∧ M 32 0 j = 0) ∨ (M 6 (26 + j) 5 = 1 ∧ M 32 0 j = 1 ∧ wst M (26 + j) = wrs M 33 (57 * j) ∧ sW (wst M (26 + j)))
def RelQ (M : wc_M) : Prop := ∃ n, n ≤ 16 ∧ M 19 0 1 = nI n ∧ M 21 0 27 = nI n ∧ ∀ i, i < n → M 20 0 i = M 34 0 i
def RelH (M : wc_M) : Prop := M 6 0 5 = 0 → M 16 0 2 = 0 ∧ ∀ j, j < 2 → M 6 (26 + j) 5 = 0
def Rel (M : wc_M) : Prop := RelP M ∧ RelF M ∧ RelR M ∧ RelT M ∧ RelA M ∧ RelI M ∧ RelQ M ∧ RelH M
theorem wst_fr {M M' : wc_M} {p : Nat} (h : ∀ k s, 6 ≤ k → k ≤ 11 → M' k p s = M k p s) : wst M' p = wst M p := by
  refine wst_eq (h _ _ (by omega) (by omega)) ?_ ?_ ?_ ?_ ?_
  all_goals intro zy _; exact h _ _ (by omega) (by omega)
theorem wrs_fr {M M' : wc_M} {k off : Nat} (h : ∀ s, M' k 0 s = M k 0 s) : wrs M' k off = wrs M k off := by
  funext zj
  unfold wrs
  split
  · exact h _
  · rfl
theorem RelP_of {M M' : wc_M} (h : ∀ k i s, (6 ≤ k ∧ k ≤ 11 ∧ i = 0) ∨ k = 25 ∨ (k = 21 ∧ s = 4) → M' k i s = M k i s) (r : RelP M) : RelP M' := by
  obtain ⟨r1, r2, r3, r4⟩ := r
  have e1 := h 21 0 4 (by omega)
  have e2 := h 6 0 5 (by omega)
  have e3 : wst M' 0 = wst M 0 := wst_fr (fun zk zs h1 h2 => h zk 0 zs (by omega))
  have e4 : wrs M' 25 0 = wrs M 25 0 := wrs_fr (fun zs => h 25 0 zs (by omega))
  exact ⟨by rw [e1, e2]; exact r1, by rw [e2]; exact r2, by rw [e3, e4]; exact r3, by rw [e3]; exact r4⟩
theorem RelF_of {M M' : wc_M} (h : ∀ k i s, (k = 0 ∧ s = 9) ∨ (k = 21 ∧ s = 3) → M' k i s = M k i s) (r : RelF M) : RelF M' := by
  unfold RelF
  rw [h 21 0 3 (by omega), h 0 0 9 (by omega)]
  exact r
theorem RelR_of {M M' : wc_M} (h : ∀ k i s, k = 2 ∨ k = 3 ∨ k = 22 ∨ k = 23 ∨ k = 24 → M' k i s = M k i s) (r : RelR M) : RelR M' := by
  intro zr hr
  have e := r zr hr
  rw [h 2 zr 1 (by omega), h 2 zr 2 (by omega), h 2 zr 3 (by omega), h 22 0 zr (by omega), h 23 0 zr (by omega)]
  rcases e with e | ⟨e1, n, l, hn, hl, e2, e3, e4, e5, e6⟩
  · exact Or.inl e
  · exact Or.inr ⟨e1, n, l, hn, hl, e2, e3, e4, e5, fun zi hi => by rw [h 3 zr zi (by omega), h 24 0 _ (by omega)]; exact e6 zi hi⟩
theorem RelT_of {M M' : wc_M} (h : ∀ k i s, (k = 4 ∧ s ≤ 2) ∨ k = 5 ∨ k = 27 ∨ (k = 21 ∧ (s = 8 ∨ s = 9)) → M' k i s = M k i s) (r : RelT M) : RelT M' := by
  obtain ⟨⟨n, hn, e1, e2, e3⟩, e4⟩ := r
  unfold RelT
  rw [h 4 0 1 (by omega), h 4 0 2 (by omega), h 21 0 8 (by omega), h 21 0 9 (by omega)]
  exact ⟨⟨n, hn, e1, e2, fun zi hi => by rw [h 5 0 zi (by omega), h 27 0 zi (by omega)]; exact e3 zi hi⟩, e4⟩
theorem RAc_of {M M' : wc_M} {H : Nat → Nat → Int32} {k : Nat} (h : ∀ k i s, (6 ≤ k ∧ k ≤ 11 ∧ 2 ≤ i ∧ i ≤ 25) ∨ k = 16 → M' k i s = M k i s) (r : RAc M H k) : RAc M' H k := by
  obtain ⟨n, hn, e1, e2, e4⟩ := r
  refine ⟨n, hn, ?_, ?_, ?_⟩
  · rw [h 16 0 1 (by omega)]; exact e1
  · rw [h 16 0 2 (by omega)]; exact e2
  · intro za ha
    rw [h 6 _ 5 (by omega), wst_fr (M := M) (fun zk zs h1 h2 => h zk _ zs (by omega))]
    exact e4 za ha
theorem RAm_of {M M' : wc_M} {H : Nat → Nat → Int32} {k : Nat} (h : ∀ k i s, k = 30 ∨ (k = 21 ∧ s = 22) → M' k i s = M k i s) (r : RAm M H k) : RAm M' H k := by
  obtain ⟨e1, e2⟩ := r
  refine ⟨?_, ?_⟩
  · rw [h 21 0 22 (by omega)]; exact e1
  · intro za ha
    rw [wrs_fr (M := M) (fun zs => h 30 0 zs (by omega))]
    exact e2 za ha
theorem RelA_of {M M' : wc_M} (h : ∀ k i s, (6 ≤ k ∧ k ≤ 11 ∧ 2 ≤ i ∧ i ≤ 25) ∨ k = 16 ∨ k = 30 ∨ (k = 21 ∧ s = 22) → M' k i s = M k i s) (r : RelA M) : RelA M' := by
  obtain ⟨H, k, hk, e1, e2, e3⟩ := r
  exact ⟨H, k, hk, RAc_of (fun zk zi zs hz => h zk zi zs (by omega)) e1, RAm_of (fun zk zi zs hz => h zk zi zs (by omega)) e2, e3⟩
theorem RelI_of {M M' : wc_M} (h : ∀ k i s, (6 ≤ k ∧ k ≤ 11 ∧ 26 ≤ i ∧ i ≤ 27) ∨ k = 32 ∨ k = 33 → M' k i s = M k i s) (r : RelI M) : RelI M' := by
  intro zj hj
  have e := r zj hj
  rw [h 6 _ 5 (by omega), h 32 0 zj (by omega), wst_fr (M := M) (fun zk zs h1 h2 => h zk _ zs (by omega)), wrs_fr (M := M) (fun zs => h 33 0 zs (by omega))]
  exact e
theorem RelQ_of {M M' : wc_M} (h : ∀ k i s, (k = 19 ∧ s = 1) ∨ k = 20 ∨ k = 34 ∨ (k = 21 ∧ s = 27) → M' k i s = M k i s) (r : RelQ M) : RelQ M' := by
  obtain ⟨n, hn, e1, e2, e3⟩ := r
  refine ⟨n, hn, ?_, ?_, ?_⟩
  · rw [h 19 0 1 (by omega)]; exact e1
  · rw [h 21 0 27 (by omega)]; exact e2
  · intro zi hi
    rw [h 20 0 zi (by omega), h 34 0 zi (by omega)]
    exact e3 zi hi
theorem RelH_of {M M' : wc_M} (h : ∀ k i s, (k = 6 ∧ s = 5 ∧ i ≠ 1) ∨ k = 16 → M' k i s = M k i s) (r : RelH M) : RelH M' := by
  intro e
  rw [h 6 0 5 (by omega)] at e
  obtain ⟨e1, e2⟩ := r e
  refine ⟨?_, fun zj hj => ?_⟩
  · rw [h 16 0 2 (by omega)]; exact e1
  · rw [h 6 _ 5 (by omega)]; exact e2 zj hj
/-- cells that no call looks at before it writes them -/
def Irr (k i s : Nat) : Prop := (6 ≤ k ∧ k ≤ 11 ∧ i = 1) ∨ (12 ≤ k ∧ k ≤ 15) ∨ (k = 19 ∧ 2 ≤ s) ∨ (k = 4 ∧ 3 ≤ s) ∨ k = 26 ∨ k = 28 ∨ k = 29 ∨ k = 31 ∨ (k = 21 ∧ 10 ≤ s ∧ s ≤ 20)
theorem Rel_of {M M' : wc_M} (h : ∀ k i s, ¬ Irr k i s → M' k i s = M k i s) (r : Rel M) : Rel M' := by
  obtain ⟨r1, r2, r3, r4, r5, r6, r7, r8⟩ := r
  refine ⟨RelP_of ?_ r1, RelF_of ?_ r2, RelR_of ?_ r3, RelT_of ?_ r4, RelA_of ?_ r5, RelI_of ?_ r6, RelQ_of ?_ r7, RelH_of ?_ r8⟩
  all_goals intro zk zi zs hz; exact h zk zi zs (by unfold Irr; omega)
theorem Rel_A {M : wc_M} {F : Nat → Int32} {lo : Int32} (r : Rel M) : Rel (mA M F lo) :=
  Rel_of (fun zk zi zs hz => mA_off (by unfold Irr at hz; omega)) r
theorem Rel_1 {M : wc_M} {st : Nat → Int32} {th : Int32} (r : Rel M) : Rel (mP M 1 st th) :=
  Rel_of (fun zk zi zs hz => mP_off (by unfold Irr at hz; omega)) r
theorem Rel_R {M : wc_M} {F as : Nat → Int32} {lo br : Int32} (r : Rel M) : Rel (mR M (wst M 0) F lo br as) := by
  refine Rel_of (fun zk zi zs hz => ?_) r
  have e := r.1.2.2.1
  unfold mR
  by_cases h25 : zk = 25 ∧ zi = 0 ∧ zs < 57
  · rw [if_pos h25, ← e, wrs_at h25.2.2, h25.1, h25.2.1, Nat.zero_add]
  · rw [if_neg h25]
    unfold Irr at hz
    rw [if_neg (by omega), if_neg (by omega), if_neg (by omega), if_neg (by omega)]
theorem Rel_form {M : wc_M} (r : Rel M) : M = mR M (wst M 0) (M 29 0) (M 21 0 19) (M 21 0 20) (wrs M 31 0) := by
  have e := mR_id M
  rw [r.1.2.2.1] at e
  exact e.symm
theorem Rel_m4 {M : wc_M} (r : Rel M) : M 21 0 4 = M 6 0 5 := r.1.1
theorem Rel_wz {M : wc_M} (r : Rel M) : wzb (M 6 0 5) = true := by
  rcases r.1.2.1 with h | h
  · rw [h]; rfl
  · rw [h]; rfl
theorem Rel_w {M : wc_M} (r : Rel M) : sW (wst M 0) := r.1.2.2.2
/-- the call's two answers agree and what is kept agrees afterwards -/
def Ag (f g : wc_M → Option (Int32 × wc_M)) (M : wc_M) : Prop := ∃ r M1 M2, f M = some (r, M1) ∧ g M1 = some (r, M2) ∧ Rel M2
theorem Ag_i {f g : wc_M → Option (Int32 × wc_M)} {M M1 M2 : wc_M} {r r' : Int32} (h1 : f M = some (r, M1)) (h2 : g M1 = some (r', M2)) (e : r = r') (h3 : Rel M2) : Ag f g M := ⟨r, M1, M2, h1, by rw [e]; exact h2, h3⟩
theorem q_blowIn {M : wc_M} {zq : Nat} (r : Rel M) (hq : zq < 2000) : ∃ M2, f_M_blowIn (nI zq) M = some M2 ∧ Rel M2 ∧ (∀ j, j < 20 → M2 29 0 j = bF (pHn (wst M 0) zq) j) ∧ M2 21 0 19 = bL (pHn (wst M 0) zq) := by
  have hw := Rel_w r
  have e := Rel_form r
  refine ⟨mR M (wst M 0) (bF (pHn (wst M 0) zq)) (bL (pHn (wst M 0) zq)) (bLast (wst M 0) (M 21 0 20) zq) (wst M 0), ?_, Rel_R r, fun zj hj => mR_f hj, mR_lo⟩
  have hb := r_blowIn (M := M) (st := wst M 0) (F := M 29 0) (as := wrs M 31 0) (lo := M 21 0 19) (br := M 21 0 20) (zq := zq) (sW_kd hw) (sW_ok hw) (wrs_ok M 31 0) hq
  rw [← e] at hb
  exact hb
theorem q_felt (a1 a2 : Int32) {M : wc_M} (r : Rel M) : Ag (f_C_felt a1 a2) (f_M_felt a1 a2) M := by
  unfold f_C_felt f_M_felt
  by_cases h0 : M 6 0 5 = 0
  · exact Ag_i (if_pos h0) (if_pos (by rw [Rel_m4 r]; exact h0)) rfl r
  by_cases h1 : f_C_isUpTo a1 15 = 0
  · exact Ag_i (M1 := M) (M2 := M) (by rw [if_neg h0, c_cell, if_pos h1]) (by rw [Rel_m4 r, if_neg h0, m_isCell, if_pos h1]) rfl r
  by_cases h2 : f_C_isUpTo a2 40 = 0
  · exact Ag_i (M1 := M) (M2 := M) (by rw [if_neg h0, c_cell, if_neg h1, if_pos h2]) (by rw [Rel_m4 r, if_neg h0, m_isCell, if_neg h1, m_up_40, if_pos h2]) rfl r
  obtain ⟨zc, hc, rfl⟩ := c_upK (by decide) h1
  obtain ⟨zq, hq, rfl⟩ := c_upK (by decide) h2
  have r1 : Rel (mA (mP M 1 (pHn (wst M 0) zq) (M 6 0 5)) (bF (pHn (wst M 0) zq)) (bL (pHn (wst M 0) zq))) := Rel_A (Rel_1 r)
  have e1 : wst (mA (mP M 1 (pHn (wst M 0) zq) (M 6 0 5)) (bF (pHn (wst M 0) zq)) (bL (pHn (wst M 0) zq))) 0 = wst M 0 := by rw [wst_mA, wst_mPn (by omega)]
  obtain ⟨M2, b1, b2, b3, b4⟩ := q_blowIn (zq := zq) r1 (by omega)
  rw [e1] at b3 b4
  refine Ag_i (M2 := M2) (by rw [if_neg h0, c_cell, if_neg h1, if_neg h2, c_fore (Rel_wz r) (by omega), Option.bind_some, if_pos (n_wib (by omega) (by decide)), n_t (by omega), mA_f (by omega)]) (by rw [Rel_m4 r1, if_neg (by rw [mA_off (by omega), mP_off (by omega)]; exact h0), m_isCell, if_neg h1, m_up_40, if_neg h2, b1, Option.bind_some, if_pos (n_wib (by omega) (by decide)), n_t (by omega), b3 zc (by omega)]) rfl b2
theorem q_lost (a1 : Int32) {M : wc_M} (r : Rel M) : Ag (f_C_lost a1) (f_M_lost a1) M := by
  unfold f_C_lost f_M_lost
  by_cases h0 : M 6 0 5 = 0
  · exact Ag_i (if_pos h0) (if_pos (by rw [Rel_m4 r]; exact h0)) rfl r
  by_cases h2 : f_C_isUpTo a1 40 = 0
  · exact Ag_i (M1 := M) (M2 := M) (by rw [if_neg h0, if_pos h2]) (by rw [Rel_m4 r, if_neg h0, m_up_40, if_pos h2]) rfl r
  obtain ⟨zq, hq, rfl⟩ := c_upK (by decide) h2
  have r1 : Rel (mA (mP M 1 (pHn (wst M 0) zq) (M 6 0 5)) (bF (pHn (wst M 0) zq)) (bL (pHn (wst M 0) zq))) := Rel_A (Rel_1 r)
  have e1 : wst (mA (mP M 1 (pHn (wst M 0) zq) (M 6 0 5)) (bF (pHn (wst M 0) zq)) (bL (pHn (wst M 0) zq))) 0 = wst M 0 := by rw [wst_mA, wst_mPn (by omega)]
  obtain ⟨M2, b1, b2, b3, b4⟩ := q_blowIn (zq := zq) r1 (by omega)
  rw [e1] at b3 b4
  refine Ag_i (M2 := M2) (by rw [if_neg h0, if_neg h2, c_fore (Rel_wz r) (by omega), Option.bind_some, mA_lo]) (by rw [Rel_m4 r1, if_neg (by rw [mA_off (by omega), mP_off (by omega)]; exact h0), m_up_40, if_neg h2, b1, Option.bind_some, b4]) rfl b2
theorem q_leaves (a1 a2 : Int32) {M : wc_M} (r : Rel M) : Ag (f_C_leaves a1 a2) (f_M_leaves a1 a2) M := by
  unfold f_C_leaves f_M_leaves
  by_cases h0 : M 6 0 5 = 0
  · exact Ag_i (if_pos h0) (if_pos (by rw [Rel_m4 r]; exact h0)) rfl r
  by_cases h1 : f_C_isUpTo a1 3 = 0
  · exact Ag_i (M1 := M) (M2 := M) (by rw [if_neg h0, c_line, if_pos h1]) (by rw [Rel_m4 r, if_neg h0, m_isLine, if_pos h1]) rfl r
  by_cases h2 : f_C_isUpTo a2 40 = 0
  · exact Ag_i (M1 := M) (M2 := M) (by rw [if_neg h0, c_line, if_neg h1, if_pos h2]) (by rw [Rel_m4 r, if_neg h0, m_isLine, if_neg h1, m_up_40, if_pos h2]) rfl r
  obtain ⟨zc, hc, rfl⟩ := c_upK (by decide) h1
  obtain ⟨zq, hq, rfl⟩ := c_upK (by decide) h2
  have r1 : Rel (mA (mP M 1 (pHn (wst M 0) zq) (M 6 0 5)) (bF (pHn (wst M 0) zq)) (bL (pHn (wst M 0) zq))) := Rel_A (Rel_1 r)
  have e1 : wst (mA (mP M 1 (pHn (wst M 0) zq) (M 6 0 5)) (bF (pHn (wst M 0) zq)) (bL (pHn (wst M 0) zq))) 0 = wst M 0 := by rw [wst_mA, wst_mPn (by omega)]
  obtain ⟨M2, b1, b2, b3, b4⟩ := q_blowIn (zq := zq) r1 (by omega)
  rw [e1] at b3 b4
  refine Ag_i (M2 := M2) (by rw [if_neg h0, c_line, if_neg h1, if_neg h2, c_fore (Rel_wz r) (by omega), Option.bind_some, if_pos (n_wib (by omega) (by decide)), n_t (by omega), mA_l (by omega)]) (by rw [Rel_m4 r1, if_neg (by rw [mA_off (by omega), mP_off (by omega)]; exact h0), m_isLine, if_neg h1, m_up_40, if_neg h2, b1, Option.bind_some, n_al, if_pos (n_wib (by omega) (by decide)), n_t (by omega), b3 _ (by omega)]) rfl b2
