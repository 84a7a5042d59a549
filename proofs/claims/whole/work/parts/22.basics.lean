/-! THE PURE SIDE. Small numbers as ints, loops, and what the smallest functions answer -/
theorem n_lit {K : Nat} : (OfNat.ofNat K : Int32) = nI (OfNat.ofNat K : Nat) := rfl
theorem n_al {K c : Nat} : (OfNat.ofNat K : Int32) + nI c = nI ((OfNat.ofNat K : Nat) + c) := by rw [n_lit, nI_add]
theorem n_ar {K c : Nat} : nI c + (OfNat.ofNat K : Int32) = nI (c + (OfNat.ofNat K : Nat)) := by rw [n_lit, nI_add]
theorem n_ml {K c : Nat} : (OfNat.ofNat K : Int32) * nI c = nI ((OfNat.ofNat K : Nat) * c) := by rw [n_lit, pk_mul]
theorem n_le {K c : Nat} (hK : K < 2 ^ 31) (hc : c < 2 ^ 31) : (OfNat.ofNat K : Int32) ≤ nI c ↔ (OfNat.ofNat K : Nat) ≤ c := by rw [n_lit]; exact nI_leI hK hc
theorem n_ge {K c : Nat} (hK : K < 2 ^ 31) (hc : c < 2 ^ 31) : nI c ≤ (OfNat.ofNat K : Int32) ↔ c ≤ (OfNat.ofNat K : Nat) := by rw [n_lit]; exact nI_leI hc hK
theorem n_lt {K c : Nat} (hK : K < 2 ^ 31) (hc : c < 2 ^ 31) : nI c < (OfNat.ofNat K : Int32) ↔ c < (OfNat.ofNat K : Nat) := by rw [n_lit]; exact nI_ltI hc hK
theorem n_gt {K c : Nat} (hK : K < 2 ^ 31) (hc : c < 2 ^ 31) : (OfNat.ofNat K : Int32) < nI c ↔ (OfNat.ofNat K : Nat) < c := by rw [n_lit]; exact nI_ltI hK hc
theorem n_eq {K c : Nat} (hK : K < 2 ^ 31) (hc : c < 2 ^ 31) : nI c = (OfNat.ofNat K : Int32) ↔ c = (OfNat.ofNat K : Nat) := by rw [n_lit]; exact nI_eq hc hK
theorem n_t {c : Nat} (hc : c < 2 ^ 31) : (nI c).toNatClampNeg = c := nI_clamp hc
theorem n_n0 {c : Nat} (hc : c < 2 ^ 31) : ¬ nI c < 0 := nI_pos hc
theorem n_wib {c N : Nat} (h : c < N) (hN : N < 2 ^ 31) : wib (nI c) N = true := by
  unfold wib
  rw [n_t (by omega)]
  simp [n_n0 (show c < 2 ^ 31 by omega), Nat.blt_eq, h]
theorem n_of {x : Int32} (h : 0 ≤ x) : ∃ c : Nat, c < 2 ^ 31 ∧ x = nI c := by
  obtain ⟨j, h1, h2⟩ := nI_of (x := x) (by rw [Int32.not_lt]; exact h)
  exact ⟨j, h1, h2⟩
theorem n_ofK {x : Int32} {K : Nat} (hK : K < 2 ^ 31) (h : 0 ≤ x) (h2 : x ≤ (OfNat.ofNat K : Int32)) : ∃ c : Nat, c ≤ (OfNat.ofNat K : Nat) ∧ x = nI c := by
  obtain ⟨c, hc, rfl⟩ := n_of h
  exact ⟨c, (n_ge hK hc).mp h2, rfl⟩
theorem n_ofL {x : Int32} {K : Nat} (hK : K < 2 ^ 31) (h : 0 ≤ x) (h2 : x < (OfNat.ofNat K : Int32)) : ∃ c : Nat, c < (OfNat.ofNat K : Nat) ∧ x = nI c := by
  obtain ⟨c, hc, rfl⟩ := n_of h
  exact ⟨c, (n_lt hK hc).mp h2, rfl⟩
/-- a counted loop -/
theorem loop_up {σ T : Type} (l : Nat → Int32 → σ → Option T) (G : Nat → σ) (N : Nat) (R : T) (hs : ∀ n c, c < N → l (n + 1) (nI c) (G c) = l n (nI (c + 1)) (G (c + 1))) (he : ∀ n, l (n + 1) (nI N) (G N) = some R) : ∀ (c n : Nat), c ≤ N → N - c < n → l n (nI c) (G c) = some R := by
  intro c
  generalize hk : N - c = k
  induction k generalizing c with
  | zero =>
    intro n h1 h2
    obtain ⟨n, rfl⟩ : ∃ m, n = m + 1 := ⟨n - 1, by omega⟩
    have hc : c = N := by omega
    subst hc
    exact he n
  | succ k ih =>
    intro n h1 h2
    obtain ⟨n, rfl⟩ : ∃ m, n = m + 1 := ⟨n - 1, by omega⟩
    rw [hs n c (by omega)]
    exact ih (c + 1) (by omega) n (by omega) (by omega)
/-- a counted loop with an early end at e -/
theorem loop_to {σ T : Type} (l : Nat → Int32 → σ → Option T) (G : Nat → σ) (N : Nat) (R : T) (hs : ∀ n c, c < N → l (n + 1) (nI c) (G c) = l n (nI (c + 1)) (G (c + 1))) (he : ∀ n, l (n + 1) (nI N) (G N) = some R) (n : Nat) (h : N < n) : l n 0 (G 0) = some R := loop_up l G N R hs he 0 n (Nat.zero_le _) (by omega)
theorem lgc_lt (a b : Int64) : lg_cmp a b < 0 ↔ a < b := by
  unfold lg_cmp
  by_cases h1 : a > b
  · rw [if_pos h1]
    have h1 : b < a := h1
    have : ¬ a < b := by
      rw [Int64.lt_iff_toInt_lt] at h1 ⊢
      omega
    simp [this]
  · rw [if_neg h1]
    by_cases h2 : a = b
    · subst h2
      simp
    · rw [if_neg h2]
      have : a < b := by
        rw [gt_iff_lt, Int64.lt_iff_toInt_lt] at h1
        rw [Int64.lt_iff_toInt_lt]
        have : a.toInt ≠ b.toInt := fun z => h2 (Int64.toInt_inj.mp z)
        omega
      simp [this]
theorem lgc_gt (a b : Int64) : 0 < lg_cmp a b ↔ b < a := by
  unfold lg_cmp
  by_cases h1 : a > b
  · rw [if_pos h1]
    have : b < a := h1
    simp [this]
  · rw [if_neg h1]
    have h3 : ¬ b < a := h1
    by_cases h2 : a = b
    · rw [if_pos h2]
      simp [h3]
    · rw [if_neg h2]
      simp [h3]
theorem l_lt (a b : Int32) : a.toInt64 < b.toInt64 ↔ a < b := by
  rw [Int64.lt_iff_toInt_lt, Int32.lt_iff_toInt_lt, Int32.toInt_toInt64, Int32.toInt_toInt64]
theorem m_in (a b c : Int64) : f_M_in a b c = if a < b then 0 else if c < a then 0 else 1 := by
  unfold f_M_in
  simp only [lgc_lt, lgc_gt]
theorem m_in32 (x lo hi : Int32) : f_M_in x.toInt64 lo.toInt64 hi.toInt64 = if x < lo then 0 else if hi < x then 0 else 1 := by
  rw [m_in]
  simp only [l_lt]
theorem m_up (x hi : Int32) : f_M_in x.toInt64 0 hi.toInt64 = f_C_isUpTo x hi := m_in32 x 0 hi
theorem m_up_7 (x : Int32) : f_M_in x.toInt64 0 7 = f_C_isUpTo x 7 := m_in32 x 0 7
theorem m_up_2 (x : Int32) : f_M_in x.toInt64 0 2 = f_C_isUpTo x 2 := m_in32 x 0 2
theorem m_up_255 (x : Int32) : f_M_in x.toInt64 0 255 = f_C_isUpTo x 255 := m_in32 x 0 255
theorem m_up_15 (x : Int32) : f_M_in x.toInt64 0 15 = f_C_isUpTo x 15 := m_in32 x 0 15
theorem m_up_3 (x : Int32) : f_M_in x.toInt64 0 3 = f_C_isUpTo x 3 := m_in32 x 0 3
theorem m_up_99 (x : Int32) : f_M_in x.toInt64 0 99 = f_C_isUpTo x 99 := m_in32 x 0 99
theorem m_up_31 (x : Int32) : f_M_in x.toInt64 0 31 = f_C_isUpTo x 31 := m_in32 x 0 31
theorem m_up_1 (x : Int32) : f_M_in x.toInt64 0 1 = f_C_isUpTo x 1 := m_in32 x 0 1
theorem m_up_40 (x : Int32) : f_M_in x.toInt64 0 40 = f_C_isUpTo x 40 := m_in32 x 0 40
theorem m_up_10 (x : Int32) : f_M_in x.toInt64 0 10 = f_C_isUpTo x 10 := m_in32 x 0 10
theorem m_up_5 (x : Int32) : f_M_in x.toInt64 0 5 = f_C_isUpTo x 5 := m_in32 x 0 5
theorem m_isRow (x : Int32) : f_M_isRow x = f_C_isUpTo x 7 := m_up_7 x
theorem m_isCell (x : Int32) : f_M_isCell x = f_C_isUpTo x 15 := m_up_15 x
theorem m_isLine (x : Int32) : f_M_isRowOfPass x = f_C_isUpTo x 3 := m_up_3 x
theorem m_15 (x : Int32) : f_M_in x.toInt64 1 5 = f_C_isWorkKind x := m_in32 x 1 5
theorem c_cell (x : Int32) : f_C_isCell x = f_C_isUpTo x 15 := rfl
theorem c_line (x : Int32) : f_C_isLine x = f_C_isUpTo x 3 := rfl
theorem c_up0 {x hi : Int32} (h : ¬ f_C_isUpTo x hi = 0) : 0 ≤ x ∧ x ≤ hi := by
  unfold f_C_isUpTo at h
  split at h
  · exact absurd rfl h
  · split at h
    · exact absurd rfl h
    · rename_i h1 h2
      exact ⟨Int32.not_lt.mp h1, Int32.not_lt.mp h2⟩
theorem c_upK {x : Int32} {K : Nat} (hK : K < 2 ^ 31) (h : ¬ f_C_isUpTo x (OfNat.ofNat K) = 0) : ∃ c, c ≤ (OfNat.ofNat K : Nat) ∧ x = nI c := n_ofK hK (c_up0 h).1 (c_up0 h).2
theorem c_wk0 {x : Int32} (h : ¬ f_C_isWorkKind x = 0) : ∃ c, 1 ≤ c ∧ c ≤ 5 ∧ x = nI c := by
  unfold f_C_isWorkKind at h
  split at h
  · exact absurd rfl h
  · split at h
    · exact absurd rfl h
    · rename_i h1 h2
      have h1 := Int32.not_lt.mp h1
      have h2 := Int32.not_lt.mp h2
      obtain ⟨c, hc, rfl⟩ := n_ofK (by decide) (Int32.le_trans (by decide) h1) h2
      exact ⟨c, (n_le (by decide) (by omega)).mp h1, hc, rfl⟩
/-- division and rest of small numbers -/
theorem n_div {K c : Nat} (hK : 0 < K) (hK2 : K < 2 ^ 31) (hc : c < 2 ^ 31) : nI c / (OfNat.ofNat K : Int32) = nI (c / (OfNat.ofNat K : Nat)) := by rw [n_lit]; exact pk_div hc hK hK2
theorem n_rem {K c : Nat} (hK : 0 < K) (hK2 : K < 2 ^ 31) (hc : c < 2 ^ 31) : wc_rem (nI c) (OfNat.ofNat K : Int32) = nI (c % (OfNat.ofNat K : Nat)) := by
  unfold wc_rem
  rw [n_lit]
  exact pk_rem hc hK hK2
theorem n_sub {a K : Nat} (h : (OfNat.ofNat K : Nat) ≤ a) : nI a - (OfNat.ofNat K : Int32) = nI (a - (OfNat.ofNat K : Nat)) := by rw [n_lit, pk_sub h]
/-- the pass as one row of numbers: hour, gusts, rises, kinds, holds, set wide or not -/
def wst (M : wc_M) (p : Nat) : Nat → Int32 := fun k => if k = 0 then M 6 p 6 else if k < 5 then M 7 p (k - 1) else if k < 9 then M 8 p (k - 5) else if k < 25 then M 9 p (k - 9) else if k < 41 then M 10 p (k - 25) else if k < 57 then M 11 p (k - 41) else 0
def wrs (M : wc_M) (k off : Nat) : Nat → Int32 := fun j => if j < 57 then M k 0 (off + j) else 0
theorem wst_h (M : wc_M) (p : Nat) : wst M p 0 = M 6 p 6 := rfl
theorem wst_g {M : wc_M} {p y : Nat} (h : y < 4) : wst M p (1 + y) = M 7 p y := by
  unfold wst
  rw [if_neg (by omega), if_pos (by omega), show 1 + y - 1 = y by omega]
theorem wst_r {M : wc_M} {p y : Nat} (h : y < 4) : wst M p (5 + y) = M 8 p y := by
  unfold wst
  rw [if_neg (by omega), if_neg (by omega), if_pos (by omega), show 5 + y - 5 = y by omega]
theorem wst_k {M : wc_M} {p c : Nat} (h : c < 16) : wst M p (9 + c) = M 9 p c := by
  unfold wst
  rw [if_neg (by omega), if_neg (by omega), if_neg (by omega), if_pos (by omega), show 9 + c - 9 = c by omega]
theorem wst_o {M : wc_M} {p c : Nat} (h : c < 16) : wst M p (25 + c) = M 10 p c := by
  unfold wst
  rw [if_neg (by omega), if_neg (by omega), if_neg (by omega), if_neg (by omega), if_pos (by omega), show 25 + c - 25 = c by omega]
theorem wst_w {M : wc_M} {p c : Nat} (h : c < 16) : wst M p (41 + c) = M 11 p c := by
  unfold wst
  rw [if_neg (by omega), if_neg (by omega), if_neg (by omega), if_neg (by omega), if_neg (by omega), if_pos (by omega), show 41 + c - 41 = c by omega]
theorem wrs_at {M : wc_M} {k off j : Nat} (h : j < 57) : wrs M k off j = M k 0 (off + j) := by
  unfold wrs
  rw [if_pos h]
theorem wst_eq {M M' : wc_M} {p q : Nat} (h6 : M' 6 q 6 = M 6 p 6) (h7 : ∀ y, y < 4 → M' 7 q y = M 7 p y) (h8 : ∀ y, y < 4 → M' 8 q y = M 8 p y) (h9 : ∀ c, c < 16 → M' 9 q c = M 9 p c) (h10 : ∀ c, c < 16 → M' 10 q c = M 10 p c) (h11 : ∀ c, c < 16 → M' 11 q c = M 11 p c) : wst M' q = wst M p := by
  funext k
  unfold wst
  split
  · exact h6
  · split
    · exact h7 _ (by omega)
    · split
      · exact h8 _ (by omega)
      · split
        · exact h9 _ (by omega)
        · split
          · exact h10 _ (by omega)
          · split
            · exact h11 _ (by omega)
            · rfl
