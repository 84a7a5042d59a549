/-! WHERE THE AIR GOES, once for both sides -/
def bAd (F : Nat → Int32) (k : Nat) (v : Int32) : Nat → Int32 := fun j => if j = k then F j + v else F j
def bOn (st : Nat → Int32) (c : Nat) (v : Int32) : Int32 := if st (9 + c) = 0 then v else if st (9 + c) = 1 then 0 else if st (9 + c) = 2 then v / 2 else if st (9 + c) = 3 then (if st (41 + c) = 1 then v else 0) else 0
def bNo (st : Nat → Int32) (c : Nat) (t : Int32) : Int32 := f_A_north (st (9 + c)) t (st 0)
def bSt (st : Nat → Int32) (c : Nat) (q : (Nat → Int32) × Int32) : (Nat → Int32) × Int32 :=
  let v := q.1 c
  let on := bOn st c v
  let no := bNo st c (v - on)
  let so := v - on - no
  let F1 := bAd q.1 (c + 4) on
  let F2 := if c % 4 = 0 then F1 else bAd F1 (c + 3) no
  let F3 := if c % 4 = 3 then F2 else bAd F2 (c + 5) so
  (F3, (if c % 4 = 3 then (if c % 4 = 0 then q.2 + no else q.2) + so else (if c % 4 = 0 then q.2 + no else q.2)))
def bS (st : Nat → Int32) : Nat → (Nat → Int32) × Int32
  | 0 => ((fun j => if j < 4 then st (1 + j) else 0), 0)
  | c + 1 => bSt st c (bS st c)
/-- sealed, so that nothing evaluates sixteen steps -/
theorem seal_ex {T : Type} (x : T) : ∃ y, y = x := ⟨x, rfl⟩
noncomputable def bQ (st : Nat → Int32) : (Nat → Int32) × Int32 := Classical.choose (seal_ex (bS st 16))
theorem bQ_e (st : Nat → Int32) : bQ st = bS st 16 := Classical.choose_spec (seal_ex (bS st 16))
noncomputable def bF (st : Nat → Int32) : Nat → Int32 := (bQ st).1
noncomputable def bL (st : Nat → Int32) : Int32 := (bQ st).2
/-- the class's air over a memory -/
def mA (M : wc_M) (F : Nat → Int32) (lo : Int32) : wc_M := fun k i s => if k = 13 ∧ i = 0 ∧ s < 16 then F s else if k = 14 ∧ i = 0 ∧ s < 4 then F (16 + s) else if k = 12 ∧ i = 0 ∧ s = 2 then lo else M k i s
theorem mA_off {M : wc_M} {F : Nat → Int32} {lo : Int32} {k i s : Nat} (h : k < 12 ∨ 14 < k) : mA M F lo k i s = M k i s := by
  unfold mA
  rw [if_neg (by omega), if_neg (by omega), if_neg (by omega)]
theorem mA_f {M : wc_M} {F : Nat → Int32} {lo : Int32} {c : Nat} (h : c < 16) : mA M F lo 13 0 c = F c := by
  unfold mA
  rw [if_pos ⟨rfl, rfl, h⟩]
theorem mA_l {M : wc_M} {F : Nat → Int32} {lo : Int32} {y : Nat} (h : y < 4) : mA M F lo 14 0 y = F (16 + y) := by
  unfold mA
  rw [if_neg (by omega), if_pos ⟨rfl, rfl, h⟩]
theorem mA_lo {M : wc_M} {F : Nat → Int32} {lo : Int32} : mA M F lo 12 0 2 = lo := by
  unfold mA
  rw [if_neg (by omega), if_neg (by omega), if_pos ⟨rfl, rfl, rfl⟩]
theorem a_bring {M : wc_M} {F : Nat → Int32} {lo v : Int32} {x y : Nat} (hx : 1 ≤ x) (hx2 : x ≤ 4) (hy : y < 4) : f_A_bring (nI x) (nI y) v (mA M F lo) = some (mA M (bAd F (4 * x + y) v) lo) := by
  unfold f_A_bring
  rw [if_neg (n_n0 (by omega)), if_pos ((n_lt (by decide) (by omega)).mpr hy)]
  by_cases h4 : x < 4
  · rw [if_pos ((n_lt (by decide) (by omega)).mpr h4), n_ml, nI_add, if_pos (n_wib (by omega) (by decide)), n_t (by omega)]
    congr 1
    funext k i s
    unfold wc_up mA bAd
    grind
  · rw [if_neg (fun z => h4 ((n_lt (by decide) (by omega)).mp z)), if_pos (n_wib (by omega) (by decide)), n_t (by omega)]
    have hx4 : x = 4 := by omega
    subst hx4
    congr 1
    funext k i s
    unfold wc_up mA bAd
    grind
theorem a_bringN {M : wc_M} {F : Nat → Int32} {lo v : Int32} {x : Int32} {y : Nat} (hx : ∃ n, 1 ≤ n ∧ n ≤ 4 ∧ x = nI n) (hy : y < 4) : f_A_bring x (nI y - 1) v (mA M F lo) = some (if y = 0 then mA M F (lo + v) else mA M (bAd F (4 * x.toNatClampNeg + y - 1) v) lo) := by
  obtain ⟨n, h1, h2, rfl⟩ := hx
  by_cases h0 : y = 0
  · subst h0
    rw [if_pos rfl]
    unfold f_A_bring
    rw [if_pos (by decide)]
    congr 1
    funext k i s
    unfold wc_up mA
    grind
  · rw [if_neg h0, n_sub (by omega), a_bring h1 h2 (by omega), n_t (by omega), show 4 * n + (y - 1) = 4 * n + y - 1 by omega]
theorem a_bringS {M : wc_M} {F : Nat → Int32} {lo v : Int32} {x : Int32} {y : Nat} (hx : ∃ n, 1 ≤ n ∧ n ≤ 4 ∧ x = nI n) (hy : y < 4) : f_A_bring x (nI y + 1) v (mA M F lo) = some (if y = 3 then mA M F (lo + v) else mA M (bAd F (4 * x.toNatClampNeg + y + 1) v) lo) := by
  obtain ⟨n, h1, h2, rfl⟩ := hx
  rw [n_ar]
  by_cases h0 : y = 3
  · subst h0
    rw [if_pos rfl]
    unfold f_A_bring
    rw [if_neg (by decide), if_neg (by decide)]
    congr 1
    funext k i s
    unfold wc_up mA
    grind
  · rw [if_neg h0, a_bring h1 h2 (by omega), n_t (by omega), show 4 * n + (y + 1) = 4 * n + y + 1 by omega]
theorem a_on {M : wc_M} {F : Nat → Int32} {lo : Int32} {p c : Nat} (hc : c < 16) : f_A_on p (nI c) (mA M F lo) = some (bOn (wst M p) c (F c)) := by
  unfold f_A_on bOn
  rw [if_pos (n_wib hc (by decide)), n_t (by omega), mA_f hc, mA_off (by omega), mA_off (by omega), wst_k hc, wst_w hc]
  repeat' split
  all_goals rfl
theorem a_part {M : wc_M} {p c : Nat} {q : (Nat → Int32) × Int32} (hc : c < 16) : f_A_part (nI c) (bOn (wst M p) c (q.1 c)) p (mA M q.1 q.2) = some (mA M (bSt (wst M p) c q).1 (bSt (wst M p) c q).2) := by
  unfold f_A_part
  have hx : ∃ n, 1 ≤ n ∧ n ≤ 4 ∧ nI (c / 4) + 1 = nI n := ⟨c / 4 + 1, by omega, by omega, n_ar⟩
  rw [if_pos (n_wib hc (by decide)), n_t (by omega), n_div (by decide) (by decide) (by omega), n_rem (by decide) (by decide) (by omega), mA_f hc, mA_off (by omega), mA_off (by omega)]
  rw [n_ar] at hx ⊢
  rw [a_bring (by omega) (by omega) (by omega)]
  simp only [Option.bind_some]
  rw [a_bringN hx (by omega)]
  simp only [Option.bind_some]
  have hk : f_A_north (M 9 p c) (q.1 c - bOn (wst M p) c (q.1 c)) (M 6 p 6) = bNo (wst M p) c (q.1 c - bOn (wst M p) c (q.1 c)) := by
    unfold bNo
    rw [wst_k hc, wst_h]
  rw [hk, n_t (by omega)]
  have e4 : 4 * (c / 4 + 1) + c % 4 = c + 4 := by omega
  have fin : ∀ (F : Nat → Int32) (l2 : Int32), F = (bSt (wst M p) c q).1 → l2 = (bSt (wst M p) c q).2 → some (mA M F l2) = some (mA M (bSt (wst M p) c q).1 (bSt (wst M p) c q).2) := fun F l2 h1 h2 => by rw [h1, h2]
  by_cases h0 : c % 4 = 0
  · rw [if_pos h0, a_bringS hx (by omega), n_t (by omega), if_neg (by omega)]
    refine fin _ _ ?_ ?_
    · unfold bSt
      simp only [h0, if_true]
      rw [if_neg (by omega), show 4 * (c / 4 + 1) + 0 = c + 4 by omega, show c + 4 + 1 = c + 5 by omega]
    · unfold bSt
      simp only [h0, if_true]
      rw [if_neg (by omega)]
  · rw [if_neg h0, a_bringS hx (by omega), n_t (by omega)]
    by_cases h3 : c % 4 = 3
    · rw [if_pos h3]
      refine fin _ _ ?_ ?_
      · unfold bSt
        simp only [h3, if_true]
        rw [if_neg (by omega), show 4 * (c / 4 + 1) + 3 = c + 4 by omega, show c + 4 - 1 = c + 3 by omega]
      · unfold bSt
        simp only [h3, if_true]
        rw [if_neg (by omega)]
    · rw [if_neg h3]
      refine fin _ _ ?_ ?_
      · unfold bSt
        simp only [h3, h0, if_false]
        rw [e4, show c + 4 - 1 = c + 3 by omega, show c + 4 + 1 = c + 5 by omega]
      · unfold bSt
        simp only [h3, h0, if_false]
def gA2 (M : wc_M) (p n : Nat) : wc_M := fun k i s => if k = 13 ∧ i = 0 ∧ s < n then (if s < 4 then M 7 p s else 0) else M k i s
def gA22 (M : wc_M) (n : Nat) : wc_M := fun k i s => if k = 14 ∧ i = 0 ∧ s < n then 0 else M k i s
theorem a_l2 (p : Nat) (M : wc_M) : l_A_blow_2 p 2000 0 M = some (gA2 M p 16) := by
  have e : gA2 M p 0 = M := by
    funext k i s
    unfold gA2
    rw [if_neg (by omega)]
  have h : l_A_blow_2 p 2000 0 (gA2 M p 0) = some (gA2 M p 16) := loop_to (fun zn zx zM => l_A_blow_2 p zn zx zM) (gA2 M p) 16 (gA2 M p 16) (by
    intro zn zc hzc
    show l_A_blow_2 p (zn + 1) (nI zc) _ = _
    rw [l_A_blow_2]
    rw [if_neg (by rw [n_le (by decide) (by omega)]; omega)]
    have e2 : ∀ v : Int32, (v = if zc < 4 then M 7 p zc else 0) → wc_up (gA2 M p zc) 13 0 zc v = gA2 M p (zc + 1) := by
      intro v hv
      funext k i s
      unfold wc_up gA2
      grind
    by_cases h4 : zc < 4
    · rw [if_neg (by rw [n_le (by decide) (by omega)]; omega), if_pos (n_wib h4 (by decide))]
      simp only [Option.bind_some]
      rw [if_pos (n_wib hzc (by decide)), n_ar, n_t (by omega), e2]
      unfold gA2
      rw [if_neg (by omega), if_pos h4]
    · rw [if_pos (by rw [n_le (by decide) (by omega)]; omega)]
      simp only [Option.bind_some]
      rw [if_pos (n_wib hzc (by decide)), n_ar, n_t (by omega), e2]
      rw [if_neg h4]) (by
    intro zn
    show l_A_blow_2 p (zn + 1) (nI 16) _ = _
    rw [l_A_blow_2, if_pos (by decide)]) 2000 (by decide)
  rw [e] at h
  exact h
theorem a_l22 (p : Nat) (M : wc_M) : l_A_blow_22 p 2000 0 M = some (gA22 M 4) := by
  have e : gA22 M 0 = M := by
    funext k i s
    unfold gA22
    rw [if_neg (by omega)]
  have h : l_A_blow_22 p 2000 0 (gA22 M 0) = some (gA22 M 4) := loop_to (fun zn zx zM => l_A_blow_22 p zn zx zM) (gA22 M) 4 (gA22 M 4) (by
    intro zn zc hzc
    show l_A_blow_22 p (zn + 1) (nI zc) _ = _
    rw [l_A_blow_22]
    rw [if_neg (by rw [n_le (by decide) (by omega)]; omega), if_pos (n_wib hzc (by decide)), n_ar, n_t (by omega)]
    have e2 : wc_up (gA22 M zc) 14 0 zc 0 = gA22 M (zc + 1) := by
      funext k i s
      unfold wc_up gA22
      grind
    rw [e2]) (by
    intro zn
    show l_A_blow_22 p (zn + 1) (nI 4) _ = _
    rw [l_A_blow_22, if_pos (by decide)]) 2000 (by decide)
  rw [e] at h
  exact h
theorem bS_s (st : Nat → Int32) (c : Nat) : bS st (c + 1) = bSt st c (bS st c) := by rw [bS]
theorem a_l37 (p : Nat) (M : wc_M) : l_A_blow_37 p 2000 0 (mA M (bS (wst M p) 0).1 (bS (wst M p) 0).2) = some (mA M (bS (wst M p) 16).1 (bS (wst M p) 16).2) :=
  loop_to (fun zn zx zM => l_A_blow_37 p zn zx zM) (fun zc => mA M (bS (wst M p) zc).1 (bS (wst M p) zc).2) 16 (mA M (bS (wst M p) 16).1 (bS (wst M p) 16).2) (by
    intro zn zc hzc
    show l_A_blow_37 p (zn + 1) (nI zc) _ = _
    rw [l_A_blow_37]
    rw [if_neg (by rw [n_le (by decide) (by omega)]; omega), a_on hzc]
    simp only [Option.bind_some]
    rw [a_part hzc]
    simp only [Option.bind_some]
    rw [n_ar, bS_s]) (by
    intro zn
    show l_A_blow_37 p (zn + 1) (nI 16) _ = _
    rw [l_A_blow_37, if_pos (by decide)]) 2000 (by decide)
theorem bS_0 (st : Nat → Int32) : bS st 0 = ((fun j => if j < 4 then st (1 + j) else 0), 0) := by rw [bS]
theorem a_e0 (p : Nat) (M : wc_M) : wc_up (gA22 (gA2 M p 16) 4) 12 0 2 0 = mA M (fun j => if j < 4 then wst M p (1 + j) else 0) 0 := by
  have hg : ∀ j, j < 4 → wst M p (1 + j) = M 7 p j := fun j hj => wst_g hj
  generalize wst M p = st at hg ⊢
  funext k i s
  unfold wc_up mA gA22 gA2
  grind
theorem a_e1 (p : Nat) (M : wc_M) : wc_up (gA22 (gA2 M p 16) 4) 12 0 2 0 = mA M (bS (wst M p) 0).1 (bS (wst M p) 0).2 := by
  rw [a_e0, bS_0]
theorem a_blow (p : Nat) (M : wc_M) : f_A_blow p M = some (mA M (bF (wst M p)) (bL (wst M p))) := by
  have h37 := a_l37 p M
  rw [← bQ_e] at h37
  unfold bF bL
  unfold f_A_blow
  rw [a_l2, Option.bind_some, a_l22, Option.bind_some, a_e1, h37, Option.bind_some]
