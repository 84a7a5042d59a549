/-! ACTS: kept and noted -/
theorem loop_inv {σ T : Type} (l : Nat → Int32 → σ → Option T) (I : Nat → σ → Prop) (N : Nat) (Q : T → Prop) (hs : ∀ n c s, c < N → I c s → ∃ s', I (c + 1) s' ∧ l (n + 1) (nI c) s = l n (nI (c + 1)) s') (he : ∀ n s, I N s → ∃ R, l (n + 1) (nI N) s = some R ∧ Q R) : ∀ (k c n : Nat) (s : σ), N - c = k → c ≤ N → k < n → I c s → ∃ R, l n (nI c) s = some R ∧ Q R
  | 0, c, n, s, hk, hc, hn, hI => by
    obtain ⟨n, rfl⟩ : ∃ m, n = m + 1 := ⟨n - 1, by omega⟩
    have hc : c = N := by omega
    subst hc
    exact he n s hI
  | k + 1, c, n, s, hk, hc, hn, hI => by
    obtain ⟨n, rfl⟩ : ∃ m, n = m + 1 := ⟨n - 1, by omega⟩
    obtain ⟨s', h1, h2⟩ := hs n c s (by omega) hI
    rw [h2]
    exact loop_inv l I N Q hs he k (c + 1) n s' (by omega) (by omega) (by omega) h1
theorem sWn_s (st : Nat → Int32) (n : Nat) : sWn st (n + 1) = sWn st n + (if st (9 + n) = 0 then 0 else 1) := by rw [sWn]
theorem sWn_less {st st' : Nat → Int32} (h : ∀ c, c < 16 → st' (9 + c) = st (9 + c) ∨ st' (9 + c) = 0) : ∀ n, n ≤ 16 → sWn st' n ≤ sWn st n
  | 0, _ => by rw [sWn, sWn]; exact Nat.le_refl _
  | n + 1, hn => by
    have ih := sWn_less h n (by omega)
    rw [sWn_s, sWn_s]
    rcases h n (by omega) with e | e
    · rw [e]
      omega
    · rw [if_pos e]
      omega
theorem sWn_one {st st' : Nat → Int32} {c : Nat} (h : ∀ j, j < 16 → j ≠ c → st' (9 + j) = st (9 + j)) : ∀ n, n ≤ 16 → sWn st' n ≤ sWn st n + (if c < n then 1 else 0)
  | 0, _ => by rw [sWn, sWn]; omega
  | n + 1, hn => by
    have ih := sWn_one h n (by omega)
    rw [sWn_s, sWn_s]
    by_cases hc : n = c
    · subst hc
      rw [if_neg (by omega)] at ih
      rw [if_pos (show n < n + 1 by omega)]
      split
      · split <;> omega
      · split <;> omega
    · rw [h n (by omega) hc]
      by_cases h2 : c < n
      · rw [if_pos h2] at ih
        rw [if_pos (show c < n + 1 by omega)]
        omega
      · rw [if_neg h2] at ih
        omega
theorem pH_at {st : Nat → Int32} {j : Nat} (h : 5 ≤ j) : pH st j = sBrk (bF st) st 16 j := by
  unfold pH
  exact sRis_hi (by omega)
theorem pH_w {st : Nat → Int32} (h : sW st) : sW (pH st) := by
  obtain ⟨h1, h2, h3, h4, h5, h6⟩ := h
  refine ⟨pH_ok h1, pH_kd h2, ?_, ?_, ?_, ?_⟩
  · intro zy hy
    obtain ⟨g, hg, eg⟩ := h3 zy hy
    obtain ⟨q, hq, eq⟩ := h4 zy hy
    have hb : ∀ j, j < 9 → sBrk (bF st) st 16 j = st j := by
      intro j hj
      unfold sBrk
      rw [if_neg (by omega)]
    refine ⟨(g + q) % 32, by omega, ?_⟩
    unfold pH sRis
    rw [if_neg (by omega), if_pos (by omega), hb _ (by omega), hb _ (by omega), show 1 + zy + 4 = 5 + zy by omega, eg, eq, nI_add, n_rem (by decide) (by decide) (by omega)]
  · intro zy hy
    obtain ⟨q, hq, eq⟩ := h4 zy hy
    refine ⟨q, hq, ?_⟩
    rw [pH_at (by omega)]
    unfold sBrk
    rw [if_neg (by omega)]
    exact eq
  · intro zc hc
    rw [pH_at (by omega), pH_at (by omega), pH_at (by omega)]
    unfold sBrk
    have e1 : (9 + zc - 9) % 16 = zc := by omega
    have e2 : (25 + zc - 9) % 16 = zc := by omega
    have e3 : (41 + zc - 9) % 16 = zc := by omega
    rw [e1, e2, e3]
    by_cases hb : ¬ st (9 + zc) = 0 ∧ ¬ bF st zc ≤ st (25 + zc)
    · intro _
      rw [if_pos ⟨by omega, by omega, hc, hb⟩, if_pos ⟨by omega, by omega, hc, hb⟩]
      exact ⟨rfl, rfl⟩
    · rw [if_neg (fun z => hb z.2.2.2), if_neg (fun z => hb z.2.2.2), if_neg (fun z => hb z.2.2.2)]
      exact h5 zc hc
  · refine Nat.le_trans (sWn_less (st := st) ?_ 16 (by omega)) h6
    intro zc hc
    rw [pH_at (by omega)]
    exact sBrk_k
theorem pHn_w {st : Nat → Int32} (h : sW st) : ∀ n, sW (pHn st n)
  | 0 => by rw [pHn_0]; exact h
  | n + 1 => by rw [pHn_s]; exact pH_w (pHn_w h n)
/-- the history with one row more -/
def hpH (H : Nat → Nat → Int32) (k : Nat) (st : Nat → Int32) : Nat → Nat → Int32 := fun a => if k = 24 then (if a = 23 then st else H (a + 1)) else (if a = k then st else H a)
def hpK (k : Nat) : Nat := if k = 24 then 24 else k + 1
theorem hpK_le {k : Nat} (h : k ≤ 24) : hpK k ≤ 24 := by
  unfold hpK
  split <;> omega
theorem hp_w {H : Nat → Nat → Int32} {k : Nat} {st : Nat → Int32} (hk : k ≤ 24) (h : ∀ a, a < k → sW (H a)) (hs : sW st) : ∀ a, a < hpK k → sW (hpH H k st a) := by
  intro a ha
  unfold hpK at ha
  unfold hpH
  by_cases h24 : k = 24
  · rw [if_pos h24] at ha ⊢
    by_cases h23 : a = 23
    · rw [if_pos h23]
      exact hs
    · rw [if_neg h23]
      exact h _ (by omega)
  · rw [if_neg h24] at ha ⊢
    by_cases hak : a = k
    · rw [if_pos hak]
      exact hs
    · rw [if_neg hak]
      exact h _ (by omega)
theorem h_keep {M : wc_M} {H : Nat → Nat → Int32} {k : Nat} (hk : k ≤ 24) (h : RAc M H k) (h1 : M 6 0 5 = 1) : ∃ Mk, f_H_keep 0 M = some Mk ∧ RAc Mk (hpH H k (wst M 0)) (hpK k) ∧ ∀ zk zi zs, ¬ ((6 ≤ zk ∧ zk ≤ 11 ∧ 2 ≤ zi ∧ zi ≤ 25) ∨ zk = 16) → Mk zk zi zs = M zk zi zs := by
  obtain ⟨n, hn, e1, e2, e4⟩ := h
  have hb : f_H_keep 0 M = some (wc_up (wc_up (mP M (2 + n) (wst M 0) 1) 16 0 1 (nI ((n + 1) % 24))) 16 0 2 (nI (hpK k))) := by
    unfold f_H_keep
    rw [e1, if_pos (n_wib hn (by decide)), n_t (by omega), p_become (by rw [h1]; rfl), Option.bind_some, h1]
    have e5 : mP M (2 + n) (wst M 0) 1 16 0 1 = nI n := by rw [mP_off (by omega)]; exact e1
    have e6 : ∀ v : Int32, wc_up (mP M (2 + n) (wst M 0) 1) 16 0 1 v 16 0 2 = nI k := by
      intro v
      unfold wc_up
      rw [if_neg (by omega), mP_off (by omega)]
      exact e2
    rw [e6, e5, n_ar, n_ar, n_rem (by decide) (by decide) (by omega)]
    congr 2
    unfold hpK
    by_cases h24 : k = 24
    · rw [if_pos h24, if_pos (by rw [n_gt (by decide) (by omega)]; omega)]
      rfl
    · rw [if_neg h24, if_neg (by rw [n_gt (by decide) (by omega)]; omega)]
  refine ⟨_, hb, ?_, ?_⟩
  · refine ⟨(n + 1) % 24, by omega, ?_, ?_, ?_⟩
    · unfold wc_up
      rw [if_neg (by omega), if_pos ⟨rfl, rfl, rfl⟩]
    · unfold wc_up
      rw [if_pos ⟨rfl, rfl, rfl⟩]
    · intro za ha
      have key : ∀ zi, zi < 24 → (zi = n → (wc_up (wc_up (mP M (2 + n) (wst M 0) 1) 16 0 1 (nI ((n + 1) % 24))) 16 0 2 (nI (hpK k))) 6 (2 + zi) 5 = 1 ∧ wst (wc_up (wc_up (mP M (2 + n) (wst M 0) 1) 16 0 1 (nI ((n + 1) % 24))) 16 0 2 (nI (hpK k))) (2 + zi) = wst M 0) ∧ (zi ≠ n → (wc_up (wc_up (mP M (2 + n) (wst M 0) 1) 16 0 1 (nI ((n + 1) % 24))) 16 0 2 (nI (hpK k))) 6 (2 + zi) 5 = M 6 (2 + zi) 5 ∧ wst (wc_up (wc_up (mP M (2 + n) (wst M 0) 1) 16 0 1 (nI ((n + 1) % 24))) 16 0 2 (nI (hpK k))) (2 + zi) = wst M (2 + zi)) := by
        intro zi hi
        have eo : ∀ zk zs, zk ≤ 11 → wc_up (wc_up (mP M (2 + n) (wst M 0) 1) 16 0 1 (nI ((n + 1) % 24))) 16 0 2 (nI (hpK k)) zk (2 + zi) zs = mP M (2 + n) (wst M 0) 1 zk (2 + zi) zs := by
          intro zk zs hz
          unfold wc_up
          rw [if_neg (by omega), if_neg (by omega)]
        rw [eo 6 5 (by omega), wst_fr (M := mP M (2 + n) (wst M 0) 1) (fun zk zs _ h2 => eo zk zs h2)]
        refine ⟨fun e => ?_, fun e => ?_⟩
        · subst e
          rw [mP_th, wst_mP (wst_ok M 0)]
          exact ⟨rfl, rfl⟩
        · rw [mP_off (by omega), wst_mPn (by omega)]
          exact ⟨rfl, rfl⟩
      unfold hpK at ha
      unfold hpH
      by_cases h24 : k = 24
      · rw [if_pos h24] at ha ⊢
        have hkk : hpK k = 24 := by
          unfold hpK
          rw [if_pos h24]
        rw [hkk] at key ⊢
        by_cases h23 : za = 23
        · rw [if_pos h23]
          exact (key _ (by omega)).1 (by omega)
        · rw [if_neg h23]
          have e := (key (((n + 1) % 24 + 24 - 24 + za) % 24) (by omega)).2 (by omega)
          rw [e.1, e.2, show ((n + 1) % 24 + 24 - 24 + za) % 24 = (n + 24 - k + (za + 1)) % 24 by omega]
          exact e4 (za + 1) (by omega)
      · rw [if_neg h24] at ha ⊢
        have hkk : hpK k = k + 1 := by
          unfold hpK
          rw [if_neg h24]
        rw [hkk] at key ⊢
        by_cases hak : za = k
        · rw [if_pos hak]
          exact (key _ (by omega)).1 (by omega)
        · rw [if_neg hak]
          have e := (key (((n + 1) % 24 + 24 - (k + 1) + za) % 24) (by omega)).2 (by omega)
          rw [e.1, e.2, show ((n + 1) % 24 + 24 - (k + 1) + za) % 24 = (n + 24 - k + za) % 24 by omega]
          exact e4 za (by omega)
  · intro zk zi zs hz
    unfold wc_up
    rw [if_neg (by omega), if_neg (by omega), mP_off (by omega)]
/-- the reference's acts: the array and how many -/
def mN (M : wc_M) (A : Nat → Int32) (v : Int32) : wc_M := fun k i s => if k = 30 ∧ i = 0 then A s else if k = 21 ∧ i = 0 ∧ s = 22 then v else M k i s
theorem mN_a {M : wc_M} {A : Nat → Int32} {v : Int32} {s : Nat} : mN M A v 30 0 s = A s := by
  unfold mN
  rw [if_pos ⟨rfl, rfl⟩]
theorem mN_k {M : wc_M} {A : Nat → Int32} {v : Int32} : mN M A v 21 0 22 = v := by
  unfold mN
  rw [if_neg (by omega), if_pos ⟨rfl, rfl, rfl⟩]
theorem mN_off {M : wc_M} {A : Nat → Int32} {v : Int32} {k i s : Nat} (h : k ≠ 30 ∧ (k ≠ 21 ∨ s ≠ 22)) : mN M A v k i s = M k i s := by
  unfold mN
  rw [if_neg (by omega), if_neg (by omega)]
theorem mN_id (M : wc_M) : mN M (M 30 0) (M 21 0 22) = M := by
  funext zk zi zs
  unfold mN
  by_cases h1 : zk = 30 ∧ zi = 0
  · rw [if_pos h1, h1.1, h1.2]
  · rw [if_neg h1]
    by_cases h2 : zk = 21 ∧ zi = 0 ∧ zs = 22
    · rw [if_pos h2, h2.1, h2.2.1, h2.2.2]
    · rw [if_neg h2]
theorem mN_up {M : wc_M} {A : Nat → Int32} {v w : Int32} {s : Nat} : wc_up (mN M A v) 30 0 s w = mN M (fun q => if q = s then w else A q) v := by
  funext zk zi zs
  unfold wc_up mN
  grind
theorem mN_uk {M : wc_M} {A : Nat → Int32} {v w : Int32} : wc_up (mN M A v) 21 0 22 w = mN M A w := by
  funext zk zi zs
  unfold wc_up mN
  grind
def aSh (A : Nat → Int32) (c : Nat) : Nat → Int32 := fun s => if s < c then A (s + 57) else A s
def aRow (A st : Nat → Int32) (o c : Nat) : Nat → Int32 := fun s => if o ≤ s ∧ s < o + c then st (s - o) else A s
theorem m_note6 {M : wc_M} {A : Nat → Int32} {v : Int32} : l_M_note_6 2000 0 (mN M A v) = some (mN M (aSh A 1311) v) := by
  have h : l_M_note_6 2000 0 (mN M (aSh A 0) v) = some (mN M (aSh A 1311) v) := loop_to (fun zn zx zM => l_M_note_6 zn zx zM) (fun zc => mN M (aSh A zc) v) 1311 _ (by
    intro zn zc hzc
    show l_M_note_6 (zn + 1) (nI zc) _ = _
    rw [l_M_note_6, if_neg (by rw [n_le (by decide) (by omega)]; omega), n_ar, if_pos (n_wib (by omega) (by decide)), if_pos (n_wib (by omega) (by decide)), n_ar, n_t (by omega), n_t (by omega), mN_a, mN_up]
    have e : (fun q => if q = zc then aSh A zc (zc + 57) else aSh A zc q) = aSh A (zc + 1) := by
      funext q
      unfold aSh
      grind
    rw [e]) (by
    intro zn
    show l_M_note_6 (zn + 1) (nI 1311) _ = _
    rw [l_M_note_6, if_pos (by decide)]) 2000 (by decide)
  have e : aSh A 0 = A := by
    funext q
    unfold aSh
    rw [if_neg (by omega)]
  rw [e] at h
  exact h
theorem m_note29 {M : wc_M} {A : Nat → Int32} {k : Nat} (hk : k ≤ 23) : l_M_note_29 2000 0 (mN M A (nI k)) = some (mN M (aRow A (wrs M 25 0) (57 * k) 57) (nI k)) := by
  have h : l_M_note_29 2000 0 (mN M (aRow A (wrs M 25 0) (57 * k) 0) (nI k)) = some (mN M (aRow A (wrs M 25 0) (57 * k) 57) (nI k)) := loop_to (fun zn zx zM => l_M_note_29 zn zx zM) (fun zc => mN M (aRow A (wrs M 25 0) (57 * k) zc) (nI k)) 57 _ (by
    intro zn zc hzc
    show l_M_note_29 (zn + 1) (nI zc) _ = _
    have e : (fun q => if q = 57 * k + zc then wrs M 25 0 zc else aRow A (wrs M 25 0) (57 * k) zc q) = aRow A (wrs M 25 0) (57 * k) (zc + 1) := by
      funext q
      unfold aRow
      by_cases hq : q = 57 * k + zc
      · rw [if_pos hq, if_pos (by omega), show q - 57 * k = zc by omega]
      · rw [if_neg hq]
        by_cases h2 : 57 * k ≤ q ∧ q < 57 * k + zc
        · rw [if_pos h2, if_pos (by omega)]
        · rw [if_neg h2, if_neg (by omega)]
    rw [l_M_note_29, if_neg (by rw [n_le (by decide) (by omega)]; omega), if_pos (n_wib (by omega) (by decide)), mN_k, n_ml, nI_add, if_pos (n_wib (by omega) (by decide)), n_ar, n_t (by omega), n_t (by omega), mN_off (by omega), mN_up, show M 25 0 zc = wrs M 25 0 zc from by rw [wrs_at hzc, Nat.zero_add], e]) (by
    intro zn
    show l_M_note_29 (zn + 1) (nI 57) _ = _
    rw [l_M_note_29, if_pos (by decide)]) 2000 (by decide)
  have e : aRow A (wrs M 25 0) (57 * k) 0 = A := by
    funext q
    unfold aRow
    rw [if_neg (by omega)]
  rw [e] at h
  exact h
theorem wrs_ext {M M' : wc_M} {k k' off off' : Nat} (h : ∀ j, j < 57 → M k 0 (off + j) = M' k' 0 (off' + j)) : wrs M k off = wrs M' k' off' := by
  funext zj
  unfold wrs
  by_cases hj : zj < 57
  · rw [if_pos hj, if_pos hj]
    exact h zj hj
  · rw [if_neg hj, if_neg hj]
theorem m_note {M : wc_M} {H : Nat → Nat → Int32} {k : Nat} (hk : k ≤ 24) (h : RAm M H k) : ∃ Mn, f_M_note M = some Mn ∧ RAm Mn (hpH H k (wrs M 25 0)) (hpK k) ∧ ∀ zk zi zs, ¬ (zk = 30 ∨ (zk = 21 ∧ zs = 22)) → Mn zk zi zs = M zk zi zs := by
  obtain ⟨e1, e2⟩ := h
  have e0 := mN_id M
  rw [e1] at e0
  by_cases h24 : k = 24
  · refine ⟨mN M (aRow (aSh (M 30 0) 1311) (wrs M 25 0) (57 * 23) 57) (nI 24), ?_, ?_, ?_⟩
    · unfold f_M_note
      rw [if_pos (by rw [e1, h24]; rfl)]
      have h6 := m_note6 (M := M) (A := M 30 0) (v := nI k)
      rw [e0] at h6
      rw [h6, Option.bind_some, mN_k, mN_uk, Option.bind_some, h24, show nI 24 - 1 = nI 23 from rfl, m_note29 (by omega), Option.bind_some, mN_k, mN_uk]
      rfl
    · unfold hpK
      rw [if_pos h24]
      refine ⟨mN_k, fun a ha => ?_⟩
      unfold hpH
      rw [if_pos h24]
      by_cases h23 : a = 23
      · rw [if_pos h23]
        refine wrs_ext (fun j hj => ?_)
        rw [mN_a, h23]
        unfold aRow
        rw [if_pos (by omega), show 57 * 23 + j - 57 * 23 = j by omega, wrs_at hj]
      · rw [if_neg h23, ← e2 (a + 1) (by omega)]
        refine wrs_ext (fun j hj => ?_)
        rw [mN_a]
        unfold aRow aSh
        rw [if_neg (by omega), if_pos (by omega), show 57 * a + j + 57 = 57 * (a + 1) + j by omega]
    · intro zk zi zs hz
      exact mN_off (by omega)
  · refine ⟨mN M (aRow (M 30 0) (wrs M 25 0) (57 * k) 57) (nI (k + 1)), ?_, ?_, ?_⟩
    · unfold f_M_note
      have h29 := m_note29 (M := M) (A := M 30 0) (k := k) (by omega)
      rw [e0] at h29
      rw [if_neg (by rw [e1, n_eq (by decide) (by omega)]; exact h24), Option.bind_some, h29, Option.bind_some, mN_k, mN_uk, n_ar]
    · unfold hpK
      rw [if_neg h24]
      refine ⟨mN_k, fun a ha => ?_⟩
      unfold hpH
      rw [if_neg h24]
      by_cases hak : a = k
      · rw [if_pos hak]
        refine wrs_ext (fun j hj => ?_)
        rw [mN_a, hak]
        unfold aRow
        rw [if_pos (by omega), show 57 * k + j - 57 * k = j by omega, wrs_at hj]
      · rw [if_neg hak, ← e2 a (by omega)]
        refine wrs_ext (fun j hj => ?_)
        rw [mN_a]
        unfold aRow
        rw [if_neg (by omega)]
    · intro zk zi zs hz
      exact mN_off (by omega)
/-- cells that acts, the pass and what is foretold change -/
def Oth (k i s : Nat) : Prop := (6 ≤ k ∧ k ≤ 11 ∧ i ≤ 25) ∨ k = 16 ∨ k = 25 ∨ k = 30 ∨ (k = 21 ∧ (s = 22 ∨ s = 4)) ∨ Irr k i s
theorem Rel_pa {M M' : wc_M} (h : ∀ k i s, ¬ Oth k i s → M' k i s = M k i s) (r : Rel M) (rp : RelP M') (ra : RelA M') (h1 : M' 6 0 5 = 1) : Rel M' := by
  obtain ⟨_, r2, r3, r4, _, r6, r7, _⟩ := r
  refine ⟨rp, RelF_of ?_ r2, RelR_of ?_ r3, RelT_of ?_ r4, ra, RelI_of ?_ r6, RelQ_of ?_ r7, fun e => absurd (h1.symm.trans e) (by decide)⟩
  all_goals intro zk zi zs hz; exact h zk zi zs (by unfold Oth Irr; omega)
