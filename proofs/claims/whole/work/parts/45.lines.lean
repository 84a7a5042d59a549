/-! THE TEXT read whole, on both sides -/
theorem kSel {N : wc_M} {T : Nat → Int32} {n p : Nat} (h : Tk N T n p) (hp : p < n) : (if (f_M_isLetter (119 : Int32) N) = (0 : Int32) then (if (f_M_isLetter (110 : Int32) N) = (0 : Int32) then (if (f_M_isLetter (115 : Int32) N) = (0 : Int32) then (if (f_M_isLetter (104 : Int32) N) = (0 : Int32) then (if (f_M_isLetter (118 : Int32) N) = (0 : Int32) then some (0 : Int32) else some (5 : Int32)) else some (4 : Int32)) else some (3 : Int32)) else some (2 : Int32)) else some (1 : Int32)) = some (f_T_kindOf (T p)) := by
  rw [r_isL h (c := 119) rfl (by decide), r_isL h (c := 110) rfl (by decide), r_isL h (c := 115) rfl (by decide), r_isL h (c := 104) rfl (by decide), r_isL h (c := 118) rfl (by decide)]
  unfold f_T_kindOf
  have no : ∀ (a b : Int32), T p = a → a ≠ b → ¬ (p < n ∧ T p = b) := fun a b h1 h2 h3 => h2 (h1.symm.trans h3.2)
  have n0 : ∀ c, ¬ T p = c → ¬ (p < n ∧ T p = c) := fun c h1 h3 => h1 h3.2
  by_cases h1 : T p = 119
  · rw [if_pos (show p < n ∧ T p = 119 from ⟨hp, h1⟩), if_neg (by decide), h1]
    rfl
  rw [if_neg (n0 _ h1), if_pos rfl]
  by_cases h2 : T p = 110
  · rw [if_pos (show p < n ∧ T p = 110 from ⟨hp, h2⟩), if_neg (by decide), h2]
    rfl
  rw [if_neg (n0 _ h2), if_pos rfl]
  by_cases h3 : T p = 115
  · rw [if_pos (show p < n ∧ T p = 115 from ⟨hp, h3⟩), if_neg (by decide), h3]
    rfl
  rw [if_neg (n0 _ h3), if_pos rfl]
  by_cases h4 : T p = 104
  · rw [if_pos (show p < n ∧ T p = 104 from ⟨hp, h4⟩), if_neg (by decide), h4]
    rfl
  rw [if_neg (n0 _ h4), if_pos rfl]
  by_cases h5 : T p = 118
  · rw [if_pos (show p < n ∧ T p = 118 from ⟨hp, h5⟩), if_neg (by decide), h5]
    rfl
  rw [if_neg (n0 _ h5), if_pos rfl, if_neg h4, if_neg h2, if_neg h3, if_neg h5, if_neg h1]
theorem tkNo3 {N : wc_M} {T : Nat → Int32} {n p : Nat} (h : Tk N T n p) : N 21 0 11 = 3 ↔ p = n := by
  obtain ⟨h1, h2, h3, h4, h5⟩ := h
  constructor
  · intro e
    rcases h5 with ⟨q, t⟩ | ⟨q, hno, v, pl, t⟩ | ⟨v, l, hok, t, va, pl⟩ | ⟨h3d, t⟩
    · exact q
    · exfalso
      rw [e] at t
      unfold tokL at t
      split at t
      · split at t
        · exact absurd t (by decide)
        · split at t
          · exact absurd t (by decide)
          · exact absurd t (by decide)
      · exact absurd t (by decide)
    · rw [e] at t
      exact absurd t (by decide)
    · rw [e] at t
      exact absurd t (by decide)
  · intro e
    rcases h5 with ⟨q, t⟩ | ⟨q, hno, v, pl, t⟩ | ⟨v, l, hok, t, va, pl⟩ | ⟨h3d, t⟩
    · exact t
    · omega
    · have := nOk_b hok
      omega
    · obtain ⟨d, e2, f, a1, a2, a3⟩ := h3d
      have := a1.1
      omega
theorem wks {T : Nat → Int32} {n : Nat} (hn : n ≤ 120) : ∀ (k w p : Nat) (M : wc_M), 6 - w = k → w ≤ 6 → CTs M T n p → sW (wst M 1) → sWn (wst M 1) 16 = w → (∃ f pl M', (∀ m, k < m → l_T_readWorks_2 1 m (nI w) M = some (.inl (0, M'))) ∧ CF M M' ∧ M' 4 0 2 = f ∧ M' 4 0 3 = nI pl ∧ ∀ N, Tk N T n p → (∀ j, j < 57 → N 28 0 j = wst M 1 j) → N 21 0 16 = nI w → ∃ N', (∀ m, k + 1 < m → l_M_readPass_34 m 1 N = some (0, N')) ∧ N' 21 0 14 = f ∧ N' 21 0 13 = nI pl ∧ RF2 N N') ∨ (∃ M', (∀ m, k < m → l_T_readWorks_2 1 m (nI w) M = some (.inr M')) ∧ CF M M' ∧ M' 4 0 2 = M 4 0 2 ∧ M' 6 1 5 = M 6 1 5 ∧ sW (wst M' 1) ∧ ∀ N, Tk N T n p → (∀ j, j < 57 → N 28 0 j = wst M 1 j) → N 21 0 16 = nI w → ∃ N', (∀ m, k < m → l_M_readPass_34 m 1 N = some (1, N')) ∧ (∀ j, j < 57 → N' 28 0 j = wst M' 1 j) ∧ N' 21 0 16 = nI (sWn (wst M' 1) 16) ∧ RF2 N N') := by
  intro k
  induction k with
  | zero =>
    intro w p M hk hw hC hS hwn
    have e6 : w = 6 := by omega
    subst e6
    by_cases hp : p = n
    · refine Or.inr ⟨M, ?_, fun _ _ _ _ => rfl, rfl, rfl, hS, fun N hN hrow h16 => ⟨N, ?_, hrow, by rw [hwn]; exact h16, fun _ _ _ _ => rfl⟩⟩
      · intro m hm
        obtain ⟨m, rfl⟩ : ∃ z, m = z + 1 := ⟨m - 1, by omega⟩
        have := hC.2.2.1
        rw [l_T_readWorks_2, if_neg (by decide), hC.1, hC.2.1, if_pos (by rw [nI_leI (by omega) (by omega)]; omega)]
      · intro m hm
        obtain ⟨m, rfl⟩ : ∃ z, m = z + 1 := ⟨m - 1, by omega⟩
        rw [l_M_readPass_34, if_neg (by decide), if_pos ((tkNo3 hN).mpr hp)]
    · have hlt : p < n := by have := hC.2.2.1; omega
      have e5 : M 5 0 p = T p := by rw [hC.2.2.2]
      have stopM : ∀ (N : wc_M) (m : Nat), 0 < m → l_M_readPass_34 m 0 N = some (0, N) := by
        intro N m hm
        obtain ⟨m, rfl⟩ : ∃ z, m = z + 1 := ⟨m - 1, by omega⟩
        rw [l_M_readPass_34, if_pos rfl]
      rcases kOf (T p) with hk0 | ⟨zk, hk1, hk5, hk0⟩
      · refine Or.inl ⟨1, p, tF M 1 (nI p), ?_, CF_tF, tF_2, tF_3, fun N hN hrow h16 => ⟨wc_up N 21 0 14 1, ?_, ?_, hN.1, ?_⟩⟩
        · intro m hm
          obtain ⟨m, rfl⟩ : ∃ z, m = z + 1 := ⟨m - 1, by omega⟩
          rw [l_T_readWorks_2, if_neg (by decide), hC.1, hC.2.1, if_neg (by rw [nI_leI (by omega) (by omega)]; omega), if_pos (n_wib (by omega) (by decide)), n_t (by omega), e5, if_pos hk0]
          rfl
        · intro m hm
          obtain ⟨m, rfl⟩ : ∃ z, m = z + 1 := ⟨m - 1, by omega⟩
          rw [l_M_readPass_34, if_neg (by decide), if_neg (fun z => hp ((tkNo3 hN).mp z)), kSel hN hlt, Option.bind_some, hk0, if_pos (by decide)]
          exact stopM _ m (by omega)
        · unfold wc_up
          rw [if_pos ⟨rfl, rfl, rfl⟩]
        · intro k i s hz
          unfold wc_up
          rw [if_neg (by omega)]
      · have hz0 : ¬ nI zk = 0 := by
          intro z
          have := (nI_eq (a := zk) (b := 0) (by omega) (by omega)).mp z
          omega
        refine Or.inl ⟨3, p, tF M 3 (nI p), ?_, CF_tF, tF_2, tF_3, fun N hN hrow h16 => ⟨wc_up N 21 0 14 3, ?_, ?_, hN.1, ?_⟩⟩
        · intro m hm
          obtain ⟨m, rfl⟩ : ∃ z, m = z + 1 := ⟨m - 1, by omega⟩
          rw [l_T_readWorks_2, if_neg (by decide), hC.1, hC.2.1, if_neg (by rw [nI_leI (by omega) (by omega)]; omega), if_pos (n_wib (by omega) (by decide)), n_t (by omega), e5, hk0, if_neg hz0, if_pos (by decide)]
          rfl
        · intro m hm
          obtain ⟨m, rfl⟩ : ∃ z, m = z + 1 := ⟨m - 1, by omega⟩
          rw [l_M_readPass_34, if_neg (by decide), if_neg (fun z => hp ((tkNo3 hN).mp z)), kSel hN hlt, Option.bind_some, hk0, if_neg (by
            intro z
            have := (nI_leI (a := zk) (b := 0) (by omega) (by omega)).mp z
            omega)]
          unfold f_M_readWork
          rw [if_pos (by rw [h16]; rfl)]
          exact stopM _ m (by omega)
        · unfold wc_up
          rw [if_pos ⟨rfl, rfl, rfl⟩]
        · intro k i s hz
          unfold wc_up
          rw [if_neg (by omega)]
  | succ k ih =>
    intro w p M hk hw hC hS hwn
    have hw6 : w < 6 := by omega
    have h6 : ¬ (6 : Int32) < nI w := by
      rw [n_gt (by decide) (by omega)]
      omega
    by_cases hp : p = n
    · refine Or.inr ⟨M, ?_, fun _ _ _ _ => rfl, rfl, rfl, hS, fun N hN hrow h16 => ⟨N, ?_, hrow, by rw [hwn]; exact h16, fun _ _ _ _ => rfl⟩⟩
      · intro m hm
        obtain ⟨m, rfl⟩ : ∃ z, m = z + 1 := ⟨m - 1, by omega⟩
        have := hC.2.2.1
        rw [l_T_readWorks_2, if_neg h6, hC.1, hC.2.1, if_pos (by rw [nI_leI (by omega) (by omega)]; omega)]
      · intro m hm
        obtain ⟨m, rfl⟩ : ∃ z, m = z + 1 := ⟨m - 1, by omega⟩
        rw [l_M_readPass_34, if_neg (by decide), if_pos ((tkNo3 hN).mpr hp)]
    · have hlt : p < n := by have := hC.2.2.1; omega
      have e5 : M 5 0 p = T p := by rw [hC.2.2.2]
      have stopM : ∀ (N : wc_M) (m : Nat), 0 < m → l_M_readPass_34 m 0 N = some (0, N) := by
        intro N m hm
        obtain ⟨m, rfl⟩ : ∃ z, m = z + 1 := ⟨m - 1, by omega⟩
        rw [l_M_readPass_34, if_pos rfl]
      rcases kOf (T p) with hk0 | ⟨zk, hk1, hk5, hk0⟩
      · refine Or.inl ⟨1, p, tF M 1 (nI p), ?_, CF_tF, tF_2, tF_3, fun N hN hrow h16 => ⟨wc_up N 21 0 14 1, ?_, ?_, hN.1, ?_⟩⟩
        · intro m hm
          obtain ⟨m, rfl⟩ : ∃ z, m = z + 1 := ⟨m - 1, by omega⟩
          rw [l_T_readWorks_2, if_neg h6, hC.1, hC.2.1, if_neg (by rw [nI_leI (by omega) (by omega)]; omega), if_pos (n_wib (by omega) (by decide)), n_t (by omega), e5, if_pos hk0]
          rfl
        · intro m hm
          obtain ⟨m, rfl⟩ : ∃ z, m = z + 1 := ⟨m - 1, by omega⟩
          rw [l_M_readPass_34, if_neg (by decide), if_neg (fun z => hp ((tkNo3 hN).mp z)), kSel hN hlt, Option.bind_some, hk0, if_pos (by decide)]
          exact stopM _ m (by omega)
        · unfold wc_up
          rw [if_pos ⟨rfl, rfl, rfl⟩]
        · intro k i s hz
          unfold wc_up
          rw [if_neg (by omega)]
      · have hz0 : ¬ nI zk = 0 := by
          intro z
          have := (nI_eq (a := zk) (b := 0) (by omega) (by omega)).mp z
          omega
        have hzl : ¬ nI zk ≤ 0 := by
          intro z
          have := (nI_leI (a := zk) (b := 0) (by omega) (by omega)).mp z
          omega
        have hw1 : ¬ nI w = 6 := by
          rw [n_eq (by decide) (by omega)]
          omega
        have C1 : CTs (wc_up M 4 0 4 (nI (p + 1))) T n (p + 1) := CTs_u hC at_4 (by omega) CF_at
        have S1 : wst (wc_up M 4 0 4 (nI (p + 1))) 1 = wst M 1 := by
          refine wst_fr (fun a s g1 g2 => ?_)
          unfold wc_up
          rw [if_neg (by omega)]
        have pl10 : ∀ N, Tk N T n p → N 21 0 10 = nI (p + 1) := by
          intro N hN
          have hr := r_isL hN (c := T p)
          obtain ⟨h1, h2, h3, h4, h5⟩ := hN
          have nd : ∀ d, ¬ dg T n p d := by
            rintro d ⟨_, d2, d3⟩
            have : ∀ d, d < 10 → f_T_kindOf (nI (48 + d)) = 0 := by decide
            rw [d3, this d d2] at hk0
            exact hz0 hk0.symm
          rcases h5 with ⟨q, t⟩ | ⟨q, hno, v, pl, t⟩ | ⟨v, l, hok, t, va, pl⟩ | ⟨h3d, t⟩
          · omega
          · exact pl
          · exact absurd nd (nOk_no hok).1
          · obtain ⟨d, e, f, a1, _⟩ := h3d
            exact absurd a1 (nd d)
        have stepC : ∀ m, l_T_readWorks_2 1 (m + 1) (nI w) M = (Option.bind (f_T_readWork (nI zk) 1 (wc_up M 4 0 4 (nI (p + 1)))) fun q7 => (if q7.1 = (0 : Int32) then some (.inl ((0 : Int32), q7.2)) else l_T_readWorks_2 1 m (nI (w + 1)) q7.2)) := by
          intro m
          rw [l_T_readWorks_2, if_neg h6, hC.1, hC.2.1, if_neg (by rw [nI_leI (by omega) (by omega)]; omega), if_pos (n_wib (by omega) (by decide)), n_t (by omega), e5, hk0, if_neg hz0, if_neg hw1, n_ar, n_ar]
        have stepM : ∀ N m, Tk N T n p → l_M_readPass_34 (m + 1) 1 N = Option.bind (f_M_readWork (nI zk) N) fun q14 => l_M_readPass_34 m q14.1 q14.2 := by
          intro N m hN
          rw [l_M_readPass_34, if_neg (by decide), if_neg (fun z => hp ((tkNo3 hN).mp z)), kSel hN hlt, Option.bind_some, hk0, if_neg hzl]
        rcases work1 (w := w) (zk := zk) hn C1 S1 (sW_kd hS) hS.2.2.2.2.1 hw6 with ⟨f, pl, M', a1, a2, a3, a4, a5⟩ | ⟨c, h, p', M', a1, a2, a3, a4, a5, a6, a7, a8, a9, a10⟩
        · refine Or.inl ⟨f, pl, M', ?_, CF_t CF_at a2, a3, a4, fun N hN hrow h16 => ?_⟩
          · intro m hm
            obtain ⟨m, rfl⟩ : ∃ z, m = z + 1 := ⟨m - 1, by omega⟩
            rw [stepC, a1, Option.bind_some]
            rfl
          · obtain ⟨N', b1, b2, b3, b4⟩ := a5 N p hN (pl10 N hN) hrow h16
            refine ⟨N', ?_, b2, b3, b4⟩
            intro m hm
            obtain ⟨m, rfl⟩ : ∃ z, m = z + 1 := ⟨m - 1, by omega⟩
            rw [stepM N m hN, b1, Option.bind_some]
            exact stopM _ m (by omega)
        · have hSw : sW (wst M' 1) := by
            rw [a8]
            exact sPut_w hS a1 ⟨zk, hk5, rfl⟩ (fun z => absurd z hz0) (Or.inl (by omega))
          have hSn : sWn (wst M' 1) 16 = w + 1 := by
            rw [a8, sWn_put a3 hz0 a1 16 (by omega), hwn, if_pos a1]
          have f42 : M' 4 0 2 = M 4 0 2 := by
            rw [a7]
            unfold wc_up
            rw [if_neg (by omega)]
          have f6 : M' 6 1 5 = M 6 1 5 := by
            rw [a9]
            unfold wc_up
            rw [if_neg (by omega)]
          rcases ih (w + 1) p' M' (by omega) (by omega) a6 hSw hSn with ⟨f, pl, M2, d1, d2, d3, d4, d5⟩ | ⟨M2, d1, d2, d3, d4, d5, d6⟩
          · refine Or.inl ⟨f, pl, M2, ?_, CF_t CF_at (CF_t a5 d2), d3, d4, fun N hN hrow h16 => ?_⟩
            · intro m hm
              obtain ⟨m, rfl⟩ : ∃ z, m = z + 1 := ⟨m - 1, by omega⟩
              rw [stepC, a4, Option.bind_some]
              show (if (1 : Int32) = 0 then _ else l_T_readWorks_2 1 m (nI (w + 1)) M') = _
              rw [if_neg (by decide)]
              exact d1 m (by omega)
            · obtain ⟨N1, b1, b2, b3, b4, b5⟩ := a10 N p hN (pl10 N hN) hrow h16
              obtain ⟨N2, e1, e2, e3, e4⟩ := d5 N1 b2 (by rw [a8]; exact b3) b4
              refine ⟨N2, ?_, e2, e3, RF2_t b5 e4⟩
              intro m hm
              obtain ⟨m, rfl⟩ : ∃ z, m = z + 1 := ⟨m - 1, by omega⟩
              rw [stepM N m hN, b1, Option.bind_some]
              exact e1 m (by omega)
          · refine Or.inr ⟨M2, ?_, CF_t CF_at (CF_t a5 d2), d3.trans f42, d4.trans f6, d5, fun N hN hrow h16 => ?_⟩
            · intro m hm
              obtain ⟨m, rfl⟩ : ∃ z, m = z + 1 := ⟨m - 1, by omega⟩
              rw [stepC, a4, Option.bind_some]
              show (if (1 : Int32) = 0 then _ else l_T_readWorks_2 1 m (nI (w + 1)) M') = _
              rw [if_neg (by decide)]
              exact d1 m (by omega)
            · obtain ⟨N1, b1, b2, b3, b4, b5⟩ := a10 N p hN (pl10 N hN) hrow h16
              obtain ⟨N2, e1, e2, e3, e4⟩ := d6 N1 b2 (by rw [a8]; exact b3) b4
              refine ⟨N2, ?_, e2, e3, RF2_t b5 e4⟩
              intro m hm
              obtain ⟨m, rfl⟩ : ∃ z, m = z + 1 := ⟨m - 1, by omega⟩
              rw [stepM N m hN, b1, Option.bind_some]
              exact e1 m (by omega)
/-- the lines of gusts or of rises -/
theorem lines {K off n p : Nat} {T : Nat → Int32} {c : Int32} (hKo : (K = 7 ∧ off = 1) ∨ (K = 8 ∧ off = 5)) (hn : n ≤ 120) (hc : tokL c = 1) (hcd : ∀ d, d < 10 → ¬ c = nI (48 + d)) (l : Nat → Int32 → wc_M → Option ((Int32 × wc_M) ⊕ (wc_M))) (hl : ∀ m x3 M, l (m + 1) x3 M = (if (4 : Int32) ≤ x3 then some (.inr M) else (Option.bind (f_T_readNumber (31 : Int32) M) fun q4 => (if wib x3 4 = true then (if ((wc_up q4.2 K 1 (x3).toNatClampNeg q4.1) K 1 (x3).toNatClampNeg) < (0 : Int32) then some (.inl ((0 : Int32), (wc_up q4.2 K 1 (x3).toNatClampNeg q4.1))) else (Option.bind (if (3 : Int32) ≤ x3 then some (59 : Int32) else some (44 : Int32)) fun t6 => (Option.bind (f_T_readByte t6 (wc_up q4.2 K 1 (x3).toNatClampNeg q4.1)) fun q8 => (if q8.1 = (0 : Int32) then some (.inl ((0 : Int32), q8.2)) else l m (x3 + (1 : Int32)) q8.2)))) else none)))) (fC : wc_M → Option (Int32 × wc_M)) (hf : ∀ M, fC M = (Option.bind (f_T_readByte c M) fun q2 => (if q2.1 = (0 : Int32) then some ((0 : Int32), q2.2) else (Option.bind (l 2000 (0 : Int32) q2.2) fun o12 => wel (fun r13 => some r13) (fun t10 => some ((1 : Int32), t10)) o12)))) {M : wc_M} (hC : CTs M T n p) : (∃ f pl M', fC M = some (0, M') ∧ CF M M' ∧ M' 4 0 2 = f ∧ M' 4 0 3 = nI pl ∧ ∀ N, Tk N T n p → ∃ N', f_M_readFour c (nI off) N = some (0, N') ∧ N' 21 0 14 = f ∧ N' 21 0 13 = nI pl ∧ RF N N') ∨ (∃ (g : Nat → Nat) (p' : Nat) (M' : wc_M), fC M = some (1, M') ∧ CF M M' ∧ CTs M' T n p' ∧ M' 4 0 2 = M 4 0 2 ∧ (∀ j, wst M' 1 j = if off ≤ j ∧ j < off + 4 then nI (g j) else wst M 1 j) ∧ (∀ j, g j < 32) ∧ M' 6 1 5 = M 6 1 5 ∧ ∀ N, Tk N T n p → ∃ N', f_M_readFour c (nI off) N = some (1, N') ∧ Tk N' T n p' ∧ (∀ j, N' 28 0 j = if off ≤ j ∧ j < off + 4 then nI (g j) else N 28 0 j) ∧ RF N N') := by
  have b := t_byte (M := M) c hn hC.1 hC.2.1 hC.2.2.1
  have e5 : M 5 0 p = T p := by rw [hC.2.2.2]
  rw [e5] at b
  by_cases hs : p < n ∧ T p = c
  · rw [if_pos hs] at b
    have C1 : CTs (wc_up M 4 0 4 (nI (p + 1))) T n (p + 1) := CTs_u hC at_4 (by omega) CF_at
    have S1 : wst (wc_up M 4 0 4 (nI (p + 1))) 1 = wst M 1 := by
      refine wst_fr (fun a s g1 g2 => ?_)
      unfold wc_up
      rw [if_neg (by omega)]
    have tk : ∀ N, Tk N T n p → ∃ N1, f_M_takes c N = some (1, N1) ∧ Tk N1 T n (p + 1) ∧ RF N N1 ∧ ∀ j, N1 28 0 j = N 28 0 j := by
      intro N hN
      rcases r_takes hn hN hc hcd with ⟨_, _, N1, m1, m2, m3⟩ | ⟨z, _⟩
      · exact ⟨N1, m1, m2, fun k i s hz => m3 k i s (by omega), fun j => m3 _ _ _ (by omega)⟩
      · exact absurd hs z
    rcases fours hKo hn l hl 4 0 (p + 1) (wc_up M 4 0 4 (nI (p + 1))) rfl (by omega) C1 with ⟨f, pl, M', d1, d2, d3, d4, d5⟩ | ⟨g, p', M', d1, d2, d3, d4, d5, d6, d7, d8⟩
    · refine Or.inl ⟨f, pl, M', ?_, CF_t CF_at d2, d3, d4, fun N hN => ?_⟩
      · have d1 : l 2000 0 (wc_up M 4 0 4 (nI (p + 1))) = some (.inl (0, M')) := d1 2000 (by omega)
        rw [hf, b, Option.bind_some]
        show (if (1 : Int32) = 0 then _ else Option.bind (l 2000 0 (wc_up M 4 0 4 (nI (p + 1)))) _) = _
        rw [if_neg (by decide), d1, Option.bind_some]
        rfl
      · obtain ⟨N1, m1, m2, m3, m4⟩ := tk N hN
        obtain ⟨N', e1, e2, e3, e4⟩ := d5 N1 m2
        refine ⟨N', ?_, e2, e3, RF_t m3 e4⟩
        have e1 : l_M_readFour_6 (nI off) 2000 1 0 N1 = some (0, N') := e1 2000 (by omega)
        unfold f_M_readFour
        rw [m1, Option.bind_some]
        show Option.bind (l_M_readFour_6 (nI off) 2000 1 0 N1) _ = _
        rw [e1, Option.bind_some]
        rfl
    · refine Or.inr ⟨g, p', M', ?_, CF_t CF_at d2, d3, ?_, ?_, d6, ?_, fun N hN => ?_⟩
      · have d1 : l 2000 0 (wc_up M 4 0 4 (nI (p + 1))) = some (.inr M') := d1 2000 (by omega)
        rw [hf, b, Option.bind_some]
        show (if (1 : Int32) = 0 then _ else Option.bind (l 2000 0 (wc_up M 4 0 4 (nI (p + 1)))) _) = _
        rw [if_neg (by decide), d1, Option.bind_some]
        rfl
      · rw [d4]
        unfold wc_up
        rw [if_neg (by omega)]
      · intro j
        rw [d5 j, S1, Nat.add_zero]
      · rw [d7]
        unfold wc_up
        rw [if_neg (by omega)]
      · obtain ⟨N1, m1, m2, m3, m4⟩ := tk N hN
        obtain ⟨N', e1, e2, e3, e4⟩ := d8 N1 m2
        refine ⟨N', ?_, e2, ?_, RF_t m3 e4⟩
        · have e1 : l_M_readFour_6 (nI off) 2000 1 0 N1 = some (1, N') := e1 2000 (by omega)
          unfold f_M_readFour
          rw [m1, Option.bind_some]
          show Option.bind (l_M_readFour_6 (nI off) 2000 1 0 N1) _ = _
          rw [e1, Option.bind_some]
          rfl
        · intro j
          rw [e3 j, m4 j, Nat.add_zero]
  · rw [if_neg hs] at b
    refine Or.inl ⟨1, p, tF M 1 (nI p), ?_, CF_tF, tF_2, tF_3, fun N hN => ⟨wc_up N 21 0 14 1, ?_, ?_, hN.1, ?_⟩⟩
    · rw [hf, b, Option.bind_some]
      rfl
    · rcases r_takes hn hN hc hcd with ⟨z1, z2, _⟩ | ⟨_, m1⟩
      · exact absurd ⟨z1, z2⟩ hs
      · unfold f_M_readFour
        rw [m1, Option.bind_some]
        show Option.bind (l_M_readFour_6 (nI off) 2000 0 0 (wc_up N 21 0 14 1)) _ = _
        rw [l_M_readFour_6, if_neg (by decide), if_pos rfl, Option.bind_some]
        rfl
    · unfold wc_up
      rw [if_pos ⟨rfl, rfl, rfl⟩]
    · intro k i s hz
      unfold wc_up
      rw [if_neg (by omega)]
/-- the class's beginning -/
def sClr (st : Nat → Int32) (c : Nat) : Nat → Int32 := fun j => if 9 ≤ j ∧ j < 57 ∧ (j - 9) % 16 < c then 0 else st j
theorem sClr_ok {st : Nat → Int32} {c : Nat} (h : sOk st) : sOk (sClr st c) := by
  intro j hj
  unfold sClr
  rw [if_neg (by omega)]
  exact h j hj
theorem sClr_s {st : Nat → Int32} {c : Nat} (hc : c < 16) : sPut (sClr st c) c 0 0 = sClr st (c + 1) := by
  funext j
  unfold sPut sClr
  by_cases h1 : j = 9 + c
  · rw [if_pos h1, if_pos (by omega)]
  · rw [if_neg h1]
    by_cases h2 : j = 25 + c
    · rw [if_pos h2, if_pos (by omega)]
    · rw [if_neg h2]
      by_cases h3 : j = 41 + c
      · rw [if_pos h3, if_pos (by omega)]
      · rw [if_neg h3]
        by_cases h4 : 9 ≤ j ∧ j < 57 ∧ (j - 9) % 16 < c
        · rw [if_pos h4, if_pos (by omega)]
        · rw [if_neg h4, if_neg (by omega)]
theorem p_begin {M : wc_M} : ∃ M', f_P_begin 1 M = some M' ∧ CF M M' ∧ M' 6 1 5 = 1 ∧ (∀ k i s, k < 6 → M' k i s = M k i s) ∧ ∀ j, wst M' 1 j = if 1 ≤ j ∧ j < 9 then wst M 1 j else 0 := by
  have h := loop_to (fun zn zx zM => l_P_begin_2 1 zn zx zM) (fun zc => mP M 1 (sClr (wst M 1) zc) (M 6 1 5)) 16 (mP M 1 (sClr (wst M 1) 16) (M 6 1 5)) (by
    intro zn zc hzc
    show l_P_begin_2 1 (zn + 1) (nI zc) _ = _
    rw [l_P_begin_2, if_neg (by rw [n_le (by decide) (by omega)]; omega), p_clearP (sClr_ok (wst_ok M 1)) hzc, Option.bind_some, n_ar, sClr_s hzc]) (by
    intro zn
    show l_P_begin_2 1 (zn + 1) (nI 16) _ = _
    rw [l_P_begin_2, if_pos (by decide)]) 2000 (by decide)
  have h : l_P_begin_2 1 2000 0 (mP M 1 (sClr (wst M 1) 0) (M 6 1 5)) = some (mP M 1 (sClr (wst M 1) 16) (M 6 1 5)) := h
  have e0 : sClr (wst M 1) 0 = wst M 1 := by
    funext j
    unfold sClr
    rw [if_neg (by omega)]
  rw [e0, mP_id] at h
  refine ⟨wc_up (wc_up (mP M 1 (sClr (wst M 1) 16) (M 6 1 5)) 6 1 5 1) 6 1 6 0, ?_, ?_, ?_, ?_, ?_⟩
  · unfold f_P_begin
    rw [h, Option.bind_some]
  · intro k i s hz
    unfold wc_up
    rw [if_neg (by omega), if_neg (by omega), mP_off (by omega)]
  · unfold wc_up
    rw [if_neg (by omega), if_pos ⟨rfl, rfl, rfl⟩]
  · intro k i s hz
    unfold wc_up
    rw [if_neg (by omega), if_neg (by omega), mP_off (by omega)]
  · intro j
    have e1 : ∀ k s, ¬ (k = 6 ∧ (s = 5 ∨ s = 6)) → wc_up (wc_up (mP M 1 (sClr (wst M 1) 16) (M 6 1 5)) 6 1 5 1) 6 1 6 0 k 1 s = mP M 1 (sClr (wst M 1) 16) (M 6 1 5) k 1 s := by
      intro k s hz
      unfold wc_up
      rw [if_neg (by omega), if_neg (by omega)]
    have ew : ∀ j, j ≠ 0 → wst (wc_up (wc_up (mP M 1 (sClr (wst M 1) 16) (M 6 1 5)) 6 1 5 1) 6 1 6 0) 1 j = sClr (wst M 1) 16 j := by
      intro j hj
      have e2 := congrFun (wst_mP (M := M) (p := 1) (th := M 6 1 5) (sClr_ok (c := 16) (wst_ok M 1))) j
      generalize sClr (wst M 1) 16 = Q at e1 e2 ⊢
      rw [← e2]
      unfold wst
      rw [if_neg hj, if_neg hj]
      simp only [fun s => e1 7 s (by omega), fun s => e1 8 s (by omega), fun s => e1 9 s (by omega), fun s => e1 10 s (by omega), fun s => e1 11 s (by omega)]
    by_cases hj : j = 0
    · subst hj
      rw [if_neg (by omega), wst_h]
      unfold wc_up
      rw [if_pos ⟨rfl, rfl, rfl⟩]
    · rw [ew j hj]
      unfold sClr
      by_cases h9 : j < 9
      · rw [if_neg (by omega), if_pos (by omega)]
      · rw [if_neg (show ¬ (1 ≤ j ∧ j < 9) by omega)]
        by_cases h57 : j < 57
        · rw [if_pos (by omega)]
        · rw [if_neg (by omega)]
          exact wst_ok M 1 j (by omega)
