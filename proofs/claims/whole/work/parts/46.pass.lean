/-! PASS -/
theorem t_read {M : wc_M} {T : Nat → Int32} {n : Nat} (hn : n ≤ 120) (h1 : M 4 0 1 = nI n) (hT : M 5 0 = T) : (∃ f pl M', f_T_read 1 M = some (0, M') ∧ CF M M' ∧ M' 4 0 2 = f ∧ M' 4 0 3 = nI pl ∧ ∀ N, N 21 0 8 = nI n → (∀ i, i < n → N 27 0 i = T i) → ∃ N', f_M_readPass N = some (0, N') ∧ N' 21 0 14 = f ∧ N' 21 0 13 = nI pl ∧ RF2 N N') ∨ (∃ M', f_T_read 1 M = some (1, M') ∧ CF M M' ∧ M' 4 0 2 = M 4 0 2 ∧ M' 6 1 5 = 1 ∧ sW (wst M' 1) ∧ ∀ N, N 21 0 8 = nI n → (∀ i, i < n → N 27 0 i = T i) → ∃ N', f_M_readPass N = some (1, N') ∧ (∀ j, j < 57 → N' 28 0 j = wst M' 1 j) ∧ N' 21 0 16 = nI (sWn (wst M' 1) 16) ∧ RF2 N N') := by
  obtain ⟨Mb, b1, b2, b3, b4, b5⟩ := p_begin (M := wc_up M 4 0 4 0)
  have Fb : CF M Mb := CF_t CF_at b2
  have b42 : Mb 4 0 2 = M 4 0 2 := by
    rw [b4 _ _ _ (by omega)]
    unfold wc_up
    rw [if_neg (by omega)]
  have Cb : CTs Mb T n 0 := by
    refine ⟨by rw [b4 _ _ _ (by omega)]; exact h1, by rw [b4 _ _ _ (by omega)]; exact at_4, by omega, ?_⟩
    rw [← hT]
    funext i
    exact b4 _ _ _ (by omega)
  have start : ∀ N, N 21 0 8 = nI n → (∀ i, i < n → N 27 0 i = T i) → ∃ N1, Tk N1 T n 0 ∧ (∀ j, j < 57 → N1 28 0 j = 0) ∧ N1 21 0 16 = nI 0 ∧ RF2 N N1 ∧ f_M_readPass N = (Option.bind (f_M_readFour (97 : Int32) (nI 1) N1) fun q7 => (if q7.1 = (0 : Int32) then some ((0 : Int32), q7.2) else (Option.bind (f_M_readFour (98 : Int32) (nI 5) q7.2) fun q9 => (if q9.1 = (0 : Int32) then some ((0 : Int32), q9.2) else (Option.bind (l_M_readPass_34 2000 (1 : Int32) q9.2) fun t16 => (if wzb t16.1 = true then some (t16.1, t16.2) else none)))))) := by
    intro N h8 h27
    generalize hN0 : wc_up (wc_up N 21 0 10 0) 21 0 16 0 = N0
    have h : l_M_readPass_8 2000 0 (mI N0 28 0 0 0 (fun _ => 0)) = some (mI N0 28 0 0 57 (fun _ => 0)) := loop_to (fun zn zx zM => l_M_readPass_8 zn zx zM) (fun zc => mI N0 28 0 0 zc (fun _ => 0)) 57 _ (by
      intro zn zc hzc
      show l_M_readPass_8 (zn + 1) (nI zc) _ = _
      have e := mI_up (M := N0) (k := 28) (i := 0) (o := 0) (n := zc) (f := fun _ => (0 : Int32))
      rw [Nat.zero_add] at e
      rw [l_M_readPass_8, if_neg (by rw [n_le (by decide) (by omega)]; omega), if_pos (n_wib (by omega) (by decide)), n_ar, n_t (by omega), e]) (by
      intro zn
      show l_M_readPass_8 (zn + 1) (nI 57) _ = _
      rw [l_M_readPass_8, if_pos (by decide)]) 2000 (by decide)
    rw [mI_0] at h
    have o0 : ∀ k i s, ¬ (k = 21 ∧ i = 0 ∧ (s = 10 ∨ s = 16)) → N0 k i s = N k i s := by
      intro k i s hz
      rw [← hN0]
      unfold wc_up
      rw [if_neg (by omega), if_neg (by omega)]
    have e10 : N0 21 0 10 = nI 0 := by
      rw [← hN0]
      unfold wc_up
      rw [if_neg (by omega), if_pos ⟨rfl, rfl, rfl⟩]
      rfl
    have e16 : N0 21 0 16 = nI 0 := by
      rw [← hN0]
      unfold wc_up
      rw [if_pos ⟨rfl, rfl, rfl⟩]
      rfl
    obtain ⟨N1, n1, n2, n3⟩ := r_next (N := mI N0 28 0 0 57 (fun _ => 0)) (T := T) (n := n) (p := 0) hn (by rw [mI_off (by omega), o0 _ _ _ (by omega)]; exact h8) (fun i hi => by rw [mI_off (by omega), o0 _ _ _ (by omega)]; exact h27 i hi) (by rw [mI_off (by omega)]; exact e10) (by omega)
    refine ⟨N1, n2, fun j hj => ?_, ?_, fun k i s hz => ?_, ?_⟩
    · rw [n3 _ _ _ (by omega)]
      have := mI_at (M := N0) (k := 28) (i := 0) (o := 0) (n := 57) (j := j) (f := fun _ => (0 : Int32)) hj
      rw [Nat.zero_add] at this
      exact this
    · rw [n3 _ _ _ (by omega), mI_off (by omega)]
      exact e16
    · rw [n3 _ _ _ (by omega), mI_off (by omega), o0 _ _ _ (by omega)]
    · unfold f_M_readPass
      rw [hN0, h, Option.bind_some, n1, Option.bind_some]
      rfl
  have hrd : f_T_read 1 M = (Option.bind (f_T_readLines_7 (97 : Int32) 1 Mb) fun q4 => (if q4.1 = (0 : Int32) then some ((0 : Int32), q4.2) else (Option.bind (f_T_readLines_8 (98 : Int32) 1 q4.2) fun q6 => (if q6.1 = (0 : Int32) then some ((0 : Int32), q6.2) else (Option.bind (f_T_readWorks 1 q6.2) fun q8 => (if q8.1 = (0 : Int32) then some ((0 : Int32), q8.2) else some ((1 : Int32), q8.2))))))) := by
    unfold f_T_read
    rw [b1, Option.bind_some]
  rcases lines (K := 7) (off := 1) (c := 97) (Or.inl ⟨rfl, rfl⟩) hn rfl (by decide) (l_T_readLines_7_8 1) (fun m x3 Q => by rw [l_T_readLines_7_8]) (f_T_readLines_7 97 1) (fun Q => rfl) Cb with ⟨f, pl, M', a1, a2, a3, a4, a5⟩ | ⟨g1, p1, M1, a1, a2, a3, a4, a5, a6, a7, a8⟩
  · refine Or.inl ⟨f, pl, M', ?_, CF_t Fb a2, a3, a4, fun N h8 h27 => ?_⟩
    · rw [hrd, a1, Option.bind_some]
      rfl
    · obtain ⟨N1, s1, s2, s3, s4, s5⟩ := start N h8 h27
      obtain ⟨N', e1, e2, e3, e4⟩ := a5 N1 s1
      refine ⟨N', ?_, e2, e3, RF2_t s4 (RF_2 e4)⟩
      rw [s5, e1, Option.bind_some]
      rfl
  rcases lines (K := 8) (off := 5) (c := 98) (Or.inr ⟨rfl, rfl⟩) hn rfl (by decide) (l_T_readLines_8_8 1) (fun m x3 Q => by rw [l_T_readLines_8_8]) (f_T_readLines_8 98 1) (fun Q => rfl) a3 with ⟨f, pl, M', d1, d2, d3, d4, d5⟩ | ⟨g2, p2, M2, d1, d2, d3, d4, d5, d6, d7, d8⟩
  · refine Or.inl ⟨f, pl, M', ?_, CF_t Fb (CF_t a2 d2), d3, d4, fun N h8 h27 => ?_⟩
    · rw [hrd, a1, Option.bind_some]
      show (if (1 : Int32) = 0 then _ else (Option.bind (f_T_readLines_8 (98 : Int32) 1 M1) _)) = _
      rw [if_neg (by decide), d1, Option.bind_some]
      rfl
    · obtain ⟨N1, s1, s2, s3, s4, s5⟩ := start N h8 h27
      obtain ⟨N2, e1, e2, e3, e4⟩ := a8 N1 s1
      obtain ⟨N', i1, i2, i3, i4⟩ := d5 N2 e2
      refine ⟨N', ?_, i2, i3, RF2_t s4 (RF2_t (RF_2 e4) (RF_2 i4))⟩
      rw [s5, e1, Option.bind_some]
      show (if (1 : Int32) = 0 then _ else (Option.bind (f_M_readFour (98 : Int32) (nI 5) N2) _)) = _
      rw [if_neg (by decide), i1, Option.bind_some]
      rfl
  have row : ∀ j, wst M2 1 j = if 5 ≤ j ∧ j < 9 then nI (g2 j) else if 1 ≤ j ∧ j < 5 then nI (g1 j) else 0 := by
    intro j
    rw [d5 j, a5 j, b5 j]
    by_cases q1 : 5 ≤ j ∧ j < 5 + 4
    · rw [if_pos q1, if_pos (by omega)]
    · rw [if_neg q1, if_neg (show ¬ (5 ≤ j ∧ j < 9) by omega)]
      by_cases q2 : 1 ≤ j ∧ j < 1 + 4
      · rw [if_pos q2, if_pos (by omega)]
      · rw [if_neg q2, if_neg (show ¬ (1 ≤ j ∧ j < 5) by omega), if_neg (by omega)]
  have r0 : ∀ j, 9 ≤ j → wst M2 1 j = 0 := by
    intro j hj
    rw [row j, if_neg (by omega), if_neg (by omega)]
  have sw0 : ∀ m, m ≤ 16 → sWn (wst M2 1) m = 0 := by
    intro m
    induction m with
    | zero => intro _; rw [sWn]
    | succ m ih =>
      intro hm
      rw [sWn_s, ih (by omega), if_pos (r0 _ (by omega))]
  have hS : sW (wst M2 1) := by
    refine ⟨wst_ok _ _, fun c hc => ⟨0, by omega, r0 _ (by omega)⟩, fun y hy => ⟨g1 (1 + y), a6 _, ?_⟩, fun y hy => ⟨g2 (5 + y), d6 _, ?_⟩, fun c hc _ => ⟨r0 _ (by omega), r0 _ (by omega)⟩, by rw [sw0 16 (by omega)]; omega⟩
    · rw [row, if_neg (by omega), if_pos (by omega)]
    · rw [row, if_pos (by omega)]
  have refOk : ∀ N, N 21 0 8 = nI n → (∀ i, i < n → N 27 0 i = T i) → ∃ N3, Tk N3 T n p2 ∧ (∀ j, j < 57 → N3 28 0 j = wst M2 1 j) ∧ N3 21 0 16 = nI 0 ∧ RF2 N N3 ∧ f_M_readPass N = (Option.bind (l_M_readPass_34 2000 (1 : Int32) N3) fun t16 => (if wzb t16.1 = true then some (t16.1, t16.2) else none)) := by
    intro N h8 h27
    obtain ⟨N1, s1, s2, s3, s4, s5⟩ := start N h8 h27
    obtain ⟨N2, e1, e2, e3, e4⟩ := a8 N1 s1
    obtain ⟨N3, i1, i2, i3, i4⟩ := d8 N2 e2
    refine ⟨N3, i2, fun j hj => ?_, ?_, RF2_t s4 (RF2_t (RF_2 e4) (RF_2 i4)), ?_⟩
    · rw [i3 j, e3 j, row j]
      by_cases q1 : 5 ≤ j ∧ j < 5 + 4
      · rw [if_pos q1, if_pos (by omega)]
      · rw [if_neg q1, if_neg (show ¬ (5 ≤ j ∧ j < 9) by omega)]
        by_cases q2 : 1 ≤ j ∧ j < 1 + 4
        · rw [if_pos q2, if_pos (by omega)]
        · rw [if_neg q2, if_neg (show ¬ (1 ≤ j ∧ j < 5) by omega)]
          exact s2 j hj
    · rw [i4 _ _ _ (by omega), e4 _ _ _ (by omega)]
      exact s3
    · rw [s5, e1, Option.bind_some]
      show (if (1 : Int32) = 0 then _ else (Option.bind (f_M_readFour (98 : Int32) (nI 5) N2) fun q9 => (if q9.1 = (0 : Int32) then some ((0 : Int32), q9.2) else (Option.bind (l_M_readPass_34 2000 (1 : Int32) q9.2) fun t16 => (if wzb t16.1 = true then some (t16.1, t16.2) else none))))) = _
      rw [if_neg (by decide), i1, Option.bind_some]
      show (if (1 : Int32) = 0 then _ else _) = _
      rw [if_neg (by decide)]
  have clsOk : f_T_read 1 M = (Option.bind (f_T_readWorks 1 M2) fun q8 => (if q8.1 = (0 : Int32) then some ((0 : Int32), q8.2) else some ((1 : Int32), q8.2))) := by
    rw [hrd, a1, Option.bind_some]
    show (if (1 : Int32) = 0 then _ else (Option.bind (f_T_readLines_8 (98 : Int32) 1 M1) fun q6 => (if q6.1 = (0 : Int32) then some ((0 : Int32), q6.2) else (Option.bind (f_T_readWorks 1 q6.2) fun q8 => (if q8.1 = (0 : Int32) then some ((0 : Int32), q8.2) else some ((1 : Int32), q8.2)))))) = _
    rw [if_neg (by decide), d1, Option.bind_some]
    show (if (1 : Int32) = 0 then _ else _) = _
    rw [if_neg (by decide)]
  have F2 : CF M M2 := CF_t Fb (CF_t a2 d2)
  rcases wks hn 6 0 p2 M2 rfl (by omega) d3 hS (sw0 16 (by omega)) with ⟨f, pl, M', w1, w2, w3, w4, w5⟩ | ⟨M', w1, w2, w3, w4, w5, w6⟩
  · refine Or.inl ⟨f, pl, M', ?_, CF_t F2 w2, w3, w4, fun N h8 h27 => ?_⟩
    · have w1 : l_T_readWorks_2 1 2000 0 M2 = some (.inl (0, M')) := w1 2000 (by omega)
      rw [clsOk]
      unfold f_T_readWorks
      rw [w1, Option.bind_some]
      rfl
    · obtain ⟨N3, s1, s2, s3, s4, s5⟩ := refOk N h8 h27
      obtain ⟨N', e1, e2, e3, e4⟩ := w5 N3 s1 s2 s3
      refine ⟨N', ?_, e2, e3, RF2_t s4 e4⟩
      rw [s5, e1 2000 (by omega), Option.bind_some]
      rfl
  · refine Or.inr ⟨M', ?_, CF_t F2 w2, ?_, ?_, w5, fun N h8 h27 => ?_⟩
    · have w1 : l_T_readWorks_2 1 2000 0 M2 = some (.inr M') := w1 2000 (by omega)
      rw [clsOk]
      unfold f_T_readWorks
      rw [w1, Option.bind_some]
      rfl
    · rw [w3, d4, a4, b42]
    · rw [w4, d7, a7, b3]
    · obtain ⟨N3, s1, s2, s3, s4, s5⟩ := refOk N h8 h27
      obtain ⟨N', e1, e2, e3, e4⟩ := w6 N3 s1 s2 s3
      refine ⟨N', ?_, e2, e3, RF2_t s4 e4⟩
      rw [s5, e1 2000 (by omega), Option.bind_some]
      rfl
theorem q_pass {M : wc_M} (r : Rel M) : Ag f_C_pass f_M_pass M := by
  unfold f_C_pass f_M_pass
  obtain ⟨⟨n, hn, t1, t2, t3⟩, t4⟩ := r.2.2.2.1
  rcases t_read hn t1 rfl with ⟨f, pl, M', a1, a2, a3, a4, a5⟩ | ⟨M', a1, a2, a3, a4, a5, a6⟩
  · generalize hM1 : wc_up M' 4 0 1 0 = M1
    have f1 : ∀ k i s, ¬ ((k = 4 ∧ 1 ≤ s) ∨ (6 ≤ k ∧ k ≤ 11 ∧ i = 1)) → M1 k i s = M k i s := by
      intro k i s hz
      rw [← hM1]
      unfold wc_up
      rw [if_neg (by omega), a2 k i s (by omega)]
    have g1 : M1 4 0 1 = nI 0 := by
      rw [← hM1]
      unfold wc_up
      rw [if_pos ⟨rfl, rfl, rfl⟩]
      rfl
    have g2 : M1 4 0 2 = f := by
      rw [← hM1]
      unfold wc_up
      rw [if_neg (by omega)]
      exact a3
    have g3 : M1 4 0 3 = nI pl := by
      rw [← hM1]
      unfold wc_up
      rw [if_neg (by omega)]
      exact a4
    obtain ⟨N', e1, e2, e3, e4⟩ := a5 M1 (by rw [f1 _ _ _ (by omega)]; exact t2) (fun i hi => by rw [f1 _ _ _ (by omega)]; exact (t3 i hi).symm)
    generalize hM2 : wc_up (wc_up N' 21 0 8 0) 21 0 9 f = M2
    have e14 : wc_up N' 21 0 8 0 21 0 14 = f := e2
    have e13 : wc_up (wc_up N' 21 0 8 0) 21 0 9 f 21 0 13 = nI pl := e3
    refine Ag_i (r := -1000100 - nI pl) (M1 := M1) (M2 := M2) ?_ ?_ rfl ?_
    · show Option.bind (f_T_read 1 M) _ = _
      rw [a1, Option.bind_some]
      show (if (0 : Int32) = 0 then some (-1000100 - wc_up M' 4 0 1 0 4 0 3, wc_up M' 4 0 1 0) else _) = _
      rw [if_pos rfl, hM1, g3]
    · show Option.bind (f_M_readPass M1) _ = _
      rw [e1, Option.bind_some]
      show (if (0 : Int32) = 0 then some (-1000100 - wc_up (wc_up N' 21 0 8 0) 21 0 9 (wc_up N' 21 0 8 0 21 0 14) 21 0 13, wc_up (wc_up N' 21 0 8 0) 21 0 9 (wc_up N' 21 0 8 0 21 0 14)) else _) = _
      rw [if_pos rfl, e14, e13, hM2]
    · have f2 : ∀ k i s, ¬ ((k = 21 ∧ 8 ≤ s ∧ s ≤ 17) ∨ k = 28) → M2 k i s = M1 k i s := by
        intro k i s hz
        rw [← hM2]
        unfold wc_up
        rw [if_neg (by omega), if_neg (by omega), e4 k i s (by omega)]
      obtain ⟨r1, r2, r3, r4, r5, r6, r7, r8⟩ := r
      refine ⟨RelP_of ?_ r1, RelF_of ?_ r2, RelR_of ?_ r3, ⟨⟨0, by omega, ?_, ?_, fun i hi => by omega⟩, ?_⟩, RelA_of ?_ r5, RelI_of ?_ r6, RelQ_of ?_ r7, RelH_of ?_ r8⟩
      case refine_4 =>
        rw [f2 _ _ _ (by omega)]
        exact g1
      case refine_5 =>
        rw [← hM2]
        unfold wc_up
        rw [if_neg (by omega), if_pos ⟨rfl, rfl, rfl⟩]
        rfl
      case refine_6 =>
        rw [f2 4 0 2 (by omega), g2, ← hM2]
        unfold wc_up
        rw [if_pos ⟨rfl, rfl, rfl⟩]
      all_goals intro zk zi zs hz; rw [f2 _ _ _ (by omega), f1 _ _ _ (by omega)]
  · generalize hMa : wc_up M' 4 0 1 0 = Ma
    have fa : ∀ k i s, ¬ ((k = 4 ∧ 1 ≤ s) ∨ (6 ≤ k ∧ k ≤ 11 ∧ i = 1)) → Ma k i s = M k i s := by
      intro k i s hz
      rw [← hMa]
      unfold wc_up
      rw [if_neg (by omega), a2 k i s (by omega)]
    have wa : wst Ma 1 = wst M' 1 := by
      refine wst_fr (fun k s g1 g2 => ?_)
      rw [← hMa]
      unfold wc_up
      rw [if_neg (by omega)]
    have tha : Ma 6 1 5 = 1 := by
      rw [← hMa]
      unfold wc_up
      rw [if_neg (by omega)]
      exact a4
    generalize hS : wst M' 1 = S at a5 a6 wa
    generalize hM1 : wc_up (mP Ma 0 S 1) 16 0 2 0 = M1
    have f1 : ∀ k i s, ¬ ((k = 4 ∧ 1 ≤ s) ∨ (6 ≤ k ∧ k ≤ 11 ∧ i ≤ 1) ∨ (k = 16 ∧ s = 2)) → M1 k i s = M k i s := by
      intro k i s hz
      rw [← hM1]
      unfold wc_up
      rw [if_neg (by omega), mP_off (by omega), fa k i s (by omega)]
    have g1 : M1 4 0 1 = nI 0 := by
      rw [← hM1]
      unfold wc_up
      rw [if_neg (by omega), mP_off (by omega), ← hMa]
      unfold wc_up
      rw [if_pos ⟨rfl, rfl, rfl⟩]
      rfl
    have g2 : M1 4 0 2 = M 4 0 2 := by
      rw [← hM1]
      unfold wc_up
      rw [if_neg (by omega), mP_off (by omega), ← hMa]
      unfold wc_up
      rw [if_neg (by omega)]
      exact a3
    have g5 : M1 6 0 5 = 1 := by
      rw [← hM1]
      unfold wc_up
      rw [if_neg (by omega), mP_th]
    have g16 : M1 16 0 2 = nI 0 := by
      rw [← hM1]
      unfold wc_up
      rw [if_pos ⟨rfl, rfl, rfl⟩]
      rfl
    have w1 : wst M1 0 = S := by
      have e : wst M1 0 = wst (mP Ma 0 S 1) 0 := by
        refine wst_fr (fun k s z1 z2 => ?_)
        rw [← hM1]
        unfold wc_up
        rw [if_neg (by omega)]
      rw [e, wst_mP (sW_ok a5)]
    obtain ⟨N', e1, e2, e3, e4⟩ := a6 M1 (by rw [f1 _ _ _ (by omega)]; exact t2) (fun i hi => by rw [f1 _ _ _ (by omega)]; exact (t3 i hi).symm)
    have hL : l_M_pass_19 2000 0 (wc_up N' 21 0 8 0) = some (mI (wc_up N' 21 0 8 0) 25 0 0 57 S) := by
      have h : l_M_pass_19 2000 0 (mI (wc_up N' 21 0 8 0) 25 0 0 0 S) = some (mI (wc_up N' 21 0 8 0) 25 0 0 57 S) := loop_to (fun zn zx zM => l_M_pass_19 zn zx zM) (fun zc => mI (wc_up N' 21 0 8 0) 25 0 0 zc S) 57 _ (by
        intro zn zc hzc
        show l_M_pass_19 (zn + 1) (nI zc) _ = _
        have e := mI_up (M := wc_up N' 21 0 8 0) (k := 25) (i := 0) (o := 0) (n := zc) (f := S)
        rw [Nat.zero_add] at e
        have e28 : mI (wc_up N' 21 0 8 0) 25 0 0 zc S 28 0 zc = S zc := by
          rw [mI_off (by omega)]
          exact e2 zc hzc
        rw [l_M_pass_19, if_neg (by rw [n_le (by decide) (by omega)]; omega), if_pos (n_wib (by omega) (by decide)), n_ar, n_t (by omega), e28, e]) (by
        intro zn
        show l_M_pass_19 (zn + 1) (nI 57) _ = _
        rw [l_M_pass_19, if_pos (by decide)]) 2000 (by decide)
      rw [mI_0] at h
      exact h
    generalize hM2 : wc_up (wc_up (mI (wc_up N' 21 0 8 0) 25 0 0 57 S) 21 0 4 1) 21 0 22 0 = M2
    have f2 : ∀ k i s, ¬ ((k = 21 ∧ (s = 8 ∨ (10 ≤ s ∧ s ≤ 17) ∨ s = 4 ∨ s = 22)) ∨ k = 28 ∨ k = 25) → M2 k i s = M1 k i s := by
      intro k i s hz
      rw [← hM2]
      unfold wc_up
      rw [if_neg (by omega), if_neg (by omega), mI_off (by omega), if_neg (by omega), e4 k i s (by omega)]
    have e16 : M2 21 0 16 = nI (sWn S 16) := by
      rw [← hM2]
      unfold wc_up
      rw [if_neg (by omega), if_neg (by omega), mI_off (by omega), if_neg (by omega)]
      exact e3
    refine Ag_i (r := nI (sWn S 16)) (M1 := M1) (M2 := M2) ?_ ?_ rfl ?_
    · show Option.bind (f_T_read 1 M) _ = _
      rw [a1, Option.bind_some]
      show (if (1 : Int32) = 0 then _ else (Option.bind (f_P_become 0 1 (wc_up M' 4 0 1 0)) fun m4 => (Option.bind (f_P_works 0 (wc_up m4 16 0 2 (0 : Int32))) fun v6 => some (v6, (wc_up m4 16 0 2 (0 : Int32)))))) = _
      rw [if_neg (by decide), hMa, p_become (by rw [tha]; rfl), Option.bind_some, wa, tha, hM1, p_works, Option.bind_some, w1]
    · show Option.bind (f_M_readPass M1) _ = _
      rw [e1, Option.bind_some]
      show (if (1 : Int32) = 0 then _ else (Option.bind (l_M_pass_19 2000 (0 : Int32) (wc_up N' 21 0 8 (0 : Int32))) fun t4 => some (((wc_up (wc_up t4 21 0 4 (1 : Int32)) 21 0 22 (0 : Int32)) 21 0 16), (wc_up (wc_up t4 21 0 4 (1 : Int32)) 21 0 22 (0 : Int32))))) = _
      rw [if_neg (by decide), hL, Option.bind_some, hM2, e16]
    · have w2 : wst M2 0 = S := by
        rw [← w1]
        exact wst_fr (fun k s z1 z2 => f2 _ _ _ (by omega))
      have w25 : wrs M2 25 0 = S := by
        funext j
        unfold wrs
        by_cases hj : j < 57
        · rw [if_pos hj, Nat.zero_add, ← hM2]
          unfold wc_up
          rw [if_neg (by omega), if_neg (by omega)]
          have := mI_at (M := wc_up N' 21 0 8 0) (k := 25) (i := 0) (o := 0) (n := 57) (j := j) (f := S) hj
          rw [Nat.zero_add] at this
          exact this
        · rw [if_neg hj]
          exact (sW_ok a5 j (by omega)).symm
      have h5 : M2 6 0 5 = 1 := by rw [f2 _ _ _ (by omega)]; exact g5
      obtain ⟨r1, r2, r3, r4, r5, r6, r7, r8⟩ := r
      obtain ⟨H, k, hk, ⟨na, hna, z1, z2, z3⟩, am, hH⟩ := r5
      refine ⟨⟨?_, Or.inr h5, by rw [w25, w2], by rw [w2]; exact a5⟩, RelF_of ?_ r2, RelR_of ?_ r3, ⟨⟨0, by omega, ?_, ?_, fun i hi => by omega⟩, ?_⟩, ⟨H, 0, by omega, ⟨na, hna, ?_, ?_, fun a ha => by omega⟩, ⟨?_, fun a ha => by omega⟩, fun a ha => by omega⟩, RelI_of ?_ r6, RelQ_of ?_ r7, fun e => absurd (h5.symm.trans e) (by decide)⟩
      case refine_1 =>
        rw [h5, ← hM2]
        unfold wc_up
        rw [if_neg (by omega), if_pos ⟨rfl, rfl, rfl⟩]
      case refine_4 =>
        rw [f2 _ _ _ (by omega)]
        exact g1
      case refine_5 =>
        rw [← hM2]
        unfold wc_up
        rw [if_neg (by omega), if_neg (by omega), mI_off (by omega), if_pos ⟨rfl, rfl, rfl⟩]
        rfl
      case refine_6 =>
        rw [f2 4 0 2 (by omega), g2, f2 21 0 9 (by omega), f1 _ _ _ (by omega)]
        exact t4
      case refine_7 =>
        rw [f2 _ _ _ (by omega), f1 _ _ _ (by omega)]
        exact z1
      case refine_8 =>
        rw [f2 _ _ _ (by omega)]
        exact g16
      case refine_9 =>
        rw [← hM2]
        unfold wc_up
        rw [if_pos ⟨rfl, rfl, rfl⟩]
        rfl
      all_goals intro zk zi zs hz; rw [f2 _ _ _ (by omega), f1 _ _ _ (by omega)]
