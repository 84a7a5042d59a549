/-! THE FUNCTIONS are what the code does (written by wip/whole/gen/dec.py) -/
set_option maxRecDepth 20000 in
theorem s_K_askSize (M : wc_M) (z : Int32 × wc_M) (h : f_K_askSize M = some z) : wc_Sd 20 81 [.inr (.inl (19, 0))] M (some z.1) z.2 := by
  unfold f_K_askSize at h
  refine wg_Sd (Nat.le_of_ble_eq_true rfl) ?_
  show wg 19 wx0 (some .int) wk_81 0 [some (.inr (.inl (19, 0)))] [] M _
  refine wg_blk 6 (i' := 6) (L' := [some (.inr (.inl (19, 0)))]) (st' := [.inl ((wc_up M 19 0 1 (0 : Int32)) 19 0 2), .inr (.inl (19, 0))]) (M' := (wc_up M 19 0 1 (0 : Int32))) rfl ?_
  refine wg_ca (d' := 1) (y := 83) (as := [.inl ((wc_up M 19 0 1 (0 : Int32)) 19 0 2)]) (rest := [.inr (.inl (19, 0))]) (r := some (f_K_sizeBody ((wc_up M 19 0 1 (0 : Int32)) 19 0 2))) (M' := (wc_up M 19 0 1 (0 : Int32))) rfl (Nat.le_of_ble_eq_true rfl) (s_K_sizeBody ((wc_up M 19 0 1 (0 : Int32)) 19 0 2) (wc_up M 19 0 1 (0 : Int32)) _ rfl) ?_
  refine wg_blk 1 (i' := 8) (L' := [some (.inr (.inl (19, 0)))]) (st' := [.inl (0 : Int32), .inl (f_K_sizeBody ((wc_up M 19 0 1 (0 : Int32)) 19 0 2)), .inr (.inl (19, 0))]) (M' := (wc_up M 19 0 1 (0 : Int32))) rfl ?_
  obtain ⟨q2, h1, h⟩ := wbs h
  refine wg_ca (d' := 19) (y := 85) (as := [.inr (.inl (19, 0)), .inl (f_K_sizeBody ((wc_up M 19 0 1 (0 : Int32)) 19 0 2)), .inl (0 : Int32)]) (rest := []) (r := some q2.1) (M' := q2.2) rfl (Nat.le_of_ble_eq_true rfl) (s_K_body 18 (f_K_sizeBody ((wc_up M 19 0 1 (0 : Int32)) 19 0 2)) (0 : Int32) (wc_up M 19 0 1 (0 : Int32)) _ h1) ?_
  obtain rfl := Option.some.inj h
  exact wg_re rfl trivial ⟨rfl, rfl⟩
set_option maxRecDepth 20000 in
theorem s_K_askMark (M : wc_M) (z : Int32 × wc_M) (h : f_K_askMark M = some z) : wc_Sd 20 82 [.inr (.inl (19, 0))] M (some z.1) z.2 := by
  unfold f_K_askMark at h
  refine wg_Sd (Nat.le_of_ble_eq_true rfl) ?_
  show wg 19 wx0 (some .int) wk_82 0 [some (.inr (.inl (19, 0)))] [] M _
  refine wg_blk 6 (i' := 6) (L' := [some (.inr (.inl (19, 0)))]) (st' := [.inl ((wc_up M 19 0 1 (0 : Int32)) 19 0 2), .inr (.inl (19, 0))]) (M' := (wc_up M 19 0 1 (0 : Int32))) rfl ?_
  refine wg_ca (d' := 1) (y := 84) (as := [.inl ((wc_up M 19 0 1 (0 : Int32)) 19 0 2)]) (rest := [.inr (.inl (19, 0))]) (r := some (f_K_markBody ((wc_up M 19 0 1 (0 : Int32)) 19 0 2))) (M' := (wc_up M 19 0 1 (0 : Int32))) rfl (Nat.le_of_ble_eq_true rfl) (s_K_markBody ((wc_up M 19 0 1 (0 : Int32)) 19 0 2) (wc_up M 19 0 1 (0 : Int32)) _ rfl) ?_
  refine wg_blk 1 (i' := 8) (L' := [some (.inr (.inl (19, 0)))]) (st' := [.inl (0 : Int32), .inl (f_K_markBody ((wc_up M 19 0 1 (0 : Int32)) 19 0 2)), .inr (.inl (19, 0))]) (M' := (wc_up M 19 0 1 (0 : Int32))) rfl ?_
  obtain ⟨q2, h1, h⟩ := wbs h
  refine wg_ca (d' := 19) (y := 85) (as := [.inr (.inl (19, 0)), .inl (f_K_markBody ((wc_up M 19 0 1 (0 : Int32)) 19 0 2)), .inl (0 : Int32)]) (rest := []) (r := some q2.1) (M' := q2.2) rfl (Nat.le_of_ble_eq_true rfl) (s_K_body 18 (f_K_markBody ((wc_up M 19 0 1 (0 : Int32)) 19 0 2)) (0 : Int32) (wc_up M 19 0 1 (0 : Int32)) _ h1) ?_
  obtain rfl := Option.some.inj h
  exact wg_re rfl trivial ⟨rfl, rfl⟩
set_option maxRecDepth 20000 in
theorem s_C_ask (a1 : Int32) (a2 : Int32) (M : wc_M) (z : Int32 × wc_M) (h : f_C_ask a1 a2 M = some z) : wc_Sd 21 28 [.inr (.inl (0, 0)), .inl a1, .inl a2] M (some z.1) z.2 := by
  unfold f_C_ask at h
  refine wg_Sd (Nat.le_of_ble_eq_true rfl) ?_
  show wg 20 wx0 (some .int) wk_28 0 [some (.inr (.inl (0, 0))), some (.inl a1), some (.inl a2)] [] M _
  refine wg_blk 3 (i' := 3) (L' := [some (.inr (.inl (0, 0))), some (.inl a1), some (.inl a2)]) (st' := [.inl (M 6 0 5)]) (M' := M) rfl ?_
  refine wg_br (c := (M 6 0 5) = (0 : Int32)) (t := 4) (f := 6) (st' := []) rfl (fun hc => ?_) (fun hc => ?_)
  · rw [if_pos hc] at h
    refine wg_blk 1 (i' := 5) (L' := [some (.inr (.inl (0, 0))), some (.inl a1), some (.inl a2)]) (st' := [.inl (-1000002 : Int32)]) (M' := M) rfl ?_
    obtain rfl := Option.some.inj h
    exact wg_re rfl trivial ⟨rfl, rfl⟩
  · rw [if_neg hc] at h
    refine wg_blk 1 (i' := 7) (L' := [some (.inr (.inl (0, 0))), some (.inl a1), some (.inl a2)]) (st' := [.inl a1]) (M' := M) rfl ?_
    refine wg_ca (d' := 2) (y := 33) (as := [.inl a1]) (rest := []) (r := some (f_C_isCell a1)) (M' := M) rfl (Nat.le_of_ble_eq_true rfl) (s_C_isCell a1 M _ rfl) ?_
    refine wg_br (c := (f_C_isCell a1) = (0 : Int32)) (t := 13) (f := 9) (st' := []) rfl (fun hc => ?_) (fun hc => ?_)
    · rw [if_pos hc] at h
      refine wg_blk 1 (i' := 14) (L' := [some (.inr (.inl (0, 0))), some (.inl a1), some (.inl a2)]) (st' := [.inl (-1000001 : Int32)]) (M' := M) rfl ?_
      obtain rfl := Option.some.inj h
      exact wg_re rfl trivial ⟨rfl, rfl⟩
    · rw [if_neg hc] at h
      refine wg_blk 2 (i' := 11) (L' := [some (.inr (.inl (0, 0))), some (.inl a1), some (.inl a2)]) (st' := [.inl (1 : Int32), .inl a2]) (M' := M) rfl ?_
      refine wg_ca (d' := 1) (y := 32) (as := [.inl a2, .inl (1 : Int32)]) (rest := []) (r := some (f_C_isUpTo a2 (1 : Int32))) (M' := M) rfl (Nat.le_of_ble_eq_true rfl) (s_C_isUpTo a2 (1 : Int32) M _ rfl) ?_
      refine wg_br (c := (f_C_isUpTo a2 (1 : Int32)) = (0 : Int32)) (t := 13) (f := 15) (st' := []) rfl (fun hc => ?_) (fun hc => ?_)
      · rw [if_pos hc] at h
        refine wg_blk 1 (i' := 14) (L' := [some (.inr (.inl (0, 0))), some (.inl a1), some (.inl a2)]) (st' := [.inl (-1000001 : Int32)]) (M' := M) rfl ?_
        obtain rfl := Option.some.inj h
        exact wg_re rfl trivial ⟨rfl, rfl⟩
      · rw [if_neg hc] at h
        refine wg_blk 3 (i' := 18) (L' := [some (.inr (.inl (0, 0))), some (.inl a1), some (.inl a2)]) (st' := [.inl a1, .inr (.inl (6, 0))]) (M' := M) rfl ?_
        obtain ⟨v2, h1, h⟩ := wbs h
        refine wg_ca (d' := 1) (y := 69) (as := [.inr (.inl (6, 0)), .inl a1]) (rest := []) (r := some v2) (M' := M) rfl (Nat.le_of_ble_eq_true rfl) (s_P_hasWork 0 a1 M _ h1) ?_
        refine wg_br (c := v2 = (0 : Int32)) (t := 20) (f := 22) (st' := []) rfl (fun hc => ?_) (fun hc => ?_)
        · rw [if_pos hc] at h
          refine wg_blk 1 (i' := 21) (L' := [some (.inr (.inl (0, 0))), some (.inl a1), some (.inl a2)]) (st' := [.inl (-1000002 : Int32)]) (M' := M) rfl ?_
          obtain rfl := Option.some.inj h
          exact wg_re rfl trivial ⟨rfl, rfl⟩
        · rw [if_neg hc] at h
          refine wg_blk 6 (i' := 28) (L' := [some (.inr (.inl (0, 0))), some (.inl a1), some (.inl a2)]) (st' := [.inl a1, .inr (.inl (9, 0)), .inr (.inl (19, 0))]) (M' := M) rfl ?_
          obtain ⟨hp3, h⟩ := wif h
          refine wg_ck (st' := [.inl (M 9 0 (a1).toNatClampNeg), .inr (.inl (19, 0))]) (M' := M) rfl (wib_in hp3) ?_
          refine wg_blk 7 (i' := 36) (L' := [some (.inr (.inl (0, 0))), some (.inl a1), some (.inl a2)]) (st' := [.inl a1, .inr (.inl (10, 0)), .inr (.inl (19, 0))]) (M' := (wc_up M 19 0 2 (M 9 0 (a1).toNatClampNeg))) rfl ?_
          refine wg_ck (st' := [.inl ((wc_up M 19 0 2 (M 9 0 (a1).toNatClampNeg)) 10 0 (a1).toNatClampNeg), .inr (.inl (19, 0))]) (M' := (wc_up M 19 0 2 (M 9 0 (a1).toNatClampNeg))) rfl (wib_in hp3) ?_
          refine wg_blk 9 (i' := 46) (L' := [some (.inr (.inl (0, 0))), some (.inl a1), some (.inl a2)]) (st' := [.inl a1, .inr (.inl (0, 0)), .inr (.inl (19, 0))]) (M' := (wc_up (wc_up (wc_up M 19 0 2 (M 9 0 (a1).toNatClampNeg)) 19 0 3 ((wc_up M 19 0 2 (M 9 0 (a1).toNatClampNeg)) 10 0 (a1).toNatClampNeg)) 19 0 4 a1)) rfl ?_
          obtain ⟨q5, h4, h⟩ := wbs h
          refine wg_ca (d' := 4) (y := 41) (as := [.inr (.inl (0, 0)), .inl a1]) (rest := [.inr (.inl (19, 0))]) (r := some q5.1) (M' := q5.2) rfl (Nat.le_of_ble_eq_true rfl) (s_C_feltNow a1 (wc_up (wc_up (wc_up M 19 0 2 (M 9 0 (a1).toNatClampNeg)) 19 0 3 ((wc_up M 19 0 2 (M 9 0 (a1).toNatClampNeg)) 10 0 (a1).toNatClampNeg)) 19 0 4 a1) _ h4) ?_
          refine wg_blk 2 (i' := 49) (L' := [some (.inr (.inl (0, 0))), some (.inl a1), some (.inl a2)]) (st' := [.inl a2]) (M' := (wc_up q5.2 19 0 5 q5.1)) rfl ?_
          refine wg_br (c := a2 = (0 : Int32)) (t := 50) (f := 54) (st' := []) rfl (fun hc => ?_) (fun hc => ?_)
          · rw [if_pos hc] at h
            refine wg_blk 2 (i' := 52) (L' := [some (.inr (.inl (0, 0))), some (.inl a1), some (.inl a2)]) (st' := [.inr (.inl (19, 0))]) (M' := (wc_up q5.2 19 0 5 q5.1)) rfl ?_
            obtain ⟨q7, h6, h⟩ := wbs h
            refine wg_ca (d' := 20) (y := 81) (as := [.inr (.inl (19, 0))]) (rest := []) (r := some q7.1) (M' := q7.2) rfl (Nat.le_of_ble_eq_true rfl) (s_K_askSize (wc_up q5.2 19 0 5 q5.1) _ h6) ?_
            refine wg_blk 1 (i' := 57) (L' := [some (.inr (.inl (0, 0))), some (.inl a1), some (.inl a2)]) (st' := [.inl q7.1]) (M' := q7.2) rfl ?_
            obtain rfl := Option.some.inj h
            exact wg_re rfl trivial ⟨rfl, rfl⟩
          · rw [if_neg hc] at h
            refine wg_blk 2 (i' := 56) (L' := [some (.inr (.inl (0, 0))), some (.inl a1), some (.inl a2)]) (st' := [.inr (.inl (19, 0))]) (M' := (wc_up q5.2 19 0 5 q5.1)) rfl ?_
            obtain ⟨q9, h8, h⟩ := wbs h
            refine wg_ca (d' := 20) (y := 82) (as := [.inr (.inl (19, 0))]) (rest := []) (r := some q9.1) (M' := q9.2) rfl (Nat.le_of_ble_eq_true rfl) (s_K_askMark (wc_up q5.2 19 0 5 q5.1) _ h8) ?_
            obtain rfl := Option.some.inj h
            exact wg_re rfl trivial ⟨rfl, rfl⟩
set_option maxRecDepth 20000 in
theorem s_M_begin (a1 : Int32) (M : wc_M) (z : wc_M) (h : f_M_begin a1 M = some z) : wc_Sd 1 145 [.inr (.inl (21, 0)), .inl a1] M none z := by
  unfold f_M_begin at h
  refine wg_Sd (Nat.le_of_ble_eq_true rfl) ?_
  show wg 0 wx0 none wk_145 0 [some (.inr (.inl (21, 0))), some (.inl a1)] [] M _
  refine wg_blk 3 (i' := 3) (L' := [some (.inr (.inl (21, 0))), some (.inl a1)]) (st' := [.inl (16 : Int32), .inl (M 21 0 27)]) (M' := M) rfl ?_
  refine wg_br (c := (16 : Int32) ≤ (M 21 0 27)) (t := 16) (f := 4) (st' := []) rfl (fun hc => ?_) (fun hc => ?_)
  · rw [if_pos hc] at h
    obtain rfl := Option.some.inj h
    exact wg_re rfl trivial ⟨rfl, rfl⟩
  · rw [if_neg hc] at h
    refine wg_blk 5 (i' := 9) (L' := [some (.inr (.inl (21, 0))), some (.inl a1)]) (st' := [.inl a1, .inl (M 21 0 27), .inr (.inl (34, 0))]) (M' := M) rfl ?_
    obtain ⟨hp1, h⟩ := wif h
    refine wg_ck (st' := []) (M' := (wc_up M 34 0 ((M 21 0 27)).toNatClampNeg a1)) rfl (wib_in hp1) ?_
    refine wg_blk 6 (i' := 16) (L' := [some (.inr (.inl (21, 0))), some (.inl a1)]) (st' := []) (M' := (wc_up (wc_up M 34 0 ((M 21 0 27)).toNatClampNeg a1) 21 0 27 (((wc_up M 34 0 ((M 21 0 27)).toNatClampNeg a1) 21 0 27) + (1 : Int32)))) rfl ?_
    obtain rfl := Option.some.inj h
    exact wg_re rfl trivial ⟨rfl, rfl⟩
set_option maxRecDepth 20000 in
theorem s_M_lent (a1 : Int32) (a2 : Int32) (M : wc_M) (z : Int32 × wc_M) (h : f_M_lent a1 a2 M = some z) : wc_Sd 2 146 [.inr (.inl (21, 0)), .inl a1, .inl a2] M (some z.1) z.2 := by
  unfold f_M_lent at h
  refine wg_Sd (Nat.le_of_ble_eq_true rfl) ?_
  show wg 1 wx0 (some .int) wk_146 0 [some (.inr (.inl (21, 0))), some (.inl a1), some (.inl a2)] [] M _
  refine wg_blk 2 (i' := 2) (L' := [some (.inr (.inl (21, 0))), some (.inl a1), some (.inl a2)]) (st' := [.inl a2, .inr (.inl (21, 0))]) (M' := M) rfl ?_
  obtain ⟨m2, h1, h⟩ := wbs h
  refine wg_ca (d' := 1) (y := 145) (as := [.inr (.inl (21, 0)), .inl a2]) (rest := []) (r := none) (M' := m2) rfl (Nat.le_of_ble_eq_true rfl) (s_M_begin a2 M _ h1) ?_
  refine wg_blk 2 (i' := 5) (L' := [some (.inr (.inl (21, 0))), some (.inl a1), some (.inl a2)]) (st' := [.inl (10 : Int32), .inl a2]) (M' := m2) rfl ?_
  refine wg_br (c := a2 = (10 : Int32)) (t := 6) (f := 13) (st' := []) rfl (fun hc => ?_) (fun hc => ?_)
  · rw [if_pos hc] at h
    refine wg_blk 5 (i' := 11) (L' := [some (.inr (.inl (21, 0))), some (.inl a1), some (.inl a2)]) (st' := [.inl ((25 : Int32) + a1), .inr (.inl (25, 0))]) (M' := m2) rfl ?_
    obtain ⟨hp3, h⟩ := wif h
    refine wg_ck (st' := [.inl (m2 25 0 (((25 : Int32) + a1)).toNatClampNeg)]) (M' := m2) rfl (wib_in hp3) ?_
    refine wg_blk 1 (i' := 14) (L' := [some (.inr (.inl (21, 0))), some (.inl a1), some (.inl a2)]) (st' := [.inl (m2 25 0 (((25 : Int32) + a1)).toNatClampNeg)]) (M' := m2) rfl ?_
    obtain rfl := Option.some.inj h
    exact wg_re rfl trivial ⟨rfl, rfl⟩
  · rw [if_neg hc] at h
    refine wg_blk 1 (i' := 14) (L' := [some (.inr (.inl (21, 0))), some (.inl a1), some (.inl a2)]) (st' := [.inl a1]) (M' := m2) rfl ?_
    obtain rfl := Option.some.inj h
    exact wg_re rfl trivial ⟨rfl, rfl⟩
set_option maxRecDepth 20000 in
theorem s_M_wallMark (a1 : Int32) (M : wc_M) (z : Int32 × wc_M) (h : f_M_wallMark a1 M = some z) : wc_Sd 6 147 [.inr (.inl (21, 0)), .inl a1] M (some z.1) z.2 := by
  unfold f_M_wallMark at h
  refine wg_Sd (Nat.le_of_ble_eq_true rfl) ?_
  show wg 5 wx0 (some .int) wk_147 0 [some (.inr (.inl (21, 0))), some (.inl a1)] [] M _
  refine wg_blk 2 (i' := 2) (L' := [some (.inr (.inl (21, 0))), some (.inl a1)]) (st' := [.inl (21 : Int32), .inr (.inl (21, 0))]) (M' := M) rfl ?_
  obtain ⟨m2, h1, h⟩ := wbs h
  refine wg_ca (d' := 1) (y := 145) (as := [.inr (.inl (21, 0)), .inl (21 : Int32)]) (rest := []) (r := none) (M' := m2) rfl (Nat.le_of_ble_eq_true rfl) (s_M_begin (21 : Int32) M _ h1) ?_
  refine wg_blk 3 (i' := 6) (L' := [some (.inr (.inl (21, 0))), some (.inl a1)]) (st' := [.inl (20 : Int32), .inl a1, .inr (.inl (21, 0))]) (M' := m2) rfl ?_
  obtain ⟨q4, h3, h⟩ := wbs h
  refine wg_ca (d' := 2) (y := 146) (as := [.inr (.inl (21, 0)), .inl a1, .inl (20 : Int32)]) (rest := []) (r := some q4.1) (M' := q4.2) rfl (Nat.le_of_ble_eq_true rfl) (s_M_lent a1 (20 : Int32) m2 _ h3) ?_
  refine wg_blk 2 (i' := 9) (L' := [some (.inr (.inl (21, 0))), some (.inl a1)]) (st' := [.inl a1, .inr (.inl (21, 0)), .inl q4.1]) (M' := q4.2) rfl ?_
  obtain ⟨q6, h5, h⟩ := wbs h
  refine wg_ca (d' := 5) (y := 113) (as := [.inr (.inl (21, 0)), .inl a1]) (rest := [.inl q4.1]) (r := some q6.1) (M' := q6.2) rfl (Nat.le_of_ble_eq_true rfl) (s_M_feltNow a1 q4.2 _ h5) ?_
  refine wg_blk 1 (i' := 11) (L' := [some (.inr (.inl (21, 0))), some (.inl a1)]) (st' := [.inl (q4.1 + q6.1)]) (M' := q6.2) rfl ?_
  obtain rfl := Option.some.inj h
  exact wg_re rfl trivial ⟨rfl, rfl⟩
set_option maxRecDepth 20000 in
theorem s_M_handSize (a1 : Int32) (M : wc_M) (z : Int32 × wc_M) (h : f_M_handSize a1 M = some z) : wc_Sd 3 148 [.inr (.inl (21, 0)), .inl a1] M (some z.1) z.2 := by
  unfold f_M_handSize at h
  refine wg_Sd (Nat.le_of_ble_eq_true rfl) ?_
  show wg 2 wx0 (some .int) wk_148 0 [some (.inr (.inl (21, 0))), some (.inl a1)] [] M _
  refine wg_blk 2 (i' := 2) (L' := [some (.inr (.inl (21, 0))), some (.inl a1)]) (st' := [.inl (13 : Int32), .inr (.inl (21, 0))]) (M' := M) rfl ?_
  obtain ⟨m2, h1, h⟩ := wbs h
  refine wg_ca (d' := 1) (y := 145) (as := [.inr (.inl (21, 0)), .inl (13 : Int32)]) (rest := []) (r := none) (M' := m2) rfl (Nat.le_of_ble_eq_true rfl) (s_M_begin (13 : Int32) M _ h1) ?_
  refine wg_blk 3 (i' := 6) (L' := [some (.inr (.inl (21, 0))), some (.inl a1)]) (st' := [.inl (10 : Int32), .inl a1, .inr (.inl (21, 0))]) (M' := m2) rfl ?_
  obtain ⟨q4, h3, h⟩ := wbs h
  refine wg_ca (d' := 2) (y := 146) (as := [.inr (.inl (21, 0)), .inl a1, .inl (10 : Int32)]) (rest := []) (r := some q4.1) (M' := q4.2) rfl (Nat.le_of_ble_eq_true rfl) (s_M_lent a1 (10 : Int32) m2 _ h3) ?_
  refine wg_blk 2 (i' := 9) (L' := [some (.inr (.inl (21, 0))), some (.inl a1)]) (st' := [.inl (q4.1 - (100 : Int32))]) (M' := q4.2) rfl ?_
  obtain rfl := Option.some.inj h
  exact wg_re rfl trivial ⟨rfl, rfl⟩
set_option maxRecDepth 20000 in
theorem s_M_sizeOfHand (a1 : Int32) (M : wc_M) (z : Int32 × wc_M) (h : f_M_sizeOfHand a1 M = some z) : wc_Sd 4 149 [.inr (.inl (21, 0)), .inl a1] M (some z.1) z.2 := by
  unfold f_M_sizeOfHand at h
  refine wg_Sd (Nat.le_of_ble_eq_true rfl) ?_
  show wg 3 wx0 (some .int) wk_149 0 [some (.inr (.inl (21, 0))), some (.inl a1)] [] M _
  refine wg_blk 5 (i' := 5) (L' := [some (.inr (.inl (21, 0))), some (.inl a1)]) (st' := [.inl ((9 : Int32) + a1), .inr (.inl (25, 0))]) (M' := M) rfl ?_
  obtain ⟨hp1, h⟩ := wif h
  refine wg_ck (st' := [.inl (M 25 0 (((9 : Int32) + a1)).toNatClampNeg)]) (M' := M) rfl (wib_in hp1) ?_
  refine wg_blk 1 (i' := 7) (L' := [some (.inr (.inl (21, 0))), some (.inl a1)]) (st' := [.inl (5 : Int32), .inl (M 25 0 (((9 : Int32) + a1)).toNatClampNeg)]) (M' := M) rfl ?_
  refine wg_br (c := (M 25 0 (((9 : Int32) + a1)).toNatClampNeg) = (5 : Int32)) (t := 8) (f := 17) (st' := []) rfl (fun hc => ?_) (fun hc => ?_)
  · rw [if_pos hc] at h
    refine wg_blk 2 (i' := 10) (L' := [some (.inr (.inl (21, 0))), some (.inl a1)]) (st' := [.inl (14 : Int32), .inr (.inl (21, 0))]) (M' := M) rfl ?_
    obtain ⟨m3, h2, h⟩ := wbs h
    refine wg_ca (d' := 1) (y := 145) (as := [.inr (.inl (21, 0)), .inl (14 : Int32)]) (rest := []) (r := none) (M' := m3) rfl (Nat.le_of_ble_eq_true rfl) (s_M_begin (14 : Int32) M _ h2) ?_
    refine wg_blk 3 (i' := 14) (L' := [some (.inr (.inl (21, 0))), some (.inl a1)]) (st' := [.inl a1, .inr (.inl (21, 0)), .inl (2 : Int32)]) (M' := m3) rfl ?_
    obtain ⟨q5, h4, h⟩ := wbs h
    refine wg_ca (d' := 3) (y := 148) (as := [.inr (.inl (21, 0)), .inl a1]) (rest := [.inl (2 : Int32)]) (r := some q5.1) (M' := q5.2) rfl (Nat.le_of_ble_eq_true rfl) (s_M_handSize a1 m3 _ h4) ?_
    refine wg_blk 1 (i' := 16) (L' := [some (.inr (.inl (21, 0))), some (.inl a1)]) (st' := [.inl ((2 : Int32) * q5.1)]) (M' := q5.2) rfl ?_
    obtain rfl := Option.some.inj h
    exact wg_re rfl trivial ⟨rfl, rfl⟩
  · rw [if_neg hc] at h
    refine wg_blk 2 (i' := 19) (L' := [some (.inr (.inl (21, 0))), some (.inl a1)]) (st' := [.inl a1, .inr (.inl (21, 0))]) (M' := M) rfl ?_
    obtain ⟨q7, h6, h⟩ := wbs h
    refine wg_ca (d' := 3) (y := 148) (as := [.inr (.inl (21, 0)), .inl a1]) (rest := []) (r := some q7.1) (M' := q7.2) rfl (Nat.le_of_ble_eq_true rfl) (s_M_handSize a1 M _ h6) ?_
    obtain rfl := Option.some.inj h
    exact wg_re rfl trivial ⟨rfl, rfl⟩
set_option maxRecDepth 20000 in
theorem s_M_markOf (a1 : Int32) (M : wc_M) (z : Int32 × wc_M) (h : f_M_markOf a1 M = some z) : wc_Sd 7 150 [.inr (.inl (21, 0)), .inl a1] M (some z.1) z.2 := by
  unfold f_M_markOf at h
  refine wg_Sd (Nat.le_of_ble_eq_true rfl) ?_
  show wg 6 wx0 (some .int) wk_150 0 [some (.inr (.inl (21, 0))), some (.inl a1), none, none] [] M _
  refine wg_blk 5 (i' := 5) (L' := [some (.inr (.inl (21, 0))), some (.inl a1), none, none]) (st' := [.inl ((9 : Int32) + a1), .inr (.inl (25, 0))]) (M' := M) rfl ?_
  obtain ⟨hp1, h⟩ := wif h
  refine wg_ck (st' := [.inl (M 25 0 (((9 : Int32) + a1)).toNatClampNeg)]) (M' := M) rfl (wib_in hp1) ?_
  refine wg_blk 3 (i' := 9) (L' := [some (.inr (.inl (21, 0))), some (.inl a1), some (.inl (M 25 0 (((9 : Int32) + a1)).toNatClampNeg)), none]) (st' := [.inl (2 : Int32), .inl (M 25 0 (((9 : Int32) + a1)).toNatClampNeg)]) (M' := M) rfl ?_
  refine wg_br (c := (M 25 0 (((9 : Int32) + a1)).toNatClampNeg) = (2 : Int32)) (t := 10) (f := 19) (st' := []) rfl (fun hc => ?_) (fun hc => ?_)
  · rw [if_pos hc] at h
    refine wg_blk 2 (i' := 12) (L' := [some (.inr (.inl (21, 0))), some (.inl a1), some (.inl (M 25 0 (((9 : Int32) + a1)).toNatClampNeg)), none]) (st' := [.inl (24 : Int32), .inr (.inl (21, 0))]) (M' := M) rfl ?_
    obtain ⟨m3, h2, h⟩ := wbs h
    refine wg_ca (d' := 1) (y := 145) (as := [.inr (.inl (21, 0)), .inl (24 : Int32)]) (rest := []) (r := none) (M' := m3) rfl (Nat.le_of_ble_eq_true rfl) (s_M_begin (24 : Int32) M _ h2) ?_
    refine wg_blk 3 (i' := 16) (L' := [some (.inr (.inl (21, 0))), some (.inl a1), some (.inl (M 25 0 (((9 : Int32) + a1)).toNatClampNeg)), none]) (st' := [.inl a1, .inr (.inl (21, 0)), .inl (2 : Int32)]) (M' := m3) rfl ?_
    obtain ⟨q5, h4, h⟩ := wbs h
    refine wg_ca (d' := 6) (y := 147) (as := [.inr (.inl (21, 0)), .inl a1]) (rest := [.inl (2 : Int32)]) (r := some q5.1) (M' := q5.2) rfl (Nat.le_of_ble_eq_true rfl) (s_M_wallMark a1 m3 _ h4) ?_
    refine wg_blk 1 (i' := 18) (L' := [some (.inr (.inl (21, 0))), some (.inl a1), some (.inl (M 25 0 (((9 : Int32) + a1)).toNatClampNeg)), none]) (st' := [.inl ((2 : Int32) * q5.1)]) (M' := q5.2) rfl ?_
    obtain rfl := Option.some.inj h
    exact wg_re rfl trivial ⟨rfl, rfl⟩
  · rw [if_neg hc] at h
    refine wg_blk 2 (i' := 21) (L' := [some (.inr (.inl (21, 0))), some (.inl a1), some (.inl (M 25 0 (((9 : Int32) + a1)).toNatClampNeg)), none]) (st' := [.inl (3 : Int32), .inl (M 25 0 (((9 : Int32) + a1)).toNatClampNeg)]) (M' := M) rfl ?_
    refine wg_br (c := (M 25 0 (((9 : Int32) + a1)).toNatClampNeg) = (3 : Int32)) (t := 22) (f := 31) (st' := []) rfl (fun hc => ?_) (fun hc => ?_)
    · rw [if_pos hc] at h
      refine wg_blk 2 (i' := 24) (L' := [some (.inr (.inl (21, 0))), some (.inl a1), some (.inl (M 25 0 (((9 : Int32) + a1)).toNatClampNeg)), none]) (st' := [.inl (22 : Int32), .inr (.inl (21, 0))]) (M' := M) rfl ?_
      obtain ⟨m7, h6, h⟩ := wbs h
      refine wg_ca (d' := 1) (y := 145) (as := [.inr (.inl (21, 0)), .inl (22 : Int32)]) (rest := []) (r := none) (M' := m7) rfl (Nat.le_of_ble_eq_true rfl) (s_M_begin (22 : Int32) M _ h6) ?_
      refine wg_blk 2 (i' := 27) (L' := [some (.inr (.inl (21, 0))), some (.inl a1), some (.inl (M 25 0 (((9 : Int32) + a1)).toNatClampNeg)), none]) (st' := [.inl a1, .inr (.inl (21, 0))]) (M' := m7) rfl ?_
      obtain ⟨q9, h8, h⟩ := wbs h
      refine wg_ca (d' := 6) (y := 147) (as := [.inr (.inl (21, 0)), .inl a1]) (rest := []) (r := some q9.1) (M' := q9.2) rfl (Nat.le_of_ble_eq_true rfl) (s_M_wallMark a1 m7 _ h8) ?_
      refine wg_blk 2 (i' := 30) (L' := [some (.inr (.inl (21, 0))), some (.inl a1), some (.inl (M 25 0 (((9 : Int32) + a1)).toNatClampNeg)), none]) (st' := [.inl (q9.1 - (1000 : Int32))]) (M' := q9.2) rfl ?_
      obtain rfl := Option.some.inj h
      exact wg_re rfl trivial ⟨rfl, rfl⟩
    · rw [if_neg hc] at h
      refine wg_blk 2 (i' := 33) (L' := [some (.inr (.inl (21, 0))), some (.inl a1), some (.inl (M 25 0 (((9 : Int32) + a1)).toNatClampNeg)), none]) (st' := [.inl (1 : Int32), .inl (M 25 0 (((9 : Int32) + a1)).toNatClampNeg)]) (M' := M) rfl ?_
      refine wg_br (c := (M 25 0 (((9 : Int32) + a1)).toNatClampNeg) = (1 : Int32)) (t := 34) (f := 38) (st' := []) rfl (fun hc => ?_) (fun hc => ?_)
      · rw [if_pos hc] at h
        refine wg_blk 2 (i' := 36) (L' := [some (.inr (.inl (21, 0))), some (.inl a1), some (.inl (M 25 0 (((9 : Int32) + a1)).toNatClampNeg)), none]) (st' := [.inl a1, .inr (.inl (21, 0))]) (M' := M) rfl ?_
        obtain ⟨q11, h10, h⟩ := wbs h
        refine wg_ca (d' := 6) (y := 147) (as := [.inr (.inl (21, 0)), .inl a1]) (rest := []) (r := some q11.1) (M' := q11.2) rfl (Nat.le_of_ble_eq_true rfl) (s_M_wallMark a1 M _ h10) ?_
        obtain rfl := Option.some.inj h
        exact wg_re rfl trivial ⟨rfl, rfl⟩
      · rw [if_neg hc] at h
        refine wg_blk 2 (i' := 40) (L' := [some (.inr (.inl (21, 0))), some (.inl a1), some (.inl (M 25 0 (((9 : Int32) + a1)).toNatClampNeg)), none]) (st' := [.inl (23 : Int32), .inr (.inl (21, 0))]) (M' := M) rfl ?_
        obtain ⟨m13, h12, h⟩ := wbs h
        refine wg_ca (d' := 1) (y := 145) (as := [.inr (.inl (21, 0)), .inl (23 : Int32)]) (rest := []) (r := none) (M' := m13) rfl (Nat.le_of_ble_eq_true rfl) (s_M_begin (23 : Int32) M _ h12) ?_
        refine wg_blk 3 (i' := 44) (L' := [some (.inr (.inl (21, 0))), some (.inl a1), some (.inl (M 25 0 (((9 : Int32) + a1)).toNatClampNeg)), none]) (st' := [.inl (20 : Int32), .inl a1, .inr (.inl (21, 0))]) (M' := m13) rfl ?_
        obtain ⟨q15, h14, h⟩ := wbs h
        refine wg_ca (d' := 2) (y := 146) (as := [.inr (.inl (21, 0)), .inl a1, .inl (20 : Int32)]) (rest := []) (r := some q15.1) (M' := q15.2) rfl (Nat.le_of_ble_eq_true rfl) (s_M_lent a1 (20 : Int32) m13 _ h14) ?_
        refine wg_blk 4 (i' := 49) (L' := [some (.inr (.inl (21, 0))), some (.inl a1), some (.inl (M 25 0 (((9 : Int32) + a1)).toNatClampNeg)), some (.inl q15.1)]) (st' := [.inl a1, .inr (.inl (21, 0)), .inl q15.1]) (M' := q15.2) rfl ?_
        obtain ⟨q17, h16, h⟩ := wbs h
        refine wg_ca (d' := 4) (y := 149) (as := [.inr (.inl (21, 0)), .inl a1]) (rest := [.inl q15.1]) (r := some q17.1) (M' := q17.2) rfl (Nat.le_of_ble_eq_true rfl) (s_M_sizeOfHand a1 q15.2 _ h16) ?_
        refine wg_blk 1 (i' := 51) (L' := [some (.inr (.inl (21, 0))), some (.inl a1), some (.inl (M 25 0 (((9 : Int32) + a1)).toNatClampNeg)), some (.inl q15.1)]) (st' := [.inl (q15.1 - q17.1)]) (M' := q17.2) rfl ?_
        obtain rfl := Option.some.inj h
        exact wg_re rfl trivial ⟨rfl, rfl⟩
set_option maxRecDepth 20000 in
theorem s_M_wallSize (a1 : Int32) (M : wc_M) (z : Int32 × wc_M) (h : f_M_wallSize a1 M = some z) : wc_Sd 8 151 [.inr (.inl (21, 0)), .inl a1] M (some z.1) z.2 := by
  unfold f_M_wallSize at h
  refine wg_Sd (Nat.le_of_ble_eq_true rfl) ?_
  show wg 7 wx0 (some .int) wk_151 0 [some (.inr (.inl (21, 0))), some (.inl a1), none] [] M _
  refine wg_blk 2 (i' := 2) (L' := [some (.inr (.inl (21, 0))), some (.inl a1), none]) (st' := [.inl (11 : Int32), .inr (.inl (21, 0))]) (M' := M) rfl ?_
  obtain ⟨m2, h1, h⟩ := wbs h
  refine wg_ca (d' := 1) (y := 145) (as := [.inr (.inl (21, 0)), .inl (11 : Int32)]) (rest := []) (r := none) (M' := m2) rfl (Nat.le_of_ble_eq_true rfl) (s_M_begin (11 : Int32) M _ h1) ?_
  refine wg_blk 3 (i' := 6) (L' := [some (.inr (.inl (21, 0))), some (.inl a1), none]) (st' := [.inl (10 : Int32), .inl a1, .inr (.inl (21, 0))]) (M' := m2) rfl ?_
  obtain ⟨q4, h3, h⟩ := wbs h
  refine wg_ca (d' := 2) (y := 146) (as := [.inr (.inl (21, 0)), .inl a1, .inl (10 : Int32)]) (rest := []) (r := some q4.1) (M' := q4.2) rfl (Nat.le_of_ble_eq_true rfl) (s_M_lent a1 (10 : Int32) m2 _ h3) ?_
  refine wg_blk 4 (i' := 11) (L' := [some (.inr (.inl (21, 0))), some (.inl a1), some (.inl q4.1)]) (st' := [.inl a1, .inr (.inl (21, 0)), .inl q4.1]) (M' := q4.2) rfl ?_
  obtain ⟨q6, h5, h⟩ := wbs h
  refine wg_ca (d' := 7) (y := 150) (as := [.inr (.inl (21, 0)), .inl a1]) (rest := [.inl q4.1]) (r := some q6.1) (M' := q6.2) rfl (Nat.le_of_ble_eq_true rfl) (s_M_markOf a1 q4.2 _ h5) ?_
  refine wg_blk 1 (i' := 13) (L' := [some (.inr (.inl (21, 0))), some (.inl a1), some (.inl q4.1)]) (st' := [.inl (q4.1 + q6.1)]) (M' := q6.2) rfl ?_
  obtain rfl := Option.some.inj h
  exact wg_re rfl trivial ⟨rfl, rfl⟩
set_option maxRecDepth 20000 in
theorem s_M_sizeOf (a1 : Int32) (M : wc_M) (z : Int32 × wc_M) (h : f_M_sizeOf a1 M = some z) : wc_Sd 9 152 [.inr (.inl (21, 0)), .inl a1] M (some z.1) z.2 := by
  unfold f_M_sizeOf at h
  refine wg_Sd (Nat.le_of_ble_eq_true rfl) ?_
  show wg 8 wx0 (some .int) wk_152 0 [some (.inr (.inl (21, 0))), some (.inl a1), none] [] M _
  refine wg_blk 5 (i' := 5) (L' := [some (.inr (.inl (21, 0))), some (.inl a1), none]) (st' := [.inl ((9 : Int32) + a1), .inr (.inl (25, 0))]) (M' := M) rfl ?_
  obtain ⟨hp1, h⟩ := wif h
  refine wg_ck (st' := [.inl (M 25 0 (((9 : Int32) + a1)).toNatClampNeg)]) (M' := M) rfl (wib_in hp1) ?_
  refine wg_blk 3 (i' := 9) (L' := [some (.inr (.inl (21, 0))), some (.inl a1), some (.inl (M 25 0 (((9 : Int32) + a1)).toNatClampNeg))]) (st' := [.inl (2 : Int32), .inl (M 25 0 (((9 : Int32) + a1)).toNatClampNeg)]) (M' := M) rfl ?_
  refine wg_br (c := (M 25 0 (((9 : Int32) + a1)).toNatClampNeg) = (2 : Int32)) (t := 10) (f := 18) (st' := []) rfl (fun hc => ?_) (fun hc => ?_)
  · rw [if_pos hc] at h
    refine wg_blk 2 (i' := 12) (L' := [some (.inr (.inl (21, 0))), some (.inl a1), some (.inl (M 25 0 (((9 : Int32) + a1)).toNatClampNeg))]) (st' := [.inl (12 : Int32), .inr (.inl (21, 0))]) (M' := M) rfl ?_
    obtain ⟨m3, h2, h⟩ := wbs h
    refine wg_ca (d' := 1) (y := 145) (as := [.inr (.inl (21, 0)), .inl (12 : Int32)]) (rest := []) (r := none) (M' := m3) rfl (Nat.le_of_ble_eq_true rfl) (s_M_begin (12 : Int32) M _ h2) ?_
    refine wg_blk 2 (i' := 15) (L' := [some (.inr (.inl (21, 0))), some (.inl a1), some (.inl (M 25 0 (((9 : Int32) + a1)).toNatClampNeg))]) (st' := [.inl a1, .inr (.inl (21, 0))]) (M' := m3) rfl ?_
    obtain ⟨q5, h4, h⟩ := wbs h
    refine wg_ca (d' := 8) (y := 151) (as := [.inr (.inl (21, 0)), .inl a1]) (rest := []) (r := some q5.1) (M' := q5.2) rfl (Nat.le_of_ble_eq_true rfl) (s_M_wallSize a1 m3 _ h4) ?_
    refine wg_blk 1 (i' := 17) (L' := [some (.inr (.inl (21, 0))), some (.inl a1), some (.inl (M 25 0 (((9 : Int32) + a1)).toNatClampNeg))]) (st' := [.inl (-q5.1)]) (M' := q5.2) rfl ?_
    obtain rfl := Option.some.inj h
    exact wg_re rfl trivial ⟨rfl, rfl⟩
  · rw [if_neg hc] at h
    refine wg_blk 2 (i' := 20) (L' := [some (.inr (.inl (21, 0))), some (.inl a1), some (.inl (M 25 0 (((9 : Int32) + a1)).toNatClampNeg))]) (st' := [.inl (4 : Int32), .inl (M 25 0 (((9 : Int32) + a1)).toNatClampNeg)]) (M' := M) rfl ?_
    refine wg_br (c := (M 25 0 (((9 : Int32) + a1)).toNatClampNeg) < (4 : Int32)) (t := 25) (f := 21) (st' := []) rfl (fun hc => ?_) (fun hc => ?_)
    · rw [if_pos hc] at h
      refine wg_blk 2 (i' := 27) (L' := [some (.inr (.inl (21, 0))), some (.inl a1), some (.inl (M 25 0 (((9 : Int32) + a1)).toNatClampNeg))]) (st' := [.inl a1, .inr (.inl (21, 0))]) (M' := M) rfl ?_
      obtain ⟨q7, h6, h⟩ := wbs h
      refine wg_ca (d' := 8) (y := 151) (as := [.inr (.inl (21, 0)), .inl a1]) (rest := []) (r := some q7.1) (M' := q7.2) rfl (Nat.le_of_ble_eq_true rfl) (s_M_wallSize a1 M _ h6) ?_
      obtain rfl := Option.some.inj h
      exact wg_re rfl trivial ⟨rfl, rfl⟩
    · rw [if_neg hc] at h
      refine wg_blk 2 (i' := 23) (L' := [some (.inr (.inl (21, 0))), some (.inl a1), some (.inl (M 25 0 (((9 : Int32) + a1)).toNatClampNeg))]) (st' := [.inl a1, .inr (.inl (21, 0))]) (M' := M) rfl ?_
      obtain ⟨q9, h8, h⟩ := wbs h
      refine wg_ca (d' := 4) (y := 149) (as := [.inr (.inl (21, 0)), .inl a1]) (rest := []) (r := some q9.1) (M' := q9.2) rfl (Nat.le_of_ble_eq_true rfl) (s_M_sizeOfHand a1 M _ h8) ?_
      refine wg_blk 1 (i' := 28) (L' := [some (.inr (.inl (21, 0))), some (.inl a1), some (.inl (M 25 0 (((9 : Int32) + a1)).toNatClampNeg))]) (st' := [.inl q9.1]) (M' := q9.2) rfl ?_
      obtain rfl := Option.some.inj h
      exact wg_re rfl trivial ⟨rfl, rfl⟩
set_option maxRecDepth 20000 in
theorem s_M_ask (a1 : Int32) (a2 : Int32) (M : wc_M) (z : Int32 × wc_M) (h : f_M_ask a1 a2 M = some z) : wc_Sd 10 153 [.inr (.inl (21, 0)), .inl a1, .inl a2] M (some z.1) z.2 := by
  unfold f_M_ask at h
  refine wg_Sd (Nat.le_of_ble_eq_true rfl) ?_
  show wg 9 wx0 (some .int) wk_153 0 [some (.inr (.inl (21, 0))), some (.inl a1), some (.inl a2)] [] M _
  refine wg_blk 2 (i' := 2) (L' := [some (.inr (.inl (21, 0))), some (.inl a1), some (.inl a2)]) (st' := [.inl (M 21 0 4)]) (M' := M) rfl ?_
  refine wg_br (c := (M 21 0 4) = (0 : Int32)) (t := 3) (f := 5) (st' := []) rfl (fun hc => ?_) (fun hc => ?_)
  · rw [if_pos hc] at h
    refine wg_blk 1 (i' := 4) (L' := [some (.inr (.inl (21, 0))), some (.inl a1), some (.inl a2)]) (st' := [.inl (-1000002 : Int32)]) (M' := M) rfl ?_
    obtain rfl := Option.some.inj h
    exact wg_re rfl trivial ⟨rfl, rfl⟩
  · rw [if_neg hc] at h
    refine wg_blk 1 (i' := 6) (L' := [some (.inr (.inl (21, 0))), some (.inl a1), some (.inl a2)]) (st' := [.inl a1]) (M' := M) rfl ?_
    refine wg_ca (d' := 2) (y := 108) (as := [.inl a1]) (rest := []) (r := some (f_M_isCell a1)) (M' := M) rfl (Nat.le_of_ble_eq_true rfl) (s_M_isCell a1 M _ rfl) ?_
    refine wg_br (c := (f_M_isCell a1) = (0 : Int32)) (t := 14) (f := 8) (st' := []) rfl (fun hc => ?_) (fun hc => ?_)
    · rw [if_pos hc] at h
      refine wg_blk 1 (i' := 15) (L' := [some (.inr (.inl (21, 0))), some (.inl a1), some (.inl a2)]) (st' := [.inl (-1000001 : Int32)]) (M' := M) rfl ?_
      obtain rfl := Option.some.inj h
      exact wg_re rfl trivial ⟨rfl, rfl⟩
    · rw [if_neg hc] at h
      refine wg_blk 4 (i' := 12) (L' := [some (.inr (.inl (21, 0))), some (.inl a1), some (.inl a2)]) (st' := [.inr (.inr (1 : Int64)), .inr (.inr (0 : Int64)), .inr (.inr (a2).toInt64)]) (M' := M) rfl ?_
      refine wg_ca (d' := 1) (y := 87) (as := [.inr (.inr (a2).toInt64), .inr (.inr (0 : Int64)), .inr (.inr (1 : Int64))]) (rest := []) (r := some (f_M_in (a2).toInt64 (0 : Int64) (1 : Int64))) (M' := M) rfl (Nat.le_of_ble_eq_true rfl) (s_M_in (a2).toInt64 (0 : Int64) (1 : Int64) M _ rfl) ?_
      refine wg_br (c := (f_M_in (a2).toInt64 (0 : Int64) (1 : Int64)) = (0 : Int32)) (t := 14) (f := 16) (st' := []) rfl (fun hc => ?_) (fun hc => ?_)
      · rw [if_pos hc] at h
        refine wg_blk 1 (i' := 15) (L' := [some (.inr (.inl (21, 0))), some (.inl a1), some (.inl a2)]) (st' := [.inl (-1000001 : Int32)]) (M' := M) rfl ?_
        obtain rfl := Option.some.inj h
        exact wg_re rfl trivial ⟨rfl, rfl⟩
      · rw [if_neg hc] at h
        refine wg_blk 2 (i' := 18) (L' := [some (.inr (.inl (21, 0))), some (.inl a1), some (.inl a2)]) (st' := [.inl a1, .inr (.inl (21, 0))]) (M' := M) rfl ?_
        obtain ⟨v2, h1, h⟩ := wbs h
        refine wg_ca (d' := 1) (y := 110) (as := [.inr (.inl (21, 0)), .inl a1]) (rest := []) (r := some v2) (M' := M) rfl (Nat.le_of_ble_eq_true rfl) (s_M_isWork a1 M _ h1) ?_
        refine wg_br (c := v2 = (0 : Int32)) (t := 20) (f := 22) (st' := []) rfl (fun hc => ?_) (fun hc => ?_)
        · rw [if_pos hc] at h
          refine wg_blk 1 (i' := 21) (L' := [some (.inr (.inl (21, 0))), some (.inl a1), some (.inl a2)]) (st' := [.inl (-1000002 : Int32)]) (M' := M) rfl ?_
          obtain rfl := Option.some.inj h
          exact wg_re rfl trivial ⟨rfl, rfl⟩
        · rw [if_neg hc] at h
          refine wg_blk 4 (i' := 26) (L' := [some (.inr (.inl (21, 0))), some (.inl a1), some (.inl a2)]) (st' := [.inl a2]) (M' := (wc_up M 21 0 27 (0 : Int32))) rfl ?_
          refine wg_br (c := a2 = (0 : Int32)) (t := 27) (f := 31) (st' := []) rfl (fun hc => ?_) (fun hc => ?_)
          · rw [if_pos hc] at h
            refine wg_blk 2 (i' := 29) (L' := [some (.inr (.inl (21, 0))), some (.inl a1), some (.inl a2)]) (st' := [.inl a1, .inr (.inl (21, 0))]) (M' := (wc_up M 21 0 27 (0 : Int32))) rfl ?_
            obtain ⟨q4, h3, h⟩ := wbs h
            refine wg_ca (d' := 9) (y := 152) (as := [.inr (.inl (21, 0)), .inl a1]) (rest := []) (r := some q4.1) (M' := q4.2) rfl (Nat.le_of_ble_eq_true rfl) (s_M_sizeOf a1 (wc_up M 21 0 27 (0 : Int32)) _ h3) ?_
            refine wg_blk 1 (i' := 34) (L' := [some (.inr (.inl (21, 0))), some (.inl a1), some (.inl a2)]) (st' := [.inl q4.1]) (M' := q4.2) rfl ?_
            obtain rfl := Option.some.inj h
            exact wg_re rfl trivial ⟨rfl, rfl⟩
          · rw [if_neg hc] at h
            refine wg_blk 2 (i' := 33) (L' := [some (.inr (.inl (21, 0))), some (.inl a1), some (.inl a2)]) (st' := [.inl a1, .inr (.inl (21, 0))]) (M' := (wc_up M 21 0 27 (0 : Int32))) rfl ?_
            obtain ⟨q6, h5, h⟩ := wbs h
            refine wg_ca (d' := 7) (y := 150) (as := [.inr (.inl (21, 0)), .inl a1]) (rest := []) (r := some q6.1) (M' := q6.2) rfl (Nat.le_of_ble_eq_true rfl) (s_M_markOf a1 (wc_up M 21 0 27 (0 : Int32)) _ h5) ?_
            obtain rfl := Option.some.inj h
            exact wg_re rfl trivial ⟨rfl, rfl⟩
set_option maxRecDepth 20000 in
theorem s_C_trace (a1 : Int32) (M : wc_M) (z : Int32) (h : f_C_trace a1 M = some z) : wc_Sd 2 29 [.inr (.inl (0, 0)), .inl a1] M (some z) M := by
  unfold f_C_trace at h
  refine wg_Sd (Nat.le_of_ble_eq_true rfl) ?_
  show wg 1 wx0 (some .int) wk_29 0 [some (.inr (.inl (0, 0))), some (.inl a1)] [] M _
  refine wg_blk 6 (i' := 6) (L' := [some (.inr (.inl (0, 0))), some (.inl a1)]) (st' := [.inl ((M 19 0 1) - (1 : Int32)), .inl a1]) (M' := M) rfl ?_
  refine wg_ca (d' := 1) (y := 32) (as := [.inl a1, .inl ((M 19 0 1) - (1 : Int32))]) (rest := []) (r := some (f_C_isUpTo a1 ((M 19 0 1) - (1 : Int32)))) (M' := M) rfl (Nat.le_of_ble_eq_true rfl) (s_C_isUpTo a1 ((M 19 0 1) - (1 : Int32)) M _ rfl) ?_
  refine wg_br (c := (f_C_isUpTo a1 ((M 19 0 1) - (1 : Int32))) = (0 : Int32)) (t := 14) (f := 8) (st' := []) rfl (fun hc => ?_) (fun hc => ?_)
  · rw [if_pos hc] at h
    refine wg_blk 1 (i' := 15) (L' := [some (.inr (.inl (0, 0))), some (.inl a1)]) (st' := [.inl (-1000000 : Int32)]) (M' := M) rfl ?_
    obtain rfl := Option.some.inj h
    exact wg_re rfl trivial ⟨rfl, rfl⟩
  · rw [if_neg hc] at h
    refine wg_blk 4 (i' := 12) (L' := [some (.inr (.inl (0, 0))), some (.inl a1)]) (st' := [.inl a1, .inr (.inl (20, 0))]) (M' := M) rfl ?_
    obtain ⟨hp1, h⟩ := wif h
    refine wg_ck (st' := [.inl (M 20 0 (a1).toNatClampNeg)]) (M' := M) rfl (wib_in hp1) ?_
    refine wg_blk 1 (i' := 15) (L' := [some (.inr (.inl (0, 0))), some (.inl a1)]) (st' := [.inl (M 20 0 (a1).toNatClampNeg)]) (M' := M) rfl ?_
    obtain rfl := Option.some.inj h
    exact wg_re rfl trivial ⟨rfl, rfl⟩
set_option maxRecDepth 20000 in
theorem s_M_trace (a1 : Int32) (M : wc_M) (z : Int32) (h : f_M_trace a1 M = some z) : wc_Sd 2 154 [.inr (.inl (21, 0)), .inl a1] M (some z) M := by
  unfold f_M_trace at h
  refine wg_Sd (Nat.le_of_ble_eq_true rfl) ?_
  show wg 1 wx0 (some .int) wk_154 0 [some (.inr (.inl (21, 0))), some (.inl a1)] [] M _
  refine wg_blk 8 (i' := 8) (L' := [some (.inr (.inl (21, 0))), some (.inl a1)]) (st' := [.inr (.inr (((M 21 0 27) - (1 : Int32))).toInt64), .inr (.inr (0 : Int64)), .inr (.inr (a1).toInt64)]) (M' := M) rfl ?_
  refine wg_ca (d' := 1) (y := 87) (as := [.inr (.inr (a1).toInt64), .inr (.inr (0 : Int64)), .inr (.inr (((M 21 0 27) - (1 : Int32))).toInt64)]) (rest := []) (r := some (f_M_in (a1).toInt64 (0 : Int64) (((M 21 0 27) - (1 : Int32))).toInt64)) (M' := M) rfl (Nat.le_of_ble_eq_true rfl) (s_M_in (a1).toInt64 (0 : Int64) (((M 21 0 27) - (1 : Int32))).toInt64 M _ rfl) ?_
  refine wg_br (c := (f_M_in (a1).toInt64 (0 : Int64) (((M 21 0 27) - (1 : Int32))).toInt64) = (0 : Int32)) (t := 15) (f := 10) (st' := []) rfl (fun hc => ?_) (fun hc => ?_)
  · rw [if_pos hc] at h
    refine wg_blk 1 (i' := 16) (L' := [some (.inr (.inl (21, 0))), some (.inl a1)]) (st' := [.inl (-1000000 : Int32)]) (M' := M) rfl ?_
    obtain rfl := Option.some.inj h
    exact wg_re rfl trivial ⟨rfl, rfl⟩
  · rw [if_neg hc] at h
    refine wg_blk 3 (i' := 13) (L' := [some (.inr (.inl (21, 0))), some (.inl a1)]) (st' := [.inl a1, .inr (.inl (34, 0))]) (M' := M) rfl ?_
    obtain ⟨hp1, h⟩ := wif h
    refine wg_ck (st' := [.inl (M 34 0 (a1).toNatClampNeg)]) (M' := M) rfl (wib_in hp1) ?_
    refine wg_blk 1 (i' := 16) (L' := [some (.inr (.inl (21, 0))), some (.inl a1)]) (st' := [.inl (M 34 0 (a1).toNatClampNeg)]) (M' := M) rfl ?_
    obtain rfl := Option.some.inj h
    exact wg_re rfl trivial ⟨rfl, rfl⟩
set_option maxRecDepth 20000 in
theorem l_C_rowsThere_4_ok (M : wc_M) {K : Option Int32 → wc_M → Prop} : ∀ (n : Nat) (x1 : Int32) (x2 : Int32) (o : Int32), l_C_rowsThere_4 M n x1 x2 = some o → wg 0 wx0 (some .int) wk_40 16 [none, some (.inl o), none] [] M K → wg 0 wx0 (some .int) wk_40 4 [some (.inr (.inl (0, 0))), some (.inl x1), some (.inl x2)] [] M K := by
  intro n
  induction n with
  | zero =>
    intro x1 x2 o h hk
    exact nomatch (show (none : Option (Int32)) = some o from h)
  | succ n ih =>
    intro x1 x2 o h hk
    unfold l_C_rowsThere_4 at h
    refine wg_blk 2 (i' := 6) (L' := [some (.inr (.inl (0, 0))), some (.inl x1), some (.inl x2)]) (st' := [.inl (8 : Int32), .inl x2]) (M' := M) rfl ?_
    refine wg_br (c := (8 : Int32) ≤ x2) (t := 16) (f := 7) (st' := []) rfl (fun hc => ?_) (fun hc => ?_)
    · rw [if_pos hc] at h
      obtain rfl := Option.some.inj h
      exact wg_wk (wk_n (wk_s (wk_n wk_e))) rfl hk
    · rw [if_neg hc] at h
      refine wg_blk 3 (i' := 10) (L' := [some (.inr (.inl (0, 0))), some (.inl x1), some (.inl x2)]) (st' := [.inl x2, .inr (.inl (1, 0))]) (M' := M) rfl ?_
      obtain ⟨hp1, h⟩ := wif h
      refine wg_ck (st' := [.inr (.inl (2, (x2).toNatClampNeg))]) (M' := M) rfl (wib_in hp1) ?_
      refine wg_blk 1 (i' := 12) (L' := [some (.inr (.inl (0, 0))), some (.inl x1), some (.inl x2)]) (st' := [.inl (M 2 (x2).toNatClampNeg 1)]) (M' := M) rfl ?_
      refine wg_br (c := (M 2 (x2).toNatClampNeg 1) = (0 : Int32)) (t := 14) (f := 13) (st' := []) rfl (fun hc => ?_) (fun hc => ?_)
      · rw [if_pos hc] at h
        refine wg_blk 2 (i' := 4) (L' := [some (.inr (.inl (0, 0))), some (.inl x1), some (.inl (x2 + (1 : Int32)))]) (st' := []) (M' := M) rfl ?_
        exact wg_wk (wk_s (wk_s (wk_s wk_e))) rfl (ih x1 (x2 + (1 : Int32)) _ h hk)
      · rw [if_neg hc] at h
        refine wg_blk 3 (i' := 4) (L' := [some (.inr (.inl (0, 0))), some (.inl (x1 + (1 : Int32))), some (.inl (x2 + (1 : Int32)))]) (st' := []) (M' := M) rfl ?_
        exact wg_wk (wk_s (wk_s (wk_s wk_e))) rfl (ih (x1 + (1 : Int32)) (x2 + (1 : Int32)) _ h hk)
set_option maxRecDepth 20000 in
theorem s_C_rowsThere (M : wc_M) (z : Int32) (h : f_C_rowsThere M = some z) : wc_Sd 1 40 [.inr (.inl (0, 0))] M (some z) M := by
  unfold f_C_rowsThere at h
  refine wg_Sd (Nat.le_of_ble_eq_true rfl) ?_
  show wg 0 wx0 (some .int) wk_40 0 [some (.inr (.inl (0, 0))), none, none] [] M _
  refine wg_blk 4 (i' := 4) (L' := [some (.inr (.inl (0, 0))), some (.inl (0 : Int32)), some (.inl (0 : Int32))]) (st' := []) (M' := M) rfl ?_
  obtain ⟨t2, h3, h⟩ := wbs h
  refine wg_wk (wk_s (wk_s (wk_s wk_e))) rfl (l_C_rowsThere_4_ok M 2000 (0 : Int32) (0 : Int32) _ h3 ?_)
  refine wg_blk 1 (i' := 17) (L' := [none, some (.inl t2), none]) (st' := [.inl t2]) (M' := M) rfl ?_
  obtain rfl := Option.some.inj h
  exact wg_re rfl trivial ⟨rfl, rfl⟩
set_option maxRecDepth 20000 in
theorem s_C_lostNow (M : wc_M) (z : Int32 × wc_M) (h : f_C_lostNow M = some z) : wc_Sd 4 42 [.inr (.inl (0, 0))] M (some z.1) z.2 := by
  unfold f_C_lostNow at h
  refine wg_Sd (Nat.le_of_ble_eq_true rfl) ?_
  show wg 3 wx0 (some .int) wk_42 0 [some (.inr (.inl (0, 0)))] [] M _
  refine wg_blk 4 (i' := 4) (L' := [some (.inr (.inl (0, 0)))]) (st' := [.inr (.inl (6, 0)), .inr (.inl (12, 0))]) (M' := M) rfl ?_
  obtain ⟨m2, h1, h⟩ := wbs h
  refine wg_ca (d' := 3) (y := 74) (as := [.inr (.inl (12, 0)), .inr (.inl (6, 0))]) (rest := []) (r := none) (M' := m2) rfl (Nat.le_of_ble_eq_true rfl) (s_A_blow 0 M _ h1) ?_
  refine wg_blk 3 (i' := 8) (L' := [some (.inr (.inl (0, 0)))]) (st' := [.inl (m2 12 0 2)]) (M' := m2) rfl ?_
  obtain rfl := Option.some.inj h
  exact wg_re rfl trivial ⟨rfl, rfl⟩
set_option maxRecDepth 20000 in
theorem l_C_leavingNow_9_ok (M : wc_M) {K : Option Int32 → wc_M → Prop} : ∀ (n : Nat) (x1 : Int32) (x2 : Int32) (o : Int32), l_C_leavingNow_9 M n x1 x2 = some o → wg 3 wx0 (some .int) wk_43 22 [none, some (.inl o), none] [] M K → wg 3 wx0 (some .int) wk_43 9 [some (.inr (.inl (0, 0))), some (.inl x1), some (.inl x2)] [] M K := by
  intro n
  induction n with
  | zero =>
    intro x1 x2 o h hk
    exact nomatch (show (none : Option (Int32)) = some o from h)
  | succ n ih =>
    intro x1 x2 o h hk
    unfold l_C_leavingNow_9 at h
    refine wg_blk 2 (i' := 11) (L' := [some (.inr (.inl (0, 0))), some (.inl x1), some (.inl x2)]) (st' := [.inl (4 : Int32), .inl x2]) (M' := M) rfl ?_
    refine wg_br (c := (4 : Int32) ≤ x2) (t := 22) (f := 12) (st' := []) rfl (fun hc => ?_) (fun hc => ?_)
    · rw [if_pos hc] at h
      obtain rfl := Option.some.inj h
      exact wg_wk (wk_n (wk_s (wk_n wk_e))) rfl hk
    · rw [if_neg hc] at h
      refine wg_blk 5 (i' := 17) (L' := [some (.inr (.inl (0, 0))), some (.inl x1), some (.inl x2)]) (st' := [.inl x2, .inr (.inl (14, 0)), .inl x1]) (M' := M) rfl ?_
      obtain ⟨hp3, h⟩ := wif h
      refine wg_ck (st' := [.inl (M 14 0 (x2).toNatClampNeg), .inl x1]) (M' := M) rfl (wib_in hp3) ?_
      refine wg_blk 4 (i' := 9) (L' := [some (.inr (.inl (0, 0))), some (.inl (x1 + (M 14 0 (x2).toNatClampNeg))), some (.inl (x2 + (1 : Int32)))]) (st' := []) (M' := M) rfl ?_
      exact wg_wk (wk_s (wk_s (wk_s wk_e))) rfl (ih (x1 + (M 14 0 (x2).toNatClampNeg)) (x2 + (1 : Int32)) _ h hk)
set_option maxRecDepth 20000 in
theorem s_C_leavingNow (M : wc_M) (z : Int32 × wc_M) (h : f_C_leavingNow M = some z) : wc_Sd 4 43 [.inr (.inl (0, 0))] M (some z.1) z.2 := by
  unfold f_C_leavingNow at h
  refine wg_Sd (Nat.le_of_ble_eq_true rfl) ?_
  show wg 3 wx0 (some .int) wk_43 0 [some (.inr (.inl (0, 0))), none, none] [] M _
  refine wg_blk 4 (i' := 4) (L' := [some (.inr (.inl (0, 0))), none, none]) (st' := [.inr (.inl (6, 0)), .inr (.inl (12, 0))]) (M' := M) rfl ?_
  obtain ⟨m2, h1, h⟩ := wbs h
  refine wg_ca (d' := 3) (y := 74) (as := [.inr (.inl (12, 0)), .inr (.inl (6, 0))]) (rest := []) (r := none) (M' := m2) rfl (Nat.le_of_ble_eq_true rfl) (s_A_blow 0 M _ h1) ?_
  refine wg_blk 4 (i' := 9) (L' := [some (.inr (.inl (0, 0))), some (.inl (0 : Int32)), some (.inl (0 : Int32))]) (st' := []) (M' := m2) rfl ?_
  obtain ⟨t4, h5, h⟩ := wbs h
  refine wg_wk (wk_s (wk_s (wk_s wk_e))) rfl (l_C_leavingNow_9_ok m2 2000 (0 : Int32) (0 : Int32) _ h5 ?_)
  refine wg_blk 1 (i' := 23) (L' := [none, some (.inl t4), none]) (st' := [.inl t4]) (M' := m2) rfl ?_
  obtain rfl := Option.some.inj h
  exact wg_re rfl trivial ⟨rfl, rfl⟩
set_option maxRecDepth 20000 in
theorem s_C_count (a1 : Int32) (M : wc_M) (z : Int32 × wc_M) (h : f_C_count a1 M = some z) : wc_Sd 5 30 [.inr (.inl (0, 0)), .inl a1] M (some z.1) z.2 := by
  unfold f_C_count at h
  refine wg_Sd (Nat.le_of_ble_eq_true rfl) ?_
  show wg 4 wx0 (some .int) wk_30 0 [some (.inr (.inl (0, 0))), some (.inl a1)] [] M _
  refine wg_blk 1 (i' := 1) (L' := [some (.inr (.inl (0, 0))), some (.inl a1)]) (st' := [.inl a1]) (M' := M) rfl ?_
  refine wg_sw (x := a1) (cs := [((0 : Int32), 2), ((1 : Int32), 5), ((2 : Int32), 9), ((3 : Int32), 13), ((4 : Int32), 16), ((5 : Int32), 19), ((6 : Int32), 23)]) (df := 27) (st' := []) rfl ?_ ?_
  · intro q hq he
    simp only [List.mem_cons, List.not_mem_nil, or_false] at hq
    rcases hq with rfl | rfl | rfl | rfl | rfl | rfl | rfl
    · dsimp only at he ⊢
      rw [if_pos he] at h
      refine wg_blk 1 (i' := 3) (L' := [some (.inr (.inl (0, 0))), some (.inl a1)]) (st' := [.inr (.inl (0, 0))]) (M' := M) rfl ?_
      obtain ⟨v2, h1, h⟩ := wbs h
      refine wg_ca (d' := 1) (y := 40) (as := [.inr (.inl (0, 0))]) (rest := []) (r := some v2) (M' := M) rfl (Nat.le_of_ble_eq_true rfl) (s_C_rowsThere M _ h1) ?_
      obtain rfl := Option.some.inj h
      exact wg_re rfl trivial ⟨rfl, rfl⟩
    · dsimp only at he ⊢
      rw [if_neg (fun z => absurd (he.symm.trans z) (by decide))] at h
      rw [if_pos he] at h
      refine wg_blk 2 (i' := 7) (L' := [some (.inr (.inl (0, 0))), some (.inl a1)]) (st' := [.inr (.inl (6, 0))]) (M' := M) rfl ?_
      obtain ⟨v4, h3, h⟩ := wbs h
      refine wg_ca (d' := 2) (y := 70) (as := [.inr (.inl (6, 0))]) (rest := []) (r := some v4) (M' := M) rfl (Nat.le_of_ble_eq_true rfl) (s_P_works 0 M _ h3) ?_
      obtain rfl := Option.some.inj h
      exact wg_re rfl trivial ⟨rfl, rfl⟩
    · dsimp only at he ⊢
      rw [if_neg (fun z => absurd (he.symm.trans z) (by decide))] at h
      rw [if_neg (fun z => absurd (he.symm.trans z) (by decide))] at h
      rw [if_pos he] at h
      refine wg_blk 3 (i' := 12) (L' := [some (.inr (.inl (0, 0))), some (.inl a1)]) (st' := [.inl (M 6 0 6)]) (M' := M) rfl ?_
      obtain rfl := Option.some.inj h
      exact wg_re rfl trivial ⟨rfl, rfl⟩
    · dsimp only at he ⊢
      rw [if_neg (fun z => absurd (he.symm.trans z) (by decide))] at h
      rw [if_neg (fun z => absurd (he.symm.trans z) (by decide))] at h
      rw [if_neg (fun z => absurd (he.symm.trans z) (by decide))] at h
      rw [if_pos he] at h
      refine wg_blk 1 (i' := 14) (L' := [some (.inr (.inl (0, 0))), some (.inl a1)]) (st' := [.inr (.inl (0, 0))]) (M' := M) rfl ?_
      obtain ⟨q6, h5, h⟩ := wbs h
      refine wg_ca (d' := 4) (y := 42) (as := [.inr (.inl (0, 0))]) (rest := []) (r := some q6.1) (M' := q6.2) rfl (Nat.le_of_ble_eq_true rfl) (s_C_lostNow M _ h5) ?_
      obtain rfl := Option.some.inj h
      exact wg_re rfl trivial ⟨rfl, rfl⟩
    · dsimp only at he ⊢
      rw [if_neg (fun z => absurd (he.symm.trans z) (by decide))] at h
      rw [if_neg (fun z => absurd (he.symm.trans z) (by decide))] at h
      rw [if_neg (fun z => absurd (he.symm.trans z) (by decide))] at h
      rw [if_neg (fun z => absurd (he.symm.trans z) (by decide))] at h
      rw [if_pos he] at h
      refine wg_blk 1 (i' := 17) (L' := [some (.inr (.inl (0, 0))), some (.inl a1)]) (st' := [.inr (.inl (0, 0))]) (M' := M) rfl ?_
      obtain ⟨q8, h7, h⟩ := wbs h
      refine wg_ca (d' := 4) (y := 43) (as := [.inr (.inl (0, 0))]) (rest := []) (r := some q8.1) (M' := q8.2) rfl (Nat.le_of_ble_eq_true rfl) (s_C_leavingNow M _ h7) ?_
      obtain rfl := Option.some.inj h
      exact wg_re rfl trivial ⟨rfl, rfl⟩
    · dsimp only at he ⊢
      rw [if_neg (fun z => absurd (he.symm.trans z) (by decide))] at h
      rw [if_neg (fun z => absurd (he.symm.trans z) (by decide))] at h
      rw [if_neg (fun z => absurd (he.symm.trans z) (by decide))] at h
      rw [if_neg (fun z => absurd (he.symm.trans z) (by decide))] at h
      rw [if_neg (fun z => absurd (he.symm.trans z) (by decide))] at h
      rw [if_pos he] at h
      refine wg_blk 3 (i' := 22) (L' := [some (.inr (.inl (0, 0))), some (.inl a1)]) (st' := [.inl (M 16 0 2)]) (M' := M) rfl ?_
      obtain rfl := Option.some.inj h
      exact wg_re rfl trivial ⟨rfl, rfl⟩
    · dsimp only at he ⊢
      rw [if_neg (fun z => absurd (he.symm.trans z) (by decide))] at h
      rw [if_neg (fun z => absurd (he.symm.trans z) (by decide))] at h
      rw [if_neg (fun z => absurd (he.symm.trans z) (by decide))] at h
      rw [if_neg (fun z => absurd (he.symm.trans z) (by decide))] at h
      rw [if_neg (fun z => absurd (he.symm.trans z) (by decide))] at h
      rw [if_neg (fun z => absurd (he.symm.trans z) (by decide))] at h
      rw [if_pos he] at h
      refine wg_blk 3 (i' := 26) (L' := [some (.inr (.inl (0, 0))), some (.inl a1)]) (st' := [.inl (M 4 0 1)]) (M' := M) rfl ?_
      obtain rfl := Option.some.inj h
      exact wg_re rfl trivial ⟨rfl, rfl⟩
  · intro hq
    rw [if_neg (hq ((0 : Int32), 2) (by simp))] at h
    rw [if_neg (hq ((1 : Int32), 5) (by simp))] at h
    rw [if_neg (hq ((2 : Int32), 9) (by simp))] at h
    rw [if_neg (hq ((3 : Int32), 13) (by simp))] at h
    rw [if_neg (hq ((4 : Int32), 16) (by simp))] at h
    rw [if_neg (hq ((5 : Int32), 19) (by simp))] at h
    rw [if_neg (hq ((6 : Int32), 23) (by simp))] at h
    refine wg_blk 1 (i' := 28) (L' := [some (.inr (.inl (0, 0))), some (.inl a1)]) (st' := [.inl (-1000001 : Int32)]) (M' := M) rfl ?_
    obtain rfl := Option.some.inj h
    exact wg_re rfl trivial ⟨rfl, rfl⟩
set_option maxRecDepth 20000 in
theorem l_M_count_4_ok (x1 : Int32) (M : wc_M) {K : Option Int32 → wc_M → Prop} : ∀ (n : Nat) (x2 : Int32) (x3 : Int32) (o : Int32), l_M_count_4 x1 M n x2 x3 = some o → wg 4 wx0 (some .int) wk_155 20 [some (.inr (.inl (21, 0))), some (.inl x1), some (.inl o), none] [] M K → wg 4 wx0 (some .int) wk_155 4 [some (.inr (.inl (21, 0))), some (.inl x1), some (.inl x2), some (.inl x3)] [] M K := by
  intro n
  induction n with
  | zero =>
    intro x2 x3 o h hk
    exact nomatch (show (none : Option (Int32)) = some o from h)
  | succ n ih =>
    intro x2 x3 o h hk
    unfold l_M_count_4 at h
    refine wg_blk 2 (i' := 6) (L' := [some (.inr (.inl (21, 0))), some (.inl x1), some (.inl x2), some (.inl x3)]) (st' := [.inl (8 : Int32), .inl x3]) (M' := M) rfl ?_
    refine wg_br (c := (8 : Int32) ≤ x3) (t := 20) (f := 7) (st' := []) rfl (fun hc => ?_) (fun hc => ?_)
    · rw [if_pos hc] at h
      obtain rfl := Option.some.inj h
      exact wg_wk (wk_s (wk_s (wk_s (wk_n wk_e)))) rfl hk
    · rw [if_neg hc] at h
      refine wg_blk 4 (i' := 11) (L' := [some (.inr (.inl (21, 0))), some (.inl x1), some (.inl x2), some (.inl x3)]) (st' := [.inl x3, .inr (.inl (23, 0)), .inl x2]) (M' := M) rfl ?_
      obtain ⟨hp1, h⟩ := wif h
      refine wg_ck (st' := [.inl (M 23 0 (x3).toNatClampNeg), .inl x2]) (M' := M) rfl (wib_in hp1) ?_
      refine wg_br (c := (M 23 0 (x3).toNatClampNeg) < (0 : Int32)) (t := 15) (f := 13) (st' := [.inl x2]) rfl (fun hc => ?_) (fun hc => ?_)
      · rw [if_pos hc] at h
        refine wg_blk 5 (i' := 4) (L' := [some (.inr (.inl (21, 0))), some (.inl x1), some (.inl (x2 + (0 : Int32))), some (.inl (x3 + (1 : Int32)))]) (st' := []) (M' := M) rfl ?_
        exact wg_wk (wk_s (wk_s (wk_s (wk_s wk_e)))) rfl (ih (x2 + (0 : Int32)) (x3 + (1 : Int32)) _ h hk)
      · rw [if_neg hc] at h
        refine wg_blk 6 (i' := 4) (L' := [some (.inr (.inl (21, 0))), some (.inl x1), some (.inl (x2 + (1 : Int32))), some (.inl (x3 + (1 : Int32)))]) (st' := []) (M' := M) rfl ?_
        exact wg_wk (wk_s (wk_s (wk_s (wk_s wk_e)))) rfl (ih (x2 + (1 : Int32)) (x3 + (1 : Int32)) _ h hk)
set_option maxRecDepth 20000 in
theorem s_M_count (a1 : Int32) (M : wc_M) (z : Int32 × wc_M) (h : f_M_count a1 M = some z) : wc_Sd 5 155 [.inr (.inl (21, 0)), .inl a1] M (some z.1) z.2 := by
  unfold f_M_count at h
  refine wg_Sd (Nat.le_of_ble_eq_true rfl) ?_
  show wg 4 wx0 (some .int) wk_155 0 [some (.inr (.inl (21, 0))), some (.inl a1), none, none] [] M _
  refine wg_blk 4 (i' := 4) (L' := [some (.inr (.inl (21, 0))), some (.inl a1), some (.inl (0 : Int32)), some (.inl (0 : Int32))]) (st' := []) (M' := M) rfl ?_
  obtain ⟨t2, h3, h⟩ := wbs h
  refine wg_wk (wk_s (wk_s (wk_s (wk_s wk_e)))) rfl (l_M_count_4_ok a1 M 2000 (0 : Int32) (0 : Int32) _ h3 ?_)
  refine wg_blk 1 (i' := 21) (L' := [some (.inr (.inl (21, 0))), some (.inl a1), some (.inl t2), none]) (st' := [.inr (.inl (21, 0))]) (M' := M) rfl ?_
  obtain ⟨m5, h4, h⟩ := wbs h
  refine wg_ca (d' := 4) (y := 112) (as := [.inr (.inl (21, 0))]) (rest := []) (r := none) (M' := m5) rfl (Nat.le_of_ble_eq_true rfl) (s_M_blow M _ h4) ?_
  refine wg_blk 1 (i' := 23) (L' := [some (.inr (.inl (21, 0))), some (.inl a1), some (.inl t2), none]) (st' := [.inl a1]) (M' := m5) rfl ?_
  refine wg_sw (x := a1) (cs := [((0 : Int32), 24), ((1 : Int32), 26), ((2 : Int32), 29), ((3 : Int32), 34), ((4 : Int32), 37), ((5 : Int32), 57), ((6 : Int32), 60)]) (df := 63) (st' := []) rfl ?_ ?_
  · intro q hq he
    simp only [List.mem_cons, List.not_mem_nil, or_false] at hq
    rcases hq with rfl | rfl | rfl | rfl | rfl | rfl | rfl
    · dsimp only at he ⊢
      rw [if_pos he] at h
      refine wg_blk 1 (i' := 25) (L' := [some (.inr (.inl (21, 0))), some (.inl a1), some (.inl t2), none]) (st' := [.inl t2]) (M' := m5) rfl ?_
      obtain rfl := Option.some.inj h
      exact wg_re rfl trivial ⟨rfl, rfl⟩
    · dsimp only at he ⊢
      rw [if_neg (fun z => absurd (he.symm.trans z) (by decide))] at h
      rw [if_pos he] at h
      refine wg_blk 1 (i' := 27) (L' := [some (.inr (.inl (21, 0))), some (.inl a1), some (.inl t2), none]) (st' := [.inr (.inl (21, 0))]) (M' := m5) rfl ?_
      obtain ⟨v7, h6, h⟩ := wbs h
      refine wg_ca (d' := 2) (y := 116) (as := [.inr (.inl (21, 0))]) (rest := []) (r := some v7) (M' := m5) rfl (Nat.le_of_ble_eq_true rfl) (s_M_workMany m5 _ h6) ?_
      obtain rfl := Option.some.inj h
      exact wg_re rfl trivial ⟨rfl, rfl⟩
    · dsimp only at he ⊢
      rw [if_neg (fun z => absurd (he.symm.trans z) (by decide))] at h
      rw [if_neg (fun z => absurd (he.symm.trans z) (by decide))] at h
      rw [if_pos he] at h
      refine wg_blk 3 (i' := 32) (L' := [some (.inr (.inl (21, 0))), some (.inl a1), some (.inl t2), none]) (st' := [.inl (0 : Int32), .inr (.inl (25, 0))]) (M' := m5) rfl ?_
      refine wg_ck (st' := [.inl (m5 25 0 ((0 : Int32)).toNatClampNeg)]) (M' := m5) rfl (wib_in rfl) ?_
      obtain rfl := Option.some.inj h
      exact wg_re rfl trivial ⟨rfl, rfl⟩
    · dsimp only at he ⊢
      rw [if_neg (fun z => absurd (he.symm.trans z) (by decide))] at h
      rw [if_neg (fun z => absurd (he.symm.trans z) (by decide))] at h
      rw [if_neg (fun z => absurd (he.symm.trans z) (by decide))] at h
      rw [if_pos he] at h
      refine wg_blk 2 (i' := 36) (L' := [some (.inr (.inl (21, 0))), some (.inl a1), some (.inl t2), none]) (st' := [.inl (m5 21 0 19)]) (M' := m5) rfl ?_
      obtain rfl := Option.some.inj h
      exact wg_re rfl trivial ⟨rfl, rfl⟩
    · dsimp only at he ⊢
      rw [if_neg (fun z => absurd (he.symm.trans z) (by decide))] at h
      rw [if_neg (fun z => absurd (he.symm.trans z) (by decide))] at h
      rw [if_neg (fun z => absurd (he.symm.trans z) (by decide))] at h
      rw [if_neg (fun z => absurd (he.symm.trans z) (by decide))] at h
      rw [if_pos he] at h
      refine wg_blk 3 (i' := 40) (L' := [some (.inr (.inl (21, 0))), some (.inl a1), some (.inl t2), none]) (st' := [.inl (16 : Int32), .inr (.inl (29, 0))]) (M' := m5) rfl ?_
      refine wg_ck (st' := [.inl (m5 29 0 ((16 : Int32)).toNatClampNeg)]) (M' := m5) rfl (wib_in rfl) ?_
      refine wg_blk 3 (i' := 44) (L' := [some (.inr (.inl (21, 0))), some (.inl a1), some (.inl t2), none]) (st' := [.inl (17 : Int32), .inr (.inl (29, 0)), .inl (m5 29 0 ((16 : Int32)).toNatClampNeg)]) (M' := m5) rfl ?_
      refine wg_ck (st' := [.inl (m5 29 0 ((17 : Int32)).toNatClampNeg), .inl (m5 29 0 ((16 : Int32)).toNatClampNeg)]) (M' := m5) rfl (wib_in rfl) ?_
      refine wg_blk 4 (i' := 49) (L' := [some (.inr (.inl (21, 0))), some (.inl a1), some (.inl t2), none]) (st' := [.inl (18 : Int32), .inr (.inl (29, 0)), .inl ((m5 29 0 ((16 : Int32)).toNatClampNeg) + (m5 29 0 ((17 : Int32)).toNatClampNeg))]) (M' := m5) rfl ?_
      refine wg_ck (st' := [.inl (m5 29 0 ((18 : Int32)).toNatClampNeg), .inl ((m5 29 0 ((16 : Int32)).toNatClampNeg) + (m5 29 0 ((17 : Int32)).toNatClampNeg))]) (M' := m5) rfl (wib_in rfl) ?_
      refine wg_blk 4 (i' := 54) (L' := [some (.inr (.inl (21, 0))), some (.inl a1), some (.inl t2), none]) (st' := [.inl (19 : Int32), .inr (.inl (29, 0)), .inl (((m5 29 0 ((16 : Int32)).toNatClampNeg) + (m5 29 0 ((17 : Int32)).toNatClampNeg)) + (m5 29 0 ((18 : Int32)).toNatClampNeg))]) (M' := m5) rfl ?_
      refine wg_ck (st' := [.inl (m5 29 0 ((19 : Int32)).toNatClampNeg), .inl (((m5 29 0 ((16 : Int32)).toNatClampNeg) + (m5 29 0 ((17 : Int32)).toNatClampNeg)) + (m5 29 0 ((18 : Int32)).toNatClampNeg))]) (M' := m5) rfl (wib_in rfl) ?_
      refine wg_blk 1 (i' := 56) (L' := [some (.inr (.inl (21, 0))), some (.inl a1), some (.inl t2), none]) (st' := [.inl ((((m5 29 0 ((16 : Int32)).toNatClampNeg) + (m5 29 0 ((17 : Int32)).toNatClampNeg)) + (m5 29 0 ((18 : Int32)).toNatClampNeg)) + (m5 29 0 ((19 : Int32)).toNatClampNeg))]) (M' := m5) rfl ?_
      obtain rfl := Option.some.inj h
      exact wg_re rfl trivial ⟨rfl, rfl⟩
    · dsimp only at he ⊢
      rw [if_neg (fun z => absurd (he.symm.trans z) (by decide))] at h
      rw [if_neg (fun z => absurd (he.symm.trans z) (by decide))] at h
      rw [if_neg (fun z => absurd (he.symm.trans z) (by decide))] at h
      rw [if_neg (fun z => absurd (he.symm.trans z) (by decide))] at h
      rw [if_neg (fun z => absurd (he.symm.trans z) (by decide))] at h
      rw [if_pos he] at h
      refine wg_blk 2 (i' := 59) (L' := [some (.inr (.inl (21, 0))), some (.inl a1), some (.inl t2), none]) (st' := [.inl (m5 21 0 22)]) (M' := m5) rfl ?_
      obtain rfl := Option.some.inj h
      exact wg_re rfl trivial ⟨rfl, rfl⟩
    · dsimp only at he ⊢
      rw [if_neg (fun z => absurd (he.symm.trans z) (by decide))] at h
      rw [if_neg (fun z => absurd (he.symm.trans z) (by decide))] at h
      rw [if_neg (fun z => absurd (he.symm.trans z) (by decide))] at h
      rw [if_neg (fun z => absurd (he.symm.trans z) (by decide))] at h
      rw [if_neg (fun z => absurd (he.symm.trans z) (by decide))] at h
      rw [if_neg (fun z => absurd (he.symm.trans z) (by decide))] at h
      rw [if_pos he] at h
      refine wg_blk 2 (i' := 62) (L' := [some (.inr (.inl (21, 0))), some (.inl a1), some (.inl t2), none]) (st' := [.inl (m5 21 0 8)]) (M' := m5) rfl ?_
      obtain rfl := Option.some.inj h
      exact wg_re rfl trivial ⟨rfl, rfl⟩
  · intro hq
    rw [if_neg (hq ((0 : Int32), 24) (by simp))] at h
    rw [if_neg (hq ((1 : Int32), 26) (by simp))] at h
    rw [if_neg (hq ((2 : Int32), 29) (by simp))] at h
    rw [if_neg (hq ((3 : Int32), 34) (by simp))] at h
    rw [if_neg (hq ((4 : Int32), 37) (by simp))] at h
    rw [if_neg (hq ((5 : Int32), 57) (by simp))] at h
    rw [if_neg (hq ((6 : Int32), 60) (by simp))] at h
    refine wg_blk 1 (i' := 64) (L' := [some (.inr (.inl (21, 0))), some (.inl a1), some (.inl t2), none]) (st' := [.inl (-1000001 : Int32)]) (M' := m5) rfl ?_
    obtain rfl := Option.some.inj h
    exact wg_re rfl trivial ⟨rfl, rfl⟩
set_option maxRecDepth 20000 in
theorem s_C_status (M : wc_M) (z : Int32) (h : f_C_status M = z) : wc_Sd 1 31 [.inr (.inl (0, 0))] M (some z) M := by
  unfold f_C_status at h
  refine wg_Sd (Nat.le_of_ble_eq_true rfl) ?_
  show wg 0 wx0 (some .int) wk_31 0 [some (.inr (.inl (0, 0)))] [] M _
  refine wg_blk 2 (i' := 2) (L' := [some (.inr (.inl (0, 0)))]) (st' := [.inl (M 0 0 9)]) (M' := M) rfl ?_
  subst h
  exact wg_re rfl trivial ⟨rfl, rfl⟩
set_option maxRecDepth 20000 in
theorem s_M_status (M : wc_M) (z : Int32) (h : f_M_status M = z) : wc_Sd 1 156 [.inr (.inl (21, 0))] M (some z) M := by
  unfold f_M_status at h
  refine wg_Sd (Nat.le_of_ble_eq_true rfl) ?_
  show wg 0 wx0 (some .int) wk_156 0 [some (.inr (.inl (21, 0)))] [] M _
  refine wg_blk 2 (i' := 2) (L' := [some (.inr (.inl (21, 0)))]) (st' := [.inl (M 21 0 3)]) (M' := M) rfl ?_
  subst h
  exact wg_re rfl trivial ⟨rfl, rfl⟩
