/-! THE FUNCTIONS are what the code does (written by wip/whole/gen/dec.py) -/
set_option maxRecDepth 20000 in
theorem l_M_readPass_8_ok {K : Option Int32 → wc_M → Prop} : ∀ (n : Nat) (x1 : Int32) (M : wc_M) (o : wc_M), l_M_readPass_8 n x1 M = some o → wg 5 wx0 (some .boolean) wk_105 18 [some (.inr (.inl (21, 0))), none, none] [] o K → wg 5 wx0 (some .boolean) wk_105 8 [some (.inr (.inl (21, 0))), some (.inl x1), none] [] M K := by
  intro n
  induction n with
  | zero =>
    intro x1 M o h hk
    exact nomatch (show (none : Option (wc_M)) = some o from h)
  | succ n ih =>
    intro x1 M o h hk
    unfold l_M_readPass_8 at h
    refine wg_blk 2 (i' := 10) (L' := [some (.inr (.inl (21, 0))), some (.inl x1), none]) (st' := [.inl (57 : Int32), .inl x1]) (M' := M) rfl ?_
    refine wg_br (c := (57 : Int32) ≤ x1) (t := 18) (f := 11) (st' := []) rfl (fun hc => ?_) (fun hc => ?_)
    · rw [if_pos hc] at h
      obtain rfl := Option.some.inj h
      exact wg_wk (wk_s (wk_n (wk_n wk_e))) rfl hk
    · rw [if_neg hc] at h
      refine wg_blk 4 (i' := 15) (L' := [some (.inr (.inl (21, 0))), some (.inl x1), none]) (st' := [.inl (0 : Int32), .inl x1, .inr (.inl (28, 0))]) (M' := M) rfl ?_
      obtain ⟨hp1, h⟩ := wif h
      refine wg_ck (st' := []) (M' := (wc_up M 28 0 (x1).toNatClampNeg (0 : Int32))) rfl (wib_in hp1) ?_
      refine wg_blk 2 (i' := 8) (L' := [some (.inr (.inl (21, 0))), some (.inl (x1 + (1 : Int32))), none]) (st' := []) (M' := (wc_up M 28 0 (x1).toNatClampNeg (0 : Int32))) rfl ?_
      exact wg_wk (wk_s (wk_s (wk_n wk_e))) rfl (ih (x1 + (1 : Int32)) (wc_up M 28 0 (x1).toNatClampNeg (0 : Int32)) _ h hk)
set_option maxRecDepth 20000 in
theorem l_M_readPass_34_ok {K : Option Int32 → wc_M → Prop} : ∀ (n : Nat) (x1 : Int32) (M : wc_M) (o : Int32 × wc_M), l_M_readPass_34 n x1 M = some o → wg 5 wx0 (some .boolean) wk_105 83 [none, some (.inl o.1), none] [] o.2 K → wg 5 wx0 (some .boolean) wk_105 34 [some (.inr (.inl (21, 0))), some (.inl x1), none] [] M K := by
  intro n
  induction n with
  | zero =>
    intro x1 M o h hk
    exact nomatch (show (none : Option (Int32 × wc_M)) = some o from h)
  | succ n ih =>
    intro x1 M o h hk
    unfold l_M_readPass_34 at h
    refine wg_blk 1 (i' := 35) (L' := [some (.inr (.inl (21, 0))), some (.inl x1), none]) (st' := [.inl x1]) (M' := M) rfl ?_
    refine wg_br (c := x1 = (0 : Int32)) (t := 83) (f := 36) (st' := []) rfl (fun hc => ?_) (fun hc => ?_)
    · rw [if_pos hc] at h
      obtain rfl := Option.some.inj h
      exact wg_wk (wk_n (wk_s (wk_n wk_e))) rfl hk
    · rw [if_neg hc] at h
      refine wg_blk 3 (i' := 39) (L' := [some (.inr (.inl (21, 0))), some (.inl x1), none]) (st' := [.inl (3 : Int32), .inl (M 21 0 11)]) (M' := M) rfl ?_
      refine wg_br (c := (M 21 0 11) = (3 : Int32)) (t := 83) (f := 40) (st' := []) rfl (fun hc => ?_) (fun hc => ?_)
      · rw [if_pos hc] at h
        obtain rfl := Option.some.inj h
        exact wg_wk (wk_n (wk_s (wk_n wk_e))) rfl hk
      · rw [if_neg hc] at h
        refine wg_blk 2 (i' := 42) (L' := [some (.inr (.inl (21, 0))), some (.inl x1), none]) (st' := [.inl (119 : Int32), .inr (.inl (21, 0))]) (M' := M) rfl ?_
        refine wg_ca (d' := 1) (y := 100) (as := [.inr (.inl (21, 0)), .inl (119 : Int32)]) (rest := []) (r := some (f_M_isLetter (119 : Int32) M)) (M' := M) rfl (Nat.le_of_ble_eq_true rfl) (s_M_isLetter (119 : Int32) M _ rfl) ?_
        obtain ⟨t10, h15, h⟩ := wbs h
        have k : wg 5 wx0 (some .boolean) wk_105 71 [some (.inr (.inl (21, 0))), none, none] [.inl t10] M K := by
          refine wg_blk 2 (i' := 73) (L' := [some (.inr (.inl (21, 0))), none, some (.inl t10)]) (st' := [.inl t10]) (M' := M) rfl ?_
          refine wg_br (c := t10 ≤ (0 : Int32)) (t := 78) (f := 74) (st' := []) rfl (fun hc => ?_) (fun hc => ?_)
          · rw [if_pos hc] at h
            refine wg_blk 2 (i' := 80) (L' := [some (.inr (.inl (21, 0))), none, some (.inl t10)]) (st' := [.inl (1 : Int32), .inr (.inl (21, 0))]) (M' := M) rfl ?_
            obtain ⟨q12, h11, h⟩ := wbs h
            refine wg_ca (d' := 1) (y := 99) (as := [.inr (.inl (21, 0)), .inl (1 : Int32)]) (rest := []) (r := some q12.1) (M' := q12.2) rfl (Nat.le_of_ble_eq_true rfl) (s_M_faults (1 : Int32) M _ h11) ?_
            refine wg_blk 2 (i' := 34) (L' := [some (.inr (.inl (21, 0))), some (.inl q12.1), some (.inl t10)]) (st' := []) (M' := q12.2) rfl ?_
            exact wg_wk (wk_s (wk_s (wk_n wk_e))) rfl (ih q12.1 q12.2 _ h hk)
          · rw [if_neg hc] at h
            refine wg_blk 2 (i' := 76) (L' := [some (.inr (.inl (21, 0))), none, some (.inl t10)]) (st' := [.inl t10, .inr (.inl (21, 0))]) (M' := M) rfl ?_
            obtain ⟨q14, h13, h⟩ := wbs h
            refine wg_ca (d' := 5) (y := 104) (as := [.inr (.inl (21, 0)), .inl t10]) (rest := []) (r := some q14.1) (M' := q14.2) rfl (Nat.le_of_ble_eq_true rfl) (s_M_readWork t10 M _ h13) ?_
            refine wg_blk 3 (i' := 34) (L' := [some (.inr (.inl (21, 0))), some (.inl q14.1), some (.inl t10)]) (st' := []) (M' := q14.2) rfl ?_
            exact wg_wk (wk_s (wk_s (wk_n wk_e))) rfl (ih q14.1 q14.2 _ h hk)
        clear h
        have h := h15
        clear h15
        refine wg_br (c := (f_M_isLetter (119 : Int32) M) = (0 : Int32)) (t := 46) (f := 44) (st' := []) rfl (fun hc => ?_) (fun hc => ?_)
        · rw [if_pos hc] at h
          refine wg_blk 2 (i' := 48) (L' := [some (.inr (.inl (21, 0))), some (.inl x1), none]) (st' := [.inl (110 : Int32), .inr (.inl (21, 0))]) (M' := M) rfl ?_
          refine wg_ca (d' := 1) (y := 100) (as := [.inr (.inl (21, 0)), .inl (110 : Int32)]) (rest := []) (r := some (f_M_isLetter (110 : Int32) M)) (M' := M) rfl (Nat.le_of_ble_eq_true rfl) (s_M_isLetter (110 : Int32) M _ rfl) ?_
          refine wg_br (c := (f_M_isLetter (110 : Int32) M) = (0 : Int32)) (t := 52) (f := 50) (st' := []) rfl (fun hc => ?_) (fun hc => ?_)
          · rw [if_pos hc] at h
            refine wg_blk 2 (i' := 54) (L' := [some (.inr (.inl (21, 0))), some (.inl x1), none]) (st' := [.inl (115 : Int32), .inr (.inl (21, 0))]) (M' := M) rfl ?_
            refine wg_ca (d' := 1) (y := 100) (as := [.inr (.inl (21, 0)), .inl (115 : Int32)]) (rest := []) (r := some (f_M_isLetter (115 : Int32) M)) (M' := M) rfl (Nat.le_of_ble_eq_true rfl) (s_M_isLetter (115 : Int32) M _ rfl) ?_
            refine wg_br (c := (f_M_isLetter (115 : Int32) M) = (0 : Int32)) (t := 58) (f := 56) (st' := []) rfl (fun hc => ?_) (fun hc => ?_)
            · rw [if_pos hc] at h
              refine wg_blk 2 (i' := 60) (L' := [some (.inr (.inl (21, 0))), some (.inl x1), none]) (st' := [.inl (104 : Int32), .inr (.inl (21, 0))]) (M' := M) rfl ?_
              refine wg_ca (d' := 1) (y := 100) (as := [.inr (.inl (21, 0)), .inl (104 : Int32)]) (rest := []) (r := some (f_M_isLetter (104 : Int32) M)) (M' := M) rfl (Nat.le_of_ble_eq_true rfl) (s_M_isLetter (104 : Int32) M _ rfl) ?_
              refine wg_br (c := (f_M_isLetter (104 : Int32) M) = (0 : Int32)) (t := 64) (f := 62) (st' := []) rfl (fun hc => ?_) (fun hc => ?_)
              · rw [if_pos hc] at h
                refine wg_blk 2 (i' := 66) (L' := [some (.inr (.inl (21, 0))), some (.inl x1), none]) (st' := [.inl (118 : Int32), .inr (.inl (21, 0))]) (M' := M) rfl ?_
                refine wg_ca (d' := 1) (y := 100) (as := [.inr (.inl (21, 0)), .inl (118 : Int32)]) (rest := []) (r := some (f_M_isLetter (118 : Int32) M)) (M' := M) rfl (Nat.le_of_ble_eq_true rfl) (s_M_isLetter (118 : Int32) M _ rfl) ?_
                refine wg_br (c := (f_M_isLetter (118 : Int32) M) = (0 : Int32)) (t := 70) (f := 68) (st' := []) rfl (fun hc => ?_) (fun hc => ?_)
                · rw [if_pos hc] at h
                  refine wg_blk 1 (i' := 71) (L' := [some (.inr (.inl (21, 0))), some (.inl x1), none]) (st' := [.inl (0 : Int32)]) (M' := M) rfl ?_
                  obtain rfl := Option.some.inj h
                  exact wg_wk (wk_s (wk_n (wk_n wk_e))) rfl k
                · rw [if_neg hc] at h
                  refine wg_blk 2 (i' := 71) (L' := [some (.inr (.inl (21, 0))), some (.inl x1), none]) (st' := [.inl (5 : Int32)]) (M' := M) rfl ?_
                  obtain rfl := Option.some.inj h
                  exact wg_wk (wk_s (wk_n (wk_n wk_e))) rfl k
              · rw [if_neg hc] at h
                refine wg_blk 2 (i' := 71) (L' := [some (.inr (.inl (21, 0))), some (.inl x1), none]) (st' := [.inl (4 : Int32)]) (M' := M) rfl ?_
                obtain rfl := Option.some.inj h
                exact wg_wk (wk_s (wk_n (wk_n wk_e))) rfl k
            · rw [if_neg hc] at h
              refine wg_blk 2 (i' := 71) (L' := [some (.inr (.inl (21, 0))), some (.inl x1), none]) (st' := [.inl (3 : Int32)]) (M' := M) rfl ?_
              obtain rfl := Option.some.inj h
              exact wg_wk (wk_s (wk_n (wk_n wk_e))) rfl k
          · rw [if_neg hc] at h
            refine wg_blk 2 (i' := 71) (L' := [some (.inr (.inl (21, 0))), some (.inl x1), none]) (st' := [.inl (2 : Int32)]) (M' := M) rfl ?_
            obtain rfl := Option.some.inj h
            exact wg_wk (wk_s (wk_n (wk_n wk_e))) rfl k
        · rw [if_neg hc] at h
          refine wg_blk 2 (i' := 71) (L' := [some (.inr (.inl (21, 0))), some (.inl x1), none]) (st' := [.inl (1 : Int32)]) (M' := M) rfl ?_
          obtain rfl := Option.some.inj h
          exact wg_wk (wk_s (wk_n (wk_n wk_e))) rfl k
set_option maxRecDepth 20000 in
theorem s_M_readPass (M : wc_M) (z : Int32 × wc_M) (h : f_M_readPass M = some z) : wc_Sd 6 105 [.inr (.inl (21, 0))] M (some z.1) z.2 := by
  unfold f_M_readPass at h
  refine wg_Sd (Nat.le_of_ble_eq_true rfl) ?_
  show wg 5 wx0 (some .boolean) wk_105 0 [some (.inr (.inl (21, 0))), none, none] [] M _
  refine wg_blk 8 (i' := 8) (L' := [some (.inr (.inl (21, 0))), some (.inl (0 : Int32)), none]) (st' := []) (M' := (wc_up (wc_up M 21 0 10 (0 : Int32)) 21 0 16 (0 : Int32))) rfl ?_
  obtain ⟨t2, h3, h⟩ := wbs h
  refine wg_wk (wk_s (wk_s (wk_n wk_e))) rfl (l_M_readPass_8_ok 2000 (0 : Int32) (wc_up (wc_up M 21 0 10 (0 : Int32)) 21 0 16 (0 : Int32)) _ h3 ?_)
  refine wg_blk 1 (i' := 19) (L' := [some (.inr (.inl (21, 0))), none, none]) (st' := [.inr (.inl (21, 0))]) (M' := t2) rfl ?_
  obtain ⟨m5, h4, h⟩ := wbs h
  refine wg_ca (d' := 2) (y := 98) (as := [.inr (.inl (21, 0))]) (rest := []) (r := none) (M' := m5) rfl (Nat.le_of_ble_eq_true rfl) (s_M_nextToken t2 _ h4) ?_
  refine wg_blk 3 (i' := 23) (L' := [some (.inr (.inl (21, 0))), none, none]) (st' := [.inl (1 : Int32), .inl (97 : Int32), .inr (.inl (21, 0))]) (M' := m5) rfl ?_
  obtain ⟨q7, h6, h⟩ := wbs h
  refine wg_ca (d' := 5) (y := 103) (as := [.inr (.inl (21, 0)), .inl (97 : Int32), .inl (1 : Int32)]) (rest := []) (r := some q7.1) (M' := q7.2) rfl (Nat.le_of_ble_eq_true rfl) (s_M_readFour (97 : Int32) (1 : Int32) m5 _ h6) ?_
  refine wg_br (c := q7.1 = (0 : Int32)) (t := 30) (f := 25) (st' := []) rfl (fun hc => ?_) (fun hc => ?_)
  · rw [if_pos hc] at h
    refine wg_blk 1 (i' := 31) (L' := [some (.inr (.inl (21, 0))), none, none]) (st' := [.inl (0 : Int32)]) (M' := q7.2) rfl ?_
    obtain rfl := Option.some.inj h
    exact wg_re rfl (by decide) ⟨rfl, rfl⟩
  · rw [if_neg hc] at h
    refine wg_blk 3 (i' := 28) (L' := [some (.inr (.inl (21, 0))), none, none]) (st' := [.inl (5 : Int32), .inl (98 : Int32), .inr (.inl (21, 0))]) (M' := q7.2) rfl ?_
    obtain ⟨q9, h8, h⟩ := wbs h
    refine wg_ca (d' := 5) (y := 103) (as := [.inr (.inl (21, 0)), .inl (98 : Int32), .inl (5 : Int32)]) (rest := []) (r := some q9.1) (M' := q9.2) rfl (Nat.le_of_ble_eq_true rfl) (s_M_readFour (98 : Int32) (5 : Int32) q7.2 _ h8) ?_
    refine wg_br (c := q9.1 = (0 : Int32)) (t := 30) (f := 32) (st' := []) rfl (fun hc => ?_) (fun hc => ?_)
    · rw [if_pos hc] at h
      refine wg_blk 1 (i' := 31) (L' := [some (.inr (.inl (21, 0))), none, none]) (st' := [.inl (0 : Int32)]) (M' := q9.2) rfl ?_
      obtain rfl := Option.some.inj h
      exact wg_re rfl (by decide) ⟨rfl, rfl⟩
    · rw [if_neg hc] at h
      refine wg_blk 2 (i' := 34) (L' := [some (.inr (.inl (21, 0))), some (.inl (1 : Int32)), none]) (st' := []) (M' := q9.2) rfl ?_
      obtain ⟨t16, h17, h⟩ := wbs h
      refine wg_wk (wk_s (wk_s (wk_n wk_e))) rfl (l_M_readPass_34_ok 2000 (1 : Int32) q9.2 _ h17 ?_)
      refine wg_blk 1 (i' := 84) (L' := [none, some (.inl t16.1), none]) (st' := [.inl t16.1]) (M' := t16.2) rfl ?_
      obtain ⟨hz, h⟩ := wif h
      obtain rfl := Option.some.inj h
      exact wg_re rfl (wzb_in hz) ⟨rfl, rfl⟩
set_option maxRecDepth 20000 in
theorem l_M_pass_19_ok {K : Option Int32 → wc_M → Prop} : ∀ (n : Nat) (x2 : Int32) (M : wc_M) (o : wc_M), l_M_pass_19 n x2 M = some o → wg 6 wx0 (some .int) wk_106 32 [some (.inr (.inl (21, 0))), none, none] [] o K → wg 6 wx0 (some .int) wk_106 19 [some (.inr (.inl (21, 0))), none, some (.inl x2)] [] M K := by
  intro n
  induction n with
  | zero =>
    intro x2 M o h hk
    exact nomatch (show (none : Option (wc_M)) = some o from h)
  | succ n ih =>
    intro x2 M o h hk
    unfold l_M_pass_19 at h
    refine wg_blk 2 (i' := 21) (L' := [some (.inr (.inl (21, 0))), none, some (.inl x2)]) (st' := [.inl (57 : Int32), .inl x2]) (M' := M) rfl ?_
    refine wg_br (c := (57 : Int32) ≤ x2) (t := 32) (f := 22) (st' := []) rfl (fun hc => ?_) (fun hc => ?_)
    · rw [if_pos hc] at h
      obtain rfl := Option.some.inj h
      exact wg_wk (wk_s (wk_n (wk_n wk_e))) rfl hk
    · rw [if_neg hc] at h
      refine wg_blk 6 (i' := 28) (L' := [some (.inr (.inl (21, 0))), none, some (.inl x2)]) (st' := [.inl x2, .inr (.inl (28, 0)), .inl x2, .inr (.inl (25, 0))]) (M' := M) rfl ?_
      obtain ⟨hp3, h⟩ := wif h
      refine wg_ck (st' := [.inl (M 28 0 (x2).toNatClampNeg), .inl x2, .inr (.inl (25, 0))]) (M' := M) rfl (wib_in hp3) ?_
      refine wg_ck (st' := []) (M' := (wc_up M 25 0 (x2).toNatClampNeg (M 28 0 (x2).toNatClampNeg))) rfl (wib_in hp3) ?_
      refine wg_blk 2 (i' := 19) (L' := [some (.inr (.inl (21, 0))), none, some (.inl (x2 + (1 : Int32)))]) (st' := []) (M' := (wc_up M 25 0 (x2).toNatClampNeg (M 28 0 (x2).toNatClampNeg))) rfl ?_
      exact wg_wk (wk_s (wk_n (wk_s wk_e))) rfl (ih (x2 + (1 : Int32)) (wc_up M 25 0 (x2).toNatClampNeg (M 28 0 (x2).toNatClampNeg)) _ h hk)
set_option maxRecDepth 20000 in
theorem s_M_pass (M : wc_M) (z : Int32 × wc_M) (h : f_M_pass M = some z) : wc_Sd 7 106 [.inr (.inl (21, 0))] M (some z.1) z.2 := by
  unfold f_M_pass at h
  refine wg_Sd (Nat.le_of_ble_eq_true rfl) ?_
  show wg 6 wx0 (some .int) wk_106 0 [some (.inr (.inl (21, 0))), none, none] [] M _
  refine wg_blk 1 (i' := 1) (L' := [some (.inr (.inl (21, 0))), none, none]) (st' := [.inr (.inl (21, 0))]) (M' := M) rfl ?_
  obtain ⟨q2, h1, h⟩ := wbs h
  refine wg_ca (d' := 6) (y := 105) (as := [.inr (.inl (21, 0))]) (rest := []) (r := some q2.1) (M' := q2.2) rfl (Nat.le_of_ble_eq_true rfl) (s_M_readPass M _ h1) ?_
  refine wg_blk 5 (i' := 7) (L' := [some (.inr (.inl (21, 0))), some (.inl q2.1), none]) (st' := [.inl q2.1]) (M' := (wc_up q2.2 21 0 8 (0 : Int32))) rfl ?_
  refine wg_br (c := q2.1 = (0 : Int32)) (t := 8) (f := 17) (st' := []) rfl (fun hc => ?_) (fun hc => ?_)
  · rw [if_pos hc] at h
    refine wg_blk 8 (i' := 16) (L' := [some (.inr (.inl (21, 0))), some (.inl q2.1), none]) (st' := [.inl ((-1000100 : Int32) - ((wc_up (wc_up q2.2 21 0 8 (0 : Int32)) 21 0 9 ((wc_up q2.2 21 0 8 (0 : Int32)) 21 0 14)) 21 0 13))]) (M' := (wc_up (wc_up q2.2 21 0 8 (0 : Int32)) 21 0 9 ((wc_up q2.2 21 0 8 (0 : Int32)) 21 0 14))) rfl ?_
    obtain rfl := Option.some.inj h
    exact wg_re rfl trivial ⟨rfl, rfl⟩
  · rw [if_neg hc] at h
    refine wg_blk 2 (i' := 19) (L' := [some (.inr (.inl (21, 0))), some (.inl q2.1), some (.inl (0 : Int32))]) (st' := []) (M' := (wc_up q2.2 21 0 8 (0 : Int32))) rfl ?_
    obtain ⟨t4, h5, h⟩ := wbs h
    refine wg_wk (wk_s (wk_n (wk_s wk_e))) rfl (l_M_pass_19_ok 2000 (0 : Int32) (wc_up q2.2 21 0 8 (0 : Int32)) _ h5 ?_)
    refine wg_blk 2 (i' := 34) (L' := [some (.inr (.inl (21, 0))), none, none]) (st' := [.inl (1 : Int32), .inr (.inl (21, 0))]) (M' := t4) rfl ?_
    refine wg_ck (st' := []) (M' := (wc_up t4 21 0 4 (1 : Int32))) rfl (by decide) ?_
    refine wg_blk 5 (i' := 40) (L' := [some (.inr (.inl (21, 0))), none, none]) (st' := [.inl ((wc_up (wc_up t4 21 0 4 (1 : Int32)) 21 0 22 (0 : Int32)) 21 0 16)]) (M' := (wc_up (wc_up t4 21 0 4 (1 : Int32)) 21 0 22 (0 : Int32))) rfl ?_
    obtain rfl := Option.some.inj h
    exact wg_re rfl trivial ⟨rfl, rfl⟩
set_option maxRecDepth 20000 in
theorem s_C_fault (M : wc_M) (z : Int32) (h : f_C_fault M = z) : wc_Sd 1 6 [.inr (.inl (0, 0))] M (some z) M := by
  unfold f_C_fault at h
  refine wg_Sd (Nat.le_of_ble_eq_true rfl) ?_
  show wg 0 wx0 (some .int) wk_6 0 [some (.inr (.inl (0, 0)))] [] M _
  refine wg_blk 3 (i' := 3) (L' := [some (.inr (.inl (0, 0)))]) (st' := [.inl (M 4 0 2)]) (M' := M) rfl ?_
  subst h
  exact wg_re rfl trivial ⟨rfl, rfl⟩
set_option maxRecDepth 20000 in
theorem s_M_fault (M : wc_M) (z : Int32) (h : f_M_fault M = z) : wc_Sd 1 107 [.inr (.inl (21, 0))] M (some z) M := by
  unfold f_M_fault at h
  refine wg_Sd (Nat.le_of_ble_eq_true rfl) ?_
  show wg 0 wx0 (some .int) wk_107 0 [some (.inr (.inl (21, 0)))] [] M _
  refine wg_blk 2 (i' := 2) (L' := [some (.inr (.inl (21, 0)))]) (st' := [.inl (M 21 0 9)]) (M' := M) rfl ?_
  subst h
  exact wg_re rfl trivial ⟨rfl, rfl⟩
set_option maxRecDepth 20000 in
theorem s_C_isCell (a0 : Int32) (M : wc_M) (z : Int32) (h : f_C_isCell a0 = z) : wc_Sd 2 33 [.inl a0] M (some z) M := by
  unfold f_C_isCell at h
  refine wg_Sd (Nat.le_of_ble_eq_true rfl) ?_
  show wg 1 wx0 (some .boolean) wk_33 0 [some (.inl a0)] [] M _
  refine wg_blk 2 (i' := 2) (L' := [some (.inl a0)]) (st' := [.inl (15 : Int32), .inl a0]) (M' := M) rfl ?_
  refine wg_ca (d' := 1) (y := 32) (as := [.inl a0, .inl (15 : Int32)]) (rest := []) (r := some (f_C_isUpTo a0 (15 : Int32))) (M' := M) rfl (Nat.le_of_ble_eq_true rfl) (s_C_isUpTo a0 (15 : Int32) M _ rfl) ?_
  subst h
  exact wg_re rfl (b_C_isUpTo ..) ⟨rfl, rfl⟩
set_option maxRecDepth 20000 in
theorem s_C_isWorkKind (a0 : Int32) (M : wc_M) (z : Int32) (h : f_C_isWorkKind a0 = z) : wc_Sd 1 35 [.inl a0] M (some z) M := by
  unfold f_C_isWorkKind at h
  refine wg_Sd (Nat.le_of_ble_eq_true rfl) ?_
  show wg 0 wx0 (some .boolean) wk_35 0 [some (.inl a0)] [] M _
  refine wg_blk 2 (i' := 2) (L' := [some (.inl a0)]) (st' := [.inl (1 : Int32), .inl a0]) (M' := M) rfl ?_
  refine wg_br (c := a0 < (1 : Int32)) (t := 8) (f := 3) (st' := []) rfl (fun hc => ?_) (fun hc => ?_)
  · rw [if_pos hc] at h
    refine wg_blk 1 (i' := 9) (L' := [some (.inl a0)]) (st' := [.inl (0 : Int32)]) (M' := M) rfl ?_
    subst h
    exact wg_re rfl (by decide) ⟨rfl, rfl⟩
  · rw [if_neg hc] at h
    refine wg_blk 2 (i' := 5) (L' := [some (.inl a0)]) (st' := [.inl (5 : Int32), .inl a0]) (M' := M) rfl ?_
    refine wg_br (c := (5 : Int32) < a0) (t := 8) (f := 6) (st' := []) rfl (fun hc => ?_) (fun hc => ?_)
    · rw [if_pos hc] at h
      refine wg_blk 1 (i' := 9) (L' := [some (.inl a0)]) (st' := [.inl (0 : Int32)]) (M' := M) rfl ?_
      subst h
      exact wg_re rfl (by decide) ⟨rfl, rfl⟩
    · rw [if_neg hc] at h
      refine wg_blk 2 (i' := 9) (L' := [some (.inl a0)]) (st' := [.inl (1 : Int32)]) (M' := M) rfl ?_
      subst h
      exact wg_re rfl (by decide) ⟨rfl, rfl⟩
set_option maxRecDepth 20000 in
theorem s_H_keep (p1 : Nat) (M : wc_M) (z : wc_M) (h : f_H_keep p1 M = some z) : wc_Sd 2 79 [.inr (.inl (16, 0)), .inr (.inl (6, p1))] M none z := by
  unfold f_H_keep at h
  refine wg_Sd (Nat.le_of_ble_eq_true rfl) ?_
  show wg 1 wx0 none wk_79 0 [some (.inr (.inl (16, 0))), some (.inr (.inl (6, p1)))] [] M _
  refine wg_blk 4 (i' := 4) (L' := [some (.inr (.inl (16, 0))), some (.inr (.inl (6, p1)))]) (st' := [.inl (M 16 0 1), .inr (.inl (17, 0))]) (M' := M) rfl ?_
  obtain ⟨hp1, h⟩ := wif h
  refine wg_ck (st' := [.inr (.inl (6, (2 + ((M 16 0 1)).toNatClampNeg)))]) (M' := M) rfl (wib_in hp1) ?_
  refine wg_blk 1 (i' := 6) (L' := [some (.inr (.inl (16, 0))), some (.inr (.inl (6, p1)))]) (st' := [.inr (.inl (6, p1)), .inr (.inl (6, (2 + ((M 16 0 1)).toNatClampNeg)))]) (M' := M) rfl ?_
  obtain ⟨m3, h2, h⟩ := wbs h
  refine wg_ca (d' := 1) (y := 65) (as := [.inr (.inl (6, (2 + ((M 16 0 1)).toNatClampNeg))), .inr (.inl (6, p1))]) (rest := []) (r := none) (M' := m3) rfl (Nat.le_of_ble_eq_true rfl) (s_P_become (2 + ((M 16 0 1)).toNatClampNeg) p1 M _ h2) ?_
  refine wg_blk 6 (i' := 13) (L' := [some (.inr (.inl (16, 0))), some (.inr (.inl (6, p1)))]) (st' := [.inl (24 : Int32), .inl ((m3 16 0 1) + (1 : Int32)), .inr (.inl (16, 0))]) (M' := m3) rfl ?_
  refine wg_ck (st' := [.inl (wc_rem ((m3 16 0 1) + (1 : Int32)) (24 : Int32)), .inr (.inl (16, 0))]) (M' := m3) rfl (by decide) ?_
  refine wg_blk 9 (i' := 23) (L' := [some (.inr (.inl (16, 0))), some (.inr (.inl (6, p1)))]) (st' := []) (M' := (wc_up (wc_up m3 16 0 1 (wc_rem ((m3 16 0 1) + (1 : Int32)) (24 : Int32))) 16 0 2 (if (24 : Int32) < (((wc_up m3 16 0 1 (wc_rem ((m3 16 0 1) + (1 : Int32)) (24 : Int32))) 16 0 2) + (1 : Int32)) then (24 : Int32) else (((wc_up m3 16 0 1 (wc_rem ((m3 16 0 1) + (1 : Int32)) (24 : Int32))) 16 0 2) + (1 : Int32))))) rfl ?_
  obtain rfl := Option.some.inj h
  exact wg_re rfl trivial ⟨rfl, rfl⟩
set_option maxRecDepth 20000 in
theorem s_C_setUp (a1 : Int32) (a2 : Int32) (a3 : Int32) (M : wc_M) (z : Int32 × wc_M) (h : f_C_setUp a1 a2 a3 M = some z) : wc_Sd 3 7 [.inr (.inl (0, 0)), .inl a1, .inl a2, .inl a3] M (some z.1) z.2 := by
  unfold f_C_setUp at h
  refine wg_Sd (Nat.le_of_ble_eq_true rfl) ?_
  show wg 2 wx0 (some .int) wk_7 0 [some (.inr (.inl (0, 0))), some (.inl a1), some (.inl a2), some (.inl a3)] [] M _
  refine wg_blk 3 (i' := 3) (L' := [some (.inr (.inl (0, 0))), some (.inl a1), some (.inl a2), some (.inl a3)]) (st' := [.inl (M 6 0 5)]) (M' := M) rfl ?_
  refine wg_br (c := (M 6 0 5) = (0 : Int32)) (t := 4) (f := 6) (st' := []) rfl (fun hc => ?_) (fun hc => ?_)
  · rw [if_pos hc] at h
    refine wg_blk 1 (i' := 5) (L' := [some (.inr (.inl (0, 0))), some (.inl a1), some (.inl a2), some (.inl a3)]) (st' := [.inl (-1000002 : Int32)]) (M' := M) rfl ?_
    obtain rfl := Option.some.inj h
    exact wg_re rfl trivial ⟨rfl, rfl⟩
  · rw [if_neg hc] at h
    refine wg_blk 1 (i' := 7) (L' := [some (.inr (.inl (0, 0))), some (.inl a1), some (.inl a2), some (.inl a3)]) (st' := [.inl a1]) (M' := M) rfl ?_
    refine wg_ca (d' := 2) (y := 33) (as := [.inl a1]) (rest := []) (r := some (f_C_isCell a1)) (M' := M) rfl (Nat.le_of_ble_eq_true rfl) (s_C_isCell a1 M _ rfl) ?_
    refine wg_br (c := (f_C_isCell a1) = (0 : Int32)) (t := 16) (f := 9) (st' := []) rfl (fun hc => ?_) (fun hc => ?_)
    · rw [if_pos hc] at h
      refine wg_blk 1 (i' := 17) (L' := [some (.inr (.inl (0, 0))), some (.inl a1), some (.inl a2), some (.inl a3)]) (st' := [.inl (-1000001 : Int32)]) (M' := M) rfl ?_
      obtain rfl := Option.some.inj h
      exact wg_re rfl trivial ⟨rfl, rfl⟩
    · rw [if_neg hc] at h
      refine wg_blk 1 (i' := 10) (L' := [some (.inr (.inl (0, 0))), some (.inl a1), some (.inl a2), some (.inl a3)]) (st' := [.inl a2]) (M' := M) rfl ?_
      refine wg_ca (d' := 1) (y := 35) (as := [.inl a2]) (rest := []) (r := some (f_C_isWorkKind a2)) (M' := M) rfl (Nat.le_of_ble_eq_true rfl) (s_C_isWorkKind a2 M _ rfl) ?_
      refine wg_br (c := (f_C_isWorkKind a2) = (0 : Int32)) (t := 16) (f := 12) (st' := []) rfl (fun hc => ?_) (fun hc => ?_)
      · rw [if_pos hc] at h
        refine wg_blk 1 (i' := 17) (L' := [some (.inr (.inl (0, 0))), some (.inl a1), some (.inl a2), some (.inl a3)]) (st' := [.inl (-1000001 : Int32)]) (M' := M) rfl ?_
        obtain rfl := Option.some.inj h
        exact wg_re rfl trivial ⟨rfl, rfl⟩
      · rw [if_neg hc] at h
        refine wg_blk 2 (i' := 14) (L' := [some (.inr (.inl (0, 0))), some (.inl a1), some (.inl a2), some (.inl a3)]) (st' := [.inl (99 : Int32), .inl a3]) (M' := M) rfl ?_
        refine wg_ca (d' := 1) (y := 32) (as := [.inl a3, .inl (99 : Int32)]) (rest := []) (r := some (f_C_isUpTo a3 (99 : Int32))) (M' := M) rfl (Nat.le_of_ble_eq_true rfl) (s_C_isUpTo a3 (99 : Int32) M _ rfl) ?_
        refine wg_br (c := (f_C_isUpTo a3 (99 : Int32)) = (0 : Int32)) (t := 16) (f := 18) (st' := []) rfl (fun hc => ?_) (fun hc => ?_)
        · rw [if_pos hc] at h
          refine wg_blk 1 (i' := 17) (L' := [some (.inr (.inl (0, 0))), some (.inl a1), some (.inl a2), some (.inl a3)]) (st' := [.inl (-1000001 : Int32)]) (M' := M) rfl ?_
          obtain rfl := Option.some.inj h
          exact wg_re rfl trivial ⟨rfl, rfl⟩
        · rw [if_neg hc] at h
          refine wg_blk 3 (i' := 21) (L' := [some (.inr (.inl (0, 0))), some (.inl a1), some (.inl a2), some (.inl a3)]) (st' := [.inl a1, .inr (.inl (6, 0))]) (M' := M) rfl ?_
          obtain ⟨v2, h1, h⟩ := wbs h
          refine wg_ca (d' := 1) (y := 69) (as := [.inr (.inl (6, 0)), .inl a1]) (rest := []) (r := some v2) (M' := M) rfl (Nat.le_of_ble_eq_true rfl) (s_P_hasWork 0 a1 M _ h1) ?_
          refine wg_br (c := v2 = (0 : Int32)) (t := 25) (f := 23) (st' := []) rfl (fun hc => ?_) (fun hc => ?_)
          · rw [if_pos hc] at h
            refine wg_blk 2 (i' := 27) (L' := [some (.inr (.inl (0, 0))), some (.inl a1), some (.inl a2), some (.inl a3)]) (st' := [.inr (.inl (6, 0))]) (M' := M) rfl ?_
            obtain ⟨v4, h3, h⟩ := wbs h
            refine wg_ca (d' := 2) (y := 70) (as := [.inr (.inl (6, 0))]) (rest := []) (r := some v4) (M' := M) rfl (Nat.le_of_ble_eq_true rfl) (s_P_works 0 M _ h3) ?_
            refine wg_blk 1 (i' := 29) (L' := [some (.inr (.inl (0, 0))), some (.inl a1), some (.inl a2), some (.inl a3)]) (st' := [.inl (6 : Int32), .inl v4]) (M' := M) rfl ?_
            refine wg_br (c := v4 < (6 : Int32)) (t := 32) (f := 30) (st' := []) rfl (fun hc => ?_) (fun hc => ?_)
            · rw [if_pos hc] at h
              refine wg_blk 4 (i' := 36) (L' := [some (.inr (.inl (0, 0))), some (.inl a1), some (.inl a2), some (.inl a3)]) (st' := [.inr (.inl (6, 0)), .inr (.inl (16, 0))]) (M' := M) rfl ?_
              obtain ⟨m6, h5, h⟩ := wbs h
              refine wg_ca (d' := 2) (y := 79) (as := [.inr (.inl (16, 0)), .inr (.inl (6, 0))]) (rest := []) (r := none) (M' := m6) rfl (Nat.le_of_ble_eq_true rfl) (s_H_keep 0 M _ h5) ?_
              refine wg_blk 5 (i' := 42) (L' := [some (.inr (.inl (0, 0))), some (.inl a1), some (.inl a2), some (.inl a3)]) (st' := [.inl a3, .inl a2, .inl a1, .inr (.inl (6, 0))]) (M' := m6) rfl ?_
              obtain ⟨m8, h7, h⟩ := wbs h
              refine wg_ca (d' := 1) (y := 67) (as := [.inr (.inl (6, 0)), .inl a1, .inl a2, .inl a3]) (rest := []) (r := none) (M' := m8) rfl (Nat.le_of_ble_eq_true rfl) (s_P_put 0 a1 a2 a3 m6 _ h7) ?_
              refine wg_blk 2 (i' := 45) (L' := [some (.inr (.inl (0, 0))), some (.inl a1), some (.inl a2), some (.inl a3)]) (st' := [.inr (.inl (6, 0))]) (M' := m8) rfl ?_
              obtain ⟨v10, h9, h⟩ := wbs h
              refine wg_ca (d' := 2) (y := 70) (as := [.inr (.inl (6, 0))]) (rest := []) (r := some v10) (M' := m8) rfl (Nat.le_of_ble_eq_true rfl) (s_P_works 0 m8 _ h9) ?_
              obtain rfl := Option.some.inj h
              exact wg_re rfl trivial ⟨rfl, rfl⟩
            · rw [if_neg hc] at h
              refine wg_blk 1 (i' := 31) (L' := [some (.inr (.inl (0, 0))), some (.inl a1), some (.inl a2), some (.inl a3)]) (st' := [.inl (-1000003 : Int32)]) (M' := M) rfl ?_
              obtain rfl := Option.some.inj h
              exact wg_re rfl trivial ⟨rfl, rfl⟩
          · rw [if_neg hc] at h
            refine wg_blk 1 (i' := 24) (L' := [some (.inr (.inl (0, 0))), some (.inl a1), some (.inl a2), some (.inl a3)]) (st' := [.inl (-1000002 : Int32)]) (M' := M) rfl ?_
            obtain rfl := Option.some.inj h
            exact wg_re rfl trivial ⟨rfl, rfl⟩
set_option maxRecDepth 20000 in
theorem s_M_isCell (a0 : Int32) (M : wc_M) (z : Int32) (h : f_M_isCell a0 = z) : wc_Sd 2 108 [.inl a0] M (some z) M := by
  unfold f_M_isCell at h
  refine wg_Sd (Nat.le_of_ble_eq_true rfl) ?_
  show wg 1 wx0 (some .boolean) wk_108 0 [some (.inl a0)] [] M _
  refine wg_blk 4 (i' := 4) (L' := [some (.inl a0)]) (st' := [.inr (.inr (15 : Int64)), .inr (.inr (0 : Int64)), .inr (.inr (a0).toInt64)]) (M' := M) rfl ?_
  refine wg_ca (d' := 1) (y := 87) (as := [.inr (.inr (a0).toInt64), .inr (.inr (0 : Int64)), .inr (.inr (15 : Int64))]) (rest := []) (r := some (f_M_in (a0).toInt64 (0 : Int64) (15 : Int64))) (M' := M) rfl (Nat.le_of_ble_eq_true rfl) (s_M_in (a0).toInt64 (0 : Int64) (15 : Int64) M _ rfl) ?_
  subst h
  exact wg_re rfl (b_M_in ..) ⟨rfl, rfl⟩
set_option maxRecDepth 20000 in
theorem s_M_isWork (a1 : Int32) (M : wc_M) (z : Int32) (h : f_M_isWork a1 M = some z) : wc_Sd 1 110 [.inr (.inl (21, 0)), .inl a1] M (some z) M := by
  unfold f_M_isWork at h
  refine wg_Sd (Nat.le_of_ble_eq_true rfl) ?_
  show wg 0 wx0 (some .boolean) wk_110 0 [some (.inr (.inl (21, 0))), some (.inl a1)] [] M _
  refine wg_blk 5 (i' := 5) (L' := [some (.inr (.inl (21, 0))), some (.inl a1)]) (st' := [.inl ((9 : Int32) + a1), .inr (.inl (25, 0))]) (M' := M) rfl ?_
  obtain ⟨hp1, h⟩ := wif h
  refine wg_ck (st' := [.inl (M 25 0 (((9 : Int32) + a1)).toNatClampNeg)]) (M' := M) rfl (wib_in hp1) ?_
  refine wg_br (c := (M 25 0 (((9 : Int32) + a1)).toNatClampNeg) ≤ (0 : Int32)) (t := 9) (f := 7) (st' := []) rfl (fun hc => ?_) (fun hc => ?_)
  · rw [if_pos hc] at h
    refine wg_blk 1 (i' := 10) (L' := [some (.inr (.inl (21, 0))), some (.inl a1)]) (st' := [.inl (0 : Int32)]) (M' := M) rfl ?_
    obtain rfl := Option.some.inj h
    exact wg_re rfl (by decide) ⟨rfl, rfl⟩
  · rw [if_neg hc] at h
    refine wg_blk 2 (i' := 10) (L' := [some (.inr (.inl (21, 0))), some (.inl a1)]) (st' := [.inl (1 : Int32)]) (M' := M) rfl ?_
    obtain rfl := Option.some.inj h
    exact wg_re rfl (by decide) ⟨rfl, rfl⟩
set_option maxRecDepth 20000 in
theorem l_M_workMany_4_ok (M : wc_M) {K : Option Int32 → wc_M → Prop} : ∀ (n : Nat) (x1 : Int32) (x2 : Int32) (o : Int32), l_M_workMany_4 M n x1 x2 = some o → wg 1 wx0 (some .int) wk_116 19 [none, some (.inl o), none] [] M K → wg 1 wx0 (some .int) wk_116 4 [some (.inr (.inl (21, 0))), some (.inl x1), some (.inl x2)] [] M K := by
  intro n
  induction n with
  | zero =>
    intro x1 x2 o h hk
    exact nomatch (show (none : Option (Int32)) = some o from h)
  | succ n ih =>
    intro x1 x2 o h hk
    unfold l_M_workMany_4 at h
    refine wg_blk 2 (i' := 6) (L' := [some (.inr (.inl (21, 0))), some (.inl x1), some (.inl x2)]) (st' := [.inl (16 : Int32), .inl x2]) (M' := M) rfl ?_
    refine wg_br (c := (16 : Int32) ≤ x2) (t := 19) (f := 7) (st' := []) rfl (fun hc => ?_) (fun hc => ?_)
    · rw [if_pos hc] at h
      obtain rfl := Option.some.inj h
      exact wg_wk (wk_n (wk_s (wk_n wk_e))) rfl hk
    · rw [if_neg hc] at h
      refine wg_blk 3 (i' := 10) (L' := [some (.inr (.inl (21, 0))), some (.inl x1), some (.inl x2)]) (st' := [.inl x2, .inr (.inl (21, 0)), .inl x1]) (M' := M) rfl ?_
      obtain ⟨v2, h1, h⟩ := wbs h
      refine wg_ca (d' := 1) (y := 110) (as := [.inr (.inl (21, 0)), .inl x2]) (rest := [.inl x1]) (r := some v2) (M' := M) rfl (Nat.le_of_ble_eq_true rfl) (s_M_isWork x2 M _ h1) ?_
      refine wg_br (c := v2 = (0 : Int32)) (t := 14) (f := 12) (st' := [.inl x1]) rfl (fun hc => ?_) (fun hc => ?_)
      · rw [if_pos hc] at h
        refine wg_blk 5 (i' := 4) (L' := [some (.inr (.inl (21, 0))), some (.inl (x1 + (0 : Int32))), some (.inl (x2 + (1 : Int32)))]) (st' := []) (M' := M) rfl ?_
        exact wg_wk (wk_s (wk_s (wk_s wk_e))) rfl (ih (x1 + (0 : Int32)) (x2 + (1 : Int32)) _ h hk)
      · rw [if_neg hc] at h
        refine wg_blk 6 (i' := 4) (L' := [some (.inr (.inl (21, 0))), some (.inl (x1 + (1 : Int32))), some (.inl (x2 + (1 : Int32)))]) (st' := []) (M' := M) rfl ?_
        exact wg_wk (wk_s (wk_s (wk_s wk_e))) rfl (ih (x1 + (1 : Int32)) (x2 + (1 : Int32)) _ h hk)
set_option maxRecDepth 20000 in
theorem s_M_workMany (M : wc_M) (z : Int32) (h : f_M_workMany M = some z) : wc_Sd 2 116 [.inr (.inl (21, 0))] M (some z) M := by
  unfold f_M_workMany at h
  refine wg_Sd (Nat.le_of_ble_eq_true rfl) ?_
  show wg 1 wx0 (some .int) wk_116 0 [some (.inr (.inl (21, 0))), none, none] [] M _
  refine wg_blk 4 (i' := 4) (L' := [some (.inr (.inl (21, 0))), some (.inl (0 : Int32)), some (.inl (0 : Int32))]) (st' := []) (M' := M) rfl ?_
  obtain ⟨t3, h4, h⟩ := wbs h
  refine wg_wk (wk_s (wk_s (wk_s wk_e))) rfl (l_M_workMany_4_ok M 2000 (0 : Int32) (0 : Int32) _ h4 ?_)
  refine wg_blk 1 (i' := 20) (L' := [none, some (.inl t3), none]) (st' := [.inl t3]) (M' := M) rfl ?_
  obtain rfl := Option.some.inj h
  exact wg_re rfl trivial ⟨rfl, rfl⟩
set_option maxRecDepth 20000 in
theorem l_M_note_6_ok {K : Option Int32 → wc_M → Prop} : ∀ (n : Nat) (x1 : Int32) (M : wc_M) (o : wc_M), l_M_note_6 n x1 M = some o → wg 0 wx0 none wk_117 21 [some (.inr (.inl (21, 0))), none] [] o K → wg 0 wx0 none wk_117 6 [some (.inr (.inl (21, 0))), some (.inl x1)] [] M K := by
  intro n
  induction n with
  | zero =>
    intro x1 M o h hk
    exact nomatch (show (none : Option (wc_M)) = some o from h)
  | succ n ih =>
    intro x1 M o h hk
    unfold l_M_note_6 at h
    refine wg_blk 2 (i' := 8) (L' := [some (.inr (.inl (21, 0))), some (.inl x1)]) (st' := [.inl (1311 : Int32), .inl x1]) (M' := M) rfl ?_
    refine wg_br (c := (1311 : Int32) ≤ x1) (t := 21) (f := 9) (st' := []) rfl (fun hc => ?_) (fun hc => ?_)
    · rw [if_pos hc] at h
      obtain rfl := Option.some.inj h
      exact wg_wk (wk_s (wk_n wk_e)) rfl hk
    · rw [if_neg hc] at h
      refine wg_blk 8 (i' := 17) (L' := [some (.inr (.inl (21, 0))), some (.inl x1)]) (st' := [.inl (x1 + (57 : Int32)), .inr (.inl (30, 0)), .inl x1, .inr (.inl (30, 0))]) (M' := M) rfl ?_
      obtain ⟨hp1, h⟩ := wif h
      refine wg_ck (st' := [.inl (M 30 0 ((x1 + (57 : Int32))).toNatClampNeg), .inl x1, .inr (.inl (30, 0))]) (M' := M) rfl (wib_in hp1) ?_
      obtain ⟨hp2, h⟩ := wif h
      refine wg_ck (st' := []) (M' := (wc_up M 30 0 (x1).toNatClampNeg (M 30 0 ((x1 + (57 : Int32))).toNatClampNeg))) rfl (wib_in hp2) ?_
      refine wg_blk 2 (i' := 6) (L' := [some (.inr (.inl (21, 0))), some (.inl (x1 + (1 : Int32)))]) (st' := []) (M' := (wc_up M 30 0 (x1).toNatClampNeg (M 30 0 ((x1 + (57 : Int32))).toNatClampNeg))) rfl ?_
      exact wg_wk (wk_s (wk_s wk_e)) rfl (ih (x1 + (1 : Int32)) (wc_up M 30 0 (x1).toNatClampNeg (M 30 0 ((x1 + (57 : Int32))).toNatClampNeg)) _ h hk)
set_option maxRecDepth 20000 in
theorem l_M_note_29_ok {K : Option Int32 → wc_M → Prop} : ∀ (n : Nat) (x1 : Int32) (M : wc_M) (o : wc_M), l_M_note_29 n x1 M = some o → wg 0 wx0 none wk_117 47 [some (.inr (.inl (21, 0))), none] [] o K → wg 0 wx0 none wk_117 29 [some (.inr (.inl (21, 0))), some (.inl x1)] [] M K := by
  intro n
  induction n with
  | zero =>
    intro x1 M o h hk
    exact nomatch (show (none : Option (wc_M)) = some o from h)
  | succ n ih =>
    intro x1 M o h hk
    unfold l_M_note_29 at h
    refine wg_blk 2 (i' := 31) (L' := [some (.inr (.inl (21, 0))), some (.inl x1)]) (st' := [.inl (57 : Int32), .inl x1]) (M' := M) rfl ?_
    refine wg_br (c := (57 : Int32) ≤ x1) (t := 47) (f := 32) (st' := []) rfl (fun hc => ?_) (fun hc => ?_)
    · rw [if_pos hc] at h
      obtain rfl := Option.some.inj h
      exact wg_wk (wk_s (wk_n wk_e)) rfl hk
    · rw [if_neg hc] at h
      refine wg_blk 11 (i' := 43) (L' := [some (.inr (.inl (21, 0))), some (.inl x1)]) (st' := [.inl x1, .inr (.inl (25, 0)), .inl (((57 : Int32) * (M 21 0 22)) + x1), .inr (.inl (30, 0))]) (M' := M) rfl ?_
      obtain ⟨hp4, h⟩ := wif h
      refine wg_ck (st' := [.inl (M 25 0 (x1).toNatClampNeg), .inl (((57 : Int32) * (M 21 0 22)) + x1), .inr (.inl (30, 0))]) (M' := M) rfl (wib_in hp4) ?_
      obtain ⟨hp5, h⟩ := wif h
      refine wg_ck (st' := []) (M' := (wc_up M 30 0 ((((57 : Int32) * (M 21 0 22)) + x1)).toNatClampNeg (M 25 0 (x1).toNatClampNeg))) rfl (wib_in hp5) ?_
      refine wg_blk 2 (i' := 29) (L' := [some (.inr (.inl (21, 0))), some (.inl (x1 + (1 : Int32)))]) (st' := []) (M' := (wc_up M 30 0 ((((57 : Int32) * (M 21 0 22)) + x1)).toNatClampNeg (M 25 0 (x1).toNatClampNeg))) rfl ?_
      exact wg_wk (wk_s (wk_s wk_e)) rfl (ih (x1 + (1 : Int32)) (wc_up M 30 0 ((((57 : Int32) * (M 21 0 22)) + x1)).toNatClampNeg (M 25 0 (x1).toNatClampNeg)) _ h hk)
set_option maxRecDepth 20000 in
theorem s_M_note (M : wc_M) (z : wc_M) (h : f_M_note M = some z) : wc_Sd 1 117 [.inr (.inl (21, 0))] M none z := by
  unfold f_M_note at h
  refine wg_Sd (Nat.le_of_ble_eq_true rfl) ?_
  show wg 0 wx0 none wk_117 0 [some (.inr (.inl (21, 0))), none] [] M _
  refine wg_blk 3 (i' := 3) (L' := [some (.inr (.inl (21, 0))), none]) (st' := [.inl (24 : Int32), .inl (M 21 0 22)]) (M' := M) rfl ?_
  obtain ⟨t1, h8, h⟩ := wbs h
  have k : wg 0 wx0 none wk_117 27 [some (.inr (.inl (21, 0))), none] [] t1 (fun r2 M2 => r2 = none ∧ M2 = z) := by
    refine wg_blk 2 (i' := 29) (L' := [some (.inr (.inl (21, 0))), some (.inl (0 : Int32))]) (st' := []) (M' := t1) rfl ?_
    obtain ⟨t6, h7, h⟩ := wbs h
    refine wg_wk (wk_s (wk_s wk_e)) rfl (l_M_note_29_ok 2000 (0 : Int32) t1 _ h7 ?_)
    refine wg_blk 6 (i' := 53) (L' := [some (.inr (.inl (21, 0))), none]) (st' := []) (M' := (wc_up t6 21 0 22 ((t6 21 0 22) + (1 : Int32)))) rfl ?_
    obtain rfl := Option.some.inj h
    exact wg_re rfl trivial ⟨rfl, rfl⟩
  clear h
  have h := h8
  clear h8
  refine wg_br (c := (M 21 0 22) = (24 : Int32)) (t := 4) (f := 27) (st' := []) rfl (fun hc => ?_) (fun hc => ?_)
  · rw [if_pos hc] at h
    refine wg_blk 2 (i' := 6) (L' := [some (.inr (.inl (21, 0))), some (.inl (0 : Int32))]) (st' := []) (M' := M) rfl ?_
    obtain ⟨t2, h3, h⟩ := wbs h
    refine wg_wk (wk_s (wk_s wk_e)) rfl (l_M_note_6_ok 2000 (0 : Int32) M _ h3 ?_)
    refine wg_blk 6 (i' := 27) (L' := [some (.inr (.inl (21, 0))), none]) (st' := []) (M' := (wc_up t2 21 0 22 ((t2 21 0 22) - (1 : Int32)))) rfl ?_
    obtain rfl := Option.some.inj h
    exact wg_wk (wk_s (wk_n wk_e)) rfl k
  · rw [if_neg hc] at h
    obtain rfl := Option.some.inj h
    exact wg_wk (wk_s (wk_n wk_e)) rfl k
set_option maxRecDepth 20000 in
theorem s_M_setUp (a1 : Int32) (a2 : Int32) (a3 : Int32) (M : wc_M) (z : Int32 × wc_M) (h : f_M_setUp a1 a2 a3 M = some z) : wc_Sd 3 118 [.inr (.inl (21, 0)), .inl a1, .inl a2, .inl a3] M (some z.1) z.2 := by
  unfold f_M_setUp at h
  refine wg_Sd (Nat.le_of_ble_eq_true rfl) ?_
  show wg 2 wx0 (some .int) wk_118 0 [some (.inr (.inl (21, 0))), some (.inl a1), some (.inl a2), some (.inl a3)] [] M _
  refine wg_blk 2 (i' := 2) (L' := [some (.inr (.inl (21, 0))), some (.inl a1), some (.inl a2), some (.inl a3)]) (st' := [.inl (M 21 0 4)]) (M' := M) rfl ?_
  refine wg_br (c := (M 21 0 4) = (0 : Int32)) (t := 3) (f := 5) (st' := []) rfl (fun hc => ?_) (fun hc => ?_)
  · rw [if_pos hc] at h
    refine wg_blk 1 (i' := 4) (L' := [some (.inr (.inl (21, 0))), some (.inl a1), some (.inl a2), some (.inl a3)]) (st' := [.inl (-1000002 : Int32)]) (M' := M) rfl ?_
    obtain rfl := Option.some.inj h
    exact wg_re rfl trivial ⟨rfl, rfl⟩
  · rw [if_neg hc] at h
    refine wg_blk 1 (i' := 6) (L' := [some (.inr (.inl (21, 0))), some (.inl a1), some (.inl a2), some (.inl a3)]) (st' := [.inl a1]) (M' := M) rfl ?_
    refine wg_ca (d' := 2) (y := 108) (as := [.inl a1]) (rest := []) (r := some (f_M_isCell a1)) (M' := M) rfl (Nat.le_of_ble_eq_true rfl) (s_M_isCell a1 M _ rfl) ?_
    refine wg_br (c := (f_M_isCell a1) = (0 : Int32)) (t := 20) (f := 8) (st' := []) rfl (fun hc => ?_) (fun hc => ?_)
    · rw [if_pos hc] at h
      refine wg_blk 1 (i' := 21) (L' := [some (.inr (.inl (21, 0))), some (.inl a1), some (.inl a2), some (.inl a3)]) (st' := [.inl (-1000001 : Int32)]) (M' := M) rfl ?_
      obtain rfl := Option.some.inj h
      exact wg_re rfl trivial ⟨rfl, rfl⟩
    · rw [if_neg hc] at h
      refine wg_blk 4 (i' := 12) (L' := [some (.inr (.inl (21, 0))), some (.inl a1), some (.inl a2), some (.inl a3)]) (st' := [.inr (.inr (5 : Int64)), .inr (.inr (1 : Int64)), .inr (.inr (a2).toInt64)]) (M' := M) rfl ?_
      refine wg_ca (d' := 1) (y := 87) (as := [.inr (.inr (a2).toInt64), .inr (.inr (1 : Int64)), .inr (.inr (5 : Int64))]) (rest := []) (r := some (f_M_in (a2).toInt64 (1 : Int64) (5 : Int64))) (M' := M) rfl (Nat.le_of_ble_eq_true rfl) (s_M_in (a2).toInt64 (1 : Int64) (5 : Int64) M _ rfl) ?_
      refine wg_br (c := (f_M_in (a2).toInt64 (1 : Int64) (5 : Int64)) = (0 : Int32)) (t := 20) (f := 14) (st' := []) rfl (fun hc => ?_) (fun hc => ?_)
      · rw [if_pos hc] at h
        refine wg_blk 1 (i' := 21) (L' := [some (.inr (.inl (21, 0))), some (.inl a1), some (.inl a2), some (.inl a3)]) (st' := [.inl (-1000001 : Int32)]) (M' := M) rfl ?_
        obtain rfl := Option.some.inj h
        exact wg_re rfl trivial ⟨rfl, rfl⟩
      · rw [if_neg hc] at h
        refine wg_blk 4 (i' := 18) (L' := [some (.inr (.inl (21, 0))), some (.inl a1), some (.inl a2), some (.inl a3)]) (st' := [.inr (.inr (99 : Int64)), .inr (.inr (0 : Int64)), .inr (.inr (a3).toInt64)]) (M' := M) rfl ?_
        refine wg_ca (d' := 1) (y := 87) (as := [.inr (.inr (a3).toInt64), .inr (.inr (0 : Int64)), .inr (.inr (99 : Int64))]) (rest := []) (r := some (f_M_in (a3).toInt64 (0 : Int64) (99 : Int64))) (M' := M) rfl (Nat.le_of_ble_eq_true rfl) (s_M_in (a3).toInt64 (0 : Int64) (99 : Int64) M _ rfl) ?_
        refine wg_br (c := (f_M_in (a3).toInt64 (0 : Int64) (99 : Int64)) = (0 : Int32)) (t := 20) (f := 22) (st' := []) rfl (fun hc => ?_) (fun hc => ?_)
        · rw [if_pos hc] at h
          refine wg_blk 1 (i' := 21) (L' := [some (.inr (.inl (21, 0))), some (.inl a1), some (.inl a2), some (.inl a3)]) (st' := [.inl (-1000001 : Int32)]) (M' := M) rfl ?_
          obtain rfl := Option.some.inj h
          exact wg_re rfl trivial ⟨rfl, rfl⟩
        · rw [if_neg hc] at h
          refine wg_blk 2 (i' := 24) (L' := [some (.inr (.inl (21, 0))), some (.inl a1), some (.inl a2), some (.inl a3)]) (st' := [.inl a1, .inr (.inl (21, 0))]) (M' := M) rfl ?_
          obtain ⟨v2, h1, h⟩ := wbs h
          refine wg_ca (d' := 1) (y := 110) (as := [.inr (.inl (21, 0)), .inl a1]) (rest := []) (r := some v2) (M' := M) rfl (Nat.le_of_ble_eq_true rfl) (s_M_isWork a1 M _ h1) ?_
          refine wg_br (c := v2 = (0 : Int32)) (t := 28) (f := 26) (st' := []) rfl (fun hc => ?_) (fun hc => ?_)
          · rw [if_pos hc] at h
            refine wg_blk 1 (i' := 29) (L' := [some (.inr (.inl (21, 0))), some (.inl a1), some (.inl a2), some (.inl a3)]) (st' := [.inr (.inl (21, 0))]) (M' := M) rfl ?_
            obtain ⟨v4, h3, h⟩ := wbs h
            refine wg_ca (d' := 2) (y := 116) (as := [.inr (.inl (21, 0))]) (rest := []) (r := some v4) (M' := M) rfl (Nat.le_of_ble_eq_true rfl) (s_M_workMany M _ h3) ?_
            refine wg_blk 1 (i' := 31) (L' := [some (.inr (.inl (21, 0))), some (.inl a1), some (.inl a2), some (.inl a3)]) (st' := [.inl (6 : Int32), .inl v4]) (M' := M) rfl ?_
            refine wg_br (c := v4 = (6 : Int32)) (t := 32) (f := 34) (st' := []) rfl (fun hc => ?_) (fun hc => ?_)
            · rw [if_pos hc] at h
              refine wg_blk 1 (i' := 33) (L' := [some (.inr (.inl (21, 0))), some (.inl a1), some (.inl a2), some (.inl a3)]) (st' := [.inl (-1000003 : Int32)]) (M' := M) rfl ?_
              obtain rfl := Option.some.inj h
              exact wg_re rfl trivial ⟨rfl, rfl⟩
            · rw [if_neg hc] at h
              refine wg_blk 1 (i' := 35) (L' := [some (.inr (.inl (21, 0))), some (.inl a1), some (.inl a2), some (.inl a3)]) (st' := [.inr (.inl (21, 0))]) (M' := M) rfl ?_
              obtain ⟨m6, h5, h⟩ := wbs h
              refine wg_ca (d' := 1) (y := 117) (as := [.inr (.inl (21, 0))]) (rest := []) (r := none) (M' := m6) rfl (Nat.le_of_ble_eq_true rfl) (s_M_note M _ h5) ?_
              refine wg_blk 6 (i' := 42) (L' := [some (.inr (.inl (21, 0))), some (.inl a1), some (.inl a2), some (.inl a3)]) (st' := [.inl a2, .inl ((9 : Int32) + a1), .inr (.inl (25, 0))]) (M' := m6) rfl ?_
              obtain ⟨hp7, h⟩ := wif h
              refine wg_ck (st' := []) (M' := (wc_up m6 25 0 (((9 : Int32) + a1)).toNatClampNeg a2)) rfl (wib_in hp7) ?_
              refine wg_blk 6 (i' := 49) (L' := [some (.inr (.inl (21, 0))), some (.inl a1), some (.inl a2), some (.inl a3)]) (st' := [.inl a3, .inl ((25 : Int32) + a1), .inr (.inl (25, 0))]) (M' := (wc_up m6 25 0 (((9 : Int32) + a1)).toNatClampNeg a2)) rfl ?_
              obtain ⟨hp8, h⟩ := wif h
              refine wg_ck (st' := []) (M' := (wc_up (wc_up m6 25 0 (((9 : Int32) + a1)).toNatClampNeg a2) 25 0 (((25 : Int32) + a1)).toNatClampNeg a3)) rfl (wib_in hp8) ?_
              refine wg_blk 6 (i' := 56) (L' := [some (.inr (.inl (21, 0))), some (.inl a1), some (.inl a2), some (.inl a3)]) (st' := [.inl (0 : Int32), .inl ((41 : Int32) + a1), .inr (.inl (25, 0))]) (M' := (wc_up (wc_up m6 25 0 (((9 : Int32) + a1)).toNatClampNeg a2) 25 0 (((25 : Int32) + a1)).toNatClampNeg a3)) rfl ?_
              obtain ⟨hp9, h⟩ := wif h
              refine wg_ck (st' := []) (M' := (wc_up (wc_up (wc_up m6 25 0 (((9 : Int32) + a1)).toNatClampNeg a2) 25 0 (((25 : Int32) + a1)).toNatClampNeg a3) 25 0 (((41 : Int32) + a1)).toNatClampNeg (0 : Int32))) rfl (wib_in hp9) ?_
              refine wg_blk 1 (i' := 58) (L' := [some (.inr (.inl (21, 0))), some (.inl a1), some (.inl a2), some (.inl a3)]) (st' := [.inr (.inl (21, 0))]) (M' := (wc_up (wc_up (wc_up m6 25 0 (((9 : Int32) + a1)).toNatClampNeg a2) 25 0 (((25 : Int32) + a1)).toNatClampNeg a3) 25 0 (((41 : Int32) + a1)).toNatClampNeg (0 : Int32))) rfl ?_
              obtain ⟨v11, h10, h⟩ := wbs h
              refine wg_ca (d' := 2) (y := 116) (as := [.inr (.inl (21, 0))]) (rest := []) (r := some v11) (M' := (wc_up (wc_up (wc_up m6 25 0 (((9 : Int32) + a1)).toNatClampNeg a2) 25 0 (((25 : Int32) + a1)).toNatClampNeg a3) 25 0 (((41 : Int32) + a1)).toNatClampNeg (0 : Int32))) rfl (Nat.le_of_ble_eq_true rfl) (s_M_workMany (wc_up (wc_up (wc_up m6 25 0 (((9 : Int32) + a1)).toNatClampNeg a2) 25 0 (((25 : Int32) + a1)).toNatClampNeg a3) 25 0 (((41 : Int32) + a1)).toNatClampNeg (0 : Int32)) _ h10) ?_
              obtain rfl := Option.some.inj h
              exact wg_re rfl trivial ⟨rfl, rfl⟩
          · rw [if_neg hc] at h
            refine wg_blk 1 (i' := 27) (L' := [some (.inr (.inl (21, 0))), some (.inl a1), some (.inl a2), some (.inl a3)]) (st' := [.inl (-1000002 : Int32)]) (M' := M) rfl ?_
            obtain rfl := Option.some.inj h
            exact wg_re rfl trivial ⟨rfl, rfl⟩
set_option maxRecDepth 20000 in
theorem s_C_take (a1 : Int32) (M : wc_M) (z : Int32 × wc_M) (h : f_C_take a1 M = some z) : wc_Sd 3 8 [.inr (.inl (0, 0)), .inl a1] M (some z.1) z.2 := by
  unfold f_C_take at h
  refine wg_Sd (Nat.le_of_ble_eq_true rfl) ?_
  show wg 2 wx0 (some .int) wk_8 0 [some (.inr (.inl (0, 0))), some (.inl a1)] [] M _
  refine wg_blk 3 (i' := 3) (L' := [some (.inr (.inl (0, 0))), some (.inl a1)]) (st' := [.inl (M 6 0 5)]) (M' := M) rfl ?_
  refine wg_br (c := (M 6 0 5) = (0 : Int32)) (t := 4) (f := 6) (st' := []) rfl (fun hc => ?_) (fun hc => ?_)
  · rw [if_pos hc] at h
    refine wg_blk 1 (i' := 5) (L' := [some (.inr (.inl (0, 0))), some (.inl a1)]) (st' := [.inl (-1000002 : Int32)]) (M' := M) rfl ?_
    obtain rfl := Option.some.inj h
    exact wg_re rfl trivial ⟨rfl, rfl⟩
  · rw [if_neg hc] at h
    refine wg_blk 1 (i' := 7) (L' := [some (.inr (.inl (0, 0))), some (.inl a1)]) (st' := [.inl a1]) (M' := M) rfl ?_
    refine wg_ca (d' := 2) (y := 33) (as := [.inl a1]) (rest := []) (r := some (f_C_isCell a1)) (M' := M) rfl (Nat.le_of_ble_eq_true rfl) (s_C_isCell a1 M _ rfl) ?_
    refine wg_br (c := (f_C_isCell a1) = (0 : Int32)) (t := 9) (f := 11) (st' := []) rfl (fun hc => ?_) (fun hc => ?_)
    · rw [if_pos hc] at h
      refine wg_blk 1 (i' := 10) (L' := [some (.inr (.inl (0, 0))), some (.inl a1)]) (st' := [.inl (-1000001 : Int32)]) (M' := M) rfl ?_
      obtain rfl := Option.some.inj h
      exact wg_re rfl trivial ⟨rfl, rfl⟩
    · rw [if_neg hc] at h
      refine wg_blk 3 (i' := 14) (L' := [some (.inr (.inl (0, 0))), some (.inl a1)]) (st' := [.inl a1, .inr (.inl (6, 0))]) (M' := M) rfl ?_
      obtain ⟨v2, h1, h⟩ := wbs h
      refine wg_ca (d' := 1) (y := 69) (as := [.inr (.inl (6, 0)), .inl a1]) (rest := []) (r := some v2) (M' := M) rfl (Nat.le_of_ble_eq_true rfl) (s_P_hasWork 0 a1 M _ h1) ?_
      refine wg_br (c := v2 = (0 : Int32)) (t := 16) (f := 18) (st' := []) rfl (fun hc => ?_) (fun hc => ?_)
      · rw [if_pos hc] at h
        refine wg_blk 1 (i' := 17) (L' := [some (.inr (.inl (0, 0))), some (.inl a1)]) (st' := [.inl (-1000002 : Int32)]) (M' := M) rfl ?_
        obtain rfl := Option.some.inj h
        exact wg_re rfl trivial ⟨rfl, rfl⟩
      · rw [if_neg hc] at h
        refine wg_blk 4 (i' := 22) (L' := [some (.inr (.inl (0, 0))), some (.inl a1)]) (st' := [.inr (.inl (6, 0)), .inr (.inl (16, 0))]) (M' := M) rfl ?_
        obtain ⟨m4, h3, h⟩ := wbs h
        refine wg_ca (d' := 2) (y := 79) (as := [.inr (.inl (16, 0)), .inr (.inl (6, 0))]) (rest := []) (r := none) (M' := m4) rfl (Nat.le_of_ble_eq_true rfl) (s_H_keep 0 M _ h3) ?_
        refine wg_blk 3 (i' := 26) (L' := [some (.inr (.inl (0, 0))), some (.inl a1)]) (st' := [.inl a1, .inr (.inl (6, 0))]) (M' := m4) rfl ?_
        obtain ⟨m6, h5, h⟩ := wbs h
        refine wg_ca (d' := 2) (y := 68) (as := [.inr (.inl (6, 0)), .inl a1]) (rest := []) (r := none) (M' := m6) rfl (Nat.le_of_ble_eq_true rfl) (s_P_clear 0 a1 m4 _ h5) ?_
        refine wg_blk 2 (i' := 29) (L' := [some (.inr (.inl (0, 0))), some (.inl a1)]) (st' := [.inr (.inl (6, 0))]) (M' := m6) rfl ?_
        obtain ⟨v8, h7, h⟩ := wbs h
        refine wg_ca (d' := 2) (y := 70) (as := [.inr (.inl (6, 0))]) (rest := []) (r := some v8) (M' := m6) rfl (Nat.le_of_ble_eq_true rfl) (s_P_works 0 m6 _ h7) ?_
        obtain rfl := Option.some.inj h
        exact wg_re rfl trivial ⟨rfl, rfl⟩
set_option maxRecDepth 20000 in
theorem s_M_clear (a1 : Int32) (M : wc_M) (z : wc_M) (h : f_M_clear a1 M = some z) : wc_Sd 1 114 [.inr (.inl (21, 0)), .inl a1] M none z := by
  unfold f_M_clear at h
  refine wg_Sd (Nat.le_of_ble_eq_true rfl) ?_
  show wg 0 wx0 none wk_114 0 [some (.inr (.inl (21, 0))), some (.inl a1)] [] M _
  refine wg_blk 6 (i' := 6) (L' := [some (.inr (.inl (21, 0))), some (.inl a1)]) (st' := [.inl (0 : Int32), .inl ((9 : Int32) + a1), .inr (.inl (25, 0))]) (M' := M) rfl ?_
  obtain ⟨hp1, h⟩ := wif h
  refine wg_ck (st' := []) (M' := (wc_up M 25 0 (((9 : Int32) + a1)).toNatClampNeg (0 : Int32))) rfl (wib_in hp1) ?_
  refine wg_blk 6 (i' := 13) (L' := [some (.inr (.inl (21, 0))), some (.inl a1)]) (st' := [.inl (0 : Int32), .inl ((25 : Int32) + a1), .inr (.inl (25, 0))]) (M' := (wc_up M 25 0 (((9 : Int32) + a1)).toNatClampNeg (0 : Int32))) rfl ?_
  obtain ⟨hp2, h⟩ := wif h
  refine wg_ck (st' := []) (M' := (wc_up (wc_up M 25 0 (((9 : Int32) + a1)).toNatClampNeg (0 : Int32)) 25 0 (((25 : Int32) + a1)).toNatClampNeg (0 : Int32))) rfl (wib_in hp2) ?_
  refine wg_blk 6 (i' := 20) (L' := [some (.inr (.inl (21, 0))), some (.inl a1)]) (st' := [.inl (0 : Int32), .inl ((41 : Int32) + a1), .inr (.inl (25, 0))]) (M' := (wc_up (wc_up M 25 0 (((9 : Int32) + a1)).toNatClampNeg (0 : Int32)) 25 0 (((25 : Int32) + a1)).toNatClampNeg (0 : Int32))) rfl ?_
  obtain ⟨hp3, h⟩ := wif h
  refine wg_ck (st' := []) (M' := (wc_up (wc_up (wc_up M 25 0 (((9 : Int32) + a1)).toNatClampNeg (0 : Int32)) 25 0 (((25 : Int32) + a1)).toNatClampNeg (0 : Int32)) 25 0 (((41 : Int32) + a1)).toNatClampNeg (0 : Int32))) rfl (wib_in hp3) ?_
  obtain rfl := Option.some.inj h
  exact wg_re rfl trivial ⟨rfl, rfl⟩
set_option maxRecDepth 20000 in
theorem s_M_take (a1 : Int32) (M : wc_M) (z : Int32 × wc_M) (h : f_M_take a1 M = some z) : wc_Sd 3 119 [.inr (.inl (21, 0)), .inl a1] M (some z.1) z.2 := by
  unfold f_M_take at h
  refine wg_Sd (Nat.le_of_ble_eq_true rfl) ?_
  show wg 2 wx0 (some .int) wk_119 0 [some (.inr (.inl (21, 0))), some (.inl a1)] [] M _
  refine wg_blk 2 (i' := 2) (L' := [some (.inr (.inl (21, 0))), some (.inl a1)]) (st' := [.inl (M 21 0 4)]) (M' := M) rfl ?_
  refine wg_br (c := (M 21 0 4) = (0 : Int32)) (t := 3) (f := 5) (st' := []) rfl (fun hc => ?_) (fun hc => ?_)
  · rw [if_pos hc] at h
    refine wg_blk 1 (i' := 4) (L' := [some (.inr (.inl (21, 0))), some (.inl a1)]) (st' := [.inl (-1000002 : Int32)]) (M' := M) rfl ?_
    obtain rfl := Option.some.inj h
    exact wg_re rfl trivial ⟨rfl, rfl⟩
  · rw [if_neg hc] at h
    refine wg_blk 1 (i' := 6) (L' := [some (.inr (.inl (21, 0))), some (.inl a1)]) (st' := [.inl a1]) (M' := M) rfl ?_
    refine wg_ca (d' := 2) (y := 108) (as := [.inl a1]) (rest := []) (r := some (f_M_isCell a1)) (M' := M) rfl (Nat.le_of_ble_eq_true rfl) (s_M_isCell a1 M _ rfl) ?_
    refine wg_br (c := (f_M_isCell a1) = (0 : Int32)) (t := 8) (f := 10) (st' := []) rfl (fun hc => ?_) (fun hc => ?_)
    · rw [if_pos hc] at h
      refine wg_blk 1 (i' := 9) (L' := [some (.inr (.inl (21, 0))), some (.inl a1)]) (st' := [.inl (-1000001 : Int32)]) (M' := M) rfl ?_
      obtain rfl := Option.some.inj h
      exact wg_re rfl trivial ⟨rfl, rfl⟩
    · rw [if_neg hc] at h
      refine wg_blk 2 (i' := 12) (L' := [some (.inr (.inl (21, 0))), some (.inl a1)]) (st' := [.inl a1, .inr (.inl (21, 0))]) (M' := M) rfl ?_
      obtain ⟨v2, h1, h⟩ := wbs h
      refine wg_ca (d' := 1) (y := 110) (as := [.inr (.inl (21, 0)), .inl a1]) (rest := []) (r := some v2) (M' := M) rfl (Nat.le_of_ble_eq_true rfl) (s_M_isWork a1 M _ h1) ?_
      refine wg_br (c := v2 = (0 : Int32)) (t := 14) (f := 16) (st' := []) rfl (fun hc => ?_) (fun hc => ?_)
      · rw [if_pos hc] at h
        refine wg_blk 1 (i' := 15) (L' := [some (.inr (.inl (21, 0))), some (.inl a1)]) (st' := [.inl (-1000002 : Int32)]) (M' := M) rfl ?_
        obtain rfl := Option.some.inj h
        exact wg_re rfl trivial ⟨rfl, rfl⟩
      · rw [if_neg hc] at h
        refine wg_blk 1 (i' := 17) (L' := [some (.inr (.inl (21, 0))), some (.inl a1)]) (st' := [.inr (.inl (21, 0))]) (M' := M) rfl ?_
        obtain ⟨m4, h3, h⟩ := wbs h
        refine wg_ca (d' := 1) (y := 117) (as := [.inr (.inl (21, 0))]) (rest := []) (r := none) (M' := m4) rfl (Nat.le_of_ble_eq_true rfl) (s_M_note M _ h3) ?_
        refine wg_blk 2 (i' := 20) (L' := [some (.inr (.inl (21, 0))), some (.inl a1)]) (st' := [.inl a1, .inr (.inl (21, 0))]) (M' := m4) rfl ?_
        obtain ⟨m6, h5, h⟩ := wbs h
        refine wg_ca (d' := 1) (y := 114) (as := [.inr (.inl (21, 0)), .inl a1]) (rest := []) (r := none) (M' := m6) rfl (Nat.le_of_ble_eq_true rfl) (s_M_clear a1 m4 _ h5) ?_
        refine wg_blk 1 (i' := 22) (L' := [some (.inr (.inl (21, 0))), some (.inl a1)]) (st' := [.inr (.inl (21, 0))]) (M' := m6) rfl ?_
        obtain ⟨v8, h7, h⟩ := wbs h
        refine wg_ca (d' := 2) (y := 116) (as := [.inr (.inl (21, 0))]) (rest := []) (r := some v8) (M' := m6) rfl (Nat.le_of_ble_eq_true rfl) (s_M_workMany m6 _ h7) ?_
        obtain rfl := Option.some.inj h
        exact wg_re rfl trivial ⟨rfl, rfl⟩
set_option maxRecDepth 20000 in
theorem s_C_turn (a1 : Int32) (M : wc_M) (z : Int32 × wc_M) (h : f_C_turn a1 M = some z) : wc_Sd 3 9 [.inr (.inl (0, 0)), .inl a1] M (some z.1) z.2 := by
  unfold f_C_turn at h
  refine wg_Sd (Nat.le_of_ble_eq_true rfl) ?_
  show wg 2 wx0 (some .int) wk_9 0 [some (.inr (.inl (0, 0))), some (.inl a1)] [] M _
  refine wg_blk 3 (i' := 3) (L' := [some (.inr (.inl (0, 0))), some (.inl a1)]) (st' := [.inl (M 6 0 5)]) (M' := M) rfl ?_
  refine wg_br (c := (M 6 0 5) = (0 : Int32)) (t := 4) (f := 6) (st' := []) rfl (fun hc => ?_) (fun hc => ?_)
  · rw [if_pos hc] at h
    refine wg_blk 1 (i' := 5) (L' := [some (.inr (.inl (0, 0))), some (.inl a1)]) (st' := [.inl (-1000002 : Int32)]) (M' := M) rfl ?_
    obtain rfl := Option.some.inj h
    exact wg_re rfl trivial ⟨rfl, rfl⟩
  · rw [if_neg hc] at h
    refine wg_blk 1 (i' := 7) (L' := [some (.inr (.inl (0, 0))), some (.inl a1)]) (st' := [.inl a1]) (M' := M) rfl ?_
    refine wg_ca (d' := 2) (y := 33) (as := [.inl a1]) (rest := []) (r := some (f_C_isCell a1)) (M' := M) rfl (Nat.le_of_ble_eq_true rfl) (s_C_isCell a1 M _ rfl) ?_
    refine wg_br (c := (f_C_isCell a1) = (0 : Int32)) (t := 9) (f := 11) (st' := []) rfl (fun hc => ?_) (fun hc => ?_)
    · rw [if_pos hc] at h
      refine wg_blk 1 (i' := 10) (L' := [some (.inr (.inl (0, 0))), some (.inl a1)]) (st' := [.inl (-1000001 : Int32)]) (M' := M) rfl ?_
      obtain rfl := Option.some.inj h
      exact wg_re rfl trivial ⟨rfl, rfl⟩
    · rw [if_neg hc] at h
      refine wg_blk 4 (i' := 15) (L' := [some (.inr (.inl (0, 0))), some (.inl a1)]) (st' := [.inl a1, .inr (.inl (9, 0))]) (M' := M) rfl ?_
      obtain ⟨hp1, h⟩ := wif h
      refine wg_ck (st' := [.inl (M 9 0 (a1).toNatClampNeg)]) (M' := M) rfl (wib_in hp1) ?_
      refine wg_blk 1 (i' := 17) (L' := [some (.inr (.inl (0, 0))), some (.inl a1)]) (st' := [.inl (3 : Int32), .inl (M 9 0 (a1).toNatClampNeg)]) (M' := M) rfl ?_
      refine wg_br (c := (M 9 0 (a1).toNatClampNeg) = (3 : Int32)) (t := 20) (f := 18) (st' := []) rfl (fun hc => ?_) (fun hc => ?_)
      · rw [if_pos hc] at h
        refine wg_blk 4 (i' := 24) (L' := [some (.inr (.inl (0, 0))), some (.inl a1)]) (st' := [.inr (.inl (6, 0)), .inr (.inl (16, 0))]) (M' := M) rfl ?_
        obtain ⟨m3, h2, h⟩ := wbs h
        refine wg_ca (d' := 2) (y := 79) (as := [.inr (.inl (16, 0)), .inr (.inl (6, 0))]) (rest := []) (r := none) (M' := m3) rfl (Nat.le_of_ble_eq_true rfl) (s_H_keep 0 M _ h2) ?_
        refine wg_blk 9 (i' := 34) (L' := [some (.inr (.inl (0, 0))), some (.inl a1)]) (st' := [.inl a1, .inr (.inl (11, 0)), .inl (1 : Int32), .inl a1, .inr (.inl (11, 0))]) (M' := m3) rfl ?_
        refine wg_ck (st' := [.inl (m3 11 0 (a1).toNatClampNeg), .inl (1 : Int32), .inl a1, .inr (.inl (11, 0))]) (M' := m3) rfl (wib_in hp1) ?_
        refine wg_blk 1 (i' := 36) (L' := [some (.inr (.inl (0, 0))), some (.inl a1)]) (st' := [.inl ((1 : Int32) - (m3 11 0 (a1).toNatClampNeg)), .inl a1, .inr (.inl (11, 0))]) (M' := m3) rfl ?_
        refine wg_ck (st' := []) (M' := (wc_up m3 11 0 (a1).toNatClampNeg ((1 : Int32) - (m3 11 0 (a1).toNatClampNeg)))) rfl (wib_in hp1) ?_
        refine wg_blk 4 (i' := 41) (L' := [some (.inr (.inl (0, 0))), some (.inl a1)]) (st' := [.inl a1, .inr (.inl (11, 0))]) (M' := (wc_up m3 11 0 (a1).toNatClampNeg ((1 : Int32) - (m3 11 0 (a1).toNatClampNeg)))) rfl ?_
        refine wg_ck (st' := [.inl ((wc_up m3 11 0 (a1).toNatClampNeg ((1 : Int32) - (m3 11 0 (a1).toNatClampNeg))) 11 0 (a1).toNatClampNeg)]) (M' := (wc_up m3 11 0 (a1).toNatClampNeg ((1 : Int32) - (m3 11 0 (a1).toNatClampNeg)))) rfl (wib_in hp1) ?_
        obtain rfl := Option.some.inj h
        exact wg_re rfl trivial ⟨rfl, rfl⟩
      · rw [if_neg hc] at h
        refine wg_blk 1 (i' := 19) (L' := [some (.inr (.inl (0, 0))), some (.inl a1)]) (st' := [.inl (-1000002 : Int32)]) (M' := M) rfl ?_
        obtain rfl := Option.some.inj h
        exact wg_re rfl trivial ⟨rfl, rfl⟩
set_option maxRecDepth 20000 in
theorem s_M_turn (a1 : Int32) (M : wc_M) (z : Int32 × wc_M) (h : f_M_turn a1 M = some z) : wc_Sd 3 120 [.inr (.inl (21, 0)), .inl a1] M (some z.1) z.2 := by
  unfold f_M_turn at h
  refine wg_Sd (Nat.le_of_ble_eq_true rfl) ?_
  show wg 2 wx0 (some .int) wk_120 0 [some (.inr (.inl (21, 0))), some (.inl a1)] [] M _
  refine wg_blk 2 (i' := 2) (L' := [some (.inr (.inl (21, 0))), some (.inl a1)]) (st' := [.inl (M 21 0 4)]) (M' := M) rfl ?_
  refine wg_br (c := (M 21 0 4) = (0 : Int32)) (t := 3) (f := 5) (st' := []) rfl (fun hc => ?_) (fun hc => ?_)
  · rw [if_pos hc] at h
    refine wg_blk 1 (i' := 4) (L' := [some (.inr (.inl (21, 0))), some (.inl a1)]) (st' := [.inl (-1000002 : Int32)]) (M' := M) rfl ?_
    obtain rfl := Option.some.inj h
    exact wg_re rfl trivial ⟨rfl, rfl⟩
  · rw [if_neg hc] at h
    refine wg_blk 1 (i' := 6) (L' := [some (.inr (.inl (21, 0))), some (.inl a1)]) (st' := [.inl a1]) (M' := M) rfl ?_
    refine wg_ca (d' := 2) (y := 108) (as := [.inl a1]) (rest := []) (r := some (f_M_isCell a1)) (M' := M) rfl (Nat.le_of_ble_eq_true rfl) (s_M_isCell a1 M _ rfl) ?_
    refine wg_br (c := (f_M_isCell a1) = (0 : Int32)) (t := 8) (f := 10) (st' := []) rfl (fun hc => ?_) (fun hc => ?_)
    · rw [if_pos hc] at h
      refine wg_blk 1 (i' := 9) (L' := [some (.inr (.inl (21, 0))), some (.inl a1)]) (st' := [.inl (-1000001 : Int32)]) (M' := M) rfl ?_
      obtain rfl := Option.some.inj h
      exact wg_re rfl trivial ⟨rfl, rfl⟩
    · rw [if_neg hc] at h
      refine wg_blk 5 (i' := 15) (L' := [some (.inr (.inl (21, 0))), some (.inl a1)]) (st' := [.inl ((9 : Int32) + a1), .inr (.inl (25, 0))]) (M' := M) rfl ?_
      obtain ⟨hp1, h⟩ := wif h
      refine wg_ck (st' := [.inl (M 25 0 (((9 : Int32) + a1)).toNatClampNeg)]) (M' := M) rfl (wib_in hp1) ?_
      refine wg_blk 1 (i' := 17) (L' := [some (.inr (.inl (21, 0))), some (.inl a1)]) (st' := [.inl (3 : Int32), .inl (M 25 0 (((9 : Int32) + a1)).toNatClampNeg)]) (M' := M) rfl ?_
      refine wg_br (c := (M 25 0 (((9 : Int32) + a1)).toNatClampNeg) = (3 : Int32)) (t := 20) (f := 18) (st' := []) rfl (fun hc => ?_) (fun hc => ?_)
      · rw [if_pos hc] at h
        refine wg_blk 1 (i' := 21) (L' := [some (.inr (.inl (21, 0))), some (.inl a1)]) (st' := [.inr (.inl (21, 0))]) (M' := M) rfl ?_
        obtain ⟨m3, h2, h⟩ := wbs h
        refine wg_ca (d' := 1) (y := 117) (as := [.inr (.inl (21, 0))]) (rest := []) (r := none) (M' := m3) rfl (Nat.le_of_ble_eq_true rfl) (s_M_note M _ h2) ?_
        refine wg_blk 11 (i' := 33) (L' := [some (.inr (.inl (21, 0))), some (.inl a1)]) (st' := [.inl ((41 : Int32) + a1), .inr (.inl (25, 0)), .inl (1 : Int32), .inl ((41 : Int32) + a1), .inr (.inl (25, 0))]) (M' := m3) rfl ?_
        obtain ⟨hp4, h⟩ := wif h
        refine wg_ck (st' := [.inl (m3 25 0 (((41 : Int32) + a1)).toNatClampNeg), .inl (1 : Int32), .inl ((41 : Int32) + a1), .inr (.inl (25, 0))]) (M' := m3) rfl (wib_in hp4) ?_
        refine wg_blk 1 (i' := 35) (L' := [some (.inr (.inl (21, 0))), some (.inl a1)]) (st' := [.inl ((1 : Int32) - (m3 25 0 (((41 : Int32) + a1)).toNatClampNeg)), .inl ((41 : Int32) + a1), .inr (.inl (25, 0))]) (M' := m3) rfl ?_
        refine wg_ck (st' := []) (M' := (wc_up m3 25 0 (((41 : Int32) + a1)).toNatClampNeg ((1 : Int32) - (m3 25 0 (((41 : Int32) + a1)).toNatClampNeg)))) rfl (wib_in hp4) ?_
        refine wg_blk 5 (i' := 41) (L' := [some (.inr (.inl (21, 0))), some (.inl a1)]) (st' := [.inl ((41 : Int32) + a1), .inr (.inl (25, 0))]) (M' := (wc_up m3 25 0 (((41 : Int32) + a1)).toNatClampNeg ((1 : Int32) - (m3 25 0 (((41 : Int32) + a1)).toNatClampNeg)))) rfl ?_
        refine wg_ck (st' := [.inl ((wc_up m3 25 0 (((41 : Int32) + a1)).toNatClampNeg ((1 : Int32) - (m3 25 0 (((41 : Int32) + a1)).toNatClampNeg))) 25 0 (((41 : Int32) + a1)).toNatClampNeg)]) (M' := (wc_up m3 25 0 (((41 : Int32) + a1)).toNatClampNeg ((1 : Int32) - (m3 25 0 (((41 : Int32) + a1)).toNatClampNeg)))) rfl (wib_in hp4) ?_
        obtain rfl := Option.some.inj h
        exact wg_re rfl trivial ⟨rfl, rfl⟩
      · rw [if_neg hc] at h
        refine wg_blk 1 (i' := 19) (L' := [some (.inr (.inl (21, 0))), some (.inl a1)]) (st' := [.inl (-1000002 : Int32)]) (M' := M) rfl ?_
        obtain rfl := Option.some.inj h
        exact wg_re rfl trivial ⟨rfl, rfl⟩
set_option maxRecDepth 20000 in
theorem s_C_isLine (a0 : Int32) (M : wc_M) (z : Int32) (h : f_C_isLine a0 = z) : wc_Sd 2 34 [.inl a0] M (some z) M := by
  unfold f_C_isLine at h
  refine wg_Sd (Nat.le_of_ble_eq_true rfl) ?_
  show wg 1 wx0 (some .boolean) wk_34 0 [some (.inl a0)] [] M _
  refine wg_blk 2 (i' := 2) (L' := [some (.inl a0)]) (st' := [.inl (3 : Int32), .inl a0]) (M' := M) rfl ?_
  refine wg_ca (d' := 1) (y := 32) (as := [.inl a0, .inl (3 : Int32)]) (rest := []) (r := some (f_C_isUpTo a0 (3 : Int32))) (M' := M) rfl (Nat.le_of_ble_eq_true rfl) (s_C_isUpTo a0 (3 : Int32) M _ rfl) ?_
  subst h
  exact wg_re rfl (b_C_isUpTo ..) ⟨rfl, rfl⟩
set_option maxRecDepth 20000 in
theorem s_C_gust (a1 : Int32) (a2 : Int32) (M : wc_M) (z : Int32 × wc_M) (h : f_C_gust a1 a2 M = some z) : wc_Sd 3 10 [.inr (.inl (0, 0)), .inl a1, .inl a2] M (some z.1) z.2 := by
  unfold f_C_gust at h
  refine wg_Sd (Nat.le_of_ble_eq_true rfl) ?_
  show wg 2 wx0 (some .int) wk_10 0 [some (.inr (.inl (0, 0))), some (.inl a1), some (.inl a2), none] [] M _
  refine wg_blk 3 (i' := 3) (L' := [some (.inr (.inl (0, 0))), some (.inl a1), some (.inl a2), none]) (st' := [.inl (M 6 0 5)]) (M' := M) rfl ?_
  refine wg_br (c := (M 6 0 5) = (0 : Int32)) (t := 4) (f := 6) (st' := []) rfl (fun hc => ?_) (fun hc => ?_)
  · rw [if_pos hc] at h
    refine wg_blk 1 (i' := 5) (L' := [some (.inr (.inl (0, 0))), some (.inl a1), some (.inl a2), none]) (st' := [.inl (-1000002 : Int32)]) (M' := M) rfl ?_
    obtain rfl := Option.some.inj h
    exact wg_re rfl trivial ⟨rfl, rfl⟩
  · rw [if_neg hc] at h
    refine wg_blk 1 (i' := 7) (L' := [some (.inr (.inl (0, 0))), some (.inl a1), some (.inl a2), none]) (st' := [.inl a1]) (M' := M) rfl ?_
    refine wg_ca (d' := 2) (y := 34) (as := [.inl a1]) (rest := []) (r := some (f_C_isLine a1)) (M' := M) rfl (Nat.le_of_ble_eq_true rfl) (s_C_isLine a1 M _ rfl) ?_
    refine wg_br (c := (f_C_isLine a1) = (0 : Int32)) (t := 13) (f := 9) (st' := []) rfl (fun hc => ?_) (fun hc => ?_)
    · rw [if_pos hc] at h
      refine wg_blk 1 (i' := 14) (L' := [some (.inr (.inl (0, 0))), some (.inl a1), some (.inl a2), none]) (st' := [.inl (-1000001 : Int32)]) (M' := M) rfl ?_
      obtain rfl := Option.some.inj h
      exact wg_re rfl trivial ⟨rfl, rfl⟩
    · rw [if_neg hc] at h
      refine wg_blk 2 (i' := 11) (L' := [some (.inr (.inl (0, 0))), some (.inl a1), some (.inl a2), none]) (st' := [.inl (31 : Int32), .inl a2]) (M' := M) rfl ?_
      refine wg_ca (d' := 1) (y := 32) (as := [.inl a2, .inl (31 : Int32)]) (rest := []) (r := some (f_C_isUpTo a2 (31 : Int32))) (M' := M) rfl (Nat.le_of_ble_eq_true rfl) (s_C_isUpTo a2 (31 : Int32) M _ rfl) ?_
      refine wg_br (c := (f_C_isUpTo a2 (31 : Int32)) = (0 : Int32)) (t := 13) (f := 15) (st' := []) rfl (fun hc => ?_) (fun hc => ?_)
      · rw [if_pos hc] at h
        refine wg_blk 1 (i' := 14) (L' := [some (.inr (.inl (0, 0))), some (.inl a1), some (.inl a2), none]) (st' := [.inl (-1000001 : Int32)]) (M' := M) rfl ?_
        obtain rfl := Option.some.inj h
        exact wg_re rfl trivial ⟨rfl, rfl⟩
      · rw [if_neg hc] at h
        refine wg_blk 4 (i' := 19) (L' := [some (.inr (.inl (0, 0))), some (.inl a1), some (.inl a2), none]) (st' := [.inl a1, .inr (.inl (7, 0))]) (M' := M) rfl ?_
        obtain ⟨hp1, h⟩ := wif h
        refine wg_ck (st' := [.inl (M 7 0 (a1).toNatClampNeg)]) (M' := M) rfl (wib_in hp1) ?_
        refine wg_blk 5 (i' := 25) (L' := [some (.inr (.inl (0, 0))), some (.inl a1), some (.inl a2), some (.inl (M 7 0 (a1).toNatClampNeg))]) (st' := [.inr (.inl (6, 0)), .inr (.inl (16, 0))]) (M' := M) rfl ?_
        obtain ⟨m3, h2, h⟩ := wbs h
        refine wg_ca (d' := 2) (y := 79) (as := [.inr (.inl (16, 0)), .inr (.inl (6, 0))]) (rest := []) (r := none) (M' := m3) rfl (Nat.le_of_ble_eq_true rfl) (s_H_keep 0 M _ h2) ?_
        refine wg_blk 5 (i' := 31) (L' := [some (.inr (.inl (0, 0))), some (.inl a1), some (.inl a2), some (.inl (M 7 0 (a1).toNatClampNeg))]) (st' := [.inl a2, .inl a1, .inr (.inl (7, 0))]) (M' := m3) rfl ?_
        refine wg_ck (st' := []) (M' := (wc_up m3 7 0 (a1).toNatClampNeg a2)) rfl (wib_in hp1) ?_
        refine wg_blk 1 (i' := 33) (L' := [some (.inr (.inl (0, 0))), some (.inl a1), some (.inl a2), some (.inl (M 7 0 (a1).toNatClampNeg))]) (st' := [.inl (M 7 0 (a1).toNatClampNeg)]) (M' := (wc_up m3 7 0 (a1).toNatClampNeg a2)) rfl ?_
        obtain rfl := Option.some.inj h
        exact wg_re rfl trivial ⟨rfl, rfl⟩
set_option maxRecDepth 20000 in
theorem s_M_isRowOfPass (a0 : Int32) (M : wc_M) (z : Int32) (h : f_M_isRowOfPass a0 = z) : wc_Sd 2 109 [.inl a0] M (some z) M := by
  unfold f_M_isRowOfPass at h
  refine wg_Sd (Nat.le_of_ble_eq_true rfl) ?_
  show wg 1 wx0 (some .boolean) wk_109 0 [some (.inl a0)] [] M _
  refine wg_blk 4 (i' := 4) (L' := [some (.inl a0)]) (st' := [.inr (.inr (3 : Int64)), .inr (.inr (0 : Int64)), .inr (.inr (a0).toInt64)]) (M' := M) rfl ?_
  refine wg_ca (d' := 1) (y := 87) (as := [.inr (.inr (a0).toInt64), .inr (.inr (0 : Int64)), .inr (.inr (3 : Int64))]) (rest := []) (r := some (f_M_in (a0).toInt64 (0 : Int64) (3 : Int64))) (M' := M) rfl (Nat.le_of_ble_eq_true rfl) (s_M_in (a0).toInt64 (0 : Int64) (3 : Int64) M _ rfl) ?_
  subst h
  exact wg_re rfl (b_M_in ..) ⟨rfl, rfl⟩
set_option maxRecDepth 20000 in
theorem s_M_gust (a1 : Int32) (a2 : Int32) (M : wc_M) (z : Int32 × wc_M) (h : f_M_gust a1 a2 M = some z) : wc_Sd 3 121 [.inr (.inl (21, 0)), .inl a1, .inl a2] M (some z.1) z.2 := by
  unfold f_M_gust at h
  refine wg_Sd (Nat.le_of_ble_eq_true rfl) ?_
  show wg 2 wx0 (some .int) wk_121 0 [some (.inr (.inl (21, 0))), some (.inl a1), some (.inl a2), none] [] M _
  refine wg_blk 2 (i' := 2) (L' := [some (.inr (.inl (21, 0))), some (.inl a1), some (.inl a2), none]) (st' := [.inl (M 21 0 4)]) (M' := M) rfl ?_
  refine wg_br (c := (M 21 0 4) = (0 : Int32)) (t := 3) (f := 5) (st' := []) rfl (fun hc => ?_) (fun hc => ?_)
  · rw [if_pos hc] at h
    refine wg_blk 1 (i' := 4) (L' := [some (.inr (.inl (21, 0))), some (.inl a1), some (.inl a2), none]) (st' := [.inl (-1000002 : Int32)]) (M' := M) rfl ?_
    obtain rfl := Option.some.inj h
    exact wg_re rfl trivial ⟨rfl, rfl⟩
  · rw [if_neg hc] at h
    refine wg_blk 1 (i' := 6) (L' := [some (.inr (.inl (21, 0))), some (.inl a1), some (.inl a2), none]) (st' := [.inl a1]) (M' := M) rfl ?_
    refine wg_ca (d' := 2) (y := 109) (as := [.inl a1]) (rest := []) (r := some (f_M_isRowOfPass a1)) (M' := M) rfl (Nat.le_of_ble_eq_true rfl) (s_M_isRowOfPass a1 M _ rfl) ?_
    refine wg_br (c := (f_M_isRowOfPass a1) = (0 : Int32)) (t := 14) (f := 8) (st' := []) rfl (fun hc => ?_) (fun hc => ?_)
    · rw [if_pos hc] at h
      refine wg_blk 1 (i' := 15) (L' := [some (.inr (.inl (21, 0))), some (.inl a1), some (.inl a2), none]) (st' := [.inl (-1000001 : Int32)]) (M' := M) rfl ?_
      obtain rfl := Option.some.inj h
      exact wg_re rfl trivial ⟨rfl, rfl⟩
    · rw [if_neg hc] at h
      refine wg_blk 4 (i' := 12) (L' := [some (.inr (.inl (21, 0))), some (.inl a1), some (.inl a2), none]) (st' := [.inr (.inr (31 : Int64)), .inr (.inr (0 : Int64)), .inr (.inr (a2).toInt64)]) (M' := M) rfl ?_
      refine wg_ca (d' := 1) (y := 87) (as := [.inr (.inr (a2).toInt64), .inr (.inr (0 : Int64)), .inr (.inr (31 : Int64))]) (rest := []) (r := some (f_M_in (a2).toInt64 (0 : Int64) (31 : Int64))) (M' := M) rfl (Nat.le_of_ble_eq_true rfl) (s_M_in (a2).toInt64 (0 : Int64) (31 : Int64) M _ rfl) ?_
      refine wg_br (c := (f_M_in (a2).toInt64 (0 : Int64) (31 : Int64)) = (0 : Int32)) (t := 14) (f := 16) (st' := []) rfl (fun hc => ?_) (fun hc => ?_)
      · rw [if_pos hc] at h
        refine wg_blk 1 (i' := 15) (L' := [some (.inr (.inl (21, 0))), some (.inl a1), some (.inl a2), none]) (st' := [.inl (-1000001 : Int32)]) (M' := M) rfl ?_
        obtain rfl := Option.some.inj h
        exact wg_re rfl trivial ⟨rfl, rfl⟩
      · rw [if_neg hc] at h
        refine wg_blk 1 (i' := 17) (L' := [some (.inr (.inl (21, 0))), some (.inl a1), some (.inl a2), none]) (st' := [.inr (.inl (21, 0))]) (M' := M) rfl ?_
        obtain ⟨m2, h1, h⟩ := wbs h
        refine wg_ca (d' := 1) (y := 117) (as := [.inr (.inl (21, 0))]) (rest := []) (r := none) (M' := m2) rfl (Nat.le_of_ble_eq_true rfl) (s_M_note M _ h1) ?_
        refine wg_blk 5 (i' := 23) (L' := [some (.inr (.inl (21, 0))), some (.inl a1), some (.inl a2), none]) (st' := [.inl ((1 : Int32) + a1), .inr (.inl (25, 0))]) (M' := m2) rfl ?_
        obtain ⟨hp3, h⟩ := wif h
        refine wg_ck (st' := [.inl (m2 25 0 (((1 : Int32) + a1)).toNatClampNeg)]) (M' := m2) rfl (wib_in hp3) ?_
        refine wg_blk 7 (i' := 31) (L' := [some (.inr (.inl (21, 0))), some (.inl a1), some (.inl a2), some (.inl (m2 25 0 (((1 : Int32) + a1)).toNatClampNeg))]) (st' := [.inl a2, .inl ((1 : Int32) + a1), .inr (.inl (25, 0))]) (M' := m2) rfl ?_
        refine wg_ck (st' := []) (M' := (wc_up m2 25 0 (((1 : Int32) + a1)).toNatClampNeg a2)) rfl (wib_in hp3) ?_
        refine wg_blk 1 (i' := 33) (L' := [some (.inr (.inl (21, 0))), some (.inl a1), some (.inl a2), some (.inl (m2 25 0 (((1 : Int32) + a1)).toNatClampNeg))]) (st' := [.inl (m2 25 0 (((1 : Int32) + a1)).toNatClampNeg)]) (M' := (wc_up m2 25 0 (((1 : Int32) + a1)).toNatClampNeg a2)) rfl ?_
        obtain rfl := Option.some.inj h
        exact wg_re rfl trivial ⟨rfl, rfl⟩
set_option maxRecDepth 20000 in
theorem s_A_on (p1 : Nat) (a2 : Int32) (M : wc_M) (z : Int32) (h : f_A_on p1 a2 M = some z) : wc_Sd 1 75 [.inr (.inl (12, 0)), .inr (.inl (6, p1)), .inl a2] M (some z) M := by
  unfold f_A_on at h
  refine wg_Sd (Nat.le_of_ble_eq_true rfl) ?_
  show wg 0 wx0 (some .int) wk_75 0 [some (.inr (.inl (12, 0))), some (.inr (.inl (6, p1))), some (.inl a2)] [] M _
  refine wg_blk 3 (i' := 3) (L' := [some (.inr (.inl (12, 0))), some (.inr (.inl (6, p1))), some (.inl a2)]) (st' := [.inl a2, .inr (.inl (9, p1))]) (M' := M) rfl ?_
  obtain ⟨hp1, h⟩ := wif h
  refine wg_ck (st' := [.inl (M 9 p1 (a2).toNatClampNeg)]) (M' := M) rfl (wib_in hp1) ?_
  refine wg_sw (x := (M 9 p1 (a2).toNatClampNeg)) (cs := [((0 : Int32), 5), ((1 : Int32), 30), ((2 : Int32), 10), ((3 : Int32), 17)]) (df := 30) (st' := []) rfl ?_ ?_
  · intro q hq he
    simp only [List.mem_cons, List.not_mem_nil, or_false] at hq
    rcases hq with rfl | rfl | rfl | rfl
    · dsimp only at he ⊢
      rw [if_pos he] at h
      refine wg_blk 3 (i' := 8) (L' := [some (.inr (.inl (12, 0))), some (.inr (.inl (6, p1))), some (.inl a2)]) (st' := [.inl a2, .inr (.inl (13, 0))]) (M' := M) rfl ?_
      refine wg_ck (st' := [.inl (M 13 0 (a2).toNatClampNeg)]) (M' := M) rfl (wib_in hp1) ?_
      obtain rfl := Option.some.inj h
      exact wg_re rfl trivial ⟨rfl, rfl⟩
    · dsimp only at he ⊢
      rw [if_neg (fun z => absurd (he.symm.trans z) (by decide))] at h
      rw [if_pos he] at h
      refine wg_blk 1 (i' := 31) (L' := [some (.inr (.inl (12, 0))), some (.inr (.inl (6, p1))), some (.inl a2)]) (st' := [.inl (0 : Int32)]) (M' := M) rfl ?_
      obtain rfl := Option.some.inj h
      exact wg_re rfl trivial ⟨rfl, rfl⟩
    · dsimp only at he ⊢
      rw [if_neg (fun z => absurd (he.symm.trans z) (by decide))] at h
      rw [if_neg (fun z => absurd (he.symm.trans z) (by decide))] at h
      rw [if_pos he] at h
      refine wg_blk 3 (i' := 13) (L' := [some (.inr (.inl (12, 0))), some (.inr (.inl (6, p1))), some (.inl a2)]) (st' := [.inl a2, .inr (.inl (13, 0))]) (M' := M) rfl ?_
      refine wg_ck (st' := [.inl (M 13 0 (a2).toNatClampNeg)]) (M' := M) rfl (wib_in hp1) ?_
      refine wg_blk 1 (i' := 15) (L' := [some (.inr (.inl (12, 0))), some (.inr (.inl (6, p1))), some (.inl a2)]) (st' := [.inl (2 : Int32), .inl (M 13 0 (a2).toNatClampNeg)]) (M' := M) rfl ?_
      refine wg_ck (st' := [.inl ((M 13 0 (a2).toNatClampNeg) / (2 : Int32))]) (M' := M) rfl (by decide) ?_
      obtain rfl := Option.some.inj h
      exact wg_re rfl trivial ⟨rfl, rfl⟩
    · dsimp only at he ⊢
      rw [if_neg (fun z => absurd (he.symm.trans z) (by decide))] at h
      rw [if_neg (fun z => absurd (he.symm.trans z) (by decide))] at h
      rw [if_neg (fun z => absurd (he.symm.trans z) (by decide))] at h
      rw [if_pos he] at h
      refine wg_blk 3 (i' := 20) (L' := [some (.inr (.inl (12, 0))), some (.inr (.inl (6, p1))), some (.inl a2)]) (st' := [.inl a2, .inr (.inl (11, p1))]) (M' := M) rfl ?_
      refine wg_ck (st' := [.inl (M 11 p1 (a2).toNatClampNeg)]) (M' := M) rfl (wib_in hp1) ?_
      refine wg_blk 1 (i' := 22) (L' := [some (.inr (.inl (12, 0))), some (.inr (.inl (6, p1))), some (.inl a2)]) (st' := [.inl (1 : Int32), .inl (M 11 p1 (a2).toNatClampNeg)]) (M' := M) rfl ?_
      refine wg_br (c := (M 11 p1 (a2).toNatClampNeg) = (1 : Int32)) (t := 23) (f := 28) (st' := []) rfl (fun hc => ?_) (fun hc => ?_)
      · rw [if_pos hc] at h
        refine wg_blk 3 (i' := 26) (L' := [some (.inr (.inl (12, 0))), some (.inr (.inl (6, p1))), some (.inl a2)]) (st' := [.inl a2, .inr (.inl (13, 0))]) (M' := M) rfl ?_
        refine wg_ck (st' := [.inl (M 13 0 (a2).toNatClampNeg)]) (M' := M) rfl (wib_in hp1) ?_
        refine wg_blk 1 (i' := 29) (L' := [some (.inr (.inl (12, 0))), some (.inr (.inl (6, p1))), some (.inl a2)]) (st' := [.inl (M 13 0 (a2).toNatClampNeg)]) (M' := M) rfl ?_
        obtain rfl := Option.some.inj h
        exact wg_re rfl trivial ⟨rfl, rfl⟩
      · rw [if_neg hc] at h
        refine wg_blk 1 (i' := 29) (L' := [some (.inr (.inl (12, 0))), some (.inr (.inl (6, p1))), some (.inl a2)]) (st' := [.inl (0 : Int32)]) (M' := M) rfl ?_
        obtain rfl := Option.some.inj h
        exact wg_re rfl trivial ⟨rfl, rfl⟩
  · intro hq
    rw [if_neg (hq ((0 : Int32), 5) (by simp))] at h
    rw [if_neg (hq ((1 : Int32), 30) (by simp))] at h
    rw [if_neg (hq ((2 : Int32), 10) (by simp))] at h
    rw [if_neg (hq ((3 : Int32), 17) (by simp))] at h
    refine wg_blk 1 (i' := 31) (L' := [some (.inr (.inl (12, 0))), some (.inr (.inl (6, p1))), some (.inl a2)]) (st' := [.inl (0 : Int32)]) (M' := M) rfl ?_
    obtain rfl := Option.some.inj h
    exact wg_re rfl trivial ⟨rfl, rfl⟩
set_option maxRecDepth 20000 in
theorem s_A_north (a0 : Int32) (a1 : Int32) (a2 : Int32) (M : wc_M) (z : Int32) (h : f_A_north a0 a1 a2 = z) : wc_Sd 1 77 [.inl a0, .inl a1, .inl a2] M (some z) M := by
  unfold f_A_north at h
  refine wg_Sd (Nat.le_of_ble_eq_true rfl) ?_
  show wg 0 wx0 (some .int) wk_77 0 [some (.inl a0), some (.inl a1), some (.inl a2)] [] M _
  refine wg_blk 1 (i' := 1) (L' := [some (.inl a0), some (.inl a1), some (.inl a2)]) (st' := [.inl a0]) (M' := M) rfl ?_
  refine wg_sw (x := a0) (cs := [((4 : Int32), 2), ((5 : Int32), 4)]) (df := 12) (st' := []) rfl ?_ ?_
  · intro q hq he
    simp only [List.mem_cons, List.not_mem_nil, or_false] at hq
    rcases hq with rfl | rfl
    · dsimp only at he ⊢
      rw [if_pos he] at h
      refine wg_blk 1 (i' := 3) (L' := [some (.inl a0), some (.inl a1), some (.inl a2)]) (st' := [.inl a1]) (M' := M) rfl ?_
      subst h
      exact wg_re rfl trivial ⟨rfl, rfl⟩
    · dsimp only at he ⊢
      rw [if_neg (fun z => absurd (he.symm.trans z) (by decide))] at h
      rw [if_pos he] at h
      refine wg_blk 2 (i' := 6) (L' := [some (.inl a0), some (.inl a1), some (.inl a2)]) (st' := [.inl (2 : Int32), .inl a2]) (M' := M) rfl ?_
      refine wg_ck (st' := [.inl (wc_rem a2 (2 : Int32))]) (M' := M) rfl (by decide) ?_
      refine wg_br (c := (wc_rem a2 (2 : Int32)) = (0 : Int32)) (t := 8) (f := 10) (st' := []) rfl (fun hc => ?_) (fun hc => ?_)
      · rw [if_pos hc] at h
        refine wg_blk 2 (i' := 11) (L' := [some (.inl a0), some (.inl a1), some (.inl a2)]) (st' := [.inl a1]) (M' := M) rfl ?_
        subst h
        exact wg_re rfl trivial ⟨rfl, rfl⟩
      · rw [if_neg hc] at h
        refine wg_blk 1 (i' := 11) (L' := [some (.inl a0), some (.inl a1), some (.inl a2)]) (st' := [.inl (0 : Int32)]) (M' := M) rfl ?_
        subst h
        exact wg_re rfl trivial ⟨rfl, rfl⟩
  · intro hq
    rw [if_neg (hq ((4 : Int32), 2) (by simp))] at h
    rw [if_neg (hq ((5 : Int32), 4) (by simp))] at h
    refine wg_blk 2 (i' := 14) (L' := [some (.inl a0), some (.inl a1), some (.inl a2)]) (st' := [.inl (2 : Int32), .inl a1]) (M' := M) rfl ?_
    refine wg_ck (st' := [.inl (a1 / (2 : Int32))]) (M' := M) rfl (by decide) ?_
    subst h
    exact wg_re rfl trivial ⟨rfl, rfl⟩
set_option maxRecDepth 20000 in
theorem s_A_bring (a1 : Int32) (a2 : Int32) (a3 : Int32) (M : wc_M) (z : wc_M) (h : f_A_bring a1 a2 a3 M = some z) : wc_Sd 1 78 [.inr (.inl (12, 0)), .inl a1, .inl a2, .inl a3] M none z := by
  unfold f_A_bring at h
  refine wg_Sd (Nat.le_of_ble_eq_true rfl) ?_
  show wg 0 wx0 none wk_78 0 [some (.inr (.inl (12, 0))), some (.inl a1), some (.inl a2), some (.inl a3)] [] M _
  refine wg_blk 1 (i' := 1) (L' := [some (.inr (.inl (12, 0))), some (.inl a1), some (.inl a2), some (.inl a3)]) (st' := [.inl a2]) (M' := M) rfl ?_
  refine wg_br (c := a2 < (0 : Int32)) (t := 5) (f := 2) (st' := []) rfl (fun hc => ?_) (fun hc => ?_)
  · rw [if_pos hc] at h
    refine wg_blk 7 (i' := 36) (L' := [some (.inr (.inl (12, 0))), some (.inl a1), some (.inl a2), some (.inl a3)]) (st' := []) (M' := (wc_up M 12 0 2 ((M 12 0 2) + a3))) rfl ?_
    obtain rfl := Option.some.inj h
    exact wg_re rfl trivial ⟨rfl, rfl⟩
  · rw [if_neg hc] at h
    refine wg_blk 2 (i' := 4) (L' := [some (.inr (.inl (12, 0))), some (.inl a1), some (.inl a2), some (.inl a3)]) (st' := [.inl (4 : Int32), .inl a2]) (M' := M) rfl ?_
    refine wg_br (c := a2 < (4 : Int32)) (t := 12) (f := 5) (st' := []) rfl (fun hc => ?_) (fun hc => ?_)
    · rw [if_pos hc] at h
      refine wg_blk 2 (i' := 14) (L' := [some (.inr (.inl (12, 0))), some (.inl a1), some (.inl a2), some (.inl a3)]) (st' := [.inl (4 : Int32), .inl a1]) (M' := M) rfl ?_
      refine wg_br (c := a1 < (4 : Int32)) (t := 24) (f := 15) (st' := []) rfl (fun hc => ?_) (fun hc => ?_)
      · rw [if_pos hc] at h
        refine wg_blk 8 (i' := 32) (L' := [some (.inr (.inl (12, 0))), some (.inl a1), some (.inl a2), some (.inl a3)]) (st' := [.inl (((4 : Int32) * a1) + a2), .inr (.inl (13, 0)), .inl (((4 : Int32) * a1) + a2), .inr (.inl (13, 0))]) (M' := M) rfl ?_
        obtain ⟨hp1, h⟩ := wif h
        refine wg_ck (st' := [.inl (M 13 0 ((((4 : Int32) * a1) + a2)).toNatClampNeg), .inl (((4 : Int32) * a1) + a2), .inr (.inl (13, 0))]) (M' := M) rfl (wib_in hp1) ?_
        refine wg_blk 2 (i' := 35) (L' := [some (.inr (.inl (12, 0))), some (.inl a1), some (.inl a2), some (.inl a3)]) (st' := [.inl ((M 13 0 ((((4 : Int32) * a1) + a2)).toNatClampNeg) + a3), .inl (((4 : Int32) * a1) + a2), .inr (.inl (13, 0))]) (M' := M) rfl ?_
        refine wg_ck (st' := []) (M' := (wc_up M 13 0 ((((4 : Int32) * a1) + a2)).toNatClampNeg ((M 13 0 ((((4 : Int32) * a1) + a2)).toNatClampNeg) + a3))) rfl (wib_in hp1) ?_
        obtain rfl := Option.some.inj h
        exact wg_re rfl trivial ⟨rfl, rfl⟩
      · rw [if_neg hc] at h
        refine wg_blk 4 (i' := 19) (L' := [some (.inr (.inl (12, 0))), some (.inl a1), some (.inl a2), some (.inl a3)]) (st' := [.inl a2, .inr (.inl (14, 0)), .inl a2, .inr (.inl (14, 0))]) (M' := M) rfl ?_
        obtain ⟨hp2, h⟩ := wif h
        refine wg_ck (st' := [.inl (M 14 0 (a2).toNatClampNeg), .inl a2, .inr (.inl (14, 0))]) (M' := M) rfl (wib_in hp2) ?_
        refine wg_blk 2 (i' := 22) (L' := [some (.inr (.inl (12, 0))), some (.inl a1), some (.inl a2), some (.inl a3)]) (st' := [.inl ((M 14 0 (a2).toNatClampNeg) + a3), .inl a2, .inr (.inl (14, 0))]) (M' := M) rfl ?_
        refine wg_ck (st' := []) (M' := (wc_up M 14 0 (a2).toNatClampNeg ((M 14 0 (a2).toNatClampNeg) + a3))) rfl (wib_in hp2) ?_
        refine wg_blk 1 (i' := 36) (L' := [some (.inr (.inl (12, 0))), some (.inl a1), some (.inl a2), some (.inl a3)]) (st' := []) (M' := (wc_up M 14 0 (a2).toNatClampNeg ((M 14 0 (a2).toNatClampNeg) + a3))) rfl ?_
        obtain rfl := Option.some.inj h
        exact wg_re rfl trivial ⟨rfl, rfl⟩
    · rw [if_neg hc] at h
      refine wg_blk 7 (i' := 36) (L' := [some (.inr (.inl (12, 0))), some (.inl a1), some (.inl a2), some (.inl a3)]) (st' := []) (M' := (wc_up M 12 0 2 ((M 12 0 2) + a3))) rfl ?_
      obtain rfl := Option.some.inj h
      exact wg_re rfl trivial ⟨rfl, rfl⟩
set_option maxRecDepth 20000 in
theorem s_A_part (a1 : Int32) (a2 : Int32) (p3 : Nat) (M : wc_M) (z : wc_M) (h : f_A_part a1 a2 p3 M = some z) : wc_Sd 2 76 [.inr (.inl (12, 0)), .inl a1, .inl a2, .inr (.inl (6, p3))] M none z := by
  unfold f_A_part at h
  refine wg_Sd (Nat.le_of_ble_eq_true rfl) ?_
  show wg 1 wx0 none wk_76 0 [some (.inr (.inl (12, 0))), some (.inl a1), some (.inl a2), some (.inr (.inl (6, p3))), none, none, none, none] [] M _
  refine wg_blk 3 (i' := 3) (L' := [some (.inr (.inl (12, 0))), some (.inl a1), some (.inl a2), some (.inr (.inl (6, p3))), none, none, none, none]) (st' := [.inl a1, .inr (.inl (13, 0))]) (M' := M) rfl ?_
  obtain ⟨hp1, h⟩ := wif h
  refine wg_ck (st' := [.inl (M 13 0 (a1).toNatClampNeg)]) (M' := M) rfl (wib_in hp1) ?_
  refine wg_blk 6 (i' := 10) (L' := [some (.inr (.inl (12, 0))), some (.inl a1), some (.inl a2), some (.inr (.inl (6, p3))), some (.inl ((M 13 0 (a1).toNatClampNeg) - a2)), none, none, none]) (st' := [.inl a1, .inr (.inl (9, p3))]) (M' := M) rfl ?_
  refine wg_ck (st' := [.inl (M 9 p3 (a1).toNatClampNeg)]) (M' := M) rfl (wib_in hp1) ?_
  refine wg_blk 3 (i' := 14) (L' := [some (.inr (.inl (12, 0))), some (.inl a1), some (.inl a2), some (.inr (.inl (6, p3))), some (.inl ((M 13 0 (a1).toNatClampNeg) - a2)), none, none, none]) (st' := [.inl (M 6 p3 6), .inl ((M 13 0 (a1).toNatClampNeg) - a2), .inl (M 9 p3 (a1).toNatClampNeg)]) (M' := M) rfl ?_
  refine wg_ca (d' := 1) (y := 77) (as := [.inl (M 9 p3 (a1).toNatClampNeg), .inl ((M 13 0 (a1).toNatClampNeg) - a2), .inl (M 6 p3 6)]) (rest := []) (r := some (f_A_north (M 9 p3 (a1).toNatClampNeg) ((M 13 0 (a1).toNatClampNeg) - a2) (M 6 p3 6))) (M' := M) rfl (Nat.le_of_ble_eq_true rfl) (s_A_north (M 9 p3 (a1).toNatClampNeg) ((M 13 0 (a1).toNatClampNeg) - a2) (M 6 p3 6) M _ rfl) ?_
  refine wg_blk 3 (i' := 18) (L' := [some (.inr (.inl (12, 0))), some (.inl a1), some (.inl a2), some (.inr (.inl (6, p3))), some (.inl ((M 13 0 (a1).toNatClampNeg) - a2)), some (.inl (f_A_north (M 9 p3 (a1).toNatClampNeg) ((M 13 0 (a1).toNatClampNeg) - a2) (M 6 p3 6))), none, none]) (st' := [.inl (4 : Int32), .inl a1]) (M' := M) rfl ?_
  refine wg_ck (st' := [.inl (a1 / (4 : Int32))]) (M' := M) rfl (by decide) ?_
  refine wg_blk 5 (i' := 24) (L' := [some (.inr (.inl (12, 0))), some (.inl a1), some (.inl a2), some (.inr (.inl (6, p3))), some (.inl ((M 13 0 (a1).toNatClampNeg) - a2)), some (.inl (f_A_north (M 9 p3 (a1).toNatClampNeg) ((M 13 0 (a1).toNatClampNeg) - a2) (M 6 p3 6))), some (.inl ((a1 / (4 : Int32)) + (1 : Int32))), none]) (st' := [.inl (4 : Int32), .inl a1]) (M' := M) rfl ?_
  refine wg_ck (st' := [.inl (wc_rem a1 (4 : Int32))]) (M' := M) rfl (by decide) ?_
  refine wg_blk 5 (i' := 30) (L' := [some (.inr (.inl (12, 0))), some (.inl a1), some (.inl a2), some (.inr (.inl (6, p3))), some (.inl ((M 13 0 (a1).toNatClampNeg) - a2)), some (.inl (f_A_north (M 9 p3 (a1).toNatClampNeg) ((M 13 0 (a1).toNatClampNeg) - a2) (M 6 p3 6))), some (.inl ((a1 / (4 : Int32)) + (1 : Int32))), some (.inl (wc_rem a1 (4 : Int32)))]) (st' := [.inl a2, .inl (wc_rem a1 (4 : Int32)), .inl ((a1 / (4 : Int32)) + (1 : Int32)), .inr (.inl (12, 0))]) (M' := M) rfl ?_
  obtain ⟨m3, h2, h⟩ := wbs h
  refine wg_ca (d' := 1) (y := 78) (as := [.inr (.inl (12, 0)), .inl ((a1 / (4 : Int32)) + (1 : Int32)), .inl (wc_rem a1 (4 : Int32)), .inl a2]) (rest := []) (r := none) (M' := m3) rfl (Nat.le_of_ble_eq_true rfl) (s_A_bring ((a1 / (4 : Int32)) + (1 : Int32)) (wc_rem a1 (4 : Int32)) a2 M _ h2) ?_
  refine wg_blk 6 (i' := 37) (L' := [some (.inr (.inl (12, 0))), some (.inl a1), some (.inl a2), some (.inr (.inl (6, p3))), some (.inl ((M 13 0 (a1).toNatClampNeg) - a2)), some (.inl (f_A_north (M 9 p3 (a1).toNatClampNeg) ((M 13 0 (a1).toNatClampNeg) - a2) (M 6 p3 6))), some (.inl ((a1 / (4 : Int32)) + (1 : Int32))), some (.inl (wc_rem a1 (4 : Int32)))]) (st' := [.inl (f_A_north (M 9 p3 (a1).toNatClampNeg) ((M 13 0 (a1).toNatClampNeg) - a2) (M 6 p3 6)), .inl ((wc_rem a1 (4 : Int32)) - (1 : Int32)), .inl ((a1 / (4 : Int32)) + (1 : Int32)), .inr (.inl (12, 0))]) (M' := m3) rfl ?_
  obtain ⟨m5, h4, h⟩ := wbs h
  refine wg_ca (d' := 1) (y := 78) (as := [.inr (.inl (12, 0)), .inl ((a1 / (4 : Int32)) + (1 : Int32)), .inl ((wc_rem a1 (4 : Int32)) - (1 : Int32)), .inl (f_A_north (M 9 p3 (a1).toNatClampNeg) ((M 13 0 (a1).toNatClampNeg) - a2) (M 6 p3 6))]) (rest := []) (r := none) (M' := m5) rfl (Nat.le_of_ble_eq_true rfl) (s_A_bring ((a1 / (4 : Int32)) + (1 : Int32)) ((wc_rem a1 (4 : Int32)) - (1 : Int32)) (f_A_north (M 9 p3 (a1).toNatClampNeg) ((M 13 0 (a1).toNatClampNeg) - a2) (M 6 p3 6)) m3 _ h4) ?_
  refine wg_blk 8 (i' := 46) (L' := [some (.inr (.inl (12, 0))), some (.inl a1), some (.inl a2), some (.inr (.inl (6, p3))), some (.inl ((M 13 0 (a1).toNatClampNeg) - a2)), some (.inl (f_A_north (M 9 p3 (a1).toNatClampNeg) ((M 13 0 (a1).toNatClampNeg) - a2) (M 6 p3 6))), some (.inl ((a1 / (4 : Int32)) + (1 : Int32))), some (.inl (wc_rem a1 (4 : Int32)))]) (st' := [.inl (((M 13 0 (a1).toNatClampNeg) - a2) - (f_A_north (M 9 p3 (a1).toNatClampNeg) ((M 13 0 (a1).toNatClampNeg) - a2) (M 6 p3 6))), .inl ((wc_rem a1 (4 : Int32)) + (1 : Int32)), .inl ((a1 / (4 : Int32)) + (1 : Int32)), .inr (.inl (12, 0))]) (M' := m5) rfl ?_
  obtain ⟨m7, h6, h⟩ := wbs h
  refine wg_ca (d' := 1) (y := 78) (as := [.inr (.inl (12, 0)), .inl ((a1 / (4 : Int32)) + (1 : Int32)), .inl ((wc_rem a1 (4 : Int32)) + (1 : Int32)), .inl (((M 13 0 (a1).toNatClampNeg) - a2) - (f_A_north (M 9 p3 (a1).toNatClampNeg) ((M 13 0 (a1).toNatClampNeg) - a2) (M 6 p3 6)))]) (rest := []) (r := none) (M' := m7) rfl (Nat.le_of_ble_eq_true rfl) (s_A_bring ((a1 / (4 : Int32)) + (1 : Int32)) ((wc_rem a1 (4 : Int32)) + (1 : Int32)) (((M 13 0 (a1).toNatClampNeg) - a2) - (f_A_north (M 9 p3 (a1).toNatClampNeg) ((M 13 0 (a1).toNatClampNeg) - a2) (M 6 p3 6))) m5 _ h6) ?_
  obtain rfl := Option.some.inj h
  exact wg_re rfl trivial ⟨rfl, rfl⟩
set_option maxRecDepth 20000 in
theorem l_A_blow_2_ok (p1 : Nat) {K : Option Int32 → wc_M → Prop} : ∀ (n : Nat) (x2 : Int32) (M : wc_M) (o : wc_M), l_A_blow_2 p1 n x2 M = some o → wg 2 wx0 none wk_74 20 [some (.inr (.inl (12, 0))), some (.inr (.inl (6, p1))), none] [] o K → wg 2 wx0 none wk_74 2 [some (.inr (.inl (12, 0))), some (.inr (.inl (6, p1))), some (.inl x2)] [] M K := by
  intro n
  induction n with
  | zero =>
    intro x2 M o h hk
    exact nomatch (show (none : Option (wc_M)) = some o from h)
  | succ n ih =>
    intro x2 M o h hk
    unfold l_A_blow_2 at h
    refine wg_blk 2 (i' := 4) (L' := [some (.inr (.inl (12, 0))), some (.inr (.inl (6, p1))), some (.inl x2)]) (st' := [.inl (16 : Int32), .inl x2]) (M' := M) rfl ?_
    refine wg_br (c := (16 : Int32) ≤ x2) (t := 20) (f := 5) (st' := []) rfl (fun hc => ?_) (fun hc => ?_)
    · rw [if_pos hc] at h
      obtain rfl := Option.some.inj h
      exact wg_wk (wk_s (wk_s (wk_n wk_e))) rfl hk
    · rw [if_neg hc] at h
      refine wg_blk 5 (i' := 10) (L' := [some (.inr (.inl (12, 0))), some (.inr (.inl (6, p1))), some (.inl x2)]) (st' := [.inl (4 : Int32), .inl x2, .inl x2, .inr (.inl (13, 0))]) (M' := M) rfl ?_
      obtain ⟨t1, h4, h⟩ := wbs h
      have k : wg 2 wx0 none wk_74 17 [some (.inr (.inl (12, 0))), some (.inr (.inl (6, p1))), some (.inl x2)] [.inl t1, .inl x2, .inr (.inl (13, 0))] M K := by
        obtain ⟨hp3, h⟩ := wif h
        refine wg_ck (st' := []) (M' := (wc_up M 13 0 (x2).toNatClampNeg t1)) rfl (wib_in hp3) ?_
        refine wg_blk 2 (i' := 2) (L' := [some (.inr (.inl (12, 0))), some (.inr (.inl (6, p1))), some (.inl (x2 + (1 : Int32)))]) (st' := []) (M' := (wc_up M 13 0 (x2).toNatClampNeg t1)) rfl ?_
        exact wg_wk (wk_s (wk_s (wk_s wk_e))) rfl (ih (x2 + (1 : Int32)) (wc_up M 13 0 (x2).toNatClampNeg t1) _ h hk)
      clear h
      have h := h4
      clear h4
      refine wg_br (c := (4 : Int32) ≤ x2) (t := 16) (f := 11) (st' := [.inl x2, .inr (.inl (13, 0))]) rfl (fun hc => ?_) (fun hc => ?_)
      · rw [if_pos hc] at h
        refine wg_blk 1 (i' := 17) (L' := [some (.inr (.inl (12, 0))), some (.inr (.inl (6, p1))), some (.inl x2)]) (st' := [.inl (0 : Int32), .inl x2, .inr (.inl (13, 0))]) (M' := M) rfl ?_
        obtain rfl := Option.some.inj h
        exact wg_wk (wk_s (wk_s (wk_s wk_e))) rfl k
      · rw [if_neg hc] at h
        refine wg_blk 3 (i' := 14) (L' := [some (.inr (.inl (12, 0))), some (.inr (.inl (6, p1))), some (.inl x2)]) (st' := [.inl x2, .inr (.inl (7, p1)), .inl x2, .inr (.inl (13, 0))]) (M' := M) rfl ?_
        obtain ⟨hp2, h⟩ := wif h
        refine wg_ck (st' := [.inl (M 7 p1 (x2).toNatClampNeg), .inl x2, .inr (.inl (13, 0))]) (M' := M) rfl (wib_in hp2) ?_
        refine wg_blk 1 (i' := 17) (L' := [some (.inr (.inl (12, 0))), some (.inr (.inl (6, p1))), some (.inl x2)]) (st' := [.inl (M 7 p1 (x2).toNatClampNeg), .inl x2, .inr (.inl (13, 0))]) (M' := M) rfl ?_
        obtain rfl := Option.some.inj h
        exact wg_wk (wk_s (wk_s (wk_s wk_e))) rfl k
set_option maxRecDepth 20000 in
theorem l_A_blow_22_ok (p1 : Nat) {K : Option Int32 → wc_M → Prop} : ∀ (n : Nat) (x2 : Int32) (M : wc_M) (o : wc_M), l_A_blow_22 p1 n x2 M = some o → wg 2 wx0 none wk_74 32 [some (.inr (.inl (12, 0))), some (.inr (.inl (6, p1))), none] [] o K → wg 2 wx0 none wk_74 22 [some (.inr (.inl (12, 0))), some (.inr (.inl (6, p1))), some (.inl x2)] [] M K := by
  intro n
  induction n with
  | zero =>
    intro x2 M o h hk
    exact nomatch (show (none : Option (wc_M)) = some o from h)
  | succ n ih =>
    intro x2 M o h hk
    unfold l_A_blow_22 at h
    refine wg_blk 2 (i' := 24) (L' := [some (.inr (.inl (12, 0))), some (.inr (.inl (6, p1))), some (.inl x2)]) (st' := [.inl (4 : Int32), .inl x2]) (M' := M) rfl ?_
    refine wg_br (c := (4 : Int32) ≤ x2) (t := 32) (f := 25) (st' := []) rfl (fun hc => ?_) (fun hc => ?_)
    · rw [if_pos hc] at h
      obtain rfl := Option.some.inj h
      exact wg_wk (wk_s (wk_s (wk_n wk_e))) rfl hk
    · rw [if_neg hc] at h
      refine wg_blk 4 (i' := 29) (L' := [some (.inr (.inl (12, 0))), some (.inr (.inl (6, p1))), some (.inl x2)]) (st' := [.inl (0 : Int32), .inl x2, .inr (.inl (14, 0))]) (M' := M) rfl ?_
      obtain ⟨hp7, h⟩ := wif h
      refine wg_ck (st' := []) (M' := (wc_up M 14 0 (x2).toNatClampNeg (0 : Int32))) rfl (wib_in hp7) ?_
      refine wg_blk 2 (i' := 22) (L' := [some (.inr (.inl (12, 0))), some (.inr (.inl (6, p1))), some (.inl (x2 + (1 : Int32)))]) (st' := []) (M' := (wc_up M 14 0 (x2).toNatClampNeg (0 : Int32))) rfl ?_
      exact wg_wk (wk_s (wk_s (wk_s wk_e))) rfl (ih (x2 + (1 : Int32)) (wc_up M 14 0 (x2).toNatClampNeg (0 : Int32)) _ h hk)
set_option maxRecDepth 20000 in
theorem l_A_blow_37_ok (p1 : Nat) {K : Option Int32 → wc_M → Prop} : ∀ (n : Nat) (x2 : Int32) (M : wc_M) (o : wc_M), l_A_blow_37 p1 n x2 M = some o → wg 2 wx0 none wk_74 50 [none, none, none] [] o K → wg 2 wx0 none wk_74 37 [some (.inr (.inl (12, 0))), some (.inr (.inl (6, p1))), some (.inl x2)] [] M K := by
  intro n
  induction n with
  | zero =>
    intro x2 M o h hk
    exact nomatch (show (none : Option (wc_M)) = some o from h)
  | succ n ih =>
    intro x2 M o h hk
    unfold l_A_blow_37 at h
    refine wg_blk 2 (i' := 39) (L' := [some (.inr (.inl (12, 0))), some (.inr (.inl (6, p1))), some (.inl x2)]) (st' := [.inl (16 : Int32), .inl x2]) (M' := M) rfl ?_
    refine wg_br (c := (16 : Int32) ≤ x2) (t := 50) (f := 40) (st' := []) rfl (fun hc => ?_) (fun hc => ?_)
    · rw [if_pos hc] at h
      obtain rfl := Option.some.inj h
      exact wg_wk (wk_n (wk_n (wk_n wk_e))) rfl hk
    · rw [if_neg hc] at h
      refine wg_blk 5 (i' := 45) (L' := [some (.inr (.inl (12, 0))), some (.inr (.inl (6, p1))), some (.inl x2)]) (st' := [.inl x2, .inr (.inl (6, p1)), .inr (.inl (12, 0)), .inl x2, .inr (.inl (12, 0))]) (M' := M) rfl ?_
      obtain ⟨v11, h10, h⟩ := wbs h
      refine wg_ca (d' := 1) (y := 75) (as := [.inr (.inl (12, 0)), .inr (.inl (6, p1)), .inl x2]) (rest := [.inl x2, .inr (.inl (12, 0))]) (r := some v11) (M' := M) rfl (Nat.le_of_ble_eq_true rfl) (s_A_on p1 x2 M _ h10) ?_
      refine wg_blk 1 (i' := 47) (L' := [some (.inr (.inl (12, 0))), some (.inr (.inl (6, p1))), some (.inl x2)]) (st' := [.inr (.inl (6, p1)), .inl v11, .inl x2, .inr (.inl (12, 0))]) (M' := M) rfl ?_
      obtain ⟨m13, h12, h⟩ := wbs h
      refine wg_ca (d' := 2) (y := 76) (as := [.inr (.inl (12, 0)), .inl x2, .inl v11, .inr (.inl (6, p1))]) (rest := []) (r := none) (M' := m13) rfl (Nat.le_of_ble_eq_true rfl) (s_A_part x2 v11 p1 M _ h12) ?_
      refine wg_blk 2 (i' := 37) (L' := [some (.inr (.inl (12, 0))), some (.inr (.inl (6, p1))), some (.inl (x2 + (1 : Int32)))]) (st' := []) (M' := m13) rfl ?_
      exact wg_wk (wk_s (wk_s (wk_s wk_e))) rfl (ih (x2 + (1 : Int32)) m13 _ h hk)
set_option maxRecDepth 20000 in
theorem s_A_blow (p1 : Nat) (M : wc_M) (z : wc_M) (h : f_A_blow p1 M = some z) : wc_Sd 3 74 [.inr (.inl (12, 0)), .inr (.inl (6, p1))] M none z := by
  unfold f_A_blow at h
  refine wg_Sd (Nat.le_of_ble_eq_true rfl) ?_
  show wg 2 wx0 none wk_74 0 [some (.inr (.inl (12, 0))), some (.inr (.inl (6, p1))), none] [] M _
  refine wg_blk 2 (i' := 2) (L' := [some (.inr (.inl (12, 0))), some (.inr (.inl (6, p1))), some (.inl (0 : Int32))]) (st' := []) (M' := M) rfl ?_
  obtain ⟨t5, h6, h⟩ := wbs h
  refine wg_wk (wk_s (wk_s (wk_s wk_e))) rfl (l_A_blow_2_ok p1 2000 (0 : Int32) M _ h6 ?_)
  refine wg_blk 2 (i' := 22) (L' := [some (.inr (.inl (12, 0))), some (.inr (.inl (6, p1))), some (.inl (0 : Int32))]) (st' := []) (M' := t5) rfl ?_
  obtain ⟨t8, h9, h⟩ := wbs h
  refine wg_wk (wk_s (wk_s (wk_s wk_e))) rfl (l_A_blow_22_ok p1 2000 (0 : Int32) t5 _ h9 ?_)
  refine wg_blk 5 (i' := 37) (L' := [some (.inr (.inl (12, 0))), some (.inr (.inl (6, p1))), some (.inl (0 : Int32))]) (st' := []) (M' := (wc_up t8 12 0 2 (0 : Int32))) rfl ?_
  obtain ⟨t14, h15, h⟩ := wbs h
  refine wg_wk (wk_s (wk_s (wk_s wk_e))) rfl (l_A_blow_37_ok p1 2000 (0 : Int32) (wc_up t8 12 0 2 (0 : Int32)) _ h15 ?_)
  obtain rfl := Option.some.inj h
  exact wg_re rfl trivial ⟨rfl, rfl⟩
