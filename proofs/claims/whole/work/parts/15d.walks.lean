/-! THE FUNCTIONS are what the code does (written by wip/whole/gen/dec.py) -/
set_option maxRecDepth 20000 in
theorem s_P_isTooMuch (p0 : Nat) (a1 : Int32) (a2 : Int32) (M : wc_M) (z : Int32) (h : f_P_isTooMuch p0 a1 a2 M = some z) : wc_Sd 2 71 [.inr (.inl (6, p0)), .inl a1, .inl a2] M (some z) M := by
  unfold f_P_isTooMuch at h
  refine wg_Sd (Nat.le_of_ble_eq_true rfl) ?_
  show wg 1 wx0 (some .boolean) wk_71 0 [some (.inr (.inl (6, p0))), some (.inl a1), some (.inl a2)] [] M _
  refine wg_blk 2 (i' := 2) (L' := [some (.inr (.inl (6, p0))), some (.inl a1), some (.inl a2)]) (st' := [.inl a1, .inr (.inl (6, p0))]) (M' := M) rfl ?_
  obtain ⟨v2, h1, h⟩ := wbs h
  refine wg_ca (d' := 1) (y := 69) (as := [.inr (.inl (6, p0)), .inl a1]) (rest := []) (r := some v2) (M' := M) rfl (Nat.le_of_ble_eq_true rfl) (s_P_hasWork p0 a1 M _ h1) ?_
  refine wg_br (c := v2 = (0 : Int32)) (t := 12) (f := 4) (st' := []) rfl (fun hc => ?_) (fun hc => ?_)
  · rw [if_pos hc] at h
    refine wg_blk 1 (i' := 13) (L' := [some (.inr (.inl (6, p0))), some (.inl a1), some (.inl a2)]) (st' := [.inl (0 : Int32)]) (M' := M) rfl ?_
    obtain rfl := Option.some.inj h
    exact wg_re rfl (by decide) ⟨rfl, rfl⟩
  · rw [if_neg hc] at h
    refine wg_blk 4 (i' := 8) (L' := [some (.inr (.inl (6, p0))), some (.inl a1), some (.inl a2)]) (st' := [.inl a1, .inr (.inl (10, p0)), .inl a2]) (M' := M) rfl ?_
    obtain ⟨hp3, h⟩ := wif h
    refine wg_ck (st' := [.inl (M 10 p0 (a1).toNatClampNeg), .inl a2]) (M' := M) rfl (wib_in hp3) ?_
    refine wg_br (c := a2 ≤ (M 10 p0 (a1).toNatClampNeg)) (t := 12) (f := 10) (st' := []) rfl (fun hc => ?_) (fun hc => ?_)
    · rw [if_pos hc] at h
      refine wg_blk 1 (i' := 13) (L' := [some (.inr (.inl (6, p0))), some (.inl a1), some (.inl a2)]) (st' := [.inl (0 : Int32)]) (M' := M) rfl ?_
      obtain rfl := Option.some.inj h
      exact wg_re rfl (by decide) ⟨rfl, rfl⟩
    · rw [if_neg hc] at h
      refine wg_blk 2 (i' := 13) (L' := [some (.inr (.inl (6, p0))), some (.inl a1), some (.inl a2)]) (st' := [.inl (1 : Int32)]) (M' := M) rfl ?_
      obtain rfl := Option.some.inj h
      exact wg_re rfl (by decide) ⟨rfl, rfl⟩
set_option maxRecDepth 20000 in
theorem l_P_breakAndRise_2_ok (p0 : Nat) {K : Option Int32 → wc_M → Prop} : ∀ (n : Nat) (x2 : Int32) (M : wc_M) (o : wc_M), l_P_breakAndRise_2 p0 n x2 M = some o → wg 2 wx0 none wk_73 17 [some (.inr (.inl (6, p0))), none, none] [] o K → wg 2 wx0 none wk_73 2 [some (.inr (.inl (6, p0))), some (.inr (.inl (13, 0))), some (.inl x2)] [] M K := by
  intro n
  induction n with
  | zero =>
    intro x2 M o h hk
    exact nomatch (show (none : Option (wc_M)) = some o from h)
  | succ n ih =>
    intro x2 M o h hk
    unfold l_P_breakAndRise_2 at h
    refine wg_blk 2 (i' := 4) (L' := [some (.inr (.inl (6, p0))), some (.inr (.inl (13, 0))), some (.inl x2)]) (st' := [.inl (16 : Int32), .inl x2]) (M' := M) rfl ?_
    refine wg_br (c := (16 : Int32) ≤ x2) (t := 17) (f := 5) (st' := []) rfl (fun hc => ?_) (fun hc => ?_)
    · rw [if_pos hc] at h
      obtain rfl := Option.some.inj h
      exact wg_wk (wk_s (wk_n (wk_n wk_e))) rfl hk
    · rw [if_neg hc] at h
      refine wg_blk 4 (i' := 9) (L' := [some (.inr (.inl (6, p0))), some (.inr (.inl (13, 0))), some (.inl x2)]) (st' := [.inl x2, .inr (.inl (13, 0)), .inl x2, .inr (.inl (6, p0))]) (M' := M) rfl ?_
      obtain ⟨hp1, h⟩ := wif h
      refine wg_ck (st' := [.inl (M 13 0 (x2).toNatClampNeg), .inl x2, .inr (.inl (6, p0))]) (M' := M) rfl (wib_in hp1) ?_
      obtain ⟨v3, h2, h⟩ := wbs h
      refine wg_ca (d' := 2) (y := 71) (as := [.inr (.inl (6, p0)), .inl x2, .inl (M 13 0 (x2).toNatClampNeg)]) (rest := []) (r := some v3) (M' := M) rfl (Nat.le_of_ble_eq_true rfl) (s_P_isTooMuch p0 x2 (M 13 0 (x2).toNatClampNeg) M _ h2) ?_
      refine wg_br (c := v3 = (0 : Int32)) (t := 15) (f := 12) (st' := []) rfl (fun hc => ?_) (fun hc => ?_)
      · rw [if_pos hc] at h
        refine wg_blk 2 (i' := 2) (L' := [some (.inr (.inl (6, p0))), some (.inr (.inl (13, 0))), some (.inl (x2 + (1 : Int32)))]) (st' := []) (M' := M) rfl ?_
        exact wg_wk (wk_s (wk_s (wk_s wk_e))) rfl (ih (x2 + (1 : Int32)) M _ h hk)
      · rw [if_neg hc] at h
        refine wg_blk 2 (i' := 14) (L' := [some (.inr (.inl (6, p0))), some (.inr (.inl (13, 0))), some (.inl x2)]) (st' := [.inl x2, .inr (.inl (6, p0))]) (M' := M) rfl ?_
        obtain ⟨m5, h4, h⟩ := wbs h
        refine wg_ca (d' := 2) (y := 68) (as := [.inr (.inl (6, p0)), .inl x2]) (rest := []) (r := none) (M' := m5) rfl (Nat.le_of_ble_eq_true rfl) (s_P_clear p0 x2 M _ h4) ?_
        refine wg_blk 2 (i' := 2) (L' := [some (.inr (.inl (6, p0))), some (.inr (.inl (13, 0))), some (.inl (x2 + (1 : Int32)))]) (st' := []) (M' := m5) rfl ?_
        exact wg_wk (wk_s (wk_s (wk_s wk_e))) rfl (ih (x2 + (1 : Int32)) m5 _ h hk)
set_option maxRecDepth 20000 in
theorem l_P_breakAndRise_25_ok (p0 : Nat) {K : Option Int32 → wc_M → Prop} : ∀ (n : Nat) (x2 : Int32) (M : wc_M) (o : wc_M), l_P_breakAndRise_25 p0 n x2 M = some o → wg 2 wx0 none wk_73 45 [none, none, none] [] o K → wg 2 wx0 none wk_73 25 [some (.inr (.inl (6, p0))), none, some (.inl x2)] [] M K := by
  intro n
  induction n with
  | zero =>
    intro x2 M o h hk
    exact nomatch (show (none : Option (wc_M)) = some o from h)
  | succ n ih =>
    intro x2 M o h hk
    unfold l_P_breakAndRise_25 at h
    refine wg_blk 2 (i' := 27) (L' := [some (.inr (.inl (6, p0))), none, some (.inl x2)]) (st' := [.inl (4 : Int32), .inl x2]) (M' := M) rfl ?_
    refine wg_br (c := (4 : Int32) ≤ x2) (t := 45) (f := 28) (st' := []) rfl (fun hc => ?_) (fun hc => ?_)
    · rw [if_pos hc] at h
      obtain rfl := Option.some.inj h
      exact wg_wk (wk_n (wk_n (wk_n wk_e))) rfl hk
    · rw [if_neg hc] at h
      refine wg_blk 6 (i' := 34) (L' := [some (.inr (.inl (6, p0))), none, some (.inl x2)]) (st' := [.inl x2, .inr (.inl (7, p0)), .inl x2, .inr (.inl (7, p0))]) (M' := M) rfl ?_
      obtain ⟨hp8, h⟩ := wif h
      refine wg_ck (st' := [.inl (M 7 p0 (x2).toNatClampNeg), .inl x2, .inr (.inl (7, p0))]) (M' := M) rfl (wib_in hp8) ?_
      refine wg_blk 3 (i' := 38) (L' := [some (.inr (.inl (6, p0))), none, some (.inl x2)]) (st' := [.inl x2, .inr (.inl (8, p0)), .inl (M 7 p0 (x2).toNatClampNeg), .inl x2, .inr (.inl (7, p0))]) (M' := M) rfl ?_
      refine wg_ck (st' := [.inl (M 8 p0 (x2).toNatClampNeg), .inl (M 7 p0 (x2).toNatClampNeg), .inl x2, .inr (.inl (7, p0))]) (M' := M) rfl (wib_in hp8) ?_
      refine wg_blk 2 (i' := 41) (L' := [some (.inr (.inl (6, p0))), none, some (.inl x2)]) (st' := [.inl (32 : Int32), .inl ((M 7 p0 (x2).toNatClampNeg) + (M 8 p0 (x2).toNatClampNeg)), .inl x2, .inr (.inl (7, p0))]) (M' := M) rfl ?_
      refine wg_ck (st' := [.inl (wc_rem ((M 7 p0 (x2).toNatClampNeg) + (M 8 p0 (x2).toNatClampNeg)) (32 : Int32)), .inl x2, .inr (.inl (7, p0))]) (M' := M) rfl (by decide) ?_
      refine wg_ck (st' := []) (M' := (wc_up M 7 p0 (x2).toNatClampNeg (wc_rem ((M 7 p0 (x2).toNatClampNeg) + (M 8 p0 (x2).toNatClampNeg)) (32 : Int32)))) rfl (wib_in hp8) ?_
      refine wg_blk 2 (i' := 25) (L' := [some (.inr (.inl (6, p0))), none, some (.inl (x2 + (1 : Int32)))]) (st' := []) (M' := (wc_up M 7 p0 (x2).toNatClampNeg (wc_rem ((M 7 p0 (x2).toNatClampNeg) + (M 8 p0 (x2).toNatClampNeg)) (32 : Int32)))) rfl ?_
      exact wg_wk (wk_s (wk_n (wk_s wk_e))) rfl (ih (x2 + (1 : Int32)) (wc_up M 7 p0 (x2).toNatClampNeg (wc_rem ((M 7 p0 (x2).toNatClampNeg) + (M 8 p0 (x2).toNatClampNeg)) (32 : Int32))) _ h hk)
set_option maxRecDepth 20000 in
theorem s_P_breakAndRise (p0 : Nat) (M : wc_M) (z : wc_M) (h : f_P_breakAndRise p0 M = some z) : wc_Sd 3 73 [.inr (.inl (6, p0)), .inr (.inl (13, 0))] M none z := by
  unfold f_P_breakAndRise at h
  refine wg_Sd (Nat.le_of_ble_eq_true rfl) ?_
  show wg 2 wx0 none wk_73 0 [some (.inr (.inl (6, p0))), some (.inr (.inl (13, 0))), none] [] M _
  refine wg_blk 2 (i' := 2) (L' := [some (.inr (.inl (6, p0))), some (.inr (.inl (13, 0))), some (.inl (0 : Int32))]) (st' := []) (M' := M) rfl ?_
  obtain ⟨t6, h7, h⟩ := wbs h
  refine wg_wk (wk_s (wk_s (wk_s wk_e))) rfl (l_P_breakAndRise_2_ok p0 2000 (0 : Int32) M _ h7 ?_)
  refine wg_blk 8 (i' := 25) (L' := [some (.inr (.inl (6, p0))), none, some (.inl (0 : Int32))]) (st' := []) (M' := (wc_up t6 6 p0 6 ((t6 6 p0 6) + (1 : Int32)))) rfl ?_
  obtain ⟨t9, h10, h⟩ := wbs h
  refine wg_wk (wk_s (wk_n (wk_s wk_e))) rfl (l_P_breakAndRise_25_ok p0 2000 (0 : Int32) (wc_up t6 6 p0 6 ((t6 6 p0 6) + (1 : Int32))) _ h10 ?_)
  obtain rfl := Option.some.inj h
  exact wg_re rfl trivial ⟨rfl, rfl⟩
set_option maxRecDepth 20000 in
theorem s_C_spendHour (p1 : Nat) (M : wc_M) (z : wc_M) (h : f_C_spendHour p1 M = some z) : wc_Sd 4 44 [.inr (.inl (0, 0)), .inr (.inl (6, p1))] M none z := by
  unfold f_C_spendHour at h
  refine wg_Sd (Nat.le_of_ble_eq_true rfl) ?_
  show wg 3 wx0 none wk_44 0 [some (.inr (.inl (0, 0))), some (.inr (.inl (6, p1)))] [] M _
  refine wg_blk 3 (i' := 3) (L' := [some (.inr (.inl (0, 0))), some (.inr (.inl (6, p1)))]) (st' := [.inr (.inl (6, p1)), .inr (.inl (12, 0))]) (M' := M) rfl ?_
  obtain ⟨m2, h1, h⟩ := wbs h
  refine wg_ca (d' := 3) (y := 74) (as := [.inr (.inl (12, 0)), .inr (.inl (6, p1))]) (rest := []) (r := none) (M' := m2) rfl (Nat.le_of_ble_eq_true rfl) (s_A_blow p1 M _ h1) ?_
  refine wg_blk 4 (i' := 8) (L' := [some (.inr (.inl (0, 0))), some (.inr (.inl (6, p1)))]) (st' := [.inr (.inl (13, 0)), .inr (.inl (6, p1))]) (M' := m2) rfl ?_
  obtain ⟨m4, h3, h⟩ := wbs h
  refine wg_ca (d' := 3) (y := 73) (as := [.inr (.inl (6, p1)), .inr (.inl (13, 0))]) (rest := []) (r := none) (M' := m4) rfl (Nat.le_of_ble_eq_true rfl) (s_P_breakAndRise p1 m2 _ h3) ?_
  obtain rfl := Option.some.inj h
  exact wg_re rfl trivial ⟨rfl, rfl⟩
set_option maxRecDepth 20000 in
theorem l_C_hours_25_ok (x1 : Int32) {K : Option Int32 → wc_M → Prop} : ∀ (n : Nat) (x2 : Int32) (M : wc_M) (o : wc_M), l_C_hours_25 x1 n x2 M = some o → wg 4 wx0 (some .int) wk_11 39 [some (.inr (.inl (0, 0))), none, none] [] o K → wg 4 wx0 (some .int) wk_11 25 [some (.inr (.inl (0, 0))), some (.inl x1), some (.inl x2)] [] M K := by
  intro n
  induction n with
  | zero =>
    intro x2 M o h hk
    exact nomatch (show (none : Option (wc_M)) = some o from h)
  | succ n ih =>
    intro x2 M o h hk
    unfold l_C_hours_25 at h
    refine wg_blk 2 (i' := 27) (L' := [some (.inr (.inl (0, 0))), some (.inl x1), some (.inl x2)]) (st' := [.inl x1, .inl x2]) (M' := M) rfl ?_
    refine wg_br (c := x1 ≤ x2) (t := 39) (f := 28) (st' := []) rfl (fun hc => ?_) (fun hc => ?_)
    · rw [if_pos hc] at h
      obtain rfl := Option.some.inj h
      exact wg_wk (wk_s (wk_n (wk_n wk_e))) rfl hk
    · rw [if_neg hc] at h
      refine wg_blk 4 (i' := 32) (L' := [some (.inr (.inl (0, 0))), some (.inl x1), some (.inl x2)]) (st' := [.inr (.inl (6, 0)), .inr (.inl (16, 0))]) (M' := M) rfl ?_
      obtain ⟨m2, h1, h⟩ := wbs h
      refine wg_ca (d' := 2) (y := 79) (as := [.inr (.inl (16, 0)), .inr (.inl (6, 0))]) (rest := []) (r := none) (M' := m2) rfl (Nat.le_of_ble_eq_true rfl) (s_H_keep 0 M _ h1) ?_
      refine wg_blk 3 (i' := 36) (L' := [some (.inr (.inl (0, 0))), some (.inl x1), some (.inl x2)]) (st' := [.inr (.inl (6, 0)), .inr (.inl (0, 0))]) (M' := m2) rfl ?_
      obtain ⟨m4, h3, h⟩ := wbs h
      refine wg_ca (d' := 4) (y := 44) (as := [.inr (.inl (0, 0)), .inr (.inl (6, 0))]) (rest := []) (r := none) (M' := m4) rfl (Nat.le_of_ble_eq_true rfl) (s_C_spendHour 0 m2 _ h3) ?_
      refine wg_blk 2 (i' := 25) (L' := [some (.inr (.inl (0, 0))), some (.inl x1), some (.inl (x2 + (1 : Int32)))]) (st' := []) (M' := m4) rfl ?_
      exact wg_wk (wk_s (wk_s (wk_s wk_e))) rfl (ih (x2 + (1 : Int32)) m4 _ h hk)
set_option maxRecDepth 20000 in
theorem s_C_hours (a1 : Int32) (M : wc_M) (z : Int32 × wc_M) (h : f_C_hours a1 M = some z) : wc_Sd 5 11 [.inr (.inl (0, 0)), .inl a1] M (some z.1) z.2 := by
  unfold f_C_hours at h
  refine wg_Sd (Nat.le_of_ble_eq_true rfl) ?_
  show wg 4 wx0 (some .int) wk_11 0 [some (.inr (.inl (0, 0))), some (.inl a1), none] [] M _
  refine wg_blk 3 (i' := 3) (L' := [some (.inr (.inl (0, 0))), some (.inl a1), none]) (st' := [.inl (M 6 0 5)]) (M' := M) rfl ?_
  refine wg_br (c := (M 6 0 5) = (0 : Int32)) (t := 4) (f := 6) (st' := []) rfl (fun hc => ?_) (fun hc => ?_)
  · rw [if_pos hc] at h
    refine wg_blk 1 (i' := 5) (L' := [some (.inr (.inl (0, 0))), some (.inl a1), none]) (st' := [.inl (-1000002 : Int32)]) (M' := M) rfl ?_
    obtain rfl := Option.some.inj h
    exact wg_re rfl trivial ⟨rfl, rfl⟩
  · rw [if_neg hc] at h
    refine wg_blk 2 (i' := 8) (L' := [some (.inr (.inl (0, 0))), some (.inl a1), none]) (st' := [.inl (1 : Int32), .inl a1]) (M' := M) rfl ?_
    refine wg_br (c := a1 < (1 : Int32)) (t := 12) (f := 9) (st' := []) rfl (fun hc => ?_) (fun hc => ?_)
    · rw [if_pos hc] at h
      refine wg_blk 1 (i' := 13) (L' := [some (.inr (.inl (0, 0))), some (.inl a1), none]) (st' := [.inl (-1000001 : Int32)]) (M' := M) rfl ?_
      obtain rfl := Option.some.inj h
      exact wg_re rfl trivial ⟨rfl, rfl⟩
    · rw [if_neg hc] at h
      refine wg_blk 2 (i' := 11) (L' := [some (.inr (.inl (0, 0))), some (.inl a1), none]) (st' := [.inl (20 : Int32), .inl a1]) (M' := M) rfl ?_
      refine wg_br (c := a1 ≤ (20 : Int32)) (t := 14) (f := 12) (st' := []) rfl (fun hc => ?_) (fun hc => ?_)
      · rw [if_pos hc] at h
        refine wg_blk 6 (i' := 20) (L' := [some (.inr (.inl (0, 0))), some (.inl a1), none]) (st' := [.inl (999 : Int32), .inl ((M 6 0 6) + a1)]) (M' := M) rfl ?_
        refine wg_br (c := ((M 6 0 6) + a1) ≤ (999 : Int32)) (t := 23) (f := 21) (st' := []) rfl (fun hc => ?_) (fun hc => ?_)
        · rw [if_pos hc] at h
          refine wg_blk 2 (i' := 25) (L' := [some (.inr (.inl (0, 0))), some (.inl a1), some (.inl (0 : Int32))]) (st' := []) (M' := M) rfl ?_
          obtain ⟨t5, h6, h⟩ := wbs h
          refine wg_wk (wk_s (wk_s (wk_s wk_e))) rfl (l_C_hours_25_ok a1 2000 (0 : Int32) M _ h6 ?_)
          refine wg_blk 2 (i' := 41) (L' := [some (.inr (.inl (0, 0))), none, none]) (st' := [.inr (.inl (6, 0))]) (M' := t5) rfl ?_
          obtain ⟨v8, h7, h⟩ := wbs h
          refine wg_ca (d' := 2) (y := 70) (as := [.inr (.inl (6, 0))]) (rest := []) (r := some v8) (M' := t5) rfl (Nat.le_of_ble_eq_true rfl) (s_P_works 0 t5 _ h7) ?_
          obtain rfl := Option.some.inj h
          exact wg_re rfl trivial ⟨rfl, rfl⟩
        · rw [if_neg hc] at h
          refine wg_blk 1 (i' := 22) (L' := [some (.inr (.inl (0, 0))), some (.inl a1), none]) (st' := [.inl (-1000003 : Int32)]) (M' := M) rfl ?_
          obtain rfl := Option.some.inj h
          exact wg_re rfl trivial ⟨rfl, rfl⟩
      · rw [if_neg hc] at h
        refine wg_blk 1 (i' := 13) (L' := [some (.inr (.inl (0, 0))), some (.inl a1), none]) (st' := [.inl (-1000001 : Int32)]) (M' := M) rfl ?_
        obtain rfl := Option.some.inj h
        exact wg_re rfl trivial ⟨rfl, rfl⟩
set_option maxRecDepth 20000 in
theorem s_M_goes (a1 : Int32) (a2 : Int32) (a3 : Int32) (M : wc_M) (z : wc_M) (h : f_M_goes a1 a2 a3 M = some z) : wc_Sd 3 111 [.inr (.inl (21, 0)), .inl a1, .inl a2, .inl a3] M none z := by
  unfold f_M_goes at h
  refine wg_Sd (Nat.le_of_ble_eq_true rfl) ?_
  show wg 2 wx0 none wk_111 0 [some (.inr (.inl (21, 0))), some (.inl a1), some (.inl a2), some (.inl a3)] [] M _
  refine wg_blk 1 (i' := 1) (L' := [some (.inr (.inl (21, 0))), some (.inl a1), some (.inl a2), some (.inl a3)]) (st' := [.inl a2]) (M' := M) rfl ?_
  refine wg_ca (d' := 2) (y := 109) (as := [.inl a2]) (rest := []) (r := some (f_M_isRowOfPass a2)) (M' := M) rfl (Nat.le_of_ble_eq_true rfl) (s_M_isRowOfPass a2 M _ rfl) ?_
  refine wg_br (c := (f_M_isRowOfPass a2) = (0 : Int32)) (t := 18) (f := 3) (st' := []) rfl (fun hc => ?_) (fun hc => ?_)
  · rw [if_pos hc] at h
    refine wg_blk 6 (i' := 24) (L' := [some (.inr (.inl (21, 0))), some (.inl a1), some (.inl a2), some (.inl a3)]) (st' := []) (M' := (wc_up M 21 0 19 ((M 21 0 19) + a3))) rfl ?_
    obtain rfl := Option.some.inj h
    exact wg_re rfl trivial ⟨rfl, rfl⟩
  · rw [if_neg hc] at h
    refine wg_blk 10 (i' := 13) (L' := [some (.inr (.inl (21, 0))), some (.inl a1), some (.inl a2), some (.inl a3)]) (st' := [.inl ((((4 : Int32) * a1) + (4 : Int32)) + a2), .inr (.inl (29, 0)), .inl ((((4 : Int32) * a1) + (4 : Int32)) + a2), .inr (.inl (29, 0))]) (M' := M) rfl ?_
    obtain ⟨hp1, h⟩ := wif h
    refine wg_ck (st' := [.inl (M 29 0 (((((4 : Int32) * a1) + (4 : Int32)) + a2)).toNatClampNeg), .inl ((((4 : Int32) * a1) + (4 : Int32)) + a2), .inr (.inl (29, 0))]) (M' := M) rfl (wib_in hp1) ?_
    refine wg_blk 2 (i' := 16) (L' := [some (.inr (.inl (21, 0))), some (.inl a1), some (.inl a2), some (.inl a3)]) (st' := [.inl ((M 29 0 (((((4 : Int32) * a1) + (4 : Int32)) + a2)).toNatClampNeg) + a3), .inl ((((4 : Int32) * a1) + (4 : Int32)) + a2), .inr (.inl (29, 0))]) (M' := M) rfl ?_
    refine wg_ck (st' := []) (M' := (wc_up M 29 0 (((((4 : Int32) * a1) + (4 : Int32)) + a2)).toNatClampNeg ((M 29 0 (((((4 : Int32) * a1) + (4 : Int32)) + a2)).toNatClampNeg) + a3))) rfl (wib_in hp1) ?_
    refine wg_blk 1 (i' := 24) (L' := [some (.inr (.inl (21, 0))), some (.inl a1), some (.inl a2), some (.inl a3)]) (st' := []) (M' := (wc_up M 29 0 (((((4 : Int32) * a1) + (4 : Int32)) + a2)).toNatClampNeg ((M 29 0 (((((4 : Int32) * a1) + (4 : Int32)) + a2)).toNatClampNeg) + a3))) rfl ?_
    obtain rfl := Option.some.inj h
    exact wg_re rfl trivial ⟨rfl, rfl⟩
set_option maxRecDepth 20000 in
theorem l_M_blow_5_ok {K : Option Int32 → wc_M → Prop} : ∀ (n : Nat) (x1 : Int32) (M : wc_M) (o : wc_M), l_M_blow_5 n x1 M = some o → wg 3 wx0 none wk_112 25 [some (.inr (.inl (21, 0))), none, none, none, none, none, none, none, none] [] o K → wg 3 wx0 none wk_112 5 [some (.inr (.inl (21, 0))), some (.inl x1), none, none, none, none, none, none, none] [] M K := by
  intro n
  induction n with
  | zero =>
    intro x1 M o h hk
    exact nomatch (show (none : Option (wc_M)) = some o from h)
  | succ n ih =>
    intro x1 M o h hk
    unfold l_M_blow_5 at h
    refine wg_blk 2 (i' := 7) (L' := [some (.inr (.inl (21, 0))), some (.inl x1), none, none, none, none, none, none, none]) (st' := [.inl (20 : Int32), .inl x1]) (M' := M) rfl ?_
    refine wg_br (c := (20 : Int32) ≤ x1) (t := 25) (f := 8) (st' := []) rfl (fun hc => ?_) (fun hc => ?_)
    · rw [if_pos hc] at h
      obtain rfl := Option.some.inj h
      exact wg_wk (wk_s (wk_n (wk_n (wk_n (wk_n (wk_n (wk_n (wk_n (wk_n wk_e))))))))) rfl hk
    · rw [if_neg hc] at h
      refine wg_blk 5 (i' := 13) (L' := [some (.inr (.inl (21, 0))), some (.inl x1), none, none, none, none, none, none, none]) (st' := [.inl (4 : Int32), .inl x1, .inl x1, .inr (.inl (29, 0))]) (M' := M) rfl ?_
      obtain ⟨t1, h4, h⟩ := wbs h
      have k : wg 3 wx0 none wk_112 22 [some (.inr (.inl (21, 0))), some (.inl x1), none, none, none, none, none, none, none] [.inl t1, .inl x1, .inr (.inl (29, 0))] M K := by
        obtain ⟨hp3, h⟩ := wif h
        refine wg_ck (st' := []) (M' := (wc_up M 29 0 (x1).toNatClampNeg t1)) rfl (wib_in hp3) ?_
        refine wg_blk 2 (i' := 5) (L' := [some (.inr (.inl (21, 0))), some (.inl (x1 + (1 : Int32))), none, none, none, none, none, none, none]) (st' := []) (M' := (wc_up M 29 0 (x1).toNatClampNeg t1)) rfl ?_
        exact wg_wk (wk_s (wk_s (wk_n (wk_n (wk_n (wk_n (wk_n (wk_n (wk_n wk_e))))))))) rfl (ih (x1 + (1 : Int32)) (wc_up M 29 0 (x1).toNatClampNeg t1) _ h hk)
      clear h
      have h := h4
      clear h4
      refine wg_br (c := (4 : Int32) ≤ x1) (t := 21) (f := 14) (st' := [.inl x1, .inr (.inl (29, 0))]) rfl (fun hc => ?_) (fun hc => ?_)
      · rw [if_pos hc] at h
        refine wg_blk 1 (i' := 22) (L' := [some (.inr (.inl (21, 0))), some (.inl x1), none, none, none, none, none, none, none]) (st' := [.inl (0 : Int32), .inl x1, .inr (.inl (29, 0))]) (M' := M) rfl ?_
        obtain rfl := Option.some.inj h
        exact wg_wk (wk_s (wk_s (wk_n (wk_n (wk_n (wk_n (wk_n (wk_n (wk_n wk_e))))))))) rfl k
      · rw [if_neg hc] at h
        refine wg_blk 5 (i' := 19) (L' := [some (.inr (.inl (21, 0))), some (.inl x1), none, none, none, none, none, none, none]) (st' := [.inl ((1 : Int32) + x1), .inr (.inl (25, 0)), .inl x1, .inr (.inl (29, 0))]) (M' := M) rfl ?_
        obtain ⟨hp2, h⟩ := wif h
        refine wg_ck (st' := [.inl (M 25 0 (((1 : Int32) + x1)).toNatClampNeg), .inl x1, .inr (.inl (29, 0))]) (M' := M) rfl (wib_in hp2) ?_
        refine wg_blk 1 (i' := 22) (L' := [some (.inr (.inl (21, 0))), some (.inl x1), none, none, none, none, none, none, none]) (st' := [.inl (M 25 0 (((1 : Int32) + x1)).toNatClampNeg), .inl x1, .inr (.inl (29, 0))]) (M' := M) rfl ?_
        obtain rfl := Option.some.inj h
        exact wg_wk (wk_s (wk_s (wk_n (wk_n (wk_n (wk_n (wk_n (wk_n (wk_n wk_e))))))))) rfl k
set_option maxRecDepth 20000 in
theorem l_M_blow_27_ok {K : Option Int32 → wc_M → Prop} : ∀ (n : Nat) (x1 : Int32) (M : wc_M) (o : wc_M), l_M_blow_27 n x1 M = some o → wg 3 wx0 none wk_112 131 [none, none, none, none, none, none, none, none, none] [] o K → wg 3 wx0 none wk_112 27 [some (.inr (.inl (21, 0))), some (.inl x1), none, none, none, none, none, none, none] [] M K := by
  intro n
  induction n with
  | zero =>
    intro x1 M o h hk
    exact nomatch (show (none : Option (wc_M)) = some o from h)
  | succ n ih =>
    intro x1 M o h hk
    unfold l_M_blow_27 at h
    refine wg_blk 2 (i' := 29) (L' := [some (.inr (.inl (21, 0))), some (.inl x1), none, none, none, none, none, none, none]) (st' := [.inl (16 : Int32), .inl x1]) (M' := M) rfl ?_
    refine wg_br (c := (16 : Int32) ≤ x1) (t := 131) (f := 30) (st' := []) rfl (fun hc => ?_) (fun hc => ?_)
    · rw [if_pos hc] at h
      obtain rfl := Option.some.inj h
      exact wg_wk (wk_n (wk_n (wk_n (wk_n (wk_n (wk_n (wk_n (wk_n (wk_n wk_e))))))))) rfl hk
    · rw [if_neg hc] at h
      refine wg_blk 2 (i' := 32) (L' := [some (.inr (.inl (21, 0))), some (.inl x1), none, none, none, none, none, none, none]) (st' := [.inl (4 : Int32), .inl x1]) (M' := M) rfl ?_
      refine wg_ck (st' := [.inl (x1 / (4 : Int32))]) (M' := M) rfl (by decide) ?_
      refine wg_blk 3 (i' := 36) (L' := [some (.inr (.inl (21, 0))), some (.inl x1), some (.inl (x1 / (4 : Int32))), none, none, none, none, none, none]) (st' := [.inl (4 : Int32), .inl x1]) (M' := M) rfl ?_
      refine wg_ck (st' := [.inl (wc_rem x1 (4 : Int32))]) (M' := M) rfl (by decide) ?_
      refine wg_blk 4 (i' := 41) (L' := [some (.inr (.inl (21, 0))), some (.inl x1), some (.inl (x1 / (4 : Int32))), some (.inl (wc_rem x1 (4 : Int32))), none, none, none, none, none]) (st' := [.inl x1, .inr (.inl (29, 0))]) (M' := M) rfl ?_
      obtain ⟨hp7, h⟩ := wif h
      refine wg_ck (st' := [.inl (M 29 0 (x1).toNatClampNeg)]) (M' := M) rfl (wib_in hp7) ?_
      refine wg_blk 6 (i' := 48) (L' := [some (.inr (.inl (21, 0))), some (.inl x1), some (.inl (x1 / (4 : Int32))), some (.inl (wc_rem x1 (4 : Int32))), some (.inl (M 29 0 (x1).toNatClampNeg)), none, none, none, none]) (st' := [.inl ((9 : Int32) + x1), .inr (.inl (25, 0))]) (M' := M) rfl ?_
      obtain ⟨hp8, h⟩ := wif h
      refine wg_ck (st' := [.inl (M 25 0 (((9 : Int32) + x1)).toNatClampNeg)]) (M' := M) rfl (wib_in hp8) ?_
      refine wg_blk 3 (i' := 52) (L' := [some (.inr (.inl (21, 0))), some (.inl x1), some (.inl (x1 / (4 : Int32))), some (.inl (wc_rem x1 (4 : Int32))), some (.inl (M 29 0 (x1).toNatClampNeg)), some (.inl (M 25 0 (((9 : Int32) + x1)).toNatClampNeg)), none, none, none]) (st' := [.inl (4 : Int32), .inl (M 25 0 (((9 : Int32) + x1)).toNatClampNeg)]) (M' := M) rfl ?_
      obtain ⟨t9, h21, h⟩ := wbs h
      have k : wg 3 wx0 none wk_112 66 [some (.inr (.inl (21, 0))), some (.inl x1), some (.inl (x1 / (4 : Int32))), some (.inl (wc_rem x1 (4 : Int32))), some (.inl (M 29 0 (x1).toNatClampNeg)), some (.inl (M 25 0 (((9 : Int32) + x1)).toNatClampNeg)), none, none, none] [.inl t9] M K := by
        refine wg_blk 2 (i' := 68) (L' := [some (.inr (.inl (21, 0))), some (.inl x1), some (.inl (x1 / (4 : Int32))), some (.inl (wc_rem x1 (4 : Int32))), some (.inl (M 29 0 (x1).toNatClampNeg)), some (.inl (M 25 0 (((9 : Int32) + x1)).toNatClampNeg)), some (.inl t9), none, none]) (st' := [.inl (M 25 0 (((9 : Int32) + x1)).toNatClampNeg)]) (M' := M) rfl ?_
        obtain ⟨t10, h20, h⟩ := wbs h
        have k : wg 3 wx0 none wk_112 90 [some (.inr (.inl (21, 0))), some (.inl x1), some (.inl (x1 / (4 : Int32))), some (.inl (wc_rem x1 (4 : Int32))), some (.inl (M 29 0 (x1).toNatClampNeg)), some (.inl (M 25 0 (((9 : Int32) + x1)).toNatClampNeg)), some (.inl t9), none, none] [.inl t10] M K := by
          refine wg_blk 3 (i' := 93) (L' := [some (.inr (.inl (21, 0))), some (.inl x1), some (.inl (x1 / (4 : Int32))), some (.inl (wc_rem x1 (4 : Int32))), some (.inl (M 29 0 (x1).toNatClampNeg)), some (.inl (M 25 0 (((9 : Int32) + x1)).toNatClampNeg)), some (.inl t9), some (.inl t10), none]) (st' := [.inl (4 : Int32), .inl (M 25 0 (((9 : Int32) + x1)).toNatClampNeg)]) (M' := M) rfl ?_
          obtain ⟨t12, h19, h⟩ := wbs h
          have k : wg 3 wx0 none wk_112 105 [some (.inr (.inl (21, 0))), some (.inl x1), some (.inl (x1 / (4 : Int32))), some (.inl (wc_rem x1 (4 : Int32))), some (.inl (M 29 0 (x1).toNatClampNeg)), none, none, some (.inl t10), none] [.inl t12] M K := by
            refine wg_blk 5 (i' := 110) (L' := [some (.inr (.inl (21, 0))), some (.inl x1), some (.inl (x1 / (4 : Int32))), some (.inl (wc_rem x1 (4 : Int32))), some (.inl (M 29 0 (x1).toNatClampNeg)), none, none, some (.inl t10), some (.inl t12)]) (st' := [.inl t10, .inl (wc_rem x1 (4 : Int32)), .inl (x1 / (4 : Int32)), .inr (.inl (21, 0))]) (M' := M) rfl ?_
            obtain ⟨m14, h13, h⟩ := wbs h
            refine wg_ca (d' := 3) (y := 111) (as := [.inr (.inl (21, 0)), .inl (x1 / (4 : Int32)), .inl (wc_rem x1 (4 : Int32)), .inl t10]) (rest := []) (r := none) (M' := m14) rfl (Nat.le_of_ble_eq_true rfl) (s_M_goes (x1 / (4 : Int32)) (wc_rem x1 (4 : Int32)) t10 M _ h13) ?_
            refine wg_blk 6 (i' := 117) (L' := [some (.inr (.inl (21, 0))), some (.inl x1), some (.inl (x1 / (4 : Int32))), some (.inl (wc_rem x1 (4 : Int32))), some (.inl (M 29 0 (x1).toNatClampNeg)), none, none, some (.inl t10), some (.inl t12)]) (st' := [.inl t12, .inl ((wc_rem x1 (4 : Int32)) - (1 : Int32)), .inl (x1 / (4 : Int32)), .inr (.inl (21, 0))]) (M' := m14) rfl ?_
            obtain ⟨m16, h15, h⟩ := wbs h
            refine wg_ca (d' := 3) (y := 111) (as := [.inr (.inl (21, 0)), .inl (x1 / (4 : Int32)), .inl ((wc_rem x1 (4 : Int32)) - (1 : Int32)), .inl t12]) (rest := []) (r := none) (M' := m16) rfl (Nat.le_of_ble_eq_true rfl) (s_M_goes (x1 / (4 : Int32)) ((wc_rem x1 (4 : Int32)) - (1 : Int32)) t12 m14 _ h15) ?_
            refine wg_blk 10 (i' := 128) (L' := [some (.inr (.inl (21, 0))), some (.inl x1), some (.inl (x1 / (4 : Int32))), some (.inl (wc_rem x1 (4 : Int32))), some (.inl (M 29 0 (x1).toNatClampNeg)), none, none, some (.inl t10), some (.inl t12)]) (st' := [.inl (((M 29 0 (x1).toNatClampNeg) - t10) - t12), .inl ((wc_rem x1 (4 : Int32)) + (1 : Int32)), .inl (x1 / (4 : Int32)), .inr (.inl (21, 0))]) (M' := m16) rfl ?_
            obtain ⟨m18, h17, h⟩ := wbs h
            refine wg_ca (d' := 3) (y := 111) (as := [.inr (.inl (21, 0)), .inl (x1 / (4 : Int32)), .inl ((wc_rem x1 (4 : Int32)) + (1 : Int32)), .inl (((M 29 0 (x1).toNatClampNeg) - t10) - t12)]) (rest := []) (r := none) (M' := m18) rfl (Nat.le_of_ble_eq_true rfl) (s_M_goes (x1 / (4 : Int32)) ((wc_rem x1 (4 : Int32)) + (1 : Int32)) (((M 29 0 (x1).toNatClampNeg) - t10) - t12) m16 _ h17) ?_
            refine wg_blk 2 (i' := 27) (L' := [some (.inr (.inl (21, 0))), some (.inl (x1 + (1 : Int32))), some (.inl (x1 / (4 : Int32))), some (.inl (wc_rem x1 (4 : Int32))), some (.inl (M 29 0 (x1).toNatClampNeg)), none, none, some (.inl t10), some (.inl t12)]) (st' := []) (M' := m18) rfl ?_
            exact wg_wk (wk_s (wk_s (wk_n (wk_n (wk_n (wk_n (wk_n (wk_n (wk_n wk_e))))))))) rfl (ih (x1 + (1 : Int32)) m18 _ h hk)
          clear h
          have h := h19
          clear h19
          refine wg_br (c := (M 25 0 (((9 : Int32) + x1)).toNatClampNeg) < (4 : Int32)) (t := 100) (f := 94) (st' := []) rfl (fun hc => ?_) (fun hc => ?_)
          · rw [if_pos hc] at h
            refine wg_blk 4 (i' := 104) (L' := [some (.inr (.inl (21, 0))), some (.inl x1), some (.inl (x1 / (4 : Int32))), some (.inl (wc_rem x1 (4 : Int32))), some (.inl (M 29 0 (x1).toNatClampNeg)), some (.inl (M 25 0 (((9 : Int32) + x1)).toNatClampNeg)), some (.inl t9), some (.inl t10), none]) (st' := [.inl (2 : Int32), .inl ((M 29 0 (x1).toNatClampNeg) - t10)]) (M' := M) rfl ?_
            refine wg_ck (st' := [.inl (((M 29 0 (x1).toNatClampNeg) - t10) / (2 : Int32))]) (M' := M) rfl (by decide) ?_
            obtain rfl := Option.some.inj h
            exact wg_wk (wk_s (wk_s (wk_s (wk_s (wk_s (wk_n (wk_n (wk_s (wk_n wk_e))))))))) rfl k
          · rw [if_neg hc] at h
            refine wg_blk 1 (i' := 95) (L' := [some (.inr (.inl (21, 0))), some (.inl x1), some (.inl (x1 / (4 : Int32))), some (.inl (wc_rem x1 (4 : Int32))), some (.inl (M 29 0 (x1).toNatClampNeg)), some (.inl (M 25 0 (((9 : Int32) + x1)).toNatClampNeg)), some (.inl t9), some (.inl t10), none]) (st' := [.inl t9]) (M' := M) rfl ?_
            refine wg_br (c := t9 = (0 : Int32)) (t := 98) (f := 96) (st' := []) rfl (fun hc => ?_) (fun hc => ?_)
            · rw [if_pos hc] at h
              refine wg_blk 2 (i' := 105) (L' := [some (.inr (.inl (21, 0))), some (.inl x1), some (.inl (x1 / (4 : Int32))), some (.inl (wc_rem x1 (4 : Int32))), some (.inl (M 29 0 (x1).toNatClampNeg)), some (.inl (M 25 0 (((9 : Int32) + x1)).toNatClampNeg)), some (.inl t9), some (.inl t10), none]) (st' := [.inl (0 : Int32)]) (M' := M) rfl ?_
              obtain rfl := Option.some.inj h
              exact wg_wk (wk_s (wk_s (wk_s (wk_s (wk_s (wk_n (wk_n (wk_s (wk_n wk_e))))))))) rfl k
            · rw [if_neg hc] at h
              refine wg_blk 2 (i' := 105) (L' := [some (.inr (.inl (21, 0))), some (.inl x1), some (.inl (x1 / (4 : Int32))), some (.inl (wc_rem x1 (4 : Int32))), some (.inl (M 29 0 (x1).toNatClampNeg)), some (.inl (M 25 0 (((9 : Int32) + x1)).toNatClampNeg)), some (.inl t9), some (.inl t10), none]) (st' := [.inl (M 29 0 (x1).toNatClampNeg)]) (M' := M) rfl ?_
              obtain rfl := Option.some.inj h
              exact wg_wk (wk_s (wk_s (wk_s (wk_s (wk_s (wk_n (wk_n (wk_s (wk_n wk_e))))))))) rfl k
        clear h
        have h := h20
        clear h20
        refine wg_br (c := (M 25 0 (((9 : Int32) + x1)).toNatClampNeg) = (0 : Int32)) (t := 80) (f := 69) (st' := []) rfl (fun hc => ?_) (fun hc => ?_)
        · rw [if_pos hc] at h
          refine wg_blk 2 (i' := 90) (L' := [some (.inr (.inl (21, 0))), some (.inl x1), some (.inl (x1 / (4 : Int32))), some (.inl (wc_rem x1 (4 : Int32))), some (.inl (M 29 0 (x1).toNatClampNeg)), some (.inl (M 25 0 (((9 : Int32) + x1)).toNatClampNeg)), some (.inl t9), none, none]) (st' := [.inl (M 29 0 (x1).toNatClampNeg)]) (M' := M) rfl ?_
          obtain rfl := Option.some.inj h
          exact wg_wk (wk_s (wk_s (wk_s (wk_s (wk_s (wk_s (wk_s (wk_n (wk_n wk_e))))))))) rfl k
        · rw [if_neg hc] at h
          refine wg_blk 2 (i' := 71) (L' := [some (.inr (.inl (21, 0))), some (.inl x1), some (.inl (x1 / (4 : Int32))), some (.inl (wc_rem x1 (4 : Int32))), some (.inl (M 29 0 (x1).toNatClampNeg)), some (.inl (M 25 0 (((9 : Int32) + x1)).toNatClampNeg)), some (.inl t9), none, none]) (st' := [.inl (3 : Int32), .inl (M 25 0 (((9 : Int32) + x1)).toNatClampNeg)]) (M' := M) rfl ?_
          refine wg_br (c := (M 25 0 (((9 : Int32) + x1)).toNatClampNeg) = (3 : Int32)) (t := 72) (f := 82) (st' := []) rfl (fun hc => ?_) (fun hc => ?_)
          · rw [if_pos hc] at h
            refine wg_blk 5 (i' := 77) (L' := [some (.inr (.inl (21, 0))), some (.inl x1), some (.inl (x1 / (4 : Int32))), some (.inl (wc_rem x1 (4 : Int32))), some (.inl (M 29 0 (x1).toNatClampNeg)), some (.inl (M 25 0 (((9 : Int32) + x1)).toNatClampNeg)), some (.inl t9), none, none]) (st' := [.inl ((41 : Int32) + x1), .inr (.inl (25, 0))]) (M' := M) rfl ?_
            obtain ⟨hp11, h⟩ := wif h
            refine wg_ck (st' := [.inl (M 25 0 (((41 : Int32) + x1)).toNatClampNeg)]) (M' := M) rfl (wib_in hp11) ?_
            refine wg_blk 1 (i' := 79) (L' := [some (.inr (.inl (21, 0))), some (.inl x1), some (.inl (x1 / (4 : Int32))), some (.inl (wc_rem x1 (4 : Int32))), some (.inl (M 29 0 (x1).toNatClampNeg)), some (.inl (M 25 0 (((9 : Int32) + x1)).toNatClampNeg)), some (.inl t9), none, none]) (st' := [.inl (1 : Int32), .inl (M 25 0 (((41 : Int32) + x1)).toNatClampNeg)]) (M' := M) rfl ?_
            refine wg_br (c := (M 25 0 (((41 : Int32) + x1)).toNatClampNeg) = (1 : Int32)) (t := 80) (f := 82) (st' := []) rfl (fun hc => ?_) (fun hc => ?_)
            · rw [if_pos hc] at h
              refine wg_blk 2 (i' := 90) (L' := [some (.inr (.inl (21, 0))), some (.inl x1), some (.inl (x1 / (4 : Int32))), some (.inl (wc_rem x1 (4 : Int32))), some (.inl (M 29 0 (x1).toNatClampNeg)), some (.inl (M 25 0 (((9 : Int32) + x1)).toNatClampNeg)), some (.inl t9), none, none]) (st' := [.inl (M 29 0 (x1).toNatClampNeg)]) (M' := M) rfl ?_
              obtain rfl := Option.some.inj h
              exact wg_wk (wk_s (wk_s (wk_s (wk_s (wk_s (wk_s (wk_s (wk_n (wk_n wk_e))))))))) rfl k
            · rw [if_neg hc] at h
              refine wg_blk 2 (i' := 84) (L' := [some (.inr (.inl (21, 0))), some (.inl x1), some (.inl (x1 / (4 : Int32))), some (.inl (wc_rem x1 (4 : Int32))), some (.inl (M 29 0 (x1).toNatClampNeg)), some (.inl (M 25 0 (((9 : Int32) + x1)).toNatClampNeg)), some (.inl t9), none, none]) (st' := [.inl (2 : Int32), .inl (M 25 0 (((9 : Int32) + x1)).toNatClampNeg)]) (M' := M) rfl ?_
              refine wg_br (c := (M 25 0 (((9 : Int32) + x1)).toNatClampNeg) = (2 : Int32)) (t := 85) (f := 89) (st' := []) rfl (fun hc => ?_) (fun hc => ?_)
              · rw [if_pos hc] at h
                refine wg_blk 2 (i' := 87) (L' := [some (.inr (.inl (21, 0))), some (.inl x1), some (.inl (x1 / (4 : Int32))), some (.inl (wc_rem x1 (4 : Int32))), some (.inl (M 29 0 (x1).toNatClampNeg)), some (.inl (M 25 0 (((9 : Int32) + x1)).toNatClampNeg)), some (.inl t9), none, none]) (st' := [.inl (2 : Int32), .inl (M 29 0 (x1).toNatClampNeg)]) (M' := M) rfl ?_
                refine wg_ck (st' := [.inl ((M 29 0 (x1).toNatClampNeg) / (2 : Int32))]) (M' := M) rfl (by decide) ?_
                refine wg_blk 1 (i' := 90) (L' := [some (.inr (.inl (21, 0))), some (.inl x1), some (.inl (x1 / (4 : Int32))), some (.inl (wc_rem x1 (4 : Int32))), some (.inl (M 29 0 (x1).toNatClampNeg)), some (.inl (M 25 0 (((9 : Int32) + x1)).toNatClampNeg)), some (.inl t9), none, none]) (st' := [.inl ((M 29 0 (x1).toNatClampNeg) / (2 : Int32))]) (M' := M) rfl ?_
                obtain rfl := Option.some.inj h
                exact wg_wk (wk_s (wk_s (wk_s (wk_s (wk_s (wk_s (wk_s (wk_n (wk_n wk_e))))))))) rfl k
              · rw [if_neg hc] at h
                refine wg_blk 1 (i' := 90) (L' := [some (.inr (.inl (21, 0))), some (.inl x1), some (.inl (x1 / (4 : Int32))), some (.inl (wc_rem x1 (4 : Int32))), some (.inl (M 29 0 (x1).toNatClampNeg)), some (.inl (M 25 0 (((9 : Int32) + x1)).toNatClampNeg)), some (.inl t9), none, none]) (st' := [.inl (0 : Int32)]) (M' := M) rfl ?_
                obtain rfl := Option.some.inj h
                exact wg_wk (wk_s (wk_s (wk_s (wk_s (wk_s (wk_s (wk_s (wk_n (wk_n wk_e))))))))) rfl k
          · rw [if_neg hc] at h
            refine wg_blk 2 (i' := 84) (L' := [some (.inr (.inl (21, 0))), some (.inl x1), some (.inl (x1 / (4 : Int32))), some (.inl (wc_rem x1 (4 : Int32))), some (.inl (M 29 0 (x1).toNatClampNeg)), some (.inl (M 25 0 (((9 : Int32) + x1)).toNatClampNeg)), some (.inl t9), none, none]) (st' := [.inl (2 : Int32), .inl (M 25 0 (((9 : Int32) + x1)).toNatClampNeg)]) (M' := M) rfl ?_
            refine wg_br (c := (M 25 0 (((9 : Int32) + x1)).toNatClampNeg) = (2 : Int32)) (t := 85) (f := 89) (st' := []) rfl (fun hc => ?_) (fun hc => ?_)
            · rw [if_pos hc] at h
              refine wg_blk 2 (i' := 87) (L' := [some (.inr (.inl (21, 0))), some (.inl x1), some (.inl (x1 / (4 : Int32))), some (.inl (wc_rem x1 (4 : Int32))), some (.inl (M 29 0 (x1).toNatClampNeg)), some (.inl (M 25 0 (((9 : Int32) + x1)).toNatClampNeg)), some (.inl t9), none, none]) (st' := [.inl (2 : Int32), .inl (M 29 0 (x1).toNatClampNeg)]) (M' := M) rfl ?_
              refine wg_ck (st' := [.inl ((M 29 0 (x1).toNatClampNeg) / (2 : Int32))]) (M' := M) rfl (by decide) ?_
              refine wg_blk 1 (i' := 90) (L' := [some (.inr (.inl (21, 0))), some (.inl x1), some (.inl (x1 / (4 : Int32))), some (.inl (wc_rem x1 (4 : Int32))), some (.inl (M 29 0 (x1).toNatClampNeg)), some (.inl (M 25 0 (((9 : Int32) + x1)).toNatClampNeg)), some (.inl t9), none, none]) (st' := [.inl ((M 29 0 (x1).toNatClampNeg) / (2 : Int32))]) (M' := M) rfl ?_
              obtain rfl := Option.some.inj h
              exact wg_wk (wk_s (wk_s (wk_s (wk_s (wk_s (wk_s (wk_s (wk_n (wk_n wk_e))))))))) rfl k
            · rw [if_neg hc] at h
              refine wg_blk 1 (i' := 90) (L' := [some (.inr (.inl (21, 0))), some (.inl x1), some (.inl (x1 / (4 : Int32))), some (.inl (wc_rem x1 (4 : Int32))), some (.inl (M 29 0 (x1).toNatClampNeg)), some (.inl (M 25 0 (((9 : Int32) + x1)).toNatClampNeg)), some (.inl t9), none, none]) (st' := [.inl (0 : Int32)]) (M' := M) rfl ?_
              obtain rfl := Option.some.inj h
              exact wg_wk (wk_s (wk_s (wk_s (wk_s (wk_s (wk_s (wk_s (wk_n (wk_n wk_e))))))))) rfl k
      clear h
      have h := h21
      clear h21
      refine wg_br (c := (M 25 0 (((9 : Int32) + x1)).toNatClampNeg) = (4 : Int32)) (t := 63) (f := 53) (st' := []) rfl (fun hc => ?_) (fun hc => ?_)
      · rw [if_pos hc] at h
        refine wg_blk 2 (i' := 66) (L' := [some (.inr (.inl (21, 0))), some (.inl x1), some (.inl (x1 / (4 : Int32))), some (.inl (wc_rem x1 (4 : Int32))), some (.inl (M 29 0 (x1).toNatClampNeg)), some (.inl (M 25 0 (((9 : Int32) + x1)).toNatClampNeg)), none, none, none]) (st' := [.inl (1 : Int32)]) (M' := M) rfl ?_
        obtain rfl := Option.some.inj h
        exact wg_wk (wk_s (wk_s (wk_s (wk_s (wk_s (wk_s (wk_n (wk_n (wk_n wk_e))))))))) rfl k
      · rw [if_neg hc] at h
        refine wg_blk 2 (i' := 55) (L' := [some (.inr (.inl (21, 0))), some (.inl x1), some (.inl (x1 / (4 : Int32))), some (.inl (wc_rem x1 (4 : Int32))), some (.inl (M 29 0 (x1).toNatClampNeg)), some (.inl (M 25 0 (((9 : Int32) + x1)).toNatClampNeg)), none, none, none]) (st' := [.inl (5 : Int32), .inl (M 25 0 (((9 : Int32) + x1)).toNatClampNeg)]) (M' := M) rfl ?_
        refine wg_br (c := (M 25 0 (((9 : Int32) + x1)).toNatClampNeg) = (5 : Int32)) (t := 56) (f := 65) (st' := []) rfl (fun hc => ?_) (fun hc => ?_)
        · rw [if_pos hc] at h
          refine wg_blk 3 (i' := 59) (L' := [some (.inr (.inl (21, 0))), some (.inl x1), some (.inl (x1 / (4 : Int32))), some (.inl (wc_rem x1 (4 : Int32))), some (.inl (M 29 0 (x1).toNatClampNeg)), some (.inl (M 25 0 (((9 : Int32) + x1)).toNatClampNeg)), none, none, none]) (st' := [.inl (0 : Int32), .inr (.inl (25, 0))]) (M' := M) rfl ?_
          refine wg_ck (st' := [.inl (M 25 0 ((0 : Int32)).toNatClampNeg)]) (M' := M) rfl (wib_in rfl) ?_
          refine wg_blk 1 (i' := 61) (L' := [some (.inr (.inl (21, 0))), some (.inl x1), some (.inl (x1 / (4 : Int32))), some (.inl (wc_rem x1 (4 : Int32))), some (.inl (M 29 0 (x1).toNatClampNeg)), some (.inl (M 25 0 (((9 : Int32) + x1)).toNatClampNeg)), none, none, none]) (st' := [.inl (2 : Int32), .inl (M 25 0 ((0 : Int32)).toNatClampNeg)]) (M' := M) rfl ?_
          refine wg_ck (st' := [.inl (wc_rem (M 25 0 ((0 : Int32)).toNatClampNeg) (2 : Int32))]) (M' := M) rfl (by decide) ?_
          refine wg_br (c := (wc_rem (M 25 0 ((0 : Int32)).toNatClampNeg) (2 : Int32)) = (0 : Int32)) (t := 63) (f := 65) (st' := []) rfl (fun hc => ?_) (fun hc => ?_)
          · rw [if_pos hc] at h
            refine wg_blk 2 (i' := 66) (L' := [some (.inr (.inl (21, 0))), some (.inl x1), some (.inl (x1 / (4 : Int32))), some (.inl (wc_rem x1 (4 : Int32))), some (.inl (M 29 0 (x1).toNatClampNeg)), some (.inl (M 25 0 (((9 : Int32) + x1)).toNatClampNeg)), none, none, none]) (st' := [.inl (1 : Int32)]) (M' := M) rfl ?_
            obtain rfl := Option.some.inj h
            exact wg_wk (wk_s (wk_s (wk_s (wk_s (wk_s (wk_s (wk_n (wk_n (wk_n wk_e))))))))) rfl k
          · rw [if_neg hc] at h
            refine wg_blk 1 (i' := 66) (L' := [some (.inr (.inl (21, 0))), some (.inl x1), some (.inl (x1 / (4 : Int32))), some (.inl (wc_rem x1 (4 : Int32))), some (.inl (M 29 0 (x1).toNatClampNeg)), some (.inl (M 25 0 (((9 : Int32) + x1)).toNatClampNeg)), none, none, none]) (st' := [.inl (0 : Int32)]) (M' := M) rfl ?_
            obtain rfl := Option.some.inj h
            exact wg_wk (wk_s (wk_s (wk_s (wk_s (wk_s (wk_s (wk_n (wk_n (wk_n wk_e))))))))) rfl k
        · rw [if_neg hc] at h
          refine wg_blk 1 (i' := 66) (L' := [some (.inr (.inl (21, 0))), some (.inl x1), some (.inl (x1 / (4 : Int32))), some (.inl (wc_rem x1 (4 : Int32))), some (.inl (M 29 0 (x1).toNatClampNeg)), some (.inl (M 25 0 (((9 : Int32) + x1)).toNatClampNeg)), none, none, none]) (st' := [.inl (0 : Int32)]) (M' := M) rfl ?_
          obtain rfl := Option.some.inj h
          exact wg_wk (wk_s (wk_s (wk_s (wk_s (wk_s (wk_s (wk_n (wk_n (wk_n wk_e))))))))) rfl k
set_option maxRecDepth 20000 in
theorem s_M_blow (M : wc_M) (z : wc_M) (h : f_M_blow M = some z) : wc_Sd 4 112 [.inr (.inl (21, 0))] M none z := by
  unfold f_M_blow at h
  refine wg_Sd (Nat.le_of_ble_eq_true rfl) ?_
  show wg 3 wx0 none wk_112 0 [some (.inr (.inl (21, 0))), none, none, none, none, none, none, none, none] [] M _
  refine wg_blk 5 (i' := 5) (L' := [some (.inr (.inl (21, 0))), some (.inl (0 : Int32)), none, none, none, none, none, none, none]) (st' := []) (M' := (wc_up M 21 0 19 (0 : Int32))) rfl ?_
  obtain ⟨t5, h6, h⟩ := wbs h
  refine wg_wk (wk_s (wk_s (wk_n (wk_n (wk_n (wk_n (wk_n (wk_n (wk_n wk_e))))))))) rfl (l_M_blow_5_ok 2000 (0 : Int32) (wc_up M 21 0 19 (0 : Int32)) _ h6 ?_)
  refine wg_blk 2 (i' := 27) (L' := [some (.inr (.inl (21, 0))), some (.inl (0 : Int32)), none, none, none, none, none, none, none]) (st' := []) (M' := t5) rfl ?_
  obtain ⟨t22, h23, h⟩ := wbs h
  refine wg_wk (wk_s (wk_s (wk_n (wk_n (wk_n (wk_n (wk_n (wk_n (wk_n wk_e))))))))) rfl (l_M_blow_27_ok 2000 (0 : Int32) t5 _ h23 ?_)
  obtain rfl := Option.some.inj h
  exact wg_re rfl trivial ⟨rfl, rfl⟩
set_option maxRecDepth 20000 in
theorem l_M_oneHour_7_ok {K : Option Int32 → wc_M → Prop} : ∀ (n : Nat) (x1 : Int32) (M : wc_M) (o : wc_M), l_M_oneHour_7 n x1 M = some o → wg 4 wx0 none wk_115 38 [some (.inr (.inl (21, 0))), none] [] o K → wg 4 wx0 none wk_115 7 [some (.inr (.inl (21, 0))), some (.inl x1)] [] M K := by
  intro n
  induction n with
  | zero =>
    intro x1 M o h hk
    exact nomatch (show (none : Option (wc_M)) = some o from h)
  | succ n ih =>
    intro x1 M o h hk
    unfold l_M_oneHour_7 at h
    refine wg_blk 2 (i' := 9) (L' := [some (.inr (.inl (21, 0))), some (.inl x1)]) (st' := [.inl (16 : Int32), .inl x1]) (M' := M) rfl ?_
    refine wg_br (c := (16 : Int32) ≤ x1) (t := 38) (f := 10) (st' := []) rfl (fun hc => ?_) (fun hc => ?_)
    · rw [if_pos hc] at h
      obtain rfl := Option.some.inj h
      exact wg_wk (wk_s (wk_n wk_e)) rfl hk
    · rw [if_neg hc] at h
      refine wg_blk 2 (i' := 12) (L' := [some (.inr (.inl (21, 0))), some (.inl x1)]) (st' := [.inl x1, .inr (.inl (21, 0))]) (M' := M) rfl ?_
      obtain ⟨v4, h3, h⟩ := wbs h
      refine wg_ca (d' := 1) (y := 110) (as := [.inr (.inl (21, 0)), .inl x1]) (rest := []) (r := some v4) (M' := M) rfl (Nat.le_of_ble_eq_true rfl) (s_M_isWork x1 M _ h3) ?_
      refine wg_br (c := v4 = (0 : Int32)) (t := 36) (f := 14) (st' := []) rfl (fun hc => ?_) (fun hc => ?_)
      · rw [if_pos hc] at h
        refine wg_blk 2 (i' := 7) (L' := [some (.inr (.inl (21, 0))), some (.inl (x1 + (1 : Int32)))]) (st' := []) (M' := M) rfl ?_
        exact wg_wk (wk_s (wk_s wk_e)) rfl (ih (x1 + (1 : Int32)) M _ h hk)
      · rw [if_neg hc] at h
        refine wg_blk 3 (i' := 17) (L' := [some (.inr (.inl (21, 0))), some (.inl x1)]) (st' := [.inl x1, .inr (.inl (29, 0))]) (M' := M) rfl ?_
        obtain ⟨hp5, h⟩ := wif h
        refine wg_ck (st' := [.inl (M 29 0 (x1).toNatClampNeg)]) (M' := M) rfl (wib_in hp5) ?_
        refine wg_blk 5 (i' := 23) (L' := [some (.inr (.inl (21, 0))), some (.inl x1)]) (st' := [.inl ((25 : Int32) + x1), .inr (.inl (25, 0)), .inl (M 29 0 (x1).toNatClampNeg)]) (M' := M) rfl ?_
        obtain ⟨hp6, h⟩ := wif h
        refine wg_ck (st' := [.inl (M 25 0 (((25 : Int32) + x1)).toNatClampNeg), .inl (M 29 0 (x1).toNatClampNeg)]) (M' := M) rfl (wib_in hp6) ?_
        refine wg_br (c := (M 29 0 (x1).toNatClampNeg) ≤ (M 25 0 (((25 : Int32) + x1)).toNatClampNeg)) (t := 36) (f := 25) (st' := []) rfl (fun hc => ?_) (fun hc => ?_)
        · rw [if_pos hc] at h
          refine wg_blk 2 (i' := 7) (L' := [some (.inr (.inl (21, 0))), some (.inl (x1 + (1 : Int32)))]) (st' := []) (M' := M) rfl ?_
          exact wg_wk (wk_s (wk_s wk_e)) rfl (ih (x1 + (1 : Int32)) M _ h hk)
        · rw [if_neg hc] at h
          refine wg_blk 10 (i' := 35) (L' := [some (.inr (.inl (21, 0))), some (.inl x1)]) (st' := [.inl x1, .inr (.inl (21, 0))]) (M' := (wc_up M 21 0 20 ((M 21 0 20) ||| ((1 : Int32) <<< (x1 &&& (31 : Int32)))))) rfl ?_
          obtain ⟨m8, h7, h⟩ := wbs h
          refine wg_ca (d' := 1) (y := 114) (as := [.inr (.inl (21, 0)), .inl x1]) (rest := []) (r := none) (M' := m8) rfl (Nat.le_of_ble_eq_true rfl) (s_M_clear x1 (wc_up M 21 0 20 ((M 21 0 20) ||| ((1 : Int32) <<< (x1 &&& (31 : Int32))))) _ h7) ?_
          refine wg_blk 2 (i' := 7) (L' := [some (.inr (.inl (21, 0))), some (.inl (x1 + (1 : Int32)))]) (st' := []) (M' := m8) rfl ?_
          exact wg_wk (wk_s (wk_s wk_e)) rfl (ih (x1 + (1 : Int32)) m8 _ h hk)
set_option maxRecDepth 20000 in
theorem l_M_oneHour_48_ok {K : Option Int32 → wc_M → Prop} : ∀ (n : Nat) (x1 : Int32) (M : wc_M) (o : wc_M), l_M_oneHour_48 n x1 M = some o → wg 4 wx0 none wk_115 74 [none, none] [] o K → wg 4 wx0 none wk_115 48 [some (.inr (.inl (21, 0))), some (.inl x1)] [] M K := by
  intro n
  induction n with
  | zero =>
    intro x1 M o h hk
    exact nomatch (show (none : Option (wc_M)) = some o from h)
  | succ n ih =>
    intro x1 M o h hk
    unfold l_M_oneHour_48 at h
    refine wg_blk 2 (i' := 50) (L' := [some (.inr (.inl (21, 0))), some (.inl x1)]) (st' := [.inl (4 : Int32), .inl x1]) (M' := M) rfl ?_
    refine wg_br (c := (4 : Int32) ≤ x1) (t := 74) (f := 51) (st' := []) rfl (fun hc => ?_) (fun hc => ?_)
    · rw [if_pos hc] at h
      obtain rfl := Option.some.inj h
      exact wg_wk (wk_n (wk_n wk_e)) rfl hk
    · rw [if_neg hc] at h
      refine wg_blk 10 (i' := 61) (L' := [some (.inr (.inl (21, 0))), some (.inl x1)]) (st' := [.inl ((1 : Int32) + x1), .inr (.inl (25, 0)), .inl ((1 : Int32) + x1), .inr (.inl (25, 0))]) (M' := M) rfl ?_
      obtain ⟨hp11, h⟩ := wif h
      refine wg_ck (st' := [.inl (M 25 0 (((1 : Int32) + x1)).toNatClampNeg), .inl ((1 : Int32) + x1), .inr (.inl (25, 0))]) (M' := M) rfl (wib_in hp11) ?_
      refine wg_blk 5 (i' := 67) (L' := [some (.inr (.inl (21, 0))), some (.inl x1)]) (st' := [.inl ((5 : Int32) + x1), .inr (.inl (25, 0)), .inl (M 25 0 (((1 : Int32) + x1)).toNatClampNeg), .inl ((1 : Int32) + x1), .inr (.inl (25, 0))]) (M' := M) rfl ?_
      obtain ⟨hp12, h⟩ := wif h
      refine wg_ck (st' := [.inl (M 25 0 (((5 : Int32) + x1)).toNatClampNeg), .inl (M 25 0 (((1 : Int32) + x1)).toNatClampNeg), .inl ((1 : Int32) + x1), .inr (.inl (25, 0))]) (M' := M) rfl (wib_in hp12) ?_
      refine wg_blk 2 (i' := 70) (L' := [some (.inr (.inl (21, 0))), some (.inl x1)]) (st' := [.inl (32 : Int32), .inl ((M 25 0 (((1 : Int32) + x1)).toNatClampNeg) + (M 25 0 (((5 : Int32) + x1)).toNatClampNeg)), .inl ((1 : Int32) + x1), .inr (.inl (25, 0))]) (M' := M) rfl ?_
      refine wg_ck (st' := [.inl (wc_rem ((M 25 0 (((1 : Int32) + x1)).toNatClampNeg) + (M 25 0 (((5 : Int32) + x1)).toNatClampNeg)) (32 : Int32)), .inl ((1 : Int32) + x1), .inr (.inl (25, 0))]) (M' := M) rfl (by decide) ?_
      refine wg_ck (st' := []) (M' := (wc_up M 25 0 (((1 : Int32) + x1)).toNatClampNeg (wc_rem ((M 25 0 (((1 : Int32) + x1)).toNatClampNeg) + (M 25 0 (((5 : Int32) + x1)).toNatClampNeg)) (32 : Int32)))) rfl (wib_in hp11) ?_
      refine wg_blk 2 (i' := 48) (L' := [some (.inr (.inl (21, 0))), some (.inl (x1 + (1 : Int32)))]) (st' := []) (M' := (wc_up M 25 0 (((1 : Int32) + x1)).toNatClampNeg (wc_rem ((M 25 0 (((1 : Int32) + x1)).toNatClampNeg) + (M 25 0 (((5 : Int32) + x1)).toNatClampNeg)) (32 : Int32)))) rfl ?_
      exact wg_wk (wk_s (wk_s wk_e)) rfl (ih (x1 + (1 : Int32)) (wc_up M 25 0 (((1 : Int32) + x1)).toNatClampNeg (wc_rem ((M 25 0 (((1 : Int32) + x1)).toNatClampNeg) + (M 25 0 (((5 : Int32) + x1)).toNatClampNeg)) (32 : Int32))) _ h hk)
set_option maxRecDepth 20000 in
theorem s_M_oneHour (M : wc_M) (z : wc_M) (h : f_M_oneHour M = some z) : wc_Sd 5 115 [.inr (.inl (21, 0))] M none z := by
  unfold f_M_oneHour at h
  refine wg_Sd (Nat.le_of_ble_eq_true rfl) ?_
  show wg 4 wx0 none wk_115 0 [some (.inr (.inl (21, 0))), none] [] M _
  refine wg_blk 1 (i' := 1) (L' := [some (.inr (.inl (21, 0))), none]) (st' := [.inr (.inl (21, 0))]) (M' := M) rfl ?_
  obtain ⟨m2, h1, h⟩ := wbs h
  refine wg_ca (d' := 4) (y := 112) (as := [.inr (.inl (21, 0))]) (rest := []) (r := none) (M' := m2) rfl (Nat.le_of_ble_eq_true rfl) (s_M_blow M _ h1) ?_
  refine wg_blk 5 (i' := 7) (L' := [some (.inr (.inl (21, 0))), some (.inl (0 : Int32))]) (st' := []) (M' := (wc_up m2 21 0 20 (0 : Int32))) rfl ?_
  obtain ⟨t9, h10, h⟩ := wbs h
  refine wg_wk (wk_s (wk_s wk_e)) rfl (l_M_oneHour_7_ok 2000 (0 : Int32) (wc_up m2 21 0 20 (0 : Int32)) _ h10 ?_)
  refine wg_blk 4 (i' := 42) (L' := [some (.inr (.inl (21, 0))), none]) (st' := [.inl (0 : Int32), .inr (.inl (25, 0)), .inl (0 : Int32), .inr (.inl (25, 0))]) (M' := t9) rfl ?_
  refine wg_ck (st' := [.inl (t9 25 0 ((0 : Int32)).toNatClampNeg), .inl (0 : Int32), .inr (.inl (25, 0))]) (M' := t9) rfl (wib_in rfl) ?_
  refine wg_blk 2 (i' := 45) (L' := [some (.inr (.inl (21, 0))), none]) (st' := [.inl ((t9 25 0 ((0 : Int32)).toNatClampNeg) + (1 : Int32)), .inl (0 : Int32), .inr (.inl (25, 0))]) (M' := t9) rfl ?_
  refine wg_ck (st' := []) (M' := (wc_up t9 25 0 ((0 : Int32)).toNatClampNeg ((t9 25 0 ((0 : Int32)).toNatClampNeg) + (1 : Int32)))) rfl (wib_in rfl) ?_
  refine wg_blk 2 (i' := 48) (L' := [some (.inr (.inl (21, 0))), some (.inl (0 : Int32))]) (st' := []) (M' := (wc_up t9 25 0 ((0 : Int32)).toNatClampNeg ((t9 25 0 ((0 : Int32)).toNatClampNeg) + (1 : Int32)))) rfl ?_
  obtain ⟨t13, h14, h⟩ := wbs h
  refine wg_wk (wk_s (wk_s wk_e)) rfl (l_M_oneHour_48_ok 2000 (0 : Int32) (wc_up t9 25 0 ((0 : Int32)).toNatClampNeg ((t9 25 0 ((0 : Int32)).toNatClampNeg) + (1 : Int32))) _ h14 ?_)
  obtain rfl := Option.some.inj h
  exact wg_re rfl trivial ⟨rfl, rfl⟩
set_option maxRecDepth 20000 in
theorem l_M_hours_25_ok (x1 : Int32) {K : Option Int32 → wc_M → Prop} : ∀ (n : Nat) (x2 : Int32) (M : wc_M) (o : wc_M), l_M_hours_25 x1 n x2 M = some o → wg 5 wx0 (some .int) wk_122 34 [some (.inr (.inl (21, 0))), none, none] [] o K → wg 5 wx0 (some .int) wk_122 25 [some (.inr (.inl (21, 0))), some (.inl x1), some (.inl x2)] [] M K := by
  intro n
  induction n with
  | zero =>
    intro x2 M o h hk
    exact nomatch (show (none : Option (wc_M)) = some o from h)
  | succ n ih =>
    intro x2 M o h hk
    unfold l_M_hours_25 at h
    refine wg_blk 2 (i' := 27) (L' := [some (.inr (.inl (21, 0))), some (.inl x1), some (.inl x2)]) (st' := [.inl x1, .inl x2]) (M' := M) rfl ?_
    refine wg_br (c := x1 ≤ x2) (t := 34) (f := 28) (st' := []) rfl (fun hc => ?_) (fun hc => ?_)
    · rw [if_pos hc] at h
      obtain rfl := Option.some.inj h
      exact wg_wk (wk_s (wk_n (wk_n wk_e))) rfl hk
    · rw [if_neg hc] at h
      refine wg_blk 1 (i' := 29) (L' := [some (.inr (.inl (21, 0))), some (.inl x1), some (.inl x2)]) (st' := [.inr (.inl (21, 0))]) (M' := M) rfl ?_
      obtain ⟨m2, h1, h⟩ := wbs h
      refine wg_ca (d' := 1) (y := 117) (as := [.inr (.inl (21, 0))]) (rest := []) (r := none) (M' := m2) rfl (Nat.le_of_ble_eq_true rfl) (s_M_note M _ h1) ?_
      refine wg_blk 1 (i' := 31) (L' := [some (.inr (.inl (21, 0))), some (.inl x1), some (.inl x2)]) (st' := [.inr (.inl (21, 0))]) (M' := m2) rfl ?_
      obtain ⟨m4, h3, h⟩ := wbs h
      refine wg_ca (d' := 5) (y := 115) (as := [.inr (.inl (21, 0))]) (rest := []) (r := none) (M' := m4) rfl (Nat.le_of_ble_eq_true rfl) (s_M_oneHour m2 _ h3) ?_
      refine wg_blk 2 (i' := 25) (L' := [some (.inr (.inl (21, 0))), some (.inl x1), some (.inl (x2 + (1 : Int32)))]) (st' := []) (M' := m4) rfl ?_
      exact wg_wk (wk_s (wk_s (wk_s wk_e))) rfl (ih (x2 + (1 : Int32)) m4 _ h hk)
set_option maxRecDepth 20000 in
theorem s_M_hours (a1 : Int32) (M : wc_M) (z : Int32 × wc_M) (h : f_M_hours a1 M = some z) : wc_Sd 6 122 [.inr (.inl (21, 0)), .inl a1] M (some z.1) z.2 := by
  unfold f_M_hours at h
  refine wg_Sd (Nat.le_of_ble_eq_true rfl) ?_
  show wg 5 wx0 (some .int) wk_122 0 [some (.inr (.inl (21, 0))), some (.inl a1), none] [] M _
  refine wg_blk 2 (i' := 2) (L' := [some (.inr (.inl (21, 0))), some (.inl a1), none]) (st' := [.inl (M 21 0 4)]) (M' := M) rfl ?_
  refine wg_br (c := (M 21 0 4) = (0 : Int32)) (t := 3) (f := 5) (st' := []) rfl (fun hc => ?_) (fun hc => ?_)
  · rw [if_pos hc] at h
    refine wg_blk 1 (i' := 4) (L' := [some (.inr (.inl (21, 0))), some (.inl a1), none]) (st' := [.inl (-1000002 : Int32)]) (M' := M) rfl ?_
    obtain rfl := Option.some.inj h
    exact wg_re rfl trivial ⟨rfl, rfl⟩
  · rw [if_neg hc] at h
    refine wg_blk 4 (i' := 9) (L' := [some (.inr (.inl (21, 0))), some (.inl a1), none]) (st' := [.inr (.inr (20 : Int64)), .inr (.inr (1 : Int64)), .inr (.inr (a1).toInt64)]) (M' := M) rfl ?_
    refine wg_ca (d' := 1) (y := 87) (as := [.inr (.inr (a1).toInt64), .inr (.inr (1 : Int64)), .inr (.inr (20 : Int64))]) (rest := []) (r := some (f_M_in (a1).toInt64 (1 : Int64) (20 : Int64))) (M' := M) rfl (Nat.le_of_ble_eq_true rfl) (s_M_in (a1).toInt64 (1 : Int64) (20 : Int64) M _ rfl) ?_
    refine wg_br (c := (f_M_in (a1).toInt64 (1 : Int64) (20 : Int64)) = (0 : Int32)) (t := 11) (f := 13) (st' := []) rfl (fun hc => ?_) (fun hc => ?_)
    · rw [if_pos hc] at h
      refine wg_blk 1 (i' := 12) (L' := [some (.inr (.inl (21, 0))), some (.inl a1), none]) (st' := [.inl (-1000001 : Int32)]) (M' := M) rfl ?_
      obtain rfl := Option.some.inj h
      exact wg_re rfl trivial ⟨rfl, rfl⟩
    · rw [if_neg hc] at h
      refine wg_blk 3 (i' := 16) (L' := [some (.inr (.inl (21, 0))), some (.inl a1), none]) (st' := [.inl (0 : Int32), .inr (.inl (25, 0))]) (M' := M) rfl ?_
      refine wg_ck (st' := [.inl (M 25 0 ((0 : Int32)).toNatClampNeg)]) (M' := M) rfl (wib_in rfl) ?_
      refine wg_blk 3 (i' := 20) (L' := [some (.inr (.inl (21, 0))), some (.inl a1), none]) (st' := [.inl (999 : Int32), .inl ((M 25 0 ((0 : Int32)).toNatClampNeg) + a1)]) (M' := M) rfl ?_
      refine wg_br (c := ((M 25 0 ((0 : Int32)).toNatClampNeg) + a1) ≤ (999 : Int32)) (t := 23) (f := 21) (st' := []) rfl (fun hc => ?_) (fun hc => ?_)
      · rw [if_pos hc] at h
        refine wg_blk 2 (i' := 25) (L' := [some (.inr (.inl (21, 0))), some (.inl a1), some (.inl (0 : Int32))]) (st' := []) (M' := M) rfl ?_
        obtain ⟨t5, h6, h⟩ := wbs h
        refine wg_wk (wk_s (wk_s (wk_s wk_e))) rfl (l_M_hours_25_ok a1 2000 (0 : Int32) M _ h6 ?_)
        refine wg_blk 1 (i' := 35) (L' := [some (.inr (.inl (21, 0))), none, none]) (st' := [.inr (.inl (21, 0))]) (M' := t5) rfl ?_
        obtain ⟨v8, h7, h⟩ := wbs h
        refine wg_ca (d' := 2) (y := 116) (as := [.inr (.inl (21, 0))]) (rest := []) (r := some v8) (M' := t5) rfl (Nat.le_of_ble_eq_true rfl) (s_M_workMany t5 _ h7) ?_
        obtain rfl := Option.some.inj h
        exact wg_re rfl trivial ⟨rfl, rfl⟩
      · rw [if_neg hc] at h
        refine wg_blk 1 (i' := 22) (L' := [some (.inr (.inl (21, 0))), some (.inl a1), none]) (st' := [.inl (-1000003 : Int32)]) (M' := M) rfl ?_
        obtain rfl := Option.some.inj h
        exact wg_re rfl trivial ⟨rfl, rfl⟩
set_option maxRecDepth 20000 in
theorem s_H_takeBack (p1 : Nat) (M : wc_M) (z : wc_M) (h : f_H_takeBack p1 M = some z) : wc_Sd 2 80 [.inr (.inl (16, 0)), .inr (.inl (6, p1))] M none z := by
  unfold f_H_takeBack at h
  refine wg_Sd (Nat.le_of_ble_eq_true rfl) ?_
  show wg 1 wx0 none wk_80 0 [some (.inr (.inl (16, 0))), some (.inr (.inl (6, p1)))] [] M _
  refine wg_blk 8 (i' := 8) (L' := [some (.inr (.inl (16, 0))), some (.inr (.inl (6, p1)))]) (st' := [.inl (24 : Int32), .inl (((M 16 0 1) + (24 : Int32)) - (1 : Int32)), .inr (.inl (16, 0))]) (M' := M) rfl ?_
  refine wg_ck (st' := [.inl (wc_rem (((M 16 0 1) + (24 : Int32)) - (1 : Int32)) (24 : Int32)), .inr (.inl (16, 0))]) (M' := M) rfl (by decide) ?_
  refine wg_blk 12 (i' := 21) (L' := [some (.inr (.inl (16, 0))), some (.inr (.inl (6, p1)))]) (st' := [.inl ((wc_up (wc_up M 16 0 1 (wc_rem (((M 16 0 1) + (24 : Int32)) - (1 : Int32)) (24 : Int32))) 16 0 2 (((wc_up M 16 0 1 (wc_rem (((M 16 0 1) + (24 : Int32)) - (1 : Int32)) (24 : Int32))) 16 0 2) - (1 : Int32))) 16 0 1), .inr (.inl (17, 0)), .inr (.inl (6, p1))]) (M' := (wc_up (wc_up M 16 0 1 (wc_rem (((M 16 0 1) + (24 : Int32)) - (1 : Int32)) (24 : Int32))) 16 0 2 (((wc_up M 16 0 1 (wc_rem (((M 16 0 1) + (24 : Int32)) - (1 : Int32)) (24 : Int32))) 16 0 2) - (1 : Int32)))) rfl ?_
  obtain ⟨hp1, h⟩ := wif h
  refine wg_ck (st' := [.inr (.inl (6, (2 + (((wc_up (wc_up M 16 0 1 (wc_rem (((M 16 0 1) + (24 : Int32)) - (1 : Int32)) (24 : Int32))) 16 0 2 (((wc_up M 16 0 1 (wc_rem (((M 16 0 1) + (24 : Int32)) - (1 : Int32)) (24 : Int32))) 16 0 2) - (1 : Int32))) 16 0 1)).toNatClampNeg))), .inr (.inl (6, p1))]) (M' := (wc_up (wc_up M 16 0 1 (wc_rem (((M 16 0 1) + (24 : Int32)) - (1 : Int32)) (24 : Int32))) 16 0 2 (((wc_up M 16 0 1 (wc_rem (((M 16 0 1) + (24 : Int32)) - (1 : Int32)) (24 : Int32))) 16 0 2) - (1 : Int32)))) rfl (wib_in hp1) ?_
  obtain ⟨m3, h2, h⟩ := wbs h
  refine wg_ca (d' := 1) (y := 65) (as := [.inr (.inl (6, p1)), .inr (.inl (6, (2 + (((wc_up (wc_up M 16 0 1 (wc_rem (((M 16 0 1) + (24 : Int32)) - (1 : Int32)) (24 : Int32))) 16 0 2 (((wc_up M 16 0 1 (wc_rem (((M 16 0 1) + (24 : Int32)) - (1 : Int32)) (24 : Int32))) 16 0 2) - (1 : Int32))) 16 0 1)).toNatClampNeg)))]) (rest := []) (r := none) (M' := m3) rfl (Nat.le_of_ble_eq_true rfl) (s_P_become p1 (2 + (((wc_up (wc_up M 16 0 1 (wc_rem (((M 16 0 1) + (24 : Int32)) - (1 : Int32)) (24 : Int32))) 16 0 2 (((wc_up M 16 0 1 (wc_rem (((M 16 0 1) + (24 : Int32)) - (1 : Int32)) (24 : Int32))) 16 0 2) - (1 : Int32))) 16 0 1)).toNatClampNeg) (wc_up (wc_up M 16 0 1 (wc_rem (((M 16 0 1) + (24 : Int32)) - (1 : Int32)) (24 : Int32))) 16 0 2 (((wc_up M 16 0 1 (wc_rem (((M 16 0 1) + (24 : Int32)) - (1 : Int32)) (24 : Int32))) 16 0 2) - (1 : Int32))) _ h2) ?_
  obtain rfl := Option.some.inj h
  exact wg_re rfl trivial ⟨rfl, rfl⟩
set_option maxRecDepth 20000 in
theorem s_C_undo (M : wc_M) (z : Int32 × wc_M) (h : f_C_undo M = some z) : wc_Sd 3 12 [.inr (.inl (0, 0))] M (some z.1) z.2 := by
  unfold f_C_undo at h
  refine wg_Sd (Nat.le_of_ble_eq_true rfl) ?_
  show wg 2 wx0 (some .int) wk_12 0 [some (.inr (.inl (0, 0)))] [] M _
  refine wg_blk 3 (i' := 3) (L' := [some (.inr (.inl (0, 0)))]) (st' := [.inl (M 16 0 2)]) (M' := M) rfl ?_
  refine wg_br (c := (M 16 0 2) = (0 : Int32)) (t := 4) (f := 6) (st' := []) rfl (fun hc => ?_) (fun hc => ?_)
  · rw [if_pos hc] at h
    refine wg_blk 1 (i' := 5) (L' := [some (.inr (.inl (0, 0)))]) (st' := [.inl (-1000002 : Int32)]) (M' := M) rfl ?_
    obtain rfl := Option.some.inj h
    exact wg_re rfl trivial ⟨rfl, rfl⟩
  · rw [if_neg hc] at h
    refine wg_blk 4 (i' := 10) (L' := [some (.inr (.inl (0, 0)))]) (st' := [.inr (.inl (6, 0)), .inr (.inl (16, 0))]) (M' := M) rfl ?_
    obtain ⟨m2, h1, h⟩ := wbs h
    refine wg_ca (d' := 2) (y := 80) (as := [.inr (.inl (16, 0)), .inr (.inl (6, 0))]) (rest := []) (r := none) (M' := m2) rfl (Nat.le_of_ble_eq_true rfl) (s_H_takeBack 0 M _ h1) ?_
    refine wg_blk 3 (i' := 14) (L' := [some (.inr (.inl (0, 0)))]) (st' := [.inl (m2 16 0 2)]) (M' := m2) rfl ?_
    obtain rfl := Option.some.inj h
    exact wg_re rfl trivial ⟨rfl, rfl⟩
set_option maxRecDepth 20000 in
theorem l_M_undo_13_ok {K : Option Int32 → wc_M → Prop} : ∀ (n : Nat) (x1 : Int32) (M : wc_M) (o : wc_M), l_M_undo_13 n x1 M = some o → wg 0 wx0 (some .int) wk_123 31 [some (.inr (.inl (21, 0))), none] [] o K → wg 0 wx0 (some .int) wk_123 13 [some (.inr (.inl (21, 0))), some (.inl x1)] [] M K := by
  intro n
  induction n with
  | zero =>
    intro x1 M o h hk
    exact nomatch (show (none : Option (wc_M)) = some o from h)
  | succ n ih =>
    intro x1 M o h hk
    unfold l_M_undo_13 at h
    refine wg_blk 2 (i' := 15) (L' := [some (.inr (.inl (21, 0))), some (.inl x1)]) (st' := [.inl (57 : Int32), .inl x1]) (M' := M) rfl ?_
    refine wg_br (c := (57 : Int32) ≤ x1) (t := 31) (f := 16) (st' := []) rfl (fun hc => ?_) (fun hc => ?_)
    · rw [if_pos hc] at h
      obtain rfl := Option.some.inj h
      exact wg_wk (wk_s (wk_n wk_e)) rfl hk
    · rw [if_neg hc] at h
      refine wg_blk 11 (i' := 27) (L' := [some (.inr (.inl (21, 0))), some (.inl x1)]) (st' := [.inl (((57 : Int32) * (M 21 0 22)) + x1), .inr (.inl (30, 0)), .inl x1, .inr (.inl (25, 0))]) (M' := M) rfl ?_
      obtain ⟨hp1, h⟩ := wif h
      refine wg_ck (st' := [.inl (M 30 0 ((((57 : Int32) * (M 21 0 22)) + x1)).toNatClampNeg), .inl x1, .inr (.inl (25, 0))]) (M' := M) rfl (wib_in hp1) ?_
      obtain ⟨hp2, h⟩ := wif h
      refine wg_ck (st' := []) (M' := (wc_up M 25 0 (x1).toNatClampNeg (M 30 0 ((((57 : Int32) * (M 21 0 22)) + x1)).toNatClampNeg))) rfl (wib_in hp2) ?_
      refine wg_blk 2 (i' := 13) (L' := [some (.inr (.inl (21, 0))), some (.inl (x1 + (1 : Int32)))]) (st' := []) (M' := (wc_up M 25 0 (x1).toNatClampNeg (M 30 0 ((((57 : Int32) * (M 21 0 22)) + x1)).toNatClampNeg))) rfl ?_
      exact wg_wk (wk_s (wk_s wk_e)) rfl (ih (x1 + (1 : Int32)) (wc_up M 25 0 (x1).toNatClampNeg (M 30 0 ((((57 : Int32) * (M 21 0 22)) + x1)).toNatClampNeg)) _ h hk)
set_option maxRecDepth 20000 in
theorem s_M_undo (M : wc_M) (z : Int32 × wc_M) (h : f_M_undo M = some z) : wc_Sd 1 123 [.inr (.inl (21, 0))] M (some z.1) z.2 := by
  unfold f_M_undo at h
  refine wg_Sd (Nat.le_of_ble_eq_true rfl) ?_
  show wg 0 wx0 (some .int) wk_123 0 [some (.inr (.inl (21, 0))), none] [] M _
  refine wg_blk 2 (i' := 2) (L' := [some (.inr (.inl (21, 0))), none]) (st' := [.inl (M 21 0 22)]) (M' := M) rfl ?_
  refine wg_br (c := (M 21 0 22) = (0 : Int32)) (t := 3) (f := 5) (st' := []) rfl (fun hc => ?_) (fun hc => ?_)
  · rw [if_pos hc] at h
    refine wg_blk 1 (i' := 4) (L' := [some (.inr (.inl (21, 0))), none]) (st' := [.inl (-1000002 : Int32)]) (M' := M) rfl ?_
    obtain rfl := Option.some.inj h
    exact wg_re rfl trivial ⟨rfl, rfl⟩
  · rw [if_neg hc] at h
    refine wg_blk 8 (i' := 13) (L' := [some (.inr (.inl (21, 0))), some (.inl (0 : Int32))]) (st' := []) (M' := (wc_up M 21 0 22 ((M 21 0 22) - (1 : Int32)))) rfl ?_
    obtain ⟨t3, h4, h⟩ := wbs h
    refine wg_wk (wk_s (wk_s wk_e)) rfl (l_M_undo_13_ok 2000 (0 : Int32) (wc_up M 21 0 22 ((M 21 0 22) - (1 : Int32))) _ h4 ?_)
    refine wg_blk 2 (i' := 33) (L' := [some (.inr (.inl (21, 0))), none]) (st' := [.inl (t3 21 0 22)]) (M' := t3) rfl ?_
    obtain rfl := Option.some.inj h
    exact wg_re rfl trivial ⟨rfl, rfl⟩
set_option maxRecDepth 20000 in
theorem s_C_feltNow (a1 : Int32) (M : wc_M) (z : Int32 × wc_M) (h : f_C_feltNow a1 M = some z) : wc_Sd 4 41 [.inr (.inl (0, 0)), .inl a1] M (some z.1) z.2 := by
  unfold f_C_feltNow at h
  refine wg_Sd (Nat.le_of_ble_eq_true rfl) ?_
  show wg 3 wx0 (some .int) wk_41 0 [some (.inr (.inl (0, 0))), some (.inl a1)] [] M _
  refine wg_blk 4 (i' := 4) (L' := [some (.inr (.inl (0, 0))), some (.inl a1)]) (st' := [.inr (.inl (6, 0)), .inr (.inl (12, 0))]) (M' := M) rfl ?_
  obtain ⟨m2, h1, h⟩ := wbs h
  refine wg_ca (d' := 3) (y := 74) (as := [.inr (.inl (12, 0)), .inr (.inl (6, 0))]) (rest := []) (r := none) (M' := m2) rfl (Nat.le_of_ble_eq_true rfl) (s_A_blow 0 M _ h1) ?_
  refine wg_blk 4 (i' := 9) (L' := [some (.inr (.inl (0, 0))), some (.inl a1)]) (st' := [.inl a1, .inr (.inl (13, 0))]) (M' := m2) rfl ?_
  obtain ⟨hp3, h⟩ := wif h
  refine wg_ck (st' := [.inl (m2 13 0 (a1).toNatClampNeg)]) (M' := m2) rfl (wib_in hp3) ?_
  obtain rfl := Option.some.inj h
  exact wg_re rfl trivial ⟨rfl, rfl⟩
set_option maxRecDepth 20000 in
theorem s_C_cell (a1 : Int32) (a2 : Int32) (M : wc_M) (z : Int32 × wc_M) (h : f_C_cell a1 a2 M = some z) : wc_Sd 5 13 [.inr (.inl (0, 0)), .inl a1, .inl a2] M (some z.1) z.2 := by
  unfold f_C_cell at h
  refine wg_Sd (Nat.le_of_ble_eq_true rfl) ?_
  show wg 4 wx0 (some .int) wk_13 0 [some (.inr (.inl (0, 0))), some (.inl a1), some (.inl a2)] [] M _
  refine wg_blk 3 (i' := 3) (L' := [some (.inr (.inl (0, 0))), some (.inl a1), some (.inl a2)]) (st' := [.inl (M 6 0 5)]) (M' := M) rfl ?_
  refine wg_br (c := (M 6 0 5) = (0 : Int32)) (t := 4) (f := 6) (st' := []) rfl (fun hc => ?_) (fun hc => ?_)
  · rw [if_pos hc] at h
    refine wg_blk 1 (i' := 5) (L' := [some (.inr (.inl (0, 0))), some (.inl a1), some (.inl a2)]) (st' := [.inl (-1000002 : Int32)]) (M' := M) rfl ?_
    obtain rfl := Option.some.inj h
    exact wg_re rfl trivial ⟨rfl, rfl⟩
  · rw [if_neg hc] at h
    refine wg_blk 1 (i' := 7) (L' := [some (.inr (.inl (0, 0))), some (.inl a1), some (.inl a2)]) (st' := [.inl a1]) (M' := M) rfl ?_
    refine wg_ca (d' := 2) (y := 33) (as := [.inl a1]) (rest := []) (r := some (f_C_isCell a1)) (M' := M) rfl (Nat.le_of_ble_eq_true rfl) (s_C_isCell a1 M _ rfl) ?_
    refine wg_br (c := (f_C_isCell a1) = (0 : Int32)) (t := 13) (f := 9) (st' := []) rfl (fun hc => ?_) (fun hc => ?_)
    · rw [if_pos hc] at h
      refine wg_blk 1 (i' := 14) (L' := [some (.inr (.inl (0, 0))), some (.inl a1), some (.inl a2)]) (st' := [.inl (-1000001 : Int32)]) (M' := M) rfl ?_
      obtain rfl := Option.some.inj h
      exact wg_re rfl trivial ⟨rfl, rfl⟩
    · rw [if_neg hc] at h
      refine wg_blk 2 (i' := 11) (L' := [some (.inr (.inl (0, 0))), some (.inl a1), some (.inl a2)]) (st' := [.inl (3 : Int32), .inl a2]) (M' := M) rfl ?_
      refine wg_ca (d' := 1) (y := 32) (as := [.inl a2, .inl (3 : Int32)]) (rest := []) (r := some (f_C_isUpTo a2 (3 : Int32))) (M' := M) rfl (Nat.le_of_ble_eq_true rfl) (s_C_isUpTo a2 (3 : Int32) M _ rfl) ?_
      refine wg_br (c := (f_C_isUpTo a2 (3 : Int32)) = (0 : Int32)) (t := 13) (f := 15) (st' := []) rfl (fun hc => ?_) (fun hc => ?_)
      · rw [if_pos hc] at h
        refine wg_blk 1 (i' := 14) (L' := [some (.inr (.inl (0, 0))), some (.inl a1), some (.inl a2)]) (st' := [.inl (-1000001 : Int32)]) (M' := M) rfl ?_
        obtain rfl := Option.some.inj h
        exact wg_re rfl trivial ⟨rfl, rfl⟩
      · rw [if_neg hc] at h
        refine wg_blk 1 (i' := 16) (L' := [some (.inr (.inl (0, 0))), some (.inl a1), some (.inl a2)]) (st' := [.inl a2]) (M' := M) rfl ?_
        refine wg_br (c := a2 = (0 : Int32)) (t := 17) (f := 21) (st' := []) rfl (fun hc => ?_) (fun hc => ?_)
        · rw [if_pos hc] at h
          refine wg_blk 2 (i' := 19) (L' := [some (.inr (.inl (0, 0))), some (.inl a1), some (.inl a2)]) (st' := [.inl a1, .inr (.inl (0, 0))]) (M' := M) rfl ?_
          obtain ⟨q2, h1, h⟩ := wbs h
          refine wg_ca (d' := 4) (y := 41) (as := [.inr (.inl (0, 0)), .inl a1]) (rest := []) (r := some q2.1) (M' := q2.2) rfl (Nat.le_of_ble_eq_true rfl) (s_C_feltNow a1 M _ h1) ?_
          obtain rfl := Option.some.inj h
          exact wg_re rfl trivial ⟨rfl, rfl⟩
        · rw [if_neg hc] at h
          refine wg_blk 3 (i' := 24) (L' := [some (.inr (.inl (0, 0))), some (.inl a1), some (.inl a2)]) (st' := [.inl a1, .inr (.inl (6, 0))]) (M' := M) rfl ?_
          obtain ⟨v4, h3, h⟩ := wbs h
          refine wg_ca (d' := 1) (y := 69) (as := [.inr (.inl (6, 0)), .inl a1]) (rest := []) (r := some v4) (M' := M) rfl (Nat.le_of_ble_eq_true rfl) (s_P_hasWork 0 a1 M _ h3) ?_
          refine wg_br (c := v4 = (0 : Int32)) (t := 26) (f := 28) (st' := []) rfl (fun hc => ?_) (fun hc => ?_)
          · rw [if_pos hc] at h
            refine wg_blk 1 (i' := 27) (L' := [some (.inr (.inl (0, 0))), some (.inl a1), some (.inl a2)]) (st' := [.inl (-1000000 : Int32)]) (M' := M) rfl ?_
            obtain rfl := Option.some.inj h
            exact wg_re rfl trivial ⟨rfl, rfl⟩
          · rw [if_neg hc] at h
            refine wg_blk 2 (i' := 30) (L' := [some (.inr (.inl (0, 0))), some (.inl a1), some (.inl a2)]) (st' := [.inl (1 : Int32), .inl a2]) (M' := M) rfl ?_
            refine wg_br (c := a2 = (1 : Int32)) (t := 31) (f := 37) (st' := []) rfl (fun hc => ?_) (fun hc => ?_)
            · rw [if_pos hc] at h
              refine wg_blk 4 (i' := 35) (L' := [some (.inr (.inl (0, 0))), some (.inl a1), some (.inl a2)]) (st' := [.inl a1, .inr (.inl (9, 0))]) (M' := M) rfl ?_
              obtain ⟨hp5, h⟩ := wif h
              refine wg_ck (st' := [.inl (M 9 0 (a1).toNatClampNeg)]) (M' := M) rfl (wib_in hp5) ?_
              obtain rfl := Option.some.inj h
              exact wg_re rfl trivial ⟨rfl, rfl⟩
            · rw [if_neg hc] at h
              refine wg_blk 2 (i' := 39) (L' := [some (.inr (.inl (0, 0))), some (.inl a1), some (.inl a2)]) (st' := [.inl (2 : Int32), .inl a2]) (M' := M) rfl ?_
              refine wg_br (c := a2 = (2 : Int32)) (t := 40) (f := 46) (st' := []) rfl (fun hc => ?_) (fun hc => ?_)
              · rw [if_pos hc] at h
                refine wg_blk 4 (i' := 44) (L' := [some (.inr (.inl (0, 0))), some (.inl a1), some (.inl a2)]) (st' := [.inl a1, .inr (.inl (10, 0))]) (M' := M) rfl ?_
                obtain ⟨hp6, h⟩ := wif h
                refine wg_ck (st' := [.inl (M 10 0 (a1).toNatClampNeg)]) (M' := M) rfl (wib_in hp6) ?_
                refine wg_blk 1 (i' := 51) (L' := [some (.inr (.inl (0, 0))), some (.inl a1), some (.inl a2)]) (st' := [.inl (M 10 0 (a1).toNatClampNeg)]) (M' := M) rfl ?_
                obtain rfl := Option.some.inj h
                exact wg_re rfl trivial ⟨rfl, rfl⟩
              · rw [if_neg hc] at h
                refine wg_blk 4 (i' := 50) (L' := [some (.inr (.inl (0, 0))), some (.inl a1), some (.inl a2)]) (st' := [.inl a1, .inr (.inl (11, 0))]) (M' := M) rfl ?_
                obtain ⟨hp7, h⟩ := wif h
                refine wg_ck (st' := [.inl (M 11 0 (a1).toNatClampNeg)]) (M' := M) rfl (wib_in hp7) ?_
                obtain rfl := Option.some.inj h
                exact wg_re rfl trivial ⟨rfl, rfl⟩
set_option maxRecDepth 20000 in
theorem s_M_feltNow (a1 : Int32) (M : wc_M) (z : Int32 × wc_M) (h : f_M_feltNow a1 M = some z) : wc_Sd 5 113 [.inr (.inl (21, 0)), .inl a1] M (some z.1) z.2 := by
  unfold f_M_feltNow at h
  refine wg_Sd (Nat.le_of_ble_eq_true rfl) ?_
  show wg 4 wx0 (some .int) wk_113 0 [some (.inr (.inl (21, 0))), some (.inl a1)] [] M _
  refine wg_blk 1 (i' := 1) (L' := [some (.inr (.inl (21, 0))), some (.inl a1)]) (st' := [.inr (.inl (21, 0))]) (M' := M) rfl ?_
  obtain ⟨m2, h1, h⟩ := wbs h
  refine wg_ca (d' := 4) (y := 112) (as := [.inr (.inl (21, 0))]) (rest := []) (r := none) (M' := m2) rfl (Nat.le_of_ble_eq_true rfl) (s_M_blow M _ h1) ?_
  refine wg_blk 3 (i' := 5) (L' := [some (.inr (.inl (21, 0))), some (.inl a1)]) (st' := [.inl a1, .inr (.inl (29, 0))]) (M' := m2) rfl ?_
  obtain ⟨hp3, h⟩ := wif h
  refine wg_ck (st' := [.inl (m2 29 0 (a1).toNatClampNeg)]) (M' := m2) rfl (wib_in hp3) ?_
  obtain rfl := Option.some.inj h
  exact wg_re rfl trivial ⟨rfl, rfl⟩
set_option maxRecDepth 20000 in
theorem s_M_cell (a1 : Int32) (a2 : Int32) (M : wc_M) (z : Int32 × wc_M) (h : f_M_cell a1 a2 M = some z) : wc_Sd 6 124 [.inr (.inl (21, 0)), .inl a1, .inl a2] M (some z.1) z.2 := by
  unfold f_M_cell at h
  refine wg_Sd (Nat.le_of_ble_eq_true rfl) ?_
  show wg 5 wx0 (some .int) wk_124 0 [some (.inr (.inl (21, 0))), some (.inl a1), some (.inl a2)] [] M _
  refine wg_blk 2 (i' := 2) (L' := [some (.inr (.inl (21, 0))), some (.inl a1), some (.inl a2)]) (st' := [.inl (M 21 0 4)]) (M' := M) rfl ?_
  refine wg_br (c := (M 21 0 4) = (0 : Int32)) (t := 3) (f := 5) (st' := []) rfl (fun hc => ?_) (fun hc => ?_)
  · rw [if_pos hc] at h
    refine wg_blk 1 (i' := 4) (L' := [some (.inr (.inl (21, 0))), some (.inl a1), some (.inl a2)]) (st' := [.inl (-1000002 : Int32)]) (M' := M) rfl ?_
    obtain rfl := Option.some.inj h
    exact wg_re rfl trivial ⟨rfl, rfl⟩
  · rw [if_neg hc] at h
    refine wg_blk 1 (i' := 6) (L' := [some (.inr (.inl (21, 0))), some (.inl a1), some (.inl a2)]) (st' := [.inl a1]) (M' := M) rfl ?_
    refine wg_ca (d' := 2) (y := 108) (as := [.inl a1]) (rest := []) (r := some (f_M_isCell a1)) (M' := M) rfl (Nat.le_of_ble_eq_true rfl) (s_M_isCell a1 M _ rfl) ?_
    refine wg_br (c := (f_M_isCell a1) = (0 : Int32)) (t := 14) (f := 8) (st' := []) rfl (fun hc => ?_) (fun hc => ?_)
    · rw [if_pos hc] at h
      refine wg_blk 1 (i' := 15) (L' := [some (.inr (.inl (21, 0))), some (.inl a1), some (.inl a2)]) (st' := [.inl (-1000001 : Int32)]) (M' := M) rfl ?_
      obtain rfl := Option.some.inj h
      exact wg_re rfl trivial ⟨rfl, rfl⟩
    · rw [if_neg hc] at h
      refine wg_blk 4 (i' := 12) (L' := [some (.inr (.inl (21, 0))), some (.inl a1), some (.inl a2)]) (st' := [.inr (.inr (3 : Int64)), .inr (.inr (0 : Int64)), .inr (.inr (a2).toInt64)]) (M' := M) rfl ?_
      refine wg_ca (d' := 1) (y := 87) (as := [.inr (.inr (a2).toInt64), .inr (.inr (0 : Int64)), .inr (.inr (3 : Int64))]) (rest := []) (r := some (f_M_in (a2).toInt64 (0 : Int64) (3 : Int64))) (M' := M) rfl (Nat.le_of_ble_eq_true rfl) (s_M_in (a2).toInt64 (0 : Int64) (3 : Int64) M _ rfl) ?_
      refine wg_br (c := (f_M_in (a2).toInt64 (0 : Int64) (3 : Int64)) = (0 : Int32)) (t := 14) (f := 16) (st' := []) rfl (fun hc => ?_) (fun hc => ?_)
      · rw [if_pos hc] at h
        refine wg_blk 1 (i' := 15) (L' := [some (.inr (.inl (21, 0))), some (.inl a1), some (.inl a2)]) (st' := [.inl (-1000001 : Int32)]) (M' := M) rfl ?_
        obtain rfl := Option.some.inj h
        exact wg_re rfl trivial ⟨rfl, rfl⟩
      · rw [if_neg hc] at h
        refine wg_blk 1 (i' := 17) (L' := [some (.inr (.inl (21, 0))), some (.inl a1), some (.inl a2)]) (st' := [.inl a2]) (M' := M) rfl ?_
        refine wg_br (c := a2 = (0 : Int32)) (t := 18) (f := 22) (st' := []) rfl (fun hc => ?_) (fun hc => ?_)
        · rw [if_pos hc] at h
          refine wg_blk 2 (i' := 20) (L' := [some (.inr (.inl (21, 0))), some (.inl a1), some (.inl a2)]) (st' := [.inl a1, .inr (.inl (21, 0))]) (M' := M) rfl ?_
          obtain ⟨q2, h1, h⟩ := wbs h
          refine wg_ca (d' := 5) (y := 113) (as := [.inr (.inl (21, 0)), .inl a1]) (rest := []) (r := some q2.1) (M' := q2.2) rfl (Nat.le_of_ble_eq_true rfl) (s_M_feltNow a1 M _ h1) ?_
          obtain rfl := Option.some.inj h
          exact wg_re rfl trivial ⟨rfl, rfl⟩
        · rw [if_neg hc] at h
          refine wg_blk 2 (i' := 24) (L' := [some (.inr (.inl (21, 0))), some (.inl a1), some (.inl a2)]) (st' := [.inl a1, .inr (.inl (21, 0))]) (M' := M) rfl ?_
          obtain ⟨v4, h3, h⟩ := wbs h
          refine wg_ca (d' := 1) (y := 110) (as := [.inr (.inl (21, 0)), .inl a1]) (rest := []) (r := some v4) (M' := M) rfl (Nat.le_of_ble_eq_true rfl) (s_M_isWork a1 M _ h3) ?_
          refine wg_br (c := v4 = (0 : Int32)) (t := 26) (f := 28) (st' := []) rfl (fun hc => ?_) (fun hc => ?_)
          · rw [if_pos hc] at h
            refine wg_blk 2 (i' := 44) (L' := [some (.inr (.inl (21, 0))), some (.inl a1), some (.inl a2)]) (st' := [.inl (-1000000 : Int32)]) (M' := M) rfl ?_
            obtain rfl := Option.some.inj h
            exact wg_re rfl trivial ⟨rfl, rfl⟩
          · rw [if_neg hc] at h
            refine wg_blk 4 (i' := 32) (L' := [some (.inr (.inl (21, 0))), some (.inl a1), some (.inl a2)]) (st' := [.inl (1 : Int32), .inl a2, .inr (.inl (25, 0))]) (M' := M) rfl ?_
            obtain ⟨t5, h7, h⟩ := wbs h
            have k : wg 5 wx0 (some .int) wk_124 41 [none, some (.inl a1), none] [.inl t5, .inr (.inl (25, 0))] M (fun r2 M2 => r2 = some z.1 ∧ M2 = z.2) := by
              refine wg_blk 2 (i' := 43) (L' := [none, some (.inl a1), none]) (st' := [.inl (t5 + a1), .inr (.inl (25, 0))]) (M' := M) rfl ?_
              obtain ⟨hp6, h⟩ := wif h
              refine wg_ck (st' := [.inl (M 25 0 ((t5 + a1)).toNatClampNeg)]) (M' := M) rfl (wib_in hp6) ?_
              obtain rfl := Option.some.inj h
              exact wg_re rfl trivial ⟨rfl, rfl⟩
            clear h
            have h := h7
            clear h7
            refine wg_br (c := a2 = (1 : Int32)) (t := 33) (f := 35) (st' := [.inr (.inl (25, 0))]) rfl (fun hc => ?_) (fun hc => ?_)
            · rw [if_pos hc] at h
              refine wg_blk 2 (i' := 41) (L' := [some (.inr (.inl (21, 0))), some (.inl a1), some (.inl a2)]) (st' := [.inl (9 : Int32), .inr (.inl (25, 0))]) (M' := M) rfl ?_
              obtain rfl := Option.some.inj h
              exact wg_wk (wk_n (wk_s (wk_n wk_e))) rfl k
            · rw [if_neg hc] at h
              refine wg_blk 2 (i' := 37) (L' := [some (.inr (.inl (21, 0))), some (.inl a1), some (.inl a2)]) (st' := [.inl (2 : Int32), .inl a2, .inr (.inl (25, 0))]) (M' := M) rfl ?_
              refine wg_br (c := a2 = (2 : Int32)) (t := 38) (f := 40) (st' := [.inr (.inl (25, 0))]) rfl (fun hc => ?_) (fun hc => ?_)
              · rw [if_pos hc] at h
                refine wg_blk 2 (i' := 41) (L' := [some (.inr (.inl (21, 0))), some (.inl a1), some (.inl a2)]) (st' := [.inl (25 : Int32), .inr (.inl (25, 0))]) (M' := M) rfl ?_
                obtain rfl := Option.some.inj h
                exact wg_wk (wk_n (wk_s (wk_n wk_e))) rfl k
              · rw [if_neg hc] at h
                refine wg_blk 1 (i' := 41) (L' := [some (.inr (.inl (21, 0))), some (.inl a1), some (.inl a2)]) (st' := [.inl (41 : Int32), .inr (.inl (25, 0))]) (M' := M) rfl ?_
                obtain rfl := Option.some.inj h
                exact wg_wk (wk_n (wk_s (wk_n wk_e))) rfl k
set_option maxRecDepth 20000 in
theorem s_C_wind (a1 : Int32) (a2 : Int32) (M : wc_M) (z : Int32) (h : f_C_wind a1 a2 M = some z) : wc_Sd 3 14 [.inr (.inl (0, 0)), .inl a1, .inl a2] M (some z) M := by
  unfold f_C_wind at h
  refine wg_Sd (Nat.le_of_ble_eq_true rfl) ?_
  show wg 2 wx0 (some .int) wk_14 0 [some (.inr (.inl (0, 0))), some (.inl a1), some (.inl a2)] [] M _
  refine wg_blk 3 (i' := 3) (L' := [some (.inr (.inl (0, 0))), some (.inl a1), some (.inl a2)]) (st' := [.inl (M 6 0 5)]) (M' := M) rfl ?_
  refine wg_br (c := (M 6 0 5) = (0 : Int32)) (t := 4) (f := 6) (st' := []) rfl (fun hc => ?_) (fun hc => ?_)
  · rw [if_pos hc] at h
    refine wg_blk 1 (i' := 5) (L' := [some (.inr (.inl (0, 0))), some (.inl a1), some (.inl a2)]) (st' := [.inl (-1000002 : Int32)]) (M' := M) rfl ?_
    obtain rfl := Option.some.inj h
    exact wg_re rfl trivial ⟨rfl, rfl⟩
  · rw [if_neg hc] at h
    refine wg_blk 1 (i' := 7) (L' := [some (.inr (.inl (0, 0))), some (.inl a1), some (.inl a2)]) (st' := [.inl a1]) (M' := M) rfl ?_
    refine wg_ca (d' := 2) (y := 34) (as := [.inl a1]) (rest := []) (r := some (f_C_isLine a1)) (M' := M) rfl (Nat.le_of_ble_eq_true rfl) (s_C_isLine a1 M _ rfl) ?_
    refine wg_br (c := (f_C_isLine a1) = (0 : Int32)) (t := 13) (f := 9) (st' := []) rfl (fun hc => ?_) (fun hc => ?_)
    · rw [if_pos hc] at h
      refine wg_blk 1 (i' := 14) (L' := [some (.inr (.inl (0, 0))), some (.inl a1), some (.inl a2)]) (st' := [.inl (-1000001 : Int32)]) (M' := M) rfl ?_
      obtain rfl := Option.some.inj h
      exact wg_re rfl trivial ⟨rfl, rfl⟩
    · rw [if_neg hc] at h
      refine wg_blk 2 (i' := 11) (L' := [some (.inr (.inl (0, 0))), some (.inl a1), some (.inl a2)]) (st' := [.inl (1 : Int32), .inl a2]) (M' := M) rfl ?_
      refine wg_ca (d' := 1) (y := 32) (as := [.inl a2, .inl (1 : Int32)]) (rest := []) (r := some (f_C_isUpTo a2 (1 : Int32))) (M' := M) rfl (Nat.le_of_ble_eq_true rfl) (s_C_isUpTo a2 (1 : Int32) M _ rfl) ?_
      refine wg_br (c := (f_C_isUpTo a2 (1 : Int32)) = (0 : Int32)) (t := 13) (f := 15) (st' := []) rfl (fun hc => ?_) (fun hc => ?_)
      · rw [if_pos hc] at h
        refine wg_blk 1 (i' := 14) (L' := [some (.inr (.inl (0, 0))), some (.inl a1), some (.inl a2)]) (st' := [.inl (-1000001 : Int32)]) (M' := M) rfl ?_
        obtain rfl := Option.some.inj h
        exact wg_re rfl trivial ⟨rfl, rfl⟩
      · rw [if_neg hc] at h
        refine wg_blk 1 (i' := 16) (L' := [some (.inr (.inl (0, 0))), some (.inl a1), some (.inl a2)]) (st' := [.inl a2]) (M' := M) rfl ?_
        refine wg_br (c := a2 = (0 : Int32)) (t := 17) (f := 23) (st' := []) rfl (fun hc => ?_) (fun hc => ?_)
        · rw [if_pos hc] at h
          refine wg_blk 4 (i' := 21) (L' := [some (.inr (.inl (0, 0))), some (.inl a1), some (.inl a2)]) (st' := [.inl a1, .inr (.inl (7, 0))]) (M' := M) rfl ?_
          obtain ⟨hp1, h⟩ := wif h
          refine wg_ck (st' := [.inl (M 7 0 (a1).toNatClampNeg)]) (M' := M) rfl (wib_in hp1) ?_
          refine wg_blk 1 (i' := 28) (L' := [some (.inr (.inl (0, 0))), some (.inl a1), some (.inl a2)]) (st' := [.inl (M 7 0 (a1).toNatClampNeg)]) (M' := M) rfl ?_
          obtain rfl := Option.some.inj h
          exact wg_re rfl trivial ⟨rfl, rfl⟩
        · rw [if_neg hc] at h
          refine wg_blk 4 (i' := 27) (L' := [some (.inr (.inl (0, 0))), some (.inl a1), some (.inl a2)]) (st' := [.inl a1, .inr (.inl (8, 0))]) (M' := M) rfl ?_
          obtain ⟨hp2, h⟩ := wif h
          refine wg_ck (st' := [.inl (M 8 0 (a1).toNatClampNeg)]) (M' := M) rfl (wib_in hp2) ?_
          obtain rfl := Option.some.inj h
          exact wg_re rfl trivial ⟨rfl, rfl⟩
set_option maxRecDepth 20000 in
theorem s_M_wind (a1 : Int32) (a2 : Int32) (M : wc_M) (z : Int32) (h : f_M_wind a1 a2 M = some z) : wc_Sd 3 125 [.inr (.inl (21, 0)), .inl a1, .inl a2] M (some z) M := by
  unfold f_M_wind at h
  refine wg_Sd (Nat.le_of_ble_eq_true rfl) ?_
  show wg 2 wx0 (some .int) wk_125 0 [some (.inr (.inl (21, 0))), some (.inl a1), some (.inl a2)] [] M _
  refine wg_blk 2 (i' := 2) (L' := [some (.inr (.inl (21, 0))), some (.inl a1), some (.inl a2)]) (st' := [.inl (M 21 0 4)]) (M' := M) rfl ?_
  refine wg_br (c := (M 21 0 4) = (0 : Int32)) (t := 3) (f := 5) (st' := []) rfl (fun hc => ?_) (fun hc => ?_)
  · rw [if_pos hc] at h
    refine wg_blk 1 (i' := 4) (L' := [some (.inr (.inl (21, 0))), some (.inl a1), some (.inl a2)]) (st' := [.inl (-1000002 : Int32)]) (M' := M) rfl ?_
    obtain rfl := Option.some.inj h
    exact wg_re rfl trivial ⟨rfl, rfl⟩
  · rw [if_neg hc] at h
    refine wg_blk 1 (i' := 6) (L' := [some (.inr (.inl (21, 0))), some (.inl a1), some (.inl a2)]) (st' := [.inl a1]) (M' := M) rfl ?_
    refine wg_ca (d' := 2) (y := 109) (as := [.inl a1]) (rest := []) (r := some (f_M_isRowOfPass a1)) (M' := M) rfl (Nat.le_of_ble_eq_true rfl) (s_M_isRowOfPass a1 M _ rfl) ?_
    refine wg_br (c := (f_M_isRowOfPass a1) = (0 : Int32)) (t := 14) (f := 8) (st' := []) rfl (fun hc => ?_) (fun hc => ?_)
    · rw [if_pos hc] at h
      refine wg_blk 1 (i' := 15) (L' := [some (.inr (.inl (21, 0))), some (.inl a1), some (.inl a2)]) (st' := [.inl (-1000001 : Int32)]) (M' := M) rfl ?_
      obtain rfl := Option.some.inj h
      exact wg_re rfl trivial ⟨rfl, rfl⟩
    · rw [if_neg hc] at h
      refine wg_blk 4 (i' := 12) (L' := [some (.inr (.inl (21, 0))), some (.inl a1), some (.inl a2)]) (st' := [.inr (.inr (1 : Int64)), .inr (.inr (0 : Int64)), .inr (.inr (a2).toInt64)]) (M' := M) rfl ?_
      refine wg_ca (d' := 1) (y := 87) (as := [.inr (.inr (a2).toInt64), .inr (.inr (0 : Int64)), .inr (.inr (1 : Int64))]) (rest := []) (r := some (f_M_in (a2).toInt64 (0 : Int64) (1 : Int64))) (M' := M) rfl (Nat.le_of_ble_eq_true rfl) (s_M_in (a2).toInt64 (0 : Int64) (1 : Int64) M _ rfl) ?_
      refine wg_br (c := (f_M_in (a2).toInt64 (0 : Int64) (1 : Int64)) = (0 : Int32)) (t := 14) (f := 16) (st' := []) rfl (fun hc => ?_) (fun hc => ?_)
      · rw [if_pos hc] at h
        refine wg_blk 1 (i' := 15) (L' := [some (.inr (.inl (21, 0))), some (.inl a1), some (.inl a2)]) (st' := [.inl (-1000001 : Int32)]) (M' := M) rfl ?_
        obtain rfl := Option.some.inj h
        exact wg_re rfl trivial ⟨rfl, rfl⟩
      · rw [if_neg hc] at h
        refine wg_blk 1 (i' := 17) (L' := [some (.inr (.inl (21, 0))), some (.inl a1), some (.inl a2)]) (st' := [.inl a2]) (M' := M) rfl ?_
        refine wg_br (c := a2 = (0 : Int32)) (t := 18) (f := 25) (st' := []) rfl (fun hc => ?_) (fun hc => ?_)
        · rw [if_pos hc] at h
          refine wg_blk 5 (i' := 23) (L' := [some (.inr (.inl (21, 0))), some (.inl a1), some (.inl a2)]) (st' := [.inl ((1 : Int32) + a1), .inr (.inl (25, 0))]) (M' := M) rfl ?_
          obtain ⟨hp1, h⟩ := wif h
          refine wg_ck (st' := [.inl (M 25 0 (((1 : Int32) + a1)).toNatClampNeg)]) (M' := M) rfl (wib_in hp1) ?_
          refine wg_blk 1 (i' := 31) (L' := [some (.inr (.inl (21, 0))), some (.inl a1), some (.inl a2)]) (st' := [.inl (M 25 0 (((1 : Int32) + a1)).toNatClampNeg)]) (M' := M) rfl ?_
          obtain rfl := Option.some.inj h
          exact wg_re rfl trivial ⟨rfl, rfl⟩
        · rw [if_neg hc] at h
          refine wg_blk 5 (i' := 30) (L' := [some (.inr (.inl (21, 0))), some (.inl a1), some (.inl a2)]) (st' := [.inl ((5 : Int32) + a1), .inr (.inl (25, 0))]) (M' := M) rfl ?_
          obtain ⟨hp2, h⟩ := wif h
          refine wg_ck (st' := [.inl (M 25 0 (((5 : Int32) + a1)).toNatClampNeg)]) (M' := M) rfl (wib_in hp2) ?_
          obtain rfl := Option.some.inj h
          exact wg_re rfl trivial ⟨rfl, rfl⟩
set_option maxRecDepth 20000 in
theorem l_C_foretell_7_ok (x1 : Int32) {K : Option Int32 → wc_M → Prop} : ∀ (n : Nat) (x2 : Int32) (M : wc_M) (o : wc_M), l_C_foretell_7 x1 n x2 M = some o → wg 4 wx0 none wk_45 16 [some (.inr (.inl (0, 0))), none, none] [] o K → wg 4 wx0 none wk_45 7 [some (.inr (.inl (0, 0))), some (.inl x1), some (.inl x2)] [] M K := by
  intro n
  induction n with
  | zero =>
    intro x2 M o h hk
    exact nomatch (show (none : Option (wc_M)) = some o from h)
  | succ n ih =>
    intro x2 M o h hk
    unfold l_C_foretell_7 at h
    refine wg_blk 2 (i' := 9) (L' := [some (.inr (.inl (0, 0))), some (.inl x1), some (.inl x2)]) (st' := [.inl x1, .inl x2]) (M' := M) rfl ?_
    refine wg_br (c := x1 ≤ x2) (t := 16) (f := 10) (st' := []) rfl (fun hc => ?_) (fun hc => ?_)
    · rw [if_pos hc] at h
      obtain rfl := Option.some.inj h
      exact wg_wk (wk_s (wk_n (wk_n wk_e))) rfl hk
    · rw [if_neg hc] at h
      refine wg_blk 3 (i' := 13) (L' := [some (.inr (.inl (0, 0))), some (.inl x1), some (.inl x2)]) (st' := [.inr (.inl (6, 1)), .inr (.inl (0, 0))]) (M' := M) rfl ?_
      obtain ⟨m4, h3, h⟩ := wbs h
      refine wg_ca (d' := 4) (y := 44) (as := [.inr (.inl (0, 0)), .inr (.inl (6, 1))]) (rest := []) (r := none) (M' := m4) rfl (Nat.le_of_ble_eq_true rfl) (s_C_spendHour 1 M _ h3) ?_
      refine wg_blk 2 (i' := 7) (L' := [some (.inr (.inl (0, 0))), some (.inl x1), some (.inl (x2 + (1 : Int32)))]) (st' := []) (M' := m4) rfl ?_
      exact wg_wk (wk_s (wk_s (wk_s wk_e))) rfl (ih (x2 + (1 : Int32)) m4 _ h hk)
set_option maxRecDepth 20000 in
theorem s_C_foretell (a1 : Int32) (M : wc_M) (z : wc_M) (h : f_C_foretell a1 M = some z) : wc_Sd 5 45 [.inr (.inl (0, 0)), .inl a1] M none z := by
  unfold f_C_foretell at h
  refine wg_Sd (Nat.le_of_ble_eq_true rfl) ?_
  show wg 4 wx0 none wk_45 0 [some (.inr (.inl (0, 0))), some (.inl a1), none] [] M _
  refine wg_blk 4 (i' := 4) (L' := [some (.inr (.inl (0, 0))), some (.inl a1), none]) (st' := [.inr (.inl (6, 0)), .inr (.inl (6, 1))]) (M' := M) rfl ?_
  obtain ⟨m2, h1, h⟩ := wbs h
  refine wg_ca (d' := 1) (y := 65) (as := [.inr (.inl (6, 1)), .inr (.inl (6, 0))]) (rest := []) (r := none) (M' := m2) rfl (Nat.le_of_ble_eq_true rfl) (s_P_become 1 0 M _ h1) ?_
  refine wg_blk 2 (i' := 7) (L' := [some (.inr (.inl (0, 0))), some (.inl a1), some (.inl (0 : Int32))]) (st' := []) (M' := m2) rfl ?_
  obtain ⟨t5, h6, h⟩ := wbs h
  refine wg_wk (wk_s (wk_s (wk_s wk_e))) rfl (l_C_foretell_7_ok a1 2000 (0 : Int32) m2 _ h6 ?_)
  refine wg_blk 4 (i' := 20) (L' := [some (.inr (.inl (0, 0))), none, none]) (st' := [.inr (.inl (6, 1)), .inr (.inl (12, 0))]) (M' := t5) rfl ?_
  obtain ⟨m8, h7, h⟩ := wbs h
  refine wg_ca (d' := 3) (y := 74) (as := [.inr (.inl (12, 0)), .inr (.inl (6, 1))]) (rest := []) (r := none) (M' := m8) rfl (Nat.le_of_ble_eq_true rfl) (s_A_blow 1 t5 _ h7) ?_
  obtain rfl := Option.some.inj h
  exact wg_re rfl trivial ⟨rfl, rfl⟩
set_option maxRecDepth 20000 in
theorem s_C_felt (a1 : Int32) (a2 : Int32) (M : wc_M) (z : Int32 × wc_M) (h : f_C_felt a1 a2 M = some z) : wc_Sd 6 15 [.inr (.inl (0, 0)), .inl a1, .inl a2] M (some z.1) z.2 := by
  unfold f_C_felt at h
  refine wg_Sd (Nat.le_of_ble_eq_true rfl) ?_
  show wg 5 wx0 (some .int) wk_15 0 [some (.inr (.inl (0, 0))), some (.inl a1), some (.inl a2)] [] M _
  refine wg_blk 3 (i' := 3) (L' := [some (.inr (.inl (0, 0))), some (.inl a1), some (.inl a2)]) (st' := [.inl (M 6 0 5)]) (M' := M) rfl ?_
  refine wg_br (c := (M 6 0 5) = (0 : Int32)) (t := 4) (f := 6) (st' := []) rfl (fun hc => ?_) (fun hc => ?_)
  · rw [if_pos hc] at h
    refine wg_blk 1 (i' := 5) (L' := [some (.inr (.inl (0, 0))), some (.inl a1), some (.inl a2)]) (st' := [.inl (-1000002 : Int32)]) (M' := M) rfl ?_
    obtain rfl := Option.some.inj h
    exact wg_re rfl trivial ⟨rfl, rfl⟩
  · rw [if_neg hc] at h
    refine wg_blk 1 (i' := 7) (L' := [some (.inr (.inl (0, 0))), some (.inl a1), some (.inl a2)]) (st' := [.inl a1]) (M' := M) rfl ?_
    refine wg_ca (d' := 2) (y := 33) (as := [.inl a1]) (rest := []) (r := some (f_C_isCell a1)) (M' := M) rfl (Nat.le_of_ble_eq_true rfl) (s_C_isCell a1 M _ rfl) ?_
    refine wg_br (c := (f_C_isCell a1) = (0 : Int32)) (t := 13) (f := 9) (st' := []) rfl (fun hc => ?_) (fun hc => ?_)
    · rw [if_pos hc] at h
      refine wg_blk 1 (i' := 14) (L' := [some (.inr (.inl (0, 0))), some (.inl a1), some (.inl a2)]) (st' := [.inl (-1000001 : Int32)]) (M' := M) rfl ?_
      obtain rfl := Option.some.inj h
      exact wg_re rfl trivial ⟨rfl, rfl⟩
    · rw [if_neg hc] at h
      refine wg_blk 2 (i' := 11) (L' := [some (.inr (.inl (0, 0))), some (.inl a1), some (.inl a2)]) (st' := [.inl (40 : Int32), .inl a2]) (M' := M) rfl ?_
      refine wg_ca (d' := 1) (y := 32) (as := [.inl a2, .inl (40 : Int32)]) (rest := []) (r := some (f_C_isUpTo a2 (40 : Int32))) (M' := M) rfl (Nat.le_of_ble_eq_true rfl) (s_C_isUpTo a2 (40 : Int32) M _ rfl) ?_
      refine wg_br (c := (f_C_isUpTo a2 (40 : Int32)) = (0 : Int32)) (t := 13) (f := 15) (st' := []) rfl (fun hc => ?_) (fun hc => ?_)
      · rw [if_pos hc] at h
        refine wg_blk 1 (i' := 14) (L' := [some (.inr (.inl (0, 0))), some (.inl a1), some (.inl a2)]) (st' := [.inl (-1000001 : Int32)]) (M' := M) rfl ?_
        obtain rfl := Option.some.inj h
        exact wg_re rfl trivial ⟨rfl, rfl⟩
      · rw [if_neg hc] at h
        refine wg_blk 2 (i' := 17) (L' := [some (.inr (.inl (0, 0))), some (.inl a1), some (.inl a2)]) (st' := [.inl a2, .inr (.inl (0, 0))]) (M' := M) rfl ?_
        obtain ⟨m2, h1, h⟩ := wbs h
        refine wg_ca (d' := 5) (y := 45) (as := [.inr (.inl (0, 0)), .inl a2]) (rest := []) (r := none) (M' := m2) rfl (Nat.le_of_ble_eq_true rfl) (s_C_foretell a2 M _ h1) ?_
        refine wg_blk 4 (i' := 22) (L' := [some (.inr (.inl (0, 0))), some (.inl a1), some (.inl a2)]) (st' := [.inl a1, .inr (.inl (13, 0))]) (M' := m2) rfl ?_
        obtain ⟨hp3, h⟩ := wif h
        refine wg_ck (st' := [.inl (m2 13 0 (a1).toNatClampNeg)]) (M' := m2) rfl (wib_in hp3) ?_
        obtain rfl := Option.some.inj h
        exact wg_re rfl trivial ⟨rfl, rfl⟩
