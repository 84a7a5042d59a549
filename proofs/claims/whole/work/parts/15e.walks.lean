/-! THE FUNCTIONS are what the code does (written by wip/whole/gen/dec.py) -/
set_option maxRecDepth 20000 in
theorem l_M_putAside_2_ok {K : Option Int32 → wc_M → Prop} : ∀ (n : Nat) (x1 : Int32) (M : wc_M) (o : wc_M), l_M_putAside_2 n x1 M = some o → wg 0 wx0 none wk_126 15 [none, none] [] o K → wg 0 wx0 none wk_126 2 [some (.inr (.inl (21, 0))), some (.inl x1)] [] M K := by
  intro n
  induction n with
  | zero =>
    intro x1 M o h hk
    exact nomatch (show (none : Option (wc_M)) = some o from h)
  | succ n ih =>
    intro x1 M o h hk
    unfold l_M_putAside_2 at h
    refine wg_blk 2 (i' := 4) (L' := [some (.inr (.inl (21, 0))), some (.inl x1)]) (st' := [.inl (57 : Int32), .inl x1]) (M' := M) rfl ?_
    refine wg_br (c := (57 : Int32) ≤ x1) (t := 15) (f := 5) (st' := []) rfl (fun hc => ?_) (fun hc => ?_)
    · rw [if_pos hc] at h
      obtain rfl := Option.some.inj h
      exact wg_wk (wk_n (wk_n wk_e)) rfl hk
    · rw [if_neg hc] at h
      refine wg_blk 6 (i' := 11) (L' := [some (.inr (.inl (21, 0))), some (.inl x1)]) (st' := [.inl x1, .inr (.inl (25, 0)), .inl x1, .inr (.inl (31, 0))]) (M' := M) rfl ?_
      obtain ⟨hp1, h⟩ := wif h
      refine wg_ck (st' := [.inl (M 25 0 (x1).toNatClampNeg), .inl x1, .inr (.inl (31, 0))]) (M' := M) rfl (wib_in hp1) ?_
      refine wg_ck (st' := []) (M' := (wc_up M 31 0 (x1).toNatClampNeg (M 25 0 (x1).toNatClampNeg))) rfl (wib_in hp1) ?_
      refine wg_blk 2 (i' := 2) (L' := [some (.inr (.inl (21, 0))), some (.inl (x1 + (1 : Int32)))]) (st' := []) (M' := (wc_up M 31 0 (x1).toNatClampNeg (M 25 0 (x1).toNatClampNeg))) rfl ?_
      exact wg_wk (wk_s (wk_s wk_e)) rfl (ih (x1 + (1 : Int32)) (wc_up M 31 0 (x1).toNatClampNeg (M 25 0 (x1).toNatClampNeg)) _ h hk)
set_option maxRecDepth 20000 in
theorem s_M_putAside (M : wc_M) (z : wc_M) (h : f_M_putAside M = some z) : wc_Sd 1 126 [.inr (.inl (21, 0))] M none z := by
  unfold f_M_putAside at h
  refine wg_Sd (Nat.le_of_ble_eq_true rfl) ?_
  show wg 0 wx0 none wk_126 0 [some (.inr (.inl (21, 0))), none] [] M _
  refine wg_blk 2 (i' := 2) (L' := [some (.inr (.inl (21, 0))), some (.inl (0 : Int32))]) (st' := []) (M' := M) rfl ?_
  obtain ⟨t2, h3, h⟩ := wbs h
  refine wg_wk (wk_s (wk_s wk_e)) rfl (l_M_putAside_2_ok 2000 (0 : Int32) M _ h3 ?_)
  obtain rfl := Option.some.inj h
  exact wg_re rfl trivial ⟨rfl, rfl⟩
set_option maxRecDepth 20000 in
theorem l_M_takeBack_2_ok {K : Option Int32 → wc_M → Prop} : ∀ (n : Nat) (x1 : Int32) (M : wc_M) (o : wc_M), l_M_takeBack_2 n x1 M = some o → wg 0 wx0 none wk_127 15 [none, none] [] o K → wg 0 wx0 none wk_127 2 [some (.inr (.inl (21, 0))), some (.inl x1)] [] M K := by
  intro n
  induction n with
  | zero =>
    intro x1 M o h hk
    exact nomatch (show (none : Option (wc_M)) = some o from h)
  | succ n ih =>
    intro x1 M o h hk
    unfold l_M_takeBack_2 at h
    refine wg_blk 2 (i' := 4) (L' := [some (.inr (.inl (21, 0))), some (.inl x1)]) (st' := [.inl (57 : Int32), .inl x1]) (M' := M) rfl ?_
    refine wg_br (c := (57 : Int32) ≤ x1) (t := 15) (f := 5) (st' := []) rfl (fun hc => ?_) (fun hc => ?_)
    · rw [if_pos hc] at h
      obtain rfl := Option.some.inj h
      exact wg_wk (wk_n (wk_n wk_e)) rfl hk
    · rw [if_neg hc] at h
      refine wg_blk 6 (i' := 11) (L' := [some (.inr (.inl (21, 0))), some (.inl x1)]) (st' := [.inl x1, .inr (.inl (31, 0)), .inl x1, .inr (.inl (25, 0))]) (M' := M) rfl ?_
      obtain ⟨hp1, h⟩ := wif h
      refine wg_ck (st' := [.inl (M 31 0 (x1).toNatClampNeg), .inl x1, .inr (.inl (25, 0))]) (M' := M) rfl (wib_in hp1) ?_
      refine wg_ck (st' := []) (M' := (wc_up M 25 0 (x1).toNatClampNeg (M 31 0 (x1).toNatClampNeg))) rfl (wib_in hp1) ?_
      refine wg_blk 2 (i' := 2) (L' := [some (.inr (.inl (21, 0))), some (.inl (x1 + (1 : Int32)))]) (st' := []) (M' := (wc_up M 25 0 (x1).toNatClampNeg (M 31 0 (x1).toNatClampNeg))) rfl ?_
      exact wg_wk (wk_s (wk_s wk_e)) rfl (ih (x1 + (1 : Int32)) (wc_up M 25 0 (x1).toNatClampNeg (M 31 0 (x1).toNatClampNeg)) _ h hk)
set_option maxRecDepth 20000 in
theorem s_M_takeBack (M : wc_M) (z : wc_M) (h : f_M_takeBack M = some z) : wc_Sd 1 127 [.inr (.inl (21, 0))] M none z := by
  unfold f_M_takeBack at h
  refine wg_Sd (Nat.le_of_ble_eq_true rfl) ?_
  show wg 0 wx0 none wk_127 0 [some (.inr (.inl (21, 0))), none] [] M _
  refine wg_blk 2 (i' := 2) (L' := [some (.inr (.inl (21, 0))), some (.inl (0 : Int32))]) (st' := []) (M' := M) rfl ?_
  obtain ⟨t2, h3, h⟩ := wbs h
  refine wg_wk (wk_s (wk_s wk_e)) rfl (l_M_takeBack_2_ok 2000 (0 : Int32) M _ h3 ?_)
  obtain rfl := Option.some.inj h
  exact wg_re rfl trivial ⟨rfl, rfl⟩
set_option maxRecDepth 20000 in
theorem l_M_blowIn_4_ok (x1 : Int32) {K : Option Int32 → wc_M → Prop} : ∀ (n : Nat) (x2 : Int32) (M : wc_M) (o : wc_M), l_M_blowIn_4 x1 n x2 M = some o → wg 5 wx0 none wk_128 11 [some (.inr (.inl (21, 0))), none, none] [] o K → wg 5 wx0 none wk_128 4 [some (.inr (.inl (21, 0))), some (.inl x1), some (.inl x2)] [] M K := by
  intro n
  induction n with
  | zero =>
    intro x2 M o h hk
    exact nomatch (show (none : Option (wc_M)) = some o from h)
  | succ n ih =>
    intro x2 M o h hk
    unfold l_M_blowIn_4 at h
    refine wg_blk 2 (i' := 6) (L' := [some (.inr (.inl (21, 0))), some (.inl x1), some (.inl x2)]) (st' := [.inl x1, .inl x2]) (M' := M) rfl ?_
    refine wg_br (c := x1 ≤ x2) (t := 11) (f := 7) (st' := []) rfl (fun hc => ?_) (fun hc => ?_)
    · rw [if_pos hc] at h
      obtain rfl := Option.some.inj h
      exact wg_wk (wk_s (wk_n (wk_n wk_e))) rfl hk
    · rw [if_neg hc] at h
      refine wg_blk 1 (i' := 8) (L' := [some (.inr (.inl (21, 0))), some (.inl x1), some (.inl x2)]) (st' := [.inr (.inl (21, 0))]) (M' := M) rfl ?_
      obtain ⟨m4, h3, h⟩ := wbs h
      refine wg_ca (d' := 5) (y := 115) (as := [.inr (.inl (21, 0))]) (rest := []) (r := none) (M' := m4) rfl (Nat.le_of_ble_eq_true rfl) (s_M_oneHour M _ h3) ?_
      refine wg_blk 2 (i' := 4) (L' := [some (.inr (.inl (21, 0))), some (.inl x1), some (.inl (x2 + (1 : Int32)))]) (st' := []) (M' := m4) rfl ?_
      exact wg_wk (wk_s (wk_s (wk_s wk_e))) rfl (ih (x2 + (1 : Int32)) m4 _ h hk)
set_option maxRecDepth 20000 in
theorem s_M_blowIn (a1 : Int32) (M : wc_M) (z : wc_M) (h : f_M_blowIn a1 M = some z) : wc_Sd 6 128 [.inr (.inl (21, 0)), .inl a1] M none z := by
  unfold f_M_blowIn at h
  refine wg_Sd (Nat.le_of_ble_eq_true rfl) ?_
  show wg 5 wx0 none wk_128 0 [some (.inr (.inl (21, 0))), some (.inl a1), none] [] M _
  refine wg_blk 1 (i' := 1) (L' := [some (.inr (.inl (21, 0))), some (.inl a1), none]) (st' := [.inr (.inl (21, 0))]) (M' := M) rfl ?_
  obtain ⟨m2, h1, h⟩ := wbs h
  refine wg_ca (d' := 1) (y := 126) (as := [.inr (.inl (21, 0))]) (rest := []) (r := none) (M' := m2) rfl (Nat.le_of_ble_eq_true rfl) (s_M_putAside M _ h1) ?_
  refine wg_blk 2 (i' := 4) (L' := [some (.inr (.inl (21, 0))), some (.inl a1), some (.inl (0 : Int32))]) (st' := []) (M' := m2) rfl ?_
  obtain ⟨t5, h6, h⟩ := wbs h
  refine wg_wk (wk_s (wk_s (wk_s wk_e))) rfl (l_M_blowIn_4_ok a1 2000 (0 : Int32) m2 _ h6 ?_)
  refine wg_blk 1 (i' := 12) (L' := [some (.inr (.inl (21, 0))), none, none]) (st' := [.inr (.inl (21, 0))]) (M' := t5) rfl ?_
  obtain ⟨m8, h7, h⟩ := wbs h
  refine wg_ca (d' := 4) (y := 112) (as := [.inr (.inl (21, 0))]) (rest := []) (r := none) (M' := m8) rfl (Nat.le_of_ble_eq_true rfl) (s_M_blow t5 _ h7) ?_
  refine wg_blk 1 (i' := 14) (L' := [some (.inr (.inl (21, 0))), none, none]) (st' := [.inr (.inl (21, 0))]) (M' := m8) rfl ?_
  obtain ⟨m10, h9, h⟩ := wbs h
  refine wg_ca (d' := 1) (y := 127) (as := [.inr (.inl (21, 0))]) (rest := []) (r := none) (M' := m10) rfl (Nat.le_of_ble_eq_true rfl) (s_M_takeBack m8 _ h9) ?_
  obtain rfl := Option.some.inj h
  exact wg_re rfl trivial ⟨rfl, rfl⟩
set_option maxRecDepth 20000 in
theorem s_M_felt (a1 : Int32) (a2 : Int32) (M : wc_M) (z : Int32 × wc_M) (h : f_M_felt a1 a2 M = some z) : wc_Sd 7 129 [.inr (.inl (21, 0)), .inl a1, .inl a2] M (some z.1) z.2 := by
  unfold f_M_felt at h
  refine wg_Sd (Nat.le_of_ble_eq_true rfl) ?_
  show wg 6 wx0 (some .int) wk_129 0 [some (.inr (.inl (21, 0))), some (.inl a1), some (.inl a2)] [] M _
  refine wg_blk 2 (i' := 2) (L' := [some (.inr (.inl (21, 0))), some (.inl a1), some (.inl a2)]) (st' := [.inl (M 21 0 4)]) (M' := M) rfl ?_
  refine wg_br (c := (M 21 0 4) = (0 : Int32)) (t := 3) (f := 5) (st' := []) rfl (fun hc => ?_) (fun hc => ?_)
  · rw [if_pos hc] at h
    refine wg_blk 1 (i' := 4) (L' := [some (.inr (.inl (21, 0))), some (.inl a1), some (.inl a2)]) (st' := [.inl (-1000002 : Int32)]) (M' := M) rfl ?_
    obtain rfl := Option.some.inj h
    exact wg_re rfl trivial ⟨rfl, rfl⟩
  · rw [if_neg hc] at h
    refine wg_blk 1 (i' := 6) (L' := [some (.inr (.inl (21, 0))), some (.inl a1), some (.inl a2)]) (st' := [.inl a1]) (M' := M) rfl ?_
    refine wg_ca (d' := 2) (y := 108) (as := [.inl a1]) (rest := []) (r := some (f_M_isCell a1)) (M' := M) rfl (Nat.le_of_ble_eq_true rfl) (s_M_isCell a1 M _ rfl) ?_
    refine wg_br (c := (f_M_isCell a1) = (0 : Int32)) (t := 14) (f := 8) (st' := []) rfl (fun hc => ?_) (fun hc => ?_)
    · rw [if_pos hc] at h
      refine wg_blk 1 (i' := 15) (L' := [some (.inr (.inl (21, 0))), some (.inl a1), some (.inl a2)]) (st' := [.inl (-1000001 : Int32)]) (M' := M) rfl ?_
      obtain rfl := Option.some.inj h
      exact wg_re rfl trivial ⟨rfl, rfl⟩
    · rw [if_neg hc] at h
      refine wg_blk 4 (i' := 12) (L' := [some (.inr (.inl (21, 0))), some (.inl a1), some (.inl a2)]) (st' := [.inr (.inr (40 : Int64)), .inr (.inr (0 : Int64)), .inr (.inr (a2).toInt64)]) (M' := M) rfl ?_
      refine wg_ca (d' := 1) (y := 87) (as := [.inr (.inr (a2).toInt64), .inr (.inr (0 : Int64)), .inr (.inr (40 : Int64))]) (rest := []) (r := some (f_M_in (a2).toInt64 (0 : Int64) (40 : Int64))) (M' := M) rfl (Nat.le_of_ble_eq_true rfl) (s_M_in (a2).toInt64 (0 : Int64) (40 : Int64) M _ rfl) ?_
      refine wg_br (c := (f_M_in (a2).toInt64 (0 : Int64) (40 : Int64)) = (0 : Int32)) (t := 14) (f := 16) (st' := []) rfl (fun hc => ?_) (fun hc => ?_)
      · rw [if_pos hc] at h
        refine wg_blk 1 (i' := 15) (L' := [some (.inr (.inl (21, 0))), some (.inl a1), some (.inl a2)]) (st' := [.inl (-1000001 : Int32)]) (M' := M) rfl ?_
        obtain rfl := Option.some.inj h
        exact wg_re rfl trivial ⟨rfl, rfl⟩
      · rw [if_neg hc] at h
        refine wg_blk 2 (i' := 18) (L' := [some (.inr (.inl (21, 0))), some (.inl a1), some (.inl a2)]) (st' := [.inl a2, .inr (.inl (21, 0))]) (M' := M) rfl ?_
        obtain ⟨m2, h1, h⟩ := wbs h
        refine wg_ca (d' := 6) (y := 128) (as := [.inr (.inl (21, 0)), .inl a2]) (rest := []) (r := none) (M' := m2) rfl (Nat.le_of_ble_eq_true rfl) (s_M_blowIn a2 M _ h1) ?_
        refine wg_blk 3 (i' := 22) (L' := [some (.inr (.inl (21, 0))), some (.inl a1), some (.inl a2)]) (st' := [.inl a1, .inr (.inl (29, 0))]) (M' := m2) rfl ?_
        obtain ⟨hp3, h⟩ := wif h
        refine wg_ck (st' := [.inl (m2 29 0 (a1).toNatClampNeg)]) (M' := m2) rfl (wib_in hp3) ?_
        obtain rfl := Option.some.inj h
        exact wg_re rfl trivial ⟨rfl, rfl⟩
set_option maxRecDepth 20000 in
theorem s_C_lost (a1 : Int32) (M : wc_M) (z : Int32 × wc_M) (h : f_C_lost a1 M = some z) : wc_Sd 6 16 [.inr (.inl (0, 0)), .inl a1] M (some z.1) z.2 := by
  unfold f_C_lost at h
  refine wg_Sd (Nat.le_of_ble_eq_true rfl) ?_
  show wg 5 wx0 (some .int) wk_16 0 [some (.inr (.inl (0, 0))), some (.inl a1)] [] M _
  refine wg_blk 3 (i' := 3) (L' := [some (.inr (.inl (0, 0))), some (.inl a1)]) (st' := [.inl (M 6 0 5)]) (M' := M) rfl ?_
  refine wg_br (c := (M 6 0 5) = (0 : Int32)) (t := 4) (f := 6) (st' := []) rfl (fun hc => ?_) (fun hc => ?_)
  · rw [if_pos hc] at h
    refine wg_blk 1 (i' := 5) (L' := [some (.inr (.inl (0, 0))), some (.inl a1)]) (st' := [.inl (-1000002 : Int32)]) (M' := M) rfl ?_
    obtain rfl := Option.some.inj h
    exact wg_re rfl trivial ⟨rfl, rfl⟩
  · rw [if_neg hc] at h
    refine wg_blk 2 (i' := 8) (L' := [some (.inr (.inl (0, 0))), some (.inl a1)]) (st' := [.inl (40 : Int32), .inl a1]) (M' := M) rfl ?_
    refine wg_ca (d' := 1) (y := 32) (as := [.inl a1, .inl (40 : Int32)]) (rest := []) (r := some (f_C_isUpTo a1 (40 : Int32))) (M' := M) rfl (Nat.le_of_ble_eq_true rfl) (s_C_isUpTo a1 (40 : Int32) M _ rfl) ?_
    refine wg_br (c := (f_C_isUpTo a1 (40 : Int32)) = (0 : Int32)) (t := 10) (f := 12) (st' := []) rfl (fun hc => ?_) (fun hc => ?_)
    · rw [if_pos hc] at h
      refine wg_blk 1 (i' := 11) (L' := [some (.inr (.inl (0, 0))), some (.inl a1)]) (st' := [.inl (-1000001 : Int32)]) (M' := M) rfl ?_
      obtain rfl := Option.some.inj h
      exact wg_re rfl trivial ⟨rfl, rfl⟩
    · rw [if_neg hc] at h
      refine wg_blk 2 (i' := 14) (L' := [some (.inr (.inl (0, 0))), some (.inl a1)]) (st' := [.inl a1, .inr (.inl (0, 0))]) (M' := M) rfl ?_
      obtain ⟨m2, h1, h⟩ := wbs h
      refine wg_ca (d' := 5) (y := 45) (as := [.inr (.inl (0, 0)), .inl a1]) (rest := []) (r := none) (M' := m2) rfl (Nat.le_of_ble_eq_true rfl) (s_C_foretell a1 M _ h1) ?_
      refine wg_blk 3 (i' := 18) (L' := [some (.inr (.inl (0, 0))), some (.inl a1)]) (st' := [.inl (m2 12 0 2)]) (M' := m2) rfl ?_
      obtain rfl := Option.some.inj h
      exact wg_re rfl trivial ⟨rfl, rfl⟩
set_option maxRecDepth 20000 in
theorem s_M_lost (a1 : Int32) (M : wc_M) (z : Int32 × wc_M) (h : f_M_lost a1 M = some z) : wc_Sd 7 130 [.inr (.inl (21, 0)), .inl a1] M (some z.1) z.2 := by
  unfold f_M_lost at h
  refine wg_Sd (Nat.le_of_ble_eq_true rfl) ?_
  show wg 6 wx0 (some .int) wk_130 0 [some (.inr (.inl (21, 0))), some (.inl a1)] [] M _
  refine wg_blk 2 (i' := 2) (L' := [some (.inr (.inl (21, 0))), some (.inl a1)]) (st' := [.inl (M 21 0 4)]) (M' := M) rfl ?_
  refine wg_br (c := (M 21 0 4) = (0 : Int32)) (t := 3) (f := 5) (st' := []) rfl (fun hc => ?_) (fun hc => ?_)
  · rw [if_pos hc] at h
    refine wg_blk 1 (i' := 4) (L' := [some (.inr (.inl (21, 0))), some (.inl a1)]) (st' := [.inl (-1000002 : Int32)]) (M' := M) rfl ?_
    obtain rfl := Option.some.inj h
    exact wg_re rfl trivial ⟨rfl, rfl⟩
  · rw [if_neg hc] at h
    refine wg_blk 4 (i' := 9) (L' := [some (.inr (.inl (21, 0))), some (.inl a1)]) (st' := [.inr (.inr (40 : Int64)), .inr (.inr (0 : Int64)), .inr (.inr (a1).toInt64)]) (M' := M) rfl ?_
    refine wg_ca (d' := 1) (y := 87) (as := [.inr (.inr (a1).toInt64), .inr (.inr (0 : Int64)), .inr (.inr (40 : Int64))]) (rest := []) (r := some (f_M_in (a1).toInt64 (0 : Int64) (40 : Int64))) (M' := M) rfl (Nat.le_of_ble_eq_true rfl) (s_M_in (a1).toInt64 (0 : Int64) (40 : Int64) M _ rfl) ?_
    refine wg_br (c := (f_M_in (a1).toInt64 (0 : Int64) (40 : Int64)) = (0 : Int32)) (t := 11) (f := 13) (st' := []) rfl (fun hc => ?_) (fun hc => ?_)
    · rw [if_pos hc] at h
      refine wg_blk 1 (i' := 12) (L' := [some (.inr (.inl (21, 0))), some (.inl a1)]) (st' := [.inl (-1000001 : Int32)]) (M' := M) rfl ?_
      obtain rfl := Option.some.inj h
      exact wg_re rfl trivial ⟨rfl, rfl⟩
    · rw [if_neg hc] at h
      refine wg_blk 2 (i' := 15) (L' := [some (.inr (.inl (21, 0))), some (.inl a1)]) (st' := [.inl a1, .inr (.inl (21, 0))]) (M' := M) rfl ?_
      obtain ⟨m2, h1, h⟩ := wbs h
      refine wg_ca (d' := 6) (y := 128) (as := [.inr (.inl (21, 0)), .inl a1]) (rest := []) (r := none) (M' := m2) rfl (Nat.le_of_ble_eq_true rfl) (s_M_blowIn a1 M _ h1) ?_
      refine wg_blk 2 (i' := 18) (L' := [some (.inr (.inl (21, 0))), some (.inl a1)]) (st' := [.inl (m2 21 0 19)]) (M' := m2) rfl ?_
      obtain rfl := Option.some.inj h
      exact wg_re rfl trivial ⟨rfl, rfl⟩
set_option maxRecDepth 20000 in
theorem s_C_leaves (a1 : Int32) (a2 : Int32) (M : wc_M) (z : Int32 × wc_M) (h : f_C_leaves a1 a2 M = some z) : wc_Sd 6 17 [.inr (.inl (0, 0)), .inl a1, .inl a2] M (some z.1) z.2 := by
  unfold f_C_leaves at h
  refine wg_Sd (Nat.le_of_ble_eq_true rfl) ?_
  show wg 5 wx0 (some .int) wk_17 0 [some (.inr (.inl (0, 0))), some (.inl a1), some (.inl a2)] [] M _
  refine wg_blk 3 (i' := 3) (L' := [some (.inr (.inl (0, 0))), some (.inl a1), some (.inl a2)]) (st' := [.inl (M 6 0 5)]) (M' := M) rfl ?_
  refine wg_br (c := (M 6 0 5) = (0 : Int32)) (t := 4) (f := 6) (st' := []) rfl (fun hc => ?_) (fun hc => ?_)
  · rw [if_pos hc] at h
    refine wg_blk 1 (i' := 5) (L' := [some (.inr (.inl (0, 0))), some (.inl a1), some (.inl a2)]) (st' := [.inl (-1000002 : Int32)]) (M' := M) rfl ?_
    obtain rfl := Option.some.inj h
    exact wg_re rfl trivial ⟨rfl, rfl⟩
  · rw [if_neg hc] at h
    refine wg_blk 1 (i' := 7) (L' := [some (.inr (.inl (0, 0))), some (.inl a1), some (.inl a2)]) (st' := [.inl a1]) (M' := M) rfl ?_
    refine wg_ca (d' := 2) (y := 34) (as := [.inl a1]) (rest := []) (r := some (f_C_isLine a1)) (M' := M) rfl (Nat.le_of_ble_eq_true rfl) (s_C_isLine a1 M _ rfl) ?_
    refine wg_br (c := (f_C_isLine a1) = (0 : Int32)) (t := 13) (f := 9) (st' := []) rfl (fun hc => ?_) (fun hc => ?_)
    · rw [if_pos hc] at h
      refine wg_blk 1 (i' := 14) (L' := [some (.inr (.inl (0, 0))), some (.inl a1), some (.inl a2)]) (st' := [.inl (-1000001 : Int32)]) (M' := M) rfl ?_
      obtain rfl := Option.some.inj h
      exact wg_re rfl trivial ⟨rfl, rfl⟩
    · rw [if_neg hc] at h
      refine wg_blk 2 (i' := 11) (L' := [some (.inr (.inl (0, 0))), some (.inl a1), some (.inl a2)]) (st' := [.inl (40 : Int32), .inl a2]) (M' := M) rfl ?_
      refine wg_ca (d' := 1) (y := 32) (as := [.inl a2, .inl (40 : Int32)]) (rest := []) (r := some (f_C_isUpTo a2 (40 : Int32))) (M' := M) rfl (Nat.le_of_ble_eq_true rfl) (s_C_isUpTo a2 (40 : Int32) M _ rfl) ?_
      refine wg_br (c := (f_C_isUpTo a2 (40 : Int32)) = (0 : Int32)) (t := 13) (f := 15) (st' := []) rfl (fun hc => ?_) (fun hc => ?_)
      · rw [if_pos hc] at h
        refine wg_blk 1 (i' := 14) (L' := [some (.inr (.inl (0, 0))), some (.inl a1), some (.inl a2)]) (st' := [.inl (-1000001 : Int32)]) (M' := M) rfl ?_
        obtain rfl := Option.some.inj h
        exact wg_re rfl trivial ⟨rfl, rfl⟩
      · rw [if_neg hc] at h
        refine wg_blk 2 (i' := 17) (L' := [some (.inr (.inl (0, 0))), some (.inl a1), some (.inl a2)]) (st' := [.inl a2, .inr (.inl (0, 0))]) (M' := M) rfl ?_
        obtain ⟨m2, h1, h⟩ := wbs h
        refine wg_ca (d' := 5) (y := 45) (as := [.inr (.inl (0, 0)), .inl a2]) (rest := []) (r := none) (M' := m2) rfl (Nat.le_of_ble_eq_true rfl) (s_C_foretell a2 M _ h1) ?_
        refine wg_blk 4 (i' := 22) (L' := [some (.inr (.inl (0, 0))), some (.inl a1), some (.inl a2)]) (st' := [.inl a1, .inr (.inl (14, 0))]) (M' := m2) rfl ?_
        obtain ⟨hp3, h⟩ := wif h
        refine wg_ck (st' := [.inl (m2 14 0 (a1).toNatClampNeg)]) (M' := m2) rfl (wib_in hp3) ?_
        obtain rfl := Option.some.inj h
        exact wg_re rfl trivial ⟨rfl, rfl⟩
set_option maxRecDepth 20000 in
theorem s_M_leaves (a1 : Int32) (a2 : Int32) (M : wc_M) (z : Int32 × wc_M) (h : f_M_leaves a1 a2 M = some z) : wc_Sd 7 131 [.inr (.inl (21, 0)), .inl a1, .inl a2] M (some z.1) z.2 := by
  unfold f_M_leaves at h
  refine wg_Sd (Nat.le_of_ble_eq_true rfl) ?_
  show wg 6 wx0 (some .int) wk_131 0 [some (.inr (.inl (21, 0))), some (.inl a1), some (.inl a2)] [] M _
  refine wg_blk 2 (i' := 2) (L' := [some (.inr (.inl (21, 0))), some (.inl a1), some (.inl a2)]) (st' := [.inl (M 21 0 4)]) (M' := M) rfl ?_
  refine wg_br (c := (M 21 0 4) = (0 : Int32)) (t := 3) (f := 5) (st' := []) rfl (fun hc => ?_) (fun hc => ?_)
  · rw [if_pos hc] at h
    refine wg_blk 1 (i' := 4) (L' := [some (.inr (.inl (21, 0))), some (.inl a1), some (.inl a2)]) (st' := [.inl (-1000002 : Int32)]) (M' := M) rfl ?_
    obtain rfl := Option.some.inj h
    exact wg_re rfl trivial ⟨rfl, rfl⟩
  · rw [if_neg hc] at h
    refine wg_blk 1 (i' := 6) (L' := [some (.inr (.inl (21, 0))), some (.inl a1), some (.inl a2)]) (st' := [.inl a1]) (M' := M) rfl ?_
    refine wg_ca (d' := 2) (y := 109) (as := [.inl a1]) (rest := []) (r := some (f_M_isRowOfPass a1)) (M' := M) rfl (Nat.le_of_ble_eq_true rfl) (s_M_isRowOfPass a1 M _ rfl) ?_
    refine wg_br (c := (f_M_isRowOfPass a1) = (0 : Int32)) (t := 14) (f := 8) (st' := []) rfl (fun hc => ?_) (fun hc => ?_)
    · rw [if_pos hc] at h
      refine wg_blk 1 (i' := 15) (L' := [some (.inr (.inl (21, 0))), some (.inl a1), some (.inl a2)]) (st' := [.inl (-1000001 : Int32)]) (M' := M) rfl ?_
      obtain rfl := Option.some.inj h
      exact wg_re rfl trivial ⟨rfl, rfl⟩
    · rw [if_neg hc] at h
      refine wg_blk 4 (i' := 12) (L' := [some (.inr (.inl (21, 0))), some (.inl a1), some (.inl a2)]) (st' := [.inr (.inr (40 : Int64)), .inr (.inr (0 : Int64)), .inr (.inr (a2).toInt64)]) (M' := M) rfl ?_
      refine wg_ca (d' := 1) (y := 87) (as := [.inr (.inr (a2).toInt64), .inr (.inr (0 : Int64)), .inr (.inr (40 : Int64))]) (rest := []) (r := some (f_M_in (a2).toInt64 (0 : Int64) (40 : Int64))) (M' := M) rfl (Nat.le_of_ble_eq_true rfl) (s_M_in (a2).toInt64 (0 : Int64) (40 : Int64) M _ rfl) ?_
      refine wg_br (c := (f_M_in (a2).toInt64 (0 : Int64) (40 : Int64)) = (0 : Int32)) (t := 14) (f := 16) (st' := []) rfl (fun hc => ?_) (fun hc => ?_)
      · rw [if_pos hc] at h
        refine wg_blk 1 (i' := 15) (L' := [some (.inr (.inl (21, 0))), some (.inl a1), some (.inl a2)]) (st' := [.inl (-1000001 : Int32)]) (M' := M) rfl ?_
        obtain rfl := Option.some.inj h
        exact wg_re rfl trivial ⟨rfl, rfl⟩
      · rw [if_neg hc] at h
        refine wg_blk 2 (i' := 18) (L' := [some (.inr (.inl (21, 0))), some (.inl a1), some (.inl a2)]) (st' := [.inl a2, .inr (.inl (21, 0))]) (M' := M) rfl ?_
        obtain ⟨m2, h1, h⟩ := wbs h
        refine wg_ca (d' := 6) (y := 128) (as := [.inr (.inl (21, 0)), .inl a2]) (rest := []) (r := none) (M' := m2) rfl (Nat.le_of_ble_eq_true rfl) (s_M_blowIn a2 M _ h1) ?_
        refine wg_blk 5 (i' := 24) (L' := [some (.inr (.inl (21, 0))), some (.inl a1), some (.inl a2)]) (st' := [.inl ((16 : Int32) + a1), .inr (.inl (29, 0))]) (M' := m2) rfl ?_
        obtain ⟨hp3, h⟩ := wif h
        refine wg_ck (st' := [.inl (m2 29 0 (((16 : Int32) + a1)).toNatClampNeg)]) (M' := m2) rfl (wib_in hp3) ?_
        obtain rfl := Option.some.inj h
        exact wg_re rfl trivial ⟨rfl, rfl⟩
set_option maxRecDepth 20000 in
theorem l_P_firstToBreak_2_ok (p0 : Nat) (M : wc_M) {K : Option Int32 → wc_M → Prop} : ∀ (n : Nat) (x2 : Int32) (o : (Int32) ⊕ (Unit)), l_P_firstToBreak_2 p0 M n x2 = some o → wel (fun r => K (some r) M) (fun t => wg 2 wx0 (some .int) wk_72 16 [none, none, none] [] M K) o → wg 2 wx0 (some .int) wk_72 2 [some (.inr (.inl (6, p0))), some (.inr (.inl (13, 0))), some (.inl x2)] [] M K := by
  intro n
  induction n with
  | zero =>
    intro x2 o h hk
    exact nomatch (show (none : Option ((Int32) ⊕ (Unit))) = some o from h)
  | succ n ih =>
    intro x2 o h hk
    unfold l_P_firstToBreak_2 at h
    refine wg_blk 2 (i' := 4) (L' := [some (.inr (.inl (6, p0))), some (.inr (.inl (13, 0))), some (.inl x2)]) (st' := [.inl (16 : Int32), .inl x2]) (M' := M) rfl ?_
    refine wg_br (c := (16 : Int32) ≤ x2) (t := 16) (f := 5) (st' := []) rfl (fun hc => ?_) (fun hc => ?_)
    · rw [if_pos hc] at h
      obtain rfl := Option.some.inj h
      exact wg_wk (wk_n (wk_n (wk_n wk_e))) rfl hk
    · rw [if_neg hc] at h
      refine wg_blk 4 (i' := 9) (L' := [some (.inr (.inl (6, p0))), some (.inr (.inl (13, 0))), some (.inl x2)]) (st' := [.inl x2, .inr (.inl (13, 0)), .inl x2, .inr (.inl (6, p0))]) (M' := M) rfl ?_
      obtain ⟨hp1, h⟩ := wif h
      refine wg_ck (st' := [.inl (M 13 0 (x2).toNatClampNeg), .inl x2, .inr (.inl (6, p0))]) (M' := M) rfl (wib_in hp1) ?_
      obtain ⟨v3, h2, h⟩ := wbs h
      refine wg_ca (d' := 2) (y := 71) (as := [.inr (.inl (6, p0)), .inl x2, .inl (M 13 0 (x2).toNatClampNeg)]) (rest := []) (r := some v3) (M' := M) rfl (Nat.le_of_ble_eq_true rfl) (s_P_isTooMuch p0 x2 (M 13 0 (x2).toNatClampNeg) M _ h2) ?_
      refine wg_br (c := v3 = (0 : Int32)) (t := 14) (f := 12) (st' := []) rfl (fun hc => ?_) (fun hc => ?_)
      · rw [if_pos hc] at h
        refine wg_blk 2 (i' := 2) (L' := [some (.inr (.inl (6, p0))), some (.inr (.inl (13, 0))), some (.inl (x2 + (1 : Int32)))]) (st' := []) (M' := M) rfl ?_
        exact wg_wk (wk_s (wk_s (wk_s wk_e))) rfl (ih (x2 + (1 : Int32)) _ h hk)
      · rw [if_neg hc] at h
        refine wg_blk 1 (i' := 13) (L' := [some (.inr (.inl (6, p0))), some (.inr (.inl (13, 0))), some (.inl x2)]) (st' := [.inl x2]) (M' := M) rfl ?_
        obtain rfl := Option.some.inj h
        exact wg_re rfl trivial hk
set_option maxRecDepth 20000 in
theorem s_P_firstToBreak (p0 : Nat) (M : wc_M) (z : Int32) (h : f_P_firstToBreak p0 M = some z) : wc_Sd 3 72 [.inr (.inl (6, p0)), .inr (.inl (13, 0))] M (some z) M := by
  unfold f_P_firstToBreak at h
  refine wg_Sd (Nat.le_of_ble_eq_true rfl) ?_
  show wg 2 wx0 (some .int) wk_72 0 [some (.inr (.inl (6, p0))), some (.inr (.inl (13, 0))), none] [] M _
  refine wg_blk 2 (i' := 2) (L' := [some (.inr (.inl (6, p0))), some (.inr (.inl (13, 0))), some (.inl (0 : Int32))]) (st' := []) (M' := M) rfl ?_
  obtain ⟨o6, h5, h⟩ := wbs h
  refine wg_wk (wk_s (wk_s (wk_s wk_e))) rfl (l_P_firstToBreak_2_ok p0 M 2000 (0 : Int32) _ h5 ?_)
  rcases o6 with r7 | t4
  · dsimp only [wel] at h ⊢
    obtain rfl := Option.some.inj h
    exact ⟨rfl, rfl⟩
  · dsimp only [wel] at h ⊢
    refine wg_blk 1 (i' := 17) (L' := [none, none, none]) (st' := [.inl (-1000000 : Int32)]) (M' := M) rfl ?_
    obtain rfl := Option.some.inj h
    exact wg_re rfl trivial ⟨rfl, rfl⟩
set_option maxRecDepth 20000 in
theorem l_C_breaks_19_ok (x1 : Int32) {K : Option Int32 → wc_M → Prop} : ∀ (n : Nat) (x2 : Int32) (M : wc_M) (o : (Int32 × wc_M) ⊕ (wc_M)), l_C_breaks_19 x1 n x2 M = some o → wel (fun r => K (some r.1) r.2) (fun t => wg 4 wx0 (some .int) wk_18 49 [none, none, none, none] [] t K) o → wg 4 wx0 (some .int) wk_18 19 [some (.inr (.inl (0, 0))), some (.inl x1), some (.inl x2), none] [] M K := by
  intro n
  induction n with
  | zero =>
    intro x2 M o h hk
    exact nomatch (show (none : Option ((Int32 × wc_M) ⊕ (wc_M))) = some o from h)
  | succ n ih =>
    intro x2 M o h hk
    unfold l_C_breaks_19 at h
    refine wg_blk 2 (i' := 21) (L' := [some (.inr (.inl (0, 0))), some (.inl x1), some (.inl x2), none]) (st' := [.inl (40 : Int32), .inl x2]) (M' := M) rfl ?_
    refine wg_br (c := (40 : Int32) < x2) (t := 49) (f := 22) (st' := []) rfl (fun hc => ?_) (fun hc => ?_)
    · rw [if_pos hc] at h
      obtain rfl := Option.some.inj h
      exact wg_wk (wk_n (wk_n (wk_n (wk_n wk_e)))) rfl hk
    · rw [if_neg hc] at h
      refine wg_blk 4 (i' := 26) (L' := [some (.inr (.inl (0, 0))), some (.inl x1), some (.inl x2), none]) (st' := [.inr (.inl (6, 1)), .inr (.inl (12, 0))]) (M' := M) rfl ?_
      obtain ⟨m4, h3, h⟩ := wbs h
      refine wg_ca (d' := 3) (y := 74) (as := [.inr (.inl (12, 0)), .inr (.inl (6, 1))]) (rest := []) (r := none) (M' := m4) rfl (Nat.le_of_ble_eq_true rfl) (s_A_blow 1 M _ h3) ?_
      refine wg_blk 5 (i' := 32) (L' := [some (.inr (.inl (0, 0))), some (.inl x1), some (.inl x2), none]) (st' := [.inr (.inl (13, 0)), .inr (.inl (6, 1))]) (M' := m4) rfl ?_
      obtain ⟨v6, h5, h⟩ := wbs h
      refine wg_ca (d' := 3) (y := 72) (as := [.inr (.inl (6, 1)), .inr (.inl (13, 0))]) (rest := []) (r := some v6) (M' := m4) rfl (Nat.le_of_ble_eq_true rfl) (s_P_firstToBreak 1 m4 _ h5) ?_
      refine wg_blk 3 (i' := 36) (L' := [some (.inr (.inl (0, 0))), some (.inl x1), some (.inl x2), some (.inl v6)]) (st' := [.inl (-1000000 : Int32), .inl v6]) (M' := m4) rfl ?_
      refine wg_br (c := v6 = (-1000000 : Int32)) (t := 43) (f := 37) (st' := []) rfl (fun hc => ?_) (fun hc => ?_)
      · rw [if_pos hc] at h
        refine wg_blk 3 (i' := 46) (L' := [some (.inr (.inl (0, 0))), some (.inl x1), some (.inl x2), some (.inl v6)]) (st' := [.inr (.inl (6, 1)), .inr (.inl (0, 0))]) (M' := m4) rfl ?_
        obtain ⟨m8, h7, h⟩ := wbs h
        refine wg_ca (d' := 4) (y := 44) (as := [.inr (.inl (0, 0)), .inr (.inl (6, 1))]) (rest := []) (r := none) (M' := m8) rfl (Nat.le_of_ble_eq_true rfl) (s_C_spendHour 1 m4 _ h7) ?_
        refine wg_blk 2 (i' := 19) (L' := [some (.inr (.inl (0, 0))), some (.inl x1), some (.inl (x2 + (1 : Int32))), some (.inl v6)]) (st' := []) (M' := m8) rfl ?_
        exact wg_wk (wk_s (wk_s (wk_s (wk_n wk_e)))) rfl (ih (x2 + (1 : Int32)) m8 _ h hk)
      · rw [if_neg hc] at h
        refine wg_blk 1 (i' := 38) (L' := [some (.inr (.inl (0, 0))), some (.inl x1), some (.inl x2), some (.inl v6)]) (st' := [.inl x1]) (M' := m4) rfl ?_
        refine wg_br (c := x1 = (0 : Int32)) (t := 39) (f := 41) (st' := []) rfl (fun hc => ?_) (fun hc => ?_)
        · rw [if_pos hc] at h
          refine wg_blk 2 (i' := 42) (L' := [some (.inr (.inl (0, 0))), some (.inl x1), some (.inl x2), some (.inl v6)]) (st' := [.inl x2]) (M' := m4) rfl ?_
          obtain rfl := Option.some.inj h
          exact wg_re rfl trivial hk
        · rw [if_neg hc] at h
          refine wg_blk 1 (i' := 42) (L' := [some (.inr (.inl (0, 0))), some (.inl x1), some (.inl x2), some (.inl v6)]) (st' := [.inl v6]) (M' := m4) rfl ?_
          obtain rfl := Option.some.inj h
          exact wg_re rfl trivial hk
set_option maxRecDepth 20000 in
theorem s_C_breaks (a1 : Int32) (M : wc_M) (z : Int32 × wc_M) (h : f_C_breaks a1 M = some z) : wc_Sd 5 18 [.inr (.inl (0, 0)), .inl a1] M (some z.1) z.2 := by
  unfold f_C_breaks at h
  refine wg_Sd (Nat.le_of_ble_eq_true rfl) ?_
  show wg 4 wx0 (some .int) wk_18 0 [some (.inr (.inl (0, 0))), some (.inl a1), none, none] [] M _
  refine wg_blk 3 (i' := 3) (L' := [some (.inr (.inl (0, 0))), some (.inl a1), none, none]) (st' := [.inl (M 6 0 5)]) (M' := M) rfl ?_
  refine wg_br (c := (M 6 0 5) = (0 : Int32)) (t := 4) (f := 6) (st' := []) rfl (fun hc => ?_) (fun hc => ?_)
  · rw [if_pos hc] at h
    refine wg_blk 1 (i' := 5) (L' := [some (.inr (.inl (0, 0))), some (.inl a1), none, none]) (st' := [.inl (-1000002 : Int32)]) (M' := M) rfl ?_
    obtain rfl := Option.some.inj h
    exact wg_re rfl trivial ⟨rfl, rfl⟩
  · rw [if_neg hc] at h
    refine wg_blk 2 (i' := 8) (L' := [some (.inr (.inl (0, 0))), some (.inl a1), none, none]) (st' := [.inl (1 : Int32), .inl a1]) (M' := M) rfl ?_
    refine wg_ca (d' := 1) (y := 32) (as := [.inl a1, .inl (1 : Int32)]) (rest := []) (r := some (f_C_isUpTo a1 (1 : Int32))) (M' := M) rfl (Nat.le_of_ble_eq_true rfl) (s_C_isUpTo a1 (1 : Int32) M _ rfl) ?_
    refine wg_br (c := (f_C_isUpTo a1 (1 : Int32)) = (0 : Int32)) (t := 10) (f := 12) (st' := []) rfl (fun hc => ?_) (fun hc => ?_)
    · rw [if_pos hc] at h
      refine wg_blk 1 (i' := 11) (L' := [some (.inr (.inl (0, 0))), some (.inl a1), none, none]) (st' := [.inl (-1000001 : Int32)]) (M' := M) rfl ?_
      obtain rfl := Option.some.inj h
      exact wg_re rfl trivial ⟨rfl, rfl⟩
    · rw [if_neg hc] at h
      refine wg_blk 4 (i' := 16) (L' := [some (.inr (.inl (0, 0))), some (.inl a1), none, none]) (st' := [.inr (.inl (6, 0)), .inr (.inl (6, 1))]) (M' := M) rfl ?_
      obtain ⟨m2, h1, h⟩ := wbs h
      refine wg_ca (d' := 1) (y := 65) (as := [.inr (.inl (6, 1)), .inr (.inl (6, 0))]) (rest := []) (r := none) (M' := m2) rfl (Nat.le_of_ble_eq_true rfl) (s_P_become 1 0 M _ h1) ?_
      refine wg_blk 2 (i' := 19) (L' := [some (.inr (.inl (0, 0))), some (.inl a1), some (.inl (1 : Int32)), none]) (st' := []) (M' := m2) rfl ?_
      obtain ⟨o11, h10, h⟩ := wbs h
      refine wg_wk (wk_s (wk_s (wk_s (wk_n wk_e)))) rfl (l_C_breaks_19_ok a1 2000 (1 : Int32) m2 _ h10 ?_)
      rcases o11 with r12 | t9
      · dsimp only [wel] at h ⊢
        obtain rfl := Option.some.inj h
        exact ⟨rfl, rfl⟩
      · dsimp only [wel] at h ⊢
        refine wg_blk 1 (i' := 50) (L' := [none, none, none, none]) (st' := [.inl (-1000000 : Int32)]) (M' := t9) rfl ?_
        obtain rfl := Option.some.inj h
        exact wg_re rfl trivial ⟨rfl, rfl⟩
set_option maxRecDepth 20000 in
theorem s_M_has (a0 : Int32) (a1 : Int32) (M : wc_M) (z : Int32) (h : f_M_has a0 a1 = z) : wc_Sd 1 88 [.inl a0, .inl a1] M (some z) M := by
  unfold f_M_has at h
  refine wg_Sd (Nat.le_of_ble_eq_true rfl) ?_
  show wg 0 wx0 (some .boolean) wk_88 0 [some (.inl a0), some (.inl a1)] [] M _
  refine wg_blk 6 (i' := 6) (L' := [some (.inl a0), some (.inl a1)]) (st' := [.inl (1 : Int32), .inl ((a0 >>> (a1 &&& (31 : Int32))) &&& (1 : Int32))]) (M' := M) rfl ?_
  refine wg_br (c := ((a0 >>> (a1 &&& (31 : Int32))) &&& (1 : Int32)) = (1 : Int32)) (t := 7) (f := 9) (st' := []) rfl (fun hc => ?_) (fun hc => ?_)
  · rw [if_pos hc] at h
    refine wg_blk 2 (i' := 10) (L' := [some (.inl a0), some (.inl a1)]) (st' := [.inl (1 : Int32)]) (M' := M) rfl ?_
    subst h
    exact wg_re rfl (by decide) ⟨rfl, rfl⟩
  · rw [if_neg hc] at h
    refine wg_blk 1 (i' := 10) (L' := [some (.inl a0), some (.inl a1)]) (st' := [.inl (0 : Int32)]) (M' := M) rfl ?_
    subst h
    exact wg_re rfl (by decide) ⟨rfl, rfl⟩
set_option maxRecDepth 20000 in
theorem l_M_breaks_20_ok (x1 : Int32) {K : Option Int32 → wc_M → Prop} : ∀ (n : Nat) (x2 : Int32) (M : wc_M) (o : Int32 × wc_M), l_M_breaks_20 x1 n x2 M = some o → wg 5 wx0 (some .int) wk_132 30 [some (.inr (.inl (21, 0))), some (.inl x1), some (.inl o.1), none, none] [] o.2 K → wg 5 wx0 (some .int) wk_132 20 [some (.inr (.inl (21, 0))), some (.inl x1), some (.inl x2), none, none] [] M K := by
  intro n
  induction n with
  | zero =>
    intro x2 M o h hk
    exact nomatch (show (none : Option (Int32 × wc_M)) = some o from h)
  | succ n ih =>
    intro x2 M o h hk
    unfold l_M_breaks_20 at h
    refine wg_blk 2 (i' := 22) (L' := [some (.inr (.inl (21, 0))), some (.inl x1), some (.inl x2), none, none]) (st' := [.inl (40 : Int32), .inl x2]) (M' := M) rfl ?_
    refine wg_br (c := (40 : Int32) ≤ x2) (t := 30) (f := 23) (st' := []) rfl (fun hc => ?_) (fun hc => ?_)
    · rw [if_pos hc] at h
      obtain rfl := Option.some.inj h
      exact wg_wk (wk_s (wk_s (wk_s (wk_n (wk_n wk_e))))) rfl hk
    · rw [if_neg hc] at h
      refine wg_blk 2 (i' := 25) (L' := [some (.inr (.inl (21, 0))), some (.inl x1), some (.inl x2), none, none]) (st' := [.inl (M 21 0 20)]) (M' := M) rfl ?_
      refine wg_br (c := (M 21 0 20) = (0 : Int32)) (t := 26) (f := 30) (st' := []) rfl (fun hc => ?_) (fun hc => ?_)
      · rw [if_pos hc] at h
        refine wg_blk 1 (i' := 27) (L' := [some (.inr (.inl (21, 0))), some (.inl x1), some (.inl x2), none, none]) (st' := [.inr (.inl (21, 0))]) (M' := M) rfl ?_
        obtain ⟨m4, h3, h⟩ := wbs h
        refine wg_ca (d' := 5) (y := 115) (as := [.inr (.inl (21, 0))]) (rest := []) (r := none) (M' := m4) rfl (Nat.le_of_ble_eq_true rfl) (s_M_oneHour M _ h3) ?_
        refine wg_blk 2 (i' := 20) (L' := [some (.inr (.inl (21, 0))), some (.inl x1), some (.inl (x2 + (1 : Int32))), none, none]) (st' := []) (M' := m4) rfl ?_
        exact wg_wk (wk_s (wk_s (wk_s (wk_n (wk_n wk_e))))) rfl (ih (x2 + (1 : Int32)) m4 _ h hk)
      · rw [if_neg hc] at h
        obtain rfl := Option.some.inj h
        exact wg_wk (wk_s (wk_s (wk_s (wk_n (wk_n wk_e))))) rfl hk
set_option maxRecDepth 20000 in
theorem l_M_breaks_36_ok (x1 : Int32) (x2 : Int32) (M : wc_M) {K : Option Int32 → wc_M → Prop} : ∀ (n : Nat) (x3 : Int32) (x4 : Int32) (o : Int32), l_M_breaks_36 x1 x2 M n x3 x4 = some o → wg 5 wx0 (some .int) wk_132 49 [none, some (.inl x1), some (.inl x2), some (.inl o), none] [] M K → wg 5 wx0 (some .int) wk_132 36 [some (.inr (.inl (21, 0))), some (.inl x1), some (.inl x2), some (.inl x3), some (.inl x4)] [] M K := by
  intro n
  induction n with
  | zero =>
    intro x3 x4 o h hk
    exact nomatch (show (none : Option (Int32)) = some o from h)
  | succ n ih =>
    intro x3 x4 o h hk
    unfold l_M_breaks_36 at h
    refine wg_blk 1 (i' := 37) (L' := [some (.inr (.inl (21, 0))), some (.inl x1), some (.inl x2), some (.inl x3), some (.inl x4)]) (st' := [.inl x4]) (M' := M) rfl ?_
    refine wg_br (c := x4 < (0 : Int32)) (t := 49) (f := 38) (st' := []) rfl (fun hc => ?_) (fun hc => ?_)
    · rw [if_pos hc] at h
      obtain rfl := Option.some.inj h
      exact wg_wk (wk_n (wk_s (wk_s (wk_s (wk_n wk_e))))) rfl hk
    · rw [if_neg hc] at h
      refine wg_blk 3 (i' := 41) (L' := [some (.inr (.inl (21, 0))), some (.inl x1), some (.inl x2), some (.inl x3), some (.inl x4)]) (st' := [.inl x4, .inl (M 21 0 20)]) (M' := M) rfl ?_
      refine wg_ca (d' := 1) (y := 88) (as := [.inl (M 21 0 20), .inl x4]) (rest := []) (r := some (f_M_has (M 21 0 20) x4)) (M' := M) rfl (Nat.le_of_ble_eq_true rfl) (s_M_has (M 21 0 20) x4 M _ rfl) ?_
      refine wg_br (c := (f_M_has (M 21 0 20) x4) = (0 : Int32)) (t := 45) (f := 43) (st' := []) rfl (fun hc => ?_) (fun hc => ?_)
      · rw [if_pos hc] at h
        refine wg_blk 4 (i' := 36) (L' := [some (.inr (.inl (21, 0))), some (.inl x1), some (.inl x2), some (.inl x3), some (.inl (x4 + (-1 : Int32)))]) (st' := []) (M' := M) rfl ?_
        exact wg_wk (wk_s (wk_s (wk_s (wk_s (wk_s wk_e))))) rfl (ih x3 (x4 + (-1 : Int32)) _ h hk)
      · rw [if_neg hc] at h
        refine wg_blk 5 (i' := 36) (L' := [some (.inr (.inl (21, 0))), some (.inl x1), some (.inl x2), some (.inl x4), some (.inl (x4 + (-1 : Int32)))]) (st' := []) (M' := M) rfl ?_
        exact wg_wk (wk_s (wk_s (wk_s (wk_s (wk_s wk_e))))) rfl (ih x4 (x4 + (-1 : Int32)) _ h hk)
set_option maxRecDepth 20000 in
theorem s_M_breaks (a1 : Int32) (M : wc_M) (z : Int32 × wc_M) (h : f_M_breaks a1 M = some z) : wc_Sd 6 132 [.inr (.inl (21, 0)), .inl a1] M (some z.1) z.2 := by
  unfold f_M_breaks at h
  refine wg_Sd (Nat.le_of_ble_eq_true rfl) ?_
  show wg 5 wx0 (some .int) wk_132 0 [some (.inr (.inl (21, 0))), some (.inl a1), none, none, none] [] M _
  refine wg_blk 2 (i' := 2) (L' := [some (.inr (.inl (21, 0))), some (.inl a1), none, none, none]) (st' := [.inl (M 21 0 4)]) (M' := M) rfl ?_
  refine wg_br (c := (M 21 0 4) = (0 : Int32)) (t := 3) (f := 5) (st' := []) rfl (fun hc => ?_) (fun hc => ?_)
  · rw [if_pos hc] at h
    refine wg_blk 1 (i' := 4) (L' := [some (.inr (.inl (21, 0))), some (.inl a1), none, none, none]) (st' := [.inl (-1000002 : Int32)]) (M' := M) rfl ?_
    obtain rfl := Option.some.inj h
    exact wg_re rfl trivial ⟨rfl, rfl⟩
  · rw [if_neg hc] at h
    refine wg_blk 4 (i' := 9) (L' := [some (.inr (.inl (21, 0))), some (.inl a1), none, none, none]) (st' := [.inr (.inr (1 : Int64)), .inr (.inr (0 : Int64)), .inr (.inr (a1).toInt64)]) (M' := M) rfl ?_
    refine wg_ca (d' := 1) (y := 87) (as := [.inr (.inr (a1).toInt64), .inr (.inr (0 : Int64)), .inr (.inr (1 : Int64))]) (rest := []) (r := some (f_M_in (a1).toInt64 (0 : Int64) (1 : Int64))) (M' := M) rfl (Nat.le_of_ble_eq_true rfl) (s_M_in (a1).toInt64 (0 : Int64) (1 : Int64) M _ rfl) ?_
    refine wg_br (c := (f_M_in (a1).toInt64 (0 : Int64) (1 : Int64)) = (0 : Int32)) (t := 11) (f := 13) (st' := []) rfl (fun hc => ?_) (fun hc => ?_)
    · rw [if_pos hc] at h
      refine wg_blk 1 (i' := 12) (L' := [some (.inr (.inl (21, 0))), some (.inl a1), none, none, none]) (st' := [.inl (-1000001 : Int32)]) (M' := M) rfl ?_
      obtain rfl := Option.some.inj h
      exact wg_re rfl trivial ⟨rfl, rfl⟩
    · rw [if_neg hc] at h
      refine wg_blk 1 (i' := 14) (L' := [some (.inr (.inl (21, 0))), some (.inl a1), none, none, none]) (st' := [.inr (.inl (21, 0))]) (M' := M) rfl ?_
      obtain ⟨m2, h1, h⟩ := wbs h
      refine wg_ca (d' := 1) (y := 126) (as := [.inr (.inl (21, 0))]) (rest := []) (r := none) (M' := m2) rfl (Nat.le_of_ble_eq_true rfl) (s_M_putAside M _ h1) ?_
      refine wg_blk 5 (i' := 20) (L' := [some (.inr (.inl (21, 0))), some (.inl a1), some (.inl (0 : Int32)), none, none]) (st' := []) (M' := (wc_up m2 21 0 20 (0 : Int32))) rfl ?_
      obtain ⟨t5, h6, h⟩ := wbs h
      refine wg_wk (wk_s (wk_s (wk_s (wk_n (wk_n wk_e))))) rfl (l_M_breaks_20_ok a1 2000 (0 : Int32) (wc_up m2 21 0 20 (0 : Int32)) _ h6 ?_)
      refine wg_blk 1 (i' := 31) (L' := [some (.inr (.inl (21, 0))), some (.inl a1), some (.inl t5.1), none, none]) (st' := [.inr (.inl (21, 0))]) (M' := t5.2) rfl ?_
      obtain ⟨m8, h7, h⟩ := wbs h
      refine wg_ca (d' := 1) (y := 127) (as := [.inr (.inl (21, 0))]) (rest := []) (r := none) (M' := m8) rfl (Nat.le_of_ble_eq_true rfl) (s_M_takeBack t5.2 _ h7) ?_
      refine wg_blk 4 (i' := 36) (L' := [some (.inr (.inl (21, 0))), some (.inl a1), some (.inl t5.1), some (.inl (-1000000 : Int32)), some (.inl (15 : Int32))]) (st' := []) (M' := m8) rfl ?_
      obtain ⟨t9, h10, h⟩ := wbs h
      refine wg_wk (wk_s (wk_s (wk_s (wk_s (wk_s wk_e))))) rfl (l_M_breaks_36_ok a1 t5.1 m8 2000 (-1000000 : Int32) (15 : Int32) _ h10 ?_)
      refine wg_blk 1 (i' := 50) (L' := [none, some (.inl a1), some (.inl t5.1), some (.inl t9), none]) (st' := [.inl t9]) (M' := m8) rfl ?_
      refine wg_br (c := (0 : Int32) ≤ t9) (t := 53) (f := 51) (st' := []) rfl (fun hc => ?_) (fun hc => ?_)
      · rw [if_pos hc] at h
        refine wg_blk 1 (i' := 54) (L' := [none, some (.inl a1), some (.inl t5.1), some (.inl t9), none]) (st' := [.inl a1]) (M' := m8) rfl ?_
        refine wg_br (c := a1 = (0 : Int32)) (t := 55) (f := 57) (st' := []) rfl (fun hc => ?_) (fun hc => ?_)
        · rw [if_pos hc] at h
          refine wg_blk 2 (i' := 58) (L' := [none, some (.inl a1), some (.inl t5.1), some (.inl t9), none]) (st' := [.inl t5.1]) (M' := m8) rfl ?_
          obtain rfl := Option.some.inj h
          exact wg_re rfl trivial ⟨rfl, rfl⟩
        · rw [if_neg hc] at h
          refine wg_blk 1 (i' := 58) (L' := [none, some (.inl a1), some (.inl t5.1), some (.inl t9), none]) (st' := [.inl t9]) (M' := m8) rfl ?_
          obtain rfl := Option.some.inj h
          exact wg_re rfl trivial ⟨rfl, rfl⟩
      · rw [if_neg hc] at h
        refine wg_blk 2 (i' := 58) (L' := [none, some (.inl a1), some (.inl t5.1), some (.inl t9), none]) (st' := [.inl (-1000000 : Int32)]) (M' := m8) rfl ?_
        obtain rfl := Option.some.inj h
        exact wg_re rfl trivial ⟨rfl, rfl⟩
set_option maxRecDepth 20000 in
theorem l_C_isFeltEverywhere_2_ok (p1 : Nat) (x2 : Int32) (M : wc_M) {K : Option Int32 → wc_M → Prop} : ∀ (n : Nat) (x3 : Int32) (o : (Int32) ⊕ (Unit)), l_C_isFeltEverywhere_2 p1 x2 M n x3 = some o → wel (fun r => K (some r) M) (fun t => wg 0 wx0 (some .boolean) wk_46 20 [none, none, none, none] [] M K) o → wg 0 wx0 (some .boolean) wk_46 2 [some (.inr (.inl (0, 0))), some (.inr (.inl (3, p1))), some (.inl x2), some (.inl x3)] [] M K := by
  intro n
  induction n with
  | zero =>
    intro x3 o h hk
    exact nomatch (show (none : Option ((Int32) ⊕ (Unit))) = some o from h)
  | succ n ih =>
    intro x3 o h hk
    unfold l_C_isFeltEverywhere_2 at h
    refine wg_blk 2 (i' := 4) (L' := [some (.inr (.inl (0, 0))), some (.inr (.inl (3, p1))), some (.inl x2), some (.inl x3)]) (st' := [.inl (16 : Int32), .inl x3]) (M' := M) rfl ?_
    refine wg_br (c := (16 : Int32) ≤ x3) (t := 20) (f := 5) (st' := []) rfl (fun hc => ?_) (fun hc => ?_)
    · rw [if_pos hc] at h
      obtain rfl := Option.some.inj h
      exact wg_wk (wk_n (wk_n (wk_n (wk_n wk_e)))) rfl hk
    · rw [if_neg hc] at h
      refine wg_blk 4 (i' := 9) (L' := [some (.inr (.inl (0, 0))), some (.inr (.inl (3, p1))), some (.inl x2), some (.inl x3)]) (st' := [.inl (x2 + x3), .inr (.inl (3, p1))]) (M' := M) rfl ?_
      obtain ⟨hp1, h⟩ := wif h
      refine wg_ck (st' := [.inl (M 3 p1 ((x2 + x3)).toNatClampNeg)]) (M' := M) rfl (wib_in hp1) ?_
      refine wg_blk 4 (i' := 14) (L' := [some (.inr (.inl (0, 0))), some (.inr (.inl (3, p1))), some (.inl x2), some (.inl x3)]) (st' := [.inl x3, .inr (.inl (13, 0)), .inl (M 3 p1 ((x2 + x3)).toNatClampNeg)]) (M' := M) rfl ?_
      obtain ⟨hp2, h⟩ := wif h
      refine wg_ck (st' := [.inl (M 13 0 (x3).toNatClampNeg), .inl (M 3 p1 ((x2 + x3)).toNatClampNeg)]) (M' := M) rfl (wib_in hp2) ?_
      refine wg_br (c := (M 3 p1 ((x2 + x3)).toNatClampNeg) = (M 13 0 (x3).toNatClampNeg)) (t := 18) (f := 16) (st' := []) rfl (fun hc => ?_) (fun hc => ?_)
      · rw [if_pos hc] at h
        refine wg_blk 2 (i' := 2) (L' := [some (.inr (.inl (0, 0))), some (.inr (.inl (3, p1))), some (.inl x2), some (.inl (x3 + (1 : Int32)))]) (st' := []) (M' := M) rfl ?_
        exact wg_wk (wk_s (wk_s (wk_s (wk_s wk_e)))) rfl (ih (x3 + (1 : Int32)) _ h hk)
      · rw [if_neg hc] at h
        refine wg_blk 1 (i' := 17) (L' := [some (.inr (.inl (0, 0))), some (.inr (.inl (3, p1))), some (.inl x2), some (.inl x3)]) (st' := [.inl (0 : Int32)]) (M' := M) rfl ?_
        obtain rfl := Option.some.inj h
        exact wg_re rfl (by decide) hk
set_option maxRecDepth 20000 in
theorem s_C_isFeltEverywhere (p1 : Nat) (a2 : Int32) (M : wc_M) (z : Int32) (h : f_C_isFeltEverywhere p1 a2 M = some z) : wc_Sd 1 46 [.inr (.inl (0, 0)), .inr (.inl (3, p1)), .inl a2] M (some z) M := by
  unfold f_C_isFeltEverywhere at h
  refine wg_Sd (Nat.le_of_ble_eq_true rfl) ?_
  show wg 0 wx0 (some .boolean) wk_46 0 [some (.inr (.inl (0, 0))), some (.inr (.inl (3, p1))), some (.inl a2), none] [] M _
  refine wg_blk 2 (i' := 2) (L' := [some (.inr (.inl (0, 0))), some (.inr (.inl (3, p1))), some (.inl a2), some (.inl (0 : Int32))]) (st' := []) (M' := M) rfl ?_
  obtain ⟨o5, h4, h⟩ := wbs h
  refine wg_wk (wk_s (wk_s (wk_s (wk_s wk_e)))) rfl (l_C_isFeltEverywhere_2_ok p1 a2 M 2000 (0 : Int32) _ h4 ?_)
  rcases o5 with r6 | t3
  · dsimp only [wel] at h ⊢
    obtain rfl := Option.some.inj h
    exact ⟨rfl, rfl⟩
  · dsimp only [wel] at h ⊢
    refine wg_blk 1 (i' := 21) (L' := [none, none, none, none]) (st' := [.inl (1 : Int32)]) (M' := M) rfl ?_
    obtain rfl := Option.some.inj h
    exact wg_re rfl (by decide) ⟨rfl, rfl⟩
set_option maxRecDepth 20000 in
theorem l_C_stands_31_ok (x1 : Int32) (x2 : Int32) {K : Option Int32 → wc_M → Prop} : ∀ (n : Nat) (x4 : Int32) (M : wc_M) (o : (Int32 × wc_M) ⊕ (wc_M)), l_C_stands_31 x1 x2 n x4 M = some o → wel (fun r => K (some r.1) r.2) (fun t => wg 4 wx0 (some .int) wk_19 58 [some (.inr (.inl (0, 0))), none, none, none, none] [] t K) o → wg 4 wx0 (some .int) wk_19 31 [some (.inr (.inl (0, 0))), some (.inl x1), some (.inl x2), none, some (.inl x4)] [] M K := by
  intro n
  induction n with
  | zero =>
    intro x4 M o h hk
    exact nomatch (show (none : Option ((Int32 × wc_M) ⊕ (wc_M))) = some o from h)
  | succ n ih =>
    intro x4 M o h hk
    unfold l_C_stands_31 at h
    refine wg_blk 2 (i' := 33) (L' := [some (.inr (.inl (0, 0))), some (.inl x1), some (.inl x2), none, some (.inl x4)]) (st' := [.inl (40 : Int32), .inl x4]) (M' := M) rfl ?_
    refine wg_br (c := (40 : Int32) ≤ x4) (t := 58) (f := 34) (st' := []) rfl (fun hc => ?_) (fun hc => ?_)
    · rw [if_pos hc] at h
      obtain rfl := Option.some.inj h
      exact wg_wk (wk_s (wk_n (wk_n (wk_n (wk_n wk_e))))) rfl hk
    · rw [if_neg hc] at h
      refine wg_blk 4 (i' := 38) (L' := [some (.inr (.inl (0, 0))), some (.inl x1), some (.inl x2), none, some (.inl x4)]) (st' := [.inr (.inl (6, 1)), .inr (.inl (12, 0))]) (M' := M) rfl ?_
      obtain ⟨m6, h5, h⟩ := wbs h
      refine wg_ca (d' := 3) (y := 74) (as := [.inr (.inl (12, 0)), .inr (.inl (6, 1))]) (rest := []) (r := none) (M' := m6) rfl (Nat.le_of_ble_eq_true rfl) (s_A_blow 1 M _ h5) ?_
      refine wg_blk 4 (i' := 43) (L' := [some (.inr (.inl (0, 0))), some (.inl x1), some (.inl x2), none, some (.inl x4)]) (st' := [.inl x1, .inr (.inl (1, 0)), .inr (.inl (0, 0))]) (M' := m6) rfl ?_
      obtain ⟨hp7, h⟩ := wif h
      refine wg_ck (st' := [.inr (.inl (2, (x1).toNatClampNeg)), .inr (.inl (0, 0))]) (M' := m6) rfl (wib_in hp7) ?_
      refine wg_blk 2 (i' := 46) (L' := [some (.inr (.inl (0, 0))), some (.inl x1), some (.inl x2), none, some (.inl x4)]) (st' := [.inl x2, .inr (.inl (3, (x1).toNatClampNeg)), .inr (.inl (0, 0))]) (M' := m6) rfl ?_
      obtain ⟨v9, h8, h⟩ := wbs h
      refine wg_ca (d' := 1) (y := 46) (as := [.inr (.inl (0, 0)), .inr (.inl (3, (x1).toNatClampNeg)), .inl x2]) (rest := []) (r := some v9) (M' := m6) rfl (Nat.le_of_ble_eq_true rfl) (s_C_isFeltEverywhere (x1).toNatClampNeg x2 m6 _ h8) ?_
      refine wg_br (c := v9 = (0 : Int32)) (t := 48) (f := 52) (st' := []) rfl (fun hc => ?_) (fun hc => ?_)
      · rw [if_pos hc] at h
        refine wg_blk 2 (i' := 50) (L' := [some (.inr (.inl (0, 0))), some (.inl x1), some (.inl x2), none, some (.inl x4)]) (st' := [.inl x4, .inr (.inl (0, 0))]) (M' := m6) rfl ?_
        obtain ⟨q11, h10, h⟩ := wbs h
        refine wg_ca (d' := 1) (y := 38) (as := [.inr (.inl (0, 0)), .inl x4]) (rest := []) (r := some q11.1) (M' := q11.2) rfl (Nat.le_of_ble_eq_true rfl) (s_C_withoutFinding x4 m6 _ h10) ?_
        obtain rfl := Option.some.inj h
        exact wg_re rfl trivial hk
      · rw [if_neg hc] at h
        refine wg_blk 3 (i' := 55) (L' := [some (.inr (.inl (0, 0))), some (.inl x1), some (.inl x2), none, some (.inl x4)]) (st' := [.inr (.inl (6, 1)), .inr (.inl (0, 0))]) (M' := m6) rfl ?_
        obtain ⟨m13, h12, h⟩ := wbs h
        refine wg_ca (d' := 4) (y := 44) (as := [.inr (.inl (0, 0)), .inr (.inl (6, 1))]) (rest := []) (r := none) (M' := m13) rfl (Nat.le_of_ble_eq_true rfl) (s_C_spendHour 1 m6 _ h12) ?_
        refine wg_blk 2 (i' := 31) (L' := [some (.inr (.inl (0, 0))), some (.inl x1), some (.inl x2), none, some (.inl (x4 + (1 : Int32)))]) (st' := []) (M' := m13) rfl ?_
        exact wg_wk (wk_s (wk_s (wk_s (wk_n (wk_s wk_e))))) rfl (ih (x4 + (1 : Int32)) m13 _ h hk)
set_option maxRecDepth 20000 in
theorem s_C_stands (a1 : Int32) (a2 : Int32) (M : wc_M) (z : Int32 × wc_M) (h : f_C_stands a1 a2 M = some z) : wc_Sd 5 19 [.inr (.inl (0, 0)), .inl a1, .inl a2] M (some z.1) z.2 := by
  unfold f_C_stands at h
  refine wg_Sd (Nat.le_of_ble_eq_true rfl) ?_
  show wg 4 wx0 (some .int) wk_19 0 [some (.inr (.inl (0, 0))), some (.inl a1), some (.inl a2), none, none] [] M _
  refine wg_blk 3 (i' := 3) (L' := [some (.inr (.inl (0, 0))), some (.inl a1), some (.inl a2), none, none]) (st' := [.inl (M 6 0 5)]) (M' := M) rfl ?_
  refine wg_br (c := (M 6 0 5) = (0 : Int32)) (t := 4) (f := 6) (st' := []) rfl (fun hc => ?_) (fun hc => ?_)
  · rw [if_pos hc] at h
    refine wg_blk 1 (i' := 5) (L' := [some (.inr (.inl (0, 0))), some (.inl a1), some (.inl a2), none, none]) (st' := [.inl (-1000002 : Int32)]) (M' := M) rfl ?_
    obtain rfl := Option.some.inj h
    exact wg_re rfl trivial ⟨rfl, rfl⟩
  · rw [if_neg hc] at h
    refine wg_blk 2 (i' := 8) (L' := [some (.inr (.inl (0, 0))), some (.inl a1), some (.inl a2), none, none]) (st' := [.inl (7 : Int32), .inl a1]) (M' := M) rfl ?_
    refine wg_ca (d' := 1) (y := 32) (as := [.inl a1, .inl (7 : Int32)]) (rest := []) (r := some (f_C_isUpTo a1 (7 : Int32))) (M' := M) rfl (Nat.le_of_ble_eq_true rfl) (s_C_isUpTo a1 (7 : Int32) M _ rfl) ?_
    refine wg_br (c := (f_C_isUpTo a1 (7 : Int32)) = (0 : Int32)) (t := 10) (f := 12) (st' := []) rfl (fun hc => ?_) (fun hc => ?_)
    · rw [if_pos hc] at h
      refine wg_blk 1 (i' := 11) (L' := [some (.inr (.inl (0, 0))), some (.inl a1), some (.inl a2), none, none]) (st' := [.inl (-1000001 : Int32)]) (M' := M) rfl ?_
      obtain rfl := Option.some.inj h
      exact wg_re rfl trivial ⟨rfl, rfl⟩
    · rw [if_neg hc] at h
      refine wg_blk 4 (i' := 16) (L' := [some (.inr (.inl (0, 0))), some (.inl a1), some (.inl a2), none, none]) (st' := [.inl (16 : Int32), .inl a2, .inl a1, .inr (.inl (0, 0))]) (M' := M) rfl ?_
      obtain ⟨v2, h1, h⟩ := wbs h
      refine wg_ca (d' := 2) (y := 39) (as := [.inr (.inl (0, 0)), .inl a1, .inl a2, .inl (16 : Int32)]) (rest := []) (r := some v2) (M' := M) rfl (Nat.le_of_ble_eq_true rfl) (s_C_findingIn a1 a2 (16 : Int32) M _ h1) ?_
      refine wg_blk 2 (i' := 19) (L' := [some (.inr (.inl (0, 0))), some (.inl a1), some (.inl a2), some (.inl v2), none]) (st' := [.inl v2]) (M' := M) rfl ?_
      refine wg_br (c := v2 = (0 : Int32)) (t := 24) (f := 20) (st' := []) rfl (fun hc => ?_) (fun hc => ?_)
      · rw [if_pos hc] at h
        refine wg_blk 4 (i' := 28) (L' := [some (.inr (.inl (0, 0))), some (.inl a1), some (.inl a2), some (.inl v2), none]) (st' := [.inr (.inl (6, 0)), .inr (.inl (6, 1))]) (M' := M) rfl ?_
        obtain ⟨m4, h3, h⟩ := wbs h
        refine wg_ca (d' := 1) (y := 65) (as := [.inr (.inl (6, 1)), .inr (.inl (6, 0))]) (rest := []) (r := none) (M' := m4) rfl (Nat.le_of_ble_eq_true rfl) (s_P_become 1 0 M _ h3) ?_
        refine wg_blk 2 (i' := 31) (L' := [some (.inr (.inl (0, 0))), some (.inl a1), some (.inl a2), some (.inl v2), some (.inl (0 : Int32))]) (st' := []) (M' := m4) rfl ?_
        obtain ⟨o18, h15, h⟩ := wbs h
        refine wg_wk (wk_s (wk_s (wk_s (wk_n (wk_s wk_e))))) rfl (l_C_stands_31_ok a1 a2 2000 (0 : Int32) m4 _ h15 ?_)
        rcases o18 with r19 | t14
        · dsimp only [wel] at h ⊢
          obtain rfl := Option.some.inj h
          exact ⟨rfl, rfl⟩
        · dsimp only [wel] at h ⊢
          refine wg_blk 2 (i' := 60) (L' := [some (.inr (.inl (0, 0))), none, none, none, none]) (st' := [.inl (40 : Int32), .inr (.inl (0, 0))]) (M' := t14) rfl ?_
          obtain ⟨q17, h16, h⟩ := wbs h
          refine wg_ca (d' := 1) (y := 38) (as := [.inr (.inl (0, 0)), .inl (40 : Int32)]) (rest := []) (r := some q17.1) (M' := q17.2) rfl (Nat.le_of_ble_eq_true rfl) (s_C_withoutFinding (40 : Int32) t14 _ h16) ?_
          obtain rfl := Option.some.inj h
          exact wg_re rfl trivial ⟨rfl, rfl⟩
      · rw [if_neg hc] at h
        refine wg_blk 2 (i' := 22) (L' := [some (.inr (.inl (0, 0))), some (.inl a1), some (.inl a2), some (.inl v2), none]) (st' := [.inl v2, .inr (.inl (0, 0))]) (M' := M) rfl ?_
        obtain ⟨q21, h20, h⟩ := wbs h
        refine wg_ca (d' := 1) (y := 37) (as := [.inr (.inl (0, 0)), .inl v2]) (rest := []) (r := some q21.1) (M' := q21.2) rfl (Nat.le_of_ble_eq_true rfl) (s_C_found v2 M _ h20) ?_
        obtain rfl := Option.some.inj h
        exact wg_re rfl trivial ⟨rfl, rfl⟩
set_option maxRecDepth 20000 in
theorem s_M_lacks (a1 : Int32) (a2 : Int32) (a3 : Int32) (M : wc_M) (z : Int32 × wc_M) (h : f_M_lacks a1 a2 a3 M = some z) : wc_Sd 2 133 [.inr (.inl (21, 0)), .inl a1, .inl a2, .inl a3] M (some z.1) z.2 := by
  unfold f_M_lacks at h
  refine wg_Sd (Nat.le_of_ble_eq_true rfl) ?_
  show wg 1 wx0 (some .int) wk_133 0 [some (.inr (.inl (21, 0))), some (.inl a1), some (.inl a2), some (.inl a3)] [] M _
  refine wg_blk 3 (i' := 3) (L' := [some (.inr (.inl (21, 0))), some (.inl a1), some (.inl a2), some (.inl a3)]) (st' := [.inl a1, .inr (.inl (23, 0))]) (M' := M) rfl ?_
  obtain ⟨hp1, h⟩ := wif h
  refine wg_ck (st' := [.inl (M 23 0 (a1).toNatClampNeg)]) (M' := M) rfl (wib_in hp1) ?_
  refine wg_br (c := (0 : Int32) ≤ (M 23 0 (a1).toNatClampNeg)) (t := 9) (f := 5) (st' := []) rfl (fun hc => ?_) (fun hc => ?_)
  · rw [if_pos hc] at h
    refine wg_blk 6 (i' := 15) (L' := [some (.inr (.inl (21, 0))), some (.inl a1), some (.inl a2), some (.inl a3)]) (st' := [.inl a1, .inr (.inl (23, 0)), .inr (.inr (0 : Int64)), .inr (.inr (a2).toInt64)]) (M' := M) rfl ?_
    refine wg_ck (st' := [.inl (M 23 0 (a1).toNatClampNeg), .inr (.inr (0 : Int64)), .inr (.inr (a2).toInt64)]) (M' := M) rfl (wib_in hp1) ?_
    refine wg_blk 3 (i' := 19) (L' := [some (.inr (.inl (21, 0))), some (.inl a1), some (.inl a2), some (.inl a3)]) (st' := [.inr (.inr (((M 23 0 (a1).toNatClampNeg) - a3)).toInt64), .inr (.inr (0 : Int64)), .inr (.inr (a2).toInt64)]) (M' := M) rfl ?_
    refine wg_ca (d' := 1) (y := 87) (as := [.inr (.inr (a2).toInt64), .inr (.inr (0 : Int64)), .inr (.inr (((M 23 0 (a1).toNatClampNeg) - a3)).toInt64)]) (rest := []) (r := some (f_M_in (a2).toInt64 (0 : Int64) (((M 23 0 (a1).toNatClampNeg) - a3)).toInt64)) (M' := M) rfl (Nat.le_of_ble_eq_true rfl) (s_M_in (a2).toInt64 (0 : Int64) (((M 23 0 (a1).toNatClampNeg) - a3)).toInt64 M _ rfl) ?_
    refine wg_br (c := (f_M_in (a2).toInt64 (0 : Int64) (((M 23 0 (a1).toNatClampNeg) - a3)).toInt64) = (0 : Int32)) (t := 23) (f := 21) (st' := []) rfl (fun hc => ?_) (fun hc => ?_)
    · rw [if_pos hc] at h
      refine wg_blk 2 (i' := 25) (L' := [some (.inr (.inl (21, 0))), some (.inl a1), some (.inl a2), some (.inl a3)]) (st' := [.inl (2 : Int32), .inr (.inl (21, 0))]) (M' := M) rfl ?_
      obtain ⟨q3, h2, h⟩ := wbs h
      refine wg_ca (d' := 1) (y := 89) (as := [.inr (.inl (21, 0)), .inl (2 : Int32)]) (rest := []) (r := some q3.1) (M' := q3.2) rfl (Nat.le_of_ble_eq_true rfl) (s_M_find (2 : Int32) M _ h2) ?_
      obtain rfl := Option.some.inj h
      exact wg_re rfl trivial ⟨rfl, rfl⟩
    · rw [if_neg hc] at h
      refine wg_blk 2 (i' := 26) (L' := [some (.inr (.inl (21, 0))), some (.inl a1), some (.inl a2), some (.inl a3)]) (st' := [.inl (0 : Int32)]) (M' := M) rfl ?_
      obtain rfl := Option.some.inj h
      exact wg_re rfl trivial ⟨rfl, rfl⟩
  · rw [if_neg hc] at h
    refine wg_blk 2 (i' := 7) (L' := [some (.inr (.inl (21, 0))), some (.inl a1), some (.inl a2), some (.inl a3)]) (st' := [.inl (1 : Int32), .inr (.inl (21, 0))]) (M' := M) rfl ?_
    obtain ⟨q5, h4, h⟩ := wbs h
    refine wg_ca (d' := 1) (y := 89) (as := [.inr (.inl (21, 0)), .inl (1 : Int32)]) (rest := []) (r := some q5.1) (M' := q5.2) rfl (Nat.le_of_ble_eq_true rfl) (s_M_find (1 : Int32) M _ h4) ?_
    obtain rfl := Option.some.inj h
    exact wg_re rfl trivial ⟨rfl, rfl⟩
set_option maxRecDepth 20000 in
theorem l_M_stands_35_ok (x1 : Int32) (x2 : Int32) (x4 : Int32) (M : wc_M) {K : Option Int32 → wc_M → Prop} : ∀ (n : Nat) (x5 : Int32) (x6 : Int32) (o : Int32), l_M_stands_35 x1 x2 x4 M n x5 x6 = some o → wg 5 wx0 (some .int) wk_134 61 [some (.inr (.inl (21, 0))), some (.inl x1), some (.inl x2), none, some (.inl x4), some (.inl o), none] [] M K → wg 5 wx0 (some .int) wk_134 35 [some (.inr (.inl (21, 0))), some (.inl x1), some (.inl x2), none, some (.inl x4), some (.inl x5), some (.inl x6)] [] M K := by
  intro n
  induction n with
  | zero =>
    intro x5 x6 o h hk
    exact nomatch (show (none : Option (Int32)) = some o from h)
  | succ n ih =>
    intro x5 x6 o h hk
    unfold l_M_stands_35 at h
    refine wg_blk 2 (i' := 37) (L' := [some (.inr (.inl (21, 0))), some (.inl x1), some (.inl x2), none, some (.inl x4), some (.inl x5), some (.inl x6)]) (st' := [.inl (16 : Int32), .inl x6]) (M' := M) rfl ?_
    refine wg_br (c := (16 : Int32) ≤ x6) (t := 61) (f := 38) (st' := []) rfl (fun hc => ?_) (fun hc => ?_)
    · rw [if_pos hc] at h
      obtain rfl := Option.some.inj h
      exact wg_wk (wk_s (wk_s (wk_s (wk_n (wk_s (wk_s (wk_n wk_e))))))) rfl hk
    · rw [if_neg hc] at h
      refine wg_blk 1 (i' := 39) (L' := [some (.inr (.inl (21, 0))), some (.inl x1), some (.inl x2), none, some (.inl x4), some (.inl x5), some (.inl x6)]) (st' := [.inl x5]) (M' := M) rfl ?_
      refine wg_br (c := x5 = (0 : Int32)) (t := 57) (f := 40) (st' := []) rfl (fun hc => ?_) (fun hc => ?_)
      · rw [if_pos hc] at h
        refine wg_blk 4 (i' := 35) (L' := [some (.inr (.inl (21, 0))), some (.inl x1), some (.inl x2), none, some (.inl x4), some (.inl (0 : Int32)), some (.inl (x6 + (1 : Int32)))]) (st' := []) (M' := M) rfl ?_
        exact wg_wk (wk_s (wk_s (wk_s (wk_n (wk_s (wk_s (wk_s wk_e))))))) rfl (ih (0 : Int32) (x6 + (1 : Int32)) _ h hk)
      · rw [if_neg hc] at h
        refine wg_blk 9 (i' := 49) (L' := [some (.inr (.inl (21, 0))), some (.inl x1), some (.inl x2), none, some (.inl x4), some (.inl x5), some (.inl x6)]) (st' := [.inl ((((40 : Int32) * x1) + x2) + x6), .inr (.inl (24, 0))]) (M' := M) rfl ?_
        obtain ⟨hp7, h⟩ := wif h
        refine wg_ck (st' := [.inl (M 24 0 (((((40 : Int32) * x1) + x2) + x6)).toNatClampNeg)]) (M' := M) rfl (wib_in hp7) ?_
        refine wg_blk 3 (i' := 53) (L' := [some (.inr (.inl (21, 0))), some (.inl x1), some (.inl x2), none, some (.inl x4), some (.inl x5), some (.inl x6)]) (st' := [.inl x6, .inr (.inl (29, 0)), .inl (M 24 0 (((((40 : Int32) * x1) + x2) + x6)).toNatClampNeg)]) (M' := M) rfl ?_
        obtain ⟨hp8, h⟩ := wif h
        refine wg_ck (st' := [.inl (M 29 0 (x6).toNatClampNeg), .inl (M 24 0 (((((40 : Int32) * x1) + x2) + x6)).toNatClampNeg)]) (M' := M) rfl (wib_in hp8) ?_
        refine wg_br (c := (M 24 0 (((((40 : Int32) * x1) + x2) + x6)).toNatClampNeg) = (M 29 0 (x6).toNatClampNeg)) (t := 55) (f := 57) (st' := []) rfl (fun hc => ?_) (fun hc => ?_)
        · rw [if_pos hc] at h
          refine wg_blk 5 (i' := 35) (L' := [some (.inr (.inl (21, 0))), some (.inl x1), some (.inl x2), none, some (.inl x4), some (.inl (1 : Int32)), some (.inl (x6 + (1 : Int32)))]) (st' := []) (M' := M) rfl ?_
          exact wg_wk (wk_s (wk_s (wk_s (wk_n (wk_s (wk_s (wk_s wk_e))))))) rfl (ih (1 : Int32) (x6 + (1 : Int32)) _ h hk)
        · rw [if_neg hc] at h
          refine wg_blk 4 (i' := 35) (L' := [some (.inr (.inl (21, 0))), some (.inl x1), some (.inl x2), none, some (.inl x4), some (.inl (0 : Int32)), some (.inl (x6 + (1 : Int32)))]) (st' := []) (M' := M) rfl ?_
          exact wg_wk (wk_s (wk_s (wk_s (wk_n (wk_s (wk_s (wk_s wk_e))))))) rfl (ih (0 : Int32) (x6 + (1 : Int32)) _ h hk)
set_option maxRecDepth 20000 in
theorem l_M_stands_26_ok (x1 : Int32) (x2 : Int32) {K : Option Int32 → wc_M → Prop} : ∀ (n : Nat) (x4 : Int32) (x5 : Int32) (M : wc_M) (o : Int32 × wc_M), l_M_stands_26 x1 x2 n x4 x5 M = some o → wg 5 wx0 (some .int) wk_134 72 [some (.inr (.inl (21, 0))), none, none, none, some (.inl o.1), none, none] [] o.2 K → wg 5 wx0 (some .int) wk_134 26 [some (.inr (.inl (21, 0))), some (.inl x1), some (.inl x2), none, some (.inl x4), some (.inl x5), none] [] M K := by
  intro n
  induction n with
  | zero =>
    intro x4 x5 M o h hk
    exact nomatch (show (none : Option (Int32 × wc_M)) = some o from h)
  | succ n ih =>
    intro x4 x5 M o h hk
    unfold l_M_stands_26 at h
    refine wg_blk 1 (i' := 27) (L' := [some (.inr (.inl (21, 0))), some (.inl x1), some (.inl x2), none, some (.inl x4), some (.inl x5), none]) (st' := [.inl x5]) (M' := M) rfl ?_
    refine wg_br (c := x5 = (0 : Int32)) (t := 72) (f := 28) (st' := []) rfl (fun hc => ?_) (fun hc => ?_)
    · rw [if_pos hc] at h
      obtain rfl := Option.some.inj h
      exact wg_wk (wk_s (wk_n (wk_n (wk_n (wk_s (wk_n (wk_n wk_e))))))) rfl hk
    · rw [if_neg hc] at h
      refine wg_blk 2 (i' := 30) (L' := [some (.inr (.inl (21, 0))), some (.inl x1), some (.inl x2), none, some (.inl x4), some (.inl x5), none]) (st' := [.inl (40 : Int32), .inl x4]) (M' := M) rfl ?_
      refine wg_br (c := (40 : Int32) ≤ x4) (t := 72) (f := 31) (st' := []) rfl (fun hc => ?_) (fun hc => ?_)
      · rw [if_pos hc] at h
        obtain rfl := Option.some.inj h
        exact wg_wk (wk_s (wk_n (wk_n (wk_n (wk_s (wk_n (wk_n wk_e))))))) rfl hk
      · rw [if_neg hc] at h
        refine wg_blk 1 (i' := 32) (L' := [some (.inr (.inl (21, 0))), some (.inl x1), some (.inl x2), none, some (.inl x4), some (.inl x5), none]) (st' := [.inr (.inl (21, 0))]) (M' := M) rfl ?_
        obtain ⟨m6, h5, h⟩ := wbs h
        refine wg_ca (d' := 4) (y := 112) (as := [.inr (.inl (21, 0))]) (rest := []) (r := none) (M' := m6) rfl (Nat.le_of_ble_eq_true rfl) (s_M_blow M _ h5) ?_
        refine wg_blk 2 (i' := 35) (L' := [some (.inr (.inl (21, 0))), some (.inl x1), some (.inl x2), none, some (.inl x4), some (.inl x5), some (.inl (0 : Int32))]) (st' := []) (M' := m6) rfl ?_
        obtain ⟨t7, h8, h⟩ := wbs h
        refine wg_wk (wk_s (wk_s (wk_s (wk_n (wk_s (wk_s (wk_s wk_e))))))) rfl (l_M_stands_35_ok x1 x2 x4 m6 2000 x5 (0 : Int32) _ h8 ?_)
        refine wg_blk 2 (i' := 63) (L' := [some (.inr (.inl (21, 0))), some (.inl x1), some (.inl x2), none, some (.inl x4), some (.inl t7), none]) (st' := [.inl t7, .inl x4]) (M' := m6) rfl ?_
        obtain ⟨t9, h12, h⟩ := wbs h
        have k : wg 5 wx0 (some .int) wk_134 67 [some (.inr (.inl (21, 0))), some (.inl x1), some (.inl x2), none, none, some (.inl t7), none] [.inl t9, .inl x4] m6 K := by
          refine wg_blk 3 (i' := 70) (L' := [some (.inr (.inl (21, 0))), some (.inl x1), some (.inl x2), none, some (.inl (x4 + t9)), some (.inl t7), none]) (st' := [.inr (.inl (21, 0))]) (M' := m6) rfl ?_
          obtain ⟨m11, h10, h⟩ := wbs h
          refine wg_ca (d' := 5) (y := 115) (as := [.inr (.inl (21, 0))]) (rest := []) (r := none) (M' := m11) rfl (Nat.le_of_ble_eq_true rfl) (s_M_oneHour m6 _ h10) ?_
          refine wg_blk 1 (i' := 26) (L' := [some (.inr (.inl (21, 0))), some (.inl x1), some (.inl x2), none, some (.inl (x4 + t9)), some (.inl t7), none]) (st' := []) (M' := m11) rfl ?_
          exact wg_wk (wk_s (wk_s (wk_s (wk_n (wk_s (wk_s (wk_n wk_e))))))) rfl (ih (x4 + t9) t7 m11 _ h hk)
        clear h
        have h := h12
        clear h12
        refine wg_br (c := t7 = (0 : Int32)) (t := 66) (f := 64) (st' := [.inl x4]) rfl (fun hc => ?_) (fun hc => ?_)
        · rw [if_pos hc] at h
          refine wg_blk 1 (i' := 67) (L' := [some (.inr (.inl (21, 0))), some (.inl x1), some (.inl x2), none, some (.inl x4), some (.inl t7), none]) (st' := [.inl (0 : Int32), .inl x4]) (M' := m6) rfl ?_
          obtain rfl := Option.some.inj h
          exact wg_wk (wk_s (wk_s (wk_s (wk_n (wk_n (wk_s (wk_n wk_e))))))) rfl k
        · rw [if_neg hc] at h
          refine wg_blk 2 (i' := 67) (L' := [some (.inr (.inl (21, 0))), some (.inl x1), some (.inl x2), none, some (.inl x4), some (.inl t7), none]) (st' := [.inl (1 : Int32), .inl x4]) (M' := m6) rfl ?_
          obtain rfl := Option.some.inj h
          exact wg_wk (wk_s (wk_s (wk_s (wk_n (wk_n (wk_s (wk_n wk_e))))))) rfl k
set_option maxRecDepth 20000 in
theorem s_M_stands (a1 : Int32) (a2 : Int32) (M : wc_M) (z : Int32 × wc_M) (h : f_M_stands a1 a2 M = some z) : wc_Sd 6 134 [.inr (.inl (21, 0)), .inl a1, .inl a2] M (some z.1) z.2 := by
  unfold f_M_stands at h
  refine wg_Sd (Nat.le_of_ble_eq_true rfl) ?_
  show wg 5 wx0 (some .int) wk_134 0 [some (.inr (.inl (21, 0))), some (.inl a1), some (.inl a2), none, none, none, none] [] M _
  refine wg_blk 2 (i' := 2) (L' := [some (.inr (.inl (21, 0))), some (.inl a1), some (.inl a2), none, none, none, none]) (st' := [.inl (M 21 0 4)]) (M' := M) rfl ?_
  refine wg_br (c := (M 21 0 4) = (0 : Int32)) (t := 3) (f := 5) (st' := []) rfl (fun hc => ?_) (fun hc => ?_)
  · rw [if_pos hc] at h
    refine wg_blk 1 (i' := 4) (L' := [some (.inr (.inl (21, 0))), some (.inl a1), some (.inl a2), none, none, none, none]) (st' := [.inl (-1000002 : Int32)]) (M' := M) rfl ?_
    obtain rfl := Option.some.inj h
    exact wg_re rfl trivial ⟨rfl, rfl⟩
  · rw [if_neg hc] at h
    refine wg_blk 1 (i' := 6) (L' := [some (.inr (.inl (21, 0))), some (.inl a1), some (.inl a2), none, none, none, none]) (st' := [.inl a1]) (M' := M) rfl ?_
    refine wg_ca (d' := 2) (y := 91) (as := [.inl a1]) (rest := []) (r := some (f_M_isRow a1)) (M' := M) rfl (Nat.le_of_ble_eq_true rfl) (s_M_isRow a1 M _ rfl) ?_
    refine wg_br (c := (f_M_isRow a1) = (0 : Int32)) (t := 8) (f := 10) (st' := []) rfl (fun hc => ?_) (fun hc => ?_)
    · rw [if_pos hc] at h
      refine wg_blk 1 (i' := 9) (L' := [some (.inr (.inl (21, 0))), some (.inl a1), some (.inl a2), none, none, none, none]) (st' := [.inl (-1000001 : Int32)]) (M' := M) rfl ?_
      obtain rfl := Option.some.inj h
      exact wg_re rfl trivial ⟨rfl, rfl⟩
    · rw [if_neg hc] at h
      refine wg_blk 4 (i' := 14) (L' := [some (.inr (.inl (21, 0))), some (.inl a1), some (.inl a2), none, none, none, none]) (st' := [.inl (16 : Int32), .inl a2, .inl a1, .inr (.inl (21, 0))]) (M' := M) rfl ?_
      obtain ⟨q2, h1, h⟩ := wbs h
      refine wg_ca (d' := 2) (y := 133) (as := [.inr (.inl (21, 0)), .inl a1, .inl a2, .inl (16 : Int32)]) (rest := []) (r := some q2.1) (M' := q2.2) rfl (Nat.le_of_ble_eq_true rfl) (s_M_lacks a1 a2 (16 : Int32) M _ h1) ?_
      refine wg_blk 2 (i' := 17) (L' := [some (.inr (.inl (21, 0))), some (.inl a1), some (.inl a2), some (.inl q2.1), none, none, none]) (st' := [.inl q2.1]) (M' := q2.2) rfl ?_
      refine wg_br (c := (0 : Int32) ≤ q2.1) (t := 20) (f := 18) (st' := []) rfl (fun hc => ?_) (fun hc => ?_)
      · rw [if_pos hc] at h
        refine wg_blk 1 (i' := 21) (L' := [some (.inr (.inl (21, 0))), some (.inl a1), some (.inl a2), some (.inl q2.1), none, none, none]) (st' := [.inr (.inl (21, 0))]) (M' := q2.2) rfl ?_
        obtain ⟨m4, h3, h⟩ := wbs h
        refine wg_ca (d' := 1) (y := 126) (as := [.inr (.inl (21, 0))]) (rest := []) (r := none) (M' := m4) rfl (Nat.le_of_ble_eq_true rfl) (s_M_putAside q2.2 _ h3) ?_
        refine wg_blk 4 (i' := 26) (L' := [some (.inr (.inl (21, 0))), some (.inl a1), some (.inl a2), some (.inl q2.1), some (.inl (0 : Int32)), some (.inl (1 : Int32)), none]) (st' := []) (M' := m4) rfl ?_
        obtain ⟨t13, h14, h⟩ := wbs h
        refine wg_wk (wk_s (wk_s (wk_s (wk_n (wk_s (wk_s (wk_n wk_e))))))) rfl (l_M_stands_26_ok a1 a2 2000 (0 : Int32) (1 : Int32) m4 _ h14 ?_)
        refine wg_blk 1 (i' := 73) (L' := [some (.inr (.inl (21, 0))), none, none, none, some (.inl t13.1), none, none]) (st' := [.inr (.inl (21, 0))]) (M' := t13.2) rfl ?_
        obtain ⟨m16, h15, h⟩ := wbs h
        refine wg_ca (d' := 1) (y := 127) (as := [.inr (.inl (21, 0))]) (rest := []) (r := none) (M' := m16) rfl (Nat.le_of_ble_eq_true rfl) (s_M_takeBack t13.2 _ h15) ?_
        refine wg_blk 2 (i' := 76) (L' := [some (.inr (.inl (21, 0))), none, none, none, some (.inl t13.1), none, none]) (st' := [.inl t13.1, .inr (.inl (21, 0))]) (M' := m16) rfl ?_
        obtain ⟨q18, h17, h⟩ := wbs h
        refine wg_ca (d' := 1) (y := 90) (as := [.inr (.inl (21, 0)), .inl t13.1]) (rest := []) (r := some q18.1) (M' := q18.2) rfl (Nat.le_of_ble_eq_true rfl) (s_M_well t13.1 m16 _ h17) ?_
        obtain rfl := Option.some.inj h
        exact wg_re rfl trivial ⟨rfl, rfl⟩
      · rw [if_neg hc] at h
        refine wg_blk 1 (i' := 19) (L' := [some (.inr (.inl (21, 0))), some (.inl a1), some (.inl a2), some (.inl q2.1), none, none, none]) (st' := [.inl q2.1]) (M' := q2.2) rfl ?_
        obtain rfl := Option.some.inj h
        exact wg_re rfl trivial ⟨rfl, rfl⟩
set_option maxRecDepth 20000 in
theorem l_C_chooseWall_2_ok (x1 : Int32) (x3 : Int32) (x4 : Int32) {K : Option Int32 → wc_M → Prop} : ∀ (n : Nat) (x5 : Int32) (M : wc_M) (o : (Int32 × wc_M) ⊕ (wc_M)), l_C_chooseWall_2 x1 x3 x4 n x5 M = some o → wel (fun r => K (some r.1) r.2) (fun t => wg 3 wx0 (some .boolean) wk_49 41 [none, none, none, none, none, none] [] t K) o → wg 3 wx0 (some .boolean) wk_49 2 [some (.inr (.inl (0, 0))), some (.inl x1), none, some (.inl x3), some (.inl x4), some (.inl x5)] [] M K := by
  intro n
  induction n with
  | zero =>
    intro x5 M o h hk
    exact nomatch (show (none : Option ((Int32 × wc_M) ⊕ (wc_M))) = some o from h)
  | succ n ih =>
    intro x5 M o h hk
    unfold l_C_chooseWall_2 at h
    refine wg_blk 2 (i' := 4) (L' := [some (.inr (.inl (0, 0))), some (.inl x1), none, some (.inl x3), some (.inl x4), some (.inl x5)]) (st' := [.inl (16 : Int32), .inl x5]) (M' := M) rfl ?_
    refine wg_br (c := (16 : Int32) ≤ x5) (t := 41) (f := 5) (st' := []) rfl (fun hc => ?_) (fun hc => ?_)
    · rw [if_pos hc] at h
      obtain rfl := Option.some.inj h
      exact wg_wk (wk_n (wk_n (wk_n (wk_n (wk_n (wk_n wk_e)))))) rfl hk
    · rw [if_neg hc] at h
      refine wg_blk 3 (i' := 8) (L' := [some (.inr (.inl (0, 0))), some (.inl x1), none, some (.inl x3), some (.inl x4), some (.inl x5)]) (st' := [.inl x5, .inr (.inl (6, 0))]) (M' := M) rfl ?_
      obtain ⟨v2, h1, h⟩ := wbs h
      refine wg_ca (d' := 1) (y := 69) (as := [.inr (.inl (6, 0)), .inl x5]) (rest := []) (r := some v2) (M' := M) rfl (Nat.le_of_ble_eq_true rfl) (s_P_hasWork 0 x5 M _ h1) ?_
      refine wg_br (c := v2 = (0 : Int32)) (t := 10) (f := 39) (st' := []) rfl (fun hc => ?_) (fun hc => ?_)
      · rw [if_pos hc] at h
        refine wg_blk 5 (i' := 15) (L' := [some (.inr (.inl (0, 0))), some (.inl x1), none, some (.inl x3), some (.inl x4), some (.inl x5)]) (st' := [.inl (0 : Int32), .inl (1 : Int32), .inl x5, .inr (.inl (6, 1))]) (M' := M) rfl ?_
        obtain ⟨m4, h3, h⟩ := wbs h
        refine wg_ca (d' := 1) (y := 67) (as := [.inr (.inl (6, 1)), .inl x5, .inl (1 : Int32), .inl (0 : Int32)]) (rest := []) (r := none) (M' := m4) rfl (Nat.le_of_ble_eq_true rfl) (s_P_put 1 x5 (1 : Int32) (0 : Int32) M _ h3) ?_
        refine wg_blk 4 (i' := 20) (L' := [some (.inr (.inl (0, 0))), some (.inl x1), none, some (.inl x3), some (.inl x4), some (.inl x5)]) (st' := [.inr (.inl (6, 1)), .inr (.inl (12, 0))]) (M' := m4) rfl ?_
        obtain ⟨m6, h5, h⟩ := wbs h
        refine wg_ca (d' := 3) (y := 74) (as := [.inr (.inl (12, 0)), .inr (.inl (6, 1))]) (rest := []) (r := none) (M' := m6) rfl (Nat.le_of_ble_eq_true rfl) (s_A_blow 1 m4 _ h5) ?_
        refine wg_blk 3 (i' := 24) (L' := [some (.inr (.inl (0, 0))), some (.inl x1), none, some (.inl x3), some (.inl x4), some (.inl x5)]) (st' := [.inl x5, .inr (.inl (6, 1))]) (M' := m6) rfl ?_
        obtain ⟨m8, h7, h⟩ := wbs h
        refine wg_ca (d' := 2) (y := 68) (as := [.inr (.inl (6, 1)), .inl x5]) (rest := []) (r := none) (M' := m8) rfl (Nat.le_of_ble_eq_true rfl) (s_P_clear 1 x5 m6 _ h7) ?_
        refine wg_blk 4 (i' := 29) (L' := [some (.inr (.inl (0, 0))), some (.inl x1), none, some (.inl x3), some (.inl x4), some (.inl x5)]) (st' := [.inl x3, .inr (.inl (13, 0))]) (M' := m8) rfl ?_
        obtain ⟨hp9, h⟩ := wif h
        refine wg_ck (st' := [.inl (m8 13 0 (x3).toNatClampNeg)]) (M' := m8) rfl (wib_in hp9) ?_
        refine wg_blk 1 (i' := 31) (L' := [some (.inr (.inl (0, 0))), some (.inl x1), none, some (.inl x3), some (.inl x4), some (.inl x5)]) (st' := [.inl x4, .inl (m8 13 0 (x3).toNatClampNeg)]) (M' := m8) rfl ?_
        refine wg_br (c := (m8 13 0 (x3).toNatClampNeg) < x4) (t := 39) (f := 32) (st' := []) rfl (fun hc => ?_) (fun hc => ?_)
        · rw [if_pos hc] at h
          refine wg_blk 2 (i' := 2) (L' := [some (.inr (.inl (0, 0))), some (.inl x1), none, some (.inl x3), some (.inl x4), some (.inl (x5 + (1 : Int32)))]) (st' := []) (M' := m8) rfl ?_
          exact wg_wk (wk_s (wk_s (wk_n (wk_s (wk_s (wk_s wk_e)))))) rfl (ih (x5 + (1 : Int32)) m8 _ h hk)
        · rw [if_neg hc] at h
          refine wg_blk 4 (i' := 36) (L' := [some (.inr (.inl (0, 0))), some (.inl x1), none, some (.inl x3), some (.inl x4), some (.inl x5)]) (st' := [.inl x5, .inl x1, .inr (.inl (15, 0))]) (M' := m8) rfl ?_
          obtain ⟨hp10, h⟩ := wif h
          refine wg_ck (st' := []) (M' := (wc_up m8 15 0 (x1).toNatClampNeg x5)) rfl (wib_in hp10) ?_
          refine wg_blk 1 (i' := 38) (L' := [some (.inr (.inl (0, 0))), some (.inl x1), none, some (.inl x3), some (.inl x4), some (.inl x5)]) (st' := [.inl (1 : Int32)]) (M' := (wc_up m8 15 0 (x1).toNatClampNeg x5)) rfl ?_
          obtain rfl := Option.some.inj h
          exact wg_re rfl (by decide) hk
      · rw [if_neg hc] at h
        refine wg_blk 2 (i' := 2) (L' := [some (.inr (.inl (0, 0))), some (.inl x1), none, some (.inl x3), some (.inl x4), some (.inl (x5 + (1 : Int32)))]) (st' := []) (M' := M) rfl ?_
        exact wg_wk (wk_s (wk_s (wk_n (wk_s (wk_s (wk_s wk_e)))))) rfl (ih (x5 + (1 : Int32)) M _ h hk)
set_option maxRecDepth 20000 in
theorem s_C_chooseWall (a1 : Int32) (a2 : Int32) (a3 : Int32) (a4 : Int32) (M : wc_M) (z : Int32 × wc_M) (h : f_C_chooseWall a1 a2 a3 a4 M = some z) : wc_Sd 4 49 [.inr (.inl (0, 0)), .inl a1, .inl a2, .inl a3, .inl a4] M (some z.1) z.2 := by
  unfold f_C_chooseWall at h
  refine wg_Sd (Nat.le_of_ble_eq_true rfl) ?_
  show wg 3 wx0 (some .boolean) wk_49 0 [some (.inr (.inl (0, 0))), some (.inl a1), some (.inl a2), some (.inl a3), some (.inl a4), none] [] M _
  refine wg_blk 2 (i' := 2) (L' := [some (.inr (.inl (0, 0))), some (.inl a1), some (.inl a2), some (.inl a3), some (.inl a4), some (.inl a2)]) (st' := []) (M' := M) rfl ?_
  obtain ⟨o13, h12, h⟩ := wbs h
  refine wg_wk (wk_s (wk_s (wk_n (wk_s (wk_s (wk_s wk_e)))))) rfl (l_C_chooseWall_2_ok a1 a3 a4 2000 a2 M _ h12 ?_)
  rcases o13 with r14 | t11
  · dsimp only [wel] at h ⊢
    obtain rfl := Option.some.inj h
    exact ⟨rfl, rfl⟩
  · dsimp only [wel] at h ⊢
    refine wg_blk 1 (i' := 42) (L' := [none, none, none, none, none, none]) (st' := [.inl (0 : Int32)]) (M' := t11) rfl ?_
    obtain rfl := Option.some.inj h
    exact wg_re rfl (by decide) ⟨rfl, rfl⟩
set_option maxRecDepth 20000 in
theorem l_C_chooseWalls_30_ok (x1 : Int32) (x2 : Int32) {K : Option Int32 → wc_M → Prop} : ∀ (n : Nat) (x3 : Int32) (M : wc_M) (o : (Int32 × wc_M) ⊕ (wc_M)), l_C_chooseWalls_30 x1 x2 n x3 M = some o → wel (fun r => K (some r.1) r.2) (fun t => wg 4 wx0 (some .int) wk_48 66 [none, none, none, none] [] t K) o → wg 4 wx0 (some .int) wk_48 30 [some (.inr (.inl (0, 0))), some (.inl x1), some (.inl x2), some (.inl x3)] [] M K := by
  intro n
  induction n with
  | zero =>
    intro x3 M o h hk
    exact nomatch (show (none : Option ((Int32 × wc_M) ⊕ (wc_M))) = some o from h)
  | succ n ih =>
    intro x3 M o h hk
    unfold l_C_chooseWalls_30 at h
    refine wg_blk 2 (i' := 32) (L' := [some (.inr (.inl (0, 0))), some (.inl x1), some (.inl x2), some (.inl x3)]) (st' := [.inl (16 : Int32), .inl x3]) (M' := M) rfl ?_
    refine wg_br (c := (16 : Int32) ≤ x3) (t := 66) (f := 33) (st' := []) rfl (fun hc => ?_) (fun hc => ?_)
    · rw [if_pos hc] at h
      obtain rfl := Option.some.inj h
      exact wg_wk (wk_n (wk_n (wk_n (wk_n wk_e)))) rfl hk
    · rw [if_neg hc] at h
      refine wg_blk 3 (i' := 36) (L' := [some (.inr (.inl (0, 0))), some (.inl x1), some (.inl x2), some (.inl x3)]) (st' := [.inl x3, .inr (.inl (6, 0))]) (M' := M) rfl ?_
      obtain ⟨v9, h8, h⟩ := wbs h
      refine wg_ca (d' := 1) (y := 69) (as := [.inr (.inl (6, 0)), .inl x3]) (rest := []) (r := some v9) (M' := M) rfl (Nat.le_of_ble_eq_true rfl) (s_P_hasWork 0 x3 M _ h8) ?_
      refine wg_br (c := v9 = (0 : Int32)) (t := 38) (f := 64) (st' := []) rfl (fun hc => ?_) (fun hc => ?_)
      · rw [if_pos hc] at h
        refine wg_blk 5 (i' := 43) (L' := [some (.inr (.inl (0, 0))), some (.inl x1), some (.inl x2), some (.inl x3)]) (st' := [.inl (0 : Int32), .inl (1 : Int32), .inl x3, .inr (.inl (6, 1))]) (M' := M) rfl ?_
        obtain ⟨m11, h10, h⟩ := wbs h
        refine wg_ca (d' := 1) (y := 67) (as := [.inr (.inl (6, 1)), .inl x3, .inl (1 : Int32), .inl (0 : Int32)]) (rest := []) (r := none) (M' := m11) rfl (Nat.le_of_ble_eq_true rfl) (s_P_put 1 x3 (1 : Int32) (0 : Int32) M _ h10) ?_
        refine wg_blk 4 (i' := 48) (L' := [some (.inr (.inl (0, 0))), some (.inl x1), some (.inl x2), some (.inl x3)]) (st' := [.inl x3, .inl (0 : Int32), .inr (.inl (15, 0))]) (M' := m11) rfl ?_
        refine wg_ck (st' := []) (M' := (wc_up m11 15 0 ((0 : Int32)).toNatClampNeg x3)) rfl (wib_in rfl) ?_
        refine wg_blk 7 (i' := 56) (L' := [some (.inr (.inl (0, 0))), some (.inl x1), some (.inl x2), some (.inl x3)]) (st' := [.inl x2, .inl x1, .inl (x3 + (1 : Int32)), .inl (1 : Int32), .inr (.inl (0, 0))]) (M' := (wc_up m11 15 0 ((0 : Int32)).toNatClampNeg x3)) rfl ?_
        obtain ⟨q13, h12, h⟩ := wbs h
        refine wg_ca (d' := 4) (y := 49) (as := [.inr (.inl (0, 0)), .inl (1 : Int32), .inl (x3 + (1 : Int32)), .inl x1, .inl x2]) (rest := []) (r := some q13.1) (M' := q13.2) rfl (Nat.le_of_ble_eq_true rfl) (s_C_chooseWall (1 : Int32) (x3 + (1 : Int32)) x1 x2 (wc_up m11 15 0 ((0 : Int32)).toNatClampNeg x3) _ h12) ?_
        refine wg_br (c := q13.1 = (0 : Int32)) (t := 60) (f := 58) (st' := []) rfl (fun hc => ?_) (fun hc => ?_)
        · rw [if_pos hc] at h
          refine wg_blk 3 (i' := 63) (L' := [some (.inr (.inl (0, 0))), some (.inl x1), some (.inl x2), some (.inl x3)]) (st' := [.inl x3, .inr (.inl (6, 1))]) (M' := q13.2) rfl ?_
          obtain ⟨m15, h14, h⟩ := wbs h
          refine wg_ca (d' := 2) (y := 68) (as := [.inr (.inl (6, 1)), .inl x3]) (rest := []) (r := none) (M' := m15) rfl (Nat.le_of_ble_eq_true rfl) (s_P_clear 1 x3 q13.2 _ h14) ?_
          refine wg_blk 2 (i' := 30) (L' := [some (.inr (.inl (0, 0))), some (.inl x1), some (.inl x2), some (.inl (x3 + (1 : Int32)))]) (st' := []) (M' := m15) rfl ?_
          exact wg_wk (wk_s (wk_s (wk_s (wk_s wk_e)))) rfl (ih (x3 + (1 : Int32)) m15 _ h hk)
        · rw [if_neg hc] at h
          refine wg_blk 1 (i' := 59) (L' := [some (.inr (.inl (0, 0))), some (.inl x1), some (.inl x2), some (.inl x3)]) (st' := [.inl (2 : Int32)]) (M' := q13.2) rfl ?_
          obtain rfl := Option.some.inj h
          exact wg_re rfl trivial hk
      · rw [if_neg hc] at h
        refine wg_blk 2 (i' := 30) (L' := [some (.inr (.inl (0, 0))), some (.inl x1), some (.inl x2), some (.inl (x3 + (1 : Int32)))]) (st' := []) (M' := M) rfl ?_
        exact wg_wk (wk_s (wk_s (wk_s (wk_s wk_e)))) rfl (ih (x3 + (1 : Int32)) M _ h hk)
set_option maxRecDepth 20000 in
theorem s_C_chooseWalls (a1 : Int32) (a2 : Int32) (M : wc_M) (z : Int32 × wc_M) (h : f_C_chooseWalls a1 a2 M = some z) : wc_Sd 5 48 [.inr (.inl (0, 0)), .inl a1, .inl a2] M (some z.1) z.2 := by
  unfold f_C_chooseWalls at h
  refine wg_Sd (Nat.le_of_ble_eq_true rfl) ?_
  show wg 4 wx0 (some .int) wk_48 0 [some (.inr (.inl (0, 0))), some (.inl a1), some (.inl a2), none] [] M _
  refine wg_blk 4 (i' := 4) (L' := [some (.inr (.inl (0, 0))), some (.inl a1), some (.inl a2), none]) (st' := [.inr (.inl (6, 0)), .inr (.inl (6, 1))]) (M' := M) rfl ?_
  obtain ⟨m2, h1, h⟩ := wbs h
  refine wg_ca (d' := 1) (y := 65) (as := [.inr (.inl (6, 1)), .inr (.inl (6, 0))]) (rest := []) (r := none) (M' := m2) rfl (Nat.le_of_ble_eq_true rfl) (s_P_become 1 0 M _ h1) ?_
  refine wg_blk 4 (i' := 9) (L' := [some (.inr (.inl (0, 0))), some (.inl a1), some (.inl a2), none]) (st' := [.inr (.inl (6, 1)), .inr (.inl (12, 0))]) (M' := m2) rfl ?_
  obtain ⟨m4, h3, h⟩ := wbs h
  refine wg_ca (d' := 3) (y := 74) (as := [.inr (.inl (12, 0)), .inr (.inl (6, 1))]) (rest := []) (r := none) (M' := m4) rfl (Nat.le_of_ble_eq_true rfl) (s_A_blow 1 m2 _ h3) ?_
  refine wg_blk 4 (i' := 14) (L' := [some (.inr (.inl (0, 0))), some (.inl a1), some (.inl a2), none]) (st' := [.inl a1, .inr (.inl (13, 0))]) (M' := m4) rfl ?_
  obtain ⟨hp5, h⟩ := wif h
  refine wg_ck (st' := [.inl (m4 13 0 (a1).toNatClampNeg)]) (M' := m4) rfl (wib_in hp5) ?_
  refine wg_blk 1 (i' := 16) (L' := [some (.inr (.inl (0, 0))), some (.inl a1), some (.inl a2), none]) (st' := [.inl a2, .inl (m4 13 0 (a1).toNatClampNeg)]) (M' := m4) rfl ?_
  refine wg_br (c := (m4 13 0 (a1).toNatClampNeg) < a2) (t := 19) (f := 17) (st' := []) rfl (fun hc => ?_) (fun hc => ?_)
  · rw [if_pos hc] at h
    refine wg_blk 5 (i' := 24) (L' := [some (.inr (.inl (0, 0))), some (.inl a1), some (.inl a2), none]) (st' := [.inl a2, .inl a1, .inl (0 : Int32), .inl (0 : Int32), .inr (.inl (0, 0))]) (M' := m4) rfl ?_
    obtain ⟨q7, h6, h⟩ := wbs h
    refine wg_ca (d' := 4) (y := 49) (as := [.inr (.inl (0, 0)), .inl (0 : Int32), .inl (0 : Int32), .inl a1, .inl a2]) (rest := []) (r := some q7.1) (M' := q7.2) rfl (Nat.le_of_ble_eq_true rfl) (s_C_chooseWall (0 : Int32) (0 : Int32) a1 a2 m4 _ h6) ?_
    refine wg_br (c := q7.1 = (0 : Int32)) (t := 28) (f := 26) (st' := []) rfl (fun hc => ?_) (fun hc => ?_)
    · rw [if_pos hc] at h
      refine wg_blk 2 (i' := 30) (L' := [some (.inr (.inl (0, 0))), some (.inl a1), some (.inl a2), some (.inl (0 : Int32))]) (st' := []) (M' := q7.2) rfl ?_
      obtain ⟨o18, h17, h⟩ := wbs h
      refine wg_wk (wk_s (wk_s (wk_s (wk_s wk_e)))) rfl (l_C_chooseWalls_30_ok a1 a2 2000 (0 : Int32) q7.2 _ h17 ?_)
      rcases o18 with r19 | t16
      · dsimp only [wel] at h ⊢
        obtain rfl := Option.some.inj h
        exact ⟨rfl, rfl⟩
      · dsimp only [wel] at h ⊢
        refine wg_blk 1 (i' := 67) (L' := [none, none, none, none]) (st' := [.inl (-1000000 : Int32)]) (M' := t16) rfl ?_
        obtain rfl := Option.some.inj h
        exact wg_re rfl trivial ⟨rfl, rfl⟩
    · rw [if_neg hc] at h
      refine wg_blk 1 (i' := 27) (L' := [some (.inr (.inl (0, 0))), some (.inl a1), some (.inl a2), none]) (st' := [.inl (1 : Int32)]) (M' := q7.2) rfl ?_
      obtain rfl := Option.some.inj h
      exact wg_re rfl trivial ⟨rfl, rfl⟩
  · rw [if_neg hc] at h
    refine wg_blk 1 (i' := 18) (L' := [some (.inr (.inl (0, 0))), some (.inl a1), some (.inl a2), none]) (st' := [.inl (0 : Int32)]) (M' := m4) rfl ?_
    obtain rfl := Option.some.inj h
    exact wg_re rfl trivial ⟨rfl, rfl⟩
set_option maxRecDepth 20000 in
theorem s_C_walls (a1 : Int32) (a2 : Int32) (a3 : Int32) (M : wc_M) (z : Int32 × wc_M) (h : f_C_walls a1 a2 a3 M = some z) : wc_Sd 6 20 [.inr (.inl (0, 0)), .inl a1, .inl a2, .inl a3] M (some z.1) z.2 := by
  unfold f_C_walls at h
  refine wg_Sd (Nat.le_of_ble_eq_true rfl) ?_
  show wg 5 wx0 (some .int) wk_20 0 [some (.inr (.inl (0, 0))), some (.inl a1), some (.inl a2), some (.inl a3), none] [] M _
  refine wg_blk 3 (i' := 3) (L' := [some (.inr (.inl (0, 0))), some (.inl a1), some (.inl a2), some (.inl a3), none]) (st' := [.inl (M 6 0 5)]) (M' := M) rfl ?_
  refine wg_br (c := (M 6 0 5) = (0 : Int32)) (t := 4) (f := 6) (st' := []) rfl (fun hc => ?_) (fun hc => ?_)
  · rw [if_pos hc] at h
    refine wg_blk 1 (i' := 5) (L' := [some (.inr (.inl (0, 0))), some (.inl a1), some (.inl a2), some (.inl a3), none]) (st' := [.inl (-1000002 : Int32)]) (M' := M) rfl ?_
    obtain rfl := Option.some.inj h
    exact wg_re rfl trivial ⟨rfl, rfl⟩
  · rw [if_neg hc] at h
    refine wg_blk 1 (i' := 7) (L' := [some (.inr (.inl (0, 0))), some (.inl a1), some (.inl a2), some (.inl a3), none]) (st' := [.inl a1]) (M' := M) rfl ?_
    refine wg_ca (d' := 2) (y := 33) (as := [.inl a1]) (rest := []) (r := some (f_C_isCell a1)) (M' := M) rfl (Nat.le_of_ble_eq_true rfl) (s_C_isCell a1 M _ rfl) ?_
    refine wg_br (c := (f_C_isCell a1) = (0 : Int32)) (t := 19) (f := 9) (st' := []) rfl (fun hc => ?_) (fun hc => ?_)
    · rw [if_pos hc] at h
      refine wg_blk 1 (i' := 20) (L' := [some (.inr (.inl (0, 0))), some (.inl a1), some (.inl a2), some (.inl a3), none]) (st' := [.inl (-1000001 : Int32)]) (M' := M) rfl ?_
      obtain rfl := Option.some.inj h
      exact wg_re rfl trivial ⟨rfl, rfl⟩
    · rw [if_neg hc] at h
      refine wg_blk 2 (i' := 11) (L' := [some (.inr (.inl (0, 0))), some (.inl a1), some (.inl a2), some (.inl a3), none]) (st' := [.inl (99 : Int32), .inl a2]) (M' := M) rfl ?_
      refine wg_ca (d' := 1) (y := 32) (as := [.inl a2, .inl (99 : Int32)]) (rest := []) (r := some (f_C_isUpTo a2 (99 : Int32))) (M' := M) rfl (Nat.le_of_ble_eq_true rfl) (s_C_isUpTo a2 (99 : Int32) M _ rfl) ?_
      refine wg_br (c := (f_C_isUpTo a2 (99 : Int32)) = (0 : Int32)) (t := 19) (f := 13) (st' := []) rfl (fun hc => ?_) (fun hc => ?_)
      · rw [if_pos hc] at h
        refine wg_blk 1 (i' := 20) (L' := [some (.inr (.inl (0, 0))), some (.inl a1), some (.inl a2), some (.inl a3), none]) (st' := [.inl (-1000001 : Int32)]) (M' := M) rfl ?_
        obtain rfl := Option.some.inj h
        exact wg_re rfl trivial ⟨rfl, rfl⟩
      · rw [if_neg hc] at h
        refine wg_blk 2 (i' := 15) (L' := [some (.inr (.inl (0, 0))), some (.inl a1), some (.inl a2), some (.inl a3), none]) (st' := [.inl (-1 : Int32), .inl a3]) (M' := M) rfl ?_
        refine wg_br (c := a3 < (-1 : Int32)) (t := 19) (f := 16) (st' := []) rfl (fun hc => ?_) (fun hc => ?_)
        · rw [if_pos hc] at h
          refine wg_blk 1 (i' := 20) (L' := [some (.inr (.inl (0, 0))), some (.inl a1), some (.inl a2), some (.inl a3), none]) (st' := [.inl (-1000001 : Int32)]) (M' := M) rfl ?_
          obtain rfl := Option.some.inj h
          exact wg_re rfl trivial ⟨rfl, rfl⟩
        · rw [if_neg hc] at h
          refine wg_blk 2 (i' := 18) (L' := [some (.inr (.inl (0, 0))), some (.inl a1), some (.inl a2), some (.inl a3), none]) (st' := [.inl (1 : Int32), .inl a3]) (M' := M) rfl ?_
          refine wg_br (c := a3 ≤ (1 : Int32)) (t := 21) (f := 19) (st' := []) rfl (fun hc => ?_) (fun hc => ?_)
          · rw [if_pos hc] at h
            refine wg_blk 3 (i' := 24) (L' := [some (.inr (.inl (0, 0))), some (.inl a1), some (.inl a2), some (.inl a3), none]) (st' := [.inl a2, .inl a1, .inr (.inl (0, 0))]) (M' := M) rfl ?_
            obtain ⟨q2, h1, h⟩ := wbs h
            refine wg_ca (d' := 5) (y := 48) (as := [.inr (.inl (0, 0)), .inl a1, .inl a2]) (rest := []) (r := some q2.1) (M' := q2.2) rfl (Nat.le_of_ble_eq_true rfl) (s_C_chooseWalls a1 a2 M _ h1) ?_
            refine wg_blk 2 (i' := 27) (L' := [some (.inr (.inl (0, 0))), some (.inl a1), some (.inl a2), some (.inl a3), some (.inl q2.1)]) (st' := [.inl a3]) (M' := q2.2) rfl ?_
            refine wg_br (c := a3 < (0 : Int32)) (t := 31) (f := 28) (st' := []) rfl (fun hc => ?_) (fun hc => ?_)
            · rw [if_pos hc] at h
              refine wg_blk 1 (i' := 32) (L' := [some (.inr (.inl (0, 0))), some (.inl a1), some (.inl a2), some (.inl a3), some (.inl q2.1)]) (st' := [.inl q2.1]) (M' := q2.2) rfl ?_
              obtain rfl := Option.some.inj h
              exact wg_re rfl trivial ⟨rfl, rfl⟩
            · rw [if_neg hc] at h
              refine wg_blk 2 (i' := 30) (L' := [some (.inr (.inl (0, 0))), some (.inl a1), some (.inl a2), some (.inl a3), some (.inl q2.1)]) (st' := [.inl (-1000000 : Int32), .inl q2.1]) (M' := q2.2) rfl ?_
              refine wg_br (c := q2.1 = (-1000000 : Int32)) (t := 31) (f := 33) (st' := []) rfl (fun hc => ?_) (fun hc => ?_)
              · rw [if_pos hc] at h
                refine wg_blk 1 (i' := 32) (L' := [some (.inr (.inl (0, 0))), some (.inl a1), some (.inl a2), some (.inl a3), some (.inl q2.1)]) (st' := [.inl q2.1]) (M' := q2.2) rfl ?_
                obtain rfl := Option.some.inj h
                exact wg_re rfl trivial ⟨rfl, rfl⟩
              · rw [if_neg hc] at h
                refine wg_blk 2 (i' := 35) (L' := [some (.inr (.inl (0, 0))), some (.inl a1), some (.inl a2), some (.inl a3), some (.inl q2.1)]) (st' := [.inl q2.1, .inl a3]) (M' := q2.2) rfl ?_
                refine wg_br (c := q2.1 ≤ a3) (t := 41) (f := 36) (st' := []) rfl (fun hc => ?_) (fun hc => ?_)
                · rw [if_pos hc] at h
                  refine wg_blk 1 (i' := 42) (L' := [some (.inr (.inl (0, 0))), some (.inl a1), some (.inl a2), some (.inl a3), some (.inl q2.1)]) (st' := [.inl (-1000000 : Int32)]) (M' := q2.2) rfl ?_
                  obtain rfl := Option.some.inj h
                  exact wg_re rfl trivial ⟨rfl, rfl⟩
                · rw [if_neg hc] at h
                  refine wg_blk 3 (i' := 39) (L' := [some (.inr (.inl (0, 0))), some (.inl a1), some (.inl a2), some (.inl a3), some (.inl q2.1)]) (st' := [.inl a3, .inr (.inl (15, 0))]) (M' := q2.2) rfl ?_
                  obtain ⟨hp3, h⟩ := wif h
                  refine wg_ck (st' := [.inl (q2.2 15 0 (a3).toNatClampNeg)]) (M' := q2.2) rfl (wib_in hp3) ?_
                  refine wg_blk 1 (i' := 42) (L' := [some (.inr (.inl (0, 0))), some (.inl a1), some (.inl a2), some (.inl a3), some (.inl q2.1)]) (st' := [.inl (q2.2 15 0 (a3).toNatClampNeg)]) (M' := q2.2) rfl ?_
                  obtain rfl := Option.some.inj h
                  exact wg_re rfl trivial ⟨rfl, rfl⟩
          · rw [if_neg hc] at h
            refine wg_blk 1 (i' := 20) (L' := [some (.inr (.inl (0, 0))), some (.inl a1), some (.inl a2), some (.inl a3), none]) (st' := [.inl (-1000001 : Int32)]) (M' := M) rfl ?_
            obtain rfl := Option.some.inj h
            exact wg_re rfl trivial ⟨rfl, rfl⟩
