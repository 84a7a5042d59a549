/-! THE FUNCTIONS are what the code does (written by wip/whole/gen/dec.py) -/
set_option maxRecDepth 20000 in
theorem s_C_isUpTo (a0 : Int32) (a1 : Int32) (M : wc_M) (z : Int32) (h : f_C_isUpTo a0 a1 = z) : wc_Sd 1 32 [.inl a0, .inl a1] M (some z) M := by
  unfold f_C_isUpTo at h
  refine wg_Sd (Nat.le_of_ble_eq_true rfl) ?_
  show wg 0 wx0 (some .boolean) wk_32 0 [some (.inl a0), some (.inl a1)] [] M _
  refine wg_blk 1 (i' := 1) (L' := [some (.inl a0), some (.inl a1)]) (st' := [.inl a0]) (M' := M) rfl ?_
  refine wg_br (c := a0 < (0 : Int32)) (t := 7) (f := 2) (st' := []) rfl (fun hc => ?_) (fun hc => ?_)
  · rw [if_pos hc] at h
    refine wg_blk 1 (i' := 8) (L' := [some (.inl a0), some (.inl a1)]) (st' := [.inl (0 : Int32)]) (M' := M) rfl ?_
    subst h
    exact wg_re rfl (by decide) ⟨rfl, rfl⟩
  · rw [if_neg hc] at h
    refine wg_blk 2 (i' := 4) (L' := [some (.inl a0), some (.inl a1)]) (st' := [.inl a1, .inl a0]) (M' := M) rfl ?_
    refine wg_br (c := a1 < a0) (t := 7) (f := 5) (st' := []) rfl (fun hc => ?_) (fun hc => ?_)
    · rw [if_pos hc] at h
      refine wg_blk 1 (i' := 8) (L' := [some (.inl a0), some (.inl a1)]) (st' := [.inl (0 : Int32)]) (M' := M) rfl ?_
      subst h
      exact wg_re rfl (by decide) ⟨rfl, rfl⟩
    · rw [if_neg hc] at h
      refine wg_blk 2 (i' := 8) (L' := [some (.inl a0), some (.inl a1)]) (st' := [.inl (1 : Int32)]) (M' := M) rfl ?_
      subst h
      exact wg_re rfl (by decide) ⟨rfl, rfl⟩
set_option maxRecDepth 20000 in
theorem l_R_make_11_ok (p0 : Nat) {K : Option Int32 → wc_M → Prop} : ∀ (n : Nat) (x3 : Int32) (M : wc_M) (o : wc_M), l_R_make_11 p0 n x3 M = some o → wg 0 wx0 none wk_52 21 [none, none, none, none] [] o K → wg 0 wx0 none wk_52 11 [some (.inr (.inl (2, p0))), none, none, some (.inl x3)] [] M K := by
  intro n
  induction n with
  | zero =>
    intro x3 M o h hk
    exact nomatch (show (none : Option (wc_M)) = some o from h)
  | succ n ih =>
    intro x3 M o h hk
    unfold l_R_make_11 at h
    refine wg_blk 2 (i' := 13) (L' := [some (.inr (.inl (2, p0))), none, none, some (.inl x3)]) (st' := [.inl (40 : Int32), .inl x3]) (M' := M) rfl ?_
    refine wg_br (c := (40 : Int32) ≤ x3) (t := 21) (f := 14) (st' := []) rfl (fun hc => ?_) (fun hc => ?_)
    · rw [if_pos hc] at h
      obtain rfl := Option.some.inj h
      exact wg_wk (wk_n (wk_n (wk_n (wk_n wk_e)))) rfl hk
    · rw [if_neg hc] at h
      refine wg_blk 4 (i' := 18) (L' := [some (.inr (.inl (2, p0))), none, none, some (.inl x3)]) (st' := [.inl (0 : Int32), .inl x3, .inr (.inl (3, p0))]) (M' := M) rfl ?_
      obtain ⟨hp1, h⟩ := wif h
      refine wg_ck (st' := []) (M' := (wc_up M 3 p0 (x3).toNatClampNeg (0 : Int32))) rfl (wib_in hp1) ?_
      refine wg_blk 2 (i' := 11) (L' := [some (.inr (.inl (2, p0))), none, none, some (.inl (x3 + (1 : Int32)))]) (st' := []) (M' := (wc_up M 3 p0 (x3).toNatClampNeg (0 : Int32))) rfl ?_
      exact wg_wk (wk_s (wk_n (wk_n (wk_s wk_e)))) rfl (ih (x3 + (1 : Int32)) (wc_up M 3 p0 (x3).toNatClampNeg (0 : Int32)) _ h hk)
set_option maxRecDepth 20000 in
theorem s_R_make (p0 : Nat) (a1 : Int32) (a2 : Int32) (M : wc_M) (z : wc_M) (h : f_R_make p0 a1 a2 M = some z) : wc_Sd 1 52 [.inr (.inl (2, p0)), .inl a1, .inl a2] M none z := by
  unfold f_R_make at h
  refine wg_Sd (Nat.le_of_ble_eq_true rfl) ?_
  show wg 0 wx0 none wk_52 0 [some (.inr (.inl (2, p0))), some (.inl a1), some (.inl a2), none] [] M _
  refine wg_blk 2 (i' := 2) (L' := [some (.inr (.inl (2, p0))), some (.inl a1), some (.inl a2), none]) (st' := [.inl (1 : Int32), .inr (.inl (2, p0))]) (M' := M) rfl ?_
  refine wg_ck (st' := []) (M' := (wc_up M 2 p0 1 (1 : Int32))) rfl (by decide) ?_
  refine wg_blk 8 (i' := 11) (L' := [some (.inr (.inl (2, p0))), some (.inl a1), some (.inl a2), some (.inl (0 : Int32))]) (st' := []) (M' := (wc_up (wc_up (wc_up M 2 p0 1 (1 : Int32)) 2 p0 2 a1) 2 p0 3 a2)) rfl ?_
  obtain ⟨t2, h3, h⟩ := wbs h
  refine wg_wk (wk_s (wk_n (wk_n (wk_s wk_e)))) rfl (l_R_make_11_ok p0 2000 (0 : Int32) (wc_up (wc_up (wc_up M 2 p0 1 (1 : Int32)) 2 p0 2 a1) 2 p0 3 a2) _ h3 ?_)
  obtain rfl := Option.some.inj h
  exact wg_re rfl trivial ⟨rfl, rfl⟩
set_option maxRecDepth 20000 in
theorem s_C_withoutFinding (a1 : Int32) (M : wc_M) (z : Int32 × wc_M) (h : f_C_withoutFinding a1 M = some z) : wc_Sd 1 38 [.inr (.inl (0, 0)), .inl a1] M (some z.1) z.2 := by
  unfold f_C_withoutFinding at h
  refine wg_Sd (Nat.le_of_ble_eq_true rfl) ?_
  show wg 0 wx0 (some .int) wk_38 0 [some (.inr (.inl (0, 0))), some (.inl a1)] [] M _
  refine wg_blk 4 (i' := 4) (L' := [some (.inr (.inl (0, 0))), some (.inl a1)]) (st' := [.inl a1]) (M' := (wc_up M 0 0 9 (0 : Int32))) rfl ?_
  obtain rfl := Option.some.inj h
  exact wg_re rfl trivial ⟨rfl, rfl⟩
set_option maxRecDepth 20000 in
theorem s_C_found (a1 : Int32) (M : wc_M) (z : Int32 × wc_M) (h : f_C_found a1 M = some z) : wc_Sd 1 37 [.inr (.inl (0, 0)), .inl a1] M (some z.1) z.2 := by
  unfold f_C_found at h
  refine wg_Sd (Nat.le_of_ble_eq_true rfl) ?_
  show wg 0 wx0 (some .int) wk_37 0 [some (.inr (.inl (0, 0))), some (.inl a1)] [] M _
  refine wg_blk 6 (i' := 6) (L' := [some (.inr (.inl (0, 0))), some (.inl a1)]) (st' := [.inl ((-1000010 : Int32) - a1)]) (M' := (wc_up M 0 0 9 a1)) rfl ?_
  obtain rfl := Option.some.inj h
  exact wg_re rfl trivial ⟨rfl, rfl⟩
set_option maxRecDepth 20000 in
theorem s_C_row (a1 : Int32) (a2 : Int32) (a3 : Int32) (M : wc_M) (z : Int32 × wc_M) (h : f_C_row a1 a2 a3 M = some z) : wc_Sd 2 0 [.inr (.inl (0, 0)), .inl a1, .inl a2, .inl a3] M (some z.1) z.2 := by
  unfold f_C_row at h
  refine wg_Sd (Nat.le_of_ble_eq_true rfl) ?_
  show wg 1 wx0 (some .int) wk_0 0 [some (.inr (.inl (0, 0))), some (.inl a1), some (.inl a2), some (.inl a3)] [] M _
  refine wg_blk 2 (i' := 2) (L' := [some (.inr (.inl (0, 0))), some (.inl a1), some (.inl a2), some (.inl a3)]) (st' := [.inl (7 : Int32), .inl a1]) (M' := M) rfl ?_
  refine wg_ca (d' := 1) (y := 32) (as := [.inl a1, .inl (7 : Int32)]) (rest := []) (r := some (f_C_isUpTo a1 (7 : Int32))) (M' := M) rfl (Nat.le_of_ble_eq_true rfl) (s_C_isUpTo a1 (7 : Int32) M _ rfl) ?_
  refine wg_br (c := (f_C_isUpTo a1 (7 : Int32)) = (0 : Int32)) (t := 11) (f := 4) (st' := []) rfl (fun hc => ?_) (fun hc => ?_)
  · rw [if_pos hc] at h
    refine wg_blk 1 (i' := 12) (L' := [some (.inr (.inl (0, 0))), some (.inl a1), some (.inl a2), some (.inl a3)]) (st' := [.inl (-1000001 : Int32)]) (M' := M) rfl ?_
    obtain rfl := Option.some.inj h
    exact wg_re rfl trivial ⟨rfl, rfl⟩
  · rw [if_neg hc] at h
    refine wg_blk 2 (i' := 6) (L' := [some (.inr (.inl (0, 0))), some (.inl a1), some (.inl a2), some (.inl a3)]) (st' := [.inl (2 : Int32), .inl a2]) (M' := M) rfl ?_
    refine wg_ca (d' := 1) (y := 32) (as := [.inl a2, .inl (2 : Int32)]) (rest := []) (r := some (f_C_isUpTo a2 (2 : Int32))) (M' := M) rfl (Nat.le_of_ble_eq_true rfl) (s_C_isUpTo a2 (2 : Int32) M _ rfl) ?_
    refine wg_br (c := (f_C_isUpTo a2 (2 : Int32)) = (0 : Int32)) (t := 11) (f := 8) (st' := []) rfl (fun hc => ?_) (fun hc => ?_)
    · rw [if_pos hc] at h
      refine wg_blk 1 (i' := 12) (L' := [some (.inr (.inl (0, 0))), some (.inl a1), some (.inl a2), some (.inl a3)]) (st' := [.inl (-1000001 : Int32)]) (M' := M) rfl ?_
      obtain rfl := Option.some.inj h
      exact wg_re rfl trivial ⟨rfl, rfl⟩
    · rw [if_neg hc] at h
      refine wg_blk 2 (i' := 10) (L' := [some (.inr (.inl (0, 0))), some (.inl a1), some (.inl a2), some (.inl a3)]) (st' := [.inl (40 : Int32), .inl a3]) (M' := M) rfl ?_
      refine wg_br (c := a3 ≤ (40 : Int32)) (t := 13) (f := 11) (st' := []) rfl (fun hc => ?_) (fun hc => ?_)
      · rw [if_pos hc] at h
        refine wg_blk 1 (i' := 14) (L' := [some (.inr (.inl (0, 0))), some (.inl a1), some (.inl a2), some (.inl a3)]) (st' := [.inl a3]) (M' := M) rfl ?_
        refine wg_br (c := (0 : Int32) ≤ a3) (t := 19) (f := 15) (st' := []) rfl (fun hc => ?_) (fun hc => ?_)
        · rw [if_pos hc] at h
          refine wg_blk 3 (i' := 22) (L' := [some (.inr (.inl (0, 0))), some (.inl a1), some (.inl a2), some (.inl a3)]) (st' := [.inl a1, .inr (.inl (1, 0))]) (M' := M) rfl ?_
          obtain ⟨hp1, h⟩ := wif h
          refine wg_ck (st' := [.inr (.inl (2, (a1).toNatClampNeg))]) (M' := M) rfl (wib_in hp1) ?_
          refine wg_blk 2 (i' := 25) (L' := [some (.inr (.inl (0, 0))), some (.inl a1), some (.inl a2), some (.inl a3)]) (st' := [.inl a3, .inl a2, .inr (.inl (2, (a1).toNatClampNeg))]) (M' := M) rfl ?_
          obtain ⟨m3, h2, h⟩ := wbs h
          refine wg_ca (d' := 1) (y := 52) (as := [.inr (.inl (2, (a1).toNatClampNeg)), .inl a2, .inl a3]) (rest := []) (r := none) (M' := m3) rfl (Nat.le_of_ble_eq_true rfl) (s_R_make (a1).toNatClampNeg a2 a3 M _ h2) ?_
          refine wg_blk 2 (i' := 28) (L' := [some (.inr (.inl (0, 0))), some (.inl a1), some (.inl a2), some (.inl a3)]) (st' := [.inl a3, .inr (.inl (0, 0))]) (M' := m3) rfl ?_
          obtain ⟨q5, h4, h⟩ := wbs h
          refine wg_ca (d' := 1) (y := 38) (as := [.inr (.inl (0, 0)), .inl a3]) (rest := []) (r := some q5.1) (M' := q5.2) rfl (Nat.le_of_ble_eq_true rfl) (s_C_withoutFinding a3 m3 _ h4) ?_
          obtain rfl := Option.some.inj h
          exact wg_re rfl trivial ⟨rfl, rfl⟩
        · rw [if_neg hc] at h
          refine wg_blk 2 (i' := 17) (L' := [some (.inr (.inl (0, 0))), some (.inl a1), some (.inl a2), some (.inl a3)]) (st' := [.inl (4 : Int32), .inr (.inl (0, 0))]) (M' := M) rfl ?_
          obtain ⟨q7, h6, h⟩ := wbs h
          refine wg_ca (d' := 1) (y := 37) (as := [.inr (.inl (0, 0)), .inl (4 : Int32)]) (rest := []) (r := some q7.1) (M' := q7.2) rfl (Nat.le_of_ble_eq_true rfl) (s_C_found (4 : Int32) M _ h6) ?_
          obtain rfl := Option.some.inj h
          exact wg_re rfl trivial ⟨rfl, rfl⟩
      · rw [if_neg hc] at h
        refine wg_blk 1 (i' := 12) (L' := [some (.inr (.inl (0, 0))), some (.inl a1), some (.inl a2), some (.inl a3)]) (st' := [.inl (-1000001 : Int32)]) (M' := M) rfl ?_
        obtain rfl := Option.some.inj h
        exact wg_re rfl trivial ⟨rfl, rfl⟩
set_option maxRecDepth 20000 in
theorem s_M_in (a0 : Int64) (a1 : Int64) (a2 : Int64) (M : wc_M) (z : Int32) (h : f_M_in a0 a1 a2 = z) : wc_Sd 1 87 [.inr (.inr a0), .inr (.inr a1), .inr (.inr a2)] M (some z) M := by
  unfold f_M_in at h
  refine wg_Sd (Nat.le_of_ble_eq_true rfl) ?_
  show wg 0 wx0 (some .boolean) wk_87 0 [some (.inr (.inr a0)), none, some (.inr (.inr a1)), none, some (.inr (.inr a2)), none] [] M _
  refine wg_blk 3 (i' := 3) (L' := [some (.inr (.inr a0)), none, some (.inr (.inr a1)), none, some (.inr (.inr a2)), none]) (st' := [.inl (lg_cmp a0 a1)]) (M' := M) rfl ?_
  refine wg_br (c := (lg_cmp a0 a1) < (0 : Int32)) (t := 10) (f := 4) (st' := []) rfl (fun hc => ?_) (fun hc => ?_)
  · rw [if_pos hc] at h
    refine wg_blk 1 (i' := 11) (L' := [some (.inr (.inr a0)), none, some (.inr (.inr a1)), none, some (.inr (.inr a2)), none]) (st' := [.inl (0 : Int32)]) (M' := M) rfl ?_
    subst h
    exact wg_re rfl (by decide) ⟨rfl, rfl⟩
  · rw [if_neg hc] at h
    refine wg_blk 3 (i' := 7) (L' := [some (.inr (.inr a0)), none, some (.inr (.inr a1)), none, some (.inr (.inr a2)), none]) (st' := [.inl (lg_cmp a0 a2)]) (M' := M) rfl ?_
    refine wg_br (c := (0 : Int32) < (lg_cmp a0 a2)) (t := 10) (f := 8) (st' := []) rfl (fun hc => ?_) (fun hc => ?_)
    · rw [if_pos hc] at h
      refine wg_blk 1 (i' := 11) (L' := [some (.inr (.inr a0)), none, some (.inr (.inr a1)), none, some (.inr (.inr a2)), none]) (st' := [.inl (0 : Int32)]) (M' := M) rfl ?_
      subst h
      exact wg_re rfl (by decide) ⟨rfl, rfl⟩
    · rw [if_neg hc] at h
      refine wg_blk 2 (i' := 11) (L' := [some (.inr (.inr a0)), none, some (.inr (.inr a1)), none, some (.inr (.inr a2)), none]) (st' := [.inl (1 : Int32)]) (M' := M) rfl ?_
      subst h
      exact wg_re rfl (by decide) ⟨rfl, rfl⟩
set_option maxRecDepth 20000 in
theorem s_M_isRow (a0 : Int32) (M : wc_M) (z : Int32) (h : f_M_isRow a0 = z) : wc_Sd 2 91 [.inl a0] M (some z) M := by
  unfold f_M_isRow at h
  refine wg_Sd (Nat.le_of_ble_eq_true rfl) ?_
  show wg 1 wx0 (some .boolean) wk_91 0 [some (.inl a0)] [] M _
  refine wg_blk 4 (i' := 4) (L' := [some (.inl a0)]) (st' := [.inr (.inr (7 : Int64)), .inr (.inr (0 : Int64)), .inr (.inr (a0).toInt64)]) (M' := M) rfl ?_
  refine wg_ca (d' := 1) (y := 87) (as := [.inr (.inr (a0).toInt64), .inr (.inr (0 : Int64)), .inr (.inr (7 : Int64))]) (rest := []) (r := some (f_M_in (a0).toInt64 (0 : Int64) (7 : Int64))) (M' := M) rfl (Nat.le_of_ble_eq_true rfl) (s_M_in (a0).toInt64 (0 : Int64) (7 : Int64) M _ rfl) ?_
  subst h
  exact wg_re rfl (b_M_in ..) ⟨rfl, rfl⟩
set_option maxRecDepth 20000 in
theorem s_M_well (a1 : Int32) (M : wc_M) (z : Int32 × wc_M) (h : f_M_well a1 M = some z) : wc_Sd 1 90 [.inr (.inl (21, 0)), .inl a1] M (some z.1) z.2 := by
  unfold f_M_well at h
  refine wg_Sd (Nat.le_of_ble_eq_true rfl) ?_
  show wg 0 wx0 (some .int) wk_90 0 [some (.inr (.inl (21, 0))), some (.inl a1)] [] M _
  refine wg_blk 4 (i' := 4) (L' := [some (.inr (.inl (21, 0))), some (.inl a1)]) (st' := [.inl a1]) (M' := (wc_up M 21 0 3 (0 : Int32))) rfl ?_
  obtain rfl := Option.some.inj h
  exact wg_re rfl trivial ⟨rfl, rfl⟩
set_option maxRecDepth 20000 in
theorem s_M_find (a1 : Int32) (M : wc_M) (z : Int32 × wc_M) (h : f_M_find a1 M = some z) : wc_Sd 1 89 [.inr (.inl (21, 0)), .inl a1] M (some z.1) z.2 := by
  unfold f_M_find at h
  refine wg_Sd (Nat.le_of_ble_eq_true rfl) ?_
  show wg 0 wx0 (some .int) wk_89 0 [some (.inr (.inl (21, 0))), some (.inl a1)] [] M _
  refine wg_blk 6 (i' := 6) (L' := [some (.inr (.inl (21, 0))), some (.inl a1)]) (st' := [.inl ((-1000010 : Int32) - a1)]) (M' := (wc_up M 21 0 3 a1)) rfl ?_
  obtain rfl := Option.some.inj h
  exact wg_re rfl trivial ⟨rfl, rfl⟩
set_option maxRecDepth 20000 in
theorem l_M_row_32_ok (x1 : Int32) (x3 : Int32) {K : Option Int32 → wc_M → Prop} : ∀ (n : Nat) (x4 : Int32) (M : wc_M) (o : wc_M), l_M_row_32 x1 x3 n x4 M = some o → wg 2 wx0 (some .int) wk_92 46 [some (.inr (.inl (21, 0))), none, none, some (.inl x3), none] [] o K → wg 2 wx0 (some .int) wk_92 32 [some (.inr (.inl (21, 0))), some (.inl x1), none, some (.inl x3), some (.inl x4)] [] M K := by
  intro n
  induction n with
  | zero =>
    intro x4 M o h hk
    exact nomatch (show (none : Option (wc_M)) = some o from h)
  | succ n ih =>
    intro x4 M o h hk
    unfold l_M_row_32 at h
    refine wg_blk 2 (i' := 34) (L' := [some (.inr (.inl (21, 0))), some (.inl x1), none, some (.inl x3), some (.inl x4)]) (st' := [.inl (40 : Int32), .inl x4]) (M' := M) rfl ?_
    refine wg_br (c := (40 : Int32) ≤ x4) (t := 46) (f := 35) (st' := []) rfl (fun hc => ?_) (fun hc => ?_)
    · rw [if_pos hc] at h
      obtain rfl := Option.some.inj h
      exact wg_wk (wk_s (wk_n (wk_n (wk_s (wk_n wk_e))))) rfl hk
    · rw [if_neg hc] at h
      refine wg_blk 8 (i' := 43) (L' := [some (.inr (.inl (21, 0))), some (.inl x1), none, some (.inl x3), some (.inl x4)]) (st' := [.inl (0 : Int32), .inl (((40 : Int32) * x1) + x4), .inr (.inl (24, 0))]) (M' := M) rfl ?_
      obtain ⟨hp2, h⟩ := wif h
      refine wg_ck (st' := []) (M' := (wc_up M 24 0 ((((40 : Int32) * x1) + x4)).toNatClampNeg (0 : Int32))) rfl (wib_in hp2) ?_
      refine wg_blk 2 (i' := 32) (L' := [some (.inr (.inl (21, 0))), some (.inl x1), none, some (.inl x3), some (.inl (x4 + (1 : Int32)))]) (st' := []) (M' := (wc_up M 24 0 ((((40 : Int32) * x1) + x4)).toNatClampNeg (0 : Int32))) rfl ?_
      exact wg_wk (wk_s (wk_s (wk_n (wk_s (wk_s wk_e))))) rfl (ih (x4 + (1 : Int32)) (wc_up M 24 0 ((((40 : Int32) * x1) + x4)).toNatClampNeg (0 : Int32)) _ h hk)
set_option maxRecDepth 20000 in
theorem s_M_row (a1 : Int32) (a2 : Int32) (a3 : Int32) (M : wc_M) (z : Int32 × wc_M) (h : f_M_row a1 a2 a3 M = some z) : wc_Sd 3 92 [.inr (.inl (21, 0)), .inl a1, .inl a2, .inl a3] M (some z.1) z.2 := by
  unfold f_M_row at h
  refine wg_Sd (Nat.le_of_ble_eq_true rfl) ?_
  show wg 2 wx0 (some .int) wk_92 0 [some (.inr (.inl (21, 0))), some (.inl a1), some (.inl a2), some (.inl a3), none] [] M _
  refine wg_blk 1 (i' := 1) (L' := [some (.inr (.inl (21, 0))), some (.inl a1), some (.inl a2), some (.inl a3), none]) (st' := [.inl a1]) (M' := M) rfl ?_
  refine wg_ca (d' := 2) (y := 91) (as := [.inl a1]) (rest := []) (r := some (f_M_isRow a1)) (M' := M) rfl (Nat.le_of_ble_eq_true rfl) (s_M_isRow a1 M _ rfl) ?_
  refine wg_br (c := (f_M_isRow a1) = (0 : Int32)) (t := 12) (f := 3) (st' := []) rfl (fun hc => ?_) (fun hc => ?_)
  · rw [if_pos hc] at h
    refine wg_blk 1 (i' := 13) (L' := [some (.inr (.inl (21, 0))), some (.inl a1), some (.inl a2), some (.inl a3), none]) (st' := [.inl (-1000001 : Int32)]) (M' := M) rfl ?_
    obtain rfl := Option.some.inj h
    exact wg_re rfl trivial ⟨rfl, rfl⟩
  · rw [if_neg hc] at h
    refine wg_blk 4 (i' := 7) (L' := [some (.inr (.inl (21, 0))), some (.inl a1), some (.inl a2), some (.inl a3), none]) (st' := [.inr (.inr (2 : Int64)), .inr (.inr (0 : Int64)), .inr (.inr (a2).toInt64)]) (M' := M) rfl ?_
    refine wg_ca (d' := 1) (y := 87) (as := [.inr (.inr (a2).toInt64), .inr (.inr (0 : Int64)), .inr (.inr (2 : Int64))]) (rest := []) (r := some (f_M_in (a2).toInt64 (0 : Int64) (2 : Int64))) (M' := M) rfl (Nat.le_of_ble_eq_true rfl) (s_M_in (a2).toInt64 (0 : Int64) (2 : Int64) M _ rfl) ?_
    refine wg_br (c := (f_M_in (a2).toInt64 (0 : Int64) (2 : Int64)) = (0 : Int32)) (t := 12) (f := 9) (st' := []) rfl (fun hc => ?_) (fun hc => ?_)
    · rw [if_pos hc] at h
      refine wg_blk 1 (i' := 13) (L' := [some (.inr (.inl (21, 0))), some (.inl a1), some (.inl a2), some (.inl a3), none]) (st' := [.inl (-1000001 : Int32)]) (M' := M) rfl ?_
      obtain rfl := Option.some.inj h
      exact wg_re rfl trivial ⟨rfl, rfl⟩
    · rw [if_neg hc] at h
      refine wg_blk 2 (i' := 11) (L' := [some (.inr (.inl (21, 0))), some (.inl a1), some (.inl a2), some (.inl a3), none]) (st' := [.inl (40 : Int32), .inl a3]) (M' := M) rfl ?_
      refine wg_br (c := a3 ≤ (40 : Int32)) (t := 14) (f := 12) (st' := []) rfl (fun hc => ?_) (fun hc => ?_)
      · rw [if_pos hc] at h
        refine wg_blk 1 (i' := 15) (L' := [some (.inr (.inl (21, 0))), some (.inl a1), some (.inl a2), some (.inl a3), none]) (st' := [.inl a3]) (M' := M) rfl ?_
        refine wg_br (c := (0 : Int32) ≤ a3) (t := 20) (f := 16) (st' := []) rfl (fun hc => ?_) (fun hc => ?_)
        · rw [if_pos hc] at h
          refine wg_blk 4 (i' := 24) (L' := [some (.inr (.inl (21, 0))), some (.inl a1), some (.inl a2), some (.inl a3), none]) (st' := [.inl a2, .inl a1, .inr (.inl (22, 0))]) (M' := M) rfl ?_
          obtain ⟨hp1, h⟩ := wif h
          refine wg_ck (st' := []) (M' := (wc_up M 22 0 (a1).toNatClampNeg a2)) rfl (wib_in hp1) ?_
          refine wg_blk 4 (i' := 29) (L' := [some (.inr (.inl (21, 0))), some (.inl a1), some (.inl a2), some (.inl a3), none]) (st' := [.inl a3, .inl a1, .inr (.inl (23, 0))]) (M' := (wc_up M 22 0 (a1).toNatClampNeg a2)) rfl ?_
          refine wg_ck (st' := []) (M' := (wc_up (wc_up M 22 0 (a1).toNatClampNeg a2) 23 0 (a1).toNatClampNeg a3)) rfl (wib_in hp1) ?_
          refine wg_blk 2 (i' := 32) (L' := [some (.inr (.inl (21, 0))), some (.inl a1), some (.inl a2), some (.inl a3), some (.inl (0 : Int32))]) (st' := []) (M' := (wc_up (wc_up M 22 0 (a1).toNatClampNeg a2) 23 0 (a1).toNatClampNeg a3)) rfl ?_
          obtain ⟨t3, h4, h⟩ := wbs h
          refine wg_wk (wk_s (wk_s (wk_n (wk_s (wk_s wk_e))))) rfl (l_M_row_32_ok a1 a3 2000 (0 : Int32) (wc_up (wc_up M 22 0 (a1).toNatClampNeg a2) 23 0 (a1).toNatClampNeg a3) _ h4 ?_)
          refine wg_blk 2 (i' := 48) (L' := [some (.inr (.inl (21, 0))), none, none, some (.inl a3), none]) (st' := [.inl a3, .inr (.inl (21, 0))]) (M' := t3) rfl ?_
          obtain ⟨q6, h5, h⟩ := wbs h
          refine wg_ca (d' := 1) (y := 90) (as := [.inr (.inl (21, 0)), .inl a3]) (rest := []) (r := some q6.1) (M' := q6.2) rfl (Nat.le_of_ble_eq_true rfl) (s_M_well a3 t3 _ h5) ?_
          obtain rfl := Option.some.inj h
          exact wg_re rfl trivial ⟨rfl, rfl⟩
        · rw [if_neg hc] at h
          refine wg_blk 2 (i' := 18) (L' := [some (.inr (.inl (21, 0))), some (.inl a1), some (.inl a2), some (.inl a3), none]) (st' := [.inl (4 : Int32), .inr (.inl (21, 0))]) (M' := M) rfl ?_
          obtain ⟨q8, h7, h⟩ := wbs h
          refine wg_ca (d' := 1) (y := 89) (as := [.inr (.inl (21, 0)), .inl (4 : Int32)]) (rest := []) (r := some q8.1) (M' := q8.2) rfl (Nat.le_of_ble_eq_true rfl) (s_M_find (4 : Int32) M _ h7) ?_
          obtain rfl := Option.some.inj h
          exact wg_re rfl trivial ⟨rfl, rfl⟩
      · rw [if_neg hc] at h
        refine wg_blk 1 (i' := 13) (L' := [some (.inr (.inl (21, 0))), some (.inl a1), some (.inl a2), some (.inl a3), none]) (st' := [.inl (-1000001 : Int32)]) (M' := M) rfl ?_
        obtain rfl := Option.some.inj h
        exact wg_re rfl trivial ⟨rfl, rfl⟩
set_option maxRecDepth 20000 in
theorem s_R_has (p0 : Nat) (a1 : Int32) (a2 : Int32) (M : wc_M) (z : Int32) (h : f_R_has p0 a1 a2 M = z) : wc_Sd 1 53 [.inr (.inl (2, p0)), .inl a1, .inl a2] M (some z) M := by
  unfold f_R_has at h
  refine wg_Sd (Nat.le_of_ble_eq_true rfl) ?_
  show wg 0 wx0 (some .boolean) wk_53 0 [some (.inr (.inl (2, p0))), some (.inl a1), some (.inl a2)] [] M _
  refine wg_blk 1 (i' := 1) (L' := [some (.inr (.inl (2, p0))), some (.inl a1), some (.inl a2)]) (st' := [.inl a1]) (M' := M) rfl ?_
  refine wg_br (c := a1 < (0 : Int32)) (t := 12) (f := 2) (st' := []) rfl (fun hc => ?_) (fun hc => ?_)
  · rw [if_pos hc] at h
    refine wg_blk 1 (i' := 13) (L' := [some (.inr (.inl (2, p0))), some (.inl a1), some (.inl a2)]) (st' := [.inl (0 : Int32)]) (M' := M) rfl ?_
    subst h
    exact wg_re rfl (by decide) ⟨rfl, rfl⟩
  · rw [if_neg hc] at h
    refine wg_blk 1 (i' := 3) (L' := [some (.inr (.inl (2, p0))), some (.inl a1), some (.inl a2)]) (st' := [.inl a2]) (M' := M) rfl ?_
    refine wg_br (c := a2 < (0 : Int32)) (t := 12) (f := 4) (st' := []) rfl (fun hc => ?_) (fun hc => ?_)
    · rw [if_pos hc] at h
      refine wg_blk 1 (i' := 13) (L' := [some (.inr (.inl (2, p0))), some (.inl a1), some (.inl a2)]) (st' := [.inl (0 : Int32)]) (M' := M) rfl ?_
      subst h
      exact wg_re rfl (by decide) ⟨rfl, rfl⟩
    · rw [if_neg hc] at h
      refine wg_blk 5 (i' := 9) (L' := [some (.inr (.inl (2, p0))), some (.inl a1), some (.inl a2)]) (st' := [.inl ((M 2 p0 3) - a2), .inl a1]) (M' := M) rfl ?_
      refine wg_br (c := ((M 2 p0 3) - a2) < a1) (t := 12) (f := 10) (st' := []) rfl (fun hc => ?_) (fun hc => ?_)
      · rw [if_pos hc] at h
        refine wg_blk 1 (i' := 13) (L' := [some (.inr (.inl (2, p0))), some (.inl a1), some (.inl a2)]) (st' := [.inl (0 : Int32)]) (M' := M) rfl ?_
        subst h
        exact wg_re rfl (by decide) ⟨rfl, rfl⟩
      · rw [if_neg hc] at h
        refine wg_blk 2 (i' := 13) (L' := [some (.inr (.inl (2, p0))), some (.inl a1), some (.inl a2)]) (st' := [.inl (1 : Int32)]) (M' := M) rfl ?_
        subst h
        exact wg_re rfl (by decide) ⟨rfl, rfl⟩
set_option maxRecDepth 20000 in
theorem s_C_findingIn (a1 : Int32) (a2 : Int32) (a3 : Int32) (M : wc_M) (z : Int32) (h : f_C_findingIn a1 a2 a3 M = some z) : wc_Sd 2 39 [.inr (.inl (0, 0)), .inl a1, .inl a2, .inl a3] M (some z) M := by
  unfold f_C_findingIn at h
  refine wg_Sd (Nat.le_of_ble_eq_true rfl) ?_
  show wg 1 wx0 (some .int) wk_39 0 [some (.inr (.inl (0, 0))), some (.inl a1), some (.inl a2), some (.inl a3)] [] M _
  refine wg_blk 3 (i' := 3) (L' := [some (.inr (.inl (0, 0))), some (.inl a1), some (.inl a2), some (.inl a3)]) (st' := [.inl a1, .inr (.inl (1, 0))]) (M' := M) rfl ?_
  obtain ⟨hp1, h⟩ := wif h
  refine wg_ck (st' := [.inr (.inl (2, (a1).toNatClampNeg))]) (M' := M) rfl (wib_in hp1) ?_
  refine wg_blk 1 (i' := 5) (L' := [some (.inr (.inl (0, 0))), some (.inl a1), some (.inl a2), some (.inl a3)]) (st' := [.inl (M 2 (a1).toNatClampNeg 1)]) (M' := M) rfl ?_
  refine wg_br (c := (M 2 (a1).toNatClampNeg 1) = (0 : Int32)) (t := 6) (f := 8) (st' := []) rfl (fun hc => ?_) (fun hc => ?_)
  · rw [if_pos hc] at h
    refine wg_blk 1 (i' := 7) (L' := [some (.inr (.inl (0, 0))), some (.inl a1), some (.inl a2), some (.inl a3)]) (st' := [.inl (1 : Int32)]) (M' := M) rfl ?_
    obtain rfl := Option.some.inj h
    exact wg_re rfl trivial ⟨rfl, rfl⟩
  · rw [if_neg hc] at h
    refine wg_blk 3 (i' := 11) (L' := [some (.inr (.inl (0, 0))), some (.inl a1), some (.inl a2), some (.inl a3)]) (st' := [.inl a1, .inr (.inl (1, 0))]) (M' := M) rfl ?_
    refine wg_ck (st' := [.inr (.inl (2, (a1).toNatClampNeg))]) (M' := M) rfl (wib_in hp1) ?_
    refine wg_blk 2 (i' := 14) (L' := [some (.inr (.inl (0, 0))), some (.inl a1), some (.inl a2), some (.inl a3)]) (st' := [.inl a3, .inl a2, .inr (.inl (2, (a1).toNatClampNeg))]) (M' := M) rfl ?_
    refine wg_ca (d' := 1) (y := 53) (as := [.inr (.inl (2, (a1).toNatClampNeg)), .inl a2, .inl a3]) (rest := []) (r := some (f_R_has (a1).toNatClampNeg a2 a3 M)) (M' := M) rfl (Nat.le_of_ble_eq_true rfl) (s_R_has (a1).toNatClampNeg a2 a3 M _ rfl) ?_
    refine wg_br (c := (f_R_has (a1).toNatClampNeg a2 a3 M) = (0 : Int32)) (t := 18) (f := 16) (st' := []) rfl (fun hc => ?_) (fun hc => ?_)
    · rw [if_pos hc] at h
      refine wg_blk 1 (i' := 19) (L' := [some (.inr (.inl (0, 0))), some (.inl a1), some (.inl a2), some (.inl a3)]) (st' := [.inl (2 : Int32)]) (M' := M) rfl ?_
      obtain rfl := Option.some.inj h
      exact wg_re rfl trivial ⟨rfl, rfl⟩
    · rw [if_neg hc] at h
      refine wg_blk 2 (i' := 19) (L' := [some (.inr (.inl (0, 0))), some (.inl a1), some (.inl a2), some (.inl a3)]) (st' := [.inl (0 : Int32)]) (M' := M) rfl ?_
      obtain rfl := Option.some.inj h
      exact wg_re rfl trivial ⟨rfl, rfl⟩
set_option maxRecDepth 20000 in
theorem s_R_lowestBits (p0 : Nat) (a1 : Int32) (M : wc_M) (z : Int32) (h : f_R_lowestBits p0 a1 M = z) : wc_Sd 1 54 [.inr (.inl (2, p0)), .inl a1] M (some z) M := by
  unfold f_R_lowestBits at h
  refine wg_Sd (Nat.le_of_ble_eq_true rfl) ?_
  show wg 0 wx0 (some .int) wk_54 0 [some (.inr (.inl (2, p0))), some (.inl a1)] [] M _
  refine wg_blk 2 (i' := 2) (L' := [some (.inr (.inl (2, p0))), some (.inl a1)]) (st' := [.inl (M 2 p0 2)]) (M' := M) rfl ?_
  refine wg_br (c := (M 2 p0 2) = (0 : Int32)) (t := 3) (f := 6) (st' := []) rfl (fun hc => ?_) (fun hc => ?_)
  · rw [if_pos hc] at h
    refine wg_blk 2 (i' := 5) (L' := [some (.inr (.inl (2, p0))), some (.inl a1)]) (st' := [.inl (a1).toInt8.toInt32]) (M' := M) rfl ?_
    subst h
    exact wg_re rfl trivial ⟨rfl, rfl⟩
  · rw [if_neg hc] at h
    refine wg_blk 3 (i' := 9) (L' := [some (.inr (.inl (2, p0))), some (.inl a1)]) (st' := [.inl (1 : Int32), .inl (M 2 p0 2)]) (M' := M) rfl ?_
    refine wg_br (c := (M 2 p0 2) = (1 : Int32)) (t := 10) (f := 13) (st' := []) rfl (fun hc => ?_) (fun hc => ?_)
    · rw [if_pos hc] at h
      refine wg_blk 3 (i' := 14) (L' := [some (.inr (.inl (2, p0))), some (.inl a1)]) (st' := [.inl (a1).toInt16.toInt32]) (M' := M) rfl ?_
      subst h
      exact wg_re rfl trivial ⟨rfl, rfl⟩
    · rw [if_neg hc] at h
      refine wg_blk 1 (i' := 14) (L' := [some (.inr (.inl (2, p0))), some (.inl a1)]) (st' := [.inl a1]) (M' := M) rfl ?_
      subst h
      exact wg_re rfl trivial ⟨rfl, rfl⟩
set_option maxRecDepth 20000 in
theorem s_C_set (a1 : Int32) (a2 : Int32) (a3 : Int32) (M : wc_M) (z : Int32 × wc_M) (h : f_C_set a1 a2 a3 M = some z) : wc_Sd 3 1 [.inr (.inl (0, 0)), .inl a1, .inl a2, .inl a3] M (some z.1) z.2 := by
  unfold f_C_set at h
  refine wg_Sd (Nat.le_of_ble_eq_true rfl) ?_
  show wg 2 wx0 (some .int) wk_1 0 [some (.inr (.inl (0, 0))), some (.inl a1), some (.inl a2), some (.inl a3), none, none] [] M _
  refine wg_blk 2 (i' := 2) (L' := [some (.inr (.inl (0, 0))), some (.inl a1), some (.inl a2), some (.inl a3), none, none]) (st' := [.inl (7 : Int32), .inl a1]) (M' := M) rfl ?_
  refine wg_ca (d' := 1) (y := 32) (as := [.inl a1, .inl (7 : Int32)]) (rest := []) (r := some (f_C_isUpTo a1 (7 : Int32))) (M' := M) rfl (Nat.le_of_ble_eq_true rfl) (s_C_isUpTo a1 (7 : Int32) M _ rfl) ?_
  refine wg_br (c := (f_C_isUpTo a1 (7 : Int32)) = (0 : Int32)) (t := 4) (f := 6) (st' := []) rfl (fun hc => ?_) (fun hc => ?_)
  · rw [if_pos hc] at h
    refine wg_blk 1 (i' := 5) (L' := [some (.inr (.inl (0, 0))), some (.inl a1), some (.inl a2), some (.inl a3), none, none]) (st' := [.inl (-1000001 : Int32)]) (M' := M) rfl ?_
    obtain rfl := Option.some.inj h
    exact wg_re rfl trivial ⟨rfl, rfl⟩
  · rw [if_neg hc] at h
    refine wg_blk 4 (i' := 10) (L' := [some (.inr (.inl (0, 0))), some (.inl a1), some (.inl a2), some (.inl a3), none, none]) (st' := [.inl (1 : Int32), .inl a2, .inl a1, .inr (.inl (0, 0))]) (M' := M) rfl ?_
    obtain ⟨v2, h1, h⟩ := wbs h
    refine wg_ca (d' := 2) (y := 39) (as := [.inr (.inl (0, 0)), .inl a1, .inl a2, .inl (1 : Int32)]) (rest := []) (r := some v2) (M' := M) rfl (Nat.le_of_ble_eq_true rfl) (s_C_findingIn a1 a2 (1 : Int32) M _ h1) ?_
    refine wg_blk 2 (i' := 13) (L' := [some (.inr (.inl (0, 0))), some (.inl a1), some (.inl a2), some (.inl a3), some (.inl v2), none]) (st' := [.inl v2]) (M' := M) rfl ?_
    refine wg_br (c := v2 = (0 : Int32)) (t := 18) (f := 14) (st' := []) rfl (fun hc => ?_) (fun hc => ?_)
    · rw [if_pos hc] at h
      refine wg_blk 3 (i' := 21) (L' := [some (.inr (.inl (0, 0))), some (.inl a1), some (.inl a2), some (.inl a3), some (.inl v2), none]) (st' := [.inl a1, .inr (.inl (1, 0))]) (M' := M) rfl ?_
      obtain ⟨hp3, h⟩ := wif h
      refine wg_ck (st' := [.inr (.inl (2, (a1).toNatClampNeg))]) (M' := M) rfl (wib_in hp3) ?_
      refine wg_blk 1 (i' := 23) (L' := [some (.inr (.inl (0, 0))), some (.inl a1), some (.inl a2), some (.inl a3), some (.inl v2), none]) (st' := [.inl a3, .inr (.inl (2, (a1).toNatClampNeg))]) (M' := M) rfl ?_
      refine wg_ca (d' := 1) (y := 54) (as := [.inr (.inl (2, (a1).toNatClampNeg)), .inl a3]) (rest := []) (r := some (f_R_lowestBits (a1).toNatClampNeg a3 M)) (M' := M) rfl (Nat.le_of_ble_eq_true rfl) (s_R_lowestBits (a1).toNatClampNeg a3 M _ rfl) ?_
      refine wg_blk 4 (i' := 28) (L' := [some (.inr (.inl (0, 0))), some (.inl a1), some (.inl a2), some (.inl a3), some (.inl v2), some (.inl (f_R_lowestBits (a1).toNatClampNeg a3 M))]) (st' := [.inl a1, .inr (.inl (1, 0))]) (M' := M) rfl ?_
      refine wg_ck (st' := [.inr (.inl (2, (a1).toNatClampNeg))]) (M' := M) rfl (wib_in hp3) ?_
      refine wg_blk 3 (i' := 32) (L' := [some (.inr (.inl (0, 0))), some (.inl a1), some (.inl a2), some (.inl a3), some (.inl v2), some (.inl (f_R_lowestBits (a1).toNatClampNeg a3 M))]) (st' := [.inl (f_R_lowestBits (a1).toNatClampNeg a3 M), .inl a2, .inr (.inl (3, (a1).toNatClampNeg))]) (M' := M) rfl ?_
      obtain ⟨hp4, h⟩ := wif h
      refine wg_ck (st' := []) (M' := (wc_up M 3 (a1).toNatClampNeg (a2).toNatClampNeg (f_R_lowestBits (a1).toNatClampNeg a3 M))) rfl (wib_in hp4) ?_
      refine wg_blk 2 (i' := 35) (L' := [some (.inr (.inl (0, 0))), some (.inl a1), some (.inl a2), some (.inl a3), some (.inl v2), some (.inl (f_R_lowestBits (a1).toNatClampNeg a3 M))]) (st' := [.inl (f_R_lowestBits (a1).toNatClampNeg a3 M), .inr (.inl (0, 0))]) (M' := (wc_up M 3 (a1).toNatClampNeg (a2).toNatClampNeg (f_R_lowestBits (a1).toNatClampNeg a3 M))) rfl ?_
      obtain ⟨q6, h5, h⟩ := wbs h
      refine wg_ca (d' := 1) (y := 38) (as := [.inr (.inl (0, 0)), .inl (f_R_lowestBits (a1).toNatClampNeg a3 M)]) (rest := []) (r := some q6.1) (M' := q6.2) rfl (Nat.le_of_ble_eq_true rfl) (s_C_withoutFinding (f_R_lowestBits (a1).toNatClampNeg a3 M) (wc_up M 3 (a1).toNatClampNeg (a2).toNatClampNeg (f_R_lowestBits (a1).toNatClampNeg a3 M)) _ h5) ?_
      obtain rfl := Option.some.inj h
      exact wg_re rfl trivial ⟨rfl, rfl⟩
    · rw [if_neg hc] at h
      refine wg_blk 2 (i' := 16) (L' := [some (.inr (.inl (0, 0))), some (.inl a1), some (.inl a2), some (.inl a3), some (.inl v2), none]) (st' := [.inl v2, .inr (.inl (0, 0))]) (M' := M) rfl ?_
      obtain ⟨q8, h7, h⟩ := wbs h
      refine wg_ca (d' := 1) (y := 37) (as := [.inr (.inl (0, 0)), .inl v2]) (rest := []) (r := some q8.1) (M' := q8.2) rfl (Nat.le_of_ble_eq_true rfl) (s_C_found v2 M _ h7) ?_
      obtain rfl := Option.some.inj h
      exact wg_re rfl trivial ⟨rfl, rfl⟩
set_option maxRecDepth 20000 in
theorem s_M_asLane (a0 : Int32) (a1 : Int32) (M : wc_M) (z : Int32) (h : f_M_asLane a0 a1 = z) : wc_Sd 1 93 [.inl a0, .inl a1] M (some z) M := by
  unfold f_M_asLane at h
  refine wg_Sd (Nat.le_of_ble_eq_true rfl) ?_
  show wg 0 wx0 (some .int) wk_93 0 [some (.inl a0), some (.inl a1)] [] M _
  refine wg_blk 1 (i' := 1) (L' := [some (.inl a0), some (.inl a1)]) (st' := [.inl a0]) (M' := M) rfl ?_
  refine wg_br (c := a0 = (0 : Int32)) (t := 2) (f := 8) (st' := []) rfl (fun hc => ?_) (fun hc => ?_)
  · rw [if_pos hc] at h
    refine wg_blk 6 (i' := 18) (L' := [some (.inl a0), some (.inl a1)]) (st' := [.inl ((a1 <<< ((24 : Int32) &&& (31 : Int32))) >>> ((24 : Int32) &&& (31 : Int32)))]) (M' := M) rfl ?_
    subst h
    exact wg_re rfl trivial ⟨rfl, rfl⟩
  · rw [if_neg hc] at h
    refine wg_blk 2 (i' := 10) (L' := [some (.inl a0), some (.inl a1)]) (st' := [.inl (1 : Int32), .inl a0]) (M' := M) rfl ?_
    refine wg_br (c := a0 = (1 : Int32)) (t := 11) (f := 17) (st' := []) rfl (fun hc => ?_) (fun hc => ?_)
    · rw [if_pos hc] at h
      refine wg_blk 6 (i' := 18) (L' := [some (.inl a0), some (.inl a1)]) (st' := [.inl ((a1 <<< ((16 : Int32) &&& (31 : Int32))) >>> ((16 : Int32) &&& (31 : Int32)))]) (M' := M) rfl ?_
      subst h
      exact wg_re rfl trivial ⟨rfl, rfl⟩
    · rw [if_neg hc] at h
      refine wg_blk 1 (i' := 18) (L' := [some (.inl a0), some (.inl a1)]) (st' := [.inl a1]) (M' := M) rfl ?_
      subst h
      exact wg_re rfl trivial ⟨rfl, rfl⟩
set_option maxRecDepth 20000 in
theorem s_M_set (a1 : Int32) (a2 : Int32) (a3 : Int32) (M : wc_M) (z : Int32 × wc_M) (h : f_M_set a1 a2 a3 M = some z) : wc_Sd 3 94 [.inr (.inl (21, 0)), .inl a1, .inl a2, .inl a3] M (some z.1) z.2 := by
  unfold f_M_set at h
  refine wg_Sd (Nat.le_of_ble_eq_true rfl) ?_
  show wg 2 wx0 (some .int) wk_94 0 [some (.inr (.inl (21, 0))), some (.inl a1), some (.inl a2), some (.inl a3)] [] M _
  refine wg_blk 1 (i' := 1) (L' := [some (.inr (.inl (21, 0))), some (.inl a1), some (.inl a2), some (.inl a3)]) (st' := [.inl a1]) (M' := M) rfl ?_
  refine wg_ca (d' := 2) (y := 91) (as := [.inl a1]) (rest := []) (r := some (f_M_isRow a1)) (M' := M) rfl (Nat.le_of_ble_eq_true rfl) (s_M_isRow a1 M _ rfl) ?_
  refine wg_br (c := (f_M_isRow a1) = (0 : Int32)) (t := 3) (f := 5) (st' := []) rfl (fun hc => ?_) (fun hc => ?_)
  · rw [if_pos hc] at h
    refine wg_blk 1 (i' := 4) (L' := [some (.inr (.inl (21, 0))), some (.inl a1), some (.inl a2), some (.inl a3)]) (st' := [.inl (-1000001 : Int32)]) (M' := M) rfl ?_
    obtain rfl := Option.some.inj h
    exact wg_re rfl trivial ⟨rfl, rfl⟩
  · rw [if_neg hc] at h
    refine wg_blk 3 (i' := 8) (L' := [some (.inr (.inl (21, 0))), some (.inl a1), some (.inl a2), some (.inl a3)]) (st' := [.inl a1, .inr (.inl (23, 0))]) (M' := M) rfl ?_
    obtain ⟨hp1, h⟩ := wif h
    refine wg_ck (st' := [.inl (M 23 0 (a1).toNatClampNeg)]) (M' := M) rfl (wib_in hp1) ?_
    refine wg_br (c := (0 : Int32) ≤ (M 23 0 (a1).toNatClampNeg)) (t := 14) (f := 10) (st' := []) rfl (fun hc => ?_) (fun hc => ?_)
    · rw [if_pos hc] at h
      refine wg_blk 6 (i' := 20) (L' := [some (.inr (.inl (21, 0))), some (.inl a1), some (.inl a2), some (.inl a3)]) (st' := [.inl a1, .inr (.inl (23, 0)), .inr (.inr (0 : Int64)), .inr (.inr (a2).toInt64)]) (M' := M) rfl ?_
      refine wg_ck (st' := [.inl (M 23 0 (a1).toNatClampNeg), .inr (.inr (0 : Int64)), .inr (.inr (a2).toInt64)]) (M' := M) rfl (wib_in hp1) ?_
      refine wg_blk 3 (i' := 24) (L' := [some (.inr (.inl (21, 0))), some (.inl a1), some (.inl a2), some (.inl a3)]) (st' := [.inr (.inr (((M 23 0 (a1).toNatClampNeg) - (1 : Int32))).toInt64), .inr (.inr (0 : Int64)), .inr (.inr (a2).toInt64)]) (M' := M) rfl ?_
      refine wg_ca (d' := 1) (y := 87) (as := [.inr (.inr (a2).toInt64), .inr (.inr (0 : Int64)), .inr (.inr (((M 23 0 (a1).toNatClampNeg) - (1 : Int32))).toInt64)]) (rest := []) (r := some (f_M_in (a2).toInt64 (0 : Int64) (((M 23 0 (a1).toNatClampNeg) - (1 : Int32))).toInt64)) (M' := M) rfl (Nat.le_of_ble_eq_true rfl) (s_M_in (a2).toInt64 (0 : Int64) (((M 23 0 (a1).toNatClampNeg) - (1 : Int32))).toInt64 M _ rfl) ?_
      refine wg_br (c := (f_M_in (a2).toInt64 (0 : Int64) (((M 23 0 (a1).toNatClampNeg) - (1 : Int32))).toInt64) = (0 : Int32)) (t := 26) (f := 30) (st' := []) rfl (fun hc => ?_) (fun hc => ?_)
      · rw [if_pos hc] at h
        refine wg_blk 2 (i' := 28) (L' := [some (.inr (.inl (21, 0))), some (.inl a1), some (.inl a2), some (.inl a3)]) (st' := [.inl (2 : Int32), .inr (.inl (21, 0))]) (M' := M) rfl ?_
        obtain ⟨q3, h2, h⟩ := wbs h
        refine wg_ca (d' := 1) (y := 89) (as := [.inr (.inl (21, 0)), .inl (2 : Int32)]) (rest := []) (r := some q3.1) (M' := q3.2) rfl (Nat.le_of_ble_eq_true rfl) (s_M_find (2 : Int32) M _ h2) ?_
        obtain rfl := Option.some.inj h
        exact wg_re rfl trivial ⟨rfl, rfl⟩
      · rw [if_neg hc] at h
        refine wg_blk 10 (i' := 40) (L' := [some (.inr (.inl (21, 0))), some (.inl a1), some (.inl a2), some (.inl a3)]) (st' := [.inl a1, .inr (.inl (22, 0)), .inl (((40 : Int32) * a1) + a2), .inr (.inl (24, 0))]) (M' := M) rfl ?_
        refine wg_ck (st' := [.inl (M 22 0 (a1).toNatClampNeg), .inl (((40 : Int32) * a1) + a2), .inr (.inl (24, 0))]) (M' := M) rfl (wib_in hp1) ?_
        refine wg_blk 1 (i' := 42) (L' := [some (.inr (.inl (21, 0))), some (.inl a1), some (.inl a2), some (.inl a3)]) (st' := [.inl a3, .inl (M 22 0 (a1).toNatClampNeg), .inl (((40 : Int32) * a1) + a2), .inr (.inl (24, 0))]) (M' := M) rfl ?_
        refine wg_ca (d' := 1) (y := 93) (as := [.inl (M 22 0 (a1).toNatClampNeg), .inl a3]) (rest := [.inl (((40 : Int32) * a1) + a2), .inr (.inl (24, 0))]) (r := some (f_M_asLane (M 22 0 (a1).toNatClampNeg) a3)) (M' := M) rfl (Nat.le_of_ble_eq_true rfl) (s_M_asLane (M 22 0 (a1).toNatClampNeg) a3 M _ rfl) ?_
        obtain ⟨hp4, h⟩ := wif h
        refine wg_ck (st' := []) (M' := (wc_up M 24 0 ((((40 : Int32) * a1) + a2)).toNatClampNeg (f_M_asLane (M 22 0 (a1).toNatClampNeg) a3))) rfl (wib_in hp4) ?_
        refine wg_blk 8 (i' := 52) (L' := [some (.inr (.inl (21, 0))), some (.inl a1), some (.inl a2), some (.inl a3)]) (st' := [.inl (((40 : Int32) * a1) + a2), .inr (.inl (24, 0)), .inr (.inl (21, 0))]) (M' := (wc_up M 24 0 ((((40 : Int32) * a1) + a2)).toNatClampNeg (f_M_asLane (M 22 0 (a1).toNatClampNeg) a3))) rfl ?_
        refine wg_ck (st' := [.inl ((wc_up M 24 0 ((((40 : Int32) * a1) + a2)).toNatClampNeg (f_M_asLane (M 22 0 (a1).toNatClampNeg) a3)) 24 0 ((((40 : Int32) * a1) + a2)).toNatClampNeg), .inr (.inl (21, 0))]) (M' := (wc_up M 24 0 ((((40 : Int32) * a1) + a2)).toNatClampNeg (f_M_asLane (M 22 0 (a1).toNatClampNeg) a3))) rfl (wib_in hp4) ?_
        obtain ⟨q6, h5, h⟩ := wbs h
        refine wg_ca (d' := 1) (y := 90) (as := [.inr (.inl (21, 0)), .inl ((wc_up M 24 0 ((((40 : Int32) * a1) + a2)).toNatClampNeg (f_M_asLane (M 22 0 (a1).toNatClampNeg) a3)) 24 0 ((((40 : Int32) * a1) + a2)).toNatClampNeg)]) (rest := []) (r := some q6.1) (M' := q6.2) rfl (Nat.le_of_ble_eq_true rfl) (s_M_well ((wc_up M 24 0 ((((40 : Int32) * a1) + a2)).toNatClampNeg (f_M_asLane (M 22 0 (a1).toNatClampNeg) a3)) 24 0 ((((40 : Int32) * a1) + a2)).toNatClampNeg) (wc_up M 24 0 ((((40 : Int32) * a1) + a2)).toNatClampNeg (f_M_asLane (M 22 0 (a1).toNatClampNeg) a3)) _ h5) ?_
        obtain rfl := Option.some.inj h
        exact wg_re rfl trivial ⟨rfl, rfl⟩
    · rw [if_neg hc] at h
      refine wg_blk 2 (i' := 12) (L' := [some (.inr (.inl (21, 0))), some (.inl a1), some (.inl a2), some (.inl a3)]) (st' := [.inl (1 : Int32), .inr (.inl (21, 0))]) (M' := M) rfl ?_
      obtain ⟨q8, h7, h⟩ := wbs h
      refine wg_ca (d' := 1) (y := 89) (as := [.inr (.inl (21, 0)), .inl (1 : Int32)]) (rest := []) (r := some q8.1) (M' := q8.2) rfl (Nat.le_of_ble_eq_true rfl) (s_M_find (1 : Int32) M _ h7) ?_
      obtain rfl := Option.some.inj h
      exact wg_re rfl trivial ⟨rfl, rfl⟩
set_option maxRecDepth 20000 in
theorem s_C_copy (a1 : Int32) (a2 : Int32) (a3 : Int32) (a4 : Int32) (a5 : Int32) (M : wc_M) (z : Int32 × wc_M) (h : f_C_copy a1 a2 a3 a4 a5 M = some z) : wc_Sd 2 2 [.inr (.inl (0, 0)), .inl a1, .inl a2, .inl a3, .inl a4, .inl a5] M (some z.1) z.2 := by
  unfold f_C_copy at h
  refine wg_Sd (Nat.le_of_ble_eq_true rfl) ?_
  show wg 1 wx0 (some .int) wk_2 0 [some (.inr (.inl (0, 0))), some (.inl a1), some (.inl a2), some (.inl a3), some (.inl a4), some (.inl a5), none, none] [] M _
  refine wg_blk 2 (i' := 2) (L' := [some (.inr (.inl (0, 0))), some (.inl a1), some (.inl a2), some (.inl a3), some (.inl a4), some (.inl a5), none, none]) (st' := [.inl (7 : Int32), .inl a1]) (M' := M) rfl ?_
  refine wg_ca (d' := 1) (y := 32) (as := [.inl a1, .inl (7 : Int32)]) (rest := []) (r := some (f_C_isUpTo a1 (7 : Int32))) (M' := M) rfl (Nat.le_of_ble_eq_true rfl) (s_C_isUpTo a1 (7 : Int32) M _ rfl) ?_
  refine wg_br (c := (f_C_isUpTo a1 (7 : Int32)) = (0 : Int32)) (t := 8) (f := 4) (st' := []) rfl (fun hc => ?_) (fun hc => ?_)
  · rw [if_pos hc] at h
    refine wg_blk 1 (i' := 9) (L' := [some (.inr (.inl (0, 0))), some (.inl a1), some (.inl a2), some (.inl a3), some (.inl a4), some (.inl a5), none, none]) (st' := [.inl (-1000001 : Int32)]) (M' := M) rfl ?_
    obtain rfl := Option.some.inj h
    exact wg_re rfl trivial ⟨rfl, rfl⟩
  · rw [if_neg hc] at h
    refine wg_blk 2 (i' := 6) (L' := [some (.inr (.inl (0, 0))), some (.inl a1), some (.inl a2), some (.inl a3), some (.inl a4), some (.inl a5), none, none]) (st' := [.inl (7 : Int32), .inl a3]) (M' := M) rfl ?_
    refine wg_ca (d' := 1) (y := 32) (as := [.inl a3, .inl (7 : Int32)]) (rest := []) (r := some (f_C_isUpTo a3 (7 : Int32))) (M' := M) rfl (Nat.le_of_ble_eq_true rfl) (s_C_isUpTo a3 (7 : Int32) M _ rfl) ?_
    refine wg_br (c := (f_C_isUpTo a3 (7 : Int32)) = (0 : Int32)) (t := 8) (f := 10) (st' := []) rfl (fun hc => ?_) (fun hc => ?_)
    · rw [if_pos hc] at h
      refine wg_blk 1 (i' := 9) (L' := [some (.inr (.inl (0, 0))), some (.inl a1), some (.inl a2), some (.inl a3), some (.inl a4), some (.inl a5), none, none]) (st' := [.inl (-1000001 : Int32)]) (M' := M) rfl ?_
      obtain rfl := Option.some.inj h
      exact wg_re rfl trivial ⟨rfl, rfl⟩
    · rw [if_neg hc] at h
      refine wg_blk 3 (i' := 13) (L' := [some (.inr (.inl (0, 0))), some (.inl a1), some (.inl a2), some (.inl a3), some (.inl a4), some (.inl a5), none, none]) (st' := [.inl a1, .inr (.inl (1, 0))]) (M' := M) rfl ?_
      obtain ⟨hp1, h⟩ := wif h
      refine wg_ck (st' := [.inr (.inl (2, (a1).toNatClampNeg))]) (M' := M) rfl (wib_in hp1) ?_
      refine wg_blk 4 (i' := 18) (L' := [some (.inr (.inl (0, 0))), some (.inl a1), some (.inl a2), some (.inl a3), some (.inl a4), some (.inl a5), some (.inr (.inl (2, (a1).toNatClampNeg))), none]) (st' := [.inl a3, .inr (.inl (1, 0))]) (M' := M) rfl ?_
      obtain ⟨hp2, h⟩ := wif h
      refine wg_ck (st' := [.inr (.inl (2, (a3).toNatClampNeg))]) (M' := M) rfl (wib_in hp2) ?_
      refine wg_blk 3 (i' := 22) (L' := [some (.inr (.inl (0, 0))), some (.inl a1), some (.inl a2), some (.inl a3), some (.inl a4), some (.inl a5), some (.inr (.inl (2, (a1).toNatClampNeg))), some (.inr (.inl (2, (a3).toNatClampNeg)))]) (st' := [.inl (M 2 (a1).toNatClampNeg 1)]) (M' := M) rfl ?_
      refine wg_br (c := (M 2 (a1).toNatClampNeg 1) = (0 : Int32)) (t := 26) (f := 23) (st' := []) rfl (fun hc => ?_) (fun hc => ?_)
      · rw [if_pos hc] at h
        refine wg_blk 2 (i' := 28) (L' := [some (.inr (.inl (0, 0))), some (.inl a1), some (.inl a2), some (.inl a3), some (.inl a4), some (.inl a5), some (.inr (.inl (2, (a1).toNatClampNeg))), some (.inr (.inl (2, (a3).toNatClampNeg)))]) (st' := [.inl (1 : Int32), .inr (.inl (0, 0))]) (M' := M) rfl ?_
        obtain ⟨q4, h3, h⟩ := wbs h
        refine wg_ca (d' := 1) (y := 37) (as := [.inr (.inl (0, 0)), .inl (1 : Int32)]) (rest := []) (r := some q4.1) (M' := q4.2) rfl (Nat.le_of_ble_eq_true rfl) (s_C_found (1 : Int32) M _ h3) ?_
        obtain rfl := Option.some.inj h
        exact wg_re rfl trivial ⟨rfl, rfl⟩
      · rw [if_neg hc] at h
        refine wg_blk 2 (i' := 25) (L' := [some (.inr (.inl (0, 0))), some (.inl a1), some (.inl a2), some (.inl a3), some (.inl a4), some (.inl a5), some (.inr (.inl (2, (a1).toNatClampNeg))), some (.inr (.inl (2, (a3).toNatClampNeg)))]) (st' := [.inl (M 2 (a3).toNatClampNeg 1)]) (M' := M) rfl ?_
        refine wg_br (c := (M 2 (a3).toNatClampNeg 1) = (0 : Int32)) (t := 26) (f := 30) (st' := []) rfl (fun hc => ?_) (fun hc => ?_)
        · rw [if_pos hc] at h
          refine wg_blk 2 (i' := 28) (L' := [some (.inr (.inl (0, 0))), some (.inl a1), some (.inl a2), some (.inl a3), some (.inl a4), some (.inl a5), some (.inr (.inl (2, (a1).toNatClampNeg))), some (.inr (.inl (2, (a3).toNatClampNeg)))]) (st' := [.inl (1 : Int32), .inr (.inl (0, 0))]) (M' := M) rfl ?_
          obtain ⟨q6, h5, h⟩ := wbs h
          refine wg_ca (d' := 1) (y := 37) (as := [.inr (.inl (0, 0)), .inl (1 : Int32)]) (rest := []) (r := some q6.1) (M' := q6.2) rfl (Nat.le_of_ble_eq_true rfl) (s_C_found (1 : Int32) M _ h5) ?_
          obtain rfl := Option.some.inj h
          exact wg_re rfl trivial ⟨rfl, rfl⟩
        · rw [if_neg hc] at h
          refine wg_blk 4 (i' := 34) (L' := [some (.inr (.inl (0, 0))), some (.inl a1), some (.inl a2), some (.inl a3), some (.inl a4), some (.inl a5), some (.inr (.inl (2, (a1).toNatClampNeg))), some (.inr (.inl (2, (a3).toNatClampNeg)))]) (st' := [.inl (M 2 (a3).toNatClampNeg 2), .inl (M 2 (a1).toNatClampNeg 2)]) (M' := M) rfl ?_
          refine wg_br (c := (M 2 (a1).toNatClampNeg 2) = (M 2 (a3).toNatClampNeg 2)) (t := 39) (f := 35) (st' := []) rfl (fun hc => ?_) (fun hc => ?_)
          · rw [if_pos hc] at h
            refine wg_blk 3 (i' := 42) (L' := [some (.inr (.inl (0, 0))), some (.inl a1), some (.inl a2), some (.inl a3), some (.inl a4), some (.inl a5), some (.inr (.inl (2, (a1).toNatClampNeg))), some (.inr (.inl (2, (a3).toNatClampNeg)))]) (st' := [.inl a5, .inl a2, .inr (.inl (2, (a1).toNatClampNeg))]) (M' := M) rfl ?_
            refine wg_ca (d' := 1) (y := 53) (as := [.inr (.inl (2, (a1).toNatClampNeg)), .inl a2, .inl a5]) (rest := []) (r := some (f_R_has (a1).toNatClampNeg a2 a5 M)) (M' := M) rfl (Nat.le_of_ble_eq_true rfl) (s_R_has (a1).toNatClampNeg a2 a5 M _ rfl) ?_
            refine wg_br (c := (f_R_has (a1).toNatClampNeg a2 a5 M) = (0 : Int32)) (t := 49) (f := 44) (st' := []) rfl (fun hc => ?_) (fun hc => ?_)
            · rw [if_pos hc] at h
              refine wg_blk 2 (i' := 51) (L' := [some (.inr (.inl (0, 0))), some (.inl a1), some (.inl a2), some (.inl a3), some (.inl a4), some (.inl a5), some (.inr (.inl (2, (a1).toNatClampNeg))), some (.inr (.inl (2, (a3).toNatClampNeg)))]) (st' := [.inl (2 : Int32), .inr (.inl (0, 0))]) (M' := M) rfl ?_
              obtain ⟨q8, h7, h⟩ := wbs h
              refine wg_ca (d' := 1) (y := 37) (as := [.inr (.inl (0, 0)), .inl (2 : Int32)]) (rest := []) (r := some q8.1) (M' := q8.2) rfl (Nat.le_of_ble_eq_true rfl) (s_C_found (2 : Int32) M _ h7) ?_
              obtain rfl := Option.some.inj h
              exact wg_re rfl trivial ⟨rfl, rfl⟩
            · rw [if_neg hc] at h
              refine wg_blk 3 (i' := 47) (L' := [some (.inr (.inl (0, 0))), some (.inl a1), some (.inl a2), some (.inl a3), some (.inl a4), some (.inl a5), some (.inr (.inl (2, (a1).toNatClampNeg))), some (.inr (.inl (2, (a3).toNatClampNeg)))]) (st' := [.inl a5, .inl a4, .inr (.inl (2, (a3).toNatClampNeg))]) (M' := M) rfl ?_
              refine wg_ca (d' := 1) (y := 53) (as := [.inr (.inl (2, (a3).toNatClampNeg)), .inl a4, .inl a5]) (rest := []) (r := some (f_R_has (a3).toNatClampNeg a4 a5 M)) (M' := M) rfl (Nat.le_of_ble_eq_true rfl) (s_R_has (a3).toNatClampNeg a4 a5 M _ rfl) ?_
              refine wg_br (c := (f_R_has (a3).toNatClampNeg a4 a5 M) = (0 : Int32)) (t := 49) (f := 53) (st' := []) rfl (fun hc => ?_) (fun hc => ?_)
              · rw [if_pos hc] at h
                refine wg_blk 2 (i' := 51) (L' := [some (.inr (.inl (0, 0))), some (.inl a1), some (.inl a2), some (.inl a3), some (.inl a4), some (.inl a5), some (.inr (.inl (2, (a1).toNatClampNeg))), some (.inr (.inl (2, (a3).toNatClampNeg)))]) (st' := [.inl (2 : Int32), .inr (.inl (0, 0))]) (M' := M) rfl ?_
                obtain ⟨q10, h9, h⟩ := wbs h
                refine wg_ca (d' := 1) (y := 37) (as := [.inr (.inl (0, 0)), .inl (2 : Int32)]) (rest := []) (r := some q10.1) (M' := q10.2) rfl (Nat.le_of_ble_eq_true rfl) (s_C_found (2 : Int32) M _ h9) ?_
                obtain rfl := Option.some.inj h
                exact wg_re rfl trivial ⟨rfl, rfl⟩
              · rw [if_neg hc] at h
                refine wg_blk 7 (i' := 60) (L' := [some (.inr (.inl (0, 0))), some (.inl a1), some (.inl a2), some (.inl a3), some (.inl a4), some (.inl a5), some (.inr (.inl (2, (a1).toNatClampNeg))), some (.inr (.inl (2, (a3).toNatClampNeg)))]) (st' := [.inl a5, .inl a4, .inr (.inl (3, (a3).toNatClampNeg)), .inl a2, .inr (.inl (3, (a1).toNatClampNeg))]) (M' := M) rfl ?_
                obtain ⟨hp11, h⟩ := wif h
                refine wg_ck (st' := []) (M' := (wc_cp M 3 (a1).toNatClampNeg 3 (a3).toNatClampNeg (a2).toNatClampNeg (a4).toNatClampNeg (a5).toNatClampNeg)) rfl (wcb_in hp11) ?_
                refine wg_blk 2 (i' := 63) (L' := [some (.inr (.inl (0, 0))), some (.inl a1), some (.inl a2), some (.inl a3), some (.inl a4), some (.inl a5), some (.inr (.inl (2, (a1).toNatClampNeg))), some (.inr (.inl (2, (a3).toNatClampNeg)))]) (st' := [.inl a5, .inr (.inl (0, 0))]) (M' := (wc_cp M 3 (a1).toNatClampNeg 3 (a3).toNatClampNeg (a2).toNatClampNeg (a4).toNatClampNeg (a5).toNatClampNeg)) rfl ?_
                obtain ⟨q13, h12, h⟩ := wbs h
                refine wg_ca (d' := 1) (y := 38) (as := [.inr (.inl (0, 0)), .inl a5]) (rest := []) (r := some q13.1) (M' := q13.2) rfl (Nat.le_of_ble_eq_true rfl) (s_C_withoutFinding a5 (wc_cp M 3 (a1).toNatClampNeg 3 (a3).toNatClampNeg (a2).toNatClampNeg (a4).toNatClampNeg (a5).toNatClampNeg) _ h12) ?_
                obtain rfl := Option.some.inj h
                exact wg_re rfl trivial ⟨rfl, rfl⟩
          · rw [if_neg hc] at h
            refine wg_blk 2 (i' := 37) (L' := [some (.inr (.inl (0, 0))), some (.inl a1), some (.inl a2), some (.inl a3), some (.inl a4), some (.inl a5), some (.inr (.inl (2, (a1).toNatClampNeg))), some (.inr (.inl (2, (a3).toNatClampNeg)))]) (st' := [.inl (5 : Int32), .inr (.inl (0, 0))]) (M' := M) rfl ?_
            obtain ⟨q15, h14, h⟩ := wbs h
            refine wg_ca (d' := 1) (y := 37) (as := [.inr (.inl (0, 0)), .inl (5 : Int32)]) (rest := []) (r := some q15.1) (M' := q15.2) rfl (Nat.le_of_ble_eq_true rfl) (s_C_found (5 : Int32) M _ h14) ?_
            obtain rfl := Option.some.inj h
            exact wg_re rfl trivial ⟨rfl, rfl⟩
set_option maxRecDepth 20000 in
theorem l_M_copy_69_ok (x1 : Int32) (x2 : Int32) (x3 : Int32) (x4 : Int32) (x5 : Int32) {K : Option Int32 → wc_M → Prop} : ∀ (n : Nat) (x6 : Int32) (M : wc_M) (o : wc_M), l_M_copy_69 x1 x2 x3 x4 x5 n x6 M = some o → wg 2 wx0 (some .int) wk_95 88 [some (.inr (.inl (21, 0))), none, none, some (.inl x3), some (.inl x4), some (.inl x5), none] [] o K → wg 2 wx0 (some .int) wk_95 69 [some (.inr (.inl (21, 0))), some (.inl x1), some (.inl x2), some (.inl x3), some (.inl x4), some (.inl x5), some (.inl x6)] [] M K := by
  intro n
  induction n with
  | zero =>
    intro x6 M o h hk
    exact nomatch (show (none : Option (wc_M)) = some o from h)
  | succ n ih =>
    intro x6 M o h hk
    unfold l_M_copy_69 at h
    refine wg_blk 2 (i' := 71) (L' := [some (.inr (.inl (21, 0))), some (.inl x1), some (.inl x2), some (.inl x3), some (.inl x4), some (.inl x5), some (.inl x6)]) (st' := [.inl x5, .inl x6]) (M' := M) rfl ?_
    refine wg_br (c := x5 ≤ x6) (t := 88) (f := 72) (st' := []) rfl (fun hc => ?_) (fun hc => ?_)
    · rw [if_pos hc] at h
      obtain rfl := Option.some.inj h
      exact wg_wk (wk_s (wk_n (wk_n (wk_s (wk_s (wk_s (wk_n wk_e))))))) rfl hk
    · rw [if_neg hc] at h
      refine wg_blk 12 (i' := 84) (L' := [some (.inr (.inl (21, 0))), some (.inl x1), some (.inl x2), some (.inl x3), some (.inl x4), some (.inl x5), some (.inl x6)]) (st' := [.inl ((((40 : Int32) * x1) + x2) + x6), .inr (.inl (24, 0)), .inl x6, .inr (.inl (26, 0))]) (M' := M) rfl ?_
      obtain ⟨hp11, h⟩ := wif h
      refine wg_ck (st' := [.inl (M 24 0 (((((40 : Int32) * x1) + x2) + x6)).toNatClampNeg), .inl x6, .inr (.inl (26, 0))]) (M' := M) rfl (wib_in hp11) ?_
      obtain ⟨hp12, h⟩ := wif h
      refine wg_ck (st' := []) (M' := (wc_up M 26 0 (x6).toNatClampNeg (M 24 0 (((((40 : Int32) * x1) + x2) + x6)).toNatClampNeg))) rfl (wib_in hp12) ?_
      refine wg_blk 2 (i' := 69) (L' := [some (.inr (.inl (21, 0))), some (.inl x1), some (.inl x2), some (.inl x3), some (.inl x4), some (.inl x5), some (.inl (x6 + (1 : Int32)))]) (st' := []) (M' := (wc_up M 26 0 (x6).toNatClampNeg (M 24 0 (((((40 : Int32) * x1) + x2) + x6)).toNatClampNeg))) rfl ?_
      exact wg_wk (wk_s (wk_s (wk_s (wk_s (wk_s (wk_s (wk_s wk_e))))))) rfl (ih (x6 + (1 : Int32)) (wc_up M 26 0 (x6).toNatClampNeg (M 24 0 (((((40 : Int32) * x1) + x2) + x6)).toNatClampNeg)) _ h hk)
set_option maxRecDepth 20000 in
theorem l_M_copy_90_ok (x3 : Int32) (x4 : Int32) (x5 : Int32) {K : Option Int32 → wc_M → Prop} : ∀ (n : Nat) (x6 : Int32) (M : wc_M) (o : wc_M), l_M_copy_90 x3 x4 x5 n x6 M = some o → wg 2 wx0 (some .int) wk_95 109 [some (.inr (.inl (21, 0))), none, none, none, none, some (.inl x5), none] [] o K → wg 2 wx0 (some .int) wk_95 90 [some (.inr (.inl (21, 0))), none, none, some (.inl x3), some (.inl x4), some (.inl x5), some (.inl x6)] [] M K := by
  intro n
  induction n with
  | zero =>
    intro x6 M o h hk
    exact nomatch (show (none : Option (wc_M)) = some o from h)
  | succ n ih =>
    intro x6 M o h hk
    unfold l_M_copy_90 at h
    refine wg_blk 2 (i' := 92) (L' := [some (.inr (.inl (21, 0))), none, none, some (.inl x3), some (.inl x4), some (.inl x5), some (.inl x6)]) (st' := [.inl x5, .inl x6]) (M' := M) rfl ?_
    refine wg_br (c := x5 ≤ x6) (t := 109) (f := 93) (st' := []) rfl (fun hc => ?_) (fun hc => ?_)
    · rw [if_pos hc] at h
      obtain rfl := Option.some.inj h
      exact wg_wk (wk_s (wk_n (wk_n (wk_n (wk_n (wk_s (wk_n wk_e))))))) rfl hk
    · rw [if_neg hc] at h
      refine wg_blk 12 (i' := 105) (L' := [some (.inr (.inl (21, 0))), none, none, some (.inl x3), some (.inl x4), some (.inl x5), some (.inl x6)]) (st' := [.inl x6, .inr (.inl (26, 0)), .inl ((((40 : Int32) * x3) + x4) + x6), .inr (.inl (24, 0))]) (M' := M) rfl ?_
      obtain ⟨hp15, h⟩ := wif h
      refine wg_ck (st' := [.inl (M 26 0 (x6).toNatClampNeg), .inl ((((40 : Int32) * x3) + x4) + x6), .inr (.inl (24, 0))]) (M' := M) rfl (wib_in hp15) ?_
      obtain ⟨hp16, h⟩ := wif h
      refine wg_ck (st' := []) (M' := (wc_up M 24 0 (((((40 : Int32) * x3) + x4) + x6)).toNatClampNeg (M 26 0 (x6).toNatClampNeg))) rfl (wib_in hp16) ?_
      refine wg_blk 2 (i' := 90) (L' := [some (.inr (.inl (21, 0))), none, none, some (.inl x3), some (.inl x4), some (.inl x5), some (.inl (x6 + (1 : Int32)))]) (st' := []) (M' := (wc_up M 24 0 (((((40 : Int32) * x3) + x4) + x6)).toNatClampNeg (M 26 0 (x6).toNatClampNeg))) rfl ?_
      exact wg_wk (wk_s (wk_n (wk_n (wk_s (wk_s (wk_s (wk_s wk_e))))))) rfl (ih (x6 + (1 : Int32)) (wc_up M 24 0 (((((40 : Int32) * x3) + x4) + x6)).toNatClampNeg (M 26 0 (x6).toNatClampNeg)) _ h hk)
set_option maxRecDepth 20000 in
theorem s_M_copy (a1 : Int32) (a2 : Int32) (a3 : Int32) (a4 : Int32) (a5 : Int32) (M : wc_M) (z : Int32 × wc_M) (h : f_M_copy a1 a2 a3 a4 a5 M = some z) : wc_Sd 3 95 [.inr (.inl (21, 0)), .inl a1, .inl a2, .inl a3, .inl a4, .inl a5] M (some z.1) z.2 := by
  unfold f_M_copy at h
  refine wg_Sd (Nat.le_of_ble_eq_true rfl) ?_
  show wg 2 wx0 (some .int) wk_95 0 [some (.inr (.inl (21, 0))), some (.inl a1), some (.inl a2), some (.inl a3), some (.inl a4), some (.inl a5), none] [] M _
  refine wg_blk 1 (i' := 1) (L' := [some (.inr (.inl (21, 0))), some (.inl a1), some (.inl a2), some (.inl a3), some (.inl a4), some (.inl a5), none]) (st' := [.inl a1]) (M' := M) rfl ?_
  refine wg_ca (d' := 2) (y := 91) (as := [.inl a1]) (rest := []) (r := some (f_M_isRow a1)) (M' := M) rfl (Nat.le_of_ble_eq_true rfl) (s_M_isRow a1 M _ rfl) ?_
  refine wg_br (c := (f_M_isRow a1) = (0 : Int32)) (t := 6) (f := 3) (st' := []) rfl (fun hc => ?_) (fun hc => ?_)
  · rw [if_pos hc] at h
    refine wg_blk 1 (i' := 7) (L' := [some (.inr (.inl (21, 0))), some (.inl a1), some (.inl a2), some (.inl a3), some (.inl a4), some (.inl a5), none]) (st' := [.inl (-1000001 : Int32)]) (M' := M) rfl ?_
    obtain rfl := Option.some.inj h
    exact wg_re rfl trivial ⟨rfl, rfl⟩
  · rw [if_neg hc] at h
    refine wg_blk 1 (i' := 4) (L' := [some (.inr (.inl (21, 0))), some (.inl a1), some (.inl a2), some (.inl a3), some (.inl a4), some (.inl a5), none]) (st' := [.inl a3]) (M' := M) rfl ?_
    refine wg_ca (d' := 2) (y := 91) (as := [.inl a3]) (rest := []) (r := some (f_M_isRow a3)) (M' := M) rfl (Nat.le_of_ble_eq_true rfl) (s_M_isRow a3 M _ rfl) ?_
    refine wg_br (c := (f_M_isRow a3) = (0 : Int32)) (t := 6) (f := 8) (st' := []) rfl (fun hc => ?_) (fun hc => ?_)
    · rw [if_pos hc] at h
      refine wg_blk 1 (i' := 7) (L' := [some (.inr (.inl (21, 0))), some (.inl a1), some (.inl a2), some (.inl a3), some (.inl a4), some (.inl a5), none]) (st' := [.inl (-1000001 : Int32)]) (M' := M) rfl ?_
      obtain rfl := Option.some.inj h
      exact wg_re rfl trivial ⟨rfl, rfl⟩
    · rw [if_neg hc] at h
      refine wg_blk 3 (i' := 11) (L' := [some (.inr (.inl (21, 0))), some (.inl a1), some (.inl a2), some (.inl a3), some (.inl a4), some (.inl a5), none]) (st' := [.inl a1, .inr (.inl (23, 0))]) (M' := M) rfl ?_
      obtain ⟨hp1, h⟩ := wif h
      refine wg_ck (st' := [.inl (M 23 0 (a1).toNatClampNeg)]) (M' := M) rfl (wib_in hp1) ?_
      refine wg_br (c := (M 23 0 (a1).toNatClampNeg) < (0 : Int32)) (t := 18) (f := 13) (st' := []) rfl (fun hc => ?_) (fun hc => ?_)
      · rw [if_pos hc] at h
        refine wg_blk 2 (i' := 20) (L' := [some (.inr (.inl (21, 0))), some (.inl a1), some (.inl a2), some (.inl a3), some (.inl a4), some (.inl a5), none]) (st' := [.inl (1 : Int32), .inr (.inl (21, 0))]) (M' := M) rfl ?_
        obtain ⟨q3, h2, h⟩ := wbs h
        refine wg_ca (d' := 1) (y := 89) (as := [.inr (.inl (21, 0)), .inl (1 : Int32)]) (rest := []) (r := some q3.1) (M' := q3.2) rfl (Nat.le_of_ble_eq_true rfl) (s_M_find (1 : Int32) M _ h2) ?_
        obtain rfl := Option.some.inj h
        exact wg_re rfl trivial ⟨rfl, rfl⟩
      · rw [if_neg hc] at h
        refine wg_blk 3 (i' := 16) (L' := [some (.inr (.inl (21, 0))), some (.inl a1), some (.inl a2), some (.inl a3), some (.inl a4), some (.inl a5), none]) (st' := [.inl a3, .inr (.inl (23, 0))]) (M' := M) rfl ?_
        obtain ⟨hp4, h⟩ := wif h
        refine wg_ck (st' := [.inl (M 23 0 (a3).toNatClampNeg)]) (M' := M) rfl (wib_in hp4) ?_
        refine wg_br (c := (0 : Int32) ≤ (M 23 0 (a3).toNatClampNeg)) (t := 22) (f := 18) (st' := []) rfl (fun hc => ?_) (fun hc => ?_)
        · rw [if_pos hc] at h
          refine wg_blk 3 (i' := 25) (L' := [some (.inr (.inl (21, 0))), some (.inl a1), some (.inl a2), some (.inl a3), some (.inl a4), some (.inl a5), none]) (st' := [.inl a1, .inr (.inl (22, 0))]) (M' := M) rfl ?_
          refine wg_ck (st' := [.inl (M 22 0 (a1).toNatClampNeg)]) (M' := M) rfl (wib_in hp1) ?_
          refine wg_blk 3 (i' := 29) (L' := [some (.inr (.inl (21, 0))), some (.inl a1), some (.inl a2), some (.inl a3), some (.inl a4), some (.inl a5), none]) (st' := [.inl a3, .inr (.inl (22, 0)), .inl (M 22 0 (a1).toNatClampNeg)]) (M' := M) rfl ?_
          refine wg_ck (st' := [.inl (M 22 0 (a3).toNatClampNeg), .inl (M 22 0 (a1).toNatClampNeg)]) (M' := M) rfl (wib_in hp4) ?_
          refine wg_br (c := (M 22 0 (a1).toNatClampNeg) = (M 22 0 (a3).toNatClampNeg)) (t := 35) (f := 31) (st' := []) rfl (fun hc => ?_) (fun hc => ?_)
          · rw [if_pos hc] at h
            refine wg_blk 1 (i' := 36) (L' := [some (.inr (.inl (21, 0))), some (.inl a1), some (.inl a2), some (.inl a3), some (.inl a4), some (.inl a5), none]) (st' := [.inl a5]) (M' := M) rfl ?_
            refine wg_br (c := a5 < (0 : Int32)) (t := 63) (f := 37) (st' := []) rfl (fun hc => ?_) (fun hc => ?_)
            · rw [if_pos hc] at h
              refine wg_blk 2 (i' := 65) (L' := [some (.inr (.inl (21, 0))), some (.inl a1), some (.inl a2), some (.inl a3), some (.inl a4), some (.inl a5), none]) (st' := [.inl (2 : Int32), .inr (.inl (21, 0))]) (M' := M) rfl ?_
              obtain ⟨q6, h5, h⟩ := wbs h
              refine wg_ca (d' := 1) (y := 89) (as := [.inr (.inl (21, 0)), .inl (2 : Int32)]) (rest := []) (r := some q6.1) (M' := q6.2) rfl (Nat.le_of_ble_eq_true rfl) (s_M_find (2 : Int32) M _ h5) ?_
              obtain rfl := Option.some.inj h
              exact wg_re rfl trivial ⟨rfl, rfl⟩
            · rw [if_neg hc] at h
              refine wg_blk 6 (i' := 43) (L' := [some (.inr (.inl (21, 0))), some (.inl a1), some (.inl a2), some (.inl a3), some (.inl a4), some (.inl a5), none]) (st' := [.inl a1, .inr (.inl (23, 0)), .inr (.inr (0 : Int64)), .inr (.inr (a2).toInt64)]) (M' := M) rfl ?_
              refine wg_ck (st' := [.inl (M 23 0 (a1).toNatClampNeg), .inr (.inr (0 : Int64)), .inr (.inr (a2).toInt64)]) (M' := M) rfl (wib_in hp1) ?_
              refine wg_blk 4 (i' := 48) (L' := [some (.inr (.inl (21, 0))), some (.inl a1), some (.inl a2), some (.inl a3), some (.inl a4), some (.inl a5), none]) (st' := [.inr (.inr (((M 23 0 (a1).toNatClampNeg)).toInt64 - (a5).toInt64)), .inr (.inr (0 : Int64)), .inr (.inr (a2).toInt64)]) (M' := M) rfl ?_
              refine wg_ca (d' := 1) (y := 87) (as := [.inr (.inr (a2).toInt64), .inr (.inr (0 : Int64)), .inr (.inr (((M 23 0 (a1).toNatClampNeg)).toInt64 - (a5).toInt64))]) (rest := []) (r := some (f_M_in (a2).toInt64 (0 : Int64) (((M 23 0 (a1).toNatClampNeg)).toInt64 - (a5).toInt64))) (M' := M) rfl (Nat.le_of_ble_eq_true rfl) (s_M_in (a2).toInt64 (0 : Int64) (((M 23 0 (a1).toNatClampNeg)).toInt64 - (a5).toInt64) M _ rfl) ?_
              refine wg_br (c := (f_M_in (a2).toInt64 (0 : Int64) (((M 23 0 (a1).toNatClampNeg)).toInt64 - (a5).toInt64)) = (0 : Int32)) (t := 63) (f := 50) (st' := []) rfl (fun hc => ?_) (fun hc => ?_)
              · rw [if_pos hc] at h
                refine wg_blk 2 (i' := 65) (L' := [some (.inr (.inl (21, 0))), some (.inl a1), some (.inl a2), some (.inl a3), some (.inl a4), some (.inl a5), none]) (st' := [.inl (2 : Int32), .inr (.inl (21, 0))]) (M' := M) rfl ?_
                obtain ⟨q8, h7, h⟩ := wbs h
                refine wg_ca (d' := 1) (y := 89) (as := [.inr (.inl (21, 0)), .inl (2 : Int32)]) (rest := []) (r := some q8.1) (M' := q8.2) rfl (Nat.le_of_ble_eq_true rfl) (s_M_find (2 : Int32) M _ h7) ?_
                obtain rfl := Option.some.inj h
                exact wg_re rfl trivial ⟨rfl, rfl⟩
              · rw [if_neg hc] at h
                refine wg_blk 6 (i' := 56) (L' := [some (.inr (.inl (21, 0))), some (.inl a1), some (.inl a2), some (.inl a3), some (.inl a4), some (.inl a5), none]) (st' := [.inl a3, .inr (.inl (23, 0)), .inr (.inr (0 : Int64)), .inr (.inr (a4).toInt64)]) (M' := M) rfl ?_
                refine wg_ck (st' := [.inl (M 23 0 (a3).toNatClampNeg), .inr (.inr (0 : Int64)), .inr (.inr (a4).toInt64)]) (M' := M) rfl (wib_in hp4) ?_
                refine wg_blk 4 (i' := 61) (L' := [some (.inr (.inl (21, 0))), some (.inl a1), some (.inl a2), some (.inl a3), some (.inl a4), some (.inl a5), none]) (st' := [.inr (.inr (((M 23 0 (a3).toNatClampNeg)).toInt64 - (a5).toInt64)), .inr (.inr (0 : Int64)), .inr (.inr (a4).toInt64)]) (M' := M) rfl ?_
                refine wg_ca (d' := 1) (y := 87) (as := [.inr (.inr (a4).toInt64), .inr (.inr (0 : Int64)), .inr (.inr (((M 23 0 (a3).toNatClampNeg)).toInt64 - (a5).toInt64))]) (rest := []) (r := some (f_M_in (a4).toInt64 (0 : Int64) (((M 23 0 (a3).toNatClampNeg)).toInt64 - (a5).toInt64))) (M' := M) rfl (Nat.le_of_ble_eq_true rfl) (s_M_in (a4).toInt64 (0 : Int64) (((M 23 0 (a3).toNatClampNeg)).toInt64 - (a5).toInt64) M _ rfl) ?_
                refine wg_br (c := (f_M_in (a4).toInt64 (0 : Int64) (((M 23 0 (a3).toNatClampNeg)).toInt64 - (a5).toInt64)) = (0 : Int32)) (t := 63) (f := 67) (st' := []) rfl (fun hc => ?_) (fun hc => ?_)
                · rw [if_pos hc] at h
                  refine wg_blk 2 (i' := 65) (L' := [some (.inr (.inl (21, 0))), some (.inl a1), some (.inl a2), some (.inl a3), some (.inl a4), some (.inl a5), none]) (st' := [.inl (2 : Int32), .inr (.inl (21, 0))]) (M' := M) rfl ?_
                  obtain ⟨q10, h9, h⟩ := wbs h
                  refine wg_ca (d' := 1) (y := 89) (as := [.inr (.inl (21, 0)), .inl (2 : Int32)]) (rest := []) (r := some q10.1) (M' := q10.2) rfl (Nat.le_of_ble_eq_true rfl) (s_M_find (2 : Int32) M _ h9) ?_
                  obtain rfl := Option.some.inj h
                  exact wg_re rfl trivial ⟨rfl, rfl⟩
                · rw [if_neg hc] at h
                  refine wg_blk 2 (i' := 69) (L' := [some (.inr (.inl (21, 0))), some (.inl a1), some (.inl a2), some (.inl a3), some (.inl a4), some (.inl a5), some (.inl (0 : Int32))]) (st' := []) (M' := M) rfl ?_
                  obtain ⟨t13, h14, h⟩ := wbs h
                  refine wg_wk (wk_s (wk_s (wk_s (wk_s (wk_s (wk_s (wk_s wk_e))))))) rfl (l_M_copy_69_ok a1 a2 a3 a4 a5 2000 (0 : Int32) M _ h14 ?_)
                  refine wg_blk 2 (i' := 90) (L' := [some (.inr (.inl (21, 0))), none, none, some (.inl a3), some (.inl a4), some (.inl a5), some (.inl (0 : Int32))]) (st' := []) (M' := t13) rfl ?_
                  obtain ⟨t17, h18, h⟩ := wbs h
                  refine wg_wk (wk_s (wk_n (wk_n (wk_s (wk_s (wk_s (wk_s wk_e))))))) rfl (l_M_copy_90_ok a3 a4 a5 2000 (0 : Int32) t13 _ h18 ?_)
                  refine wg_blk 2 (i' := 111) (L' := [some (.inr (.inl (21, 0))), none, none, none, none, some (.inl a5), none]) (st' := [.inl a5, .inr (.inl (21, 0))]) (M' := t17) rfl ?_
                  obtain ⟨q20, h19, h⟩ := wbs h
                  refine wg_ca (d' := 1) (y := 90) (as := [.inr (.inl (21, 0)), .inl a5]) (rest := []) (r := some q20.1) (M' := q20.2) rfl (Nat.le_of_ble_eq_true rfl) (s_M_well a5 t17 _ h19) ?_
                  obtain rfl := Option.some.inj h
                  exact wg_re rfl trivial ⟨rfl, rfl⟩
          · rw [if_neg hc] at h
            refine wg_blk 2 (i' := 33) (L' := [some (.inr (.inl (21, 0))), some (.inl a1), some (.inl a2), some (.inl a3), some (.inl a4), some (.inl a5), none]) (st' := [.inl (5 : Int32), .inr (.inl (21, 0))]) (M' := M) rfl ?_
            obtain ⟨q22, h21, h⟩ := wbs h
            refine wg_ca (d' := 1) (y := 89) (as := [.inr (.inl (21, 0)), .inl (5 : Int32)]) (rest := []) (r := some q22.1) (M' := q22.2) rfl (Nat.le_of_ble_eq_true rfl) (s_M_find (5 : Int32) M _ h21) ?_
            obtain rfl := Option.some.inj h
            exact wg_re rfl trivial ⟨rfl, rfl⟩
        · rw [if_neg hc] at h
          refine wg_blk 2 (i' := 20) (L' := [some (.inr (.inl (21, 0))), some (.inl a1), some (.inl a2), some (.inl a3), some (.inl a4), some (.inl a5), none]) (st' := [.inl (1 : Int32), .inr (.inl (21, 0))]) (M' := M) rfl ?_
          obtain ⟨q24, h23, h⟩ := wbs h
          refine wg_ca (d' := 1) (y := 89) (as := [.inr (.inl (21, 0)), .inl (1 : Int32)]) (rest := []) (r := some q24.1) (M' := q24.2) rfl (Nat.le_of_ble_eq_true rfl) (s_M_find (1 : Int32) M _ h23) ?_
          obtain rfl := Option.some.inj h
          exact wg_re rfl trivial ⟨rfl, rfl⟩
set_option maxRecDepth 20000 in
theorem s_C_drop (a1 : Int32) (M : wc_M) (z : Int32 × wc_M) (h : f_C_drop a1 M = some z) : wc_Sd 2 3 [.inr (.inl (0, 0)), .inl a1] M (some z.1) z.2 := by
  unfold f_C_drop at h
  refine wg_Sd (Nat.le_of_ble_eq_true rfl) ?_
  show wg 1 wx0 (some .int) wk_3 0 [some (.inr (.inl (0, 0))), some (.inl a1)] [] M _
  refine wg_blk 2 (i' := 2) (L' := [some (.inr (.inl (0, 0))), some (.inl a1)]) (st' := [.inl (7 : Int32), .inl a1]) (M' := M) rfl ?_
  refine wg_ca (d' := 1) (y := 32) (as := [.inl a1, .inl (7 : Int32)]) (rest := []) (r := some (f_C_isUpTo a1 (7 : Int32))) (M' := M) rfl (Nat.le_of_ble_eq_true rfl) (s_C_isUpTo a1 (7 : Int32) M _ rfl) ?_
  refine wg_br (c := (f_C_isUpTo a1 (7 : Int32)) = (0 : Int32)) (t := 4) (f := 6) (st' := []) rfl (fun hc => ?_) (fun hc => ?_)
  · rw [if_pos hc] at h
    refine wg_blk 1 (i' := 5) (L' := [some (.inr (.inl (0, 0))), some (.inl a1)]) (st' := [.inl (-1000001 : Int32)]) (M' := M) rfl ?_
    obtain rfl := Option.some.inj h
    exact wg_re rfl trivial ⟨rfl, rfl⟩
  · rw [if_neg hc] at h
    refine wg_blk 3 (i' := 9) (L' := [some (.inr (.inl (0, 0))), some (.inl a1)]) (st' := [.inl a1, .inr (.inl (1, 0))]) (M' := M) rfl ?_
    obtain ⟨hp1, h⟩ := wif h
    refine wg_ck (st' := [.inr (.inl (2, (a1).toNatClampNeg))]) (M' := M) rfl (wib_in hp1) ?_
    refine wg_blk 1 (i' := 11) (L' := [some (.inr (.inl (0, 0))), some (.inl a1)]) (st' := [.inl (M 2 (a1).toNatClampNeg 1)]) (M' := M) rfl ?_
    refine wg_br (c := (M 2 (a1).toNatClampNeg 1) = (0 : Int32)) (t := 12) (f := 16) (st' := []) rfl (fun hc => ?_) (fun hc => ?_)
    · rw [if_pos hc] at h
      refine wg_blk 2 (i' := 14) (L' := [some (.inr (.inl (0, 0))), some (.inl a1)]) (st' := [.inl (1 : Int32), .inr (.inl (0, 0))]) (M' := M) rfl ?_
      obtain ⟨q3, h2, h⟩ := wbs h
      refine wg_ca (d' := 1) (y := 37) (as := [.inr (.inl (0, 0)), .inl (1 : Int32)]) (rest := []) (r := some q3.1) (M' := q3.2) rfl (Nat.le_of_ble_eq_true rfl) (s_C_found (1 : Int32) M _ h2) ?_
      obtain rfl := Option.some.inj h
      exact wg_re rfl trivial ⟨rfl, rfl⟩
    · rw [if_neg hc] at h
      refine wg_blk 3 (i' := 19) (L' := [some (.inr (.inl (0, 0))), some (.inl a1)]) (st' := [.inl a1, .inr (.inl (1, 0))]) (M' := M) rfl ?_
      refine wg_ck (st' := [.inr (.inl (2, (a1).toNatClampNeg))]) (M' := M) rfl (wib_in hp1) ?_
      refine wg_blk 1 (i' := 21) (L' := [some (.inr (.inl (0, 0))), some (.inl a1)]) (st' := [.inl (0 : Int32), .inr (.inl (2, (a1).toNatClampNeg))]) (M' := M) rfl ?_
      refine wg_ck (st' := []) (M' := (wc_up M 2 (a1).toNatClampNeg 1 (0 : Int32))) rfl (by decide) ?_
      refine wg_blk 4 (i' := 26) (L' := [some (.inr (.inl (0, 0))), some (.inl a1)]) (st' := [.inl a1, .inr (.inl (1, 0)), .inr (.inl (0, 0))]) (M' := (wc_up M 2 (a1).toNatClampNeg 1 (0 : Int32))) rfl ?_
      refine wg_ck (st' := [.inr (.inl (2, (a1).toNatClampNeg)), .inr (.inl (0, 0))]) (M' := (wc_up M 2 (a1).toNatClampNeg 1 (0 : Int32))) rfl (wib_in hp1) ?_
      refine wg_blk 1 (i' := 28) (L' := [some (.inr (.inl (0, 0))), some (.inl a1)]) (st' := [.inl ((wc_up M 2 (a1).toNatClampNeg 1 (0 : Int32)) 2 (a1).toNatClampNeg 3), .inr (.inl (0, 0))]) (M' := (wc_up M 2 (a1).toNatClampNeg 1 (0 : Int32))) rfl ?_
      obtain ⟨q5, h4, h⟩ := wbs h
      refine wg_ca (d' := 1) (y := 38) (as := [.inr (.inl (0, 0)), .inl ((wc_up M 2 (a1).toNatClampNeg 1 (0 : Int32)) 2 (a1).toNatClampNeg 3)]) (rest := []) (r := some q5.1) (M' := q5.2) rfl (Nat.le_of_ble_eq_true rfl) (s_C_withoutFinding ((wc_up M 2 (a1).toNatClampNeg 1 (0 : Int32)) 2 (a1).toNatClampNeg 3) (wc_up M 2 (a1).toNatClampNeg 1 (0 : Int32)) _ h4) ?_
      obtain rfl := Option.some.inj h
      exact wg_re rfl trivial ⟨rfl, rfl⟩
set_option maxRecDepth 20000 in
theorem s_M_drop (a1 : Int32) (M : wc_M) (z : Int32 × wc_M) (h : f_M_drop a1 M = some z) : wc_Sd 3 96 [.inr (.inl (21, 0)), .inl a1] M (some z.1) z.2 := by
  unfold f_M_drop at h
  refine wg_Sd (Nat.le_of_ble_eq_true rfl) ?_
  show wg 2 wx0 (some .int) wk_96 0 [some (.inr (.inl (21, 0))), some (.inl a1), none] [] M _
  refine wg_blk 1 (i' := 1) (L' := [some (.inr (.inl (21, 0))), some (.inl a1), none]) (st' := [.inl a1]) (M' := M) rfl ?_
  refine wg_ca (d' := 2) (y := 91) (as := [.inl a1]) (rest := []) (r := some (f_M_isRow a1)) (M' := M) rfl (Nat.le_of_ble_eq_true rfl) (s_M_isRow a1 M _ rfl) ?_
  refine wg_br (c := (f_M_isRow a1) = (0 : Int32)) (t := 3) (f := 5) (st' := []) rfl (fun hc => ?_) (fun hc => ?_)
  · rw [if_pos hc] at h
    refine wg_blk 1 (i' := 4) (L' := [some (.inr (.inl (21, 0))), some (.inl a1), none]) (st' := [.inl (-1000001 : Int32)]) (M' := M) rfl ?_
    obtain rfl := Option.some.inj h
    exact wg_re rfl trivial ⟨rfl, rfl⟩
  · rw [if_neg hc] at h
    refine wg_blk 3 (i' := 8) (L' := [some (.inr (.inl (21, 0))), some (.inl a1), none]) (st' := [.inl a1, .inr (.inl (23, 0))]) (M' := M) rfl ?_
    obtain ⟨hp1, h⟩ := wif h
    refine wg_ck (st' := [.inl (M 23 0 (a1).toNatClampNeg)]) (M' := M) rfl (wib_in hp1) ?_
    refine wg_br (c := (0 : Int32) ≤ (M 23 0 (a1).toNatClampNeg)) (t := 14) (f := 10) (st' := []) rfl (fun hc => ?_) (fun hc => ?_)
    · rw [if_pos hc] at h
      refine wg_blk 3 (i' := 17) (L' := [some (.inr (.inl (21, 0))), some (.inl a1), none]) (st' := [.inl a1, .inr (.inl (23, 0))]) (M' := M) rfl ?_
      refine wg_ck (st' := [.inl (M 23 0 (a1).toNatClampNeg)]) (M' := M) rfl (wib_in hp1) ?_
      refine wg_blk 5 (i' := 23) (L' := [some (.inr (.inl (21, 0))), some (.inl a1), some (.inl (M 23 0 (a1).toNatClampNeg))]) (st' := [.inl (-1 : Int32), .inl a1, .inr (.inl (23, 0))]) (M' := M) rfl ?_
      refine wg_ck (st' := []) (M' := (wc_up M 23 0 (a1).toNatClampNeg (-1 : Int32))) rfl (wib_in hp1) ?_
      refine wg_blk 2 (i' := 26) (L' := [some (.inr (.inl (21, 0))), some (.inl a1), some (.inl (M 23 0 (a1).toNatClampNeg))]) (st' := [.inl (M 23 0 (a1).toNatClampNeg), .inr (.inl (21, 0))]) (M' := (wc_up M 23 0 (a1).toNatClampNeg (-1 : Int32))) rfl ?_
      obtain ⟨q3, h2, h⟩ := wbs h
      refine wg_ca (d' := 1) (y := 90) (as := [.inr (.inl (21, 0)), .inl (M 23 0 (a1).toNatClampNeg)]) (rest := []) (r := some q3.1) (M' := q3.2) rfl (Nat.le_of_ble_eq_true rfl) (s_M_well (M 23 0 (a1).toNatClampNeg) (wc_up M 23 0 (a1).toNatClampNeg (-1 : Int32)) _ h2) ?_
      obtain rfl := Option.some.inj h
      exact wg_re rfl trivial ⟨rfl, rfl⟩
    · rw [if_neg hc] at h
      refine wg_blk 2 (i' := 12) (L' := [some (.inr (.inl (21, 0))), some (.inl a1), none]) (st' := [.inl (1 : Int32), .inr (.inl (21, 0))]) (M' := M) rfl ?_
      obtain ⟨q5, h4, h⟩ := wbs h
      refine wg_ca (d' := 1) (y := 89) (as := [.inr (.inl (21, 0)), .inl (1 : Int32)]) (rest := []) (r := some q5.1) (M' := q5.2) rfl (Nat.le_of_ble_eq_true rfl) (s_M_find (1 : Int32) M _ h4) ?_
      obtain rfl := Option.some.inj h
      exact wg_re rfl trivial ⟨rfl, rfl⟩
set_option maxRecDepth 20000 in
theorem s_T_add (a1 : Int32) (M : wc_M) (z : Int32 × wc_M) (h : f_T_add a1 M = some z) : wc_Sd 1 55 [.inr (.inl (4, 0)), .inl a1] M (some z.1) z.2 := by
  unfold f_T_add at h
  refine wg_Sd (Nat.le_of_ble_eq_true rfl) ?_
  show wg 0 wx0 (some .boolean) wk_55 0 [some (.inr (.inl (4, 0))), some (.inl a1)] [] M _
  refine wg_blk 3 (i' := 3) (L' := [some (.inr (.inl (4, 0))), some (.inl a1)]) (st' := [.inl (120 : Int32), .inl (M 4 0 1)]) (M' := M) rfl ?_
  refine wg_br (c := (M 4 0 1) < (120 : Int32)) (t := 6) (f := 4) (st' := []) rfl (fun hc => ?_) (fun hc => ?_)
  · rw [if_pos hc] at h
    refine wg_blk 5 (i' := 11) (L' := [some (.inr (.inl (4, 0))), some (.inl a1)]) (st' := [.inl a1, .inl (M 4 0 1), .inr (.inl (5, 0))]) (M' := M) rfl ?_
    obtain ⟨hp1, h⟩ := wif h
    refine wg_ck (st' := []) (M' := (wc_up M 5 0 ((M 4 0 1)).toNatClampNeg a1)) rfl (wib_in hp1) ?_
    refine wg_blk 7 (i' := 19) (L' := [some (.inr (.inl (4, 0))), some (.inl a1)]) (st' := [.inl (1 : Int32)]) (M' := (wc_up (wc_up M 5 0 ((M 4 0 1)).toNatClampNeg a1) 4 0 1 (((wc_up M 5 0 ((M 4 0 1)).toNatClampNeg a1) 4 0 1) + (1 : Int32)))) rfl ?_
    obtain rfl := Option.some.inj h
    exact wg_re rfl (by decide) ⟨rfl, rfl⟩
  · rw [if_neg hc] at h
    refine wg_blk 1 (i' := 5) (L' := [some (.inr (.inl (4, 0))), some (.inl a1)]) (st' := [.inl (0 : Int32)]) (M' := M) rfl ?_
    obtain rfl := Option.some.inj h
    exact wg_re rfl (by decide) ⟨rfl, rfl⟩
set_option maxRecDepth 20000 in
theorem s_C_feed (a1 : Int32) (M : wc_M) (z : Int32 × wc_M) (h : f_C_feed a1 M = some z) : wc_Sd 2 4 [.inr (.inl (0, 0)), .inl a1] M (some z.1) z.2 := by
  unfold f_C_feed at h
  refine wg_Sd (Nat.le_of_ble_eq_true rfl) ?_
  show wg 1 wx0 (some .int) wk_4 0 [some (.inr (.inl (0, 0))), some (.inl a1)] [] M _
  refine wg_blk 2 (i' := 2) (L' := [some (.inr (.inl (0, 0))), some (.inl a1)]) (st' := [.inl (255 : Int32), .inl a1]) (M' := M) rfl ?_
  refine wg_ca (d' := 1) (y := 32) (as := [.inl a1, .inl (255 : Int32)]) (rest := []) (r := some (f_C_isUpTo a1 (255 : Int32))) (M' := M) rfl (Nat.le_of_ble_eq_true rfl) (s_C_isUpTo a1 (255 : Int32) M _ rfl) ?_
  refine wg_br (c := (f_C_isUpTo a1 (255 : Int32)) = (0 : Int32)) (t := 4) (f := 6) (st' := []) rfl (fun hc => ?_) (fun hc => ?_)
  · rw [if_pos hc] at h
    refine wg_blk 1 (i' := 5) (L' := [some (.inr (.inl (0, 0))), some (.inl a1)]) (st' := [.inl (-1000001 : Int32)]) (M' := M) rfl ?_
    obtain rfl := Option.some.inj h
    exact wg_re rfl trivial ⟨rfl, rfl⟩
  · rw [if_neg hc] at h
    refine wg_blk 3 (i' := 9) (L' := [some (.inr (.inl (0, 0))), some (.inl a1)]) (st' := [.inl a1, .inr (.inl (4, 0))]) (M' := M) rfl ?_
    obtain ⟨q2, h1, h⟩ := wbs h
    refine wg_ca (d' := 1) (y := 55) (as := [.inr (.inl (4, 0)), .inl a1]) (rest := []) (r := some q2.1) (M' := q2.2) rfl (Nat.le_of_ble_eq_true rfl) (s_T_add a1 M _ h1) ?_
    refine wg_br (c := q2.1 = (0 : Int32)) (t := 15) (f := 11) (st' := []) rfl (fun hc => ?_) (fun hc => ?_)
    · rw [if_pos hc] at h
      refine wg_blk 1 (i' := 16) (L' := [some (.inr (.inl (0, 0))), some (.inl a1)]) (st' := [.inl (-1000003 : Int32)]) (M' := q2.2) rfl ?_
      obtain rfl := Option.some.inj h
      exact wg_re rfl trivial ⟨rfl, rfl⟩
    · rw [if_neg hc] at h
      refine wg_blk 4 (i' := 16) (L' := [some (.inr (.inl (0, 0))), some (.inl a1)]) (st' := [.inl (q2.2 4 0 1)]) (M' := q2.2) rfl ?_
      obtain rfl := Option.some.inj h
      exact wg_re rfl trivial ⟨rfl, rfl⟩
set_option maxRecDepth 20000 in
theorem s_M_feed (a1 : Int32) (M : wc_M) (z : Int32 × wc_M) (h : f_M_feed a1 M = some z) : wc_Sd 2 97 [.inr (.inl (21, 0)), .inl a1] M (some z.1) z.2 := by
  unfold f_M_feed at h
  refine wg_Sd (Nat.le_of_ble_eq_true rfl) ?_
  show wg 1 wx0 (some .int) wk_97 0 [some (.inr (.inl (21, 0))), some (.inl a1)] [] M _
  refine wg_blk 4 (i' := 4) (L' := [some (.inr (.inl (21, 0))), some (.inl a1)]) (st' := [.inr (.inr (255 : Int64)), .inr (.inr (0 : Int64)), .inr (.inr (a1).toInt64)]) (M' := M) rfl ?_
  refine wg_ca (d' := 1) (y := 87) (as := [.inr (.inr (a1).toInt64), .inr (.inr (0 : Int64)), .inr (.inr (255 : Int64))]) (rest := []) (r := some (f_M_in (a1).toInt64 (0 : Int64) (255 : Int64))) (M' := M) rfl (Nat.le_of_ble_eq_true rfl) (s_M_in (a1).toInt64 (0 : Int64) (255 : Int64) M _ rfl) ?_
  refine wg_br (c := (f_M_in (a1).toInt64 (0 : Int64) (255 : Int64)) = (0 : Int32)) (t := 6) (f := 8) (st' := []) rfl (fun hc => ?_) (fun hc => ?_)
  · rw [if_pos hc] at h
    refine wg_blk 1 (i' := 7) (L' := [some (.inr (.inl (21, 0))), some (.inl a1)]) (st' := [.inl (-1000001 : Int32)]) (M' := M) rfl ?_
    obtain rfl := Option.some.inj h
    exact wg_re rfl trivial ⟨rfl, rfl⟩
  · rw [if_neg hc] at h
    refine wg_blk 3 (i' := 11) (L' := [some (.inr (.inl (21, 0))), some (.inl a1)]) (st' := [.inl (120 : Int32), .inl (M 21 0 8)]) (M' := M) rfl ?_
    refine wg_br (c := (M 21 0 8) = (120 : Int32)) (t := 12) (f := 14) (st' := []) rfl (fun hc => ?_) (fun hc => ?_)
    · rw [if_pos hc] at h
      refine wg_blk 1 (i' := 13) (L' := [some (.inr (.inl (21, 0))), some (.inl a1)]) (st' := [.inl (-1000003 : Int32)]) (M' := M) rfl ?_
      obtain rfl := Option.some.inj h
      exact wg_re rfl trivial ⟨rfl, rfl⟩
    · rw [if_neg hc] at h
      refine wg_blk 5 (i' := 19) (L' := [some (.inr (.inl (21, 0))), some (.inl a1)]) (st' := [.inl a1, .inl (M 21 0 8), .inr (.inl (27, 0))]) (M' := M) rfl ?_
      obtain ⟨hp1, h⟩ := wif h
      refine wg_ck (st' := []) (M' := (wc_up M 27 0 ((M 21 0 8)).toNatClampNeg a1)) rfl (wib_in hp1) ?_
      refine wg_blk 8 (i' := 28) (L' := [some (.inr (.inl (21, 0))), some (.inl a1)]) (st' := [.inl ((wc_up (wc_up M 27 0 ((M 21 0 8)).toNatClampNeg a1) 21 0 8 (((wc_up M 27 0 ((M 21 0 8)).toNatClampNeg a1) 21 0 8) + (1 : Int32))) 21 0 8)]) (M' := (wc_up (wc_up M 27 0 ((M 21 0 8)).toNatClampNeg a1) 21 0 8 (((wc_up M 27 0 ((M 21 0 8)).toNatClampNeg a1) 21 0 8) + (1 : Int32)))) rfl ?_
      obtain rfl := Option.some.inj h
      exact wg_re rfl trivial ⟨rfl, rfl⟩
set_option maxRecDepth 20000 in
theorem s_P_put (p0 : Nat) (a1 : Int32) (a2 : Int32) (a3 : Int32) (M : wc_M) (z : wc_M) (h : f_P_put p0 a1 a2 a3 M = some z) : wc_Sd 1 67 [.inr (.inl (6, p0)), .inl a1, .inl a2, .inl a3] M none z := by
  unfold f_P_put at h
  refine wg_Sd (Nat.le_of_ble_eq_true rfl) ?_
  show wg 0 wx0 none wk_67 0 [some (.inr (.inl (6, p0))), some (.inl a1), some (.inl a2), some (.inl a3)] [] M _
  refine wg_blk 4 (i' := 4) (L' := [some (.inr (.inl (6, p0))), some (.inl a1), some (.inl a2), some (.inl a3)]) (st' := [.inl a2, .inl a1, .inr (.inl (9, p0))]) (M' := M) rfl ?_
  obtain ⟨hp1, h⟩ := wif h
  refine wg_ck (st' := []) (M' := (wc_up M 9 p0 (a1).toNatClampNeg a2)) rfl (wib_in hp1) ?_
  refine wg_blk 4 (i' := 9) (L' := [some (.inr (.inl (6, p0))), some (.inl a1), some (.inl a2), some (.inl a3)]) (st' := [.inl a3, .inl a1, .inr (.inl (10, p0))]) (M' := (wc_up M 9 p0 (a1).toNatClampNeg a2)) rfl ?_
  refine wg_ck (st' := []) (M' := (wc_up (wc_up M 9 p0 (a1).toNatClampNeg a2) 10 p0 (a1).toNatClampNeg a3)) rfl (wib_in hp1) ?_
  refine wg_blk 4 (i' := 14) (L' := [some (.inr (.inl (6, p0))), some (.inl a1), some (.inl a2), some (.inl a3)]) (st' := [.inl (0 : Int32), .inl a1, .inr (.inl (11, p0))]) (M' := (wc_up (wc_up M 9 p0 (a1).toNatClampNeg a2) 10 p0 (a1).toNatClampNeg a3)) rfl ?_
  refine wg_ck (st' := []) (M' := (wc_up (wc_up (wc_up M 9 p0 (a1).toNatClampNeg a2) 10 p0 (a1).toNatClampNeg a3) 11 p0 (a1).toNatClampNeg (0 : Int32))) rfl (wib_in hp1) ?_
  obtain rfl := Option.some.inj h
  exact wg_re rfl trivial ⟨rfl, rfl⟩
set_option maxRecDepth 20000 in
theorem s_P_clear (p0 : Nat) (a1 : Int32) (M : wc_M) (z : wc_M) (h : f_P_clear p0 a1 M = some z) : wc_Sd 2 68 [.inr (.inl (6, p0)), .inl a1] M none z := by
  unfold f_P_clear at h
  refine wg_Sd (Nat.le_of_ble_eq_true rfl) ?_
  show wg 1 wx0 none wk_68 0 [some (.inr (.inl (6, p0))), some (.inl a1)] [] M _
  refine wg_blk 4 (i' := 4) (L' := [some (.inr (.inl (6, p0))), some (.inl a1)]) (st' := [.inl (0 : Int32), .inl (0 : Int32), .inl a1, .inr (.inl (6, p0))]) (M' := M) rfl ?_
  obtain ⟨m2, h1, h⟩ := wbs h
  refine wg_ca (d' := 1) (y := 67) (as := [.inr (.inl (6, p0)), .inl a1, .inl (0 : Int32), .inl (0 : Int32)]) (rest := []) (r := none) (M' := m2) rfl (Nat.le_of_ble_eq_true rfl) (s_P_put p0 a1 (0 : Int32) (0 : Int32) M _ h1) ?_
  obtain rfl := Option.some.inj h
  exact wg_re rfl trivial ⟨rfl, rfl⟩
set_option maxRecDepth 20000 in
theorem l_P_begin_2_ok (p0 : Nat) {K : Option Int32 → wc_M → Prop} : ∀ (n : Nat) (x1 : Int32) (M : wc_M) (o : wc_M), l_P_begin_2 p0 n x1 M = some o → wg 2 wx0 none wk_66 10 [some (.inr (.inl (6, p0))), none] [] o K → wg 2 wx0 none wk_66 2 [some (.inr (.inl (6, p0))), some (.inl x1)] [] M K := by
  intro n
  induction n with
  | zero =>
    intro x1 M o h hk
    exact nomatch (show (none : Option (wc_M)) = some o from h)
  | succ n ih =>
    intro x1 M o h hk
    unfold l_P_begin_2 at h
    refine wg_blk 2 (i' := 4) (L' := [some (.inr (.inl (6, p0))), some (.inl x1)]) (st' := [.inl (16 : Int32), .inl x1]) (M' := M) rfl ?_
    refine wg_br (c := (16 : Int32) ≤ x1) (t := 10) (f := 5) (st' := []) rfl (fun hc => ?_) (fun hc => ?_)
    · rw [if_pos hc] at h
      obtain rfl := Option.some.inj h
      exact wg_wk (wk_s (wk_n wk_e)) rfl hk
    · rw [if_neg hc] at h
      refine wg_blk 2 (i' := 7) (L' := [some (.inr (.inl (6, p0))), some (.inl x1)]) (st' := [.inl x1, .inr (.inl (6, p0))]) (M' := M) rfl ?_
      obtain ⟨m2, h1, h⟩ := wbs h
      refine wg_ca (d' := 2) (y := 68) (as := [.inr (.inl (6, p0)), .inl x1]) (rest := []) (r := none) (M' := m2) rfl (Nat.le_of_ble_eq_true rfl) (s_P_clear p0 x1 M _ h1) ?_
      refine wg_blk 2 (i' := 2) (L' := [some (.inr (.inl (6, p0))), some (.inl (x1 + (1 : Int32)))]) (st' := []) (M' := m2) rfl ?_
      exact wg_wk (wk_s (wk_s wk_e)) rfl (ih (x1 + (1 : Int32)) m2 _ h hk)
set_option maxRecDepth 20000 in
theorem s_P_begin (p0 : Nat) (M : wc_M) (z : wc_M) (h : f_P_begin p0 M = some z) : wc_Sd 3 66 [.inr (.inl (6, p0))] M none z := by
  unfold f_P_begin at h
  refine wg_Sd (Nat.le_of_ble_eq_true rfl) ?_
  show wg 2 wx0 none wk_66 0 [some (.inr (.inl (6, p0))), none] [] M _
  refine wg_blk 2 (i' := 2) (L' := [some (.inr (.inl (6, p0))), some (.inl (0 : Int32))]) (st' := []) (M' := M) rfl ?_
  obtain ⟨t3, h4, h⟩ := wbs h
  refine wg_wk (wk_s (wk_s wk_e)) rfl (l_P_begin_2_ok p0 2000 (0 : Int32) M _ h4 ?_)
  refine wg_blk 2 (i' := 12) (L' := [some (.inr (.inl (6, p0))), none]) (st' := [.inl (1 : Int32), .inr (.inl (6, p0))]) (M' := t3) rfl ?_
  refine wg_ck (st' := []) (M' := (wc_up t3 6 p0 5 (1 : Int32))) rfl (by decide) ?_
  refine wg_blk 3 (i' := 16) (L' := [some (.inr (.inl (6, p0))), none]) (st' := []) (M' := (wc_up (wc_up t3 6 p0 5 (1 : Int32)) 6 p0 6 (0 : Int32))) rfl ?_
  obtain rfl := Option.some.inj h
  exact wg_re rfl trivial ⟨rfl, rfl⟩
set_option maxRecDepth 20000 in
theorem s_T_fail (a1 : Int32) (a2 : Int32) (M : wc_M) (z : Int32 × wc_M) (h : f_T_fail a1 a2 M = some z) : wc_Sd 1 64 [.inr (.inl (4, 0)), .inl a1, .inl a2] M (some z.1) z.2 := by
  unfold f_T_fail at h
  refine wg_Sd (Nat.le_of_ble_eq_true rfl) ?_
  show wg 0 wx0 (some .boolean) wk_64 0 [some (.inr (.inl (4, 0))), some (.inl a1), some (.inl a2)] [] M _
  refine wg_blk 7 (i' := 7) (L' := [some (.inr (.inl (4, 0))), some (.inl a1), some (.inl a2)]) (st' := [.inl (0 : Int32)]) (M' := (wc_up (wc_up M 4 0 2 a1) 4 0 3 a2)) rfl ?_
  obtain rfl := Option.some.inj h
  exact wg_re rfl (by decide) ⟨rfl, rfl⟩
set_option maxRecDepth 20000 in
theorem s_T_readByte (a1 : Int32) (M : wc_M) (z : Int32 × wc_M) (h : f_T_readByte a1 M = some z) : wc_Sd 2 61 [.inr (.inl (4, 0)), .inl a1] M (some z.1) z.2 := by
  unfold f_T_readByte at h
  refine wg_Sd (Nat.le_of_ble_eq_true rfl) ?_
  show wg 1 wx0 (some .boolean) wk_61 0 [some (.inr (.inl (4, 0))), some (.inl a1)] [] M _
  refine wg_blk 4 (i' := 4) (L' := [some (.inr (.inl (4, 0))), some (.inl a1)]) (st' := [.inl (M 4 0 1), .inl (M 4 0 4)]) (M' := M) rfl ?_
  refine wg_br (c := (M 4 0 1) ≤ (M 4 0 4)) (t := 12) (f := 5) (st' := []) rfl (fun hc => ?_) (fun hc => ?_)
  · rw [if_pos hc] at h
    refine wg_blk 4 (i' := 16) (L' := [some (.inr (.inl (4, 0))), some (.inl a1)]) (st' := [.inl (M 4 0 4), .inl (1 : Int32), .inr (.inl (4, 0))]) (M' := M) rfl ?_
    obtain ⟨q2, h1, h⟩ := wbs h
    refine wg_ca (d' := 1) (y := 64) (as := [.inr (.inl (4, 0)), .inl (1 : Int32), .inl (M 4 0 4)]) (rest := []) (r := some q2.1) (M' := q2.2) rfl (Nat.le_of_ble_eq_true rfl) (s_T_fail (1 : Int32) (M 4 0 4) M _ h1) ?_
    obtain ⟨hz, h⟩ := wif h
    obtain rfl := Option.some.inj h
    exact wg_re rfl (wzb_in hz) ⟨rfl, rfl⟩
  · rw [if_neg hc] at h
    refine wg_blk 4 (i' := 9) (L' := [some (.inr (.inl (4, 0))), some (.inl a1)]) (st' := [.inl (M 4 0 4), .inr (.inl (5, 0))]) (M' := M) rfl ?_
    obtain ⟨hp3, h⟩ := wif h
    refine wg_ck (st' := [.inl (M 5 0 ((M 4 0 4)).toNatClampNeg)]) (M' := M) rfl (wib_in hp3) ?_
    refine wg_blk 1 (i' := 11) (L' := [some (.inr (.inl (4, 0))), some (.inl a1)]) (st' := [.inl a1, .inl (M 5 0 ((M 4 0 4)).toNatClampNeg)]) (M' := M) rfl ?_
    refine wg_br (c := (M 5 0 ((M 4 0 4)).toNatClampNeg) = a1) (t := 18) (f := 12) (st' := []) rfl (fun hc => ?_) (fun hc => ?_)
    · rw [if_pos hc] at h
      refine wg_blk 7 (i' := 25) (L' := [some (.inr (.inl (4, 0))), some (.inl a1)]) (st' := [.inl (1 : Int32)]) (M' := (wc_up M 4 0 4 ((M 4 0 4) + (1 : Int32)))) rfl ?_
      obtain rfl := Option.some.inj h
      exact wg_re rfl (by decide) ⟨rfl, rfl⟩
    · rw [if_neg hc] at h
      refine wg_blk 4 (i' := 16) (L' := [some (.inr (.inl (4, 0))), some (.inl a1)]) (st' := [.inl (M 4 0 4), .inl (1 : Int32), .inr (.inl (4, 0))]) (M' := M) rfl ?_
      obtain ⟨q5, h4, h⟩ := wbs h
      refine wg_ca (d' := 1) (y := 64) (as := [.inr (.inl (4, 0)), .inl (1 : Int32), .inl (M 4 0 4)]) (rest := []) (r := some q5.1) (M' := q5.2) rfl (Nat.le_of_ble_eq_true rfl) (s_T_fail (1 : Int32) (M 4 0 4) M _ h4) ?_
      obtain ⟨hz, h⟩ := wif h
      obtain rfl := Option.some.inj h
      exact wg_re rfl (wzb_in hz) ⟨rfl, rfl⟩
set_option maxRecDepth 20000 in
theorem s_T_isFigure (a0 : Int32) (M : wc_M) (z : Int32) (h : f_T_isFigure a0 = z) : wc_Sd 1 63 [.inl a0] M (some z) M := by
  unfold f_T_isFigure at h
  refine wg_Sd (Nat.le_of_ble_eq_true rfl) ?_
  show wg 0 wx0 (some .boolean) wk_63 0 [some (.inl a0)] [] M _
  refine wg_blk 2 (i' := 2) (L' := [some (.inl a0)]) (st' := [.inl (48 : Int32), .inl a0]) (M' := M) rfl ?_
  refine wg_br (c := a0 < (48 : Int32)) (t := 8) (f := 3) (st' := []) rfl (fun hc => ?_) (fun hc => ?_)
  · rw [if_pos hc] at h
    refine wg_blk 1 (i' := 9) (L' := [some (.inl a0)]) (st' := [.inl (0 : Int32)]) (M' := M) rfl ?_
    subst h
    exact wg_re rfl (by decide) ⟨rfl, rfl⟩
  · rw [if_neg hc] at h
    refine wg_blk 2 (i' := 5) (L' := [some (.inl a0)]) (st' := [.inl (57 : Int32), .inl a0]) (M' := M) rfl ?_
    refine wg_br (c := (57 : Int32) < a0) (t := 8) (f := 6) (st' := []) rfl (fun hc => ?_) (fun hc => ?_)
    · rw [if_pos hc] at h
      refine wg_blk 1 (i' := 9) (L' := [some (.inl a0)]) (st' := [.inl (0 : Int32)]) (M' := M) rfl ?_
      subst h
      exact wg_re rfl (by decide) ⟨rfl, rfl⟩
    · rw [if_neg hc] at h
      refine wg_blk 2 (i' := 9) (L' := [some (.inl a0)]) (st' := [.inl (1 : Int32)]) (M' := M) rfl ?_
      subst h
      exact wg_re rfl (by decide) ⟨rfl, rfl⟩
set_option maxRecDepth 20000 in
theorem l_T_readNumber_4_ok (x1 : Int32) (M : wc_M) {K : Option Int32 → wc_M → Prop} : ∀ (n : Nat) (x2 : Int32) (x3 : Int32) (o : Int32 × Int32), l_T_readNumber_4 x1 M n x2 x3 = some o → wg 1 wx0 (some .int) wk_62 39 [some (.inr (.inl (4, 0))), some (.inl x1), some (.inl o.1), some (.inl o.2)] [] M K → wg 1 wx0 (some .int) wk_62 4 [some (.inr (.inl (4, 0))), some (.inl x1), some (.inl x2), some (.inl x3)] [] M K := by
  intro n
  induction n with
  | zero =>
    intro x2 x3 o h hk
    exact nomatch (show (none : Option (Int32 × Int32)) = some o from h)
  | succ n ih =>
    intro x2 x3 o h hk
    unfold l_T_readNumber_4 at h
    refine wg_blk 2 (i' := 6) (L' := [some (.inr (.inl (4, 0))), some (.inl x1), some (.inl x2), some (.inl x3)]) (st' := [.inl (3 : Int32), .inl x2]) (M' := M) rfl ?_
    refine wg_br (c := (3 : Int32) ≤ x2) (t := 39) (f := 7) (st' := []) rfl (fun hc => ?_) (fun hc => ?_)
    · rw [if_pos hc] at h
      obtain rfl := Option.some.inj h
      exact wg_wk (wk_s (wk_s (wk_s (wk_s wk_e)))) rfl hk
    · rw [if_neg hc] at h
      refine wg_blk 6 (i' := 13) (L' := [some (.inr (.inl (4, 0))), some (.inl x1), some (.inl x2), some (.inl x3)]) (st' := [.inl (M 4 0 1), .inl ((M 4 0 4) + x2)]) (M' := M) rfl ?_
      refine wg_br (c := (M 4 0 1) ≤ ((M 4 0 4) + x2)) (t := 39) (f := 14) (st' := []) rfl (fun hc => ?_) (fun hc => ?_)
      · rw [if_pos hc] at h
        obtain rfl := Option.some.inj h
        exact wg_wk (wk_s (wk_s (wk_s (wk_s wk_e)))) rfl hk
      · rw [if_neg hc] at h
        refine wg_blk 6 (i' := 20) (L' := [some (.inr (.inl (4, 0))), some (.inl x1), some (.inl x2), some (.inl x3)]) (st' := [.inl ((M 4 0 4) + x2), .inr (.inl (5, 0))]) (M' := M) rfl ?_
        obtain ⟨hp1, h⟩ := wif h
        refine wg_ck (st' := [.inl (M 5 0 (((M 4 0 4) + x2)).toNatClampNeg)]) (M' := M) rfl (wib_in hp1) ?_
        refine wg_ca (d' := 1) (y := 63) (as := [.inl (M 5 0 (((M 4 0 4) + x2)).toNatClampNeg)]) (rest := []) (r := some (f_T_isFigure (M 5 0 (((M 4 0 4) + x2)).toNatClampNeg))) (M' := M) rfl (Nat.le_of_ble_eq_true rfl) (s_T_isFigure (M 5 0 (((M 4 0 4) + x2)).toNatClampNeg) M _ rfl) ?_
        refine wg_br (c := (f_T_isFigure (M 5 0 (((M 4 0 4) + x2)).toNatClampNeg)) = (0 : Int32)) (t := 39) (f := 23) (st' := []) rfl (fun hc => ?_) (fun hc => ?_)
        · rw [if_pos hc] at h
          obtain rfl := Option.some.inj h
          exact wg_wk (wk_s (wk_s (wk_s (wk_s wk_e)))) rfl hk
        · rw [if_neg hc] at h
          refine wg_blk 9 (i' := 32) (L' := [some (.inr (.inl (4, 0))), some (.inl x1), some (.inl x2), some (.inl x3)]) (st' := [.inl ((M 4 0 4) + x2), .inr (.inl (5, 0)), .inl ((10 : Int32) * x3)]) (M' := M) rfl ?_
          refine wg_ck (st' := [.inl (M 5 0 (((M 4 0 4) + x2)).toNatClampNeg), .inl ((10 : Int32) * x3)]) (M' := M) rfl (wib_in hp1) ?_
          refine wg_blk 6 (i' := 4) (L' := [some (.inr (.inl (4, 0))), some (.inl x1), some (.inl (x2 + (1 : Int32))), some (.inl ((((10 : Int32) * x3) + (M 5 0 (((M 4 0 4) + x2)).toNatClampNeg)) - (48 : Int32)))]) (st' := []) (M' := M) rfl ?_
          exact wg_wk (wk_s (wk_s (wk_s (wk_s wk_e)))) rfl (ih (x2 + (1 : Int32)) ((((10 : Int32) * x3) + (M 5 0 (((M 4 0 4) + x2)).toNatClampNeg)) - (48 : Int32)) _ h hk)
set_option maxRecDepth 20000 in
theorem s_T_readNumber (a1 : Int32) (M : wc_M) (z : Int32 × wc_M) (h : f_T_readNumber a1 M = some z) : wc_Sd 2 62 [.inr (.inl (4, 0)), .inl a1] M (some z.1) z.2 := by
  unfold f_T_readNumber at h
  refine wg_Sd (Nat.le_of_ble_eq_true rfl) ?_
  show wg 1 wx0 (some .int) wk_62 0 [some (.inr (.inl (4, 0))), some (.inl a1), none, none] [] M _
  refine wg_blk 4 (i' := 4) (L' := [some (.inr (.inl (4, 0))), some (.inl a1), some (.inl (0 : Int32)), some (.inl (0 : Int32))]) (st' := []) (M' := M) rfl ?_
  obtain ⟨t2, h3, h⟩ := wbs h
  refine wg_wk (wk_s (wk_s (wk_s (wk_s wk_e)))) rfl (l_T_readNumber_4_ok a1 M 2000 (0 : Int32) (0 : Int32) _ h3 ?_)
  refine wg_blk 1 (i' := 40) (L' := [some (.inr (.inl (4, 0))), some (.inl a1), some (.inl t2.1), some (.inl t2.2)]) (st' := [.inl t2.1]) (M' := M) rfl ?_
  refine wg_br (c := t2.1 = (0 : Int32)) (t := 44) (f := 41) (st' := []) rfl (fun hc => ?_) (fun hc => ?_)
  · rw [if_pos hc] at h
    refine wg_blk 4 (i' := 48) (L' := [some (.inr (.inl (4, 0))), some (.inl a1), some (.inl t2.1), some (.inl t2.2)]) (st' := [.inl (M 4 0 4), .inl (1 : Int32), .inr (.inl (4, 0))]) (M' := M) rfl ?_
    obtain ⟨q5, h4, h⟩ := wbs h
    refine wg_ca (d' := 1) (y := 64) (as := [.inr (.inl (4, 0)), .inl (1 : Int32), .inl (M 4 0 4)]) (rest := []) (r := some q5.1) (M' := q5.2) rfl (Nat.le_of_ble_eq_true rfl) (s_T_fail (1 : Int32) (M 4 0 4) M _ h4) ?_
    refine wg_blk 2 (i' := 51) (L' := [some (.inr (.inl (4, 0))), some (.inl a1), some (.inl t2.1), some (.inl t2.2)]) (st' := [.inl (-1 : Int32)]) (M' := q5.2) rfl ?_
    obtain rfl := Option.some.inj h
    exact wg_re rfl trivial ⟨rfl, rfl⟩
  · rw [if_neg hc] at h
    refine wg_blk 2 (i' := 43) (L' := [some (.inr (.inl (4, 0))), some (.inl a1), some (.inl t2.1), some (.inl t2.2)]) (st' := [.inl (3 : Int32), .inl t2.1]) (M' := M) rfl ?_
    refine wg_br (c := t2.1 = (3 : Int32)) (t := 44) (f := 52) (st' := []) rfl (fun hc => ?_) (fun hc => ?_)
    · rw [if_pos hc] at h
      refine wg_blk 4 (i' := 48) (L' := [some (.inr (.inl (4, 0))), some (.inl a1), some (.inl t2.1), some (.inl t2.2)]) (st' := [.inl (M 4 0 4), .inl (1 : Int32), .inr (.inl (4, 0))]) (M' := M) rfl ?_
      obtain ⟨q7, h6, h⟩ := wbs h
      refine wg_ca (d' := 1) (y := 64) (as := [.inr (.inl (4, 0)), .inl (1 : Int32), .inl (M 4 0 4)]) (rest := []) (r := some q7.1) (M' := q7.2) rfl (Nat.le_of_ble_eq_true rfl) (s_T_fail (1 : Int32) (M 4 0 4) M _ h6) ?_
      refine wg_blk 2 (i' := 51) (L' := [some (.inr (.inl (4, 0))), some (.inl a1), some (.inl t2.1), some (.inl t2.2)]) (st' := [.inl (-1 : Int32)]) (M' := q7.2) rfl ?_
      obtain rfl := Option.some.inj h
      exact wg_re rfl trivial ⟨rfl, rfl⟩
    · rw [if_neg hc] at h
      refine wg_blk 2 (i' := 54) (L' := [some (.inr (.inl (4, 0))), some (.inl a1), some (.inl t2.1), some (.inl t2.2)]) (st' := [.inl a1, .inl t2.2]) (M' := M) rfl ?_
      refine wg_br (c := t2.2 ≤ a1) (t := 63) (f := 55) (st' := []) rfl (fun hc => ?_) (fun hc => ?_)
      · rw [if_pos hc] at h
        refine wg_blk 7 (i' := 70) (L' := [some (.inr (.inl (4, 0))), some (.inl a1), some (.inl t2.1), some (.inl t2.2)]) (st' := [.inl t2.2]) (M' := (wc_up M 4 0 4 ((M 4 0 4) + t2.1))) rfl ?_
        obtain rfl := Option.some.inj h
        exact wg_re rfl trivial ⟨rfl, rfl⟩
      · rw [if_neg hc] at h
        refine wg_blk 4 (i' := 59) (L' := [some (.inr (.inl (4, 0))), some (.inl a1), some (.inl t2.1), some (.inl t2.2)]) (st' := [.inl (M 4 0 4), .inl (2 : Int32), .inr (.inl (4, 0))]) (M' := M) rfl ?_
        obtain ⟨q9, h8, h⟩ := wbs h
        refine wg_ca (d' := 1) (y := 64) (as := [.inr (.inl (4, 0)), .inl (2 : Int32), .inl (M 4 0 4)]) (rest := []) (r := some q9.1) (M' := q9.2) rfl (Nat.le_of_ble_eq_true rfl) (s_T_fail (2 : Int32) (M 4 0 4) M _ h8) ?_
        refine wg_blk 2 (i' := 62) (L' := [some (.inr (.inl (4, 0))), some (.inl a1), some (.inl t2.1), some (.inl t2.2)]) (st' := [.inl (-1 : Int32)]) (M' := q9.2) rfl ?_
        obtain rfl := Option.some.inj h
        exact wg_re rfl trivial ⟨rfl, rfl⟩
