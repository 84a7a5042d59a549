/-! THE FUNCTIONS are what the code does (written by wip/whole/gen/dec.py) -/
set_option maxRecDepth 20000 in
theorem s_M_feltWith (a1 : Int32) (a2 : Int32) (a3 : Int32) (M : wc_M) (z : Int32 × wc_M) (h : f_M_feltWith a1 a2 a3 M = some z) : wc_Sd 6 135 [.inr (.inl (21, 0)), .inl a1, .inl a2, .inl a3] M (some z.1) z.2 := by
  unfold f_M_feltWith at h
  refine wg_Sd (Nat.le_of_ble_eq_true rfl) ?_
  show wg 5 wx0 (some .int) wk_135 0 [some (.inr (.inl (21, 0))), some (.inl a1), some (.inl a2), some (.inl a3), none] [] M _
  refine wg_blk 1 (i' := 1) (L' := [some (.inr (.inl (21, 0))), some (.inl a1), some (.inl a2), some (.inl a3), none]) (st' := [.inr (.inl (21, 0))]) (M' := M) rfl ?_
  obtain ⟨m2, h1, h⟩ := wbs h
  refine wg_ca (d' := 1) (y := 126) (as := [.inr (.inl (21, 0))]) (rest := []) (r := none) (M' := m2) rfl (Nat.le_of_ble_eq_true rfl) (s_M_putAside M _ h1) ?_
  refine wg_blk 1 (i' := 3) (L' := [some (.inr (.inl (21, 0))), some (.inl a1), some (.inl a2), some (.inl a3), none]) (st' := [.inl a2]) (M' := m2) rfl ?_
  obtain ⟨t3, h12, h⟩ := wbs h
  have k : wg 5 wx0 (some .int) wk_135 11 [some (.inr (.inl (21, 0))), some (.inl a1), none, some (.inl a3), none] [] t3 (fun r2 M2 => r2 = some z.1 ∧ M2 = z.2) := by
    refine wg_blk 1 (i' := 12) (L' := [some (.inr (.inl (21, 0))), some (.inl a1), none, some (.inl a3), none]) (st' := [.inl a3]) (M' := t3) rfl ?_
    obtain ⟨t5, h11, h⟩ := wbs h
    have k : wg 5 wx0 (some .int) wk_135 20 [some (.inr (.inl (21, 0))), some (.inl a1), none, none, none] [] t5 (fun r2 M2 => r2 = some z.1 ∧ M2 = z.2) := by
      refine wg_blk 2 (i' := 22) (L' := [some (.inr (.inl (21, 0))), some (.inl a1), none, none, none]) (st' := [.inl a1, .inr (.inl (21, 0))]) (M' := t5) rfl ?_
      obtain ⟨q8, h7, h⟩ := wbs h
      refine wg_ca (d' := 5) (y := 113) (as := [.inr (.inl (21, 0)), .inl a1]) (rest := []) (r := some q8.1) (M' := q8.2) rfl (Nat.le_of_ble_eq_true rfl) (s_M_feltNow a1 t5 _ h7) ?_
      refine wg_blk 2 (i' := 25) (L' := [some (.inr (.inl (21, 0))), some (.inl a1), none, none, some (.inl q8.1)]) (st' := [.inr (.inl (21, 0))]) (M' := q8.2) rfl ?_
      obtain ⟨m10, h9, h⟩ := wbs h
      refine wg_ca (d' := 1) (y := 127) (as := [.inr (.inl (21, 0))]) (rest := []) (r := none) (M' := m10) rfl (Nat.le_of_ble_eq_true rfl) (s_M_takeBack q8.2 _ h9) ?_
      refine wg_blk 1 (i' := 27) (L' := [some (.inr (.inl (21, 0))), some (.inl a1), none, none, some (.inl q8.1)]) (st' := [.inl q8.1]) (M' := m10) rfl ?_
      obtain rfl := Option.some.inj h
      exact wg_re rfl trivial ⟨rfl, rfl⟩
    clear h
    have h := h11
    clear h11
    refine wg_br (c := a3 < (0 : Int32)) (t := 20) (f := 13) (st' := []) rfl (fun hc => ?_) (fun hc => ?_)
    · rw [if_pos hc] at h
      obtain rfl := Option.some.inj h
      exact wg_wk (wk_s (wk_s (wk_n (wk_n (wk_n wk_e))))) rfl k
    · rw [if_neg hc] at h
      refine wg_blk 6 (i' := 19) (L' := [some (.inr (.inl (21, 0))), some (.inl a1), none, some (.inl a3), none]) (st' := [.inl (1 : Int32), .inl ((9 : Int32) + a3), .inr (.inl (25, 0))]) (M' := t3) rfl ?_
      obtain ⟨hp6, h⟩ := wif h
      refine wg_ck (st' := []) (M' := (wc_up t3 25 0 (((9 : Int32) + a3)).toNatClampNeg (1 : Int32))) rfl (wib_in hp6) ?_
      obtain rfl := Option.some.inj h
      exact wg_wk (wk_s (wk_s (wk_n (wk_n (wk_n wk_e))))) rfl k
  clear h
  have h := h12
  clear h12
  refine wg_br (c := a2 < (0 : Int32)) (t := 11) (f := 4) (st' := []) rfl (fun hc => ?_) (fun hc => ?_)
  · rw [if_pos hc] at h
    obtain rfl := Option.some.inj h
    exact wg_wk (wk_s (wk_s (wk_n (wk_s (wk_n wk_e))))) rfl k
  · rw [if_neg hc] at h
    refine wg_blk 6 (i' := 10) (L' := [some (.inr (.inl (21, 0))), some (.inl a1), some (.inl a2), some (.inl a3), none]) (st' := [.inl (1 : Int32), .inl ((9 : Int32) + a2), .inr (.inl (25, 0))]) (M' := m2) rfl ?_
    obtain ⟨hp4, h⟩ := wif h
    refine wg_ck (st' := []) (M' := (wc_up m2 25 0 (((9 : Int32) + a2)).toNatClampNeg (1 : Int32))) rfl (wib_in hp4) ?_
    obtain rfl := Option.some.inj h
    exact wg_wk (wk_s (wk_s (wk_n (wk_s (wk_n wk_e))))) rfl k
set_option maxRecDepth 20000 in
theorem l_M_walls_35_ok (x1 : Int32) (x2 : Int32) (x3 : Int32) {K : Option Int32 → wc_M → Prop} : ∀ (n : Nat) (x4 : Int32) (M : wc_M) (o : (Int32 × wc_M) ⊕ (wc_M)), l_M_walls_35 x1 x2 x3 n x4 M = some o → wel (fun r => K (some r.1) r.2) (fun t => wg 6 wx0 (some .int) wk_136 61 [some (.inr (.inl (21, 0))), some (.inl x1), some (.inl x2), some (.inl x3), none, none] [] t K) o → wg 6 wx0 (some .int) wk_136 35 [some (.inr (.inl (21, 0))), some (.inl x1), some (.inl x2), some (.inl x3), some (.inl x4), none] [] M K := by
  intro n
  induction n with
  | zero =>
    intro x4 M o h hk
    exact nomatch (show (none : Option ((Int32 × wc_M) ⊕ (wc_M))) = some o from h)
  | succ n ih =>
    intro x4 M o h hk
    unfold l_M_walls_35 at h
    refine wg_blk 2 (i' := 37) (L' := [some (.inr (.inl (21, 0))), some (.inl x1), some (.inl x2), some (.inl x3), some (.inl x4), none]) (st' := [.inl (16 : Int32), .inl x4]) (M' := M) rfl ?_
    refine wg_br (c := (16 : Int32) ≤ x4) (t := 61) (f := 38) (st' := []) rfl (fun hc => ?_) (fun hc => ?_)
    · rw [if_pos hc] at h
      obtain rfl := Option.some.inj h
      exact wg_wk (wk_s (wk_s (wk_s (wk_s (wk_n (wk_n wk_e)))))) rfl hk
    · rw [if_neg hc] at h
      refine wg_blk 2 (i' := 40) (L' := [some (.inr (.inl (21, 0))), some (.inl x1), some (.inl x2), some (.inl x3), some (.inl x4), none]) (st' := [.inl x4, .inr (.inl (21, 0))]) (M' := M) rfl ?_
      obtain ⟨v4, h3, h⟩ := wbs h
      refine wg_ca (d' := 1) (y := 110) (as := [.inr (.inl (21, 0)), .inl x4]) (rest := []) (r := some v4) (M' := M) rfl (Nat.le_of_ble_eq_true rfl) (s_M_isWork x4 M _ h3) ?_
      refine wg_br (c := v4 = (0 : Int32)) (t := 42) (f := 59) (st' := []) rfl (fun hc => ?_) (fun hc => ?_)
      · rw [if_pos hc] at h
        refine wg_blk 4 (i' := 46) (L' := [some (.inr (.inl (21, 0))), some (.inl x1), some (.inl x2), some (.inl x3), some (.inl x4), none]) (st' := [.inl (-1 : Int32), .inl x4, .inl x1, .inr (.inl (21, 0))]) (M' := M) rfl ?_
        obtain ⟨q6, h5, h⟩ := wbs h
        refine wg_ca (d' := 6) (y := 135) (as := [.inr (.inl (21, 0)), .inl x1, .inl x4, .inl (-1 : Int32)]) (rest := []) (r := some q6.1) (M' := q6.2) rfl (Nat.le_of_ble_eq_true rfl) (s_M_feltWith x1 x4 (-1 : Int32) M _ h5) ?_
        refine wg_blk 1 (i' := 48) (L' := [some (.inr (.inl (21, 0))), some (.inl x1), some (.inl x2), some (.inl x3), some (.inl x4), none]) (st' := [.inl x2, .inl q6.1]) (M' := q6.2) rfl ?_
        refine wg_br (c := q6.1 < x2) (t := 59) (f := 49) (st' := []) rfl (fun hc => ?_) (fun hc => ?_)
        · rw [if_pos hc] at h
          refine wg_blk 2 (i' := 35) (L' := [some (.inr (.inl (21, 0))), some (.inl x1), some (.inl x2), some (.inl x3), some (.inl (x4 + (1 : Int32))), none]) (st' := []) (M' := q6.2) rfl ?_
          exact wg_wk (wk_s (wk_s (wk_s (wk_s (wk_s (wk_n wk_e)))))) rfl (ih (x4 + (1 : Int32)) q6.2 _ h hk)
        · rw [if_neg hc] at h
          refine wg_blk 1 (i' := 50) (L' := [some (.inr (.inl (21, 0))), some (.inl x1), some (.inl x2), some (.inl x3), some (.inl x4), none]) (st' := [.inl x3]) (M' := q6.2) rfl ?_
          refine wg_br (c := (0 : Int32) ≤ x3) (t := 53) (f := 51) (st' := []) rfl (fun hc => ?_) (fun hc => ?_)
          · rw [if_pos hc] at h
            refine wg_blk 1 (i' := 54) (L' := [some (.inr (.inl (21, 0))), some (.inl x1), some (.inl x2), some (.inl x3), some (.inl x4), none]) (st' := [.inl x3]) (M' := q6.2) rfl ?_
            refine wg_br (c := x3 = (0 : Int32)) (t := 55) (f := 57) (st' := []) rfl (fun hc => ?_) (fun hc => ?_)
            · rw [if_pos hc] at h
              refine wg_blk 2 (i' := 58) (L' := [some (.inr (.inl (21, 0))), some (.inl x1), some (.inl x2), some (.inl x3), some (.inl x4), none]) (st' := [.inl x4]) (M' := q6.2) rfl ?_
              obtain rfl := Option.some.inj h
              exact wg_re rfl trivial hk
            · rw [if_neg hc] at h
              refine wg_blk 1 (i' := 58) (L' := [some (.inr (.inl (21, 0))), some (.inl x1), some (.inl x2), some (.inl x3), some (.inl x4), none]) (st' := [.inl (-1000000 : Int32)]) (M' := q6.2) rfl ?_
              obtain rfl := Option.some.inj h
              exact wg_re rfl trivial hk
          · rw [if_neg hc] at h
            refine wg_blk 2 (i' := 58) (L' := [some (.inr (.inl (21, 0))), some (.inl x1), some (.inl x2), some (.inl x3), some (.inl x4), none]) (st' := [.inl (1 : Int32)]) (M' := q6.2) rfl ?_
            obtain rfl := Option.some.inj h
            exact wg_re rfl trivial hk
      · rw [if_neg hc] at h
        refine wg_blk 2 (i' := 35) (L' := [some (.inr (.inl (21, 0))), some (.inl x1), some (.inl x2), some (.inl x3), some (.inl (x4 + (1 : Int32))), none]) (st' := []) (M' := M) rfl ?_
        exact wg_wk (wk_s (wk_s (wk_s (wk_s (wk_s (wk_n wk_e)))))) rfl (ih (x4 + (1 : Int32)) M _ h hk)
set_option maxRecDepth 20000 in
theorem l_M_walls_70_ok (x1 : Int32) (x2 : Int32) (x3 : Int32) (x4 : Int32) {K : Option Int32 → wc_M → Prop} : ∀ (n : Nat) (x5 : Int32) (M : wc_M) (o : (Int32 × wc_M) ⊕ (wc_M)), l_M_walls_70 x1 x2 x3 x4 n x5 M = some o → wel (fun r => K (some r.1) r.2) (fun t => wg 6 wx0 (some .int) wk_136 100 [some (.inr (.inl (21, 0))), some (.inl x1), some (.inl x2), some (.inl x3), some (.inl x4), none] [] t K) o → wg 6 wx0 (some .int) wk_136 70 [some (.inr (.inl (21, 0))), some (.inl x1), some (.inl x2), some (.inl x3), some (.inl x4), some (.inl x5)] [] M K := by
  intro n
  induction n with
  | zero =>
    intro x5 M o h hk
    exact nomatch (show (none : Option ((Int32 × wc_M) ⊕ (wc_M))) = some o from h)
  | succ n ih =>
    intro x5 M o h hk
    unfold l_M_walls_70 at h
    refine wg_blk 2 (i' := 72) (L' := [some (.inr (.inl (21, 0))), some (.inl x1), some (.inl x2), some (.inl x3), some (.inl x4), some (.inl x5)]) (st' := [.inl (16 : Int32), .inl x5]) (M' := M) rfl ?_
    refine wg_br (c := (16 : Int32) ≤ x5) (t := 100) (f := 73) (st' := []) rfl (fun hc => ?_) (fun hc => ?_)
    · rw [if_pos hc] at h
      obtain rfl := Option.some.inj h
      exact wg_wk (wk_s (wk_s (wk_s (wk_s (wk_s (wk_n wk_e)))))) rfl hk
    · rw [if_neg hc] at h
      refine wg_blk 2 (i' := 75) (L' := [some (.inr (.inl (21, 0))), some (.inl x1), some (.inl x2), some (.inl x3), some (.inl x4), some (.inl x5)]) (st' := [.inl x4, .inr (.inl (21, 0))]) (M' := M) rfl ?_
      obtain ⟨v10, h9, h⟩ := wbs h
      refine wg_ca (d' := 1) (y := 110) (as := [.inr (.inl (21, 0)), .inl x4]) (rest := []) (r := some v10) (M' := M) rfl (Nat.le_of_ble_eq_true rfl) (s_M_isWork x4 M _ h9) ?_
      refine wg_br (c := v10 = (0 : Int32)) (t := 77) (f := 98) (st' := []) rfl (fun hc => ?_) (fun hc => ?_)
      · rw [if_pos hc] at h
        refine wg_blk 2 (i' := 79) (L' := [some (.inr (.inl (21, 0))), some (.inl x1), some (.inl x2), some (.inl x3), some (.inl x4), some (.inl x5)]) (st' := [.inl x5, .inr (.inl (21, 0))]) (M' := M) rfl ?_
        obtain ⟨v12, h11, h⟩ := wbs h
        refine wg_ca (d' := 1) (y := 110) (as := [.inr (.inl (21, 0)), .inl x5]) (rest := []) (r := some v12) (M' := M) rfl (Nat.le_of_ble_eq_true rfl) (s_M_isWork x5 M _ h11) ?_
        refine wg_br (c := v12 = (0 : Int32)) (t := 81) (f := 98) (st' := []) rfl (fun hc => ?_) (fun hc => ?_)
        · rw [if_pos hc] at h
          refine wg_blk 4 (i' := 85) (L' := [some (.inr (.inl (21, 0))), some (.inl x1), some (.inl x2), some (.inl x3), some (.inl x4), some (.inl x5)]) (st' := [.inl x5, .inl x4, .inl x1, .inr (.inl (21, 0))]) (M' := M) rfl ?_
          obtain ⟨q14, h13, h⟩ := wbs h
          refine wg_ca (d' := 6) (y := 135) (as := [.inr (.inl (21, 0)), .inl x1, .inl x4, .inl x5]) (rest := []) (r := some q14.1) (M' := q14.2) rfl (Nat.le_of_ble_eq_true rfl) (s_M_feltWith x1 x4 x5 M _ h13) ?_
          refine wg_blk 1 (i' := 87) (L' := [some (.inr (.inl (21, 0))), some (.inl x1), some (.inl x2), some (.inl x3), some (.inl x4), some (.inl x5)]) (st' := [.inl x2, .inl q14.1]) (M' := q14.2) rfl ?_
          refine wg_br (c := q14.1 < x2) (t := 98) (f := 88) (st' := []) rfl (fun hc => ?_) (fun hc => ?_)
          · rw [if_pos hc] at h
            refine wg_blk 2 (i' := 70) (L' := [some (.inr (.inl (21, 0))), some (.inl x1), some (.inl x2), some (.inl x3), some (.inl x4), some (.inl (x5 + (1 : Int32)))]) (st' := []) (M' := q14.2) rfl ?_
            exact wg_wk (wk_s (wk_s (wk_s (wk_s (wk_s (wk_s wk_e)))))) rfl (ih (x5 + (1 : Int32)) q14.2 _ h hk)
          · rw [if_neg hc] at h
            refine wg_blk 1 (i' := 89) (L' := [some (.inr (.inl (21, 0))), some (.inl x1), some (.inl x2), some (.inl x3), some (.inl x4), some (.inl x5)]) (st' := [.inl x3]) (M' := q14.2) rfl ?_
            refine wg_br (c := (0 : Int32) ≤ x3) (t := 92) (f := 90) (st' := []) rfl (fun hc => ?_) (fun hc => ?_)
            · rw [if_pos hc] at h
              refine wg_blk 1 (i' := 93) (L' := [some (.inr (.inl (21, 0))), some (.inl x1), some (.inl x2), some (.inl x3), some (.inl x4), some (.inl x5)]) (st' := [.inl x3]) (M' := q14.2) rfl ?_
              refine wg_br (c := x3 = (0 : Int32)) (t := 94) (f := 96) (st' := []) rfl (fun hc => ?_) (fun hc => ?_)
              · rw [if_pos hc] at h
                refine wg_blk 2 (i' := 97) (L' := [some (.inr (.inl (21, 0))), some (.inl x1), some (.inl x2), some (.inl x3), some (.inl x4), some (.inl x5)]) (st' := [.inl x4]) (M' := q14.2) rfl ?_
                obtain rfl := Option.some.inj h
                exact wg_re rfl trivial hk
              · rw [if_neg hc] at h
                refine wg_blk 1 (i' := 97) (L' := [some (.inr (.inl (21, 0))), some (.inl x1), some (.inl x2), some (.inl x3), some (.inl x4), some (.inl x5)]) (st' := [.inl x5]) (M' := q14.2) rfl ?_
                obtain rfl := Option.some.inj h
                exact wg_re rfl trivial hk
            · rw [if_neg hc] at h
              refine wg_blk 2 (i' := 97) (L' := [some (.inr (.inl (21, 0))), some (.inl x1), some (.inl x2), some (.inl x3), some (.inl x4), some (.inl x5)]) (st' := [.inl (2 : Int32)]) (M' := q14.2) rfl ?_
              obtain rfl := Option.some.inj h
              exact wg_re rfl trivial hk
        · rw [if_neg hc] at h
          refine wg_blk 2 (i' := 70) (L' := [some (.inr (.inl (21, 0))), some (.inl x1), some (.inl x2), some (.inl x3), some (.inl x4), some (.inl (x5 + (1 : Int32)))]) (st' := []) (M' := M) rfl ?_
          exact wg_wk (wk_s (wk_s (wk_s (wk_s (wk_s (wk_s wk_e)))))) rfl (ih (x5 + (1 : Int32)) M _ h hk)
      · rw [if_neg hc] at h
        refine wg_blk 2 (i' := 70) (L' := [some (.inr (.inl (21, 0))), some (.inl x1), some (.inl x2), some (.inl x3), some (.inl x4), some (.inl (x5 + (1 : Int32)))]) (st' := []) (M' := M) rfl ?_
        exact wg_wk (wk_s (wk_s (wk_s (wk_s (wk_s (wk_s wk_e)))))) rfl (ih (x5 + (1 : Int32)) M _ h hk)
set_option maxRecDepth 20000 in
theorem l_M_walls_63_ok (x1 : Int32) (x2 : Int32) (x3 : Int32) {K : Option Int32 → wc_M → Prop} : ∀ (n : Nat) (x4 : Int32) (M : wc_M) (o : (Int32 × wc_M) ⊕ (wc_M)), l_M_walls_63 x1 x2 x3 n x4 M = some o → wel (fun r => K (some r.1) r.2) (fun t => wg 6 wx0 (some .int) wk_136 102 [none, none, none, none, none, none] [] t K) o → wg 6 wx0 (some .int) wk_136 63 [some (.inr (.inl (21, 0))), some (.inl x1), some (.inl x2), some (.inl x3), some (.inl x4), none] [] M K := by
  intro n
  induction n with
  | zero =>
    intro x4 M o h hk
    exact nomatch (show (none : Option ((Int32 × wc_M) ⊕ (wc_M))) = some o from h)
  | succ n ih =>
    intro x4 M o h hk
    unfold l_M_walls_63 at h
    refine wg_blk 2 (i' := 65) (L' := [some (.inr (.inl (21, 0))), some (.inl x1), some (.inl x2), some (.inl x3), some (.inl x4), none]) (st' := [.inl (16 : Int32), .inl x4]) (M' := M) rfl ?_
    refine wg_br (c := (16 : Int32) ≤ x4) (t := 102) (f := 66) (st' := []) rfl (fun hc => ?_) (fun hc => ?_)
    · rw [if_pos hc] at h
      obtain rfl := Option.some.inj h
      exact wg_wk (wk_n (wk_n (wk_n (wk_n (wk_n (wk_n wk_e)))))) rfl hk
    · rw [if_neg hc] at h
      refine wg_blk 4 (i' := 70) (L' := [some (.inr (.inl (21, 0))), some (.inl x1), some (.inl x2), some (.inl x3), some (.inl x4), some (.inl (x4 + (1 : Int32)))]) (st' := []) (M' := M) rfl ?_
      obtain ⟨o11, h10, h⟩ := wbs h
      refine wg_wk (wk_s (wk_s (wk_s (wk_s (wk_s (wk_s wk_e)))))) rfl (l_M_walls_70_ok x1 x2 x3 x4 2000 (x4 + (1 : Int32)) M _ h10 ?_)
      rcases o11 with r12 | t9
      · dsimp only [wel] at h ⊢
        obtain rfl := Option.some.inj h
        exact hk
      · dsimp only [wel] at h ⊢
        refine wg_blk 2 (i' := 63) (L' := [some (.inr (.inl (21, 0))), some (.inl x1), some (.inl x2), some (.inl x3), some (.inl (x4 + (1 : Int32))), none]) (st' := []) (M' := t9) rfl ?_
        exact wg_wk (wk_s (wk_s (wk_s (wk_s (wk_s (wk_n wk_e)))))) rfl (ih (x4 + (1 : Int32)) t9 _ h hk)
set_option maxRecDepth 20000 in
theorem s_M_walls (a1 : Int32) (a2 : Int32) (a3 : Int32) (M : wc_M) (z : Int32 × wc_M) (h : f_M_walls a1 a2 a3 M = some z) : wc_Sd 7 136 [.inr (.inl (21, 0)), .inl a1, .inl a2, .inl a3] M (some z.1) z.2 := by
  unfold f_M_walls at h
  refine wg_Sd (Nat.le_of_ble_eq_true rfl) ?_
  show wg 6 wx0 (some .int) wk_136 0 [some (.inr (.inl (21, 0))), some (.inl a1), some (.inl a2), some (.inl a3), none, none] [] M _
  refine wg_blk 2 (i' := 2) (L' := [some (.inr (.inl (21, 0))), some (.inl a1), some (.inl a2), some (.inl a3), none, none]) (st' := [.inl (M 21 0 4)]) (M' := M) rfl ?_
  refine wg_br (c := (M 21 0 4) = (0 : Int32)) (t := 3) (f := 5) (st' := []) rfl (fun hc => ?_) (fun hc => ?_)
  · rw [if_pos hc] at h
    refine wg_blk 1 (i' := 4) (L' := [some (.inr (.inl (21, 0))), some (.inl a1), some (.inl a2), some (.inl a3), none, none]) (st' := [.inl (-1000002 : Int32)]) (M' := M) rfl ?_
    obtain rfl := Option.some.inj h
    exact wg_re rfl trivial ⟨rfl, rfl⟩
  · rw [if_neg hc] at h
    refine wg_blk 1 (i' := 6) (L' := [some (.inr (.inl (21, 0))), some (.inl a1), some (.inl a2), some (.inl a3), none, none]) (st' := [.inl a1]) (M' := M) rfl ?_
    refine wg_ca (d' := 2) (y := 108) (as := [.inl a1]) (rest := []) (r := some (f_M_isCell a1)) (M' := M) rfl (Nat.le_of_ble_eq_true rfl) (s_M_isCell a1 M _ rfl) ?_
    refine wg_br (c := (f_M_isCell a1) = (0 : Int32)) (t := 20) (f := 8) (st' := []) rfl (fun hc => ?_) (fun hc => ?_)
    · rw [if_pos hc] at h
      refine wg_blk 1 (i' := 21) (L' := [some (.inr (.inl (21, 0))), some (.inl a1), some (.inl a2), some (.inl a3), none, none]) (st' := [.inl (-1000001 : Int32)]) (M' := M) rfl ?_
      obtain rfl := Option.some.inj h
      exact wg_re rfl trivial ⟨rfl, rfl⟩
    · rw [if_neg hc] at h
      refine wg_blk 4 (i' := 12) (L' := [some (.inr (.inl (21, 0))), some (.inl a1), some (.inl a2), some (.inl a3), none, none]) (st' := [.inr (.inr (99 : Int64)), .inr (.inr (0 : Int64)), .inr (.inr (a2).toInt64)]) (M' := M) rfl ?_
      refine wg_ca (d' := 1) (y := 87) (as := [.inr (.inr (a2).toInt64), .inr (.inr (0 : Int64)), .inr (.inr (99 : Int64))]) (rest := []) (r := some (f_M_in (a2).toInt64 (0 : Int64) (99 : Int64))) (M' := M) rfl (Nat.le_of_ble_eq_true rfl) (s_M_in (a2).toInt64 (0 : Int64) (99 : Int64) M _ rfl) ?_
      refine wg_br (c := (f_M_in (a2).toInt64 (0 : Int64) (99 : Int64)) = (0 : Int32)) (t := 20) (f := 14) (st' := []) rfl (fun hc => ?_) (fun hc => ?_)
      · rw [if_pos hc] at h
        refine wg_blk 1 (i' := 21) (L' := [some (.inr (.inl (21, 0))), some (.inl a1), some (.inl a2), some (.inl a3), none, none]) (st' := [.inl (-1000001 : Int32)]) (M' := M) rfl ?_
        obtain rfl := Option.some.inj h
        exact wg_re rfl trivial ⟨rfl, rfl⟩
      · rw [if_neg hc] at h
        refine wg_blk 4 (i' := 18) (L' := [some (.inr (.inl (21, 0))), some (.inl a1), some (.inl a2), some (.inl a3), none, none]) (st' := [.inr (.inr (1 : Int64)), .inr (.inr (-1 : Int64)), .inr (.inr (a3).toInt64)]) (M' := M) rfl ?_
        refine wg_ca (d' := 1) (y := 87) (as := [.inr (.inr (a3).toInt64), .inr (.inr (-1 : Int64)), .inr (.inr (1 : Int64))]) (rest := []) (r := some (f_M_in (a3).toInt64 (-1 : Int64) (1 : Int64))) (M' := M) rfl (Nat.le_of_ble_eq_true rfl) (s_M_in (a3).toInt64 (-1 : Int64) (1 : Int64) M _ rfl) ?_
        refine wg_br (c := (f_M_in (a3).toInt64 (-1 : Int64) (1 : Int64)) = (0 : Int32)) (t := 20) (f := 22) (st' := []) rfl (fun hc => ?_) (fun hc => ?_)
        · rw [if_pos hc] at h
          refine wg_blk 1 (i' := 21) (L' := [some (.inr (.inl (21, 0))), some (.inl a1), some (.inl a2), some (.inl a3), none, none]) (st' := [.inl (-1000001 : Int32)]) (M' := M) rfl ?_
          obtain rfl := Option.some.inj h
          exact wg_re rfl trivial ⟨rfl, rfl⟩
        · rw [if_neg hc] at h
          refine wg_blk 2 (i' := 24) (L' := [some (.inr (.inl (21, 0))), some (.inl a1), some (.inl a2), some (.inl a3), none, none]) (st' := [.inl a1, .inr (.inl (21, 0))]) (M' := M) rfl ?_
          obtain ⟨q2, h1, h⟩ := wbs h
          refine wg_ca (d' := 5) (y := 113) (as := [.inr (.inl (21, 0)), .inl a1]) (rest := []) (r := some q2.1) (M' := q2.2) rfl (Nat.le_of_ble_eq_true rfl) (s_M_feltNow a1 M _ h1) ?_
          refine wg_blk 1 (i' := 26) (L' := [some (.inr (.inl (21, 0))), some (.inl a1), some (.inl a2), some (.inl a3), none, none]) (st' := [.inl a2, .inl q2.1]) (M' := q2.2) rfl ?_
          refine wg_br (c := q2.1 < a2) (t := 33) (f := 27) (st' := []) rfl (fun hc => ?_) (fun hc => ?_)
          · rw [if_pos hc] at h
            refine wg_blk 2 (i' := 35) (L' := [some (.inr (.inl (21, 0))), some (.inl a1), some (.inl a2), some (.inl a3), some (.inl (0 : Int32)), none]) (st' := []) (M' := q2.2) rfl ?_
            obtain ⟨o17, h8, h⟩ := wbs h
            refine wg_wk (wk_s (wk_s (wk_s (wk_s (wk_s (wk_n wk_e)))))) rfl (l_M_walls_35_ok a1 a2 a3 2000 (0 : Int32) q2.2 _ h8 ?_)
            rcases o17 with r18 | t7
            · dsimp only [wel] at h ⊢
              obtain rfl := Option.some.inj h
              exact ⟨rfl, rfl⟩
            · dsimp only [wel] at h ⊢
              refine wg_blk 2 (i' := 63) (L' := [some (.inr (.inl (21, 0))), some (.inl a1), some (.inl a2), some (.inl a3), some (.inl (0 : Int32)), none]) (st' := []) (M' := t7) rfl ?_
              obtain ⟨o15, h14, h⟩ := wbs h
              refine wg_wk (wk_s (wk_s (wk_s (wk_s (wk_s (wk_n wk_e)))))) rfl (l_M_walls_63_ok a1 a2 a3 2000 (0 : Int32) t7 _ h14 ?_)
              rcases o15 with r16 | t13
              · dsimp only [wel] at h ⊢
                obtain rfl := Option.some.inj h
                exact ⟨rfl, rfl⟩
              · dsimp only [wel] at h ⊢
                refine wg_blk 1 (i' := 103) (L' := [none, none, none, none, none, none]) (st' := [.inl (-1000000 : Int32)]) (M' := t13) rfl ?_
                obtain rfl := Option.some.inj h
                exact wg_re rfl trivial ⟨rfl, rfl⟩
          · rw [if_neg hc] at h
            refine wg_blk 1 (i' := 28) (L' := [some (.inr (.inl (21, 0))), some (.inl a1), some (.inl a2), some (.inl a3), none, none]) (st' := [.inl a3]) (M' := q2.2) rfl ?_
            refine wg_br (c := (0 : Int32) ≤ a3) (t := 31) (f := 29) (st' := []) rfl (fun hc => ?_) (fun hc => ?_)
            · rw [if_pos hc] at h
              refine wg_blk 1 (i' := 32) (L' := [some (.inr (.inl (21, 0))), some (.inl a1), some (.inl a2), some (.inl a3), none, none]) (st' := [.inl (-1000000 : Int32)]) (M' := q2.2) rfl ?_
              obtain rfl := Option.some.inj h
              exact wg_re rfl trivial ⟨rfl, rfl⟩
            · rw [if_neg hc] at h
              refine wg_blk 2 (i' := 32) (L' := [some (.inr (.inl (21, 0))), some (.inl a1), some (.inl a2), some (.inl a3), none, none]) (st' := [.inl (0 : Int32)]) (M' := q2.2) rfl ?_
              obtain rfl := Option.some.inj h
              exact wg_re rfl trivial ⟨rfl, rfl⟩
set_option maxRecDepth 20000 in
theorem l_C_isFeltAlong_2_ok (x1 : Int32) (p2 : Nat) (x3 : Int32) (M : wc_M) {K : Option Int32 → wc_M → Prop} : ∀ (n : Nat) (x4 : Int32) (o : (Int32) ⊕ (Unit)), l_C_isFeltAlong_2 x1 p2 x3 M n x4 = some o → wel (fun r => K (some r) M) (fun t => wg 0 wx0 (some .boolean) wk_47 24 [none, none, none, none, none] [] M K) o → wg 0 wx0 (some .boolean) wk_47 2 [some (.inr (.inl (0, 0))), some (.inl x1), some (.inr (.inl (3, p2))), some (.inl x3), some (.inl x4)] [] M K := by
  intro n
  induction n with
  | zero =>
    intro x4 o h hk
    exact nomatch (show (none : Option ((Int32) ⊕ (Unit))) = some o from h)
  | succ n ih =>
    intro x4 o h hk
    unfold l_C_isFeltAlong_2 at h
    refine wg_blk 2 (i' := 4) (L' := [some (.inr (.inl (0, 0))), some (.inl x1), some (.inr (.inl (3, p2))), some (.inl x3), some (.inl x4)]) (st' := [.inl (4 : Int32), .inl x4]) (M' := M) rfl ?_
    refine wg_br (c := (4 : Int32) ≤ x4) (t := 24) (f := 5) (st' := []) rfl (fun hc => ?_) (fun hc => ?_)
    · rw [if_pos hc] at h
      obtain rfl := Option.some.inj h
      exact wg_wk (wk_n (wk_n (wk_n (wk_n (wk_n wk_e))))) rfl hk
    · rw [if_neg hc] at h
      refine wg_blk 4 (i' := 9) (L' := [some (.inr (.inl (0, 0))), some (.inl x1), some (.inr (.inl (3, p2))), some (.inl x3), some (.inl x4)]) (st' := [.inl (x3 + x4), .inr (.inl (3, p2))]) (M' := M) rfl ?_
      obtain ⟨hp1, h⟩ := wif h
      refine wg_ck (st' := [.inl (M 3 p2 ((x3 + x4)).toNatClampNeg)]) (M' := M) rfl (wib_in hp1) ?_
      refine wg_blk 8 (i' := 18) (L' := [some (.inr (.inl (0, 0))), some (.inl x1), some (.inr (.inl (3, p2))), some (.inl x3), some (.inl x4)]) (st' := [.inl (((4 : Int32) * x4) + x1), .inr (.inl (13, 0)), .inl (M 3 p2 ((x3 + x4)).toNatClampNeg)]) (M' := M) rfl ?_
      obtain ⟨hp2, h⟩ := wif h
      refine wg_ck (st' := [.inl (M 13 0 ((((4 : Int32) * x4) + x1)).toNatClampNeg), .inl (M 3 p2 ((x3 + x4)).toNatClampNeg)]) (M' := M) rfl (wib_in hp2) ?_
      refine wg_br (c := (M 3 p2 ((x3 + x4)).toNatClampNeg) = (M 13 0 ((((4 : Int32) * x4) + x1)).toNatClampNeg)) (t := 22) (f := 20) (st' := []) rfl (fun hc => ?_) (fun hc => ?_)
      · rw [if_pos hc] at h
        refine wg_blk 2 (i' := 2) (L' := [some (.inr (.inl (0, 0))), some (.inl x1), some (.inr (.inl (3, p2))), some (.inl x3), some (.inl (x4 + (1 : Int32)))]) (st' := []) (M' := M) rfl ?_
        exact wg_wk (wk_s (wk_s (wk_s (wk_s (wk_s wk_e))))) rfl (ih (x4 + (1 : Int32)) _ h hk)
      · rw [if_neg hc] at h
        refine wg_blk 1 (i' := 21) (L' := [some (.inr (.inl (0, 0))), some (.inl x1), some (.inr (.inl (3, p2))), some (.inl x3), some (.inl x4)]) (st' := [.inl (0 : Int32)]) (M' := M) rfl ?_
        obtain rfl := Option.some.inj h
        exact wg_re rfl (by decide) hk
set_option maxRecDepth 20000 in
theorem s_C_isFeltAlong (a1 : Int32) (p2 : Nat) (a3 : Int32) (M : wc_M) (z : Int32) (h : f_C_isFeltAlong a1 p2 a3 M = some z) : wc_Sd 1 47 [.inr (.inl (0, 0)), .inl a1, .inr (.inl (3, p2)), .inl a3] M (some z) M := by
  unfold f_C_isFeltAlong at h
  refine wg_Sd (Nat.le_of_ble_eq_true rfl) ?_
  show wg 0 wx0 (some .boolean) wk_47 0 [some (.inr (.inl (0, 0))), some (.inl a1), some (.inr (.inl (3, p2))), some (.inl a3), none] [] M _
  refine wg_blk 2 (i' := 2) (L' := [some (.inr (.inl (0, 0))), some (.inl a1), some (.inr (.inl (3, p2))), some (.inl a3), some (.inl (0 : Int32))]) (st' := []) (M' := M) rfl ?_
  obtain ⟨o5, h4, h⟩ := wbs h
  refine wg_wk (wk_s (wk_s (wk_s (wk_s (wk_s wk_e))))) rfl (l_C_isFeltAlong_2_ok a1 p2 a3 M 2000 (0 : Int32) _ h4 ?_)
  rcases o5 with r6 | t3
  · dsimp only [wel] at h ⊢
    obtain rfl := Option.some.inj h
    exact ⟨rfl, rfl⟩
  · dsimp only [wel] at h ⊢
    refine wg_blk 1 (i' := 25) (L' := [none, none, none, none, none]) (st' := [.inl (1 : Int32)]) (M' := M) rfl ?_
    obtain rfl := Option.some.inj h
    exact wg_re rfl (by decide) ⟨rfl, rfl⟩
set_option maxRecDepth 20000 in
theorem l_C_hidden_39_ok (x1 : Int32) (x2 : Int32) (x3 : Int32) (x4 : Int32) {K : Option Int32 → wc_M → Prop} : ∀ (n : Nat) (x6 : Int32) (x7 : Int32) (M : wc_M) (o : Int32 × wc_M), l_C_hidden_39 x1 x2 x3 x4 n x6 x7 M = some o → wg 3 wx0 (some .int) wk_21 80 [some (.inr (.inl (0, 0))), none, none, none, none, none, some (.inl o.1), none] [] o.2 K → wg 3 wx0 (some .int) wk_21 39 [some (.inr (.inl (0, 0))), some (.inl x1), some (.inl x2), some (.inl x3), some (.inl x4), none, some (.inl x6), some (.inl x7)] [] M K := by
  intro n
  induction n with
  | zero =>
    intro x6 x7 M o h hk
    exact nomatch (show (none : Option (Int32 × wc_M)) = some o from h)
  | succ n ih =>
    intro x6 x7 M o h hk
    unfold l_C_hidden_39 at h
    refine wg_blk 2 (i' := 41) (L' := [some (.inr (.inl (0, 0))), some (.inl x1), some (.inl x2), some (.inl x3), some (.inl x4), none, some (.inl x6), some (.inl x7)]) (st' := [.inl (16 : Int32), .inl x7]) (M' := M) rfl ?_
    refine wg_br (c := (16 : Int32) ≤ x7) (t := 80) (f := 42) (st' := []) rfl (fun hc => ?_) (fun hc => ?_)
    · rw [if_pos hc] at h
      obtain rfl := Option.some.inj h
      exact wg_wk (wk_s (wk_n (wk_n (wk_n (wk_n (wk_n (wk_s (wk_n wk_e)))))))) rfl hk
    · rw [if_neg hc] at h
      refine wg_blk 3 (i' := 45) (L' := [some (.inr (.inl (0, 0))), some (.inl x1), some (.inl x2), some (.inl x3), some (.inl x4), none, some (.inl x6), some (.inl x7)]) (st' := [.inl x7, .inr (.inl (6, 0))]) (M' := M) rfl ?_
      obtain ⟨v6, h5, h⟩ := wbs h
      refine wg_ca (d' := 1) (y := 69) (as := [.inr (.inl (6, 0)), .inl x7]) (rest := []) (r := some v6) (M' := M) rfl (Nat.le_of_ble_eq_true rfl) (s_P_hasWork 0 x7 M _ h5) ?_
      refine wg_br (c := v6 = (0 : Int32)) (t := 47) (f := 78) (st' := []) rfl (fun hc => ?_) (fun hc => ?_)
      · rw [if_pos hc] at h
        refine wg_blk 5 (i' := 52) (L' := [some (.inr (.inl (0, 0))), some (.inl x1), some (.inl x2), some (.inl x3), some (.inl x4), none, some (.inl x6), some (.inl x7)]) (st' := [.inl (0 : Int32), .inl x1, .inl x7, .inr (.inl (6, 1))]) (M' := M) rfl ?_
        obtain ⟨m8, h7, h⟩ := wbs h
        refine wg_ca (d' := 1) (y := 67) (as := [.inr (.inl (6, 1)), .inl x7, .inl x1, .inl (0 : Int32)]) (rest := []) (r := none) (M' := m8) rfl (Nat.le_of_ble_eq_true rfl) (s_P_put 1 x7 x1 (0 : Int32) M _ h7) ?_
        refine wg_blk 4 (i' := 57) (L' := [some (.inr (.inl (0, 0))), some (.inl x1), some (.inl x2), some (.inl x3), some (.inl x4), none, some (.inl x6), some (.inl x7)]) (st' := [.inr (.inl (6, 1)), .inr (.inl (12, 0))]) (M' := m8) rfl ?_
        obtain ⟨m10, h9, h⟩ := wbs h
        refine wg_ca (d' := 3) (y := 74) (as := [.inr (.inl (12, 0)), .inr (.inl (6, 1))]) (rest := []) (r := none) (M' := m10) rfl (Nat.le_of_ble_eq_true rfl) (s_A_blow 1 m8 _ h9) ?_
        refine wg_blk 3 (i' := 61) (L' := [some (.inr (.inl (0, 0))), some (.inl x1), some (.inl x2), some (.inl x3), some (.inl x4), none, some (.inl x6), some (.inl x7)]) (st' := [.inl x7, .inr (.inl (6, 1))]) (M' := m10) rfl ?_
        obtain ⟨m12, h11, h⟩ := wbs h
        refine wg_ca (d' := 2) (y := 68) (as := [.inr (.inl (6, 1)), .inl x7]) (rest := []) (r := none) (M' := m12) rfl (Nat.le_of_ble_eq_true rfl) (s_P_clear 1 x7 m10 _ h11) ?_
        refine wg_blk 5 (i' := 67) (L' := [some (.inr (.inl (0, 0))), some (.inl x1), some (.inl x2), some (.inl x3), some (.inl x4), none, some (.inl x6), some (.inl x7)]) (st' := [.inl x3, .inr (.inl (1, 0)), .inl x2, .inr (.inl (0, 0))]) (M' := m12) rfl ?_
        obtain ⟨hp13, h⟩ := wif h
        refine wg_ck (st' := [.inr (.inl (2, (x3).toNatClampNeg)), .inl x2, .inr (.inl (0, 0))]) (M' := m12) rfl (wib_in hp13) ?_
        refine wg_blk 2 (i' := 70) (L' := [some (.inr (.inl (0, 0))), some (.inl x1), some (.inl x2), some (.inl x3), some (.inl x4), none, some (.inl x6), some (.inl x7)]) (st' := [.inl x4, .inr (.inl (3, (x3).toNatClampNeg)), .inl x2, .inr (.inl (0, 0))]) (M' := m12) rfl ?_
        obtain ⟨v15, h14, h⟩ := wbs h
        refine wg_ca (d' := 1) (y := 47) (as := [.inr (.inl (0, 0)), .inl x2, .inr (.inl (3, (x3).toNatClampNeg)), .inl x4]) (rest := []) (r := some v15) (M' := m12) rfl (Nat.le_of_ble_eq_true rfl) (s_C_isFeltAlong x2 (x3).toNatClampNeg x4 m12 _ h14) ?_
        refine wg_br (c := v15 = (0 : Int32)) (t := 78) (f := 72) (st' := []) rfl (fun hc => ?_) (fun hc => ?_)
        · rw [if_pos hc] at h
          refine wg_blk 2 (i' := 39) (L' := [some (.inr (.inl (0, 0))), some (.inl x1), some (.inl x2), some (.inl x3), some (.inl x4), none, some (.inl x6), some (.inl (x7 + (1 : Int32)))]) (st' := []) (M' := m12) rfl ?_
          exact wg_wk (wk_s (wk_s (wk_s (wk_s (wk_s (wk_n (wk_s (wk_s wk_e)))))))) rfl (ih x6 (x7 + (1 : Int32)) m12 _ h hk)
        · rw [if_neg hc] at h
          refine wg_blk 8 (i' := 39) (L' := [some (.inr (.inl (0, 0))), some (.inl x1), some (.inl x2), some (.inl x3), some (.inl x4), none, some (.inl (x6 ||| ((1 : Int32) <<< (x7 &&& (31 : Int32))))), some (.inl (x7 + (1 : Int32)))]) (st' := []) (M' := m12) rfl ?_
          exact wg_wk (wk_s (wk_s (wk_s (wk_s (wk_s (wk_n (wk_s (wk_s wk_e)))))))) rfl (ih (x6 ||| ((1 : Int32) <<< (x7 &&& (31 : Int32)))) (x7 + (1 : Int32)) m12 _ h hk)
      · rw [if_neg hc] at h
        refine wg_blk 2 (i' := 39) (L' := [some (.inr (.inl (0, 0))), some (.inl x1), some (.inl x2), some (.inl x3), some (.inl x4), none, some (.inl x6), some (.inl (x7 + (1 : Int32)))]) (st' := []) (M' := M) rfl ?_
        exact wg_wk (wk_s (wk_s (wk_s (wk_s (wk_s (wk_n (wk_s (wk_s wk_e)))))))) rfl (ih x6 (x7 + (1 : Int32)) M _ h hk)
set_option maxRecDepth 20000 in
theorem s_C_hidden (a1 : Int32) (a2 : Int32) (a3 : Int32) (a4 : Int32) (M : wc_M) (z : Int32 × wc_M) (h : f_C_hidden a1 a2 a3 a4 M = some z) : wc_Sd 4 21 [.inr (.inl (0, 0)), .inl a1, .inl a2, .inl a3, .inl a4] M (some z.1) z.2 := by
  unfold f_C_hidden at h
  refine wg_Sd (Nat.le_of_ble_eq_true rfl) ?_
  show wg 3 wx0 (some .int) wk_21 0 [some (.inr (.inl (0, 0))), some (.inl a1), some (.inl a2), some (.inl a3), some (.inl a4), none, none, none] [] M _
  refine wg_blk 3 (i' := 3) (L' := [some (.inr (.inl (0, 0))), some (.inl a1), some (.inl a2), some (.inl a3), some (.inl a4), none, none, none]) (st' := [.inl (M 6 0 5)]) (M' := M) rfl ?_
  refine wg_br (c := (M 6 0 5) = (0 : Int32)) (t := 4) (f := 6) (st' := []) rfl (fun hc => ?_) (fun hc => ?_)
  · rw [if_pos hc] at h
    refine wg_blk 1 (i' := 5) (L' := [some (.inr (.inl (0, 0))), some (.inl a1), some (.inl a2), some (.inl a3), some (.inl a4), none, none, none]) (st' := [.inl (-1000002 : Int32)]) (M' := M) rfl ?_
    obtain rfl := Option.some.inj h
    exact wg_re rfl trivial ⟨rfl, rfl⟩
  · rw [if_neg hc] at h
    refine wg_blk 1 (i' := 7) (L' := [some (.inr (.inl (0, 0))), some (.inl a1), some (.inl a2), some (.inl a3), some (.inl a4), none, none, none]) (st' := [.inl a1]) (M' := M) rfl ?_
    refine wg_ca (d' := 1) (y := 35) (as := [.inl a1]) (rest := []) (r := some (f_C_isWorkKind a1)) (M' := M) rfl (Nat.le_of_ble_eq_true rfl) (s_C_isWorkKind a1 M _ rfl) ?_
    refine wg_br (c := (f_C_isWorkKind a1) = (0 : Int32)) (t := 16) (f := 9) (st' := []) rfl (fun hc => ?_) (fun hc => ?_)
    · rw [if_pos hc] at h
      refine wg_blk 1 (i' := 17) (L' := [some (.inr (.inl (0, 0))), some (.inl a1), some (.inl a2), some (.inl a3), some (.inl a4), none, none, none]) (st' := [.inl (-1000001 : Int32)]) (M' := M) rfl ?_
      obtain rfl := Option.some.inj h
      exact wg_re rfl trivial ⟨rfl, rfl⟩
    · rw [if_neg hc] at h
      refine wg_blk 1 (i' := 10) (L' := [some (.inr (.inl (0, 0))), some (.inl a1), some (.inl a2), some (.inl a3), some (.inl a4), none, none, none]) (st' := [.inl a2]) (M' := M) rfl ?_
      refine wg_ca (d' := 2) (y := 34) (as := [.inl a2]) (rest := []) (r := some (f_C_isLine a2)) (M' := M) rfl (Nat.le_of_ble_eq_true rfl) (s_C_isLine a2 M _ rfl) ?_
      refine wg_br (c := (f_C_isLine a2) = (0 : Int32)) (t := 16) (f := 12) (st' := []) rfl (fun hc => ?_) (fun hc => ?_)
      · rw [if_pos hc] at h
        refine wg_blk 1 (i' := 17) (L' := [some (.inr (.inl (0, 0))), some (.inl a1), some (.inl a2), some (.inl a3), some (.inl a4), none, none, none]) (st' := [.inl (-1000001 : Int32)]) (M' := M) rfl ?_
        obtain rfl := Option.some.inj h
        exact wg_re rfl trivial ⟨rfl, rfl⟩
      · rw [if_neg hc] at h
        refine wg_blk 2 (i' := 14) (L' := [some (.inr (.inl (0, 0))), some (.inl a1), some (.inl a2), some (.inl a3), some (.inl a4), none, none, none]) (st' := [.inl (7 : Int32), .inl a3]) (M' := M) rfl ?_
        refine wg_ca (d' := 1) (y := 32) (as := [.inl a3, .inl (7 : Int32)]) (rest := []) (r := some (f_C_isUpTo a3 (7 : Int32))) (M' := M) rfl (Nat.le_of_ble_eq_true rfl) (s_C_isUpTo a3 (7 : Int32) M _ rfl) ?_
        refine wg_br (c := (f_C_isUpTo a3 (7 : Int32)) = (0 : Int32)) (t := 16) (f := 18) (st' := []) rfl (fun hc => ?_) (fun hc => ?_)
        · rw [if_pos hc] at h
          refine wg_blk 1 (i' := 17) (L' := [some (.inr (.inl (0, 0))), some (.inl a1), some (.inl a2), some (.inl a3), some (.inl a4), none, none, none]) (st' := [.inl (-1000001 : Int32)]) (M' := M) rfl ?_
          obtain rfl := Option.some.inj h
          exact wg_re rfl trivial ⟨rfl, rfl⟩
        · rw [if_neg hc] at h
          refine wg_blk 4 (i' := 22) (L' := [some (.inr (.inl (0, 0))), some (.inl a1), some (.inl a2), some (.inl a3), some (.inl a4), none, none, none]) (st' := [.inl (4 : Int32), .inl a4, .inl a3, .inr (.inl (0, 0))]) (M' := M) rfl ?_
          obtain ⟨v2, h1, h⟩ := wbs h
          refine wg_ca (d' := 2) (y := 39) (as := [.inr (.inl (0, 0)), .inl a3, .inl a4, .inl (4 : Int32)]) (rest := []) (r := some v2) (M' := M) rfl (Nat.le_of_ble_eq_true rfl) (s_C_findingIn a3 a4 (4 : Int32) M _ h1) ?_
          refine wg_blk 2 (i' := 25) (L' := [some (.inr (.inl (0, 0))), some (.inl a1), some (.inl a2), some (.inl a3), some (.inl a4), some (.inl v2), none, none]) (st' := [.inl v2]) (M' := M) rfl ?_
          refine wg_br (c := v2 = (0 : Int32)) (t := 30) (f := 26) (st' := []) rfl (fun hc => ?_) (fun hc => ?_)
          · rw [if_pos hc] at h
            refine wg_blk 4 (i' := 34) (L' := [some (.inr (.inl (0, 0))), some (.inl a1), some (.inl a2), some (.inl a3), some (.inl a4), some (.inl v2), none, none]) (st' := [.inr (.inl (6, 0)), .inr (.inl (6, 1))]) (M' := M) rfl ?_
            obtain ⟨m4, h3, h⟩ := wbs h
            refine wg_ca (d' := 1) (y := 65) (as := [.inr (.inl (6, 1)), .inr (.inl (6, 0))]) (rest := []) (r := none) (M' := m4) rfl (Nat.le_of_ble_eq_true rfl) (s_P_become 1 0 M _ h3) ?_
            refine wg_blk 4 (i' := 39) (L' := [some (.inr (.inl (0, 0))), some (.inl a1), some (.inl a2), some (.inl a3), some (.inl a4), some (.inl v2), some (.inl (0 : Int32)), some (.inl (0 : Int32))]) (st' := []) (M' := m4) rfl ?_
            obtain ⟨t16, h17, h⟩ := wbs h
            refine wg_wk (wk_s (wk_s (wk_s (wk_s (wk_s (wk_n (wk_s (wk_s wk_e)))))))) rfl (l_C_hidden_39_ok a1 a2 a3 a4 2000 (0 : Int32) (0 : Int32) m4 _ h17 ?_)
            refine wg_blk 2 (i' := 82) (L' := [some (.inr (.inl (0, 0))), none, none, none, none, none, some (.inl t16.1), none]) (st' := [.inl t16.1, .inr (.inl (0, 0))]) (M' := t16.2) rfl ?_
            obtain ⟨q19, h18, h⟩ := wbs h
            refine wg_ca (d' := 1) (y := 38) (as := [.inr (.inl (0, 0)), .inl t16.1]) (rest := []) (r := some q19.1) (M' := q19.2) rfl (Nat.le_of_ble_eq_true rfl) (s_C_withoutFinding t16.1 t16.2 _ h18) ?_
            obtain rfl := Option.some.inj h
            exact wg_re rfl trivial ⟨rfl, rfl⟩
          · rw [if_neg hc] at h
            refine wg_blk 2 (i' := 28) (L' := [some (.inr (.inl (0, 0))), some (.inl a1), some (.inl a2), some (.inl a3), some (.inl a4), some (.inl v2), none, none]) (st' := [.inl v2, .inr (.inl (0, 0))]) (M' := M) rfl ?_
            obtain ⟨q21, h20, h⟩ := wbs h
            refine wg_ca (d' := 1) (y := 37) (as := [.inr (.inl (0, 0)), .inl v2]) (rest := []) (r := some q21.1) (M' := q21.2) rfl (Nat.le_of_ble_eq_true rfl) (s_C_found v2 M _ h20) ?_
            obtain rfl := Option.some.inj h
            exact wg_re rfl trivial ⟨rfl, rfl⟩
set_option maxRecDepth 20000 in
theorem l_M_hidden_53_ok (x1 : Int32) (x2 : Int32) (x3 : Int32) (x4 : Int32) (x6 : Int32) (x7 : Int32) (M : wc_M) {K : Option Int32 → wc_M → Prop} : ∀ (n : Nat) (x8 : Int32) (x9 : Int32) (o : Int32), l_M_hidden_53 x1 x2 x3 x4 x6 x7 M n x8 x9 = some o → wg 4 wx0 (some .int) wk_137 83 [some (.inr (.inl (21, 0))), some (.inl x1), some (.inl x2), some (.inl x3), some (.inl x4), none, some (.inl x6), some (.inl x7), some (.inl o), none] [] M K → wg 4 wx0 (some .int) wk_137 53 [some (.inr (.inl (21, 0))), some (.inl x1), some (.inl x2), some (.inl x3), some (.inl x4), none, some (.inl x6), some (.inl x7), some (.inl x8), some (.inl x9)] [] M K := by
  intro n
  induction n with
  | zero =>
    intro x8 x9 o h hk
    exact nomatch (show (none : Option (Int32)) = some o from h)
  | succ n ih =>
    intro x8 x9 o h hk
    unfold l_M_hidden_53 at h
    refine wg_blk 2 (i' := 55) (L' := [some (.inr (.inl (21, 0))), some (.inl x1), some (.inl x2), some (.inl x3), some (.inl x4), none, some (.inl x6), some (.inl x7), some (.inl x8), some (.inl x9)]) (st' := [.inl (4 : Int32), .inl x9]) (M' := M) rfl ?_
    refine wg_br (c := (4 : Int32) ≤ x9) (t := 83) (f := 56) (st' := []) rfl (fun hc => ?_) (fun hc => ?_)
    · rw [if_pos hc] at h
      obtain rfl := Option.some.inj h
      exact wg_wk (wk_s (wk_s (wk_s (wk_s (wk_s (wk_n (wk_s (wk_s (wk_s (wk_n wk_e)))))))))) rfl hk
    · rw [if_neg hc] at h
      refine wg_blk 1 (i' := 57) (L' := [some (.inr (.inl (21, 0))), some (.inl x1), some (.inl x2), some (.inl x3), some (.inl x4), none, some (.inl x6), some (.inl x7), some (.inl x8), some (.inl x9)]) (st' := [.inl x8]) (M' := M) rfl ?_
      refine wg_br (c := x8 = (0 : Int32)) (t := 79) (f := 58) (st' := []) rfl (fun hc => ?_) (fun hc => ?_)
      · rw [if_pos hc] at h
        refine wg_blk 4 (i' := 53) (L' := [some (.inr (.inl (21, 0))), some (.inl x1), some (.inl x2), some (.inl x3), some (.inl x4), none, some (.inl x6), some (.inl x7), some (.inl (0 : Int32)), some (.inl (x9 + (1 : Int32)))]) (st' := []) (M' := M) rfl ?_
        exact wg_wk (wk_s (wk_s (wk_s (wk_s (wk_s (wk_n (wk_s (wk_s (wk_s (wk_s wk_e)))))))))) rfl (ih (0 : Int32) (x9 + (1 : Int32)) _ h hk)
      · rw [if_neg hc] at h
        refine wg_blk 9 (i' := 67) (L' := [some (.inr (.inl (21, 0))), some (.inl x1), some (.inl x2), some (.inl x3), some (.inl x4), none, some (.inl x6), some (.inl x7), some (.inl x8), some (.inl x9)]) (st' := [.inl ((((40 : Int32) * x3) + x4) + x9), .inr (.inl (24, 0))]) (M' := M) rfl ?_
        obtain ⟨hp8, h⟩ := wif h
        refine wg_ck (st' := [.inl (M 24 0 (((((40 : Int32) * x3) + x4) + x9)).toNatClampNeg)]) (M' := M) rfl (wib_in hp8) ?_
        refine wg_blk 7 (i' := 75) (L' := [some (.inr (.inl (21, 0))), some (.inl x1), some (.inl x2), some (.inl x3), some (.inl x4), none, some (.inl x6), some (.inl x7), some (.inl x8), some (.inl x9)]) (st' := [.inl (((4 : Int32) * x9) + x2), .inr (.inl (29, 0)), .inl (M 24 0 (((((40 : Int32) * x3) + x4) + x9)).toNatClampNeg)]) (M' := M) rfl ?_
        obtain ⟨hp9, h⟩ := wif h
        refine wg_ck (st' := [.inl (M 29 0 ((((4 : Int32) * x9) + x2)).toNatClampNeg), .inl (M 24 0 (((((40 : Int32) * x3) + x4) + x9)).toNatClampNeg)]) (M' := M) rfl (wib_in hp9) ?_
        refine wg_br (c := (M 24 0 (((((40 : Int32) * x3) + x4) + x9)).toNatClampNeg) = (M 29 0 ((((4 : Int32) * x9) + x2)).toNatClampNeg)) (t := 77) (f := 79) (st' := []) rfl (fun hc => ?_) (fun hc => ?_)
        · rw [if_pos hc] at h
          refine wg_blk 5 (i' := 53) (L' := [some (.inr (.inl (21, 0))), some (.inl x1), some (.inl x2), some (.inl x3), some (.inl x4), none, some (.inl x6), some (.inl x7), some (.inl (1 : Int32)), some (.inl (x9 + (1 : Int32)))]) (st' := []) (M' := M) rfl ?_
          exact wg_wk (wk_s (wk_s (wk_s (wk_s (wk_s (wk_n (wk_s (wk_s (wk_s (wk_s wk_e)))))))))) rfl (ih (1 : Int32) (x9 + (1 : Int32)) _ h hk)
        · rw [if_neg hc] at h
          refine wg_blk 4 (i' := 53) (L' := [some (.inr (.inl (21, 0))), some (.inl x1), some (.inl x2), some (.inl x3), some (.inl x4), none, some (.inl x6), some (.inl x7), some (.inl (0 : Int32)), some (.inl (x9 + (1 : Int32)))]) (st' := []) (M' := M) rfl ?_
          exact wg_wk (wk_s (wk_s (wk_s (wk_s (wk_s (wk_n (wk_s (wk_s (wk_s (wk_s wk_e)))))))))) rfl (ih (0 : Int32) (x9 + (1 : Int32)) _ h hk)
set_option maxRecDepth 20000 in
theorem l_M_hidden_33_ok (x1 : Int32) (x2 : Int32) (x3 : Int32) (x4 : Int32) {K : Option Int32 → wc_M → Prop} : ∀ (n : Nat) (x6 : Int32) (x7 : Int32) (M : wc_M) (o : Int32 × wc_M), l_M_hidden_33 x1 x2 x3 x4 n x6 x7 M = some o → wg 4 wx0 (some .int) wk_137 102 [some (.inr (.inl (21, 0))), none, none, none, none, none, some (.inl o.1), none, none, none] [] o.2 K → wg 4 wx0 (some .int) wk_137 33 [some (.inr (.inl (21, 0))), some (.inl x1), some (.inl x2), some (.inl x3), some (.inl x4), none, some (.inl x6), some (.inl x7), none, none] [] M K := by
  intro n
  induction n with
  | zero =>
    intro x6 x7 M o h hk
    exact nomatch (show (none : Option (Int32 × wc_M)) = some o from h)
  | succ n ih =>
    intro x6 x7 M o h hk
    unfold l_M_hidden_33 at h
    refine wg_blk 2 (i' := 35) (L' := [some (.inr (.inl (21, 0))), some (.inl x1), some (.inl x2), some (.inl x3), some (.inl x4), none, some (.inl x6), some (.inl x7), none, none]) (st' := [.inl (16 : Int32), .inl x7]) (M' := M) rfl ?_
    refine wg_br (c := (16 : Int32) ≤ x7) (t := 102) (f := 36) (st' := []) rfl (fun hc => ?_) (fun hc => ?_)
    · rw [if_pos hc] at h
      obtain rfl := Option.some.inj h
      exact wg_wk (wk_s (wk_n (wk_n (wk_n (wk_n (wk_n (wk_s (wk_n (wk_n (wk_n wk_e)))))))))) rfl hk
    · rw [if_neg hc] at h
      refine wg_blk 2 (i' := 38) (L' := [some (.inr (.inl (21, 0))), some (.inl x1), some (.inl x2), some (.inl x3), some (.inl x4), none, some (.inl x6), some (.inl x7), none, none]) (st' := [.inl x7, .inr (.inl (21, 0))]) (M' := M) rfl ?_
      obtain ⟨v4, h3, h⟩ := wbs h
      refine wg_ca (d' := 1) (y := 110) (as := [.inr (.inl (21, 0)), .inl x7]) (rest := []) (r := some v4) (M' := M) rfl (Nat.le_of_ble_eq_true rfl) (s_M_isWork x7 M _ h3) ?_
      refine wg_br (c := v4 = (0 : Int32)) (t := 40) (f := 100) (st' := []) rfl (fun hc => ?_) (fun hc => ?_)
      · rw [if_pos hc] at h
        refine wg_blk 6 (i' := 46) (L' := [some (.inr (.inl (21, 0))), some (.inl x1), some (.inl x2), some (.inl x3), some (.inl x4), none, some (.inl x6), some (.inl x7), none, none]) (st' := [.inl x1, .inl ((9 : Int32) + x7), .inr (.inl (25, 0))]) (M' := M) rfl ?_
        obtain ⟨hp5, h⟩ := wif h
        refine wg_ck (st' := []) (M' := (wc_up M 25 0 (((9 : Int32) + x7)).toNatClampNeg x1)) rfl (wib_in hp5) ?_
        refine wg_blk 1 (i' := 48) (L' := [some (.inr (.inl (21, 0))), some (.inl x1), some (.inl x2), some (.inl x3), some (.inl x4), none, some (.inl x6), some (.inl x7), none, none]) (st' := [.inr (.inl (21, 0))]) (M' := (wc_up M 25 0 (((9 : Int32) + x7)).toNatClampNeg x1)) rfl ?_
        obtain ⟨m7, h6, h⟩ := wbs h
        refine wg_ca (d' := 4) (y := 112) (as := [.inr (.inl (21, 0))]) (rest := []) (r := none) (M' := m7) rfl (Nat.le_of_ble_eq_true rfl) (s_M_blow (wc_up M 25 0 (((9 : Int32) + x7)).toNatClampNeg x1) _ h6) ?_
        refine wg_blk 4 (i' := 53) (L' := [some (.inr (.inl (21, 0))), some (.inl x1), some (.inl x2), some (.inl x3), some (.inl x4), none, some (.inl x6), some (.inl x7), some (.inl (1 : Int32)), some (.inl (0 : Int32))]) (st' := []) (M' := m7) rfl ?_
        obtain ⟨t8, h9, h⟩ := wbs h
        refine wg_wk (wk_s (wk_s (wk_s (wk_s (wk_s (wk_n (wk_s (wk_s (wk_s (wk_s wk_e)))))))))) rfl (l_M_hidden_53_ok x1 x2 x3 x4 x6 x7 m7 2000 (1 : Int32) (0 : Int32) _ h9 ?_)
        refine wg_blk 6 (i' := 89) (L' := [some (.inr (.inl (21, 0))), some (.inl x1), some (.inl x2), some (.inl x3), some (.inl x4), none, some (.inl x6), some (.inl x7), some (.inl t8), none]) (st' := [.inl (0 : Int32), .inl ((9 : Int32) + x7), .inr (.inl (25, 0))]) (M' := m7) rfl ?_
        refine wg_ck (st' := []) (M' := (wc_up m7 25 0 (((9 : Int32) + x7)).toNatClampNeg (0 : Int32))) rfl (wib_in hp5) ?_
        refine wg_blk 2 (i' := 92) (L' := [some (.inr (.inl (21, 0))), some (.inl x1), some (.inl x2), some (.inl x3), some (.inl x4), none, some (.inl x6), some (.inl x7), some (.inl t8), none]) (st' := [.inl t8, .inl x6]) (M' := (wc_up m7 25 0 (((9 : Int32) + x7)).toNatClampNeg (0 : Int32))) rfl ?_
        refine wg_br (c := t8 = (0 : Int32)) (t := 97) (f := 93) (st' := [.inl x6]) rfl (fun hc => ?_) (fun hc => ?_)
        · rw [if_pos hc] at h
          refine wg_blk 5 (i' := 33) (L' := [some (.inr (.inl (21, 0))), some (.inl x1), some (.inl x2), some (.inl x3), some (.inl x4), none, some (.inl (x6 ||| (0 : Int32))), some (.inl (x7 + (1 : Int32))), some (.inl t8), none]) (st' := []) (M' := (wc_up m7 25 0 (((9 : Int32) + x7)).toNatClampNeg (0 : Int32))) rfl ?_
          exact wg_wk (wk_s (wk_s (wk_s (wk_s (wk_s (wk_n (wk_s (wk_s (wk_n (wk_n wk_e)))))))))) rfl (ih (x6 ||| (0 : Int32)) (x7 + (1 : Int32)) (wc_up m7 25 0 (((9 : Int32) + x7)).toNatClampNeg (0 : Int32)) _ h hk)
        · rw [if_neg hc] at h
          refine wg_blk 8 (i' := 33) (L' := [some (.inr (.inl (21, 0))), some (.inl x1), some (.inl x2), some (.inl x3), some (.inl x4), none, some (.inl (x6 ||| ((1 : Int32) <<< (x7 &&& (31 : Int32))))), some (.inl (x7 + (1 : Int32))), some (.inl t8), none]) (st' := []) (M' := (wc_up m7 25 0 (((9 : Int32) + x7)).toNatClampNeg (0 : Int32))) rfl ?_
          exact wg_wk (wk_s (wk_s (wk_s (wk_s (wk_s (wk_n (wk_s (wk_s (wk_n (wk_n wk_e)))))))))) rfl (ih (x6 ||| ((1 : Int32) <<< (x7 &&& (31 : Int32)))) (x7 + (1 : Int32)) (wc_up m7 25 0 (((9 : Int32) + x7)).toNatClampNeg (0 : Int32)) _ h hk)
      · rw [if_neg hc] at h
        refine wg_blk 2 (i' := 33) (L' := [some (.inr (.inl (21, 0))), some (.inl x1), some (.inl x2), some (.inl x3), some (.inl x4), none, some (.inl x6), some (.inl (x7 + (1 : Int32))), none, none]) (st' := []) (M' := M) rfl ?_
        exact wg_wk (wk_s (wk_s (wk_s (wk_s (wk_s (wk_n (wk_s (wk_s (wk_n (wk_n wk_e)))))))))) rfl (ih x6 (x7 + (1 : Int32)) M _ h hk)
set_option maxRecDepth 20000 in
theorem s_M_hidden (a1 : Int32) (a2 : Int32) (a3 : Int32) (a4 : Int32) (M : wc_M) (z : Int32 × wc_M) (h : f_M_hidden a1 a2 a3 a4 M = some z) : wc_Sd 5 137 [.inr (.inl (21, 0)), .inl a1, .inl a2, .inl a3, .inl a4] M (some z.1) z.2 := by
  unfold f_M_hidden at h
  refine wg_Sd (Nat.le_of_ble_eq_true rfl) ?_
  show wg 4 wx0 (some .int) wk_137 0 [some (.inr (.inl (21, 0))), some (.inl a1), some (.inl a2), some (.inl a3), some (.inl a4), none, none, none, none, none] [] M _
  refine wg_blk 2 (i' := 2) (L' := [some (.inr (.inl (21, 0))), some (.inl a1), some (.inl a2), some (.inl a3), some (.inl a4), none, none, none, none, none]) (st' := [.inl (M 21 0 4)]) (M' := M) rfl ?_
  refine wg_br (c := (M 21 0 4) = (0 : Int32)) (t := 3) (f := 5) (st' := []) rfl (fun hc => ?_) (fun hc => ?_)
  · rw [if_pos hc] at h
    refine wg_blk 1 (i' := 4) (L' := [some (.inr (.inl (21, 0))), some (.inl a1), some (.inl a2), some (.inl a3), some (.inl a4), none, none, none, none, none]) (st' := [.inl (-1000002 : Int32)]) (M' := M) rfl ?_
    obtain rfl := Option.some.inj h
    exact wg_re rfl trivial ⟨rfl, rfl⟩
  · rw [if_neg hc] at h
    refine wg_blk 4 (i' := 9) (L' := [some (.inr (.inl (21, 0))), some (.inl a1), some (.inl a2), some (.inl a3), some (.inl a4), none, none, none, none, none]) (st' := [.inr (.inr (5 : Int64)), .inr (.inr (1 : Int64)), .inr (.inr (a1).toInt64)]) (M' := M) rfl ?_
    refine wg_ca (d' := 1) (y := 87) (as := [.inr (.inr (a1).toInt64), .inr (.inr (1 : Int64)), .inr (.inr (5 : Int64))]) (rest := []) (r := some (f_M_in (a1).toInt64 (1 : Int64) (5 : Int64))) (M' := M) rfl (Nat.le_of_ble_eq_true rfl) (s_M_in (a1).toInt64 (1 : Int64) (5 : Int64) M _ rfl) ?_
    refine wg_br (c := (f_M_in (a1).toInt64 (1 : Int64) (5 : Int64)) = (0 : Int32)) (t := 17) (f := 11) (st' := []) rfl (fun hc => ?_) (fun hc => ?_)
    · rw [if_pos hc] at h
      refine wg_blk 1 (i' := 18) (L' := [some (.inr (.inl (21, 0))), some (.inl a1), some (.inl a2), some (.inl a3), some (.inl a4), none, none, none, none, none]) (st' := [.inl (-1000001 : Int32)]) (M' := M) rfl ?_
      obtain rfl := Option.some.inj h
      exact wg_re rfl trivial ⟨rfl, rfl⟩
    · rw [if_neg hc] at h
      refine wg_blk 1 (i' := 12) (L' := [some (.inr (.inl (21, 0))), some (.inl a1), some (.inl a2), some (.inl a3), some (.inl a4), none, none, none, none, none]) (st' := [.inl a2]) (M' := M) rfl ?_
      refine wg_ca (d' := 2) (y := 109) (as := [.inl a2]) (rest := []) (r := some (f_M_isRowOfPass a2)) (M' := M) rfl (Nat.le_of_ble_eq_true rfl) (s_M_isRowOfPass a2 M _ rfl) ?_
      refine wg_br (c := (f_M_isRowOfPass a2) = (0 : Int32)) (t := 17) (f := 14) (st' := []) rfl (fun hc => ?_) (fun hc => ?_)
      · rw [if_pos hc] at h
        refine wg_blk 1 (i' := 18) (L' := [some (.inr (.inl (21, 0))), some (.inl a1), some (.inl a2), some (.inl a3), some (.inl a4), none, none, none, none, none]) (st' := [.inl (-1000001 : Int32)]) (M' := M) rfl ?_
        obtain rfl := Option.some.inj h
        exact wg_re rfl trivial ⟨rfl, rfl⟩
      · rw [if_neg hc] at h
        refine wg_blk 1 (i' := 15) (L' := [some (.inr (.inl (21, 0))), some (.inl a1), some (.inl a2), some (.inl a3), some (.inl a4), none, none, none, none, none]) (st' := [.inl a3]) (M' := M) rfl ?_
        refine wg_ca (d' := 2) (y := 91) (as := [.inl a3]) (rest := []) (r := some (f_M_isRow a3)) (M' := M) rfl (Nat.le_of_ble_eq_true rfl) (s_M_isRow a3 M _ rfl) ?_
        refine wg_br (c := (f_M_isRow a3) = (0 : Int32)) (t := 17) (f := 19) (st' := []) rfl (fun hc => ?_) (fun hc => ?_)
        · rw [if_pos hc] at h
          refine wg_blk 1 (i' := 18) (L' := [some (.inr (.inl (21, 0))), some (.inl a1), some (.inl a2), some (.inl a3), some (.inl a4), none, none, none, none, none]) (st' := [.inl (-1000001 : Int32)]) (M' := M) rfl ?_
          obtain rfl := Option.some.inj h
          exact wg_re rfl trivial ⟨rfl, rfl⟩
        · rw [if_neg hc] at h
          refine wg_blk 4 (i' := 23) (L' := [some (.inr (.inl (21, 0))), some (.inl a1), some (.inl a2), some (.inl a3), some (.inl a4), none, none, none, none, none]) (st' := [.inl (4 : Int32), .inl a4, .inl a3, .inr (.inl (21, 0))]) (M' := M) rfl ?_
          obtain ⟨q2, h1, h⟩ := wbs h
          refine wg_ca (d' := 2) (y := 133) (as := [.inr (.inl (21, 0)), .inl a3, .inl a4, .inl (4 : Int32)]) (rest := []) (r := some q2.1) (M' := q2.2) rfl (Nat.le_of_ble_eq_true rfl) (s_M_lacks a3 a4 (4 : Int32) M _ h1) ?_
          refine wg_blk 2 (i' := 26) (L' := [some (.inr (.inl (21, 0))), some (.inl a1), some (.inl a2), some (.inl a3), some (.inl a4), some (.inl q2.1), none, none, none, none]) (st' := [.inl q2.1]) (M' := q2.2) rfl ?_
          refine wg_br (c := (0 : Int32) ≤ q2.1) (t := 29) (f := 27) (st' := []) rfl (fun hc => ?_) (fun hc => ?_)
          · rw [if_pos hc] at h
            refine wg_blk 4 (i' := 33) (L' := [some (.inr (.inl (21, 0))), some (.inl a1), some (.inl a2), some (.inl a3), some (.inl a4), some (.inl q2.1), some (.inl (0 : Int32)), some (.inl (0 : Int32)), none, none]) (st' := []) (M' := q2.2) rfl ?_
            obtain ⟨t10, h11, h⟩ := wbs h
            refine wg_wk (wk_s (wk_s (wk_s (wk_s (wk_s (wk_n (wk_s (wk_s (wk_n (wk_n wk_e)))))))))) rfl (l_M_hidden_33_ok a1 a2 a3 a4 2000 (0 : Int32) (0 : Int32) q2.2 _ h11 ?_)
            refine wg_blk 2 (i' := 104) (L' := [some (.inr (.inl (21, 0))), none, none, none, none, none, some (.inl t10.1), none, none, none]) (st' := [.inl t10.1, .inr (.inl (21, 0))]) (M' := t10.2) rfl ?_
            obtain ⟨q13, h12, h⟩ := wbs h
            refine wg_ca (d' := 1) (y := 90) (as := [.inr (.inl (21, 0)), .inl t10.1]) (rest := []) (r := some q13.1) (M' := q13.2) rfl (Nat.le_of_ble_eq_true rfl) (s_M_well t10.1 t10.2 _ h12) ?_
            obtain rfl := Option.some.inj h
            exact wg_re rfl trivial ⟨rfl, rfl⟩
          · rw [if_neg hc] at h
            refine wg_blk 1 (i' := 28) (L' := [some (.inr (.inl (21, 0))), some (.inl a1), some (.inl a2), some (.inl a3), some (.inl a4), some (.inl q2.1), none, none, none, none]) (st' := [.inl q2.1]) (M' := q2.2) rfl ?_
            obtain rfl := Option.some.inj h
            exact wg_re rfl trivial ⟨rfl, rfl⟩
set_option maxRecDepth 20000 in
theorem l_C_most_26_ok (x1 : Int32) (x2 : Int32) {K : Option Int32 → wc_M → Prop} : ∀ (n : Nat) (x3 : Int32) (x4 : Int32) (x5 : Int32) (M : wc_M) (o : Int32 × Int32 × wc_M), l_C_most_26 x1 x2 n x3 x4 x5 M = some o → wg 3 wx0 (some .int) wk_22 66 [none, none, some (.inl x2), some (.inl o.1), some (.inl o.2.1), none] [] o.2.2 K → wg 3 wx0 (some .int) wk_22 26 [some (.inr (.inl (0, 0))), some (.inl x1), some (.inl x2), some (.inl x3), some (.inl x4), some (.inl x5)] [] M K := by
  intro n
  induction n with
  | zero =>
    intro x3 x4 x5 M o h hk
    exact nomatch (show (none : Option (Int32 × Int32 × wc_M)) = some o from h)
  | succ n ih =>
    intro x3 x4 x5 M o h hk
    unfold l_C_most_26 at h
    refine wg_blk 2 (i' := 28) (L' := [some (.inr (.inl (0, 0))), some (.inl x1), some (.inl x2), some (.inl x3), some (.inl x4), some (.inl x5)]) (st' := [.inl (16 : Int32), .inl x5]) (M' := M) rfl ?_
    refine wg_br (c := (16 : Int32) ≤ x5) (t := 66) (f := 29) (st' := []) rfl (fun hc => ?_) (fun hc => ?_)
    · rw [if_pos hc] at h
      obtain rfl := Option.some.inj h
      exact wg_wk (wk_n (wk_n (wk_s (wk_s (wk_s (wk_n wk_e)))))) rfl hk
    · rw [if_neg hc] at h
      refine wg_blk 3 (i' := 32) (L' := [some (.inr (.inl (0, 0))), some (.inl x1), some (.inl x2), some (.inl x3), some (.inl x4), some (.inl x5)]) (st' := [.inl x5, .inr (.inl (6, 0))]) (M' := M) rfl ?_
      obtain ⟨v4, h3, h⟩ := wbs h
      refine wg_ca (d' := 1) (y := 69) (as := [.inr (.inl (6, 0)), .inl x5]) (rest := []) (r := some v4) (M' := M) rfl (Nat.le_of_ble_eq_true rfl) (s_P_hasWork 0 x5 M _ h3) ?_
      refine wg_br (c := v4 = (0 : Int32)) (t := 34) (f := 64) (st' := []) rfl (fun hc => ?_) (fun hc => ?_)
      · rw [if_pos hc] at h
        refine wg_blk 5 (i' := 39) (L' := [some (.inr (.inl (0, 0))), some (.inl x1), some (.inl x2), some (.inl x3), some (.inl x4), some (.inl x5)]) (st' := [.inl (0 : Int32), .inl (1 : Int32), .inl x5, .inr (.inl (6, 1))]) (M' := M) rfl ?_
        obtain ⟨m6, h5, h⟩ := wbs h
        refine wg_ca (d' := 1) (y := 67) (as := [.inr (.inl (6, 1)), .inl x5, .inl (1 : Int32), .inl (0 : Int32)]) (rest := []) (r := none) (M' := m6) rfl (Nat.le_of_ble_eq_true rfl) (s_P_put 1 x5 (1 : Int32) (0 : Int32) M _ h5) ?_
        refine wg_blk 4 (i' := 44) (L' := [some (.inr (.inl (0, 0))), some (.inl x1), some (.inl x2), some (.inl x3), some (.inl x4), some (.inl x5)]) (st' := [.inr (.inl (6, 1)), .inr (.inl (12, 0))]) (M' := m6) rfl ?_
        obtain ⟨m8, h7, h⟩ := wbs h
        refine wg_ca (d' := 3) (y := 74) (as := [.inr (.inl (12, 0)), .inr (.inl (6, 1))]) (rest := []) (r := none) (M' := m8) rfl (Nat.le_of_ble_eq_true rfl) (s_A_blow 1 m6 _ h7) ?_
        refine wg_blk 3 (i' := 48) (L' := [some (.inr (.inl (0, 0))), some (.inl x1), some (.inl x2), some (.inl x3), some (.inl x4), some (.inl x5)]) (st' := [.inl x5, .inr (.inl (6, 1))]) (M' := m8) rfl ?_
        obtain ⟨m10, h9, h⟩ := wbs h
        refine wg_ca (d' := 2) (y := 68) (as := [.inr (.inl (6, 1)), .inl x5]) (rest := []) (r := none) (M' := m10) rfl (Nat.le_of_ble_eq_true rfl) (s_P_clear 1 x5 m8 _ h9) ?_
        refine wg_blk 4 (i' := 53) (L' := [some (.inr (.inl (0, 0))), some (.inl x1), some (.inl x2), some (.inl x3), some (.inl x4), some (.inl x5)]) (st' := [.inl x1, .inr (.inl (14, 0))]) (M' := m10) rfl ?_
        obtain ⟨hp11, h⟩ := wif h
        refine wg_ck (st' := [.inl (m10 14 0 (x1).toNatClampNeg)]) (M' := m10) rfl (wib_in hp11) ?_
        refine wg_blk 1 (i' := 55) (L' := [some (.inr (.inl (0, 0))), some (.inl x1), some (.inl x2), some (.inl x3), some (.inl x4), some (.inl x5)]) (st' := [.inl x4, .inl (m10 14 0 (x1).toNatClampNeg)]) (M' := m10) rfl ?_
        refine wg_br (c := (m10 14 0 (x1).toNatClampNeg) ≤ x4) (t := 64) (f := 56) (st' := []) rfl (fun hc => ?_) (fun hc => ?_)
        · rw [if_pos hc] at h
          refine wg_blk 2 (i' := 26) (L' := [some (.inr (.inl (0, 0))), some (.inl x1), some (.inl x2), some (.inl x3), some (.inl x4), some (.inl (x5 + (1 : Int32)))]) (st' := []) (M' := m10) rfl ?_
          exact wg_wk (wk_s (wk_s (wk_s (wk_s (wk_s (wk_s wk_e)))))) rfl (ih x3 x4 (x5 + (1 : Int32)) m10 _ h hk)
        · rw [if_neg hc] at h
          refine wg_blk 6 (i' := 62) (L' := [some (.inr (.inl (0, 0))), some (.inl x1), some (.inl x2), some (.inl x5), some (.inl x4), some (.inl x5)]) (st' := [.inl x1, .inr (.inl (14, 0))]) (M' := m10) rfl ?_
          refine wg_ck (st' := [.inl (m10 14 0 (x1).toNatClampNeg)]) (M' := m10) rfl (wib_in hp11) ?_
          refine wg_blk 3 (i' := 26) (L' := [some (.inr (.inl (0, 0))), some (.inl x1), some (.inl x2), some (.inl x5), some (.inl (m10 14 0 (x1).toNatClampNeg)), some (.inl (x5 + (1 : Int32)))]) (st' := []) (M' := m10) rfl ?_
          exact wg_wk (wk_s (wk_s (wk_s (wk_s (wk_s (wk_s wk_e)))))) rfl (ih x5 (m10 14 0 (x1).toNatClampNeg) (x5 + (1 : Int32)) m10 _ h hk)
      · rw [if_neg hc] at h
        refine wg_blk 2 (i' := 26) (L' := [some (.inr (.inl (0, 0))), some (.inl x1), some (.inl x2), some (.inl x3), some (.inl x4), some (.inl (x5 + (1 : Int32)))]) (st' := []) (M' := M) rfl ?_
        exact wg_wk (wk_s (wk_s (wk_s (wk_s (wk_s (wk_s wk_e)))))) rfl (ih x3 x4 (x5 + (1 : Int32)) M _ h hk)
set_option maxRecDepth 20000 in
theorem s_C_most (a1 : Int32) (a2 : Int32) (M : wc_M) (z : Int32 × wc_M) (h : f_C_most a1 a2 M = some z) : wc_Sd 4 22 [.inr (.inl (0, 0)), .inl a1, .inl a2] M (some z.1) z.2 := by
  unfold f_C_most at h
  refine wg_Sd (Nat.le_of_ble_eq_true rfl) ?_
  show wg 3 wx0 (some .int) wk_22 0 [some (.inr (.inl (0, 0))), some (.inl a1), some (.inl a2), none, none, none] [] M _
  refine wg_blk 3 (i' := 3) (L' := [some (.inr (.inl (0, 0))), some (.inl a1), some (.inl a2), none, none, none]) (st' := [.inl (M 6 0 5)]) (M' := M) rfl ?_
  refine wg_br (c := (M 6 0 5) = (0 : Int32)) (t := 4) (f := 6) (st' := []) rfl (fun hc => ?_) (fun hc => ?_)
  · rw [if_pos hc] at h
    refine wg_blk 1 (i' := 5) (L' := [some (.inr (.inl (0, 0))), some (.inl a1), some (.inl a2), none, none, none]) (st' := [.inl (-1000002 : Int32)]) (M' := M) rfl ?_
    obtain rfl := Option.some.inj h
    exact wg_re rfl trivial ⟨rfl, rfl⟩
  · rw [if_neg hc] at h
    refine wg_blk 1 (i' := 7) (L' := [some (.inr (.inl (0, 0))), some (.inl a1), some (.inl a2), none, none, none]) (st' := [.inl a1]) (M' := M) rfl ?_
    refine wg_ca (d' := 2) (y := 34) (as := [.inl a1]) (rest := []) (r := some (f_C_isLine a1)) (M' := M) rfl (Nat.le_of_ble_eq_true rfl) (s_C_isLine a1 M _ rfl) ?_
    refine wg_br (c := (f_C_isLine a1) = (0 : Int32)) (t := 13) (f := 9) (st' := []) rfl (fun hc => ?_) (fun hc => ?_)
    · rw [if_pos hc] at h
      refine wg_blk 1 (i' := 14) (L' := [some (.inr (.inl (0, 0))), some (.inl a1), some (.inl a2), none, none, none]) (st' := [.inl (-1000001 : Int32)]) (M' := M) rfl ?_
      obtain rfl := Option.some.inj h
      exact wg_re rfl trivial ⟨rfl, rfl⟩
    · rw [if_neg hc] at h
      refine wg_blk 2 (i' := 11) (L' := [some (.inr (.inl (0, 0))), some (.inl a1), some (.inl a2), none, none, none]) (st' := [.inl (1 : Int32), .inl a2]) (M' := M) rfl ?_
      refine wg_ca (d' := 1) (y := 32) (as := [.inl a2, .inl (1 : Int32)]) (rest := []) (r := some (f_C_isUpTo a2 (1 : Int32))) (M' := M) rfl (Nat.le_of_ble_eq_true rfl) (s_C_isUpTo a2 (1 : Int32) M _ rfl) ?_
      refine wg_br (c := (f_C_isUpTo a2 (1 : Int32)) = (0 : Int32)) (t := 13) (f := 15) (st' := []) rfl (fun hc => ?_) (fun hc => ?_)
      · rw [if_pos hc] at h
        refine wg_blk 1 (i' := 14) (L' := [some (.inr (.inl (0, 0))), some (.inl a1), some (.inl a2), none, none, none]) (st' := [.inl (-1000001 : Int32)]) (M' := M) rfl ?_
        obtain rfl := Option.some.inj h
        exact wg_re rfl trivial ⟨rfl, rfl⟩
      · rw [if_neg hc] at h
        refine wg_blk 4 (i' := 19) (L' := [some (.inr (.inl (0, 0))), some (.inl a1), some (.inl a2), none, none, none]) (st' := [.inr (.inl (6, 0)), .inr (.inl (6, 1))]) (M' := M) rfl ?_
        obtain ⟨m2, h1, h⟩ := wbs h
        refine wg_ca (d' := 1) (y := 65) (as := [.inr (.inl (6, 1)), .inr (.inl (6, 0))]) (rest := []) (r := none) (M' := m2) rfl (Nat.le_of_ble_eq_true rfl) (s_P_become 1 0 M _ h1) ?_
        refine wg_blk 6 (i' := 26) (L' := [some (.inr (.inl (0, 0))), some (.inl a1), some (.inl a2), some (.inl (-1000000 : Int32)), some (.inl (-1000000 : Int32)), some (.inl (0 : Int32))]) (st' := []) (M' := m2) rfl ?_
        obtain ⟨t12, h13, h⟩ := wbs h
        refine wg_wk (wk_s (wk_s (wk_s (wk_s (wk_s (wk_s wk_e)))))) rfl (l_C_most_26_ok a1 a2 2000 (-1000000 : Int32) (-1000000 : Int32) (0 : Int32) m2 _ h13 ?_)
        refine wg_blk 1 (i' := 67) (L' := [none, none, some (.inl a2), some (.inl t12.1), some (.inl t12.2.1), none]) (st' := [.inl a2]) (M' := t12.2.2) rfl ?_
        refine wg_br (c := a2 = (0 : Int32)) (t := 68) (f := 70) (st' := []) rfl (fun hc => ?_) (fun hc => ?_)
        · rw [if_pos hc] at h
          refine wg_blk 2 (i' := 71) (L' := [none, none, some (.inl a2), some (.inl t12.1), some (.inl t12.2.1), none]) (st' := [.inl t12.1]) (M' := t12.2.2) rfl ?_
          obtain rfl := Option.some.inj h
          exact wg_re rfl trivial ⟨rfl, rfl⟩
        · rw [if_neg hc] at h
          refine wg_blk 1 (i' := 71) (L' := [none, none, some (.inl a2), some (.inl t12.1), some (.inl t12.2.1), none]) (st' := [.inl t12.2.1]) (M' := t12.2.2) rfl ?_
          obtain rfl := Option.some.inj h
          exact wg_re rfl trivial ⟨rfl, rfl⟩
set_option maxRecDepth 20000 in
theorem l_M_most_22_ok (x1 : Int32) (x2 : Int32) {K : Option Int32 → wc_M → Prop} : ∀ (n : Nat) (x3 : Int32) (x4 : Int32) (x5 : Int32) (M : wc_M) (o : Int32 × Int32 × wc_M), l_M_most_22 x1 x2 n x3 x4 x5 M = some o → wg 4 wx0 (some .int) wk_138 68 [none, none, some (.inl x2), some (.inl o.1), some (.inl o.2.1), none, none] [] o.2.2 K → wg 4 wx0 (some .int) wk_138 22 [some (.inr (.inl (21, 0))), some (.inl x1), some (.inl x2), some (.inl x3), some (.inl x4), some (.inl x5), none] [] M K := by
  intro n
  induction n with
  | zero =>
    intro x3 x4 x5 M o h hk
    exact nomatch (show (none : Option (Int32 × Int32 × wc_M)) = some o from h)
  | succ n ih =>
    intro x3 x4 x5 M o h hk
    unfold l_M_most_22 at h
    refine wg_blk 2 (i' := 24) (L' := [some (.inr (.inl (21, 0))), some (.inl x1), some (.inl x2), some (.inl x3), some (.inl x4), some (.inl x5), none]) (st' := [.inl (16 : Int32), .inl x5]) (M' := M) rfl ?_
    refine wg_br (c := (16 : Int32) ≤ x5) (t := 68) (f := 25) (st' := []) rfl (fun hc => ?_) (fun hc => ?_)
    · rw [if_pos hc] at h
      obtain rfl := Option.some.inj h
      exact wg_wk (wk_n (wk_n (wk_s (wk_s (wk_s (wk_n (wk_n wk_e))))))) rfl hk
    · rw [if_neg hc] at h
      refine wg_blk 2 (i' := 27) (L' := [some (.inr (.inl (21, 0))), some (.inl x1), some (.inl x2), some (.inl x3), some (.inl x4), some (.inl x5), none]) (st' := [.inl x5, .inr (.inl (21, 0))]) (M' := M) rfl ?_
      obtain ⟨v2, h1, h⟩ := wbs h
      refine wg_ca (d' := 1) (y := 110) (as := [.inr (.inl (21, 0)), .inl x5]) (rest := []) (r := some v2) (M' := M) rfl (Nat.le_of_ble_eq_true rfl) (s_M_isWork x5 M _ h1) ?_
      refine wg_br (c := v2 = (0 : Int32)) (t := 29) (f := 66) (st' := []) rfl (fun hc => ?_) (fun hc => ?_)
      · rw [if_pos hc] at h
        refine wg_blk 6 (i' := 35) (L' := [some (.inr (.inl (21, 0))), some (.inl x1), some (.inl x2), some (.inl x3), some (.inl x4), some (.inl x5), none]) (st' := [.inl (1 : Int32), .inl ((9 : Int32) + x5), .inr (.inl (25, 0))]) (M' := M) rfl ?_
        obtain ⟨hp3, h⟩ := wif h
        refine wg_ck (st' := []) (M' := (wc_up M 25 0 (((9 : Int32) + x5)).toNatClampNeg (1 : Int32))) rfl (wib_in hp3) ?_
        refine wg_blk 1 (i' := 37) (L' := [some (.inr (.inl (21, 0))), some (.inl x1), some (.inl x2), some (.inl x3), some (.inl x4), some (.inl x5), none]) (st' := [.inr (.inl (21, 0))]) (M' := (wc_up M 25 0 (((9 : Int32) + x5)).toNatClampNeg (1 : Int32))) rfl ?_
        obtain ⟨m5, h4, h⟩ := wbs h
        refine wg_ca (d' := 4) (y := 112) (as := [.inr (.inl (21, 0))]) (rest := []) (r := none) (M' := m5) rfl (Nat.le_of_ble_eq_true rfl) (s_M_blow (wc_up M 25 0 (((9 : Int32) + x5)).toNatClampNeg (1 : Int32)) _ h4) ?_
        refine wg_blk 6 (i' := 44) (L' := [some (.inr (.inl (21, 0))), some (.inl x1), some (.inl x2), some (.inl x3), some (.inl x4), some (.inl x5), none]) (st' := [.inl (0 : Int32), .inl ((9 : Int32) + x5), .inr (.inl (25, 0))]) (M' := m5) rfl ?_
        refine wg_ck (st' := []) (M' := (wc_up m5 25 0 (((9 : Int32) + x5)).toNatClampNeg (0 : Int32))) rfl (wib_in hp3) ?_
        refine wg_blk 5 (i' := 50) (L' := [some (.inr (.inl (21, 0))), some (.inl x1), some (.inl x2), some (.inl x3), some (.inl x4), some (.inl x5), none]) (st' := [.inl ((16 : Int32) + x1), .inr (.inl (29, 0))]) (M' := (wc_up m5 25 0 (((9 : Int32) + x5)).toNatClampNeg (0 : Int32))) rfl ?_
        obtain ⟨hp6, h⟩ := wif h
        refine wg_ck (st' := [.inl ((wc_up m5 25 0 (((9 : Int32) + x5)).toNatClampNeg (0 : Int32)) 29 0 (((16 : Int32) + x1)).toNatClampNeg)]) (M' := (wc_up m5 25 0 (((9 : Int32) + x5)).toNatClampNeg (0 : Int32))) rfl (wib_in hp6) ?_
        refine wg_blk 3 (i' := 54) (L' := [some (.inr (.inl (21, 0))), some (.inl x1), some (.inl x2), some (.inl x3), some (.inl x4), some (.inl x5), some (.inl ((wc_up m5 25 0 (((9 : Int32) + x5)).toNatClampNeg (0 : Int32)) 29 0 (((16 : Int32) + x1)).toNatClampNeg))]) (st' := [.inl x4, .inl ((wc_up m5 25 0 (((9 : Int32) + x5)).toNatClampNeg (0 : Int32)) 29 0 (((16 : Int32) + x1)).toNatClampNeg)]) (M' := (wc_up m5 25 0 (((9 : Int32) + x5)).toNatClampNeg (0 : Int32))) rfl ?_
        obtain ⟨t7, h8, h⟩ := wbs h
        have k : wg 4 wx0 (some .int) wk_138 58 [some (.inr (.inl (21, 0))), some (.inl x1), some (.inl x2), none, some (.inl x4), some (.inl x5), some (.inl ((wc_up m5 25 0 (((9 : Int32) + x5)).toNatClampNeg (0 : Int32)) 29 0 (((16 : Int32) + x1)).toNatClampNeg))] [.inl t7] (wc_up m5 25 0 (((9 : Int32) + x5)).toNatClampNeg (0 : Int32)) K := by
          refine wg_blk 3 (i' := 61) (L' := [some (.inr (.inl (21, 0))), some (.inl x1), some (.inl x2), some (.inl t7), some (.inl x4), some (.inl x5), some (.inl ((wc_up m5 25 0 (((9 : Int32) + x5)).toNatClampNeg (0 : Int32)) 29 0 (((16 : Int32) + x1)).toNatClampNeg))]) (st' := [.inl x4, .inl ((wc_up m5 25 0 (((9 : Int32) + x5)).toNatClampNeg (0 : Int32)) 29 0 (((16 : Int32) + x1)).toNatClampNeg)]) (M' := (wc_up m5 25 0 (((9 : Int32) + x5)).toNatClampNeg (0 : Int32))) rfl ?_
          refine wg_br (c := ((wc_up m5 25 0 (((9 : Int32) + x5)).toNatClampNeg (0 : Int32)) 29 0 (((16 : Int32) + x1)).toNatClampNeg) ≤ x4) (t := 64) (f := 62) (st' := []) rfl (fun hc => ?_) (fun hc => ?_)
          · rw [if_pos hc] at h
            refine wg_blk 4 (i' := 22) (L' := [some (.inr (.inl (21, 0))), some (.inl x1), some (.inl x2), some (.inl t7), some (.inl x4), some (.inl (x5 + (1 : Int32))), some (.inl ((wc_up m5 25 0 (((9 : Int32) + x5)).toNatClampNeg (0 : Int32)) 29 0 (((16 : Int32) + x1)).toNatClampNeg))]) (st' := []) (M' := (wc_up m5 25 0 (((9 : Int32) + x5)).toNatClampNeg (0 : Int32))) rfl ?_
            exact wg_wk (wk_s (wk_s (wk_s (wk_s (wk_s (wk_s (wk_n wk_e))))))) rfl (ih t7 x4 (x5 + (1 : Int32)) (wc_up m5 25 0 (((9 : Int32) + x5)).toNatClampNeg (0 : Int32)) _ h hk)
          · rw [if_neg hc] at h
            refine wg_blk 5 (i' := 22) (L' := [some (.inr (.inl (21, 0))), some (.inl x1), some (.inl x2), some (.inl t7), some (.inl ((wc_up m5 25 0 (((9 : Int32) + x5)).toNatClampNeg (0 : Int32)) 29 0 (((16 : Int32) + x1)).toNatClampNeg)), some (.inl (x5 + (1 : Int32))), some (.inl ((wc_up m5 25 0 (((9 : Int32) + x5)).toNatClampNeg (0 : Int32)) 29 0 (((16 : Int32) + x1)).toNatClampNeg))]) (st' := []) (M' := (wc_up m5 25 0 (((9 : Int32) + x5)).toNatClampNeg (0 : Int32))) rfl ?_
            exact wg_wk (wk_s (wk_s (wk_s (wk_s (wk_s (wk_s (wk_n wk_e))))))) rfl (ih t7 ((wc_up m5 25 0 (((9 : Int32) + x5)).toNatClampNeg (0 : Int32)) 29 0 (((16 : Int32) + x1)).toNatClampNeg) (x5 + (1 : Int32)) (wc_up m5 25 0 (((9 : Int32) + x5)).toNatClampNeg (0 : Int32)) _ h hk)
        clear h
        have h := h8
        clear h8
        refine wg_br (c := ((wc_up m5 25 0 (((9 : Int32) + x5)).toNatClampNeg (0 : Int32)) 29 0 (((16 : Int32) + x1)).toNatClampNeg) ≤ x4) (t := 57) (f := 55) (st' := []) rfl (fun hc => ?_) (fun hc => ?_)
        · rw [if_pos hc] at h
          refine wg_blk 1 (i' := 58) (L' := [some (.inr (.inl (21, 0))), some (.inl x1), some (.inl x2), some (.inl x3), some (.inl x4), some (.inl x5), some (.inl ((wc_up m5 25 0 (((9 : Int32) + x5)).toNatClampNeg (0 : Int32)) 29 0 (((16 : Int32) + x1)).toNatClampNeg))]) (st' := [.inl x3]) (M' := (wc_up m5 25 0 (((9 : Int32) + x5)).toNatClampNeg (0 : Int32))) rfl ?_
          obtain rfl := Option.some.inj h
          exact wg_wk (wk_s (wk_s (wk_s (wk_n (wk_s (wk_s (wk_s wk_e))))))) rfl k
        · rw [if_neg hc] at h
          refine wg_blk 2 (i' := 58) (L' := [some (.inr (.inl (21, 0))), some (.inl x1), some (.inl x2), some (.inl x3), some (.inl x4), some (.inl x5), some (.inl ((wc_up m5 25 0 (((9 : Int32) + x5)).toNatClampNeg (0 : Int32)) 29 0 (((16 : Int32) + x1)).toNatClampNeg))]) (st' := [.inl x5]) (M' := (wc_up m5 25 0 (((9 : Int32) + x5)).toNatClampNeg (0 : Int32))) rfl ?_
          obtain rfl := Option.some.inj h
          exact wg_wk (wk_s (wk_s (wk_s (wk_n (wk_s (wk_s (wk_s wk_e))))))) rfl k
      · rw [if_neg hc] at h
        refine wg_blk 2 (i' := 22) (L' := [some (.inr (.inl (21, 0))), some (.inl x1), some (.inl x2), some (.inl x3), some (.inl x4), some (.inl (x5 + (1 : Int32))), none]) (st' := []) (M' := M) rfl ?_
        exact wg_wk (wk_s (wk_s (wk_s (wk_s (wk_s (wk_s (wk_n wk_e))))))) rfl (ih x3 x4 (x5 + (1 : Int32)) M _ h hk)
set_option maxRecDepth 20000 in
theorem s_M_most (a1 : Int32) (a2 : Int32) (M : wc_M) (z : Int32 × wc_M) (h : f_M_most a1 a2 M = some z) : wc_Sd 5 138 [.inr (.inl (21, 0)), .inl a1, .inl a2] M (some z.1) z.2 := by
  unfold f_M_most at h
  refine wg_Sd (Nat.le_of_ble_eq_true rfl) ?_
  show wg 4 wx0 (some .int) wk_138 0 [some (.inr (.inl (21, 0))), some (.inl a1), some (.inl a2), none, none, none, none] [] M _
  refine wg_blk 2 (i' := 2) (L' := [some (.inr (.inl (21, 0))), some (.inl a1), some (.inl a2), none, none, none, none]) (st' := [.inl (M 21 0 4)]) (M' := M) rfl ?_
  refine wg_br (c := (M 21 0 4) = (0 : Int32)) (t := 3) (f := 5) (st' := []) rfl (fun hc => ?_) (fun hc => ?_)
  · rw [if_pos hc] at h
    refine wg_blk 1 (i' := 4) (L' := [some (.inr (.inl (21, 0))), some (.inl a1), some (.inl a2), none, none, none, none]) (st' := [.inl (-1000002 : Int32)]) (M' := M) rfl ?_
    obtain rfl := Option.some.inj h
    exact wg_re rfl trivial ⟨rfl, rfl⟩
  · rw [if_neg hc] at h
    refine wg_blk 1 (i' := 6) (L' := [some (.inr (.inl (21, 0))), some (.inl a1), some (.inl a2), none, none, none, none]) (st' := [.inl a1]) (M' := M) rfl ?_
    refine wg_ca (d' := 2) (y := 109) (as := [.inl a1]) (rest := []) (r := some (f_M_isRowOfPass a1)) (M' := M) rfl (Nat.le_of_ble_eq_true rfl) (s_M_isRowOfPass a1 M _ rfl) ?_
    refine wg_br (c := (f_M_isRowOfPass a1) = (0 : Int32)) (t := 14) (f := 8) (st' := []) rfl (fun hc => ?_) (fun hc => ?_)
    · rw [if_pos hc] at h
      refine wg_blk 1 (i' := 15) (L' := [some (.inr (.inl (21, 0))), some (.inl a1), some (.inl a2), none, none, none, none]) (st' := [.inl (-1000001 : Int32)]) (M' := M) rfl ?_
      obtain rfl := Option.some.inj h
      exact wg_re rfl trivial ⟨rfl, rfl⟩
    · rw [if_neg hc] at h
      refine wg_blk 4 (i' := 12) (L' := [some (.inr (.inl (21, 0))), some (.inl a1), some (.inl a2), none, none, none, none]) (st' := [.inr (.inr (1 : Int64)), .inr (.inr (0 : Int64)), .inr (.inr (a2).toInt64)]) (M' := M) rfl ?_
      refine wg_ca (d' := 1) (y := 87) (as := [.inr (.inr (a2).toInt64), .inr (.inr (0 : Int64)), .inr (.inr (1 : Int64))]) (rest := []) (r := some (f_M_in (a2).toInt64 (0 : Int64) (1 : Int64))) (M' := M) rfl (Nat.le_of_ble_eq_true rfl) (s_M_in (a2).toInt64 (0 : Int64) (1 : Int64) M _ rfl) ?_
      refine wg_br (c := (f_M_in (a2).toInt64 (0 : Int64) (1 : Int64)) = (0 : Int32)) (t := 14) (f := 16) (st' := []) rfl (fun hc => ?_) (fun hc => ?_)
      · rw [if_pos hc] at h
        refine wg_blk 1 (i' := 15) (L' := [some (.inr (.inl (21, 0))), some (.inl a1), some (.inl a2), none, none, none, none]) (st' := [.inl (-1000001 : Int32)]) (M' := M) rfl ?_
        obtain rfl := Option.some.inj h
        exact wg_re rfl trivial ⟨rfl, rfl⟩
      · rw [if_neg hc] at h
        refine wg_blk 6 (i' := 22) (L' := [some (.inr (.inl (21, 0))), some (.inl a1), some (.inl a2), some (.inl (-1000000 : Int32)), some (.inl (-1 : Int32)), some (.inl (0 : Int32)), none]) (st' := []) (M' := M) rfl ?_
        obtain ⟨t9, h10, h⟩ := wbs h
        refine wg_wk (wk_s (wk_s (wk_s (wk_s (wk_s (wk_s (wk_n wk_e))))))) rfl (l_M_most_22_ok a1 a2 2000 (-1000000 : Int32) (-1 : Int32) (0 : Int32) M _ h10 ?_)
        refine wg_blk 1 (i' := 69) (L' := [none, none, some (.inl a2), some (.inl t9.1), some (.inl t9.2.1), none, none]) (st' := [.inl t9.1]) (M' := t9.2.2) rfl ?_
        refine wg_br (c := (0 : Int32) ≤ t9.1) (t := 72) (f := 70) (st' := []) rfl (fun hc => ?_) (fun hc => ?_)
        · rw [if_pos hc] at h
          refine wg_blk 1 (i' := 73) (L' := [none, none, some (.inl a2), some (.inl t9.1), some (.inl t9.2.1), none, none]) (st' := [.inl a2]) (M' := t9.2.2) rfl ?_
          refine wg_br (c := a2 = (0 : Int32)) (t := 74) (f := 76) (st' := []) rfl (fun hc => ?_) (fun hc => ?_)
          · rw [if_pos hc] at h
            refine wg_blk 2 (i' := 77) (L' := [none, none, some (.inl a2), some (.inl t9.1), some (.inl t9.2.1), none, none]) (st' := [.inl t9.1]) (M' := t9.2.2) rfl ?_
            obtain rfl := Option.some.inj h
            exact wg_re rfl trivial ⟨rfl, rfl⟩
          · rw [if_neg hc] at h
            refine wg_blk 1 (i' := 77) (L' := [none, none, some (.inl a2), some (.inl t9.1), some (.inl t9.2.1), none, none]) (st' := [.inl t9.2.1]) (M' := t9.2.2) rfl ?_
            obtain rfl := Option.some.inj h
            exact wg_re rfl trivial ⟨rfl, rfl⟩
        · rw [if_neg hc] at h
          refine wg_blk 2 (i' := 77) (L' := [none, none, some (.inl a2), some (.inl t9.1), some (.inl t9.2.1), none, none]) (st' := [.inl (-1000000 : Int32)]) (M' := t9.2.2) rfl ?_
          obtain rfl := Option.some.inj h
          exact wg_re rfl trivial ⟨rfl, rfl⟩
set_option maxRecDepth 20000 in
theorem l_C_breakByLot_11_ok (x2 : Int32) {K : Option Int32 → wc_M → Prop} : ∀ (n : Nat) (x3 : Int32) (x4 : Int32) (x5 : Int32) (M : wc_M) (o : Int32 × wc_M), l_C_breakByLot_11 x2 n x3 x4 x5 M = some o → wg 2 wx0 (some .int) wk_50 45 [none, none, none, some (.inl o.1), none, none] [] o.2 K → wg 2 wx0 (some .int) wk_50 11 [some (.inr (.inl (0, 0))), none, some (.inl x2), some (.inl x3), some (.inl x4), some (.inl x5)] [] M K := by
  intro n
  induction n with
  | zero =>
    intro x3 x4 x5 M o h hk
    exact nomatch (show (none : Option (Int32 × wc_M)) = some o from h)
  | succ n ih =>
    intro x3 x4 x5 M o h hk
    unfold l_C_breakByLot_11 at h
    refine wg_blk 2 (i' := 13) (L' := [some (.inr (.inl (0, 0))), none, some (.inl x2), some (.inl x3), some (.inl x4), some (.inl x5)]) (st' := [.inl (16 : Int32), .inl x5]) (M' := M) rfl ?_
    refine wg_br (c := (16 : Int32) ≤ x5) (t := 45) (f := 14) (st' := []) rfl (fun hc => ?_) (fun hc => ?_)
    · rw [if_pos hc] at h
      obtain rfl := Option.some.inj h
      exact wg_wk (wk_n (wk_n (wk_n (wk_s (wk_n (wk_n wk_e)))))) rfl hk
    · rw [if_neg hc] at h
      refine wg_blk 3 (i' := 17) (L' := [some (.inr (.inl (0, 0))), none, some (.inl x2), some (.inl x3), some (.inl x4), some (.inl x5)]) (st' := [.inl x5, .inr (.inl (6, 0))]) (M' := M) rfl ?_
      obtain ⟨v4, h3, h⟩ := wbs h
      refine wg_ca (d' := 1) (y := 69) (as := [.inr (.inl (6, 0)), .inl x5]) (rest := []) (r := some v4) (M' := M) rfl (Nat.le_of_ble_eq_true rfl) (s_P_hasWork 0 x5 M _ h3) ?_
      refine wg_br (c := v4 = (0 : Int32)) (t := 43) (f := 19) (st' := []) rfl (fun hc => ?_) (fun hc => ?_)
      · rw [if_pos hc] at h
        refine wg_blk 2 (i' := 11) (L' := [some (.inr (.inl (0, 0))), none, some (.inl x2), some (.inl x3), some (.inl x4), some (.inl (x5 + (1 : Int32)))]) (st' := []) (M' := M) rfl ?_
        exact wg_wk (wk_s (wk_n (wk_s (wk_s (wk_s (wk_s wk_e)))))) rfl (ih x3 x4 (x5 + (1 : Int32)) M _ h hk)
      · rw [if_neg hc] at h
        refine wg_blk 4 (i' := 23) (L' := [some (.inr (.inl (0, 0))), none, some (.inl x2), some (.inl x3), some (.inl x4), some (.inl x5)]) (st' := [.inl (1 : Int32), .inl (x4 &&& (1 : Int32))]) (M' := M) rfl ?_
        obtain ⟨t5, h8, h⟩ := wbs h
        have k : wg 2 wx0 (some .int) wk_50 39 [some (.inr (.inl (0, 0))), none, some (.inl x2), some (.inl t5.1), some (.inl x4), some (.inl x5)] [] t5.2 K := by
          refine wg_blk 6 (i' := 11) (L' := [some (.inr (.inl (0, 0))), none, some (.inl x2), some (.inl t5.1), some (.inl (x4 >>> ((1 : Int32) &&& (31 : Int32)))), some (.inl (x5 + (1 : Int32)))]) (st' := []) (M' := t5.2) rfl ?_
          exact wg_wk (wk_s (wk_n (wk_s (wk_s (wk_s (wk_s wk_e)))))) rfl (ih t5.1 (x4 >>> ((1 : Int32) &&& (31 : Int32))) (x5 + (1 : Int32)) t5.2 _ h hk)
        clear h
        have h := h8
        clear h8
        refine wg_br (c := (x4 &&& (1 : Int32)) = (1 : Int32)) (t := 24) (f := 33) (st' := []) rfl (fun hc => ?_) (fun hc => ?_)
        · rw [if_pos hc] at h
          refine wg_blk 3 (i' := 27) (L' := [some (.inr (.inl (0, 0))), none, some (.inl x2), some (.inl x3), some (.inl x4), some (.inl x5)]) (st' := [.inl x5, .inr (.inl (6, 1))]) (M' := M) rfl ?_
          obtain ⟨m7, h6, h⟩ := wbs h
          refine wg_ca (d' := 2) (y := 68) (as := [.inr (.inl (6, 1)), .inl x5]) (rest := []) (r := none) (M' := m7) rfl (Nat.le_of_ble_eq_true rfl) (s_P_clear 1 x5 M _ h6) ?_
          refine wg_blk 5 (i' := 39) (L' := [some (.inr (.inl (0, 0))), none, some (.inl x2), some (.inl (x3 * x2)), some (.inl x4), some (.inl x5)]) (st' := []) (M' := m7) rfl ?_
          obtain rfl := Option.some.inj h
          exact wg_wk (wk_s (wk_n (wk_s (wk_s (wk_s (wk_s wk_e)))))) rfl k
        · rw [if_neg hc] at h
          refine wg_blk 6 (i' := 39) (L' := [some (.inr (.inl (0, 0))), none, some (.inl x2), some (.inl (x3 * ((10 : Int32) - x2))), some (.inl x4), some (.inl x5)]) (st' := []) (M' := M) rfl ?_
          obtain rfl := Option.some.inj h
          exact wg_wk (wk_s (wk_n (wk_s (wk_s (wk_s (wk_s wk_e)))))) rfl k
set_option maxRecDepth 20000 in
theorem s_C_breakByLot (a1 : Int32) (a2 : Int32) (M : wc_M) (z : Int32 × wc_M) (h : f_C_breakByLot a1 a2 M = some z) : wc_Sd 3 50 [.inr (.inl (0, 0)), .inl a1, .inl a2] M (some z.1) z.2 := by
  unfold f_C_breakByLot at h
  refine wg_Sd (Nat.le_of_ble_eq_true rfl) ?_
  show wg 2 wx0 (some .int) wk_50 0 [some (.inr (.inl (0, 0))), some (.inl a1), some (.inl a2), none, none, none] [] M _
  refine wg_blk 4 (i' := 4) (L' := [some (.inr (.inl (0, 0))), some (.inl a1), some (.inl a2), none, none, none]) (st' := [.inr (.inl (6, 0)), .inr (.inl (6, 1))]) (M' := M) rfl ?_
  obtain ⟨m2, h1, h⟩ := wbs h
  refine wg_ca (d' := 1) (y := 65) (as := [.inr (.inl (6, 1)), .inr (.inl (6, 0))]) (rest := []) (r := none) (M' := m2) rfl (Nat.le_of_ble_eq_true rfl) (s_P_become 1 0 M _ h1) ?_
  refine wg_blk 6 (i' := 11) (L' := [some (.inr (.inl (0, 0))), some (.inl a1), some (.inl a2), some (.inl (1 : Int32)), some (.inl a1), some (.inl (0 : Int32))]) (st' := []) (M' := m2) rfl ?_
  obtain ⟨t9, h10, h⟩ := wbs h
  refine wg_wk (wk_s (wk_n (wk_s (wk_s (wk_s (wk_s wk_e)))))) rfl (l_C_breakByLot_11_ok a2 2000 (1 : Int32) a1 (0 : Int32) m2 _ h10 ?_)
  refine wg_blk 1 (i' := 46) (L' := [none, none, none, some (.inl t9.1), none, none]) (st' := [.inl t9.1]) (M' := t9.2) rfl ?_
  obtain rfl := Option.some.inj h
  exact wg_re rfl trivial ⟨rfl, rfl⟩
set_option maxRecDepth 20000 in
theorem l_C_commonDivisor_6_ok (M : wc_M) {K : Option Int32 → wc_M → Prop} : ∀ (n : Nat) (x2 : Int32) (x3 : Int32) (x4 : Int32) (o : Int32), l_C_commonDivisor_6 n x2 x3 x4 = some o → wg 0 wx0 (some .int) wk_51 21 [none, none, some (.inl o), none, none, none] [] M K → wg 0 wx0 (some .int) wk_51 6 [none, none, some (.inl x2), some (.inl x3), some (.inl x4), none] [] M K := by
  intro n
  induction n with
  | zero =>
    intro x2 x3 x4 o h hk
    exact nomatch (show (none : Option (Int32)) = some o from h)
  | succ n ih =>
    intro x2 x3 x4 o h hk
    unfold l_C_commonDivisor_6 at h
    refine wg_blk 2 (i' := 8) (L' := [none, none, some (.inl x2), some (.inl x3), some (.inl x4), none]) (st' := [.inl (100 : Int32), .inl x4]) (M' := M) rfl ?_
    refine wg_br (c := (100 : Int32) ≤ x4) (t := 21) (f := 9) (st' := []) rfl (fun hc => ?_) (fun hc => ?_)
    · rw [if_pos hc] at h
      obtain rfl := Option.some.inj h
      exact wg_wk (wk_n (wk_n (wk_s (wk_n (wk_n (wk_n wk_e)))))) rfl hk
    · rw [if_neg hc] at h
      refine wg_blk 1 (i' := 10) (L' := [none, none, some (.inl x2), some (.inl x3), some (.inl x4), none]) (st' := [.inl x3]) (M' := M) rfl ?_
      refine wg_br (c := x3 ≤ (0 : Int32)) (t := 21) (f := 11) (st' := []) rfl (fun hc => ?_) (fun hc => ?_)
      · rw [if_pos hc] at h
        obtain rfl := Option.some.inj h
        exact wg_wk (wk_n (wk_n (wk_s (wk_n (wk_n (wk_n wk_e)))))) rfl hk
      · rw [if_neg hc] at h
        refine wg_blk 2 (i' := 13) (L' := [none, none, some (.inl x2), some (.inl x3), some (.inl x4), none]) (st' := [.inl x3, .inl x2]) (M' := M) rfl ?_
        obtain ⟨hp1, h⟩ := wif h
        refine wg_ck (st' := [.inl (wc_rem x2 x3)]) (M' := M) rfl hp1 ?_
        refine wg_blk 7 (i' := 6) (L' := [none, none, some (.inl x3), some (.inl (wc_rem x2 x3)), some (.inl (x4 + (1 : Int32))), some (.inl (wc_rem x2 x3))]) (st' := []) (M' := M) rfl ?_
        exact wg_wk (wk_n (wk_n (wk_s (wk_s (wk_s (wk_n wk_e)))))) rfl (ih x3 (wc_rem x2 x3) (x4 + (1 : Int32)) _ h hk)
set_option maxRecDepth 20000 in
theorem s_C_commonDivisor (a0 : Int32) (a1 : Int32) (M : wc_M) (z : Int32) (h : f_C_commonDivisor a0 a1 = some z) : wc_Sd 1 51 [.inl a0, .inl a1] M (some z) M := by
  unfold f_C_commonDivisor at h
  refine wg_Sd (Nat.le_of_ble_eq_true rfl) ?_
  show wg 0 wx0 (some .int) wk_51 0 [some (.inl a0), some (.inl a1), none, none, none, none] [] M _
  refine wg_blk 6 (i' := 6) (L' := [some (.inl a0), some (.inl a1), some (.inl a0), some (.inl a1), some (.inl (0 : Int32)), none]) (st' := []) (M' := M) rfl ?_
  obtain ⟨t2, h3, h⟩ := wbs h
  refine wg_wk (wk_n (wk_n (wk_s (wk_s (wk_s (wk_n wk_e)))))) rfl (l_C_commonDivisor_6_ok M 2000 a0 a1 (0 : Int32) _ h3 ?_)
  refine wg_blk 3 (i' := 24) (L' := [none, none, some (.inl t2), none, none, none]) (st' := [.inl (if (1 : Int32) < t2 then t2 else (1 : Int32))]) (M' := M) rfl ?_
  obtain rfl := Option.some.inj h
  exact wg_re rfl trivial ⟨rfl, rfl⟩
set_option maxRecDepth 20000 in
theorem l_C_lots_31_ok (x1 : Int32) (x2 : Int32) (x3 : Int32) (x4 : Int32) (M : wc_M) {K : Option Int32 → wc_M → Prop} : ∀ (n : Nat) (x5 : Int32) (x6 : Int32) (x7 : Int32) (o : Int32 × Int32), l_C_lots_31 x1 x2 x3 x4 n x5 x6 x7 = some o → wg 3 wx0 (some .int) wk_23 43 [some (.inr (.inl (0, 0))), some (.inl x1), some (.inl x2), some (.inl x3), some (.inl x4), some (.inl o.1), some (.inl o.2), none, none, none] [] M K → wg 3 wx0 (some .int) wk_23 31 [some (.inr (.inl (0, 0))), some (.inl x1), some (.inl x2), some (.inl x3), some (.inl x4), some (.inl x5), some (.inl x6), some (.inl x7), none, none] [] M K := by
  intro n
  induction n with
  | zero =>
    intro x5 x6 x7 o h hk
    exact nomatch (show (none : Option (Int32 × Int32)) = some o from h)
  | succ n ih =>
    intro x5 x6 x7 o h hk
    unfold l_C_lots_31 at h
    refine wg_blk 1 (i' := 32) (L' := [some (.inr (.inl (0, 0))), some (.inl x1), some (.inl x2), some (.inl x3), some (.inl x4), some (.inl x5), some (.inl x6), some (.inl x7), none, none]) (st' := [.inl x7]) (M' := M) rfl ?_
    refine wg_br (c := x7 ≤ (0 : Int32)) (t := 43) (f := 33) (st' := []) rfl (fun hc => ?_) (fun hc => ?_)
    · rw [if_pos hc] at h
      obtain rfl := Option.some.inj h
      exact wg_wk (wk_s (wk_s (wk_s (wk_s (wk_s (wk_s (wk_s (wk_n (wk_n (wk_n wk_e)))))))))) rfl hk
    · rw [if_neg hc] at h
      refine wg_blk 10 (i' := 31) (L' := [some (.inr (.inl (0, 0))), some (.inl x1), some (.inl x2), some (.inl x3), some (.inl x4), some (.inl (x5 * (2 : Int32))), some (.inl (x6 * (10 : Int32))), some (.inl (x7 + (-1 : Int32))), none, none]) (st' := []) (M' := M) rfl ?_
      exact wg_wk (wk_s (wk_s (wk_s (wk_s (wk_s (wk_s (wk_s (wk_s (wk_n (wk_n wk_e)))))))))) rfl (ih (x5 * (2 : Int32)) (x6 * (10 : Int32)) (x7 + (-1 : Int32)) _ h hk)
set_option maxRecDepth 20000 in
theorem l_C_lots_47_ok (x1 : Int32) (x2 : Int32) (x3 : Int32) (x4 : Int32) (x5 : Int32) (x6 : Int32) {K : Option Int32 → wc_M → Prop} : ∀ (n : Nat) (x7 : Int32) (x8 : Int32) (M : wc_M) (o : Int32 × wc_M), l_C_lots_47 x1 x2 x3 x4 x5 x6 n x7 x8 M = some o → wg 3 wx0 (some .int) wk_23 73 [none, none, none, none, some (.inl x4), none, some (.inl x6), some (.inl o.1), none, none] [] o.2 K → wg 3 wx0 (some .int) wk_23 47 [some (.inr (.inl (0, 0))), some (.inl x1), some (.inl x2), some (.inl x3), some (.inl x4), some (.inl x5), some (.inl x6), some (.inl x7), some (.inl x8), none] [] M K := by
  intro n
  induction n with
  | zero =>
    intro x7 x8 M o h hk
    exact nomatch (show (none : Option (Int32 × wc_M)) = some o from h)
  | succ n ih =>
    intro x7 x8 M o h hk
    unfold l_C_lots_47 at h
    refine wg_blk 2 (i' := 49) (L' := [some (.inr (.inl (0, 0))), some (.inl x1), some (.inl x2), some (.inl x3), some (.inl x4), some (.inl x5), some (.inl x6), some (.inl x7), some (.inl x8), none]) (st' := [.inl x5, .inl x8]) (M' := M) rfl ?_
    refine wg_br (c := x5 ≤ x8) (t := 73) (f := 50) (st' := []) rfl (fun hc => ?_) (fun hc => ?_)
    · rw [if_pos hc] at h
      obtain rfl := Option.some.inj h
      exact wg_wk (wk_n (wk_n (wk_n (wk_n (wk_s (wk_n (wk_s (wk_s (wk_n (wk_n wk_e)))))))))) rfl hk
    · rw [if_neg hc] at h
      refine wg_blk 3 (i' := 53) (L' := [some (.inr (.inl (0, 0))), some (.inl x1), some (.inl x2), some (.inl x3), some (.inl x4), some (.inl x5), some (.inl x6), some (.inl x7), some (.inl x8), none]) (st' := [.inl x3, .inl x8, .inr (.inl (0, 0))]) (M' := M) rfl ?_
      obtain ⟨q6, h5, h⟩ := wbs h
      refine wg_ca (d' := 3) (y := 50) (as := [.inr (.inl (0, 0)), .inl x8, .inl x3]) (rest := []) (r := some q6.1) (M' := q6.2) rfl (Nat.le_of_ble_eq_true rfl) (s_C_breakByLot x8 x3 M _ h5) ?_
      refine wg_blk 5 (i' := 59) (L' := [some (.inr (.inl (0, 0))), some (.inl x1), some (.inl x2), some (.inl x3), some (.inl x4), some (.inl x5), some (.inl x6), some (.inl x7), some (.inl x8), some (.inl q6.1)]) (st' := [.inr (.inl (6, 1)), .inr (.inl (12, 0))]) (M' := q6.2) rfl ?_
      obtain ⟨m8, h7, h⟩ := wbs h
      refine wg_ca (d' := 3) (y := 74) (as := [.inr (.inl (12, 0)), .inr (.inl (6, 1))]) (rest := []) (r := none) (M' := m8) rfl (Nat.le_of_ble_eq_true rfl) (s_A_blow 1 q6.2 _ h7) ?_
      refine wg_blk 4 (i' := 64) (L' := [some (.inr (.inl (0, 0))), some (.inl x1), some (.inl x2), some (.inl x3), some (.inl x4), some (.inl x5), some (.inl x6), some (.inl x7), some (.inl x8), some (.inl q6.1)]) (st' := [.inl x1, .inr (.inl (13, 0))]) (M' := m8) rfl ?_
      obtain ⟨hp9, h⟩ := wif h
      refine wg_ck (st' := [.inl (m8 13 0 (x1).toNatClampNeg)]) (M' := m8) rfl (wib_in hp9) ?_
      refine wg_blk 1 (i' := 66) (L' := [some (.inr (.inl (0, 0))), some (.inl x1), some (.inl x2), some (.inl x3), some (.inl x4), some (.inl x5), some (.inl x6), some (.inl x7), some (.inl x8), some (.inl q6.1)]) (st' := [.inl x2, .inl (m8 13 0 (x1).toNatClampNeg)]) (M' := m8) rfl ?_
      refine wg_br (c := (m8 13 0 (x1).toNatClampNeg) < x2) (t := 71) (f := 67) (st' := []) rfl (fun hc => ?_) (fun hc => ?_)
      · rw [if_pos hc] at h
        refine wg_blk 2 (i' := 47) (L' := [some (.inr (.inl (0, 0))), some (.inl x1), some (.inl x2), some (.inl x3), some (.inl x4), some (.inl x5), some (.inl x6), some (.inl x7), some (.inl (x8 + (1 : Int32))), some (.inl q6.1)]) (st' := []) (M' := m8) rfl ?_
        exact wg_wk (wk_s (wk_s (wk_s (wk_s (wk_s (wk_s (wk_s (wk_s (wk_s (wk_n wk_e)))))))))) rfl (ih x7 (x8 + (1 : Int32)) m8 _ h hk)
      · rw [if_neg hc] at h
        refine wg_blk 6 (i' := 47) (L' := [some (.inr (.inl (0, 0))), some (.inl x1), some (.inl x2), some (.inl x3), some (.inl x4), some (.inl x5), some (.inl x6), some (.inl (x7 + q6.1)), some (.inl (x8 + (1 : Int32))), some (.inl q6.1)]) (st' := []) (M' := m8) rfl ?_
        exact wg_wk (wk_s (wk_s (wk_s (wk_s (wk_s (wk_s (wk_s (wk_s (wk_s (wk_n wk_e)))))))))) rfl (ih (x7 + q6.1) (x8 + (1 : Int32)) m8 _ h hk)
set_option maxRecDepth 20000 in
theorem s_C_lots (a1 : Int32) (a2 : Int32) (a3 : Int32) (a4 : Int32) (M : wc_M) (z : Int32 × wc_M) (h : f_C_lots a1 a2 a3 a4 M = some z) : wc_Sd 4 23 [.inr (.inl (0, 0)), .inl a1, .inl a2, .inl a3, .inl a4] M (some z.1) z.2 := by
  unfold f_C_lots at h
  refine wg_Sd (Nat.le_of_ble_eq_true rfl) ?_
  show wg 3 wx0 (some .int) wk_23 0 [some (.inr (.inl (0, 0))), some (.inl a1), some (.inl a2), some (.inl a3), some (.inl a4), none, none, none, none, none] [] M _
  refine wg_blk 3 (i' := 3) (L' := [some (.inr (.inl (0, 0))), some (.inl a1), some (.inl a2), some (.inl a3), some (.inl a4), none, none, none, none, none]) (st' := [.inl (M 6 0 5)]) (M' := M) rfl ?_
  refine wg_br (c := (M 6 0 5) = (0 : Int32)) (t := 4) (f := 6) (st' := []) rfl (fun hc => ?_) (fun hc => ?_)
  · rw [if_pos hc] at h
    refine wg_blk 1 (i' := 5) (L' := [some (.inr (.inl (0, 0))), some (.inl a1), some (.inl a2), some (.inl a3), some (.inl a4), none, none, none, none, none]) (st' := [.inl (-1000002 : Int32)]) (M' := M) rfl ?_
    obtain rfl := Option.some.inj h
    exact wg_re rfl trivial ⟨rfl, rfl⟩
  · rw [if_neg hc] at h
    refine wg_blk 1 (i' := 7) (L' := [some (.inr (.inl (0, 0))), some (.inl a1), some (.inl a2), some (.inl a3), some (.inl a4), none, none, none, none, none]) (st' := [.inl a1]) (M' := M) rfl ?_
    refine wg_ca (d' := 2) (y := 33) (as := [.inl a1]) (rest := []) (r := some (f_C_isCell a1)) (M' := M) rfl (Nat.le_of_ble_eq_true rfl) (s_C_isCell a1 M _ rfl) ?_
    refine wg_br (c := (f_C_isCell a1) = (0 : Int32)) (t := 21) (f := 9) (st' := []) rfl (fun hc => ?_) (fun hc => ?_)
    · rw [if_pos hc] at h
      refine wg_blk 1 (i' := 22) (L' := [some (.inr (.inl (0, 0))), some (.inl a1), some (.inl a2), some (.inl a3), some (.inl a4), none, none, none, none, none]) (st' := [.inl (-1000001 : Int32)]) (M' := M) rfl ?_
      obtain rfl := Option.some.inj h
      exact wg_re rfl trivial ⟨rfl, rfl⟩
    · rw [if_neg hc] at h
      refine wg_blk 2 (i' := 11) (L' := [some (.inr (.inl (0, 0))), some (.inl a1), some (.inl a2), some (.inl a3), some (.inl a4), none, none, none, none, none]) (st' := [.inl (99 : Int32), .inl a2]) (M' := M) rfl ?_
      refine wg_ca (d' := 1) (y := 32) (as := [.inl a2, .inl (99 : Int32)]) (rest := []) (r := some (f_C_isUpTo a2 (99 : Int32))) (M' := M) rfl (Nat.le_of_ble_eq_true rfl) (s_C_isUpTo a2 (99 : Int32) M _ rfl) ?_
      refine wg_br (c := (f_C_isUpTo a2 (99 : Int32)) = (0 : Int32)) (t := 21) (f := 13) (st' := []) rfl (fun hc => ?_) (fun hc => ?_)
      · rw [if_pos hc] at h
        refine wg_blk 1 (i' := 22) (L' := [some (.inr (.inl (0, 0))), some (.inl a1), some (.inl a2), some (.inl a3), some (.inl a4), none, none, none, none, none]) (st' := [.inl (-1000001 : Int32)]) (M' := M) rfl ?_
        obtain rfl := Option.some.inj h
        exact wg_re rfl trivial ⟨rfl, rfl⟩
      · rw [if_neg hc] at h
        refine wg_blk 2 (i' := 15) (L' := [some (.inr (.inl (0, 0))), some (.inl a1), some (.inl a2), some (.inl a3), some (.inl a4), none, none, none, none, none]) (st' := [.inl (10 : Int32), .inl a3]) (M' := M) rfl ?_
        refine wg_ca (d' := 1) (y := 32) (as := [.inl a3, .inl (10 : Int32)]) (rest := []) (r := some (f_C_isUpTo a3 (10 : Int32))) (M' := M) rfl (Nat.le_of_ble_eq_true rfl) (s_C_isUpTo a3 (10 : Int32) M _ rfl) ?_
        refine wg_br (c := (f_C_isUpTo a3 (10 : Int32)) = (0 : Int32)) (t := 21) (f := 17) (st' := []) rfl (fun hc => ?_) (fun hc => ?_)
        · rw [if_pos hc] at h
          refine wg_blk 1 (i' := 22) (L' := [some (.inr (.inl (0, 0))), some (.inl a1), some (.inl a2), some (.inl a3), some (.inl a4), none, none, none, none, none]) (st' := [.inl (-1000001 : Int32)]) (M' := M) rfl ?_
          obtain rfl := Option.some.inj h
          exact wg_re rfl trivial ⟨rfl, rfl⟩
        · rw [if_neg hc] at h
          refine wg_blk 2 (i' := 19) (L' := [some (.inr (.inl (0, 0))), some (.inl a1), some (.inl a2), some (.inl a3), some (.inl a4), none, none, none, none, none]) (st' := [.inl (1 : Int32), .inl a4]) (M' := M) rfl ?_
          refine wg_ca (d' := 1) (y := 32) (as := [.inl a4, .inl (1 : Int32)]) (rest := []) (r := some (f_C_isUpTo a4 (1 : Int32))) (M' := M) rfl (Nat.le_of_ble_eq_true rfl) (s_C_isUpTo a4 (1 : Int32) M _ rfl) ?_
          refine wg_br (c := (f_C_isUpTo a4 (1 : Int32)) = (0 : Int32)) (t := 21) (f := 23) (st' := []) rfl (fun hc => ?_) (fun hc => ?_)
          · rw [if_pos hc] at h
            refine wg_blk 1 (i' := 22) (L' := [some (.inr (.inl (0, 0))), some (.inl a1), some (.inl a2), some (.inl a3), some (.inl a4), none, none, none, none, none]) (st' := [.inl (-1000001 : Int32)]) (M' := M) rfl ?_
            obtain rfl := Option.some.inj h
            exact wg_re rfl trivial ⟨rfl, rfl⟩
          · rw [if_neg hc] at h
            refine wg_blk 6 (i' := 29) (L' := [some (.inr (.inl (0, 0))), some (.inl a1), some (.inl a2), some (.inl a3), some (.inl a4), some (.inl (1 : Int32)), some (.inl (1 : Int32)), none, none, none]) (st' := [.inr (.inl (6, 0))]) (M' := M) rfl ?_
            obtain ⟨v2, h1, h⟩ := wbs h
            refine wg_ca (d' := 2) (y := 70) (as := [.inr (.inl (6, 0))]) (rest := []) (r := some v2) (M' := M) rfl (Nat.le_of_ble_eq_true rfl) (s_P_works 0 M _ h1) ?_
            refine wg_blk 1 (i' := 31) (L' := [some (.inr (.inl (0, 0))), some (.inl a1), some (.inl a2), some (.inl a3), some (.inl a4), some (.inl (1 : Int32)), some (.inl (1 : Int32)), some (.inl v2), none, none]) (st' := []) (M' := M) rfl ?_
            obtain ⟨t3, h4, h⟩ := wbs h
            refine wg_wk (wk_s (wk_s (wk_s (wk_s (wk_s (wk_s (wk_s (wk_s (wk_n (wk_n wk_e)))))))))) rfl (l_C_lots_31_ok a1 a2 a3 a4 M 2000 (1 : Int32) (1 : Int32) v2 _ h4 ?_)
            refine wg_blk 4 (i' := 47) (L' := [some (.inr (.inl (0, 0))), some (.inl a1), some (.inl a2), some (.inl a3), some (.inl a4), some (.inl t3.1), some (.inl t3.2), some (.inl (0 : Int32)), some (.inl (0 : Int32)), none]) (st' := []) (M' := M) rfl ?_
            obtain ⟨t10, h11, h⟩ := wbs h
            refine wg_wk (wk_s (wk_s (wk_s (wk_s (wk_s (wk_s (wk_s (wk_s (wk_s (wk_n wk_e)))))))))) rfl (l_C_lots_47_ok a1 a2 a3 a4 t3.1 t3.2 2000 (0 : Int32) (0 : Int32) M _ h11 ?_)
            refine wg_blk 2 (i' := 75) (L' := [none, none, none, none, some (.inl a4), none, some (.inl t3.2), some (.inl t10.1), none, none]) (st' := [.inl t10.1, .inl t3.2]) (M' := t10.2) rfl ?_
            obtain ⟨v13, h12, h⟩ := wbs h
            refine wg_ca (d' := 1) (y := 51) (as := [.inl t3.2, .inl t10.1]) (rest := []) (r := some v13) (M' := t10.2) rfl (Nat.le_of_ble_eq_true rfl) (s_C_commonDivisor t3.2 t10.1 t10.2 _ h12) ?_
            refine wg_blk 2 (i' := 78) (L' := [none, none, none, none, some (.inl a4), none, some (.inl t3.2), some (.inl t10.1), some (.inl v13), none]) (st' := [.inl a4]) (M' := t10.2) rfl ?_
            obtain ⟨t14, h16, h⟩ := wbs h
            have k : wg 3 wx0 (some .int) wk_23 82 [none, none, none, none, none, none, none, none, some (.inl v13), none] [.inl t14] t10.2 (fun r2 M2 => r2 = some z.1 ∧ M2 = z.2) := by
              refine wg_blk 1 (i' := 83) (L' := [none, none, none, none, none, none, none, none, some (.inl v13), none]) (st' := [.inl v13, .inl t14]) (M' := t10.2) rfl ?_
              obtain ⟨hp15, h⟩ := wif h
              refine wg_ck (st' := [.inl (t14 / v13)]) (M' := t10.2) rfl hp15 ?_
              obtain rfl := Option.some.inj h
              exact wg_re rfl trivial ⟨rfl, rfl⟩
            clear h
            have h := h16
            clear h16
            refine wg_br (c := a4 = (0 : Int32)) (t := 79) (f := 81) (st' := []) rfl (fun hc => ?_) (fun hc => ?_)
            · rw [if_pos hc] at h
              refine wg_blk 2 (i' := 82) (L' := [none, none, none, none, some (.inl a4), none, some (.inl t3.2), some (.inl t10.1), some (.inl v13), none]) (st' := [.inl t10.1]) (M' := t10.2) rfl ?_
              obtain rfl := Option.some.inj h
              exact wg_wk (wk_n (wk_n (wk_n (wk_n (wk_n (wk_n (wk_n (wk_n (wk_s (wk_n wk_e)))))))))) rfl k
            · rw [if_neg hc] at h
              refine wg_blk 1 (i' := 82) (L' := [none, none, none, none, some (.inl a4), none, some (.inl t3.2), some (.inl t10.1), some (.inl v13), none]) (st' := [.inl t3.2]) (M' := t10.2) rfl ?_
              obtain rfl := Option.some.inj h
              exact wg_wk (wk_n (wk_n (wk_n (wk_n (wk_n (wk_n (wk_n (wk_n (wk_s (wk_n wk_e)))))))))) rfl k
