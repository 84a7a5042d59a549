/-! THE FUNCTIONS are what the code does (written by wip/whole/gen/dec.py) -/
set_option maxRecDepth 20000 in
theorem l_M_lots_39_ok (x1 : Int32) (x2 : Int32) (x3 : Int32) (x4 : Int32) (x5 : Int32) (x6 : Int32) (M : wc_M) {K : Option Int32 → wc_M → Prop} : ∀ (n : Nat) (x7 : Int32) (x8 : Int32) (o : Int32), l_M_lots_39 x1 x2 x3 x4 x5 x6 n x7 x8 = some o → wg 5 wx0 (some .int) wk_139 48 [some (.inr (.inl (21, 0))), some (.inl x1), some (.inl x2), some (.inl x3), some (.inl x4), some (.inl x5), some (.inl x6), some (.inl o), none, none, none, none] [] M K → wg 5 wx0 (some .int) wk_139 39 [some (.inr (.inl (21, 0))), some (.inl x1), some (.inl x2), some (.inl x3), some (.inl x4), some (.inl x5), some (.inl x6), some (.inl x7), some (.inl x8), none, none, none] [] M K := by
  intro n
  induction n with
  | zero =>
    intro x7 x8 o h hk
    exact nomatch (show (none : Option (Int32)) = some o from h)
  | succ n ih =>
    intro x7 x8 o h hk
    unfold l_M_lots_39 at h
    refine wg_blk 2 (i' := 41) (L' := [some (.inr (.inl (21, 0))), some (.inl x1), some (.inl x2), some (.inl x3), some (.inl x4), some (.inl x5), some (.inl x6), some (.inl x7), some (.inl x8), none, none, none]) (st' := [.inl x5, .inl x8]) (M' := M) rfl ?_
    refine wg_br (c := x5 ≤ x8) (t := 48) (f := 42) (st' := []) rfl (fun hc => ?_) (fun hc => ?_)
    · rw [if_pos hc] at h
      obtain rfl := Option.some.inj h
      exact wg_wk (wk_s (wk_s (wk_s (wk_s (wk_s (wk_s (wk_s (wk_s (wk_n (wk_n (wk_n (wk_n wk_e)))))))))))) rfl hk
    · rw [if_neg hc] at h
      refine wg_blk 6 (i' := 39) (L' := [some (.inr (.inl (21, 0))), some (.inl x1), some (.inl x2), some (.inl x3), some (.inl x4), some (.inl x5), some (.inl x6), some (.inl (x7 * (10 : Int32))), some (.inl (x8 + (1 : Int32))), none, none, none]) (st' := []) (M' := M) rfl ?_
      exact wg_wk (wk_s (wk_s (wk_s (wk_s (wk_s (wk_s (wk_s (wk_s (wk_s (wk_n (wk_n (wk_n wk_e)))))))))))) rfl (ih (x7 * (10 : Int32)) (x8 + (1 : Int32)) _ h hk)
set_option maxRecDepth 20000 in
theorem l_M_lots_61_ok (x1 : Int32) (x2 : Int32) (x3 : Int32) (x4 : Int32) (x5 : Int32) (x6 : Int32) (x7 : Int32) (x8 : Int32) {K : Option Int32 → wc_M → Prop} : ∀ (n : Nat) (x9 : Int32) (x10 : Int32) (x11 : Int32) (M : wc_M) (o : Int32 × wc_M), l_M_lots_61 x1 x2 x3 x4 x5 x6 x7 x8 n x9 x10 x11 M = some o → wg 5 wx0 (some .int) wk_139 90 [some (.inr (.inl (21, 0))), some (.inl x1), some (.inl x2), some (.inl x3), some (.inl x4), some (.inl x5), some (.inl x6), some (.inl x7), some (.inl x8), some (.inl o.1), none, none] [] o.2 K → wg 5 wx0 (some .int) wk_139 61 [some (.inr (.inl (21, 0))), some (.inl x1), some (.inl x2), some (.inl x3), some (.inl x4), some (.inl x5), some (.inl x6), some (.inl x7), some (.inl x8), some (.inl x9), some (.inl x10), some (.inl x11)] [] M K := by
  intro n
  induction n with
  | zero =>
    intro x9 x10 x11 M o h hk
    exact nomatch (show (none : Option (Int32 × wc_M)) = some o from h)
  | succ n ih =>
    intro x9 x10 x11 M o h hk
    unfold l_M_lots_61 at h
    refine wg_blk 2 (i' := 63) (L' := [some (.inr (.inl (21, 0))), some (.inl x1), some (.inl x2), some (.inl x3), some (.inl x4), some (.inl x5), some (.inl x6), some (.inl x7), some (.inl x8), some (.inl x9), some (.inl x10), some (.inl x11)]) (st' := [.inl (16 : Int32), .inl x11]) (M' := M) rfl ?_
    refine wg_br (c := (16 : Int32) ≤ x11) (t := 90) (f := 64) (st' := []) rfl (fun hc => ?_) (fun hc => ?_)
    · rw [if_pos hc] at h
      obtain rfl := Option.some.inj h
      exact wg_wk (wk_s (wk_s (wk_s (wk_s (wk_s (wk_s (wk_s (wk_s (wk_s (wk_s (wk_n (wk_n wk_e)))))))))))) rfl hk
    · rw [if_neg hc] at h
      refine wg_blk 2 (i' := 66) (L' := [some (.inr (.inl (21, 0))), some (.inl x1), some (.inl x2), some (.inl x3), some (.inl x4), some (.inl x5), some (.inl x6), some (.inl x7), some (.inl x8), some (.inl x9), some (.inl x10), some (.inl x11)]) (st' := [.inl x11, .inr (.inl (21, 0))]) (M' := M) rfl ?_
      obtain ⟨v8, h7, h⟩ := wbs h
      refine wg_ca (d' := 1) (y := 110) (as := [.inr (.inl (21, 0)), .inl x11]) (rest := []) (r := some v8) (M' := M) rfl (Nat.le_of_ble_eq_true rfl) (s_M_isWork x11 M _ h7) ?_
      refine wg_br (c := v8 = (0 : Int32)) (t := 88) (f := 68) (st' := []) rfl (fun hc => ?_) (fun hc => ?_)
      · rw [if_pos hc] at h
        refine wg_blk 2 (i' := 61) (L' := [some (.inr (.inl (21, 0))), some (.inl x1), some (.inl x2), some (.inl x3), some (.inl x4), some (.inl x5), some (.inl x6), some (.inl x7), some (.inl x8), some (.inl x9), some (.inl x10), some (.inl (x11 + (1 : Int32)))]) (st' := []) (M' := M) rfl ?_
        exact wg_wk (wk_s (wk_s (wk_s (wk_s (wk_s (wk_s (wk_s (wk_s (wk_s (wk_s (wk_s (wk_s wk_e)))))))))))) rfl (ih x9 x10 (x11 + (1 : Int32)) M _ h hk)
      · rw [if_neg hc] at h
        refine wg_blk 3 (i' := 71) (L' := [some (.inr (.inl (21, 0))), some (.inl x1), some (.inl x2), some (.inl x3), some (.inl x4), some (.inl x5), some (.inl x6), some (.inl x7), some (.inl x8), some (.inl x9), some (.inl x10), some (.inl x11)]) (st' := [.inl x10, .inl x8, .inl x9]) (M' := M) rfl ?_
        refine wg_ca (d' := 1) (y := 88) (as := [.inl x8, .inl x10]) (rest := [.inl x9]) (r := some (f_M_has x8 x10)) (M' := M) rfl (Nat.le_of_ble_eq_true rfl) (s_M_has x8 x10 M _ rfl) ?_
        obtain ⟨t9, h12, h⟩ := wbs h
        have k : wg 5 wx0 (some .int) wk_139 78 [some (.inr (.inl (21, 0))), some (.inl x1), some (.inl x2), some (.inl x3), some (.inl x4), some (.inl x5), some (.inl x6), some (.inl x7), some (.inl x8), none, some (.inl x10), some (.inl x11)] [.inl t9, .inl x9] M K := by
          refine wg_blk 4 (i' := 82) (L' := [some (.inr (.inl (21, 0))), some (.inl x1), some (.inl x2), some (.inl x3), some (.inl x4), some (.inl x5), some (.inl x6), some (.inl x7), some (.inl x8), some (.inl (x9 * t9)), some (.inl x10), some (.inl x11)]) (st' := [.inl x10, .inl x8]) (M' := M) rfl ?_
          refine wg_ca (d' := 1) (y := 88) (as := [.inl x8, .inl x10]) (rest := []) (r := some (f_M_has x8 x10)) (M' := M) rfl (Nat.le_of_ble_eq_true rfl) (s_M_has x8 x10 M _ rfl) ?_
          refine wg_br (c := (f_M_has x8 x10) = (0 : Int32)) (t := 87) (f := 84) (st' := []) rfl (fun hc => ?_) (fun hc => ?_)
          · rw [if_pos hc] at h
            refine wg_blk 3 (i' := 61) (L' := [some (.inr (.inl (21, 0))), some (.inl x1), some (.inl x2), some (.inl x3), some (.inl x4), some (.inl x5), some (.inl x6), some (.inl x7), some (.inl x8), some (.inl (x9 * t9)), some (.inl (x10 + (1 : Int32))), some (.inl (x11 + (1 : Int32)))]) (st' := []) (M' := M) rfl ?_
            exact wg_wk (wk_s (wk_s (wk_s (wk_s (wk_s (wk_s (wk_s (wk_s (wk_s (wk_s (wk_s (wk_s wk_e)))))))))))) rfl (ih (x9 * t9) (x10 + (1 : Int32)) (x11 + (1 : Int32)) M _ h hk)
          · rw [if_neg hc] at h
            refine wg_blk 2 (i' := 86) (L' := [some (.inr (.inl (21, 0))), some (.inl x1), some (.inl x2), some (.inl x3), some (.inl x4), some (.inl x5), some (.inl x6), some (.inl x7), some (.inl x8), some (.inl (x9 * t9)), some (.inl x10), some (.inl x11)]) (st' := [.inl x11, .inr (.inl (21, 0))]) (M' := M) rfl ?_
            obtain ⟨m11, h10, h⟩ := wbs h
            refine wg_ca (d' := 1) (y := 114) (as := [.inr (.inl (21, 0)), .inl x11]) (rest := []) (r := none) (M' := m11) rfl (Nat.le_of_ble_eq_true rfl) (s_M_clear x11 M _ h10) ?_
            refine wg_blk 3 (i' := 61) (L' := [some (.inr (.inl (21, 0))), some (.inl x1), some (.inl x2), some (.inl x3), some (.inl x4), some (.inl x5), some (.inl x6), some (.inl x7), some (.inl x8), some (.inl (x9 * t9)), some (.inl (x10 + (1 : Int32))), some (.inl (x11 + (1 : Int32)))]) (st' := []) (M' := m11) rfl ?_
            exact wg_wk (wk_s (wk_s (wk_s (wk_s (wk_s (wk_s (wk_s (wk_s (wk_s (wk_s (wk_s (wk_s wk_e)))))))))))) rfl (ih (x9 * t9) (x10 + (1 : Int32)) (x11 + (1 : Int32)) m11 _ h hk)
        clear h
        have h := h12
        clear h12
        refine wg_br (c := (f_M_has x8 x10) = (0 : Int32)) (t := 75) (f := 73) (st' := [.inl x9]) rfl (fun hc => ?_) (fun hc => ?_)
        · rw [if_pos hc] at h
          refine wg_blk 3 (i' := 78) (L' := [some (.inr (.inl (21, 0))), some (.inl x1), some (.inl x2), some (.inl x3), some (.inl x4), some (.inl x5), some (.inl x6), some (.inl x7), some (.inl x8), some (.inl x9), some (.inl x10), some (.inl x11)]) (st' := [.inl ((10 : Int32) - x3), .inl x9]) (M' := M) rfl ?_
          obtain rfl := Option.some.inj h
          exact wg_wk (wk_s (wk_s (wk_s (wk_s (wk_s (wk_s (wk_s (wk_s (wk_s (wk_n (wk_s (wk_s wk_e)))))))))))) rfl k
        · rw [if_neg hc] at h
          refine wg_blk 2 (i' := 78) (L' := [some (.inr (.inl (21, 0))), some (.inl x1), some (.inl x2), some (.inl x3), some (.inl x4), some (.inl x5), some (.inl x6), some (.inl x7), some (.inl x8), some (.inl x9), some (.inl x10), some (.inl x11)]) (st' := [.inl x3, .inl x9]) (M' := M) rfl ?_
          obtain rfl := Option.some.inj h
          exact wg_wk (wk_s (wk_s (wk_s (wk_s (wk_s (wk_s (wk_s (wk_s (wk_s (wk_n (wk_s (wk_s wk_e)))))))))))) rfl k
set_option maxRecDepth 20000 in
theorem l_M_lots_50_ok (x1 : Int32) (x2 : Int32) (x3 : Int32) (x4 : Int32) (x5 : Int32) (x7 : Int32) {K : Option Int32 → wc_M → Prop} : ∀ (n : Nat) (x6 : Int32) (x8 : Int32) (M : wc_M) (o : Int32 × wc_M), l_M_lots_50 x1 x2 x3 x4 x5 x7 n x6 x8 M = some o → wg 5 wx0 (some .int) wk_139 105 [none, none, none, none, some (.inl x4), none, some (.inl o.1), some (.inl x7), none, none, none, none] [] o.2 K → wg 5 wx0 (some .int) wk_139 50 [some (.inr (.inl (21, 0))), some (.inl x1), some (.inl x2), some (.inl x3), some (.inl x4), some (.inl x5), some (.inl x6), some (.inl x7), some (.inl x8), none, none, none] [] M K := by
  intro n
  induction n with
  | zero =>
    intro x6 x8 M o h hk
    exact nomatch (show (none : Option (Int32 × wc_M)) = some o from h)
  | succ n ih =>
    intro x6 x8 M o h hk
    unfold l_M_lots_50 at h
    refine wg_blk 4 (i' := 54) (L' := [some (.inr (.inl (21, 0))), some (.inl x1), some (.inl x2), some (.inl x3), some (.inl x4), some (.inl x5), some (.inl x6), some (.inl x7), some (.inl x8), none, none, none]) (st' := [.inl ((1 : Int32) <<< (x5 &&& (31 : Int32))), .inl x8]) (M' := M) rfl ?_
    refine wg_br (c := ((1 : Int32) <<< (x5 &&& (31 : Int32))) ≤ x8) (t := 105) (f := 55) (st' := []) rfl (fun hc => ?_) (fun hc => ?_)
    · rw [if_pos hc] at h
      obtain rfl := Option.some.inj h
      exact wg_wk (wk_n (wk_n (wk_n (wk_n (wk_s (wk_n (wk_s (wk_s (wk_n (wk_n (wk_n (wk_n wk_e)))))))))))) rfl hk
    · rw [if_neg hc] at h
      refine wg_blk 6 (i' := 61) (L' := [some (.inr (.inl (21, 0))), some (.inl x1), some (.inl x2), some (.inl x3), some (.inl x4), some (.inl x5), some (.inl x6), some (.inl x7), some (.inl x8), some (.inl (1 : Int32)), some (.inl (0 : Int32)), some (.inl (0 : Int32))]) (st' := []) (M' := M) rfl ?_
      obtain ⟨t7, h8, h⟩ := wbs h
      refine wg_wk (wk_s (wk_s (wk_s (wk_s (wk_s (wk_s (wk_s (wk_s (wk_s (wk_s (wk_s (wk_s wk_e)))))))))))) rfl (l_M_lots_61_ok x1 x2 x3 x4 x5 x6 x7 x8 2000 (1 : Int32) (0 : Int32) (0 : Int32) M _ h8 ?_)
      refine wg_blk 3 (i' := 93) (L' := [some (.inr (.inl (21, 0))), some (.inl x1), some (.inl x2), some (.inl x3), some (.inl x4), some (.inl x5), some (.inl x6), some (.inl x7), some (.inl x8), some (.inl t7.1), none, none]) (st' := [.inl x1, .inr (.inl (21, 0)), .inl x6]) (M' := t7.2) rfl ?_
      obtain ⟨q10, h9, h⟩ := wbs h
      refine wg_ca (d' := 5) (y := 113) (as := [.inr (.inl (21, 0)), .inl x1]) (rest := [.inl x6]) (r := some q10.1) (M' := q10.2) rfl (Nat.le_of_ble_eq_true rfl) (s_M_feltNow x1 t7.2 _ h9) ?_
      refine wg_blk 1 (i' := 95) (L' := [some (.inr (.inl (21, 0))), some (.inl x1), some (.inl x2), some (.inl x3), some (.inl x4), some (.inl x5), some (.inl x6), some (.inl x7), some (.inl x8), some (.inl t7.1), none, none]) (st' := [.inl x2, .inl q10.1, .inl x6]) (M' := q10.2) rfl ?_
      obtain ⟨t11, h14, h⟩ := wbs h
      have k : wg 5 wx0 (some .int) wk_139 99 [some (.inr (.inl (21, 0))), some (.inl x1), some (.inl x2), some (.inl x3), some (.inl x4), some (.inl x5), none, some (.inl x7), some (.inl x8), none, none, none] [.inl t11, .inl x6] q10.2 K := by
        refine wg_blk 3 (i' := 102) (L' := [some (.inr (.inl (21, 0))), some (.inl x1), some (.inl x2), some (.inl x3), some (.inl x4), some (.inl x5), some (.inl (x6 + t11)), some (.inl x7), some (.inl x8), none, none, none]) (st' := [.inr (.inl (21, 0))]) (M' := q10.2) rfl ?_
        obtain ⟨m13, h12, h⟩ := wbs h
        refine wg_ca (d' := 1) (y := 127) (as := [.inr (.inl (21, 0))]) (rest := []) (r := none) (M' := m13) rfl (Nat.le_of_ble_eq_true rfl) (s_M_takeBack q10.2 _ h12) ?_
        refine wg_blk 2 (i' := 50) (L' := [some (.inr (.inl (21, 0))), some (.inl x1), some (.inl x2), some (.inl x3), some (.inl x4), some (.inl x5), some (.inl (x6 + t11)), some (.inl x7), some (.inl (x8 + (1 : Int32))), none, none, none]) (st' := []) (M' := m13) rfl ?_
        exact wg_wk (wk_s (wk_s (wk_s (wk_s (wk_s (wk_s (wk_s (wk_s (wk_s (wk_n (wk_n (wk_n wk_e)))))))))))) rfl (ih (x6 + t11) (x8 + (1 : Int32)) m13 _ h hk)
      clear h
      have h := h14
      clear h14
      refine wg_br (c := q10.1 < x2) (t := 98) (f := 96) (st' := [.inl x6]) rfl (fun hc => ?_) (fun hc => ?_)
      · rw [if_pos hc] at h
        refine wg_blk 1 (i' := 99) (L' := [some (.inr (.inl (21, 0))), some (.inl x1), some (.inl x2), some (.inl x3), some (.inl x4), some (.inl x5), some (.inl x6), some (.inl x7), some (.inl x8), some (.inl t7.1), none, none]) (st' := [.inl (0 : Int32), .inl x6]) (M' := q10.2) rfl ?_
        obtain rfl := Option.some.inj h
        exact wg_wk (wk_s (wk_s (wk_s (wk_s (wk_s (wk_s (wk_n (wk_s (wk_s (wk_n (wk_n (wk_n wk_e)))))))))))) rfl k
      · rw [if_neg hc] at h
        refine wg_blk 2 (i' := 99) (L' := [some (.inr (.inl (21, 0))), some (.inl x1), some (.inl x2), some (.inl x3), some (.inl x4), some (.inl x5), some (.inl x6), some (.inl x7), some (.inl x8), some (.inl t7.1), none, none]) (st' := [.inl t7.1, .inl x6]) (M' := q10.2) rfl ?_
        obtain rfl := Option.some.inj h
        exact wg_wk (wk_s (wk_s (wk_s (wk_s (wk_s (wk_s (wk_n (wk_s (wk_s (wk_n (wk_n (wk_n wk_e)))))))))))) rfl k
set_option maxRecDepth 20000 in
theorem l_M_lots_109_ok (x4 : Int32) (x6 : Int32) (x7 : Int32) (M : wc_M) {K : Option Int32 → wc_M → Prop} : ∀ (n : Nat) (x8 : Int32) (x9 : Int32) (o : Int32), l_M_lots_109 x4 x6 x7 n x8 x9 = some o → wg 5 wx0 (some .int) wk_139 120 [none, none, none, none, some (.inl x4), none, some (.inl x6), some (.inl x7), some (.inl o), none, none, none] [] M K → wg 5 wx0 (some .int) wk_139 109 [none, none, none, none, some (.inl x4), none, some (.inl x6), some (.inl x7), some (.inl x8), some (.inl x9), none, none] [] M K := by
  intro n
  induction n with
  | zero =>
    intro x8 x9 o h hk
    exact nomatch (show (none : Option (Int32)) = some o from h)
  | succ n ih =>
    intro x8 x9 o h hk
    unfold l_M_lots_109 at h
    refine wg_blk 1 (i' := 110) (L' := [none, none, none, none, some (.inl x4), none, some (.inl x6), some (.inl x7), some (.inl x8), some (.inl x9), none, none]) (st' := [.inl x9]) (M' := M) rfl ?_
    refine wg_br (c := x9 = (0 : Int32)) (t := 120) (f := 111) (st' := []) rfl (fun hc => ?_) (fun hc => ?_)
    · rw [if_pos hc] at h
      obtain rfl := Option.some.inj h
      exact wg_wk (wk_n (wk_n (wk_n (wk_n (wk_s (wk_n (wk_s (wk_s (wk_s (wk_n (wk_n (wk_n wk_e)))))))))))) rfl hk
    · rw [if_neg hc] at h
      refine wg_blk 2 (i' := 113) (L' := [none, none, none, none, some (.inl x4), none, some (.inl x6), some (.inl x7), some (.inl x8), some (.inl x9), none, none]) (st' := [.inl x9, .inl x8]) (M' := M) rfl ?_
      obtain ⟨hp17, h⟩ := wif h
      refine wg_ck (st' := [.inl (wc_rem x8 x9)]) (M' := M) rfl hp17 ?_
      refine wg_blk 6 (i' := 109) (L' := [none, none, none, none, some (.inl x4), none, some (.inl x6), some (.inl x7), some (.inl x9), some (.inl (wc_rem x8 x9)), some (.inl (wc_rem x8 x9)), none]) (st' := []) (M' := M) rfl ?_
      exact wg_wk (wk_n (wk_n (wk_n (wk_n (wk_s (wk_n (wk_s (wk_s (wk_s (wk_s (wk_n (wk_n wk_e)))))))))))) rfl (ih x9 (wc_rem x8 x9) _ h hk)
set_option maxRecDepth 20000 in
theorem s_M_lots (a1 : Int32) (a2 : Int32) (a3 : Int32) (a4 : Int32) (M : wc_M) (z : Int32 × wc_M) (h : f_M_lots a1 a2 a3 a4 M = some z) : wc_Sd 6 139 [.inr (.inl (21, 0)), .inl a1, .inl a2, .inl a3, .inl a4] M (some z.1) z.2 := by
  unfold f_M_lots at h
  refine wg_Sd (Nat.le_of_ble_eq_true rfl) ?_
  show wg 5 wx0 (some .int) wk_139 0 [some (.inr (.inl (21, 0))), some (.inl a1), some (.inl a2), some (.inl a3), some (.inl a4), none, none, none, none, none, none, none] [] M _
  refine wg_blk 2 (i' := 2) (L' := [some (.inr (.inl (21, 0))), some (.inl a1), some (.inl a2), some (.inl a3), some (.inl a4), none, none, none, none, none, none, none]) (st' := [.inl (M 21 0 4)]) (M' := M) rfl ?_
  refine wg_br (c := (M 21 0 4) = (0 : Int32)) (t := 3) (f := 5) (st' := []) rfl (fun hc => ?_) (fun hc => ?_)
  · rw [if_pos hc] at h
    refine wg_blk 1 (i' := 4) (L' := [some (.inr (.inl (21, 0))), some (.inl a1), some (.inl a2), some (.inl a3), some (.inl a4), none, none, none, none, none, none, none]) (st' := [.inl (-1000002 : Int32)]) (M' := M) rfl ?_
    obtain rfl := Option.some.inj h
    exact wg_re rfl trivial ⟨rfl, rfl⟩
  · rw [if_neg hc] at h
    refine wg_blk 1 (i' := 6) (L' := [some (.inr (.inl (21, 0))), some (.inl a1), some (.inl a2), some (.inl a3), some (.inl a4), none, none, none, none, none, none, none]) (st' := [.inl a1]) (M' := M) rfl ?_
    refine wg_ca (d' := 2) (y := 108) (as := [.inl a1]) (rest := []) (r := some (f_M_isCell a1)) (M' := M) rfl (Nat.le_of_ble_eq_true rfl) (s_M_isCell a1 M _ rfl) ?_
    refine wg_br (c := (f_M_isCell a1) = (0 : Int32)) (t := 26) (f := 8) (st' := []) rfl (fun hc => ?_) (fun hc => ?_)
    · rw [if_pos hc] at h
      refine wg_blk 1 (i' := 27) (L' := [some (.inr (.inl (21, 0))), some (.inl a1), some (.inl a2), some (.inl a3), some (.inl a4), none, none, none, none, none, none, none]) (st' := [.inl (-1000001 : Int32)]) (M' := M) rfl ?_
      obtain rfl := Option.some.inj h
      exact wg_re rfl trivial ⟨rfl, rfl⟩
    · rw [if_neg hc] at h
      refine wg_blk 4 (i' := 12) (L' := [some (.inr (.inl (21, 0))), some (.inl a1), some (.inl a2), some (.inl a3), some (.inl a4), none, none, none, none, none, none, none]) (st' := [.inr (.inr (99 : Int64)), .inr (.inr (0 : Int64)), .inr (.inr (a2).toInt64)]) (M' := M) rfl ?_
      refine wg_ca (d' := 1) (y := 87) (as := [.inr (.inr (a2).toInt64), .inr (.inr (0 : Int64)), .inr (.inr (99 : Int64))]) (rest := []) (r := some (f_M_in (a2).toInt64 (0 : Int64) (99 : Int64))) (M' := M) rfl (Nat.le_of_ble_eq_true rfl) (s_M_in (a2).toInt64 (0 : Int64) (99 : Int64) M _ rfl) ?_
      refine wg_br (c := (f_M_in (a2).toInt64 (0 : Int64) (99 : Int64)) = (0 : Int32)) (t := 26) (f := 14) (st' := []) rfl (fun hc => ?_) (fun hc => ?_)
      · rw [if_pos hc] at h
        refine wg_blk 1 (i' := 27) (L' := [some (.inr (.inl (21, 0))), some (.inl a1), some (.inl a2), some (.inl a3), some (.inl a4), none, none, none, none, none, none, none]) (st' := [.inl (-1000001 : Int32)]) (M' := M) rfl ?_
        obtain rfl := Option.some.inj h
        exact wg_re rfl trivial ⟨rfl, rfl⟩
      · rw [if_neg hc] at h
        refine wg_blk 4 (i' := 18) (L' := [some (.inr (.inl (21, 0))), some (.inl a1), some (.inl a2), some (.inl a3), some (.inl a4), none, none, none, none, none, none, none]) (st' := [.inr (.inr (10 : Int64)), .inr (.inr (0 : Int64)), .inr (.inr (a3).toInt64)]) (M' := M) rfl ?_
        refine wg_ca (d' := 1) (y := 87) (as := [.inr (.inr (a3).toInt64), .inr (.inr (0 : Int64)), .inr (.inr (10 : Int64))]) (rest := []) (r := some (f_M_in (a3).toInt64 (0 : Int64) (10 : Int64))) (M' := M) rfl (Nat.le_of_ble_eq_true rfl) (s_M_in (a3).toInt64 (0 : Int64) (10 : Int64) M _ rfl) ?_
        refine wg_br (c := (f_M_in (a3).toInt64 (0 : Int64) (10 : Int64)) = (0 : Int32)) (t := 26) (f := 20) (st' := []) rfl (fun hc => ?_) (fun hc => ?_)
        · rw [if_pos hc] at h
          refine wg_blk 1 (i' := 27) (L' := [some (.inr (.inl (21, 0))), some (.inl a1), some (.inl a2), some (.inl a3), some (.inl a4), none, none, none, none, none, none, none]) (st' := [.inl (-1000001 : Int32)]) (M' := M) rfl ?_
          obtain rfl := Option.some.inj h
          exact wg_re rfl trivial ⟨rfl, rfl⟩
        · rw [if_neg hc] at h
          refine wg_blk 4 (i' := 24) (L' := [some (.inr (.inl (21, 0))), some (.inl a1), some (.inl a2), some (.inl a3), some (.inl a4), none, none, none, none, none, none, none]) (st' := [.inr (.inr (1 : Int64)), .inr (.inr (0 : Int64)), .inr (.inr (a4).toInt64)]) (M' := M) rfl ?_
          refine wg_ca (d' := 1) (y := 87) (as := [.inr (.inr (a4).toInt64), .inr (.inr (0 : Int64)), .inr (.inr (1 : Int64))]) (rest := []) (r := some (f_M_in (a4).toInt64 (0 : Int64) (1 : Int64))) (M' := M) rfl (Nat.le_of_ble_eq_true rfl) (s_M_in (a4).toInt64 (0 : Int64) (1 : Int64) M _ rfl) ?_
          refine wg_br (c := (f_M_in (a4).toInt64 (0 : Int64) (1 : Int64)) = (0 : Int32)) (t := 26) (f := 28) (st' := []) rfl (fun hc => ?_) (fun hc => ?_)
          · rw [if_pos hc] at h
            refine wg_blk 1 (i' := 27) (L' := [some (.inr (.inl (21, 0))), some (.inl a1), some (.inl a2), some (.inl a3), some (.inl a4), none, none, none, none, none, none, none]) (st' := [.inl (-1000001 : Int32)]) (M' := M) rfl ?_
            obtain rfl := Option.some.inj h
            exact wg_re rfl trivial ⟨rfl, rfl⟩
          · rw [if_neg hc] at h
            refine wg_blk 1 (i' := 29) (L' := [some (.inr (.inl (21, 0))), some (.inl a1), some (.inl a2), some (.inl a3), some (.inl a4), none, none, none, none, none, none, none]) (st' := [.inr (.inl (21, 0))]) (M' := M) rfl ?_
            obtain ⟨m2, h1, h⟩ := wbs h
            refine wg_ca (d' := 1) (y := 126) (as := [.inr (.inl (21, 0))]) (rest := []) (r := none) (M' := m2) rfl (Nat.le_of_ble_eq_true rfl) (s_M_putAside M _ h1) ?_
            refine wg_blk 1 (i' := 31) (L' := [some (.inr (.inl (21, 0))), some (.inl a1), some (.inl a2), some (.inl a3), some (.inl a4), none, none, none, none, none, none, none]) (st' := [.inr (.inl (21, 0))]) (M' := m2) rfl ?_
            obtain ⟨v4, h3, h⟩ := wbs h
            refine wg_ca (d' := 2) (y := 116) (as := [.inr (.inl (21, 0))]) (rest := []) (r := some v4) (M' := m2) rfl (Nat.le_of_ble_eq_true rfl) (s_M_workMany m2 _ h3) ?_
            refine wg_blk 7 (i' := 39) (L' := [some (.inr (.inl (21, 0))), some (.inl a1), some (.inl a2), some (.inl a3), some (.inl a4), some (.inl v4), some (.inl (0 : Int32)), some (.inl (1 : Int32)), some (.inl (0 : Int32)), none, none, none]) (st' := []) (M' := m2) rfl ?_
            obtain ⟨t5, h6, h⟩ := wbs h
            refine wg_wk (wk_s (wk_s (wk_s (wk_s (wk_s (wk_s (wk_s (wk_s (wk_s (wk_n (wk_n (wk_n wk_e)))))))))))) rfl (l_M_lots_39_ok a1 a2 a3 a4 v4 (0 : Int32) m2 2000 (1 : Int32) (0 : Int32) _ h6 ?_)
            refine wg_blk 2 (i' := 50) (L' := [some (.inr (.inl (21, 0))), some (.inl a1), some (.inl a2), some (.inl a3), some (.inl a4), some (.inl v4), some (.inl (0 : Int32)), some (.inl t5), some (.inl (0 : Int32)), none, none, none]) (st' := []) (M' := m2) rfl ?_
            obtain ⟨t15, h16, h⟩ := wbs h
            refine wg_wk (wk_s (wk_s (wk_s (wk_s (wk_s (wk_s (wk_s (wk_s (wk_s (wk_n (wk_n (wk_n wk_e)))))))))))) rfl (l_M_lots_50_ok a1 a2 a3 a4 v4 t5 2000 (0 : Int32) (0 : Int32) m2 _ h16 ?_)
            refine wg_blk 4 (i' := 109) (L' := [none, none, none, none, some (.inl a4), none, some (.inl t15.1), some (.inl t5), some (.inl t15.1), some (.inl t5), none, none]) (st' := []) (M' := t15.2) rfl ?_
            obtain ⟨t18, h19, h⟩ := wbs h
            refine wg_wk (wk_n (wk_n (wk_n (wk_n (wk_s (wk_n (wk_s (wk_s (wk_s (wk_s (wk_n (wk_n wk_e)))))))))))) rfl (l_M_lots_109_ok a4 t15.1 t5 t15.2 2000 t15.1 t5 _ h19 ?_)
            refine wg_blk 1 (i' := 121) (L' := [none, none, none, none, some (.inl a4), none, some (.inl t15.1), some (.inl t5), some (.inl t18), none, none, none]) (st' := [.inl a4]) (M' := t15.2) rfl ?_
            refine wg_br (c := a4 = (0 : Int32)) (t := 122) (f := 126) (st' := []) rfl (fun hc => ?_) (fun hc => ?_)
            · rw [if_pos hc] at h
              refine wg_blk 2 (i' := 124) (L' := [none, none, none, none, some (.inl a4), none, some (.inl t15.1), some (.inl t5), some (.inl t18), none, none, none]) (st' := [.inl t18, .inl t15.1]) (M' := t15.2) rfl ?_
              obtain ⟨hp20, h⟩ := wif h
              refine wg_ck (st' := [.inl (t15.1 / t18)]) (M' := t15.2) rfl hp20 ?_
              refine wg_blk 1 (i' := 129) (L' := [none, none, none, none, some (.inl a4), none, some (.inl t15.1), some (.inl t5), some (.inl t18), none, none, none]) (st' := [.inl (t15.1 / t18)]) (M' := t15.2) rfl ?_
              obtain rfl := Option.some.inj h
              exact wg_re rfl trivial ⟨rfl, rfl⟩
            · rw [if_neg hc] at h
              refine wg_blk 2 (i' := 128) (L' := [none, none, none, none, some (.inl a4), none, some (.inl t15.1), some (.inl t5), some (.inl t18), none, none, none]) (st' := [.inl t18, .inl t5]) (M' := t15.2) rfl ?_
              obtain ⟨hp21, h⟩ := wif h
              refine wg_ck (st' := [.inl (t5 / t18)]) (M' := t15.2) rfl hp21 ?_
              obtain rfl := Option.some.inj h
              exact wg_re rfl trivial ⟨rfl, rfl⟩
set_option maxRecDepth 20000 in
theorem s_C_image (a1 : Int32) (M : wc_M) (z : Int32 × wc_M) (h : f_C_image a1 M = some z) : wc_Sd 2 24 [.inr (.inl (0, 0)), .inl a1] M (some z.1) z.2 := by
  unfold f_C_image at h
  refine wg_Sd (Nat.le_of_ble_eq_true rfl) ?_
  show wg 1 wx0 (some .int) wk_24 0 [some (.inr (.inl (0, 0))), some (.inl a1)] [] M _
  refine wg_blk 2 (i' := 2) (L' := [some (.inr (.inl (0, 0))), some (.inl a1)]) (st' := [.inl (1 : Int32), .inl a1]) (M' := M) rfl ?_
  refine wg_ca (d' := 1) (y := 32) (as := [.inl a1, .inl (1 : Int32)]) (rest := []) (r := some (f_C_isUpTo a1 (1 : Int32))) (M' := M) rfl (Nat.le_of_ble_eq_true rfl) (s_C_isUpTo a1 (1 : Int32) M _ rfl) ?_
  refine wg_br (c := (f_C_isUpTo a1 (1 : Int32)) = (0 : Int32)) (t := 4) (f := 6) (st' := []) rfl (fun hc => ?_) (fun hc => ?_)
  · rw [if_pos hc] at h
    refine wg_blk 1 (i' := 5) (L' := [some (.inr (.inl (0, 0))), some (.inl a1)]) (st' := [.inl (-1000001 : Int32)]) (M' := M) rfl ?_
    obtain rfl := Option.some.inj h
    exact wg_re rfl trivial ⟨rfl, rfl⟩
  · rw [if_neg hc] at h
    refine wg_blk 3 (i' := 9) (L' := [some (.inr (.inl (0, 0))), some (.inl a1)]) (st' := [.inl (M 6 0 5)]) (M' := M) rfl ?_
    refine wg_br (c := (M 6 0 5) = (0 : Int32)) (t := 10) (f := 12) (st' := []) rfl (fun hc => ?_) (fun hc => ?_)
    · rw [if_pos hc] at h
      refine wg_blk 1 (i' := 11) (L' := [some (.inr (.inl (0, 0))), some (.inl a1)]) (st' := [.inl (-1000002 : Int32)]) (M' := M) rfl ?_
      obtain rfl := Option.some.inj h
      exact wg_re rfl trivial ⟨rfl, rfl⟩
    · rw [if_neg hc] at h
      refine wg_blk 3 (i' := 15) (L' := [some (.inr (.inl (0, 0))), some (.inl a1)]) (st' := [.inl a1, .inr (.inl (18, 0))]) (M' := M) rfl ?_
      obtain ⟨hp1, h⟩ := wif h
      refine wg_ck (st' := [.inr (.inl (6, (26 + (a1).toNatClampNeg)))]) (M' := M) rfl (wib_in hp1) ?_
      refine wg_blk 2 (i' := 18) (L' := [some (.inr (.inl (0, 0))), some (.inl a1)]) (st' := [.inr (.inl (6, 0)), .inr (.inl (6, (26 + (a1).toNatClampNeg)))]) (M' := M) rfl ?_
      obtain ⟨m3, h2, h⟩ := wbs h
      refine wg_ca (d' := 1) (y := 65) (as := [.inr (.inl (6, (26 + (a1).toNatClampNeg))), .inr (.inl (6, 0))]) (rest := []) (r := none) (M' := m3) rfl (Nat.le_of_ble_eq_true rfl) (s_P_become (26 + (a1).toNatClampNeg) 0 M _ h2) ?_
      refine wg_blk 1 (i' := 20) (L' := [some (.inr (.inl (0, 0))), some (.inl a1)]) (st' := [.inl (1 : Int32)]) (M' := m3) rfl ?_
      obtain rfl := Option.some.inj h
      exact wg_re rfl trivial ⟨rfl, rfl⟩
set_option maxRecDepth 20000 in
theorem l_M_image_15_ok (x1 : Int32) {K : Option Int32 → wc_M → Prop} : ∀ (n : Nat) (x2 : Int32) (M : wc_M) (o : wc_M), l_M_image_15 x1 n x2 M = some o → wg 1 wx0 (some .int) wk_140 32 [some (.inr (.inl (21, 0))), some (.inl x1), none] [] o K → wg 1 wx0 (some .int) wk_140 15 [some (.inr (.inl (21, 0))), some (.inl x1), some (.inl x2)] [] M K := by
  intro n
  induction n with
  | zero =>
    intro x2 M o h hk
    exact nomatch (show (none : Option (wc_M)) = some o from h)
  | succ n ih =>
    intro x2 M o h hk
    unfold l_M_image_15 at h
    refine wg_blk 2 (i' := 17) (L' := [some (.inr (.inl (21, 0))), some (.inl x1), some (.inl x2)]) (st' := [.inl (57 : Int32), .inl x2]) (M' := M) rfl ?_
    refine wg_br (c := (57 : Int32) ≤ x2) (t := 32) (f := 18) (st' := []) rfl (fun hc => ?_) (fun hc => ?_)
    · rw [if_pos hc] at h
      obtain rfl := Option.some.inj h
      exact wg_wk (wk_s (wk_s (wk_n wk_e))) rfl hk
    · rw [if_neg hc] at h
      refine wg_blk 10 (i' := 28) (L' := [some (.inr (.inl (21, 0))), some (.inl x1), some (.inl x2)]) (st' := [.inl x2, .inr (.inl (25, 0)), .inl (((57 : Int32) * x1) + x2), .inr (.inl (33, 0))]) (M' := M) rfl ?_
      obtain ⟨hp1, h⟩ := wif h
      refine wg_ck (st' := [.inl (M 25 0 (x2).toNatClampNeg), .inl (((57 : Int32) * x1) + x2), .inr (.inl (33, 0))]) (M' := M) rfl (wib_in hp1) ?_
      obtain ⟨hp2, h⟩ := wif h
      refine wg_ck (st' := []) (M' := (wc_up M 33 0 ((((57 : Int32) * x1) + x2)).toNatClampNeg (M 25 0 (x2).toNatClampNeg))) rfl (wib_in hp2) ?_
      refine wg_blk 2 (i' := 15) (L' := [some (.inr (.inl (21, 0))), some (.inl x1), some (.inl (x2 + (1 : Int32)))]) (st' := []) (M' := (wc_up M 33 0 ((((57 : Int32) * x1) + x2)).toNatClampNeg (M 25 0 (x2).toNatClampNeg))) rfl ?_
      exact wg_wk (wk_s (wk_s (wk_s wk_e))) rfl (ih (x2 + (1 : Int32)) (wc_up M 33 0 ((((57 : Int32) * x1) + x2)).toNatClampNeg (M 25 0 (x2).toNatClampNeg)) _ h hk)
set_option maxRecDepth 20000 in
theorem s_M_image (a1 : Int32) (M : wc_M) (z : Int32 × wc_M) (h : f_M_image a1 M = some z) : wc_Sd 2 140 [.inr (.inl (21, 0)), .inl a1] M (some z.1) z.2 := by
  unfold f_M_image at h
  refine wg_Sd (Nat.le_of_ble_eq_true rfl) ?_
  show wg 1 wx0 (some .int) wk_140 0 [some (.inr (.inl (21, 0))), some (.inl a1), none] [] M _
  refine wg_blk 4 (i' := 4) (L' := [some (.inr (.inl (21, 0))), some (.inl a1), none]) (st' := [.inr (.inr (1 : Int64)), .inr (.inr (0 : Int64)), .inr (.inr (a1).toInt64)]) (M' := M) rfl ?_
  refine wg_ca (d' := 1) (y := 87) (as := [.inr (.inr (a1).toInt64), .inr (.inr (0 : Int64)), .inr (.inr (1 : Int64))]) (rest := []) (r := some (f_M_in (a1).toInt64 (0 : Int64) (1 : Int64))) (M' := M) rfl (Nat.le_of_ble_eq_true rfl) (s_M_in (a1).toInt64 (0 : Int64) (1 : Int64) M _ rfl) ?_
  refine wg_br (c := (f_M_in (a1).toInt64 (0 : Int64) (1 : Int64)) = (0 : Int32)) (t := 6) (f := 8) (st' := []) rfl (fun hc => ?_) (fun hc => ?_)
  · rw [if_pos hc] at h
    refine wg_blk 1 (i' := 7) (L' := [some (.inr (.inl (21, 0))), some (.inl a1), none]) (st' := [.inl (-1000001 : Int32)]) (M' := M) rfl ?_
    obtain rfl := Option.some.inj h
    exact wg_re rfl trivial ⟨rfl, rfl⟩
  · rw [if_neg hc] at h
    refine wg_blk 2 (i' := 10) (L' := [some (.inr (.inl (21, 0))), some (.inl a1), none]) (st' := [.inl (M 21 0 4)]) (M' := M) rfl ?_
    refine wg_br (c := (M 21 0 4) = (0 : Int32)) (t := 11) (f := 13) (st' := []) rfl (fun hc => ?_) (fun hc => ?_)
    · rw [if_pos hc] at h
      refine wg_blk 1 (i' := 12) (L' := [some (.inr (.inl (21, 0))), some (.inl a1), none]) (st' := [.inl (-1000002 : Int32)]) (M' := M) rfl ?_
      obtain rfl := Option.some.inj h
      exact wg_re rfl trivial ⟨rfl, rfl⟩
    · rw [if_neg hc] at h
      refine wg_blk 2 (i' := 15) (L' := [some (.inr (.inl (21, 0))), some (.inl a1), some (.inl (0 : Int32))]) (st' := []) (M' := M) rfl ?_
      obtain ⟨t3, h4, h⟩ := wbs h
      refine wg_wk (wk_s (wk_s (wk_s wk_e))) rfl (l_M_image_15_ok a1 2000 (0 : Int32) M _ h4 ?_)
      refine wg_blk 4 (i' := 36) (L' := [some (.inr (.inl (21, 0))), some (.inl a1), none]) (st' := [.inl (1 : Int32), .inl a1, .inr (.inl (32, 0))]) (M' := t3) rfl ?_
      obtain ⟨hp5, h⟩ := wif h
      refine wg_ck (st' := []) (M' := (wc_up t3 32 0 (a1).toNatClampNeg (1 : Int32))) rfl ⟨(wib_in hp5), by decide⟩ ?_
      refine wg_blk 1 (i' := 38) (L' := [some (.inr (.inl (21, 0))), some (.inl a1), none]) (st' := [.inl (1 : Int32)]) (M' := (wc_up t3 32 0 (a1).toNatClampNeg (1 : Int32))) rfl ?_
      obtain rfl := Option.some.inj h
      exact wg_re rfl trivial ⟨rfl, rfl⟩
set_option maxRecDepth 20000 in
theorem s_C_restore (a1 : Int32) (M : wc_M) (z : Int32 × wc_M) (h : f_C_restore a1 M = some z) : wc_Sd 2 25 [.inr (.inl (0, 0)), .inl a1] M (some z.1) z.2 := by
  unfold f_C_restore at h
  refine wg_Sd (Nat.le_of_ble_eq_true rfl) ?_
  show wg 1 wx0 (some .int) wk_25 0 [some (.inr (.inl (0, 0))), some (.inl a1)] [] M _
  refine wg_blk 2 (i' := 2) (L' := [some (.inr (.inl (0, 0))), some (.inl a1)]) (st' := [.inl (1 : Int32), .inl a1]) (M' := M) rfl ?_
  refine wg_ca (d' := 1) (y := 32) (as := [.inl a1, .inl (1 : Int32)]) (rest := []) (r := some (f_C_isUpTo a1 (1 : Int32))) (M' := M) rfl (Nat.le_of_ble_eq_true rfl) (s_C_isUpTo a1 (1 : Int32) M _ rfl) ?_
  refine wg_br (c := (f_C_isUpTo a1 (1 : Int32)) = (0 : Int32)) (t := 4) (f := 6) (st' := []) rfl (fun hc => ?_) (fun hc => ?_)
  · rw [if_pos hc] at h
    refine wg_blk 1 (i' := 5) (L' := [some (.inr (.inl (0, 0))), some (.inl a1)]) (st' := [.inl (-1000001 : Int32)]) (M' := M) rfl ?_
    obtain rfl := Option.some.inj h
    exact wg_re rfl trivial ⟨rfl, rfl⟩
  · rw [if_neg hc] at h
    refine wg_blk 3 (i' := 9) (L' := [some (.inr (.inl (0, 0))), some (.inl a1)]) (st' := [.inl a1, .inr (.inl (18, 0))]) (M' := M) rfl ?_
    obtain ⟨hp1, h⟩ := wif h
    refine wg_ck (st' := [.inr (.inl (6, (26 + (a1).toNatClampNeg)))]) (M' := M) rfl (wib_in hp1) ?_
    refine wg_blk 1 (i' := 11) (L' := [some (.inr (.inl (0, 0))), some (.inl a1)]) (st' := [.inl (M 6 (26 + (a1).toNatClampNeg) 5)]) (M' := M) rfl ?_
    refine wg_br (c := (M 6 (26 + (a1).toNatClampNeg) 5) = (0 : Int32)) (t := 12) (f := 14) (st' := []) rfl (fun hc => ?_) (fun hc => ?_)
    · rw [if_pos hc] at h
      refine wg_blk 1 (i' := 13) (L' := [some (.inr (.inl (0, 0))), some (.inl a1)]) (st' := [.inl (-1000002 : Int32)]) (M' := M) rfl ?_
      obtain rfl := Option.some.inj h
      exact wg_re rfl trivial ⟨rfl, rfl⟩
    · rw [if_neg hc] at h
      refine wg_blk 5 (i' := 19) (L' := [some (.inr (.inl (0, 0))), some (.inl a1)]) (st' := [.inl a1, .inr (.inl (18, 0)), .inr (.inl (6, 0))]) (M' := M) rfl ?_
      refine wg_ck (st' := [.inr (.inl (6, (26 + (a1).toNatClampNeg))), .inr (.inl (6, 0))]) (M' := M) rfl (wib_in hp1) ?_
      obtain ⟨m3, h2, h⟩ := wbs h
      refine wg_ca (d' := 1) (y := 65) (as := [.inr (.inl (6, 0)), .inr (.inl (6, (26 + (a1).toNatClampNeg)))]) (rest := []) (r := none) (M' := m3) rfl (Nat.le_of_ble_eq_true rfl) (s_P_become 0 (26 + (a1).toNatClampNeg) M _ h2) ?_
      refine wg_blk 5 (i' := 26) (L' := [some (.inr (.inl (0, 0))), some (.inl a1)]) (st' := [.inl (1 : Int32)]) (M' := (wc_up m3 16 0 2 (0 : Int32))) rfl ?_
      obtain rfl := Option.some.inj h
      exact wg_re rfl trivial ⟨rfl, rfl⟩
set_option maxRecDepth 20000 in
theorem l_M_restore_17_ok (x1 : Int32) {K : Option Int32 → wc_M → Prop} : ∀ (n : Nat) (x2 : Int32) (M : wc_M) (o : wc_M), l_M_restore_17 x1 n x2 M = some o → wg 1 wx0 (some .int) wk_141 34 [some (.inr (.inl (21, 0))), none, none] [] o K → wg 1 wx0 (some .int) wk_141 17 [some (.inr (.inl (21, 0))), some (.inl x1), some (.inl x2)] [] M K := by
  intro n
  induction n with
  | zero =>
    intro x2 M o h hk
    exact nomatch (show (none : Option (wc_M)) = some o from h)
  | succ n ih =>
    intro x2 M o h hk
    unfold l_M_restore_17 at h
    refine wg_blk 2 (i' := 19) (L' := [some (.inr (.inl (21, 0))), some (.inl x1), some (.inl x2)]) (st' := [.inl (57 : Int32), .inl x2]) (M' := M) rfl ?_
    refine wg_br (c := (57 : Int32) ≤ x2) (t := 34) (f := 20) (st' := []) rfl (fun hc => ?_) (fun hc => ?_)
    · rw [if_pos hc] at h
      obtain rfl := Option.some.inj h
      exact wg_wk (wk_s (wk_n (wk_n wk_e))) rfl hk
    · rw [if_neg hc] at h
      refine wg_blk 10 (i' := 30) (L' := [some (.inr (.inl (21, 0))), some (.inl x1), some (.inl x2)]) (st' := [.inl (((57 : Int32) * x1) + x2), .inr (.inl (33, 0)), .inl x2, .inr (.inl (25, 0))]) (M' := M) rfl ?_
      obtain ⟨hp2, h⟩ := wif h
      refine wg_ck (st' := [.inl (M 33 0 ((((57 : Int32) * x1) + x2)).toNatClampNeg), .inl x2, .inr (.inl (25, 0))]) (M' := M) rfl (wib_in hp2) ?_
      obtain ⟨hp3, h⟩ := wif h
      refine wg_ck (st' := []) (M' := (wc_up M 25 0 (x2).toNatClampNeg (M 33 0 ((((57 : Int32) * x1) + x2)).toNatClampNeg))) rfl (wib_in hp3) ?_
      refine wg_blk 2 (i' := 17) (L' := [some (.inr (.inl (21, 0))), some (.inl x1), some (.inl (x2 + (1 : Int32)))]) (st' := []) (M' := (wc_up M 25 0 (x2).toNatClampNeg (M 33 0 ((((57 : Int32) * x1) + x2)).toNatClampNeg))) rfl ?_
      exact wg_wk (wk_s (wk_s (wk_s wk_e))) rfl (ih (x2 + (1 : Int32)) (wc_up M 25 0 (x2).toNatClampNeg (M 33 0 ((((57 : Int32) * x1) + x2)).toNatClampNeg)) _ h hk)
set_option maxRecDepth 20000 in
theorem s_M_restore (a1 : Int32) (M : wc_M) (z : Int32 × wc_M) (h : f_M_restore a1 M = some z) : wc_Sd 2 141 [.inr (.inl (21, 0)), .inl a1] M (some z.1) z.2 := by
  unfold f_M_restore at h
  refine wg_Sd (Nat.le_of_ble_eq_true rfl) ?_
  show wg 1 wx0 (some .int) wk_141 0 [some (.inr (.inl (21, 0))), some (.inl a1), none] [] M _
  refine wg_blk 4 (i' := 4) (L' := [some (.inr (.inl (21, 0))), some (.inl a1), none]) (st' := [.inr (.inr (1 : Int64)), .inr (.inr (0 : Int64)), .inr (.inr (a1).toInt64)]) (M' := M) rfl ?_
  refine wg_ca (d' := 1) (y := 87) (as := [.inr (.inr (a1).toInt64), .inr (.inr (0 : Int64)), .inr (.inr (1 : Int64))]) (rest := []) (r := some (f_M_in (a1).toInt64 (0 : Int64) (1 : Int64))) (M' := M) rfl (Nat.le_of_ble_eq_true rfl) (s_M_in (a1).toInt64 (0 : Int64) (1 : Int64) M _ rfl) ?_
  refine wg_br (c := (f_M_in (a1).toInt64 (0 : Int64) (1 : Int64)) = (0 : Int32)) (t := 6) (f := 8) (st' := []) rfl (fun hc => ?_) (fun hc => ?_)
  · rw [if_pos hc] at h
    refine wg_blk 1 (i' := 7) (L' := [some (.inr (.inl (21, 0))), some (.inl a1), none]) (st' := [.inl (-1000001 : Int32)]) (M' := M) rfl ?_
    obtain rfl := Option.some.inj h
    exact wg_re rfl trivial ⟨rfl, rfl⟩
  · rw [if_neg hc] at h
    refine wg_blk 3 (i' := 11) (L' := [some (.inr (.inl (21, 0))), some (.inl a1), none]) (st' := [.inl a1, .inr (.inl (32, 0))]) (M' := M) rfl ?_
    obtain ⟨hp1, h⟩ := wif h
    refine wg_ck (st' := [.inl (M 32 0 (a1).toNatClampNeg)]) (M' := M) rfl (wib_in hp1) ?_
    refine wg_br (c := (M 32 0 (a1).toNatClampNeg) = (0 : Int32)) (t := 13) (f := 15) (st' := []) rfl (fun hc => ?_) (fun hc => ?_)
    · rw [if_pos hc] at h
      refine wg_blk 1 (i' := 14) (L' := [some (.inr (.inl (21, 0))), some (.inl a1), none]) (st' := [.inl (-1000002 : Int32)]) (M' := M) rfl ?_
      obtain rfl := Option.some.inj h
      exact wg_re rfl trivial ⟨rfl, rfl⟩
    · rw [if_neg hc] at h
      refine wg_blk 2 (i' := 17) (L' := [some (.inr (.inl (21, 0))), some (.inl a1), some (.inl (0 : Int32))]) (st' := []) (M' := M) rfl ?_
      obtain ⟨t4, h5, h⟩ := wbs h
      refine wg_wk (wk_s (wk_s (wk_s wk_e))) rfl (l_M_restore_17_ok a1 2000 (0 : Int32) M _ h5 ?_)
      refine wg_blk 4 (i' := 38) (L' := [some (.inr (.inl (21, 0))), none, none]) (st' := [.inl (1 : Int32)]) (M' := (wc_up t4 21 0 22 (0 : Int32))) rfl ?_
      obtain rfl := Option.some.inj h
      exact wg_re rfl trivial ⟨rfl, rfl⟩
set_option maxRecDepth 20000 in
theorem s_C_kind (a1 : Int32) (M : wc_M) (z : Int32) (h : f_C_kind a1 M = some z) : wc_Sd 3 26 [.inr (.inl (0, 0)), .inl a1] M (some z) M := by
  unfold f_C_kind at h
  refine wg_Sd (Nat.le_of_ble_eq_true rfl) ?_
  show wg 2 wx0 (some .int) wk_26 0 [some (.inr (.inl (0, 0))), some (.inl a1)] [] M _
  refine wg_blk 3 (i' := 3) (L' := [some (.inr (.inl (0, 0))), some (.inl a1)]) (st' := [.inl (M 6 0 5)]) (M' := M) rfl ?_
  refine wg_br (c := (M 6 0 5) = (0 : Int32)) (t := 4) (f := 6) (st' := []) rfl (fun hc => ?_) (fun hc => ?_)
  · rw [if_pos hc] at h
    refine wg_blk 1 (i' := 5) (L' := [some (.inr (.inl (0, 0))), some (.inl a1)]) (st' := [.inl (-1000002 : Int32)]) (M' := M) rfl ?_
    obtain rfl := Option.some.inj h
    exact wg_re rfl trivial ⟨rfl, rfl⟩
  · rw [if_neg hc] at h
    refine wg_blk 1 (i' := 7) (L' := [some (.inr (.inl (0, 0))), some (.inl a1)]) (st' := [.inl a1]) (M' := M) rfl ?_
    refine wg_ca (d' := 2) (y := 33) (as := [.inl a1]) (rest := []) (r := some (f_C_isCell a1)) (M' := M) rfl (Nat.le_of_ble_eq_true rfl) (s_C_isCell a1 M _ rfl) ?_
    refine wg_br (c := (f_C_isCell a1) = (0 : Int32)) (t := 9) (f := 11) (st' := []) rfl (fun hc => ?_) (fun hc => ?_)
    · rw [if_pos hc] at h
      refine wg_blk 1 (i' := 10) (L' := [some (.inr (.inl (0, 0))), some (.inl a1)]) (st' := [.inl (-1000001 : Int32)]) (M' := M) rfl ?_
      obtain rfl := Option.some.inj h
      exact wg_re rfl trivial ⟨rfl, rfl⟩
    · rw [if_neg hc] at h
      refine wg_blk 3 (i' := 14) (L' := [some (.inr (.inl (0, 0))), some (.inl a1)]) (st' := [.inl a1, .inr (.inl (6, 0))]) (M' := M) rfl ?_
      obtain ⟨v2, h1, h⟩ := wbs h
      refine wg_ca (d' := 1) (y := 69) (as := [.inr (.inl (6, 0)), .inl a1]) (rest := []) (r := some v2) (M' := M) rfl (Nat.le_of_ble_eq_true rfl) (s_P_hasWork 0 a1 M _ h1) ?_
      refine wg_br (c := v2 = (0 : Int32)) (t := 22) (f := 16) (st' := []) rfl (fun hc => ?_) (fun hc => ?_)
      · rw [if_pos hc] at h
        refine wg_blk 1 (i' := 23) (L' := [some (.inr (.inl (0, 0))), some (.inl a1)]) (st' := [.inl (-1000000 : Int32)]) (M' := M) rfl ?_
        obtain rfl := Option.some.inj h
        exact wg_re rfl trivial ⟨rfl, rfl⟩
      · rw [if_neg hc] at h
        refine wg_blk 4 (i' := 20) (L' := [some (.inr (.inl (0, 0))), some (.inl a1)]) (st' := [.inl a1, .inr (.inl (9, 0))]) (M' := M) rfl ?_
        obtain ⟨hp3, h⟩ := wif h
        refine wg_ck (st' := [.inl (M 9 0 (a1).toNatClampNeg)]) (M' := M) rfl (wib_in hp3) ?_
        refine wg_blk 1 (i' := 23) (L' := [some (.inr (.inl (0, 0))), some (.inl a1)]) (st' := [.inl (M 9 0 (a1).toNatClampNeg)]) (M' := M) rfl ?_
        obtain rfl := Option.some.inj h
        exact wg_re rfl trivial ⟨rfl, rfl⟩
set_option maxRecDepth 20000 in
theorem s_M_kind (a1 : Int32) (M : wc_M) (z : Int32) (h : f_M_kind a1 M = some z) : wc_Sd 3 142 [.inr (.inl (21, 0)), .inl a1] M (some z) M := by
  unfold f_M_kind at h
  refine wg_Sd (Nat.le_of_ble_eq_true rfl) ?_
  show wg 2 wx0 (some .int) wk_142 0 [some (.inr (.inl (21, 0))), some (.inl a1)] [] M _
  refine wg_blk 2 (i' := 2) (L' := [some (.inr (.inl (21, 0))), some (.inl a1)]) (st' := [.inl (M 21 0 4)]) (M' := M) rfl ?_
  refine wg_br (c := (M 21 0 4) = (0 : Int32)) (t := 3) (f := 5) (st' := []) rfl (fun hc => ?_) (fun hc => ?_)
  · rw [if_pos hc] at h
    refine wg_blk 1 (i' := 4) (L' := [some (.inr (.inl (21, 0))), some (.inl a1)]) (st' := [.inl (-1000002 : Int32)]) (M' := M) rfl ?_
    obtain rfl := Option.some.inj h
    exact wg_re rfl trivial ⟨rfl, rfl⟩
  · rw [if_neg hc] at h
    refine wg_blk 1 (i' := 6) (L' := [some (.inr (.inl (21, 0))), some (.inl a1)]) (st' := [.inl a1]) (M' := M) rfl ?_
    refine wg_ca (d' := 2) (y := 108) (as := [.inl a1]) (rest := []) (r := some (f_M_isCell a1)) (M' := M) rfl (Nat.le_of_ble_eq_true rfl) (s_M_isCell a1 M _ rfl) ?_
    refine wg_br (c := (f_M_isCell a1) = (0 : Int32)) (t := 8) (f := 10) (st' := []) rfl (fun hc => ?_) (fun hc => ?_)
    · rw [if_pos hc] at h
      refine wg_blk 2 (i' := 22) (L' := [some (.inr (.inl (21, 0))), some (.inl a1)]) (st' := [.inl (-1000001 : Int32)]) (M' := M) rfl ?_
      obtain rfl := Option.some.inj h
      exact wg_re rfl trivial ⟨rfl, rfl⟩
    · rw [if_neg hc] at h
      refine wg_blk 2 (i' := 12) (L' := [some (.inr (.inl (21, 0))), some (.inl a1)]) (st' := [.inl a1, .inr (.inl (21, 0))]) (M' := M) rfl ?_
      obtain ⟨v2, h1, h⟩ := wbs h
      refine wg_ca (d' := 1) (y := 110) (as := [.inr (.inl (21, 0)), .inl a1]) (rest := []) (r := some v2) (M' := M) rfl (Nat.le_of_ble_eq_true rfl) (s_M_isWork a1 M _ h1) ?_
      refine wg_br (c := v2 = (0 : Int32)) (t := 21) (f := 14) (st' := []) rfl (fun hc => ?_) (fun hc => ?_)
      · rw [if_pos hc] at h
        refine wg_blk 1 (i' := 22) (L' := [some (.inr (.inl (21, 0))), some (.inl a1)]) (st' := [.inl (-1000000 : Int32)]) (M' := M) rfl ?_
        obtain rfl := Option.some.inj h
        exact wg_re rfl trivial ⟨rfl, rfl⟩
      · rw [if_neg hc] at h
        refine wg_blk 5 (i' := 19) (L' := [some (.inr (.inl (21, 0))), some (.inl a1)]) (st' := [.inl ((9 : Int32) + a1), .inr (.inl (25, 0))]) (M' := M) rfl ?_
        obtain ⟨hp3, h⟩ := wif h
        refine wg_ck (st' := [.inl (M 25 0 (((9 : Int32) + a1)).toNatClampNeg)]) (M' := M) rfl (wib_in hp3) ?_
        refine wg_blk 1 (i' := 22) (L' := [some (.inr (.inl (21, 0))), some (.inl a1)]) (st' := [.inl (M 25 0 (((9 : Int32) + a1)).toNatClampNeg)]) (M' := M) rfl ?_
        obtain rfl := Option.some.inj h
        exact wg_re rfl trivial ⟨rfl, rfl⟩
set_option maxRecDepth 20000 in
theorem l_C_isA_4_ok (x1 : Int32) (M : wc_M) {K : Option Int32 → wc_M → Prop} : ∀ (n : Nat) (x2 : Int32) (x3 : Int32) (o : (Int32) ⊕ (Unit)), l_C_isA_4 x1 n x2 x3 = some o → wel (fun r => K (some r) M) (fun t => wg 1 wx0 (some .boolean) wk_36 23 [none, none, none, none] [] M K) o → wg 1 wx0 (some .boolean) wk_36 4 [none, some (.inl x1), some (.inl x2), some (.inl x3)] [] M K := by
  intro n
  induction n with
  | zero =>
    intro x2 x3 o h hk
    exact nomatch (show (none : Option ((Int32) ⊕ (Unit))) = some o from h)
  | succ n ih =>
    intro x2 x3 o h hk
    unfold l_C_isA_4 at h
    refine wg_blk 3 (i' := 7) (L' := [none, some (.inl x1), some (.inl x2), some (.inl x3)]) (st' := [.inl (6 : Int32), .inl x3]) (M' := M) rfl ?_
    refine wg_br (c := (6 : Int32) ≤ x3) (t := 23) (f := 8) (st' := []) rfl (fun hc => ?_) (fun hc => ?_)
    · rw [if_pos hc] at h
      obtain rfl := Option.some.inj h
      exact wg_wk (wk_n (wk_n (wk_n (wk_n wk_e)))) rfl hk
    · rw [if_neg hc] at h
      refine wg_blk 2 (i' := 10) (L' := [none, some (.inl x1), some (.inl x2), some (.inl x3)]) (st' := [.inl (5 : Int32), .inl x2]) (M' := M) rfl ?_
      refine wg_ca (d' := 1) (y := 32) (as := [.inl x2, .inl (5 : Int32)]) (rest := []) (r := some (f_C_isUpTo x2 (5 : Int32))) (M' := M) rfl (Nat.le_of_ble_eq_true rfl) (s_C_isUpTo x2 (5 : Int32) M _ rfl) ?_
      refine wg_br (c := (f_C_isUpTo x2 (5 : Int32)) = (0 : Int32)) (t := 23) (f := 12) (st' := []) rfl (fun hc => ?_) (fun hc => ?_)
      · rw [if_pos hc] at h
        obtain rfl := Option.some.inj h
        exact wg_wk (wk_n (wk_n (wk_n (wk_n wk_e)))) rfl hk
      · rw [if_neg hc] at h
        refine wg_blk 2 (i' := 14) (L' := [none, some (.inl x1), some (.inl x2), some (.inl x3)]) (st' := [.inl x1, .inl x2]) (M' := M) rfl ?_
        refine wg_br (c := x2 = x1) (t := 15) (f := 17) (st' := []) rfl (fun hc => ?_) (fun hc => ?_)
        · rw [if_pos hc] at h
          refine wg_blk 1 (i' := 16) (L' := [none, some (.inl x1), some (.inl x2), some (.inl x3)]) (st' := [.inl (1 : Int32)]) (M' := M) rfl ?_
          obtain rfl := Option.some.inj h
          exact wg_re rfl (by decide) hk
        · rw [if_neg hc] at h
          refine wg_blk 2 (i' := 19) (L' := [none, some (.inl x1), some (.inl x2), some (.inl x3)]) (st' := [.inl x2, .inr (.inl (35, 0))]) (M' := M) rfl ?_
          obtain ⟨hp1, h⟩ := wif h
          refine wg_ck (st' := [.inl (wc_st 35 (x2).toNatClampNeg)]) (M' := M) rfl (wib_in hp1) ?_
          refine wg_blk 3 (i' := 4) (L' := [none, some (.inl x1), some (.inl (wc_st 35 (x2).toNatClampNeg)), some (.inl (x3 + (1 : Int32)))]) (st' := []) (M' := M) rfl ?_
          exact wg_wk (wk_n (wk_s (wk_s (wk_s wk_e)))) rfl (ih (wc_st 35 (x2).toNatClampNeg) (x3 + (1 : Int32)) _ h hk)
set_option maxRecDepth 20000 in
theorem s_C_isA (a0 : Int32) (a1 : Int32) (M : wc_M) (z : Int32) (h : f_C_isA a0 a1 = some z) : wc_Sd 2 36 [.inl a0, .inl a1] M (some z) M := by
  unfold f_C_isA at h
  refine wg_Sd (Nat.le_of_ble_eq_true rfl) ?_
  show wg 1 wx0 (some .boolean) wk_36 0 [some (.inl a0), some (.inl a1), none, none] [] M _
  refine wg_blk 4 (i' := 4) (L' := [some (.inl a0), some (.inl a1), some (.inl a0), some (.inl (0 : Int32))]) (st' := []) (M' := M) rfl ?_
  obtain ⟨o4, h3, h⟩ := wbs h
  refine wg_wk (wk_n (wk_s (wk_s (wk_s wk_e)))) rfl (l_C_isA_4_ok a1 M 2000 a0 (0 : Int32) _ h3 ?_)
  rcases o4 with r5 | t2
  · dsimp only [wel] at h ⊢
    obtain rfl := Option.some.inj h
    exact ⟨rfl, rfl⟩
  · dsimp only [wel] at h ⊢
    refine wg_blk 1 (i' := 24) (L' := [none, none, none, none]) (st' := [.inl (0 : Int32)]) (M' := M) rfl ?_
    obtain rfl := Option.some.inj h
    exact wg_re rfl (by decide) ⟨rfl, rfl⟩
set_option maxRecDepth 20000 in
theorem s_C_as (a1 : Int32) (a2 : Int32) (M : wc_M) (z : Int32 × wc_M) (h : f_C_as a1 a2 M = some z) : wc_Sd 3 27 [.inr (.inl (0, 0)), .inl a1, .inl a2] M (some z.1) z.2 := by
  unfold f_C_as at h
  refine wg_Sd (Nat.le_of_ble_eq_true rfl) ?_
  show wg 2 wx0 (some .int) wk_27 0 [some (.inr (.inl (0, 0))), some (.inl a1), some (.inl a2)] [] M _
  refine wg_blk 3 (i' := 3) (L' := [some (.inr (.inl (0, 0))), some (.inl a1), some (.inl a2)]) (st' := [.inl (M 6 0 5)]) (M' := M) rfl ?_
  refine wg_br (c := (M 6 0 5) = (0 : Int32)) (t := 4) (f := 6) (st' := []) rfl (fun hc => ?_) (fun hc => ?_)
  · rw [if_pos hc] at h
    refine wg_blk 1 (i' := 5) (L' := [some (.inr (.inl (0, 0))), some (.inl a1), some (.inl a2)]) (st' := [.inl (-1000002 : Int32)]) (M' := M) rfl ?_
    obtain rfl := Option.some.inj h
    exact wg_re rfl trivial ⟨rfl, rfl⟩
  · rw [if_neg hc] at h
    refine wg_blk 1 (i' := 7) (L' := [some (.inr (.inl (0, 0))), some (.inl a1), some (.inl a2)]) (st' := [.inl a1]) (M' := M) rfl ?_
    refine wg_ca (d' := 2) (y := 33) (as := [.inl a1]) (rest := []) (r := some (f_C_isCell a1)) (M' := M) rfl (Nat.le_of_ble_eq_true rfl) (s_C_isCell a1 M _ rfl) ?_
    refine wg_br (c := (f_C_isCell a1) = (0 : Int32)) (t := 13) (f := 9) (st' := []) rfl (fun hc => ?_) (fun hc => ?_)
    · rw [if_pos hc] at h
      refine wg_blk 1 (i' := 14) (L' := [some (.inr (.inl (0, 0))), some (.inl a1), some (.inl a2)]) (st' := [.inl (-1000001 : Int32)]) (M' := M) rfl ?_
      obtain rfl := Option.some.inj h
      exact wg_re rfl trivial ⟨rfl, rfl⟩
    · rw [if_neg hc] at h
      refine wg_blk 2 (i' := 11) (L' := [some (.inr (.inl (0, 0))), some (.inl a1), some (.inl a2)]) (st' := [.inl (5 : Int32), .inl a2]) (M' := M) rfl ?_
      refine wg_ca (d' := 1) (y := 32) (as := [.inl a2, .inl (5 : Int32)]) (rest := []) (r := some (f_C_isUpTo a2 (5 : Int32))) (M' := M) rfl (Nat.le_of_ble_eq_true rfl) (s_C_isUpTo a2 (5 : Int32) M _ rfl) ?_
      refine wg_br (c := (f_C_isUpTo a2 (5 : Int32)) = (0 : Int32)) (t := 13) (f := 15) (st' := []) rfl (fun hc => ?_) (fun hc => ?_)
      · rw [if_pos hc] at h
        refine wg_blk 1 (i' := 14) (L' := [some (.inr (.inl (0, 0))), some (.inl a1), some (.inl a2)]) (st' := [.inl (-1000001 : Int32)]) (M' := M) rfl ?_
        obtain rfl := Option.some.inj h
        exact wg_re rfl trivial ⟨rfl, rfl⟩
      · rw [if_neg hc] at h
        refine wg_blk 3 (i' := 18) (L' := [some (.inr (.inl (0, 0))), some (.inl a1), some (.inl a2)]) (st' := [.inl a1, .inr (.inl (6, 0))]) (M' := M) rfl ?_
        obtain ⟨v2, h1, h⟩ := wbs h
        refine wg_ca (d' := 1) (y := 69) (as := [.inr (.inl (6, 0)), .inl a1]) (rest := []) (r := some v2) (M' := M) rfl (Nat.le_of_ble_eq_true rfl) (s_P_hasWork 0 a1 M _ h1) ?_
        refine wg_br (c := v2 = (0 : Int32)) (t := 20) (f := 22) (st' := []) rfl (fun hc => ?_) (fun hc => ?_)
        · rw [if_pos hc] at h
          refine wg_blk 1 (i' := 21) (L' := [some (.inr (.inl (0, 0))), some (.inl a1), some (.inl a2)]) (st' := [.inl (-1000002 : Int32)]) (M' := M) rfl ?_
          obtain rfl := Option.some.inj h
          exact wg_re rfl trivial ⟨rfl, rfl⟩
        · rw [if_neg hc] at h
          refine wg_blk 4 (i' := 26) (L' := [some (.inr (.inl (0, 0))), some (.inl a1), some (.inl a2)]) (st' := [.inl a1, .inr (.inl (9, 0))]) (M' := M) rfl ?_
          obtain ⟨hp3, h⟩ := wif h
          refine wg_ck (st' := [.inl (M 9 0 (a1).toNatClampNeg)]) (M' := M) rfl (wib_in hp3) ?_
          refine wg_blk 1 (i' := 28) (L' := [some (.inr (.inl (0, 0))), some (.inl a1), some (.inl a2)]) (st' := [.inl a2, .inl (M 9 0 (a1).toNatClampNeg)]) (M' := M) rfl ?_
          obtain ⟨v5, h4, h⟩ := wbs h
          refine wg_ca (d' := 2) (y := 36) (as := [.inl (M 9 0 (a1).toNatClampNeg), .inl a2]) (rest := []) (r := some v5) (M' := M) rfl (Nat.le_of_ble_eq_true rfl) (s_C_isA (M 9 0 (a1).toNatClampNeg) a2 M _ h4) ?_
          refine wg_br (c := v5 = (0 : Int32)) (t := 34) (f := 30) (st' := []) rfl (fun hc => ?_) (fun hc => ?_)
          · rw [if_pos hc] at h
            refine wg_blk 2 (i' := 36) (L' := [some (.inr (.inl (0, 0))), some (.inl a1), some (.inl a2)]) (st' := [.inl (3 : Int32), .inr (.inl (0, 0))]) (M' := M) rfl ?_
            obtain ⟨q7, h6, h⟩ := wbs h
            refine wg_ca (d' := 1) (y := 37) (as := [.inr (.inl (0, 0)), .inl (3 : Int32)]) (rest := []) (r := some q7.1) (M' := q7.2) rfl (Nat.le_of_ble_eq_true rfl) (s_C_found (3 : Int32) M _ h6) ?_
            obtain rfl := Option.some.inj h
            exact wg_re rfl trivial ⟨rfl, rfl⟩
          · rw [if_neg hc] at h
            refine wg_blk 2 (i' := 32) (L' := [some (.inr (.inl (0, 0))), some (.inl a1), some (.inl a2)]) (st' := [.inl a1, .inr (.inl (0, 0))]) (M' := M) rfl ?_
            obtain ⟨q9, h8, h⟩ := wbs h
            refine wg_ca (d' := 1) (y := 38) (as := [.inr (.inl (0, 0)), .inl a1]) (rest := []) (r := some q9.1) (M' := q9.2) rfl (Nat.le_of_ble_eq_true rfl) (s_C_withoutFinding a1 M _ h8) ?_
            refine wg_blk 1 (i' := 37) (L' := [some (.inr (.inl (0, 0))), some (.inl a1), some (.inl a2)]) (st' := [.inl q9.1]) (M' := q9.2) rfl ?_
            obtain rfl := Option.some.inj h
            exact wg_re rfl trivial ⟨rfl, rfl⟩
set_option maxRecDepth 20000 in
theorem s_M_isKind (a0 : Int32) (a1 : Int32) (M : wc_M) (z : Int32) (h : f_M_isKind a0 a1 = z) : wc_Sd 1 143 [.inl a0, .inl a1] M (some z) M := by
  unfold f_M_isKind at h
  refine wg_Sd (Nat.le_of_ble_eq_true rfl) ?_
  show wg 0 wx0 (some .boolean) wk_143 0 [some (.inl a0), some (.inl a1)] [] M _
  refine wg_blk 1 (i' := 1) (L' := [some (.inl a0), some (.inl a1)]) (st' := [.inl a1]) (M' := M) rfl ?_
  refine wg_br (c := a1 = (0 : Int32)) (t := 17) (f := 2) (st' := []) rfl (fun hc => ?_) (fun hc => ?_)
  · rw [if_pos hc] at h
    refine wg_blk 2 (i' := 20) (L' := [some (.inl a0), some (.inl a1)]) (st' := [.inl (1 : Int32)]) (M' := M) rfl ?_
    subst h
    exact wg_re rfl (by decide) ⟨rfl, rfl⟩
  · rw [if_neg hc] at h
    refine wg_blk 2 (i' := 4) (L' := [some (.inl a0), some (.inl a1)]) (st' := [.inl a1, .inl a0]) (M' := M) rfl ?_
    refine wg_br (c := a0 = a1) (t := 17) (f := 5) (st' := []) rfl (fun hc => ?_) (fun hc => ?_)
    · rw [if_pos hc] at h
      refine wg_blk 2 (i' := 20) (L' := [some (.inl a0), some (.inl a1)]) (st' := [.inl (1 : Int32)]) (M' := M) rfl ?_
      subst h
      exact wg_re rfl (by decide) ⟨rfl, rfl⟩
    · rw [if_neg hc] at h
      refine wg_blk 2 (i' := 7) (L' := [some (.inl a0), some (.inl a1)]) (st' := [.inl (1 : Int32), .inl a1]) (M' := M) rfl ?_
      refine wg_br (c := a1 = (1 : Int32)) (t := 8) (f := 11) (st' := []) rfl (fun hc => ?_) (fun hc => ?_)
      · rw [if_pos hc] at h
        refine wg_blk 2 (i' := 10) (L' := [some (.inl a0), some (.inl a1)]) (st' := [.inl (4 : Int32), .inl a0]) (M' := M) rfl ?_
        refine wg_br (c := a0 < (4 : Int32)) (t := 17) (f := 11) (st' := []) rfl (fun hc => ?_) (fun hc => ?_)
        · rw [if_pos hc] at h
          refine wg_blk 2 (i' := 20) (L' := [some (.inl a0), some (.inl a1)]) (st' := [.inl (1 : Int32)]) (M' := M) rfl ?_
          subst h
          exact wg_re rfl (by decide) ⟨rfl, rfl⟩
        · rw [if_neg hc] at h
          refine wg_blk 2 (i' := 13) (L' := [some (.inl a0), some (.inl a1)]) (st' := [.inl (4 : Int32), .inl a1]) (M' := M) rfl ?_
          refine wg_br (c := a1 = (4 : Int32)) (t := 14) (f := 19) (st' := []) rfl (fun hc => ?_) (fun hc => ?_)
          · rw [if_pos hc] at h
            refine wg_blk 2 (i' := 16) (L' := [some (.inl a0), some (.inl a1)]) (st' := [.inl (5 : Int32), .inl a0]) (M' := M) rfl ?_
            refine wg_br (c := a0 = (5 : Int32)) (t := 17) (f := 19) (st' := []) rfl (fun hc => ?_) (fun hc => ?_)
            · rw [if_pos hc] at h
              refine wg_blk 2 (i' := 20) (L' := [some (.inl a0), some (.inl a1)]) (st' := [.inl (1 : Int32)]) (M' := M) rfl ?_
              subst h
              exact wg_re rfl (by decide) ⟨rfl, rfl⟩
            · rw [if_neg hc] at h
              refine wg_blk 1 (i' := 20) (L' := [some (.inl a0), some (.inl a1)]) (st' := [.inl (0 : Int32)]) (M' := M) rfl ?_
              subst h
              exact wg_re rfl (by decide) ⟨rfl, rfl⟩
          · rw [if_neg hc] at h
            refine wg_blk 1 (i' := 20) (L' := [some (.inl a0), some (.inl a1)]) (st' := [.inl (0 : Int32)]) (M' := M) rfl ?_
            subst h
            exact wg_re rfl (by decide) ⟨rfl, rfl⟩
      · rw [if_neg hc] at h
        refine wg_blk 2 (i' := 13) (L' := [some (.inl a0), some (.inl a1)]) (st' := [.inl (4 : Int32), .inl a1]) (M' := M) rfl ?_
        refine wg_br (c := a1 = (4 : Int32)) (t := 14) (f := 19) (st' := []) rfl (fun hc => ?_) (fun hc => ?_)
        · rw [if_pos hc] at h
          refine wg_blk 2 (i' := 16) (L' := [some (.inl a0), some (.inl a1)]) (st' := [.inl (5 : Int32), .inl a0]) (M' := M) rfl ?_
          refine wg_br (c := a0 = (5 : Int32)) (t := 17) (f := 19) (st' := []) rfl (fun hc => ?_) (fun hc => ?_)
          · rw [if_pos hc] at h
            refine wg_blk 2 (i' := 20) (L' := [some (.inl a0), some (.inl a1)]) (st' := [.inl (1 : Int32)]) (M' := M) rfl ?_
            subst h
            exact wg_re rfl (by decide) ⟨rfl, rfl⟩
          · rw [if_neg hc] at h
            refine wg_blk 1 (i' := 20) (L' := [some (.inl a0), some (.inl a1)]) (st' := [.inl (0 : Int32)]) (M' := M) rfl ?_
            subst h
            exact wg_re rfl (by decide) ⟨rfl, rfl⟩
        · rw [if_neg hc] at h
          refine wg_blk 1 (i' := 20) (L' := [some (.inl a0), some (.inl a1)]) (st' := [.inl (0 : Int32)]) (M' := M) rfl ?_
          subst h
          exact wg_re rfl (by decide) ⟨rfl, rfl⟩
set_option maxRecDepth 20000 in
theorem s_M_as (a1 : Int32) (a2 : Int32) (M : wc_M) (z : Int32 × wc_M) (h : f_M_as a1 a2 M = some z) : wc_Sd 3 144 [.inr (.inl (21, 0)), .inl a1, .inl a2] M (some z.1) z.2 := by
  unfold f_M_as at h
  refine wg_Sd (Nat.le_of_ble_eq_true rfl) ?_
  show wg 2 wx0 (some .int) wk_144 0 [some (.inr (.inl (21, 0))), some (.inl a1), some (.inl a2)] [] M _
  refine wg_blk 2 (i' := 2) (L' := [some (.inr (.inl (21, 0))), some (.inl a1), some (.inl a2)]) (st' := [.inl (M 21 0 4)]) (M' := M) rfl ?_
  refine wg_br (c := (M 21 0 4) = (0 : Int32)) (t := 3) (f := 5) (st' := []) rfl (fun hc => ?_) (fun hc => ?_)
  · rw [if_pos hc] at h
    refine wg_blk 1 (i' := 4) (L' := [some (.inr (.inl (21, 0))), some (.inl a1), some (.inl a2)]) (st' := [.inl (-1000002 : Int32)]) (M' := M) rfl ?_
    obtain rfl := Option.some.inj h
    exact wg_re rfl trivial ⟨rfl, rfl⟩
  · rw [if_neg hc] at h
    refine wg_blk 1 (i' := 6) (L' := [some (.inr (.inl (21, 0))), some (.inl a1), some (.inl a2)]) (st' := [.inl a1]) (M' := M) rfl ?_
    refine wg_ca (d' := 2) (y := 108) (as := [.inl a1]) (rest := []) (r := some (f_M_isCell a1)) (M' := M) rfl (Nat.le_of_ble_eq_true rfl) (s_M_isCell a1 M _ rfl) ?_
    refine wg_br (c := (f_M_isCell a1) = (0 : Int32)) (t := 14) (f := 8) (st' := []) rfl (fun hc => ?_) (fun hc => ?_)
    · rw [if_pos hc] at h
      refine wg_blk 1 (i' := 15) (L' := [some (.inr (.inl (21, 0))), some (.inl a1), some (.inl a2)]) (st' := [.inl (-1000001 : Int32)]) (M' := M) rfl ?_
      obtain rfl := Option.some.inj h
      exact wg_re rfl trivial ⟨rfl, rfl⟩
    · rw [if_neg hc] at h
      refine wg_blk 4 (i' := 12) (L' := [some (.inr (.inl (21, 0))), some (.inl a1), some (.inl a2)]) (st' := [.inr (.inr (5 : Int64)), .inr (.inr (0 : Int64)), .inr (.inr (a2).toInt64)]) (M' := M) rfl ?_
      refine wg_ca (d' := 1) (y := 87) (as := [.inr (.inr (a2).toInt64), .inr (.inr (0 : Int64)), .inr (.inr (5 : Int64))]) (rest := []) (r := some (f_M_in (a2).toInt64 (0 : Int64) (5 : Int64))) (M' := M) rfl (Nat.le_of_ble_eq_true rfl) (s_M_in (a2).toInt64 (0 : Int64) (5 : Int64) M _ rfl) ?_
      refine wg_br (c := (f_M_in (a2).toInt64 (0 : Int64) (5 : Int64)) = (0 : Int32)) (t := 14) (f := 16) (st' := []) rfl (fun hc => ?_) (fun hc => ?_)
      · rw [if_pos hc] at h
        refine wg_blk 1 (i' := 15) (L' := [some (.inr (.inl (21, 0))), some (.inl a1), some (.inl a2)]) (st' := [.inl (-1000001 : Int32)]) (M' := M) rfl ?_
        obtain rfl := Option.some.inj h
        exact wg_re rfl trivial ⟨rfl, rfl⟩
      · rw [if_neg hc] at h
        refine wg_blk 2 (i' := 18) (L' := [some (.inr (.inl (21, 0))), some (.inl a1), some (.inl a2)]) (st' := [.inl a1, .inr (.inl (21, 0))]) (M' := M) rfl ?_
        obtain ⟨v2, h1, h⟩ := wbs h
        refine wg_ca (d' := 1) (y := 110) (as := [.inr (.inl (21, 0)), .inl a1]) (rest := []) (r := some v2) (M' := M) rfl (Nat.le_of_ble_eq_true rfl) (s_M_isWork a1 M _ h1) ?_
        refine wg_br (c := v2 = (0 : Int32)) (t := 20) (f := 22) (st' := []) rfl (fun hc => ?_) (fun hc => ?_)
        · rw [if_pos hc] at h
          refine wg_blk 1 (i' := 21) (L' := [some (.inr (.inl (21, 0))), some (.inl a1), some (.inl a2)]) (st' := [.inl (-1000002 : Int32)]) (M' := M) rfl ?_
          obtain rfl := Option.some.inj h
          exact wg_re rfl trivial ⟨rfl, rfl⟩
        · rw [if_neg hc] at h
          refine wg_blk 5 (i' := 27) (L' := [some (.inr (.inl (21, 0))), some (.inl a1), some (.inl a2)]) (st' := [.inl ((9 : Int32) + a1), .inr (.inl (25, 0))]) (M' := M) rfl ?_
          obtain ⟨hp3, h⟩ := wif h
          refine wg_ck (st' := [.inl (M 25 0 (((9 : Int32) + a1)).toNatClampNeg)]) (M' := M) rfl (wib_in hp3) ?_
          refine wg_blk 1 (i' := 29) (L' := [some (.inr (.inl (21, 0))), some (.inl a1), some (.inl a2)]) (st' := [.inl a2, .inl (M 25 0 (((9 : Int32) + a1)).toNatClampNeg)]) (M' := M) rfl ?_
          refine wg_ca (d' := 1) (y := 143) (as := [.inl (M 25 0 (((9 : Int32) + a1)).toNatClampNeg), .inl a2]) (rest := []) (r := some (f_M_isKind (M 25 0 (((9 : Int32) + a1)).toNatClampNeg) a2)) (M' := M) rfl (Nat.le_of_ble_eq_true rfl) (s_M_isKind (M 25 0 (((9 : Int32) + a1)).toNatClampNeg) a2 M _ rfl) ?_
          refine wg_br (c := (f_M_isKind (M 25 0 (((9 : Int32) + a1)).toNatClampNeg) a2) = (0 : Int32)) (t := 35) (f := 31) (st' := []) rfl (fun hc => ?_) (fun hc => ?_)
          · rw [if_pos hc] at h
            refine wg_blk 2 (i' := 37) (L' := [some (.inr (.inl (21, 0))), some (.inl a1), some (.inl a2)]) (st' := [.inl (3 : Int32), .inr (.inl (21, 0))]) (M' := M) rfl ?_
            obtain ⟨q5, h4, h⟩ := wbs h
            refine wg_ca (d' := 1) (y := 89) (as := [.inr (.inl (21, 0)), .inl (3 : Int32)]) (rest := []) (r := some q5.1) (M' := q5.2) rfl (Nat.le_of_ble_eq_true rfl) (s_M_find (3 : Int32) M _ h4) ?_
            obtain rfl := Option.some.inj h
            exact wg_re rfl trivial ⟨rfl, rfl⟩
          · rw [if_neg hc] at h
            refine wg_blk 2 (i' := 33) (L' := [some (.inr (.inl (21, 0))), some (.inl a1), some (.inl a2)]) (st' := [.inl a1, .inr (.inl (21, 0))]) (M' := M) rfl ?_
            obtain ⟨q7, h6, h⟩ := wbs h
            refine wg_ca (d' := 1) (y := 90) (as := [.inr (.inl (21, 0)), .inl a1]) (rest := []) (r := some q7.1) (M' := q7.2) rfl (Nat.le_of_ble_eq_true rfl) (s_M_well a1 M _ h6) ?_
            refine wg_blk 1 (i' := 38) (L' := [some (.inr (.inl (21, 0))), some (.inl a1), some (.inl a2)]) (st' := [.inl q7.1]) (M' := q7.2) rfl ?_
            obtain rfl := Option.some.inj h
            exact wg_re rfl trivial ⟨rfl, rfl⟩
set_option maxRecDepth 20000 in
theorem s_K_sizeBody (a0 : Int32) (M : wc_M) (z : Int32) (h : f_K_sizeBody a0 = z) : wc_Sd 1 83 [.inl a0] M (some z) M := by
  unfold f_K_sizeBody at h
  refine wg_Sd (Nat.le_of_ble_eq_true rfl) ?_
  show wg 0 wx0 (some .int) wk_83 0 [some (.inl a0)] [] M _
  refine wg_blk 1 (i' := 1) (L' := [some (.inl a0)]) (st' := [.inl a0]) (M' := M) rfl ?_
  refine wg_sw (x := a0) (cs := [((1 : Int32), 2), ((2 : Int32), 4), ((3 : Int32), 2), ((4 : Int32), 6), ((5 : Int32), 8)]) (df := 10) (st' := []) rfl ?_ ?_
  · intro q hq he
    simp only [List.mem_cons, List.not_mem_nil, or_false] at hq
    rcases hq with rfl | rfl | rfl | rfl | rfl
    · dsimp only at he ⊢
      rw [if_pos he] at h
      refine wg_blk 1 (i' := 3) (L' := [some (.inl a0)]) (st' := [.inl (11 : Int32)]) (M' := M) rfl ?_
      subst h
      exact wg_re rfl trivial ⟨rfl, rfl⟩
    · dsimp only at he ⊢
      rw [if_neg (fun z => absurd (he.symm.trans z) (by decide))] at h
      rw [if_pos he] at h
      refine wg_blk 1 (i' := 5) (L' := [some (.inl a0)]) (st' := [.inl (12 : Int32)]) (M' := M) rfl ?_
      subst h
      exact wg_re rfl trivial ⟨rfl, rfl⟩
    · dsimp only at he ⊢
      rw [if_neg (fun z => absurd (he.symm.trans z) (by decide))] at h
      rw [if_neg (fun z => absurd (he.symm.trans z) (by decide))] at h
      rw [if_pos he] at h
      refine wg_blk 1 (i' := 3) (L' := [some (.inl a0)]) (st' := [.inl (11 : Int32)]) (M' := M) rfl ?_
      subst h
      exact wg_re rfl trivial ⟨rfl, rfl⟩
    · dsimp only at he ⊢
      rw [if_neg (fun z => absurd (he.symm.trans z) (by decide))] at h
      rw [if_neg (fun z => absurd (he.symm.trans z) (by decide))] at h
      rw [if_neg (fun z => absurd (he.symm.trans z) (by decide))] at h
      rw [if_pos he] at h
      refine wg_blk 1 (i' := 7) (L' := [some (.inl a0)]) (st' := [.inl (13 : Int32)]) (M' := M) rfl ?_
      subst h
      exact wg_re rfl trivial ⟨rfl, rfl⟩
    · dsimp only at he ⊢
      rw [if_neg (fun z => absurd (he.symm.trans z) (by decide))] at h
      rw [if_neg (fun z => absurd (he.symm.trans z) (by decide))] at h
      rw [if_neg (fun z => absurd (he.symm.trans z) (by decide))] at h
      rw [if_neg (fun z => absurd (he.symm.trans z) (by decide))] at h
      rw [if_pos he] at h
      refine wg_blk 1 (i' := 9) (L' := [some (.inl a0)]) (st' := [.inl (14 : Int32)]) (M' := M) rfl ?_
      subst h
      exact wg_re rfl trivial ⟨rfl, rfl⟩
  · intro hq
    rw [if_neg (hq ((1 : Int32), 2) (by simp))] at h
    rw [if_neg (hq ((2 : Int32), 4) (by simp))] at h
    rw [if_neg (hq ((3 : Int32), 2) (by simp))] at h
    rw [if_neg (hq ((4 : Int32), 6) (by simp))] at h
    rw [if_neg (hq ((5 : Int32), 8) (by simp))] at h
    refine wg_blk 1 (i' := 11) (L' := [some (.inl a0)]) (st' := [.inl (10 : Int32)]) (M' := M) rfl ?_
    subst h
    exact wg_re rfl trivial ⟨rfl, rfl⟩
set_option maxRecDepth 20000 in
theorem s_K_leave (a1 : Int32) (M : wc_M) (z : wc_M) (h : f_K_leave a1 M = some z) : wc_Sd 1 86 [.inr (.inl (19, 0)), .inl a1] M none z := by
  unfold f_K_leave at h
  refine wg_Sd (Nat.le_of_ble_eq_true rfl) ?_
  show wg 0 wx0 none wk_86 0 [some (.inr (.inl (19, 0))), some (.inl a1)] [] M _
  refine wg_blk 3 (i' := 3) (L' := [some (.inr (.inl (19, 0))), some (.inl a1)]) (st' := [.inl (16 : Int32), .inl (M 19 0 1)]) (M' := M) rfl ?_
  refine wg_br (c := (16 : Int32) ≤ (M 19 0 1)) (t := 16) (f := 4) (st' := []) rfl (fun hc => ?_) (fun hc => ?_)
  · rw [if_pos hc] at h
    obtain rfl := Option.some.inj h
    exact wg_re rfl trivial ⟨rfl, rfl⟩
  · rw [if_neg hc] at h
    refine wg_blk 5 (i' := 9) (L' := [some (.inr (.inl (19, 0))), some (.inl a1)]) (st' := [.inl a1, .inl (M 19 0 1), .inr (.inl (20, 0))]) (M' := M) rfl ?_
    obtain ⟨hp1, h⟩ := wif h
    refine wg_ck (st' := []) (M' := (wc_up M 20 0 ((M 19 0 1)).toNatClampNeg a1)) rfl (wib_in hp1) ?_
    refine wg_blk 6 (i' := 16) (L' := [some (.inr (.inl (19, 0))), some (.inl a1)]) (st' := []) (M' := (wc_up (wc_up M 20 0 ((M 19 0 1)).toNatClampNeg a1) 19 0 1 (((wc_up M 20 0 ((M 19 0 1)).toNatClampNeg a1) 19 0 1) + (1 : Int32)))) rfl ?_
    obtain rfl := Option.some.inj h
    exact wg_re rfl trivial ⟨rfl, rfl⟩
set_option maxRecDepth 20000 in
theorem s_K_markBody (a0 : Int32) (M : wc_M) (z : Int32) (h : f_K_markBody a0 = z) : wc_Sd 1 84 [.inl a0] M (some z) M := by
  unfold f_K_markBody at h
  refine wg_Sd (Nat.le_of_ble_eq_true rfl) ?_
  show wg 0 wx0 (some .int) wk_84 0 [some (.inl a0)] [] M _
  refine wg_blk 1 (i' := 1) (L' := [some (.inl a0)]) (st' := [.inl a0]) (M' := M) rfl ?_
  refine wg_sw (x := a0) (cs := [((1 : Int32), 2), ((2 : Int32), 4), ((3 : Int32), 6), ((4 : Int32), 8), ((5 : Int32), 8)]) (df := 10) (st' := []) rfl ?_ ?_
  · intro q hq he
    simp only [List.mem_cons, List.not_mem_nil, or_false] at hq
    rcases hq with rfl | rfl | rfl | rfl | rfl
    · dsimp only at he ⊢
      rw [if_pos he] at h
      refine wg_blk 1 (i' := 3) (L' := [some (.inl a0)]) (st' := [.inl (21 : Int32)]) (M' := M) rfl ?_
      subst h
      exact wg_re rfl trivial ⟨rfl, rfl⟩
    · dsimp only at he ⊢
      rw [if_neg (fun z => absurd (he.symm.trans z) (by decide))] at h
      rw [if_pos he] at h
      refine wg_blk 1 (i' := 5) (L' := [some (.inl a0)]) (st' := [.inl (24 : Int32)]) (M' := M) rfl ?_
      subst h
      exact wg_re rfl trivial ⟨rfl, rfl⟩
    · dsimp only at he ⊢
      rw [if_neg (fun z => absurd (he.symm.trans z) (by decide))] at h
      rw [if_neg (fun z => absurd (he.symm.trans z) (by decide))] at h
      rw [if_pos he] at h
      refine wg_blk 1 (i' := 7) (L' := [some (.inl a0)]) (st' := [.inl (22 : Int32)]) (M' := M) rfl ?_
      subst h
      exact wg_re rfl trivial ⟨rfl, rfl⟩
    · dsimp only at he ⊢
      rw [if_neg (fun z => absurd (he.symm.trans z) (by decide))] at h
      rw [if_neg (fun z => absurd (he.symm.trans z) (by decide))] at h
      rw [if_neg (fun z => absurd (he.symm.trans z) (by decide))] at h
      rw [if_pos he] at h
      refine wg_blk 1 (i' := 9) (L' := [some (.inl a0)]) (st' := [.inl (23 : Int32)]) (M' := M) rfl ?_
      subst h
      exact wg_re rfl trivial ⟨rfl, rfl⟩
    · dsimp only at he ⊢
      rw [if_neg (fun z => absurd (he.symm.trans z) (by decide))] at h
      rw [if_neg (fun z => absurd (he.symm.trans z) (by decide))] at h
      rw [if_neg (fun z => absurd (he.symm.trans z) (by decide))] at h
      rw [if_neg (fun z => absurd (he.symm.trans z) (by decide))] at h
      rw [if_pos he] at h
      refine wg_blk 1 (i' := 9) (L' := [some (.inl a0)]) (st' := [.inl (23 : Int32)]) (M' := M) rfl ?_
      subst h
      exact wg_re rfl trivial ⟨rfl, rfl⟩
  · intro hq
    rw [if_neg (hq ((1 : Int32), 2) (by simp))] at h
    rw [if_neg (hq ((2 : Int32), 4) (by simp))] at h
    rw [if_neg (hq ((3 : Int32), 6) (by simp))] at h
    rw [if_neg (hq ((4 : Int32), 8) (by simp))] at h
    rw [if_neg (hq ((5 : Int32), 8) (by simp))] at h
    refine wg_blk 1 (i' := 11) (L' := [some (.inl a0)]) (st' := [.inl (20 : Int32)]) (M' := M) rfl ?_
    subst h
    exact wg_re rfl trivial ⟨rfl, rfl⟩
set_option maxRecDepth 20000 in
theorem s_K_body : ∀ (n : Nat) (a1 : Int32) (a2 : Int32) (M : wc_M) (z : Int32 × wc_M), f_K_body n a1 a2 M = some z → wc_Sd (1 + n) 85 [.inr (.inl (19, 0)), .inl a1, .inl a2] M (some z.1) z.2 := by
  intro n
  induction n with
  | zero =>
    intro a1 a2 M z h
    exact nomatch (show (none : Option (Int32 × wc_M)) = some z from h)
  | succ n ih =>
    intro a1 a2 M z h
    unfold f_K_body at h
    refine wg_Sd (Nat.le_of_ble_eq_true rfl) ?_
    show wg (1 + n) wx0 (some .int) wk_85 0 [some (.inr (.inl (19, 0))), some (.inl a1), some (.inl a2), none] [] M _
    refine wg_blk 2 (i' := 2) (L' := [some (.inr (.inl (19, 0))), some (.inl a1), some (.inl a2), none]) (st' := [.inl (16 : Int32), .inl a2]) (M' := M) rfl ?_
    refine wg_br (c := a2 ≤ (16 : Int32)) (t := 5) (f := 3) (st' := []) rfl (fun hc => ?_) (fun hc => ?_)
    · rw [if_pos hc] at h
      refine wg_blk 2 (i' := 7) (L' := [some (.inr (.inl (19, 0))), some (.inl a1), some (.inl a2), none]) (st' := [.inl a1, .inr (.inl (19, 0))]) (M' := M) rfl ?_
      obtain ⟨m2, h1, h⟩ := wbs h
      refine wg_ca (d' := 1) (y := 86) (as := [.inr (.inl (19, 0)), .inl a1]) (rest := []) (r := none) (M' := m2) rfl (by omega) (s_K_leave a1 M _ h1) ?_
      refine wg_blk 5 (i' := 13) (L' := [some (.inr (.inl (19, 0))), some (.inl a1), some (.inl a2), some (.inl (a2 + (1 : Int32)))]) (st' := [.inl a1]) (M' := m2) rfl ?_
      refine wg_sw (x := a1) (cs := [((10 : Int32), 14), ((11 : Int32), 17), ((12 : Int32), 29), ((13 : Int32), 35), ((14 : Int32), 42), ((15 : Int32), 86), ((16 : Int32), 86), ((17 : Int32), 86), ((18 : Int32), 86), ((19 : Int32), 86), ((20 : Int32), 49), ((21 : Int32), 52), ((22 : Int32), 60), ((23 : Int32), 67), ((24 : Int32), 79)]) (df := 86) (st' := []) rfl ?_ ?_
      · intro q hq he
        simp only [List.mem_cons, List.not_mem_nil, or_false] at hq
        rcases hq with rfl | rfl | rfl | rfl | rfl | rfl | rfl | rfl | rfl | rfl | rfl | rfl | rfl | rfl | rfl
        · dsimp only at he ⊢
          rw [if_pos he] at h
          refine wg_blk 2 (i' := 16) (L' := [some (.inr (.inl (19, 0))), some (.inl a1), some (.inl a2), some (.inl (a2 + (1 : Int32)))]) (st' := [.inl (m2 19 0 3)]) (M' := m2) rfl ?_
          obtain rfl := Option.some.inj h
          exact wg_re rfl trivial ⟨rfl, rfl⟩
        · dsimp only at he ⊢
          rw [if_neg (fun z => absurd (he.symm.trans z) (by decide))] at h
          rw [if_pos he] at h
          refine wg_blk 3 (i' := 20) (L' := [some (.inr (.inl (19, 0))), some (.inl a1), some (.inl a2), some (.inl (a2 + (1 : Int32)))]) (st' := [.inl (a2 + (1 : Int32)), .inl (10 : Int32), .inr (.inl (19, 0))]) (M' := m2) rfl ?_
          obtain ⟨q3, h4, h⟩ := wbs h
          refine wg_ca (d' := 1 + n) (y := 85) (as := [.inr (.inl (19, 0)), .inl (10 : Int32), .inl (a2 + (1 : Int32))]) (rest := []) (r := some q3.1) (M' := q3.2) rfl (Nat.le_refl _) (ih ((10 : Int32)) ((a2 + (1 : Int32))) (m2) _ h4) ?_
          refine wg_blk 3 (i' := 24) (L' := [some (.inr (.inl (19, 0))), some (.inl a1), some (.inl a2), some (.inl (a2 + (1 : Int32)))]) (st' := [.inl (q3.2 19 0 2), .inr (.inl (19, 0)), .inl q3.1]) (M' := q3.2) rfl ?_
          refine wg_ca (d' := 1) (y := 84) (as := [.inl (q3.2 19 0 2)]) (rest := [.inr (.inl (19, 0)), .inl q3.1]) (r := some (f_K_markBody (q3.2 19 0 2))) (M' := q3.2) rfl (by omega) (s_K_markBody (q3.2 19 0 2) q3.2 _ rfl) ?_
          refine wg_blk 1 (i' := 26) (L' := [some (.inr (.inl (19, 0))), some (.inl a1), some (.inl a2), some (.inl (a2 + (1 : Int32)))]) (st' := [.inl (a2 + (1 : Int32)), .inl (f_K_markBody (q3.2 19 0 2)), .inr (.inl (19, 0)), .inl q3.1]) (M' := q3.2) rfl ?_
          obtain ⟨q5, h6, h⟩ := wbs h
          refine wg_ca (d' := 1 + n) (y := 85) (as := [.inr (.inl (19, 0)), .inl (f_K_markBody (q3.2 19 0 2)), .inl (a2 + (1 : Int32))]) (rest := [.inl q3.1]) (r := some q5.1) (M' := q5.2) rfl (Nat.le_refl _) (ih ((f_K_markBody (q3.2 19 0 2))) ((a2 + (1 : Int32))) (q3.2) _ h6) ?_
          refine wg_blk 1 (i' := 28) (L' := [some (.inr (.inl (19, 0))), some (.inl a1), some (.inl a2), some (.inl (a2 + (1 : Int32)))]) (st' := [.inl (q3.1 + q5.1)]) (M' := q5.2) rfl ?_
          obtain rfl := Option.some.inj h
          exact wg_re rfl trivial ⟨rfl, rfl⟩
        · dsimp only at he ⊢
          rw [if_neg (fun z => absurd (he.symm.trans z) (by decide))] at h
          rw [if_neg (fun z => absurd (he.symm.trans z) (by decide))] at h
          rw [if_pos he] at h
          refine wg_blk 3 (i' := 32) (L' := [some (.inr (.inl (19, 0))), some (.inl a1), some (.inl a2), some (.inl (a2 + (1 : Int32)))]) (st' := [.inl (a2 + (1 : Int32)), .inl (11 : Int32), .inr (.inl (19, 0))]) (M' := m2) rfl ?_
          obtain ⟨q7, h8, h⟩ := wbs h
          refine wg_ca (d' := 1 + n) (y := 85) (as := [.inr (.inl (19, 0)), .inl (11 : Int32), .inl (a2 + (1 : Int32))]) (rest := []) (r := some q7.1) (M' := q7.2) rfl (Nat.le_refl _) (ih ((11 : Int32)) ((a2 + (1 : Int32))) (m2) _ h8) ?_
          refine wg_blk 1 (i' := 34) (L' := [some (.inr (.inl (19, 0))), some (.inl a1), some (.inl a2), some (.inl (a2 + (1 : Int32)))]) (st' := [.inl (-q7.1)]) (M' := q7.2) rfl ?_
          obtain rfl := Option.some.inj h
          exact wg_re rfl trivial ⟨rfl, rfl⟩
        · dsimp only at he ⊢
          rw [if_neg (fun z => absurd (he.symm.trans z) (by decide))] at h
          rw [if_neg (fun z => absurd (he.symm.trans z) (by decide))] at h
          rw [if_neg (fun z => absurd (he.symm.trans z) (by decide))] at h
          rw [if_pos he] at h
          refine wg_blk 3 (i' := 38) (L' := [some (.inr (.inl (19, 0))), some (.inl a1), some (.inl a2), some (.inl (a2 + (1 : Int32)))]) (st' := [.inl (a2 + (1 : Int32)), .inl (10 : Int32), .inr (.inl (19, 0))]) (M' := m2) rfl ?_
          obtain ⟨q9, h10, h⟩ := wbs h
          refine wg_ca (d' := 1 + n) (y := 85) (as := [.inr (.inl (19, 0)), .inl (10 : Int32), .inl (a2 + (1 : Int32))]) (rest := []) (r := some q9.1) (M' := q9.2) rfl (Nat.le_refl _) (ih ((10 : Int32)) ((a2 + (1 : Int32))) (m2) _ h10) ?_
          refine wg_blk 2 (i' := 41) (L' := [some (.inr (.inl (19, 0))), some (.inl a1), some (.inl a2), some (.inl (a2 + (1 : Int32)))]) (st' := [.inl (q9.1 - (100 : Int32))]) (M' := q9.2) rfl ?_
          obtain rfl := Option.some.inj h
          exact wg_re rfl trivial ⟨rfl, rfl⟩
        · dsimp only at he ⊢
          rw [if_neg (fun z => absurd (he.symm.trans z) (by decide))] at h
          rw [if_neg (fun z => absurd (he.symm.trans z) (by decide))] at h
          rw [if_neg (fun z => absurd (he.symm.trans z) (by decide))] at h
          rw [if_neg (fun z => absurd (he.symm.trans z) (by decide))] at h
          rw [if_pos he] at h
          refine wg_blk 4 (i' := 46) (L' := [some (.inr (.inl (19, 0))), some (.inl a1), some (.inl a2), some (.inl (a2 + (1 : Int32)))]) (st' := [.inl (a2 + (1 : Int32)), .inl (13 : Int32), .inr (.inl (19, 0)), .inl (2 : Int32)]) (M' := m2) rfl ?_
          obtain ⟨q11, h12, h⟩ := wbs h
          refine wg_ca (d' := 1 + n) (y := 85) (as := [.inr (.inl (19, 0)), .inl (13 : Int32), .inl (a2 + (1 : Int32))]) (rest := [.inl (2 : Int32)]) (r := some q11.1) (M' := q11.2) rfl (Nat.le_refl _) (ih ((13 : Int32)) ((a2 + (1 : Int32))) (m2) _ h12) ?_
          refine wg_blk 1 (i' := 48) (L' := [some (.inr (.inl (19, 0))), some (.inl a1), some (.inl a2), some (.inl (a2 + (1 : Int32)))]) (st' := [.inl ((2 : Int32) * q11.1)]) (M' := q11.2) rfl ?_
          obtain rfl := Option.some.inj h
          exact wg_re rfl trivial ⟨rfl, rfl⟩
        · dsimp only at he ⊢
          rw [if_neg (fun z => absurd (he.symm.trans z) (by decide))] at h
          rw [if_neg (fun z => absurd (he.symm.trans z) (by decide))] at h
          rw [if_neg (fun z => absurd (he.symm.trans z) (by decide))] at h
          rw [if_neg (fun z => absurd (he.symm.trans z) (by decide))] at h
          rw [if_neg (fun z => absurd (he.symm.trans z) (by decide))] at h
          rw [if_pos he] at h
          refine wg_blk 1 (i' := 87) (L' := [some (.inr (.inl (19, 0))), some (.inl a1), some (.inl a2), some (.inl (a2 + (1 : Int32)))]) (st' := [.inl (0 : Int32)]) (M' := m2) rfl ?_
          obtain rfl := Option.some.inj h
          exact wg_re rfl trivial ⟨rfl, rfl⟩
        · dsimp only at he ⊢
          rw [if_neg (fun z => absurd (he.symm.trans z) (by decide))] at h
          rw [if_neg (fun z => absurd (he.symm.trans z) (by decide))] at h
          rw [if_neg (fun z => absurd (he.symm.trans z) (by decide))] at h
          rw [if_neg (fun z => absurd (he.symm.trans z) (by decide))] at h
          rw [if_neg (fun z => absurd (he.symm.trans z) (by decide))] at h
          rw [if_neg (fun z => absurd (he.symm.trans z) (by decide))] at h
          rw [if_pos he] at h
          refine wg_blk 1 (i' := 87) (L' := [some (.inr (.inl (19, 0))), some (.inl a1), some (.inl a2), some (.inl (a2 + (1 : Int32)))]) (st' := [.inl (0 : Int32)]) (M' := m2) rfl ?_
          obtain rfl := Option.some.inj h
          exact wg_re rfl trivial ⟨rfl, rfl⟩
        · dsimp only at he ⊢
          rw [if_neg (fun z => absurd (he.symm.trans z) (by decide))] at h
          rw [if_neg (fun z => absurd (he.symm.trans z) (by decide))] at h
          rw [if_neg (fun z => absurd (he.symm.trans z) (by decide))] at h
          rw [if_neg (fun z => absurd (he.symm.trans z) (by decide))] at h
          rw [if_neg (fun z => absurd (he.symm.trans z) (by decide))] at h
          rw [if_neg (fun z => absurd (he.symm.trans z) (by decide))] at h
          rw [if_neg (fun z => absurd (he.symm.trans z) (by decide))] at h
          rw [if_pos he] at h
          refine wg_blk 1 (i' := 87) (L' := [some (.inr (.inl (19, 0))), some (.inl a1), some (.inl a2), some (.inl (a2 + (1 : Int32)))]) (st' := [.inl (0 : Int32)]) (M' := m2) rfl ?_
          obtain rfl := Option.some.inj h
          exact wg_re rfl trivial ⟨rfl, rfl⟩
        · dsimp only at he ⊢
          rw [if_neg (fun z => absurd (he.symm.trans z) (by decide))] at h
          rw [if_neg (fun z => absurd (he.symm.trans z) (by decide))] at h
          rw [if_neg (fun z => absurd (he.symm.trans z) (by decide))] at h
          rw [if_neg (fun z => absurd (he.symm.trans z) (by decide))] at h
          rw [if_neg (fun z => absurd (he.symm.trans z) (by decide))] at h
          rw [if_neg (fun z => absurd (he.symm.trans z) (by decide))] at h
          rw [if_neg (fun z => absurd (he.symm.trans z) (by decide))] at h
          rw [if_neg (fun z => absurd (he.symm.trans z) (by decide))] at h
          rw [if_pos he] at h
          refine wg_blk 1 (i' := 87) (L' := [some (.inr (.inl (19, 0))), some (.inl a1), some (.inl a2), some (.inl (a2 + (1 : Int32)))]) (st' := [.inl (0 : Int32)]) (M' := m2) rfl ?_
          obtain rfl := Option.some.inj h
          exact wg_re rfl trivial ⟨rfl, rfl⟩
        · dsimp only at he ⊢
          rw [if_neg (fun z => absurd (he.symm.trans z) (by decide))] at h
          rw [if_neg (fun z => absurd (he.symm.trans z) (by decide))] at h
          rw [if_neg (fun z => absurd (he.symm.trans z) (by decide))] at h
          rw [if_neg (fun z => absurd (he.symm.trans z) (by decide))] at h
          rw [if_neg (fun z => absurd (he.symm.trans z) (by decide))] at h
          rw [if_neg (fun z => absurd (he.symm.trans z) (by decide))] at h
          rw [if_neg (fun z => absurd (he.symm.trans z) (by decide))] at h
          rw [if_neg (fun z => absurd (he.symm.trans z) (by decide))] at h
          rw [if_neg (fun z => absurd (he.symm.trans z) (by decide))] at h
          rw [if_pos he] at h
          refine wg_blk 1 (i' := 87) (L' := [some (.inr (.inl (19, 0))), some (.inl a1), some (.inl a2), some (.inl (a2 + (1 : Int32)))]) (st' := [.inl (0 : Int32)]) (M' := m2) rfl ?_
          obtain rfl := Option.some.inj h
          exact wg_re rfl trivial ⟨rfl, rfl⟩
        · dsimp only at he ⊢
          rw [if_neg (fun z => absurd (he.symm.trans z) (by decide))] at h
          rw [if_neg (fun z => absurd (he.symm.trans z) (by decide))] at h
          rw [if_neg (fun z => absurd (he.symm.trans z) (by decide))] at h
          rw [if_neg (fun z => absurd (he.symm.trans z) (by decide))] at h
          rw [if_neg (fun z => absurd (he.symm.trans z) (by decide))] at h
          rw [if_neg (fun z => absurd (he.symm.trans z) (by decide))] at h
          rw [if_neg (fun z => absurd (he.symm.trans z) (by decide))] at h
          rw [if_neg (fun z => absurd (he.symm.trans z) (by decide))] at h
          rw [if_neg (fun z => absurd (he.symm.trans z) (by decide))] at h
          rw [if_neg (fun z => absurd (he.symm.trans z) (by decide))] at h
          rw [if_pos he] at h
          refine wg_blk 2 (i' := 51) (L' := [some (.inr (.inl (19, 0))), some (.inl a1), some (.inl a2), some (.inl (a2 + (1 : Int32)))]) (st' := [.inl (m2 19 0 4)]) (M' := m2) rfl ?_
          obtain rfl := Option.some.inj h
          exact wg_re rfl trivial ⟨rfl, rfl⟩
        · dsimp only at he ⊢
          rw [if_neg (fun z => absurd (he.symm.trans z) (by decide))] at h
          rw [if_neg (fun z => absurd (he.symm.trans z) (by decide))] at h
          rw [if_neg (fun z => absurd (he.symm.trans z) (by decide))] at h
          rw [if_neg (fun z => absurd (he.symm.trans z) (by decide))] at h
          rw [if_neg (fun z => absurd (he.symm.trans z) (by decide))] at h
          rw [if_neg (fun z => absurd (he.symm.trans z) (by decide))] at h
          rw [if_neg (fun z => absurd (he.symm.trans z) (by decide))] at h
          rw [if_neg (fun z => absurd (he.symm.trans z) (by decide))] at h
          rw [if_neg (fun z => absurd (he.symm.trans z) (by decide))] at h
          rw [if_neg (fun z => absurd (he.symm.trans z) (by decide))] at h
          rw [if_neg (fun z => absurd (he.symm.trans z) (by decide))] at h
          rw [if_pos he] at h
          refine wg_blk 3 (i' := 55) (L' := [some (.inr (.inl (19, 0))), some (.inl a1), some (.inl a2), some (.inl (a2 + (1 : Int32)))]) (st' := [.inl (a2 + (1 : Int32)), .inl (20 : Int32), .inr (.inl (19, 0))]) (M' := m2) rfl ?_
          obtain ⟨q13, h14, h⟩ := wbs h
          refine wg_ca (d' := 1 + n) (y := 85) (as := [.inr (.inl (19, 0)), .inl (20 : Int32), .inl (a2 + (1 : Int32))]) (rest := []) (r := some q13.1) (M' := q13.2) rfl (Nat.le_refl _) (ih ((20 : Int32)) ((a2 + (1 : Int32))) (m2) _ h14) ?_
          refine wg_blk 3 (i' := 59) (L' := [some (.inr (.inl (19, 0))), some (.inl a1), some (.inl a2), some (.inl (a2 + (1 : Int32)))]) (st' := [.inl (q13.1 + (q13.2 19 0 5))]) (M' := q13.2) rfl ?_
          obtain rfl := Option.some.inj h
          exact wg_re rfl trivial ⟨rfl, rfl⟩
        · dsimp only at he ⊢
          rw [if_neg (fun z => absurd (he.symm.trans z) (by decide))] at h
          rw [if_neg (fun z => absurd (he.symm.trans z) (by decide))] at h
          rw [if_neg (fun z => absurd (he.symm.trans z) (by decide))] at h
          rw [if_neg (fun z => absurd (he.symm.trans z) (by decide))] at h
          rw [if_neg (fun z => absurd (he.symm.trans z) (by decide))] at h
          rw [if_neg (fun z => absurd (he.symm.trans z) (by decide))] at h
          rw [if_neg (fun z => absurd (he.symm.trans z) (by decide))] at h
          rw [if_neg (fun z => absurd (he.symm.trans z) (by decide))] at h
          rw [if_neg (fun z => absurd (he.symm.trans z) (by decide))] at h
          rw [if_neg (fun z => absurd (he.symm.trans z) (by decide))] at h
          rw [if_neg (fun z => absurd (he.symm.trans z) (by decide))] at h
          rw [if_neg (fun z => absurd (he.symm.trans z) (by decide))] at h
          rw [if_pos he] at h
          refine wg_blk 3 (i' := 63) (L' := [some (.inr (.inl (19, 0))), some (.inl a1), some (.inl a2), some (.inl (a2 + (1 : Int32)))]) (st' := [.inl (a2 + (1 : Int32)), .inl (21 : Int32), .inr (.inl (19, 0))]) (M' := m2) rfl ?_
          obtain ⟨q15, h16, h⟩ := wbs h
          refine wg_ca (d' := 1 + n) (y := 85) (as := [.inr (.inl (19, 0)), .inl (21 : Int32), .inl (a2 + (1 : Int32))]) (rest := []) (r := some q15.1) (M' := q15.2) rfl (Nat.le_refl _) (ih ((21 : Int32)) ((a2 + (1 : Int32))) (m2) _ h16) ?_
          refine wg_blk 2 (i' := 66) (L' := [some (.inr (.inl (19, 0))), some (.inl a1), some (.inl a2), some (.inl (a2 + (1 : Int32)))]) (st' := [.inl (q15.1 - (1000 : Int32))]) (M' := q15.2) rfl ?_
          obtain rfl := Option.some.inj h
          exact wg_re rfl trivial ⟨rfl, rfl⟩
        · dsimp only at he ⊢
          rw [if_neg (fun z => absurd (he.symm.trans z) (by decide))] at h
          rw [if_neg (fun z => absurd (he.symm.trans z) (by decide))] at h
          rw [if_neg (fun z => absurd (he.symm.trans z) (by decide))] at h
          rw [if_neg (fun z => absurd (he.symm.trans z) (by decide))] at h
          rw [if_neg (fun z => absurd (he.symm.trans z) (by decide))] at h
          rw [if_neg (fun z => absurd (he.symm.trans z) (by decide))] at h
          rw [if_neg (fun z => absurd (he.symm.trans z) (by decide))] at h
          rw [if_neg (fun z => absurd (he.symm.trans z) (by decide))] at h
          rw [if_neg (fun z => absurd (he.symm.trans z) (by decide))] at h
          rw [if_neg (fun z => absurd (he.symm.trans z) (by decide))] at h
          rw [if_neg (fun z => absurd (he.symm.trans z) (by decide))] at h
          rw [if_neg (fun z => absurd (he.symm.trans z) (by decide))] at h
          rw [if_neg (fun z => absurd (he.symm.trans z) (by decide))] at h
          rw [if_pos he] at h
          refine wg_blk 3 (i' := 70) (L' := [some (.inr (.inl (19, 0))), some (.inl a1), some (.inl a2), some (.inl (a2 + (1 : Int32)))]) (st' := [.inl (a2 + (1 : Int32)), .inl (20 : Int32), .inr (.inl (19, 0))]) (M' := m2) rfl ?_
          obtain ⟨q17, h18, h⟩ := wbs h
          refine wg_ca (d' := 1 + n) (y := 85) (as := [.inr (.inl (19, 0)), .inl (20 : Int32), .inl (a2 + (1 : Int32))]) (rest := []) (r := some q17.1) (M' := q17.2) rfl (Nat.le_refl _) (ih ((20 : Int32)) ((a2 + (1 : Int32))) (m2) _ h18) ?_
          refine wg_blk 3 (i' := 74) (L' := [some (.inr (.inl (19, 0))), some (.inl a1), some (.inl a2), some (.inl (a2 + (1 : Int32)))]) (st' := [.inl (q17.2 19 0 2), .inr (.inl (19, 0)), .inl q17.1]) (M' := q17.2) rfl ?_
          refine wg_ca (d' := 1) (y := 83) (as := [.inl (q17.2 19 0 2)]) (rest := [.inr (.inl (19, 0)), .inl q17.1]) (r := some (f_K_sizeBody (q17.2 19 0 2))) (M' := q17.2) rfl (by omega) (s_K_sizeBody (q17.2 19 0 2) q17.2 _ rfl) ?_
          refine wg_blk 1 (i' := 76) (L' := [some (.inr (.inl (19, 0))), some (.inl a1), some (.inl a2), some (.inl (a2 + (1 : Int32)))]) (st' := [.inl (a2 + (1 : Int32)), .inl (f_K_sizeBody (q17.2 19 0 2)), .inr (.inl (19, 0)), .inl q17.1]) (M' := q17.2) rfl ?_
          obtain ⟨q19, h20, h⟩ := wbs h
          refine wg_ca (d' := 1 + n) (y := 85) (as := [.inr (.inl (19, 0)), .inl (f_K_sizeBody (q17.2 19 0 2)), .inl (a2 + (1 : Int32))]) (rest := [.inl q17.1]) (r := some q19.1) (M' := q19.2) rfl (Nat.le_refl _) (ih ((f_K_sizeBody (q17.2 19 0 2))) ((a2 + (1 : Int32))) (q17.2) _ h20) ?_
          refine wg_blk 1 (i' := 78) (L' := [some (.inr (.inl (19, 0))), some (.inl a1), some (.inl a2), some (.inl (a2 + (1 : Int32)))]) (st' := [.inl (q17.1 - q19.1)]) (M' := q19.2) rfl ?_
          obtain rfl := Option.some.inj h
          exact wg_re rfl trivial ⟨rfl, rfl⟩
        · dsimp only at he ⊢
          rw [if_neg (fun z => absurd (he.symm.trans z) (by decide))] at h
          rw [if_neg (fun z => absurd (he.symm.trans z) (by decide))] at h
          rw [if_neg (fun z => absurd (he.symm.trans z) (by decide))] at h
          rw [if_neg (fun z => absurd (he.symm.trans z) (by decide))] at h
          rw [if_neg (fun z => absurd (he.symm.trans z) (by decide))] at h
          rw [if_neg (fun z => absurd (he.symm.trans z) (by decide))] at h
          rw [if_neg (fun z => absurd (he.symm.trans z) (by decide))] at h
          rw [if_neg (fun z => absurd (he.symm.trans z) (by decide))] at h
          rw [if_neg (fun z => absurd (he.symm.trans z) (by decide))] at h
          rw [if_neg (fun z => absurd (he.symm.trans z) (by decide))] at h
          rw [if_neg (fun z => absurd (he.symm.trans z) (by decide))] at h
          rw [if_neg (fun z => absurd (he.symm.trans z) (by decide))] at h
          rw [if_neg (fun z => absurd (he.symm.trans z) (by decide))] at h
          rw [if_neg (fun z => absurd (he.symm.trans z) (by decide))] at h
          rw [if_pos he] at h
          refine wg_blk 4 (i' := 83) (L' := [some (.inr (.inl (19, 0))), some (.inl a1), some (.inl a2), some (.inl (a2 + (1 : Int32)))]) (st' := [.inl (a2 + (1 : Int32)), .inl (21 : Int32), .inr (.inl (19, 0)), .inl (2 : Int32)]) (M' := m2) rfl ?_
          obtain ⟨q21, h22, h⟩ := wbs h
          refine wg_ca (d' := 1 + n) (y := 85) (as := [.inr (.inl (19, 0)), .inl (21 : Int32), .inl (a2 + (1 : Int32))]) (rest := [.inl (2 : Int32)]) (r := some q21.1) (M' := q21.2) rfl (Nat.le_refl _) (ih ((21 : Int32)) ((a2 + (1 : Int32))) (m2) _ h22) ?_
          refine wg_blk 1 (i' := 85) (L' := [some (.inr (.inl (19, 0))), some (.inl a1), some (.inl a2), some (.inl (a2 + (1 : Int32)))]) (st' := [.inl ((2 : Int32) * q21.1)]) (M' := q21.2) rfl ?_
          obtain rfl := Option.some.inj h
          exact wg_re rfl trivial ⟨rfl, rfl⟩
      · intro hq
        rw [if_neg (hq ((10 : Int32), 14) (by simp))] at h
        rw [if_neg (hq ((11 : Int32), 17) (by simp))] at h
        rw [if_neg (hq ((12 : Int32), 29) (by simp))] at h
        rw [if_neg (hq ((13 : Int32), 35) (by simp))] at h
        rw [if_neg (hq ((14 : Int32), 42) (by simp))] at h
        rw [if_neg (hq ((15 : Int32), 86) (by simp))] at h
        rw [if_neg (hq ((16 : Int32), 86) (by simp))] at h
        rw [if_neg (hq ((17 : Int32), 86) (by simp))] at h
        rw [if_neg (hq ((18 : Int32), 86) (by simp))] at h
        rw [if_neg (hq ((19 : Int32), 86) (by simp))] at h
        rw [if_neg (hq ((20 : Int32), 49) (by simp))] at h
        rw [if_neg (hq ((21 : Int32), 52) (by simp))] at h
        rw [if_neg (hq ((22 : Int32), 60) (by simp))] at h
        rw [if_neg (hq ((23 : Int32), 67) (by simp))] at h
        rw [if_neg (hq ((24 : Int32), 79) (by simp))] at h
        refine wg_blk 1 (i' := 87) (L' := [some (.inr (.inl (19, 0))), some (.inl a1), some (.inl a2), some (.inl (a2 + (1 : Int32)))]) (st' := [.inl (0 : Int32)]) (M' := m2) rfl ?_
        obtain rfl := Option.some.inj h
        exact wg_re rfl trivial ⟨rfl, rfl⟩
    · rw [if_neg hc] at h
      refine wg_blk 1 (i' := 4) (L' := [some (.inr (.inl (19, 0))), some (.inl a1), some (.inl a2), none]) (st' := [.inl (0 : Int32)]) (M' := M) rfl ?_
      obtain rfl := Option.some.inj h
      exact wg_re rfl trivial ⟨rfl, rfl⟩
