/-! THE FUNCTIONS are what the code does (written by wip/whole/gen/dec.py) -/
set_option maxRecDepth 20000 in
theorem l_T_readLines_7_8_ok (p2 : Nat) {K : Option Int32 → wc_M → Prop} : ∀ (n : Nat) (x3 : Int32) (M : wc_M) (o : (Int32 × wc_M) ⊕ (wc_M)), l_T_readLines_7_8 p2 n x3 M = some o → wel (fun r => K (some r.1) r.2) (fun t => wg 2 wx0 (some .boolean) wk_57 34 [none, none, none, none] [] t K) o → wg 2 wx0 (some .boolean) wk_57 8 [some (.inr (.inl (4, 0))), none, some (.inr (.inl (7, p2))), some (.inl x3)] [] M K := by
  intro n
  induction n with
  | zero =>
    intro x3 M o h hk
    exact nomatch (show (none : Option ((Int32 × wc_M) ⊕ (wc_M))) = some o from h)
  | succ n ih =>
    intro x3 M o h hk
    unfold l_T_readLines_7_8 at h
    refine wg_blk 2 (i' := 10) (L' := [some (.inr (.inl (4, 0))), none, some (.inr (.inl (7, p2))), some (.inl x3)]) (st' := [.inl (4 : Int32), .inl x3]) (M' := M) rfl ?_
    refine wg_br (c := (4 : Int32) ≤ x3) (t := 34) (f := 11) (st' := []) rfl (fun hc => ?_) (fun hc => ?_)
    · rw [if_pos hc] at h
      obtain rfl := Option.some.inj h
      exact wg_wk (wk_n (wk_n (wk_n (wk_n wk_e)))) rfl hk
    · rw [if_neg hc] at h
      refine wg_blk 4 (i' := 15) (L' := [some (.inr (.inl (4, 0))), none, some (.inr (.inl (7, p2))), some (.inl x3)]) (st' := [.inl (31 : Int32), .inr (.inl (4, 0)), .inl x3, .inr (.inl (7, p2))]) (M' := M) rfl ?_
      obtain ⟨q4, h3, h⟩ := wbs h
      refine wg_ca (d' := 2) (y := 62) (as := [.inr (.inl (4, 0)), .inl (31 : Int32)]) (rest := [.inl x3, .inr (.inl (7, p2))]) (r := some q4.1) (M' := q4.2) rfl (Nat.le_of_ble_eq_true rfl) (s_T_readNumber (31 : Int32) M _ h3) ?_
      obtain ⟨hp5, h⟩ := wif h
      refine wg_ck (st' := []) (M' := (wc_up q4.2 7 p2 (x3).toNatClampNeg q4.1)) rfl (wib_in hp5) ?_
      refine wg_blk 2 (i' := 19) (L' := [some (.inr (.inl (4, 0))), none, some (.inr (.inl (7, p2))), some (.inl x3)]) (st' := [.inl x3, .inr (.inl (7, p2))]) (M' := (wc_up q4.2 7 p2 (x3).toNatClampNeg q4.1)) rfl ?_
      refine wg_ck (st' := [.inl ((wc_up q4.2 7 p2 (x3).toNatClampNeg q4.1) 7 p2 (x3).toNatClampNeg)]) (M' := (wc_up q4.2 7 p2 (x3).toNatClampNeg q4.1)) rfl (wib_in hp5) ?_
      refine wg_br (c := ((wc_up q4.2 7 p2 (x3).toNatClampNeg q4.1) 7 p2 (x3).toNatClampNeg) < (0 : Int32)) (t := 30) (f := 21) (st' := []) rfl (fun hc => ?_) (fun hc => ?_)
      · rw [if_pos hc] at h
        refine wg_blk 1 (i' := 31) (L' := [some (.inr (.inl (4, 0))), none, some (.inr (.inl (7, p2))), some (.inl x3)]) (st' := [.inl (0 : Int32)]) (M' := (wc_up q4.2 7 p2 (x3).toNatClampNeg q4.1)) rfl ?_
        obtain rfl := Option.some.inj h
        exact wg_re rfl (by decide) hk
      · rw [if_neg hc] at h
        refine wg_blk 3 (i' := 24) (L' := [some (.inr (.inl (4, 0))), none, some (.inr (.inl (7, p2))), some (.inl x3)]) (st' := [.inl (3 : Int32), .inl x3, .inr (.inl (4, 0))]) (M' := (wc_up q4.2 7 p2 (x3).toNatClampNeg q4.1)) rfl ?_
        obtain ⟨t6, h9, h⟩ := wbs h
        have k : wg 2 wx0 (some .boolean) wk_57 28 [some (.inr (.inl (4, 0))), none, some (.inr (.inl (7, p2))), some (.inl x3)] [.inl t6, .inr (.inl (4, 0))] (wc_up q4.2 7 p2 (x3).toNatClampNeg q4.1) K := by
          obtain ⟨q8, h7, h⟩ := wbs h
          refine wg_ca (d' := 2) (y := 61) (as := [.inr (.inl (4, 0)), .inl t6]) (rest := []) (r := some q8.1) (M' := q8.2) rfl (Nat.le_of_ble_eq_true rfl) (s_T_readByte t6 (wc_up q4.2 7 p2 (x3).toNatClampNeg q4.1) _ h7) ?_
          refine wg_br (c := q8.1 = (0 : Int32)) (t := 30) (f := 32) (st' := []) rfl (fun hc => ?_) (fun hc => ?_)
          · rw [if_pos hc] at h
            refine wg_blk 1 (i' := 31) (L' := [some (.inr (.inl (4, 0))), none, some (.inr (.inl (7, p2))), some (.inl x3)]) (st' := [.inl (0 : Int32)]) (M' := q8.2) rfl ?_
            obtain rfl := Option.some.inj h
            exact wg_re rfl (by decide) hk
          · rw [if_neg hc] at h
            refine wg_blk 2 (i' := 8) (L' := [some (.inr (.inl (4, 0))), none, some (.inr (.inl (7, p2))), some (.inl (x3 + (1 : Int32)))]) (st' := []) (M' := q8.2) rfl ?_
            exact wg_wk (wk_s (wk_n (wk_s (wk_s wk_e)))) rfl (ih (x3 + (1 : Int32)) q8.2 _ h hk)
        clear h
        have h := h9
        clear h9
        refine wg_br (c := (3 : Int32) ≤ x3) (t := 27) (f := 25) (st' := [.inr (.inl (4, 0))]) rfl (fun hc => ?_) (fun hc => ?_)
        · rw [if_pos hc] at h
          refine wg_blk 1 (i' := 28) (L' := [some (.inr (.inl (4, 0))), none, some (.inr (.inl (7, p2))), some (.inl x3)]) (st' := [.inl (59 : Int32), .inr (.inl (4, 0))]) (M' := (wc_up q4.2 7 p2 (x3).toNatClampNeg q4.1)) rfl ?_
          obtain rfl := Option.some.inj h
          exact wg_wk (wk_s (wk_n (wk_s (wk_s wk_e)))) rfl k
        · rw [if_neg hc] at h
          refine wg_blk 2 (i' := 28) (L' := [some (.inr (.inl (4, 0))), none, some (.inr (.inl (7, p2))), some (.inl x3)]) (st' := [.inl (44 : Int32), .inr (.inl (4, 0))]) (M' := (wc_up q4.2 7 p2 (x3).toNatClampNeg q4.1)) rfl ?_
          obtain rfl := Option.some.inj h
          exact wg_wk (wk_s (wk_n (wk_s (wk_s wk_e)))) rfl k
set_option maxRecDepth 20000 in
theorem s_T_readLines_7 (a1 : Int32) (p2 : Nat) (M : wc_M) (z : Int32 × wc_M) (h : f_T_readLines_7 a1 p2 M = some z) : wc_Sd 3 57 [.inr (.inl (4, 0)), .inl a1, .inr (.inl (7, p2))] M (some z.1) z.2 := by
  unfold f_T_readLines_7 at h
  refine wg_Sd (Nat.le_of_ble_eq_true rfl) ?_
  show wg 2 wx0 (some .boolean) wk_57 0 [some (.inr (.inl (4, 0))), some (.inl a1), some (.inr (.inl (7, p2))), none] [] M _
  refine wg_blk 2 (i' := 2) (L' := [some (.inr (.inl (4, 0))), some (.inl a1), some (.inr (.inl (7, p2))), none]) (st' := [.inl a1, .inr (.inl (4, 0))]) (M' := M) rfl ?_
  obtain ⟨q2, h1, h⟩ := wbs h
  refine wg_ca (d' := 2) (y := 61) (as := [.inr (.inl (4, 0)), .inl a1]) (rest := []) (r := some q2.1) (M' := q2.2) rfl (Nat.le_of_ble_eq_true rfl) (s_T_readByte a1 M _ h1) ?_
  refine wg_br (c := q2.1 = (0 : Int32)) (t := 4) (f := 6) (st' := []) rfl (fun hc => ?_) (fun hc => ?_)
  · rw [if_pos hc] at h
    refine wg_blk 1 (i' := 5) (L' := [some (.inr (.inl (4, 0))), some (.inl a1), some (.inr (.inl (7, p2))), none]) (st' := [.inl (0 : Int32)]) (M' := q2.2) rfl ?_
    obtain rfl := Option.some.inj h
    exact wg_re rfl (by decide) ⟨rfl, rfl⟩
  · rw [if_neg hc] at h
    refine wg_blk 2 (i' := 8) (L' := [some (.inr (.inl (4, 0))), some (.inl a1), some (.inr (.inl (7, p2))), some (.inl (0 : Int32))]) (st' := []) (M' := q2.2) rfl ?_
    obtain ⟨o12, h11, h⟩ := wbs h
    refine wg_wk (wk_s (wk_n (wk_s (wk_s wk_e)))) rfl (l_T_readLines_7_8_ok p2 2000 (0 : Int32) q2.2 _ h11 ?_)
    rcases o12 with r13 | t10
    · dsimp only [wel] at h ⊢
      obtain rfl := Option.some.inj h
      exact ⟨rfl, rfl⟩
    · dsimp only [wel] at h ⊢
      refine wg_blk 1 (i' := 35) (L' := [none, none, none, none]) (st' := [.inl (1 : Int32)]) (M' := t10) rfl ?_
      obtain rfl := Option.some.inj h
      exact wg_re rfl (by decide) ⟨rfl, rfl⟩
set_option maxRecDepth 20000 in
theorem l_T_readLines_8_8_ok (p2 : Nat) {K : Option Int32 → wc_M → Prop} : ∀ (n : Nat) (x3 : Int32) (M : wc_M) (o : (Int32 × wc_M) ⊕ (wc_M)), l_T_readLines_8_8 p2 n x3 M = some o → wel (fun r => K (some r.1) r.2) (fun t => wg 2 wx0 (some .boolean) wk_57 34 [none, none, none, none] [] t K) o → wg 2 wx0 (some .boolean) wk_57 8 [some (.inr (.inl (4, 0))), none, some (.inr (.inl (8, p2))), some (.inl x3)] [] M K := by
  intro n
  induction n with
  | zero =>
    intro x3 M o h hk
    exact nomatch (show (none : Option ((Int32 × wc_M) ⊕ (wc_M))) = some o from h)
  | succ n ih =>
    intro x3 M o h hk
    unfold l_T_readLines_8_8 at h
    refine wg_blk 2 (i' := 10) (L' := [some (.inr (.inl (4, 0))), none, some (.inr (.inl (8, p2))), some (.inl x3)]) (st' := [.inl (4 : Int32), .inl x3]) (M' := M) rfl ?_
    refine wg_br (c := (4 : Int32) ≤ x3) (t := 34) (f := 11) (st' := []) rfl (fun hc => ?_) (fun hc => ?_)
    · rw [if_pos hc] at h
      obtain rfl := Option.some.inj h
      exact wg_wk (wk_n (wk_n (wk_n (wk_n wk_e)))) rfl hk
    · rw [if_neg hc] at h
      refine wg_blk 4 (i' := 15) (L' := [some (.inr (.inl (4, 0))), none, some (.inr (.inl (8, p2))), some (.inl x3)]) (st' := [.inl (31 : Int32), .inr (.inl (4, 0)), .inl x3, .inr (.inl (8, p2))]) (M' := M) rfl ?_
      obtain ⟨q4, h3, h⟩ := wbs h
      refine wg_ca (d' := 2) (y := 62) (as := [.inr (.inl (4, 0)), .inl (31 : Int32)]) (rest := [.inl x3, .inr (.inl (8, p2))]) (r := some q4.1) (M' := q4.2) rfl (Nat.le_of_ble_eq_true rfl) (s_T_readNumber (31 : Int32) M _ h3) ?_
      obtain ⟨hp5, h⟩ := wif h
      refine wg_ck (st' := []) (M' := (wc_up q4.2 8 p2 (x3).toNatClampNeg q4.1)) rfl (wib_in hp5) ?_
      refine wg_blk 2 (i' := 19) (L' := [some (.inr (.inl (4, 0))), none, some (.inr (.inl (8, p2))), some (.inl x3)]) (st' := [.inl x3, .inr (.inl (8, p2))]) (M' := (wc_up q4.2 8 p2 (x3).toNatClampNeg q4.1)) rfl ?_
      refine wg_ck (st' := [.inl ((wc_up q4.2 8 p2 (x3).toNatClampNeg q4.1) 8 p2 (x3).toNatClampNeg)]) (M' := (wc_up q4.2 8 p2 (x3).toNatClampNeg q4.1)) rfl (wib_in hp5) ?_
      refine wg_br (c := ((wc_up q4.2 8 p2 (x3).toNatClampNeg q4.1) 8 p2 (x3).toNatClampNeg) < (0 : Int32)) (t := 30) (f := 21) (st' := []) rfl (fun hc => ?_) (fun hc => ?_)
      · rw [if_pos hc] at h
        refine wg_blk 1 (i' := 31) (L' := [some (.inr (.inl (4, 0))), none, some (.inr (.inl (8, p2))), some (.inl x3)]) (st' := [.inl (0 : Int32)]) (M' := (wc_up q4.2 8 p2 (x3).toNatClampNeg q4.1)) rfl ?_
        obtain rfl := Option.some.inj h
        exact wg_re rfl (by decide) hk
      · rw [if_neg hc] at h
        refine wg_blk 3 (i' := 24) (L' := [some (.inr (.inl (4, 0))), none, some (.inr (.inl (8, p2))), some (.inl x3)]) (st' := [.inl (3 : Int32), .inl x3, .inr (.inl (4, 0))]) (M' := (wc_up q4.2 8 p2 (x3).toNatClampNeg q4.1)) rfl ?_
        obtain ⟨t6, h9, h⟩ := wbs h
        have k : wg 2 wx0 (some .boolean) wk_57 28 [some (.inr (.inl (4, 0))), none, some (.inr (.inl (8, p2))), some (.inl x3)] [.inl t6, .inr (.inl (4, 0))] (wc_up q4.2 8 p2 (x3).toNatClampNeg q4.1) K := by
          obtain ⟨q8, h7, h⟩ := wbs h
          refine wg_ca (d' := 2) (y := 61) (as := [.inr (.inl (4, 0)), .inl t6]) (rest := []) (r := some q8.1) (M' := q8.2) rfl (Nat.le_of_ble_eq_true rfl) (s_T_readByte t6 (wc_up q4.2 8 p2 (x3).toNatClampNeg q4.1) _ h7) ?_
          refine wg_br (c := q8.1 = (0 : Int32)) (t := 30) (f := 32) (st' := []) rfl (fun hc => ?_) (fun hc => ?_)
          · rw [if_pos hc] at h
            refine wg_blk 1 (i' := 31) (L' := [some (.inr (.inl (4, 0))), none, some (.inr (.inl (8, p2))), some (.inl x3)]) (st' := [.inl (0 : Int32)]) (M' := q8.2) rfl ?_
            obtain rfl := Option.some.inj h
            exact wg_re rfl (by decide) hk
          · rw [if_neg hc] at h
            refine wg_blk 2 (i' := 8) (L' := [some (.inr (.inl (4, 0))), none, some (.inr (.inl (8, p2))), some (.inl (x3 + (1 : Int32)))]) (st' := []) (M' := q8.2) rfl ?_
            exact wg_wk (wk_s (wk_n (wk_s (wk_s wk_e)))) rfl (ih (x3 + (1 : Int32)) q8.2 _ h hk)
        clear h
        have h := h9
        clear h9
        refine wg_br (c := (3 : Int32) ≤ x3) (t := 27) (f := 25) (st' := [.inr (.inl (4, 0))]) rfl (fun hc => ?_) (fun hc => ?_)
        · rw [if_pos hc] at h
          refine wg_blk 1 (i' := 28) (L' := [some (.inr (.inl (4, 0))), none, some (.inr (.inl (8, p2))), some (.inl x3)]) (st' := [.inl (59 : Int32), .inr (.inl (4, 0))]) (M' := (wc_up q4.2 8 p2 (x3).toNatClampNeg q4.1)) rfl ?_
          obtain rfl := Option.some.inj h
          exact wg_wk (wk_s (wk_n (wk_s (wk_s wk_e)))) rfl k
        · rw [if_neg hc] at h
          refine wg_blk 2 (i' := 28) (L' := [some (.inr (.inl (4, 0))), none, some (.inr (.inl (8, p2))), some (.inl x3)]) (st' := [.inl (44 : Int32), .inr (.inl (4, 0))]) (M' := (wc_up q4.2 8 p2 (x3).toNatClampNeg q4.1)) rfl ?_
          obtain rfl := Option.some.inj h
          exact wg_wk (wk_s (wk_n (wk_s (wk_s wk_e)))) rfl k
set_option maxRecDepth 20000 in
theorem s_T_readLines_8 (a1 : Int32) (p2 : Nat) (M : wc_M) (z : Int32 × wc_M) (h : f_T_readLines_8 a1 p2 M = some z) : wc_Sd 3 57 [.inr (.inl (4, 0)), .inl a1, .inr (.inl (8, p2))] M (some z.1) z.2 := by
  unfold f_T_readLines_8 at h
  refine wg_Sd (Nat.le_of_ble_eq_true rfl) ?_
  show wg 2 wx0 (some .boolean) wk_57 0 [some (.inr (.inl (4, 0))), some (.inl a1), some (.inr (.inl (8, p2))), none] [] M _
  refine wg_blk 2 (i' := 2) (L' := [some (.inr (.inl (4, 0))), some (.inl a1), some (.inr (.inl (8, p2))), none]) (st' := [.inl a1, .inr (.inl (4, 0))]) (M' := M) rfl ?_
  obtain ⟨q2, h1, h⟩ := wbs h
  refine wg_ca (d' := 2) (y := 61) (as := [.inr (.inl (4, 0)), .inl a1]) (rest := []) (r := some q2.1) (M' := q2.2) rfl (Nat.le_of_ble_eq_true rfl) (s_T_readByte a1 M _ h1) ?_
  refine wg_br (c := q2.1 = (0 : Int32)) (t := 4) (f := 6) (st' := []) rfl (fun hc => ?_) (fun hc => ?_)
  · rw [if_pos hc] at h
    refine wg_blk 1 (i' := 5) (L' := [some (.inr (.inl (4, 0))), some (.inl a1), some (.inr (.inl (8, p2))), none]) (st' := [.inl (0 : Int32)]) (M' := q2.2) rfl ?_
    obtain rfl := Option.some.inj h
    exact wg_re rfl (by decide) ⟨rfl, rfl⟩
  · rw [if_neg hc] at h
    refine wg_blk 2 (i' := 8) (L' := [some (.inr (.inl (4, 0))), some (.inl a1), some (.inr (.inl (8, p2))), some (.inl (0 : Int32))]) (st' := []) (M' := q2.2) rfl ?_
    obtain ⟨o12, h11, h⟩ := wbs h
    refine wg_wk (wk_s (wk_n (wk_s (wk_s wk_e)))) rfl (l_T_readLines_8_8_ok p2 2000 (0 : Int32) q2.2 _ h11 ?_)
    rcases o12 with r13 | t10
    · dsimp only [wel] at h ⊢
      obtain rfl := Option.some.inj h
      exact ⟨rfl, rfl⟩
    · dsimp only [wel] at h ⊢
      refine wg_blk 1 (i' := 35) (L' := [none, none, none, none]) (st' := [.inl (1 : Int32)]) (M' := t10) rfl ?_
      obtain rfl := Option.some.inj h
      exact wg_re rfl (by decide) ⟨rfl, rfl⟩
set_option maxRecDepth 20000 in
theorem s_T_kindOf (a0 : Int32) (M : wc_M) (z : Int32) (h : f_T_kindOf a0 = z) : wc_Sd 1 60 [.inl a0] M (some z) M := by
  unfold f_T_kindOf at h
  refine wg_Sd (Nat.le_of_ble_eq_true rfl) ?_
  show wg 0 wx0 (some .int) wk_60 0 [some (.inl a0)] [] M _
  refine wg_blk 1 (i' := 1) (L' := [some (.inl a0)]) (st' := [.inl a0]) (M' := M) rfl ?_
  refine wg_sw (x := a0) (cs := [((104 : Int32), 8), ((110 : Int32), 4), ((115 : Int32), 6), ((118 : Int32), 10), ((119 : Int32), 2)]) (df := 12) (st' := []) rfl ?_ ?_
  · intro q hq he
    simp only [List.mem_cons, List.not_mem_nil, or_false] at hq
    rcases hq with rfl | rfl | rfl | rfl | rfl
    · dsimp only at he ⊢
      rw [if_pos he] at h
      refine wg_blk 1 (i' := 9) (L' := [some (.inl a0)]) (st' := [.inl (4 : Int32)]) (M' := M) rfl ?_
      subst h
      exact wg_re rfl trivial ⟨rfl, rfl⟩
    · dsimp only at he ⊢
      rw [if_neg (fun z => absurd (he.symm.trans z) (by decide))] at h
      rw [if_pos he] at h
      refine wg_blk 1 (i' := 5) (L' := [some (.inl a0)]) (st' := [.inl (2 : Int32)]) (M' := M) rfl ?_
      subst h
      exact wg_re rfl trivial ⟨rfl, rfl⟩
    · dsimp only at he ⊢
      rw [if_neg (fun z => absurd (he.symm.trans z) (by decide))] at h
      rw [if_neg (fun z => absurd (he.symm.trans z) (by decide))] at h
      rw [if_pos he] at h
      refine wg_blk 1 (i' := 7) (L' := [some (.inl a0)]) (st' := [.inl (3 : Int32)]) (M' := M) rfl ?_
      subst h
      exact wg_re rfl trivial ⟨rfl, rfl⟩
    · dsimp only at he ⊢
      rw [if_neg (fun z => absurd (he.symm.trans z) (by decide))] at h
      rw [if_neg (fun z => absurd (he.symm.trans z) (by decide))] at h
      rw [if_neg (fun z => absurd (he.symm.trans z) (by decide))] at h
      rw [if_pos he] at h
      refine wg_blk 1 (i' := 11) (L' := [some (.inl a0)]) (st' := [.inl (5 : Int32)]) (M' := M) rfl ?_
      subst h
      exact wg_re rfl trivial ⟨rfl, rfl⟩
    · dsimp only at he ⊢
      rw [if_neg (fun z => absurd (he.symm.trans z) (by decide))] at h
      rw [if_neg (fun z => absurd (he.symm.trans z) (by decide))] at h
      rw [if_neg (fun z => absurd (he.symm.trans z) (by decide))] at h
      rw [if_neg (fun z => absurd (he.symm.trans z) (by decide))] at h
      rw [if_pos he] at h
      refine wg_blk 1 (i' := 3) (L' := [some (.inl a0)]) (st' := [.inl (1 : Int32)]) (M' := M) rfl ?_
      subst h
      exact wg_re rfl trivial ⟨rfl, rfl⟩
  · intro hq
    rw [if_neg (hq ((104 : Int32), 8) (by simp))] at h
    rw [if_neg (hq ((110 : Int32), 4) (by simp))] at h
    rw [if_neg (hq ((115 : Int32), 6) (by simp))] at h
    rw [if_neg (hq ((118 : Int32), 10) (by simp))] at h
    rw [if_neg (hq ((119 : Int32), 2) (by simp))] at h
    refine wg_blk 1 (i' := 13) (L' := [some (.inl a0)]) (st' := [.inl (0 : Int32)]) (M' := M) rfl ?_
    subst h
    exact wg_re rfl trivial ⟨rfl, rfl⟩
set_option maxRecDepth 20000 in
theorem s_P_hasWork (p0 : Nat) (a1 : Int32) (M : wc_M) (z : Int32) (h : f_P_hasWork p0 a1 M = some z) : wc_Sd 1 69 [.inr (.inl (6, p0)), .inl a1] M (some z) M := by
  unfold f_P_hasWork at h
  refine wg_Sd (Nat.le_of_ble_eq_true rfl) ?_
  show wg 0 wx0 (some .boolean) wk_69 0 [some (.inr (.inl (6, p0))), some (.inl a1)] [] M _
  refine wg_blk 3 (i' := 3) (L' := [some (.inr (.inl (6, p0))), some (.inl a1)]) (st' := [.inl a1, .inr (.inl (9, p0))]) (M' := M) rfl ?_
  obtain ⟨hp1, h⟩ := wif h
  refine wg_ck (st' := [.inl (M 9 p0 (a1).toNatClampNeg)]) (M' := M) rfl (wib_in hp1) ?_
  refine wg_br (c := (M 9 p0 (a1).toNatClampNeg) = (0 : Int32)) (t := 7) (f := 5) (st' := []) rfl (fun hc => ?_) (fun hc => ?_)
  · rw [if_pos hc] at h
    refine wg_blk 1 (i' := 8) (L' := [some (.inr (.inl (6, p0))), some (.inl a1)]) (st' := [.inl (0 : Int32)]) (M' := M) rfl ?_
    obtain rfl := Option.some.inj h
    exact wg_re rfl (by decide) ⟨rfl, rfl⟩
  · rw [if_neg hc] at h
    refine wg_blk 2 (i' := 8) (L' := [some (.inr (.inl (6, p0))), some (.inl a1)]) (st' := [.inl (1 : Int32)]) (M' := M) rfl ?_
    obtain rfl := Option.some.inj h
    exact wg_re rfl (by decide) ⟨rfl, rfl⟩
set_option maxRecDepth 20000 in
theorem s_T_readWork (a1 : Int32) (p2 : Nat) (M : wc_M) (z : Int32 × wc_M) (h : f_T_readWork a1 p2 M = some z) : wc_Sd 3 59 [.inr (.inl (4, 0)), .inl a1, .inr (.inl (6, p2))] M (some z.1) z.2 := by
  unfold f_T_readWork at h
  refine wg_Sd (Nat.le_of_ble_eq_true rfl) ?_
  show wg 2 wx0 (some .boolean) wk_59 0 [some (.inr (.inl (4, 0))), some (.inl a1), some (.inr (.inl (6, p2))), none, none, none, none] [] M _
  refine wg_blk 2 (i' := 2) (L' := [some (.inr (.inl (4, 0))), some (.inl a1), some (.inr (.inl (6, p2))), none, none, none, none]) (st' := [.inl (3 : Int32), .inr (.inl (4, 0))]) (M' := M) rfl ?_
  obtain ⟨q2, h1, h⟩ := wbs h
  refine wg_ca (d' := 2) (y := 62) (as := [.inr (.inl (4, 0)), .inl (3 : Int32)]) (rest := []) (r := some q2.1) (M' := q2.2) rfl (Nat.le_of_ble_eq_true rfl) (s_T_readNumber (3 : Int32) M _ h1) ?_
  refine wg_blk 2 (i' := 5) (L' := [some (.inr (.inl (4, 0))), some (.inl a1), some (.inr (.inl (6, p2))), some (.inl q2.1), none, none, none]) (st' := [.inl q2.1]) (M' := q2.2) rfl ?_
  refine wg_br (c := q2.1 < (0 : Int32)) (t := 10) (f := 6) (st' := []) rfl (fun hc => ?_) (fun hc => ?_)
  · rw [if_pos hc] at h
    refine wg_blk 1 (i' := 11) (L' := [some (.inr (.inl (4, 0))), some (.inl a1), some (.inr (.inl (6, p2))), some (.inl q2.1), none, none, none]) (st' := [.inl (0 : Int32)]) (M' := q2.2) rfl ?_
    obtain rfl := Option.some.inj h
    exact wg_re rfl (by decide) ⟨rfl, rfl⟩
  · rw [if_neg hc] at h
    refine wg_blk 2 (i' := 8) (L' := [some (.inr (.inl (4, 0))), some (.inl a1), some (.inr (.inl (6, p2))), some (.inl q2.1), none, none, none]) (st' := [.inl (44 : Int32), .inr (.inl (4, 0))]) (M' := q2.2) rfl ?_
    obtain ⟨q4, h3, h⟩ := wbs h
    refine wg_ca (d' := 2) (y := 61) (as := [.inr (.inl (4, 0)), .inl (44 : Int32)]) (rest := []) (r := some q4.1) (M' := q4.2) rfl (Nat.le_of_ble_eq_true rfl) (s_T_readByte (44 : Int32) q2.2 _ h3) ?_
    refine wg_br (c := q4.1 = (0 : Int32)) (t := 10) (f := 12) (st' := []) rfl (fun hc => ?_) (fun hc => ?_)
    · rw [if_pos hc] at h
      refine wg_blk 1 (i' := 11) (L' := [some (.inr (.inl (4, 0))), some (.inl a1), some (.inr (.inl (6, p2))), some (.inl q2.1), none, none, none]) (st' := [.inl (0 : Int32)]) (M' := q4.2) rfl ?_
      obtain rfl := Option.some.inj h
      exact wg_re rfl (by decide) ⟨rfl, rfl⟩
    · rw [if_neg hc] at h
      refine wg_blk 5 (i' := 17) (L' := [some (.inr (.inl (4, 0))), some (.inl a1), some (.inr (.inl (6, p2))), some (.inl q2.1), some (.inl (q4.2 4 0 4)), none, none]) (st' := [.inl (3 : Int32), .inr (.inl (4, 0))]) (M' := q4.2) rfl ?_
      obtain ⟨q6, h5, h⟩ := wbs h
      refine wg_ca (d' := 2) (y := 62) (as := [.inr (.inl (4, 0)), .inl (3 : Int32)]) (rest := []) (r := some q6.1) (M' := q6.2) rfl (Nat.le_of_ble_eq_true rfl) (s_T_readNumber (3 : Int32) q4.2 _ h5) ?_
      refine wg_blk 2 (i' := 20) (L' := [some (.inr (.inl (4, 0))), some (.inl a1), some (.inr (.inl (6, p2))), some (.inl q2.1), some (.inl (q4.2 4 0 4)), some (.inl q6.1), none]) (st' := [.inl q6.1]) (M' := q6.2) rfl ?_
      refine wg_br (c := (0 : Int32) ≤ q6.1) (t := 23) (f := 21) (st' := []) rfl (fun hc => ?_) (fun hc => ?_)
      · rw [if_pos hc] at h
        refine wg_blk 6 (i' := 29) (L' := [some (.inr (.inl (4, 0))), some (.inl a1), some (.inr (.inl (6, p2))), some (.inl q2.1), some (.inl (q4.2 4 0 4)), some (.inl q6.1), none]) (st' := [.inl (((4 : Int32) * q2.1) + q6.1), .inr (.inl (6, p2))]) (M' := q6.2) rfl ?_
        obtain ⟨v8, h7, h⟩ := wbs h
        refine wg_ca (d' := 1) (y := 69) (as := [.inr (.inl (6, p2)), .inl (((4 : Int32) * q2.1) + q6.1)]) (rest := []) (r := some v8) (M' := q6.2) rfl (Nat.le_of_ble_eq_true rfl) (s_P_hasWork p2 (((4 : Int32) * q2.1) + q6.1) q6.2 _ h7) ?_
        refine wg_br (c := v8 = (0 : Int32)) (t := 36) (f := 31) (st' := []) rfl (fun hc => ?_) (fun hc => ?_)
        · rw [if_pos hc] at h
          refine wg_blk 2 (i' := 38) (L' := [some (.inr (.inl (4, 0))), some (.inl a1), some (.inr (.inl (6, p2))), some (.inl q2.1), some (.inl (q4.2 4 0 4)), some (.inl q6.1), none]) (st' := [.inl (44 : Int32), .inr (.inl (4, 0))]) (M' := q6.2) rfl ?_
          obtain ⟨q10, h9, h⟩ := wbs h
          refine wg_ca (d' := 2) (y := 61) (as := [.inr (.inl (4, 0)), .inl (44 : Int32)]) (rest := []) (r := some q10.1) (M' := q10.2) rfl (Nat.le_of_ble_eq_true rfl) (s_T_readByte (44 : Int32) q6.2 _ h9) ?_
          refine wg_br (c := q10.1 = (0 : Int32)) (t := 40) (f := 42) (st' := []) rfl (fun hc => ?_) (fun hc => ?_)
          · rw [if_pos hc] at h
            refine wg_blk 1 (i' := 41) (L' := [some (.inr (.inl (4, 0))), some (.inl a1), some (.inr (.inl (6, p2))), some (.inl q2.1), some (.inl (q4.2 4 0 4)), some (.inl q6.1), none]) (st' := [.inl (0 : Int32)]) (M' := q10.2) rfl ?_
            obtain rfl := Option.some.inj h
            exact wg_re rfl (by decide) ⟨rfl, rfl⟩
          · rw [if_neg hc] at h
            refine wg_blk 2 (i' := 44) (L' := [some (.inr (.inl (4, 0))), some (.inl a1), some (.inr (.inl (6, p2))), some (.inl q2.1), some (.inl (q4.2 4 0 4)), some (.inl q6.1), none]) (st' := [.inl (99 : Int32), .inr (.inl (4, 0))]) (M' := q10.2) rfl ?_
            obtain ⟨q12, h11, h⟩ := wbs h
            refine wg_ca (d' := 2) (y := 62) (as := [.inr (.inl (4, 0)), .inl (99 : Int32)]) (rest := []) (r := some q12.1) (M' := q12.2) rfl (Nat.le_of_ble_eq_true rfl) (s_T_readNumber (99 : Int32) q10.2 _ h11) ?_
            refine wg_blk 2 (i' := 47) (L' := [some (.inr (.inl (4, 0))), some (.inl a1), some (.inr (.inl (6, p2))), some (.inl q2.1), some (.inl (q4.2 4 0 4)), some (.inl q6.1), some (.inl q12.1)]) (st' := [.inl q12.1]) (M' := q12.2) rfl ?_
            refine wg_br (c := q12.1 < (0 : Int32)) (t := 52) (f := 48) (st' := []) rfl (fun hc => ?_) (fun hc => ?_)
            · rw [if_pos hc] at h
              refine wg_blk 1 (i' := 53) (L' := [some (.inr (.inl (4, 0))), some (.inl a1), some (.inr (.inl (6, p2))), some (.inl q2.1), some (.inl (q4.2 4 0 4)), some (.inl q6.1), some (.inl q12.1)]) (st' := [.inl (0 : Int32)]) (M' := q12.2) rfl ?_
              obtain rfl := Option.some.inj h
              exact wg_re rfl (by decide) ⟨rfl, rfl⟩
            · rw [if_neg hc] at h
              refine wg_blk 2 (i' := 50) (L' := [some (.inr (.inl (4, 0))), some (.inl a1), some (.inr (.inl (6, p2))), some (.inl q2.1), some (.inl (q4.2 4 0 4)), some (.inl q6.1), some (.inl q12.1)]) (st' := [.inl (59 : Int32), .inr (.inl (4, 0))]) (M' := q12.2) rfl ?_
              obtain ⟨q14, h13, h⟩ := wbs h
              refine wg_ca (d' := 2) (y := 61) (as := [.inr (.inl (4, 0)), .inl (59 : Int32)]) (rest := []) (r := some q14.1) (M' := q14.2) rfl (Nat.le_of_ble_eq_true rfl) (s_T_readByte (59 : Int32) q12.2 _ h13) ?_
              refine wg_br (c := q14.1 = (0 : Int32)) (t := 52) (f := 54) (st' := []) rfl (fun hc => ?_) (fun hc => ?_)
              · rw [if_pos hc] at h
                refine wg_blk 1 (i' := 53) (L' := [some (.inr (.inl (4, 0))), some (.inl a1), some (.inr (.inl (6, p2))), some (.inl q2.1), some (.inl (q4.2 4 0 4)), some (.inl q6.1), some (.inl q12.1)]) (st' := [.inl (0 : Int32)]) (M' := q14.2) rfl ?_
                obtain rfl := Option.some.inj h
                exact wg_re rfl (by decide) ⟨rfl, rfl⟩
              · rw [if_neg hc] at h
                refine wg_blk 8 (i' := 62) (L' := [some (.inr (.inl (4, 0))), some (.inl a1), some (.inr (.inl (6, p2))), some (.inl q2.1), some (.inl (q4.2 4 0 4)), some (.inl q6.1), some (.inl q12.1)]) (st' := [.inl q12.1, .inl a1, .inl (((4 : Int32) * q2.1) + q6.1), .inr (.inl (6, p2))]) (M' := q14.2) rfl ?_
                obtain ⟨m16, h15, h⟩ := wbs h
                refine wg_ca (d' := 1) (y := 67) (as := [.inr (.inl (6, p2)), .inl (((4 : Int32) * q2.1) + q6.1), .inl a1, .inl q12.1]) (rest := []) (r := none) (M' := m16) rfl (Nat.le_of_ble_eq_true rfl) (s_P_put p2 (((4 : Int32) * q2.1) + q6.1) a1 q12.1 q14.2 _ h15) ?_
                refine wg_blk 1 (i' := 64) (L' := [some (.inr (.inl (4, 0))), some (.inl a1), some (.inr (.inl (6, p2))), some (.inl q2.1), some (.inl (q4.2 4 0 4)), some (.inl q6.1), some (.inl q12.1)]) (st' := [.inl (1 : Int32)]) (M' := m16) rfl ?_
                obtain rfl := Option.some.inj h
                exact wg_re rfl (by decide) ⟨rfl, rfl⟩
        · rw [if_neg hc] at h
          refine wg_blk 3 (i' := 34) (L' := [some (.inr (.inl (4, 0))), some (.inl a1), some (.inr (.inl (6, p2))), some (.inl q2.1), some (.inl (q4.2 4 0 4)), some (.inl q6.1), none]) (st' := [.inl (q4.2 4 0 4), .inl (2 : Int32), .inr (.inl (4, 0))]) (M' := q6.2) rfl ?_
          obtain ⟨q18, h17, h⟩ := wbs h
          refine wg_ca (d' := 1) (y := 64) (as := [.inr (.inl (4, 0)), .inl (2 : Int32), .inl (q4.2 4 0 4)]) (rest := []) (r := some q18.1) (M' := q18.2) rfl (Nat.le_of_ble_eq_true rfl) (s_T_fail (2 : Int32) (q4.2 4 0 4) q6.2 _ h17) ?_
          obtain ⟨hz, h⟩ := wif h
          obtain rfl := Option.some.inj h
          exact wg_re rfl (wzb_in hz) ⟨rfl, rfl⟩
      · rw [if_neg hc] at h
        refine wg_blk 1 (i' := 22) (L' := [some (.inr (.inl (4, 0))), some (.inl a1), some (.inr (.inl (6, p2))), some (.inl q2.1), some (.inl (q4.2 4 0 4)), some (.inl q6.1), none]) (st' := [.inl (0 : Int32)]) (M' := q6.2) rfl ?_
        obtain rfl := Option.some.inj h
        exact wg_re rfl (by decide) ⟨rfl, rfl⟩
set_option maxRecDepth 20000 in
theorem l_T_readWorks_2_ok (p1 : Nat) {K : Option Int32 → wc_M → Prop} : ∀ (n : Nat) (x2 : Int32) (M : wc_M) (o : (Int32 × wc_M) ⊕ (wc_M)), l_T_readWorks_2 p1 n x2 M = some o → wel (fun r => K (some r.1) r.2) (fun t => wg 3 wx0 (some .boolean) wk_58 49 [none, none, none, none] [] t K) o → wg 3 wx0 (some .boolean) wk_58 2 [some (.inr (.inl (4, 0))), some (.inr (.inl (6, p1))), some (.inl x2), none] [] M K := by
  intro n
  induction n with
  | zero =>
    intro x2 M o h hk
    exact nomatch (show (none : Option ((Int32 × wc_M) ⊕ (wc_M))) = some o from h)
  | succ n ih =>
    intro x2 M o h hk
    unfold l_T_readWorks_2 at h
    refine wg_blk 2 (i' := 4) (L' := [some (.inr (.inl (4, 0))), some (.inr (.inl (6, p1))), some (.inl x2), none]) (st' := [.inl (6 : Int32), .inl x2]) (M' := M) rfl ?_
    refine wg_br (c := (6 : Int32) < x2) (t := 49) (f := 5) (st' := []) rfl (fun hc => ?_) (fun hc => ?_)
    · rw [if_pos hc] at h
      obtain rfl := Option.some.inj h
      exact wg_wk (wk_n (wk_n (wk_n (wk_n wk_e)))) rfl hk
    · rw [if_neg hc] at h
      refine wg_blk 4 (i' := 9) (L' := [some (.inr (.inl (4, 0))), some (.inr (.inl (6, p1))), some (.inl x2), none]) (st' := [.inl (M 4 0 1), .inl (M 4 0 4)]) (M' := M) rfl ?_
      refine wg_br (c := (M 4 0 1) ≤ (M 4 0 4)) (t := 49) (f := 10) (st' := []) rfl (fun hc => ?_) (fun hc => ?_)
      · rw [if_pos hc] at h
        obtain rfl := Option.some.inj h
        exact wg_wk (wk_n (wk_n (wk_n (wk_n wk_e)))) rfl hk
      · rw [if_neg hc] at h
        refine wg_blk 4 (i' := 14) (L' := [some (.inr (.inl (4, 0))), some (.inr (.inl (6, p1))), some (.inl x2), none]) (st' := [.inl (M 4 0 4), .inr (.inl (5, 0))]) (M' := M) rfl ?_
        obtain ⟨hp1, h⟩ := wif h
        refine wg_ck (st' := [.inl (M 5 0 ((M 4 0 4)).toNatClampNeg)]) (M' := M) rfl (wib_in hp1) ?_
        refine wg_ca (d' := 1) (y := 60) (as := [.inl (M 5 0 ((M 4 0 4)).toNatClampNeg)]) (rest := []) (r := some (f_T_kindOf (M 5 0 ((M 4 0 4)).toNatClampNeg))) (M' := M) rfl (Nat.le_of_ble_eq_true rfl) (s_T_kindOf (M 5 0 ((M 4 0 4)).toNatClampNeg) M _ rfl) ?_
        refine wg_blk 2 (i' := 18) (L' := [some (.inr (.inl (4, 0))), some (.inr (.inl (6, p1))), some (.inl x2), some (.inl (f_T_kindOf (M 5 0 ((M 4 0 4)).toNatClampNeg)))]) (st' := [.inl (f_T_kindOf (M 5 0 ((M 4 0 4)).toNatClampNeg))]) (M' := M) rfl ?_
        refine wg_br (c := (f_T_kindOf (M 5 0 ((M 4 0 4)).toNatClampNeg)) = (0 : Int32)) (t := 19) (f := 25) (st' := []) rfl (fun hc => ?_) (fun hc => ?_)
        · rw [if_pos hc] at h
          refine wg_blk 4 (i' := 23) (L' := [some (.inr (.inl (4, 0))), some (.inr (.inl (6, p1))), some (.inl x2), some (.inl (f_T_kindOf (M 5 0 ((M 4 0 4)).toNatClampNeg)))]) (st' := [.inl (M 4 0 4), .inl (1 : Int32), .inr (.inl (4, 0))]) (M' := M) rfl ?_
          obtain ⟨q3, h2, h⟩ := wbs h
          refine wg_ca (d' := 1) (y := 64) (as := [.inr (.inl (4, 0)), .inl (1 : Int32), .inl (M 4 0 4)]) (rest := []) (r := some q3.1) (M' := q3.2) rfl (Nat.le_of_ble_eq_true rfl) (s_T_fail (1 : Int32) (M 4 0 4) M _ h2) ?_
          obtain ⟨hz, h⟩ := wif h
          obtain rfl := Option.some.inj h
          exact wg_re rfl (wzb_in hz) hk
        · rw [if_neg hc] at h
          refine wg_blk 2 (i' := 27) (L' := [some (.inr (.inl (4, 0))), some (.inr (.inl (6, p1))), some (.inl x2), some (.inl (f_T_kindOf (M 5 0 ((M 4 0 4)).toNatClampNeg)))]) (st' := [.inl (6 : Int32), .inl x2]) (M' := M) rfl ?_
          refine wg_br (c := x2 = (6 : Int32)) (t := 28) (f := 34) (st' := []) rfl (fun hc => ?_) (fun hc => ?_)
          · rw [if_pos hc] at h
            refine wg_blk 4 (i' := 32) (L' := [some (.inr (.inl (4, 0))), some (.inr (.inl (6, p1))), some (.inl x2), some (.inl (f_T_kindOf (M 5 0 ((M 4 0 4)).toNatClampNeg)))]) (st' := [.inl (M 4 0 4), .inl (3 : Int32), .inr (.inl (4, 0))]) (M' := M) rfl ?_
            obtain ⟨q5, h4, h⟩ := wbs h
            refine wg_ca (d' := 1) (y := 64) (as := [.inr (.inl (4, 0)), .inl (3 : Int32), .inl (M 4 0 4)]) (rest := []) (r := some q5.1) (M' := q5.2) rfl (Nat.le_of_ble_eq_true rfl) (s_T_fail (3 : Int32) (M 4 0 4) M _ h4) ?_
            obtain ⟨hz, h⟩ := wif h
            obtain rfl := Option.some.inj h
            exact wg_re rfl (wzb_in hz) hk
          · rw [if_neg hc] at h
            refine wg_blk 9 (i' := 43) (L' := [some (.inr (.inl (4, 0))), some (.inr (.inl (6, p1))), some (.inl x2), some (.inl (f_T_kindOf (M 5 0 ((M 4 0 4)).toNatClampNeg)))]) (st' := [.inr (.inl (6, p1)), .inl (f_T_kindOf (M 5 0 ((M 4 0 4)).toNatClampNeg)), .inr (.inl (4, 0))]) (M' := (wc_up M 4 0 4 ((M 4 0 4) + (1 : Int32)))) rfl ?_
            obtain ⟨q7, h6, h⟩ := wbs h
            refine wg_ca (d' := 3) (y := 59) (as := [.inr (.inl (4, 0)), .inl (f_T_kindOf (M 5 0 ((M 4 0 4)).toNatClampNeg)), .inr (.inl (6, p1))]) (rest := []) (r := some q7.1) (M' := q7.2) rfl (Nat.le_of_ble_eq_true rfl) (s_T_readWork (f_T_kindOf (M 5 0 ((M 4 0 4)).toNatClampNeg)) p1 (wc_up M 4 0 4 ((M 4 0 4) + (1 : Int32))) _ h6) ?_
            refine wg_br (c := q7.1 = (0 : Int32)) (t := 45) (f := 47) (st' := []) rfl (fun hc => ?_) (fun hc => ?_)
            · rw [if_pos hc] at h
              refine wg_blk 1 (i' := 46) (L' := [some (.inr (.inl (4, 0))), some (.inr (.inl (6, p1))), some (.inl x2), some (.inl (f_T_kindOf (M 5 0 ((M 4 0 4)).toNatClampNeg)))]) (st' := [.inl (0 : Int32)]) (M' := q7.2) rfl ?_
              obtain rfl := Option.some.inj h
              exact wg_re rfl (by decide) hk
            · rw [if_neg hc] at h
              refine wg_blk 2 (i' := 2) (L' := [some (.inr (.inl (4, 0))), some (.inr (.inl (6, p1))), some (.inl (x2 + (1 : Int32))), some (.inl (f_T_kindOf (M 5 0 ((M 4 0 4)).toNatClampNeg)))]) (st' := []) (M' := q7.2) rfl ?_
              exact wg_wk (wk_s (wk_s (wk_s (wk_n wk_e)))) rfl (ih (x2 + (1 : Int32)) q7.2 _ h hk)
set_option maxRecDepth 20000 in
theorem s_T_readWorks (p1 : Nat) (M : wc_M) (z : Int32 × wc_M) (h : f_T_readWorks p1 M = some z) : wc_Sd 4 58 [.inr (.inl (4, 0)), .inr (.inl (6, p1))] M (some z.1) z.2 := by
  unfold f_T_readWorks at h
  refine wg_Sd (Nat.le_of_ble_eq_true rfl) ?_
  show wg 3 wx0 (some .boolean) wk_58 0 [some (.inr (.inl (4, 0))), some (.inr (.inl (6, p1))), none, none] [] M _
  refine wg_blk 2 (i' := 2) (L' := [some (.inr (.inl (4, 0))), some (.inr (.inl (6, p1))), some (.inl (0 : Int32)), none]) (st' := []) (M' := M) rfl ?_
  obtain ⟨o10, h9, h⟩ := wbs h
  refine wg_wk (wk_s (wk_s (wk_s (wk_n wk_e)))) rfl (l_T_readWorks_2_ok p1 2000 (0 : Int32) M _ h9 ?_)
  rcases o10 with r11 | t8
  · dsimp only [wel] at h ⊢
    obtain rfl := Option.some.inj h
    exact ⟨rfl, rfl⟩
  · dsimp only [wel] at h ⊢
    refine wg_blk 1 (i' := 50) (L' := [none, none, none, none]) (st' := [.inl (1 : Int32)]) (M' := t8) rfl ?_
    obtain rfl := Option.some.inj h
    exact wg_re rfl (by decide) ⟨rfl, rfl⟩
set_option maxRecDepth 20000 in
theorem s_T_read (p1 : Nat) (M : wc_M) (z : Int32 × wc_M) (h : f_T_read p1 M = some z) : wc_Sd 5 56 [.inr (.inl (4, 0)), .inr (.inl (6, p1))] M (some z.1) z.2 := by
  unfold f_T_read at h
  refine wg_Sd (Nat.le_of_ble_eq_true rfl) ?_
  show wg 4 wx0 (some .boolean) wk_56 0 [some (.inr (.inl (4, 0))), some (.inr (.inl (6, p1)))] [] M _
  refine wg_blk 4 (i' := 4) (L' := [some (.inr (.inl (4, 0))), some (.inr (.inl (6, p1)))]) (st' := [.inr (.inl (6, p1))]) (M' := (wc_up M 4 0 4 (0 : Int32))) rfl ?_
  obtain ⟨m2, h1, h⟩ := wbs h
  refine wg_ca (d' := 3) (y := 66) (as := [.inr (.inl (6, p1))]) (rest := []) (r := none) (M' := m2) rfl (Nat.le_of_ble_eq_true rfl) (s_P_begin p1 (wc_up M 4 0 4 (0 : Int32)) _ h1) ?_
  refine wg_blk 4 (i' := 9) (L' := [some (.inr (.inl (4, 0))), some (.inr (.inl (6, p1)))]) (st' := [.inr (.inl (7, p1)), .inl (97 : Int32), .inr (.inl (4, 0))]) (M' := m2) rfl ?_
  obtain ⟨q4, h3, h⟩ := wbs h
  refine wg_ca (d' := 3) (y := 57) (as := [.inr (.inl (4, 0)), .inl (97 : Int32), .inr (.inl (7, p1))]) (rest := []) (r := some q4.1) (M' := q4.2) rfl (Nat.le_of_ble_eq_true rfl) (s_T_readLines_7 (97 : Int32) p1 m2 _ h3) ?_
  refine wg_br (c := q4.1 = (0 : Int32)) (t := 23) (f := 11) (st' := []) rfl (fun hc => ?_) (fun hc => ?_)
  · rw [if_pos hc] at h
    refine wg_blk 1 (i' := 24) (L' := [some (.inr (.inl (4, 0))), some (.inr (.inl (6, p1)))]) (st' := [.inl (0 : Int32)]) (M' := q4.2) rfl ?_
    obtain rfl := Option.some.inj h
    exact wg_re rfl (by decide) ⟨rfl, rfl⟩
  · rw [if_neg hc] at h
    refine wg_blk 4 (i' := 15) (L' := [some (.inr (.inl (4, 0))), some (.inr (.inl (6, p1)))]) (st' := [.inr (.inl (8, p1)), .inl (98 : Int32), .inr (.inl (4, 0))]) (M' := q4.2) rfl ?_
    obtain ⟨q6, h5, h⟩ := wbs h
    refine wg_ca (d' := 3) (y := 57) (as := [.inr (.inl (4, 0)), .inl (98 : Int32), .inr (.inl (8, p1))]) (rest := []) (r := some q6.1) (M' := q6.2) rfl (Nat.le_of_ble_eq_true rfl) (s_T_readLines_8 (98 : Int32) p1 q4.2 _ h5) ?_
    refine wg_br (c := q6.1 = (0 : Int32)) (t := 23) (f := 17) (st' := []) rfl (fun hc => ?_) (fun hc => ?_)
    · rw [if_pos hc] at h
      refine wg_blk 1 (i' := 24) (L' := [some (.inr (.inl (4, 0))), some (.inr (.inl (6, p1)))]) (st' := [.inl (0 : Int32)]) (M' := q6.2) rfl ?_
      obtain rfl := Option.some.inj h
      exact wg_re rfl (by decide) ⟨rfl, rfl⟩
    · rw [if_neg hc] at h
      refine wg_blk 2 (i' := 19) (L' := [some (.inr (.inl (4, 0))), some (.inr (.inl (6, p1)))]) (st' := [.inr (.inl (6, p1)), .inr (.inl (4, 0))]) (M' := q6.2) rfl ?_
      obtain ⟨q8, h7, h⟩ := wbs h
      refine wg_ca (d' := 4) (y := 58) (as := [.inr (.inl (4, 0)), .inr (.inl (6, p1))]) (rest := []) (r := some q8.1) (M' := q8.2) rfl (Nat.le_of_ble_eq_true rfl) (s_T_readWorks p1 q6.2 _ h7) ?_
      refine wg_br (c := q8.1 = (0 : Int32)) (t := 23) (f := 21) (st' := []) rfl (fun hc => ?_) (fun hc => ?_)
      · rw [if_pos hc] at h
        refine wg_blk 1 (i' := 24) (L' := [some (.inr (.inl (4, 0))), some (.inr (.inl (6, p1)))]) (st' := [.inl (0 : Int32)]) (M' := q8.2) rfl ?_
        obtain rfl := Option.some.inj h
        exact wg_re rfl (by decide) ⟨rfl, rfl⟩
      · rw [if_neg hc] at h
        refine wg_blk 2 (i' := 24) (L' := [some (.inr (.inl (4, 0))), some (.inr (.inl (6, p1)))]) (st' := [.inl (1 : Int32)]) (M' := q8.2) rfl ?_
        obtain rfl := Option.some.inj h
        exact wg_re rfl (by decide) ⟨rfl, rfl⟩
set_option maxRecDepth 20000 in
theorem s_P_become (p0 : Nat) (p1 : Nat) (M : wc_M) (z : wc_M) (h : f_P_become p0 p1 M = some z) : wc_Sd 1 65 [.inr (.inl (6, p0)), .inr (.inl (6, p1))] M none z := by
  unfold f_P_become at h
  refine wg_Sd (Nat.le_of_ble_eq_true rfl) ?_
  show wg 0 wx0 none wk_65 0 [some (.inr (.inl (6, p0))), some (.inr (.inl (6, p1)))] [] M _
  refine wg_blk 7 (i' := 7) (L' := [some (.inr (.inl (6, p0))), some (.inr (.inl (6, p1)))]) (st' := [.inl (4 : Int32), .inl (0 : Int32), .inr (.inl (7, p0)), .inl (0 : Int32), .inr (.inl (7, p1))]) (M' := M) rfl ?_
  refine wg_ck (st' := []) (M' := (wc_cp M 7 p1 7 p0 ((0 : Int32)).toNatClampNeg ((0 : Int32)).toNatClampNeg ((4 : Int32)).toNatClampNeg)) rfl (by decide) ?_
  refine wg_blk 7 (i' := 15) (L' := [some (.inr (.inl (6, p0))), some (.inr (.inl (6, p1)))]) (st' := [.inl (4 : Int32), .inl (0 : Int32), .inr (.inl (8, p0)), .inl (0 : Int32), .inr (.inl (8, p1))]) (M' := (wc_cp M 7 p1 7 p0 ((0 : Int32)).toNatClampNeg ((0 : Int32)).toNatClampNeg ((4 : Int32)).toNatClampNeg)) rfl ?_
  refine wg_ck (st' := []) (M' := (wc_cp (wc_cp M 7 p1 7 p0 ((0 : Int32)).toNatClampNeg ((0 : Int32)).toNatClampNeg ((4 : Int32)).toNatClampNeg) 8 p1 8 p0 ((0 : Int32)).toNatClampNeg ((0 : Int32)).toNatClampNeg ((4 : Int32)).toNatClampNeg)) rfl (by decide) ?_
  refine wg_blk 7 (i' := 23) (L' := [some (.inr (.inl (6, p0))), some (.inr (.inl (6, p1)))]) (st' := [.inl (16 : Int32), .inl (0 : Int32), .inr (.inl (9, p0)), .inl (0 : Int32), .inr (.inl (9, p1))]) (M' := (wc_cp (wc_cp M 7 p1 7 p0 ((0 : Int32)).toNatClampNeg ((0 : Int32)).toNatClampNeg ((4 : Int32)).toNatClampNeg) 8 p1 8 p0 ((0 : Int32)).toNatClampNeg ((0 : Int32)).toNatClampNeg ((4 : Int32)).toNatClampNeg)) rfl ?_
  refine wg_ck (st' := []) (M' := (wc_cp (wc_cp (wc_cp M 7 p1 7 p0 ((0 : Int32)).toNatClampNeg ((0 : Int32)).toNatClampNeg ((4 : Int32)).toNatClampNeg) 8 p1 8 p0 ((0 : Int32)).toNatClampNeg ((0 : Int32)).toNatClampNeg ((4 : Int32)).toNatClampNeg) 9 p1 9 p0 ((0 : Int32)).toNatClampNeg ((0 : Int32)).toNatClampNeg ((16 : Int32)).toNatClampNeg)) rfl (by decide) ?_
  refine wg_blk 7 (i' := 31) (L' := [some (.inr (.inl (6, p0))), some (.inr (.inl (6, p1)))]) (st' := [.inl (16 : Int32), .inl (0 : Int32), .inr (.inl (10, p0)), .inl (0 : Int32), .inr (.inl (10, p1))]) (M' := (wc_cp (wc_cp (wc_cp M 7 p1 7 p0 ((0 : Int32)).toNatClampNeg ((0 : Int32)).toNatClampNeg ((4 : Int32)).toNatClampNeg) 8 p1 8 p0 ((0 : Int32)).toNatClampNeg ((0 : Int32)).toNatClampNeg ((4 : Int32)).toNatClampNeg) 9 p1 9 p0 ((0 : Int32)).toNatClampNeg ((0 : Int32)).toNatClampNeg ((16 : Int32)).toNatClampNeg)) rfl ?_
  refine wg_ck (st' := []) (M' := (wc_cp (wc_cp (wc_cp (wc_cp M 7 p1 7 p0 ((0 : Int32)).toNatClampNeg ((0 : Int32)).toNatClampNeg ((4 : Int32)).toNatClampNeg) 8 p1 8 p0 ((0 : Int32)).toNatClampNeg ((0 : Int32)).toNatClampNeg ((4 : Int32)).toNatClampNeg) 9 p1 9 p0 ((0 : Int32)).toNatClampNeg ((0 : Int32)).toNatClampNeg ((16 : Int32)).toNatClampNeg) 10 p1 10 p0 ((0 : Int32)).toNatClampNeg ((0 : Int32)).toNatClampNeg ((16 : Int32)).toNatClampNeg)) rfl (by decide) ?_
  refine wg_blk 7 (i' := 39) (L' := [some (.inr (.inl (6, p0))), some (.inr (.inl (6, p1)))]) (st' := [.inl (16 : Int32), .inl (0 : Int32), .inr (.inl (11, p0)), .inl (0 : Int32), .inr (.inl (11, p1))]) (M' := (wc_cp (wc_cp (wc_cp (wc_cp M 7 p1 7 p0 ((0 : Int32)).toNatClampNeg ((0 : Int32)).toNatClampNeg ((4 : Int32)).toNatClampNeg) 8 p1 8 p0 ((0 : Int32)).toNatClampNeg ((0 : Int32)).toNatClampNeg ((4 : Int32)).toNatClampNeg) 9 p1 9 p0 ((0 : Int32)).toNatClampNeg ((0 : Int32)).toNatClampNeg ((16 : Int32)).toNatClampNeg) 10 p1 10 p0 ((0 : Int32)).toNatClampNeg ((0 : Int32)).toNatClampNeg ((16 : Int32)).toNatClampNeg)) rfl ?_
  refine wg_ck (st' := []) (M' := (wc_cp (wc_cp (wc_cp (wc_cp (wc_cp M 7 p1 7 p0 ((0 : Int32)).toNatClampNeg ((0 : Int32)).toNatClampNeg ((4 : Int32)).toNatClampNeg) 8 p1 8 p0 ((0 : Int32)).toNatClampNeg ((0 : Int32)).toNatClampNeg ((4 : Int32)).toNatClampNeg) 9 p1 9 p0 ((0 : Int32)).toNatClampNeg ((0 : Int32)).toNatClampNeg ((16 : Int32)).toNatClampNeg) 10 p1 10 p0 ((0 : Int32)).toNatClampNeg ((0 : Int32)).toNatClampNeg ((16 : Int32)).toNatClampNeg) 11 p1 11 p0 ((0 : Int32)).toNatClampNeg ((0 : Int32)).toNatClampNeg ((16 : Int32)).toNatClampNeg)) rfl (by decide) ?_
  refine wg_blk 3 (i' := 43) (L' := [some (.inr (.inl (6, p0))), some (.inr (.inl (6, p1)))]) (st' := [.inl ((wc_cp (wc_cp (wc_cp (wc_cp (wc_cp M 7 p1 7 p0 ((0 : Int32)).toNatClampNeg ((0 : Int32)).toNatClampNeg ((4 : Int32)).toNatClampNeg) 8 p1 8 p0 ((0 : Int32)).toNatClampNeg ((0 : Int32)).toNatClampNeg ((4 : Int32)).toNatClampNeg) 9 p1 9 p0 ((0 : Int32)).toNatClampNeg ((0 : Int32)).toNatClampNeg ((16 : Int32)).toNatClampNeg) 10 p1 10 p0 ((0 : Int32)).toNatClampNeg ((0 : Int32)).toNatClampNeg ((16 : Int32)).toNatClampNeg) 11 p1 11 p0 ((0 : Int32)).toNatClampNeg ((0 : Int32)).toNatClampNeg ((16 : Int32)).toNatClampNeg) 6 p1 5), .inr (.inl (6, p0))]) (M' := (wc_cp (wc_cp (wc_cp (wc_cp (wc_cp M 7 p1 7 p0 ((0 : Int32)).toNatClampNeg ((0 : Int32)).toNatClampNeg ((4 : Int32)).toNatClampNeg) 8 p1 8 p0 ((0 : Int32)).toNatClampNeg ((0 : Int32)).toNatClampNeg ((4 : Int32)).toNatClampNeg) 9 p1 9 p0 ((0 : Int32)).toNatClampNeg ((0 : Int32)).toNatClampNeg ((16 : Int32)).toNatClampNeg) 10 p1 10 p0 ((0 : Int32)).toNatClampNeg ((0 : Int32)).toNatClampNeg ((16 : Int32)).toNatClampNeg) 11 p1 11 p0 ((0 : Int32)).toNatClampNeg ((0 : Int32)).toNatClampNeg ((16 : Int32)).toNatClampNeg)) rfl ?_
  obtain ⟨hp1, h⟩ := wif h
  refine wg_ck (st' := []) (M' := (wc_up (wc_cp (wc_cp (wc_cp (wc_cp (wc_cp M 7 p1 7 p0 ((0 : Int32)).toNatClampNeg ((0 : Int32)).toNatClampNeg ((4 : Int32)).toNatClampNeg) 8 p1 8 p0 ((0 : Int32)).toNatClampNeg ((0 : Int32)).toNatClampNeg ((4 : Int32)).toNatClampNeg) 9 p1 9 p0 ((0 : Int32)).toNatClampNeg ((0 : Int32)).toNatClampNeg ((16 : Int32)).toNatClampNeg) 10 p1 10 p0 ((0 : Int32)).toNatClampNeg ((0 : Int32)).toNatClampNeg ((16 : Int32)).toNatClampNeg) 11 p1 11 p0 ((0 : Int32)).toNatClampNeg ((0 : Int32)).toNatClampNeg ((16 : Int32)).toNatClampNeg) 6 p0 5 ((wc_cp (wc_cp (wc_cp (wc_cp (wc_cp M 7 p1 7 p0 ((0 : Int32)).toNatClampNeg ((0 : Int32)).toNatClampNeg ((4 : Int32)).toNatClampNeg) 8 p1 8 p0 ((0 : Int32)).toNatClampNeg ((0 : Int32)).toNatClampNeg ((4 : Int32)).toNatClampNeg) 9 p1 9 p0 ((0 : Int32)).toNatClampNeg ((0 : Int32)).toNatClampNeg ((16 : Int32)).toNatClampNeg) 10 p1 10 p0 ((0 : Int32)).toNatClampNeg ((0 : Int32)).toNatClampNeg ((16 : Int32)).toNatClampNeg) 11 p1 11 p0 ((0 : Int32)).toNatClampNeg ((0 : Int32)).toNatClampNeg ((16 : Int32)).toNatClampNeg) 6 p1 5))) rfl (wzb_in hp1) ?_
  refine wg_blk 4 (i' := 48) (L' := [some (.inr (.inl (6, p0))), some (.inr (.inl (6, p1)))]) (st' := []) (M' := (wc_up (wc_up (wc_cp (wc_cp (wc_cp (wc_cp (wc_cp M 7 p1 7 p0 ((0 : Int32)).toNatClampNeg ((0 : Int32)).toNatClampNeg ((4 : Int32)).toNatClampNeg) 8 p1 8 p0 ((0 : Int32)).toNatClampNeg ((0 : Int32)).toNatClampNeg ((4 : Int32)).toNatClampNeg) 9 p1 9 p0 ((0 : Int32)).toNatClampNeg ((0 : Int32)).toNatClampNeg ((16 : Int32)).toNatClampNeg) 10 p1 10 p0 ((0 : Int32)).toNatClampNeg ((0 : Int32)).toNatClampNeg ((16 : Int32)).toNatClampNeg) 11 p1 11 p0 ((0 : Int32)).toNatClampNeg ((0 : Int32)).toNatClampNeg ((16 : Int32)).toNatClampNeg) 6 p0 5 ((wc_cp (wc_cp (wc_cp (wc_cp (wc_cp M 7 p1 7 p0 ((0 : Int32)).toNatClampNeg ((0 : Int32)).toNatClampNeg ((4 : Int32)).toNatClampNeg) 8 p1 8 p0 ((0 : Int32)).toNatClampNeg ((0 : Int32)).toNatClampNeg ((4 : Int32)).toNatClampNeg) 9 p1 9 p0 ((0 : Int32)).toNatClampNeg ((0 : Int32)).toNatClampNeg ((16 : Int32)).toNatClampNeg) 10 p1 10 p0 ((0 : Int32)).toNatClampNeg ((0 : Int32)).toNatClampNeg ((16 : Int32)).toNatClampNeg) 11 p1 11 p0 ((0 : Int32)).toNatClampNeg ((0 : Int32)).toNatClampNeg ((16 : Int32)).toNatClampNeg) 6 p1 5)) 6 p0 6 ((wc_up (wc_cp (wc_cp (wc_cp (wc_cp (wc_cp M 7 p1 7 p0 ((0 : Int32)).toNatClampNeg ((0 : Int32)).toNatClampNeg ((4 : Int32)).toNatClampNeg) 8 p1 8 p0 ((0 : Int32)).toNatClampNeg ((0 : Int32)).toNatClampNeg ((4 : Int32)).toNatClampNeg) 9 p1 9 p0 ((0 : Int32)).toNatClampNeg ((0 : Int32)).toNatClampNeg ((16 : Int32)).toNatClampNeg) 10 p1 10 p0 ((0 : Int32)).toNatClampNeg ((0 : Int32)).toNatClampNeg ((16 : Int32)).toNatClampNeg) 11 p1 11 p0 ((0 : Int32)).toNatClampNeg ((0 : Int32)).toNatClampNeg ((16 : Int32)).toNatClampNeg) 6 p0 5 ((wc_cp (wc_cp (wc_cp (wc_cp (wc_cp M 7 p1 7 p0 ((0 : Int32)).toNatClampNeg ((0 : Int32)).toNatClampNeg ((4 : Int32)).toNatClampNeg) 8 p1 8 p0 ((0 : Int32)).toNatClampNeg ((0 : Int32)).toNatClampNeg ((4 : Int32)).toNatClampNeg) 9 p1 9 p0 ((0 : Int32)).toNatClampNeg ((0 : Int32)).toNatClampNeg ((16 : Int32)).toNatClampNeg) 10 p1 10 p0 ((0 : Int32)).toNatClampNeg ((0 : Int32)).toNatClampNeg ((16 : Int32)).toNatClampNeg) 11 p1 11 p0 ((0 : Int32)).toNatClampNeg ((0 : Int32)).toNatClampNeg ((16 : Int32)).toNatClampNeg) 6 p1 5)) 6 p1 6))) rfl ?_
  obtain rfl := Option.some.inj h
  exact wg_re rfl trivial ⟨rfl, rfl⟩
set_option maxRecDepth 20000 in
theorem l_P_works_4_ok (p0 : Nat) (M : wc_M) {K : Option Int32 → wc_M → Prop} : ∀ (n : Nat) (x1 : Int32) (x2 : Int32) (o : Int32), l_P_works_4 p0 M n x1 x2 = some o → wg 1 wx0 (some .int) wk_70 14 [none, some (.inl o), none] [] M K → wg 1 wx0 (some .int) wk_70 4 [some (.inr (.inl (6, p0))), some (.inl x1), some (.inl x2)] [] M K := by
  intro n
  induction n with
  | zero =>
    intro x1 x2 o h hk
    exact nomatch (show (none : Option (Int32)) = some o from h)
  | succ n ih =>
    intro x1 x2 o h hk
    unfold l_P_works_4 at h
    refine wg_blk 2 (i' := 6) (L' := [some (.inr (.inl (6, p0))), some (.inl x1), some (.inl x2)]) (st' := [.inl (16 : Int32), .inl x2]) (M' := M) rfl ?_
    refine wg_br (c := (16 : Int32) ≤ x2) (t := 14) (f := 7) (st' := []) rfl (fun hc => ?_) (fun hc => ?_)
    · rw [if_pos hc] at h
      obtain rfl := Option.some.inj h
      exact wg_wk (wk_n (wk_s (wk_n wk_e))) rfl hk
    · rw [if_neg hc] at h
      refine wg_blk 2 (i' := 9) (L' := [some (.inr (.inl (6, p0))), some (.inl x1), some (.inl x2)]) (st' := [.inl x2, .inr (.inl (6, p0))]) (M' := M) rfl ?_
      obtain ⟨v2, h1, h⟩ := wbs h
      refine wg_ca (d' := 1) (y := 69) (as := [.inr (.inl (6, p0)), .inl x2]) (rest := []) (r := some v2) (M' := M) rfl (Nat.le_of_ble_eq_true rfl) (s_P_hasWork p0 x2 M _ h1) ?_
      refine wg_br (c := v2 = (0 : Int32)) (t := 12) (f := 11) (st' := []) rfl (fun hc => ?_) (fun hc => ?_)
      · rw [if_pos hc] at h
        refine wg_blk 2 (i' := 4) (L' := [some (.inr (.inl (6, p0))), some (.inl x1), some (.inl (x2 + (1 : Int32)))]) (st' := []) (M' := M) rfl ?_
        exact wg_wk (wk_s (wk_s (wk_s wk_e))) rfl (ih x1 (x2 + (1 : Int32)) _ h hk)
      · rw [if_neg hc] at h
        refine wg_blk 3 (i' := 4) (L' := [some (.inr (.inl (6, p0))), some (.inl (x1 + (1 : Int32))), some (.inl (x2 + (1 : Int32)))]) (st' := []) (M' := M) rfl ?_
        exact wg_wk (wk_s (wk_s (wk_s wk_e))) rfl (ih (x1 + (1 : Int32)) (x2 + (1 : Int32)) _ h hk)
set_option maxRecDepth 20000 in
theorem s_P_works (p0 : Nat) (M : wc_M) (z : Int32) (h : f_P_works p0 M = some z) : wc_Sd 2 70 [.inr (.inl (6, p0))] M (some z) M := by
  unfold f_P_works at h
  refine wg_Sd (Nat.le_of_ble_eq_true rfl) ?_
  show wg 1 wx0 (some .int) wk_70 0 [some (.inr (.inl (6, p0))), none, none] [] M _
  refine wg_blk 4 (i' := 4) (L' := [some (.inr (.inl (6, p0))), some (.inl (0 : Int32)), some (.inl (0 : Int32))]) (st' := []) (M' := M) rfl ?_
  obtain ⟨t3, h4, h⟩ := wbs h
  refine wg_wk (wk_s (wk_s (wk_s wk_e))) rfl (l_P_works_4_ok p0 M 2000 (0 : Int32) (0 : Int32) _ h4 ?_)
  refine wg_blk 1 (i' := 15) (L' := [none, some (.inl t3), none]) (st' := [.inl t3]) (M' := M) rfl ?_
  obtain rfl := Option.some.inj h
  exact wg_re rfl trivial ⟨rfl, rfl⟩
set_option maxRecDepth 20000 in
theorem s_C_pass (M : wc_M) (z : Int32 × wc_M) (h : f_C_pass M = some z) : wc_Sd 6 5 [.inr (.inl (0, 0))] M (some z.1) z.2 := by
  unfold f_C_pass at h
  refine wg_Sd (Nat.le_of_ble_eq_true rfl) ?_
  show wg 5 wx0 (some .int) wk_5 0 [some (.inr (.inl (0, 0))), none] [] M _
  refine wg_blk 4 (i' := 4) (L' := [some (.inr (.inl (0, 0))), none]) (st' := [.inr (.inl (6, 1)), .inr (.inl (4, 0))]) (M' := M) rfl ?_
  obtain ⟨q2, h1, h⟩ := wbs h
  refine wg_ca (d' := 5) (y := 56) (as := [.inr (.inl (4, 0)), .inr (.inl (6, 1))]) (rest := []) (r := some q2.1) (M' := q2.2) rfl (Nat.le_of_ble_eq_true rfl) (s_T_read 1 M _ h1) ?_
  refine wg_blk 6 (i' := 11) (L' := [some (.inr (.inl (0, 0))), some (.inl q2.1)]) (st' := [.inl q2.1]) (M' := (wc_up q2.2 4 0 1 (0 : Int32))) rfl ?_
  refine wg_br (c := q2.1 = (0 : Int32)) (t := 12) (f := 18) (st' := []) rfl (fun hc => ?_) (fun hc => ?_)
  · rw [if_pos hc] at h
    refine wg_blk 5 (i' := 17) (L' := [some (.inr (.inl (0, 0))), some (.inl q2.1)]) (st' := [.inl ((-1000100 : Int32) - ((wc_up q2.2 4 0 1 (0 : Int32)) 4 0 3))]) (M' := (wc_up q2.2 4 0 1 (0 : Int32))) rfl ?_
    obtain rfl := Option.some.inj h
    exact wg_re rfl trivial ⟨rfl, rfl⟩
  · rw [if_neg hc] at h
    refine wg_blk 4 (i' := 22) (L' := [some (.inr (.inl (0, 0))), some (.inl q2.1)]) (st' := [.inr (.inl (6, 1)), .inr (.inl (6, 0))]) (M' := (wc_up q2.2 4 0 1 (0 : Int32))) rfl ?_
    obtain ⟨m4, h3, h⟩ := wbs h
    refine wg_ca (d' := 1) (y := 65) (as := [.inr (.inl (6, 0)), .inr (.inl (6, 1))]) (rest := []) (r := none) (M' := m4) rfl (Nat.le_of_ble_eq_true rfl) (s_P_become 0 1 (wc_up q2.2 4 0 1 (0 : Int32)) _ h3) ?_
    refine wg_blk 6 (i' := 29) (L' := [some (.inr (.inl (0, 0))), some (.inl q2.1)]) (st' := [.inr (.inl (6, 0))]) (M' := (wc_up m4 16 0 2 (0 : Int32))) rfl ?_
    obtain ⟨v6, h5, h⟩ := wbs h
    refine wg_ca (d' := 2) (y := 70) (as := [.inr (.inl (6, 0))]) (rest := []) (r := some v6) (M' := (wc_up m4 16 0 2 (0 : Int32))) rfl (Nat.le_of_ble_eq_true rfl) (s_P_works 0 (wc_up m4 16 0 2 (0 : Int32)) _ h5) ?_
    obtain rfl := Option.some.inj h
    exact wg_re rfl trivial ⟨rfl, rfl⟩
set_option maxRecDepth 20000 in
theorem l_M_nextToken_17_ok {K : Option Int32 → wc_M → Prop} : ∀ (n : Nat) (M : wc_M) (o : wc_M), l_M_nextToken_17 n M = some o → wg 1 wx0 none wk_98 60 [some (.inr (.inl (21, 0)))] [] o K → wg 1 wx0 none wk_98 17 [some (.inr (.inl (21, 0)))] [] M K := by
  intro n
  induction n with
  | zero =>
    intro M o h hk
    exact nomatch (show (none : Option (wc_M)) = some o from h)
  | succ n ih =>
    intro M o h hk
    unfold l_M_nextToken_17 at h
    refine wg_blk 4 (i' := 21) (L' := [some (.inr (.inl (21, 0)))]) (st' := [.inl (M 21 0 8), .inl (M 21 0 10)]) (M' := M) rfl ?_
    refine wg_br (c := (M 21 0 8) ≤ (M 21 0 10)) (t := 60) (f := 22) (st' := []) rfl (fun hc => ?_) (fun hc => ?_)
    · rw [if_pos hc] at h
      obtain rfl := Option.some.inj h
      exact wg_wk (wk_s wk_e) rfl hk
    · rw [if_neg hc] at h
      refine wg_blk 4 (i' := 26) (L' := [some (.inr (.inl (21, 0)))]) (st' := [.inl (M 21 0 10), .inr (.inl (27, 0))]) (M' := M) rfl ?_
      obtain ⟨hp2, h⟩ := wif h
      refine wg_ck (st' := [.inl (M 27 0 ((M 21 0 10)).toNatClampNeg)]) (M' := M) rfl (wib_in hp2) ?_
      refine wg_blk 3 (i' := 30) (L' := [some (.inr (.inl (21, 0)))]) (st' := [.inr (.inr (57 : Int64)), .inr (.inr (48 : Int64)), .inr (.inr ((M 27 0 ((M 21 0 10)).toNatClampNeg)).toInt64)]) (M' := M) rfl ?_
      refine wg_ca (d' := 1) (y := 87) (as := [.inr (.inr ((M 27 0 ((M 21 0 10)).toNatClampNeg)).toInt64), .inr (.inr (48 : Int64)), .inr (.inr (57 : Int64))]) (rest := []) (r := some (f_M_in ((M 27 0 ((M 21 0 10)).toNatClampNeg)).toInt64 (48 : Int64) (57 : Int64))) (M' := M) rfl (Nat.le_of_ble_eq_true rfl) (s_M_in ((M 27 0 ((M 21 0 10)).toNatClampNeg)).toInt64 (48 : Int64) (57 : Int64) M _ rfl) ?_
      refine wg_br (c := (f_M_in ((M 27 0 ((M 21 0 10)).toNatClampNeg)).toInt64 (48 : Int64) (57 : Int64)) = (0 : Int32)) (t := 60) (f := 32) (st' := []) rfl (fun hc => ?_) (fun hc => ?_)
      · rw [if_pos hc] at h
        obtain rfl := Option.some.inj h
        exact wg_wk (wk_s wk_e) rfl hk
      · rw [if_neg hc] at h
        refine wg_blk 4 (i' := 36) (L' := [some (.inr (.inl (21, 0)))]) (st' := [.inl (99 : Int32), .inl (M 21 0 12), .inr (.inl (21, 0))]) (M' := M) rfl ?_
        obtain ⟨t3, h4, h⟩ := wbs h
        have k : wg 1 wx0 none wk_98 52 [some (.inr (.inl (21, 0)))] [.inl t3, .inr (.inl (21, 0))] M K := by
          refine wg_blk 8 (i' := 17) (L' := [some (.inr (.inl (21, 0)))]) (st' := []) (M' := (wc_up (wc_up M 21 0 12 t3) 21 0 10 (((wc_up M 21 0 12 t3) 21 0 10) + (1 : Int32)))) rfl ?_
          exact wg_wk (wk_s wk_e) rfl (ih (wc_up (wc_up M 21 0 12 t3) 21 0 10 (((wc_up M 21 0 12 t3) 21 0 10) + (1 : Int32))) _ h hk)
        clear h
        have h := h4
        clear h4
        refine wg_br (c := (M 21 0 12) ≤ (99 : Int32)) (t := 40) (f := 37) (st' := [.inr (.inl (21, 0))]) rfl (fun hc => ?_) (fun hc => ?_)
        · rw [if_pos hc] at h
          refine wg_blk 8 (i' := 48) (L' := [some (.inr (.inl (21, 0)))]) (st' := [.inl (M 21 0 10), .inr (.inl (27, 0)), .inl ((10 : Int32) * (M 21 0 12)), .inr (.inl (21, 0))]) (M' := M) rfl ?_
          refine wg_ck (st' := [.inl (M 27 0 ((M 21 0 10)).toNatClampNeg), .inl ((10 : Int32) * (M 21 0 12)), .inr (.inl (21, 0))]) (M' := M) rfl (wib_in hp2) ?_
          refine wg_blk 3 (i' := 52) (L' := [some (.inr (.inl (21, 0)))]) (st' := [.inl ((((10 : Int32) * (M 21 0 12)) + (M 27 0 ((M 21 0 10)).toNatClampNeg)) - (48 : Int32)), .inr (.inl (21, 0))]) (M' := M) rfl ?_
          obtain rfl := Option.some.inj h
          exact wg_wk (wk_s wk_e) rfl k
        · rw [if_neg hc] at h
          refine wg_blk 3 (i' := 52) (L' := [some (.inr (.inl (21, 0)))]) (st' := [.inl (M 21 0 12), .inr (.inl (21, 0))]) (M' := M) rfl ?_
          obtain rfl := Option.some.inj h
          exact wg_wk (wk_s wk_e) rfl k
set_option maxRecDepth 20000 in
theorem s_M_nextToken (M : wc_M) (z : wc_M) (h : f_M_nextToken M = some z) : wc_Sd 2 98 [.inr (.inl (21, 0))] M none z := by
  unfold f_M_nextToken at h
  refine wg_Sd (Nat.le_of_ble_eq_true rfl) ?_
  show wg 1 wx0 none wk_98 0 [some (.inr (.inl (21, 0)))] [] M _
  refine wg_blk 9 (i' := 9) (L' := [some (.inr (.inl (21, 0)))]) (st' := [.inl ((wc_up M 21 0 13 (M 21 0 10)) 21 0 8), .inl ((wc_up M 21 0 13 (M 21 0 10)) 21 0 10), .inr (.inl (21, 0))]) (M' := (wc_up M 21 0 13 (M 21 0 10))) rfl ?_
  obtain ⟨t1, h10, h⟩ := wbs h
  have k : wg 1 wx0 none wk_98 13 [some (.inr (.inl (21, 0)))] [.inl t1, .inr (.inl (21, 0))] (wc_up M 21 0 13 (M 21 0 10)) (fun r2 M2 => r2 = none ∧ M2 = z) := by
    refine wg_blk 4 (i' := 17) (L' := [some (.inr (.inl (21, 0)))]) (st' := []) (M' := (wc_up (wc_up (wc_up M 21 0 13 (M 21 0 10)) 21 0 11 t1) 21 0 12 (0 : Int32))) rfl ?_
    obtain ⟨t5, h6, h⟩ := wbs h
    refine wg_wk (wk_s wk_e) rfl (l_M_nextToken_17_ok 2000 (wc_up (wc_up (wc_up M 21 0 13 (M 21 0 10)) 21 0 11 t1) 21 0 12 (0 : Int32)) _ h6 ?_)
    refine wg_blk 4 (i' := 64) (L' := [some (.inr (.inl (21, 0)))]) (st' := [.inl (t5 21 0 13), .inl (t5 21 0 10)]) (M' := t5) rfl ?_
    refine wg_br (c := (t5 21 0 10) ≤ (t5 21 0 13)) (t := 78) (f := 65) (st' := []) rfl (fun hc => ?_) (fun hc => ?_)
    · rw [if_pos hc] at h
      refine wg_blk 2 (i' := 80) (L' := [some (.inr (.inl (21, 0)))]) (st' := [.inl (t5 21 0 11)]) (M' := t5) rfl ?_
      refine wg_br (c := (t5 21 0 11) = (0 : Int32)) (t := 81) (f := 114) (st' := []) rfl (fun hc => ?_) (fun hc => ?_)
      · rw [if_pos hc] at h
        refine wg_blk 5 (i' := 86) (L' := [some (.inr (.inl (21, 0)))]) (st' := [.inl (t5 21 0 10), .inr (.inl (27, 0)), .inr (.inl (21, 0))]) (M' := t5) rfl ?_
        obtain ⟨hp7, h⟩ := wif h
        refine wg_ck (st' := [.inl (t5 27 0 ((t5 21 0 10)).toNatClampNeg), .inr (.inl (21, 0))]) (M' := t5) rfl (wib_in hp7) ?_
        refine wg_blk 7 (i' := 94) (L' := [some (.inr (.inl (21, 0)))]) (st' := [.inr (.inr (122 : Int64)), .inr (.inr (97 : Int64)), .inr (.inr (((wc_up t5 21 0 12 (t5 27 0 ((t5 21 0 10)).toNatClampNeg)) 21 0 12)).toInt64), .inr (.inl (21, 0))]) (M' := (wc_up t5 21 0 12 (t5 27 0 ((t5 21 0 10)).toNatClampNeg))) rfl ?_
        refine wg_ca (d' := 1) (y := 87) (as := [.inr (.inr (((wc_up t5 21 0 12 (t5 27 0 ((t5 21 0 10)).toNatClampNeg)) 21 0 12)).toInt64), .inr (.inr (97 : Int64)), .inr (.inr (122 : Int64))]) (rest := [.inr (.inl (21, 0))]) (r := some (f_M_in (((wc_up t5 21 0 12 (t5 27 0 ((t5 21 0 10)).toNatClampNeg)) 21 0 12)).toInt64 (97 : Int64) (122 : Int64))) (M' := (wc_up t5 21 0 12 (t5 27 0 ((t5 21 0 10)).toNatClampNeg))) rfl (Nat.le_of_ble_eq_true rfl) (s_M_in (((wc_up t5 21 0 12 (t5 27 0 ((t5 21 0 10)).toNatClampNeg)) 21 0 12)).toInt64 (97 : Int64) (122 : Int64) (wc_up t5 21 0 12 (t5 27 0 ((t5 21 0 10)).toNatClampNeg)) _ rfl) ?_
        obtain ⟨t8, h9, h⟩ := wbs h
        have k : wg 1 wx0 none wk_98 107 [some (.inr (.inl (21, 0)))] [.inl t8, .inr (.inl (21, 0))] (wc_up t5 21 0 12 (t5 27 0 ((t5 21 0 10)).toNatClampNeg)) (fun r2 M2 => r2 = none ∧ M2 = z) := by
          refine wg_blk 7 (i' := 114) (L' := [some (.inr (.inl (21, 0)))]) (st' := []) (M' := (wc_up (wc_up (wc_up t5 21 0 12 (t5 27 0 ((t5 21 0 10)).toNatClampNeg)) 21 0 11 t8) 21 0 10 (((wc_up (wc_up t5 21 0 12 (t5 27 0 ((t5 21 0 10)).toNatClampNeg)) 21 0 11 t8) 21 0 10) + (1 : Int32)))) rfl ?_
          obtain rfl := Option.some.inj h
          exact wg_re rfl trivial ⟨rfl, rfl⟩
        clear h
        have h := h9
        clear h9
        refine wg_br (c := (f_M_in (((wc_up t5 21 0 12 (t5 27 0 ((t5 21 0 10)).toNatClampNeg)) 21 0 12)).toInt64 (97 : Int64) (122 : Int64)) = (0 : Int32)) (t := 96) (f := 104) (st' := [.inr (.inl (21, 0))]) rfl (fun hc => ?_) (fun hc => ?_)
        · rw [if_pos hc] at h
          refine wg_blk 3 (i' := 99) (L' := [some (.inr (.inl (21, 0)))]) (st' := [.inl (44 : Int32), .inl ((wc_up t5 21 0 12 (t5 27 0 ((t5 21 0 10)).toNatClampNeg)) 21 0 12), .inr (.inl (21, 0))]) (M' := (wc_up t5 21 0 12 (t5 27 0 ((t5 21 0 10)).toNatClampNeg))) rfl ?_
          refine wg_br (c := ((wc_up t5 21 0 12 (t5 27 0 ((t5 21 0 10)).toNatClampNeg)) 21 0 12) = (44 : Int32)) (t := 104) (f := 100) (st' := [.inr (.inl (21, 0))]) rfl (fun hc => ?_) (fun hc => ?_)
          · rw [if_pos hc] at h
            refine wg_blk 2 (i' := 107) (L' := [some (.inr (.inl (21, 0)))]) (st' := [.inl (1 : Int32), .inr (.inl (21, 0))]) (M' := (wc_up t5 21 0 12 (t5 27 0 ((t5 21 0 10)).toNatClampNeg))) rfl ?_
            obtain rfl := Option.some.inj h
            exact wg_wk (wk_s wk_e) rfl k
          · rw [if_neg hc] at h
            refine wg_blk 3 (i' := 103) (L' := [some (.inr (.inl (21, 0)))]) (st' := [.inl (59 : Int32), .inl ((wc_up t5 21 0 12 (t5 27 0 ((t5 21 0 10)).toNatClampNeg)) 21 0 12), .inr (.inl (21, 0))]) (M' := (wc_up t5 21 0 12 (t5 27 0 ((t5 21 0 10)).toNatClampNeg))) rfl ?_
            refine wg_br (c := ((wc_up t5 21 0 12 (t5 27 0 ((t5 21 0 10)).toNatClampNeg)) 21 0 12) = (59 : Int32)) (t := 104) (f := 106) (st' := [.inr (.inl (21, 0))]) rfl (fun hc => ?_) (fun hc => ?_)
            · rw [if_pos hc] at h
              refine wg_blk 2 (i' := 107) (L' := [some (.inr (.inl (21, 0)))]) (st' := [.inl (1 : Int32), .inr (.inl (21, 0))]) (M' := (wc_up t5 21 0 12 (t5 27 0 ((t5 21 0 10)).toNatClampNeg))) rfl ?_
              obtain rfl := Option.some.inj h
              exact wg_wk (wk_s wk_e) rfl k
            · rw [if_neg hc] at h
              refine wg_blk 1 (i' := 107) (L' := [some (.inr (.inl (21, 0)))]) (st' := [.inl (0 : Int32), .inr (.inl (21, 0))]) (M' := (wc_up t5 21 0 12 (t5 27 0 ((t5 21 0 10)).toNatClampNeg))) rfl ?_
              obtain rfl := Option.some.inj h
              exact wg_wk (wk_s wk_e) rfl k
        · rw [if_neg hc] at h
          refine wg_blk 2 (i' := 107) (L' := [some (.inr (.inl (21, 0)))]) (st' := [.inl (1 : Int32), .inr (.inl (21, 0))]) (M' := (wc_up t5 21 0 12 (t5 27 0 ((t5 21 0 10)).toNatClampNeg))) rfl ?_
          obtain rfl := Option.some.inj h
          exact wg_wk (wk_s wk_e) rfl k
      · rw [if_neg hc] at h
        obtain rfl := Option.some.inj h
        exact wg_re rfl trivial ⟨rfl, rfl⟩
    · rw [if_neg hc] at h
      refine wg_blk 7 (i' := 72) (L' := [some (.inr (.inl (21, 0)))]) (st' := [.inl (2 : Int32), .inl ((t5 21 0 10) - (t5 21 0 13)), .inr (.inl (21, 0))]) (M' := t5) rfl ?_
      refine wg_br (c := ((t5 21 0 10) - (t5 21 0 13)) ≤ (2 : Int32)) (t := 75) (f := 73) (st' := [.inr (.inl (21, 0))]) rfl (fun hc => ?_) (fun hc => ?_)
      · rw [if_pos hc] at h
        refine wg_blk 3 (i' := 114) (L' := [some (.inr (.inl (21, 0)))]) (st' := []) (M' := (wc_up t5 21 0 11 (2 : Int32))) rfl ?_
        obtain rfl := Option.some.inj h
        exact wg_re rfl trivial ⟨rfl, rfl⟩
      · rw [if_neg hc] at h
        refine wg_blk 4 (i' := 114) (L' := [some (.inr (.inl (21, 0)))]) (st' := []) (M' := (wc_up t5 21 0 11 (0 : Int32))) rfl ?_
        obtain rfl := Option.some.inj h
        exact wg_re rfl trivial ⟨rfl, rfl⟩
  clear h
  have h := h10
  clear h10
  refine wg_br (c := ((wc_up M 21 0 13 (M 21 0 10)) 21 0 10) = ((wc_up M 21 0 13 (M 21 0 10)) 21 0 8)) (t := 10) (f := 12) (st' := [.inr (.inl (21, 0))]) rfl (fun hc => ?_) (fun hc => ?_)
  · rw [if_pos hc] at h
    refine wg_blk 2 (i' := 13) (L' := [some (.inr (.inl (21, 0)))]) (st' := [.inl (3 : Int32), .inr (.inl (21, 0))]) (M' := (wc_up M 21 0 13 (M 21 0 10))) rfl ?_
    obtain rfl := Option.some.inj h
    exact wg_wk (wk_s wk_e) rfl k
  · rw [if_neg hc] at h
    refine wg_blk 1 (i' := 13) (L' := [some (.inr (.inl (21, 0)))]) (st' := [.inl (0 : Int32), .inr (.inl (21, 0))]) (M' := (wc_up M 21 0 13 (M 21 0 10))) rfl ?_
    obtain rfl := Option.some.inj h
    exact wg_wk (wk_s wk_e) rfl k
set_option maxRecDepth 20000 in
theorem s_M_isLetter (a1 : Int32) (M : wc_M) (z : Int32) (h : f_M_isLetter a1 M = z) : wc_Sd 1 100 [.inr (.inl (21, 0)), .inl a1] M (some z) M := by
  unfold f_M_isLetter at h
  refine wg_Sd (Nat.le_of_ble_eq_true rfl) ?_
  show wg 0 wx0 (some .boolean) wk_100 0 [some (.inr (.inl (21, 0))), some (.inl a1)] [] M _
  refine wg_blk 3 (i' := 3) (L' := [some (.inr (.inl (21, 0))), some (.inl a1)]) (st' := [.inl (1 : Int32), .inl (M 21 0 11)]) (M' := M) rfl ?_
  refine wg_br (c := (M 21 0 11) = (1 : Int32)) (t := 4) (f := 10) (st' := []) rfl (fun hc => ?_) (fun hc => ?_)
  · rw [if_pos hc] at h
    refine wg_blk 3 (i' := 7) (L' := [some (.inr (.inl (21, 0))), some (.inl a1)]) (st' := [.inl a1, .inl (M 21 0 12)]) (M' := M) rfl ?_
    refine wg_br (c := (M 21 0 12) = a1) (t := 8) (f := 10) (st' := []) rfl (fun hc => ?_) (fun hc => ?_)
    · rw [if_pos hc] at h
      refine wg_blk 2 (i' := 11) (L' := [some (.inr (.inl (21, 0))), some (.inl a1)]) (st' := [.inl (1 : Int32)]) (M' := M) rfl ?_
      subst h
      exact wg_re rfl (by decide) ⟨rfl, rfl⟩
    · rw [if_neg hc] at h
      refine wg_blk 1 (i' := 11) (L' := [some (.inr (.inl (21, 0))), some (.inl a1)]) (st' := [.inl (0 : Int32)]) (M' := M) rfl ?_
      subst h
      exact wg_re rfl (by decide) ⟨rfl, rfl⟩
  · rw [if_neg hc] at h
    refine wg_blk 1 (i' := 11) (L' := [some (.inr (.inl (21, 0))), some (.inl a1)]) (st' := [.inl (0 : Int32)]) (M' := M) rfl ?_
    subst h
    exact wg_re rfl (by decide) ⟨rfl, rfl⟩
set_option maxRecDepth 20000 in
theorem s_M_faults (a1 : Int32) (M : wc_M) (z : Int32 × wc_M) (h : f_M_faults a1 M = some z) : wc_Sd 1 99 [.inr (.inl (21, 0)), .inl a1] M (some z.1) z.2 := by
  unfold f_M_faults at h
  refine wg_Sd (Nat.le_of_ble_eq_true rfl) ?_
  show wg 0 wx0 (some .boolean) wk_99 0 [some (.inr (.inl (21, 0))), some (.inl a1)] [] M _
  refine wg_blk 4 (i' := 4) (L' := [some (.inr (.inl (21, 0))), some (.inl a1)]) (st' := [.inl (0 : Int32)]) (M' := (wc_up M 21 0 14 a1)) rfl ?_
  obtain rfl := Option.some.inj h
  exact wg_re rfl (by decide) ⟨rfl, rfl⟩
set_option maxRecDepth 20000 in
theorem s_M_takes (a1 : Int32) (M : wc_M) (z : Int32 × wc_M) (h : f_M_takes a1 M = some z) : wc_Sd 3 101 [.inr (.inl (21, 0)), .inl a1] M (some z.1) z.2 := by
  unfold f_M_takes at h
  refine wg_Sd (Nat.le_of_ble_eq_true rfl) ?_
  show wg 2 wx0 (some .boolean) wk_101 0 [some (.inr (.inl (21, 0))), some (.inl a1)] [] M _
  refine wg_blk 2 (i' := 2) (L' := [some (.inr (.inl (21, 0))), some (.inl a1)]) (st' := [.inl a1, .inr (.inl (21, 0))]) (M' := M) rfl ?_
  refine wg_ca (d' := 1) (y := 100) (as := [.inr (.inl (21, 0)), .inl a1]) (rest := []) (r := some (f_M_isLetter a1 M)) (M' := M) rfl (Nat.le_of_ble_eq_true rfl) (s_M_isLetter a1 M _ rfl) ?_
  refine wg_br (c := (f_M_isLetter a1 M) = (0 : Int32)) (t := 4) (f := 8) (st' := []) rfl (fun hc => ?_) (fun hc => ?_)
  · rw [if_pos hc] at h
    refine wg_blk 2 (i' := 6) (L' := [some (.inr (.inl (21, 0))), some (.inl a1)]) (st' := [.inl (1 : Int32), .inr (.inl (21, 0))]) (M' := M) rfl ?_
    obtain ⟨q2, h1, h⟩ := wbs h
    refine wg_ca (d' := 1) (y := 99) (as := [.inr (.inl (21, 0)), .inl (1 : Int32)]) (rest := []) (r := some q2.1) (M' := q2.2) rfl (Nat.le_of_ble_eq_true rfl) (s_M_faults (1 : Int32) M _ h1) ?_
    obtain ⟨hz, h⟩ := wif h
    obtain rfl := Option.some.inj h
    exact wg_re rfl (wzb_in hz) ⟨rfl, rfl⟩
  · rw [if_neg hc] at h
    refine wg_blk 1 (i' := 9) (L' := [some (.inr (.inl (21, 0))), some (.inl a1)]) (st' := [.inr (.inl (21, 0))]) (M' := M) rfl ?_
    obtain ⟨m4, h3, h⟩ := wbs h
    refine wg_ca (d' := 2) (y := 98) (as := [.inr (.inl (21, 0))]) (rest := []) (r := none) (M' := m4) rfl (Nat.le_of_ble_eq_true rfl) (s_M_nextToken M _ h3) ?_
    refine wg_blk 1 (i' := 11) (L' := [some (.inr (.inl (21, 0))), some (.inl a1)]) (st' := [.inl (1 : Int32)]) (M' := m4) rfl ?_
    obtain rfl := Option.some.inj h
    exact wg_re rfl (by decide) ⟨rfl, rfl⟩
set_option maxRecDepth 20000 in
theorem s_M_takesNumber (a1 : Int32) (a2 : Int32) (a3 : Int32) (a4 : Int32) (M : wc_M) (z : Int32 × wc_M) (h : f_M_takesNumber a1 a2 a3 a4 M = some z) : wc_Sd 4 102 [.inr (.inl (21, 0)), .inl a1, .inl a2, .inl a3, .inl a4] M (some z.1) z.2 := by
  unfold f_M_takesNumber at h
  refine wg_Sd (Nat.le_of_ble_eq_true rfl) ?_
  show wg 3 wx0 (some .boolean) wk_102 0 [some (.inr (.inl (21, 0))), some (.inl a1), some (.inl a2), some (.inl a3), some (.inl a4)] [] M _
  refine wg_blk 3 (i' := 3) (L' := [some (.inr (.inl (21, 0))), some (.inl a1), some (.inl a2), some (.inl a3), some (.inl a4)]) (st' := [.inl (2 : Int32), .inl (M 21 0 11)]) (M' := M) rfl ?_
  refine wg_br (c := (M 21 0 11) = (2 : Int32)) (t := 4) (f := 13) (st' := []) rfl (fun hc => ?_) (fun hc => ?_)
  · rw [if_pos hc] at h
    refine wg_blk 7 (i' := 11) (L' := [some (.inr (.inl (21, 0))), some (.inl a1), some (.inl a2), some (.inl a3), some (.inl a4)]) (st' := [.inr (.inr (a2).toInt64), .inr (.inr (a1).toInt64), .inr (.inr ((M 21 0 12)).toInt64)]) (M' := M) rfl ?_
    refine wg_ca (d' := 1) (y := 87) (as := [.inr (.inr ((M 21 0 12)).toInt64), .inr (.inr (a1).toInt64), .inr (.inr (a2).toInt64)]) (rest := []) (r := some (f_M_in ((M 21 0 12)).toInt64 (a1).toInt64 (a2).toInt64)) (M' := M) rfl (Nat.le_of_ble_eq_true rfl) (s_M_in ((M 21 0 12)).toInt64 (a1).toInt64 (a2).toInt64 M _ rfl) ?_
    refine wg_br (c := (f_M_in ((M 21 0 12)).toInt64 (a1).toInt64 (a2).toInt64) = (0 : Int32)) (t := 13) (f := 23) (st' := []) rfl (fun hc => ?_) (fun hc => ?_)
    · rw [if_pos hc] at h
      refine wg_blk 4 (i' := 17) (L' := [some (.inr (.inl (21, 0))), some (.inl a1), some (.inl a2), some (.inl a3), some (.inl a4)]) (st' := [.inl (2 : Int32), .inl (M 21 0 11), .inr (.inl (21, 0))]) (M' := M) rfl ?_
      obtain ⟨t1, h4, h⟩ := wbs h
      have k : wg 3 wx0 (some .boolean) wk_102 21 [none, none, none, none, none] [.inl t1, .inr (.inl (21, 0))] M (fun r2 M2 => r2 = some z.1 ∧ M2 = z.2) := by
        obtain ⟨q3, h2, h⟩ := wbs h
        refine wg_ca (d' := 1) (y := 99) (as := [.inr (.inl (21, 0)), .inl t1]) (rest := []) (r := some q3.1) (M' := q3.2) rfl (Nat.le_of_ble_eq_true rfl) (s_M_faults t1 M _ h2) ?_
        obtain ⟨hz, h⟩ := wif h
        obtain rfl := Option.some.inj h
        exact wg_re rfl (wzb_in hz) ⟨rfl, rfl⟩
      clear h
      have h := h4
      clear h4
      refine wg_br (c := (M 21 0 11) = (2 : Int32)) (t := 18) (f := 20) (st' := [.inr (.inl (21, 0))]) rfl (fun hc => ?_) (fun hc => ?_)
      · rw [if_pos hc] at h
        refine wg_blk 2 (i' := 21) (L' := [some (.inr (.inl (21, 0))), some (.inl a1), some (.inl a2), some (.inl a3), some (.inl a4)]) (st' := [.inl (2 : Int32), .inr (.inl (21, 0))]) (M' := M) rfl ?_
        obtain rfl := Option.some.inj h
        exact wg_wk (wk_n (wk_n (wk_n (wk_n (wk_n wk_e))))) rfl k
      · rw [if_neg hc] at h
        refine wg_blk 1 (i' := 21) (L' := [some (.inr (.inl (21, 0))), some (.inl a1), some (.inl a2), some (.inl a3), some (.inl a4)]) (st' := [.inl (1 : Int32), .inr (.inl (21, 0))]) (M' := M) rfl ?_
        obtain rfl := Option.some.inj h
        exact wg_wk (wk_n (wk_n (wk_n (wk_n (wk_n wk_e))))) rfl k
    · rw [if_neg hc] at h
      refine wg_blk 5 (i' := 28) (L' := [some (.inr (.inl (21, 0))), some (.inl a1), some (.inl a2), some (.inl a3), some (.inl a4)]) (st' := [.inl (M 21 0 12), .inl a3, .inr (.inl (28, 0))]) (M' := M) rfl ?_
      obtain ⟨hp5, h⟩ := wif h
      refine wg_ck (st' := []) (M' := (wc_up M 28 0 (a3).toNatClampNeg (M 21 0 12))) rfl (wib_in hp5) ?_
      refine wg_blk 1 (i' := 30) (L' := [some (.inr (.inl (21, 0))), some (.inl a1), some (.inl a2), some (.inl a3), some (.inl a4)]) (st' := [.inr (.inl (21, 0))]) (M' := (wc_up M 28 0 (a3).toNatClampNeg (M 21 0 12))) rfl ?_
      obtain ⟨m7, h6, h⟩ := wbs h
      refine wg_ca (d' := 2) (y := 98) (as := [.inr (.inl (21, 0))]) (rest := []) (r := none) (M' := m7) rfl (Nat.le_of_ble_eq_true rfl) (s_M_nextToken (wc_up M 28 0 (a3).toNatClampNeg (M 21 0 12)) _ h6) ?_
      refine wg_blk 2 (i' := 33) (L' := [some (.inr (.inl (21, 0))), some (.inl a1), some (.inl a2), some (.inl a3), some (.inl a4)]) (st' := [.inl a4, .inr (.inl (21, 0))]) (M' := m7) rfl ?_
      obtain ⟨q9, h8, h⟩ := wbs h
      refine wg_ca (d' := 3) (y := 101) (as := [.inr (.inl (21, 0)), .inl a4]) (rest := []) (r := some q9.1) (M' := q9.2) rfl (Nat.le_of_ble_eq_true rfl) (s_M_takes a4 m7 _ h8) ?_
      obtain ⟨hz, h⟩ := wif h
      obtain rfl := Option.some.inj h
      exact wg_re rfl (wzb_in hz) ⟨rfl, rfl⟩
  · rw [if_neg hc] at h
    refine wg_blk 4 (i' := 17) (L' := [some (.inr (.inl (21, 0))), some (.inl a1), some (.inl a2), some (.inl a3), some (.inl a4)]) (st' := [.inl (2 : Int32), .inl (M 21 0 11), .inr (.inl (21, 0))]) (M' := M) rfl ?_
    obtain ⟨t10, h13, h⟩ := wbs h
    have k : wg 3 wx0 (some .boolean) wk_102 21 [none, none, none, none, none] [.inl t10, .inr (.inl (21, 0))] M (fun r2 M2 => r2 = some z.1 ∧ M2 = z.2) := by
      obtain ⟨q12, h11, h⟩ := wbs h
      refine wg_ca (d' := 1) (y := 99) (as := [.inr (.inl (21, 0)), .inl t10]) (rest := []) (r := some q12.1) (M' := q12.2) rfl (Nat.le_of_ble_eq_true rfl) (s_M_faults t10 M _ h11) ?_
      obtain ⟨hz, h⟩ := wif h
      obtain rfl := Option.some.inj h
      exact wg_re rfl (wzb_in hz) ⟨rfl, rfl⟩
    clear h
    have h := h13
    clear h13
    refine wg_br (c := (M 21 0 11) = (2 : Int32)) (t := 18) (f := 20) (st' := [.inr (.inl (21, 0))]) rfl (fun hc => ?_) (fun hc => ?_)
    · rw [if_pos hc] at h
      refine wg_blk 2 (i' := 21) (L' := [some (.inr (.inl (21, 0))), some (.inl a1), some (.inl a2), some (.inl a3), some (.inl a4)]) (st' := [.inl (2 : Int32), .inr (.inl (21, 0))]) (M' := M) rfl ?_
      obtain rfl := Option.some.inj h
      exact wg_wk (wk_n (wk_n (wk_n (wk_n (wk_n wk_e))))) rfl k
    · rw [if_neg hc] at h
      refine wg_blk 1 (i' := 21) (L' := [some (.inr (.inl (21, 0))), some (.inl a1), some (.inl a2), some (.inl a3), some (.inl a4)]) (st' := [.inl (1 : Int32), .inr (.inl (21, 0))]) (M' := M) rfl ?_
      obtain rfl := Option.some.inj h
      exact wg_wk (wk_n (wk_n (wk_n (wk_n (wk_n wk_e))))) rfl k
set_option maxRecDepth 20000 in
theorem l_M_readFour_6_ok (x2 : Int32) {K : Option Int32 → wc_M → Prop} : ∀ (n : Nat) (x3 : Int32) (x4 : Int32) (M : wc_M) (o : Int32 × wc_M), l_M_readFour_6 x2 n x3 x4 M = some o → wg 4 wx0 (some .boolean) wk_103 27 [none, none, none, some (.inl o.1), none] [] o.2 K → wg 4 wx0 (some .boolean) wk_103 6 [some (.inr (.inl (21, 0))), none, some (.inl x2), some (.inl x3), some (.inl x4)] [] M K := by
  intro n
  induction n with
  | zero =>
    intro x3 x4 M o h hk
    exact nomatch (show (none : Option (Int32 × wc_M)) = some o from h)
  | succ n ih =>
    intro x3 x4 M o h hk
    unfold l_M_readFour_6 at h
    refine wg_blk 2 (i' := 8) (L' := [some (.inr (.inl (21, 0))), none, some (.inl x2), some (.inl x3), some (.inl x4)]) (st' := [.inl (4 : Int32), .inl x4]) (M' := M) rfl ?_
    refine wg_br (c := (4 : Int32) ≤ x4) (t := 27) (f := 9) (st' := []) rfl (fun hc => ?_) (fun hc => ?_)
    · rw [if_pos hc] at h
      obtain rfl := Option.some.inj h
      exact wg_wk (wk_n (wk_n (wk_n (wk_s (wk_n wk_e))))) rfl hk
    · rw [if_neg hc] at h
      refine wg_blk 1 (i' := 10) (L' := [some (.inr (.inl (21, 0))), none, some (.inl x2), some (.inl x3), some (.inl x4)]) (st' := [.inl x3]) (M' := M) rfl ?_
      refine wg_br (c := x3 = (0 : Int32)) (t := 27) (f := 11) (st' := []) rfl (fun hc => ?_) (fun hc => ?_)
      · rw [if_pos hc] at h
        obtain rfl := Option.some.inj h
        exact wg_wk (wk_n (wk_n (wk_n (wk_s (wk_n wk_e))))) rfl hk
      · rw [if_neg hc] at h
        refine wg_blk 8 (i' := 19) (L' := [some (.inr (.inl (21, 0))), none, some (.inl x2), some (.inl x3), some (.inl x4)]) (st' := [.inl (3 : Int32), .inl x4, .inl (x2 + x4), .inl (31 : Int32), .inl (0 : Int32), .inr (.inl (21, 0))]) (M' := M) rfl ?_
        obtain ⟨t3, h6, h⟩ := wbs h
        have k : wg 4 wx0 (some .boolean) wk_103 23 [some (.inr (.inl (21, 0))), none, some (.inl x2), none, some (.inl x4)] [.inl t3, .inl (x2 + x4), .inl (31 : Int32), .inl (0 : Int32), .inr (.inl (21, 0))] M K := by
          obtain ⟨q5, h4, h⟩ := wbs h
          refine wg_ca (d' := 4) (y := 102) (as := [.inr (.inl (21, 0)), .inl (0 : Int32), .inl (31 : Int32), .inl (x2 + x4), .inl t3]) (rest := []) (r := some q5.1) (M' := q5.2) rfl (Nat.le_of_ble_eq_true rfl) (s_M_takesNumber (0 : Int32) (31 : Int32) (x2 + x4) t3 M _ h4) ?_
          refine wg_blk 3 (i' := 6) (L' := [some (.inr (.inl (21, 0))), none, some (.inl x2), some (.inl q5.1), some (.inl (x4 + (1 : Int32)))]) (st' := []) (M' := q5.2) rfl ?_
          exact wg_wk (wk_s (wk_n (wk_s (wk_s (wk_s wk_e))))) rfl (ih q5.1 (x4 + (1 : Int32)) q5.2 _ h hk)
        clear h
        have h := h6
        clear h6
        refine wg_br (c := x4 = (3 : Int32)) (t := 20) (f := 22) (st' := [.inl (x2 + x4), .inl (31 : Int32), .inl (0 : Int32), .inr (.inl (21, 0))]) rfl (fun hc => ?_) (fun hc => ?_)
        · rw [if_pos hc] at h
          refine wg_blk 2 (i' := 23) (L' := [some (.inr (.inl (21, 0))), none, some (.inl x2), some (.inl x3), some (.inl x4)]) (st' := [.inl (59 : Int32), .inl (x2 + x4), .inl (31 : Int32), .inl (0 : Int32), .inr (.inl (21, 0))]) (M' := M) rfl ?_
          obtain rfl := Option.some.inj h
          exact wg_wk (wk_s (wk_n (wk_s (wk_n (wk_s wk_e))))) rfl k
        · rw [if_neg hc] at h
          refine wg_blk 1 (i' := 23) (L' := [some (.inr (.inl (21, 0))), none, some (.inl x2), some (.inl x3), some (.inl x4)]) (st' := [.inl (44 : Int32), .inl (x2 + x4), .inl (31 : Int32), .inl (0 : Int32), .inr (.inl (21, 0))]) (M' := M) rfl ?_
          obtain rfl := Option.some.inj h
          exact wg_wk (wk_s (wk_n (wk_s (wk_n (wk_s wk_e))))) rfl k
set_option maxRecDepth 20000 in
theorem s_M_readFour (a1 : Int32) (a2 : Int32) (M : wc_M) (z : Int32 × wc_M) (h : f_M_readFour a1 a2 M = some z) : wc_Sd 5 103 [.inr (.inl (21, 0)), .inl a1, .inl a2] M (some z.1) z.2 := by
  unfold f_M_readFour at h
  refine wg_Sd (Nat.le_of_ble_eq_true rfl) ?_
  show wg 4 wx0 (some .boolean) wk_103 0 [some (.inr (.inl (21, 0))), some (.inl a1), some (.inl a2), none, none] [] M _
  refine wg_blk 2 (i' := 2) (L' := [some (.inr (.inl (21, 0))), some (.inl a1), some (.inl a2), none, none]) (st' := [.inl a1, .inr (.inl (21, 0))]) (M' := M) rfl ?_
  obtain ⟨q2, h1, h⟩ := wbs h
  refine wg_ca (d' := 3) (y := 101) (as := [.inr (.inl (21, 0)), .inl a1]) (rest := []) (r := some q2.1) (M' := q2.2) rfl (Nat.le_of_ble_eq_true rfl) (s_M_takes a1 M _ h1) ?_
  refine wg_blk 3 (i' := 6) (L' := [some (.inr (.inl (21, 0))), some (.inl a1), some (.inl a2), some (.inl q2.1), some (.inl (0 : Int32))]) (st' := []) (M' := q2.2) rfl ?_
  obtain ⟨t7, h8, h⟩ := wbs h
  refine wg_wk (wk_s (wk_n (wk_s (wk_s (wk_s wk_e))))) rfl (l_M_readFour_6_ok a2 2000 q2.1 (0 : Int32) q2.2 _ h8 ?_)
  refine wg_blk 1 (i' := 28) (L' := [none, none, none, some (.inl t7.1), none]) (st' := [.inl t7.1]) (M' := t7.2) rfl ?_
  obtain ⟨hz, h⟩ := wif h
  obtain rfl := Option.some.inj h
  exact wg_re rfl (wzb_in hz) ⟨rfl, rfl⟩
set_option maxRecDepth 20000 in
theorem s_M_readWork (a1 : Int32) (M : wc_M) (z : Int32 × wc_M) (h : f_M_readWork a1 M = some z) : wc_Sd 5 104 [.inr (.inl (21, 0)), .inl a1] M (some z.1) z.2 := by
  unfold f_M_readWork at h
  refine wg_Sd (Nat.le_of_ble_eq_true rfl) ?_
  show wg 4 wx0 (some .boolean) wk_104 0 [some (.inr (.inl (21, 0))), some (.inl a1), none] [] M _
  refine wg_blk 3 (i' := 3) (L' := [some (.inr (.inl (21, 0))), some (.inl a1), none]) (st' := [.inl (6 : Int32), .inl (M 21 0 16)]) (M' := M) rfl ?_
  refine wg_br (c := (M 21 0 16) = (6 : Int32)) (t := 4) (f := 8) (st' := []) rfl (fun hc => ?_) (fun hc => ?_)
  · rw [if_pos hc] at h
    refine wg_blk 2 (i' := 6) (L' := [some (.inr (.inl (21, 0))), some (.inl a1), none]) (st' := [.inl (3 : Int32), .inr (.inl (21, 0))]) (M' := M) rfl ?_
    obtain ⟨q2, h1, h⟩ := wbs h
    refine wg_ca (d' := 1) (y := 99) (as := [.inr (.inl (21, 0)), .inl (3 : Int32)]) (rest := []) (r := some q2.1) (M' := q2.2) rfl (Nat.le_of_ble_eq_true rfl) (s_M_faults (3 : Int32) M _ h1) ?_
    obtain ⟨hz, h⟩ := wif h
    obtain rfl := Option.some.inj h
    exact wg_re rfl (wzb_in hz) ⟨rfl, rfl⟩
  · rw [if_neg hc] at h
    refine wg_blk 1 (i' := 9) (L' := [some (.inr (.inl (21, 0))), some (.inl a1), none]) (st' := [.inr (.inl (21, 0))]) (M' := M) rfl ?_
    obtain ⟨m4, h3, h⟩ := wbs h
    refine wg_ca (d' := 2) (y := 98) (as := [.inr (.inl (21, 0))]) (rest := []) (r := none) (M' := m4) rfl (Nat.le_of_ble_eq_true rfl) (s_M_nextToken M _ h3) ?_
    refine wg_blk 3 (i' := 13) (L' := [some (.inr (.inl (21, 0))), some (.inl a1), none]) (st' := [.inl (2 : Int32), .inl (m4 21 0 11)]) (M' := m4) rfl ?_
    refine wg_br (c := (m4 21 0 11) = (2 : Int32)) (t := 14) (f := 18) (st' := []) rfl (fun hc => ?_) (fun hc => ?_)
    · rw [if_pos hc] at h
      refine wg_blk 3 (i' := 17) (L' := [some (.inr (.inl (21, 0))), some (.inl a1), none]) (st' := [.inl (3 : Int32), .inl (m4 21 0 12)]) (M' := m4) rfl ?_
      refine wg_br (c := (m4 21 0 12) ≤ (3 : Int32)) (t := 28) (f := 18) (st' := []) rfl (fun hc => ?_) (fun hc => ?_)
      · rw [if_pos hc] at h
        refine wg_blk 5 (i' := 33) (L' := [some (.inr (.inl (21, 0))), some (.inl a1), none]) (st' := [.inr (.inl (21, 0))]) (M' := (wc_up m4 21 0 17 (m4 21 0 12))) rfl ?_
        obtain ⟨m6, h5, h⟩ := wbs h
        refine wg_ca (d' := 2) (y := 98) (as := [.inr (.inl (21, 0))]) (rest := []) (r := none) (M' := m6) rfl (Nat.le_of_ble_eq_true rfl) (s_M_nextToken (wc_up m4 21 0 17 (m4 21 0 12)) _ h5) ?_
        refine wg_blk 2 (i' := 36) (L' := [some (.inr (.inl (21, 0))), some (.inl a1), none]) (st' := [.inl (44 : Int32), .inr (.inl (21, 0))]) (M' := m6) rfl ?_
        obtain ⟨q8, h7, h⟩ := wbs h
        refine wg_ca (d' := 3) (y := 101) (as := [.inr (.inl (21, 0)), .inl (44 : Int32)]) (rest := []) (r := some q8.1) (M' := q8.2) rfl (Nat.le_of_ble_eq_true rfl) (s_M_takes (44 : Int32) m6 _ h7) ?_
        refine wg_br (c := q8.1 = (0 : Int32)) (t := 38) (f := 40) (st' := []) rfl (fun hc => ?_) (fun hc => ?_)
        · rw [if_pos hc] at h
          refine wg_blk 1 (i' := 39) (L' := [some (.inr (.inl (21, 0))), some (.inl a1), none]) (st' := [.inl (0 : Int32)]) (M' := q8.2) rfl ?_
          obtain rfl := Option.some.inj h
          exact wg_re rfl (by decide) ⟨rfl, rfl⟩
        · rw [if_neg hc] at h
          refine wg_blk 3 (i' := 43) (L' := [some (.inr (.inl (21, 0))), some (.inl a1), none]) (st' := [.inl (2 : Int32), .inl (q8.2 21 0 11)]) (M' := q8.2) rfl ?_
          refine wg_br (c := (q8.2 21 0 11) = (2 : Int32)) (t := 44) (f := 61) (st' := []) rfl (fun hc => ?_) (fun hc => ?_)
          · rw [if_pos hc] at h
            refine wg_blk 3 (i' := 47) (L' := [some (.inr (.inl (21, 0))), some (.inl a1), none]) (st' := [.inl (3 : Int32), .inl (q8.2 21 0 12)]) (M' := q8.2) rfl ?_
            refine wg_br (c := (3 : Int32) < (q8.2 21 0 12)) (t := 61) (f := 48) (st' := []) rfl (fun hc => ?_) (fun hc => ?_)
            · rw [if_pos hc] at h
              refine wg_blk 4 (i' := 65) (L' := [some (.inr (.inl (21, 0))), some (.inl a1), none]) (st' := [.inl (2 : Int32), .inl (q8.2 21 0 11), .inr (.inl (21, 0))]) (M' := q8.2) rfl ?_
              obtain ⟨t9, h12, h⟩ := wbs h
              have k : wg 4 wx0 (some .boolean) wk_104 69 [none, none, none] [.inl t9, .inr (.inl (21, 0))] q8.2 (fun r2 M2 => r2 = some z.1 ∧ M2 = z.2) := by
                obtain ⟨q11, h10, h⟩ := wbs h
                refine wg_ca (d' := 1) (y := 99) (as := [.inr (.inl (21, 0)), .inl t9]) (rest := []) (r := some q11.1) (M' := q11.2) rfl (Nat.le_of_ble_eq_true rfl) (s_M_faults t9 q8.2 _ h10) ?_
                obtain ⟨hz, h⟩ := wif h
                obtain rfl := Option.some.inj h
                exact wg_re rfl (wzb_in hz) ⟨rfl, rfl⟩
              clear h
              have h := h12
              clear h12
              refine wg_br (c := (q8.2 21 0 11) = (2 : Int32)) (t := 66) (f := 68) (st' := [.inr (.inl (21, 0))]) rfl (fun hc => ?_) (fun hc => ?_)
              · rw [if_pos hc] at h
                refine wg_blk 2 (i' := 69) (L' := [some (.inr (.inl (21, 0))), some (.inl a1), none]) (st' := [.inl (2 : Int32), .inr (.inl (21, 0))]) (M' := q8.2) rfl ?_
                obtain rfl := Option.some.inj h
                exact wg_wk (wk_n (wk_n (wk_n wk_e))) rfl k
              · rw [if_neg hc] at h
                refine wg_blk 1 (i' := 69) (L' := [some (.inr (.inl (21, 0))), some (.inl a1), none]) (st' := [.inl (1 : Int32), .inr (.inl (21, 0))]) (M' := q8.2) rfl ?_
                obtain rfl := Option.some.inj h
                exact wg_wk (wk_n (wk_n (wk_n wk_e))) rfl k
            · rw [if_neg hc] at h
              refine wg_blk 11 (i' := 59) (L' := [some (.inr (.inl (21, 0))), some (.inl a1), none]) (st' := [.inl (((9 : Int32) + ((4 : Int32) * (q8.2 21 0 17))) + (q8.2 21 0 12)), .inr (.inl (28, 0))]) (M' := q8.2) rfl ?_
              obtain ⟨hp13, h⟩ := wif h
              refine wg_ck (st' := [.inl (q8.2 28 0 ((((9 : Int32) + ((4 : Int32) * (q8.2 21 0 17))) + (q8.2 21 0 12))).toNatClampNeg)]) (M' := q8.2) rfl (wib_in hp13) ?_
              refine wg_br (c := (q8.2 28 0 ((((9 : Int32) + ((4 : Int32) * (q8.2 21 0 17))) + (q8.2 21 0 12))).toNatClampNeg) ≤ (0 : Int32)) (t := 71) (f := 61) (st' := []) rfl (fun hc => ?_) (fun hc => ?_)
              · rw [if_pos hc] at h
                refine wg_blk 9 (i' := 80) (L' := [some (.inr (.inl (21, 0))), some (.inl a1), some (.inl (((4 : Int32) * (q8.2 21 0 17)) + (q8.2 21 0 12)))]) (st' := [.inr (.inl (21, 0))]) (M' := q8.2) rfl ?_
                obtain ⟨m15, h14, h⟩ := wbs h
                refine wg_ca (d' := 2) (y := 98) (as := [.inr (.inl (21, 0))]) (rest := []) (r := none) (M' := m15) rfl (Nat.le_of_ble_eq_true rfl) (s_M_nextToken q8.2 _ h14) ?_
                refine wg_blk 6 (i' := 87) (L' := [some (.inr (.inl (21, 0))), some (.inl a1), some (.inl (((4 : Int32) * (q8.2 21 0 17)) + (q8.2 21 0 12)))]) (st' := [.inl a1, .inl ((9 : Int32) + (((4 : Int32) * (q8.2 21 0 17)) + (q8.2 21 0 12))), .inr (.inl (28, 0))]) (M' := m15) rfl ?_
                obtain ⟨hp16, h⟩ := wif h
                refine wg_ck (st' := []) (M' := (wc_up m15 28 0 (((9 : Int32) + (((4 : Int32) * (q8.2 21 0 17)) + (q8.2 21 0 12)))).toNatClampNeg a1)) rfl (wib_in hp16) ?_
                refine wg_blk 8 (i' := 96) (L' := [some (.inr (.inl (21, 0))), some (.inl a1), some (.inl (((4 : Int32) * (q8.2 21 0 17)) + (q8.2 21 0 12)))]) (st' := [.inl (44 : Int32), .inr (.inl (21, 0))]) (M' := (wc_up (wc_up m15 28 0 (((9 : Int32) + (((4 : Int32) * (q8.2 21 0 17)) + (q8.2 21 0 12)))).toNatClampNeg a1) 21 0 16 (((wc_up m15 28 0 (((9 : Int32) + (((4 : Int32) * (q8.2 21 0 17)) + (q8.2 21 0 12)))).toNatClampNeg a1) 21 0 16) + (1 : Int32)))) rfl ?_
                obtain ⟨q18, h17, h⟩ := wbs h
                refine wg_ca (d' := 3) (y := 101) (as := [.inr (.inl (21, 0)), .inl (44 : Int32)]) (rest := []) (r := some q18.1) (M' := q18.2) rfl (Nat.le_of_ble_eq_true rfl) (s_M_takes (44 : Int32) (wc_up (wc_up m15 28 0 (((9 : Int32) + (((4 : Int32) * (q8.2 21 0 17)) + (q8.2 21 0 12)))).toNatClampNeg a1) 21 0 16 (((wc_up m15 28 0 (((9 : Int32) + (((4 : Int32) * (q8.2 21 0 17)) + (q8.2 21 0 12)))).toNatClampNeg a1) 21 0 16) + (1 : Int32))) _ h17) ?_
                refine wg_br (c := q18.1 = (0 : Int32)) (t := 109) (f := 98) (st' := []) rfl (fun hc => ?_) (fun hc => ?_)
                · rw [if_pos hc] at h
                  refine wg_blk 1 (i' := 110) (L' := [some (.inr (.inl (21, 0))), some (.inl a1), some (.inl (((4 : Int32) * (q8.2 21 0 17)) + (q8.2 21 0 12)))]) (st' := [.inl (0 : Int32)]) (M' := q18.2) rfl ?_
                  obtain rfl := Option.some.inj h
                  exact wg_re rfl (by decide) ⟨rfl, rfl⟩
                · rw [if_neg hc] at h
                  refine wg_blk 7 (i' := 105) (L' := [some (.inr (.inl (21, 0))), some (.inl a1), some (.inl (((4 : Int32) * (q8.2 21 0 17)) + (q8.2 21 0 12)))]) (st' := [.inl (59 : Int32), .inl ((25 : Int32) + (((4 : Int32) * (q8.2 21 0 17)) + (q8.2 21 0 12))), .inl (99 : Int32), .inl (0 : Int32), .inr (.inl (21, 0))]) (M' := q18.2) rfl ?_
                  obtain ⟨q20, h19, h⟩ := wbs h
                  refine wg_ca (d' := 4) (y := 102) (as := [.inr (.inl (21, 0)), .inl (0 : Int32), .inl (99 : Int32), .inl ((25 : Int32) + (((4 : Int32) * (q8.2 21 0 17)) + (q8.2 21 0 12))), .inl (59 : Int32)]) (rest := []) (r := some q20.1) (M' := q20.2) rfl (Nat.le_of_ble_eq_true rfl) (s_M_takesNumber (0 : Int32) (99 : Int32) ((25 : Int32) + (((4 : Int32) * (q8.2 21 0 17)) + (q8.2 21 0 12))) (59 : Int32) q18.2 _ h19) ?_
                  refine wg_br (c := q20.1 = (0 : Int32)) (t := 109) (f := 107) (st' := []) rfl (fun hc => ?_) (fun hc => ?_)
                  · rw [if_pos hc] at h
                    refine wg_blk 1 (i' := 110) (L' := [some (.inr (.inl (21, 0))), some (.inl a1), some (.inl (((4 : Int32) * (q8.2 21 0 17)) + (q8.2 21 0 12)))]) (st' := [.inl (0 : Int32)]) (M' := q20.2) rfl ?_
                    obtain rfl := Option.some.inj h
                    exact wg_re rfl (by decide) ⟨rfl, rfl⟩
                  · rw [if_neg hc] at h
                    refine wg_blk 2 (i' := 110) (L' := [some (.inr (.inl (21, 0))), some (.inl a1), some (.inl (((4 : Int32) * (q8.2 21 0 17)) + (q8.2 21 0 12)))]) (st' := [.inl (1 : Int32)]) (M' := q20.2) rfl ?_
                    obtain rfl := Option.some.inj h
                    exact wg_re rfl (by decide) ⟨rfl, rfl⟩
              · rw [if_neg hc] at h
                refine wg_blk 4 (i' := 65) (L' := [some (.inr (.inl (21, 0))), some (.inl a1), none]) (st' := [.inl (2 : Int32), .inl (q8.2 21 0 11), .inr (.inl (21, 0))]) (M' := q8.2) rfl ?_
                obtain ⟨t21, h24, h⟩ := wbs h
                have k : wg 4 wx0 (some .boolean) wk_104 69 [none, none, none] [.inl t21, .inr (.inl (21, 0))] q8.2 (fun r2 M2 => r2 = some z.1 ∧ M2 = z.2) := by
                  obtain ⟨q23, h22, h⟩ := wbs h
                  refine wg_ca (d' := 1) (y := 99) (as := [.inr (.inl (21, 0)), .inl t21]) (rest := []) (r := some q23.1) (M' := q23.2) rfl (Nat.le_of_ble_eq_true rfl) (s_M_faults t21 q8.2 _ h22) ?_
                  obtain ⟨hz, h⟩ := wif h
                  obtain rfl := Option.some.inj h
                  exact wg_re rfl (wzb_in hz) ⟨rfl, rfl⟩
                clear h
                have h := h24
                clear h24
                refine wg_br (c := (q8.2 21 0 11) = (2 : Int32)) (t := 66) (f := 68) (st' := [.inr (.inl (21, 0))]) rfl (fun hc => ?_) (fun hc => ?_)
                · rw [if_pos hc] at h
                  refine wg_blk 2 (i' := 69) (L' := [some (.inr (.inl (21, 0))), some (.inl a1), none]) (st' := [.inl (2 : Int32), .inr (.inl (21, 0))]) (M' := q8.2) rfl ?_
                  obtain rfl := Option.some.inj h
                  exact wg_wk (wk_n (wk_n (wk_n wk_e))) rfl k
                · rw [if_neg hc] at h
                  refine wg_blk 1 (i' := 69) (L' := [some (.inr (.inl (21, 0))), some (.inl a1), none]) (st' := [.inl (1 : Int32), .inr (.inl (21, 0))]) (M' := q8.2) rfl ?_
                  obtain rfl := Option.some.inj h
                  exact wg_wk (wk_n (wk_n (wk_n wk_e))) rfl k
          · rw [if_neg hc] at h
            refine wg_blk 4 (i' := 65) (L' := [some (.inr (.inl (21, 0))), some (.inl a1), none]) (st' := [.inl (2 : Int32), .inl (q8.2 21 0 11), .inr (.inl (21, 0))]) (M' := q8.2) rfl ?_
            obtain ⟨t25, h28, h⟩ := wbs h
            have k : wg 4 wx0 (some .boolean) wk_104 69 [none, none, none] [.inl t25, .inr (.inl (21, 0))] q8.2 (fun r2 M2 => r2 = some z.1 ∧ M2 = z.2) := by
              obtain ⟨q27, h26, h⟩ := wbs h
              refine wg_ca (d' := 1) (y := 99) (as := [.inr (.inl (21, 0)), .inl t25]) (rest := []) (r := some q27.1) (M' := q27.2) rfl (Nat.le_of_ble_eq_true rfl) (s_M_faults t25 q8.2 _ h26) ?_
              obtain ⟨hz, h⟩ := wif h
              obtain rfl := Option.some.inj h
              exact wg_re rfl (wzb_in hz) ⟨rfl, rfl⟩
            clear h
            have h := h28
            clear h28
            refine wg_br (c := (q8.2 21 0 11) = (2 : Int32)) (t := 66) (f := 68) (st' := [.inr (.inl (21, 0))]) rfl (fun hc => ?_) (fun hc => ?_)
            · rw [if_pos hc] at h
              refine wg_blk 2 (i' := 69) (L' := [some (.inr (.inl (21, 0))), some (.inl a1), none]) (st' := [.inl (2 : Int32), .inr (.inl (21, 0))]) (M' := q8.2) rfl ?_
              obtain rfl := Option.some.inj h
              exact wg_wk (wk_n (wk_n (wk_n wk_e))) rfl k
            · rw [if_neg hc] at h
              refine wg_blk 1 (i' := 69) (L' := [some (.inr (.inl (21, 0))), some (.inl a1), none]) (st' := [.inl (1 : Int32), .inr (.inl (21, 0))]) (M' := q8.2) rfl ?_
              obtain rfl := Option.some.inj h
              exact wg_wk (wk_n (wk_n (wk_n wk_e))) rfl k
      · rw [if_neg hc] at h
        refine wg_blk 4 (i' := 22) (L' := [some (.inr (.inl (21, 0))), some (.inl a1), none]) (st' := [.inl (2 : Int32), .inl (m4 21 0 11), .inr (.inl (21, 0))]) (M' := m4) rfl ?_
        obtain ⟨t29, h32, h⟩ := wbs h
        have k : wg 4 wx0 (some .boolean) wk_104 26 [none, none, none] [.inl t29, .inr (.inl (21, 0))] m4 (fun r2 M2 => r2 = some z.1 ∧ M2 = z.2) := by
          obtain ⟨q31, h30, h⟩ := wbs h
          refine wg_ca (d' := 1) (y := 99) (as := [.inr (.inl (21, 0)), .inl t29]) (rest := []) (r := some q31.1) (M' := q31.2) rfl (Nat.le_of_ble_eq_true rfl) (s_M_faults t29 m4 _ h30) ?_
          obtain ⟨hz, h⟩ := wif h
          obtain rfl := Option.some.inj h
          exact wg_re rfl (wzb_in hz) ⟨rfl, rfl⟩
        clear h
        have h := h32
        clear h32
        refine wg_br (c := (m4 21 0 11) = (2 : Int32)) (t := 23) (f := 25) (st' := [.inr (.inl (21, 0))]) rfl (fun hc => ?_) (fun hc => ?_)
        · rw [if_pos hc] at h
          refine wg_blk 2 (i' := 26) (L' := [some (.inr (.inl (21, 0))), some (.inl a1), none]) (st' := [.inl (2 : Int32), .inr (.inl (21, 0))]) (M' := m4) rfl ?_
          obtain rfl := Option.some.inj h
          exact wg_wk (wk_n (wk_n (wk_n wk_e))) rfl k
        · rw [if_neg hc] at h
          refine wg_blk 1 (i' := 26) (L' := [some (.inr (.inl (21, 0))), some (.inl a1), none]) (st' := [.inl (1 : Int32), .inr (.inl (21, 0))]) (M' := m4) rfl ?_
          obtain rfl := Option.some.inj h
          exact wg_wk (wk_n (wk_n (wk_n wk_e))) rfl k
    · rw [if_neg hc] at h
      refine wg_blk 4 (i' := 22) (L' := [some (.inr (.inl (21, 0))), some (.inl a1), none]) (st' := [.inl (2 : Int32), .inl (m4 21 0 11), .inr (.inl (21, 0))]) (M' := m4) rfl ?_
      obtain ⟨t33, h36, h⟩ := wbs h
      have k : wg 4 wx0 (some .boolean) wk_104 26 [none, none, none] [.inl t33, .inr (.inl (21, 0))] m4 (fun r2 M2 => r2 = some z.1 ∧ M2 = z.2) := by
        obtain ⟨q35, h34, h⟩ := wbs h
        refine wg_ca (d' := 1) (y := 99) (as := [.inr (.inl (21, 0)), .inl t33]) (rest := []) (r := some q35.1) (M' := q35.2) rfl (Nat.le_of_ble_eq_true rfl) (s_M_faults t33 m4 _ h34) ?_
        obtain ⟨hz, h⟩ := wif h
        obtain rfl := Option.some.inj h
        exact wg_re rfl (wzb_in hz) ⟨rfl, rfl⟩
      clear h
      have h := h36
      clear h36
      refine wg_br (c := (m4 21 0 11) = (2 : Int32)) (t := 23) (f := 25) (st' := [.inr (.inl (21, 0))]) rfl (fun hc => ?_) (fun hc => ?_)
      · rw [if_pos hc] at h
        refine wg_blk 2 (i' := 26) (L' := [some (.inr (.inl (21, 0))), some (.inl a1), none]) (st' := [.inl (2 : Int32), .inr (.inl (21, 0))]) (M' := m4) rfl ?_
        obtain rfl := Option.some.inj h
        exact wg_wk (wk_n (wk_n (wk_n wk_e))) rfl k
      · rw [if_neg hc] at h
        refine wg_blk 1 (i' := 26) (L' := [some (.inr (.inl (21, 0))), some (.inl a1), none]) (st' := [.inl (1 : Int32), .inr (.inl (21, 0))]) (M' := m4) rfl ?_
        obtain rfl := Option.some.inj h
        exact wg_wk (wk_n (wk_n (wk_n wk_e))) rfl k
