/-! THE LAW'S LOOP: every call answers alike -/
theorem op_ag {X : Type} {f g : wc_M → Option (Int32 × wc_M)} {M : wc_M} (h : Ag f g M) (L : wc_M → Option ((Int32 × wc_M) ⊕ X)) : ∃ M2, Rel M2 ∧ (Option.bind (f M) fun q => (Option.bind (g q.2) fun q' => (if q.1 = q'.1 then L q'.2 else some (.inl ((0 : Int32), q'.2))))) = L M2 := by
  obtain ⟨v, M1, M2, h1, h2, h3⟩ := h
  refine ⟨M2, h3, ?_⟩
  rw [h1, Option.bind_some]
  show (Option.bind (g M1) fun q' => (if v = q'.1 then L q'.2 else some (.inl ((0 : Int32), q'.2)))) = _
  rw [h2, Option.bind_some]
  show (if v = v then L M2 else _) = _
  rw [if_pos rfl]
theorem op_v {X : Type} {f g : wc_M → Option Int32} {M : wc_M} (h : ∃ v, f M = some v ∧ g M = some v) (L : Option ((Int32 × wc_M) ⊕ X)) (E : Option ((Int32 × wc_M) ⊕ X)) : (Option.bind (f M) fun v => (Option.bind (g M) fun v' => (if v = v' then L else E))) = L := by
  obtain ⟨v, h1, h2⟩ := h
  rw [h1, Option.bind_some, h2, Option.bind_some, if_pos rfl]
theorem law_loop (xs : Nat → Int32) (xl : Nat) (hL : xl ≤ 384) : ∀ (k n p : Nat) (M : wc_M), Rel M → xl ≤ p + 5 + 6 * k → k < n → p ≤ 400 → ∃ M', l_L_law_10 xs xl n (nI p) M = some (.inr M') := by
  intro k
  induction k with
  | zero =>
    intro n p M r hk hn hp
    obtain ⟨n, rfl⟩ : ∃ m, n = m + 1 := ⟨n - 1, by omega⟩
    refine ⟨M, ?_⟩
    rw [l_L_law_10, if_pos]
    show nI xl - 6 < nI p
    by_cases h6 : 6 ≤ xl
    · rw [n_sub h6, nI_ltI (by omega) (by omega)]
      omega
    · exact Int32.lt_of_lt_of_le (n_sneg (a := xl) (b := 6) (by omega) (by omega)) (Int32.not_lt.mp (n_n0 (by omega)))
  | succ k ih =>
    intro n p M r hk hn hp
    obtain ⟨n, rfl⟩ : ∃ m, n = m + 1 := ⟨n - 1, by omega⟩
    by_cases hs : p + 6 ≤ xl
    case neg =>
      refine ⟨M, ?_⟩
      rw [l_L_law_10, if_pos]
      show nI xl - 6 < nI p
      by_cases h6 : 6 ≤ xl
      · rw [n_sub h6, nI_ltI (by omega) (by omega)]
        omega
      · exact Int32.lt_of_lt_of_le (n_sneg (a := xl) (b := 6) (by omega) (by omega)) (Int32.not_lt.mp (n_n0 (by omega)))
    have hgo : ¬ (Int32.ofNat xl) - (6 : Int32) < nI p := by
      show ¬ nI xl - 6 < nI p
      rw [n_sub (by omega), nI_ltI (by omega) (by omega)]
      omega
    have next : ∀ M2, Rel M2 → ∃ M', l_L_law_10 xs xl n (nI p + 6) M2 = some (.inr M') := by
      intro M2 r2
      rw [n_ar]
      exact ih n (p + 6) M2 r2 (by omega) (by omega) (by omega)
    have w0 : wib (nI p) xl = true := n_wib (by omega) (by omega)
    have w1 : wib (nI p + (1 : Int32)) xl = true := by
      rw [n_ar]
      exact n_wib (by omega) (by omega)
    have w2 : wib (nI p + (2 : Int32)) xl = true := by
      rw [n_ar]
      exact n_wib (by omega) (by omega)
    have w3 : wib (nI p + (3 : Int32)) xl = true := by
      rw [n_ar]
      exact n_wib (by omega) (by omega)
    have w4 : wib (nI p + (4 : Int32)) xl = true := by
      rw [n_ar]
      exact n_wib (by omega) (by omega)
    have w5 : wib (nI p + (5 : Int32)) xl = true := by
      rw [n_ar]
      exact n_wib (by omega) (by omega)
    rw [l_L_law_10, if_neg hgo, if_pos w0]
    generalize (xs (nI p).toNatClampNeg) &&& (31 : Int32) = op
    generalize xs (nI p + (1 : Int32)).toNatClampNeg = a1
    generalize xs (nI p + (2 : Int32)).toNatClampNeg = a2
    generalize xs (nI p + (3 : Int32)).toNatClampNeg = a3
    generalize xs (nI p + (4 : Int32)).toNatClampNeg = a4
    generalize xs (nI p + (5 : Int32)).toNatClampNeg = a5
    by_cases h0 : op = (0 : Int32)
    · rw [if_pos h0]
      rw [if_pos w1, if_pos w2, if_pos w3]
      obtain ⟨M2, r2, e⟩ := op_ag (q_row a1 a2 a3 r) (fun z => l_L_law_10 xs xl n (nI p + 6) z)
      obtain ⟨M', hM'⟩ := next M2 r2
      exact ⟨M', e.trans hM'⟩
    rw [if_neg h0]
    by_cases h1 : op = (1 : Int32)
    · rw [if_pos h1]
      rw [if_pos w1, if_pos w2, if_pos w3]
      obtain ⟨M2, r2, e⟩ := op_ag (q_set a1 a2 a3 r) (fun z => l_L_law_10 xs xl n (nI p + 6) z)
      obtain ⟨M', hM'⟩ := next M2 r2
      exact ⟨M', e.trans hM'⟩
    rw [if_neg h1]
    by_cases h2 : op = (2 : Int32)
    · rw [if_pos h2]
      rw [if_pos w1, if_pos w2, if_pos w3, if_pos w4, if_pos w5]
      obtain ⟨M2, r2, e⟩ := op_ag (q_copy a1 a2 a3 a4 a5 r) (fun z => l_L_law_10 xs xl n (nI p + 6) z)
      obtain ⟨M', hM'⟩ := next M2 r2
      exact ⟨M', e.trans hM'⟩
    rw [if_neg h2]
    by_cases h3 : op = (3 : Int32)
    · rw [if_pos h3]
      rw [if_pos w1]
      obtain ⟨M2, r2, e⟩ := op_ag (q_drop a1 r) (fun z => l_L_law_10 xs xl n (nI p + 6) z)
      obtain ⟨M', hM'⟩ := next M2 r2
      exact ⟨M', e.trans hM'⟩
    rw [if_neg h3]
    by_cases h4 : op = (4 : Int32)
    · rw [if_pos h4]
      rw [if_pos w1]
      obtain ⟨M2, r2, e⟩ := op_ag (q_feed a1 r) (fun z => l_L_law_10 xs xl n (nI p + 6) z)
      obtain ⟨M', hM'⟩ := next M2 r2
      exact ⟨M', e.trans hM'⟩
    rw [if_neg h4]
    by_cases h5 : op = (5 : Int32)
    · rw [if_pos h5]
      obtain ⟨M2, r2, e⟩ := op_ag (q_pass r) (fun z => l_L_law_10 xs xl n (nI p + 6) z)
      obtain ⟨M', hM'⟩ := next M2 r2
      exact ⟨M', e.trans hM'⟩
    rw [if_neg h5]
    by_cases h6 : op = (6 : Int32)
    · rw [if_pos h6]
      have e : f_C_fault M = f_M_fault M := r.2.2.2.1.2
      rw [if_pos e]
      exact next M r
    rw [if_neg h6]
    by_cases h7 : op = (7 : Int32)
    · rw [if_pos h7]
      rw [if_pos w1, if_pos w2, if_pos w3]
      obtain ⟨M2, r2, e⟩ := op_ag (q_setUp a1 a2 a3 r) (fun z => l_L_law_10 xs xl n (nI p + 6) z)
      obtain ⟨M', hM'⟩ := next M2 r2
      exact ⟨M', e.trans hM'⟩
    rw [if_neg h7]
    by_cases h8 : op = (8 : Int32)
    · rw [if_pos h8]
      rw [if_pos w1]
      obtain ⟨M2, r2, e⟩ := op_ag (q_take a1 r) (fun z => l_L_law_10 xs xl n (nI p + 6) z)
      obtain ⟨M', hM'⟩ := next M2 r2
      exact ⟨M', e.trans hM'⟩
    rw [if_neg h8]
    by_cases h9 : op = (9 : Int32)
    · rw [if_pos h9]
      rw [if_pos w1]
      obtain ⟨M2, r2, e⟩ := op_ag (q_turn a1 r) (fun z => l_L_law_10 xs xl n (nI p + 6) z)
      obtain ⟨M', hM'⟩ := next M2 r2
      exact ⟨M', e.trans hM'⟩
    rw [if_neg h9]
    by_cases h10 : op = (10 : Int32)
    · rw [if_pos h10]
      rw [if_pos w1, if_pos w2]
      obtain ⟨M2, r2, e⟩ := op_ag (q_gust a1 a2 r) (fun z => l_L_law_10 xs xl n (nI p + 6) z)
      obtain ⟨M', hM'⟩ := next M2 r2
      exact ⟨M', e.trans hM'⟩
    rw [if_neg h10]
    by_cases h11 : op = (11 : Int32)
    · rw [if_pos h11]
      rw [if_pos w1]
      obtain ⟨M2, r2, e⟩ := op_ag (q_hours a1 r) (fun z => l_L_law_10 xs xl n (nI p + 6) z)
      obtain ⟨M', hM'⟩ := next M2 r2
      exact ⟨M', e.trans hM'⟩
    rw [if_neg h11]
    by_cases h12 : op = (12 : Int32)
    · rw [if_pos h12]
      obtain ⟨M2, r2, e⟩ := op_ag (q_undo r) (fun z => l_L_law_10 xs xl n (nI p + 6) z)
      obtain ⟨M', hM'⟩ := next M2 r2
      exact ⟨M', e.trans hM'⟩
    rw [if_neg h12]
    by_cases h13 : op = (13 : Int32)
    · rw [if_pos h13]
      rw [if_pos w1, if_pos w2]
      obtain ⟨M2, r2, e⟩ := op_ag (q_cell a1 a2 r) (fun z => l_L_law_10 xs xl n (nI p + 6) z)
      obtain ⟨M', hM'⟩ := next M2 r2
      exact ⟨M', e.trans hM'⟩
    rw [if_neg h13]
    by_cases h14 : op = (14 : Int32)
    · rw [if_pos h14]
      rw [if_pos w1, if_pos w2]
      obtain ⟨M', hM'⟩ := next M r
      exact ⟨M', (op_v (f := f_C_wind a1 a2) (g := f_M_wind a1 a2) (q_wind a1 a2 r) (l_L_law_10 xs xl n (nI p + 6) M) _).trans hM'⟩
    rw [if_neg h14]
    by_cases h15 : op = (15 : Int32)
    · rw [if_pos h15]
      rw [if_pos w1, if_pos w2]
      obtain ⟨M2, r2, e⟩ := op_ag (q_felt a1 a2 r) (fun z => l_L_law_10 xs xl n (nI p + 6) z)
      obtain ⟨M', hM'⟩ := next M2 r2
      exact ⟨M', e.trans hM'⟩
    rw [if_neg h15]
    by_cases h16 : op = (16 : Int32)
    · rw [if_pos h16]
      rw [if_pos w1]
      obtain ⟨M2, r2, e⟩ := op_ag (q_lost a1 r) (fun z => l_L_law_10 xs xl n (nI p + 6) z)
      obtain ⟨M', hM'⟩ := next M2 r2
      exact ⟨M', e.trans hM'⟩
    rw [if_neg h16]
    by_cases h17 : op = (17 : Int32)
    · rw [if_pos h17]
      rw [if_pos w1, if_pos w2]
      obtain ⟨M2, r2, e⟩ := op_ag (q_leaves a1 a2 r) (fun z => l_L_law_10 xs xl n (nI p + 6) z)
      obtain ⟨M', hM'⟩ := next M2 r2
      exact ⟨M', e.trans hM'⟩
    rw [if_neg h17]
    by_cases h18 : op = (18 : Int32)
    · rw [if_pos h18]
      rw [if_pos w1]
      obtain ⟨M2, r2, e⟩ := op_ag (q_breaks a1 r) (fun z => l_L_law_10 xs xl n (nI p + 6) z)
      obtain ⟨M', hM'⟩ := next M2 r2
      exact ⟨M', e.trans hM'⟩
    rw [if_neg h18]
    by_cases h19 : op = (19 : Int32)
    · rw [if_pos h19]
      rw [if_pos w1, if_pos w2]
      obtain ⟨M2, r2, e⟩ := op_ag (q_stands a1 a2 r) (fun z => l_L_law_10 xs xl n (nI p + 6) z)
      obtain ⟨M', hM'⟩ := next M2 r2
      exact ⟨M', e.trans hM'⟩
    rw [if_neg h19]
    by_cases h20 : op = (20 : Int32)
    · rw [if_pos h20]
      rw [if_pos w1, if_pos w2, if_pos w3]
      obtain ⟨M2, r2, e⟩ := op_ag (q_walls a1 a2 a3 r) (fun z => l_L_law_10 xs xl n (nI p + 6) z)
      obtain ⟨M', hM'⟩ := next M2 r2
      exact ⟨M', e.trans hM'⟩
    rw [if_neg h20]
    by_cases h21 : op = (21 : Int32)
    · rw [if_pos h21]
      rw [if_pos w1, if_pos w2, if_pos w3, if_pos w4]
      obtain ⟨M2, r2, e⟩ := op_ag (q_hidden a1 a2 a3 a4 r) (fun z => l_L_law_10 xs xl n (nI p + 6) z)
      obtain ⟨M', hM'⟩ := next M2 r2
      exact ⟨M', e.trans hM'⟩
    rw [if_neg h21]
    by_cases h22 : op = (22 : Int32)
    · rw [if_pos h22]
      rw [if_pos w1, if_pos w2]
      obtain ⟨M2, r2, e⟩ := op_ag (q_most a1 a2 r) (fun z => l_L_law_10 xs xl n (nI p + 6) z)
      obtain ⟨M', hM'⟩ := next M2 r2
      exact ⟨M', e.trans hM'⟩
    rw [if_neg h22]
    by_cases h23 : op = (23 : Int32)
    · rw [if_pos h23]
      rw [if_pos w1, if_pos w2, if_pos w3, if_pos w4]
      obtain ⟨M2, r2, e⟩ := op_ag (q_lots a1 a2 a3 a4 r) (fun z => l_L_law_10 xs xl n (nI p + 6) z)
      obtain ⟨M', hM'⟩ := next M2 r2
      exact ⟨M', e.trans hM'⟩
    rw [if_neg h23]
    by_cases h24 : op = (24 : Int32)
    · rw [if_pos h24]
      rw [if_pos w1]
      obtain ⟨M2, r2, e⟩ := op_ag (q_image a1 r) (fun z => l_L_law_10 xs xl n (nI p + 6) z)
      obtain ⟨M', hM'⟩ := next M2 r2
      exact ⟨M', e.trans hM'⟩
    rw [if_neg h24]
    by_cases h25 : op = (25 : Int32)
    · rw [if_pos h25]
      rw [if_pos w1]
      obtain ⟨M2, r2, e⟩ := op_ag (q_restore a1 r) (fun z => l_L_law_10 xs xl n (nI p + 6) z)
      obtain ⟨M', hM'⟩ := next M2 r2
      exact ⟨M', e.trans hM'⟩
    rw [if_neg h25]
    by_cases h26 : op = (26 : Int32)
    · rw [if_pos h26]
      rw [if_pos w1]
      obtain ⟨M', hM'⟩ := next M r
      exact ⟨M', (op_v (f := f_C_kind a1) (g := f_M_kind a1) (q_kind a1 r) (l_L_law_10 xs xl n (nI p + 6) M) _).trans hM'⟩
    rw [if_neg h26]
    by_cases h27 : op = (27 : Int32)
    · rw [if_pos h27]
      rw [if_pos w1, if_pos w2]
      obtain ⟨M2, r2, e⟩ := op_ag (q_as a1 a2 r) (fun z => l_L_law_10 xs xl n (nI p + 6) z)
      obtain ⟨M', hM'⟩ := next M2 r2
      exact ⟨M', e.trans hM'⟩
    rw [if_neg h27]
    by_cases h28 : op = (28 : Int32)
    · rw [if_pos h28]
      rw [if_pos w1, if_pos w2]
      obtain ⟨M2, r2, e⟩ := op_ag (q_ask a1 a2 r) (fun z => l_L_law_10 xs xl n (nI p + 6) z)
      obtain ⟨M', hM'⟩ := next M2 r2
      exact ⟨M', e.trans hM'⟩
    rw [if_neg h28]
    by_cases h29 : op = (29 : Int32)
    · rw [if_pos h29]
      rw [if_pos w1]
      obtain ⟨M', hM'⟩ := next M r
      exact ⟨M', (op_v (f := f_C_trace a1) (g := f_M_trace a1) (q_trace a1 r) (l_L_law_10 xs xl n (nI p + 6) M) _).trans hM'⟩
    rw [if_neg h29]
    by_cases h30 : op = (30 : Int32)
    · rw [if_pos h30]
      rw [if_pos w1]
      obtain ⟨M2, r2, e⟩ := op_ag (q_count a1 r) (fun z => l_L_law_10 xs xl n (nI p + 6) z)
      obtain ⟨M', hM'⟩ := next M2 r2
      exact ⟨M', e.trans hM'⟩
    rw [if_neg h30]
    by_cases h31 : op = (31 : Int32)
    · rw [if_pos h31]
      have e : f_C_status M = f_M_status M := r.2.1.symm
      rw [if_pos e]
      exact next M r
    rw [if_neg h31]
    exact next M r
theorem sW_0 {st : Nat → Int32} (h : ∀ j, st j = 0) : sW st := by
  refine ⟨fun j _ => h j, fun c _ => ⟨0, by omega, h _⟩, fun y _ => ⟨0, by omega, h _⟩, fun y _ => ⟨0, by omega, h _⟩, fun c _ _ => ⟨h _, h _⟩, ?_⟩
  have e : ∀ m, sWn st m = 0 := by
    intro m
    induction m with
    | zero => rw [sWn]
    | succ m ih => rw [sWn_s, ih, if_pos (h _)]
  rw [e 16]
  omega
theorem w0_23 {k i s : Nat} (h : k ≠ 23) : w0M k i s = 0 := by
  unfold w0M
  rw [if_neg h]
theorem Rel_0 : Rel w0M := by
  have e0 : ∀ j, wst w0M 0 j = 0 := by
    intro j
    unfold wst
    rw [w0_23 (by omega), w0_23 (by omega), w0_23 (by omega), w0_23 (by omega), w0_23 (by omega), w0_23 (by omega)]
    repeat' split
    all_goals rfl
  have e25 : ∀ j, wrs w0M 25 0 j = 0 := by
    intro j
    unfold wrs
    rw [w0_23 (by omega)]
    split <;> rfl
  refine ⟨⟨?_, Or.inl (w0_23 (by omega)), ?_, sW_0 e0⟩, ?_, ?_, ⟨⟨0, by omega, w0_23 (by omega), w0_23 (by omega), fun i hi => by omega⟩, ?_⟩, ⟨fun _ _ => 0, 0, by omega, ⟨0, by omega, w0_23 (by omega), w0_23 (by omega), fun a ha => by omega⟩, ⟨w0_23 (by omega), fun a ha => by omega⟩, fun a ha => by omega⟩, ?_, ⟨0, by omega, w0_23 (by omega), w0_23 (by omega), fun i hi => by omega⟩, ?_⟩
  · rw [w0_23 (by omega), w0_23 (by omega)]
  · funext j
    rw [e0, e25]
  · unfold RelF
    rw [w0_23 (by omega), w0_23 (by omega)]
  · intro q hq
    refine Or.inl ⟨w0_23 (by omega), ?_⟩
    unfold w0M
    rw [if_pos rfl]
  · rw [w0_23 (by omega), w0_23 (by omega)]
  · intro j hj
    exact Or.inl ⟨w0_23 (by omega), w0_23 (by omega)⟩
  · intro _
    exact ⟨w0_23 (by omega), fun j hj => w0_23 (by omega)⟩
