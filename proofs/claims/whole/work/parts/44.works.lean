/-! THE TEXT: works -/
def RF2 (N N' : wc_M) : Prop := ∀ k i s, ¬ ((k = 21 ∧ 10 ≤ s ∧ s ≤ 17) ∨ k = 28) → N' k i s = N k i s
theorem RF_2 {N N' : wc_M} (h : RF N N') : RF2 N N' := fun k i s hz => h k i s (by omega)
theorem RF2_t {M M' M'' : wc_M} (h : RF2 M M') (h2 : RF2 M' M'') : RF2 M M'' := fun k i s hz => by rw [h2 k i s hz, h k i s hz]
theorem sWn_put {st : Nat → Int32} {c : Nat} {k h : Int32} (h0 : st (9 + c) = 0) (hk : ¬ k = 0) (hc : c < 16) : ∀ n, n ≤ 16 → sWn (sPut st c k h) n = sWn st n + (if c < n then 1 else 0)
  | 0, _ => by rw [sWn, sWn, if_neg (by omega)]
  | n + 1, hn => by
    have ih := sWn_put (k := k) (h := h) h0 hk hc n (by omega)
    rw [sWn_s, sWn_s, ih]
    by_cases e : n = c
    · subst e
      have e1 : sPut st n k h (9 + n) = k := by
        unfold sPut
        rw [if_pos rfl]
      rw [e1, if_neg hk, if_pos h0, if_neg (show ¬ n < n by omega), if_pos (show n < n + 1 by omega)]
    · rw [sPut_off (by omega) (by omega) (by omega)]
      by_cases h2 : c < n
      · rw [if_pos h2, if_pos (show c < n + 1 by omega)]
        omega
      · rw [if_neg h2, if_neg (show ¬ c < n + 1 by omega)]
        rfl
theorem kOf (x : Int32) : f_T_kindOf x = 0 ∨ ∃ k, 1 ≤ k ∧ k ≤ 5 ∧ f_T_kindOf x = nI k := by
  unfold f_T_kindOf
  split
  · exact Or.inr ⟨4, by omega, by omega, rfl⟩
  · split
    · exact Or.inr ⟨2, by omega, by omega, rfl⟩
    · split
      · exact Or.inr ⟨3, by omega, by omega, rfl⟩
      · split
        · exact Or.inr ⟨5, by omega, by omega, rfl⟩
        · split
          · exact Or.inr ⟨1, by omega, by omega, rfl⟩
          · exact Or.inl rfl
theorem tk_next {N : wc_M} {T : Nat → Int32} {n p p' : Nat} (hn : n ≤ 120) (h : Tk N T n p) (h10 : N 21 0 10 = nI p') (hp : p' ≤ n) : ∃ N', f_M_nextToken N = some N' ∧ Tk N' T n p' ∧ ∀ k i s, (k ≠ 21 ∨ s < 10 ∨ 13 < s) → N' k i s = N k i s := by
  obtain ⟨h1, h2, h3, h4, h5⟩ := h
  exact r_next hn h2 h3 h10 hp
theorem p_hasX {M : wc_M} {c : Nat} {S : Nat → Int32} (hS : wst M 1 = S) (hc : c < 16) : f_P_hasWork 1 (nI c) M = some (if S (9 + c) = 0 then 0 else 1) := by
  rw [p_has hc, hS]
theorem work1 {M : wc_M} {T S : Nat → Int32} {n p w zk : Nat} (hn : n ≤ 120) (hC : CTs M T n p) (hS : wst M 1 = S) (hd : sKd S) (he : ∀ c, c < 16 → S (9 + c) = 0 → S (25 + c) = 0 ∧ S (41 + c) = 0) (hw : w < 6) : (∃ f pl M', f_T_readWork (nI zk) 1 M = some (0, M') ∧ CF M M' ∧ M' 4 0 2 = f ∧ M' 4 0 3 = nI pl ∧ ∀ N p0, Tk N T n p0 → N 21 0 10 = nI p → (∀ j, j < 57 → N 28 0 j = S j) → N 21 0 16 = nI w → ∃ N', f_M_readWork (nI zk) N = some (0, N') ∧ N' 21 0 14 = f ∧ N' 21 0 13 = nI pl ∧ RF2 N N') ∨ (∃ c h p' M', c < 16 ∧ h ≤ 99 ∧ S (9 + c) = 0 ∧ f_T_readWork (nI zk) 1 M = some (1, M') ∧ CF M M' ∧ CTs M' T n p' ∧ M' 4 0 2 = M 4 0 2 ∧ wst M' 1 = sPut S c (nI zk) (nI h) ∧ M' 6 1 5 = M 6 1 5 ∧ ∀ N p0, Tk N T n p0 → N 21 0 10 = nI p → (∀ j, j < 57 → N 28 0 j = S j) → N 21 0 16 = nI w → ∃ N', f_M_readWork (nI zk) N = some (1, N') ∧ Tk N' T n p' ∧ (∀ j, j < 57 → N' 28 0 j = sPut S c (nI zk) (nI h) j) ∧ N' 21 0 16 = nI (w + 1) ∧ RF2 N N') := by
  have hC' := hC
  obtain ⟨c1, c4, cp, c5⟩ := hC
  obtain ⟨q1, q2⟩ := t_num 3 hn c1 c4 cp
  have e5 : (fun i => M 5 0 i) = T := c5
  rw [e5] at q1 q2
  have h16 : ∀ N : wc_M, N 21 0 16 = nI w → ¬ N 21 0 16 = 6 := by
    intro N h
    rw [h, n_eq (by decide) (by omega)]
    omega
  have enter : ∀ N p0, Tk N T n p0 → N 21 0 10 = nI p → N 21 0 16 = nI w → ∃ N1, Tk N1 T n p ∧ (∀ k i s, (k ≠ 21 ∨ s < 10 ∨ 13 < s) → N1 k i s = N k i s) ∧ f_M_readWork (nI zk) N = (if (N1 21 0 11) = (2 : Int32) then (if (N1 21 0 12) ≤ (3 : Int32) then (Option.bind (f_M_nextToken (wc_up N1 21 0 17 (N1 21 0 12))) fun m6 => (Option.bind (f_M_takes (44 : Int32) m6) fun q8 => (if q8.1 = (0 : Int32) then some ((0 : Int32), q8.2) else (if (q8.2 21 0 11) = (2 : Int32) then (if (3 : Int32) < (q8.2 21 0 12) then (Option.bind (if (q8.2 21 0 11) = (2 : Int32) then some (2 : Int32) else some (1 : Int32)) fun t9 => (Option.bind (f_M_faults t9 q8.2) fun q11 => (if wzb q11.1 = true then some (q11.1, q11.2) else none))) else (if wib (((9 : Int32) + ((4 : Int32) * (q8.2 21 0 17))) + (q8.2 21 0 12)) 57 = true then (if (q8.2 28 0 ((((9 : Int32) + ((4 : Int32) * (q8.2 21 0 17))) + (q8.2 21 0 12))).toNatClampNeg) ≤ (0 : Int32) then (Option.bind (f_M_nextToken q8.2) fun m15 => (if wib ((9 : Int32) + (((4 : Int32) * (q8.2 21 0 17)) + (q8.2 21 0 12))) 57 = true then (Option.bind (f_M_takes (44 : Int32) (wc_up (wc_up m15 28 0 (((9 : Int32) + (((4 : Int32) * (q8.2 21 0 17)) + (q8.2 21 0 12)))).toNatClampNeg (nI zk)) 21 0 16 (((wc_up m15 28 0 (((9 : Int32) + (((4 : Int32) * (q8.2 21 0 17)) + (q8.2 21 0 12)))).toNatClampNeg (nI zk)) 21 0 16) + (1 : Int32)))) fun q18 => (if q18.1 = (0 : Int32) then some ((0 : Int32), q18.2) else (Option.bind (f_M_takesNumber (0 : Int32) (99 : Int32) ((25 : Int32) + (((4 : Int32) * (q8.2 21 0 17)) + (q8.2 21 0 12))) (59 : Int32) q18.2) fun q20 => (if q20.1 = (0 : Int32) then some ((0 : Int32), q20.2) else some ((1 : Int32), q20.2))))) else none)) else (Option.bind (if (q8.2 21 0 11) = (2 : Int32) then some (2 : Int32) else some (1 : Int32)) fun t21 => (Option.bind (f_M_faults t21 q8.2) fun q23 => (if wzb q23.1 = true then some (q23.1, q23.2) else none)))) else none)) else (Option.bind (if (q8.2 21 0 11) = (2 : Int32) then some (2 : Int32) else some (1 : Int32)) fun t25 => (Option.bind (f_M_faults t25 q8.2) fun q27 => (if wzb q27.1 = true then some (q27.1, q27.2) else none))))))) else (Option.bind (if (N1 21 0 11) = (2 : Int32) then some (2 : Int32) else some (1 : Int32)) fun t29 => (Option.bind (f_M_faults t29 N1) fun q31 => (if wzb q31.1 = true then some (q31.1, q31.2) else none)))) else (Option.bind (if (N1 21 0 11) = (2 : Int32) then some (2 : Int32) else some (1 : Int32)) fun t33 => (Option.bind (f_M_faults t33 N1) fun q35 => (if wzb q35.1 = true then some (q35.1, q35.2) else none)))) := by
    intro N p0 hN h10 h16'
    obtain ⟨N1, n1, n2, n3⟩ := tk_next hn hN h10 cp
    refine ⟨N1, n2, n3, ?_⟩
    unfold f_M_readWork
    rw [if_neg (h16 N h16'), n1, Option.bind_some]
  have flt : ∀ (N : wc_M) (f : Int32), (Option.bind (f_M_faults f N) fun q35 => (if wzb q35.1 = true then some (q35.1, q35.2) else none)) = some (0, wc_up N 21 0 14 f) := fun N f => rfl
  have f14 : ∀ (N : wc_M) (f : Int32), wc_up N 21 0 14 f 21 0 14 = f := by
    intro N f
    unfold wc_up
    rw [if_pos ⟨rfl, rfl, rfl⟩]
  have r14 : ∀ (N N1 : wc_M) (f : Int32), RF2 N N1 → RF2 N (wc_up N1 21 0 14 f) := by
    intro N N1 f h k i s hz
    unfold wc_up
    rw [if_neg (by omega)]
    exact h k i s hz
  have rn : ∀ (N N1 : wc_M), (∀ k i s, (k ≠ 21 ∨ s < 10 ∨ 13 < s) → N1 k i s = N k i s) → RF2 N N1 := fun N N1 h k i s hz => h k i s (by omega)
  have badX : (nNo T n p ∨ n3d T n p) → (∃ f pl M', f_T_readWork (nI zk) 1 M = some (0, M') ∧ CF M M' ∧ M' 4 0 2 = f ∧ M' 4 0 3 = nI pl ∧ ∀ N p0, Tk N T n p0 → N 21 0 10 = nI p → (∀ j, j < 57 → N 28 0 j = S j) → N 21 0 16 = nI w → ∃ N', f_M_readWork (nI zk) N = some (0, N') ∧ N' 21 0 14 = f ∧ N' 21 0 13 = nI pl ∧ RF2 N N') := by
    intro h
    refine ⟨1, p, tF M 1 (nI p), ?_, CF_tF, tF_2, tF_3, ?_⟩
    · unfold f_T_readWork
      rw [q1 h, Option.bind_some]
      rfl
    · intro N p0 hN h10 _ h16'
      obtain ⟨N1, n1, n2, n3⟩ := enter N p0 hN h10 h16'
      have t := tkn n1 h
      refine ⟨wc_up N1 21 0 14 1, ?_, f14 _ _, n1.1, r14 _ _ _ (rn _ _ n2)⟩
      rw [n3, if_neg t, if_neg t, Option.bind_some, flt]
  rcases num_c T n p with h | ⟨x, l, hok⟩ | h
  · exact Or.inl (badX (Or.inl h))
  case inr.inr => exact Or.inl (badX (Or.inr h))
  have hb := nOk_b hok
  have a1 := q2 x l hok
  by_cases hx : x ≤ 3
  case neg =>
    rw [if_neg (by rw [n_ge (by decide) (by omega)]; exact hx)] at a1
    refine Or.inl ⟨2, p, tF M 2 (nI p), ?_, CF_tF, tF_2, tF_3, ?_⟩
    · unfold f_T_readWork
      rw [a1, Option.bind_some]
      rfl
    · intro N p0 hN h10 _ h16'
      obtain ⟨N1, n1, n2, n3⟩ := enter N p0 hN h10 h16'
      obtain ⟨t1, t2, t3⟩ := tk2 n1 hok
      refine ⟨wc_up N1 21 0 14 2, ?_, f14 _ _, n1.1, r14 _ _ _ (rn _ _ n2)⟩
      rw [n3, if_pos t1, t2, if_neg (by rw [n_ge (by decide) (by omega)]; exact hx), if_pos t1, Option.bind_some, flt]
  rw [if_pos (by rw [n_ge (by decide) (by omega)]; exact hx)] at a1
  -- the sign behind x
  generalize hM2 : wc_up M 4 0 4 (nI (p + l)) = M2 at a1
  have F2 : CF M M2 := by rw [← hM2]; exact CF_at
  have C2 : CTs M2 T n (p + l) := CTs_u hC' (by rw [← hM2, at_4]) hb.2.2 F2
  have b2 := t_byte (M := M2) 44 hn C2.1 C2.2.1 C2.2.2.1
  have T2 : M2 5 0 (p + l) = T (p + l) := by rw [C2.2.2.2]
  rw [T2] at b2
  have enter2 : ∀ N p0, Tk N T n p0 → N 21 0 10 = nI p → N 21 0 16 = nI w → ∃ N2, Tk N2 T n (p + l) ∧ (∀ k i s, (k ≠ 21 ∨ s < 10 ∨ 13 < s) → N2 k i s = if k = 21 ∧ i = 0 ∧ s = 17 then nI x else N k i s) ∧ f_M_readWork (nI zk) N = (Option.bind (f_M_takes (44 : Int32) N2) fun q8 => (if q8.1 = (0 : Int32) then some ((0 : Int32), q8.2) else (if (q8.2 21 0 11) = (2 : Int32) then (if (3 : Int32) < (q8.2 21 0 12) then (Option.bind (if (q8.2 21 0 11) = (2 : Int32) then some (2 : Int32) else some (1 : Int32)) fun t9 => (Option.bind (f_M_faults t9 q8.2) fun q11 => (if wzb q11.1 = true then some (q11.1, q11.2) else none))) else (if wib (((9 : Int32) + ((4 : Int32) * (q8.2 21 0 17))) + (q8.2 21 0 12)) 57 = true then (if (q8.2 28 0 ((((9 : Int32) + ((4 : Int32) * (q8.2 21 0 17))) + (q8.2 21 0 12))).toNatClampNeg) ≤ (0 : Int32) then (Option.bind (f_M_nextToken q8.2) fun m15 => (if wib ((9 : Int32) + (((4 : Int32) * (q8.2 21 0 17)) + (q8.2 21 0 12))) 57 = true then (Option.bind (f_M_takes (44 : Int32) (wc_up (wc_up m15 28 0 (((9 : Int32) + (((4 : Int32) * (q8.2 21 0 17)) + (q8.2 21 0 12)))).toNatClampNeg (nI zk)) 21 0 16 (((wc_up m15 28 0 (((9 : Int32) + (((4 : Int32) * (q8.2 21 0 17)) + (q8.2 21 0 12)))).toNatClampNeg (nI zk)) 21 0 16) + (1 : Int32)))) fun q18 => (if q18.1 = (0 : Int32) then some ((0 : Int32), q18.2) else (Option.bind (f_M_takesNumber (0 : Int32) (99 : Int32) ((25 : Int32) + (((4 : Int32) * (q8.2 21 0 17)) + (q8.2 21 0 12))) (59 : Int32) q18.2) fun q20 => (if q20.1 = (0 : Int32) then some ((0 : Int32), q20.2) else some ((1 : Int32), q20.2))))) else none)) else (Option.bind (if (q8.2 21 0 11) = (2 : Int32) then some (2 : Int32) else some (1 : Int32)) fun t21 => (Option.bind (f_M_faults t21 q8.2) fun q23 => (if wzb q23.1 = true then some (q23.1, q23.2) else none)))) else none)) else (Option.bind (if (q8.2 21 0 11) = (2 : Int32) then some (2 : Int32) else some (1 : Int32)) fun t25 => (Option.bind (f_M_faults t25 q8.2) fun q27 => (if wzb q27.1 = true then some (q27.1, q27.2) else none)))))) := by
    intro N p0 hN h10 h16'
    obtain ⟨N1, n1, n2, n3⟩ := enter N p0 hN h10 h16'
    obtain ⟨t1, t2, t3⟩ := tk2 n1 hok
    obtain ⟨N2, m1, m2, m3⟩ := r_next (N := wc_up N1 21 0 17 (nI x)) (T := T) (p := p + l) hn n1.2.1 (fun i hi => n1.2.2.1 i hi) t3 hb.2.2
    refine ⟨N2, m2, ?_, ?_⟩
    · intro k i s hz
      rw [m3 _ _ _ hz]
      unfold wc_up
      rw [n2 _ _ _ hz]
    · rw [n3, if_pos t1, t2, if_pos (by rw [n_ge (by decide) (by omega)]; exact hx), m1, Option.bind_some]
  have d44 : ∀ d, d < 10 → ¬ (44 : Int32) = nI (48 + d) := by decide
  have d59 : ∀ d, d < 10 → ¬ (59 : Int32) = nI (48 + d) := by decide
  have r17 : ∀ (N N2 : wc_M), (∀ k i s, (k ≠ 21 ∨ s < 10 ∨ 13 < s) → N2 k i s = if k = 21 ∧ i = 0 ∧ s = 17 then nI x else N k i s) → RF2 N N2 := by
    intro N N2 h k i s hz
    rw [h _ _ _ (by omega), if_neg (by omega)]
  by_cases hs2 : p + l < n ∧ T (p + l) = 44
  case neg =>
    rw [if_neg hs2] at b2
    refine Or.inl ⟨1, p + l, tF M2 1 (nI (p + l)), ?_, CF_t F2 CF_tF, tF_2, tF_3, ?_⟩
    · unfold f_T_readWork
      rw [a1, Option.bind_some]
      show (if nI x < 0 then _ else Option.bind (f_T_readByte 44 M2) _) = _
      rw [if_neg (n_n0 (by omega)), b2, Option.bind_some]
      rfl
    · intro N p0 hN h10 _ h16'
      obtain ⟨N2, n1, n2, n3⟩ := enter2 N p0 hN h10 h16'
      rcases r_takes hn n1 (c := 44) rfl d44 with ⟨z1, z2, _⟩ | ⟨_, m1⟩
      · exact absurd ⟨z1, z2⟩ hs2
      · refine ⟨wc_up N2 21 0 14 1, ?_, f14 _ _, n1.1, r14 _ _ _ (r17 _ _ n2)⟩
        rw [n3, m1, Option.bind_some]
        rfl
  rw [if_pos hs2] at b2
  generalize hM3 : wc_up M2 4 0 4 (nI (p + l + 1)) = M3 at b2
  have F3 : CF M M3 := CF_t F2 (by rw [← hM3]; exact CF_at)
  have C3 : CTs M3 T n (p + l + 1) := CTs_u hC' (by rw [← hM3, at_4]) (by omega) F3
  -- y
  obtain ⟨y1, y2⟩ := t_num 3 hn C3.1 C3.2.1 C3.2.2.1
  have e53 : (fun i => M3 5 0 i) = T := C3.2.2.2
  rw [e53] at y1 y2
  have enter3 : ∀ N p0, Tk N T n p0 → N 21 0 10 = nI p → N 21 0 16 = nI w → ∃ N3, Tk N3 T n (p + l + 1) ∧ (∀ k i s, (k ≠ 21 ∨ s < 10 ∨ 13 < s) → N3 k i s = if k = 21 ∧ i = 0 ∧ s = 17 then nI x else N k i s) ∧ f_M_readWork (nI zk) N = (if (N3 21 0 11) = (2 : Int32) then (if (3 : Int32) < (N3 21 0 12) then (Option.bind (if (N3 21 0 11) = (2 : Int32) then some (2 : Int32) else some (1 : Int32)) fun t9 => (Option.bind (f_M_faults t9 N3) fun q11 => (if wzb q11.1 = true then some (q11.1, q11.2) else none))) else (if wib (((9 : Int32) + ((4 : Int32) * nI x)) + (N3 21 0 12)) 57 = true then (if (N3 28 0 ((((9 : Int32) + ((4 : Int32) * nI x)) + (N3 21 0 12))).toNatClampNeg) ≤ (0 : Int32) then (Option.bind (f_M_nextToken N3) fun m15 => (if wib ((9 : Int32) + (((4 : Int32) * nI x) + (N3 21 0 12))) 57 = true then (Option.bind (f_M_takes (44 : Int32) (wc_up (wc_up m15 28 0 (((9 : Int32) + (((4 : Int32) * nI x) + (N3 21 0 12)))).toNatClampNeg (nI zk)) 21 0 16 (((wc_up m15 28 0 (((9 : Int32) + (((4 : Int32) * nI x) + (N3 21 0 12)))).toNatClampNeg (nI zk)) 21 0 16) + (1 : Int32)))) fun q18 => (if q18.1 = (0 : Int32) then some ((0 : Int32), q18.2) else (Option.bind (f_M_takesNumber (0 : Int32) (99 : Int32) ((25 : Int32) + (((4 : Int32) * nI x) + (N3 21 0 12))) (59 : Int32) q18.2) fun q20 => (if q20.1 = (0 : Int32) then some ((0 : Int32), q20.2) else some ((1 : Int32), q20.2))))) else none)) else (Option.bind (if (N3 21 0 11) = (2 : Int32) then some (2 : Int32) else some (1 : Int32)) fun t21 => (Option.bind (f_M_faults t21 N3) fun q23 => (if wzb q23.1 = true then some (q23.1, q23.2) else none)))) else none)) else (Option.bind (if (N3 21 0 11) = (2 : Int32) then some (2 : Int32) else some (1 : Int32)) fun t25 => (Option.bind (f_M_faults t25 N3) fun q27 => (if wzb q27.1 = true then some (q27.1, q27.2) else none)))) := by
    intro N p0 hN h10 h16'
    obtain ⟨N2, n1, n2, n3⟩ := enter2 N p0 hN h10 h16'
    rcases r_takes hn n1 (c := 44) rfl d44 with ⟨z1, z2, N3, m1, m2, m3⟩ | ⟨z, _⟩
    · have e17 : N3 21 0 17 = nI x := by
        rw [m3 _ _ _ (by omega), n2 _ _ _ (by omega), if_pos ⟨rfl, rfl, rfl⟩]
      refine ⟨N3, m2, fun k i s hz => by rw [m3 _ _ _ hz, n2 _ _ _ hz], ?_⟩
      rw [n3, m1, Option.bind_some]
      show (if (1 : Int32) = 0 then _ else _) = _
      rw [if_neg (by decide)]
      simp only [e17]
    · exact absurd hs2 z
  have pre3 : ∀ (R : Option (Int32 × wc_M)), (Option.bind (f_T_readNumber (3 : Int32) M3) fun q6 => (if (0 : Int32) ≤ q6.1 then (Option.bind (f_P_hasWork 1 (((4 : Int32) * nI x) + q6.1) q6.2) fun v8 => (if v8 = (0 : Int32) then (Option.bind (f_T_readByte (44 : Int32) q6.2) fun q10 => (if q10.1 = (0 : Int32) then some ((0 : Int32), q10.2) else (Option.bind (f_T_readNumber (99 : Int32) q10.2) fun q12 => (if q12.1 < (0 : Int32) then some ((0 : Int32), q12.2) else (Option.bind (f_T_readByte (59 : Int32) q12.2) fun q14 => (if q14.1 = (0 : Int32) then some ((0 : Int32), q14.2) else (Option.bind (f_P_put 1 (((4 : Int32) * nI x) + q6.1) (nI zk) q12.1 q14.2) fun m16 => some ((1 : Int32), m16)))))))) else (Option.bind (f_T_fail (2 : Int32) (nI (p + l + 1)) q6.2) fun q18 => (if wzb q18.1 = true then some (q18.1, q18.2) else none)))) else some ((0 : Int32), q6.2))) = R → f_T_readWork (nI zk) 1 M = R := by
    intro R hR
    unfold f_T_readWork
    rw [a1, Option.bind_some]
    show (if nI x < 0 then _ else Option.bind (f_T_readByte 44 M2) _) = _
    rw [if_neg (n_n0 (by omega)), b2, Option.bind_some]
    show (if (1 : Int32) = 0 then _ else (Option.bind (f_T_readNumber (3 : Int32) M3) fun q6 => (if (0 : Int32) ≤ q6.1 then (Option.bind (f_P_hasWork 1 (((4 : Int32) * nI x) + q6.1) q6.2) fun v8 => (if v8 = (0 : Int32) then (Option.bind (f_T_readByte (44 : Int32) q6.2) fun q10 => (if q10.1 = (0 : Int32) then some ((0 : Int32), q10.2) else (Option.bind (f_T_readNumber (99 : Int32) q10.2) fun q12 => (if q12.1 < (0 : Int32) then some ((0 : Int32), q12.2) else (Option.bind (f_T_readByte (59 : Int32) q12.2) fun q14 => (if q14.1 = (0 : Int32) then some ((0 : Int32), q14.2) else (Option.bind (f_P_put 1 (((4 : Int32) * nI x) + q6.1) (nI zk) q12.1 q14.2) fun m16 => some ((1 : Int32), m16)))))))) else (Option.bind (f_T_fail (2 : Int32) (M3 4 0 4) q6.2) fun q18 => (if wzb q18.1 = true then some (q18.1, q18.2) else none)))) else some ((0 : Int32), q6.2)))) = _
    rw [if_neg (by decide), C3.2.1]
    exact hR
  have badY : (nNo T n (p + l + 1) ∨ n3d T n (p + l + 1)) → (∃ f pl M', f_T_readWork (nI zk) 1 M = some (0, M') ∧ CF M M' ∧ M' 4 0 2 = f ∧ M' 4 0 3 = nI pl ∧ ∀ N p0, Tk N T n p0 → N 21 0 10 = nI p → (∀ j, j < 57 → N 28 0 j = S j) → N 21 0 16 = nI w → ∃ N', f_M_readWork (nI zk) N = some (0, N') ∧ N' 21 0 14 = f ∧ N' 21 0 13 = nI pl ∧ RF2 N N') := by
    intro h
    refine ⟨1, p + l + 1, tF M3 1 (nI (p + l + 1)), ?_, CF_t F3 CF_tF, tF_2, tF_3, ?_⟩
    · apply pre3
      rw [y1 h, Option.bind_some]
      rfl
    · intro N p0 hN h10 _ h16'
      obtain ⟨N3, n1, n2, n3⟩ := enter3 N p0 hN h10 h16'
      have t := tkn n1 h
      refine ⟨wc_up N3 21 0 14 1, ?_, f14 _ _, n1.1, r14 _ _ _ (r17 _ _ n2)⟩
      rw [n3, if_neg t, if_neg t, Option.bind_some, flt]
  rcases num_c T n (p + l + 1) with h | ⟨y, l2, hok2⟩ | h
  · exact Or.inl (badY (Or.inl h))
  case inr.inr => exact Or.inl (badY (Or.inr h))
  have hb2 := nOk_b hok2
  have a3 := y2 y l2 hok2
  by_cases hy : y ≤ 3
  case neg =>
    rw [if_neg (by rw [n_ge (by decide) (by omega)]; exact hy)] at a3
    refine Or.inl ⟨2, p + l + 1, tF M3 2 (nI (p + l + 1)), ?_, CF_t F3 CF_tF, tF_2, tF_3, ?_⟩
    · apply pre3
      rw [a3, Option.bind_some]
      rfl
    · intro N p0 hN h10 _ h16'
      obtain ⟨N3, n1, n2, n3⟩ := enter3 N p0 hN h10 h16'
      obtain ⟨t1, t2, t3⟩ := tk2 n1 hok2
      refine ⟨wc_up N3 21 0 14 2, ?_, f14 _ _, n1.1, r14 _ _ _ (r17 _ _ n2)⟩
      rw [n3, if_pos t1, t2, if_pos (by rw [n_gt (by decide) (by omega)]; omega), if_pos t1, Option.bind_some, flt]
  rw [if_pos (by rw [n_ge (by decide) (by omega)]; exact hy)] at a3
  generalize hM4 : wc_up M3 4 0 4 (nI (p + l + 1 + l2)) = M4 at a3
  have F4 : CF M M4 := CF_t F3 (by rw [← hM4]; exact CF_at)
  have C4 : CTs M4 T n (p + l + 1 + l2) := CTs_u hC' (by rw [← hM4, at_4]) hb2.2.2 F4
  have S4 : wst M4 1 = S := by
    rw [← hS]
    refine wst_fr (fun k s g1 g2 => ?_)
    rw [← hM4, ← hM3, ← hM2]
    unfold wc_up
    rw [if_neg (by omega), if_neg (by omega), if_neg (by omega)]
  have cC : 4 * x + y < 16 := by omega
  have ecell : (4 : Int32) * nI x + nI y = nI (4 * x + y) := by rw [n_ml, nI_add]
  have e9 : (9 : Int32) + (4 : Int32) * nI x + nI y = nI (9 + (4 * x + y)) := by
    rw [n_ml, n_al, nI_add]
    congr 1
    omega
  have e9b : (9 : Int32) + nI (4 * x + y) = nI (9 + (4 * x + y)) := by rw [n_al]
  have e25 : (25 : Int32) + nI (4 * x + y) = nI (25 + (4 * x + y)) := by rw [n_al]
  obtain ⟨kn, hkn, hke⟩ := hd (4 * x + y) cC
  have pre4 : ∀ (R : Option (Int32 × wc_M)), (if S (9 + (4 * x + y)) = 0 then (Option.bind (f_T_readByte (44 : Int32) M4) fun q10 => (if q10.1 = (0 : Int32) then some ((0 : Int32), q10.2) else (Option.bind (f_T_readNumber (99 : Int32) q10.2) fun q12 => (if q12.1 < (0 : Int32) then some ((0 : Int32), q12.2) else (Option.bind (f_T_readByte (59 : Int32) q12.2) fun q14 => (if q14.1 = (0 : Int32) then some ((0 : Int32), q14.2) else (Option.bind (f_P_put 1 (nI (4 * x + y)) (nI zk) q12.1 q14.2) fun m16 => some ((1 : Int32), m16)))))))) else some (0, tF M4 2 (nI (p + l + 1)))) = R → f_T_readWork (nI zk) 1 M = R := by
    intro R hR
    apply pre3
    rw [a3, Option.bind_some]
    show (if (0 : Int32) ≤ nI y then (Option.bind (f_P_hasWork 1 (((4 : Int32) * nI x) + nI y) M4) fun v8 => (if v8 = (0 : Int32) then (Option.bind (f_T_readByte (44 : Int32) M4) fun q10 => (if q10.1 = (0 : Int32) then some ((0 : Int32), q10.2) else (Option.bind (f_T_readNumber (99 : Int32) q10.2) fun q12 => (if q12.1 < (0 : Int32) then some ((0 : Int32), q12.2) else (Option.bind (f_T_readByte (59 : Int32) q12.2) fun q14 => (if q14.1 = (0 : Int32) then some ((0 : Int32), q14.2) else (Option.bind (f_P_put 1 (((4 : Int32) * nI x) + nI y) (nI zk) q12.1 q14.2) fun m16 => some ((1 : Int32), m16)))))))) else (Option.bind (f_T_fail (2 : Int32) (nI (p + l + 1)) M4) fun q18 => (if wzb q18.1 = true then some (q18.1, q18.2) else none)))) else some ((0 : Int32), M4)) = _
    rw [if_pos (Int32.not_lt.mp (n_n0 (by omega))), ecell, p_hasX S4 cC, Option.bind_some]
    by_cases hz : S (9 + (4 * x + y)) = 0
    · rw [if_pos hz] at hR
      rw [if_pos hz, if_pos rfl]
      exact hR
    · rw [if_neg hz] at hR
      rw [if_neg hz, if_neg (by decide), ← hR]
      rfl
  by_cases hocc : S (9 + (4 * x + y)) = 0
  case neg =>
    refine Or.inl ⟨2, p + l + 1, tF M4 2 (nI (p + l + 1)), ?_, CF_t F4 CF_tF, tF_2, tF_3, ?_⟩
    · apply pre4
      rw [if_neg hocc]
    · intro N p0 hN h10 hrow h16'
      obtain ⟨N3, n1, n2, n3⟩ := enter3 N p0 hN h10 h16'
      obtain ⟨t1, t2, t3⟩ := tk2 n1 hok2
      refine ⟨wc_up N3 21 0 14 2, ?_, f14 _ _, n1.1, r14 _ _ _ (r17 _ _ n2)⟩
      have e28 : N3 28 0 (9 + (4 * x + y)) = nI kn := by
        rw [n2 _ _ _ (by omega), if_neg (by omega), hrow _ (by omega), hke]
      have hk0 : kn ≠ 0 := by
        intro z
        rw [hke, z] at hocc
        exact hocc rfl
      rw [n3, if_pos t1, t2, if_neg (by rw [n_gt (by decide) (by omega)]; omega), e9, if_pos (n_wib (by omega) (by decide)), n_t (by omega), e28, if_neg (by rw [n_ge (by decide) (by omega)]; omega), if_pos t1, Option.bind_some, flt]
  -- the sign behind y
  have b4 := t_byte (M := M4) 44 hn C4.1 C4.2.1 C4.2.2.1
  have T4 : M4 5 0 (p + l + 1 + l2) = T (p + l + 1 + l2) := by rw [C4.2.2.2]
  rw [T4] at b4
  have enter4 : ∀ N p0, Tk N T n p0 → N 21 0 10 = nI p → (∀ j, j < 57 → N 28 0 j = S j) → N 21 0 16 = nI w → ∃ N4, Tk N4 T n (p + l + 1 + l2) ∧ RF2 N N4 ∧ (∀ j, j < 57 → N4 28 0 j = if j = 9 + (4 * x + y) then nI zk else S j) ∧ N4 21 0 16 = nI (w + 1) ∧ f_M_readWork (nI zk) N = (Option.bind (f_M_takes (44 : Int32) N4) fun q18 => (if q18.1 = (0 : Int32) then some ((0 : Int32), q18.2) else (Option.bind (f_M_takesNumber (0 : Int32) (99 : Int32) (nI (25 + (4 * x + y))) (59 : Int32) q18.2) fun q20 => (if q20.1 = (0 : Int32) then some ((0 : Int32), q20.2) else some ((1 : Int32), q20.2))))) := by
    intro N p0 hN h10 hrow h16'
    obtain ⟨N3, n1, n2, n3⟩ := enter3 N p0 hN h10 h16'
    obtain ⟨t1, t2, t3⟩ := tk2 n1 hok2
    obtain ⟨N15, m1, m2, m3⟩ := tk_next hn n1 t3 hb2.2.2
    have e28 : N3 28 0 (9 + (4 * x + y)) = 0 := by
      rw [n2 _ _ _ (by omega), if_neg (by omega), hrow _ (by omega), hocc]
    have e16 : wc_up N15 28 0 (9 + (4 * x + y)) (nI zk) 21 0 16 = nI w := by
      unfold wc_up
      rw [if_neg (by omega), m3 _ _ _ (by omega), n2 _ _ _ (by omega), if_neg (by omega)]
      exact h16'
    refine ⟨wc_up (wc_up N15 28 0 (9 + (4 * x + y)) (nI zk)) 21 0 16 (nI (w + 1)), ?_, ?_, ?_, ?_, ?_⟩
    · obtain ⟨g1, g2, g3, g4, g5⟩ := m2
      exact ⟨g1, g2, fun i hi => g3 i hi, g4, g5⟩
    · intro k i s hz
      unfold wc_up
      rw [if_neg (by omega), if_neg (by omega), m3 _ _ _ (by omega), n2 _ _ _ (by omega), if_neg (by omega)]
    · intro j hj
      unfold wc_up
      rw [if_neg (by omega)]
      by_cases e : j = 9 + (4 * x + y)
      · rw [if_pos ⟨rfl, rfl, e⟩, if_pos e]
      · rw [if_neg (fun z => e z.2.2), if_neg e, m3 _ _ _ (by omega), n2 _ _ _ (by omega), if_neg (by omega), hrow j hj]
    · unfold wc_up
      rw [if_pos ⟨rfl, rfl, rfl⟩]
    · rw [n3, if_pos t1, t2, if_neg (by rw [n_gt (by decide) (by omega)]; omega), e9, if_pos (n_wib (by omega) (by decide)), n_t (by omega), e28, if_pos (by decide), m1, Option.bind_some, ecell, e9b, if_pos (n_wib (by omega) (by decide)), n_t (by omega), e16, n_ar, e25]
  by_cases hs4 : p + l + 1 + l2 < n ∧ T (p + l + 1 + l2) = 44
  case neg =>
    rw [if_neg hs4] at b4
    refine Or.inl ⟨1, p + l + 1 + l2, tF M4 1 (nI (p + l + 1 + l2)), ?_, CF_t F4 CF_tF, tF_2, tF_3, ?_⟩
    · apply pre4
      rw [if_pos hocc, b4, Option.bind_some]
      rfl
    · intro N p0 hN h10 hrow h16'
      obtain ⟨N4, n1, n2, n3, n4, n5⟩ := enter4 N p0 hN h10 hrow h16'
      rcases r_takes hn n1 (c := 44) rfl d44 with ⟨z1, z2, _⟩ | ⟨_, m1⟩
      · exact absurd ⟨z1, z2⟩ hs4
      · refine ⟨wc_up N4 21 0 14 1, ?_, f14 _ _, n1.1, r14 _ _ _ n2⟩
        rw [n5, m1, Option.bind_some]
        rfl
  rw [if_pos hs4] at b4
  generalize hM5 : wc_up M4 4 0 4 (nI (p + l + 1 + l2 + 1)) = M5 at b4
  have F5 : CF M M5 := CF_t F4 (by rw [← hM5]; exact CF_at)
  have C5 : CTs M5 T n (p + l + 1 + l2 + 1) := CTs_u hC' (by rw [← hM5, at_4]) (by omega) F5
  have S5 : wst M5 1 = S := by
    rw [← S4]
    refine wst_fr (fun k s g1 g2 => ?_)
    rw [← hM5]
    unfold wc_up
    rw [if_neg (by omega)]
  have enter5 : ∀ N p0, Tk N T n p0 → N 21 0 10 = nI p → (∀ j, j < 57 → N 28 0 j = S j) → N 21 0 16 = nI w → ∃ N5, Tk N5 T n (p + l + 1 + l2 + 1) ∧ RF2 N N5 ∧ (∀ j, j < 57 → N5 28 0 j = if j = 9 + (4 * x + y) then nI zk else S j) ∧ N5 21 0 16 = nI (w + 1) ∧ f_M_readWork (nI zk) N = (Option.bind (f_M_takesNumber (0 : Int32) (nI 99) (nI (25 + (4 * x + y))) (59 : Int32) N5) fun q20 => (if q20.1 = (0 : Int32) then some ((0 : Int32), q20.2) else some ((1 : Int32), q20.2))) := by
    intro N p0 hN h10 hrow h16'
    obtain ⟨N4, n1, n2, n3, n4, n5⟩ := enter4 N p0 hN h10 hrow h16'
    rcases r_takes hn n1 (c := 44) rfl d44 with ⟨z1, z2, N5, m1, m2, m3⟩ | ⟨z, _⟩
    · refine ⟨N5, m2, RF2_t n2 (rn _ _ m3), fun j hj => by rw [m3 _ _ _ (by omega)]; exact n3 j hj, by rw [m3 _ _ _ (by omega)]; exact n4, ?_⟩
      rw [n5, m1, Option.bind_some]
      show (if (1 : Int32) = 0 then _ else _) = _
      rw [if_neg (by decide)]
      rfl
    · exact absurd hs4 z
  have pre5 : ∀ (R : Option (Int32 × wc_M)), (Option.bind (f_T_readNumber (nI 99) M5) fun q12 => (if q12.1 < (0 : Int32) then some ((0 : Int32), q12.2) else (Option.bind (f_T_readByte (59 : Int32) q12.2) fun q14 => (if q14.1 = (0 : Int32) then some ((0 : Int32), q14.2) else (Option.bind (f_P_put 1 (nI (4 * x + y)) (nI zk) q12.1 q14.2) fun m16 => some ((1 : Int32), m16)))))) = R → f_T_readWork (nI zk) 1 M = R := by
    intro R hR
    apply pre4
    rw [if_pos hocc, b4, Option.bind_some]
    show (if (1 : Int32) = 0 then _ else _) = _
    rw [if_neg (by decide)]
    exact hR
  rcases ns (K := 99) (a := 25 + (4 * x + y)) (c := 59) hn C5 (by omega) (by omega) rfl d59 with ⟨f, g1, g2⟩ | ⟨v, ll, hv, hpl, g1, ⟨hs, g2⟩ | ⟨hs1, hs6, g2⟩⟩
  · refine Or.inl ⟨f, p + l + 1 + l2 + 1, tF M5 f (nI (p + l + 1 + l2 + 1)), ?_, CF_t F5 CF_tF, tF_2, tF_3, ?_⟩
    · apply pre5
      rw [g1, Option.bind_some]
      rfl
    · intro N p0 hN h10 hrow h16'
      obtain ⟨N5, n1, n2, n3, n4, n5⟩ := enter5 N p0 hN h10 hrow h16'
      refine ⟨wc_up N5 21 0 14 f, ?_, f14 _ _, n1.1, r14 _ _ _ n2⟩
      rw [n5, g2 N5 n1, Option.bind_some]
      rfl
  · refine Or.inl ⟨1, p + l + 1 + l2 + 1 + ll, tF (wc_up M5 4 0 4 (nI (p + l + 1 + l2 + 1 + ll))) 1 (nI (p + l + 1 + l2 + 1 + ll)), ?_, CF_t F5 (CF_t CF_at CF_tF), tF_2, tF_3, ?_⟩
    · apply pre5
      have hb6 := t_byte (M := wc_up M5 4 0 4 (nI (p + l + 1 + l2 + 1 + ll))) (p := p + l + 1 + l2 + 1 + ll) 59 hn C5.1 at_4 hpl
      have e6 : wc_up M5 4 0 4 (nI (p + l + 1 + l2 + 1 + ll)) 5 0 (p + l + 1 + l2 + 1 + ll) = T (p + l + 1 + l2 + 1 + ll) := by
        rw [← C5.2.2.2]
        rfl
      rw [e6, if_neg hs] at hb6
      rw [g1, Option.bind_some]
      show (if nI v < 0 then _ else Option.bind (f_T_readByte 59 (wc_up M5 4 0 4 (nI (p + l + 1 + l2 + 1 + ll)))) _) = _
      rw [if_neg (n_n0 (by omega)), hb6, Option.bind_some]
      rfl
    · intro N p0 hN h10 hrow h16'
      obtain ⟨N5, n1, n2, n3, n4, n5⟩ := enter5 N p0 hN h10 hrow h16'
      obtain ⟨N6, m1, m2, m3, m4⟩ := g2 N5 n1
      refine ⟨N6, ?_, m2, m3, RF2_t n2 (RF_2 m4)⟩
      rw [n5, m1, Option.bind_some]
      rfl
  · generalize hM6 : wc_up (wc_up M5 4 0 4 (nI (p + l + 1 + l2 + 1 + ll))) 4 0 4 (nI (p + l + 1 + l2 + 1 + ll + 1)) = M6
    have F6 : CF M M6 := CF_t F5 (by rw [← hM6]; exact CF_t CF_at CF_at)
    have S6 : wst M6 1 = S := by
      rw [← S5]
      refine wst_fr (fun k s z1 z2 => ?_)
      rw [← hM6]
      unfold wc_up
      rw [if_neg (by omega), if_neg (by omega)]
    have hp6 := p_put (p := 1) (c := 4 * x + y) (k := nI zk) (h := nI v) (M := M6) cC
    rw [S6] at hp6
    generalize hM7 : mP M6 1 (sPut S (4 * x + y) (nI zk) (nI v)) (M6 6 1 5) = M7 at hp6
    have F7 : CF M M7 := CF_t F6 (fun k i s hz => by rw [← hM7, mP_off (by omega)])
    have oS : sOk S := by rw [← hS]; exact wst_ok M 1
    refine Or.inr ⟨4 * x + y, v, p + l + 1 + l2 + 1 + ll + 1, M7, cC, hv, hocc, ?_, F7, CTs_u hC' ?_ (by omega) F7, ?_, ?_, ?_, ?_⟩
    · apply pre5
      have hb6 := t_byte (M := wc_up M5 4 0 4 (nI (p + l + 1 + l2 + 1 + ll))) (p := p + l + 1 + l2 + 1 + ll) 59 hn C5.1 at_4 hpl
      have e6 : wc_up M5 4 0 4 (nI (p + l + 1 + l2 + 1 + ll)) 5 0 (p + l + 1 + l2 + 1 + ll) = T (p + l + 1 + l2 + 1 + ll) := by
        rw [← C5.2.2.2]
        rfl
      rw [e6, if_pos ⟨hs1, hs6⟩, hM6] at hb6
      rw [g1, Option.bind_some]
      show (if nI v < 0 then _ else Option.bind (f_T_readByte 59 (wc_up M5 4 0 4 (nI (p + l + 1 + l2 + 1 + ll)))) _) = _
      rw [if_neg (n_n0 (by omega)), hb6, Option.bind_some]
      show (if (1 : Int32) = 0 then _ else Option.bind (f_P_put 1 (nI (4 * x + y)) (nI zk) (nI v) M6) _) = _
      rw [if_neg (by decide), hp6, Option.bind_some]
    · rw [← hM7, mP_off (by omega), ← hM6, at_4]
    · rw [← hM7, mP_off (by omega), ← hM6, ← hM5, ← hM4, ← hM3, ← hM2]
      unfold wc_up
      rw [if_neg (by omega), if_neg (by omega), if_neg (by omega), if_neg (by omega), if_neg (by omega), if_neg (by omega)]
    · rw [← hM7, wst_mP (sPut_ok cC oS)]
    · rw [← hM7, mP_th, ← hM6, ← hM5, ← hM4, ← hM3, ← hM2]
      unfold wc_up
      rw [if_neg (by omega), if_neg (by omega), if_neg (by omega), if_neg (by omega), if_neg (by omega), if_neg (by omega)]
    · intro N p0 hN h10 hrow h16'
      obtain ⟨N5, n1, n2, n3, n4, n5⟩ := enter5 N p0 hN h10 hrow h16'
      obtain ⟨N6, m1, m2, m3, m4⟩ := g2 N5 n1
      refine ⟨N6, ?_, m2, ?_, ?_, RF2_t n2 (RF_2 m4)⟩
      · rw [n5, m1, Option.bind_some]
        rfl
      · intro j hj
        obtain ⟨s1, s2⟩ := he (4 * x + y) cC hocc
        rw [m3 j]
        unfold sPut
        by_cases j1 : j = 25 + (4 * x + y)
        · rw [if_pos j1, if_neg (by omega), if_pos j1]
        · rw [if_neg j1, n3 j hj]
          by_cases j2 : j = 9 + (4 * x + y)
          · rw [if_pos j2, if_pos j2]
          · rw [if_neg j2, if_neg j2, if_neg j1]
            by_cases j3 : j = 41 + (4 * x + y)
            · rw [if_pos j3, j3, s2]
            · rw [if_neg j3]
      · rw [m4 _ _ _ (by omega)]
        exact n4
