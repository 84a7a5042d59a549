/-! THE TEXT: a number and its sign; four of them -/
def CF (M M' : wc_M) : Prop := ∀ k i s, ¬ ((k = 4 ∧ 2 ≤ s) ∨ (6 ≤ k ∧ k ≤ 11 ∧ i = 1)) → M' k i s = M k i s
def RF (N N' : wc_M) : Prop := ∀ k i s, ¬ ((k = 21 ∧ 10 ≤ s ∧ s ≤ 14) ∨ k = 28) → N' k i s = N k i s
def CTs (M : wc_M) (T : Nat → Int32) (n p : Nat) : Prop := M 4 0 1 = nI n ∧ M 4 0 4 = nI p ∧ p ≤ n ∧ M 5 0 = T
theorem CF_t {M M' M'' : wc_M} (h : CF M M') (h2 : CF M' M'') : CF M M'' := fun k i s hz => by rw [h2 k i s hz, h k i s hz]
theorem RF_t {M M' M'' : wc_M} (h : RF M M') (h2 : RF M' M'') : RF M M'' := fun k i s hz => by rw [h2 k i s hz, h k i s hz]
theorem CTs_u {M M' : wc_M} {T : Nat → Int32} {n p p' : Nat} (h : CTs M T n p) (h4 : M' 4 0 4 = nI p') (hp : p' ≤ n) (hf : CF M M') : CTs M' T n p' := by
  obtain ⟨h1, h2, h3, h5⟩ := h
  refine ⟨by rw [hf _ _ _ (by omega)]; exact h1, h4, hp, ?_⟩
  rw [← h5]
  funext i
  exact hf _ _ _ (by omega)
theorem CF_at {M : wc_M} {v : Int32} : CF M (wc_up M 4 0 4 v) := by
  intro k i s hz
  unfold wc_up
  rw [if_neg (by omega)]
theorem CF_tF {M : wc_M} {f p : Int32} : CF M (tF M f p) := by
  intro k i s hz
  unfold tF wc_up
  rw [if_neg (by omega), if_neg (by omega)]
theorem at_4 {M : wc_M} {v : Int32} : wc_up M 4 0 4 v 4 0 4 = v := by
  unfold wc_up
  rw [if_pos ⟨rfl, rfl, rfl⟩]
theorem tF_2 {M : wc_M} {f p : Int32} : tF M f p 4 0 2 = f := by
  unfold tF wc_up
  rw [if_neg (by omega), if_pos ⟨rfl, rfl, rfl⟩]
theorem tF_3 {M : wc_M} {f p : Int32} : tF M f p 4 0 3 = p := by
  unfold tF wc_up
  rw [if_pos ⟨rfl, rfl, rfl⟩]
theorem nOk_u {T : Nat → Int32} {n p v l v' l' : Nat} (h : nOk T n p v l) (h' : nOk T n p v' l') : v = v' ∧ l = l' := by
  have dd : ∀ q d e, dg T n q d → dg T n q e → d = e := by
    rintro q d e ⟨_, h1, h2⟩ ⟨_, h3, h4⟩
    have := (nI_eq (by omega) (by omega)).mp (h2.symm.trans h4)
    omega
  rcases h with ⟨rfl, a1, a2⟩ | ⟨rfl, d, e, a1, a2, a3, rfl⟩
  · rcases h' with ⟨rfl, b1, b2⟩ | ⟨rfl, d', e', b1, b2, b3, rfl⟩
    · exact ⟨dd p v v' a1 b1, rfl⟩
    · exact absurd b2 (a2 e')
  · rcases h' with ⟨rfl, b1, b2⟩ | ⟨rfl, d', e', b1, b2, b3, rfl⟩
    · exact absurd a2 (b2 e)
    · have q1 := dd p d d' a1 b1
      have q2 := dd (p + 1) e e' a2 b2
      exact ⟨by omega, rfl⟩
theorem nOk_no {T : Nat → Int32} {n p v l : Nat} (h : nOk T n p v l) : ¬ nNo T n p ∧ ¬ n3d T n p := by
  rcases h with ⟨rfl, a1, a2⟩ | ⟨rfl, d, e, a1, a2, a3, rfl⟩
  · exact ⟨fun z => z v a1, fun ⟨d, e, f, z1, z2, z3⟩ => a2 e z2⟩
  · exact ⟨fun z => z d a1, fun ⟨d, e, f, z1, z2, z3⟩ => a3 f z3⟩
theorem tk2 {N : wc_M} {T : Nat → Int32} {n p v l : Nat} (h : Tk N T n p) (hok : nOk T n p v l) : N 21 0 11 = 2 ∧ N 21 0 12 = nI v ∧ N 21 0 10 = nI (p + l) := by
  obtain ⟨h1, h2, h3, h4, h5⟩ := h
  have hb := nOk_b hok
  rcases h5 with ⟨e, t⟩ | ⟨e, hno, v', pl, t⟩ | ⟨v', l', hok', t, va, pl⟩ | ⟨h3d, t⟩
  · omega
  · exact absurd hno (nOk_no hok).1
  · obtain ⟨rfl, rfl⟩ := nOk_u hok hok'
    exact ⟨t, va, pl⟩
  · exact absurd h3d (nOk_no hok).2
theorem tkn {N : wc_M} {T : Nat → Int32} {n p : Nat} (h : Tk N T n p) (hno : nNo T n p ∨ n3d T n p) : ¬ N 21 0 11 = 2 := by
  obtain ⟨h1, h2, h3, h4, h5⟩ := h
  rcases h5 with ⟨e, t⟩ | ⟨e, hn', v', pl, t⟩ | ⟨v', l', hok', t, va, pl⟩ | ⟨h3d, t⟩
  · rw [t]; decide
  · rw [t]
    unfold tokL
    split
    · split
      · decide
      · split <;> decide
    · decide
  · rcases hno with z | z
    · exact absurd z (nOk_no hok').1
    · exact absurd z (nOk_no hok').2
  · rw [t]; decide
theorem m_inK (v K : Nat) (hv : v < 2 ^ 31) (hK : K < 2 ^ 31) : f_M_in (nI v).toInt64 (0 : Int32).toInt64 (nI K).toInt64 = if K < v then 0 else 1 := by
  rw [m_in32, if_neg (n_n0 hv)]
  by_cases h : K < v
  · rw [if_pos h, if_pos (by rw [nI_ltI hK hv]; exact h)]
  · rw [if_neg h, if_neg (by rw [nI_ltI hK hv]; exact h)]
theorem ns {M : wc_M} {T : Nat → Int32} {n p K a : Nat} {c : Int32} (hn : n ≤ 120) (hC : CTs M T n p) (hK : K ≤ 99) (ha : a < 57) (hc : tokL c = 1) (hd : ∀ d, d < 10 → ¬ c = nI (48 + d)) : (∃ f, f_T_readNumber (nI K) M = some (-1, tF M f (nI p)) ∧ ∀ N, Tk N T n p → f_M_takesNumber 0 (nI K) (nI a) c N = some (0, wc_up N 21 0 14 f)) ∨ (∃ v l, v ≤ K ∧ p + l ≤ n ∧ f_T_readNumber (nI K) M = some (nI v, wc_up M 4 0 4 (nI (p + l))) ∧ ((¬ (p + l < n ∧ T (p + l) = c) ∧ ∀ N, Tk N T n p → ∃ N', f_M_takesNumber 0 (nI K) (nI a) c N = some (0, N') ∧ N' 21 0 14 = 1 ∧ N' 21 0 13 = nI (p + l) ∧ RF N N') ∨ (p + l < n ∧ T (p + l) = c ∧ ∀ N, Tk N T n p → ∃ N', f_M_takesNumber 0 (nI K) (nI a) c N = some (1, N') ∧ Tk N' T n (p + l + 1) ∧ (∀ j, N' 28 0 j = if j = a then nI v else N 28 0 j) ∧ RF N N'))) := by
  obtain ⟨h1, h4, hp, h5⟩ := hC
  obtain ⟨q1, q2⟩ := t_num (nI K) hn h1 h4 hp
  have e5 : (fun i => M 5 0 i) = T := h5
  rw [e5] at q1 q2
  have bad : ∀ (f : Int32), (f_T_readNumber (nI K) M = some (-1, tF M f (nI p))) → (∀ N, Tk N T n p → f_M_takesNumber 0 (nI K) (nI a) c N = some (0, wc_up N 21 0 14 f)) → (∃ f, f_T_readNumber (nI K) M = some (-1, tF M f (nI p)) ∧ ∀ N, Tk N T n p → f_M_takesNumber 0 (nI K) (nI a) c N = some (0, wc_up N 21 0 14 f)) := fun f x y => ⟨f, x, y⟩
  have badN : (nNo T n p ∨ n3d T n p) → ∃ f, f_T_readNumber (nI K) M = some (-1, tF M f (nI p)) ∧ ∀ N, Tk N T n p → f_M_takesNumber 0 (nI K) (nI a) c N = some (0, wc_up N 21 0 14 f) := by
    intro h
    refine ⟨1, q1 h, fun N hN => ?_⟩
    have t := tkn hN h
    unfold f_M_takesNumber f_M_faults
    rw [if_neg t, if_neg t, Option.bind_some, Option.bind_some]
    rfl
  rcases num_c T n p with h | ⟨v, l, hok⟩ | h
  · exact Or.inl (badN (Or.inl h))
  · have hb := nOk_b hok
    have e1 := q2 v l hok
    by_cases hv : v ≤ K
    · rw [if_pos (by rw [nI_leI (by omega) (by omega)]; exact hv)] at e1
      refine Or.inr ⟨v, l, hv, hb.2.2, e1, ?_⟩
      have common : ∀ N, Tk N T n p → ∃ N1, Tk N1 T n (p + l) ∧ (∀ k i s, (k ≠ 21 ∨ s < 10 ∨ 13 < s) → N1 k i s = wc_up N 28 0 a (nI v) k i s) ∧ f_M_takesNumber 0 (nI K) (nI a) c N = Option.bind (f_M_takes c N1) fun q9 => (if wzb q9.1 = true then some (q9.1, q9.2) else none) := by
        intro N hN
        obtain ⟨t1, t2, t3⟩ := tk2 hN hok
        obtain ⟨b1, b2, b3, b4, _⟩ := hN
        obtain ⟨N1, n1, n2, n3⟩ := r_next (N := wc_up N 28 0 a (nI v)) (T := T) (p := p + l) hn b2 (fun i hi => b3 i hi) t3 hb.2.2
        refine ⟨N1, n2, n3, ?_⟩
        unfold f_M_takesNumber
        rw [if_pos t1, t2, m_inK v K (by omega) (by omega), if_neg (show ¬ K < v by omega), if_neg (by decide), if_pos (n_wib (by omega) (by decide)), n_t (by omega), n1, Option.bind_some]
      by_cases hs : p + l < n ∧ T (p + l) = c
      · refine Or.inr ⟨hs.1, hs.2, fun N hN => ?_⟩
        obtain ⟨N1, n1, n2, n3⟩ := common N hN
        rcases r_takes hn n1 hc hd with ⟨_, _, N2, m1, m2, m3⟩ | ⟨z, _⟩
        · refine ⟨N2, ?_, m2, fun j => ?_, fun k i s hz => ?_⟩
          · rw [n3, m1, Option.bind_some]
            rfl
          · rw [m3 _ _ _ (by omega), n2 _ _ _ (by omega)]
            unfold wc_up
            by_cases e : j = a
            · rw [if_pos ⟨rfl, rfl, e⟩, if_pos e]
            · rw [if_neg (fun z => e z.2.2), if_neg e]
          · rw [m3 _ _ _ (by omega), n2 _ _ _ (by omega)]
            unfold wc_up
            rw [if_neg (by omega)]
        · exact absurd hs z
      · refine Or.inl ⟨hs, fun N hN => ?_⟩
        obtain ⟨N1, n1, n2, n3⟩ := common N hN
        rcases r_takes hn n1 hc hd with ⟨z1, z2, _⟩ | ⟨_, m1⟩
        · exact absurd ⟨z1, z2⟩ hs
        · refine ⟨wc_up N1 21 0 14 1, ?_, ?_, ?_, fun k i s hz => ?_⟩
          · rw [n3, m1, Option.bind_some]
            rfl
          · unfold wc_up
            rw [if_pos ⟨rfl, rfl, rfl⟩]
          · exact n1.1
          · unfold wc_up
            rw [if_neg (by omega), n2 _ _ _ (by omega)]
            unfold wc_up
            rw [if_neg (by omega)]
    · rw [if_neg (by rw [nI_leI (by omega) (by omega)]; exact hv)] at e1
      refine Or.inl ⟨2, e1, fun N hN => ?_⟩
      obtain ⟨t1, t2, t3⟩ := tk2 hN hok
      unfold f_M_takesNumber f_M_faults
      rw [if_pos t1, t2, m_inK v K (by omega) (by omega), if_pos (show K < v by omega), if_pos rfl, if_pos t1, Option.bind_some, Option.bind_some]
      rfl
  · exact Or.inl (badN (Or.inr h))
theorem up_r {M : wc_M} {p c : Nat} {v : Int32} (hc : c < 4) : wc_up M 8 p c v = mP M p (fun j => if j = 5 + c then v else wst M p j) (M 6 p 5) := by
  have e := mP_id M p
  funext zk zi zs
  have e2 := congrFun (congrFun (congrFun e zk) zi) zs
  unfold wc_up
  by_cases hi : zk = 8 ∧ zi = p ∧ zs = c
  · obtain ⟨rfl, rfl, rfl⟩ := hi
    unfold mP
    simp [hc]
  · rw [if_neg hi, ← e2]
    unfold mP
    grind
theorem wst_up {M : wc_M} {K off y : Nat} {v : Int32} (h : (K = 7 ∧ off = 1) ∨ (K = 8 ∧ off = 5)) (hy : y < 4) : wst (wc_up M K 1 y v) 1 = fun j => if j = off + y then v else wst M 1 j := by
  have ok : ∀ o, o ≤ 5 → sOk (fun j => if j = o + y then v else wst M 1 j) := by
    intro o ho j hj
    show (if j = o + y then v else wst M 1 j) = 0
    rw [if_neg (by omega)]
    exact wst_ok M 1 j hj
  rcases h with ⟨rfl, rfl⟩ | ⟨rfl, rfl⟩
  · rw [up_g hy, wst_mP (ok 1 (by omega))]
  · rw [up_r hy, wst_mP (ok 5 (by omega))]
def sgn (y : Nat) : Int32 := if y = 3 then 59 else 44
theorem sgn_1 (y : Nat) : tokL (sgn y) = 1 := by
  unfold sgn
  split <;> rfl
theorem sgn_d (y : Nat) : ∀ d, d < 10 → ¬ sgn y = nI (48 + d) := by
  unfold sgn
  split
  · decide
  · decide
theorem fours {K off n : Nat} {T : Nat → Int32} (hKo : (K = 7 ∧ off = 1) ∨ (K = 8 ∧ off = 5)) (hn : n ≤ 120) (l : Nat → Int32 → wc_M → Option ((Int32 × wc_M) ⊕ (wc_M))) (hl : ∀ m x3 M, l (m + 1) x3 M = (if (4 : Int32) ≤ x3 then some (.inr M) else (Option.bind (f_T_readNumber (31 : Int32) M) fun q4 => (if wib x3 4 = true then (if ((wc_up q4.2 K 1 (x3).toNatClampNeg q4.1) K 1 (x3).toNatClampNeg) < (0 : Int32) then some (.inl ((0 : Int32), (wc_up q4.2 K 1 (x3).toNatClampNeg q4.1))) else (Option.bind (if (3 : Int32) ≤ x3 then some (59 : Int32) else some (44 : Int32)) fun t6 => (Option.bind (f_T_readByte t6 (wc_up q4.2 K 1 (x3).toNatClampNeg q4.1)) fun q8 => (if q8.1 = (0 : Int32) then some (.inl ((0 : Int32), q8.2)) else l m (x3 + (1 : Int32)) q8.2)))) else none)))) : ∀ (k y p : Nat) (M : wc_M), 4 - y = k → y ≤ 4 → CTs M T n p → (∃ f pl M', (∀ m, k < m → l m (nI y) M = some (.inl (0, M'))) ∧ CF M M' ∧ M' 4 0 2 = f ∧ M' 4 0 3 = nI pl ∧ ∀ N, Tk N T n p → ∃ N', (∀ m, k + 1 < m → l_M_readFour_6 (nI off) m 1 (nI y) N = some (0, N')) ∧ N' 21 0 14 = f ∧ N' 21 0 13 = nI pl ∧ RF N N') ∨ (∃ (g : Nat → Nat) (p' : Nat) (M' : wc_M), (∀ m, k < m → l m (nI y) M = some (.inr M')) ∧ CF M M' ∧ CTs M' T n p' ∧ M' 4 0 2 = M 4 0 2 ∧ (∀ j, wst M' 1 j = if off + y ≤ j ∧ j < off + 4 then nI (g j) else wst M 1 j) ∧ (∀ j, g j < 32) ∧ M' 6 1 5 = M 6 1 5 ∧ ∀ N, Tk N T n p → ∃ N', (∀ m, k < m → l_M_readFour_6 (nI off) m 1 (nI y) N = some (1, N')) ∧ Tk N' T n p' ∧ (∀ j, N' 28 0 j = if off + y ≤ j ∧ j < off + 4 then nI (g j) else N 28 0 j) ∧ RF N N')
  | 0, y, p, M, hk, hy, hC => by
    have e4 : y = 4 := by omega
    subst e4
    refine Or.inr ⟨fun _ => 0, p, M, ?_, fun _ _ _ _ => rfl, hC, rfl, fun j => by rw [if_neg (by omega)], fun j => (by decide : 0 < 32), rfl, fun N hN => ⟨N, ?_, hN, fun j => by rw [if_neg (by omega)], fun _ _ _ _ => rfl⟩⟩
    · intro m hm
      obtain ⟨m, rfl⟩ : ∃ z, m = z + 1 := ⟨m - 1, by omega⟩
      rw [hl, if_pos (by decide)]
    · intro m hm
      obtain ⟨m, rfl⟩ : ∃ z, m = z + 1 := ⟨m - 1, by omega⟩
      rw [l_M_readFour_6, if_pos (by decide)]
  | k + 1, y, p, M, hk, hy, hC => by
    have hy4 : y < 4 := by omega
    have hoff : off ≤ 5 := by omega
    have h4 : ¬ (4 : Int32) ≤ nI y := by
      rw [n_le (by decide) (by omega)]
      omega
    have sC : (if (3 : Int32) ≤ nI y then some (59 : Int32) else some (44 : Int32)) = some (sgn y) := by
      unfold sgn
      by_cases h : y = 3
      · rw [if_pos (by rw [n_le (by decide) (by omega)]; omega), if_pos h]
      · rw [if_neg (by rw [n_le (by decide) (by omega)]; omega), if_neg h]
    have sM : (if nI y = (3 : Int32) then some (59 : Int32) else some (44 : Int32)) = some (sgn y) := by
      unfold sgn
      by_cases h : y = 3
      · rw [if_pos (by rw [n_eq (by decide) (by omega)]; exact h), if_pos h]
      · rw [if_neg (by rw [n_eq (by decide) (by omega)]; exact h), if_neg h]
    have stopM : ∀ (N : wc_M) (m : Nat), 0 < m → l_M_readFour_6 (nI off) m 0 (nI (y + 1)) N = some (0, N) := by
      intro N m hm
      obtain ⟨m, rfl⟩ : ∃ z, m = z + 1 := ⟨m - 1, by omega⟩
      rw [l_M_readFour_6]
      by_cases h : (4 : Int32) ≤ nI (y + 1)
      · rw [if_pos h]
      · rw [if_neg h, if_pos rfl]
    have upK : ∀ (N : wc_M) (v : Int32), wc_up N K 1 y v K 1 y = v := by
      intro N v
      unfold wc_up
      rw [if_pos ⟨rfl, rfl, rfl⟩]
    have upo : ∀ (N : wc_M) (v : Int32) (k i s : Nat), ¬ (6 ≤ k ∧ k ≤ 11 ∧ i = 1) → wc_up N K 1 y v k i s = N k i s := by
      intro N v k i s hz
      unfold wc_up
      rw [if_neg (by omega)]
    rcases ns (K := 31) (a := off + y) (c := sgn y) hn hC (by omega) (by omega) (sgn_1 y) (sgn_d y) with ⟨f, a1, a2⟩ | ⟨v, ll, hv, hpl, a1, ⟨hs, a2⟩ | ⟨hs1, hs2, a2⟩⟩
    · refine Or.inl ⟨f, p, wc_up (tF M f (nI p)) K 1 y (-1), ?_, ?_, ?_, ?_, fun N hN => ⟨wc_up N 21 0 14 f, ?_, ?_, ?_, ?_⟩⟩
      · intro m hm
        obtain ⟨m, rfl⟩ : ∃ z, m = z + 1 := ⟨m - 1, by omega⟩
        have a1 : f_T_readNumber 31 M = some (-1, tF M f (nI p)) := a1
        rw [hl, if_neg h4, a1, Option.bind_some, if_pos (n_wib hy4 (by decide)), n_t (by omega)]
        show (if wc_up (tF M f (nI p)) K 1 y (-1) K 1 y < 0 then some (Sum.inl ((0 : Int32), wc_up (tF M f (nI p)) K 1 y (-1))) else _) = _
        rw [upK, if_pos (by decide)]
      · intro k i s hz
        rw [upo _ _ _ _ _ (by omega)]
        exact CF_tF k i s hz
      · rw [upo _ _ _ _ _ (by omega), tF_2]
      · rw [upo _ _ _ _ _ (by omega), tF_3]
      · intro m hm
        obtain ⟨m, rfl⟩ : ∃ z, m = z + 1 := ⟨m - 1, by omega⟩
        have a2 : f_M_takesNumber 0 31 (nI (off + y)) (sgn y) N = some (0, wc_up N 21 0 14 f) := a2 N hN
        rw [l_M_readFour_6, if_neg h4, if_neg (by decide), sM, Option.bind_some, nI_add, a2, Option.bind_some, n_ar]
        exact stopM _ m (by omega)
      · unfold wc_up
        rw [if_pos ⟨rfl, rfl, rfl⟩]
      · exact hN.1
      · intro k i s hz
        unfold wc_up
        rw [if_neg (by omega)]
    · refine Or.inl ⟨1, p + ll, tF (wc_up (wc_up M 4 0 4 (nI (p + ll))) K 1 y (nI v)) 1 (nI (p + ll)), ?_, ?_, tF_2, tF_3, fun N hN => ?_⟩
      · intro m hm
        obtain ⟨m, rfl⟩ : ∃ z, m = z + 1 := ⟨m - 1, by omega⟩
        have a1 : f_T_readNumber 31 M = some (nI v, wc_up M 4 0 4 (nI (p + ll))) := a1
        have hb := t_byte (M := wc_up (wc_up M 4 0 4 (nI (p + ll))) K 1 y (nI v)) (p := p + ll) (sgn y) hn (by rw [upo _ _ _ _ _ (by omega)]; exact hC.1) (by rw [upo _ _ _ _ _ (by omega), at_4]) hpl
        have e5 : wc_up (wc_up M 4 0 4 (nI (p + ll))) K 1 y (nI v) 5 0 (p + ll) = T (p + ll) := by
          rw [upo _ _ _ _ _ (by omega), ← hC.2.2.2]
          rfl
        rw [e5, if_neg hs] at hb
        rw [hl, if_neg h4, a1, Option.bind_some, if_pos (n_wib hy4 (by decide)), n_t (by omega)]
        show (if wc_up (wc_up M 4 0 4 (nI (p + ll))) K 1 y (nI v) K 1 y < 0 then _ else (Option.bind (if (3 : Int32) ≤ nI y then some (59 : Int32) else some (44 : Int32)) fun t6 => (Option.bind (f_T_readByte t6 (wc_up (wc_up M 4 0 4 (nI (p + ll))) K 1 y (nI v))) fun q8 => (if q8.1 = (0 : Int32) then some (.inl ((0 : Int32), q8.2)) else l m (nI y + (1 : Int32)) q8.2)))) = _
        rw [upK, if_neg (n_n0 (by omega)), sC, Option.bind_some, hb, Option.bind_some]
        rfl
      · intro k i s hz
        rw [CF_tF k i s hz, upo _ _ _ _ _ (by omega)]
        exact CF_at k i s hz
      · obtain ⟨N', b1, b2, b3, b4⟩ := a2 N hN
        refine ⟨N', ?_, b2, b3, b4⟩
        intro m hm
        obtain ⟨m, rfl⟩ : ∃ z, m = z + 1 := ⟨m - 1, by omega⟩
        have b1 : f_M_takesNumber 0 31 (nI (off + y)) (sgn y) N = some (0, N') := b1
        rw [l_M_readFour_6, if_neg h4, if_neg (by decide), sM, Option.bind_some, nI_add, b1, Option.bind_some, n_ar]
        exact stopM _ m (by omega)
    · generalize hM1 : wc_up (wc_up (wc_up M 4 0 4 (nI (p + ll))) K 1 y (nI v)) 4 0 4 (nI (p + ll + 1)) = M1
      have f1 : CF M M1 := by
        intro k i s hz
        rw [← hM1, CF_at k i s hz, upo _ _ _ _ _ (by omega)]
        exact CF_at k i s hz
      have w1 : ∀ j, wst M1 1 j = if j = off + y then nI v else wst M 1 j := by
        intro j
        have e1 : wst M1 1 = wst (wc_up M K 1 y (nI v)) 1 := by
          refine wst_fr (fun zk zs q1 q2 => ?_)
          rw [← hM1]
          unfold wc_up
          rw [if_neg (by omega)]
          by_cases z : zk = K ∧ 1 = 1 ∧ zs = y
          · rw [if_pos z, if_pos z]
          · rw [if_neg z, if_neg z, if_neg (by omega)]
        rw [e1, wst_up hKo hy4]
      have c1 : CTs M1 T n (p + ll + 1) := CTs_u hC (by rw [← hM1, at_4]) (by omega) f1
      have g2 : M1 4 0 2 = M 4 0 2 := by
        rw [← hM1]
        unfold wc_up
        rw [if_neg (by omega), if_neg (by omega), if_neg (by omega)]
      have g6 : M1 6 1 5 = M 6 1 5 := by
        rw [← hM1]
        unfold wc_up
        rw [if_neg (by omega), if_neg (by omega), if_neg (by omega)]
      have stepC : ∀ m, l (m + 1) (nI y) M = l m (nI (y + 1)) M1 := by
        intro m
        have a1 : f_T_readNumber 31 M = some (nI v, wc_up M 4 0 4 (nI (p + ll))) := a1
        have hb := t_byte (M := wc_up (wc_up M 4 0 4 (nI (p + ll))) K 1 y (nI v)) (p := p + ll) (sgn y) hn (by rw [upo _ _ _ _ _ (by omega)]; exact hC.1) (by rw [upo _ _ _ _ _ (by omega), at_4]) hpl
        have e5 : wc_up (wc_up M 4 0 4 (nI (p + ll))) K 1 y (nI v) 5 0 (p + ll) = T (p + ll) := by
          rw [upo _ _ _ _ _ (by omega), ← hC.2.2.2]
          rfl
        rw [e5, if_pos ⟨hs1, hs2⟩, hM1] at hb
        rw [hl, if_neg h4, a1, Option.bind_some, if_pos (n_wib hy4 (by decide)), n_t (by omega)]
        show (if wc_up (wc_up M 4 0 4 (nI (p + ll))) K 1 y (nI v) K 1 y < 0 then _ else (Option.bind (if (3 : Int32) ≤ nI y then some (59 : Int32) else some (44 : Int32)) fun t6 => (Option.bind (f_T_readByte t6 (wc_up (wc_up M 4 0 4 (nI (p + ll))) K 1 y (nI v))) fun q8 => (if q8.1 = (0 : Int32) then some (.inl ((0 : Int32), q8.2)) else l m (nI y + (1 : Int32)) q8.2)))) = _
        rw [upK, if_neg (n_n0 (by omega)), sC, Option.bind_some, hb, Option.bind_some]
        show (if (1 : Int32) = 0 then _ else l m (nI y + 1) M1) = _
        rw [if_neg (by decide), n_ar]
      have stepM : ∀ N, Tk N T n p → ∃ N1, Tk N1 T n (p + ll + 1) ∧ (∀ j, N1 28 0 j = if j = off + y then nI v else N 28 0 j) ∧ RF N N1 ∧ ∀ m, l_M_readFour_6 (nI off) (m + 1) 1 (nI y) N = l_M_readFour_6 (nI off) m 1 (nI (y + 1)) N1 := by
        intro N hN
        obtain ⟨N1, b1, b2, b3, b4⟩ := a2 N hN
        refine ⟨N1, b2, b3, b4, fun m => ?_⟩
        have b1 : f_M_takesNumber 0 31 (nI (off + y)) (sgn y) N = some (1, N1) := b1
        rw [l_M_readFour_6, if_neg h4, if_neg (by decide), sM, Option.bind_some, nI_add, b1, Option.bind_some, n_ar]
      rcases fours hKo hn l hl k (y + 1) (p + ll + 1) M1 (by omega) (by omega) c1 with ⟨f, pl, M', d1, d2, d3, d4, d5⟩ | ⟨g, p', M', d1, d2, d3, d4, d5, d6, d7, d8⟩
      · refine Or.inl ⟨f, pl, M', ?_, CF_t f1 d2, d3, d4, fun N hN => ?_⟩
        · intro m hm
          obtain ⟨m, rfl⟩ : ∃ z, m = z + 1 := ⟨m - 1, by omega⟩
          rw [stepC]
          exact d1 m (by omega)
        · obtain ⟨N1, b2, b3, b4, b5⟩ := stepM N hN
          obtain ⟨N', e1, e2, e3, e4⟩ := d5 N1 b2
          refine ⟨N', ?_, e2, e3, RF_t b4 e4⟩
          intro m hm
          obtain ⟨m, rfl⟩ : ∃ z, m = z + 1 := ⟨m - 1, by omega⟩
          rw [b5]
          exact e1 m (by omega)
      · refine Or.inr ⟨fun j => if j = off + y then v else g j, p', M', ?_, CF_t f1 d2, d3, d4.trans g2, ?_, ?_, d7.trans g6, fun N hN => ?_⟩
        · intro m hm
          obtain ⟨m, rfl⟩ : ∃ z, m = z + 1 := ⟨m - 1, by omega⟩
          rw [stepC]
          exact d1 m (by omega)
        · intro j
          rw [d5 j, w1 j]
          show _ = if off + y ≤ j ∧ j < off + 4 then nI (if j = off + y then v else g j) else wst M 1 j
          by_cases q : j = off + y
          · rw [if_neg (by omega), if_pos q, if_pos (by omega), if_pos q]
          · rw [if_neg q, if_neg q]
            by_cases q2 : off + y ≤ j ∧ j < off + 4
            · rw [if_pos (by omega), if_pos q2]
            · rw [if_neg (by omega), if_neg q2]
        · intro j
          show (if j = off + y then v else g j) < 32
          split
          · omega
          · exact d6 j
        · obtain ⟨N1, b2, b3, b4, b5⟩ := stepM N hN
          obtain ⟨N', e1, e2, e3, e4⟩ := d8 N1 b2
          refine ⟨N', ?_, e2, ?_, RF_t b4 e4⟩
          · intro m hm
            obtain ⟨m, rfl⟩ : ∃ z, m = z + 1 := ⟨m - 1, by omega⟩
            rw [b5]
            exact e1 m (by omega)
          · intro j
            rw [e3 j, b3 j]
            show _ = if off + y ≤ j ∧ j < off + 4 then nI (if j = off + y then v else g j) else N 28 0 j
            by_cases q : j = off + y
            · rw [if_neg (by omega), if_pos q, if_pos (by omega), if_pos q]
            · rw [if_neg q, if_neg q]
              by_cases q2 : off + y ≤ j ∧ j < off + 4
              · rw [if_pos (by omega), if_pos q2]
              · rw [if_neg (by omega), if_neg q2]
