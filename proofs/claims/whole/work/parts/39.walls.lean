/-! WALLS that are wanted -/
theorem up15 {B : wc_M} {st F : Nat → Int32} {th lo v : Int32} {k : Nat} : wc_up (mA (mP B 1 st th) F lo) 15 0 k v = mA (mP (wc_up B 15 0 k v) 1 st th) F lo := by
  funext a b c
  unfold wc_up
  by_cases h : a = 15 ∧ b = 0 ∧ c = k
  · rw [if_pos h, mA_off (by omega), mP_off (by omega), if_pos h]
  · rw [if_neg h]
    by_cases h2 : a < 12 ∨ 14 < a
    · rw [mA_off h2, mA_off h2]
      by_cases h3 : a < 6 ∨ 11 < a ∨ b ≠ 1
      · rw [mP_off h3, mP_off h3, if_neg h]
      · simp only [mP, if_neg h]
    · unfold mA
      rw [mP_off (by omega), mP_off (by omega), if_neg h]
theorem wst15 {B : wc_M} {k p : Nat} {v : Int32} : wst (wc_up B 15 0 k v) p = wst B p := by
  refine wst_fr (fun zk zs h1 h2 => ?_)
  unfold wc_up
  rw [if_neg (by omega)]
def wP (st0 st' : Nat → Int32) (zf zc : Nat) (v : Int32) (t : Nat) : Prop := zf ≤ t ∧ st0 (9 + t) = 0 ∧ ¬ bF (sPut st' t 1 0) zc < v
theorem c_cws {B : wc_M} {st' F : Nat → Int32} {th lo v : Int32} {k zc t zn : Nat} (hs' : sOk st') (hk : k < 2) (hc : zc < 16) (ht : t < 16) (hb : wst B 0 (9 + t) = 0 → sPut (sPut st' t 1 0) t 0 0 = st') : l_C_chooseWall_2 (nI k) (nI zc) v (zn + 1) (nI t) (mA (mP B 1 st' th) F lo) = if wst B 0 (9 + t) = 0 then (if bF (sPut st' t 1 0) zc < v then l_C_chooseWall_2 (nI k) (nI zc) v zn (nI (t + 1)) (mA (mP B 1 st' th) (bF (sPut st' t 1 0)) (bL (sPut st' t 1 0))) else some (.inl (1, mA (mP (wc_up B 15 0 k (nI t)) 1 st' th) (bF (sPut st' t 1 0)) (bL (sPut st' t 1 0))))) else l_C_chooseWall_2 (nI k) (nI zc) v zn (nI (t + 1)) (mA (mP B 1 st' th) F lo) := by
  rw [l_C_chooseWall_2, if_neg (by rw [n_le (by decide) (by omega)]; omega), c_hasA ht, Option.bind_some]
  by_cases h0 : wst B 0 (9 + t) = 0
  · rw [if_pos h0, if_pos rfl, c_putA hs' ht, Option.bind_some, a_blowA (sPut_ok ht hs'), Option.bind_some, c_clearA (sPut_ok ht hs') ht, Option.bind_some, hb h0, if_pos (n_wib (by omega) (by decide)), n_t (by omega), mA_f hc, if_pos h0, n_ar, if_pos (n_wib hk (by decide)), n_t (show k < 2 ^ 31 by omega), up15]
  · rw [if_neg h0, if_neg (by decide), if_neg h0, n_ar]
theorem c_cw {B : wc_M} {st' F : Nat → Int32} {th lo v : Int32} {zf k zc : Nat} (hs' : sOk st') (hf : zf ≤ 16) (hk : k < 2) (hc : zc < 16) (hb : ∀ t, zf ≤ t → t < 16 → wst B 0 (9 + t) = 0 → sPut (sPut st' t 1 0) t 0 0 = st') : (∃ F' lo', (∀ t, t < 16 → ¬ wP (wst B 0) st' zf zc v t) ∧ f_C_chooseWall (nI k) (nI zf) (nI zc) v (mA (mP B 1 st' th) F lo) = some (0, mA (mP B 1 st' th) F' lo')) ∨ (∃ t F' lo', t < 16 ∧ wP (wst B 0) st' zf zc v t ∧ (∀ j, j < t → ¬ wP (wst B 0) st' zf zc v j) ∧ f_C_chooseWall (nI k) (nI zf) (nI zc) v (mA (mP B 1 st' th) F lo) = some (1, mA (mP (wc_up B 15 0 k (nI t)) 1 st' th) F' lo')) := by
  unfold f_C_chooseWall
  have stp : ∀ (zm : Nat), zm ≤ 16 → (∀ j, j < zm → ¬ wP (wst B 0) st' zf zc v j) → ∀ n c s, c < zm → (zf ≤ c ∧ ∃ F lo, s = mA (mP B 1 st' th) F lo) → ∃ s', (zf ≤ c + 1 ∧ ∃ F lo, s' = mA (mP B 1 st' th) F lo) ∧ l_C_chooseWall_2 (nI k) (nI zc) v (n + 1) (nI c) s = l_C_chooseWall_2 (nI k) (nI zc) v n (nI (c + 1)) s' := by
    rintro zm hzm hn zn t s ht ⟨hft, F, lo, rfl⟩
    rw [c_cws hs' hk hc (by omega) (hb t hft (by omega))]
    by_cases h0 : wst B 0 (9 + t) = 0
    · have h1 : bF (sPut st' t 1 0) zc < v := by
        by_cases h : bF (sPut st' t 1 0) zc < v
        · exact h
        · exact absurd ⟨hft, h0, h⟩ (hn t ht)
      exact ⟨_, ⟨by omega, _, _, rfl⟩, by rw [if_pos h0, if_pos h1]⟩
    · exact ⟨_, ⟨by omega, _, _, rfl⟩, by rw [if_neg h0]⟩
  rcases ex_first (fun t => wP (wst B 0) st' zf zc v t) 16 with hn | ⟨t, ht, hp, hn⟩
  · refine Or.inl ?_
    obtain ⟨R, h1, F', lo', h2⟩ := loop_inv (fun zn zx zM => l_C_chooseWall_2 (nI k) (nI zc) v zn zx zM) (fun c s => zf ≤ c ∧ ∃ F lo, s = mA (mP B 1 st' th) F lo) 16 (fun R => ∃ F' lo', R = .inr (mA (mP B 1 st' th) F' lo')) (stp 16 (by omega) hn) (by
      rintro zn s ⟨_, F, lo, rfl⟩
      refine ⟨_, ?_, F, lo, rfl⟩
      show l_C_chooseWall_2 (nI k) (nI zc) v (zn + 1) (nI 16) (mA (mP B 1 st' th) F lo) = _
      rw [l_C_chooseWall_2, if_pos (by decide)]) (16 - zf) zf 2000 (mA (mP B 1 st' th) F lo) rfl hf (by omega) ⟨by omega, F, lo, rfl⟩
    refine ⟨F', lo', hn, ?_⟩
    have h1 : l_C_chooseWall_2 (nI k) (nI zc) v 2000 (nI zf) (mA (mP B 1 st' th) F lo) = some R := h1
    rw [h1, h2, Option.bind_some]
    rfl
  · refine Or.inr ?_
    obtain ⟨R, h1, F', lo', h2⟩ := loop_inv (fun zn zx zM => l_C_chooseWall_2 (nI k) (nI zc) v zn zx zM) (fun c s => zf ≤ c ∧ ∃ F lo, s = mA (mP B 1 st' th) F lo) t (fun R => ∃ F' lo', R = .inl (1, mA (mP (wc_up B 15 0 k (nI t)) 1 st' th) F' lo')) (stp t (by omega) hn) (by
      rintro zn s ⟨hft, F, lo, rfl⟩
      refine ⟨.inl (1, mA (mP (wc_up B 15 0 k (nI t)) 1 st' th) (bF (sPut st' t 1 0)) (bL (sPut st' t 1 0))), ?_, _, _, rfl⟩
      show l_C_chooseWall_2 (nI k) (nI zc) v (zn + 1) (nI t) (mA (mP B 1 st' th) F lo) = _
      rw [c_cws hs' hk hc ht (hb t hft ht), if_pos hp.2.1, if_neg hp.2.2]) (t - zf) zf 2000 (mA (mP B 1 st' th) F lo) rfl hp.1 (by omega) ⟨by omega, F, lo, rfl⟩
    refine ⟨t, F', lo', ht, hp, hn, ?_⟩
    have h1 : l_C_chooseWall_2 (nI k) (nI zc) v 2000 (nI zf) (mA (mP B 1 st' th) F lo) = some R := h1
    rw [h1, h2, Option.bind_some]
    rfl
/-- a first wall after which a second does -/
def wP2 (st0 : Nat → Int32) (zc : Nat) (v : Int32) (a : Nat) : Prop := st0 (9 + a) = 0 ∧ ∃ t, t < 16 ∧ wP st0 (sPut st0 a 1 0) (a + 1) zc v t
theorem sPut_off {st : Nat → Int32} {a j : Nat} {k h : Int32} (h1 : j ≠ 9 + a) (h2 : j ≠ 25 + a) (h3 : j ≠ 41 + a) : sPut st a k h j = st j := by
  unfold sPut
  rw [if_neg h1, if_neg h2, if_neg h3]
theorem back2 {st : Nat → Int32} {a t : Nat} (hw : sW st) (ha : a < 16) (hat : a + 1 ≤ t) (ht : t < 16) (h0 : st (9 + t) = 0) : sPut st a 1 0 (9 + t) = 0 ∧ sPut st a 1 0 (25 + t) = 0 ∧ sPut st a 1 0 (41 + t) = 0 := by
  obtain ⟨g1, g2⟩ := hw.2.2.2.2.1 t ht h0
  rw [sPut_off (by omega) (by omega) (by omega), sPut_off (by omega) (by omega) (by omega), sPut_off (by omega) (by omega) (by omega)]
  exact ⟨h0, g1, g2⟩
theorem c_w30 {B : wc_M} {F : Nat → Int32} {th lo v : Int32} {zc : Nat} (hc : zc < 16) (hw : sW (wst B 0)) : (∃ B' F' lo', (∀ a, a < 16 → ¬ wP2 (wst B 0) zc v a) ∧ (∀ k i s, k ≠ 15 → B' k i s = B k i s) ∧ l_C_chooseWalls_30 (nI zc) v 2000 0 (mA (mP B 1 (wst B 0) th) F lo) = some (.inr (mA (mP B' 1 (wst B 0) th) F' lo'))) ∨ (∃ a t B' F' lo', a < 16 ∧ t < 16 ∧ wst B 0 (9 + a) = 0 ∧ (∀ j, j < a → ¬ wP2 (wst B 0) zc v j) ∧ wP (wst B 0) (sPut (wst B 0) a 1 0) (a + 1) zc v t ∧ (∀ j, j < t → ¬ wP (wst B 0) (sPut (wst B 0) a 1 0) (a + 1) zc v j) ∧ (∀ k i s, k ≠ 15 → B' k i s = B k i s) ∧ B' 15 0 0 = nI a ∧ B' 15 0 1 = nI t ∧ l_C_chooseWalls_30 (nI zc) v 2000 0 (mA (mP B 1 (wst B 0) th) F lo) = some (.inl (2, mA (mP B' 1 (sPut (wst B 0) a 1 0) th) F' lo'))) := by
  have hs := sW_ok hw
  have stp : ∀ (zm : Nat), zm ≤ 16 → (∀ j, j < zm → ¬ wP2 (wst B 0) zc v j) → ∀ n c s, c < zm → (∃ B' F lo, s = mA (mP B' 1 (wst B 0) th) F lo ∧ ∀ k i s, k ≠ 15 → B' k i s = B k i s) → ∃ s', (∃ B' F lo, s' = mA (mP B' 1 (wst B 0) th) F lo ∧ ∀ k i s, k ≠ 15 → B' k i s = B k i s) ∧ l_C_chooseWalls_30 (nI zc) v (n + 1) (nI c) s = l_C_chooseWalls_30 (nI zc) v n (nI (c + 1)) s' := by
    rintro zm hzm hn zn a s ha ⟨B', F, lo, rfl, hB⟩
    have eB : wst B' 0 = wst B 0 := wst_fr (fun zk zs h1 h2 => hB _ _ _ (by omega))
    by_cases h0 : wst B 0 (9 + a) = 0
    · obtain ⟨g1, g2⟩ := hw.2.2.2.2.1 a (by omega) h0
      have hcw := c_cw (B := wc_up B' 15 0 0 (nI a)) (st' := sPut (wst B 0) a 1 0) (F := F) (th := th) (lo := lo) (v := v) (zf := a + 1) (k := 1) (zc := zc) (sPut_ok (by omega) hs) (by omega) (by omega) hc (by
        intro t h1 h2 h3
        rw [wst15, eB] at h3
        obtain ⟨q1, q2, q3⟩ := back2 hw (by omega) h1 h2 h3
        exact sPut_back q1 q2 q3)
      rw [wst15, eB] at hcw
      rcases hcw with ⟨F', lo', q1, q2⟩ | ⟨t, F', lo', q1, q2, q3, q4⟩
      · refine ⟨mA (mP (wc_up B' 15 0 0 (nI a)) 1 (wst B 0) th) F' lo', ⟨wc_up B' 15 0 0 (nI a), F', lo', rfl, fun k i s hk => ?_⟩, ?_⟩
        · unfold wc_up
          rw [if_neg (by omega)]
          exact hB k i s hk
        · rw [l_C_chooseWalls_30, if_neg (by rw [n_le (by decide) (by omega)]; omega), c_hasA (by omega), Option.bind_some, eB, if_pos h0, if_pos rfl, c_putA hs (by omega), Option.bind_some, show ((0 : Int32)).toNatClampNeg = 0 from rfl, up15, n_ar]
          have q2 : f_C_chooseWall 1 (nI (a + 1)) (nI zc) v (mA (mP (wc_up B' 15 0 0 (nI a)) 1 (sPut (wst B 0) a 1 0) th) F lo) = some (0, mA (mP (wc_up B' 15 0 0 (nI a)) 1 (sPut (wst B 0) a 1 0) th) F' lo') := q2
          rw [q2, Option.bind_some]
          show (if (0 : Int32) = 0 then (Option.bind (f_P_clear 1 (nI a) (mA (mP (wc_up B' 15 0 0 (nI a)) 1 (sPut (wst B 0) a 1 0) th) F' lo')) _) else _) = _
          rw [if_pos rfl, c_clearA (sPut_ok (by omega) hs) (by omega), Option.bind_some, sPut_back h0 g1 g2]
      · exact absurd ⟨h0, t, q1, q2⟩ (hn a ha)
    · refine ⟨_, ⟨B', F, lo, rfl, hB⟩, ?_⟩
      rw [l_C_chooseWalls_30, if_neg (by rw [n_le (by decide) (by omega)]; omega), c_hasA (by omega), Option.bind_some, eB, if_neg h0, if_neg (by decide), n_ar]
  rcases ex_first (fun a => wP2 (wst B 0) zc v a) 16 with hn | ⟨a, ha, hp, hn⟩
  · refine Or.inl ?_
    obtain ⟨R, h1, B', F', lo', h2, h3⟩ := loop_inv (fun zn zx zM => l_C_chooseWalls_30 (nI zc) v zn zx zM) (fun c s => ∃ B' F lo, s = mA (mP B' 1 (wst B 0) th) F lo ∧ ∀ k i s, k ≠ 15 → B' k i s = B k i s) 16 (fun R => ∃ B' F' lo', R = .inr (mA (mP B' 1 (wst B 0) th) F' lo') ∧ ∀ k i s, k ≠ 15 → B' k i s = B k i s) (stp 16 (by omega) hn) (by
      rintro zn s ⟨B', F, lo, rfl, hB⟩
      refine ⟨_, ?_, B', F, lo, rfl, hB⟩
      show l_C_chooseWalls_30 (nI zc) v (zn + 1) (nI 16) (mA (mP B' 1 (wst B 0) th) F lo) = _
      rw [l_C_chooseWalls_30, if_pos (by decide)]) 16 0 2000 (mA (mP B 1 (wst B 0) th) F lo) rfl (by omega) (by omega) ⟨B, F, lo, rfl, fun _ _ _ _ => rfl⟩
    refine ⟨B', F', lo', hn, h3, ?_⟩
    rw [← h2]
    exact h1
  · refine Or.inr ?_
    obtain ⟨h0, t0, ht0, hp0⟩ := hp
    obtain ⟨R, h1, t, B', F', lo', h2, h3, h4, h5, h6, h7, h8⟩ := loop_inv (fun zn zx zM => l_C_chooseWalls_30 (nI zc) v zn zx zM) (fun c s => ∃ B' F lo, s = mA (mP B' 1 (wst B 0) th) F lo ∧ ∀ k i s, k ≠ 15 → B' k i s = B k i s) a (fun R => ∃ t B' F' lo', R = .inl (2, mA (mP B' 1 (sPut (wst B 0) a 1 0) th) F' lo') ∧ t < 16 ∧ wP (wst B 0) (sPut (wst B 0) a 1 0) (a + 1) zc v t ∧ (∀ j, j < t → ¬ wP (wst B 0) (sPut (wst B 0) a 1 0) (a + 1) zc v j) ∧ (∀ k i s, k ≠ 15 → B' k i s = B k i s) ∧ B' 15 0 0 = nI a ∧ B' 15 0 1 = nI t) (stp a (by omega) hn) (by
      rintro zn s ⟨B', F, lo, rfl, hB⟩
      have eB : wst B' 0 = wst B 0 := wst_fr (fun zk zs h1 h2 => hB _ _ _ (by omega))
      have hcw := c_cw (B := wc_up B' 15 0 0 (nI a)) (st' := sPut (wst B 0) a 1 0) (F := F) (th := th) (lo := lo) (v := v) (zf := a + 1) (k := 1) (zc := zc) (sPut_ok (by omega) hs) (by omega) (by omega) hc (by
        intro t h1 h2 h3
        rw [wst15, eB] at h3
        obtain ⟨q1, q2, q3⟩ := back2 hw (by omega) h1 h2 h3
        exact sPut_back q1 q2 q3)
      rw [wst15, eB] at hcw
      rcases hcw with ⟨F', lo', q1, q2⟩ | ⟨t, F', lo', q1, q2, q3, q4⟩
      · exact absurd hp0 (q1 t0 ht0)
      · refine ⟨.inl (2, mA (mP (wc_up (wc_up B' 15 0 0 (nI a)) 15 0 1 (nI t)) 1 (sPut (wst B 0) a 1 0) th) F' lo'), ?_, t, wc_up (wc_up B' 15 0 0 (nI a)) 15 0 1 (nI t), F', lo', rfl, q1, q2, q3, ?_, ?_, ?_⟩
        · show l_C_chooseWalls_30 (nI zc) v (zn + 1) (nI a) (mA (mP B' 1 (wst B 0) th) F lo) = _
          rw [l_C_chooseWalls_30, if_neg (by rw [n_le (by decide) (by omega)]; omega), c_hasA (by omega), Option.bind_some, eB, if_pos h0, if_pos rfl, c_putA hs (by omega), Option.bind_some, show ((0 : Int32)).toNatClampNeg = 0 from rfl, up15, n_ar]
          have q4 : f_C_chooseWall 1 (nI (a + 1)) (nI zc) v (mA (mP (wc_up B' 15 0 0 (nI a)) 1 (sPut (wst B 0) a 1 0) th) F lo) = some (1, mA (mP (wc_up (wc_up B' 15 0 0 (nI a)) 15 0 1 (nI t)) 1 (sPut (wst B 0) a 1 0) th) F' lo') := q4
          rw [q4, Option.bind_some]
          show (if (1 : Int32) = 0 then _ else _) = _
          rw [if_neg (by decide)]
        · intro k i s hk
          unfold wc_up
          rw [if_neg (by omega), if_neg (by omega)]
          exact hB k i s hk
        · unfold wc_up
          rw [if_neg (by omega), if_pos ⟨rfl, rfl, rfl⟩]
        · unfold wc_up
          rw [if_pos ⟨rfl, rfl, rfl⟩]) a 0 2000 (mA (mP B 1 (wst B 0) th) F lo) rfl (by omega) (by omega) ⟨B, F, lo, rfl, fun _ _ _ _ => rfl⟩
    refine ⟨a, t, B', F', lo', ha, h3, h0, hn, h4, h5, h6, h7, h8, ?_⟩
    rw [← h2]
    exact h1
/-- the class's choice: how many, and which -/
theorem c_choose {M : wc_M} {v : Int32} {zc : Nat} (hc : zc < 16) (hw : sW (wst M 0)) (ht : wzb (M 6 0 5) = true) : ∃ B S F lo, (∀ k i s, k ≠ 15 → B k i s = M k i s) ∧ ((¬ bF (wst M 0) zc < v ∧ f_C_chooseWalls (nI zc) v M = some (0, mA (mP B 1 S (M 6 0 5)) F lo)) ∨ (bF (wst M 0) zc < v ∧ ((∃ a, a < 16 ∧ wP (wst M 0) (wst M 0) 0 zc v a ∧ (∀ j, j < a → ¬ wP (wst M 0) (wst M 0) 0 zc v j) ∧ B 15 0 0 = nI a ∧ f_C_chooseWalls (nI zc) v M = some (1, mA (mP B 1 S (M 6 0 5)) F lo)) ∨ ((∀ a, a < 16 → ¬ wP (wst M 0) (wst M 0) 0 zc v a) ∧ ((∃ a t, a < 16 ∧ t < 16 ∧ wst M 0 (9 + a) = 0 ∧ (∀ j, j < a → ¬ wP2 (wst M 0) zc v j) ∧ wP (wst M 0) (sPut (wst M 0) a 1 0) (a + 1) zc v t ∧ (∀ j, j < t → ¬ wP (wst M 0) (sPut (wst M 0) a 1 0) (a + 1) zc v j) ∧ B 15 0 0 = nI a ∧ B 15 0 1 = nI t ∧ f_C_chooseWalls (nI zc) v M = some (2, mA (mP B 1 S (M 6 0 5)) F lo)) ∨ ((∀ a, a < 16 → ¬ wP2 (wst M 0) zc v a) ∧ f_C_chooseWalls (nI zc) v M = some (-1000000, mA (mP B 1 S (M 6 0 5)) F lo))))))) := by
  have hs := sW_ok hw
  have h0 : f_C_chooseWalls (nI zc) v M = (if bF (wst M 0) zc < v then (Option.bind (f_C_chooseWall (0 : Int32) (0 : Int32) (nI zc) v (mA (mP M 1 (wst M 0) (M 6 0 5)) (bF (wst M 0)) (bL (wst M 0)))) fun q7 => (if q7.1 = (0 : Int32) then (Option.bind (l_C_chooseWalls_30 (nI zc) v 2000 (0 : Int32) q7.2) fun o18 => wel (fun r19 => some r19) (fun t16 => some ((-1000000 : Int32), t16)) o18) else some ((1 : Int32), q7.2))) else some ((0 : Int32), mA (mP M 1 (wst M 0) (M 6 0 5)) (bF (wst M 0)) (bL (wst M 0)))) := by
    unfold f_C_chooseWalls
    rw [p_become ht, Option.bind_some, a_blow, Option.bind_some, if_pos (n_wib (by omega) (by decide)), n_t (by omega), mA_f hc, wst_mP hs]
  rw [h0]
  by_cases h1 : bF (wst M 0) zc < v
  · rw [if_pos h1]
    have hcw := c_cw (B := M) (st' := wst M 0) (F := bF (wst M 0)) (th := M 6 0 5) (lo := bL (wst M 0)) (v := v) (zf := 0) (k := 0) (zc := zc) hs (by omega) (by omega) hc (by
      intro t q1 q2 q3
      obtain ⟨g1, g2⟩ := hw.2.2.2.2.1 t q2 q3
      exact sPut_back q3 g1 g2)
    rcases hcw with ⟨F', lo', q1, q2⟩ | ⟨a, F', lo', q1, q2, q3, q4⟩
    · have q2 : f_C_chooseWall 0 0 (nI zc) v (mA (mP M 1 (wst M 0) (M 6 0 5)) (bF (wst M 0)) (bL (wst M 0))) = some (0, mA (mP M 1 (wst M 0) (M 6 0 5)) F' lo') := q2
      rw [q2, Option.bind_some]
      rcases c_w30 (B := M) (F := F') (th := M 6 0 5) (lo := lo') (v := v) (zc := zc) hc hw with ⟨B', F2, lo2, w1, w2, w3⟩ | ⟨a, t, B', F2, lo2, w1, w2, w3, w4, w5, w6, w7, w8, w9, w10⟩
      · refine ⟨B', wst M 0, F2, lo2, w2, Or.inr ⟨h1, Or.inr ⟨q1, Or.inr ⟨w1, ?_⟩⟩⟩⟩
        show (if (0 : Int32) = 0 then (Option.bind (l_C_chooseWalls_30 (nI zc) v 2000 (0 : Int32) (mA (mP M 1 (wst M 0) (M 6 0 5)) F' lo')) _) else _) = _
        rw [if_pos rfl, w3, Option.bind_some]
        rfl
      · refine ⟨B', sPut (wst M 0) a 1 0, F2, lo2, w7, Or.inr ⟨h1, Or.inr ⟨q1, Or.inl ⟨a, t, w1, w2, w3, w4, w5, w6, w8, w9, ?_⟩⟩⟩⟩
        show (if (0 : Int32) = 0 then (Option.bind (l_C_chooseWalls_30 (nI zc) v 2000 (0 : Int32) (mA (mP M 1 (wst M 0) (M 6 0 5)) F' lo')) _) else _) = _
        rw [if_pos rfl, w10, Option.bind_some]
        rfl
    · have q4 : f_C_chooseWall 0 0 (nI zc) v (mA (mP M 1 (wst M 0) (M 6 0 5)) (bF (wst M 0)) (bL (wst M 0))) = some (1, mA (mP (wc_up M 15 0 0 (nI a)) 1 (wst M 0) (M 6 0 5)) F' lo') := q4
      rw [q4, Option.bind_some]
      refine ⟨wc_up M 15 0 0 (nI a), wst M 0, F', lo', ?_, Or.inr ⟨h1, Or.inl ⟨a, q1, q2, q3, ?_, ?_⟩⟩⟩
      · intro k i s hk
        unfold wc_up
        rw [if_neg (by omega)]
      · unfold wc_up
        rw [if_pos ⟨rfl, rfl, rfl⟩]
      · show (if (1 : Int32) = 0 then _ else _) = _
        rw [if_neg (by decide)]
  · rw [if_neg h1]
    exact ⟨M, wst M 0, bF (wst M 0), bL (wst M 0), fun _ _ _ _ => rfl, Or.inl ⟨h1, rfl⟩⟩
/-! the reference's search -/
theorem m_fw1 {N : wc_M} {st F as : Nat → Int32} {lo br : Int32} {zc a : Nat} (hw : sW st) (ha : sOk as) (hc : zc < 16) (h16 : a < 16) (h0 : st (9 + a) = 0) : f_M_feltWith (nI zc) (nI a) (-1) (mR N st F lo br as) = some (bF (sPut st a 1 0) zc, mR N st (bF (sPut st a 1 0)) (bL (sPut st a 1 0)) br st) := by
  have hs := sW_ok hw
  obtain ⟨g1, g2⟩ := hw.2.2.2.2.1 a h16 h0
  unfold f_M_feltWith f_M_feltNow
  rw [r_aside hs ha, Option.bind_some, if_neg (n_n0 (by omega)), n_al, if_pos (n_wib (by omega) (by decide)), Option.bind_some, if_pos (by decide), Option.bind_some, n_t (by omega), r_up_st (by omega), sPut_up h16 g1 g2, r_blow (sPut_kd (k := 1) (h := 0) (sW_kd hw) h16 ⟨1, by omega, rfl⟩), Option.bind_some, if_pos (n_wib (by omega) (by decide)), n_t (by omega), Option.bind_some]
  show (Option.bind (f_M_takeBack (mR N (sPut st a 1 0) (bF (sPut st a 1 0)) (bL (sPut st a 1 0)) br st)) _) = _
  rw [r_back (sPut_ok h16 hs) hs, Option.bind_some, mR_f (by omega)]
theorem m_fw2 {N : wc_M} {st F as : Nat → Int32} {lo br : Int32} {zc a b : Nat} (hw : sW st) (ha : sOk as) (hc : zc < 16) (h16 : a < 16) (hab : a + 1 ≤ b) (hb : b < 16) (h0 : st (9 + a) = 0) (h1 : st (9 + b) = 0) : f_M_feltWith (nI zc) (nI a) (nI b) (mR N st F lo br as) = some (bF (sPut (sPut st a 1 0) b 1 0) zc, mR N st (bF (sPut (sPut st a 1 0) b 1 0)) (bL (sPut (sPut st a 1 0) b 1 0)) br st) := by
  have hs := sW_ok hw
  obtain ⟨g1, g2⟩ := hw.2.2.2.2.1 a h16 h0
  obtain ⟨q1, q2, q3⟩ := back2 hw h16 hab hb h1
  have hk2 : sKd (sPut (sPut st a 1 0) b 1 0) := sPut_kd (k := 1) (h := 0) (sPut_kd (k := 1) (h := 0) (sW_kd hw) h16 ⟨1, by omega, rfl⟩) hb ⟨1, by omega, rfl⟩
  unfold f_M_feltWith f_M_feltNow
  rw [r_aside hs ha, Option.bind_some, if_neg (n_n0 (by omega)), n_al, if_pos (n_wib (by omega) (by decide)), Option.bind_some, if_neg (n_n0 (by omega)), n_al, if_pos (n_wib (by omega) (by decide)), Option.bind_some, n_t (by omega), n_t (by omega), r_up_st (by omega), sPut_up h16 g1 g2, r_up_st (by omega), sPut_up hb q2 q3, r_blow hk2, Option.bind_some, if_pos (n_wib (by omega) (by decide)), n_t (by omega), Option.bind_some]
  show (Option.bind (f_M_takeBack (mR N (sPut (sPut st a 1 0) b 1 0) (bF (sPut (sPut st a 1 0) b 1 0)) (bL (sPut (sPut st a 1 0) b 1 0)) br st)) _) = _
  rw [r_back (sPut_ok hb (sPut_ok h16 hs)) hs, Option.bind_some, mR_f (by omega)]
def v1 (k : Int32) (a : Nat) : Int32 := if 0 ≤ k then (if k = 0 then nI a else -1000000) else 1
def v2 (k : Int32) (a b : Nat) : Int32 := if 0 ≤ k then (if k = 0 then nI a else nI b) else 2
theorem m_w35 {N : wc_M} {st F as : Nat → Int32} {lo br v k : Int32} {zc : Nat} (hw : sW st) (ha : sOk as) (hc : zc < 16) : (∃ F' lo' as', sOk as' ∧ (∀ a, a < 16 → ¬ wP st st 0 zc v a) ∧ l_M_walls_35 (nI zc) v k 2000 0 (mR N st F lo br as) = some (.inr (mR N st F' lo' br as'))) ∨ (∃ a F' lo' as', a < 16 ∧ wP st st 0 zc v a ∧ (∀ j, j < a → ¬ wP st st 0 zc v j) ∧ l_M_walls_35 (nI zc) v k 2000 0 (mR N st F lo br as) = some (.inl (v1 k a, mR N st F' lo' br as'))) := by
  have hs := sW_ok hw
  have stp : ∀ (zm : Nat), zm ≤ 16 → (∀ j, j < zm → ¬ wP st st 0 zc v j) → ∀ n c s, c < zm → (∃ F lo as, sOk as ∧ s = mR N st F lo br as) → ∃ s', (∃ F lo as, sOk as ∧ s' = mR N st F lo br as) ∧ l_M_walls_35 (nI zc) v k (n + 1) (nI c) s = l_M_walls_35 (nI zc) v k n (nI (c + 1)) s' := by
    rintro zm hzm hn zn a s hza ⟨F, lo, as, ha, rfl⟩
    obtain ⟨kn, hkn, hke⟩ := (sW_kd hw) a (by omega)
    by_cases h0 : st (9 + a) = 0
    · have h1 : bF (sPut st a 1 0) zc < v := by
        by_cases h : bF (sPut st a 1 0) zc < v
        · exact h
        · exact absurd ⟨by omega, h0, h⟩ (hn a hza)
      refine ⟨mR N st (bF (sPut st a 1 0)) (bL (sPut st a 1 0)) br st, ⟨_, _, _, hs, rfl⟩, ?_⟩
      rw [l_M_walls_35, if_neg (by rw [n_le (by decide) (by omega)]; omega), r_isWork (by omega) hkn hke, Option.bind_some, if_pos h0, if_pos rfl, m_fw1 hw ha hc (by omega) h0, Option.bind_some, n_ar]
      show (if bF (sPut st a 1 0) zc < v then _ else _) = _
      rw [if_pos h1]
    · refine ⟨_, ⟨F, lo, as, ha, rfl⟩, ?_⟩
      rw [l_M_walls_35, if_neg (by rw [n_le (by decide) (by omega)]; omega), r_isWork (by omega) hkn hke, Option.bind_some, if_neg h0, if_neg (by decide), n_ar]
  rcases ex_first (fun a => wP st st 0 zc v a) 16 with hn | ⟨a, h16, hp, hn⟩
  · refine Or.inl ?_
    obtain ⟨R, h1, F', lo', as', h2, h3⟩ := loop_inv (fun zn zx zM => l_M_walls_35 (nI zc) v k zn zx zM) (fun c s => ∃ F lo as, sOk as ∧ s = mR N st F lo br as) 16 (fun R => ∃ F' lo' as', sOk as' ∧ R = .inr (mR N st F' lo' br as')) (stp 16 (by omega) hn) (by
      rintro zn s ⟨F, lo, as, ha, rfl⟩
      refine ⟨_, ?_, F, lo, as, ha, rfl⟩
      show l_M_walls_35 (nI zc) v k (zn + 1) (nI 16) (mR N st F lo br as) = _
      rw [l_M_walls_35, if_pos (by decide)]) 16 0 2000 (mR N st F lo br as) rfl (by omega) (by omega) ⟨F, lo, as, ha, rfl⟩
    refine ⟨F', lo', as', h2, hn, ?_⟩
    rw [← h3]
    exact h1
  · refine Or.inr ?_
    obtain ⟨R, h1, F', lo', as', h3⟩ := loop_inv (fun zn zx zM => l_M_walls_35 (nI zc) v k zn zx zM) (fun c s => ∃ F lo as, sOk as ∧ s = mR N st F lo br as) a (fun R => ∃ F' lo' as', R = .inl (v1 k a, mR N st F' lo' br as')) (stp a (by omega) hn) (by
      rintro zn s ⟨F, lo, as, ha, rfl⟩
      obtain ⟨kn, hkn, hke⟩ := (sW_kd hw) a (by omega)
      refine ⟨.inl (v1 k a, mR N st (bF (sPut st a 1 0)) (bL (sPut st a 1 0)) br st), ?_, _, _, _, rfl⟩
      show l_M_walls_35 (nI zc) v k (zn + 1) (nI a) (mR N st F lo br as) = _
      rw [l_M_walls_35, if_neg (by rw [n_le (by decide) (by omega)]; omega), r_isWork (by omega) hkn hke, Option.bind_some, if_pos hp.2.1, if_pos rfl, m_fw1 hw ha hc (by omega) hp.2.1, Option.bind_some]
      show (if bF (sPut st a 1 0) zc < v then _ else _) = _
      rw [if_neg hp.2.2]
      unfold v1
      by_cases hk : 0 ≤ k
      · rw [if_pos hk, if_pos hk]
        by_cases hk0 : k = 0
        · rw [if_pos hk0, if_pos hk0]
        · rw [if_neg hk0, if_neg hk0]
      · rw [if_neg hk, if_neg hk]) a 0 2000 (mR N st F lo br as) rfl (by omega) (by omega) ⟨F, lo, as, ha, rfl⟩
    refine ⟨a, F', lo', as', h16, hp, hn, ?_⟩
    rw [← h3]
    exact h1
theorem m_w70 {N : wc_M} {st F as : Nat → Int32} {lo br v k : Int32} {zc a : Nat} (hw : sW st) (ha : sOk as) (hc : zc < 16) (h16 : a < 16) : (∃ F' lo' as', sOk as' ∧ ¬ wP2 st zc v a ∧ l_M_walls_70 (nI zc) v k (nI a) 2000 (nI (a + 1)) (mR N st F lo br as) = some (.inr (mR N st F' lo' br as'))) ∨ (∃ t F' lo' as', t < 16 ∧ st (9 + a) = 0 ∧ wP st (sPut st a 1 0) (a + 1) zc v t ∧ (∀ j, j < t → ¬ wP st (sPut st a 1 0) (a + 1) zc v j) ∧ l_M_walls_70 (nI zc) v k (nI a) 2000 (nI (a + 1)) (mR N st F lo br as) = some (.inl (v2 k a t, mR N st F' lo' br as'))) := by
  have hs := sW_ok hw
  obtain ⟨ka, hka, hkae⟩ := (sW_kd hw) a h16
  by_cases h0 : st (9 + a) = 0
  case neg =>
    refine Or.inl ?_
    obtain ⟨R, h1, F', lo', as', h2, h3⟩ := loop_inv (fun zn zx zM => l_M_walls_70 (nI zc) v k (nI a) zn zx zM) (fun c s => ∃ F lo as, sOk as ∧ s = mR N st F lo br as) 16 (fun R => ∃ F' lo' as', sOk as' ∧ R = .inr (mR N st F' lo' br as')) (by
      rintro zn b s hb ⟨F, lo, as, ha, rfl⟩
      refine ⟨_, ⟨F, lo, as, ha, rfl⟩, ?_⟩
      show l_M_walls_70 (nI zc) v k (nI a) (zn + 1) (nI b) (mR N st F lo br as) = _
      rw [l_M_walls_70, if_neg (by rw [n_le (by decide) (by omega)]; omega), r_isWork h16 hka hkae, Option.bind_some, if_neg h0, if_neg (by decide), n_ar]) (by
      rintro zn s ⟨F, lo, as, ha, rfl⟩
      refine ⟨_, ?_, F, lo, as, ha, rfl⟩
      show l_M_walls_70 (nI zc) v k (nI a) (zn + 1) (nI 16) (mR N st F lo br as) = _
      rw [l_M_walls_70, if_pos (by decide)]) (16 - (a + 1)) (a + 1) 2000 (mR N st F lo br as) rfl (by omega) (by omega) ⟨F, lo, as, ha, rfl⟩
    refine ⟨F', lo', as', h2, fun z => h0 z.1, ?_⟩
    rw [← h3]
    exact h1
  have stp : ∀ (zm : Nat), zm ≤ 16 → (∀ j, j < zm → ¬ wP st (sPut st a 1 0) (a + 1) zc v j) → ∀ n c s, c < zm → (a + 1 ≤ c ∧ ∃ F lo as, sOk as ∧ s = mR N st F lo br as) → ∃ s', (a + 1 ≤ c + 1 ∧ ∃ F lo as, sOk as ∧ s' = mR N st F lo br as) ∧ l_M_walls_70 (nI zc) v k (nI a) (n + 1) (nI c) s = l_M_walls_70 (nI zc) v k (nI a) n (nI (c + 1)) s' := by
    rintro zm hzm hn zn b s hzb ⟨hab, F, lo, as, ha, rfl⟩
    obtain ⟨kn, hkn, hke⟩ := (sW_kd hw) b (by omega)
    by_cases h2 : st (9 + b) = 0
    · have h1 : bF (sPut (sPut st a 1 0) b 1 0) zc < v := by
        by_cases h : bF (sPut (sPut st a 1 0) b 1 0) zc < v
        · exact h
        · exact absurd ⟨hab, h2, h⟩ (hn b hzb)
      refine ⟨mR N st (bF (sPut (sPut st a 1 0) b 1 0)) (bL (sPut (sPut st a 1 0) b 1 0)) br st, ⟨by omega, _, _, _, hs, rfl⟩, ?_⟩
      rw [l_M_walls_70, if_neg (by rw [n_le (by decide) (by omega)]; omega), r_isWork h16 hka hkae, Option.bind_some, if_pos h0, if_pos rfl, r_isWork (by omega) hkn hke, Option.bind_some, if_pos h2, if_pos rfl, m_fw2 hw ha hc h16 hab (by omega) h0 h2, Option.bind_some, n_ar]
      show (if bF (sPut (sPut st a 1 0) b 1 0) zc < v then _ else _) = _
      rw [if_pos h1]
    · refine ⟨_, ⟨by omega, F, lo, as, ha, rfl⟩, ?_⟩
      rw [l_M_walls_70, if_neg (by rw [n_le (by decide) (by omega)]; omega), r_isWork h16 hka hkae, Option.bind_some, if_pos h0, if_pos rfl, r_isWork (by omega) hkn hke, Option.bind_some, if_neg h2, if_neg (by decide), n_ar]
  rcases ex_first (fun b => wP st (sPut st a 1 0) (a + 1) zc v b) 16 with hn | ⟨b, hb, hp, hn⟩
  · refine Or.inl ?_
    obtain ⟨R, h1, F', lo', as', h2, h3⟩ := loop_inv (fun zn zx zM => l_M_walls_70 (nI zc) v k (nI a) zn zx zM) (fun c s => a + 1 ≤ c ∧ ∃ F lo as, sOk as ∧ s = mR N st F lo br as) 16 (fun R => ∃ F' lo' as', sOk as' ∧ R = .inr (mR N st F' lo' br as')) (stp 16 (by omega) hn) (by
      rintro zn s ⟨_, F, lo, as, ha, rfl⟩
      refine ⟨_, ?_, F, lo, as, ha, rfl⟩
      show l_M_walls_70 (nI zc) v k (nI a) (zn + 1) (nI 16) (mR N st F lo br as) = _
      rw [l_M_walls_70, if_pos (by decide)]) (16 - (a + 1)) (a + 1) 2000 (mR N st F lo br as) rfl (by omega) (by omega) ⟨by omega, F, lo, as, ha, rfl⟩
    refine ⟨F', lo', as', h2, ?_, ?_⟩
    · rintro ⟨_, t, ht, hpt⟩
      exact hn t ht hpt
    · rw [← h3]
      exact h1
  · refine Or.inr ?_
    obtain ⟨R, h1, F', lo', as', h3⟩ := loop_inv (fun zn zx zM => l_M_walls_70 (nI zc) v k (nI a) zn zx zM) (fun c s => a + 1 ≤ c ∧ ∃ F lo as, sOk as ∧ s = mR N st F lo br as) b (fun R => ∃ F' lo' as', R = .inl (v2 k a b, mR N st F' lo' br as')) (stp b (by omega) hn) (by
      rintro zn s ⟨hab, F, lo, as, ha, rfl⟩
      obtain ⟨kn, hkn, hke⟩ := (sW_kd hw) b (by omega)
      refine ⟨.inl (v2 k a b, mR N st (bF (sPut (sPut st a 1 0) b 1 0)) (bL (sPut (sPut st a 1 0) b 1 0)) br st), ?_, _, _, _, rfl⟩
      show l_M_walls_70 (nI zc) v k (nI a) (zn + 1) (nI b) (mR N st F lo br as) = _
      rw [l_M_walls_70, if_neg (by rw [n_le (by decide) (by omega)]; omega), r_isWork h16 hka hkae, Option.bind_some, if_pos h0, if_pos rfl, r_isWork (by omega) hkn hke, Option.bind_some, if_pos hp.2.1, if_pos rfl, m_fw2 hw ha hc h16 hab (by omega) h0 hp.2.1, Option.bind_some]
      show (if bF (sPut (sPut st a 1 0) b 1 0) zc < v then _ else _) = _
      rw [if_neg hp.2.2]
      unfold v2
      by_cases hk : 0 ≤ k
      · rw [if_pos hk, if_pos hk]
        by_cases hk0 : k = 0
        · rw [if_pos hk0, if_pos hk0]
        · rw [if_neg hk0, if_neg hk0]
      · rw [if_neg hk, if_neg hk]) (b - (a + 1)) (a + 1) 2000 (mR N st F lo br as) rfl hp.1 (by omega) ⟨by omega, F, lo, as, ha, rfl⟩
    refine ⟨b, F', lo', as', hb, h0, hp, hn, ?_⟩
    rw [← h3]
    exact h1
theorem m_w63 {N : wc_M} {st F as : Nat → Int32} {lo br v k : Int32} {zc : Nat} (hw : sW st) (ha : sOk as) (hc : zc < 16) : (∃ F' lo' as', (∀ a, a < 16 → ¬ wP2 st zc v a) ∧ l_M_walls_63 (nI zc) v k 2000 0 (mR N st F lo br as) = some (.inr (mR N st F' lo' br as'))) ∨ (∃ a t F' lo' as', a < 16 ∧ t < 16 ∧ st (9 + a) = 0 ∧ (∀ j, j < a → ¬ wP2 st zc v j) ∧ wP st (sPut st a 1 0) (a + 1) zc v t ∧ (∀ j, j < t → ¬ wP st (sPut st a 1 0) (a + 1) zc v j) ∧ l_M_walls_63 (nI zc) v k 2000 0 (mR N st F lo br as) = some (.inl (v2 k a t, mR N st F' lo' br as'))) := by
  have stp : ∀ (zm : Nat), zm ≤ 16 → (∀ j, j < zm → ¬ wP2 st zc v j) → ∀ n c s, c < zm → (∃ F lo as, sOk as ∧ s = mR N st F lo br as) → ∃ s', (∃ F lo as, sOk as ∧ s' = mR N st F lo br as) ∧ l_M_walls_63 (nI zc) v k (n + 1) (nI c) s = l_M_walls_63 (nI zc) v k n (nI (c + 1)) s' := by
    rintro zm hzm hn zn a s hza ⟨F, lo, as, ha, rfl⟩
    rcases m_w70 (N := N) (F := F) (lo := lo) (br := br) (k := k) hw ha hc (show a < 16 by omega) (v := v) with ⟨F', lo', as', q1, q2, q3⟩ | ⟨t, F', lo', as', q1, q2, q3, q4, q5⟩
    · refine ⟨_, ⟨F', lo', as', q1, rfl⟩, ?_⟩
      rw [l_M_walls_63, if_neg (by rw [n_le (by decide) (by omega)]; omega), n_ar, q3, Option.bind_some]
      rfl
    · exact absurd ⟨q2, t, q1, q3⟩ (hn a hza)
  rcases ex_first (fun a => wP2 st zc v a) 16 with hn | ⟨a, h16, hp, hn⟩
  · refine Or.inl ?_
    obtain ⟨R, h1, F', lo', as', h3⟩ := loop_inv (fun zn zx zM => l_M_walls_63 (nI zc) v k zn zx zM) (fun c s => ∃ F lo as, sOk as ∧ s = mR N st F lo br as) 16 (fun R => ∃ F' lo' as', R = .inr (mR N st F' lo' br as')) (stp 16 (by omega) hn) (by
      rintro zn s ⟨F, lo, as, ha, rfl⟩
      refine ⟨_, ?_, F, lo, as, rfl⟩
      show l_M_walls_63 (nI zc) v k (zn + 1) (nI 16) (mR N st F lo br as) = _
      rw [l_M_walls_63, if_pos (by decide)]) 16 0 2000 (mR N st F lo br as) rfl (by omega) (by omega) ⟨F, lo, as, ha, rfl⟩
    refine ⟨F', lo', as', hn, ?_⟩
    rw [← h3]
    exact h1
  · refine Or.inr ?_
    obtain ⟨R, h1, t, F', lo', as', h2, h3, h4, h5, h6⟩ := loop_inv (fun zn zx zM => l_M_walls_63 (nI zc) v k zn zx zM) (fun c s => ∃ F lo as, sOk as ∧ s = mR N st F lo br as) a (fun R => ∃ t F' lo' as', t < 16 ∧ st (9 + a) = 0 ∧ wP st (sPut st a 1 0) (a + 1) zc v t ∧ (∀ j, j < t → ¬ wP st (sPut st a 1 0) (a + 1) zc v j) ∧ R = .inl (v2 k a t, mR N st F' lo' br as')) (stp a (by omega) hn) (by
      rintro zn s ⟨F, lo, as, ha, rfl⟩
      rcases m_w70 (N := N) (F := F) (lo := lo) (br := br) (k := k) hw ha hc h16 (v := v) with ⟨F', lo', as', q1, q2, q3⟩ | ⟨t, F', lo', as', q1, q2, q3, q4, q5⟩
      · exact absurd hp q2
      · refine ⟨.inl (v2 k a t, mR N st F' lo' br as'), ?_, t, F', lo', as', q1, q2, q3, q4, rfl⟩
        show l_M_walls_63 (nI zc) v k (zn + 1) (nI a) (mR N st F lo br as) = _
        rw [l_M_walls_63, if_neg (by rw [n_le (by decide) (by omega)]; omega), n_ar, q5, Option.bind_some]
        rfl) a 0 2000 (mR N st F lo br as) rfl (by omega) (by omega) ⟨F, lo, as, ha, rfl⟩
    refine ⟨a, t, F', lo', as', h16, h2, h3, hn, h4, h5, ?_⟩
    rw [← h6]
    exact h1
theorem first_u {P : Nat → Prop} {a b : Nat} (h1 : P a) (h2 : ∀ j, j < a → ¬ P j) (h3 : P b) (h4 : ∀ j, j < b → ¬ P j) : a = b := by
  by_cases e1 : a < b
  · exact absurd h1 (h4 a e1)
  · by_cases e2 : b < a
    · exact absurd h3 (h2 b e2)
    · omega
theorem m_in11 (x : Int32) : f_M_in x.toInt64 (-1) 1 = if x < -1 then 0 else if 1 < x then 0 else 1 := m_in32 x (-1) 1
theorem q_walls (a1 a2 a3 : Int32) {M : wc_M} (r : Rel M) : Ag (f_C_walls a1 a2 a3) (f_M_walls a1 a2 a3) M := by
  unfold f_C_walls f_M_walls
  by_cases h0 : M 6 0 5 = 0
  · exact Ag_i (if_pos h0) (if_pos (by rw [Rel_m4 r]; exact h0)) rfl r
  by_cases h1 : f_C_isUpTo a1 15 = 0
  · exact Ag_i (M1 := M) (M2 := M) (by rw [if_neg h0, c_cell, if_pos h1]) (by rw [Rel_m4 r, if_neg h0, m_isCell, if_pos h1]) rfl r
  by_cases h2 : f_C_isUpTo a2 99 = 0
  · exact Ag_i (M1 := M) (M2 := M) (by rw [if_neg h0, c_cell, if_neg h1, if_pos h2]) (by rw [Rel_m4 r, if_neg h0, m_isCell, if_neg h1, m_up_99, if_pos h2]) rfl r
  by_cases h3 : a3 < -1
  · exact Ag_i (M1 := M) (M2 := M) (by rw [if_neg h0, c_cell, if_neg h1, if_neg h2, if_pos h3]) (by rw [Rel_m4 r, if_neg h0, m_isCell, if_neg h1, m_up_99, if_neg h2, m_in11, if_pos h3, if_pos rfl]) rfl r
  by_cases h4 : a3 ≤ 1
  case neg => exact Ag_i (M1 := M) (M2 := M) (by rw [if_neg h0, c_cell, if_neg h1, if_neg h2, if_neg h3, if_neg h4]) (by rw [Rel_m4 r, if_neg h0, m_isCell, if_neg h1, m_up_99, if_neg h2, m_in11, if_neg h3, if_pos (Int32.not_le.mp h4), if_pos rfl]) rfl r
  obtain ⟨zc, hzc, rfl⟩ := c_upK (by decide) h1
  have hc : zc < 16 := by omega
  have hw := Rel_w r
  have hs := sW_ok hw
  obtain ⟨B, S, F1, lo1, hB, hcs⟩ := c_choose (M := M) (v := a2) hc hw (Rel_wz r)
  generalize hM1 : mA (mP B 1 S (M 6 0 5)) F1 lo1 = M1 at hcs
  have rB : Rel B := Rel_of (fun zk zi zs hz => hB _ _ _ (by unfold Irr at hz; omega)) r
  have r1 : Rel M1 := by
    rw [← hM1]
    exact Rel_A (Rel_1 rB)
  have w1 : wst M1 0 = wst M 0 := by
    rw [← hM1, wst_mA, wst_mPn (by omega)]
    exact wst_fr (fun zk zs _ _ => hB _ _ _ (by omega))
  have g4 : M1 21 0 4 = M 6 0 5 := by
    rw [← hM1, mA_off (by omega), mP_off (by omega), hB _ _ _ (by omega)]
    exact Rel_m4 r
  have g15 : ∀ q, M1 15 0 q = B 15 0 q := fun q => by rw [← hM1, mA_off (by omega), mP_off (by omega)]
  have ef : wrs M1 25 0 = wst M 0 := (Rel_e25 r1).trans w1
  have cC : ∀ w, f_C_chooseWalls (nI zc) a2 M = some (w, M1) → (if M 6 0 5 = 0 then some ((-1000002 : Int32), M) else (if (f_C_isCell (nI zc)) = (0 : Int32) then some ((-1000001 : Int32), M) else (if (f_C_isUpTo a2 (99 : Int32)) = (0 : Int32) then some ((-1000001 : Int32), M) else (if a3 < (-1 : Int32) then some ((-1000001 : Int32), M) else (if a3 ≤ (1 : Int32) then (Option.bind (f_C_chooseWalls (nI zc) a2 M) fun q2 => (if a3 < (0 : Int32) then some (q2.1, q2.2) else (if q2.1 = (-1000000 : Int32) then some (q2.1, q2.2) else (if q2.1 ≤ a3 then some ((-1000000 : Int32), q2.2) else (if wib a3 2 = true then some ((q2.2 15 0 (a3).toNatClampNeg), q2.2) else none))))) else some ((-1000001 : Int32), M)))))) = (if a3 < (0 : Int32) then some (w, M1) else (if w = (-1000000 : Int32) then some (w, M1) else (if w ≤ a3 then some ((-1000000 : Int32), M1) else (if wib a3 2 = true then some ((M1 15 0 (a3).toNatClampNeg), M1) else none)))) := by
    intro w hw2
    rw [if_neg h0, c_cell, if_neg h1, if_neg h2, if_neg h3, if_pos h4, hw2, Option.bind_some]
  have cM : (if M1 21 0 4 = (0 : Int32) then some ((-1000002 : Int32), M1) else (if (f_M_isCell (nI zc)) = (0 : Int32) then some ((-1000001 : Int32), M1) else (if (f_M_in (a2).toInt64 (0 : Int64) (99 : Int64)) = (0 : Int32) then some ((-1000001 : Int32), M1) else (if (f_M_in (a3).toInt64 (-1 : Int64) (1 : Int64)) = (0 : Int32) then some ((-1000001 : Int32), M1) else (Option.bind (f_M_feltNow (nI zc) M1) fun q2 => (if q2.1 < a2 then (Option.bind (l_M_walls_35 (nI zc) a2 a3 2000 (0 : Int32) q2.2) fun o17 => wel (fun r18 => some r18) (fun t7 => (Option.bind (l_M_walls_63 (nI zc) a2 a3 2000 (0 : Int32) t7) fun o15 => wel (fun r16 => some r16) (fun t13 => some ((-1000000 : Int32), t13)) o15)) o17) else (if (0 : Int32) ≤ a3 then some ((-1000000 : Int32), q2.2) else some ((0 : Int32), q2.2)))))))) = (if bF (wst M 0) zc < a2 then (Option.bind (l_M_walls_35 (nI zc) a2 a3 2000 (0 : Int32) (mR M1 (wst M 0) (bF (wst M 0)) (bL (wst M 0)) (M1 21 0 20) (wrs M1 31 0))) fun o17 => wel (fun r18 => some r18) (fun t7 => (Option.bind (l_M_walls_63 (nI zc) a2 a3 2000 (0 : Int32) t7) fun o15 => wel (fun r16 => some r16) (fun t13 => some ((-1000000 : Int32), t13)) o15)) o17) else (if (0 : Int32) ≤ a3 then some ((-1000000 : Int32), mR M1 (wst M 0) (bF (wst M 0)) (bL (wst M 0)) (M1 21 0 20) (wrs M1 31 0)) else some ((0 : Int32), mR M1 (wst M 0) (bF (wst M 0)) (bL (wst M 0)) (M1 21 0 20) (wrs M1 31 0)))) := by
    rw [g4, if_neg h0, m_isCell, if_neg h1, m_up_99, if_neg h2, m_in11, if_neg h3, if_neg (Int32.not_lt.mpr h4), if_neg (by decide), g_feltNow ef (sW_kd hw) (by omega), Option.bind_some]
  have rR : ∀ F lo br as, Rel (mR M1 (wst M 0) F lo br as) := by
    intro F lo br as
    have := Rel_R (F := F) (lo := lo) (br := br) (as := as) r1
    rw [w1] at this
    exact this
  have k01 : ¬ a3 < 0 → a3 = 0 ∨ a3 = 1 := by
    intro h
    obtain ⟨q, hq, rfl⟩ : ∃ q, q ≤ 1 ∧ a3 = nI q := n_ofK (by decide) (Int32.not_lt.mp h) h4
    rcases (show q = 0 ∨ q = 1 by omega) with rfl | rfl
    · exact Or.inl rfl
    · exact Or.inr rfl
  rcases hcs with ⟨c1, c2⟩ | ⟨c1, ⟨a, b1, b2, b3, b4, b5⟩ | ⟨c2, ⟨a, t, b1, b2, b3, b4, b5, b6, b7, b8, b9⟩ | ⟨b1, b2⟩⟩⟩
  · refine Ag_i (r := if a3 < 0 then 0 else -1000000) (M1 := M1) (M2 := mR M1 (wst M 0) (bF (wst M 0)) (bL (wst M 0)) (M1 21 0 20) (wrs M1 31 0)) ((cC _ c2).trans ?_) (cM.trans ?_) rfl (rR _ _ _ _)
    · by_cases h : a3 < 0
      · rw [if_pos h, if_pos h]
      · rw [if_neg h, if_neg h, if_neg (by decide), if_pos (Int32.not_lt.mp h)]
    · rw [if_neg c1]
      by_cases h : a3 < 0
      · rw [if_pos h, if_neg (Int32.not_le.mpr h)]
      · rw [if_neg h, if_pos (Int32.not_lt.mp h)]
  · rcases m_w35 (N := M1) (F := bF (wst M 0)) (as := wrs M1 31 0) (lo := bL (wst M 0)) (br := M1 21 0 20) (v := a2) (k := a3) hw (wrs_ok _ _ _) hc with ⟨F2, lo2, as2, d1, d2, d3⟩ | ⟨a', F2, lo2, as2, d1, d2, d3, d4⟩
    · exact absurd b2 (d2 a b1)
    · have e : a' = a := first_u (P := fun j => wP (wst M 0) (wst M 0) 0 zc a2 j) d2 d3 b2 b3
      subst e
      refine Ag_i (r := v1 a3 a') (M1 := M1) (M2 := mR M1 (wst M 0) F2 lo2 (M1 21 0 20) as2) ((cC _ b5).trans ?_) (cM.trans ?_) rfl (rR _ _ _ _)
      · unfold v1
        by_cases h : a3 < 0
        · rw [if_pos h, if_neg (Int32.not_le.mpr h)]
        · rw [if_neg h, if_pos (Int32.not_lt.mp h), if_neg (by decide)]
          rcases k01 h with e | e
          · rw [e, if_neg (by decide), if_pos (by rfl), if_pos rfl, show ((0 : Int32)).toNatClampNeg = 0 from rfl, g15, b4]
          · rw [e, if_pos (by decide), if_neg (by decide)]
      · rw [if_pos c1, d4, Option.bind_some]
        rfl
  · rcases m_w35 (N := M1) (F := bF (wst M 0)) (as := wrs M1 31 0) (lo := bL (wst M 0)) (br := M1 21 0 20) (v := a2) (k := a3) hw (wrs_ok _ _ _) hc with ⟨F2, lo2, as2, d1, d2, d3⟩ | ⟨a', F2, lo2, as2, d1, d2, d3, d4⟩
    · rcases m_w63 (N := M1) (F := F2) (as := as2) (lo := lo2) (br := M1 21 0 20) (v := a2) (k := a3) hw d1 hc with ⟨F3, lo3, as3, f1, f2⟩ | ⟨a', t', F3, lo3, as3, f1, f2, f3, f4, f5, f6, f7⟩
      · exact absurd ⟨b3, t, b2, b5⟩ (f1 a b1)
      · have e : a' = a := first_u (P := fun j => wP2 (wst M 0) zc a2 j) ⟨f3, t', f2, f5⟩ f4 ⟨b3, t, b2, b5⟩ b4
        subst e
        have e2 : t' = t := first_u (P := fun j => wP (wst M 0) (sPut (wst M 0) a' 1 0) (a' + 1) zc a2 j) f5 f6 b5 b6
        subst e2
        refine Ag_i (r := v2 a3 a' t') (M1 := M1) (M2 := mR M1 (wst M 0) F3 lo3 (M1 21 0 20) as3) ((cC _ b9).trans ?_) (cM.trans ?_) rfl (rR _ _ _ _)
        · unfold v2
          by_cases h : a3 < 0
          · rw [if_pos h, if_neg (Int32.not_le.mpr h)]
          · rw [if_neg h, if_pos (Int32.not_lt.mp h), if_neg (by decide)]
            rcases k01 h with e | e
            · rw [e, if_neg (by decide), if_pos (by rfl), if_pos rfl, show ((0 : Int32)).toNatClampNeg = 0 from rfl, g15, b7]
            · rw [e, if_neg (by decide), if_pos (by rfl), if_neg (by decide), show ((1 : Int32)).toNatClampNeg = 1 from rfl, g15, b8]
        · rw [if_pos c1, d3, Option.bind_some]
          show Option.bind (l_M_walls_63 (nI zc) a2 a3 2000 0 (mR M1 (wst M 0) F2 lo2 (M1 21 0 20) as2)) _ = _
          rw [f7, Option.bind_some]
          rfl
    · exact absurd d2 (c2 a' d1)
  · rcases m_w35 (N := M1) (F := bF (wst M 0)) (as := wrs M1 31 0) (lo := bL (wst M 0)) (br := M1 21 0 20) (v := a2) (k := a3) hw (wrs_ok _ _ _) hc with ⟨F2, lo2, as2, d1, d2, d3⟩ | ⟨a', F2, lo2, as2, d1, d2, d3, d4⟩
    · rcases m_w63 (N := M1) (F := F2) (as := as2) (lo := lo2) (br := M1 21 0 20) (v := a2) (k := a3) hw d1 hc with ⟨F3, lo3, as3, f1, f2⟩ | ⟨a', t', F3, lo3, as3, f1, f2, f3, f4, f5, f6, f7⟩
      · refine Ag_i (r := -1000000) (M1 := M1) (M2 := mR M1 (wst M 0) F3 lo3 (M1 21 0 20) as3) ((cC _ b2).trans ?_) (cM.trans ?_) rfl (rR _ _ _ _)
        · by_cases h : a3 < 0
          · rw [if_pos h]
          · rw [if_neg h, if_pos rfl]
        · rw [if_pos c1, d3, Option.bind_some]
          show Option.bind (l_M_walls_63 (nI zc) a2 a3 2000 0 (mR M1 (wst M 0) F2 lo2 (M1 21 0 20) as2)) _ = _
          rw [f2, Option.bind_some]
          rfl
      · exact absurd ⟨f3, t', f2, f5⟩ (b1 a' f1)
    · exact absurd d2 (c2 a' d1)
