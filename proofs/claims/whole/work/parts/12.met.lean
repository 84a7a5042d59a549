/-! WHAT A METHOD DOES, by the engine; and that the machine does it -/
def wc_mL (y : Nat) : Nat := (wc_m y).2.2.2.2.1
def wc_mR (y : Nat) : Option FieldType := (wc_m y).2.2.2.2.2.1
def wc_Sd : Nat → wc_S
  | 0 => fun _ _ _ _ _ => False
  | d + 1 => fun y as M r M' => (wc_en as).length ≤ wc_mL y ∧ ∃ n, wc_G (wc_Sd d) (0, fun _ => 0) (wc_mR y) (wc_cd y) n 0 (wc_lay as (wc_mL y)) [] M (fun r2 M2 => r2 = r ∧ M2 = M')
theorem wc_en_len (ad : wc_A) : ∀ as : List wc_V, (lg_sl (as.map (wc_cv ad))).length = (wc_en as).length
  | [] => rfl
  | v :: r => by
    have ih := wc_en_len ad r
    obtain v | v | v := v
    · show (lg_sl (.int v :: r.map (wc_cv ad))).length = (some (Sum.inl v) :: wc_en r).length
      simp [lg_sl, Value.category] at ih ⊢
      exact ih
    · show (lg_sl (.ref (ad v.1 v.2) :: r.map (wc_cv ad))).length = (some (Sum.inr (Sum.inl v)) :: wc_en r).length
      simp [lg_sl, Value.category] at ih ⊢
      exact ih
    · show (lg_sl (.long v :: r.map (wc_cv ad))).length = (some (Sum.inr (Sum.inr v)) :: none :: wc_en r).length
      simp [lg_sl, Value.category] at ih ⊢
      exact ih
theorem wc_en_at (ad : wc_A) : ∀ (as : List wc_V) (k i : Nat) (v : wc_V), (wc_en as)[i]? = some (some v) → (k + i, wc_cv ad v) ∈ lv_args k (as.map (wc_cv ad))
  | [], k, i, v, h => by simp [wc_en] at h
  | w :: r, k, i, v, h => by
    have ih := wc_en_at ad r
    obtain w | w | w := w
    · cases i with
      | zero =>
        cases h
        exact List.mem_cons_self
      | succ i =>
        have h2 := ih (k + 1) i v h
        refine List.mem_cons_of_mem _ ?_
        rw [show k + (i + 1) = k + 1 + i by omega]
        exact h2
    · cases i with
      | zero =>
        cases h
        exact List.mem_cons_self
      | succ i =>
        have h2 := ih (k + 1) i v h
        refine List.mem_cons_of_mem _ ?_
        rw [show k + (i + 1) = k + 1 + i by omega]
        exact h2
    · cases i with
      | zero =>
        cases h
        exact List.mem_cons_self
      | succ i =>
        cases i with
        | zero => cases h
        | succ i =>
          have h2 := ih (k + 2) i v h
          refine List.mem_cons_of_mem _ ?_
          rw [show k + (i + 1 + 1) = k + 2 + i by omega]
          exact h2
theorem wc_lay_lv {ad : wc_A} {as : List wc_V} {n : Nat} {ls : Array Slot} (h : (wc_en as).length ≤ n) (hl : lv_has ls n (lv_args 0 (as.map (wc_cv ad)))) : wc_lv ad n (wc_lay as n) ls := by
  refine ⟨hl.1, hl.2.1, by simp [wc_lay]; omega, fun i v hv => ?_⟩
  have h2 := wc_en_at ad as 0 i v (by
    unfold wc_lay at hv
    by_cases hlt : i < (wc_en as).length
    · rwa [List.getElem?_append_left hlt] at hv
    · rw [List.getElem?_append_right (by omega)] at hv
      rw [List.getElem?_replicate] at hv
      split at hv <;> cases hv)
  rw [Nat.zero_add] at h2
  exact hl.2.2 _ h2
theorem wc_lay_okL {as : List wc_V} {n : Nat} (h : wc_okS as) : wc_okL (wc_lay as n) := by
  have key : ∀ as : List wc_V, wc_okS as → wc_okL (wc_en as) := by
    intro as
    induction as with
    | nil => intro _ v hv; cases hv
    | cons w r ih =>
      intro h v hv
      have h2 := ih (fun x hx => h x (List.mem_cons_of_mem _ hx))
      obtain w | w | w := w
      · rcases List.mem_cons.mp hv with h1 | h1
        · cases h1; rfl
        · exact h2 v h1
      · rcases List.mem_cons.mp hv with h1 | h1
        · cases h1; exact h _ List.mem_cons_self
        · exact h2 v h1
      · rcases List.mem_cons.mp hv with h1 | h1
        · cases h1; rfl
        · rcases List.mem_cons.mp h1 with h3 | h3
          · cases h3
          · exact h2 v h3
  intro v hv
  rcases List.mem_append.mp hv with h1 | h1
  · exact key as h v h1
  · have := List.eq_of_mem_replicate h1
    cases this
theorem wc_Sd_ok (l : Launch) (ad : wc_A) (cA : Nat → ClassId) (D : va_G) (A : Nat → Prop) : ∀ d, wc_SS l ad cA D A d (wc_Sd d)
  | 0 => fun _ _ _ _ _ _ h => h.elim
  | d + 1 => by
    intro y as M r M' hy hM hok
    have hSS := wc_Sd_ok l ad cA D A d
    obtain ⟨hle, n, hG⟩ := hM
    refine Met.ofW (cc := wc_b y) (maxL := wc_mL y) (ret := wc_mR y) (wc_m_name y hy).1 rfl ?_
    intro p e s m args below meth c s₁ B hml hv
    obtain ⟨rfl, hP, hK, hD, hTZ⟩ := hv
    have hx := B.exec
    have hb := B.bytes
    have hr := B.returns
    have hts := atoms_spec (ws := wc_wsm y) B.pre
    have hown : s.vm.findClass (wc_cn (wc_m y).1) = some m.cls := findClass_of_methodNamed B.named
    have hlocks := B.notSynchronized
    have hl := lv_entry (as.map (wc_cv ad)) (n := wc_mL y) (by rw [wc_en_len]; exact hle)
    rw [lg_entry_eq]
    have hlv := wc_lay_lv hle hl
    have hC : wc_C p (headSpec (wc_wsm y) (wc_rm (d + 1))).room s m (as.map (wc_cv ad)).toArray c 0 0 ad cA D A (0, fun _ => 0) (wc_m y).1 (wc_mL y) d (wc_b y) :=
      ⟨hx, hb, hml, hown, fun w hw => hts w (List.mem_cons_of_mem _ hw), hK, hTZ, fun h => absurd h (Nat.lt_irrefl 0), ⟨Nat.le_refl _, Nat.le_refl _, Nat.le_refl _, Nat.le_refl _⟩⟩
    have key := wc_G_ok (below := below) (e := e) (meth := meth) (Q := MQ below (wc_Qc ad cA D A r M') (as.map (wc_cv ad)).toArray s 0 0 A) (K := fun r2 M2 => r2 = r ∧ M2 = M') hC (wk_ok hy) hSS ?_ n 0 (wc_lay as (wc_mL y)) [] M hG (wc_lay_okL hok) (fun v hv => by cases hv)
    · have hpc0 : wc_pc (wc_cd y) 0 = 0 := by
        have h0 : ∀ y, y < 157 → wc_pc (wc_cd y) 0 = 0 := by decide +kernel
        exact h0 y hy
      have h9 := key s.heap [] _ hP hD va_S.rf hlv
      rw [hpc0] at h9
      exact h9
    · intro i L st M2 P r2 hq hPP hK2
      obtain ⟨rfl, rfl⟩ := hK2
      rcases hcd : (wc_cd y)[i]? with _ | ⟨pc, ins, len, tg, ct, cl⟩
      · unfold wc_req at hq
        rw [hcd] at hq
        cases hq
      obtain ⟨hdec, hlen, -, -⟩ := wk_ok hy i pc ins len tg ct cl hcd
      have hpc : wc_pc (wc_cd y) i = pc := by unfold wc_pc; rw [hcd]
      intro H locs ls hP hD hS hlv
      rw [hpc]
      have hend : ∀ t : State, t.heap = H → s.WarmedH t.vm → wc_Wd ad cA D A M2 t t.heap := fun t ht hW => by
        rw [ht]
        exact wc_Wd.moved hW.alike ⟨hP, hK, hD, hTZ.kept hS.2.1⟩
      unfold wc_req at hq
      rw [hcd] at hq
      dsimp only at hq
      split at hq
      · rename_i v hri
        cases hq
        rw [hlen] at hdec
        rw [hri] at hr
        exact W.zret hx hb hr (vp_nar_int v) (fun t ht hW => ⟨⟨v, (), rfl, rfl, hend t ht hW⟩, hS.F ht⟩) hS.2.2 hdec hlocks
      · rename_i v hri
        cases hq
        rw [hlen] at hdec
        rw [hri] at hr
        exact W.zret hx hb hr (by rcases hPP with z | z <;> subst z <;> rfl) (fun t ht hW => ⟨⟨v, (), rfl, rfl, hend t ht hW⟩, hS.F ht⟩) hS.2.2 hdec hlocks
      · rename_i hri
        cases hq
        rw [hlen] at hdec
        rw [hri] at hr
        exact W.vret hx hb hr (fun t ht hW => ⟨⟨(), rfl, trivial, hend t ht hW⟩, hS.F ht⟩) hS.2.2 hdec hlocks
      · cases hq
/-- more depth does no harm -/
theorem wc_G_mono {S S' : wc_S} (hS : ∀ y as M r M', S y as M r M' → S' y as M r M') {X : Nat × (Nat → Int32)} {zr : Option FieldType} {cd : List wc_E} {K : Option Int32 → wc_M → Prop} :
    ∀ (n i : Nat) (L : wc_L) (st : List wc_V) (M : wc_M), wc_G S X zr cd n i L st M K → wc_G S' X zr cd n i L st M K
  | 0, _, _, _, _, h => h.elim
  | n + 1, i, L, st, M, h => by
    have ih := wc_G_mono hS (X := X) (zr := zr) (cd := cd) (K := K) n
    rcases h with ⟨i', L', st', M', h1, h2⟩ | ⟨P, t, f, st', h1, h2, h3⟩ | ⟨P, st', M', h1, h2, h3⟩ | ⟨y, as, rest, r, M', h1, h2, h3⟩ | ⟨x, cs, d, st', h1, h2, h3⟩ | ⟨P, r, h1, h2, h3⟩
    · exact Or.inl ⟨i', L', st', M', h1, ih _ _ _ _ h2⟩
    · exact Or.inr (Or.inl ⟨P, t, f, st', h1, fun z => ih _ _ _ _ (h2 z), fun z => ih _ _ _ _ (h3 z)⟩)
    · exact Or.inr (Or.inr (Or.inl ⟨P, st', M', h1, h2, ih _ _ _ _ h3⟩))
    · exact Or.inr (Or.inr (Or.inr (Or.inl ⟨y, as, rest, r, M', h1, hS _ _ _ _ _ h2, ih _ _ _ _ h3⟩)))
    · exact Or.inr (Or.inr (Or.inr (Or.inr (Or.inl ⟨x, cs, d, st', h1, fun q hq z => ih _ _ _ _ (h2 q hq z), fun z => ih _ _ _ _ (h3 z)⟩))))
    · exact Or.inr (Or.inr (Or.inr (Or.inr (Or.inr ⟨P, r, h1, h2, h3⟩))))
theorem wc_Sd_succ : ∀ (d y : Nat) (as : List wc_V) (M : wc_M) (r : Option Int32) (M' : wc_M), wc_Sd d y as M r M' → wc_Sd (d + 1) y as M r M'
  | 0, _, _, _, _, _, h => h.elim
  | d + 1, y, as, M, r, M', h => by
    obtain ⟨h1, n, h2⟩ := h
    exact ⟨h1, n, wc_G_mono (wc_Sd_succ d) n _ _ _ _ h2⟩
theorem wc_Sd_le {d d' y : Nat} {as : List wc_V} {M : wc_M} {r : Option Int32} {M' : wc_M} (hd : d ≤ d') (h : wc_Sd d y as M r M') : wc_Sd d' y as M r M' := by
  obtain ⟨k, rfl⟩ := Nat.exists_eq_add_of_le hd
  clear hd
  induction k with
  | zero => exact h
  | succ k ih => exact wc_Sd_succ _ _ _ _ _ _ ih
/-- more steps do no harm -/
theorem wc_G_fuel {S : wc_S} {X : Nat × (Nat → Int32)} {zr : Option FieldType} {cd : List wc_E} {K : Option Int32 → wc_M → Prop} :
    ∀ (n i : Nat) (L : wc_L) (st : List wc_V) (M : wc_M), wc_G S X zr cd n i L st M K → wc_G S X zr cd (n + 1) i L st M K
  | 0, _, _, _, _, h => h.elim
  | n + 1, i, L, st, M, h => by
    have ih := wc_G_fuel (S := S) (X := X) (zr := zr) (cd := cd) (K := K) n
    rcases h with ⟨i', L', st', M', h1, h2⟩ | ⟨P, t, f, st', h1, h2, h3⟩ | ⟨P, st', M', h1, h2, h3⟩ | ⟨y, as, rest, r, M', h1, h2, h3⟩ | ⟨x, cs, d, st', h1, h2, h3⟩ | ⟨P, r, h1, h2, h3⟩
    · exact Or.inl ⟨i', L', st', M', h1, ih _ _ _ _ h2⟩
    · exact Or.inr (Or.inl ⟨P, t, f, st', h1, fun z => ih _ _ _ _ (h2 z), fun z => ih _ _ _ _ (h3 z)⟩)
    · exact Or.inr (Or.inr (Or.inl ⟨P, st', M', h1, h2, ih _ _ _ _ h3⟩))
    · exact Or.inr (Or.inr (Or.inr (Or.inl ⟨y, as, rest, r, M', h1, h2, ih _ _ _ _ h3⟩)))
    · exact Or.inr (Or.inr (Or.inr (Or.inr (Or.inl ⟨x, cs, d, st', h1, fun q hq z => ih _ _ _ _ (h2 q hq z), fun z => ih _ _ _ _ (h3 z)⟩))))
    · exact Or.inr (Or.inr (Or.inr (Or.inr (Or.inr ⟨P, r, h1, h2, h3⟩))))
theorem wc_G_le {S : wc_S} {X : Nat × (Nat → Int32)} {zr : Option FieldType} {cd : List wc_E} {K : Option Int32 → wc_M → Prop} {n n' i : Nat} {L : wc_L} {st : List wc_V} {M : wc_M} (hn : n ≤ n') (h : wc_G S X zr cd n i L st M K) : wc_G S X zr cd n' i L st M K := by
  obtain ⟨k, rfl⟩ := Nat.exists_eq_add_of_le hn
  clear hn
  induction k with
  | zero => exact h
  | succ k ih => exact wc_G_fuel _ _ _ _ _ ih
/-- from here the method comes to its end with K -/
def wg (d : Nat) (X : Nat × (Nat → Int32)) (zr : Option FieldType) (cd : List wc_E) (i : Nat) (L : wc_L) (st : List wc_V) (M : wc_M) (K : Option Int32 → wc_M → Prop) : Prop := ∃ n, wc_G (wc_Sd d) X zr cd n i L st M K
section WGS
variable {d : Nat} {X : Nat × (Nat → Int32)} {zr : Option FieldType} {cd : List wc_E} {i : Nat} {L : wc_L} {st : List wc_V} {M : wc_M} {K : Option Int32 → wc_M → Prop}
def wc_blk (xl : Nat) (cd : List wc_E) : Nat → Nat → wc_L → List wc_V → wc_M → Option (Nat × wc_L × List wc_V × wc_M)
  | 0, i, L, st, M => some (i, L, st, M)
  | n + 1, i, L, st, M => match wc_stp xl cd i L st M with
    | some (i', L', st', M') => wc_blk xl cd n i' L' st' M'
    | none => none
theorem wg_blk (n : Nat) {i' : Nat} {L' : wc_L} {st' : List wc_V} {M' : wc_M} (h : wc_blk X.1 cd n i L st M = some (i', L', st', M')) (k : wg d X zr cd i' L' st' M' K) : wg d X zr cd i L st M K := by
  induction n generalizing i L st M with
  | zero =>
    cases h
    exact k
  | succ n ih =>
    unfold wc_blk at h
    split at h
    · rename_i i2 L2 st2 M2 h2
      obtain ⟨q, hq⟩ := ih h
      exact ⟨q + 1, Or.inl ⟨i2, L2, st2, M2, h2, hq⟩⟩
    · cases h
theorem wg_br {c : Prop} {t f : Nat} {st' : List wc_V} (h : wc_brq cd i st = some (c, t, f, st')) (kt : c → wg d X zr cd t L st' M K) (kf : ¬ c → wg d X zr cd f L st' M K) : wg d X zr cd i L st M K := by
  by_cases hc : c
  · obtain ⟨n, hn⟩ := kt hc
    exact ⟨n + 1, Or.inr (Or.inl ⟨c, t, f, st', h, fun _ => hn, fun z => absurd hc z⟩)⟩
  · obtain ⟨n, hn⟩ := kf hc
    exact ⟨n + 1, Or.inr (Or.inl ⟨c, t, f, st', h, fun z => absurd z hc, fun _ => hn⟩)⟩
theorem wg_ck {P : Prop} {st' : List wc_V} {M' : wc_M} (h : wc_chq X cd i st M = some (P, st', M')) (hP : P) (k : wg d X zr cd (i + 1) L st' M' K) : wg d X zr cd i L st M K := by
  obtain ⟨n, hn⟩ := k
  exact ⟨n + 1, Or.inr (Or.inr (Or.inl ⟨P, st', M', h, hP, hn⟩))⟩
theorem wg_ca {y d' : Nat} {as rest : List wc_V} {r : Option Int32} {M' : wc_M} (h : wc_caq cd i st = some (y, as, rest)) (hd : d' ≤ d) (hM : wc_Sd d' y as M r M') (k : wg d X zr cd (i + 1) L (wc_pu r rest) M' K) : wg d X zr cd i L st M K := by
  obtain ⟨n, hn⟩ := k
  exact ⟨n + 1, Or.inr (Or.inr (Or.inr (Or.inl ⟨y, as, rest, r, M', h, wc_Sd_le hd hM, hn⟩)))⟩
theorem wg_sw {x : Int32} {cs : List (Int32 × Nat)} {df : Nat} {st' : List wc_V} (h : wc_swq cd i st = some (x, cs, df, st')) (kt : ∀ q ∈ cs, x = q.1 → wg d X zr cd q.2 L st' M K) (kf : (∀ q ∈ cs, x ≠ q.1) → wg d X zr cd df L st' M K) : wg d X zr cd i L st M K := by
  by_cases hc : ∃ q ∈ cs, x = q.1
  · have hb : ∃ n, ∀ q ∈ cs, x = q.1 → wc_G (wc_Sd d) X zr cd n q.2 L st' M K := by
      clear h hc kf
      induction cs with
      | nil => exact ⟨0, fun q hq => by cases hq⟩
      | cons a r ih =>
        obtain ⟨n, hn⟩ := ih (fun q hq => kt q (List.mem_cons_of_mem _ hq))
        by_cases ha : x = a.1
        · obtain ⟨n2, hn2⟩ := kt a List.mem_cons_self ha
          refine ⟨n + n2, fun q hq he => ?_⟩
          rcases List.mem_cons.mp hq with h1 | h1
          · subst h1
            exact wc_G_le (by omega) hn2
          · exact wc_G_le (by omega) (hn q h1 he)
        · refine ⟨n, fun q hq he => ?_⟩
          rcases List.mem_cons.mp hq with h1 | h1
          · subst h1
            exact absurd he ha
          · exact hn q h1 he
    obtain ⟨n, hn⟩ := hb
    obtain ⟨q, hq, he⟩ := hc
    exact ⟨n + 1, Or.inr (Or.inr (Or.inr (Or.inr (Or.inl ⟨x, cs, df, st', h, hn, fun z => absurd he (z q hq)⟩))))⟩
  · have hc' : ∀ q ∈ cs, x ≠ q.1 := fun q hq he => hc ⟨q, hq, he⟩
    obtain ⟨n, hn⟩ := kf hc'
    exact ⟨n + 1, Or.inr (Or.inr (Or.inr (Or.inr (Or.inl ⟨x, cs, df, st', h, fun q hq he => absurd he (hc' q hq), fun _ => hn⟩))))⟩
theorem wg_re {P : Prop} {r : Option Int32} (h : wc_req zr cd i st = some (P, r)) (hP : P) (k : K r M) : wg d X zr cd i L st M K :=
  ⟨1, Or.inr (Or.inr (Or.inr (Or.inr (Or.inr ⟨P, r, h, hP, k⟩))))⟩
theorem wg_Sd {y : Nat} {as : List wc_V} {r : Option Int32} {M' : wc_M} (h : (wc_en as).length ≤ wc_mL y) (k : wg d (0, fun _ => 0) (wc_mR y) (wc_cd y) 0 (wc_lay as (wc_mL y)) [] M (fun r2 M2 => r2 = r ∧ M2 = M')) : wc_Sd (d + 1) y as M r M' := ⟨h, k⟩
end WGS
