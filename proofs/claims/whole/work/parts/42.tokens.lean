/-! THE TEXT: numbers and tokens -/
def dg (T : Nat → Int32) (n i d : Nat) : Prop := i < n ∧ d < 10 ∧ T i = nI (48 + d)
theorem fig (x : Int32) : (f_T_isFigure x = 1 ∧ ∃ d, d < 10 ∧ x = nI (48 + d)) ∨ (f_T_isFigure x = 0 ∧ ∀ d, d < 10 → ¬ x = nI (48 + d)) := by
  unfold f_T_isFigure
  by_cases h1 : x < 48
  · rw [if_pos h1]
    refine Or.inr ⟨rfl, fun d hd e => ?_⟩
    rw [e, n_lt (by decide) (by omega)] at h1
    omega
  · rw [if_neg h1]
    by_cases h2 : 57 < x
    · rw [if_pos h2]
      refine Or.inr ⟨rfl, fun d hd e => ?_⟩
      rw [e, n_gt (by decide) (by omega)] at h2
      omega
    · rw [if_neg h2]
      obtain ⟨c, hc, rfl⟩ := n_of (Int32.le_trans (by decide) (Int32.not_lt.mp h1))
      rw [n_lt (by decide) hc] at h1
      rw [n_gt (by decide) hc] at h2
      exact Or.inl ⟨rfl, c - 48, by omega, by rw [show 48 + (c - 48) = c by omega]⟩
def nOk (T : Nat → Int32) (n p v l : Nat) : Prop := (l = 1 ∧ dg T n p v ∧ ∀ d, ¬ dg T n (p + 1) d) ∨ (l = 2 ∧ ∃ d e, dg T n p d ∧ dg T n (p + 1) e ∧ (∀ f, ¬ dg T n (p + 2) f) ∧ v = 10 * d + e)
def nNo (T : Nat → Int32) (n p : Nat) : Prop := ∀ d, ¬ dg T n p d
def n3d (T : Nat → Int32) (n p : Nat) : Prop := ∃ d e f, dg T n p d ∧ dg T n (p + 1) e ∧ dg T n (p + 2) f
theorem nOk_b {T : Nat → Int32} {n p v l : Nat} (h : nOk T n p v l) : v ≤ 99 ∧ 1 ≤ l ∧ p + l ≤ n := by
  rcases h with ⟨rfl, ⟨h1, h2, h3⟩, _⟩ | ⟨rfl, d, e, ⟨h1, h2, h3⟩, ⟨h4, h5, h6⟩, _, rfl⟩
  · omega
  · omega
theorem num_c (T : Nat → Int32) (n p : Nat) : nNo T n p ∨ (∃ v l, nOk T n p v l) ∨ n3d T n p := by
  by_cases h1 : ∃ d, dg T n p d
  · obtain ⟨d, h1⟩ := h1
    by_cases h2 : ∃ e, dg T n (p + 1) e
    · obtain ⟨e, h2⟩ := h2
      by_cases h3 : ∃ f, dg T n (p + 2) f
      · obtain ⟨f, h3⟩ := h3
        exact Or.inr (Or.inr ⟨d, e, f, h1, h2, h3⟩)
      · exact Or.inr (Or.inl ⟨10 * d + e, 2, Or.inr ⟨rfl, d, e, h1, h2, fun f hf => h3 ⟨f, hf⟩, rfl⟩⟩)
    · exact Or.inr (Or.inl ⟨d, 1, Or.inl ⟨rfl, h1, fun e he => h2 ⟨e, he⟩⟩⟩)
  · exact Or.inl (fun d hd => h1 ⟨d, hd⟩)
theorem t_step {M : wc_M} {n p q : Nat} {x1 v : Int32} {m : Nat} (hn : n ≤ 120) (h1 : M 4 0 1 = nI n) (h4 : M 4 0 4 = nI p) (hq : q < 3) (hpq : p + q ≤ n) : (∀ d, dg (fun i => M 5 0 i) n (p + q) d → l_T_readNumber_4 x1 M (m + 1) (nI q) v = l_T_readNumber_4 x1 M m (nI (q + 1)) (10 * v + nI (48 + d) - 48)) ∧ ((∀ d, ¬ dg (fun i => M 5 0 i) n (p + q) d) → l_T_readNumber_4 x1 M (m + 1) (nI q) v = some (nI q, v)) := by
  rw [l_T_readNumber_4, if_neg (by rw [n_le (by decide) (by omega)]; omega), h1, h4, nI_add]
  by_cases hlt : p + q < n
  · rw [if_neg (by rw [nI_leI (by omega) (by omega)]; omega), if_pos (n_wib (by omega) (by decide)), n_t (by omega)]
    rcases fig (M 5 0 (p + q)) with ⟨f1, d0, f2, f3⟩ | ⟨f1, f2⟩
    · refine ⟨fun d hd => ?_, fun h => absurd ⟨hlt, f2, f3⟩ (h d0)⟩
      rw [if_neg (by rw [f1]; decide), n_ar, show M 5 0 (p + q) = nI (48 + d) from hd.2.2]
    · exact ⟨fun d hd => absurd hd.2.2 (f2 d hd.2.1), fun _ => by rw [if_pos f1]⟩
  · rw [if_pos (by rw [nI_leI (by omega) (by omega)]; omega)]
    exact ⟨fun d hd => absurd hd.1 hlt, fun _ => rfl⟩
theorem dig1 (d : Nat) : (10 : Int32) * 0 + nI (48 + d) - 48 = nI d := by
  have e : (10 : Int32) * 0 = nI 0 := rfl
  rw [e, nI_add, n_sub (by omega)]
  congr 1
  omega
theorem dig2 (d e : Nat) : (10 : Int32) * nI d + nI (48 + e) - 48 = nI (10 * d + e) := by
  rw [n_ml, nI_add, n_sub (by omega)]
  congr 1
  omega
def tF (M : wc_M) (f p : Int32) : wc_M := wc_up (wc_up M 4 0 2 f) 4 0 3 p
theorem t_num {M : wc_M} {n p : Nat} (last : Int32) (hn : n ≤ 120) (h1 : M 4 0 1 = nI n) (h4 : M 4 0 4 = nI p) (hp : p ≤ n) : ((nNo (fun i => M 5 0 i) n p ∨ n3d (fun i => M 5 0 i) n p) → f_T_readNumber last M = some (-1, tF M 1 (nI p))) ∧ ∀ v l, nOk (fun i => M 5 0 i) n p v l → f_T_readNumber last M = if nI v ≤ last then some (nI v, wc_up M 4 0 4 (nI (p + l))) else some (-1, tF M 2 (nI p)) := by
  have s0 : ∀ v m, _ := fun v m => t_step (x1 := last) (v := v) (m := m) (q := 0) hn h1 h4 (by omega) (by omega)
  unfold f_T_readNumber f_T_fail
  refine ⟨?_, ?_⟩
  · rintro (h | ⟨d, e, f, hd, he, hf⟩)
    · have e0 : l_T_readNumber_4 last M 2000 0 0 = some (nI 0, 0) := (s0 0 1999).2 h
      rw [e0, Option.bind_some]
      show (if nI 0 = 0 then _ else _) = _
      rw [if_pos (by decide), Option.bind_some, h4]
      rfl
    · have e0 : l_T_readNumber_4 last M 2000 0 0 = l_T_readNumber_4 last M 1999 (nI (0 + 1)) (10 * 0 + nI (48 + d) - 48) := (s0 0 1999).1 d hd
      have s1 := t_step (x1 := last) (v := 10 * 0 + nI (48 + d) - 48) (m := 1998) (q := 1) hn h1 h4 (by omega) (by have := hd.1; omega)
      have s2 := t_step (x1 := last) (v := 10 * (10 * 0 + nI (48 + d) - 48) + nI (48 + e) - 48) (m := 1997) (q := 2) hn h1 h4 (by omega) (by have := he.1; omega)
      have e1 : l_T_readNumber_4 last M 1999 (nI (0 + 1)) (10 * 0 + nI (48 + d) - 48) = _ := s1.1 e he
      have e2 : l_T_readNumber_4 last M 1998 (nI (1 + 1)) (10 * (10 * 0 + nI (48 + d) - 48) + nI (48 + e) - 48) = _ := s2.1 f hf
      have e3 : ∀ v, l_T_readNumber_4 last M 1997 (nI (2 + 1)) v = some (nI 3, v) := by
        intro v
        rw [show (1997 : Nat) = 1996 + 1 from rfl, l_T_readNumber_4, if_pos (by decide)]
      rw [e0, e1, e2, e3, Option.bind_some]
      show (if nI 3 = 0 then _ else if nI 3 = 3 then _ else _) = _
      rw [if_neg (by decide), if_pos (by decide), Option.bind_some, h4]
      rfl
  · rintro v l (⟨rfl, hv, h2⟩ | ⟨rfl, d, e, hd, he, hf, rfl⟩)
    · have e0 : l_T_readNumber_4 last M 2000 0 0 = l_T_readNumber_4 last M 1999 (nI (0 + 1)) (10 * 0 + nI (48 + v) - 48) := (s0 0 1999).1 v hv
      have s1 := t_step (x1 := last) (v := 10 * 0 + nI (48 + v) - 48) (m := 1998) (q := 1) hn h1 h4 (by omega) (by have := hv.1; omega)
      have e1 : l_T_readNumber_4 last M 1999 (nI (0 + 1)) (10 * 0 + nI (48 + v) - 48) = _ := s1.2 h2
      rw [e0, e1, dig1, Option.bind_some]
      show (if nI 1 = 0 then _ else if nI 1 = 3 then _ else if nI v ≤ last then some (nI v, wc_up M 4 0 4 (M 4 0 4 + nI 1)) else _) = _
      rw [if_neg (by decide), if_neg (by decide), h4, nI_add]
      by_cases hl : nI v ≤ last
      · rw [if_pos hl, if_pos hl]
      · rw [if_neg hl, if_neg hl, Option.bind_some]
        rfl
    · have e0 : l_T_readNumber_4 last M 2000 0 0 = l_T_readNumber_4 last M 1999 (nI (0 + 1)) (10 * 0 + nI (48 + d) - 48) := (s0 0 1999).1 d hd
      have s1 := t_step (x1 := last) (v := 10 * 0 + nI (48 + d) - 48) (m := 1998) (q := 1) hn h1 h4 (by omega) (by have := hd.1; omega)
      have s2 := t_step (x1 := last) (v := 10 * (10 * 0 + nI (48 + d) - 48) + nI (48 + e) - 48) (m := 1997) (q := 2) hn h1 h4 (by omega) (by have := he.1; omega)
      have e1 : l_T_readNumber_4 last M 1999 (nI (0 + 1)) (10 * 0 + nI (48 + d) - 48) = _ := s1.1 e he
      have e2 : l_T_readNumber_4 last M 1998 (nI (1 + 1)) (10 * (10 * 0 + nI (48 + d) - 48) + nI (48 + e) - 48) = _ := s2.2 hf
      rw [e0, e1, e2, dig1, dig2, Option.bind_some]
      show (if nI 2 = 0 then _ else if nI 2 = 3 then _ else if nI (10 * d + e) ≤ last then some (nI (10 * d + e), wc_up M 4 0 4 (M 4 0 4 + nI 2)) else _) = _
      rw [if_neg (by decide), if_neg (by decide), h4, nI_add]
      by_cases hl : nI (10 * d + e) ≤ last
      · rw [if_pos hl, if_pos hl]
      · rw [if_neg hl, if_neg hl, Option.bind_some]
        rfl
theorem t_byte {M : wc_M} {n p : Nat} (c : Int32) (hn : n ≤ 120) (h1 : M 4 0 1 = nI n) (h4 : M 4 0 4 = nI p) (hp : p ≤ n) : f_T_readByte c M = if p < n ∧ M 5 0 p = c then some (1, wc_up M 4 0 4 (nI (p + 1))) else some (0, tF M 1 (nI p)) := by
  unfold f_T_readByte f_T_fail
  rw [h1, h4]
  by_cases hlt : p < n
  · rw [if_neg (by rw [nI_leI (by omega) (by omega)]; omega), if_pos (n_wib (by omega) (by decide)), n_t (by omega), n_ar]
    by_cases hc : M 5 0 p = c
    · rw [if_pos hc, if_pos ⟨hlt, hc⟩]
    · rw [if_neg hc, if_neg (fun z => hc z.2), Option.bind_some]
      rfl
  · rw [if_pos (by rw [nI_leI (by omega) (by omega)]; omega), if_neg (fun z => hlt z.1), Option.bind_some]
    rfl
/-! the reference's tokens -/
def tokL (x : Int32) : Int32 := if f_M_in x.toInt64 97 122 = 0 then (if x = 44 then 1 else if x = 59 then 1 else 0) else 1
def nT (N : wc_M) (pl tk va be : Int32) : wc_M := fun k i s => if k = 21 ∧ i = 0 ∧ s = 10 then pl else if k = 21 ∧ i = 0 ∧ s = 11 then tk else if k = 21 ∧ i = 0 ∧ s = 12 then va else if k = 21 ∧ i = 0 ∧ s = 13 then be else N k i s
theorem nT_pl {N : wc_M} {pl tk va be : Int32} : nT N pl tk va be 21 0 10 = pl := by
  unfold nT
  rw [if_pos ⟨rfl, rfl, rfl⟩]
theorem nT_tk {N : wc_M} {pl tk va be : Int32} : nT N pl tk va be 21 0 11 = tk := by
  unfold nT
  rw [if_neg (by omega), if_pos ⟨rfl, rfl, rfl⟩]
theorem nT_va {N : wc_M} {pl tk va be : Int32} : nT N pl tk va be 21 0 12 = va := by
  unfold nT
  rw [if_neg (by omega), if_neg (by omega), if_pos ⟨rfl, rfl, rfl⟩]
theorem nT_be {N : wc_M} {pl tk va be : Int32} : nT N pl tk va be 21 0 13 = be := by
  unfold nT
  rw [if_neg (by omega), if_neg (by omega), if_neg (by omega), if_pos ⟨rfl, rfl, rfl⟩]
theorem nT_off {N : wc_M} {pl tk va be : Int32} {k i s : Nat} (h : k ≠ 21 ∨ s < 10 ∨ 13 < s) : nT N pl tk va be k i s = N k i s := by
  unfold nT
  rw [if_neg (by omega), if_neg (by omega), if_neg (by omega), if_neg (by omega)]
theorem nT_u {N : wc_M} {pl tk va be v w : Int32} : wc_up (wc_up (nT N pl tk va be) 21 0 12 v) 21 0 10 w = nT N w tk v be := by
  funext a b c
  unfold wc_up nT
  grind
theorem nT_u2 {N : wc_M} {pl tk va be v w x : Int32} : wc_up (wc_up (wc_up (nT N pl tk va be) 21 0 12 v) 21 0 11 w) 21 0 10 x = nT N x w v be := by
  funext a b c
  unfold wc_up nT
  grind
theorem nT_u3 {N : wc_M} {pl tk va be v : Int32} : wc_up (nT N pl tk va be) 21 0 11 v = nT N pl v va be := by
  funext a b c
  unfold wc_up nT
  grind
theorem nT_i {N : wc_M} {x y z : Int32} : wc_up (wc_up (wc_up N 21 0 13 x) 21 0 11 y) 21 0 12 z = nT N (N 21 0 10) y z x := by
  funext a b c
  unfold wc_up nT
  grind
theorem m_fig (x : Int32) : f_M_in x.toInt64 48 57 = f_T_isFigure x := m_in32 x 48 57
theorem r_tst {N : wc_M} {n q m : Nat} {tk va be : Int32} (hn : n ≤ 120) (h8 : N 21 0 8 = nI n) (hq : q ≤ n) : (∀ d, dg (fun i => N 27 0 i) n q d → l_M_nextToken_17 (m + 1) (nT N (nI q) tk va be) = l_M_nextToken_17 m (nT N (nI (q + 1)) tk (if va ≤ 99 then 10 * va + nI (48 + d) - 48 else va) be)) ∧ ((∀ d, ¬ dg (fun i => N 27 0 i) n q d) → l_M_nextToken_17 (m + 1) (nT N (nI q) tk va be) = some (nT N (nI q) tk va be)) := by
  rw [l_M_nextToken_17, nT_off (k := 21) (s := 8) (by omega), h8, nT_pl]
  by_cases hlt : q < n
  · rw [if_neg (by rw [nI_leI (by omega) (by omega)]; omega), if_pos (n_wib (by omega) (by decide)), n_t (by omega), nT_off (k := 27) (by omega), m_fig, nT_va]
    rcases fig (N 27 0 q) with ⟨f1, d0, f2, f3⟩ | ⟨f1, f2⟩
    · refine ⟨fun d hd => ?_, fun h => absurd ⟨hlt, f2, f3⟩ (h d0)⟩
      have ew : ∀ v, wc_up (nT N (nI q) tk va be) 21 0 12 v 21 0 10 + 1 = nI (q + 1) := by
        intro v
        unfold wc_up
        rw [if_neg (by omega), nT_pl, n_ar]
      rw [if_neg (by rw [f1]; decide), show N 27 0 q = nI (48 + d) from hd.2.2]
      by_cases hv : va ≤ 99
      · rw [if_pos hv, if_pos hv, Option.bind_some, ew, nT_u]
      · rw [if_neg hv, if_neg hv, Option.bind_some, ew, nT_u]
    · exact ⟨fun d hd => absurd hd.2.2 (f2 d hd.2.1), fun _ => by rw [if_pos f1]⟩
  · rw [if_pos (by rw [nI_leI (by omega) (by omega)]; omega)]
    exact ⟨fun d hd => absurd hd.1 hlt, fun _ => rfl⟩
theorem r_tex {N : wc_M} {n : Nat} {tk be : Int32} (hn : n ≤ 120) (h8 : N 21 0 8 = nI n) : ∀ (k q m : Nat) (va : Int32), n - q = k → q ≤ n → k < m → ∃ q' va', q ≤ q' ∧ q' ≤ n ∧ l_M_nextToken_17 m (nT N (nI q) tk va be) = some (nT N (nI q') tk va' be)
  | 0, q, m, va, hk, hq, hm => by
    obtain ⟨m, rfl⟩ : ∃ y, m = y + 1 := ⟨m - 1, by omega⟩
    exact ⟨q, va, by omega, hq, (r_tst hn h8 hq).2 (fun d hd => by have := hd.1; omega)⟩
  | k + 1, q, m, va, hk, hq, hm => by
    obtain ⟨m, rfl⟩ : ∃ y, m = y + 1 := ⟨m - 1, by omega⟩
    by_cases h : ∃ d, dg (fun i => N 27 0 i) n q d
    · obtain ⟨d, hd⟩ := h
      obtain ⟨q', va', h1, h2, h3⟩ := r_tex (tk := tk) (be := be) hn h8 k (q + 1) m (if va ≤ 99 then 10 * va + nI (48 + d) - 48 else va) (by omega) (by omega) (by omega)
      refine ⟨q', va', by omega, h2, ?_⟩
      rw [(r_tst hn h8 hq).1 d hd]
      exact h3
    · exact ⟨q, va, by omega, hq, (r_tst hn h8 hq).2 (fun d hd => h ⟨d, hd⟩)⟩
def Tk (N : wc_M) (T : Nat → Int32) (n p : Nat) : Prop := N 21 0 13 = nI p ∧ N 21 0 8 = nI n ∧ (∀ i, i < n → N 27 0 i = T i) ∧ p ≤ n ∧ ((p = n ∧ N 21 0 11 = 3) ∨ (p < n ∧ nNo T n p ∧ N 21 0 12 = T p ∧ N 21 0 10 = nI (p + 1) ∧ N 21 0 11 = tokL (T p)) ∨ (∃ v l, nOk T n p v l ∧ N 21 0 11 = 2 ∧ N 21 0 12 = nI v ∧ N 21 0 10 = nI (p + l)) ∨ (n3d T n p ∧ N 21 0 11 = 0))
theorem dg_cong {T T' : Nat → Int32} {n i d : Nat} (h : ∀ j, j < n → T j = T' j) : dg T n i d ↔ dg T' n i d := by
  unfold dg
  constructor
  · rintro ⟨h1, h2, h3⟩
    exact ⟨h1, h2, by rw [← h i h1]; exact h3⟩
  · rintro ⟨h1, h2, h3⟩
    exact ⟨h1, h2, by rw [h i h1]; exact h3⟩
theorem r_next {N : wc_M} {T : Nat → Int32} {n p : Nat} (hn : n ≤ 120) (h8 : N 21 0 8 = nI n) (hT : ∀ i, i < n → N 27 0 i = T i) (h10 : N 21 0 10 = nI p) (hp : p ≤ n) : ∃ N', f_M_nextToken N = some N' ∧ Tk N' T n p ∧ ∀ k i s, (k ≠ 21 ∨ s < 10 ∨ 13 < s) → N' k i s = N k i s := by
  have hD : ∀ i d, dg (fun i => N 27 0 i) n i d ↔ dg T n i d := fun i d => dg_cong hT
  have e10 : wc_up N 21 0 13 (nI p) 21 0 10 = nI p := by
    unfold wc_up
    rw [if_neg (by omega)]
    exact h10
  have e8 : wc_up N 21 0 13 (nI p) 21 0 8 = nI n := by
    unfold wc_up
    rw [if_neg (by omega)]
    exact h8
  have fr : ∀ pl tk va be, ∀ k i s, (k ≠ 21 ∨ s < 10 ∨ 13 < s) → nT N pl tk va be k i s = N k i s := fun pl tk va be k i s h => nT_off h
  have base : ∀ pl tk va, nT N pl tk va (nI p) 21 0 13 = nI p ∧ nT N pl tk va (nI p) 21 0 8 = nI n ∧ (∀ i, i < n → nT N pl tk va (nI p) 27 0 i = T i) ∧ p ≤ n := by
    intro pl tk va
    refine ⟨nT_be, ?_, fun i hi => ?_, hp⟩
    · rw [nT_off (by omega)]
      exact h8
    · rw [nT_off (by omega)]
      exact hT i hi
  unfold f_M_nextToken
  rw [h10, e10, e8]
  by_cases hpn : p = n
  · have hno : ∀ d, ¬ dg (fun i => N 27 0 i) n p d := fun d hd => by have := hd.1; omega
    have hl : l_M_nextToken_17 2000 (nT N (nI p) 3 0 (nI p)) = _ := (r_tst (m := 1999) hn h8 hp).2 hno
    refine ⟨nT N (nI p) 3 0 (nI p), ?_, ?_, fr _ _ _ _⟩
    · rw [if_pos (by rw [hpn]), Option.bind_some, nT_i, h10, hl, Option.bind_some, nT_pl, nT_be, if_pos (Int32.le_refl _), nT_tk, if_neg (by decide)]
    · obtain ⟨b1, b2, b3, b4⟩ := base (nI p) 3 0
      exact ⟨b1, b2, b3, b4, Or.inl ⟨hpn, nT_tk⟩⟩
  · have hlt : p < n := by omega
    rw [if_neg (by
      intro e
      exact hpn ((nI_eq (by omega) (by omega)).mp e)), Option.bind_some, nT_i, h10]
    rcases num_c T n p with hno | ⟨v, l, hok⟩ | h3
    · have hl : l_M_nextToken_17 2000 (nT N (nI p) 0 0 (nI p)) = _ := (r_tst (m := 1999) hn h8 hp).2 (fun d hd => hno d ((hD p d).mp hd))
      refine ⟨nT N (nI (p + 1)) (tokL (T p)) (T p) (nI p), ?_, ?_, fr _ _ _ _⟩
      · have et : ∀ z : wc_M, (Option.bind (if (f_M_in (T p).toInt64 (97 : Int64) (122 : Int64)) = (0 : Int32) then (if T p = (44 : Int32) then some (1 : Int32) else (if T p = (59 : Int32) then some (1 : Int32) else some (0 : Int32))) else some (1 : Int32)) fun t8 => some (wc_up (wc_up (wc_up (nT N (nI p) 0 0 (nI p)) 21 0 12 (T p)) 21 0 11 t8) 21 0 10 (((wc_up (wc_up (nT N (nI p) 0 0 (nI p)) 21 0 12 (T p)) 21 0 11 t8) 21 0 10) + (1 : Int32)))) = some (nT N (nI (p + 1)) (tokL (T p)) (T p) (nI p)) := by
          intro z
          have ev : (if (f_M_in (T p).toInt64 (97 : Int64) (122 : Int64)) = (0 : Int32) then (if T p = (44 : Int32) then some (1 : Int32) else (if T p = (59 : Int32) then some (1 : Int32) else some (0 : Int32))) else some (1 : Int32)) = some (tokL (T p)) := by
            unfold tokL
            split
            · split
              · rfl
              · split <;> rfl
            · rfl
          have ew : ∀ t, (wc_up (wc_up (nT N (nI p) 0 0 (nI p)) 21 0 12 (T p)) 21 0 11 t) 21 0 10 + 1 = nI (p + 1) := by
            intro t
            unfold wc_up
            rw [if_neg (by omega), if_neg (by omega), nT_pl, n_ar]
          rw [ev, Option.bind_some, ew, nT_u2]
        have ez : wc_up (nT N (nI p) 0 0 (nI p)) 21 0 12 (T p) 21 0 12 = T p := by
          unfold wc_up
          rw [if_pos ⟨rfl, rfl, rfl⟩]
        rw [hl, Option.bind_some, nT_pl, nT_be, if_pos (Int32.le_refl _), nT_tk, if_pos rfl, if_pos (n_wib (by omega) (by decide)), n_t (by omega), nT_off (k := 27) (by omega), hT p hlt, ez]
        exact et N
      · obtain ⟨b1, b2, b3, b4⟩ := base (nI (p + 1)) (tokL (T p)) (T p)
        exact ⟨b1, b2, b3, b4, Or.inr (Or.inl ⟨hlt, hno, nT_va, nT_pl, nT_tk⟩)⟩
    · have hb := nOk_b hok
      have hl : l_M_nextToken_17 2000 (nT N (nI p) 0 0 (nI p)) = some (nT N (nI (p + l)) 0 (nI v) (nI p)) := by
        rcases hok with ⟨rfl, hv, h2⟩ | ⟨rfl, d, e, hd, he, hf, rfl⟩
        · have s0 := (r_tst (m := 1999) (tk := 0) (va := 0) (be := nI p) hn h8 hp).1 v ((hD p v).mpr hv)
          rw [if_pos (by decide), dig1] at s0
          have s1 := (r_tst (m := 1998) (q := p + 1) (tk := 0) (va := nI v) (be := nI p) hn h8 (by omega)).2 (fun d hd => h2 d ((hD _ d).mp hd))
          exact s0.trans s1
        · have hd9 := hd.2.1
          have s0 := (r_tst (m := 1999) (tk := 0) (va := 0) (be := nI p) hn h8 hp).1 d ((hD p d).mpr hd)
          rw [if_pos (by decide), dig1] at s0
          have s1 := (r_tst (m := 1998) (q := p + 1) (tk := 0) (va := nI d) (be := nI p) hn h8 (by omega)).1 e ((hD _ e).mpr he)
          rw [if_pos (by rw [n_ge (by decide) (by omega)]; omega), dig2] at s1
          have s2 := (r_tst (m := 1997) (q := p + 2) (tk := 0) (va := nI (10 * d + e)) (be := nI p) hn h8 (by omega)).2 (fun f hf2 => hf f ((hD _ f).mp hf2))
          exact s0.trans (s1.trans s2)
      refine ⟨nT N (nI (p + l)) 2 (nI v) (nI p), ?_, ?_, fr _ _ _ _⟩
      · rw [hl, Option.bind_some, nT_pl, nT_be, if_neg (by rw [nI_leI (by omega) (by omega)]; omega), pk_sub (by omega), show p + l - p = l by omega, if_pos (by
          rw [n_ge (by decide) (by omega)]
          rcases hok with ⟨rfl, _⟩ | ⟨rfl, _⟩ <;> omega), nT_u3]
      · obtain ⟨b1, b2, b3, b4⟩ := base (nI (p + l)) 2 (nI v)
        exact ⟨b1, b2, b3, b4, Or.inr (Or.inr (Or.inl ⟨v, l, hok, nT_tk, nT_va, nT_pl⟩))⟩
    · obtain ⟨d, e, f, hd, he, hf⟩ := h3
      have hf1 := hf.1
      have s0 := (r_tst (m := 1999) (tk := 0) (va := 0) (be := nI p) hn h8 hp).1 d ((hD p d).mpr hd)
      have s1 := (r_tst (m := 1998) (q := p + 1) (tk := 0) (va := if (0 : Int32) ≤ 99 then 10 * 0 + nI (48 + d) - 48 else 0) (be := nI p) hn h8 (by omega)).1 e ((hD _ e).mpr he)
      have s2 := (r_tst (m := 1997) (q := p + 2) (tk := 0) (va := if (if (0 : Int32) ≤ 99 then 10 * 0 + nI (48 + d) - 48 else 0) ≤ 99 then 10 * (if (0 : Int32) ≤ 99 then 10 * 0 + nI (48 + d) - 48 else 0) + nI (48 + e) - 48 else (if (0 : Int32) ≤ 99 then 10 * 0 + nI (48 + d) - 48 else 0)) (be := nI p) hn h8 (by omega)).1 f ((hD _ f).mpr hf)
      obtain ⟨q', va', g1, g2, g3⟩ := r_tex (tk := 0) (be := nI p) hn h8 (n - (p + 3)) (p + 3) 1997 (if (if (if (0 : Int32) ≤ 99 then 10 * 0 + nI (48 + d) - 48 else 0) ≤ 99 then 10 * (if (0 : Int32) ≤ 99 then 10 * 0 + nI (48 + d) - 48 else 0) + nI (48 + e) - 48 else (if (0 : Int32) ≤ 99 then 10 * 0 + nI (48 + d) - 48 else 0)) ≤ 99 then 10 * (if (if (0 : Int32) ≤ 99 then 10 * 0 + nI (48 + d) - 48 else 0) ≤ 99 then 10 * (if (0 : Int32) ≤ 99 then 10 * 0 + nI (48 + d) - 48 else 0) + nI (48 + e) - 48 else (if (0 : Int32) ≤ 99 then 10 * 0 + nI (48 + d) - 48 else 0)) + nI (48 + f) - 48 else (if (if (0 : Int32) ≤ 99 then 10 * 0 + nI (48 + d) - 48 else 0) ≤ 99 then 10 * (if (0 : Int32) ≤ 99 then 10 * 0 + nI (48 + d) - 48 else 0) + nI (48 + e) - 48 else (if (0 : Int32) ≤ 99 then 10 * 0 + nI (48 + d) - 48 else 0))) rfl (by omega) (by omega)
      have hl : l_M_nextToken_17 2000 (nT N (nI p) 0 0 (nI p)) = some (nT N (nI q') 0 va' (nI p)) := s0.trans (s1.trans (s2.trans g3))
      refine ⟨nT N (nI q') 0 va' (nI p), ?_, ?_, fr _ _ _ _⟩
      · rw [hl, Option.bind_some, nT_pl, nT_be, if_neg (by rw [nI_leI (by omega) (by omega)]; omega), pk_sub (by omega), if_neg (by
          rw [n_ge (by decide) (by omega)]
          omega), nT_u3]
      · obtain ⟨b1, b2, b3, b4⟩ := base (nI q') 0 va'
        exact ⟨b1, b2, b3, b4, Or.inr (Or.inr (Or.inr ⟨⟨d, e, f, hd, he, hf⟩, nT_tk⟩))⟩
theorem r_isL {N : wc_M} {T : Nat → Int32} {n p : Nat} {c : Int32} (h : Tk N T n p) (hc : tokL c = 1) (hd : ∀ d, d < 10 → ¬ c = nI (48 + d)) : f_M_isLetter c N = if p < n ∧ T p = c then 1 else 0 := by
  obtain ⟨h1, h2, h3, h4, h5⟩ := h
  unfold f_M_isLetter
  rcases h5 with ⟨e, t⟩ | ⟨e, hno, v, pl, t⟩ | ⟨v, l, hok, t, va, pl⟩ | ⟨h3d, t⟩
  · rw [if_neg (by rw [t]; decide), if_neg (by omega)]
  · rw [t, v]
    by_cases hT : T p = c
    · rw [hT, hc, if_pos rfl, if_pos rfl, if_pos ⟨e, rfl⟩]
    · rw [if_neg hT, if_neg (show ¬ (p < n ∧ T p = c) from fun z => hT z.2)]
      split <;> rfl
  · have : dg T n p v ∨ ∃ d, dg T n p d := by
      rcases hok with ⟨_, q, _⟩ | ⟨_, d, e, q, _⟩
      · exact Or.inl q
      · exact Or.inr ⟨d, q⟩
    rw [if_neg (by rw [t]; decide), if_neg ?_]
    rintro ⟨_, e2⟩
    rcases this with q | ⟨d, q⟩
    · exact hd _ q.2.1 (e2.symm.trans q.2.2)
    · exact hd _ q.2.1 (e2.symm.trans q.2.2)
  · obtain ⟨d, e, f, q, _⟩ := h3d
    rw [if_neg (by rw [t]; decide), if_neg ?_]
    rintro ⟨_, e2⟩
    exact hd _ q.2.1 (e2.symm.trans q.2.2)
theorem r_takes {N : wc_M} {T : Nat → Int32} {n p : Nat} {c : Int32} (hn : n ≤ 120) (h : Tk N T n p) (hc : tokL c = 1) (hd : ∀ d, d < 10 → ¬ c = nI (48 + d)) : (p < n ∧ T p = c ∧ ∃ N', f_M_takes c N = some (1, N') ∧ Tk N' T n (p + 1) ∧ ∀ k i s, (k ≠ 21 ∨ s < 10 ∨ 13 < s) → N' k i s = N k i s) ∨ (¬ (p < n ∧ T p = c) ∧ f_M_takes c N = some (0, wc_up N 21 0 14 1)) := by
  unfold f_M_takes f_M_faults
  rw [r_isL h hc hd]
  by_cases hT : p < n ∧ T p = c
  · rw [if_pos hT, if_neg (by decide)]
    obtain ⟨h1, h2, h3, h4, h5⟩ := h
    have h10 : N 21 0 10 = nI (p + 1) := by
      rcases h5 with ⟨e, t⟩ | ⟨e, hno, v, pl, t⟩ | ⟨v, l, hok, t, va, pl⟩ | ⟨h3d, t⟩
      · omega
      · exact pl
      · exfalso
        have : dg T n p v ∨ ∃ d, dg T n p d := by
          rcases hok with ⟨_, q, _⟩ | ⟨_, d, e, q, _⟩
          · exact Or.inl q
          · exact Or.inr ⟨d, q⟩
        rcases this with q | ⟨d, q⟩
        · exact hd _ q.2.1 (hT.2.symm.trans q.2.2)
        · exact hd _ q.2.1 (hT.2.symm.trans q.2.2)
      · obtain ⟨d, e, f, q, _⟩ := h3d
        exact absurd (hT.2.symm.trans q.2.2) (hd _ q.2.1)
    obtain ⟨N', n1, n2, n3⟩ := r_next hn h2 h3 h10 (by omega)
    exact Or.inl ⟨hT.1, hT.2, N', by rw [n1, Option.bind_some], n2, n3⟩
  · rw [if_neg hT, if_pos rfl, Option.bind_some]
    exact Or.inr ⟨hT, rfl⟩
