/-! A WORK that is ASKED, and THE TRACE -/
def kT (M : wc_M) (l : List Int32) : wc_M := fun k i s => if k = 20 ∧ i = 0 ∧ s < l.length then (l[s]?).getD 0 else if k = 19 ∧ i = 0 ∧ s = 1 then nI l.length else M k i s
def rT (M : wc_M) (l : List Int32) : wc_M := fun k i s => if k = 34 ∧ i = 0 ∧ s < l.length then (l[s]?).getD 0 else if k = 21 ∧ i = 0 ∧ s = 27 then nI l.length else M k i s
theorem ap_l {l : List Int32} {v : Int32} : (l ++ [v]).length = l.length + 1 := by simp
theorem ap_1 {l : List Int32} {v : Int32} : (l ++ [v])[l.length]? = some v := by simp
theorem ap_2 {l : List Int32} {v : Int32} {s : Nat} (h : s < l.length) : (l ++ [v])[s]? = l[s]? := List.getElem?_append_left h
theorem kT_n {M : wc_M} {l : List Int32} : kT M l 19 0 1 = nI l.length := by
  unfold kT
  rw [if_neg (by omega), if_pos ⟨rfl, rfl, rfl⟩]
theorem kT_off {M : wc_M} {l : List Int32} {k i s : Nat} (h : k ≠ 20 ∧ (k ≠ 19 ∨ s ≠ 1)) : kT M l k i s = M k i s := by
  unfold kT
  rw [if_neg (by omega), if_neg (by omega)]
theorem rT_n {M : wc_M} {l : List Int32} : rT M l 21 0 27 = nI l.length := by
  unfold rT
  rw [if_neg (by omega), if_pos ⟨rfl, rfl, rfl⟩]
theorem rT_off {M : wc_M} {l : List Int32} {k i s : Nat} (h : k ≠ 34 ∧ (k ≠ 21 ∨ s ≠ 27)) : rT M l k i s = M k i s := by
  unfold rT
  rw [if_neg (by omega), if_neg (by omega)]
/-- which BODY begins for a KIND -/
def kZ : Nat → Int32
  | 1 => 11
  | 2 => 12
  | 3 => 11
  | 4 => 13
  | 5 => 14
  | _ => 10
def kY : Nat → Int32
  | 1 => 21
  | 2 => 24
  | 3 => 22
  | 4 => 23
  | 5 => 23
  | _ => 20
theorem kZ_e {k : Nat} (h : k < 6) : f_K_sizeBody (nI k) = kZ k := by
  match k, h with
  | 0, _ => decide +kernel
  | 1, _ => decide +kernel
  | 2, _ => decide +kernel
  | 3, _ => decide +kernel
  | 4, _ => decide +kernel
  | 5, _ => decide +kernel
theorem kY_e {k : Nat} (h : k < 6) : f_K_markBody (nI k) = kY k := by
  match k, h with
  | 0, _ => decide +kernel
  | 1, _ => decide +kernel
  | 2, _ => decide +kernel
  | 3, _ => decide +kernel
  | 4, _ => decide +kernel
  | 5, _ => decide +kernel
theorem k_leave {M : wc_M} {l : List Int32} {v : Int32} (h : l.length < 16) : f_K_leave v (kT M l) = some (kT M (l ++ [v])) := by
  unfold f_K_leave
  rw [kT_n, if_neg (by rw [n_le (by decide) (by omega)]; omega), if_pos (n_wib h (by decide)), n_t (by omega), show wc_up (kT M l) 20 0 l.length v 19 0 1 = nI l.length from by
    unfold wc_up
    rw [if_neg (by omega), kT_n], n_ar]
  congr 1
  funext a b c
  unfold wc_up kT
  rw [ap_l]
  by_cases h1 : a = 19 ∧ b = 0 ∧ c = 1
  · rw [if_pos h1, if_neg (by omega), if_pos h1]
  · rw [if_neg h1, if_neg h1, if_neg h1]
    by_cases h2 : a = 20 ∧ b = 0 ∧ c = l.length
    · rw [if_pos h2, if_pos (by omega), h2.2.2, ap_1]
      rfl
    · rw [if_neg h2]
      by_cases h3 : a = 20 ∧ b = 0 ∧ c < l.length
      · rw [if_pos h3, if_pos (by omega), ap_2 h3.2.2]
      · rw [if_neg h3, if_neg (by omega)]
theorem r_begin {M : wc_M} {l : List Int32} {v : Int32} (h : l.length < 16) : f_M_begin v (rT M l) = some (rT M (l ++ [v])) := by
  unfold f_M_begin
  rw [rT_n, if_neg (by rw [n_le (by decide) (by omega)]; omega), if_pos (n_wib h (by decide)), n_t (by omega), show wc_up (rT M l) 34 0 l.length v 21 0 27 = nI l.length from by
    unfold wc_up
    rw [if_neg (by omega), rT_n], n_ar]
  congr 1
  funext a b c
  unfold wc_up rT
  rw [ap_l]
  by_cases h1 : a = 21 ∧ b = 0 ∧ c = 27
  · rw [if_pos h1, if_neg (by omega), if_pos h1]
  · rw [if_neg h1, if_neg h1, if_neg h1]
    by_cases h2 : a = 34 ∧ b = 0 ∧ c = l.length
    · rw [if_pos h2, if_pos (by omega), h2.2.2, ap_1]
      rfl
    · rw [if_neg h2]
      by_cases h3 : a = 34 ∧ b = 0 ∧ c < l.length
      · rw [if_pos h3, if_pos (by omega), ap_2 h3.2.2]
      · rw [if_neg h3, if_neg (by omega)]
theorem kb10 {d z : Nat} {M : wc_M} {l : List Int32} (hz : z ≤ 16) (hl : l.length < 16) : f_K_body (d + 1) 10 (nI z) (kT M l) = some (M 19 0 3, kT M (l ++ [10])) := by
  rw [f_K_body, if_pos (by rw [n_ge (by decide) (by omega)]; omega), k_leave hl, Option.bind_some, if_pos rfl, kT_off (by omega)]
theorem kb20 {d z : Nat} {M : wc_M} {l : List Int32} (hz : z ≤ 16) (hl : l.length < 16) : f_K_body (d + 1) 20 (nI z) (kT M l) = some (M 19 0 4, kT M (l ++ [20])) := by
  rw [f_K_body, if_pos (by rw [n_ge (by decide) (by omega)]; omega), k_leave hl, Option.bind_some, if_neg (by decide), if_neg (by decide), if_neg (by decide), if_neg (by decide), if_neg (by decide), if_neg (by decide), if_neg (by decide), if_neg (by decide), if_neg (by decide), if_neg (by decide), if_pos rfl, kT_off (by omega)]
theorem kb21 {d z : Nat} {M : wc_M} {l : List Int32} (hz : z ≤ 15) (hl : l.length < 15) : f_K_body (d + 2) 21 (nI z) (kT M l) = some (M 19 0 4 + M 19 0 5, kT M (l ++ [21] ++ [20])) := by
  rw [f_K_body, if_pos (by rw [n_ge (by decide) (by omega)]; omega), k_leave (by omega), Option.bind_some, if_neg (by decide), if_neg (by decide), if_neg (by decide), if_neg (by decide), if_neg (by decide), if_neg (by decide), if_neg (by decide), if_neg (by decide), if_neg (by decide), if_neg (by decide), if_neg (by decide), if_pos rfl, n_ar, kb20 (by omega) (by rw [ap_l]; omega), Option.bind_some]
  show some (M 19 0 4 + kT M (l ++ [21] ++ [20]) 19 0 5, _) = _
  rw [kT_off (by omega)]
theorem kb13 {d z : Nat} {M : wc_M} {l : List Int32} (hz : z ≤ 15) (hl : l.length < 15) : f_K_body (d + 2) 13 (nI z) (kT M l) = some (M 19 0 3 - 100, kT M (l ++ [13] ++ [10])) := by
  rw [f_K_body, if_pos (by rw [n_ge (by decide) (by omega)]; omega), k_leave (by omega), Option.bind_some, if_neg (by decide), if_neg (by decide), if_neg (by decide), if_pos rfl, n_ar, kb10 (by omega) (by rw [ap_l]; omega), Option.bind_some]
theorem kb14 {d z : Nat} {M : wc_M} {l : List Int32} (hz : z ≤ 14) (hl : l.length < 14) : f_K_body (d + 3) 14 (nI z) (kT M l) = some (2 * (M 19 0 3 - 100), kT M (l ++ [14] ++ [13] ++ [10])) := by
  rw [f_K_body, if_pos (by rw [n_ge (by decide) (by omega)]; omega), k_leave (by omega), Option.bind_some, if_neg (by decide), if_neg (by decide), if_neg (by decide), if_neg (by decide), if_pos rfl, n_ar, kb13 (by omega) (by rw [ap_l]; omega), Option.bind_some]
theorem kb22 {d z : Nat} {M : wc_M} {l : List Int32} (hz : z ≤ 14) (hl : l.length < 14) : f_K_body (d + 3) 22 (nI z) (kT M l) = some (M 19 0 4 + M 19 0 5 - 1000, kT M (l ++ [22] ++ [21] ++ [20])) := by
  rw [f_K_body, if_pos (by rw [n_ge (by decide) (by omega)]; omega), k_leave (by omega), Option.bind_some, if_neg (by decide), if_neg (by decide), if_neg (by decide), if_neg (by decide), if_neg (by decide), if_neg (by decide), if_neg (by decide), if_neg (by decide), if_neg (by decide), if_neg (by decide), if_neg (by decide), if_neg (by decide), if_pos rfl, n_ar, kb21 (by omega) (by rw [ap_l]; omega), Option.bind_some]
theorem kb24 {d z : Nat} {M : wc_M} {l : List Int32} (hz : z ≤ 14) (hl : l.length < 14) : f_K_body (d + 3) 24 (nI z) (kT M l) = some (2 * (M 19 0 4 + M 19 0 5), kT M (l ++ [24] ++ [21] ++ [20])) := by
  rw [f_K_body, if_pos (by rw [n_ge (by decide) (by omega)]; omega), k_leave (by omega), Option.bind_some, if_neg (by decide), if_neg (by decide), if_neg (by decide), if_neg (by decide), if_neg (by decide), if_neg (by decide), if_neg (by decide), if_neg (by decide), if_neg (by decide), if_neg (by decide), if_neg (by decide), if_neg (by decide), if_neg (by decide), if_neg (by decide), if_pos rfl, n_ar, kb21 (by omega) (by rw [ap_l]; omega), Option.bind_some]
theorem kb23 {d z k : Nat} {M : wc_M} {l : List Int32} (hz : z ≤ 10) (hl : l.length < 10) (hk : M 19 0 2 = nI k) (h6 : k < 6) : f_K_body (d + 1 + 1) 23 (nI z) (kT M l) = Option.bind (f_K_body (d + 1) (kZ k) (nI (z + 1)) (kT M (l ++ [23] ++ [20]))) fun q21 => some (M 19 0 4 - q21.1, q21.2) := by
  rw [f_K_body, if_pos (by rw [n_ge (by decide) (by omega)]; omega), k_leave (by omega), Option.bind_some, if_neg (by decide), if_neg (by decide), if_neg (by decide), if_neg (by decide), if_neg (by decide), if_neg (by decide), if_neg (by decide), if_neg (by decide), if_neg (by decide), if_neg (by decide), if_neg (by decide), if_neg (by decide), if_neg (by decide), if_pos rfl, n_ar, kb20 (by omega) (by rw [ap_l]; omega), Option.bind_some]
  show (Option.bind (f_K_body (d + 1) (f_K_sizeBody ((kT M (l ++ [23] ++ [20])) 19 0 2)) (nI (z + 1)) (kT M (l ++ [23] ++ [20]))) fun q21 => some (M 19 0 4 - q21.1, q21.2)) = _
  rw [kT_off (by omega), hk, kZ_e h6]
theorem kb11 {d z k : Nat} {M : wc_M} {l : List Int32} (hz : z ≤ 10) (hl : l.length < 10) (hk : M 19 0 2 = nI k) (h6 : k < 6) : f_K_body (d + 1 + 1) 11 (nI z) (kT M l) = Option.bind (f_K_body (d + 1) (kY k) (nI (z + 1)) (kT M (l ++ [11] ++ [10]))) fun q21 => some (M 19 0 3 + q21.1, q21.2) := by
  rw [f_K_body, if_pos (by rw [n_ge (by decide) (by omega)]; omega), k_leave (by omega), Option.bind_some, if_neg (by decide), if_pos rfl, n_ar, kb10 (by omega) (by rw [ap_l]; omega), Option.bind_some]
  show (Option.bind (f_K_body (d + 1) (f_K_markBody ((kT M (l ++ [11] ++ [10])) 19 0 2)) (nI (z + 1)) (kT M (l ++ [11] ++ [10]))) fun q21 => some (M 19 0 3 + q21.1, q21.2)) = _
  rw [kT_off (by omega), hk, kY_e h6]
theorem kb12 {d z : Nat} {M : wc_M} {l : List Int32} (hz : z ≤ 10) (hl : l.length < 10) : f_K_body (d + 1) 12 (nI z) (kT M l) = Option.bind (f_K_body d 11 (nI (z + 1)) (kT M (l ++ [12]))) fun q8 => some (-q8.1, q8.2) := by
  rw [f_K_body, if_pos (by rw [n_ge (by decide) (by omega)]; omega), k_leave (by omega), Option.bind_some, if_neg (by decide), if_neg (by decide), if_pos rfl, n_ar]
/-- what the class's size and mark are, with the trace -/
theorem ks1 {M : wc_M} (hk : M 19 0 2 = nI 1) : f_K_body 18 (kZ 1) 0 (kT M []) = some (M 19 0 3 + (M 19 0 4 + M 19 0 5), kT M ([] ++ [11] ++ [10] ++ [21] ++ [20])) := by
  have h := kb11 (d := 16) (z := 0) (l := []) (by omega) (by decide) hk (by omega)
  have h2 := kb21 (d := 15) (z := 1) (M := M) (l := [] ++ [11] ++ [10]) (by omega) (by decide)
  rw [show f_K_body 18 (kZ 1) 0 (kT M []) = _ from h, show f_K_body (16 + 1) (kY 1) (nI (0 + 1)) (kT M ([] ++ [11] ++ [10])) = _ from h2, Option.bind_some]
theorem ks2 {M : wc_M} (hk : M 19 0 2 = nI 2) : f_K_body 18 (kZ 2) 0 (kT M []) = some (-(M 19 0 3 + 2 * (M 19 0 4 + M 19 0 5)), kT M ([] ++ [12] ++ [11] ++ [10] ++ [24] ++ [21] ++ [20])) := by
  have h := kb12 (d := 17) (z := 0) (M := M) (l := []) (by omega) (by decide)
  have h1 := kb11 (d := 15) (z := 1) (l := [] ++ [12]) (by omega) (by decide) hk (by omega)
  have h2 := kb24 (d := 13) (z := 2) (M := M) (l := [] ++ [12] ++ [11] ++ [10]) (by omega) (by decide)
  rw [show f_K_body 18 (kZ 2) 0 (kT M []) = _ from h, show f_K_body 17 11 (nI (0 + 1)) (kT M ([] ++ [12])) = _ from h1, show f_K_body (15 + 1) (kY 2) (nI (1 + 1)) (kT M ([] ++ [12] ++ [11] ++ [10])) = _ from h2, Option.bind_some, Option.bind_some]
theorem ks3 {M : wc_M} (hk : M 19 0 2 = nI 3) : f_K_body 18 (kZ 3) 0 (kT M []) = some (M 19 0 3 + (M 19 0 4 + M 19 0 5 - 1000), kT M ([] ++ [11] ++ [10] ++ [22] ++ [21] ++ [20])) := by
  have h := kb11 (d := 16) (z := 0) (l := []) (by omega) (by decide) hk (by omega)
  have h2 := kb22 (d := 14) (z := 1) (M := M) (l := [] ++ [11] ++ [10]) (by omega) (by decide)
  rw [show f_K_body 18 (kZ 3) 0 (kT M []) = _ from h, show f_K_body (16 + 1) (kY 3) (nI (0 + 1)) (kT M ([] ++ [11] ++ [10])) = _ from h2, Option.bind_some]
theorem ks4 {M : wc_M} : f_K_body 18 (kZ 4) 0 (kT M []) = some (M 19 0 3 - 100, kT M ([] ++ [13] ++ [10])) :=
  kb13 (d := 16) (z := 0) (M := M) (l := []) (by omega) (by decide)
theorem ks5 {M : wc_M} : f_K_body 18 (kZ 5) 0 (kT M []) = some (2 * (M 19 0 3 - 100), kT M ([] ++ [14] ++ [13] ++ [10])) :=
  kb14 (d := 15) (z := 0) (M := M) (l := []) (by omega) (by decide)
theorem km1 {M : wc_M} : f_K_body 18 (kY 1) 0 (kT M []) = some (M 19 0 4 + M 19 0 5, kT M ([] ++ [21] ++ [20])) :=
  kb21 (d := 16) (z := 0) (M := M) (l := []) (by omega) (by decide)
theorem km2 {M : wc_M} : f_K_body 18 (kY 2) 0 (kT M []) = some (2 * (M 19 0 4 + M 19 0 5), kT M ([] ++ [24] ++ [21] ++ [20])) :=
  kb24 (d := 15) (z := 0) (M := M) (l := []) (by omega) (by decide)
theorem km3 {M : wc_M} : f_K_body 18 (kY 3) 0 (kT M []) = some (M 19 0 4 + M 19 0 5 - 1000, kT M ([] ++ [22] ++ [21] ++ [20])) :=
  kb22 (d := 15) (z := 0) (M := M) (l := []) (by omega) (by decide)
theorem km4 {M : wc_M} (hk : M 19 0 2 = nI 4) : f_K_body 18 (kY 4) 0 (kT M []) = some (M 19 0 4 - (M 19 0 3 - 100), kT M ([] ++ [23] ++ [20] ++ [13] ++ [10])) := by
  have h := kb23 (d := 16) (z := 0) (l := []) (by omega) (by decide) hk (by omega)
  have h2 := kb13 (d := 15) (z := 1) (M := M) (l := [] ++ [23] ++ [20]) (by omega) (by decide)
  rw [show f_K_body 18 (kY 4) 0 (kT M []) = _ from h, show f_K_body (16 + 1) (kZ 4) (nI (0 + 1)) (kT M ([] ++ [23] ++ [20])) = _ from h2, Option.bind_some]
theorem km5 {M : wc_M} (hk : M 19 0 2 = nI 5) : f_K_body 18 (kY 5) 0 (kT M []) = some (M 19 0 4 - 2 * (M 19 0 3 - 100), kT M ([] ++ [23] ++ [20] ++ [14] ++ [13] ++ [10])) := by
  have h := kb23 (d := 16) (z := 0) (l := []) (by omega) (by decide) hk (by omega)
  have h2 := kb14 (d := 14) (z := 1) (M := M) (l := [] ++ [23] ++ [20]) (by omega) (by decide)
  rw [show f_K_body 18 (kY 5) 0 (kT M []) = _ from h, show f_K_body (16 + 1) (kZ 5) (nI (0 + 1)) (kT M ([] ++ [23] ++ [20])) = _ from h2, Option.bind_some]
/-! the reference's -/
theorem rT_w {M : wc_M} {l : List Int32} {st : Nat → Int32} (h : wrs M 25 0 = st) : wrs (rT M l) 25 0 = st := by
  rw [← h]
  exact wrs_fr (fun zs => rT_off (by omega))
theorem r_lent10 {M : wc_M} {l : List Int32} {st : Nat → Int32} {c : Nat} (h : wrs M 25 0 = st) (hc : c < 16) (hl : l.length < 16) : f_M_lent (nI c) 10 (rT M l) = some (st (25 + c), rT M (l ++ [10])) := by
  unfold f_M_lent
  rw [r_begin hl, Option.bind_some, if_pos rfl, n_al, if_pos (n_wib (by omega) (by decide)), n_t (by omega), g_at (rT_w h) (by omega)]
theorem r_lent20 {M : wc_M} {l : List Int32} {c : Nat} (hl : l.length < 16) : f_M_lent (nI c) 20 (rT M l) = some (nI c, rT M (l ++ [20])) := by
  unfold f_M_lent
  rw [r_begin hl, Option.bind_some, if_neg (by decide)]
def rB (M : wc_M) (l : List Int32) (st F : Nat → Int32) (lo : Int32) : wc_M := mR (rT M l) st F lo (rT M l 21 0 20) (wrs (rT M l) 31 0)
theorem r_wallMark {M : wc_M} {l : List Int32} {st : Nat → Int32} {c : Nat} (h : wrs M 25 0 = st) (hk : sKd st) (hc : c < 16) (hl : l.length < 14) : f_M_wallMark (nI c) (rT M l) = some (nI c + bF st c, rB M (l ++ [21] ++ [20]) st (bF st) (bL st)) := by
  unfold f_M_wallMark
  rw [r_begin (by omega), Option.bind_some, r_lent20 (by rw [ap_l]; omega), Option.bind_some]
  show Option.bind (f_M_feltNow (nI c) (rT M (l ++ [21] ++ [20]))) _ = _
  rw [g_feltNow (rT_w h) hk (by omega), Option.bind_some]
  rfl
theorem r_handSize {M : wc_M} {l : List Int32} {st : Nat → Int32} {c : Nat} (h : wrs M 25 0 = st) (hc : c < 16) (hl : l.length < 14) : f_M_handSize (nI c) (rT M l) = some (st (25 + c) - 100, rT M (l ++ [13] ++ [10])) := by
  unfold f_M_handSize
  rw [r_begin (by omega), Option.bind_some, r_lent10 h hc (by rw [ap_l]; omega), Option.bind_some]
theorem r_kindAt {M : wc_M} {l : List Int32} {st : Nat → Int32} {c k : Nat} (h : wrs M 25 0 = st) (hc : c < 16) (hk : st (9 + c) = nI k) : wib (9 + nI c) 57 = true ∧ rT M l 25 0 (9 + nI c).toNatClampNeg = nI k := by
  rw [n_al]
  refine ⟨n_wib (by omega) (by decide), ?_⟩
  rw [n_t (by omega), g_at (rT_w h) (by omega), hk]
theorem r_soh4 {M : wc_M} {l : List Int32} {st : Nat → Int32} {c : Nat} (h : wrs M 25 0 = st) (hc : c < 16) (hk : st (9 + c) = nI 4) (hl : l.length < 13) : f_M_sizeOfHand (nI c) (rT M l) = some (st (25 + c) - 100, rT M (l ++ [13] ++ [10])) := by
  obtain ⟨w1, w2⟩ := r_kindAt (l := l) h hc hk
  unfold f_M_sizeOfHand
  rw [if_pos w1, w2, if_neg (by decide), r_handSize h hc (by omega), Option.bind_some]
theorem r_soh5 {M : wc_M} {l : List Int32} {st : Nat → Int32} {c : Nat} (h : wrs M 25 0 = st) (hc : c < 16) (hk : st (9 + c) = nI 5) (hl : l.length < 12) : f_M_sizeOfHand (nI c) (rT M l) = some (2 * (st (25 + c) - 100), rT M (l ++ [14] ++ [13] ++ [10])) := by
  obtain ⟨w1, w2⟩ := r_kindAt (l := l) h hc hk
  unfold f_M_sizeOfHand
  rw [if_pos w1, w2, if_pos (by decide), r_begin (by omega), Option.bind_some, r_handSize h hc (by rw [ap_l]; omega), Option.bind_some]
theorem r_mark1 {M : wc_M} {l : List Int32} {st : Nat → Int32} {c : Nat} (h : wrs M 25 0 = st) (hd : sKd st) (hc : c < 16) (hk : st (9 + c) = nI 1) (hl : l.length < 12) : f_M_markOf (nI c) (rT M l) = some (nI c + bF st c, rB M (l ++ [21] ++ [20]) st (bF st) (bL st)) := by
  obtain ⟨w1, w2⟩ := r_kindAt (l := l) h hc hk
  unfold f_M_markOf
  rw [if_pos w1, w2, if_neg (by decide), if_neg (by decide), if_pos (by decide), r_wallMark h hd hc (by omega), Option.bind_some]
theorem r_mark2 {M : wc_M} {l : List Int32} {st : Nat → Int32} {c : Nat} (h : wrs M 25 0 = st) (hd : sKd st) (hc : c < 16) (hk : st (9 + c) = nI 2) (hl : l.length < 12) : f_M_markOf (nI c) (rT M l) = some (2 * (nI c + bF st c), rB M (l ++ [24] ++ [21] ++ [20]) st (bF st) (bL st)) := by
  obtain ⟨w1, w2⟩ := r_kindAt (l := l) h hc hk
  unfold f_M_markOf
  rw [if_pos w1, w2, if_pos (by decide), r_begin (by omega), Option.bind_some, r_wallMark h hd hc (by rw [ap_l]; omega), Option.bind_some]
theorem r_mark3 {M : wc_M} {l : List Int32} {st : Nat → Int32} {c : Nat} (h : wrs M 25 0 = st) (hd : sKd st) (hc : c < 16) (hk : st (9 + c) = nI 3) (hl : l.length < 12) : f_M_markOf (nI c) (rT M l) = some (nI c + bF st c - 1000, rB M (l ++ [22] ++ [21] ++ [20]) st (bF st) (bL st)) := by
  obtain ⟨w1, w2⟩ := r_kindAt (l := l) h hc hk
  unfold f_M_markOf
  rw [if_pos w1, w2, if_neg (by decide), if_pos (by decide), r_begin (by omega), Option.bind_some, r_wallMark h hd hc (by rw [ap_l]; omega), Option.bind_some]
theorem r_mark4 {M : wc_M} {l : List Int32} {st : Nat → Int32} {c : Nat} (h : wrs M 25 0 = st) (hc : c < 16) (hk : st (9 + c) = nI 4) (hl : l.length < 8) : f_M_markOf (nI c) (rT M l) = some (nI c - (st (25 + c) - 100), rT M (l ++ [23] ++ [20] ++ [13] ++ [10])) := by
  obtain ⟨w1, w2⟩ := r_kindAt (l := l) h hc hk
  unfold f_M_markOf
  rw [if_pos w1, w2, if_neg (by decide), if_neg (by decide), if_neg (by decide), r_begin (by omega), Option.bind_some, r_lent20 (by rw [ap_l]; omega), Option.bind_some]
  show Option.bind (f_M_sizeOfHand (nI c) (rT M (l ++ [23] ++ [20]))) _ = _
  rw [r_soh4 h hc hk (by rw [ap_l, ap_l]; omega), Option.bind_some]
theorem r_mark5 {M : wc_M} {l : List Int32} {st : Nat → Int32} {c : Nat} (h : wrs M 25 0 = st) (hc : c < 16) (hk : st (9 + c) = nI 5) (hl : l.length < 8) : f_M_markOf (nI c) (rT M l) = some (nI c - 2 * (st (25 + c) - 100), rT M (l ++ [23] ++ [20] ++ [14] ++ [13] ++ [10])) := by
  obtain ⟨w1, w2⟩ := r_kindAt (l := l) h hc hk
  unfold f_M_markOf
  rw [if_pos w1, w2, if_neg (by decide), if_neg (by decide), if_neg (by decide), r_begin (by omega), Option.bind_some, r_lent20 (by rw [ap_l]; omega), Option.bind_some]
  show Option.bind (f_M_sizeOfHand (nI c) (rT M (l ++ [23] ++ [20]))) _ = _
  rw [r_soh5 h hc hk (by rw [ap_l, ap_l]; omega), Option.bind_some]
theorem r_size1 {M : wc_M} {st : Nat → Int32} {c : Nat} (h : wrs M 25 0 = st) (hd : sKd st) (hc : c < 16) (hk : st (9 + c) = nI 1) : f_M_sizeOf (nI c) (rT M []) = some (st (25 + c) + (nI c + bF st c), rB M ([] ++ [11] ++ [10] ++ [21] ++ [20]) st (bF st) (bL st)) := by
  obtain ⟨w1, w2⟩ := r_kindAt (l := []) h hc hk
  unfold f_M_sizeOf f_M_wallSize
  rw [if_pos w1, w2, if_neg (by decide), if_pos (by decide), r_begin (by decide), Option.bind_some, r_lent10 h hc (by decide), Option.bind_some]
  show Option.bind (Option.bind (f_M_markOf (nI c) (rT M ([] ++ [11] ++ [10]))) _) _ = _
  rw [r_mark1 h hd hc hk (by decide), Option.bind_some, Option.bind_some]
theorem r_size2 {M : wc_M} {st : Nat → Int32} {c : Nat} (h : wrs M 25 0 = st) (hd : sKd st) (hc : c < 16) (hk : st (9 + c) = nI 2) : f_M_sizeOf (nI c) (rT M []) = some (-(st (25 + c) + 2 * (nI c + bF st c)), rB M ([] ++ [12] ++ [11] ++ [10] ++ [24] ++ [21] ++ [20]) st (bF st) (bL st)) := by
  obtain ⟨w1, w2⟩ := r_kindAt (l := []) h hc hk
  unfold f_M_sizeOf f_M_wallSize
  rw [if_pos w1, w2, if_pos (by decide), r_begin (by decide), Option.bind_some, r_begin (by decide), Option.bind_some, r_lent10 h hc (by decide), Option.bind_some]
  show Option.bind (Option.bind (f_M_markOf (nI c) (rT M ([] ++ [12] ++ [11] ++ [10]))) _) _ = _
  rw [r_mark2 h hd hc hk (by decide), Option.bind_some, Option.bind_some]
theorem r_size3 {M : wc_M} {st : Nat → Int32} {c : Nat} (h : wrs M 25 0 = st) (hd : sKd st) (hc : c < 16) (hk : st (9 + c) = nI 3) : f_M_sizeOf (nI c) (rT M []) = some (st (25 + c) + (nI c + bF st c - 1000), rB M ([] ++ [11] ++ [10] ++ [22] ++ [21] ++ [20]) st (bF st) (bL st)) := by
  obtain ⟨w1, w2⟩ := r_kindAt (l := []) h hc hk
  unfold f_M_sizeOf f_M_wallSize
  rw [if_pos w1, w2, if_neg (by decide), if_pos (by decide), r_begin (by decide), Option.bind_some, r_lent10 h hc (by decide), Option.bind_some]
  show Option.bind (Option.bind (f_M_markOf (nI c) (rT M ([] ++ [11] ++ [10]))) _) _ = _
  rw [r_mark3 h hd hc hk (by decide), Option.bind_some, Option.bind_some]
theorem r_size4 {M : wc_M} {st : Nat → Int32} {c : Nat} (h : wrs M 25 0 = st) (hc : c < 16) (hk : st (9 + c) = nI 4) : f_M_sizeOf (nI c) (rT M []) = some (st (25 + c) - 100, rT M ([] ++ [13] ++ [10])) := by
  obtain ⟨w1, w2⟩ := r_kindAt (l := []) h hc hk
  unfold f_M_sizeOf
  rw [if_pos w1, w2, if_neg (by decide), if_neg (by decide), r_soh4 h hc hk (by decide), Option.bind_some]
theorem r_size5 {M : wc_M} {st : Nat → Int32} {c : Nat} (h : wrs M 25 0 = st) (hc : c < 16) (hk : st (9 + c) = nI 5) : f_M_sizeOf (nI c) (rT M []) = some (2 * (st (25 + c) - 100), rT M ([] ++ [14] ++ [13] ++ [10])) := by
  obtain ⟨w1, w2⟩ := r_kindAt (l := []) h hc hk
  unfold f_M_sizeOf
  rw [if_pos w1, w2, if_neg (by decide), if_neg (by decide), r_soh5 h hc hk (by decide), Option.bind_some]
theorem Rel_tr {M M' : wc_M} {l : List Int32} (hl : l.length ≤ 16) (h : ∀ k i s, ¬ (k = 19 ∨ k = 20 ∨ k = 34 ∨ (k = 21 ∧ s = 27) ∨ Irr k i s) → M' k i s = M k i s) (r : Rel M) (h1 : M' 19 0 1 = nI l.length) (h2 : M' 21 0 27 = nI l.length) (h3 : ∀ i, i < l.length → M' 20 0 i = (l[i]?).getD 0 ∧ M' 34 0 i = (l[i]?).getD 0) : Rel M' := by
  obtain ⟨r1, r2, r3, r4, r5, r6, r7, r8⟩ := r
  refine ⟨RelP_of ?_ r1, RelF_of ?_ r2, RelR_of ?_ r3, RelT_of ?_ r4, RelA_of ?_ r5, RelI_of ?_ r6, ⟨l.length, hl, h1, h2, fun i hi => by rw [(h3 i hi).1, (h3 i hi).2]⟩, RelH_of ?_ r8⟩
  all_goals intro zk zi zs hz; exact h zk zi zs (by unfold Irr; omega)
theorem q_ask (a1 a2 : Int32) {M : wc_M} (r : Rel M) : Ag (f_C_ask a1 a2) (f_M_ask a1 a2) M := by
  unfold f_C_ask f_M_ask
  have hw := Rel_w r
  have hd := sW_kd hw
  have e25 := Rel_e25 r
  by_cases h0 : M 6 0 5 = 0
  · exact Ag_i (if_pos h0) (if_pos (by rw [Rel_m4 r]; exact h0)) rfl r
  by_cases h1 : f_C_isUpTo a1 15 = 0
  · exact Ag_i (M1 := M) (M2 := M) (by rw [if_neg h0, c_cell, if_pos h1]) (by rw [Rel_m4 r, if_neg h0, m_isCell, if_pos h1]) rfl r
  by_cases h2 : f_C_isUpTo a2 1 = 0
  · exact Ag_i (M1 := M) (M2 := M) (by rw [if_neg h0, c_cell, if_neg h1, if_pos h2]) (by rw [Rel_m4 r, if_neg h0, m_isCell, if_neg h1, m_up_1, if_pos h2]) rfl r
  obtain ⟨zc, hzc, rfl⟩ := c_upK (by decide) h1
  have hc : zc < 16 := by omega
  by_cases h4 : wst M 0 (9 + zc) = 0
  · exact Ag_i (M1 := M) (M2 := M) (by rw [if_neg h0, c_cell, if_neg h1, if_neg h2, p_has hc, Option.bind_some, if_pos h4, if_pos rfl]) (by rw [Rel_m4 r, if_neg h0, m_isCell, if_neg h1, m_up_1, if_neg h2, g_isWork e25 hd hc, Option.bind_some, if_pos h4, if_pos rfl]) rfl r
  obtain ⟨kn, hkn, hke⟩ := hd zc hc
  have hkn0 : kn ≠ 0 := by
    intro e
    rw [hke, e] at h4
    exact h4 rfl
  generalize hM0 : wc_up (wc_up (wc_up M 19 0 2 (M 9 0 zc)) 19 0 3 (wc_up M 19 0 2 (M 9 0 zc) 10 0 zc)) 19 0 4 (nI zc) = M0
  have w0 : wst M0 0 = wst M 0 := by
    refine wst_fr (fun zk zs q1 q2 => ?_)
    rw [← hM0]
    unfold wc_up
    rw [if_neg (by omega), if_neg (by omega), if_neg (by omega)]
  generalize hM5 : wc_up (mA M0 (bF (wst M 0)) (bL (wst M 0))) 19 0 5 (bF (wst M 0) zc) = M5
  have f5 : ∀ k i s, ¬ ((k = 19 ∧ 2 ≤ s) ∨ (12 ≤ k ∧ k ≤ 14)) → M5 k i s = M k i s := by
    intro k i s hz
    rw [← hM5]
    unfold wc_up
    rw [if_neg (by omega), mA_off (by omega), ← hM0]
    unfold wc_up
    rw [if_neg (by omega), if_neg (by omega), if_neg (by omega)]
  have v2 : M5 19 0 2 = nI kn := by
    rw [← hM5]
    unfold wc_up
    rw [if_neg (by omega), mA_off (by omega), ← hM0]
    unfold wc_up
    rw [if_neg (by omega), if_neg (by omega), if_pos ⟨rfl, rfl, rfl⟩, ← hke, wst_k hc]
  have v3 : M5 19 0 3 = wst M 0 (25 + zc) := by
    rw [← hM5]
    unfold wc_up
    rw [if_neg (by omega), mA_off (by omega), ← hM0]
    unfold wc_up
    rw [if_neg (by omega), if_pos ⟨rfl, rfl, rfl⟩, if_neg (by omega), wst_o hc]
  have v4 : M5 19 0 4 = nI zc := by
    rw [← hM5]
    unfold wc_up
    rw [if_neg (by omega), mA_off (by omega), ← hM0]
    unfold wc_up
    rw [if_pos ⟨rfl, rfl, rfl⟩]
  have v5 : M5 19 0 5 = bF (wst M 0) zc := by
    rw [← hM5]
    unfold wc_up
    rw [if_pos ⟨rfl, rfl, rfl⟩]
  have k0 : wc_up M5 19 0 1 0 = kT M5 [] := by
    funext a b c
    unfold wc_up kT
    by_cases q : a = 19 ∧ b = 0 ∧ c = 1
    · rw [if_pos q, if_neg (fun z => absurd z.2.2 (by simp)), if_pos q]
      rfl
    · rw [if_neg q, if_neg (fun z => absurd z.2.2 (by simp)), if_neg q]
  have cC : f_C_ask (nI zc) a2 M = if a2 = 0 then (Option.bind (f_K_body 18 (kZ kn) 0 (kT M5 [])) fun q3 => some (q3.1, q3.2)) else (Option.bind (f_K_body 18 (kY kn) 0 (kT M5 [])) fun q3 => some (q3.1, q3.2)) := by
    unfold f_C_ask
    rw [if_neg h0, c_cell, if_neg h1, if_neg h2, p_has hc, Option.bind_some, if_neg h4, if_neg (by decide), if_pos (n_wib hc (by decide)), n_t (by omega), hM0, c_feltNow hc, Option.bind_some, w0]
    show (if a2 = 0 then Option.bind (f_K_askSize (wc_up (mA M0 (bF (wst M 0)) (bL (wst M 0))) 19 0 5 (bF (wst M 0) zc))) _ else Option.bind (f_K_askMark (wc_up (mA M0 (bF (wst M 0)) (bL (wst M 0))) 19 0 5 (bF (wst M 0) zc))) _) = _
    rw [hM5]
    unfold f_K_askSize f_K_askMark
    rw [k0, kT_off (by omega), v2, kZ_e (by omega), kY_e (by omega)]
    by_cases ha : a2 = 0
    · rw [if_pos ha, if_pos ha]
      cases f_K_body 18 (kZ kn) 0 (kT M5 []) <;> rfl
    · rw [if_neg ha, if_neg ha]
      cases f_K_body 18 (kY kn) 0 (kT M5 []) <;> rfl
  have r0 : ∀ M1 : wc_M, wc_up M1 21 0 27 0 = rT M1 [] := by
    intro M1
    funext a b c
    unfold wc_up rT
    by_cases q : a = 21 ∧ b = 0 ∧ c = 27
    · rw [if_pos q, if_neg (fun z => absurd z.2.2 (by simp)), if_pos q]
      rfl
    · rw [if_neg q, if_neg (fun z => absurd z.2.2 (by simp)), if_neg q]
  have w25 : ∀ l, wrs (kT M5 l) 25 0 = wst M 0 := by
    intro l
    rw [← e25]
    exact wrs_fr (fun zs => by rw [kT_off (by omega), f5 _ _ _ (by omega)])
  have cM : ∀ l, f_M_ask (nI zc) a2 (kT M5 l) = if a2 = 0 then (Option.bind (f_M_sizeOf (nI zc) (rT (kT M5 l) [])) fun q4 => some (q4.1, q4.2)) else (Option.bind (f_M_markOf (nI zc) (rT (kT M5 l) [])) fun q6 => some (q6.1, q6.2)) := by
    intro l
    unfold f_M_ask
    rw [kT_off (by omega), f5 _ _ _ (by omega), Rel_m4 r, if_neg h0, m_isCell, if_neg h1, m_up_1, if_neg h2, g_isWork (w25 l) hd hc, Option.bind_some, if_neg h4, if_neg (by decide), r0]
  have fin1 : ∀ (v v' : Int32) (l : List Int32), l.length ≤ 16 → f_C_ask (nI zc) a2 M = some (v, kT M5 l) → f_M_ask (nI zc) a2 (kT M5 l) = some (v', rT (kT M5 l) l) → v = v' → Ag (f_C_ask (nI zc) a2) (f_M_ask (nI zc) a2) M := by
    intro v v' l hl q1 q2 q3
    refine Ag_i q1 q2 q3 (Rel_tr hl ?_ r ?_ rT_n ?_)
    · intro k i s hz
      unfold Irr at hz
      rw [rT_off (by omega), kT_off (by omega), f5 _ _ _ (by omega)]
    · rw [rT_off (by omega), kT_n]
    · intro i hi
      refine ⟨?_, ?_⟩
      · rw [rT_off (by omega)]
        unfold kT
        rw [if_pos ⟨rfl, rfl, hi⟩]
      · unfold rT
        rw [if_pos ⟨rfl, rfl, hi⟩]
  have fin2 : ∀ (v v' : Int32) (l : List Int32), l.length ≤ 16 → f_C_ask (nI zc) a2 M = some (v, kT M5 l) → f_M_ask (nI zc) a2 (kT M5 l) = some (v', rB (kT M5 l) l (wst M 0) (bF (wst M 0)) (bL (wst M 0))) → v = v' → Ag (f_C_ask (nI zc) a2) (f_M_ask (nI zc) a2) M := by
    intro v v' l hl q1 q2 q3
    have hR : ∀ (k i s : Nat), ¬ (k = 29 ∨ k = 31 ∨ (k = 21 ∧ (s = 19 ∨ s = 20))) → rB (kT M5 l) l (wst M 0) (bF (wst M 0)) (bL (wst M 0)) k i s = rT (kT M5 l) l k i s := by
      intro k i s hz
      unfold rB
      by_cases q : k = 25 ∧ i = 0 ∧ s < 57
      · obtain ⟨rfl, rfl, q⟩ := q
        rw [mR_st q, g_at (rT_w (w25 l)) q]
      · unfold mR
        rw [if_neg q, if_neg (by omega), if_neg (by omega), if_neg (by omega), if_neg (by omega)]
    refine Ag_i q1 q2 q3 (Rel_tr hl ?_ r ?_ ?_ ?_)
    · intro k i s hz
      unfold Irr at hz
      rw [hR _ _ _ (by omega), rT_off (by omega), kT_off (by omega), f5 _ _ _ (by omega)]
    · rw [hR _ _ _ (by omega), rT_off (by omega), kT_n]
    · rw [hR _ _ _ (by omega), rT_n]
    · intro i hi
      refine ⟨?_, ?_⟩
      · rw [hR _ _ _ (by omega), rT_off (by omega)]
        unfold kT
        rw [if_pos ⟨rfl, rfl, hi⟩]
      · rw [hR _ _ _ (by omega)]
        unfold rT
        rw [if_pos ⟨rfl, rfl, hi⟩]
  show Ag (f_C_ask (nI zc) a2) (f_M_ask (nI zc) a2) M
  by_cases ha : a2 = 0
  · rcases (show kn = 1 ∨ kn = 2 ∨ kn = 3 ∨ kn = 4 ∨ kn = 5 by omega) with rfl | rfl | rfl | rfl | rfl
    · exact fin2 _ _ ([] ++ [11] ++ [10] ++ [21] ++ [20]) (by decide) (by rw [cC, if_pos ha, ks1 v2, Option.bind_some]) (by rw [cM, if_pos ha, r_size1 (w25 _) hd hc hke, Option.bind_some]) (by rw [v3, v4, v5])
    · exact fin2 _ _ ([] ++ [12] ++ [11] ++ [10] ++ [24] ++ [21] ++ [20]) (by decide) (by rw [cC, if_pos ha, ks2 v2, Option.bind_some]) (by rw [cM, if_pos ha, r_size2 (w25 _) hd hc hke, Option.bind_some]) (by rw [v3, v4, v5])
    · exact fin2 _ _ ([] ++ [11] ++ [10] ++ [22] ++ [21] ++ [20]) (by decide) (by rw [cC, if_pos ha, ks3 v2, Option.bind_some]) (by rw [cM, if_pos ha, r_size3 (w25 _) hd hc hke, Option.bind_some]) (by rw [v3, v4, v5])
    · exact fin1 _ _ ([] ++ [13] ++ [10]) (by decide) (by rw [cC, if_pos ha, ks4, Option.bind_some]) (by rw [cM, if_pos ha, r_size4 (w25 _) hc hke, Option.bind_some]) (by rw [v3])
    · exact fin1 _ _ ([] ++ [14] ++ [13] ++ [10]) (by decide) (by rw [cC, if_pos ha, ks5, Option.bind_some]) (by rw [cM, if_pos ha, r_size5 (w25 _) hc hke, Option.bind_some]) (by rw [v3])
  · rcases (show kn = 1 ∨ kn = 2 ∨ kn = 3 ∨ kn = 4 ∨ kn = 5 by omega) with rfl | rfl | rfl | rfl | rfl
    · exact fin2 _ _ ([] ++ [21] ++ [20]) (by decide) (by rw [cC, if_neg ha, km1, Option.bind_some]) (by rw [cM, if_neg ha, r_mark1 (w25 _) hd hc hke (by decide), Option.bind_some]) (by rw [v4, v5])
    · exact fin2 _ _ ([] ++ [24] ++ [21] ++ [20]) (by decide) (by rw [cC, if_neg ha, km2, Option.bind_some]) (by rw [cM, if_neg ha, r_mark2 (w25 _) hd hc hke (by decide), Option.bind_some]) (by rw [v4, v5])
    · exact fin2 _ _ ([] ++ [22] ++ [21] ++ [20]) (by decide) (by rw [cC, if_neg ha, km3, Option.bind_some]) (by rw [cM, if_neg ha, r_mark3 (w25 _) hd hc hke (by decide), Option.bind_some]) (by rw [v4, v5])
    · exact fin1 _ _ ([] ++ [23] ++ [20] ++ [13] ++ [10]) (by decide) (by rw [cC, if_neg ha, km4 v2, Option.bind_some]) (by rw [cM, if_neg ha, r_mark4 (w25 _) hc hke (by decide), Option.bind_some]) (by rw [v3, v4])
    · exact fin1 _ _ ([] ++ [23] ++ [20] ++ [14] ++ [13] ++ [10]) (by decide) (by rw [cC, if_neg ha, km5 v2, Option.bind_some]) (by rw [cM, if_neg ha, r_mark5 (w25 _) hc hke (by decide), Option.bind_some]) (by rw [v3, v4])
