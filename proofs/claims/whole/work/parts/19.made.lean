/-! WHAT IS MADE: the cells in the order of their making; the world of the engine at the start -/
def wq_ord : List (Nat × Nat) := [(0, 0), (1, 0), (4, 0), (5, 0), (6, 0), (7, 0), (8, 0), (9, 0), (10, 0), (11, 0), (6, 1), (7, 1), (8, 1), (9, 1), (10, 1), (11, 1), (12, 0), (13, 0), (14, 0), (15, 0), (16, 0), (17, 0), (6, 2), (7, 2), (8, 2), (9, 2), (10, 2), (11, 2), (6, 3), (7, 3), (8, 3), (9, 3), (10, 3), (11, 3), (6, 4), (7, 4), (8, 4), (9, 4), (10, 4), (11, 4), (6, 5), (7, 5), (8, 5), (9, 5), (10, 5), (11, 5), (6, 6), (7, 6), (8, 6), (9, 6), (10, 6), (11, 6), (6, 7), (7, 7), (8, 7), (9, 7), (10, 7), (11, 7), (6, 8), (7, 8), (8, 8), (9, 8), (10, 8), (11, 8), (6, 9), (7, 9), (8, 9), (9, 9), (10, 9), (11, 9), (6, 10), (7, 10), (8, 10), (9, 10), (10, 10), (11, 10), (6, 11), (7, 11), (8, 11), (9, 11), (10, 11), (11, 11), (6, 12), (7, 12), (8, 12), (9, 12), (10, 12), (11, 12), (6, 13), (7, 13), (8, 13), (9, 13), (10, 13), (11, 13), (6, 14), (7, 14), (8, 14), (9, 14), (10, 14), (11, 14), (6, 15), (7, 15), (8, 15), (9, 15), (10, 15), (11, 15), (6, 16), (7, 16), (8, 16), (9, 16), (10, 16), (11, 16), (6, 17), (7, 17), (8, 17), (9, 17), (10, 17), (11, 17), (6, 18), (7, 18), (8, 18), (9, 18), (10, 18), (11, 18), (6, 19), (7, 19), (8, 19), (9, 19), (10, 19), (11, 19), (6, 20), (7, 20), (8, 20), (9, 20), (10, 20), (11, 20), (6, 21), (7, 21), (8, 21), (9, 21), (10, 21), (11, 21), (6, 22), (7, 22), (8, 22), (9, 22), (10, 22), (11, 22), (6, 23), (7, 23), (8, 23), (9, 23), (10, 23), (11, 23), (6, 24), (7, 24), (8, 24), (9, 24), (10, 24), (11, 24), (6, 25), (7, 25), (8, 25), (9, 25), (10, 25), (11, 25), (18, 0), (19, 0), (20, 0), (2, 0), (3, 0), (2, 1), (3, 1), (2, 2), (3, 2), (2, 3), (3, 3), (2, 4), (3, 4), (2, 5), (3, 5), (2, 6), (3, 6), (2, 7), (3, 7), (6, 26), (7, 26), (8, 26), (9, 26), (10, 26), (11, 26), (6, 27), (7, 27), (8, 27), (9, 27), (10, 27), (11, 27), (21, 0), (22, 0), (23, 0), (24, 0), (25, 0), (26, 0), (27, 0), (28, 0), (29, 0), (30, 0), (31, 0), (32, 0), (33, 0), (34, 0)]
def wq_pos (k i : Nat) : Nat := (([[0], [1], [169, 171, 173, 175, 177, 179, 181, 183], [170, 172, 174, 176, 178, 180, 182, 184], [2], [3], [4, 10, 22, 28, 34, 40, 46, 52, 58, 64, 70, 76, 82, 88, 94, 100, 106, 112, 118, 124, 130, 136, 142, 148, 154, 160, 185, 191], [5, 11, 23, 29, 35, 41, 47, 53, 59, 65, 71, 77, 83, 89, 95, 101, 107, 113, 119, 125, 131, 137, 143, 149, 155, 161, 186, 192], [6, 12, 24, 30, 36, 42, 48, 54, 60, 66, 72, 78, 84, 90, 96, 102, 108, 114, 120, 126, 132, 138, 144, 150, 156, 162, 187, 193], [7, 13, 25, 31, 37, 43, 49, 55, 61, 67, 73, 79, 85, 91, 97, 103, 109, 115, 121, 127, 133, 139, 145, 151, 157, 163, 188, 194], [8, 14, 26, 32, 38, 44, 50, 56, 62, 68, 74, 80, 86, 92, 98, 104, 110, 116, 122, 128, 134, 140, 146, 152, 158, 164, 189, 195], [9, 15, 27, 33, 39, 45, 51, 57, 63, 69, 75, 81, 87, 93, 99, 105, 111, 117, 123, 129, 135, 141, 147, 153, 159, 165, 190, 196], [16], [17], [18], [19], [20], [21], [166], [167], [168], [197], [198], [199], [200], [201], [202], [203], [204], [205], [206], [207], [208], [209], [210]] : List (List Nat))[k]?.getD [])[i]?.getD 0
def w0M : wc_M := fun k _ _ => if k = 23 then -1 else 0
def wq_eq (x : wn_C) (k i : Nat) : Bool := match x, wc_sh k with
  | .inl (c, vs), (0, c') => Nat.beq c c' && decide (vs = (List.range (wc_nf c)).map (fun s => match wc_rf k i s with
    | some r => .inr (some (wq_pos r.1 r.2))
    | none => .inl (w0M k i s)))
  | .inr (0, n, .inl f), (1, n') => Nat.beq n n' && (List.range n).all (fun s => decide (f s = w0M k i s))
  | .inr (1, n, .inl f), (2, n') => Nat.beq n n' && (List.range n).all (fun s => decide (f s = w0M k i s))
  | .inr (2, n, .inr g), (3, n') => Nat.beq n n' && (List.range n).all (fun s => decide (g s = (wc_rf k i s).map (fun r => wq_pos r.1 r.2)))
  | .inr (3, n, .inr g), (4, n') => Nat.beq n n' && (List.range n).all (fun s => decide (g s = (wc_rf k i s).map (fun r => wq_pos r.1 r.2)))
  | _, _ => false
def wq_all : List wn_C → List (Nat × Nat) → Bool
  | [], [] => true
  | x :: h, q :: r => wq_eq x q.1 q.2 && wq_all h r
  | _, _ => false
theorem wq_all_ok : wq_all wn_h2 wq_ord = true := by decide +kernel
theorem wq_all_at : ∀ {h : List wn_C} {r : List (Nat × Nat)} {j : Nat} {q : Nat × Nat}, wq_all h r = true → r[j]? = some q → ∃ x, h[j]? = some x ∧ wq_eq x q.1 q.2 = true
  | [], [], j, q, _, h2 => by simp at h2
  | x :: h, q0 :: r, j, q, h1, h2 => by
    simp only [wq_all, Bool.and_eq_true] at h1
    cases j with
    | zero =>
      cases h2
      exact ⟨x, rfl, h1.1⟩
    | succ j => exact wq_all_at (h := h) (r := r) (j := j) h1.2 h2
  | [], _ :: _, _, _, h1, _ => by cases h1
  | _ :: _, [], _, _, h1, _ => by cases h1
theorem wq_ord_ok : ∀ q ∈ wc_wl, wq_ord[wq_pos q.1 q.2]? = some q := by decide +kernel
def wq_ad (b : Nat) (tt : Nat → Nat) : wc_A := fun k i => if Nat.blt k 35 then b + wq_pos k i else tt k
theorem wq_rf_lt {k i s : Nat} {q : Nat × Nat} (h : wc_ok (k, i) = true) (hk : k < 35) (hq : wc_rf k i s = some q) : q.1 < 35 := by
  have h0 : ∀ k, k < 35 → ∀ s, s < 28 → (match ((wc_rfl[k]?).getD [])[s]? with
    | some (some (k', _, _)) => Nat.blt k' 35
    | _ => true) = true := by decide +kernel
  unfold wc_rf at hq
  split at hq
  · split at hq
    · rename_i k' b n he
      cases hq
      have hlt : s < 28 := Nat.lt_of_lt_of_le (List.getElem?_eq_some_iff.mp he).1 (wc_rf_len k hk)
      have h1 := h0 k hk s hlt
      rw [he] at h1
      exact Nat.blt_eq.mp h1
    · cases hq
  · cases hq
    show 2 < 35
    decide
  · cases hq
    show 6 < 35
    decide
  · cases hq
theorem vq_cell_i {cA : ClassId} {n : Nat} {f g : Nat → Int32} (h : ∀ s, s < n → f s = g s) : vp_cell cA (n, .inl f) = vp_cell cA (n, .inl g) := by
  rw [vp_cell_i, vp_cell_i]
  unfold arrV
  congr 1
  apply Array.ext
  · simp
  · intro i h1 h2
    have h3 : i < n := by simpa using h1
    simp [h i h3]
theorem vq_cell_q {cA : ClassId} {n : Nat} {f g : Nat → Option Nat} (h : ∀ s, s < n → f s = g s) : vp_cell cA (n, .inr (.inr (.inr (.inr f)))) = vp_cell cA (n, .inr (.inr (.inr (.inr g)))) := by
  rw [vp_cell_q, vp_cell_q]
  unfold arrV
  congr 1
  apply Array.ext
  · simp
  · intro i h1 h2
    have h3 : i < n := by simpa using h1
    simp [h i h3]
theorem wq_at {b : Nat} {tt : Nat → Nat} {cA : Nat → ClassId} {D : va_G} {H : Heap} {x : wn_C} {k i : Nat} (hk : k < 35) (hok : wc_ok (k, i) = true) (he : wq_eq x k i = true) (h : va_at D wc_cls (b + wq_pos k i, wn_cc b cA x) H) : va_at D wc_cls (wq_ad b tt k i, wc_ent (wq_ad b tt) cA w0M (k, i)) H := by
  have hadk : wq_ad b tt k i = b + wq_pos k i := by unfold wq_ad; rw [if_pos (Nat.blt_eq.mpr hk)]
  have hadr : ∀ {s : Nat} {q : Nat × Nat}, wc_rf k i s = some q → wq_ad b tt q.1 q.2 = b + wq_pos q.1 q.2 := fun {s q} hq => by
    unfold wq_ad
    rw [if_pos (Nat.blt_eq.mpr (wq_rf_lt hok hk hq))]
  have hmap : ∀ s, (wc_rf k i s).map (fun r => wq_ad b tt r.1 r.2) = ((wc_rf k i s).map (fun r => wq_pos r.1 r.2)).map (fun i => b + i) := fun s => by
    cases hr : wc_rf k i s with
    | none => rfl
    | some q => simp [hadr hr]
  rw [hadk]
  unfold wq_eq at he
  split at he
  · rename_i c vs c' hsh
    simp only [Bool.and_eq_true, decide_eq_true_eq] at he
    have hc := Nat.eq_of_beq_eq_true he.1
    subst hc
    rw [wc_ent0 hsh]
    have hv := he.2
    subst hv
    have e : (List.range (wc_nf c)).map (fun s => wc_fld (wq_ad b tt) k i s w0M) = ((List.range (wc_nf c)).map (fun s => match wc_rf k i s with
        | some r => (.inr (some (wq_pos r.1 r.2)) : wn_V)
        | none => .inl (w0M k i s))).map (wn_cv b) := by
      rw [List.map_map]
      apply List.map_congr_left
      intro s _
      unfold wc_fld
      simp only [Function.comp]
      cases hr : wc_rf k i s with
      | none => rfl
      | some q =>
        show Value.ref _ = Value.ref _
        rw [hadr hr]
    rw [e]
    exact h
  · rename_i n f n' hsh
    simp only [Bool.and_eq_true] at he
    have hc := Nat.eq_of_beq_eq_true he.1
    subst hc
    rw [wc_ent1 hsh]
    show H[b + wq_pos k i]? = some (vp_cell (cA 0) (n, .inl (fun s => w0M k i s)))
    rw [← vq_cell_i (f := f) (fun s hs => of_decide_eq_true (List.all_eq_true.mp he.2 s (List.mem_range.mpr hs)))]
    exact h
  · rename_i n f n' hsh
    simp only [Bool.and_eq_true] at he
    have hc := Nat.eq_of_beq_eq_true he.1
    subst hc
    rw [wc_ent2 hsh]
    show H[b + wq_pos k i]? = some (vp_cell (cA 1) (n, .inl (fun s => w0M k i s)))
    rw [← vq_cell_i (f := f) (fun s hs => of_decide_eq_true (List.all_eq_true.mp he.2 s (List.mem_range.mpr hs)))]
    exact h
  · rename_i n g n' hsh
    simp only [Bool.and_eq_true] at he
    have hc := Nat.eq_of_beq_eq_true he.1
    subst hc
    rw [wc_ent3 hsh]
    show H[b + wq_pos k i]? = some (vp_cell (cA 2) (n, .inr (.inr (.inr (.inr (fun s => (wc_rf k i s).map (fun r => wq_ad b tt r.1 r.2)))))))
    rw [← vq_cell_q (f := fun s => (g s).map (fun i => b + i)) (fun s hs => by rw [hmap, of_decide_eq_true (List.all_eq_true.mp he.2 s (List.mem_range.mpr hs))])]
    exact h
  · rename_i n g n' hsh
    simp only [Bool.and_eq_true] at he
    have hc := Nat.eq_of_beq_eq_true he.1
    subst hc
    rw [wc_ent4 hsh]
    show H[b + wq_pos k i]? = some (vp_cell (cA 3) (n, .inr (.inr (.inr (.inr (fun s => (wc_rf k i s).map (fun r => wq_ad b tt r.1 r.2)))))))
    rw [← vq_cell_q (f := fun s => (g s).map (fun i => b + i)) (fun s hs => by rw [hmap, of_decide_eq_true (List.all_eq_true.mp he.2 s (List.mem_range.mpr hs))])]
    exact h
  · cases he
theorem wq_wl_ok : ∀ q ∈ wc_wl, q.1 < 35 ∧ wc_ok q = true := by decide +kernel
theorem wq_world {b : Nat} {tt : Nat → Nat} {cA : Nat → ClassId} {D : va_G} {H : Heap} (h : wn_H b cA D wn_h2 H) : va_P D wc_cls (wc_ws (wq_ad b tt) cA w0M) H := by
  intro j q hj
  unfold wc_ws at hj
  rw [List.getElem?_map] at hj
  cases hq : wc_wl[j]? with
  | none => rw [hq] at hj; cases hj
  | some k =>
    rw [hq] at hj
    cases hj
    have hm := List.mem_of_getElem? hq
    obtain ⟨x, hx, he⟩ := wq_all_at wq_all_ok (wq_ord_ok k hm)
    obtain ⟨h35, hok⟩ := wq_wl_ok k hm
    exact wq_at h35 hok he (h.2 _ x hx)
theorem wq_apart {b : Nat} {tt : Nat → Nat} {cA : Nat → ClassId} (M : wc_M) : va_D (wn_A b) (wc_ws (wq_ad b tt) cA M) := by
  have key : ∀ (j : Nat) (q : Nat × va_E), (wc_ws (wq_ad b tt) cA M)[j]? = some q → ∃ k, wc_wl[j]? = some k ∧ q.1 = b + wq_pos k.1 k.2 := by
    intro j q hj
    unfold wc_ws at hj
    rw [List.getElem?_map] at hj
    cases hq : wc_wl[j]? with
    | none => rw [hq] at hj; cases hj
    | some k =>
      rw [hq] at hj
      cases hj
      obtain ⟨h35, hok⟩ := wq_wl_ok k (List.mem_of_getElem? hq)
      exact ⟨k, rfl, by show wq_ad b tt k.1 k.2 = _; unfold wq_ad; rw [if_pos (Nat.blt_eq.mpr h35)]⟩
  refine ⟨fun i j p q hi hj hpq => ?_, fun k q hq => ?_⟩
  · obtain ⟨k1, h1, e1⟩ := key i p hi
    obtain ⟨k2, h2, e2⟩ := key j q hj
    have hp : wq_pos k1.1 k1.2 = wq_pos k2.1 k2.2 := by omega
    have hk : k1 = k2 := by
      have a1 := wq_ord_ok k1 (List.mem_of_getElem? h1)
      have a2 := wq_ord_ok k2 (List.mem_of_getElem? h2)
      rw [hp, a2] at a1
      exact (Option.some.inj a1).symm
    rw [hk] at h1
    exact (List.getElem?_inj (List.getElem?_eq_some_iff.mp h1).1 wc_wl_nd).mp (h1.trans h2.symm)
  · obtain ⟨k1, h1, e1⟩ := key k q hq
    rw [e1]
    exact Nat.le_add_right _ _
