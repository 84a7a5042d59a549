/-! THE ENGINE STANDS FOR THE MACHINE: worlds, frames, and one step of each kind -/
abbrev wc_A : Type := Nat → Nat → Nat
def wc_cv (ad : wc_A) : wc_V → Value
  | .inl v => .int v
  | .inr (.inl q) => .ref (ad q.1 q.2)
  | .inr (.inr v) => .long v
def wc_ok (q : Nat × Nat) : Bool := Nat.blt q.2 (wc_cnt q.1)
def wc_okv : wc_V → Bool
  | .inr (.inl q) => wc_ok q
  | _ => true
def wc_okS (st : List wc_V) : Prop := ∀ v ∈ st, wc_okv v = true
def wc_okL (L : wc_L) : Prop := ∀ v, some v ∈ L → wc_okv v = true
def wc_wl : List (Nat × Nat) := (List.range 35).flatMap (fun k => (List.range (wc_cnt k)).map (fun i => (k, i)))
theorem wc_wl_in {k i : Nat} (hk : k < 35) (h : wc_ok (k, i) = true) : (k, i) ∈ wc_wl :=
  List.mem_flatMap.mpr ⟨k, List.mem_range.mpr hk, List.mem_map.mpr ⟨i, List.mem_range.mpr (Nat.blt_eq.mp h), rfl⟩⟩
theorem wc_wl_nd : wc_wl.Nodup := by decide +kernel
theorem wc_sh_lt : ∀ k, 35 ≤ k → (wc_sh k).1 ≠ 0 ∧ (wc_sh k).1 ≠ 1 ∧ (wc_sh k).1 ≠ 2 ∧ (wc_sh k).1 ≠ 3 ∧ (wc_sh k).1 ≠ 4 := by
  intro k hk
  by_cases h : k < 39
  · have h2 : ∀ k, k < 39 → 35 ≤ k → (wc_sh k).1 ≠ 0 ∧ (wc_sh k).1 ≠ 1 ∧ (wc_sh k).1 ≠ 2 ∧ (wc_sh k).1 ≠ 3 ∧ (wc_sh k).1 ≠ 4 := by decide +kernel
    exact h2 k h hk
  · have e : wc_shl[k]? = none := List.getElem?_eq_none (by show 39 ≤ k; omega)
    unfold wc_sh
    rw [e]
    decide
def wc_fld (ad : wc_A) (k i s : Nat) (M : wc_M) : Value := match wc_rf k i s with
  | some q => .ref (ad q.1 q.2)
  | none => .int (M k i s)
def wc_ent (ad : wc_A) (cA : Nat → ClassId) (M : wc_M) (q : Nat × Nat) : va_E := match wc_sh q.1 with
  | (0, c) => .inr (c, (List.range (wc_nf c)).map (fun s => wc_fld ad q.1 q.2 s M))
  | (1, n) => .inl (cA 0, n, .inl (fun s => M q.1 q.2 s))
  | (2, n) => .inl (cA 1, n, .inl (fun s => M q.1 q.2 s))
  | (3, n) => .inl (cA 2, n, .inr (.inr (.inr (.inr (fun s => (wc_rf q.1 q.2 s).map (fun r => ad r.1 r.2))))))
  | (4, n) => .inl (cA 3, n, .inr (.inr (.inr (.inr (fun s => (wc_rf q.1 q.2 s).map (fun r => ad r.1 r.2))))))
  | _ => .inr (0, [])
def wc_ws (ad : wc_A) (cA : Nat → ClassId) (M : wc_M) : va_W := wc_wl.map (fun q => (ad q.1 q.2, wc_ent ad cA M q))
def wc_tys (cA : Nat → ClassId) : List (ClassId × FieldType) := [(cA 0, .int), (cA 1, .boolean), (cA 2, .object "WindCarver$Row"), (cA 3, .object "WindCarver$Pass")]
/-- a place of the world, and the world with that place set -/
theorem wc_plc {ad : wc_A} {cA : Nat → ClassId} {M : wc_M} {k i : Nat} (hk : k < 35) (h : wc_ok (k, i) = true) :
    ∃ q0 : Nat, (wc_ws ad cA M)[q0]? = some (ad k i, wc_ent ad cA M (k, i)) ∧ wc_wl[q0]? = some (k, i) := by
  obtain ⟨q0, h0⟩ := List.getElem?_of_mem (wc_wl_in hk h)
  exact ⟨q0, by simp [wc_ws, List.getElem?_map, h0], h0⟩
theorem wc_plset {ad : wc_A} {cA : Nat → ClassId} {M M' : wc_M} {k i q0 : Nat} {e : va_E} (h0 : wc_wl[q0]? = some (k, i)) (he : wc_ent ad cA M' (k, i) = e) (hM : ∀ q : Nat × Nat, q ≠ (k, i) → wc_ent ad cA M' q = wc_ent ad cA M q) :
    (wc_ws ad cA M).set q0 (ad k i, e) = wc_ws ad cA M' := by
  apply List.ext_getElem?
  intro j
  have hlt : q0 < wc_wl.length := (List.getElem?_eq_some_iff.mp h0).1
  by_cases hj : j = q0
  · subst hj
    rw [List.getElem?_set_self (by simpa [wc_ws] using hlt)]
    simp [wc_ws, List.getElem?_map, h0, he]
  · rw [List.getElem?_set_ne (Ne.symm hj)]
    simp only [wc_ws, List.getElem?_map]
    cases hq : wc_wl[j]? with
    | none => rfl
    | some q =>
      have hne : q ≠ (k, i) := by
        intro z
        subst z
        obtain ⟨l1, e1⟩ := List.getElem?_eq_some_iff.mp hq
        obtain ⟨l2, e2⟩ := List.getElem?_eq_some_iff.mp h0
        exact hj ((List.getElem?_inj l1 wc_wl_nd).mp (hq.trans h0.symm))
      simp [hM q hne]
theorem wc_up_off {M : wc_M} {k i s : Nat} {v : Int32} {q : Nat × Nat} (h : q ≠ (k, i)) (t : Nat) : wc_up M k i s v q.1 q.2 t = M q.1 q.2 t := by
  unfold wc_up
  rw [if_neg]
  rintro ⟨h1, h2, -⟩
  exact h (Prod.ext h1 h2)
theorem wc_ent_off {ad : wc_A} {cA : Nat → ClassId} {M M' : wc_M} {q : Nat × Nat} (h : ∀ t, M' q.1 q.2 t = M q.1 q.2 t) : wc_ent ad cA M' q = wc_ent ad cA M q := by
  unfold wc_ent wc_fld
  simp only [h]
/-- what a reference in a cell of the world refers to is a cell -/
def wc_rf_t (k s : Nat) : Bool := match ((wc_rfl[k]?).getD [])[s]? with
    | some (some (k', b, n)) => cond b (Nat.ble (wc_cnt k) (wc_cnt k')) (Nat.blt n (wc_cnt k'))
    | _ => true
theorem wc_rf_ok0 : ∀ k, k < 35 → ∀ s, s < 28 → wc_rf_t k s = true := by decide +kernel
theorem wc_rf_len : ∀ k, k < 35 → ((wc_rfl[k]?).getD []).length ≤ 28 := by decide +kernel
theorem wc_sh3 : ∀ k, k < 35 → (wc_sh k).1 = 3 → (wc_sh k).2 = 8 := by decide +kernel
theorem wc_sh4 : ∀ k, k < 35 → (wc_sh k).1 = 4 → (wc_sh k).2 + cond (Nat.beq k 17) 2 26 ≤ 28 := by decide +kernel
theorem wc_rf_ok {k i s : Nat} {q : Nat × Nat} (hk : k < 35) (h : wc_ok (k, i) = true) (hq : wc_rf k i s = some q) (hs : (wc_sh k).1 = 0 ∨ s < (wc_sh k).2) : wc_ok q = true := by
  unfold wc_rf at hq
  have h' : i < wc_cnt k := Nat.blt_eq.mp h
  split at hq
  · split at hq
    · rename_i k' b n he
      cases hq
      have hlt : s < 28 := Nat.lt_of_lt_of_le (List.getElem?_eq_some_iff.mp he).1 (wc_rf_len k hk)
      have h1 := wc_rf_ok0 k hk s hlt
      unfold wc_rf_t at h1
      rw [he] at h1
      apply Nat.blt_eq.mpr
      cases b with
      | true => exact Nat.lt_of_lt_of_le h' (Nat.ble_eq.mp h1)
      | false => exact Nat.blt_eq.mp h1
    · cases hq
  · rename_i n he
    cases hq
    have h1 := wc_sh3 k hk (by rw [he])
    rw [he] at hs h1
    have h2 : s < n := hs.resolve_left (by simp)
    apply Nat.blt_eq.mpr
    show s < 8
    simp at h1
    omega
  · rename_i n he
    cases hq
    have h1 := wc_sh4 k hk (by rw [he])
    rw [he] at hs h1
    have h2 : s < n := hs.resolve_left (by simp)
    apply Nat.blt_eq.mpr
    show _ + s < 28
    simp only at h1
    omega
  · cases hq
theorem wc_k35 {k : Nat} {t n : Nat} (h : wc_sh k = (t, n)) (ht : t < 5) : k < 35 := by
  rcases Nat.lt_or_ge k 35 with h1 | h1
  · exact h1
  · have h2 := wc_sh_lt k h1
    rw [h] at h2
    omega
