/-! FRAMES: what a frame of the engine says of a frame of the machine; steps without a condition -/
def wc_lv (ad : wc_A) (nL : Nat) (L : wc_L) (ls : Array Slot) : Prop := ls.size = nL ∧ lv_wf ls ∧ L.length = nL ∧ ∀ (i : Nat) (v : wc_V), L[i]? = some (some v) → ls[i]? = some (.val (wc_cv ad v))
def wc_lp (ad : wc_A) (L : wc_L) : List (Nat × Value) := L.zipIdx.filterMap (fun q => q.1.map (fun v => (q.2, wc_cv ad v)))
theorem wc_lp_in {ad : wc_A} {L : wc_L} {q : Nat × Value} : q ∈ wc_lp ad L ↔ ∃ v, L[q.1]? = some (some v) ∧ wc_cv ad v = q.2 := by
  unfold wc_lp
  rw [List.mem_filterMap]
  constructor
  · rintro ⟨⟨z, i⟩, hz, he⟩
    cases z with
    | none => cases he
    | some v =>
      cases he
      exact ⟨v, List.mem_zipIdx_iff_getElem?.mp hz, rfl⟩
  · rintro ⟨v, hv, he⟩
    refine ⟨(some v, q.1), List.mem_zipIdx_iff_getElem?.mpr hv, ?_⟩
    show some (q.1, wc_cv ad v) = some q
    rw [he]
theorem wc_lv_has {ad : wc_A} {nL : Nat} {L : wc_L} {ls : Array Slot} (h : wc_lv ad nL L ls) : lv_has ls nL (wc_lp ad L) := by
  refine ⟨h.1, h.2.1, fun q hq => ?_⟩
  obtain ⟨v, h1, h2⟩ := wc_lp_in.mp hq
  rw [← h2]
  exact h.2.2.2 _ _ h1
theorem wc_noL_cat {ad : wc_A} {L : wc_L} (h : wc_noL L = true) {i : Nat} {v : wc_V} (hv : L[i]? = some (some v)) : (wc_cv ad v).category = 1 := by
  have h1 := List.all_eq_true.mp h (some v) (List.mem_of_getElem? hv)
  obtain v | v | v := v
  · rfl
  · rfl
  · cases h1
/-- a local stored -/
theorem wc_lv_set {ad : wc_A} {nL n : Nat} {L : wc_L} {ls' : Array Slot} {v : wc_V} (hL : L.length = nL) (hn : wc_noL L = true)
    (h : lv_has ls' nL ((n, wc_cv ad v) :: (wc_lp ad L).filter (fun q => !(q.1 == n) && !(q.1 + 1 == n && q.2.category == 2)))) : wc_lv ad nL (L.set n (some v)) ls' := by
  refine ⟨h.1, h.2.1, by rw [List.length_set]; exact hL, fun i w hw => ?_⟩
  by_cases hi : i = n
  · subst hi
    have hlt : i < L.length := by
      have := (List.getElem?_eq_some_iff.mp hw).1
      rwa [List.length_set] at this
    rw [List.getElem?_set_self hlt] at hw
    cases hw
    exact h.2.2 (i, wc_cv ad v) List.mem_cons_self
  · rw [List.getElem?_set_ne (Ne.symm hi)] at hw
    refine h.2.2 (i, wc_cv ad w) (List.mem_cons_of_mem _ (List.mem_filter.mpr ⟨wc_lp_in.mpr ⟨w, hw, rfl⟩, ?_⟩))
    have hc := wc_noL_cat (ad := ad) hn hw
    simp [hi, hc]
def wc_gsm (k : Nat) : String × String := (wc_gsn[k - 35]?).getD ("", "")
/-- the tables of the class that nobody writes, at the address ad 35 0 -/
def wc_TZ (ad : wc_A) (A : Nat → Prop) (U : State) (H : Heap) : Prop := ∀ k, 35 ≤ k → k < 36 → va_T .int (ad k 0) 6 (fun j => .int (wc_st k j)) A U H ∧ va_Z (wc_gsm k).1 (wc_gsm k).2 "[I" (.ref (ad k 0)) A U H
/-- what holds throughout a frame -/
def wc_C (p : Program) (R : Room) (s : State) (m : MethodId) (args : Array Value) (c : Code) (cells slots : Nat) (ad : wc_A) (cA : Nat → ClassId) (D : va_G) (A : Nat → Prop) (X : Nat × (Nat → Int32)) (o nL dep : Nat) (bytes : ByteArray) : Prop :=
  p.tables.exec = Jvm.exec ∧ c.code = bytes ∧ c.maxLocals = nL ∧ s.vm.findClass (wc_cn o) = some m.cls ∧ (∀ w ∈ wc_tw, w.before args s = true) ∧ va_K D wc_cls (wc_tys cA) s ∧ wc_TZ ad A s s.heap ∧
  (0 < X.1 → va_X (ad 38 0) (X.1 - 1) X.2 s s.heap ∧ ad 38 0 < s.heap.size ∧ ¬ A (ad 38 0)) ∧ (dep + 1 ≤ R.frames ∧ 40 * (dep + 1) ≤ R.locals ∧ cells ≤ R.cells ∧ slots ≤ R.slots)
/-- from here the machine comes to Q, whatever heap holds the memory -/
def wc_At (p : Program) (l : Launch) (e : Env) (R : Room) (s : State) (m : MethodId) (args : Array Value) (below : List Frame) (meth : Method) (c : Code) (cells slots : Nat) (Q : State → Prop) (ad : wc_A) (cA : Nat → ClassId) (D : va_G) (A : Nat → Prop) (nL : Nat) (cd : List wc_E) (i : Nat) (L : wc_L) (st : List wc_V) (M : wc_M) : Prop :=
  ∀ (H : Heap) (locs : List Loc) (ls : Array Slot), va_P D wc_cls (wc_ws ad cA M) H → va_D A (wc_ws ad cA M) → va_S A s.heap H locs → wc_lv ad nL L ls →
    W p l e R s m args below meth c H locs cells slots Q (F0 m (wc_pc cd i) ls (st.map (wc_cv ad)))
theorem wc_stp_ks {xl i i' : Nat} {L L' : wc_L} {st st' : List wc_V} {M M' : wc_M} {cd : List wc_E} {o : Nat} {bytes : ByteArray} (hg : wc_good o bytes cd) (h : wc_stp xl cd i L st M = some (i', L', st', M')) (hL : wc_okL L) (hs : wc_okS st) : wc_okL L' ∧ wc_okS st' := by
  have lg : ∀ {n : Nat} {v : wc_V}, L[n]? = some (some v) → wc_okv v = true := fun {n v} hv => hL v (List.mem_of_getElem? hv)
  have ls : ∀ {n : Nat} {v : wc_V}, wc_okv v = true → wc_okL (L.set n (some v)) := fun {n v} hv w hw => by
    rcases List.mem_or_eq_of_mem_set hw with h1 | h1
    · exact hL w h1
    · cases h1; exact hv
  have sc : ∀ {v : wc_V} {r : List wc_V}, wc_okv v = true → wc_okS r → wc_okS (v :: r) := fun {v r} hv hr w hw => by
    rcases List.mem_cons.mp hw with h1 | h1
    · subst h1; exact hv
    · exact hr w h1
  have st1 : ∀ {v : wc_V} {r : List wc_V}, wc_okS (v :: r) → wc_okS r := fun {v r} hr w hw => hr w (List.mem_cons_of_mem _ hw)
  have st0 : ∀ {v : wc_V} {r : List wc_V}, wc_okS (v :: r) → wc_okv v = true := fun {v r} hr => hr v List.mem_cons_self
  rcases hcd : cd[i]? with _ | ⟨pc, ins, len, tg, ct, cl⟩
  · unfold wc_stp at h
    rw [hcd] at h
    cases h
  obtain ⟨-, -, hlnk, -⟩ := hg i pc ins len tg ct cl hcd
  unfold wc_stp at h
  rw [hcd] at h
  cases ins
  case iconst n =>
    cases h
    exact ⟨hL, sc rfl hs⟩
  case bipush n =>
    cases h
    exact ⟨hL, sc rfl hs⟩
  case sipush n =>
    cases h
    exact ⟨hL, sc rfl hs⟩
  case ldc n =>
    cases h
    exact ⟨hL, sc rfl hs⟩
  case ldc_w n =>
    cases h
    exact ⟨hL, sc rfl hs⟩
  case lconst n =>
    cases h
    exact ⟨hL, sc rfl hs⟩
  case ldc2_w n =>
    cases h
    exact ⟨hL, sc rfl hs⟩
  case iload_n n =>
    dsimp only at h
    split at h
    · rename_i v hv
      cases h
      exact ⟨hL, sc (lg hv) hs⟩
    · cases h
  case iload n =>
    dsimp only at h
    split at h
    · rename_i v hv
      cases h
      exact ⟨hL, sc (lg hv) hs⟩
    · cases h
  case aload_n n =>
    dsimp only at h
    split at h
    · rename_i v hv
      cases h
      exact ⟨hL, sc (lg hv) hs⟩
    · cases h
  case aload n =>
    dsimp only at h
    split at h
    · rename_i v hv
      cases h
      exact ⟨hL, sc (lg hv) hs⟩
    · cases h
  case lload_n n =>
    dsimp only at h
    split at h
    · rename_i v hv
      cases h
      exact ⟨hL, sc (lg hv) hs⟩
    · cases h
  case lload n =>
    dsimp only at h
    split at h
    · rename_i v hv
      cases h
      exact ⟨hL, sc (lg hv) hs⟩
    · cases h
  case istore_n n =>
    dsimp only at h
    split at h
    · split at h
      · cases h
        exact ⟨ls (st0 hs), st1 hs⟩
      · cases h
    · cases h
  case istore n =>
    dsimp only at h
    split at h
    · split at h
      · cases h
        exact ⟨ls (st0 hs), st1 hs⟩
      · cases h
    · cases h
  case astore_n n =>
    dsimp only at h
    split at h
    · split at h
      · cases h
        exact ⟨ls (st0 hs), st1 hs⟩
      · cases h
    · cases h
  case astore n =>
    dsimp only at h
    split at h
    · split at h
      · cases h
        exact ⟨ls (st0 hs), st1 hs⟩
      · cases h
    · cases h
  case iinc n k =>
    dsimp only at h
    split at h
    · split at h
      · cases h
        exact ⟨ls rfl, hs⟩
      · cases h
    · cases h
  case iadd =>
    dsimp only at h
    split at h
    · cases h
      exact ⟨hL, sc rfl (st1 (st1 hs))⟩
    · cases h
  case isub =>
    dsimp only at h
    split at h
    · cases h
      exact ⟨hL, sc rfl (st1 (st1 hs))⟩
    · cases h
  case imul =>
    dsimp only at h
    split at h
    · cases h
      exact ⟨hL, sc rfl (st1 (st1 hs))⟩
    · cases h
  case iand =>
    dsimp only at h
    split at h
    · cases h
      exact ⟨hL, sc rfl (st1 (st1 hs))⟩
    · cases h
  case ior =>
    dsimp only at h
    split at h
    · cases h
      exact ⟨hL, sc rfl (st1 (st1 hs))⟩
    · cases h
  case ishl =>
    dsimp only at h
    split at h
    · cases h
      exact ⟨hL, sc rfl (st1 (st1 hs))⟩
    · cases h
  case ishr =>
    dsimp only at h
    split at h
    · cases h
      exact ⟨hL, sc rfl (st1 (st1 hs))⟩
    · cases h
  case lsub =>
    dsimp only at h
    split at h
    · cases h
      exact ⟨hL, sc rfl (st1 (st1 hs))⟩
    · cases h
  case lcmp =>
    dsimp only at h
    split at h
    · cases h
      exact ⟨hL, sc rfl (st1 (st1 hs))⟩
    · cases h
  case ineg =>
    dsimp only at h
    split at h
    · cases h
      exact ⟨hL, sc rfl (st1 hs)⟩
    · cases h
  case i2l =>
    dsimp only at h
    split at h
    · cases h
      exact ⟨hL, sc rfl (st1 hs)⟩
    · cases h
  case i2b =>
    dsimp only at h
    split at h
    · cases h
      exact ⟨hL, sc rfl (st1 hs)⟩
    · cases h
  case i2s =>
    dsimp only at h
    split at h
    · cases h
      exact ⟨hL, sc rfl (st1 hs)⟩
    · cases h
  case dup =>
    dsimp only at h
    split at h
    · cases h
      exact ⟨hL, sc (st0 hs) hs⟩
    · cases h
      exact ⟨hL, sc (st0 hs) hs⟩
    · cases h
  case dup2 =>
    dsimp only at h
    split at h
    · cases h
      exact ⟨hL, sc (st0 hs) (sc (st0 (st1 hs)) hs)⟩
    · cases h
  case pop =>
    dsimp only at h
    split at h
    · cases h
      exact ⟨hL, st1 hs⟩
    · cases h
  case goto n =>
    dsimp only at h
    split at h
    · cases h
      exact ⟨hL, hs⟩
    · cases h
  case getfield n =>
    dsimp only at h
    split at h
    · rename_i c s k j r
      split at h
      · rename_i c2 hsh
        split at h
        · split at h
          · rename_i q hq
            cases h
            have h35 := wc_k35 hsh (by decide)
            exact ⟨hL, sc (wc_rf_ok h35 (st0 hs) hq (Or.inl (by rw [hsh]))) (st1 hs)⟩
          · cases h
            exact ⟨hL, sc rfl (st1 hs)⟩
        · cases h
      · cases h
    · cases h
  case putfield n =>
    dsimp only at h
    split at h
    · split at h
      · split at h
        · split at h
          · cases h
          · cases h
            exact ⟨hL, st1 (st1 hs)⟩
        · cases h
      · cases h
    · cases h
  case getstatic n =>
    dsimp only at h
    split at h
    · rename_i k
      cases h
      unfold wc_lnk at hlnk
      simp only [Bool.and_eq_true, decide_eq_true_eq] at hlnk
      have h35 := Nat.ble_eq.mp hlnk.1.2
      have h38 := Nat.blt_eq.mp hlnk.2
      have hk : ∀ k, k < 36 → 35 ≤ k → wc_ok (k, 0) = true := by decide
      exact ⟨hL, sc (hk k h38 h35) hs⟩
    · cases h
  case arraylength =>
    dsimp only at h
    split at h
    · split at h
      · cases h
        exact ⟨hL, sc rfl (st1 hs)⟩
      · split at h
        · cases h
          exact ⟨hL, sc rfl (st1 hs)⟩
        · cases h
      · cases h
    · cases h
  case invokestatic n =>
    dsimp only at h
    split at h
    · split at h
      · split at h
        · cases h
          exact ⟨hL, sc rfl (st1 (st1 hs))⟩
        · split at h
          · cases h
            exact ⟨hL, sc rfl (st1 (st1 hs))⟩
          · cases h
      · cases h
    · cases h
  all_goals cases h
