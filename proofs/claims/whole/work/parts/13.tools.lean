/-! TOOLS for the functions that the methods' code is: fewer locals known, checks as Booleans -/
def wk_le : wc_L → wc_L → Prop
  | [], [] => True
  | none :: r, _ :: r' => wk_le r r'
  | some v :: r, some v' :: r' => v = v' ∧ wk_le r r'
  | _, _ => False
theorem wk_e : wk_le [] [] := trivial
theorem wk_n {q : Option wc_V} {r r' : wc_L} (h : wk_le r r') : wk_le (none :: r) (q :: r') := by
  cases q <;> exact h
theorem wk_s {v : wc_V} {r r' : wc_L} (h : wk_le r r') : wk_le (some v :: r) (some v :: r') := ⟨rfl, h⟩
theorem wk_le_get : ∀ {L L' : wc_L} {i : Nat} {v : wc_V}, wk_le L L' → L[i]? = some (some v) → L'[i]? = some (some v)
  | [], [], _, _, _, h => by simp at h
  | none :: r, q :: r', i, v, hle, h => by
    have hle : wk_le r r' := by cases q <;> exact hle
    cases i with
    | zero => cases h
    | succ i => exact wk_le_get (L := r) (L' := r') hle h
  | some w :: r, some w' :: r', i, v, hle, h => by
    cases i with
    | zero =>
      cases h
      rw [← hle.1]
      rfl
    | succ i => exact wk_le_get (L := r) (L' := r') hle.2 h
  | some w :: r, none :: r', i, v, hle, h => hle.elim
  | [], _ :: _, _, _, hle, _ => hle.elim
  | none :: _, [], _, _, hle, _ => hle.elim
  | some _ :: _, [], _, _, hle, _ => hle.elim
theorem wk_le_len : ∀ {L L' : wc_L}, wk_le L L' → L.length = L'.length
  | [], [], _ => rfl
  | none :: r, q :: r', hle => by
    have hle : wk_le r r' := by cases q <;> exact hle
    simp [wk_le_len hle]
  | some w :: r, some w' :: r', hle => by simp [wk_le_len hle.2]
  | some w :: r, none :: r', hle => hle.elim
  | [], _ :: _, hle => hle.elim
  | none :: _, [], hle => hle.elim
  | some _ :: _, [], hle => hle.elim
theorem wk_le_set : ∀ {L L' : wc_L} {i : Nat} {v : wc_V}, wk_le L L' → wk_le (L.set i (some v)) (L'.set i (some v))
  | [], [], _, _, _ => trivial
  | none :: r, q :: r', i, v, hle => by
    have hle : wk_le r r' := by cases q <;> exact hle
    cases i with
    | zero => exact ⟨rfl, hle⟩
    | succ i => exact wk_n (wk_le_set (i := i) (v := v) hle)
  | some w :: r, some w' :: r', i, v, hle => by
    cases i with
    | zero => exact ⟨rfl, hle.2⟩
    | succ i => exact ⟨hle.1, wk_le_set (i := i) (v := v) hle.2⟩
  | some w :: r, none :: r', _, _, hle => hle.elim
  | [], _ :: _, _, _, hle => hle.elim
  | none :: _, [], _, _, hle => hle.elim
  | some _ :: _, [], _, _, hle => hle.elim
theorem wc_noL_set {L : wc_L} {i : Nat} {v : wc_V} (h : wc_noL L = true) (hv : ∀ x, v ≠ .inr (.inr x)) : wc_noL (L.set i (some v)) = true := by
  apply List.all_eq_true.mpr
  intro q hq
  rcases List.mem_or_eq_of_mem_set hq with h1 | h1
  · exact List.all_eq_true.mp h q h1
  · subst h1
    obtain v | v | v := v
    · rfl
    · rfl
    · exact absurd rfl (hv v)
theorem wc_stp_wk {xl i i' : Nat} {L L1 L' : wc_L} {st st' : List wc_V} {M M' : wc_M} {cd : List wc_E} (h : wc_stp xl cd i L st M = some (i', L', st', M')) (hle : wk_le L L1) (hn : wc_noL L1 = true) : ∃ L1', wc_stp xl cd i L1 st M = some (i', L1', st', M') ∧ wk_le L' L1' ∧ wc_noL L1' = true := by
  have lg : ∀ {n : Nat} {v : wc_V}, L[n]? = some (some v) → L1[n]? = some (some v) := fun {n v} hv => wk_le_get hle hv
  have ll := wk_le_len hle
  rcases hcd : cd[i]? with _ | ⟨pc, ins, len, tg, ct, cl⟩
  · unfold wc_stp at h
    rw [hcd] at h
    cases h
  unfold wc_stp at h ⊢
  rw [hcd] at h ⊢
  cases ins
  case iconst n =>
    cases h
    exact ⟨L1, rfl, hle, hn⟩
  case bipush n =>
    cases h
    exact ⟨L1, rfl, hle, hn⟩
  case sipush n =>
    cases h
    exact ⟨L1, rfl, hle, hn⟩
  case ldc n =>
    cases h
    exact ⟨L1, rfl, hle, hn⟩
  case ldc_w n =>
    cases h
    exact ⟨L1, rfl, hle, hn⟩
  case lconst n =>
    cases h
    exact ⟨L1, rfl, hle, hn⟩
  case ldc2_w n =>
    cases h
    exact ⟨L1, rfl, hle, hn⟩
  case iload_n n =>
    dsimp only at h
    split at h
    · rename_i v hv
      cases h
      exact ⟨L1, by dsimp only; rw [lg hv], hle, hn⟩
    · cases h
  case iload n =>
    dsimp only at h
    split at h
    · rename_i v hv
      cases h
      exact ⟨L1, by dsimp only; rw [lg hv], hle, hn⟩
    · cases h
  case aload_n n =>
    dsimp only at h
    split at h
    · rename_i v hv
      cases h
      exact ⟨L1, by dsimp only; rw [lg hv], hle, hn⟩
    · cases h
  case aload n =>
    dsimp only at h
    split at h
    · rename_i v hv
      cases h
      exact ⟨L1, by dsimp only; rw [lg hv], hle, hn⟩
    · cases h
  case lload_n n =>
    dsimp only at h
    split at h
    · rename_i v hv
      cases h
      exact ⟨L1, by dsimp only; rw [lg hv], hle, hn⟩
    · cases h
  case lload n =>
    dsimp only at h
    split at h
    · rename_i v hv
      cases h
      exact ⟨L1, by dsimp only; rw [lg hv], hle, hn⟩
    · cases h
  case istore_n n =>
    dsimp only at h
    split at h
    · rename_i v r
      split at h
      · rename_i hc
        simp only [Bool.and_eq_true] at hc
        cases h
        refine ⟨_, by dsimp only; rw [if_pos (by rw [hn, ← ll, hc.2]; rfl)], wk_le_set hle, wc_noL_set hn (fun x z => by cases z)⟩
      · cases h
    · cases h
  case istore n =>
    dsimp only at h
    split at h
    · rename_i v r
      split at h
      · rename_i hc
        simp only [Bool.and_eq_true] at hc
        cases h
        refine ⟨_, by dsimp only; rw [if_pos (by rw [hn, ← ll, hc.2]; rfl)], wk_le_set hle, wc_noL_set hn (fun x z => by cases z)⟩
      · cases h
    · cases h
  case astore_n n =>
    dsimp only at h
    split at h
    · rename_i v r
      split at h
      · rename_i hc
        simp only [Bool.and_eq_true] at hc
        cases h
        refine ⟨_, by dsimp only; rw [if_pos (by rw [hn, ← ll, hc.2]; rfl)], wk_le_set hle, wc_noL_set hn (fun x z => by cases z)⟩
      · cases h
    · cases h
  case astore n =>
    dsimp only at h
    split at h
    · rename_i v r
      split at h
      · rename_i hc
        simp only [Bool.and_eq_true] at hc
        cases h
        refine ⟨_, by dsimp only; rw [if_pos (by rw [hn, ← ll, hc.2]; rfl)], wk_le_set hle, wc_noL_set hn (fun x z => by cases z)⟩
      · cases h
    · cases h
  case iinc n k =>
    dsimp only at h
    split at h
    · rename_i v hv
      split at h
      · cases h
        refine ⟨_, by dsimp only; rw [lg hv]; dsimp only; rw [if_pos hn], wk_le_set hle, wc_noL_set hn (fun x z => by cases z)⟩
      · cases h
    · cases h
  case iadd =>
    dsimp only at h
    split at h
    · cases h
      exact ⟨L1, rfl, hle, hn⟩
    · cases h
  case isub =>
    dsimp only at h
    split at h
    · cases h
      exact ⟨L1, rfl, hle, hn⟩
    · cases h
  case imul =>
    dsimp only at h
    split at h
    · cases h
      exact ⟨L1, rfl, hle, hn⟩
    · cases h
  case iand =>
    dsimp only at h
    split at h
    · cases h
      exact ⟨L1, rfl, hle, hn⟩
    · cases h
  case ior =>
    dsimp only at h
    split at h
    · cases h
      exact ⟨L1, rfl, hle, hn⟩
    · cases h
  case ishl =>
    dsimp only at h
    split at h
    · cases h
      exact ⟨L1, rfl, hle, hn⟩
    · cases h
  case ishr =>
    dsimp only at h
    split at h
    · cases h
      exact ⟨L1, rfl, hle, hn⟩
    · cases h
  case lsub =>
    dsimp only at h
    split at h
    · cases h
      exact ⟨L1, rfl, hle, hn⟩
    · cases h
  case lcmp =>
    dsimp only at h
    split at h
    · cases h
      exact ⟨L1, rfl, hle, hn⟩
    · cases h
  case ineg =>
    dsimp only at h
    split at h
    · cases h
      exact ⟨L1, rfl, hle, hn⟩
    · cases h
  case i2l =>
    dsimp only at h
    split at h
    · cases h
      exact ⟨L1, rfl, hle, hn⟩
    · cases h
  case i2b =>
    dsimp only at h
    split at h
    · cases h
      exact ⟨L1, rfl, hle, hn⟩
    · cases h
  case i2s =>
    dsimp only at h
    split at h
    · cases h
      exact ⟨L1, rfl, hle, hn⟩
    · cases h
  case dup2 =>
    dsimp only at h
    split at h
    · cases h
      exact ⟨L1, rfl, hle, hn⟩
    · cases h
  case pop =>
    dsimp only at h
    split at h
    · cases h
      exact ⟨L1, rfl, hle, hn⟩
    · cases h
  case goto n =>
    dsimp only at h
    split at h
    · cases h
      exact ⟨L1, rfl, hle, hn⟩
    · cases h
  case dup =>
    dsimp only at h
    split at h
    · cases h
      exact ⟨L1, rfl, hle, hn⟩
    · cases h
      exact ⟨L1, rfl, hle, hn⟩
    · cases h
  case getfield n =>
    dsimp only at h ⊢
    split at h
    · rename_i c s k j r
      split at h
      · rename_i c2 hsh
        split at h
        · rename_i hc
          split at h
          · rename_i q hq
            cases h
            refine ⟨L1, ?_, hle, hn⟩
            rw [if_pos hc]
          · rename_i hq
            cases h
            refine ⟨L1, ?_, hle, hn⟩
            rw [if_pos hc]
        · cases h
      · cases h
    · cases h
  case putfield n =>
    dsimp only at h ⊢
    split at h
    · rename_i c s v k j r
      split at h
      · rename_i c2 hsh
        split at h
        · rename_i hc
          split at h
          · cases h
          · rename_i hq
            cases h
            refine ⟨L1, ?_, hle, hn⟩
            rw [if_pos hc]
        · cases h
      · cases h
    · cases h
  case getstatic n =>
    dsimp only at h
    split at h
    · cases h
      exact ⟨L1, rfl, hle, hn⟩
    · cases h
  case arraylength =>
    dsimp only at h ⊢
    split at h
    · rename_i k r
      split at h
      · cases h
        exact ⟨L1, rfl, hle, hn⟩
      · rename_i q hsh
        split at h
        · rename_i hc
          cases h
          refine ⟨L1, ?_, hle, hn⟩
          rw [if_pos hc]
        · cases h
      · cases h
    · cases h
  case invokestatic n =>
    dsimp only at h ⊢
    split at h
    · rename_i t y x r
      split at h
      · rename_i hc
        split at h
        · rename_i ht
          cases h
          refine ⟨L1, ?_, hle, hn⟩
          rw [if_pos hc, if_pos ht]
        · rename_i ht
          split at h
          · rename_i ht2
            cases h
            refine ⟨L1, ?_, hle, hn⟩
            rw [if_pos hc, if_neg ht, if_pos ht2]
          · cases h
      · cases h
    · cases h
  all_goals cases h
theorem wg_wk {d : Nat} {X : Nat × (Nat → Int32)} {zr : Option FieldType} {cd : List wc_E} {K : Option Int32 → wc_M → Prop} {i : Nat} {L L1 : wc_L} {st : List wc_V} {M : wc_M} (hle : wk_le L L1) (hn : wc_noL L1 = true) (h : wg d X zr cd i L st M K) : wg d X zr cd i L1 st M K := by
  obtain ⟨n, hG⟩ := h
  refine ⟨n, ?_⟩
  induction n generalizing i L L1 st M with
  | zero => exact hG
  | succ n ih =>
    rcases hG with ⟨i', L', st', M', h1, h2⟩ | ⟨P, t, f, st', h1, h2, h3⟩ | ⟨P, st', M', h1, h2, h3⟩ | ⟨y, as, rest, r, M', h1, h2, h3⟩ | ⟨x, cs, dd, st', h1, h2, h3⟩ | ⟨P, r, h1, h2, h3⟩
    · obtain ⟨L1', k1, k2, k3⟩ := wc_stp_wk h1 hle hn
      exact Or.inl ⟨i', L1', st', M', k1, ih k2 k3 h2⟩
    · exact Or.inr (Or.inl ⟨P, t, f, st', h1, fun z => ih hle hn (h2 z), fun z => ih hle hn (h3 z)⟩)
    · exact Or.inr (Or.inr (Or.inl ⟨P, st', M', h1, h2, ih hle hn h3⟩))
    · exact Or.inr (Or.inr (Or.inr (Or.inl ⟨y, as, rest, r, M', h1, h2, ih hle hn h3⟩)))
    · exact Or.inr (Or.inr (Or.inr (Or.inr (Or.inl ⟨x, cs, dd, st', h1, fun q hq z => ih hle hn (h2 q hq z), fun z => ih hle hn (h3 z)⟩))))
    · exact Or.inr (Or.inr (Or.inr (Or.inr (Or.inr ⟨P, r, h1, h2, h3⟩))))
/-- an index that lies in an array; a Boolean; a stretch to be copied -/
def wib (a : Int32) (n : Nat) : Bool := decide (¬ a < 0) && Nat.blt a.toNatClampNeg n
def wzb (v : Int32) : Bool := decide (v = 0) || decide (v = 1)
def wcb (sp dp n : Int32) (n0 n1 : Nat) : Bool := decide (¬ sp < 0) && decide (¬ dp < 0) && decide (¬ n < 0) && Nat.ble (sp.toNatClampNeg + n.toNatClampNeg) n0 && Nat.ble (dp.toNatClampNeg + n.toNatClampNeg) n1
theorem wib_in {a : Int32} {n : Nat} (h : wib a n = true) : vp_in a n := by
  unfold wib at h
  simp only [Bool.and_eq_true, decide_eq_true_eq] at h
  intro z
  rcases z with z | z
  · exact h.1 z
  · have := Nat.blt_eq.mp h.2
    omega
theorem wzb_in {v : Int32} (h : wzb v = true) : v = 0 ∨ v = 1 := by
  unfold wzb at h
  simpa using h
theorem wcb_in {sp dp n : Int32} {n0 n1 : Nat} (h : wcb sp dp n n0 n1 = true) : ¬ sp < 0 ∧ ¬ dp < 0 ∧ ¬ n < 0 ∧ sp.toNatClampNeg + n.toNatClampNeg ≤ n0 ∧ dp.toNatClampNeg + n.toNatClampNeg ≤ n1 := by
  unfold wcb at h
  simp only [Bool.and_eq_true, decide_eq_true_eq] at h
  exact ⟨h.1.1.1.1, h.1.1.1.2, h.1.1.2, Nat.ble_eq.mp h.1.2, Nat.ble_eq.mp h.2⟩
theorem wbs {α β : Type} {o : Option α} {f : α → Option β} {z : β} (h : o.bind f = some z) : ∃ a, o = some a ∧ f a = some z := Option.bind_eq_some_iff.mp h
theorem wif {c : Prop} [Decidable c] {α : Type} {a : Option α} {z : α} (h : (if c then a else none) = some z) : c ∧ a = some z := by
  by_cases hc : c
  · rw [if_pos hc] at h
    exact ⟨hc, h⟩
  · rw [if_neg hc] at h
    cases h
def wx0 : Nat × (Nat → Int32) := (0, fun _ => 0)
