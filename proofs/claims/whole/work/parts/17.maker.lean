/-! THE MAKER: a machine that runs constructors over a heap of numbered cells; what it makes the machine makes, at the addresses b, b + 1, .. -/
abbrev wn_V : Type := Int32 ⊕ Option Nat
abbrev wn_C : Type := (Nat × List wn_V) ⊕ (Nat × Nat × ((Nat → Int32) ⊕ (Nat → Option Nat)))
def wn_dv (c s : Nat) : wn_V := match wc_ty c s with
  | .object _ => .inr none
  | .array _ => .inr none
  | _ => .inl 0
def wn_fit (c s : Nat) (v : wc_V) : Option wn_V := match wc_ty c s, v with
  | .int, .inl x => some (.inl x)
  | .boolean, .inl x => if x = 0 then some (.inl x) else none
  | .object _, .inr (.inl (0, i)) => some (.inr (some i))
  | .array _, .inr (.inl (0, i)) => some (.inr (some i))
  | _, _ => none
def wn_stp (o : Nat) (cd : List wc_E) (i : Nat) (L : wc_L) (st : List wc_V) (h : List wn_C) (nc ns : Nat) : Option (Nat × wc_L × List wc_V × List wn_C × Nat × Nat) :=
  match cd[i]? with
  | none => none
  | some (_, ins, _, tg, ct, _) => match ins with
    | .iconst _ => some (i + 1, L, .inl ct :: st, h, nc, ns)
    | .bipush _ => some (i + 1, L, .inl ct :: st, h, nc, ns)
    | .sipush _ => some (i + 1, L, .inl ct :: st, h, nc, ns)
    | .iload_n n => match L[(n : Nat)]? with
      | some (some (.inl v)) => some (i + 1, L, .inl v :: st, h, nc, ns)
      | _ => none
    | .aload_n n => match L[(n : Nat)]? with
      | some (some (.inr (.inl v))) => some (i + 1, L, .inr (.inl v) :: st, h, nc, ns)
      | _ => none
    | .istore_n n => match st with
      | .inl v :: r => if wc_noL L && Nat.blt (n : Nat) L.length then some (i + 1, L.set (n : Nat) (some (.inl v)), r, h, nc, ns) else none
      | _ => none
    | .astore_n n => match st with
      | .inr (.inl v) :: r => if wc_noL L && Nat.blt (n : Nat) L.length then some (i + 1, L.set (n : Nat) (some (.inr (.inl v))), r, h, nc, ns) else none
      | _ => none
    | .iinc n _ => match L[n]? with
      | some (some (.inl v)) => if wc_noL L then some (i + 1, L.set n (some (.inl (v + ct))), st, h, nc, ns) else none
      | _ => none
    | .dup => match st with
      | .inr (.inl x) :: r => some (i + 1, L, .inr (.inl x) :: .inr (.inl x) :: r, h, nc, ns)
      | _ => none
    | .goto _ => match tg with
      | [t] => some (t, L, st, h, nc, ns)
      | _ => none
    | .if_icmp .ge _ => match tg, st with
      | [t], .inl y :: .inl x :: r => some (if y ≤ x then t else i + 1, L, r, h, nc, ns)
      | _, _ => none
    | .new _ => match tg with
      | [c] => if Nat.blt c 8 then some (i + 1, L, .inr (.inl (0, h.length)) :: st, h ++ [.inl (c, (List.range (wc_nf c)).map (wn_dv c))], nc + 1, ns + wc_nf c) else none
      | _ => none
    | .newarray ty => match ty, st with
      | .int, .inl n :: r => if decide (¬ n < 0) && Nat.ble n.toNatClampNeg 4000 then some (i + 1, L, .inr (.inl (0, h.length)) :: r, h ++ [.inr (0, n.toNatClampNeg, .inl (fun _ => 0))], nc + 1, ns + n.toNatClampNeg) else none
      | .boolean, .inl n :: r => if decide (¬ n < 0) && Nat.ble n.toNatClampNeg 4000 then some (i + 1, L, .inr (.inl (0, h.length)) :: r, h ++ [.inr (1, n.toNatClampNeg, .inl (fun _ => 0))], nc + 1, ns + n.toNatClampNeg) else none
      | _, _ => none
    | .anewarray _ => match tg, st with
      | [2], .inl n :: r => if decide (¬ n < 0) && Nat.ble n.toNatClampNeg 4000 then some (i + 1, L, .inr (.inl (0, h.length)) :: r, h ++ [.inr (2, n.toNatClampNeg, .inr (fun _ => none))], nc + 1, ns + n.toNatClampNeg) else none
      | [3], .inl n :: r => if decide (¬ n < 0) && Nat.ble n.toNatClampNeg 4000 then some (i + 1, L, .inr (.inl (0, h.length)) :: r, h ++ [.inr (3, n.toNatClampNeg, .inr (fun _ => none))], nc + 1, ns + n.toNatClampNeg) else none
      | _, _ => none
    | .getfield _ => match tg, st with
      | [c, s], .inr (.inl (0, j)) :: r => match h[j]? with
        | some (.inl (c', vs)) => if Nat.beq c c' && Nat.blt s (wc_nf c) && Nat.blt c 8 then (match vs[s]? with
            | some (.inl v) => some (i + 1, L, .inl v :: r, h, nc, ns)
            | some (.inr (some q)) => some (i + 1, L, .inr (.inl (0, q)) :: r, h, nc, ns)
            | _ => none) else none
        | _ => none
      | _, _ => none
    | .putfield _ => match tg, st with
      | [c, s], v :: .inr (.inl (0, j)) :: r => match h[j]? with
        | some (.inl (c', vs)) => if Nat.beq c c' && Nat.blt s (wc_nf c) && Nat.blt c 8 && Nat.beq o c && Nat.blt s vs.length then (match wn_fit c s v with
            | some x => some (i + 1, L, r, h.set j (.inl (c', vs.set s x)), nc, ns)
            | none => none) else none
        | _ => none
      | _, _ => none
    | .aastore => match st with
      | .inr (.inl (0, v)) :: .inl k :: .inr (.inl (0, j)) :: r => match h[j]?, h[v]? with
        | some (.inr (t, n, .inr g)), some (.inl (c, _)) => if ((Nat.beq t 2 && Nat.beq c 1) || (Nat.beq t 3 && Nat.beq c 3)) && wib k n then some (i + 1, L, r, h.set j (.inr (t, n, .inr (va_up g k.toNatClampNeg (some v)))), nc, ns) else none
        | _, _ => none
      | _ => none
    | .iastore => match st with
      | .inl v :: .inl k :: .inr (.inl (0, j)) :: r => match h[j]? with
        | some (.inr (0, n, .inl f)) => if wib k n then some (i + 1, L, r, h.set j (.inr (0, n, .inl (upd f k.toNatClampNeg v))), nc, ns) else none
        | _ => none
      | _ => none
    | _ => none
abbrev wn_S : Type := Nat → Nat → List wn_C → Option (List wn_C × Nat × Nat)
def wn_lp (S : wn_S) (o : Nat) (cd : List wc_E) : Nat → Nat → wc_L → List wc_V → List wn_C → Nat → Nat → Option (List wn_C × Nat × Nat)
  | 0, _, _, _, _, _, _ => none
  | n + 1, i, L, st, h, nc, ns => match cd[i]? with
    | some (_, .return_, _, _, _, _) => match st with
      | [] => some (h, nc, ns)
      | _ => none
    | some (_, .invokespecial _, _, [t], _, _) => match st with
      | .inr (.inl (0, j)) :: r => if Nat.beq t 300 then (if Nat.ble r.length 4 then wn_lp S o cd n (i + 1) L r h nc ns else none) else if Nat.ble r.length 4 && Nat.blt t 8 then (match S t j h with
          | some (h', mc, ms) => wn_lp S o cd n (i + 1) L r h' (nc + mc) (ns + ms)
          | none => none) else none
      | _ => none
    | _ => match wn_stp o cd i L st h nc ns with
      | some (i', L', st', h', nc', ns') => wn_lp S o cd n i' L' st' h' nc' ns'
      | none => none
def wn_Sd : Nat → wn_S
  | 0 => fun _ _ _ => none
  | d + 1 => fun c j h => if Nat.blt c 8 && Nat.ble 1 (wn_mL c) then wn_lp (wn_Sd d) c (wn_cd c) 2000 0 (some (.inr (.inl (0, j))) :: List.replicate (wn_mL c - 1) none) [] h 0 0 else none
/-- links of the makers' code -/
def wn_lnk (o : Nat) (ins : Instr) (tg : List Nat) (ct : Int32) : Bool := match ins, tg with
  | .iconst n, _ => decide (Int32.ofInt n = ct)
  | .bipush n, _ => decide ((Int8.ofInt n).toInt32 = ct)
  | .sipush n, _ => decide ((Int16.ofInt n).toInt32 = ct)
  | .iinc _ n, _ => decide (Int32.ofInt n = ct)
  | .getfield i, [c, s] => decide ((o, i, c, s) ∈ wc_fl)
  | .putfield i, [c, s] => decide ((o, i, c, s) ∈ wc_fl)
  | .new i, [c] => decide ((o, i, c) ∈ wn_cl)
  | .anewarray i, [t] => (Nat.beq t 2 && decide ((o, i, 1) ∈ wn_cl)) || (Nat.beq t 3 && decide ((o, i, 3) ∈ wn_cl))
  | .invokespecial i, [t] => if Nat.beq t 300 then decide ((o, i) ∈ wn_ol) else (decide ((o, i, t) ∈ wn_nl) || decide ((o, i, t) ∈ wn_ml))
  | _, _ => true
def wn_good (o : Nat) (bytes : ByteArray) (cd : List wc_E) : Prop := ∀ (i pc : Nat) (ins : Instr) (len : Nat) (tg : List Nat) (ct : Int32) (cl : Int64), cd[i]? = some (pc, ins, len, tg, ct, cl) →
  decode bytes pc = .ok (ins, len) ∧ len = wc_len ins len ∧ wn_lnk o ins tg ct = true ∧ wc_nxt cd i pc ins len tg = true
def wn_chk (o : Nat) (bytes : ByteArray) (cd : List wc_E) : Bool := cd.zipIdx.all (fun q => decide (decode bytes q.1.1 = .ok (q.1.2.1, q.1.2.2.1)) && decide (q.1.2.2.1 = wc_len q.1.2.1 q.1.2.2.1) && wn_lnk o q.1.2.1 q.1.2.2.2.1 q.1.2.2.2.2.1 && wc_nxt cd q.2 q.1.1 q.1.2.1 q.1.2.2.1 q.1.2.2.2.1)
theorem wn_good_of {o : Nat} {bytes : ByteArray} {cd : List wc_E} (h : wn_chk o bytes cd = true) : wn_good o bytes cd := by
  intro i pc ins len tg ct cl hi
  have h1 := List.all_eq_true.mp h ((pc, ins, len, tg, ct, cl), i) (List.mem_zipIdx_iff_getElem?.mpr hi)
  simp only [Bool.and_eq_true, decide_eq_true_eq] at h1
  exact ⟨h1.1.1.1, h1.1.1.2, h1.1.2, h1.2⟩
theorem wn_k_ok0 : ∀ c, c < 8 → wn_chk c (wn_b c) (wn_cd c) = true := by decide +kernel
/-- the heap that the machine has -/
def wn_ad (b : Nat) (tt : Nat → Nat) : wc_A
  | 0, i => b + i
  | k + 1, _ => tt (k + 1)
def wn_cv (b : Nat) : wn_V → Value
  | .inl v => .int v
  | .inr none => .null
  | .inr (some i) => .ref (b + i)
def wn_cc (b : Nat) (cA : Nat → ClassId) : wn_C → va_E
  | .inl (c, vs) => .inr (c, vs.map (wn_cv b))
  | .inr (t, n, .inl f) => .inl (cA t, n, .inl f)
  | .inr (t, n, .inr g) => .inl (cA t, n, .inr (.inr (.inr (.inr (fun s => (g s).map (fun i => b + i))))))
def wn_H (b : Nat) (cA : Nat → ClassId) (D : va_G) (h : List wn_C) (H : Heap) : Prop := H.size = b + h.length ∧ ∀ (i : Nat) (x : wn_C), h[i]? = some x → va_at D wc_cls (b + i, wn_cc b cA x) H
theorem wn_H_set {b : Nat} {cA : Nat → ClassId} {D : va_G} {h : List wn_C} {H H1 : Heap} {j : Nat} {x x0 : wn_C} (hH : wn_H b cA D h H) (h0 : h[j]? = some x0) (hx : va_at D wc_cls (b + j, wn_cc b cA x) H1) (z : H1.size = H.size) (oq : ∀ q : Nat, q ≠ b + j → H1[q]? = H[q]?) : wn_H b cA D (h.set j x) H1 := by
  have hlt := (List.getElem?_eq_some_iff.mp h0).1
  refine ⟨by rw [z, List.length_set]; exact hH.1, fun i y hy => ?_⟩
  by_cases hi : i = j
  · subst hi
    rw [List.getElem?_set_self hlt] at hy
    cases hy
    exact hx
  · rw [List.getElem?_set_ne (Ne.symm hi)] at hy
    exact (hH.2 i y hy).kept (oq _ (by show b + i ≠ b + j; omega))
theorem wn_H_push {b : Nat} {cA : Nat → ClassId} {D : va_G} {h : List wn_C} {H H1 : Heap} {x : wn_C} (hH : wn_H b cA D h H) (hx : va_at D wc_cls (b + h.length, wn_cc b cA x) H1) (z : H1.size = H.size + 1) (oq : ∀ q : Nat, q < H.size → H1[q]? = H[q]?) : wn_H b cA D (h ++ [x]) H1 := by
  refine ⟨by rw [z, hH.1, List.length_append]; rfl, fun i y hy => ?_⟩
  by_cases hi : i < h.length
  · rw [List.getElem?_append_left hi] at hy
    exact (hH.2 i y hy).kept (oq _ (by rw [hH.1]; show b + i < _; omega))
  · rw [List.getElem?_append_right (by omega)] at hy
    have hz : i - h.length < 1 := (List.getElem?_eq_some_iff.mp hy).1
    have hi2 : i = h.length := by omega
    subst hi2
    rw [Nat.sub_self] at hy
    cases hy
    exact hx
theorem wn_dv0 : ∀ c, c < 8 → ∀ j, j < wc_nf c → defaultValue (wc_ty c j) = wn_cv 0 (wn_dv c j) := by decide +kernel
theorem wn_dvb (b c j : Nat) : wn_cv b (wn_dv c j) = wn_cv 0 (wn_dv c j) := by
  unfold wn_dv
  split <;> rfl
def wn_W (cA : Nat → ClassId) (D : va_G) (U : State) : Prop := va_K D wc_cls (wc_tys cA) U ∧ (∀ q ∈ wn_nl, va_Nw (.methodLinkNest (wc_cn q.1) q.2.1 (wn_y q.2.2) "WindCarver") U) ∧ va_AO "WindCarver$Row" U ∧ va_AO "WindCarver$Pass" U
theorem wn_W.moved {cA : Nat → ClassId} {D : va_G} {u U : State} (hW : u.WarmedH U.vm) (h : wn_W cA D u) : wn_W cA D U := ⟨va_K.moved hW.alike h.1, fun q hq => (h.2.1 q hq).warmM hW, h.2.2.1.moved hW.alike, h.2.2.2.moved hW.alike⟩
theorem wn_W.same {cA : Nat → ClassId} {D : va_G} {u U : State} (hv : u.vm = U.vm) (h : wn_W cA D u) : wn_W cA D U := by
  have ha : u.vm.Alike U.vm := by rw [hv]; exact Vm.Alike.refl _
  exact ⟨va_K.moved ha h.1, fun q hq => va_Nw.same rfl hv (h.2.1 q hq), h.2.2.1.moved ha, h.2.2.2.moved ha⟩
section WNS
variable {p : Program} {l : Launch} {e : Env} {R : Room} {s : State} {m : MethodId} {args : Array Value} {below : List Frame} {meth : Method} {c : Code} {Q : State → Prop}
variable {b : Nat} {cA : Nat → ClassId} {D : va_G} {o nL dep : Nat} {bytes : ByteArray} {cd : List wc_E} {tt : Nat → Nat}
def wn_A (b : Nat) : Nat → Prop := fun q => b ≤ q
def wn_Cx (p : Program) (R : Room) (s : State) (m : MethodId) (args : Array Value) (meth : Method) (c : Code) (b : Nat) (cA : Nat → ClassId) (D : va_G) (o nL dep : Nat) (bytes : ByteArray) : Prop :=
  p.tables.exec = Jvm.exec ∧ c.code = bytes ∧ c.maxLocals = nL ∧ s.vm.findClass (wc_cn o) = some m.cls ∧ (∀ w ∈ wc_tw, w.before args s = true) ∧ wn_W cA D s ∧ (dep + 1 ≤ R.frames ∧ 40 * (dep + 1) ≤ R.locals) ∧ (o < 8 → meth.name = "<init>") ∧ b ≤ s.heap.size
def wn_At (p : Program) (l : Launch) (e : Env) (R : Room) (s : State) (m : MethodId) (args : Array Value) (below : List Frame) (meth : Method) (c : Code) (Q : State → Prop) (b : Nat) (tt : Nat → Nat) (cA : Nat → ClassId) (D : va_G) (nL : Nat) (cd : List wc_E) (i : Nat) (L : wc_L) (st : List wc_V) (h : List wn_C) (nc ns : Nat) : Prop :=
  ∀ (H : Heap) (locs : List Loc) (ls : Array Slot), wn_H b cA D h H → va_S (wn_A b) s.heap H locs → wc_lv (wn_ad b tt) nL L ls → W p l e R s m args below meth c H locs nc ns Q (F0 m (wc_pc cd i) ls (st.map (wc_cv (wn_ad b tt))))
theorem wn_fit_ok {c1 s1 : Nat} {v : wc_V} {x : wn_V} (h : wn_fit c1 s1 v = some x) : wn_cv b x = wc_cv (wn_ad b tt) v ∧ narrow (wc_ty c1 s1) (wc_cv (wn_ad b tt) v) = wc_cv (wn_ad b tt) v ∧ fits (wc_ty c1 s1) (wc_cv (wn_ad b tt) v) = true := by
  unfold wn_fit at h
  split at h
  · rename_i x1 ht; cases h; rw [ht]; exact ⟨rfl, rfl, rfl⟩
  · rename_i x1 ht
    split at h
    · rename_i h0; cases h; rw [ht]; subst h0; exact ⟨rfl, rfl, rfl⟩
    · cases h
  · rename_i C i ht; cases h; rw [ht]; exact ⟨rfl, rfl, rfl⟩
  · rename_i C i ht; cases h; rw [ht]; exact ⟨rfl, rfl, rfl⟩
  · cases h
theorem wn_mono {i i' : Nat} {L L' : wc_L} {st st' : List wc_V} {h h' : List wn_C} {nc ns nc' ns' : Nat} (hq : wn_stp o cd i L st h nc ns = some (i', L', st', h', nc', ns')) : nc ≤ nc' ∧ ns ≤ ns' := by
  unfold wn_stp at hq
  split at hq
  · cases hq
  · split at hq
    all_goals (repeat' split at hq)
    all_goals first | (cases hq; done) | (simp only [Option.some.injEq, Prod.mk.injEq] at hq; omega)
theorem wn_stp_ok {i i' : Nat} {L L' : wc_L} {st st' : List wc_V} {h h' : List wn_C} {nc ns nc' ns' : Nat} (hC : wn_Cx p R s m args meth c b cA D o nL dep bytes) (hg : wn_good o bytes cd) (hq : wn_stp o cd i L st h nc ns = some (i', L', st', h', nc', ns')) (hcc : nc' ≤ R.cells) (hss : ns' ≤ R.slots)
    (k : wn_At p l e R s m args below meth c Q b tt cA D nL cd i' L' st' h' nc' ns') : wn_At p l e R s m args below meth c Q b tt cA D nL cd i L st h nc ns := by
  obtain ⟨hx, hb, hml, hown, hts, ⟨hK, hNw, hAO1, hAO2⟩, ⟨hfr, hlo⟩, hnm, hbs⟩ := hC
  rcases hcd : cd[i]? with _ | ⟨pc, ins, len, tg, ct, cl⟩
  · unfold wn_stp at hq
    rw [hcd] at hq
    cases hq
  obtain ⟨hdec, hlen, hlnk, hnx⟩ := hg i pc ins len tg ct cl hcd
  have hpc : wc_pc cd i = pc := by unfold wc_pc; rw [hcd]
  intro H locs ls hH hS hl
  rw [hpc]
  have lg : ∀ {n : Nat} {v : wc_V}, L[n]? = some (some v) → ls[n]? = some (.val (wc_cv (wn_ad b tt) v)) := fun {n v} hv => hl.2.2.2 n v hv
  have hA : ∀ j, wn_A b (b + j) := fun j => Nat.le_add_right _ _
  have hSn : ∀ {H1 : Heap}, H1.size = H.size + 1 → (∀ q : Nat, q < H.size → H1[q]? = H[q]?) → va_S (wn_A b) s.heap H1 locs := fun {H1} z1 o1 => ⟨Nat.le_trans hS.1 (by omega), fun x h1 h2 => (o1 x (Nat.lt_of_lt_of_le h1 hS.1)).trans (hS.2.1 x h1 h2), hS.2.2⟩
  have hK1 := hK.2 0 _ rfl
  have hK2 := hK.2 1 _ rfl
  have hK3 := hK.2 2 _ rfl
  have hK4 := hK.2 3 _ rfl
  unfold wn_stp at hq
  rw [hcd] at hq
  cases ins
  case iconst n =>
    cases hq
    have hn : wc_pc cd (i + 1) = pc + 1 := by rw [hlen] at hnx; exact Nat.eq_of_beq_eq_true hnx
    rw [hlen] at hdec
    have k := k H locs ls hH hS hl
    rw [hn] at k
    exact lv_iconst hx hb hdec (of_decide_eq_true hlnk) k
  case bipush n =>
    cases hq
    have hn : wc_pc cd (i + 1) = pc + 2 := by rw [hlen] at hnx; exact Nat.eq_of_beq_eq_true hnx
    rw [hlen] at hdec
    have k := k H locs ls hH hS hl
    rw [hn] at k
    exact lv_bipush hx hb hdec (of_decide_eq_true hlnk) k
  case sipush n =>
    cases hq
    have hn : wc_pc cd (i + 1) = pc + 3 := by rw [hlen] at hnx; exact Nat.eq_of_beq_eq_true hnx
    rw [hlen] at hdec
    have k := k H locs ls hH hS hl
    rw [hn] at k
    exact lv_sipush hx hb hdec (of_decide_eq_true hlnk) k
  case iload_n n =>
    dsimp only at hq
    split at hq
    · rename_i v hv
      cases hq
      have hn : wc_pc cd (i + 1) = pc + 1 := by rw [hlen] at hnx; exact Nat.eq_of_beq_eq_true hnx
      rw [hlen] at hdec
      have k := k H locs ls hH hS hl
      rw [hn] at k
      exact lv_iload_n hx hb hdec rfl (lg hv) k
    · cases hq
  case aload_n n =>
    dsimp only at hq
    split at hq
    · rename_i v hv
      cases hq
      have hn : wc_pc cd (i + 1) = pc + 1 := by rw [hlen] at hnx; exact Nat.eq_of_beq_eq_true hnx
      rw [hlen] at hdec
      have k := k H locs ls hH hS hl
      rw [hn] at k
      exact lv_aload_n hx hb hdec rfl (lg hv) k
    · cases hq
  case istore_n n =>
    dsimp only at hq
    split at hq
    · rename_i v r
      split at hq
      · rename_i hc
        simp only [Bool.and_eq_true] at hc
        obtain ⟨hno, hlt⟩ := hc
        cases hq
        have hn : wc_pc cd (i + 1) = pc + 1 := by rw [hlen] at hnx; exact Nat.eq_of_beq_eq_true hnx
        rw [hlen] at hdec
        exact lv_istore_n hx hb hdec rfl (wc_lv_has hl) (by rw [← hl.2.2.1]; exact Nat.blt_eq.mp hlt) rfl (fun ls1 h1 => by
          have k := k H locs ls1 hH hS (wc_lv_set (v := .inl v) hl.2.2.1 hno h1)
          rw [hn] at k
          exact k)
      · cases hq
    · cases hq
  case astore_n n =>
    dsimp only at hq
    split at hq
    · rename_i v r
      split at hq
      · rename_i hc
        simp only [Bool.and_eq_true] at hc
        obtain ⟨hno, hlt⟩ := hc
        cases hq
        have hn : wc_pc cd (i + 1) = pc + 1 := by rw [hlen] at hnx; exact Nat.eq_of_beq_eq_true hnx
        rw [hlen] at hdec
        exact lv_astore_n hx hb hdec rfl (wc_lv_has hl) (by rw [← hl.2.2.1]; exact Nat.blt_eq.mp hlt) rfl (fun ls1 h1 => by
          have k := k H locs ls1 hH hS (wc_lv_set (v := .inr (.inl v)) hl.2.2.1 hno h1)
          rw [hn] at k
          exact k)
      · cases hq
    · cases hq
  case iinc n q =>
    dsimp only at hq
    split at hq
    · rename_i v hv
      split at hq
      · rename_i hno
        cases hq
        have hn : wc_pc cd (i + 1) = pc + 3 := by rw [hlen] at hnx; exact Nat.eq_of_beq_eq_true hnx
        rw [hlen] at hdec
        obtain ⟨k0, hk0⟩ := List.getElem?_of_mem (wc_lp_in (ad := wn_ad b tt) (L := L) (q := (n, .int v)) |>.mpr ⟨.inl v, hv, rfl⟩)
        exact lv_iinc (v := v + ct) hx hb hdec (wc_lv_has hl) (k := k0) hk0 (by rw [of_decide_eq_true hlnk]) (by rw [← hl.2.2.1]; exact (List.getElem?_eq_some_iff.mp hv).1) rfl (fun ls1 h1 => by
          have k := k H locs ls1 hH hS (wc_lv_set (v := .inl (v + ct)) hl.2.2.1 hno h1)
          rw [hn] at k
          exact k)
      · cases hq
    · cases hq
  case dup =>
    dsimp only at hq
    split at hq
    · cases hq
      have hn : wc_pc cd (i + 1) = pc + 1 := by rw [hlen] at hnx; exact Nat.eq_of_beq_eq_true hnx
      rw [hlen] at hdec
      have k := k H locs ls hH hS hl
      rw [hn] at k
      exact lv_dup hx hb hdec rfl k
    · cases hq
  case goto n =>
    dsimp only at hq
    split at hq
    · rename_i t
      cases hq
      rw [hlen] at hdec
      have k := k H locs ls hH hS hl
      exact lv_goto hx hb hdec (of_decide_eq_true hnx) k
    · cases hq
  case if_icmp cnd n =>
    cases cnd
    case ge =>
      dsimp only at hq
      split at hq
      · rename_i t y x r
        cases hq
        have hnx2 := (Bool.and_eq_true _ _).mp hnx
        have ht := of_decide_eq_true hnx2.1
        have hn := Nat.eq_of_beq_eq_true hnx2.2
        rw [hlen] at hdec
        have k := k H locs ls hH hS hl
        refine lv_icmp_ge hx hb hdec ht (fun z => ?_) (fun z => ?_)
        · rw [if_pos z] at k
          exact k
        · rw [if_neg z, hn] at k
          exact k
      · cases hq
    all_goals cases hq
  case new n =>
    dsimp only at hq
    split at hq
    · rename_i c1
      split at hq
      · rename_i h8
        have h8 := Nat.blt_eq.mp h8
        cases hq
        have hn : wc_pc cd (i + 1) = pc + 3 := by rw [hlen] at hnx; exact Nat.eq_of_beq_eq_true hnx
        rw [hlen] at hdec
        have hKn := hK.1 c1 _ (wc_cls_at h8)
        refine W.newcK hx hb hown (hts _ (wn_cl_ok _ (of_decide_eq_true hlnk))) (hts _ (wn_it_ok h8)) (hts _ (wc_in_ok h8)) rfl hdec (by omega) (by omega) hKn.2.1 hH.1 (fun H1 kC hkC e1 z1 o1 => ?_)
        have hP1 : va_at D wc_cls (b + h.length, wn_cc b cA (.inl (c1, (List.range (wc_nf c1)).map (wn_dv c1)))) H1 := by
          refine ⟨_, wc_cls_at h8, (u_born (wc_ty c1) hts (wc_lay_ok h8) hKn hkC e1 (wc_ty_ok c1 h8)).to (fun j hj => ?_)⟩
          show defaultValue (wc_ty c1 j) = vp_V (((List.range (wc_nf c1)).map (wn_dv c1)).map (wn_cv b)) j
          unfold vp_V
          rw [List.getD_eq_getElem?_getD, List.getElem?_map, List.getElem?_map, List.getElem?_range hj]
          show _ = wn_cv b (wn_dv c1 j)
          rw [wn_dvb]
          exact wn_dv0 c1 h8 j hj
        have k := k H1 locs ls (wn_H_push hH hP1 (by rw [z1, hH.1]) (by rw [hH.1]; exact o1)) (hSn (by rw [z1, hH.1]) (by rw [hH.1]; exact o1)) hl
        rw [hn] at k
        exact k
      · cases hq
    · cases hq
  case newarray ty =>
    dsimp only at hq
    split at hq
    · rename_i n r
      split at hq
      · rename_i hc
        simp only [Bool.and_eq_true, decide_eq_true_eq] at hc
        have h4 := Nat.ble_eq.mp hc.2
        cases hq
        have hn : wc_pc cd (i + 1) = pc + 2 := by rw [hlen] at hnx; exact Nat.eq_of_beq_eq_true hnx
        rw [hlen] at hdec
        refine va_newaK (atype := .int) hx hb (hts _ (wc_tl (wn_ac (by simp [newarray.typeOf])) rfl)) rfl hdec rfl hc.1 rfl (by show n.toNatClampNeg * componentBytes .int ≤ 536870912; simp only [componentBytes]; omega) (by omega) (by omega) hH.1 (fun H1 cA1 e1 z1 o1 hAr hNm => ?_)
        have hcA : cA1 = cA 0 := by
          have h9 := hK1.2
          exact Option.some.inj (hNm.symm.trans h9)
        subst hcA
        have k := k H1 locs ls (wn_H_push hH e1 (by rw [z1, hH.1]) (by rw [hH.1]; exact o1)) (hSn (by rw [z1, hH.1]) (by rw [hH.1]; exact o1)) hl
        rw [hn] at k
        exact k
      · cases hq
    · rename_i n r
      split at hq
      · rename_i hc
        simp only [Bool.and_eq_true, decide_eq_true_eq] at hc
        have h4 := Nat.ble_eq.mp hc.2
        cases hq
        have hn : wc_pc cd (i + 1) = pc + 2 := by rw [hlen] at hnx; exact Nat.eq_of_beq_eq_true hnx
        rw [hlen] at hdec
        refine va_newaK (atype := .boolean) hx hb (hts _ (wc_tl (wn_ac (by simp [newarray.typeOf])) rfl)) rfl hdec rfl hc.1 rfl (by show n.toNatClampNeg * componentBytes .boolean ≤ 536870912; simp only [componentBytes]; omega) (by omega) (by omega) hH.1 (fun H1 cA1 e1 z1 o1 hAr hNm => ?_)
        have hcA : cA1 = cA 1 := by
          have h9 := hK2.2
          exact Option.some.inj (hNm.symm.trans h9)
        subst hcA
        have k := k H1 locs ls (wn_H_push hH e1 (by rw [z1, hH.1]) (by rw [hH.1]; exact o1)) (hSn (by rw [z1, hH.1]) (by rw [hH.1]; exact o1)) hl
        rw [hn] at k
        exact k
      · cases hq
    · cases hq
  case anewarray idx =>
    dsimp only at hq
    split at hq
    · rename_i n r
      split at hq
      · rename_i hc
        simp only [Bool.and_eq_true, decide_eq_true_eq] at hc
        have h4 := Nat.ble_eq.mp hc.2
        cases hq
        have hn : wc_pc cd (i + 1) = pc + 3 := by rw [hlen] at hnx; exact Nat.eq_of_beq_eq_true hnx
        rw [hlen] at hdec
        have hlk : (o, idx, 1) ∈ wn_cl := by
          unfold wn_lnk at hlnk
          simpa using hlnk
        refine W.anew (C := "WindCarver$Row") hx hb hown (hts _ (wn_cl_ok _ hlk)) (va_AO.use hAO1) rfl hdec rfl hc.1 (by omega) (by omega) (by omega) (fun cA1 kA comp f1 f2 f3 f4 => ?_)
        obtain ⟨kA2, comp2, g1, g2, g3, g4⟩ := hK3.2
        have hcA : cA1 = cA 2 := Option.some.inj (f1.symm.trans g4)
        subst hcA
        generalize hH1 : H.push ({ cls := cA 2, slots := Array.replicate n.toNatClampNeg .null, vm := .none } : Cell) = H1
        have z1 : H1.size = H.size + 1 := by rw [← hH1, Array.size_push]
        have e1 : H1[b + h.length]? = some (arrV (cA 2) n.toNatClampNeg (fun _ => .null)) := by rw [← hH.1, ← hH1, Array.getElem?_push_size, ← arrV_new]
        have o1 : ∀ q : Nat, q < H.size → H1[q]? = H[q]? := fun q hq => by rw [← hH1, Array.getElem?_push, if_neg (Nat.ne_of_lt hq)]
        have hP1 : va_at D wc_cls (b + h.length, wn_cc b cA (.inr (2, n.toNatClampNeg, .inr (fun _ => none)))) H1 := by
          show H1[b + h.length]? = some (vp_cell _ _)
          rw [e1]
          rfl
        have k := k H1 locs ls (wn_H_push hH hP1 z1 o1) (hSn z1 o1) hl
        rw [hn] at k
        rw [hH.1]
        exact k
      · cases hq
    · rename_i n r
      split at hq
      · rename_i hc
        simp only [Bool.and_eq_true, decide_eq_true_eq] at hc
        have h4 := Nat.ble_eq.mp hc.2
        cases hq
        have hn : wc_pc cd (i + 1) = pc + 3 := by rw [hlen] at hnx; exact Nat.eq_of_beq_eq_true hnx
        rw [hlen] at hdec
        have hlk : (o, idx, 3) ∈ wn_cl := by
          unfold wn_lnk at hlnk
          simpa using hlnk
        refine W.anew (C := "WindCarver$Pass") hx hb hown (hts _ (wn_cl_ok _ hlk)) (va_AO.use hAO2) rfl hdec rfl hc.1 (by omega) (by omega) (by omega) (fun cA1 kA comp f1 f2 f3 f4 => ?_)
        obtain ⟨kA2, comp2, g1, g2, g3, g4⟩ := hK4.2
        have hcA : cA1 = cA 3 := Option.some.inj (f1.symm.trans g4)
        subst hcA
        generalize hH1 : H.push ({ cls := cA 3, slots := Array.replicate n.toNatClampNeg .null, vm := .none } : Cell) = H1
        have z1 : H1.size = H.size + 1 := by rw [← hH1, Array.size_push]
        have e1 : H1[b + h.length]? = some (arrV (cA 3) n.toNatClampNeg (fun _ => .null)) := by rw [← hH.1, ← hH1, Array.getElem?_push_size, ← arrV_new]
        have o1 : ∀ q : Nat, q < H.size → H1[q]? = H[q]? := fun q hq => by rw [← hH1, Array.getElem?_push, if_neg (Nat.ne_of_lt hq)]
        have hP1 : va_at D wc_cls (b + h.length, wn_cc b cA (.inr (3, n.toNatClampNeg, .inr (fun _ => none)))) H1 := by
          show H1[b + h.length]? = some (vp_cell _ _)
          rw [e1]
          rfl
        have k := k H1 locs ls (wn_H_push hH hP1 z1 o1) (hSn z1 o1) hl
        rw [hn] at k
        rw [hH.1]
        exact k
      · cases hq
    · cases hq
  case getfield n =>
    dsimp only at hq
    split at hq
    · rename_i c1 s1 j1 r
      split at hq
      · rename_i c2 vs hj
        split at hq
        · rename_i hc
          simp only [Bool.and_eq_true] at hc
          have hcc := Nat.eq_of_beq_eq_true hc.1.1
          subst hcc
          have hlt := Nat.blt_eq.mp hc.1.2
          have h8 := Nat.blt_eq.mp hc.2
          have hn : wc_pc cd (i + 1) = pc + 3 := by rw [hlen] at hnx; exact Nat.eq_of_beq_eq_true hnx
          rw [hlen] at hdec
          have hP1 : va_P D wc_cls [(b + j1, .inr (c1, vs.map (wn_cv b)))] H := fun q x hx => by
            have hz : q < 1 := (List.getElem?_eq_some_iff.mp hx).1
            rw [show q = 0 by omega] at hx
            cases hx
            exact hH.2 j1 _ hj
          have hlk : Jvm.Cond.fieldLink (wc_cn o) n (wc_cn c1) (wc_F c1 s1).2.1 (wc_F c1 s1).2.2.1 ∈ wc_tw := wc_fl_ok _ (of_decide_eq_true hlnk)
          have go : ∀ (v : wn_V) (w : Value), vs[s1]? = some v → wn_cv b v = w → W p l e R s m args below meth c H locs nc ns Q (F0 m (pc + 3) ls (w :: r.map (wc_cv (wn_ad b tt)))) → W p l e R s m args below meth c H locs nc ns Q (F0 m pc ls (.ref (b + j1) :: r.map (wc_cv (wn_ad b tt)))) := fun v w hv hw kk =>
            va_get (D := D) (ci := c1) (v := w) (C := wc_cn c1) (T := wc_F c1) (N := wc_nf c1) hx hb hts (wc_lay_ok h8) hown hK hP1 0 rfl (wc_cls_at h8) s1 hlt (hts _ hlk) (fun _ h9 => by rw [wc_F1 c1 h8 s1 hlt] at h9; exact h9) (by rw [List.getElem?_map, hv]; show some (wn_cv b v) = some w; rw [hw]) hdec kk
          split at hq
          · rename_i v hv
            cases hq
            have k := k H locs ls hH hS hl
            rw [hn] at k
            exact go _ _ hv rfl k
          · rename_i q1 hv
            cases hq
            have k := k H locs ls hH hS hl
            rw [hn] at k
            exact go _ _ hv rfl k
          · cases hq
        · cases hq
      · cases hq
    · cases hq
  case putfield n =>
    dsimp only at hq
    split at hq
    · rename_i c1 s1 v j1 r
      split at hq
      · rename_i c2 vs hj
        split at hq
        · rename_i hc
          simp only [Bool.and_eq_true] at hc
          have hcc := Nat.eq_of_beq_eq_true hc.1.1.1.1
          subst hcc
          have hlt := Nat.blt_eq.mp hc.1.1.1.2
          have h8 := Nat.blt_eq.mp hc.1.1.2
          have hoc := Nat.eq_of_beq_eq_true hc.1.2
          subst hoc
          have hvl := Nat.blt_eq.mp hc.2
          have hn : wc_pc cd (i + 1) = pc + 3 := by rw [hlen] at hnx; exact Nat.eq_of_beq_eq_true hnx
          rw [hlen] at hdec
          have hlk : Jvm.Cond.fieldLink (wc_cn o) n (wc_cn o) (wc_F o s1).2.1 (wc_F o s1).2.2.1 ∈ wc_tw := wc_fl_ok _ (of_decide_eq_true hlnk)
          split at hq
          · rename_i x hfx
            cases hq
            obtain ⟨hcv, hnar, hfit⟩ := wn_fit_ok (b := b) (tt := tt) hfx
            have hap := va_apart (own := wc_cn o) (D := D) (ci := o) hts (wc_lay_ok h8) (wc_ty o) (wc_ty_ok o h8) (wc_nm o h8) hK (wc_cls_at h8)
            obtain ⟨r0, h1, cell, q1, q2, q3, q4⟩ := hH.2 j1 _ hj
            have hr : r0 = (wc_cn o, wc_F o, wc_nf o) := Option.some.inj (h1.symm.trans (wc_cls_at h8))
            subst hr
            obtain ⟨hSl, hfc, kC, hkC, hkind⟩ := hK.1 o _ (wc_cls_at h8)
            obtain ⟨cf, kf, fi, f, hi, hsl⟩ := hSl s1 hlt
            have hlay := hts _ (wc_lay_ok h8 _ (u_in_lay hlt))
            have hst := (u_facts hfc hkC (u_lays hts (wc_lay_ok h8) hlt) hi).1
            have hsame : s.fieldFound? (wc_cn o) (wc_F o s1).2.1 (wc_F o s1).2.2.1 = some (cf, kf, fi, f) := by rw [wc_F1 o h8 s1 hlt] at hi; exact hi
            have fin : ∀ H1 : Heap, H1[b + j1]? = some (cell.setSlot f.slot (wc_cv (wn_ad b tt) v)) → H1.size = H.size → (∀ q, q ≠ b + j1 → H1[q]? = H[q]?) → W p l e R s m args below meth c H1 (locs ++ [⟨b + j1, f.slot⟩]) nc ns Q (F0 m (pc + 3) ls (st'.map (wc_cv (wn_ad b tt)))) := fun H1 e1 e2 e3 => by
              have k := k H1 (locs ++ [⟨b + j1, f.slot⟩]) ls (wn_H_set hH hj ?_ e2 e3) (hS.put e2 e3 (hA j1)) hl
              · rw [hn] at k
                exact k
              · refine ⟨_, wc_cls_at h8, t_OB.to (V := updV (vp_V (vs.map (wn_cv b))) s1 (wc_cv (wn_ad b tt) v)) ⟨_, e1, q2, q3, ?_⟩ (fun j _ => ?_)⟩
                · rw [hsl]
                  exact t_set q4 hap hlt _
                · rw [vp_updV_set (by simpa using hvl), ← hcv]
                  show vp_V _ j = vp_V ((vs.set s1 x).map (wn_cv b)) j
                  rw [List.map_set]
            unfold u_lay at hlay
            split at hlay
            · rename_i hfi
              have hcf : m.cls = cf := by
                obtain ⟨_, _, c', _, _, _, -, -, hf', -, -, -, hown2, -⟩ := Cond.laysFinal_spec hlay
                have e1 : c' = cf := by have := hi.symm.trans hf'; simp at this; exact this.1.symm
                rw [wc_F1 o h8 s1 hlt] at hown2
                rw [← e1]; exact Option.some.inj (hown.symm.trans hown2)
              have h6 := u_fits hfc hkC hkind (Or.inr hlay) hi (wc_ty_ok o h8 s1 hlt) hnar hfit
              exact W.putFinK hx hb hown (hts _ hlk) hsame hst hcf (hnm h8) (by rw [q2]; exact h6) q1 q3 (by rw [hsl]; exact k2_hasslot (q4 s1 hlt)) rfl rfl hdec fin
            · have h6 := u_store hfc hkC hkind hlay hi (wc_ty_ok o h8 s1 hlt) hnar hfit
              exact W.putK hx hb (f := f) ⟨hown, hts _ hlk, ⟨_, _, _, hsame⟩, hst⟩ (by rw [q2]; exact h6) q1 q3 (by rw [hsl]; exact k2_hasslot (q4 s1 hlt)) rfl rfl hdec fin
          · cases hq
        · cases hq
      · cases hq
    · cases hq
  case aastore =>
    dsimp only at hq
    split at hq
    · rename_i v k1 j1 r
      split at hq
      · rename_i t n g c1 vs hj hv
        split at hq
        · rename_i hc
          simp only [Bool.and_eq_true, Bool.or_eq_true] at hc
          obtain ⟨htc, hib⟩ := hc
          have hin := wib_in hib
          cases hq
          have hn : wc_pc cd (i + 1) = pc + 1 := by rw [hlen] at hnx; exact Nat.eq_of_beq_eq_true hnx
          rw [hlen] at hdec
          have h0 : ¬ k1 < 0 := fun z => hin (Or.inl z)
          have hlt : k1.toNatClampNeg < n := Nat.not_le.mp fun z => hin (Or.inr z)
          have harr : ∃ (C : String) (kA : Class) (comp : ClassId), s.vm.classes[cA t]? = some kA ∧ kA.kind = .array comp (.object C) ∧ s.vm.findClass C = some comp ∧ C = wc_cn c1 ∧ c1 < 8 := by
            rcases htc with ⟨h1, h2⟩ | ⟨h1, h2⟩
            · have h1 := Nat.eq_of_beq_eq_true h1
              have h2 := Nat.eq_of_beq_eq_true h2
              subst h1
              subst h2
              obtain ⟨kA, comp, g1, g2, g3, -⟩ := hK3.2
              exact ⟨_, kA, comp, g1, g2, g3, rfl, by decide⟩
            · have h1 := Nat.eq_of_beq_eq_true h1
              have h2 := Nat.eq_of_beq_eq_true h2
              subst h1
              subst h2
              obtain ⟨kA, comp, g1, g2, g3, -⟩ := hK4.2
              exact ⟨_, kA, comp, g1, g2, g3, rfl, by decide⟩
          obtain ⟨C, kA, comp, m1, m2, m3, m4, h8⟩ := harr
          have hcl := (hK.1 c1 _ (wc_cls_at h8)).2
          have hcomp : comp = D.1 c1 := by rw [m4] at m3; exact Option.some.inj (m3.symm.trans hcl.1)
          subst hcomp
          obtain ⟨kC, hkC, -⟩ := hcl.2
          obtain ⟨r1, hr1, cellV, g1, g2, g3, -⟩ := hH.2 v _ hv
          have hcell : H[b + j1]? = some (vp_cell (cA t) (n, .inr (.inr (.inr (.inr (fun s => (g s).map (fun i => b + i))))))) := hH.2 j1 _ hj
          refine W.aast hx hb hcell (fun q h => by cases h) (fun h => by cases h) m1 m2 rfl hkC ⟨h0, by show _ < (arrV _ _ _).slots.size; rw [arrV_size]; exact hlt⟩ g1 (fun q h => by rw [g3] at h; cases h) (by rw [g2]; exact hkC) (by rw [g2]; exact va_assign hcl) rfl rfl hdec (fun H1 e z oq => ?_)
          have k := k H1 (locs ++ [⟨b + j1, k1.toNatClampNeg⟩]) ls (wn_H_set hH hj ?_ z oq) (hS.put z oq (hA j1)) hl
          · rw [hn] at k
            exact k
          · show H1[b + j1]? = some (vp_cell _ _)
            rw [e]
            rw [vp_cell_q, vp_cell_q, arrV_store]
            congr 2
            funext q
            by_cases hqq : q = k1.toNatClampNeg
            · subst hqq
              simp [updV, va_up, va_rf]
            · simp [updV, va_up, hqq]
        · cases hq
      · cases hq
    · cases hq
  case iastore =>
    dsimp only at hq
    split at hq
    · rename_i v k1 j1 r
      split at hq
      · rename_i n f hj
        split at hq
        · rename_i hib
          have hin := wib_in hib
          cases hq
          have hn : wc_pc cd (i + 1) = pc + 1 := by rw [hlen] at hnx; exact Nat.eq_of_beq_eq_true hnx
          rw [hlen] at hdec
          have hcell : H[b + j1]? = some (vp_cell (cA 0) (n, .inl f)) := hH.2 j1 _ hj
          refine W.iast hx hb hcell (hK1.1 n (fun j => .int (f j))) (fun q => by cases q) (by show ¬ (k1 < 0 ∨ (arrV _ _ _).slots.size ≤ _); rw [arrV_size]; exact hin) rfl rfl hdec (fun H1 e z oq => ?_)
          have k := k H1 (locs ++ [⟨b + j1, k1.toNatClampNeg⟩]) ls (wn_H_set hH hj ?_ z oq) (hS.put z oq (hA j1)) hl
          · rw [hn] at k
            exact k
          · show H1[b + j1]? = some (vp_cell _ _)
            rw [e]
            rw [vp_cell_i, vp_cell_i, arrV_store]
            congr 2
            funext q
            by_cases hqq : q = k1.toNatClampNeg
            · subst hqq
              simp [updV, upd]
            · simp [updV, upd, hqq]
        · cases hq
      · cases hq
    · cases hq
  all_goals cases hq
end WNS
