/-! THE ENGINE: a small machine over a memory of ints that stands for the class's, the reference's and the law's bytecode, and what one of its steps is -/
abbrev wc_V : Type := Int32 ⊕ ((Nat × Nat) ⊕ Int64)
abbrev wc_M : Type := Nat → Nat → Nat → Int32
abbrev wc_L : Type := List (Option wc_V)
/-- a row of code: where it stands, the instruction, its length, targets or links, the constant -/
abbrev wc_E : Type := Nat × Instr × Nat × List Nat × Int32 × Int64
def wc_up (M : wc_M) (k i s : Nat) (v : Int32) : wc_M := fun k' i' s' => if k' = k ∧ i' = i ∧ s' = s then v else M k' i' s'
def wc_cp (M : wc_M) (k i k' i' sp dp n : Nat) : wc_M := fun a b c => if a = k' ∧ b = i' ∧ dp ≤ c ∧ c < dp + n then M k i (sp + (c - dp)) else M a b c
/-- the cell that a field or an element refers to, if it isn't a number -/
def wc_rf (k i s : Nat) : Option (Nat × Nat) := match wc_sh k with
  | (0, _) => match ((wc_rfl[k]?).getD [])[s]? with
    | some (some (k', b, n)) => some (k', cond b i n)
    | _ => none
  | (3, _) => some (2, s)
  | (4, _) => some (6, (cond (Nat.beq k 17) 2 26) + s)
  | _ => none
def wc_bo (c s : Nat) : Bool := wc_bol.any (fun q => Nat.beq q.1 c && Nat.beq q.2 s)
def wc_st (k s : Nat) : Int32 := (((wc_stl[k - 35]?).getD [])[s]?).getD 0
def wc_noL (L : wc_L) : Bool := L.all (fun q => match q with | some (.inr (.inr _)) => false | _ => true)
def wc_rem (x y : Int32) : Int32 := x - x / y * y
/-- a step that no condition hinders -/
def wc_stp (xl : Nat) (cd : List wc_E) (i : Nat) (L : wc_L) (st : List wc_V) (M : wc_M) : Option (Nat × wc_L × List wc_V × wc_M) :=
  match cd[i]? with
  | none => none
  | some (_, ins, _, tg, ct, cl) => match ins with
    | .iconst _ => some (i + 1, L, .inl ct :: st, M)
    | .bipush _ => some (i + 1, L, .inl ct :: st, M)
    | .sipush _ => some (i + 1, L, .inl ct :: st, M)
    | .ldc _ => some (i + 1, L, .inl ct :: st, M)
    | .ldc_w _ => some (i + 1, L, .inl ct :: st, M)
    | .lconst _ => some (i + 1, L, .inr (.inr cl) :: st, M)
    | .ldc2_w _ => some (i + 1, L, .inr (.inr cl) :: st, M)
    | .iload_n n => match L[(n : Nat)]? with
      | some (some (.inl v)) => some (i + 1, L, .inl v :: st, M)
      | _ => none
    | .iload n => match L[n]? with
      | some (some (.inl v)) => some (i + 1, L, .inl v :: st, M)
      | _ => none
    | .aload_n n => match L[(n : Nat)]? with
      | some (some (.inr (.inl v))) => some (i + 1, L, .inr (.inl v) :: st, M)
      | _ => none
    | .aload n => match L[n]? with
      | some (some (.inr (.inl v))) => some (i + 1, L, .inr (.inl v) :: st, M)
      | _ => none
    | .lload_n n => match L[(n : Nat)]? with
      | some (some (.inr (.inr v))) => some (i + 1, L, .inr (.inr v) :: st, M)
      | _ => none
    | .lload n => match L[n]? with
      | some (some (.inr (.inr v))) => some (i + 1, L, .inr (.inr v) :: st, M)
      | _ => none
    | .istore_n n => match st with
      | .inl v :: r => if wc_noL L && Nat.blt (n : Nat) L.length then some (i + 1, L.set (n : Nat) (some (.inl v)), r, M) else none
      | _ => none
    | .istore n => match st with
      | .inl v :: r => if wc_noL L && Nat.blt n L.length then some (i + 1, L.set n (some (.inl v)), r, M) else none
      | _ => none
    | .astore_n n => match st with
      | .inr (.inl v) :: r => if wc_noL L && Nat.blt (n : Nat) L.length then some (i + 1, L.set (n : Nat) (some (.inr (.inl v))), r, M) else none
      | _ => none
    | .astore n => match st with
      | .inr (.inl v) :: r => if wc_noL L && Nat.blt n L.length then some (i + 1, L.set n (some (.inr (.inl v))), r, M) else none
      | _ => none
    | .iinc n _ => match L[n]? with
      | some (some (.inl v)) => if wc_noL L then some (i + 1, L.set n (some (.inl (v + ct))), st, M) else none
      | _ => none
    | .iadd => match st with
      | .inl y :: .inl x :: r => some (i + 1, L, .inl (x + y) :: r, M)
      | _ => none
    | .isub => match st with
      | .inl y :: .inl x :: r => some (i + 1, L, .inl (x - y) :: r, M)
      | _ => none
    | .imul => match st with
      | .inl y :: .inl x :: r => some (i + 1, L, .inl (x * y) :: r, M)
      | _ => none
    | .iand => match st with
      | .inl y :: .inl x :: r => some (i + 1, L, .inl (x &&& y) :: r, M)
      | _ => none
    | .ior => match st with
      | .inl y :: .inl x :: r => some (i + 1, L, .inl (x ||| y) :: r, M)
      | _ => none
    | .ishl => match st with
      | .inl y :: .inl x :: r => some (i + 1, L, .inl (x <<< (y &&& 31)) :: r, M)
      | _ => none
    | .ishr => match st with
      | .inl y :: .inl x :: r => some (i + 1, L, .inl (x >>> (y &&& 31)) :: r, M)
      | _ => none
    | .ineg => match st with
      | .inl x :: r => some (i + 1, L, .inl (-x) :: r, M)
      | _ => none
    | .i2l => match st with
      | .inl x :: r => some (i + 1, L, .inr (.inr x.toInt64) :: r, M)
      | _ => none
    | .i2b => match st with
      | .inl x :: r => some (i + 1, L, .inl x.toInt8.toInt32 :: r, M)
      | _ => none
    | .i2s => match st with
      | .inl x :: r => some (i + 1, L, .inl x.toInt16.toInt32 :: r, M)
      | _ => none
    | .lsub => match st with
      | .inr (.inr y) :: .inr (.inr x) :: r => some (i + 1, L, .inr (.inr (x - y)) :: r, M)
      | _ => none
    | .lcmp => match st with
      | .inr (.inr y) :: .inr (.inr x) :: r => some (i + 1, L, .inl (lg_cmp x y) :: r, M)
      | _ => none
    | .dup => match st with
      | .inl x :: r => some (i + 1, L, .inl x :: .inl x :: r, M)
      | .inr (.inl x) :: r => some (i + 1, L, .inr (.inl x) :: .inr (.inl x) :: r, M)
      | _ => none
    | .dup2 => match st with
      | .inl y :: .inr (.inl x) :: r => some (i + 1, L, .inl y :: .inr (.inl x) :: .inl y :: .inr (.inl x) :: r, M)
      | _ => none
    | .pop => match st with
      | .inl _ :: r => some (i + 1, L, r, M)
      | _ => none
    | .goto _ => match tg with
      | [t] => some (t, L, st, M)
      | _ => none
    | .getfield _ => match tg, st with
      | [c, s], .inr (.inl (k, j)) :: r => match wc_sh k with
        | (0, c') => if Nat.beq c c' && Nat.blt s (wc_nf c) then match wc_rf k j s with
            | some q => some (i + 1, L, .inr (.inl q) :: r, M)
            | none => some (i + 1, L, .inl (M k j s) :: r, M)
          else none
        | _ => none
      | _, _ => none
    | .putfield _ => match tg, st with
      | [c, s], .inl v :: .inr (.inl (k, j)) :: r => match wc_sh k with
        | (0, c') => if Nat.beq c c' && Nat.blt s (wc_nf c) && !(wc_bo c s) then match wc_rf k j s with
            | some _ => none
            | none => some (i + 1, L, r, wc_up M k j s v)
          else none
        | _ => none
      | _, _ => none
    | .getstatic _ => match tg with
      | [k] => some (i + 1, L, .inr (.inl (k, 0)) :: st, M)
      | _ => none
    | .arraylength => match st with
      | .inr (.inl (k, 0)) :: r => match wc_sh k with
        | (9, n) => some (i + 1, L, .inl (Int32.ofNat n) :: r, M)
        | (10, _) => if Nat.blt 0 xl then some (i + 1, L, .inl (Int32.ofNat (xl - 1)) :: r, M) else none
        | _ => none
      | _ => none
    | .invokestatic _ => match tg, st with
      | [t], .inl y :: .inl x :: r => if Nat.ble r.length 4 then (if Nat.beq t 201 then some (i + 1, L, .inl (if x < y then y else x) :: r, M) else if Nat.beq t 202 then some (i + 1, L, .inl (if y < x then y else x) :: r, M) else none) else none
      | _, _ => none
    | _ => none
/-- a branch: the condition, where to go if it holds, if not -/
def wc_brq (cd : List wc_E) (i : Nat) (st : List wc_V) : Option (Prop × Nat × Nat × List wc_V) :=
  match cd[i]? with
  | none => none
  | some (_, ins, _, tg, _, _) => match ins, tg, st with
    | .ifCond .eq _, [t], .inl x :: r => some (x = 0, t, i + 1, r)
    | .ifCond .ne _, [t], .inl x :: r => some (x = 0, i + 1, t, r)
    | .ifCond .lt _, [t], .inl x :: r => some (x < 0, t, i + 1, r)
    | .ifCond .ge _, [t], .inl x :: r => some (0 ≤ x, t, i + 1, r)
    | .ifCond .gt _, [t], .inl x :: r => some (0 < x, t, i + 1, r)
    | .ifCond .le _, [t], .inl x :: r => some (x ≤ 0, t, i + 1, r)
    | .if_icmp .eq _, [t], .inl y :: .inl x :: r => some (x = y, t, i + 1, r)
    | .if_icmp .ne _, [t], .inl y :: .inl x :: r => some (x = y, i + 1, t, r)
    | .if_icmp .lt _, [t], .inl y :: .inl x :: r => some (x < y, t, i + 1, r)
    | .if_icmp .ge _, [t], .inl y :: .inl x :: r => some (y ≤ x, t, i + 1, r)
    | .if_icmp .gt _, [t], .inl y :: .inl x :: r => some (y < x, t, i + 1, r)
    | .if_icmp .le _, [t], .inl y :: .inl x :: r => some (x ≤ y, t, i + 1, r)
    | _, _, _ => none
/-- a step under a condition -/
def wc_chq (X : Nat × (Nat → Int32)) (cd : List wc_E) (i : Nat) (st : List wc_V) (M : wc_M) : Option (Prop × List wc_V × wc_M) :=
  match cd[i]? with
  | none => none
  | some (_, ins, _, tg, _, _) => match ins with
    | .iaload => match st with
      | .inl a :: .inr (.inl (k, j)) :: r => match wc_sh k with
        | (1, n) => some (vp_in a n, .inl (M k j a.toNatClampNeg) :: r, M)
        | (9, n) => if Nat.beq j 0 then some (vp_in a n, .inl (wc_st k a.toNatClampNeg) :: r, M) else none
        | (10, _) => if Nat.beq j 0 then some (vp_in a (X.1 - 1), .inl (X.2 a.toNatClampNeg) :: r, M) else none
        | _ => none
      | _ => none
    | .baload => match st with
      | .inl a :: .inr (.inl (k, j)) :: r => match wc_sh k with
        | (2, n) => some (vp_in a n, .inl (M k j a.toNatClampNeg) :: r, M)
        | _ => none
      | _ => none
    | .aaload => match st with
      | .inl a :: .inr (.inl (k, j)) :: r => match wc_sh k with
        | (3, n) => match wc_rf k j a.toNatClampNeg with
          | some q => some (vp_in a n, .inr (.inl q) :: r, M)
          | none => none
        | (4, n) => match wc_rf k j a.toNatClampNeg with
          | some q => some (vp_in a n, .inr (.inl q) :: r, M)
          | none => none
        | _ => none
      | _ => none
    | .iastore => match st with
      | .inl v :: .inl a :: .inr (.inl (k, j)) :: r => match wc_sh k with
        | (1, n) => some (vp_in a n, r, wc_up M k j a.toNatClampNeg v)
        | _ => none
      | _ => none
    | .bastore => match st with
      | .inl v :: .inl a :: .inr (.inl (k, j)) :: r => match wc_sh k with
        | (2, n) => some (vp_in a n ∧ (v = 0 ∨ v = 1), r, wc_up M k j a.toNatClampNeg v)
        | _ => none
      | _ => none
    | .idiv => match st with
      | .inl y :: .inl x :: r => some (y ≠ 0, .inl (x / y) :: r, M)
      | _ => none
    | .irem => match st with
      | .inl y :: .inl x :: r => some (y ≠ 0, .inl (wc_rem x y) :: r, M)
      | _ => none
    | .putfield _ => match tg, st with
      | [c, s], .inl v :: .inr (.inl (k, j)) :: r => match wc_sh k with
        | (0, c') => if Nat.beq c c' && Nat.blt s (wc_nf c) && wc_bo c s then some (v = 0 ∨ v = 1, r, wc_up M k j s v) else none
        | _ => none
      | _, _ => none
    | .invokestatic _ => match tg, st with
      | [t], .inl n :: .inl dp :: .inr (.inl (k', j')) :: .inl sp :: .inr (.inl (k, j)) :: r => match wc_sh k, wc_sh k' with
        | (1, n0), (1, n1) => if Nat.beq t 200 && Nat.ble r.length 4 then some (¬ sp < 0 ∧ ¬ dp < 0 ∧ ¬ n < 0 ∧ sp.toNatClampNeg + n.toNatClampNeg ≤ n0 ∧ dp.toNatClampNeg + n.toNatClampNeg ≤ n1, r, wc_cp M k j k' j' sp.toNatClampNeg dp.toNatClampNeg n.toNatClampNeg) else none
        | _, _ => none
      | _, _ => none
    | _ => none
/-- a call: the method, the arguments, what stays on the stack -/
def wc_caq (cd : List wc_E) (i : Nat) (st : List wc_V) : Option (Nat × List wc_V × List wc_V) :=
  match cd[i]? with
  | none => none
  | some (_, ins, _, tg, _, _) => match ins, tg with
    | .invokestatic _, [y] => if Nat.blt y 157 && (wc_m y).2.1 && Nat.ble (wc_m y).2.2.2.2.2.2 st.length && Nat.ble (st.drop (wc_m y).2.2.2.2.2.2).length 4 then some (y, (st.take (wc_m y).2.2.2.2.2.2).reverse, st.drop (wc_m y).2.2.2.2.2.2) else none
    | .invokevirtual _, [y] => if Nat.blt y 157 && !(wc_m y).2.1 && Nat.ble ((wc_m y).2.2.2.2.2.2 + 1) st.length && Nat.ble (st.drop ((wc_m y).2.2.2.2.2.2 + 1)).length 4 then (match (st.take ((wc_m y).2.2.2.2.2.2 + 1)).reverse with
        | .inr (.inl (k, j)) :: as => match wc_sh k with
          | (0, c) => if Nat.beq c (wc_m y).1 then some (y, .inr (.inl (k, j)) :: as, st.drop ((wc_m y).2.2.2.2.2.2 + 1)) else none
          | _ => none
        | _ => none) else none
    | _, _ => none
/-- a switch: the number, cases and targets, the default's target -/
def wc_swq (cd : List wc_E) (i : Nat) (st : List wc_V) : Option (Int32 × List (Int32 × Nat) × Nat × List wc_V) :=
  match cd[i]? with
  | none => none
  | some (_, ins, _, tg, ct, _) => match ins, tg, st with
    | .tableswitch _ _ _ _, d :: ts, .inl x :: r => some (x, ts.zipIdx.map (fun q => (ct + Int32.ofNat q.2, q.1)), d, r)
    | .lookupswitch _ ps, d :: ts, .inl x :: r => some (x, (ps.toList.map (fun q => Int32.ofInt q.1)).zip ts, d, r)
    | _, _, _ => none
/-- a return -/
def wc_req (zr : Option FieldType) (cd : List wc_E) (i : Nat) (st : List wc_V) : Option (Prop × Option Int32) :=
  match cd[i]? with
  | none => none
  | some (_, ins, _, _, _, _) => match ins, zr, st with
    | .ireturn, some .int, [.inl v] => some (True, some v)
    | .ireturn, some .boolean, [.inl v] => some (v = 0 ∨ v = 1, some v)
    | .return_, none, [] => some (True, none)
    | _, _, _ => none
abbrev wc_S : Type := Nat → List wc_V → wc_M → Option Int32 → wc_M → Prop
def wc_pu (r : Option Int32) (st : List wc_V) : List wc_V := match r with
  | some v => .inl v :: st
  | none => st
/-- from here the method comes to its end, within n steps, with K of its answer and the memory; S says what the called methods do -/
def wc_G (S : wc_S) (X : Nat × (Nat → Int32)) (zr : Option FieldType) (cd : List wc_E) : Nat → Nat → wc_L → List wc_V → wc_M → (Option Int32 → wc_M → Prop) → Prop
  | 0, _, _, _, _, _ => False
  | n + 1, i, L, st, M, K =>
    (∃ i' L' st' M', wc_stp X.1 cd i L st M = some (i', L', st', M') ∧ wc_G S X zr cd n i' L' st' M' K) ∨
    (∃ c t f st', wc_brq cd i st = some (c, t, f, st') ∧ (c → wc_G S X zr cd n t L st' M K) ∧ (¬ c → wc_G S X zr cd n f L st' M K)) ∨
    (∃ P st' M', wc_chq X cd i st M = some (P, st', M') ∧ P ∧ wc_G S X zr cd n (i + 1) L st' M' K) ∨
    (∃ y as rest r M', wc_caq cd i st = some (y, as, rest) ∧ S y as M r M' ∧ wc_G S X zr cd n (i + 1) L (wc_pu r rest) M' K) ∨
    (∃ x cs d st', wc_swq cd i st = some (x, cs, d, st') ∧ (∀ q ∈ cs, x = q.1 → wc_G S X zr cd n q.2 L st' M K) ∧ ((∀ q ∈ cs, x ≠ q.1) → wc_G S X zr cd n d L st' M K)) ∨
    (∃ P r, wc_req zr cd i st = some (P, r) ∧ P ∧ K r M)
/-- the locals with which a method begins -/
def wc_en : List wc_V → wc_L
  | [] => []
  | .inr (.inr v) :: r => some (.inr (.inr v)) :: none :: wc_en r
  | v :: r => some v :: wc_en r
def wc_lay (as : List wc_V) (n : Nat) : wc_L := wc_en as ++ List.replicate (n - (wc_en as).length) none
