/-! ONE STEP of the engine is one step of the machine -/
def wc_len (ins : Instr) (n : Nat) : Nat := match ins with
  | .bipush _ | .ldc _ | .iload _ | .aload _ | .lload _ | .istore _ | .astore _ | .newarray _ => 2
  | .sipush _ | .ldc_w _ | .ldc2_w _ | .iinc _ _ | .goto _ | .if_icmp _ _ | .ifCond _ _ | .getfield _ | .putfield _ | .getstatic _ | .invokestatic _ | .invokevirtual _ | .invokespecial _ | .new _ | .anewarray _ => 3
  | .tableswitch _ _ _ _ | .lookupswitch _ _ => n
  | _ => 1
def wc_pc (cd : List wc_E) (i : Nat) : Nat := match cd[i]? with
  | some q => q.1
  | none => 0
def wc_nt : List (Nat × Nat × Nat) := [(0, 102, 200), (3, 35, 200), (0, 275, 201), (5, 29, 202)]
def wc_ny (t : Nat) : MethodName := if Nat.beq t 200 then arraycopyName else if Nat.beq t 201 then Lib.Math.max.name else Lib.Math.min.name
theorem wc_nt_ok : ∀ q ∈ wc_nt, Jvm.Cond.methodLink (wc_cn q.1) q.2.1 (wc_ny q.2.2) ∈ wc_tw := by
  have h : [252, 328, 499, 355].map (fun i => tables_1[i]?) = (wc_nt.map (fun q => Jvm.Cond.methodLink (wc_cn q.1) q.2.1 (wc_ny q.2.2))).map some := by decide +kernel
  exact fun q hq => wc_tb (wc_pl _ h _ (List.mem_map_of_mem hq)) rfl
theorem wc_nat0 : [500, 356, 10, 9, 253, 254, 501, 357].map (fun i => tables_1[i]?) = [Jvm.Cond.static Lib.Math.max.name, .static Lib.Math.min.name, .initialized "java/lang/Math", .initialized "java/lang/System", .static arraycopyName, .native arraycopyName, .code Lib.Math.max.name Lib.Math.max.code 2 (some .int), .code Lib.Math.min.name Lib.Math.min.code 2 (some .int)].map some := by decide +kernel
theorem wc_nat {w : Jvm.Cond} (i : Nat) (h : [Jvm.Cond.static Lib.Math.max.name, .static Lib.Math.min.name, .initialized "java/lang/Math", .initialized "java/lang/System", .static arraycopyName, .native arraycopyName, .code Lib.Math.max.name Lib.Math.max.code 2 (some .int), .code Lib.Math.min.name Lib.Math.min.code 2 (some .int)][i]? = some w) (g : goodWord w = true) : w ∈ wc_tw := wc_tb (wc_pl _ wc_nat0 _ (List.mem_of_getElem? h)) g
def wc_lnk (o : Nat) (ins : Instr) (tg : List Nat) (ct : Int32) (cl : Int64) : Bool := match ins, tg with
  | .iconst n, _ => decide (Int32.ofInt n = ct)
  | .bipush n, _ => decide ((Int8.ofInt n).toInt32 = ct)
  | .sipush n, _ => decide ((Int16.ofInt n).toInt32 = ct)
  | .ldc i, _ => decide ((o, i, ct) ∈ wc_ld)
  | .ldc_w i, _ => decide ((o, i, ct) ∈ wc_ld)
  | .lconst n, _ => decide (Int64.ofNat (n : Nat) = cl)
  | .ldc2_w i, _ => decide ((o, i, cl) ∈ wc_le)
  | .iinc _ n, _ => decide (Int32.ofInt n = ct)
  | .getfield i, [c, s] => decide ((o, i, c, s) ∈ wc_fl)
  | .putfield i, [c, s] => decide ((o, i, c, s) ∈ wc_fl)
  | .getstatic i, [k] => decide ((o, i, k) ∈ wc_gs) && Nat.ble 35 k && Nat.blt k 36
  | .invokestatic i, [y] => if Nat.blt y 157 then decide ((o, i, y) ∈ wc_ml) && Nat.beq o (wc_m y).1 else decide ((o, i, y) ∈ wc_nt)
  | .invokevirtual i, [y] => decide ((o, i, y) ∈ wc_ml)
  | .tableswitch _ lo hi offs, _ :: ts => decide (ct.toInt = lo) && decide (hi + 1 = lo + (ts.length : Int)) && decide (ts.length = offs.size) && decide (0 ≤ lo) && decide (hi < 1000)
  | .lookupswitch _ ps, _ :: ts => (ps.toList.zip (ps.toList.drop 1)).all (fun (a, next) => a.1 < next.1) && decide (ts.length = ps.toList.length) && ps.toList.all (fun q => decide ((Int32.ofInt q.1).toInt = q.1))
  | _, _ => true
def wc_nxt (cd : List wc_E) (i pc : Nat) (ins : Instr) (len : Nat) (tg : List Nat) : Bool := match ins, tg with
  | .goto off, [t] => decide ((pc : Int) + off = (wc_pc cd t : Int))
  | .ifCond _ off, [t] => decide ((pc : Int) + off = (wc_pc cd t : Int)) && Nat.beq (wc_pc cd (i + 1)) (pc + 3)
  | .if_icmp _ off, [t] => decide ((pc : Int) + off = (wc_pc cd t : Int)) && Nat.beq (wc_pc cd (i + 1)) (pc + 3)
  | .tableswitch d _ _ offs, t :: ts => decide ((pc : Int) + d = (wc_pc cd t : Int)) && (offs.toList.zip ts).all (fun q => decide ((pc : Int) + q.1 = (wc_pc cd q.2 : Int)))
  | .lookupswitch d ps, t :: ts => decide ((pc : Int) + d = (wc_pc cd t : Int)) && (ps.toList.zip ts).all (fun q => decide ((pc : Int) + q.1.2 = (wc_pc cd q.2 : Int)))
  | .ireturn, _ => true
  | .return_, _ => true
  | _, _ => Nat.beq (wc_pc cd (i + 1)) (pc + len)
def wc_good (o : Nat) (bytes : ByteArray) (cd : List wc_E) : Prop := ∀ (i pc : Nat) (ins : Instr) (len : Nat) (tg : List Nat) (ct : Int32) (cl : Int64), cd[i]? = some (pc, ins, len, tg, ct, cl) →
  decode bytes pc = .ok (ins, len) ∧ len = wc_len ins len ∧ wc_lnk o ins tg ct cl = true ∧ wc_nxt cd i pc ins len tg = true
def wc_chk (o : Nat) (bytes : ByteArray) (cd : List wc_E) : Bool := cd.zipIdx.all (fun q => decide (decode bytes q.1.1 = .ok (q.1.2.1, q.1.2.2.1)) && decide (q.1.2.2.1 = wc_len q.1.2.1 q.1.2.2.1) && wc_lnk o q.1.2.1 q.1.2.2.2.1 q.1.2.2.2.2.1 q.1.2.2.2.2.2 && wc_nxt cd q.2 q.1.1 q.1.2.1 q.1.2.2.1 q.1.2.2.2.1)
theorem wc_good_of {o : Nat} {bytes : ByteArray} {cd : List wc_E} (h : wc_chk o bytes cd = true) : wc_good o bytes cd := by
  intro i pc ins len tg ct cl hi
  have h1 := List.all_eq_true.mp h ((pc, ins, len, tg, ct, cl), i) (List.mem_zipIdx_iff_getElem?.mpr hi)
  simp only [Bool.and_eq_true, decide_eq_true_eq] at h1
  exact ⟨h1.1.1.1, h1.1.1.2, h1.1.2, h1.2⟩
theorem wc_F1 : ∀ c, c < 8 → ∀ k, k < wc_nf c → (wc_F c k).1 = wc_cn c := by decide +kernel
def wc_pf_t (k s : Nat) : Bool := match wc_sh k with
  | (0, c) => Nat.blt c 8 && (if Nat.blt s (wc_nf c) then (match ((wc_rfl[k]?).getD [])[s]? with
    | some (some _) => true
    | _ => !(wc_F c s).2.2.2 && decide ((wc_F c s).2.2.1 = (if wc_bo c s then "Z" else "I"))) else true)
  | _ => true
theorem wc_pf_ok : ∀ k, k < 35 → ∀ s, s < 28 → wc_pf_t k s = true := by decide +kernel
theorem wc_nf28 : ∀ c, c < 8 → wc_nf c ≤ 28 := by decide +kernel
theorem wc_sh0 : ∀ k, k < 35 → (wc_sh k).1 = 0 → (wc_sh k).2 < 8 := by decide +kernel
theorem wc_c8 {k c : Nat} (h : wc_sh k = (0, c)) : c < 8 := by
  have h1 := wc_sh0 k (wc_k35 h (by decide)) (by rw [h])
  rw [h] at h1
  exact h1
theorem wc_cls_at {c : Nat} (h : c < 8) : wc_cls[c]? = some (wc_cn c, wc_F c, wc_nf c) := by
  simp [wc_cls, List.getElem?_map, List.getElem?_range h]
theorem wc_pf_at {k c s j : Nat} (h : wc_sh k = (0, c)) (hs : s < wc_nf c) (hr : wc_rf k j s = none) : (wc_F c s).2.2.2 = false ∧ (wc_F c s).2.2.1 = (if wc_bo c s then "Z" else "I") := by
  have h8 := wc_c8 h
  have h1 := wc_pf_ok k (wc_k35 h (by decide)) s (Nat.lt_of_lt_of_le hs (wc_nf28 c h8))
  unfold wc_pf_t at h1
  unfold wc_rf at hr
  simp only [h] at h1 hr
  rw [if_pos (Nat.blt_eq.mpr hs)] at h1
  cases he : ((wc_rfl[k]?).getD [])[s]? with
  | none =>
    rw [he] at h1
    simp at h1
    exact ⟨h1.2.1, h1.2.2⟩
  | some z =>
    cases z with
    | none =>
      rw [he] at h1
      simp at h1
      exact ⟨h1.2.1, h1.2.2⟩
    | some z =>
      rw [he] at hr
      cases hr
/-- the world's entries -/
theorem wc_ent0 {ad : wc_A} {cA : Nat → ClassId} {M : wc_M} {k i c : Nat} (h : wc_sh k = (0, c)) : wc_ent ad cA M (k, i) = .inr (c, (List.range (wc_nf c)).map (fun s => wc_fld ad k i s M)) := by
  unfold wc_ent
  simp only [h]
theorem wc_ent1 {ad : wc_A} {cA : Nat → ClassId} {M : wc_M} {k i n : Nat} (h : wc_sh k = (1, n)) : wc_ent ad cA M (k, i) = .inl (cA 0, n, .inl (fun s => M k i s)) := by
  unfold wc_ent
  simp only [h]
theorem wc_ent2 {ad : wc_A} {cA : Nat → ClassId} {M : wc_M} {k i n : Nat} (h : wc_sh k = (2, n)) : wc_ent ad cA M (k, i) = .inl (cA 1, n, .inl (fun s => M k i s)) := by
  unfold wc_ent
  simp only [h]
theorem wc_ent3 {ad : wc_A} {cA : Nat → ClassId} {M : wc_M} {k i n : Nat} (h : wc_sh k = (3, n)) : wc_ent ad cA M (k, i) = .inl (cA 2, n, .inr (.inr (.inr (.inr (fun s => (wc_rf k i s).map (fun r => ad r.1 r.2)))))) := by
  unfold wc_ent
  simp only [h]
theorem wc_ent4 {ad : wc_A} {cA : Nat → ClassId} {M : wc_M} {k i n : Nat} (h : wc_sh k = (4, n)) : wc_ent ad cA M (k, i) = .inl (cA 3, n, .inr (.inr (.inr (.inr (fun s => (wc_rf k i s).map (fun r => ad r.1 r.2)))))) := by
  unfold wc_ent
  simp only [h]
theorem wc_off {ad : wc_A} {cA : Nat → ClassId} {M : wc_M} {k i s : Nat} {v : Int32} : ∀ q : Nat × Nat, q ≠ (k, i) → wc_ent ad cA (wc_up M k i s v) q = wc_ent ad cA M q := fun q hq => wc_ent_off (fun t => wc_up_off hq t)
/-- a field set, an element set -/
theorem wc_set0 {ad : wc_A} {cA : Nat → ClassId} {M : wc_M} {k i s c q0 : Nat} {v : Int32} (h0 : wc_wl[q0]? = some (k, i)) (h : wc_sh k = (0, c)) (hr : wc_rf k i s = none) :
    (wc_ws ad cA M).set q0 (ad k i, .inr (c, ((List.range (wc_nf c)).map (fun s => wc_fld ad k i s M)).set s (.int v))) = wc_ws ad cA (wc_up M k i s v) := by
  refine wc_plset h0 ?_ wc_off
  rw [wc_ent0 h]
  congr 2
  apply List.ext_getElem?
  intro j
  by_cases hj : j = s
  · subst hj
    by_cases hlt : j < wc_nf c
    · rw [List.getElem?_set_self (by simpa using hlt)]
      simp [List.getElem?_map, List.getElem?_range hlt, wc_fld, hr, wc_up]
    · rw [List.getElem?_eq_none (by simpa using hlt), List.getElem?_eq_none (by simpa using hlt)]
  · rw [List.getElem?_set_ne (Ne.symm hj)]
    simp only [List.getElem?_map]
    by_cases ht : j < wc_nf c
    · rw [List.getElem?_range ht]
      simp only [Option.map_some]
      congr 1
      unfold wc_fld wc_up
      simp [hj]
    · rw [List.getElem?_eq_none (by simpa using ht)]
      rfl
theorem wc_set1 {ad : wc_A} {cA : Nat → ClassId} {M : wc_M} {k i s n q0 : Nat} {v : Int32} (h0 : wc_wl[q0]? = some (k, i)) (h : wc_sh k = (1, n)) :
    (wc_ws ad cA M).set q0 (ad k i, .inl (cA 0, n, .inl (upd (fun s => M k i s) s v))) = wc_ws ad cA (wc_up M k i s v) := by
  refine wc_plset h0 ?_ wc_off
  rw [wc_ent1 h]
  congr 3
  refine congrArg Sum.inl (funext fun t => ?_)
  simp [wc_up, upd]
theorem wc_set2 {ad : wc_A} {cA : Nat → ClassId} {M : wc_M} {k i s n q0 : Nat} {v : Int32} (h0 : wc_wl[q0]? = some (k, i)) (h : wc_sh k = (2, n)) :
    (wc_ws ad cA M).set q0 (ad k i, .inl (cA 1, n, .inl (upd (fun s => M k i s) s v))) = wc_ws ad cA (wc_up M k i s v) := by
  refine wc_plset h0 ?_ wc_off
  rw [wc_ent2 h]
  congr 3
  refine congrArg Sum.inl (funext fun t => ?_)
  simp [wc_up, upd]
theorem wc_setc {ad : wc_A} {cA : Nat → ClassId} {M : wc_M} {k i k' i' sp dp n n1 q0 : Nat} (h0 : wc_wl[q0]? = some (k', i')) (h : wc_sh k' = (1, n1)) :
    (wc_ws ad cA M).set q0 (ad k' i', .inl (cA 0, n1, .inl (va_cpy (fun s => M k i s) (fun s => M k' i' s) sp dp n))) = wc_ws ad cA (wc_cp M k i k' i' sp dp n) := by
  refine wc_plset h0 ?_ (fun q hq => wc_ent_off (fun t => ?_))
  · rw [wc_ent1 h]
    congr 3
    refine congrArg Sum.inl (funext fun t => ?_)
    simp [wc_cp, va_cpy]
  · unfold wc_cp
    rw [if_neg]
    rintro ⟨h1, h2, -⟩
    exact hq (Prod.ext h1 h2)
