/-! THE CLAIM OUT OF ONE WALK OF THE LAW'S BODY. Your part is whole_start (and what it stands on); all else here is the same for every law, but numbers. -/
def R_law : String := "WindCarverLaw"
def lw_P (b : Addr) (xs : List Int32) (args : Array Value) (s : State) : Prop := args = #[.ref b] ∧ s.IntsAt b xs ∧ xs.length ≤ 384 ∧ (Jvm.Cond.and given_1 narrow_1).before args s = true
def lw_Q (_ : Array Value) (s : State) (o : Outcome) (t : State) : Prop := o = .returned (some (.int 1)) ∧ Framed s o t [] 600000 7302250
def lw_Z (below : List Frame) (a : Array Value) (s : State) : State → Prop := fun t => ∃ o, t.status = .running ∧ Ended t below o ∧ lw_Q a s o t
/-- the law's own end, with 1 on the stack, nothing written that was there before, its room as the claim has it -/
theorem lw_ret {p : Program} {l : Launch} {e : Env} {s : State} {m : MethodId} {below : List Frame} {meth : Method} {c : Code} {b : Nat} (hx : p.tables.exec = Jvm.exec) (hb : c.code = code) (hr : meth.sig.returnType = ret) (hlocks : meth.locks = false) {pc : Nat} {H : Heap} {ls : Array Slot} (hdg : decode code pc = .ok (.ireturn, 1)) : W p l e room_1 s m #[Value.ref b] below meth c H [] 600000 7302250 (lw_Z below #[Value.ref b] s) (F0 m pc ls [.int 1]) := by
  intro T hT X
  obtain ⟨fs, hret, hrun, hended, hW, hframe⟩ := X.leave (v := some (.int 1)) (hlocks := hlocks) (fun h => by rw [hr] at h; cases h)
  have hmeth' : T.vm.method? m = some meth := X.method'
  refine ⟨T.setFrames fs, ?_, .returned (some (.int 1)), hrun, hended, rfl, ⟨_, rfl⟩, hW, hframe⟩
  jvm_step X.here [X.here.top, hx, hb, hdg, hmeth', hr, ret, narrow_b1]
  (try refine ⟨rfl, ?_⟩); (try refine ⟨rfl, ?_⟩)
  first | (intro acts; rw [hret _ acts rfl rfl rfl]) | rw [hret _ _ rfl rfl rfl]
  exact Steps.refl _
/-- what holds at the law's entry: the machine, the code, the tables' words (any of lw_tbl by 'hts w (by decide +kernel)'), the script of L ints xs at the cell b, what the Statement gives of the start (any of its parts by flat_of_before) -/
def lw_At (p : Program) (s : State) (m : MethodId) (meth : Method) (c : Code) (b L : Nat) (xs : Nat → Int32) : Prop :=
  p.tables.exec = Jvm.exec ∧ c.code = code ∧ meth.sig.returnType = ret ∧ c.maxLocals = 4 ∧ s.vm.findClass R_law = some m.cls ∧ (∀ w ∈ lw_tbl, w.before #[Value.ref b] s = true) ∧ va_X b L xs s s.heap ∧ b < s.heap.size ∧ meth.locks = false ∧ (Jvm.Cond.and given_1 narrow_1).before #[Value.ref b] s = true

-- ===== OUR PART =====
theorem wk_law_l1 : wk_law.zipIdx.all (fun q => wc_lnk 8 q.1.2.1 q.1.2.2.2.1 q.1.2.2.2.2.1 q.1.2.2.2.2.2 && wc_nxt wk_law q.2 q.1.1 q.1.2.1 q.1.2.2.1 q.1.2.2.2.1 && wn_lnk 8 q.1.2.1 q.1.2.2.2.1 q.1.2.2.2.2.1) = true := by decide +kernel
theorem wk_law_good : wc_good 8 code wk_law ∧ wn_good 8 code wk_law := by
  have key : ∀ (i pc : Nat) (ins : Instr) (len : Nat) (tg : List Nat) (ct : Int32) (cl : Int64), wk_law[i]? = some (pc, ins, len, tg, ct, cl) → (decode code pc = .ok (ins, len) ∧ len = wc_len ins len) ∧ (wc_lnk 8 ins tg ct cl = true ∧ wc_nxt wk_law i pc ins len tg = true) ∧ wn_lnk 8 ins tg ct = true := by
    intro i pc ins len tg ct cl hi
    have h1 := wk_law_dec i pc ins len tg ct cl hi
    have h2 := List.all_eq_true.mp wk_law_l1 ((pc, ins, len, tg, ct, cl), i) (List.mem_zipIdx_iff_getElem?.mpr hi)
    simp only [Bool.and_eq_true] at h2
    exact ⟨h1, h2.1, h2.2⟩
  exact ⟨fun i pc ins len tg ct cl hi => have h := key i pc ins len tg ct cl hi; ⟨h.1.1, h.1.2, h.2.1.1, h.2.1.2⟩, fun i pc ins len tg ct cl hi => have h := key i pc ins len tg ct cl hi; ⟨h.1.1, h.1.2, h.2.2, h.2.1.2⟩⟩
theorem wk_sd1 : ∃ ns, ns ≤ 20000 ∧ wn_Sd 4 0 0 [.inl (0, (List.range (wc_nf 0)).map (wn_dv 0))] = some (wn_h1, 196, ns) := by
  have h := wn_t1_ok
  unfold wn_t1 at h
  unfold wn_h1
  split at h
  · rename_i hh nc ns he
    simp only [Bool.and_eq_true] at h
    have h2 := Nat.eq_of_beq_eq_true h.1.2
    subst h2
    exact ⟨ns, Nat.ble_eq.mp h.2, by rw [he]⟩
  · cases h
theorem wk_sd2 : ∃ ns, ns ≤ 20000 ∧ wn_Sd 4 7 197 (wn_h1 ++ [.inl (7, (List.range (wc_nf 7)).map (wn_dv 7))]) = some (wn_h2, 13, ns) := by
  have h := wn_t2_ok
  unfold wn_t2 at h
  unfold wn_h2
  split at h
  · rename_i hh nc ns he
    simp only [Bool.and_eq_true] at h
    have h2 := Nat.eq_of_beq_eq_true h.1.2
    subst h2
    exact ⟨ns, Nat.ble_eq.mp h.2, by rw [he]⟩
  · cases h
theorem wk_h1len : wn_h1.length = 197 := by
  have h := wn_t1_ok
  unfold wn_t1 at h
  unfold wn_h1
  split at h
  · simp only [Bool.and_eq_true] at h
    exact Nat.eq_of_beq_eq_true h.1.1
  · cases h
theorem wk_lay : Jvm.Cond.laysStatic "WindCarver" "IS_TOO" "[I" ∈ lw_tbl := by decide +kernel
set_option maxHeartbeats 4000000 in
set_option maxRecDepth 100000 in
theorem wk_TZ {s : State} {b : Nat} {A : Nat → Prop} (hgv : (Jvm.Cond.and given_1 narrow_1).before #[Value.ref b] s = true) (hts : ∀ w ∈ lw_tbl, w.before #[Value.ref b] s = true) (hA : ∀ a : Nat, a < s.heap.size → ¬ A a) :
    ∃ tt : Nat → Nat, ∀ k, 35 ≤ k → k < 36 → va_T .int (tt k) 6 (fun j => .int (wc_st k j)) A s s.heap ∧ va_Z (wc_gsm k).1 (wc_gsm k).2 "[I" (.ref (tt k)) A s s.heap := by
  have hs := flat_of_before _ hgv
  have arr0 : (Jvm.Cond.arrayOf (Term.static "WindCarver" "IS_TOO" "[I") .int).before #[Value.ref b] s = true := hs _ (by decide +kernel)
  have len0 : (Term.length (Term.static "WindCarver" "IS_TOO" "[I")).eval #[Value.ref b] s none [] s = some (.int (Int32.ofNat 6)) := va_eqt (hs (.eq (.length (Term.static "WindCarver" "IS_TOO" "[I")) (.int 6)) (by decide +kernel))
  have el0 : ∀ j : Nat, j < 6 → (Term.elem (Term.static "WindCarver" "IS_TOO" "[I") (.int (Int32.ofNat j))).eval #[Value.ref b] s none [] s = some (.int (wc_st 35 j)) := by
    intro j hj
    match j, hj with
    | 0, _ => exact va_eqt (hs (.eq (.elem (Term.static "WindCarver" "IS_TOO" "[I") (.int 0)) (.int (-1))) (by decide +kernel))
    | 1, _ => exact va_eqt (hs (.eq (.elem (Term.static "WindCarver" "IS_TOO" "[I") (.int 1)) (.int 0)) (by decide +kernel))
    | 2, _ => exact va_eqt (hs (.eq (.elem (Term.static "WindCarver" "IS_TOO" "[I") (.int 2)) (.int 1)) (by decide +kernel))
    | 3, _ => exact va_eqt (hs (.eq (.elem (Term.static "WindCarver" "IS_TOO" "[I") (.int 3)) (.int 1)) (by decide +kernel))
    | 4, _ => exact va_eqt (hs (.eq (.elem (Term.static "WindCarver" "IS_TOO" "[I") (.int 4)) (.int 0)) (by decide +kernel))
    | 5, _ => exact va_eqt (hs (.eq (.elem (Term.static "WindCarver" "IS_TOO" "[I") (.int 5)) (.int 4)) (by decide +kernel))
    | j + 6, hj => omega
  obtain ⟨t0, et0, T0⟩ := va_Tof (by decide) arr0 len0 el0 hA
  have Z0 := va_Zof (hts _ wk_lay) (hts _ (List.mem_filter.mp (wc_in_ok (c := 0) (by decide))).1) et0 hA
  refine ⟨fun _ => t0, fun k h1 h2 => ?_⟩
  rcases (show k = 35 by omega) with rfl
  exact ⟨T0, Z0⟩
theorem wk_arr {s : State} {args : Array Value} {ty : FieldType} (h : (Jvm.Cond.arrayClass ty).before args s = true) : ∃ cA : ClassId, ArrOfT s cA ty ∧ s.vm.findClass ("[" ++ ty.toString) = some cA := by
  obtain ⟨cA, kA, comp, h1, h2, h3⟩ := Cond.arrayClass_spec h
  exact ⟨cA, fun n z => ⟨fun k h => (by cases h), kA, h2, comp, h3⟩, h1⟩
theorem wk_arrO {s : State} {args : Array Value} {C : String} (h : (Jvm.Cond.arrayOver (.object C)).before args s = true) : ∃ cA : ClassId, ArrOfT s cA (.object C) ∧ va_RA s cA (.object C) := by
  obtain ⟨comp, c, k, h1, h2, h3, h4, h5⟩ := Cond.arrayOver_spec h
  exact ⟨c, fun n z => ⟨fun k h => (by cases h), k, h3, comp, h4⟩, k, comp, h3, h4, h1, h5⟩
theorem wk_K {s : State} {args : Array Value} (hts : ∀ w ∈ lw_tbl, w.before args s = true) : ∃ (D : va_G) (cA : Nat → ClassId), va_K D wc_cls (wc_tys cA) s := by
  have htw : ∀ w ∈ wc_tw, w.before args s = true := fun w hw => hts w (List.mem_filter.mp hw).1
  have hk : ∀ c, ∃ q : ClassId × (Nat → Nat), c < 8 → u_Kn s (wc_cn c) (wc_F c) (wc_nf c) q.1 q.2 := by
    intro c
    by_cases h : c < 8
    · obtain ⟨cC, iS, hK⟩ := u_known (C := wc_cn c) (T := wc_F c) (N := wc_nf c) (n := wc_nf c) htw (wc_lay_ok h) (htw _ (wn_it_ok h))
      exact ⟨(cC, iS), fun _ => hK⟩
    · exact ⟨(0, fun _ => 0), fun h2 => absurd h2 h⟩
  obtain ⟨a0, A0, B0⟩ := wk_arr (hts _ (wn_ac (w := .arrayClass .int) (by simp)))
  obtain ⟨a1, A1, B1⟩ := wk_arr (hts _ (wn_ac (w := .arrayClass .boolean) (by simp)))
  obtain ⟨a2, A2, B2⟩ := wk_arrO (hts _ (wn_ac (w := .arrayOver (.object "WindCarver$Row")) (by simp)))
  obtain ⟨a3, A3, B3⟩ := wk_arrO (hts _ (wn_ac (w := .arrayOver (.object "WindCarver$Pass")) (by simp)))
  refine ⟨(fun c => (Classical.choose (hk c)).1, fun c => (Classical.choose (hk c)).2), fun t => if t = 0 then a0 else if t = 1 then a1 else if t = 2 then a2 else a3, fun c q hq => ?_, fun k q hq => ?_⟩
  · have h8 : c < 8 := by
      have := (List.getElem?_eq_some_iff.mp hq).1
      simpa [wc_cls] using this
    rw [wc_cls_at h8] at hq
    cases hq
    exact Classical.choose_spec (hk c) h8
  · match k, hq with
    | 0, hq => cases hq; exact ⟨A0, B0⟩
    | 1, hq => cases hq; exact ⟨A1, B1⟩
    | 2, hq => cases hq; exact ⟨A2, B2⟩
    | 3, hq => cases hq; exact ⟨A3, B3⟩
    | k + 4, hq => simp [wc_tys] at hq
/-- the law, from its entry; what its function answers on the fresh memory is the premise -/
theorem whole_start0 {p : Program} {e : Env} {s : State} {m : MethodId} {below : List Frame} {meth : Method} {c : Code} (l : Launch) {b L : Nat} {xs : Nat → Int32} (C0 : lw_At p s m meth c b L xs) (hpure : ∃ M', f_L_law xs L w0M = some (1, M')) : W p l e room_1 s m #[Value.ref b] below meth c s.heap [] 0 0 (lw_Z below #[Value.ref b] s) (entryFrame m ([Value.ref b] : List Value).toArray 4) := by
  obtain ⟨hx, hb, hr, hml, hown, hts, hX, hbl, hlocks, hgv⟩ := id C0
  have htw : ∀ w ∈ wc_tw, w.before #[Value.ref b] s = true := fun w hw => hts w (List.mem_filter.mp hw).1
  obtain ⟨D, cA, hK⟩ := wk_K hts
  have hnA : ∀ a : Nat, a < s.heap.size → ¬ wn_A s.heap.size a := fun a h h2 => absurd h2 (Nat.not_le.mpr h)
  obtain ⟨t0, ht0⟩ := wk_TZ (A := wn_A s.heap.size) hgv hts hnA
  obtain ⟨tt, htt⟩ : ∃ tt : Nat → Nat, tt = fun k => if k = 38 then b else t0 k := ⟨_, rfl⟩
  have htt38 : tt 38 = b := by rw [htt]; rfl
  have hTZ : wc_TZ (wq_ad s.heap.size tt) (wn_A s.heap.size) s s.heap := fun k h1 h2 => by
    have e1 : wq_ad s.heap.size tt k 0 = t0 k := by
      unfold wq_ad
      rw [if_neg (by rw [Nat.blt_eq]; omega), htt]
      exact if_neg (by omega)
    rw [e1]
    exact ht0 k h1 h2
  have hNw : ∀ q ∈ wn_nl, va_Nw (.methodLinkNest (wc_cn q.1) q.2.1 (wn_y q.2.2) "WindCarver") s := fun q hq => va_Nw.of rfl (hts _ (wn_nl_ok q hq))
  have hW : wn_W cA D s := ⟨hK, hNw, va_AO.of (hts _ (wn_ac (w := .arrayOver (.object "WindCarver$Row")) (by simp))), va_AO.of (hts _ (wn_ac (w := .arrayOver (.object "WindCarver$Pass")) (by simp)))⟩
  obtain ⟨M', hM'⟩ := hpure
  have hwg := s_L_law xs L w0M (1, M') hM'
  have hown8 : s.vm.findClass (wc_cn 8) = some m.cls := hown
  have hCx : wn_Cx p room_1 s m #[Value.ref b] meth c s.heap.size cA D 8 4 21 code := ⟨hx, hb, hml, hown8, htw, hW, ⟨by decide, by decide⟩, fun h => absurd h (by decide), Nat.le_refl _⟩
  obtain ⟨ns1, hns1, hsd1⟩ := wk_sd1
  obtain ⟨ns2, hns2, hsd2⟩ := wk_sd2
  have hlen1 := wk_h1len
  obtain ⟨h1, eh1⟩ : ∃ h, h = wn_h1 := ⟨_, rfl⟩
  obtain ⟨h2, eh2⟩ : ∃ h, h = wn_h2 := ⟨_, rfl⟩
  rw [← eh1] at hsd1 hsd2 hlen1
  rw [← eh2] at hsd2
  have hSS4 : wn_SS l s.heap.size cA D 4 (wn_Sd 4) := wn_Sd_ok l s.heap.size cA D 4
  have hCx4 : wn_Cx p room_1 s m #[Value.ref b] meth c s.heap.size cA D 8 4 4 code := ⟨hx, hb, hml, hown8, htw, hW, ⟨by decide, by decide⟩, fun h => absurd h (by decide), Nat.le_refl _⟩
  have hl := lv_entry ([.ref b]) (n := 4) (Nat.le_of_ble_eq_true rfl)
  rw [lg_entry_eq]
  have hlv0 : wc_lv (wn_ad s.heap.size tt) 4 [some (.inr (.inl (38, 0))), none, none, none] ((lg_sl [.ref b] ++ List.replicate (4 - (lg_sl [.ref b]).length) Slot.unset).toArray) := by
    refine ⟨hl.1, hl.2.1, rfl, fun i v hv => ?_⟩
    match i, hv with
    | 0, hv =>
      cases hv
      have h9 := hl.2.2 (0, .ref b) List.mem_cons_self
      show _ = some (Slot.val (Value.ref (tt 38)))
      rw [htt38]
      exact h9
    | 1, hv => cases hv
    | 2, hv => cases hv
    | 3, hv => cases hv
    | i + 4, hv => simp at hv
  have hH0 : wn_H s.heap.size cA D [] s.heap := ⟨rfl, fun i x h => by simp at h⟩
  -- behind the constructors: the engine
  have k8 : wn_At p l e room_1 s m #[Value.ref b] below meth c (lw_Z below #[Value.ref b] s) s.heap.size tt cA D 4 wk_law 8 [some (.inr (.inl (38, 0))), some (.inr (.inl (0, 0))), some (.inr (.inl (0, 197))), none] [] h2 (0 + 1 + 196 + 1 + 13) (0 + wc_nf 0 + ns1 + wc_nf 7 + ns2) := by
    intro H locs ls hH hS hlv
    have hC : wc_C p room_1 s m #[Value.ref b] c (0 + 1 + 196 + 1 + 13) (0 + wc_nf 0 + ns1 + wc_nf 7 + ns2) (wq_ad s.heap.size tt) cA D (wn_A s.heap.size) (L + 1, xs) 8 4 21 code := by
      refine ⟨hx, hb, hml, hown8, htw, hK, hTZ, fun _ => ⟨?_, ?_, ?_⟩, ⟨by decide, by decide, by decide, ?_⟩⟩
      · show va_X (tt 38) L xs s s.heap
        rw [htt38]
        exact hX
      · show tt 38 < s.heap.size
        rw [htt38]
        exact hbl
      · show ¬ wn_A s.heap.size (tt 38)
        rw [htt38]
        exact hnA b hbl
      · have e1 : wc_nf 0 = 10 := rfl
        have e2 : wc_nf 7 = 28 := rfl
        show 0 + wc_nf 0 + ns1 + wc_nf 7 + ns2 ≤ 7302250
        omega
    obtain ⟨n, hG⟩ := hwg
    refine wc_G_ok (p := p) (l := l) (e := e) (below := below) (meth := meth) (Q := lw_Z below #[Value.ref b] s) hC wk_law_good.1 (wc_Sd_ok l (wq_ad s.heap.size tt) cA D (wn_A s.heap.size) 21) ?_ n 8 _ [] w0M hG ?_ (fun v hv => by cases hv) H locs ls (wq_world (eh2 ▸ hH)) (wq_apart w0M) hS ?_
    · intro i L2 st M P r hq hPP hK2
      obtain ⟨rfl, rfl⟩ := hK2
      rcases hcd : wk_law[i]? with _ | ⟨pc, ins, len, tg, ct, cl⟩
      · unfold wc_req at hq
        rw [hcd] at hq
        cases hq
      obtain ⟨hdec, hlen, -, -⟩ := wk_law_good.1 i pc ins len tg ct cl hcd
      have hpc : wc_pc wk_law i = pc := by unfold wc_pc; rw [hcd]
      intro H locs ls hP hD hS hlv
      rw [hpc]
      unfold wc_req at hq
      rw [hcd] at hq
      dsimp only at hq
      split at hq
      · rename_i v hz
        cases hz
      · rename_i v hz
        cases hq
        rw [hlen] at hdec
        refine va_forget (fun q hq => hS.2.2 q hq) ?_
        refine W.widen (k := 600000) (n := 7302250) (by decide) (by have e1 : wc_nf 0 = 10 := rfl; have e2 : wc_nf 7 = 28 := rfl; omega) ?_
        exact lw_ret hx hb hr hlocks hdec
      · rename_i hz
        cases hz
      · cases hq
    · intro v hv
      simp only [List.mem_cons, Option.some.injEq, List.not_mem_nil, or_false, reduceCtorEq] at hv
      rcases hv with rfl | rfl | rfl <;> rfl
    · refine ⟨hlv.1, hlv.2.1, rfl, fun i v hv => ?_⟩
      match i, hv with
      | 0, hv =>
        cases hv
        exact hlv.2.2.2 0 (.inr (.inl (38, 0))) rfl
      | 1, hv =>
        cases hv
        exact hlv.2.2.2 1 (.inr (.inl (0, 0))) rfl
      | 2, hv =>
        cases hv
        exact hlv.2.2.2 2 (.inr (.inl (0, 197))) rfl
      | 3, hv => cases hv
      | i + 4, hv => simp at hv
  -- the eight instructions ahead of it
  have g := wk_law_good.2
  have k7 : wn_At p l e room_1 s m #[Value.ref b] below meth c (lw_Z below #[Value.ref b] s) s.heap.size tt cA D 4 wk_law 7 [some (.inr (.inl (38, 0))), some (.inr (.inl (0, 0))), none, none] [.inr (.inl (0, 197))] h2 (0 + 1 + 196 + 1 + 13) (0 + wc_nf 0 + ns1 + wc_nf 7 + ns2) :=
    wn_stp_ok hCx4 g rfl (by decide) (by have e1 : wc_nf 0 = 10 := rfl; have e2 : wc_nf 7 = 28 := rfl; show 0 + wc_nf 0 + ns1 + wc_nf 7 + ns2 ≤ 7302250; omega) k8
  have k6 : wn_At p l e room_1 s m #[Value.ref b] below meth c (lw_Z below #[Value.ref b] s) s.heap.size tt cA D 4 wk_law 6 [some (.inr (.inl (38, 0))), some (.inr (.inl (0, 0))), none, none] [.inr (.inl (0, 197)), .inr (.inl (0, 197))] (h1 ++ [.inl (7, (List.range (wc_nf 7)).map (wn_dv 7))]) (0 + 1 + 196 + 1) (0 + wc_nf 0 + ns1 + wc_nf 7) := by
    intro H locs ls hH hS hlv
    exact wn_call (cd := wk_law) (i := 6) (pc := 12) (idx := 12) (t := 7) (j := 197) hCx4 hSS4 (by decide) rfl hsd2 (by decide) (by have e1 : wc_nf 0 = 10 := rfl; have e2 : wc_nf 7 = 28 := rfl; show 0 + wc_nf 0 + ns1 + wc_nf 7 + ns2 ≤ 7302250; omega) (Or.inr (by decide)) (g 6 12 _ _ _ _ _ rfl).1 rfl hH hS hlv k7
  have k5 : wn_At p l e room_1 s m #[Value.ref b] below meth c (lw_Z below #[Value.ref b] s) s.heap.size tt cA D 4 wk_law 5 [some (.inr (.inl (38, 0))), some (.inr (.inl (0, 0))), none, none] [.inr (.inl (0, 197))] (h1 ++ [.inl (7, (List.range (wc_nf 7)).map (wn_dv 7))]) (0 + 1 + 196 + 1) (0 + wc_nf 0 + ns1 + wc_nf 7) :=
    wn_stp_ok hCx4 g rfl (by decide) (by have e1 : wc_nf 0 = 10 := rfl; have e2 : wc_nf 7 = 28 := rfl; show 0 + wc_nf 0 + ns1 + wc_nf 7 ≤ 7302250; omega) k6
  have k4 : wn_At p l e room_1 s m #[Value.ref b] below meth c (lw_Z below #[Value.ref b] s) s.heap.size tt cA D 4 wk_law 4 [some (.inr (.inl (38, 0))), some (.inr (.inl (0, 0))), none, none] [] h1 (0 + 1 + 196) (0 + wc_nf 0 + ns1) := by
    refine wn_stp_ok hCx4 g (i' := 5) (L' := [some (.inr (.inl (38, 0))), some (.inr (.inl (0, 0))), none, none]) (st' := [.inr (.inl (0, h1.length))]) (h' := h1 ++ [.inl (7, (List.range (wc_nf 7)).map (wn_dv 7))]) (nc' := 0 + 1 + 196 + 1) (ns' := 0 + wc_nf 0 + ns1 + wc_nf 7) rfl (by decide) (by have e1 : wc_nf 0 = 10 := rfl; have e2 : wc_nf 7 = 28 := rfl; show 0 + wc_nf 0 + ns1 + wc_nf 7 ≤ 7302250; omega) ?_
    rw [hlen1]
    exact k5
  have k3 : wn_At p l e room_1 s m #[Value.ref b] below meth c (lw_Z below #[Value.ref b] s) s.heap.size tt cA D 4 wk_law 3 [some (.inr (.inl (38, 0))), none, none, none] [.inr (.inl (0, 0))] h1 (0 + 1 + 196) (0 + wc_nf 0 + ns1) :=
    wn_stp_ok hCx4 g rfl (by decide) (by have e1 : wc_nf 0 = 10 := rfl; show 0 + wc_nf 0 + ns1 ≤ 7302250; omega) k4
  have k2 : wn_At p l e room_1 s m #[Value.ref b] below meth c (lw_Z below #[Value.ref b] s) s.heap.size tt cA D 4 wk_law 2 [some (.inr (.inl (38, 0))), none, none, none] [.inr (.inl (0, 0)), .inr (.inl (0, 0))] [.inl (0, (List.range (wc_nf 0)).map (wn_dv 0))] (0 + 1) (0 + wc_nf 0) := by
    intro H locs ls hH hS hlv
    exact wn_call (cd := wk_law) (i := 2) (pc := 4) (idx := 9) (t := 0) (j := 0) hCx4 hSS4 (by decide) rfl hsd1 (by decide) (by have e1 : wc_nf 0 = 10 := rfl; show 0 + wc_nf 0 + ns1 ≤ 7302250; omega) (Or.inr (by decide)) (g 2 4 _ _ _ _ _ rfl).1 rfl hH hS hlv k3
  have k1 : wn_At p l e room_1 s m #[Value.ref b] below meth c (lw_Z below #[Value.ref b] s) s.heap.size tt cA D 4 wk_law 1 [some (.inr (.inl (38, 0))), none, none, none] [.inr (.inl (0, 0))] [.inl (0, (List.range (wc_nf 0)).map (wn_dv 0))] (0 + 1) (0 + wc_nf 0) :=
    wn_stp_ok hCx4 g rfl (by decide) (by decide) k2
  have k0 : wn_At p l e room_1 s m #[Value.ref b] below meth c (lw_Z below #[Value.ref b] s) s.heap.size tt cA D 4 wk_law 0 [some (.inr (.inl (38, 0))), none, none, none] [] [] 0 0 :=
    wn_stp_ok hCx4 g (i' := 1) (L' := [some (.inr (.inl (38, 0))), none, none, none]) (st' := [.inr (.inl (0, 0))]) (h' := [.inl (0, (List.range (wc_nf 0)).map (wn_dv 0))]) (nc' := 0 + 1) (ns' := 0 + wc_nf 0) rfl (by decide) (by decide) k1
  exact k0 s.heap [] _ hH0 va_S.rf hlv0
