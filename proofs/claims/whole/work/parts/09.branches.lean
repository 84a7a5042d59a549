/-! BRANCHES, switches, steps under a condition -/
theorem wc_sws {pc : Nat} {d : Int} {x : Int32} {f : Nat → Int} : ∀ (ps : List (Int × Int)) (ts : List Nat), ts.length = ps.length → (∀ q ∈ ps, (Int32.ofInt q.1).toInt = q.1) → (∀ q ∈ ps.zip ts, (pc : Int) + q.1.2 = f q.2) →
    (∃ q ∈ (ps.map (fun q => Int32.ofInt q.1)).zip ts, x = q.1 ∧ (pc : Int) + Op.lookupswitch.offset ps d x.toInt = f q.2) ∨ ((∀ q ∈ (ps.map (fun q => Int32.ofInt q.1)).zip ts, x ≠ q.1) ∧ Op.lookupswitch.offset ps d x.toInt = d)
  | [], [], _, _, _ => Or.inr ⟨(fun q h => by simp at h), rfl⟩
  | (k, o) :: ps, t :: ts, hl, hk, hz => by
    by_cases hx : x = Int32.ofInt k
    · refine Or.inl ⟨(Int32.ofInt k, t), List.mem_cons_self, hx, ?_⟩
      have h1 : (Int32.ofInt k).toInt = k := hk (k, o) List.mem_cons_self
      rw [hx, Op.lookupswitch.offset_cons, if_pos h1.symm]
      exact hz ((k, o), t) List.mem_cons_self
    · have h1 : (Int32.ofInt k).toInt = k := hk (k, o) List.mem_cons_self
      rw [lv_osw hx h1]
      rcases wc_sws ps ts (by simpa using hl) (fun q hq => hk q (List.mem_cons_of_mem _ hq)) (fun q hq => hz q (List.mem_cons_of_mem _ hq)) with ⟨q, hq, h2⟩ | ⟨hq, h2⟩
      · exact Or.inl ⟨q, List.mem_cons_of_mem _ hq, h2⟩
      · refine Or.inr ⟨fun q h => ?_, h2⟩
        rcases List.mem_cons.mp h with h3 | h3
        · subst h3; exact hx
        · exact hq q h3
theorem wc_tsw {ct : Int32} {lo : Int} {j : Nat} (h : ct.toInt = lo) (h0 : 0 ≤ lo) (hj : lo + (j : Int) < 1001) : (ct + Int32.ofNat j).toInt = lo + j := by
  have e : ct = nI lo.toNat := by
    apply Int32.toInt_inj.mp
    rw [nI_toInt (by omega), h]
    omega
  rw [e]
  show (nI lo.toNat + nI j).toInt = _
  rw [nI_add, nI_toInt (by omega)]
  omega
theorem wc_bo_rf0 : ∀ k, k < 35 → ∀ s, s < 28 → (match wc_sh k with
  | (0, c) => if Nat.blt s (wc_nf c) && wc_bo c s then (match ((wc_rfl[k]?).getD [])[s]? with
    | some (some _) => false
    | _ => true) else true
  | _ => true) = true := by decide +kernel
theorem wc_bo_rf {k c s j : Nat} (h : wc_sh k = (0, c)) (hs : s < wc_nf c) (hb : wc_bo c s = true) : wc_rf k j s = none := by
  have h8 := wc_c8 h
  have h1 := wc_bo_rf0 k (wc_k35 h (by decide)) s (Nat.lt_of_lt_of_le hs (wc_nf28 c h8))
  unfold wc_rf
  simp only [h] at h1 ⊢
  rw [if_pos (by rw [hb, Nat.blt_eq.mpr hs]; rfl)] at h1
  cases he : ((wc_rfl[k]?).getD [])[s]? with
  | none => rfl
  | some z =>
    cases z with
    | none => rfl
    | some z =>
      rw [he] at h1
      cases h1
section WCB
variable {p : Program} {l : Launch} {e : Env} {R : Room} {s : State} {m : MethodId} {args : Array Value} {below : List Frame} {meth : Method} {c : Code} {cells slots : Nat} {Q : State → Prop}
variable {ad : wc_A} {cA : Nat → ClassId} {D : va_G} {A : Nat → Prop} {X : Nat × (Nat → Int32)} {o nL dep : Nat} {bytes : ByteArray} {cd : List wc_E}
theorem wc_brq_ok {i t f : Nat} {P : Prop} {L : wc_L} {st st' : List wc_V} {M : wc_M} (hC : wc_C p R s m args c cells slots ad cA D A X o nL dep bytes) (hg : wc_good o bytes cd) (h : wc_brq cd i st = some (P, t, f, st'))
    (kt : P → wc_At p l e R s m args below meth c cells slots Q ad cA D A nL cd t L st' M) (kf : ¬ P → wc_At p l e R s m args below meth c cells slots Q ad cA D A nL cd f L st' M) : wc_At p l e R s m args below meth c cells slots Q ad cA D A nL cd i L st M := by
  obtain ⟨hx, hb, hml, hown, hts, hK, hTZ, hXS, hfr, hlo, hce, hsl⟩ := hC
  rcases hcd : cd[i]? with _ | ⟨pc, ins, len, tg, ct, cl⟩
  · unfold wc_brq at h
    rw [hcd] at h
    cases h
  obtain ⟨hdec, hlen, hlnk, hnx⟩ := hg i pc ins len tg ct cl hcd
  have hpc : wc_pc cd i = pc := by unfold wc_pc; rw [hcd]
  intro H locs ls hP hD hS hl
  rw [hpc]
  unfold wc_brq at h
  rw [hcd] at h
  dsimp only at h
  split at h
  · cases h
    have hnx2 := (Bool.and_eq_true _ _).mp hnx
    have ht := of_decide_eq_true hnx2.1
    have hn := Nat.eq_of_beq_eq_true hnx2.2
    rw [hlen] at hdec
    refine lv_if_eq hx hb hdec ht (fun z => kt z H locs ls hP hD hS hl) (fun z => ?_)
    have k := kf z H locs ls hP hD hS hl
    rw [hn] at k
    exact k
  · cases h
    have hnx2 := (Bool.and_eq_true _ _).mp hnx
    have ht := of_decide_eq_true hnx2.1
    have hn := Nat.eq_of_beq_eq_true hnx2.2
    rw [hlen] at hdec
    refine lv_if_ne hx hb hdec ht (fun z => kf z H locs ls hP hD hS hl) (fun z => ?_)
    have k := kt z H locs ls hP hD hS hl
    rw [hn] at k
    exact k
  · cases h
    have hnx2 := (Bool.and_eq_true _ _).mp hnx
    have ht := of_decide_eq_true hnx2.1
    have hn := Nat.eq_of_beq_eq_true hnx2.2
    rw [hlen] at hdec
    refine lv_if_lt hx hb hdec ht (fun z => kt z H locs ls hP hD hS hl) (fun z => ?_)
    have k := kf z H locs ls hP hD hS hl
    rw [hn] at k
    exact k
  · cases h
    have hnx2 := (Bool.and_eq_true _ _).mp hnx
    have ht := of_decide_eq_true hnx2.1
    have hn := Nat.eq_of_beq_eq_true hnx2.2
    rw [hlen] at hdec
    refine lv_if_ge hx hb hdec ht (fun z => kt z H locs ls hP hD hS hl) (fun z => ?_)
    have k := kf z H locs ls hP hD hS hl
    rw [hn] at k
    exact k
  · cases h
    have hnx2 := (Bool.and_eq_true _ _).mp hnx
    have ht := of_decide_eq_true hnx2.1
    have hn := Nat.eq_of_beq_eq_true hnx2.2
    rw [hlen] at hdec
    refine lv_if_gt hx hb hdec ht (fun z => kt z H locs ls hP hD hS hl) (fun z => ?_)
    have k := kf z H locs ls hP hD hS hl
    rw [hn] at k
    exact k
  · cases h
    have hnx2 := (Bool.and_eq_true _ _).mp hnx
    have ht := of_decide_eq_true hnx2.1
    have hn := Nat.eq_of_beq_eq_true hnx2.2
    rw [hlen] at hdec
    refine lv_if_le hx hb hdec ht (fun z => kt z H locs ls hP hD hS hl) (fun z => ?_)
    have k := kf z H locs ls hP hD hS hl
    rw [hn] at k
    exact k
  · cases h
    have hnx2 := (Bool.and_eq_true _ _).mp hnx
    have ht := of_decide_eq_true hnx2.1
    have hn := Nat.eq_of_beq_eq_true hnx2.2
    rw [hlen] at hdec
    refine lv_icmp_eq hx hb hdec ht (fun z => kt z H locs ls hP hD hS hl) (fun z => ?_)
    have k := kf z H locs ls hP hD hS hl
    rw [hn] at k
    exact k
  · cases h
    have hnx2 := (Bool.and_eq_true _ _).mp hnx
    have ht := of_decide_eq_true hnx2.1
    have hn := Nat.eq_of_beq_eq_true hnx2.2
    rw [hlen] at hdec
    refine lv_icmp_ne hx hb hdec ht (fun z => kf z H locs ls hP hD hS hl) (fun z => ?_)
    have k := kt z H locs ls hP hD hS hl
    rw [hn] at k
    exact k
  · cases h
    have hnx2 := (Bool.and_eq_true _ _).mp hnx
    have ht := of_decide_eq_true hnx2.1
    have hn := Nat.eq_of_beq_eq_true hnx2.2
    rw [hlen] at hdec
    refine lv_icmp_lt hx hb hdec ht (fun z => kt z H locs ls hP hD hS hl) (fun z => ?_)
    have k := kf z H locs ls hP hD hS hl
    rw [hn] at k
    exact k
  · cases h
    have hnx2 := (Bool.and_eq_true _ _).mp hnx
    have ht := of_decide_eq_true hnx2.1
    have hn := Nat.eq_of_beq_eq_true hnx2.2
    rw [hlen] at hdec
    refine lv_icmp_ge hx hb hdec ht (fun z => kt z H locs ls hP hD hS hl) (fun z => ?_)
    have k := kf z H locs ls hP hD hS hl
    rw [hn] at k
    exact k
  · cases h
    have hnx2 := (Bool.and_eq_true _ _).mp hnx
    have ht := of_decide_eq_true hnx2.1
    have hn := Nat.eq_of_beq_eq_true hnx2.2
    rw [hlen] at hdec
    refine lv_icmp_gt hx hb hdec ht (fun z => kt z H locs ls hP hD hS hl) (fun z => ?_)
    have k := kf z H locs ls hP hD hS hl
    rw [hn] at k
    exact k
  · cases h
    have hnx2 := (Bool.and_eq_true _ _).mp hnx
    have ht := of_decide_eq_true hnx2.1
    have hn := Nat.eq_of_beq_eq_true hnx2.2
    rw [hlen] at hdec
    refine lv_icmp_le hx hb hdec ht (fun z => kt z H locs ls hP hD hS hl) (fun z => ?_)
    have k := kf z H locs ls hP hD hS hl
    rw [hn] at k
    exact k
  · cases h
theorem wc_brq_ks {i t f : Nat} {P : Prop} {st st' : List wc_V} (h : wc_brq cd i st = some (P, t, f, st')) (hs : wc_okS st) : wc_okS st' := by
  have st1 : ∀ {v : wc_V} {r : List wc_V}, wc_okS (v :: r) → wc_okS r := fun {v r} hr w hw => hr w (List.mem_cons_of_mem _ hw)
  rcases hcd : cd[i]? with _ | ⟨pc, ins, len, tg, ct, cl⟩
  · unfold wc_brq at h
    rw [hcd] at h
    cases h
  unfold wc_brq at h
  rw [hcd] at h
  dsimp only at h
  split at h
  · cases h; exact st1 hs
  · cases h; exact st1 hs
  · cases h; exact st1 hs
  · cases h; exact st1 hs
  · cases h; exact st1 hs
  · cases h; exact st1 hs
  · cases h; exact st1 (st1 hs)
  · cases h; exact st1 (st1 hs)
  · cases h; exact st1 (st1 hs)
  · cases h; exact st1 (st1 hs)
  · cases h; exact st1 (st1 hs)
  · cases h; exact st1 (st1 hs)
  · cases h
theorem wc_swq_ks {i d : Nat} {x : Int32} {cs : List (Int32 × Nat)} {st st' : List wc_V} (h : wc_swq cd i st = some (x, cs, d, st')) (hs : wc_okS st) : wc_okS st' := by
  have st1 : ∀ {v : wc_V} {r : List wc_V}, wc_okS (v :: r) → wc_okS r := fun {v r} hr w hw => hr w (List.mem_cons_of_mem _ hw)
  rcases hcd : cd[i]? with _ | ⟨pc, ins, len, tg, ct, cl⟩
  · unfold wc_swq at h
    rw [hcd] at h
    cases h
  unfold wc_swq at h
  rw [hcd] at h
  dsimp only at h
  split at h
  · cases h; exact st1 hs
  · cases h; exact st1 hs
  · cases h
theorem wc_swq_ok {i d : Nat} {x : Int32} {cs : List (Int32 × Nat)} {L : wc_L} {st st' : List wc_V} {M : wc_M} (hC : wc_C p R s m args c cells slots ad cA D A X o nL dep bytes) (hg : wc_good o bytes cd) (h : wc_swq cd i st = some (x, cs, d, st'))
    (kt : ∀ q ∈ cs, x = q.1 → wc_At p l e R s m args below meth c cells slots Q ad cA D A nL cd q.2 L st' M) (kf : (∀ q ∈ cs, x ≠ q.1) → wc_At p l e R s m args below meth c cells slots Q ad cA D A nL cd d L st' M) : wc_At p l e R s m args below meth c cells slots Q ad cA D A nL cd i L st M := by
  obtain ⟨hx, hb, hml, hown, hts, hK, hTZ, hXS, hfr, hlo, hce, hsl⟩ := hC
  rcases hcd : cd[i]? with _ | ⟨pc, ins, len, tg, ct, cl⟩
  · unfold wc_swq at h
    rw [hcd] at h
    cases h
  obtain ⟨hdec, hlen, hlnk, hnx⟩ := hg i pc ins len tg ct cl hcd
  have hpc : wc_pc cd i = pc := by unfold wc_pc; rw [hcd]
  intro H locs ls hP hD hS hl
  rw [hpc]
  unfold wc_swq at h
  rw [hcd] at h
  dsimp only at h
  split at h
  · rename_i df lo hi offs dt ts x1 r
    cases h
    unfold wc_lnk at hlnk
    simp only [Bool.and_eq_true, decide_eq_true_eq] at hlnk
    obtain ⟨⟨⟨⟨h1, h2⟩, h3⟩, h4⟩, h5⟩ := hlnk
    have hnx2 := (Bool.and_eq_true _ _).mp hnx
    have hd := of_decide_eq_true hnx2.1
    have hz := List.all_eq_true.mp hnx2.2
    by_cases hr : x.toInt < lo ∨ hi < x.toInt
    · refine lv_tableOut hx hb hdec hr hd (kf ?_ H locs ls hP hD hS hl)
      intro q hq he
      obtain ⟨⟨t, j⟩, hj, rfl⟩ := List.mem_map.mp hq
      have hjl := (List.getElem?_eq_some_iff.mp (List.mem_zipIdx_iff_getElem?.mp hj)).1
      have e1 := wc_tsw (j := j) h1 h4 (by omega)
      rw [he] at hr
      dsimp only at hr
      rw [e1] at hr
      omega
    · obtain ⟨j, hj⟩ : ∃ j : Nat, x.toInt = lo + j := ⟨(x.toInt - lo).toNat, by omega⟩
      have hjl : j < ts.length := by omega
      have e1 := wc_tsw (j := j) h1 h4 (by omega)
      have hxe : x = ct + Int32.ofNat j := Int32.toInt_inj.mp (by rw [hj, e1])
      have ho : offs.toList[j]? = some (offs.toList[j]'(by rw [Array.length_toList]; omega)) := List.getElem?_eq_getElem _
      have hzz := hz (offs.toList[j]'(by rw [Array.length_toList]; omega), ts[j]) (List.mem_of_getElem? (i := j) (by rw [List.getElem?_zip_eq_some]; exact ⟨ho, List.getElem?_eq_getElem hjl⟩))
      refine lv_tableIn hx hb hdec (by omega) (by omega) (off := offs.toList[j]'(by rw [Array.length_toList]; omega)) ?_ (of_decide_eq_true hzz) (kt (ct + Int32.ofNat j, ts[j]) ?_ hxe H locs ls hP hD hS hl)
      · rw [show (x.toInt - lo).toNat = j by omega, ← Array.getElem?_toList]
        exact ho
      · exact List.mem_map.mpr ⟨(ts[j], j), List.mem_zipIdx_iff_getElem?.mpr (List.getElem?_eq_getElem hjl), rfl⟩
  · rename_i df ps dt ts x1 r
    cases h
    unfold wc_lnk at hlnk
    simp only [Bool.and_eq_true, decide_eq_true_eq] at hlnk
    obtain ⟨⟨h1, h2⟩, h3⟩ := hlnk
    have hnx2 := (Bool.and_eq_true _ _).mp hnx
    have hd := of_decide_eq_true hnx2.1
    have hz := List.all_eq_true.mp hnx2.2
    rcases wc_sws (pc := pc) (d := df) (x := x) (f := fun t => (wc_pc cd t : Int)) ps.toList ts h2 (fun q hq => of_decide_eq_true (List.all_eq_true.mp h3 q hq)) (fun q hq => of_decide_eq_true (hz q hq)) with ⟨q, hq, e1, e2⟩ | ⟨hq, e2⟩
    · exact lv_lookup hx hb hdec h1 rfl e2 (kt q hq e1 H locs ls hP hD hS hl)
    · exact lv_lookup hx hb hdec h1 e2 hd (kf hq H locs ls hP hD hS hl)
  · cases h
theorem wc_chq_ks {i : Nat} {P : Prop} {st st' : List wc_V} {M M' : wc_M} (h : wc_chq X cd i st M = some (P, st', M')) (hP : P) (hs : wc_okS st) : wc_okS st' := by
  have sc : ∀ {v : wc_V} {r : List wc_V}, wc_okv v = true → wc_okS r → wc_okS (v :: r) := fun {v r} hv hr w hw => by
    rcases List.mem_cons.mp hw with h1 | h1
    · subst h1; exact hv
    · exact hr w h1
  have st1 : ∀ {v : wc_V} {r : List wc_V}, wc_okS (v :: r) → wc_okS r := fun {v r} hr w hw => hr w (List.mem_cons_of_mem _ hw)
  have st0 : ∀ {v : wc_V} {r : List wc_V}, wc_okS (v :: r) → wc_okv v = true := fun {v r} hr => hr v List.mem_cons_self
  rcases hcd : cd[i]? with _ | ⟨pc, ins, len, tg, ct, cl⟩
  · unfold wc_chq at h
    rw [hcd] at h
    cases h
  unfold wc_chq at h
  rw [hcd] at h
  cases ins
  case iaload =>
    dsimp only at h
    split at h
    · split at h
      · cases h
        exact sc rfl (st1 (st1 hs))
      · split at h
        · cases h
          exact sc rfl (st1 (st1 hs))
        · cases h
      · split at h
        · cases h
          exact sc rfl (st1 (st1 hs))
        · cases h
      · cases h
    · cases h
  case baload =>
    dsimp only at h
    split at h
    · split at h
      · cases h
        exact sc rfl (st1 (st1 hs))
      · cases h
    · cases h
  case aaload =>
    dsimp only at h
    split at h
    · split at h
      · rename_i n hsh
        split at h
        · rename_i q hq
          cases h
          have h35 := wc_k35 hsh (by decide)
          refine sc (wc_rf_ok h35 (st0 (st1 hs)) hq (Or.inr ?_)) (st1 (st1 hs))
          rw [hsh]
          exact Nat.not_le.mp fun z => hP (Or.inr z)
        · cases h
      · rename_i n hsh
        split at h
        · rename_i q hq
          cases h
          have h35 := wc_k35 hsh (by decide)
          refine sc (wc_rf_ok h35 (st0 (st1 hs)) hq (Or.inr ?_)) (st1 (st1 hs))
          rw [hsh]
          exact Nat.not_le.mp fun z => hP (Or.inr z)
        · cases h
      · cases h
    · cases h
  case iastore =>
    dsimp only at h
    split at h
    · split at h
      · cases h
        exact st1 (st1 (st1 hs))
      · cases h
    · cases h
  case bastore =>
    dsimp only at h
    split at h
    · split at h
      · cases h
        exact st1 (st1 (st1 hs))
      · cases h
    · cases h
  case idiv =>
    dsimp only at h
    split at h
    · cases h
      exact sc rfl (st1 (st1 hs))
    · cases h
  case irem =>
    dsimp only at h
    split at h
    · cases h
      exact sc rfl (st1 (st1 hs))
    · cases h
  case putfield n =>
    dsimp only at h
    split at h
    · split at h
      · split at h
        · cases h
          exact st1 (st1 hs)
        · cases h
      · cases h
    · cases h
  case invokestatic n =>
    dsimp only at h
    split at h
    · split at h
      · split at h
        · cases h
          exact st1 (st1 (st1 (st1 (st1 hs))))
        · cases h
      · cases h
    · cases h
  all_goals cases h
theorem wc_chq_ok {i : Nat} {P : Prop} {L : wc_L} {st st' : List wc_V} {M M' : wc_M} (hC : wc_C p R s m args c cells slots ad cA D A X o nL dep bytes) (hg : wc_good o bytes cd) (h : wc_chq X cd i st M = some (P, st', M')) (hs : wc_okS st) (hPP : P)
    (k : wc_At p l e R s m args below meth c cells slots Q ad cA D A nL cd (i + 1) L st' M') : wc_At p l e R s m args below meth c cells slots Q ad cA D A nL cd i L st M := by
  obtain ⟨hx, hb, hml, hown, hts, hK, hTZ, hXS, hfr, hlo, hce, hsl⟩ := hC
  rcases hcd : cd[i]? with _ | ⟨pc, ins, len, tg, ct, cl⟩
  · unfold wc_chq at h
    rw [hcd] at h
    cases h
  obtain ⟨hdec, hlen, hlnk, hnx⟩ := hg i pc ins len tg ct cl hcd
  have hpc : wc_pc cd i = pc := by unfold wc_pc; rw [hcd]
  intro H locs ls hP hD hS hl
  rw [hpc]
  have st1 : ∀ {v : wc_V} {r : List wc_V}, wc_okS (v :: r) → wc_okS r := fun {v r} hr w hw => hr w (List.mem_cons_of_mem _ hw)
  have st0 : ∀ {v : wc_V} {r : List wc_V}, wc_okS (v :: r) → wc_okv v = true := fun {v r} hr => hr v List.mem_cons_self
  unfold wc_chq at h
  rw [hcd] at h
  cases ins
  case iaload =>
    dsimp only at h
    split at h
    · rename_i a1 k1 j1 r
      split at h
      · rename_i n1 hsh
        cases h
        have h35 := wc_k35 hsh (by decide)
        obtain ⟨q0, hq0, hw0⟩ := wc_plc (ad := ad) (cA := cA) (M := M) h35 (st0 (st1 hs))
        rw [wc_ent1 hsh] at hq0
        have hn : wc_pc cd (i + 1) = pc + 1 := by rw [hlen] at hnx; exact Nat.eq_of_beq_eq_true hnx
        rw [hlen] at hdec
        have k := k H locs ls hP hD hS hl
        rw [hn] at k
        exact va_iald hx hb hK hP q0 0 hq0 rfl hPP hdec k
      · rename_i n1 hsh
        split at h
        · rename_i hj
          have hj := Nat.eq_of_beq_eq_true hj
          subst hj
          cases h
          obtain ⟨h35, h38, h6⟩ : 35 ≤ k1 ∧ k1 < 36 ∧ n1 = 6 := by
            have hh : ∀ k, k < 39 → (wc_sh k).1 = 9 → 35 ≤ k ∧ k < 36 ∧ (wc_sh k).2 = 6 := by decide
            rcases Nat.lt_or_ge k1 39 with h1 | h1
            · have h2 := hh k1 h1 (by rw [hsh])
              rw [hsh] at h2
              exact h2
            · have e1 : wc_shl[k1]? = none := List.getElem?_eq_none (by show 39 ≤ k1; exact h1)
              unfold wc_sh at hsh
              rw [e1] at hsh
              cases hsh
          subst h6
          have hn : wc_pc cd (i + 1) = pc + 1 := by rw [hlen] at hnx; exact Nat.eq_of_beq_eq_true hnx
          rw [hlen] at hdec
          have k := k H locs ls hP hD hS hl
          rw [hn] at k
          obtain ⟨cell, g1, g2, g3, g4, g5, g6, g7⟩ := (hTZ k1 h35 h38).1
          have hlt : a1.toNatClampNeg < 6 := Nat.not_le.mp fun z => hPP (Or.inr z)
          have hbl : ad k1 0 < s.heap.size := (Array.getElem?_eq_some_iff.mp g1).1
          exact W.iald (v := .int (wc_st k1 a1.toNatClampNeg)) hx hb (by rw [hS.2.1 _ hbl g7]; exact g1) g2 g3 (fun z => z.elim (fun z => hPP (Or.inl z)) (fun z => absurd z (by omega))) (g6 _ hlt) rfl rfl hdec k
        · cases h
      · rename_i n1 hsh
        split at h
        · rename_i hj
          have hj := Nat.eq_of_beq_eq_true hj
          subst hj
          cases h
          have h38 : k1 = 38 := by
            have hh : ∀ k, k < 39 → (wc_sh k).1 = 10 → k = 38 := by decide
            rcases Nat.lt_or_ge k1 39 with h1 | h1
            · exact hh k1 h1 (by rw [hsh])
            · have e1 : wc_shl[k1]? = none := List.getElem?_eq_none (by show 39 ≤ k1; exact h1)
              unfold wc_sh at hsh
              rw [e1] at hsh
              cases hsh
          subst h38
          have hn : wc_pc cd (i + 1) = pc + 1 := by rw [hlen] at hnx; exact Nat.eq_of_beq_eq_true hnx
          rw [hlen] at hdec
          have k := k H locs ls hP hD hS hl
          rw [hn] at k
          have h0 : 0 < X.1 := by
            rcases Nat.eq_zero_or_pos X.1 with z | z
            · exact absurd (Or.inr (by rw [z]; exact Nat.zero_le _)) hPP
            · exact z
          obtain ⟨g1, g2, g3⟩ := hXS h0
          exact va_sld hx hb g1 g2 g3 hS hPP hdec k
        · cases h
      · cases h
    · cases h
  case baload =>
    dsimp only at h
    split at h
    · rename_i a1 k1 j1 r
      split at h
      · rename_i n1 hsh
        cases h
        have h35 := wc_k35 hsh (by decide)
        obtain ⟨q0, hq0, hw0⟩ := wc_plc (ad := ad) (cA := cA) (M := M) h35 (st0 (st1 hs))
        rw [wc_ent2 hsh] at hq0
        have hn : wc_pc cd (i + 1) = pc + 1 := by rw [hlen] at hnx; exact Nat.eq_of_beq_eq_true hnx
        rw [hlen] at hdec
        have k := k H locs ls hP hD hS hl
        rw [hn] at k
        exact va_zald hx hb hK hP q0 1 hq0 rfl hPP hdec k
      · cases h
    · cases h
  case aaload =>
    dsimp only at h
    split at h
    · rename_i a1 k1 j1 r
      split at h
      · rename_i n1 hsh
        split at h
        · rename_i q hq
          cases h
          have h35 := wc_k35 hsh (by decide)
          obtain ⟨q0, hq0, hw0⟩ := wc_plc (ad := ad) (cA := cA) (M := M) h35 (st0 (st1 hs))
          rw [wc_ent3 hsh] at hq0
          have hn : wc_pc cd (i + 1) = pc + 1 := by rw [hlen] at hnx; exact Nat.eq_of_beq_eq_true hnx
          rw [hlen] at hdec
          have k := k H locs ls hP hD hS hl
          rw [hn] at k
          refine va_aldq hx hb hK hP q0 2 hq0 rfl hPP hdec ?_
          show W p l e R s m args below meth c H locs cells slots Q (F0 m (pc + 1) ls (va_rf ((wc_rf k1 j1 a1.toNatClampNeg).map (fun r => ad r.1 r.2)) :: r.map (wc_cv ad)))
          rw [hq]
          exact k
        · cases h
      · rename_i n1 hsh
        split at h
        · rename_i q hq
          cases h
          have h35 := wc_k35 hsh (by decide)
          obtain ⟨q0, hq0, hw0⟩ := wc_plc (ad := ad) (cA := cA) (M := M) h35 (st0 (st1 hs))
          rw [wc_ent4 hsh] at hq0
          have hn : wc_pc cd (i + 1) = pc + 1 := by rw [hlen] at hnx; exact Nat.eq_of_beq_eq_true hnx
          rw [hlen] at hdec
          have k := k H locs ls hP hD hS hl
          rw [hn] at k
          refine va_aldq hx hb hK hP q0 3 hq0 rfl hPP hdec ?_
          show W p l e R s m args below meth c H locs cells slots Q (F0 m (pc + 1) ls (va_rf ((wc_rf k1 j1 a1.toNatClampNeg).map (fun r => ad r.1 r.2)) :: r.map (wc_cv ad)))
          rw [hq]
          exact k
        · cases h
      · cases h
    · cases h
  case iastore =>
    dsimp only at h
    split at h
    · rename_i v a1 k1 j1 r
      split at h
      · rename_i n1 hsh
        cases h
        have h35 := wc_k35 hsh (by decide)
        obtain ⟨q0, hq0, hw0⟩ := wc_plc (ad := ad) (cA := cA) (M := M) h35 (st0 (st1 (st1 hs)))
        rw [wc_ent1 hsh] at hq0
        have hn : wc_pc cd (i + 1) = pc + 1 := by rw [hlen] at hnx; exact Nat.eq_of_beq_eq_true hnx
        rw [hlen] at hdec
        refine va_iast hx hb hK hP hD hS q0 0 hq0 rfl hPP hdec (fun H1 locs1 hP1 hD1 hS1 => ?_)
        rw [wc_set1 hw0 hsh] at hP1 hD1
        have k := k H1 locs1 ls hP1 hD1 hS1 hl
        rw [hn] at k
        exact k
      · cases h
    · cases h
  case bastore =>
    dsimp only at h
    split at h
    · rename_i v a1 k1 j1 r
      split at h
      · rename_i n1 hsh
        cases h
        have h35 := wc_k35 hsh (by decide)
        obtain ⟨q0, hq0, hw0⟩ := wc_plc (ad := ad) (cA := cA) (M := M) h35 (st0 (st1 (st1 hs)))
        rw [wc_ent2 hsh] at hq0
        have hn : wc_pc cd (i + 1) = pc + 1 := by rw [hlen] at hnx; exact Nat.eq_of_beq_eq_true hnx
        rw [hlen] at hdec
        have hv : vp_nar .boolean v = v := by rcases hPP.2 with z | z <;> subst z <;> rfl
        refine va_zast hx hb hK hP hD hS q0 1 hq0 rfl hPP.1 hdec (fun H1 locs1 hP1 hD1 hS1 => ?_)
        rw [hv, wc_set2 hw0 hsh] at hP1 hD1
        have k := k H1 locs1 ls hP1 hD1 hS1 hl
        rw [hn] at k
        exact k
      · cases h
    · cases h
  case idiv =>
    dsimp only at h
    split at h
    · cases h
      have hn : wc_pc cd (i + 1) = pc + 1 := by rw [hlen] at hnx; exact Nat.eq_of_beq_eq_true hnx
      rw [hlen] at hdec
      have k := k H locs ls hP hD hS hl
      rw [hn] at k
      exact lv_idiv hx hb hdec hPP k
    · cases h
  case irem =>
    dsimp only at h
    split at h
    · cases h
      have hn : wc_pc cd (i + 1) = pc + 1 := by rw [hlen] at hnx; exact Nat.eq_of_beq_eq_true hnx
      rw [hlen] at hdec
      have k := k H locs ls hP hD hS hl
      rw [hn] at k
      exact lv_irem hx hb hdec hPP k
    · cases h
  case putfield n =>
    dsimp only at h
    split at h
    · rename_i c1 s1 v k1 j1 r
      split at h
      · rename_i c2 hsh
        split at h
        · rename_i hc
          simp only [Bool.and_eq_true] at hc
          have hcc := Nat.eq_of_beq_eq_true hc.1.1
          subst hcc
          have hlt := Nat.blt_eq.mp hc.1.2
          have hbo := hc.2
          have h35 := wc_k35 hsh (by decide)
          have h8 := wc_c8 hsh
          cases h
          obtain ⟨q0, hq0, hw0⟩ := wc_plc (ad := ad) (cA := cA) (M := M) h35 (hs _ (List.mem_cons_of_mem _ List.mem_cons_self))
          rw [wc_ent0 hsh] at hq0
          have hlk : Jvm.Cond.fieldLink (wc_cn o) n (wc_cn c1) (wc_F c1 s1).2.1 (wc_F c1 s1).2.2.1 ∈ wc_tw := wc_fl_ok _ (of_decide_eq_true hlnk)
          have hq : wc_rf k1 j1 s1 = none := wc_bo_rf hsh hlt hbo
          have hn : wc_pc cd (i + 1) = pc + 3 := by rw [hlen] at hnx; exact Nat.eq_of_beq_eq_true hnx
          rw [hlen] at hdec
          obtain ⟨hfi, hde⟩ := wc_pf_at hsh hlt hq
          rw [hbo] at hde
          have hv : narrow .boolean (.int v) = .int v := by rcases hPP with z | z <;> subst z <;> rfl
          exact va_put (D := D) (ci := c1) (v := .int v) (ty := .boolean) (C := wc_cn c1) (T := wc_F c1) (N := wc_nf c1) hx hb hts (wc_lay_ok h8) (wc_ty c1) (wc_ty_ok c1 h8) (wc_nm c1 h8) hown hK hP hD hS q0 hq0 (wc_cls_at h8) s1 hlt (hts _ hlk) (fun _ h9 => by rw [wc_F1 c1 h8 s1 hlt] at h9; exact h9) hfi (by rw [hde]; decide +kernel) hv (by rcases hPP with z | z <;> subst z <;> rfl) (by simpa using hlt) hdec (fun H1 locs1 hP1 hD1 hS1 => by
              rw [wc_set0 hw0 hsh hq] at hP1 hD1
              have k := k H1 locs1 ls hP1 hD1 hS1 hl
              rw [hn] at k
              exact k)
        · cases h
      · cases h
    · cases h
  case invokestatic n =>
    dsimp only at h
    split at h
    · rename_i t n1 dp k2 j2 sp k1 j1 r
      split at h
      · rename_i n2 n3 hsh hsh2
        split at h
        · rename_i hc
          simp only [Bool.and_eq_true] at hc
          have ht := Nat.eq_of_beq_eq_true hc.1
          subst ht
          have hq := wc_cat4 (ad := ad) hc.2
          cases h
          have hn : wc_pc cd (i + 1) = pc + 3 := by rw [hlen] at hnx; exact Nat.eq_of_beq_eq_true hnx
          rw [hlen] at hdec
          obtain ⟨g1, g2, g3, g4, g5⟩ := hPP
          have h35 := wc_k35 hsh (by decide)
          have h352 := wc_k35 hsh2 (by decide)
          obtain ⟨q0, hq0, hw0⟩ := wc_plc (ad := ad) (cA := cA) (M := M) h35 (st0 (st1 (st1 (st1 (st1 hs)))))
          rw [wc_ent1 hsh] at hq0
          obtain ⟨q1, hq1, hw1⟩ := wc_plc (ad := ad) (cA := cA) (M := M) h352 (st0 (st1 (st1 hs)))
          rw [wc_ent1 hsh2] at hq1
          replace hlnk : decide ((o, n, 200) ∈ wc_nt) = true := hlnk
          have hnw : nativeFrameWords "java/lang/System" "arraycopy" 5 + 11 + 8 ≤ 40 := by decide +kernel
          refine va_copyi hx hb (by rw [hml, hl.1]) hown (hts _ (wc_nt_ok _ (of_decide_eq_true hlnk))) (hts _ (wc_nat 5 rfl rfl)) (hts _ (wc_nat 4 rfl rfl)) (hts _ (wc_nat 3 rfl rfl)) hK hP hD hS q0 q1 0 0 hq0 hq1 rfl rfl rfl g1 g2 g3 g4 g5 (fun _ _ => rfl) (by omega) (by omega) hdec (fun H1 locs1 hP1 hD1 hS1 => ?_)
          rw [wc_setc hw1 hsh2] at hP1 hD1
          have k := k H1 locs1 ls hP1 hD1 hS1 hl
          rw [hn] at k
          exact k
        · cases h
      · cases h
    · cases h
  all_goals cases h
end WCB
