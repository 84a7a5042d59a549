/-! STEPS without a condition: the machine follows -/
section WCS
variable {p : Program} {l : Launch} {e : Env} {R : Room} {s : State} {m : MethodId} {args : Array Value} {below : List Frame} {meth : Method} {c : Code} {cells slots : Nat} {Q : State → Prop}
variable {ad : wc_A} {cA : Nat → ClassId} {D : va_G} {A : Nat → Prop} {X : Nat × (Nat → Int32)} {o nL dep : Nat} {bytes : ByteArray} {cd : List wc_E}
theorem wc_cat4 {r : List wc_V} (h : Nat.ble r.length 4 = true) : ((r.map (wc_cv ad)).map fun v => v.category).sum ≤ 8 := by
  have h4 := Nat.ble_eq.mp h
  have key : ∀ r : List wc_V, ((r.map (wc_cv ad)).map fun v => v.category).sum ≤ 2 * r.length := by
    intro r
    induction r with
    | nil => simp
    | cons v r ih =>
      have hv : (wc_cv ad v).category ≤ 2 := by
        obtain v | v | v := v <;> simp [wc_cv, Value.category]
      simp only [List.map_cons, List.sum_cons, List.length_cons]
      omega
  have := key r
  omega
theorem wc_stp_ok {i i' : Nat} {L L' : wc_L} {st st' : List wc_V} {M M' : wc_M} (hC : wc_C p R s m args c cells slots ad cA D A X o nL dep bytes) (hg : wc_good o bytes cd) (h : wc_stp X.1 cd i L st M = some (i', L', st', M')) (hL : wc_okL L) (hs : wc_okS st)
    (k : wc_At p l e R s m args below meth c cells slots Q ad cA D A nL cd i' L' st' M') : wc_At p l e R s m args below meth c cells slots Q ad cA D A nL cd i L st M := by
  obtain ⟨hx, hb, hml, hown, hts, hK, hTZ, hXS, hfr, hlo, hce, hsl⟩ := hC
  rcases hcd : cd[i]? with _ | ⟨pc, ins, len, tg, ct, cl⟩
  · unfold wc_stp at h
    rw [hcd] at h
    cases h
  obtain ⟨hdec, hlen, hlnk, hnx⟩ := hg i pc ins len tg ct cl hcd
  have hpc : wc_pc cd i = pc := by unfold wc_pc; rw [hcd]
  intro H locs ls hP hD hS hl
  rw [hpc]
  have lg : ∀ {n : Nat} {v : wc_V}, L[n]? = some (some v) → ls[n]? = some (.val (wc_cv ad v)) := fun {n v} hv => hl.2.2.2 n v hv
  unfold wc_stp at h
  rw [hcd] at h
  cases ins
  case iconst n =>
    cases h
    have hn : wc_pc cd (i + 1) = pc + 1 := by rw [hlen] at hnx; exact Nat.eq_of_beq_eq_true hnx
    have k := k H locs ls hP hD hS hl
    rw [hn] at k
    rw [hlen] at hdec
    exact lv_iconst hx hb hdec (of_decide_eq_true hlnk) k
  case bipush n =>
    cases h
    have hn : wc_pc cd (i + 1) = pc + 2 := by rw [hlen] at hnx; exact Nat.eq_of_beq_eq_true hnx
    have k := k H locs ls hP hD hS hl
    rw [hn] at k
    rw [hlen] at hdec
    exact lv_bipush hx hb hdec (of_decide_eq_true hlnk) k
  case sipush n =>
    cases h
    have hn : wc_pc cd (i + 1) = pc + 3 := by rw [hlen] at hnx; exact Nat.eq_of_beq_eq_true hnx
    have k := k H locs ls hP hD hS hl
    rw [hn] at k
    rw [hlen] at hdec
    exact lv_sipush hx hb hdec (of_decide_eq_true hlnk) k
  case lconst n =>
    cases h
    have hn : wc_pc cd (i + 1) = pc + 1 := by rw [hlen] at hnx; exact Nat.eq_of_beq_eq_true hnx
    have k := k H locs ls hP hD hS hl
    rw [hn] at k
    rw [hlen] at hdec
    exact lv_lconst hx hb hdec (of_decide_eq_true hlnk) k
  case ldc n =>
    cases h
    have hn : wc_pc cd (i + 1) = pc + 2 := by rw [hlen] at hnx; exact Nat.eq_of_beq_eq_true hnx
    have k := k H locs ls hP hD hS hl
    rw [hn] at k
    rw [hlen] at hdec
    exact lv_ldc hx hb hown (hts _ (wc_ld_ok _ (of_decide_eq_true hlnk))) hdec k
  case ldc_w n =>
    cases h
    have hn : wc_pc cd (i + 1) = pc + 3 := by rw [hlen] at hnx; exact Nat.eq_of_beq_eq_true hnx
    have k := k H locs ls hP hD hS hl
    rw [hn] at k
    rw [hlen] at hdec
    exact lv_ldcw hx hb hown (hts _ (wc_ld_ok _ (of_decide_eq_true hlnk))) hdec k
  case ldc2_w n =>
    cases h
    have hn : wc_pc cd (i + 1) = pc + 3 := by rw [hlen] at hnx; exact Nat.eq_of_beq_eq_true hnx
    have k := k H locs ls hP hD hS hl
    rw [hn] at k
    rw [hlen] at hdec
    exact lv_ldc2 hx hb hown (hts _ (wc_le_ok _ (of_decide_eq_true hlnk))) hdec k
  case iload_n n =>
    dsimp only at h
    split at h
    · rename_i v hv
      cases h
      have hn : wc_pc cd (i + 1) = pc + 1 := by rw [hlen] at hnx; exact Nat.eq_of_beq_eq_true hnx
      have k := k H locs ls hP hD hS hl
      rw [hn] at k
      rw [hlen] at hdec
      exact lv_iload_n hx hb hdec rfl (lg hv) k
    · cases h
  case iload n =>
    dsimp only at h
    split at h
    · rename_i v hv
      cases h
      have hn : wc_pc cd (i + 1) = pc + 2 := by rw [hlen] at hnx; exact Nat.eq_of_beq_eq_true hnx
      have k := k H locs ls hP hD hS hl
      rw [hn] at k
      rw [hlen] at hdec
      exact lv_iload hx hb hdec (lg hv) k
    · cases h
  case aload_n n =>
    dsimp only at h
    split at h
    · rename_i v hv
      cases h
      have hn : wc_pc cd (i + 1) = pc + 1 := by rw [hlen] at hnx; exact Nat.eq_of_beq_eq_true hnx
      have k := k H locs ls hP hD hS hl
      rw [hn] at k
      rw [hlen] at hdec
      exact lv_aload_n hx hb hdec rfl (lg hv) k
    · cases h
  case aload n =>
    dsimp only at h
    split at h
    · rename_i v hv
      cases h
      have hn : wc_pc cd (i + 1) = pc + 2 := by rw [hlen] at hnx; exact Nat.eq_of_beq_eq_true hnx
      have k := k H locs ls hP hD hS hl
      rw [hn] at k
      rw [hlen] at hdec
      exact lv_aload hx hb hdec (lg hv) k
    · cases h
  case lload_n n =>
    dsimp only at h
    split at h
    · rename_i v hv
      cases h
      have hn : wc_pc cd (i + 1) = pc + 1 := by rw [hlen] at hnx; exact Nat.eq_of_beq_eq_true hnx
      have k := k H locs ls hP hD hS hl
      rw [hn] at k
      rw [hlen] at hdec
      exact lv_lload_n hx hb hdec rfl (lg hv) k
    · cases h
  case lload n =>
    dsimp only at h
    split at h
    · rename_i v hv
      cases h
      have hn : wc_pc cd (i + 1) = pc + 2 := by rw [hlen] at hnx; exact Nat.eq_of_beq_eq_true hnx
      have k := k H locs ls hP hD hS hl
      rw [hn] at k
      rw [hlen] at hdec
      exact lv_lload hx hb hdec (lg hv) k
    · cases h
  case istore_n n =>
    dsimp only at h
    split at h
    · rename_i v r
      split at h
      · rename_i hc
        simp only [Bool.and_eq_true] at hc
        obtain ⟨hno, hlt⟩ := hc
        cases h
        have hn : wc_pc cd (i + 1) = pc + 1 := by rw [hlen] at hnx; exact Nat.eq_of_beq_eq_true hnx
        rw [hlen] at hdec
        exact lv_istore_n hx hb hdec rfl (wc_lv_has hl) (by rw [← hl.2.2.1]; exact Nat.blt_eq.mp hlt) rfl (fun ls1 h1 => by
          have k := k H locs ls1 hP hD hS (wc_lv_set (v := .inl v) hl.2.2.1 hno h1)
          rw [hn] at k
          exact k)
      · cases h
    · cases h
  case istore n =>
    dsimp only at h
    split at h
    · rename_i v r
      split at h
      · rename_i hc
        simp only [Bool.and_eq_true] at hc
        obtain ⟨hno, hlt⟩ := hc
        cases h
        have hn : wc_pc cd (i + 1) = pc + 2 := by rw [hlen] at hnx; exact Nat.eq_of_beq_eq_true hnx
        rw [hlen] at hdec
        exact lv_istore hx hb hdec (wc_lv_has hl) (by rw [← hl.2.2.1]; exact Nat.blt_eq.mp hlt) rfl (fun ls1 h1 => by
          have k := k H locs ls1 hP hD hS (wc_lv_set (v := .inl v) hl.2.2.1 hno h1)
          rw [hn] at k
          exact k)
      · cases h
    · cases h
  case astore_n n =>
    dsimp only at h
    split at h
    · rename_i v r
      split at h
      · rename_i hc
        simp only [Bool.and_eq_true] at hc
        obtain ⟨hno, hlt⟩ := hc
        cases h
        have hn : wc_pc cd (i + 1) = pc + 1 := by rw [hlen] at hnx; exact Nat.eq_of_beq_eq_true hnx
        rw [hlen] at hdec
        exact lv_astore_n hx hb hdec rfl (wc_lv_has hl) (by rw [← hl.2.2.1]; exact Nat.blt_eq.mp hlt) rfl (fun ls1 h1 => by
          have k := k H locs ls1 hP hD hS (wc_lv_set (v := .inr (.inl v)) hl.2.2.1 hno h1)
          rw [hn] at k
          exact k)
      · cases h
    · cases h
  case astore n =>
    dsimp only at h
    split at h
    · rename_i v r
      split at h
      · rename_i hc
        simp only [Bool.and_eq_true] at hc
        obtain ⟨hno, hlt⟩ := hc
        cases h
        have hn : wc_pc cd (i + 1) = pc + 2 := by rw [hlen] at hnx; exact Nat.eq_of_beq_eq_true hnx
        rw [hlen] at hdec
        exact lv_astore hx hb hdec (wc_lv_has hl) (by rw [← hl.2.2.1]; exact Nat.blt_eq.mp hlt) rfl (fun ls1 h1 => by
          have k := k H locs ls1 hP hD hS (wc_lv_set (v := .inr (.inl v)) hl.2.2.1 hno h1)
          rw [hn] at k
          exact k)
      · cases h
    · cases h
  case iinc n q =>
    dsimp only at h
    split at h
    · rename_i v hv
      split at h
      · rename_i hno
        cases h
        have hn : wc_pc cd (i + 1) = pc + 3 := by rw [hlen] at hnx; exact Nat.eq_of_beq_eq_true hnx
        rw [hlen] at hdec
        obtain ⟨k0, hk0⟩ := List.getElem?_of_mem (wc_lp_in (ad := ad) (L := L) (q := (n, .int v)) |>.mpr ⟨.inl v, hv, rfl⟩)
        exact lv_iinc (v := v + ct) hx hb hdec (wc_lv_has hl) (k := k0) hk0 (by rw [of_decide_eq_true hlnk]) (by rw [← hl.2.2.1]; exact (List.getElem?_eq_some_iff.mp hv).1) rfl (fun ls1 h1 => by
          have k := k H locs ls1 hP hD hS (wc_lv_set (v := .inl (v + ct)) hl.2.2.1 hno h1)
          rw [hn] at k
          exact k)
      · cases h
    · cases h
  case iadd =>
    dsimp only at h
    split at h
    · cases h
      have hn : wc_pc cd (i + 1) = pc + 1 := by rw [hlen] at hnx; exact Nat.eq_of_beq_eq_true hnx
      have k := k H locs ls hP hD hS hl
      rw [hn] at k
      rw [hlen] at hdec
      exact lv_iadd hx hb hdec k
    · cases h
  case isub =>
    dsimp only at h
    split at h
    · cases h
      have hn : wc_pc cd (i + 1) = pc + 1 := by rw [hlen] at hnx; exact Nat.eq_of_beq_eq_true hnx
      have k := k H locs ls hP hD hS hl
      rw [hn] at k
      rw [hlen] at hdec
      exact lv_isub hx hb hdec k
    · cases h
  case imul =>
    dsimp only at h
    split at h
    · cases h
      have hn : wc_pc cd (i + 1) = pc + 1 := by rw [hlen] at hnx; exact Nat.eq_of_beq_eq_true hnx
      have k := k H locs ls hP hD hS hl
      rw [hn] at k
      rw [hlen] at hdec
      exact lv_imul hx hb hdec k
    · cases h
  case iand =>
    dsimp only at h
    split at h
    · cases h
      have hn : wc_pc cd (i + 1) = pc + 1 := by rw [hlen] at hnx; exact Nat.eq_of_beq_eq_true hnx
      have k := k H locs ls hP hD hS hl
      rw [hn] at k
      rw [hlen] at hdec
      exact lv_iand hx hb hdec k
    · cases h
  case ior =>
    dsimp only at h
    split at h
    · cases h
      have hn : wc_pc cd (i + 1) = pc + 1 := by rw [hlen] at hnx; exact Nat.eq_of_beq_eq_true hnx
      have k := k H locs ls hP hD hS hl
      rw [hn] at k
      rw [hlen] at hdec
      exact lv_ior hx hb hdec k
    · cases h
  case ishl =>
    dsimp only at h
    split at h
    · cases h
      have hn : wc_pc cd (i + 1) = pc + 1 := by rw [hlen] at hnx; exact Nat.eq_of_beq_eq_true hnx
      have k := k H locs ls hP hD hS hl
      rw [hn] at k
      rw [hlen] at hdec
      exact lv_ishl hx hb hdec k
    · cases h
  case ishr =>
    dsimp only at h
    split at h
    · cases h
      have hn : wc_pc cd (i + 1) = pc + 1 := by rw [hlen] at hnx; exact Nat.eq_of_beq_eq_true hnx
      have k := k H locs ls hP hD hS hl
      rw [hn] at k
      rw [hlen] at hdec
      exact lv_ishr hx hb hdec k
    · cases h
  case ineg =>
    dsimp only at h
    split at h
    · cases h
      have hn : wc_pc cd (i + 1) = pc + 1 := by rw [hlen] at hnx; exact Nat.eq_of_beq_eq_true hnx
      have k := k H locs ls hP hD hS hl
      rw [hn] at k
      rw [hlen] at hdec
      exact lv_ineg hx hb hdec k
    · cases h
  case lsub =>
    dsimp only at h
    split at h
    · cases h
      have hn : wc_pc cd (i + 1) = pc + 1 := by rw [hlen] at hnx; exact Nat.eq_of_beq_eq_true hnx
      have k := k H locs ls hP hD hS hl
      rw [hn] at k
      rw [hlen] at hdec
      exact lv_lsub hx hb hdec k
    · cases h
  case lcmp =>
    dsimp only at h
    split at h
    · cases h
      have hn : wc_pc cd (i + 1) = pc + 1 := by rw [hlen] at hnx; exact Nat.eq_of_beq_eq_true hnx
      have k := k H locs ls hP hD hS hl
      rw [hn] at k
      rw [hlen] at hdec
      exact W.lcmp hx hb hdec k
    · cases h
  case i2l =>
    dsimp only at h
    split at h
    · cases h
      have hn : wc_pc cd (i + 1) = pc + 1 := by rw [hlen] at hnx; exact Nat.eq_of_beq_eq_true hnx
      have k := k H locs ls hP hD hS hl
      rw [hn] at k
      rw [hlen] at hdec
      exact lv_i2l hx hb hdec rfl k
    · cases h
  case i2b =>
    dsimp only at h
    split at h
    · cases h
      have hn : wc_pc cd (i + 1) = pc + 1 := by rw [hlen] at hnx; exact Nat.eq_of_beq_eq_true hnx
      have k := k H locs ls hP hD hS hl
      rw [hn] at k
      rw [hlen] at hdec
      exact lv_i2b hx hb hdec rfl k
    · cases h
  case i2s =>
    dsimp only at h
    split at h
    · cases h
      have hn : wc_pc cd (i + 1) = pc + 1 := by rw [hlen] at hnx; exact Nat.eq_of_beq_eq_true hnx
      have k := k H locs ls hP hD hS hl
      rw [hn] at k
      rw [hlen] at hdec
      exact lv_i2s hx hb hdec rfl k
    · cases h
  case dup =>
    dsimp only at h
    split at h
    · cases h
      have hn : wc_pc cd (i + 1) = pc + 1 := by rw [hlen] at hnx; exact Nat.eq_of_beq_eq_true hnx
      have k := k H locs ls hP hD hS hl
      rw [hn] at k
      rw [hlen] at hdec
      exact lv_dup hx hb hdec rfl k
    · cases h
      have hn : wc_pc cd (i + 1) = pc + 1 := by rw [hlen] at hnx; exact Nat.eq_of_beq_eq_true hnx
      have k := k H locs ls hP hD hS hl
      rw [hn] at k
      rw [hlen] at hdec
      exact lv_dup hx hb hdec rfl k
    · cases h
  case dup2 =>
    dsimp only at h
    split at h
    · cases h
      have hn : wc_pc cd (i + 1) = pc + 1 := by rw [hlen] at hnx; exact Nat.eq_of_beq_eq_true hnx
      have k := k H locs ls hP hD hS hl
      rw [hn] at k
      rw [hlen] at hdec
      exact lv_dup2_11 hx hb hdec rfl rfl k
    · cases h
  case pop =>
    dsimp only at h
    split at h
    · cases h
      have hn : wc_pc cd (i + 1) = pc + 1 := by rw [hlen] at hnx; exact Nat.eq_of_beq_eq_true hnx
      have k := k H locs ls hP hD hS hl
      rw [hn] at k
      rw [hlen] at hdec
      exact lv_pop hx hb hdec rfl k
    · cases h
  case goto n =>
    dsimp only at h
    split at h
    · rename_i t
      cases h
      rw [hlen] at hdec
      have k := k H locs ls hP hD hS hl
      exact lv_goto hx hb hdec (of_decide_eq_true hnx) k
    · cases h
  case getfield n =>
    dsimp only at h
    split at h
    · rename_i c1 s1 k1 j1 r
      split at h
      · rename_i c2 hsh
        split at h
        · rename_i hc
          simp only [Bool.and_eq_true] at hc
          have hcc := Nat.eq_of_beq_eq_true hc.1
          subst hcc
          have hlt := Nat.blt_eq.mp hc.2
          have h35 := wc_k35 hsh (by decide)
          have h8 := wc_c8 hsh
          obtain ⟨q0, hq0, -⟩ := wc_plc (ad := ad) (cA := cA) (M := M) h35 (hs _ List.mem_cons_self)
          rw [wc_ent0 hsh] at hq0
          have hlk : Jvm.Cond.fieldLink (wc_cn o) n (wc_cn c1) (wc_F c1 s1).2.1 (wc_F c1 s1).2.2.1 ∈ wc_tw := wc_fl_ok _ (of_decide_eq_true hlnk)
          have hn : wc_pc cd (i + 1) = pc + 3 := by rw [hlen] at hnx; exact Nat.eq_of_beq_eq_true hnx
          rw [hlen] at hdec
          have go : ∀ v : Value, wc_fld ad k1 j1 s1 M = v → W p l e R s m args below meth c H locs cells slots Q (F0 m (pc + 3) ls (v :: r.map (wc_cv ad))) → W p l e R s m args below meth c H locs cells slots Q (F0 m pc ls ((.inr (.inl (k1, j1)) :: r : List wc_V).map (wc_cv ad))) := fun v hv kk =>
            va_get (D := D) (ci := c1) (v := v) (C := wc_cn c1) (T := wc_F c1) (N := wc_nf c1) hx hb hts (wc_lay_ok h8) hown hK hP q0 hq0 (wc_cls_at h8) s1 hlt (hts _ hlk) (fun _ h9 => by rw [wc_F1 c1 h8 s1 hlt] at h9; exact h9) (by rw [List.getElem?_map, List.getElem?_range hlt]; show some (wc_fld ad k1 j1 s1 M) = some v; rw [hv]) hdec kk
          split at h
          · rename_i q hq
            cases h
            have k := k H locs ls hP hD hS hl
            rw [hn] at k
            exact go _ (by unfold wc_fld; rw [hq]; rfl) k
          · rename_i hq
            cases h
            have k := k H locs ls hP hD hS hl
            rw [hn] at k
            exact go _ (by unfold wc_fld; rw [hq]; rfl) k
        · cases h
      · cases h
    · cases h
  case putfield n =>
    dsimp only at h
    split at h
    · rename_i c1 s1 v k1 j1 r
      split at h
      · rename_i c2 hsh
        split at h
        · rename_i hc
          simp only [Bool.and_eq_true, Bool.not_eq_true'] at hc
          have hcc := Nat.eq_of_beq_eq_true hc.1.1
          subst hcc
          have hlt := Nat.blt_eq.mp hc.1.2
          have hbo := hc.2
          have h35 := wc_k35 hsh (by decide)
          have h8 := wc_c8 hsh
          obtain ⟨q0, hq0, hw0⟩ := wc_plc (ad := ad) (cA := cA) (M := M) h35 (hs _ (List.mem_cons_of_mem _ List.mem_cons_self))
          rw [wc_ent0 hsh] at hq0
          have hlk : Jvm.Cond.fieldLink (wc_cn o) n (wc_cn c1) (wc_F c1 s1).2.1 (wc_F c1 s1).2.2.1 ∈ wc_tw := wc_fl_ok _ (of_decide_eq_true hlnk)
          have hn : wc_pc cd (i + 1) = pc + 3 := by rw [hlen] at hnx; exact Nat.eq_of_beq_eq_true hnx
          rw [hlen] at hdec
          split at h
          · cases h
          · rename_i hq
            cases h
            obtain ⟨hfi, hde⟩ := wc_pf_at hsh hlt hq
            rw [hbo] at hde
            exact va_put (D := D) (ci := c1) (v := .int v) (ty := .int) (C := wc_cn c1) (T := wc_F c1) (N := wc_nf c1) hx hb hts (wc_lay_ok h8) (wc_ty c1) (wc_ty_ok c1 h8) (wc_nm c1 h8) hown hK hP hD hS q0 hq0 (wc_cls_at h8) s1 hlt (hts _ hlk) (fun _ h9 => by rw [wc_F1 c1 h8 s1 hlt] at h9; exact h9) hfi (by rw [hde]; decide +kernel) rfl rfl (by simpa using hlt) hdec (fun H1 locs1 hP1 hD1 hS1 => by
              rw [wc_set0 hw0 hsh hq] at hP1 hD1
              have k := k H1 locs1 ls hP1 hD1 hS1 hl
              rw [hn] at k
              exact k)
        · cases h
      · cases h
    · cases h
  case getstatic n =>
    dsimp only at h
    split at h
    · rename_i k1
      cases h
      unfold wc_lnk at hlnk
      simp only [Bool.and_eq_true, decide_eq_true_eq] at hlnk
      have h35 := Nat.ble_eq.mp hlnk.1.2
      have h38 := Nat.blt_eq.mp hlnk.2
      have hn : wc_pc cd (i + 1) = pc + 3 := by rw [hlen] at hnx; exact Nat.eq_of_beq_eq_true hnx
      have k := k H locs ls hP hD hS hl
      rw [hn] at k
      rw [hlen] at hdec
      exact va_gets hx hb (hTZ k1 h35 h38).2 hS hown (hts _ (wc_gs_ok _ hlnk.1.1)) (fun _ h9 => h9) hdec k
    · cases h
  case arraylength =>
    dsimp only at h
    split at h
    · rename_i k1 r
      split at h
      · rename_i n1 hsh
        cases h
        obtain ⟨h35, h38, h6⟩ : 35 ≤ k1 ∧ k1 < 36 ∧ n1 = 6 := by
          have hh : ∀ k, k < 39 → (wc_sh k).1 = 9 → 35 ≤ k ∧ k < 36 ∧ (wc_sh k).2 = 6 := by decide
          rcases Nat.lt_or_ge k1 39 with h1 | h1
          · have h2 := hh k1 h1 (by rw [hsh])
            rw [hsh] at h2
            exact h2
          · have e1 : wc_shl[k1]? = none := List.getElem?_eq_none (by show 39 ≤ k1; exact h1)
            unfold wc_sh at hsh
            rw [e1] at hsh
            cases hsh
        subst h6
        have hn : wc_pc cd (i + 1) = pc + 1 := by rw [hlen] at hnx; exact Nat.eq_of_beq_eq_true hnx
        have k := k H locs ls hP hD hS hl
        rw [hn] at k
        rw [hlen] at hdec
        obtain ⟨cell, g1, g2, g3, g4, g5, g6, g7⟩ := (hTZ k1 h35 h38).1
        have hbl : ad k1 0 < s.heap.size := (Array.getElem?_eq_some_iff.mp g1).1
        exact W.alen (n := Int32.ofNat 6) hx hb (by rw [hS.2.1 _ hbl g7]; exact g1) g2 g5 rfl rfl hdec k
      · rename_i n1 hsh
        split at h
        · rename_i hc
          cases h
          have h38 : k1 = 38 := by
            have hh : ∀ k, k < 39 → (wc_sh k).1 = 10 → k = 38 := by decide
            rcases Nat.lt_or_ge k1 39 with h1 | h1
            · exact hh k1 h1 (by rw [hsh])
            · have e1 : wc_shl[k1]? = none := List.getElem?_eq_none (by show 39 ≤ k1; exact h1)
              unfold wc_sh at hsh
              rw [e1] at hsh
              cases hsh
          subst h38
          have hn : wc_pc cd (i + 1) = pc + 1 := by rw [hlen] at hnx; exact Nat.eq_of_beq_eq_true hnx
          have k := k H locs ls hP hD hS hl
          rw [hn] at k
          rw [hlen] at hdec
          obtain ⟨g1, g2, g3⟩ := hXS (Nat.blt_eq.mp hc)
          exact va_slen hx hb g1 g2 g3 hS hdec k
        · cases h
      · cases h
    · cases h
  case invokestatic n =>
    dsimp only at h
    split at h
    · rename_i t y x r
      split at h
      · rename_i h4
        have hn : wc_pc cd (i + 1) = pc + 3 := by rw [hlen] at hnx; exact Nat.eq_of_beq_eq_true hnx
        rw [hlen] at hdec
        have hq := wc_cat4 (ad := ad) h4
        have hlk : Jvm.Cond.methodLink (wc_cn o) n (wc_ny t) ∈ wc_tw ∨ t < 157 := by
          rcases Nat.lt_or_ge t 157 with h1 | h1
          · exact Or.inr h1
          · refine Or.inl (wc_nt_ok (o, n, t) ?_)
            unfold wc_lnk at hlnk
            replace hlnk : (if Nat.blt t 157 then decide ((o, n, t) ∈ wc_ml) && Nat.beq o (wc_m t).1 else decide ((o, n, t) ∈ wc_nt)) = true := hlnk
            rw [if_neg (by rw [Nat.blt_eq]; omega)] at hlnk
            exact of_decide_eq_true hlnk
        split at h
        · rename_i ht
          have ht := Nat.eq_of_beq_eq_true ht
          subst ht
          cases h
          have k := k H locs ls hP hD hS hl
          rw [hn] at k
          exact va_mmax hx hb (by rw [hml, hl.1]) hown (hts _ (hlk.resolve_right (by decide))) (hts _ (wc_nat 0 rfl rfl)) (hts _ (wc_nat 2 rfl rfl)) (hts _ (wc_nat 6 rfl rfl)) (by omega) (by omega) hce hsl hdec k
        · split at h
          · rename_i ht
            have ht := Nat.eq_of_beq_eq_true ht
            subst ht
            cases h
            have k := k H locs ls hP hD hS hl
            rw [hn] at k
            exact va_mmin hx hb (by rw [hml, hl.1]) hown (hts _ (hlk.resolve_right (by decide))) (hts _ (wc_nat 1 rfl rfl)) (hts _ (wc_nat 2 rfl rfl)) (hts _ (wc_nat 7 rfl rfl)) (by omega) (by omega) hce hsl hdec k
          · cases h
      · cases h
    · cases h
  all_goals cases h
end WCS
