/-! CALLS, returns, and the whole: what the engine says of a method the machine does -/
def wc_wsm (y : Nat) : List Jvm.Cond := wc_mc y :: wc_tw
def wc_rm (d : Nat) : Room := { frames := d, cells := 0, slots := 0, locals := 40 * d }
def wc_Wd (ad : wc_A) (cA : Nat → ClassId) (D : va_G) (A : Nat → Prop) (M : wc_M) (U : State) (H : Heap) : Prop :=
  va_P D wc_cls (wc_ws ad cA M) H ∧ va_K D wc_cls (wc_tys cA) U ∧ va_D A (wc_ws ad cA M) ∧ wc_TZ ad A U H
def wc_Qc (ad : wc_A) (cA : Nat → ClassId) (D : va_G) (A : Nat → Prop) (r : Option Int32) (M' : wc_M) : Array Value → State → Outcome → State → Prop := match r with
  | none => va_Qv (fun _ : Unit => True) (fun _ t => wc_Wd ad cA D A M' t t.heap) A
  | some v => va_Qi (fun (x : Int32) (_ : Unit) => x = v) (fun _ t => wc_Wd ad cA D A M' t t.heap) A
def wc_Pc (ad : wc_A) (cA : Nat → ClassId) (D : va_G) (A : Nat → Prop) (as : List wc_V) (M : wc_M) : Array Value → State → Prop := va_Pc (as.map (wc_cv ad)) (fun U => wc_Wd ad cA D A M U U.heap)
/-- what S says of methods is so on the machine, in a room of depth d -/
def wc_SS (l : Launch) (ad : wc_A) (cA : Nat → ClassId) (D : va_G) (A : Nat → Prop) (d : Nat) (S : wc_S) : Prop :=
  ∀ (y : Nat) (as : List wc_V) (M : wc_M) (r : Option Int32) (M' : wc_M), y < 157 → S y as M r M' → wc_okS as → Met l (wc_y y) (wc_wsm y) (wc_rm d) (wc_Pc ad cA D A as M) (wc_Qc ad cA D A r M') 0 0 A
theorem wc_TZ.moved {ad : wc_A} {A : Nat → Prop} {u U : State} {H : Heap} (hvm : u.vm.Alike U.vm) (h : wc_TZ ad A u H) : wc_TZ ad A U H := fun k h1 h2 => ⟨(h k h1 h2).1.moved hvm, (h k h1 h2).2.moved hvm⟩
theorem wc_TZ.kept {ad : wc_A} {A : Nat → Prop} {U : State} {H H1 : Heap} (h : wc_TZ ad A U H) (hq : ∀ a : Nat, a < H.size → ¬ A a → H1[a]? = H[a]?) : wc_TZ ad A U H1 := fun k h1 h2 => ⟨(h k h1 h2).1.kept hq, (h k h1 h2).2.kept hq⟩
theorem wc_Wd.moved {ad : wc_A} {cA : Nat → ClassId} {D : va_G} {A : Nat → Prop} {M : wc_M} {u U : State} {H : Heap} (hvm : u.vm.Alike U.vm) (h : wc_Wd ad cA D A M u H) : wc_Wd ad cA D A M U H := ⟨h.1, va_K.moved hvm h.2.1, h.2.2.1, h.2.2.2.moved hvm⟩
theorem wc_blind {ad : wc_A} {cA : Nat → ClassId} {D : va_G} {A : Nat → Prop} {as : List wc_V} {M : wc_M} : FrameBlind (wc_Pc ad cA D A as M) := fun a U g mk q => ⟨q.1, wc_Wd.moved (u := U) (U := U.calling g mk a) (Vm.Alike.refl U.vm) q.2⟩
theorem wc_tw_ok {args : Array Value} {s : State} (hts : ∀ w ∈ wc_tw, w.before args s = true) {y : Nat} (hy : y < 157) : ∀ w ∈ wc_wsm y, w.before args s = true := fun w hw => by
  rcases List.mem_cons.mp hw with h | h
  · subst h; exact hts _ (wc_mc_ok hy)
  · exact hts _ h
theorem wc_good_in {y : Nat} (hy : y < 157) : GoodIn wc_tw (wc_wsm y) := fun w hw => by
  rcases List.mem_cons.mp hw with h | h
  · subst h; exact ⟨wc_mc_ok hy, good_of_word (wc_goodw _ (wc_mc_ok hy))⟩
  · exact ⟨h, good_of_word (wc_goodw _ h)⟩
theorem wc_cv_ok {v : wc_V} {k j : Nat} (h : v = .inr (.inl (k, j))) (ad : wc_A) : wc_cv ad v = .ref (ad k j) := by rw [h]; rfl
section WCC
variable {p : Program} {l : Launch} {e : Env} {R : Room} {s : State} {m : MethodId} {args : Array Value} {below : List Frame} {meth : Method} {c : Code} {cells slots : Nat} {Q : State → Prop}
variable {ad : wc_A} {cA : Nat → ClassId} {D : va_G} {A : Nat → Prop} {X : Nat × (Nat → Int32)} {o nL dep : Nat} {bytes : ByteArray} {cd : List wc_E}
/-- behind a call -/
theorem wc_back {L : wc_L} {ls : Array Slot} {st0 : List Value} {rest : List wc_V} {i pc : Nat} {r : Option Int32} {M' : wc_M} {H : Heap} {locs : List Loc} {a : Array Value} (hn : wc_pc cd (i + 1) = pc + 3)
    (hr : va_Run p l e R s m args below meth c H locs cells slots 0 0 (F0 m pc ls st0) (rest.map (wc_cv ad)) (wc_Qc ad cA D A r M' a) A) (hS : va_S A s.heap H locs) (hl : wc_lv ad nL L ls)
    (k : wc_At p l e R s m args below meth c cells slots Q ad cA D A nL cd (i + 1) L (wc_pu r rest) M') : W p l e R s m args below meth c H locs cells slots Q (F0 m pc ls st0) := by
  cases r with
  | none =>
    refine va_callv (a := a) (post := fun _ : Unit => True) (B := fun _ t => wc_Wd ad cA D A M' t t.heap) (A1 := A) hr hS (fun q _ h => h) (fun q h => h) (fun u t H1 locs1 ht hvm hw hB hz hk hS1 => ?_)
    rw [ht] at hB
    have k := k H1 locs1 ls hB.1 hB.2.2.1 hS1 hl
    rw [hn] at k
    exact k
  | some v =>
    refine va_calli (a := a) (post := fun (x : Int32) (_ : Unit) => x = v) (B := fun _ t => wc_Wd ad cA D A M' t t.heap) (A1 := A) hr hS (fun q _ h => h) (fun q h => h) (fun x u t H1 locs1 ht hvm hw hB hz hk hS1 => ?_)
    rw [ht] at hB
    have k := k H1 locs1 ls hB.1 hB.2.2.1 hS1 hl
    rw [hn] at k
    rw [hw]
    exact k
theorem wc_caq_ok {i y : Nat} {as rest : List wc_V} {r : Option Int32} {L : wc_L} {st : List wc_V} {M M' : wc_M} {S : wc_S} (hC : wc_C p R s m args c cells slots ad cA D A X o nL dep bytes) (hg : wc_good o bytes cd) (hSS : wc_SS l ad cA D A dep S) (h : wc_caq cd i st = some (y, as, rest)) (hs : wc_okS st) (hM : S y as M r M')
    (k : wc_At p l e R s m args below meth c cells slots Q ad cA D A nL cd (i + 1) L (wc_pu r rest) M') : wc_At p l e R s m args below meth c cells slots Q ad cA D A nL cd i L st M := by
  obtain ⟨hx, hb, hml, hown, hts, hK, hTZ, hXS, hfr, hlo, hce, hsl⟩ := hC
  rcases hcd : cd[i]? with _ | ⟨pc, ins, len, tg, ct, cl⟩
  · unfold wc_caq at h
    rw [hcd] at h
    cases h
  obtain ⟨hdec, hlen, hlnk, hnx⟩ := hg i pc ins len tg ct cl hcd
  have hpc : wc_pc cd i = pc := by unfold wc_pc; rw [hcd]
  intro H locs ls hP hD hS hl
  rw [hpc]
  have hTZH : wc_TZ ad A s H := hTZ.kept hS.2.1
  have hpre : ∀ U : State, U.heap = H → s.WarmedH U.vm → wc_Wd ad cA D A M U U.heap := fun U hU hW => by
    rw [hU]
    exact wc_Wd.moved hW.alike ⟨hP, hK, hD, hTZH⟩
  have tk : ∀ n, wc_okS (st.take n).reverse := fun n v hv => hs v (List.mem_of_mem_take (List.mem_reverse.mp hv))
  have hrv : ∀ n, ((st.take n).reverse.map (wc_cv ad)).reverse ++ (st.drop n).map (wc_cv ad) = st.map (wc_cv ad) := fun n => by
    rw [List.map_reverse, List.reverse_reverse, ← List.map_append, List.take_append_drop]
  unfold wc_caq at h
  rw [hcd] at h
  dsimp only at h
  split at h
  · rename_i idx y1
    split at h
    · rename_i hc
      simp only [Bool.and_eq_true] at hc
      obtain ⟨⟨⟨hy, hst⟩, hn⟩, h4⟩ := hc
      have hy := Nat.blt_eq.mp hy
      have hn := Nat.ble_eq.mp hn
      cases h
      obtain ⟨hm1, hm2⟩ := wc_m_cls y hy
      obtain ⟨hm3, hm4, hm5⟩ := wc_m_name y hy
      have hnn : wc_pc cd (i + 1) = pc + 3 := by rw [hlen] at hnx; exact Nat.eq_of_beq_eq_true hnx
      rw [hlen] at hdec
      replace hlnk : (if Nat.blt y 157 then decide ((o, idx, y) ∈ wc_ml) && Nat.beq o (wc_m y).1 else decide ((o, idx, y) ∈ wc_nt)) = true := hlnk
      rw [if_pos (Nat.blt_eq.mpr hy), Bool.and_eq_true, decide_eq_true_eq] at hlnk
      have ho := Nat.eq_of_beq_eq_true hlnk.2
      have hcode := hts _ (wc_mc_ok hy)
      have hstat : (Jvm.Cond.static (wc_y y)).before args s = true := by
        have h1 := hts _ (wc_mk_ok hy)
        unfold wc_mk at h1
        rw [if_pos hst] at h1
        exact h1
      have hini : (Jvm.Cond.initialized (wc_y y).cls).before args s = true := hts _ (wc_in_ok hm1)
      have cw : CallB R s args (wc_cn o) idx (wc_y y) (wc_b y) (wc_m y).2.2.2.2.1 (wc_m y).2.2.2.2.2.1 (wc_wsm y) (wc_rm dep) 0 0 (wc_m y).2.2.2.2.2.2 :=
        callB_of _ hts (wc_good_in hy) rfl rfl rfl hini (hts _ (wc_ml_ok _ hlnk.1)) ⟨hm4.1, hm4.2, hm5⟩ ⟨hfr, by show 8 + ((wc_m y).2.2.2.2.1 + 11) + 40 * dep ≤ R.locals; omega⟩
      refine wc_back hnn (va_runS (As := (st.take (wc_m y).2.2.2.2.2.2).reverse.map (wc_cv ad)) (n := (wc_m y).2.2.2.2.2.2) ⟨hx, hb, hml, hown, hts⟩ (hSS y _ M r M' hy hM (tk _)) ⟨cw, hstat⟩ ⟨wc_blind, fun U hU hW => ⟨rfl, hpre U hU hW⟩⟩ rfl (by simp; omega) hl.1 (hrv _).symm (lv_room (wc_cat4 h4)) hdec ⟨hce, hsl⟩) hS hl k
    · cases h
  · rename_i idx y1
    split at h
    · rename_i hc
      simp only [Bool.and_eq_true, Bool.not_eq_true'] at hc
      obtain ⟨⟨⟨hy, hst⟩, hn⟩, h4⟩ := hc
      have hy := Nat.blt_eq.mp hy
      have hn := Nat.ble_eq.mp hn
      split at h
      · rename_i k1 j1 as1 has
        split at h
        · rename_i c1 hsh
          split at h
          · rename_i hcc
            have hcc := Nat.eq_of_beq_eq_true hcc
            cases h
            obtain ⟨hm1, hm2⟩ := wc_m_cls y hy
            obtain ⟨hm3, hm4, hm5⟩ := wc_m_name y hy
            have hnn : wc_pc cd (i + 1) = pc + 3 := by rw [hlen] at hnx; exact Nat.eq_of_beq_eq_true hnx
            rw [hlen] at hdec
            have hlnk : (o, idx, y) ∈ wc_ml := of_decide_eq_true hlnk
            have hcode := hts _ (wc_mc_ok hy)
            have hinst : (Jvm.Cond.instanceMethod (wc_y y)).before args s = true := by
              have h1 := hts _ (wc_mk_ok hy)
              unfold wc_mk at h1
              rw [if_neg (by rw [hst]; decide)] at h1
              exact h1
            have hini : (Jvm.Cond.initialized (wc_y y).cls).before args s = true := hts _ (wc_in_ok hm1)
            have cw : CallB R s args (wc_cn o) idx (wc_y y) (wc_b y) (wc_m y).2.2.2.2.1 (wc_m y).2.2.2.2.2.1 (wc_wsm y) (wc_rm dep) 0 0 (wc_m y).2.2.2.2.2.2 :=
              callB_of _ hts (wc_good_in hy) rfl rfl rfl hini (hts _ (wc_ml_ok _ hlnk)) ⟨hm4.1, hm4.2, hm5⟩ ⟨hfr, by show 8 + ((wc_m y).2.2.2.2.1 + 11) + 40 * dep ≤ R.locals; omega⟩
            have hok := tk ((wc_m y).2.2.2.2.2.2 + 1)
            rw [has] at hok
            have h35 := wc_k35 hsh (by decide)
            obtain ⟨q0, hq0, hw0⟩ := wc_plc (ad := ad) (cA := cA) (M := M) h35 (hok _ List.mem_cons_self)
            rw [wc_ent0 hsh] at hq0
            have hrec : ∃ cellB : Cell, H[ad k1 j1]? = some cellB ∧ cellB.vm.isStatics = false ∧ s.vm.findClass (wc_y y).cls = some cellB.cls := by
              have h9 := va_recv hK hP (wc_cls_at (wc_c8 hsh)) hq0
              rw [hcc] at h9
              exact h9
            have hstk : st.map (wc_cv ad) = (as1.map (wc_cv ad)).reverse ++ Value.ref (ad k1 j1) :: (st.drop ((wc_m y).2.2.2.2.2.2 + 1)).map (wc_cv ad) := by
              rw [← hrv ((wc_m y).2.2.2.2.2.2 + 1), has]
              simp [wc_cv]
            have hlen1 : as1.length = (wc_m y).2.2.2.2.2.2 := by
              have h9 := congrArg List.length has
              simp at h9
              omega
            refine wc_back hnn (va_runV (As := as1.map (wc_cv ad)) (b := ad k1 j1) (C := (wc_y y).cls) (n := (wc_m y).2.2.2.2.2.2) ⟨hx, hb, hml, hown, hts⟩ (hSS y _ M r M' hy hM hok) ⟨cw, hinst, hts _ (wc_ms_ok hy hst)⟩ ⟨wc_blind, hrec, fun U hU hW => ⟨rfl, hpre U hU hW⟩⟩ rfl (by simp; omega) hl.1 hstk (lv_room (wc_cat4 h4)) hdec ⟨hce, hsl⟩) hS hl k
          · cases h
        · cases h
      · cases h
    · cases h
  · cases h
theorem wc_caq_ks {i y : Nat} {as rest st : List wc_V} (r : Option Int32) (h : wc_caq cd i st = some (y, as, rest)) (hs : wc_okS st) : wc_okS (wc_pu r rest) := by
  have dr : ∀ n, wc_okS (wc_pu r (st.drop n)) := fun n v hv => by
    cases r with
    | none => exact hs v (List.mem_of_mem_drop hv)
    | some x =>
      rcases List.mem_cons.mp hv with h1 | h1
      · subst h1; rfl
      · exact hs v (List.mem_of_mem_drop h1)
  rcases hcd : cd[i]? with _ | ⟨pc, ins, len, tg, ct, cl⟩
  · unfold wc_caq at h
    rw [hcd] at h
    cases h
  unfold wc_caq at h
  rw [hcd] at h
  dsimp only at h
  split at h
  · split at h
    · cases h; exact dr _
    · cases h
  · split at h
    · split at h
      · split at h
        · split at h
          · cases h; exact dr _
          · cases h
        · cases h
      · cases h
    · cases h
  · cases h
/-- the engine's steps are the machine's, to the method's end -/
theorem wc_G_ok {S : wc_S} {zr : Option FieldType} {K : Option Int32 → wc_M → Prop} (hC : wc_C p R s m args c cells slots ad cA D A X o nL dep bytes) (hg : wc_good o bytes cd) (hSS : wc_SS l ad cA D A dep S)
    (hend : ∀ (i : Nat) (L : wc_L) (st : List wc_V) (M : wc_M) (P : Prop) (r : Option Int32), wc_req zr cd i st = some (P, r) → P → K r M → wc_At p l e R s m args below meth c cells slots Q ad cA D A nL cd i L st M) :
    ∀ (n i : Nat) (L : wc_L) (st : List wc_V) (M : wc_M), wc_G S X zr cd n i L st M K → wc_okL L → wc_okS st → wc_At p l e R s m args below meth c cells slots Q ad cA D A nL cd i L st M
  | 0, _, _, _, _, h, _, _ => h.elim
  | n + 1, i, L, st, M, h, hL, hs => by
    rcases h with ⟨i', L', st', M', h1, h2⟩ | ⟨P, t, f, st', h1, h2, h3⟩ | ⟨P, st', M', h1, h2, h3⟩ | ⟨y, as, rest, r, M', h1, h2, h3⟩ | ⟨x, cs, d, st', h1, h2, h3⟩ | ⟨P, r, h1, h2, h3⟩
    · obtain ⟨k1, k2⟩ := wc_stp_ks hg h1 hL hs
      exact wc_stp_ok hC hg h1 hL hs (wc_G_ok hC hg hSS hend n _ _ _ _ h2 k1 k2)
    · have k2 := wc_brq_ks h1 hs
      exact wc_brq_ok hC hg h1 (fun z => wc_G_ok hC hg hSS hend n _ _ _ _ (h2 z) hL k2) (fun z => wc_G_ok hC hg hSS hend n _ _ _ _ (h3 z) hL k2)
    · exact wc_chq_ok hC hg h1 hs h2 (wc_G_ok hC hg hSS hend n _ _ _ _ h3 hL (wc_chq_ks h1 h2 hs))
    · exact wc_caq_ok hC hg hSS h1 hs h2 (wc_G_ok hC hg hSS hend n _ _ _ _ h3 hL (wc_caq_ks r h1 hs))
    · have k2 := wc_swq_ks h1 hs
      exact wc_swq_ok hC hg h1 (fun q hq z => wc_G_ok hC hg hSS hend n _ _ _ _ (h2 q hq z) hL k2) (fun z => wc_G_ok hC hg hSS hend n _ _ _ _ (h3 z) hL k2)
    · exact hend i L st M P r h1 h2 h3
end WCC
