/-! THE MAKER's runs are the machine's: constructors by contract -/
def wn_rm (d mc ms : Nat) : Room := { frames := d, cells := mc, slots := ms, locals := 40 * d }
def wn_wsm (c : Nat) : List Jvm.Cond := wn_mc c :: wc_tw
def wn_Pw (b : Nat) (cA : Nat → ClassId) (D : va_G) (h : List wn_C) (U : State) : Prop := wn_H b cA D h U.heap ∧ wn_W cA D U
def wn_Pc (b : Nat) (cA : Nat → ClassId) (D : va_G) (j : Nat) (h : List wn_C) : Array Value → State → Prop := va_Pc [.ref (b + j)] (wn_Pw b cA D h)
def wn_Qc (b : Nat) (cA : Nat → ClassId) (D : va_G) (h : List wn_C) : Array Value → State → Outcome → State → Prop := va_Qv (fun _ : Unit => True) (fun _ t => wn_H b cA D h t.heap) (wn_A b)
def wn_SS (l : Launch) (b : Nat) (cA : Nat → ClassId) (D : va_G) (d : Nat) (S : wn_S) : Prop :=
  ∀ (c j : Nat) (h h' : List wn_C) (mc ms : Nat), c < 8 → S c j h = some (h', mc, ms) → Met l (wn_y c) (wn_wsm c) (wn_rm d mc ms) (wn_Pc b cA D j h) (wn_Qc b cA D h') mc ms (wn_A b)
theorem wn_blind {b : Nat} {cA : Nat → ClassId} {D : va_G} {j : Nat} {h : List wn_C} : FrameBlind (wn_Pc b cA D j h) := fun a U g mk q => ⟨q.1, q.2.1, q.2.2.same (u := U) (U := U.calling g mk a) rfl⟩
theorem wn_good_in {c : Nat} (hc : c < 8) : GoodIn wc_tw (wn_wsm c) := fun w hw => by
  rcases List.mem_cons.mp hw with h | h
  · subst h; exact ⟨wn_mc_ok hc, good_of_word (wc_goodw _ (wn_mc_ok hc))⟩
  · exact ⟨h, good_of_word (wc_goodw _ h)⟩
theorem wn_y_ok : ∀ c, c < 8 → plainName (wn_y c).cls = true ∧ ((wn_y c).cls ≠ "java/lang/invoke/MethodHandle" ∧ (wn_y c).cls ≠ "java/lang/invoke/VarHandle") ∧ (parseMethodDescriptor (wn_y c).desc).map (fun d => d.parameters.length) = some 0 := by decide +kernel
theorem wn_mL_ok : ∀ c, c < 8 → wn_mL c ≤ 12 := by decide +kernel
theorem wn_lp_mono {S : wn_S} {o : Nat} {cd : List wc_E} : ∀ (n i : Nat) (L : wc_L) (st : List wc_V) (h : List wn_C) (nc ns : Nat) (h' : List wn_C) (mc ms : Nat), wn_lp S o cd n i L st h nc ns = some (h', mc, ms) → nc ≤ mc ∧ ns ≤ ms
  | 0, _, _, _, _, _, _, _, _, _, hq => nomatch hq
  | n + 1, i, L, st, h, nc, ns, h', mc, ms, hq => by
    have ih := wn_lp_mono (S := S) (o := o) (cd := cd) n
    unfold wn_lp at hq
    split at hq
    · split at hq
      · cases hq
        exact ⟨Nat.le_refl _, Nat.le_refl _⟩
      · cases hq
    · split at hq
      · split at hq
        · split at hq
          · exact ih _ _ _ _ _ _ _ _ _ hq
          · cases hq
        · split at hq
          · split at hq
            · have := ih _ _ _ _ _ _ _ _ _ hq
              omega
            · cases hq
          · cases hq
      · cases hq
    · split at hq
      · rename_i h2
        have h1 := wn_mono h2
        have h3 := ih _ _ _ _ _ _ _ _ _ hq
        omega
      · cases hq
section WNL
variable {p : Program} {l : Launch} {e : Env} {R : Room} {s : State} {m : MethodId} {args : Array Value} {below : List Frame} {meth : Method} {c : Code} {Q : State → Prop}
variable {b : Nat} {cA : Nat → ClassId} {D : va_G} {o nL dep : Nat} {bytes : ByteArray} {cd : List wc_E} {tt : Nat → Nat}
theorem wn_call {i pc idx t j : Nat} {L : wc_L} {r : List wc_V} {h h' : List wn_C} {nc ns mc ms : Nat} {S : wn_S} {H : Heap} {locs : List Loc} {ls : Array Slot} (hC : wn_Cx p R s m args meth c b cA D o nL dep bytes) (hSS : wn_SS l b cA D dep S) (h8 : t < 8) (h4 : Nat.ble r.length 4 = true) (hM : S t j h = some (h', mc, ms)) (hcc : nc + mc ≤ R.cells) (hss : ns + ms ≤ R.slots)
    (hlk : (o, idx, t) ∈ wn_nl ∨ (o, idx, t) ∈ wn_ml) (hdec : decode bytes pc = .ok (.invokespecial idx, 3)) (hn : wc_pc cd (i + 1) = pc + 3) (hH : wn_H b cA D h H) (hS : va_S (wn_A b) s.heap H locs) (hl : wc_lv (wn_ad b tt) nL L ls)
    (k : wn_At p l e R s m args below meth c Q b tt cA D nL cd (i + 1) L r h' (nc + mc) (ns + ms)) : W p l e R s m args below meth c H locs nc ns Q (F0 m pc ls ((.inr (.inl (0, j)) :: r : List wc_V).map (wc_cv (wn_ad b tt)))) := by
  obtain ⟨hx, hb, hml, hown, hts, hW, ⟨hfr, hlo⟩, hnm, hbs⟩ := hC
  have hMet := hSS t j h h' mc ms h8 hM
  have hmL := wn_mL_ok t h8
  obtain ⟨hy1, hy2, hy3⟩ := wn_y_ok t h8
  have hini : (Jvm.Cond.initialized (wn_y t).cls).before args s = true := hts _ (wc_in_ok h8)
  have hpre : PreS s H (wn_Pc b cA D j h) [.ref (b + j)] := ⟨wn_blind, fun U hU hWm => ⟨rfl, by rw [hU]; exact hH, hW.moved hWm⟩⟩
  have hrun : va_Run p l e R s m args below meth c H locs nc ns mc ms (F0 m pc ls (.ref (b + j) :: r.map (wc_cv (wn_ad b tt)))) (r.map (wc_cv (wn_ad b tt))) (wn_Qc b cA D h' (Value.ref (b + j) :: []).toArray) (wn_A b) := by
    rcases hlk with hlk | hlk
    · exact va_runIN (As := []) (n := 0) ⟨hx, hb, hml, hown, hts⟩ hMet ⟨va_cnB 0 hts (wn_good_in h8) rfl rfl rfl (hW.2.1 _ hlk) hini ⟨hy2.1, hy2.2, hy3⟩ ⟨hfr, by show 8 + (wn_mL t + 11) + 40 * dep ≤ R.locals; omega⟩, rfl, hts _ (wn_im_ok h8)⟩ hpre rfl rfl hl.1 rfl (lv_room (wc_cat4 h4)) hdec ⟨hcc, hss⟩
    · exact va_runI (As := []) (n := 0) ⟨hx, hb, hml, hown, hts⟩ hMet ⟨callB_of 0 hts (wn_good_in h8) rfl rfl rfl hini (hts _ (wn_ml_ok _ hlk)) ⟨hy2.1, hy2.2, hy3⟩ ⟨hfr, by show 8 + (wn_mL t + 11) + 40 * dep ≤ R.locals; omega⟩, rfl, hts _ (wn_im_ok h8)⟩ hpre rfl rfl hl.1 rfl (lv_room (wc_cat4 h4)) hdec ⟨hcc, hss⟩
  refine va_callv (a := (Value.ref (b + j) :: []).toArray) (post := fun _ : Unit => True) (B := fun _ t => wn_H b cA D h' t.heap) (A1 := wn_A b) hrun hS (fun q _ h => h) (fun q h => h) (fun u t H1 locs1 ht hvm hw hB hz hk hS1 => ?_)
  rw [ht] at hB
  have k := k H1 locs1 ls hB hS1 hl
  rw [hn] at k
  exact k
theorem wn_lp_ok {S : wn_S} {hh : List wn_C} {mc ms : Nat} (hC : wn_Cx p R s m args meth c b cA D o nL dep bytes) (hg : wn_good o bytes cd) (hSS : wn_SS l b cA D dep S) (hcc : mc ≤ R.cells) (hss : ms ≤ R.slots)
    (hend : ∀ (i pc len : Nat) (tg : List Nat) (ct : Int32) (cl : Int64) (L : wc_L), cd[i]? = some (pc, .return_, len, tg, ct, cl) → wn_At p l e R s m args below meth c Q b tt cA D nL cd i L [] hh mc ms) :
    ∀ (n i : Nat) (L : wc_L) (st : List wc_V) (h : List wn_C) (nc ns : Nat), wn_lp S o cd n i L st h nc ns = some (hh, mc, ms) → wn_At p l e R s m args below meth c Q b tt cA D nL cd i L st h nc ns
  | 0, _, _, _, _, _, _, hq => nomatch hq
  | n + 1, i, L, st, h, nc, ns, hq => by
    have ih := wn_lp_ok hC hg hSS hcc hss hend n
    unfold wn_lp at hq
    split at hq
    · rename_i pc len tg ct cl hcd
      split at hq
      · cases hq
        exact hend i pc len tg ct cl L hcd
      · cases hq
    · rename_i pc idx len t ct cl hcd
      obtain ⟨hdec, hlen, hlnk, hnx⟩ := hg i pc _ len [t] ct cl hcd
      have hpc : wc_pc cd i = pc := by unfold wc_pc; rw [hcd]
      have hn : wc_pc cd (i + 1) = pc + 3 := by rw [hlen] at hnx; exact Nat.eq_of_beq_eq_true hnx
      rw [hlen] at hdec
      split at hq
      · rename_i j r
        split at hq
        · rename_i ht
          have ht := Nat.eq_of_beq_eq_true ht
          subst ht
          split at hq
          · rename_i h4
            have k := ih _ _ _ _ _ _ hq
            have hlk : (o, idx) ∈ wn_ol := of_decide_eq_true hlnk
            obtain ⟨hx, hb, hml, hown, hts, hW, ⟨hfr, hlo⟩, hnm, hbs⟩ := hC
            intro H locs ls hH hS hl
            rw [hpc]
            have k := k H locs ls hH hS hl
            rw [hn] at k
            have hc4 := wc_cat4 (ad := wn_ad b tt) h4
            exact W.objInit hx hb hown (hts _ (wn_ol_ok _ hlk)) (hts _ wn_ob1) (hts _ wn_ob2) rfl (by rw [hml]; exact hl.1) rfl hdec (by omega) (by show 2 * 0 + _ + 12 ≤ _; omega) k
          · cases hq
        · rename_i ht
          split at hq
          · rename_i hc
            simp only [Bool.and_eq_true] at hc
            have h8 := Nat.blt_eq.mp hc.2
            split at hq
            · rename_i h' mc' ms' hM
              have hmo := wn_lp_mono _ _ _ _ _ _ _ _ _ _ hq
              have k := ih _ _ _ _ _ _ hq
              intro H locs ls hH hS hl
              rw [hpc]
              have hlk : (o, idx, t) ∈ wn_nl ∨ (o, idx, t) ∈ wn_ml := by
                replace hlnk : (if Nat.beq t 300 then decide ((o, idx) ∈ wn_ol) else (decide ((o, idx, t) ∈ wn_nl) || decide ((o, idx, t) ∈ wn_ml))) = true := hlnk
                rw [if_neg ht] at hlnk
                simpa using hlnk
              exact wn_call hC hSS h8 hc.1 hM (by omega) (by omega) hlk hdec hn hH hS hl k
            · cases hq
          · cases hq
      · cases hq
    · split at hq
      · rename_i h2
        have hmo := wn_lp_mono _ _ _ _ _ _ _ _ _ _ hq
        exact wn_stp_ok hC hg h2 (by omega) (by omega) (ih _ _ _ _ _ _ hq)
      · cases hq
end WNL
theorem wn_pc0 : ∀ c, c < 8 → wc_pc (wn_cd c) 0 = 0 := by decide +kernel
theorem wn_Sd_ok (l : Launch) (b : Nat) (cA : Nat → ClassId) (D : va_G) : ∀ d, wn_SS l b cA D d (wn_Sd d)
  | 0 => fun _ _ _ _ _ _ _ h => nomatch h
  | d + 1 => by
    intro c j h h' mc ms h8 hM
    have hSS := wn_Sd_ok l b cA D d
    unfold wn_Sd at hM
    split at hM
    · rename_i hc
      simp only [Bool.and_eq_true] at hc
      have hL1 := Nat.ble_eq.mp hc.2
      refine Met.ofW (cc := wn_b c) (maxL := wn_mL c) (ret := none) (wn_y_ok c h8).1 rfl ?_
      intro p e s m args below meth c0 s₁ B hml hv
      obtain ⟨rfl, hH, hW⟩ := hv
      have hx := B.exec
      have hb := B.bytes
      have hr := B.returns
      have hts := atoms_spec (ws := wn_wsm c) B.pre
      have hown : s.vm.findClass (wc_cn c) = some m.cls := findClass_of_methodNamed B.named
      have hlocks := B.notSynchronized
      have hin : meth.name = "<init>" := (name_of_methodNamed B.named B.method).1
      have hl := lv_entry [.ref (b + j)] (n := wn_mL c) hL1
      rw [lg_entry_eq]
      have hlv : wc_lv (wn_ad b (fun _ => 0)) (wn_mL c) (some (.inr (.inl (0, j))) :: List.replicate (wn_mL c - 1) none) ((lg_sl [.ref (b + j)] ++ List.replicate (wn_mL c - (lg_sl [.ref (b + j)]).length) Slot.unset).toArray) := by
        refine ⟨hl.1, hl.2.1, by simp; omega, fun i v hv => ?_⟩
        cases i with
        | zero =>
          cases hv
          exact hl.2.2 (0, .ref (b + j)) List.mem_cons_self
        | succ i =>
          rw [List.getElem?_cons_succ, List.getElem?_replicate] at hv
          split at hv <;> cases hv
      have hC : wn_Cx p (headSpec (wn_wsm c) (wn_rm (d + 1) mc ms)).room s m [Value.ref (b + j)].toArray meth c0 b cA D c (wn_mL c) d (wn_b c) :=
        ⟨hx, hb, hml, hown, fun w hw => hts w (List.mem_cons_of_mem _ hw), hW, ⟨Nat.le_refl _, Nat.le_refl _⟩, fun _ => hin, by rw [hH.1]; exact Nat.le_add_right _ _⟩
      have key := wn_lp_ok (tt := fun _ => 0) (e := e) (below := below) (Q := MQ below (wn_Qc b cA D h') [Value.ref (b + j)].toArray s mc ms (wn_A b)) hC (wn_good_of (wn_k_ok0 c h8)) hSS (Nat.le_refl _) (Nat.le_refl _) ?_ 2000 0 _ [] h 0 0 hM
      · have h9 := key s.heap [] _ hH va_S.rf hlv
        rw [wn_pc0 c h8] at h9
        exact h9
      · intro i pc len tg ct cl L hcd
        obtain ⟨hdec, hlen, -, -⟩ := wn_good_of (wn_k_ok0 c h8) i pc _ len tg ct cl hcd
        have hpc : wc_pc (wn_cd c) i = pc := by unfold wc_pc; rw [hcd]
        rw [hlen] at hdec
        intro H locs ls hH2 hS hlv2
        rw [hpc]
        exact W.vret hx hb hr (fun t ht hWm => ⟨⟨(), rfl, trivial, by show wn_H b cA D h' t.heap; rw [ht]; exact hH2⟩, hS.F ht⟩) hS.2.2 hdec hlocks
    · cases hM
/-- what the two constructors make, from an empty world: cells 0 .. -/
def wn_h1 : List wn_C := match wn_Sd 4 0 0 [.inl (0, (List.range (wc_nf 0)).map (wn_dv 0))] with
  | some (h, _, _) => h
  | none => []
def wn_h2 : List wn_C := match wn_Sd 4 7 197 (wn_h1 ++ [.inl (7, (List.range (wc_nf 7)).map (wn_dv 7))]) with
  | some (h, _, _) => h
  | none => []
def wn_t1 : Bool := match wn_Sd 4 0 0 [.inl (0, (List.range (wc_nf 0)).map (wn_dv 0))] with
  | some (h, nc, ns) => Nat.beq h.length 197 && Nat.beq nc 196 && Nat.ble ns 20000
  | none => false
def wn_t2 : Bool := match wn_Sd 4 7 197 (wn_h1 ++ [.inl (7, (List.range (wc_nf 7)).map (wn_dv 7))]) with
  | some (h, nc, ns) => Nat.beq h.length 211 && Nat.beq nc 13 && Nat.ble ns 20000
  | none => false
theorem wn_t1_ok : wn_t1 = true := by decide +kernel
theorem wn_t2_ok : wn_t2 = true := by decide +kernel
