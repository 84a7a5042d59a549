/-! FACTS of the tables, decided by the kernel -/
theorem wc_pl {ws tb : List Jvm.Cond} (is : List Nat) (h : is.map (fun i => tb[i]?) = ws.map some) : ∀ w ∈ ws, w ∈ tb := by
  intro w hw
  have h1 : some w ∈ is.map (fun i => tb[i]?) := by rw [h]; exact List.mem_map_of_mem hw
  obtain ⟨i, -, hi⟩ := List.mem_map.mp h1
  exact List.mem_of_getElem? hi
def wc_tw : List Jvm.Cond := lw_tbl.filter goodWord
theorem wc_tl {w : Jvm.Cond} (h : w ∈ lw_tbl) (g : goodWord w = true) : w ∈ wc_tw := List.mem_filter.mpr ⟨h, g⟩
theorem wc_tb {w : Jvm.Cond} (h : w ∈ tables_1) (g : goodWord w = true) : w ∈ wc_tw := wc_tl (List.mem_append_right _ h) g
theorem wc_goodw : ∀ w ∈ wc_tw, goodWord w = true := fun w h => (List.mem_filter.mp h).2
/-- a field link's word -/
def wc_flw (q : Nat × Nat × Nat × Nat) : Jvm.Cond := .fieldLink (wc_cn q.1) q.2.1 (wc_cn q.2.2.1) (wc_F q.2.2.1 q.2.2.2).2.1 (wc_F q.2.2.1 q.2.2.2).2.2.1
theorem wc_fl_ok0 : wc_flp.map (fun i => tables_1[i]?) = (wc_fl.map wc_flw).map some := by decide +kernel
theorem wc_fl_ok : ∀ q ∈ wc_fl, wc_flw q ∈ wc_tw := fun q h => wc_tb (wc_pl wc_flp wc_fl_ok0 _ (List.mem_map_of_mem h)) rfl
def wc_gsw (q : Nat × Nat × Nat) : Jvm.Cond := .fieldLink (wc_cn q.1) q.2.1 ((wc_gsn[q.2.2 - 35]?).getD ("", "")).1 ((wc_gsn[q.2.2 - 35]?).getD ("", "")).2 "[I"
theorem wc_gs_ok0 : wc_gsp.map (fun i => tables_1[i]?) = (wc_gs.map wc_gsw).map some := by decide +kernel
theorem wc_gs_ok : ∀ q ∈ wc_gs, wc_gsw q ∈ wc_tw := fun q h => wc_tb (wc_pl wc_gsp wc_gs_ok0 _ (List.mem_map_of_mem h)) rfl
theorem wc_ld_ok0 : wc_ldp.map (fun i => tables_1[i]?) = (wc_ld.map (fun q => Jvm.Cond.constant (wc_cn q.1) q.2.1 q.2.2)).map some := by decide +kernel
theorem wc_ld_ok : ∀ q ∈ wc_ld, Jvm.Cond.constant (wc_cn q.1) q.2.1 q.2.2 ∈ wc_tw := fun q h => wc_tb (wc_pl wc_ldp wc_ld_ok0 _ (List.mem_map_of_mem h)) rfl
theorem wc_le_ok0 : wc_lep.map (fun i => tables_1[i]?) = (wc_le.map (fun q => Jvm.Cond.constantLong (wc_cn q.1) q.2.1 q.2.2)).map some := by decide +kernel
theorem wc_le_ok : ∀ q ∈ wc_le, Jvm.Cond.constantLong (wc_cn q.1) q.2.1 q.2.2 ∈ wc_tw := fun q h => wc_tb (wc_pl wc_lep wc_le_ok0 _ (List.mem_map_of_mem h)) rfl
/-- methods -/
abbrev wc_mt : Type := Nat × Bool × String × String × Nat × Option FieldType × Nat
def wc_m (y : Nat) : wc_mt := (wc_mtl[y]?).getD (0, false, "", "", 0, none, 0)
def wc_y (y : Nat) : MethodName := ⟨wc_cn (wc_m y).1, (wc_m y).2.2.1, (wc_m y).2.2.2.1⟩
def wc_b (y : Nat) : ByteArray := (wc_mtb[y]?).getD ⟨#[]⟩
def wc_mc (y : Nat) : Jvm.Cond := .code (wc_y y) (wc_b y) (wc_m y).2.2.2.2.1 (wc_m y).2.2.2.2.2.1
def wc_mk (y : Nat) : Jvm.Cond := if (wc_m y).2.1 then .static (wc_y y) else .instanceMethod (wc_y y)
theorem wc_ml_ok0 : wc_mlp.map (fun i => tables_1[i]?) = (wc_ml.map (fun q => Jvm.Cond.methodLink (wc_cn q.1) q.2.1 (wc_y q.2.2))).map some := by decide +kernel
theorem wc_ml_ok : ∀ q ∈ wc_ml, Jvm.Cond.methodLink (wc_cn q.1) q.2.1 (wc_y q.2.2) ∈ wc_tw := fun q h => wc_tb (wc_pl wc_mlp wc_ml_ok0 _ (List.mem_map_of_mem h)) rfl
set_option maxRecDepth 100000 in
set_option maxHeartbeats 4000000 in
theorem wc_mc_ok0 : wc_mcp.map (fun i => tables_1[i]?) = ((List.range 157).map wc_mc).map some := by rfl
theorem wc_mc_ok {y : Nat} (h : y < 157) : wc_mc y ∈ wc_tw := wc_tb (wc_pl wc_mcp wc_mc_ok0 _ (List.mem_map_of_mem (List.mem_range.mpr h))) rfl
theorem wc_mk_ok0 : wc_mkp.map (fun i => tables_1[i]?) = ((List.range 157).map wc_mk).map some := by decide +kernel
theorem wc_mk_ok {y : Nat} (h : y < 157) : wc_mk y ∈ wc_tw := wc_tb (wc_pl wc_mkp wc_mk_ok0 _ (List.mem_map_of_mem (List.mem_range.mpr h))) (by unfold wc_mk; split <;> rfl)
theorem wc_ms_ok0 : (wc_msp.map (·.2)).map (fun i => lw_tbl[i]?) = (wc_msp.map (fun q => Jvm.Cond.selects (wc_y q.1).cls (wc_y q.1) (wc_y q.1))).map some := by decide +kernel
theorem wc_ms_in : ∀ y, y < 157 → (wc_m y).2.1 = false → y ∈ wc_msp.map (·.1) := by decide +kernel
theorem wc_ms_ok {y : Nat} (h : y < 157) (hs : (wc_m y).2.1 = false) : Jvm.Cond.selects (wc_y y).cls (wc_y y) (wc_y y) ∈ wc_tw := by
  obtain ⟨q, hq, rfl⟩ := List.mem_map.mp (wc_ms_in y h hs)
  exact wc_tl (wc_pl _ wc_ms_ok0 _ (List.mem_map_of_mem hq)) rfl
theorem wc_in_ok0 : wc_inp.map (fun i => tables_1[i]?) = ((List.range 8).map (fun c => Jvm.Cond.initialized (wc_cn c))).map some := by decide +kernel
theorem wc_in_ok {c : Nat} (h : c < 8) : Jvm.Cond.initialized (wc_cn c) ∈ wc_tw := wc_tb (wc_pl wc_inp wc_in_ok0 _ (List.mem_map_of_mem (List.mem_range.mpr h))) rfl
theorem wc_m_cls : ∀ y, y < 157 → (wc_m y).1 < 8 ∧ (wc_m y).2.2.2.2.1 ≤ 12 := by decide +kernel
theorem wc_m_name : ∀ y, y < 157 → plainName (wc_y y).cls = true ∧ ((wc_y y).cls ≠ "java/lang/invoke/MethodHandle" ∧ (wc_y y).cls ≠ "java/lang/invoke/VarHandle") ∧ (parseMethodDescriptor (wc_y y).desc).map (fun d => d.parameters.length) = some (wc_m y).2.2.2.2.2.2 := by decide +kernel
theorem wc_lay_ok0 : (List.range 8).map (fun c => ((wc_lyp[c]?).getD []).map (fun i => tables_1[i]?)) = (List.range 8).map (fun c => (u_ws (wc_cn c) (wc_F c) (wc_nf c)).map some) := by decide +kernel
theorem wc_lay_ok {c : Nat} (h : c < 8) : ∀ w ∈ u_ws (wc_cn c) (wc_F c) (wc_nf c), w ∈ wc_tw := by
  have h1 := congrArg (fun l => l[c]?) wc_lay_ok0
  simp only [List.getElem?_map, List.getElem?_range h, Option.map_some] at h1
  refine fun w hw => wc_tb (wc_pl _ (Option.some.inj h1) _ hw) ?_
  obtain ⟨k, -, rfl⟩ := List.mem_map.mp hw
  unfold u_lay
  split <;> rfl
theorem wc_nm : ∀ c, c < 8 → ∀ a, a < wc_nf c → ∀ b, b < wc_nf c → a ≠ b → (wc_F c a).2.1 ≠ (wc_F c b).2.1 := by decide +kernel
def wc_ty (c : Nat) : Nat → FieldType := fun k => (parseFieldDescriptor (wc_F c k).2.2.1).getD .int
theorem wc_ty_ok : ∀ c, c < 8 → ∀ k, k < wc_nf c → parseFieldDescriptor (wc_F c k).2.2.1 = some (wc_ty c k) := by decide +kernel
