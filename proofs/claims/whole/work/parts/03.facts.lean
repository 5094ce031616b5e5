/-! what the tables say, decided by program -/
def hd_mi (y : Nat) : hd_MI := hd_MT.getD y (⟨"", "", ""⟩, ⟨#[]⟩, 0, none, 0, 0, 0, 0)
def hd_nm (y : Nat) : MethodName := (hd_mi y).1
def hd_cd (y : Nat) : ByteArray := (hd_mi y).2.1
def hd_mx (y : Nat) : Nat := (hd_mi y).2.2.1
def hd_rt (y : Nat) : Option FieldType := (hd_mi y).2.2.2.1
def hd_ow (y : Nat) : Nat := (hd_mi y).2.2.2.2.1
def hd_fr (y : Nat) : Nat := (hd_mi y).2.2.2.2.2.1
def hd_lo (y : Nat) : Nat := (hd_mi y).2.2.2.2.2.2.1
def hd_np (y : Nat) : Nat := (hd_mi y).2.2.2.2.2.2.2
def hd_c (ci : Nat) : vw_C := hd_cl.getD ci ("", hd_T0, 0)
def hd_mp (y : Nat) : Nat × Nat × Nat × Nat := hd_MP.getD y (0, 0, 0, 0)
def hd_tb : List Cond := lw_tbl.filter goodWord
theorem hd_tb_in {w : Cond} (h : w ∈ lw_tbl) (hg : goodWord w = true) : w ∈ hd_tb := List.mem_filter.mpr ⟨h, hg⟩
theorem hd_tb_at {w : Cond} {i : Nat} (h : lw_tbl[i]? = some w) (hg : goodWord w = true) : w ∈ hd_tb := hd_tb_in (List.mem_of_getElem? h) hg
def hd_fok (q : Nat × Nat × Nat × Nat × Nat) : Prop :=
  lw_tbl[q.2.2.2.2]? = some (Cond.fieldLink (hd_own q.1) q.2.1 ((hd_c q.2.2.1).2.1 q.2.2.2.1).1 ((hd_c q.2.2.1).2.1 q.2.2.2.1).2.1 ((hd_c q.2.2.1).2.1 q.2.2.2.1).2.2.1) ∧ q.2.2.1 < 9 ∧ q.2.2.2.1 < (hd_c q.2.2.1).2.2
set_option maxRecDepth 100000 in
theorem hd_FT_ok : ∀ q ∈ hd_FT, hd_fok q := by unfold hd_fok; decide +kernel
def hd_lok (q : Nat × Nat × Int32 × Nat) : Prop := lw_tbl[q.2.2.2]? = some (Cond.constant (hd_own q.1) q.2.1 q.2.2.1)
set_option maxRecDepth 100000 in
theorem hd_LT_ok : ∀ q ∈ hd_LT, hd_lok q := by unfold hd_lok; decide +kernel
/-- of a method that can be called -/
def hd_mok (y : Nat) : Prop :=
  lw_tbl[(hd_mp y).2.2.2]? = some (Cond.initialized (hd_nm y).cls) ∧ (hd_nm y).cls = hd_own (hd_ow y) ∧ (hd_nm y).cls ≠ "java/lang/invoke/MethodHandle" ∧ (hd_nm y).cls ≠ "java/lang/invoke/VarHandle" ∧ (parseMethodDescriptor (hd_nm y).desc).map (fun d => d.parameters.length) = some (hd_np y) ∧ plainName (hd_nm y).cls = true ∧ (hd_rt y = none ∨ hd_rt y = some .int ∨ hd_rt y = some .boolean)
set_option maxRecDepth 100000 in
theorem hd_MT_ok : ∀ y ∈ List.range 139, hd_mok y := by unfold hd_mok; decide +kernel
def hd_cok (q : Nat × Nat × Nat × Nat × Nat) : Prop :=
  (q.2.2.1 = 0 ∧ q.2.2.2.1 < 139 ∧ lw_tbl[q.2.2.2.2]? = some (Cond.methodLink (hd_own q.1) q.2.1 (hd_nm q.2.2.2.1)) ∧ lw_tbl[(hd_mp q.2.2.2.1).2.1]? = some (Cond.instanceMethod (hd_nm q.2.2.2.1)) ∧ lw_tbl[(hd_mp q.2.2.2.1).2.2.1]? = some (Cond.selects (hd_nm q.2.2.2.1).cls (hd_nm q.2.2.2.1) (hd_nm q.2.2.2.1)))
  ∨ (q.2.2.1 = 1 ∧ q.2.2.2.1 < 139 ∧ lw_tbl[q.2.2.2.2]? = some (Cond.methodLink (hd_own q.1) q.2.1 (hd_nm q.2.2.2.1)) ∧ lw_tbl[(hd_mp q.2.2.2.1).2.1]? = some (Cond.static (hd_nm q.2.2.2.1)))
  ∨ (q.2.2.1 = 2 ∧ q.2.2.2.1 < 139 ∧ ((q.1 = 3 ∧ q.2.1 = 37 ∧ q.2.2.2.1 = D_hasBit) ∨ (q.1 = 6 ∧ q.2.1 = 23 ∧ q.2.2.2.1 = D_within)) ∧ lw_tbl[(hd_mp q.2.2.2.1).2.1]? = some (Cond.static (hd_nm q.2.2.2.1)))
  ∨ (q.2.2.1 = 3 ∧ lw_tbl[q.2.2.2.2]? = some (Cond.methodLink (hd_own q.1) q.2.1 arraycopyName))
  ∨ (q.2.2.1 = 4 ∧ lw_tbl[q.2.2.2.2]? = some (Cond.methodLink (hd_own q.1) q.2.1 Lib.Math.max.name))
  ∨ (q.2.2.1 = 5 ∧ lw_tbl[q.2.2.2.2]? = some (Cond.methodLink (hd_own q.1) q.2.1 Lib.Math.min.name))
set_option maxRecDepth 100000 in
theorem hd_CT_ok : ∀ q ∈ hd_CT, hd_cok q := by unfold hd_cok; decide +kernel
set_option maxRecDepth 100000 in
theorem hd_JDK_ok : (Cond.native arraycopyName ∈ lw_tbl ∧ Cond.static arraycopyName ∈ lw_tbl ∧ Cond.initialized "java/lang/System" ∈ lw_tbl) ∧ (Cond.static Lib.Math.max.name ∈ lw_tbl ∧ Cond.static Lib.Math.min.name ∈ lw_tbl ∧ Cond.initialized "java/lang/Math" ∈ lw_tbl ∧ Cond.code Lib.Math.max.name Lib.Math.max.code 2 (some .int) ∈ lw_tbl ∧ Cond.code Lib.Math.min.name Lib.Math.min.code 2 (some .int) ∈ lw_tbl) := by decide +kernel
theorem hd_nms : ∀ ci, ci < 9 → ∀ a, a < (hd_c ci).2.2 → ∀ b, b < (hd_c ci).2.2 → a ≠ b → ((hd_c ci).2.1 a).2.1 ≠ ((hd_c ci).2.1 b).2.1 := by decide +kernel
def hd_ty (ci : Nat) : Nat → FieldType := [hd_t0, hd_t1, hd_t2, hd_t3, hd_t4, hd_t5, hd_t6, hd_t7, hd_t8].getD ci hd_t0
theorem hd_ty_ok : ∀ ci, ci < 9 → ∀ k, k < (hd_c ci).2.2 → parseFieldDescriptor ((hd_c ci).2.1 k).2.2.1 = some (hd_ty ci k) := by decide +kernel
set_option maxRecDepth 100000 in
theorem hd_ws_in0 : ∀ ci, ci < 9 → ∀ w ∈ u_ws (hd_c ci).1 (hd_c ci).2.1 (hd_c ci).2.2, w ∈ lw_tbl ∧ goodWord w = true := by decide +kernel
theorem hd_ws_in (ci : Nat) (h : ci < 9) : ∀ w ∈ u_ws (hd_c ci).1 (hd_c ci).2.1 (hd_c ci).2.2, w ∈ hd_tb := fun w hw => hd_tb_in (hd_ws_in0 ci h w hw).1 (hd_ws_in0 ci h w hw).2
theorem hd_cl_at (ci : Nat) (h : ci < 9) : hd_cl[ci]? = some (hd_c ci) := by
  match ci, h with
  | 0, _ => rfl
  | 1, _ => rfl
  | 2, _ => rfl
  | 3, _ => rfl
  | 4, _ => rfl
  | 5, _ => rfl
  | 6, _ => rfl
  | 7, _ => rfl
  | 8, _ => rfl
