/-! the planner's constructor: its table of digits -/
theorem dk_goodC {y : MethodName} {bytes : ByteArray} {mx : Nat} (h : Cond.code y bytes mx none ∈ lw_tbl) : GoodIn hd_tb (Cond.code y bytes mx none :: hd_tb) := by
  intro w hw
  rcases List.mem_cons.mp hw with rfl | hw
  · exact ⟨hd_tb_in h rfl, Or.inl rfl⟩
  · exact ⟨hw, good_of_word (List.mem_filter.mp hw).2⟩
set_option maxHeartbeats 4000000 in
theorem dk_shC (l : Launch) (k : Int32) : Met l (hd_nm 0) (hd_mw 0) (hd_rm 0) (va_Pc [.int k] (fun _ => True)) (va_Qi (fun r (_ : Unit) => r = 2 * (7 - k)) (fun _ _ => True) (fun _ => False)) 0 0 (fun _ => False) := by
  refine Met.ofW (cc := hd_cd 0) (maxL := 1) (ret := some .int) (by decide +kernel) rfl ?_
  intro p e s m args below meth c s₁ B hml hv
  obtain ⟨rfl, -⟩ := hv
  have hx := B.exec
  have hb := B.bytes
  have hr := B.returns
  have hlocks := B.notSynchronized
  have hl := lv_entry ([.int k]) (n := 1) (Nat.le_of_ble_eq_true rfl)
  rw [lg_entry_eq]
  generalize (lg_sl ([.int k]) ++ List.replicate (1 - (lg_sl ([.int k])).length) Slot.unset).toArray = ls at hl ⊢
  have hl : lv_has ls 1 [(0, .int k)] := hl
  refine lv_iconst (n := 2) (v := 2) hx hb (by decide +kernel) (by decide) ?_
  refine lv_bipush (n := 7) (v := 7) hx hb (by decide +kernel) (by decide) ?_
  refine lv_iload_n (k := 0) hx hb (by decide +kernel) rfl (lv_at hl 0 rfl) ?_
  refine lv_isub hx hb (by decide +kernel) ?_
  refine lv_imul hx hb (by decide +kernel) ?_
  exact W.iret hx hb hr (fun t ht hW => ⟨⟨_, (), rfl, rfl, trivial⟩, (va_S.rf (A := fun _ => False)).F ht⟩) (fun q hq => by cases hq) (by decide +kernel) hlocks
abbrev dk_wp (cI cZ : ClassId) (h0 q0 q1 q2 q3 q4 : Nat) (f : Nat → Int32) : va_W := [(h0, .inr (5, [.int (-1), .int 0, .int 0, .int 0, .ref q0, .ref q1, .ref q2, .ref q3, .ref q4])), (q0, .inl (cI, 256, .inl f)), (q1, .inl (cZ, 256, .inl (fun _ => 0))), (q2, .inl (cI, 256, .inl (fun _ => 0))), (q3, .inl (cI, 256, .inl (fun _ => 0))), (q4, .inl (cI, 256, .inl (fun _ => 0)))]
theorem dk_dgs : ∀ i, i < 8 → ∀ e, e < 2 ^ i → dk_dig e + ((1 : Int32) <<< ((2 * (7 - nI i)) &&& 31)) = dk_dig (e + 2 ^ i) := by decide +kernel
section DKP
variable {p : Program} {l : Launch} {e : Env} {s : State} {m : MethodId} {args : Array Value} {below : List Frame} {meth : Method} {c : Code} {Q : State → Prop} {D : va_G} {A : Nat → Prop} {cI cZ cA : ClassId} {h0 q0 q1 q2 q3 q4 : Nat}
abbrev dk_R5 : Room := { frames := 1, cells := 5, slots := 1280, locals := 20 }
set_option maxHeartbeats 4000000 in
set_option maxRecDepth 100000 in
theorem dk_pIn (hx : p.tables.exec = Jvm.exec) (hb : c.code = prog_7_method_1_code) (hts : ∀ w ∈ hd_tb, w.before args s = true) (hown : s.vm.findClass (hd_own 5) = some m.cls) (hK : va_K D hd_cl (hd_tys cI cZ cA) s) (hml : c.maxLocals = 4) {i : Nat} (hi : i < 8)
    (kk : ∀ (f : Nat → Int32) (H : Heap) (locs : List Loc) (ls : Array Slot), (∀ x, x < 2 ^ (i + 1) → f x = dk_dig x) → va_P D hd_cl (dk_wp cI cZ h0 q0 q1 q2 q3 q4 f) H → va_D A (dk_wp cI cZ h0 q0 q1 q2 q3 q4 f) → va_S A s.heap H locs → lv_has ls 4 [(1, .int (nI i)), (0, .ref h0)] → W p l e dk_R5 s m args below meth c H locs 5 1280 Q (F0 m 115 ls [])) :
    ∀ k x (f : Nat → Int32) (H : Heap) (locs : List Loc) (ls : Array Slot), x + k = 2 ^ i → (∀ y, y < 2 ^ i + x → f y = dk_dig y) → va_P D hd_cl (dk_wp cI cZ h0 q0 q1 q2 q3 q4 f) H → va_D A (dk_wp cI cZ h0 q0 q1 q2 q3 q4 f) → va_S A s.heap H locs → lv_has ls 4 [(3, .int (nI x)), (2, .int (nI (2 ^ i))), (1, .int (nI i)), (0, .ref h0)] → W p l e dk_R5 s m args below meth c H locs 5 1280 Q (F0 m 83 ls []) := by
  have h8 : 2 ^ i ≤ 128 := Nat.pow_le_pow_right (n := 2) (j := 7) (by omega) (by omega)
  have e2 : 2 ^ (i + 1) = 2 ^ i + 2 ^ i := by rw [Nat.pow_succ]; omega
  intro k
  induction k with
  | zero =>
    intro x f H locs ls hk hf hP hD hS hl
    refine lv_iload_n (k := 3) hx hb (by decide +kernel) rfl (lv_at hl 0 rfl) ?_
    refine lv_iload_n (k := 2) hx hb (by decide +kernel) rfl (lv_at hl 1 rfl) ?_
    refine lv_icmp_ge (off := 30) (tgt := 115) hx hb (by decide +kernel) (by decide) (fun _ => ?_) (fun z => absurd (by rw [nI_leI (by omega) (by omega)]; omega) z)
    exact kk f H locs ls (fun y hy => hf y (by omega)) hP hD hS (lv_sub hl [2, 3] rfl)
  | succ k ih =>
    intro x f H locs ls hk hf hP hD hS hl
    refine lv_iload_n (k := 3) hx hb (by decide +kernel) rfl (lv_at hl 0 rfl) ?_
    refine lv_iload_n (k := 2) hx hb (by decide +kernel) rfl (lv_at hl 1 rfl) ?_
    refine lv_icmp_ge (off := 30) (tgt := 115) hx hb (by decide +kernel) (by decide) (fun z => absurd z (by rw [nI_leI (by omega) (by omega)]; omega)) (fun _ => ?_)
    refine lv_aload_n (k := 0) hx hb (by decide +kernel) rfl (lv_at hl 3 rfl) ?_
    refine va_get (index := 24) hx hb hts (hd_ws_in 5 (by decide)) hown hK hP 0 rfl (hd_cl_at 5 (by decide)) 4 (by decide) (hts _ (hd_tb_in (by decide +kernel) rfl)) (fun _ q => q) rfl (by decide +kernel) ?_
    refine lv_iload_n (k := 2) hx hb (by decide +kernel) rfl (lv_at hl 1 rfl) ?_
    refine lv_iload_n (k := 3) hx hb (by decide +kernel) rfl (lv_at hl 0 rfl) ?_
    refine lv_ior hx hb (by decide +kernel) ?_
    have hidx : nI (2 ^ i) ||| nI x = nI (x + 2 ^ i) := by rw [← dk_shN i hi, dk_orN2 i hi x (by omega)]
    rw [hidx]
    refine lv_aload_n (k := 0) hx hb (by decide +kernel) rfl (lv_at hl 3 rfl) ?_
    refine va_get (index := 24) hx hb hts (hd_ws_in 5 (by decide)) hown hK hP 0 rfl (hd_cl_at 5 (by decide)) 4 (by decide) (hts _ (hd_tb_in (by decide +kernel) rfl)) (fun _ q => q) rfl (by decide +kernel) ?_
    refine lv_iload_n (k := 3) hx hb (by decide +kernel) rfl (lv_at hl 0 rfl) ?_
    refine va_iald hx hb hK hP 1 0 rfl rfl (vp_in_nI (by omega) (by omega)) (by decide +kernel) ?_
    rw [nI_clamp (show x < 2 ^ 31 by omega), hf x (by omega)]
    refine lv_iconst (n := 1) (v := 1) hx hb (by decide +kernel) (by decide) ?_
    refine lv_iload_n (k := 1) hx hb (by decide +kernel) rfl (lv_at hl 2 rfl) ?_
    refine va_calli (A1 := fun _ => False) (va_runS (As := [.int (nI i)]) (rest := [.int 1, .int (dk_dig x), .int (nI (x + 2 ^ i)), .ref q0]) (n := 1) (index := 41) ⟨hx, hb, hml, hown, hts⟩ (dk_shC l (nI i)) ⟨callB_of 1 hts (hd_good 0 (by decide)) rfl rfl rfl (hts _ (hd_tb_in (by decide +kernel) rfl)) (hts _ (hd_tb_in (by decide +kernel) rfl)) (by decide +kernel) ⟨Nat.le_of_ble_eq_true rfl, Nat.le_of_ble_eq_true rfl⟩, hts _ (hd_tb_in (by decide +kernel) rfl)⟩ ⟨fun a U g mk q => q, fun U hU hW => ⟨rfl, trivial⟩⟩ rfl rfl hl.1 rfl (lv_room (Nat.le_of_ble_eq_true rfl)) (show decode prog_7_method_1_code 103 = .ok (.invokestatic 41, 3) by decide +kernel) ⟨Nat.le_of_ble_eq_true rfl, Nat.le_of_ble_eq_true rfl⟩) hS (fun _ _ z => z.elim) (fun _ z => z.elim) (fun r u t H1 locs1 ht hvm hw hB hz1 hk1 hS1 => ?_)
    subst hw
    have hP1 := hP.kept (H1 := H1) (fun k9 q9 h9 => hk1 q9.1 (hP k9 q9 h9).lt (fun z => z))
    refine lv_ishl hx hb (by decide +kernel) ?_
    refine lv_iadd hx hb (by decide +kernel) ?_
    rw [dk_dgs i hi x (by omega)]
    refine va_iast hx hb hK hP1 hD hS1 1 0 rfl rfl (vp_in_nI (show x + 2 ^ i < 256 by omega) (by omega)) (by decide +kernel) (fun H2 locs2 hP2 hD2 hS2 => ?_)
    rw [nI_clamp (show x + 2 ^ i < 2 ^ 31 by omega)] at hP2 hD2
    refine lv_iinc (n := 1) (v := nI (x + 1)) (lv' := [(3, .int (nI (x + 1))), (2, .int (nI (2 ^ i))), (1, .int (nI i)), (0, .ref h0)]) hx hb (by decide +kernel) hl (k := 0) rfl (nI_1 x) (by decide) rfl (fun ls2 hl2 => ?_)
    refine lv_goto (off := -29) (tgt := 83) hx hb (by decide +kernel) (by decide) ?_
    refine ih (x + 1) (upd f (x + 2 ^ i) (dk_dig (x + 2 ^ i))) H2 locs2 ls2 (by omega) (fun y hy => ?_) hP2 hD2 hS2 hl2
    by_cases q : y = x + 2 ^ i
    · subst q
      exact pk_us
    · rw [pk_un q]
      exact hf y (by omega)
set_option maxHeartbeats 4000000 in
set_option maxRecDepth 100000 in
theorem dk_pOut (hx : p.tables.exec = Jvm.exec) (hb : c.code = prog_7_method_1_code) (hts : ∀ w ∈ hd_tb, w.before args s = true) (hown : s.vm.findClass (hd_own 5) = some m.cls) (hK : va_K D hd_cl (hd_tys cI cZ cA) s) (hml : c.maxLocals = 4)
    (kk : ∀ (f : Nat → Int32) (H : Heap) (locs : List Loc) (ls : Array Slot), (∀ x, x < 256 → f x = dk_dig x) → va_P D hd_cl (dk_wp cI cZ h0 q0 q1 q2 q3 q4 f) H → va_D A (dk_wp cI cZ h0 q0 q1 q2 q3 q4 f) → va_S A s.heap H locs → W p l e dk_R5 s m args below meth c H locs 5 1280 Q (F0 m 121 ls [])) :
    ∀ k i (f : Nat → Int32) (H : Heap) (locs : List Loc) (ls : Array Slot), i + k = 8 → (∀ y, y < 2 ^ i → f y = dk_dig y) → va_P D hd_cl (dk_wp cI cZ h0 q0 q1 q2 q3 q4 f) H → va_D A (dk_wp cI cZ h0 q0 q1 q2 q3 q4 f) → va_S A s.heap H locs → lv_has ls 4 [(1, .int (nI i)), (0, .ref h0)] → W p l e dk_R5 s m args below meth c H locs 5 1280 Q (F0 m 71 ls []) := by
  intro k
  induction k with
  | zero =>
    intro i f H locs ls hk hf hP hD hS hl
    have e8 : i = 8 := by omega
    subst e8
    refine lv_iload_n (k := 1) hx hb (by decide +kernel) rfl (lv_at hl 0 rfl) ?_
    refine lv_bipush (n := 8) (v := nI 8) hx hb (by decide +kernel) (by decide) ?_
    refine lv_icmp_ge (off := 47) (tgt := 121) hx hb (by decide +kernel) (by decide) (fun _ => ?_) (fun z => absurd (Int32.le_refl _) z)
    exact kk f H locs ls hf hP hD hS
  | succ k ih =>
    intro i f H locs ls hk hf hP hD hS hl
    refine lv_iload_n (k := 1) hx hb (by decide +kernel) rfl (lv_at hl 0 rfl) ?_
    refine lv_bipush (n := 8) (v := nI 8) hx hb (by decide +kernel) (by decide) ?_
    refine lv_icmp_ge (off := 47) (tgt := 121) hx hb (by decide +kernel) (by decide) (fun z => absurd z (hd_nle (by omega) (by omega))) (fun _ => ?_)
    refine lv_iconst (n := 1) (v := 1) hx hb (by decide +kernel) (by decide) ?_
    refine lv_iload_n (k := 1) hx hb (by decide +kernel) rfl (lv_at hl 0 rfl) ?_
    refine lv_ishl hx hb (by decide +kernel) ?_
    rw [dk_shN i (by omega)]
    refine lv_istore_n (k := 2) (lv' := [(2, .int (nI (2 ^ i))), (1, .int (nI i)), (0, .ref h0)]) hx hb (by decide +kernel) rfl hl (by decide) rfl (fun ls1 hl1 => ?_)
    refine lv_iconst (n := 0) (v := nI 0) hx hb (by decide +kernel) (by decide) ?_
    refine lv_istore_n (k := 3) (lv' := [(3, .int (nI 0)), (2, .int (nI (2 ^ i))), (1, .int (nI i)), (0, .ref h0)]) hx hb (by decide +kernel) rfl hl1 (by decide) rfl (fun ls2 hl2 => ?_)
    refine dk_pIn hx hb hts hown hK hml (show i < 8 by omega) (fun f2 H2 locs2 ls3 hf2 hP2 hD2 hS2 hl3 => ?_) (2 ^ i) 0 f H locs ls2 (by omega) (fun y hy => hf y (by omega)) hP hD hS hl2
    refine lv_iinc (n := 1) (v := nI (i + 1)) (lv' := [(1, .int (nI (i + 1))), (0, .ref h0)]) hx hb (by decide +kernel) hl3 (k := 0) rfl (nI_1 i) (by decide) rfl (fun ls4 hl4 => ?_)
    refine lv_goto (off := -47) (tgt := 71) hx hb (by decide +kernel) (by decide) ?_
    exact ih (i + 1) f2 H2 locs2 ls4 (by omega) hf2 hP2 hD2 hS2 hl4
end DKP
set_option maxHeartbeats 4000000 in
set_option maxRecDepth 100000 in
theorem dk_cn_Planner (l : Launch) (D : va_G) (cI cZ cA : ClassId) : dk_Cn l D cI cZ cA ⟨"HoursDesk$Planner", "<init>", "()V"⟩ prog_7_method_1_code 4 1 20 5 1280 5 [.int 0, .int 0, .int 0, .int 0, .null, .null, .null, .null, .null] [7, 62, 63, 64, 65, 66] 7 (fun M : hd_Mem => M 7 0 = -1 ∧ (∀ x, x < 256 → M 62 x = dk_dig x) ∧ M 63 0 = 0) := by
  refine dk_Cn_of (by decide +kernel) (by decide) ⟨3, rfl⟩ (fun p e s m args below meth c A ls Q h0 B hP hD hS hl fin => ?_)
  refine dk_fO B (idx := 3) (by decide +kernel) (by decide +kernel) (hd_tb_in (by decide +kernel) rfl) (hd_tb_in (by decide +kernel) rfl) (hd_tb_in (by decide +kernel) rfl) (Nat.le_of_ble_eq_true rfl) (Nat.le_of_ble_eq_true rfl) ?_
  refine dk_fI B (L := 1) (k := 0) (idx := 11) (v := (-1)) hP hD hS (by decide +kernel) (Or.inl ⟨-1, by decide +kernel, by decide, rfl⟩) (by decide +kernel) (by decide) (Nat.le_of_ble_eq_true rfl) (hd_tb_in (by decide +kernel) rfl) rfl rfl (fun H locs hP hD hS => ?_)
  refine dk_fI B (L := 1) (k := 1) (idx := 15) (v := 0) hP hD hS (by decide +kernel) (Or.inl ⟨0, by decide +kernel, by decide, rfl⟩) (by decide +kernel) (by decide) (Nat.le_of_ble_eq_true rfl) (hd_tb_in (by decide +kernel) rfl) rfl rfl (fun H locs hP hD hS => ?_)
  refine dk_fI B (L := 1) (k := 2) (idx := 18) (v := 0) hP hD hS (by decide +kernel) (Or.inl ⟨0, by decide +kernel, by decide, rfl⟩) (by decide +kernel) (by decide) (Nat.le_of_ble_eq_true rfl) (hd_tb_in (by decide +kernel) rfl) rfl rfl (fun H locs hP hD hS => ?_)
  refine dk_fI B (L := 1) (k := 3) (idx := 21) (v := 0) hP hD hS (by decide +kernel) (Or.inl ⟨0, by decide +kernel, by decide, rfl⟩) (by decide +kernel) (by decide) (Nat.le_of_ble_eq_true rfl) (hd_tb_in (by decide +kernel) rfl) rfl rfl (fun H locs hP hD hS => ?_)
  refine dk_fA B (L := 3) (k := 4) (idx := 24) (N := 256) (j := 0) (n := 256) (atype := .int) (ty := .int) (cy := cI) hP hD hS (by decide +kernel) (Or.inr (Or.inr ⟨256, by decide +kernel, by decide, rfl⟩)) (by decide +kernel) (by decide +kernel) rfl rfl (fun C z => by cases z) rfl (hd_tb_in (by decide +kernel) rfl) (by decide) (by decide) (by decide) (Nat.le_of_ble_eq_true rfl) (Nat.le_of_ble_eq_true rfl) (by decide) (Nat.le_of_ble_eq_true rfl) (hd_tb_in (by decide +kernel) rfl) rfl rfl (fun q0 H locs hP hD hS => ?_)
  refine dk_fA B (L := 3) (k := 5) (idx := 28) (N := 256) (j := 1) (n := 256) (atype := .boolean) (ty := .boolean) (cy := cZ) hP hD hS (by decide +kernel) (Or.inr (Or.inr ⟨256, by decide +kernel, by decide, rfl⟩)) (by decide +kernel) (by decide +kernel) rfl rfl (fun C z => by cases z) rfl (hd_tb_in (by decide +kernel) rfl) (by decide) (by decide) (by decide) (Nat.le_of_ble_eq_true rfl) (Nat.le_of_ble_eq_true rfl) (by decide) (Nat.le_of_ble_eq_true rfl) (hd_tb_in (by decide +kernel) rfl) rfl rfl (fun q1 H locs hP hD hS => ?_)
  refine dk_fA B (L := 3) (k := 6) (idx := 32) (N := 256) (j := 0) (n := 256) (atype := .int) (ty := .int) (cy := cI) hP hD hS (by decide +kernel) (Or.inr (Or.inr ⟨256, by decide +kernel, by decide, rfl⟩)) (by decide +kernel) (by decide +kernel) rfl rfl (fun C z => by cases z) rfl (hd_tb_in (by decide +kernel) rfl) (by decide) (by decide) (by decide) (Nat.le_of_ble_eq_true rfl) (Nat.le_of_ble_eq_true rfl) (by decide) (Nat.le_of_ble_eq_true rfl) (hd_tb_in (by decide +kernel) rfl) rfl rfl (fun q2 H locs hP hD hS => ?_)
  refine dk_fA B (L := 3) (k := 7) (idx := 35) (N := 256) (j := 0) (n := 256) (atype := .int) (ty := .int) (cy := cI) hP hD hS (by decide +kernel) (Or.inr (Or.inr ⟨256, by decide +kernel, by decide, rfl⟩)) (by decide +kernel) (by decide +kernel) rfl rfl (fun C z => by cases z) rfl (hd_tb_in (by decide +kernel) rfl) (by decide) (by decide) (by decide) (Nat.le_of_ble_eq_true rfl) (Nat.le_of_ble_eq_true rfl) (by decide) (Nat.le_of_ble_eq_true rfl) (hd_tb_in (by decide +kernel) rfl) rfl rfl (fun q3 H locs hP hD hS => ?_)
  refine dk_fA B (L := 3) (k := 8) (idx := 38) (N := 256) (j := 0) (n := 256) (atype := .int) (ty := .int) (cy := cI) hP hD hS (by decide +kernel) (Or.inr (Or.inr ⟨256, by decide +kernel, by decide, rfl⟩)) (by decide +kernel) (by decide +kernel) rfl rfl (fun C z => by cases z) rfl (hd_tb_in (by decide +kernel) rfl) (by decide) (by decide) (by decide) (Nat.le_of_ble_eq_true rfl) (Nat.le_of_ble_eq_true rfl) (by decide) (Nat.le_of_ble_eq_true rfl) (hd_tb_in (by decide +kernel) rfl) rfl rfl (fun q4 H locs hP hD hS => ?_)
  obtain ⟨hx, hb, hts, hown, hK, hA, hin, hci, hl0, hsz, hao⟩ := B
  refine lv_iconst (n := 0) (v := nI 0) hx hb (by decide +kernel) (by decide) ?_
  refine lv_istore_n (k := 1) (lv' := [(1, .int (nI 0)), (0, .ref h0)]) hx hb (by decide +kernel) rfl hl (by decide) rfl (fun ls1 hl1 => ?_)
  refine dk_pOut (q0 := q0) (q1 := q1) (q2 := q2) (q3 := q3) (q4 := q4) (h0 := h0) hx hb hts hown hK (by rw [← hsz]; exact hl.1) (fun f H2 locs2 ls2 hf hP2 hD2 hS2 => ?_) 8 0 (fun _ => 0) H locs ls1 (by omega) (fun y hy => ?_) hP hD hS hl1
  · exact fin (dk_u [(7, h0), (62, q0), (63, q1), (64, q2), (65, q3), (66, q4)] 1000 (fun _ => 0), fun k j => if k = 7 then (if j = 0 then -1 else 0) else if k = 62 then f j else 0) H2 locs2 ls2 _ ⟨rfl, hf, rfl⟩ hP2 hD2 rfl hS2 (by decide +kernel)
  · have : y = 0 := by omega
    subst this
    decide
