/-! steps of a constructor -/
def dk_aov (U : State) : Prop := (Cond.arrayOver (.array .int)).before #[] U = true
theorem dk_aov_moved {u U : State} (hal : u.vm.Alike U.vm) (h : dk_aov u) : dk_aov U := by
  unfold dk_aov at h ⊢
  simp only [Cond.before, Cond.holds, Cond.value] at h ⊢
  rw [hal.findClass]
  cases hf : u.vm.findClass (FieldType.array .int).toString with
  | none => rw [hf] at h; simp at h
  | some comp =>
    rw [hf] at h
    simp only [Option.bind_some] at h ⊢
    rw [hal.findIdx_congr _ (fun _ _ _ _ => rfl)]
    generalize hF : (u.vm.classes.findIdx? fun (x : Class) => match x.kind with | .array component _ => component == comp | _ => false) = fi at h ⊢
    cases fi with
    | none => simp at h
    | some c =>
      simp only [Option.bind_some] at h ⊢
      cases hk : u.vm.classes[c]? with
      | none => rw [hk] at h; simp at h
      | some k =>
        obtain ⟨k', hk', ek⟩ := hal.2.2 _ _ hk
        rw [hk] at h
        rw [hk', hal.findClass]
        have ekind : k'.kind = k.kind := by rw [ek]
        simp only [Option.map_some] at h ⊢
        rw [ekind]
        exact h
def dk_nest (U : State) : Prop := va_Nw (.methodLinkNest "HoursDesk" 9 ⟨"HoursDesk$People", "<init>", "()V"⟩ "HoursDesk") U ∧ va_Nw (.methodLinkNest "HoursDesk" 18 ⟨"HoursDesk$Places", "<init>", "()V"⟩ "HoursDesk") U ∧ va_Nw (.methodLinkNest "HoursDesk" 25 ⟨"HoursDesk$Entries", "<init>", "()V"⟩ "HoursDesk") U ∧ va_Nw (.methodLinkNest "HoursDesk" 32 ⟨"HoursDesk$Absences", "<init>", "()V"⟩ "HoursDesk") U ∧ va_Nw (.methodLinkNest "HoursDesk" 39 ⟨"HoursDesk$Sheets", "<init>", "()V"⟩ "HoursDesk") U ∧ va_Nw (.methodLinkNest "HoursDesk" 46 ⟨"HoursDesk$Acts", "<init>", "()V"⟩ "HoursDesk") U
def dk_ao (U : State) : Prop := dk_aov U ∧ dk_nest U
theorem dk_ao_use {args : Array Value} {U : State} (h : dk_ao U) : (Cond.arrayOver (.array .int)).before args U = true := h.1
theorem dk_ao_warm {u U : State} (hW : u.WarmedH U.vm) (h : dk_ao u) : dk_ao U := ⟨dk_aov_moved hW.alike h.1, h.2.1.warmM hW, h.2.2.1.warmM hW, h.2.2.2.1.warmM hW, h.2.2.2.2.1.warmM hW, h.2.2.2.2.2.1.warmM hW, h.2.2.2.2.2.2.warmM hW⟩
theorem dk_ao_same {U : State} {g : JFrame} {mk : MethodId} {a : Array Value} (h : dk_ao U) : dk_ao (U.calling g mk a) := ⟨dk_aov_moved (u := U) (U := U.calling g mk a) (Vm.Alike.refl U.vm) h.1, h.2.1.same rfl rfl, h.2.2.1.same rfl rfl, h.2.2.2.1.same rfl rfl, h.2.2.2.2.1.same rfl rfl, h.2.2.2.2.2.1.same rfl rfl, h.2.2.2.2.2.2.same rfl rfl⟩
theorem dk_own : ∀ ci, ci < 9 → (hd_c ci).1 = hd_own ci ∧ ∀ k, k < (hd_c ci).2.2 → ((hd_c ci).2.1 k).1 = hd_own ci := by decide +kernel
theorem dk_Pm {D : va_G} {cl : List vw_C} {ws : va_W} {H : Heap} : va_P D cl ws H ↔ ∀ q, q ∈ ws → va_at D cl q H := by
  constructor
  · intro h q hq
    obtain ⟨i, hi⟩ := List.getElem?_of_mem hq
    exact h i q hi
  · intro h k q hk
    exact h q (List.mem_of_getElem? hk)
theorem dk_Df {A : Nat → Prop} {ws ws' : va_W} (h : va_D A ws) (e : ws'.map Prod.fst = ws.map Prod.fst) : va_D A ws' := by
  have key : ∀ (i : Nat) (q : Nat × va_E), ws'[i]? = some q → ∃ q', ws[i]? = some q' ∧ q'.1 = q.1 := by
    intro i q hq
    have h1 : (ws'.map Prod.fst)[i]? = some q.1 := by rw [List.getElem?_map, hq]; rfl
    rw [e, List.getElem?_map] at h1
    cases hw : ws[i]? with
    | none => rw [hw] at h1; cases h1
    | some q' =>
      rw [hw] at h1
      exact ⟨q', rfl, Option.some.inj h1⟩
  refine ⟨fun i j p q hi hj hpq => ?_, fun k q hk => ?_⟩
  · obtain ⟨p', h1, h2⟩ := key i p hi
    obtain ⟨q', h3, h4⟩ := key j q hj
    exact h.1 i j p' q' h1 h3 (by rw [h2, h4]; exact hpq)
  · obtain ⟨q', h1, h2⟩ := key k q hk
    rw [← h2]
    exact h.2 k q' h1
theorem dk_Kc {D : va_G} {cl : List vw_C} {t1 t2 : List (ClassId × FieldType)} {U : State} (h1 : va_K D cl t1 U) (h2 : va_K D cl t2 U) {i j : Nat} {c c' : ClassId} {ty : FieldType} (hi : t1[i]? = some (c, ty)) (hj : t2[j]? = some (c', ty)) (ho : ∀ C, ty ≠ .object C) : c' = c := by
  have a := (h1.2 i _ hi).2
  have b := (h2.2 j _ hj).2
  cases ty with
  | object C => exact absurd rfl (ho C)
  | _ => exact Option.some.inj (Eq.trans (Eq.symm b) a)
theorem dk_arr {c : ClassId} {N : Nat} {f g : Nat → Value} (h : ∀ i, i < N → f i = g i) : arrV c N f = arrV c N g := by
  unfold arrV
  congr 1
  apply Array.ext
  · simp
  · intro i h1 h2
    simp at h1
    simp [h i h1]
def dk_ps (cc : ByteArray) (pc : Nat) (n : Int32) (L : Nat) : Prop := (∃ v : Int, decode cc pc = .ok (.iconst v, 1) ∧ Int32.ofInt v = n ∧ L = 1) ∨ (∃ v : Int, decode cc pc = .ok (.bipush v, 2) ∧ (Int8.ofInt v).toInt32 = n ∧ L = 2) ∨ (∃ v : Int, decode cc pc = .ok (.sipush v, 3) ∧ (Int16.ofInt v).toInt32 = n ∧ L = 3)
section DKB
variable {p : Program} {l : Launch} {e : Env} {R : Room} {s : State} {m : MethodId} {args : Array Value} {below : List Frame} {meth : Method} {c : Code} {H : Heap} {locs : List Loc} {cells slots : Nat} {Q : State → Prop}
variable {cc : ByteArray} {pc : Nat} {ls : Array Slot} {rest : List Value} {D : va_G} {A : Nat → Prop} {H0 : Heap} {cI cZ cA : ClassId} {ci h0 : Nat}
theorem dk_psh (hx : p.tables.exec = Jvm.exec) (hb : c.code = cc) {n : Int32} {L : Nat} (h : dk_ps cc pc n L) (k : W p l e R s m args below meth c H locs cells slots Q (F0 m (pc + L) ls (.int n :: rest))) : W p l e R s m args below meth c H locs cells slots Q (F0 m pc ls rest) := by
  rcases h with ⟨v, h1, h2, rfl⟩ | ⟨v, h1, h2, rfl⟩ | ⟨v, h1, h2, rfl⟩
  · exact lv_iconst hx hb h1 h2 k
  · exact lv_bipush hx hb h1 h2 k
  · exact lv_sipush hx hb h1 h2 k
/-- what holds all along a constructor -/
def dk_bx (p : Program) (s : State) (m : MethodId) (args : Array Value) (meth : Method) (c : Code) (cc : ByteArray) (ci : Nat) (D : va_G) (cI cZ cA : ClassId) (A : Nat → Prop) (H0 : Heap) (ls : Array Slot) (h0 : Nat) : Prop :=
  p.tables.exec = Jvm.exec ∧ c.code = cc ∧ (∀ w ∈ hd_tb, w.before args s = true) ∧ s.vm.findClass (hd_own ci) = some m.cls ∧ va_K D hd_cl (hd_tys cI cZ cA) s ∧ (∀ q, H0.size ≤ q → A q) ∧ meth.name = "<init>" ∧ ci < 9 ∧ ls[0]? = some (.val (.ref h0)) ∧ ls.size = c.maxLocals ∧ dk_ao s
theorem dk_fO (B : dk_bx p s m args meth c cc ci D cI cZ cA A H0 ls h0) {idx : Nat} (d0 : decode cc pc = .ok (.aload_n 0, 1)) (d1 : decode cc (pc + 1) = .ok (.invokespecial idx, 3)) (hl : Cond.methodLink (hd_own ci) idx objectInit ∈ hd_tb) (hi : Cond.instanceMethod objectInit ∈ hd_tb) (hc : Cond.code objectInit ⟨#[0xb1]⟩ 1 none ∈ hd_tb) (hf : 1 ≤ R.frames) (hlo : 12 ≤ R.locals)
    (kk : W p l e R s m args below meth c H locs cells slots Q (F0 m (pc + 4) ls [])) : W p l e R s m args below meth c H locs cells slots Q (F0 m pc ls []) := by
  obtain ⟨hx, hb, hts, hown, hK, hA, hin, hci, hl0, hsz, hao⟩ := B
  refine lv_aload_n hx hb d0 rfl hl0 ?_
  refine W.objInit hx hb hown (hts _ hl) (hts _ hi) (hts _ hc) rfl hsz rfl d1 hf ?_ ?_
  · show 2 * 0 + 0 + 12 ≤ R.locals
    omega
  · exact W.eq (g2 := F0 m (pc + 4) ls []) rfl kk
theorem dk_fI (B : dk_bx p s m args meth c cc ci D cI cZ cA A H0 ls h0) {L k idx : Nat} {v : Int32} {fs : List Value} {wr : va_W} (hP : va_P D hd_cl ((h0, .inr (ci, fs)) :: wr) H) (hD : va_D A ((h0, .inr (ci, fs)) :: wr)) (hS : va_S A H0 H locs) (d0 : decode cc pc = .ok (.aload_n 0, 1)) (dp : dk_ps cc (pc + 1) v L) (df : decode cc (pc + 1 + L) = .ok (.putfield idx, 3)) (hk : k < (hd_c ci).2.2) (hkl : k < fs.length)
    (hlk : Cond.fieldLink (hd_own ci) idx ((hd_c ci).2.1 k).1 ((hd_c ci).2.1 k).2.1 ((hd_c ci).2.1 k).2.2.1 ∈ hd_tb) (hfin : ((hd_c ci).2.1 k).2.2.2 = false) (hint : hd_ty ci k = .int)
    (kk : ∀ (H1 : Heap) (locs1 : List Loc), va_P D hd_cl ((h0, .inr (ci, fs.set k (.int v))) :: wr) H1 → va_D A ((h0, .inr (ci, fs.set k (.int v))) :: wr) → va_S A H0 H1 locs1 → W p l e R s m args below meth c H1 locs1 cells slots Q (F0 m (pc + 1 + L + 3) ls rest)) : W p l e R s m args below meth c H locs cells slots Q (F0 m pc ls rest) := by
  obtain ⟨hx, hb, hts, hown, hK, hA, hin, hci, hl0, hsz, hao⟩ := B
  refine lv_aload_n hx hb d0 rfl hl0 (dk_psh hx hb dp ?_)
  exact va_put hx hb hts (hd_ws_in ci hci) (hd_ty ci) (hd_ty_ok ci hci) (hd_nms ci hci) hown hK hP hD hS 0 rfl (hd_cl_at ci hci) k hk (hts _ hlk) (fun _ q => q) hfin (ty := .int) (v := .int v) (by rw [hd_ty_ok ci hci k hk, hint]) rfl rfl hkl df (fun H1 locs1 hP1 hD1 hS1 => kk H1 locs1 hP1 hD1 hS1)
/-- a cell in a final field -/
theorem dk_pF (B : dk_bx p s m args meth c cc ci D cI cZ cA A H0 ls h0) {k idx q : Nat} {fs : List Value} {wr : va_W} (hP : va_P D hd_cl ((h0, .inr (ci, fs)) :: wr) H) (hD : va_D A ((h0, .inr (ci, fs)) :: wr)) (hS : va_S A H0 H locs) (df : decode cc pc = .ok (.putfield idx, 3)) (hk : k < (hd_c ci).2.2) (hkl : k < fs.length)
    (hlk : Cond.fieldLink (hd_own ci) idx ((hd_c ci).2.1 k).1 ((hd_c ci).2.1 k).2.1 ((hd_c ci).2.1 k).2.2.1 ∈ hd_tb) (hfin : ((hd_c ci).2.1 k).2.2.2 = true) (hnr : narrow (hd_ty ci k) (.ref q) = .ref q) (hft : fits (hd_ty ci k) (.ref q) = true)
    (kk : ∀ (H1 : Heap) (locs1 : List Loc), va_P D hd_cl ((h0, .inr (ci, fs.set k (.ref q))) :: wr) H1 → va_D A ((h0, .inr (ci, fs.set k (.ref q))) :: wr) → va_S A H0 H1 locs1 → W p l e R s m args below meth c H1 locs1 cells slots Q (F0 m (pc + 3) ls rest)) : W p l e R s m args below meth c H locs cells slots Q (F0 m pc ls (.ref q :: .ref h0 :: rest)) := by
  obtain ⟨hx, hb, hts, hown, hK, hA, hin, hci, hl0, hsz, hao⟩ := B
  exact va_putF hx hb hts (hd_ws_in ci hci) (hd_ty ci) (hd_ty_ok ci hci) (hd_nms ci hci) hown hK hP hD hS 0 rfl (hd_cl_at ci hci) k hk (hts _ hlk) (fun _ q => q) hfin hin ((dk_own ci hci).2 k hk) (ty := hd_ty ci k) (v := .ref q) (hd_ty_ok ci hci k hk) hnr hft hkl df (fun H1 locs1 hP1 hD1 hS1 => kk H1 locs1 hP1 hD1 hS1)
theorem dk_fA (B : dk_bx p s m args meth c cc ci D cI cZ cA A H0 ls h0) {L k idx N j : Nat} {n : Int32} {atype : ArrayType} {ty : FieldType} {cy : ClassId} {fs : List Value} {wr : va_W} (hP : va_P D hd_cl ((h0, .inr (ci, fs)) :: wr) H) (hD : va_D A ((h0, .inr (ci, fs)) :: wr)) (hS : va_S A H0 H locs) (d0 : decode cc pc = .ok (.aload_n 0, 1)) (dp : dk_ps cc (pc + 1) n L) (dn : decode cc (pc + 1 + L) = .ok (.newarray atype, 2)) (df : decode cc (pc + 1 + L + 2) = .ok (.putfield idx, 3))
    (hat : newarray.typeOf atype = ty) (hcy : (hd_tys cI cZ cA)[j]? = some (cy, ty)) (ho : ∀ C, ty ≠ .object C) (hdv : defaultValue ty = .int 0) (hac : Cond.arrayClass ty ∈ hd_tb) (hn : ¬ n < 0) (hN : n.toNatClampNeg = N) (hbytes : N * componentBytes ty ≤ 536870912) (hcells : cells + 1 ≤ R.cells) (hslots : slots + N ≤ R.slots) (hk : k < (hd_c ci).2.2) (hkl : k < fs.length)
    (hlk : Cond.fieldLink (hd_own ci) idx ((hd_c ci).2.1 k).1 ((hd_c ci).2.1 k).2.1 ((hd_c ci).2.1 k).2.2.1 ∈ hd_tb) (hfin : ((hd_c ci).2.1 k).2.2.2 = true) (hft : hd_ty ci k = .array ty)
    (kk : ∀ (q : Nat) (H1 : Heap) (locs1 : List Loc), va_P D hd_cl ((h0, .inr (ci, fs.set k (.ref q))) :: (wr ++ [(q, .inl (cy, N, .inl (fun _ => 0)))])) H1 → va_D A ((h0, .inr (ci, fs.set k (.ref q))) :: (wr ++ [(q, .inl (cy, N, .inl (fun _ => 0)))])) → va_S A H0 H1 locs1 → W p l e R s m args below meth c H1 locs1 (cells + 1) (slots + N) Q (F0 m (pc + 1 + L + 2 + 3) ls rest)) : W p l e R s m args below meth c H locs cells slots Q (F0 m pc ls rest) := by
  have B2 := B
  obtain ⟨hx, hb, hts, hown, hK, hA, hin, hci, hl0, hsz, hao⟩ := B2
  subst hat
  refine lv_aload_n hx hb d0 rfl hl0 (dk_psh hx hb dp ?_)
  refine va_newa (a0 := (N, .inl (fun _ => 0))) hx hb (hts _ hac) rfl hK hP hD hS hA (fun cx => ?_) hn hN hbytes hcells hslots dn (fun q cx H1 hK1 hP1 hD1 hS1 => ?_)
  · rw [vp_cell_i, hdv]
  · have ecx : cx = cy := dk_Kc hK hK1 (i := j) (j := 3) hcy rfl ho
    subst ecx
    exact dk_pF B (fs := fs) (wr := wr ++ [(q, (.inl (cx, N, .inl (fun _ => 0)) : va_E))]) (show va_P D hd_cl ((h0, .inr (ci, fs)) :: (wr ++ [(q, .inl (cx, N, .inl (fun _ => 0)))])) H1 from hP1) (show va_D A ((h0, .inr (ci, fs)) :: (wr ++ [(q, .inl (cx, N, .inl (fun _ => 0)))])) from hD1) hS1 df hk hkl hlk hfin (by rw [hft]; rfl) (by rw [hft]; rfl) (fun H2 locs2 hP2 hD2 hS2 => kk q H2 locs2 hP2 hD2 hS2)
theorem dk_fM (B : dk_bx p s m args meth c cc ci D cI cZ cA A H0 ls h0) {L1 L2 k idx cidx N K : Nat} {n kn : Int32} {fs : List Value} {wr : va_W} (hP : va_P D hd_cl ((h0, .inr (ci, fs)) :: wr) H) (hD : va_D A ((h0, .inr (ci, fs)) :: wr)) (hS : va_S A H0 H locs) (d0 : decode cc pc = .ok (.aload_n 0, 1)) (dp1 : dk_ps cc (pc + 1) n L1) (dp2 : dk_ps cc (pc + 1 + L1) kn L2) (dn : decode cc (pc + 1 + L1 + L2) = .ok (.multianewarray cidx 2, 4)) (df : decode cc (pc + 1 + L1 + L2 + 4) = .ok (.putfield idx, 3))
    (hcl : Cond.classLink (hd_own ci) cidx "[[I" ∈ hd_tb) (hac : Cond.arrayClass .int ∈ hd_tb) (hn : ¬ n < 0) (hkn : ¬ kn < 0) (hN : n.toNatClampNeg = N) (hKn : kn.toNatClampNeg = K) (hb1 : N * 4 ≤ 536870912) (hb2 : K * 4 ≤ 536870912) (hcells : cells + (1 + N) ≤ R.cells) (hslots : slots + (N + N * K) ≤ R.slots) (hk : k < (hd_c ci).2.2) (hkl : k < fs.length)
    (hlk : Cond.fieldLink (hd_own ci) idx ((hd_c ci).2.1 k).1 ((hd_c ci).2.1 k).2.1 ((hd_c ci).2.1 k).2.2.1 ∈ hd_tb) (hfin : ((hd_c ci).2.1 k).2.2.2 = true) (hft : hd_ty ci k = .array (.array .int))
    (kk : ∀ (q : Nat) (r : Nat → Nat) (H1 : Heap) (locs1 : List Loc), (∀ g : Nat → Nat, (∀ i, i < N → g i = r i) → va_P D hd_cl ((h0, .inr (ci, fs.set k (.ref q))) :: ((wr ++ [(q, .inl (cA, N, .inr (.inr (.inr (.inr (fun i => some (g i)))))))]) ++ (List.range N).map (fun i => (r i, .inl (cI, K, .inl (fun _ => 0)))))) H1 ∧ va_D A ((h0, .inr (ci, fs.set k (.ref q))) :: ((wr ++ [(q, .inl (cA, N, .inr (.inr (.inr (.inr (fun i => some (g i)))))))]) ++ (List.range N).map (fun i => (r i, .inl (cI, K, .inl (fun _ => 0))))))) → va_S A H0 H1 locs1 → W p l e R s m args below meth c H1 locs1 (cells + 1 + N) (slots + N + N * K) Q (F0 m (pc + 1 + L1 + L2 + 4 + 3) ls rest)) : W p l e R s m args below meth c H locs cells slots Q (F0 m pc ls rest) := by
  have B2 := B
  obtain ⟨hx, hb, hts, hown, hK, hA, hin, hci, hl0, hsz, hao⟩ := B2
  refine lv_aload_n hx hb d0 rfl hl0 (dk_psh hx hb dp1 (dk_psh hx hb dp2 ?_))
  have hcy : s.vm.findClass (FieldType.array .int).toString = some cI := (hK.2 0 (cI, .int) rfl).2
  have en : ∀ X : va_W, X ++ va_pl [] (fun _ => (.inr (0, []) : va_E)) = X := fun X => List.append_nil X
  refine va_mna (X := (h0, .inr (ci, fs)) :: wr) (L := []) (f := fun _ => (.inr (0, []) : va_E)) (ty := .int) (z := (K, .inl (fun _ => 0))) hx hb hown (hts _ hcl) (dk_ao_use hao) (hts _ hac) hcy hK (by rw [en]; exact hP) (by rw [en]; exact hD) hS hA hn hkn hN hKn hb1 hb2 (by omega) rfl rfl hcells hslots (fun cx => ?_) dn (fun q r cx H1 _ _ hK1 hP1 hD1 hS1 => ?_)
  · show ({ cls := cx, slots := Array.replicate K (.int 0), vm := .none } : Cell) = _
    rw [arrV_new, vp_cell_i]
  · have ecx : cx = cA := dk_Kc hK hK1 (i := 2) (j := 3) rfl rfl (fun C z => by cases z)
    subst ecx
    rw [← vr_rows (L := []) (fun a _ z => by cases z)] at hP1 hD1
    have hP1' : ∀ g : Nat → Nat, (∀ i, i < N → g i = r i) → va_P D hd_cl ((h0, .inr (ci, fs)) :: ((wr ++ [(q, .inl (cx, N, .inr (.inr (.inr (.inr (fun i => some (g i)))))))]) ++ (List.range N).map (fun i => (r i, .inl (cI, K, .inl (fun _ => 0)))))) H1 ∧ va_D A ((h0, .inr (ci, fs)) :: ((wr ++ [(q, .inl (cx, N, .inr (.inr (.inr (.inr (fun i => some (g i)))))))]) ++ (List.range N).map (fun i => (r i, .inl (cI, K, .inl (fun _ => 0)))))) := by
      intro g hg
      constructor
      · rw [dk_Pm] at hP1 ⊢
        intro x hxm
        rw [← List.cons_append, ← List.cons_append, List.mem_append, List.mem_append] at hxm
        rcases hxm with (hxm | hxm) | hxm
        · exact hP1 x (List.mem_append_left _ (List.mem_append_left _ hxm))
        · rw [List.mem_singleton] at hxm
          subst hxm
          have h2 := hP1 (q, .inl (cx, N, .inr (.inr (.inr (.inr (fun i => if i < N then some (r i) else none)))))) (List.mem_append_left _ (List.mem_append_right _ (List.mem_singleton.mpr rfl)))
          show H1[q]? = some (vp_cell cx (N, .inr (.inr (.inr (.inr (fun i => some (g i)))))))
          have h3 : H1[q]? = some (vp_cell cx (N, .inr (.inr (.inr (.inr (fun i => if i < N then some (r i) else none)))))) := h2
          rw [h3, vp_cell_q, vp_cell_q]
          congr 1
          apply dk_arr
          intro i hi
          rw [if_pos hi, hg i hi]
        · refine hP1 x (List.mem_append_right _ (List.mem_append_right _ ?_))
          rw [List.map_map]
          exact hxm
      · refine dk_Df hD1 ?_
        simp [va_pl]
    refine dk_pF B (wr := ((wr ++ [(q, .inl (cx, N, .inr (.inr (.inr (.inr (fun i => some (r i)))))))]) ++ (List.range N).map (fun i => (r i, .inl (cI, K, .inl (fun _ => 0)))))) (hP1' r (fun _ _ => rfl)).1 (hP1' r (fun _ _ => rfl)).2 hS1 df hk hkl hlk hfin (by rw [hft]; rfl) (by rw [hft]; rfl) (fun H2 locs2 hP2 hD2 hS2 => kk q r H2 locs2 (fun g hg => ?_) hS2)
    constructor
    · rw [dk_Pm] at hP2 ⊢
      intro x hxm
      rw [← List.cons_append, ← List.cons_append, List.mem_append, List.mem_append] at hxm
      rcases hxm with (hxm | hxm) | hxm
      · refine hP2 x ?_
        rw [← List.cons_append, ← List.cons_append]
        exact List.mem_append_left _ (List.mem_append_left _ hxm)
      · rw [List.mem_singleton] at hxm
        subst hxm
        have h2 := hP2 (q, .inl (cx, N, .inr (.inr (.inr (.inr (fun i => some (r i))))))) (by
          rw [← List.cons_append, ← List.cons_append]
          exact List.mem_append_left _ (List.mem_append_right _ (List.mem_singleton.mpr rfl)))
        show H2[q]? = some (vp_cell cx (N, .inr (.inr (.inr (.inr (fun i => some (g i)))))))
        have h3 : H2[q]? = some (vp_cell cx (N, .inr (.inr (.inr (.inr (fun i => some (r i))))))) := h2
        rw [h3, vp_cell_q, vp_cell_q]
        congr 1
        apply dk_arr
        intro i hi
        rw [hg i hi]
      · refine hP2 x ?_
        rw [← List.cons_append, ← List.cons_append]
        exact List.mem_append_right _ hxm
    · refine dk_Df hD2 ?_
      simp
end DKB
