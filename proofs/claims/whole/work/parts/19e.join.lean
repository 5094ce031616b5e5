/-! new, with its constructor; worlds side by side -/
theorem dk_join {D : va_G} {cl : List vw_C} {A0 : Nat → Prop} {X w1 : va_W} {x : Nat × va_E} {H H1 : Heap} (hP : va_P D cl (X ++ [x]) H) (hD : va_D A0 (X ++ [x])) (hk : ∀ q : Nat, q < H.size → ¬ va_A [x] H.size q → H1[q]? = H[q]?) (hF : ∀ q, va_A [x] H.size q → A0 q) (hP1 : va_P D cl w1 H1) (hD1 : va_D (va_A [x] H.size) w1) : va_P D cl (X ++ w1) H1 ∧ va_D A0 (X ++ w1) := by
  have hX : ∀ (k : Nat) (q : Nat × va_E), X[k]? = some q → k < X.length ∧ (X ++ [x])[k]? = some q := fun k q h => by
    have hl := (List.getElem?_eq_some_iff.mp h).1
    exact ⟨hl, by rw [List.getElem?_append_left hl]; exact h⟩
  have hx : (X ++ [x])[X.length]? = some x := by simp
  have hno : ∀ (k : Nat) (q : Nat × va_E), X[k]? = some q → ¬ va_A [x] H.size q.1 := by
    intro k q h hz
    obtain ⟨h1, h2⟩ := hX k q h
    rcases hz with ⟨k', e', h3⟩ | h3
    · have hk0 : k' < 1 := (List.getElem?_eq_some_iff.mp h3).1
      rw [show k' = 0 by omega] at h3
      have e3 : x = (q.1, e') := Option.some.inj h3
      have := hD.1 k X.length q x h2 hx (by rw [e3])
      omega
    · have := (hP k q h2).lt
      omega
  constructor
  · refine va_P.app ?_ hP1
    intro k q h
    exact (hP k q (hX k q h).2).kept (hk q.1 (hP k q (hX k q h).2).lt (hno k q h))
  · refine va_D.app ⟨fun i j p q hi hj hpq => hD.1 i j p q (hX i p hi).2 (hX j q hj).2 hpq, fun k q h => hD.2 k q (hX k q h).2⟩ (hD1.weaken (fun k q h hz => hF _ hz)) ?_
    intro i j p q hi hj hpq
    exact hno i p hi (by rw [hpq]; exact hD1.2 j q hj)
theorem dk_blind {D : va_G} {cI cZ cA : ClassId} {ci : Nat} {fs : List Value} {h0 sz : Nat} {av : List Value} : FrameBlind (va_Pc av (dk_pre D cI cZ cA ci fs h0 sz)) := by
  intro a U g mk q
  obtain ⟨q0, q1, q2, q3, q4, q5⟩ := q
  exact ⟨q0, q1, q2, va_K.moved (u := U) (U := U.calling g mk a) (Vm.Alike.refl U.vm) q3, q4, dk_ao_same q5⟩
section DKJ
variable {p : Program} {l : Launch} {e : Env} {R : Room} {s : State} {m : MethodId} {args : Array Value} {below : List Frame} {meth : Method} {c : Code} {H : Heap} {locs : List Loc} {cells slots : Nat} {Q : State → Prop}
variable {cc : ByteArray} {pc : Nat} {ls : Array Slot} {rest : List Value} {D : va_G} {A : Nat → Prop} {H0 : Heap} {cI cZ cA : ClassId} {ci h0 : Nat}
set_option maxHeartbeats 4000000 in
theorem dk_cC {own : String} {nL mx fr lo mc ms idn idi kk' : Nat} {y : MethodName} {bytes : ByteArray} {fs : List Value} {cs : List Nat} {P : hd_Mem → Prop} {X : va_W} (hC : dk_Cn l D cI cZ cA y bytes mx fr lo mc ms ci fs cs kk' P) (hx : p.tables.exec = Jvm.exec) (hb : c.code = cc) (hml : c.maxLocals = nL) (hts : ∀ w ∈ hd_tb, w.before args s = true) (hown : s.vm.findClass own = some m.cls) (hK : va_K D hd_cl (hd_tys cI cZ cA) s) (hA : ∀ q, H0.size ≤ q → A q) (hao : dk_ao s) (hsz : ls.size = nL)
    (hP : va_P D hd_cl X H) (hD : va_D A X) (hS : va_S A H0 H locs) (d1 : decode cc pc = .ok (.new idn, 3)) (d2 : decode cc (pc + 3) = .ok (.dup, 1)) (d3 : decode cc (pc + 3 + 1) = .ok (.invokespecial idi, 3)) (hci : ci < 9) (hcl : Cond.classLink own idn (hd_c ci).1 ∈ hd_tb) (hinst : Cond.instantiable (hd_c ci).1 (hd_c ci).2.2 ∈ hd_tb) (hini : Cond.initialized (hd_c ci).1 ∈ hd_tb) (hfs : ∀ j, j < (hd_c ci).2.2 → defaultValue (hd_ty ci j) = vp_V fs j)
    (hy : y.cls = (hd_c ci).1 ∧ y.name = "<init>" ∧ y.cls ≠ "java/lang/invoke/MethodHandle" ∧ y.cls ≠ "java/lang/invoke/VarHandle" ∧ (parseMethodDescriptor y.desc).map (fun d => d.parameters.length) = some 0) (hcode : Cond.code y bytes mx none ∈ lw_tbl) (him : Cond.instanceMethod y ∈ hd_tb) (hlink : Cond.methodLink own idi y ∈ hd_tb ∨ va_Nw (.methodLinkNest own idi y "HoursDesk") s)
    (hcells : cells + 1 + mc ≤ R.cells) (hslots : slots + (hd_c ci).2.2 + ms ≤ R.slots) (hR : fr + 1 ≤ R.frames ∧ 8 + (mx + 11) + lo ≤ R.locals) (hrest : (rest.map fun v => v.category).sum + 1 ≤ 8)
    (kk : ∀ (u : dk_U) (H1 : Heap) (locs1 : List Loc), P u.2 → va_P D hd_cl (X ++ dk_wc cI cZ cA u cs) H1 → va_D A (X ++ dk_wc cI cZ cA u cs) → va_S A H0 H1 locs1 → W p l e R s m args below meth c H1 locs1 (cells + 1 + mc) (slots + (hd_c ci).2.2 + ms) Q (F0 m (pc + 3 + 1 + 3) ls (.ref (u.1 kk') :: rest))) : W p l e R s m args below meth c H locs cells slots Q (F0 m pc ls rest) := by
  refine va_new (ci := ci) (fs := fs) (C := (hd_c ci).1) (T := (hd_c ci).2.1) (N := (hd_c ci).2.2) hx hb hts (hd_ws_in ci hci) (hd_ty ci) (hd_ty_ok ci hci) hown (hts _ hcl) (hts _ hinst) (hts _ hini) hK hP hD hS hA (hd_cl_at ci hci) hfs (by omega) (by omega) d1 (fun q H1 hP1 hD1 hS1 => ?_)
  refine lv_dup hx hb d2 rfl ?_
  have hat : (X ++ [(q, .inr (ci, fs))])[X.length]? = some (q, .inr (ci, fs)) := by simp
  have hPc : va_P D hd_cl [(q, .inr (ci, fs))] H1 := dk_Pm.mpr (fun x hxm => by
    rw [List.mem_singleton] at hxm
    subst hxm
    exact hP1 _ _ hat)
  have hDc : va_D (fun _ => True) [(q, (.inr (ci, fs) : va_E))] := ⟨fun i j a b hi hj _ => by
    have h1 := (List.getElem?_eq_some_iff.mp hi).1
    have h2 := (List.getElem?_eq_some_iff.mp hj).1
    simp at h1 h2
    omega, fun _ _ _ => trivial⟩
  have hF : ∀ q', va_A [(q, (.inr (ci, fs) : va_E))] H1.size q' → A q' := by
    intro q' h
    rcases h with ⟨k, e', h⟩ | h
    · have hk0 : k < 1 := (List.getElem?_eq_some_iff.mp h).1
      rw [show k = 0 by omega] at h
      have e3 : (q, (.inr (ci, fs) : va_E)) = (q', e') := Option.some.inj h
      have e4 : q = q' := congrArg Prod.fst e3
      rw [← e4]
      exact hD1.2 _ _ hat
    · exact hA _ (Nat.le_trans hS1.1 h)
  have hpre : PreS s H1 (va_Pc [.ref q] (dk_pre D cI cZ cA ci fs q H1.size)) [.ref q] := ⟨dk_blind, fun U hU hW => ⟨rfl, by rw [hU], by rw [hU]; exact hPc, va_K.moved hW.alike hK, hDc, dk_ao_warm hW hao⟩⟩
  have hcls : (Cond.initialized y.cls).before args s = true := by rw [hy.1]; exact hts _ hini
  have hroom : 2 * (F0 m (pc + 3 + 1) ls (.ref q :: .ref q :: rest)).monitorRoom + ((.ref q :: rest).map fun v => v.category).sum ≤ 8 := by
    show 2 * 0 + (1 + (rest.map fun v => v.category).sum) ≤ 8
    omega
  have hrun : va_Run p l e R s m args below meth c H1 locs (cells + 1) (slots + (hd_c ci).2.2) mc ms (F0 m (pc + 3 + 1) ls (.ref q :: .ref q :: rest)) (.ref q :: rest) (va_Qv (fun u : dk_U => P u.2) (dk_post D cI cZ cA (va_A [(q, .inr (ci, fs))] H1.size) cs kk' q) (va_A [(q, .inr (ci, fs))] H1.size) #[.ref q]) (va_A [(q, .inr (ci, fs))] H1.size) := by
    rcases hlink with hl | hl
    · exact va_runI (As := []) (rest := .ref q :: rest) (n := 0) ⟨hx, hb, hml, hown, hts⟩ (hC q H1.size) ⟨callB_of 0 hts (dk_goodC hcode) rfl rfl rfl hcls (hts _ hl) hy.2.2 hR, hy.2.1, hts _ him⟩ hpre rfl rfl hsz rfl hroom d3 ⟨hcells, hslots⟩
    · exact va_runIN (host := "HoursDesk") (As := []) (rest := .ref q :: rest) (n := 0) ⟨hx, hb, hml, hown, hts⟩ (hC q H1.size) ⟨va_cnB 0 hts (dk_goodC hcode) rfl rfl rfl hl hcls hy.2.2 hR, hy.2.1, hts _ him⟩ hpre rfl rfl hsz rfl hroom d3 ⟨hcells, hslots⟩
  refine va_callv (A1 := va_A [(q, .inr (ci, fs))] H1.size) hrun hS1 (fun q' _ h => hF q' h) hF (fun u t H2 locs2 ht hvm hw hB hz hk2 hS2 => ?_)
  obtain ⟨b1, b2, b3⟩ := hB
  rw [ht] at b1
  obtain ⟨hP2, hD2⟩ := dk_join hP1 hD1 hk2 hF b1 b2
  have := kk u H2 locs2 hw hP2 hD2 hS2
  rw [b3] at this
  exact this
set_option maxHeartbeats 4000000 in
/-- a field of the desk, made -/
theorem dk_fC (B : dk_bx p s m args meth c cc 7 D cI cZ cA A H0 ls h0) {k mx fr lo mc ms idn idi idf kk' : Nat} {y : MethodName} {bytes : ByteArray} {fs fd : List Value} {cs : List Nat} {P : hd_Mem → Prop} {wr : va_W} (hC : dk_Cn l D cI cZ cA y bytes mx fr lo mc ms ci fs cs kk' P)
    (hP : va_P D hd_cl ((h0, .inr (7, fd)) :: wr) H) (hD : va_D A ((h0, .inr (7, fd)) :: wr)) (hS : va_S A H0 H locs) (d0 : decode cc pc = .ok (.aload_n 0, 1)) (d1 : decode cc (pc + 1) = .ok (.new idn, 3)) (d2 : decode cc (pc + 1 + 3) = .ok (.dup, 1)) (d3 : decode cc (pc + 1 + 3 + 1) = .ok (.invokespecial idi, 3)) (d4 : decode cc (pc + 1 + 3 + 1 + 3) = .ok (.putfield idf, 3)) (hci : ci < 9) (hcl : Cond.classLink (hd_own 7) idn (hd_c ci).1 ∈ hd_tb) (hinst : Cond.instantiable (hd_c ci).1 (hd_c ci).2.2 ∈ hd_tb) (hini : Cond.initialized (hd_c ci).1 ∈ hd_tb) (hfs : ∀ j, j < (hd_c ci).2.2 → defaultValue (hd_ty ci j) = vp_V fs j)
    (hy : y.cls = (hd_c ci).1 ∧ y.name = "<init>" ∧ y.cls ≠ "java/lang/invoke/MethodHandle" ∧ y.cls ≠ "java/lang/invoke/VarHandle" ∧ (parseMethodDescriptor y.desc).map (fun d => d.parameters.length) = some 0) (hcode : Cond.code y bytes mx none ∈ lw_tbl) (him : Cond.instanceMethod y ∈ hd_tb) (hlink : Cond.methodLink (hd_own 7) idi y ∈ hd_tb ∨ va_Nw (.methodLinkNest (hd_own 7) idi y "HoursDesk") s)
    (hcells : cells + 1 + mc ≤ R.cells) (hslots : slots + (hd_c ci).2.2 + ms ≤ R.slots) (hR : fr + 1 ≤ R.frames ∧ 8 + (mx + 11) + lo ≤ R.locals) (hk : k < (hd_c 7).2.2) (hkl : k < fd.length) (hlk : Cond.fieldLink (hd_own 7) idf ((hd_c 7).2.1 k).1 ((hd_c 7).2.1 k).2.1 ((hd_c 7).2.1 k).2.2.1 ∈ hd_tb) (hfin : ((hd_c 7).2.1 k).2.2.2 = true) (hnr : ∀ q, narrow (hd_ty 7 k) (.ref q) = .ref q ∧ fits (hd_ty 7 k) (.ref q) = true)
    (kk : ∀ (u : dk_U) (H1 : Heap) (locs1 : List Loc), P u.2 → va_P D hd_cl ((h0, .inr (7, fd.set k (.ref (u.1 kk')))) :: (wr ++ dk_wc cI cZ cA u cs)) H1 → va_D A ((h0, .inr (7, fd.set k (.ref (u.1 kk')))) :: (wr ++ dk_wc cI cZ cA u cs)) → va_S A H0 H1 locs1 → W p l e R s m args below meth c H1 locs1 (cells + 1 + mc) (slots + (hd_c ci).2.2 + ms) Q (F0 m (pc + 1 + 3 + 1 + 3 + 3) ls [])) : W p l e R s m args below meth c H locs cells slots Q (F0 m pc ls []) := by
  have B2 := B
  obtain ⟨hx, hb, hts, hown, hK, hA, hin, hci7, hl0, hsz, hao⟩ := B2
  refine lv_aload_n hx hb d0 rfl hl0 ?_
  refine dk_cC (X := (h0, .inr (7, fd)) :: wr) hC hx hb rfl hts hown hK hA hao hsz hP hD hS d1 d2 d3 hci hcl hinst hini hfs hy hcode him hlink hcells hslots hR (Nat.le_of_ble_eq_true rfl) (fun u H1 locs1 hPu hP1 hD1 hS1 => ?_)
  exact dk_pF B (wr := wr ++ dk_wc cI cZ cA u cs) hP1 hD1 hS1 d4 hk hkl hlk hfin (hnr _).1 (hnr _).2 (fun H2 locs2 hP2 hD2 hS2 => kk u H2 locs2 hPu hP2 hD2 hS2)
end DKJ
/-- which cells a cell refers to -/
def dk_rf (k : Nat) : List Nat := match hd_lay k with
  | .inl o => o.2.filterMap id
  | .inr (.inr (.inr q)) => (List.range q.1).map (q.2 + ·)
  | _ => []
theorem dk_fl_c {a b : Nat → Nat} {row : Nat → Int32} : ∀ (fl : List (Option Nat)) (j : Nat), (∀ k, k ∈ fl.filterMap id → a k = b k) → hd_fl a row j fl = hd_fl b row j fl
  | [], _, _ => rfl
  | none :: t, j, h => by
    show Value.int (row j) :: hd_fl a row (j + 1) t = Value.int (row j) :: hd_fl b row (j + 1) t
    rw [dk_fl_c t (j + 1) (fun k hk => h k (by simpa using hk))]
  | some k :: t, j, h => by
    show Value.ref (a k) :: hd_fl a row (j + 1) t = Value.ref (b k) :: hd_fl b row (j + 1) t
    rw [dk_fl_c t (j + 1) (fun k' hk => h k' (by
      simp at hk ⊢
      exact Or.inr hk)), h k (by simp)]
theorem dk_at {D : va_G} {cI cZ cA : ClassId} {u v : dk_U} {k : Nat} {H : Heap} (ha : v.1 k = u.1 k) (hm : v.2 k = u.2 k) (hr : ∀ j, j ∈ dk_rf k → v.1 j = u.1 j) (h : va_at D hd_cl (u.1 k, hd_ent cI cZ cA u.1 (u.2 k) (hd_lay k)) H) : va_at D hd_cl (v.1 k, hd_ent cI cZ cA v.1 (v.2 k) (hd_lay k)) H := by
  rw [ha, hm]
  unfold dk_rf at hr
  generalize hd_lay k = sh at hr h ⊢
  match sh, hr, h with
  | .inl o, hr, h =>
    show va_at D hd_cl (u.1 k, .inr (o.1, hd_fl v.1 (u.2 k) 0 o.2)) H
    rw [dk_fl_c o.2 0 hr]
    exact h
  | .inr (.inl n), hr, h => exact h
  | .inr (.inr (.inl n)), hr, h => exact h
  | .inr (.inr (.inr q)), hr, h =>
    have h3 : H[u.1 k]? = some (vp_cell cA (q.1, .inr (.inr (.inr (.inr (fun i => some (u.1 (q.2 + i)))))))) := h
    show H[u.1 k]? = some (vp_cell cA (q.1, .inr (.inr (.inr (.inr (fun i => some (v.1 (q.2 + i))))))))
    rw [h3, vp_cell_q, vp_cell_q]
    congr 1
    apply dk_arr
    intro i hi
    rw [hr (q.2 + i) (List.mem_map.mpr ⟨i, List.mem_range.mpr hi, rfl⟩)]
def dk_pk : List (List Nat × dk_U) → dk_U → Nat → dk_U
  | [], d, _ => d
  | (cs, u) :: t, d, k => if k ∈ cs then u else dk_pk t d k
def dk_gl (t : List (List Nat × dk_U)) (d : dk_U) : dk_U := (fun k => (dk_pk t d k).1 k, fun k => (dk_pk t d k).2 k)
theorem dk_pk_at {t : List (List Nat × dk_U)} {d u : dk_U} {cs : List Nat} (h : ∀ k, k ∈ cs → dk_pk t d k = u) : ∀ k, k ∈ cs → (dk_gl t d).1 k = u.1 k ∧ (dk_gl t d).2 k = u.2 k := fun k hk => by
  show (dk_pk t d k).1 k = u.1 k ∧ (dk_pk t d k).2 k = u.2 k
  rw [h k hk]
  exact ⟨rfl, rfl⟩
theorem dk_glP {D : va_G} {cI cZ cA : ClassId} {u v : dk_U} {cs : List Nat} {H : Heap} (hv : ∀ k, k ∈ cs → v.1 k = u.1 k ∧ v.2 k = u.2 k) (hc : ∀ k, k ∈ cs → ∀ j, j ∈ dk_rf k → j ∈ cs) (h : va_P D hd_cl (dk_wc cI cZ cA u cs) H) : ∀ k, k ∈ cs → va_at D hd_cl (v.1 k, hd_ent cI cZ cA v.1 (v.2 k) (hd_lay k)) H := by
  intro k hk
  refine dk_at (hv k hk).1 (hv k hk).2 (fun j hj => (hv j (hc k hk j hj)).1) (dk_Pm.mp h _ ?_)
  exact List.mem_map.mpr ⟨k, hk, rfl⟩
