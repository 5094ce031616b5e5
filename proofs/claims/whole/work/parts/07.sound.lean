/-! THE PURE MACHINE IS THE REAL ONE: what hd_Ev says of a method is a contract of it -/
def hd_ks (j : Nat) : Int32 := [1, 3, 5, 11].getD j 0
def hd_A (ad : Nat → Nat) : Nat → Prop := fun q => ∃ k, k < 78 ∧ q = ad k
def hd_ro (ad : Nat → Nat) (Ls : Nat) (xs : Nat → Int32) (A : Nat → Prop) (U : State) (H : Heap) : Prop :=
  va_Z "HoursDesk" "KINDS_OF" "[I" (.ref (ad 79)) A U H ∧ va_T .int (ad 79) 4 (fun j => .int (hd_ks j)) A U H ∧ va_X (ad 78) Ls xs U H ∧ ad 78 < H.size ∧ ¬ A (ad 78) ∧
  va_Nw (.methodLinkNest "HoursDesk$People" 37 ⟨"HoursDesk", "hasBit", "(II)Z"⟩ "HoursDesk") U ∧ va_Nw (.methodLinkNest "HoursDesk$Sheets" 23 ⟨"HoursDesk", "within", "(III)Z"⟩ "HoursDesk") U ∧ va_Nw (.fieldLinkNest "HoursDesk$People" 34 "HoursDesk" "KINDS_OF" "[I" "HoursDesk") U
abbrev hd_tys (cI cZ cA : ClassId) : List (ClassId × FieldType) := [(cI, .int), (cZ, .boolean), (cA, .array .int)]
def hd_Cx (p : Program) (R : Room) (s : State) (m : MethodId) (args : Array Value) (c : Code) (D : va_G) (cI cZ cA : ClassId) (ad : Nat → Nat) (Ls : Nat) (xs : Nat → Int32) (y : Nat) (A : Nat → Prop) (cells slots : Nat) : Prop :=
  p.tables.exec = Jvm.exec ∧ c.code = hd_cd y ∧ c.maxLocals = hd_mx y ∧ s.vm.findClass (hd_own (hd_ow y)) = some m.cls ∧ (∀ w ∈ hd_tb, w.before args s = true) ∧ va_K D hd_cl (hd_tys cI cZ cA) s ∧ hd_ro ad Ls xs A s s.heap ∧ (∀ k, k < 78 → A (ad k)) ∧ hd_fr y ≤ R.frames ∧ hd_lo y ≤ R.locals ∧ cells ≤ R.cells ∧ slots ≤ R.slots
def hd_end (y : Nat) (v : Option Value) (pc : Nat) : Prop := (v = none ∧ hd_rt y = none ∧ decode (hd_cd y) pc = .ok (.return_, 1)) ∨ (∃ x : Int32, v = some (.int x) ∧ (hd_rt y = some .int ∨ hd_rt y = some .boolean ∧ (x = 0 ∨ x = 1)) ∧ decode (hd_cd y) pc = .ok (.ireturn, 1))
def hd_S1 (l : Launch) (D : va_G) (cI cZ cA : ClassId) (ad : Nat → Nat) (Ls : Nat) (xs : Nat → Int32) (n : Nat) : Prop :=
  ∀ (p : Program) (e : Env) (R : Room) (s : State) (m : MethodId) (args : Array Value) (below : List Frame) (meth : Method) (c : Code) (y : Nat) (A : Nat → Prop) (cells slots : Nat) (Qf : State → Prop) (Q : Option Value → hd_Mem → Prop), hd_Cx p R s m args c D cI cZ cA ad Ls xs y A cells slots →
  (∀ (v : Option Value) (M' : hd_Mem) (H' : Heap) (locs' : List Loc) (pc' : Nat) (ls' : Array Slot), Q v M' → M' 78 = xs → M' 79 = hd_ks → va_P D hd_cl (hd_ws cI cZ cA ad M') H' → va_S A s.heap H' locs' → hd_end y v pc' → W p l e R s m args below meth c H' locs' cells slots Qf (F0 m pc' ls' v.toList)) →
  ∀ (st : hd_S) (H : Heap) (locs : List Loc) (ls : Array Slot), hd_Ev Ls n y st Q → st.2.2.2 78 = xs → st.2.2.2 79 = hd_ks → va_P D hd_cl (hd_ws cI cZ cA ad st.2.2.2) H → va_S A s.heap H locs → hd_has ad ls (hd_mx y) st.2.1 →
  W p l e R s m args below meth c H locs cells slots Qf (F0 m st.1 ls (st.2.2.1.map (hd_cv ad)))
def hd_mw (y : Nat) : List Cond := Cond.code (hd_nm y) (hd_cd y) (hd_mx y) (hd_rt y) :: hd_tb
def hd_rm (y : Nat) : Room := { frames := hd_fr y, cells := 0, slots := 0, locals := hd_lo y }
def hd_W (D : va_G) (cI cZ cA : ClassId) (ad : Nat → Nat) (Ls : Nat) (xs : Nat → Int32) (M : hd_Mem) (U : State) : Prop := va_P D hd_cl (hd_ws cI cZ cA ad M) U.heap ∧ va_K D hd_cl (hd_tys cI cZ cA) U ∧ hd_ro ad Ls xs (hd_A ad) U U.heap
def hd_Q (D : va_G) (cI cZ cA : ClassId) (ad : Nat → Nat) (xs : Nat → Int32) (rt : Option FieldType) (Q : Option Value → hd_Mem → Prop) : Array Value → State → Outcome → State → Prop := match rt with
  | none => va_Qv (fun u : hd_Mem => Q none u ∧ u 78 = xs ∧ u 79 = hd_ks) (fun u t => va_P D hd_cl (hd_ws cI cZ cA ad u) t.heap) (hd_A ad)
  | some _ => va_Qi (fun (r : Int32) (u : hd_Mem) => Q (some (.int r)) u ∧ u 78 = xs ∧ u 79 = hd_ks) (fun u t => va_P D hd_cl (hd_ws cI cZ cA ad u) t.heap) (hd_A ad)
def hd_S2 (l : Launch) (D : va_G) (cI cZ cA : ClassId) (ad : Nat → Nat) (Ls : Nat) (xs : Nat → Int32) (n : Nat) : Prop :=
  ∀ (z : Nat) (as : List Value) (M : hd_Mem) (Q : Option Value → hd_Mem → Prop), z < 139 → M 78 = xs → M 79 = hd_ks → (∀ v ∈ as, hd_cat1 v = true) → as.length ≤ hd_mx z → hd_Ev Ls n z (0, hd_entry z as, [], M) Q →
  Met l (hd_nm z) (hd_mw z) (hd_rm z) (va_Pc (as.map (hd_cv ad)) (hd_W D cI cZ cA ad Ls xs M)) (hd_Q D cI cZ cA ad xs (hd_rt z) Q) 0 0 (hd_A ad)
theorem hd_ro_moved {ad : Nat → Nat} {Ls : Nat} {xs : Nat → Int32} {A B : Nat → Prop} {s U : State} {H : Heap} {locs : List Loc} (h : hd_ro ad Ls xs A s s.heap) (hAB : ∀ q, B q → A q) (hS : va_S A s.heap H locs) (hU : U.heap = H) (hW : s.WarmedH U.vm) : hd_ro ad Ls xs B U U.heap := by
  obtain ⟨h1, h2, h3, h4, h5, h6, h7, h8⟩ := h
  subst hU
  refine ⟨((h1.kept hS.2.1).moved hW.alike).narrow hAB, ((h2.kept hS.2.1).moved hW.alike).narrow hAB, (h3.kept (hS.2.1 _ h4 h5)).moved hW.alike, Nat.lt_of_lt_of_le h4 hS.1, fun q => h5 (hAB _ q), h6.warmM hW, h7.warmM hW, h8.warmF hW⟩
theorem hd_blind {D : va_G} {cI cZ cA : ClassId} {ad : Nat → Nat} {Ls : Nat} {xs : Nat → Int32} {M : hd_Mem} {av : List Value} : FrameBlind (va_Pc av (hd_W D cI cZ cA ad Ls xs M)) := by
  intro a U g mk q
  obtain ⟨q0, q1, q2, q3⟩ := q
  obtain ⟨h1, h2, h3, h4, h5, h6, h7, h8⟩ := q3
  exact ⟨q0, q1, va_K.moved (u := U) (U := U.calling g mk a) (Vm.Alike.refl U.vm) q2, h1.moved (U := U.calling g mk a) (Vm.Alike.refl U.vm), h2.moved (U := U.calling g mk a) (Vm.Alike.refl U.vm), h3.moved (U := U.calling g mk a) (Vm.Alike.refl U.vm), h4, h5, h6.same rfl rfl, h7.same rfl rfl, h8.same rfl rfl⟩
theorem hd_good (z : Nat) (hz : z < 139) : GoodIn hd_tb (hd_mw z) := by
  intro w hw
  rcases List.mem_cons.mp hw with rfl | hw
  · exact ⟨hd_tb_in (hd_code_ok z hz) rfl, Or.inl rfl⟩
  · exact ⟨hw, good_of_word (List.mem_filter.mp hw).2⟩
theorem hd_cats {ad : Nat → Nat} : ∀ (rr : List Value), rr.all hd_cat1 = true → ((rr.map (hd_cv ad)).map fun v => v.category).sum = rr.length
  | [], _ => rfl
  | v :: t, h => by
    simp only [List.all_cons, Bool.and_eq_true] at h
    simp only [List.map_cons, List.sum_cons, hd_cats t h.2, hd_cv_cat h.1, List.length_cons]
    omega
