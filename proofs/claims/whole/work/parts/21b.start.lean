/-! from the law's entry to its loop, and its end -/
theorem dk_inst0 : ∀ ci, ci < 9 → Cond.instantiable (hd_c ci).1 (hd_c ci).2.2 ∈ lw_tbl := by decide +kernel
theorem dk_known {args : Array Value} {s : State} (hts : ∀ w ∈ hd_tb, w.before args s = true) : ∃ D : va_G, ∀ (k : Nat) (q : vw_C), hd_cl[k]? = some q → u_Kn s q.1 q.2.1 q.2.2 (D.1 k) (D.2 k) := by
  have h1 : ∀ ci, ∃ cc : ClassId × (Nat → Nat), ci < 9 → u_Kn s (hd_c ci).1 (hd_c ci).2.1 (hd_c ci).2.2 cc.1 cc.2 := by
    intro ci
    by_cases h : ci < 9
    · obtain ⟨cC, iS, hk⟩ := u_known (C := (hd_c ci).1) (T := (hd_c ci).2.1) (N := (hd_c ci).2.2) (n := (hd_c ci).2.2) hts (hd_ws_in ci h) (hts _ (hd_tb_in (dk_inst0 ci h) rfl))
      exact ⟨(cC, iS), fun _ => hk⟩
    · exact ⟨(0, fun _ => 0), fun z => absurd z h⟩
  refine ⟨(fun k => (Classical.choose (h1 k)).1, fun k => (Classical.choose (h1 k)).2), fun k q hq => ?_⟩
  have hk : k < 9 := (List.getElem?_eq_some_iff.mp hq).1
  have e : q = hd_c k := Option.some.inj (hq.symm.trans (hd_cl_at k hk))
  subst e
  exact Classical.choose_spec (h1 k) hk
theorem dk_arrC {args : Array Value} {s : State} {t : FieldType} (h : (Cond.arrayClass t).before args s = true) (ho : ∀ C, t ≠ .object C) : ∃ c : ClassId, ArrOfT s c t ∧ va_RA s c t := by
  obtain ⟨c, k, comp, h1, h2, h3⟩ := Cond.arrayClass_spec h
  refine ⟨c, fun N z => ⟨(fun q hq => by cases hq), k, h2, comp, h3⟩, ?_⟩
  cases t <;> first | exact h1 | exact absurd rfl (ho _)
theorem dk_arrA {s : State} (h : dk_aov s) : ∃ c : ClassId, ArrOfT s c (.array .int) ∧ va_RA s c (.array .int) := by
  unfold dk_aov at h
  simp only [Cond.before, Cond.holds, Cond.value] at h
  cases hf : s.vm.findClass (FieldType.array .int).toString with
  | none => rw [hf] at h; simp at h
  | some comp =>
    rw [hf] at h
    simp only [Option.bind_some] at h
    generalize hF : (s.vm.classes.findIdx? fun (x : Class) => match x.kind with | .array component _ => component == comp | _ => false) = fi at h
    cases fi with
    | none => simp at h
    | some c =>
      simp only [Option.bind_some] at h
      cases hk : s.vm.classes[c]? with
      | none => rw [hk] at h; simp at h
      | some k =>
        rw [hk] at h
        simp only [Option.map_some] at h
        cases hkind : k.kind with
        | array cm ty =>
          rw [hkind] at h
          simp at h
          refine ⟨c, fun N z => ⟨(fun q hq => by cases hq), k, hk, cm, by rw [hkind, h.1]⟩, ?_⟩
          exact h.2
        | _ => rw [hkind] at h; simp at h
theorem dk_nest0 : (∀ w ∈ [Cond.methodLinkNest "HoursDesk" 9 ⟨"HoursDesk$People", "<init>", "()V"⟩ "HoursDesk", Cond.methodLinkNest "HoursDesk" 18 ⟨"HoursDesk$Places", "<init>", "()V"⟩ "HoursDesk", Cond.methodLinkNest "HoursDesk" 25 ⟨"HoursDesk$Entries", "<init>", "()V"⟩ "HoursDesk", Cond.methodLinkNest "HoursDesk" 32 ⟨"HoursDesk$Absences", "<init>", "()V"⟩ "HoursDesk", Cond.methodLinkNest "HoursDesk" 39 ⟨"HoursDesk$Sheets", "<init>", "()V"⟩ "HoursDesk", Cond.methodLinkNest "HoursDesk" 46 ⟨"HoursDesk$Acts", "<init>", "()V"⟩ "HoursDesk", Cond.methodLinkNest "HoursDesk$People" 37 ⟨"HoursDesk", "hasBit", "(II)Z"⟩ "HoursDesk", Cond.methodLinkNest "HoursDesk$Sheets" 23 ⟨"HoursDesk", "within", "(III)Z"⟩ "HoursDesk", Cond.fieldLinkNest "HoursDesk$People" 34 "HoursDesk" "KINDS_OF" "[I" "HoursDesk", Cond.arrayOver (.array .int), Cond.laysStatic "HoursDesk" "KINDS_OF" "[I", Cond.initialized "HoursDesk"], w ∈ lw_tbl) := by decide +kernel
/-- the kinds' table, as the start has it -/
theorem dk_kof {args : Array Value} {s : State} {A : Nat → Prop} (hts0 : ∀ w ∈ lw_tbl, w.before args s = true) (hgv : (Jvm.Cond.and given_1 narrow_1).before args s = true) (hA : ∀ a : Nat, a < s.heap.size → ¬ A a) : ∃ t : Nat, va_Z "HoursDesk" "KINDS_OF" "[I" (.ref t) A s s.heap ∧ va_T .int t 4 (fun j => .int (hd_ks j)) A s s.heap := by
  have hs := flat_of_before _ hgv
  have harr : (Cond.arrayOf (.static "HoursDesk" "KINDS_OF" "[I") .int).before args s = true := hs _ (by decide +kernel)
  have hlen := va_eqt (args := args) (s := s) (t := .length (.static "HoursDesk" "KINDS_OF" "[I")) (z := 4) (hs _ (by decide +kernel))
  have h0 := va_eqt (args := args) (s := s) (t := .elem (.static "HoursDesk" "KINDS_OF" "[I") (.int 0)) (z := 1) (hs _ (by decide +kernel))
  have h1 := va_eqt (args := args) (s := s) (t := .elem (.static "HoursDesk" "KINDS_OF" "[I") (.int 1)) (z := 3) (hs _ (by decide +kernel))
  have h2 := va_eqt (args := args) (s := s) (t := .elem (.static "HoursDesk" "KINDS_OF" "[I") (.int 2)) (z := 5) (hs _ (by decide +kernel))
  have h3 := va_eqt (args := args) (s := s) (t := .elem (.static "HoursDesk" "KINDS_OF" "[I") (.int 3)) (z := 11) (hs _ (by decide +kernel))
  obtain ⟨t, ht, hT⟩ := va_Tof (N := 4) (f := fun j => .int (hd_ks j)) (A := A) (by omega) harr hlen (fun j hj => by
    rcases (show j = 0 ∨ j = 1 ∨ j = 2 ∨ j = 3 by omega) with rfl | rfl | rfl | rfl
    · exact h0
    · exact h1
    · exact h2
    · exact h3) hA
  exact ⟨t, va_Zof (hts0 _ (dk_nest0 _ (by simp))) (hts0 _ (dk_nest0 _ (by simp))) ht hA, hT⟩
def dk_csM : List Nat := [67, 68, 69, 70, 71, 72, 73, 74, 75, 76, 77]
theorem dk_clo_D : ∀ k, k ∈ dk_csD → ∀ j, j ∈ dk_rf k → j ∈ dk_csD := by decide +kernel
theorem dk_clo_M : ∀ k, k ∈ dk_csM → ∀ j, j ∈ dk_rf k → j ∈ dk_csM := by decide +kernel
theorem dk_cs_all : ∀ k, k < 78 → k ∈ dk_csD ∨ k ∈ dk_csM := by decide +kernel
theorem dk_cs_dis : ∀ k, k ∈ dk_csM → k ∉ dk_csD := by decide +kernel
theorem dk_cs_78 : 78 ∉ dk_csD ∧ 78 ∉ dk_csM ∧ 79 ∉ dk_csD ∧ 79 ∉ dk_csM := by decide +kernel
/-- the whole world, once both are made -/
theorem dk_world {D : va_G} {cI cZ cA : ClassId} {A : Nat → Prop} {H : Heap} {uD uM d : dk_U} (hP : va_P D hd_cl (([] ++ dk_wc cI cZ cA uD dk_csD) ++ dk_wc cI cZ cA uM dk_csM) H) (hD : va_D A (([] ++ dk_wc cI cZ cA uD dk_csD) ++ dk_wc cI cZ cA uM dk_csM)) :
    ∃ v : dk_U, (∀ k, k ∈ dk_csD → v.1 k = uD.1 k ∧ v.2 k = uD.2 k) ∧ (∀ k, k ∈ dk_csM → v.1 k = uM.1 k ∧ v.2 k = uM.2 k) ∧ (v.1 78 = d.1 78 ∧ v.2 78 = d.2 78 ∧ v.1 79 = d.1 79 ∧ v.2 79 = d.2 79) ∧ va_P D hd_cl (hd_ws cI cZ cA v.1 v.2) H ∧ (∀ i j, i < 78 → j < 78 → v.1 i = v.1 j → i = j) ∧ ∀ k, k < 78 → A (v.1 k) := by
  obtain ⟨x1, x2, x3, x4⟩ := dk_cs_78
  have e1 : ∀ k, k ∈ dk_csD → (dk_gl [(dk_csD, uD), (dk_csM, uM)] d).1 k = uD.1 k ∧ (dk_gl [(dk_csD, uD), (dk_csM, uM)] d).2 k = uD.2 k := dk_pk_at (fun k hk => by
    show (if k ∈ dk_csD then uD else _) = uD
    rw [if_pos hk])
  have e2 : ∀ k, k ∈ dk_csM → (dk_gl [(dk_csD, uD), (dk_csM, uM)] d).1 k = uM.1 k ∧ (dk_gl [(dk_csD, uD), (dk_csM, uM)] d).2 k = uM.2 k := dk_pk_at (fun k hk => by
    show (if k ∈ dk_csD then uD else (if k ∈ dk_csM then uM else d)) = uM
    rw [if_neg (dk_cs_dis k hk), if_pos hk])
  have e3 : ∀ k, k ∈ [78, 79] → (dk_gl [(dk_csD, uD), (dk_csM, uM)] d).1 k = d.1 k ∧ (dk_gl [(dk_csD, uD), (dk_csM, uM)] d).2 k = d.2 k := dk_pk_at (fun k hk => by
    show (if k ∈ dk_csD then uD else (if k ∈ dk_csM then uM else d)) = d
    simp only [List.mem_cons, List.not_mem_nil, or_false] at hk
    rcases hk with rfl | rfl
    · rw [if_neg x1, if_neg x2]
    · rw [if_neg x3, if_neg x4])
  generalize dk_gl [(dk_csD, uD), (dk_csM, uM)] d = v at e1 e2 e3
  rw [List.nil_append] at hP hD
  have hat : ∀ k, k < 78 → va_at D hd_cl (v.1 k, hd_ent cI cZ cA v.1 (v.2 k) (hd_lay k)) H := by
    intro k hk
    rcases dk_cs_all k hk with h | h
    · exact dk_glP e1 dk_clo_D (dk_Pm.mpr (fun x hx => dk_Pm.mp hP x (List.mem_append_left _ hx))) k h
    · exact dk_glP e2 dk_clo_M (dk_Pm.mpr (fun x hx => dk_Pm.mp hP x (List.mem_append_right _ hx))) k h
  have hD2 : va_D A ((dk_csD ++ dk_csM).map (fun k => (v.1 k, (.inr (0, []) : va_E)))) := by
    refine dk_Df hD ?_
    unfold dk_wc
    simp only [List.map_append, List.map_map]
    congr 1
    · apply List.map_congr_left
      intro k hk
      exact (e1 k hk).1
    · apply List.map_congr_left
      intro k hk
      exact (e2 k hk).1
  have hix : ∀ k, k < 78 → ∃ a : Nat, ((dk_csD ++ dk_csM).map (fun k => (v.1 k, (.inr (0, []) : va_E))))[a]? = some (v.1 k, (.inr (0, []) : va_E)) ∧ (dk_csD ++ dk_csM)[a]? = some k := by
    intro k hk
    obtain ⟨a, ha⟩ := List.getElem?_of_mem (List.mem_append.mpr (dk_cs_all k hk))
    exact ⟨a, by rw [List.getElem?_map, ha]; rfl, ha⟩
  refine ⟨v, e1, e2, ⟨(e3 78 (by simp)).1, (e3 78 (by simp)).2, (e3 79 (by simp)).1, (e3 79 (by simp)).2⟩, ?_, ?_, ?_⟩
  · intro k q hq
    obtain ⟨hk, rfl⟩ := hd_ws_inv hq
    exact hat k hk
  · intro i j hi hj hij
    obtain ⟨a, a1, a2⟩ := hix i hi
    obtain ⟨b, b1, b2⟩ := hix j hj
    have := hD2.1 a b _ _ a1 b1 hij
    subst this
    exact Option.some.inj (a2.symm.trans b2)
  · intro k hk
    obtain ⟨a, a1, -⟩ := hix k hk
    exact hD2.2 a _ a1
theorem dk_lawcode : hd_cd 139 = code ∧ hd_mx 139 = 4 ∧ hd_own (hd_ow 139) = R_law ∧ hd_fr 139 ≤ 9 ∧ hd_lo 139 ≤ 342 ∧ hd_rt 139 = some .boolean := ⟨rfl, by decide +kernel, by decide +kernel, by decide +kernel, by decide +kernel, by decide +kernel⟩
set_option maxHeartbeats 4000000 in
set_option maxRecDepth 100000 in
/-- from the entry, for every script of at most 3072 ints, the law comes to its end with true -/
theorem whole_start {p : Program} {e : Env} {s : State} {m : MethodId} {below : List Frame} {meth : Method} {c : Code} (l : Launch) {b L : Nat} {xs : Nat → Int32} (hL : L ≤ 3072) (C0 : lw_At p s m meth c b L xs) : W p l e room_1 s m #[Value.ref b] below meth c s.heap [] 0 0 (lw_Z below #[Value.ref b] s) (entryFrame m ([Value.ref b] : List Value).toArray 4) := by
  obtain ⟨hx, hb, hr, hml, hown, hts0, hX, hbl, hlocks, hgv⟩ := id C0
  have hts : ∀ w ∈ hd_tb, w.before #[Value.ref b] s = true := fun w hw => hts0 w (List.mem_filter.mp hw).1
  have hA : ∀ q : Nat, s.heap.size ≤ q → (fun q : Nat => s.heap.size ≤ q) q := fun _ h => h
  have hbA : ¬ (fun q : Nat => s.heap.size ≤ q) b := Nat.not_le.mpr hbl
  have hnw : ∀ w, w ∈ lw_tbl → w.onTables = true → va_Nw w s := fun w hw ho => va_Nw.of ho (hts0 w hw)
  have hao : dk_ao s := ⟨(show (Cond.arrayOver (.array .int)).before #[Value.ref b] s = true from hts0 _ (dk_nest0 _ (by simp))), hnw _ (dk_nest0 _ (by simp)) rfl, hnw _ (dk_nest0 _ (by simp)) rfl, hnw _ (dk_nest0 _ (by simp)) rfl, hnw _ (dk_nest0 _ (by simp)) rfl, hnw _ (dk_nest0 _ (by simp)) rfl, hnw _ (dk_nest0 _ (by simp)) rfl⟩
  obtain ⟨D, hKc⟩ := dk_known hts
  obtain ⟨cI, hcI⟩ := dk_arrC (hts (.arrayClass .int) (hd_tb_in (by decide +kernel) rfl)) (fun C z => by cases z)
  obtain ⟨cZ, hcZ⟩ := dk_arrC (hts (.arrayClass .boolean) (hd_tb_in (by decide +kernel) rfl)) (fun C z => by cases z)
  obtain ⟨cA, hcA⟩ := dk_arrA hao.1
  have hK : va_K D hd_cl (hd_tys cI cZ cA) s := ⟨hKc, fun k q hq => by
    match k, hq with
    | 0, hq => cases hq; exact hcI
    | 1, hq => cases hq; exact hcZ
    | 2, hq => cases hq; exact hcA
    | k + 3, hq => simp [hd_tys] at hq⟩
  obtain ⟨t79, hZ, hT⟩ := dk_kof (A := fun q : Nat => s.heap.size ≤ q) hts0 hgv (fun a h => Nat.not_le.mpr h)
  have hS0 : va_S (fun q : Nat => s.heap.size ≤ q) s.heap s.heap [] := va_S.rf
  have hP0 : va_P D hd_cl [] s.heap := fun k q h => by simp at h
  have hD0 : va_D (fun q : Nat => s.heap.size ≤ q) [] := ⟨fun i j p q h => by simp at h, fun k q h => by simp at h⟩
  have hl := lv_entry ([.ref b]) (n := 4) (Nat.le_of_ble_eq_true rfl)
  rw [lg_entry_eq]
  generalize (lg_sl ([.ref b]) ++ List.replicate (4 - (lg_sl ([.ref b])).length) Slot.unset).toArray = ls at hl ⊢
  have hl : lv_has ls 4 [(0, .ref b)] := hl
  refine dk_cC (ci := 7) (own := R_law) (idn := 7) (idi := 9) (X := []) (dk_cn_Desk l D cI cZ cA) hx hb hml hts hown hK hA hao hl.1 hP0 hD0 hS0 (by decide +kernel) (by decide +kernel) (by decide +kernel) (by decide) (hd_tb_in (by decide +kernel) rfl) (hd_tb_in (by decide +kernel) rfl) (hd_tb_in (by decide +kernel) rfl) (by decide +kernel) (by decide +kernel) dk_code_Desk (hd_tb_in (by decide +kernel) rfl) (Or.inl (hd_tb_in (by decide +kernel) rfl)) (Nat.le_of_ble_eq_true rfl) (Nat.le_of_ble_eq_true rfl) ⟨Nat.le_of_ble_eq_true rfl, Nat.le_of_ble_eq_true rfl⟩ (Nat.le_of_ble_eq_true rfl) (fun uD H1 locs1 gD hP1 hD1 hS1 => ?_)
  refine lv_astore_n (k := 1) (lv' := [(1, .ref (uD.1 0)), (0, .ref b)]) hx hb (by decide +kernel) rfl hl (by decide) rfl (fun ls1 hl1 => ?_)
  refine dk_cC (ci := 8) (own := R_law) (idn := 10) (idi := 12) (X := [] ++ dk_wc cI cZ cA uD dk_csD) (dk_cn_Model l D cI cZ cA) hx hb hml hts hown hK hA hao hl1.1 hP1 hD1 hS1 (by decide +kernel) (by decide +kernel) (by decide +kernel) (by decide) (hd_tb_in (by decide +kernel) rfl) (hd_tb_in (by decide +kernel) rfl) (hd_tb_in (by decide +kernel) rfl) (by decide +kernel) (by decide +kernel) dk_code_Model (hd_tb_in (by decide +kernel) rfl) (Or.inl (hd_tb_in (by decide +kernel) rfl)) (Nat.le_of_ble_eq_true rfl) (Nat.le_of_ble_eq_true rfl) ⟨Nat.le_of_ble_eq_true rfl, Nat.le_of_ble_eq_true rfl⟩ (Nat.le_of_ble_eq_true rfl) (fun uM H2 locs2 gM hP2 hD2 hS2 => ?_)
  refine lv_astore_n (k := 2) (lv' := [(2, .ref (uM.1 67)), (1, .ref (uD.1 0)), (0, .ref b)]) hx hb (by decide +kernel) rfl hl1 (by decide) rfl (fun ls2 hl2 => ?_)
  refine lv_iconst (n := 0) (v := nI 0) hx hb (by decide +kernel) (by decide) ?_
  refine lv_istore_n (k := 3) (lv' := [(3, .int (nI 0)), (2, .ref (uM.1 67)), (1, .ref (uD.1 0)), (0, .ref b)]) hx hb (by decide +kernel) rfl hl2 (by decide) rfl (fun ls3 hl3 => ?_)
  refine W.widen (k := 600000) (n := 7302250) (Nat.le_of_ble_eq_true rfl) (Nat.le_of_ble_eq_true rfl) ?_
  obtain ⟨v, v1, v2, ⟨v3, v4, v5, v6⟩, hPw, hinj, hAd⟩ := dk_world (d := (fun k => if k = 78 then b else t79, fun k => if k = 78 then xs else hd_ks)) hP2 hD2
  have w3 : v.1 78 = b := v3
  have w4 : v.2 78 = xs := v4
  have w5 : v.1 79 = t79 := v5
  have w6 : v.2 79 = hd_ks := v6
  have hI : dk_inv dk_pw xs v.2 := by
    refine dk_start ?_ ?_ w4 w6
    · obtain ⟨z1, z2, z3, z4⟩ := gD
      refine ⟨fun k hk => ?_, ?_, ?_, ?_⟩
      · have hk2 : k ∈ dk_csD := by
          unfold dk_csD
          simp only [List.mem_cons, List.not_mem_nil, or_false] at hk ⊢
          omega
        rw [(v1 k hk2).2]
        exact z1 k hk
      · rw [(v1 3 (by decide)).2]; exact z2
      · rw [(v1 7 (by decide)).2, (v1 62 (by decide)).2, (v1 63 (by decide)).2]; exact z3
      · rw [(v1 0 (by decide)).2]; exact z4
    · refine ⟨by rw [(v2 68 (by decide)).2]; exact gM.1, fun k hk => ?_⟩
      have hk2 : k ∈ dk_csM := by
        unfold dk_csM
        simp only [List.mem_cons, List.not_mem_nil, or_false] at hk ⊢
        omega
      rw [(v2 k hk2).2]
      exact gM.2 k hk
  obtain ⟨n, hEv⟩ := dk_law hL (L + 1) 0 v.2 (by omega) (by omega) hI
  obtain ⟨q1, q2, q3, q4, q5, q6⟩ := dk_lawcode
  have hro : hd_ro v.1 L xs (fun q : Nat => s.heap.size ≤ q) s s.heap := by
    refine ⟨by rw [w5]; exact hZ, by rw [w5]; exact hT, by rw [w3]; exact hX, by rw [w3]; exact hbl, by rw [w3]; exact hbA, hnw _ (dk_nest0 _ (by simp)) rfl, hnw _ (dk_nest0 _ (by simp)) rfl, hnw _ (dk_nest0 _ (by simp)) rfl⟩
  have hhas : hd_has v.1 ls3 (hd_mx 139) [.ref 78, .ref 0, .ref 67, .int (nI 0)] := by
    rw [q2]
    refine ⟨hl3.1, rfl, hl3.2.1, fun i x hi => ?_⟩
    have e0 : v.1 0 = uD.1 0 := (v1 0 (by decide)).1
    have e67 : v.1 67 = uM.1 67 := (v2 67 (by decide)).1
    match i, hi with
    | 0, hi => cases hi; exact Or.inr ⟨rfl, by rw [show hd_cv v.1 (.ref 78) = .ref (v.1 78) from rfl, w3]; exact lv_at hl3 3 rfl⟩
    | 1, hi => cases hi; exact Or.inr ⟨rfl, by rw [show hd_cv v.1 (.ref 0) = .ref (v.1 0) from rfl, e0]; exact lv_at hl3 2 rfl⟩
    | 2, hi => cases hi; exact Or.inr ⟨rfl, by rw [show hd_cv v.1 (.ref 67) = .ref (v.1 67) from rfl, e67]; exact lv_at hl3 1 rfl⟩
    | 3, hi => cases hi; exact Or.inr ⟨rfl, lv_at hl3 0 rfl⟩
    | i + 4, hi => simp at hi
  refine hd_S1_all (l := l) (D := D) (cI := cI) (cZ := cZ) (cA := cA) (ad := v.1) (Ls := L) (xs := xs) hinj n p e room_1 s m #[Value.ref b] below meth c 139 (fun q : Nat => s.heap.size ≤ q) 600000 7302250 (lw_Z below #[Value.ref b] s) (fun w _ => w = some (.int 1)) ⟨hx, by rw [q1]; exact hb, by rw [q2]; exact hml, by rw [q3]; exact hown, hts, hK, hro, hAd, q4, q5, Nat.le_refl _, Nat.le_refl _⟩ ?_ (18, [.ref 78, .ref 0, .ref 67, .int (nI 0)], [], v.2) H2 locs2 ls3 hEv w4 w6 hPw hS2 hhas
  intro w M' H' locs' pc' ls' hw _ _ _ hS' hend
  subst hw
  rcases hend with ⟨z, -, -⟩ | ⟨x, hx1, -, hdec⟩
  · cases z
  · have ex : x = 1 := by
      cases hx1
      rfl
    rw [q1] at hdec
    refine va_forget (fun q hq => hS'.2.2 q hq) ?_
    exact lw_ret hx hb hr hlocks hdec
