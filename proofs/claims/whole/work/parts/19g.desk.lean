/-! the codes of the constructors -/
theorem dk_code_People : Cond.code ⟨"HoursDesk$People", "<init>", "()V"⟩ prog_5_method_1_code 1 none ∈ lw_tbl := by decide +kernel
theorem dk_code_Places : Cond.code ⟨"HoursDesk$Places", "<init>", "()V"⟩ prog_6_method_1_code 1 none ∈ lw_tbl := by decide +kernel
theorem dk_code_Entries : Cond.code ⟨"HoursDesk$Entries", "<init>", "()V"⟩ prog_4_method_1_code 1 none ∈ lw_tbl := by decide +kernel
theorem dk_code_Absences : Cond.code ⟨"HoursDesk$Absences", "<init>", "()V"⟩ prog_2_method_1_code 1 none ∈ lw_tbl := by decide +kernel
theorem dk_code_Sheets : Cond.code ⟨"HoursDesk$Sheets", "<init>", "()V"⟩ prog_8_method_1_code 1 none ∈ lw_tbl := by decide +kernel
theorem dk_code_Acts : Cond.code ⟨"HoursDesk$Acts", "<init>", "()V"⟩ prog_3_method_1_code 1 none ∈ lw_tbl := by decide +kernel
theorem dk_code_Planner : Cond.code ⟨"HoursDesk$Planner", "<init>", "()V"⟩ prog_7_method_1_code 4 none ∈ lw_tbl := by decide +kernel
theorem dk_code_Desk : Cond.code ⟨"HoursDesk", "<init>", "()V"⟩ prog_1_method_1_code 1 none ∈ lw_tbl := by decide +kernel
theorem dk_code_Model : Cond.code ⟨"HoursDeskModel", "<init>", "()V"⟩ prog_10_method_1_code 1 none ∈ lw_tbl := by decide +kernel
/-! the desk's constructor -/
set_option maxHeartbeats 4000000 in
set_option maxRecDepth 100000 in
theorem dk_desk {l : Launch} {D : va_G} {cI cZ cA : ClassId} {p : Program} {e : Env} {s : State} {m : MethodId} {args : Array Value} {below : List Frame} {meth : Method} {c : Code} {A : Nat → Prop} {ls : Array Slot} {Q : State → Prop} {h0 : Nat} (B : dk_bx p s m args meth c prog_1_method_1_code 7 D cI cZ cA A s.heap ls h0) (hP : va_P D hd_cl [(h0, .inr (7, [.null, .null, .null, .null, .null, .null, .null, .int 0]))] s.heap) (hD : va_D A [(h0, .inr (7, [.null, .null, .null, .null, .null, .null, .null, .int 0]))]) (hS : va_S A s.heap s.heap [])
    (fin : ∀ (u : dk_U) (H : Heap) (locs : List Loc) (ls' : Array Slot) (pc : Nat), dk_PD u.2 → va_P D hd_cl (dk_wc cI cZ cA u dk_csD) H → va_D A (dk_wc cI cZ cA u dk_csD) → u.1 0 = h0 → va_S A s.heap H locs → decode prog_1_method_1_code pc = .ok (.return_, 1) → W p l e { frames := 2, cells := 66, slots := 3147, locals := 43 } s m args below meth c H locs 66 3147 Q (F0 m pc ls' [])) :
    W p l e { frames := 2, cells := 66, slots := 3147, locals := 43 } s m args below meth c s.heap [] 0 0 Q (F0 m 0 ls []) := by
  have hne := B.2.2.2.2.2.2.2.2.2.2.2
  refine dk_fO B (idx := 1) (by decide +kernel) (by decide +kernel) (hd_tb_in (by decide +kernel) rfl) (hd_tb_in (by decide +kernel) rfl) (hd_tb_in (by decide +kernel) rfl) (Nat.le_of_ble_eq_true rfl) (Nat.le_of_ble_eq_true rfl) ?_
  refine dk_fC B (ci := 3) (k := 0) (idn := 7) (idi := 9) (idf := 10) (dk_cn_People l D cI cZ cA) hP hD hS (by decide +kernel) (by decide +kernel) (by decide +kernel) (by decide +kernel) (by decide +kernel) (by decide) (hd_tb_in (by decide +kernel) rfl) (hd_tb_in (by decide +kernel) rfl) (hd_tb_in (by decide +kernel) rfl) (by decide +kernel) (by decide +kernel) dk_code_People (hd_tb_in (by decide +kernel) rfl) (Or.inr hne.1) (Nat.le_of_ble_eq_true rfl) (Nat.le_of_ble_eq_true rfl) ⟨Nat.le_of_ble_eq_true rfl, Nat.le_of_ble_eq_true rfl⟩ (by decide) (Nat.le_of_ble_eq_true rfl) (hd_tb_in (by decide +kernel) rfl) rfl (fun q => ⟨rfl, rfl⟩) (fun u0 H locs g0 hP hD hS => ?_)
  refine dk_fC B (ci := 4) (k := 1) (idn := 16) (idi := 18) (idf := 19) (dk_cn_Places l D cI cZ cA) hP hD hS (by decide +kernel) (by decide +kernel) (by decide +kernel) (by decide +kernel) (by decide +kernel) (by decide) (hd_tb_in (by decide +kernel) rfl) (hd_tb_in (by decide +kernel) rfl) (hd_tb_in (by decide +kernel) rfl) (by decide +kernel) (by decide +kernel) dk_code_Places (hd_tb_in (by decide +kernel) rfl) (Or.inr hne.2.1) (Nat.le_of_ble_eq_true rfl) (Nat.le_of_ble_eq_true rfl) ⟨Nat.le_of_ble_eq_true rfl, Nat.le_of_ble_eq_true rfl⟩ (by decide) (Nat.le_of_ble_eq_true rfl) (hd_tb_in (by decide +kernel) rfl) rfl (fun q => ⟨rfl, rfl⟩) (fun u1 H locs g1 hP hD hS => ?_)
  refine dk_fC B (ci := 2) (k := 2) (idn := 23) (idi := 25) (idf := 26) (dk_cn_Entries l D cI cZ cA) hP hD hS (by decide +kernel) (by decide +kernel) (by decide +kernel) (by decide +kernel) (by decide +kernel) (by decide) (hd_tb_in (by decide +kernel) rfl) (hd_tb_in (by decide +kernel) rfl) (hd_tb_in (by decide +kernel) rfl) (by decide +kernel) (by decide +kernel) dk_code_Entries (hd_tb_in (by decide +kernel) rfl) (Or.inr hne.2.2.1) (Nat.le_of_ble_eq_true rfl) (Nat.le_of_ble_eq_true rfl) ⟨Nat.le_of_ble_eq_true rfl, Nat.le_of_ble_eq_true rfl⟩ (by decide) (Nat.le_of_ble_eq_true rfl) (hd_tb_in (by decide +kernel) rfl) rfl (fun q => ⟨rfl, rfl⟩) (fun u2 H locs g2 hP hD hS => ?_)
  refine dk_fC B (ci := 0) (k := 3) (idn := 30) (idi := 32) (idf := 33) (dk_cn_Absences l D cI cZ cA) hP hD hS (by decide +kernel) (by decide +kernel) (by decide +kernel) (by decide +kernel) (by decide +kernel) (by decide) (hd_tb_in (by decide +kernel) rfl) (hd_tb_in (by decide +kernel) rfl) (hd_tb_in (by decide +kernel) rfl) (by decide +kernel) (by decide +kernel) dk_code_Absences (hd_tb_in (by decide +kernel) rfl) (Or.inr hne.2.2.2.1) (Nat.le_of_ble_eq_true rfl) (Nat.le_of_ble_eq_true rfl) ⟨Nat.le_of_ble_eq_true rfl, Nat.le_of_ble_eq_true rfl⟩ (by decide) (Nat.le_of_ble_eq_true rfl) (hd_tb_in (by decide +kernel) rfl) rfl (fun q => ⟨rfl, rfl⟩) (fun u3 H locs g3 hP hD hS => ?_)
  refine dk_fC B (ci := 6) (k := 4) (idn := 37) (idi := 39) (idf := 40) (dk_cn_Sheets l D cI cZ cA) hP hD hS (by decide +kernel) (by decide +kernel) (by decide +kernel) (by decide +kernel) (by decide +kernel) (by decide) (hd_tb_in (by decide +kernel) rfl) (hd_tb_in (by decide +kernel) rfl) (hd_tb_in (by decide +kernel) rfl) (by decide +kernel) (by decide +kernel) dk_code_Sheets (hd_tb_in (by decide +kernel) rfl) (Or.inr hne.2.2.2.2.1) (Nat.le_of_ble_eq_true rfl) (Nat.le_of_ble_eq_true rfl) ⟨Nat.le_of_ble_eq_true rfl, Nat.le_of_ble_eq_true rfl⟩ (by decide) (Nat.le_of_ble_eq_true rfl) (hd_tb_in (by decide +kernel) rfl) rfl (fun q => ⟨rfl, rfl⟩) (fun u4 H locs g4 hP hD hS => ?_)
  refine dk_fC B (ci := 1) (k := 5) (idn := 44) (idi := 46) (idf := 47) (dk_cn_Acts l D cI cZ cA) hP hD hS (by decide +kernel) (by decide +kernel) (by decide +kernel) (by decide +kernel) (by decide +kernel) (by decide) (hd_tb_in (by decide +kernel) rfl) (hd_tb_in (by decide +kernel) rfl) (hd_tb_in (by decide +kernel) rfl) (by decide +kernel) (by decide +kernel) dk_code_Acts (hd_tb_in (by decide +kernel) rfl) (Or.inr hne.2.2.2.2.2) (Nat.le_of_ble_eq_true rfl) (Nat.le_of_ble_eq_true rfl) ⟨Nat.le_of_ble_eq_true rfl, Nat.le_of_ble_eq_true rfl⟩ (by decide) (Nat.le_of_ble_eq_true rfl) (hd_tb_in (by decide +kernel) rfl) rfl (fun q => ⟨rfl, rfl⟩) (fun u5 H locs g5 hP hD hS => ?_)
  refine dk_fC B (ci := 5) (k := 6) (idn := 51) (idi := 53) (idf := 54) (dk_cn_Planner l D cI cZ cA) hP hD hS (by decide +kernel) (by decide +kernel) (by decide +kernel) (by decide +kernel) (by decide +kernel) (by decide) (hd_tb_in (by decide +kernel) rfl) (hd_tb_in (by decide +kernel) rfl) (hd_tb_in (by decide +kernel) rfl) (by decide +kernel) (by decide +kernel) dk_code_Planner (hd_tb_in (by decide +kernel) rfl) (Or.inl (hd_tb_in (by decide +kernel) rfl)) (Nat.le_of_ble_eq_true rfl) (Nat.le_of_ble_eq_true rfl) ⟨Nat.le_of_ble_eq_true rfl, Nat.le_of_ble_eq_true rfl⟩ (by decide) (Nat.le_of_ble_eq_true rfl) (hd_tb_in (by decide +kernel) rfl) rfl (fun q => ⟨rfl, rfl⟩) (fun u6 H locs g6 hP hD hS => ?_)
  refine dk_fI B (L := 1) (k := 7) (idx := 58) (v := 0) hP hD hS (by decide +kernel) (Or.inl ⟨0, by decide +kernel, by decide, rfl⟩) (by decide +kernel) (by decide) (Nat.le_of_ble_eq_true rfl) (hd_tb_in (by decide +kernel) rfl) rfl rfl (fun H locs hP hD hS => ?_)
  refine W.widen (k := 66) (n := 3147) (Nat.le_of_ble_eq_true rfl) (Nat.le_of_ble_eq_true rfl) ?_
  have hv : ∀ v, v = dk_gl [([1, 8, 9, 10, 11, 12, 13], u0), ([2, 14, 15, 16, 17, 18], u1), ([3, 19, 20, 21, 22, 23, 24, 25, 26, 27], u2), ([4, 28, 29, 30], u3), ([5, 31, 32, 33, 34, 35, 36, 37], u4), ([6, 38, 39, 40, 41, 42, 43, 44, 45, 46, 47, 48, 49, 50, 51, 52, 53, 54, 55, 56, 57, 58, 59, 60, 61], u5), ([7, 62, 63, 64, 65, 66], u6)] (fun _ => h0, fun _ _ => 0) → W p l e { frames := 2, cells := 66, slots := 3147, locals := 43 } s m args below meth c H locs 66 3147 Q (F0 m 86 ls []) := by
    intro v ev
    have e0 : ∀ k, k ∈ [1, 8, 9, 10, 11, 12, 13] → v.1 k = u0.1 k ∧ v.2 k = u0.2 k := by
      rw [ev]
      refine dk_pk_at (fun k hk => ?_)
      simp only [List.mem_cons, List.not_mem_nil, or_false] at hk
      rcases hk with rfl | rfl | rfl | rfl | rfl | rfl | rfl <;> rfl
    have e1 : ∀ k, k ∈ [2, 14, 15, 16, 17, 18] → v.1 k = u1.1 k ∧ v.2 k = u1.2 k := by
      rw [ev]
      refine dk_pk_at (fun k hk => ?_)
      simp only [List.mem_cons, List.not_mem_nil, or_false] at hk
      rcases hk with rfl | rfl | rfl | rfl | rfl | rfl <;> rfl
    have e2 : ∀ k, k ∈ [3, 19, 20, 21, 22, 23, 24, 25, 26, 27] → v.1 k = u2.1 k ∧ v.2 k = u2.2 k := by
      rw [ev]
      refine dk_pk_at (fun k hk => ?_)
      simp only [List.mem_cons, List.not_mem_nil, or_false] at hk
      rcases hk with rfl | rfl | rfl | rfl | rfl | rfl | rfl | rfl | rfl | rfl <;> rfl
    have e3 : ∀ k, k ∈ [4, 28, 29, 30] → v.1 k = u3.1 k ∧ v.2 k = u3.2 k := by
      rw [ev]
      refine dk_pk_at (fun k hk => ?_)
      simp only [List.mem_cons, List.not_mem_nil, or_false] at hk
      rcases hk with rfl | rfl | rfl | rfl <;> rfl
    have e4 : ∀ k, k ∈ [5, 31, 32, 33, 34, 35, 36, 37] → v.1 k = u4.1 k ∧ v.2 k = u4.2 k := by
      rw [ev]
      refine dk_pk_at (fun k hk => ?_)
      simp only [List.mem_cons, List.not_mem_nil, or_false] at hk
      rcases hk with rfl | rfl | rfl | rfl | rfl | rfl | rfl | rfl <;> rfl
    have e5 : ∀ k, k ∈ [6, 38, 39, 40, 41, 42, 43, 44, 45, 46, 47, 48, 49, 50, 51, 52, 53, 54, 55, 56, 57, 58, 59, 60, 61] → v.1 k = u5.1 k ∧ v.2 k = u5.2 k := by
      rw [ev]
      refine dk_pk_at (fun k hk => ?_)
      simp only [List.mem_cons, List.not_mem_nil, or_false] at hk
      rcases hk with rfl | rfl | rfl | rfl | rfl | rfl | rfl | rfl | rfl | rfl | rfl | rfl | rfl | rfl | rfl | rfl | rfl | rfl | rfl | rfl | rfl | rfl | rfl | rfl | rfl <;> rfl
    have e6 : ∀ k, k ∈ [7, 62, 63, 64, 65, 66] → v.1 k = u6.1 k ∧ v.2 k = u6.2 k := by
      rw [ev]
      refine dk_pk_at (fun k hk => ?_)
      simp only [List.mem_cons, List.not_mem_nil, or_false] at hk
      rcases hk with rfl | rfl | rfl | rfl | rfl | rfl <;> rfl
    refine fin v H locs ls 86 ?_ ?_ ?_ (by rw [ev]; rfl) hS (by decide +kernel)
    · refine ⟨fun k hk => ?_, ⟨?_, ?_, ?_⟩, ⟨?_, ?_, ?_⟩, by rw [ev]; rfl⟩
      · have hz : k ∈ [1, 8, 9, 10, 11, 12, 13] ∨ k ∈ [2, 14, 15, 16, 17, 18] ∨ k ∈ [19, 20, 21, 22, 23, 25, 26, 27] ∨ k ∈ [4, 28, 29, 30] ∨ k ∈ [5, 31, 32, 33, 34, 35, 36, 37] ∨ k ∈ [6, 38, 39, 40, 41, 42, 43, 44, 45, 46, 47, 48, 49, 50, 51, 52, 53, 54, 55, 56, 57, 58, 59, 60, 61] := by
          simp only [List.mem_cons, List.not_mem_nil, or_false] at hk ⊢
          omega
        rcases hz with hz | hz | hz | hz | hz | hz
        · rw [(e0 k (by simp only [List.mem_cons, List.not_mem_nil, or_false] at hz ⊢; omega)).2]
          exact g0 k (by simp only [List.mem_cons, List.not_mem_nil, or_false] at hz ⊢; omega)
        · rw [(e1 k (by simp only [List.mem_cons, List.not_mem_nil, or_false] at hz ⊢; omega)).2]
          exact g1 k (by simp only [List.mem_cons, List.not_mem_nil, or_false] at hz ⊢; omega)
        · rw [(e2 k (by simp only [List.mem_cons, List.not_mem_nil, or_false] at hz ⊢; omega)).2]
          exact g2.2 k hz
        · rw [(e3 k (by simp only [List.mem_cons, List.not_mem_nil, or_false] at hz ⊢; omega)).2]
          exact g3 k (by simp only [List.mem_cons, List.not_mem_nil, or_false] at hz ⊢; omega)
        · rw [(e4 k (by simp only [List.mem_cons, List.not_mem_nil, or_false] at hz ⊢; omega)).2]
          exact g4 k (by simp only [List.mem_cons, List.not_mem_nil, or_false] at hz ⊢; omega)
        · rw [(e5 k (by simp only [List.mem_cons, List.not_mem_nil, or_false] at hz ⊢; omega)).2]
          exact g5 k (by simp only [List.mem_cons, List.not_mem_nil, or_false] at hz ⊢; omega)
      · rw [(e2 3 (by decide)).2]
        exact g2.1.1
      · rw [(e2 3 (by decide)).2]
        exact g2.1.2.1
      · rw [(e2 3 (by decide)).2]
        exact g2.1.2.2
      · rw [(e6 7 (by decide)).2]
        exact g6.1
      · rw [(e6 62 (by decide)).2]
        exact g6.2.1
      · rw [(e6 63 (by decide)).2]
        exact g6.2.2
    · rw [dk_Pm] at hP ⊢
      intro q hq
      obtain ⟨k, hk, rfl⟩ := List.mem_map.mp hq
      have hz : k = 0 ∨ k ∈ [1, 8, 9, 10, 11, 12, 13] ∨ k ∈ [2, 14, 15, 16, 17, 18] ∨ k ∈ [3, 19, 20, 21, 22, 23, 24, 25, 26, 27] ∨ k ∈ [4, 28, 29, 30] ∨ k ∈ [5, 31, 32, 33, 34, 35, 36, 37] ∨ k ∈ [6, 38, 39, 40, 41, 42, 43, 44, 45, 46, 47, 48, 49, 50, 51, 52, 53, 54, 55, 56, 57, 58, 59, 60, 61] ∨ k ∈ [7, 62, 63, 64, 65, 66] := by
        unfold dk_csD at hk
        simp only [List.mem_cons, List.not_mem_nil, or_false] at hk ⊢
        omega
      rcases hz with rfl | hz | hz | hz | hz | hz | hz | hz
      · subst ev
        exact hP _ (List.mem_cons_self)
      · exact dk_glP e0 dk_clo_People (dk_Pm.mpr (fun x hw => hP x (List.mem_cons_of_mem _ (List.mem_append_left _ (List.mem_append_left _ (List.mem_append_left _ (List.mem_append_left _ (List.mem_append_left _ (List.mem_append_left _ (List.mem_append_right _ hw)))))))))) k hz
      · exact dk_glP e1 dk_clo_Places (dk_Pm.mpr (fun x hw => hP x (List.mem_cons_of_mem _ (List.mem_append_left _ (List.mem_append_left _ (List.mem_append_left _ (List.mem_append_left _ (List.mem_append_left _ (List.mem_append_right _ hw))))))))) k hz
      · exact dk_glP e2 dk_clo_Entries (dk_Pm.mpr (fun x hw => hP x (List.mem_cons_of_mem _ (List.mem_append_left _ (List.mem_append_left _ (List.mem_append_left _ (List.mem_append_left _ (List.mem_append_right _ hw)))))))) k hz
      · exact dk_glP e3 dk_clo_Absences (dk_Pm.mpr (fun x hw => hP x (List.mem_cons_of_mem _ (List.mem_append_left _ (List.mem_append_left _ (List.mem_append_left _ (List.mem_append_right _ hw))))))) k hz
      · exact dk_glP e4 dk_clo_Sheets (dk_Pm.mpr (fun x hw => hP x (List.mem_cons_of_mem _ (List.mem_append_left _ (List.mem_append_left _ (List.mem_append_right _ hw)))))) k hz
      · exact dk_glP e5 dk_clo_Acts (dk_Pm.mpr (fun x hw => hP x (List.mem_cons_of_mem _ (List.mem_append_left _ (List.mem_append_right _ hw))))) k hz
      · exact dk_glP e6 dk_clo_Planner (dk_Pm.mpr (fun x hw => hP x (List.mem_cons_of_mem _ (List.mem_append_right _ hw)))) k hz
    · subst ev
      exact dk_Df hD rfl
  exact hv _ rfl
theorem dk_cn_Desk (l : Launch) (D : va_G) (cI cZ cA : ClassId) : dk_Cn l D cI cZ cA ⟨"HoursDesk", "<init>", "()V"⟩ prog_1_method_1_code 1 2 43 66 3147 7 [.null, .null, .null, .null, .null, .null, .null, .int 0] dk_csD 0 dk_PD := dk_Cn_of (by decide +kernel) (by decide) ⟨0, rfl⟩ (fun p e s m args below meth c A ls Q h0 B hP hD hS hl fin => dk_desk B hP hD hS fin)
