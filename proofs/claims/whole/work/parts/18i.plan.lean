/-! plan, planned, gang, plans, when -/
theorem dk_invP {xs : Nat → Int32} {M M1 : hd_Mem} (I : dk_inv dk_pw xs M) (ho : ∀ c, c ∉ [7, 63, 64, 65, 66] → M1 c = M c) (h0 : M1 63 0 = 0) (hp : dk_plan dk_pw M1) : dk_inv dk_pw xs M1 := by
  obtain ⟨h1, h2, ⟨h3, h4, h5, h6⟩, h7, h8, h9, h10, h11, h12, h13⟩ := I
  have edv : hd_dv M1 = hd_dv M := hd_dv_out2 (fun c hc => ho c (by simp at hc ⊢; omega))
  have eac : dk_ac M1 = dk_ac M := by
    funext i
    unfold dk_ac
    have hy := Nat.mod_lt ((M 6 5).toNatClampNeg + 19 - i) (show 0 < 20 by omega)
    rw [ho 6 (by decide), ho 38 (by decide), ho 39 (by decide), ho 40 (by decide), ho (42 + ((M 6 5).toNatClampNeg + 19 - i) % 20) (by simp; omega)]
  have epa : dk_pa M1 = dk_pa M := by
    funext i
    unfold dk_pa
    rw [ho 67 (by decide), ho 69 (by decide)]
  refine ⟨by rw [ho 68 (by decide)]; exact h1, by rw [edv, ho 68 (by decide)]; exact h2, ⟨by rw [ho 67 (by decide)]; exact h3, by rw [ho 67 (by decide), ho 6 (by decide)]; exact h4, by rw [ho 6 (by decide)]; exact h5, by rw [ho 67 (by decide), eac, epa, edv]; exact h6⟩, ?_, by rw [ho 0 (by decide), ho 67 (by decide)]; exact h8, by rw [ho 25 (by decide), ho 26 (by decide), ho 27 (by decide)]; exact h9, hp, by rw [ho 62 (by decide)]; exact h11, by rw [ho 78 (by decide)]; exact h12, by rw [ho 79 (by decide)]; exact ⟨h13.1, h0⟩⟩
  intro s hs
  have := h7 s hs
  unfold dk_sh at this ⊢
  rw [ho 31 (by decide), ho 32 (by decide), ho 70 (by decide), ho 71 (by decide), ho 72 (by decide), ho (34 + s) (by simp; omega)]
  exact this
def dk_bw (W : Nat → Int32) (d : Nat) : Nat := dk_mxl (dk_F (dk_okg W d) 3 (dk_C W d))
def dk_bn (W : Nat → Int32) (d : Nat) : Nat := dk_wy (dk_F (dk_okg W d) 3 (dk_C W d))
theorem dk_bw_lt {W : Nat → Int32} (h : dk_wf W) (d : Nat) : dk_bw W d / 65536 ≤ 8 ∧ dk_bw W d < 2 ^ 30 := by
  have hC := dk_C_lt (d := d) (dk_wf_n h).2.1
  have h2 := (dk_F_bd (dk_okg W d) 3 (dk_C W d) _ hC (dk_mxl_mem _ (dk_F_ne (dk_okg W d) 3 (dk_C W d)))).2
  have h3 := dk_bc8_le (dk_C W d)
  unfold dk_bw
  omega
/-- the desk's plan of a day, found or kept -/
theorem dk_plD {Ls : Nat} {xs : Nat → Int32} {M : hd_Mem} (I : dk_inv dk_pw xs M) {d : Nat} (hd : d < 365) : ∃ M1, hd_Rt Ls D_findPlan [.ref 0, .int (nI d)] M none M1 ∧ dk_inv dk_pw xs M1 ∧ (∀ c, c ∉ [7, 63, 64, 65, 66] → M1 c = M c) ∧ M1 7 2 = nI (dk_bw (M 68) d) ∧ M1 7 1 = nI (dk_bn (M 68) d) := by
  have hq := dk_dq_of I
  have hpw : dk_pw (hd_dv M) d = (nI (dk_bw (M 68) d), nI (dk_bn (M 68) d)) := by
    unfold dk_pw dk_bw dk_bn
    rw [dk_pw_live I.2.1 hq.1]
  by_cases c : M 7 0 = nI d
  · have hpl : dk_plan dk_pw M := I.2.2.2.2.2.2.1
    rcases hpl with z | ⟨d', h1, h2, h3⟩
    · rw [z] at c
      have := congrArg Int32.toInt c
      rw [nI_toInt (by omega)] at this
      have e : (-1 : Int32).toInt = -1 := rfl
      omega
    · rw [c, nI_eq (by omega) (by omega)] at h2
      subst h2
      rw [hpw] at h3
      have e := Prod.mk.inj h3
      exact ⟨M, e_D_findPlan (b_D_findPlan_0 (fun _ => b_D_findPlan_11 ⟨rfl, rfl⟩) (fun z => absurd c z)), I, fun _ _ => rfl, e.1, e.2⟩
  · obtain ⟨M1, g1, g2, g3, g4, g5⟩ := dk_fpl (Ls := Ls) hq I.2.2.2.2.2.2.2.1 I.2.2.2.2.2.2.2.2.2.2 hd c
    have edv : hd_dv M1 = hd_dv M := hd_dv_out2 (fun c hc => g2 c (by simp at hc ⊢; omega))
    have hp : dk_plan dk_pw M1 := Or.inr ⟨d, hd, g4, by rw [edv]; exact g5⟩
    rw [hpw] at g5
    have e := Prod.mk.inj g5
    exact ⟨M1, g1, dk_invP I g2 g3 hp, g2, e.1, e.2⟩
/-- the reference's -/
theorem dk_plM {Ls : Nat} {M : hd_Mem} (h : dk_wf (M 68)) {d : Nat} (hd : d < 365) : ∃ M2, hd_Rt Ls M_findPlan [.ref 67, .int (nI d)] M none M2 ∧ (∀ c, c ∉ [67, 73, 74, 75, 76] → M2 c = M c) ∧ (∀ j, j ≠ 8 → j ≠ 9 → M2 67 j = M 67 j) ∧ M2 67 8 = nI (dk_bw (M 68) d / 65536) ∧ M2 67 9 = nI (dk_bn (M 68) d) ∧ ∀ p, p < dk_np (M 68) → M2 74 p = nI (3 - dk_bw (M 68) d / 4 ^ (7 - p) % 4) := by
  obtain ⟨M2, g1, g2, g3, g4, g5, -, g7⟩ := dk_mfp (Ls := Ls) h hd
  exact ⟨M2, g1, g2, g3, g4, g5, g7⟩
theorem dk_scrP {pw : dk_PW} {xs : Nat → Int32} {M M2 : hd_Mem} (I : dk_inv pw xs M) (h1 : ∀ c, c ∉ [67, 73, 74, 75, 76] → M2 c = M c) (h2 : ∀ j, j ≠ 8 → j ≠ 9 → M2 67 j = M 67 j) : dk_inv pw xs M2 := dk_scr I (fun c hc h => h1 c (by simp at h ⊢; omega)) h2
theorem dk_findP {pw : dk_PW} {xs : Nat → Int32} {M M2 : hd_Mem} {x : Int32} (I : dk_inv pw xs M) (h1 : ∀ c, c ∉ [67, 73, 74, 75, 76] → M2 c = (f_D_finding M x).2 c) (h2 : ∀ j, j ≠ 8 → j ≠ 9 → M2 67 j = (f_D_finding M x).2 67 j) : dk_inv pw xs (f_M_finding M2 x).2 := by
  refine dk_scrP (dk_find (x := x) I) (fun c hc => ?_) (fun j j8 j9 => ?_)
  · have c67 : c ≠ 67 := by rintro rfl; simp at hc
    funext j
    have := h1 c hc
    simp only [f_M_finding, hd_set]
    rw [if_neg (fun z => c67 z.1), if_neg (fun z => c67 z.1), this]
  · have := h2 j j8 j9
    have h3 := h2 3 (by decide) (by decide)
    simp only [f_M_finding, hd_set]
    rw [this, h3]
theorem dk_plcN {y p : Nat} (hy : y < 2 ^ 31) (hp : p < 8) : (3 : Int32) - ((nI y >>> ((2 * (7 - nI p)) &&& 31)) &&& 3) = nI (3 - y / 4 ^ (7 - p) % 4) := by
  have e1 : (2 : Int32) * (7 - nI p) = nI (2 * (7 - p)) := by
    have : (7 : Int32) - nI p = nI (7 - p) := pk_sub (a := 7) (b := p) (by omega)
    rw [this, show (2 : Int32) = nI 2 from rfl, pk_mul]
  have e2 : 2 ^ (2 * (7 - p)) = 4 ^ (7 - p) := by rw [Nat.pow_mul]
  have hlt : y / 4 ^ (7 - p) < 2 ^ 31 := Nat.lt_of_le_of_lt (Nat.div_le_self _ _) hy
  rw [e1, dk_shr hy (by omega), e2, show (3 : Int32) = nI 3 from rfl, dk_andN (by omega) (by omega), show (3 : Nat) = 2 ^ 2 - 1 from rfl, Nat.and_two_pow_sub_one_eq_mod]
  exact pk_sub (a := 3) (by have := Nat.mod_lt (y / 4 ^ (7 - p)) (show 0 < 4 by omega); omega)
theorem dk_dayOf {x : Int32} (c : ¬ f_M_isDay x = 0) : ∃ d, d < 365 ∧ x = nI d := by
  obtain ⟨h1, -⟩ := dk_within (x := x) (a := 0) (b := 364) (by omega) (by omega) c
  obtain ⟨d, h2, h3⟩ := hd_in_of h1 (by omega)
  exact ⟨d, h2, h3⟩
theorem dk_same_plan {xs : Nat → Int32} {Ls : Nat} {M : hd_Mem} (I : dk_inv dk_pw xs M) (x1 : Int32) : dk_same dk_pw xs Ls D_plan M_plan [.int x1] M := by
  by_cases c1 : f_M_isDay x1 = 0
  · exact dk_finds (-100001) I (e_D_plan (b_D_plan_0 s_D_isDay (b_D_plan_4 (fun _ => b_D_plan_7 s_D_finding (b_D_plan_13 ⟨rfl, rfl⟩)) (fun z => absurd c1 z)))) (e_M_plan (b_M_plan_0 s_M_isDay (b_M_plan_4 (fun _ => b_M_plan_7 s_M_finding (b_M_plan_13 ⟨rfl, rfl⟩)) (fun z => absurd c1 z))))
  obtain ⟨d, hd, rfl⟩ := dk_dayOf c1
  obtain ⟨M1, g1, g2, g3, g4, g5⟩ := dk_plD (Ls := Ls) I hd
  obtain ⟨M2, k1, k2, k3, k4, k5, k6⟩ := dk_plM (Ls := Ls) (M := M1) g2.1 hd
  rw [g3 68 (by decide)] at k4
  refine ⟨nI (dk_bw (M 68) d / 65536), M1, M2, e_D_plan (b_D_plan_0 s_D_isDay (b_D_plan_4 (fun z => absurd z c1) (fun _ => b_D_plan_14 g1 (b_D_plan_19 s_Pn_howMany (b_D_plan_26 ⟨?_, rfl⟩))))), e_M_plan (b_M_plan_0 s_M_isDay (b_M_plan_4 (fun z => absurd z c1) (fun _ => b_M_plan_14 k1 (b_M_plan_19 ⟨by rw [k4], rfl⟩)))), dk_scrP g2 k2 k3⟩
  unfold f_Pn_howMany
  rw [g4, dk_sh16 (by have := (dk_bw_lt I.1 d).2; omega)]
theorem dk_same_plans {xs : Nat → Int32} {Ls : Nat} {M : hd_Mem} (I : dk_inv dk_pw xs M) (x1 : Int32) : dk_same dk_pw xs Ls D_plans M_plans [.int x1] M := by
  by_cases c1 : f_M_isDay x1 = 0
  · exact dk_finds (-100001) I (e_D_plans (b_D_plans_0 s_D_isDay (b_D_plans_4 (fun _ => b_D_plans_7 s_D_finding (b_D_plans_13 ⟨rfl, rfl⟩)) (fun z => absurd c1 z)))) (e_M_plans (b_M_plans_0 s_M_isDay (b_M_plans_4 (fun _ => b_M_plans_7 s_M_finding (b_M_plans_13 ⟨rfl, rfl⟩)) (fun z => absurd c1 z))))
  obtain ⟨d, hd, rfl⟩ := dk_dayOf c1
  obtain ⟨M1, g1, g2, g3, g4, g5⟩ := dk_plD (Ls := Ls) I hd
  obtain ⟨M2, k1, k2, k3, k4, k5, k6⟩ := dk_plM (Ls := Ls) (M := M1) g2.1 hd
  rw [g3 68 (by decide)] at k5
  exact ⟨nI (dk_bn (M 68) d), M1, M2, e_D_plans (b_D_plans_0 s_D_isDay (b_D_plans_4 (fun z => absurd z c1) (fun _ => b_D_plans_14 g1 (b_D_plans_19 ⟨by rw [g5], rfl⟩)))), e_M_plans (b_M_plans_0 s_M_isDay (b_M_plans_4 (fun z => absurd z c1) (fun _ => b_M_plans_14 k1 (b_M_plans_19 ⟨by rw [k5], rfl⟩)))), dk_scrP g2 k2 k3⟩
theorem dk_same_planned {xs : Nat → Int32} {Ls : Nat} {M : hd_Mem} (I : dk_inv dk_pw xs M) (x1 x2 : Int32) : dk_same dk_pw xs Ls D_planned M_planned [.int x1, .int x2] M := by
  by_cases c1 : f_M_isDay x1 = 0
  · exact dk_finds (-100001) I (e_D_planned (b_D_planned_0 s_D_isDay (b_D_planned_4 (fun _ => b_D_planned_18 s_D_finding (b_D_planned_24 ⟨rfl, rfl⟩)) (fun z => absurd c1 z)))) (e_M_planned (b_M_planned_0 s_M_isDay (b_M_planned_4 (fun _ => b_M_planned_15 s_M_finding (b_M_planned_21 ⟨rfl, rfl⟩)) (fun z => absurd c1 z))))
  have hP := dk_pers I x2
  by_cases c2 : f_M_within x2 0 (M 68 0 - 1) = 0
  · refine dk_finds (-100001) I (e_D_planned (b_D_planned_0 s_D_isDay (b_D_planned_4 (fun z => absurd z c1) (fun _ => b_D_planned_7 s_Pe_has (b_D_planned_15 (fun _ => b_D_planned_18 s_D_finding (b_D_planned_24 ⟨rfl, rfl⟩)) (fun z => absurd (hP.trans c2) z)))))) (e_M_planned (b_M_planned_0 s_M_isDay (b_M_planned_4 (fun z => absurd z c1) (fun _ => b_M_planned_7 s_M_isPerson (b_M_planned_12 (fun _ => b_M_planned_15 s_M_finding (b_M_planned_21 ⟨rfl, rfl⟩)) (fun z => absurd ?_ z))))))
    unfold f_M_isPerson
    rw [dk_find68]; exact c2
  have nP : ¬ f_Pe_has M x2 = 0 := fun q => c2 (hP.symm.trans q)
  obtain ⟨d, hd, rfl⟩ := dk_dayOf c1
  obtain ⟨p, hp, hp8, rfl⟩ := dk_pthere I c2
  obtain ⟨M1, g1, g2, g3, g4, g5⟩ := dk_plD (Ls := Ls) I hd
  have hpl : f_Pn_placeOf M1 (nI p) = nI (3 - dk_bw (M 68) d / 4 ^ (7 - p) % 4) := by
    unfold f_Pn_placeOf f_Pn_shiftOf
    rw [g4]
    exact dk_plcN (by have := (dk_bw_lt I.1 d).2; omega) hp8
  have clp : (nI p).toNatClampNeg = p := nI_clamp (by omega)
  by_cases c3 : dk_bw (M 68) d / 4 ^ (7 - p) % 4 = 0
  · have f68 : (f_D_finding M1 (-100006)).2 68 = M 68 := by rw [dk_find68]; exact g3 68 (by decide)
    obtain ⟨M2, k1, k2, k3, k4, k5, k6⟩ := dk_plM (Ls := Ls) (M := (f_D_finding M1 (-100006)).2) (by rw [f68]; exact I.1) hd
    rw [f68] at k6
    have hb := k6 p hp
    rw [c3] at hb hpl
    refine ⟨(f_D_finding M1 (-100006)).1, (f_D_finding M1 (-100006)).2, (f_M_finding M2 (-100006)).2, e_D_planned (b_D_planned_0 s_D_isDay (b_D_planned_4 (fun z => absurd z c1) (fun _ => b_D_planned_7 s_Pe_has (b_D_planned_15 (fun z => absurd z nP) (fun _ => b_D_planned_25 g1 (b_D_planned_30 s_Pn_placeOf (b_D_planned_38 (fun _ => b_D_planned_48 s_D_finding (b_D_planned_54 ⟨rfl, rfl⟩)) (fun z => absurd (by rw [hpl]; decide) z)))))))), e_M_planned (b_M_planned_0 s_M_isDay (b_M_planned_4 (fun z => absurd z c1) (fun _ => b_M_planned_7 s_M_isPerson (b_M_planned_12 (fun z => absurd z ?_) (fun _ => b_M_planned_22 k1 (b_M_planned_27 (hd_okR_n rfl hp8 (by omega)) (fun _ => b_M_planned_37 s_M_finding (b_M_planned_43 ⟨rfl, rfl⟩)) (fun z => absurd (by rw [clp, hb]; decide) z))))))), dk_findP g2 k2 k3⟩
    unfold f_M_isPerson
    rw [f68]; exact c2
  · obtain ⟨M2, k1, k2, k3, k4, k5, k6⟩ := dk_plM (Ls := Ls) (M := M1) g2.1 hd
    rw [g3 68 (by decide)] at k6
    have hb := k6 p hp
    have hlt := Nat.mod_lt (dk_bw (M 68) d / 4 ^ (7 - p)) (show 0 < 4 by omega)
    refine ⟨nI (3 - dk_bw (M 68) d / 4 ^ (7 - p) % 4), M1, M2, e_D_planned (b_D_planned_0 s_D_isDay (b_D_planned_4 (fun z => absurd z c1) (fun _ => b_D_planned_7 s_Pe_has (b_D_planned_15 (fun z => absurd z nP) (fun _ => b_D_planned_25 g1 (b_D_planned_30 s_Pn_placeOf (b_D_planned_38 (fun z => absurd z ?_) (fun _ => b_D_planned_44 ⟨by rw [hpl], rfl⟩)))))))), e_M_planned (b_M_planned_0 s_M_isDay (b_M_planned_4 (fun z => absurd z c1) (fun _ => b_M_planned_7 s_M_isPerson (b_M_planned_12 (fun z => absurd z ?_) (fun _ => b_M_planned_22 k1 (b_M_planned_27 (hd_okR_n rfl hp8 (by omega)) (fun z => absurd z ?_) (fun _ => b_M_planned_46 (hd_okR_n rfl hp8 (by omega)) ⟨by rw [clp, hb], rfl⟩))))))), dk_scrP g2 k2 k3⟩
    · rw [hpl]
      exact hd_nle (b := 3) (by omega) (by omega)
    · unfold f_M_isPerson
      rw [g3 68 (by decide)]; exact c2
    · rw [clp, hb, show (3 : Int32) = nI 3 from rfl, nI_eq (by omega) (by omega)]
      omega
theorem dk_same_gang {xs : Nat → Int32} {Ls : Nat} {M : hd_Mem} (I : dk_inv dk_pw xs M) (x1 x2 : Int32) : dk_same dk_pw xs Ls D_gang M_gang [.int x1, .int x2] M := by
  by_cases c1 : f_M_isDay x1 = 0
  · exact dk_finds (-100001) I (e_D_gang (b_D_gang_0 s_D_isDay (b_D_gang_4 (fun _ => b_D_gang_18 s_D_finding (b_D_gang_24 ⟨rfl, rfl⟩)) (fun z => absurd c1 z)))) (e_M_gang (b_M_gang_0 s_M_isDay (b_M_gang_4 (fun _ => b_M_gang_15 s_M_finding (b_M_gang_21 ⟨rfl, rfl⟩)) (fun z => absurd c1 z))))
  have hP := dk_plac I x2
  by_cases c2 : f_M_within x2 0 (M 68 1 - 1) = 0
  · refine dk_finds (-100001) I (e_D_gang (b_D_gang_0 s_D_isDay (b_D_gang_4 (fun z => absurd z c1) (fun _ => b_D_gang_7 s_Pl_has (b_D_gang_15 (fun _ => b_D_gang_18 s_D_finding (b_D_gang_24 ⟨rfl, rfl⟩)) (fun z => absurd (hP.trans c2) z)))))) (e_M_gang (b_M_gang_0 s_M_isDay (b_M_gang_4 (fun z => absurd z c1) (fun _ => b_M_gang_7 s_M_isPlace (b_M_gang_12 (fun _ => b_M_gang_15 s_M_finding (b_M_gang_21 ⟨rfl, rfl⟩)) (fun z => absurd ?_ z))))))
    unfold f_M_isPlace
    rw [dk_find68]; exact c2
  have nP : ¬ f_Pl_has M x2 = 0 := fun q => c2 (hP.symm.trans q)
  obtain ⟨d, hd, rfl⟩ := dk_dayOf c1
  obtain ⟨M1, g1, g2, g3, g4, g5⟩ := dk_plD (Ls := Ls) I hd
  obtain ⟨M2, k1, k2, k3, k4, k5, k6⟩ := dk_plM (Ls := Ls) (M := M1) g2.1 hd
  rw [g3 68 (by decide)] at k6
  obtain ⟨n, hn8, n1, n2, n3, n4⟩ := dk_np_of I
  rw [n3] at k6
  have hpl : ∀ p, p < 8 → f_Pn_placeOf M1 (nI p) = nI (3 - dk_bw (M 68) d / 4 ^ (7 - p) % 4) := fun p hp8 => by
    unfold f_Pn_placeOf f_Pn_shiftOf
    rw [g4]
    exact dk_plcN (by have := (dk_bw_lt I.1 d).2; omega) hp8
  refine ⟨nI (dk_sm (fun p => if nI (3 - dk_bw (M 68) d / 4 ^ (7 - p) % 4) = x2 then 1 else 0) n), M1, M2, e_D_gang (b_D_gang_0 s_D_isDay (b_D_gang_4 (fun z => absurd z c1) (fun _ => b_D_gang_7 s_Pl_has (b_D_gang_15 (fun z => absurd z nP) (fun _ => b_D_gang_25 g1 (b_D_gang_30 ?_)))))), e_M_gang (b_M_gang_0 s_M_isDay (b_M_gang_4 (fun z => absurd z c1) (fun _ => b_M_gang_7 s_M_isPlace (b_M_gang_12 (fun z => absurd z ?_) (fun _ => b_M_gang_22 k1 (b_M_gang_27 ?_)))))), dk_scrP g2 k2 k3⟩
  · refine hd_forP n (fun i s => s = (35, [.ref 0, .int (nI d), .int x2, .int (nI (dk_sm (fun p => if nI (3 - dk_bw (M 68) d / 4 ^ (7 - p) % 4) = x2 then 1 else 0) i)), .int (nI i)], [], M1)) ?_ ?_ _ rfl
    · rintro i s hi rfl ih
      refine b_D_gang_35 (fun z => absurd z (by rw [g3 1 (by decide), n1]; exact hd_nle hi (by omega))) (fun _ => b_D_gang_47 s_Pn_placeOf (b_D_gang_56 (fun c => b_D_gang_60 (ih _ ?_)) (fun c => b_D_gang_63 (ih _ ?_))))
      · rw [hpl i (by omega)] at c
        show _ = ((35, [.ref 0, .int (nI d), .int x2, .int (nI (dk_sm (fun p => if nI (3 - dk_bw (M 68) d / 4 ^ (7 - p) % 4) = x2 then 1 else 0) i + (if nI (3 - dk_bw (M 68) d / 4 ^ (7 - i) % 4) = x2 then 1 else 0))), .int (nI (i + 1))], [], M1) : hd_S)
        rw [if_pos c, nI_1, nI_1]
      · rw [hpl i (by omega)] at c
        show _ = ((35, [.ref 0, .int (nI d), .int x2, .int (nI (dk_sm (fun p => if nI (3 - dk_bw (M 68) d / 4 ^ (7 - p) % 4) = x2 then 1 else 0) i + (if nI (3 - dk_bw (M 68) d / 4 ^ (7 - i) % 4) = x2 then 1 else 0))), .int (nI (i + 1))], [], M1) : hd_S)
        rw [if_neg c, nI_1, Nat.add_zero (dk_sm _ i)]
    · rintro s rfl
      exact b_D_gang_35 (fun _ => b_D_gang_69 ⟨rfl, rfl⟩) (fun z => absurd (by rw [g3 1 (by decide), n1]; exact Int32.le_refl _) z)
  · unfold f_M_isPlace
    rw [g3 68 (by decide)]; exact c2
  · have m68 : M2 68 = M 68 := by rw [k2 68 (by decide)]; exact g3 68 (by decide)
    refine hd_forP n (fun i s => s = (32, [.ref 67, .int (nI d), .int x2, .int (nI (dk_sm (fun p => if nI (3 - dk_bw (M 68) d / 4 ^ (7 - p) % 4) = x2 then 1 else 0) i)), .int (nI i)], [], M2)) ?_ ?_ _ rfl
    · rintro i s hi rfl ih
      have cli : (nI i).toNatClampNeg = i := nI_clamp (by omega)
      refine b_M_gang_32 (fun z => absurd z (by rw [m68, n2]; exact hd_nle hi (by omega))) (fun _ => b_M_gang_43 (hd_okR_n rfl (show i < 8 by omega) (by omega)) (fun c => b_M_gang_55 (ih _ ?_)) (fun c => b_M_gang_59 (ih _ ?_)))
      · rw [cli, k6 i hi] at c
        show _ = ((32, [.ref 67, .int (nI d), .int x2, .int (nI (dk_sm (fun p => if nI (3 - dk_bw (M 68) d / 4 ^ (7 - p) % 4) = x2 then 1 else 0) i + (if nI (3 - dk_bw (M 68) d / 4 ^ (7 - i) % 4) = x2 then 1 else 0))), .int (nI (i + 1))], [], M2) : hd_S)
        rw [if_pos c, nI_1, nI_1]
      · rw [cli, k6 i hi] at c
        show _ = ((32, [.ref 67, .int (nI d), .int x2, .int (nI (dk_sm (fun p => if nI (3 - dk_bw (M 68) d / 4 ^ (7 - p) % 4) = x2 then 1 else 0) i + (if nI (3 - dk_bw (M 68) d / 4 ^ (7 - i) % 4) = x2 then 1 else 0))), .int (nI (i + 1))], [], M2) : hd_S)
        rw [if_neg c, nI_1, Int32.add_zero, Nat.add_zero (dk_sm _ i)]
    · rintro s rfl
      exact b_M_gang_32 (fun _ => b_M_gang_68 ⟨rfl, rfl⟩) (fun z => absurd (by rw [m68, n2]; exact Int32.le_refl _) z)
def dk_fw (ok : Nat → Bool) : Nat → Nat → Option Nat
  | _, 0 => none
  | e, r + 1 => if ok e then some e else dk_fw ok (e + 1) r
theorem dk_whD {Ls : Nat} {xs : Nat → Int32} {M : hd_Mem} (hw : dk_wf (M 68)) {x2 : Int32} {v1 : Value} : ∀ r e (A : hd_Mem), e + r ≤ 365 → dk_inv dk_pw xs A → (∀ c, 67 ≤ c → A c = M c) → hd_E Ls D_when (38, [.ref 0, v1, .int x2, .int (nI (e + r) - 1), .int (nI e)], [], A) (fun a b => match dk_fw (fun e => decide (¬ nI (dk_bw (M 68) e / 65536) < x2)) e r with
    | some f => a = some (.int (nI f)) ∧ dk_inv dk_pw xs b ∧ (∀ c, 67 ≤ c → b c = M c)
    | none => ∃ A' : hd_Mem, dk_inv dk_pw xs A' ∧ (∀ c, 67 ≤ c → A' c = M c) ∧ a = some (.int (f_D_finding A' (-100006)).1) ∧ b = (f_D_finding A' (-100006)).2) := by
  intro r
  induction r with
  | zero =>
    intro e A he IA h67
    refine b_D_when_38 (fun _ => b_D_when_70 s_D_finding (b_D_when_76 ?_)) (fun z => absurd ?_ z)
    · exact ⟨A, IA, h67, rfl, rfl⟩
    · rw [dk_lt1 (by omega)]
      exact Int32.le_refl _
  | succ r ih =>
    intro e A he IA h67
    obtain ⟨M1, g1, g2, g3, g4, g5⟩ := dk_plD (Ls := Ls) IA (show e < 365 by omega)
    rw [h67 68 (by decide)] at g4
    have h67' : ∀ c, 67 ≤ c → M1 c = M c := fun c hc => by rw [g3 c (by simp; omega)]; exact h67 c hc
    have hhm : f_Pn_howMany M1 = nI (dk_bw (M 68) e / 65536) := by
      unfold f_Pn_howMany
      rw [g4, dk_sh16 (by have := (dk_bw_lt hw e).2; omega)]
    refine b_D_when_38 (fun z => absurd z ?_) (fun _ => b_D_when_44 g1 (b_D_when_50 s_Pn_howMany (b_D_when_57 (fun c => b_D_when_64 ?_) (fun c => b_D_when_61 ?_))))
    · rw [dk_lt1 (by omega)]
      exact hd_nle (by omega) (by omega)
    · rw [hhm] at c
      have hf : dk_fw (fun e => decide (¬ nI (dk_bw (M 68) e / 65536) < x2)) e (r + 1) = dk_fw (fun e => decide (¬ nI (dk_bw (M 68) e / 65536) < x2)) (e + 1) r := if_neg (by simp [c])
      rw [hf, nI_1, show e + (r + 1) = e + 1 + r by omega]
      exact ih (e + 1) M1 (by omega) g2 h67'
    · rw [hhm] at c
      have hf : dk_fw (fun e => decide (¬ nI (dk_bw (M 68) e / 65536) < x2)) e (r + 1) = some e := if_pos (by simp [c])
      rw [hf]
      exact ⟨rfl, g2, h67'⟩
theorem dk_whM {Ls : Nat} {B M : hd_Mem} (hw : dk_wf (M 68)) (hB : B 68 = M 68) {x2 : Int32} {d : Nat} (hd : d < 365) : ∀ r e (A : hd_Mem), e + r = min (d + 7) 365 → (∀ c, c ∉ [67, 73, 74, 75, 76] → A c = B c) → (∀ j, j ≠ 8 → j ≠ 9 → A 67 j = B 67 j) → hd_E Ls M_when (26, [.ref 67, .int (nI d), .int x2, .int (nI e)], [], A) (fun a b => match dk_fw (fun e => decide (¬ nI (dk_bw (M 68) e / 65536) < x2)) e r with
    | some f => a = some (.int (nI f)) ∧ (∀ c, c ∉ [67, 73, 74, 75, 76] → b c = B c) ∧ (∀ j, j ≠ 8 → j ≠ 9 → b 67 j = B 67 j)
    | none => ∃ A' : hd_Mem, (∀ c, c ∉ [67, 73, 74, 75, 76] → A' c = B c) ∧ (∀ j, j ≠ 8 → j ≠ 9 → A' 67 j = B 67 j) ∧ a = some (.int (f_M_finding A' (-100006)).1) ∧ b = (f_M_finding A' (-100006)).2) := by
  have e6 : nI d + 6 = nI (d + 6) := nI_add d 6
  intro r
  induction r with
  | zero =>
    intro e A he a1 a2
    refine b_M_when_26 (fun _ => b_M_when_62 s_M_finding (b_M_when_68 ⟨A, a1, a2, rfl, rfl⟩)) (fun c => b_M_when_34 (fun _ => b_M_when_62 s_M_finding (b_M_when_68 ⟨A, a1, a2, rfl, rfl⟩)) (fun c2 => ?_))
    rw [e6, nI_ltI (by omega) (by omega)] at c
    rw [show (364 : Int32) = nI 364 from rfl, nI_ltI (by omega) (by omega)] at c2
    omega
  | succ r ih =>
    intro e A he a1 a2
    have a68 : A 68 = M 68 := by rw [a1 68 (by decide)]; exact hB
    obtain ⟨M2, k1, k2, k3, k4, k5, k6⟩ := dk_plM (Ls := Ls) (M := A) (by rw [a68]; exact hw) (show e < 365 by omega)
    rw [a68] at k4
    have b1 : ∀ c, c ∉ [67, 73, 74, 75, 76] → M2 c = B c := fun c hc => by rw [k2 c hc]; exact a1 c hc
    have b2 : ∀ j, j ≠ 8 → j ≠ 9 → M2 67 j = B 67 j := fun j j8 j9 => by rw [k3 j j8 j9]; exact a2 j j8 j9
    refine b_M_when_26 (fun c => absurd c (by rw [e6, nI_ltI (by omega) (by omega)]; omega)) (fun _ => b_M_when_34 (fun c => absurd c (by rw [show (364 : Int32) = nI 364 from rfl, nI_ltI (by omega) (by omega)]; omega)) (fun _ => b_M_when_41 k1 (b_M_when_46 (fun c => b_M_when_56 ?_) (fun c => b_M_when_54 ?_))))
    · rw [k4] at c
      have hf : dk_fw (fun e => decide (¬ nI (dk_bw (M 68) e / 65536) < x2)) e (r + 1) = dk_fw (fun e => decide (¬ nI (dk_bw (M 68) e / 65536) < x2)) (e + 1) r := if_neg (by simp [c])
      rw [hf, nI_1]
      exact ih (e + 1) M2 (by omega) b1 b2
    · rw [k4] at c
      have hf : dk_fw (fun e => decide (¬ nI (dk_bw (M 68) e / 65536) < x2)) e (r + 1) = some e := if_pos (by simp [c])
      rw [hf]
      exact ⟨rfl, b1, b2⟩
theorem dk_same_when {xs : Nat → Int32} {Ls : Nat} {M : hd_Mem} (I : dk_inv dk_pw xs M) (x1 x2 : Int32) : dk_same dk_pw xs Ls D_when M_when [.int x1, .int x2] M := by
  by_cases c1 : f_M_isDay x1 = 0
  · exact dk_finds (-100001) I (e_D_when (b_D_when_0 s_D_isDay (b_D_when_4 (fun _ => b_D_when_17 s_D_finding (b_D_when_23 ⟨rfl, rfl⟩)) (fun z => absurd c1 z)))) (e_M_when (b_M_when_0 s_M_isDay (b_M_when_4 (fun _ => b_M_when_17 s_M_finding (b_M_when_23 ⟨rfl, rfl⟩)) (fun z => absurd c1 z))))
  by_cases c2 : f_M_within x2 1 8 = 0
  · exact dk_finds (-100001) I (e_D_when (b_D_when_0 s_D_isDay (b_D_when_4 (fun z => absurd z c1) (fun _ => b_D_when_7 s_D_within (b_D_when_14 (fun _ => b_D_when_17 s_D_finding (b_D_when_23 ⟨rfl, rfl⟩)) (fun z => absurd c2 z)))))) (e_M_when (b_M_when_0 s_M_isDay (b_M_when_4 (fun z => absurd z c1) (fun _ => b_M_when_7 s_M_within (b_M_when_14 (fun _ => b_M_when_17 s_M_finding (b_M_when_23 ⟨rfl, rfl⟩)) (fun z => absurd c2 z))))))
  obtain ⟨d, hd, rfl⟩ := dk_dayOf c1
  have hr : d + (min (d + 7) 365 - d) = min (d + 7) 365 := by omega
  have hlast : (if (364 : Int32) < nI d + 6 then 364 else nI d + 6) = nI (d + (min (d + 7) 365 - d)) - 1 := by
    have e6 : nI d + 6 = nI (d + 6) := nI_add d 6
    rw [e6, hr, show (364 : Int32) = nI 364 from rfl]
    by_cases q : 364 < d + 6
    · rw [if_pos ((nI_ltI (by omega) (by omega)).mpr q), show min (d + 7) 365 = 364 + 1 by omega, nI_pred]
    · rw [if_neg (fun z => q ((nI_ltI (by omega) (by omega)).mp z)), show min (d + 7) 365 = (d + 6) + 1 by omega, nI_pred]
  have hD := dk_whD (Ls := Ls) (xs := xs) (M := M) I.1 (x2 := x2) (v1 := .int (nI d)) (min (d + 7) 365 - d) d M (by omega) I (fun _ _ => rfl)
  rw [← hlast] at hD
  obtain ⟨v, M1, q1, q2⟩ := hd_E_det hD
  have RD : hd_Rt Ls D_when [.ref 0, .int (nI d), .int x2] M v M1 := e_D_when (b_D_when_0 s_D_isDay (b_D_when_4 (fun z => absurd z c1) (fun _ => b_D_when_7 s_D_within (b_D_when_14 (fun z => absurd z c2) (fun _ => b_D_when_24 q2)))))
  cases hfw : dk_fw (fun e => decide (¬ nI (dk_bw (M 68) e / 65536) < x2)) d (min (d + 7) 365 - d) with
  | some f =>
    rw [hfw] at q1
    obtain ⟨rfl, j1, j2⟩ := q1
    have hM := dk_whM (Ls := Ls) (B := M1) (M := M) I.1 (j2 68 (by decide)) (x2 := x2) hd (min (d + 7) 365 - d) d M1 hr (fun _ _ => rfl) (fun _ _ _ => rfl)
    obtain ⟨v2, M2, r1, r2⟩ := hd_E_det hM
    rw [hfw] at r1
    obtain ⟨rfl, k1, k2⟩ := r1
    exact ⟨nI f, M1, M2, RD, e_M_when (b_M_when_0 s_M_isDay (b_M_when_4 (fun z => absurd z c1) (fun _ => b_M_when_7 s_M_within (b_M_when_14 (fun z => absurd z c2) (fun _ => b_M_when_24 r2))))), dk_scrP j1 k1 k2⟩
  | none =>
    rw [hfw] at q1
    obtain ⟨A', j1, j2, rfl, rfl⟩ := q1
    have hM := dk_whM (Ls := Ls) (B := (f_D_finding A' (-100006)).2) (M := M) I.1 (by rw [dk_find68]; exact j2 68 (by decide)) (x2 := x2) hd (min (d + 7) 365 - d) d (f_D_finding A' (-100006)).2 hr (fun _ _ => rfl) (fun _ _ _ => rfl)
    obtain ⟨v2, M2, r1, r2⟩ := hd_E_det hM
    rw [hfw] at r1
    obtain ⟨A2, k1, k2, rfl, rfl⟩ := r1
    exact ⟨(f_D_finding A' (-100006)).1, (f_D_finding A' (-100006)).2, (f_M_finding A2 (-100006)).2, RD, e_M_when (b_M_when_0 s_M_isDay (b_M_when_4 (fun z => absurd z c1) (fun _ => b_M_when_7 s_M_within (b_M_when_14 (fun z => absurd z c2) (fun _ => b_M_when_24 r2))))), dk_findP j1 k1 k2⟩
