/-! person, place, entry -/
theorem dk_kept2 {pw : dk_PW} {xs : Nat → Int32} {M X : hd_Mem} (I : dk_inv pw xs M) {w ix was : Int32} (hX : ∀ c, c ∉ [1,2,3,4,8,9,10,11,12,13,14,15,16,17,18,19,20,21,22,23,28,29,30] → X c = M c) : (f_D_keep X w ix was).2 68 = M 68 ∧ (f_D_keep X w ix was).2 67 = M 67 := by
  obtain ⟨kp, nx, a1, a2, a3, a4, a5⟩ := dk_inv_n I
  obtain ⟨-, -, -, k4, -⟩ := dk_keepD (M := X) (w := w) (ix := ix) (was := was) a1 (by rw [hX 6 (by simp)]; exact a3) a4 (by rw [hX 6 (by simp)]; exact a5)
  exact ⟨by rw [k4 68 (by decide) (by decide) (by decide) (by decide) (by decide)]; exact hX 68 (by simp), by rw [k4 67 (by decide) (by decide) (by decide) (by decide) (by decide)]; exact hX 67 (by simp)⟩
theorem dk_k68 {pw : dk_PW} {xs : Nat → Int32} {M M1 : hd_Mem} (I : dk_inv pw xs M) (h8 : M1 68 = M 68) (h7 : M1 67 = M 67) : f_M_keep M1 68 = M 68 := by
  obtain ⟨kp, nx, a1, a2, a3, a4, a5⟩ := dk_inv_n I
  obtain ⟨-, k2, -⟩ := dk_keepM (M := M1) a1 (by rw [h7]; exact a2)
  rw [k2 68 (by decide) (by decide), h8]
theorem dk_same_person {pw : dk_PW} {xs : Nat → Int32} {Ls : Nat} {M : hd_Mem} (I : dk_inv pw xs M) (x1 x2 x3 x4 x5 : Int32) : dk_same pw xs Ls D_person M_person [.int x1, .int x2, .int x3, .int x4, .int x5] M := by
  obtain ⟨n, hn, e1, e2, e3, e4⟩ := dk_np_of I
  have GM : ∀ M' : hd_Mem, M' 68 = M 68 → M' 67 = M 67 → g_M_person Ls M' x1 x2 x3 x4 x5 := by
    intro M' q8 q7 _ _ _ _ _ q
    rw [q8, e2] at q ⊢
    have hn8 : n ≠ 8 := by rintro rfl; exact q rfl
    rw [show (6 : Int32) + nI n = nI 6 + nI n from rfl, nI_add, show (14 : Int32) + nI n = nI 14 + nI n from rfl, nI_add, show (22 : Int32) + nI n = nI 22 + nI n from rfl, nI_add, show (30 : Int32) + nI n = nI 30 + nI n from rfl, nI_add, show (38 : Int32) + nI n = nI 38 + nI n from rfl, nI_add]
    exact ⟨dk_gM I q7, hd_okW_n (by decide) rfl (show 6 + n < 459 by omega) (by omega), hd_okW_n (by decide) rfl (show 14 + n < 459 by omega) (by omega), hd_okW_n (by decide) rfl (show 22 + n < 459 by omega) (by omega), hd_okW_n (by decide) rfl (show 30 + n < 459 by omega) (by omega), hd_okW_n (by decide) rfl (show 38 + n < 459 by omega) (by omega)⟩
  have GD : g_D_person Ls M x1 x2 x3 x4 x5 := by
    intro _ _ _ _ _ q
    rw [e1] at q
    have hn8 : n < 8 := (nI_ltI (by omega) (by omega)).mp q
    refine ⟨?_, ?_⟩
    · unfold g_Pe_add
      rw [e1]
      exact ⟨hd_okW_n (by decide) rfl hn8 (by omega), hd_okW_n (by decide) rfl hn8 (by omega), hd_okW_n (by decide) rfl hn8 (by omega), hd_okW_n (by decide) rfl hn8 (by omega), hd_okW_n (by decide) rfl hn8 (by omega)⟩
    · exact dk_gkeepD (by rw [(dk_dv_addP hn8 e1).2.2 6 (by simp)]; exact I.2.2.1.2.2.1)
  have hD := s_D_person GD
  unfold f_D_person at hD
  by_cases c1 : f_M_within x1 0 3 = 0
  · rw [if_pos (show f_D_within x1 0 3 = 0 from c1)] at hD
    have hM := s_M_person (GM _ (dk_find68 (x := -100001)) dk_find67)
    unfold f_M_person at hM
    rw [if_pos c1] at hM
    exact dk_finds _ I hD hM
  rw [if_neg (show ¬ f_D_within x1 0 3 = 0 from c1)] at hD
  by_cases c2 : f_M_within x2 1 300 = 0
  · rw [if_pos (show f_D_within x2 1 300 = 0 from c2)] at hD
    have hM := s_M_person (GM _ (dk_find68 (x := -100001)) dk_find67)
    unfold f_M_person at hM
    rw [if_neg c1, if_pos c2] at hM
    exact dk_finds _ I hD hM
  rw [if_neg (show ¬ f_D_within x2 1 300 = 0 from c2)] at hD
  by_cases c3 : f_M_within x3 0 127 = 0
  · rw [if_pos (show f_D_within x3 0 127 = 0 from c3)] at hD
    have hM := s_M_person (GM _ (dk_find68 (x := -100001)) dk_find67)
    unfold f_M_person at hM
    rw [if_neg c1, if_neg c2, if_pos c3] at hM
    exact dk_finds _ I hD hM
  rw [if_neg (show ¬ f_D_within x3 0 127 = 0 from c3)] at hD
  by_cases c4 : f_M_within x4 0 15 = 0
  · rw [if_pos (show f_D_within x4 0 15 = 0 from c4)] at hD
    have hM := s_M_person (GM _ (dk_find68 (x := -100001)) dk_find67)
    unfold f_M_person at hM
    rw [if_neg c1, if_neg c2, if_neg c3, if_pos c4] at hM
    exact dk_finds _ I hD hM
  rw [if_neg (show ¬ f_D_within x4 0 15 = 0 from c4)] at hD
  by_cases c5 : f_M_isDay x5 = 0
  · rw [if_pos (show f_D_isDay x5 = 0 from c5)] at hD
    have hM := s_M_person (GM _ (dk_find68 (x := -100001)) dk_find67)
    unfold f_M_person at hM
    rw [if_neg c1, if_neg c2, if_neg c3, if_neg c4, if_pos c5] at hM
    exact dk_finds _ I hD hM
  rw [if_neg (show ¬ f_D_isDay x5 = 0 from c5)] at hD
  by_cases c6 : n = 8
  · have q1 : ¬ M 1 6 < 8 := by rw [e1, c6]; decide
    rw [if_neg q1] at hD
    have hM := s_M_person (GM _ (dk_find68 (x := -100005)) dk_find67)
    unfold f_M_person at hM
    rw [if_neg c1, if_neg c2, if_neg c3, if_neg c4, if_neg c5, dk_find68, if_pos (by rw [e2, c6]; rfl)] at hM
    exact dk_finds _ I hD hM
  have hn8 : n < 8 := by omega
  rw [if_pos (by rw [e1]; exact (nI_ltI (b := 8) (by omega) (by omega)).mpr hn8)] at hD
  obtain ⟨t0, t00, tX⟩ := dk_dv_addP (a := x1) (b := x2) (c := x3) (d := x4) (e := x5) hn8 e1
  rw [t00] at hD
  obtain ⟨t1, t2⟩ := dk_kept2 (w := 0) (ix := nI n) (was := 0) I tX
  have hM := s_M_person (GM _ t1 t2)
  unfold f_M_person at hM
  have K68 := dk_k68 I t1 t2
  rw [t1, e2, if_neg c1, if_neg c2, if_neg c3, if_neg c4, if_neg c5, if_neg (by intro q; exact c6 ((nI_eq (by omega) (by omega)).mp q)), show (6 + nI n).toNatClampNeg = 6 + n from dk_ix (a := 6) (b := n) (by omega), show (14 + nI n).toNatClampNeg = 14 + n from dk_ix (a := 14) (b := n) (by omega), show (22 + nI n).toNatClampNeg = 22 + n from dk_ix (a := 22) (b := n) (by omega), show (30 + nI n).toNatClampNeg = 30 + n from dk_ix (a := 30) (b := n) (by omega), show (38 + nI n).toNatClampNeg = 38 + n from dk_ix (a := 38) (b := n) (by omega)] at hM
  dsimp only at hM
  refine ⟨_, _, _, hD, hM, ?_⟩
  obtain ⟨kp, nx, a1, a2, a3, a4, a5⟩ := dk_inv_n I
  have I2 := I
  obtain ⟨h1, h2, -⟩ := I2
  have eM : (hd_set (hd_set (hd_set (hd_set (hd_set (hd_set (f_M_keep (f_D_keep (f_Pe_add M x1 x2 x3 x4 x5).2 0 (nI n) 0).2) 68 (6 + n) x1) 68 (14 + n) x2) 68 (22 + n) x3) 68 (30 + n) x4) 68 (38 + n) x5) 68 0 (((hd_set (hd_set (hd_set (hd_set (hd_set (f_M_keep (f_D_keep (f_Pe_add M x1 x2 x3 x4 x5).2 0 (nI n) 0).2) 68 (6 + n) x1) 68 (14 + n) x2) 68 (22 + n) x3) 68 (30 + n) x4) 68 (38 + n) x5) 68 0) + 1)) 68 = dk_addP (M 68) x1 x2 x3 x4 x5 := by
    rw [dk_nfP hn8 e2]
    simp only [hd_set_eq, K68]
    rw [pk_un (by omega), pk_un (by omega), pk_un (by omega), pk_un (by omega), pk_un (by omega), e2, nI_1]
  have hx : hd_in x1 4 ∧ hd_in x2 301 ∧ ¬ x2 = 0 ∧ hd_in x3 128 ∧ hd_in x4 16 ∧ hd_in x5 365 := by
    refine ⟨(dk_within (a := 0) (b := 3) (by omega) (by omega) c1).1, (dk_within (a := 1) (b := 300) (by omega) (by omega) c2).1, ?_, (dk_within (a := 0) (b := 127) (by omega) (by omega) c3).1, (dk_within (a := 0) (b := 15) (by omega) (by omega) c4).1, (dk_within (a := 0) (b := 364) (by omega) (by omega) c5).1⟩
    rintro rfl
    exact c2 (by decide)
  refine dk_actK (X := (f_Pe_add M x1 x2 x3 x4 x5).2) (w := 0) (ix := nI n) (was := 0) I a2 a1 a5 a4 tX ?_ ?_ ?_ ?_ ?_
  · intro z hz
    rw [hd_set_ne hz, hd_set_ne hz, hd_set_ne hz, hd_set_ne hz, hd_set_ne hz, hd_set_ne hz]
  · rw [eM]; exact dk_wf_addP h1 hn8 e2 hx
  · rw [eM, t0]; exact dk_live_addP h2 hn8 (by rw [hd_dv_0]; exact e1)
  · rw [t0]
    unfold dk_tb
    rw [if_pos rfl]
    exact dk_backP hn8 (by rw [hd_dv_0]; exact e1)
  · rw [t0]
    unfold dk_ok
    simp
    refine ⟨n, ?_, hn8, rfl⟩
    rw [dk_nfP hn8 (by rw [hd_dv_0]; exact e1), dk_np, pk_us, nI_clamp (by omega)]
    omega
theorem dk_same_place {pw : dk_PW} {xs : Nat → Int32} {Ls : Nat} {M : hd_Mem} (I : dk_inv pw xs M) (x1 x2 x3 x4 x5 : Int32) (h01 : x3 = 0 ∨ x3 = 1) : dk_same pw xs Ls D_place M_place [.int x1, .int x2, .int x3, .int x4, .int x5] M := by
  obtain ⟨n, hn, e1, e2, e3, e4⟩ := dk_nl_of I
  have GM : ∀ M' : hd_Mem, M' 68 = M 68 → M' 67 = M 67 → g_M_place Ls M' x1 x2 x3 x4 x5 := by
    intro M' q8 q7 _ _ _ _ _ q
    rw [q8, e2] at q ⊢
    have hn8 : n ≠ 3 := by rintro rfl; exact q rfl
    rw [show (54 : Int32) + nI n = nI 54 + nI n from rfl, nI_add, show (57 : Int32) + nI n = nI 57 + nI n from rfl, nI_add, show (60 : Int32) + nI n = nI 60 + nI n from rfl, nI_add, show (63 : Int32) + nI n = nI 63 + nI n from rfl, nI_add, show (66 : Int32) + nI n = nI 66 + nI n from rfl, nI_add]
    have g3 : hd_okW 68 (nI (60 + n)) ∧ hd_okW 68 (nI (63 + n)) ∧ hd_okW 68 (nI (66 + n)) := ⟨hd_okW_n (by decide) rfl (show 60 + n < 459 by omega) (by omega), hd_okW_n (by decide) rfl (show 63 + n < 459 by omega) (by omega), hd_okW_n (by decide) rfl (show 66 + n < 459 by omega) (by omega)⟩
    exact ⟨dk_gM I q7, hd_okW_n (by decide) rfl (show 54 + n < 459 by omega) (by omega), hd_okW_n (by decide) rfl (show 57 + n < 459 by omega) (by omega), fun _ => g3, fun _ => g3⟩
  have GD : g_D_place Ls M x1 x2 x3 x4 x5 := by
    intro _ _ _ _ _ q
    rw [e1] at q
    have hn8 : n < 3 := (nI_ltI (by omega) (by omega)).mp q
    refine ⟨?_, ?_⟩
    · unfold g_Pl_add
      rw [e1]
      exact ⟨hd_okW_n (by decide) rfl hn8 (by omega), hd_okW_n (by decide) rfl hn8 (by omega), ⟨hd_okZ_n (by decide) rfl hn8 (by omega), h01⟩, hd_okW_n (by decide) rfl hn8 (by omega), hd_okW_n (by decide) rfl hn8 (by omega)⟩
    · exact dk_gkeepD (by rw [(dk_dv_addL hn8 e1).2.2 6 (by simp)]; exact I.2.2.1.2.2.1)
  have hD := s_D_place GD
  unfold f_D_place at hD
  by_cases c1 : f_M_within x1 0 127 = 0
  · rw [if_pos (show f_D_within x1 0 127 = 0 from c1)] at hD
    have hM := s_M_place (GM _ (dk_find68 (x := -100001)) dk_find67)
    unfold f_M_place at hM
    rw [if_pos c1] at hM
    exact dk_finds _ I hD hM
  rw [if_neg (show ¬ f_D_within x1 0 127 = 0 from c1)] at hD
  by_cases c2 : f_M_within x2 0 15 = 0
  · rw [if_pos (show f_D_within x2 0 15 = 0 from c2)] at hD
    have hM := s_M_place (GM _ (dk_find68 (x := -100001)) dk_find67)
    unfold f_M_place at hM
    rw [if_neg c1, if_pos c2] at hM
    exact dk_finds _ I hD hM
  rw [if_neg (show ¬ f_D_within x2 0 15 = 0 from c2)] at hD
  by_cases c3 : f_M_within x4 1 8 = 0
  · rw [if_pos (show f_D_within x4 1 8 = 0 from c3)] at hD
    have hM := s_M_place (GM _ (dk_find68 (x := -100001)) dk_find67)
    unfold f_M_place at hM
    rw [if_neg c1, if_neg c2, if_pos c3] at hM
    exact dk_finds _ I hD hM
  rw [if_neg (show ¬ f_D_within x4 1 8 = 0 from c3)] at hD
  by_cases c4 : f_M_within x5 1 8 = 0
  · rw [if_pos (show f_D_within x5 1 8 = 0 from c4)] at hD
    have hM := s_M_place (GM _ (dk_find68 (x := -100001)) dk_find67)
    unfold f_M_place at hM
    rw [if_neg c1, if_neg c2, if_neg c3, if_pos c4] at hM
    exact dk_finds _ I hD hM
  rw [if_neg (show ¬ f_D_within x5 1 8 = 0 from c4)] at hD
  by_cases c5 : x4 ≤ x5
  · rw [if_pos c5] at hD
    by_cases c6 : n = 3
    · have q1 : ¬ M 2 5 < 3 := by rw [e1, c6]; decide
      rw [if_neg q1] at hD
      have hM := s_M_place (GM _ (dk_find68 (x := -100005)) dk_find67)
      unfold f_M_place at hM
      rw [if_neg c1, if_neg c2, if_neg c3, if_neg c4, if_pos c5, dk_find68, if_pos (by rw [e2, c6]; rfl)] at hM
      exact dk_finds _ I hD hM
    have hn8 : n < 3 := by omega
    rw [if_pos (by rw [e1]; exact (nI_ltI (b := 3) (by omega) (by omega)).mpr hn8)] at hD
    obtain ⟨t0, t00, tX⟩ := dk_dv_addL (a := x1) (b := x2) (c := x3) (d := x4) (e := x5) hn8 e1
    rw [t00] at hD
    obtain ⟨t1, t2⟩ := dk_kept2 (w := 3) (ix := nI n) (was := 0) I tX
    have hM := s_M_place (GM _ t1 t2)
    unfold f_M_place at hM
    have K68 := dk_k68 I t1 t2
    rw [t1, e2, if_neg c1, if_neg c2, if_neg c3, if_neg c4, if_pos c5, if_neg (by intro q; exact c6 ((nI_eq (by omega) (by omega)).mp q)), show (54 + nI n).toNatClampNeg = 54 + n from dk_ix (a := 54) (b := n) (by omega), show (57 + nI n).toNatClampNeg = 57 + n from dk_ix (a := 57) (b := n) (by omega), show (60 + nI n).toNatClampNeg = 60 + n from dk_ix (a := 60) (b := n) (by omega), show (63 + nI n).toNatClampNeg = 63 + n from dk_ix (a := 63) (b := n) (by omega), show (66 + nI n).toNatClampNeg = 66 + n from dk_ix (a := 66) (b := n) (by omega)] at hM
    have hM3 : hd_Rt Ls M_place [.ref 67, .int x1, .int x2, .int x3, .int x4, .int x5] (f_D_keep (f_Pl_add M x1 x2 x3 x4 x5).2 3 (nI n) 0).2 (some (.int (nI n))) (hd_set (hd_set (hd_set (hd_set (hd_set (hd_set (f_M_keep (f_D_keep (f_Pl_add M x1 x2 x3 x4 x5).2 3 (nI n) 0).2) 68 (54 + n) x1) 68 (57 + n) x2) 68 (60 + n) x3) 68 (63 + n) x4) 68 (66 + n) x5) 68 1 (((hd_set (hd_set (hd_set (hd_set (hd_set (f_M_keep (f_D_keep (f_Pl_add M x1 x2 x3 x4 x5).2 3 (nI n) 0).2) 68 (54 + n) x1) 68 (57 + n) x2) 68 (60 + n) x3) 68 (63 + n) x4) 68 (66 + n) x5) 68 1) + 1)) := by
      rcases h01 with rfl | rfl
      · rw [if_pos rfl] at hM; exact hM
      · rw [if_neg (by decide)] at hM; exact hM
    refine ⟨_, _, _, hD, hM3, ?_⟩
    obtain ⟨kp, nx, a1, a2, a3, a4, a5⟩ := dk_inv_n I
    have I2 := I
    obtain ⟨h1, h2, -⟩ := I2
    have eM : (hd_set (hd_set (hd_set (hd_set (hd_set (hd_set (f_M_keep (f_D_keep (f_Pl_add M x1 x2 x3 x4 x5).2 3 (nI n) 0).2) 68 (54 + n) x1) 68 (57 + n) x2) 68 (60 + n) x3) 68 (63 + n) x4) 68 (66 + n) x5) 68 1 (((hd_set (hd_set (hd_set (hd_set (hd_set (f_M_keep (f_D_keep (f_Pl_add M x1 x2 x3 x4 x5).2 3 (nI n) 0).2) 68 (54 + n) x1) 68 (57 + n) x2) 68 (60 + n) x3) 68 (63 + n) x4) 68 (66 + n) x5) 68 1) + 1)) 68 = dk_addL (M 68) x1 x2 x3 x4 x5 := by
      rw [dk_nfL hn8 e2]
      simp only [hd_set_eq, K68]
      rw [pk_un (by omega), pk_un (by omega), pk_un (by omega), pk_un (by omega), pk_un (by omega), e2, nI_1]
    have hx : hd_in x1 128 ∧ hd_in x2 16 ∧ hd_in x3 2 ∧ hd_in x4 9 ∧ hd_in x5 9 ∧ ¬ x4 = 0 ∧ ¬ x5 = 0 := by
      refine ⟨(dk_within (a := 0) (b := 127) (by omega) (by omega) c1).1, (dk_within (a := 0) (b := 15) (by omega) (by omega) c2).1, ?_, (dk_within (a := 1) (b := 8) (by omega) (by omega) c3).1, (dk_within (a := 1) (b := 8) (by omega) (by omega) c4).1, ?_, ?_⟩
      · rcases h01 with rfl | rfl <;> exact ⟨by decide, by decide⟩
      · rintro rfl
        exact c3 (by decide)
      · rintro rfl
        exact c4 (by decide)
    refine dk_actK (X := (f_Pl_add M x1 x2 x3 x4 x5).2) (w := 3) (ix := nI n) (was := 0) I a2 a1 a5 a4 tX ?_ ?_ ?_ ?_ ?_
    · intro z hz
      rw [hd_set_ne hz, hd_set_ne hz, hd_set_ne hz, hd_set_ne hz, hd_set_ne hz, hd_set_ne hz]
    · rw [eM]; exact dk_wf_addL h1 hn8 e2 hx
    · rw [eM, t0]; exact dk_live_addL h2 hn8 (by rw [hd_dv_1]; exact e1)
    · rw [t0]
      unfold dk_tb
      dsimp only
      rw [if_neg (by decide), if_neg (by decide), if_neg (by decide), if_pos rfl]
      exact dk_backL hn8 (by rw [hd_dv_1]; exact e1)
    · rw [t0]
      unfold dk_ok
      simp
      refine ⟨n, ?_, hn8, rfl⟩
      rw [dk_nfL hn8 (by rw [hd_dv_1]; exact e1), dk_nl, pk_us, nI_clamp (by omega)]
      omega
  · rw [if_neg c5] at hD
    have hM := s_M_place (GM _ (dk_find68 (x := -100003)) dk_find67)
    unfold f_M_place at hM
    rw [if_neg c1, if_neg c2, if_neg c3, if_neg c4, if_neg c5] at hM
    exact dk_finds _ I hD hM
