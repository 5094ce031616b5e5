/-! free, open, reason, rule -/
theorem dk_same_free {pw : dk_PW} {xs : Nat → Int32} {Ls : Nat} {M : hd_Mem} (I : dk_inv pw xs M) (x1 x2 : Int32) : dk_same pw xs Ls D_free M_free [.int x1, .int x2] M := by
  have hP := dk_pers I x1
  have GM : ∀ M' : hd_Mem, M' 68 = M 68 → M' 67 = M 67 → g_M_free Ls M' x1 x2 := by
    intro M' q8 q7 q1 q2
    unfold f_M_isPerson at q1
    rw [q8] at q1
    obtain ⟨p, hp, hp8, rfl⟩ := dk_pthere I q1
    rw [show (22 : Int32) + nI p = nI 22 + nI p from rfl, nI_add]
    exact ⟨dk_gM I q7, hd_okR_n rfl (show 22 + p < 459 by omega) (by omega), hd_okW_n (by decide) rfl (show 22 + p < 459 by omega) (by omega)⟩
  have GD : g_D_free Ls M x1 x2 := by
    intro q1 q2
    rw [hP] at q1
    obtain ⟨p, hp, hp8, rfl⟩ := dk_pthere I q1
    exact ⟨hd_okR_n rfl hp8 (by omega), hd_okW_n (by decide) rfl hp8 (by omega), dk_g65 I (by decide)⟩
  have hD := s_D_free GD
  unfold f_D_free at hD
  rw [hP] at hD
  by_cases c1 : f_M_within x1 0 (M 68 0 - 1) = 0
  · rw [if_pos c1] at hD
    have hM := s_M_free (GM _ (dk_find68 (x := -100001)) dk_find67)
    unfold f_M_free f_M_isPerson at hM
    rw [dk_find68, if_pos c1] at hM
    exact dk_finds _ I hD hM
  rw [if_neg c1] at hD
  by_cases c2 : f_M_within x2 0 127 = 0
  · rw [if_pos (show f_D_within x2 0 127 = 0 from c2)] at hD
    have hM := s_M_free (GM _ (dk_find68 (x := -100001)) dk_find67)
    unfold f_M_free f_M_isPerson at hM
    rw [dk_find68, if_neg c1, if_pos c2] at hM
    exact dk_finds _ I hD hM
  rw [if_neg (show ¬ f_D_within x2 0 127 = 0 from c2)] at hD
  obtain ⟨p, hp, hp8, rfl⟩ := dk_pthere I c1
  have cl : (nI p).toNatClampNeg = p := nI_clamp (by omega)
  have cl2 : (22 + nI p).toNatClampNeg = 22 + p := dk_ix (a := 22) (b := p) (by omega)
  rw [cl] at hD
  have hw := (dk_within (a := 0) (b := 127) (by omega) (by omega) c2).1
  obtain ⟨u1, u2, u3⟩ := dk_one (c := 10) (j := p) (q := 22 + p) (w := 2) (ix := nI p) (was := M 10 p) (x := x2) I (by simp) (show p < 8 from hp8) rfl (by omega) (by unfold dk_fit; refine ⟨?_, ?_, ?_, ?_, fun _ _ => hw, ?_, ?_, ?_, ?_, ?_, ?_, ?_, ?_, ?_, ?_, ?_, ?_⟩ <;> omega) (dk_lv_p hp hp8 (by simp)) (fun V row => by unfold dk_tb; simp [cl]) (fun V row => by unfold dk_ok; simp; exact ⟨p, hp8, rfl⟩) rfl
  obtain ⟨t1, t2⟩ := dk_kept (c := 10) (j := p) (x := x2) (w := 2) (ix := nI p) (was := M 10 p) I (by decide) (by decide)
  have hM := s_M_free (GM _ t1 t2)
  unfold f_M_free f_M_isPerson at hM
  rw [t1, if_neg c1, if_neg c2, cl2, u2] at hM
  exact ⟨_, _, _, hD, hM, u3⟩
theorem dk_same_open {pw : dk_PW} {xs : Nat → Int32} {Ls : Nat} {M : hd_Mem} (I : dk_inv pw xs M) (x1 x2 : Int32) : dk_same pw xs Ls D_open M_open [.int x1, .int x2] M := by
  have hP := dk_plac I x1
  have GM : ∀ M' : hd_Mem, M' 68 = M 68 → M' 67 = M 67 → g_M_open Ls M' x1 x2 := by
    intro M' q8 q7 q1 q2
    unfold f_M_isPlace at q1
    rw [q8] at q1
    obtain ⟨p, hp, hp8, rfl⟩ := dk_lthere I q1
    rw [show (54 : Int32) + nI p = nI 54 + nI p from rfl, nI_add]
    exact ⟨dk_gM I q7, hd_okR_n rfl (show 54 + p < 459 by omega) (by omega), hd_okW_n (by decide) rfl (show 54 + p < 459 by omega) (by omega)⟩
  have GD : g_D_open Ls M x1 x2 := by
    intro q1 q2
    rw [hP] at q1
    obtain ⟨p, hp, hp8, rfl⟩ := dk_lthere I q1
    exact ⟨hd_okR_n rfl hp8 (by omega), hd_okW_n (by decide) rfl hp8 (by omega), dk_g65 I (by decide)⟩
  have hD := s_D_open GD
  unfold f_D_open at hD
  rw [hP] at hD
  by_cases c1 : f_M_within x1 0 (M 68 1 - 1) = 0
  · rw [if_pos c1] at hD
    have hM := s_M_open (GM _ (dk_find68 (x := -100001)) dk_find67)
    unfold f_M_open f_M_isPlace at hM
    rw [dk_find68, if_pos c1] at hM
    exact dk_finds _ I hD hM
  rw [if_neg c1] at hD
  by_cases c2 : f_M_within x2 0 127 = 0
  · rw [if_pos (show f_D_within x2 0 127 = 0 from c2)] at hD
    have hM := s_M_open (GM _ (dk_find68 (x := -100001)) dk_find67)
    unfold f_M_open f_M_isPlace at hM
    rw [dk_find68, if_neg c1, if_pos c2] at hM
    exact dk_finds _ I hD hM
  rw [if_neg (show ¬ f_D_within x2 0 127 = 0 from c2)] at hD
  obtain ⟨p, hp, hp8, rfl⟩ := dk_lthere I c1
  have cl : (nI p).toNatClampNeg = p := nI_clamp (by omega)
  have cl2 : (54 + nI p).toNatClampNeg = 54 + p := dk_ix (a := 54) (b := p) (by omega)
  rw [cl] at hD
  have hw := (dk_within (a := 0) (b := 127) (by omega) (by omega) c2).1
  obtain ⟨u1, u2, u3⟩ := dk_one (c := 14) (j := p) (q := 54 + p) (w := 4) (ix := nI p) (was := M 14 p) (x := x2) I (by simp) (show p < 3 from hp8) rfl (by omega) (by unfold dk_fit; refine ⟨?_, ?_, ?_, ?_, ?_, ?_, ?_, ?_, fun _ _ => hw, ?_, ?_, ?_, ?_, ?_, ?_, ?_, ?_⟩ <;> omega) (dk_lv_l hp hp8 (by simp)) (fun V row => by unfold dk_tb; simp [cl]) (fun V row => by unfold dk_ok; simp; exact ⟨p, hp8, rfl⟩) rfl
  obtain ⟨t1, t2⟩ := dk_kept (c := 14) (j := p) (x := x2) (w := 4) (ix := nI p) (was := M 14 p) I (by decide) (by decide)
  have hM := s_M_open (GM _ t1 t2)
  unfold f_M_open f_M_isPlace at hM
  rw [t1, if_neg c1, if_neg c2, cl2, u2] at hM
  exact ⟨_, _, _, hD, hM, u3⟩
theorem dk_same_reason {pw : dk_PW} {xs : Nat → Int32} {Ls : Nat} {M : hd_Mem} (I : dk_inv pw xs M) (x1 x2 : Int32) : dk_same pw xs Ls D_reason M_reason [.int x1, .int x2] M := by
  have hP := dk_absn I x1
  have GM : ∀ M' : hd_Mem, M' 68 = M 68 → M' 67 = M 67 → g_M_reason Ls M' x1 x2 := by
    intro M' q8 q7 q1
    rw [q8] at q1
    obtain ⟨p, hp, hp8, rfl⟩ := dk_athere I q1
    rw [show (429 : Int32) + nI p = nI 429 + nI p from rfl, nI_add, show (399 : Int32) + nI p = nI 399 + nI p from rfl, nI_add]
    have g1 : g_M_keep Ls M' ∧ (hd_okR Ls 68 (nI (429 + p)) ∧ hd_okW 68 (nI (429 + p))) := ⟨dk_gM I q7, hd_okR_n rfl (show 429 + p < 459 by omega) (by omega), hd_okW_n (by decide) rfl (show 429 + p < 459 by omega) (by omega)⟩
    have g2 : hd_okR Ls 68 (nI (399 + p)) := hd_okR_n rfl (show 399 + p < 459 by omega) (by omega)
    exact ⟨fun _ => ⟨fun _ => g1, fun _ => ⟨g2, fun _ => g1⟩⟩, fun _ _ => ⟨fun _ => g1, fun _ => ⟨g2, fun _ => g1⟩⟩⟩
  have GD : g_D_reason Ls M x1 x2 := by
    intro q1 q2
    rw [hP] at q1
    obtain ⟨p, hp, hp8, rfl⟩ := dk_athere I q1
    have g1 : hd_okR Ls 30 (nI p) ∧ hd_okW 30 (nI p) ∧ g_D_keep Ls (hd_set M 30 (nI p).toNatClampNeg x2) 10 (nI p) (M 30 (nI p).toNatClampNeg) := ⟨hd_okR_n rfl hp8 (by omega), hd_okW_n (by decide) rfl hp8 (by omega), dk_g65 I (by decide)⟩
    exact ⟨fun _ => g1, fun _ => ⟨hd_okR_n rfl hp8 (by omega), fun _ => g1⟩⟩
  have hD := s_D_reason GD
  unfold f_D_reason at hD
  rw [hP] at hD
  by_cases c1 : f_M_within x1 0 (M 68 3 - 1) = 0
  · rw [if_pos c1] at hD
    have hM := s_M_reason (GM _ (dk_find68 (x := -100001)) dk_find67)
    unfold f_M_reason at hM
    rw [dk_find68, if_pos c1] at hM
    exact dk_finds _ I hD hM
  rw [if_neg c1] at hD
  -- -1 or a DAY
  have hday : f_D_within x2 (-1) 364 = 0 ↔ (¬ x2 = -1 ∧ f_M_isDay x2 = 0) := by
    unfold f_D_within f_M_isDay f_M_within
    by_cases z : x2 = -1
    · subst z; decide
    · have hz : x2 < -1 ↔ x2 < 0 := by
        rw [Int32.lt_iff_toInt_lt, Int32.lt_iff_toInt_lt]
        have : x2.toInt ≠ (-1 : Int32).toInt := fun q => z (Int32.toInt_inj.mp q)
        have e1 : (-1 : Int32).toInt = -1 := by decide
        have e0 : (0 : Int32).toInt = 0 := by decide
        rw [e1] at this ⊢
        rw [e0]
        omega
      simp only [hz, z, not_false_eq_true, true_and]
  by_cases c2 : f_D_within x2 (-1) 364 = 0
  · rw [if_pos c2] at hD
    have hM := s_M_reason (GM _ (dk_find68 (x := -100001)) dk_find67)
    unfold f_M_reason at hM
    obtain ⟨z1, z2⟩ := hday.mp c2
    rw [dk_find68, if_neg c1, if_neg z1, if_pos z2] at hM
    exact dk_finds _ I hD hM
  rw [if_neg c2] at hD
  obtain ⟨p, hp, hp8, rfl⟩ := dk_athere I c1
  have cl : (nI p).toNatClampNeg = p := nI_clamp (by omega)
  have cl2 : (429 + nI p).toNatClampNeg = 429 + p := dk_ix (a := 429) (b := p) (by omega)
  have cl3 : (399 + nI p).toNatClampNeg = 399 + p := dk_ix (a := 399) (b := p) (by omega)
  rw [cl] at hD
  have hw : x2 = -1 ∨ hd_in x2 365 := by
    by_cases z : x2 = -1
    · exact Or.inl z
    · right
      have : ¬ f_M_isDay x2 = 0 := fun q => c2 (hday.mpr ⟨z, q⟩)
      exact (dk_within (a := 0) (b := 364) (by omega) (by omega) this).1
  obtain ⟨u1, u2, u3⟩ := dk_one (c := 30) (j := p) (q := 429 + p) (w := 10) (ix := nI p) (was := M 30 p) (x := x2) I (by simp) (show p < 30 from hp8) rfl (by omega) (by unfold dk_fit; refine ⟨?_, ?_, ?_, ?_, ?_, ?_, ?_, ?_, ?_, ?_, ?_, ?_, ?_, ?_, ?_, ?_, fun _ _ => hw⟩ <;> omega) (dk_lv_a hp hp8 (by simp)) (fun V row => by unfold dk_tb; simp [cl]) (fun V row => by unfold dk_ok; simp; exact ⟨p, hp8, rfl⟩) rfl
  obtain ⟨t1, t2⟩ := dk_kept (c := 30) (j := p) (x := x2) (w := 10) (ix := nI p) (was := M 30 p) I (by decide) (by decide)
  have hM := s_M_reason (GM _ t1 t2)
  unfold f_M_reason at hM
  rw [t1, if_neg c1] at hM
  have hdv : M 29 p = M 68 (399 + p) := by
    obtain ⟨h1, h2, -⟩ := id I
    have := h2 (399 + p) ((dk_lv_iff (dk_live_cnt h2) _).mpr (dk_lv_a hp hp8 (by simp)))
    rw [← this]
    exact (hd_dvA 29 (by simp) (show p < 30 from hp8)).symm
  by_cases z : x2 = -1
  · rw [if_pos z] at hD
    rw [if_pos z, if_pos z, cl2, u2] at hM
    exact ⟨_, _, _, hD, hM, u3⟩
  · have z2 : ¬ f_M_isDay x2 = 0 := fun q => c2 (hday.mpr ⟨z, q⟩)
    rw [if_neg z] at hD
    rw [if_neg z, if_neg z2, if_neg z, cl3, ← hdv] at hM
    by_cases c3 : M 29 p ≤ x2
    · rw [if_pos c3] at hD
      rw [if_pos c3, cl2, u2] at hM
      exact ⟨_, _, _, hD, hM, u3⟩
    · rw [if_neg c3] at hD
      have hM := s_M_reason (GM _ (dk_find68 (x := -100003)) dk_find67)
      unfold f_M_reason at hM
      rw [dk_find68, if_neg c1, if_neg z, if_neg z2, if_neg z, cl3, ← hdv, if_neg c3] at hM
      exact dk_finds _ I hD hM
