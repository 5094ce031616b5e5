/-! as, of, bar -/
theorem dk_asks {pw : dk_PW} {xs : Nat → Int32} {Ls yD yM : Nat} {as : List Value} {M : hd_Mem} {r : Int32} (I : dk_inv pw xs M) (hD : hd_Rt Ls yD (.ref 0 :: as) M (some (.int r)) M) (hM : hd_Rt Ls yM (.ref 67 :: as) M (some (.int r)) M) : dk_same pw xs Ls yD yM as M := ⟨r, M, M, hD, hM, I⟩
theorem dk_rd {pw : dk_PW} {xs : Nat → Int32} {M : hd_Mem} (I : dk_inv pw xs M) {c p b : Nat} (hc : c ∈ [8,9,10,11,12,13,14,15,16,17,18,19,20,21,22,23,28,29,30]) (hp : p < hd_len2 c) (hb : hd_pos c p = b) (hl : dk_lv (M 68) b) : M c p = M 68 b := by
  obtain ⟨h1, h2, -⟩ := I
  rw [← h2 b ((dk_lv_iff (dk_live_cnt h2) b).mpr hl), ← hb, hd_dvA c hc hp]
theorem dk_kinds : ∀ k, k < 4 → ∀ w, w < 4 → (f_D_hasBit (hd_ks k) (nI w) = 0 ↔ ¬ (nI w = 0 ∨ nI k = nI w ∨ (nI w = 1 ∧ nI k = 3))) := by decide +kernel
theorem dk_same_as {pw : dk_PW} {xs : Nat → Int32} {Ls : Nat} {M : hd_Mem} (I : dk_inv pw xs M) (x1 x2 : Int32) : dk_same pw xs Ls D_as M_as [.int x1, .int x2] M := by
  have hP := dk_pers I x1
  have I2 := I
  obtain ⟨h1, h2, -, -, -, -, -, -, -, h79, -⟩ := I2
  have GM : ∀ M' : hd_Mem, M' 68 = M 68 → g_M_as Ls M' x1 x2 := by
    intro M' q8 q1 q2
    unfold f_M_isPerson at q1
    rw [q8] at q1
    obtain ⟨p, hp, hp8, rfl⟩ := dk_pthere I q1
    rw [show (6 : Int32) + nI p = nI 6 + nI p from rfl, nI_add]
    exact hd_okR_n rfl (show 6 + p < 459 by omega) (by omega)
  have GD : g_D_as Ls M x1 x2 := by
    intro q1 q2
    rw [hP] at q1
    obtain ⟨p, hp, hp8, rfl⟩ := dk_pthere I q1
    refine ⟨hd_okR_n rfl hp8 (by omega), ?_⟩
    rw [nI_clamp (by omega), dk_rd I (c := 8) (b := 6 + p) (by simp) (show p < 8 from hp8) rfl (dk_lv_p hp hp8 (by simp))]
    have := (h1.2.2.2.2.2.2.1 p hp).1
    exact ⟨4, rfl, this⟩
  have hD := s_D_as GD
  unfold f_D_as at hD
  rw [hP] at hD
  by_cases c1 : f_M_within x1 0 (M 68 0 - 1) = 0
  · rw [if_pos c1] at hD
    have hM := s_M_as (GM _ (dk_find68 (x := -100001)))
    unfold f_M_as f_M_isPerson at hM
    rw [dk_find68, if_pos c1] at hM
    exact dk_finds _ I hD hM
  rw [if_neg c1] at hD
  by_cases c2 : f_M_within x2 0 3 = 0
  · rw [if_pos (show f_D_within x2 0 3 = 0 from c2)] at hD
    have hM := s_M_as (GM _ (dk_find68 (x := -100001)))
    unfold f_M_as f_M_isPerson at hM
    rw [dk_find68, if_neg c1, if_pos c2] at hM
    exact dk_finds _ I hD hM
  rw [if_neg (show ¬ f_D_within x2 0 3 = 0 from c2)] at hD
  obtain ⟨p, hp, hp8, rfl⟩ := dk_pthere I c1
  obtain ⟨w, hw, rfl⟩ := hd_in_of (dk_within (a := 0) (b := 3) (by omega) (by omega) c2).1 (by omega)
  obtain ⟨k, hk, ek⟩ := hd_in_of (h1.2.2.2.2.2.2.1 p hp).1 (by omega)
  have e8 : M 8 p = nI k := by rw [dk_rd I (c := 8) (b := 6 + p) (by simp) (show p < 8 from hp8) rfl (dk_lv_p hp hp8 (by simp))]; exact ek
  have cl2 : (6 + nI p).toNatClampNeg = 6 + p := dk_ix (a := 6) (b := p) (by omega)
  have hkd : f_Pe_isOfKind M (nI p) (nI w) = f_D_hasBit (hd_ks k) (nI w) := by
    unfold f_Pe_isOfKind
    rw [nI_clamp (show p < 2 ^ 31 by omega), e8, nI_clamp (show k < 2 ^ 31 by omega), h79]
  rw [hkd] at hD
  have hkk := dk_kinds k hk w hw
  by_cases c3 : f_D_hasBit (hd_ks k) (nI w) = 0
  · rw [if_pos c3] at hD
    have z := hkk.mp c3
    have hM := s_M_as (GM _ (dk_find68 (x := -100004)))
    unfold f_M_as f_M_isPerson at hM
    rw [dk_find68, if_neg c1, if_neg c2, cl2, ek, if_neg (fun q => z (Or.inl q)), if_neg (fun q => z (Or.inr (Or.inl q)))] at hM
    by_cases y : nI w = 1
    · rw [if_pos y, if_neg (fun q => z (Or.inr (Or.inr ⟨y, q⟩)))] at hM
      exact dk_finds _ I hD hM
    · rw [if_neg y] at hM
      exact dk_finds _ I hD hM
  · rw [if_neg c3] at hD
    have hM := s_M_as (GM M rfl)
    unfold f_M_as f_M_isPerson at hM
    rw [if_neg c1, if_neg c2, cl2, ek] at hM
    have z : nI w = 0 ∨ nI k = nI w ∨ (nI w = 1 ∧ nI k = 3) := by
      by_cases y : nI w = 0 ∨ nI k = nI w ∨ (nI w = 1 ∧ nI k = 3)
      · exact y
      · exact absurd (hkk.mpr y) c3
    refine dk_asks I hD ?_
    by_cases y1 : nI w = 0
    · rw [if_pos y1] at hM; exact hM
    · rw [if_neg y1] at hM
      by_cases y2 : nI k = nI w
      · rw [if_pos y2] at hM; exact hM
      · rw [if_neg y2] at hM
        rcases z with z | z | z
        · exact absurd z y1
        · exact absurd z y2
        · rw [if_pos z.1, if_pos z.2] at hM; exact hM
theorem dk_same_of {pw : dk_PW} {xs : Nat → Int32} {Ls : Nat} {M : hd_Mem} (I : dk_inv pw xs M) (x1 x2 : Int32) : dk_same pw xs Ls D_of M_of [.int x1, .int x2] M := by
  have hP := dk_pers I x1
  have GM : ∀ M' : hd_Mem, M' 68 = M 68 → g_M_of Ls M' x1 x2 := by
    intro M' q8 q1 q2
    unfold f_M_isPerson at q1
    rw [q8] at q1
    obtain ⟨p, hp, hp8, rfl⟩ := dk_pthere I q1
    obtain ⟨w, hw, rfl⟩ := hd_in_of (dk_within (a := 0) (b := 4) (by omega) (by omega) q2).1 (by omega)
    rw [show (8 : Int32) * nI w = nI 8 * nI w from rfl, pk_mul, show (6 : Int32) + nI (8 * w) = nI 6 + nI (8 * w) from rfl, nI_add, nI_add]
    exact hd_okR_n rfl (show 6 + 8 * w + p < 459 by omega) (by omega)
  have GD : g_D_of Ls M x1 x2 := by
    intro q1
    rw [hP] at q1
    obtain ⟨p, hp, hp8, rfl⟩ := dk_pthere I q1
    exact ⟨fun _ => hd_okR_n rfl hp8 (by omega), fun _ => hd_okR_n rfl hp8 (by omega), fun _ => hd_okR_n rfl hp8 (by omega), fun _ => hd_okR_n rfl hp8 (by omega), fun _ => hd_okR_n rfl hp8 (by omega)⟩
  have hD := s_D_of GD
  unfold f_D_of at hD
  rw [hP] at hD
  by_cases c1 : f_M_within x1 0 (M 68 0 - 1) = 0
  · rw [if_pos c1] at hD
    have hM := s_M_of (GM _ (dk_find68 (x := -100001)))
    unfold f_M_of f_M_isPerson at hM
    rw [dk_find68, if_pos c1] at hM
    exact dk_finds _ I hD hM
  rw [if_neg c1] at hD
  by_cases c2 : f_M_within x2 0 4 = 0
  · have z : ∀ w : Nat, w < 5 → ¬ x2 = nI w := by
      rintro w hw rfl
      have : ∀ w, w < 5 → ¬ f_M_within (nI w) 0 4 = 0 := by decide +kernel
      exact this w hw c2
    rw [if_neg (show ¬ x2 = 0 from z 0 (by omega)), if_neg (show ¬ x2 = 1 from z 1 (by omega)), if_neg (show ¬ x2 = 2 from z 2 (by omega)), if_neg (show ¬ x2 = 3 from z 3 (by omega)), if_neg (show ¬ x2 = 4 from z 4 (by omega))] at hD
    have hM := s_M_of (GM _ (dk_find68 (x := -100001)))
    unfold f_M_of f_M_isPerson at hM
    rw [dk_find68, if_neg c1, if_pos c2] at hM
    exact dk_finds _ I hD hM
  obtain ⟨p, hp, hp8, rfl⟩ := dk_pthere I c1
  obtain ⟨w, hw, rfl⟩ := hd_in_of (dk_within (a := 0) (b := 4) (by omega) (by omega) c2).1 (by omega)
  have hM := s_M_of (GM M rfl)
  unfold f_M_of f_M_isPerson at hM
  rw [if_neg c1, if_neg c2, show (8 : Int32) * nI w = nI 8 * nI w from rfl, pk_mul, show (6 : Int32) + nI (8 * w) = nI 6 + nI (8 * w) from rfl, nI_add, nI_add, nI_clamp (show 6 + 8 * w + p < 2 ^ 31 by omega)] at hM
  rw [nI_clamp (show p < 2 ^ 31 by omega)] at hD
  rcases (show w = 0 ∨ w = 1 ∨ w = 2 ∨ w = 3 ∨ w = 4 by omega) with rfl | rfl | rfl | rfl | rfl
  · rw [if_pos (show nI 0 = 0 from rfl), dk_rd I (c := 8) (b := 6 + p) (by simp) (show p < 8 from hp8) rfl (dk_lv_p hp hp8 (by simp))] at hD
    exact dk_asks I hD hM
  · rw [if_neg (show ¬ nI 1 = 0 by decide), if_pos (show nI 1 = 1 from rfl), dk_rd I (c := 9) (b := 14 + p) (by simp) (show p < 8 from hp8) rfl (dk_lv_p hp hp8 (by simp))] at hD
    exact dk_asks I hD hM
  · rw [if_neg (show ¬ nI 2 = 0 by decide), if_neg (show ¬ nI 2 = 1 by decide), if_pos (show nI 2 = 2 from rfl), dk_rd I (c := 10) (b := 22 + p) (by simp) (show p < 8 from hp8) rfl (dk_lv_p hp hp8 (by simp))] at hD
    exact dk_asks I hD hM
  · rw [if_neg (show ¬ nI 3 = 0 by decide), if_neg (show ¬ nI 3 = 1 by decide), if_neg (show ¬ nI 3 = 2 by decide), if_pos (show nI 3 = 3 from rfl), dk_rd I (c := 11) (b := 30 + p) (by simp) (show p < 8 from hp8) rfl (dk_lv_p hp hp8 (by simp))] at hD
    exact dk_asks I hD hM
  · rw [if_neg (show ¬ nI 4 = 0 by decide), if_neg (show ¬ nI 4 = 1 by decide), if_neg (show ¬ nI 4 = 2 by decide), if_neg (show ¬ nI 4 = 3 by decide), if_pos (show nI 4 = 4 from rfl), dk_rd I (c := 12) (b := 38 + p) (by simp) (show p < 8 from hp8) rfl (dk_lv_p hp hp8 (by simp))] at hD
    exact dk_asks I hD hM
