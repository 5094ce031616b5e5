/-! absent, breaches, court -/
theorem dk_isb {pw : dk_PW} {xs : Nat → Int32} {M : hd_Mem} (I : dk_inv pw xs M) {a : Nat} (ha : a < dk_na (M 68)) (ha30 : a < 30) (x1 x2 : Int32) : f_Ab_isBreach M (nI a) x1 x2 = f_M_isBreach M (nI a) x1 x2 := by
  have h1 := I.1
  have e1 : M 28 a = M 68 (369 + a) := dk_rd I (c := 28) (b := 369 + a) (by simp) (show a < 30 from ha30) rfl (dk_lv_a ha ha30 (by simp))
  have e2 : M 29 a = M 68 (399 + a) := dk_rd I (c := 29) (b := 399 + a) (by simp) (show a < 30 from ha30) rfl (dk_lv_a ha ha30 (by simp))
  have e3 : M 30 a = M 68 (429 + a) := dk_rd I (c := 30) (b := 429 + a) (by simp) (show a < 30 from ha30) rfl (dk_lv_a ha ha30 (by simp))
  have hw := (h1.2.2.2.2.2.2.2.2.2.1 a ha).2.2
  unfold f_Ab_isBreach f_M_isBreach
  rw [nI_clamp (show a < 2 ^ 31 by omega), show (369 + nI a).toNatClampNeg = 369 + a from dk_ix (a := 369) (b := a) (by omega), show (399 + nI a).toNatClampNeg = 399 + a from dk_ix (a := 399) (b := a) (by omega), show (429 + nI a).toNatClampNeg = 429 + a from dk_ix (a := 429) (b := a) (by omega), e1, e2, e3]
  have hp : M 68 (429 + a) = -1 ↔ M 68 (429 + a) < 0 := by
    rcases hw with z | z
    · rw [z]; decide
    · rw [Int32.lt_iff_toInt_lt]
      have e0 : (0 : Int32).toInt = 0 := by decide
      rw [e0]
      constructor
      · intro y
        rw [y] at z
        exact absurd z.1 (by decide)
      · intro y
        exact absurd z.1 (by omega)
  simp only [hp]
theorem dk_gisb {Ls : Nat} {M : hd_Mem} {a : Nat} (ha : a < 30) {x1 x2 : Int32} : g_Ab_isBreach Ls M (nI a) x1 x2 ∧ g_M_isBreach Ls M (nI a) x1 x2 := by
  have r : ∀ c, c = 28 ∨ c = 29 ∨ c = 30 → hd_okR Ls c (nI a) := by
    intro c hc
    rcases hc with rfl | rfl | rfl <;> exact hd_okR_n rfl ha (by omega)
  refine ⟨⟨r 28 (by simp), fun _ => ⟨r 29 (by simp), fun _ => ⟨r 30 (by simp), fun _ => r 30 (by simp)⟩⟩⟩, ?_⟩
  unfold g_M_isBreach
  rw [show (369 : Int32) + nI a = nI 369 + nI a from rfl, nI_add, show (399 : Int32) + nI a = nI 399 + nI a from rfl, nI_add, show (429 : Int32) + nI a = nI 429 + nI a from rfl, nI_add]
  exact ⟨hd_okR_n rfl (show 429 + a < 459 by omega) (by omega), hd_okR_n rfl (show 369 + a < 459 by omega) (by omega), fun _ => hd_okR_n rfl (show 399 + a < 459 by omega) (by omega)⟩
theorem dk_same_breaches {pw : dk_PW} {xs : Nat → Int32} {Ls : Nat} {M : hd_Mem} (I : dk_inv pw xs M) (x1 x2 : Int32) : dk_same pw xs Ls D_breaches M_breaches [.int x1, .int x2] M := by
  have hP := dk_pers I x1
  have h1 := I.1
  obtain ⟨n, hn, e1, e2, e3, e4⟩ := dk_na_of I
  have cl1 : (M 4 3).toNatClampNeg = n := by rw [e1]; exact nI_clamp (by omega)
  have cl2 : (M 68 3).toNatClampNeg = n := by rw [e2]; exact nI_clamp (by omega)
  have GM : ∀ M' : hd_Mem, M' 68 = M 68 → g_M_breaches Ls M' x1 x2 := by
    intro M' q8 _ _
    rw [q8, cl2]
    exact ⟨by omega, fun _ _ => by rw [q8]; exact e2, fun i hi => (dk_gisb (by omega)).2⟩
  have GD : g_D_breaches Ls M x1 x2 := by
    intro _ _
    unfold g_Ab_countBreaches
    rw [cl1]
    exact ⟨by omega, fun _ _ => e1, fun i hi => ⟨(dk_gisb (by omega)).1, fun _ => ⟨hd_okR_n rfl (show i < 30 by omega) (by omega), fun _ => hd_okR_n rfl (show i < 30 by omega) (by omega)⟩⟩⟩
  have hD := s_D_breaches GD
  unfold f_D_breaches at hD
  rw [hP] at hD
  by_cases c1 : f_M_within x1 0 (M 68 0 - 1) = 0
  · rw [if_pos c1] at hD
    have hM := s_M_breaches (GM _ (dk_find68 (x := -100001)))
    unfold f_M_breaches f_M_isPerson at hM
    rw [dk_find68, if_pos c1] at hM
    exact dk_finds _ I hD hM
  rw [if_neg c1] at hD
  by_cases c2 : f_M_isDay x2 = 0
  · rw [if_pos (show f_D_isDay x2 = 0 from c2)] at hD
    have hM := s_M_breaches (GM _ (dk_find68 (x := -100001)))
    unfold f_M_breaches f_M_isPerson at hM
    rw [dk_find68, if_neg c1, if_pos c2] at hM
    exact dk_finds _ I hD hM
  rw [if_neg (show ¬ f_D_isDay x2 = 0 from c2)] at hD
  have hM := s_M_breaches (GM M rfl)
  unfold f_M_breaches f_M_isPerson at hM
  rw [if_neg c1, if_neg c2, cl2] at hM
  have key : ∀ i, i ≤ n → a_Ab_countBreaches_6 M x1 0 x2 x2 0 i = a_M_breaches_27 M x1 x2 0 i := by
    intro i
    induction i with
    | zero => intro _; rfl
    | succ i ih =>
      intro hi
      show t_Ab_countBreaches_6 M x1 0 x2 x2 (a_Ab_countBreaches_6 M x1 0 x2 x2 0 i) (nI i) = t_M_breaches_27 M x1 x2 (a_M_breaches_27 M x1 x2 0 i) (nI i)
      rw [ih (by omega)]
      unfold t_Ab_countBreaches_6 t_M_breaches_27
      rw [dk_isb I (by omega) (by omega)]
      by_cases z : f_M_isBreach M (nI i) x1 x2 = 0
      · rw [if_pos z, if_pos z, Int32.add_zero]
      · rw [if_neg z, if_neg z]
        have hd := (h1.2.2.2.2.2.2.2.2.2.1 i (by omega)).2.1
        have ed : M 29 i = M 68 (399 + i) := dk_rd I (c := 29) (b := 399 + i) (by simp) (show i < 30 by omega) rfl (dk_lv_a (by omega) (by omega) (by simp))
        rw [nI_clamp (show i < 2 ^ 31 by omega), ed]
        have z2 : ¬ M 68 (399 + i) < 0 := hd_nlt hd.1
        rw [if_neg z2]
        have z3 : ¬ x2 < M 68 (399 + i) := by
          intro q
          apply z
          unfold f_M_isBreach
          rw [show (399 + nI i).toNatClampNeg = 399 + i from dk_ix (a := 399) (b := i) (by omega)]
          by_cases y : M 68 ((369 + nI i).toNatClampNeg) = x1
          · rw [if_pos y, if_pos q]
          · rw [if_neg y]
        rw [if_neg z3]
  unfold f_Ab_countBreaches at hD
  rw [cl1, key n (Nat.le_refl _)] at hD
  exact dk_asks I hD hM
theorem dk_same_absent {pw : dk_PW} {xs : Nat → Int32} {Ls : Nat} {M : hd_Mem} (I : dk_inv pw xs M) (x1 x2 : Int32) : dk_same pw xs Ls D_absent M_absent [.int x1, .int x2] M := by
  have hP := dk_pers I x1
  obtain ⟨n, hn, e1, e2, e3, e4⟩ := dk_na_of I
  have cl1 : (M 4 3).toNatClampNeg = n := by rw [e1]; exact nI_clamp (by omega)
  have cl2 : (M 68 3).toNatClampNeg = n := by rw [e2]; exact nI_clamp (by omega)
  have hMs : ∀ M' : hd_Mem, M' 68 = M 68 → M' 67 = M 67 → hd_Rt Ls M_absent [.ref 67, .int x1, .int x2] M' (some (.int (f_M_absent M' x1 x2).1)) (f_M_absent M' x1 x2).2 := fun M' q8 q7 => s_M_absent (by rw [q8, e2]; exact hd_in_nI (by omega) (by omega)) (dk_gM I q7)
  have GD : g_D_absent Ls M x1 x2 := by
    intro _ _
    refine ⟨by unfold g_Ab_isAbsent; rw [e1]; exact hd_in_nI (by omega) (by omega), fun _ q => ?_⟩
    rw [e1] at q
    have hn8 : n < 30 := (nI_ltI (b := 30) (by omega) (by omega)).mp q
    refine ⟨?_, dk_gkeepD (by rw [(dk_dv_addA hn8 e1).2.2 6 (by simp)]; exact I.2.2.1.2.2.1)⟩
    unfold g_Ab_add
    rw [e1]
    exact ⟨hd_okW_n (by decide) rfl hn8 (by omega), hd_okW_n (by decide) rfl hn8 (by omega), hd_okW_n (by decide) rfl hn8 (by omega)⟩
  have hD := s_D_absent GD
  unfold f_D_absent at hD
  rw [hP] at hD
  by_cases c1 : f_M_within x1 0 (M 68 0 - 1) = 0
  · rw [if_pos c1] at hD
    have hM := hMs _ (dk_find68 (x := -100001)) dk_find67
    unfold f_M_absent f_M_isPerson at hM
    rw [dk_find68, if_pos c1] at hM
    exact dk_finds _ I hD hM
  rw [if_neg c1] at hD
  by_cases c2 : f_M_isDay x2 = 0
  · rw [if_pos (show f_D_isDay x2 = 0 from c2)] at hD
    have hM := hMs _ (dk_find68 (x := -100001)) dk_find67
    unfold f_M_absent f_M_isPerson at hM
    rw [dk_find68, if_neg c1, if_pos c2] at hM
    exact dk_finds _ I hD hM
  rw [if_neg (show ¬ f_D_isDay x2 = 0 from c2)] at hD
  have hany : hd_any (fun a => decide (M 28 a = x1 ∧ M 29 a = x2)) n = hd_any (fun a => decide (M 68 (369 + a) = x1 ∧ M 68 (399 + a) = x2)) n := hd_any_congr (fun a ha => by
    rw [dk_rd I (c := 28) (b := 369 + a) (by simp) (show a < 30 by omega) rfl (dk_lv_a (by omega) (by omega) (by simp)), dk_rd I (c := 29) (b := 399 + a) (by simp) (show a < 30 by omega) rfl (dk_lv_a (by omega) (by omega) (by simp))])
  unfold f_Ab_isAbsent at hD
  rw [cl1, hany] at hD
  by_cases c3 : hd_any (fun a => decide (M 68 (369 + a) = x1 ∧ M 68 (399 + a) = x2)) n = true
  · rw [if_pos c3, if_neg (by decide)] at hD
    have hM := hMs _ (dk_find68 (x := -100003)) dk_find67
    unfold f_M_absent f_M_isPerson at hM
    rw [dk_find68, if_neg c1, if_neg c2, cl2, if_pos c3] at hM
    exact dk_finds _ I hD hM
  rw [if_neg c3, if_pos rfl] at hD
  by_cases c4 : n = 30
  · rw [if_neg (by rw [e1, c4]; decide)] at hD
    have hM := hMs _ (dk_find68 (x := -100005)) dk_find67
    unfold f_M_absent f_M_isPerson at hM
    rw [dk_find68, if_neg c1, if_neg c2, cl2, if_neg c3, if_pos (by rw [e2, c4]; rfl)] at hM
    exact dk_finds _ I hD hM
  have hn8 : n < 30 := by omega
  rw [if_pos (by rw [e1]; exact (nI_ltI (b := 30) (by omega) (by omega)).mpr hn8)] at hD
  obtain ⟨t0, t00, tX⟩ := dk_dv_addA (a := x1) (b := x2) hn8 e1
  rw [t00] at hD
  obtain ⟨t1, t2⟩ := dk_kept2 (w := 9) (ix := nI n) (was := 0) I tX
  have hM := hMs _ t1 t2
  have K68 := dk_k68 I t1 t2
  unfold f_M_absent f_M_isPerson at hM
  rw [t1, if_neg c1, if_neg c2, cl2, if_neg c3, e2, if_neg (by intro q; exact c4 ((nI_eq (by omega) (by omega)).mp q)), show (369 + nI n).toNatClampNeg = 369 + n from dk_ix (a := 369) (b := n) (by omega), show (399 + nI n).toNatClampNeg = 399 + n from dk_ix (a := 399) (b := n) (by omega), show (429 + nI n).toNatClampNeg = 429 + n from dk_ix (a := 429) (b := n) (by omega)] at hM
  dsimp only at hM
  refine ⟨_, _, _, hD, hM, ?_⟩
  obtain ⟨kp, nx, a1, a2, a3, a4, a5⟩ := dk_inv_n I
  have I2 := I
  obtain ⟨h1, h2, -⟩ := I2
  have hv3 : hd_dv M 3 = nI n := by rw [hd_dv_3]; exact e1
  have eM : (hd_set (hd_set (hd_set (hd_set (f_M_keep (f_D_keep (f_Ab_add M x1 x2).2 9 (nI n) 0).2) 68 (369 + n) x1) 68 (399 + n) x2) 68 (429 + n) (-1)) 68 3 (((hd_set (hd_set (hd_set (f_M_keep (f_D_keep (f_Ab_add M x1 x2).2 9 (nI n) 0).2) 68 (369 + n) x1) 68 (399 + n) x2) 68 (429 + n) (-1)) 68 3) + 1)) 68 = dk_addA (M 68) x1 x2 (-1) := by
    rw [dk_nfA hn8 e2]
    simp only [hd_set_eq, K68]
    rw [pk_un (by omega), pk_un (by omega), pk_un (by omega), e2, nI_1]
  obtain ⟨p, hp, hp8, rfl⟩ := dk_pthere I c1
  have hx : hd_in (nI p) 8 ∧ hd_in x2 365 ∧ ((-1 : Int32) = -1 ∨ hd_in (-1) 365) := ⟨hd_in_nI hp8 (by omega), (dk_within (a := 0) (b := 364) (by omega) (by omega) c2).1, Or.inl rfl⟩
  refine dk_actK (X := (f_Ab_add M (nI p) x2).2) (w := 9) (ix := nI n) (was := 0) I a2 a1 a5 a4 tX ?_ ?_ ?_ ?_ ?_
  · intro z hz
    rw [hd_set_ne hz, hd_set_ne hz, hd_set_ne hz, hd_set_ne hz]
  · rw [eM]; exact dk_wf_addA h1 hn8 e2 hx
  · rw [eM, t0]; exact dk_live_addA h2 hn8 hv3
  · rw [t0]
    unfold dk_tb
    dsimp only
    rw [if_neg (by decide), if_neg (by decide), if_neg (by decide), if_neg (by decide), if_neg (by decide), if_neg (by decide), if_neg (by decide), if_neg (by decide), if_neg (by decide), if_pos rfl]
    exact dk_backA hn8 hv3
  · rw [t0]
    unfold dk_ok
    simp
    refine ⟨n, ?_, hn8, rfl⟩
    rw [dk_nfA hn8 hv3, dk_na, pk_us, nI_clamp (by omega)]
    omega
