/-! entry, strike, rule -/
theorem dk_enter {K : hd_Mem} {n : Nat} {a b c d e : Int32} (hn : n < 60) (hK : K 68 2 = nI n) : (f_M_enter K a b c d e) 68 = dk_ent (K 68) a b c d e ∧ (∀ z, z ≠ 68 → (f_M_enter K a b c d e) z = K z) ∧ (f_M_enter K a b c d e) 68 2 = nI (n + 1) := by
  have h1 : (f_M_enter K a b c d e) 68 = dk_ent (K 68) a b c d e := by
    rw [dk_nfE hn hK]
    unfold f_M_enter
    simp only [hd_set_eq, hK]
    rw [show (69 + nI n).toNatClampNeg = 69 + n from dk_ix (a := 69) (b := n) (by omega), show (129 + nI n).toNatClampNeg = 129 + n from dk_ix (a := 129) (b := n) (by omega), show (189 + nI n).toNatClampNeg = 189 + n from dk_ix (a := 189) (b := n) (by omega), show (249 + nI n).toNatClampNeg = 249 + n from dk_ix (a := 249) (b := n) (by omega), show (309 + nI n).toNatClampNeg = 309 + n from dk_ix (a := 309) (b := n) (by omega)]
    rw [pk_un (by omega), pk_un (by omega), pk_un (by omega), pk_un (by omega), pk_un (by omega), hK, nI_1]
  refine ⟨h1, fun z hz => ?_, ?_⟩
  · unfold f_M_enter
    rw [hd_set_ne hz, hd_set_ne hz, hd_set_ne hz, hd_set_ne hz, hd_set_ne hz, hd_set_ne hz]
  · rw [h1, dk_nfE hn hK, pk_us]
theorem dk_genter {Ls : Nat} {K : hd_Mem} {n : Nat} {a b c d e : Int32} (hn : n < 60) (hK : K 68 2 = nI n) : g_M_enter Ls K a b c d e := by
  unfold g_M_enter
  rw [hK, show (69 : Int32) + nI n = nI 69 + nI n from rfl, nI_add, show (129 : Int32) + nI n = nI 129 + nI n from rfl, nI_add, show (189 : Int32) + nI n = nI 189 + nI n from rfl, nI_add, show (249 : Int32) + nI n = nI 249 + nI n from rfl, nI_add, show (309 : Int32) + nI n = nI 309 + nI n from rfl, nI_add]
  exact ⟨hd_okW_n (by decide) rfl (show 69 + n < 459 by omega) (by omega), hd_okW_n (by decide) rfl (show 129 + n < 459 by omega) (by omega), hd_okW_n (by decide) rfl (show 189 + n < 459 by omega) (by omega), hd_okW_n (by decide) rfl (show 249 + n < 459 by omega) (by omega), hd_okW_n (by decide) rfl (show 309 + n < 459 by omega) (by omega)⟩
theorem dk_same_entry {pw : dk_PW} {xs : Nat → Int32} {Ls : Nat} {M : hd_Mem} (I : dk_inv pw xs M) (x1 x2 x3 x4 x5 : Int32) : dk_same pw xs Ls D_entry M_entry [.int x1, .int x2, .int x3, .int x4, .int x5] M := by
  obtain ⟨n, hn, e1, e2, e3, e4⟩ := dk_ne_of I
  have hP := dk_pers I x1
  have GM : ∀ M' : hd_Mem, M' 68 = M 68 → M' 67 = M 67 → g_M_entry Ls M' x1 x2 x3 x4 x5 := by
    intro M' q8 q7 _ _ _ _ _ _ q
    rw [q8, e2] at q
    have hn8 : n ≠ 60 := by rintro rfl; exact q rfl
    exact ⟨dk_gM I q7, dk_genter (n := n) (by omega) (by rw [dk_k68 I q8 q7]; exact e2)⟩
  have GD : g_D_entry Ls M x1 x2 x3 x4 x5 := by
    intro _ _ _ _ _ _ q
    rw [e1] at q
    have hn8 : n < 60 := (nI_ltI (b := 60) (by omega) (by omega)).mp q
    refine ⟨?_, ?_⟩
    · unfold g_En_add
      rw [e1]
      exact ⟨hd_okW_n (by decide) rfl hn8 (by omega), hd_okW_n (by decide) rfl hn8 (by omega), hd_okW_n (by decide) rfl hn8 (by omega), hd_okW_n (by decide) rfl hn8 (by omega), hd_okW_n (by decide) rfl hn8 (by omega)⟩
    · exact dk_gkeepD (by rw [(dk_dv_addE hn8 e1).2.2 6 (by simp)]; exact I.2.2.1.2.2.1)
  have hD := s_D_entry GD
  unfold f_D_entry at hD
  by_cases c1 : f_M_within x1 0 (M 68 0 - 1) = 0
  · rw [if_pos (show f_Pe_has M x1 = 0 from hP.trans c1)] at hD
    have hM := s_M_entry (GM _ (dk_find68 (x := -100001)) dk_find67)
    unfold f_M_entry f_M_isPerson at hM
    rw [dk_find68, if_pos c1] at hM
    exact dk_finds _ I hD hM
  rw [if_neg (show ¬ f_Pe_has M x1 = 0 from fun q => c1 (hP.symm.trans q))] at hD
  by_cases c2 : f_M_isDay x2 = 0
  · rw [if_pos (show f_D_isDay x2 = 0 from c2)] at hD
    have hM := s_M_entry (GM _ (dk_find68 (x := -100001)) dk_find67)
    unfold f_M_entry f_M_isPerson at hM
    rw [dk_find68, if_neg c1, if_pos c2] at hM
    exact dk_finds _ I hD hM
  rw [if_neg (show ¬ f_D_isDay x2 = 0 from c2)] at hD
  by_cases c3 : f_M_within x3 0 900 = 0
  · rw [if_pos (show f_D_within x3 0 900 = 0 from c3)] at hD
    have hM := s_M_entry (GM _ (dk_find68 (x := -100001)) dk_find67)
    unfold f_M_entry f_M_isPerson at hM
    rw [dk_find68, if_neg c1, if_neg c2, if_pos c3] at hM
    exact dk_finds _ I hD hM
  rw [if_neg (show ¬ f_D_within x3 0 900 = 0 from c3)] at hD
  by_cases c4 : f_M_within x4 0 2 = 0
  · rw [if_pos (show f_D_within x4 0 2 = 0 from c4)] at hD
    have hM := s_M_entry (GM _ (dk_find68 (x := -100001)) dk_find67)
    unfold f_M_entry f_M_isPerson at hM
    rw [dk_find68, if_neg c1, if_neg c2, if_neg c3, if_pos c4] at hM
    exact dk_finds _ I hD hM
  rw [if_neg (show ¬ f_D_within x4 0 2 = 0 from c4)] at hD
  by_cases c5 : f_M_isDay x5 = 0
  · rw [if_pos (show f_D_isDay x5 = 0 from c5)] at hD
    have hM := s_M_entry (GM _ (dk_find68 (x := -100001)) dk_find67)
    unfold f_M_entry f_M_isPerson at hM
    rw [dk_find68, if_neg c1, if_neg c2, if_neg c3, if_neg c4, if_pos c5] at hM
    exact dk_finds _ I hD hM
  rw [if_neg (show ¬ f_D_isDay x5 = 0 from c5)] at hD
  by_cases c6 : x2 ≤ x5
  · rw [if_pos c6] at hD
    by_cases c7 : n = 60
    · rw [if_neg (by rw [e1, c7]; decide)] at hD
      have hM := s_M_entry (GM _ (dk_find68 (x := -100005)) dk_find67)
      unfold f_M_entry f_M_isPerson at hM
      rw [dk_find68, if_neg c1, if_neg c2, if_neg c3, if_neg c4, if_neg c5, if_pos c6, if_pos (by rw [e2, c7]; rfl)] at hM
      exact dk_finds _ I hD hM
    have hn8 : n < 60 := by omega
    rw [if_pos (by rw [e1]; exact (nI_ltI (b := 60) (by omega) (by omega)).mpr hn8)] at hD
    obtain ⟨t0, t00, tX⟩ := dk_dv_addE (a := x1) (b := x2) (c := x3) (d := x4) (e := x5) hn8 e1
    rw [t00] at hD
    obtain ⟨t1, t2⟩ := dk_kept2 (w := 6) (ix := 0) (was := 1) I tX
    have hM := s_M_entry (GM _ t1 t2)
    unfold f_M_entry f_M_isPerson at hM
    have K68 := dk_k68 I t1 t2
    obtain ⟨n1, n2, n3⟩ := dk_enter (a := x1) (b := x2) (c := x3) (d := x4) (e := x5) hn8 (show f_M_keep (f_D_keep (f_En_add M x1 x2 x3 x4 x5).2 6 0 1).2 68 2 = nI n by rw [K68]; exact e2)
    rw [t1, if_neg c1, if_neg c2, if_neg c3, if_neg c4, if_neg c5, if_pos c6, e2, if_neg (by intro q; exact c7 ((nI_eq (by omega) (by omega)).mp q)), n3, nI_pred] at hM
    dsimp only at hM
    refine ⟨_, _, _, hD, hM, ?_⟩
    obtain ⟨kp, nx, a1, a2, a3, a4, a5⟩ := dk_inv_n I
    have I2 := I
    obtain ⟨h1, h2, -⟩ := I2
    obtain ⟨p, hp, hp8, rfl⟩ := dk_pthere I c1
    have hx : hd_in (nI p) 8 ∧ hd_in x2 365 ∧ hd_in x3 901 ∧ hd_in x4 3 ∧ hd_in x5 365 ∧ x2 ≤ x5 := ⟨hd_in_nI hp8 (by omega), (dk_within (a := 0) (b := 364) (by omega) (by omega) c2).1, (dk_within (a := 0) (b := 900) (by omega) (by omega) c3).1, (dk_within (a := 0) (b := 2) (by omega) (by omega) c4).1, (dk_within (a := 0) (b := 364) (by omega) (by omega) c5).1, c6⟩
    have hv2 : hd_dv M 2 = nI n := by rw [hd_dv_2]; exact e1
    refine dk_actK (X := (f_En_add M (nI p) x2 x3 x4 x5).2) (w := 6) (ix := 0) (was := 1) I a2 a1 a5 a4 tX ?_ ?_ ?_ ?_ ?_
    · intro z hz
      exact n2 z hz
    · rw [n1, K68]; exact dk_wf_addE h1 hn8 e2 hx
    · rw [n1, K68, t0]; exact dk_live_ent h2 hn8 hv2
    · rw [t0]
      have e9 : dk_ent (hd_dv M) (nI p) x2 x3 x4 x5 2 = nI (n + 1) := by rw [dk_nfE hn8 hv2, pk_us]
      have e8 : dk_tb (6, 0, 1, M (42 + nx)) (dk_ent (hd_dv M) (nI p) x2 x3 x4 x5) = upd (dk_ent (hd_dv M) (nI p) x2 x3 x4 x5) 2 (nI n) := by
        unfold dk_tb
        dsimp only
        rw [if_neg (by decide), if_neg (by decide), if_neg (by decide), if_neg (by decide), if_neg (by decide), if_neg (by decide), if_pos rfl, e9, nI_pred]
      rw [e8]
      exact dk_backE hn8 hv2
    · rw [t0]
      have e9 : dk_ent (hd_dv M) (nI p) x2 x3 x4 x5 2 = nI (n + 1) := by rw [dk_nfE hn8 hv2, pk_us]
      unfold dk_ok
      simp
      refine ⟨n, ?_, ?_⟩
      · rw [dk_ne, e9, nI_clamp (by omega)]
        omega
      · rw [e9, nI_pred]
  · rw [if_neg c6] at hD
    have hM := s_M_entry (GM _ (dk_find68 (x := -100003)) dk_find67)
    unfold f_M_entry f_M_isPerson at hM
    rw [dk_find68, if_neg c1, if_neg c2, if_neg c3, if_neg c4, if_neg c5, if_neg c6] at hM
    exact dk_finds _ I hD hM
theorem dk_tell {M : hd_Mem} {j k : Nat} (hk : 42 ≤ k) (hj : j < 2 ^ 31) : (∀ c, c ≠ k → f_En_tellRow M (nI j) k c = M c) ∧ f_En_tellRow M (nI j) k k 0 = M 19 j ∧ f_En_tellRow M (nI j) k k 1 = M 20 j ∧ f_En_tellRow M (nI j) k k 2 = M 21 j ∧ f_En_tellRow M (nI j) k k 3 = M 22 j ∧ f_En_tellRow M (nI j) k k 4 = M 23 j := by
  have a19 : 19 ≠ k := by omega
  have a20 : 20 ≠ k := by omega
  have a21 : 21 ≠ k := by omega
  have a22 : 22 ≠ k := by omega
  have a23 : 23 ≠ k := by omega
  unfold f_En_tellRow
  rw [nI_clamp hj]
  simp only [hd_set_nk a19, hd_set_nk a20, hd_set_nk a21, hd_set_nk a22, hd_set_nk a23]
  refine ⟨fun c hc => ?_, ?_, ?_, ?_, ?_, ?_⟩
  · rw [hd_set_ne hc, hd_set_ne hc, hd_set_ne hc, hd_set_ne hc, hd_set_ne hc]
  all_goals simp [hd_set]
theorem dk_entid {V : Nat → Int32} {m : Nat} (hm : m < 60) (hV : V 2 = nI (m + 1)) : dk_ent (upd V 2 (nI m)) (V (69 + m)) (V (129 + m)) (V (189 + m)) (V (249 + m)) (V (309 + m)) = V := by
  rw [dk_nfE hm pk_us]
  funext k
  simp only [upd]
  by_cases h2 : k = 2
  · subst h2; simp [hV]
  · simp only [h2, if_false]
    repeat' split
    all_goals first | rfl | (subst_vars; rfl)
theorem dk_same_strike {pw : dk_PW} {xs : Nat → Int32} {Ls : Nat} {M : hd_Mem} (I : dk_inv pw xs M) : dk_same pw xs Ls D_strike M_strike [] M := by
  obtain ⟨n, hn, e1, e2, e3, e4⟩ := dk_ne_of I
  obtain ⟨kp, nx, a1, a2, a3, a4, a5⟩ := dk_inv_n I
  obtain ⟨k1, k2, k3, k4, k5, k6, k7, k8⟩ := dk_keepD (M := M) (w := 7) (ix := 0) (was := 0) a1 a3 a4 a5
  have GM : ∀ M' : hd_Mem, M' 67 = M 67 → g_M_strike Ls M' := fun M' q7 _ => dk_gM I q7
  have GD : g_D_strike Ls M := by
    intro q
    rw [e1] at q
    have hn0 : 0 < n := (nI_ltI (a := 0) (by omega) (by omega)).mp q
    rw [k1, nI_clamp (show nx < 2 ^ 31 by omega), e1]
    have hw : ∀ j, j < 5 → hd_okW (42 + nx) (nI j) := fun j hj => hd_okW_n (n := 5) (by omega) (by
      have : ∀ z, z < 20 → hd_lay (42 + z) = .inr (.inl 5) := by decide +kernel
      exact this nx a4) hj (by omega)
    have hr : ∀ c, c = 19 ∨ c = 20 ∨ c = 21 ∨ c = 22 ∨ c = 23 → hd_okR Ls c (nI n - 1) := by
      intro c hc
      have : nI n - 1 = nI (n - 1) := by rw [show n = (n - 1) + 1 by omega, nI_pred]; rfl
      rw [this]
      rcases hc with rfl | rfl | rfl | rfl | rfl <;> exact hd_okR_n rfl (show n - 1 < 60 by omega) (by omega)
    exact ⟨dk_gkeepD I.2.2.1.2.2.1, hd_in_nI a4 (by omega), hr 19 (by simp), hw 0 (by omega), hr 20 (by simp), hw 1 (by omega), hr 21 (by simp), hw 2 (by omega), hr 22 (by simp), hw 3 (by omega), hr 23 (by simp), hw 4 (by omega)⟩
  have hD := s_D_strike GD
  unfold f_D_strike at hD
  by_cases c1 : n = 0
  · rw [if_neg (by rw [e1, c1]; decide)] at hD
    have hM := s_M_strike (GM _ (dk_find67 (x := -100006)))
    unfold f_M_strike at hM
    rw [dk_find68, if_pos (by rw [e2, c1]; rfl)] at hM
    exact dk_finds _ I hD hM
  obtain ⟨m, rfl⟩ : ∃ m, n = m + 1 := ⟨n - 1, by omega⟩
  rw [if_pos (by rw [e1]; exact (nI_ltI (a := 0) (by omega) (by omega)).mpr (by omega)), k1, nI_clamp (show nx < 2 ^ 31 by omega), e1, nI_pred] at hD
  obtain ⟨r0, r1, r2, r3, r4, r5⟩ := dk_tell (M := (f_D_keep M 7 0 0).2) (j := m) (k := 42 + nx) (by omega) (by omega)
  have c19 : (f_D_keep M 7 0 0).2 19 = M 19 := k4 19 (by decide) (by decide) (by decide) (by decide) (by decide)
  have c20 : (f_D_keep M 7 0 0).2 20 = M 20 := k4 20 (by decide) (by decide) (by decide) (by decide) (by decide)
  have c21 : (f_D_keep M 7 0 0).2 21 = M 21 := k4 21 (by decide) (by decide) (by decide) (by decide) (by decide)
  have c22 : (f_D_keep M 7 0 0).2 22 = M 22 := k4 22 (by decide) (by decide) (by decide) (by decide) (by decide)
  have c23 : (f_D_keep M 7 0 0).2 23 = M 23 := k4 23 (by decide) (by decide) (by decide) (by decide) (by decide)
  rw [c19] at r1
  rw [c20] at r2
  rw [c21] at r3
  rw [c22] at r4
  rw [c23] at r5
  generalize hT : f_En_tellRow (f_D_keep M 7 0 0).2 (nI m) (42 + nx) = T at hD r0 r1 r2 r3 r4 r5
  have hT0 : ∀ c, c ≠ 42 + nx → c ≠ 6 → c ≠ 7 → c ≠ 38 → c ≠ 39 → c ≠ 40 → T c = M c := fun c z1 z2 z3 z4 z5 z6 => by rw [r0 c z1, k4 c z2 z3 z4 z5 z6]
  have t8 : (hd_set T 3 5 (nI m)) 68 = M 68 := by rw [hd_set_ne (by decide), hT0 68 (by omega) (by decide) (by decide) (by decide) (by decide) (by decide)]
  have t7 : (hd_set T 3 5 (nI m)) 67 = M 67 := by rw [hd_set_ne (by decide), hT0 67 (by omega) (by decide) (by decide) (by decide) (by decide) (by decide)]
  have hM := s_M_strike (GM _ t7)
  unfold f_M_strike at hM
  have K68 := dk_k68 I t8 t7
  rw [t8, if_neg (by rw [e2]; exact nI_ne0 (by omega) (by omega)), K68, e2, nI_pred] at hM
  dsimp only at hM
  refine ⟨_, _, _, hD, hM, ?_⟩
  have I2 := I
  obtain ⟨h1, h2, -⟩ := I2
  have hv2 : hd_dv M 2 = nI (m + 1) := by rw [hd_dv_2]; exact e1
  have edT : hd_dv T = hd_dv M := hd_dv_out2 (fun c hc => hT0 c (by simp at hc; omega) (by simp at hc; omega) (by simp at hc; omega) (by simp at hc; omega) (by simp at hc; omega) (by simp at hc; omega))
  have edv : hd_dv (hd_set T 3 5 (nI m)) = upd (hd_dv M) 2 (nI m) := by rw [hd_dvC 3 5 (by simp), edT]; rfl
  have hsl : (hd_set T 3 5 (nI m)) 6 5 = nI ((nx + 1) % 20) := by rw [hd_set_nk (by decide), r0 6 (by omega)]; exact k3
  have hcl : ((hd_set T 3 5 (nI m)) 6 5).toNatClampNeg = (nx + 1) % 20 := by rw [hsl]; exact nI_clamp (by omega)
  have hac : ∀ i, i + 1 < 20 → dk_ac (hd_set T 3 5 (nI m)) (i + 1) = dk_ac M i := by
    intro i hi
    rw [← k8 i hi]
    unfold dk_ac
    rw [hcl, k3, nI_clamp (show (nx + 1) % 20 < 2 ^ 31 by omega), hd_set_ne (show 38 ≠ 3 by decide), hd_set_ne (show 39 ≠ 3 by decide), hd_set_ne (show 40 ≠ 3 by decide), hd_set_ne (show 42 + ((nx + 1) % 20 + 19 - (i + 1)) % 20 ≠ 3 by omega), r0 38 (by omega), r0 39 (by omega), r0 40 (by omega), r0 (42 + ((nx + 1) % 20 + 19 - (i + 1)) % 20) (by omega)]
  have hV : ∀ j, dk_lv (hd_dv M) j → hd_dv M j = M 68 j := h2
  refine dk_act (M1 := hd_set T 3 5 (nI m)) (a := (7, 0, 0, T (42 + nx))) I a2 a1 ?_ ?_ ?_ ?_ ?_ ?_ ?_ hac ?_ ?_ ?_ ?_ ?_
  · intro c hc
    rw [hd_set_ne (by omega), hT0 c (by omega) (by omega) (by omega) (by omega) (by omega) (by omega)]
  · intro c hc
    rw [hd_set_ne (by simp at hc; omega), hT0 c (by simp at hc; omega) (by simp at hc; omega) (by simp at hc; omega) (by simp at hc; omega) (by simp at hc; omega) (by simp at hc; omega)]
  · rw [hd_set_nk (by decide), hT0 0 (by omega) (by decide) (by decide) (by decide) (by decide) (by decide)]
  · rw [hd_set_nk (by decide), r0 7 (by omega)]; exact k5
  · rw [hd_set_nk (by decide), r0 6 (by omega)]; exact k2
  · rw [hsl]; exact hd_in_nI (Nat.mod_lt _ (by omega)) (by omega)
  · unfold dk_ac
    rw [hcl, show ((nx + 1) % 20 + 19 - 0) % 20 = nx by omega, hd_set_ne (show 38 ≠ 3 by decide), hd_set_ne (show 39 ≠ 3 by decide), hd_set_ne (show 40 ≠ 3 by decide), hd_set_ne (show 42 + nx ≠ 3 by omega), r0 38 (by omega), r0 39 (by omega), r0 40 (by omega)]
    unfold dk_ac at k7
    rw [k3, nI_clamp (show (nx + 1) % 20 < 2 ^ 31 by omega), show ((nx + 1) % 20 + 19 - 0) % 20 = nx by omega] at k7
    simp only [Prod.mk.injEq] at k7
    rw [k7.1, k7.2.1, k7.2.2.1]
  · intro c hc
    exact hd_set_ne hc
  · rw [hd_set_eq, K68]
    refine dk_wf_cnt h1 (by omega) ⟨fun z => absurd z (by omega), fun z => absurd z (by omega), fun _ => ⟨by omega, fun p z1 z2 => absurd z2 (by omega)⟩, fun z => absurd z (by omega)⟩ (fun z => absurd z (by omega))
  · rw [hd_set_eq, K68, edv]
    exact dk_live_dec h2 (by omega) (by rw [hv2, nI_clamp (by omega), nI_clamp (by omega)]; omega)
  · rw [edv]
    have g19 : hd_dv M (69 + m) = M 19 m := hd_dvA 19 (by simp) (show m < 60 by omega)
    have g20 : hd_dv M (129 + m) = M 20 m := hd_dvA 20 (by simp) (show m < 60 by omega)
    have g21 : hd_dv M (189 + m) = M 21 m := hd_dvA 21 (by simp) (show m < 60 by omega)
    have g22 : hd_dv M (249 + m) = M 22 m := hd_dvA 22 (by simp) (show m < 60 by omega)
    have g23 : hd_dv M (309 + m) = M 23 m := hd_dvA 23 (by simp) (show m < 60 by omega)
    have e8 : dk_tb (7, 0, 0, T (42 + nx)) (upd (hd_dv M) 2 (nI m)) = hd_dv M := by
      unfold dk_tb
      dsimp only
      rw [if_neg (by decide), if_neg (by decide), if_neg (by decide), if_neg (by decide), if_neg (by decide), if_neg (by decide), if_neg (by decide), if_pos rfl, r1, r2, r3, r4, r5, ← g19, ← g20, ← g21, ← g22, ← g23]
      exact dk_entid (by omega) hv2
    rw [e8]
    exact dk_live_rfl
  · rw [edv]
    unfold dk_ok
    simp
    exact ⟨m, by omega, pk_us⟩
