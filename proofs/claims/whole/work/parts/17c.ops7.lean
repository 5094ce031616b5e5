/-! counted, countedOn, left -/
theorem dk_cs_live {V W : Nat → Int32} (h : dk_live V W) (hw : dk_wf V) (p : Nat) (k : Int32) (s d : Nat) : dk_cs V p k s d (dk_ne V) = dk_cs W p k s d (dk_ne W) := by
  have h60 := (dk_wf_n hw).2.2.2.2.2.1
  rw [← (dk_live_n h).2.2.1]
  apply dk_sm_congr
  intro e he
  rw [h _ (dk_lv_e he (by omega) (j := 69) (by simp)), h _ (dk_lv_e he (by omega) (j := 129) (by simp)), h _ (dk_lv_e he (by omega) (j := 189) (by simp)), h _ (dk_lv_e he (by omega) (j := 249) (by simp)), h _ (dk_lv_e he (by omega) (j := 309) (by simp))]
theorem dk_gd_live {V W : Nat → Int32} (h : dk_live V W) (hw : dk_wf V) {p : Nat} (hp : p < dk_np V) (k : Int32) (d : Nat) : dk_gd V p k d = dk_gd W p k d := by
  have h8 := (dk_wf_n hw).2.1
  unfold dk_gd dk_lim
  rw [dk_cs_live h hw, dk_cs_live h hw, dk_cs_live h hw, dk_live_cnt h 4 (by omega), dk_live_cnt h 5 (by omega), h _ (dk_lv_p hp (by omega) (j := 6) (by simp))]
theorem dk_ct_live {V W : Nat → Int32} (h : dk_live V W) (hw : dk_wf V) {p : Nat} (hp : p < dk_np V) (k : Int32) (b : Nat) : dk_ct V p k b = dk_ct W p k b := by
  apply dk_sm_congr
  intro d _
  rw [dk_gd_live h hw hp k d]
theorem dk_dq_of {pw : dk_PW} {xs : Nat → Int32} {M : hd_Mem} (I : dk_inv pw xs M) : dk_dq M := ⟨dk_wf_live (dk_live_symm I.2.1) I.1, I.2.2.2.2.2.1, I.2.2.2.2.2.2.2.2.2.1⟩
theorem dk_dlim {Ls : Nat} {M : hd_Mem} (h : dk_dq M) {p : Nat} (hp : p < dk_np (hd_dv M)) : hd_Rt Ls Pe_dayLimit [.ref 1, .int (nI p)] M (some (.int (nI (dk_lim (hd_dv M) p)))) M := by
  have h8 := (dk_wf_n h.1).2.1
  have e8 : M 8 p = hd_dv M (6 + p) := (hd_dvA 8 (by simp) (show p < 8 by omega)).symm
  obtain ⟨z, hz, ez⟩ := hd_in_of (h.1.2.2.2.2.2.2.1 p hp).1 (by omega)
  have G : g_Pe_dayLimit Ls M (nI p) := by
    refine ⟨hd_okR_n rfl (show p < 8 by omega) (by omega), ?_⟩
    rw [nI_clamp (by omega), e8, ez]
    exact hd_okR_n rfl hz (by omega)
  have hs := s_Pe_dayLimit G
  have : f_Pe_dayLimit M (nI p) = nI (dk_lim (hd_dv M) p) := by
    unfold f_Pe_dayLimit dk_lim
    rw [nI_clamp (show p < 2 ^ 31 by omega), e8, ez, h.2.2, nI_clamp (show z < 2 ^ 31 by omega)]
    rcases (show z = 0 ∨ z = 1 ∨ z = 2 ∨ z = 3 by omega) with rfl | rfl | rfl | rfl <;> decide +kernel
  rw [this] at hs
  exact hs
theorem dk_cbh_b {M : hd_Mem} {p b : Nat} {k : Int32} (hb : b ≤ 365) : dk_sm (dk_cbh M p 0 (nI b - 1) k) 365 = dk_ct (hd_dv M) p k b := by
  apply dk_sm_congr
  intro j hj
  unfold dk_cbh
  by_cases q : j < b
  · rw [if_pos q, if_pos ⟨nI_pos (by omega), (dk_ltb hb hj).mpr q⟩]
  · rw [if_neg q, if_neg (fun z => q ((dk_ltb hb hj).mp z.2))]
theorem dk_cbh_d {M : hd_Mem} {p d : Nat} {k : Int32} (hd : d < 365) : dk_sm (dk_cbh M p (nI d) (nI d) k) 365 = dk_gd (hd_dv M) p k d := by
  rw [← dk_sm_pt (d := d) (c := dk_gd (hd_dv M) p k d) 365 hd]
  apply dk_sm_congr
  intro j hj
  unfold dk_cbh
  by_cases q : j = d
  · subst q
    rw [if_pos rfl, if_pos ⟨fun z => Int32.lt_irrefl z, fun z => Int32.lt_irrefl z⟩]
  · rw [if_neg q, if_neg]
    rintro ⟨z1, z2⟩
    rw [nI_ltI (by omega) (by omega)] at z1 z2
    omega
theorem dk_dmin {Ls : Nat} {M : hd_Mem} (h : dk_dq M) {p b : Nat} (hp : p < dk_np (hd_dv M)) (hb : b ≤ 365) (k : Int32) : hd_Rt Ls D_minutesUpTo [.ref 0, .int (nI p), .int (nI b - 1), .int k] M (some (.int (nI (dk_ct (hd_dv M) p k b)))) M := by
  have hc := dk_cbw (Ls := Ls) h p 0 (nI b - 1) k
  rw [dk_cbh_b hb] at hc
  exact e_D_minutesUpTo (b_D_minutesUpTo_0 (dk_dlim h hp) (b_D_minutesUpTo_16 hc (b_D_minutesUpTo_19 ⟨rfl, rfl⟩)))
theorem dk_read73 {pw : dk_PW} {xs : Nat → Int32} {Ls yD yM : Nat} {as : List Value} {M : hd_Mem} {r : Int32} (I : dk_inv pw xs M) (hD : hd_Rt Ls yD (.ref 0 :: as) M (some (.int r)) M) (hM : ∃ M2, (∀ c, c ≠ 73 → M2 c = M c) ∧ hd_Rt Ls yM (.ref 67 :: as) M (some (.int r)) M2) : dk_same pw xs Ls yD yM as M := by
  obtain ⟨M2, h1, h2⟩ := hM
  exact ⟨r, M, M2, hD, h2, dk_scr I (fun c _ hc => h1 c (by rintro rfl; simp at hc)) (fun j _ _ => by rw [h1 67 (by decide)])⟩
theorem dk_ask {pw : dk_PW} {xs : Nat → Int32} {M : hd_Mem} (I : dk_inv pw xs M) {x1 x2 x3 : Int32} (c1 : ¬ f_M_within x1 0 (M 68 0 - 1) = 0) (c2 : ¬ f_M_isDay x2 = 0) (c3 : ¬ f_M_isDay x3 = 0) : ∃ p d, p < dk_np (M 68) ∧ p < 8 ∧ d < 365 ∧ x1 = nI p ∧ x2 = nI d ∧ p < dk_np (hd_dv M) := by
  obtain ⟨p, hp, hp8, rfl⟩ := dk_pthere I c1
  obtain ⟨d, hd, rfl⟩ := hd_in_of (dk_within (a := 0) (b := 364) (by omega) (by omega) c2).1 (by omega)
  exact ⟨p, d, hp, hp8, hd, rfl, rfl, by rw [(dk_live_n I.2.1).1]; exact hp⟩
/-- three asks of one shape: (person, day, known) -/
theorem dk_same_counted {pw : dk_PW} {xs : Nat → Int32} {Ls : Nat} {M : hd_Mem} (I : dk_inv pw xs M) (x1 x2 x3 : Int32) : dk_same pw xs Ls D_counted M_counted [.int x1, .int x2, .int x3] M := by
  have hP := dk_pers I x1
  by_cases c1 : f_M_within x1 0 (M 68 0 - 1) = 0
  · refine dk_finds (-100001) I (e_D_counted (b_D_counted_0 s_Pe_has (b_D_counted_8 (fun _ => b_D_counted_25 s_D_finding (b_D_counted_31 ⟨rfl, rfl⟩)) (fun z => absurd (hP.trans c1) z)))) (e_M_counted (b_M_counted_0 s_M_canAsk (b_M_counted_7 (fun _ => b_M_counted_20 s_M_finding (b_M_counted_26 ⟨rfl, rfl⟩)) (fun z => absurd ?_ z))))
    unfold f_M_canAsk f_M_isPerson
    rw [dk_find68, if_pos c1]
  have nP : ¬ f_Pe_has M x1 = 0 := fun q => c1 (hP.symm.trans q)
  by_cases c2 : f_M_isDay x2 = 0
  · refine dk_finds (-100001) I (e_D_counted (b_D_counted_0 s_Pe_has (b_D_counted_8 (fun z => absurd z nP) (fun _ => b_D_counted_11 s_D_isDay (b_D_counted_15 (fun _ => b_D_counted_25 s_D_finding (b_D_counted_31 ⟨rfl, rfl⟩)) (fun z => absurd c2 z)))))) (e_M_counted (b_M_counted_0 s_M_canAsk (b_M_counted_7 (fun _ => b_M_counted_20 s_M_finding (b_M_counted_26 ⟨rfl, rfl⟩)) (fun z => absurd ?_ z))))
    unfold f_M_canAsk f_M_isPerson
    rw [dk_find68, if_neg c1, if_pos c2]
  by_cases c3 : f_M_isDay x3 = 0
  · refine dk_finds (-100001) I (e_D_counted (b_D_counted_0 s_Pe_has (b_D_counted_8 (fun z => absurd z nP) (fun _ => b_D_counted_11 s_D_isDay (b_D_counted_15 (fun z => absurd z c2) (fun _ => b_D_counted_18 s_D_isDay (b_D_counted_22 (fun _ => b_D_counted_25 s_D_finding (b_D_counted_31 ⟨rfl, rfl⟩)) (fun z => absurd c3 z)))))))) (e_M_counted (b_M_counted_0 s_M_canAsk (b_M_counted_7 (fun _ => b_M_counted_20 s_M_finding (b_M_counted_26 ⟨rfl, rfl⟩)) (fun z => absurd ?_ z))))
    unfold f_M_canAsk f_M_isPerson
    rw [dk_find68, if_neg c1, if_neg c2, if_pos c3]
  obtain ⟨p, d, hp, hp8, hd, rfl, rfl, hpv⟩ := dk_ask I c1 c2 c3
  have hq := dk_dq_of I
  have hca : ¬ f_M_canAsk M (nI p) (nI d) x3 = 0 := by
    unfold f_M_canAsk f_M_isPerson
    rw [if_neg c1, if_neg c2, if_neg c3]
    decide
  have hD := dk_dmin (Ls := Ls) hq hpv (show d + 1 ≤ 365 by omega) x3
  obtain ⟨M2, g1, g2⟩ := dk_mct (Ls := Ls) I.1 hp8 (show d + 1 ≤ 365 by omega) x3
  rw [nI_pred] at hD g2
  rw [← dk_ct_live I.2.1 hq.1 hpv] at g2
  refine dk_read73 I (e_D_counted (b_D_counted_0 s_Pe_has (b_D_counted_8 (fun z => absurd z nP) (fun _ => b_D_counted_11 s_D_isDay (b_D_counted_15 (fun z => absurd z c2) (fun _ => b_D_counted_18 s_D_isDay (b_D_counted_22 (fun z => absurd z c3) (fun _ => b_D_counted_32 hD (b_D_counted_39 ⟨rfl, rfl⟩))))))))) ⟨M2, g1, ?_⟩
  exact e_M_counted (b_M_counted_0 s_M_canAsk (b_M_counted_7 (fun z => absurd z hca) (fun _ => b_M_counted_10 g2 (b_M_counted_17 ⟨rfl, rfl⟩))))
theorem dk_same_countedOn {pw : dk_PW} {xs : Nat → Int32} {Ls : Nat} {M : hd_Mem} (I : dk_inv pw xs M) (x1 x2 x3 : Int32) : dk_same pw xs Ls D_countedOn M_countedOn [.int x1, .int x2, .int x3] M := by
  have hP := dk_pers I x1
  by_cases c1 : f_M_within x1 0 (M 68 0 - 1) = 0
  · refine dk_finds (-100001) I (e_D_countedOn (b_D_countedOn_0 s_Pe_has (b_D_countedOn_8 (fun _ => b_D_countedOn_25 s_D_finding (b_D_countedOn_31 ⟨rfl, rfl⟩)) (fun z => absurd (hP.trans c1) z)))) (e_M_countedOn (b_M_countedOn_0 s_M_canAsk (b_M_countedOn_7 (fun _ => b_M_countedOn_20 s_M_finding (b_M_countedOn_26 ⟨rfl, rfl⟩)) (fun z => absurd ?_ z))))
    unfold f_M_canAsk f_M_isPerson
    rw [dk_find68, if_pos c1]
  have nP : ¬ f_Pe_has M x1 = 0 := fun q => c1 (hP.symm.trans q)
  by_cases c2 : f_M_isDay x2 = 0
  · refine dk_finds (-100001) I (e_D_countedOn (b_D_countedOn_0 s_Pe_has (b_D_countedOn_8 (fun z => absurd z nP) (fun _ => b_D_countedOn_11 s_D_isDay (b_D_countedOn_15 (fun _ => b_D_countedOn_25 s_D_finding (b_D_countedOn_31 ⟨rfl, rfl⟩)) (fun z => absurd c2 z)))))) (e_M_countedOn (b_M_countedOn_0 s_M_canAsk (b_M_countedOn_7 (fun _ => b_M_countedOn_20 s_M_finding (b_M_countedOn_26 ⟨rfl, rfl⟩)) (fun z => absurd ?_ z))))
    unfold f_M_canAsk f_M_isPerson
    rw [dk_find68, if_neg c1, if_pos c2]
  by_cases c3 : f_M_isDay x3 = 0
  · refine dk_finds (-100001) I (e_D_countedOn (b_D_countedOn_0 s_Pe_has (b_D_countedOn_8 (fun z => absurd z nP) (fun _ => b_D_countedOn_11 s_D_isDay (b_D_countedOn_15 (fun z => absurd z c2) (fun _ => b_D_countedOn_18 s_D_isDay (b_D_countedOn_22 (fun _ => b_D_countedOn_25 s_D_finding (b_D_countedOn_31 ⟨rfl, rfl⟩)) (fun z => absurd c3 z)))))))) (e_M_countedOn (b_M_countedOn_0 s_M_canAsk (b_M_countedOn_7 (fun _ => b_M_countedOn_20 s_M_finding (b_M_countedOn_26 ⟨rfl, rfl⟩)) (fun z => absurd ?_ z))))
    unfold f_M_canAsk f_M_isPerson
    rw [dk_find68, if_neg c1, if_neg c2, if_pos c3]
  obtain ⟨p, d, hp, hp8, hd, rfl, rfl, hpv⟩ := dk_ask I c1 c2 c3
  have hq := dk_dq_of I
  have hca : ¬ f_M_canAsk M (nI p) (nI d) x3 = 0 := by
    unfold f_M_canAsk f_M_isPerson
    rw [if_neg c1, if_neg c2, if_neg c3]
    decide
  have hc := dk_cbw (Ls := Ls) hq p (nI d) (nI d) x3
  rw [dk_cbh_d hd] at hc
  obtain ⟨M2, g1, g2⟩ := dk_mon (Ls := Ls) (d := d) I.1 hp8 x3
  rw [← dk_gd_live I.2.1 hq.1 hpv] at g2
  refine dk_read73 I (e_D_countedOn (b_D_countedOn_0 s_Pe_has (b_D_countedOn_8 (fun z => absurd z nP) (fun _ => b_D_countedOn_11 s_D_isDay (b_D_countedOn_15 (fun z => absurd z c2) (fun _ => b_D_countedOn_18 s_D_isDay (b_D_countedOn_22 (fun z => absurd z c3) (fun _ => b_D_countedOn_32 (dk_dlim hq hpv) (b_D_countedOn_48 hc (b_D_countedOn_51 ⟨rfl, rfl⟩)))))))))) ⟨M2, g1, ?_⟩
  exact e_M_countedOn (b_M_countedOn_0 s_M_canAsk (b_M_countedOn_7 (fun z => absurd z hca) (fun _ => b_M_countedOn_10 g2 (b_M_countedOn_17 ⟨rfl, rfl⟩))))
/-- what is owed, in minutes -/
def dk_o60 (V : Nat → Int32) (p : Nat) : Nat := 60 * (V (14 + p)).toNatClampNeg
theorem dk_o60_of {V : Nat → Int32} (h : dk_wf V) {p : Nat} (hp : p < dk_np V) : 60 * V (14 + p) = nI (dk_o60 V p) ∧ 60 ≤ dk_o60 V p ∧ dk_o60 V p ≤ 18000 := by
  obtain ⟨-, h1, h2, -⟩ := h.2.2.2.2.2.2.1 p hp
  obtain ⟨z, hz, ez⟩ := hd_in_of h1 (by omega)
  unfold dk_o60
  rw [ez, nI_clamp (by omega), show (60 : Int32) = nI 60 from rfl, pk_mul]
  have : z ≠ 0 := by rintro rfl; exact h2 ez
  exact ⟨rfl, by omega, by omega⟩
theorem dk_o60_live {V W : Nat → Int32} (h : dk_live V W) (hw : dk_wf V) {p : Nat} (hp : p < dk_np V) : dk_o60 V p = dk_o60 W p := by
  have h8 := (dk_wf_n hw).2.1
  unfold dk_o60
  rw [h _ (dk_lv_p hp (by omega) (j := 14) (by simp))]
theorem dk_dow {Ls : Nat} {M : hd_Mem} (h : dk_dq M) {p : Nat} (hp : p < dk_np (hd_dv M)) : hd_Rt Ls Pe_owedMinutes [.ref 1, .int (nI p)] M (some (.int (nI (dk_o60 (hd_dv M) p)))) M := by
  have h8 := (dk_wf_n h.1).2.1
  have hs := s_Pe_owedMinutes (Ls := Ls) (M := M) (x1 := nI p) (hd_okR_n rfl (show p < 8 by omega) (by omega))
  unfold f_Pe_owedMinutes at hs
  have e9 : M 9 p = hd_dv M (14 + p) := (hd_dvA 9 (by simp) (show p < 8 by omega)).symm
  rw [nI_clamp (show p < 2 ^ 31 by omega), e9, (dk_o60_of h.1 hp).1] at hs
  exact hs
theorem dk_mx {a b : Nat} (ha : a < 2 ^ 30) (hb : b < 2 ^ 30) : (if 0 < nI a - nI b then nI a - nI b else (0 : Int32)) = nI (a - b) := by
  by_cases h : b < a
  · have e : nI a - nI b = nI (a - b) := by
      apply Int32.toInt_inj.mp
      rw [pk_sub_toInt ha hb, nI_toInt (by omega)]
      omega
    rw [e, if_pos (show (0 : Int32) < nI (a - b) from (nI_ltI (a := 0) (b := a - b) (by omega) (by omega)).mpr (by omega))]
  · have e : ¬ 0 < nI a - nI b := by
      rw [Int32.lt_iff_toInt_lt, pk_sub_toInt ha hb]
      have : (0 : Int32).toInt = 0 := rfl
      omega
    rw [if_neg e, show a - b = 0 by omega]
    rfl
theorem dk_mleft {Ls : Nat} {M : hd_Mem} (h : dk_wf (M 68)) {p b : Nat} (hp : p < dk_np (M 68)) (hb : b ≤ 365) (k : Int32) : ∃ M2, (∀ c, c ≠ 73 → M2 c = M c) ∧ hd_Rt Ls M_leftOf [.ref 67, .int (nI p), .int (nI b - 1), .int k] M (some (.int (nI (dk_o60 (M 68) p - dk_ct (M 68) p k b)))) M2 := by
  have h8 := (dk_wf_n h).2.1
  obtain ⟨M2, g1, g2⟩ := dk_mct (Ls := Ls) h (show p < 8 by omega) hb k
  refine ⟨M2, g1, e_M_leftOf (b_M_leftOf_0 (dk_okR68 (q := 14) (by omega)) g2 (b_M_leftOf_20 ⟨?_, rfl⟩))⟩
  have hc := dk_ct_le (M 68) p k b
  rw [show (14 + nI p).toNatClampNeg = 14 + p from dk_ix (a := 14) (by omega), (dk_o60_of h hp).1, dk_mx (by have := (dk_o60_of h hp).2.2; omega) (by omega)]
theorem dk_same_left {pw : dk_PW} {xs : Nat → Int32} {Ls : Nat} {M : hd_Mem} (I : dk_inv pw xs M) (x1 x2 x3 : Int32) : dk_same pw xs Ls D_left M_left [.int x1, .int x2, .int x3] M := by
  have hP := dk_pers I x1
  by_cases c1 : f_M_within x1 0 (M 68 0 - 1) = 0
  · refine dk_finds (-100001) I (e_D_left (b_D_left_0 s_Pe_has (b_D_left_8 (fun _ => b_D_left_25 s_D_finding (b_D_left_31 ⟨rfl, rfl⟩)) (fun z => absurd (hP.trans c1) z)))) (e_M_left (b_M_left_0 s_M_canAsk (b_M_left_7 (fun _ => b_M_left_20 s_M_finding (b_M_left_26 ⟨rfl, rfl⟩)) (fun z => absurd ?_ z))))
    unfold f_M_canAsk f_M_isPerson
    rw [dk_find68, if_pos c1]
  have nP : ¬ f_Pe_has M x1 = 0 := fun q => c1 (hP.symm.trans q)
  by_cases c2 : f_M_isDay x2 = 0
  · refine dk_finds (-100001) I (e_D_left (b_D_left_0 s_Pe_has (b_D_left_8 (fun z => absurd z nP) (fun _ => b_D_left_11 s_D_isDay (b_D_left_15 (fun _ => b_D_left_25 s_D_finding (b_D_left_31 ⟨rfl, rfl⟩)) (fun z => absurd c2 z)))))) (e_M_left (b_M_left_0 s_M_canAsk (b_M_left_7 (fun _ => b_M_left_20 s_M_finding (b_M_left_26 ⟨rfl, rfl⟩)) (fun z => absurd ?_ z))))
    unfold f_M_canAsk f_M_isPerson
    rw [dk_find68, if_neg c1, if_pos c2]
  by_cases c3 : f_M_isDay x3 = 0
  · refine dk_finds (-100001) I (e_D_left (b_D_left_0 s_Pe_has (b_D_left_8 (fun z => absurd z nP) (fun _ => b_D_left_11 s_D_isDay (b_D_left_15 (fun z => absurd z c2) (fun _ => b_D_left_18 s_D_isDay (b_D_left_22 (fun _ => b_D_left_25 s_D_finding (b_D_left_31 ⟨rfl, rfl⟩)) (fun z => absurd c3 z)))))))) (e_M_left (b_M_left_0 s_M_canAsk (b_M_left_7 (fun _ => b_M_left_20 s_M_finding (b_M_left_26 ⟨rfl, rfl⟩)) (fun z => absurd ?_ z))))
    unfold f_M_canAsk f_M_isPerson
    rw [dk_find68, if_neg c1, if_neg c2, if_pos c3]
  obtain ⟨p, d, hp, hp8, hd, rfl, rfl, hpv⟩ := dk_ask I c1 c2 c3
  have hq := dk_dq_of I
  have hca : ¬ f_M_canAsk M (nI p) (nI d) x3 = 0 := by
    unfold f_M_canAsk f_M_isPerson
    rw [if_neg c1, if_neg c2, if_neg c3]
    decide
  have hD := dk_dmin (Ls := Ls) hq hpv (show d + 1 ≤ 365 by omega) x3
  obtain ⟨M2, g1, g2⟩ := dk_mleft (Ls := Ls) I.1 hp (show d + 1 ≤ 365 by omega) x3
  rw [nI_pred] at hD g2
  rw [← dk_ct_live I.2.1 hq.1 hpv, ← dk_o60_live I.2.1 hq.1 hpv] at g2
  refine dk_read73 I (e_D_left (b_D_left_0 s_Pe_has (b_D_left_8 (fun z => absurd z nP) (fun _ => b_D_left_11 s_D_isDay (b_D_left_15 (fun z => absurd z c2) (fun _ => b_D_left_18 s_D_isDay (b_D_left_22 (fun z => absurd z c3) (fun _ => b_D_left_32 (dk_dow hq hpv) (b_D_left_41 hD (b_D_left_48 ⟨?_, rfl⟩)))))))))) ⟨M2, g1, e_M_left (b_M_left_0 s_M_canAsk (b_M_left_7 (fun z => absurd z hca) (fun _ => b_M_left_10 g2 (b_M_left_17 ⟨rfl, rfl⟩))))⟩
  have hc := dk_ct_le (hd_dv M) p x3 (d + 1)
  rw [dk_mx (by have := (dk_o60_of hq.1 hpv).2.2; omega) (by omega)]
