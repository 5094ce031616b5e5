/-! rule, undo -/
theorem dk_rule1 {pw : dk_PW} {xs : Nat → Int32} {M : hd_Mem} {j q : Nat} {ix x : Int32} (I : dk_inv pw xs M) (hj : (j = 6 ∧ q = 4 ∧ ix = 0) ∨ (j = 7 ∧ q = 5 ∧ ix = 1)) (hf : dk_fit q x) :
    M 3 j = M 68 q ∧ (f_D_keep (hd_set M 3 j x) 8 ix (M 3 j)).2 68 = M 68 ∧ (f_D_keep (hd_set M 3 j x) 8 ix (M 3 j)).2 67 = M 67 ∧ f_M_keep (f_D_keep (hd_set M 3 j x) 8 ix (M 3 j)).2 68 q = M 3 j ∧ dk_inv pw xs (hd_set (f_M_keep (f_D_keep (hd_set M 3 j x) 8 ix (M 3 j)).2) 68 q x) := by
  obtain ⟨kp, nx, a1, a2, a3, a4, a5⟩ := dk_inv_n I
  have I2 := I
  obtain ⟨h1, h2, -⟩ := I2
  have hX : ∀ c, c ∉ [1,2,3,4,8,9,10,11,12,13,14,15,16,17,18,19,20,21,22,23,28,29,30] → (hd_set M 3 j x) c = M c := fun c hc => hd_set_ne (by rintro rfl; simp at hc)
  obtain ⟨t1, t2⟩ := dk_kept2 (w := 8) (ix := ix) (was := M 3 j) I hX
  have K68 := dk_k68 I t1 t2
  have eq0 : hd_dv M q = M 3 j := by rcases hj with ⟨rfl, rfl, -⟩ | ⟨rfl, rfl, -⟩ <;> rfl
  have ew : M 3 j = M 68 q := by
    rw [← eq0]
    exact dk_live_cnt h2 q (by omega)
  have edv : hd_dv (hd_set M 3 j x) = upd (hd_dv M) q x := by
    rcases hj with ⟨rfl, rfl, -⟩ | ⟨rfl, rfl, -⟩
    · exact hd_dvC 3 6 (by simp)
    · exact hd_dvC 3 7 (by simp)
  refine ⟨ew, t1, t2, by rw [K68]; exact ew.symm, ?_⟩
  refine dk_actK (X := hd_set M 3 j x) (w := 8) (ix := ix) (was := M 3 j) I a2 a1 a5 a4 hX (fun z hz => hd_set_ne hz) ?_ ?_ ?_ ?_
  · rw [hd_set_eq, K68]; exact dk_wf_set h1 (by omega) hf
  · rw [hd_set_eq, K68, edv]; exact dk_live_upd h2 (by omega)
  · rw [edv]
    have e8 : dk_tb (8, ix, M 3 j, M (42 + nx)) (upd (hd_dv M) q x) = hd_dv M := by
      unfold dk_tb
      dsimp only
      rw [if_neg (by decide), if_neg (by decide), if_neg (by decide), if_neg (by decide), if_neg (by decide), if_neg (by decide), if_neg (by decide), if_neg (by decide), if_pos rfl]
      rcases hj with ⟨rfl, rfl, rfl⟩ | ⟨rfl, rfl, rfl⟩
      · rw [if_pos rfl, dk_upd2, dk_upd_id eq0]
      · rw [if_neg (by decide), dk_upd2, dk_upd_id eq0]
    rw [e8]
    exact dk_live_rfl
  · unfold dk_ok
    simp
theorem dk_same_rule {pw : dk_PW} {xs : Nat → Int32} {Ls : Nat} {M : hd_Mem} (I : dk_inv pw xs M) (x1 x2 : Int32) : dk_same pw xs Ls D_rule M_rule [.int x1, .int x2] M := by
  have GM : ∀ M' : hd_Mem, M' 68 = M 68 → M' 67 = M 67 → g_M_rule Ls M' x1 x2 := by
    intro M' q8 q7 q1
    have hx := (dk_within (a := 0) (b := 1) (by omega) (by omega) q1).1
    obtain ⟨p, hp, rfl⟩ := hd_in_of hx (by omega)
    rw [show (4 : Int32) + nI p = nI 4 + nI p from rfl, nI_add]
    have g1 : g_M_keep Ls M' ∧ (hd_okR Ls 68 (nI (4 + p)) ∧ hd_okW 68 (nI (4 + p))) := ⟨dk_gM I q7, hd_okR_n rfl (show 4 + p < 459 by omega) (by omega), hd_okW_n (by decide) rfl (show 4 + p < 459 by omega) (by omega)⟩
    exact ⟨fun _ _ => g1, fun _ _ => g1⟩
  have g65 : ∀ w ix was, g_D_keep Ls (f_D_setRule M x1 x2) w ix was := by
    intro w ix was
    refine dk_gkeepD ?_
    unfold f_D_setRule
    by_cases z : x1 = 0
    · rw [if_pos z, hd_set_nk (by decide)]; exact I.2.2.1.2.2.1
    · rw [if_neg z, hd_set_nk (by decide)]; exact I.2.2.1.2.2.1
  have GD : g_D_rule Ls M x1 x2 := fun _ => ⟨fun _ _ => ⟨fun _ => g65 _ _ _, fun _ => g65 _ _ _⟩, fun _ _ => ⟨fun _ => g65 _ _ _, fun _ => g65 _ _ _⟩⟩
  have hD := s_D_rule GD
  unfold f_D_rule f_D_setRule at hD
  by_cases c1 : f_M_within x1 0 1 = 0
  · rw [if_pos (show f_D_within x1 0 1 = 0 from c1)] at hD
    have hM := s_M_rule (GM _ (dk_find68 (x := -100001)) dk_find67)
    unfold f_M_rule at hM
    rw [if_pos c1] at hM
    exact dk_finds _ I hD hM
  rw [if_neg (show ¬ f_D_within x1 0 1 = 0 from c1)] at hD
  have hx := (dk_within (a := 0) (b := 1) (by omega) (by omega) c1).1
  obtain ⟨p, hp, rfl⟩ := hd_in_of hx (by omega)
  by_cases z : p = 0
  · subst z
    rw [if_pos (show nI 0 = 0 from rfl)] at hD
    by_cases c2 : f_M_within x2 0 300 = 0
    · rw [if_pos (show f_D_within x2 0 300 = 0 from c2)] at hD
      have hM := s_M_rule (GM _ (dk_find68 (x := -100001)) dk_find67)
      unfold f_M_rule at hM
      rw [if_neg c1, if_pos (show nI 0 = 0 from rfl), if_pos c2] at hM
      exact dk_finds _ I hD hM
    rw [if_neg (show ¬ f_D_within x2 0 300 = 0 from c2), if_pos (show nI 0 = 0 from rfl), if_pos (show nI 0 = 0 from rfl)] at hD
    have hw := (dk_within (a := 0) (b := 300) (by omega) (by omega) c2).1
    obtain ⟨u1, t1, t2, u2, u3⟩ := dk_rule1 (j := 6) (q := 4) (ix := nI 0) (x := x2) I (Or.inl ⟨rfl, rfl, rfl⟩) (by unfold dk_fit; refine ⟨fun _ => hw, ?_, ?_, ?_, ?_, ?_, ?_, ?_, ?_, ?_, ?_, ?_, ?_, ?_, ?_, ?_, ?_⟩ <;> omega)
    have hM := s_M_rule (GM _ t1 t2)
    unfold f_M_rule at hM
    rw [if_neg c1, if_pos (show nI 0 = 0 from rfl), if_neg c2, show (4 + nI 0).toNatClampNeg = 4 from rfl, u2] at hM
    exact ⟨_, _, _, hD, hM, u3⟩
  · obtain rfl : p = 1 := by omega
    rw [if_neg (show ¬ nI 1 = 0 by decide)] at hD
    by_cases c2 : f_M_within x2 0 100 = 0
    · rw [if_pos (show f_D_within x2 0 100 = 0 from c2)] at hD
      have hM := s_M_rule (GM _ (dk_find68 (x := -100001)) dk_find67)
      unfold f_M_rule at hM
      rw [if_neg c1, if_neg (show ¬ nI 1 = 0 by decide), if_pos c2] at hM
      exact dk_finds _ I hD hM
    rw [if_neg (show ¬ f_D_within x2 0 100 = 0 from c2), if_neg (show ¬ nI 1 = 0 by decide), if_neg (show ¬ nI 1 = 0 by decide)] at hD
    have hw := (dk_within (a := 0) (b := 100) (by omega) (by omega) c2).1
    obtain ⟨u1, t1, t2, u2, u3⟩ := dk_rule1 (j := 7) (q := 5) (ix := nI 1) (x := x2) I (Or.inr ⟨rfl, rfl, rfl⟩) (by unfold dk_fit; refine ⟨?_, fun _ => hw, ?_, ?_, ?_, ?_, ?_, ?_, ?_, ?_, ?_, ?_, ?_, ?_, ?_, ?_, ?_⟩ <;> omega)
    have hM := s_M_rule (GM _ t1 t2)
    unfold f_M_rule at hM
    rw [if_neg c1, if_neg (show ¬ nI 1 = 0 by decide), if_neg c2, show (4 + nI 1).toNatClampNeg = 5 from rfl, u2] at hM
    exact ⟨_, _, _, hD, hM, u3⟩
/-! undo -/
theorem dk_dv_bar {M : hd_Mem} {i j : Nat} {on : Int32} (hi : i < 8) (hj : j < 8) : hd_dv (f_Pe_setBarred M (nI i) (nI j) on) = dk_bar (hd_dv M) (nI i) (nI j) on ∧ ∀ c, c ≠ 13 → (f_Pe_setBarred M (nI i) (nI j) on) c = M c := by
  have ci : (nI i).toNatClampNeg = i := nI_clamp (by omega)
  have cj : (nI j).toNatClampNeg = j := nI_clamp (by omega)
  have gi : hd_dv M (46 + i) = M 13 i := hd_dvA 13 (by simp) (show i < 8 from hi)
  have s1 : ∀ x, hd_dv (hd_set M 13 i x) = upd (hd_dv M) (46 + i) x := fun x => hd_dvS 13 (by simp) (show i < 8 from hi)
  have gj : ∀ x, hd_dv (hd_set M 13 i x) (46 + j) = (hd_set M 13 i x) 13 j := fun x => hd_dvA 13 (by simp) (show j < 8 from hj)
  have s2 : ∀ x y, hd_dv (hd_set (hd_set M 13 i x) 13 j y) = upd (upd (hd_dv M) (46 + i) x) (46 + j) y := fun x y => by rw [hd_dvS 13 (by simp) (show j < 8 from hj), s1]; rfl
  unfold f_Pe_setBarred dk_bar
  rw [ci, cj, gi]
  split
  · refine ⟨?_, fun c hc => by rw [hd_set_ne hc, hd_set_ne hc]⟩
    rw [s2, ← s1, gj]
  · refine ⟨?_, fun c hc => by rw [hd_set_ne hc, hd_set_ne hc]⟩
    rw [s2, ← s1, gj]
/-- takeBack on the desk's cells is dk_tb on the state -/
theorem dk_take {M : hd_Mem} {z : Nat} (hz : z < 20) (ho : dk_ok (M 38 z, M 39 z, M 40 z, M (42 + z)) (hd_dv M)) : hd_dv (f_D_takeBack M (nI z)) = dk_tb (M 38 z, M 39 z, M 40 z, M (42 + z)) (hd_dv M) ∧ ∀ c, c ∉ [1,2,3,4,8,9,10,11,12,13,14,15,16,17,18,19,20,21,22,23,28,29,30] → (f_D_takeBack M (nI z)) c = M c := by
  obtain ⟨o0, o1, o2, o3, o4, o5, o6, o7, o9, o10⟩ := ho
  unfold f_D_takeBack dk_tb
  rw [nI_clamp (show z < 2 ^ 31 by omega)]
  dsimp only at o0 o1 o2 o3 o4 o5 o6 o7 o9 o10 ⊢
  have out : ∀ (c : Nat) (j : Nat) (x : Int32), c ∈ [1,2,3,4,8,9,10,11,12,13,14,15,16,17,18,19,20,21,22,23,28,29,30] → ∀ k, k ∉ [1,2,3,4,8,9,10,11,12,13,14,15,16,17,18,19,20,21,22,23,28,29,30] → (hd_set M c j x) k = M k := fun c j x hc k hk => hd_set_ne (by rintro rfl; exact hk hc)
  by_cases q : M 38 z = 0
  · simp only [if_pos q]
    exact ⟨hd_dvC 1 6 (by simp), out _ _ _ (by simp)⟩
  simp only [if_neg q]
  by_cases q : M 38 z = 1
  · simp only [if_pos q]
    obtain ⟨k, k1, k2⟩ := o1 q
    rw [k2, nI_clamp (by omega)]
    exact ⟨hd_dvS 12 (by simp) (show k < 8 from k1), out _ _ _ (by simp)⟩
  simp only [if_neg q]
  by_cases q : M 38 z = 2
  · simp only [if_pos q]
    obtain ⟨k, k1, k2⟩ := o2 q
    rw [k2, nI_clamp (by omega)]
    exact ⟨hd_dvS 10 (by simp) (show k < 8 from k1), out _ _ _ (by simp)⟩
  simp only [if_neg q]
  by_cases q : M 38 z = 3
  · simp only [if_pos q]
    exact ⟨hd_dvC 2 5 (by simp), out _ _ _ (by simp)⟩
  simp only [if_neg q]
  by_cases q : M 38 z = 4
  · simp only [if_pos q]
    obtain ⟨k, k1, k2⟩ := o4 q
    rw [k2, nI_clamp (by omega)]
    exact ⟨hd_dvS 14 (by simp) (show k < 3 from k1), out _ _ _ (by simp)⟩
  simp only [if_neg q]
  by_cases q : M 38 z = 5
  · simp only [if_pos q]
    obtain ⟨i, j, hi, hj, k1, k2⟩ := o5 q
    rw [k2, k1]
    by_cases w : M 40 z = 1
    · simp only [if_pos w]
      obtain ⟨d1, d2⟩ := dk_dv_bar (M := M) (on := 1) hi hj
      exact ⟨d1, fun c hc => d2 c (by rintro rfl; simp at hc)⟩
    · simp only [if_neg w]
      obtain ⟨d1, d2⟩ := dk_dv_bar (M := M) (on := 0) hi hj
      exact ⟨d1, fun c hc => d2 c (by rintro rfl; simp at hc)⟩
  simp only [if_neg q]
  by_cases q : M 38 z = 6
  · simp only [if_pos q]
    exact ⟨hd_dvC 3 5 (by simp), out _ _ _ (by simp)⟩
  simp only [if_neg q]
  by_cases q : M 38 z = 7
  · simp only [if_pos q]
    obtain ⟨k, k1, k2⟩ := o7 q
    obtain ⟨t0, t00, tX⟩ := dk_dv_addE (M := M) (a := M (42 + z) 0) (b := M (42 + z) 1) (c := M (42 + z) 2) (d := M (42 + z) 3) (e := M (42 + z) 4) k1 k2
    exact ⟨t0, tX⟩
  simp only [if_neg q]
  by_cases q : M 38 z = 8
  · simp only [if_pos q]
    unfold f_D_setRule
    by_cases w : M 39 z = 0
    · simp only [if_pos w]
      exact ⟨hd_dvC 3 6 (by simp), out _ _ _ (by simp)⟩
    · simp only [if_neg w]
      exact ⟨hd_dvC 3 7 (by simp), out _ _ _ (by simp)⟩
  simp only [if_neg q]
  by_cases q : M 38 z = 9
  · simp only [if_pos q]
    exact ⟨hd_dvC 4 3 (by simp), out _ _ _ (by simp)⟩
  simp only [if_neg q]
  by_cases q : M 38 z = 10
  · simp only [if_pos q]
    obtain ⟨k, k1, k2⟩ := o10 q
    rw [k2, nI_clamp (by omega)]
    exact ⟨hd_dvS 30 (by simp) (show k < 30 from k1), out _ _ _ (by simp)⟩
  simp only [if_neg q]
  exact ⟨trivial, fun _ _ => trivial⟩
theorem dk_gbar {Ls : Nat} {M : hd_Mem} {i j : Nat} {on : Int32} (hi : i < 8) (hj : j < 8) : g_Pe_setBarred Ls M (nI i) (nI j) on := by
  have ri : hd_okR Ls 13 (nI i) := hd_okR_n rfl hi (by omega)
  have rj : hd_okR Ls 13 (nI j) := hd_okR_n rfl hj (by omega)
  have wi : hd_okW 13 (nI i) := hd_okW_n (by decide) rfl hi (by omega)
  have wj : hd_okW 13 (nI j) := hd_okW_n (by decide) rfl hj (by omega)
  exact ⟨fun _ => ⟨ri, wi, rj, wj⟩, fun _ => ⟨ri, wi, rj, wj⟩⟩
theorem dk_gtake {Ls : Nat} {M : hd_Mem} {z : Nat} (hz : z < 20) (ho : dk_ok (M 38 z, M 39 z, M 40 z, M (42 + z)) (hd_dv M)) : g_D_takeBack Ls M (nI z) := by
  obtain ⟨o0, o1, o2, o3, o4, o5, o6, o7, o9, o10⟩ := ho
  dsimp only at o0 o1 o2 o3 o4 o5 o6 o7 o9 o10
  unfold g_D_takeBack
  rw [nI_clamp (show z < 2 ^ 31 by omega)]
  refine ⟨hd_okR_n rfl hz (by omega), hd_okR_n rfl hz (by omega), hd_okR_n rfl hz (by omega), fun q => ?_, fun q => ?_, fun q => ?_, fun q => ?_, fun q => ?_, fun q => ?_⟩
  · obtain ⟨k, k1, k2⟩ := o1 q
    rw [k2]; exact hd_okW_n (by decide) rfl k1 (by omega)
  · obtain ⟨k, k1, k2⟩ := o2 q
    rw [k2]; exact hd_okW_n (by decide) rfl k1 (by omega)
  · obtain ⟨k, k1, k2⟩ := o4 q
    rw [k2]; exact hd_okW_n (by decide) rfl k1 (by omega)
  · obtain ⟨i, j, hi, hj, k1, k2⟩ := o5 q
    rw [k2, k1]
    exact ⟨fun _ => dk_gbar hi hj, fun _ => dk_gbar hi hj⟩
  · obtain ⟨k, k1, k2⟩ := o7 q
    have hl : hd_lay (42 + z) = .inr (.inl 5) := by
      have : ∀ z, z < 20 → hd_lay (42 + z) = .inr (.inl 5) := by decide +kernel
      exact this z hz
    have hr : ∀ j, j < 5 → hd_okR Ls (42 + z) (nI j) := fun j hj => by
      refine ⟨5, ?_, hd_in_nI hj (by omega)⟩
      unfold hd_arr
      rw [if_pos (by omega), hl]
    have k3 : M 3 5 = nI k := k2
    refine ⟨hd_in_nI hz (by omega), hr 0 (by omega), hr 1 (by omega), hr 2 (by omega), hr 3 (by omega), hr 4 (by omega), ?_⟩
    unfold g_En_add
    rw [k3]
    exact ⟨hd_okW_n (by decide) rfl k1 (by omega), hd_okW_n (by decide) rfl k1 (by omega), hd_okW_n (by decide) rfl k1 (by omega), hd_okW_n (by decide) rfl k1 (by omega), hd_okW_n (by decide) rfl k1 (by omega)⟩
  · obtain ⟨k, k1, k2⟩ := o10 q
    rw [k2]; exact hd_okW_n (by decide) rfl k1 (by omega)
theorem dk_gundo {Ls : Nat} {M : hd_Mem} {m : Nat} (hm : m < 20) (hM : M 67 2 = nI (m + 1)) : gl_M_undo_26 Ls (hd_set M 67 2 ((M 67 2) - 1)) 459 := by
  have h0 : (hd_set M 67 2 ((M 67 2) - 1)) 67 2 = nI m := by rw [hd_set_at, hM, nI_pred]
  refine ⟨by omega, fun i _ => rfl, fun i hi => ?_⟩
  rw [dk_undo26 _ m hm h0 i (by omega)]
  unfold gb_M_undo_26
  simp only [show ¬ (67 : Nat) = 68 by decide, false_and, if_false]
  rw [h0, show nI m * 459 = nI m * nI 459 from rfl, pk_mul, nI_add]
  exact ⟨hd_okR_n rfl (show m * 459 + i < 9180 by omega) (by omega), hd_okW_n (by decide) rfl hi (by omega)⟩
theorem dk_same_undo {pw : dk_PW} {xs : Nat → Int32} {Ls : Nat} {M : hd_Mem} (I : dk_inv pw xs M) : dk_same pw xs Ls D_undo M_undo [] M := by
  obtain ⟨kp, nx, a1, a2, a3, a4, a5⟩ := dk_inv_n I
  have I2 := I
  obtain ⟨h1, h2, ⟨h3, h4, h5, h6⟩, h7, h8, h9, h10, h11, h12, h13⟩ := I2
  by_cases c1 : kp = 0
  · have hD := s_D_undo (Ls := Ls) (M := M) (fun q => by rw [a3, c1] at q; exact absurd q (by decide))
    unfold f_D_undo at hD
    rw [if_neg (by rw [a3, c1]; decide)] at hD
    have z2 : (f_D_finding M (-100006)).2 67 2 = 0 := by rw [dk_find67, a2, c1]; rfl
    have hM := s_M_undo (Ls := Ls) (M := (f_D_finding M (-100006)).2) (fun q => absurd z2 q)
    unfold f_M_undo at hM
    rw [if_pos z2] at hM
    exact dk_finds _ I hD hM
  obtain ⟨m, rfl⟩ : ∃ m, kp = m + 1 := ⟨kp - 1, by omega⟩
  have hkc : (M 67 2).toNatClampNeg = m + 1 := by rw [a2]; exact nI_clamp (by omega)
  rw [hkc] at h6
  -- the slot
  have hp1 : ((M 6 5 + 20) - 1) - ((M 6 5 + 20) - 1) / 20 * 20 = nI ((nx + 19) % 20) := by
    rw [a5, show nI nx + 20 = nI nx + nI 20 from rfl, nI_add, show nx + 20 = nx + 19 + 1 by omega, nI_pred, show (20 : Int32) = nI 20 from rfl]
    exact pk_rem (by omega) (by omega) (by omega)
  have hP1 : (f_Ac_pop M).1 = nI ((nx + 19) % 20) := by unfold f_Ac_pop; exact hp1
  have hP2 : (f_Ac_pop M).2 = hd_set (hd_set M 6 5 (nI ((nx + 19) % 20))) 6 4 (nI m) := by
    unfold f_Ac_pop
    dsimp only
    rw [hp1, a3, nI_pred]
  have hz : (nx + 19) % 20 < 20 := Nat.mod_lt _ (by omega)
  generalize hzz : (nx + 19) % 20 = z at hP1 hP2 hz
  generalize hPP : (f_Ac_pop M).2 = P at hP2
  have hPo : ∀ c, c ≠ 6 → P c = M c := fun c hc => by rw [hP2, hd_set_ne hc, hd_set_ne hc]
  have hPd : hd_dv P = hd_dv M := hd_dv_out2 (fun c hc => hPo c (by rintro rfl; simp at hc))
  have hac0 : dk_ac M 0 = (P 38 z, P 39 z, P 40 z, P (42 + z)) := by
    unfold dk_ac
    rw [a5, nI_clamp (show nx < 2 ^ 31 by omega), show (nx + 19 - 0) % 20 = z by rw [Nat.sub_zero]; exact hzz, hPo 38 (by decide), hPo 39 (by decide), hPo 40 (by decide), hPo (42 + z) (by omega)]
  obtain ⟨l0, w0, o0⟩ := h6 0 (by omega)
  have o0' : dk_ok (P 38 z, P 39 z, P 40 z, P (42 + z)) (hd_dv P) := by rw [← hac0, hPd]; exact o0
  obtain ⟨tk1, tk2⟩ := dk_take hz o0'
  have hD := s_D_undo (Ls := Ls) (M := M) (fun q => by rw [hP1, hPP]; exact dk_gtake hz o0')
  unfold f_D_undo f_Pn_forget at hD
  rw [if_pos (by rw [a3]; exact (nI_ltI (a := 0) (by omega) (by omega)).mpr (by omega)), hP1, hPP] at hD
  generalize hTT : f_D_takeBack P (nI z) = T at hD tk1 tk2
  have hTo : ∀ c, c ∉ [1,2,3,4,6,8,9,10,11,12,13,14,15,16,17,18,19,20,21,22,23,28,29,30] → T c = M c := fun c hc => by rw [tk2 c (by simp at hc ⊢; omega), hPo c (by simp at hc; omega)]
  have hT6 : T 6 = P 6 := tk2 6 (by simp)
  have r4 : (hd_set T 7 0 (-1)) 6 4 = nI m := by rw [hd_set_nk (by decide), hT6, hP2, hd_set_at]
  have r5 : (hd_set T 7 0 (-1)) 6 5 = nI z := by rw [hd_set_nk (by decide), hT6, hP2, hd_set_nj (by decide), hd_set_at]
  rw [r4] at hD
  have hM1o : ∀ c, c ≠ 7 → c ∉ [1,2,3,4,6,8,9,10,11,12,13,14,15,16,17,18,19,20,21,22,23,28,29,30] → (hd_set T 7 0 (-1)) c = M c := fun c hc hc2 => by rw [hd_set_ne hc, hTo c hc2]
  have m67 : (hd_set T 7 0 (-1)) 67 = M 67 := hM1o 67 (by decide) (by simp)
  have m672 : (hd_set T 7 0 (-1)) 67 2 = nI (m + 1) := by rw [m67]; exact a2
  have hM := s_M_undo (Ls := Ls) (M := hd_set T 7 0 (-1)) (fun _ => dk_gundo (by omega) m672)
  unfold f_M_undo at hM
  rw [if_neg (by rw [m672]; exact nI_ne0 (by omega) (by omega))] at hM
  have hK : (hd_set (hd_set T 7 0 (-1)) 67 2 ((hd_set T 7 0 (-1)) 67 2 - 1)) 67 2 = nI m := by rw [hd_set_at, m672, nI_pred]
  have eU := dk_undo26 _ m (by omega) hK 459 (by omega)
  have hr : (a_M_undo_26 (hd_set (hd_set T 7 0 (-1)) 67 2 ((hd_set T 7 0 (-1)) 67 2 - 1)) 459) 67 2 = nI m := by
    rw [eU]
    simp only [show ¬ (67 : Nat) = 68 by decide, false_and, if_false]
    exact hK
  rw [hr] at hM
  dsimp only at hM
  refine ⟨_, _, _, hD, hM, ?_⟩
  generalize hU : a_M_undo_26 (hd_set (hd_set T 7 0 (-1)) 67 2 ((hd_set T 7 0 (-1)) 67 2 - 1)) 459 = U at eU hr
  have u68 : ∀ k, k < 459 → U 68 k = M 69 (m * 459 + k) := by
    intro k hk
    rw [eU]
    simp only [true_and, hk, if_true]
    rw [hd_set_ne (by decide), hM1o 69 (by decide) (by simp)]
  have u67 : ∀ j, j ≠ 2 → U 67 j = M 67 j := by
    intro j hj
    rw [eU]
    simp only [show ¬ (67 : Nat) = 68 by decide, false_and, if_false]
    rw [hd_set_nj hj, m67]
  have uo : ∀ c, c ≠ 67 → c ≠ 68 → U c = (hd_set T 7 0 (-1)) c := by
    intro c z1 z2
    rw [eU]
    funext k
    simp only [z2, false_and, if_false]
    rw [hd_set_nk z1]
  have uM : ∀ c, c ≠ 67 → c ≠ 68 → c ≠ 7 → c ∉ [1,2,3,4,6,8,9,10,11,12,13,14,15,16,17,18,19,20,21,22,23,28,29,30] → U c = M c := fun c z1 z2 z3 z4 => by rw [uo c z1 z2, hM1o c z3 z4]
  have edv : hd_dv U = dk_tb (dk_ac M 0) (hd_dv M) := by
    rw [hd_dv_out2 (M := T) (fun c hc => by rw [uo c (by rintro rfl; simp at hc) (by rintro rfl; simp at hc), hd_set_ne (by rintro rfl; simp at hc)]), tk1, hac0, hPd]
  have lpa : dk_live (dk_pa M 0) (U 68) := by
    intro k hk
    have hk9 := dk_lv_lt hk
    rw [u68 k hk9]
    unfold dk_pa dk_tr
    rw [if_pos hk9, hkc, show m + 1 - 1 - 0 = m by omega]
  have u6 : U 6 = P 6 := by rw [uo 6 (by decide) (by decide), hd_set_ne (by decide), hT6]
  have u65 : (U 6 5).toNatClampNeg = z := by rw [u6, hP2, hd_set_nj (by decide), hd_set_at]; exact nI_clamp (by omega)
  refine ⟨dk_wf_live lpa w0, ?_, ⟨?_, ?_, ?_, ?_⟩, ?_, ?_, ?_, ?_, ?_, ?_, ?_⟩
  · rw [edv]
    exact dk_live_trans l0 lpa
  · rw [hr]; exact hd_in_nI (by omega) (by omega)
  · rw [hr, u6, hP2, hd_set_at]
  · rw [u6, hP2, hd_set_nj (by decide), hd_set_at]; exact hd_in_nI hz (by omega)
  · rw [hr, nI_clamp (show m < 2 ^ 31 by omega), edv]
    refine dk_pop h6 (fun i hi => ⟨?_, ?_⟩)
    · unfold dk_ac
      rw [u65, a5, nI_clamp (show nx < 2 ^ 31 by omega), show (z + 19 - i) % 20 = (nx + 19 - (i + 1)) % 20 by omega]
      have hy := Nat.mod_lt (nx + 19 - (i + 1)) (show 0 < 20 by omega)
      rw [uM 38 (by decide) (by decide) (by decide) (by simp), uM 39 (by decide) (by decide) (by decide) (by simp), uM 40 (by decide) (by decide) (by decide) (by simp), uM (42 + (nx + 19 - (i + 1)) % 20) (by omega) (by omega) (by omega) (by simp; omega)]
    · unfold dk_pa
      rw [hr, nI_clamp (show m < 2 ^ 31 by omega), hkc, uM 69 (by decide) (by decide) (by decide) (by simp), show m + 1 - 1 - (i + 1) = m - 1 - i by omega]
  · intro s hs
    have := h7 s hs
    unfold dk_sh at this ⊢
    rw [uM 31 (by decide) (by decide) (by decide) (by simp), uM 32 (by decide) (by decide) (by decide) (by simp), uM 70 (by decide) (by decide) (by decide) (by simp), uM 71 (by decide) (by decide) (by decide) (by simp), uM 72 (by decide) (by decide) (by decide) (by simp), uM (34 + s) (by omega) (by omega) (by omega) (by simp; omega)]
    exact this
  · rw [u67 3 (by decide), uM 0 (by decide) (by decide) (by decide) (by simp)]; exact h8
  · rw [uM 25 (by decide) (by decide) (by decide) (by simp), uM 26 (by decide) (by decide) (by decide) (by simp), uM 27 (by decide) (by decide) (by decide) (by simp)]; exact h9
  · left
    rw [uo 7 (by decide) (by decide), hd_set_at]
  · rw [uM 62 (by decide) (by decide) (by decide) (by simp)]; exact h11
  · rw [uM 78 (by decide) (by decide) (by decide) (by simp)]; exact h12
  · rw [uM 79 (by decide) (by decide) (by decide) (by simp), uM 63 (by decide) (by decide) (by decide) (by simp)]; exact h13
