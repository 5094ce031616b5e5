/-! sheet, put, copy -/
theorem dk_toI (y : Int32) : y.toInt = if 2 * y.toBitVec.toNat < 2 ^ 32 then (y.toBitVec.toNat : Int) else (y.toBitVec.toNat : Int) - 2 ^ 32 := by
  show y.toBitVec.toInt = _
  rw [BitVec.toInt_eq_toNat_cond]
  split <;> simp_all
theorem dk_b8 (x : Int32) : (x <<< ((32 - 8 : Int32) &&& 31)) >>> ((32 - 8 : Int32) &&& 31) = x.toInt8.toInt32 := by
  rw [← Int32.toInt_inj, Int8.toInt_toInt32, Int32.toInt_toInt8, pk_shr _ _ 24 (by decide), dk_toI, dk_toI x, pk_shl x _ 24 (by decide), Int.bmod_def, Int.shiftRight_eq_div_pow]
  have := x.toBitVec.isLt
  generalize x.toBitVec.toNat = X at this ⊢
  simp only [Nat.reducePow]
  split <;> split <;> split <;> omega
theorem dk_b16 (x : Int32) : (x <<< ((32 - 16 : Int32) &&& 31)) >>> ((32 - 16 : Int32) &&& 31) = x.toInt16.toInt32 := by
  rw [← Int32.toInt_inj, Int16.toInt_toInt32, Int32.toInt_toInt16, pk_shr _ _ 16 (by decide), dk_toI, dk_toI x, pk_shl x _ 16 (by decide), Int.bmod_def, Int.shiftRight_eq_div_pow]
  have := x.toBitVec.isLt
  generalize x.toBitVec.toNat = X at this ⊢
  simp only [Nat.reducePow]
  split <;> split <;> split <;> omega
theorem dk_b32 (x : Int32) : (x <<< ((32 - 32 : Int32) &&& 31)) >>> ((32 - 32 : Int32) &&& 31) = x := by
  have e : (32 - 32 : Int32) = 0 := by decide
  rw [e, sb_shl0, sb_shr0]
theorem dk_low {v b : Int32} (h : b = 8 ∨ b = 16 ∨ b = 32) : (v <<< ((32 - b) &&& 31)) >>> ((32 - b) &&& 31) = f_D_lowestBits v b := by
  unfold f_D_lowestBits
  rcases h with rfl | rfl | rfl
  · rw [if_pos rfl]; exact dk_b8 v
  · rw [if_neg (by decide), if_pos rfl]; exact dk_b16 v
  · rw [if_neg (by decide), if_neg (by decide)]; exact dk_b32 v
theorem dk_shI {pw : dk_PW} {xs : Nat → Int32} {M M2 : hd_Mem} (I : dk_inv pw xs M) (ho : ∀ c, c ∉ [31, 32, 34, 35, 36, 37, 70, 71, 72] → M2 c = M c) (hs : ∀ s, s < 4 → dk_sh M2 s) : dk_inv pw xs M2 := by
  obtain ⟨h1, h2, ⟨h3, h4, h5, h6⟩, h7, h8, h9, h10, h11, h12, h13⟩ := I
  have edv : hd_dv M2 = hd_dv M := hd_dv_out2 (fun c hc => ho c (by simp at hc ⊢; omega))
  have eac : dk_ac M2 = dk_ac M := by
    funext i
    unfold dk_ac
    have hy := Nat.mod_lt ((M 6 5).toNatClampNeg + 19 - i) (show 0 < 20 by omega)
    rw [ho 6 (by simp), ho 38 (by simp), ho 39 (by simp), ho 40 (by simp), ho (42 + ((M 6 5).toNatClampNeg + 19 - i) % 20) (by simp; omega)]
  have epa : dk_pa M2 = dk_pa M := by
    funext i
    unfold dk_pa
    rw [ho 67 (by simp), ho 69 (by simp)]
  refine ⟨by rw [ho 68 (by simp)]; exact h1, by rw [edv, ho 68 (by simp)]; exact h2, ⟨by rw [ho 67 (by simp)]; exact h3, by rw [ho 67 (by simp), ho 6 (by simp)]; exact h4, by rw [ho 6 (by simp)]; exact h5, by rw [ho 67 (by simp), eac, epa, edv]; exact h6⟩, hs, by rw [ho 0 (by simp), ho 67 (by simp)]; exact h8, by rw [ho 25 (by simp), ho 26 (by simp), ho 27 (by simp)]; exact h9, ?_, by rw [ho 62 (by simp)]; exact h11, by rw [ho 78 (by simp)]; exact h12, by rw [ho 79 (by simp), ho 63 (by simp)]; exact h13⟩
  unfold dk_plan
  rw [ho 7 (by simp), edv]; exact h10
theorem dk_begin (M : hd_Mem) (a : Nat) (b n : Int32) (ha : a < 4) : f_Sh_begin M (nI a) b n = fun c k => if c = 34 + a ∧ k < 20 then 0 else (hd_set (hd_set M 31 a b) 32 a n) c k := by
  have key : ∀ (M : hd_Mem) (m : Nat), m ≤ 20 → a_Sh_begin_17 M (nI a) b n m = fun c k => if c = 34 + a ∧ k < m then 0 else M c k := by
    intro M m
    induction m with
    | zero => intro _; funext c k; simp [a_Sh_begin_17]
    | succ m ih =>
      intro hm
      show t_Sh_begin_17 (a_Sh_begin_17 M (nI a) b n m) (nI a) b n (nI m) = _
      rw [ih (by omega)]
      unfold t_Sh_begin_17
      rw [nI_clamp (show a < 2 ^ 31 by omega), nI_clamp (show m < 2 ^ 31 by omega)]
      funext c k
      simp only [hd_set]
      by_cases h1 : c = 34 + a
      · by_cases h2 : k = m
        · subst h2; simp [h1]
        · by_cases h3 : k < m
          · simp [h1, h2, h3, show k < m + 1 by omega]
          · simp [h1, h2, h3, show ¬ k < m + 1 by omega]
      · simp [h1]
  unfold f_Sh_begin
  rw [key _ 20 (by omega), nI_clamp (show a < 2 ^ 31 by omega)]
theorem dk_lay34 : ∀ a, a < 4 → hd_lay (34 + a) = .inr (.inl 20) := by decide +kernel
theorem dk_gbegin {Ls : Nat} {M : hd_Mem} {a : Nat} {b n : Int32} (ha : a < 4) : g_Sh_begin Ls M (nI a) b n := by
  refine ⟨hd_okW_n (by decide) rfl ha (by omega), hd_okW_n (by decide) rfl ha (by omega), by omega, fun i _ => rfl, fun i hi => ?_⟩
  unfold gb_Sh_begin_17
  rw [nI_clamp (show a < 2 ^ 31 by omega)]
  exact ⟨hd_in_nI ha (by omega), hd_okW_n (by omega) (dk_lay34 a ha) hi (by omega)⟩
theorem dk_msheet (M : hd_Mem) (a : Nat) (b n : Int32) (ha : a < 4) : ∀ m, m ≤ 20 → a_M_sheet_85 M (nI a) b n m = fun c k => if c = 72 ∧ 20 * a ≤ k ∧ k < 20 * a + m then 0 else M c k := by
  intro m
  induction m with
  | zero =>
    intro _; funext c k
    have : ¬ (c = 72 ∧ 20 * a ≤ k ∧ k < 20 * a + 0) := by omega
    simp only [a_M_sheet_85, this, if_false]
  | succ m ih =>
    intro hm
    show t_M_sheet_85 (a_M_sheet_85 M (nI a) b n m) (nI a) b n (nI m) = _
    rw [ih (by omega)]
    unfold t_M_sheet_85
    rw [show (20 : Int32) * nI a = nI 20 * nI a from rfl, pk_mul, dk_ix (by omega)]
    funext c k
    simp only [hd_set]
    by_cases h1 : c = 72
    · by_cases h2 : k = 20 * a + m
      · subst h2; simp [h1]
      · by_cases h3 : 20 * a ≤ k ∧ k < 20 * a + m
        · have h4 : 20 * a ≤ k ∧ k < 20 * a + (m + 1) := by omega
          simp only [h1, h2, h3, h4, and_self, and_false, if_true, if_false]
        · have h4 : ¬ (20 * a ≤ k ∧ k < 20 * a + (m + 1)) := by omega
          simp only [h1, h2, h3, h4, and_false, if_false]
    · simp [h1]
theorem dk_gmsheet {Ls : Nat} {M : hd_Mem} {a : Nat} {b n : Int32} (ha : a < 4) : gl_M_sheet_85 Ls M (nI a) b n 20 := by
  refine ⟨by omega, fun i _ => rfl, fun i hi => ?_⟩
  unfold gb_M_sheet_85
  rw [show (20 : Int32) * nI a = nI 20 * nI a from rfl, pk_mul, nI_add]
  exact hd_okW_n (by decide) rfl (show 20 * a + i < 80 by omega) (by omega)
/-- a sheet is laid out on both sides -/
theorem dk_sheet2 {pw : dk_PW} {xs : Nat → Int32} {M : hd_Mem} {a : Nat} {b n x3 : Int32} (I : dk_inv pw xs M) (ha : a < 4) (hb : b = 0 ∨ b = 8 ∨ b = 16 ∨ b = 32) (hn : hd_in n 21) :
    dk_inv pw xs (a_M_sheet_85 (hd_set (hd_set (f_Sh_begin M (nI a) b n) 70 a b) 71 a n) (nI a) b x3 20) ∧ (a_M_sheet_85 (hd_set (hd_set (f_Sh_begin M (nI a) b n) 70 a b) 71 a n) (nI a) b x3 20) 71 a = n := by
  rw [dk_msheet _ a b x3 ha 20 (by omega), dk_begin M a b n ha]
  refine ⟨dk_shI I ?_ ?_, ?_⟩
  · intro c hc
    simp at hc
    funext k
    simp only [hd_set]
    rw [if_neg (by omega), if_neg (by omega), if_neg (by omega), if_neg (by omega), if_neg (by omega), if_neg (by omega)]
  · intro s hs
    have h7 := I.2.2.2.1 s hs
    unfold dk_sh at h7 ⊢
    obtain ⟨g1, g2, g3, g4, g5⟩ := h7
    by_cases hsa : s = a
    · subst hsa
      refine ⟨?_, ?_, ?_, ?_, fun i hi => ?_⟩
      · simp [hd_set]; omega
      · simp [hd_set]; omega
      · simpa [hd_set, show ¬ (31 : Nat) = 34 + s by omega] using hb
      · simpa [hd_set, show ¬ (32 : Nat) = 34 + s by omega] using hn
      · simp [hd_set, hi, show ¬ (34 + s = 72) by omega, show ¬ (34 + s = 71) by omega, show ¬ (34 + s = 70) by omega]
    · refine ⟨?_, ?_, ?_, ?_, fun i hi => ?_⟩
      · simp only [hd_set]
        rw [if_neg (by omega), if_neg (by omega), if_neg (by omega), if_neg (by omega), if_neg (by omega), if_neg (by omega), if_neg (by omega), if_neg (by omega), if_neg (by omega), if_neg (by omega), if_neg (by omega), if_neg (by omega)]
        exact g1
      · simp only [hd_set]
        rw [if_neg (by omega), if_neg (by omega), if_neg (by omega), if_neg (by omega), if_neg (by omega), if_neg (by omega), if_neg (by omega), if_neg (by omega), if_neg (by omega), if_neg (by omega), if_neg (by omega), if_neg (by omega)]
        exact g2
      · simp only [hd_set]
        rw [if_neg (by omega), if_neg (by omega), if_neg (by omega), if_neg (by omega), if_neg (by omega), if_neg (by omega)]
        exact g3
      · simp only [hd_set]
        rw [if_neg (by omega), if_neg (by omega), if_neg (by omega), if_neg (by omega), if_neg (by omega), if_neg (by omega)]
        exact g4
      · simp only [hd_set]
        rw [if_neg (by omega), if_neg (by omega), if_neg (by omega), if_neg (by omega), if_neg (by omega), if_neg (by omega), if_neg (by omega), if_neg (by omega), if_neg (by omega), if_neg (by omega), if_neg (by omega), if_neg (by omega)]
        exact g5 i hi
  · simp [hd_set]
theorem dk_findsM {pw : dk_PW} {xs : Nat → Int32} {Ls yD yM : Nat} {as : List Value} {M : hd_Mem} (x : Int32) (I : dk_inv pw xs M) (hD : hd_Rt Ls yD (.ref 0 :: as) M (some (.int (f_D_finding M x).1)) (f_D_finding M x).2) (hM : ∀ M' : hd_Mem, (∀ c, c ≠ 0 → M' c = M c) → hd_Rt Ls yM (.ref 67 :: as) M' (some (.int (f_M_finding M' x).1)) (f_M_finding M' x).2) : dk_same pw xs Ls yD yM as M := dk_finds x I hD (hM _ (fun c hc => by funext k; simp [f_D_finding, hd_set, hc]))
theorem dk_same_sheet {pw : dk_PW} {xs : Nat → Int32} {Ls : Nat} {M : hd_Mem} (I : dk_inv pw xs M) (x1 x2 x3 : Int32) : dk_same pw xs Ls D_sheet M_sheet [.int x1, .int x2, .int x3] M := by
  have GM : ∀ M' : hd_Mem, g_M_sheet Ls M' x1 x2 x3 := by
    intro M' q1
    obtain ⟨a, ha, rfl⟩ := hd_in_of (dk_within (a := 0) (b := 3) (by omega) (by omega) q1).1 (by omega)
    have w70 : hd_okW 70 (nI a) := hd_okW_n (by decide) rfl ha (by omega)
    have w71 : hd_okW 71 (nI a) := hd_okW_n (by decide) rfl ha (by omega)
    have r71 : hd_okR Ls 71 (nI a) := hd_okR_n rfl ha (by omega)
    exact ⟨fun _ _ _ => ⟨w70, fun _ => ⟨w71, dk_gmsheet ha, r71⟩, fun _ => ⟨w71, dk_gmsheet ha, r71⟩⟩, fun _ => ⟨fun _ _ _ => ⟨w70, fun _ => ⟨w71, dk_gmsheet ha, r71⟩, fun _ => ⟨w71, dk_gmsheet ha, r71⟩⟩, fun _ => ⟨fun _ _ _ => ⟨w70, fun _ => ⟨w71, dk_gmsheet ha, r71⟩, fun _ => ⟨w71, dk_gmsheet ha, r71⟩⟩, fun _ _ _ _ => ⟨w70, fun _ => ⟨w71, dk_gmsheet ha, r71⟩, fun _ => ⟨w71, dk_gmsheet ha, r71⟩⟩⟩⟩⟩
  have GD : g_D_sheet Ls M x1 x2 x3 := by
    intro q1
    obtain ⟨a, ha, rfl⟩ := hd_in_of (dk_within (a := 0) (b := 3) (by omega) (by omega) q1).1 (by omega)
    exact ⟨fun _ _ _ => ⟨fun _ => dk_gbegin ha, fun _ => dk_gbegin ha⟩, fun _ => ⟨fun _ _ _ => ⟨fun _ => dk_gbegin ha, fun _ => dk_gbegin ha⟩, fun _ => ⟨fun _ _ _ => ⟨fun _ => dk_gbegin ha, fun _ => dk_gbegin ha⟩, fun _ _ _ _ => ⟨fun _ => dk_gbegin ha, fun _ => dk_gbegin ha⟩⟩⟩⟩
  have hD := s_D_sheet GD
  unfold f_D_sheet at hD
  have hMs : ∀ M' : hd_Mem, hd_Rt Ls M_sheet [.ref 67, .int x1, .int x2, .int x3] M' (some (.int (f_M_sheet M' x1 x2 x3).1)) (f_M_sheet M' x1 x2 x3).2 := fun M' => s_M_sheet (GM M')
  unfold f_M_sheet at hMs
  by_cases c1 : f_M_isSheet x1 = 0
  · rw [if_pos (show f_D_isSheet x1 = 0 from c1)] at hD
    exact dk_findsM _ I hD (fun M' _ => by have := hMs M'; rwa [if_pos c1] at this)
  rw [if_neg (show ¬ f_D_isSheet x1 = 0 from c1)] at hD
  simp only [if_neg c1] at hMs
  obtain ⟨a, ha, rfl⟩ := hd_in_of (dk_within (a := 0) (b := 3) (by omega) (by omega) c1).1 (by omega)
  have cla : (nI a).toNatClampNeg = a := nI_clamp (by omega)
  -- the four widths are alike
  by_cases hb : x2 = 0 ∨ x2 = 8 ∨ x2 = 16 ∨ x2 = 32
  · have hD2 : hd_Rt Ls D_sheet [.ref 0, .int (nI a), .int x2, .int x3] M (some (.int (if 0 ≤ x3 then (if x3 ≤ 20 then (if x2 = 0 then ((0 : Int32), f_Sh_begin M (nI a) x2 0) else (x3, f_Sh_begin M (nI a) x2 x3)) else ((f_D_finding M (-100001)).1, (f_D_finding M (-100001)).2)) else ((f_D_finding M (-100003)).1, (f_D_finding M (-100003)).2)).1)) (if 0 ≤ x3 then (if x3 ≤ 20 then (if x2 = 0 then ((0 : Int32), f_Sh_begin M (nI a) x2 0) else (x3, f_Sh_begin M (nI a) x2 x3)) else ((f_D_finding M (-100001)).1, (f_D_finding M (-100001)).2)) else ((f_D_finding M (-100003)).1, (f_D_finding M (-100003)).2)).2 := by
      rcases hb with z | z | z | z
      · rw [if_pos z] at hD; exact hD
      · rw [if_neg (by rw [z]; decide), if_pos z] at hD; exact hD
      · rw [if_neg (by rw [z]; decide), if_neg (by rw [z]; decide), if_pos z] at hD; exact hD
      · rw [if_neg (by rw [z]; decide), if_neg (by rw [z]; decide), if_neg (by rw [z]; decide), if_pos z] at hD; exact hD
    have hM2 : ∀ M' : hd_Mem, hd_Rt Ls M_sheet [.ref 67, .int (nI a), .int x2, .int x3] M' (some (.int (if 0 ≤ x3 then (if x3 ≤ 20 then (if x2 = 0 then ((a_M_sheet_85 (hd_set (hd_set M' 70 a x2) 71 a 0) (nI a) x2 x3 20) 71 a, (a_M_sheet_85 (hd_set (hd_set M' 70 a x2) 71 a 0) (nI a) x2 x3 20)) else ((a_M_sheet_85 (hd_set (hd_set M' 70 a x2) 71 a x3) (nI a) x2 x3 20) 71 a, (a_M_sheet_85 (hd_set (hd_set M' 70 a x2) 71 a x3) (nI a) x2 x3 20))) else ((f_M_finding M' (-100001)).1, (f_M_finding M' (-100001)).2)) else ((f_M_finding M' (-100003)).1, (f_M_finding M' (-100003)).2)).1)) (if 0 ≤ x3 then (if x3 ≤ 20 then (if x2 = 0 then ((a_M_sheet_85 (hd_set (hd_set M' 70 a x2) 71 a 0) (nI a) x2 x3 20) 71 a, (a_M_sheet_85 (hd_set (hd_set M' 70 a x2) 71 a 0) (nI a) x2 x3 20)) else ((a_M_sheet_85 (hd_set (hd_set M' 70 a x2) 71 a x3) (nI a) x2 x3 20) 71 a, (a_M_sheet_85 (hd_set (hd_set M' 70 a x2) 71 a x3) (nI a) x2 x3 20))) else ((f_M_finding M' (-100001)).1, (f_M_finding M' (-100001)).2)) else ((f_M_finding M' (-100003)).1, (f_M_finding M' (-100003)).2)).2 := by
      intro M'
      have h := hMs M'
      rw [cla] at h
      rcases hb with z | z | z | z
      · rw [if_pos z] at h; exact h
      · rw [if_neg (by rw [z]; decide), if_pos z] at h; exact h
      · rw [if_neg (by rw [z]; decide), if_neg (by rw [z]; decide), if_pos z] at h; exact h
      · rw [if_neg (by rw [z]; decide), if_neg (by rw [z]; decide), if_neg (by rw [z]; decide), if_pos z] at h; exact h
    by_cases c2 : 0 ≤ x3
    · rw [if_pos c2] at hD2
      by_cases c3 : x3 ≤ 20
      · rw [if_pos c3] at hD2
        have hn : hd_in x3 21 := by
          rw [Int32.le_iff_toInt_le] at c2 c3
          have e0 : (0 : Int32).toInt = 0 := by decide
          have e20 : (20 : Int32).toInt = 20 := by decide
          exact ⟨by omega, by omega⟩
        by_cases c4 : x2 = 0
        · rw [if_pos c4] at hD2
          have h := hM2 (f_Sh_begin M (nI a) x2 0)
          rw [if_pos c2, if_pos c3, if_pos c4] at h
          obtain ⟨u1, u2⟩ := dk_sheet2 (a := a) (b := x2) (n := 0) (x3 := x3) I ha hb ⟨by decide, by decide⟩
          rw [u2] at h
          exact ⟨_, _, _, hD2, h, u1⟩
        · rw [if_neg c4] at hD2
          have h := hM2 (f_Sh_begin M (nI a) x2 x3)
          rw [if_pos c2, if_pos c3, if_neg c4] at h
          obtain ⟨u1, u2⟩ := dk_sheet2 (a := a) (b := x2) (n := x3) (x3 := x3) I ha hb hn
          rw [u2] at h
          exact ⟨_, _, _, hD2, h, u1⟩
      · rw [if_neg c3] at hD2
        exact dk_findsM _ I hD2 (fun M' _ => by have := hM2 M'; rwa [if_pos c2, if_neg c3] at this)
    · rw [if_neg c2] at hD2
      exact dk_findsM _ I hD2 (fun M' _ => by have := hM2 M'; rwa [if_neg c2] at this)
  · rw [if_neg (fun z => hb (Or.inl z)), if_neg (fun z => hb (Or.inr (Or.inl z))), if_neg (fun z => hb (Or.inr (Or.inr (Or.inl z)))), if_neg (fun z => hb (Or.inr (Or.inr (Or.inr z))))] at hD
    exact dk_findsM _ I hD (fun M' _ => by have := hMs M'; rwa [if_neg (fun z => hb (Or.inl z)), if_neg (fun z => hb (Or.inr (Or.inl z))), if_neg (fun z => hb (Or.inr (Or.inr (Or.inl z)))), if_neg (fun z => hb (Or.inr (Or.inr (Or.inr z))))] at this)
theorem dk_same_put {pw : dk_PW} {xs : Nat → Int32} {Ls : Nat} {M : hd_Mem} (I : dk_inv pw xs M) (x1 x2 x3 : Int32) : dk_same pw xs Ls D_put M_put [.int x1, .int x2, .int x3] M := by
  have h7 := I.2.2.2.1
  have GM : ∀ M' : hd_Mem, M' 71 = M 71 → g_M_put Ls M' x1 x2 x3 := by
    intro M' q8 q1
    obtain ⟨a, ha, rfl⟩ := hd_in_of (dk_within (a := 0) (b := 3) (by omega) (by omega) q1).1 (by omega)
    have r70 : hd_okR Ls 70 (nI a) := hd_okR_n rfl ha (by omega)
    refine ⟨r70, fun _ => ⟨hd_okR_n rfl ha (by omega), fun q => ⟨r70, ?_⟩⟩⟩
    rw [q8, nI_clamp (show a < 2 ^ 31 by omega), ← (h7 a ha).2.1] at q
    obtain ⟨n, hn, en⟩ := hd_in_of (h7 a ha).2.2.2.1 (by omega)
    rw [en] at q
    obtain ⟨i, hi, rfl⟩ := dk_there (by omega) q
    rw [show (20 : Int32) * nI a = nI 20 * nI a from rfl, pk_mul, nI_add]
    exact hd_okW_n (by decide) rfl (show 20 * a + i < 80 by omega) (by omega)
  have GD : g_D_put Ls M x1 x2 x3 := by
    intro q1
    obtain ⟨a, ha, rfl⟩ := hd_in_of (dk_within (a := 0) (b := 3) (by omega) (by omega) q1).1 (by omega)
    have r31 : hd_okR Ls 31 (nI a) := hd_okR_n rfl ha (by omega)
    refine ⟨r31, fun _ => ⟨hd_okR_n rfl ha (by omega), fun q => ⟨hd_in_nI ha (by omega), r31, ?_⟩⟩⟩
    rw [nI_clamp (show a < 2 ^ 31 by omega)] at q ⊢
    obtain ⟨n, hn, en⟩ := hd_in_of (h7 a ha).2.2.2.1 (by omega)
    rw [en] at q
    obtain ⟨i, hi, rfl⟩ := dk_there (by omega) q
    exact hd_okW_n (by omega) (dk_lay34 a ha) (show i < 20 by omega) (by omega)
  have hD := s_D_put GD
  unfold f_D_put at hD
  have hMs : ∀ M' : hd_Mem, M' 71 = M 71 → M' 70 = M 70 → hd_Rt Ls M_put [.ref 67, .int x1, .int x2, .int x3] M' (some (.int (f_M_put M' x1 x2 x3).1)) (f_M_put M' x1 x2 x3).2 := fun M' q _ => s_M_put (GM M' q)
  unfold f_M_put at hMs
  by_cases c1 : f_M_isSheet x1 = 0
  · rw [if_pos (show f_D_isSheet x1 = 0 from c1)] at hD
    exact dk_findsM _ I hD (fun M' q => by have := hMs M' (q 71 (by decide)) (q 70 (by decide)); rwa [if_pos c1] at this)
  rw [if_neg (show ¬ f_D_isSheet x1 = 0 from c1)] at hD
  obtain ⟨a, ha, rfl⟩ := hd_in_of (dk_within (a := 0) (b := 3) (by omega) (by omega) c1).1 (by omega)
  have cla : (nI a).toNatClampNeg = a := nI_clamp (by omega)
  obtain ⟨g1, g2, g3, g4, g5⟩ := h7 a ha
  unfold f_Sh_isMissing at hD
  rw [cla] at hD
  by_cases c2 : M 31 a = 0
  · rw [if_pos c2, if_neg (by decide)] at hD
    exact dk_findsM _ I hD (fun M' q => by have := hMs M' (q 71 (by decide)) (q 70 (by decide)); rwa [if_neg c1, cla, q 70 (by decide), if_pos (by rw [← g1]; exact c2)] at this)
  rw [if_neg c2, if_pos rfl] at hD
  by_cases c3 : f_M_within x2 0 (M 32 a - 1) = 0
  · rw [if_pos (show f_D_within x2 0 (M 32 a - 1) = 0 from c3)] at hD
    exact dk_findsM _ I hD (fun M' q => by have := hMs M' (q 71 (by decide)) (q 70 (by decide)); rwa [if_neg c1, cla, q 70 (by decide), if_neg (by rw [← g1]; exact c2), q 71 (by decide), ← g2, if_pos c3] at this)
  rw [if_neg (show ¬ f_D_within x2 0 (M 32 a - 1) = 0 from c3)] at hD
  obtain ⟨n, hn, en⟩ := hd_in_of g4 (by omega)
  have c4 := c3
  rw [en] at c4
  obtain ⟨i, hi, rfl⟩ := dk_there (by omega) c4
  have cli : (nI i).toNatClampNeg = i := nI_clamp (by omega)
  rw [cli] at hD
  have e70 : (hd_set M (34 + a) i (f_D_lowestBits x3 (M 31 a))) 70 = M 70 := hd_set_ne (by omega)
  have e71 : (hd_set M (34 + a) i (f_D_lowestBits x3 (M 31 a))) 71 = M 71 := hd_set_ne (by omega)
  have h := hMs _ e71 e70
  rw [if_neg c1, cla, e70, if_neg (by rw [← g1]; exact c2), e71, ← g2, if_neg c3, ← g1, show (20 : Int32) * nI a = nI 20 * nI a from rfl, pk_mul, dk_ix (by omega), dk_low (by rcases g3 with z | z | z | z; exact absurd z c2; exact Or.inl z; exact Or.inr (Or.inl z); exact Or.inr (Or.inr z))] at h
  refine ⟨_, _, _, hD, h, dk_shI I ?_ ?_⟩
  · intro c hc
    simp at hc
    dsimp only
    rw [hd_set_ne (by omega), hd_set_ne (by omega)]
  · intro s hs
    have h8 := h7 s hs
    unfold dk_sh at h8 ⊢
    obtain ⟨k1, k2, k3, k4, k5⟩ := h8
    dsimp only
    rw [hd_set_ne (show 31 ≠ 72 by decide), hd_set_ne (show 32 ≠ 72 by decide), hd_set_ne (show 70 ≠ 72 by decide), hd_set_ne (show 71 ≠ 72 by decide), hd_set_ne (show 34 + s ≠ 72 by omega), hd_set_ne (show 31 ≠ 34 + a by omega), hd_set_ne (show 32 ≠ 34 + a by omega), hd_set_ne (show 70 ≠ 34 + a by omega), hd_set_ne (show 71 ≠ 34 + a by omega)]
    refine ⟨k1, k2, k3, k4, fun j hj => ?_⟩
    by_cases z : s = a ∧ j = i
    · obtain ⟨rfl, rfl⟩ := z
      rw [hd_set_at, hd_set_at]
    · by_cases y : s = a
      · subst y
        rw [hd_set_nj (by omega), hd_set_nj (by omega), hd_set_nk (by omega)]
        exact k5 j hj
      · rw [hd_set_nk (by omega), hd_set_nj (by omega), hd_set_nk (by omega)]
        exact k5 j hj
