/-! court -/
/-- there is another breach at most 28 DAYS ahead, among the first j -/
def dk_cb (M : hd_Mem) (x1 x2 : Int32) (d a j : Nat) : Prop := ∃ b, b < j ∧ ¬ f_M_isBreach M (nI b) x1 x2 = 0 ∧ ∃ db, M 68 (399 + b) = nI db ∧ db < 365 ∧ db + 1 ≤ d ∧ d ≤ db + 28
theorem dk_cnt {pw : dk_PW} {xs : Nat → Int32} {M : hd_Mem} (I : dk_inv pw xs M) {x1 x2 : Int32} {d a : Nat} (hd : d < 365) : ∀ j, j ≤ dk_na (M 68) → ∃ k, k ≤ j ∧ a_Ab_countBreaches_6 M x1 (nI d - 28) (nI d - 1) x2 0 j = nI k ∧ (0 < k ↔ dk_cb M x1 x2 d a j) := by
  have h1 := I.1
  obtain ⟨n, hn, e1, e2, e3, e4⟩ := dk_na_of I
  intro j
  induction j with
  | zero => intro _; exact ⟨0, Nat.le_refl _, rfl, by simp [dk_cb]⟩
  | succ j ih =>
    intro hj
    obtain ⟨k, hk, ek, hcb⟩ := ih (by omega)
    have hj30 : j < 30 := by omega
    obtain ⟨db, hdb, edb⟩ := hd_in_of (h1.2.2.2.2.2.2.2.2.2.1 j (by omega)).2.1 (by omega)
    have ed : M 29 j = M 68 (399 + j) := dk_rd I (c := 29) (b := 399 + j) (by simp) (show j < 30 by omega) rfl (dk_lv_a (by omega) hj30 (by simp))
    show ∃ k, k ≤ j + 1 ∧ t_Ab_countBreaches_6 M x1 (nI d - 28) (nI d - 1) x2 (a_Ab_countBreaches_6 M x1 (nI d - 28) (nI d - 1) x2 0 j) (nI j) = nI k ∧ (0 < k ↔ dk_cb M x1 x2 d a (j + 1))
    rw [ek]
    unfold t_Ab_countBreaches_6
    rw [dk_isb I (by omega) hj30, nI_clamp (show j < 2 ^ 31 by omega), ed, edb]
    have s28 : (nI d - 28).toInt = (d : Int) - (28 : Nat) := pk_sub_toInt (a := d) (b := 28) (by omega) (by omega)
    have s1 : (nI d - 1).toInt = (d : Int) - (1 : Nat) := pk_sub_toInt (a := d) (b := 1) (by omega) (by omega)
    have edi : (nI db).toInt = db := nI_toInt (by omega)
    have old : dk_cb M x1 x2 d a j → dk_cb M x1 x2 d a (j + 1) := fun ⟨b, q1, q2⟩ => ⟨b, by omega, q2⟩
    have new : dk_cb M x1 x2 d a (j + 1) → dk_cb M x1 x2 d a j ∨ (¬ f_M_isBreach M (nI j) x1 x2 = 0 ∧ db + 1 ≤ d ∧ d ≤ db + 28) := by
      rintro ⟨b, q1, q2, dd, q3, q4, q5, q6⟩
      by_cases z : b = j
      · right
        subst z
        have : dd = db := (nI_eq (by omega) (by omega)).mp (q3.symm.trans edb)
        subst this
        exact ⟨q2, q5, q6⟩
      · left
        exact ⟨b, by omega, q2, dd, q3, q4, q5, q6⟩
    by_cases z : f_M_isBreach M (nI j) x1 x2 = 0
    · rw [if_pos z]
      refine ⟨k, by omega, rfl, hcb.trans ⟨old, fun q => ?_⟩⟩
      rcases new q with y | y
      · exact y
      · exact absurd z y.1
    · rw [if_neg z]
      by_cases z2 : nI db < nI d - 28
      · rw [if_pos z2]
        rw [Int32.lt_iff_toInt_lt, s28, edi] at z2
        refine ⟨k, by omega, rfl, hcb.trans ⟨old, fun q => ?_⟩⟩
        rcases new q with y | y
        · exact y
        · omega
      · rw [if_neg z2]
        rw [Int32.lt_iff_toInt_lt, s28, edi] at z2
        by_cases z3 : nI d - 1 < nI db
        · rw [if_pos z3]
          rw [Int32.lt_iff_toInt_lt, s1, edi] at z3
          refine ⟨k, by omega, rfl, hcb.trans ⟨old, fun q => ?_⟩⟩
          rcases new q with y | y
          · exact y
          · omega
        · rw [if_neg z3]
          rw [Int32.lt_iff_toInt_lt, s1, edi] at z3
          refine ⟨k + 1, by omega, nI_1 k, ⟨fun _ => ⟨j, by omega, z, db, edb, hdb, by omega, by omega⟩, fun _ => by omega⟩⟩
theorem dk_inner {pw : dk_PW} {xs : Nat → Int32} {M : hd_Mem} (I : dk_inv pw xs M) {x1 x2 x3 : Int32} {d a : Nat} (ha : a < dk_na (M 68)) (ea : M 68 (399 + a) = nI d) (hd : d < 365) : ∀ j, j ≤ dk_na (M 68) →
    (¬ (¬ f_M_isBreach M (nI a) x1 x2 = 0 ∧ dk_cb M x1 x2 d a j) → a_M_court_41 M x1 x2 x3 (nI a) j = x3) ∧ ((¬ f_M_isBreach M (nI a) x1 x2 = 0 ∧ dk_cb M x1 x2 d a j) → a_M_court_41 M x1 x2 x3 (nI a) j = (if x3 < 0 then nI d else if x3 ≤ nI d then x3 else nI d)) := by
  have h1 := I.1
  obtain ⟨n, hn, e1, e2, e3, e4⟩ := dk_na_of I
  intro j
  induction j with
  | zero => intro _; exact ⟨fun _ => rfl, fun ⟨_, b, q, _⟩ => absurd q (by omega)⟩
  | succ j ih =>
    intro hj
    obtain ⟨i1, i2⟩ := ih (by omega)
    have hj30 : j < 30 := by omega
    obtain ⟨db, hdb, edb⟩ := hd_in_of (h1.2.2.2.2.2.2.2.2.2.1 j (by omega)).2.1 (by omega)
    have ca : (399 + nI a).toNatClampNeg = 399 + a := dk_ix (a := 399) (b := a) (by omega)
    have cj : (399 + nI j).toNatClampNeg = 399 + j := dk_ix (a := 399) (b := j) (by omega)
    have sd : (nI d - nI db).toInt = (d : Int) - db := pk_sub_toInt (by omega) (by omega)
    have idem : ∀ y : Int32, y = (if x3 < 0 then nI d else if x3 ≤ nI d then x3 else nI d) → (if y < 0 then nI d else (if y ≤ nI d then y else nI d)) = y := by
      intro y hy
      have hn0 : ¬ nI d < 0 := nI_pos (by omega)
      by_cases z1 : x3 < 0
      · rw [if_pos z1] at hy
        rw [hy, if_neg hn0, if_pos (Int32.le_refl _)]
      · rw [if_neg z1] at hy
        by_cases z2 : x3 ≤ nI d
        · rw [if_pos z2] at hy
          rw [hy, if_neg z1, if_pos z2]
        · rw [if_neg z2] at hy
          rw [hy, if_neg hn0, if_pos (Int32.le_refl _)]
    have st : a_M_court_41 M x1 x2 x3 (nI a) (j + 1) = t_M_court_41 M x1 x2 (a_M_court_41 M x1 x2 x3 (nI a) j) (nI a) (nI j) := rfl
    rw [st]
    unfold t_M_court_41
    rw [ca, cj, ea, edb]
    have new : dk_cb M x1 x2 d a (j + 1) ↔ dk_cb M x1 x2 d a j ∨ (¬ f_M_isBreach M (nI j) x1 x2 = 0 ∧ db + 1 ≤ d ∧ d ≤ db + 28) := by
      constructor
      · rintro ⟨b, q1, q2, dd, q3, q4, q5, q6⟩
        by_cases z : b = j
        · right
          subst z
          have : dd = db := (nI_eq (by omega) (by omega)).mp (q3.symm.trans edb)
          subst this
          exact ⟨q2, q5, q6⟩
        · left
          exact ⟨b, by omega, q2, dd, q3, q4, q5, q6⟩
      · rintro (⟨b, q1, q2⟩ | ⟨q1, q2, q3⟩)
        · exact ⟨b, by omega, q2⟩
        · exact ⟨j, by omega, q1, db, edb, hdb, q2, q3⟩
    have hwin : f_M_within (nI d - nI db) 1 28 = 0 ↔ ¬ (db + 1 ≤ d ∧ d ≤ db + 28) := by
      unfold f_M_within
      have e1' : (1 : Int32).toInt = 1 := by decide
      have e28 : (28 : Int32).toInt = 28 := by decide
      by_cases y : nI d - nI db < 1
      · rw [if_pos y]
        rw [Int32.lt_iff_toInt_lt, sd, e1'] at y
        simp; omega
      · rw [if_neg y]
        rw [Int32.lt_iff_toInt_lt, sd, e1'] at y
        by_cases y2 : 28 < nI d - nI db
        · rw [if_pos y2]
          rw [Int32.lt_iff_toInt_lt, sd, e28] at y2
          simp; omega
        · rw [if_neg y2]
          rw [Int32.lt_iff_toInt_lt, sd, e28] at y2
          simp; omega
    by_cases z : f_M_isBreach M (nI a) x1 x2 = 0
    · rw [if_pos z]
      exact ⟨fun _ => i1 (fun q => q.1 z), fun q => absurd z q.1⟩
    rw [if_neg z]
    have skip : ¬ (¬ f_M_isBreach M (nI j) x1 x2 = 0 ∧ db + 1 ≤ d ∧ d ≤ db + 28) → ((¬ (¬ f_M_isBreach M (nI a) x1 x2 = 0 ∧ dk_cb M x1 x2 d a (j + 1)) → a_M_court_41 M x1 x2 x3 (nI a) j = x3) ∧ ((¬ f_M_isBreach M (nI a) x1 x2 = 0 ∧ dk_cb M x1 x2 d a (j + 1)) → a_M_court_41 M x1 x2 x3 (nI a) j = (if x3 < 0 then nI d else if x3 ≤ nI d then x3 else nI d))) := by
      intro hs
      have : dk_cb M x1 x2 d a (j + 1) ↔ dk_cb M x1 x2 d a j := new.trans ⟨fun q => q.elim id (fun y => absurd y hs), Or.inl⟩
      rw [this]
      exact ⟨i1, i2⟩
    by_cases z2 : f_M_isBreach M (nI j) x1 x2 = 0
    · rw [if_pos z2]
      exact skip (fun q => q.1 z2)
    rw [if_neg z2]
    by_cases z3 : f_M_within (nI d - nI db) 1 28 = 0
    · rw [if_pos z3]
      exact skip (fun q => (hwin.mp z3) q.2)
    rw [if_neg z3]
    have z3' : db + 1 ≤ d ∧ d ≤ db + 28 := by
      by_cases y : db + 1 ≤ d ∧ d ≤ db + 28
      · exact y
      · exact absurd (hwin.mpr y) z3
    have hcbj : dk_cb M x1 x2 d a (j + 1) := new.mpr (Or.inr ⟨z2, z3'⟩)
    refine ⟨fun q => absurd ⟨z, hcbj⟩ q, fun _ => ?_⟩
    by_cases y : ¬ f_M_isBreach M (nI a) x1 x2 = 0 ∧ dk_cb M x1 x2 d a j
    · have e := i2 y
      rw [idem _ e]; exact e
    · rw [i1 y]
theorem dk_outer {pw : dk_PW} {xs : Nat → Int32} {M : hd_Mem} (I : dk_inv pw xs M) {x1 x2 : Int32} : ∀ i, i ≤ dk_na (M 68) → ∃ v, v ≤ 365 ∧ a_Ab_courtDay_7 M x1 x2 365 i = nI v ∧ a_M_court_27 M x1 x2 (-1) i = (if v = 365 then -1 else nI v) := by
  have h1 := I.1
  obtain ⟨n, hn, e1, e2, e3, e4⟩ := dk_na_of I
  have cl1 : (M 4 3).toNatClampNeg = n := by rw [e1]; exact nI_clamp (by omega)
  have cl2 : (M 68 3).toNatClampNeg = n := by rw [e2]; exact nI_clamp (by omega)
  intro i
  induction i with
  | zero => intro _; exact ⟨365, Nat.le_refl _, rfl, rfl⟩
  | succ i ih =>
    intro hi
    obtain ⟨v, hv, ed, em⟩ := ih (by omega)
    have hi30 : i < 30 := by omega
    obtain ⟨d, hd, edd⟩ := hd_in_of (h1.2.2.2.2.2.2.2.2.2.1 i (by omega)).2.1 (by omega)
    have e29 : M 29 i = nI d := by rw [dk_rd I (c := 29) (b := 399 + i) (by simp) (show i < 30 by omega) rfl (dk_lv_a (by omega) hi30 (by simp))]; exact edd
    have sD : a_Ab_courtDay_7 M x1 x2 365 (i + 1) = t_Ab_courtDay_7 M x1 x2 (a_Ab_courtDay_7 M x1 x2 365 i) (nI i) := rfl
    have sM : a_M_court_27 M x1 x2 (-1) (i + 1) = a_M_court_41 M x1 x2 (a_M_court_27 M x1 x2 (-1) i) (nI i) (M 68 3).toNatClampNeg := rfl
    rw [sD, sM, ed, cl2]
    unfold t_Ab_courtDay_7 f_Ab_countBreaches
    rw [nI_clamp (show i < 2 ^ 31 by omega), e29, dk_isb I (by omega) hi30, cl1]
    obtain ⟨k, hk, ek, hcb⟩ := dk_cnt (x1 := x1) (x2 := x2) (a := i) I hd n (by omega)
    obtain ⟨i1, i2⟩ := dk_inner (x1 := x1) (x2 := x2) (x3 := a_M_court_27 M x1 x2 (-1) i) I (show i < dk_na (M 68) by omega) edd hd n (by omega)
    rw [ek]
    have hk0 : nI k ≤ 0 ↔ ¬ 0 < k := by
      rw [show (0 : Int32) = nI 0 from rfl, nI_leI (by omega) (by omega)]; omega
    have hvd : nI v ≤ nI d ↔ v ≤ d := nI_leI (by omega) (by omega)
    by_cases P : ¬ f_M_isBreach M (nI i) x1 x2 = 0 ∧ dk_cb M x1 x2 d i n
    · rw [i2 P, em]
      by_cases y : v ≤ d
      · refine ⟨v, hv, by rw [if_pos (hvd.mpr y)], ?_⟩
        have hv3 : v ≠ 365 := by omega
        rw [if_neg hv3, if_neg (nI_pos (by omega)), if_pos (hvd.mpr y)]
      · refine ⟨d, by omega, by rw [if_neg (fun q => y (hvd.mp q)), if_neg P.1, if_neg (fun q => (hk0.mp q) (hcb.mpr P.2))], ?_⟩
        rw [if_neg (show d ≠ 365 by omega)]
        by_cases hv3 : v = 365
        · rw [if_pos hv3, if_pos (by decide)]
        · rw [if_neg hv3, if_neg (nI_pos (by omega)), if_neg (fun q => y (hvd.mp q))]
    · rw [i1 P]
      refine ⟨v, hv, ?_, em⟩
      by_cases y : nI v ≤ nI d
      · rw [if_pos y]
      · rw [if_neg y]
        by_cases z : f_M_isBreach M (nI i) x1 x2 = 0
        · rw [if_pos z]
        · rw [if_neg z, if_pos (hk0.mpr (fun q => P ⟨z, hcb.mp q⟩))]
theorem dk_same_court {pw : dk_PW} {xs : Nat → Int32} {Ls : Nat} {M : hd_Mem} (I : dk_inv pw xs M) (x1 x2 : Int32) : dk_same pw xs Ls D_court M_court [.int x1, .int x2] M := by
  have hP := dk_pers I x1
  have h1 := I.1
  obtain ⟨n, hn, e1, e2, e3, e4⟩ := dk_na_of I
  have cl1 : (M 4 3).toNatClampNeg = n := by rw [e1]; exact nI_clamp (by omega)
  have cl2 : (M 68 3).toNatClampNeg = n := by rw [e2]; exact nI_clamp (by omega)
  have r399 : ∀ i, i < 30 → hd_okR Ls 68 (399 + nI i) := fun i hi => by
    rw [show (399 : Int32) + nI i = nI 399 + nI i from rfl, nI_add]
    exact hd_okR_n rfl (show 399 + i < 459 by omega) (by omega)
  have GM : ∀ M' : hd_Mem, M' 68 = M 68 → g_M_court Ls M' x1 x2 := by
    intro M' q8 _ _
    rw [q8, cl2]
    refine ⟨by omega, fun _ _ => by rw [q8]; exact e2, fun i hi => ?_⟩
    unfold gb_M_court_27
    rw [q8, cl2]
    refine ⟨by omega, fun _ _ => by rw [q8]; exact e2, fun j hj => ?_⟩
    exact ⟨r399 i (by omega), r399 j (by omega), (dk_gisb (by omega)).2, fun _ => ⟨(dk_gisb (by omega)).2, fun _ _ => ⟨fun _ => r399 i (by omega), fun _ => ⟨r399 i (by omega), fun _ => r399 i (by omega)⟩⟩⟩⟩
  have GD : g_D_court Ls M x1 x2 := by
    intro _ _
    unfold g_Ab_courtDay
    rw [cl1]
    refine ⟨by omega, fun _ _ => e1, fun i hi => ?_⟩
    have r29 : hd_okR Ls 29 (nI i) := hd_okR_n rfl (show i < 30 by omega) (by omega)
    refine ⟨r29, fun _ => ⟨(dk_gisb (by omega)).1, fun _ => ⟨r29, r29, ?_, fun _ => r29⟩⟩⟩
    unfold g_Ab_countBreaches
    rw [cl1]
    exact ⟨by omega, fun _ _ => e1, fun i hi => ⟨(dk_gisb (by omega)).1, fun _ => ⟨hd_okR_n rfl (show i < 30 by omega) (by omega), fun _ => hd_okR_n rfl (show i < 30 by omega) (by omega)⟩⟩⟩
  have hD := s_D_court GD
  unfold f_D_court at hD
  rw [hP] at hD
  by_cases c1 : f_M_within x1 0 (M 68 0 - 1) = 0
  · rw [if_pos c1] at hD
    have hM := s_M_court (GM _ (dk_find68 (x := -100001)))
    unfold f_M_court f_M_isPerson at hM
    rw [dk_find68, if_pos c1] at hM
    exact dk_finds _ I hD hM
  rw [if_neg c1] at hD
  by_cases c2 : f_M_isDay x2 = 0
  · rw [if_pos (show f_D_isDay x2 = 0 from c2)] at hD
    have hM := s_M_court (GM _ (dk_find68 (x := -100001)))
    unfold f_M_court f_M_isPerson at hM
    rw [dk_find68, if_neg c1, if_pos c2] at hM
    exact dk_finds _ I hD hM
  rw [if_neg (show ¬ f_D_isDay x2 = 0 from c2)] at hD
  obtain ⟨v, hv, ed, em⟩ := dk_outer (x1 := x1) (x2 := x2) I n (by omega)
  unfold f_Ab_courtDay at hD
  rw [cl1, ed] at hD
  have hday : f_D_isDay (nI v) = 0 ↔ v = 365 := by
    unfold f_D_isDay f_D_within
    rw [if_neg (nI_pos (by omega)), show (364 : Int32) = nI 364 from rfl]
    by_cases z : v = 365
    · rw [if_pos ((nI_ltI (by omega) (by omega)).mpr (by omega))]; simp [z]
    · rw [if_neg (fun q => by have := (nI_ltI (show 364 < 2 ^ 31 by omega) (show v < 2 ^ 31 by omega)).mp q; omega)]; simp [z]
  by_cases c3 : v = 365
  · rw [if_pos (hday.mpr c3)] at hD
    have em' : ∀ M' : hd_Mem, M' 68 = M 68 → a_M_court_27 M' x1 x2 (-1) n = -1 := by
      intro M' q8
      have hb : ∀ a, f_M_isBreach M' a x1 x2 = f_M_isBreach M a x1 x2 := fun a => by unfold f_M_isBreach; rw [q8]
      have inn : ∀ x3 a j, a_M_court_41 M' x1 x2 x3 a j = a_M_court_41 M x1 x2 x3 a j := by
        intro x3 a j
        induction j with
        | zero => rfl
        | succ j ih =>
          show t_M_court_41 M' x1 x2 (a_M_court_41 M' x1 x2 x3 a j) a (nI j) = t_M_court_41 M x1 x2 (a_M_court_41 M x1 x2 x3 a j) a (nI j)
          rw [ih]
          unfold t_M_court_41
          rw [hb, hb, q8]
      have out : ∀ i, a_M_court_27 M' x1 x2 (-1) i = a_M_court_27 M x1 x2 (-1) i := by
        intro i
        induction i with
        | zero => rfl
        | succ i ih =>
          show a_M_court_41 M' x1 x2 (a_M_court_27 M' x1 x2 (-1) i) (nI i) (M' 68 3).toNatClampNeg = a_M_court_41 M x1 x2 (a_M_court_27 M x1 x2 (-1) i) (nI i) (M 68 3).toNatClampNeg
          rw [ih, inn, q8]
      rw [out, em, if_pos c3]
    have hM := s_M_court (GM _ (dk_find68 (x := -100006)))
    unfold f_M_court f_M_isPerson at hM
    rw [dk_find68, if_neg c1, if_neg c2, cl2, em' _ dk_find68, if_neg (by decide)] at hM
    exact dk_finds _ I hD hM
  · rw [if_neg (fun q => c3 (hday.mp q))] at hD
    have hM := s_M_court (GM M rfl)
    unfold f_M_court f_M_isPerson at hM
    rw [if_neg c1, if_neg c2, cl2, em, if_neg c3, if_pos (nI_pos' (by omega))] at hM
    exact dk_asks I hD hM
