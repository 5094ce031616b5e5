/-! copy -/
/-- the reference's scratch doesn't matter -/
theorem dk_scr {pw : dk_PW} {xs : Nat → Int32} {M M2 : hd_Mem} (I : dk_inv pw xs M) (ho : ∀ c, c ≠ 67 → c ∉ [73, 74, 75, 76, 77] → M2 c = M c) (h67 : ∀ j, j ≠ 8 → j ≠ 9 → M2 67 j = M 67 j) : dk_inv pw xs M2 := by
  obtain ⟨h1, h2, ⟨h3, h4, h5, h6⟩, h7, h8, h9, h10, h11, h12, h13⟩ := I
  have edv : hd_dv M2 = hd_dv M := hd_dv_out2 (fun c hc => ho c (by rintro rfl; simp at hc) (by simp at hc ⊢; omega))
  have eac : dk_ac M2 = dk_ac M := by
    funext i
    unfold dk_ac
    have hy := Nat.mod_lt ((M 6 5).toNatClampNeg + 19 - i) (show 0 < 20 by omega)
    rw [ho 6 (by decide) (by simp), ho 38 (by decide) (by simp), ho 39 (by decide) (by simp), ho 40 (by decide) (by simp), ho (42 + ((M 6 5).toNatClampNeg + 19 - i) % 20) (by omega) (by simp; omega)]
  have epa : dk_pa M2 = dk_pa M := by
    funext i
    unfold dk_pa
    rw [h67 2 (by decide) (by decide), ho 69 (by decide) (by simp)]
  refine ⟨by rw [ho 68 (by decide) (by simp)]; exact h1, by rw [edv, ho 68 (by decide) (by simp)]; exact h2, ⟨by rw [h67 2 (by decide) (by decide)]; exact h3, by rw [h67 2 (by decide) (by decide), ho 6 (by decide) (by simp)]; exact h4, by rw [ho 6 (by decide) (by simp)]; exact h5, by rw [h67 2 (by decide) (by decide), eac, epa, edv]; exact h6⟩, ?_, by rw [ho 0 (by decide) (by simp), h67 3 (by decide) (by decide)]; exact h8, by rw [ho 25 (by decide) (by simp), ho 26 (by decide) (by simp), ho 27 (by decide) (by simp)]; exact h9, ?_, by rw [ho 62 (by decide) (by simp)]; exact h11, by rw [ho 78 (by decide) (by simp)]; exact h12, by rw [ho 79 (by decide) (by simp), ho 63 (by decide) (by simp)]; exact h13⟩
  · intro s hs
    have := h7 s hs
    unfold dk_sh at this ⊢
    rw [ho 31 (by decide) (by simp), ho 32 (by decide) (by simp), ho 70 (by decide) (by simp), ho 71 (by decide) (by simp), ho 72 (by decide) (by simp), ho (34 + s) (by omega) (by simp; omega)]
    exact this
  · unfold dk_plan
    rw [ho 7 (by decide) (by simp), edv]; exact h10
theorem dk_part {M : hd_Mem} {a n : Nat} {x c : Int32} (ha : a < 4) (hn : n < 21) (hM : M 32 a = nI n) : f_Sh_hasPart M (nI a) x c = 0 ↔ ¬ (0 ≤ x.toInt ∧ 0 ≤ c.toInt ∧ x.toInt + c.toInt ≤ n) := by
  unfold f_Sh_hasPart
  rw [nI_clamp (show a < 2 ^ 31 by omega), hM]
  have e0 : (0 : Int32).toInt = 0 := by decide
  have en : (nI n).toInt = n := nI_toInt (by omega)
  by_cases h1 : x < 0
  · rw [if_pos h1]
    rw [Int32.lt_iff_toInt_lt, e0] at h1
    simp; omega
  · rw [if_neg h1]
    rw [Int32.lt_iff_toInt_lt, e0] at h1
    by_cases h2 : c < 0
    · rw [if_pos h2]
      rw [Int32.lt_iff_toInt_lt, e0] at h2
      simp; omega
    · rw [if_neg h2]
      rw [Int32.lt_iff_toInt_lt, e0] at h2
      by_cases h3 : nI n < c
      · rw [if_pos h3]
        rw [Int32.lt_iff_toInt_lt, en] at h3
        simp; omega
      · rw [if_neg h3]
        rw [Int32.lt_iff_toInt_lt, en] at h3
        obtain ⟨k, hk, rfl⟩ : ∃ k : Nat, k ≤ n ∧ c = nI k := by
          refine ⟨c.toInt.toNat, by omega, ?_⟩
          rw [← Int32.toInt_inj, nI_toInt (by omega)]; omega
        have ek : (nI k).toInt = k := nI_toInt (by omega)
        rw [pk_sub hk]
        have e4 : (nI (n - k)).toInt = ((n - k : Nat) : Int) := nI_toInt (by omega)
        by_cases h4 : nI (n - k) < x
        · rw [if_pos h4]
          rw [Int32.lt_iff_toInt_lt, e4] at h4
          rw [ek]
          simp; omega
        · rw [if_neg h4]
          rw [Int32.lt_iff_toInt_lt, e4] at h4
          rw [ek]
          simp; omega
theorem dk_long {x c : Int32} {n : Nat} (hn : n < 21) : (0 < lg_cmp (x.toInt64 + c.toInt64) (nI n).toInt64 ↔ (n : Int) < x.toInt + c.toInt) ∧ (lg_cmp (x.toInt64 + c.toInt64) (nI n).toInt64 ≤ 0 ↔ x.toInt + c.toInt ≤ n) := by
  have e : (nI n).toInt64 < x.toInt64 + c.toInt64 ↔ (n : Int) < x.toInt + c.toInt := by
    rw [Int64.lt_iff_toInt_lt, Int64.toInt_add, Int32.toInt_toInt64, Int32.toInt_toInt64, Int32.toInt_toInt64, nI_toInt (by omega)]
    have h1 := Int32.le_toInt x
    have h2 := Int32.toInt_lt x
    have h3 := Int32.le_toInt c
    have h4 := Int32.toInt_lt c
    rw [Int.bmod_eq_of_le (by omega) (by omega)]
  have k : (0 < lg_cmp (x.toInt64 + c.toInt64) (nI n).toInt64 ↔ (nI n).toInt64 < x.toInt64 + c.toInt64) ∧ (lg_cmp (x.toInt64 + c.toInt64) (nI n).toInt64 ≤ 0 ↔ ¬ (nI n).toInt64 < x.toInt64 + c.toInt64) := by
    unfold lg_cmp
    by_cases h : x.toInt64 + c.toInt64 > (nI n).toInt64
    · rw [if_pos h]
      exact ⟨⟨fun _ => h, fun _ => by decide⟩, ⟨fun q => absurd q (by decide), fun q => absurd h q⟩⟩
    · rw [if_neg h]
      have h' : ¬ (nI n).toInt64 < x.toInt64 + c.toInt64 := h
      split
      · exact ⟨⟨fun q => absurd q (by decide), fun q => absurd q h'⟩, ⟨fun _ => h', fun _ => by decide⟩⟩
      · exact ⟨⟨fun q => absurd q (by decide), fun q => absurd q h'⟩, ⟨fun _ => h', fun _ => by decide⟩⟩
  refine ⟨k.1.trans e, k.2.trans ?_⟩
  rw [e]; omega
theorem dk_mcopy1 (M : hd_Mem) (a b f t c : Nat) (x3 x4 x5 : Int32) (ha : a < 4) (hf : f + c ≤ 20) : ∀ m, m ≤ c → a_M_copy_127 M (nI a) (nI f) x3 x4 x5 m = fun z k => if z = 77 ∧ k < m then M 72 (20 * a + f + k) else M z k := by
  intro m
  induction m with
  | zero => intro _; funext z k; simp [a_M_copy_127]
  | succ m ih =>
    intro hm
    show t_M_copy_127 (a_M_copy_127 M (nI a) (nI f) x3 x4 x5 m) (nI a) (nI f) x3 x4 x5 (nI m) = _
    rw [ih (by omega)]
    unfold t_M_copy_127
    simp only [show ¬ (72 : Nat) = 77 by decide, false_and, if_false]
    rw [show (20 : Int32) * nI a = nI 20 * nI a from rfl, pk_mul, nI_add, dk_ix (by omega), nI_clamp (show m < 2 ^ 31 by omega)]
    funext z k
    simp only [hd_set]
    by_cases h1 : z = 77
    · by_cases h2 : k = m
      · subst h2; simp [h1]
      · by_cases h3 : k < m
        · simp [h1, h2, h3, show k < m + 1 by omega]
        · simp [h1, h2, h3, show ¬ k < m + 1 by omega]
    · simp [h1]
theorem dk_mcopy2 (M : hd_Mem) (b t c : Nat) (x1 x2 x5 : Int32) (hb : b < 4) (hf : t + c ≤ 20) : ∀ m, m ≤ c → a_M_copy_164 M x1 x2 (nI b) (nI t) x5 m = fun z k => if z = 72 ∧ 20 * b + t ≤ k ∧ k < 20 * b + t + m then M 77 (k - (20 * b + t)) else M z k := by
  intro m
  induction m with
  | zero =>
    intro _; funext z k
    have : ¬ (z = 72 ∧ 20 * b + t ≤ k ∧ k < 20 * b + t + 0) := by omega
    simp only [a_M_copy_164, this, if_false]
  | succ m ih =>
    intro hm
    show t_M_copy_164 (a_M_copy_164 M x1 x2 (nI b) (nI t) x5 m) x1 x2 (nI b) (nI t) x5 (nI m) = _
    rw [ih (by omega)]
    unfold t_M_copy_164
    simp only [show ¬ (77 : Nat) = 72 by decide, false_and, if_false]
    rw [show (20 : Int32) * nI b = nI 20 * nI b from rfl, pk_mul, nI_add, dk_ix (by omega), nI_clamp (show m < 2 ^ 31 by omega)]
    funext z k
    simp only [hd_set]
    by_cases h1 : z = 72
    · by_cases h2 : k = 20 * b + t + m
      · subst h2; simp [h1]
      · by_cases h3 : 20 * b + t ≤ k ∧ k < 20 * b + t + m
        · have h4 : 20 * b + t ≤ k ∧ k < 20 * b + t + (m + 1) := by omega
          simp only [h1, h2, h3, h4, and_self, and_false, if_true, if_false]
        · have h4 : ¬ (20 * b + t ≤ k ∧ k < 20 * b + t + (m + 1)) := by omega
          simp only [h1, h2, h3, h4, and_false, if_false]
    · simp [h1]
theorem dk_copyI {pw : dk_PW} {xs : Nat → Int32} {M : hd_Mem} {a b f t c : Nat} (I : dk_inv pw xs M) (ha : a < 4) (hb : b < 4) (hf : f + c ≤ 20) (ht : t + c ≤ 20) {x5 : Int32} : dk_inv pw xs (a_M_copy_164 (a_M_copy_127 (hd_cpy M (34 + a) (34 + b) f t c) (nI a) (nI f) (nI b) (nI t) x5 c) (nI a) (nI f) (nI b) (nI t) x5 c) := by
  rw [dk_mcopy2 _ b t c _ _ _ hb ht c (Nat.le_refl _), dk_mcopy1 _ a b f t c _ _ _ ha hf c (Nat.le_refl _)]
  have h7 := I.2.2.2.1
  -- without the scratch
  have I2 : dk_inv pw xs (fun z k => if z = 72 ∧ 20 * b + t ≤ k ∧ k < 20 * b + t + c then M 72 (20 * a + f + (k - (20 * b + t))) else hd_cpy M (34 + a) (34 + b) f t c z k) := by
    refine dk_shI I ?_ ?_
    · intro z hz
      simp at hz
      funext k
      rw [if_neg (by omega)]
      unfold hd_cpy
      rw [if_neg (by omega)]
    · intro s hs
      have h8 := h7 s hs
      unfold dk_sh at h8 ⊢
      obtain ⟨k1, k2, k3, k4, k5⟩ := h8
      have o : ∀ z, z ≠ 34 + b → z ≠ 72 → (fun k => if z = 72 ∧ 20 * b + t ≤ k ∧ k < 20 * b + t + c then M 72 (20 * a + f + (k - (20 * b + t))) else hd_cpy M (34 + a) (34 + b) f t c z k) = M z := by
        intro z h1 h2
        funext k
        rw [if_neg (by omega)]
        unfold hd_cpy
        rw [if_neg (by omega)]
      refine ⟨?_, ?_, ?_, ?_, fun i hi => ?_⟩
      · have e1 := congrFun (o 31 (by omega) (by omega)) s
        have e2 := congrFun (o 70 (by omega) (by omega)) s
        dsimp only at e1 e2 ⊢
        rw [e1, e2]; exact k1
      · have e1 := congrFun (o 32 (by omega) (by omega)) s
        have e2 := congrFun (o 71 (by omega) (by omega)) s
        dsimp only at e1 e2 ⊢
        rw [e1, e2]; exact k2
      · have e1 := congrFun (o 31 (by omega) (by omega)) s
        dsimp only at e1 ⊢
        rw [e1]; exact k3
      · have e1 := congrFun (o 32 (by omega) (by omega)) s
        dsimp only at e1 ⊢
        rw [e1]; exact k4
      · dsimp only
        rw [if_neg (by omega)]
        unfold hd_cpy
        by_cases hsb : s = b
        · subst hsb
          by_cases hr : t ≤ i ∧ i < t + c
          · rw [if_pos (by omega), if_pos (by omega), (h7 a ha).2.2.2.2 (f + (i - t)) (by omega)]
            congr 1; omega
          · rw [if_neg (by omega), if_neg (by omega), if_neg (by omega)]
            exact k5 i hi
        · rw [if_neg (by omega), if_neg (by omega), if_neg (by omega)]
          exact k5 i hi
  refine dk_scr I2 ?_ ?_
  · intro z hz1 hz2
    simp at hz2
    funext k
    by_cases h72 : z = 72 ∧ 20 * b + t ≤ k ∧ k < 20 * b + t + c
    · obtain ⟨rfl, hk1, hk2⟩ := h72
      simp only [hk1, hk2, and_self, if_true, true_and, show k - (20 * b + t) < c by omega]
      unfold hd_cpy
      rw [if_neg (by omega)]
    · have h77 : ¬ (z = 77 ∧ k < c) := by omega
      simp only [h72, h77, if_false]
  · intro j _ _
    simp
theorem dk_same_copy {pw : dk_PW} {xs : Nat → Int32} {Ls : Nat} {M : hd_Mem} (I : dk_inv pw xs M) (x1 x2 x3 x4 x5 : Int32) : dk_same pw xs Ls D_copy M_copy [.int x1, .int x2, .int x3, .int x4, .int x5] M := by
  have h7 := I.2.2.2.1
  have e0 : (0 : Int32).toInt = 0 := by decide
  have nat : ∀ (x c : Int32) (n : Nat), n < 21 → 0 ≤ x.toInt → 0 ≤ c.toInt → x.toInt + c.toInt ≤ n → ∃ f k : Nat, f + k ≤ n ∧ x = nI f ∧ c = nI k := by
    intro x c n hn h1 h2 h3
    refine ⟨x.toInt.toNat, c.toInt.toNat, by omega, ?_, ?_⟩
    · rw [← Int32.toInt_inj, nI_toInt (by omega)]; omega
    · rw [← Int32.toInt_inj, nI_toInt (by omega)]; omega
  have nz : ∀ x : Int32, (¬ x < 0) ↔ 0 ≤ x.toInt := fun x => by rw [Int32.lt_iff_toInt_lt, e0]; omega
  by_cases c1 : f_M_isSheet x1 = 0
  · have hD := s_D_copy (Ls := Ls) (M := M) (x1 := x1) (x2 := x2) (x3 := x3) (x4 := x4) (x5 := x5) (fun q => absurd c1 q)
    unfold f_D_copy at hD
    rw [if_pos (show f_D_isSheet x1 = 0 from c1)] at hD
    exact dk_findsM _ I hD (fun M' _ => by
      have := s_M_copy (Ls := Ls) (M := M') (x1 := x1) (x2 := x2) (x3 := x3) (x4 := x4) (x5 := x5) (fun q => absurd c1 q)
      unfold f_M_copy at this
      rwa [if_pos c1] at this)
  by_cases c2 : f_M_isSheet x3 = 0
  · have hD := s_D_copy (Ls := Ls) (M := M) (x1 := x1) (x2 := x2) (x3 := x3) (x4 := x4) (x5 := x5) (fun _ q => absurd c2 q)
    unfold f_D_copy at hD
    rw [if_neg (show ¬ f_D_isSheet x1 = 0 from c1), if_pos (show f_D_isSheet x3 = 0 from c2)] at hD
    exact dk_findsM _ I hD (fun M' _ => by
      have := s_M_copy (Ls := Ls) (M := M') (x1 := x1) (x2 := x2) (x3 := x3) (x4 := x4) (x5 := x5) (fun _ q => absurd c2 q)
      unfold f_M_copy at this
      rwa [if_neg c1, if_pos c2] at this)
  obtain ⟨a, ha, rfl⟩ := hd_in_of (dk_within (a := 0) (b := 3) (by omega) (by omega) c1).1 (by omega)
  obtain ⟨b, hb, rfl⟩ := hd_in_of (dk_within (a := 0) (b := 3) (by omega) (by omega) c2).1 (by omega)
  have cla : (nI a).toNatClampNeg = a := nI_clamp (by omega)
  have clb : (nI b).toNatClampNeg = b := nI_clamp (by omega)
  obtain ⟨g1, g2, g3, g4, g5⟩ := h7 a ha
  obtain ⟨r1, r2, r3, r4, r5⟩ := h7 b hb
  obtain ⟨n, hn, en⟩ := hd_in_of g4 (by omega)
  obtain ⟨m, hm, em⟩ := hd_in_of r4 (by omega)
  have pa : ∀ x c, f_Sh_hasPart M (nI a) x c = 0 ↔ ¬ (0 ≤ x.toInt ∧ 0 ≤ c.toInt ∧ x.toInt + c.toInt ≤ n) := fun x c => dk_part ha hn en
  have pb : ∀ x c, f_Sh_hasPart M (nI b) x c = 0 ↔ ¬ (0 ≤ x.toInt ∧ 0 ≤ c.toInt ∧ x.toInt + c.toInt ≤ m) := fun x c => dk_part hb hm em
  have o31a : hd_okR Ls 31 (nI a) := hd_okR_n rfl ha (by omega)
  have o31b : hd_okR Ls 31 (nI b) := hd_okR_n rfl hb (by omega)
  have o32a : hd_okR Ls 32 (nI a) := hd_okR_n rfl ha (by omega)
  have o32b : hd_okR Ls 32 (nI b) := hd_okR_n rfl hb (by omega)
  have GD : g_D_copy Ls M (nI a) x2 (nI b) x4 x5 := by
    intro _ _
    refine ⟨o31a, fun _ => ⟨o31b, fun _ => ⟨o31a, o31b, fun _ => ⟨fun _ _ => ⟨o32a, fun _ => o32a⟩, fun q1 => ⟨fun _ _ => ⟨o32b, fun _ => o32b⟩, fun q2 => ⟨hd_in_nI ha (by omega), hd_in_nI hb (by omega), ?_, ?_⟩⟩⟩⟩⟩⟩
    · rw [pa, Classical.not_not] at q1
      rw [cla]
      exact ⟨by omega, 20, dk_lay34 a ha, q1.1, q1.2.1, by omega⟩
    · rw [pb, Classical.not_not] at q2
      rw [clb]
      exact ⟨by omega, 20, dk_lay34 b hb, q2.1, q2.2.1, by omega⟩
  have hD := s_D_copy GD
  unfold f_D_copy f_Sh_isMissing at hD
  rw [if_neg (show ¬ f_D_isSheet (nI a) = 0 from c1), if_neg (show ¬ f_D_isSheet (nI b) = 0 from c2), cla, clb] at hD
  have GM : ∀ M' : hd_Mem, M' 71 = M 71 → g_M_copy Ls M' (nI a) x2 (nI b) x4 x5 := by
    intro M' q71 _ _
    have o70a : hd_okR Ls 70 (nI a) := hd_okR_n rfl ha (by omega)
    have o70b : hd_okR Ls 70 (nI b) := hd_okR_n rfl hb (by omega)
    refine ⟨o70a, fun _ => ⟨o70b, fun _ => ⟨o70a, o70b, fun _ z2 z4 z5 => ⟨hd_okR_n rfl ha (by omega), fun w1 => ⟨hd_okR_n rfl hb (by omega), fun w2 => ?_⟩⟩⟩⟩⟩
    rw [q71, cla, ← g2, en, (dk_long hn).1] at w1
    rw [q71, clb, ← r2, em, (dk_long hm).2] at w2
    rw [nz] at z2 z4 z5
    obtain ⟨f, k, hfk, rfl, rfl⟩ := nat x2 x5 n hn z2 z5 (by omega)
    obtain ⟨t, k2, htk, rfl, ek⟩ := nat x4 (nI k) m hm z4 z5 w2
    have : k = k2 := (nI_eq (by omega) (by omega)).mp ek
    subst this
    rw [nI_clamp (show k < 2 ^ 31 by omega)]
    refine ⟨⟨by omega, fun _ _ => rfl, fun i hi => ?_⟩, ⟨by omega, fun _ _ => rfl, fun i hi => ?_⟩⟩
    · unfold gb_M_copy_127
      rw [show (20 : Int32) * nI a = nI 20 * nI a from rfl, pk_mul, nI_add, nI_add]
      exact ⟨hd_okR_n rfl (show 20 * a + f + i < 80 by omega) (by omega), hd_okW_n (by decide) rfl (show i < 20 by omega) (by omega)⟩
    · unfold gb_M_copy_164
      rw [show (20 : Int32) * nI b = nI 20 * nI b from rfl, pk_mul, nI_add, nI_add]
      exact ⟨hd_okR_n rfl (show i < 20 by omega) (by omega), hd_okW_n (by decide) rfl (show 20 * b + t + i < 80 by omega) (by omega)⟩
  have hMs : ∀ M' : hd_Mem, M' 71 = M 71 → hd_Rt Ls M_copy [.ref 67, .int (nI a), .int x2, .int (nI b), .int x4, .int x5] M' (some (.int (f_M_copy M' (nI a) x2 (nI b) x4 x5).1)) (f_M_copy M' (nI a) x2 (nI b) x4 x5).2 := fun M' q => s_M_copy (GM M' q)
  unfold f_M_copy at hMs
  by_cases c3 : M 31 a = 0
  · rw [if_pos c3, if_neg (by decide)] at hD
    exact dk_findsM _ I hD (fun M' q => by have := hMs M' (q 71 (by decide)); rwa [if_neg c1, if_neg c2, cla, q 70 (by decide), if_pos (by rw [← g1]; exact c3)] at this)
  rw [if_neg c3, if_pos rfl] at hD
  by_cases c4 : M 31 b = 0
  · rw [if_pos c4, if_neg (by decide)] at hD
    exact dk_findsM _ I hD (fun M' q => by have := hMs M' (q 71 (by decide)); rwa [if_neg c1, if_neg c2, cla, clb, q 70 (by decide), if_neg (by rw [← g1]; exact c3), if_pos (by rw [← r1]; exact c4)] at this)
  rw [if_neg c4, if_pos rfl] at hD
  by_cases c5 : M 31 a = M 31 b
  · rw [if_pos c5] at hD
    have hM5 : ∀ M' : hd_Mem, M' 71 = M 71 → M' 70 = M 70 → hd_Rt Ls M_copy [.ref 67, .int (nI a), .int x2, .int (nI b), .int x4, .int x5] M' (some (.int (if x2 < 0 then ((f_M_finding M' (-100001)).1, (f_M_finding M' (-100001)).2) else (if x4 < 0 then ((f_M_finding M' (-100001)).1, (f_M_finding M' (-100001)).2) else (if x5 < 0 then ((f_M_finding M' (-100001)).1, (f_M_finding M' (-100001)).2) else (if 0 < (lg_cmp (x2.toInt64 + x5.toInt64) ((nI n).toInt64)) then ((f_M_finding M' (-100001)).1, (f_M_finding M' (-100001)).2) else (if (lg_cmp (x4.toInt64 + x5.toInt64) ((nI m).toInt64)) ≤ 0 then (x5, (a_M_copy_164 (a_M_copy_127 M' (nI a) x2 (nI b) x4 x5 (x5).toNatClampNeg) (nI a) x2 (nI b) x4 x5 (x5).toNatClampNeg)) else ((f_M_finding M' (-100001)).1, (f_M_finding M' (-100001)).2)))))).1)) (if x2 < 0 then ((f_M_finding M' (-100001)).1, (f_M_finding M' (-100001)).2) else (if x4 < 0 then ((f_M_finding M' (-100001)).1, (f_M_finding M' (-100001)).2) else (if x5 < 0 then ((f_M_finding M' (-100001)).1, (f_M_finding M' (-100001)).2) else (if 0 < (lg_cmp (x2.toInt64 + x5.toInt64) ((nI n).toInt64)) then ((f_M_finding M' (-100001)).1, (f_M_finding M' (-100001)).2) else (if (lg_cmp (x4.toInt64 + x5.toInt64) ((nI m).toInt64)) ≤ 0 then (x5, (a_M_copy_164 (a_M_copy_127 M' (nI a) x2 (nI b) x4 x5 (x5).toNatClampNeg) (nI a) x2 (nI b) x4 x5 (x5).toNatClampNeg)) else ((f_M_finding M' (-100001)).1, (f_M_finding M' (-100001)).2)))))).2 := by
      intro M' q1 q0
      have := hMs M' q1
      rwa [if_neg c1, if_neg c2, cla, clb, q0, if_neg (by rw [← g1]; exact c3), if_neg (by rw [← r1]; exact c4), if_pos (by rw [← g1, ← r1]; exact c5), q1, ← g2, ← r2, en, em] at this
    by_cases cc : 0 ≤ x2.toInt ∧ 0 ≤ x4.toInt ∧ 0 ≤ x5.toInt ∧ x2.toInt + x5.toInt ≤ n ∧ x4.toInt + x5.toInt ≤ m
    · obtain ⟨y2, y4, y5, yn, ym⟩ := cc
      rw [if_neg (by rw [pa, Classical.not_not]; exact ⟨y2, y5, yn⟩), if_neg (by rw [pb, Classical.not_not]; exact ⟨y4, y5, ym⟩)] at hD
      obtain ⟨f, k, hfk, rfl, rfl⟩ := nat x2 x5 n hn y2 y5 yn
      obtain ⟨t, k2, htk, rfl, ek⟩ := nat x4 (nI k) m hm y4 y5 ym
      have : k = k2 := (nI_eq (by omega) (by omega)).mp ek
      subst this
      rw [nI_clamp (show f < 2 ^ 31 by omega), nI_clamp (show t < 2 ^ 31 by omega), nI_clamp (show k < 2 ^ 31 by omega)] at hD
      have h := hM5 (hd_cpy M (34 + a) (34 + b) f t k) (hd_cpy_ne (by omega)) (hd_cpy_ne (by omega))
      rw [if_neg ((nz _).mpr y2), if_neg ((nz _).mpr y4), if_neg ((nz _).mpr y5), if_neg (by rw [(dk_long hn).1]; omega), if_pos (by rw [(dk_long hm).2]; exact ym), nI_clamp (show k < 2 ^ 31 by omega)] at h
      exact ⟨_, _, _, hD, h, dk_copyI I ha hb (by omega) (by omega)⟩
    · have hD1 : hd_Rt Ls D_copy [.ref 0, .int (nI a), .int x2, .int (nI b), .int x4, .int x5] M (some (.int (f_D_finding M (-100001)).1)) (f_D_finding M (-100001)).2 := by
        by_cases z1 : f_Sh_hasPart M (nI a) x2 x5 = 0
        · rw [if_pos z1] at hD; exact hD
        · rw [if_neg z1] at hD
          by_cases z2 : f_Sh_hasPart M (nI b) x4 x5 = 0
          · rw [if_pos z2] at hD; exact hD
          · exfalso
            rw [pa, Classical.not_not] at z1
            rw [pb, Classical.not_not] at z2
            exact cc ⟨z1.1, z2.1, z1.2.1, z1.2.2, z2.2.2⟩
      refine dk_findsM _ I hD1 (fun M' q => ?_)
      have h := hM5 M' (q 71 (by decide)) (q 70 (by decide))
      by_cases z1 : x2 < 0
      · rw [if_pos z1] at h; exact h
      rw [if_neg z1] at h
      by_cases z2 : x4 < 0
      · rw [if_pos z2] at h; exact h
      rw [if_neg z2] at h
      by_cases z3 : x5 < 0
      · rw [if_pos z3] at h; exact h
      rw [if_neg z3] at h
      by_cases z4 : 0 < lg_cmp (x2.toInt64 + x5.toInt64) (nI n).toInt64
      · rw [if_pos z4] at h; exact h
      rw [if_neg z4] at h
      by_cases z5 : lg_cmp (x4.toInt64 + x5.toInt64) (nI m).toInt64 ≤ 0
      · exfalso
        rw [(dk_long hn).1] at z4
        rw [(dk_long hm).2] at z5
        exact cc ⟨(nz _).mp z1, (nz _).mp z2, (nz _).mp z3, by omega, z5⟩
      · rw [if_neg z5] at h; exact h
  · rw [if_neg c5] at hD
    exact dk_findsM _ I hD (fun M' q => by have := hMs M' (q 71 (by decide)); rwa [if_neg c1, if_neg c2, cla, clb, q 70 (by decide), if_neg (by rw [← g1]; exact c3), if_neg (by rw [← r1]; exact c4), if_neg (by rw [← g1, ← r1]; exact c5)] at this)
