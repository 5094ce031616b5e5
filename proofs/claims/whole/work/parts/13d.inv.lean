/-! THE INVARIANT between the desk and the reference -/
def dk_dig (s : Nat) : Int32 := nI ((List.range 8).foldl (fun a p => a + (if s / 2 ^ p % 2 = 1 then 4 ^ (7 - p) else 0)) 0)
def dk_sh (M : hd_Mem) (s : Nat) : Prop := M 31 s = M 70 s ∧ M 32 s = M 71 s ∧ (M 31 s = 0 ∨ M 31 s = 8 ∨ M 31 s = 16 ∨ M 31 s = 32) ∧ hd_in (M 32 s) 21 ∧ ∀ i, i < 20 → M (34 + s) i = M 72 (20 * s + i)
def dk_plan (pw : (Nat → Int32) → Nat → Int32 × Int32) (M : hd_Mem) : Prop := M 7 0 = -1 ∨ ∃ d, d < 365 ∧ M 7 0 = nI d ∧ (M 7 2, M 7 1) = pw (hd_dv M) d
def dk_inv (pw : (Nat → Int32) → Nat → Int32 × Int32) (xs : Nat → Int32) (M : hd_Mem) : Prop :=
  dk_wf (M 68) ∧ dk_live (hd_dv M) (M 68) ∧ (hd_in (M 67 2) 21 ∧ M 6 4 = M 67 2 ∧ hd_in (M 6 5) 20 ∧ dk_hist (M 67 2).toNatClampNeg (dk_ac M) (dk_pa M) (hd_dv M)) ∧
  (∀ s, s < 4 → dk_sh M s) ∧ M 0 7 = M 67 3 ∧ (∀ d, d < 365 → M 25 d = 0 ∧ M 26 d = 0 ∧ M 27 d = 0) ∧ dk_plan pw M ∧ (∀ s, s < 256 → M 62 s = dk_dig s) ∧ M 78 = xs ∧ M 79 = hd_ks ∧ M 63 0 = 0
/-- a finding, told on both sides -/
theorem dk_find {pw : (Nat → Int32) → Nat → Int32 × Int32} {xs : Nat → Int32} {M : hd_Mem} {x : Int32} (I : dk_inv pw xs M) : dk_inv pw xs (f_M_finding (f_D_finding M x).2 x).2 := by
  obtain ⟨h1, h2, ⟨h3, h4, h5, h6⟩, h7, h8, h9, h10, h11, h12, h13⟩ := I
  have ec : ∀ c, c ≠ 0 → c ≠ 67 → (f_M_finding (f_D_finding M x).2 x).2 c = M c := by
    intro c a b
    funext k
    simp [f_M_finding, f_D_finding, hd_set, a, b]
  have e67 : ∀ j, j ≠ 3 → (f_M_finding (f_D_finding M x).2 x).2 67 j = M 67 j := by
    intro j a
    simp [f_M_finding, f_D_finding, hd_set, a]
  have edv : hd_dv (f_M_finding (f_D_finding M x).2 x).2 = hd_dv M := hd_dv_out2 (fun c hc => ec c (by rintro rfl; simp at hc) (by rintro rfl; simp at hc))
  have eac : dk_ac (f_M_finding (f_D_finding M x).2 x).2 = dk_ac M := by
    funext i
    unfold dk_ac
    rw [ec 6 (by decide) (by decide), ec 38 (by decide) (by decide), ec 39 (by decide) (by decide), ec 40 (by decide) (by decide), ec _ (by omega) (by omega)]
  have epa : dk_pa (f_M_finding (f_D_finding M x).2 x).2 = dk_pa M := by
    funext i
    unfold dk_pa
    rw [e67 2 (by decide), ec 69 (by decide) (by decide)]
  refine ⟨?_, ?_, ⟨?_, ?_, ?_, ?_⟩, ?_, ?_, ?_, ?_, ?_, ?_, ?_⟩
  · rw [ec 68 (by decide) (by decide)]; exact h1
  · rw [edv, ec 68 (by decide) (by decide)]; exact h2
  · rw [e67 2 (by decide)]; exact h3
  · rw [e67 2 (by decide), ec 6 (by decide) (by decide)]; exact h4
  · rw [ec 6 (by decide) (by decide)]; exact h5
  · rw [e67 2 (by decide), eac, epa, edv]; exact h6
  · intro s hs
    unfold dk_sh
    rw [ec 31 (by decide) (by decide), ec 32 (by decide) (by decide), ec 70 (by decide) (by decide), ec 71 (by decide) (by decide), ec 72 (by decide) (by decide), ec (34 + s) (by omega) (by omega)]
    exact h7 s hs
  · simp [f_M_finding, f_D_finding, hd_set, h8]
  · rw [ec 25 (by decide) (by decide), ec 26 (by decide) (by decide), ec 27 (by decide) (by decide)]; exact h9
  · unfold dk_plan
    rw [ec 7 (by decide) (by decide), edv]; exact h10
  · rw [ec 62 (by decide) (by decide)]; exact h11
  · rw [ec 78 (by decide) (by decide)]; exact h12
  · rw [ec 79 (by decide) (by decide), ec 63 (by decide) (by decide)]; exact h13
/-- an act, done and kept on both sides -/
theorem dk_act {pw : (Nat → Int32) → Nat → Int32 × Int32} {xs : Nat → Int32} {M M1 M2 : hd_Mem} {kp : Nat} {a : dk_Act} (I : dk_inv pw xs M) (hkp : M 67 2 = nI kp) (hk20 : kp ≤ 20)
    (d1 : ∀ c, 67 ≤ c → M1 c = M c) (d2 : ∀ c, c ∈ [25, 26, 27, 31, 32, 34, 35, 36, 37, 62, 63] → M1 c = M c) (d3 : M1 0 7 = M 0 7) (d4 : M1 7 0 = -1) (d5 : M1 6 4 = nI (min (kp + 1) 20)) (d6 : hd_in (M1 6 5) 20)
    (d7 : dk_ac M1 0 = a) (d8 : ∀ i, i + 1 < 20 → dk_ac M1 (i + 1) = dk_ac M i) (m : ∀ c, c ≠ 68 → M2 c = f_M_keep M1 c) (w1 : dk_wf (M2 68)) (l1 : dk_live (hd_dv M1) (M2 68))
    (t1 : dk_live (dk_tb a (hd_dv M1)) (hd_dv M)) (o1 : dk_ok a (hd_dv M1)) : dk_inv pw xs M2 := by
  obtain ⟨h1, h2, ⟨h3, h4, h5, h6⟩, h7, h8, h9, h10, h11, h12, h13⟩ := I
  have hk1 : M1 67 2 = nI kp := by rw [d1 67 (by decide)]; exact hkp
  obtain ⟨k1, k2, k3, k4, k5⟩ := dk_keepM hk20 hk1
  have e2 : ∀ c, c < 67 → M2 c = M1 c := fun c hc => by rw [m c (by omega), k2 c (by omega) (by omega)]
  have e3 : ∀ c, 70 ≤ c → M2 c = M c := fun c hc => by rw [m c (by omega), k2 c (by omega) (by omega), d1 c (by omega)]
  have edv : hd_dv M2 = hd_dv M1 := hd_dv_out2 (fun c hc => e2 c (by
    rcases (show c < 67 ∨ 67 ≤ c by omega) with q | q
    · exact q
    · simp at hc; omega))
  have eac : dk_ac M2 = dk_ac M1 := by
    funext i
    unfold dk_ac
    rw [e2 6 (by decide), e2 38 (by decide), e2 39 (by decide), e2 40 (by decide), e2 _ (by have := Nat.mod_lt ((M1 6 5).toNatClampNeg + 19 - i) (show 0 < 20 by omega); omega)]
  have e67 : M2 67 2 = nI (min (kp + 1) 20) := by rw [m 67 (by decide)]; exact k1
  have epa : dk_pa M2 = dk_pa (f_M_keep M1) := by
    funext i
    unfold dk_pa
    rw [m 67 (by decide), m 69 (by decide)]
  have hkp' : (M2 67 2).toNatClampNeg = min (kp + 1) 20 := by rw [e67]; exact nI_clamp (by omega)
  have hkpM : (M 67 2).toNatClampNeg = kp := by rw [hkp]; exact nI_clamp (by omega)
  refine ⟨w1, by rw [edv]; exact l1, ⟨?_, ?_, ?_, ?_⟩, ?_, ?_, ?_, ?_, ?_, ?_, ?_⟩
  · rw [e67]; exact hd_in_nI (by omega) (by omega)
  · rw [e67, e2 6 (by decide)]; exact d5
  · rw [e2 6 (by decide)]; exact d6
  · rw [hkp', eac, epa, edv]
    rw [hkpM] at h6
    have hM168 : M1 68 = M 68 := d1 68 (by decide)
    refine dk_push h6 (dk_live_tr.mpr h2) (U := dk_tr (M 68)) ?_ (by omega) (by rw [d7]; exact t1) (by rw [d7]; exact o1) (by rw [k4, hM168]) (fun i hi => ⟨d8 i (by omega), ?_⟩)
    · exact dk_wf_live (dk_live_tr.mpr dk_live_rfl) h1
    · rw [k5 i hi]
      unfold dk_pa
      rw [d1 67 (by decide), d1 69 (by decide)]
  · intro s hs
    have := h7 s hs
    unfold dk_sh at this ⊢
    rw [e2 31 (by decide), e2 32 (by decide), e2 (34 + s) (by omega), e3 70 (by decide), e3 71 (by decide), e3 72 (by decide), d2 31 (by simp), d2 32 (by simp), d2 (34 + s) (by rcases (show s = 0 ∨ s = 1 ∨ s = 2 ∨ s = 3 by omega) with rfl | rfl | rfl | rfl <;> simp)]
    exact this
  · rw [e2 0 (by decide), d3, m 67 (by decide), k3 3 (by decide), d1 67 (by decide)]; exact h8
  · rw [e2 25 (by decide), e2 26 (by decide), e2 27 (by decide), d2 25 (by simp), d2 26 (by simp), d2 27 (by simp)]; exact h9
  · left
    rw [e2 7 (by decide)]; exact d4
  · rw [e2 62 (by decide), d2 62 (by simp)]; exact h11
  · rw [e3 78 (by decide)]; exact h12
  · rw [e3 79 (by decide), e2 63 (by decide), d2 63 (by simp)]; exact h13
/-! the small questions, on both sides -/
theorem dk_lt1 {n : Nat} (h : n < 2 ^ 30) (x : Int32) : nI n - 1 < x ↔ nI n ≤ x := by
  rw [Int32.lt_iff_toInt_lt, Int32.le_iff_toInt_le]
  have e : (nI n - nI 1).toInt = (n : Int) - (1 : Nat) := pk_sub_toInt h (by omega)
  have e2 : (nI n - 1).toInt = (n : Int) - (1 : Nat) := e
  rw [e2, nI_toInt (by omega)]
  omega
theorem dk_has {c x : Int32} {n : Nat} (hc : c = nI n) (hn : n < 2 ^ 30) : (if x < 0 then (0 : Int32) else (if c ≤ x then 0 else 1)) = f_M_within x 0 (c - 1) := by
  unfold f_M_within
  rw [hc]
  by_cases h : x < 0
  · rw [if_pos h, if_pos h]
  · rw [if_neg h, if_neg h]
    by_cases h2 : nI n ≤ x
    · rw [if_pos h2, if_pos ((dk_lt1 hn x).mpr h2)]
    · rw [if_neg h2, if_neg (fun q => h2 ((dk_lt1 hn x).mp q))]
/-- a number that is there -/
theorem dk_there {x : Int32} {n : Nat} (hn : n < 2 ^ 30) (h : ¬ f_M_within x 0 (nI n - 1) = 0) : ∃ p, p < n ∧ x = nI p := by
  unfold f_M_within at h
  by_cases h1 : x < 0
  · rw [if_pos h1] at h; exact absurd rfl h
  · rw [if_neg h1] at h
    by_cases h2 : nI n - 1 < x
    · rw [if_pos h2] at h; exact absurd rfl h
    · rw [dk_lt1 hn] at h2
      obtain ⟨p, hp, rfl⟩ := nI_of h1
      exact ⟨p, hd_nilt h2 (by omega) (by omega), rfl⟩
theorem dk_within {x : Int32} {a b : Nat} (ha : a < 2 ^ 30) (hb : b < 2 ^ 30) (h : ¬ f_M_within x (nI a) (nI b) = 0) : hd_in x (b + 1) ∧ nI a ≤ x := by
  unfold f_M_within at h
  by_cases h1 : x < nI a
  · rw [if_pos h1] at h; exact absurd rfl h
  · rw [if_neg h1] at h
    by_cases h2 : nI b < x
    · rw [if_pos h2] at h; exact absurd rfl h
    · rw [Int32.lt_iff_toInt_lt] at h1 h2
      rw [nI_toInt (by omega)] at h2
      rw [nI_toInt (by omega)] at h1
      refine ⟨⟨by omega, by omega⟩, ?_⟩
      rw [Int32.le_iff_toInt_le, nI_toInt (by omega)]; omega
/-- an act whose keeping comes last on the desk's side -/
theorem dk_actK {pw : (Nat → Int32) → Nat → Int32 × Int32} {xs : Nat → Int32} {M X M2 : hd_Mem} {kp nx : Nat} {w ix was : Int32} (I : dk_inv pw xs M) (hkp : M 67 2 = nI kp) (hk20 : kp ≤ 20) (hnx : M 6 5 = nI nx) (hn : nx < 20)
    (hX : ∀ c, c ∉ [1,2,3,4,8,9,10,11,12,13,14,15,16,17,18,19,20,21,22,23,28,29,30] → X c = M c) (m : ∀ c, c ≠ 68 → M2 c = f_M_keep (f_D_keep X w ix was).2 c) (w1 : dk_wf (M2 68)) (l1 : dk_live (hd_dv X) (M2 68))
    (t1 : dk_live (dk_tb (w, ix, was, M (42 + nx)) (hd_dv X)) (hd_dv M)) (o1 : dk_ok (w, ix, was, M (42 + nx)) (hd_dv X)) : dk_inv pw xs M2 := by
  have I2 := I
  obtain ⟨h1, h2, ⟨h3, h4, h5, h6⟩, -⟩ := I2
  have x64 : X 6 4 = nI kp := by rw [hX 6 (by simp), h4]; exact hkp
  have x65 : X 6 5 = nI nx := by rw [hX 6 (by simp)]; exact hnx
  obtain ⟨-, k2, k3, k4, k5, k6, k7, k8⟩ := dk_keepD (M := X) (w := w) (ix := ix) (was := was) hk20 x64 hn x65
  have edv : hd_dv (f_D_keep X w ix was).2 = hd_dv X := hd_dv_out2 (fun c hc => k4 c (by rintro rfl; simp at hc) (by rintro rfl; simp at hc) (by rintro rfl; simp at hc) (by rintro rfl; simp at hc) (by rintro rfl; simp at hc))
  have hout : ∀ c, c ∉ [1,2,3,4,8,9,10,11,12,13,14,15,16,17,18,19,20,21,22,23,28,29,30] → c ≠ 6 → c ≠ 7 → c ≠ 38 → c ≠ 39 → c ≠ 40 → (f_D_keep X w ix was).2 c = M c := fun c a b1 b2 b3 b4 b5 => by rw [k4 c b1 b2 b3 b4 b5, hX c a]
  refine dk_act (M1 := (f_D_keep X w ix was).2) (a := (w, ix, was, M (42 + nx))) I hkp hk20 ?_ ?_ ?_ k5 k2 ?_ ?_ ?_ m w1 (by rw [edv]; exact l1) (by rw [edv]; exact t1) (by rw [edv]; exact o1)
  · intro c hc
    exact hout c (by simp; omega) (by omega) (by omega) (by omega) (by omega) (by omega)
  · intro c hc
    have : c ∉ [1,2,3,4,8,9,10,11,12,13,14,15,16,17,18,19,20,21,22,23,28,29,30] ∧ c ≠ 6 ∧ c ≠ 7 ∧ c ≠ 38 ∧ c ≠ 39 ∧ c ≠ 40 := by
      simp at hc
      rcases hc with rfl | rfl | rfl | rfl | rfl | rfl | rfl | rfl | rfl | rfl | rfl <;> simp
    exact hout c this.1 this.2.1 this.2.2.1 this.2.2.2.1 this.2.2.2.2.1 this.2.2.2.2.2
  · rw [hout 0 (by simp) (by decide) (by decide) (by decide) (by decide) (by decide)]
  · rw [k3]; exact hd_in_nI (Nat.mod_lt _ (by omega)) (by omega)
  · rw [k7, hX (42 + nx) (by simp; omega)]
  · intro i hi
    rw [k8 i hi]
    unfold dk_ac
    have hz := Nat.mod_lt ((M 6 5).toNatClampNeg + 19 - i) (show 0 < 20 by omega)
    rw [hX 6 (by simp), hX 38 (by simp), hX 39 (by simp), hX 40 (by simp), hX (42 + ((M 6 5).toNatClampNeg + 19 - i) % 20) (by simp; omega)]
theorem dk_inv_n {pw : (Nat → Int32) → Nat → Int32 × Int32} {xs : Nat → Int32} {M : hd_Mem} (I : dk_inv pw xs M) : ∃ kp nx, kp ≤ 20 ∧ M 67 2 = nI kp ∧ M 6 4 = nI kp ∧ nx < 20 ∧ M 6 5 = nI nx := by
  obtain ⟨h1, h2, ⟨h3, h4, h5, h6⟩, -⟩ := I
  obtain ⟨kp, a1, a2⟩ := hd_in_of h3 (by omega)
  obtain ⟨nx, b1, b2⟩ := hd_in_of h5 (by omega)
  exact ⟨kp, nx, by omega, a2, by rw [h4]; exact a2, b1, b2⟩
