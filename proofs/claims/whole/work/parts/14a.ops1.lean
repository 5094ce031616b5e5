/-! acts that change one place -/
abbrev dk_PW : Type := (Nat → Int32) → Nat → Int32 × Int32
/-- both sides answer alike and the invariant stays -/
def dk_same (pw : dk_PW) (xs : Nat → Int32) (Ls yD yM : Nat) (as : List Value) (M : hd_Mem) : Prop := ∃ (r : Int32) (M1 M2 : hd_Mem), hd_Rt Ls yD (.ref 0 :: as) M (some (.int r)) M1 ∧ hd_Rt Ls yM (.ref 67 :: as) M1 (some (.int r)) M2 ∧ dk_inv pw xs M2
theorem dk_finds {pw : dk_PW} {xs : Nat → Int32} {Ls yD yM : Nat} {as : List Value} {M : hd_Mem} (x : Int32) (I : dk_inv pw xs M) (hD : hd_Rt Ls yD (.ref 0 :: as) M (some (.int (f_D_finding M x).1)) (f_D_finding M x).2) (hM : hd_Rt Ls yM (.ref 67 :: as) (f_D_finding M x).2 (some (.int (f_M_finding (f_D_finding M x).2 x).1)) (f_M_finding (f_D_finding M x).2 x).2) : dk_same pw xs Ls yD yM as M := ⟨x, _, _, hD, hM, dk_find I⟩
theorem dk_np_of {pw : dk_PW} {xs : Nat → Int32} {M : hd_Mem} (I : dk_inv pw xs M) : ∃ n, n ≤ 8 ∧ M 1 6 = nI n ∧ M 68 0 = nI n ∧ dk_np (M 68) = n ∧ dk_np (hd_dv M) = n := by
  obtain ⟨h1, h2, -⟩ := I
  obtain ⟨a, b, -⟩ := dk_wf_n h1
  refine ⟨dk_np (M 68), b, ?_, a, rfl, (dk_live_n h2).1⟩
  rw [← hd_dv_0 M, dk_live_cnt h2 0 (by omega)]; exact a
theorem dk_nl_of {pw : dk_PW} {xs : Nat → Int32} {M : hd_Mem} (I : dk_inv pw xs M) : ∃ n, n ≤ 3 ∧ M 2 5 = nI n ∧ M 68 1 = nI n ∧ dk_nl (M 68) = n ∧ dk_nl (hd_dv M) = n := by
  obtain ⟨h1, h2, -⟩ := I
  obtain ⟨-, -, a, b, -⟩ := dk_wf_n h1
  refine ⟨dk_nl (M 68), b, ?_, a, rfl, (dk_live_n h2).2.1⟩
  rw [← hd_dv_1 M, dk_live_cnt h2 1 (by omega)]; exact a
theorem dk_ne_of {pw : dk_PW} {xs : Nat → Int32} {M : hd_Mem} (I : dk_inv pw xs M) : ∃ n, n ≤ 60 ∧ M 3 5 = nI n ∧ M 68 2 = nI n ∧ dk_ne (M 68) = n ∧ dk_ne (hd_dv M) = n := by
  obtain ⟨h1, h2, -⟩ := I
  obtain ⟨-, -, -, -, a, b, -⟩ := dk_wf_n h1
  refine ⟨dk_ne (M 68), b, ?_, a, rfl, (dk_live_n h2).2.2.1⟩
  rw [← hd_dv_2 M, dk_live_cnt h2 2 (by omega)]; exact a
theorem dk_na_of {pw : dk_PW} {xs : Nat → Int32} {M : hd_Mem} (I : dk_inv pw xs M) : ∃ n, n ≤ 30 ∧ M 4 3 = nI n ∧ M 68 3 = nI n ∧ dk_na (M 68) = n ∧ dk_na (hd_dv M) = n := by
  obtain ⟨h1, h2, -⟩ := I
  obtain ⟨-, -, -, -, -, -, a, b⟩ := dk_wf_n h1
  refine ⟨dk_na (M 68), b, ?_, a, rfl, (dk_live_n h2).2.2.2⟩
  rw [← hd_dv_3 M, dk_live_cnt h2 3 (by omega)]; exact a
theorem dk_eqE (x : Int32) (a b : Int32) : f_D_within x a b = f_M_within x a b := rfl
theorem dk_find68 {M : hd_Mem} {x : Int32} : (f_D_finding M x).2 68 = M 68 := by
  funext k; simp [f_D_finding, hd_set]
/-- one place is set on both sides -/
theorem dk_one {pw : dk_PW} {xs : Nat → Int32} {M : hd_Mem} {c j q : Nat} {w ix was x : Int32} (I : dk_inv pw xs M) (hc : c ∈ [8,9,10,11,12,13,14,15,16,17,18,19,20,21,22,23,28,29,30]) (hj : j < hd_len2 c) (hq : hd_pos c j = q) (hq4 : 6 ≤ q) (hf : dk_fit q x) (hlv : dk_lv (M 68) q) (ht : ∀ V row, dk_tb (w, ix, was, row) V = upd V q was) (ho : ∀ V row, dk_ok (w, ix, was, row) V) (hw : was = M c j) :
    was = M 68 q ∧ f_M_keep (f_D_keep (hd_set M c j x) w ix was).2 68 q = was ∧ dk_inv pw xs (hd_set (f_M_keep (f_D_keep (hd_set M c j x) w ix was).2) 68 q x) := by
  obtain ⟨kp, nx, a1, a2, a3, a4, a5⟩ := dk_inv_n I
  have I2 := I
  obtain ⟨h1, h2, -⟩ := I2
  have hcv : c ∈ [1,2,3,4,8,9,10,11,12,13,14,15,16,17,18,19,20,21,22,23,28,29,30] := by simp at hc ⊢; omega
  have x64 : (hd_set M c j x) 6 4 = nI kp := by rw [hd_set_nk (by simp at hcv; omega)]; exact a3
  have x65 : (hd_set M c j x) 6 5 = nI nx := by rw [hd_set_nk (by simp at hcv; omega)]; exact a5
  obtain ⟨-, k2, k3, k4, k5, k6, k7, k8⟩ := dk_keepD (M := hd_set M c j x) (w := w) (ix := ix) (was := was) a1 x64 a4 x65
  have e68 : (f_D_keep (hd_set M c j x) w ix was).2 68 = M 68 := by
    rw [k4 68 (by decide) (by decide) (by decide) (by decide) (by decide)]
    exact hd_set_ne (by simp at hc; omega)
  have e67 : (f_D_keep (hd_set M c j x) w ix was).2 67 = M 67 := by
    rw [k4 67 (by decide) (by decide) (by decide) (by decide) (by decide)]
    exact hd_set_ne (by simp at hc; omega)
  obtain ⟨m1, m2, m3, m4, m5⟩ := dk_keepM (M := (f_D_keep (hd_set M c j x) w ix was).2) a1 (by rw [e67]; exact a2)
  have eV : hd_dv M q = was := by rw [← hq, hd_dvA c hc hj]; exact hw.symm
  have hlv' : dk_lv (hd_dv M) q := (dk_lv_iff (dk_live_cnt h2) q).mpr hlv
  have ew : was = M 68 q := by rw [← eV]; exact h2 q hlv'
  have edv : hd_dv (hd_set M c j x) = upd (hd_dv M) q x := by rw [hd_dvS c hc hj, hq]
  have eM2 : (hd_set (f_M_keep (f_D_keep (hd_set M c j x) w ix was).2) 68 q x) 68 = upd (M 68) q x := by
    rw [hd_set_eq, m2 68 (by decide) (by decide), e68]
  refine ⟨ew, by rw [m2 68 (by decide) (by decide), e68]; exact ew.symm, ?_⟩
  refine dk_actK (X := hd_set M c j x) (w := w) (ix := ix) (was := was) I a2 a1 a5 a4 ?_ ?_ ?_ ?_ ?_ (ho _ _)
  · intro z hz
    exact hd_set_ne (by rintro rfl; exact hz hcv)
  · intro z hz
    exact hd_set_ne hz
  · rw [eM2]; exact dk_wf_set h1 (by omega) hf
  · rw [eM2, edv]; exact dk_live_upd h2 (by omega)
  · rw [edv, ht]
    have : upd (upd (hd_dv M) q x) q was = hd_dv M := by
      funext k
      by_cases hk : k = q
      · subst hk; rw [pk_us]; exact eV.symm
      · rw [pk_un hk, pk_un hk]
    rw [this]
    exact dk_live_rfl
theorem dk_find67 {M : hd_Mem} {x : Int32} : (f_D_finding M x).2 67 = M 67 := by
  funext k; simp [f_D_finding, hd_set]
theorem dk_pers {pw : dk_PW} {xs : Nat → Int32} {M : hd_Mem} (I : dk_inv pw xs M) (x : Int32) : f_Pe_has M x = f_M_within x 0 (M 68 0 - 1) := by
  obtain ⟨n, hn, e1, e2, e3, e4⟩ := dk_np_of I
  rw [e2, ← e1]; exact dk_has e1 (by omega)
theorem dk_plac {pw : dk_PW} {xs : Nat → Int32} {M : hd_Mem} (I : dk_inv pw xs M) (x : Int32) : f_Pl_has M x = f_M_within x 0 (M 68 1 - 1) := by
  obtain ⟨n, hn, e1, e2, e3, e4⟩ := dk_nl_of I
  rw [e2, ← e1]; exact dk_has e1 (by omega)
theorem dk_absn {pw : dk_PW} {xs : Nat → Int32} {M : hd_Mem} (I : dk_inv pw xs M) (x : Int32) : f_Ab_has M x = f_M_within x 0 (M 68 3 - 1) := by
  obtain ⟨n, hn, e1, e2, e3, e4⟩ := dk_na_of I
  rw [e2, ← e1]; exact dk_has e1 (by omega)
theorem dk_pthere {pw : dk_PW} {xs : Nat → Int32} {M : hd_Mem} (I : dk_inv pw xs M) {x : Int32} (h : ¬ f_M_within x 0 (M 68 0 - 1) = 0) : ∃ p, p < dk_np (M 68) ∧ p < 8 ∧ x = nI p := by
  obtain ⟨n, hn, e1, e2, e3, e4⟩ := dk_np_of I
  rw [e2] at h
  obtain ⟨p, hp, e⟩ := dk_there (by omega) h
  exact ⟨p, by omega, by omega, e⟩
theorem dk_lthere {pw : dk_PW} {xs : Nat → Int32} {M : hd_Mem} (I : dk_inv pw xs M) {x : Int32} (h : ¬ f_M_within x 0 (M 68 1 - 1) = 0) : ∃ p, p < dk_nl (M 68) ∧ p < 3 ∧ x = nI p := by
  obtain ⟨n, hn, e1, e2, e3, e4⟩ := dk_nl_of I
  rw [e2] at h
  obtain ⟨p, hp, e⟩ := dk_there (by omega) h
  exact ⟨p, by omega, by omega, e⟩
theorem dk_athere {pw : dk_PW} {xs : Nat → Int32} {M : hd_Mem} (I : dk_inv pw xs M) {x : Int32} (h : ¬ f_M_within x 0 (M 68 3 - 1) = 0) : ∃ p, p < dk_na (M 68) ∧ p < 30 ∧ x = nI p := by
  obtain ⟨n, hn, e1, e2, e3, e4⟩ := dk_na_of I
  rw [e2] at h
  obtain ⟨p, hp, e⟩ := dk_there (by omega) h
  exact ⟨p, by omega, by omega, e⟩
theorem dk_g65 {pw : dk_PW} {xs : Nat → Int32} {M : hd_Mem} (I : dk_inv pw xs M) {Ls c j : Nat} {x w ix was : Int32} (hc : c ≠ 6) : g_D_keep Ls (hd_set M c j x) w ix was := dk_gkeepD (by rw [hd_set_nk (Ne.symm hc)]; exact I.2.2.1.2.2.1)
theorem dk_gM {pw : dk_PW} {xs : Nat → Int32} {M M' : hd_Mem} (I : dk_inv pw xs M) {Ls : Nat} (h : M' 67 = M 67) : g_M_keep Ls M' := dk_gkeep (by rw [h]; exact I.2.2.1.1)
/-- the reference's cells are what they were behind the desk's keeping -/
theorem dk_kept {pw : dk_PW} {xs : Nat → Int32} {M : hd_Mem} (I : dk_inv pw xs M) {c j : Nat} {x w ix was : Int32} (hc : c < 67) (hc6 : c ≠ 6) : (f_D_keep (hd_set M c j x) w ix was).2 68 = M 68 ∧ (f_D_keep (hd_set M c j x) w ix was).2 67 = M 67 := by
  obtain ⟨kp, nx, a1, a2, a3, a4, a5⟩ := dk_inv_n I
  obtain ⟨-, -, -, k4, -⟩ := dk_keepD (M := hd_set M c j x) (w := w) (ix := ix) (was := was) a1 (by rw [hd_set_nk (Ne.symm hc6)]; exact a3) a4 (by rw [hd_set_nk (Ne.symm hc6)]; exact a5)
  exact ⟨by rw [k4 68 (by decide) (by decide) (by decide) (by decide) (by decide)]; exact hd_set_ne (by omega), by rw [k4 67 (by decide) (by decide) (by decide) (by decide) (by decide)]; exact hd_set_ne (by omega)⟩
theorem dk_same_extend {pw : dk_PW} {xs : Nat → Int32} {Ls : Nat} {M : hd_Mem} (I : dk_inv pw xs M) (x1 x2 : Int32) : dk_same pw xs Ls D_extend M_extend [.int x1, .int x2] M := by
  have hP := dk_pers I x1
  have GM : ∀ M' : hd_Mem, M' 68 = M 68 → M' 67 = M 67 → g_M_extend Ls M' x1 x2 := by
    intro M' q8 q7 q1 q2
    unfold f_M_isPerson at q1
    rw [q8] at q1
    obtain ⟨p, hp, hp8, rfl⟩ := dk_pthere I q1
    rw [show (38 : Int32) + nI p = nI 38 + nI p from rfl, nI_add]
    exact ⟨hd_okR_n rfl (show 38 + p < 459 by omega) (by omega), fun _ => ⟨dk_gM I q7, hd_okW_n (by decide) rfl (show 38 + p < 459 by omega) (by omega)⟩⟩
  have GD : g_D_extend Ls M x1 x2 := by
    intro q1 q2
    rw [hP] at q1
    obtain ⟨p, hp, hp8, rfl⟩ := dk_pthere I q1
    exact ⟨hd_okR_n rfl hp8 (by omega), fun _ => ⟨hd_okW_n (by decide) rfl hp8 (by omega), dk_g65 I (by decide)⟩⟩
  have hD := s_D_extend GD
  unfold f_D_extend at hD
  rw [hP] at hD
  by_cases c1 : f_M_within x1 0 (M 68 0 - 1) = 0
  · rw [if_pos c1] at hD
    have hM := s_M_extend (GM _ (dk_find68 (x := -100001)) dk_find67)
    unfold f_M_extend f_M_isPerson at hM
    rw [dk_find68, if_pos c1] at hM
    exact dk_finds _ I hD hM
  rw [if_neg c1] at hD
  by_cases c2 : f_M_isDay x2 = 0
  · rw [if_pos (show f_D_isDay x2 = 0 from c2)] at hD
    have hM := s_M_extend (GM _ (dk_find68 (x := -100001)) dk_find67)
    unfold f_M_extend f_M_isPerson at hM
    rw [dk_find68, if_neg c1, if_pos c2] at hM
    exact dk_finds _ I hD hM
  rw [if_neg (show ¬ f_D_isDay x2 = 0 from c2)] at hD
  obtain ⟨p, hp, hp8, rfl⟩ := dk_pthere I c1
  have cl : (nI p).toNatClampNeg = p := nI_clamp (by omega)
  have cl2 : (38 + nI p).toNatClampNeg = 38 + p := dk_ix (a := 38) (b := p) (by omega)
  rw [cl] at hD
  have hw := (dk_within (a := 0) (b := 364) (by omega) (by omega) c2).1
  obtain ⟨u1, u2, u3⟩ := dk_one (c := 12) (j := p) (q := 38 + p) (w := 1) (ix := nI p) (was := M 12 p) (x := x2) I (by simp) (show p < 8 from hp8) rfl (by omega) (by unfold dk_fit; refine ⟨?_, ?_, ?_, ?_, ?_, ?_, fun _ _ => hw, ?_⟩ <;> omega) (dk_lv_p hp hp8 (by simp)) (fun V row => by unfold dk_tb; simp [cl]) (fun V row => by unfold dk_ok; simp; exact ⟨p, hp8, rfl⟩) rfl
  by_cases c3 : M 12 p < x2
  · rw [if_pos c3] at hD
    obtain ⟨t1, t2⟩ := dk_kept (c := 12) (j := p) (x := x2) (w := 1) (ix := nI p) (was := M 12 p) I (by decide) (by decide)
    have hM := s_M_extend (GM _ t1 t2)
    unfold f_M_extend f_M_isPerson at hM
    rw [t1, if_neg c1, if_neg c2, cl2, ← u1, if_pos c3] at hM
    exact ⟨_, _, _, hD, hM, u3⟩
  · rw [if_neg c3] at hD
    have hM := s_M_extend (GM _ (dk_find68 (x := -100003)) dk_find67)
    unfold f_M_extend f_M_isPerson at hM
    rw [dk_find68, if_neg c1, if_neg c2, cl2, ← u1, if_neg c3] at hM
    exact dk_finds _ I hD hM
