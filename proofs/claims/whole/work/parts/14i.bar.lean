/-! bar -/
theorem dk_same_bar {pw : dk_PW} {xs : Nat → Int32} {Ls : Nat} {M : hd_Mem} (I : dk_inv pw xs M) (x1 x2 x3 : Int32) (h01 : x3 = 0 ∨ x3 = 1) : dk_same pw xs Ls D_bar M_bar [.int x1, .int x2, .int x3] M := by
  have hP1 := dk_pers I x1
  have hP2 := dk_pers I x2
  have I2 := I
  obtain ⟨h1, h2, -⟩ := I2
  have GM : ∀ M' : hd_Mem, M' 68 = M 68 → M' 67 = M 67 → g_M_bar Ls M' x1 x2 x3 := by
    intro M' q8 q7 q1 q2 q3
    unfold f_M_isPerson at q1 q2
    rw [q8] at q1 q2
    obtain ⟨p, hp, hp8, rfl⟩ := dk_pthere I q1
    obtain ⟨q, hq, hq8, rfl⟩ := dk_pthere I q2
    unfold g_M_areBarred
    rw [show (46 : Int32) + nI p = nI 46 + nI p from rfl, nI_add, show (46 : Int32) + nI q = nI 46 + nI q from rfl, nI_add]
    have rp : hd_okR Ls 68 (nI (46 + p)) := hd_okR_n rfl (show 46 + p < 459 by omega) (by omega)
    have rq : hd_okR Ls 68 (nI (46 + q)) := hd_okR_n rfl (show 46 + q < 459 by omega) (by omega)
    have wp : hd_okW 68 (nI (46 + p)) := hd_okW_n (by decide) rfl (show 46 + p < 459 by omega) (by omega)
    have wq : hd_okW 68 (nI (46 + q)) := hd_okW_n (by decide) rfl (show 46 + q < 459 by omega) (by omega)
    exact ⟨dk_gM I q7, rp, rp, rq, fun _ => ⟨wp, fun _ => wq, fun _ => wq⟩, fun _ => ⟨wp, fun _ => wq, fun _ => wq⟩⟩
  have GD : g_D_bar Ls M x1 x2 x3 := by
    intro q1 q2 q3
    rw [hP1] at q1
    rw [hP2] at q2
    obtain ⟨p, hp, hp8, rfl⟩ := dk_pthere I q1
    obtain ⟨q, hq, hq8, rfl⟩ := dk_pthere I q2
    have g65 : ∀ w ix was, g_D_keep Ls (f_Pe_setBarred M (nI p) (nI q) x3) w ix was := fun w ix was => dk_gkeepD (by rw [(dk_dv_bar (M := M) (on := x3) hp8 hq8).2 6 (by decide)]; exact I.2.2.1.2.2.1)
    exact ⟨hd_okR_n rfl hp8 (by omega), dk_gbar hp8 hq8, fun _ => g65 _ _ _, fun _ => g65 _ _ _⟩
  have hD := s_D_bar GD
  unfold f_D_bar at hD
  rw [hP1, hP2] at hD
  by_cases c1 : f_M_within x1 0 (M 68 0 - 1) = 0
  · rw [if_pos c1] at hD
    have hM := s_M_bar (GM _ (dk_find68 (x := -100001)) dk_find67)
    unfold f_M_bar f_M_isPerson at hM
    rw [dk_find68, if_pos c1] at hM
    exact dk_finds _ I hD hM
  rw [if_neg c1] at hD
  by_cases c2 : f_M_within x2 0 (M 68 0 - 1) = 0
  · rw [if_pos c2] at hD
    have hM := s_M_bar (GM _ (dk_find68 (x := -100001)) dk_find67)
    unfold f_M_bar f_M_isPerson at hM
    rw [dk_find68, if_neg c1, if_pos c2] at hM
    exact dk_finds _ I hD hM
  rw [if_neg c2] at hD
  by_cases c3 : x1 = x2
  · rw [if_pos c3] at hD
    have hM := s_M_bar (GM _ (dk_find68 (x := -100003)) dk_find67)
    unfold f_M_bar f_M_isPerson at hM
    rw [dk_find68, if_neg c1, if_neg c2, if_pos c3] at hM
    exact dk_finds _ I hD hM
  rw [if_neg c3] at hD
  obtain ⟨p, hp, hp8, rfl⟩ := dk_pthere I c1
  obtain ⟨q, hq, hq8, rfl⟩ := dk_pthere I c2
  have hpq : p ≠ q := fun z => c3 (by rw [z])
  have e13 : M 13 p = M 68 (46 + p) := dk_rd I (c := 13) (b := 46 + p) (by simp) (show p < 8 from hp8) rfl (dk_lv_b hp8)
  obtain ⟨dv1, dv2⟩ := dk_dv_bar (M := M) (on := x3) hp8 hq8
  have hX : ∀ c, c ∉ [1,2,3,4,8,9,10,11,12,13,14,15,16,17,18,19,20,21,22,23,28,29,30] → (f_Pe_setBarred M (nI p) (nI q) x3) c = M c := fun c hc => dv2 c (by rintro rfl; simp at hc)
  have hwB := h1.2.2.2.2.2.2.2.2.2.2
  -- the number that is kept
  have hix : nI p * 8 + nI q = nI (p * 8 + q) := by rw [show nI p * 8 = nI p * nI 8 from rfl, pk_mul, nI_add]
  have hdiv : nI (p * 8 + q) / 8 = nI p := by
    rw [show (8 : Int32) = nI 8 from rfl, pk_div (by omega) (by omega) (by omega)]
    congr 1; omega
  have hmod : nI (p * 8 + q) - nI (p * 8 + q) / 8 * 8 = nI q := by
    rw [show (8 : Int32) = nI 8 from rfl, pk_rem (by omega) (by omega) (by omega)]
    congr 1; omega
  rw [hix] at hD
  have hbar : ∀ M' : hd_Mem, M' 68 = M 68 → f_M_areBarred M' (nI p) (nI q) = f_Pe_isBarred M (nI p) (nI q) := by
    intro M' q8
    unfold f_M_areBarred f_Pe_isBarred f_D_hasBit
    rw [q8, show (46 + nI p).toNatClampNeg = 46 + p from dk_ix (a := 46) (b := p) (by omega), nI_clamp (show p < 2 ^ 31 by omega), e13]
    rcases dk_b01 (M 68 (46 + p) >>> (nI q &&& 31)) with z | z
    · rw [z]; decide
    · rw [z]; decide
  have hbit : f_Pe_isBarred M (nI p) (nI q) = 0 ↔ ¬ dk_bit (hd_dv M (46 + p)) q := by
    have : hd_dv M (46 + p) = M 13 p := hd_dvA 13 (by simp) (show p < 8 from hp8)
    rw [this]
    unfold f_Pe_isBarred f_D_hasBit dk_bit
    rw [nI_clamp (show p < 2 ^ 31 by omega)]
    by_cases z : (M 13 p >>> (nI q &&& 31)) &&& 1 = 0
    · simp [z]
    · simp [z]
  have z01 : f_Pe_isBarred M (nI p) (nI q) = 0 ∨ f_Pe_isBarred M (nI p) (nI q) = 1 := z_Pe_isBarred
  -- the act, whatever was
  have act : ∀ (was : Int32) (M2 : hd_Mem), (¬ was = 0 ↔ ¬ f_Pe_isBarred M (nI p) (nI q) = 0) → (was = 0 ∨ was = 1) → (∀ c, c ≠ 68 → M2 c = f_M_keep (f_D_keep (f_Pe_setBarred M (nI p) (nI q) x3) 5 (nI (p * 8 + q)) was).2 c) → M2 68 = dk_bar (M 68) (nI p) (nI q) x3 → dk_inv pw xs M2 := by
    intro was M2 hw hw01 hm h68
    obtain ⟨kp, nx, a1, a2, a3, a4, a5⟩ := dk_inv_n I
    refine dk_actK (X := f_Pe_setBarred M (nI p) (nI q) x3) (w := 5) (ix := nI (p * 8 + q)) (was := was) I a2 a1 a5 a4 hX hm ?_ ?_ ?_ ?_
    · rw [h68]; exact dk_wf_bar h1 hp hq hpq
    · rw [h68, dv1]; exact dk_live_bar h2 hp8 hq8 rfl rfl
    · rw [dv1]
      have e8 : dk_tb (5, nI (p * 8 + q), was, M (42 + nx)) (dk_bar (hd_dv M) (nI p) (nI q) x3) = hd_dv M := by
        unfold dk_tb
        dsimp only
        rw [if_neg (by decide), if_neg (by decide), if_neg (by decide), if_neg (by decide), if_neg (by decide), if_pos rfl, hmod, hdiv]
        have hb : ¬ was = 0 ↔ dk_bit (hd_dv M (46 + p)) q := by
          rw [hw, hbit]
          exact Classical.not_not
        have hwf : dk_wfB (hd_dv M) := (dk_wf_live (dk_live_symm h2) h1).2.2.2.2.2.2.2.2.2.2
        rcases hw01 with rfl | rfl
        · rw [if_neg (by decide)]
          exact dk_bar_back hp8 hq8 hpq hwf hb
        · rw [if_pos rfl]
          exact dk_bar_back hp8 hq8 hpq hwf hb
      rw [e8]
      exact dk_live_rfl
    · unfold dk_ok
      simp
      exact ⟨p, hp8, q, hq8, hdiv, hmod⟩
  -- the reference
  have ref : ∀ was : Int32, ∃ M2 : hd_Mem, hd_Rt Ls M_bar [.ref 67, .int (nI p), .int (nI q), .int x3] (f_D_keep (f_Pe_setBarred M (nI p) (nI q) x3) 5 (nI (p * 8 + q)) was).2 (some (.int (if f_Pe_isBarred M (nI p) (nI q) = x3 then 0 else 1))) M2 ∧ (∀ c, c ≠ 68 → M2 c = f_M_keep (f_D_keep (f_Pe_setBarred M (nI p) (nI q) x3) 5 (nI (p * 8 + q)) was).2 c) ∧ M2 68 = dk_bar (M 68) (nI p) (nI q) x3 := by
    intro was
    obtain ⟨t1, t2⟩ := dk_kept2 (w := 5) (ix := nI (p * 8 + q)) (was := was) I hX
    have hM := s_M_bar (GM _ t1 t2)
    have K68 := dk_k68 I t1 t2
    unfold f_M_bar f_M_isPerson at hM
    rw [t1, if_neg c1, if_neg c2, if_neg c3, hbar _ K68, show (46 + nI p).toNatClampNeg = 46 + p from dk_ix (a := 46) (b := p) (by omega), show (46 + nI q).toNatClampNeg = 46 + q from dk_ix (a := 46) (b := q) (by omega), K68] at hM
    obtain ⟨sp, hsp, esp⟩ := hd_in_of (hwB p hp8).1 (by omega)
    obtain ⟨sq, hsq, esq⟩ := hd_in_of (hwB q hq8).1 (by omega)
    rcases h01 with rfl | rfl
    · rw [if_pos rfl, if_pos rfl] at hM
      refine ⟨hd_set (hd_set (f_M_keep (f_D_keep (f_Pe_setBarred M (nI p) (nI q) 0) 5 (nI (p * 8 + q)) was).2) 68 (46 + p) (M 68 (46 + p) &&& (((1 : Int32) <<< (nI q &&& 31)) ^^^ (-1 : Int32)))) 68 (46 + q) (M 68 (46 + q) &&& (((1 : Int32) <<< (nI p &&& 31)) ^^^ (-1 : Int32))), ?_, fun c hc => by rw [hd_set_ne hc, hd_set_ne hc], ?_⟩
      · by_cases z : f_Pe_isBarred M (nI p) (nI q) = 0
        · rw [if_pos z] at hM ⊢; exact hM
        · rw [if_neg z] at hM ⊢; exact hM
      · rw [hd_set_eq, hd_set_eq, K68, dk_bar_nf hp8 hq8 hpq]
        unfold dk_fb
        rw [if_pos rfl, if_pos rfl]
    · rw [if_neg (by decide), if_neg (by decide)] at hM
      refine ⟨hd_set (hd_set (f_M_keep (f_D_keep (f_Pe_setBarred M (nI p) (nI q) 1) 5 (nI (p * 8 + q)) was).2) 68 (46 + p) ((M 68 (46 + p) &&& (((1 : Int32) <<< (nI q &&& 31)) ^^^ (-1 : Int32))) ||| ((1 : Int32) <<< (nI q &&& 31)))) 68 (46 + q) ((M 68 (46 + q) &&& (((1 : Int32) <<< (nI p &&& 31)) ^^^ (-1 : Int32))) ||| ((1 : Int32) <<< (nI p &&& 31))), ?_, fun c hc => by rw [hd_set_ne hc, hd_set_ne hc], ?_⟩
      · by_cases z : f_Pe_isBarred M (nI p) (nI q) = 1
        · rw [if_pos z] at hM ⊢; exact hM
        · rw [if_neg z] at hM ⊢; exact hM
      · rw [hd_set_eq, hd_set_eq, K68, dk_bar_nf hp8 hq8 hpq]
        unfold dk_fb
        rw [if_neg (by decide), if_neg (by decide), esp, esq, (dk_re1 sp hsp q hq8).1, (dk_re1 sq hsq p hp8).1]
  by_cases z : f_Pe_isBarred M (nI p) (nI q) = 0
  · rw [if_pos z] at hD
    obtain ⟨M2, m1, m2, m3⟩ := ref 0
    have hi := act 0 M2 (by simp [z]) (Or.inl rfl) m2 m3
    by_cases y : f_Pe_isBarred M (nI p) (nI q) = x3
    · rw [if_pos y] at hD m1
      exact ⟨_, _, _, hD, m1, hi⟩
    · rw [if_neg y] at hD m1
      exact ⟨_, _, _, hD, m1, hi⟩
  · rw [if_neg z] at hD
    obtain ⟨M2, m1, m2, m3⟩ := ref 1
    have hi := act 1 M2 (by simp [z]) (Or.inr rfl) m2 m3
    by_cases y : f_Pe_isBarred M (nI p) (nI q) = x3
    · rw [if_pos y] at hD m1
      exact ⟨_, _, _, hD, m1, hi⟩
    · rw [if_neg y] at hD m1
      exact ⟨_, _, _, hD, m1, hi⟩
