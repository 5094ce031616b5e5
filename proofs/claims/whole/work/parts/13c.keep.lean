/-! what is kept: the reference's rows, the desk's ring -/
theorem dk_ix {a b : Nat} (h : a + b < 2 ^ 31) : (nI a + nI b).toNatClampNeg = a + b := by rw [nI_add]; exact nI_clamp h
theorem dk_keep11 (M : hd_Mem) : ∀ n, n ≤ 8721 → a_M_keep_11 M n = fun c k => if c = 69 ∧ k < n then M 69 (k + 459) else M c k := by
  intro n
  induction n with
  | zero => intro _; funext c k; simp [a_M_keep_11]
  | succ n ih =>
    intro hn
    show t_M_keep_11 (a_M_keep_11 M n) (nI n) = _
    rw [ih (by omega)]
    unfold t_M_keep_11
    rw [nI_clamp (show n < 2 ^ 31 by omega), show (nI n + 459) = nI n + nI 459 from rfl, dk_ix (by omega)]
    funext c k
    simp only [hd_set]
    by_cases hc : c = 69
    · subst hc
      by_cases hk : k = n
      · subst hk
        simp
        intro h; omega
      · by_cases h2 : k < n
        · simp [hk, h2, show k < n + 1 by omega]
        · simp [hk, h2, show ¬ k < n + 1 by omega]
    · simp [hc]
theorem dk_keep52 (M : hd_Mem) (kp : Nat) (hk : kp < 20) (hM : M 67 2 = nI kp) : ∀ n, n ≤ 459 → a_M_keep_52 M n = fun c k => if c = 69 ∧ kp * 459 ≤ k ∧ k < kp * 459 + n then M 68 (k - kp * 459) else M c k := by
  intro n
  induction n with
  | zero =>
    intro _; funext c k
    have : ¬ (c = 69 ∧ kp * 459 ≤ k ∧ k < kp * 459 + 0) := by omega
    simp only [a_M_keep_52, this, if_false]
  | succ n ih =>
    intro hn
    show t_M_keep_52 (a_M_keep_52 M n) (nI n) = _
    rw [ih (by omega)]
    unfold t_M_keep_52
    simp only [show ¬ (67 : Nat) = 69 by decide, show ¬ (68 : Nat) = 69 by decide, false_and, if_false]
    rw [nI_clamp (show n < 2 ^ 31 by omega), hM, show nI kp * 459 = nI kp * nI 459 from rfl, pk_mul, dk_ix (by omega)]
    funext c k
    simp only [hd_set]
    by_cases hc : c = 69
    · subst hc
      by_cases hk : k = kp * 459 + n
      · subst hk
        simp
      · by_cases h2 : kp * 459 ≤ k ∧ k < kp * 459 + n
        · have h3 : kp * 459 ≤ k ∧ k < kp * 459 + (n + 1) := by omega
          simp only [hk, and_false, if_false, h2, h3, true_and, and_self, if_true]
        · have h3 : ¬ (kp * 459 ≤ k ∧ k < kp * 459 + (n + 1)) := by omega
          simp only [hk, and_false, if_false, h2, h3, true_and]
    · simp [hc]
theorem dk_undo26 (M : hd_Mem) (kp : Nat) (hk : kp < 20) (hM : M 67 2 = nI kp) : ∀ n, n ≤ 459 → a_M_undo_26 M n = fun c k => if c = 68 ∧ k < n then M 69 (kp * 459 + k) else M c k := by
  intro n
  induction n with
  | zero => intro _; funext c k; simp [a_M_undo_26]
  | succ n ih =>
    intro hn
    show t_M_undo_26 (a_M_undo_26 M n) (nI n) = _
    rw [ih (by omega)]
    unfold t_M_undo_26
    simp only [show ¬ (67 : Nat) = 68 by decide, show ¬ (69 : Nat) = 68 by decide, false_and, if_false]
    rw [nI_clamp (show n < 2 ^ 31 by omega), hM, show nI kp * 459 = nI kp * nI 459 from rfl, pk_mul, dk_ix (by omega)]
    funext c k
    simp only [hd_set]
    by_cases hc : c = 68
    · subst hc
      by_cases hk : k = n
      · subst hk
        simp
      · by_cases h2 : k < n
        · simp [hk, h2, show k < n + 1 by omega]
        · simp [hk, h2, show ¬ k < n + 1 by omega]
    · simp [hc]
def dk_tr (V : Nat → Int32) : Nat → Int32 := fun k => if k < 459 then V k else 0
theorem dk_lv_lt {V : Nat → Int32} {k : Nat} (h : dk_lv V k) : k < 459 := by unfold dk_lv at h; omega
theorem dk_live_tr {a b : Nat → Int32} : dk_live a (dk_tr b) ↔ dk_live a b := by
  constructor <;> intro h k hk <;> have h1 := h k hk <;> simpa [dk_tr, dk_lv_lt hk] using h1
/-- the i-th newest act of the desk's ring, and of the reference's rows -/
def dk_ac (M : hd_Mem) (i : Nat) : dk_Act := (M 38 (((M 6 5).toNatClampNeg + 19 - i) % 20), M 39 (((M 6 5).toNatClampNeg + 19 - i) % 20), M 40 (((M 6 5).toNatClampNeg + 19 - i) % 20), M (42 + ((M 6 5).toNatClampNeg + 19 - i) % 20))
def dk_pa (M : hd_Mem) (i : Nat) : Nat → Int32 := dk_tr fun k => M 69 (((M 67 2).toNatClampNeg - 1 - i) * 459 + k)
theorem dk_gkeep52 {Ls : Nat} {M : hd_Mem} {kp : Nat} (hk : kp < 20) (hM : M 67 2 = nI kp) : gl_M_keep_52 Ls M 459 := by
  refine ⟨by omega, fun i _ => rfl, fun i hi => ?_⟩
  rw [dk_keep52 M kp hk hM i (by omega)]
  unfold gb_M_keep_52
  simp only [show ¬ (67 : Nat) = 69 by decide, false_and, if_false]
  rw [hM, show nI kp * 459 = nI kp * nI 459 from rfl, pk_mul, nI_add]
  exact ⟨hd_okR_n rfl hi (by omega), hd_okW_n (by decide) rfl (show kp * 459 + i < 9180 by omega) (by omega)⟩
theorem dk_gkeep11 {Ls : Nat} {M : hd_Mem} : gl_M_keep_11 Ls M 8721 := by
  refine ⟨by omega, fun i _ => rfl, fun i hi => ?_⟩
  unfold gb_M_keep_11
  rw [show (nI i + 459) = nI i + nI 459 from rfl, nI_add]
  exact ⟨hd_okR_n rfl (show i + 459 < 9180 by omega) (by omega), hd_okW_n (by decide) rfl (show i < 9180 by omega) (by omega)⟩
theorem dk_gkeep {Ls : Nat} {M : hd_Mem} (h : hd_in (M 67 2) 21) : g_M_keep Ls M := by
  obtain ⟨kp, hk, hM⟩ := hd_in_of h (by omega)
  refine ⟨fun q => ⟨dk_gkeep11, ?_⟩, fun q => ?_⟩
  · rw [dk_keep11 M 8721 (by omega)]
    have h20 : kp = 20 := by
      rw [hM] at q
      exact (nI_eq (by omega) (by omega)).mp q
    subst h20
    refine dk_gkeep52 (kp := 19) (by omega) ?_
    rw [hd_set_at]
    simp only [show ¬ (67 : Nat) = 69 by decide, false_and, if_false]
    rw [hM]
    rfl
  · refine dk_gkeep52 (kp := kp) ?_ hM
    have : kp ≠ 20 := by rintro rfl; exact q hM
    omega
/-- keep(), the reference's: a row more (at most 20), the newest is the state -/
theorem dk_keepM {M : hd_Mem} {kp : Nat} (hk : kp ≤ 20) (hM : M 67 2 = nI kp) :
    (f_M_keep M) 67 2 = nI (min (kp + 1) 20) ∧ (∀ c, c ≠ 67 → c ≠ 69 → (f_M_keep M) c = M c) ∧ (∀ j, j ≠ 2 → (f_M_keep M) 67 j = M 67 j) ∧
    dk_pa (f_M_keep M) 0 = dk_tr (M 68) ∧ (∀ i, i + 1 < min (kp + 1) 20 → dk_pa (f_M_keep M) (i + 1) = dk_pa M i) := by
  unfold f_M_keep
  by_cases h20 : kp = 20
  · subst h20
    rw [if_pos (by rw [hM]; rfl)]
    have e11 := dk_keep11 M 8721 (by omega)
    have hm0 : (hd_set (a_M_keep_11 M 8721) 67 2 (((a_M_keep_11 M 8721) 67 2) - 1)) 67 2 = nI 19 := by
      rw [hd_set_at, e11]
      simp only [show ¬ (67 : Nat) = 69 by decide, false_and, if_false]
      rw [hM]; rfl
    have e52 := dk_keep52 _ 19 (by omega) hm0 459 (by omega)
    rw [e52]
    simp only [show ¬ (67 : Nat) = 69 by decide, false_and, if_false]
    rw [hm0]
    refine ⟨by rw [hd_set_at]; rfl, fun c h1 h2 => ?_, fun j hj => ?_, ?_, fun i hi => ?_⟩
    · funext k
      simp [hd_set, h1, h2, e11]
    · simp [hd_set, hj, e11]
    · funext k
      unfold dk_pa dk_tr
      by_cases hk : k < 459
      · simp only [hk, if_true, hd_set_at]
        rw [hd_set_nk (by decide), show (nI 19 + 1).toNatClampNeg = 20 from rfl]
        simp only [show 19 * 459 ≤ (20 - 1 - 0) * 459 + k ∧ (20 - 1 - 0) * 459 + k < 19 * 459 + 459 by omega, and_self, if_true]
        rw [hd_set_nk (by decide), e11, show (20 - 1 - 0) * 459 + k - 19 * 459 = k by omega]
        simp
      · simp [hk]
    · funext k
      unfold dk_pa dk_tr
      by_cases hk : k < 459
      · simp only [hk, if_true, hd_set_at]
        rw [hd_set_nk (by decide), show (nI 19 + 1).toNatClampNeg = 20 from rfl, hM, show (nI 20).toNatClampNeg = 20 from rfl]
        have h3 : ¬ (19 * 459 ≤ (20 - 1 - (i + 1)) * 459 + k ∧ (20 - 1 - (i + 1)) * 459 + k < 19 * 459 + 459) := by omega
        simp only [h3, and_false, if_false]
        rw [hd_set_nk (by decide), e11]
        have h4 : (20 - 1 - (i + 1)) * 459 + k < 8721 := by omega
        simp only [h4, and_self, if_true]
        exact congrArg (M 69) (by omega)
      · simp [hk]
  · rw [if_neg (by rw [hM]; intro q; exact h20 ((nI_eq (by omega) (by omega)).mp q))]
    have e52 := dk_keep52 M kp (by omega) hM 459 (by omega)
    rw [e52]
    simp only [show ¬ (67 : Nat) = 69 by decide, false_and, if_false]
    rw [hM, nI_1]
    refine ⟨by rw [hd_set_at, show min (kp + 1) 20 = kp + 1 by omega], fun c h1 h2 => ?_, fun j hj => ?_, ?_, fun i hi => ?_⟩
    · funext k
      simp [hd_set, h1, h2]
    · simp [hd_set, hj]
    · funext k
      unfold dk_pa dk_tr
      by_cases hk : k < 459
      · simp only [hk, if_true, hd_set_at]
        rw [hd_set_nk (by decide), nI_clamp (by omega)]
        have h3 : kp * 459 ≤ (kp + 1 - 1 - 0) * 459 + k ∧ (kp + 1 - 1 - 0) * 459 + k < kp * 459 + 459 := by
          rw [show kp + 1 - 1 - 0 = kp by omega]; omega
        simp only [h3, and_self, if_true]
        congr 1
        rw [show kp + 1 - 1 - 0 = kp by omega]; omega
      · simp [hk]
    · funext k
      unfold dk_pa dk_tr
      by_cases hk : k < 459
      · simp only [hk, if_true, hd_set_at]
        rw [hd_set_nk (by decide), nI_clamp (by omega), hM, nI_clamp (by omega)]
        have h3 : ¬ (kp * 459 ≤ (kp + 1 - 1 - (i + 1)) * 459 + k ∧ (kp + 1 - 1 - (i + 1)) * 459 + k < kp * 459 + 459) := by
          have : (kp + 1 - 1 - (i + 1) + 1) * 459 ≤ kp * 459 := Nat.mul_le_mul_right _ (by omega)
          omega
        simp only [h3, and_false, if_false]
        exact congrArg (M 69) (by rw [show kp + 1 - 1 - (i + 1) = kp - 1 - i by omega])
      · simp [hk]
/-- keep(), the desk's -/
theorem dk_keepD {M : hd_Mem} {kp nx : Nat} {w ix was : Int32} (hk : kp ≤ 20) (hM : M 6 4 = nI kp) (hn : nx < 20) (hN : M 6 5 = nI nx) :
    (f_D_keep M w ix was).1 = nI nx ∧ (f_D_keep M w ix was).2 6 4 = nI (min (kp + 1) 20) ∧ (f_D_keep M w ix was).2 6 5 = nI ((nx + 1) % 20) ∧
    (∀ c, c ≠ 6 → c ≠ 7 → c ≠ 38 → c ≠ 39 → c ≠ 40 → (f_D_keep M w ix was).2 c = M c) ∧ (f_D_keep M w ix was).2 7 0 = -1 ∧ (∀ j, j ≠ 0 → (f_D_keep M w ix was).2 7 j = M 7 j) ∧
    dk_ac (f_D_keep M w ix was).2 0 = (w, ix, was, M (42 + nx)) ∧ (∀ i, i + 1 < 20 → dk_ac (f_D_keep M w ix was).2 (i + 1) = dk_ac M i) := by
  have e65 : (f_Pn_forget M) 6 5 = nI nx := by unfold f_Pn_forget; rw [hd_set_nk (by decide)]; exact hN
  have e64 : (f_Pn_forget M) 6 4 = nI kp := by unfold f_Pn_forget; rw [hd_set_nk (by decide)]; exact hM
  have hrem : (nI nx + 1) - (nI nx + 1) / 20 * 20 = nI ((nx + 1) % 20) := by
    rw [nI_1, show (20 : Int32) = nI 20 from rfl]
    exact pk_rem (by omega) (by omega) (by omega)
  have hmin : (if 20 < nI kp + 1 then 20 else nI kp + 1) = nI (min (kp + 1) 20) := by
    rw [nI_1, show (20 : Int32) = nI 20 from rfl]
    by_cases h : 20 < kp + 1
    · rw [if_pos ((nI_ltI (by omega) (by omega)).mpr h), show min (kp + 1) 20 = 20 by omega]
    · rw [if_neg (fun q => h ((nI_ltI (by omega) (by omega)).mp q)), show min (kp + 1) 20 = kp + 1 by omega]
  unfold f_D_keep f_Ac_push
  simp only [e65, e64, hrem, hmin, nI_clamp (show nx < 2 ^ 31 by omega)]
  refine ⟨trivial, ?_, ?_, ?_, ?_, ?_, ?_, ?_⟩
  · simp [hd_set]
  · simp [hd_set]
  · intro c h1 h2 h3 h4 h5
    funext k
    simp [hd_set, f_Pn_forget, h1, h2, h3, h4, h5]
  · simp [hd_set, f_Pn_forget]
  · intro j hj
    simp [hd_set, f_Pn_forget, hj]
  · unfold dk_ac
    have hs : ((hd_set (hd_set (hd_set (hd_set (hd_set (f_Pn_forget M) 38 nx w) 39 nx ix) 40 nx was) 6 5 (nI ((nx + 1) % 20))) 6 4 (nI (min (kp + 1) 20))) 6 5).toNatClampNeg = (nx + 1) % 20 := by
      rw [hd_set_nj (by decide), hd_set_at]
      exact nI_clamp (by omega)
    rw [hs, show ((nx + 1) % 20 + 19 - 0) % 20 = nx by omega]
    have h42 : ∀ k, (hd_set (hd_set (hd_set (hd_set (hd_set (f_Pn_forget M) 38 nx w) 39 nx ix) 40 nx was) 6 5 (nI ((nx + 1) % 20))) 6 4 (nI (min (kp + 1) 20))) (42 + nx) k = M (42 + nx) k := by
      intro k
      rw [hd_set_nk (by omega), hd_set_nk (by omega), hd_set_nk (by omega), hd_set_nk (by omega), hd_set_nk (by omega)]
      unfold f_Pn_forget
      rw [hd_set_nk (by omega)]
    refine Prod.ext ?_ (Prod.ext ?_ (Prod.ext ?_ (funext h42)))
    · simp [hd_set]
    · simp [hd_set]
    · simp [hd_set]
  · intro i hi
    unfold dk_ac
    have hs : ((hd_set (hd_set (hd_set (hd_set (hd_set (f_Pn_forget M) 38 nx w) 39 nx ix) 40 nx was) 6 5 (nI ((nx + 1) % 20))) 6 4 (nI (min (kp + 1) 20))) 6 5).toNatClampNeg = (nx + 1) % 20 := by
      rw [hd_set_nj (by decide), hd_set_at]
      exact nI_clamp (by omega)
    rw [hs, hN, nI_clamp (show nx < 2 ^ 31 by omega), show ((nx + 1) % 20 + 19 - (i + 1)) % 20 = (nx + 19 - i) % 20 by omega]
    have hne : (nx + 19 - i) % 20 ≠ nx := by omega
    have hlt : (nx + 19 - i) % 20 < 20 := Nat.mod_lt _ (by omega)
    generalize (nx + 19 - i) % 20 = z at hne hlt ⊢
    have h42 : ∀ k, (hd_set (hd_set (hd_set (hd_set (hd_set (f_Pn_forget M) 38 nx w) 39 nx ix) 40 nx was) 6 5 (nI ((nx + 1) % 20))) 6 4 (nI (min (kp + 1) 20))) (42 + z) k = M (42 + z) k := by
      intro k
      rw [hd_set_nk (by omega), hd_set_nk (by omega), hd_set_nk (by omega), hd_set_nk (by omega), hd_set_nk (by omega)]
      unfold f_Pn_forget
      rw [hd_set_nk (by omega)]
    refine Prod.ext ?_ (Prod.ext ?_ (Prod.ext ?_ (funext h42)))
    · simp [hd_set, f_Pn_forget, hne]
    · simp [hd_set, f_Pn_forget, hne]
    · simp [hd_set, f_Pn_forget, hne]
theorem dk_gkeepD {Ls : Nat} {M : hd_Mem} {w ix was : Int32} (hN : hd_in (M 6 5) 20) : g_D_keep Ls M w ix was := by
  unfold g_D_keep g_Ac_push
  have e : (f_Pn_forget M) 6 5 = M 6 5 := by unfold f_Pn_forget; rw [hd_set_nk (by decide)]
  rw [e]
  exact ⟨⟨by decide, 20, rfl, hN⟩, ⟨by decide, 20, rfl, hN⟩, ⟨by decide, 20, rfl, hN⟩⟩
