/-! told -/
def dk_sm (f : Nat → Nat) : Nat → Nat
  | 0 => 0
  | n + 1 => dk_sm f n + f n
theorem dk_sm_congr {f g : Nat → Nat} : ∀ n, (∀ i, i < n → f i = g i) → dk_sm f n = dk_sm g n
  | 0, _ => rfl
  | n + 1, h => by
    show dk_sm f n + f n = dk_sm g n + g n
    rw [dk_sm_congr n (fun i hi => h i (by omega)), h n (by omega)]
theorem dk_sm_add {f g : Nat → Nat} : ∀ n, dk_sm (fun i => f i + g i) n = dk_sm f n + dk_sm g n
  | 0 => rfl
  | n + 1 => by
    show dk_sm (fun i => f i + g i) n + (f n + g n) = dk_sm f n + f n + (dk_sm g n + g n)
    rw [dk_sm_add n]
    omega
theorem dk_sm_le {f : Nat → Nat} {m : Nat} : ∀ n, (∀ i, i < n → f i ≤ m) → dk_sm f n ≤ n * m
  | 0, _ => by simp [dk_sm]
  | n + 1, h => by
    have := dk_sm_le n (fun i hi => h i (by omega)) (m := m)
    have h2 := h n (by omega)
    show dk_sm f n + f n ≤ (n + 1) * m
    rw [Nat.succ_mul]
    omega
theorem dk_sm_z {f : Nat → Nat} {n : Nat} : ∀ m, n ≤ m → (∀ i, n ≤ i → i < m → f i = 0) → dk_sm f m = dk_sm f n
  | 0, h, _ => by rw [show n = 0 by omega]
  | m + 1, h, hz => by
    rcases (show n = m + 1 ∨ n ≤ m by omega) with rfl | q
    · rfl
    · show dk_sm f m + f m = dk_sm f n
      rw [dk_sm_z m q (fun i a b => hz i a (by omega)), hz m q (by omega)]
      rfl
/-- pairs, counted once and twice -/
theorem dk_pairs {b : Nat → Nat → Nat} (hs : ∀ p q, b p q = b q p) (hd : ∀ p, b p p = 0) : ∀ n, dk_sm (fun p => dk_sm (fun q => b p q) n) n = 2 * dk_sm (fun p => dk_sm (fun k => b p (p + 1 + k)) (n - (p + 1))) n
  | 0 => rfl
  | n + 1 => by
    have ih := dk_pairs hs hd n
    have e1 : dk_sm (fun p => dk_sm (fun q => b p q) (n + 1)) (n + 1) = dk_sm (fun p => dk_sm (fun q => b p q) n) n + dk_sm (fun p => b p n) n + dk_sm (fun q => b n q) n := by
      show dk_sm (fun p => dk_sm (fun q => b p q) n + b p n) n + (dk_sm (fun q => b n q) n + b n n) = _
      rw [dk_sm_add, hd]
      omega
    have e2 : dk_sm (fun p => dk_sm (fun k => b p (p + 1 + k)) (n + 1 - (p + 1))) (n + 1) = dk_sm (fun p => dk_sm (fun k => b p (p + 1 + k)) (n - (p + 1))) n + dk_sm (fun p => b p n) n := by
      show dk_sm (fun p => dk_sm (fun k => b p (p + 1 + k)) (n + 1 - (p + 1))) n + dk_sm (fun k => b n (n + 1 + k)) (n + 1 - (n + 1)) = _
      rw [show n + 1 - (n + 1) = 0 by omega]
      rw [← dk_sm_add]
      show _ + 0 = _
      rw [Nat.add_zero]
      apply dk_sm_congr
      intro p hp
      rw [show n + 1 - (p + 1) = (n - (p + 1)) + 1 by omega]
      show _ + b p (p + 1 + (n - (p + 1))) = _
      rw [show p + 1 + (n - (p + 1)) = n by omega]
    have e3 : dk_sm (fun q => b n q) n = dk_sm (fun p => b p n) n := dk_sm_congr n (fun i _ => hs n i)
    rw [e1, e2, e3, ih]
    omega
def dk_b (V : Nat → Int32) (p q : Nat) : Nat := if ((V (46 + p)) >>> (nI q &&& 31)) &&& 1 = 1 then 1 else 0
def dk_bs (V : Nat → Int32) (n : Nat) : Nat := dk_sm (fun p => dk_sm (fun k => dk_b V p (p + 1 + k)) (n - (p + 1))) n
theorem dk_bc : ∀ s, s < 256 → f_In_bitCount (nI s) = nI (dk_sm (fun q => if (nI s >>> (nI q &&& 31)) &&& 1 = 1 then 1 else 0) 8) := by decide +kernel
theorem dk_ars {M : hd_Mem} {p q : Nat} (hp : p < 8) : f_M_areBarred M (nI p) (nI q) = nI (dk_b (M 68) p q) := by
  unfold f_M_areBarred dk_b
  rw [show (46 + nI p).toNatClampNeg = 46 + p from dk_ix (a := 46) (by omega)]
  split <;> rfl
theorem dk_told_in {Ls : Nat} {M : hd_Mem} {Q : Option Value → hd_Mem → Prop} {v1 : Value} {n p c : Nat} (hn : n ≤ 8) (hM : M 68 0 = nI n) (hp : p < n) (k : ∀ v4, hd_E Ls M_told (70, [.ref 67, v1, .int (nI (c + dk_sm (fun k => dk_b (M 68) p (p + 1 + k)) (n - (p + 1)))), .int (nI p), v4], [], M) Q) : hd_E Ls M_told (35, [.ref 67, v1, .int (nI c), .int (nI p), .int (nI (p + 1))], [], M) Q := by
  refine hd_forP (n - (p + 1)) (fun i s => s = (35, [.ref 67, v1, .int (nI (c + dk_sm (fun k => dk_b (M 68) p (p + 1 + k)) i)), .int (nI p), .int (nI (p + 1 + i))], [], M)) ?_ ?_ _ rfl
  · rintro i s hi rfl ih
    refine b_M_told_35 (fun h => absurd h (by rw [hM]; exact hd_nle (by omega) (by omega))) (fun _ => b_M_told_46 (s_M_areBarred (show hd_okR Ls 68 (46 + nI p) from by rw [show (46 : Int32) + nI p = nI 46 + nI p from rfl, nI_add]; exact hd_okR_n rfl (show 46 + p < 459 by omega) (by omega))) ?_)
    rw [dk_ars (by omega)]
    have hb : dk_b (M 68) p (p + 1 + i) = 0 ∨ dk_b (M 68) p (p + 1 + i) = 1 := by unfold dk_b; split <;> simp
    refine b_M_told_54 (fun h => b_M_told_61 ?_) (fun h => b_M_told_57 ?_)
    · have hz : dk_b (M 68) p (p + 1 + i) = 0 := by
        rcases hb with q | q
        · exact q
        · rw [q] at h; exact absurd h (by decide)
      refine hd_E_eq ?_ (ih _ rfl)
      show _ = (35, [.ref 67, v1, .int (nI (c + (dk_sm (fun k => dk_b (M 68) p (p + 1 + k)) i + dk_b (M 68) p (p + 1 + i)))), .int (nI p), .int (nI (p + 1 + i + 1))], [], M)
      rw [hz, show (nI (c + dk_sm (fun k => dk_b (M 68) p (p + 1 + k)) i) + 0 : Int32) = nI (c + dk_sm (fun k => dk_b (M 68) p (p + 1 + k)) i) + nI 0 from rfl, nI_add, ← nI_1]
      rfl
    · have hz : dk_b (M 68) p (p + 1 + i) = 1 := by
        rcases hb with q | q
        · rw [q] at h; exact absurd rfl h
        · exact q
      refine hd_E_eq ?_ (ih _ rfl)
      show _ = (35, [.ref 67, v1, .int (nI (c + (dk_sm (fun k => dk_b (M 68) p (p + 1 + k)) i + dk_b (M 68) p (p + 1 + i)))), .int (nI p), .int (nI (p + 1 + i + 1))], [], M)
      rw [hz, nI_1, ← nI_1 (a := p + 1 + i)]
      rfl
  · rintro s rfl
    exact b_M_told_35 (fun _ => k _) (fun h => absurd (by rw [hM, show p + 1 + (n - (p + 1)) = n by omega]; exact Int32.le_refl _) h)
theorem dk_told_out {Ls : Nat} {M : hd_Mem} {Q : Option Value → hd_Mem → Prop} {v1 v4 : Value} {n : Nat} (hn : n ≤ 8) (hM : M 68 0 = nI n) (k : ∀ v3 v4, hd_E Ls M_told (76, [.ref 67, v1, .int (nI (dk_bs (M 68) n)), v3, v4], [], M) Q) : hd_E Ls M_told (20, [.ref 67, v1, .int 0, .int 0, v4], [], M) Q := by
  refine hd_forP n (fun i s => ∃ v4, s = (20, [.ref 67, v1, .int (nI (dk_sm (fun p => dk_sm (fun k => dk_b (M 68) p (p + 1 + k)) (n - (p + 1))) i)), .int (nI i), v4], [], M)) ?_ ?_ _ ⟨v4, rfl⟩
  · rintro i s hi ⟨w4, rfl⟩ ih
    refine b_M_told_20 (fun h => absurd h (by rw [hM]; exact hd_nle (by omega) (by omega))) (fun _ => b_M_told_30 ?_)
    rw [nI_1]
    refine dk_told_in hn hM hi (fun v4 => b_M_told_70 ?_)
    rw [nI_1]
    exact ih _ ⟨v4, rfl⟩
  · rintro s ⟨w4, rfl⟩
    exact b_M_told_20 (fun _ => k _ _) (fun h => absurd (by rw [hM]; exact Int32.le_refl _) h)
theorem dk_mtold {Ls : Nat} {M : hd_Mem} {x : Int32} {n : Nat} (hn : n ≤ 8) (hM : M 68 0 = nI n) : hd_Rt Ls M_told [.ref 67, .int x] M (some (.int (if f_M_within x 0 5 = 0 then (f_M_finding M (-100001)).1 else if 4 ≤ x then (if x = 4 then nI (dk_bs (M 68) n) else M 67 3) else M 68 x.toNatClampNeg))) (if f_M_within x 0 5 = 0 then (f_M_finding M (-100001)).2 else M) := by
  refine e_M_told (b_M_told_0 s_M_within (b_M_told_6 (fun h => b_M_told_9 s_M_finding (b_M_told_15 ?_)) (fun h => b_M_told_16 (dk_told_out hn hM (fun v3 v4 => b_M_told_76 (fun h4 => b_M_told_90 (fun h5 => b_M_told_95 ?_) (fun h5 => b_M_told_99 ?_)) (fun h4 => b_M_told_81 ?_ ?_))))))
  · rw [if_pos h, if_pos h]; exact ⟨rfl, rfl⟩
  · rw [if_neg h, if_neg h, if_pos h4, if_pos h5]; exact ⟨rfl, rfl⟩
  · rw [if_neg h, if_neg h, if_pos h4, if_neg h5]; exact ⟨rfl, rfl⟩
  · obtain ⟨z, hz, rfl⟩ := hd_in_of (dk_within (a := 0) (b := 5) (by omega) (by omega) h).1 (by omega)
    exact hd_okR_n rfl (show z < 459 by omega) (by omega)
  · rw [if_neg h, if_neg h, if_neg h4]; exact ⟨rfl, rfl⟩
theorem dk_cbr {M : hd_Mem} {n : Nat} (hn : n ≤ 8) (V : Nat → Int32) (hV : ∀ p, p < 8 → M 13 p = V (46 + p)) (hB : ∀ p, p < 8 → hd_in (V (46 + p)) 256) : ∀ i, i ≤ n → a_Pe_countBars_4 M 0 i = nI (dk_sm (fun p => dk_sm (fun q => dk_b V p q) 8) i)
  | 0, _ => rfl
  | i + 1, hi => by
    show t_Pe_countBars_4 M (a_Pe_countBars_4 M 0 i) (nI i) = _
    rw [dk_cbr hn V hV hB i (by omega)]
    unfold t_Pe_countBars_4
    rw [nI_clamp (by omega), hV i (by omega)]
    obtain ⟨s, hs, es⟩ := hd_in_of (hB i (by omega)) (by omega)
    rw [es, dk_bc s hs, nI_add]
    show nI (_ + _) = nI (dk_sm (fun p => dk_sm (fun q => dk_b V p q) 8) i + dk_sm (fun q => dk_b V i q) 8)
    unfold dk_b
    rw [es]
theorem dk_bsym {V : Nat → Int32} (hB : dk_wfB V) {p q : Nat} (hp : p < 8) (hq : q < 8) : dk_b V p q = dk_b V q p := by
  have key : ∀ p q, p < 8 → q < 8 → dk_b V p q = 1 → dk_b V q p = 1 := by
    intro p q hp hq h
    unfold dk_b at h ⊢
    have h1 : dk_bit (V (46 + p)) q := by
      intro z
      rw [z] at h
      exact absurd h (by decide)
    have h2 := ((hB p hp).2 q hq h1).2.2.2
    rcases dk_b01 (V (46 + q) >>> (nI p &&& 31)) with z | z
    · exact absurd z h2
    · rw [if_pos z]
  have k01 : ∀ p q, dk_b V p q = 0 ∨ dk_b V p q = 1 := fun p q => by unfold dk_b; split <;> simp
  have a := key p q hp hq
  have b := key q p hq hp
  rcases k01 p q with u | u <;> rcases k01 q p with v | v <;> simp_all
theorem dk_b0 {V : Nat → Int32} (hB : dk_wfB V) {p q : Nat} (hp : p < 8) (hq : q < 8) (h : p = q ∨ dk_np V ≤ p ∨ dk_np V ≤ q) : dk_b V p q = 0 := by
  unfold dk_b
  rw [if_neg]
  intro z
  have h1 : dk_bit (V (46 + p)) q := by
    intro y
    rw [y] at z
    exact absurd z (by decide)
  have h2 := (hB p hp).2 q hq h1
  omega
theorem dk_same_told {pw : dk_PW} {xs : Nat → Int32} {Ls : Nat} {M : hd_Mem} (I : dk_inv pw xs M) (x1 : Int32) : dk_same pw xs Ls D_told M_told [.int x1] M := by
  obtain ⟨n, hn, e1, e2, e3, e4⟩ := dk_np_of I
  have hw := I.1
  have hl := I.2.1
  have hB : dk_wfB (M 68) := hw.2.2.2.2.2.2.2.2.2.2
  have hV : ∀ p, p < 8 → M 13 p = M 68 (46 + p) := fun p hp => by
    rw [← hl (46 + p) (dk_lv_b hp)]
    exact (hd_dvA 13 (by simp) (show p < 8 by omega)).symm
  have GD : g_D_told Ls M x1 := by
    intro _
    unfold g_Pe_countBars
    rw [e1, nI_clamp (by omega)]
    exact ⟨by omega, fun _ _ => e1, fun i hi => hd_okR_n rfl (show i < 8 by omega) (by omega)⟩
  have hD := s_D_told GD
  unfold f_D_told at hD
  by_cases hx : f_M_within x1 0 5 = 0
  · have hne : ∀ k : Nat, k ≤ 5 → x1 ≠ nI k := by
      rintro k hk rfl
      rcases (show k = 0 ∨ k = 1 ∨ k = 2 ∨ k = 3 ∨ k = 4 ∨ k = 5 by omega) with rfl | rfl | rfl | rfl | rfl | rfl <;> exact absurd hx (by decide)
    rw [if_neg (show ¬ x1 = 0 from hne 0 (by omega)), if_neg (show ¬ x1 = 1 from hne 1 (by omega)), if_neg (show ¬ x1 = 2 from hne 2 (by omega)), if_neg (show ¬ x1 = 3 from hne 3 (by omega)), if_neg (show ¬ x1 = 4 from hne 4 (by omega)), if_neg (show ¬ x1 = 5 from hne 5 (by omega))] at hD
    have hM := dk_mtold (Ls := Ls) (M := (f_D_finding M (-100001)).2) (x := x1) hn (by rw [dk_find68]; exact e2)
    rw [if_pos hx, if_pos hx] at hM
    exact dk_finds _ I hD hM
  have hM := dk_mtold (Ls := Ls) (M := M) (x := x1) hn e2
  rw [if_neg hx, if_neg hx] at hM
  obtain ⟨z, hz, rfl⟩ := hd_in_of (dk_within (a := 0) (b := 5) (by omega) (by omega) hx).1 (by omega)
  have hc := dk_live_cnt hl
  rcases (show z = 0 ∨ z = 1 ∨ z = 2 ∨ z = 3 ∨ z = 4 ∨ z = 5 by omega) with rfl | rfl | rfl | rfl | rfl | rfl
  · refine ⟨_, _, _, hD, ?_, I⟩
    rw [if_neg (by decide)] at hM
    have := hc 0 (by omega)
    rw [hd_dv_0] at this
    show hd_Rt Ls M_told _ M (some (.int (M 1 6))) M
    rw [this]; exact hM
  · refine ⟨_, _, _, hD, ?_, I⟩
    rw [if_neg (by decide)] at hM
    have := hc 1 (by omega)
    rw [hd_dv_1] at this
    show hd_Rt Ls M_told _ M (some (.int (M 2 5))) M
    rw [this]; exact hM
  · refine ⟨_, _, _, hD, ?_, I⟩
    rw [if_neg (by decide)] at hM
    have := hc 2 (by omega)
    rw [hd_dv_2] at this
    show hd_Rt Ls M_told _ M (some (.int (M 3 5))) M
    rw [this]; exact hM
  · refine ⟨_, _, _, hD, ?_, I⟩
    rw [if_neg (by decide)] at hM
    have := hc 3 (by omega)
    rw [hd_dv_3] at this
    show hd_Rt Ls M_told _ M (some (.int (M 4 3))) M
    rw [this]; exact hM
  · refine ⟨_, _, _, hD, ?_, I⟩
    rw [if_pos (by decide), if_pos (show nI 4 = 4 from rfl)] at hM
    have key : f_Pe_countBars M = nI (dk_bs (M 68) n) := by
      unfold f_Pe_countBars
      rw [e1, nI_clamp (by omega), dk_cbr hn (M 68) hV (fun p hp => (hB p hp).1) n (Nat.le_refl _)]
      have s1 : dk_sm (fun p => dk_sm (fun q => dk_b (M 68) p q) 8) n = dk_sm (fun p => dk_sm (fun q => dk_b (M 68) p q) n) n := by
        apply dk_sm_congr
        intro p hp
        exact dk_sm_z 8 hn (fun q h1 h2 => dk_b0 hB (by omega) h2 (by omega))
      have s2 := dk_pairs (b := fun p q => if p < 8 ∧ q < 8 then dk_b (M 68) p q else 0) (by
        intro p q
        by_cases h : p < 8 ∧ q < 8
        · rw [if_pos h, if_pos h.symm]; exact dk_bsym hB h.1 h.2
        · rw [if_neg h, if_neg (fun z => h z.symm)]) (by
        intro p
        by_cases h : p < 8 ∧ p < 8
        · rw [if_pos h]; exact dk_b0 hB h.1 h.1 (Or.inl rfl)
        · rw [if_neg h]) n
      have s3 : dk_sm (fun p => dk_sm (fun q => if p < 8 ∧ q < 8 then dk_b (M 68) p q else 0) n) n = dk_sm (fun p => dk_sm (fun q => dk_b (M 68) p q) n) n := by
        apply dk_sm_congr
        intro p hp
        apply dk_sm_congr
        intro q hq
        rw [if_pos ⟨by omega, by omega⟩]
      have s4 : dk_sm (fun p => dk_sm (fun k => if p < 8 ∧ p + 1 + k < 8 then dk_b (M 68) p (p + 1 + k) else 0) (n - (p + 1))) n = dk_bs (M 68) n := by
        apply dk_sm_congr
        intro p hp
        apply dk_sm_congr
        intro q hq
        rw [if_pos ⟨by omega, by omega⟩]
      rw [s3, s4] at s2
      rw [s1, s2]
      have hb : dk_bs (M 68) n ≤ 8 * 8 := by
        refine Nat.le_trans (dk_sm_le n (m := 8) (fun p hp => ?_)) (Nat.mul_le_mul hn (Nat.le_refl _))
        refine Nat.le_trans (dk_sm_le (n - (p + 1)) (m := 1) (fun k hk => ?_)) (by omega)
        unfold dk_b
        split <;> omega
      have hdiv : ∀ t, t ≤ 64 → nI (2 * t) / 2 = nI t := by decide +kernel
      exact hdiv _ hb
    show hd_Rt Ls M_told _ M (some (.int (f_Pe_countBars M))) M
    rw [key]; exact hM
  · refine ⟨_, _, _, hD, ?_, I⟩
    rw [if_pos (by decide), if_neg (by decide)] at hM
    show hd_Rt Ls M_told _ M (some (.int (M 0 7))) M
    rw [I.2.2.2.2.1]; exact hM
