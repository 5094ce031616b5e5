/-! what counts, on the reference's side -/
theorem hd_E_det {Ls y : Nat} {s : hd_S} {Q : Option Value → hd_Mem → Prop} (h : hd_E Ls y s Q) : ∃ v M', Q v M' ∧ hd_E Ls y s (fun a b => a = v ∧ b = M') := by
  obtain ⟨n, h⟩ := h
  obtain ⟨v, M', h1, h2⟩ := hd_Ev_det n y s Q h
  exact ⟨v, M', h1, n, h2⟩
theorem dk_okR68 {Ls q e : Nat} (h : q + e < 459) : hd_okR Ls 68 (nI q + nI e) := by rw [nI_add]; exact hd_okR_n rfl h (by omega)
theorem dk_od {M K : hd_Mem} (h : dk_wf (M 68)) (hK : ∀ c, c ≠ 73 → K c = M c) (h0 : ∀ j, j < 3 → K 73 j = 0) (p d : Nat) (k : Int32) : ∀ i, i ≤ dk_ne (M 68) → (∀ c, c ≠ 73 → a_M_onDay_24 K (nI p) (nI d) k i c = M c) ∧ ∀ j, j < 3 → a_M_onDay_24 K (nI p) (nI d) k i 73 j = nI (dk_cs (M 68) p k j d i)
  | 0, _ => ⟨hK, fun j hj => h0 j hj⟩
  | i + 1, hi => by
    have h60 := (dk_wf_n h).2.2.2.2.2.1
    obtain ⟨a1, a2⟩ := dk_od h hK h0 p d k i (by omega)
    show (∀ c, c ≠ 73 → t_M_onDay_24 (a_M_onDay_24 K (nI p) (nI d) k i) (nI p) (nI d) k (nI i) c = M c) ∧ ∀ j, j < 3 → t_M_onDay_24 (a_M_onDay_24 K (nI p) (nI d) k i) (nI p) (nI d) k (nI i) 73 j = nI (dk_cs (M 68) p k j d (i + 1))
    generalize a_M_onDay_24 K (nI p) (nI d) k i = A at a1 a2
    obtain ⟨dd, mm, ss, hdd, hmm, hss, e1, e2, e3⟩ := dk_ent_of h (show i < dk_ne (M 68) by omega)
    have hstep : ∀ s, dk_cs (M 68) p k s d (i + 1) = dk_cs (M 68) p k s d i + (if ((M 68) (69 + i) = nI p ∧ ¬ k < (M 68) (309 + i)) ∧ (M 68) (129 + i) = nI d ∧ nI ss = nI s then mm else 0) := by
      intro s
      show dk_cs (M 68) p k s d i + (if ((M 68) (69 + i) = nI p ∧ ¬ k < (M 68) (309 + i)) ∧ (M 68) (129 + i) = nI d ∧ (M 68) (249 + i) = nI s then ((M 68) (189 + i)).toNatClampNeg else 0) = _
      rw [e2, e3, nI_clamp (show mm < 2 ^ 31 by omega)]
    have same : ¬ (((M 68) (69 + i) = nI p ∧ ¬ k < (M 68) (309 + i)) ∧ (M 68) (129 + i) = nI d) → (∀ c, c ≠ 73 → A c = M c) ∧ ∀ j, j < 3 → A 73 j = nI (dk_cs (M 68) p k j d (i + 1)) := fun hno => ⟨a1, fun j hj => by rw [a2 j hj, hstep, if_neg (fun z => hno ⟨z.1, z.2.1⟩), Nat.add_zero]⟩
    unfold t_M_onDay_24
    rw [a1 68 (by decide), show (69 + nI i).toNatClampNeg = 69 + i from dk_ix (a := 69) (by omega), show (129 + nI i).toNatClampNeg = 129 + i from dk_ix (a := 129) (by omega), show (309 + nI i).toNatClampNeg = 309 + i from dk_ix (a := 309) (by omega), show (249 + nI i).toNatClampNeg = 249 + i from dk_ix (a := 249) (by omega), show (189 + nI i).toNatClampNeg = 189 + i from dk_ix (a := 189) (by omega), e2, e3, nI_clamp (show ss < 2 ^ 31 by omega), a2 ss hss]
    by_cases q1 : (M 68) (69 + i) = nI p
    · rw [if_pos q1]
      by_cases q2 : (M 68) (129 + i) = nI d
      · rw [if_pos q2]
        by_cases q3 : k < (M 68) (309 + i)
        · rw [if_pos q3]
          exact same (fun z => z.1.2 q3)
        · rw [if_neg q3]
          refine ⟨fun c hc => by rw [hd_set_ne hc, a1 c hc], fun j hj => ?_⟩
          by_cases qj : j = ss
          · subst qj
            rw [hd_set_at, hstep, if_pos ⟨⟨q1, q3⟩, q2, rfl⟩, nI_add]
          · rw [hd_set_nj qj, a2 j hj, hstep, if_neg, Nat.add_zero]
            rintro ⟨-, -, z⟩
            rw [nI_eq (by omega) (by omega)] at z
            exact qj z.symm
      · rw [if_neg q2]
        exact same (fun z => q2 z.2)
    · rw [if_neg q1]
      exact same (fun z => q1 z.1.1)
theorem dk_mon {Ls : Nat} {M : hd_Mem} (h : dk_wf (M 68)) {p d : Nat} (hp : p < 8) (k : Int32) : ∃ M2, (∀ c, c ≠ 73 → M2 c = M c) ∧ hd_Rt Ls M_onDay [.ref 67, .int (nI p), .int (nI d), .int k] M (some (.int (nI (dk_gd (M 68) p k d)))) M2 := by
  have hn := dk_wf_n h
  have h60 := hn.2.2.2.2.2.1
  have hK : ∀ c, c ≠ 73 → (hd_set (hd_set (hd_set M 73 0 0) 73 1 0) 73 2 0) c = M c := fun c hc => by rw [hd_set_ne hc, hd_set_ne hc, hd_set_ne hc]
  have h0 : ∀ j, j < 3 → (hd_set (hd_set (hd_set M 73 0 0) 73 1 0) 73 2 0) 73 j = 0 := fun j hj => by
    rcases (show j = 0 ∨ j = 1 ∨ j = 2 by omega) with rfl | rfl | rfl <;> simp [hd_set]
  have key := dk_od h hK h0 p d k
  obtain ⟨T, hT, eT⟩ := hd_in_of h.2.2.2.2.1 (by omega)
  obtain ⟨R, hR, eR⟩ := hd_in_of h.2.2.2.2.2.1 (by omega)
  have G : gl_M_onDay_24 Ls (hd_set (hd_set (hd_set M 73 0 0) 73 1 0) 73 2 0) (nI p) (nI d) k (dk_ne (M 68)) := by
    refine ⟨by omega, fun i hi => by rw [(key i hi).1 68 (by decide)]; exact hn.2.2.2.2.1, fun i hi => ?_⟩
    obtain ⟨dd, mm, ss, hdd, hmm, hss, e1, e2, e3⟩ := dk_ent_of h hi
    unfold gb_M_onDay_24
    rw [(key i (by omega)).1 68 (by decide), show (249 + nI i).toNatClampNeg = 249 + i from dk_ix (a := 249) (by omega), e3]
    exact ⟨dk_okR68 (q := 69) (by omega), fun _ => ⟨dk_okR68 (q := 129) (by omega), fun _ => ⟨dk_okR68 (q := 309) (by omega), fun _ => ⟨dk_okR68 (q := 249) (by omega), hd_okR_n rfl hss (by omega), dk_okR68 (q := 189) (by omega), hd_okW_n (by decide) rfl hss (by omega)⟩⟩⟩⟩
  obtain ⟨f1, f2⟩ := key (dk_ne (M 68)) (Nat.le_refl _)
  have k6 : (6 + nI p).toNatClampNeg = 6 + p := dk_ix (a := 6) (by omega)
  have ok6 : hd_okR Ls 68 (6 + nI p) := dk_okR68 (q := 6) (by omega)
  refine ⟨_, f1, ?_⟩
  refine e_M_onDay (b_M_onDay_0 (w_M_onDay_24 (n := dk_ne (M 68)) G (fun w5 => ?_)))
  generalize a_M_onDay_24 (hd_set (hd_set (hd_set M 73 0 0) 73 1 0) 73 2 0) (nI p) (nI d) k (dk_ne (M 68)) = A at f1 f2
  have hv : (((A 73 0) + (if A 68 4 < A 73 1 then A 68 4 else A 73 1)) + (((A 73 2) * (A 68 5)) / 100)) = nI (dk_cs (M 68) p k 0 d (dk_ne (M 68)) + min (dk_cs (M 68) p k 1 d (dk_ne (M 68))) T + dk_cs (M 68) p k 2 d (dk_ne (M 68)) * R / 100) := by
    have l0 := dk_cs_le h p k 0 d (Nat.le_refl (dk_ne (M 68)))
    have l1 := dk_cs_le h p k 1 d (Nat.le_refl (dk_ne (M 68)))
    have l2 := dk_cs_le h p k 2 d (Nat.le_refl (dk_ne (M 68)))
    have hcr : dk_cs (M 68) p k 2 d (dk_ne (M 68)) * R ≤ 54000 * 100 := Nat.mul_le_mul l2 (by omega)
    rw [f1 68 (by decide), f2 0 (by omega), f2 1 (by omega), f2 2 (by omega), eT, eR, pk_mul, show (100 : Int32) = nI 100 from rfl, pk_div (by omega) (by omega) (by omega), dk_mn (by omega) (by omega), nI_add, nI_add]
  have hmin : ∀ L, L ≤ 480 → (if nI L < nI (dk_cs (M 68) p k 0 d (dk_ne (M 68)) + min (dk_cs (M 68) p k 1 d (dk_ne (M 68))) T + dk_cs (M 68) p k 2 d (dk_ne (M 68)) * R / 100) then nI L else nI (dk_cs (M 68) p k 0 d (dk_ne (M 68)) + min (dk_cs (M 68) p k 1 d (dk_ne (M 68))) T + dk_cs (M 68) p k 2 d (dk_ne (M 68)) * R / 100)) = nI (dk_gv T R L (dk_cs (M 68) p k 0 d (dk_ne (M 68))) (dk_cs (M 68) p k 1 d (dk_ne (M 68))) (dk_cs (M 68) p k 2 d (dk_ne (M 68)))) := by
    intro L hL
    have l0 := dk_cs_le h p k 0 d (Nat.le_refl (dk_ne (M 68)))
    have l1 := dk_cs_le h p k 1 d (Nat.le_refl (dk_ne (M 68)))
    have l2 := dk_cs_le h p k 2 d (Nat.le_refl (dk_ne (M 68)))
    have hcr : dk_cs (M 68) p k 2 d (dk_ne (M 68)) * R ≤ 54000 * 100 := Nat.mul_le_mul l2 (by omega)
    rw [dk_mn (by omega) (by omega)]
    rfl
  have hgd : ∀ L, dk_lim (M 68) p = L → nI (dk_gd (M 68) p k d) = nI (dk_gv T R L (dk_cs (M 68) p k 0 d (dk_ne (M 68))) (dk_cs (M 68) p k 1 d (dk_ne (M 68))) (dk_cs (M 68) p k 2 d (dk_ne (M 68)))) := by
    rintro L rfl
    unfold dk_gd
    rw [eT, eR, nI_clamp (show T < 2 ^ 31 by omega), nI_clamp (show R < 2 ^ 31 by omega)]
  refine b_M_onDay_115 ok6 (fun q1 => b_M_onDay_182 (b_M_onDay_196 ⟨?_, rfl⟩)) (fun q1 => b_M_onDay_169 ok6 (fun q2 => b_M_onDay_182 (b_M_onDay_196 ⟨?_, rfl⟩)) (fun q2 => b_M_onDay_186 (b_M_onDay_202 ⟨?_, rfl⟩)))
  · rw [f1 68 (by decide), k6] at q1
    rw [hv, show (240 : Int32) = nI 240 from rfl, hmin 240 (by omega), hgd 240 (by unfold dk_lim; rw [if_pos (Or.inl q1)])]
  · rw [f1 68 (by decide), k6] at q1 q2
    rw [hv, show (240 : Int32) = nI 240 from rfl, hmin 240 (by omega), hgd 240 (by unfold dk_lim; rw [if_pos (Or.inr q2)])]
  · rw [f1 68 (by decide), k6] at q1 q2
    rw [hv, show (480 : Int32) = nI 480 from rfl, hmin 480 (by omega), hgd 480 (by unfold dk_lim; rw [if_neg (by rintro (z | z); exact q1 z; exact q2 z)])]
/-- days on which a person has an entry, up to one -/
def dk_psn (V : Nat → Int32) (p j : Nat) : Nat → Bool
  | 0 => false
  | i + 1 => dk_psn V p j i || decide (V (69 + i) = nI p ∧ V (129 + i) = nI j)
theorem dk_psn_no {V : Nat → Int32} {p j : Nat} : ∀ i, dk_psn V p j i = false → ∀ e, e < i → ¬ (V (69 + e) = nI p ∧ V (129 + e) = nI j)
  | 0, _, e, he => by omega
  | i + 1, h, e, he => by
    unfold dk_psn at h
    rw [Bool.or_eq_false_iff] at h
    rcases (show e < i ∨ e = i by omega) with q | rfl
    · exact dk_psn_no i h.1 e q
    · exact of_decide_eq_false h.2
theorem dk_psn_yes {V : Nat → Int32} {p j : Nat} : ∀ i e, e < i → V (69 + e) = nI p ∧ V (129 + e) = nI j → dk_psn V p j i = true
  | 0, e, he, _ => by omega
  | i + 1, e, he, h => by
    unfold dk_psn
    rcases (show e < i ∨ e = i by omega) with q | rfl
    · rw [dk_psn_yes i e q h]; rfl
    · rw [decide_eq_true h, Bool.or_true]
theorem dk_co_in {Ls : Nat} {M : hd_Mem} {Q : Option Value → hd_Mem → Prop} {p e : Nat} {on : Int32} {v2 v3 v4 : Value} (he : e ≤ 60) (k1 : (∀ f, f < e → ¬ (M 68 (69 + f) = nI p ∧ M 68 (129 + f) = on)) → ∀ v8, hd_E Ls M_countedOf (115, [.ref 67, .int (nI p), v2, v3, v4, .int (nI e), .int on, .int 1, v8], [], M) Q) (k0 : (∃ f, f < e ∧ (M 68 (69 + f) = nI p ∧ M 68 (129 + f) = on)) → ∀ v8, hd_E Ls M_countedOf (115, [.ref 67, .int (nI p), v2, v3, v4, .int (nI e), .int on, .int 0, v8], [], M) Q) : ∀ m f, f + m = e → (∀ g, g < f → ¬ (M 68 (69 + g) = nI p ∧ M 68 (129 + g) = on)) → hd_E Ls M_countedOf (60, [.ref 67, .int (nI p), v2, v3, v4, .int (nI e), .int on, .int 1, .int (nI f)], [], M) Q
  | 0, f, hf, hb => b_M_countedOf_60 (fun _ => k1 (fun g hg => hb g (by omega)) _) (fun h => absurd (by rw [show f = e by omega]; exact Int32.le_refl _) h)
  | m + 1, f, hf, hb => by
    refine b_M_countedOf_60 (fun h => absurd h (hd_nle (by omega) (by omega))) (fun _ => b_M_countedOf_67 (fun h => absurd h (by decide)) (fun _ => b_M_countedOf_72 (dk_okR68 (q := 69) (by omega)) (fun q1 => b_M_countedOf_86 (dk_okR68 (q := 129) (by omega)) (fun q2 => b_M_countedOf_106 ?_) (fun q2 => b_M_countedOf_102 ?_)) (fun q1 => b_M_countedOf_102 ?_)))
    · rw [show (69 + nI f).toNatClampNeg = 69 + f from dk_ix (a := 69) (by omega)] at q1
      rw [show (129 + nI f).toNatClampNeg = 129 + f from dk_ix (a := 129) (by omega)] at q2
      exact b_M_countedOf_60 (fun _ => k0 ⟨f, by omega, q1, q2⟩ _) (fun _ => b_M_countedOf_67 (fun _ => k0 ⟨f, by omega, q1, q2⟩ _) (fun h => absurd rfl h))
    · rw [show (129 + nI f).toNatClampNeg = 129 + f from dk_ix (a := 129) (by omega)] at q2
      rw [nI_1]
      refine dk_co_in he k1 k0 m (f + 1) (by omega) (fun g hg => ?_)
      rcases (show g < f ∨ g = f by omega) with z | rfl
      · exact hb g z
      · exact fun y => q2 y.2
    · rw [show (69 + nI f).toNatClampNeg = 69 + f from dk_ix (a := 69) (by omega)] at q1
      rw [nI_1]
      refine dk_co_in he k1 k0 m (f + 1) (by omega) (fun g hg => ?_)
      rcases (show g < f ∨ g = f by omega) with z | rfl
      · exact hb g z
      · exact fun y => q1 y.1
def dk_cop (V : Nat → Int32) (p : Nat) (k : Int32) (b i : Nat) : Nat := dk_sm (fun j => if dk_psn V p j i = true ∧ j < b then dk_gd V p k j else 0) 365
theorem dk_cop_end {V : Nat → Int32} {p : Nat} {k : Int32} {b : Nat} : dk_cop V p k b (dk_ne V) = dk_ct V p k b := by
  apply dk_sm_congr
  intro j hj
  by_cases q : dk_psn V p j (dk_ne V) = true
  · by_cases r : j < b
    · rw [if_pos ⟨q, r⟩, if_pos r]
    · rw [if_neg (fun z => r z.2), if_neg r]
  · rw [if_neg (fun z => q z.1)]
    have hno := dk_psn_no (dk_ne V) (by simpa using q : dk_psn V p j (dk_ne V) = false)
    have hc : ∀ s, dk_cs V p k s j (dk_ne V) = 0 := fun s => dk_sm_0 _ (fun e he => if_neg (fun z => hno e he ⟨z.1.1, z.2.1⟩))
    have : dk_gd V p k j = 0 := by
      unfold dk_gd
      rw [hc, hc, hc]
      exact dk_gv0 _ _ _
    rw [this]
    split <;> rfl
theorem dk_ltb {b j : Nat} (hb : b ≤ 365) (hj : j < 365) : ¬ (nI b - 1 < nI j) ↔ j < b := by
  rw [dk_lt1 (by omega), nI_leI (by omega) (by omega)]
  omega
theorem dk_mct {Ls : Nat} {M : hd_Mem} (h : dk_wf (M 68)) {p b : Nat} (hp : p < 8) (hb : b ≤ 365) (k : Int32) : ∃ M2, (∀ c, c ≠ 73 → M2 c = M c) ∧ hd_Rt Ls M_countedOf [.ref 67, .int (nI p), .int (nI b - 1), .int k] M (some (.int (nI (dk_ct (M 68) p k b)))) M2 := by
  have hn := dk_wf_n h
  have h60 := hn.2.2.2.2.2.1
  have key : hd_E Ls M_countedOf (0, [.ref 67, .int (nI p), .int (nI b - 1), .int k, .null, .null, .null, .null, .null], [], M) (fun v M2 => v = some (.int (nI (dk_ct (M 68) p k b))) ∧ ∀ c, c ≠ 73 → M2 c = M c) := by
    refine b_M_countedOf_0 (hd_forP (dk_ne (M 68)) (fun i s => ∃ v6 v7 v8 A, (∀ c, c ≠ 73 → A c = M c) ∧ s = (6, [.ref 67, .int (nI p), .int (nI b - 1), .int k, .int (nI (dk_cop (M 68) p k b i)), .int (nI i), v6, v7, v8], [], A)) ?_ ?_ _ ⟨.null, .null, .null, M, fun _ _ => rfl, ?_⟩)
    · rintro i s hi ⟨v6, v7, v8, A, hA, rfl⟩ ih
      obtain ⟨dd, mm, ss, hdd, hmm, hss, e1, e2, e3⟩ := dk_ent_of h hi
      have hs1 : ∀ j, j < 365 → dk_psn (M 68) p j (i + 1) = (dk_psn (M 68) p j i || decide (M 68 (69 + i) = nI p ∧ j = dd)) := by
        intro j hj
        show (dk_psn (M 68) p j i || decide ((M 68) (69 + i) = nI p ∧ (M 68) (129 + i) = nI j)) = _
        rw [e1]
        congr 1
        rw [decide_eq_decide, nI_eq (by omega) (by omega)]
        constructor
        · rintro ⟨a, b⟩; exact ⟨a, b.symm⟩
        · rintro ⟨a, b⟩; exact ⟨a, b.symm⟩
      have hsame : (∀ j, j < 365 → j < b → dk_psn (M 68) p j (i + 1) = dk_psn (M 68) p j i) → dk_cop (M 68) p k b (i + 1) = dk_cop (M 68) p k b i := by
        intro hq
        apply dk_sm_congr
        intro j hj
        by_cases r : j < b
        · rw [hq j hj r]
        · rw [if_neg (fun z => r z.2), if_neg (fun z => r z.2)]
      have fin0 : dk_cop (M 68) p k b (i + 1) = dk_cop (M 68) p k b i → ∀ w6 w8, hd_E Ls M_countedOf (115, [.ref 67, .int (nI p), .int (nI b - 1), .int k, .int (nI (dk_cop (M 68) p k b i)), .int (nI i), w6, .int 0, w8], [], A) (fun v M2 => v = some (.int (nI (dk_ct (M 68) p k b))) ∧ ∀ c, c ≠ 73 → M2 c = M c) := by
        intro hq w6 w8
        refine b_M_countedOf_115 (fun _ => b_M_countedOf_133 ?_) (fun z => absurd rfl z)
        refine ih _ ⟨w6, .int 0, w8, A, hA, ?_⟩
        rw [hq, nI_1, show (nI (dk_cop (M 68) p k b i) + 0 : Int32) = nI (dk_cop (M 68) p k b i) + nI 0 from rfl, nI_add, Nat.add_zero]
      refine b_M_countedOf_6 (fun z => absurd z (by rw [hA 68 (by decide), hn.2.2.2.2.1]; exact hd_nle hi (by omega))) (fun _ => b_M_countedOf_17 (dk_okR68 (q := 129) (by omega)) (dk_okR68 (q := 69) (by omega)) (fun q1 => b_M_countedOf_44 (fun q2 => b_M_countedOf_54 ?_) (fun q2 => b_M_countedOf_50 ?_)) (fun q1 => b_M_countedOf_54 ?_))
      · rw [hA 68 (by decide), show (129 + nI i).toNatClampNeg = 129 + i from dk_ix (a := 129) (by omega), e1] at q2
        have hne : dk_cop (M 68) p k b (i + 1) = dk_cop (M 68) p k b i := hsame (fun j hj hjb => by
          rw [hs1 j hj, decide_eq_false (by
            rintro ⟨-, rfl⟩
            exact ((dk_ltb hb hj).mpr hjb) q2), Bool.or_false])
        exact b_M_countedOf_60 (fun _ => fin0 hne _ _) (fun _ => b_M_countedOf_67 (fun _ => fin0 hne _ _) (fun z => absurd rfl z))
      · rw [hA 68 (by decide), show (129 + nI i).toNatClampNeg = 129 + i from dk_ix (a := 129) (by omega), e1] at q2
        rw [hA 68 (by decide), show (69 + nI i).toNatClampNeg = 69 + i from dk_ix (a := 69) (by omega)] at q1
        have hdb := (dk_ltb hb hdd).mp q2
        rw [hA 68 (by decide), show (129 + nI i).toNatClampNeg = 129 + i from dk_ix (a := 129) (by omega), e1]
        refine dk_co_in (by omega) (fun hno w8 => ?_) (fun hex w8 => ?_) i 0 (by omega) (fun g hg => absurd hg (by omega))
        · rw [hA 68 (by decide)] at hno
          have hps : dk_psn (M 68) p dd i = false := by
            by_cases z : dk_psn (M 68) p dd i = true
            · exfalso
              have : ∀ m, m ≤ i → dk_psn (M 68) p dd m = false := by
                intro m
                induction m with
                | zero => intro _; rfl
                | succ m ihm =>
                  intro hm
                  show (dk_psn (M 68) p dd m || decide _) = false
                  rw [ihm (by omega), decide_eq_false (hno m (by omega))]
                  rfl
              rw [this i (Nat.le_refl _)] at z
              exact absurd z (by decide)
            · simpa using z
          obtain ⟨M3, g1, g2⟩ := dk_mon (Ls := Ls) (M := A) (p := p) (d := dd) (by rw [hA 68 (by decide)]; exact h) hp k
          rw [hA 68 (by decide)] at g2
          refine b_M_countedOf_115 (fun z => absurd z (by decide)) (fun _ => b_M_countedOf_122 g2 (b_M_countedOf_130 ?_))
          refine ih _ ⟨.int (nI dd), .int 1, w8, M3, fun c hc => by rw [g1 c hc, hA c hc], ?_⟩
          have htot : dk_cop (M 68) p k b i + dk_gd (M 68) p k dd = dk_cop (M 68) p k b (i + 1) := by
            unfold dk_cop
            rw [← dk_sm_pt (d := dd) (c := dk_gd (M 68) p k dd) 365 hdd, ← dk_sm_add]
            apply dk_sm_congr
            intro j hj
            rw [hs1 j hj]
            by_cases z : j = dd
            · subst z
              rw [hps]
              simp [q1, hdb]
            · simp [z]
          rw [nI_add, htot, nI_1]
        · rw [hA 68 (by decide)] at hex
          obtain ⟨f, hf, hff⟩ := hex
          refine fin0 (hsame (fun j hj hjb => ?_)) _ w8
          rw [hs1 j hj]
          by_cases z : j = dd
          · subst z
            rw [dk_psn_yes i f hf hff]
            rfl
          · rw [decide_eq_false (fun y => z y.2), Bool.or_false]
      · rw [hA 68 (by decide), show (69 + nI i).toNatClampNeg = 69 + i from dk_ix (a := 69) (by omega)] at q1
        have hne : dk_cop (M 68) p k b (i + 1) = dk_cop (M 68) p k b i := hsame (fun j hj _ => by rw [hs1 j hj, decide_eq_false (fun z => q1 z.1), Bool.or_false])
        exact b_M_countedOf_60 (fun _ => fin0 hne _ _) (fun _ => b_M_countedOf_67 (fun _ => fin0 hne _ _) (fun z => absurd rfl z))
    · rintro s ⟨v6, v7, v8, A, hA, rfl⟩
      refine b_M_countedOf_6 (fun _ => b_M_countedOf_143 ⟨by rw [dk_cop_end], hA⟩) (fun z => absurd (by rw [hA 68 (by decide), hn.2.2.2.2.1]; exact Int32.le_refl _) z)
    · have : dk_cop (M 68) p k b 0 = 0 := dk_sm_0 365 (fun j _ => if_neg (by simp [dk_psn]))
      rw [this]
      rfl
  obtain ⟨v, M2, ⟨rfl, h2⟩, h3⟩ := hd_E_det key
  exact ⟨M2, h2, e_M_countedOf h3⟩
