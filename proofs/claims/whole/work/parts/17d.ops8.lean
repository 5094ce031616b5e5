/-! pace, foretold, late -/
def dk_fst (V : Nat → Int32) (p d : Nat) : Nat → Option Nat
  | 0 => none
  | i + 1 => if V (69 + i) = nI p ∧ ¬ nI d < V (309 + i) ∧ ¬ V (189 + i) ≤ 0 then (match dk_fst V p d i with | none => some (V (129 + i)).toNatClampNeg | some f => some (min f (V (129 + i)).toNatClampNeg)) else dk_fst V p d i
theorem dk_fst_s (V : Nat → Int32) (p d i : Nat) : dk_fst V p d (i + 1) = if V (69 + i) = nI p ∧ ¬ nI d < V (309 + i) ∧ ¬ V (189 + i) ≤ 0 then (match dk_fst V p d i with | none => some (V (129 + i)).toNatClampNeg | some f => some (min f (V (129 + i)).toNatClampNeg)) else dk_fst V p d i := rfl
def dk_days (V : Nat → Int32) (p d : Nat) : Nat := match dk_fst V p d (dk_ne V) with
  | none => 0
  | some f => d + 1 - f
theorem dk_kn {V : Nat → Int32} (h : dk_wf V) {e d : Nat} (he : e < dk_ne V) (hd : d < 365) (hk : ¬ nI d < V (309 + e)) : ∃ dd, dd ≤ d ∧ V (129 + e) = nI dd := by
  obtain ⟨-, h1, -, -, h4, h5⟩ := h.2.2.2.2.2.2.2.2.1 e he
  obtain ⟨a, ha, ea⟩ := hd_in_of h1 (by omega)
  obtain ⟨b, hb, eb⟩ := hd_in_of h4 (by omega)
  rw [ea, eb, nI_leI (by omega) (by omega)] at h5
  rw [eb, nI_ltI (by omega) (by omega)] at hk
  exact ⟨a, by omega, ea⟩
theorem dk_fst_le {V : Nat → Int32} (h : dk_wf V) {p d : Nat} (hd : d < 365) : ∀ i f, i ≤ dk_ne V → dk_fst V p d i = some f → f ≤ d
  | 0, f, _, h0 => by simp [dk_fst] at h0
  | i + 1, f, hi, h0 => by
    rw [dk_fst_s] at h0
    by_cases q : V (69 + i) = nI p ∧ ¬ nI d < V (309 + i) ∧ ¬ V (189 + i) ≤ 0
    · rw [if_pos q] at h0
      obtain ⟨dd, h1, h2⟩ := dk_kn h (show i < dk_ne V by omega) hd q.2.1
      rw [h2, nI_clamp (by omega)] at h0
      cases hf : dk_fst V p d i with
      | none => rw [hf] at h0; simp at h0; omega
      | some g => rw [hf] at h0; simp at h0; omega
    · rw [if_neg q] at h0
      exact dk_fst_le h hd i f (by omega) h0
theorem dk_days_le (V : Nat → Int32) (p : Nat) {d : Nat} (hd : d < 365) : dk_days V p d ≤ 365 := by
  unfold dk_days
  split <;> omega
theorem dk_days_D {M : hd_Mem} (h : dk_wf (hd_dv M)) {p d : Nat} (hd : d < 365) : ∀ i, i ≤ dk_ne (hd_dv M) → a_En_daysSinceFirst_7 M (nI p) (nI d) (nI d + 1) i = match dk_fst (hd_dv M) p d i with | none => nI (d + 1) | some f => nI f
  | 0, _ => by
    show nI d + 1 = nI (d + 1)
    exact nI_1 d
  | i + 1, hi => by
    have h60 := (dk_wf_n h).2.2.2.2.2.1
    obtain ⟨c19, c20, c21, c22, c23⟩ := dk_dq_e (M := M) (show i < 60 by omega)
    show t_En_daysSinceFirst_7 M (nI p) (nI d) (a_En_daysSinceFirst_7 M (nI p) (nI d) (nI d + 1) i) (nI i) = _
    rw [dk_days_D h hd i (by omega)]
    unfold t_En_daysSinceFirst_7
    rw [dk_fst_s, nI_clamp (show i < 2 ^ 31 by omega), c19, c20, c21, c23]
    by_cases q1 : hd_dv M (69 + i) = nI p
    · rw [if_pos q1]
      by_cases q2 : nI d < hd_dv M (309 + i)
      · rw [if_pos q2, if_neg (fun z => z.2.1 q2)]
      · rw [if_neg q2]
        by_cases q3 : hd_dv M (189 + i) ≤ 0
        · rw [if_pos q3, if_neg (fun z => z.2.2 q3)]
        · rw [if_neg q3, if_pos (show (hd_dv M (69 + i) = nI p ∧ ¬ nI d < hd_dv M (309 + i) ∧ ¬ hd_dv M (189 + i) ≤ 0) from ⟨q1, q2, q3⟩)]
          obtain ⟨dd, h1, h2⟩ := dk_kn h (show i < dk_ne (hd_dv M) by omega) hd q2
          rw [h2, nI_clamp (by omega)]
          cases hf : dk_fst (hd_dv M) p d i with
          | none =>
            dsimp only
            rw [if_pos ((nI_ltI (by omega) (by omega)).mpr (by omega))]
          | some g =>
            dsimp only
            have := dk_fst_le h hd i g (by omega) hf
            rw [dk_mn (by omega) (by omega)]
    · rw [if_neg q1, if_neg (fun z => q1 z.1)]
theorem dk_days_M {M : hd_Mem} (h : dk_wf (M 68)) {p d : Nat} (hd : d < 365) : ∀ i, i ≤ dk_ne (M 68) → a_M_daysOf_5 M (nI p) (nI d) (-1) i = match dk_fst (M 68) p d i with | none => -1 | some f => nI f
  | 0, _ => rfl
  | i + 1, hi => by
    have h60 := (dk_wf_n h).2.2.2.2.2.1
    show t_M_daysOf_5 M (nI p) (nI d) (a_M_daysOf_5 M (nI p) (nI d) (-1) i) (nI i) = _
    rw [dk_days_M h hd i (by omega)]
    unfold t_M_daysOf_5
    rw [dk_fst_s, show (69 + nI i).toNatClampNeg = 69 + i from dk_ix (a := 69) (by omega), show (129 + nI i).toNatClampNeg = 129 + i from dk_ix (a := 129) (by omega), show (309 + nI i).toNatClampNeg = 309 + i from dk_ix (a := 309) (by omega), show (189 + nI i).toNatClampNeg = 189 + i from dk_ix (a := 189) (by omega)]
    by_cases q1 : (M 68) (69 + i) = nI p
    · rw [if_pos q1]
      by_cases q2 : nI d < (M 68) (309 + i)
      · rw [if_neg (show ¬ (M 68 (69 + i) = nI p ∧ ¬ nI d < M 68 (309 + i) ∧ ¬ M 68 (189 + i) ≤ 0) from fun z => z.2.1 q2)]
        split
        · rfl
        · rfl
      · obtain ⟨dd, h1, h2⟩ := dk_kn h (show i < dk_ne (M 68) by omega) hd q2
        rw [h2, if_neg (nI_nlt (by omega) (by omega)), if_neg q2]
        by_cases q3 : (M 68) (189 + i) ≤ 0
        · rw [if_pos q3, if_neg (fun z => z.2.2 q3)]
        · rw [if_neg q3, if_pos (show (M 68 (69 + i) = nI p ∧ ¬ nI d < M 68 (309 + i) ∧ ¬ M 68 (189 + i) ≤ 0) from ⟨q1, q2, q3⟩), nI_clamp (by omega)]
          cases hf : dk_fst (M 68) p d i with
          | none =>
            dsimp only
            rw [if_pos (by decide)]
          | some g =>
            dsimp only
            have := dk_fst_le h hd i g (by omega) hf
            rw [if_neg (nI_pos (by omega))]
            by_cases q4 : g ≤ dd
            · rw [if_pos ((nI_leI (by omega) (by omega)).mpr q4), show min g dd = g by omega]
            · rw [if_neg (fun z => q4 ((nI_leI (by omega) (by omega)).mp z)), show min g dd = dd by omega]
    · rw [if_neg q1, if_neg (fun z => q1 z.1)]
theorem dk_sub1 {d f : Nat} (hd : d < 365) (hf : f ≤ d + 1) : nI d - nI f + 1 = nI (d + 1 - f) := by
  apply Int32.toInt_inj.mp
  have e : (nI d - nI f + 1) = nI d + 1 - nI f := by
    rw [Int32.sub_eq_add_neg, Int32.sub_eq_add_neg, Int32.add_assoc, Int32.add_comm (-nI f), ← Int32.add_assoc]
  rw [e, nI_1, pk_sub_toInt (by omega) (by omega), nI_toInt (by omega)]
  omega
theorem dk_sD {Ls : Nat} {M : hd_Mem} (h : dk_wf (hd_dv M)) {p d : Nat} (hd : d < 365) : hd_Rt Ls En_daysSinceFirst [.ref 3, .int (nI p), .int (nI d)] M (some (.int (nI (dk_days (hd_dv M) p d)))) M := by
  have hn := dk_wf_n h
  have h60 := hn.2.2.2.2.2.1
  have e35 : M 3 5 = nI (dk_ne (hd_dv M)) := by rw [← hd_dv_2 M]; exact hn.2.2.2.2.1
  have ecl : (M 3 5).toNatClampNeg = dk_ne (hd_dv M) := rfl
  have G : g_En_daysSinceFirst Ls M (nI p) (nI d) := by
    unfold g_En_daysSinceFirst
    rw [ecl]
    refine ⟨by omega, fun _ _ => e35, fun i hi => ?_⟩
    have ok : ∀ c, hd_arr Ls c = some 60 → hd_okR Ls c (nI i) := fun c hc => hd_okR_n hc (show i < 60 by omega) (by omega)
    exact ⟨ok 19 rfl, fun _ => ⟨ok 23 rfl, fun _ => ⟨ok 21 rfl, fun _ => ok 20 rfl⟩⟩⟩
  have hs := s_En_daysSinceFirst G
  unfold f_En_daysSinceFirst at hs
  rw [ecl, dk_days_D h hd _ (Nat.le_refl _)] at hs
  have e : (nI d - (match dk_fst (hd_dv M) p d (dk_ne (hd_dv M)) with | none => nI (d + 1) | some f => nI f)) + 1 = nI (dk_days (hd_dv M) p d) := by
    unfold dk_days
    cases hf : dk_fst (hd_dv M) p d (dk_ne (hd_dv M)) with
    | none =>
      dsimp only
      rw [dk_sub1 hd (Nat.le_refl _), Nat.sub_self]
    | some f =>
      dsimp only
      have := dk_fst_le h hd _ f (Nat.le_refl _) hf
      exact dk_sub1 hd (by omega)
  rw [e] at hs
  exact hs
theorem dk_sM {Ls : Nat} {M : hd_Mem} (h : dk_wf (M 68)) {p d : Nat} (hd : d < 365) : hd_Rt Ls M_daysOf [.ref 67, .int (nI p), .int (nI d)] M (some (.int (nI (dk_days (M 68) p d)))) M := by
  have hn := dk_wf_n h
  have h60 := hn.2.2.2.2.2.1
  have ecl : (M 68 2).toNatClampNeg = dk_ne (M 68) := rfl
  have G : g_M_daysOf Ls M (nI p) (nI d) := by
    unfold g_M_daysOf
    rw [ecl]
    refine ⟨by omega, fun _ _ => hn.2.2.2.2.1, fun i hi => ?_⟩
    have o1 : hd_okR Ls 68 (129 + nI i) := dk_okR68 (q := 129) (by omega)
    exact ⟨dk_okR68 (q := 69) (by omega), fun _ => ⟨o1, fun _ => ⟨dk_okR68 (q := 309) (by omega), fun _ => ⟨dk_okR68 (q := 189) (by omega), fun _ => ⟨fun _ => o1, fun _ => ⟨o1, fun _ => o1⟩⟩⟩⟩⟩⟩
  have hs := s_M_daysOf G
  unfold f_M_daysOf at hs
  rw [ecl, dk_days_M h hd _ (Nat.le_refl _)] at hs
  have e : (if 0 ≤ (match dk_fst (M 68) p d (dk_ne (M 68)) with | none => -1 | some f => nI f) then ((nI d - (match dk_fst (M 68) p d (dk_ne (M 68)) with | none => -1 | some f => nI f)) + 1) else 0) = nI (dk_days (M 68) p d) := by
    unfold dk_days
    cases hf : dk_fst (M 68) p d (dk_ne (M 68)) with
    | none =>
      dsimp only
      rw [if_neg (by decide)]
      rfl
    | some f =>
      dsimp only
      have := dk_fst_le h hd _ f (Nat.le_refl _) hf
      rw [if_pos (nI_pos' (by omega))]
      exact dk_sub1 hd (by omega)
  rw [e] at hs
  exact hs
theorem dk_days_live {V W : Nat → Int32} (h : dk_live V W) (hw : dk_wf V) (p d : Nat) : dk_days V p d = dk_days W p d := by
  have h60 := (dk_wf_n hw).2.2.2.2.2.1
  have key : ∀ i, i ≤ dk_ne V → dk_fst V p d i = dk_fst W p d i := by
    intro i
    induction i with
    | zero => intro _; rfl
    | succ i ih =>
      intro hi
      have he : i < dk_ne V := by omega
      rw [dk_fst_s, dk_fst_s, ih (by omega), h _ (dk_lv_e he (by omega) (j := 69) (by simp)), h _ (dk_lv_e he (by omega) (j := 129) (by simp)), h _ (dk_lv_e he (by omega) (j := 189) (by simp)), h _ (dk_lv_e he (by omega) (j := 309) (by simp))]
  unfold dk_days
  rw [← (dk_live_n h).2.2.1, key _ (Nat.le_refl _)]
/-- no day with minutes: nothing counts -/
theorem dk_none {V : Nat → Int32} (h : dk_wf V) {p d : Nat} (hd : d < 365) (h0 : dk_days V p d = 0) (b : Nat) : dk_ct V p (nI d) b = 0 := by
  have hn : dk_fst V p d (dk_ne V) = none := by
    unfold dk_days at h0
    cases hf : dk_fst V p d (dk_ne V) with
    | none => rfl
    | some f =>
      rw [hf] at h0
      have := dk_fst_le h hd _ f (Nat.le_refl _) hf
      dsimp only at h0
      omega
  have key : ∀ i, dk_fst V p d i = none → ∀ e, e < i → ¬ (V (69 + e) = nI p ∧ ¬ nI d < V (309 + e) ∧ ¬ V (189 + e) ≤ 0) := by
    intro i
    induction i with
    | zero => intro _ e he; omega
    | succ i ih =>
      intro hi e he
      rw [dk_fst_s] at hi
      by_cases q : V (69 + i) = nI p ∧ ¬ nI d < V (309 + i) ∧ ¬ V (189 + i) ≤ 0
      · rw [if_pos q] at hi
        cases hf : dk_fst V p d i with
        | none => rw [hf] at hi; simp at hi
        | some g => rw [hf] at hi; simp at hi
      · rw [if_neg q] at hi
        rcases (show e < i ∨ e = i by omega) with z | rfl
        · exact ih hi e z
        · exact q
  have hk := key _ hn
  have hcs : ∀ s j, dk_cs V p (nI d) s j (dk_ne V) = 0 := by
    intro s j
    apply dk_sm_0
    intro e he
    by_cases q : (V (69 + e) = nI p ∧ ¬ nI d < V (309 + e)) ∧ V (129 + e) = nI j ∧ V (249 + e) = nI s
    · rw [if_pos q]
      obtain ⟨dd, mm, ss, -, hm, -, -, em, -⟩ := dk_ent_of h he
      have := hk e he
      rw [em] at this ⊢
      rw [nI_clamp (by omega)]
      by_cases z : mm = 0
      · exact z
      · exact absurd ⟨q.1.1, q.1.2, nI_nle (by omega) (by omega)⟩ this
    · rw [if_neg q]
  apply dk_sm_0
  intro j _
  unfold dk_gd
  rw [hcs, hcs, hcs, dk_gv0]
  split <;> rfl
def dk_fv (o c days d : Nat) : Nat := d + ((o - c) * days + c - 1) / c
theorem dk_fvI {o c days d : Nat} (ho : o ≤ 18000) (hc : 0 < c) (hc2 : c ≤ 175200) (hdy : days ≤ 365) (hd : d < 365) : nI d + (nI (o - c) * nI days + nI c - 1) / nI c = nI (dk_fv o c days d) ∧ dk_fv o c days d < 2 ^ 30 := by
  have h1 : (o - c) * days ≤ 18000 * 365 := Nat.mul_le_mul (by omega) hdy
  have h2 : ((o - c) * days + c - 1) / c ≤ (o - c) * days + c - 1 := Nat.div_le_self _ _
  rw [pk_mul, nI_add, show nI ((o - c) * days + c) - 1 = nI ((o - c) * days + c - 1) by rw [show (o - c) * days + c = ((o - c) * days + c - 1) + 1 by omega, nI_pred]; rfl, pk_div (by omega) hc (by omega), nI_add]
  refine ⟨rfl, ?_⟩
  unfold dk_fv
  omega
theorem dk_fv0 {o c days d : Nat} (h : o ≤ c) (hc : 0 < c) : dk_fv o c days d = d := by
  unfold dk_fv
  rw [show o - c = 0 by omega, Nat.zero_mul, Nat.zero_add, Nat.div_eq_of_lt (by omega)]
  rfl
theorem dk_dfe {Ls : Nat} {M : hd_Mem} (h : dk_dq M) {p d : Nat} (hp : p < dk_np (hd_dv M)) (hd : d < 365) : hd_Rt Ls D_foretellEnd [.ref 0, .int (nI p), .int (nI d)] M (some (.int (if dk_ct (hd_dv M) p (nI d) (d + 1) = 0 then -100006 else nI (dk_fv (dk_o60 (hd_dv M) p) (dk_ct (hd_dv M) p (nI d) (d + 1)) (dk_days (hd_dv M) p d) d)))) M := by
  have hD := dk_dmin (Ls := Ls) h hp (show d + 1 ≤ 365 by omega) (nI d)
  rw [nI_pred] at hD
  have hc := dk_ct_le (hd_dv M) p (nI d) (d + 1)
  generalize dk_ct (hd_dv M) p (nI d) (d + 1) = c at hD hc ⊢
  obtain ⟨-, o1, o2⟩ := dk_o60_of h.1 hp
  refine e_D_foretellEnd (b_D_foretellEnd_0 hD (b_D_foretellEnd_7 (fun q => b_D_foretellEnd_15 (dk_dow h hp) ?_) (fun q => b_D_foretellEnd_12 ⟨?_, rfl⟩)))
  · have c0 : 0 < c := (nI_ltI (a := 0) (by omega) (by omega)).mp q
    rw [if_neg (show ¬ c = 0 by omega)]
    refine b_D_foretellEnd_23 (fun q2 => b_D_foretellEnd_34 (dk_sD h.1 hd) (b_D_foretellEnd_43 (nI_ne0 c0 (by omega)) ⟨?_, rfl⟩)) (fun q2 => b_D_foretellEnd_32 ⟨?_, rfl⟩)
    · have h2 : c < dk_o60 (hd_dv M) p := by
        rw [Int32.lt_iff_toInt_lt, pk_sub_toInt (by omega) (by omega)] at q2
        have : (0 : Int32).toInt = 0 := rfl
        omega
      have e : nI (dk_o60 (hd_dv M) p) - nI c = nI (dk_o60 (hd_dv M) p - c) := by
        apply Int32.toInt_inj.mp
        rw [pk_sub_toInt (by omega) (by omega), nI_toInt (by omega)]
        omega
      rw [e, (dk_fvI o2 c0 hc (dk_days_le _ p hd) hd).1]
    · have h2 : dk_o60 (hd_dv M) p ≤ c := by
        rw [Int32.lt_iff_toInt_lt, pk_sub_toInt (by omega) (by omega)] at q2
        have : (0 : Int32).toInt = 0 := rfl
        omega
      rw [dk_fv0 h2 c0]
  · have c0 : c = 0 := by
      by_cases z : c = 0
      · exact z
      · exact absurd ((nI_ltI (a := 0) (by omega) (by omega)).mpr (by omega)) q
    rw [if_pos c0]
theorem dk_mfe {Ls : Nat} {M : hd_Mem} (h : dk_wf (M 68)) {p d : Nat} (hp : p < dk_np (M 68)) (hd : d < 365) : ∃ M2, (∀ c, c ≠ 73 → M2 c = M c) ∧ hd_Rt Ls M_foretoldOf [.ref 67, .int (nI p), .int (nI d)] M (some (.int (if dk_ct (M 68) p (nI d) (d + 1) = 0 then -1 else nI (dk_fv (dk_o60 (M 68) p) (dk_ct (M 68) p (nI d) (d + 1)) (dk_days (M 68) p d) d)))) M2 := by
  have h8 := (dk_wf_n h).2.1
  obtain ⟨M2, g1, g2⟩ := dk_mct (Ls := Ls) h (show p < 8 by omega) (show d + 1 ≤ 365 by omega) (nI d)
  rw [nI_pred] at g2
  have hz := dk_none h (p := p) hd
  have hc := dk_ct_le (M 68) p (nI d) (d + 1)
  by_cases c0 : dk_ct (M 68) p (nI d) (d + 1) = 0
  · refine ⟨M2, g1, e_M_foretoldOf (b_M_foretoldOf_0 (dk_sM h hd) (b_M_foretoldOf_6 g2 (b_M_foretoldOf_14 (fun _ => b_M_foretoldOf_25 ⟨by rw [if_pos c0], rfl⟩) (fun _ => b_M_foretoldOf_20 (fun _ => b_M_foretoldOf_25 ⟨by rw [if_pos c0], rfl⟩) (fun q => absurd (by rw [c0]; rfl) q)))))⟩
  · have hdn : dk_days (M 68) p d ≠ 0 := fun q => c0 (hz q _)
    have hdl := dk_days_le (M 68) p hd
    obtain ⟨M3, k1, k2⟩ := dk_mleft (Ls := Ls) (M := M2) (p := p) (by rw [g1 68 (by decide)]; exact h) (by rw [g1 68 (by decide)]; exact hp) (show d + 1 ≤ 365 by omega) (nI d)
    rw [nI_pred, g1 68 (by decide)] at k2
    refine ⟨M3, fun c hcc => by rw [k1 c hcc, g1 c hcc], e_M_foretoldOf (b_M_foretoldOf_0 (dk_sM h hd) (b_M_foretoldOf_6 g2 (b_M_foretoldOf_14 (fun q => absurd q (nI_ne0 (by omega) (by omega))) (fun _ => b_M_foretoldOf_20 (fun q => absurd q (nI_ne0 (by omega) (by omega))) (fun _ => b_M_foretoldOf_27 k2 (b_M_foretoldOf_34 (nI_ne0 (by omega) (by omega)) ⟨?_, rfl⟩))))))⟩
    rw [if_neg c0, (dk_fvI (dk_o60_of h hp).2.2 (by omega) hc hdl hd).1]
theorem dk_ask2 {pw : dk_PW} {xs : Nat → Int32} {M : hd_Mem} (I : dk_inv pw xs M) {x1 x2 : Int32} (c1 : ¬ f_M_within x1 0 (M 68 0 - 1) = 0) (c2 : ¬ f_M_isDay x2 = 0) : ∃ p d, p < dk_np (M 68) ∧ p < 8 ∧ d < 365 ∧ x1 = nI p ∧ x2 = nI d ∧ p < dk_np (hd_dv M) := dk_ask I c1 c2 c2
theorem dk_scr73 {pw : dk_PW} {xs : Nat → Int32} {M M2 : hd_Mem} (I : dk_inv pw xs M) (h1 : ∀ c, c ≠ 73 → M2 c = M c) : dk_inv pw xs M2 := dk_scr I (fun c _ hc => h1 c (by rintro rfl; simp at hc)) (fun j _ _ => by rw [h1 67 (by decide)])
theorem dk_find_scr {pw : dk_PW} {xs : Nat → Int32} {M M2 : hd_Mem} {x : Int32} (I : dk_inv pw xs M) (h1 : ∀ c, c ≠ 73 → M2 c = (f_D_finding M x).2 c) : dk_inv pw xs (f_M_finding M2 x).2 := by
  refine dk_scr73 (dk_find (x := x) I) (fun c hc => ?_)
  funext j
  have := h1 c hc
  have h67 := h1 67 (by decide)
  simp only [f_M_finding, hd_set]
  rw [this, h67]
theorem dk_find_r {M M2 : hd_Mem} {x : Int32} (h1 : ∀ c, c ≠ 73 → M2 c = (f_D_finding M x).2 c) (hr : M 0 7 = M 67 3) : (f_M_finding M2 x).1 = (f_D_finding M x).1 := rfl
theorem dk_same_foretold {pw : dk_PW} {xs : Nat → Int32} {Ls : Nat} {M : hd_Mem} (I : dk_inv pw xs M) (x1 x2 : Int32) : dk_same pw xs Ls D_foretold M_foretold [.int x1, .int x2] M := by
  have hP := dk_pers I x1
  by_cases c1 : f_M_within x1 0 (M 68 0 - 1) = 0
  · refine dk_finds (-100001) I (e_D_foretold (b_D_foretold_0 s_Pe_has (b_D_foretold_8 (fun _ => b_D_foretold_18 s_D_finding (b_D_foretold_24 ⟨rfl, rfl⟩)) (fun z => absurd (hP.trans c1) z)))) (e_M_foretold (b_M_foretold_0 s_M_isPerson (b_M_foretold_5 (fun _ => b_M_foretold_15 s_M_finding (b_M_foretold_21 ⟨rfl, rfl⟩)) (fun z => absurd ?_ z))))
    unfold f_M_isPerson
    rw [dk_find68]; exact c1
  have nP : ¬ f_Pe_has M x1 = 0 := fun q => c1 (hP.symm.trans q)
  by_cases c2 : f_M_isDay x2 = 0
  · refine dk_finds (-100001) I (e_D_foretold (b_D_foretold_0 s_Pe_has (b_D_foretold_8 (fun z => absurd z nP) (fun _ => b_D_foretold_11 s_D_isDay (b_D_foretold_15 (fun _ => b_D_foretold_18 s_D_finding (b_D_foretold_24 ⟨rfl, rfl⟩)) (fun z => absurd c2 z)))))) (e_M_foretold (b_M_foretold_0 s_M_isPerson (b_M_foretold_5 (fun _ => b_M_foretold_15 s_M_finding (b_M_foretold_21 ⟨rfl, rfl⟩)) (fun _ => b_M_foretold_8 s_M_isDay (b_M_foretold_12 (fun _ => b_M_foretold_15 s_M_finding (b_M_foretold_21 ⟨rfl, rfl⟩)) (fun z => absurd c2 z))))))
  obtain ⟨p, d, hp, hp8, hd, rfl, rfl, hpv⟩ := dk_ask2 I c1 c2
  have hq := dk_dq_of I
  have hD := dk_dfe (Ls := Ls) hq hpv hd
  have hc := dk_ct_le (hd_dv M) p (nI d) (d + 1)
  by_cases c0 : dk_ct (hd_dv M) p (nI d) (d + 1) = 0
  · rw [if_pos c0] at hD
    obtain ⟨M2, g1, g2⟩ := dk_mfe (Ls := Ls) (M := (f_D_finding M (-100006)).2) (p := p) (by rw [dk_find68]; exact I.1) (by rw [dk_find68]; exact hp) hd
    rw [dk_find68, ← dk_ct_live I.2.1 hq.1 hpv, if_pos c0] at g2
    refine ⟨(f_D_finding M (-100006)).1, (f_D_finding M (-100006)).2, (f_M_finding M2 (-100006)).2, e_D_foretold (b_D_foretold_0 s_Pe_has (b_D_foretold_8 (fun z => absurd z nP) (fun _ => b_D_foretold_11 s_D_isDay (b_D_foretold_15 (fun z => absurd z c2) (fun _ => b_D_foretold_25 hD (b_D_foretold_31 (fun _ => b_D_foretold_38 s_D_finding (b_D_foretold_44 ⟨rfl, rfl⟩)) (fun z => absurd rfl z))))))), e_M_foretold (b_M_foretold_0 s_M_isPerson (b_M_foretold_5 (fun z => absurd z ?_) (fun _ => b_M_foretold_8 s_M_isDay (b_M_foretold_12 (fun z => absurd z c2) (fun _ => b_M_foretold_22 g2 (b_M_foretold_28 (fun z => absurd z (by decide)) (fun _ => b_M_foretold_33 s_M_finding (b_M_foretold_39 ⟨rfl, rfl⟩)))))))), dk_find_scr I g1⟩
    unfold f_M_isPerson
    rw [dk_find68]; exact c1
  · rw [if_neg c0] at hD
    obtain ⟨M2, g1, g2⟩ := dk_mfe (Ls := Ls) (M := M) (p := p) I.1 hp hd
    rw [← dk_ct_live I.2.1 hq.1 hpv, ← dk_o60_live I.2.1 hq.1 hpv, ← dk_days_live I.2.1 hq.1, if_neg c0] at g2
    have hb := (dk_fvI (days := dk_days (hd_dv M) p d) (dk_o60_of hq.1 hpv).2.2 (show 0 < dk_ct (hd_dv M) p (nI d) (d + 1) by omega) hc (dk_days_le _ p hd) hd).2
    refine dk_read73 I (e_D_foretold (b_D_foretold_0 s_Pe_has (b_D_foretold_8 (fun z => absurd z nP) (fun _ => b_D_foretold_11 s_D_isDay (b_D_foretold_15 (fun z => absurd z c2) (fun _ => b_D_foretold_25 hD (b_D_foretold_31 (fun z => absurd z ?_) (fun _ => b_D_foretold_47 ⟨rfl, rfl⟩)))))))) ⟨M2, g1, e_M_foretold (b_M_foretold_0 s_M_isPerson (b_M_foretold_5 (fun z => absurd z c1) (fun _ => b_M_foretold_8 s_M_isDay (b_M_foretold_12 (fun z => absurd z c2) (fun _ => b_M_foretold_22 g2 (b_M_foretold_28 (fun _ => b_M_foretold_42 ⟨rfl, rfl⟩) (fun z => absurd (nI_pos' (by omega)) z)))))))⟩
    intro z
    have := congrArg Int32.toInt z
    rw [nI_toInt (by omega)] at this
    have e : (-100006 : Int32).toInt = -100006 := rfl
    omega
