/-! late, pace -/
def dk_lt (V : Nat → Int32) (d p : Nat) : Nat := if dk_ct V p (nI d) (d + 1) < dk_o60 V p ∧ (dk_ct V p (nI d) (d + 1) = 0 ∨ V (38 + p) < nI (dk_fv (dk_o60 V p) (dk_ct V p (nI d) (d + 1)) (dk_days V p d) d)) then 1 else 0
theorem dk_lt_live {V W : Nat → Int32} (h : dk_live V W) (hw : dk_wf V) {p : Nat} (hp : p < dk_np V) (d : Nat) : dk_lt V d p = dk_lt W d p := by
  have h8 := (dk_wf_n hw).2.1
  unfold dk_lt
  rw [dk_ct_live h hw hp, dk_o60_live h hw hp, dk_days_live h hw, h _ (dk_lv_p hp (by omega) (j := 38) (by simp))]
theorem dk_ddone {Ls : Nat} {M : hd_Mem} (h : dk_dq M) {p b : Nat} (hp : p < dk_np (hd_dv M)) (hb : b ≤ 365) (k : Int32) : hd_Rt Ls D_isDone [.ref 0, .int (nI p), .int (nI b - 1), .int k] M (some (.int (if dk_ct (hd_dv M) p k b < dk_o60 (hd_dv M) p then 0 else 1))) M := by
  have hc := dk_ct_le (hd_dv M) p k b
  have ho := (dk_o60_of h.1 hp).2.2
  refine e_D_isDone (b_D_isDone_0 (dk_dmin h hp hb k) (b_D_isDone_7 (dk_dow h hp) (b_D_isDone_15 (fun q => b_D_isDone_22 ⟨?_, rfl⟩) (fun q => b_D_isDone_18 ⟨?_, rfl⟩))))
  · rw [if_pos ((nI_ltI (by omega) (by omega)).mp q)]
  · rw [if_neg (fun z => q ((nI_ltI (by omega) (by omega)).mpr z))]
theorem dk_same_late {pw : dk_PW} {xs : Nat → Int32} {Ls : Nat} {M : hd_Mem} (I : dk_inv pw xs M) (x1 : Int32) : dk_same pw xs Ls D_late M_late [.int x1] M := by
  by_cases c2 : f_M_isDay x1 = 0
  · exact dk_finds (-100001) I (e_D_late (b_D_late_0 s_D_isDay (b_D_late_4 (fun _ => b_D_late_7 s_D_finding (b_D_late_13 ⟨rfl, rfl⟩)) (fun z => absurd c2 z)))) (e_M_late (b_M_late_0 s_M_isDay (b_M_late_4 (fun _ => b_M_late_7 s_M_finding (b_M_late_13 ⟨rfl, rfl⟩)) (fun z => absurd c2 z))))
  obtain ⟨d, hd, rfl⟩ := hd_in_of (dk_within (a := 0) (b := 364) (by omega) (by omega) c2).1 (by omega)
  have hq := dk_dq_of I
  obtain ⟨n, hn, e1, e2, e3, e4⟩ := dk_np_of I
  have hv : ∀ V : Nat → Int32, dk_wf V → ∀ p, p < dk_np V → 0 < dk_ct V p (nI d) (d + 1) → dk_fv (dk_o60 V p) (dk_ct V p (nI d) (d + 1)) (dk_days V p d) d < 2 ^ 30 := fun V hw p hp h0 => (dk_fvI (days := dk_days V p d) (dk_o60_of hw hp).2.2 h0 (dk_ct_le V p (nI d) (d + 1)) (dk_days_le _ p hd) hd).2
  refine dk_read73 (r := nI (dk_sm (dk_lt (hd_dv M) d) n)) I (e_D_late (b_D_late_0 s_D_isDay (b_D_late_4 (fun z => absurd z c2) (fun _ => b_D_late_14 ?_)))) ?_
  · refine hd_forP n (fun i s => ∃ v4, s = (18, [.ref 0, .int (nI d), .int (nI (dk_sm (dk_lt (hd_dv M) d) i)), .int (nI i), v4], [], M)) ?_ ?_ _ ⟨_, rfl⟩
    · rintro i s hi ⟨v4, rfl⟩ ih
      have hpv : i < dk_np (hd_dv M) := by omega
      have hdn := dk_ddone (Ls := Ls) hq hpv (show d + 1 ≤ 365 by omega) (nI d)
      rw [nI_pred] at hdn
      have yes : dk_lt (hd_dv M) d i = 1 → ∀ w4, hd_E Ls D_late (68, [.ref 0, .int (nI d), .int (nI (dk_sm (dk_lt (hd_dv M) d) i)), .int (nI i), w4], [], M) (fun a b => a = some (.int (nI (dk_sm (dk_lt (hd_dv M) d) n))) ∧ b = M) := by
        intro h1 w4
        refine b_D_late_68 (ih _ ⟨w4, ?_⟩)
        show _ = (18, [.ref 0, .int (nI d), .int (nI (dk_sm (dk_lt (hd_dv M) d) i + dk_lt (hd_dv M) d i)), .int (nI (i + 1)), w4], [], M)
        rw [h1, nI_1, nI_1]
      have no : dk_lt (hd_dv M) d i = 0 → ∀ w4, hd_E Ls D_late (71, [.ref 0, .int (nI d), .int (nI (dk_sm (dk_lt (hd_dv M) d) i)), .int (nI i), w4], [], M) (fun a b => a = some (.int (nI (dk_sm (dk_lt (hd_dv M) d) n))) ∧ b = M) := by
        intro h1 w4
        refine b_D_late_71 (ih _ ⟨w4, ?_⟩)
        show _ = (18, [.ref 0, .int (nI d), .int (nI (dk_sm (dk_lt (hd_dv M) d) i + dk_lt (hd_dv M) d i)), .int (nI (i + 1)), w4], [], M)
        rw [h1, nI_1, Nat.add_zero (dk_sm (dk_lt (hd_dv M) d) i)]
      refine b_D_late_18 (fun z => absurd z (by rw [e1]; exact hd_nle hi (by omega))) (fun _ => b_D_late_29 hdn (b_D_late_36 (fun q => b_D_late_39 (dk_dfe hq hpv hd) ?_) (fun q => no ?_ _)))
      · have hlt : dk_ct (hd_dv M) i (nI d) (d + 1) < dk_o60 (hd_dv M) i := by
          by_cases z : dk_ct (hd_dv M) i (nI d) (d + 1) < dk_o60 (hd_dv M) i
          · exact z
          · rw [if_neg z] at q; exact absurd q (by decide)
        refine b_D_late_45 (fun q2 => yes ?_ _) (fun q2 => b_D_late_54 (hd_okR_n rfl (show i < 8 by omega) (by omega)) (fun q3 => no ?_ _) (fun q3 => yes ?_ _))
        · have c0 : dk_ct (hd_dv M) i (nI d) (d + 1) = 0 := by
            by_cases z : dk_ct (hd_dv M) i (nI d) (d + 1) = 0
            · exact z
            · rw [if_neg z] at q2
              have := congrArg Int32.toInt q2
              rw [nI_toInt (by have := hv (hd_dv M) hq.1 i hpv (by omega); omega)] at this
              have e : (-100006 : Int32).toInt = -100006 := rfl
              omega
          unfold dk_lt
          rw [if_pos ⟨hlt, Or.inl c0⟩]
        · have c0 : ¬ dk_ct (hd_dv M) i (nI d) (d + 1) = 0 := fun z => q2 (by rw [if_pos z])
          have e12 : M 12 i = hd_dv M (38 + i) := (hd_dvA 12 (by simp) (show i < 8 by omega)).symm
          rw [if_neg c0, nI_clamp (show i < 2 ^ 31 by omega), e12] at q3
          unfold dk_lt
          rw [if_neg]
          rintro ⟨-, z | z⟩
          · exact c0 z
          · exact absurd (Int32.lt_of_lt_of_le z q3) (fun y => Int32.lt_irrefl y)
        · have c0 : ¬ dk_ct (hd_dv M) i (nI d) (d + 1) = 0 := fun z => q2 (by rw [if_pos z])
          have e12 : M 12 i = hd_dv M (38 + i) := (hd_dvA 12 (by simp) (show i < 8 by omega)).symm
          rw [if_neg c0, nI_clamp (show i < 2 ^ 31 by omega), e12] at q3
          unfold dk_lt
          rw [if_pos ⟨hlt, Or.inr (Int32.not_le.mp q3)⟩]
      · have hlt : ¬ dk_ct (hd_dv M) i (nI d) (d + 1) < dk_o60 (hd_dv M) i := fun z => q (by rw [if_pos z])
        unfold dk_lt
        rw [if_neg (fun z => hlt z.1)]
    · rintro s ⟨v4, rfl⟩
      exact b_D_late_18 (fun _ => b_D_late_77 ⟨rfl, rfl⟩) (fun z => absurd (by rw [e1]; exact Int32.le_refl _) z)
  · have es : dk_sm (dk_lt (hd_dv M) d) n = dk_sm (dk_lt (M 68) d) n := dk_sm_congr n (fun p hp => dk_lt_live I.2.1 hq.1 (by omega) d)
    rw [es]
    have key : hd_E Ls M_late (0, [.ref 67, .int (nI d), .null, .null, .null], [], M) (fun v M2 => v = some (.int (nI (dk_sm (dk_lt (M 68) d) n))) ∧ ∀ c, c ≠ 73 → M2 c = M c) := by
      refine b_M_late_0 s_M_isDay (b_M_late_4 (fun z => absurd z c2) (fun _ => b_M_late_14 ?_))
      refine hd_forP n (fun i s => ∃ v4 A, (∀ c, c ≠ 73 → A c = M c) ∧ s = (18, [.ref 67, .int (nI d), .int (nI (dk_sm (dk_lt (M 68) d) i)), .int (nI i), v4], [], A)) ?_ ?_ _ ⟨.null, M, fun _ _ => rfl, rfl⟩
      · rintro i s hi ⟨v4, A, hA, rfl⟩ ih
        have hp : i < dk_np (M 68) := by omega
        obtain ⟨A2, g1, g2⟩ := dk_mfe (Ls := Ls) (M := A) (p := i) (by rw [hA 68 (by decide)]; exact I.1) (by rw [hA 68 (by decide)]; exact hp) hd
        rw [hA 68 (by decide)] at g2
        obtain ⟨A3, k1, k2⟩ := dk_mleft (Ls := Ls) (M := A2) (p := i) (by rw [g1 68 (by decide), hA 68 (by decide)]; exact I.1) (by rw [g1 68 (by decide), hA 68 (by decide)]; exact hp) (show d + 1 ≤ 365 by omega) (nI d)
        rw [nI_pred, g1 68 (by decide), hA 68 (by decide)] at k2
        have hA3 : ∀ c, c ≠ 73 → A3 c = M c := fun c hc => by rw [k1 c hc, g1 c hc, hA c hc]
        have ho := (dk_o60_of I.1 hp).2.2
        have hc := dk_ct_le (M 68) i (nI d) (d + 1)
        have yes : dk_lt (M 68) d i = 1 → ∀ w4, hd_E Ls M_late (66, [.ref 67, .int (nI d), .int (nI (dk_sm (dk_lt (M 68) d) i)), .int (nI i), w4], [.int (nI (dk_sm (dk_lt (M 68) d) i))], A3) (fun v M2 => v = some (.int (nI (dk_sm (dk_lt (M 68) d) n))) ∧ ∀ c, c ≠ 73 → M2 c = M c) := by
          intro h1 w4
          refine b_M_late_66 (ih _ ⟨w4, A3, hA3, ?_⟩)
          show _ = (18, [.ref 67, .int (nI d), .int (nI (dk_sm (dk_lt (M 68) d) i + dk_lt (M 68) d i)), .int (nI (i + 1)), w4], [], A3)
          rw [h1, nI_1, nI_1]
        have no : dk_lt (M 68) d i = 0 → ∀ w4, hd_E Ls M_late (70, [.ref 67, .int (nI d), .int (nI (dk_sm (dk_lt (M 68) d) i)), .int (nI i), w4], [.int (nI (dk_sm (dk_lt (M 68) d) i))], A3) (fun v M2 => v = some (.int (nI (dk_sm (dk_lt (M 68) d) n))) ∧ ∀ c, c ≠ 73 → M2 c = M c) := by
          intro h1 w4
          refine b_M_late_70 (ih _ ⟨w4, A3, hA3, ?_⟩)
          show _ = (18, [.ref 67, .int (nI d), .int (nI (dk_sm (dk_lt (M 68) d) i + dk_lt (M 68) d i)), .int (nI (i + 1)), w4], [], A3)
          rw [h1, nI_1, Nat.add_zero, show (nI (dk_sm (dk_lt (M 68) d) i) + 0 : Int32) = nI (dk_sm (dk_lt (M 68) d) i) + nI 0 from rfl, nI_add, Nat.add_zero]
        refine b_M_late_18 (fun z => absurd z (by rw [hA 68 (by decide), e2]; exact hd_nle hi (by omega))) (fun _ => b_M_late_28 g2 (b_M_late_34 k2 (b_M_late_44 (fun q => no ?_ _) (fun q => ?_))))
        · have hlt : ¬ dk_ct (M 68) i (nI d) (d + 1) < dk_o60 (M 68) i := by
            intro z
            exact nI_nle (by omega) (by omega) q
          unfold dk_lt
          rw [if_neg (fun z => hlt z.1)]
        · have hlt : dk_ct (M 68) i (nI d) (d + 1) < dk_o60 (M 68) i := by
            by_cases z : dk_ct (M 68) i (nI d) (d + 1) < dk_o60 (M 68) i
            · exact z
            · rw [show dk_o60 (M 68) i - dk_ct (M 68) i (nI d) (d + 1) = 0 by omega] at q
              exact absurd (Int32.le_refl _) q
          by_cases c0 : dk_ct (M 68) i (nI d) (d + 1) = 0
          · rw [if_pos c0]
            refine b_M_late_47 (fun _ => yes ?_ _) (fun z => absurd (by decide) z)
            unfold dk_lt
            rw [if_pos ⟨hlt, Or.inl c0⟩]
          · rw [if_neg c0]
            have hfv := hv (M 68) I.1 i hp (by omega)
            refine b_M_late_47 (fun z => absurd z (nI_pos (by omega))) (fun _ => b_M_late_52 (dk_okR68 (q := 38) (by omega)) (fun q3 => no ?_ _) (fun q3 => yes ?_ _))
            · rw [hA3 68 (by decide), show (38 + nI i).toNatClampNeg = 38 + i from dk_ix (a := 38) (by omega)] at q3
              unfold dk_lt
              rw [if_neg]
              rintro ⟨-, z | z⟩
              · exact c0 z
              · exact absurd (Int32.lt_of_lt_of_le z q3) (fun y => Int32.lt_irrefl y)
            · rw [hA3 68 (by decide), show (38 + nI i).toNatClampNeg = 38 + i from dk_ix (a := 38) (by omega)] at q3
              unfold dk_lt
              rw [if_pos ⟨hlt, Or.inr (Int32.not_le.mp q3)⟩]
      · rintro s ⟨v4, A, hA, rfl⟩
        exact b_M_late_18 (fun _ => b_M_late_79 ⟨rfl, hA⟩) (fun z => absurd (by rw [hA 68 (by decide), e2]; exact Int32.le_refl _) z)
    obtain ⟨v, M2, ⟨rfl, h2⟩, h3⟩ := hd_E_det key
    exact ⟨M2, h2, e_M_late h3⟩
def dk_eu : Nat → Nat → Nat → Option Nat
  | 0, a, b => if b = 0 then some a else none
  | m + 1, a, b => if b = 0 then some a else dk_eu m b (a % b)
theorem dk_eu_ex : ∀ k a b, b < 2 ^ k → ∃ g, dk_eu (2 * k) a b = some g
  | 0, a, b, h => ⟨a, by rw [show b = 0 by omega]; rfl⟩
  | k + 1, a, b, h => by
    rw [show 2 * (k + 1) = (2 * k + 1) + 1 by omega]
    unfold dk_eu
    by_cases q : b = 0
    · rw [if_pos q]; exact ⟨_, rfl⟩
    · rw [if_neg q]
      unfold dk_eu
      by_cases q2 : a % b = 0
      · rw [if_pos q2]; exact ⟨_, rfl⟩
      · rw [if_neg q2]
        apply dk_eu_ex k
        have h1 : a % b < b := Nat.mod_lt _ (by omega)
        have h2 : b % (a % b) < a % b := Nat.mod_lt _ (by omega)
        have h3 : a % b + b % (a % b) ≤ b := by
          have h4 := Nat.div_add_mod b (a % b)
          have h5 : 1 ≤ b / (a % b) := (Nat.one_le_div_iff (by omega)).mpr (by omega)
          have h6 : (a % b) * 1 ≤ (a % b) * (b / (a % b)) := Nat.mul_le_mul (Nat.le_refl _) h5
          omega
        rw [Nat.pow_succ] at h
        omega
theorem dk_eu_pos : ∀ m a b g, dk_eu m a b = some g → (0 < a ∨ 0 < b) → 0 < g ∧ g ≤ max a b
  | 0, a, b, g, h, h0 => by
    unfold dk_eu at h
    by_cases q : b = 0
    · rw [if_pos q] at h; simp at h; omega
    · rw [if_neg q] at h; simp at h
  | m + 1, a, b, g, h, h0 => by
    unfold dk_eu at h
    by_cases q : b = 0
    · rw [if_pos q] at h; simp at h; omega
    · rw [if_neg q] at h
      have h1 := dk_eu_pos m b (a % b) g h (Or.inl (by omega))
      have h2 : a % b < b := Nat.mod_lt _ (by omega)
      omega
theorem dk_modI {a b : Nat} (ha : a < 2 ^ 30) (hb : 0 < b) (hb2 : b < 2 ^ 30) : nI a - nI a / nI b * nI b = nI (a % b) := by
  have h1 := Nat.div_add_mod a b
  have h2 : b * (a / b) = a / b * b := Nat.mul_comm _ _
  have h3 : a % b < b := Nat.mod_lt _ hb
  rw [pk_div (by omega) hb (by omega), pk_mul]
  apply Int32.toInt_inj.mp
  rw [pk_sub_toInt (by omega) (by omega), nI_toInt (by omega)]
  omega
theorem dk_cp {Ls : Nat} {M : hd_Mem} {Q : Option Value → hd_Mem → Prop} {g : Nat} (k : Q (some (.int (nI g))) M) : ∀ m a b s (v0 v1 v5 : Value), a < 2 ^ 30 → b < 2 ^ 30 → s + m < 100 → dk_eu m a b = some g → hd_E Ls D_commonPart (7, [v0, v1, .int (nI a), .int (nI b), .int (nI s), v5], [], M) Q
  | 0, a, b, s, v0, v1, v5, ha, hb, hs, h => by
    unfold dk_eu at h
    by_cases q : b = 0
    · rw [if_pos q] at h
      simp at h
      subst h q
      exact b_D_commonPart_7 (fun _ => b_D_commonPart_34 k) (fun z => absurd rfl z)
    · rw [if_neg q] at h; simp at h
  | m + 1, a, b, s, v0, v1, v5, ha, hb, hs, h => by
    unfold dk_eu at h
    by_cases q : b = 0
    · rw [if_pos q] at h
      simp at h
      subst h q
      exact b_D_commonPart_7 (fun _ => b_D_commonPart_34 k) (fun z => absurd rfl z)
    · rw [if_neg q] at h
      have hn : ¬ nI b = 0 := nI_ne0 (by omega) (by omega)
      have h3 : a % b < b := Nat.mod_lt _ (by omega)
      refine b_D_commonPart_7 (fun z => absurd z hn) (fun _ => b_D_commonPart_11 (fun z => absurd z (hd_nle (b := 100) (by omega) (by omega))) (fun _ => b_D_commonPart_18 hn ?_))
      rw [dk_modI ha (by omega) hb, nI_1]
      exact dk_cp k m b (a % b) (s + 1) v0 v1 _ hb (by omega) (by omega) h
theorem dk_cpM {Ls : Nat} {M : hd_Mem} {Q : Option Value → hd_Mem → Prop} {g : Nat} {v1 v2 v3 v4 v5 : Value} (k : ∀ v7 v8, hd_E Ls M_pace (82, [.ref 67, v1, v2, v3, v4, v5, .int (nI g), v7, v8], [], M) Q) : ∀ m a b (v8 : Value), a < 2 ^ 30 → b < 2 ^ 30 → dk_eu m a b = some g → hd_E Ls M_pace (59, [.ref 67, v1, v2, v3, v4, v5, .int (nI a), .int (nI b), v8], [], M) Q
  | 0, a, b, v8, ha, hb, h => by
    unfold dk_eu at h
    by_cases q : b = 0
    · rw [if_pos q] at h
      simp at h
      subst h q
      exact b_M_pace_59 (fun _ => k _ _) (fun z => absurd rfl z)
    · rw [if_neg q] at h; simp at h
  | m + 1, a, b, v8, ha, hb, h => by
    unfold dk_eu at h
    by_cases q : b = 0
    · rw [if_pos q] at h
      simp at h
      subst h q
      exact b_M_pace_59 (fun _ => k _ _) (fun z => absurd rfl z)
    · rw [if_neg q] at h
      have hn : ¬ nI b = 0 := nI_ne0 (by omega) (by omega)
      have h3 : a % b < b := Nat.mod_lt _ (by omega)
      refine b_M_pace_59 (fun z => absurd z hn) (fun _ => b_M_pace_64 hn ?_)
      rw [dk_modI ha (by omega) hb]
      exact dk_cpM k m b (a % b) _ hb (by omega) h
theorem dk_same_pace {pw : dk_PW} {xs : Nat → Int32} {Ls : Nat} {M : hd_Mem} (I : dk_inv pw xs M) (x1 x2 x3 : Int32) (h01 : x3 = 0 ∨ x3 = 1) : dk_same pw xs Ls D_pace M_pace [.int x1, .int x2, .int x3] M := by
  have hP := dk_pers I x1
  by_cases c1 : f_M_within x1 0 (M 68 0 - 1) = 0
  · refine dk_finds (-100001) I (e_D_pace (b_D_pace_0 s_Pe_has (b_D_pace_8 (fun _ => b_D_pace_18 s_D_finding (b_D_pace_24 ⟨rfl, rfl⟩)) (fun z => absurd (hP.trans c1) z)))) (e_M_pace (b_M_pace_0 s_M_isPerson (b_M_pace_5 (fun _ => b_M_pace_15 s_M_finding (b_M_pace_21 ⟨rfl, rfl⟩)) (fun z => absurd ?_ z))))
    unfold f_M_isPerson
    rw [dk_find68]; exact c1
  have nP : ¬ f_Pe_has M x1 = 0 := fun q => c1 (hP.symm.trans q)
  by_cases c2 : f_M_isDay x2 = 0
  · exact dk_finds (-100001) I (e_D_pace (b_D_pace_0 s_Pe_has (b_D_pace_8 (fun z => absurd z nP) (fun _ => b_D_pace_11 s_D_isDay (b_D_pace_15 (fun _ => b_D_pace_18 s_D_finding (b_D_pace_24 ⟨rfl, rfl⟩)) (fun z => absurd c2 z)))))) (e_M_pace (b_M_pace_0 s_M_isPerson (b_M_pace_5 (fun _ => b_M_pace_15 s_M_finding (b_M_pace_21 ⟨rfl, rfl⟩)) (fun _ => b_M_pace_8 s_M_isDay (b_M_pace_12 (fun _ => b_M_pace_15 s_M_finding (b_M_pace_21 ⟨rfl, rfl⟩)) (fun z => absurd c2 z))))))
  obtain ⟨p, d, hp, hp8, hd, rfl, rfl, hpv⟩ := dk_ask2 I c1 c2
  have hq := dk_dq_of I
  have hsD := dk_sD (Ls := Ls) (p := p) hq.1 hd
  have hdl := dk_days_le (hd_dv M) p hd
  by_cases d0 : dk_days (hd_dv M) p d = 0
  · have hsM := dk_sM (Ls := Ls) (M := (f_D_finding M (-100006)).2) (p := p) (by rw [dk_find68]; exact I.1) hd
    rw [dk_find68, ← dk_days_live I.2.1 hq.1, d0] at hsM
    rw [d0] at hsD
    refine dk_finds (-100006) I (e_D_pace (b_D_pace_0 s_Pe_has (b_D_pace_8 (fun z => absurd z nP) (fun _ => b_D_pace_11 s_D_isDay (b_D_pace_15 (fun z => absurd z c2) (fun _ => b_D_pace_25 hsD (b_D_pace_34 (fun z => absurd z (by decide)) (fun _ => b_D_pace_41 s_D_finding (b_D_pace_47 ⟨rfl, rfl⟩))))))))) (e_M_pace (b_M_pace_0 s_M_isPerson (b_M_pace_5 (fun z => absurd z ?_) (fun _ => b_M_pace_8 s_M_isDay (b_M_pace_12 (fun z => absurd z c2) (fun _ => b_M_pace_22 hsM (b_M_pace_28 (fun _ => b_M_pace_35 s_M_finding (b_M_pace_41 ⟨rfl, rfl⟩)) (fun z => absurd rfl z))))))))
    unfold f_M_isPerson
    rw [dk_find68]; exact c1
  have hD := dk_dmin (Ls := Ls) hq hpv (show d + 1 ≤ 365 by omega) (nI d)
  obtain ⟨M2, g1, g2⟩ := dk_mct (Ls := Ls) I.1 hp8 (show d + 1 ≤ 365 by omega) (nI d)
  have hsM := dk_sM (Ls := Ls) (M := M) (p := p) I.1 hd
  rw [nI_pred] at hD g2
  rw [← dk_ct_live I.2.1 hq.1 hpv] at g2
  rw [← dk_days_live I.2.1 hq.1] at hsM
  have hc := dk_ct_le (hd_dv M) p (nI d) (d + 1)
  generalize dk_ct (hd_dv M) p (nI d) (d + 1) = c at hD g2 hc
  generalize dk_days (hd_dv M) p d = y at hsD hsM d0 hdl
  obtain ⟨g, hg⟩ := dk_eu_ex 9 c y (by omega)
  obtain ⟨gp, gm⟩ := dk_eu_pos _ c y g hg (Or.inr (by omega))
  have gn : ¬ nI g = 0 := nI_ne0 gp (by omega)
  have hcp : hd_Rt Ls D_commonPart [.int (nI c), .int (nI y)] M (some (.int (nI g))) M := e_D_commonPart (b_D_commonPart_0 (dk_cp ⟨rfl, rfl⟩ (2 * 9) c y 0 _ _ _ (by omega) (by omega) (by omega) hg))
  have yp : (0 : Int32) < nI y := (nI_ltI (a := 0) (by omega) (by omega)).mpr (by omega)
  have gpp : (0 : Int32) < nI g := (nI_ltI (a := 0) (by omega) (by omega)).mpr (by omega)
  have yn : ¬ nI y = 0 := nI_ne0 (by omega) (by omega)
  refine dk_read73 (r := if x3 = 0 then nI c / nI g else nI y / nI g) I (e_D_pace (b_D_pace_0 s_Pe_has (b_D_pace_8 (fun z => absurd z nP) (fun _ => b_D_pace_11 s_D_isDay (b_D_pace_15 (fun z => absurd z c2) (fun _ => b_D_pace_25 hsD (b_D_pace_34 (fun _ => b_D_pace_48 hD (b_D_pace_55 hcp (b_D_pace_64 (fun _ => b_D_pace_78 (fun q => b_D_pace_87 gn ⟨by rw [if_pos q], rfl⟩) (fun q => b_D_pace_82 gn ⟨by rw [if_neg q], rfl⟩)) (fun z => absurd gpp z)))) (fun z => absurd yp z)))))))) ⟨M2, g1, e_M_pace (b_M_pace_0 s_M_isPerson (b_M_pace_5 (fun z => absurd z c1) (fun _ => b_M_pace_8 s_M_isDay (b_M_pace_12 (fun z => absurd z c2) (fun _ => b_M_pace_22 hsM (b_M_pace_28 (fun z => absurd z yn) (fun _ => b_M_pace_42 g2 (b_M_pace_49 (dk_cpM (fun v7 v8 => b_M_pace_82 (fun q => b_M_pace_94 gn ⟨by rw [if_pos q], rfl⟩) (fun q => b_M_pace_86 gn ⟨by rw [if_neg q], rfl⟩)) (2 * 9) c y _ (by omega) (by omega) hg)))))))))⟩
