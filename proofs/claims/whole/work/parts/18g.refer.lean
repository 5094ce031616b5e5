/-! the reference's plan of a day -/
theorem dk_is1 {x : Int32} : x &&& 1 = 1 ↔ ¬ x &&& 1 = 0 := by
  rcases dk_b01 x with z | z
  · rw [z]; decide
  · rw [z]; decide
theorem dk_hb1 {x : Int32} {q : Nat} : (x >>> (nI q &&& 31)) &&& 1 = 1 ↔ dk_hb x q = true := by
  unfold dk_hb
  rw [decide_eq_true_iff]
  exact dk_is1
def dk_ms (W : Nat → Int32) (d p : Nat) : Nat := dk_st (dk_may W d p) (dk_nl W)
theorem dk_st0 {f : Nat → Bool} : ∀ n, (∀ i, i < n → f i = false) → dk_st f n = 0
  | 0, _ => rfl
  | n + 1, h => by
    show dk_st f n + (if f n then 2 ^ n else 0) = 0
    rw [dk_st0 n (fun i hi => h i (by omega)), h n (by omega)]
    rfl
theorem dk_fmy {Ls : Nat} {M : hd_Mem} (h : dk_wf (M 68)) {d : Nat} (hd : d < 365) : ∃ M', hd_Rt Ls M_findMay [.ref 67, .int (nI d)] M none M' ∧ (∀ c, c ∉ [73, 76] → M' c = M c) ∧ ∀ p, p < dk_np (M 68) → M' 76 p = nI (dk_ms (M 68) d p) := by
  have hn := dk_wf_n h
  have h8 := hn.2.1
  have h3 := hn.2.2.2.1
  have em : nI d - nI d / 7 * 7 = nI (d % 7) := dk_modI (a := d) (b := 7) (by omega) (by omega) (by omega)
  have hE : hd_E Ls M_findMay (0, [.ref 67, .int (nI d), .null, .null, .null, .null, .null], [], M) (fun a M' => a = none ∧ (∀ c, c ∉ [73, 76] → M' c = M c) ∧ ∀ p, p < dk_np (M 68) → M' 76 p = nI (dk_ms (M 68) d p)) := by
    refine b_M_findMay_0 ?_
    rw [em]
    refine hd_forP (dk_np (M 68)) (fun i s => ∃ (A : hd_Mem) (v4 v5 v6 : Value), s = (7, [.ref 67, .int (nI d), .int (nI (d % 7)), .int (nI i), v4, v5, v6], [], A) ∧ (∀ c, c ∉ [73, 76] → A c = M c) ∧ ∀ p, p < i → A 76 p = nI (dk_ms (M 68) d p)) ?_ ?_ _ ⟨M, _, _, _, rfl, fun _ _ => rfl, fun p hp => by omega⟩
    · rintro i s hi ⟨A, v4, v5, v6, rfl, a1, a2⟩ ih
      have e68 : ∀ B : hd_Mem, (∀ c, c ∉ [73, 76] → B c = M c) → B 68 = M 68 := fun B hB => hB 68 (by decide)
      have cl : (nI i).toNatClampNeg = i := nI_clamp (by omega)
      have c22 : ((22 : Int32) + nI i).toNatClampNeg = 22 + i := dk_ix (a := 22) (b := i) (by omega)
      have c30 : ((30 : Int32) + nI i).toNatClampNeg = 30 + i := dk_ix (a := 30) (b := i) (by omega)
      -- the rounds over the places
      have inn : ∀ B : hd_Mem, (∀ c, c ∉ [73, 76] → B c = M c) → (∀ p, p < i → B 76 p = nI (dk_ms (M 68) d p)) → B 76 i = 0 → dk_cm (M 68) d i = true → ∀ v6, hd_E Ls M_findMay (63, [.ref 67, .int (nI d), .int (nI (d % 7)), .int (nI i), .int 1, .int 0, v6], [], B) (fun a M' => a = none ∧ (∀ c, c ∉ [73, 76] → M' c = M c) ∧ ∀ p, p < dk_np (M 68) → M' 76 p = nI (dk_ms (M 68) d p)) := by
        intro B b1 b2 b3 hcm v6
        refine hd_forP (dk_nl (M 68)) (fun l s => ∃ (K : hd_Mem) (v6 : Value), s = (63, [.ref 67, .int (nI d), .int (nI (d % 7)), .int (nI i), .int 1, .int (nI l), v6], [], K) ∧ (∀ c, c ∉ [73, 76] → K c = M c) ∧ (∀ p, p < i → K 76 p = nI (dk_ms (M 68) d p)) ∧ K 76 i = nI (dk_st (dk_may (M 68) d i) l)) ?_ ?_ _ ⟨B, v6, rfl, b1, b2, b3⟩
        · rintro l s hl ⟨K, v6, rfl, k1, k2, k3⟩ ih2
          have k68 := e68 K k1
          have c57 : ((57 : Int32) + nI l).toNatClampNeg = 57 + l := dk_ix (a := 57) (b := l) (by omega)
          have c54 : ((54 : Int32) + nI l).toNatClampNeg = 54 + l := dk_ix (a := 54) (b := l) (by omega)
          have hlt := dk_st_lt (dk_may (M 68) d i) l
          have hmay : dk_may (M 68) d i l = (dk_op (M 68) d l && dk_ab (M 68) l i) := by
            unfold dk_may
            rw [decide_eq_true hi, hcm]
            rfl
          have hopl : dk_op (M 68) d l = dk_hb (M 68 (54 + l)) (d % 7) := by
            unfold dk_op
            rw [decide_eq_true hl]
            rfl
          have no : dk_may (M 68) d i l = false → hd_E Ls M_findMay (148, [.ref 67, .int (nI d), .int (nI (d % 7)), .int (nI i), .int 1, .int (nI l), .int 0], [.int (K 76 i), .int (nI i), .ref 76], K) (fun a M' => a = none ∧ (∀ c, c ∉ [73, 76] → M' c = M c) ∧ ∀ p, p < dk_np (M 68) → M' 76 p = nI (dk_ms (M 68) d p)) ∧ hd_E Ls M_findMay (148, [.ref 67, .int (nI d), .int (nI (d % 7)), .int (nI i), .int 1, .int (nI l), .int 1], [.int (K 76 i), .int (nI i), .ref 76], K) (fun a M' => a = none ∧ (∀ c, c ∉ [73, 76] → M' c = M c) ∧ ∀ p, p < dk_np (M 68) → M' 76 p = nI (dk_ms (M 68) d p)) := by
            intro hm
            have k := fun v6 => ih2 _ ⟨hd_set K 76 i (K 76 i ||| 0), v6, rfl, fun c hc => by rw [hd_set_ne (by rintro rfl; simp at hc)]; exact k1 c hc, fun p hp => by rw [hd_set_nj (by omega)]; exact k2 p hp, by
              rw [hd_set_at, Int32.or_zero, k3]
              show _ = nI (dk_st (dk_may (M 68) d i) l + (if dk_may (M 68) d i l then 2 ^ l else 0))
              rw [hm]
              rfl⟩
            constructor
            · refine b_M_findMay_148 (hd_okW_n (by decide) rfl (show i < 8 by omega) (by omega)) ?_
              rw [cl, nI_1]
              exact k _
            · refine b_M_findMay_148 (hd_okW_n (by decide) rfl (show i < 8 by omega) (by omega)) ?_
              rw [cl, nI_1]
              exact k _
          refine b_M_findMay_63 (fun z => absurd z (by rw [k68, hn.2.2.1]; exact hd_nle hl (by omega))) (fun _ => b_M_findMay_74 (fun z => absurd z (by decide)) (fun _ => b_M_findMay_79 (dk_okR68 (q := 57) (by omega)) (dk_okR68 (q := 30) (by omega)) (fun c => b_M_findMay_104 (hd_okR_n rfl (show i < 8 by omega) (by omega)) (b_M_findMay_123 (dk_okR68 (q := 54) (by omega)) (fun c2 => b_M_findMay_141 (hd_okW_n (by decide) rfl (show i < 8 by omega) (by omega)) ?_) (fun c2 => ?_))) (fun c => b_M_findMay_108 (hd_okR_n rfl (show i < 8 by omega) (by omega)) ?_)))
          · rw [c57, c30, k68] at c
            rw [c54, k68, dk_hb1] at c2
            rw [cl, nI_1]
            refine ih2 _ ⟨_, _, rfl, fun c hc => by rw [hd_set_ne (by rintro rfl; simp at hc)]; exact k1 c hc, fun p hp => by rw [hd_set_nj (by omega)]; exact k2 p hp, ?_⟩
            rw [hd_set_at, k3, dk_orN l (by omega) _ hlt]
            show _ = nI (dk_st (dk_may (M 68) d i) l + (if dk_may (M 68) d i l then 2 ^ l else 0))
            rw [hmay, hopl, c2, show dk_ab (M 68) l i = true from decide_eq_true c]
            rfl
          · rw [c54, k68, dk_hb1] at c2
            rw [cl]
            refine (no ?_).2
            rw [hmay, hopl]
            cases hz : dk_hb (M 68 (54 + l)) (d % 7)
            · rfl
            · exact absurd hz c2
          · rw [c57, c30, k68] at c
            rw [cl]
            refine (no ?_).1
            rw [hmay, show dk_ab (M 68) l i = false from decide_eq_false c]
            simp
        · rintro s ⟨K, v6, rfl, k1, k2, k3⟩
          refine b_M_findMay_63 (fun _ => b_M_findMay_157 ?_) (fun z => absurd (by rw [e68 K k1, hn.2.2.1]; exact Int32.le_refl _) z)
          rw [nI_1]
          refine ih _ ⟨K, _, _, _, rfl, k1, fun p hp => ?_⟩
          by_cases q : p < i
          · exact k2 p q
          · rw [show p = i by omega]; exact k3
      have out : ∀ B : hd_Mem, (∀ c, c ∉ [73, 76] → B c = M c) → (∀ p, p < i → B 76 p = nI (dk_ms (M 68) d p)) → B 76 i = 0 → dk_cm (M 68) d i = false → ∀ v6, hd_E Ls M_findMay (63, [.ref 67, .int (nI d), .int (nI (d % 7)), .int (nI i), .int 0, .int 0, v6], [], B) (fun a M' => a = none ∧ (∀ c, c ∉ [73, 76] → M' c = M c) ∧ ∀ p, p < dk_np (M 68) → M' 76 p = nI (dk_ms (M 68) d p)) := by
        intro B b1 b2 b3 hcm v6
        have k : hd_E Ls M_findMay (157, [.ref 67, .int (nI d), .int (nI (d % 7)), .int (nI i), .int 0, .int 0, v6], [], B) (fun a M' => a = none ∧ (∀ c, c ∉ [73, 76] → M' c = M c) ∧ ∀ p, p < dk_np (M 68) → M' 76 p = nI (dk_ms (M 68) d p)) := by
          refine b_M_findMay_157 ?_
          rw [nI_1]
          refine ih _ ⟨B, _, _, _, rfl, b1, fun p hp => ?_⟩
          by_cases q : p < i
          · exact b2 p q
          · rw [show p = i by omega, b3]
            unfold dk_ms
            rw [dk_st0 _ (fun l _ => by unfold dk_may; rw [hcm]; simp)]
            rfl
        exact b_M_findMay_63 (fun _ => k) (fun _ => b_M_findMay_74 (fun _ => k) (fun z => absurd rfl z))
      have s1 : ∀ c, c ∉ [73, 76] → hd_set A 76 i 0 c = M c := fun c hc => by rw [hd_set_ne (by rintro rfl; simp at hc)]; exact a1 c hc
      have s2 : ∀ p, p < i → hd_set A 76 i 0 76 p = nI (dk_ms (M 68) d p) := fun p hp => by rw [hd_set_nj (by omega)]; exact a2 p hp
      have s3 : hd_set A 76 i 0 76 i = 0 := hd_set_at
      refine b_M_findMay_7 (fun z => absurd z (by rw [e68 A a1, hn.1]; exact hd_nle hi (by omega))) (fun _ => b_M_findMay_17 (hd_okW_n (by decide) rfl (show i < 8 by omega) (by omega)) (dk_okR68 (q := 22) (by omega)) (fun c => ?_) (fun c => ?_))
      · rw [c22, e68 A a1, dk_hb1] at c
        rw [cl]
        obtain ⟨B, t1, t2⟩ := dk_mleft (Ls := Ls) (M := hd_set A 76 i 0) (by rw [e68 _ s1]; exact h) (p := i) (b := d) (by rw [e68 _ s1]; exact hi) (by omega) (nI d)
        rw [e68 _ s1] at t2
        have b1 : ∀ c, c ∉ [73, 76] → B c = M c := fun c hc => by rw [t1 c (by rintro rfl; simp at hc)]; exact s1 c hc
        refine b_M_findMay_41 t2 (b_M_findMay_50 (fun c2 => b_M_findMay_57 (out B b1 (by rw [t1 76 (by decide)]; exact s2) (by rw [t1 76 (by decide)]; exact s3) ?_ _)) (fun c2 => b_M_findMay_53 (inn B b1 (by rw [t1 76 (by decide)]; exact s2) (by rw [t1 76 (by decide)]; exact s3) ?_ _)))
        · have : ¬ dk_ct (M 68) i (nI d) d < dk_o60 (M 68) i := by
            intro hlt
            have h60 := (dk_o60_of h hi).2.2
            exact absurd c2 (nI_nle (by omega) (by omega))
          unfold dk_cm
          rw [decide_eq_false this, Bool.and_false]
        · have : dk_ct (M 68) i (nI d) d < dk_o60 (M 68) i := by
            apply Classical.byContradiction
            intro hge
            apply c2
            rw [show dk_o60 (M 68) i - dk_ct (M 68) i (nI d) d = 0 by omega]
            decide
          unfold dk_cm
          rw [c, decide_eq_true this]
          rfl
      · rw [c22, e68 A a1, dk_hb1] at c
        rw [cl]
        refine b_M_findMay_57 (out _ s1 s2 s3 ?_ _)
        unfold dk_cm
        cases hz : dk_hb (M 68 (22 + i)) (d % 7)
        · rfl
        · exact absurd hz c
    · rintro s ⟨A, v4, v5, v6, rfl, a1, a2⟩
      exact b_M_findMay_7 (fun _ => b_M_findMay_163 ⟨rfl, a1, a2⟩) (fun z => absurd (by rw [a1 68 (by decide), hn.1]; exact Int32.le_refl _) z)
  obtain ⟨v, M', ⟨q1, q2⟩, q3⟩ := hd_E_det hE
  subst q1
  exact ⟨M', e_M_findMay q3, q2⟩
/-- who is at place x among the first p -/
def dk_gs (T : Nat → Nat) (x p : Nat) : Nat := dk_st (fun q => decide (T q = x)) p
theorem dk_gs_lt (T : Nat → Nat) (x p : Nat) : dk_gs T x p < 2 ^ p := dk_st_lt _ _
theorem dk_gs_s (T : Nat → Nat) (x p : Nat) : dk_gs T x (p + 1) = dk_gs T x p + (if T p = x then 2 ^ p else 0) := by
  show dk_st (fun q => decide (T q = x)) p + (if decide (T p = x) then 2 ^ p else 0) = _
  by_cases h : T p = x
  · rw [if_pos h, if_pos (decide_eq_true h)]; rfl
  · rw [if_neg h, if_neg (by simp [h])]; rfl
theorem dk_gs_c {T U : Nat → Nat} {x : Nat} : ∀ p, (∀ q, q < p → T q = U q) → dk_gs T x p = dk_gs U x p
  | 0, _ => rfl
  | p + 1, h => by rw [dk_gs_s, dk_gs_s, dk_gs_c p (fun q hq => h q (by omega)), h p (by omega)]
theorem dk_2p {p : Nat} (h : p ≤ 8) : 2 ^ p ≤ 256 := Nat.pow_le_pow_right (n := 2) (j := 8) (by omega) h
theorem dk_goe {Ls : Nat} {A : hd_Mem} {d : Nat} (h : dk_wf (A 68)) {p x : Nat} (hp : p < dk_np (A 68)) (hx : x ≤ 3) {T : Nat → Nat} (hT : ∀ q, q < p → A 75 q = nI (T q) ∧ T q ≤ 3) (h76 : A 76 p = nI (dk_ms (A 68) d p)) (hup : x < 3 → dk_up (A 68) d x (dk_gs T x p) = true) :
    hd_Rt Ls M_goes [.ref 67, .int (nI p), .int (nI x)] A (some (.int (if x = 3 ∨ dk_up (A 68) d x (dk_gs T x p + 2 ^ p) = true then 1 else 0))) A := by
  have hn := dk_wf_n h
  have h8 := hn.2.1
  have h3 := hn.2.2.2.1
  have hB : dk_wfB (A 68) := h.2.2.2.2.2.2.2.2.2.2
  have cl : (nI p).toNatClampNeg = p := nI_clamp (by omega)
  refine e_M_goes (b_M_goes_0 (fun z => b_M_goes_5 ⟨?_, rfl⟩) (fun z => ?_))
  · have : x = 3 := (nI_eq (b := 3) (by omega) (by omega)).mp z
    rw [if_pos (Or.inl this)]
  have hx3 : x < 3 := by
    have : ¬ x = 3 := fun y => z (by rw [y]; rfl)
    omega
  have hms : dk_ms (A 68) d p < 256 := Nat.lt_of_lt_of_le (dk_st_lt _ _) (Nat.pow_le_pow_right (n := 2) (j := 8) (by omega) (by omega))
  have hmst : (dk_ms (A 68) d p).testBit x = dk_may (A 68) d p x := by
    unfold dk_ms
    rw [dk_st_tb]
    by_cases q : x < dk_nl (A 68)
    · simp [q]
    · have : dk_may (A 68) d p x = false := by
        unfold dk_may dk_op
        simp [q]
      rw [this, Bool.and_false]
  have u0 := dk_up_iff.mp (hup hx3)
  have hgp := dk_gs_lt T x p
  have hpp : 2 ^ p ≤ 128 := Nat.pow_le_pow_right (n := 2) (j := 7) (by omega) (by omega)
  have bp : (dk_gs T x p + 2 ^ p).testBit p = true := by rw [dk_tb_add hgp]; simp
  have no : ¬ dk_up (A 68) d x (dk_gs T x p + 2 ^ p) = true → (0 : Int32) = if x = 3 ∨ dk_up (A 68) d x (dk_gs T x p + 2 ^ p) = true then 1 else 0 := fun y => by
    rw [if_neg]
    rintro (w | w)
    · omega
    · exact y w
  refine b_M_goes_7 (hd_okR_n rfl (show p < 8 by omega) (by omega)) (fun c => b_M_goes_20 ⟨?_, rfl⟩) (fun c => b_M_goes_22 ?_)
  · rw [cl, h76, dk_bitN _ hms x (by omega), hmst] at c
    rw [← no]
    intro y
    have := (dk_up_iff.mp y).2.1 p (by omega) bp
    rw [this, if_pos rfl] at c
    exact absurd c (by decide)
  rw [cl, h76, dk_bitN _ hms x (by omega), hmst] at c
  have hmay : dk_may (A 68) d p x = true := by
    cases hz : dk_may (A 68) d p x
    · rw [hz] at c; exact absurd rfl c
    · rfl
  refine hd_forP p (fun q s => s = (27, [.ref 67, .int (nI p), .int (nI x), .int (nI (1 + dk_bc8 (dk_gs T x q))), .int (nI q)], [], A) ∧ ∀ r, r < q → T r = x → dk_br (A 68) p r = false) ?_ ?_ _ ⟨by
    have hb0 : dk_bc8 0 = 0 := by decide
    show _ = ((27, [.ref 67, .int (nI p), .int (nI x), .int (nI (1 + dk_bc8 0)), .int (nI 0)], [], A) : hd_S)
    rw [hb0]
    rfl, fun r hr => by omega⟩
  · rintro q s hq ⟨rfl, hb⟩ ih
    obtain ⟨t1, t2⟩ := hT q hq
    have clq : (nI q).toNatClampNeg = q := nI_clamp (by omega)
    refine b_M_goes_27 (fun z => absurd z (hd_nle hq (by omega))) (fun _ => b_M_goes_33 (hd_okR_n rfl (show q < 9 by omega) (by omega)) (fun c1 => b_M_goes_44 (s_M_areBarred (dk_okR68 (q := 46) (by omega))) (b_M_goes_54 (fun c2 => b_M_goes_59 ?_) (fun c2 => b_M_goes_57 ⟨?_, rfl⟩))) (fun c1 => b_M_goes_59 ?_))
    · rw [clq, t1, nI_eq (by omega) (by omega)] at c1
      rw [nI_1, nI_1]
      refine ih _ ⟨?_, fun r hr e => ?_⟩
      · rw [dk_gs_s, if_pos c1, (dk_dg_add (dk_gs_lt T x q) (by omega)).2, show 1 + dk_bc8 (dk_gs T x q) + 1 = 1 + (dk_bc8 (dk_gs T x q) + 1) by omega]
      · by_cases y : r < q
        · exact hb r y e
        · rw [show r = q by omega]
          unfold f_M_areBarred at c2
          rw [show ((46 : Int32) + nI p).toNatClampNeg = 46 + p from dk_ix (a := 46) (b := p) (by omega)] at c2
          unfold dk_br
          cases hz : dk_hb (A 68 (46 + p)) q
          · rfl
          · rw [if_pos (dk_hb1.mpr hz)] at c2; exact absurd c2 (by decide)
    · rw [clq, t1, nI_eq (by omega) (by omega)] at c1
      rw [← no]
      intro y
      have y2 := (dk_up_iff.mp y).2.2.1
      unfold f_M_areBarred at c2
      rw [show ((46 : Int32) + nI p).toNatClampNeg = 46 + p from dk_ix (a := 46) (b := p) (by omega)] at c2
      have hbr : dk_br (A 68) p q = true := by
        unfold dk_br
        cases hz : dk_hb (A 68 (46 + p)) q
        · rw [if_neg (fun w => by rw [dk_hb1.mp w] at hz; exact absurd hz (by decide))] at c2
          exact absurd rfl c2
        · rfl
      have hq2 : (dk_gs T x p + 2 ^ p).testBit q = true := by
        rw [dk_tb_add hgp]
        have : (dk_gs T x p).testBit q = true := by
          unfold dk_gs
          rw [dk_st_tb]
          simp [hq, c1]
        rw [this]
        rfl
      rw [dk_bars_iff.mpr ⟨p, q, by omega, by omega, bp, hq2, hbr⟩] at y2
      exact absurd y2 (by decide)
    · rw [clq, t1, nI_eq (by omega) (by omega)] at c1
      rw [nI_1]
      refine ih _ ⟨?_, fun r hr e => ?_⟩
      · rw [dk_gs_s, if_neg c1]
        rfl
      · by_cases y : r < q
        · exact hb r y e
        · rw [show r = q by omega] at e; exact absurd e c1
  · rintro s ⟨rfl, hb⟩
    have hln : x < dk_nl (A 68) := by
      unfold dk_may dk_op at hmay
      rw [Bool.and_eq_true, Bool.and_eq_true, Bool.and_eq_true, Bool.and_eq_true, decide_eq_true_iff, decide_eq_true_iff] at hmay
      exact hmay.2.2.1.1
    obtain ⟨-, -, -, -, w5, -, -⟩ := h.2.2.2.2.2.2.2.1 x hln
    obtain ⟨ms, hms2, ems⟩ := hd_in_of w5 (by omega)
    have hb1 : dk_bars (A 68) (dk_gs T x p + 2 ^ p) = false := by
      cases hz : dk_bars (A 68) (dk_gs T x p + 2 ^ p)
      · rfl
      · obtain ⟨y1, y2, y3, y4, y5, y6, y7⟩ := dk_bars_iff.mp hz
        have gb : ∀ r, r < 8 → (dk_gs T x p).testBit r = true → r < p ∧ T r = x := fun r _ hr => by
          unfold dk_gs at hr
          rw [dk_st_tb, Bool.and_eq_true, decide_eq_true_iff, decide_eq_true_iff] at hr
          exact hr
        rw [dk_tb_add hgp, Bool.or_eq_true, decide_eq_true_iff] at y5 y6
        exfalso
        rcases y5 with a | a
        · rcases y6 with b | b
          · have := dk_bars_iff.mpr ⟨y1, y2, y3, y4, a, b, y7⟩
            rw [u0.2.2.1] at this
            exact absurd this (by decide)
          · subst b
            have h1 := gb y1 y3 a
            have h2 := hb y1 h1.1 h1.2
            rw [(dk_br_sym hB y3 y4 y7).1] at h2
            exact absurd h2 (by decide)
        · subst a
          rcases y6 with b | b
          · have h1 := gb y2 y4 b
            have h2 := hb y2 h1.1 h1.2
            rw [y7] at h2
            exact absurd h2 (by decide)
          · exact (dk_br_sym hB y3 y4 y7).2 b.symm
    have c66 : ((66 : Int32) + nI x).toNatClampNeg = 66 + x := dk_ix (a := 66) (b := x) (by omega)
    have hbc := dk_bc8_le (dk_gs T x p)
    have hbca := (dk_dg_add hgp (show p < 8 by omega)).2
    refine b_M_goes_27 (fun _ => b_M_goes_65 (dk_okR68 (q := 66) (by omega)) (fun c1 => b_M_goes_82 ⟨?_, rfl⟩) (fun c1 => b_M_goes_78 ⟨?_, rfl⟩)) (fun z => absurd (Int32.le_refl _) z)
    · rw [c66, ems, nI_ltI (by omega) (by omega)] at c1
      rw [← no]
      intro y
      have y2 := (dk_up_iff.mp y).2.2.2
      rw [hbca, ems, nI_clamp (by omega)] at y2
      omega
    · rw [c66, ems, nI_ltI (by omega) (by omega)] at c1
      rw [if_pos]
      refine Or.inr (dk_up_iff.mpr ⟨by omega, fun r hr hb2 => ?_, hb1, ?_⟩)
      · rw [dk_tb_add hgp, Bool.or_eq_true, decide_eq_true_iff] at hb2
        rcases hb2 with y | y
        · exact u0.2.1 r hr y
        · rw [y]; exact hmay
      · rw [hbca, ems, nI_clamp (by omega)]
        omega
theorem dk_wgs {T : Nat → Nat} : ∀ n, n ≤ 8 → dk_w (dk_gs T 0 n) (dk_gs T 1 n) (dk_gs T 2 n) = dk_sm (fun q => if T q < 3 then 65536 + (3 - T q) * 4 ^ (7 - q) else 0) n ∧ dk_bc8 (dk_gs T 0 n) + dk_bc8 (dk_gs T 1 n) + dk_bc8 (dk_gs T 2 n) = dk_sm (fun q => if T q < 3 then 1 else 0) n
  | 0, _ => by
    have h0 : dk_bc8 0 = 0 := by decide
    refine ⟨?_, ?_⟩
    · show dk_gw 0 0 + dk_gw 1 0 + dk_gw 2 0 = 0
      rw [dk_gw0, dk_gw0, dk_gw0]
    · show dk_bc8 0 + dk_bc8 0 + dk_bc8 0 = 0
      rw [h0]
  | n + 1, hn => by
    obtain ⟨i1, i2⟩ := dk_wgs (T := T) n (by omega)
    have g : ∀ x, dk_gw x (dk_gs T x n + 2 ^ n) = dk_gw x (dk_gs T x n) + 65536 + (3 - x) * 4 ^ (7 - n) := fun x => dk_gw_add (dk_gs_lt T x n) (by omega)
    have b : ∀ x, dk_bc8 (dk_gs T x n + 2 ^ n) = dk_bc8 (dk_gs T x n) + 1 := fun x => (dk_dg_add (dk_gs_lt T x n) (by omega)).2
    unfold dk_w at i1 ⊢
    show dk_gw 0 (dk_gs T 0 (n + 1)) + dk_gw 1 (dk_gs T 1 (n + 1)) + dk_gw 2 (dk_gs T 2 (n + 1)) = dk_sm (fun q => if T q < 3 then 65536 + (3 - T q) * 4 ^ (7 - q) else 0) n + (if T n < 3 then 65536 + (3 - T n) * 4 ^ (7 - n) else 0) ∧ dk_bc8 (dk_gs T 0 (n + 1)) + dk_bc8 (dk_gs T 1 (n + 1)) + dk_bc8 (dk_gs T 2 (n + 1)) = dk_sm (fun q => if T q < 3 then 1 else 0) n + (if T n < 3 then 1 else 0)
    rw [dk_gs_s, dk_gs_s, dk_gs_s, ← i1, ← i2]
    rcases (show T n = 0 ∨ T n = 1 ∨ T n = 2 ∨ 3 ≤ T n by omega) with e | e | e | e
    · rw [e, if_pos rfl, if_neg (by omega), if_neg (by omega), if_pos (by omega), if_pos (by omega), g 0, b 0]
      simp only [Nat.add_zero]
      constructor <;> omega
    · rw [e, if_pos rfl, if_neg (by omega), if_neg (by omega), if_pos (by omega), if_pos (by omega), g 1, b 1]
      simp only [Nat.add_zero]
      constructor <;> omega
    · rw [e, if_pos rfl, if_neg (by omega), if_neg (by omega), if_pos (by omega), if_pos (by omega), g 2, b 2]
      simp only [Nat.add_zero]
      constructor <;> omega
    · rw [if_neg (show ¬ T n = 0 by omega), if_neg (show ¬ T n = 1 by omega), if_neg (show ¬ T n = 2 by omega), if_neg (show ¬ T n < 3 by omega), if_neg (show ¬ T n < 3 by omega)]
      constructor <;> simp only [Nat.add_zero]
theorem dk_sm8 (f : Nat → Nat) (n : Nat) : ∀ j, dk_sm (fun q => if q < n then f q else 0) (n + j) = dk_sm f n
  | 0 => dk_sm_congr n (fun i hi => if_pos hi)
  | j + 1 => by
    show dk_sm (fun q => if q < n then f q else 0) (n + j) + (if n + j < n then f (n + j) else 0) = _
    rw [dk_sm8 f n j, if_neg (by omega)]
    rfl
theorem dk_wrep {T : Nat → Nat} {n : Nat} (hn : n ≤ 8) (hT : ∀ q, q < n → T q ≤ 3) : dk_w (dk_gs T 0 n) (dk_gs T 1 n) (dk_gs T 2 n) / 65536 = dk_bc8 (dk_gs T 0 n) + dk_bc8 (dk_gs T 1 n) + dk_bc8 (dk_gs T 2 n) ∧ dk_w (dk_gs T 0 n) (dk_gs T 1 n) (dk_gs T 2 n) / 65536 ≤ 8 ∧ ∀ p, p < n → T p = 3 - dk_w (dk_gs T 0 n) (dk_gs T 1 n) (dk_gs T 2 n) / 4 ^ (7 - p) % 4 := by
  obtain ⟨e1, e2⟩ := dk_wgs (T := T) n hn
  have f1 := dk_sm8 (fun q => if T q < 3 then 65536 + (3 - T q) * 4 ^ (7 - q) else 0) n (8 - n)
  have f2 := dk_sm8 (fun q => if T q < 3 then 1 else 0) n (8 - n)
  rw [show n + (8 - n) = 8 by omega] at f1 f2
  rw [e1, e2, ← f1, ← f2]
  have key : ∀ q, ∃ k e, k ≤ 1 ∧ e ≤ 3 ∧ (if q < n then (if T q < 3 then 65536 + (3 - T q) * 4 ^ (7 - q) else 0) else 0) = k * 65536 + e * 4 ^ (7 - q) ∧ (if q < n then (if T q < 3 then 1 else 0) else 0) = k ∧ (q < n → e = 3 - T q) := by
    intro q
    by_cases h1 : q < n
    · by_cases h2 : T q < 3
      · exact ⟨1, 3 - T q, by omega, by omega, by rw [if_pos h1, if_pos h2, Nat.one_mul], by rw [if_pos h1, if_pos h2], fun _ => rfl⟩
      · exact ⟨0, 0, by omega, by omega, by rw [if_pos h1, if_neg h2]; omega, by rw [if_pos h1, if_neg h2], fun _ => by omega⟩
    · exact ⟨0, 0, by omega, by omega, by rw [if_neg h1]; omega, by rw [if_neg h1], fun z => absurd z h1⟩
  obtain ⟨k0, a0, x0, y0, z0, u0, w0⟩ := key 0
  obtain ⟨k1, a1, x1, y1, z1, u1, w1⟩ := key 1
  obtain ⟨k2, a2, x2, y2, z2, u2, w2⟩ := key 2
  obtain ⟨k3, a3, x3, y3, z3, u3, w3⟩ := key 3
  obtain ⟨k4, a4, x4, y4, z4, u4, w4⟩ := key 4
  obtain ⟨k5, a5, x5, y5, z5, u5, w5⟩ := key 5
  obtain ⟨k6, a6, x6, y6, z6, u6, w6⟩ := key 6
  obtain ⟨k7, a7, x7, y7, z7, u7, w7⟩ := key 7
  have s1 : dk_sm (fun q => if q < n then (if T q < 3 then 65536 + (3 - T q) * 4 ^ (7 - q) else 0) else 0) 8 = (k0 + k1 + k2 + k3 + k4 + k5 + k6 + k7) * 65536 + (a0 * 16384 + a1 * 4096 + a2 * 1024 + a3 * 256 + a4 * 64 + a5 * 16 + a6 * 4 + a7) := by
    simp only [dk_sm]
    rw [z0, z1, z2, z3, z4, z5, z6, z7]
    omega
  have s2 : dk_sm (fun q => if q < n then (if T q < 3 then 1 else 0) else 0) 8 = k0 + k1 + k2 + k3 + k4 + k5 + k6 + k7 := by
    simp only [dk_sm]
    rw [u0, u1, u2, u3, u4, u5, u6, u7]
    omega
  rw [s1, s2]
  clear z0 z1 z2 z3 z4 z5 z6 z7 u0 u1 u2 u3 u4 u5 u6 u7 e1 e2 f1 f2 s1 s2 key
  refine ⟨by omega, by omega, fun p hp => ?_⟩
  have ht := hT p hp
  rcases (show p = 0 ∨ p = 1 ∨ p = 2 ∨ p = 3 ∨ p = 4 ∨ p = 5 ∨ p = 6 ∨ p = 7 by omega) with rfl | rfl | rfl | rfl | rfl | rfl | rfl | rfl
  · have := w0 hp
    show T 0 = 3 - _ / 16384 % 4
    omega
  · have := w1 hp
    show T 1 = 3 - _ / 4096 % 4
    omega
  · have := w2 hp
    show T 2 = 3 - _ / 1024 % 4
    omega
  · have := w3 hp
    show T 3 = 3 - _ / 256 % 4
    omega
  · have := w4 hp
    show T 4 = 3 - _ / 64 % 4
    omega
  · have := w5 hp
    show T 5 = 3 - _ / 16 % 4
    omega
  · have := w6 hp
    show T 6 = 3 - _ / 4 % 4
    omega
  · have := w7 hp
    show T 7 = 3 - _ / 1 % 4
    omega
/-- what the reference holds of the plans it has met -/
def dk_rep (n : Nat) (A : hd_Mem) : Option (Nat × Nat) → Prop
  | none => A 67 8 = -1 ∧ A 67 9 = 0
  | some (b, k) => A 67 8 = nI (b / 65536) ∧ A 67 9 = nI k ∧ b / 65536 ≤ 8 ∧ ∀ p, p < n → A 74 p = nI (3 - b / 4 ^ (7 - p) % 4)
def dk_RT (up : Nat → Nat → Bool) (fin : Nat → Nat → Nat → Bool) (m p : Nat) (T : Nat → Nat) : List Nat := dk_R up fin m p (dk_gs T 0 p) (dk_gs T 1 p) (dk_gs T 2 p)
theorem dk_ldr_add {V : Nat → Int32} {g q : Nat} (hg : g < 2 ^ q) (hq : q < 8) : dk_ldr V (g + 2 ^ q) = (dk_ldr V g || decide (V (6 + q) = 2)) := by
  have key : dk_ldr V (g + 2 ^ q) = true ↔ (dk_ldr V g || decide (V (6 + q) = 2)) = true := by
    rw [Bool.or_eq_true, decide_eq_true_iff, dk_ldr_iff, dk_ldr_iff]
    constructor
    · rintro ⟨p, h1, h2, h3⟩
      rw [dk_tb_add hg, Bool.or_eq_true, decide_eq_true_iff] at h2
      rcases h2 with z | z
      · exact Or.inl ⟨p, h1, z, h3⟩
      · rw [z] at h3; exact Or.inr h3
    · rintro (⟨p, h1, h2, h3⟩ | h3)
      · exact ⟨p, h1, by rw [dk_tb_add hg, h2]; rfl, h3⟩
      · exact ⟨q, hq, by rw [dk_tb_add hg]; simp, h3⟩
  cases e1 : dk_ldr V (g + 2 ^ q) <;> cases e2 : (dk_ldr V g || decide (V (6 + q) = 2))
  · rfl
  · rw [key.mpr e2] at e1; exact e1.symm
  · rw [key.mp e1] at e2; exact e2
  · rfl
theorem dk_ldr0 (V : Nat → Int32) : dk_ldr V 0 = false := by
  cases h : dk_ldr V 0
  · rfl
  · obtain ⟨p, -, e, -⟩ := dk_ldr_iff.mp h
    simp at e
theorem dk_fo0 (s : Option (Nat × Nat)) : dk_fo s [] = s := by cases s <;> rfl
theorem dk_up_shut {V : Nat → Int32} {d l g : Nat} (hl : dk_nl V ≤ l) (h : dk_up V d l g = true) : g = 0 := by
  apply Classical.byContradiction
  intro q
  obtain ⟨i, hi⟩ := dk_ne0 q
  rw [dk_up_iff] at h
  have := h.2.1 i (dk_tb_hi h.1 hi) hi
  unfold dk_may dk_op at this
  rw [Bool.and_eq_true, Bool.and_eq_true, Bool.and_eq_true, Bool.and_eq_true, decide_eq_true_iff, decide_eq_true_iff] at this
  omega
theorem dk_end {Ls : Nat} {A : hd_Mem} {d : Nat} (h : dk_wf (A 68)) {T : Nat → Nat} (hT : ∀ q, q < dk_np (A 68) → A 75 q = nI (T q) ∧ T q ≤ 3) (hup : ∀ x, x < 3 → dk_up (A 68) d x (dk_gs T x (dk_np (A 68))) = true) {s : Option (Nat × Nat)} (hr : dk_rep (dk_np (A 68)) A s) :
    ∃ A', hd_Rt Ls M_ends [.ref 67] A none A' ∧ (∀ c, c ∉ [67, 74] → A' c = A c) ∧ (∀ j, j ≠ 8 → j ≠ 9 → A' 67 j = A 67 j) ∧ dk_rep (dk_np (A 68)) A' (dk_fo s (dk_RT (dk_up (A 68) d) (dk_fin (A 68)) 0 (dk_np (A 68)) T)) := by
  have hn := dk_wf_n h
  have h8 := hn.2.1
  have h3 := hn.2.2.2.1
  have e0 := hn.1
  have e1 := hn.2.2.1
  generalize hnn : dk_np (A 68) = n at *
  obtain ⟨wr1, wr2, wr3⟩ := dk_wrep (T := T) h8 (fun q hq => (hT q hq).2)
  have hg256 : ∀ l, dk_gs T l n < 256 := fun l => Nat.lt_of_lt_of_le (dk_gs_lt T l n) (dk_2p h8)
  have hE : hd_E Ls M_ends (0, [.ref 67, .null, .null, .null, .null, .null], [], A) (fun a A' => a = none ∧ (∀ c, c ∉ [67, 74] → A' c = A c) ∧ (∀ j, j ≠ 8 → j ≠ 9 → A' 67 j = A 67 j) ∧ dk_rep n A' (dk_fo s (dk_RT (dk_up (A 68) d) (dk_fin (A 68)) 0 n T))) := by
    refine b_M_ends_0 (hd_forP (dk_nl (A 68)) (fun l st => ∃ v3 v4 v5 : Value, st = (4, [.ref 67, .int (nI (dk_sm (fun l => dk_bc8 (dk_gs T l n)) l)), .int (nI l), v3, v4, v5], [], A) ∧ ∀ x, x < l → dk_eok (A 68) x (dk_gs T x n) = true) ?_ ?_ _ ⟨_, _, _, rfl, fun x hx => by omega⟩)
    · rintro l st hl ⟨v3, v4, v5, rfl, hok⟩ ih
      have c60 : ((60 : Int32) + nI l).toNatClampNeg = 60 + l := dk_ix (a := 60) (b := l) (by omega)
      have c63 : ((63 : Int32) + nI l).toNatClampNeg = 63 + l := dk_ix (a := 63) (b := l) (by omega)
      obtain ⟨-, -, -, w4, -, -, -⟩ := h.2.2.2.2.2.2.2.1 l hl
      obtain ⟨ls, hls, els⟩ := hd_in_of w4 (by omega)
      have hbc := dk_bc8_le (dk_gs T l n)
      have no : dk_eok (A 68) l (dk_gs T l n) = false → ∀ v1 v2 v3 v4 v5 : Value, hd_E Ls M_ends (133, [.ref 67, v1, v2, v3, v4, v5], [], A) (fun a A' => a = none ∧ (∀ c, c ∉ [67, 74] → A' c = A c) ∧ (∀ j, j ≠ 8 → j ≠ 9 → A' 67 j = A 67 j) ∧ dk_rep n A' (dk_fo s (dk_RT (dk_up (A 68) d) (dk_fin (A 68)) 0 n T))) := by
        intro hz v1 v2 v3 v4 v5
        refine b_M_ends_133 ⟨rfl, fun _ _ => rfl, fun _ _ _ => rfl, ?_⟩
        have hf : dk_fin (A 68) (dk_gs T 0 n) (dk_gs T 1 n) (dk_gs T 2 n) = false := by
          unfold dk_fin
          rcases (show l = 0 ∨ l = 1 ∨ l = 2 by omega) with rfl | rfl | rfl <;> rw [hz] <;> simp
        show dk_rep n A (dk_fo s (if dk_fin (A 68) (dk_gs T 0 n) (dk_gs T 1 n) (dk_gs T 2 n) then _ else []))
        rw [hf, if_neg (by decide), dk_fo0]
        exact hr
      have yes : dk_eok (A 68) l (dk_gs T l n) = true → ∀ v4 v5 : Value, hd_E Ls M_ends (134, [.ref 67, .int (nI (dk_sm (fun l => dk_bc8 (dk_gs T l n)) l)), .int (nI l), .int (nI (dk_bc8 (dk_gs T l n))), v4, v5], [], A) (fun a A' => a = none ∧ (∀ c, c ∉ [67, 74] → A' c = A c) ∧ (∀ j, j ≠ 8 → j ≠ 9 → A' 67 j = A 67 j) ∧ dk_rep n A' (dk_fo s (dk_RT (dk_up (A 68) d) (dk_fin (A 68)) 0 n T))) := by
        intro hz v4 v5
        refine b_M_ends_134 ?_
        rw [nI_add, nI_1]
        refine ih _ ⟨_, _, _, rfl, fun x hx => ?_⟩
        by_cases q : x < l
        · exact hok x q
        · rw [show x = l by omega]; exact hz
      have inn : ∀ x4 : Int32, x4 = (if dk_led (A 68) l (dk_gs T l 0) then 1 else 0) → hd_E Ls M_ends (38, [.ref 67, .int (nI (dk_sm (fun l => dk_bc8 (dk_gs T l n)) l)), .int (nI l), .int 0, .int x4, .int 0], [], A) (fun a A' => a = none ∧ (∀ c, c ∉ [67, 74] → A' c = A c) ∧ (∀ j, j ≠ 8 → j ≠ 9 → A' 67 j = A 67 j) ∧ dk_rep n A' (dk_fo s (dk_RT (dk_up (A 68) d) (dk_fin (A 68)) 0 n T))) := by
        intro x4 hx4
        refine hd_forP n (fun q st => ∃ x4 : Int32, st = (38, [.ref 67, .int (nI (dk_sm (fun l => dk_bc8 (dk_gs T l n)) l)), .int (nI l), .int (nI (dk_bc8 (dk_gs T l q))), .int x4, .int (nI q)], [], A) ∧ x4 = if dk_led (A 68) l (dk_gs T l q) then 1 else 0) ?_ ?_ _ ⟨x4, ?_, hx4⟩
        · rintro q st hq ⟨y, rfl, hy⟩ ih2
          obtain ⟨t1, t2⟩ := hT q hq
          have clq : (nI q).toNatClampNeg = q := nI_clamp (by omega)
          have c6 : ((6 : Int32) + nI q).toNatClampNeg = 6 + q := dk_ix (a := 6) (b := q) (by omega)
          have nxt : ∀ z : Int32, z = (if dk_led (A 68) l (dk_gs T l (q + 1)) then 1 else 0) → hd_E Ls M_ends (38, [.ref 67, .int (nI (dk_sm (fun l => dk_bc8 (dk_gs T l n)) l)), .int (nI l), .int (nI (dk_bc8 (dk_gs T l (q + 1)))), .int z, .int (nI (q + 1))], [], A) (fun a A' => a = none ∧ (∀ c, c ∉ [67, 74] → A' c = A c) ∧ (∀ j, j ≠ 8 → j ≠ 9 → A' 67 j = A 67 j) ∧ dk_rep n A' (dk_fo s (dk_RT (dk_up (A 68) d) (dk_fin (A 68)) 0 n T))) := fun z hz => ih2 _ ⟨z, rfl, hz⟩
          have hyz : ∀ b : Bool, y = (if b then 1 else 0) → (y = 0 ↔ b = false) := by
            intro b hb
            rw [hb]
            cases b <;> decide
          have hy0 := hyz _ hy
          refine b_M_ends_38 (fun z => absurd z (by rw [e0]; exact hd_nle hq (by omega))) (fun _ => b_M_ends_49 (hd_okR_n rfl (show q < 9 by omega) (by omega)) (fun c => ?_) (fun c => ?_))
          · rw [clq, t1, nI_eq (by omega) (by omega)] at c
            have hs : dk_bc8 (dk_gs T l (q + 1)) = dk_bc8 (dk_gs T l q) + 1 := by
              rw [dk_gs_s, if_pos c, (dk_dg_add (dk_gs_lt T l q) (by omega)).2]
            have hl2 : dk_led (A 68) l (dk_gs T l (q + 1)) = (dk_led (A 68) l (dk_gs T l q) || decide (A 68 (6 + q) = 2)) := by
              unfold dk_led
              rw [dk_gs_s, if_pos c, dk_ldr_add (dk_gs_lt T l q) (by omega), Bool.or_assoc]
            rw [hs, hl2] at nxt
            refine b_M_ends_61 (fun c1 => b_M_ends_73 (hd_okR_n rfl (show q < 9 by omega) (by omega)) (fun _ => b_M_ends_84 (dk_okR68 (q := 6) (by omega)) (fun c2 => b_M_ends_98 ?_) (fun c2 => b_M_ends_102 ?_)) (fun z => absurd (by rw [clq, t1, c]) z)) (fun c1 => b_M_ends_98 ?_)
            · rw [c6] at c2
              rw [nI_1, nI_1]
              exact nxt 1 (by rw [decide_eq_true c2, Bool.or_true]; rfl)
            · rw [c6] at c2
              rw [nI_1, nI_1]
              exact nxt 0 (by rw [hy0.mp c1, decide_eq_false c2]; rfl)
            · rw [nI_1, nI_1]
              refine nxt 1 ?_
              have : dk_led (A 68) l (dk_gs T l q) = true := by
                cases hz : dk_led (A 68) l (dk_gs T l q)
                · exact absurd (hy0.mpr hz) c1
                · rfl
              rw [this, Bool.true_or]
              rfl
          · rw [clq, t1, nI_eq (by omega) (by omega)] at c
            rw [dk_gs_s, if_neg c, Nat.add_zero] at nxt
            refine b_M_ends_65 (fun c1 => b_M_ends_73 (hd_okR_n rfl (show q < 9 by omega) (by omega)) (fun z => absurd (by rw [clq, t1, nI_eq (by omega) (by omega)] at z; exact z) c) (fun _ => b_M_ends_102 ?_)) (fun c1 => b_M_ends_98 ?_)
            · rw [Int32.add_zero, nI_1]
              exact nxt 0 (by rw [hy0.mp c1]; rfl)
            · rw [Int32.add_zero, nI_1]
              refine nxt 1 ?_
              have : dk_led (A 68) l (dk_gs T l q) = true := by
                cases hz : dk_led (A 68) l (dk_gs T l q)
                · exact absurd (hy0.mpr hz) c1
                · rfl
              rw [this]
              rfl
        · rintro st ⟨y, rfl, hy⟩
          refine b_M_ends_38 (fun _ => b_M_ends_111 (fun c => yes ?_ _ _) (fun c => b_M_ends_115 (dk_okR68 (q := 63) (by omega)) (fun c1 => no ?_ _ _ _ _ _) (fun c1 => b_M_ends_128 (fun c2 => no ?_ _ _ _ _ _) (fun c2 => yes ?_ _ _)))) (fun z => absurd (by rw [e0]; exact Int32.le_refl _) z)
          · have : dk_gs T l n = 0 := by
              apply Classical.byContradiction
              intro q
              exact absurd c (nI_nle (dk_bcp _ (hg256 l) q) (by omega))
            unfold dk_eok
            rw [this]
            simp
          · rw [c63, els, nI_ltI (by omega) (by omega)] at c1
            have hne : ¬ dk_gs T l n = 0 := fun q => c (by
              rw [q]
              decide)
            unfold dk_eok
            rw [els, nI_clamp (by omega), decide_eq_false (show ¬ dk_nl (A 68) ≤ l by omega), decide_eq_false hne, decide_eq_false (show ¬ ls ≤ dk_bc8 (dk_gs T l n) by omega)]
            rfl
          · have hne : ¬ dk_gs T l n = 0 := fun q => c (by
              rw [q]
              decide)
            have hl0 : dk_led (A 68) l (dk_gs T l n) = false := by
              cases hz : dk_led (A 68) l (dk_gs T l n)
              · rfl
              · rw [hy, hz] at c2; exact absurd c2 (by decide)
            unfold dk_eok
            rw [decide_eq_false (show ¬ dk_nl (A 68) ≤ l by omega), decide_eq_false hne, hl0]
            simp
          · rw [c63, els, nI_ltI (by omega) (by omega)] at c1
            have hl0 : dk_led (A 68) l (dk_gs T l n) = true := by
              cases hz : dk_led (A 68) l (dk_gs T l n)
              · rw [hy, hz] at c2; exact absurd rfl c2
              · rfl
            unfold dk_eok
            rw [els, nI_clamp (by omega), decide_eq_true (show ls ≤ dk_bc8 (dk_gs T l n) by omega), hl0]
            simp
        · have : dk_bc8 (dk_gs T l 0) = 0 := by
            show dk_bc8 0 = 0
            decide
          rw [this]
          rfl
      refine b_M_ends_4 (fun z => absurd z (by rw [e1]; exact hd_nle hl (by omega))) (fun _ => b_M_ends_14 (dk_okR68 (q := 60) (by omega)) (fun c => b_M_ends_28 (inn 1 ?_)) (fun c => b_M_ends_32 (inn 0 ?_)))
      · rw [c60] at c
        unfold dk_led
        rw [decide_eq_true c]
        rfl
      · rw [c60] at c
        show (0 : Int32) = if dk_led (A 68) l 0 then 1 else 0
        unfold dk_led
        rw [decide_eq_false c, dk_ldr0]
        rfl
    · rintro st ⟨v3, v4, v5, rfl, hok⟩
      have hall : ∀ x, x < 3 → dk_eok (A 68) x (dk_gs T x n) = true := by
        intro x hx
        by_cases q : x < dk_nl (A 68)
        · exact hok x q
        · unfold dk_eok
          rw [decide_eq_true (show dk_nl (A 68) ≤ x by omega)]
          rfl
      have hf : dk_fin (A 68) (dk_gs T 0 n) (dk_gs T 1 n) (dk_gs T 2 n) = true := by
        unfold dk_fin
        rw [hall 0 (by omega), hall 1 (by omega), hall 2 (by omega)]
        rfl
      have hRT : dk_RT (dk_up (A 68) d) (dk_fin (A 68)) 0 n T = [dk_w (dk_gs T 0 n) (dk_gs T 1 n) (dk_gs T 2 n)] := by
        show (if dk_fin (A 68) (dk_gs T 0 n) (dk_gs T 1 n) (dk_gs T 2 n) then _ else []) = _
        rw [hf, if_pos rfl]
      have hb0 : dk_bc8 0 = 0 := by decide
      have hz : ∀ x, dk_nl (A 68) ≤ x → x < 3 → dk_bc8 (dk_gs T x n) = 0 := fun x h1 h2 => by rw [dk_up_shut h1 (hup x h2), hb0]
      have ht : dk_sm (fun l => dk_bc8 (dk_gs T l n)) (dk_nl (A 68)) = dk_w (dk_gs T 0 n) (dk_gs T 1 n) (dk_gs T 2 n) / 65536 := by
        rw [wr1]
        have a0 := hz 0
        have a1 := hz 1
        have a2 := hz 2
        generalize dk_nl (A 68) = nl at *
        rcases (show nl = 0 ∨ nl = 1 ∨ nl = 2 ∨ nl = 3 by omega) with rfl | rfl | rfl | rfl
        · rw [a0 (by omega) (by omega), a1 (by omega) (by omega), a2 (by omega) (by omega)]; rfl
        · rw [a1 (by omega) (by omega), a2 (by omega) (by omega)]
          show 0 + dk_bc8 (dk_gs T 0 n) = _
          omega
        · rw [a2 (by omega) (by omega)]
          show 0 + dk_bc8 (dk_gs T 0 n) + dk_bc8 (dk_gs T 1 n) = _
          omega
        · show 0 + dk_bc8 (dk_gs T 0 n) + dk_bc8 (dk_gs T 1 n) + dk_bc8 (dk_gs T 2 n) = _
          omega
      rw [ht, hRT]
      generalize dk_w (dk_gs T 0 n) (dk_gs T 1 n) (dk_gs T 2 n) = w at *
      -- a better one
      have new : dk_fo s [w] = some (w, 1) → ∀ v2 v3 v4 v5 : Value, hd_E Ls M_ends (152, [.ref 67, .int (nI (w / 65536)), v2, v3, v4, v5], [], A) (fun a A' => a = none ∧ (∀ c, c ∉ [67, 74] → A' c = A c) ∧ (∀ j, j ≠ 8 → j ≠ 9 → A' 67 j = A 67 j) ∧ dk_rep n A' (dk_fo s [w])) := by
        intro hs v2 v3 v4 v5
        refine b_M_ends_152 (hd_forP n (fun q st => ∃ K : hd_Mem, st = (164, [.ref 67, .int (nI (w / 65536)), .int (nI q), v3, v4, v5], [], K) ∧ (∀ c, c ≠ 74 → K c = hd_set (hd_set A 67 8 (nI (w / 65536))) 67 9 0 c) ∧ ∀ p, p < q → K 74 p = nI (T p)) ?_ ?_ _ ⟨_, rfl, fun _ _ => rfl, fun p hp => by omega⟩)
        · rintro q st hq ⟨K, rfl, k1, k2⟩ ih2
          have clq : (nI q).toNatClampNeg = q := nI_clamp (by omega)
          have k68 : K 68 = A 68 := by rw [k1 68 (by decide), hd_set_ne (by decide), hd_set_ne (by decide)]
          have k75 : K 75 = A 75 := by rw [k1 75 (by decide), hd_set_ne (by decide), hd_set_ne (by decide)]
          refine b_M_ends_164 (fun z => absurd z (by rw [k68, e0]; exact hd_nle hq (by omega))) (fun _ => b_M_ends_174 (hd_okR_n rfl (show q < 9 by omega) (by omega)) (hd_okW_n (by decide) rfl (show q < 8 by omega) (by omega)) ?_)
          rw [clq, nI_1]
          refine ih2 _ ⟨_, rfl, fun c hc => by rw [hd_set_ne hc]; exact k1 c hc, fun p hp => ?_⟩
          by_cases y : p = q
          · subst y
            rw [hd_set_at, k75]
            exact (hT p hq).1
          · rw [hd_set_nj y]
            exact k2 p (by omega)
        · rintro st ⟨K, rfl, k1, k2⟩
          have k68 : K 68 = A 68 := by rw [k1 68 (by decide), hd_set_ne (by decide), hd_set_ne (by decide)]
          have k678 : K 67 8 = nI (w / 65536) := by rw [k1 67 (by decide), hd_set_nj (by decide), hd_set_at]
          have k679 : K 67 9 = 0 := by rw [k1 67 (by decide), hd_set_at]
          refine b_M_ends_164 (fun _ => b_M_ends_192 (fun _ => b_M_ends_205 ⟨rfl, fun c hc => ?_, fun j j8 j9 => ?_, ?_⟩) (fun z => absurd k678.symm z)) (fun z => absurd (by rw [k68, e0]; exact Int32.le_refl _) z)
          · have c67 : c ≠ 67 := by rintro rfl; simp at hc
            rw [hd_set_ne c67, k1 c (by rintro rfl; simp at hc), hd_set_ne c67, hd_set_ne c67]
          · rw [hd_set_nj j9, k1 67 (by decide), hd_set_nj j9, hd_set_nj j8]
          · rw [hs]
            refine ⟨by rw [hd_set_nj (by decide)]; exact k678, ?_, wr2, fun p hp => ?_⟩
            · rw [hd_set_at, k679]
              rfl
            · rw [hd_set_nk (by decide), k2 p hp, ← wr3 p hp]
      match s, hr with
      | none, hr =>
        refine b_M_ends_4 (fun _ => b_M_ends_144 (fun c => ?_) (fun c => new rfl _ _ _ _)) (fun z => absurd (by rw [e1]; exact Int32.le_refl _) z)
        rw [hr.1, Int32.le_iff_toInt_le, nI_toInt (by omega)] at c
        exact absurd c (by
          rw [show (-1 : Int32).toInt = -1 from rfl]
          omega)
      | some (b, k), hr =>
        obtain ⟨r1, r2, r3, r4⟩ := hr
        have hfo : dk_fo (some (b, k)) [w] = (if b / 65536 < w / 65536 then some (w, 1) else if b / 65536 = w / 65536 then some (b, k + 1) else some (b, k)) := dk_fo0 _
        refine b_M_ends_4 (fun _ => b_M_ends_144 (fun c => b_M_ends_192 (fun c1 => b_M_ends_205 ⟨rfl, fun c hc => ?_, fun j j8 j9 => ?_, ?_⟩) (fun c1 => b_M_ends_209 ⟨rfl, fun c hc => ?_, fun j j8 j9 => ?_, ?_⟩)) (fun c => new ?_ _ _ _ _)) (fun z => absurd (by rw [e1]; exact Int32.le_refl _) z)
        · rw [hd_set_ne (by rintro rfl; simp at hc)]
        · rw [hd_set_nj j9]
        · rw [r1, nI_eq (by omega) (by omega)] at c1
          rw [hfo, if_neg (by omega), if_pos c1.symm]
          refine ⟨by rw [hd_set_nj (by decide)]; exact r1, ?_, r3, fun p hp => by rw [hd_set_nk (by decide)]; exact r4 p hp⟩
          rw [hd_set_at, r2, nI_1]
        · rw [hd_set_ne (by rintro rfl; simp at hc)]
        · rw [hd_set_nj j9]
        · rw [r1, nI_eq (by omega) (by omega)] at c1
          rw [r1, nI_leI (by omega) (by omega)] at c
          rw [hfo, if_neg (by omega), if_neg (fun y => c1 y.symm)]
          refine ⟨by rw [hd_set_nj (by decide)]; exact r1, ?_, r3, fun p hp => by rw [hd_set_nk (by decide)]; exact r4 p hp⟩
          rw [hd_set_at, r2, Int32.add_zero]
        · rw [r1, nI_leI (by omega) (by omega)] at c
          rw [hfo, if_pos (by omega)]
  obtain ⟨v, M', ⟨q1, q2⟩, q3⟩ := hd_E_det hE
  subst q1
  exact ⟨M', e_M_ends q3, q2⟩
