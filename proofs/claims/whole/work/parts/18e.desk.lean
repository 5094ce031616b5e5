/-! the desk's plan of a day: its steps -/
theorem dk_hb0 {x : Int32} {q : Nat} : f_D_hasBit x (nI q) = 0 ↔ dk_hb x q = false := by
  unfold f_D_hasBit dk_hb
  by_cases h : (x >>> (nI q &&& 31)) &&& 1 = 0
  · simp [h]
  · simp [h]
theorem dk_dcom {Ls : Nat} {M : hd_Mem} (h : dk_dq M) {d : Nat} (hd : d < 365) : hd_Rt Ls D_comingOn [.ref 0, .int (nI d), .int (nI (d % 7))] M (some (.int (nI (dk_C (hd_dv M) d)))) M := by
  have hn := dk_wf_n h.1
  have e1 : M 1 6 = nI (dk_np (hd_dv M)) := by rw [← hd_dv_0 M]; exact hn.1
  have h8 := hn.2.1
  refine e_D_comingOn (b_D_comingOn_0 (hd_forP (dk_np (hd_dv M)) (fun i s => s = (5, [.ref 0, .int (nI d), .int (nI (d % 7)), .int (nI (dk_st (dk_cm (hd_dv M) d) i)), .int (nI i)], [], M)) ?_ ?_ _ rfl))
  · rintro i s hi rfl ih
    have e10 : M 10 i = hd_dv M (22 + i) := (hd_dvA 10 (by simp) (show i < 8 by omega)).symm
    have no : dk_cm (hd_dv M) d i = false → hd_E Ls D_comingOn (54, [.ref 0, .int (nI d), .int (nI (d % 7)), .int (nI (dk_st (dk_cm (hd_dv M) d) i)), .int (nI i)], [], M) (fun a b => a = some (.int (nI (dk_C (hd_dv M) d))) ∧ b = M) := by
      intro hc
      refine b_D_comingOn_54 (ih _ ?_)
      show _ = ((5, [.ref 0, .int (nI d), .int (nI (d % 7)), .int (nI (dk_st (dk_cm (hd_dv M) d) i + (if dk_cm (hd_dv M) d i then 2 ^ i else 0))), .int (nI (i + 1))], [], M) : hd_S)
      rw [hc, if_neg (by decide), nI_1, Nat.add_zero (dk_st (dk_cm (hd_dv M) d) i)]
    refine b_D_comingOn_5 (fun z => absurd z (by rw [e1]; exact hd_nle hi (by omega))) (fun _ => b_D_comingOn_17 (hd_okR_n rfl (show i < 8 by omega) (by omega)) s_D_hasBit (b_D_comingOn_31 (fun q => no ?_) (fun q => b_D_comingOn_34 (dk_ddone h hi (show d ≤ 365 by omega) (nI d)) (b_D_comingOn_44 (fun q2 => b_D_comingOn_47 ?_) (fun q2 => no ?_)))))
    · rw [nI_clamp (show i < 2 ^ 31 by omega), e10, dk_hb0] at q
      unfold dk_cm
      rw [q]; rfl
    · rw [nI_clamp (show i < 2 ^ 31 by omega), e10, dk_hb0] at q
      have hlt : dk_ct (hd_dv M) i (nI d) d < dk_o60 (hd_dv M) i := by
        by_cases z : dk_ct (hd_dv M) i (nI d) d < dk_o60 (hd_dv M) i
        · exact z
        · rw [if_neg z] at q2; exact absurd q2 (by decide)
      have hc : dk_cm (hd_dv M) d i = true := by
        unfold dk_cm
        rw [decide_eq_true hlt, Bool.and_true]
        simpa using q
      rw [dk_orN i (by omega) _ (dk_st_lt _ _)]
      refine ih _ ?_
      show _ = ((5, [.ref 0, .int (nI d), .int (nI (d % 7)), .int (nI (dk_st (dk_cm (hd_dv M) d) i + (if dk_cm (hd_dv M) d i then 2 ^ i else 0))), .int (nI (i + 1))], [], M) : hd_S)
      rw [hc, if_pos rfl, nI_1]
    · have hlt : ¬ dk_ct (hd_dv M) i (nI d) d < dk_o60 (hd_dv M) i := fun z => q2 (by rw [if_pos z])
      unfold dk_cm
      rw [decide_eq_false hlt, Bool.and_false]
  · rintro s rfl
    exact b_D_comingOn_5 (fun _ => b_D_comingOn_60 ⟨rfl, rfl⟩) (fun z => absurd (by rw [e1]; exact Int32.le_refl _) z)
/-- bars of a set with one more -/
theorem dk_brN {V : Nat → Int32} (hB : dk_wfB V) {p : Nat} (hp : p < 8) : ∃ b, b < 256 ∧ V (46 + p) = nI b ∧ ∀ q, q < 8 → dk_br V p q = b.testBit q := by
  obtain ⟨b, hb, eb⟩ := hd_in_of (hB p hp).1 (by omega)
  refine ⟨b, hb, eb, fun q hq => ?_⟩
  unfold dk_br dk_hb
  rw [eb, dk_bitN b hb q hq]
  cases b.testBit q <;> decide
theorem dk_br_sym {V : Nat → Int32} (hB : dk_wfB V) {p q : Nat} (hp : p < 8) (hq : q < 8) (h : dk_br V p q = true) : dk_br V q p = true ∧ p ≠ q := by
  have h1 : dk_bit (V (46 + p)) q := by
    unfold dk_br dk_hb at h
    rw [decide_eq_true_iff] at h
    exact h
  have h2 := (hB p hp).2 q hq h1
  refine ⟨?_, h2.1⟩
  have h3 := h2.2.2.2
  unfold dk_bit at h3
  unfold dk_br dk_hb
  exact decide_eq_true h3
theorem dk_bars_add {V : Nat → Int32} (hB : dk_wfB V) {e p : Nat} (hp : p < 8) (he : e < 2 ^ p) : dk_bars V (e + 2 ^ p) = (dk_bars V e || decide (¬ V (46 + p) &&& nI e = 0)) := by
  have he8 : e < 256 := Nat.lt_of_lt_of_le he (Nat.pow_le_pow_right (n := 2) (j := 8) (by omega) (by omega))
  obtain ⟨b, hb, eb, hbr⟩ := dk_brN hB hp
  have hiff : (¬ V (46 + p) &&& nI e = 0) ↔ ∃ q, q < 8 ∧ e.testBit q = true ∧ dk_br V p q = true := by
    rw [eb, dk_and0 hb he8]
    constructor
    · intro hn
      apply Classical.byContradiction
      intro hx
      exact hn (fun i hi z => hx ⟨i, hi, z.2, by rw [hbr i hi]; exact z.1⟩)
    · rintro ⟨q, hq, a1, a2⟩ hn
      rw [hbr q hq] at a2
      exact hn q hq ⟨a2, a1⟩
  have key : dk_bars V (e + 2 ^ p) = true ↔ (dk_bars V e || decide (¬ V (46 + p) &&& nI e = 0)) = true := by
    rw [Bool.or_eq_true, decide_eq_true_iff, hiff, dk_bars_iff, dk_bars_iff]
    constructor
    · rintro ⟨x, y, hx, hy, t1, t2, t3⟩
      rw [dk_tb_add he, Bool.or_eq_true, decide_eq_true_iff] at t1 t2
      rcases t1 with t1 | rfl
      · rcases t2 with t2 | rfl
        · exact Or.inl ⟨x, y, hx, hy, t1, t2, t3⟩
        · exact Or.inr ⟨x, hx, t1, (dk_br_sym hB hx hy t3).1⟩
      · rcases t2 with t2 | rfl
        · exact Or.inr ⟨y, hy, t2, t3⟩
        · exact absurd rfl (dk_br_sym hB hx hx t3).2
    · rintro (⟨x, y, hx, hy, t1, t2, t3⟩ | ⟨q, hq, t1, t2⟩)
      · exact ⟨x, y, hx, hy, by rw [dk_tb_add he, t1]; rfl, by rw [dk_tb_add he, t2]; rfl, t3⟩
      · exact ⟨p, q, hp, hq, by rw [dk_tb_add he]; simp, by rw [dk_tb_add he, t1]; rfl, t2⟩
  cases e1 : dk_bars V (e + 2 ^ p) <;> cases e2 : (dk_bars V e || decide (¬ V (46 + p) &&& nI e = 0))
  · rfl
  · rw [key.mpr e2] at e1; exact e1.symm
  · rw [key.mp e1] at e2; exact e2
  · rfl
theorem dk_bars0 (V : Nat → Int32) : dk_bars V 0 = false := by
  cases h : dk_bars V 0
  · rfl
  · obtain ⟨p, q, -, -, e, -⟩ := dk_bars_iff.mp h
    simp at e
theorem dk_beg13 (K : hd_Mem) (x1 x2 : Int32) : ∀ i, i ≤ 256 → (∀ c, c ≠ 65 → c ≠ 66 → a_Pn_begin_13 K x1 x2 i c = K c) ∧ ∀ s, s < i → a_Pn_begin_13 K x1 x2 i 65 s = 0 ∧ a_Pn_begin_13 K x1 x2 i 66 s = 1
  | 0, _ => ⟨fun _ _ _ => rfl, fun s hs => by omega⟩
  | i + 1, hi => by
    obtain ⟨h1, h2⟩ := dk_beg13 K x1 x2 i (by omega)
    show (∀ c, c ≠ 65 → c ≠ 66 → t_Pn_begin_13 (a_Pn_begin_13 K x1 x2 i) x1 x2 (nI i) c = K c) ∧ ∀ s, s < i + 1 → t_Pn_begin_13 (a_Pn_begin_13 K x1 x2 i) x1 x2 (nI i) 65 s = 0 ∧ t_Pn_begin_13 (a_Pn_begin_13 K x1 x2 i) x1 x2 (nI i) 66 s = 1
    generalize a_Pn_begin_13 K x1 x2 i = A at h1 h2
    unfold t_Pn_begin_13
    rw [nI_clamp (show i < 2 ^ 31 by omega)]
    refine ⟨fun c a b => by rw [hd_set_ne b, hd_set_ne a, h1 c a b], fun s hs => ?_⟩
    by_cases q : s = i
    · subst q
      simp [hd_set]
    · have := h2 s (by omega)
      simp [hd_set, q, this]
theorem dk_beg62 {V : Nat → Int32} (hB : dk_wfB V) {p : Nat} (hp : p < 8) {B : hd_Mem} (h13 : B 13 p = V (46 + p)) (hb : ∀ s, s < 2 ^ p → B 63 s = if dk_bars V s then 1 else 0) (x1 x2 : Int32) : ∀ e, e ≤ 2 ^ p → (∀ c, c ≠ 63 → a_Pn_begin_62 B x1 x2 (nI p) (nI (2 ^ p)) e c = B c) ∧ ∀ s, s < e + 2 ^ p → a_Pn_begin_62 B x1 x2 (nI p) (nI (2 ^ p)) e 63 s = if dk_bars V s then 1 else 0
  | 0, _ => ⟨fun _ _ => rfl, fun s hs => hb s (by omega)⟩
  | e + 1, he => by
    have h8 : 2 ^ p ≤ 128 := Nat.pow_le_pow_right (n := 2) (j := 7) (by omega) (by omega)
    obtain ⟨h1, h2⟩ := dk_beg62 hB hp h13 hb x1 x2 e (by omega)
    show (∀ c, c ≠ 63 → t_Pn_begin_62 (a_Pn_begin_62 B x1 x2 (nI p) (nI (2 ^ p)) e) x1 x2 (nI p) (nI (2 ^ p)) (nI e) c = B c) ∧ ∀ s, s < e + 1 + 2 ^ p → t_Pn_begin_62 (a_Pn_begin_62 B x1 x2 (nI p) (nI (2 ^ p)) e) x1 x2 (nI p) (nI (2 ^ p)) (nI e) 63 s = if dk_bars V s then 1 else 0
    generalize a_Pn_begin_62 B x1 x2 (nI p) (nI (2 ^ p)) e = A at h1 h2
    have hix : (nI (2 ^ p) ||| nI e).toNatClampNeg = e + 2 ^ p := by
      rw [← dk_shN p hp, dk_orN2 p hp e (by omega), nI_clamp (by omega)]
    unfold t_Pn_begin_62
    rw [hix, nI_clamp (show e < 2 ^ 31 by omega), nI_clamp (show p < 2 ^ 31 by omega), h1 13 (by decide), h13, h2 e (by omega)]
    have hadd := dk_bars_add hB hp (show e < 2 ^ p by omega)
    have fin : ∀ x : Int32, x = (if dk_bars V (e + 2 ^ p) then 1 else 0) → (∀ c, c ≠ 63 → hd_set A 63 (e + 2 ^ p) x c = B c) ∧ ∀ s, s < e + 1 + 2 ^ p → hd_set A 63 (e + 2 ^ p) x 63 s = if dk_bars V s then 1 else 0 := by
      intro x hx
      refine ⟨fun c hc => by rw [hd_set_ne hc, h1 c hc], fun s hs => ?_⟩
      by_cases q : s = e + 2 ^ p
      · subst q
        rw [hd_set_at, hx]
      · rw [hd_set_nj q]
        exact h2 s (by omega)
    by_cases q1 : dk_bars V e = true
    · rw [q1, if_pos (rfl : true = true), if_neg (by decide)]
      exact fin 1 (by rw [hadd, q1]; rfl)
    · have q1' : dk_bars V e = false := by simpa using q1
      rw [q1', if_neg (by decide : ¬ (false = true)), if_pos (rfl : (0 : Int32) = 0)]
      by_cases q2 : V (46 + p) &&& nI e = 0
      · rw [if_pos q2]
        exact fin 0 (by rw [hadd, q1', q2]; rfl)
      · rw [if_neg q2]
        exact fin 1 (by rw [hadd, q1', decide_eq_true q2]; rfl)
theorem dk_beg46 {V : Nat → Int32} (hB : dk_wfB V) {A : hd_Mem} (h13 : ∀ p, p < 8 → A 13 p = V (46 + p)) (h0 : A 63 0 = 0) (x1 x2 : Int32) : ∀ i, i ≤ 8 → (∀ c, c ≠ 63 → a_Pn_begin_46 A x1 x2 i c = A c) ∧ ∀ s, s < 2 ^ i → a_Pn_begin_46 A x1 x2 i 63 s = if dk_bars V s then 1 else 0
  | 0, _ => ⟨fun _ _ => rfl, fun s hs => by
      have : s = 0 := by omega
      subst this
      rw [dk_bars0, if_neg (by decide)]
      exact h0⟩
  | i + 1, hi => by
    obtain ⟨h1, h2⟩ := dk_beg46 hB h13 h0 x1 x2 i (by omega)
    show (∀ c, c ≠ 63 → t_Pn_begin_46 (a_Pn_begin_46 A x1 x2 i) x1 x2 (nI i) c = A c) ∧ ∀ s, s < 2 ^ (i + 1) → t_Pn_begin_46 (a_Pn_begin_46 A x1 x2 i) x1 x2 (nI i) 63 s = if dk_bars V s then 1 else 0
    have e : 2 ^ (i + 1) = 2 ^ i + 2 ^ i := by rw [Nat.pow_succ]; omega
    have h8 : 2 ^ i ≤ 128 := Nat.pow_le_pow_right (n := 2) (j := 7) (by omega) (by omega)
    unfold t_Pn_begin_46
    rw [dk_shN i (by omega), nI_clamp (show 2 ^ i < 2 ^ 31 by omega)]
    obtain ⟨k1, k2⟩ := dk_beg62 hB (show i < 8 by omega) (B := a_Pn_begin_46 A x1 x2 i) (by rw [h1 13 (by decide)]; exact h13 i (by omega)) h2 x1 x2 (2 ^ i) (Nat.le_refl _)
    exact ⟨fun c hc => by rw [k1 c hc, h1 c hc], fun s hs => k2 s (by omega)⟩
theorem dk_beg {Ls : Nat} {M : hd_Mem} {V : Nat → Int32} (hB : dk_wfB V) (h13 : ∀ p, p < 8 → M 13 p = V (46 + p)) (h0 : M 63 0 = 0) (x1 x2 : Int32) : ∃ M', hd_Rt Ls Pn_begin [.ref 7, .int x1, .int x2, .ref 13] M none M' ∧ (∀ c, c ∉ [7, 63, 65, 66] → M' c = M c) ∧ (M' 7 0 = x1 ∧ M' 7 3 = x2) ∧ ∀ s, s < 256 → M' 65 s = 0 ∧ M' 66 s = 1 ∧ M' 63 s = if dk_bars V s then 1 else 0 := by
  have hK : ∀ c, c ≠ 7 → (hd_set (hd_set M 7 0 x1) 7 3 x2) c = M c := fun c hc => by rw [hd_set_ne hc, hd_set_ne hc]
  have key1 := dk_beg13 (hd_set (hd_set M 7 0 x1) 7 3 x2) x1 x2
  obtain ⟨a1, a2⟩ := key1 256 (Nat.le_refl _)
  have A13 : ∀ p, p < 8 → a_Pn_begin_13 (hd_set (hd_set M 7 0 x1) 7 3 x2) x1 x2 256 13 p = V (46 + p) := fun p hp => by rw [a1 13 (by decide) (by decide), hK 13 (by decide)]; exact h13 p hp
  have A0 : a_Pn_begin_13 (hd_set (hd_set M 7 0 x1) 7 3 x2) x1 x2 256 63 0 = 0 := by rw [a1 63 (by decide) (by decide), hK 63 (by decide)]; exact h0
  have key2 := dk_beg46 hB A13 A0 x1 x2
  obtain ⟨b1, b2⟩ := key2 8 (Nat.le_refl _)
  refine ⟨_, s_Pn_begin ⟨⟨by omega, fun _ _ => rfl, fun i hi => ⟨hd_okW_n (by decide) rfl hi (by omega), hd_okW_n (by decide) rfl hi (by omega)⟩⟩, ⟨by omega, fun _ _ => rfl, fun i hi => ?_⟩⟩, ?_, ?_, ?_⟩
  · have h8 : 2 ^ i ≤ 128 := Nat.pow_le_pow_right (n := 2) (j := 7) (by omega) (by omega)
    unfold gb_Pn_begin_46
    rw [dk_shN i hi, nI_clamp (show 2 ^ i < 2 ^ 31 by omega)]
    refine ⟨by omega, fun _ _ => rfl, fun e he => ?_⟩
    have ok : hd_okZ 63 (nI (2 ^ i) ||| nI e) := by
      rw [← dk_shN i hi, dk_orN2 i hi e he]
      exact hd_okZ_n (by decide) rfl (show e + 2 ^ i < 256 by omega) (by omega)
    exact ⟨hd_okZ_n (by decide) rfl (show e < 256 by omega) (by omega), fun _ => ⟨hd_okR_n rfl hi (by omega), fun _ => ok, fun _ => ok⟩, fun _ => ok⟩
  · intro c hc
    unfold f_Pn_begin
    rw [b1 c (by rintro rfl; simp at hc), a1 c (by rintro rfl; simp at hc) (by rintro rfl; simp at hc), hK c (by rintro rfl; simp at hc)]
  · unfold f_Pn_begin
    rw [b1 7 (by decide), a1 7 (by decide) (by decide)]
    simp [hd_set]
  · intro s hs
    unfold f_Pn_begin
    rw [b1 65 (by decide), b1 66 (by decide)]
    exact ⟨(a2 s hs).1, (a2 s hs).2, b2 s hs⟩
theorem dk_skl {Ls : Nat} {X : hd_Mem} {V : Nat → Int32} {n : Nat} (hn : n ≤ 8) (e1 : X 1 6 = nI n) (h11 : ∀ p, p < n → X 11 p = V (30 + p)) {l : Nat} : hd_Rt Ls Pe_withSkills [.ref 1, .int (V (57 + l))] X (some (.int (nI (dk_st (dk_ab V l) n)))) X := by
  have key : ∀ i, i ≤ n → a_Pe_withSkills_4 X (V (57 + l)) 0 i = nI (dk_st (dk_ab V l) i) := by
    intro i
    induction i with
    | zero => intro _; rfl
    | succ i ih =>
      intro hi
      show t_Pe_withSkills_4 X (V (57 + l)) (a_Pe_withSkills_4 X (V (57 + l)) 0 i) (nI i) = nI (dk_st (dk_ab V l) i + (if dk_ab V l i then 2 ^ i else 0))
      rw [ih (by omega)]
      unfold t_Pe_withSkills_4
      rw [nI_clamp (show i < 2 ^ 31 by omega), h11 i (by omega)]
      by_cases q : V (57 + l) &&& (V (30 + i) ^^^ (-1 : Int32)) = 0
      · rw [if_pos q, if_pos (show dk_ab V l i = true from decide_eq_true q), dk_orN i (by omega) _ (dk_st_lt _ _)]
      · rw [if_neg q, if_neg (show ¬ dk_ab V l i = true from fun z => q (of_decide_eq_true z))]
        rfl
  have ecl : (X 1 6).toNatClampNeg = n := by rw [e1]; exact nI_clamp (by omega)
  have hs := s_Pe_withSkills (Ls := Ls) (M := X) (x1 := V (57 + l)) (by
    unfold g_Pe_withSkills
    rw [ecl]
    exact ⟨by omega, fun _ _ => e1, fun i hi => hd_okR_n rfl (show i < 8 by omega) (by omega)⟩)
  unfold f_Pe_withSkills at hs
  rw [ecl, key n (Nat.le_refl _)] at hs
  exact hs
theorem dk_kd2 : ∀ k, k < 4 → (f_D_hasBit (hd_ks k) 2 = 0 ↔ ¬ nI k = 2) := by decide +kernel
theorem dk_knd {Ls : Nat} {X : hd_Mem} {V : Nat → Int32} {n : Nat} (hn : n ≤ 8) (e1 : X 1 6 = nI n) (h8 : ∀ p, p < n → X 8 p = V (6 + p)) (hk : ∀ p, p < n → hd_in (V (6 + p)) 4) (h79 : X 79 = hd_ks) : hd_Rt Ls Pe_ofKind [.ref 1, .int 2] X (some (.int (nI (dk_st (fun p => decide (V (6 + p) = 2)) n)))) X := by
  have key : ∀ i, i ≤ n → a_Pe_ofKind_4 X 2 0 i = nI (dk_st (fun p => decide (V (6 + p) = 2)) i) := by
    intro i
    induction i with
    | zero => intro _; rfl
    | succ i ih =>
      intro hi
      show t_Pe_ofKind_4 X 2 (a_Pe_ofKind_4 X 2 0 i) (nI i) = nI (dk_st (fun p => decide (V (6 + p) = 2)) i + (if decide (V (6 + i) = 2) then 2 ^ i else 0))
      rw [ih (by omega)]
      unfold t_Pe_ofKind_4 f_Pe_isOfKind
      obtain ⟨z, hz, ez⟩ := hd_in_of (hk i (by omega)) (by omega)
      rw [nI_clamp (show i < 2 ^ 31 by omega), h8 i (by omega), ez, nI_clamp (show z < 2 ^ 31 by omega), h79]
      by_cases q : f_D_hasBit (hd_ks z) 2 = 0
      · rw [if_pos q, if_neg (by rw [decide_eq_true_iff]; exact (dk_kd2 z hz).mp q)]
        rfl
      · rw [if_neg q, if_pos (by rw [decide_eq_true_iff]; exact Classical.byContradiction (fun y => q ((dk_kd2 z hz).mpr y))), dk_orN i (by omega) _ (dk_st_lt _ _)]
  have ecl : (X 1 6).toNatClampNeg = n := by rw [e1]; exact nI_clamp (by omega)
  have hs := s_Pe_ofKind (Ls := Ls) (M := X) (x1 := 2) (by
    unfold g_Pe_ofKind
    rw [ecl]
    refine ⟨by omega, fun _ _ => e1, fun i hi => ⟨hd_okR_n rfl (show i < 8 by omega) (by omega), ?_⟩⟩
    obtain ⟨z, hz, ez⟩ := hd_in_of (hk i (by omega)) (by omega)
    rw [nI_clamp (show i < 2 ^ 31 by omega), h8 i hi, ez]
    exact hd_okR_n rfl hz (by omega))
  unfold f_Pe_ofKind at hs
  rw [ecl, key n (Nat.le_refl _)] at hs
  exact hs
