/-! the desk's plan of a day: its loops -/
theorem dk_sl_all : ∀ k S g, g < 2 ^ k → (∀ i, g.testBit i = true → S.testBit i = true) → g ∈ dk_sl k S
  | 0, S, g, hg, _ => by
    have : g = 0 := by omega
    subst this
    simp [dk_sl]
  | k + 1, S, g, hg, h => by
    have e : 2 ^ (k + 1) = 2 ^ k + 2 ^ k := by rw [Nat.pow_succ]; omega
    unfold dk_sl
    rw [List.mem_append]
    by_cases q : g < 2 ^ k
    · exact Or.inl (dk_sl_all k S g q h)
    · have eg : g = (g - 2 ^ k) + 2 ^ k := by omega
      have hb : ∀ i, g.testBit i = ((g - 2 ^ k).testBit i || decide (i = k)) := by
        intro i
        have := dk_tb_add (show g - 2 ^ k < 2 ^ k by omega) i
        rw [← eg] at this
        exact this
      have hk : S.testBit k = true := h k (by rw [hb]; simp)
      refine Or.inr ?_
      rw [if_pos hk, List.mem_map]
      exact ⟨g - 2 ^ k, dk_sl_all k S _ (by omega) (fun i hi => h i (by rw [hb, hi]; rfl)), eg.symm⟩
def dk_sub (g S : Nat) : Prop := ∀ i, g.testBit i = true → S.testBit i = true
theorem dk_sub_and (x S : Nat) : dk_sub (x &&& S) S := fun i h => by
  rw [Nat.testBit_and, Bool.and_eq_true] at h
  exact h.2
theorem dk_sub_le {g S : Nat} (h : dk_sub g S) : g ≤ S := by
  have e : g &&& S = g := by
    apply Nat.eq_of_testBit_eq
    intro i
    rw [Nat.testBit_and]
    have := h i
    cases e1 : g.testBit i <;> cases e2 : S.testBit i <;> simp_all
  rw [← e]
  exact Nat.and_le_right
theorem dk_sub_tr {a b c : Nat} (h : dk_sub a b) (h2 : dk_sub b c) : dk_sub a c := fun i hi => h2 i (h i hi)
theorem dk_sub_df {S g : Nat} (hS : S < 256) : dk_sub (dk_df S g) S := fun i h => by
  have hi : i < 8 := dk_tb_hi (dk_df_lt hS) h
  rw [dk_df_tb _ _ _ (by omega), Bool.and_eq_true] at h
  exact h.1
theorem dk_en_in {S g : Nat} (hS : S < 256) (h0 : g ≠ 0) (h : dk_sub g S) : g ∈ dk_en S := by
  have h1 : g ∈ (dk_sl 8 S).reverse := by
    rw [List.mem_reverse]
    exact dk_sl_all 8 S g (Nat.lt_of_le_of_lt (dk_sub_le h) hS) h
  rw [← dk_en_sl S hS, List.mem_append] at h1
  rcases h1 with z | z
  · exact z
  · simp at z; exact absurd z h0
theorem dk_enF_0 (m S : Nat) : dk_enF m S 0 = [] := by
  cases m <;> rfl
theorem dk_enF_s {m S g : Nat} (h : g ≠ 0) : dk_enF (m + 1) S g = g :: dk_enF m S ((g - 1) &&& S) := if_neg h
theorem dk_enF_le : ∀ m S g x, x ∈ dk_enF m S g → x ≤ g
  | 0, S, g, x, h => by simp [dk_enF] at h
  | m + 1, S, g, x, h => by
    by_cases q : g = 0
    · rw [q, dk_enF_0] at h; simp at h
    · rw [dk_enF_s q] at h
      rcases List.mem_cons.mp h with rfl | z
      · exact Nat.le_refl _
      · have := dk_enF_le m S _ x z
        have h2 : (g - 1) &&& S ≤ g - 1 := Nat.and_le_left
        omega
theorem dk_enF_desc : ∀ m S g, (dk_enF m S g).Pairwise (fun x y => y < x)
  | 0, S, g => List.Pairwise.nil
  | m + 1, S, g => by
    by_cases q : g = 0
    · rw [q, dk_enF_0]; exact List.Pairwise.nil
    · rw [dk_enF_s q, List.pairwise_cons]
      refine ⟨fun y hy => ?_, dk_enF_desc m S _⟩
      have := dk_enF_le m S _ y hy
      have h2 : (g - 1) &&& S ≤ g - 1 := Nat.and_le_left
      omega
theorem dk_nx {g S : Nat} (h0 : g ≠ 0) (hg : g < 256) (hS : S < 256) : (nI g - 1) &&& nI S = nI ((g - 1) &&& S) := by
  have : nI g - 1 = nI (g - 1) := by
    rw [show g = (g - 1) + 1 by omega, nI_pred]
    rfl
  rw [this, dk_andN (by omega) (by omega)]
/-- cell c with new values at the places of D -/
def dk_wr (A : hd_Mem) (c : Nat) (D : List Nat) (v : Nat → Int32) : hd_Mem := fun c' i => if c' = c ∧ i ∈ D then v i else A c' i
theorem dk_wr_nil (A : hd_Mem) (c : Nat) (v : Nat → Int32) : dk_wr A c [] v = A := by
  funext c' i
  simp [dk_wr]
theorem dk_wr_set (A : hd_Mem) (c : Nat) (D : List Nat) (v : Nat → Int32) (g : Nat) : hd_set (dk_wr A c D v) c g (v g) = dk_wr A c (D ++ [g]) v := by
  funext c' i
  by_cases h1 : c' = c
  · subst h1
    by_cases h2 : i = g
    · subst h2
      simp [dk_wr, hd_set]
    · simp [dk_wr, hd_set, h2]
  · simp [dk_wr, hd_set, h1]
theorem dk_wr_ne {A : hd_Mem} {c c' : Nat} {D : List Nat} {v : Nat → Int32} (h : c' ≠ c) : dk_wr A c D v c' = A c' := by
  funext i
  simp [dk_wr, h]
theorem dk_bcp : ∀ g, g < 256 → g ≠ 0 → 0 < dk_bc8 g := by decide +kernel
/-- which gangs fit -/
theorem dk_fits {V : Nat → Int32} {d l g : Nat} (hw : dk_wf V) (h0 : g ≠ 0) (hg : g < 256) (hC : dk_sub g (dk_C V d)) (hop : dk_op V d l = true) :
    dk_okg V d l g = true ↔ ((V (63 + l)).toNatClampNeg ≤ dk_bc8 g ∧ dk_bc8 g ≤ (V (66 + l)).toNatClampNeg ∧ nI g &&& (nI (dk_st (dk_ab V l) (dk_np V)) ^^^ (-1 : Int32)) = 0 ∧ dk_bars V g = false ∧ (V (60 + l) = 0 ∨ ¬ nI g &&& nI (dk_st (fun p => decide (V (6 + p) = 2)) (dk_np V)) = 0)) := by
  have h8 := (dk_wf_n hw).2.1
  have hl256 : ∀ f, dk_st f (dk_np V) < 256 := fun f => Nat.lt_of_lt_of_le (dk_st_lt _ _) (Nat.pow_le_pow_right (n := 2) (by omega) h8)
  have hCp : ∀ i, g.testBit i = true → i < dk_np V ∧ dk_cm V d i = true := fun i hi => by
    have := hC i hi
    rw [dk_C_tb, Bool.and_eq_true, decide_eq_true_iff] at this
    exact this
  rw [dk_df00 hg (hl256 _)]
  have hld : (V (60 + l) = 0 ∨ ¬ nI g &&& nI (dk_st (fun p => decide (V (6 + p) = 2)) (dk_np V)) = 0) ↔ dk_led V l g = true := by
    unfold dk_led
    rw [Bool.or_eq_true, decide_eq_true_iff, dk_and0 hg (hl256 _), dk_ldr_iff]
    constructor
    · rintro (z | z)
      · exact Or.inl z
      · refine Or.inr (Classical.byContradiction (fun hn => z (fun i hi y => hn ⟨i, hi, y.1, ?_⟩)))
        have := y.2
        rw [dk_st_tb, Bool.and_eq_true, decide_eq_true_iff, decide_eq_true_iff] at this
        exact this.2
    · rintro (z | ⟨p, hp, a, b⟩)
      · exact Or.inl z
      · refine Or.inr (fun hn => hn p hp ⟨a, ?_⟩)
        rw [dk_st_tb, Bool.and_eq_true, decide_eq_true_iff, decide_eq_true_iff]
        exact ⟨(hCp p a).1, b⟩
  rw [hld]
  unfold dk_okg
  rw [Bool.and_eq_true, Bool.and_eq_true, Bool.and_eq_true, Bool.not_eq_true', decide_eq_false_iff_not, dk_up_iff, decide_eq_true_iff]
  constructor
  · rintro ⟨-, ⟨-, a2, a3, a4⟩, a5, a6⟩
    refine ⟨a5, a4, fun i hi hb => ?_, a3, a6⟩
    have := a2 i hi hb
    unfold dk_may at this
    rw [Bool.and_eq_true, Bool.and_eq_true, Bool.and_eq_true] at this
    rw [dk_st_tb, Bool.and_eq_true]
    exact ⟨this.1, this.2.2.2⟩
  · rintro ⟨b1, b2, b3, b4, b5⟩
    refine ⟨h0, ⟨hg, fun i hi hb => ?_, b4, b2⟩, b1, b5⟩
    have := b3 i hi hb
    rw [dk_st_tb, Bool.and_eq_true] at this
    unfold dk_may
    rw [Bool.and_eq_true, Bool.and_eq_true, Bool.and_eq_true]
    exact ⟨this.1, (hCp i hb).2, hop, this.2⟩
theorem dk_gwN {l g : Nat} (hl : l < 3) (hg : g < 256) : (nI (dk_bc8 g) <<< ((16 : Int32) &&& 31)) + (3 - nI l) * dk_dig g = nI (dk_gw l g) := by
  have e : (3 : Int32) - nI l = nI (3 - l) := pk_sub (a := 3) (b := l) (by omega)
  rw [dk_shl16 _ (by have := dk_bc8_le g; omega), dk_digN g hg, e, pk_mul, nI_add]
  rfl
theorem dk_wgh {Ls : Nat} {M : hd_Mem} {V : Nat → Int32} {d l : Nat} (hw : dk_wf V) (hl : l < 3) (hop : dk_op V d l = true) (h73 : M 7 3 = nI (dk_C V d)) (h17 : M 17 l = V (63 + l)) (h18 : M 18 l = V (66 + l)) (h16 : M 16 l = V (60 + l)) (h62 : ∀ s, s < 256 → M 62 s = dk_dig s) (h63 : ∀ s, s < 256 → M 63 s = if dk_bars V s then 1 else 0) :
    ∃ M', hd_Rt Ls Pn_weighGangs [.ref 7, .int (nI l), .ref 2, .int (nI (dk_st (dk_ab V l) (dk_np V))), .int (nI (dk_st (fun p => decide (V (6 + p) = 2)) (dk_np V)))] M none M' ∧ (∀ c, c ≠ 64 → M' c = M c) ∧ ∀ g, g ∈ dk_en (dk_C V d) → M' 64 g = if dk_okg V d l g then nI (dk_gw l g) else 0 := by
  have h8 := (dk_wf_n hw).2.1
  have hC := dk_C_lt (d := d) h8
  have hln : l < dk_nl V := by
    unfold dk_op at hop
    rw [Bool.and_eq_true, decide_eq_true_iff] at hop
    exact hop.1
  obtain ⟨-, -, w3, w4, w5, -, -⟩ := hw.2.2.2.2.2.2.2.1 l hln
  obtain ⟨ls, hls, els⟩ := hd_in_of w4 (by omega)
  obtain ⟨ms, hms, ems⟩ := hd_in_of w5 (by omega)
  have key : ∀ m g D (v9 v10 : Value), g ≤ m → g < 256 → dk_sub g (dk_C V d) → hd_E Ls Pn_weighGangs (30, [.ref 7, .int (nI l), .ref 2, .int (nI (dk_st (dk_ab V l) (dk_np V))), .int (nI (dk_st (fun p => decide (V (6 + p) = 2)) (dk_np V))), .int (V (63 + l)), .int (V (66 + l)), .int (V (60 + l)), .int (nI g), v9, v10], [], dk_wr M 64 D (fun g => if dk_okg V d l g then nI (dk_gw l g) else 0)) (fun a b => a = none ∧ b = dk_wr M 64 (D ++ dk_enF m (dk_C V d) g) (fun g => if dk_okg V d l g then nI (dk_gw l g) else 0)) := by
    intro m
    induction m with
    | zero =>
      intro g D v9 v10 hm hg _
      have : g = 0 := by omega
      subst this
      refine b_Pn_weighGangs_30 (fun _ => b_Pn_weighGangs_142 ⟨rfl, ?_⟩) (fun z => absurd (by decide) z)
      rw [dk_enF_0, List.append_nil]
    | succ m ih =>
      intro g D v9 v10 hm hg hs
      by_cases q : g = 0
      · subst q
        refine b_Pn_weighGangs_30 (fun _ => b_Pn_weighGangs_142 ⟨rfl, ?_⟩) (fun z => absurd (by decide) z)
        rw [dk_enF_0, List.append_nil]
      · have a73 : dk_wr M 64 D (fun g => if dk_okg V d l g then nI (dk_gw l g) else 0) 7 3 = nI (dk_C V d) := by rw [dk_wr_ne (by decide)]; exact h73
        have a63 : dk_wr M 64 D (fun g => if dk_okg V d l g then nI (dk_gw l g) else 0) 63 (nI g).toNatClampNeg = if dk_bars V g then 1 else 0 := by rw [dk_wr_ne (by decide), nI_clamp (by omega)]; exact h63 g hg
        have a62 : dk_wr M 64 D (fun g => if dk_okg V d l g then nI (dk_gw l g) else 0) 62 (nI g).toNatClampNeg = dk_dig g := by rw [dk_wr_ne (by decide), nI_clamp (by omega)]; exact h62 g hg
        have hfit := dk_fits hw q hg hs hop
        rw [els, ems, nI_clamp (by omega), nI_clamp (by omega)] at hfit
        have hle : (g - 1) &&& dk_C V d ≤ g - 1 := Nat.and_le_left
        have hbc := dk_bc8_le g
        have nxt : ∀ v9 v10, hd_E Ls Pn_weighGangs (30, [.ref 7, .int (nI l), .ref 2, .int (nI (dk_st (dk_ab V l) (dk_np V))), .int (nI (dk_st (fun p => decide (V (6 + p) = 2)) (dk_np V))), .int (V (63 + l)), .int (V (66 + l)), .int (V (60 + l)), .int (nI ((g - 1) &&& dk_C V d)), v9, v10], [], hd_set (dk_wr M 64 D (fun g => if dk_okg V d l g then nI (dk_gw l g) else 0)) 64 g (if dk_okg V d l g then nI (dk_gw l g) else 0)) (fun a b => a = none ∧ b = dk_wr M 64 (D ++ dk_enF (m + 1) (dk_C V d) g) (fun g => if dk_okg V d l g then nI (dk_gw l g) else 0)) := by
          intro v9 v10
          have h1 := ih ((g - 1) &&& dk_C V d) (D ++ [g]) v9 v10 (by omega) (by omega) (dk_sub_and _ _)
          rw [dk_enF_s q, show D ++ g :: dk_enF m (dk_C V d) ((g - 1) &&& dk_C V d) = D ++ [g] ++ dk_enF m (dk_C V d) ((g - 1) &&& dk_C V d) by simp]
          have h2 := dk_wr_set M 64 D (fun g => if dk_okg V d l g then nI (dk_gw l g) else 0) g
          rw [h2]
          exact h1
        have yes : dk_okg V d l g = true → ∀ v10, hd_E Ls Pn_weighGangs (88, [.ref 7, .int (nI l), .ref 2, .int (nI (dk_st (dk_ab V l) (dk_np V))), .int (nI (dk_st (fun p => decide (V (6 + p) = 2)) (dk_np V))), .int (V (63 + l)), .int (V (66 + l)), .int (V (60 + l)), .int (nI g), .int (nI (dk_bc8 g)), v10], [], dk_wr M 64 D (fun g => if dk_okg V d l g then nI (dk_gw l g) else 0)) (fun a b => a = none ∧ b = dk_wr M 64 (D ++ dk_enF (m + 1) (dk_C V d) g) (fun g => if dk_okg V d l g then nI (dk_gw l g) else 0)) := by
          intro ho v10
          refine b_Pn_weighGangs_88 (b_Pn_weighGangs_106 (hd_okR_n rfl hg (by omega)) (hd_okW_n (by decide) rfl hg (by omega)) ?_)
          rw [a62, a73, dk_nx q hg hC, dk_gwN hl hg, nI_clamp (show g < 2 ^ 31 by omega)]
          have h3 := nxt (.int (nI (dk_bc8 g))) (.int 1)
          rw [if_pos ho] at h3
          exact h3
        have no : dk_okg V d l g = false → ∀ v10, hd_E Ls Pn_weighGangs (92, [.ref 7, .int (nI l), .ref 2, .int (nI (dk_st (dk_ab V l) (dk_np V))), .int (nI (dk_st (fun p => decide (V (6 + p) = 2)) (dk_np V))), .int (V (63 + l)), .int (V (66 + l)), .int (V (60 + l)), .int (nI g), .int (nI (dk_bc8 g)), v10], [], dk_wr M 64 D (fun g => if dk_okg V d l g then nI (dk_gw l g) else 0)) (fun a b => a = none ∧ b = dk_wr M 64 (D ++ dk_enF (m + 1) (dk_C V d) g) (fun g => if dk_okg V d l g then nI (dk_gw l g) else 0)) := by
          intro ho v10
          refine b_Pn_weighGangs_92 (b_Pn_weighGangs_126 (hd_okW_n (by decide) rfl hg (by omega)) ?_)
          rw [a73, dk_nx q hg hC, nI_clamp (show g < 2 ^ 31 by omega)]
          have h3 := nxt (.int (nI (dk_bc8 g))) (.int 0)
          rw [if_neg (by rw [ho]; decide)] at h3
          exact h3
        have no' : ¬ dk_okg V d l g = true → dk_okg V d l g = false := fun z => by simpa using z
        refine b_Pn_weighGangs_30 (fun z => absurd z (nI_nle (by omega) (by omega))) (fun _ => b_Pn_weighGangs_35 s_In_bitCount ?_)
        rw [dk_bcN g hg]
        refine b_Pn_weighGangs_40 (fun c1 => no (no' (fun z => ?_)) _) (fun c1 => b_Pn_weighGangs_49 (fun c2 => no (no' (fun z => ?_)) _) (fun c2 => b_Pn_weighGangs_56 (fun c3 => b_Pn_weighGangs_65 (hd_okZ_n (by decide) rfl hg (by omega)) (fun c4 => b_Pn_weighGangs_75 (fun c5 => yes ?_ _) (fun c5 => b_Pn_weighGangs_80 (fun c6 => no (no' (fun z => ?_)) _) (fun c6 => yes ?_ _))) (fun c4 => no (no' (fun z => ?_)) _)) (fun c3 => no (no' (fun z => ?_)) _)))
        · rw [els, nI_ltI (by omega) (by omega)] at c1
          have := (hfit.mp z).1
          omega
        · rw [ems, nI_ltI (by omega) (by omega)] at c2
          have := (hfit.mp z).2.1
          omega
        · rw [els, nI_ltI (by omega) (by omega)] at c1
          rw [ems, nI_ltI (by omega) (by omega)] at c2
          rw [a63] at c4
          refine hfit.mpr ⟨by omega, by omega, c3, ?_, Or.inl c5⟩
          cases hb : dk_bars V g
          · rfl
          · rw [hb, if_pos rfl] at c4; exact absurd c4 (by decide)
        · rcases (hfit.mp z).2.2.2.2 with y | y
          · exact c5 y
          · exact y c6
        · rw [els, nI_ltI (by omega) (by omega)] at c1
          rw [ems, nI_ltI (by omega) (by omega)] at c2
          rw [a63] at c4
          refine hfit.mpr ⟨by omega, by omega, c3, ?_, Or.inr c6⟩
          cases hb : dk_bars V g
          · rfl
          · rw [hb, if_pos rfl] at c4; exact absurd c4 (by decide)
        · rw [a63, (hfit.mp z).2.2.2.1] at c4
          exact c4 rfl
        · exact c3 (hfit.mp z).2.2.1
  refine ⟨dk_wr M 64 ([] ++ dk_enF 256 (dk_C V d) (dk_C V d)) (fun g => if dk_okg V d l g then nI (dk_gw l g) else 0), e_Pn_weighGangs (b_Pn_weighGangs_0 (hd_okR_n rfl hl (by omega)) (hd_okR_n rfl hl (by omega)) (hd_okZ_n (by decide) rfl hl (by omega)) ?_), fun c hc => dk_wr_ne hc, fun g hg => ?_⟩
  · have := key 256 (dk_C V d) [] .null .null (by omega) hC (fun _ h => h)
    rw [dk_wr_nil] at this
    rw [nI_clamp (show l < 2 ^ 31 by omega), h17, h18, h16, h73]
    exact this
  · show (if 64 = 64 ∧ g ∈ [] ++ dk_enF 256 (dk_C V d) (dk_C V d) then _ else _) = _
    rw [if_pos ⟨rfl, by rw [List.nil_append]; exact hg⟩]
theorem dk_imx {a b : Nat} (ha : a < 2 ^ 31) (hb : b < 2 ^ 31) : (if nI a < nI b then nI b else nI a) = nI (max a b) := by
  by_cases q : a < b
  · rw [if_pos ((nI_ltI ha hb).mpr q), Nat.max_eq_right (by omega)]
  · rw [if_neg (fun z => q ((nI_ltI ha hb).mp z)), Nat.max_eq_left (by omega)]
theorem dk_sble {a b : Nat} (ha : a < 2 ^ 30) (hb : b < 2 ^ 30) : (nI a - nI b ≤ 0 ↔ a ≤ b) ∧ (nI a - nI b = 0 ↔ a = b) := by
  have e := pk_sub_toInt ha hb
  constructor
  · rw [Int32.le_iff_toInt_le, e, show (0 : Int32).toInt = 0 from rfl]
    omega
  · rw [← Int32.toInt_inj, e, show (0 : Int32).toInt = 0 from rfl]
    omega
theorem dk_gw_lt (l g : Nat) : dk_gw l g < 2 ^ 30 := by
  have h1 := dk_bc8_le g
  have h2 := dk_dg_le g
  have h3 : (3 - l) * dk_dg g ≤ 3 * dk_dg g := Nat.mul_le_mul (by omega) (Nat.le_refl _)
  unfold dk_gw
  omega
theorem dk_gw_pos {l g : Nat} (hg : g < 256) (h0 : g ≠ 0) : 0 < dk_gw l g := by
  have := dk_bcp g hg h0
  unfold dk_gw
  omega
theorem dk_apt {Ls : Nat} {A : hd_Mem} {ok : Nat → Nat → Bool} {j S : Nat} (hS : S < 256) (h64 : ∀ g, g ≠ 0 → dk_sub g S → A 64 g = if ok (2 - j) g then nI (dk_gw (2 - j) g) else 0) (h65 : ∀ T, dk_sub T S → A 65 T = nI (dk_mxl (dk_F ok j T)) ∧ A 66 T = nI (dk_wy (dk_F ok j T))) :
    hd_Rt Ls Pn_addPlaceTo [.ref 7, .int (nI S)] A none (hd_set (hd_set A 65 S (nI (dk_mxl (dk_F ok (j + 1) S)))) 66 S (nI (dk_wy (dk_F ok (j + 1) S)))) := by
  have bd : ∀ Y Z, Y ≠ [] → Y ++ Z = dk_F ok (j + 1) S → dk_mxl Y < 2 ^ 30 := by
    intro Y Z hY e
    have h1 : dk_mxl Y ∈ dk_F ok (j + 1) S := by
      rw [← e, List.mem_append]
      exact Or.inl (dk_mxl_mem Y hY)
    have h2 := (dk_F_bd ok (j + 1) S _ hS h1).2
    have h3 := dk_bc8_le S
    omega
  have key : ∀ m g Y (v5 v6 : Value), g ≤ m → dk_sub g S → Y ≠ [] → Y ++ (dk_enF m S g).flatMap (fun g => if ok (2 - j) g then (dk_F ok j (dk_df S g)).map (· + dk_gw (2 - j) g) else []) = dk_F ok (j + 1) S → hd_E Ls Pn_addPlaceTo (17, [.ref 7, .int (nI S), .int (nI (dk_mxl Y)), .int (nI (dk_wy Y)), .int (nI g), v5, v6], [], A) (fun a b => a = none ∧ b = hd_set (hd_set A 65 S (nI (dk_mxl (dk_F ok (j + 1) S)))) 66 S (nI (dk_wy (dk_F ok (j + 1) S)))) := by
    have fin : ∀ m Y (v5 v6 : Value), Y ++ (dk_enF m S 0).flatMap (fun g => if ok (2 - j) g then (dk_F ok j (dk_df S g)).map (· + dk_gw (2 - j) g) else []) = dk_F ok (j + 1) S → hd_E Ls Pn_addPlaceTo (17, [.ref 7, .int (nI S), .int (nI (dk_mxl Y)), .int (nI (dk_wy Y)), .int (nI 0), v5, v6], [], A) (fun a b => a = none ∧ b = hd_set (hd_set A 65 S (nI (dk_mxl (dk_F ok (j + 1) S)))) 66 S (nI (dk_wy (dk_F ok (j + 1) S)))) := by
      intro m Y v5 v6 hY
      rw [dk_enF_0, List.flatMap_nil, List.append_nil] at hY
      subst hY
      refine b_Pn_addPlaceTo_17 (fun _ => b_Pn_addPlaceTo_122 (hd_okW_n (by decide) rfl hS (by omega)) (hd_okW_n (by decide) rfl hS (by omega)) ⟨rfl, ?_⟩) (fun z => absurd (by decide) z)
      rw [nI_clamp (show S < 2 ^ 31 by omega)]
    intro m
    induction m with
    | zero =>
      intro g Y v5 v6 hm _ _ hY
      have : g = 0 := by omega
      subst this
      exact fin 0 Y v5 v6 hY
    | succ m ih =>
      intro g Y v5 v6 hm hs hne hY
      by_cases q : g = 0
      · subst q
        exact fin (m + 1) Y v5 v6 hY
      · have hg : g < 256 := Nat.lt_of_le_of_lt (dk_sub_le hs) hS
        have hle : (g - 1) &&& S ≤ g - 1 := Nat.and_le_left
        rw [dk_enF_s q, List.flatMap_cons] at hY
        have a64 : A 64 (nI g).toNatClampNeg = if ok (2 - j) g then nI (dk_gw (2 - j) g) else 0 := by rw [nI_clamp (show g < 2 ^ 31 by omega)]; exact h64 g q hs
        refine b_Pn_addPlaceTo_17 (fun z => absurd z (nI_nle (by omega) (by omega))) (fun _ => ?_)
        by_cases ho : ok (2 - j) g = true
        · rw [if_pos ho] at a64 hY
          have eT : nI S &&& (nI g ^^^ (-1 : Int32)) = nI (dk_df S g) := dk_dfN (by omega) (by omega)
          have hT : dk_df S g < 256 := dk_df_lt hS
          obtain ⟨t1, t2⟩ := h65 (dk_df S g) (dk_sub_df hS)
          have hw := dk_wy_upd (X := Y) (Y := dk_F ok j (dk_df S g)) (s := dk_gw (2 - j) g) hne (dk_F_ne ok j _) (fun y hy => dk_F_nc ok hS hs hy)
          have hx : dk_mxl (Y ++ (dk_F ok j (dk_df S g)).map (· + dk_gw (2 - j) g)) = max (dk_mxl Y) (dk_gw (2 - j) g + dk_mxl (dk_F ok j (dk_df S g))) := by rw [dk_mxl_app, dk_mxl_map _ (dk_F_ne ok j _)]
          rw [← List.append_assoc] at hY
          have b1 := bd _ _ (by simp [hne]) hY
          rw [hx] at b1
          have bY : dk_mxl Y < 2 ^ 30 := by omega
          have bo : dk_gw (2 - j) g + dk_mxl (dk_F ok j (dk_df S g)) < 2 ^ 30 := by omega
          have a65 : A 65 (nI (dk_df S g)).toNatClampNeg = nI (dk_mxl (dk_F ok j (dk_df S g))) := by rw [nI_clamp (show dk_df S g < 2 ^ 31 by omega)]; exact t1
          have a66 : A 66 (nI (dk_df S g)).toNatClampNeg = nI (dk_wy (dk_F ok j (dk_df S g))) := by rw [nI_clamp (show dk_df S g < 2 ^ 31 by omega)]; exact t2
          have nx := fun v5 v6 => ih ((g - 1) &&& S) (Y ++ (dk_F ok j (dk_df S g)).map (· + dk_gw (2 - j) g)) v5 v6 (by omega) (dk_sub_and _ _) (by simp [hne]) hY
          rw [hx, hw] at nx
          have ok65 : hd_okR Ls 65 (nI S &&& (nI g ^^^ (-1 : Int32))) := by rw [eT]; exact hd_okR_n rfl hT (by omega)
          have ok66 : hd_okR Ls 66 (nI S &&& (nI g ^^^ (-1 : Int32))) := by rw [eT]; exact hd_okR_n rfl hT (by omega)
          have hdv : ∀ x, x < 2 ^ 30 → x / 65536 < 2 ^ 30 := fun x hx => by omega
          have cmp := dk_sble (hdv _ bo) (hdv _ bY)
          refine b_Pn_addPlaceTo_22 (hd_okR_n rfl hg (by omega)) (fun z => ?_) (fun _ => b_Pn_addPlaceTo_32 (hd_okR_n rfl hg (by omega)) ok65 (fun c => ?_) (fun c => ?_))
          · rw [a64] at z
            exact absurd z (nI_nle (dk_gw_pos hg q) (by have := dk_gw_lt (2 - j) g; omega))
          · rw [a64, eT, a65, nI_add, dk_sh16 (by omega), dk_sh16 (by omega)] at c
            rw [a64, eT, a65, nI_add, dk_sh16 (y := dk_gw (2 - j) g + dk_mxl (dk_F ok j (dk_df S g))) (by omega), dk_sh16 (y := dk_mxl Y) (by omega)]
            rw [cmp.1] at c
            refine b_Pn_addPlaceTo_85 (fun c2 => b_Pn_addPlaceTo_90 ok66 ?_) (fun c2 => b_Pn_addPlaceTo_104 ?_)
            · rw [cmp.2] at c2
              rw [eT, a66, nI_add, dk_nx q hg hS, dk_imx (by omega) (by omega)]
              have h4 := nx (.int (nI (dk_gw (2 - j) g + dk_mxl (dk_F ok j (dk_df S g))))) (.int (nI ((dk_gw (2 - j) g + dk_mxl (dk_F ok j (dk_df S g))) / 65536) - nI (dk_mxl Y / 65536)))
              rw [if_neg (by omega), if_pos c2.symm] at h4
              exact h4
            · rw [cmp.2] at c2
              rw [dk_nx q hg hS, dk_imx (by omega) (by omega)]
              have h4 := nx (.int (nI (dk_gw (2 - j) g + dk_mxl (dk_F ok j (dk_df S g))))) (.int (nI ((dk_gw (2 - j) g + dk_mxl (dk_F ok j (dk_df S g))) / 65536) - nI (dk_mxl Y / 65536)))
              rw [if_neg (by omega), if_neg (fun z => c2 z.symm)] at h4
              exact h4
          · rw [a64, eT, a65, nI_add, dk_sh16 (by omega), dk_sh16 (by omega)] at c
            rw [a64, eT, a65, nI_add, dk_sh16 (y := dk_gw (2 - j) g + dk_mxl (dk_F ok j (dk_df S g))) (by omega), dk_sh16 (y := dk_mxl Y) (by omega)]
            rw [cmp.1] at c
            refine b_Pn_addPlaceTo_70 ok66 ?_
            rw [eT, a66, dk_nx q hg hS, dk_imx (by omega) (by omega)]
            have h4 := nx (.int (nI (dk_gw (2 - j) g + dk_mxl (dk_F ok j (dk_df S g))))) (.int (nI ((dk_gw (2 - j) g + dk_mxl (dk_F ok j (dk_df S g))) / 65536) - nI (dk_mxl Y / 65536)))
            rw [if_pos (by omega)] at h4
            exact h4
        · rw [if_neg ho] at a64 hY
          rw [List.nil_append] at hY
          refine b_Pn_addPlaceTo_22 (hd_okR_n rfl hg (by omega)) (fun _ => b_Pn_addPlaceTo_111 ?_) (fun z => absurd (by rw [a64]; decide) z)
          rw [dk_nx q hg hS]
          exact ih ((g - 1) &&& S) Y v5 v6 (by omega) (dk_sub_and _ _) hne hY
  refine e_Pn_addPlaceTo (b_Pn_addPlaceTo_0 (hd_okR_n rfl hS (by omega)) (hd_okR_n rfl hS (by omega)) ?_)
  obtain ⟨t1, t2⟩ := h65 S (fun _ h => h)
  rw [nI_clamp (show S < 2 ^ 31 by omega), t1, t2]
  exact key 256 S (dk_F ok j S) .null .null (by omega) (fun _ h => h) (dk_F_ne ok j S) rfl
def dk_wr2 (A : hd_Mem) (D : List Nat) (u w : Nat → Int32) : hd_Mem := dk_wr (dk_wr A 65 D u) 66 D w
theorem dk_wr2_set (A : hd_Mem) (D : List Nat) (u w : Nat → Int32) (g : Nat) : hd_set (hd_set (dk_wr2 A D u w) 65 g (u g)) 66 g (w g) = dk_wr2 A (D ++ [g]) u w := by
  funext c i
  by_cases h1 : c = 66
  · subst h1
    by_cases h2 : i = g
    · subst h2; simp [dk_wr2, dk_wr, hd_set]
    · simp [dk_wr2, dk_wr, hd_set, h2]
  · by_cases h3 : c = 65
    · subst h3
      by_cases h2 : i = g
      · subst h2; simp [dk_wr2, dk_wr, hd_set]
      · simp [dk_wr2, dk_wr, hd_set, h2]
    · simp [dk_wr2, dk_wr, hd_set, h1, h3]
theorem dk_wr2_65 (A : hd_Mem) (D : List Nat) (u w : Nat → Int32) (T : Nat) : dk_wr2 A D u w 65 T = (if T ∈ D then u T else A 65 T) ∧ dk_wr2 A D u w 66 T = (if T ∈ D then w T else A 66 T) := by
  constructor <;> simp [dk_wr2, dk_wr]
theorem dk_wr2_ne {A : hd_Mem} {D : List Nat} {u w : Nat → Int32} {c : Nat} (h1 : c ≠ 65) (h2 : c ≠ 66) : dk_wr2 A D u w c = A c := by
  unfold dk_wr2
  rw [dk_wr_ne h2, dk_wr_ne h1]
theorem dk_apl {Ls : Nat} {A : hd_Mem} {ok : Nat → Nat → Bool} {j C : Nat} (hC : C < 256) (h73 : A 7 3 = nI C) (h64 : ∀ g, g ≠ 0 → dk_sub g C → A 64 g = if ok (2 - j) g then nI (dk_gw (2 - j) g) else 0) (h65 : ∀ T, dk_sub T C → A 65 T = nI (dk_mxl (dk_F ok j T)) ∧ A 66 T = nI (dk_wy (dk_F ok j T))) :
    ∃ M', hd_Rt Ls Pn_addPlace [.ref 7] A none M' ∧ (∀ c, c ≠ 65 → c ≠ 66 → M' c = A c) ∧ ∀ T, dk_sub T C → M' 65 T = nI (dk_mxl (dk_F ok (j + 1) T)) ∧ M' 66 T = nI (dk_wy (dk_F ok (j + 1) T)) := by
  have key : ∀ m g D, g ≤ m → dk_sub g C → D ++ dk_enF m C g = dk_en C → hd_E Ls Pn_addPlace (5, [.ref 7, .int (nI g)], [], dk_wr2 A D (fun T => nI (dk_mxl (dk_F ok (j + 1) T))) (fun T => nI (dk_wy (dk_F ok (j + 1) T)))) (fun a b => a = none ∧ b = dk_wr2 A (dk_en C) (fun T => nI (dk_mxl (dk_F ok (j + 1) T))) (fun T => nI (dk_wy (dk_F ok (j + 1) T)))) := by
    have fin : ∀ m D, D ++ dk_enF m C 0 = dk_en C → hd_E Ls Pn_addPlace (5, [.ref 7, .int (nI 0)], [], dk_wr2 A D (fun T => nI (dk_mxl (dk_F ok (j + 1) T))) (fun T => nI (dk_wy (dk_F ok (j + 1) T)))) (fun a b => a = none ∧ b = dk_wr2 A (dk_en C) (fun T => nI (dk_mxl (dk_F ok (j + 1) T))) (fun T => nI (dk_wy (dk_F ok (j + 1) T)))) := by
      intro m D hD
      rw [dk_enF_0, List.append_nil] at hD
      subst hD
      exact b_Pn_addPlace_5 (fun _ => b_Pn_addPlace_26 ⟨rfl, rfl⟩) (fun z => absurd (by decide) z)
    intro m
    induction m with
    | zero =>
      intro g D hm _ hD
      have : g = 0 := by omega
      subst this
      exact fin 0 D hD
    | succ m ih =>
      intro g D hm hs hD
      by_cases q : g = 0
      · subst q
        exact fin (m + 1) D hD
      · have hg : g < 256 := Nat.lt_of_le_of_lt (dk_sub_le hs) hC
        have hle : (g - 1) &&& C ≤ g - 1 := Nat.and_le_left
        rw [dk_enF_s q] at hD
        have hgt : ∀ x, x ∈ D → g < x := by
          have hp : (dk_en C).Pairwise (fun x y => y < x) := dk_enF_desc 256 C C
          rw [← hD, List.pairwise_append] at hp
          exact fun x hx => hp.2.2 x hx g (by simp)
        have hto := dk_apt (Ls := Ls) (A := dk_wr2 A D (fun T => nI (dk_mxl (dk_F ok (j + 1) T))) (fun T => nI (dk_wy (dk_F ok (j + 1) T)))) (ok := ok) (j := j) (S := g) hg
          (fun x h1 h2 => by rw [dk_wr2_ne (by decide) (by decide)]; exact h64 x h1 (dk_sub_tr h2 hs))
          (fun T hT => by
            have hnot : T ∉ D := fun z => by
              have h1 := hgt T z
              have h2 := dk_sub_le hT
              omega
            obtain ⟨e1, e2⟩ := dk_wr2_65 A D (fun T => nI (dk_mxl (dk_F ok (j + 1) T))) (fun T => nI (dk_wy (dk_F ok (j + 1) T))) T
            rw [e1, e2, if_neg hnot, if_neg hnot]
            exact h65 T (dk_sub_tr hT hs))
        have hst := dk_wr2_set A D (fun T => nI (dk_mxl (dk_F ok (j + 1) T))) (fun T => nI (dk_wy (dk_F ok (j + 1) T))) g
        rw [hst] at hto
        refine b_Pn_addPlace_5 (fun z => absurd z (nI_nle (by omega) (by omega))) (fun _ => b_Pn_addPlace_9 hto (b_Pn_addPlace_14 ?_))
        rw [dk_wr2_ne (c := 7) (by decide) (by decide), h73, dk_nx q hg hC]
        exact ih _ (D ++ [g]) (by omega) (dk_sub_and _ _) (by rw [← hD]; simp)
  refine ⟨dk_wr2 A (dk_en C) (fun T => nI (dk_mxl (dk_F ok (j + 1) T))) (fun T => nI (dk_wy (dk_F ok (j + 1) T))), e_Pn_addPlace (b_Pn_addPlace_0 ?_), fun c h1 h2 => dk_wr2_ne h1 h2, fun T hT => ?_⟩
  · rw [h73]
    have := key 256 C [] (by omega) (fun _ h => h) rfl
    have e : dk_wr2 A [] (fun T => nI (dk_mxl (dk_F ok (j + 1) T))) (fun T => nI (dk_wy (dk_F ok (j + 1) T))) = A := by
      unfold dk_wr2
      rw [dk_wr_nil, dk_wr_nil]
    rw [e] at this
    exact this
  · obtain ⟨e1, e2⟩ := dk_wr2_65 A (dk_en C) (fun T => nI (dk_mxl (dk_F ok (j + 1) T))) (fun T => nI (dk_wy (dk_F ok (j + 1) T))) T
    rw [e1, e2]
    by_cases z : T ∈ dk_en C
    · rw [if_pos z, if_pos z]
      exact ⟨rfl, rfl⟩
    · have h0 : T = 0 := Classical.byContradiction (fun y => z (dk_en_in hC y hT))
      subst h0
      rw [if_neg z, if_neg z]
      have : dk_F ok (j + 1) 0 = dk_F ok j 0 := by
        show dk_F ok j 0 ++ (dk_enF 256 0 0).flatMap _ = _
        rw [dk_enF_0, List.flatMap_nil, List.append_nil]
      rw [this]
      exact h65 0 hT
theorem dk_F_skip {ok : Nat → Nat → Bool} {j : Nat} (h : ∀ g, ok (2 - j) g = false) (S : Nat) : dk_F ok (j + 1) S = dk_F ok j S := by
  show dk_F ok j S ++ (dk_en S).flatMap (fun g => if ok (2 - j) g then (dk_F ok j (dk_df S g)).map (· + dk_gw (2 - j) g) else []) = _
  have : ∀ L : List Nat, L.flatMap (fun g => if ok (2 - j) g then (dk_F ok j (dk_df S g)).map (· + dk_gw (2 - j) g) else []) = [] := by
    intro L
    induction L with
    | nil => rfl
    | cons a L ih => rw [List.flatMap_cons, ih, h a]; rfl
  rw [this, List.append_nil]
theorem dk_okg_shut {V : Nat → Int32} {d l : Nat} (h : dk_op V d l = false) (g : Nat) : dk_okg V d l g = false := by
  cases e : dk_okg V d l g
  · rfl
  · unfold dk_okg at e
    rw [Bool.and_eq_true, Bool.and_eq_true, Bool.not_eq_true', decide_eq_false_iff_not, dk_up_iff] at e
    obtain ⟨e0, ⟨e1, e2, -⟩, -⟩ := e
    obtain ⟨i, hi⟩ := dk_ne0 e0
    have := e2 i (dk_tb_hi e1 hi) hi
    unfold dk_may at this
    rw [Bool.and_eq_true, Bool.and_eq_true, Bool.and_eq_true, h] at this
    exact absurd this.2.2.1 (by decide)
theorem dk_F_from {V : Nat → Int32} {d : Nat} (S : Nat) : ∀ j, j + dk_nl V ≤ 3 → dk_F (dk_okg V d) j S = [0]
  | 0, _ => rfl
  | j + 1, h => by
    rw [dk_F_skip (fun g => dk_okg_shut (by unfold dk_op; rw [decide_eq_false (by omega)]; rfl) g)]
    exact dk_F_from S j (by omega)
theorem dk_neg1 (k : Nat) : nI k + (-1 : Int32) = nI k - 1 := (Int32.sub_eq_add_neg _ _).symm
theorem dk_fpl {Ls : Nat} {M : hd_Mem} (h : dk_dq M) (h62 : ∀ s, s < 256 → M 62 s = dk_dig s) (h630 : M 63 0 = 0) {d : Nat} (hd : d < 365) (hne : ¬ M 7 0 = nI d) : ∃ M', hd_Rt Ls D_findPlan [.ref 0, .int (nI d)] M none M' ∧ (∀ c, c ∉ [7, 63, 64, 65, 66] → M' c = M c) ∧ M' 63 0 = 0 ∧ M' 7 0 = nI d ∧ (M' 7 2, M' 7 1) = dk_pw (hd_dv M) d := by
  have hn := dk_wf_n h.1
  have h8 := hn.2.1
  have h3 := hn.2.2.2.1
  have e1 : M 1 6 = nI (dk_np (hd_dv M)) := by rw [← hd_dv_0 M]; exact hn.1
  have e2 : M 2 5 = nI (dk_nl (hd_dv M)) := by rw [← hd_dv_1 M]; exact hn.2.2.1
  have hC := dk_C_lt (d := d) h8
  have hP := h.1.2.2.2.2.2.2.1
  have hB : dk_wfB (hd_dv M) := h.1.2.2.2.2.2.2.2.2.2.2
  have ePe : ∀ p, p < 8 → M 8 p = hd_dv M (6 + p) ∧ M 11 p = hd_dv M (30 + p) ∧ M 13 p = hd_dv M (46 + p) := fun p hp => ⟨(hd_dvA 8 (by simp) hp).symm, (hd_dvA 11 (by simp) hp).symm, (hd_dvA 13 (by simp) hp).symm⟩
  have ePl : ∀ l, l < 3 → M 14 l = hd_dv M (54 + l) ∧ M 15 l = hd_dv M (57 + l) ∧ M 16 l = hd_dv M (60 + l) ∧ M 17 l = hd_dv M (63 + l) ∧ M 18 l = hd_dv M (66 + l) := fun l hl => ⟨(hd_dvA 14 (by simp) hl).symm, (hd_dvA 15 (by simp) hl).symm, (hd_dvA 16 (by simp) hl).symm, (hd_dvA 17 (by simp) hl).symm, (hd_dvA 18 (by simp) hl).symm⟩
  have key : ∀ k A, k ≤ dk_nl (hd_dv M) → (∀ c, c ∉ [7, 63, 64, 65, 66] → A c = M c) → A 7 0 = nI d → A 7 3 = nI (dk_C (hd_dv M) d) → (∀ s, s < 256 → A 63 s = if dk_bars (hd_dv M) s then 1 else 0) → (∀ T, dk_sub T (dk_C (hd_dv M) d) → A 65 T = nI (dk_mxl (dk_F (dk_okg (hd_dv M) d) (3 - k) T)) ∧ A 66 T = nI (dk_wy (dk_F (dk_okg (hd_dv M) d) (3 - k) T))) → hd_E Ls D_findPlan (58, [.ref 0, .int (nI d), .int (nI (d % 7)), .int (nI (dk_st (fun p => decide (hd_dv M (6 + p) = 2)) (dk_np (hd_dv M)))), .int (nI k - 1)], [], A) (fun a M' => a = none ∧ (∀ c, c ∉ [7, 63, 64, 65, 66] → M' c = M c) ∧ M' 63 0 = 0 ∧ M' 7 0 = nI d ∧ (M' 7 2, M' 7 1) = dk_pw (hd_dv M) d) := by
    intro k
    induction k with
    | zero =>
      intro A _ a1 a2 a3 a4 a5
      obtain ⟨t1, t2⟩ := a5 (dk_C (hd_dv M) d) (fun _ z => z)
      refine b_D_findPlan_58 (fun _ => b_D_findPlan_124 (s_Pn_end ⟨by rw [a3]; exact hd_okR_n rfl hC (by omega), by rw [a3]; exact hd_okR_n rfl hC (by omega)⟩) (b_D_findPlan_131 ⟨rfl, ?_⟩)) (fun z => absurd (by decide) z)
      unfold f_Pn_end
      rw [a3, nI_clamp (show dk_C (hd_dv M) d < 2 ^ 31 by omega), t1, t2]
      refine ⟨fun c hc => ?_, ?_, ?_, ?_⟩
      · have : c ≠ 7 := by rintro rfl; simp at hc
        rw [hd_set_ne this, hd_set_ne this, a1 c hc]
      · rw [hd_set_ne (by decide), hd_set_ne (by decide), a4 0 (by omega), dk_bars0]
        rfl
      · rw [hd_set_nj (by decide), hd_set_nj (by decide)]
        exact a2
      · rw [hd_set_at, hd_set_nj (by decide), hd_set_at]
        rfl
    | succ k ih =>
      intro A hk a1 a2 a3 a4 a5
      obtain ⟨p1, p2, p3, p4, p5⟩ := ePl k (by omega)
      have c14 : A 14 (nI k).toNatClampNeg = hd_dv M (54 + k) := by rw [nI_clamp (show k < 2 ^ 31 by omega), a1 14 (by decide)]; exact p1
      have c15 : A 15 (nI k).toNatClampNeg = hd_dv M (57 + k) := by rw [nI_clamp (show k < 2 ^ 31 by omega), a1 15 (by decide)]; exact p2
      rw [nI_pred]
      refine b_D_findPlan_58 (fun z => absurd z (nI_pos (by omega))) (fun _ => b_D_findPlan_63 (hd_okR_n rfl (show k < 3 by omega) (by omega)) s_D_hasBit (b_D_findPlan_77 (fun c => ?_) (fun c => ?_)))
      · rw [c14, dk_hb0] at c
        refine b_D_findPlan_118 ?_
        rw [dk_neg1]
        refine ih A (by omega) a1 a2 a3 a4 (fun T hT => ?_)
        rw [show 3 - k = (2 - k) + 1 by omega, dk_F_skip (fun g => dk_okg_shut (by unfold dk_op; rw [show 2 - (2 - k) = k by omega, c]; simp) g)]
        have := a5 T hT
        rw [show 3 - (k + 1) = 2 - k by omega] at this
        exact this
      · rw [c14, dk_hb0] at c
        have hop : dk_op (hd_dv M) d k = true := by
          unfold dk_op
          rw [decide_eq_true (show k < dk_nl (hd_dv M) by omega)]
          simpa using c
        refine b_D_findPlan_80 (hd_okR_n rfl (show k < 3 by omega) (by omega)) (r := nI (dk_st (dk_ab (hd_dv M) k) (dk_np (hd_dv M)))) (M2 := A) (by
          rw [c15]
          exact dk_skl (V := hd_dv M) h8 (by rw [a1 1 (by decide)]; exact e1) (fun p hp => by rw [a1 11 (by decide)]; exact (ePe p (by omega)).2.1)) ?_
        obtain ⟨B, r1, r2, r3⟩ := dk_wgh (Ls := Ls) (M := A) (V := hd_dv M) (d := d) (l := k) h.1 (by omega) hop a3 (by rw [a1 17 (by decide)]; exact p4) (by rw [a1 18 (by decide)]; exact p5) (by rw [a1 16 (by decide)]; exact p3) (fun s hs => by rw [a1 62 (by decide)]; exact h62 s hs) a4
        obtain ⟨B2, s1, s2, s3⟩ := dk_apl (Ls := Ls) (A := B) (ok := dk_okg (hd_dv M) d) (j := 2 - k) hC (by rw [r2 7 (by decide)]; exact a3) (fun g g0 gs => by
          rw [show 2 - (2 - k) = k by omega]
          exact r3 g (dk_en_in hC g0 gs)) (fun T hT => by
          rw [r2 65 (by decide), r2 66 (by decide)]
          have := a5 T hT
          rw [show 3 - (k + 1) = 2 - k by omega] at this
          exact this)
        refine b_D_findPlan_107 r1 (b_D_findPlan_111 s1 (b_D_findPlan_118 ?_))
        rw [dk_neg1]
        refine ih B2 (by omega) (fun c hc => ?_) (by rw [s2 7 (by decide) (by decide), r2 7 (by decide)]; exact a2) (by rw [s2 7 (by decide) (by decide), r2 7 (by decide)]; exact a3) (fun s hs => by rw [s2 63 (by decide) (by decide), r2 63 (by decide)]; exact a4 s hs) (fun T hT => ?_)
        · rw [s2 c (by rintro rfl; simp at hc) (by rintro rfl; simp at hc), r2 c (by rintro rfl; simp at hc), a1 c hc]
        · rw [show 3 - k = (2 - k) + 1 by omega]
          exact s3 T hT
  obtain ⟨B, r1, r2, ⟨r3, r4⟩, r5⟩ := dk_beg (Ls := Ls) (M := M) hB (fun p hp => (ePe p hp).2.2) h630 (nI d) (nI (dk_C (hd_dv M) d))
  have hE : hd_E Ls D_findPlan (0, [.ref 0, .int (nI d), .null, .null, .null], [], M) (fun a M' => a = none ∧ (∀ c, c ∉ [7, 63, 64, 65, 66] → M' c = M c) ∧ M' 63 0 = 0 ∧ M' 7 0 = nI d ∧ (M' 7 2, M' 7 1) = dk_pw (hd_dv M) d) := by
    have em : nI d - nI d / 7 * 7 = nI (d % 7) := dk_modI (a := d) (b := 7) (by omega) (by omega) (by omega)
    refine b_D_findPlan_0 (fun z => absurd z hne) (fun _ => b_D_findPlan_12 (r := nI (dk_C (hd_dv M) d)) (M2 := M) (by rw [em]; exact dk_dcom h hd) (b_D_findPlan_28 r1 (b_D_findPlan_38 (dk_knd (V := hd_dv M) h8 (by rw [r2 1 (by decide)]; exact e1) (fun p hp => by rw [r2 8 (by decide)]; exact (ePe p (by omega)).1) (fun p hp => (hP p hp).1) (by rw [r2 79 (by decide)]; exact h.2.2)) (b_D_findPlan_46 ?_))))
    rw [em, r2 2 (by decide), e2]
    refine key _ B (Nat.le_refl _) (fun c hc => r2 c (by simp at hc ⊢; omega)) r3 r4 (fun s hs => (r5 s hs).2.2) (fun T hT => ?_)
    rw [dk_F_from T _ (by omega)]
    have hT2 : T < 256 := Nat.lt_of_le_of_lt (dk_sub_le hT) hC
    obtain ⟨x1, x2, -⟩ := r5 T hT2
    rw [x1, x2]
    exact ⟨by decide, by decide⟩
  obtain ⟨v, M', ⟨q1, q2⟩, q3⟩ := hd_E_det hE
  subst q1
  exact ⟨M', e_D_findPlan q3, q2⟩
