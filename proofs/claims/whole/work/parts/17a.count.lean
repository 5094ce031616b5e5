/-! what counts of a person's days -/
def dk_cs (V : Nat → Int32) (p : Nat) (k : Int32) (s d n : Nat) : Nat := dk_sm (fun e => if (V (69 + e) = nI p ∧ ¬ k < V (309 + e)) ∧ V (129 + e) = nI d ∧ V (249 + e) = nI s then (V (189 + e)).toNatClampNeg else 0) n
def dk_gv (T R lim a b c : Nat) : Nat := min (a + min b T + c * R / 100) lim
def dk_lim (V : Nat → Int32) (p : Nat) : Nat := if V (6 + p) = 1 ∨ V (6 + p) = 3 then 240 else 480
def dk_gd (V : Nat → Int32) (p : Nat) (k : Int32) (d : Nat) : Nat := dk_gv (V 4).toNatClampNeg (V 5).toNatClampNeg (dk_lim V p) (dk_cs V p k 0 d (dk_ne V)) (dk_cs V p k 1 d (dk_ne V)) (dk_cs V p k 2 d (dk_ne V))
def dk_ct (V : Nat → Int32) (p : Nat) (k : Int32) (b : Nat) : Nat := dk_sm (fun d => if d < b then dk_gd V p k d else 0) 365
theorem dk_sm_pt {d c : Nat} : ∀ n, d < n → dk_sm (fun j => if j = d then c else 0) n = c
  | 0, h => by omega
  | n + 1, h => by
    show dk_sm (fun j => if j = d then c else 0) n + (if n = d then c else 0) = c
    by_cases q : n = d
    · subst q
      rw [if_pos rfl]
      have : dk_sm (fun j => if j = n then c else 0) n = dk_sm (fun _ => 0) n := dk_sm_congr n (fun i hi => if_neg (by omega))
      rw [this]
      have z : ∀ m, dk_sm (fun _ => 0) m = 0 := by
        intro m
        induction m with
        | zero => rfl
        | succ m ih => exact ih
      rw [z]; omega
    · rw [if_neg q, dk_sm_pt n (by omega)]
      rfl
theorem dk_sm_0 {f : Nat → Nat} (n : Nat) (h : ∀ i, i < n → f i = 0) : dk_sm f n = 0 := (dk_sm_z n (Nat.zero_le n) (fun i _ hi => h i hi)).trans rfl
theorem dk_gv0 (T R lim : Nat) : dk_gv T R lim 0 0 0 = 0 := by
  unfold dk_gv
  rw [Nat.zero_mul]
  omega
theorem dk_gv_le {T R lim a b c : Nat} : dk_gv T R lim a b c ≤ lim := Nat.min_le_right _ _
theorem dk_lim_le (V : Nat → Int32) (p : Nat) : dk_lim V p ≤ 480 := by unfold dk_lim; split <;> omega
theorem dk_gd_le (V : Nat → Int32) (p : Nat) (k : Int32) (d : Nat) : dk_gd V p k d ≤ 480 := Nat.le_trans dk_gv_le (dk_lim_le V p)
theorem dk_ct_le (V : Nat → Int32) (p : Nat) (k : Int32) (b : Nat) : dk_ct V p k b ≤ 175200 := by
  refine Nat.le_trans (dk_sm_le 365 (m := 480) (fun d _ => ?_)) (by omega)
  split
  · exact dk_gd_le V p k d
  · omega
/-- an entry in numbers -/
theorem dk_ent_of {V : Nat → Int32} (h : dk_wf V) {e : Nat} (he : e < dk_ne V) : ∃ dd mm ss, dd < 365 ∧ mm ≤ 900 ∧ ss < 3 ∧ V (129 + e) = nI dd ∧ V (189 + e) = nI mm ∧ V (249 + e) = nI ss := by
  obtain ⟨-, h1, h2, h3, -⟩ := h.2.2.2.2.2.2.2.2.1 e he
  obtain ⟨dd, q1, q2⟩ := hd_in_of h1 (by omega)
  obtain ⟨mm, q3, q4⟩ := hd_in_of h2 (by omega)
  obtain ⟨ss, q5, q6⟩ := hd_in_of h3 (by omega)
  exact ⟨dd, mm, ss, q1, by omega, q5, q2, q4, q6⟩
theorem dk_cs_le {V : Nat → Int32} (h : dk_wf V) (p : Nat) (k : Int32) (s d : Nat) {n : Nat} (hn : n ≤ dk_ne V) : dk_cs V p k s d n ≤ 54000 := by
  have h60 := (dk_wf_n h).2.2.2.2.2.1
  refine Nat.le_trans (dk_sm_le n (m := 900) (fun e he => ?_)) (Nat.le_trans (Nat.mul_le_mul (show n ≤ 60 by omega) (Nat.le_refl 900)) (by omega))
  obtain ⟨dd, mm, ss, -, hm, -, -, em, -⟩ := dk_ent_of h (show e < dk_ne V by omega)
  split
  · rw [em, nI_clamp (by omega)]; exact hm
  · omega
theorem dk_mn {a b : Nat} (ha : a < 2 ^ 31) (hb : b < 2 ^ 31) : (if nI a < nI b then nI a else nI b) = nI (min b a) := by
  by_cases h : a < b
  · rw [if_pos ((nI_ltI ha hb).mpr h), show min b a = a by omega]
  · rw [if_neg (fun q => h ((nI_ltI ha hb).mp q)), show min b a = b by omega]
/-- a day's sums, taken -/
theorem dk_take1 {X : hd_Mem} {dd T R lim a b c : Nat} (hd : dd < 365) (h25 : X 25 dd = nI a) (h26 : X 26 dd = nI b) (h27 : X 27 dd = nI c) (h36 : X 3 6 = nI T) (h37 : X 3 7 = nI R) (ha : a ≤ 54000) (hb : b ≤ 54000) (hc : c ≤ 54000) (hT : T ≤ 300) (hR : R ≤ 100) (hl : lim ≤ 480) :
    f_En_takeDay X (nI dd) (nI lim) = (nI (dk_gv T R lim a b c), hd_set (hd_set (hd_set X 25 dd 0) 26 dd 0) 27 dd 0) := by
  have hcr : c * R ≤ 54000 * 100 := Nat.mul_le_mul hc hR
  have hd1 : c * R / 100 ≤ 54000 := by omega
  have e1 : nI c * nI R / 100 = nI (c * R / 100) := by rw [pk_mul, show (100 : Int32) = nI 100 from rfl, pk_div (by omega) (by omega) (by omega)]
  unfold f_En_takeDay dk_gv
  rw [nI_clamp (show dd < 2 ^ 31 by omega), h25, h26, h27, h36, h37, e1, nI_add, nI_add, nI_add, nI_add]
  by_cases q : T ≤ b
  · rw [if_pos ((nI_leI (by omega) (by omega)).mpr q), show min b T = T by omega]
    by_cases q2 : lim ≤ a + T + c * R / 100
    · rw [if_pos ((nI_leI (by omega) (by omega)).mpr q2), show min (a + T + c * R / 100) lim = lim by omega]
    · rw [if_neg (fun z => q2 ((nI_leI (by omega) (by omega)).mp z)), show min (a + T + c * R / 100) lim = a + T + c * R / 100 by omega]
  · rw [if_neg (fun z => q ((nI_leI (by omega) (by omega)).mp z)), show min b T = b by omega]
    by_cases q2 : lim ≤ a + b + c * R / 100
    · rw [if_pos ((nI_leI (by omega) (by omega)).mpr q2), show min (a + b + c * R / 100) lim = lim by omega]
    · rw [if_neg (fun z => q2 ((nI_leI (by omega) (by omega)).mp z)), show min (a + b + c * R / 100) lim = a + b + c * R / 100 by omega]
/-- the desk's side: what is needed -/
def dk_dq (M : hd_Mem) : Prop := dk_wf (hd_dv M) ∧ (∀ d, d < 365 → M 25 d = 0 ∧ M 26 d = 0 ∧ M 27 d = 0) ∧ M 79 = hd_ks
theorem dk_dq_e {M : hd_Mem} {e : Nat} (he : e < 60) : M 19 e = hd_dv M (69 + e) ∧ M 20 e = hd_dv M (129 + e) ∧ M 21 e = hd_dv M (189 + e) ∧ M 22 e = hd_dv M (249 + e) ∧ M 23 e = hd_dv M (309 + e) :=
  ⟨(hd_dvA 19 (by simp) (show e < 60 by omega)).symm, (hd_dvA 20 (by simp) (show e < 60 by omega)).symm, (hd_dvA 21 (by simp) (show e < 60 by omega)).symm, (hd_dvA 22 (by simp) (show e < 60 by omega)).symm, (hd_dvA 23 (by simp) (show e < 60 by omega)).symm⟩
def dk_cbA (M : hd_Mem) (p : Nat) (x2 x3 k : Int32) (i : Nat) : hd_Mem := fun c j => if (25 ≤ c ∧ c ≤ 27) ∧ j < 365 then nI (if ¬ nI j < x2 ∧ ¬ x3 < nI j then dk_cs (hd_dv M) p k (c - 25) j i else 0) else M c j
theorem dk_cb1 {M : hd_Mem} (h : dk_dq M) (p : Nat) (x2 x3 k x5 : Int32) : ∀ i, i ≤ dk_ne (hd_dv M) → a_En_countBetween_3 M (nI p) x2 x3 k x5 i = dk_cbA M p x2 x3 k i
  | 0, _ => by
    funext c j
    show M c j = dk_cbA M p x2 x3 k 0 c j
    unfold dk_cbA
    by_cases q : (25 ≤ c ∧ c ≤ 27) ∧ j < 365
    · rw [if_pos q]
      have hz := h.2.1 j q.2
      have : M c j = 0 := by rcases (show c = 25 ∨ c = 26 ∨ c = 27 by omega) with rfl | rfl | rfl; exact hz.1; exact hz.2.1; exact hz.2.2
      rw [this]
      split <;> rfl
    · rw [if_neg q]
  | i + 1, hi => by
    have h60 := (dk_wf_n h.1).2.2.2.2.2.1
    show t_En_countBetween_3 (a_En_countBetween_3 M (nI p) x2 x3 k x5 i) (nI p) x2 x3 k x5 (nI i) = _
    rw [dk_cb1 h p x2 x3 k x5 i (by omega)]
    obtain ⟨dd, mm, ss, hdd, hmm, hss, e1, e2, e3⟩ := dk_ent_of h.1 (show i < dk_ne (hd_dv M) by omega)
    obtain ⟨c19, c20, c21, c22, c23⟩ := dk_dq_e (M := M) (show i < 60 by omega)
    have hcell : ∀ c, c < 25 → dk_cbA M p x2 x3 k i c = M c := fun c hc => by
      funext j
      unfold dk_cbA
      rw [if_neg (by omega)]
    unfold t_En_countBetween_3
    rw [nI_clamp (show i < 2 ^ 31 by omega), hcell 19 (by omega), hcell 20 (by omega), hcell 21 (by omega), hcell 22 (by omega), hcell 23 (by omega), c19, c20, c21, c22, c23, e1, e2, e3, nI_clamp (show dd < 2 ^ 31 by omega), nI_clamp (show ss < 2 ^ 31 by omega)]
    have hstep : ∀ s d, dk_cs (hd_dv M) p k s d (i + 1) = dk_cs (hd_dv M) p k s d i + (if (hd_dv M (69 + i) = nI p ∧ ¬ k < hd_dv M (309 + i)) ∧ nI dd = nI d ∧ nI ss = nI s then mm else 0) := by
      intro s d
      show dk_cs (hd_dv M) p k s d i + (if (hd_dv M (69 + i) = nI p ∧ ¬ k < hd_dv M (309 + i)) ∧ hd_dv M (129 + i) = nI d ∧ hd_dv M (249 + i) = nI s then (hd_dv M (189 + i)).toNatClampNeg else 0) = _
      rw [e1, e2, e3, nI_clamp (show mm < 2 ^ 31 by omega)]
    have same : ((hd_dv M (69 + i) = nI p ∧ ¬ k < hd_dv M (309 + i)) → ¬ (¬ nI dd < x2 ∧ ¬ x3 < nI dd)) → dk_cbA M p x2 x3 k i = dk_cbA M p x2 x3 k (i + 1) := by
      intro hno
      funext c j
      unfold dk_cbA
      by_cases q : (25 ≤ c ∧ c ≤ 27) ∧ j < 365
      · rw [if_pos q, if_pos q]
        by_cases r : ¬ nI j < x2 ∧ ¬ x3 < nI j
        · rw [if_pos r, if_pos r, hstep, if_neg, Nat.add_zero]
          rintro ⟨z1, z2, z3⟩
          rw [← z2] at r
          exact hno z1 r
        · rw [if_neg r, if_neg r]
      · rw [if_neg q, if_neg q]
    by_cases q1 : hd_dv M (69 + i) = nI p
    · rw [if_pos q1]
      by_cases q2 : nI dd < x2
      · rw [if_pos q2]
        exact same (fun _ z => z.1 q2)
      · rw [if_neg q2]
        by_cases q3 : x3 < nI dd
        · rw [if_pos q3]
          exact same (fun _ z => z.2 q3)
        · rw [if_neg q3]
          by_cases q4 : k < hd_dv M (309 + i)
          · rw [if_pos q4]
            exact same (fun z => absurd q4 z.2)
          · rw [if_neg q4]
            funext c j
            by_cases qc : c = 25 + ss ∧ j = dd
            · obtain ⟨rfl, rfl⟩ := qc
              rw [hd_set_at]
              unfold dk_cbA
              have hr : (25 ≤ 25 + ss ∧ 25 + ss ≤ 27) ∧ j < 365 := ⟨⟨by omega, by omega⟩, hdd⟩
              have hq : ¬ nI j < x2 ∧ ¬ x3 < nI j := ⟨q2, q3⟩
              rw [if_pos hr, if_pos hr, if_pos hq, if_pos hq, nI_add, show 25 + ss - 25 = ss by omega, hstep, if_pos ⟨⟨q1, q4⟩, rfl, rfl⟩]
            · have : hd_set (dk_cbA M p x2 x3 k i) (25 + ss) dd (dk_cbA M p x2 x3 k i (25 + ss) dd + nI mm) c j = dk_cbA M p x2 x3 k i c j := by
                simp only [hd_set, qc, if_false]
              rw [this]
              unfold dk_cbA
              by_cases q : (25 ≤ c ∧ c ≤ 27) ∧ j < 365
              · rw [if_pos q, if_pos q]
                by_cases r : ¬ nI j < x2 ∧ ¬ x3 < nI j
                · rw [if_pos r, if_pos r, hstep, if_neg, Nat.add_zero]
                  rintro ⟨z1, z2, z3⟩
                  rw [nI_eq (by omega) (by omega)] at z2 z3
                  exact qc ⟨by omega, by omega⟩
                · rw [if_neg r, if_neg r]
              · rw [if_neg q, if_neg q]
    · rw [if_neg q1]
      exact same (fun z => absurd z.1 q1)
def dk_seen (V : Nat → Int32) (j : Nat) : Nat → Bool
  | 0 => false
  | i + 1 => dk_seen V j i || decide (V (129 + i) = nI j)
theorem dk_seen_no {V : Nat → Int32} {j : Nat} : ∀ i, dk_seen V j i = false → ∀ e, e < i → ¬ V (129 + e) = nI j
  | 0, _, e, he => by omega
  | i + 1, h, e, he => by
    unfold dk_seen at h
    rw [Bool.or_eq_false_iff] at h
    rcases (show e < i ∨ e = i by omega) with q | rfl
    · exact dk_seen_no i h.1 e q
    · exact of_decide_eq_false h.2
def dk_cbB (M : hd_Mem) (p : Nat) (x2 x3 k : Int32) (n i : Nat) : hd_Mem := fun c j => if (25 ≤ c ∧ c ≤ 27) ∧ j < 365 ∧ dk_seen (hd_dv M) j i = true then 0 else dk_cbA M p x2 x3 k n c j
def dk_cbh (M : hd_Mem) (p : Nat) (x2 x3 k : Int32) (j : Nat) : Nat := if ¬ nI j < x2 ∧ ¬ x3 < nI j then dk_gd (hd_dv M) p k j else 0
def dk_cbt (M : hd_Mem) (p : Nat) (x2 x3 k : Int32) (i : Nat) : Nat := dk_sm (fun j => if dk_seen (hd_dv M) j i = true then dk_cbh M p x2 x3 k j else 0) 365
theorem dk_cbB0 (M : hd_Mem) (p : Nat) (x2 x3 k : Int32) (n i : Nat) {c : Nat} (hc : c < 25 ∨ 27 < c) : dk_cbB M p x2 x3 k n i c = M c := by
  funext j
  unfold dk_cbB dk_cbA
  rw [if_neg (by omega), if_neg (by omega)]
theorem dk_cbBd (M : hd_Mem) (p : Nat) (x2 x3 k : Int32) (n i : Nat) {s j : Nat} (hs : s < 3) (hj : j < 365) : dk_cbB M p x2 x3 k n i (25 + s) j = nI (if dk_seen (hd_dv M) j i = true then 0 else if ¬ nI j < x2 ∧ ¬ x3 < nI j then dk_cs (hd_dv M) p k s j n else 0) := by
  unfold dk_cbB dk_cbA
  by_cases q : dk_seen (hd_dv M) j i = true
  · rw [if_pos ⟨by omega, hj, q⟩, if_pos q]; rfl
  · rw [if_neg (fun z => q z.2.2), if_neg q, if_pos ⟨by omega, hj⟩, show 25 + s - 25 = s by omega]
theorem dk_cb2 {M : hd_Mem} (h : dk_dq M) (p : Nat) (x2 x3 k : Int32) : ∀ i, i ≤ dk_ne (hd_dv M) → a_En_countBetween_99 (dk_cbA M p x2 x3 k (dk_ne (hd_dv M))) (nI p) x2 x3 k (nI (dk_lim (hd_dv M) p)) 0 i = (nI (dk_cbt M p x2 x3 k i), dk_cbB M p x2 x3 k (dk_ne (hd_dv M)) i)
  | 0, _ => by
    have e1 : dk_cbt M p x2 x3 k 0 = 0 := dk_sm_0 365 (fun j _ => if_neg (by simp [dk_seen]))
    have e2 : dk_cbB M p x2 x3 k (dk_ne (hd_dv M)) 0 = dk_cbA M p x2 x3 k (dk_ne (hd_dv M)) := by
      funext c j
      unfold dk_cbB
      rw [if_neg (fun z => absurd z.2.2 (by simp [dk_seen]))]
    rw [e1, e2]; rfl
  | i + 1, hi => by
    have h60 := (dk_wf_n h.1).2.2.2.2.2.1
    show t_En_countBetween_99 (a_En_countBetween_99 _ (nI p) x2 x3 k (nI (dk_lim (hd_dv M) p)) 0 i).2 (nI p) x2 x3 k (nI (dk_lim (hd_dv M) p)) (a_En_countBetween_99 _ (nI p) x2 x3 k (nI (dk_lim (hd_dv M) p)) 0 i).1 (nI i) = _
    rw [dk_cb2 h p x2 x3 k i (by omega)]
    obtain ⟨dd, mm, ss, hdd, hmm, hss, e1, e2, e3⟩ := dk_ent_of h.1 (show i < dk_ne (hd_dv M) by omega)
    obtain ⟨c19, c20, c21, c22, c23⟩ := dk_dq_e (M := M) (show i < 60 by omega)
    obtain ⟨T, hT, eT⟩ := hd_in_of h.1.2.2.2.2.1 (by omega)
    obtain ⟨R, hR, eR⟩ := hd_in_of h.1.2.2.2.2.2.1 (by omega)
    have b36 : dk_cbB M p x2 x3 k (dk_ne (hd_dv M)) i 3 6 = nI T := by rw [dk_cbB0 _ _ _ _ _ _ _ (by omega), ← hd_dv_4 M]; exact eT
    have b37 : dk_cbB M p x2 x3 k (dk_ne (hd_dv M)) i 3 7 = nI R := by rw [dk_cbB0 _ _ _ _ _ _ _ (by omega), ← hd_dv_5 M]; exact eR
    unfold t_En_countBetween_99
    dsimp only
    rw [nI_clamp (show i < 2 ^ 31 by omega), dk_cbB0 _ _ _ _ _ _ _ (show 20 < 25 ∨ 27 < 20 by omega), c20, e1]
    have bl : ∀ s, (if dk_seen (hd_dv M) dd i = true then 0 else if ¬ nI dd < x2 ∧ ¬ x3 < nI dd then dk_cs (hd_dv M) p k s dd (dk_ne (hd_dv M)) else 0) ≤ 54000 := by
      intro s
      have := dk_cs_le h.1 p k s dd (Nat.le_refl (dk_ne (hd_dv M)))
      split
      · omega
      · split <;> omega
    rw [dk_take1 hdd (dk_cbBd M p x2 x3 k _ i (s := 0) (by omega) hdd) (dk_cbBd M p x2 x3 k _ i (s := 1) (by omega) hdd) (dk_cbBd M p x2 x3 k _ i (s := 2) (by omega) hdd) b36 b37 (bl 0) (bl 1) (bl 2) (by omega) (by omega) (dk_lim_le _ _), nI_add]
    have hval : dk_gv T R (dk_lim (hd_dv M) p) (if dk_seen (hd_dv M) dd i = true then 0 else if ¬ nI dd < x2 ∧ ¬ x3 < nI dd then dk_cs (hd_dv M) p k 0 dd (dk_ne (hd_dv M)) else 0) (if dk_seen (hd_dv M) dd i = true then 0 else if ¬ nI dd < x2 ∧ ¬ x3 < nI dd then dk_cs (hd_dv M) p k 1 dd (dk_ne (hd_dv M)) else 0) (if dk_seen (hd_dv M) dd i = true then 0 else if ¬ nI dd < x2 ∧ ¬ x3 < nI dd then dk_cs (hd_dv M) p k 2 dd (dk_ne (hd_dv M)) else 0) = if dk_seen (hd_dv M) dd i = true then 0 else dk_cbh M p x2 x3 k dd := by
      by_cases q : dk_seen (hd_dv M) dd i = true
      · simp only [if_pos q]; exact dk_gv0 _ _ _
      · simp only [if_neg q]
        unfold dk_cbh
        by_cases r : ¬ nI dd < x2 ∧ ¬ x3 < nI dd
        · simp only [if_pos r]
          unfold dk_gd
          rw [eT, eR, nI_clamp (show T < 2 ^ 31 by omega), nI_clamp (show R < 2 ^ 31 by omega)]
        · simp only [if_neg r]; exact dk_gv0 _ _ _
    rw [hval]
    have hs1 : ∀ j, j < 365 → dk_seen (hd_dv M) j (i + 1) = (dk_seen (hd_dv M) j i || decide (j = dd)) := by
      intro j hj
      show (dk_seen (hd_dv M) j i || decide (hd_dv M (129 + i) = nI j)) = _
      rw [e1]
      congr 1
      rw [decide_eq_decide, nI_eq (by omega) (by omega)]
      omega
    have htot : dk_cbt M p x2 x3 k i + (if dk_seen (hd_dv M) dd i = true then 0 else dk_cbh M p x2 x3 k dd) = dk_cbt M p x2 x3 k (i + 1) := by
      unfold dk_cbt
      rw [← dk_sm_pt (d := dd) (c := if dk_seen (hd_dv M) dd i = true then 0 else dk_cbh M p x2 x3 k dd) 365 hdd, ← dk_sm_add]
      apply dk_sm_congr
      intro j hj
      rw [hs1 j hj]
      by_cases q : j = dd
      · subst q
        by_cases r : dk_seen (hd_dv M) j i = true
        · simp [r]
        · simp [r]
      · simp [q]
    have hmem : hd_set (hd_set (hd_set (dk_cbB M p x2 x3 k (dk_ne (hd_dv M)) i) 25 dd 0) 26 dd 0) 27 dd 0 = dk_cbB M p x2 x3 k (dk_ne (hd_dv M)) (i + 1) := by
      funext c j
      by_cases q : (25 ≤ c ∧ c ≤ 27) ∧ j = dd
      · obtain ⟨q1, rfl⟩ := q
        have r0 : dk_cbB M p x2 x3 k (dk_ne (hd_dv M)) (i + 1) c j = 0 := by
          unfold dk_cbB
          rw [if_pos ⟨q1, hdd, by rw [hs1 j hdd]; simp⟩]
        rw [r0]
        rcases (show c = 25 ∨ c = 26 ∨ c = 27 by omega) with rfl | rfl | rfl <;> simp [hd_set]
      · have r1 : hd_set (hd_set (hd_set (dk_cbB M p x2 x3 k (dk_ne (hd_dv M)) i) 25 dd 0) 26 dd 0) 27 dd 0 c j = dk_cbB M p x2 x3 k (dk_ne (hd_dv M)) i c j := by
          simp only [hd_set]
          rw [if_neg (by omega), if_neg (by omega), if_neg (by omega)]
        rw [r1]
        unfold dk_cbB
        by_cases qc : 25 ≤ c ∧ c ≤ 27
        · by_cases qj : j < 365
          · rw [hs1 j qj]
            have : decide (j = dd) = false := decide_eq_false (fun z => q ⟨qc, z⟩)
            rw [this, Bool.or_false]
          · rw [if_neg (fun z => qj z.2.1), if_neg (fun z => qj z.2.1)]
        · rw [if_neg (fun z => qc z.1), if_neg (fun z => qc z.1)]
    rw [hmem, htot]
theorem dk_cs_no {V : Nat → Int32} {p : Nat} {k : Int32} {s j n : Nat} (h : ∀ e, e < n → ¬ V (129 + e) = nI j) : dk_cs V p k s j n = 0 := dk_sm_0 n (fun e he => if_neg (fun z => h e he z.2.1))
theorem dk_gd_no {V : Nat → Int32} {p : Nat} {k : Int32} {j : Nat} (h : ∀ e, e < dk_ne V → ¬ V (129 + e) = nI j) : dk_gd V p k j = 0 := by
  unfold dk_gd
  rw [dk_cs_no h, dk_cs_no h, dk_cs_no h]
  exact dk_gv0 _ _ _
/-- what the desk counts between two days; nothing is changed in the end -/
theorem dk_cbw {Ls : Nat} {M : hd_Mem} (h : dk_dq M) (p : Nat) (x2 x3 k : Int32) : hd_Rt Ls En_countBetween [.ref 3, .int (nI p), .int x2, .int x3, .int k, .int (nI (dk_lim (hd_dv M) p))] M (some (.int (nI (dk_sm (dk_cbh M p x2 x3 k) 365)))) M := by
  have hn := dk_wf_n h.1
  have h60 := hn.2.2.2.2.2.1
  have e35 : M 3 5 = nI (dk_ne (hd_dv M)) := by rw [← hd_dv_2 M]; exact hn.2.2.2.2.1
  have ecl : (M 3 5).toNatClampNeg = dk_ne (hd_dv M) := rfl
  have G : g_En_countBetween Ls M (nI p) x2 x3 k (nI (dk_lim (hd_dv M) p)) := by
    unfold g_En_countBetween
    rw [ecl, dk_cb1 h p x2 x3 k _ _ (Nat.le_refl _)]
    have e3 : ∀ i, dk_cbA M p x2 x3 k i 3 = M 3 := fun i => by
      funext j
      unfold dk_cbA
      rw [if_neg (by omega)]
    rw [e3, ecl]
    refine ⟨⟨by omega, fun i hi => ?_, fun i hi => ?_⟩, ⟨by omega, fun i hi => ?_, fun i hi => ?_⟩⟩
    · rw [dk_cb1 h p x2 x3 k _ i hi, e3]; exact e35
    · obtain ⟨dd, mm, ss, hdd, hmm, hss, e1, e2, e4⟩ := dk_ent_of h.1 hi
      obtain ⟨c19, c20, c21, c22, c23⟩ := dk_dq_e (M := M) (show i < 60 by omega)
      rw [dk_cb1 h p x2 x3 k _ i (by omega)]
      have hcell : ∀ c, c < 25 → dk_cbA M p x2 x3 k i c = M c := fun c hc => by
        funext j
        unfold dk_cbA
        rw [if_neg (by omega)]
      unfold gb_En_countBetween_3
      rw [nI_clamp (show i < 2 ^ 31 by omega), hcell 19 (by omega), hcell 20 (by omega), hcell 22 (by omega), hcell 23 (by omega), c20, c22, e1, e4, nI_clamp (show ss < 2 ^ 31 by omega)]
      have r20 : hd_okR Ls 20 (nI i) := hd_okR_n rfl (show i < 60 by omega) (by omega)
      have hss3 : ss = 0 ∨ ss = 1 ∨ ss = 2 := by omega
      refine ⟨hd_okR_n rfl (show i < 60 by omega) (by omega), fun _ => ⟨r20, fun _ => ⟨r20, fun _ => ⟨hd_okR_n rfl (show i < 60 by omega) (by omega), fun _ => ⟨hd_okR_n rfl (show i < 60 by omega) (by omega), hd_in_nI hss (by omega), r20, ?_, hd_okR_n rfl (show i < 60 by omega) (by omega), ?_⟩⟩⟩⟩⟩
      · rcases hss3 with rfl | rfl | rfl <;> exact hd_okR_n rfl hdd (by omega)
      · rcases hss3 with rfl | rfl | rfl <;> exact hd_okW_n (by decide) rfl hdd (by omega)
    · rw [dk_cb2 h p x2 x3 k i hi]
      dsimp only
      rw [dk_cbB0 _ _ _ _ _ _ _ (by omega)]; exact e35
    · rw [dk_cb2 h p x2 x3 k i (by omega)]
      dsimp only
      obtain ⟨dd, mm, ss, hdd, hmm, hss, e1, e2, e4⟩ := dk_ent_of h.1 hi
      obtain ⟨c19, c20, c21, c22, c23⟩ := dk_dq_e (M := M) (show i < 60 by omega)
      unfold gb_En_countBetween_99
      rw [nI_clamp (show i < 2 ^ 31 by omega), dk_cbB0 _ _ _ _ _ _ _ (show 20 < 25 ∨ 27 < 20 by omega), c20, e1]
      have r25 : hd_okR Ls 25 (nI dd) := hd_okR_n rfl hdd (by omega)
      have r26 : hd_okR Ls 26 (nI dd) := hd_okR_n rfl hdd (by omega)
      have r27 : hd_okR Ls 27 (nI dd) := hd_okR_n rfl hdd (by omega)
      have w25 : hd_okW 25 (nI dd) := hd_okW_n (by decide) rfl hdd (by omega)
      have w26 : hd_okW 26 (nI dd) := hd_okW_n (by decide) rfl hdd (by omega)
      have w27 : hd_okW 27 (nI dd) := hd_okW_n (by decide) rfl hdd (by omega)
      exact ⟨hd_okR_n rfl (show i < 60 by omega) (by omega), r26, fun _ => ⟨r27, r25, w25, w26, w27⟩, fun _ => ⟨r26, r27, r25, w25, w26, w27⟩⟩
  have hs := s_En_countBetween G
  unfold f_En_countBetween at hs
  have e3 : dk_cbA M p x2 x3 k (dk_ne (hd_dv M)) 3 = M 3 := by
    funext j
    unfold dk_cbA
    rw [if_neg (by omega)]
  rw [ecl, dk_cb1 h p x2 x3 k _ _ (Nat.le_refl _), e3, ecl, dk_cb2 h p x2 x3 k _ (Nat.le_refl _)] at hs
  have f1 : dk_cbt M p x2 x3 k (dk_ne (hd_dv M)) = dk_sm (dk_cbh M p x2 x3 k) 365 := by
    apply dk_sm_congr
    intro j hj
    by_cases q : dk_seen (hd_dv M) j (dk_ne (hd_dv M)) = true
    · rw [if_pos q]
    · rw [if_neg q]
      unfold dk_cbh
      rw [dk_gd_no (dk_seen_no _ (by simpa using q))]
      split <;> rfl
  have f2 : dk_cbB M p x2 x3 k (dk_ne (hd_dv M)) (dk_ne (hd_dv M)) = M := by
    funext c j
    by_cases qc : (25 ≤ c ∧ c ≤ 27) ∧ j < 365
    · have hz := h.2.1 j qc.2
      have hz0 : M c j = 0 := by rcases (show c = 25 ∨ c = 26 ∨ c = 27 by omega) with rfl | rfl | rfl; exact hz.1; exact hz.2.1; exact hz.2.2
      rw [hz0]
      unfold dk_cbB
      by_cases q : dk_seen (hd_dv M) j (dk_ne (hd_dv M)) = true
      · rw [if_pos ⟨qc.1, qc.2, q⟩]
      · rw [if_neg (fun z => q z.2.2)]
        unfold dk_cbA
        rw [if_pos qc, dk_cs_no (dk_seen_no _ (by simpa using q))]
        split <;> rfl
    · unfold dk_cbB dk_cbA
      rw [if_neg (fun z => qc ⟨z.1, z.2.1⟩), if_neg qc]
  rw [f1, f2] at hs
  exact hs
