/-! the reference's roads through all plans -/
theorem dk_gs_u (T : Nat → Nat) (p v x : Nat) : dk_gs (fun q => if q = p then v else T q) x (p + 1) = dk_gs T x p + (if v = x then 2 ^ p else 0) := by
  rw [dk_gs_s, if_pos rfl]
  congr 1
  exact dk_gs_c p (fun q hq => if_neg (by omega))
def dk_bq (up : Nat → Nat → Bool) (fin : Nat → Nat → Nat → Bool) (m p : Nat) (T : Nat → Nat) (v : Nat) : List Nat := if v = 3 ∨ up v (dk_gs T v p + 2 ^ p) = true then dk_RT up fin m (p + 1) (fun q => if q = p then v else T q) else []
def dk_tk (up : Nat → Nat → Bool) (fin : Nat → Nat → Nat → Bool) (m p : Nat) (T : Nat → Nat) : Nat → List Nat
  | 0 => []
  | k + 1 => dk_bq up fin m p T (3 - k) ++ dk_tk up fin m p T k
theorem dk_tk4 (up : Nat → Nat → Bool) (fin : Nat → Nat → Nat → Bool) (m p : Nat) (T : Nat → Nat) : dk_tk up fin m p T 4 = dk_RT up fin (m + 1) p T := by
  show dk_bq up fin m p T 0 ++ (dk_bq up fin m p T 1 ++ (dk_bq up fin m p T 2 ++ (dk_bq up fin m p T 3 ++ []))) = (if up 0 (dk_gs T 0 p + 2 ^ p) then dk_R up fin m (p + 1) (dk_gs T 0 p + 2 ^ p) (dk_gs T 1 p) (dk_gs T 2 p) else []) ++ ((if up 1 (dk_gs T 1 p + 2 ^ p) then dk_R up fin m (p + 1) (dk_gs T 0 p) (dk_gs T 1 p + 2 ^ p) (dk_gs T 2 p) else []) ++ ((if up 2 (dk_gs T 2 p + 2 ^ p) then dk_R up fin m (p + 1) (dk_gs T 0 p) (dk_gs T 1 p) (dk_gs T 2 p + 2 ^ p) else []) ++ dk_R up fin m (p + 1) (dk_gs T 0 p) (dk_gs T 1 p) (dk_gs T 2 p)))
  have hr : ∀ v, dk_RT up fin m (p + 1) (fun q => if q = p then v else T q) = dk_R up fin m (p + 1) (dk_gs T 0 p + (if v = 0 then 2 ^ p else 0)) (dk_gs T 1 p + (if v = 1 then 2 ^ p else 0)) (dk_gs T 2 p + (if v = 2 then 2 ^ p else 0)) := by
    intro v
    unfold dk_RT
    rw [dk_gs_u, dk_gs_u, dk_gs_u]
  have h3 : dk_bq up fin m p T 3 = dk_R up fin m (p + 1) (dk_gs T 0 p) (dk_gs T 1 p) (dk_gs T 2 p) := by
    unfold dk_bq
    rw [if_pos (Or.inl rfl), hr]
    rfl
  have h0 : dk_bq up fin m p T 0 = if up 0 (dk_gs T 0 p + 2 ^ p) then dk_R up fin m (p + 1) (dk_gs T 0 p + 2 ^ p) (dk_gs T 1 p) (dk_gs T 2 p) else [] := by
    unfold dk_bq
    by_cases q : up 0 (dk_gs T 0 p + 2 ^ p) = true
    · rw [if_pos (Or.inr q), if_pos q, hr]
      rfl
    · rw [if_neg (fun z => z.elim (by omega) q), if_neg q]
  have h1 : dk_bq up fin m p T 1 = if up 1 (dk_gs T 1 p + 2 ^ p) then dk_R up fin m (p + 1) (dk_gs T 0 p) (dk_gs T 1 p + 2 ^ p) (dk_gs T 2 p) else [] := by
    unfold dk_bq
    by_cases q : up 1 (dk_gs T 1 p + 2 ^ p) = true
    · rw [if_pos (Or.inr q), if_pos q, hr]
      rfl
    · rw [if_neg (fun z => z.elim (by omega) q), if_neg q]
  have h2 : dk_bq up fin m p T 2 = if up 2 (dk_gs T 2 p + 2 ^ p) then dk_R up fin m (p + 1) (dk_gs T 0 p) (dk_gs T 1 p) (dk_gs T 2 p + 2 ^ p) else [] := by
    unfold dk_bq
    by_cases q : up 2 (dk_gs T 2 p + 2 ^ p) = true
    · rw [if_pos (Or.inr q), if_pos q, hr]
      rfl
    · rw [if_neg (fun z => z.elim (by omega) q), if_neg q]
  rw [h0, h1, h2, h3, List.append_nil]
theorem dk_dfs {Ls : Nat} {M1 : hd_Mem} {d n : Nat} (h : dk_wf (M1 68)) (hn : dk_np (M1 68) = n) (h76 : ∀ p, p < n → M1 76 p = nI (dk_ms (M1 68) d p)) {Q : Option Value → hd_Mem → Prop} : ∀ m p, p + m + 1 = n → ∀ k, k ≤ 4 → ∀ (A : hd_Mem) (s : Option (Nat × Nat)) (T : Nat → Nat), (∀ c, c ∉ [67, 74, 75] → A c = M1 c) → (∀ j, j ≠ 8 → j ≠ 9 → A 67 j = M1 67 j) → (∀ q, q < p → A 75 q = nI (T q) ∧ T q ≤ 3) → (∀ x, x < 3 → dk_up (M1 68) d x (dk_gs T x p) = true) → A 75 p = nI (4 - k) → dk_rep n A s →
    (∀ A' : hd_Mem, (∀ c, c ∉ [67, 74, 75] → A' c = M1 c) → (∀ j, j ≠ 8 → j ≠ 9 → A' 67 j = M1 67 j) → (∀ q, q < p → A' 75 q = nI (T q)) → dk_rep n A' (dk_fo s (dk_tk (dk_up (M1 68) d) (dk_fin (M1 68)) m p T k)) → hd_E Ls M_findPlan (40, [.ref 67, .int (nI d), .int (nI n), .int (nI p - 1)], [], A') Q) → hd_E Ls M_findPlan (54, [.ref 67, .int (nI d), .int (nI n), .int (nI p)], [], A) Q := by
  have h8 : n ≤ 8 := by rw [← hn]; exact (dk_wf_n h).2.1
  intro m
  induction m with
  | zero =>
    intro p hp k
    induction k with
    | zero =>
      intro hk A s T a1 a2 a3 a4 a5 a6 cont
      have clp : (nI p).toNatClampNeg = p := nI_clamp (by omega)
      refine b_M_findPlan_54 (hd_okR_n rfl (show p < 9 by omega) (by omega)) (fun _ => b_M_findPlan_91 (hd_okR_n rfl (show p < 9 by omega) (by omega)) (fun z => absurd z (by rw [clp, a5]; decide)) (fun _ => b_M_findPlan_101 ?_)) (fun z => absurd (by rw [clp, a5]; decide) z)
      rw [dk_neg1]
      exact cont A a1 a2 (fun q hq => (a3 q hq).1) (by rw [show dk_tk (dk_up (M1 68) d) (dk_fin (M1 68)) 0 p T 0 = [] from rfl, dk_fo0]; exact a6)
    | succ k ih =>
      intro hk A s T a1 a2 a3 a4 a5 a6 cont
      have clp : (nI p).toNatClampNeg = p := nI_clamp (by omega)
      have a68 : A 68 = M1 68 := a1 68 (by decide)
      have hv : 4 - (k + 1) = 3 - k := by omega
      rw [hv] at a5
      have hup1 : nI (3 - k) + 1 = nI (4 - k) := by rw [nI_1, show 3 - k + 1 = 4 - k by omega]
      have nle3 : ∀ v, v ≤ 3 → ¬ (3 : Int32) < nI v := fun v hv => nI_nlt (b := v) (a := 3) hv (by omega)
      have le3 : ∀ v, v ≤ 3 → nI v ≤ (3 : Int32) := fun v hv => nI_le (a := v) (b := 3) hv (by omega)
      have hgo := dk_goe (Ls := Ls) (A := A) (d := d) (by rw [a68]; exact h) (p := p) (x := 3 - k) (by rw [a68, hn]; omega) (by omega) (T := T) a3 (by rw [a68, a1 76 (by decide)]; exact h76 p (by omega)) (fun hx => by rw [a68]; exact a4 _ hx)
      rw [a68] at hgo
      have r75 : ∀ (B : hd_Mem) (w : Int32) q, q < p → hd_set B 75 p w 75 q = B 75 q := fun B w q hq => hd_set_nj (by omega)
      have rof : ∀ (B : hd_Mem) (w : Int32) (s : Option (Nat × Nat)), dk_rep n B s → dk_rep n (hd_set B 75 p w) s := by
        intro B w s hB
        match s, hB with
        | none, hB => exact ⟨by rw [hd_set_ne (by decide)]; exact hB.1, by rw [hd_set_ne (by decide)]; exact hB.2⟩
        | some (b, k), hB => exact ⟨by rw [hd_set_ne (by decide)]; exact hB.1, by rw [hd_set_ne (by decide)]; exact hB.2.1, hB.2.2.1, by rw [hd_set_ne (by decide)]; exact hB.2.2.2⟩
      -- the next place of this person
      have step : ∀ (B : hd_Mem) (s' : Option (Nat × Nat)), (∀ c, c ∉ [67, 74, 75] → B c = M1 c) → (∀ j, j ≠ 8 → j ≠ 9 → B 67 j = M1 67 j) → (∀ q, q < p → B 75 q = nI (T q)) → dk_rep n B s' → dk_fo s' (dk_tk (dk_up (M1 68) d) (dk_fin (M1 68)) 0 p T k) = dk_fo s (dk_tk (dk_up (M1 68) d) (dk_fin (M1 68)) 0 p T (k + 1)) → hd_E Ls M_findPlan (54, [.ref 67, .int (nI d), .int (nI n), .int (nI p)], [], hd_set B 75 p (nI (4 - k))) Q := by
        intro B s' b1 b2 b3 b4 b5
        refine ih (by omega) _ s' T (fun c hc => by rw [hd_set_ne (by rintro rfl; simp at hc)]; exact b1 c hc) (fun j j8 j9 => by rw [hd_set_ne (by decide)]; exact b2 j j8 j9) (fun q hq => ⟨by rw [r75 _ _ _ hq]; exact b3 q hq, (a3 q hq).2⟩) a4 hd_set_at (rof _ _ _ b4) (fun A' c1 c2 c3 c4 => cont A' c1 c2 c3 (by rw [← b5]; exact c4))
      refine b_M_findPlan_54 (hd_okR_n rfl (show p < 9 by omega) (by omega)) (fun z => absurd z (by rw [clp, a5]; exact nle3 _ (by omega))) (fun _ => b_M_findPlan_64 (M2 := A) (hd_okR_n rfl (show p < 9 by omega) (by omega)) (by rw [clp, a5]; exact hgo) ?_)
      by_cases hc : 3 - k = 3 ∨ dk_up (M1 68) d (3 - k) (dk_gs T (3 - k) p + 2 ^ p) = true
      · rw [if_pos hc]
        have hbq : dk_bq (dk_up (M1 68) d) (dk_fin (M1 68)) 0 p T (3 - k) = dk_RT (dk_up (M1 68) d) (dk_fin (M1 68)) 0 (p + 1) (fun q => if q = p then 3 - k else T q) := if_pos hc
        obtain ⟨B, e1, e2, e3, e4⟩ := dk_end (Ls := Ls) (A := A) (d := d) (by rw [a68]; exact h) (T := fun q => if q = p then 3 - k else T q) (s := s) (by
          rw [a68, hn]
          intro q hq
          by_cases y : q = p
          · subst y
            show A 75 q = nI (if q = q then 3 - k else T q) ∧ (if q = q then 3 - k else T q) ≤ 3
            rw [if_pos rfl]
            exact ⟨a5, by omega⟩
          · show A 75 q = nI (if q = p then 3 - k else T q) ∧ (if q = p then 3 - k else T q) ≤ 3
            rw [if_neg y]
            exact a3 q (by omega)) (by
          rw [a68, hn]
          intro x hx
          rw [show n = p + 1 by omega, dk_gs_u]
          by_cases y : 3 - k = x
          · rw [if_pos y]
            rcases hc with w | w
            · omega
            · rw [← y]; exact w
          · rw [if_neg y, Nat.add_zero]; exact a4 x hx) (by rw [a68, hn]; exact a6)
        rw [a68, hn] at e4
        refine b_M_findPlan_75 (fun z => absurd z (by decide)) (fun _ => b_M_findPlan_91 (hd_okR_n rfl (show p < 9 by omega) (by omega)) (fun _ => b_M_findPlan_107 (fun _ => b_M_findPlan_114 e1 (b_M_findPlan_118 (b_M_findPlan_40 (fun z => absurd z (nI_pos (by omega))) (fun _ => b_M_findPlan_44 (hd_okR_n rfl (show p < 9 by omega) (by omega)) (hd_okW_n (by decide) rfl (show p < 9 by omega) (by omega)) ?_)))) (fun z => absurd (by rw [nI_1, show p + 1 = n by omega]) z)) (fun z => absurd (by rw [clp, a5]; exact le3 _ (by omega)) z))
        rw [clp, e2 75 (by decide), a5, hup1]
        refine step B _ (fun c hc => by rw [e2 c (by simp at hc ⊢; omega)]; exact a1 c hc) (fun j j8 j9 => by rw [e3 j j8 j9]; exact a2 j j8 j9) (fun q hq => by rw [e2 75 (by decide)]; exact (a3 q hq).1) e4 ?_
        show _ = dk_fo s (dk_bq (dk_up (M1 68) d) (dk_fin (M1 68)) 0 p T (3 - k) ++ dk_tk (dk_up (M1 68) d) (dk_fin (M1 68)) 0 p T k)
        rw [hbq, dk_fo_app, show p + 1 = n by omega]
      · rw [if_neg hc]
        have hbq : dk_bq (dk_up (M1 68) d) (dk_fin (M1 68)) 0 p T (3 - k) = [] := if_neg hc
        refine b_M_findPlan_75 (fun _ => b_M_findPlan_78 (hd_okR_n rfl (show p < 9 by omega) (by omega)) (hd_okW_n (by decide) rfl (show p < 9 by omega) (by omega)) ?_) (fun z => absurd rfl z)
        rw [clp, a5, hup1]
        refine step A s a1 a2 (fun q hq => (a3 q hq).1) a6 ?_
        show _ = dk_fo s (dk_bq (dk_up (M1 68) d) (dk_fin (M1 68)) 0 p T (3 - k) ++ dk_tk (dk_up (M1 68) d) (dk_fin (M1 68)) 0 p T k)
        rw [hbq, List.nil_append]
  | succ m ihm =>
    intro p hp k
    induction k with
    | zero =>
      intro hk A s T a1 a2 a3 a4 a5 a6 cont
      have clp : (nI p).toNatClampNeg = p := nI_clamp (by omega)
      refine b_M_findPlan_54 (hd_okR_n rfl (show p < 9 by omega) (by omega)) (fun _ => b_M_findPlan_91 (hd_okR_n rfl (show p < 9 by omega) (by omega)) (fun z => absurd z (by rw [clp, a5]; decide)) (fun _ => b_M_findPlan_101 ?_)) (fun z => absurd (by rw [clp, a5]; decide) z)
      rw [dk_neg1]
      exact cont A a1 a2 (fun q hq => (a3 q hq).1) (by rw [show dk_tk (dk_up (M1 68) d) (dk_fin (M1 68)) (m + 1) p T 0 = [] from rfl, dk_fo0]; exact a6)
    | succ k ih =>
      intro hk A s T a1 a2 a3 a4 a5 a6 cont
      have clp : (nI p).toNatClampNeg = p := nI_clamp (by omega)
      have clp1 : (nI (p + 1)).toNatClampNeg = p + 1 := nI_clamp (by omega)
      have a68 : A 68 = M1 68 := a1 68 (by decide)
      have hv : 4 - (k + 1) = 3 - k := by omega
      rw [hv] at a5
      have hup1 : nI (3 - k) + 1 = nI (4 - k) := by rw [nI_1, show 3 - k + 1 = 4 - k by omega]
      have nle3 : ∀ v, v ≤ 3 → ¬ (3 : Int32) < nI v := fun v hv => nI_nlt (b := v) (a := 3) hv (by omega)
      have le3 : ∀ v, v ≤ 3 → nI v ≤ (3 : Int32) := fun v hv => nI_le (a := v) (b := 3) hv (by omega)
      have hgo := dk_goe (Ls := Ls) (A := A) (d := d) (by rw [a68]; exact h) (p := p) (x := 3 - k) (by rw [a68, hn]; omega) (by omega) (T := T) a3 (by rw [a68, a1 76 (by decide)]; exact h76 p (by omega)) (fun hx => by rw [a68]; exact a4 _ hx)
      rw [a68] at hgo
      have rof : ∀ (B : hd_Mem) (i : Nat) (w : Int32) (s : Option (Nat × Nat)), dk_rep n B s → dk_rep n (hd_set B 75 i w) s := by
        intro B i w s hB
        match s, hB with
        | none, hB => exact ⟨by rw [hd_set_ne (by decide)]; exact hB.1, by rw [hd_set_ne (by decide)]; exact hB.2⟩
        | some (b, k), hB => exact ⟨by rw [hd_set_ne (by decide)]; exact hB.1, by rw [hd_set_ne (by decide)]; exact hB.2.1, hB.2.2.1, by rw [hd_set_ne (by decide)]; exact hB.2.2.2⟩
      have step : ∀ (B : hd_Mem) (s' : Option (Nat × Nat)), (∀ c, c ∉ [67, 74, 75] → B c = M1 c) → (∀ j, j ≠ 8 → j ≠ 9 → B 67 j = M1 67 j) → (∀ q, q < p → B 75 q = nI (T q)) → dk_rep n B s' → dk_fo s' (dk_tk (dk_up (M1 68) d) (dk_fin (M1 68)) (m + 1) p T k) = dk_fo s (dk_tk (dk_up (M1 68) d) (dk_fin (M1 68)) (m + 1) p T (k + 1)) → hd_E Ls M_findPlan (54, [.ref 67, .int (nI d), .int (nI n), .int (nI p)], [], hd_set B 75 p (nI (4 - k))) Q := by
        intro B s' b1 b2 b3 b4 b5
        refine ih (by omega) _ s' T (fun c hc => by rw [hd_set_ne (by rintro rfl; simp at hc)]; exact b1 c hc) (fun j j8 j9 => by rw [hd_set_ne (by decide)]; exact b2 j j8 j9) (fun q hq => ⟨by rw [hd_set_nj (by omega)]; exact b3 q hq, (a3 q hq).2⟩) a4 hd_set_at (rof _ _ _ _ b4) (fun A' c1 c2 c3 c4 => cont A' c1 c2 c3 (by rw [← b5]; exact c4))
      refine b_M_findPlan_54 (hd_okR_n rfl (show p < 9 by omega) (by omega)) (fun z => absurd z (by rw [clp, a5]; exact nle3 _ (by omega))) (fun _ => b_M_findPlan_64 (M2 := A) (hd_okR_n rfl (show p < 9 by omega) (by omega)) (by rw [clp, a5]; exact hgo) ?_)
      by_cases hc : 3 - k = 3 ∨ dk_up (M1 68) d (3 - k) (dk_gs T (3 - k) p + 2 ^ p) = true
      · rw [if_pos hc]
        have hbq : dk_bq (dk_up (M1 68) d) (dk_fin (M1 68)) (m + 1) p T (3 - k) = dk_RT (dk_up (M1 68) d) (dk_fin (M1 68)) (m + 1) (p + 1) (fun q => if q = p then 3 - k else T q) := if_pos hc
        refine b_M_findPlan_75 (fun z => absurd z (by decide)) (fun _ => b_M_findPlan_91 (hd_okR_n rfl (show p < 9 by omega) (by omega)) (fun _ => b_M_findPlan_107 (fun z => absurd z (by rw [nI_1, nI_eq (by omega) (by omega)]; omega)) (fun _ => b_M_findPlan_121 (by rw [nI_1]; exact hd_okW_n (by decide) rfl (show p + 1 < 9 by omega) (by omega)) ?_)) (fun z => absurd (by rw [clp, a5]; exact le3 _ (by omega)) z))
        rw [nI_1, clp1]
        refine b_M_findPlan_40 (fun z => absurd z (nI_pos (by omega))) (fun _ => b_M_findPlan_44 (hd_okR_n rfl (show p + 1 < 9 by omega) (by omega)) (hd_okW_n (by decide) rfl (show p + 1 < 9 by omega) (by omega)) ?_)
        rw [clp1, hd_set_at]
        refine ihm (p + 1) (by omega) 4 (by omega) _ s (fun q => if q = p then 3 - k else T q) (fun c hc => by rw [hd_set_ne (by rintro rfl; simp at hc), hd_set_ne (by rintro rfl; simp at hc)]; exact a1 c hc) (fun j j8 j9 => by rw [hd_set_ne (by decide), hd_set_ne (by decide)]; exact a2 j j8 j9) (fun q hq => ?_) (fun x hx => ?_) ?_ (rof _ _ _ _ (rof _ _ _ _ a6)) (fun A' c1 c2 c3 c4 => ?_)
        · rw [hd_set_nj (by omega), hd_set_nj (by omega)]
          by_cases y : q = p
          · subst y
            show A 75 q = nI (if q = q then 3 - k else T q) ∧ (if q = q then 3 - k else T q) ≤ 3
            rw [if_pos rfl]
            exact ⟨a5, by omega⟩
          · show A 75 q = nI (if q = p then 3 - k else T q) ∧ (if q = p then 3 - k else T q) ≤ 3
            rw [if_neg y]
            exact a3 q (by omega)
        · rw [dk_gs_u]
          by_cases y : 3 - k = x
          · rw [if_pos y]
            rcases hc with w | w
            · omega
            · rw [← y]; exact w
          · rw [if_neg y, Nat.add_zero]; exact a4 x hx
        · rw [hd_set_at]
          decide
        · rw [nI_pred]
          have a5' : A' 75 p = nI (3 - k) := by
            have := c3 p (by omega)
            rw [if_pos rfl] at this
            exact this
          refine b_M_findPlan_40 (fun z => absurd z (nI_pos (by omega))) (fun _ => b_M_findPlan_44 (hd_okR_n rfl (show p < 9 by omega) (by omega)) (hd_okW_n (by decide) rfl (show p < 9 by omega) (by omega)) ?_)
          rw [clp, a5', hup1]
          refine step A' _ c1 c2 (fun q hq => ?_) c4 ?_
          · have := c3 q (by omega)
            rw [if_neg (by omega)] at this
            exact this
          · show _ = dk_fo s (dk_bq (dk_up (M1 68) d) (dk_fin (M1 68)) (m + 1) p T (3 - k) ++ dk_tk (dk_up (M1 68) d) (dk_fin (M1 68)) (m + 1) p T k)
            rw [hbq, dk_fo_app, dk_tk4]
      · rw [if_neg hc]
        have hbq : dk_bq (dk_up (M1 68) d) (dk_fin (M1 68)) (m + 1) p T (3 - k) = [] := if_neg hc
        refine b_M_findPlan_75 (fun _ => b_M_findPlan_78 (hd_okR_n rfl (show p < 9 by omega) (by omega)) (hd_okW_n (by decide) rfl (show p < 9 by omega) (by omega)) ?_) (fun z => absurd rfl z)
        rw [clp, a5, hup1]
        refine step A s a1 a2 (fun q hq => (a3 q hq).1) a6 ?_
        show _ = dk_fo s (dk_bq (dk_up (M1 68) d) (dk_fin (M1 68)) (m + 1) p T (3 - k) ++ dk_tk (dk_up (M1 68) d) (dk_fin (M1 68)) (m + 1) p T k)
        rw [hbq, List.nil_append]
/-- the best plan's worth and the number of plans as good, as the reference finds them -/
theorem dk_mfp {Ls : Nat} {M : hd_Mem} (h : dk_wf (M 68)) {d : Nat} (hd : d < 365) : ∃ M', hd_Rt Ls M_findPlan [.ref 67, .int (nI d)] M none M' ∧ (∀ c, c ∉ [67, 73, 74, 75, 76] → M' c = M c) ∧ (∀ j, j ≠ 8 → j ≠ 9 → M' 67 j = M 67 j) ∧ dk_rep (dk_np (M 68)) M' (some (dk_mxl (dk_F (dk_okg (M 68) d) 3 (dk_C (M 68) d)), dk_wy (dk_F (dk_okg (M 68) d) 3 (dk_C (M 68) d)))) := by
  have hn := dk_wf_n h
  have h8 := hn.2.1
  obtain ⟨B, b1, b2, b3⟩ := dk_fmy (Ls := Ls) h hd
  have b68 : B 68 = M 68 := b2 68 (by decide)
  have o1 : ∀ c, c ∉ [67, 74, 75] → (hd_set (hd_set (hd_set B 67 8 (-1)) 67 9 0) 75 0 (-1)) c = B c := fun c hc => by rw [hd_set_ne (by rintro rfl; simp at hc), hd_set_ne (by rintro rfl; simp at hc), hd_set_ne (by rintro rfl; simp at hc)]
  have o2 : ∀ j, j ≠ 8 → j ≠ 9 → (hd_set (hd_set (hd_set B 67 8 (-1)) 67 9 0) 75 0 (-1)) 67 j = B 67 j := fun j j8 j9 => by rw [hd_set_ne (by decide), hd_set_nj j9, hd_set_nj j8]
  have o3 : dk_rep (dk_np (M 68)) (hd_set (hd_set (hd_set B 67 8 (-1)) 67 9 0) 75 0 (-1)) none := ⟨by rw [hd_set_ne (by decide), hd_set_nj (by decide), hd_set_at], by rw [hd_set_ne (by decide), hd_set_at]⟩
  have o68 : (hd_set (hd_set (hd_set B 67 8 (-1)) 67 9 0) 75 0 (-1)) 68 = M 68 := by rw [o1 68 (by decide)]; exact b68
  have hfo := dk_plans_fo (V := M 68) (d := d) h8
  have hE : hd_E Ls M_findPlan (0, [.ref 67, .int (nI d), .null, .null], [], M) (fun a M' => a = none ∧ (∀ c, c ∉ [67, 73, 74, 75, 76] → M' c = M c) ∧ (∀ j, j ≠ 8 → j ≠ 9 → M' 67 j = M 67 j) ∧ dk_rep (dk_np (M 68)) M' (some (dk_mxl (dk_F (dk_okg (M 68) d) 3 (dk_C (M 68) d)), dk_wy (dk_F (dk_okg (M 68) d) 3 (dk_C (M 68) d))))) := by
    have up0 : ∀ x, x < 3 → dk_up (M 68) d x (dk_gs (fun _ => 0) x 0) = true := fun x _ => dk_up0 (M 68) d x
    have lst : ∀ A' : hd_Mem, (∀ c, c ∉ [67, 74, 75] → A' c = B c) → (∀ j, j ≠ 8 → j ≠ 9 → A' 67 j = B 67 j) → (∀ c, c ∉ [67, 73, 74, 75, 76] → A' c = M c) ∧ (∀ j, j ≠ 8 → j ≠ 9 → A' 67 j = M 67 j) := fun A' c1 c2 => ⟨fun c hc => by rw [c1 c (by simp at hc ⊢; omega)]; exact b2 c (by simp at hc ⊢; omega), fun j j8 j9 => by rw [c2 j j8 j9, b2 67 (by decide)]⟩
    refine b_M_findPlan_0 b1 ?_
    rw [hn.1]
    by_cases q : dk_np (M 68) = 0
    · obtain ⟨K, e1, e2, e3, e4⟩ := dk_end (Ls := Ls) (A := hd_set (hd_set (hd_set B 67 8 (-1)) 67 9 0) 75 0 (-1)) (d := d) (by rw [o68]; exact h) (T := fun _ => 0) (s := none) (by rw [o68, q]; intro q hq; omega) (by rw [o68, q]; exact up0) (by rw [o68]; exact o3)
      rw [o68] at e4
      have hl := lst K (fun c hc => by rw [e2 c (by simp at hc ⊢; omega)]; exact o1 c hc) (fun j j8 j9 => by rw [e3 j j8 j9]; exact o2 j j8 j9)
      refine b_M_findPlan_12 (fun _ => b_M_findPlan_35 e1 (b_M_findPlan_39 ⟨rfl, hl.1, hl.2, ?_⟩)) (fun z => absurd (by rw [q]; rfl) z)
      rw [← hfo]
      have : dk_R (dk_up (M 68) d) (dk_fin (M 68)) (dk_np (M 68)) 0 0 0 0 = dk_RT (dk_up (M 68) d) (dk_fin (M 68)) 0 (dk_np (M 68)) (fun _ => 0) := by
        rw [q]
        rfl
      rw [this]
      exact e4
    · refine b_M_findPlan_12 (fun z => absurd z (nI_ne0 (by omega) (by omega))) (fun _ => b_M_findPlan_40 (fun z => absurd z (by decide)) (fun _ => b_M_findPlan_44 (hd_okR_n (i := 0) rfl (show 0 < 9 by omega) (by omega)) (hd_okW_n (i := 0) (by decide) rfl (show 0 < 9 by omega) (by omega)) ?_))
      have e0 : ((0 : Int32)).toNatClampNeg = 0 := rfl
      rw [e0, hd_set_at]
      refine dk_dfs (M1 := B) (d := d) (n := dk_np (M 68)) (by rw [b68]; exact h) (by rw [b68]) (by rw [b68]; exact b3) (dk_np (M 68) - 1) 0 (by omega) 4 (by omega) _ none (fun _ => 0) (fun c hc => by rw [hd_set_ne (by rintro rfl; simp at hc)]; exact o1 c hc) (fun j j8 j9 => by rw [hd_set_ne (by decide)]; exact o2 j j8 j9) (fun q hq => by omega) (by rw [b68]; exact up0) (by rw [hd_set_at]; decide) ⟨by rw [hd_set_ne (by decide)]; exact o3.1, by rw [hd_set_ne (by decide)]; exact o3.2⟩ (fun A' c1 c2 _ c4 => ?_)
      have hl := lst A' c1 c2
      refine b_M_findPlan_40 (fun _ => b_M_findPlan_134 ⟨rfl, hl.1, hl.2, ?_⟩) (fun z => absurd (by decide) z)
      rw [dk_tk4, b68] at c4
      rw [← hfo]
      have : dk_R (dk_up (M 68) d) (dk_fin (M 68)) (dk_np (M 68)) 0 0 0 0 = dk_RT (dk_up (M 68) d) (dk_fin (M 68)) (dk_np (M 68) - 1 + 1) 0 (fun _ => 0) := by
        rw [show dk_np (M 68) - 1 + 1 = dk_np (M 68) by omega]
        rfl
      rw [this]
      exact c4
  obtain ⟨v, M', ⟨q1, q2⟩, q3⟩ := hd_E_det hE
  subst q1
  exact ⟨M', e_M_findPlan q3, q2⟩
