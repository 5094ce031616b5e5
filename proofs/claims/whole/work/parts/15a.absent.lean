/-! loops that end early: isAbsent, absent -/
def hd_any (p : Nat → Bool) : Nat → Bool
  | 0 => false
  | n + 1 => hd_any p n || p n
theorem hd_any_t {p : Nat → Bool} {a : Nat} (h : p a = true) : ∀ {n : Nat}, a < n → hd_any p n = true
  | 0, hn => absurd hn (by omega)
  | n + 1, hn => by
    simp only [hd_any, Bool.or_eq_true]
    by_cases z : a = n
    · right; rw [← z]; exact h
    · left; exact hd_any_t h (by omega)
theorem hd_any_f {p : Nat → Bool} : ∀ {n : Nat}, (∀ a, a < n → p a = false) → hd_any p n = false
  | 0, _ => rfl
  | n + 1, h => by
    simp only [hd_any, Bool.or_eq_false_iff]
    exact ⟨hd_any_f (fun a ha => h a (by omega)), h n (by omega)⟩
theorem hd_any_congr {p q : Nat → Bool} : ∀ {n : Nat}, (∀ a, a < n → p a = q a) → hd_any p n = hd_any q n
  | 0, _ => rfl
  | n + 1, h => by
    simp only [hd_any]
    rw [hd_any_congr (fun a ha => h a (by omega)), h n (by omega)]
def f_Ab_isAbsent (M : hd_Mem) (x1 x2 : Int32) : Int32 := if hd_any (fun a => decide (M 28 a = x1 ∧ M 29 a = x2)) (M 4 3).toNatClampNeg = true then 1 else 0
def g_Ab_isAbsent (_ : Nat) (M : hd_Mem) (_ _ : Int32) : Prop := hd_in (M 4 3) 31
theorem s_Ab_isAbsent {Ls : Nat} {M : hd_Mem} {x1 x2 : Int32} (g : g_Ab_isAbsent Ls M x1 x2) : hd_Rt Ls Ab_isAbsent [.ref 4, .int x1, .int x2] M (some (.int (f_Ab_isAbsent M x1 x2))) M := by
  obtain ⟨n, hn, e⟩ := hd_in_of g (by omega)
  have cl : (M 4 3).toNatClampNeg = n := by rw [e]; exact nI_clamp (by omega)
  refine e_Ab_isAbsent (b_Ab_isAbsent_0 ?_)
  refine hd_forP n (fun i s => s = (2, [.ref 4, .int x1, .int x2, .int (nI i)], [], M) ∧ ∀ b, b < i → decide (M 28 b = x1 ∧ M 29 b = x2) = false) ?_ ?_ _ ⟨rfl, fun b hb => absurd hb (by omega)⟩
  · rintro i s hi ⟨rfl, hb⟩ ih
    refine b_Ab_isAbsent_2 (fun h => absurd h (by rw [e]; exact hd_nle hi (by omega))) (fun _ => ?_)
    have next : decide (M 28 i = x1 ∧ M 29 i = x2) = false → hd_E Ls Ab_isAbsent (2, [.ref 4, .int x1, .int x2, .int (nI i + 1)], [], M) (fun a b => a = some (.int (f_Ab_isAbsent M x1 x2)) ∧ b = M) := fun hf => hd_E_eq (by rw [← nI_succ]) (ih _ ⟨rfl, fun b hb2 => by
      by_cases z : b = i
      · rw [z]; exact hf
      · exact hb b (by omega)⟩)
    have ci : (nI i).toNatClampNeg = i := nI_clamp (by omega)
    refine b_Ab_isAbsent_10 (hd_okR_n rfl (show i < 30 by omega) (by omega)) (fun h1 => ?_) (fun h1 => ?_)
    · rw [ci] at h1
      refine b_Ab_isAbsent_20 (hd_okR_n rfl (show i < 30 by omega) (by omega)) (fun h2 => ?_) (fun h2 => ?_)
      · rw [ci] at h2
        refine b_Ab_isAbsent_30 ⟨?_, rfl⟩
        unfold f_Ab_isAbsent
        rw [cl, if_pos (hd_any_t (a := i) (by simp [h1, h2]) hi)]
      · rw [ci] at h2
        exact b_Ab_isAbsent_32 (next (by simp [h2]))
    · rw [ci] at h1
      exact b_Ab_isAbsent_32 (next (by simp [h1]))
  · rintro s ⟨rfl, hb⟩
    refine b_Ab_isAbsent_2 (fun _ => b_Ab_isAbsent_38 ⟨?_, rfl⟩) (fun h => absurd (by rw [e]; exact Int32.le_refl _) h)
    unfold f_Ab_isAbsent
    rw [cl, if_neg (by rw [hd_any_f hb]; decide)]
def f_M_absent (M : hd_Mem) (x1 x2 : Int32) : Int32 × hd_Mem := if f_M_isPerson M x1 = 0 then f_M_finding M (-100001) else if f_M_isDay x2 = 0 then f_M_finding M (-100001) else if hd_any (fun a => decide (M 68 (369 + a) = x1 ∧ M 68 (399 + a) = x2)) (M 68 3).toNatClampNeg = true then f_M_finding M (-100003) else if M 68 3 = 30 then f_M_finding M (-100005) else
  (M 68 3, (hd_set (hd_set (hd_set (hd_set (f_M_keep M) 68 ((369 + M 68 3).toNatClampNeg) x1) 68 ((399 + M 68 3).toNatClampNeg) x2) 68 ((429 + M 68 3).toNatClampNeg) (-1)) 68 3 (((hd_set (hd_set (hd_set (f_M_keep M) 68 ((369 + M 68 3).toNatClampNeg) x1) 68 ((399 + M 68 3).toNatClampNeg) x2) 68 ((429 + M 68 3).toNatClampNeg) (-1)) 68 3) + 1)))
theorem s_M_absent {Ls : Nat} {M : hd_Mem} {x1 x2 : Int32} (g : hd_in (M 68 3) 31) (gk : g_M_keep Ls M) : hd_Rt Ls M_absent [.ref 67, .int x1, .int x2] M (some (.int (f_M_absent M x1 x2).1)) (f_M_absent M x1 x2).2 := by
  obtain ⟨n, hn, e⟩ := hd_in_of g (by omega)
  have cl : (M 68 3).toNatClampNeg = n := by rw [e]; exact nI_clamp (by omega)
  refine e_M_absent (b_M_absent_0 s_M_isPerson (b_M_absent_5 (fun h0 => ?_) (fun h0 => ?_)))
  · refine b_M_absent_15 s_M_finding (b_M_absent_21 ?_)
    unfold f_M_absent
    rw [if_pos h0]
    exact ⟨rfl, rfl⟩
  refine b_M_absent_8 s_M_isDay (b_M_absent_12 (fun h1 => ?_) (fun h1 => ?_))
  · refine b_M_absent_15 s_M_finding (b_M_absent_21 ?_)
    unfold f_M_absent
    rw [if_neg h0, if_pos h1]
    exact ⟨rfl, rfl⟩
  refine b_M_absent_22 ?_
  refine hd_forP n (fun i s => s = (32, [.ref 67, .int x1, .int x2, .int (M 68 3), .int (nI i)], [], M) ∧ ∀ b, b < i → decide (M 68 (369 + b) = x1 ∧ M 68 (399 + b) = x2) = false) ?_ ?_ _ ⟨rfl, fun b hb => absurd hb (by omega)⟩
  · rintro i s hi ⟨rfl, hb⟩ ih
    refine b_M_absent_32 (fun h => absurd h (by rw [e]; exact hd_nle hi (by omega))) (fun _ => ?_)
    have next : decide (M 68 (369 + i) = x1 ∧ M 68 (399 + i) = x2) = false → hd_E Ls M_absent (32, [.ref 67, .int x1, .int x2, .int (M 68 3), .int (nI i + 1)], [], M) (fun a b => a = some (.int (f_M_absent M x1 x2).1) ∧ b = (f_M_absent M x1 x2).2) := fun hf => hd_E_eq (by rw [← nI_succ]) (ih _ ⟨rfl, fun b hb2 => by
      by_cases z : b = i
      · rw [z]; exact hf
      · exact hb b (by omega)⟩)
    have c1 : (369 + nI i).toNatClampNeg = 369 + i := dk_ix (a := 369) (b := i) (by omega)
    have c2 : (399 + nI i).toNatClampNeg = 399 + i := dk_ix (a := 399) (b := i) (by omega)
    refine b_M_absent_38 (by rw [show (369 : Int32) + nI i = nI 369 + nI i from rfl, nI_add]; exact hd_okR_n rfl (show 369 + i < 459 by omega) (by omega)) (fun z1 => ?_) (fun z1 => ?_)
    · rw [c1] at z1
      refine b_M_absent_53 (by rw [show (399 : Int32) + nI i = nI 399 + nI i from rfl, nI_add]; exact hd_okR_n rfl (show 399 + i < 459 by omega) (by omega)) (fun z2 => ?_) (fun z2 => ?_)
      · rw [c2] at z2
        refine b_M_absent_68 s_M_finding (b_M_absent_74 ?_)
        unfold f_M_absent
        rw [if_neg h0, if_neg h1, cl, if_pos (hd_any_t (a := i) (by simp [z1, z2]) hi)]
        exact ⟨rfl, rfl⟩
      · rw [c2] at z2
        exact b_M_absent_75 (next (by simp [z2]))
    · rw [c1] at z1
      exact b_M_absent_75 (next (by simp [z1]))
  · rintro s ⟨rfl, hb⟩
    refine b_M_absent_32 (fun _ => ?_) (fun h => absurd (by rw [e]; exact Int32.le_refl _) h)
    refine b_M_absent_81 (fun z => ?_) (fun z => ?_)
    · refine b_M_absent_87 s_M_finding (b_M_absent_93 ?_)
      unfold f_M_absent
      rw [if_neg h0, if_neg h1, cl, if_neg (by rw [hd_any_f hb]; decide), if_pos z]
      exact ⟨rfl, rfl⟩
    · have hn30 : n ≠ 30 := by rintro rfl; exact z e
      refine b_M_absent_94 (s_M_keep gk) (b_M_absent_98 ?_ ?_ ?_ ?_)
      · rw [e, show (369 : Int32) + nI n = nI 369 + nI n from rfl, nI_add]; exact hd_okW_n (by decide) rfl (show 369 + n < 459 by omega) (by omega)
      · rw [e, show (399 : Int32) + nI n = nI 399 + nI n from rfl, nI_add]; exact hd_okW_n (by decide) rfl (show 399 + n < 459 by omega) (by omega)
      · rw [e, show (429 : Int32) + nI n = nI 429 + nI n from rfl, nI_add]; exact hd_okW_n (by decide) rfl (show 429 + n < 459 by omega) (by omega)
      · unfold f_M_absent
        rw [if_neg h0, if_neg h1, cl, if_neg (by rw [hd_any_f hb]; decide), if_neg z]
        exact ⟨rfl, rfl⟩
