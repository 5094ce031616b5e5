/-! what may stand in the state stays so -/
def dk_fit (q : Nat) (x : Int32) : Prop := (q = 4 → hd_in x 301) ∧ (q = 5 → hd_in x 101) ∧ (6 ≤ q → q < 14 → hd_in x 4) ∧ (14 ≤ q → q < 22 → hd_in x 301 ∧ ¬ x = 0) ∧ (22 ≤ q → q < 30 → hd_in x 128) ∧ (30 ≤ q → q < 38 → hd_in x 16) ∧ (38 ≤ q → q < 46 → hd_in x 365) ∧ ¬ (46 ≤ q ∧ q < 54) ∧
  (54 ≤ q → q < 57 → hd_in x 128) ∧ (57 ≤ q → q < 60 → hd_in x 16) ∧ (60 ≤ q → q < 63 → hd_in x 2) ∧ (63 ≤ q → q < 66 → hd_in x 9 ∧ ¬ x = 0) ∧ (66 ≤ q → q < 69 → hd_in x 9 ∧ ¬ x = 0) ∧ ¬ (69 ≤ q ∧ q < 369) ∧ (369 ≤ q → q < 399 → hd_in x 8) ∧ (399 ≤ q → q < 429 → hd_in x 365) ∧ (429 ≤ q → q < 459 → x = -1 ∨ hd_in x 365)
theorem dk_upd_or {V : Nat → Int32} {q k : Nat} {x : Int32} {P : Int32 → Prop} (h1 : k = q → P x) (h2 : P (V k)) : P (upd V q x k) := by
  by_cases h : k = q
  · rw [h, pk_us]; exact h1 h
  · rw [pk_un h]; exact h2
theorem dk_wf_set {V : Nat → Int32} {q : Nat} {x : Int32} (h : dk_wf V) (hq : 4 ≤ q) (hf : dk_fit q x) : dk_wf (upd V q x) := by
  have hn := dk_wf_n h
  obtain ⟨h0, h1, h2, h3, h4, h5, hP, hL, hE, hA, hB⟩ := h
  obtain ⟨f4, f5, f6, f14, f22, f30, f38, f46, f54, f57, f60, f63, f66, f69, f369, f399, f429⟩ := hf
  have u : ∀ k, k < 4 → upd V q x k = V k := fun k hk => pk_un (by omega)
  have n0 : dk_np (upd V q x) = dk_np V := by rw [dk_np, u 0 (by omega)]
  have n1 : dk_nl (upd V q x) = dk_nl V := by rw [dk_nl, u 1 (by omega)]
  have n2 : dk_ne (upd V q x) = dk_ne V := by rw [dk_ne, u 2 (by omega)]
  have n3 : dk_na (upd V q x) = dk_na V := by rw [dk_na, u 3 (by omega)]
  refine ⟨by rw [u 0 (by omega)]; exact h0, by rw [u 1 (by omega)]; exact h1, by rw [u 2 (by omega)]; exact h2, by rw [u 3 (by omega)]; exact h3, dk_upd_or (P := fun z => hd_in z 301) (fun e => f4 e.symm) h4, dk_upd_or (P := fun z => hd_in z 101) (fun e => f5 e.symm) h5, fun p hp => ?_, fun p hp => ?_, fun p hp => ?_, fun p hp => ?_, fun p hp => ?_⟩
  · rw [n0] at hp
    obtain ⟨a1, a2, a3, a4, a5, a6⟩ := hP p hp
    have hp8 : p < 8 := by omega
    exact ⟨dk_upd_or (P := fun z => hd_in z 4) (fun e => f6 (by omega) (by omega)) a1, dk_upd_or (P := fun z => hd_in z 301) (fun e => (f14 (by omega) (by omega)).1) a2, dk_upd_or (P := fun z => ¬ z = 0) (fun e => (f14 (by omega) (by omega)).2) a3, dk_upd_or (P := fun z => hd_in z 128) (fun e => f22 (by omega) (by omega)) a4, dk_upd_or (P := fun z => hd_in z 16) (fun e => f30 (by omega) (by omega)) a5, dk_upd_or (P := fun z => hd_in z 365) (fun e => f38 (by omega) (by omega)) a6⟩
  · rw [n1] at hp
    obtain ⟨a1, a2, a3, a4, a5, a6, a7⟩ := hL p hp
    have hp8 : p < 3 := by omega
    exact ⟨dk_upd_or (P := fun z => hd_in z 128) (fun e => f54 (by omega) (by omega)) a1, dk_upd_or (P := fun z => hd_in z 16) (fun e => f57 (by omega) (by omega)) a2, dk_upd_or (P := fun z => hd_in z 2) (fun e => f60 (by omega) (by omega)) a3, dk_upd_or (P := fun z => hd_in z 9) (fun e => (f63 (by omega) (by omega)).1) a4, dk_upd_or (P := fun z => hd_in z 9) (fun e => (f66 (by omega) (by omega)).1) a5, dk_upd_or (P := fun z => ¬ z = 0) (fun e => (f63 (by omega) (by omega)).2) a6, dk_upd_or (P := fun z => ¬ z = 0) (fun e => (f66 (by omega) (by omega)).2) a7⟩
  · rw [n2] at hp
    have := hE p hp
    have hp8 : p < 60 := by omega
    unfold dk_wfE at this ⊢
    rwa [pk_un (by omega), pk_un (by omega), pk_un (by omega), pk_un (by omega), pk_un (by omega)]
  · rw [n3] at hp
    obtain ⟨a1, a2, a3⟩ := hA p hp
    have hp8 : p < 30 := by omega
    exact ⟨dk_upd_or (P := fun z => hd_in z 8) (fun e => f369 (by omega) (by omega)) a1, dk_upd_or (P := fun z => hd_in z 365) (fun e => f399 (by omega) (by omega)) a2, dk_upd_or (P := fun z => z = -1 ∨ hd_in z 365) (fun e => f429 (by omega) (by omega)) a3⟩
  · have := hB p hp
    rw [pk_un (by omega)]
    refine ⟨this.1, fun z hz hb => ?_⟩
    rw [n0, pk_un (by omega)]
    exact this.2 z hz hb
/-- places that don't count may hold anything -/
theorem dk_wf_off {V : Nat → Int32} {q : Nat} {x : Int32} (h : dk_wf V) (hq : ¬ dk_lv V q) : dk_wf (upd V q x) := dk_wf_live (dk_live_symm (dk_live_off dk_live_rfl hq)) h
theorem dk_wf_cnt {V : Nat → Int32} {q k : Nat} (h : dk_wf V) (hq : q < 4) (hin : (q = 0 → k < 9 ∧ ∀ p, dk_np V ≤ p → p < k → dk_wfP V p) ∧ (q = 1 → k < 4 ∧ ∀ p, dk_nl V ≤ p → p < k → dk_wfL V p) ∧ (q = 2 → k < 61 ∧ ∀ p, dk_ne V ≤ p → p < k → dk_wfE V p) ∧ (q = 3 → k < 31 ∧ ∀ p, dk_na V ≤ p → p < k → dk_wfA V p)) (hb : q = 0 → dk_np V ≤ k ∨ ∀ p, k ≤ p → p < 8 → V (46 + p) = 0 ∧ ∀ r, r < 8 → ¬ dk_bit (V (46 + r)) p) : dk_wf (upd V q (nI k)) := by
  have hn := dk_wf_n h
  obtain ⟨h0, h1, h2, h3, h4, h5, hP, hL, hE, hA, hB⟩ := h
  obtain ⟨i0, i1, i2, i3⟩ := hin
  have u : ∀ j, 4 ≤ j → upd V q (nI k) j = V j := fun j hj => pk_un (by omega)
  have uP : ∀ p, dk_wfP (upd V q (nI k)) p ↔ dk_wfP V p := fun p => by unfold dk_wfP; rw [u _ (by omega), u _ (by omega), u _ (by omega), u _ (by omega), u _ (by omega)]
  have uL : ∀ p, dk_wfL (upd V q (nI k)) p ↔ dk_wfL V p := fun p => by unfold dk_wfL; rw [u _ (by omega), u _ (by omega), u _ (by omega), u _ (by omega), u _ (by omega)]
  have uE : ∀ p, dk_wfE (upd V q (nI k)) p ↔ dk_wfE V p := fun p => by unfold dk_wfE; rw [u _ (by omega), u _ (by omega), u _ (by omega), u _ (by omega), u _ (by omega)]
  have uA : ∀ p, dk_wfA (upd V q (nI k)) p ↔ dk_wfA V p := fun p => by unfold dk_wfA; rw [u _ (by omega), u _ (by omega), u _ (by omega)]
  rcases (show q = 0 ∨ q = 1 ∨ q = 2 ∨ q = 3 by omega) with rfl | rfl | rfl | rfl
  · obtain ⟨j1, j2⟩ := i0 rfl
    have e0 : dk_np (upd V 0 (nI k)) = k := by rw [dk_np, pk_us]; exact nI_clamp (by omega)
    refine ⟨by rw [pk_us]; exact hd_in_nI j1 (by omega), by rw [pk_un (by omega)]; exact h1, by rw [pk_un (by omega)]; exact h2, by rw [pk_un (by omega)]; exact h3, by rw [u 4 (by omega)]; exact h4, by rw [u 5 (by omega)]; exact h5, fun p hp => ?_, fun p hp => ?_, fun p hp => ?_, fun p hp => ?_, fun p hp => ?_⟩
    · rw [e0] at hp
      rw [uP]
      by_cases z : p < dk_np V
      · exact hP p z
      · exact j2 p (by omega) hp
    · rw [uL]; exact hL p hp
    · rw [uE]; exact hE p hp
    · rw [uA]; exact hA p hp
    · rw [u _ (by omega), e0]
      refine ⟨(hB p hp).1, fun r hr hbt => ?_⟩
      obtain ⟨b1, b2, b3, b4⟩ := (hB p hp).2 r hr hbt
      rw [u _ (by omega)]
      rcases hb rfl with z | z
      · exact ⟨b1, by omega, by omega, b4⟩
      · refine ⟨b1, ?_, ?_, b4⟩
        · by_cases y : p < k
          · exact y
          · exact absurd b4 ((z p (by omega) hp).2 r hr)
        · by_cases y : r < k
          · exact y
          · exact absurd hbt ((z r (by omega) hr).2 p hp)
  · obtain ⟨j1, j2⟩ := i1 rfl
    have e0 : dk_nl (upd V 1 (nI k)) = k := by rw [dk_nl, pk_us]; exact nI_clamp (by omega)
    have e1 : dk_np (upd V 1 (nI k)) = dk_np V := by rw [dk_np, pk_un (by omega)]
    refine ⟨by rw [pk_un (by omega)]; exact h0, by rw [pk_us]; exact hd_in_nI j1 (by omega), by rw [pk_un (by omega)]; exact h2, by rw [pk_un (by omega)]; exact h3, by rw [u 4 (by omega)]; exact h4, by rw [u 5 (by omega)]; exact h5, fun p hp => ?_, fun p hp => ?_, fun p hp => ?_, fun p hp => ?_, fun p hp => ?_⟩
    · rw [uP]; exact hP p hp
    · rw [e0] at hp
      rw [uL]
      by_cases z : p < dk_nl V
      · exact hL p z
      · exact j2 p (by omega) hp
    · rw [uE]; exact hE p hp
    · rw [uA]; exact hA p hp
    · rw [u _ (by omega), e1]
      refine ⟨(hB p hp).1, fun r hr hbt => ?_⟩
      rw [u _ (by omega)]
      exact (hB p hp).2 r hr hbt
  · obtain ⟨j1, j2⟩ := i2 rfl
    have e0 : dk_ne (upd V 2 (nI k)) = k := by rw [dk_ne, pk_us]; exact nI_clamp (by omega)
    have e1 : dk_np (upd V 2 (nI k)) = dk_np V := by rw [dk_np, pk_un (by omega)]
    refine ⟨by rw [pk_un (by omega)]; exact h0, by rw [pk_un (by omega)]; exact h1, by rw [pk_us]; exact hd_in_nI j1 (by omega), by rw [pk_un (by omega)]; exact h3, by rw [u 4 (by omega)]; exact h4, by rw [u 5 (by omega)]; exact h5, fun p hp => ?_, fun p hp => ?_, fun p hp => ?_, fun p hp => ?_, fun p hp => ?_⟩
    · rw [uP]; exact hP p hp
    · rw [uL]; exact hL p hp
    · rw [e0] at hp
      rw [uE]
      by_cases z : p < dk_ne V
      · exact hE p z
      · exact j2 p (by omega) hp
    · rw [uA]; exact hA p hp
    · rw [u _ (by omega), e1]
      refine ⟨(hB p hp).1, fun r hr hbt => ?_⟩
      rw [u _ (by omega)]
      exact (hB p hp).2 r hr hbt
  · obtain ⟨j1, j2⟩ := i3 rfl
    have e0 : dk_na (upd V 3 (nI k)) = k := by rw [dk_na, pk_us]; exact nI_clamp (by omega)
    have e1 : dk_np (upd V 3 (nI k)) = dk_np V := by rw [dk_np, pk_un (by omega)]
    refine ⟨by rw [pk_un (by omega)]; exact h0, by rw [pk_un (by omega)]; exact h1, by rw [pk_un (by omega)]; exact h2, by rw [pk_us]; exact hd_in_nI j1 (by omega), by rw [u 4 (by omega)]; exact h4, by rw [u 5 (by omega)]; exact h5, fun p hp => ?_, fun p hp => ?_, fun p hp => ?_, fun p hp => ?_, fun p hp => ?_⟩
    · rw [uP]; exact hP p hp
    · rw [uL]; exact hL p hp
    · rw [uE]; exact hE p hp
    · rw [e0] at hp
      rw [uA]
      by_cases z : p < dk_na V
      · exact hA p z
      · exact j2 p (by omega) hp
    · rw [u _ (by omega), e1]
      refine ⟨(hB p hp).1, fun r hr hbt => ?_⟩
      rw [u _ (by omega)]
      exact (hB p hp).2 r hr hbt
