/-! the law: both sides answer alike, call by call -/
theorem dk_case_person {Ls : Nat} {xs : Nat → Int32} {Q : Option Value → hd_Mem → Prop} {i : Nat} {M : hd_Mem} (I : dk_inv dk_pw xs M) (ok : ∀ k, k < 6 → hd_okR Ls 78 (nI i + nI k)) (next : ∀ M2, dk_inv dk_pw xs M2 → hd_E Ls Law_law (18, [.ref 78, .ref 0, .ref 67, .int (nI i + 6)], [], M2) Q) : hd_E Ls Law_law (176, [.ref 78, .ref 0, .ref 67, .int (nI i)], [], M) Q := by
  obtain ⟨r, M1, M2, h1, h2, I2⟩ := dk_same_person (Ls := Ls) I (M 78 (nI i + 1).toNatClampNeg) (M 78 (nI i + 2).toNatClampNeg) (M 78 (nI i + 3).toNatClampNeg) (M 78 (nI i + 4).toNatClampNeg) (M 78 (nI i + 5).toNatClampNeg)
  have e78 := hd_Rt_78 h1
  have nx := next M2 I2
  rw [← e78] at h2
  exact b_Law_law_176 (ok 1 (by omega)) (ok 2 (by omega)) (ok 3 (by omega)) (ok 4 (by omega)) (ok 5 (by omega)) h1 (b_Law_law_205 (ok 1 (by omega)) (ok 2 (by omega)) (ok 3 (by omega)) (ok 4 (by omega)) (ok 5 (by omega)) h2 (b_Law_law_234 (fun _ => b_Law_law_1400 nx) (fun z => absurd rfl z)))
theorem dk_case_as {Ls : Nat} {xs : Nat → Int32} {Q : Option Value → hd_Mem → Prop} {i : Nat} {M : hd_Mem} (I : dk_inv dk_pw xs M) (ok : ∀ k, k < 6 → hd_okR Ls 78 (nI i + nI k)) (next : ∀ M2, dk_inv dk_pw xs M2 → hd_E Ls Law_law (18, [.ref 78, .ref 0, .ref 67, .int (nI i + 6)], [], M2) Q) : hd_E Ls Law_law (239, [.ref 78, .ref 0, .ref 67, .int (nI i)], [], M) Q := by
  obtain ⟨r, M1, M2, h1, h2, I2⟩ := dk_same_as (Ls := Ls) I (M 78 (nI i + 1).toNatClampNeg) (M 78 (nI i + 2).toNatClampNeg)
  have e78 := hd_Rt_78 h1
  have nx := next M2 I2
  rw [← e78] at h2
  exact b_Law_law_239 (ok 1 (by omega)) (ok 2 (by omega)) h1 (b_Law_law_253 (ok 1 (by omega)) (ok 2 (by omega)) h2 (b_Law_law_267 (fun _ => b_Law_law_1400 nx) (fun z => absurd rfl z)))
theorem dk_case_of {Ls : Nat} {xs : Nat → Int32} {Q : Option Value → hd_Mem → Prop} {i : Nat} {M : hd_Mem} (I : dk_inv dk_pw xs M) (ok : ∀ k, k < 6 → hd_okR Ls 78 (nI i + nI k)) (next : ∀ M2, dk_inv dk_pw xs M2 → hd_E Ls Law_law (18, [.ref 78, .ref 0, .ref 67, .int (nI i + 6)], [], M2) Q) : hd_E Ls Law_law (272, [.ref 78, .ref 0, .ref 67, .int (nI i)], [], M) Q := by
  obtain ⟨r, M1, M2, h1, h2, I2⟩ := dk_same_of (Ls := Ls) I (M 78 (nI i + 1).toNatClampNeg) (M 78 (nI i + 2).toNatClampNeg)
  have e78 := hd_Rt_78 h1
  have nx := next M2 I2
  rw [← e78] at h2
  exact b_Law_law_272 (ok 1 (by omega)) (ok 2 (by omega)) h1 (b_Law_law_286 (ok 1 (by omega)) (ok 2 (by omega)) h2 (b_Law_law_300 (fun _ => b_Law_law_1400 nx) (fun z => absurd rfl z)))
theorem dk_case_extend {Ls : Nat} {xs : Nat → Int32} {Q : Option Value → hd_Mem → Prop} {i : Nat} {M : hd_Mem} (I : dk_inv dk_pw xs M) (ok : ∀ k, k < 6 → hd_okR Ls 78 (nI i + nI k)) (next : ∀ M2, dk_inv dk_pw xs M2 → hd_E Ls Law_law (18, [.ref 78, .ref 0, .ref 67, .int (nI i + 6)], [], M2) Q) : hd_E Ls Law_law (305, [.ref 78, .ref 0, .ref 67, .int (nI i)], [], M) Q := by
  obtain ⟨r, M1, M2, h1, h2, I2⟩ := dk_same_extend (Ls := Ls) I (M 78 (nI i + 1).toNatClampNeg) (M 78 (nI i + 2).toNatClampNeg)
  have e78 := hd_Rt_78 h1
  have nx := next M2 I2
  rw [← e78] at h2
  exact b_Law_law_305 (ok 1 (by omega)) (ok 2 (by omega)) h1 (b_Law_law_319 (ok 1 (by omega)) (ok 2 (by omega)) h2 (b_Law_law_333 (fun _ => b_Law_law_1400 nx) (fun z => absurd rfl z)))
theorem dk_case_free {Ls : Nat} {xs : Nat → Int32} {Q : Option Value → hd_Mem → Prop} {i : Nat} {M : hd_Mem} (I : dk_inv dk_pw xs M) (ok : ∀ k, k < 6 → hd_okR Ls 78 (nI i + nI k)) (next : ∀ M2, dk_inv dk_pw xs M2 → hd_E Ls Law_law (18, [.ref 78, .ref 0, .ref 67, .int (nI i + 6)], [], M2) Q) : hd_E Ls Law_law (338, [.ref 78, .ref 0, .ref 67, .int (nI i)], [], M) Q := by
  obtain ⟨r, M1, M2, h1, h2, I2⟩ := dk_same_free (Ls := Ls) I (M 78 (nI i + 1).toNatClampNeg) (M 78 (nI i + 2).toNatClampNeg)
  have e78 := hd_Rt_78 h1
  have nx := next M2 I2
  rw [← e78] at h2
  exact b_Law_law_338 (ok 1 (by omega)) (ok 2 (by omega)) h1 (b_Law_law_352 (ok 1 (by omega)) (ok 2 (by omega)) h2 (b_Law_law_366 (fun _ => b_Law_law_1400 nx) (fun z => absurd rfl z)))
theorem dk_case_place {Ls : Nat} {xs : Nat → Int32} {Q : Option Value → hd_Mem → Prop} {i : Nat} {M : hd_Mem} (I : dk_inv dk_pw xs M) (ok : ∀ k, k < 6 → hd_okR Ls 78 (nI i + nI k)) (next : ∀ M2, dk_inv dk_pw xs M2 → hd_E Ls Law_law (18, [.ref 78, .ref 0, .ref 67, .int (nI i + 6)], [], M2) Q) : hd_E Ls Law_law (371, [.ref 78, .ref 0, .ref 67, .int (nI i)], [], M) Q := by
  by_cases c : M 78 (nI i + 3).toNatClampNeg = 0
  · skip
    obtain ⟨r, M1, M2, h1, h2, I2⟩ := dk_same_place (Ls := Ls) I (M 78 (nI i + 1).toNatClampNeg) (M 78 (nI i + 2).toNatClampNeg) 0 (M 78 (nI i + 4).toNatClampNeg) (M 78 (nI i + 5).toNatClampNeg) (Or.inl rfl)
    have e78 := hd_Rt_78 h1
    have nx := next M2 I2
    rw [← e78] at h2
    have c2 : M1 78 (nI i + 3).toNatClampNeg = 0 := by rw [e78]; exact c
    exact b_Law_law_371 (ok 1 (by omega)) (ok 2 (by omega)) (ok 3 (by omega)) (fun _ => b_Law_law_394 (ok 4 (by omega)) (ok 5 (by omega)) h1 (b_Law_law_408 (ok 1 (by omega)) (ok 2 (by omega)) (ok 3 (by omega)) (fun _ => b_Law_law_431 (ok 4 (by omega)) (ok 5 (by omega)) h2 (b_Law_law_445 (fun _ => b_Law_law_1400 nx) (fun z => absurd rfl z))) (fun z => absurd c2 z))) (fun z => absurd c z)
  · skip
    obtain ⟨r, M1, M2, h1, h2, I2⟩ := dk_same_place (Ls := Ls) I (M 78 (nI i + 1).toNatClampNeg) (M 78 (nI i + 2).toNatClampNeg) 1 (M 78 (nI i + 4).toNatClampNeg) (M 78 (nI i + 5).toNatClampNeg) (Or.inr rfl)
    have e78 := hd_Rt_78 h1
    have nx := next M2 I2
    rw [← e78] at h2
    have c2 : ¬ M1 78 (nI i + 3).toNatClampNeg = 0 := by rw [e78]; exact c
    exact b_Law_law_371 (ok 1 (by omega)) (ok 2 (by omega)) (ok 3 (by omega)) (fun z => absurd z c) (fun _ => b_Law_law_390 (ok 4 (by omega)) (ok 5 (by omega)) h1 (b_Law_law_408 (ok 1 (by omega)) (ok 2 (by omega)) (ok 3 (by omega)) (fun z => absurd z c2) (fun _ => b_Law_law_427 (ok 4 (by omega)) (ok 5 (by omega)) h2 (b_Law_law_445 (fun _ => b_Law_law_1400 nx) (fun z => absurd rfl z)))))
theorem dk_case_open {Ls : Nat} {xs : Nat → Int32} {Q : Option Value → hd_Mem → Prop} {i : Nat} {M : hd_Mem} (I : dk_inv dk_pw xs M) (ok : ∀ k, k < 6 → hd_okR Ls 78 (nI i + nI k)) (next : ∀ M2, dk_inv dk_pw xs M2 → hd_E Ls Law_law (18, [.ref 78, .ref 0, .ref 67, .int (nI i + 6)], [], M2) Q) : hd_E Ls Law_law (450, [.ref 78, .ref 0, .ref 67, .int (nI i)], [], M) Q := by
  obtain ⟨r, M1, M2, h1, h2, I2⟩ := dk_same_open (Ls := Ls) I (M 78 (nI i + 1).toNatClampNeg) (M 78 (nI i + 2).toNatClampNeg)
  have e78 := hd_Rt_78 h1
  have nx := next M2 I2
  rw [← e78] at h2
  exact b_Law_law_450 (ok 1 (by omega)) (ok 2 (by omega)) h1 (b_Law_law_464 (ok 1 (by omega)) (ok 2 (by omega)) h2 (b_Law_law_478 (fun _ => b_Law_law_1400 nx) (fun z => absurd rfl z)))
theorem dk_case_bar {Ls : Nat} {xs : Nat → Int32} {Q : Option Value → hd_Mem → Prop} {i : Nat} {M : hd_Mem} (I : dk_inv dk_pw xs M) (ok : ∀ k, k < 6 → hd_okR Ls 78 (nI i + nI k)) (next : ∀ M2, dk_inv dk_pw xs M2 → hd_E Ls Law_law (18, [.ref 78, .ref 0, .ref 67, .int (nI i + 6)], [], M2) Q) : hd_E Ls Law_law (483, [.ref 78, .ref 0, .ref 67, .int (nI i)], [], M) Q := by
  by_cases c : M 78 (nI i + 3).toNatClampNeg = 0
  · skip
    obtain ⟨r, M1, M2, h1, h2, I2⟩ := dk_same_bar (Ls := Ls) I (M 78 (nI i + 1).toNatClampNeg) (M 78 (nI i + 2).toNatClampNeg) 0 (Or.inl rfl)
    have e78 := hd_Rt_78 h1
    have nx := next M2 I2
    rw [← e78] at h2
    have c2 : M1 78 (nI i + 3).toNatClampNeg = 0 := by rw [e78]; exact c
    exact b_Law_law_483 (ok 1 (by omega)) (ok 2 (by omega)) (ok 3 (by omega)) (fun _ => b_Law_law_506 h1 (b_Law_law_510 (ok 1 (by omega)) (ok 2 (by omega)) (ok 3 (by omega)) (fun _ => b_Law_law_533 h2 (b_Law_law_537 (fun _ => b_Law_law_1400 nx) (fun z => absurd rfl z))) (fun z => absurd c2 z))) (fun z => absurd c z)
  · skip
    obtain ⟨r, M1, M2, h1, h2, I2⟩ := dk_same_bar (Ls := Ls) I (M 78 (nI i + 1).toNatClampNeg) (M 78 (nI i + 2).toNatClampNeg) 1 (Or.inr rfl)
    have e78 := hd_Rt_78 h1
    have nx := next M2 I2
    rw [← e78] at h2
    have c2 : ¬ M1 78 (nI i + 3).toNatClampNeg = 0 := by rw [e78]; exact c
    exact b_Law_law_483 (ok 1 (by omega)) (ok 2 (by omega)) (ok 3 (by omega)) (fun z => absurd z c) (fun _ => b_Law_law_502 h1 (b_Law_law_510 (ok 1 (by omega)) (ok 2 (by omega)) (ok 3 (by omega)) (fun z => absurd z c2) (fun _ => b_Law_law_529 h2 (b_Law_law_537 (fun _ => b_Law_law_1400 nx) (fun z => absurd rfl z)))))
theorem dk_case_entry {Ls : Nat} {xs : Nat → Int32} {Q : Option Value → hd_Mem → Prop} {i : Nat} {M : hd_Mem} (I : dk_inv dk_pw xs M) (ok : ∀ k, k < 6 → hd_okR Ls 78 (nI i + nI k)) (next : ∀ M2, dk_inv dk_pw xs M2 → hd_E Ls Law_law (18, [.ref 78, .ref 0, .ref 67, .int (nI i + 6)], [], M2) Q) : hd_E Ls Law_law (542, [.ref 78, .ref 0, .ref 67, .int (nI i)], [], M) Q := by
  obtain ⟨r, M1, M2, h1, h2, I2⟩ := dk_same_entry (Ls := Ls) I (M 78 (nI i + 1).toNatClampNeg) (M 78 (nI i + 2).toNatClampNeg) (M 78 (nI i + 3).toNatClampNeg) (M 78 (nI i + 4).toNatClampNeg) (M 78 (nI i + 5).toNatClampNeg)
  have e78 := hd_Rt_78 h1
  have nx := next M2 I2
  rw [← e78] at h2
  exact b_Law_law_542 (ok 1 (by omega)) (ok 2 (by omega)) (ok 3 (by omega)) (ok 4 (by omega)) (ok 5 (by omega)) h1 (b_Law_law_571 (ok 1 (by omega)) (ok 2 (by omega)) (ok 3 (by omega)) (ok 4 (by omega)) (ok 5 (by omega)) h2 (b_Law_law_600 (fun _ => b_Law_law_1400 nx) (fun z => absurd rfl z)))
theorem dk_case_strike {Ls : Nat} {xs : Nat → Int32} {Q : Option Value → hd_Mem → Prop} {i : Nat} {M : hd_Mem} (I : dk_inv dk_pw xs M) (ok : ∀ k, k < 6 → hd_okR Ls 78 (nI i + nI k)) (next : ∀ M2, dk_inv dk_pw xs M2 → hd_E Ls Law_law (18, [.ref 78, .ref 0, .ref 67, .int (nI i + 6)], [], M2) Q) : hd_E Ls Law_law (605, [.ref 78, .ref 0, .ref 67, .int (nI i)], [], M) Q := by
  obtain ⟨r, M1, M2, h1, h2, I2⟩ := dk_same_strike (Ls := Ls) I
  have e78 := hd_Rt_78 h1
  have nx := next M2 I2
  exact b_Law_law_605 h1 (b_Law_law_609 h2 (b_Law_law_613 (fun _ => b_Law_law_1400 nx) (fun z => absurd rfl z)))
theorem dk_case_rule {Ls : Nat} {xs : Nat → Int32} {Q : Option Value → hd_Mem → Prop} {i : Nat} {M : hd_Mem} (I : dk_inv dk_pw xs M) (ok : ∀ k, k < 6 → hd_okR Ls 78 (nI i + nI k)) (next : ∀ M2, dk_inv dk_pw xs M2 → hd_E Ls Law_law (18, [.ref 78, .ref 0, .ref 67, .int (nI i + 6)], [], M2) Q) : hd_E Ls Law_law (618, [.ref 78, .ref 0, .ref 67, .int (nI i)], [], M) Q := by
  obtain ⟨r, M1, M2, h1, h2, I2⟩ := dk_same_rule (Ls := Ls) I (M 78 (nI i + 1).toNatClampNeg) (M 78 (nI i + 2).toNatClampNeg)
  have e78 := hd_Rt_78 h1
  have nx := next M2 I2
  rw [← e78] at h2
  exact b_Law_law_618 (ok 1 (by omega)) (ok 2 (by omega)) h1 (b_Law_law_632 (ok 1 (by omega)) (ok 2 (by omega)) h2 (b_Law_law_646 (fun _ => b_Law_law_1400 nx) (fun z => absurd rfl z)))
theorem dk_case_counted {Ls : Nat} {xs : Nat → Int32} {Q : Option Value → hd_Mem → Prop} {i : Nat} {M : hd_Mem} (I : dk_inv dk_pw xs M) (ok : ∀ k, k < 6 → hd_okR Ls 78 (nI i + nI k)) (next : ∀ M2, dk_inv dk_pw xs M2 → hd_E Ls Law_law (18, [.ref 78, .ref 0, .ref 67, .int (nI i + 6)], [], M2) Q) : hd_E Ls Law_law (651, [.ref 78, .ref 0, .ref 67, .int (nI i)], [], M) Q := by
  obtain ⟨r, M1, M2, h1, h2, I2⟩ := dk_same_counted (Ls := Ls) I (M 78 (nI i + 1).toNatClampNeg) (M 78 (nI i + 2).toNatClampNeg) (M 78 (nI i + 3).toNatClampNeg)
  have e78 := hd_Rt_78 h1
  have nx := next M2 I2
  rw [← e78] at h2
  exact b_Law_law_651 (ok 1 (by omega)) (ok 2 (by omega)) (ok 3 (by omega)) h1 (b_Law_law_670 (ok 1 (by omega)) (ok 2 (by omega)) (ok 3 (by omega)) h2 (b_Law_law_689 (fun _ => b_Law_law_1400 nx) (fun z => absurd rfl z)))
theorem dk_case_countedOn {Ls : Nat} {xs : Nat → Int32} {Q : Option Value → hd_Mem → Prop} {i : Nat} {M : hd_Mem} (I : dk_inv dk_pw xs M) (ok : ∀ k, k < 6 → hd_okR Ls 78 (nI i + nI k)) (next : ∀ M2, dk_inv dk_pw xs M2 → hd_E Ls Law_law (18, [.ref 78, .ref 0, .ref 67, .int (nI i + 6)], [], M2) Q) : hd_E Ls Law_law (694, [.ref 78, .ref 0, .ref 67, .int (nI i)], [], M) Q := by
  obtain ⟨r, M1, M2, h1, h2, I2⟩ := dk_same_countedOn (Ls := Ls) I (M 78 (nI i + 1).toNatClampNeg) (M 78 (nI i + 2).toNatClampNeg) (M 78 (nI i + 3).toNatClampNeg)
  have e78 := hd_Rt_78 h1
  have nx := next M2 I2
  rw [← e78] at h2
  exact b_Law_law_694 (ok 1 (by omega)) (ok 2 (by omega)) (ok 3 (by omega)) h1 (b_Law_law_713 (ok 1 (by omega)) (ok 2 (by omega)) (ok 3 (by omega)) h2 (b_Law_law_732 (fun _ => b_Law_law_1400 nx) (fun z => absurd rfl z)))
theorem dk_case_left {Ls : Nat} {xs : Nat → Int32} {Q : Option Value → hd_Mem → Prop} {i : Nat} {M : hd_Mem} (I : dk_inv dk_pw xs M) (ok : ∀ k, k < 6 → hd_okR Ls 78 (nI i + nI k)) (next : ∀ M2, dk_inv dk_pw xs M2 → hd_E Ls Law_law (18, [.ref 78, .ref 0, .ref 67, .int (nI i + 6)], [], M2) Q) : hd_E Ls Law_law (737, [.ref 78, .ref 0, .ref 67, .int (nI i)], [], M) Q := by
  obtain ⟨r, M1, M2, h1, h2, I2⟩ := dk_same_left (Ls := Ls) I (M 78 (nI i + 1).toNatClampNeg) (M 78 (nI i + 2).toNatClampNeg) (M 78 (nI i + 3).toNatClampNeg)
  have e78 := hd_Rt_78 h1
  have nx := next M2 I2
  rw [← e78] at h2
  exact b_Law_law_737 (ok 1 (by omega)) (ok 2 (by omega)) (ok 3 (by omega)) h1 (b_Law_law_756 (ok 1 (by omega)) (ok 2 (by omega)) (ok 3 (by omega)) h2 (b_Law_law_775 (fun _ => b_Law_law_1400 nx) (fun z => absurd rfl z)))
theorem dk_case_plan {Ls : Nat} {xs : Nat → Int32} {Q : Option Value → hd_Mem → Prop} {i : Nat} {M : hd_Mem} (I : dk_inv dk_pw xs M) (ok : ∀ k, k < 6 → hd_okR Ls 78 (nI i + nI k)) (next : ∀ M2, dk_inv dk_pw xs M2 → hd_E Ls Law_law (18, [.ref 78, .ref 0, .ref 67, .int (nI i + 6)], [], M2) Q) : hd_E Ls Law_law (780, [.ref 78, .ref 0, .ref 67, .int (nI i)], [], M) Q := by
  obtain ⟨r, M1, M2, h1, h2, I2⟩ := dk_same_plan (Ls := Ls) I (M 78 (nI i + 1).toNatClampNeg)
  have e78 := hd_Rt_78 h1
  have nx := next M2 I2
  rw [← e78] at h2
  exact b_Law_law_780 (ok 1 (by omega)) h1 (b_Law_law_789 (ok 1 (by omega)) h2 (b_Law_law_798 (fun _ => b_Law_law_1400 nx) (fun z => absurd rfl z)))
theorem dk_case_planned {Ls : Nat} {xs : Nat → Int32} {Q : Option Value → hd_Mem → Prop} {i : Nat} {M : hd_Mem} (I : dk_inv dk_pw xs M) (ok : ∀ k, k < 6 → hd_okR Ls 78 (nI i + nI k)) (next : ∀ M2, dk_inv dk_pw xs M2 → hd_E Ls Law_law (18, [.ref 78, .ref 0, .ref 67, .int (nI i + 6)], [], M2) Q) : hd_E Ls Law_law (803, [.ref 78, .ref 0, .ref 67, .int (nI i)], [], M) Q := by
  obtain ⟨r, M1, M2, h1, h2, I2⟩ := dk_same_planned (Ls := Ls) I (M 78 (nI i + 1).toNatClampNeg) (M 78 (nI i + 2).toNatClampNeg)
  have e78 := hd_Rt_78 h1
  have nx := next M2 I2
  rw [← e78] at h2
  exact b_Law_law_803 (ok 1 (by omega)) (ok 2 (by omega)) h1 (b_Law_law_817 (ok 1 (by omega)) (ok 2 (by omega)) h2 (b_Law_law_831 (fun _ => b_Law_law_1400 nx) (fun z => absurd rfl z)))
theorem dk_case_gang {Ls : Nat} {xs : Nat → Int32} {Q : Option Value → hd_Mem → Prop} {i : Nat} {M : hd_Mem} (I : dk_inv dk_pw xs M) (ok : ∀ k, k < 6 → hd_okR Ls 78 (nI i + nI k)) (next : ∀ M2, dk_inv dk_pw xs M2 → hd_E Ls Law_law (18, [.ref 78, .ref 0, .ref 67, .int (nI i + 6)], [], M2) Q) : hd_E Ls Law_law (836, [.ref 78, .ref 0, .ref 67, .int (nI i)], [], M) Q := by
  obtain ⟨r, M1, M2, h1, h2, I2⟩ := dk_same_gang (Ls := Ls) I (M 78 (nI i + 1).toNatClampNeg) (M 78 (nI i + 2).toNatClampNeg)
  have e78 := hd_Rt_78 h1
  have nx := next M2 I2
  rw [← e78] at h2
  exact b_Law_law_836 (ok 1 (by omega)) (ok 2 (by omega)) h1 (b_Law_law_850 (ok 1 (by omega)) (ok 2 (by omega)) h2 (b_Law_law_864 (fun _ => b_Law_law_1400 nx) (fun z => absurd rfl z)))
theorem dk_case_plans {Ls : Nat} {xs : Nat → Int32} {Q : Option Value → hd_Mem → Prop} {i : Nat} {M : hd_Mem} (I : dk_inv dk_pw xs M) (ok : ∀ k, k < 6 → hd_okR Ls 78 (nI i + nI k)) (next : ∀ M2, dk_inv dk_pw xs M2 → hd_E Ls Law_law (18, [.ref 78, .ref 0, .ref 67, .int (nI i + 6)], [], M2) Q) : hd_E Ls Law_law (869, [.ref 78, .ref 0, .ref 67, .int (nI i)], [], M) Q := by
  obtain ⟨r, M1, M2, h1, h2, I2⟩ := dk_same_plans (Ls := Ls) I (M 78 (nI i + 1).toNatClampNeg)
  have e78 := hd_Rt_78 h1
  have nx := next M2 I2
  rw [← e78] at h2
  exact b_Law_law_869 (ok 1 (by omega)) h1 (b_Law_law_878 (ok 1 (by omega)) h2 (b_Law_law_887 (fun _ => b_Law_law_1400 nx) (fun z => absurd rfl z)))
theorem dk_case_when {Ls : Nat} {xs : Nat → Int32} {Q : Option Value → hd_Mem → Prop} {i : Nat} {M : hd_Mem} (I : dk_inv dk_pw xs M) (ok : ∀ k, k < 6 → hd_okR Ls 78 (nI i + nI k)) (next : ∀ M2, dk_inv dk_pw xs M2 → hd_E Ls Law_law (18, [.ref 78, .ref 0, .ref 67, .int (nI i + 6)], [], M2) Q) : hd_E Ls Law_law (892, [.ref 78, .ref 0, .ref 67, .int (nI i)], [], M) Q := by
  obtain ⟨r, M1, M2, h1, h2, I2⟩ := dk_same_when (Ls := Ls) I (M 78 (nI i + 1).toNatClampNeg) (M 78 (nI i + 2).toNatClampNeg)
  have e78 := hd_Rt_78 h1
  have nx := next M2 I2
  rw [← e78] at h2
  exact b_Law_law_892 (ok 1 (by omega)) (ok 2 (by omega)) h1 (b_Law_law_906 (ok 1 (by omega)) (ok 2 (by omega)) h2 (b_Law_law_920 (fun _ => b_Law_law_1400 nx) (fun z => absurd rfl z)))
theorem dk_case_absent {Ls : Nat} {xs : Nat → Int32} {Q : Option Value → hd_Mem → Prop} {i : Nat} {M : hd_Mem} (I : dk_inv dk_pw xs M) (ok : ∀ k, k < 6 → hd_okR Ls 78 (nI i + nI k)) (next : ∀ M2, dk_inv dk_pw xs M2 → hd_E Ls Law_law (18, [.ref 78, .ref 0, .ref 67, .int (nI i + 6)], [], M2) Q) : hd_E Ls Law_law (925, [.ref 78, .ref 0, .ref 67, .int (nI i)], [], M) Q := by
  obtain ⟨r, M1, M2, h1, h2, I2⟩ := dk_same_absent (Ls := Ls) I (M 78 (nI i + 1).toNatClampNeg) (M 78 (nI i + 2).toNatClampNeg)
  have e78 := hd_Rt_78 h1
  have nx := next M2 I2
  rw [← e78] at h2
  exact b_Law_law_925 (ok 1 (by omega)) (ok 2 (by omega)) h1 (b_Law_law_939 (ok 1 (by omega)) (ok 2 (by omega)) h2 (b_Law_law_953 (fun _ => b_Law_law_1400 nx) (fun z => absurd rfl z)))
theorem dk_case_reason {Ls : Nat} {xs : Nat → Int32} {Q : Option Value → hd_Mem → Prop} {i : Nat} {M : hd_Mem} (I : dk_inv dk_pw xs M) (ok : ∀ k, k < 6 → hd_okR Ls 78 (nI i + nI k)) (next : ∀ M2, dk_inv dk_pw xs M2 → hd_E Ls Law_law (18, [.ref 78, .ref 0, .ref 67, .int (nI i + 6)], [], M2) Q) : hd_E Ls Law_law (958, [.ref 78, .ref 0, .ref 67, .int (nI i)], [], M) Q := by
  obtain ⟨r, M1, M2, h1, h2, I2⟩ := dk_same_reason (Ls := Ls) I (M 78 (nI i + 1).toNatClampNeg) (M 78 (nI i + 2).toNatClampNeg)
  have e78 := hd_Rt_78 h1
  have nx := next M2 I2
  rw [← e78] at h2
  exact b_Law_law_958 (ok 1 (by omega)) (ok 2 (by omega)) h1 (b_Law_law_972 (ok 1 (by omega)) (ok 2 (by omega)) h2 (b_Law_law_986 (fun _ => b_Law_law_1400 nx) (fun z => absurd rfl z)))
theorem dk_case_breaches {Ls : Nat} {xs : Nat → Int32} {Q : Option Value → hd_Mem → Prop} {i : Nat} {M : hd_Mem} (I : dk_inv dk_pw xs M) (ok : ∀ k, k < 6 → hd_okR Ls 78 (nI i + nI k)) (next : ∀ M2, dk_inv dk_pw xs M2 → hd_E Ls Law_law (18, [.ref 78, .ref 0, .ref 67, .int (nI i + 6)], [], M2) Q) : hd_E Ls Law_law (991, [.ref 78, .ref 0, .ref 67, .int (nI i)], [], M) Q := by
  obtain ⟨r, M1, M2, h1, h2, I2⟩ := dk_same_breaches (Ls := Ls) I (M 78 (nI i + 1).toNatClampNeg) (M 78 (nI i + 2).toNatClampNeg)
  have e78 := hd_Rt_78 h1
  have nx := next M2 I2
  rw [← e78] at h2
  exact b_Law_law_991 (ok 1 (by omega)) (ok 2 (by omega)) h1 (b_Law_law_1005 (ok 1 (by omega)) (ok 2 (by omega)) h2 (b_Law_law_1019 (fun _ => b_Law_law_1400 nx) (fun z => absurd rfl z)))
theorem dk_case_court {Ls : Nat} {xs : Nat → Int32} {Q : Option Value → hd_Mem → Prop} {i : Nat} {M : hd_Mem} (I : dk_inv dk_pw xs M) (ok : ∀ k, k < 6 → hd_okR Ls 78 (nI i + nI k)) (next : ∀ M2, dk_inv dk_pw xs M2 → hd_E Ls Law_law (18, [.ref 78, .ref 0, .ref 67, .int (nI i + 6)], [], M2) Q) : hd_E Ls Law_law (1024, [.ref 78, .ref 0, .ref 67, .int (nI i)], [], M) Q := by
  obtain ⟨r, M1, M2, h1, h2, I2⟩ := dk_same_court (Ls := Ls) I (M 78 (nI i + 1).toNatClampNeg) (M 78 (nI i + 2).toNatClampNeg)
  have e78 := hd_Rt_78 h1
  have nx := next M2 I2
  rw [← e78] at h2
  exact b_Law_law_1024 (ok 1 (by omega)) (ok 2 (by omega)) h1 (b_Law_law_1038 (ok 1 (by omega)) (ok 2 (by omega)) h2 (b_Law_law_1052 (fun _ => b_Law_law_1400 nx) (fun z => absurd rfl z)))
theorem dk_case_pace {Ls : Nat} {xs : Nat → Int32} {Q : Option Value → hd_Mem → Prop} {i : Nat} {M : hd_Mem} (I : dk_inv dk_pw xs M) (ok : ∀ k, k < 6 → hd_okR Ls 78 (nI i + nI k)) (next : ∀ M2, dk_inv dk_pw xs M2 → hd_E Ls Law_law (18, [.ref 78, .ref 0, .ref 67, .int (nI i + 6)], [], M2) Q) : hd_E Ls Law_law (1057, [.ref 78, .ref 0, .ref 67, .int (nI i)], [], M) Q := by
  by_cases c : M 78 (nI i + 3).toNatClampNeg = 0
  · skip
    obtain ⟨r, M1, M2, h1, h2, I2⟩ := dk_same_pace (Ls := Ls) I (M 78 (nI i + 1).toNatClampNeg) (M 78 (nI i + 2).toNatClampNeg) 0 (Or.inl rfl)
    have e78 := hd_Rt_78 h1
    have nx := next M2 I2
    rw [← e78] at h2
    have c2 : M1 78 (nI i + 3).toNatClampNeg = 0 := by rw [e78]; exact c
    exact b_Law_law_1057 (ok 1 (by omega)) (ok 2 (by omega)) (ok 3 (by omega)) (fun _ => b_Law_law_1080 h1 (b_Law_law_1084 (ok 1 (by omega)) (ok 2 (by omega)) (ok 3 (by omega)) (fun _ => b_Law_law_1107 h2 (b_Law_law_1111 (fun _ => b_Law_law_1400 nx) (fun z => absurd rfl z))) (fun z => absurd c2 z))) (fun z => absurd c z)
  · skip
    obtain ⟨r, M1, M2, h1, h2, I2⟩ := dk_same_pace (Ls := Ls) I (M 78 (nI i + 1).toNatClampNeg) (M 78 (nI i + 2).toNatClampNeg) 1 (Or.inr rfl)
    have e78 := hd_Rt_78 h1
    have nx := next M2 I2
    rw [← e78] at h2
    have c2 : ¬ M1 78 (nI i + 3).toNatClampNeg = 0 := by rw [e78]; exact c
    exact b_Law_law_1057 (ok 1 (by omega)) (ok 2 (by omega)) (ok 3 (by omega)) (fun z => absurd z c) (fun _ => b_Law_law_1076 h1 (b_Law_law_1084 (ok 1 (by omega)) (ok 2 (by omega)) (ok 3 (by omega)) (fun z => absurd z c2) (fun _ => b_Law_law_1103 h2 (b_Law_law_1111 (fun _ => b_Law_law_1400 nx) (fun z => absurd rfl z)))))
theorem dk_case_foretold {Ls : Nat} {xs : Nat → Int32} {Q : Option Value → hd_Mem → Prop} {i : Nat} {M : hd_Mem} (I : dk_inv dk_pw xs M) (ok : ∀ k, k < 6 → hd_okR Ls 78 (nI i + nI k)) (next : ∀ M2, dk_inv dk_pw xs M2 → hd_E Ls Law_law (18, [.ref 78, .ref 0, .ref 67, .int (nI i + 6)], [], M2) Q) : hd_E Ls Law_law (1116, [.ref 78, .ref 0, .ref 67, .int (nI i)], [], M) Q := by
  obtain ⟨r, M1, M2, h1, h2, I2⟩ := dk_same_foretold (Ls := Ls) I (M 78 (nI i + 1).toNatClampNeg) (M 78 (nI i + 2).toNatClampNeg)
  have e78 := hd_Rt_78 h1
  have nx := next M2 I2
  rw [← e78] at h2
  exact b_Law_law_1116 (ok 1 (by omega)) (ok 2 (by omega)) h1 (b_Law_law_1130 (ok 1 (by omega)) (ok 2 (by omega)) h2 (b_Law_law_1144 (fun _ => b_Law_law_1400 nx) (fun z => absurd rfl z)))
theorem dk_case_late {Ls : Nat} {xs : Nat → Int32} {Q : Option Value → hd_Mem → Prop} {i : Nat} {M : hd_Mem} (I : dk_inv dk_pw xs M) (ok : ∀ k, k < 6 → hd_okR Ls 78 (nI i + nI k)) (next : ∀ M2, dk_inv dk_pw xs M2 → hd_E Ls Law_law (18, [.ref 78, .ref 0, .ref 67, .int (nI i + 6)], [], M2) Q) : hd_E Ls Law_law (1149, [.ref 78, .ref 0, .ref 67, .int (nI i)], [], M) Q := by
  obtain ⟨r, M1, M2, h1, h2, I2⟩ := dk_same_late (Ls := Ls) I (M 78 (nI i + 1).toNatClampNeg)
  have e78 := hd_Rt_78 h1
  have nx := next M2 I2
  rw [← e78] at h2
  exact b_Law_law_1149 (ok 1 (by omega)) h1 (b_Law_law_1158 (ok 1 (by omega)) h2 (b_Law_law_1167 (fun _ => b_Law_law_1400 nx) (fun z => absurd rfl z)))
theorem dk_case_sheet {Ls : Nat} {xs : Nat → Int32} {Q : Option Value → hd_Mem → Prop} {i : Nat} {M : hd_Mem} (I : dk_inv dk_pw xs M) (ok : ∀ k, k < 6 → hd_okR Ls 78 (nI i + nI k)) (next : ∀ M2, dk_inv dk_pw xs M2 → hd_E Ls Law_law (18, [.ref 78, .ref 0, .ref 67, .int (nI i + 6)], [], M2) Q) : hd_E Ls Law_law (1172, [.ref 78, .ref 0, .ref 67, .int (nI i)], [], M) Q := by
  obtain ⟨r, M1, M2, h1, h2, I2⟩ := dk_same_sheet (Ls := Ls) I (M 78 (nI i + 1).toNatClampNeg) (M 78 (nI i + 2).toNatClampNeg) (M 78 (nI i + 3).toNatClampNeg)
  have e78 := hd_Rt_78 h1
  have nx := next M2 I2
  rw [← e78] at h2
  exact b_Law_law_1172 (ok 1 (by omega)) (ok 2 (by omega)) (ok 3 (by omega)) h1 (b_Law_law_1191 (ok 1 (by omega)) (ok 2 (by omega)) (ok 3 (by omega)) h2 (b_Law_law_1210 (fun _ => b_Law_law_1400 nx) (fun z => absurd rfl z)))
theorem dk_case_put {Ls : Nat} {xs : Nat → Int32} {Q : Option Value → hd_Mem → Prop} {i : Nat} {M : hd_Mem} (I : dk_inv dk_pw xs M) (ok : ∀ k, k < 6 → hd_okR Ls 78 (nI i + nI k)) (next : ∀ M2, dk_inv dk_pw xs M2 → hd_E Ls Law_law (18, [.ref 78, .ref 0, .ref 67, .int (nI i + 6)], [], M2) Q) : hd_E Ls Law_law (1215, [.ref 78, .ref 0, .ref 67, .int (nI i)], [], M) Q := by
  obtain ⟨r, M1, M2, h1, h2, I2⟩ := dk_same_put (Ls := Ls) I (M 78 (nI i + 1).toNatClampNeg) (M 78 (nI i + 2).toNatClampNeg) (M 78 (nI i + 3).toNatClampNeg)
  have e78 := hd_Rt_78 h1
  have nx := next M2 I2
  rw [← e78] at h2
  exact b_Law_law_1215 (ok 1 (by omega)) (ok 2 (by omega)) (ok 3 (by omega)) h1 (b_Law_law_1234 (ok 1 (by omega)) (ok 2 (by omega)) (ok 3 (by omega)) h2 (b_Law_law_1253 (fun _ => b_Law_law_1400 nx) (fun z => absurd rfl z)))
theorem dk_case_copy {Ls : Nat} {xs : Nat → Int32} {Q : Option Value → hd_Mem → Prop} {i : Nat} {M : hd_Mem} (I : dk_inv dk_pw xs M) (ok : ∀ k, k < 6 → hd_okR Ls 78 (nI i + nI k)) (next : ∀ M2, dk_inv dk_pw xs M2 → hd_E Ls Law_law (18, [.ref 78, .ref 0, .ref 67, .int (nI i + 6)], [], M2) Q) : hd_E Ls Law_law (1258, [.ref 78, .ref 0, .ref 67, .int (nI i)], [], M) Q := by
  obtain ⟨r, M1, M2, h1, h2, I2⟩ := dk_same_copy (Ls := Ls) I (M 78 (nI i + 1).toNatClampNeg) (M 78 (nI i + 2).toNatClampNeg) (M 78 (nI i + 3).toNatClampNeg) (M 78 (nI i + 4).toNatClampNeg) (M 78 (nI i + 5).toNatClampNeg)
  have e78 := hd_Rt_78 h1
  have nx := next M2 I2
  rw [← e78] at h2
  exact b_Law_law_1258 (ok 1 (by omega)) (ok 2 (by omega)) (ok 3 (by omega)) (ok 4 (by omega)) (ok 5 (by omega)) h1 (b_Law_law_1287 (ok 1 (by omega)) (ok 2 (by omega)) (ok 3 (by omega)) (ok 4 (by omega)) (ok 5 (by omega)) h2 (b_Law_law_1316 (fun _ => b_Law_law_1400 nx) (fun z => absurd rfl z)))
theorem dk_case_lay {Ls : Nat} {xs : Nat → Int32} {Q : Option Value → hd_Mem → Prop} {i : Nat} {M : hd_Mem} (I : dk_inv dk_pw xs M) (ok : ∀ k, k < 6 → hd_okR Ls 78 (nI i + nI k)) (next : ∀ M2, dk_inv dk_pw xs M2 → hd_E Ls Law_law (18, [.ref 78, .ref 0, .ref 67, .int (nI i + 6)], [], M2) Q) : hd_E Ls Law_law (1321, [.ref 78, .ref 0, .ref 67, .int (nI i)], [], M) Q := by
  obtain ⟨r, M1, M2, h1, h2, I2⟩ := dk_same_lay (Ls := Ls) I (M 78 (nI i + 1).toNatClampNeg) (M 78 (nI i + 2).toNatClampNeg) (M 78 (nI i + 3).toNatClampNeg)
  have e78 := hd_Rt_78 h1
  have nx := next M2 I2
  rw [← e78] at h2
  exact b_Law_law_1321 (ok 1 (by omega)) (ok 2 (by omega)) (ok 3 (by omega)) h1 (b_Law_law_1340 (ok 1 (by omega)) (ok 2 (by omega)) (ok 3 (by omega)) h2 (b_Law_law_1359 (fun _ => b_Law_law_1400 nx) (fun z => absurd rfl z)))
theorem dk_case_undo {Ls : Nat} {xs : Nat → Int32} {Q : Option Value → hd_Mem → Prop} {i : Nat} {M : hd_Mem} (I : dk_inv dk_pw xs M) (ok : ∀ k, k < 6 → hd_okR Ls 78 (nI i + nI k)) (next : ∀ M2, dk_inv dk_pw xs M2 → hd_E Ls Law_law (18, [.ref 78, .ref 0, .ref 67, .int (nI i + 6)], [], M2) Q) : hd_E Ls Law_law (1364, [.ref 78, .ref 0, .ref 67, .int (nI i)], [], M) Q := by
  obtain ⟨r, M1, M2, h1, h2, I2⟩ := dk_same_undo (Ls := Ls) I
  have e78 := hd_Rt_78 h1
  have nx := next M2 I2
  exact b_Law_law_1364 h1 (b_Law_law_1368 h2 (b_Law_law_1372 (fun _ => b_Law_law_1400 nx) (fun z => absurd rfl z)))
theorem dk_case_told {Ls : Nat} {xs : Nat → Int32} {Q : Option Value → hd_Mem → Prop} {i : Nat} {M : hd_Mem} (I : dk_inv dk_pw xs M) (ok : ∀ k, k < 6 → hd_okR Ls 78 (nI i + nI k)) (next : ∀ M2, dk_inv dk_pw xs M2 → hd_E Ls Law_law (18, [.ref 78, .ref 0, .ref 67, .int (nI i + 6)], [], M2) Q) : hd_E Ls Law_law (1377, [.ref 78, .ref 0, .ref 67, .int (nI i)], [], M) Q := by
  obtain ⟨r, M1, M2, h1, h2, I2⟩ := dk_same_told (Ls := Ls) I (M 78 (nI i + 1).toNatClampNeg)
  have e78 := hd_Rt_78 h1
  have nx := next M2 I2
  rw [← e78] at h2
  exact b_Law_law_1377 (ok 1 (by omega)) h1 (b_Law_law_1386 (ok 1 (by omega)) h2 (b_Law_law_1395 (fun _ => b_Law_law_1400 nx) (fun z => absurd rfl z)))
theorem dk_law {Ls : Nat} (hL : Ls ≤ 3072) {xs : Nat → Int32} : ∀ k i M, Ls < i + k → i ≤ Ls + 6 → dk_inv dk_pw xs M → hd_E Ls Law_law (18, [.ref 78, .ref 0, .ref 67, .int (nI i)], [], M) (fun v _ => v = some (.int 1)) := by
  have hs : (Int32.ofNat Ls - 6).toInt = (Ls : Int) - 6 := pk_sub_toInt (a := Ls) (b := 6) (by omega) (by omega)
  intro k
  induction k with
  | zero =>
    intro i M hk hi I
    refine b_Law_law_18 (fun _ => b_Law_law_1406 rfl) (fun c => absurd ?_ c)
    rw [Int32.lt_iff_toInt_lt, hs, nI_toInt (by omega)]
    omega
  | succ k ih =>
    intro i M hk hi I
    refine b_Law_law_18 (fun _ => b_Law_law_1406 rfl) (fun c => ?_)
    rw [Int32.lt_iff_toInt_lt, hs, nI_toInt (by omega)] at c
    have ok : ∀ k, k < 6 → hd_okR Ls 78 (nI i + nI k) := fun k hk => by
      rw [nI_add]
      exact hd_okR_n (n := Ls) rfl (by omega) (by omega)
    have next : ∀ M2, dk_inv dk_pw xs M2 → hd_E Ls Law_law (18, [.ref 78, .ref 0, .ref 67, .int (nI i + 6)], [], M2) (fun v _ => v = some (.int 1)) := fun M2 I2 => by
      rw [show nI i + 6 = nI (i + 6) from nI_add i 6]
      exact ih (i + 6) M2 (by omega) (by omega) I2
    refine b_Law_law_27 (hd_okR_n (n := Ls) rfl (by omega) (by omega)) ?_
    obtain ⟨j, hj, ej⟩ := dk_and31 (M 78 (nI i).toNatClampNeg)
    rw [ej]
    match j, hj with
    | 0, _ => exact hd_E_sw (j := 0) rfl (by decide +kernel) (dk_case_person I ok next)
    | 1, _ => exact hd_E_sw (j := 1) rfl (by decide +kernel) (dk_case_as I ok next)
    | 2, _ => exact hd_E_sw (j := 2) rfl (by decide +kernel) (dk_case_of I ok next)
    | 3, _ => exact hd_E_sw (j := 3) rfl (by decide +kernel) (dk_case_extend I ok next)
    | 4, _ => exact hd_E_sw (j := 4) rfl (by decide +kernel) (dk_case_free I ok next)
    | 5, _ => exact hd_E_sw (j := 5) rfl (by decide +kernel) (dk_case_place I ok next)
    | 6, _ => exact hd_E_sw (j := 6) rfl (by decide +kernel) (dk_case_open I ok next)
    | 7, _ => exact hd_E_sw (j := 7) rfl (by decide +kernel) (dk_case_bar I ok next)
    | 8, _ => exact hd_E_sw (j := 8) rfl (by decide +kernel) (dk_case_entry I ok next)
    | 9, _ => exact hd_E_sw (j := 9) rfl (by decide +kernel) (dk_case_strike I ok next)
    | 10, _ => exact hd_E_sw (j := 10) rfl (by decide +kernel) (dk_case_rule I ok next)
    | 11, _ => exact hd_E_sw (j := 11) rfl (by decide +kernel) (dk_case_counted I ok next)
    | 12, _ => exact hd_E_sw (j := 12) rfl (by decide +kernel) (dk_case_countedOn I ok next)
    | 13, _ => exact hd_E_sw (j := 13) rfl (by decide +kernel) (dk_case_left I ok next)
    | 14, _ => exact hd_E_sw (j := 14) rfl (by decide +kernel) (dk_case_plan I ok next)
    | 15, _ => exact hd_E_sw (j := 15) rfl (by decide +kernel) (dk_case_planned I ok next)
    | 16, _ => exact hd_E_sw (j := 16) rfl (by decide +kernel) (dk_case_gang I ok next)
    | 17, _ => exact hd_E_sw (j := 17) rfl (by decide +kernel) (dk_case_plans I ok next)
    | 18, _ => exact hd_E_sw (j := 18) rfl (by decide +kernel) (dk_case_when I ok next)
    | 19, _ => exact hd_E_sw (j := 19) rfl (by decide +kernel) (dk_case_absent I ok next)
    | 20, _ => exact hd_E_sw (j := 20) rfl (by decide +kernel) (dk_case_reason I ok next)
    | 21, _ => exact hd_E_sw (j := 21) rfl (by decide +kernel) (dk_case_breaches I ok next)
    | 22, _ => exact hd_E_sw (j := 22) rfl (by decide +kernel) (dk_case_court I ok next)
    | 23, _ => exact hd_E_sw (j := 23) rfl (by decide +kernel) (dk_case_pace I ok next)
    | 24, _ => exact hd_E_sw (j := 24) rfl (by decide +kernel) (dk_case_foretold I ok next)
    | 25, _ => exact hd_E_sw (j := 25) rfl (by decide +kernel) (dk_case_late I ok next)
    | 26, _ => exact hd_E_sw (j := 26) rfl (by decide +kernel) (dk_case_sheet I ok next)
    | 27, _ => exact hd_E_sw (j := 27) rfl (by decide +kernel) (dk_case_put I ok next)
    | 28, _ => exact hd_E_sw (j := 28) rfl (by decide +kernel) (dk_case_copy I ok next)
    | 29, _ => exact hd_E_sw (j := 29) rfl (by decide +kernel) (dk_case_lay I ok next)
    | 30, _ => exact hd_E_sw (j := 30) rfl (by decide +kernel) (dk_case_undo I ok next)
    | 31, _ => exact hd_E_sw (j := 31) rfl (by decide +kernel) (dk_case_told I ok next)
    | j + 32, hj => omega
