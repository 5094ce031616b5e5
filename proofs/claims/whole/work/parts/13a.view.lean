/-! THE STATE IN THE REFERENCE'S ORDER (459 ints): dv M is the desk's, M 68 the reference's own -/
def hd_segs : List (Nat × Nat × Nat × Nat) := [(0,1,1,6),(1,1,2,5),(2,1,3,5),(3,1,4,3),(4,1,3,6),(5,1,3,7),(6,8,8,0),(14,8,9,0),(22,8,10,0),(30,8,11,0),(38,8,12,0),(46,8,13,0),(54,3,14,0),(57,3,15,0),(60,3,16,0),(63,3,17,0),(66,3,18,0),(69,60,19,0),(129,60,20,0),(189,60,21,0),(249,60,22,0),(309,60,23,0),(369,30,28,0),(399,30,29,0),(429,30,30,0)]
def hd_sg (k : Nat) : Nat × Nat × Nat × Nat := (hd_segs.find? (fun q => q.1 ≤ k && k < q.1 + q.2.1)).getD (0, 0, 0, 0)
def hd_pc (k : Nat) : Nat := (hd_sg k).2.2.1
def hd_pi (k : Nat) : Nat := (hd_sg k).2.2.2 + (k - (hd_sg k).1)
def hd_dv (M : hd_Mem) (k : Nat) : Int32 := if k < 459 then M (hd_pc k) (hd_pi k) else 0
/-- the place of a cell's element in that order -/
def hd_pos (c j : Nat) : Nat := match c with
  | 1 => if j = 6 then 0 else 999
  | 2 => if j = 5 then 1 else 999
  | 3 => if j = 5 then 2 else if j = 6 then 4 else if j = 7 then 5 else 999
  | 4 => if j = 3 then 3 else 999
  | 8 => 6 + j | 9 => 14 + j | 10 => 22 + j | 11 => 30 + j | 12 => 38 + j | 13 => 46 + j
  | 14 => 54 + j | 15 => 57 + j | 16 => 60 + j | 17 => 63 + j | 18 => 66 + j
  | 19 => 69 + j | 20 => 129 + j | 21 => 189 + j | 22 => 249 + j | 23 => 309 + j
  | 28 => 369 + j | 29 => 399 + j | 30 => 429 + j
  | _ => 999
theorem hd_pos_inv : ∀ k, k < 459 → hd_pos (hd_pc k) (hd_pi k) = k := by decide +kernel
def hd_len2 (c : Nat) : Nat := match hd_lay c with
  | .inr (.inl n) => n
  | .inr (.inr (.inl n)) => n
  | _ => 0
theorem hd_pos_ok : ∀ c ∈ [8,9,10,11,12,13,14,15,16,17,18,19,20,21,22,23,28,29,30], ∀ j, j < hd_len2 c → hd_pos c j < 459 ∧ hd_pc (hd_pos c j) = c ∧ hd_pi (hd_pos c j) = j := by decide +kernel
theorem hd_pos_cnt : ∀ q ∈ [(1,6),(2,5),(3,5),(4,3),(3,6),(3,7)], hd_pos q.1 q.2 < 459 ∧ hd_pc (hd_pos q.1 q.2) = q.1 ∧ hd_pi (hd_pos q.1 q.2) = q.2 := by decide +kernel
theorem hd_dv_in {M : hd_Mem} {c j : Nat} {x : Int32} (h : hd_pos c j < 459 ∧ hd_pc (hd_pos c j) = c ∧ hd_pi (hd_pos c j) = j) : hd_dv (hd_set M c j x) = upd (hd_dv M) (hd_pos c j) x := by
  funext k
  by_cases hk : k < 459
  · by_cases hq : hd_pc k = c ∧ hd_pi k = j
    · have h1 := hd_pos_inv k hk
      rw [hq.1, hq.2] at h1
      subst h1
      simp [hd_dv, hd_set, upd, hk, hq]
    · have h1 : ¬ k = hd_pos c j := by
        rintro rfl
        exact hq h.2
      simp [hd_dv, hd_set, upd, hk, hq, h1]
  · have h1 : ¬ k = hd_pos c j := by omega
    simp [hd_dv, upd, hk, h1]
theorem hd_dv_out {M : hd_Mem} {c j : Nat} {x : Int32} (h : ∀ k, k < 459 → ¬ (hd_pc k = c)) : hd_dv (hd_set M c j x) = hd_dv M := by
  funext k
  by_cases hk : k < 459
  · simp [hd_dv, hd_set, hk, h k hk]
  · simp [hd_dv, hk]
theorem hd_dv_out2 {M M' : hd_Mem} (h : ∀ c, c ∈ [1,2,3,4,8,9,10,11,12,13,14,15,16,17,18,19,20,21,22,23,28,29,30] → M' c = M c) : hd_dv M' = hd_dv M := by
  funext k
  by_cases hk : k < 459
  · have : ∀ k, k < 459 → hd_pc k ∈ [1,2,3,4,8,9,10,11,12,13,14,15,16,17,18,19,20,21,22,23,28,29,30] := by decide +kernel
    simp only [hd_dv, hk, if_true]
    rw [h _ (this k hk)]
  · simp [hd_dv, hk]
theorem hd_dv_at {M : hd_Mem} {c j : Nat} (h : hd_pos c j < 459 ∧ hd_pc (hd_pos c j) = c ∧ hd_pi (hd_pos c j) = j) : hd_dv M (hd_pos c j) = M c j := by
  simp [hd_dv, h]
theorem hd_dv_0 (M : hd_Mem) : hd_dv M 0 = M 1 6 := rfl
theorem hd_dv_1 (M : hd_Mem) : hd_dv M 1 = M 2 5 := rfl
theorem hd_dv_2 (M : hd_Mem) : hd_dv M 2 = M 3 5 := rfl
theorem hd_dv_3 (M : hd_Mem) : hd_dv M 3 = M 4 3 := rfl
theorem hd_dv_4 (M : hd_Mem) : hd_dv M 4 = M 3 6 := rfl
theorem hd_dv_5 (M : hd_Mem) : hd_dv M 5 = M 3 7 := rfl
theorem hd_dvA (c : Nat) (hc : c ∈ [8,9,10,11,12,13,14,15,16,17,18,19,20,21,22,23,28,29,30]) {M : hd_Mem} {j : Nat} (hj : j < hd_len2 c) : hd_dv M (hd_pos c j) = M c j := hd_dv_at (hd_pos_ok c hc j hj)
theorem hd_dvS (c : Nat) (hc : c ∈ [8,9,10,11,12,13,14,15,16,17,18,19,20,21,22,23,28,29,30]) {M : hd_Mem} {j : Nat} {x : Int32} (hj : j < hd_len2 c) : hd_dv (hd_set M c j x) = upd (hd_dv M) (hd_pos c j) x := hd_dv_in (hd_pos_ok c hc j hj)
theorem hd_dvC (c j : Nat) (hc : (c, j) ∈ [(1,6),(2,5),(3,5),(4,3),(3,6),(3,7)]) {M : hd_Mem} {x : Int32} : hd_dv (hd_set M c j x) = upd (hd_dv M) (hd_pos c j) x := hd_dv_in (hd_pos_cnt (c, j) hc)
/-! which places count, by the four counts -/
abbrev dk_np (V : Nat → Int32) : Nat := (V 0).toNatClampNeg
abbrev dk_nl (V : Nat → Int32) : Nat := (V 1).toNatClampNeg
abbrev dk_ne (V : Nat → Int32) : Nat := (V 2).toNatClampNeg
abbrev dk_na (V : Nat → Int32) : Nat := (V 3).toNatClampNeg
def dk_lv (V : Nat → Int32) (k : Nat) : Prop := k < 6 ∨ (46 ≤ k ∧ k < 54) ∨ (6 ≤ k ∧ k < 46 ∧ (k - 6) % 8 < dk_np V) ∨ (54 ≤ k ∧ k < 69 ∧ (k - 54) % 3 < dk_nl V) ∨ (69 ≤ k ∧ k < 369 ∧ (k - 69) % 60 < dk_ne V) ∨ (369 ≤ k ∧ k < 459 ∧ (k - 369) % 30 < dk_na V)
def dk_live (a b : Nat → Int32) : Prop := ∀ k, dk_lv a k → a k = b k
theorem dk_live_cnt {a b : Nat → Int32} (h : dk_live a b) : ∀ k, k < 6 → a k = b k := fun k hk => h k (Or.inl hk)
theorem dk_lv_iff {a b : Nat → Int32} (h : ∀ k, k < 6 → a k = b k) (k : Nat) : dk_lv a k ↔ dk_lv b k := by
  unfold dk_lv
  rw [show dk_np a = dk_np b by rw [dk_np, dk_np, h 0 (by omega)], show dk_nl a = dk_nl b by rw [dk_nl, dk_nl, h 1 (by omega)], show dk_ne a = dk_ne b by rw [dk_ne, dk_ne, h 2 (by omega)], show dk_na a = dk_na b by rw [dk_na, dk_na, h 3 (by omega)]]
theorem dk_live_rfl {a : Nat → Int32} : dk_live a a := fun _ _ => rfl
theorem dk_live_symm {a b : Nat → Int32} (h : dk_live a b) : dk_live b a := fun k hk => (h k ((dk_lv_iff (dk_live_cnt h) k).mpr hk)).symm
theorem dk_live_trans {a b c : Nat → Int32} (h : dk_live a b) (h2 : dk_live b c) : dk_live a c := fun k hk => (h k hk).trans (h2 k ((dk_lv_iff (dk_live_cnt h) k).mp hk))
/-- one place, no count, takes the same value in both -/
theorem dk_live_upd {a b : Nat → Int32} {q : Nat} {x : Int32} (h : dk_live a b) (hq : 4 ≤ q) : dk_live (upd a q x) (upd b q x) := by
  intro k hk
  have hc : dk_lv (upd a q x) k ↔ dk_lv a k := by
    unfold dk_lv
    simp only [dk_np, dk_nl, dk_ne, dk_na, upd, show ¬ 0 = q by omega, show ¬ 1 = q by omega, show ¬ 2 = q by omega, show ¬ 3 = q by omega, if_false]
  by_cases hkq : k = q
  · simp [upd, hkq]
  · simp only [upd, hkq, if_false]
    exact h k (hc.mp hk)
/-- a count falls in both -/
theorem dk_live_dec {a b : Nat → Int32} {q : Nat} {x : Int32} (h : dk_live a b) (hq : q < 4) (hx : x.toNatClampNeg ≤ (a q).toNatClampNeg) : dk_live (upd a q x) (upd b q x) := by
  intro k hk
  by_cases hkq : k = q
  · simp [upd, hkq]
  · simp only [upd, hkq, if_false]
    apply h k
    unfold dk_lv at hk ⊢
    simp only [dk_np, dk_nl, dk_ne, dk_na, upd] at hk ⊢
    rcases (show q = 0 ∨ q = 1 ∨ q = 2 ∨ q = 3 by omega) with rfl | rfl | rfl | rfl <;> simp at hk <;> omega
/-- a count grows by one in both, and what is new is the same -/
theorem dk_live_inc0 {a b : Nat → Int32} {n : Nat} (h : dk_live a b) (hn : a 0 = nI n) (hs : n < 8) (e : a (6 + n) = b (6 + n) ∧ a (14 + n) = b (14 + n) ∧ a (22 + n) = b (22 + n) ∧ a (30 + n) = b (30 + n) ∧ a (38 + n) = b (38 + n)) : dk_live (upd a 0 (nI (n + 1))) (upd b 0 (nI (n + 1))) := by
  intro k hk
  by_cases hkq : k = 0
  · simp [upd, hkq]
  · simp only [upd, hkq, if_false]
    have h0 : (a 0).toNatClampNeg = n := by rw [hn]; exact nI_clamp (by omega)
    by_cases hl : dk_lv a k
    · exact h k hl
    · unfold dk_lv at hk hl
      simp only [dk_np, dk_nl, dk_ne, dk_na, upd, show ¬ 1 = 0 by omega, show ¬ 2 = 0 by omega, show ¬ 3 = 0 by omega, if_false, if_true, nI_clamp (show n + 1 < 2 ^ 31 by omega)] at hk hl
      rw [h0] at hl
      rcases (show k = 6 + n ∨ k = 14 + n ∨ k = 22 + n ∨ k = 30 + n ∨ k = 38 + n by omega) with rfl | rfl | rfl | rfl | rfl
      · exact e.1
      · exact e.2.1
      · exact e.2.2.1
      · exact e.2.2.2.1
      · exact e.2.2.2.2
theorem dk_live_inc1 {a b : Nat → Int32} {n : Nat} (h : dk_live a b) (hn : a 1 = nI n) (hs : n < 3) (e : a (54 + n) = b (54 + n) ∧ a (57 + n) = b (57 + n) ∧ a (60 + n) = b (60 + n) ∧ a (63 + n) = b (63 + n) ∧ a (66 + n) = b (66 + n)) : dk_live (upd a 1 (nI (n + 1))) (upd b 1 (nI (n + 1))) := by
  intro k hk
  by_cases hkq : k = 1
  · simp [upd, hkq]
  · simp only [upd, hkq, if_false]
    have h0 : (a 1).toNatClampNeg = n := by rw [hn]; exact nI_clamp (by omega)
    by_cases hl : dk_lv a k
    · exact h k hl
    · unfold dk_lv at hk hl
      simp only [dk_np, dk_nl, dk_ne, dk_na, upd, show ¬ 0 = 1 by omega, show ¬ 2 = 1 by omega, show ¬ 3 = 1 by omega, if_false, if_true, nI_clamp (show n + 1 < 2 ^ 31 by omega)] at hk hl
      rw [h0] at hl
      rcases (show k = 54 + n ∨ k = 57 + n ∨ k = 60 + n ∨ k = 63 + n ∨ k = 66 + n by omega) with rfl | rfl | rfl | rfl | rfl
      · exact e.1
      · exact e.2.1
      · exact e.2.2.1
      · exact e.2.2.2.1
      · exact e.2.2.2.2
theorem dk_live_inc2 {a b : Nat → Int32} {n : Nat} (h : dk_live a b) (hn : a 2 = nI n) (hs : n < 60) (e : a (69 + n) = b (69 + n) ∧ a (129 + n) = b (129 + n) ∧ a (189 + n) = b (189 + n) ∧ a (249 + n) = b (249 + n) ∧ a (309 + n) = b (309 + n)) : dk_live (upd a 2 (nI (n + 1))) (upd b 2 (nI (n + 1))) := by
  intro k hk
  by_cases hkq : k = 2
  · simp [upd, hkq]
  · simp only [upd, hkq, if_false]
    have h0 : (a 2).toNatClampNeg = n := by rw [hn]; exact nI_clamp (by omega)
    by_cases hl : dk_lv a k
    · exact h k hl
    · unfold dk_lv at hk hl
      simp only [dk_np, dk_nl, dk_ne, dk_na, upd, show ¬ 0 = 2 by omega, show ¬ 1 = 2 by omega, show ¬ 3 = 2 by omega, if_false, if_true, nI_clamp (show n + 1 < 2 ^ 31 by omega)] at hk hl
      rw [h0] at hl
      rcases (show k = 69 + n ∨ k = 129 + n ∨ k = 189 + n ∨ k = 249 + n ∨ k = 309 + n by omega) with rfl | rfl | rfl | rfl | rfl
      · exact e.1
      · exact e.2.1
      · exact e.2.2.1
      · exact e.2.2.2.1
      · exact e.2.2.2.2
theorem dk_live_inc3 {a b : Nat → Int32} {n : Nat} (h : dk_live a b) (hn : a 3 = nI n) (hs : n < 30) (e : a (369 + n) = b (369 + n) ∧ a (399 + n) = b (399 + n) ∧ a (429 + n) = b (429 + n)) : dk_live (upd a 3 (nI (n + 1))) (upd b 3 (nI (n + 1))) := by
  intro k hk
  by_cases hkq : k = 3
  · simp [upd, hkq]
  · simp only [upd, hkq, if_false]
    have h0 : (a 3).toNatClampNeg = n := by rw [hn]; exact nI_clamp (by omega)
    by_cases hl : dk_lv a k
    · exact h k hl
    · unfold dk_lv at hk hl
      simp only [dk_np, dk_nl, dk_ne, dk_na, upd, show ¬ 0 = 3 by omega, show ¬ 1 = 3 by omega, show ¬ 2 = 3 by omega, if_false, if_true, nI_clamp (show n + 1 < 2 ^ 31 by omega)] at hk hl
      rw [h0] at hl
      rcases (show k = 369 + n ∨ k = 399 + n ∨ k = 429 + n by omega) with rfl | rfl | rfl
      · exact e.1
      · exact e.2.1
      · exact e.2.2
/-- in one of them places that don't count are changed -/
theorem dk_live_off {a b : Nat → Int32} {q : Nat} {x : Int32} (h : dk_live a b) (hq : ¬ dk_lv a q) : dk_live (upd a q x) b := by
  have hq6 : 6 ≤ q := by
    unfold dk_lv at hq; omega
  intro k hk
  have hc : dk_lv (upd a q x) k ↔ dk_lv a k := by
    unfold dk_lv
    simp only [dk_np, dk_nl, dk_ne, dk_na, upd, show ¬ 0 = q by omega, show ¬ 1 = q by omega, show ¬ 2 = q by omega, show ¬ 3 = q by omega, if_false]
  by_cases hkq : k = q
  · subst hkq; exact absurd (hc.mp hk) hq
  · simp only [upd, hkq, if_false]
    exact h k (hc.mp hk)
