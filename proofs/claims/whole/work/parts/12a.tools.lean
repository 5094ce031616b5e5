/-! loops of the pure machine, and numbers -/
def hd_sum (f : Nat → Int32) : Nat → Int32
  | 0 => 0
  | n + 1 => hd_sum f n + f n
theorem hd_E_eq {Ls y : Nat} {s s' : hd_S} {Q : Option Value → hd_Mem → Prop} (h : s = s') (k : hd_E Ls y s' Q) : hd_E Ls y s Q := h ▸ k
/-- a loop whose state at its head is known: S i after i rounds -/
theorem hd_for {Ls y : Nat} {Q : Option Value → hd_Mem → Prop} (n : Nat) (S : Nat → hd_S) (hs : ∀ i, i < n → hd_E Ls y (S (i + 1)) Q → hd_E Ls y (S i) Q) (he : hd_E Ls y (S n) Q) : hd_E Ls y (S 0) Q := by
  have key : ∀ k i, i + k = n → hd_E Ls y (S i) Q := by
    intro k
    induction k with
    | zero => intro i h; rw [show i = n by omega]; exact he
    | succ k ih => intro i h; exact hs i (by omega) (ih (i + 1) (by omega))
  exact key n 0 (by omega)
theorem hd_in_nI {i n : Nat} (h : i < n) (hn : n < 2 ^ 31) : hd_in (nI i) n := by
  unfold hd_in
  rw [nI_toInt (by omega)]
  omega
theorem hd_in_of {x : Int32} {n : Nat} (h : hd_in x n) (hn : n < 2 ^ 31) : ∃ i, i < n ∧ x = nI i := by
  obtain ⟨h1, h2⟩ := h
  refine ⟨x.toInt.toNat, by omega, ?_⟩
  rw [← Int32.toInt_inj, nI_toInt (by omega)]
  omega
theorem hd_clp {i : Nat} (h : i < 2 ^ 31) : (nI i).toNatClampNeg = i := nI_clamp h
theorem hd_okR_n {Ls k n i : Nat} (ha : hd_arr Ls k = some n) (hi : i < n) (hn : n < 2 ^ 31) : hd_okR Ls k (nI i) := ⟨n, ha, hd_in_nI hi hn⟩
theorem hd_okW_n {k n i : Nat} (hk : k < 78) (ha : hd_lay k = .inr (.inl n)) (hi : i < n) (hn : n < 2 ^ 31) : hd_okW k (nI i) := ⟨hk, n, ha, hd_in_nI hi hn⟩
theorem hd_okZ_n {k n i : Nat} (hk : k < 78) (ha : hd_lay k = .inr (.inr (.inl n))) (hi : i < n) (hn : n < 2 ^ 31) : hd_okZ k (nI i) := ⟨hk, n, ha, hd_in_nI hi hn⟩
theorem hd_nle {a b : Nat} (h : a < b) (hb : b < 2 ^ 31) : ¬ nI b ≤ nI a := by rw [nI_leI hb (by omega)]; omega
theorem hd_nilt {a b : Nat} (h : ¬ nI b ≤ nI a) (ha : a < 2 ^ 31) (hb : b < 2 ^ 31) : a < b := by rw [nI_leI hb ha] at h; omega
theorem hd_set_at {M : hd_Mem} {k j : Nat} {x : Int32} : hd_set M k j x k j = x := by simp [hd_set]
theorem hd_set_nj {M : hd_Mem} {k j i : Nat} {x : Int32} (h : i ≠ j) : hd_set M k j x k i = M k i := by simp [hd_set, h]
theorem hd_set_nk {M : hd_Mem} {k j a i : Nat} {x : Int32} (h : a ≠ k) : hd_set M k j x a i = M a i := by simp [hd_set, h]
theorem hd_forP {Ls y : Nat} {Q : Option Value → hd_Mem → Prop} (n : Nat) (P : Nat → hd_S → Prop) (hs : ∀ i s, i < n → P i s → (∀ s', P (i + 1) s' → hd_E Ls y s' Q) → hd_E Ls y s Q) (he : ∀ s, P n s → hd_E Ls y s Q) : ∀ s, P 0 s → hd_E Ls y s Q := by
  have key : ∀ k i, i + k = n → ∀ s, P i s → hd_E Ls y s Q := by
    intro k
    induction k with
    | zero => intro i h s hp; rw [show i = n by omega] at hp; exact he s hp
    | succ k ih => intro i h s hp; exact hs i s (by omega) hp (ih (i + 1) (by omega))
  exact key n 0 (by omega)
