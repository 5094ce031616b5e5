/-! sets of people as ints -/
theorem dk_nB {a : Nat} (ha : a < 2 ^ 32) : (nI a).toBitVec.toNat = a := by
  show (BitVec.ofNat 32 a).toNat = a
  rw [BitVec.toNat_ofNat, Nat.mod_eq_of_lt ha]
theorem dk_andN {a b : Nat} (ha : a < 2 ^ 32) (hb : b < 2 ^ 32) : nI a &&& nI b = nI (a &&& b) := by
  apply Int32.toBitVec_inj.mp
  apply BitVec.eq_of_toNat_eq
  rw [Int32.toBitVec_and, BitVec.toNat_and, dk_nB ha, dk_nB hb, dk_nB (Nat.lt_of_le_of_lt Nat.and_le_left ha)]
theorem dk_dfN {s g : Nat} (hs : s < 2 ^ 32) (hg : g < 2 ^ 32) : nI s &&& (nI g ^^^ (-1 : Int32)) = nI (dk_df s g) := by
  apply Int32.toBitVec_inj.mp
  apply BitVec.eq_of_toNat_eq
  rw [Int32.toBitVec_and, Int32.toBitVec_xor, BitVec.toNat_and, BitVec.toNat_xor, dk_nB hs, dk_nB hg, dk_nB (show dk_df s g < 2 ^ 32 from Nat.lt_of_le_of_lt Nat.and_le_left hs)]
  rfl
theorem dk_orN : ∀ p, p < 8 → ∀ x, x < 2 ^ p → nI x ||| ((1 : Int32) <<< (nI p &&& 31)) = nI (x + 2 ^ p) := by decide +kernel
theorem dk_orN2 : ∀ p, p < 8 → ∀ x, x < 2 ^ p → ((1 : Int32) <<< (nI p &&& 31)) ||| nI x = nI (x + 2 ^ p) := by decide +kernel
theorem dk_shN : ∀ p, p < 8 → (1 : Int32) <<< (nI p &&& 31) = nI (2 ^ p) := by decide +kernel
theorem dk_shr {y k : Nat} (hy : y < 2 ^ 31) (hk : k < 32) : nI y >>> (nI k &&& 31) = nI (y / 2 ^ k) := by
  have h1 : ∀ k, k < 32 → (nI k &&& 31).toBitVec.smod 32 = BitVec.ofNat 32 k := by decide +kernel
  have hd : y / 2 ^ k < 2 ^ 31 := Nat.lt_of_le_of_lt (Nat.div_le_self _ _) hy
  apply Int32.toInt_inj.mp
  rw [nI_toInt hd]
  show (nI y >>> (nI k &&& 31)).toBitVec.toInt = _
  rw [Int32.toBitVec_shiftRight, h1 k hk, BitVec.sshiftRight_eq', BitVec.toNat_ofNat, Nat.mod_eq_of_lt (by omega), BitVec.toInt_sshiftRight]
  show (nI y).toInt >>> k = _
  rw [nI_toInt hy, Int.shiftRight_eq_div_pow]
  norm_cast
theorem dk_sh16 {y : Nat} (hy : y < 2 ^ 31) : nI y >>> ((16 : Int32) &&& 31) = nI (y / 65536) := dk_shr (k := 16) hy (by omega)
theorem dk_bitN : ∀ s, s < 256 → ∀ q, q < 8 → ((nI s >>> (nI q &&& 31)) &&& 1 = if s.testBit q then 1 else 0) := by decide +kernel
theorem dk_bcN : ∀ s, s < 256 → f_In_bitCount (nI s) = nI (dk_bc8 s) := by decide +kernel
theorem dk_digN : ∀ s, s < 256 → dk_dig s = nI (dk_dg s) := by decide +kernel
theorem dk_shl16 : ∀ n, n < 9 → nI n <<< ((16 : Int32) &&& 31) = nI (n * 65536) := by decide +kernel
theorem dk_and0 {a b : Nat} (ha : a < 256) (hb : b < 256) : nI a &&& nI b = 0 ↔ ∀ i, i < 8 → ¬ (a.testBit i = true ∧ b.testBit i = true) := by
  rw [dk_andN (by omega) (by omega)]
  have hl : a &&& b < 256 := Nat.lt_of_le_of_lt Nat.and_le_left ha
  constructor
  · intro h i _ hi
    have h0 : a &&& b = 0 := by
      rw [show (0 : Int32) = nI 0 from rfl, nI_eq (by omega) (by omega)] at h
      exact h
    have := Nat.testBit_and a b i
    rw [h0, hi.1, hi.2] at this
    simp at this
  · intro h
    have h0 : a &&& b = 0 := by
      apply Nat.eq_of_testBit_eq
      intro i
      rw [Nat.testBit_and, Nat.zero_testBit]
      by_cases q : i < 8
      · have := h i q
        cases e1 : a.testBit i <;> cases e2 : b.testBit i <;> simp_all
      · rw [Nat.testBit_lt_two_pow (Nat.lt_of_lt_of_le ha (Nat.pow_le_pow_right (n := 2) (i := 8) (by omega) (by omega)))]
        rfl
    rw [h0]
    rfl
theorem dk_df00 {a b : Nat} (ha : a < 256) (hb : b < 256) : nI a &&& (nI b ^^^ (-1 : Int32)) = 0 ↔ ∀ i, i < 8 → a.testBit i = true → b.testBit i = true := by
  rw [dk_dfN (by omega) (by omega)]
  have hl : dk_df a b < 256 := dk_df_lt ha
  constructor
  · intro h i hi h1
    have h0 : dk_df a b = 0 := by
      rw [show (0 : Int32) = nI 0 from rfl, nI_eq (by omega) (by omega)] at h
      exact h
    have := dk_df_tb a b i (by omega)
    rw [h0, h1, Nat.zero_testBit] at this
    cases e : b.testBit i
    · rw [e] at this; simp at this
    · rfl
  · intro h
    have h0 : dk_df a b = 0 := by
      apply Nat.eq_of_testBit_eq
      intro i
      rw [Nat.zero_testBit]
      by_cases q : i < 8
      · rw [dk_df_tb _ _ _ (by omega)]
        have := h i q
        cases e1 : a.testBit i <;> cases e2 : b.testBit i <;> simp_all
      · exact Nat.testBit_lt_two_pow (Nat.lt_of_lt_of_le hl (Nat.pow_le_pow_right (n := 2) (i := 8) (by omega) (by omega)))
    rw [h0]
    rfl
/-- a set, told person by person -/
def dk_st (f : Nat → Bool) (n : Nat) : Nat := dk_sm (fun p => if f p then 2 ^ p else 0) n
theorem dk_st_lt (f : Nat → Bool) : ∀ n, dk_st f n < 2 ^ n
  | 0 => by
    show 0 < 2 ^ 0
    omega
  | n + 1 => by
    have h := dk_st_lt f n
    have e : 2 ^ (n + 1) = 2 ^ n + 2 ^ n := by rw [Nat.pow_succ]; omega
    show dk_st f n + (if f n then 2 ^ n else 0) < 2 ^ (n + 1)
    split <;> omega
theorem dk_st_tb (f : Nat → Bool) : ∀ n i, (dk_st f n).testBit i = (decide (i < n) && f i)
  | 0, i => by
    show (0 : Nat).testBit i = _
    simp
  | n + 1, i => by
    show (dk_st f n + (if f n then 2 ^ n else 0)).testBit i = _
    by_cases q : f n = true
    · rw [if_pos q, dk_tb_add (dk_st_lt f n), dk_st_tb f n i]
      by_cases z : i = n
      · subst z; simp [q]
      · simp only [z, decide_false, Bool.or_false]
        congr 1
        rw [decide_eq_decide]; omega
    · rw [if_neg q, Nat.add_zero, dk_st_tb f n i]
      by_cases z : i = n
      · subst z; simp [q]
      · congr 1
        rw [decide_eq_decide]; omega
