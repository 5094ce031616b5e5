/-! switches -/
theorem hd_E_sw {Ls y t p : Nat} {x j : Int32} {d lo hi : Int} {offs : Array Int} {L st : List Value} {M : hd_Mem} {Q : Option Value → hd_Mem → Prop} (h : x = j) (hp : ((p : Int) + hd_sw j d lo hi offs).toNat = t) (k : hd_E Ls y (t, L, st, M) Q) : hd_E Ls y (((p : Int) + hd_sw x d lo hi offs).toNat, L, st, M) Q := by
  subst h
  rw [hp]
  exact k
theorem hd_E_swd {Ls y t p n : Nat} {x : Int32} {d hi : Int} {offs : Array Int} {L st : List Value} {M : hd_Mem} {Q : Option Value → hd_Mem → Prop} (h : ∀ j : Nat, j ≤ n → ¬ x = Int32.ofNat j) (hn : hi = n ∧ n < 2 ^ 31) (hp : ((p : Int) + d).toNat = t) (k : hd_E Ls y (t, L, st, M) Q) : hd_E Ls y (((p : Int) + hd_sw x d 0 hi offs).toNat, L, st, M) Q := by
  have hs : hd_sw x d 0 hi offs = d := by
    unfold hd_sw
    rw [if_pos]
    by_cases h0 : x.toInt < 0
    · exact Or.inl h0
    · by_cases h1 : hi < x.toInt
      · exact Or.inr h1
      · exfalso
        have h2 : x.toInt.toNat ≤ n := by omega
        apply h _ h2
        rw [← Int32.toInt_inj]
        have h3 : (Int32.ofNat x.toInt.toNat).toInt = (x.toInt.toNat : Int) := nI_toInt (by omega)
        rw [h3]; omega
  rw [hs, hp]
  exact k
