/-! runs of the pure machine, block by block -/
def hd_E (Ls y : Nat) (s : hd_S) (Q : Option Value → hd_Mem → Prop) : Prop := ∃ n, hd_Ev Ls n y s Q
def hd_Rt (Ls z : Nat) (as : List Value) (M : hd_Mem) (v : Option Value) (M2 : hd_Mem) : Prop := hd_E Ls z (0, hd_entry z as, [], M) (fun a b => a = v ∧ b = M2)
theorem hd_Ev_mono {Ls : Nat} : ∀ (n m y : Nat) (s : hd_S) (Q Q' : Option Value → hd_Mem → Prop), n ≤ m → (∀ v M, Q v M → Q' v M) → hd_Ev Ls n y s Q → hd_Ev Ls m y s Q'
  | 0, _, _, _, _, _, _, _, h => h.elim
  | n + 1, 0, _, _, _, _, hle, _, _ => absurd hle (by omega)
  | n + 1, m + 1, y, s, Q, Q', hle, hq, h => by
    obtain ⟨it, r, C, h1, h2, h3, h4⟩ := h
    refine ⟨it, r, C, h1, h2, h3, ?_⟩
    have hle' : n ≤ m := by omega
    match r, h4 with
    | .inl s', h4 => exact hd_Ev_mono n m y s' Q Q' hle' hq h4
    | .inr (.inl v), h4 => exact hq _ _ h4
    | .inr (.inr c), h4 => exact hd_Ev_mono n m _ _ _ _ hle' (fun v M h5 => hd_Ev_mono n m y _ Q Q' hle' hq h5) h4
/-- a run has one end -/
theorem hd_Ev_det {Ls : Nat} : ∀ (n y : Nat) (s : hd_S) (Q : Option Value → hd_Mem → Prop), hd_Ev Ls n y s Q → ∃ v M', Q v M' ∧ hd_Ev Ls n y s (fun a b => a = v ∧ b = M')
  | 0, _, _, _, h => h.elim
  | n + 1, y, s, Q, h => by
    obtain ⟨it, r, C, h1, h2, h3, h4⟩ := h
    match r, h2, h4 with
    | .inl s', h2, h4 =>
      obtain ⟨v, M', hq, h5⟩ := hd_Ev_det n y s' Q h4
      exact ⟨v, M', hq, it, _, C, h1, h2, h3, h5⟩
    | .inr (.inl v), h2, h4 => exact ⟨v.1, v.2, h4, it, _, C, h1, h2, h3, rfl, rfl⟩
    | .inr (.inr c), h2, h4 =>
      obtain ⟨v, M', hq, h5⟩ := hd_Ev_det n _ _ _ h4
      obtain ⟨w, M'', hq2, h6⟩ := hd_Ev_det n y _ Q hq
      refine ⟨w, M'', hq2, it, _, C, h1, h2, h3, ?_⟩
      exact hd_Ev_mono n n _ _ _ _ (Nat.le_refl _) (fun a b h7 => by obtain ⟨rfl, rfl⟩ := h7; exact h6) h5
theorem hd_E_mono {Ls y : Nat} {s : hd_S} {Q Q' : Option Value → hd_Mem → Prop} (h : hd_E Ls y s Q) (hq : ∀ v M, Q v M → Q' v M) : hd_E Ls y s Q' := by
  obtain ⟨n, h⟩ := h
  exact ⟨n, hd_Ev_mono n n y s Q Q' (Nat.le_refl _) hq h⟩
theorem hd_E_nx {Ls y : Nat} {s s' : hd_S} {it : hd_It} {C : Prop} {Q : Option Value → hd_Mem → Prop} (h1 : hd_fetch y s.1 = some it) (h2 : hd_act Ls (hd_rt y) it s = some (.inl s', C)) (h3 : C) (h : hd_E Ls y s' Q) : hd_E Ls y s Q := by
  obtain ⟨n, h⟩ := h
  exact ⟨n + 1, it, _, C, h1, h2, h3, h⟩
theorem hd_E_ret {Ls y : Nat} {s : hd_S} {it : hd_It} {C : Prop} {v : Option Value} {M : hd_Mem} {Q : Option Value → hd_Mem → Prop} (h1 : hd_fetch y s.1 = some it) (h2 : hd_act Ls (hd_rt y) it s = some (.inr (.inl (v, M)), C)) (h3 : C) (h : Q v M) : hd_E Ls y s Q := ⟨1, it, _, C, h1, h2, h3, h⟩
theorem hd_E_call {Ls y z pc' : Nat} {s : hd_S} {it : hd_It} {C : Prop} {as L' st' : List Value} {M M2 : hd_Mem} {v : Option Value} {Q : Option Value → hd_Mem → Prop} (h1 : hd_fetch y s.1 = some it) (h2 : hd_act Ls (hd_rt y) it s = some (.inr (.inr (z, as, pc', L', st', M)), C)) (h3 : C) (hc : hd_Rt Ls z as M v M2) (h : hd_E Ls y (pc', L', v.toList ++ st', M2) Q) : hd_E Ls y s Q := by
  obtain ⟨n, hc⟩ := hc
  obtain ⟨k, h⟩ := h
  refine ⟨max n k + 1, it, _, C, h1, h2, h3, ?_⟩
  exact hd_Ev_mono n (max n k) _ _ _ _ (Nat.le_max_left _ _) (fun a b hab => by obtain ⟨rfl, rfl⟩ := hab; exact hd_Ev_mono k (max n k) y _ Q Q (Nat.le_max_right _ _) (fun _ _ q => q) h) hc
theorem hd_E_if {Ls y a b : Nat} {c : Prop} [Decidable c] {L st : List Value} {M : hd_Mem} {Q : Option Value → hd_Mem → Prop} (ht : c → hd_E Ls y (a, L, st, M) Q) (hf : ¬ c → hd_E Ls y (b, L, st, M) Q) : hd_E Ls y (if c then a else b, L, st, M) Q := by
  by_cases h : c
  · rw [if_pos h]; exact ht h
  · rw [if_neg h]; exact hf h
def hd_plain (i : Instr) : Bool := match i with
  | .ifCond .. => false
  | .if_icmp .. => false
  | .tableswitch .. => false
  | .ireturn => false
  | .return_ => false
  | .invokevirtual _ => false
  | _ => true
def hd_nxt (it : hd_It) (pc : Nat) : Nat := match it.1 with
  | .goto _ => it.2.2.1
  | i => pc + hd_len i
/-- the method's code from pc on: these instructions -/
def hd_at (y : Nat) : Nat → List hd_It → Bool
  | _, [] => true
  | pc, [it] => decide (hd_fetch y pc = some it)
  | pc, it :: t => decide (hd_fetch y pc = some it) && hd_plain it.1 && hd_at y (hd_nxt it pc) t
def hd_blk (Ls : Nat) (rt : Option FieldType) : List hd_It → hd_S → Option (hd_S × Prop)
  | [], s => some (s, True)
  | it :: t, s => match hd_act Ls rt it s with
    | some (.inl s', C) => (match hd_blk Ls rt t s' with
      | some q => some (q.1, C ∧ q.2)
      | none => none)
    | _ => none
set_option maxHeartbeats 4000000 in
theorem hd_act_pc {Ls : Nat} {rt : Option FieldType} {it : hd_It} {s s' : hd_S} {C : Prop} (hp : hd_plain it.1 = true) (h : hd_act Ls rt it s = some (.inl s', C)) : s'.1 = hd_nxt it s.1 := by
  obtain ⟨i, n, r1, r2, r3, kc⟩ := it
  obtain ⟨pc, L, st, M⟩ := s
  cases i
  case getfield x =>
    obtain ⟨k, rr, fl, -, -, -, h9⟩ := hd_getf_inv h
    rcases h9 with ⟨-, h9⟩ | ⟨t, -, h9⟩ <;> (cases h9; rfl)
  case putfield x =>
    obtain ⟨w, k, rr, fl, -, -, -, -, h9⟩ := hd_putf_inv h
    cases h9; rfl
  case aaload =>
    obtain ⟨w, k, rr, z, b, -, -, -, -, h9⟩ := hd_aald_inv h
    cases h9; rfl
  case iinc k v =>
    obtain ⟨x, -, h9⟩ := hd_iinc_inv h
    cases h9; rfl
  case iload_n k => obtain ⟨x, -, h9⟩ := hd_ld_inv (k := k.val) h; cases h9; rfl
  case iload k => obtain ⟨x, -, h9⟩ := hd_ld_inv (k := k) h; cases h9; rfl
  case aload_n k => obtain ⟨x, -, h9⟩ := hd_la_inv (k := k.val) h; cases h9; rfl
  case istore_n k => obtain ⟨x, rr, -, -, h9⟩ := hd_sto_inv (k := k.val) h; cases h9; rfl
  case istore k => obtain ⟨x, rr, -, -, h9⟩ := hd_sto_inv (k := k) h; cases h9; rfl
  case invokestatic x =>
    by_cases q0 : r3 = 0
    · obtain ⟨bs, rr, -, -, -, -, h9⟩ := hd_calls_inv q0 h; cases h9
    · by_cases q3 : r3 = 3
      · obtain ⟨nn, dp, sp, t, k, -, -, h9⟩ := hd_copy_inv q3 h; cases h9; rfl
      · by_cases q4 : r3 = 4
        · obtain ⟨b, a, rr, -, -, -, h9⟩ := hd_max_inv q4 h; cases h9; rfl
        · by_cases q5 : r3 = 5
          · obtain ⟨b, a, rr, -, -, -, h9⟩ := hd_min_inv q5 h; cases h9; rfl
          · simp [hd_act, q0, q3, q4, q5] at h
  case iadd => obtain ⟨b, a, rr, -, h9, -⟩ := hd_op2_inv h; cases h9; rfl
  case isub => obtain ⟨b, a, rr, -, h9, -⟩ := hd_op2_inv h; cases h9; rfl
  case imul => obtain ⟨b, a, rr, -, h9, -⟩ := hd_op2_inv h; cases h9; rfl
  case idiv => obtain ⟨b, a, rr, -, h9, -⟩ := hd_op2_inv h; cases h9; rfl
  case irem => obtain ⟨b, a, rr, -, h9, -⟩ := hd_op2_inv h; cases h9; rfl
  case iand => obtain ⟨b, a, rr, -, h9, -⟩ := hd_op2_inv h; cases h9; rfl
  case ior => obtain ⟨b, a, rr, -, h9, -⟩ := hd_op2_inv h; cases h9; rfl
  case ixor => obtain ⟨b, a, rr, -, h9, -⟩ := hd_op2_inv h; cases h9; rfl
  case ishl => obtain ⟨b, a, rr, -, h9, -⟩ := hd_op2_inv h; cases h9; rfl
  case ishr => obtain ⟨b, a, rr, -, h9, -⟩ := hd_op2_inv h; cases h9; rfl
  case iushr => obtain ⟨b, a, rr, -, h9, -⟩ := hd_op2_inv h; cases h9; rfl
  case iconst v => obtain h9 := hd_nx_inv h; cases h9; rfl
  case bipush v => obtain h9 := hd_nx_inv h; cases h9; rfl
  case sipush v => obtain h9 := hd_nx_inv h; cases h9; rfl
  case ldc v => obtain h9 := hd_nx_inv h; cases h9; rfl
  case ldc_w v => obtain h9 := hd_nx_inv h; cases h9; rfl
  case goto v => obtain h9 := hd_nx_inv h; cases h9; rfl
  case getstatic v => obtain h9 := hd_nx_inv h; cases h9; rfl
  case i2l => simp only [hd_act] at h; split at h <;> first | (obtain h9 := hd_nx_inv h; cases h9; rfl) | cases h
  case i2b => simp only [hd_act] at h; split at h <;> first | (obtain h9 := hd_nx_inv h; cases h9; rfl) | cases h
  case i2s => simp only [hd_act] at h; split at h <;> first | (obtain h9 := hd_nx_inv h; cases h9; rfl) | cases h
  case ladd => simp only [hd_act] at h; split at h <;> first | (obtain h9 := hd_nx_inv h; cases h9; rfl) | cases h
  case lcmp => simp only [hd_act] at h; split at h <;> first | (obtain h9 := hd_nx_inv h; cases h9; rfl) | cases h
  case dup => simp only [hd_act] at h; split at h <;> try (cases h; done)
              split at h <;> first | (obtain h9 := hd_nx_inv h; cases h9; rfl) | cases h
  case dup2 => simp only [hd_act] at h; split at h <;> try (cases h; done)
               split at h <;> first | (obtain h9 := hd_nx_inv h; cases h9; rfl) | cases h
  case pop => simp only [hd_act] at h; split at h <;> try (cases h; done)
              split at h <;> first | (obtain h9 := hd_nx_inv h; cases h9; rfl) | cases h
  case iaload => simp only [hd_act] at h; split at h <;> first | (obtain ⟨h9, -⟩ := hd_nc_inv h; cases h9; rfl) | cases h
  case iastore => simp only [hd_act] at h; split at h <;> first | (obtain ⟨h9, -⟩ := hd_nc_inv h; cases h9; rfl) | cases h
  case baload => simp only [hd_act] at h; split at h <;> first | (obtain ⟨h9, -⟩ := hd_nc_inv h; cases h9; rfl) | cases h
  case bastore => simp only [hd_act] at h; split at h <;> first | (obtain ⟨h9, -⟩ := hd_nc_inv h; cases h9; rfl) | cases h
  case arraylength => simp only [hd_act] at h; split at h <;> try (cases h; done)
                      split at h <;> first | (obtain h9 := hd_nx_inv h; cases h9; rfl) | cases h
  all_goals first | (simp [hd_plain] at hp; done) | (simp [hd_act] at h; done)
theorem hd_blk_cons {Ls : Nat} {rt : Option FieldType} {it : hd_It} {t : List hd_It} {s s' : hd_S} {C : Prop} (h : hd_blk Ls rt (it :: t) s = some (s', C)) : ∃ (s1 : hd_S) (C1 C2 : Prop), hd_act Ls rt it s = some (.inl s1, C1) ∧ hd_blk Ls rt t s1 = some (s', C2) ∧ C = (C1 ∧ C2) := by
  simp only [hd_blk] at h
  split at h
  next s1 C1 h1 =>
    split at h
    next q h2 =>
      simp only [Option.some.injEq, Prod.mk.injEq] at h
      exact ⟨s1, C1, q.2, h1, by rw [h2, ← h.1], h.2.symm⟩
    · cases h
  · cases h
/-- a block is run -/
theorem hd_E_blk {Ls y : Nat} {Q : Option Value → hd_Mem → Prop} : ∀ (items : List hd_It) {s s' : hd_S} {C : Prop}, hd_at y s.1 items = true → hd_blk Ls (hd_rt y) items s = some (s', C) → C → hd_E Ls y s' Q → hd_E Ls y s Q
  | [], s, s', C, _, h2, _, h => by
    simp only [hd_blk, Option.some.injEq, Prod.mk.injEq] at h2
    rw [h2.1]; exact h
  | [it], s, s', C, h1, h2, h3, h => by
    obtain ⟨s1, C1, C2, k1, k2, rfl⟩ := hd_blk_cons h2
    simp only [hd_blk, Option.some.injEq, Prod.mk.injEq] at k2
    rw [← k2.1] at h
    simp only [hd_at, decide_eq_true_eq] at h1
    exact hd_E_nx h1 k1 h3.1 h
  | it :: it2 :: t, s, s', C, h1, h2, h3, h => by
    obtain ⟨s1, C1, C2, k1, k2, rfl⟩ := hd_blk_cons h2
    simp only [hd_at, Bool.and_eq_true, decide_eq_true_eq] at h1
    obtain ⟨⟨q1, q2⟩, q3⟩ := h1
    refine hd_E_nx q1 k1 h3.1 (hd_E_blk (it2 :: t) ?_ k2 h3.2 h)
    rw [hd_act_pc q2 k1]
    exact q3
theorem hd_B {Ls y pc : Nat} {L st : List Value} {M : hd_Mem} {Q : Option Value → hd_Mem → Prop} (items : List hd_It) {s' : hd_S} {C : Prop} (h1 : hd_at y pc items = true) (h2 : hd_blk Ls (hd_rt y) items (pc, L, st, M) = some (s', C)) (h3 : C) (h : hd_E Ls y s' Q) : hd_E Ls y (pc, L, st, M) Q := hd_E_blk items h1 h2 h3 h
theorem hd_BR {Ls y pc : Nat} {L st : List Value} {M M' : hd_Mem} {Q : Option Value → hd_Mem → Prop} {it : hd_It} {C : Prop} {v : Option Value} (h1 : hd_fetch y pc = some it) (h2 : hd_act Ls (hd_rt y) it (pc, L, st, M) = some (.inr (.inl (v, M')), C)) (h3 : C) (h : Q v M') : hd_E Ls y (pc, L, st, M) Q := hd_E_ret h1 h2 h3 h
theorem hd_BC {Ls y z pc pc' : Nat} {it : hd_It} {C : Prop} {as L st L' st' : List Value} {M M1 M2 : hd_Mem} {v : Option Value} {Q : Option Value → hd_Mem → Prop} (h1 : hd_fetch y pc = some it) (h2 : hd_act Ls (hd_rt y) it (pc, L, st, M) = some (.inr (.inr (z, as, pc', L', st', M1)), C)) (h3 : C) (hc : hd_Rt Ls z as M1 v M2) (h : hd_E Ls y (pc', L', v.toList ++ st', M2) Q) : hd_E Ls y (pc, L, st, M) Q := hd_E_call h1 h2 h3 hc h
