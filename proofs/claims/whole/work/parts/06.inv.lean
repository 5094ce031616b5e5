/-! what an instruction of the pure machine was, when it came through -/
theorem hd_fetch_spec {y pc : Nat} {it : hd_It} (h : hd_fetch y pc = some it) : ∃ (i : Instr) (n : Nat), decode (hd_cd y) pc = .ok (i, n) ∧ hd_lenok i n = true ∧ hd_res y pc i n = some it := by
  unfold hd_fetch at h
  cases hd : decode (hd_cd y) pc with
  | error e => rw [hd] at h; cases h
  | ok q =>
    rw [hd] at h
    by_cases hl : hd_lenok q.1 q.2 = true
    · simp only [hl, if_true] at h
      exact ⟨q.1, q.2, rfl, hl, h⟩
    · simp only [hl] at h
      simp at h
theorem hd_op2_inv {pc : Nat} {L st : List Value} {M : hd_Mem} {f : Int32 → Int32 → Int32} {Cf : Int32 → Prop} {r : hd_Re} {C : Prop} (h : hd_op2 pc L st M f Cf = some (r, C)) : ∃ (y x : Int32) (rr : List Value), st = .int y :: .int x :: rr ∧ r = .inl (pc, L, .int (f x y) :: rr, M) ∧ C = Cf y := by
  unfold hd_op2 at h
  split at h
  · simp only [hd_nc, Option.some.injEq, Prod.mk.injEq] at h
    exact ⟨_, _, _, rfl, h.1.symm, h.2.symm⟩
  · cases h
theorem hd_ld_inv {pc k : Nat} {L st : List Value} {M : hd_Mem} {r : hd_Re} {C : Prop} (h : hd_ld pc L st M k = some (r, C)) : ∃ x : Int32, L[k]? = some (.int x) ∧ r = .inl (pc, L, .int x :: st, M) := by
  unfold hd_ld at h
  split at h
  · simp only [hd_nx, Option.some.injEq, Prod.mk.injEq] at h
    exact ⟨_, by assumption, h.1.symm⟩
  · cases h
theorem hd_la_inv {pc k : Nat} {L st : List Value} {M : hd_Mem} {r : hd_Re} {C : Prop} (h : hd_la pc L st M k = some (r, C)) : ∃ x : Nat, L[k]? = some (.ref x) ∧ r = .inl (pc, L, .ref x :: st, M) := by
  unfold hd_la at h
  split at h
  · simp only [hd_nx, Option.some.injEq, Prod.mk.injEq] at h
    exact ⟨_, by assumption, h.1.symm⟩
  · cases h
theorem hd_sto_inv {pc k : Nat} {L st : List Value} {M : hd_Mem} {r : hd_Re} {C : Prop} (h : hd_sto pc L st M k = some (r, C)) : ∃ (x : Int32) (rr : List Value), st = .int x :: rr ∧ k < L.length ∧ r = .inl (pc, L.set k (.int x), rr, M) := by
  unfold hd_sto at h
  split at h
  · split at h
    · simp only [hd_nx, Option.some.injEq, Prod.mk.injEq] at h
      exact ⟨_, _, rfl, by assumption, h.1.symm⟩
    · cases h
  · cases h
theorem hd_nx_inv {pc : Nat} {L st : List Value} {M : hd_Mem} {r : hd_Re} {C : Prop} (h : hd_nx pc L st M = some (r, C)) : r = .inl (pc, L, st, M) := by
  simp only [hd_nx, Option.some.injEq, Prod.mk.injEq] at h
  exact h.1.symm
theorem hd_nc_inv {Cx : Prop} {pc : Nat} {L st : List Value} {M : hd_Mem} {r : hd_Re} {C : Prop} (h : hd_nc Cx pc L st M = some (r, C)) : r = .inl (pc, L, st, M) ∧ C = Cx := by
  simp only [hd_nc, Option.some.injEq, Prod.mk.injEq] at h
  exact ⟨h.1.symm, h.2.symm⟩
theorem hd_iinc_inv {pc k Ls n r1 r2 r3 : Nat} {rt : Option FieldType} {v : Int} {kc : Int32} {L st : List Value} {M : hd_Mem} {r : hd_Re} {C : Prop} (h : hd_act Ls rt (.iinc k v, n, r1, r2, r3, kc) (pc, L, st, M) = some (r, C)) : ∃ x : Int32, L[k]? = some (.int x) ∧ r = .inl (pc + 3, L.set k (.int (x + kc)), st, M) := by
  simp only [hd_act] at h
  split at h
  · exact ⟨_, by assumption, hd_nx_inv h⟩
  · cases h
theorem hd_getf_inv {pc x Ls n r1 r2 r3 : Nat} {rt : Option FieldType} {kc : Int32} {L st : List Value} {M : hd_Mem} {r : hd_Re} {C : Prop} (h : hd_act Ls rt (.getfield x, n, r1, r2, r3, kc) (pc, L, st, M) = some (r, C)) :
    ∃ (k : Nat) (rr : List Value) (fl : List (Option Nat)), st = .ref k :: rr ∧ k < 78 ∧ hd_lay k = .inl (r1, fl) ∧ ((fl[r2]? = some none ∧ r = .inl (pc + 3, L, .int (M k r2) :: rr, M)) ∨ (∃ t, fl[r2]? = some (some t) ∧ r = .inl (pc + 3, L, .ref t :: rr, M))) := by
  simp only [hd_act] at h
  split at h
  · split at h
    · split at h
      · split at h
        · split at h
          · subst_vars
            exact ⟨_, _, _, rfl, by assumption, by assumption, Or.inl ⟨by assumption, hd_nx_inv h⟩⟩
          · subst_vars
            exact ⟨_, _, _, rfl, by assumption, by assumption, Or.inr ⟨_, by assumption, hd_nx_inv h⟩⟩
          · cases h
        · cases h
      · cases h
    · cases h
  · cases h
theorem hd_putf_inv {pc x Ls n r1 r2 r3 : Nat} {rt : Option FieldType} {kc : Int32} {L st : List Value} {M : hd_Mem} {r : hd_Re} {C : Prop} (h : hd_act Ls rt (.putfield x, n, r1, r2, r3, kc) (pc, L, st, M) = some (r, C)) :
    ∃ (w : Int32) (k : Nat) (rr : List Value) (fl : List (Option Nat)), st = .int w :: .ref k :: rr ∧ k < 78 ∧ hd_lay k = .inl (r1, fl) ∧ fl[r2]? = some none ∧ r = .inl (pc + 3, L, rr, hd_set M k r2 w) := by
  simp only [hd_act] at h
  split at h
  · split at h
    · split at h
      · split at h
        · split at h
          · subst_vars
            exact ⟨_, _, _, _, rfl, by assumption, by assumption, by assumption, hd_nx_inv h⟩
          · cases h
        · cases h
      · cases h
    · cases h
  · cases h
theorem hd_aald_inv {pc Ls n r1 r2 r3 : Nat} {rt : Option FieldType} {kc : Int32} {L st : List Value} {M : hd_Mem} {r : hd_Re} {C : Prop} (h : hd_act Ls rt (.aaload, n, r1, r2, r3, kc) (pc, L, st, M) = some (r, C)) :
    ∃ (i : Int32) (k : Nat) (rr : List Value) (z b : Nat), st = .int i :: .ref k :: rr ∧ k < 78 ∧ hd_lay k = .inr (.inr (.inr (z, b))) ∧ C = hd_in i z ∧ r = .inl (pc + 1, L, .ref (b + i.toNatClampNeg) :: rr, M) := by
  simp only [hd_act] at h
  split at h
  · split at h
    · split at h
      · obtain ⟨h1, h2⟩ := hd_nc_inv h
        exact ⟨_, _, _, _, _, rfl, by assumption, by assumption, h2, h1⟩
      · cases h
    · cases h
  · cases h
theorem hd_iret_inv {pc Ls n r1 r2 r3 : Nat} {rt : Option FieldType} {kc : Int32} {L st : List Value} {M : hd_Mem} {r : hd_Re} {C : Prop} (h : hd_act Ls rt (.ireturn, n, r1, r2, r3, kc) (pc, L, st, M) = some (r, C)) (hC : C) :
    ∃ x : Int32, st = [.int x] ∧ r = .inr (.inl (some (.int x), M)) ∧ (rt = some .int ∨ rt = some .boolean ∧ (x = 0 ∨ x = 1)) := by
  simp only [hd_act] at h
  split at h
  · split at h
    · simp only [Option.some.injEq, Prod.mk.injEq] at h
      exact ⟨_, rfl, h.1.symm, Or.inl rfl⟩
    · simp only [Option.some.injEq, Prod.mk.injEq] at h
      exact ⟨_, rfl, h.1.symm, Or.inr ⟨rfl, by rw [h.2]; exact hC⟩⟩
    · cases h
  · cases h
theorem hd_vret_inv {pc Ls n r1 r2 r3 : Nat} {rt : Option FieldType} {kc : Int32} {L st : List Value} {M : hd_Mem} {r : hd_Re} {C : Prop} (h : hd_act Ls rt (.return_, n, r1, r2, r3, kc) (pc, L, st, M) = some (r, C)) :
    st = [] ∧ rt = none ∧ r = .inr (.inl (none, M)) := by
  simp only [hd_act] at h
  split at h
  · split at h
    · simp only [Option.some.injEq, Prod.mk.injEq] at h
      exact ⟨rfl, rfl, h.1.symm⟩
    · cases h
  · cases h
theorem hd_callv_inv {pc x Ls n r1 r2 r3 : Nat} {rt : Option FieldType} {kc : Int32} {L st : List Value} {M : hd_Mem} {r : hd_Re} {C : Prop} (h : hd_act Ls rt (.invokevirtual x, n, r1, r2, r3, kc) (pc, L, st, M) = some (r, C)) :
    ∃ (k : Nat) (bs rr : List Value) (fl : List (Option Nat)), st = bs ++ .ref k :: rr ∧ k < 78 ∧ bs.length = r2 ∧ rr.length ≤ 8 ∧ st.all hd_cat1 = true ∧ hd_lay k = .inl (r3, fl) ∧ r = .inr (.inr (r1, .ref k :: bs.reverse, pc + 3, L, rr, M)) := by
  simp only [hd_act] at h
  split at h
  next k rr hdrop =>
    split at h
    next hcond =>
      obtain ⟨h1, h2, h3, h4⟩ := hcond
      split at h
      next ci fl hlay =>
        split at h
        next hci =>
          simp only [Option.some.injEq, Prod.mk.injEq] at h
          subst hci
          refine ⟨k, st.take r2, rr, fl, ?_, h1, h2, h3, h4, hlay, h.1.symm⟩
          rw [← hdrop, List.take_append_drop]
        · cases h
      · cases h
    · cases h
  · cases h
theorem hd_calls_inv {pc x Ls n r1 r2 r3 : Nat} {rt : Option FieldType} {kc : Int32} {L st : List Value} {M : hd_Mem} {r : hd_Re} {C : Prop} (h3 : r3 = 0) (h : hd_act Ls rt (.invokestatic x, n, r1, r2, r3, kc) (pc, L, st, M) = some (r, C)) :
    ∃ (bs rr : List Value), st = bs ++ rr ∧ bs.length = r2 ∧ rr.length ≤ 8 ∧ st.all hd_cat1 = true ∧ r = .inr (.inr (r1, bs.reverse, pc + 3, L, rr, M)) := by
  subst h3
  simp only [hd_act, if_true] at h
  split at h
  next hcond =>
    simp only [Option.some.injEq, Prod.mk.injEq] at h
    exact ⟨st.take r2, st.drop r2, (List.take_append_drop r2 st).symm, hcond.1, hcond.2.1, hcond.2.2, h.1.symm⟩
  · cases h
theorem hd_copy_inv {pc x Ls n r1 r2 r3 : Nat} {rt : Option FieldType} {kc : Int32} {L st : List Value} {M : hd_Mem} {r : hd_Re} {C : Prop} (h3 : r3 = 3) (h : hd_act Ls rt (.invokestatic x, n, r1, r2, r3, kc) (pc, L, st, M) = some (r, C)) :
    ∃ (nn dp sp : Int32) (t k : Nat), st = [.int nn, .int dp, .ref t, .int sp, .ref k] ∧ C = (hd_okC k sp nn ∧ hd_okC t dp nn) ∧ r = .inl (pc + 3, L, [], hd_cpy M k t sp.toNatClampNeg dp.toNatClampNeg nn.toNatClampNeg) := by
  subst h3
  simp only [hd_act, show ¬ (3 : Nat) = 0 by decide, if_false, if_true] at h
  split at h
  · obtain ⟨h1, h2⟩ := hd_nc_inv h
    exact ⟨_, _, _, _, _, rfl, h2, h1⟩
  · cases h
theorem hd_max_inv {pc x Ls n r1 r2 r3 : Nat} {rt : Option FieldType} {kc : Int32} {L st : List Value} {M : hd_Mem} {r : hd_Re} {C : Prop} (h3 : r3 = 4) (h : hd_act Ls rt (.invokestatic x, n, r1, r2, r3, kc) (pc, L, st, M) = some (r, C)) :
    ∃ (b a : Int32) (rr : List Value), st = .int b :: .int a :: rr ∧ rr.length ≤ 8 ∧ rr.all hd_cat1 = true ∧ r = .inl (pc + 3, L, .int (if a < b then b else a) :: rr, M) := by
  subst h3
  simp only [hd_act, show ¬ (4 : Nat) = 0 by decide, show ¬ (4 : Nat) = 3 by decide, if_false, if_true] at h
  split at h
  · split at h
    next hc => exact ⟨_, _, _, rfl, hc.1, hc.2, hd_nx_inv h⟩
    · cases h
  · cases h
theorem hd_min_inv {pc x Ls n r1 r2 r3 : Nat} {rt : Option FieldType} {kc : Int32} {L st : List Value} {M : hd_Mem} {r : hd_Re} {C : Prop} (h3 : r3 = 5) (h : hd_act Ls rt (.invokestatic x, n, r1, r2, r3, kc) (pc, L, st, M) = some (r, C)) :
    ∃ (b a : Int32) (rr : List Value), st = .int b :: .int a :: rr ∧ rr.length ≤ 8 ∧ rr.all hd_cat1 = true ∧ r = .inl (pc + 3, L, .int (if b < a then b else a) :: rr, M) := by
  subst h3
  simp only [hd_act, show ¬ (5 : Nat) = 0 by decide, show ¬ (5 : Nat) = 3 by decide, show ¬ (5 : Nat) = 4 by decide, if_false, if_true] at h
  split at h
  · split at h
    next hc => exact ⟨_, _, _, rfl, hc.1, hc.2, hd_nx_inv h⟩
    · cases h
  · cases h
/-! what the tables gave an instruction -/
theorem hd_find_FT {o x : Nat} {q : Nat × Nat × Nat × Nat × Nat} (h : hd_FT.find? (fun q => q.1 == o && q.2.1 == x) = some q) : q.1 = o ∧ q.2.1 = x ∧ hd_fok q := by
  have h1 := List.find?_some h
  simp only [Bool.and_eq_true, beq_iff_eq] at h1
  exact ⟨h1.1, h1.2, hd_FT_ok q (List.mem_of_find?_eq_some h)⟩
theorem hd_find_LT {o x : Nat} {q : Nat × Nat × Int32 × Nat} (h : hd_LT.find? (fun q => q.1 == o && q.2.1 == x) = some q) : q.1 = o ∧ q.2.1 = x ∧ hd_lok q := by
  have h1 := List.find?_some h
  simp only [Bool.and_eq_true, beq_iff_eq] at h1
  exact ⟨h1.1, h1.2, hd_LT_ok q (List.mem_of_find?_eq_some h)⟩
theorem hd_find_CT {o x : Nat} {q : Nat × Nat × Nat × Nat × Nat} (h : hd_CT.find? (fun q => q.1 == o && q.2.1 == x) = some q) : q.1 = o ∧ q.2.1 = x ∧ hd_cok q := by
  have h1 := List.find?_some h
  simp only [Bool.and_eq_true, beq_iff_eq] at h1
  exact ⟨h1.1, h1.2, hd_CT_ok q (List.mem_of_find?_eq_some h)⟩
theorem hd_res_getf {y pc x n n' r1 r2 r3 : Nat} {kc : Int32} {i' : Instr} (h : hd_res y pc (.getfield x) n = some (i', n', r1, r2, r3, kc)) : i' = .getfield x ∧ n' = n ∧ r1 < 9 ∧ r2 < (hd_c r1).2.2 ∧ Cond.fieldLink (hd_own (hd_ow y)) x ((hd_c r1).2.1 r2).1 ((hd_c r1).2.1 r2).2.1 ((hd_c r1).2.1 r2).2.2.1 ∈ hd_tb := by
  simp only [hd_res] at h
  split at h
  next q hq =>
    obtain ⟨h1, h2, h3, h4, h5⟩ := hd_find_FT hq
    simp only [Option.some.injEq, Prod.mk.injEq] at h
    obtain ⟨rfl, rfl, rfl, rfl, -, -⟩ := h
    rw [h1, h2] at h3
    exact ⟨rfl, rfl, h4, h5, hd_tb_at h3 rfl⟩
  · cases h
theorem hd_res_putf {y pc x n n' r1 r2 r3 : Nat} {kc : Int32} {i' : Instr} (h : hd_res y pc (.putfield x) n = some (i', n', r1, r2, r3, kc)) : i' = .putfield x ∧ n' = n ∧ r1 < 9 ∧ r2 < (hd_c r1).2.2 ∧ Cond.fieldLink (hd_own (hd_ow y)) x ((hd_c r1).2.1 r2).1 ((hd_c r1).2.1 r2).2.1 ((hd_c r1).2.1 r2).2.2.1 ∈ hd_tb ∧ ((hd_c r1).2.1 r2).2.2.2 = false ∧ hd_ty r1 r2 = .int := by
  simp only [hd_res] at h
  split at h
  next q hq =>
    obtain ⟨h1, h2, h3, h4, h5⟩ := hd_find_FT hq
    split at h
    next hc =>
      simp only [Option.some.injEq, Prod.mk.injEq] at h
      obtain ⟨rfl, rfl, rfl, rfl, -, -⟩ := h
      rw [h1, h2] at h3
      exact ⟨rfl, rfl, h4, h5, hd_tb_at h3 rfl, hc.1, hc.2⟩
    · cases h
  · cases h
theorem hd_res_ldc {y pc x n n' r1 r2 r3 : Nat} {kc : Int32} {i' : Instr} (h : hd_res y pc (.ldc x) n = some (i', n', r1, r2, r3, kc)) : i' = .ldc x ∧ n' = n ∧ Cond.constant (hd_own (hd_ow y)) x kc ∈ hd_tb := by
  simp only [hd_res] at h
  split at h
  next q hq =>
    obtain ⟨h1, h2, h3⟩ := hd_find_LT hq
    simp only [Option.some.injEq, Prod.mk.injEq] at h
    obtain ⟨rfl, rfl, -, -, -, rfl⟩ := h
    unfold hd_lok at h3
    rw [h1, h2] at h3
    exact ⟨rfl, rfl, hd_tb_at h3 rfl⟩
  · cases h
theorem hd_res_ldcw {y pc x n n' r1 r2 r3 : Nat} {kc : Int32} {i' : Instr} (h : hd_res y pc (.ldc_w x) n = some (i', n', r1, r2, r3, kc)) : i' = .ldc_w x ∧ n' = n ∧ Cond.constant (hd_own (hd_ow y)) x kc ∈ hd_tb := by
  simp only [hd_res] at h
  split at h
  next q hq =>
    obtain ⟨h1, h2, h3⟩ := hd_find_LT hq
    simp only [Option.some.injEq, Prod.mk.injEq] at h
    obtain ⟨rfl, rfl, -, -, -, rfl⟩ := h
    unfold hd_lok at h3
    rw [h1, h2] at h3
    exact ⟨rfl, rfl, hd_tb_at h3 rfl⟩
  · cases h
theorem hd_res_callv {y pc x n n' r1 r2 r3 : Nat} {kc : Int32} {i' : Instr} (h : hd_res y pc (.invokevirtual x) n = some (i', n', r1, r2, r3, kc)) : i' = .invokevirtual x ∧ n' = n ∧ r1 < 139 ∧ r2 = hd_np r1 ∧ r3 = hd_ow r1 ∧ hd_fr r1 + 1 ≤ hd_fr y ∧ 8 + (hd_mx r1 + 11) + hd_lo r1 ≤ hd_lo y ∧ hd_np r1 + 1 ≤ hd_mx r1 ∧ Cond.methodLink (hd_own (hd_ow y)) x (hd_nm r1) ∈ hd_tb ∧ Cond.instanceMethod (hd_nm r1) ∈ hd_tb ∧ Cond.selects (hd_nm r1).cls (hd_nm r1) (hd_nm r1) ∈ hd_tb := by
  simp only [hd_res] at h
  split at h
  next q hq =>
    obtain ⟨h1, h2, h3⟩ := hd_find_CT hq
    split at h
    next hc =>
      obtain ⟨c1, c2, c3, c4⟩ := hc
      simp only [Option.some.injEq, Prod.mk.injEq] at h
      obtain ⟨rfl, rfl, rfl, rfl, rfl, -⟩ := h
      rcases h3 with h3 | h3 | h3 | h3 | h3 | h3
      · obtain ⟨-, k1, k2, k3, k4⟩ := h3
        rw [h1, h2] at k2
        exact ⟨rfl, rfl, k1, rfl, rfl, c2, c3, c4, hd_tb_at k2 rfl, hd_tb_at k3 rfl, hd_tb_at k4 rfl⟩
      all_goals (have := h3.1; omega)
    · cases h
  · cases h
theorem hd_res_calls {y pc x n n' r1 r2 r3 : Nat} {kc : Int32} {i' : Instr} (h : hd_res y pc (.invokestatic x) n = some (i', n', r1, r2, r3, kc)) : i' = .invokestatic x ∧ n' = n ∧ ((r3 = 0 ∧ r1 < 139 ∧ r2 = hd_np r1 ∧ hd_fr r1 + 1 ≤ hd_fr y ∧ 8 + (hd_mx r1 + 11) + hd_lo r1 ≤ hd_lo y ∧ hd_np r1 ≤ hd_mx r1 ∧ Cond.static (hd_nm r1) ∈ hd_tb ∧ (Cond.methodLink (hd_own (hd_ow y)) x (hd_nm r1) ∈ hd_tb ∨ ((hd_ow y = 3 ∧ x = 37 ∧ r1 = D_hasBit) ∨ (hd_ow y = 6 ∧ x = 23 ∧ r1 = D_within)))) ∨ (1 ≤ hd_fr y ∧ 26 ≤ hd_lo y ∧ ((r3 = 3 ∧ Cond.methodLink (hd_own (hd_ow y)) x arraycopyName ∈ hd_tb) ∨ (r3 = 4 ∧ Cond.methodLink (hd_own (hd_ow y)) x Lib.Math.max.name ∈ hd_tb) ∨ (r3 = 5 ∧ Cond.methodLink (hd_own (hd_ow y)) x Lib.Math.min.name ∈ hd_tb)))) := by
  simp only [hd_res] at h
  split at h
  next q hq =>
    obtain ⟨h1, h2, h3⟩ := hd_find_CT hq
    split at h
    next hc =>
      obtain ⟨c1, c2, c3, c4⟩ := hc
      simp only [Option.some.injEq, Prod.mk.injEq] at h
      obtain ⟨rfl, rfl, rfl, rfl, rfl, -⟩ := h
      rcases h3 with h3 | h3 | h3 | h3 | h3 | h3
      · have := h3.1; omega
      · obtain ⟨-, k1, k2, k3⟩ := h3
        rw [h1, h2] at k2
        exact ⟨rfl, rfl, Or.inl ⟨rfl, k1, rfl, c2, c3, c4, hd_tb_at k3 rfl, Or.inl (hd_tb_at k2 rfl)⟩⟩
      · obtain ⟨-, k1, k2, k3⟩ := h3
        rw [h1, h2] at k2
        exact ⟨rfl, rfl, Or.inl ⟨rfl, k1, rfl, c2, c3, c4, hd_tb_at k3 rfl, Or.inr k2⟩⟩
      all_goals (have := h3.1; omega)
    · split at h
      next hc =>
        obtain ⟨c1, c2, c3⟩ := hc
        simp only [Option.some.injEq, Prod.mk.injEq] at h
        obtain ⟨rfl, rfl, rfl, rfl, rfl, -⟩ := h
        rcases h3 with h3 | h3 | h3 | h3 | h3 | h3
        · have := h3.1; omega
        · have := h3.1; omega
        · have := h3.1; omega
        · obtain ⟨k1, k2⟩ := h3
          rw [h1, h2] at k2
          exact ⟨rfl, rfl, Or.inr ⟨c2, c3, Or.inl ⟨k1, hd_tb_at k2 rfl⟩⟩⟩
        · obtain ⟨k1, k2⟩ := h3
          rw [h1, h2] at k2
          exact ⟨rfl, rfl, Or.inr ⟨c2, c3, Or.inr (Or.inl ⟨k1, hd_tb_at k2 rfl⟩)⟩⟩
        · obtain ⟨k1, k2⟩ := h3
          rw [h1, h2] at k2
          exact ⟨rfl, rfl, Or.inr ⟨c2, c3, Or.inr (Or.inr ⟨k1, hd_tb_at k2 rfl⟩)⟩⟩
      · cases h
  · cases h
