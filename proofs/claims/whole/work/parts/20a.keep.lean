/-! the script stays as it is -/
def hd_rm8 (r : hd_Re) : hd_Mem := match r with
  | .inl s' => s'.2.2.2
  | .inr (.inl v) => v.2
  | .inr (.inr c) => c.2.2.2.2.2
set_option maxHeartbeats 4000000 in
theorem hd_act_78 {Ls : Nat} {rt : Option FieldType} {it : hd_It} {s : hd_S} {r : hd_Re} {C : Prop} (h : hd_act Ls rt it s = some (r, C)) (hC : C) : hd_rm8 r 78 = s.2.2.2 78 := by
  obtain ⟨i, n, r1, r2, r3, kc⟩ := it
  obtain ⟨pc, L, st, M⟩ := s
  cases i
  case getfield x =>
    obtain ⟨k, rr, fl, -, -, -, h9⟩ := hd_getf_inv h
    rcases h9 with ⟨-, h9⟩ | ⟨t, -, h9⟩ <;> (rw [h9]; rfl)
  case putfield x =>
    obtain ⟨w, k, rr, fl, -, h8, -, -, h9⟩ := hd_putf_inv h
    rw [h9]
    exact hd_set_ne (by omega)
  case aaload =>
    obtain ⟨w, k, rr, z, b, -, -, -, -, h9⟩ := hd_aald_inv h
    rw [h9]; rfl
  case iinc k v =>
    obtain ⟨x, -, h9⟩ := hd_iinc_inv h
    rw [h9]; rfl
  case iload_n k => obtain ⟨x, -, h9⟩ := hd_ld_inv (k := k.val) h; rw [h9]; rfl
  case iload k => obtain ⟨x, -, h9⟩ := hd_ld_inv (k := k) h; rw [h9]; rfl
  case aload_n k => obtain ⟨x, -, h9⟩ := hd_la_inv (k := k.val) h; rw [h9]; rfl
  case istore_n k => obtain ⟨x, rr, -, -, h9⟩ := hd_sto_inv (k := k.val) h; rw [h9]; rfl
  case istore k => obtain ⟨x, rr, -, -, h9⟩ := hd_sto_inv (k := k) h; rw [h9]; rfl
  case invokevirtual x => obtain ⟨k, bs, rr, fl, -, -, -, -, -, -, h9⟩ := hd_callv_inv h; rw [h9]; rfl
  case ireturn => obtain ⟨x, -, h9, -⟩ := hd_iret_inv h hC; rw [h9]; rfl
  case return_ => obtain ⟨-, -, h9⟩ := hd_vret_inv h; rw [h9]; rfl
  case invokestatic x =>
    by_cases q0 : r3 = 0
    · obtain ⟨bs, rr, -, -, -, -, h9⟩ := hd_calls_inv q0 h; rw [h9]; rfl
    · by_cases q3 : r3 = 3
      · obtain ⟨nn, dp, sp, t, k, -, h8, h9⟩ := hd_copy_inv q3 h
        rw [h8] at hC
        have := hC.2.1
        rw [h9]
        exact hd_cpy_ne (by omega)
      · by_cases q4 : r3 = 4
        · obtain ⟨b, a, rr, -, -, -, h9⟩ := hd_max_inv q4 h; rw [h9]; rfl
        · by_cases q5 : r3 = 5
          · obtain ⟨b, a, rr, -, -, -, h9⟩ := hd_min_inv q5 h; rw [h9]; rfl
          · simp [hd_act, q0, q3, q4, q5] at h
  case iadd => obtain ⟨b, a, rr, -, h9, -⟩ := hd_op2_inv h; rw [h9]; rfl
  case isub => obtain ⟨b, a, rr, -, h9, -⟩ := hd_op2_inv h; rw [h9]; rfl
  case imul => obtain ⟨b, a, rr, -, h9, -⟩ := hd_op2_inv h; rw [h9]; rfl
  case idiv => obtain ⟨b, a, rr, -, h9, -⟩ := hd_op2_inv h; rw [h9]; rfl
  case irem => obtain ⟨b, a, rr, -, h9, -⟩ := hd_op2_inv h; rw [h9]; rfl
  case iand => obtain ⟨b, a, rr, -, h9, -⟩ := hd_op2_inv h; rw [h9]; rfl
  case ior => obtain ⟨b, a, rr, -, h9, -⟩ := hd_op2_inv h; rw [h9]; rfl
  case ixor => obtain ⟨b, a, rr, -, h9, -⟩ := hd_op2_inv h; rw [h9]; rfl
  case ishl => obtain ⟨b, a, rr, -, h9, -⟩ := hd_op2_inv h; rw [h9]; rfl
  case ishr => obtain ⟨b, a, rr, -, h9, -⟩ := hd_op2_inv h; rw [h9]; rfl
  case iushr => obtain ⟨b, a, rr, -, h9, -⟩ := hd_op2_inv h; rw [h9]; rfl
  case iconst v => rw [hd_nx_inv h]; rfl
  case bipush v => rw [hd_nx_inv h]; rfl
  case sipush v => rw [hd_nx_inv h]; rfl
  case ldc v => rw [hd_nx_inv h]; rfl
  case ldc_w v => rw [hd_nx_inv h]; rfl
  case goto v => rw [hd_nx_inv h]; rfl
  case getstatic v => rw [hd_nx_inv h]; rfl
  case ifCond o v => simp only [hd_act] at h; split at h <;> first | (rw [hd_nx_inv h]; rfl) | cases h
  case if_icmp o v => simp only [hd_act] at h; split at h <;> first | (rw [hd_nx_inv h]; rfl) | cases h
  case tableswitch a b c d => simp only [hd_act] at h; split at h <;> first | (rw [hd_nx_inv h]; rfl) | cases h
  case i2l => simp only [hd_act] at h; split at h <;> first | (rw [hd_nx_inv h]; rfl) | cases h
  case i2b => simp only [hd_act] at h; split at h <;> first | (rw [hd_nx_inv h]; rfl) | cases h
  case i2s => simp only [hd_act] at h; split at h <;> first | (rw [hd_nx_inv h]; rfl) | cases h
  case ladd => simp only [hd_act] at h; split at h <;> first | (rw [hd_nx_inv h]; rfl) | cases h
  case lcmp => simp only [hd_act] at h; split at h <;> first | (rw [hd_nx_inv h]; rfl) | cases h
  case dup => simp only [hd_act] at h; split at h <;> try (cases h; done)
              split at h <;> first | (rw [hd_nx_inv h]; rfl) | cases h
  case dup2 => simp only [hd_act] at h; split at h <;> try (cases h; done)
               split at h <;> first | (rw [hd_nx_inv h]; rfl) | cases h
  case pop => simp only [hd_act] at h; split at h <;> try (cases h; done)
              split at h <;> first | (rw [hd_nx_inv h]; rfl) | cases h
  case iaload => simp only [hd_act] at h; split at h <;> first | (rw [(hd_nc_inv h).1]; rfl) | cases h
  case iastore => simp only [hd_act] at h; split at h <;> first | (obtain ⟨h9, h8⟩ := hd_nc_inv h; rw [h8] at hC; have h7 := hC.1; rw [h9]; exact hd_set_ne (by omega)) | cases h
  case baload => simp only [hd_act] at h; split at h <;> first | (rw [(hd_nc_inv h).1]; rfl) | cases h
  case bastore => simp only [hd_act] at h; split at h <;> first | (obtain ⟨h9, h8⟩ := hd_nc_inv h; rw [h8] at hC; have h7 := hC.1.1; rw [h9]; exact hd_set_ne (by omega)) | cases h
  case arraylength => simp only [hd_act] at h; split at h <;> try (cases h; done)
                      split at h <;> first | (rw [hd_nx_inv h]; rfl) | cases h
  all_goals (simp [hd_act] at h; done)
theorem hd_Ev_78 {Ls : Nat} : ∀ (n y : Nat) (s : hd_S) (Q : Option Value → hd_Mem → Prop), hd_Ev Ls n y s Q → hd_Ev Ls n y s (fun v M' => Q v M' ∧ M' 78 = s.2.2.2 78)
  | 0, _, _, _, h => h
  | n + 1, y, s, Q, h => by
    obtain ⟨it, r, C, h1, h2, hC, hr⟩ := h
    have k := hd_act_78 h2 hC
    refine ⟨it, r, C, h1, h2, hC, ?_⟩
    match r, hr, k with
    | .inl s', hr, k =>
      have := hd_Ev_78 n y s' Q hr
      refine hd_Ev_mono n n y s' _ _ (Nat.le_refl _) (fun v M' hq => ⟨hq.1, hq.2.trans k⟩) this
    | .inr (.inl v), hr, k => exact ⟨hr, k⟩
    | .inr (.inr c), hr, k =>
      have := hd_Ev_78 n c.1 (0, hd_entry c.1 c.2.1, [], c.2.2.2.2.2) _ hr
      refine hd_Ev_mono n n c.1 _ _ _ (Nat.le_refl _) (fun v M' hq => ?_) this
      have h3 := hd_Ev_78 n y (c.2.2.1, c.2.2.2.1, v.toList ++ c.2.2.2.2.1, M') Q hq.1
      exact hd_Ev_mono n n y _ _ _ (Nat.le_refl _) (fun v2 M2 hq2 => ⟨hq2.1, hq2.2.trans (hq.2.trans k)⟩) h3
theorem hd_Rt_78 {Ls z : Nat} {as : List Value} {M M2 : hd_Mem} {v : Option Value} (h : hd_Rt Ls z as M v M2) : M2 78 = M 78 := by
  obtain ⟨n, h⟩ := h
  obtain ⟨a, b, h1, -⟩ := hd_Ev_det n z _ _ (hd_Ev_78 n z _ _ h)
  rw [← h1.1.2]
  exact h1.2
theorem dk_and31 (x : Int32) : ∃ j, j < 32 ∧ x &&& 31 = nI j := by
  have hle : (x &&& 31).toBitVec.toNat ≤ 31 := by
    rw [Int32.toBitVec_and, BitVec.toNat_and]
    exact Nat.and_le_right
  refine ⟨(x &&& 31).toBitVec.toNat, by omega, ?_⟩
  apply Int32.toBitVec_inj.mp
  apply BitVec.eq_of_toNat_eq
  rw [dk_nB (by omega)]
/-- what both sides begin with -/
theorem dk_start {xs : Nat → Int32} {M : hd_Mem} (hD : dk_PD M) (hM : M 68 = upd (upd (fun _ => 0) 4 60) 5 50 ∧ ∀ k, k ∈ [67, 69, 70, 71, 72, 73, 74, 75, 76, 77] → M k = fun _ => 0) (h78 : M 78 = xs) (h79 : M 79 = hd_ks) : dk_inv dk_pw xs M := by
  obtain ⟨hz, ⟨a5, a6, a7⟩, ⟨b1, b2, b3⟩, c7⟩ := hD
  obtain ⟨m8, m0⟩ := hM
  have z1 : M 1 = fun _ => 0 := hz 1 (by decide)
  have z2 : M 2 = fun _ => 0 := hz 2 (by decide)
  have z4 : M 4 = fun _ => 0 := hz 4 (by decide)
  have z6 : M 6 = fun _ => 0 := hz 6 (by decide)
  have z13 : M 13 = fun _ => 0 := hz 13 (by decide)
  have z67 : M 67 = fun _ => 0 := m0 67 (by decide)
  have v : ∀ k, k ≠ 4 → k ≠ 5 → M 68 k = 0 := fun k h4 h5 => by rw [m8, pk_un h5, pk_un h4]
  have v4 : M 68 4 = 60 := by rw [m8, pk_un (by decide), pk_us]
  have v5 : M 68 5 = 50 := by rw [m8, pk_us]
  have i0 : ∀ n, 0 < n → hd_in 0 n := fun n hn => ⟨by decide, by
    show (0 : Int) < n
    omega⟩
  have n0 : dk_np (M 68) = 0 := by
    unfold dk_np
    rw [v 0 (by decide) (by decide)]
    rfl
  have n1 : dk_nl (M 68) = 0 := by
    unfold dk_nl
    rw [v 1 (by decide) (by decide)]
    rfl
  have n2 : dk_ne (M 68) = 0 := by
    unfold dk_ne
    rw [v 2 (by decide) (by decide)]
    rfl
  have n3 : dk_na (M 68) = 0 := by
    unfold dk_na
    rw [v 3 (by decide) (by decide)]
    rfl
  have hwf : dk_wf (M 68) := by
    refine ⟨by rw [v 0 (by decide) (by decide)]; exact i0 9 (by omega), by rw [v 1 (by decide) (by decide)]; exact i0 4 (by omega), by rw [v 2 (by decide) (by decide)]; exact i0 61 (by omega), by rw [v 3 (by decide) (by decide)]; exact i0 31 (by omega), by rw [v4]; exact hd_in_nI (i := 60) (by omega) (by omega), by rw [v5]; exact hd_in_nI (i := 50) (by omega) (by omega), fun p hp => by omega, fun p hp => by omega, fun p hp => by omega, fun p hp => by omega, fun p hp => ?_⟩
    rw [v (46 + p) (by omega) (by omega)]
    refine ⟨i0 256 (by omega), fun q hq hb => ?_⟩
    exfalso
    have h0 : ∀ q, q < 8 → ((0 : Int32) >>> (nI q &&& 31)) &&& 1 = 0 := by decide +kernel
    exact hb (h0 q hq)
  have e0 : ∀ k, k < 6 ∨ (46 ≤ k ∧ k < 54) → hd_dv M k = M 68 k := by
    intro k hk
    rcases hk with hk | hk
    · rcases (show k = 0 ∨ k = 1 ∨ k = 2 ∨ k = 3 ∨ k = 4 ∨ k = 5 by omega) with rfl | rfl | rfl | rfl | rfl | rfl
      · rw [hd_dv_0, z1, v 0 (by decide) (by decide)]
      · rw [hd_dv_1, z2, v 1 (by decide) (by decide)]
      · rw [hd_dv_2, a5, v 2 (by decide) (by decide)]
      · rw [hd_dv_3, z4, v 3 (by decide) (by decide)]
      · rw [hd_dv_4, a6, v4]
      · rw [hd_dv_5, a7, v5]
    · have := hd_dvA 13 (by simp) (M := M) (j := k - 46) (show k - 46 < 8 by omega)
      have e : hd_pos 13 (k - 46) = k := by
        show 46 + (k - 46) = k
        omega
      rw [e, z13] at this
      rw [this, v k (by omega) (by omega)]
  have hlive : dk_live (hd_dv M) (M 68) := by
    intro k hk
    have d0 : dk_np (hd_dv M) = 0 := by unfold dk_np; rw [hd_dv_0, z1]; rfl
    have d1 : dk_nl (hd_dv M) = 0 := by unfold dk_nl; rw [hd_dv_1, z2]; rfl
    have d2 : dk_ne (hd_dv M) = 0 := by unfold dk_ne; rw [hd_dv_2, a5]; rfl
    have d3 : dk_na (hd_dv M) = 0 := by unfold dk_na; rw [hd_dv_3, z4]; rfl
    unfold dk_lv at hk
    rw [d0, d1, d2, d3] at hk
    exact e0 k (by omega)
  refine ⟨hwf, hlive, ⟨?_, ?_, ?_, ?_⟩, ?_, ?_, ?_, Or.inl b1, b2, h78, h79, b3⟩
  · rw [z67]; exact i0 21 (by omega)
  · rw [z67, z6]
  · rw [z6]; exact i0 20 (by omega)
  · rw [z67]
    intro i hi
    have h0 : ((0 : Int32)).toNatClampNeg = 0 := rfl
    have hi' : i < ((0 : Int32)).toNatClampNeg := hi
    rw [h0] at hi'
    omega
  · intro s hs
    have h34 : M (34 + s) = fun _ => 0 := hz (34 + s) (by
      rcases (show s = 0 ∨ s = 1 ∨ s = 2 ∨ s = 3 by omega) with rfl | rfl | rfl | rfl <;> decide)
    unfold dk_sh
    rw [hz 31 (by decide), hz 32 (by decide), m0 70 (by decide), m0 71 (by decide), m0 72 (by decide), h34]
    exact ⟨rfl, rfl, Or.inl rfl, i0 21 (by omega), fun _ _ => rfl⟩
  · rw [c7, z67]
  · intro d hd
    rw [hz 25 (by decide), hz 26 (by decide), hz 27 (by decide)]
    exact ⟨rfl, rfl, rfl⟩
