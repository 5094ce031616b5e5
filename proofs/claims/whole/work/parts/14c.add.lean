/-! rows that are added: people, PLACES, ENTRIES, ABSENCES -/
theorem dk_lv_upd {V : Nat → Int32} {q k : Nat} {x : Int32} (hq : 4 ≤ q) : dk_lv (upd V q x) k ↔ dk_lv V k := by
  unfold dk_lv
  simp only [dk_np, dk_nl, dk_ne, dk_na, upd, show ¬ 0 = q by omega, show ¬ 1 = q by omega, show ¬ 2 = q by omega, show ¬ 3 = q by omega, if_false]
theorem dk_upd2 {V : Nat → Int32} {q : Nat} {x y : Int32} : upd (upd V q x) q y = upd V q y := by
  funext k
  by_cases h : k = q
  · rw [h, pk_us, pk_us]
  · rw [pk_un h, pk_un h, pk_un h]
theorem dk_upd_id {V : Nat → Int32} {q : Nat} {x : Int32} (h : V q = x) : upd V q x = V := by
  funext k
  by_cases hk : k = q
  · rw [hk, pk_us, h]
  · rw [pk_un hk]
def dk_addP (V : Nat → Int32) (a b c d e : Int32) : Nat → Int32 := upd (upd (upd (upd (upd (upd V (6 + (dk_np V)) a) (14 + (dk_np V)) b) (22 + (dk_np V)) c) (30 + (dk_np V)) d) (38 + (dk_np V)) e) 0 (V 0 + 1)
theorem dk_nfP {V : Nat → Int32} {n : Nat} {a b c d e : Int32} (hn : n < 8) (hV : V 0 = nI n) : dk_addP V a b c d e = upd (upd (upd (upd (upd (upd V (6 + n) a) (14 + n) b) (22 + n) c) (30 + n) d) (38 + n) e) 0 (nI (n + 1)) := by
  have e : dk_np V = n := by rw [dk_np, hV]; exact nI_clamp (by omega)
  unfold dk_addP
  rw [e, hV, nI_1]
theorem dk_nlvP {V : Nat → Int32} {n j : Nat} (hn : n < 8) (hV : V 0 = nI n) (hj : j = 6 ∨ j = 14 ∨ j = 22 ∨ j = 30 ∨ j = 38) : ¬ dk_lv V (j + n) := by
  have e : dk_np V = n := by rw [dk_np, hV]; exact nI_clamp (by omega)
  unfold dk_lv
  rw [e]
  rcases hj with rfl | rfl | rfl | rfl | rfl <;> omega
theorem dk_live_addP {V W : Nat → Int32} {n : Nat} {a b c d e : Int32} (h : dk_live V W) (hn : n < 8) (hV : V 0 = nI n) : dk_live (dk_addP V a b c d e) (dk_addP W a b c d e) := by
  have hW : W 0 = nI n := by rw [← dk_live_cnt h 0 (by omega)]; exact hV
  rw [dk_nfP hn hV, dk_nfP hn hW]
  refine dk_live_inc0 (dk_live_upd (dk_live_upd (dk_live_upd (dk_live_upd (dk_live_upd h (by omega)) (by omega)) (by omega)) (by omega)) (by omega)) ?_ hn ?_
  · rw [pk_un (by omega), pk_un (by omega), pk_un (by omega), pk_un (by omega), pk_un (by omega)]; exact hV
  · refine ⟨?_, ?_, ?_, ?_, ?_⟩ <;> simp only [upd] <;> (repeat' split) <;> first | rfl | omega | simp_all
theorem dk_backP {V : Nat → Int32} {n : Nat} {a b c d e : Int32} (hn : n < 8) (hV : V 0 = nI n) : dk_live (upd (dk_addP V a b c d e) 0 (nI n)) V := by
  rw [dk_nfP hn hV, dk_upd2, dk_upd_id (by rw [pk_un (by omega), pk_un (by omega), pk_un (by omega), pk_un (by omega), pk_un (by omega)]; exact hV)]
  exact dk_live_off (dk_live_off (dk_live_off (dk_live_off (dk_live_off dk_live_rfl (dk_nlvP hn hV (j := 6) (by simp))) (fun z => (dk_nlvP hn hV (j := 14) (by simp)) ((dk_lv_upd (by omega)).mp z))) (fun z => (fun z => (dk_nlvP hn hV (j := 22) (by simp)) ((dk_lv_upd (by omega)).mp z)) ((dk_lv_upd (by omega)).mp z))) (fun z => (fun z => (fun z => (dk_nlvP hn hV (j := 30) (by simp)) ((dk_lv_upd (by omega)).mp z)) ((dk_lv_upd (by omega)).mp z)) ((dk_lv_upd (by omega)).mp z))) (fun z => (fun z => (fun z => (fun z => (dk_nlvP hn hV (j := 38) (by simp)) ((dk_lv_upd (by omega)).mp z)) ((dk_lv_upd (by omega)).mp z)) ((dk_lv_upd (by omega)).mp z)) ((dk_lv_upd (by omega)).mp z))
theorem dk_wf_addP {V : Nat → Int32} {n : Nat} {a b c d e : Int32} (h : dk_wf V) (hn : n < 8) (hV : V 0 = nI n) (hx : hd_in a 4 ∧ hd_in b 301 ∧ ¬ b = 0 ∧ hd_in c 128 ∧ hd_in d 16 ∧ hd_in e 365) : dk_wf (dk_addP V a b c d e) := by
  have en : dk_np V = n := by rw [dk_np, hV]; exact nI_clamp (by omega)
  rw [dk_nfP hn hV]
  have h5 : dk_wf (upd (upd (upd (upd (upd V (6 + n) a) (14 + n) b) (22 + n) c) (30 + n) d) (38 + n) e) := dk_wf_off (dk_wf_off (dk_wf_off (dk_wf_off (dk_wf_off h (dk_nlvP hn hV (j := 6) (by simp))) (fun z => (dk_nlvP hn hV (j := 14) (by simp)) ((dk_lv_upd (by omega)).mp z))) (fun z => (fun z => (dk_nlvP hn hV (j := 22) (by simp)) ((dk_lv_upd (by omega)).mp z)) ((dk_lv_upd (by omega)).mp z))) (fun z => (fun z => (fun z => (dk_nlvP hn hV (j := 30) (by simp)) ((dk_lv_upd (by omega)).mp z)) ((dk_lv_upd (by omega)).mp z)) ((dk_lv_upd (by omega)).mp z))) (fun z => (fun z => (fun z => (fun z => (dk_nlvP hn hV (j := 38) (by simp)) ((dk_lv_upd (by omega)).mp z)) ((dk_lv_upd (by omega)).mp z)) ((dk_lv_upd (by omega)).mp z)) ((dk_lv_upd (by omega)).mp z))
  have e5 : dk_np (upd (upd (upd (upd (upd V (6 + n) a) (14 + n) b) (22 + n) c) (30 + n) d) (38 + n) e) = n := by rw [dk_np, pk_un (by omega), pk_un (by omega), pk_un (by omega), pk_un (by omega), pk_un (by omega), hV]; exact nI_clamp (by omega)
  refine dk_wf_cnt h5 (by omega) ⟨fun _ => ⟨by omega, fun p hp1 hp2 => ?_⟩, fun z => absurd z (by omega), fun z => absurd z (by omega), fun z => absurd z (by omega)⟩ (fun _ => Or.inl (by omega))
  rw [e5] at hp1
  obtain rfl : p = n := by omega
  unfold dk_wfP
  have uu : (upd (upd (upd (upd (upd V (6 + p) a) (14 + p) b) (22 + p) c) (30 + p) d) (38 + p) e) (6 + p) = a ∧ (upd (upd (upd (upd (upd V (6 + p) a) (14 + p) b) (22 + p) c) (30 + p) d) (38 + p) e) (14 + p) = b ∧ (upd (upd (upd (upd (upd V (6 + p) a) (14 + p) b) (22 + p) c) (30 + p) d) (38 + p) e) (22 + p) = c ∧ (upd (upd (upd (upd (upd V (6 + p) a) (14 + p) b) (22 + p) c) (30 + p) d) (38 + p) e) (30 + p) = d ∧ (upd (upd (upd (upd (upd V (6 + p) a) (14 + p) b) (22 + p) c) (30 + p) d) (38 + p) e) (38 + p) = e := by
    refine ⟨?_, ?_, ?_, ?_, ?_⟩ <;> simp only [upd] <;> (repeat' split) <;> first | rfl | omega | simp_all
  obtain ⟨u0, u1, u2, u3, u4⟩ := uu
  rw [u0, u1, u2, u3, u4]
  exact hx
theorem dk_dv_addP {M : hd_Mem} {n : Nat} {a b c d e : Int32} (hn : n < 8) (hV : M 1 6 = nI n) : hd_dv (f_Pe_add M a b c d e).2 = dk_addP (hd_dv M) a b c d e ∧ (f_Pe_add M a b c d e).1 = nI n ∧ ∀ z, z ∉ [1,2,3,4,8,9,10,11,12,13,14,15,16,17,18,19,20,21,22,23,28,29,30] → (f_Pe_add M a b c d e).2 z = M z := by
  have hV2 : hd_dv M 0 = nI n := hV
  refine ⟨?_, hV, fun z hz => ?_⟩
  · rw [dk_nfP hn hV2]
    unfold f_Pe_add
    simp only [hV, nI_clamp (show n < 2 ^ 31 by omega)]
    rw [hd_dvC 1 6 (by simp), hd_dvS 12 (by simp) (show n < 8 from hn), hd_dvS 11 (by simp) (show n < 8 from hn), hd_dvS 10 (by simp) (show n < 8 from hn), hd_dvS 9 (by simp) (show n < 8 from hn), hd_dvS 8 (by simp) (show n < 8 from hn), nI_1]
    rfl
  · unfold f_Pe_add
    funext k
    simp only [hd_set]
    simp at hz
    simp [hz]
def dk_addL (V : Nat → Int32) (a b c d e : Int32) : Nat → Int32 := upd (upd (upd (upd (upd (upd V (54 + (dk_nl V)) a) (57 + (dk_nl V)) b) (60 + (dk_nl V)) c) (63 + (dk_nl V)) d) (66 + (dk_nl V)) e) 1 (V 1 + 1)
theorem dk_nfL {V : Nat → Int32} {n : Nat} {a b c d e : Int32} (hn : n < 3) (hV : V 1 = nI n) : dk_addL V a b c d e = upd (upd (upd (upd (upd (upd V (54 + n) a) (57 + n) b) (60 + n) c) (63 + n) d) (66 + n) e) 1 (nI (n + 1)) := by
  have e : dk_nl V = n := by rw [dk_nl, hV]; exact nI_clamp (by omega)
  unfold dk_addL
  rw [e, hV, nI_1]
theorem dk_nlvL {V : Nat → Int32} {n j : Nat} (hn : n < 3) (hV : V 1 = nI n) (hj : j = 54 ∨ j = 57 ∨ j = 60 ∨ j = 63 ∨ j = 66) : ¬ dk_lv V (j + n) := by
  have e : dk_nl V = n := by rw [dk_nl, hV]; exact nI_clamp (by omega)
  unfold dk_lv
  rw [e]
  rcases hj with rfl | rfl | rfl | rfl | rfl <;> omega
theorem dk_live_addL {V W : Nat → Int32} {n : Nat} {a b c d e : Int32} (h : dk_live V W) (hn : n < 3) (hV : V 1 = nI n) : dk_live (dk_addL V a b c d e) (dk_addL W a b c d e) := by
  have hW : W 1 = nI n := by rw [← dk_live_cnt h 1 (by omega)]; exact hV
  rw [dk_nfL hn hV, dk_nfL hn hW]
  refine dk_live_inc1 (dk_live_upd (dk_live_upd (dk_live_upd (dk_live_upd (dk_live_upd h (by omega)) (by omega)) (by omega)) (by omega)) (by omega)) ?_ hn ?_
  · rw [pk_un (by omega), pk_un (by omega), pk_un (by omega), pk_un (by omega), pk_un (by omega)]; exact hV
  · refine ⟨?_, ?_, ?_, ?_, ?_⟩ <;> simp only [upd] <;> (repeat' split) <;> first | rfl | omega | simp_all
theorem dk_backL {V : Nat → Int32} {n : Nat} {a b c d e : Int32} (hn : n < 3) (hV : V 1 = nI n) : dk_live (upd (dk_addL V a b c d e) 1 (nI n)) V := by
  rw [dk_nfL hn hV, dk_upd2, dk_upd_id (by rw [pk_un (by omega), pk_un (by omega), pk_un (by omega), pk_un (by omega), pk_un (by omega)]; exact hV)]
  exact dk_live_off (dk_live_off (dk_live_off (dk_live_off (dk_live_off dk_live_rfl (dk_nlvL hn hV (j := 54) (by simp))) (fun z => (dk_nlvL hn hV (j := 57) (by simp)) ((dk_lv_upd (by omega)).mp z))) (fun z => (fun z => (dk_nlvL hn hV (j := 60) (by simp)) ((dk_lv_upd (by omega)).mp z)) ((dk_lv_upd (by omega)).mp z))) (fun z => (fun z => (fun z => (dk_nlvL hn hV (j := 63) (by simp)) ((dk_lv_upd (by omega)).mp z)) ((dk_lv_upd (by omega)).mp z)) ((dk_lv_upd (by omega)).mp z))) (fun z => (fun z => (fun z => (fun z => (dk_nlvL hn hV (j := 66) (by simp)) ((dk_lv_upd (by omega)).mp z)) ((dk_lv_upd (by omega)).mp z)) ((dk_lv_upd (by omega)).mp z)) ((dk_lv_upd (by omega)).mp z))
theorem dk_wf_addL {V : Nat → Int32} {n : Nat} {a b c d e : Int32} (h : dk_wf V) (hn : n < 3) (hV : V 1 = nI n) (hx : hd_in a 128 ∧ hd_in b 16 ∧ hd_in c 2 ∧ hd_in d 9 ∧ hd_in e 9 ∧ ¬ d = 0 ∧ ¬ e = 0) : dk_wf (dk_addL V a b c d e) := by
  have en : dk_nl V = n := by rw [dk_nl, hV]; exact nI_clamp (by omega)
  rw [dk_nfL hn hV]
  have h5 : dk_wf (upd (upd (upd (upd (upd V (54 + n) a) (57 + n) b) (60 + n) c) (63 + n) d) (66 + n) e) := dk_wf_off (dk_wf_off (dk_wf_off (dk_wf_off (dk_wf_off h (dk_nlvL hn hV (j := 54) (by simp))) (fun z => (dk_nlvL hn hV (j := 57) (by simp)) ((dk_lv_upd (by omega)).mp z))) (fun z => (fun z => (dk_nlvL hn hV (j := 60) (by simp)) ((dk_lv_upd (by omega)).mp z)) ((dk_lv_upd (by omega)).mp z))) (fun z => (fun z => (fun z => (dk_nlvL hn hV (j := 63) (by simp)) ((dk_lv_upd (by omega)).mp z)) ((dk_lv_upd (by omega)).mp z)) ((dk_lv_upd (by omega)).mp z))) (fun z => (fun z => (fun z => (fun z => (dk_nlvL hn hV (j := 66) (by simp)) ((dk_lv_upd (by omega)).mp z)) ((dk_lv_upd (by omega)).mp z)) ((dk_lv_upd (by omega)).mp z)) ((dk_lv_upd (by omega)).mp z))
  have e5 : dk_nl (upd (upd (upd (upd (upd V (54 + n) a) (57 + n) b) (60 + n) c) (63 + n) d) (66 + n) e) = n := by rw [dk_nl, pk_un (by omega), pk_un (by omega), pk_un (by omega), pk_un (by omega), pk_un (by omega), hV]; exact nI_clamp (by omega)
  refine dk_wf_cnt h5 (by omega) ⟨fun z => absurd z (by omega), fun _ => ⟨by omega, fun p hp1 hp2 => ?_⟩, fun z => absurd z (by omega), fun z => absurd z (by omega)⟩ (fun z => absurd z (by omega))
  rw [e5] at hp1
  obtain rfl : p = n := by omega
  unfold dk_wfL
  have uu : (upd (upd (upd (upd (upd V (54 + p) a) (57 + p) b) (60 + p) c) (63 + p) d) (66 + p) e) (54 + p) = a ∧ (upd (upd (upd (upd (upd V (54 + p) a) (57 + p) b) (60 + p) c) (63 + p) d) (66 + p) e) (57 + p) = b ∧ (upd (upd (upd (upd (upd V (54 + p) a) (57 + p) b) (60 + p) c) (63 + p) d) (66 + p) e) (60 + p) = c ∧ (upd (upd (upd (upd (upd V (54 + p) a) (57 + p) b) (60 + p) c) (63 + p) d) (66 + p) e) (63 + p) = d ∧ (upd (upd (upd (upd (upd V (54 + p) a) (57 + p) b) (60 + p) c) (63 + p) d) (66 + p) e) (66 + p) = e := by
    refine ⟨?_, ?_, ?_, ?_, ?_⟩ <;> simp only [upd] <;> (repeat' split) <;> first | rfl | omega | simp_all
  obtain ⟨u0, u1, u2, u3, u4⟩ := uu
  rw [u0, u1, u2, u3, u4]
  exact hx
theorem dk_dv_addL {M : hd_Mem} {n : Nat} {a b c d e : Int32} (hn : n < 3) (hV : M 2 5 = nI n) : hd_dv (f_Pl_add M a b c d e).2 = dk_addL (hd_dv M) a b c d e ∧ (f_Pl_add M a b c d e).1 = nI n ∧ ∀ z, z ∉ [1,2,3,4,8,9,10,11,12,13,14,15,16,17,18,19,20,21,22,23,28,29,30] → (f_Pl_add M a b c d e).2 z = M z := by
  have hV2 : hd_dv M 1 = nI n := hV
  refine ⟨?_, hV, fun z hz => ?_⟩
  · rw [dk_nfL hn hV2]
    unfold f_Pl_add
    simp only [hV, nI_clamp (show n < 2 ^ 31 by omega)]
    rw [hd_dvC 2 5 (by simp), hd_dvS 18 (by simp) (show n < 3 from hn), hd_dvS 17 (by simp) (show n < 3 from hn), hd_dvS 16 (by simp) (show n < 3 from hn), hd_dvS 15 (by simp) (show n < 3 from hn), hd_dvS 14 (by simp) (show n < 3 from hn), nI_1]
    rfl
  · unfold f_Pl_add
    funext k
    simp only [hd_set]
    simp at hz
    simp [hz]
theorem dk_nfE {V : Nat → Int32} {n : Nat} {a b c d e : Int32} (hn : n < 60) (hV : V 2 = nI n) : dk_ent V a b c d e = upd (upd (upd (upd (upd (upd V (69 + n) a) (129 + n) b) (189 + n) c) (249 + n) d) (309 + n) e) 2 (nI (n + 1)) := by
  have e : dk_ne V = n := by rw [dk_ne, hV]; exact nI_clamp (by omega)
  unfold dk_ent
  rw [e, hV, nI_1]
theorem dk_nlvE {V : Nat → Int32} {n j : Nat} (hn : n < 60) (hV : V 2 = nI n) (hj : j = 69 ∨ j = 129 ∨ j = 189 ∨ j = 249 ∨ j = 309) : ¬ dk_lv V (j + n) := by
  have e : dk_ne V = n := by rw [dk_ne, hV]; exact nI_clamp (by omega)
  unfold dk_lv
  rw [e]
  rcases hj with rfl | rfl | rfl | rfl | rfl <;> omega
theorem dk_backE {V : Nat → Int32} {n : Nat} {a b c d e : Int32} (hn : n < 60) (hV : V 2 = nI n) : dk_live (upd (dk_ent V a b c d e) 2 (nI n)) V := by
  rw [dk_nfE hn hV, dk_upd2, dk_upd_id (by rw [pk_un (by omega), pk_un (by omega), pk_un (by omega), pk_un (by omega), pk_un (by omega)]; exact hV)]
  exact dk_live_off (dk_live_off (dk_live_off (dk_live_off (dk_live_off dk_live_rfl (dk_nlvE hn hV (j := 69) (by simp))) (fun z => (dk_nlvE hn hV (j := 129) (by simp)) ((dk_lv_upd (by omega)).mp z))) (fun z => (fun z => (dk_nlvE hn hV (j := 189) (by simp)) ((dk_lv_upd (by omega)).mp z)) ((dk_lv_upd (by omega)).mp z))) (fun z => (fun z => (fun z => (dk_nlvE hn hV (j := 249) (by simp)) ((dk_lv_upd (by omega)).mp z)) ((dk_lv_upd (by omega)).mp z)) ((dk_lv_upd (by omega)).mp z))) (fun z => (fun z => (fun z => (fun z => (dk_nlvE hn hV (j := 309) (by simp)) ((dk_lv_upd (by omega)).mp z)) ((dk_lv_upd (by omega)).mp z)) ((dk_lv_upd (by omega)).mp z)) ((dk_lv_upd (by omega)).mp z))
theorem dk_wf_addE {V : Nat → Int32} {n : Nat} {a b c d e : Int32} (h : dk_wf V) (hn : n < 60) (hV : V 2 = nI n) (hx : hd_in a 8 ∧ hd_in b 365 ∧ hd_in c 901 ∧ hd_in d 3 ∧ hd_in e 365 ∧ b ≤ e) : dk_wf (dk_ent V a b c d e) := by
  have en : dk_ne V = n := by rw [dk_ne, hV]; exact nI_clamp (by omega)
  rw [dk_nfE hn hV]
  have h5 : dk_wf (upd (upd (upd (upd (upd V (69 + n) a) (129 + n) b) (189 + n) c) (249 + n) d) (309 + n) e) := dk_wf_off (dk_wf_off (dk_wf_off (dk_wf_off (dk_wf_off h (dk_nlvE hn hV (j := 69) (by simp))) (fun z => (dk_nlvE hn hV (j := 129) (by simp)) ((dk_lv_upd (by omega)).mp z))) (fun z => (fun z => (dk_nlvE hn hV (j := 189) (by simp)) ((dk_lv_upd (by omega)).mp z)) ((dk_lv_upd (by omega)).mp z))) (fun z => (fun z => (fun z => (dk_nlvE hn hV (j := 249) (by simp)) ((dk_lv_upd (by omega)).mp z)) ((dk_lv_upd (by omega)).mp z)) ((dk_lv_upd (by omega)).mp z))) (fun z => (fun z => (fun z => (fun z => (dk_nlvE hn hV (j := 309) (by simp)) ((dk_lv_upd (by omega)).mp z)) ((dk_lv_upd (by omega)).mp z)) ((dk_lv_upd (by omega)).mp z)) ((dk_lv_upd (by omega)).mp z))
  have e5 : dk_ne (upd (upd (upd (upd (upd V (69 + n) a) (129 + n) b) (189 + n) c) (249 + n) d) (309 + n) e) = n := by rw [dk_ne, pk_un (by omega), pk_un (by omega), pk_un (by omega), pk_un (by omega), pk_un (by omega), hV]; exact nI_clamp (by omega)
  refine dk_wf_cnt h5 (by omega) ⟨fun z => absurd z (by omega), fun z => absurd z (by omega), fun _ => ⟨by omega, fun p hp1 hp2 => ?_⟩, fun z => absurd z (by omega)⟩ (fun z => absurd z (by omega))
  rw [e5] at hp1
  obtain rfl : p = n := by omega
  unfold dk_wfE
  have uu : (upd (upd (upd (upd (upd V (69 + p) a) (129 + p) b) (189 + p) c) (249 + p) d) (309 + p) e) (69 + p) = a ∧ (upd (upd (upd (upd (upd V (69 + p) a) (129 + p) b) (189 + p) c) (249 + p) d) (309 + p) e) (129 + p) = b ∧ (upd (upd (upd (upd (upd V (69 + p) a) (129 + p) b) (189 + p) c) (249 + p) d) (309 + p) e) (189 + p) = c ∧ (upd (upd (upd (upd (upd V (69 + p) a) (129 + p) b) (189 + p) c) (249 + p) d) (309 + p) e) (249 + p) = d ∧ (upd (upd (upd (upd (upd V (69 + p) a) (129 + p) b) (189 + p) c) (249 + p) d) (309 + p) e) (309 + p) = e := by
    refine ⟨?_, ?_, ?_, ?_, ?_⟩ <;> simp only [upd] <;> (repeat' split) <;> first | rfl | omega | simp_all
  obtain ⟨u0, u1, u2, u3, u4⟩ := uu
  rw [u0, u1, u2, u3, u4]
  exact hx
theorem dk_dv_addE {M : hd_Mem} {n : Nat} {a b c d e : Int32} (hn : n < 60) (hV : M 3 5 = nI n) : hd_dv (f_En_add M a b c d e).2 = dk_ent (hd_dv M) a b c d e ∧ (f_En_add M a b c d e).1 = nI n ∧ ∀ z, z ∉ [1,2,3,4,8,9,10,11,12,13,14,15,16,17,18,19,20,21,22,23,28,29,30] → (f_En_add M a b c d e).2 z = M z := by
  have hV2 : hd_dv M 2 = nI n := hV
  refine ⟨?_, hV, fun z hz => ?_⟩
  · rw [dk_nfE hn hV2]
    unfold f_En_add
    simp only [hV, nI_clamp (show n < 2 ^ 31 by omega)]
    rw [hd_dvC 3 5 (by simp), hd_dvS 23 (by simp) (show n < 60 from hn), hd_dvS 22 (by simp) (show n < 60 from hn), hd_dvS 21 (by simp) (show n < 60 from hn), hd_dvS 20 (by simp) (show n < 60 from hn), hd_dvS 19 (by simp) (show n < 60 from hn), nI_1]
    rfl
  · unfold f_En_add
    funext k
    simp only [hd_set]
    simp at hz
    simp [hz]
def dk_addA (V : Nat → Int32) (a b c : Int32) : Nat → Int32 := upd (upd (upd (upd V (369 + (dk_na V)) a) (399 + (dk_na V)) b) (429 + (dk_na V)) c) 3 (V 3 + 1)
theorem dk_nfA {V : Nat → Int32} {n : Nat} {a b c : Int32} (hn : n < 30) (hV : V 3 = nI n) : dk_addA V a b c = upd (upd (upd (upd V (369 + n) a) (399 + n) b) (429 + n) c) 3 (nI (n + 1)) := by
  have e : dk_na V = n := by rw [dk_na, hV]; exact nI_clamp (by omega)
  unfold dk_addA
  rw [e, hV, nI_1]
theorem dk_nlvA {V : Nat → Int32} {n j : Nat} (hn : n < 30) (hV : V 3 = nI n) (hj : j = 369 ∨ j = 399 ∨ j = 429) : ¬ dk_lv V (j + n) := by
  have e : dk_na V = n := by rw [dk_na, hV]; exact nI_clamp (by omega)
  unfold dk_lv
  rw [e]
  rcases hj with rfl | rfl | rfl <;> omega
theorem dk_live_addA {V W : Nat → Int32} {n : Nat} {a b c : Int32} (h : dk_live V W) (hn : n < 30) (hV : V 3 = nI n) : dk_live (dk_addA V a b c) (dk_addA W a b c) := by
  have hW : W 3 = nI n := by rw [← dk_live_cnt h 3 (by omega)]; exact hV
  rw [dk_nfA hn hV, dk_nfA hn hW]
  refine dk_live_inc3 (dk_live_upd (dk_live_upd (dk_live_upd h (by omega)) (by omega)) (by omega)) ?_ hn ?_
  · rw [pk_un (by omega), pk_un (by omega), pk_un (by omega)]; exact hV
  · refine ⟨?_, ?_, ?_⟩ <;> simp only [upd] <;> (repeat' split) <;> first | rfl | omega | simp_all
theorem dk_backA {V : Nat → Int32} {n : Nat} {a b c : Int32} (hn : n < 30) (hV : V 3 = nI n) : dk_live (upd (dk_addA V a b c) 3 (nI n)) V := by
  rw [dk_nfA hn hV, dk_upd2, dk_upd_id (by rw [pk_un (by omega), pk_un (by omega), pk_un (by omega)]; exact hV)]
  exact dk_live_off (dk_live_off (dk_live_off dk_live_rfl (dk_nlvA hn hV (j := 369) (by simp))) (fun z => (dk_nlvA hn hV (j := 399) (by simp)) ((dk_lv_upd (by omega)).mp z))) (fun z => (fun z => (dk_nlvA hn hV (j := 429) (by simp)) ((dk_lv_upd (by omega)).mp z)) ((dk_lv_upd (by omega)).mp z))
theorem dk_wf_addA {V : Nat → Int32} {n : Nat} {a b c : Int32} (h : dk_wf V) (hn : n < 30) (hV : V 3 = nI n) (hx : hd_in a 8 ∧ hd_in b 365 ∧ (c = -1 ∨ hd_in c 365)) : dk_wf (dk_addA V a b c) := by
  have en : dk_na V = n := by rw [dk_na, hV]; exact nI_clamp (by omega)
  rw [dk_nfA hn hV]
  have h5 : dk_wf (upd (upd (upd V (369 + n) a) (399 + n) b) (429 + n) c) := dk_wf_off (dk_wf_off (dk_wf_off h (dk_nlvA hn hV (j := 369) (by simp))) (fun z => (dk_nlvA hn hV (j := 399) (by simp)) ((dk_lv_upd (by omega)).mp z))) (fun z => (fun z => (dk_nlvA hn hV (j := 429) (by simp)) ((dk_lv_upd (by omega)).mp z)) ((dk_lv_upd (by omega)).mp z))
  have e5 : dk_na (upd (upd (upd V (369 + n) a) (399 + n) b) (429 + n) c) = n := by rw [dk_na, pk_un (by omega), pk_un (by omega), pk_un (by omega), hV]; exact nI_clamp (by omega)
  refine dk_wf_cnt h5 (by omega) ⟨fun z => absurd z (by omega), fun z => absurd z (by omega), fun z => absurd z (by omega), fun _ => ⟨by omega, fun p hp1 hp2 => ?_⟩⟩ (fun z => absurd z (by omega))
  rw [e5] at hp1
  obtain rfl : p = n := by omega
  unfold dk_wfA
  have uu : (upd (upd (upd V (369 + p) a) (399 + p) b) (429 + p) c) (369 + p) = a ∧ (upd (upd (upd V (369 + p) a) (399 + p) b) (429 + p) c) (399 + p) = b ∧ (upd (upd (upd V (369 + p) a) (399 + p) b) (429 + p) c) (429 + p) = c := by
    refine ⟨?_, ?_, ?_⟩ <;> simp only [upd] <;> (repeat' split) <;> first | rfl | omega | simp_all
  obtain ⟨u0, u1, u2⟩ := uu
  rw [u0, u1, u2]
  exact hx
theorem dk_dv_addA {M : hd_Mem} {n : Nat} {a b : Int32} (hn : n < 30) (hV : M 4 3 = nI n) : hd_dv (f_Ab_add M a b).2 = dk_addA (hd_dv M) a b (-1) ∧ (f_Ab_add M a b).1 = nI n ∧ ∀ z, z ∉ [1,2,3,4,8,9,10,11,12,13,14,15,16,17,18,19,20,21,22,23,28,29,30] → (f_Ab_add M a b).2 z = M z := by
  have hV2 : hd_dv M 3 = nI n := hV
  refine ⟨?_, hV, fun z hz => ?_⟩
  · rw [dk_nfA hn hV2]
    unfold f_Ab_add
    simp only [hV, nI_clamp (show n < 2 ^ 31 by omega)]
    rw [hd_dvC 4 3 (by simp), hd_dvS 30 (by simp) (show n < 30 from hn), hd_dvS 29 (by simp) (show n < 30 from hn), hd_dvS 28 (by simp) (show n < 30 from hn), nI_1]
    rfl
  · unfold f_Ab_add
    funext k
    simp only [hd_set]
    simp at hz
    simp [hz]
