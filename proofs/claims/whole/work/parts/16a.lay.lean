/-! lay -/
def dk_lc (r : Nat → Int32) : Nat → Nat
  | 0 => 0
  | i + 1 => if f_M_within (r i) 0 900 = 0 then dk_lc r i else dk_lc r i + 1
def dk_lV (r : Nat → Int32) (p d : Nat) (V : Nat → Int32) : Nat → (Nat → Int32)
  | 0 => V
  | i + 1 => if f_M_within (r i) 0 900 = 0 then dk_lV r p d V i else dk_ent (dk_lV r p d V i) (nI p) (nI (d + i)) (r i) 0 (nI (d + i))
theorem dk_lc_le (r : Nat → Int32) : ∀ i, dk_lc r i ≤ i
  | 0 => Nat.le_refl _
  | i + 1 => by
    have := dk_lc_le r i
    unfold dk_lc
    split <;> omega
theorem dk_lc_mono (r : Nat → Int32) {i : Nat} : ∀ j, i ≤ j → dk_lc r i ≤ dk_lc r j
  | 0, h => by rw [show i = 0 by omega]; exact Nat.le_refl _
  | j + 1, h => by
    rcases (show i ≤ j ∨ i = j + 1 by omega) with q | rfl
    · have := dk_lc_mono r j q
      show dk_lc r i ≤ if f_M_within (r j) 0 900 = 0 then dk_lc r j else dk_lc r j + 1
      split <;> omega
    · exact Nat.le_refl _
theorem dk_lc_sh (M : hd_Mem) (a : Nat) (ha : a < 4) (r : Nat → Int32) (hr : ∀ i, i < 20 → M (34 + a) i = r i) : ∀ i, i ≤ 20 → a_Sh_countWithin_6 M (nI a) 0 900 0 i = nI (dk_lc r i)
  | 0, _ => rfl
  | i + 1, hi => by
    show t_Sh_countWithin_6 M (nI a) 0 900 (a_Sh_countWithin_6 M (nI a) 0 900 0 i) (nI i) = nI (if f_M_within (r i) 0 900 = 0 then dk_lc r i else dk_lc r i + 1)
    rw [dk_lc_sh M a ha r hr i (by omega)]
    unfold t_Sh_countWithin_6
    rw [nI_clamp (show a < 2 ^ 31 by omega), nI_clamp (show i < 2 ^ 31 by omega), hr i (by omega)]
    by_cases q : f_M_within (r i) 0 900 = 0
    · rw [if_pos (show f_D_within (r i) 0 900 = 0 from q), if_pos q]
    · rw [if_neg (show ¬ f_D_within (r i) 0 900 = 0 from q), if_neg q, nI_1]
theorem dk_ix72 {a i : Nat} (ha : a < 4) (hi : i < 20) : (20 * nI a + nI i).toNatClampNeg = 20 * a + i := by
  rw [show (20 : Int32) * nI a = nI 20 * nI a from rfl, pk_mul]
  exact dk_ix (by omega)
theorem dk_lc_m (M : hd_Mem) (a : Nat) (ha : a < 4) (x1 x2 : Int32) (r : Nat → Int32) (hr : ∀ i, i < 20 → M 72 (20 * a + i) = r i) : ∀ i, i ≤ 20 → a_M_lay_74 M x1 x2 (nI a) 0 i = nI (dk_lc r i)
  | 0, _ => rfl
  | i + 1, hi => by
    show t_M_lay_74 M x1 x2 (nI a) (a_M_lay_74 M x1 x2 (nI a) 0 i) (nI i) = nI (if f_M_within (r i) 0 900 = 0 then dk_lc r i else dk_lc r i + 1)
    rw [dk_lc_m M a ha x1 x2 r hr i (by omega)]
    unfold t_M_lay_74
    rw [dk_ix72 ha (by omega), hr i (by omega)]
    by_cases q : f_M_within (r i) 0 900 = 0
    · rw [if_pos q, if_pos q, show (0 : Int32) = nI 0 from rfl, nI_add]; rfl
    · rw [if_neg q, if_neg q, nI_1]
theorem dk_lV2 (r : Nat → Int32) (p d : Nat) {V : Nat → Int32} {n : Nat} (hV : V 2 = nI n) : ∀ i, n + dk_lc r i ≤ 60 → dk_lV r p d V i 2 = nI (n + dk_lc r i)
  | 0, _ => hV
  | i + 1, h => by
    unfold dk_lV
    unfold dk_lc at h ⊢
    by_cases q : f_M_within (r i) 0 900 = 0
    · rw [if_pos q] at h ⊢
      rw [if_pos q]
      exact dk_lV2 r p d hV i h
    · rw [if_neg q] at h ⊢
      rw [if_neg q, dk_nfE (by omega) (dk_lV2 r p d hV i (by omega)), pk_us]
      rfl
theorem dk_lVw (r : Nat → Int32) (p d : Nat) {V : Nat → Int32} {n : Nat} (hV : V 2 = nI n) (hw : dk_wf V) (hp : p < 8) : ∀ i, n + dk_lc r i ≤ 60 → d + i ≤ 365 → dk_wf (dk_lV r p d V i)
  | 0, _, _ => hw
  | i + 1, h, hd => by
    unfold dk_lV
    unfold dk_lc at h
    by_cases q : f_M_within (r i) 0 900 = 0
    · rw [if_pos q] at h ⊢
      exact dk_lVw r p d hV hw hp i h (by omega)
    · rw [if_neg q] at h ⊢
      refine dk_wf_addE (dk_lVw r p d hV hw hp i (by omega) (by omega)) (by omega) (dk_lV2 r p d hV i (by omega)) ⟨hd_in_nI hp (by omega), hd_in_nI (by omega) (by omega), (dk_within (a := 0) (b := 900) (by omega) (by omega) q).1, hd_in_nI (i := 0) (by omega) (by omega), hd_in_nI (by omega) (by omega), Int32.le_refl _⟩
theorem dk_lVl (r : Nat → Int32) (p d : Nat) {V W : Nat → Int32} {n : Nat} (hV : V 2 = nI n) (hl : dk_live V W) : ∀ i, n + dk_lc r i ≤ 60 → dk_live (dk_lV r p d V i) (dk_lV r p d W i)
  | 0, _ => hl
  | i + 1, h => by
    unfold dk_lV
    unfold dk_lc at h
    by_cases q : f_M_within (r i) 0 900 = 0
    · rw [if_pos q] at h
      rw [if_pos q, if_pos q]
      exact dk_lVl r p d hV hl i h
    · rw [if_neg q] at h
      rw [if_neg q, if_neg q]
      exact dk_live_ent (dk_lVl r p d hV hl i (by omega)) (k := n + dk_lc r i) (by omega) (dk_lV2 r p d hV i (by omega))
theorem dk_lVb (r : Nat → Int32) (p d : Nat) {V : Nat → Int32} {n : Nat} (hV : V 2 = nI n) : ∀ i, n + dk_lc r i ≤ 60 → dk_live (upd (dk_lV r p d V i) 2 (nI n)) V
  | 0, _ => by
    rw [show dk_lV r p d V 0 = V from rfl, dk_upd_id hV]
    exact dk_live_rfl
  | i + 1, h => by
    unfold dk_lV
    unfold dk_lc at h
    by_cases q : f_M_within (r i) 0 900 = 0
    · rw [if_pos q] at h
      rw [if_pos q]
      exact dk_lVb r p d hV i h
    · rw [if_neg q] at h
      rw [if_neg q]
      have h2 := dk_lV2 r p d hV i (by omega)
      have hb := dk_live_dec (q := 2) (x := nI n) (dk_backE (a := nI p) (b := nI (d + i)) (c := r i) (d := 0) (e := nI (d + i)) (n := n + dk_lc r i) (by omega) h2) (by omega) (by rw [pk_us, nI_clamp (by omega), nI_clamp (by omega)]; omega)
      rw [dk_upd2] at hb
      exact dk_live_trans hb (dk_lVb r p d hV i (by omega))
theorem dk_lD (M : hd_Mem) (a p d n : Nat) (ha : a < 4) (x4 x5 : Int32) (r : Nat → Int32) (hr : ∀ i, i < 20 → M (34 + a) i = r i) (hn : M 3 5 = nI n) : ∀ i, i ≤ 20 → n + dk_lc r i ≤ 60 → hd_dv (a_D_lay_119 M (nI p) (nI d) (nI a) x4 x5 i) = dk_lV r p d (hd_dv M) i ∧ ∀ z, z ∉ [1,2,3,4,8,9,10,11,12,13,14,15,16,17,18,19,20,21,22,23,28,29,30] → a_D_lay_119 M (nI p) (nI d) (nI a) x4 x5 i z = M z
  | 0, _, _ => ⟨rfl, fun _ _ => rfl⟩
  | i + 1, hi, h => by
    have hle := dk_lc_mono r (i := i) (i + 1) (by omega)
    obtain ⟨h1, h2⟩ := dk_lD M a p d n ha x4 x5 r hr hn i (by omega) (by omega)
    unfold dk_lc at h
    show hd_dv (t_D_lay_119 (a_D_lay_119 M (nI p) (nI d) (nI a) x4 x5 i) (nI p) (nI d) (nI a) x4 x5 (nI i)) = dk_lV r p d (hd_dv M) (i + 1) ∧ ∀ z, z ∉ [1,2,3,4,8,9,10,11,12,13,14,15,16,17,18,19,20,21,22,23,28,29,30] → t_D_lay_119 (a_D_lay_119 M (nI p) (nI d) (nI a) x4 x5 i) (nI p) (nI d) (nI a) x4 x5 (nI i) z = M z
    generalize hA : a_D_lay_119 M (nI p) (nI d) (nI a) x4 x5 i = A at h1 h2
    unfold t_D_lay_119 dk_lV
    rw [nI_clamp (show a < 2 ^ 31 by omega), nI_clamp (show i < 2 ^ 31 by omega), h2 (34 + a) (by simp; omega), hr i (by omega), nI_add]
    by_cases q : f_M_within (r i) 0 900 = 0
    · rw [if_pos (show f_D_within (r i) 0 900 = 0 from q), if_pos q]
      exact ⟨h1, h2⟩
    · rw [if_neg q] at h
      rw [if_neg (show ¬ f_D_within (r i) 0 900 = 0 from q), if_neg q]
      have hc : A 3 5 = nI (n + dk_lc r i) := by
        rw [← hd_dv_2 A, h1]
        exact dk_lV2 r p d (by rw [hd_dv_2]; exact hn) i (by omega)
      obtain ⟨t0, -, tX⟩ := dk_dv_addE (a := nI p) (b := nI (d + i)) (c := r i) (d := 0) (e := nI (d + i)) (show n + dk_lc r i < 60 by omega) hc
      refine ⟨by rw [t0, h1], fun z hz => by rw [tX z hz, h2 z hz]⟩
theorem dk_lM (K : hd_Mem) (a p d n : Nat) (ha : a < 4) (x4 : Int32) (r : Nat → Int32) (hr : ∀ i, i < 20 → K 72 (20 * a + i) = r i) (hn : K 68 2 = nI n) : ∀ i, i ≤ 20 → n + dk_lc r i ≤ 60 → a_M_lay_151 K (nI p) (nI d) (nI a) x4 i 68 = dk_lV r p d (K 68) i ∧ ∀ z, z ≠ 68 → a_M_lay_151 K (nI p) (nI d) (nI a) x4 i z = K z
  | 0, _, _ => ⟨rfl, fun _ _ => rfl⟩
  | i + 1, hi, h => by
    have hle := dk_lc_mono r (i := i) (i + 1) (by omega)
    obtain ⟨h1, h2⟩ := dk_lM K a p d n ha x4 r hr hn i (by omega) (by omega)
    unfold dk_lc at h
    show t_M_lay_151 (a_M_lay_151 K (nI p) (nI d) (nI a) x4 i) (nI p) (nI d) (nI a) x4 (nI i) 68 = dk_lV r p d (K 68) (i + 1) ∧ ∀ z, z ≠ 68 → t_M_lay_151 (a_M_lay_151 K (nI p) (nI d) (nI a) x4 i) (nI p) (nI d) (nI a) x4 (nI i) z = K z
    generalize hA : a_M_lay_151 K (nI p) (nI d) (nI a) x4 i = A at h1 h2
    unfold t_M_lay_151 dk_lV
    rw [dk_ix72 ha (by omega), h2 72 (by decide), hr i (by omega), nI_add]
    by_cases q : f_M_within (r i) 0 900 = 0
    · rw [if_pos q, if_pos q]
      exact ⟨h1, h2⟩
    · rw [if_neg q] at h
      rw [if_neg q, if_neg q]
      have hc : A 68 2 = nI (n + dk_lc r i) := by
        rw [h1]
        exact dk_lV2 r p d hn i (by omega)
      obtain ⟨t0, tX, -⟩ := dk_enter (a := nI p) (b := nI (d + i)) (c := r i) (d := 0) (e := nI (d + i)) (show n + dk_lc r i < 60 by omega) hc
      refine ⟨by rw [t0, h1], fun z hz => by rw [tX z hz, h2 z hz]⟩
theorem dk_lday {d z : Nat} (hd : d < 365) (hz : z ≤ 20) : (nI d + nI z - 1 ≤ 364) ↔ d + z ≤ 365 := by
  rw [nI_add, Int32.le_iff_toInt_le]
  have e2 : (nI (d + z) - 1).toInt = ((d + z : Nat) : Int) - (1 : Nat) := pk_sub_toInt (b := 1) (by omega) (by omega)
  rw [e2, show (364 : Int32).toInt = 364 from rfl]
  omega
theorem dk_findc {M : hd_Mem} {x : Int32} {c : Nat} (h : c ≠ 0) : (f_D_finding M x).2 c = M c := by
  funext k
  simp [f_D_finding, hd_set, h]
theorem dk_same_lay {pw : dk_PW} {xs : Nat → Int32} {Ls : Nat} {M : hd_Mem} (I : dk_inv pw xs M) (x1 x2 x3 : Int32) : dk_same pw xs Ls D_lay M_lay [.int x1, .int x2, .int x3] M := by
  obtain ⟨n, hn, e1, e2, e3, e4⟩ := dk_ne_of I
  have hP := dk_pers I x1
  have h7 := I.2.2.2.1
  have GM : ∀ M' : hd_Mem, M' 68 = M 68 → M' 67 = M 67 → (∀ c, 70 ≤ c → M' c = M c) → g_M_lay Ls M' x1 x2 x3 := by
    intro M' q8 q7 qc k1 k2 k3
    obtain ⟨a, ha, rfl⟩ := hd_in_of (dk_within (a := 0) (b := 3) (by omega) (by omega) k3).1 (by omega)
    obtain ⟨d, hd, rfl⟩ := hd_in_of (dk_within (a := 0) (b := 364) (by omega) (by omega) k2).1 (by omega)
    have k1' : ¬ f_M_within x1 0 (M 68 0 - 1) = 0 := by
      unfold f_M_isPerson at k1
      rwa [q8] at k1
    obtain ⟨p, hp, hp8, rfl⟩ := dk_pthere I k1'
    obtain ⟨g1, g2, g3, g4, g5⟩ := h7 a ha
    have r71 : hd_okR Ls 71 (nI a) := hd_okR_n rfl ha (by omega)
    refine ⟨hd_okR_n rfl ha (by omega), fun _ => ⟨r71, fun k4 => ?_⟩⟩
    rw [nI_clamp (show a < 2 ^ 31 by omega)] at k4 ⊢
    obtain ⟨z, hz, ez⟩ := hd_in_of g4 (by omega)
    have ez' : M' 71 a = nI z := by rw [qc 71 (by decide), ← g2]; exact ez
    rw [ez'] at k4 ⊢
    have k4' := (dk_lday hd (show z ≤ 20 by omega)).mp k4
    rw [nI_clamp (show z < 2 ^ 31 by omega)]
    have e71 : f_M_keep M' 71 = M' 71 := (dk_keepM (kp := (M 67 2).toNatClampNeg) (M := M') (by
      obtain ⟨kp, nx, a1, a2, -⟩ := dk_inv_n I
      rw [a2, nI_clamp (by omega)]; exact a1) (by
      obtain ⟨kp, nx, a1, a2, -⟩ := dk_inv_n I
      rw [q7, a2, nI_clamp (by omega)])).2.1 71 (by decide) (by decide)
    have e72 : f_M_keep M' 72 = M' 72 := (dk_keepM (kp := (M 67 2).toNatClampNeg) (M := M') (by
      obtain ⟨kp, nx, a1, a2, -⟩ := dk_inv_n I
      rw [a2, nI_clamp (by omega)]; exact a1) (by
      obtain ⟨kp, nx, a1, a2, -⟩ := dk_inv_n I
      rw [q7, a2, nI_clamp (by omega)])).2.1 72 (by decide) (by decide)
    have ok72 : ∀ i, i < z → hd_okR Ls 72 (20 * nI a + nI i) := fun i hi => by
      rw [show (20 : Int32) * nI a = nI 20 * nI a from rfl, pk_mul, nI_add]
      exact hd_okR_n rfl (show 20 * a + i < 80 by omega) (by omega)
    refine ⟨⟨by omega, fun _ _ => by rw [nI_clamp (show a < 2 ^ 31 by omega)]; exact ez', fun _ _ => r71, fun i hi => ok72 i hi⟩, fun k5 => ?_⟩
    rw [dk_lc_m M' a ha _ _ (fun i => M' 72 (20 * a + i)) (fun _ _ => rfl) z (by omega), q8, e2, nI_add] at k5
    have k5' : n + dk_lc (fun i => M' 72 (20 * a + i)) z ≤ 60 := (nI_leI (b := 60) (by have := dk_lc_le (fun i => M' 72 (20 * a + i)) z; omega) (by omega)).mp k5
    have eK : f_M_keep M' 68 = M 68 := dk_k68 I q8 q7
    refine ⟨dk_gM I q7, ?_⟩
    rw [e71, ez', nI_clamp (show z < 2 ^ 31 by omega)]
    have key : ∀ i, i ≤ z → _ := fun i hi => dk_lM (f_M_keep M') a p d n ha (a_M_lay_74 M' (nI p) (nI d) (nI a) 0 z) (fun i => M' 72 (20 * a + i)) (fun i hi => by rw [e72]) (by rw [eK]; exact e2) i (by omega) (by have := dk_lc_mono (fun i => M' 72 (20 * a + i)) (i := i) z hi; omega)
    refine ⟨by omega, fun i hi => ?_, fun _ _ => r71, fun i hi => ?_⟩
    · rw [nI_clamp (show a < 2 ^ 31 by omega), (key i hi).2 71 (by decide), e71]; exact ez'
    · refine ⟨ok72 i hi, fun k6 => ⟨ok72 i hi, ?_⟩⟩
      have kk := key i (by omega)
      have hm := dk_lc_mono (fun i => M' 72 (20 * a + i)) (i := i + 1) z (by omega)
      rw [dk_ix72 ha (by omega), kk.2 72 (by decide), e72] at k6
      have hs : dk_lc (fun i => M' 72 (20 * a + i)) (i + 1) = dk_lc (fun i => M' 72 (20 * a + i)) i + 1 := by
        show (if f_M_within ((fun i => M' 72 (20 * a + i)) i) 0 900 = 0 then _ else _) = _
        rw [if_neg k6]
      refine dk_genter (n := n + dk_lc (fun i => M' 72 (20 * a + i)) i) (by omega) ?_
      rw [kk.1]
      exact dk_lV2 _ p d (by rw [eK]; exact e2) i (by omega)
  have GD : g_D_lay Ls M x1 x2 x3 := by
    intro k1 k2 k3
    obtain ⟨a, ha, rfl⟩ := hd_in_of (dk_within (a := 0) (b := 3) (by omega) (by omega) k3).1 (by omega)
    obtain ⟨d, hd, rfl⟩ := hd_in_of (dk_within (a := 0) (b := 364) (by omega) (by omega) k2).1 (by omega)
    obtain ⟨p, hp, hp8, rfl⟩ := dk_pthere I (x := x1) (by rw [← hP]; exact k1)
    obtain ⟨g1, g2, g3, g4, g5⟩ := h7 a ha
    have r32 : hd_okR Ls 32 (nI a) := hd_okR_n rfl ha (by omega)
    refine ⟨hd_okR_n rfl ha (by omega), fun _ => ⟨r32, fun k4 => ?_⟩⟩
    rw [nI_clamp (show a < 2 ^ 31 by omega)] at k4 ⊢
    obtain ⟨z, hz, ez⟩ := hd_in_of g4 (by omega)
    rw [ez] at k4 ⊢
    have k4' := (dk_lday hd (show z ≤ 20 by omega)).mp k4
    have okr : ∀ i, i < z → hd_okR Ls (34 + a) (nI i) := fun i hi => hd_okR_n (n := 20) (by
      rcases (show a = 0 ∨ a = 1 ∨ a = 2 ∨ a = 3 by omega) with rfl | rfl | rfl | rfl <;> rfl) (by omega) (by omega)
    have hcw : f_Sh_countWithin M (nI a) 0 900 = nI (dk_lc (fun i => M (34 + a) i) z) := by
      unfold f_Sh_countWithin
      rw [nI_clamp (show a < 2 ^ 31 by omega), ez, nI_clamp (show z < 2 ^ 31 by omega)]
      exact dk_lc_sh M a ha _ (fun _ _ => rfl) z (by omega)
    refine ⟨?_, fun k5 => ?_⟩
    · unfold g_Sh_countWithin
      rw [nI_clamp (show a < 2 ^ 31 by omega), ez, nI_clamp (show z < 2 ^ 31 by omega)]
      refine ⟨by omega, fun _ _ => by rw [nI_clamp (show a < 2 ^ 31 by omega)]; exact ez, fun _ _ => r32, fun i hi => ⟨hd_in_nI ha (by omega), by rw [nI_clamp (show a < 2 ^ 31 by omega)]; exact okr i hi⟩⟩
    rw [hcw, e1, nI_add] at k5
    have k5' : n + dk_lc (fun i => M (34 + a) i) z ≤ 60 := (nI_leI (b := 60) (by have := dk_lc_le (fun i => M (34 + a) i) z; omega) (by omega)).mp k5
    rw [nI_clamp (show z < 2 ^ 31 by omega)]
    have key : ∀ i, i ≤ z → _ := fun i hi => dk_lD M a p d n ha (nI z) (f_Sh_countWithin M (nI a) 0 900) (fun i => M (34 + a) i) (fun i hi => rfl) e1 i (by omega) (by have := dk_lc_mono (fun i => M (34 + a) i) (i := i) z hi; omega)
    refine ⟨⟨by omega, fun _ _ => rfl, fun i hi => ⟨hd_in_nI ha (by omega), ?_, fun k6 => ?_⟩⟩, ?_⟩
    · rw [nI_clamp (show a < 2 ^ 31 by omega)]; exact okr i hi
    · have kk := key i (by omega)
      have hm := dk_lc_mono (fun i => M (34 + a) i) (i := i + 1) z (by omega)
      rw [nI_clamp (show a < 2 ^ 31 by omega), nI_clamp (show i < 2 ^ 31 by omega), kk.2 (34 + a) (by simp; omega)] at k6
      have hs : dk_lc (fun i => M (34 + a) i) (i + 1) = dk_lc (fun i => M (34 + a) i) i + 1 := by
        show (if f_M_within ((fun i => M (34 + a) i) i) 0 900 = 0 then _ else _) = _
        rw [if_neg (show ¬ f_M_within (M (34 + a) i) 0 900 = 0 from k6)]
      have hc : a_D_lay_119 M (nI p) (nI d) (nI a) (nI z) (f_Sh_countWithin M (nI a) 0 900) i 3 5 = nI (n + dk_lc (fun i => M (34 + a) i) i) := by
        rw [← hd_dv_2 (a_D_lay_119 M (nI p) (nI d) (nI a) (nI z) (f_Sh_countWithin M (nI a) 0 900) i), kk.1]
        exact dk_lV2 _ p d (by rw [hd_dv_2]; exact e1) i (by omega)
      have hn8 : n + dk_lc (fun i => M (34 + a) i) i < 60 := by omega
      unfold g_En_add
      rw [hc]
      exact ⟨hd_okW_n (by decide) rfl hn8 (by omega), hd_okW_n (by decide) rfl hn8 (by omega), hd_okW_n (by decide) rfl hn8 (by omega), hd_okW_n (by decide) rfl hn8 (by omega), hd_okW_n (by decide) rfl hn8 (by omega)⟩
    · exact dk_gkeepD (by rw [(key z (by omega)).2 6 (by simp)]; exact I.2.2.1.2.2.1)
  have hD := s_D_lay GD
  unfold f_D_lay at hD
  have hMs : ∀ M' : hd_Mem, M' 68 = M 68 → M' 67 = M 67 → (∀ c, 70 ≤ c → M' c = M c) → hd_Rt Ls M_lay [.ref 67, .int x1, .int x2, .int x3] M' (some (.int (f_M_lay M' x1 x2 x3).1)) (f_M_lay M' x1 x2 x3).2 := fun M' q1 q2 q3 => s_M_lay (GM M' q1 q2 q3)
  unfold f_M_lay f_M_isPerson at hMs
  have hF : ∀ x, hd_Rt Ls M_lay [.ref 67, .int x1, .int x2, .int x3] (f_D_finding M x).2 _ _ := fun x => hMs (f_D_finding M x).2 dk_find68 dk_find67 (fun c hc => dk_findc (by omega))
  have e70F : ∀ x, (f_D_finding M x).2 70 = M 70 := fun x => dk_findc (by decide)
  have e71F : ∀ x, (f_D_finding M x).2 71 = M 71 := fun x => dk_findc (by decide)
  have e72F : ∀ x, (f_D_finding M x).2 72 = M 72 := fun x => dk_findc (by decide)
  by_cases c1 : f_M_within x1 0 (M 68 0 - 1) = 0
  · rw [if_pos (show f_Pe_has M x1 = 0 from hP.trans c1)] at hD
    have hM := hF (-100001)
    rw [dk_find68, if_pos c1] at hM
    exact dk_finds _ I hD hM
  rw [if_neg (show ¬ f_Pe_has M x1 = 0 from fun q => c1 (hP.symm.trans q))] at hD
  by_cases c2 : f_M_isDay x2 = 0
  · rw [if_pos (show f_D_isDay x2 = 0 from c2)] at hD
    have hM := hF (-100001)
    rw [dk_find68, if_neg c1, if_pos c2] at hM
    exact dk_finds _ I hD hM
  rw [if_neg (show ¬ f_D_isDay x2 = 0 from c2)] at hD
  by_cases c3 : f_M_isSheet x3 = 0
  · rw [if_pos (show f_D_isSheet x3 = 0 from c3)] at hD
    have hM := hF (-100001)
    rw [dk_find68, if_neg c1, if_neg c2, if_pos c3] at hM
    exact dk_finds _ I hD hM
  rw [if_neg (show ¬ f_D_isSheet x3 = 0 from c3)] at hD
  obtain ⟨a, ha, rfl⟩ := hd_in_of (dk_within (a := 0) (b := 3) (by omega) (by omega) c3).1 (by omega)
  obtain ⟨d, hd, rfl⟩ := hd_in_of (dk_within (a := 0) (b := 364) (by omega) (by omega) c2).1 (by omega)
  obtain ⟨p, hp, hp8, rfl⟩ := dk_pthere I c1
  have cla : (nI a).toNatClampNeg = a := nI_clamp (by omega)
  obtain ⟨g1, g2, g3, g4, g5⟩ := h7 a ha
  unfold f_Sh_isMissing at hD
  rw [cla] at hD
  by_cases c4 : M 31 a = 0
  · rw [if_pos c4, if_neg (by decide)] at hD
    have hM := hF (-100002)
    rw [dk_find68, if_neg c1, if_neg c2, if_neg c3, cla, e70F, if_pos (by rw [← g1]; exact c4)] at hM
    exact dk_finds _ I hD hM
  rw [if_neg c4, if_pos (show (0 : Int32) = 0 from rfl)] at hD
  obtain ⟨z, hz, ez⟩ := hd_in_of g4 (by omega)
  have ez' : M 71 a = nI z := by rw [← g2]; exact ez
  rw [ez] at hD
  by_cases c5 : nI d + nI z - 1 ≤ 364
  · have c5' := (dk_lday hd (show z ≤ 20 by omega)).mp c5
    rw [if_pos c5] at hD
    have hcw : f_Sh_countWithin M (nI a) 0 900 = nI (dk_lc (fun i => M 72 (20 * a + i)) z) := by
      unfold f_Sh_countWithin
      rw [nI_clamp (show a < 2 ^ 31 by omega), ez, nI_clamp (show z < 2 ^ 31 by omega)]
      exact dk_lc_sh M a ha _ g5 z (by omega)
    have hle := dk_lc_le (fun i => M 72 (20 * a + i)) z
    have hcm : ∀ M' : hd_Mem, M' 72 = M 72 → a_M_lay_74 M' (nI p) (nI d) (nI a) 0 z = nI (dk_lc (fun i => M 72 (20 * a + i)) z) := fun M' q => dk_lc_m M' a ha _ _ _ (fun i _ => by rw [q]) z (by omega)
    rw [hcw, e1, nI_add, nI_clamp (show z < 2 ^ 31 by omega)] at hD
    by_cases c6 : nI (n + dk_lc (fun i => M 72 (20 * a + i)) z) ≤ 60
    · have c6' : n + dk_lc (fun i => M 72 (20 * a + i)) z ≤ 60 := (nI_leI (b := 60) (by omega) (by omega)).mp c6
      rw [if_pos c6] at hD
      obtain ⟨t0, tX⟩ := dk_lD M a p d n ha (nI z) (nI (dk_lc (fun i => M 72 (20 * a + i)) z)) (fun i => M 72 (20 * a + i)) g5 e1 z (by omega) c6'
      generalize hX : a_D_lay_119 M (nI p) (nI d) (nI a) (nI z) (nI (dk_lc (fun i => M 72 (20 * a + i)) z)) z = X at hD t0 tX
      obtain ⟨t1, t2⟩ := dk_kept2 (w := 6) (ix := 0) (was := nI (dk_lc (fun i => M 72 (20 * a + i)) z)) I tX
      obtain ⟨kp, nx, a1, a2, a3, a4, a5⟩ := dk_inv_n I
      have x64 : X 6 4 = nI kp := by rw [tX 6 (by simp)]; exact a3
      have x65 : X 6 5 = nI nx := by rw [tX 6 (by simp)]; exact a5
      obtain ⟨-, -, -, k4, -⟩ := dk_keepD (M := X) (w := 6) (ix := 0) (was := nI (dk_lc (fun i => M 72 (20 * a + i)) z)) a1 x64 a4 x65
      have t3 : ∀ c, 70 ≤ c → (f_D_keep X 6 0 (nI (dk_lc (fun i => M 72 (20 * a + i)) z))).2 c = M c := fun c hc => by
        rw [k4 c (by omega) (by omega) (by omega) (by omega) (by omega), tX c (by simp; omega)]
      have hM := hMs _ t1 t2 t3
      have K68 := dk_k68 I t1 t2
      generalize hY : (f_D_keep X 6 0 (nI (dk_lc (fun i => M 72 (20 * a + i)) z))).2 = Y at hM hD t1 t2 t3 K68
      have eKc := (dk_keepM (M := Y) a1 (by rw [t2]; exact a2)).2.1
      have q71 : f_M_keep Y 71 = M 71 := by rw [eKc 71 (by decide) (by decide), t3 71 (by decide)]
      have q72 : f_M_keep Y 72 = M 72 := by rw [eKc 72 (by decide) (by decide), t3 72 (by decide)]
      rw [t1, if_neg c1, if_neg c2, if_neg c3, cla, t3 70 (by decide), if_neg (by rw [← g1]; exact c4), t3 71 (by decide), ez', if_pos c5, nI_clamp (show z < 2 ^ 31 by omega), hcm Y (t3 72 (by decide)), e2, nI_add, if_pos c6, q71, ez', nI_clamp (show z < 2 ^ 31 by omega)] at hM
      obtain ⟨n1, n2⟩ := dk_lM (f_M_keep Y) a p d n ha (nI (dk_lc (fun i => M 72 (20 * a + i)) z)) (fun i => M 72 (20 * a + i)) (fun i _ => by rw [q72]) (by rw [K68]; exact e2) z (by omega) c6'
      dsimp only at hM
      refine ⟨_, _, _, hD, hM, ?_⟩
      have hv2 : hd_dv M 2 = nI n := by rw [hd_dv_2]; exact e1
      have I2 := I
      obtain ⟨h1, h2, -⟩ := I2
      have e9 := dk_lV2 (fun i => M 72 (20 * a + i)) p d hv2 z c6'
      have e5 : nI (n + dk_lc (fun i => M 72 (20 * a + i)) z) - nI (dk_lc (fun i => M 72 (20 * a + i)) z) = nI n := by
        apply Int32.toInt_inj.mp
        rw [pk_sub_toInt (by omega) (by omega), nI_toInt (by omega)]
        omega
      refine dk_actK (X := X) (w := 6) (ix := 0) (was := nI (dk_lc (fun i => M 72 (20 * a + i)) z)) I a2 a1 a5 a4 tX ?_ ?_ ?_ ?_ ?_
      · intro c hc
        rw [hY]
        exact n2 c hc
      · rw [n1, K68]; exact dk_lVw _ p d e2 h1 hp8 z c6' (by omega)
      · rw [n1, K68, t0]; exact dk_lVl _ p d hv2 h2 z c6'
      · rw [t0]
        have e8 : dk_tb (6, 0, nI (dk_lc (fun i => M 72 (20 * a + i)) z), M (42 + nx)) (dk_lV (fun i => M 72 (20 * a + i)) p d (hd_dv M) z) = upd (dk_lV (fun i => M 72 (20 * a + i)) p d (hd_dv M) z) 2 (nI n) := by
          unfold dk_tb
          dsimp only
          rw [if_neg (by decide), if_neg (by decide), if_neg (by decide), if_neg (by decide), if_neg (by decide), if_neg (by decide), if_pos rfl, e9, e5]
        rw [e8]
        exact dk_lVb _ p d hv2 z c6'
      · rw [t0]
        unfold dk_ok
        simp only [show ¬ ((6 : Int32) = 0) by decide, show ¬ ((6 : Int32) = 1) by decide, show ¬ ((6 : Int32) = 2) by decide, show ¬ ((6 : Int32) = 3) by decide, show ¬ ((6 : Int32) = 4) by decide, show ¬ ((6 : Int32) = 5) by decide, show ¬ ((6 : Int32) = 7) by decide, show ¬ ((6 : Int32) = 9) by decide, show ¬ ((6 : Int32) = 10) by decide, false_implies, true_and, and_true, true_implies]
        refine ⟨n, ?_, ?_⟩
        · rw [dk_ne, e9, nI_clamp (by omega)]
          omega
        · rw [e9, e5]
    · rw [if_neg c6] at hD
      have hM := hF (-100005)
      rw [dk_find68, if_neg c1, if_neg c2, if_neg c3, cla, e70F, if_neg (by rw [← g1]; exact c4), e71F, ez', if_pos c5, nI_clamp (show z < 2 ^ 31 by omega), hcm _ (e72F _), e2, nI_add, if_neg c6] at hM
      exact dk_finds _ I hD hM
  · rw [if_neg c5] at hD
    have hM := hF (-100001)
    rw [dk_find68, if_neg c1, if_neg c2, if_neg c3, cla, e70F, if_neg (by rw [← g1]; exact c4), e71F, ez', if_neg c5] at hM
    exact dk_finds _ I hD hM
