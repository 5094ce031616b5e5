/-! who may be where on a day -/
def dk_hb (x : Int32) (q : Nat) : Bool := decide (¬ (x >>> (nI q &&& 31)) &&& 1 = 0)
def dk_cm (V : Nat → Int32) (d p : Nat) : Bool := dk_hb (V (22 + p)) (d % 7) && decide (dk_ct V p (nI d) d < dk_o60 V p)
def dk_C (V : Nat → Int32) (d : Nat) : Nat := dk_st (dk_cm V d) (dk_np V)
def dk_ab (V : Nat → Int32) (l p : Nat) : Bool := decide (V (57 + l) &&& (V (30 + p) ^^^ (-1 : Int32)) = 0)
def dk_op (V : Nat → Int32) (d l : Nat) : Bool := decide (l < dk_nl V) && dk_hb (V (54 + l)) (d % 7)
def dk_may (V : Nat → Int32) (d p l : Nat) : Bool := decide (p < dk_np V) && (dk_cm V d p && (dk_op V d l && dk_ab V l p))
def dk_br (V : Nat → Int32) (p q : Nat) : Bool := dk_hb (V (46 + p)) q
def dk_all8 (f : Nat → Bool) : Bool := (List.range 8).all f
theorem dk_all8_iff {f : Nat → Bool} : dk_all8 f = true ↔ ∀ p, p < 8 → f p = true := by
  unfold dk_all8
  rw [List.all_eq_true]
  simp
def dk_bars (V : Nat → Int32) (g : Nat) : Bool := !dk_all8 (fun p => dk_all8 (fun q => !(g.testBit p && g.testBit q && dk_br V p q)))
theorem dk_bars_iff {V : Nat → Int32} {g : Nat} : dk_bars V g = true ↔ ∃ p q, p < 8 ∧ q < 8 ∧ g.testBit p = true ∧ g.testBit q = true ∧ dk_br V p q = true := by
  unfold dk_bars
  constructor
  · intro h
    apply Classical.byContradiction
    intro hn
    have : dk_all8 (fun p => dk_all8 (fun q => !(g.testBit p && g.testBit q && dk_br V p q))) = true := by
      rw [dk_all8_iff]
      intro p hp
      rw [dk_all8_iff]
      intro q hq
      cases e1 : g.testBit p <;> cases e2 : g.testBit q <;> cases e3 : dk_br V p q <;> first | rfl | exact absurd ⟨p, q, hp, hq, e1, e2, e3⟩ hn
    rw [this] at h
    simp at h
  · rintro ⟨p, q, hp, hq, e1, e2, e3⟩
    cases h : dk_all8 (fun p => dk_all8 (fun q => !(g.testBit p && g.testBit q && dk_br V p q)))
    · rfl
    · rw [dk_all8_iff] at h
      have h2 := h p hp
      rw [dk_all8_iff] at h2
      have h3 := h2 q hq
      rw [e1, e2, e3] at h3
      simp at h3
def dk_ldr (V : Nat → Int32) (g : Nat) : Bool := !dk_all8 (fun p => !(g.testBit p && decide (V (6 + p) = 2)))
theorem dk_ldr_iff {V : Nat → Int32} {g : Nat} : dk_ldr V g = true ↔ ∃ p, p < 8 ∧ g.testBit p = true ∧ V (6 + p) = 2 := by
  unfold dk_ldr
  constructor
  · intro h
    apply Classical.byContradiction
    intro hn
    have : dk_all8 (fun p => !(g.testBit p && decide (V (6 + p) = 2))) = true := by
      rw [dk_all8_iff]
      intro p hp
      cases e1 : g.testBit p
      · rfl
      · by_cases z : V (6 + p) = 2
        · exact absurd ⟨p, hp, e1, z⟩ hn
        · simp [z]
    rw [this] at h
    simp at h
  · rintro ⟨p, hp, e1, e2⟩
    cases h : dk_all8 (fun p => !(g.testBit p && decide (V (6 + p) = 2)))
    · rfl
    · rw [dk_all8_iff] at h
      have h2 := h p hp
      rw [e1, e2] at h2
      simp at h2
def dk_up (V : Nat → Int32) (d l g : Nat) : Bool := decide (g < 256) && (dk_all8 (fun p => !g.testBit p || dk_may V d p l) && (!dk_bars V g && decide (dk_bc8 g ≤ (V (66 + l)).toNatClampNeg)))
theorem dk_up_iff {V : Nat → Int32} {d l g : Nat} : dk_up V d l g = true ↔ g < 256 ∧ (∀ p, p < 8 → g.testBit p = true → dk_may V d p l = true) ∧ dk_bars V g = false ∧ dk_bc8 g ≤ (V (66 + l)).toNatClampNeg := by
  unfold dk_up
  rw [Bool.and_eq_true, Bool.and_eq_true, Bool.and_eq_true, decide_eq_true_iff, dk_all8_iff, decide_eq_true_iff, Bool.not_eq_true']
  constructor
  · rintro ⟨a, b, c, e⟩
    refine ⟨a, fun p hp h => ?_, c, e⟩
    have := b p hp
    rw [h] at this
    simpa using this
  · rintro ⟨a, b, c, e⟩
    refine ⟨a, fun p hp => ?_, c, e⟩
    cases h : g.testBit p
    · rfl
    · rw [b p hp h]; rfl
def dk_led (V : Nat → Int32) (l g : Nat) : Bool := decide (V (60 + l) = 0) || dk_ldr V g
def dk_eok (V : Nat → Int32) (l g : Nat) : Bool := decide (dk_nl V ≤ l) || (decide (g = 0) || (decide ((V (63 + l)).toNatClampNeg ≤ dk_bc8 g) && dk_led V l g))
def dk_okg (V : Nat → Int32) (d l g : Nat) : Bool := !decide (g = 0) && (dk_up V d l g && (decide ((V (63 + l)).toNatClampNeg ≤ dk_bc8 g) && dk_led V l g))
def dk_fin (V : Nat → Int32) (a b c : Nat) : Bool := dk_eok V 0 a && (dk_eok V 1 b && dk_eok V 2 c)
def dk_pw : dk_PW := fun V d => (nI (dk_mxl (dk_F (dk_okg V d) 3 (dk_C V d))), nI (dk_wy (dk_F (dk_okg V d) 3 (dk_C V d))))
theorem dk_C_lt {V : Nat → Int32} {d : Nat} (h : dk_np V ≤ 8) : dk_C V d < 256 := Nat.lt_of_lt_of_le (dk_st_lt _ _) (Nat.pow_le_pow_right (n := 2) (by omega) h)
theorem dk_C_tb {V : Nat → Int32} {d p : Nat} : (dk_C V d).testBit p = (decide (p < dk_np V) && dk_cm V d p) := dk_st_tb _ _ _
theorem dk_tb_hi {g i : Nat} (h : g < 256) (hi : g.testBit i = true) : i < 8 := by
  apply Classical.byContradiction
  intro hn
  have := Nat.testBit_lt_two_pow (Nat.lt_of_lt_of_le h (Nat.pow_le_pow_right (n := 2) (i := 8) (j := i) (by omega) (by omega)))
  rw [this] at hi
  exact absurd hi (by decide)
theorem dk_ne0 {g : Nat} (h : g ≠ 0) : ∃ i, g.testBit i = true := Nat.exists_testBit_of_ne_zero h
theorem dk_up0 (V : Nat → Int32) (d l : Nat) : dk_up V d l 0 = true := by
  rw [dk_up_iff]
  refine ⟨by omega, fun p _ h => by simp at h, ?_, ?_⟩
  · cases h : dk_bars V 0
    · rfl
    · obtain ⟨p, q, -, -, e, -⟩ := dk_bars_iff.mp h
      simp at e
  · have : dk_bc8 0 = 0 := by decide
    omega
theorem dk_okz_up {V : Nat → Int32} {d l g : Nat} (h : dk_okz (dk_okg V d) l g = true) : dk_up V d l g = true := by
  unfold dk_okz at h
  rw [Bool.or_eq_true] at h
  rcases h with h | h
  · rw [of_decide_eq_true h]; exact dk_up0 V d l
  · unfold dk_okg at h
    rw [Bool.and_eq_true, Bool.and_eq_true] at h
    exact h.2.1
theorem dk_up_mo {V : Nat → Int32} {d l g p : Nat} (hg : g < 2 ^ p) (h : dk_up V d l (g + 2 ^ p) = true) : dk_up V d l g = true := by
  rw [dk_up_iff] at h ⊢
  obtain ⟨h1, h2, h3, h4⟩ := h
  have hp : p < 8 := dk_tb_hi h1 (by rw [dk_tb_add hg]; simp)
  have hs : ∀ i, g.testBit i = true → (g + 2 ^ p).testBit i = true := fun i hi => by rw [dk_tb_add hg, hi]; rfl
  refine ⟨by omega, fun i hi h5 => h2 i hi (hs i h5), ?_, ?_⟩
  · cases h : dk_bars V g
    · rfl
    · obtain ⟨x, y, a, b, e1, e2, e3⟩ := dk_bars_iff.mp h
      have : dk_bars V (g + 2 ^ p) = true := dk_bars_iff.mpr ⟨x, y, a, b, hs _ e1, hs _ e2, e3⟩
      rw [this] at h3
      exact absurd h3 (by decide)
  · rw [(dk_dg_add hg hp).2] at h4
    omega
theorem dk_up_C {V : Nat → Int32} {d l g p : Nat} (hg : g < 2 ^ p) (h : dk_up V d l (g + 2 ^ p) = true) : (dk_C V d).testBit p = true := by
  rw [dk_up_iff] at h
  have hb : (g + 2 ^ p).testBit p = true := by rw [dk_tb_add hg]; simp
  have := h.2.1 p (dk_tb_hi h.1 hb) hb
  unfold dk_may at this
  rw [Bool.and_eq_true, Bool.and_eq_true] at this
  rw [dk_C_tb, Bool.and_eq_true]
  exact ⟨this.1, this.2.1⟩
theorem dk_okz_eok {V : Nat → Int32} {d l g : Nat} (hu : dk_up V d l g = true) : dk_eok V l g = true ↔ dk_okz (dk_okg V d) l g = true := by
  unfold dk_eok dk_okz dk_okg
  by_cases q : g = 0
  · simp [q]
  · by_cases r : dk_nl V ≤ l
    · exfalso
      obtain ⟨i, hi⟩ := dk_ne0 q
      rw [dk_up_iff] at hu
      have := hu.2.1 i (dk_tb_hi hu.1 hi) hi
      unfold dk_may dk_op at this
      rw [Bool.and_eq_true, Bool.and_eq_true, Bool.and_eq_true, Bool.and_eq_true, decide_eq_true_iff, decide_eq_true_iff] at this
      omega
    · simp [q, r, hu]
/-- the two lists of a day have the same sums -/
theorem dk_plans_same {V : Nat → Int32} {d : Nat} (hn : dk_np V ≤ 8) (f : Nat → Nat) : dk_ls f (dk_F (dk_okg V d) 3 (dk_C V d)) = dk_ls f (dk_R (dk_up V d) (dk_fin V) (dk_np V) 0 0 0 0) := by
  rw [dk_F3 (dk_okg V d) (fun l => by simp [dk_okg]) (dk_C_lt hn) hn (fun i hi => by rw [dk_C_tb, decide_eq_false (by omega)]; rfl)]
  symm
  refine dk_R_sum (fun l g => dk_okz_up) (fun l g p => dk_up_mo) (fun l g p _ => dk_up_C) ?_ _ 0 0 0 0 (by omega) (by omega) (by omega) (dk_up0 V d 0) (dk_up0 V d 1) (dk_up0 V d 2)
  intro a b c h0 h1 h2
  unfold dk_fin
  rw [Bool.and_eq_true, Bool.and_eq_true, dk_okz_eok h0, dk_okz_eok h1, dk_okz_eok h2]
theorem dk_plans_fo {V : Nat → Int32} {d : Nat} (hn : dk_np V ≤ 8) : dk_fo none (dk_R (dk_up V d) (dk_fin V) (dk_np V) 0 0 0 0) = some (dk_mxl (dk_F (dk_okg V d) 3 (dk_C V d)), dk_wy (dk_F (dk_okg V d) 3 (dk_C V d))) := by
  obtain ⟨h1, h2, h3⟩ := dk_same_l (dk_F_ne (dk_okg V d) 3 (dk_C V d)) (fun f => dk_plans_same (V := V) (d := d) hn f)
  have hw : dk_w 0 0 0 = 0 := by
    unfold dk_w
    rw [dk_gw0, dk_gw0, dk_gw0]
  have hl := dk_R_low (dk_up V d) (dk_fin V) (dk_np V) 0 0 0 0 (by omega) (by omega) (by omega) (by omega) (by rw [hw]; decide)
  rw [dk_fo_all h1 hl.2, h2, h3]
/-- only what counts matters -/
theorem dk_cm_live {V W : Nat → Int32} (h : dk_live V W) (hw : dk_wf V) {p : Nat} (hp : p < dk_np V) (d : Nat) : dk_cm V d p = dk_cm W d p := by
  have h8 := (dk_wf_n hw).2.1
  unfold dk_cm
  rw [dk_ct_live h hw hp, dk_o60_live h hw hp, h _ (dk_lv_p hp (by omega) (j := 22) (by simp))]
theorem dk_C_live {V W : Nat → Int32} (h : dk_live V W) (hw : dk_wf V) (d : Nat) : dk_C V d = dk_C W d := by
  unfold dk_C dk_st
  rw [← (dk_live_n h).1]
  apply dk_sm_congr
  intro p hp
  rw [dk_cm_live h hw hp]
theorem dk_may_live {V W : Nat → Int32} (h : dk_live V W) (hw : dk_wf V) (d p l : Nat) : dk_may V d p l = dk_may W d p l := by
  have h8 := (dk_wf_n hw).2.1
  have h3 := (dk_wf_n hw).2.2.2.1
  unfold dk_may
  rw [← (dk_live_n h).1]
  by_cases q : p < dk_np V
  · rw [dk_cm_live h hw q]
    congr 2
    unfold dk_op dk_ab
    rw [← (dk_live_n h).2.1]
    by_cases r : l < dk_nl V
    · rw [h _ (dk_lv_l r (by omega) (j := 54) (by simp)), h _ (dk_lv_l r (by omega) (j := 57) (by simp)), h _ (dk_lv_p q (by omega) (j := 30) (by simp))]
    · simp [r]
  · simp [q]
theorem dk_okg_live {V W : Nat → Int32} (h : dk_live V W) (hw : dk_wf V) (d l g : Nat) : dk_okg V d l g = dk_okg W d l g := by
  have h8 := (dk_wf_n hw).2.1
  have h3 := (dk_wf_n hw).2.2.2.1
  by_cases q : g = 0
  · simp [dk_okg, q]
  have key : ∀ A B : Nat → Int32, dk_live A B → dk_wf A → dk_okg A d l g = true → dk_okg B d l g = true := by
    intro A B hAB hA h1
    have a8 := (dk_wf_n hA).2.1
    have a3 := (dk_wf_n hA).2.2.2.1
    unfold dk_okg at h1 ⊢
    rw [Bool.and_eq_true, Bool.and_eq_true, Bool.and_eq_true] at h1 ⊢
    obtain ⟨b1, b2, b3, b4⟩ := h1
    rw [dk_up_iff] at b2
    obtain ⟨u1, u2, u3, u4⟩ := b2
    have hl : l < dk_nl A := by
      obtain ⟨i, hi⟩ := dk_ne0 q
      have := u2 i (dk_tb_hi u1 hi) hi
      unfold dk_may dk_op at this
      rw [Bool.and_eq_true, Bool.and_eq_true, Bool.and_eq_true, Bool.and_eq_true, decide_eq_true_iff, decide_eq_true_iff] at this
      exact this.2.2.1.1
    have hpp : ∀ p, p < 8 → g.testBit p = true → p < dk_np A := by
      intro p hp hi
      have := u2 p hp hi
      unfold dk_may at this
      rw [Bool.and_eq_true, decide_eq_true_iff] at this
      exact this.1
    have eL : ∀ j, j = 54 ∨ j = 57 ∨ j = 60 ∨ j = 63 ∨ j = 66 → A (j + l) = B (j + l) := fun j hj => hAB _ (dk_lv_l hl (by omega) hj)
    refine ⟨b1, dk_up_iff.mpr ⟨u1, fun p hp hi => by rw [← dk_may_live hAB hA]; exact u2 p hp hi, ?_, by rw [← eL 66 (by simp)]; exact u4⟩, by rw [← eL 63 (by simp)]; exact b3, ?_⟩
    · cases hb : dk_bars B g
      · rfl
      · obtain ⟨x, y, c1, c2, c3, c4, c5⟩ := dk_bars_iff.mp hb
        have : dk_bars A g = true := dk_bars_iff.mpr ⟨x, y, c1, c2, c3, c4, by unfold dk_br at c5 ⊢; rw [hAB _ (dk_lv_b c1)]; exact c5⟩
        rw [this] at u3
        exact absurd u3 (by decide)
    · unfold dk_led at b4 ⊢
      rw [Bool.or_eq_true] at b4 ⊢
      rw [← eL 60 (by simp)]
      rcases b4 with z | z
      · exact Or.inl z
      · obtain ⟨p, c1, c2, c3⟩ := dk_ldr_iff.mp z
        exact Or.inr (dk_ldr_iff.mpr ⟨p, c1, c2, by rw [← hAB _ (dk_lv_p (hpp p c1 c2) (by omega) (j := 6) (by simp))]; exact c3⟩)
  have k1 := key V W h hw
  have k2 := key W V (dk_live_symm h) (dk_wf_live h hw)
  cases e1 : dk_okg V d l g <;> cases e2 : dk_okg W d l g
  · rfl
  · rw [k2 e2] at e1; exact e1.symm
  · rw [k1 e1] at e2; exact e2
  · rfl
theorem dk_pw_live {V W : Nat → Int32} (h : dk_live V W) (hw : dk_wf V) (d : Nat) : dk_F (dk_okg V d) 3 (dk_C V d) = dk_F (dk_okg W d) 3 (dk_C W d) := by
  have : dk_okg V d = dk_okg W d := by
    funext l g
    exact dk_okg_live h hw d l g
  rw [this, dk_C_live h hw]
