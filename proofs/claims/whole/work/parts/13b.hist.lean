/-! what may stand in the state; acts that are taken back; the history -/
def dk_wfP (V : Nat → Int32) (p : Nat) : Prop := hd_in (V (6 + p)) 4 ∧ hd_in (V (14 + p)) 301 ∧ ¬ V (14 + p) = 0 ∧ hd_in (V (22 + p)) 128 ∧ hd_in (V (30 + p)) 16 ∧ hd_in (V (38 + p)) 365
def dk_wfL (V : Nat → Int32) (l : Nat) : Prop := hd_in (V (54 + l)) 128 ∧ hd_in (V (57 + l)) 16 ∧ hd_in (V (60 + l)) 2 ∧ hd_in (V (63 + l)) 9 ∧ hd_in (V (66 + l)) 9 ∧ ¬ V (63 + l) = 0 ∧ ¬ V (66 + l) = 0
def dk_wfE (V : Nat → Int32) (e : Nat) : Prop := hd_in (V (69 + e)) 8 ∧ hd_in (V (129 + e)) 365 ∧ hd_in (V (189 + e)) 901 ∧ hd_in (V (249 + e)) 3 ∧ hd_in (V (309 + e)) 365 ∧ V (129 + e) ≤ V (309 + e)
def dk_wfA (V : Nat → Int32) (a : Nat) : Prop := hd_in (V (369 + a)) 8 ∧ hd_in (V (399 + a)) 365 ∧ (V (429 + a) = -1 ∨ hd_in (V (429 + a)) 365)
def dk_bit (x : Int32) (q : Nat) : Prop := ¬ (x >>> (nI q &&& 31)) &&& 1 = 0
def dk_wfB (V : Nat → Int32) : Prop := ∀ p, p < 8 → hd_in (V (46 + p)) 256 ∧ ∀ q, q < 8 → dk_bit (V (46 + p)) q → p ≠ q ∧ p < dk_np V ∧ q < dk_np V ∧ dk_bit (V (46 + q)) p
def dk_wf (V : Nat → Int32) : Prop := hd_in (V 0) 9 ∧ hd_in (V 1) 4 ∧ hd_in (V 2) 61 ∧ hd_in (V 3) 31 ∧ hd_in (V 4) 301 ∧ hd_in (V 5) 101 ∧
  (∀ p, p < dk_np V → dk_wfP V p) ∧ (∀ l, l < dk_nl V → dk_wfL V l) ∧ (∀ e, e < dk_ne V → dk_wfE V e) ∧ (∀ a, a < dk_na V → dk_wfA V a) ∧ dk_wfB V
theorem dk_wf_n {V : Nat → Int32} (h : dk_wf V) : V 0 = nI (dk_np V) ∧ dk_np V ≤ 8 ∧ V 1 = nI (dk_nl V) ∧ dk_nl V ≤ 3 ∧ V 2 = nI (dk_ne V) ∧ dk_ne V ≤ 60 ∧ V 3 = nI (dk_na V) ∧ dk_na V ≤ 30 := by
  obtain ⟨h0, h1, h2, h3, -⟩ := h
  obtain ⟨a, ha, e0⟩ := hd_in_of h0 (by omega)
  obtain ⟨b, hb, e1⟩ := hd_in_of h1 (by omega)
  obtain ⟨c, hc, e2⟩ := hd_in_of h2 (by omega)
  obtain ⟨d, hd, e3⟩ := hd_in_of h3 (by omega)
  have k0 : dk_np V = a := by rw [dk_np, e0]; exact nI_clamp (by omega)
  have k1 : dk_nl V = b := by rw [dk_nl, e1]; exact nI_clamp (by omega)
  have k2 : dk_ne V = c := by rw [dk_ne, e2]; exact nI_clamp (by omega)
  have k3 : dk_na V = d := by rw [dk_na, e3]; exact nI_clamp (by omega)
  rw [k0, k1, k2, k3]
  exact ⟨e0, by omega, e1, by omega, e2, by omega, e3, by omega⟩
theorem dk_lv_p {V : Nat → Int32} {p : Nat} (h : p < dk_np V) (hp : p < 8) {j : Nat} (hj : j = 6 ∨ j = 14 ∨ j = 22 ∨ j = 30 ∨ j = 38) : dk_lv V (j + p) := by
  unfold dk_lv; rcases hj with rfl | rfl | rfl | rfl | rfl <;> omega
theorem dk_lv_l {V : Nat → Int32} {p : Nat} (h : p < dk_nl V) (hp : p < 3) {j : Nat} (hj : j = 54 ∨ j = 57 ∨ j = 60 ∨ j = 63 ∨ j = 66) : dk_lv V (j + p) := by
  unfold dk_lv; rcases hj with rfl | rfl | rfl | rfl | rfl <;> omega
theorem dk_lv_e {V : Nat → Int32} {p : Nat} (h : p < dk_ne V) (hp : p < 60) {j : Nat} (hj : j = 69 ∨ j = 129 ∨ j = 189 ∨ j = 249 ∨ j = 309) : dk_lv V (j + p) := by
  unfold dk_lv; rcases hj with rfl | rfl | rfl | rfl | rfl <;> omega
theorem dk_lv_a {V : Nat → Int32} {p : Nat} (h : p < dk_na V) (hp : p < 30) {j : Nat} (hj : j = 369 ∨ j = 399 ∨ j = 429) : dk_lv V (j + p) := by
  unfold dk_lv; rcases hj with rfl | rfl | rfl <;> omega
theorem dk_lv_b {V : Nat → Int32} {p : Nat} (hp : p < 8) : dk_lv V (46 + p) := by
  unfold dk_lv; omega
theorem dk_live_n {a b : Nat → Int32} (h : dk_live a b) : dk_np a = dk_np b ∧ dk_nl a = dk_nl b ∧ dk_ne a = dk_ne b ∧ dk_na a = dk_na b := by
  have hc := dk_live_cnt h
  simp only [dk_np, dk_nl, dk_ne, dk_na, hc 0 (by omega), hc 1 (by omega), hc 2 (by omega), hc 3 (by omega), and_self]
theorem dk_wf_live {a b : Nat → Int32} (h : dk_live a b) (hw : dk_wf a) : dk_wf b := by
  have hn := dk_wf_n hw
  obtain ⟨n0, n1, n2, n3⟩ := dk_live_n h
  have hc := dk_live_cnt h
  obtain ⟨h0, h1, h2, h3, h4, h5, hP, hL, hE, hA, hB⟩ := hw
  refine ⟨hc 0 (by omega) ▸ h0, hc 1 (by omega) ▸ h1, hc 2 (by omega) ▸ h2, hc 3 (by omega) ▸ h3, hc 4 (by omega) ▸ h4, hc 5 (by omega) ▸ h5, fun p hp => ?_, fun p hp => ?_, fun p hp => ?_, fun p hp => ?_, fun p hp => ?_⟩
  · rw [← n0] at hp
    have := hP p hp
    have hp8 : p < 8 := by omega
    unfold dk_wfP at this ⊢
    rwa [← h _ (dk_lv_p hp hp8 (j := 6) (by simp)), ← h _ (dk_lv_p hp hp8 (j := 14) (by simp)), ← h _ (dk_lv_p hp hp8 (j := 22) (by simp)), ← h _ (dk_lv_p hp hp8 (j := 30) (by simp)), ← h _ (dk_lv_p hp hp8 (j := 38) (by simp))]
  · rw [← n1] at hp
    have := hL p hp
    have hp8 : p < 3 := by omega
    unfold dk_wfL at this ⊢
    rwa [← h _ (dk_lv_l hp hp8 (j := 54) (by simp)), ← h _ (dk_lv_l hp hp8 (j := 57) (by simp)), ← h _ (dk_lv_l hp hp8 (j := 60) (by simp)), ← h _ (dk_lv_l hp hp8 (j := 63) (by simp)), ← h _ (dk_lv_l hp hp8 (j := 66) (by simp))]
  · rw [← n2] at hp
    have := hE p hp
    have hp8 : p < 60 := by omega
    unfold dk_wfE at this ⊢
    rwa [← h _ (dk_lv_e hp hp8 (j := 69) (by simp)), ← h _ (dk_lv_e hp hp8 (j := 129) (by simp)), ← h _ (dk_lv_e hp hp8 (j := 189) (by simp)), ← h _ (dk_lv_e hp hp8 (j := 249) (by simp)), ← h _ (dk_lv_e hp hp8 (j := 309) (by simp))]
  · rw [← n3] at hp
    have := hA p hp
    have hp8 : p < 30 := by omega
    unfold dk_wfA at this ⊢
    rwa [← h _ (dk_lv_a hp hp8 (j := 369) (by simp)), ← h _ (dk_lv_a hp hp8 (j := 399) (by simp)), ← h _ (dk_lv_a hp hp8 (j := 429) (by simp))]
  · have := hB p hp
    rw [← h _ (dk_lv_b hp)]
    refine ⟨this.1, fun q hq hb => ?_⟩
    have h2 := this.2 q hq hb
    rw [← n0, ← h _ (dk_lv_b hq)]
    exact h2
/-- an act that was kept: which, its two numbers, a row -/
abbrev dk_Act : Type := Int32 × Int32 × Int32 × (Nat → Int32)
def dk_bar (V : Nat → Int32) (p q on : Int32) : Nat → Int32 :=
  if on = 0 then upd (upd V (46 + p.toNatClampNeg) (V (46 + p.toNatClampNeg) &&& (((1 : Int32) <<< (q &&& 31)) ^^^ (-1 : Int32)))) (46 + q.toNatClampNeg) (upd V (46 + p.toNatClampNeg) (V (46 + p.toNatClampNeg) &&& (((1 : Int32) <<< (q &&& 31)) ^^^ (-1 : Int32))) (46 + q.toNatClampNeg) &&& (((1 : Int32) <<< (p &&& 31)) ^^^ (-1 : Int32)))
  else upd (upd V (46 + p.toNatClampNeg) (V (46 + p.toNatClampNeg) ||| ((1 : Int32) <<< (q &&& 31)))) (46 + q.toNatClampNeg) (upd V (46 + p.toNatClampNeg) (V (46 + p.toNatClampNeg) ||| ((1 : Int32) <<< (q &&& 31))) (46 + q.toNatClampNeg) ||| ((1 : Int32) <<< (p &&& 31)))
def dk_ent (V : Nat → Int32) (a b c d e : Int32) : Nat → Int32 := upd (upd (upd (upd (upd (upd V (69 + dk_ne V) a) (129 + dk_ne V) b) (189 + dk_ne V) c) (249 + dk_ne V) d) (309 + dk_ne V) e) 2 (V 2 + 1)
def dk_tb (a : dk_Act) (V : Nat → Int32) : Nat → Int32 :=
  if a.1 = 0 then upd V 0 a.2.1
  else if a.1 = 1 then upd V (38 + a.2.1.toNatClampNeg) a.2.2.1
  else if a.1 = 2 then upd V (22 + a.2.1.toNatClampNeg) a.2.2.1
  else if a.1 = 3 then upd V 1 a.2.1
  else if a.1 = 4 then upd V (54 + a.2.1.toNatClampNeg) a.2.2.1
  else if a.1 = 5 then (if a.2.2.1 = 1 then dk_bar V (a.2.1 / 8) (a.2.1 - a.2.1 / 8 * 8) 1 else dk_bar V (a.2.1 / 8) (a.2.1 - a.2.1 / 8 * 8) 0)
  else if a.1 = 6 then upd V 2 (V 2 - a.2.2.1)
  else if a.1 = 7 then dk_ent V (a.2.2.2 0) (a.2.2.2 1) (a.2.2.2 2) (a.2.2.2 3) (a.2.2.2 4)
  else if a.1 = 8 then (if a.2.1 = 0 then upd V 4 a.2.2.1 else upd V 5 a.2.2.1)
  else if a.1 = 9 then upd V 3 a.2.1
  else if a.1 = 10 then upd V (429 + a.2.1.toNatClampNeg) a.2.2.1
  else V
def dk_ok (a : dk_Act) (V : Nat → Int32) : Prop :=
  (a.1 = 0 → ∃ k, k ≤ dk_np V ∧ k < 8 ∧ a.2.1 = nI k) ∧ (a.1 = 1 → ∃ k, k < 8 ∧ a.2.1 = nI k) ∧ (a.1 = 2 → ∃ k, k < 8 ∧ a.2.1 = nI k) ∧
  (a.1 = 3 → ∃ k, k ≤ dk_nl V ∧ k < 3 ∧ a.2.1 = nI k) ∧ (a.1 = 4 → ∃ k, k < 3 ∧ a.2.1 = nI k) ∧
  (a.1 = 5 → ∃ p q, p < 8 ∧ q < 8 ∧ a.2.1 / 8 = nI p ∧ a.2.1 - a.2.1 / 8 * 8 = nI q) ∧
  (a.1 = 6 → ∃ k, k ≤ dk_ne V ∧ V 2 - a.2.2.1 = nI k) ∧ (a.1 = 7 → ∃ k, k < 60 ∧ V 2 = nI k) ∧
  (a.1 = 9 → ∃ k, k ≤ dk_na V ∧ k < 30 ∧ a.2.1 = nI k) ∧ (a.1 = 10 → ∃ k, k < 30 ∧ a.2.1 = nI k)
theorem dk_ok_live {a : dk_Act} {V W : Nat → Int32} (h : dk_live V W) (ho : dk_ok a V) : dk_ok a W := by
  obtain ⟨n0, n1, n2, n3⟩ := dk_live_n h
  have hc := dk_live_cnt h
  unfold dk_ok at ho ⊢
  rw [← n0, ← n1, ← n2, ← n3, ← hc 2 (by omega)]
  exact ho
theorem dk_live_ent {V W : Nat → Int32} {k : Nat} {a b c d e : Int32} (h : dk_live V W) (hk : k < 60) (hV : V 2 = nI k) : dk_live (dk_ent V a b c d e) (dk_ent W a b c d e) := by
  have hW : W 2 = nI k := by rw [← dk_live_cnt h 2 (by omega)]; exact hV
  have nV : dk_ne V = k := by rw [dk_ne, hV]; exact nI_clamp (by omega)
  have nW : dk_ne W = k := by rw [dk_ne, hW]; exact nI_clamp (by omega)
  unfold dk_ent
  rw [nV, nW, hV, hW, nI_1]
  refine dk_live_inc2 (dk_live_upd (dk_live_upd (dk_live_upd (dk_live_upd (dk_live_upd h (by omega)) (by omega)) (by omega)) (by omega)) (by omega)) ?_ hk ?_
  · simp only [upd, show ¬ 2 = 309 + k by omega, show ¬ 2 = 249 + k by omega, show ¬ 2 = 189 + k by omega, show ¬ 2 = 129 + k by omega, show ¬ 2 = 69 + k by omega, if_false]
    exact hV
  · refine ⟨?_, ?_, ?_, ?_, ?_⟩ <;> simp only [upd] <;> (repeat' split) <;> first | rfl | omega | simp_all
theorem dk_live_bar {V W : Nat → Int32} {p q on : Int32} (h : dk_live V W) {i j : Nat} (hi : i < 8) (hj : j < 8) (hp : p = nI i) (hq : q = nI j) : dk_live (dk_bar V p q on) (dk_bar W p q on) := by
  have ci : p.toNatClampNeg = i := by rw [hp]; exact nI_clamp (by omega)
  have cj : q.toNatClampNeg = j := by rw [hq]; exact nI_clamp (by omega)
  have e1 := h _ (dk_lv_b hi)
  have e2 := h _ (dk_lv_b hj)
  unfold dk_bar
  rw [ci, cj]
  split
  · rw [e1]
    have h2 := dk_live_upd (q := 46 + i) (x := W (46 + i) &&& (((1 : Int32) <<< (q &&& 31)) ^^^ (-1 : Int32))) h (by omega)
    have e3 := h2 _ (dk_lv_b hj)
    rw [e3]
    exact dk_live_upd h2 (by omega)
  · rw [e1]
    have h2 := dk_live_upd (q := 46 + i) (x := W (46 + i) ||| ((1 : Int32) <<< (q &&& 31))) h (by omega)
    have e3 := h2 _ (dk_lv_b hj)
    rw [e3]
    exact dk_live_upd h2 (by omega)
/-- taking an act back in two states that agree where it counts -/
theorem dk_live_tb {a : dk_Act} {V W : Nat → Int32} (h : dk_live V W) (ho : dk_ok a V) : dk_live (dk_tb a V) (dk_tb a W) := by
  obtain ⟨o0, o1, o2, o3, o4, o5, o6, o7, o9, o10⟩ := ho
  have hc := dk_live_cnt h
  unfold dk_tb
  by_cases q : a.1 = 0
  · simp only [if_pos q]
    obtain ⟨k, k1, k2, k3⟩ := o0 q
    rw [k3]
    exact dk_live_dec h (by omega) (by rw [nI_clamp (by omega)]; exact k1)
  simp only [if_neg q]
  by_cases q : a.1 = 1
  · simp only [if_pos q]
    exact dk_live_upd h (by omega)
  simp only [if_neg q]
  by_cases q : a.1 = 2
  · simp only [if_pos q]
    exact dk_live_upd h (by omega)
  simp only [if_neg q]
  by_cases q : a.1 = 3
  · simp only [if_pos q]
    obtain ⟨k, k1, k2, k3⟩ := o3 q
    rw [k3]
    exact dk_live_dec h (by omega) (by rw [nI_clamp (by omega)]; exact k1)
  simp only [if_neg q]
  by_cases q : a.1 = 4
  · simp only [if_pos q]
    exact dk_live_upd h (by omega)
  simp only [if_neg q]
  by_cases q : a.1 = 5
  · simp only [if_pos q]
    obtain ⟨i, j, hi, hj, k1, k2⟩ := o5 q
    by_cases z : a.2.2.1 = 1
    · simp only [if_pos z]
      exact dk_live_bar h hi hj k1 k2
    · simp only [if_neg z]
      exact dk_live_bar h hi hj k1 k2
  simp only [if_neg q]
  by_cases q : a.1 = 6
  · simp only [if_pos q]
    obtain ⟨k, k1, k2⟩ := o6 q
    rw [← hc 2 (by omega), k2]
    refine dk_live_dec h (by omega) ?_
    by_cases hk : k < 2 ^ 31
    · rw [nI_clamp hk]; exact k1
    · have : dk_ne V < 2 ^ 31 := by
        have h8 := Int32.toInt_lt (V 2)
        show (V 2).toInt.toNat < 2 ^ 31
        omega
      omega
  simp only [if_neg q]
  by_cases q : a.1 = 7
  · simp only [if_pos q]
    obtain ⟨k, k1, k2⟩ := o7 q
    exact dk_live_ent h k1 k2
  simp only [if_neg q]
  by_cases q : a.1 = 8
  · simp only [if_pos q]
    by_cases z : a.2.1 = 0
    · simp only [if_pos z]
      exact dk_live_upd h (by omega)
    · simp only [if_neg z]
      exact dk_live_upd h (by omega)
  simp only [if_neg q]
  by_cases q : a.1 = 9
  · simp only [if_pos q]
    obtain ⟨k, k1, k2, k3⟩ := o9 q
    rw [k3]
    exact dk_live_dec h (by omega) (by rw [nI_clamp (by omega)]; exact k1)
  simp only [if_neg q]
  by_cases q : a.1 = 10
  · simp only [if_pos q]
    exact dk_live_upd h (by omega)
  simp only [if_neg q]
  exact h
def dk_ch (ac : Nat → dk_Act) (V : Nat → Int32) : Nat → (Nat → Int32)
  | 0 => V
  | i + 1 => dk_tb (ac i) (dk_ch ac V i)
/-- the newest kp acts, taken back one by one, lead through what the reference kept -/
def dk_hist (kp : Nat) (ac : Nat → dk_Act) (pa : Nat → (Nat → Int32)) (V : Nat → Int32) : Prop := ∀ i, i < kp → dk_live (dk_ch ac V (i + 1)) (pa i) ∧ dk_wf (pa i) ∧ dk_ok (ac i) (dk_ch ac V i)
theorem dk_push {kp kp' : Nat} {ac ac' : Nat → dk_Act} {pa pa' : Nat → (Nat → Int32)} {V V' U : Nat → Int32} (h : dk_hist kp ac pa V) (hl : dk_live V U) (hw : dk_wf U) (hk : kp' ≤ kp + 1) (hb : dk_live (dk_tb (ac' 0) V') V) (ho : dk_ok (ac' 0) V') (hp : pa' 0 = U) (ha : ∀ i, i + 1 < kp' → ac' (i + 1) = ac i ∧ pa' (i + 1) = pa i) : dk_hist kp' ac' pa' V' := by
  have key : ∀ i, i < kp' → dk_live (dk_ch ac' V' (i + 1)) (dk_ch ac V i) := by
    intro i
    induction i with
    | zero => intro _; exact hb
    | succ i ih =>
      intro hi
      have h1 := ih (by omega)
      have h2 := (h i (by omega)).2.2
      show dk_live (dk_tb (ac' (i + 1)) (dk_ch ac' V' (i + 1))) (dk_tb (ac i) (dk_ch ac V i))
      rw [(ha i hi).1]
      exact dk_live_tb h1 (dk_ok_live (dk_live_symm h1) h2)
  intro i hi
  cases i with
  | zero => exact ⟨by rw [hp]; exact dk_live_trans hb hl, by rw [hp]; exact hw, ho⟩
  | succ i =>
    obtain ⟨h1, h2, h3⟩ := h i (by omega)
    have hki := key (i + 1) hi
    refine ⟨?_, ?_, ?_⟩
    · rw [(ha i hi).2]
      exact dk_live_trans hki h1
    · rw [(ha i hi).2]; exact h2
    · rw [(ha i hi).1]
      exact dk_ok_live (dk_live_symm (key i (by omega))) h3
theorem dk_ch_shift (ac : Nat → dk_Act) (V : Nat → Int32) : ∀ i, dk_ch ac V (i + 1) = dk_ch (fun j => ac (j + 1)) (dk_tb (ac 0) V) i
  | 0 => rfl
  | i + 1 => by
    show dk_tb (ac (i + 1)) (dk_ch ac V (i + 1)) = dk_tb (ac (i + 1)) (dk_ch (fun j => ac (j + 1)) (dk_tb (ac 0) V) i)
    rw [dk_ch_shift ac V i]
theorem dk_pop {kp : Nat} {ac ac' : Nat → dk_Act} {pa pa' : Nat → (Nat → Int32)} {V : Nat → Int32} (h : dk_hist (kp + 1) ac pa V) (ha : ∀ i, i < kp → ac' i = ac (i + 1) ∧ pa' i = pa (i + 1)) : dk_hist kp ac' pa' (dk_tb (ac 0) V) := by
  have key : ∀ i, i ≤ kp → dk_ch ac' (dk_tb (ac 0) V) i = dk_ch (fun j => ac (j + 1)) (dk_tb (ac 0) V) i := by
    intro i
    induction i with
    | zero => intro _; rfl
    | succ i ih =>
      intro hi
      show dk_tb (ac' i) (dk_ch ac' (dk_tb (ac 0) V) i) = dk_tb (ac (i + 1)) (dk_ch (fun j => ac (j + 1)) (dk_tb (ac 0) V) i)
      rw [ih (by omega), (ha i (by omega)).1]
  intro i hi
  obtain ⟨h1, h2, h3⟩ := h (i + 1) (by omega)
  rw [(ha i hi).1, (ha i hi).2, key (i + 1) (by omega), key i (by omega)]
  rw [dk_ch_shift] at h1
  rw [dk_ch_shift] at h3
  exact ⟨h1, h2, h3⟩
