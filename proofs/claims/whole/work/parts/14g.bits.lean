/-! sets of people as eight bits -/
theorem dk_or1 : ∀ s, s < 256 → ∀ q, q < 8 → 0 ≤ (nI s ||| ((1 : Int32) <<< (nI q &&& 31))).toInt ∧ (nI s ||| ((1 : Int32) <<< (nI q &&& 31))).toInt < 256 := by decide +kernel
theorem dk_an1 : ∀ s, s < 256 → ∀ q, q < 8 → 0 ≤ (nI s &&& (((1 : Int32) <<< (nI q &&& 31)) ^^^ (-1 : Int32))).toInt ∧ (nI s &&& (((1 : Int32) <<< (nI q &&& 31)) ^^^ (-1 : Int32))).toInt < 256 := by decide +kernel
theorem dk_or2 : ∀ s, s < 256 → ∀ q, q < 8 → ∀ r, r < 8 → ((((nI s ||| ((1 : Int32) <<< (nI q &&& 31))) >>> (nI r &&& 31)) &&& 1 = 0) ↔ (r ≠ q ∧ (nI s >>> (nI r &&& 31)) &&& 1 = 0)) := by decide +kernel
theorem dk_an2 : ∀ s, s < 256 → ∀ q, q < 8 → ∀ r, r < 8 → ((((nI s &&& (((1 : Int32) <<< (nI q &&& 31)) ^^^ (-1 : Int32))) >>> (nI r &&& 31)) &&& 1 = 0) ↔ (r = q ∨ (nI s >>> (nI r &&& 31)) &&& 1 = 0)) := by decide +kernel
theorem dk_re1 : ∀ s, s < 256 → ∀ q, q < 8 → ((nI s &&& (((1 : Int32) <<< (nI q &&& 31)) ^^^ (-1 : Int32))) ||| ((1 : Int32) <<< (nI q &&& 31))) = (nI s ||| ((1 : Int32) <<< (nI q &&& 31))) ∧
  (¬ (nI s >>> (nI q &&& 31)) &&& 1 = 0 → ((nI s ||| ((1 : Int32) <<< (nI q &&& 31))) = nI s)) ∧
  ((nI s >>> (nI q &&& 31)) &&& 1 = 0 → (nI s &&& (((1 : Int32) <<< (nI q &&& 31)) ^^^ (-1 : Int32))) = nI s ∧ ((nI s ||| ((1 : Int32) <<< (nI q &&& 31))) &&& (((1 : Int32) <<< (nI q &&& 31)) ^^^ (-1 : Int32))) = nI s) := by decide +kernel
theorem dk_b01 (x : Int32) : x &&& 1 = 0 ∨ x &&& 1 = 1 := by
  obtain ⟨j, hj, e⟩ := pk_andE x (m := 1) 1 rfl
  rcases (show j = 0 ∨ j = 1 by omega) with rfl | rfl
  · exact Or.inl e
  · exact Or.inr e
/-- the set of x with q in it, or without it -/
def dk_fb (x : Int32) (q : Nat) (on : Int32) : Int32 := if on = 0 then x &&& (((1 : Int32) <<< (nI q &&& 31)) ^^^ (-1 : Int32)) else x ||| ((1 : Int32) <<< (nI q &&& 31))
theorem dk_fb_in {x : Int32} {q : Nat} {on : Int32} (hx : hd_in x 256) (hq : q < 8) : hd_in (dk_fb x q on) 256 := by
  obtain ⟨s, hs, rfl⟩ := hd_in_of hx (by omega)
  unfold dk_fb
  split
  · exact dk_an1 s hs q hq
  · exact dk_or1 s hs q hq
theorem dk_fb_bit {x : Int32} {q r : Nat} {on : Int32} (hx : hd_in x 256) (hq : q < 8) (hr : r < 8) : dk_bit (dk_fb x q on) r ↔ (if r = q then ¬ on = 0 else dk_bit x r) := by
  obtain ⟨s, hs, rfl⟩ := hd_in_of hx (by omega)
  unfold dk_fb dk_bit
  by_cases ho : on = 0
  · rw [if_pos ho, dk_an2 s hs q hq r hr]
    by_cases h : r = q
    · simp [h, ho]
    · simp [h]
  · rw [if_neg ho, dk_or2 s hs q hq r hr]
    by_cases h : r = q
    · simp [h, ho]
    · simp [h]
theorem dk_fb_back {x : Int32} {q : Nat} {on was : Int32} (hx : hd_in x 256) (hq : q < 8) (hw : ¬ was = 0 ↔ dk_bit x q) : dk_fb (dk_fb x q on) q was = x := by
  obtain ⟨s, hs, rfl⟩ := hd_in_of hx (by omega)
  obtain ⟨r1, r2, r3⟩ := dk_re1 s hs q hq
  unfold dk_fb
  by_cases hwz : was = 0
  · rw [if_pos hwz]
    have hb : (nI s >>> (nI q &&& 31)) &&& 1 = 0 := by
      by_cases z : (nI s >>> (nI q &&& 31)) &&& 1 = 0
      · exact z
      · exact absurd hwz (hw.mpr z)
    split
    · rw [(r3 hb).1, (r3 hb).1]
    · exact (r3 hb).2
  · rw [if_neg hwz]
    have hb : ¬ (nI s >>> (nI q &&& 31)) &&& 1 = 0 := hw.mp hwz
    split
    · rw [r1]; exact r2 hb
    · rw [r2 hb]; exact r2 hb
theorem dk_bar_nf {V : Nat → Int32} {i j : Nat} {on : Int32} (hi : i < 8) (hj : j < 8) (hij : i ≠ j) : dk_bar V (nI i) (nI j) on = upd (upd V (46 + i) (dk_fb (V (46 + i)) j on)) (46 + j) (dk_fb (V (46 + j)) i on) := by
  unfold dk_bar dk_fb
  rw [nI_clamp (show i < 2 ^ 31 by omega), nI_clamp (show j < 2 ^ 31 by omega)]
  have e : ∀ x, upd V (46 + i) x (46 + j) = V (46 + j) := fun x => pk_un (by omega)
  split
  · rw [e]
  · rw [e]
theorem dk_bar_back {V : Nat → Int32} {i j : Nat} {on was : Int32} (hi : i < 8) (hj : j < 8) (hij : i ≠ j) (hw : dk_wfB V) (h : ¬ was = 0 ↔ dk_bit (V (46 + i)) j) : dk_bar (dk_bar V (nI i) (nI j) on) (nI i) (nI j) was = V := by
  have h2 : ¬ was = 0 ↔ dk_bit (V (46 + j)) i := h.trans ⟨fun q => ((hw i hi).2 j hj q).2.2.2, fun q => ((hw j hj).2 i hi q).2.2.2⟩
  rw [dk_bar_nf hi hj hij, dk_bar_nf hi hj hij]
  funext k
  by_cases k1 : k = 46 + j
  · subst k1
    rw [pk_us, pk_us, dk_fb_back (hw j hj).1 hi h2]
  · by_cases k2 : k = 46 + i
    · subst k2
      rw [pk_un k1, pk_us, pk_un k1, pk_us, dk_fb_back (hw i hi).1 hj h]
    · rw [pk_un k1, pk_un k2, pk_un k1, pk_un k2]
theorem dk_wf_bar {V : Nat → Int32} {i j : Nat} {on : Int32} (h : dk_wf V) (hi : i < dk_np V) (hj : j < dk_np V) (hij : i ≠ j) : dk_wf (dk_bar V (nI i) (nI j) on) := by
  have hn := dk_wf_n h
  obtain ⟨h0, h1, h2, h3, h4, h5, hP, hL, hE, hA, hB⟩ := h
  have hi8 : i < 8 := by omega
  have hj8 : j < 8 := by omega
  rw [dk_bar_nf hi8 hj8 hij]
  have u : ∀ k, (k < 46 ∨ 54 ≤ k) → upd (upd V (46 + i) (dk_fb (V (46 + i)) j on)) (46 + j) (dk_fb (V (46 + j)) i on) k = V k := fun k hk => by rw [pk_un (by omega), pk_un (by omega)]
  generalize hW : upd (upd V (46 + i) (dk_fb (V (46 + i)) j on)) (46 + j) (dk_fb (V (46 + j)) i on) = W at u ⊢
  have w46 : ∀ p, p < 8 → W (46 + p) = if p = j then dk_fb (V (46 + j)) i on else if p = i then dk_fb (V (46 + i)) j on else V (46 + p) := by
    intro p hp
    rw [← hW]
    by_cases z : p = j
    · rw [if_pos z, z, pk_us]
    · rw [if_neg z, pk_un (by omega)]
      by_cases y : p = i
      · rw [if_pos y, y, pk_us]
      · rw [if_neg y, pk_un (by omega)]
  have n0 : dk_np W = dk_np V := by rw [dk_np, u 0 (by omega)]
  refine ⟨by rw [u 0 (by omega)]; exact h0, by rw [u 1 (by omega)]; exact h1, by rw [u 2 (by omega)]; exact h2, by rw [u 3 (by omega)]; exact h3, by rw [u 4 (by omega)]; exact h4, by rw [u 5 (by omega)]; exact h5, fun p hp => ?_, fun p hp => ?_, fun p hp => ?_, fun p hp => ?_, fun p hp => ?_⟩
  · rw [n0] at hp
    have := hP p hp
    unfold dk_wfP at this ⊢
    rwa [u _ (by omega), u _ (by omega), u _ (by omega), u _ (by omega), u _ (by omega)]
  · rw [dk_nl, u 1 (by omega)] at hp
    have := hL p hp
    unfold dk_wfL at this ⊢
    rwa [u _ (by omega), u _ (by omega), u _ (by omega), u _ (by omega), u _ (by omega)]
  · rw [dk_ne, u 2 (by omega)] at hp
    have := hE p hp
    unfold dk_wfE at this ⊢
    rwa [u _ (by omega), u _ (by omega), u _ (by omega), u _ (by omega), u _ (by omega)]
  · rw [dk_na, u 3 (by omega)] at hp
    have := hA p hp
    unfold dk_wfA at this ⊢
    rwa [u _ (by omega), u _ (by omega), u _ (by omega)]
  · have bb : ∀ a, a < 8 → ∀ b, b < 8 → (dk_bit (W (46 + a)) b ↔ (if (a = i ∧ b = j) ∨ (a = j ∧ b = i) then ¬ on = 0 else dk_bit (V (46 + a)) b)) := by
      intro a ha b hb
      rw [w46 a ha]
      by_cases z : a = j
      · subst z
        rw [if_pos rfl, dk_fb_bit (hB a ha).1 hi8 hb]
        by_cases y : b = i
        · subst y; simp
        · have : ¬ ((a = i ∧ b = a) ∨ (a = a ∧ b = i)) := by omega
          rw [if_neg y, if_neg this]
      · rw [if_neg z]
        by_cases y : a = i
        · subst y
          rw [if_pos rfl, dk_fb_bit (hB a ha).1 hj8 hb]
          by_cases x : b = j
          · subst x; simp
          · have : ¬ ((a = a ∧ b = j) ∨ (a = j ∧ b = a)) := by omega
            rw [if_neg x, if_neg this]
        · rw [if_neg y]
          have : ¬ ((a = i ∧ b = j) ∨ (a = j ∧ b = i)) := by omega
          simp only [this, if_false]
    refine ⟨?_, fun q hq hb => ?_⟩
    · rw [w46 p hp]
      split
      · exact dk_fb_in (hB j hj8).1 hi8
      · split
        · exact dk_fb_in (hB i hi8).1 hj8
        · exact (hB p hp).1
    · rw [n0]
      rw [bb p hp q hq] at hb
      rw [bb q hq p hp]
      by_cases z : (p = i ∧ q = j) ∨ (p = j ∧ q = i)
      · rw [if_pos z] at hb
        rw [if_pos (by omega)]
        refine ⟨by omega, by omega, by omega, hb⟩
      · rw [if_neg z] at hb
        rw [if_neg (by omega)]
        exact (hB p hp).2 q hq hb
