/-! plans as lists of their worths: the desk's and the reference's -/
def dk_dg (s : Nat) : Nat := dk_sm (fun p => if s.testBit p then 4 ^ (7 - p) else 0) 8
def dk_bc8 (s : Nat) : Nat := dk_sm (fun p => if s.testBit p then 1 else 0) 8
def dk_gw (l g : Nat) : Nat := dk_bc8 g * 65536 + (3 - l) * dk_dg g
def dk_F (ok : Nat → Nat → Bool) : Nat → Nat → List Nat
  | 0, _ => [0]
  | j + 1, S => dk_F ok j S ++ (dk_en S).flatMap (fun g => if ok (2 - j) g then (dk_F ok j (dk_df S g)).map (· + dk_gw (2 - j) g) else [])
theorem dk_sm_mono {f g : Nat → Nat} : ∀ n, (∀ i, i < n → f i ≤ g i) → dk_sm f n ≤ dk_sm g n
  | 0, _ => Nat.le_refl _
  | n + 1, h => by
    have h1 := dk_sm_mono n (fun i hi => h i (by omega))
    have h2 := h n (by omega)
    show dk_sm f n + f n ≤ dk_sm g n + g n
    omega
theorem dk_dg_le (s : Nat) : dk_dg s ≤ 21845 := Nat.le_trans (dk_sm_mono (g := fun p => 4 ^ (7 - p)) 8 (fun p _ => by split <;> simp)) (by decide)
theorem dk_bc8_le (s : Nat) : dk_bc8 s ≤ 8 := Nat.le_trans (dk_sm_mono (g := fun _ => 1) 8 (fun p _ => by split <;> simp)) (by decide)
theorem dk_sl_sub : ∀ k S g, g ∈ dk_sl k S → ∀ i, g.testBit i = true → S.testBit i = true
  | 0, S, g, h, i, hi => by simp [dk_sl] at h; subst h; simp at hi
  | k + 1, S, g, h, i, hi => by
    unfold dk_sl at h
    rw [List.mem_append] at h
    rcases h with h | h
    · exact dk_sl_sub k S g h i hi
    · by_cases q : S.testBit k
      · rw [if_pos q, List.mem_map] at h
        obtain ⟨a, h1, rfl⟩ := h
        rw [dk_tb_add (dk_sl_lt k S a h1), Bool.or_eq_true] at hi
        rcases hi with z | z
        · exact dk_sl_sub k S a h1 i z
        · rw [of_decide_eq_true z]; exact q
      · rw [if_neg q] at h; simp at h
theorem dk_en_mem {S g : Nat} (hS : S < 256) (h : g ∈ dk_en S) : g < 256 ∧ ∀ i, g.testBit i = true → S.testBit i = true := by
  have h2 : g ∈ dk_sl 8 S := by
    have : g ∈ dk_en S ++ [0] := by simp [h]
    rw [dk_en_sl S hS] at this
    simpa using this
  exact ⟨dk_sl_lt 8 S g h2, dk_sl_sub 8 S g h2⟩
theorem dk_dg_df {S g : Nat} (h : ∀ i, g.testBit i = true → S.testBit i = true) : dk_dg S = dk_dg g + dk_dg (dk_df S g) := by
  unfold dk_dg
  rw [← dk_sm_add]
  apply dk_sm_congr
  intro p hp
  rw [dk_df_tb _ _ _ (by omega)]
  have := h p
  cases e1 : g.testBit p <;> cases e2 : S.testBit p <;> simp_all
theorem dk_bc_df {S g : Nat} (h : ∀ i, g.testBit i = true → S.testBit i = true) : dk_bc8 S = dk_bc8 g + dk_bc8 (dk_df S g) := by
  unfold dk_bc8
  rw [← dk_sm_add]
  apply dk_sm_congr
  intro p hp
  rw [dk_df_tb _ _ _ (by omega)]
  have := h p
  cases e1 : g.testBit p <;> cases e2 : S.testBit p <;> simp_all
theorem dk_df_lt {S g : Nat} (h : S < 256) : dk_df S g < 256 := Nat.lt_of_le_of_lt Nat.and_le_left h
theorem dk_F_bd (ok : Nat → Nat → Bool) : ∀ j S y, S < 256 → y ∈ dk_F ok j S → y % 65536 ≤ 3 * dk_dg S ∧ y / 65536 ≤ dk_bc8 S
  | 0, S, y, _, h => by
    simp [dk_F] at h
    subst h
    exact ⟨by omega, by omega⟩
  | j + 1, S, y, hS, h => by
    unfold dk_F at h
    rw [List.mem_append] at h
    rcases h with h | h
    · exact dk_F_bd ok j S y hS h
    · rw [List.mem_flatMap] at h
      obtain ⟨g, h1, h2⟩ := h
      by_cases q : ok (2 - j) g
      · rw [if_pos q, List.mem_map] at h2
        obtain ⟨z, h3, rfl⟩ := h2
        obtain ⟨g1, g2⟩ := dk_en_mem hS h1
        obtain ⟨b1, b2⟩ := dk_F_bd ok j (dk_df S g) z (dk_df_lt hS) h3
        have e1 := dk_dg_df g2
        have e2 := dk_bc_df g2
        have l1 := dk_dg_le S
        have e3 : (3 - (2 - j)) * dk_dg g ≤ 3 * dk_dg g := Nat.mul_le_mul (by omega) (Nat.le_refl _)
        unfold dk_gw
        generalize (3 - (2 - j)) * dk_dg g = w at e3
        omega
      · rw [if_neg q] at h2; simp at h2
/-- adding the worth of a gang carries nothing over -/
theorem dk_F_nc (ok : Nat → Nat → Bool) {j S g l y : Nat} (hS : S < 256) (hg : ∀ i, g.testBit i = true → S.testBit i = true) (hy : y ∈ dk_F ok j (dk_df S g)) : (y + dk_gw l g) / 65536 = y / 65536 + dk_gw l g / 65536 := by
  obtain ⟨b1, b2⟩ := dk_F_bd ok j (dk_df S g) y (dk_df_lt hS) hy
  have e1 := dk_dg_df hg
  have l1 := dk_dg_le S
  have e3 : (3 - l) * dk_dg g ≤ 3 * dk_dg g := Nat.mul_le_mul (by omega) (Nat.le_refl _)
  unfold dk_gw
  generalize (3 - l) * dk_dg g = w at e3
  omega
theorem dk_F_ne (ok : Nat → Nat → Bool) : ∀ j S, dk_F ok j S ≠ []
  | 0, S => by simp [dk_F]
  | j + 1, S => by
    unfold dk_F
    have := dk_F_ne ok j S
    simp [this]
def dk_mxl : List Nat → Nat
  | [] => 0
  | x :: xs => max x (dk_mxl xs)
def dk_wy (F : List Nat) : Nat := dk_ls (fun y => if y / 65536 = dk_mxl F / 65536 then 1 else 0) F
theorem dk_mxl_le {y : Nat} : ∀ F : List Nat, y ∈ F → y ≤ dk_mxl F
  | [], h => by simp at h
  | x :: xs, h => by
    show y ≤ max x (dk_mxl xs)
    rcases List.mem_cons.mp h with rfl | q
    · omega
    · have := dk_mxl_le xs q
      omega
theorem dk_mxl_mem : ∀ F : List Nat, F ≠ [] → dk_mxl F ∈ F
  | [], h => absurd rfl h
  | [x], _ => by simp [dk_mxl]
  | x :: y :: xs, _ => by
    have ih := dk_mxl_mem (y :: xs) (by simp)
    show max x (dk_mxl (y :: xs)) ∈ x :: y :: xs
    rcases Nat.le_total x (dk_mxl (y :: xs)) with q | q
    · rw [Nat.max_eq_right q]
      exact List.mem_cons_of_mem _ ih
    · rw [Nat.max_eq_left q]
      simp
theorem dk_mxl_app : ∀ X Y : List Nat, dk_mxl (X ++ Y) = max (dk_mxl X) (dk_mxl Y)
  | [], Y => by simp [dk_mxl]
  | x :: X, Y => by
    show max x (dk_mxl (X ++ Y)) = max (max x (dk_mxl X)) (dk_mxl Y)
    rw [dk_mxl_app X Y]
    omega
theorem dk_mxl_map {s : Nat} : ∀ Y : List Nat, Y ≠ [] → dk_mxl (Y.map (· + s)) = s + dk_mxl Y
  | [], h => absurd rfl h
  | [x], _ => by simp [dk_mxl]; omega
  | x :: y :: xs, _ => by
    have ih := dk_mxl_map (s := s) (y :: xs) (by simp)
    show max (x + s) (dk_mxl ((y :: xs).map (· + s))) = s + max x (dk_mxl (y :: xs))
    rw [ih]
    omega
theorem dk_cnt0 {c : Nat} (F : List Nat) (h : ∀ y, y ∈ F → ¬ y / 65536 = c) : dk_ls (fun y => if y / 65536 = c then 1 else 0) F = 0 := by
  exact (dk_ls_congr F (fun y hy => if_neg (h y hy))).trans (dk_ls_0 F)
theorem dk_wy_upd {X Y : List Nat} {s : Nat} (hX : X ≠ []) (hY : Y ≠ []) (nc : ∀ y, y ∈ Y → (y + s) / 65536 = y / 65536 + s / 65536) :
    dk_wy (X ++ Y.map (· + s)) = if dk_mxl X / 65536 < (s + dk_mxl Y) / 65536 then dk_wy Y else if dk_mxl X / 65536 = (s + dk_mxl Y) / 65536 then dk_wy X + dk_wy Y else dk_wy X := by
  have nm := nc _ (dk_mxl_mem Y hY)
  have hm : dk_mxl (X ++ Y.map (· + s)) = max (dk_mxl X) (s + dk_mxl Y) := by rw [dk_mxl_app, dk_mxl_map Y hY]
  have eo : (s + dk_mxl Y) / 65536 = dk_mxl Y / 65536 + s / 65536 := by rw [Nat.add_comm s, nm]
  unfold dk_wy
  rw [hm, dk_ls_app, dk_ls_map]
  have hxm : ∀ y, y ∈ X → y / 65536 ≤ dk_mxl X / 65536 := fun y hy => Nat.div_le_div_right (dk_mxl_le X hy)
  have hym : ∀ y, y ∈ Y → y / 65536 ≤ dk_mxl Y / 65536 := fun y hy => Nat.div_le_div_right (dk_mxl_le Y hy)
  by_cases q1 : dk_mxl X / 65536 < (s + dk_mxl Y) / 65536
  · have e : max (dk_mxl X) (s + dk_mxl Y) / 65536 = (s + dk_mxl Y) / 65536 := by
      rw [Nat.max_eq_right]
      rcases Nat.le_total (dk_mxl X) (s + dk_mxl Y) with z | z
      · exact z
      · have := Nat.div_le_div_right (c := 65536) z
        omega
    rw [if_pos q1, e, dk_cnt0 X (fun y hy => by have := hxm y hy; omega), Nat.zero_add]
    apply dk_ls_congr
    intro y hy
    rw [nc y hy, eo]
    by_cases z : y / 65536 = dk_mxl Y / 65536
    · rw [if_pos z, if_pos (by omega)]
    · rw [if_neg z, if_neg (by omega)]
  · rw [if_neg q1]
    have e : max (dk_mxl X) (s + dk_mxl Y) / 65536 = dk_mxl X / 65536 := by
      rcases Nat.le_total (dk_mxl X) (s + dk_mxl Y) with z | z
      · rw [Nat.max_eq_right z]
        have := Nat.div_le_div_right (c := 65536) z
        omega
      · rw [Nat.max_eq_left z]
    rw [e]
    by_cases q2 : dk_mxl X / 65536 = (s + dk_mxl Y) / 65536
    · rw [if_pos q2]
      congr 1
      apply dk_ls_congr
      intro y hy
      rw [nc y hy, q2, eo]
      by_cases z : y / 65536 = dk_mxl Y / 65536
      · rw [if_pos z, if_pos (by omega)]
      · rw [if_neg z, if_neg (by omega)]
    · rw [if_neg q2]
      have : dk_ls (fun x => if (x + s) / 65536 = dk_mxl X / 65536 then 1 else 0) Y = 0 := by
        refine (dk_ls_congr Y (fun y hy => ?_)).trans (dk_ls_0 Y)
        rw [nc y hy, if_neg (by have := hym y hy; omega)]
      rw [this]
      rfl
/-- two lists with the same sums -/
theorem dk_same_l {F R : List Nat} (hF : F ≠ []) (h : ∀ f : Nat → Nat, dk_ls f F = dk_ls f R) : R ≠ [] ∧ dk_mxl R = dk_mxl F ∧ dk_wy R = dk_wy F := by
  have key : ∀ A B : List Nat, (∀ f : Nat → Nat, dk_ls f A = dk_ls f B) → ∀ y, y ∈ A → y ∈ B := by
    intro A B hAB y hy
    have h1 := dk_ls_mem (f := fun z => if z = y then 1 else 0) A hy
    rw [hAB] at h1
    rw [if_pos rfl] at h1
    obtain ⟨z, z1, z2⟩ := dk_ls_pos B (show 0 < dk_ls (fun z => if z = y then 1 else 0) B by omega)
    by_cases q : z = y
    · rw [← q]; exact z1
    · rw [if_neg q] at z2; omega
  have m1 := key F R h _ (dk_mxl_mem F hF)
  have hR : R ≠ [] := by rintro rfl; simp at m1
  have m2 := key R F (fun f => (h f).symm) _ (dk_mxl_mem R hR)
  have e : dk_mxl R = dk_mxl F := Nat.le_antisymm (dk_mxl_le F m2) (dk_mxl_le R m1)
  refine ⟨hR, e, ?_⟩
  unfold dk_wy
  rw [e, h]
def dk_w (a b c : Nat) : Nat := dk_gw 0 a + dk_gw 1 b + dk_gw 2 c
def dk_R (up : Nat → Nat → Bool) (fin : Nat → Nat → Nat → Bool) : Nat → Nat → Nat → Nat → Nat → List Nat
  | 0, _, a, b, c => if fin a b c then [dk_w a b c] else []
  | m + 1, p, a, b, c => (if up 0 (a + 2 ^ p) then dk_R up fin m (p + 1) (a + 2 ^ p) b c else []) ++ ((if up 1 (b + 2 ^ p) then dk_R up fin m (p + 1) a (b + 2 ^ p) c else []) ++ ((if up 2 (c + 2 ^ p) then dk_R up fin m (p + 1) a b (c + 2 ^ p) else []) ++ dk_R up fin m (p + 1) a b c))
def dk_ext (C : Nat) (f : Nat → Nat → Nat → Nat) : Nat → Nat → Nat → Nat → Nat → Nat
  | 0, _, a, b, c => f a b c
  | m + 1, p, a, b, c => dk_ext C f m (p + 1) a b c + (if C.testBit p then dk_ext C f m (p + 1) (a + 2 ^ p) b c + dk_ext C f m (p + 1) a (b + 2 ^ p) c + dk_ext C f m (p + 1) a b (c + 2 ^ p) else 0)
theorem dk_tri_ext (C : Nat) (f : Nat → Nat → Nat → Nat) : ∀ k m, dk_tri k C (fun a b c => dk_ext C f m k a b c) = dk_ext C f (m + k) 0 0 0 0
  | 0, m => rfl
  | k + 1, m => by
    rw [dk_tri_s, show m + (k + 1) = (m + 1) + k by omega, ← dk_tri_ext C f k (m + 1)]
    have : dk_tri k C (fun a b c => dk_ext C f (m + 1) k a b c) = dk_tri k C (fun a b c => dk_ext C f m (k + 1) a b c + (if C.testBit k then dk_ext C f m (k + 1) (a + 2 ^ k) b c + dk_ext C f m (k + 1) a (b + 2 ^ k) c + dk_ext C f m (k + 1) a b (c + 2 ^ k) else 0)) := rfl
    rw [this, dk_tri_add]
    congr 1
    split
    · rw [dk_tri_add k C (fun a b c => dk_ext C f m (k + 1) (a + 2 ^ k) b c + dk_ext C f m (k + 1) a (b + 2 ^ k) c), dk_tri_add]
    · exact (dk_tri0 k C).symm
theorem dk_tri_cut {C n : Nat} (f : Nat → Nat → Nat → Nat) (h : ∀ i, n ≤ i → C.testBit i = false) : ∀ k, n ≤ k → dk_tri k C f = dk_tri n C f
  | 0, hk => by rw [show n = 0 by omega]
  | k + 1, hk => by
    rcases (show n = k + 1 ∨ n ≤ k by omega) with rfl | q
    · rfl
    · rw [dk_tri_s, h k q, dk_tri_cut f h k q]
      rfl
def dk_okz (ok : Nat → Nat → Bool) (l g : Nat) : Bool := decide (g = 0) || ok l g
theorem dk_gw0 (l : Nat) : dk_gw l 0 = 0 := by
  have h1 : dk_bc8 0 = 0 := by decide
  have h2 : dk_dg 0 = 0 := by decide
  unfold dk_gw
  rw [h1, h2]
  omega
theorem dk_df0 {S : Nat} (h : S < 256) : dk_df S 0 = S := by
  unfold dk_df
  rw [Nat.zero_xor, show (4294967295 : Nat) = 2 ^ 32 - 1 from rfl, Nat.and_two_pow_sub_one_eq_mod, Nat.mod_eq_of_lt (by omega)]
theorem dk_F_sum (ok : Nat → Nat → Bool) (hok : ∀ l, ok l 0 = false) (j S : Nat) (hS : S < 256) (f : Nat → Nat) : dk_ls f (dk_F ok (j + 1) S) = dk_ls (fun g => if dk_okz ok (2 - j) g then dk_ls (fun y => f (y + dk_gw (2 - j) g)) (dk_F ok j (dk_df S g)) else 0) (dk_sl 8 S) := by
  rw [← dk_ls_rev _ (dk_sl 8 S), ← dk_en_sl S hS, dk_ls_app]
  show dk_ls f (dk_F ok j S ++ (dk_en S).flatMap (fun g => if ok (2 - j) g then (dk_F ok j (dk_df S g)).map (· + dk_gw (2 - j) g) else [])) = _ + ((if dk_okz ok (2 - j) 0 then dk_ls (fun y => f (y + dk_gw (2 - j) 0)) (dk_F ok j (dk_df S 0)) else 0) + 0)
  rw [dk_ls_app, dk_ls_flat, dk_gw0, dk_df0 hS, if_pos (show dk_okz ok (2 - j) 0 = true by simp [dk_okz]), Nat.add_comm]
  congr 1
  apply dk_ls_congr
  intro g hg
  have hg0 : g ≠ 0 := by
    rintro rfl
    have : ∀ m T h, (0 : Nat) ∉ dk_enF m T h := by
      intro m
      induction m with
      | zero => intro T h; simp [dk_enF]
      | succ m ih =>
        intro T h
        unfold dk_enF
        split
        · simp
        · intro z
          rcases List.mem_cons.mp z with y | y
          · omega
          · exact ih _ _ y
    exact this _ _ _ hg
  have : dk_okz ok (2 - j) g = ok (2 - j) g := by simp [dk_okz, hg0]
  rw [this]
  split
  · rw [dk_ls_map]
  · rfl
def dk_psi (ok : Nat → Nat → Bool) (f : Nat → Nat) (a b c : Nat) : Nat := if dk_okz ok 0 a = true ∧ dk_okz ok 1 b = true ∧ dk_okz ok 2 c = true then f (dk_w a b c) else 0
theorem dk_F3 (ok : Nat → Nat → Bool) (hok : ∀ l, ok l 0 = false) {C n : Nat} (hC : C < 256) (hn : n ≤ 8) (hb : ∀ i, n ≤ i → C.testBit i = false) (f : Nat → Nat) : dk_ls f (dk_F ok 3 C) = dk_ext C (dk_psi ok f) n 0 0 0 0 := by
  have e0 : dk_tri n C (dk_psi ok f) = dk_ext C (dk_psi ok f) (0 + n) 0 0 0 0 := dk_tri_ext C (dk_psi ok f) n 0
  rw [Nat.zero_add] at e0
  rw [← e0, ← dk_tri_cut (dk_psi ok f) hb 8 hn, ← dk_three 8 C (by omega), dk_F_sum ok hok 2 C hC]
  apply dk_ls_congr
  intro a _
  rw [dk_F_sum ok hok 1 _ (dk_df_lt hC)]
  by_cases q0 : dk_okz ok 0 a = true
  · rw [if_pos (show dk_okz ok (2 - 2) a = true from q0)]
    apply dk_ls_congr
    intro b _
    rw [dk_F_sum ok hok 0 _ (dk_df_lt (dk_df_lt hC))]
    by_cases q1 : dk_okz ok 1 b = true
    · rw [if_pos (show dk_okz ok (2 - 1) b = true from q1)]
      apply dk_ls_congr
      intro c _
      by_cases q2 : dk_okz ok 2 c = true
      · rw [if_pos (show dk_okz ok (2 - 0) c = true from q2)]
        show f (0 + dk_gw 2 c + dk_gw 1 b + dk_gw 0 a) + 0 = dk_psi ok f a b c
        unfold dk_psi dk_w
        rw [if_pos ⟨q0, q1, q2⟩, Nat.add_zero, show 0 + dk_gw 2 c + dk_gw 1 b + dk_gw 0 a = dk_gw 0 a + dk_gw 1 b + dk_gw 2 c by omega]
      · rw [if_neg (show ¬ dk_okz ok (2 - 0) c = true from q2)]
        unfold dk_psi
        rw [if_neg (fun z => q2 z.2.2)]
    · rw [if_neg (show ¬ dk_okz ok (2 - 1) b = true from q1)]
      symm
      rw [← dk_ls_0 (dk_sl 8 (dk_df (dk_df C a) b))]
      apply dk_ls_congr
      intro c _
      unfold dk_psi
      rw [if_neg (fun z => q1 z.2.1)]
  · rw [if_neg (show ¬ dk_okz ok (2 - 2) a = true from q0)]
    symm
    rw [← dk_ls_0 (dk_sl 8 (dk_df C a))]
    apply dk_ls_congr
    intro b _
    rw [← dk_ls_0 (dk_sl 8 (dk_df (dk_df C a) b))]
    apply dk_ls_congr
    intro c _
    unfold dk_psi
    rw [if_neg (fun z => q0 z.1)]
/-- the reference's roads, without those that are cut off -/
theorem dk_cut {C : Nat} {up ok : Nat → Nat → Bool} {f : Nat → Nat} (hup : ∀ l g, dk_okz ok l g = true → up l g = true) (hmo : ∀ l g p, g < 2 ^ p → up l (g + 2 ^ p) = true → up l g = true) : ∀ m p a b c, a < 2 ^ p → b < 2 ^ p → c < 2 ^ p → ¬ (up 0 a = true ∧ up 1 b = true ∧ up 2 c = true) → dk_ext C (dk_psi ok f) m p a b c = 0
  | 0, p, a, b, c, ha, hb, hc, h => by
    show dk_psi ok f a b c = 0
    unfold dk_psi
    rw [if_neg (fun z => h ⟨hup _ _ z.1, hup _ _ z.2.1, hup _ _ z.2.2⟩)]
  | m + 1, p, a, b, c, ha, hb, hc, h => by
    have e : 2 ^ (p + 1) = 2 ^ p + 2 ^ p := by rw [Nat.pow_succ]; omega
    show dk_ext C (dk_psi ok f) m (p + 1) a b c + (if C.testBit p then dk_ext C (dk_psi ok f) m (p + 1) (a + 2 ^ p) b c + dk_ext C (dk_psi ok f) m (p + 1) a (b + 2 ^ p) c + dk_ext C (dk_psi ok f) m (p + 1) a b (c + 2 ^ p) else 0) = 0
    rw [dk_cut hup hmo m (p + 1) a b c (by omega) (by omega) (by omega) h, dk_cut hup hmo m (p + 1) (a + 2 ^ p) b c (by omega) (by omega) (by omega) (fun z => h ⟨hmo _ _ _ ha z.1, z.2.1, z.2.2⟩), dk_cut hup hmo m (p + 1) a (b + 2 ^ p) c (by omega) (by omega) (by omega) (fun z => h ⟨z.1, hmo _ _ _ hb z.2.1, z.2.2⟩), dk_cut hup hmo m (p + 1) a b (c + 2 ^ p) (by omega) (by omega) (by omega) (fun z => h ⟨z.1, z.2.1, hmo _ _ _ hc z.2.2⟩)]
    split <;> rfl
theorem dk_R_sum {C : Nat} {up ok : Nat → Nat → Bool} {fin : Nat → Nat → Nat → Bool} {f : Nat → Nat} (hup : ∀ l g, dk_okz ok l g = true → up l g = true) (hmo : ∀ l g p, g < 2 ^ p → up l (g + 2 ^ p) = true → up l g = true) (hC : ∀ l g p, l < 3 → g < 2 ^ p → up l (g + 2 ^ p) = true → C.testBit p = true) (hfin : ∀ a b c, up 0 a = true → up 1 b = true → up 2 c = true → (fin a b c = true ↔ dk_okz ok 0 a = true ∧ dk_okz ok 1 b = true ∧ dk_okz ok 2 c = true)) : ∀ m p a b c, a < 2 ^ p → b < 2 ^ p → c < 2 ^ p → up 0 a = true → up 1 b = true → up 2 c = true → dk_ls f (dk_R up fin m p a b c) = dk_ext C (dk_psi ok f) m p a b c
  | 0, p, a, b, c, _, _, _, h0, h1, h2 => by
    show dk_ls f (if fin a b c then [dk_w a b c] else []) = dk_psi ok f a b c
    unfold dk_psi
    have := hfin a b c h0 h1 h2
    by_cases q : fin a b c = true
    · rw [if_pos q, if_pos (this.mp q)]
      show f _ + 0 = _
      rfl
    · rw [if_neg q, if_neg (fun z => q (this.mpr z))]
      rfl
  | m + 1, p, a, b, c, ha, hb, hc, h0, h1, h2 => by
    have e : 2 ^ (p + 1) = 2 ^ p + 2 ^ p := by rw [Nat.pow_succ]; omega
    have ih := dk_R_sum (f := f) hup hmo hC hfin m (p + 1)
    have ic := dk_cut (C := C) (f := f) hup hmo m (p + 1)
    show dk_ls f ((if up 0 (a + 2 ^ p) then dk_R up fin m (p + 1) (a + 2 ^ p) b c else []) ++ ((if up 1 (b + 2 ^ p) then dk_R up fin m (p + 1) a (b + 2 ^ p) c else []) ++ ((if up 2 (c + 2 ^ p) then dk_R up fin m (p + 1) a b (c + 2 ^ p) else []) ++ dk_R up fin m (p + 1) a b c))) = dk_ext C (dk_psi ok f) m (p + 1) a b c + (if C.testBit p then dk_ext C (dk_psi ok f) m (p + 1) (a + 2 ^ p) b c + dk_ext C (dk_psi ok f) m (p + 1) a (b + 2 ^ p) c + dk_ext C (dk_psi ok f) m (p + 1) a b (c + 2 ^ p) else 0)
    rw [dk_ls_app, dk_ls_app, dk_ls_app, ih a b c (by omega) (by omega) (by omega) h0 h1 h2]
    have x0 : dk_ls f (if up 0 (a + 2 ^ p) then dk_R up fin m (p + 1) (a + 2 ^ p) b c else []) = if C.testBit p then dk_ext C (dk_psi ok f) m (p + 1) (a + 2 ^ p) b c else 0 := by
      by_cases q : up 0 (a + 2 ^ p) = true
      · rw [if_pos q, hC 0 a p (by omega) ha q, if_pos rfl, ih _ b c (by omega) (by omega) (by omega) q h1 h2]
      · rw [if_neg q, ic (a + 2 ^ p) b c (by omega) (by omega) (by omega) (fun z => q z.1)]
        split <;> rfl
    have x1 : dk_ls f (if up 1 (b + 2 ^ p) then dk_R up fin m (p + 1) a (b + 2 ^ p) c else []) = if C.testBit p then dk_ext C (dk_psi ok f) m (p + 1) a (b + 2 ^ p) c else 0 := by
      by_cases q : up 1 (b + 2 ^ p) = true
      · rw [if_pos q, hC 1 b p (by omega) hb q, if_pos rfl, ih a _ c (by omega) (by omega) (by omega) h0 q h2]
      · rw [if_neg q, ic a (b + 2 ^ p) c (by omega) (by omega) (by omega) (fun z => q z.2.1)]
        split <;> rfl
    have x2 : dk_ls f (if up 2 (c + 2 ^ p) then dk_R up fin m (p + 1) a b (c + 2 ^ p) else []) = if C.testBit p then dk_ext C (dk_psi ok f) m (p + 1) a b (c + 2 ^ p) else 0 := by
      by_cases q : up 2 (c + 2 ^ p) = true
      · rw [if_pos q, hC 2 c p (by omega) hc q, if_pos rfl, ih a b _ (by omega) (by omega) (by omega) h0 h1 q]
      · rw [if_neg q, ic a b (c + 2 ^ p) (by omega) (by omega) (by omega) (fun z => q z.2.2)]
        split <;> rfl
    rw [x0, x1, x2]
    split <;> omega
theorem dk_dg_add {g p : Nat} (hg : g < 2 ^ p) (hp : p < 8) : dk_dg (g + 2 ^ p) = dk_dg g + 4 ^ (7 - p) ∧ dk_bc8 (g + 2 ^ p) = dk_bc8 g + 1 := by
  constructor
  · unfold dk_dg
    rw [← dk_sm_pt (d := p) (c := 4 ^ (7 - p)) 8 hp, ← dk_sm_add]
    apply dk_sm_congr
    intro i hi
    rw [dk_tb_add hg]
    by_cases q : i = p
    · subst q
      rw [dk_bk hg]
      simp
    · simp [q]
  · unfold dk_bc8
    have h1 : dk_sm (fun i => if g.testBit i then 1 else 0) 8 + 1 = dk_sm (fun i => if g.testBit i then 1 else 0) 8 + dk_sm (fun j => if j = p then 1 else 0) 8 := by rw [dk_sm_pt 8 hp]
    rw [h1, ← dk_sm_add]
    apply dk_sm_congr
    intro i hi
    rw [dk_tb_add hg]
    by_cases q : i = p
    · subst q
      rw [dk_bk hg]
      simp
    · simp [q]
theorem dk_gw_add {l g p : Nat} (hg : g < 2 ^ p) (hp : p < 8) : dk_gw l (g + 2 ^ p) = dk_gw l g + 65536 + (3 - l) * 4 ^ (7 - p) := by
  obtain ⟨h1, h2⟩ := dk_dg_add hg hp
  unfold dk_gw
  have e1 : (3 - l) * (dk_dg g + 4 ^ (7 - p)) = (3 - l) * dk_dg g + (3 - l) * 4 ^ (7 - p) := Nat.mul_add _ _ _
  rw [h1, h2, e1]
  generalize (3 - l) * dk_dg g = u
  generalize (3 - l) * 4 ^ (7 - p) = v
  omega
theorem dk_m65 {w x : Nat} (h : w % 65536 + x < 65536) : (w + 65536 + x) % 65536 = w % 65536 + x := by
  rw [show w + 65536 + x = (w + x) + 65536 by omega, Nat.add_mod_right, Nat.add_mod, Nat.mod_eq_of_lt (a := x) (by omega), Nat.mod_eq_of_lt h]
/-- the reference meets greater low parts first -/
theorem dk_R_low (up : Nat → Nat → Bool) (fin : Nat → Nat → Nat → Bool) : ∀ m p a b c, m + p ≤ 8 → a < 2 ^ p → b < 2 ^ p → c < 2 ^ p → dk_w a b c % 65536 + 4 ^ (8 - p) ≤ 65536 → (∀ y, y ∈ dk_R up fin m p a b c → dk_w a b c % 65536 ≤ y % 65536 ∧ y % 65536 < dk_w a b c % 65536 + 4 ^ (8 - p)) ∧ (dk_R up fin m p a b c).Pairwise (fun x y => y % 65536 < x % 65536) := by
  intro m
  induction m with
  | zero =>
    intro p a b c hp ha hb hc hl
    have h4 : 0 < 4 ^ (8 - p) := Nat.pow_pos (by omega)
    show (∀ y, y ∈ (if fin a b c then [dk_w a b c] else []) → _) ∧ (if fin a b c then [dk_w a b c] else []).Pairwise (fun x y => y % 65536 < x % 65536)
    split
    · refine ⟨fun y hy => ?_, by simp⟩
      simp at hy
      subst hy
      omega
    · exact ⟨fun y hy => by simp at hy, List.Pairwise.nil⟩
  | succ m ihm =>
    intro p a b c hp ha hb hc hl
    have e : 2 ^ (p + 1) = 2 ^ p + 2 ^ p := by rw [Nat.pow_succ]; omega
    have e4 : 4 ^ (8 - p) = 4 * 4 ^ (7 - p) := by rw [show 8 - p = (7 - p) + 1 by omega, Nat.pow_succ]; omega
    have e5 : 8 - (p + 1) = 7 - p := by omega
    have w0 : dk_w (a + 2 ^ p) b c = dk_w a b c + 65536 + 3 * 4 ^ (7 - p) := by
      unfold dk_w
      rw [dk_gw_add ha (by omega)]
      omega
    have w1 : dk_w a (b + 2 ^ p) c = dk_w a b c + 65536 + 2 * 4 ^ (7 - p) := by
      unfold dk_w
      rw [dk_gw_add hb (by omega)]
      omega
    have w2 : dk_w a b (c + 2 ^ p) = dk_w a b c + 65536 + 1 * 4 ^ (7 - p) := by
      unfold dk_w
      rw [dk_gw_add hc (by omega)]
      omega
    have t0 : 0 < 4 ^ (7 - p) := Nat.pow_pos (by omega)
    have m0 : (dk_w a b c + 65536 + 3 * 4 ^ (7 - p)) % 65536 = dk_w a b c % 65536 + 3 * 4 ^ (7 - p) := dk_m65 (by omega)
    have m1 : (dk_w a b c + 65536 + 2 * 4 ^ (7 - p)) % 65536 = dk_w a b c % 65536 + 2 * 4 ^ (7 - p) := dk_m65 (by omega)
    have m2 : (dk_w a b c + 65536 + 1 * 4 ^ (7 - p)) % 65536 = dk_w a b c % 65536 + 1 * 4 ^ (7 - p) := dk_m65 (by omega)
    have ih := ihm (p + 1)
    rw [e5] at ih
    have i0 := ih (a + 2 ^ p) b c (by omega) (by omega) (by omega) (by omega) (by rw [w0, m0]; omega)
    have i1 := ih a (b + 2 ^ p) c (by omega) (by omega) (by omega) (by omega) (by rw [w1, m1]; omega)
    have i2 := ih a b (c + 2 ^ p) (by omega) (by omega) (by omega) (by omega) (by rw [w2, m2]; omega)
    have i3 := ih a b c (by omega) (by omega) (by omega) (by omega) (by omega)
    rw [w0, m0] at i0
    rw [w1, m1] at i1
    rw [w2, m2] at i2
    have j0 : (∀ y, y ∈ (if up 0 (a + 2 ^ p) then dk_R up fin m (p + 1) (a + 2 ^ p) b c else []) → (dk_w a b c % 65536 + 3 * 4 ^ (7 - p)) ≤ y % 65536 ∧ y % 65536 < (dk_w a b c % 65536 + 3 * 4 ^ (7 - p)) + 4 ^ (7 - p)) ∧ (if up 0 (a + 2 ^ p) then dk_R up fin m (p + 1) (a + 2 ^ p) b c else []).Pairwise (fun x y => y % 65536 < x % 65536) := by
      split
      · exact i0
      · exact ⟨fun y hy => by simp at hy, List.Pairwise.nil⟩
    have j1 : (∀ y, y ∈ (if up 1 (b + 2 ^ p) then dk_R up fin m (p + 1) a (b + 2 ^ p) c else []) → (dk_w a b c % 65536 + 2 * 4 ^ (7 - p)) ≤ y % 65536 ∧ y % 65536 < (dk_w a b c % 65536 + 2 * 4 ^ (7 - p)) + 4 ^ (7 - p)) ∧ (if up 1 (b + 2 ^ p) then dk_R up fin m (p + 1) a (b + 2 ^ p) c else []).Pairwise (fun x y => y % 65536 < x % 65536) := by
      split
      · exact i1
      · exact ⟨fun y hy => by simp at hy, List.Pairwise.nil⟩
    have j2 : (∀ y, y ∈ (if up 2 (c + 2 ^ p) then dk_R up fin m (p + 1) a b (c + 2 ^ p) else []) → (dk_w a b c % 65536 + 1 * 4 ^ (7 - p)) ≤ y % 65536 ∧ y % 65536 < (dk_w a b c % 65536 + 1 * 4 ^ (7 - p)) + 4 ^ (7 - p)) ∧ (if up 2 (c + 2 ^ p) then dk_R up fin m (p + 1) a b (c + 2 ^ p) else []).Pairwise (fun x y => y % 65536 < x % 65536) := by
      split
      · exact i2
      · exact ⟨fun y hy => by simp at hy, List.Pairwise.nil⟩
    clear i0 i1 i2 w0 w1 w2 m0 m1 m2 ih
    show (∀ y, y ∈ (if up 0 (a + 2 ^ p) then dk_R up fin m (p + 1) (a + 2 ^ p) b c else []) ++ ((if up 1 (b + 2 ^ p) then dk_R up fin m (p + 1) a (b + 2 ^ p) c else []) ++ ((if up 2 (c + 2 ^ p) then dk_R up fin m (p + 1) a b (c + 2 ^ p) else []) ++ dk_R up fin m (p + 1) a b c)) → _) ∧ ((if up 0 (a + 2 ^ p) then dk_R up fin m (p + 1) (a + 2 ^ p) b c else []) ++ ((if up 1 (b + 2 ^ p) then dk_R up fin m (p + 1) a (b + 2 ^ p) c else []) ++ ((if up 2 (c + 2 ^ p) then dk_R up fin m (p + 1) a b (c + 2 ^ p) else []) ++ dk_R up fin m (p + 1) a b c))).Pairwise (fun x y => y % 65536 < x % 65536)
    generalize (if up 0 (a + 2 ^ p) then dk_R up fin m (p + 1) (a + 2 ^ p) b c else []) = L0 at j0
    generalize (if up 1 (b + 2 ^ p) then dk_R up fin m (p + 1) a (b + 2 ^ p) c else []) = L1 at j1
    generalize (if up 2 (c + 2 ^ p) then dk_R up fin m (p + 1) a b (c + 2 ^ p) else []) = L2 at j2
    generalize dk_R up fin m (p + 1) a b c = L3 at i3
    generalize 4 ^ (7 - p) = t at *
    rw [e4] at hl ⊢
    refine ⟨fun y hy => ?_, ?_⟩
    · rw [List.mem_append, List.mem_append, List.mem_append] at hy
      rcases hy with z | z | z | z
      · have := j0.1 y z; omega
      · have := j1.1 y z; omega
      · have := j2.1 y z; omega
      · have := i3.1 y z; omega
    · rw [List.pairwise_append, List.pairwise_append, List.pairwise_append]
      refine ⟨j0.2, ⟨j1.2, ⟨j2.2, i3.2, ?_⟩, ?_⟩, ?_⟩
      · intro x hx y hy
        have := j2.1 x hx
        have := i3.1 y hy
        omega
      · intro x hx y hy
        rw [List.mem_append] at hy
        have := j1.1 x hx
        rcases hy with z | z
        · have := j2.1 y z; omega
        · have := i3.1 y z; omega
      · intro x hx y hy
        rw [List.mem_append, List.mem_append] at hy
        have := j0.1 x hx
        rcases hy with z | z | z
        · have := j1.1 y z; omega
        · have := j2.1 y z; omega
        · have := i3.1 y z; omega
/-- what the reference keeps while it meets plans -/
def dk_fo : Option (Nat × Nat) → List Nat → Option (Nat × Nat)
  | s, [] => s
  | none, y :: ys => dk_fo (some (y, 1)) ys
  | some (b, k), y :: ys => dk_fo (if b / 65536 < y / 65536 then some (y, 1) else if b / 65536 = y / 65536 then some (b, k + 1) else some (b, k)) ys
theorem dk_fo_app : ∀ xs ys s, dk_fo s (xs ++ ys) = dk_fo (dk_fo s xs) ys
  | [], ys, s => by cases s <;> rfl
  | x :: xs, ys, none => by
    show dk_fo (some (x, 1)) (xs ++ ys) = dk_fo (dk_fo (some (x, 1)) xs) ys
    exact dk_fo_app xs ys _
  | x :: xs, ys, some (b, k) => by
    show dk_fo _ (xs ++ ys) = dk_fo (dk_fo _ xs) ys
    exact dk_fo_app xs ys _
theorem dk_fo_end : ∀ (ys X : List Nat), X ≠ [] → (X ++ ys).Pairwise (fun x y => y % 65536 < x % 65536) → dk_fo (some (dk_mxl X, dk_wy X)) ys = some (dk_mxl (X ++ ys), dk_wy (X ++ ys))
  | [], X, hX, _ => by rw [List.append_nil]; rfl
  | y :: ys, X, hX, h => by
    have hy : ∀ x, x ∈ X → y % 65536 < x % 65536 := fun x hx => by
      rw [List.pairwise_append] at h
      exact h.2.2 x hx y (by simp)
    have h0 : X ++ y :: ys = (X ++ [y]) ++ ys := by simp
    have hm := hy _ (dk_mxl_mem X hX)
    have hu := dk_wy_upd (X := X) (Y := [0]) (s := y) hX (by simp) (by intro z hz; simp at hz; subst hz; omega)
    have hmx : dk_mxl (X ++ [y]) = max (dk_mxl X) y := by rw [dk_mxl_app]; simp [dk_mxl]
    have e1 : [0].map (· + y) = [y] := by simp
    have e2 : dk_mxl [0] = 0 := rfl
    have e3 : dk_wy [0] = 1 := by decide
    rw [e1, e2, e3, Nat.add_zero] at hu
    have key : (if dk_mxl X / 65536 < y / 65536 then some (y, 1) else if dk_mxl X / 65536 = y / 65536 then some (dk_mxl X, dk_wy X + 1) else some (dk_mxl X, dk_wy X)) = some (dk_mxl (X ++ [y]), dk_wy (X ++ [y])) := by
      rw [hu, hmx]
      by_cases q1 : dk_mxl X / 65536 < y / 65536
      · rw [if_pos q1, if_pos q1, Nat.max_eq_right (by omega)]
      · rw [if_neg q1, if_neg q1]
        by_cases q2 : dk_mxl X / 65536 = y / 65536
        · rw [if_pos q2, if_pos q2, Nat.max_eq_left (by omega)]
        · rw [if_neg q2, if_neg q2, Nat.max_eq_left (by omega)]
    show dk_fo (if dk_mxl X / 65536 < y / 65536 then some (y, 1) else if dk_mxl X / 65536 = y / 65536 then some (dk_mxl X, dk_wy X + 1) else some (dk_mxl X, dk_wy X)) ys = _
    rw [key, h0]
    exact dk_fo_end ys (X ++ [y]) (by simp) (by rw [← h0]; exact h)
theorem dk_fo_all {R : List Nat} (hR : R ≠ []) (h : R.Pairwise (fun x y => y % 65536 < x % 65536)) : dk_fo none R = some (dk_mxl R, dk_wy R) := by
  match R, hR, h with
  | y :: ys, _, h =>
    have e : some (y, 1) = some (dk_mxl [y], dk_wy [y]) := by
      have : dk_wy [y] = 1 := by
        unfold dk_wy
        show (if y / 65536 = max y 0 / 65536 then 1 else 0) + 0 = 1
        rw [Nat.max_eq_left (by omega), if_pos rfl]
      rw [this]
      show some (y, 1) = some (max y 0, 1)
      rw [Nat.max_eq_left (by omega)]
    show dk_fo (some (y, 1)) ys = _
    rw [e]
    exact dk_fo_end ys [y] (by simp) h
