/-! plans of a day: sums over sets of people -/
def dk_ls (f : Nat → Nat) : List Nat → Nat
  | [] => 0
  | x :: xs => f x + dk_ls f xs
theorem dk_ls_app (f : Nat → Nat) : ∀ xs ys, dk_ls f (xs ++ ys) = dk_ls f xs + dk_ls f ys
  | [], ys => by simp [dk_ls]
  | x :: xs, ys => by
    show f x + dk_ls f (xs ++ ys) = f x + dk_ls f xs + dk_ls f ys
    rw [dk_ls_app f xs ys]
    omega
theorem dk_ls_map (f g : Nat → Nat) : ∀ xs, dk_ls f (xs.map g) = dk_ls (fun x => f (g x)) xs
  | [] => rfl
  | x :: xs => by
    show f (g x) + dk_ls f (xs.map g) = f (g x) + dk_ls (fun x => f (g x)) xs
    rw [dk_ls_map f g xs]
theorem dk_ls_congr {f g : Nat → Nat} : ∀ xs : List Nat, (∀ x, x ∈ xs → f x = g x) → dk_ls f xs = dk_ls g xs
  | [], _ => rfl
  | x :: xs, h => by
    show f x + dk_ls f xs = g x + dk_ls g xs
    rw [h x (by simp), dk_ls_congr xs (fun y hy => h y (by simp [hy]))]
theorem dk_ls_rev (f : Nat → Nat) : ∀ xs : List Nat, dk_ls f xs.reverse = dk_ls f xs
  | [] => rfl
  | x :: xs => by
    rw [List.reverse_cons, dk_ls_app, dk_ls_rev f xs]
    show dk_ls f xs + (f x + 0) = f x + dk_ls f xs
    omega
theorem dk_ls_add (f g : Nat → Nat) : ∀ xs, dk_ls (fun x => f x + g x) xs = dk_ls f xs + dk_ls g xs
  | [] => rfl
  | x :: xs => by
    show f x + g x + dk_ls (fun x => f x + g x) xs = f x + dk_ls f xs + (g x + dk_ls g xs)
    rw [dk_ls_add f g xs]
    omega
theorem dk_ls_flat (f : Nat → Nat) (h : Nat → List Nat) : ∀ xs : List Nat, dk_ls f (xs.flatMap h) = dk_ls (fun x => dk_ls f (h x)) xs
  | [] => rfl
  | x :: xs => by
    rw [List.flatMap_cons, dk_ls_app, dk_ls_flat f h xs]
    rfl
theorem dk_ls_0 : ∀ xs : List Nat, dk_ls (fun _ => 0) xs = 0
  | [] => rfl
  | x :: xs => by
    show 0 + dk_ls (fun _ => 0) xs = 0
    rw [dk_ls_0 xs]
theorem dk_ls_pos {f : Nat → Nat} : ∀ xs : List Nat, 0 < dk_ls f xs → ∃ x, x ∈ xs ∧ 0 < f x
  | [], h => absurd h (by simp [dk_ls])
  | x :: xs, h => by
    by_cases q : 0 < f x
    · exact ⟨x, by simp, q⟩
    · have : 0 < dk_ls f xs := by
        have h2 : 0 < f x + dk_ls f xs := h
        omega
      obtain ⟨y, h1, h2⟩ := dk_ls_pos xs this
      exact ⟨y, by simp [h1], h2⟩
theorem dk_ls_mem {f : Nat → Nat} {x : Nat} : ∀ xs : List Nat, x ∈ xs → f x ≤ dk_ls f xs
  | [], h => absurd h (by simp)
  | y :: xs, h => by
    show f x ≤ f y + dk_ls f xs
    rcases List.mem_cons.mp h with rfl | q
    · omega
    · have := dk_ls_mem (f := f) xs q
      omega
def dk_df (s g : Nat) : Nat := s &&& (g ^^^ 4294967295)
def dk_enF : Nat → Nat → Nat → List Nat
  | 0, _, _ => []
  | m + 1, S, g => if g = 0 then [] else g :: dk_enF m S ((g - 1) &&& S)
def dk_en (S : Nat) : List Nat := dk_enF 256 S S
def dk_sl : Nat → Nat → List Nat
  | 0, _ => [0]
  | k + 1, S => dk_sl k S ++ (if S.testBit k then (dk_sl k S).map (· + 2 ^ k) else [])
theorem dk_en_sl : ∀ S, S < 256 → dk_en S ++ [0] = (dk_sl 8 S).reverse := by decide +kernel
theorem dk_sl_lt : ∀ k S g, g ∈ dk_sl k S → g < 2 ^ k
  | 0, S, g, h => by simp [dk_sl] at h; omega
  | k + 1, S, g, h => by
    unfold dk_sl at h
    rw [List.mem_append] at h
    have e : 2 ^ (k + 1) = 2 ^ k + 2 ^ k := by rw [Nat.pow_succ]; omega
    rcases h with h | h
    · have := dk_sl_lt k S g h
      omega
    · by_cases q : S.testBit k
      · rw [if_pos q, List.mem_map] at h
        obtain ⟨a, h1, h2⟩ := h
        have := dk_sl_lt k S a h1
        omega
      · rw [if_neg q] at h; simp at h
theorem dk_sl_congr : ∀ k S T, (∀ i, i < k → S.testBit i = T.testBit i) → dk_sl k S = dk_sl k T
  | 0, S, T, _ => rfl
  | k + 1, S, T, h => by
    unfold dk_sl
    rw [dk_sl_congr k S T (fun i hi => h i (by omega)), h k (by omega)]
theorem dk_ls_sl {f : Nat → Nat} {k S : Nat} : dk_ls f (dk_sl (k + 1) S) = dk_ls f (dk_sl k S) + (if S.testBit k then dk_ls (fun g => f (g + 2 ^ k)) (dk_sl k S) else 0) := by
  show dk_ls f (dk_sl k S ++ (if S.testBit k then (dk_sl k S).map (· + 2 ^ k) else [])) = _
  rw [dk_ls_app]
  split
  · rw [dk_ls_map]
  · rfl
theorem dk_tb_add {g k : Nat} (h : g < 2 ^ k) (i : Nat) : (g + 2 ^ k).testBit i = (g.testBit i || decide (i = k)) := by
  rw [show g + 2 ^ k = 2 ^ k * 1 + g by omega, Nat.two_pow_add_eq_or_of_lt h, Nat.mul_one, Nat.testBit_or, Nat.testBit_two_pow, Bool.or_comm]
  congr 1
  rw [decide_eq_decide]
  omega
theorem dk_df_tb (s g i : Nat) (hi : i < 32) : (dk_df s g).testBit i = (s.testBit i && !g.testBit i) := by
  unfold dk_df
  rw [Nat.testBit_and, Nat.testBit_xor]
  have : (4294967295 : Nat).testBit i = true := by
    rw [show (4294967295 : Nat) = 2 ^ 32 - 1 from rfl, Nat.testBit_two_pow_sub_one]
    simp [hi]
  rw [this]
  cases s.testBit i <;> cases g.testBit i <;> rfl
/-- three sets apart from each other -/
def dk_tri : Nat → Nat → (Nat → Nat → Nat → Nat) → Nat
  | 0, _, f => f 0 0 0
  | k + 1, C, f => dk_tri k C f + (if C.testBit k then dk_tri k C (fun a b c => f (a + 2 ^ k) b c) + dk_tri k C (fun a b c => f a (b + 2 ^ k) c) + dk_tri k C (fun a b c => f a b (c + 2 ^ k)) else 0)
theorem dk_tri_s (k C : Nat) (f : Nat → Nat → Nat → Nat) : dk_tri (k + 1) C f = dk_tri k C f + (if C.testBit k then dk_tri k C (fun a b c => f (a + 2 ^ k) b c) + dk_tri k C (fun a b c => f a (b + 2 ^ k) c) + dk_tri k C (fun a b c => f a b (c + 2 ^ k)) else 0) := rfl
theorem dk_tri_add : ∀ k C (f g : Nat → Nat → Nat → Nat), dk_tri k C (fun a b c => f a b c + g a b c) = dk_tri k C f + dk_tri k C g
  | 0, C, f, g => rfl
  | k + 1, C, f, g => by
    rw [dk_tri_s, dk_tri_s, dk_tri_s, dk_tri_add k C f g]
    split
    · rw [dk_tri_add k C (fun a b c => f (a + 2 ^ k) b c) (fun a b c => g (a + 2 ^ k) b c), dk_tri_add k C (fun a b c => f a (b + 2 ^ k) c) (fun a b c => g a (b + 2 ^ k) c), dk_tri_add k C (fun a b c => f a b (c + 2 ^ k)) (fun a b c => g a b (c + 2 ^ k))]
      omega
    · omega
theorem dk_tri_congr : ∀ k C (f g : Nat → Nat → Nat → Nat), (∀ a b c, a < 2 ^ k → b < 2 ^ k → c < 2 ^ k → f a b c = g a b c) → dk_tri k C f = dk_tri k C g
  | 0, C, f, g, h => h 0 0 0 (by omega) (by omega) (by omega)
  | k + 1, C, f, g, h => by
    have e : 2 ^ (k + 1) = 2 ^ k + 2 ^ k := by rw [Nat.pow_succ]; omega
    rw [dk_tri_s, dk_tri_s, dk_tri_congr k C f g (fun a b c ha hb hc => h a b c (by omega) (by omega) (by omega)), dk_tri_congr k C (fun a b c => f (a + 2 ^ k) b c) (fun a b c => g (a + 2 ^ k) b c) (fun a b c ha hb hc => h _ b c (by omega) (by omega) (by omega)), dk_tri_congr k C (fun a b c => f a (b + 2 ^ k) c) (fun a b c => g a (b + 2 ^ k) c) (fun a b c ha hb hc => h a _ c (by omega) (by omega) (by omega)), dk_tri_congr k C (fun a b c => f a b (c + 2 ^ k)) (fun a b c => g a b (c + 2 ^ k)) (fun a b c ha hb hc => h a b _ (by omega) (by omega) (by omega))]
theorem dk_bk {g k : Nat} (h : g < 2 ^ k) : g.testBit k = false := Nat.testBit_lt_two_pow h
theorem dk_tri0 (k C : Nat) : dk_tri k C (fun _ _ _ => 0) = 0 := by
  induction k with
  | zero => rfl
  | succ k ihk => rw [dk_tri_s, ihk]; split <;> rfl
theorem dk_tri_sw {f : Nat → Nat → Nat → Nat} (k C D : Nat) (h : ∀ i, i < k → C.testBit i = D.testBit i) : dk_tri k C f = dk_tri k D f := by
  induction k generalizing f with
  | zero => rfl
  | succ k ih =>
    rw [dk_tri_s, dk_tri_s, h k (by omega), ih (fun i hi => h i (by omega)), ih (fun i hi => h i (by omega)), ih (fun i hi => h i (by omega)), ih (fun i hi => h i (by omega))]
theorem dk_three {f : Nat → Nat → Nat → Nat} : ∀ k C, k ≤ 31 → dk_ls (fun a => dk_ls (fun b => dk_ls (fun c => f a b c) (dk_sl k (dk_df (dk_df C a) b))) (dk_sl k (dk_df C a))) (dk_sl k C) = dk_tri k C f
  | 0, C, _ => by
    show ((f 0 0 0 + 0) + 0) + 0 = f 0 0 0
    omega
  | k + 1, C, hk => by
    have ih := fun (f : Nat → Nat → Nat → Nat) => dk_three (f := f) k C (by omega)
    have hdf : ∀ C b, b < 2 ^ k → (dk_df C b).testBit k = C.testBit k := fun C b hb => by rw [dk_df_tb _ _ _ (by omega), dk_bk hb]; simp
    have hdf2 : ∀ C b, b < 2 ^ k → (dk_df C (b + 2 ^ k)).testBit k = false := fun C b hb => by rw [dk_df_tb _ _ _ (by omega), dk_tb_add hb]; simp
    have hsm : ∀ C b, b < 2 ^ k → ∀ i, i < k → (dk_df C (b + 2 ^ k)).testBit i = (dk_df C b).testBit i := fun C b hb i hi => by rw [dk_df_tb _ _ _ (by omega), dk_df_tb _ _ _ (by omega), dk_tb_add hb, decide_eq_false (by omega), Bool.or_false]
    have hsm2 : ∀ C b c, b < 2 ^ k → ∀ i, i < k → (dk_df (dk_df C (b + 2 ^ k)) c).testBit i = (dk_df (dk_df C b) c).testBit i := fun C b c hb i hi => by rw [dk_df_tb (dk_df C (b + 2 ^ k)) c i (by omega), dk_df_tb (dk_df C b) c i (by omega), hsm C b hb i hi]
    -- the two inner sums, for a below 2^k
    have inn : ∀ (g : Nat → Nat → Nat) (S : Nat), dk_ls (fun b => dk_ls (fun c => g b c) (dk_sl (k + 1) (dk_df S b))) (dk_sl (k + 1) S) = dk_ls (fun b => dk_ls (fun c => g b c) (dk_sl k (dk_df S b))) (dk_sl k S) + (if S.testBit k then dk_ls (fun b => dk_ls (fun c => g (b + 2 ^ k) c) (dk_sl k (dk_df S b))) (dk_sl k S) + dk_ls (fun b => dk_ls (fun c => g b (c + 2 ^ k)) (dk_sl k (dk_df S b))) (dk_sl k S) else 0) := by
      intro g S
      rw [dk_ls_sl]
      have e1 : dk_ls (fun b => dk_ls (fun c => g b c) (dk_sl (k + 1) (dk_df S b))) (dk_sl k S) = dk_ls (fun b => dk_ls (fun c => g b c) (dk_sl k (dk_df S b))) (dk_sl k S) + (if S.testBit k then dk_ls (fun b => dk_ls (fun c => g b (c + 2 ^ k)) (dk_sl k (dk_df S b))) (dk_sl k S) else 0) := by
        have : dk_ls (fun b => dk_ls (fun c => g b c) (dk_sl (k + 1) (dk_df S b))) (dk_sl k S) = dk_ls (fun b => dk_ls (fun c => g b c) (dk_sl k (dk_df S b)) + (if S.testBit k then dk_ls (fun c => g b (c + 2 ^ k)) (dk_sl k (dk_df S b)) else 0)) (dk_sl k S) := by
          apply dk_ls_congr
          intro b hb
          rw [dk_ls_sl, hdf S b (dk_sl_lt k S b hb)]
        rw [this, dk_ls_add]
        congr 1
        split
        · rfl
        · exact dk_ls_0 _
      rw [e1]
      by_cases q : S.testBit k
      · rw [if_pos q, if_pos q, if_pos q]
        have e2 : dk_ls (fun b => dk_ls (fun c => g (b + 2 ^ k) c) (dk_sl (k + 1) (dk_df S (b + 2 ^ k)))) (dk_sl k S) = dk_ls (fun b => dk_ls (fun c => g (b + 2 ^ k) c) (dk_sl k (dk_df S b))) (dk_sl k S) := by
          apply dk_ls_congr
          intro b hb
          have hb2 := dk_sl_lt k S b hb
          rw [dk_ls_sl, hdf2 S b hb2, dk_sl_congr k _ _ (hsm S b hb2)]
          rfl
        rw [e2]
        omega
      · rw [if_neg q, if_neg q, if_neg q]
    rw [dk_ls_sl]
    have e1 : dk_ls (fun a => dk_ls (fun b => dk_ls (fun c => f a b c) (dk_sl (k + 1) (dk_df (dk_df C a) b))) (dk_sl (k + 1) (dk_df C a))) (dk_sl k C) = dk_tri k C f + (if C.testBit k then dk_tri k C (fun a b c => f a (b + 2 ^ k) c) + dk_tri k C (fun a b c => f a b (c + 2 ^ k)) else 0) := by
      rw [← ih f, ← ih (fun a b c => f a (b + 2 ^ k) c), ← ih (fun a b c => f a b (c + 2 ^ k)), ← dk_ls_add]
      have : (if C.testBit k then dk_ls (fun x => dk_ls (fun b => dk_ls (fun c => f x (b + 2 ^ k) c) (dk_sl k (dk_df (dk_df C x) b))) (dk_sl k (dk_df C x)) + dk_ls (fun b => dk_ls (fun c => f x b (c + 2 ^ k)) (dk_sl k (dk_df (dk_df C x) b))) (dk_sl k (dk_df C x))) (dk_sl k C) else 0) = dk_ls (fun x => if C.testBit k then dk_ls (fun b => dk_ls (fun c => f x (b + 2 ^ k) c) (dk_sl k (dk_df (dk_df C x) b))) (dk_sl k (dk_df C x)) + dk_ls (fun b => dk_ls (fun c => f x b (c + 2 ^ k)) (dk_sl k (dk_df (dk_df C x) b))) (dk_sl k (dk_df C x)) else 0) (dk_sl k C) := by
        split
        · rfl
        · exact (dk_ls_0 _).symm
      rw [this, ← dk_ls_add]
      apply dk_ls_congr
      intro a ha
      rw [inn (f a) (dk_df C a), hdf C a (dk_sl_lt k C a ha)]
    rw [e1]
    rw [dk_tri_s]
    by_cases q : C.testBit k
    · rw [if_pos q, if_pos q, if_pos q]
      have e2 : dk_ls (fun a => dk_ls (fun b => dk_ls (fun c => f (a + 2 ^ k) b c) (dk_sl (k + 1) (dk_df (dk_df C (a + 2 ^ k)) b))) (dk_sl (k + 1) (dk_df C (a + 2 ^ k)))) (dk_sl k C) = dk_tri k C (fun a b c => f (a + 2 ^ k) b c) := by
        rw [← ih (fun a b c => f (a + 2 ^ k) b c)]
        apply dk_ls_congr
        intro a ha
        have ha2 := dk_sl_lt k C a ha
        rw [inn (f (a + 2 ^ k)) (dk_df C (a + 2 ^ k)), hdf2 C a ha2, dk_sl_congr k _ _ (hsm C a ha2)]
        simp only [Bool.false_eq_true, if_false, Nat.add_zero]
        apply dk_ls_congr
        intro b _
        rw [dk_sl_congr k _ _ (hsm2 C a b ha2)]
      rw [e2]
      omega
    · rw [if_neg q, if_neg q, if_neg q]
