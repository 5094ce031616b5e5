/-! the pure memory as cells of the heap -/
def hd_cv (ad : Nat → Nat) (v : Value) : Value := match v with
  | .ref k => .ref (ad k)
  | v => v
def hd_fl (ad : Nat → Nat) (row : Nat → Int32) : Nat → List (Option Nat) → List Value
  | _, [] => []
  | j, none :: t => .int (row j) :: hd_fl ad row (j + 1) t
  | j, some k :: t => .ref (ad k) :: hd_fl ad row (j + 1) t
theorem hd_fl_int {ad : Nat → Nat} {row : Nat → Int32} : ∀ (fl : List (Option Nat)) (j i : Nat), fl[i]? = some none → (hd_fl ad row j fl)[i]? = some (.int (row (j + i)))
  | [], _, _, h => by simp at h
  | none :: t, j, 0, _ => by simp [hd_fl]
  | some k :: t, j, 0, h => by simp at h
  | none :: t, j, i + 1, h => by
    have := hd_fl_int (ad := ad) (row := row) t (j + 1) i (by simpa using h)
    simp only [hd_fl, List.getElem?_cons_succ, this]
    congr 3; omega
  | some k :: t, j, i + 1, h => by
    have := hd_fl_int (ad := ad) (row := row) t (j + 1) i (by simpa using h)
    simp only [hd_fl, List.getElem?_cons_succ, this]
    congr 3; omega
theorem hd_fl_ref {ad : Nat → Nat} {row : Nat → Int32} : ∀ (fl : List (Option Nat)) (j i k : Nat), fl[i]? = some (some k) → (hd_fl ad row j fl)[i]? = some (.ref (ad k))
  | [], _, _, _, h => by simp at h
  | none :: t, j, 0, _, h => by simp at h
  | some k :: t, j, 0, _, h => by simp at h; subst h; simp [hd_fl]
  | none :: t, j, i + 1, k, h => by
    have := hd_fl_ref (ad := ad) (row := row) t (j + 1) i k (by simpa using h)
    simp only [hd_fl, List.getElem?_cons_succ, this]
  | some k' :: t, j, i + 1, k, h => by
    have := hd_fl_ref (ad := ad) (row := row) t (j + 1) i k (by simpa using h)
    simp only [hd_fl, List.getElem?_cons_succ, this]
theorem hd_fl_congr {ad : Nat → Nat} {row row' : Nat → Int32} : ∀ (fl : List (Option Nat)) (j : Nat), (∀ i, j ≤ i → row i = row' i) → hd_fl ad row j fl = hd_fl ad row' j fl
  | [], _, _ => rfl
  | none :: t, j, h => by simp only [hd_fl]; rw [h j (Nat.le_refl _), hd_fl_congr t (j + 1) (fun i hi => h i (by omega))]
  | some k :: t, j, h => by simp only [hd_fl]; rw [hd_fl_congr t (j + 1) (fun i hi => h i (by omega))]
theorem hd_fl_set {ad : Nat → Nat} {x : Int32} : ∀ (fl : List (Option Nat)) (row : Nat → Int32) (j i : Nat), fl[i]? = some none → (hd_fl ad row j fl).set i (.int x) = hd_fl ad (upd row (j + i) x) j fl
  | [], _, _, _, h => by simp at h
  | none :: t, row, j, 0, _ => by
    simp only [hd_fl, List.set_cons_zero, Nat.add_zero]
    rw [hd_fl_congr (row := upd row j x) (row' := row) t (j + 1) (fun i hi => by simp [upd]; omega)]
    simp [upd]
  | some k :: t, row, j, 0, h => by simp at h
  | none :: t, row, j, i + 1, h => by
    simp only [hd_fl, List.set_cons_succ]
    rw [hd_fl_set t row (j + 1) i (by simpa using h), show j + 1 + i = j + (i + 1) by omega]
    congr 2
    simp [upd]
  | some k :: t, row, j, i + 1, h => by
    simp only [hd_fl, List.set_cons_succ]
    rw [hd_fl_set t row (j + 1) i (by simpa using h), show j + 1 + i = j + (i + 1) by omega]
theorem hd_fl_len {ad : Nat → Nat} {row : Nat → Int32} : ∀ (fl : List (Option Nat)) (j : Nat), (hd_fl ad row j fl).length = fl.length
  | [], _ => rfl
  | none :: t, j => by simp [hd_fl, hd_fl_len t (j + 1)]
  | some k :: t, j => by simp [hd_fl, hd_fl_len t (j + 1)]
/-- what the cell k is, by its kind -/
def hd_ent (cI cZ cA : ClassId) (ad : Nat → Nat) (row : Nat → Int32) (sh : hd_Shp) : va_E := match sh with
  | .inl o => .inr (o.1, hd_fl ad row 0 o.2)
  | .inr (.inl n) => .inl (cI, n, .inl row)
  | .inr (.inr (.inl n)) => .inl (cZ, n, .inl row)
  | .inr (.inr (.inr q)) => .inl (cA, q.1, .inr (.inr (.inr (.inr (fun i => some (ad (q.2 + i)))))))
def hd_ws (cI cZ cA : ClassId) (ad : Nat → Nat) (M : hd_Mem) : va_W := (List.range 78).map fun k => (ad k, hd_ent cI cZ cA ad (M k) (hd_lay k))
theorem hd_ws_at {cI cZ cA : ClassId} {ad : Nat → Nat} {M : hd_Mem} {k : Nat} (h : k < 78) : (hd_ws cI cZ cA ad M)[k]? = some (ad k, hd_ent cI cZ cA ad (M k) (hd_lay k)) := by
  simp [hd_ws, List.getElem?_map, List.getElem?_range h]
theorem hd_ws_none {cI cZ cA : ClassId} {ad : Nat → Nat} {M : hd_Mem} {k : Nat} (h : ¬ k < 78) : (hd_ws cI cZ cA ad M)[k]? = none := by
  simp [hd_ws]; omega
theorem hd_ws_inv {cI cZ cA : ClassId} {ad : Nat → Nat} {M : hd_Mem} {k : Nat} {q : Nat × va_E} (h : (hd_ws cI cZ cA ad M)[k]? = some q) : k < 78 ∧ q = (ad k, hd_ent cI cZ cA ad (M k) (hd_lay k)) := by
  by_cases hk : k < 78
  · rw [hd_ws_at hk] at h
    exact ⟨hk, (Option.some.inj h).symm⟩
  · rw [hd_ws_none hk] at h
    cases h
theorem hd_ws_set {cI cZ cA : ClassId} {ad : Nat → Nat} {M M' : hd_Mem} {k : Nat} (h : k < 78) (ho : ∀ j, j ≠ k → M' j = M j) {e : va_E} (he : e = hd_ent cI cZ cA ad (M' k) (hd_lay k)) : (hd_ws cI cZ cA ad M).set k (ad k, e) = hd_ws cI cZ cA ad M' := by
  subst he
  apply List.ext_getElem?
  intro i
  by_cases hi : i < 78
  · by_cases hk : i = k
    · subst hk
      rw [List.getElem?_set_self (by simp [hd_ws]; omega), hd_ws_at hi]
    · rw [List.getElem?_set_ne (Ne.symm hk), hd_ws_at hi, hd_ws_at hi, ho i hk]
  · rw [hd_ws_none hi, List.getElem?_set]
    split
    · omega
    · exact hd_ws_none hi
theorem hd_D {cI cZ cA : ClassId} {ad : Nat → Nat} {M : hd_Mem} {A : Nat → Prop} (hi : ∀ i j, i < 78 → j < 78 → ad i = ad j → i = j) (hA : ∀ k, k < 78 → A (ad k)) : va_D A (hd_ws cI cZ cA ad M) := by
  refine ⟨fun i j p q h1 h2 h3 => ?_, fun k q h => ?_⟩
  · obtain ⟨a1, rfl⟩ := hd_ws_inv h1
    obtain ⟨a2, rfl⟩ := hd_ws_inv h2
    exact hi i j a1 a2 h3
  · obtain ⟨a1, rfl⟩ := hd_ws_inv h
    exact hA k a1
theorem hd_set_ne {M : hd_Mem} {k j i : Nat} {x : Int32} (h : j ≠ k) : hd_set M k i x j = M j := by
  funext b; simp [hd_set, h]
theorem hd_set_eq {M : hd_Mem} {k i : Nat} {x : Int32} : hd_set M k i x k = upd (M k) i x := by
  funext b; simp [hd_set, upd]
theorem hd_cpy_ne {M : hd_Mem} {k t sp dp n j : Nat} (h : j ≠ t) : hd_cpy M k t sp dp n j = M j := by
  funext b; simp [hd_cpy, h]
theorem hd_cpy_eq {M : hd_Mem} {k t sp dp n : Nat} : hd_cpy M k t sp dp n t = va_cpy (M k) (M t) sp dp n := by
  funext b; simp [hd_cpy, va_cpy]
/-- the locals -/
def hd_has (ad : Nat → Nat) (ls : Array Slot) (nL : Nat) (L : List Value) : Prop := ls.size = nL ∧ L.length = nL ∧ lv_wf ls ∧ ∀ (i : Nat) (v : Value), L[i]? = some v → v = .null ∨ (hd_cat1 v = true ∧ ls[i]? = some (.val (hd_cv ad v)))
def hd_lv (ad : Nat → Nat) (L : List Value) : List (Nat × Value) := (List.range L.length).filterMap fun i => match L[i]? with
  | some v => if v = .null then none else some (i, hd_cv ad v)
  | none => none
theorem hd_lv_mem {ad : Nat → Nat} {L : List Value} {q : Nat × Value} : q ∈ hd_lv ad L ↔ ∃ (i : Nat) (v : Value), L[i]? = some v ∧ v ≠ .null ∧ q = (i, hd_cv ad v) := by
  unfold hd_lv
  rw [List.mem_filterMap]
  constructor
  · rintro ⟨i, -, h⟩
    cases hv : L[i]? with
    | none => rw [hv] at h; cases h
    | some v =>
      rw [hv] at h
      by_cases hn : v = .null
      · simp [hn] at h
      · simp only [hn, if_false] at h
        exact ⟨i, v, hv, hn, (Option.some.inj h).symm⟩
  · rintro ⟨i, v, hv, hn, rfl⟩
    refine ⟨i, List.mem_range.mpr (List.getElem?_eq_some_iff.mp hv).1, ?_⟩
    rw [hv]
    simp [hn]
theorem hd_has_lv {ad : Nat → Nat} {ls : Array Slot} {nL : Nat} {L : List Value} (h : hd_has ad ls nL L) : lv_has ls nL (hd_lv ad L) := by
  refine ⟨h.1, h.2.2.1, fun q hq => ?_⟩
  obtain ⟨i, v, hv, hn, rfl⟩ := hd_lv_mem.mp hq
  rcases h.2.2.2 i v hv with h1 | h1
  · exact absurd h1 hn
  · exact h1.2
theorem hd_has_st {ad : Nat → Nat} {ls ls' : Array Slot} {nL i : Nat} {L : List Value} {x : Int32} (h : hd_has ad ls nL L) (hi : i < L.length) (h' : lv_has ls' nL ((i, Value.int x) :: (hd_lv ad L).filter (fun q => !(q.1 == i) && !(q.1 + 1 == i && q.2.category == 2)))) : hd_has ad ls' nL (L.set i (.int x)) := by
  refine ⟨h'.1, by simp [h.2.1], h'.2.1, fun j v hj => ?_⟩
  by_cases hij : j = i
  · subst hij
    rw [List.getElem?_set_self hi] at hj
    cases hj
    exact Or.inr ⟨rfl, h'.2.2 (j, .int x) List.mem_cons_self⟩
  · rw [List.getElem?_set_ne (Ne.symm hij)] at hj
    rcases h.2.2.2 j v hj with h1 | h1
    · exact Or.inl h1
    · refine Or.inr ⟨h1.1, h'.2.2 (j, hd_cv ad v) (List.mem_cons_of_mem _ (List.mem_filter.mpr ⟨hd_lv_mem.mpr ⟨j, v, hj, ?_, rfl⟩, ?_⟩))⟩
      · rintro rfl; cases h1.1
      · have hc : (hd_cv ad v).category = 1 := by
          revert h1; cases v <;> simp [hd_cat1, hd_cv, Value.category]
        simp [hij, hc]
theorem hd_has_int {ad : Nat → Nat} {ls : Array Slot} {nL i : Nat} {L : List Value} {x : Int32} (h : hd_has ad ls nL L) (hi : L[i]? = some (.int x)) : ls[i]? = some (.val (.int x)) := by
  rcases h.2.2.2 i _ hi with h1 | h1
  · cases h1
  · exact h1.2
theorem hd_has_ref {ad : Nat → Nat} {ls : Array Slot} {nL i : Nat} {L : List Value} {x : Nat} (h : hd_has ad ls nL L) (hi : L[i]? = some (.ref x)) : ls[i]? = some (.val (.ref (ad x))) := by
  rcases h.2.2.2 i _ hi with h1 | h1
  · cases h1
  · exact h1.2
theorem hd_in_vp {i : Int32} {n : Nat} (h : hd_in i n) : vp_in i n := vp_in_iff.mpr h
/-- the locals at a method's entry -/
theorem hd_args_at : ∀ (vs : List Value) (j : Nat), (∀ v ∈ vs, v.category = 1) → ∀ (i : Nat) (v : Value), vs[i]? = some v → (j + i, v) ∈ lv_args j vs
  | [], _, _, i, v, h => by simp at h
  | w :: vs, j, hc, 0, v, h => by
    simp at h; subst h; simp [lv_args]
  | w :: vs, j, hc, i + 1, v, h => by
    have h1 : w.category = 1 := hc w List.mem_cons_self
    have h2 := hd_args_at vs (j + 1) (fun v hv => hc v (List.mem_cons_of_mem _ hv)) i v (by simpa using h)
    simp only [lv_args, h1, List.mem_cons]
    right
    simp only [show ¬ (1 : Nat) = 2 by decide, if_false]
    rw [show j + (i + 1) = j + 1 + i by omega]
    exact h2
theorem hd_sl_len : ∀ (vs : List Value), (∀ v ∈ vs, v.category = 1) → (lg_sl vs).length = vs.length
  | [], _ => rfl
  | w :: vs, h => by
    have h1 : w.category = 1 := h w List.mem_cons_self
    have h2 := hd_sl_len vs (fun v hv => h v (List.mem_cons_of_mem _ hv))
    simp only [lg_sl, List.flatMap_cons, h1] at h2 ⊢
    simp only [show ¬ (1 : Nat) = 2 by decide, if_false, List.length_append, List.length_cons, List.length_nil]
    rw [h2]; omega
theorem hd_cv_cat {ad : Nat → Nat} {v : Value} (h : hd_cat1 v = true) : (hd_cv ad v).category = 1 := by
  revert h; cases v <;> simp [hd_cat1, hd_cv, Value.category]
theorem hd_has_entry {ad : Nat → Nat} {y : Nat} {as : List Value} (hc : ∀ v ∈ as, hd_cat1 v = true) (hn : as.length ≤ hd_mx y) : hd_has ad ((lg_sl (as.map (hd_cv ad)) ++ List.replicate (hd_mx y - (lg_sl (as.map (hd_cv ad))).length) Slot.unset).toArray) (hd_mx y) (hd_entry y as) := by
  have hcat : ∀ v ∈ as.map (hd_cv ad), v.category = 1 := fun v hv => by
    obtain ⟨w, h1, rfl⟩ := List.mem_map.mp hv
    exact hd_cv_cat (hc w h1)
  have hlen := hd_sl_len _ hcat
  rw [List.length_map] at hlen
  have h := lv_entry (as.map (hd_cv ad)) (n := hd_mx y) (by omega)
  refine ⟨h.1, by simp [hd_entry]; omega, h.2.1, fun i v hi => ?_⟩
  unfold hd_entry at hi
  by_cases hil : i < as.length
  · rw [List.getElem?_append_left hil] at hi
    have hm : (0 + i, hd_cv ad v) ∈ lv_args 0 (as.map (hd_cv ad)) := hd_args_at _ 0 hcat i _ (by rw [List.getElem?_map, hi]; rfl)
    rw [Nat.zero_add] at hm
    exact Or.inr ⟨hc v (List.mem_of_getElem? hi), h.2.2 _ hm⟩
  · rw [List.getElem?_append_right (by omega)] at hi
    have := List.eq_of_mem_replicate (List.mem_of_getElem? hi)
    exact Or.inl this
