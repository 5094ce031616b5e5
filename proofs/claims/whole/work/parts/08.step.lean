/-! one step of the pure machine is one of the real -/
set_option maxHeartbeats 4000000 in
theorem hd_aald {p : Program} {l : Launch} {e : Env} {R : Room} {s : State} {m : MethodId} {args : Array Value} {below : List Frame} {meth : Method} {c : Code} {H : Heap} {locs : List Loc} {cells slots : Nat} {Q : State → Prop} {cc : ByteArray} {pc a : Nat} {ls : Array Slot} {rest : List Value} {D : va_G} {cl : List vw_C} {tys : List (ClassId × FieldType)} {ws : va_W} (hexec : p.tables.exec = Jvm.exec) (hb : c.code = cc) (hK : va_K D cl tys s) (hP : va_P D cl ws H) (q0 t0 : Nat) {cA : ClassId} {n : Nat} {f : Nat → Option Nat} (ha : ws[q0]? = some (a, .inl (cA, n, .inr (.inr (.inr (.inr f)))))) (ht : tys[t0]? = some (cA, .array .int)) {i : Int32} (hin : vp_in i n) (hdg : decode cc pc = .ok (.aaload, 1))
    (kk : W p l e R s m args below meth c H locs cells slots Q (F0 m (pc + 1) ls (va_rf (f i.toNatClampNeg) :: rest))) : W p l e R s m args below meth c H locs cells slots Q (F0 m pc ls (.int i :: .ref a :: rest)) := by
  have hlt : i.toNatClampNeg < n := Nat.not_le.mp fun q => hin (Or.inr q)
  exact W.aald (v := va_rf (f i.toNatClampNeg)) (ty := .array .int) hexec hb (hP q0 _ ha) ((hK.2 t0 _ ht).1 n (fun j => va_rf (f j))) rfl (fun q => by cases q) (by show ¬ (i < 0 ∨ (arrV _ _ _).slots.size ≤ _); rw [arrV_size]; exact hin) (by show (arrV _ _ _).slots[_]? = _; rw [arrV_read _ _ hlt]) rfl rfl hdg kk
theorem hd_zn {x : Int32} (h : x = 0 ∨ x = 1) : vp_nar .boolean x = x := by rcases h with rfl | rfl <;> rfl
theorem hd_zn2 {x : Int32} (h : x = 0 ∨ x = 1) : narrow .boolean (.int x) = .int x := by rcases h with rfl | rfl <;> rfl
theorem hd_clamp {x : Int32} (h : 0 ≤ x.toInt) : (x.toNatClampNeg : Int) = x.toInt := by
  have : x.toNatClampNeg = x.toInt.toNat := rfl
  rw [this]; omega
theorem hd_nlt {x : Int32} (h : 0 ≤ x.toInt) : ¬ x < 0 := by
  rw [Int32.lt_iff_toInt_lt]
  show ¬ x.toInt < 0
  omega
theorem hd_own_c : ∀ ci, ci < 9 → (hd_c ci).1 = hd_own ci := by decide +kernel
set_option maxHeartbeats 16000000 in
set_option maxRecDepth 100000 in
theorem hd_step {l : Launch} {D : va_G} {cI cZ cA : ClassId} {ad : Nat → Nat} {Ls : Nat} {xs : Nat → Int32} {n : Nat} (hinj : ∀ i j, i < 78 → j < 78 → ad i = ad j → i = j) (h1 : hd_S1 l D cI cZ cA ad Ls xs n) (h2 : hd_S2 l D cI cZ cA ad Ls xs n) : hd_S1 l D cI cZ cA ad Ls xs (n + 1) := by
  intro p e R s m args below meth c y A cells slots Qf Q hC kret st H locs ls hEv hxs hks hP hS hl
  obtain ⟨it, r, C, hf, ha, hc, hr⟩ := hEv
  obtain ⟨pc, L, sk, M⟩ := st
  obtain ⟨i, k9, hdec, hlen, hres⟩ := hd_fetch_spec hf
  obtain ⟨i', n', r1, r2, r3, kc⟩ := it
  have hCC := hC
  obtain ⟨hx, hb, hml, hown, hts, hK, hro, hA, hfr, hlo, hcl, hsl⟩ := hCC
  have hD : ∀ M : hd_Mem, va_D A (hd_ws cI cZ cA ad M) := fun M => hd_D hinj hA
  have go : ∀ (s' : hd_S) (H' : Heap) (locs' : List Loc) (ls' : Array Slot), hd_Ev Ls n y s' Q → s'.2.2.2 78 = xs → s'.2.2.2 79 = hd_ks → va_P D hd_cl (hd_ws cI cZ cA ad s'.2.2.2) H' → va_S A s.heap H' locs' → hd_has ad ls' (hd_mx y) s'.2.1 → W p l e R s m args below meth c H' locs' cells slots Qf (F0 m s'.1 ls' (s'.2.2.1.map (hd_cv ad))) := fun s' H' locs' ls' a1 a2 a3 a4 a5 a6 => h1 p e R s m args below meth c y A cells slots Qf Q hC kret s' H' locs' ls' a1 a2 a3 a4 a5 a6
  dsimp only at hdec hlen hres ha hxs hks hP hl ⊢
  have hsame : ∀ {iq : Instr}, hd_res y pc iq k9 = some (iq, k9, 0, 0, 0, 0) → i = iq → i' = iq ∧ n' = k9 := fun {iq} h q => by
    subst q
    rw [h] at hres
    simp only [Option.some.injEq, Prod.mk.injEq] at hres
    exact ⟨hres.1.symm, hres.2.1.symm⟩
  cases i
  case iconst v =>
    have hn : k9 = 1 := by simpa [hd_lenok, hd_len] using hlen
    subst hn
    simp only [hd_res, Option.some.injEq, Prod.mk.injEq] at hres
    obtain ⟨rfl, rfl, -, -, -, rfl⟩ := hres
    obtain rfl := hd_nx_inv ha
    exact lv_iconst hx hb hdec rfl (go _ H locs ls hr hxs hks hP hS hl)
  case bipush v =>
    have hn : k9 = 2 := by simpa [hd_lenok, hd_len] using hlen
    subst hn
    simp only [hd_res, Option.some.injEq, Prod.mk.injEq] at hres
    obtain ⟨rfl, rfl, -, -, -, rfl⟩ := hres
    obtain rfl := hd_nx_inv ha
    exact lv_bipush hx hb hdec rfl (go _ H locs ls hr hxs hks hP hS hl)
  case sipush v =>
    have hn : k9 = 3 := by simpa [hd_lenok, hd_len] using hlen
    subst hn
    simp only [hd_res, Option.some.injEq, Prod.mk.injEq] at hres
    obtain ⟨rfl, rfl, -, -, -, rfl⟩ := hres
    obtain rfl := hd_nx_inv ha
    exact lv_sipush hx hb hdec rfl (go _ H locs ls hr hxs hks hP hS hl)
  case ldc v =>
    have hn : k9 = 2 := by simpa [hd_lenok, hd_len] using hlen
    subst hn
    obtain ⟨rfl, rfl, hw⟩ := hd_res_ldc hres
    obtain rfl := hd_nx_inv ha
    exact lv_ldc hx hb hown (hts _ hw) hdec (go _ H locs ls hr hxs hks hP hS hl)
  case ldc_w v =>
    have hn : k9 = 3 := by simpa [hd_lenok, hd_len] using hlen
    subst hn
    obtain ⟨rfl, rfl, hw⟩ := hd_res_ldcw hres
    obtain rfl := hd_nx_inv ha
    exact lv_ldcw hx hb hown (hts _ hw) hdec (go _ H locs ls hr hxs hks hP hS hl)
  case iload_n k =>
    have hn : k9 = 1 := by simpa [hd_lenok, hd_len] using hlen
    subst hn
    obtain ⟨rfl, rfl⟩ := hsame rfl rfl
    obtain ⟨x, hx1, rfl⟩ := hd_ld_inv (k := k.val) ha
    exact lv_iload_n hx hb hdec rfl (hd_has_int hl hx1) (go _ H locs ls hr hxs hks hP hS hl)
  case iload k =>
    have hn : k9 = 2 := by simpa [hd_lenok, hd_len] using hlen
    subst hn
    obtain ⟨rfl, rfl⟩ := hsame rfl rfl
    obtain ⟨x, hx1, rfl⟩ := hd_ld_inv (k := k) ha
    exact lv_iload hx hb hdec (hd_has_int hl hx1) (go _ H locs ls hr hxs hks hP hS hl)
  case aload_n k =>
    have hn : k9 = 1 := by simpa [hd_lenok, hd_len] using hlen
    subst hn
    obtain ⟨rfl, rfl⟩ := hsame rfl rfl
    obtain ⟨x, hx1, rfl⟩ := hd_la_inv (k := k.val) ha
    exact lv_aload_n hx hb hdec rfl (hd_has_ref hl hx1) (go _ H locs ls hr hxs hks hP hS hl)
  case istore_n k =>
    have hn : k9 = 1 := by simpa [hd_lenok, hd_len] using hlen
    subst hn
    obtain ⟨rfl, rfl⟩ := hsame rfl rfl
    obtain ⟨x, rr, rfl, hk, rfl⟩ := hd_sto_inv (k := k.val) ha
    exact lv_istore_n hx hb hdec rfl (hd_has_lv hl) (hl.2.1 ▸ hk) rfl (fun ls' hl' => go _ H locs ls' hr hxs hks hP hS (hd_has_st hl hk hl'))
  case istore k =>
    have hn : k9 = 2 := by simpa [hd_lenok, hd_len] using hlen
    subst hn
    obtain ⟨rfl, rfl⟩ := hsame rfl rfl
    obtain ⟨x, rr, rfl, hk, rfl⟩ := hd_sto_inv (k := k) ha
    exact lv_istore hx hb hdec (hd_has_lv hl) (hl.2.1 ▸ hk) rfl (fun ls' hl' => go _ H locs ls' hr hxs hks hP hS (hd_has_st hl hk hl'))
  case iinc k v =>
    have hn : k9 = 3 := by simpa [hd_lenok, hd_len] using hlen
    subst hn
    simp only [hd_res, Option.some.injEq, Prod.mk.injEq] at hres
    obtain ⟨rfl, rfl, -, -, -, rfl⟩ := hres
    obtain ⟨x, hk, rfl⟩ := hd_iinc_inv ha
    have hlt := (List.getElem?_eq_some_iff.mp hk).1
    obtain ⟨q, hq⟩ := List.getElem?_of_mem (hd_lv_mem (ad := ad) (L := L) (q := (k, .int x)).mpr ⟨k, .int x, hk, by simp, rfl⟩)
    exact lv_iinc hx hb hdec (hd_has_lv hl) hq rfl (hl.2.1 ▸ hlt) rfl (fun ls' hl' => go _ H locs ls' hr hxs hks hP hS (hd_has_st hl hlt hl'))
  case iadd =>
    have hn : k9 = 1 := by simpa [hd_lenok, hd_len] using hlen
    subst hn
    obtain ⟨rfl, rfl⟩ := hsame rfl rfl
    obtain ⟨b, a, rr, rfl, rfl, -⟩ := hd_op2_inv ha
    exact lv_iadd hx hb hdec (go _ H locs ls hr hxs hks hP hS hl)
  case isub =>
    have hn : k9 = 1 := by simpa [hd_lenok, hd_len] using hlen
    subst hn
    obtain ⟨rfl, rfl⟩ := hsame rfl rfl
    obtain ⟨b, a, rr, rfl, rfl, -⟩ := hd_op2_inv ha
    exact lv_isub hx hb hdec (go _ H locs ls hr hxs hks hP hS hl)
  case imul =>
    have hn : k9 = 1 := by simpa [hd_lenok, hd_len] using hlen
    subst hn
    obtain ⟨rfl, rfl⟩ := hsame rfl rfl
    obtain ⟨b, a, rr, rfl, rfl, -⟩ := hd_op2_inv ha
    exact lv_imul hx hb hdec (go _ H locs ls hr hxs hks hP hS hl)
  case iand =>
    have hn : k9 = 1 := by simpa [hd_lenok, hd_len] using hlen
    subst hn
    obtain ⟨rfl, rfl⟩ := hsame rfl rfl
    obtain ⟨b, a, rr, rfl, rfl, -⟩ := hd_op2_inv ha
    exact lv_iand hx hb hdec (go _ H locs ls hr hxs hks hP hS hl)
  case ior =>
    have hn : k9 = 1 := by simpa [hd_lenok, hd_len] using hlen
    subst hn
    obtain ⟨rfl, rfl⟩ := hsame rfl rfl
    obtain ⟨b, a, rr, rfl, rfl, -⟩ := hd_op2_inv ha
    exact lv_ior hx hb hdec (go _ H locs ls hr hxs hks hP hS hl)
  case ixor =>
    have hn : k9 = 1 := by simpa [hd_lenok, hd_len] using hlen
    subst hn
    obtain ⟨rfl, rfl⟩ := hsame rfl rfl
    obtain ⟨b, a, rr, rfl, rfl, -⟩ := hd_op2_inv ha
    exact lv_ixor hx hb hdec (go _ H locs ls hr hxs hks hP hS hl)
  case ishl =>
    have hn : k9 = 1 := by simpa [hd_lenok, hd_len] using hlen
    subst hn
    obtain ⟨rfl, rfl⟩ := hsame rfl rfl
    obtain ⟨b, a, rr, rfl, rfl, -⟩ := hd_op2_inv ha
    exact lv_ishl hx hb hdec (go _ H locs ls hr hxs hks hP hS hl)
  case ishr =>
    have hn : k9 = 1 := by simpa [hd_lenok, hd_len] using hlen
    subst hn
    obtain ⟨rfl, rfl⟩ := hsame rfl rfl
    obtain ⟨b, a, rr, rfl, rfl, -⟩ := hd_op2_inv ha
    exact lv_ishr hx hb hdec (go _ H locs ls hr hxs hks hP hS hl)
  case idiv =>
    have hn : k9 = 1 := by simpa [hd_lenok, hd_len] using hlen
    subst hn
    obtain ⟨rfl, rfl⟩ := hsame rfl rfl
    obtain ⟨b, a, rr, rfl, rfl, rfl⟩ := hd_op2_inv ha
    exact lv_idiv hx hb hdec hc (go _ H locs ls hr hxs hks hP hS hl)
  case irem =>
    have hn : k9 = 1 := by simpa [hd_lenok, hd_len] using hlen
    subst hn
    obtain ⟨rfl, rfl⟩ := hsame rfl rfl
    obtain ⟨b, a, rr, rfl, rfl, rfl⟩ := hd_op2_inv ha
    exact lv_irem hx hb hdec hc (go _ H locs ls hr hxs hks hP hS hl)
  case iushr =>
    have hn : k9 = 1 := by simpa [hd_lenok, hd_len] using hlen
    subst hn
    obtain ⟨rfl, rfl⟩ := hsame rfl rfl
    obtain ⟨b, a, rr, rfl, rfl, -⟩ := hd_op2_inv ha
    exact lv_iushr hx hb hdec rfl (go _ H locs ls hr hxs hks hP hS hl)
  case i2l =>
    have hn : k9 = 1 := by simpa [hd_lenok, hd_len] using hlen
    subst hn
    obtain ⟨rfl, rfl⟩ := hsame rfl rfl
    simp only [hd_act] at ha
    split at ha
    · obtain rfl := hd_nx_inv ha
      exact lv_i2l hx hb hdec rfl (go _ H locs ls hr hxs hks hP hS hl)
    · cases ha
  case i2b =>
    have hn : k9 = 1 := by simpa [hd_lenok, hd_len] using hlen
    subst hn
    obtain ⟨rfl, rfl⟩ := hsame rfl rfl
    simp only [hd_act] at ha
    split at ha
    · obtain rfl := hd_nx_inv ha
      exact lv_i2b hx hb hdec rfl (go _ H locs ls hr hxs hks hP hS hl)
    · cases ha
  case i2s =>
    have hn : k9 = 1 := by simpa [hd_lenok, hd_len] using hlen
    subst hn
    obtain ⟨rfl, rfl⟩ := hsame rfl rfl
    simp only [hd_act] at ha
    split at ha
    · obtain rfl := hd_nx_inv ha
      exact lv_i2s hx hb hdec rfl (go _ H locs ls hr hxs hks hP hS hl)
    · cases ha
  case ladd =>
    have hn : k9 = 1 := by simpa [hd_lenok, hd_len] using hlen
    subst hn
    obtain ⟨rfl, rfl⟩ := hsame rfl rfl
    simp only [hd_act] at ha
    split at ha
    · obtain rfl := hd_nx_inv ha
      exact lv_ladd hx hb hdec (go _ H locs ls hr hxs hks hP hS hl)
    · cases ha
  case lcmp =>
    have hn : k9 = 1 := by simpa [hd_lenok, hd_len] using hlen
    subst hn
    obtain ⟨rfl, rfl⟩ := hsame rfl rfl
    simp only [hd_act] at ha
    split at ha
    · obtain rfl := hd_nx_inv ha
      exact W.lcmp hx hb hdec (go _ H locs ls hr hxs hks hP hS hl)
    · cases ha
  case dup =>
    have hn : k9 = 1 := by simpa [hd_lenok, hd_len] using hlen
    subst hn
    obtain ⟨rfl, rfl⟩ := hsame rfl rfl
    simp only [hd_act] at ha
    split at ha
    · split at ha
      next hcat =>
        obtain rfl := hd_nx_inv ha
        exact lv_dup hx hb hdec (hd_cv_cat hcat) (go _ H locs ls hr hxs hks hP hS hl)
      · cases ha
    · cases ha
  case dup2 =>
    have hn : k9 = 1 := by simpa [hd_lenok, hd_len] using hlen
    subst hn
    obtain ⟨rfl, rfl⟩ := hsame rfl rfl
    simp only [hd_act] at ha
    split at ha
    · split at ha
      next hcat =>
        obtain rfl := hd_nx_inv ha
        exact lv_dup2_11 hx hb hdec (hd_cv_cat hcat.1) (hd_cv_cat hcat.2) (go _ H locs ls hr hxs hks hP hS hl)
      · cases ha
    · cases ha
  case pop =>
    have hn : k9 = 1 := by simpa [hd_lenok, hd_len] using hlen
    subst hn
    obtain ⟨rfl, rfl⟩ := hsame rfl rfl
    simp only [hd_act] at ha
    split at ha
    · split at ha
      next hcat =>
        obtain rfl := hd_nx_inv ha
        exact lv_pop hx hb hdec (hd_cv_cat hcat) (go _ H locs ls hr hxs hks hP hS hl)
      · cases ha
    · cases ha
  case ifCond o off =>
    have hn : k9 = 3 := by simpa [hd_lenok, hd_len] using hlen
    subst hn
    simp only [hd_res] at hres
    split at hres
    next hpos =>
      simp only [Option.some.injEq, Prod.mk.injEq] at hres
      obtain ⟨rfl, rfl, rfl, -, -, -⟩ := hres
      simp only [hd_act] at ha
      split at ha
      · obtain rfl := hd_nx_inv ha
        have ht : (pc : Int) + off = ((((pc : Int) + off).toNat : Nat) : Int) := (Int.toNat_of_nonneg hpos).symm
        have g := go _ H locs ls hr hxs hks hP hS hl
        cases o
        · exact lv_if_eq hx hb hdec ht (fun q => by simp only [hd_br, if_pos q] at g; exact g) (fun q => by simp only [hd_br, if_neg q] at g; exact g)
        · exact lv_if_ne hx hb hdec ht (fun q => by simp only [hd_br, if_neg q] at g; exact g) (fun q => by simp only [hd_br, if_pos q] at g; exact g)
        · exact lv_if_lt hx hb hdec ht (fun q => by simp only [hd_br, if_pos q] at g; exact g) (fun q => by simp only [hd_br, if_neg q] at g; exact g)
        · exact lv_if_ge hx hb hdec ht (fun q => by simp only [hd_br, if_pos q] at g; exact g) (fun q => by simp only [hd_br, if_neg q] at g; exact g)
        · exact lv_if_gt hx hb hdec ht (fun q => by simp only [hd_br, if_pos q] at g; exact g) (fun q => by simp only [hd_br, if_neg q] at g; exact g)
        · exact lv_if_le hx hb hdec ht (fun q => by simp only [hd_br, if_pos q] at g; exact g) (fun q => by simp only [hd_br, if_neg q] at g; exact g)
      · cases ha
    · cases hres
  case if_icmp o off =>
    have hn : k9 = 3 := by simpa [hd_lenok, hd_len] using hlen
    subst hn
    simp only [hd_res] at hres
    split at hres
    next hpos =>
      simp only [Option.some.injEq, Prod.mk.injEq] at hres
      obtain ⟨rfl, rfl, rfl, -, -, -⟩ := hres
      simp only [hd_act] at ha
      split at ha
      · obtain rfl := hd_nx_inv ha
        have ht : (pc : Int) + off = ((((pc : Int) + off).toNat : Nat) : Int) := (Int.toNat_of_nonneg hpos).symm
        have g := go _ H locs ls hr hxs hks hP hS hl
        cases o
        · exact lv_icmp_eq hx hb hdec ht (fun q => by simp only [hd_br, if_pos q] at g; exact g) (fun q => by simp only [hd_br, if_neg q] at g; exact g)
        · exact lv_icmp_ne hx hb hdec ht (fun q => by simp only [hd_br, if_neg q] at g; exact g) (fun q => by simp only [hd_br, if_pos q] at g; exact g)
        · exact lv_icmp_lt hx hb hdec ht (fun q => by simp only [hd_br, if_pos q] at g; exact g) (fun q => by simp only [hd_br, if_neg q] at g; exact g)
        · exact lv_icmp_ge hx hb hdec ht (fun q => by simp only [hd_br, if_pos q] at g; exact g) (fun q => by simp only [hd_br, if_neg q] at g; exact g)
        · exact lv_icmp_gt hx hb hdec ht (fun q => by simp only [hd_br, if_pos q] at g; exact g) (fun q => by simp only [hd_br, if_neg q] at g; exact g)
        · exact lv_icmp_le hx hb hdec ht (fun q => by simp only [hd_br, if_pos q] at g; exact g) (fun q => by simp only [hd_br, if_neg q] at g; exact g)
      · cases ha
    · cases hres
  case goto off =>
    have hn : k9 = 3 := by simpa [hd_lenok, hd_len] using hlen
    subst hn
    simp only [hd_res] at hres
    split at hres
    next hpos =>
      simp only [Option.some.injEq, Prod.mk.injEq] at hres
      obtain ⟨rfl, rfl, rfl, -, -, -⟩ := hres
      obtain rfl := hd_nx_inv ha
      exact lv_goto hx hb hdec (Int.toNat_of_nonneg hpos).symm (go _ H locs ls hr hxs hks hP hS hl)
    · cases hres
  case tableswitch d lo hi offs =>
    simp only [hd_res] at hres
    split at hres
    next hpos =>
      obtain ⟨p1, p2, p3⟩ := hpos
      simp only [Option.some.injEq, Prod.mk.injEq] at hres
      obtain ⟨rfl, rfl, -, -, -, -⟩ := hres
      simp only [hd_act] at ha
      split at ha
      next x rr =>
        obtain rfl := hd_nx_inv ha
        have g := go _ H locs ls hr hxs hks hP hS hl
        by_cases q : x.toInt < lo ∨ hi < x.toInt
        · simp only [hd_sw, if_pos q] at g
          exact lv_tableOut hx hb hdec q (Int.toNat_of_nonneg p1).symm g
        · simp only [hd_sw, if_neg q] at g
          have hlt : (x.toInt - lo).toNat < offs.size := by omega
          have hgd : offs.getD (x.toInt - lo).toNat d = offs[(x.toInt - lo).toNat] := by simp [Array.getD, hlt]
          rw [hgd] at g
          exact lv_tableIn hx hb hdec (fun z => q (Or.inl z)) (fun z => q (Or.inr z)) (Array.getElem?_eq_getElem hlt) (Int.toNat_of_nonneg (p2 _ (by simp))).symm g
      · cases ha
    · cases hres
  case getfield x =>
    have hn : k9 = 3 := by simpa [hd_lenok, hd_len] using hlen
    subst hn
    obtain ⟨rfl, rfl, hr1, hr2, hw⟩ := hd_res_getf hres
    obtain ⟨k, rr, fl, rfl, hk, hlay, h9⟩ := hd_getf_inv ha
    have he : (hd_ws cI cZ cA ad M)[k]? = some (ad k, .inr (r1, hd_fl ad (M k) 0 fl)) := by rw [hd_ws_at hk, hlay]; rfl
    rcases h9 with ⟨h9, rfl⟩ | ⟨t, h9, rfl⟩
    · exact va_get hx hb hts (hd_ws_in r1 hr1) hown hK hP k he (hd_cl_at r1 hr1) r2 hr2 (hts _ hw) (fun _ q => q) (v := .int (M k r2)) (by rw [hd_fl_int fl 0 r2 h9, Nat.zero_add]) hdec (go _ H locs ls hr hxs hks hP hS hl)
    · exact va_get hx hb hts (hd_ws_in r1 hr1) hown hK hP k he (hd_cl_at r1 hr1) r2 hr2 (hts _ hw) (fun _ q => q) (v := .ref (ad t)) (hd_fl_ref fl 0 r2 t h9) hdec (go _ H locs ls hr hxs hks hP hS hl)
  case putfield x =>
    have hn : k9 = 3 := by simpa [hd_lenok, hd_len] using hlen
    subst hn
    obtain ⟨rfl, rfl, hr1, hr2, hw, hfin, hty⟩ := hd_res_putf hres
    obtain ⟨w, k, rr, fl, rfl, hk, hlay, h9, rfl⟩ := hd_putf_inv ha
    have he : (hd_ws cI cZ cA ad M)[k]? = some (ad k, .inr (r1, hd_fl ad (M k) 0 fl)) := by rw [hd_ws_at hk, hlay]; rfl
    have hE : (hd_ws cI cZ cA ad M).set k (ad k, .inr (r1, (hd_fl ad (M k) 0 fl).set r2 (.int w))) = hd_ws cI cZ cA ad (hd_set M k r2 w) := hd_ws_set hk (fun j hj => hd_set_ne hj) (by rw [hlay, hd_set_eq, hd_fl_set fl (M k) 0 r2 h9, Nat.zero_add]; rfl)
    refine va_put hx hb hts (hd_ws_in r1 hr1) (hd_ty r1) (hd_ty_ok r1 hr1) (hd_nms r1 hr1) hown hK hP (hD M) hS k he (hd_cl_at r1 hr1) r2 hr2 (hts _ hw) (fun _ q => q) hfin (ty := .int) (v := .int w) (by rw [hd_ty_ok r1 hr1 r2 hr2, hty]) rfl rfl (by rw [hd_fl_len]; exact (List.getElem?_eq_some_iff.mp h9).1) hdec (fun H1 locs1 hP1 hD1 hS1 => ?_)
    rw [hE] at hP1
    exact go _ H1 locs1 ls hr (by dsimp only; rw [hd_set_ne (by omega)]; exact hxs) (by dsimp only; rw [hd_set_ne (by omega)]; exact hks) hP1 hS1 hl
  case getstatic x =>
    have hn : k9 = 3 := by simpa [hd_lenok, hd_len] using hlen
    subst hn
    simp only [hd_res] at hres
    split at hres
    next hq =>
      obtain ⟨q1, rfl⟩ := hq
      simp only [Option.some.injEq, Prod.mk.injEq] at hres
      obtain ⟨rfl, rfl, -, -, -, -⟩ := hres
      obtain rfl := hd_nx_inv ha
      rw [q1] at hown
      exact va_getsN hx hb hro.1 hS hown (va_Nw.use rfl hro.2.2.2.2.2.2.2) (fun _ q => q) hdec (go _ H locs ls hr hxs hks hP hS hl)
    · cases hres
  case iaload =>
    have hn : k9 = 1 := by simpa [hd_lenok, hd_len] using hlen
    subst hn
    obtain ⟨rfl, rfl⟩ := hsame rfl rfl
    simp only [hd_act] at ha
    split at ha
    next i k rr =>
      obtain ⟨rfl, rfl⟩ := hd_nc_inv ha
      obtain ⟨z, hz, hin⟩ := hc
      unfold hd_arr at hz
      split at hz
      next hk =>
        cases hlay : hd_lay k with
        | inl q => rw [hlay] at hz; cases hz
        | inr q =>
          cases q with
          | inr q => rw [hlay] at hz; cases hz
          | inl q =>
            rw [hlay] at hz
            obtain rfl := Option.some.inj hz
            exact va_iald hx hb hK hP k 0 (cA := cI) (n := q) (f := M k) (by rw [hd_ws_at hk, hlay]; rfl) rfl (hd_in_vp hin) hdec (go _ H locs ls hr hxs hks hP hS hl)
      · split at hz
        next hk =>
          subst hk
          obtain rfl := Option.some.inj hz
          have g := go _ H locs ls hr hxs hks hP hS hl
          dsimp only at g
          rw [hxs] at g
          exact va_sld hx hb hro.2.2.1 hro.2.2.2.1 hro.2.2.2.2.1 hS (hd_in_vp hin) hdec g
        · split at hz
          next hk =>
            subst hk
            obtain rfl := Option.some.inj hz
            have g := go _ H locs ls hr hxs hks hP hS hl
            dsimp only at g
            rw [hks] at g
            exact va_ti hx hb hro.2.1 hS (hd_in_vp hin) rfl hdec g
          · cases hz
    · cases ha
  case iastore =>
    have hn : k9 = 1 := by simpa [hd_lenok, hd_len] using hlen
    subst hn
    obtain ⟨rfl, rfl⟩ := hsame rfl rfl
    simp only [hd_act] at ha
    split at ha
    next w i k rr =>
      obtain ⟨rfl, rfl⟩ := hd_nc_inv ha
      obtain ⟨hk, z, hlay, hin⟩ := hc
      have hE : (hd_ws cI cZ cA ad M).set k (ad k, .inl (cI, z, .inl (upd (M k) i.toNatClampNeg w))) = hd_ws cI cZ cA ad (hd_set M k i.toNatClampNeg w) := hd_ws_set hk (fun j hj => hd_set_ne hj) (by rw [hlay, hd_set_eq]; rfl)
      refine va_iast hx hb hK hP (hD M) hS k 0 (cA := cI) (n := z) (f := M k) (by rw [hd_ws_at hk, hlay]; rfl) rfl (hd_in_vp hin) hdec (fun H1 locs1 hP1 hD1 hS1 => ?_)
      rw [hE] at hP1
      exact go _ H1 locs1 ls hr (by dsimp only; rw [hd_set_ne (by omega)]; exact hxs) (by dsimp only; rw [hd_set_ne (by omega)]; exact hks) hP1 hS1 hl
    · cases ha
  case baload =>
    have hn : k9 = 1 := by simpa [hd_lenok, hd_len] using hlen
    subst hn
    obtain ⟨rfl, rfl⟩ := hsame rfl rfl
    simp only [hd_act] at ha
    split at ha
    next i k rr =>
      obtain ⟨rfl, rfl⟩ := hd_nc_inv ha
      obtain ⟨hk, z, hlay, hin⟩ := hc
      exact va_zald hx hb hK hP k 1 (cA := cZ) (n := z) (f := M k) (by rw [hd_ws_at hk, hlay]; rfl) rfl (hd_in_vp hin) hdec (go _ H locs ls hr hxs hks hP hS hl)
    · cases ha
  case bastore =>
    have hn : k9 = 1 := by simpa [hd_lenok, hd_len] using hlen
    subst hn
    obtain ⟨rfl, rfl⟩ := hsame rfl rfl
    simp only [hd_act] at ha
    split at ha
    next w i k rr =>
      obtain ⟨rfl, rfl⟩ := hd_nc_inv ha
      obtain ⟨⟨hk, z, hlay, hin⟩, hw⟩ := hc
      have hE : (hd_ws cI cZ cA ad M).set k (ad k, .inl (cZ, z, .inl (upd (M k) i.toNatClampNeg (vp_nar .boolean w)))) = hd_ws cI cZ cA ad (hd_set M k i.toNatClampNeg w) := hd_ws_set hk (fun j hj => hd_set_ne hj) (by rw [hlay, hd_set_eq, hd_zn hw]; rfl)
      refine va_zast hx hb hK hP (hD M) hS k 1 (cA := cZ) (n := z) (f := M k) (by rw [hd_ws_at hk, hlay]; rfl) rfl (hd_in_vp hin) hdec (fun H1 locs1 hP1 hD1 hS1 => ?_)
      rw [hE] at hP1
      exact go _ H1 locs1 ls hr (by dsimp only; rw [hd_set_ne (by omega)]; exact hxs) (by dsimp only; rw [hd_set_ne (by omega)]; exact hks) hP1 hS1 hl
    · cases ha
  case aaload =>
    have hn : k9 = 1 := by simpa [hd_lenok, hd_len] using hlen
    subst hn
    obtain ⟨rfl, rfl⟩ := hsame rfl rfl
    obtain ⟨i, k, rr, z, b, rfl, hk, hlay, rfl, rfl⟩ := hd_aald_inv ha
    exact hd_aald hx hb hK hP k 2 (cA := cA) (n := z) (f := fun i => some (ad (b + i))) (by rw [hd_ws_at hk, hlay]; rfl) rfl (hd_in_vp hc) hdec (go _ H locs ls hr hxs hks hP hS hl)
  case arraylength =>
    have hn : k9 = 1 := by simpa [hd_lenok, hd_len] using hlen
    subst hn
    obtain ⟨rfl, rfl⟩ := hsame rfl rfl
    simp only [hd_act] at ha
    split at ha
    · split at ha
      next hk =>
        subst hk
        obtain rfl := hd_nx_inv ha
        exact va_slen hx hb hro.2.2.1 hro.2.2.2.1 hro.2.2.2.2.1 hS hdec (go _ H locs ls hr hxs hks hP hS hl)
      · cases ha
    · cases ha
  case ireturn =>
    have hn : k9 = 1 := by simpa [hd_lenok, hd_len] using hlen
    subst hn
    obtain ⟨rfl, rfl⟩ := hsame rfl rfl
    obtain ⟨x, rfl, rfl, h9⟩ := hd_iret_inv ha hc
    exact kret (some (.int x)) M H locs pc ls hr hxs hks hP hS (Or.inr ⟨x, rfl, h9, hdec⟩)
  case return_ =>
    have hn : k9 = 1 := by simpa [hd_lenok, hd_len] using hlen
    subst hn
    obtain ⟨rfl, rfl⟩ := hsame rfl rfl
    obtain ⟨rfl, h9, rfl⟩ := hd_vret_inv ha
    exact kret none M H locs pc ls hr hxs hks hP hS (Or.inl ⟨rfl, h9, hdec⟩)
  case invokevirtual x =>
    have hn : k9 = 3 := by simpa [hd_lenok, hd_len] using hlen
    subst hn
    obtain ⟨rfl, rfl, hz, rfl, rfl, f1, f2, f3, w1, w2, w3⟩ := hd_res_callv hres
    obtain ⟨k, bs, rr, fl, rfl, hk, hbs, hrr, hall, hlay, rfl⟩ := hd_callv_inv ha
    have hmok := hd_MT_ok r1 (List.mem_range.mpr hz)
    obtain ⟨o1, o2, o3, o4, o5, o6, o7⟩ := hmok
    have hall2 : (∀ v ∈ bs, hd_cat1 v = true) ∧ rr.all hd_cat1 = true := by
      simp only [List.all_append, List.all_cons, Bool.and_eq_true] at hall
      exact ⟨fun v hv => List.all_eq_true.mp hall.1 v hv, hall.2.2⟩
    have hM := h2 r1 (.ref k :: bs.reverse) M _ hz hxs hks (fun v hv => by
      rcases List.mem_cons.mp hv with rfl | hv
      · rfl
      · exact hall2.1 v (List.mem_reverse.mp hv)) (by simp [hbs]; omega) hr
    have he : (hd_ws cI cZ cA ad M)[k]? = some (ad k, .inr (hd_ow r1, hd_fl ad (M k) 0 fl)) := by rw [hd_ws_at hk, hlay]; rfl
    have hci : hd_ow r1 < 9 := by
      by_cases q : hd_ow r1 < 9
      · exact q
      · exfalso
        obtain ⟨r9, h8, -⟩ := hP k _ he
        have : hd_cl[hd_ow r1]? = none := by simp [hd_cl]; omega
        dsimp only at h8
        rw [this] at h8
        cases h8
    have hnm : (hd_c (hd_ow r1)).1 = (hd_nm r1).cls := by rw [o2]; exact hd_own_c _ hci
    have hrecv := va_recv hK hP (hd_cl_at _ hci) he
    rw [hnm] at hrecv
    have cw : CallW R s args (hd_own (hd_ow y)) (hd_nm r1).cls x (hd_nm r1) (hd_cd r1) (hd_mx r1) (hd_rt r1) (hd_mw r1) (hd_rm r1) 0 0 (hd_np r1) := ⟨callB_of (hd_np r1) hts (hd_good r1 hz) rfl rfl rfl (hts _ (hd_tb_at o1 rfl)) (hts _ w1) ⟨o3, o4, o5⟩ ⟨Nat.le_trans f1 hfr, Nat.le_trans f2 hlo⟩, hts _ w2, hts _ w3⟩
    have hp : PreV s H (hd_nm r1).cls (ad k) (va_Pc ((.ref k :: bs.reverse).map (hd_cv ad)) (hd_W D cI cZ cA ad Ls xs M)) (bs.reverse.map (hd_cv ad)) := ⟨hd_blind, hrecv, fun U hU hW => ⟨rfl, by rw [hU]; exact hP, va_K.moved hW.alike hK, hd_ro_moved hro (fun q ⟨k, h8, h9⟩ => by rw [h9]; exact hA k h8) hS hU hW⟩⟩
    have hrun := va_runV (p := p) (l := l) (e := e) (below := below) (meth := meth) (H := H) (locs := locs) (cells := cells) (slots := slots) (g := F0 m pc ls ((bs ++ .ref k :: rr).map (hd_cv ad))) (rest := rr.map (hd_cv ad)) ⟨hx, hb, hml, hown, hts⟩ hM cw hp rfl (by simp [hbs]) hl.1 (by simp [hd_cv]) (by
      have := hd_cats (ad := ad) rr hall2.2
      refine lv_room ?_
      omega) hdec ⟨hcl, hsl⟩
    have hAA : ∀ q, hd_A ad q → A q := fun q ⟨k, h8, h9⟩ => by rw [h9]; exact hA k h8
    cases hrt : hd_rt r1 with
    | none =>
      rw [hrt] at hrun
      refine va_callv (a := #[]) hrun hS (fun q _ h8 => hAA q h8) hAA (fun u t H1 locs1 ht hvm hw hB hz1 hk1 hS1 => ?_)
      rw [ht] at hB
      exact go _ H1 locs1 ls hw.1 hw.2.1 hw.2.2 hB hS1 hl
    | some ty =>
      rw [hrt] at hrun
      refine va_calli (a := #[]) hrun hS (fun q _ h8 => hAA q h8) hAA (fun r8 u t H1 locs1 ht hvm hw hB hz1 hk1 hS1 => ?_)
      rw [ht] at hB
      exact go _ H1 locs1 ls hw.1 hw.2.1 hw.2.2 hB hS1 hl
  case invokestatic x =>
    have hn : k9 = 3 := by simpa [hd_lenok, hd_len] using hlen
    subst hn
    obtain ⟨rfl, rfl, h9⟩ := hd_res_calls hres
    rcases h9 with ⟨h3, hz, rfl, f1, f2, f3, w2, w1⟩ | ⟨f1, f2, h9⟩
    · obtain ⟨bs, rr, rfl, hbs, hrr, hall, rfl⟩ := hd_calls_inv h3 ha
      have hmok := hd_MT_ok r1 (List.mem_range.mpr hz)
      obtain ⟨o1, o2, o3, o4, o5, o6, o7⟩ := hmok
      have hall2 : (∀ v ∈ bs, hd_cat1 v = true) ∧ rr.all hd_cat1 = true := by
        simp only [List.all_append, Bool.and_eq_true] at hall
        exact ⟨fun v hv => List.all_eq_true.mp hall.1 v hv, hall.2⟩
      have hM := h2 r1 bs.reverse M _ hz hxs hks (fun v hv => hall2.1 v (List.mem_reverse.mp hv)) (by simp [hbs]; omega) hr
      have hp : PreS s H (va_Pc (bs.reverse.map (hd_cv ad)) (hd_W D cI cZ cA ad Ls xs M)) (bs.reverse.map (hd_cv ad)) := ⟨hd_blind, fun U hU hW => ⟨rfl, by rw [hU]; exact hP, va_K.moved hW.alike hK, hd_ro_moved hro (fun q ⟨k, h8, h9⟩ => by rw [h9]; exact hA k h8) hS hU hW⟩⟩
      have hsum : ((rr.map (hd_cv ad)).map fun v => v.category).sum ≤ 8 := by
        have := hd_cats (ad := ad) rr hall2.2
        omega
      have hAA : ∀ q, hd_A ad q → A q := fun q ⟨k, h8, h9⟩ => by rw [h9]; exact hA k h8
      have hrun : va_Run p l e R s m args below meth c H locs cells slots 0 0 (F0 m pc ls ((bs ++ rr).map (hd_cv ad))) (rr.map (hd_cv ad)) (hd_Q D cI cZ cA ad xs (hd_rt r1) (fun v M' => hd_Ev Ls n y (pc + 3, L, v.toList ++ rr, M') Q) (bs.reverse.map (hd_cv ad)).toArray) (hd_A ad) := by
        rcases w1 with w1 | w1
        · exact va_runS ⟨hx, hb, hml, hown, hts⟩ hM ⟨callB_of (hd_np r1) hts (hd_good r1 hz) rfl rfl rfl (hts _ (hd_tb_at o1 rfl)) (hts _ w1) ⟨o3, o4, o5⟩ ⟨Nat.le_trans f1 hfr, Nat.le_trans f2 hlo⟩, hts _ w2⟩ hp rfl (by simp [hbs]) hl.1 (by simp) (lv_room hsum) hdec ⟨hcl, hsl⟩
        · rcases w1 with ⟨w3, rfl, rfl⟩ | ⟨w3, rfl, rfl⟩
          · rw [w3] at hown
            exact va_runSN (host := "HoursDesk") ⟨hx, hb, hml, hown, hts⟩ hM ⟨va_cnB (hd_np D_hasBit) hts (hd_good _ hz) rfl rfl rfl hro.2.2.2.2.2.1 (hts _ (hd_tb_at o1 rfl)) ⟨o3, o4, o5⟩ ⟨Nat.le_trans f1 hfr, Nat.le_trans f2 hlo⟩, hts _ w2, trivial⟩ hp rfl (by simp [hbs]) hl.1 (by simp) (lv_room hsum) hdec ⟨hcl, hsl⟩
          · rw [w3] at hown
            exact va_runSN (host := "HoursDesk") ⟨hx, hb, hml, hown, hts⟩ hM ⟨va_cnB (hd_np D_within) hts (hd_good _ hz) rfl rfl rfl hro.2.2.2.2.2.2.1 (hts _ (hd_tb_at o1 rfl)) ⟨o3, o4, o5⟩ ⟨Nat.le_trans f1 hfr, Nat.le_trans f2 hlo⟩, hts _ w2, trivial⟩ hp rfl (by simp [hbs]) hl.1 (by simp) (lv_room hsum) hdec ⟨hcl, hsl⟩
      cases hrt : hd_rt r1 with
      | none =>
        rw [hrt] at hrun
        refine va_callv (a := #[]) hrun hS (fun q _ h8 => hAA q h8) hAA (fun u t H1 locs1 ht hvm hw hB hz1 hk1 hS1 => ?_)
        rw [ht] at hB
        exact go _ H1 locs1 ls hw.1 hw.2.1 hw.2.2 hB hS1 hl
      | some ty =>
        rw [hrt] at hrun
        refine va_calli (a := #[]) hrun hS (fun q _ h8 => hAA q h8) hAA (fun r8 u t H1 locs1 ht hvm hw hB hz1 hk1 hS1 => ?_)
        rw [ht] at hB
        exact go _ H1 locs1 ls hw.1 hw.2.1 hw.2.2 hB hS1 hl
    · obtain ⟨⟨j1, j2, j3⟩, j4, j5, j6, j7, j8⟩ := hd_JDK_ok
      have hml2 : c.maxLocals = ls.size := by rw [hml, hl.1]
      rcases h9 with ⟨h3, w1⟩ | ⟨h3, w1⟩ | ⟨h3, w1⟩
      · obtain ⟨nn, dp, sp, t, k, rfl, rfl, rfl⟩ := hd_copy_inv h3 ha
        obtain ⟨⟨hk, z0, hl0, b1, b2, b3⟩, ht, z1, hl1, b4, b5, b6⟩ := hc
        have hE : (hd_ws cI cZ cA ad M).set t (ad t, .inl (cI, z1, .inl (va_cpy (M k) (M t) sp.toNatClampNeg dp.toNatClampNeg nn.toNatClampNeg))) = hd_ws cI cZ cA ad (hd_cpy M k t sp.toNatClampNeg dp.toNatClampNeg nn.toNatClampNeg) := hd_ws_set ht (fun j hj => hd_cpy_ne hj) (by rw [hl1, hd_cpy_eq]; rfl)
        have e1 := hd_clamp b1
        have e2 := hd_clamp b2
        have e3 := hd_clamp b4
        refine va_copyi hx hb hml2 hown (hts _ w1) (hts _ (hd_tb_in j1 rfl)) (hts _ (hd_tb_in j2 rfl)) (hts _ (hd_tb_in j3 rfl)) hK hP (hD M) hS k t 0 0 (c0 := cI) (c1 := cI) (n0 := z0) (n1 := z1) (f := M k) (g := M t) (ty := .int) (by rw [hd_ws_at hk, hl0]; rfl) (by rw [hd_ws_at ht, hl1]; rfl) rfl rfl rfl (hd_nlt b1) (hd_nlt b4) (hd_nlt b2) (by omega) (by omega) (fun _ _ => rfl) (Nat.le_trans f1 hfr) (by
          show 0 + (nativeFrameWords "java/lang/System" "arraycopy" 5 + 11) ≤ R.locals
          have : nativeFrameWords "java/lang/System" "arraycopy" 5 = 7 := by decide
          omega) hdec (fun H1 locs1 hP1 hD1 hS1 => ?_)
        rw [hE] at hP1
        exact go _ H1 locs1 ls hr (by dsimp only; rw [hd_cpy_ne (by omega)]; exact hxs) (by dsimp only; rw [hd_cpy_ne (by omega)]; exact hks) hP1 hS1 hl
      · obtain ⟨b, a, rr, rfl, q1, q2, rfl⟩ := hd_max_inv h3 ha
        have := hd_cats (ad := ad) rr q2
        exact va_mmax hx hb hml2 hown (hts _ w1) (hts _ (hd_tb_in j4 rfl)) (hts _ (hd_tb_in j6 rfl)) (hts _ (hd_tb_in j7 rfl)) (Nat.le_trans f1 hfr) (by omega) hcl hsl hdec (go _ H locs ls hr hxs hks hP hS hl)
      · obtain ⟨b, a, rr, rfl, q1, q2, rfl⟩ := hd_min_inv h3 ha
        have := hd_cats (ad := ad) rr q2
        exact va_mmin hx hb hml2 hown (hts _ w1) (hts _ (hd_tb_in j5 rfl)) (hts _ (hd_tb_in j6 rfl)) (hts _ (hd_tb_in j8 rfl)) (Nat.le_trans f1 hfr) (by omega) hcl hsl hdec (go _ H locs ls hr hxs hks hP hS hl)
  all_goals (exfalso; rw [hsame rfl rfl |>.1] at ha; simp [hd_act] at ha)
