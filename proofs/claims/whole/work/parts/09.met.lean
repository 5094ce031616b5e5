/-! THE CONTRACT OF EACH METHOD out of a run of the pure machine -/
set_option maxHeartbeats 4000000 in
theorem hd_S2_of {l : Launch} {D : va_G} {cI cZ cA : ClassId} {ad : Nat → Nat} {Ls : Nat} {xs : Nat → Int32} {n : Nat} (h1 : hd_S1 l D cI cZ cA ad Ls xs n) : hd_S2 l D cI cZ cA ad Ls xs n := by
  intro z as M Q hz hxs hks hcat hlen hEv
  obtain ⟨o1, o2, o3, o4, o5, o6, o7⟩ := hd_MT_ok z (List.mem_range.mpr hz)
  refine Met.ofW (cc := hd_cd z) (maxL := hd_mx z) (ret := hd_rt z) o6 rfl ?_
  intro p e s m args below meth c s₁ B hml hv
  obtain ⟨rfl, hP, hK, hro⟩ := hv
  have hx := B.exec
  have hb := B.bytes
  have hr := B.returns
  have hlocks := B.notSynchronized
  have hts0 := atoms_spec (ws := hd_mw z) B.pre
  have hts : ∀ w ∈ hd_tb, w.before ((as.map (hd_cv ad)).toArray) s = true := fun w hw => hts0 w (List.mem_cons_of_mem _ hw)
  have hown : s.vm.findClass (hd_own (hd_ow z)) = some m.cls := by
    rw [← o2]
    exact findClass_of_methodNamed B.named
  rw [lg_entry_eq]
  have hl := hd_has_entry (ad := ad) (y := z) hcat hlen
  refine h1 p e (hd_rm z) s m _ below meth c z (hd_A ad) 0 0 (MQ below (hd_Q D cI cZ cA ad xs (hd_rt z) Q) ((as.map (hd_cv ad)).toArray) s 0 0 (hd_A ad)) Q ⟨hx, hb, hml, hown, hts, hK, hro, fun k hk => ⟨k, hk, rfl⟩, Nat.le_refl _, Nat.le_refl _, Nat.le_refl _, Nat.le_refl _⟩ ?_ (0, hd_entry z as, [], M) s.heap [] _ hEv hxs hks hP va_S.rf hl
  intro v M' H' locs' pc' ls' hQ hx' hk' hP' hS' hend
  rcases hend with ⟨rfl, hrt, hdec⟩ | ⟨x, rfl, hrt, hdec⟩
  · rw [hrt] at hr ⊢
    exact W.vret hx hb hr (fun t ht hW => ⟨⟨M', rfl, ⟨hQ, hx', hk'⟩, by dsimp only; rw [ht]; exact hP'⟩, hS'.F ht⟩) hS'.2.2 hdec hlocks
  · rcases hrt with hrt | ⟨hrt, h01⟩
    · rw [hrt] at hr ⊢
      exact W.iret hx hb hr (fun t ht hW => ⟨⟨x, M', rfl, ⟨hQ, hx', hk'⟩, by dsimp only; rw [ht]; exact hP'⟩, hS'.F ht⟩) hS'.2.2 hdec hlocks
    · rw [hrt] at hr ⊢
      exact W.zret hx hb hr (hd_zn2 h01) (fun t ht hW => ⟨⟨x, M', rfl, ⟨hQ, hx', hk'⟩, by dsimp only; rw [ht]; exact hP'⟩, hS'.F ht⟩) hS'.2.2 hdec hlocks
theorem hd_S1_all {l : Launch} {D : va_G} {cI cZ cA : ClassId} {ad : Nat → Nat} {Ls : Nat} {xs : Nat → Int32} (hinj : ∀ i j, i < 78 → j < 78 → ad i = ad j → i = j) : ∀ n, hd_S1 l D cI cZ cA ad Ls xs n
  | 0 => fun _ _ _ _ _ _ _ _ _ _ _ _ _ _ _ _ _ _ _ _ _ h => h.elim
  | n + 1 => hd_step hinj (hd_S1_all hinj n) (hd_S2_of (hd_S1_all hinj n))
