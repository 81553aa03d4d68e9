/-! PURE: the whole law of a fresh object (p1) -/
theorem law_all {g : Gm} {Ln : Nat} {xs : Nat → Int32} (hL : Ln ≤ 5) (h01 : g.2.2 1 < g.2.2 0) : wp_L_law g Ln xs 600002 7302232 hp0 := by
  have b0 : Bd g hp0 [] [] [] := ⟨fun _ h => (nomatch h), List.nodup_nil, fun _ h => (nomatch h), fun _ h => (nomatch h)⟩
  unfold wp_L_law
  refine ⟨by decide, by decide, fun x zx gx h2 e2 => ⟨10, 158, by decide, by decide, ?_⟩⟩
  subst e2
  refine S_init (b0.mk (kd := 1) (n := 0) zx gx (by decide)) (Nat.le_refl _) (Nat.le_refl _) fun h4 D b4 hx4 hl4 => ⟨by decide, by decide, fun m zm gm h8 e8 => ⟨20, 15679, by decide, by decide, ?_⟩⟩
  subst e8
  refine M_init (by rw [mK_mk, if_pos rfl]) (fun j => by rw [mI_mk, if_pos rfl]) (Nat.le_refl _) (Nat.le_refl _) fun h10 A m10 f10 n10 z1 z2 zj z9 z3 => ⟨by decide, by decide, fun o zo go h14 e14 => ⟨2, ?_⟩⟩
  have f8 : Fr (fun b => b = m) h4 (mkC h4 m 5 0) := Fr.mk zm
  have f4 : Fr (fun b => b = m) h4 h10 := f8.trans f10
  have f14 : Fr (fun _ => False) h10 h14 := by rw [e14]; exact Fr.mk zo
  have f : Fr (fun b => b = m) h4 h14 := f4.trans (f14.mono fun _ z => z.elim)
  have nm : ∀ a : Nat, hK h4 a ≠ 0 → ¬ a = m := fun a ha z => ha (by rw [z]; exact zm)
  have b14 := b4.fr f nm
  have kinds : ∀ t ∈ MA, t.2.1 ≠ 0 := by decide
  have m14 : Mst h14 m A := m10.kept f14 (fun z => z)
  have sameI : ∀ b : Nat, hK h10 b ≠ 0 → hI h14 b = hI h10 b := fun b hb => ((f14 b hb).2.2 (fun z => z)).1
  have nA : ∀ t ∈ MA, hK h10 (A t.1) ≠ 0 := fun t ht => by rw [(m10.2.1 t ht).2.1]; exact kinds t ht
  have ko : hK h14 o = 22 := by rw [e14, mK_mk, if_pos rfl]
  have no : hN h14 o = 1 := by rw [e14, mN_mk, if_pos rfl]
  have mi := MI.new (Y := fun b => b = m ∨ b = o ∨ ∃ t ∈ MA, b = A t.1) m14 ⟨Or.inl rfl, fun t ht => Or.inr (Or.inr ⟨t, ht, rfl⟩)⟩
    (fun j => by rw [sameI m (by rw [m10.1]; decide)]; exact z1 j)
    (fun j => by rw [sameI (A 16) (nA (16, 21, 50) (by decide))]; exact z2 (16, 21, 50) (by decide) (by decide) (by decide) j)
    (fun j hj => by rw [sameI (A 7) (nA (7, 21, 31) (by decide))]; exact z3 j hj)
  have xm : (x, 1, 0) ∈ KL x D := by simp [KL]
  have kx1 : hK h4 x = 1 := (b4.1 _ xm).1
  have kx : hK h4 x ≠ 0 := by rw [kx1]; decide
  have ci := CI.new (Y := fun b => b = m ∨ b = o ∨ ∃ t ∈ MA, b = A t.1) b14 (by rw [((f x kx).2.2 (nm x kx)).1, hx4]; exact Or.inr rfl) h01
    (fun a ha => by
      rcases ha with ha | ha | ⟨t, ht, ha⟩
      · rw [ha, m14.1]; decide
      · rw [ha, ko]; decide
      · rw [ha, (m14.2.1 t ht).2.1]; exact kinds t ht)
    (fun t ht ha => by
      have k4 : hK h4 t.1 ≠ 0 := by rw [(b4.1 t ht).1]; exact (b4.1 t ht).2.2.1
      rcases ha with ha | ha | ⟨u, hu, ha⟩
      · exact nm _ k4 ha
      · have := (f4 t.1 k4).1
        rw [ha, zo] at this
        rw [ha] at k4
        exact k4 this.symm
      · have := (f8 t.1 k4).1
        rw [ha, (n10 u hu).1] at this
        rw [ha] at k4
        exact k4 this.symm)
    (fun ha => by
      rcases ha with ha | ha | ⟨u, hu, ha⟩
      · rw [← ha] at gm; omega
      · rw [← ha] at go; omega
      · have := (n10 u hu).2
        rw [← ha] at this; omega)
  have ex14 : hI h14 x = hI h4 x := ((f x kx).2.2 (nm x kx)).1
  have em14 : hI h14 m = hI h10 m := sameI m (by rw [m10.1]; decide)
  have d4 : (D 4, 22, 50) ∈ KL x D := by simp [KL]
  have a1 : (1, 22, 50) ∈ MA := by decide
  have oA : A 1 ≠ o := fun z => nA (1, 22, 50) a1 (by rw [show A (1, 22, 50).1 = o from z]; exact zo)
  refine law_one hL (by decide) (by decide) ci mi rfl rfl oA ko no ?_ ?_ ?_ ?_ (fun s _ => (b14.1 _ d4).2.2.2.2 s) (fun s _ => ?_)
  · rw [ex14, hl4, em14]; exact (z1 3).symm
  · rw [ex14]; exact hx4
  · rw [em14]; exact z1 25
  · rw [em14]; exact z1 26
  · have := ((f14 (A 1) (nA (1, 22, 50) a1)).2.2 (fun z => z)).2.1
    rw [this]
    exact zj (1, 22, 50) a1 s
