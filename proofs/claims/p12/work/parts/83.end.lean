/-! LAW: from the start -/
/-- nothing is there yet -/
def z0 : Zs := (fun f _ _ => if f = 0 then -1 else if f = 4 then -1 else 0, fun _ => [], [], 0, fun _ _ => 0, fun _ => 0)
theorem z0_w : Zw z0 := by
  refine ⟨⟨Nat.zero_le 30, fun _ _ _ _ _ => Or.inl rfl, fun _ _ => List.nodup_nil, fun s t _ => ⟨fun h => (nomatch h), fun h => ?_⟩, fun _ _ _ => Or.inl rfl, fun _ _ _ => ⟨fun h => absurd (show (0 : Int32) = 1 from h) (by decide), fun h => absurd rfl h⟩, fun _ _ _ h => absurd rfl h, fun _ _ _ => ⟨rfl, rfl, rfl, fun _ _ => ⟨rfl, rfl, rfl⟩⟩⟩, fun _ _ _ _ _ => rfl, fun _ _ _ _ e => (nomatch e), fun _ _ _ _ _ e => absurd (show (0 : Int32) = 2 from e) (by decide)⟩
  have h2 : t ≤ 0 := h.2.1
  omega
theorem law_all {g : Gm} {Ln : Nat} {xs : Nat → Int32} (hL : Ln ≤ 2560) (h01 : g.2.2 1 < g.2.2 0) : wp_L_law g Ln xs 601024 7293034 hp0 := by
  have b0 : Bd g hp0 [] [] [] := ⟨fun _ h => (nomatch h), List.nodup_nil, fun _ h => (nomatch h), fun _ h => (nomatch h)⟩
  unfold wp_L_law
  refine ⟨by decide, by decide, fun x zx gx h2 e2 => ⟨10, 158, by decide, by decide, ?_⟩⟩
  subst e2
  refine S_init (b0.mk (kd := 1) (n := 0) zx gx (by decide)) (Nat.le_refl _) (Nat.le_refl _) fun h4 D b4 hx4 hl4 => ⟨by decide, by decide, fun m zm gm h8 e8 => ⟨20, 15679, by decide, by decide, ?_⟩⟩
  subst e8
  refine M_init (by rw [mK_mk, if_pos rfl]) (fun j => by rw [mI_mk, if_pos rfl]) (Nat.le_refl _) (Nat.le_refl _) fun h10 A m10 f10 n10 z1 z2 zj z9 z3 => ⟨by decide, by decide, fun o zo go h14 e14 => ⟨513, ?_⟩⟩
  have f8 : Fr (fun b => b = m) h4 (mkC h4 m 5 0) := Fr.mk zm
  have f4 : Fr (fun b => b = m) h4 h10 := f8.trans f10
  have f14 : Fr (fun _ => False) h10 h14 := by rw [e14]; exact Fr.mk zo
  have f : Fr (fun b => b = m) h4 h14 := f4.trans (f14.mono fun _ z => z.elim)
  have nm : ∀ a : Nat, hK h4 a ≠ 0 → ¬ a = m := fun a ha z => ha (by rw [z]; exact zm)
  have b14 := b4.fr f nm
  have kinds : ∀ t ∈ MA, t.2.1 ≠ 0 := by decide
  have m14 : Mst h14 m A := m10.kept f14 (fun z => z)
  have sameI : ∀ b : Nat, hK h10 b ≠ 0 → hI h14 b = hI h10 b := fun b hb => ((f14 b hb).2.2 (fun z => z)).1
  have sameJ : ∀ b : Nat, hK h10 b ≠ 0 → hJ h14 b = hJ h10 b := fun b hb => ((f14 b hb).2.2 (fun z => z)).2.1
  have nA : ∀ t ∈ MA, hK h10 (A t.1) ≠ 0 := fun t ht => by rw [(m10.2.1 t ht).2.1]; exact kinds t ht
  have ko : hK h14 o = 22 := by rw [e14, mK_mk, if_pos rfl]
  have no : hN h14 o = 1 := by rw [e14, mN_mk, if_pos rfl]
  have zA : ∀ t ∈ MA, t.1 ≠ 7 → t.1 ≠ 9 → ∀ j : Nat, hI h14 (A t.1) j = 0 := fun t ht h7 h9 j => by rw [sameI _ (nA t ht)]; exact z2 t ht h7 h9 j
  have zJ : ∀ t ∈ MA, ∀ j : Nat, hJ h14 (A t.1) j = 0 := fun t ht j => by rw [sameJ _ (nA t ht)]; exact zj t ht j
  have zm14 : ∀ j : Nat, hI h14 m j = 0 := fun j => by rw [sameI m (by rw [m10.1]; decide)]; exact z1 j
  have z7 : ∀ j : Nat, j < 31 → hI h14 (A 7) j = -1 := fun j hj => by rw [sameI (A 7) (nA (7, 21, 31) (by decide))]; exact z3 j hj
  have z914 : ∀ j : Nat, j < 1550 → hI h14 (A 9) j = -1 := fun j hj => by rw [sameI (A 9) (nA (9, 21, 1550) (by decide))]; exact z9 j hj
  have mi := MI.new (Y := fun b => b = m ∨ b = o ∨ ∃ t ∈ MA, b = A t.1) m14 ⟨Or.inl rfl, fun t ht => Or.inr (Or.inr ⟨t, ht, rfl⟩)⟩ zm14
    (fun j => zA (16, 21, 50) (by decide) (by decide) (by decide) j) z7
  have xm : (x, 1, 0) ∈ KL x D := by simp [KL]
  have kx1 : hK h4 x = 1 := (b4.1 _ xm).1
  have kx : hK h4 x ≠ 0 := by rw [kx1]; decide
  have ex14 : hI h14 x = hI h4 x := ((f x kx).2.2 (nm x kx)).1
  have ci := CI.new (Y := fun b => b = m ∨ b = o ∨ ∃ t ∈ MA, b = A t.1) b14 (by rw [ex14, hx4]; exact Or.inr rfl) h01
    (fun a ha => by
      rcases ha with ha | ha | ⟨t, ht, ha⟩
      · rw [ha, m14.1]; decide
      · rw [ha, ko]; decide
      · rw [ha, (m14.2.1 t ht).2.1]; exact kinds t ht)
    (fun t ht ha => by
      have k4 : hK h4 t.1 ≠ 0 := by rw [(b4.1 t ht).1]; exact (b4.1 t ht).2.2.1
      rcases ha with ha | ha | ⟨u, hu, ha⟩
      · exact nm _ k4 ha
      · have := (f4 t.1 k4).1
        rw [ha, zo] at this
        rw [ha] at k4
        exact k4 this.symm
      · have := (f8 t.1 k4).1
        rw [ha, (n10 u hu).1] at this
        rw [ha] at k4
        exact k4 this.symm)
    (fun ha => by
      rcases ha with ha | ha | ⟨u, hu, ha⟩
      · rw [← ha] at gm; omega
      · rw [← ha] at go; omega
      · have := (n10 u hu).2
        rw [← ha] at this; omega)
  have d4 : (D 4, 22, 50) ∈ KL x D := by simp [KL]
  have cz : Cz h14 (fun _ => []) (fun _ _ => 0) D [] z0 := by
    have no1 : ∀ t : Nat, 1 ≤ t → t ≤ zn z0 → False := fun t t1 t2 => by
      have t2 : t ≤ 0 := t2
      omega
    exact ⟨⟨⟨rfl, List.nodup_nil, fun t t1 t2 => (no1 t t1 t2).elim, fun t _ t1 t2 => (no1 t t1 t2).elim, fun t _ t1 t2 => (no1 t t1 t2).elim, fun t _ _ _ t1 t2 => (no1 t t1 t2).elim, fun t _ _ t1 t2 => (no1 t t1 t2).elim, fun s _ => (b14.1 _ d4).2.2.2.2 s⟩, fun t t1 t2 => (no1 t t1 t2).elim, rfl, List.nodup_nil, fun t => ⟨fun h => (nomatch h), fun h => (no1 t h.1 h.2.1).elim⟩, fun _ _ => rfl⟩, rfl, fun _ h => (nomatch h)⟩
  have mz : MZ h14 m A z0 := by
    refine ⟨zm14 2, fun t s t1 t2 hs => ⟨z914 _ (by omega), zA (11, 23, 1550) (by decide) (by decide) (by decide) _, zA (12, 23, 1550) (by decide) (by decide) (by decide) _, zJ (13, 22, 1550) (by decide) _⟩, fun t t1 t2 => ⟨zA (5, 21, 31) (by decide) (by decide) (by decide) _, z7 t (by omega), fun h => absurd rfl h, zA (6, 21, 31) (by decide) (by decide) (by decide) _, fun h => ?_⟩, fun s hs => ⟨zA (16, 21, 50) (by decide) (by decide) (by decide) _, fun k hk => absurd hk (Nat.not_lt_zero k)⟩, ⟨zm14 25, fun k hk => absurd hk (Nat.not_lt_zero k)⟩, fun s _ => zJ (1, 22, 50) (by decide) s⟩
    have h : t ≤ 0 := h
    omega
  refine law_loop hL 512 0 h14 (fun _ => False) _ _ 0 0 (by omega) (by omega) rfl (by decide) (by decide) ⟨_, _, _, _, _, z0, ci, mi, cz, mz, z0_w, rfl, by decide, Or.inr (Or.inl rfl), ko, no, ?_, fun t j t1 t2 => ?_⟩
  · rw [ex14, hl4]; exact (zm14 3).symm
  · have t2 : t ≤ 0 := t2
    omega
