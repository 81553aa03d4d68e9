/-! EXACT: read of the reference -/
theorem Z_read_197 {g : Gm} {Y : Nat → Prop} {h0 h : Hp} {a n r q s : Nat} {i1 : Int32} {v : Int64} {A : Nat → Nat} {zz : Zs} {post : Int64 → Hp → Prop} (m : MI Y h0 h a A n r q) (w : MZ h a A zz) (hr : r < 2000) (hs : s < 50)
    (hp : ∀ h' : Hp, MI Y h0 h' a A n (r + 1) 30 → MZ h' a A zz → hI h' a 0 = hI h a 0 → post v h') : wp_M_read_197 g post h a i1 (nI s) v := by
  obtain ⟨z, z1, z2, z3⟩ := m.2.2.2.2.2.2.2.2.1
  have d17 : (17, 21, 2000) ∈ MA := by decide
  have d18 : (18, 21, 2000) ∈ MA := by decide
  have d19 : (19, 22, 2000) ∈ MA := by decide
  obtain ⟨r1, r2, r3⟩ := m.2.1.row 17 21 2000 d17
  obtain ⟨u1, u2, u3⟩ := m.2.1.row 18 21 2000 d18
  obtain ⟨v1, v2, v3⟩ := m.2.1.row 19 22 2000 d19
  have i17 : vp_in (hI h a 20) (hN h (A 17)) := by rw [r3, z2]; exact vp_in_nI (by omega) (by omega)
  have ez : (nI z).toNatClampNeg = z := nI_clamp (by omega)
  unfold wp_M_read_197
  refine ⟨m.2.1.1, A 17, r1, m.2.1.1, r2, i17, fun h5 e5 => ?_⟩
  have m5 : MI Y h0 h5 a A n r q := by rw [e5]; exact m.wI d17 (by decide)
  have z5 : hI h5 a 20 = nI z := by rw [e5, sI_o (m.2.1.na 17 21 2000 d17)]; exact z2
  have f5 : hI h5 a 0 = hI h a 0 := by rw [e5, sI_o (m.2.1.na 17 21 2000 d17)]
  have k5 : hK h5 = hK h := by rw [e5]; rfl
  have n5 : hN h5 = hN h := by rw [e5]; rfl
  have r5 : hR h5 = hR h := by rw [e5]; rfl
  refine ⟨m5.2.1.1, A 18, by rw [r5]; exact u1, m5.2.1.1, by rw [k5]; exact u2, by rw [n5, u3, z5]; exact vp_in_nI (by omega) (by omega), fun h10 e10 => ?_⟩
  rw [z5, ez] at e10
  have z10 : hI h10 a 20 = nI z := by rw [e10, sI_o (m.2.1.na 18 21 2000 d18)]; exact z5
  have f10 : hI h10 a 0 = hI h a 0 := by rw [e10, sI_o (m.2.1.na 18 21 2000 d18)]; exact f5
  have k10 : hK h10 = hK h := by rw [e10, kK_sI, k5]
  have n10 : hN h10 = hN h := by rw [e10, kN_sI, n5]
  have r10 : hR h10 = hR h := by rw [e10, kR_sI, r5]
  refine ⟨by rw [k10]; exact m.2.1.1, A 19, by rw [r10]; exact v1, by rw [k10]; exact m.2.1.1, by rw [k10]; exact v2, by rw [n10, v3, z10]; exact vp_in_nI (by omega) (by omega), fun h15 e15 => ?_⟩
  have z15 : hI h15 a 20 = nI z := by rw [e15]; exact z10
  have f15 : hI h15 a 0 = hI h a 0 := by rw [e15]; exact f10
  have k15 : hK h15 = hK h := by rw [e15, kK_sJ, k10]
  refine ⟨by rw [k15]; exact m.2.1.1, fun x17 e17 => ⟨by rw [k15]; exact m.2.1.1, fun h19 e19 => hp _ ?_ ?_ ?_⟩⟩
  · rw [z15, nI_1] at e17
    rw [e19, e17, e15, e10]
    exact (m5.push z5 z1 hr hs).top.wJ (m.2.2.1.2 (19, 22, 2000) (by decide))
  · have w5 : MZ h5 a A zz := by rw [e5]; exact w.wO m.2.1 (by decide)
    have w10 : MZ h10 a A zz := by rw [e10]; exact w5.wO m5.2.1 (by decide)
    have j13 : A 13 ≠ A 19 := MA_ne m.2.1 13 19 (by decide) (by decide) (by decide)
    have j1 : A 1 ≠ A 19 := MA_ne m.2.1 1 19 (by decide) (by decide) (by decide)
    have w15 : MZ h15 a A zz := by
      rw [e15]
      exact w10.keep ⟨rfl, rfl⟩ (fun _ _ => rfl) ⟨by funext j; rw [rJ_sJ, if_neg (fun y => j13 y.1)], by funext j; rw [rJ_sJ, if_neg (fun y => j1 y.1)]⟩
    have m15 : Mst h15 a A := by rw [e15, e10, e5]; exact m.2.1
    rw [e19]
    exact w15.wF m15 (by decide)
  · rw [e19, rI_sI, if_neg (by omega)]; exact f15
/-- a throw -/
theorem Z_read_t {g : Gm} {Y : Nat → Prop} {h0 h : Hp} {a n r q : Nat} {i1 i2 x : Int32} {A : Nat → Nat} {zz : Zs} {post : Int64 → Hp → Prop} (m : MI Y h0 h a A n r q) (w : MZ h a A zz) (hx : ¬ x ≤ 0)
    (hp : ∀ h' : Hp, MI Y h0 h' a A n (r + 1) 30 → MZ h' a A zz → hI h' a 0 = x → post 0 h') : wp_M_read_61 g post h a i1 i2 a x := by
  unfold wp_M_read_61
  refine ⟨m.2.1.1, fun h2 e2 => ?_⟩
  have m2 : MI Y h0 h2 a A n r q := by rw [e2]; exact m.wF (by decide)
  have wz2 : MZ h2 a A zz := by rw [e2]; exact w.wF m.2.1 (by decide)
  have c2 : hI h2 a 0 = x := by rw [e2, rI_sI, if_pos ⟨rfl, rfl⟩]
  rw [c2]
  exact ⟨m2.2.1.1, fun q => absurd q hx, fun _ => hp _ (m2.top.monoR (Nat.le_succ r)) wz2 c2⟩
theorem Z_read_0 {g : Gm} {Y : Nat → Prop} {h0 h : Hp} {a n r q t s : Nat} {A : Nat → Nat} {zz : Zs} {v : Int64} {post : Int64 → Hp → Prop} (m : MI Y h0 h a A n r q) (w : MZ h a A zz) (oz : Zo zz) (zx : Zx zz) (hr : r < 2000) (ln : zn zz = n) (h10 : ∀ j : Nat, 0 ≤ hI h (A 10) j) (t1 : 1 ≤ t) (t2 : t ≤ zn zz) (hs : s < 50)
    (c4 : ¬ zI zz 2 t s = 0 → v = zK zz t s) (c5 : zI zz 2 t s = 0 → ¬ zI zz 0 t s = -1 → v = zG zz s) (c6 : zI zz 2 t s = 0 → zI zz 0 t s = -1 → v = aLat zz s (zn zz) 1)
    (hp : ∀ h' : Hp, MI Y h0 h' a A n (r + 1) 30 → MZ h' a A zz → hI h' a 0 = 0 → post v h') : wp_M_read_61 g post h a (nI t) (nI s) a 0 := by
  have o1 := oz.1
  unfold wp_M_read_61
  refine ⟨m.2.1.1, fun h2 e2 => ?_⟩
  have m2 : MI Y h0 h2 a A n r q := by rw [e2]; exact m.wF (by decide)
  have wz2 : MZ h2 a A zz := by rw [e2]; exact w.wF m.2.1 (by decide)
  have c2 : hI h2 a 0 = 0 := by rw [e2, rI_sI, if_pos ⟨rfl, rfl⟩]
  have g10 : ∀ j : Nat, 0 ≤ hI h2 (A 10) j := fun j => by rw [e2, sI_o (fun y => m.2.1.na 10 21 1550 (by decide) y.symm)]; exact h10 j
  rw [c2]
  refine ⟨m2.2.1.1, fun _ => ?_, fun q => absurd (by decide) q⟩
  obtain ⟨r1, r2, r3⟩ := m2.2.1.row 12 23 1550 (by decide)
  obtain ⟨u1, u2, u3⟩ := m2.2.1.row 1 22 50 (by decide)
  obtain ⟨v1, v2, v3⟩ := m2.2.1.row 9 21 1550 (by decide)
  obtain ⟨y1, y2, y3⟩ := m2.2.1.row 13 22 1550 (by decide)
  obtain ⟨w1, w2, w3⟩ := m2.2.1.row 10 21 1550 (by decide)
  have m5 := m2.2.1.1
  have eN : hI h2 a 2 = nI (zn zz) := wz2.1
  have end7 : ∀ {v' : Int64}, v = v' → wp_M_read_197 g post h2 a (nI t) (nI s) v' := fun {v'} ev => Z_read_197 m2 wz2 hr hs fun h' m' w' f' => by rw [← ev]; exact hp h' m' w' (f'.trans c2)
  have loop : ∀ (d u : Nat) (v' : Int64) (la : Int32), 1 ≤ u → u + d = zn zz + 1 → ((la = 0 ∧ v' = zG zz s ∧ v = aLat zz s d u) ∨ (v = v' ∧ ∀ k : Nat, u ≤ k → k ≤ zn zz → zI zz 2 k s = 0)) → wp_M_read_124 g post (d + 1) h2 a (nI t) (nI s) v' la (nI u) := by
    intro d
    induction d with
    | zero =>
      intro u v' la hu e cs
      unfold wp_M_read_124
      rw [eN]
      refine ⟨m5, fun _ => end7 ?_, fun c => absurd (nI_lt (by omega) (by omega)) c⟩
      rcases cs with ⟨-, q2, q3⟩ | ⟨q, -⟩
      · rw [q3, q2]; rfl
      · exact q
    | succ d ih =>
      intro u v' la hu e cs
      have nx : ∀ (v' : Int64) (la x1 : Int32), ((la = 0 ∧ v' = zG zz s ∧ v = aLat zz s d (u + 1)) ∨ (v = v' ∧ ∀ k : Nat, u + 1 ≤ k → k ≤ zn zz → zI zz 2 k s = 0)) → x1 = nI u + 1 → wp_M_read_124 g post (d + 1) h2 a (nI t) (nI s) v' la x1 := fun v' la x1 cs' e1 => by
        rw [nI_1] at e1; subst e1; exact ih (u + 1) v' la (by omega) (by omega) cs'
      have ec : (nI (50 * u + s)).toNatClampNeg = 50 * u + s := nI_clamp (by omega)
      obtain ⟨-, -, b3, b4⟩ := wz2.2.1 u s hu (by omega) hs
      unfold wp_M_read_124 wp_M_read_191
      rw [eN]
      refine ⟨m5, fun c => ?_, fun _ => ⟨m5, A 12, r1, M_of ⟨r2, by rw [r3]; exact vp_in_nI (by omega) (by omega), ?_⟩⟩⟩
      · have := (nI_ltI (by omega) (by omega)).mp c
        omega
      · rw [ec, b3]
        refine ⟨fun wz x1 e1 => nx _ _ x1 ?_ e1, fun wz => ⟨m5, A 10, w1, M_of ⟨w2, by rw [w3]; exact vp_in_nI (by omega) (by omega), ?_⟩⟩⟩
        · rcases cs with ⟨q1, q2, q3⟩ | ⟨q, q'⟩
          · refine Or.inl ⟨q1, q2, ?_⟩
            rw [q3]
            show (if zI zz 2 u s = 0 then aLat zz s d (u + 1) else zK zz u s) = _
            rw [if_pos wz]
          · exact Or.inr ⟨q, fun k k1 k2 => q' k (by omega) k2⟩
        · rcases cs with ⟨q1, q2, q3⟩ | ⟨q, q'⟩
          · rw [q1]
            refine ⟨fun _ => ⟨m5, A 10, w1, M_of ⟨w2, by rw [w3]; exact vp_in_nI (by omega) (by omega), m5, A 13, y1, M_of ⟨y2, by rw [y3]; exact vp_in_nI (by omega) (by omega), fun x1 e1 => nx _ _ x1 (Or.inr ⟨?_, fun k k1 k2 => ?_⟩) e1⟩⟩⟩, fun c => absurd (g10 _) c⟩
            · rw [ec, b4, q3]
              show (if zI zz 2 u s = 0 then aLat zz s d (u + 1) else zK zz u s) = _
              rw [if_neg wz]
            · by_cases cz : zI zz 2 k s = 0
              · exact cz
              · have := one_w oz zx hs hu (by omega) (by omega) k2 wz cz
                omega
          · exact absurd (q' u (by omega) (by omega)) wz
  obtain ⟨b1, b2, b3, b4⟩ := wz2.2.1 t s t1 (by omega) hs
  have et : (nI (50 * t + s)).toNatClampNeg = 50 * t + s := nI_clamp (by omega)
  refine ⟨m5, A 12, r1, M_of ⟨r2, by rw [r3]; exact vp_in_nI (by omega) (by omega), ?_⟩⟩
  rw [et, b3]
  refine ⟨fun wz => ⟨m5, A 1, u1, u2, by rw [u3]; exact vp_in_nI (by omega) (by omega), m5, A 9, v1, M_of ⟨v2, by rw [v3]; exact vp_in_nI (by omega) (by omega), ?_⟩⟩, fun wz => ⟨m5, A 13, y1, M_of ⟨y2, by rw [y3]; exact vp_in_nI (by omega) (by omega), ?_⟩⟩⟩
  · rw [et, b1, nI_clamp (n := s) (by omega), wz2.2.2.2.2.2 s hs]
    exact ⟨fun l => end7 (c5 wz l), fun l => ⟨zn zz + 1, loop (zn zz) 1 _ _ (by omega) (by omega) (Or.inl ⟨rfl, rfl, c6 wz l⟩)⟩⟩
  · rw [et, b4, ← c4 wz]
    exact hp _ (m2.top.monoR (Nat.le_succ r)) wz2 c2
theorem Z_read {g : Gm} {Y : Nat → Prop} {h0 h : Hp} {a n r q : Nat} {i1 i2 : Int32} {A : Nat → Nat} {zz : Zs} {post : Int64 → Hp → Prop} (m : MI Y h0 h a A n r q) (w : MZ h a A zz) (oz : Zo zz) (zx : Zx zz) (hr : r < 2000) (ln : zn zz = n) (h10 : ∀ j : Nat, 0 ≤ hI h (A 10) j)
    (hp : ∀ h' : Hp, MI Y h0 h' a A n (r + 1) 30 → MZ h' a A zz → hI h' a 0 = (aRead zz i1 i2).1 → post (aRead zz i1 i2).2 h') : wp_M_read g post h a i1 i2 := by
  have o1 := oz.1
  obtain ⟨r1, r2, r3⟩ := m.2.1.row 5 21 31 (by decide)
  obtain ⟨u1, u2, u3⟩ := m.2.1.row 9 21 1550 (by decide)
  obtain ⟨v1, v2, v3⟩ := m.2.1.row 11 23 1550 (by decide)
  have m5 := m.2.1.1
  have th : ∀ x : Int32, ¬ x ≤ 0 → aRead zz i1 i2 = (x, 0) → wp_M_read_61 g post h a i1 i2 a x := fun x hx e => by
    rw [e] at hp
    exact Z_read_t m w hx hp
  unfold wp_M_read wp_M_read_16 wp_M_read_56 wp_M_read_60
  rcases aTk_c (z := zz) i1 o1 with ⟨t, t1, t2, e1, ea⟩ | ⟨ea, hn⟩
  · rcases aSn_c i2 with ⟨s, hs, es, ns⟩ | ⟨ns, hns⟩
    · refine ⟨m5, M_isTask m5 w.1 o1 (fun _ _ _ _ => ⟨fun q => absurd q (by decide), fun _ => M_isSegment (fun _ _ _ => ⟨fun _ => ⟨m5, A 5, r1, r2, by rw [r3, e1]; exact vp_in_nI (by omega) (by omega), ?_⟩, fun q => absurd q (by decide)⟩) (fun q => absurd es (q s hs))⟩) (fun q => absurd e1 (q t t1 t2))⟩
      have et : i1.toNatClampNeg = t := by rw [e1]; exact nI_clamp (by omega)
      have ec : (nI (50 * t + s)).toNatClampNeg = 50 * t + s := nI_clamp (by omega)
      obtain ⟨b1, b2, b3, b4⟩ := w.2.1 t s t1 (by omega) hs
      rw [et, (w.2.2.1 t t1 (by omega)).1]
      refine ⟨fun c => th 2 (by decide) (aRead_2 ea ns t1 hs c), fun c => ?_⟩
      have go : ¬ (zI zz 0 t s = -1 ∧ zI zz 1 t s = 0) → wp_M_read_61 g post h a i1 i2 a 0 := fun d => by
        have fst : (aRead zz i1 i2).1 = 0 := by
          by_cases wz : zI zz 2 t s = 0
          · by_cases l : zI zz 0 t s = -1
            · rw [aRead_6 ea ns t1 hs c d wz l]
            · rw [aRead_5 ea ns t1 hs c d wz l]
          · rw [aRead_4 ea ns t1 hs c d wz]
        rw [fst] at hp
        have := Z_read_0 (g := g) (v := (aRead zz i1 i2).2) (post := post) m w oz zx hr ln h10 t1 t2 hs (fun wz => by rw [aRead_4 ea ns t1 hs c d wz]) (fun wz l => by rw [aRead_5 ea ns t1 hs c d wz l]) (fun wz l => by rw [aRead_6 ea ns t1 hs c d wz l]) hp
        rw [← e1, ← es] at this
        exact this
      have q2 := fun d => th 2 (by decide) (aRead_3 ea ns t1 hs c d)
      rw [e1, es] at go q2 ⊢
      refine ⟨m5, A 9, u1, M_of ⟨u2, by rw [u3]; exact vp_in_nI (by omega) (by omega), ?_⟩⟩
      rw [ec, b1]
      refine ⟨fun l => go (fun y => l y.1), fun l => ⟨m5, A 11, v1, M_of ⟨v2, by rw [v3]; exact vp_in_nI (by omega) (by omega), ?_⟩⟩⟩
      rw [ec, b2]
      exact ⟨fun k => go (fun y => k y.2), fun k => q2 ⟨l, k⟩⟩
    · exact ⟨m5, M_isTask m5 w.1 o1 (fun _ _ _ _ => ⟨fun q => absurd q (by decide), fun _ => M_isSegment (fun s' es' hs' => absurd es' (hns s' hs')) (fun _ => ⟨fun q => absurd rfl q, fun _ => th 1 (by decide) (aRead_1 (Or.inr ns))⟩)⟩) (fun q => absurd e1 (q t t1 t2))⟩
  · exact ⟨m5, M_isTask m5 w.1 o1 (fun t et t1 t2 => absurd et (hn t t1 t2)) (fun _ => ⟨fun _ => th 1 (by decide) (aRead_1 (Or.inl ea)), fun q => absurd rfl q⟩)⟩
