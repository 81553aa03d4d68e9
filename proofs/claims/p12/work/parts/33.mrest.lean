/-! PURE: the reference's other calls -/
theorem MI.monoR {Y : Nat → Prop} {h0 h : Hp} {a n r r' q : Nat} {A : Nat → Nat} (m : MI Y h0 h a A n r q) (hr : r ≤ r') : MI Y h0 h a A n r' q := by
  obtain ⟨m1, m2, m3, m4, m5, m6, m7, m8, ⟨z, z1, z2, z3⟩, m10⟩ := m
  exact ⟨m1, m2, m3, m4, m5, m6, m7, m8, ⟨z, by omega, z2, z3⟩, m10⟩
theorem MI.task {g : Gm} {Y : Nat → Prop} {h0 h : Hp} {a n r q : Nat} {i : Int32} {A : Nat → Nat} {post : Int32 → Hp → Prop} (m : MI Y h0 h a A n r q)
    (p1 : ∀ h' : Hp, n < 30 → MI Y h0 h' a A (n + 1) r 30 → post (nI (n + 1)) h') (p0 : ∀ h' : Hp, n = 30 → MI Y h0 h' a A n r 30 → post (-1) h') : wp_M_task g post h a i := by
  refine M_task m.2.1 m.2.2.2.1 m.2.2.2.2.1 (fun hn => p1 _ hn ?_) (fun hn => p0 _ hn (m.wF (by decide)).top)
  have m1 : MI Y h0 (sI h a 0 0) a A n r q := m.wF (by decide)
  have m2 : MI Y h0 (sI (sI h a 0 0) a 2 (nI (n + 1))) a A (n + 1) r q := by
    obtain ⟨m1, m2, m3, m4, m5, m6, m7, m8, ⟨z, z1, z2, z3⟩, ⟨y, y1, y2⟩⟩ := m1
    have o : ∀ j kj lj : Nat, (j, kj, lj) ∈ MA → hI (sI (sI h a 0 0) a 2 (nI (n + 1))) (A j) = hI (sI h a 0 0) (A j) := fun j kj lj h1 => sI_o (fun z => m2.na j kj lj h1 z.symm)
    have o7 := o 7 21 31 (by decide)
    have o5 := o 5 21 31 (by decide)
    have o15 := o 15 21 1550 (by decide)
    have o16 := o 16 21 50 (by decide)
    have o18 := o 18 21 2000 (by decide)
    exact ⟨m1.sI m3.1, m2.sI, m3, by rw [rI_sI, if_pos ⟨rfl, rfl⟩], by omega, by rw [o7, o15, o16]; exact m6, by rw [o7]; exact m7, by rw [o7, o5]; exact m8, ⟨z, z1, by rw [rI_sI, if_neg (by omega)]; exact z2, by rw [o18]; exact z3⟩, ⟨y, y1, by rw [rI_sI, if_neg (by omega)]; exact y2.1, by rw [rI_sI, if_neg (by omega)]; exact y2.2⟩⟩
  exact (m2.wI (k := 4) (kd := 21) (len := 31) (by decide) (by decide)).top
theorem MI.refusal {g : Gm} {Y : Nat → Prop} {h0 h : Hp} {a n r q : Nat} {i : Int32} {A : Nat → Nat} {post : Int32 → Prop} (m : MI Y h0 h a A n r q) (p0 : ∀ t : Nat, i = nI t → 1 ≤ t → t ≤ 30 → post 0) (p1 : ∀ x : Int32, ¬ x = 0 → post x) : wp_M_refusal g post h a i := by
  obtain ⟨r1, r2, r3⟩ := m.2.1.row 5 21 31 (by decide)
  unfold wp_M_refusal wp_M_refusal_28
  refine ⟨m.2.1.1, m.isTask (fun t et t1 t2 => ⟨fun _ => ⟨m.2.1.1, A 5, r1, r2, ?_, fun _ => p0 t et t1 t2, fun _ => p1 _ (by decide)⟩, fun c => absurd c (by decide)⟩) ⟨fun c => absurd rfl c, fun _ => p1 _ (by decide)⟩⟩
  rw [r3, et]; exact vp_in_nI (by omega) (by omega)
theorem MI.writesOf {g : Gm} {Y : Nat → Prop} {h0 h : Hp} {a n r q t : Nat} {A : Nat → Nat} {post : Int32 → Prop} (m : MI Y h0 h a A n r q) (ht : t ≤ 30) (hp : ∀ x : Int32, post x) : wp_M_writesOf g post h a (nI t) := by
  have h50 : (50 : Int32) = nI 50 := rfl
  obtain ⟨r1, r2, r3⟩ := m.2.1.row 12 23 1550 (by decide)
  have loop : ∀ (d s : Nat) (x : Int32), s + d = 50 → wp_M_writesOf_4 g post (d + 1) h a (nI t) x (nI s) := by
    intro d
    induction d with
    | zero =>
      intro s x e
      have e : s = 50 := by omega
      subst e
      unfold wp_M_writesOf_4
      exact ⟨fun _ => hp _, fun c => absurd (by decide) c⟩
    | succ d ih =>
      intro s x e
      unfold wp_M_writesOf_4 wp_M_writesOf_29
      refine ⟨fun _ => hp _, fun _ => ⟨m.2.1.1, A 12, r1, M_of ⟨r2, by rw [r3]; exact vp_in_nI (by omega) (by omega), fun _ x1 _ x2 e2 => ?_, fun _ x1 _ x2 e2 => ?_⟩⟩⟩ <;> rw [nI_1] at e2 <;> subst e2 <;> exact ih (s + 1) _ (by omega)
  unfold wp_M_writesOf
  exact ⟨51, loop 50 0 0 rfl⟩
theorem MI.write {g : Gm} {Y : Nat → Prop} {h0 h : Hp} {a n r q : Nat} {i1 i2 : Int32} {l3 : Int64} {A : Nat → Nat} {post : Int32 → Hp → Prop} (m : MI Y h0 h a A n r q)
    (hp : ∀ (x : Int32) (h' : Hp), MI Y h0 h' a A n r 30 → post x h') : wp_M_write g post h a i1 i2 l3 := by
  unfold wp_M_write
  refine ⟨m.2.1.1, fun h2 e2 => ?_⟩
  have m2 : MI Y h0 h2 a A n r q := by rw [e2]; exact m.wF (by decide)
  refine ⟨m2.2.1.1, m2.isTask (fun t et t1 t2 => ⟨fun _ => ?_, fun c => absurd c (by decide)⟩) ⟨fun c => absurd rfl c, fun _ => hp _ _ m2.top⟩⟩
  subst et
  refine M_isSegment (fun s es s1 => ⟨fun _ => ?_, fun c => absurd c (by decide)⟩) (fun _ => ⟨fun c => absurd rfl c, fun _ => hp _ _ m2.top⟩)
  subst es
  obtain ⟨r1, r2, r3⟩ := m2.2.1.row 5 21 31 (by decide)
  obtain ⟨u1, u2, u3⟩ := m2.2.1.row 9 21 1550 (by decide)
  obtain ⟨v1, v2, v3⟩ := m2.2.1.row 12 23 1550 (by decide)
  refine ⟨m2.2.1.1, A 5, r1, r2, by rw [r3]; exact vp_in_nI (by omega) (by omega), fun _ => ⟨m2.2.1.1, A 9, u1, M_of ⟨u2, by rw [u3]; exact vp_in_nI (by omega) (by omega), fun _ => ⟨m2.2.1.1, A 12, v1, M_of ⟨v2, by rw [v3]; exact vp_in_nI (by omega) (by omega), Or.inr rfl, fun h28 e28 => ?_⟩⟩, fun _ => hp _ _ m2.top⟩⟩, fun _ => hp _ _ m2.top⟩
  have m28 : MI Y h0 h28 a A n r q := by rw [e28]; exact m2.wI (k := 12) (kd := 23) (len := 1550) (by decide) (by decide)
  obtain ⟨y1, y2, y3⟩ := m28.2.1.row 13 22 1550 (by decide)
  refine ⟨m28.2.1.1, A 13, y1, M_of ⟨y2, by rw [y3]; exact vp_in_nI (by omega) (by omega), fun h35 e35 => ?_⟩⟩
  have m35 : MI Y h0 h35 a A n r q := by rw [e35]; exact m28.wJ (m28.2.2.1.2 (13, 22, 1550) (by decide))
  refine ⟨m35.2.1.1, fun x37 _ => ⟨m35.2.1.1, fun h39 e39 => ?_⟩⟩
  have m39 : MI Y h0 h39 a A n r q := by rw [e39]; exact m35.wF (by decide)
  obtain ⟨z1, z2, z3⟩ := m39.2.1.row 10 21 1550 (by decide)
  refine ⟨m39.2.1.1, A 10, z1, M_of ⟨m39.2.1.1, z2, by rw [z3]; exact vp_in_nI (by omega) (by omega), fun h47 e47 => hp _ _ ?_⟩⟩
  rw [e47]
  exact (m39.wI (k := 10) (kd := 21) (len := 1550) (by decide) (by decide)).top
/-- a read is remembered -/
theorem MI.push {Y : Nat → Prop} {h0 h : Hp} {a n r q z s : Nat} {A : Nat → Nat} (m : MI Y h0 h a A n r q) (hz : hI h a 20 = nI z) (hzr : z ≤ r) (hr : r < 2000) (hs : s < 50) : MI Y h0 (sI (sI h (A 18) z (nI s)) a 20 (nI (z + 1))) a A n (r + 1) q := by
  have d18 : (18, 21, 2000) ∈ MA := by decide
  have m' : MI Y h0 (sI h (A 18) z (nI s)) a A n r q ∧ ∀ k : Nat, k < z + 1 → ∃ s : Nat, s < 50 ∧ hI (sI h (A 18) z (nI s)) (A 18) k = nI s := by
    obtain ⟨m1, m2, m3, m4, m5, m6, m7, m8, ⟨z', z1, z2, z3⟩, ⟨y, y1, y2⟩⟩ := m
    have ez : z' = z := by rw [hz] at z2; exact ((nI_eq (by omega) (by omega)).mp z2).symm
    subst ez
    have o : ∀ j kj lj : Nat, (j, kj, lj) ∈ MA → j ≠ 18 → hI (sI h (A 18) z' (nI s)) (A j) = hI h (A j) := fun j kj lj h1 h2 => sI_o (m2.ne j 18 kj lj 21 2000 h1 d18 h2)
    have oa : hI (sI h (A 18) z' (nI s)) a = hI h a := sI_o (m2.na 18 21 2000 d18)
    have o7 := o 7 21 31 (by decide) (by decide)
    have o5 := o 5 21 31 (by decide) (by decide)
    have o15 := o 15 21 1550 (by decide) (by decide)
    have o16 := o 16 21 50 (by decide) (by decide)
    have en : ∀ k : Nat, k < z' + 1 → ∃ s' : Nat, s' < 50 ∧ hI (sI h (A 18) z' (nI s)) (A 18) k = nI s' := fun k hk => by
      rw [rI_sI]
      by_cases c : k = z'
      · exact ⟨s, hs, by rw [if_pos ⟨rfl, c⟩]⟩
      · rw [if_neg (fun q => c q.2)]; exact z3 k (by omega)
    refine ⟨⟨m1.sI (m3.2 _ d18), m2.sI, m3, by rw [oa]; exact m4, m5, by rw [o7, o15, o16]; exact m6, by rw [o7]; exact m7, by rw [o7, o5]; exact m8, ⟨z', z1, by rw [oa]; exact z2, fun k hk => en k (by omega)⟩, ⟨y, y1, by rw [oa]; exact y2⟩⟩, fun k hk => ?_⟩
    obtain ⟨s', s1, s2⟩ := en k hk
    by_cases c : k = z'
    · exact ⟨s, hs, by rw [rI_sI, if_pos ⟨rfl, c⟩]⟩
    · refine ⟨s', s1, ?_⟩
      rw [rI_sI, if_neg (fun q => c q.2)] at s2 ⊢
      exact s2
  refine (m'.1.monoR (Nat.le_succ r)).w20 (by omega) fun k hk => ?_
  rw [rI_sI]
  by_cases c : k = z
  · exact ⟨s, hs, by rw [if_pos ⟨rfl, c⟩]⟩
  · rw [if_neg (fun q => c q.2)]
    obtain ⟨z', y1, y2, y3⟩ := m.2.2.2.2.2.2.2.2.1
    have ez : z' = z := by rw [hz] at y2; exact ((nI_eq (by omega) (by omega)).mp y2).symm
    exact y3 k (by omega)
theorem MI.read_197 {g : Gm} {Y : Nat → Prop} {h0 h : Hp} {a n r q s : Nat} {i1 : Int32} {v : Int64} {A : Nat → Nat} {post : Int64 → Hp → Prop} (m : MI Y h0 h a A n r q) (hr : r < 2000) (hs : s < 50)
    (hp : ∀ (x : Int64) (h' : Hp), MI Y h0 h' a A n (r + 1) 30 → post x h') : wp_M_read_197 g post h a i1 (nI s) v := by
  obtain ⟨z, z1, z2, z3⟩ := m.2.2.2.2.2.2.2.2.1
  have d17 : (17, 21, 2000) ∈ MA := by decide
  have d18 : (18, 21, 2000) ∈ MA := by decide
  have d19 : (19, 22, 2000) ∈ MA := by decide
  obtain ⟨r1, r2, r3⟩ := m.2.1.row 17 21 2000 d17
  obtain ⟨u1, u2, u3⟩ := m.2.1.row 18 21 2000 d18
  obtain ⟨v1, v2, v3⟩ := m.2.1.row 19 22 2000 d19
  have i17 : vp_in (hI h a 20) (hN h (A 17)) := by rw [r3, z2]; exact vp_in_nI (by omega) (by omega)
  have ez : (nI z).toNatClampNeg = z := nI_clamp (by omega)
  unfold wp_M_read_197
  refine ⟨m.2.1.1, A 17, r1, m.2.1.1, r2, i17, fun h5 e5 => ?_⟩
  have m5 : MI Y h0 h5 a A n r q := by rw [e5]; exact m.wI d17 (by decide)
  have z5 : hI h5 a 20 = nI z := by rw [e5, sI_o (m.2.1.na 17 21 2000 d17)]; exact z2
  have k5 : hK h5 = hK h := by rw [e5]; rfl
  have n5 : hN h5 = hN h := by rw [e5]; rfl
  have r5 : hR h5 = hR h := by rw [e5]; rfl
  refine ⟨m5.2.1.1, A 18, by rw [r5]; exact u1, m5.2.1.1, by rw [k5]; exact u2, by rw [n5, u3, z5]; exact vp_in_nI (by omega) (by omega), fun h10 e10 => ?_⟩
  rw [z5, ez] at e10
  have z10 : hI h10 a 20 = nI z := by rw [e10, sI_o (m.2.1.na 18 21 2000 d18)]; exact z5
  have k10 : hK h10 = hK h := by rw [e10, kK_sI, k5]
  have n10 : hN h10 = hN h := by rw [e10, kN_sI, n5]
  have r10 : hR h10 = hR h := by rw [e10, kR_sI, r5]
  refine ⟨by rw [k10]; exact m.2.1.1, A 19, by rw [r10]; exact v1, by rw [k10]; exact m.2.1.1, by rw [k10]; exact v2, by rw [n10, v3, z10]; exact vp_in_nI (by omega) (by omega), fun h15 e15 => ?_⟩
  have z15 : hI h15 a 20 = nI z := by rw [e15]; exact z10
  have k15 : hK h15 = hK h := by rw [e15, kK_sJ, k10]
  refine ⟨by rw [k15]; exact m.2.1.1, fun x17 e17 => ⟨by rw [k15]; exact m.2.1.1, fun h19 e19 => hp _ _ ?_⟩⟩
  rw [z15, nI_1] at e17
  rw [e19, e17, e15, e10]
  exact (m5.push z5 z1 hr hs).top.wJ (m.2.2.1.2 (19, 22, 2000) d19)
theorem MI.read_61 {g : Gm} {Y : Nat → Prop} {h0 h : Hp} {a n r q : Nat} {i1 i2 x : Int32} {A : Nat → Nat} {post : Int64 → Hp → Prop} (m : MI Y h0 h a A n r q) (hr : r < 2000) (hx : ¬ x ≤ 0 ∨ ∃ t s : Nat, i1 = nI t ∧ t ≤ 30 ∧ i2 = nI s ∧ s < 50)
    (hp : ∀ (x : Int64) (h' : Hp), MI Y h0 h' a A n (r + 1) 30 → post x h') : wp_M_read_61 g post h a i1 i2 a x := by
  unfold wp_M_read_61
  refine ⟨m.2.1.1, fun h2 e2 => ?_⟩
  have m2 : MI Y h0 h2 a A n r q := by rw [e2]; exact m.wF (by decide)
  have c2 : hI h2 a 0 = x := by rw [e2, rI_sI, if_pos ⟨rfl, rfl⟩]
  have up : ∀ v : Int64, post v h2 := fun v => hp _ _ (m2.top.monoR (Nat.le_succ r))
  rw [c2]
  refine ⟨m2.2.1.1, fun cx => ?_, fun _ => up _⟩
  obtain ⟨t, s, rfl, ht, rfl, hs⟩ : ∃ t s : Nat, i1 = nI t ∧ t ≤ 30 ∧ i2 = nI s ∧ s < 50 := by
    rcases hx with hx | hx
    · exact absurd cx hx
    · exact hx
  obtain ⟨r1, r2, r3⟩ := m2.2.1.row 12 23 1550 (by decide)
  obtain ⟨u1, u2, u3⟩ := m2.2.1.row 1 22 50 (by decide)
  obtain ⟨v1, v2, v3⟩ := m2.2.1.row 9 21 1550 (by decide)
  obtain ⟨y1, y2, y3⟩ := m2.2.1.row 13 22 1550 (by decide)
  obtain ⟨w1, w2, w3⟩ := m2.2.1.row 10 21 1550 (by decide)
  have hn := m2.2.2.2.2.1
  have m5 := m2.2.1.1
  have loop : ∀ (d u : Nat) (v : Int64) (la : Int32), u + d = n + 1 → wp_M_read_124 g post (d + 1) h2 a (nI t) (nI s) v la (nI u) := by
    intro d
    induction d with
    | zero =>
      intro u v la e
      unfold wp_M_read_124
      rw [m2.2.2.2.1]
      exact ⟨m5, fun _ => m2.read_197 hr hs hp, fun c => absurd (nI_lt (by omega) (by omega)) c⟩
    | succ d ih =>
      intro u v la e
      have nx : ∀ (v : Int64) (la x1 : Int32), x1 = nI u + 1 → wp_M_read_124 g post (d + 1) h2 a (nI t) (nI s) v la x1 := fun v la x1 e1 => by
        rw [nI_1] at e1; subst e1; exact ih (u + 1) v la (by omega)
      unfold wp_M_read_124 wp_M_read_191
      refine ⟨m5, fun _ => m2.read_197 hr hs hp, fun _ => ⟨m5, A 12, r1, M_of ⟨r2, by rw [r3]; exact vp_in_nI (by omega) (by omega), fun _ => nx _ _, fun _ => ⟨m5, A 10, w1, M_of ⟨w2, by rw [w3]; exact vp_in_nI (by omega) (by omega), fun _ => ⟨m5, A 10, w1, M_of ⟨w2, by rw [w3]; exact vp_in_nI (by omega) (by omega), m5, A 13, y1, M_of ⟨y2, by rw [y3]; exact vp_in_nI (by omega) (by omega), nx _ _⟩⟩⟩, fun _ => nx _ _⟩⟩⟩⟩⟩
  refine ⟨m5, A 12, r1, M_of ⟨r2, by rw [r3]; exact vp_in_nI (by omega) (by omega), fun _ => ⟨m5, A 1, u1, u2, by rw [u3]; exact vp_in_nI (by omega) (by omega), m5, A 9, v1, M_of ⟨v2, by rw [v3]; exact vp_in_nI (by omega) (by omega), fun _ => m2.read_197 hr hs hp, fun _ => ⟨n + 1, loop n 1 _ _ (by omega)⟩⟩⟩, fun _ => ⟨m5, A 13, y1, M_of ⟨y2, by rw [y3]; exact vp_in_nI (by omega) (by omega), up _⟩⟩⟩⟩
theorem MI.read {g : Gm} {Y : Nat → Prop} {h0 h : Hp} {a n r q : Nat} {i1 i2 : Int32} {A : Nat → Nat} {post : Int64 → Hp → Prop} (m : MI Y h0 h a A n r q) (hr : r < 2000)
    (hp : ∀ (x : Int64) (h' : Hp), MI Y h0 h' a A n (r + 1) 30 → post x h') : wp_M_read g post h a i1 i2 := by
  obtain ⟨r1, r2, r3⟩ := m.2.1.row 5 21 31 (by decide)
  obtain ⟨u1, u2, u3⟩ := m.2.1.row 9 21 1550 (by decide)
  obtain ⟨v1, v2, v3⟩ := m.2.1.row 11 23 1550 (by decide)
  have m5 := m.2.1.1
  unfold wp_M_read wp_M_read_16 wp_M_read_56 wp_M_read_60
  refine ⟨m5, m.isTask (fun t et t1 t2 => ⟨fun c => absurd c (by decide), fun _ => ?_⟩) ⟨fun _ => m.read_61 hr (Or.inl (by decide)) hp, fun c => absurd rfl c⟩⟩
  refine M_isSegment (fun s es s1 => ⟨fun _ => ?_, fun c => absurd c (by decide)⟩) (fun _ => ⟨fun c => absurd rfl c, fun _ => m.read_61 hr (Or.inl (by decide)) hp⟩)
  have q0 : wp_M_read_61 g post h a i1 i2 a 0 := m.read_61 hr (Or.inr ⟨t, s, et, t2, es, s1⟩) hp
  have q2 : wp_M_read_61 g post h a i1 i2 a 2 := m.read_61 hr (Or.inl (by decide)) hp
  subst et es
  exact ⟨m5, A 5, r1, r2, by rw [r3]; exact vp_in_nI (by omega) (by omega), fun _ => q2, fun _ => ⟨m5, A 9, u1, M_of ⟨u2, by rw [u3]; exact vp_in_nI (by omega) (by omega), fun _ => q0, fun _ => ⟨m5, A 11, v1, M_of ⟨v2, by rw [v3]; exact vp_in_nI (by omega) (by omega), fun _ => q0, fun _ => q2⟩⟩⟩⟩⟩
theorem MI.isInOrder {g : Gm} {Y : Nat → Prop} {h0 h : Hp} {a n r q : Nat} {i : Int32} {A : Nat → Nat} {post : Int32 → Prop} (m : MI Y h0 h a A n r q) (hr : r ≤ 2000) (hp : ∀ x : Int32, post x) : wp_M_isInOrder g post h a i := by
  obtain ⟨z, z1, z2, z3⟩ := m.2.2.2.2.2.2.2.2.1
  obtain ⟨r1, r2, r3⟩ := m.2.1.row 17 21 2000 (by decide)
  obtain ⟨u1, u2, u3⟩ := m.2.1.row 18 21 2000 (by decide)
  obtain ⟨v1, v2, v3⟩ := m.2.1.row 19 22 2000 (by decide)
  obtain ⟨w1, w2, w3⟩ := m.2.1.row 1 22 50 (by decide)
  have m5 := m.2.1.1
  have loop : ∀ (d k : Nat) (x : Int32), k + d = z → zB x → wp_M_isInOrder_4 g post (d + 1) h a i x (nI k) := by
    intro d
    induction d with
    | zero =>
      intro k x e hx
      have e : k = z := by omega
      subst e
      unfold wp_M_isInOrder_4
      rw [z2]
      exact ⟨m5, fun _ => ⟨hx, hp _⟩, fun c => absurd (nI_le (Nat.le_refl _) (by omega)) c⟩
    | succ d ih =>
      intro k x e hx
      have nx : ∀ y : Int32, zB y → ∀ x1 : Int32, x1 = nI k + 1 → wp_M_isInOrder_4 g post (d + 1) h a i y x1 := fun y hy x1 e1 => by
        rw [nI_1] at e1; subst e1; exact ih (k + 1) y (by omega) hy
      obtain ⟨s, s1, s2⟩ := z3 k (by omega)
      have n0 := nx 0 (Or.inl rfl)
      have n1 := nx 1 (Or.inr rfl)
      unfold wp_M_isInOrder_4 wp_M_isInOrder_51 wp_M_isInOrder_47 wp_M_isInOrder_52
      refine ⟨m5, fun _ => ⟨hx, hp _⟩, fun _ => ⟨fun _ => n0, fun _ => ⟨m5, A 17, r1, r2, by rw [r3]; exact vp_in_nI (by omega) (by omega), fun _ => n1, fun _ => ⟨m5, A 1, w1, m5, A 18, u1, u2, by rw [u3]; exact vp_in_nI (by omega) (by omega), w2, ?_, m5, A 19, v1, v2, by rw [v3]; exact vp_in_nI (by omega) (by omega), fun _ => n0, fun _ => n1⟩⟩⟩⟩
      rw [w3, nI_clamp (by omega), s2]
      exact vp_in_nI (by omega) (by omega)
  unfold wp_M_isInOrder
  exact ⟨z + 1, loop z 0 1 (by omega) (Or.inr rfl)⟩
theorem MI.agree {g : Gm} {Y : Nat → Prop} {h0 h : Hp} {a n r q t : Nat} {A : Nat → Nat} {post : Int32 → Hp → Prop} (m : MI Y h0 h a A n r q) (hr : r ≤ 2000) (ht : t ≤ 30)
    (hp : ∀ (x : Int32) (h' : Hp), MI Y h0 h' a A n r 30 → post x h') : wp_M_agree g post h a (nI t) := by
  have h50 : (50 : Int32) = nI 50 := rfl
  have loop : ∀ (d s : Nat) (h : Hp), s + d = 50 → MI Y h0 h a A n r q → wp_M_agree_26 g post (d + 1) h a (nI t) (nI s) := by
    intro d
    induction d with
    | zero =>
      intro s h e m
      have e : s = 50 := by omega
      subst e
      unfold wp_M_agree_26
      exact ⟨fun _ => ⟨m.2.1.1, m.clear hr ht fun x h' q' _ _ m' => hp _ _ m'.top⟩, fun c => absurd (by decide) c⟩
    | succ d ih =>
      intro s h e m
      obtain ⟨r1, r2, r3⟩ := m.2.1.row 12 23 1550 (by decide)
      obtain ⟨u1, u2, u3⟩ := m.2.1.row 1 22 50 (by decide)
      obtain ⟨y1, y2, y3⟩ := m.2.1.row 13 22 1550 (by decide)
      have m5 := m.2.1.1
      have i1 : vp_in (nI s) (hN h (A 1)) := by rw [u3]; exact vp_in_nI (by omega) (by omega)
      have nx : ∀ v : Int64, wp_M_agree_69 g post (fun h v0 v1 v2 => wp_M_agree_26 g post (d + 1) h v0 v1 v2) h a (nI t) (nI s) (A 1) (nI s) v := fun v => by
        unfold wp_M_agree_69
        refine ⟨u2, i1, fun h2 e2 x3 e3 => ?_⟩
        rw [nI_1] at e3
        subst e3
        exact ih (s + 1) h2 (by omega) (by rw [e2]; exact m.wJ (m.2.2.1.2 (1, 22, 50) (by decide)))
      unfold wp_M_agree_26
      refine ⟨fun c => ?_, fun _ => ⟨m5, A 1, u1, m5, A 12, r1, M_of ⟨r2, by rw [r3]; exact vp_in_nI (by omega) (by omega), fun _ => ⟨m5, A 1, u1, u2, i1, nx _⟩, fun _ => ⟨m5, A 13, y1, M_of ⟨y2, by rw [y3]; exact vp_in_nI (by omega) (by omega), nx _⟩⟩⟩⟩⟩
      rw [h50] at c
      have := (nI_leI (by omega) (by omega)).mp c
      omega
  have q21 : ∀ x : Int32, zB x → wp_M_agree_21 g post h a (nI t) a x := fun x hx => by
    unfold wp_M_agree_21
    refine ⟨m.2.1.1, hx, fun h2 e2 => ⟨51, loop 50 0 h2 rfl ?_⟩⟩
    rw [e2]; exact m.wF (by decide)
  have q1 := q21 1 (Or.inr rfl)
  have q0 := q21 0 (Or.inl rfl)
  unfold wp_M_agree wp_M_agree_16
  exact ⟨m.2.1.1, fun _ => q1, fun _ => ⟨m.2.1.1, m.isInOrder hr fun x => ⟨fun _ => q0, fun _ => q1⟩⟩⟩
theorem MI.sync {g : Gm} {Y : Nat → Prop} {h0 h : Hp} {a n r q : Nat} {i : Int32} {A : Nat → Nat} {post : Int32 → Hp → Prop} (m : MI Y h0 h a A n r q) (hr : r ≤ 2000)
    (hp : ∀ (x : Int32) (h' : Hp), MI Y h0 h' a A n r 30 → post x h') : wp_M_sync g post h a i := by
  unfold wp_M_sync
  refine ⟨m.2.1.1, fun h2 e2 => ?_⟩
  have m2 : MI Y h0 h2 a A n r q := by rw [e2]; exact m.wF (by decide)
  refine ⟨m2.2.1.1, m2.refusal (fun t et t1 t2 => ⟨fun _ => ?_, fun c => absurd rfl c⟩) (fun x hx => ⟨fun c => absurd c hx, fun _ => hp _ _ m2.top⟩)⟩
  subst et
  exact ⟨m2.2.1.1, m2.writesOf t2 fun x => ⟨m2.2.1.1, m2.agree hr t2 fun _ h' m' => hp _ _ m'⟩⟩
theorem MI.checkpoint {g : Gm} {Y : Nat → Prop} {h0 h : Hp} {a n r q : Nat} {i : Int32} {A : Nat → Nat} {post : Int32 → Hp → Prop} (m : MI Y h0 h a A n r q) (hr : r ≤ 2000)
    (hp : ∀ (x : Int32) (h' : Hp), MI Y h0 h' a A n r 30 → post x h') : wp_M_checkpoint g post h a i := by
  unfold wp_M_checkpoint wp_M_checkpoint_24
  refine ⟨m.2.1.1, fun h2 e2 => ?_⟩
  have m2 : MI Y h0 h2 a A n r q := by rw [e2]; exact m.wF (by decide)
  refine ⟨m2.2.1.1, m2.refusal (fun t et t1 t2 => ⟨fun _ => ?_, fun c => absurd rfl c⟩) (fun x hx => ⟨fun c => absurd c hx, fun _ => hp _ _ m2.top⟩)⟩
  subst et
  exact ⟨m2.2.1.1, m2.agree hr t2 fun _ h' m' => hp _ _ m'⟩
theorem MI.backout {g : Gm} {Y : Nat → Prop} {h0 h : Hp} {a n r q : Nat} {i : Int32} {A : Nat → Nat} {post : Int32 → Hp → Prop} (m : MI Y h0 h a A n r q) (hr : r ≤ 2000)
    (hp : ∀ (x : Int32) (h' : Hp), MI Y h0 h' a A n r 30 → post x h') : wp_M_backout g post h a i := by
  unfold wp_M_backout
  refine ⟨m.2.1.1, fun h2 e2 => ?_⟩
  have m2 : MI Y h0 h2 a A n r q := by rw [e2]; exact m.wF (by decide)
  obtain ⟨r1, r2, r3⟩ := m2.2.1.row 5 21 31 (by decide)
  refine ⟨m2.2.1.1, m2.isTask (fun t et t1 t2 => ⟨fun _ => ?_, fun c => absurd c (by decide)⟩) ⟨fun c => absurd rfl c, fun _ => hp _ _ m2.top⟩⟩
  subst et
  exact ⟨m2.2.1.1, A 5, r1, r2, by rw [r3]; exact vp_in_nI (by omega) (by omega), fun _ => ⟨m2.2.1.1, m2.writesOf t2 fun x => ⟨m2.2.1.1, m2.clear hr t2 fun _ h' q' _ _ m' => hp _ _ m'.top⟩⟩, fun _ => hp _ _ m2.top⟩
theorem MI.dead {g : Gm} {Y : Nat → Prop} {h0 h : Hp} {a n r q : Nat} {i : Int32} {A : Nat → Nat} {post : Int32 → Hp → Prop} (m : MI Y h0 h a A n r q) (hr : r ≤ 2000)
    (hp : ∀ (x : Int32) (h' : Hp), MI Y h0 h' a A n r 30 → post x h') : wp_M_dead g post h a i := by
  unfold wp_M_dead wp_M_dead_36
  refine ⟨m.2.1.1, fun h2 e2 => ?_⟩
  have m2 : MI Y h0 h2 a A n r q := by rw [e2]; exact m.wF (by decide)
  obtain ⟨r1, r2, r3⟩ := m2.2.1.row 5 21 31 (by decide)
  refine ⟨m2.2.1.1, m2.isTask (fun t et t1 t2 => ⟨fun _ => ?_, fun c => absurd c (by decide)⟩) ⟨fun c => absurd rfl c, fun _ => hp _ _ m2.top⟩⟩
  subst et
  exact ⟨m2.2.1.1, A 5, r1, r2, by rw [r3]; exact vp_in_nI (by omega) (by omega), fun _ => ⟨m2.2.1.1, m2.clear hr t2 fun _ h' q' _ _ m' => hp _ _ m'.top⟩, fun _ => hp _ _ m2.top⟩
theorem MI.ring {g : Gm} {Y : Nat → Prop} {h0 h : Hp} {a n r q : Nat} {i : Int32} {A : Nat → Nat} {post : Int32 → Hp → Prop} (m : MI Y h0 h a A n r q)
    (hp : ∀ (x : Int32) (h' : Hp), MI Y h0 h' a A n r 30 → post x h') : wp_M_ring g post h a i := by
  unfold wp_M_ring wp_M_ring_26 wp_M_ring_27
  refine ⟨m.2.1.1, fun h2 e2 => ?_⟩
  have m2 : MI Y h0 h2 a A n r q := by rw [e2]; exact m.wF (by decide)
  obtain ⟨r1, r2, r3⟩ := m2.2.1.row 21 21 31 (by decide)
  obtain ⟨y, y1, y2, -⟩ := m2.2.2.2.2.2.2.2.2.2
  refine ⟨fun _ => hp _ _ m2.top, fun c => ⟨m2.2.1.1, fun _ => hp _ _ m2.top, fun d => ⟨m2.2.1.1, A 21, r1, r2, ?_, hp _ _ m2.top⟩⟩⟩
  obtain ⟨t, rfl, ht⟩ := nI_back c
  rw [y2] at d
  rw [r3]
  refine vp_in_nI ?_ (by omega)
  rcases Nat.lt_or_ge t y with z | z
  · omega
  · exact absurd (nI_le z ht) d
theorem MI.limit {g : Gm} {Y : Nat → Prop} {h0 h : Hp} {a n r q : Nat} {i : Int32} {A : Nat → Nat} {post : Int32 → Hp → Prop} (m : MI Y h0 h a A n r q)
    (p1 : ∀ h' : Hp, 0 ≤ i → MI Y (sI h0 a 3 i) h' a A n r 30 → post (hI h0 a 3) h') (p0 : ∀ h' : Hp, ¬ 0 ≤ i → MI Y h0 h' a A n r 30 → post (-4) h') : wp_M_limit g post h a i := by
  unfold wp_M_limit
  refine ⟨m.2.1.1, fun h2 e2 => ?_⟩
  have m2 : MI Y h0 h2 a A n r q := by rw [e2]; exact m.wF (by decide)
  have l2 : hI h2 a 3 = hI h0 a 3 := by
    obtain ⟨y, y1, y2, y3⟩ := m2.2.2.2.2.2.2.2.2.2
    exact y3
  refine ⟨fun c => ⟨m2.2.1.1, m2.2.1.1, fun h6 e6 => ?_⟩, fun c => p0 _ c m2.top⟩
  rw [l2]
  refine p1 h6 c ?_
  rw [e6]
  have mt := m2.top
  obtain ⟨m1, m2, m3, m4, m5, m6, m7, m8, ⟨z, z1, z2, z3⟩, ⟨y, y1, y2, y3⟩⟩ := mt
  have o : ∀ j kj lj : Nat, (j, kj, lj) ∈ MA → hI (sI h2 a 3 i) (A j) = hI h2 (A j) := fun j kj lj h1 => sI_o (fun z => m2.na j kj lj h1 z.symm)
  have o7 := o 7 21 31 (by decide)
  have o5 := o 5 21 31 (by decide)
  have o15 := o 15 21 1550 (by decide)
  have o16 := o 16 21 50 (by decide)
  have o18 := o 18 21 2000 (by decide)
  refine ⟨⟨m1.1, m1.2.1, m1.2.2.1, fun b hb => ?_⟩, m2.sI, m3, by rw [rI_sI, if_neg (by omega)]; exact m4, m5, by rw [o7, o15, o16]; exact m6, by rw [o7]; exact m7, by rw [o7, o5]; exact m8, ⟨z, z1, by rw [rI_sI, if_neg (by omega)]; exact z2, by rw [o18]; exact z3⟩, ⟨y, y1, by rw [rI_sI, if_neg (by omega)]; exact y2, by rw [rI_sI, rI_sI, if_pos ⟨rfl, rfl⟩, if_pos ⟨rfl, rfl⟩]⟩⟩
  have ne : b ≠ a := fun z => hb (z ▸ m3.1)
  rw [sI_o ne, sI_o ne]
  exact m1.2.2.2 b hb
theorem MI.holder {g : Gm} {Y : Nat → Prop} {h0 h : Hp} {a n r q : Nat} {i : Int32} {A : Nat → Nat} {post : Int32 → Hp → Prop} (m : MI Y h0 h a A n r q)
    (hp : ∀ (x : Int32) (h' : Hp), MI Y h0 h' a A n r 30 → post x h') : wp_M_holder g post h a i := by
  unfold wp_M_holder
  refine ⟨m.2.1.1, fun h2 e2 => ?_⟩
  have m2 : MI Y h0 h2 a A n r q := by rw [e2]; exact m.wF (by decide)
  obtain ⟨r1, r2, r3⟩ := m2.2.1.row 9 21 1550 (by decide)
  have m5 := m2.2.1.1
  have hn := m2.2.2.2.2.1
  refine M_isSegment (fun s es s1 => ⟨fun _ => ⟨m5, n + 1, ?_⟩, fun c => absurd c (by decide)⟩) (fun _ => ⟨fun c => absurd rfl c, fun _ => hp _ _ m2.top⟩)
  subst es
  rw [m2.2.2.2.1]
  have loop : ∀ (d f : Nat), d ≤ 30 → f ≤ 30 → wp_M_holder_22 g post (d + 1) h2 a (nI s) (nI f) (nI d) := by
    intro d
    induction d with
    | zero =>
      intro f _ hf
      unfold wp_M_holder_22
      exact ⟨fun _ => hp _ _ m2.top, fun c => absurd (by decide) c⟩
    | succ d ih =>
      intro f hd hf
      have nx : ∀ f : Nat, f ≤ 30 → ∀ x1 : Int32, x1 = nI (d + 1) + (-1) → wp_M_holder_22 g post (d + 1) h2 a (nI s) (nI f) x1 := fun f hf x1 e1 => by
        rw [nI_m1] at e1; subst e1; exact ih f (by omega) hf
      unfold wp_M_holder_22 wp_M_holder_71 wp_M_holder_67 wp_M_holder_72
      exact ⟨fun _ => hp _ _ m2.top, fun _ => ⟨m5, A 9, r1, M_of ⟨r2, by rw [r3]; exact vp_in_nI (by omega) (by omega), fun _ => nx f hf, fun _ => ⟨fun _ => nx (d + 1) hd, fun _ => ⟨m5, A 9, r1, M_of ⟨r2, by rw [r3]; exact vp_in_nI (by omega) (by omega), m5, A 9, r1, M_of ⟨r2, by rw [r3]; exact vp_in_nI (by omega) (by omega), fun _ => nx f hf, fun _ => nx (d + 1) hd⟩⟩⟩⟩⟩⟩⟩
  exact loop n 0 hn (by omega)
theorem MI.serial {g : Gm} {Y : Nat → Prop} {h0 h : Hp} {a n r q : Nat} {A : Nat → Nat} {post : Int32 → Hp → Prop} (m : MI Y h0 h a A n r q)
    (hp : ∀ (x : Int32) (h' : Hp), MI Y h0 h' a A n r 30 → post x h') : wp_M_serial g post h a := by
  unfold wp_M_serial wp_M_serial_17
  refine ⟨m.2.1.1, fun h2 e2 => ?_⟩
  have m2 : MI Y h0 h2 a A n r q := by rw [e2]; exact m.wF (by decide)
  exact ⟨m2.2.1.1, fun _ => ⟨Or.inl rfl, hp _ _ m2.top⟩, fun _ => ⟨Or.inr rfl, hp _ _ m2.top⟩⟩
theorem MI.value {g : Gm} {Y : Nat → Prop} {h0 h : Hp} {a n r q : Nat} {i : Int32} {A : Nat → Nat} {post : Int64 → Hp → Prop} (m : MI Y h0 h a A n r q)
    (hp : ∀ (x : Int64) (h' : Hp), MI Y h0 h' a A n r 30 → post x h') : wp_M_value g post h a i := by
  unfold wp_M_value wp_M_value_13 wp_M_value_33
  refine M_isSegment (fun s es s1 => ⟨fun c => absurd c (by decide), fun _ => ⟨m.2.1.1, fun h2 e2 => ?_⟩⟩) (fun _ => ⟨fun _ => ⟨m.2.1.1, fun h2 e2 => ?_⟩, fun c => absurd rfl c⟩)
  · have m2 : MI Y h0 h2 a A n r q := by rw [e2]; exact m.wF (by decide)
    obtain ⟨r1, r2, r3⟩ := m2.2.1.row 1 22 50 (by decide)
    exact ⟨m2.2.1.1, fun _ => ⟨m2.2.1.1, A 1, r1, r2, by rw [r3, es]; exact vp_in_nI (by omega) (by omega), hp _ _ m2.top⟩, fun _ => hp _ _ m2.top⟩
  · have m2 : MI Y h0 h2 a A n r q := by rw [e2]; exact m.wF (by decide)
    have c2 : hI h2 a 0 = 1 := by rw [e2, rI_sI, if_pos ⟨rfl, rfl⟩]
    rw [c2]
    exact ⟨m2.2.1.1, fun c => absurd c (by decide), fun _ => hp _ _ m2.top⟩
theorem MI.state {g : Gm} {Y : Nat → Prop} {h0 h : Hp} {a n r q : Nat} {i i2 : Int32} {A : Nat → Nat} {post : Int32 → Hp → Prop} (m : MI Y h0 h a A n r q)
    (hp : ∀ (x : Int32) (h' : Hp), MI Y h0 h' a A n r 30 → post x h') : wp_M_state g post h a i i2 := by
  unfold wp_M_state
  refine ⟨m.2.1.1, fun h2 e2 => ?_⟩
  have m2 : MI Y h0 h2 a A n r q := by rw [e2]; exact m.wF (by decide)
  obtain ⟨r1, r2, r3⟩ := m2.2.1.row 5 21 31 (by decide)
  obtain ⟨u1, u2, u3⟩ := m2.2.1.row 6 21 31 (by decide)
  obtain ⟨v1, v2, v3⟩ := m2.2.1.row 7 21 31 (by decide)
  have m5 := m2.2.1.1
  refine ⟨m5, m2.isTask (fun t et t1 t2 => ⟨fun _ => ?_, fun c => absurd c (by decide)⟩) ⟨fun c => absurd rfl c, fun _ => hp _ _ m2.top⟩⟩
  subst et
  exact ⟨fun _ => hp _ _ m2.top, fun _ => ⟨m5, A 5, r1, r2, by rw [r3]; exact vp_in_nI (by omega) (by omega), hp _ _ m2.top⟩, fun _ => ⟨m5, M_locksOf m2.2.1 t2 (hp _ _ m2.top)⟩, fun _ => ⟨m5, m2.writesOf t2 fun x => hp _ _ m2.top⟩, fun _ => ⟨m5, A 6, u1, u2, by rw [u3]; exact vp_in_nI (by omega) (by omega), hp _ _ m2.top⟩, fun _ => ⟨m5, A 7, v1, v2, by rw [v3]; exact vp_in_nI (by omega) (by omega), hp _ _ m2.top⟩, fun _ => ⟨m5, m2.placeOf t2 fun x => hp _ _ m2.top⟩⟩
