/-! EXACT: the reference keeps the abstract state in read, holder, serial, value, state, limit -/
theorem MX.read_197 {g : Gm} {Y : Nat → Prop} {h0 h : Hp} {a n r q s : Nat} {i1 : Int32} {v : Int64} {A : Nat → Nat} {zz : Zs} {post : Int64 → Hp → Prop} (m : MI Y h0 h a A n r q) (w : MZ h a A zz) (hr : r < 2000) (hs : s < 50)
    (hp : ∀ (x : Int64) (h' : Hp), MI Y h0 h' a A n (r + 1) 30 → MZ h' a A zz → post x h') : wp_M_read_197 g post h a i1 (nI s) v := by
  obtain ⟨z, z1, z2, z3⟩ := m.2.2.2.2.2.2.2.2.1
  have d17 : (17, 21, 2000) ∈ MA := by decide
  have d18 : (18, 21, 2000) ∈ MA := by decide
  have d19 : (19, 22, 2000) ∈ MA := by decide
  obtain ⟨r1, r2, r3⟩ := m.2.1.row 17 21 2000 d17
  obtain ⟨u1, u2, u3⟩ := m.2.1.row 18 21 2000 d18
  obtain ⟨v1, v2, v3⟩ := m.2.1.row 19 22 2000 d19
  have i17 : vp_in (hI h a 20) (hN h (A 17)) := by rw [r3, z2]; exact vp_in_nI (by omega) (by omega)
  have ez : (nI z).toNatClampNeg = z := nI_clamp (by omega)
  unfold wp_M_read_197
  refine ⟨m.2.1.1, A 17, r1, m.2.1.1, r2, i17, fun h5 e5 => ?_⟩
  have m5 : MI Y h0 h5 a A n r q := by rw [e5]; exact m.wI d17 (by decide)
  have z5 : hI h5 a 20 = nI z := by rw [e5, sI_o (m.2.1.na 17 21 2000 d17)]; exact z2
  have k5 : hK h5 = hK h := by rw [e5]; rfl
  have n5 : hN h5 = hN h := by rw [e5]; rfl
  have r5 : hR h5 = hR h := by rw [e5]; rfl
  refine ⟨m5.2.1.1, A 18, by rw [r5]; exact u1, m5.2.1.1, by rw [k5]; exact u2, by rw [n5, u3, z5]; exact vp_in_nI (by omega) (by omega), fun h10 e10 => ?_⟩
  rw [z5, ez] at e10
  have z10 : hI h10 a 20 = nI z := by rw [e10, sI_o (m.2.1.na 18 21 2000 d18)]; exact z5
  have k10 : hK h10 = hK h := by rw [e10, kK_sI, k5]
  have n10 : hN h10 = hN h := by rw [e10, kN_sI, n5]
  have r10 : hR h10 = hR h := by rw [e10, kR_sI, r5]
  refine ⟨by rw [k10]; exact m.2.1.1, A 19, by rw [r10]; exact v1, by rw [k10]; exact m.2.1.1, by rw [k10]; exact v2, by rw [n10, v3, z10]; exact vp_in_nI (by omega) (by omega), fun h15 e15 => ?_⟩
  have z15 : hI h15 a 20 = nI z := by rw [e15]; exact z10
  have k15 : hK h15 = hK h := by rw [e15, kK_sJ, k10]
  refine ⟨by rw [k15]; exact m.2.1.1, fun x17 e17 => ⟨by rw [k15]; exact m.2.1.1, fun h19 e19 => hp _ _ ?_ ?_⟩⟩
  · rw [z15, nI_1] at e17
    rw [e19, e17, e15, e10]
    exact (m5.push z5 z1 hr hs).top.wJ (m.2.2.1.2 (19, 22, 2000) d19)
  · have w5 : MZ h5 a A zz := by rw [e5]; exact w.wO m.2.1 (by decide)
    have w10 : MZ h10 a A zz := by rw [e10]; exact w5.wO m5.2.1 (by decide)
    have j13 : A 13 ≠ A 19 := MA_ne m.2.1 13 19 (by decide) (by decide) (by decide)
    have j1 : A 1 ≠ A 19 := MA_ne m.2.1 1 19 (by decide) (by decide) (by decide)
    have w15 : MZ h15 a A zz := by
      rw [e15]
      exact w10.keep ⟨rfl, rfl⟩ (fun _ _ => rfl) ⟨by funext j; rw [rJ_sJ, if_neg (fun y => j13 y.1)], by funext j; rw [rJ_sJ, if_neg (fun y => j1 y.1)]⟩
    have m15 : Mst h15 a A := by rw [e15, e10, e5]; exact m.2.1
    rw [e19]
    exact w15.wF m15 (by decide)
theorem MX.read_61 {g : Gm} {Y : Nat → Prop} {h0 h : Hp} {a n r q : Nat} {i1 i2 x : Int32} {A : Nat → Nat} {zz : Zs} {post : Int64 → Hp → Prop} (m : MI Y h0 h a A n r q) (w : MZ h a A zz) (hr : r < 2000) (hx : ¬ x ≤ 0 ∨ ∃ t s : Nat, i1 = nI t ∧ t ≤ 30 ∧ i2 = nI s ∧ s < 50)
    (hp : ∀ (x : Int64) (h' : Hp), MI Y h0 h' a A n (r + 1) 30 → MZ h' a A zz → post x h') : wp_M_read_61 g post h a i1 i2 a x := by
  unfold wp_M_read_61
  refine ⟨m.2.1.1, fun h2 e2 => ?_⟩
  have m2 : MI Y h0 h2 a A n r q := by rw [e2]; exact m.wF (by decide)
  have wz2 : MZ h2 a A zz := by rw [e2]; exact w.wF m.2.1 (by decide)
  have c2 : hI h2 a 0 = x := by rw [e2, rI_sI, if_pos ⟨rfl, rfl⟩]
  have up : ∀ v : Int64, post v h2 := fun v => hp _ _ (m2.top.monoR (Nat.le_succ r)) wz2
  rw [c2]
  refine ⟨m2.2.1.1, fun cx => ?_, fun _ => up _⟩
  obtain ⟨t, s, rfl, ht, rfl, hs⟩ : ∃ t s : Nat, i1 = nI t ∧ t ≤ 30 ∧ i2 = nI s ∧ s < 50 := by
    rcases hx with hx | hx
    · exact absurd cx hx
    · exact hx
  obtain ⟨r1, r2, r3⟩ := m2.2.1.row 12 23 1550 (by decide)
  obtain ⟨u1, u2, u3⟩ := m2.2.1.row 1 22 50 (by decide)
  obtain ⟨v1, v2, v3⟩ := m2.2.1.row 9 21 1550 (by decide)
  obtain ⟨y1, y2, y3⟩ := m2.2.1.row 13 22 1550 (by decide)
  obtain ⟨w1, w2, w3⟩ := m2.2.1.row 10 21 1550 (by decide)
  have hn := m2.2.2.2.2.1
  have m5 := m2.2.1.1
  have loop : ∀ (d u : Nat) (v : Int64) (la : Int32), u + d = n + 1 → wp_M_read_124 g post (d + 1) h2 a (nI t) (nI s) v la (nI u) := by
    intro d
    induction d with
    | zero =>
      intro u v la e
      unfold wp_M_read_124
      rw [m2.2.2.2.1]
      exact ⟨m5, fun _ => MX.read_197 m2 wz2 hr hs hp, fun c => absurd (nI_lt (by omega) (by omega)) c⟩
    | succ d ih =>
      intro u v la e
      have nx : ∀ (v : Int64) (la x1 : Int32), x1 = nI u + 1 → wp_M_read_124 g post (d + 1) h2 a (nI t) (nI s) v la x1 := fun v la x1 e1 => by
        rw [nI_1] at e1; subst e1; exact ih (u + 1) v la (by omega)
      unfold wp_M_read_124 wp_M_read_191
      refine ⟨m5, fun _ => MX.read_197 m2 wz2 hr hs hp, fun _ => ⟨m5, A 12, r1, M_of ⟨r2, by rw [r3]; exact vp_in_nI (by omega) (by omega), fun _ => nx _ _, fun _ => ⟨m5, A 10, w1, M_of ⟨w2, by rw [w3]; exact vp_in_nI (by omega) (by omega), fun _ => ⟨m5, A 10, w1, M_of ⟨w2, by rw [w3]; exact vp_in_nI (by omega) (by omega), m5, A 13, y1, M_of ⟨y2, by rw [y3]; exact vp_in_nI (by omega) (by omega), nx _ _⟩⟩⟩, fun _ => nx _ _⟩⟩⟩⟩⟩
  refine ⟨m5, A 12, r1, M_of ⟨r2, by rw [r3]; exact vp_in_nI (by omega) (by omega), fun _ => ⟨m5, A 1, u1, u2, by rw [u3]; exact vp_in_nI (by omega) (by omega), m5, A 9, v1, M_of ⟨v2, by rw [v3]; exact vp_in_nI (by omega) (by omega), fun _ => MX.read_197 m2 wz2 hr hs hp, fun _ => ⟨n + 1, loop n 1 _ _ (by omega)⟩⟩⟩, fun _ => ⟨m5, A 13, y1, M_of ⟨y2, by rw [y3]; exact vp_in_nI (by omega) (by omega), up _⟩⟩⟩⟩
theorem MX.read {g : Gm} {Y : Nat → Prop} {h0 h : Hp} {a n r q : Nat} {i1 i2 : Int32} {A : Nat → Nat} {zz : Zs} {post : Int64 → Hp → Prop} (m : MI Y h0 h a A n r q) (w : MZ h a A zz) (hr : r < 2000)
    (hp : ∀ (x : Int64) (h' : Hp), MI Y h0 h' a A n (r + 1) 30 → MZ h' a A zz → post x h') : wp_M_read g post h a i1 i2 := by
  obtain ⟨r1, r2, r3⟩ := m.2.1.row 5 21 31 (by decide)
  obtain ⟨u1, u2, u3⟩ := m.2.1.row 9 21 1550 (by decide)
  obtain ⟨v1, v2, v3⟩ := m.2.1.row 11 23 1550 (by decide)
  have m5 := m.2.1.1
  unfold wp_M_read wp_M_read_16 wp_M_read_56 wp_M_read_60
  refine ⟨m5, m.isTask (fun t et t1 t2 => ⟨fun c => absurd c (by decide), fun _ => ?_⟩) ⟨fun _ => MX.read_61 m w hr (Or.inl (by decide)) hp, fun c => absurd rfl c⟩⟩
  refine M_isSegment (fun s es s1 => ⟨fun _ => ?_, fun c => absurd c (by decide)⟩) (fun _ => ⟨fun c => absurd rfl c, fun _ => MX.read_61 m w hr (Or.inl (by decide)) hp⟩)
  have q0 : wp_M_read_61 g post h a i1 i2 a 0 := MX.read_61 m w hr (Or.inr ⟨t, s, et, t2, es, s1⟩) hp
  have q2 : wp_M_read_61 g post h a i1 i2 a 2 := MX.read_61 m w hr (Or.inl (by decide)) hp
  subst et es
  exact ⟨m5, A 5, r1, r2, by rw [r3]; exact vp_in_nI (by omega) (by omega), fun _ => q2, fun _ => ⟨m5, A 9, u1, M_of ⟨u2, by rw [u3]; exact vp_in_nI (by omega) (by omega), fun _ => q0, fun _ => ⟨m5, A 11, v1, M_of ⟨v2, by rw [v3]; exact vp_in_nI (by omega) (by omega), fun _ => q0, fun _ => q2⟩⟩⟩⟩⟩
theorem MX.holder {g : Gm} {Y : Nat → Prop} {h0 h : Hp} {a n r q : Nat} {i : Int32} {A : Nat → Nat} {zz : Zs} {post : Int32 → Hp → Prop} (m : MI Y h0 h a A n r q) (w : MZ h a A zz)
    (hp : ∀ (x : Int32) (h' : Hp), MI Y h0 h' a A n r 30 → MZ h' a A zz → post x h') : wp_M_holder g post h a i := by
  unfold wp_M_holder
  refine ⟨m.2.1.1, fun h2 e2 => ?_⟩
  have m2 : MI Y h0 h2 a A n r q := by rw [e2]; exact m.wF (by decide)
  have wz2 : MZ h2 a A zz := by rw [e2]; exact w.wF m.2.1 (by decide)
  obtain ⟨r1, r2, r3⟩ := m2.2.1.row 9 21 1550 (by decide)
  have m5 := m2.2.1.1
  have hn := m2.2.2.2.2.1
  refine M_isSegment (fun s es s1 => ⟨fun _ => ⟨m5, n + 1, ?_⟩, fun c => absurd c (by decide)⟩) (fun _ => ⟨fun c => absurd rfl c, fun _ => hp _ _ m2.top wz2⟩)
  subst es
  rw [m2.2.2.2.1]
  have loop : ∀ (d f : Nat), d ≤ 30 → f ≤ 30 → wp_M_holder_22 g post (d + 1) h2 a (nI s) (nI f) (nI d) := by
    intro d
    induction d with
    | zero =>
      intro f _ hf
      unfold wp_M_holder_22
      exact ⟨fun _ => hp _ _ m2.top wz2, fun c => absurd (by decide) c⟩
    | succ d ih =>
      intro f hd hf
      have nx : ∀ f : Nat, f ≤ 30 → ∀ x1 : Int32, x1 = nI (d + 1) + (-1) → wp_M_holder_22 g post (d + 1) h2 a (nI s) (nI f) x1 := fun f hf x1 e1 => by
        rw [nI_m1] at e1; subst e1; exact ih f (by omega) hf
      unfold wp_M_holder_22 wp_M_holder_71 wp_M_holder_67 wp_M_holder_72
      exact ⟨fun _ => hp _ _ m2.top wz2, fun _ => ⟨m5, A 9, r1, M_of ⟨r2, by rw [r3]; exact vp_in_nI (by omega) (by omega), fun _ => nx f hf, fun _ => ⟨fun _ => nx (d + 1) hd, fun _ => ⟨m5, A 9, r1, M_of ⟨r2, by rw [r3]; exact vp_in_nI (by omega) (by omega), m5, A 9, r1, M_of ⟨r2, by rw [r3]; exact vp_in_nI (by omega) (by omega), fun _ => nx f hf, fun _ => nx (d + 1) hd⟩⟩⟩⟩⟩⟩⟩
  exact loop n 0 hn (by omega)
theorem MX.serial {g : Gm} {Y : Nat → Prop} {h0 h : Hp} {a n r q : Nat} {A : Nat → Nat} {zz : Zs} {post : Int32 → Hp → Prop} (m : MI Y h0 h a A n r q) (w : MZ h a A zz)
    (hp : ∀ (x : Int32) (h' : Hp), MI Y h0 h' a A n r 30 → MZ h' a A zz → post x h') : wp_M_serial g post h a := by
  unfold wp_M_serial wp_M_serial_17
  refine ⟨m.2.1.1, fun h2 e2 => ?_⟩
  have m2 : MI Y h0 h2 a A n r q := by rw [e2]; exact m.wF (by decide)
  have wz2 : MZ h2 a A zz := by rw [e2]; exact w.wF m.2.1 (by decide)
  exact ⟨m2.2.1.1, fun _ => ⟨Or.inl rfl, hp _ _ m2.top wz2⟩, fun _ => ⟨Or.inr rfl, hp _ _ m2.top wz2⟩⟩
theorem MX.value {g : Gm} {Y : Nat → Prop} {h0 h : Hp} {a n r q : Nat} {i : Int32} {A : Nat → Nat} {zz : Zs} {post : Int64 → Hp → Prop} (m : MI Y h0 h a A n r q) (w : MZ h a A zz)
    (hp : ∀ (x : Int64) (h' : Hp), MI Y h0 h' a A n r 30 → MZ h' a A zz → post x h') : wp_M_value g post h a i := by
  unfold wp_M_value wp_M_value_13 wp_M_value_33
  refine M_isSegment (fun s es s1 => ⟨fun c => absurd c (by decide), fun _ => ⟨m.2.1.1, fun h2 e2 => ?_⟩⟩) (fun _ => ⟨fun _ => ⟨m.2.1.1, fun h2 e2 => ?_⟩, fun c => absurd rfl c⟩)
  · have m2 : MI Y h0 h2 a A n r q := by rw [e2]; exact m.wF (by decide)
    have wz2 : MZ h2 a A zz := by rw [e2]; exact w.wF m.2.1 (by decide)
    obtain ⟨r1, r2, r3⟩ := m2.2.1.row 1 22 50 (by decide)
    exact ⟨m2.2.1.1, fun _ => ⟨m2.2.1.1, A 1, r1, r2, by rw [r3, es]; exact vp_in_nI (by omega) (by omega), hp _ _ m2.top wz2⟩, fun _ => hp _ _ m2.top wz2⟩
  · have m2 : MI Y h0 h2 a A n r q := by rw [e2]; exact m.wF (by decide)
    have wz2 : MZ h2 a A zz := by rw [e2]; exact w.wF m.2.1 (by decide)
    have c2 : hI h2 a 0 = 1 := by rw [e2, rI_sI, if_pos ⟨rfl, rfl⟩]
    rw [c2]
    exact ⟨m2.2.1.1, fun c => absurd c (by decide), fun _ => hp _ _ m2.top wz2⟩
theorem MX.state {g : Gm} {Y : Nat → Prop} {h0 h : Hp} {a n r q : Nat} {i i2 : Int32} {A : Nat → Nat} {zz : Zs} {post : Int32 → Hp → Prop} (m : MI Y h0 h a A n r q) (w : MZ h a A zz)
    (hp : ∀ (x : Int32) (h' : Hp), MI Y h0 h' a A n r 30 → MZ h' a A zz → post x h') : wp_M_state g post h a i i2 := by
  unfold wp_M_state
  refine ⟨m.2.1.1, fun h2 e2 => ?_⟩
  have m2 : MI Y h0 h2 a A n r q := by rw [e2]; exact m.wF (by decide)
  have wz2 : MZ h2 a A zz := by rw [e2]; exact w.wF m.2.1 (by decide)
  obtain ⟨r1, r2, r3⟩ := m2.2.1.row 5 21 31 (by decide)
  obtain ⟨u1, u2, u3⟩ := m2.2.1.row 6 21 31 (by decide)
  obtain ⟨v1, v2, v3⟩ := m2.2.1.row 7 21 31 (by decide)
  have m5 := m2.2.1.1
  refine ⟨m5, m2.isTask (fun t et t1 t2 => ⟨fun _ => ?_, fun c => absurd c (by decide)⟩) ⟨fun c => absurd rfl c, fun _ => hp _ _ m2.top wz2⟩⟩
  subst et
  exact ⟨fun _ => hp _ _ m2.top wz2, fun _ => ⟨m5, A 5, r1, r2, by rw [r3]; exact vp_in_nI (by omega) (by omega), hp _ _ m2.top wz2⟩, fun _ => ⟨m5, M_locksOf m2.2.1 t2 (hp _ _ m2.top wz2)⟩, fun _ => ⟨m5, m2.writesOf t2 fun x => hp _ _ m2.top wz2⟩, fun _ => ⟨m5, A 6, u1, u2, by rw [u3]; exact vp_in_nI (by omega) (by omega), hp _ _ m2.top wz2⟩, fun _ => ⟨m5, A 7, v1, v2, by rw [v3]; exact vp_in_nI (by omega) (by omega), hp _ _ m2.top wz2⟩, fun _ => ⟨m5, m2.placeOf t2 fun x => hp _ _ m2.top wz2⟩⟩
theorem MX.limit {g : Gm} {Y : Nat → Prop} {h0 h : Hp} {a n r q : Nat} {i : Int32} {A : Nat → Nat} {zz : Zs} {post : Int32 → Hp → Prop} (m : MI Y h0 h a A n r q) (w : MZ h a A zz)
    (p1 : ∀ h' : Hp, 0 ≤ i → MI Y (sI h0 a 3 i) h' a A n r 30 → MZ h' a A zz → post (hI h0 a 3) h') (p0 : ∀ h' : Hp, ¬ 0 ≤ i → MI Y h0 h' a A n r 30 → MZ h' a A zz → post (-4) h') : wp_M_limit g post h a i := by
  have k := MI.limit (g := g) (i := i) (post := fun y h' => (y = hI h0 a 3 ∧ 0 ≤ i ∧ MI Y (sI h0 a 3 i) h' a A n r 30) ∨ (y = -4 ∧ ¬ 0 ≤ i ∧ MI Y h0 h' a A n r 30)) m (fun h' c m' => Or.inl ⟨rfl, c, m'⟩) (fun h' c m' => Or.inr ⟨rfl, c, m'⟩)
  unfold wp_M_limit at k ⊢
  refine ⟨m.2.1.1, fun h2 e2 => ?_⟩
  have k2 := k.2 h2 e2
  have m2 : MI Y h0 h2 a A n r q := by rw [e2]; exact m.wF (by decide)
  have wz2 : MZ h2 a A zz := by rw [e2]; exact w.wF m.2.1 (by decide)
  refine ⟨fun c => ⟨m2.2.1.1, m2.2.1.1, fun h6 e6 => ?_⟩, fun c => ?_⟩
  · have k6 := (k2.1 c).2.2 h6 e6
    rcases k6 with ⟨k1, -, k3⟩ | ⟨-, k3, -⟩
    · rw [k1]
      exact p1 h6 c k3 (by rw [e6]; exact wz2.wF m2.2.1 (by decide))
    · exact absurd c k3
  · exact p0 h2 c m2.top wz2
