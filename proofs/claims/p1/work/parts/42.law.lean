/-! PURE: the first call on a fresh object (p1) -/
/-- the reference behind a call of the class -/
theorem MI.un {Y : Nat → Prop} {h0 h h' : Hp} {a n r q : Nat} {A : Nat → Nat} (m : MI Y h0 h a A n r q) (u : Un Y h h') : MI Y h' h' a A n r q := by
  obtain ⟨m1, m2, m3, m4, m5, m6, m7, m8, ⟨z, z1, z2, z3⟩, ⟨y, y1, y2⟩⟩ := m
  obtain ⟨a1, a2, a3, a4⟩ := u a m3.1
  have e : ∀ t ∈ MA, hI h' (A t.1) = hI h (A t.1) := fun t ht => (u _ (m3.2 t ht)).2.2.1
  have e7 := e (7, 21, 31) (by decide)
  have e5 := e (5, 21, 31) (by decide)
  have e15 := e (15, 21, 1550) (by decide)
  have e16 := e (16, 21, 50) (by decide)
  have e18 := e (18, 21, 2000) (by decide)
  refine ⟨Lt.rf h', ⟨a1.trans m2.1, fun t ht => ?_, m2.2.2⟩, m3, by rw [a3]; exact m4, m5, ?_, ?_, ?_, ⟨z, z1, by rw [a3]; exact z2, ?_⟩, ⟨y, y1, by rw [a3]; exact y2.1, rfl⟩⟩
  · obtain ⟨c1, c2, c3⟩ := m2.2.1 t ht
    obtain ⟨u1, u2, -, -⟩ := u _ (m3.2 t ht)
    exact ⟨by rw [a4]; exact c1, u1.trans c2, u2.trans c3⟩
  · rw [e7, e15, e16]; exact m6
  · rw [e7]; exact m7
  · rw [e7, e5]; exact m8
  · rw [e18]; exact z3
/-- the class behind a call of the reference -/
theorem CI.lt {g : Gm} {Y P : Nat → Prop} {h0 h h' : Hp} {x : Nat} {D E C : Nat → Nat} {L : Nat → List Nat} (c : CI g Y P h0 h x D E C L) (t : Lt Y h h') : CI g Y P h' h' x D E C L := by
  obtain ⟨t1, t2, t3, t4⟩ := t
  have s := c.sk
  refine ⟨fun b _ => ⟨rfl, rfl, rfl, rfl⟩, by rw [t1]; exact c.yk, ⟨by rw [t1]; exact s.kx, s.yx, s.x1, by rw [t3]; exact s.f0, by rw [t3]; exact s.f1, by rw [t3]; exact s.f2, by rw [t3]; exact s.f3, by rw [t1]; exact s.k5, by rw [t3]; exact s.w0, by rw [t1]; exact s.k6, by rw [t3]; exact s.r0, by rw [t3]; exact s.r1, by rw [t3]; exact s.r2, by rw [t3]; exact s.r3, by rw [t3]; exact s.r4, by rw [t1, t2]; exact s.k4, by rw [t1, t2]; exact s.k7, by rw [t1, t2]; exact s.k8, by rw [t1, t2]; exact s.k9, s.dy, s.d89⟩, fun u hu => ?_, by rw [t4 x s.yx]; exact c.zb, fun i hi => ?_, c.ey, c.dd, c.lp, c.cp, c.h01, rfl⟩
  · have k := c.tk u hu
    unfold Tk at k ⊢
    rw [t1, t2, t3]; exact k
  · have l := c.ls i hi
    unfold Ls at l ⊢
    rw [t1, t2, t3, t4 (D i) (s.dy i (by omega)).1]; exact l
theorem CI.rb {g : Gm} {Y P : Nat → Prop} {h0 h : Hp} {x : Nat} {D E C : Nat → Nat} {L : Nat → List Nat} (c : CI g Y P h0 h x D E C L) : CI g Y P h h x D E C L := c.lt (Lt.rf h)
theorem MI.rb {Y : Nat → Prop} {h0 h : Hp} {a n r q : Nat} {A : Nat → Nat} (m : MI Y h0 h a A n r q) : MI Y h h a A n r q := by
  obtain ⟨m1, m2, m3, m4, m5, m6, m7, m8, m9, ⟨y, y1, y2, y3⟩⟩ := m
  exact ⟨Lt.rf h, m2, m3, m4, m5, m6, m7, m8, m9, ⟨y, y1, y2, rfl⟩⟩
theorem MI.lm {Y : Nat → Prop} {h0 h : Hp} {a n r q : Nat} {A : Nat → Nat} (m : MI Y h0 h a A n r q) : hI h a 3 = hI h0 a 3 := by
  obtain ⟨y, y1, y2, y3⟩ := m.2.2.2.2.2.2.2.2.2
  exact y3
/-! a fresh object: no task, nothing agreed -/
theorem S_find0 {g : Gm} {Y P : Nat → Prop} {h0 h : Hp} {x : Nat} {D E C : Nat → Nat} {L : Nat → List Nat} {i : Int32} {post : Option Nat → Prop} (c : CI g Y P h0 h x D E C L) (l0 : (L 0).length = 0) (p0 : post none) : wp_S_find g post h x i := by
  have l := c.ls 0 (by omega)
  have h1 : (1 : Int32) = nI 1 := rfl
  unfold wp_S_find wp_S_find_32 wp_S_find_33
  refine ⟨fun _ => p0, fun z => ⟨c.sk.kx, D 0, c.sk.f1, l.1, l.size ⟨fun _ => p0, fun z' => ?_⟩⟩⟩
  exfalso
  obtain ⟨j, rfl, hj⟩ := nI_back (i := i) (fun y => z (Int32.lt_trans y (by decide)))
  rw [l0] at z'
  rcases Nat.eq_zero_or_pos j with q | q
  · rw [q] at z; exact z (by decide)
  · exact z' (nI_lt q hj)
theorem S_seg1 {g : Gm} {h : Hp} {s : Nat} {post : Int32 → Prop} (hs : s < 50) (hp : post 1) : wp_S_isSegment g post h (nI s) := by
  have h50 : (50 : Int32) = nI 50 := rfl
  unfold wp_S_isSegment wp_S_isSegment_14 wp_S_isSegment_15
  refine ⟨fun z => absurd z (nI_pos (by omega)), fun _ => ⟨fun z => ?_, fun _ => ⟨Or.inr rfl, hp⟩⟩⟩
  rw [h50] at z
  have := (nI_leI (by omega) (by omega)).mp z
  omega
theorem S_seg0 {g : Gm} {h : Hp} {i : Int32} {post : Int32 → Prop} (hn : ∀ s : Nat, s < 50 → i ≠ nI s) (hp : post 0) : wp_S_isSegment g post h i := by
  have h50 : (50 : Int32) = nI 50 := rfl
  unfold wp_S_isSegment wp_S_isSegment_14 wp_S_isSegment_15
  refine ⟨fun _ => ⟨Or.inl rfl, hp⟩, fun c => ⟨fun _ => ⟨Or.inl rfl, hp⟩, fun d => ?_⟩⟩
  exfalso
  obtain ⟨t, e, ht⟩ := nI_back c
  rcases Nat.lt_or_ge t 50 with q | q
  · exact hn t q e
  · exact d (by rw [e, h50]; exact nI_le q ht)
theorem segCase (i : Int32) : (∃ s : Nat, s < 50 ∧ i = nI s) ∨ ∀ s : Nat, s < 50 → i ≠ nI s := by
  by_cases c : ∃ s : Nat, s < 50 ∧ i = nI s
  · exact Or.inl c
  · exact Or.inr fun s hs e => c ⟨s, hs, e⟩
theorem M_seg1 {g : Gm} {h : Hp} {s : Nat} {post : Int32 → Prop} (hs : s < 50) (hp : post 1) : wp_M_isSegment g post h (nI s) := M_isSegment (fun _ _ _ => hp) (fun q => absurd rfl (q s hs))
theorem M_seg0 {g : Gm} {h : Hp} {i : Int32} {post : Int32 → Prop} (hn : ∀ s : Nat, s < 50 → i ≠ nI s) (hp : post 0) : wp_M_isSegment g post h i := M_isSegment (fun t e ht => absurd e (hn t ht)) (fun _ => hp)
theorem M_noTask {g : Gm} {Y : Nat → Prop} {h0 h : Hp} {a r q : Nat} {i : Int32} {A : Nat → Nat} {post : Int32 → Prop} (m : MI Y h0 h a A 0 r q) (p0 : post 0) : wp_M_isTask g post h a i := M_isTask m.2.1.1 m.2.2.2.1 (by omega) (fun t _ t1 t2 => absurd t2 (by omega)) (fun _ => p0)
section FR
variable {g : Gm} {Y P : Nat → Prop} {h0 h : Hp} {x : Nat} {D E C : Nat → Nat} {L : Nat → List Nat}
theorem S_ask0 {mc ms : Nat} {i1 i2 i3 : Int32} {post : Int32 → Hp → Prop} (c : CI g Y P h0 h x D E C L) (l0 : (L 0).length = 0) (hp : post (-2) h) : wp_S_ask g post mc ms h x i1 i2 i3 := ⟨c.sk.kx, S_find0 c l0 ⟨fun _ => hp, fun _ q => nomatch q⟩⟩
theorem S_write0 {i1 i2 : Int32} {v : Int64} {post : Int32 → Hp → Prop} (c : CI g Y P h0 h x D E C L) (l0 : (L 0).length = 0) (hp : post (-2) h) : wp_S_write g post h x i1 i2 v := ⟨c.sk.kx, S_find0 c l0 ⟨fun _ => hp, fun _ q => nomatch q⟩⟩
theorem S_sync0 {i : Int32} {post : Int32 → Hp → Prop} (c : CI g Y P h0 h x D E C L) (l0 : (L 0).length = 0) (hp : post (-2) h) : wp_S_sync g post h x i := ⟨c.sk.kx, S_find0 c l0 ⟨fun _ => hp, fun _ q => nomatch q⟩⟩
theorem S_backout0 {i : Int32} {post : Int32 → Hp → Prop} (c : CI g Y P h0 h x D E C L) (l0 : (L 0).length = 0) (hp : post (-2) h) : wp_S_backout g post h x i := ⟨c.sk.kx, S_find0 c l0 ⟨fun _ => hp, fun _ q => nomatch q⟩⟩
theorem S_checkpoint0 {i : Int32} {post : Int32 → Hp → Prop} (c : CI g Y P h0 h x D E C L) (l0 : (L 0).length = 0) (hp : post (-2) h) : wp_S_checkpoint g post h x i := ⟨c.sk.kx, S_find0 c l0 ⟨fun _ => hp, fun _ q => nomatch q⟩⟩
theorem S_dead0 {i : Int32} {post : Int32 → Hp → Prop} (c : CI g Y P h0 h x D E C L) (l0 : (L 0).length = 0) (hp : post (-2) h) : wp_S_dead g post h x i := ⟨c.sk.kx, S_find0 c l0 ⟨fun _ => hp, fun _ q => nomatch q⟩⟩
theorem S_state0 {i i2 : Int32} {post : Int32 → Prop} (c : CI g Y P h0 h x D E C L) (l0 : (L 0).length = 0) (hp : post (-1)) : wp_S_state g post h x i i2 := ⟨c.sk.kx, S_find0 c l0 ⟨fun _ => hp, fun _ q => nomatch q⟩⟩
theorem L_read0 {o mc ms : Nat} {i1 i2 : Int32} {post : Int32 → Hp → Prop} (c : CI g Y P h0 h x D E C L) (l0 : (L 0).length = 0) (hmc : 1 ≤ mc) (hms : 6 ≤ ms) (hp : post 1 h) : wp_L_read g post mc ms h x i1 i2 o :=
  ⟨c.sk.kx, Or.inr (Or.inl ⟨⟨c.sk.kx, S_find0 c l0 ⟨fun _ => trivial, fun _ q => nomatch q⟩⟩, by omega, by omega, fun _ => hp⟩)⟩
theorem S_ring0 {i : Int32} {post : Int32 → Prop} (c : CI g Y P h0 h x D E C L) (l2 : (L 2).length = 0) (hp : post 0) : wp_S_ring g post h x i := by
  have l := c.ls 2 (by omega)
  unfold wp_S_ring wp_G_member wp_G_member_32 wp_G_member_33
  refine ⟨c.sk.kx, D 6, c.sk.f3, c.sk.k6, fun _ => hp, fun z => ⟨c.sk.k6, D 2, c.sk.r0, l.1, l.size ⟨fun _ => hp, fun z' => ?_⟩⟩⟩
  obtain ⟨j, rfl, hj⟩ := nI_back z
  rw [l2] at z'
  exact absurd (nI_le (Nat.zero_le j) hj) z'
theorem S_holder0 {i : Int32} {post : Int32 → Prop} (c : CI g Y P h0 h x D E C L) (l0 : (L 0).length = 0) (p1 : (∃ s : Nat, s < 50 ∧ i = nI s) → post 0) (p0 : (∀ s : Nat, s < 50 → i ≠ nI s) → post (-4)) : wp_S_holder g post h x i := by
  have l := c.ls 0 (by omega)
  unfold wp_S_holder
  rcases segCase i with ⟨s, hs, rfl⟩ | q
  · refine S_seg1 hs ⟨fun _ => ⟨1, ?_⟩, fun z => absurd z (by decide)⟩
    unfold wp_S_holder_17
    refine ⟨c.sk.kx, D 0, c.sk.f1, l.1, l.size ⟨fun _ => p1 ⟨s, hs, rfl⟩, fun z => ?_⟩⟩
    rw [l0] at z
    exact absurd (by decide) z
  · exact S_seg0 q ⟨fun z => absurd rfl z, fun _ => p0 q⟩
end FR
section FM
variable {g : Gm} {Y : Nat → Prop} {h0 h : Hp} {a r q : Nat} {A : Nat → Nat}
theorem M_ask0 {i1 i2 i3 : Int32} {post : Int32 → Hp → Prop} (m : MI Y h0 h a A 0 r q) (hp : ∀ h' : Hp, post (-2) h') : wp_M_ask g post h a i1 i2 i3 := by
  unfold wp_M_ask
  refine ⟨m.2.1.1, fun h2 e2 => ?_⟩
  have m2 : MI Y h0 h2 a A 0 r q := by rw [e2]; exact m.wF (by decide)
  exact ⟨m2.2.1.1, M_noTask m2 ⟨fun c => absurd rfl c, fun _ => hp _⟩⟩
theorem M_write0 {i1 i2 : Int32} {v : Int64} {post : Int32 → Hp → Prop} (m : MI Y h0 h a A 0 r q) (hp : ∀ h' : Hp, post (-2) h') : wp_M_write g post h a i1 i2 v := by
  unfold wp_M_write
  refine ⟨m.2.1.1, fun h2 e2 => ?_⟩
  have m2 : MI Y h0 h2 a A 0 r q := by rw [e2]; exact m.wF (by decide)
  exact ⟨m2.2.1.1, M_noTask m2 ⟨fun c => absurd rfl c, fun _ => hp _⟩⟩
theorem M_backout0 {i : Int32} {post : Int32 → Hp → Prop} (m : MI Y h0 h a A 0 r q) (hp : ∀ h' : Hp, post (-2) h') : wp_M_backout g post h a i := by
  unfold wp_M_backout
  refine ⟨m.2.1.1, fun h2 e2 => ?_⟩
  have m2 : MI Y h0 h2 a A 0 r q := by rw [e2]; exact m.wF (by decide)
  exact ⟨m2.2.1.1, M_noTask m2 ⟨fun c => absurd rfl c, fun _ => hp _⟩⟩
theorem M_dead0 {i : Int32} {post : Int32 → Hp → Prop} (m : MI Y h0 h a A 0 r q) (hp : ∀ h' : Hp, post (-2) h') : wp_M_dead g post h a i := by
  unfold wp_M_dead
  refine ⟨m.2.1.1, fun h2 e2 => ?_⟩
  have m2 : MI Y h0 h2 a A 0 r q := by rw [e2]; exact m.wF (by decide)
  exact ⟨m2.2.1.1, M_noTask m2 ⟨fun c => absurd rfl c, fun _ => hp _⟩⟩
theorem M_state0 {i i2 : Int32} {post : Int32 → Hp → Prop} (m : MI Y h0 h a A 0 r q) (hp : ∀ h' : Hp, post (-1) h') : wp_M_state g post h a i i2 := by
  unfold wp_M_state
  refine ⟨m.2.1.1, fun h2 e2 => ?_⟩
  have m2 : MI Y h0 h2 a A 0 r q := by rw [e2]; exact m.wF (by decide)
  exact ⟨m2.2.1.1, M_noTask m2 ⟨fun c => absurd rfl c, fun _ => hp _⟩⟩
theorem M_sync0 {i : Int32} {post : Int32 → Hp → Prop} (m : MI Y h0 h a A 0 r q) (hp : ∀ h' : Hp, post (-2) h') : wp_M_sync g post h a i := by
  unfold wp_M_sync wp_M_refusal wp_M_refusal_28
  refine ⟨m.2.1.1, fun h2 e2 => ?_⟩
  have m2 : MI Y h0 h2 a A 0 r q := by rw [e2]; exact m.wF (by decide)
  exact ⟨m2.2.1.1, m2.2.1.1, M_noTask m2 ⟨fun c => absurd rfl c, fun _ => ⟨fun c => absurd c (by decide), fun _ => hp _⟩⟩⟩
theorem M_checkpoint0 {i : Int32} {post : Int32 → Hp → Prop} (m : MI Y h0 h a A 0 r q) (hp : ∀ h' : Hp, post (-2) h') : wp_M_checkpoint g post h a i := by
  unfold wp_M_checkpoint wp_M_checkpoint_24 wp_M_refusal wp_M_refusal_28
  refine ⟨m.2.1.1, fun h2 e2 => ?_⟩
  have m2 : MI Y h0 h2 a A 0 r q := by rw [e2]; exact m.wF (by decide)
  exact ⟨m2.2.1.1, m2.2.1.1, M_noTask m2 ⟨fun c => absurd rfl c, fun _ => ⟨fun c => absurd c (by decide), fun _ => hp _⟩⟩⟩
theorem M_read0 {i1 i2 : Int32} {post : Int64 → Hp → Prop} (m : MI Y h0 h a A 0 r q) (hp : ∀ h' : Hp, hK h' a = 5 → hI h' a 0 = 1 → post 0 h') : wp_M_read g post h a i1 i2 := by
  unfold wp_M_read wp_M_read_16 wp_M_read_61
  refine ⟨m.2.1.1, M_noTask m ⟨fun _ => ⟨m.2.1.1, fun h2 e2 => ?_⟩, fun c => absurd rfl c⟩⟩
  have m2 : MI Y h0 h2 a A 0 r q := by rw [e2]; exact m.wF (by decide)
  have c2 : hI h2 a 0 = 1 := by rw [e2, rI_sI, if_pos ⟨rfl, rfl⟩]
  refine ⟨m2.2.1.1, fun z => ?_, fun _ => hp h2 m2.2.1.1 c2⟩
  rw [c2] at z
  exact absurd z (by decide)
theorem M_ring0 {i : Int32} {post : Int32 → Hp → Prop} (m : MI Y h0 h a A 0 r q) (er : hI h a 25 = 0) (hp : ∀ h' : Hp, post 0 h') : wp_M_ring g post h a i := by
  unfold wp_M_ring wp_M_ring_26 wp_M_ring_27
  refine ⟨m.2.1.1, fun h2 e2 => ?_⟩
  have m2 : MI Y h0 h2 a A 0 r q := by rw [e2]; exact m.wF (by decide)
  have e25 : hI h2 a 25 = 0 := by rw [e2, rI_sI, if_neg (by omega)]; exact er
  refine ⟨fun _ => hp _, fun c => ⟨m2.2.1.1, fun _ => hp _, fun d => ?_⟩⟩
  rw [e25] at d
  obtain ⟨j, rfl, hj⟩ := nI_back c
  exact absurd (nI_pos' hj) d
theorem M_holder0 {i : Int32} {post : Int32 → Hp → Prop} (m : MI Y h0 h a A 0 r q) (p1 : (∃ s : Nat, s < 50 ∧ i = nI s) → ∀ h' : Hp, post 0 h') (p0 : (∀ s : Nat, s < 50 → i ≠ nI s) → ∀ h' : Hp, post (-4) h') : wp_M_holder g post h a i := by
  unfold wp_M_holder
  refine ⟨m.2.1.1, fun h2 e2 => ?_⟩
  have m2 : MI Y h0 h2 a A 0 r q := by rw [e2]; exact m.wF (by decide)
  rcases segCase i with ⟨s, hs, rfl⟩ | z
  · refine M_seg1 hs ⟨fun _ => ⟨m2.2.1.1, 1, ?_⟩, fun c => absurd c (by decide)⟩
    rw [m2.2.2.2.1]
    unfold wp_M_holder_22
    exact ⟨fun _ => p1 ⟨s, hs, rfl⟩ _, fun c => absurd (by decide) c⟩
  · exact M_seg0 z ⟨fun c => absurd rfl c, fun _ => p0 z _⟩
theorem M_serial0 {post : Int32 → Hp → Prop} (m : MI Y h0 h a A 0 r q) (eu : hI h a 26 = 0) (hp : ∀ h' : Hp, post 1 h') : wp_M_serial g post h a := by
  unfold wp_M_serial wp_M_serial_17
  refine ⟨m.2.1.1, fun h2 e2 => ?_⟩
  have m2 : MI Y h0 h2 a A 0 r q := by rw [e2]; exact m.wF (by decide)
  have e26 : hI h2 a 26 = 0 := by rw [e2, rI_sI, if_neg (by omega)]; exact eu
  exact ⟨m2.2.1.1, fun c => absurd e26 c, fun _ => ⟨Or.inr rfl, hp _⟩⟩
theorem M_value0 {i : Int32} {post : Int64 → Hp → Prop} (m : MI Y h0 h a A 0 r q) (eg : ∀ s : Nat, s < 50 → hJ h (A 1) s = 0) (p1 : (∃ s : Nat, s < 50 ∧ i = nI s) → ∀ h' : Hp, hK h' = hK h → hN h' = hN h → hJ h' = hJ h → hI h' a 0 = 0 → post 0 h') (p0 : (∀ s : Nat, s < 50 → i ≠ nI s) → ∀ h' : Hp, hK h' = hK h → hI h' a 0 = 1 → post 0 h') : wp_M_value g post h a i := by
  unfold wp_M_value wp_M_value_13 wp_M_value_33
  rcases segCase i with ⟨s, hs, rfl⟩ | z
  · refine M_seg1 hs ⟨fun c => absurd c (by decide), fun _ => ⟨m.2.1.1, fun h2 e2 => ?_⟩⟩
    have m2 : MI Y h0 h2 a A 0 r q := by rw [e2]; exact m.wF (by decide)
    obtain ⟨r1, r2, r3⟩ := m2.2.1.row 1 22 50 (by decide)
    have c2 : hI h2 a 0 = 0 := by rw [e2, rI_sI, if_pos ⟨rfl, rfl⟩]
    rw [c2]
    refine ⟨m2.2.1.1, fun _ => ⟨m2.2.1.1, A 1, r1, r2, by rw [r3]; exact vp_in_nI (by omega) (by omega), ?_⟩, fun c => absurd (by decide) c⟩
    have j2 : hJ h2 (A 1) (nI s).toNatClampNeg = 0 := by rw [nI_clamp (by omega), e2]; exact eg s hs
    rw [j2]
    exact p1 ⟨s, hs, rfl⟩ h2 (by rw [e2]; rfl) (by rw [e2]; rfl) (by rw [e2]; rfl) c2
  · refine M_seg0 z ⟨fun _ => ⟨m.2.1.1, fun h2 e2 => ?_⟩, fun c => absurd rfl c⟩
    have m2 : MI Y h0 h2 a A 0 r q := by rw [e2]; exact m.wF (by decide)
    have c2 : hI h2 a 0 = 1 := by rw [e2, rI_sI, if_pos ⟨rfl, rfl⟩]
    rw [c2]
    exact ⟨m2.2.1.1, fun c => absurd c (by decide), fun _ => p0 z h2 (by rw [e2]; rfl) c2⟩
end FM
theorem law_one {g : Gm} {Ln : Nat} {xs : Nat → Int32} {Y P : Nat → Prop} {h : Hp} {x m o mc ms kc ks : Nat} {D E C A : Nat → Nat} {L : Nat → List Nat} (hL : Ln ≤ 5) (k1 : kc + 8 ≤ mc) (k2 : ks + 348 ≤ ms) (c : CI g Y P h h x D E C L) (mi : MI Y h h m A 0 0 30) (l0 : (L 0).length = 0) (l2 : (L 2).length = 0) (oA : A 1 ≠ o) (ko : hK h o = 22) (no : hN h o = 1) (el : hI h x 4 = hI h m 3) (ex : hI h x 5 = 1) (er : hI h m 25 = 0) (eu : hI h m 26 = 0) (gc : ∀ s : Nat, s < 50 → hJ h (D 4) s = 0) (gm : ∀ s : Nat, s < 50 → hJ h (A 1) s = 0) : wp_L_law_23 g Ln xs mc ms 2 h kc ks x m o (nI 0) := by
  have h5 : (5 : Int32) = nI 5 := rfl
  have small : ∀ i : Nat, i ≤ 5 → Ln < i + 5 → ∀ x1 : Int32, x1 = nI Ln - 5 → x1 < nI i := fun i hi hlt x1 e1 => by
    rcases Nat.lt_or_ge Ln 5 with q | q
    · have h0 : x1 < nI 0 := by
        have : Ln = 0 ∨ Ln = 1 ∨ Ln = 2 ∨ Ln = 3 ∨ Ln = 4 := by omega
        rcases this with z | z | z | z | z <;> rw [z] at e1 <;> rw [e1] <;> decide
      rcases Nat.eq_zero_or_pos i with z | z
      · rw [z]; exact h0
      · exact Int32.lt_trans h0 (nI_lt z (by omega))
    · rw [h5, pk_sub q] at e1
      rw [e1]
      exact nI_lt (by omega) (by omega)
  have nx : ∀ (h' : Hp) (kc' ks' : Nat), wp_L_law_610 g Ln xs mc ms (fun h kc ks v1 v2 v3 v4 => wp_L_law_23 g Ln xs mc ms 1 h kc ks v1 v2 v3 v4) h' kc' ks' x m o (nI 0) := fun h' kc' ks' => by
    unfold wp_L_law_610
    intro x1 e1
    rw [h5, nI_add] at e1
    subst e1
    unfold wp_L_law_23
    exact fun x1 e1 => ⟨fun _ => rfl, fun z => absurd (small 5 (by omega) (by omega) x1 e1) z⟩
  unfold wp_L_law_23
  intro x1 e1
  refine ⟨fun _ => rfl, fun z => ?_⟩
  have hil : 5 ≤ Ln := by
    rcases Nat.lt_or_ge Ln 5 with q | q
    · exact absurd (small 0 (by omega) (by omega) x1 e1) z
    · exact q
  have kx := c.sk.kx
  have km := mi.2.1.1
  have ym : Y m := mi.2.2.1.1
  have v0 : vp_in (nI 0) Ln := vp_in_nI (by omega) (by omega)
  have a1 : ∀ y : Int32, y = nI 0 + 1 → vp_in y Ln := fun y ey => by rw [ey, nI_1]; exact vp_in_nI (by omega) (by omega)
  have a2 : ∀ y : Int32, y = nI 0 + 2 → vp_in y Ln := fun y ey => by rw [ey, show (2 : Int32) = nI 2 from rfl, nI_add]; exact vp_in_nI (by omega) (by omega)
  have a3 : ∀ y : Int32, y = nI 0 + 3 → vp_in y Ln := fun y ey => by rw [ey, show (3 : Int32) = nI 3 from rfl, nI_add]; exact vp_in_nI (by omega) (by omega)
  have a4 : ∀ y : Int32, y = nI 0 + 4 → vp_in y Ln := fun y ey => by rw [ey, show (4 : Int32) = nI 4 from rfl, nI_add]; exact vp_in_nI (by omega) (by omega)
  have no' : ∀ {p : Prop} (y : Int32), ¬ y = y → p := fun y q => absurd rfl q
  refine ⟨v0, fun x4 _ x5 _ => ⟨fun _ => nx _ _ _, fun _ x6 ex6 => ⟨a1 _ ex6, fun x8 ex8 => ⟨kx, 8, 348, by omega, by omega, ?_⟩⟩, fun _ x21 ex21 => ⟨a1 _ ex21, fun x23 _ x24 ex24 => ⟨a2 _ ex24, fun x26 _ x27 ex27 => ⟨a3 _ ex27, fun x29 _ => ⟨kx, 0, 0, by omega, by omega, ?_⟩⟩⟩⟩, fun _ x47 ex47 => ⟨a1 _ ex47, fun x49 _ x50 ex50 => ⟨a2 _ ex50, fun x52 _ x53 ex53 => ⟨a3 _ ex53, fun x55 _ j56 _ j57 _ x58 ex58 => ⟨a4 _ ex58, fun x60 _ j61 _ j62 _ j63 _ => ⟨kx, ?_⟩⟩⟩⟩⟩, fun _ x87 ex87 => ⟨a1 _ ex87, fun x89 _ x90 ex90 => ⟨a2 _ ex90, fun x92 _ => ⟨1, 6, by omega, by omega, ?_⟩⟩⟩, fun _ x107 ex107 => ⟨a1 _ ex107, fun x109 _ => ⟨kx, ?_⟩⟩, fun _ x119 ex119 => ⟨a1 _ ex119, fun x121 _ => ⟨kx, ?_⟩⟩, fun _ x131 ex131 => ⟨a1 _ ex131, fun x133 ex133 => ⟨kx, ?_⟩⟩, fun _ x143 ex143 => ⟨a1 _ ex143, fun x145 _ => ⟨kx, ?_⟩⟩, fun _ x155 ex155 => ⟨a1 _ ex155, fun x157 _ => ⟨kx, ?_⟩⟩, fun _ x167 ex167 => ⟨a1 _ ex167, fun x169 ex169 => ⟨kx, ?_⟩⟩, fun _ x179 ex179 => ⟨a1 _ ex179, fun x181 ex181 => ⟨kx, ?_⟩⟩, fun _ => ⟨kx, ?_⟩, fun _ x197 ex197 => ⟨a1 _ ex197, fun x199 ex199 => ⟨1, 6, by omega, by omega, ?_⟩⟩, fun _ x211 ex211 => ⟨a1 _ ex211, fun x213 _ x214 ex214 => ⟨a2 _ ex214, fun x216 _ => ⟨kx, ?_⟩⟩⟩⟩⟩
  · -- task
    refine S_task c (by omega) (Nat.le_refl _) (Nat.le_refl _) (fun e30 => absurd e30 (by omega)) (fun P' h1 E' C' L' hlt e0 e1 c1 x14 ex14 => ⟨a1 _ ex14, fun x16 ex16 => ⟨(mi.un c1.un).2.1.1, (mi.un c1.un).task (fun h2 hlt2 m2 => ⟨fun _ => nx _ _ _, fun q => ?_⟩) (fun h2 h30 m2 => absurd h30 (by decide))⟩⟩)
    rw [l0] at q
    exact absurd rfl q
  · exact S_ask0 c l0 fun x35 ex35 => ⟨a1 _ ex35, fun x37 _ x38 ex38 => ⟨a2 _ ex38, fun x40 _ x41 ex41 => ⟨a3 _ ex41, fun x43 _ => ⟨km, M_ask0 mi fun h' => ⟨fun _ => nx _ _ _, no' _⟩⟩⟩⟩⟩
  · exact S_write0 c l0 fun x67 ex67 => ⟨a1 _ ex67, fun x69 _ x70 ex70 => ⟨a2 _ ex70, fun x72 _ x73 ex73 => ⟨a3 _ ex73, fun x75 _ j76 _ j77 _ x78 ex78 => ⟨a4 _ ex78, fun x80 _ j81 _ j82 _ j83 _ => ⟨km, M_write0 mi fun h' => ⟨fun _ => nx _ _ _, no' _⟩⟩⟩⟩⟩⟩
  · refine L_read0 c l0 (by omega) (by omega) fun x98 ex98 => ⟨a1 _ ex98, fun x100 _ x101 ex101 => ⟨a2 _ ex101, fun x103 _ => ⟨km, M_read0 mi fun h' k' c' => ⟨k', ?_⟩⟩⟩⟩
    unfold wp_M_thrown
    rw [c']
    exact ⟨k', fun _ => ⟨fun _ => nx _ _ _, fun q => absurd q (by decide)⟩, no' _⟩
  · exact S_sync0 c l0 fun x113 ex113 => ⟨a1 _ ex113, fun x115 _ => ⟨km, M_sync0 mi fun h' => ⟨fun _ => nx _ _ _, no' _⟩⟩⟩
  · exact S_backout0 c l0 fun x113 ex113 => ⟨a1 _ ex113, fun x115 _ => ⟨km, M_backout0 mi fun h' => ⟨fun _ => nx _ _ _, no' _⟩⟩⟩
  · exact S_ring0 c l2 fun x113 ex113 => ⟨a1 _ ex113, fun x115 _ => ⟨km, M_ring0 mi er fun h' => ⟨fun _ => nx _ _ _, no' _⟩⟩⟩
  · exact S_checkpoint0 c l0 fun x113 ex113 => ⟨a1 _ ex113, fun x115 _ => ⟨km, M_checkpoint0 mi fun h' => ⟨fun _ => nx _ _ _, no' _⟩⟩⟩
  · exact S_dead0 c l0 fun x113 ex113 => ⟨a1 _ ex113, fun x115 _ => ⟨km, M_dead0 mi fun h' => ⟨fun _ => nx _ _ _, no' _⟩⟩⟩
  · -- limit
    refine S_limit c (fun h1 z c1 x113 ex113 => ⟨a1 _ ex113, fun x115 ex115 => ?_⟩) (fun z x113 ex113 => ⟨a1 _ ex113, fun x115 ex115 => ⟨km, ?_⟩⟩)
    · have u1 : Un Y h h1 := fun b hb => by
        obtain ⟨u1, u2, u3, u4⟩ := c1.un b hb
        have ne : b ≠ x := fun z => c.sk.yx (z ▸ hb)
        exact ⟨u1, u2, by rw [u3, sI_o ne], u4⟩
      have em : hI h1 m = hI h m := (u1 m ym).2.2.1
      have ex : x115 = x169 := by rw [ex115, ex113, ex169, ex167]
      subst ex
      exact ⟨(mi.un u1).2.1.1, (mi.un u1).limit (fun h2 z2 m2 => ⟨fun _ => nx _ _ _, fun q => absurd (by rw [em]; exact el) q⟩) (fun h2 z2 m2 => absurd z z2)⟩
    · have ex : x115 = x169 := by rw [ex115, ex113, ex169, ex167]
      subst ex
      exact mi.limit (fun h2 z2 m2 => absurd z2 z) fun h2 z2 m2 => ⟨fun _ => nx _ _ _, no' _⟩
  · -- holder
    refine S_holder0 c l0 (fun hs x113 ex113 => ⟨a1 _ ex113, fun x115 ex115 => ⟨km, ?_⟩⟩) (fun hs x113 ex113 => ⟨a1 _ ex113, fun x115 ex115 => ⟨km, ?_⟩⟩)
    · have ex : x115 = x181 := by rw [ex115, ex113, ex181, ex179]
      subst ex
      exact M_holder0 mi (fun _ h' => ⟨fun _ => nx _ _ _, no' _⟩) (fun q => by obtain ⟨s, s1, s2⟩ := hs; exact absurd s2 (q s s1))
    · have ex : x115 = x181 := by rw [ex115, ex113, ex181, ex179]
      subst ex
      exact M_holder0 mi (fun q => by obtain ⟨s, s1, s2⟩ := q; exact absurd s2 (hs s s1)) (fun _ h' => ⟨fun _ => nx _ _ _, no' _⟩)
  · unfold wp_S_serial
    refine ⟨kx, c.zb, km, M_serial0 mi eu fun h' => ⟨fun _ => nx _ _ _, fun q => absurd ex q⟩⟩
  · -- value
    rcases segCase x199 with ⟨s, hs, es⟩ | hs
    · subst es
      obtain ⟨k4, n4⟩ := c.sk.k4
      refine ⟨kx, Or.inl (S_seg1 hs ⟨fun _ => ⟨kx, D 4, c.sk.f0, k4, by rw [n4]; exact vp_in_nI (by omega) (by omega), ko, by rw [no]; exact vp_in_nI (n := 0) (by omega) (by omega), fun h5' e5 => ?_⟩, fun q => absurd q (by decide)⟩)⟩
      have e5' : hJ h (D 4) (nI s).toNatClampNeg = 0 := by rw [nI_clamp (by omega)]; exact gc s hs
      rw [e5'] at e5
      have m5 : MI Y h h5' m A 0 0 30 := by rw [e5]; exact mi.wJ
      have k5 : hK h5' = hK h := by rw [e5]; rfl
      have n5 : hN h5' = hN h := by rw [e5]; rfl
      have g5 : ∀ s : Nat, s < 50 → hJ h5' (A 1) s = 0 := fun s hs => by rw [e5, rJ_sJ, if_neg (fun q => oA q.1)]; exact gm s hs
      have o5 : hJ h5' o (0 : Int32).toNatClampNeg = 0 := by rw [e5, rJ_sJ, if_pos ⟨rfl, rfl⟩]
      refine fun x113 ex113 => ⟨a1 _ ex113, fun x115 ex115 => ⟨m5.2.1.1, M_value0 m5 g5 (fun _ h' k' n' j' c' => ?_) (fun q => ?_)⟩⟩
      · have kk : hK h' m = 5 := by rw [k', k5]; exact km
        unfold wp_M_thrown
        rw [c']
        refine ⟨kk, kk, fun _ => ⟨fun _ => nx _ _ _, fun _ => ⟨by rw [k', k5]; exact ko, by rw [n', n5, no]; exact vp_in_nI (n := 0) (by omega) (by omega), ?_⟩⟩, no' _⟩
        rw [j', o5]
        exact ⟨fun _ => nx _ _ _, fun q => absurd (by decide) q⟩
      · have ex : x115 = nI s := by rw [ex115, ex113, ex199, ex197]
        exact absurd ex (q s hs)
    · refine ⟨kx, Or.inr ⟨S_seg0 hs ⟨fun q => absurd rfl q, fun _ => trivial⟩, by omega, by omega, fun _ x113 ex113 => ⟨a1 _ ex113, fun x115 ex115 => ⟨km, M_value0 mi gm (fun q => ?_) (fun _ h' k' c' => ?_)⟩⟩⟩⟩
      · obtain ⟨s, s1, s2⟩ := q
        have ex : x115 = x199 := by rw [ex115, ex113, ex199, ex197]
        exact absurd (ex.symm.trans s2) (hs s s1)
      · have kk : hK h' m = 5 := by rw [k']; exact km
        unfold wp_M_thrown
        rw [c']
        exact ⟨kk, kk, fun _ => ⟨fun _ => nx _ _ _, fun q => absurd q (by decide)⟩, no' _⟩
  · exact S_state0 c l0 fun x113 ex113 => ⟨a1 _ ex113, fun x115 _ x116 ex116 => ⟨a2 _ ex116, fun x117 _ => ⟨km, M_state0 mi fun h' => ⟨fun _ => nx _ _ _, no' _⟩⟩⟩⟩
