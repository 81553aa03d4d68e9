/-! PURE: what the class keeps to, weak: enough that no call of it goes wrong -/
def TA : List (Nat × Nat) := [(2, 21), (3, 23), (4, 23), (5, 22), (6, 23), (7, 22)]
/-- a task with its six arrays -/
def Tk (g : Gm) (Y : Nat → Prop) (h : Hp) (t : Nat) : Prop := hK h t = 4 ∧ ¬ Y t ∧ t ≠ g.2.2 1 ∧ ∀ p ∈ TA, ∃ a : Nat, hR h t p.1 = some a ∧ hK h a = p.2 ∧ hN h a = 50 ∧ ¬ Y a
/-- the object x and its parts: 0 tasks, 1 waiting, 2 members, 3 reached (lists), 4 agreed, 5 rows, 6 rings, 7 reachedFrom, 8 isReached, 9 blocks -/
def Sk (g : Gm) (Y : Nat → Prop) (h : Hp) (x : Nat) (D : Nat → Nat) : Prop :=
  (hK h x = 1) ∧
  (¬ Y x) ∧
  (x ≠ g.2.2 1) ∧
  (hR h x 0 = some (D 4)) ∧
  (hR h x 1 = some (D 0)) ∧
  (hR h x 2 = some (D 5)) ∧
  (hR h x 3 = some (D 6)) ∧
  (hK h (D 5) = 2) ∧
  (hR h (D 5) 0 = some (D 1)) ∧
  (hK h (D 6) = 3) ∧
  (hR h (D 6) 0 = some (D 2)) ∧
  (hR h (D 6) 1 = some (D 3)) ∧
  (hR h (D 6) 2 = some (D 7)) ∧
  (hR h (D 6) 3 = some (D 8)) ∧
  (hR h (D 6) 4 = some (D 9)) ∧
  (hK h (D 4) = 22 ∧ hN h (D 4) = 50) ∧
  (hK h (D 7) = 21 ∧ hN h (D 7) = 30) ∧
  (hK h (D 8) = 23 ∧ hN h (D 8) = 30) ∧
  (hK h (D 9) = 23 ∧ hN h (D 9) = 30) ∧
  (∀ i : Nat, i < 10 → ¬ Y (D i) ∧ D i ≠ g.2.2 1) ∧
  (D 8 ≠ D 9)
theorem Sk.kx {g : Gm} {Y : Nat → Prop} {h : Hp} {x : Nat} {D : Nat → Nat} (s : Sk g Y h x D) : hK h x = 1 := s.1
theorem Sk.yx {g : Gm} {Y : Nat → Prop} {h : Hp} {x : Nat} {D : Nat → Nat} (s : Sk g Y h x D) : ¬ Y x := s.2.1
theorem Sk.x1 {g : Gm} {Y : Nat → Prop} {h : Hp} {x : Nat} {D : Nat → Nat} (s : Sk g Y h x D) : x ≠ g.2.2 1 := s.2.2.1
theorem Sk.f0 {g : Gm} {Y : Nat → Prop} {h : Hp} {x : Nat} {D : Nat → Nat} (s : Sk g Y h x D) : hR h x 0 = some (D 4) := s.2.2.2.1
theorem Sk.f1 {g : Gm} {Y : Nat → Prop} {h : Hp} {x : Nat} {D : Nat → Nat} (s : Sk g Y h x D) : hR h x 1 = some (D 0) := s.2.2.2.2.1
theorem Sk.f2 {g : Gm} {Y : Nat → Prop} {h : Hp} {x : Nat} {D : Nat → Nat} (s : Sk g Y h x D) : hR h x 2 = some (D 5) := s.2.2.2.2.2.1
theorem Sk.f3 {g : Gm} {Y : Nat → Prop} {h : Hp} {x : Nat} {D : Nat → Nat} (s : Sk g Y h x D) : hR h x 3 = some (D 6) := s.2.2.2.2.2.2.1
theorem Sk.k5 {g : Gm} {Y : Nat → Prop} {h : Hp} {x : Nat} {D : Nat → Nat} (s : Sk g Y h x D) : hK h (D 5) = 2 := s.2.2.2.2.2.2.2.1
theorem Sk.w0 {g : Gm} {Y : Nat → Prop} {h : Hp} {x : Nat} {D : Nat → Nat} (s : Sk g Y h x D) : hR h (D 5) 0 = some (D 1) := s.2.2.2.2.2.2.2.2.1
theorem Sk.k6 {g : Gm} {Y : Nat → Prop} {h : Hp} {x : Nat} {D : Nat → Nat} (s : Sk g Y h x D) : hK h (D 6) = 3 := s.2.2.2.2.2.2.2.2.2.1
theorem Sk.r0 {g : Gm} {Y : Nat → Prop} {h : Hp} {x : Nat} {D : Nat → Nat} (s : Sk g Y h x D) : hR h (D 6) 0 = some (D 2) := s.2.2.2.2.2.2.2.2.2.2.1
theorem Sk.r1 {g : Gm} {Y : Nat → Prop} {h : Hp} {x : Nat} {D : Nat → Nat} (s : Sk g Y h x D) : hR h (D 6) 1 = some (D 3) := s.2.2.2.2.2.2.2.2.2.2.2.1
theorem Sk.r2 {g : Gm} {Y : Nat → Prop} {h : Hp} {x : Nat} {D : Nat → Nat} (s : Sk g Y h x D) : hR h (D 6) 2 = some (D 7) := s.2.2.2.2.2.2.2.2.2.2.2.2.1
theorem Sk.r3 {g : Gm} {Y : Nat → Prop} {h : Hp} {x : Nat} {D : Nat → Nat} (s : Sk g Y h x D) : hR h (D 6) 3 = some (D 8) := s.2.2.2.2.2.2.2.2.2.2.2.2.2.1
theorem Sk.r4 {g : Gm} {Y : Nat → Prop} {h : Hp} {x : Nat} {D : Nat → Nat} (s : Sk g Y h x D) : hR h (D 6) 4 = some (D 9) := s.2.2.2.2.2.2.2.2.2.2.2.2.2.2.1
theorem Sk.k4 {g : Gm} {Y : Nat → Prop} {h : Hp} {x : Nat} {D : Nat → Nat} (s : Sk g Y h x D) : hK h (D 4) = 22 ∧ hN h (D 4) = 50 := s.2.2.2.2.2.2.2.2.2.2.2.2.2.2.2.1
theorem Sk.k7 {g : Gm} {Y : Nat → Prop} {h : Hp} {x : Nat} {D : Nat → Nat} (s : Sk g Y h x D) : hK h (D 7) = 21 ∧ hN h (D 7) = 30 := s.2.2.2.2.2.2.2.2.2.2.2.2.2.2.2.2.1
theorem Sk.k8 {g : Gm} {Y : Nat → Prop} {h : Hp} {x : Nat} {D : Nat → Nat} (s : Sk g Y h x D) : hK h (D 8) = 23 ∧ hN h (D 8) = 30 := s.2.2.2.2.2.2.2.2.2.2.2.2.2.2.2.2.2.1
theorem Sk.k9 {g : Gm} {Y : Nat → Prop} {h : Hp} {x : Nat} {D : Nat → Nat} (s : Sk g Y h x D) : hK h (D 9) = 23 ∧ hN h (D 9) = 30 := s.2.2.2.2.2.2.2.2.2.2.2.2.2.2.2.2.2.2.1
theorem Sk.dy {g : Gm} {Y : Nat → Prop} {h : Hp} {x : Nat} {D : Nat → Nat} (s : Sk g Y h x D) : ∀ i : Nat, i < 10 → ¬ Y (D i) ∧ D i ≠ g.2.2 1 := s.2.2.2.2.2.2.2.2.2.2.2.2.2.2.2.2.2.2.2.1
theorem Sk.d89 {g : Gm} {Y : Nat → Prop} {h : Hp} {x : Nat} {D : Nat → Nat} (s : Sk g Y h x D) : D 8 ≠ D 9 := s.2.2.2.2.2.2.2.2.2.2.2.2.2.2.2.2.2.2.2.2
/-- the cells of Y are as they were in h0, longs aside -/
def Un (Y : Nat → Prop) (h0 h : Hp) : Prop := ∀ b : Nat, Y b → hK h b = hK h0 b ∧ hN h b = hN h0 b ∧ hI h b = hI h0 b ∧ hR h b = hR h0 b ∧ (hN h0 b ≠ 1 → hJ h b = hJ h0 b)
def CS : List Nat := [0, 10, 15, 22, 33, 49, 73, 109, 163, 244, 366, 549]
def CI (g : Gm) (Y P : Nat → Prop) (h0 h : Hp) (x : Nat) (D E C : Nat → Nat) (L : Nat → List Nat) : Prop :=
  (Un Y h0 h) ∧
  (∀ b : Nat, Y b → hK h b ≠ 0) ∧
  (Sk g Y h x D) ∧
  (∀ t : Nat, P t → Tk g Y h t) ∧
  (zB (hI h x 5)) ∧
  (∀ i : Nat, i < 4 → Ls g h (D i) (E i) (C i) (L i)) ∧
  (∀ i : Nat, i < 4 → ¬ Y (E i)) ∧
  (∀ i j : Nat, i < 4 → j < 4 → i ≠ j → D i ≠ D j ∧ (E i = E j → E i = g.2.2 1)) ∧
  (∀ i : Nat, i < 4 → ∀ t ∈ L i, P t) ∧
  (∀ i : Nat, i < 4 → C i ∈ CS ∧ (i ≠ 1 → C i ≤ 33)) ∧
  (g.2.2 1 < g.2.2 0) ∧
  (hI h x 4 = hI h0 x 4)
theorem CI.un {g : Gm} {Y P : Nat → Prop} {h0 h : Hp} {x : Nat} {D E C : Nat → Nat} {L : Nat → List Nat} (s : CI g Y P h0 h x D E C L) : Un Y h0 h := s.1
theorem CI.yk {g : Gm} {Y P : Nat → Prop} {h0 h : Hp} {x : Nat} {D E C : Nat → Nat} {L : Nat → List Nat} (s : CI g Y P h0 h x D E C L) : ∀ b : Nat, Y b → hK h b ≠ 0 := s.2.1
theorem CI.sk {g : Gm} {Y P : Nat → Prop} {h0 h : Hp} {x : Nat} {D E C : Nat → Nat} {L : Nat → List Nat} (s : CI g Y P h0 h x D E C L) : Sk g Y h x D := s.2.2.1
theorem CI.tk {g : Gm} {Y P : Nat → Prop} {h0 h : Hp} {x : Nat} {D E C : Nat → Nat} {L : Nat → List Nat} (s : CI g Y P h0 h x D E C L) : ∀ t : Nat, P t → Tk g Y h t := s.2.2.2.1
theorem CI.zb {g : Gm} {Y P : Nat → Prop} {h0 h : Hp} {x : Nat} {D E C : Nat → Nat} {L : Nat → List Nat} (s : CI g Y P h0 h x D E C L) : zB (hI h x 5) := s.2.2.2.2.1
theorem CI.ls {g : Gm} {Y P : Nat → Prop} {h0 h : Hp} {x : Nat} {D E C : Nat → Nat} {L : Nat → List Nat} (s : CI g Y P h0 h x D E C L) : ∀ i : Nat, i < 4 → Ls g h (D i) (E i) (C i) (L i) := s.2.2.2.2.2.1
theorem CI.ey {g : Gm} {Y P : Nat → Prop} {h0 h : Hp} {x : Nat} {D E C : Nat → Nat} {L : Nat → List Nat} (s : CI g Y P h0 h x D E C L) : ∀ i : Nat, i < 4 → ¬ Y (E i) := s.2.2.2.2.2.2.1
theorem CI.dd {g : Gm} {Y P : Nat → Prop} {h0 h : Hp} {x : Nat} {D E C : Nat → Nat} {L : Nat → List Nat} (s : CI g Y P h0 h x D E C L) : ∀ i j : Nat, i < 4 → j < 4 → i ≠ j → D i ≠ D j ∧ (E i = E j → E i = g.2.2 1) := s.2.2.2.2.2.2.2.1
theorem CI.lp {g : Gm} {Y P : Nat → Prop} {h0 h : Hp} {x : Nat} {D E C : Nat → Nat} {L : Nat → List Nat} (s : CI g Y P h0 h x D E C L) : ∀ i : Nat, i < 4 → ∀ t ∈ L i, P t := s.2.2.2.2.2.2.2.2.1
theorem CI.cp {g : Gm} {Y P : Nat → Prop} {h0 h : Hp} {x : Nat} {D E C : Nat → Nat} {L : Nat → List Nat} (s : CI g Y P h0 h x D E C L) : ∀ i : Nat, i < 4 → C i ∈ CS ∧ (i ≠ 1 → C i ≤ 33) := s.2.2.2.2.2.2.2.2.2.1
theorem CI.h01 {g : Gm} {Y P : Nat → Prop} {h0 h : Hp} {x : Nat} {D E C : Nat → Nat} {L : Nat → List Nat} (s : CI g Y P h0 h x D E C L) : g.2.2 1 < g.2.2 0 := s.2.2.2.2.2.2.2.2.2.2.1
theorem CI.lm {g : Gm} {Y P : Nat → Prop} {h0 h : Hp} {x : Nat} {D E C : Nat → Nat} {L : Nat → List Nat} (s : CI g Y P h0 h x D E C L) : hI h x 4 = hI h0 x 4 := s.2.2.2.2.2.2.2.2.2.2.2
theorem capN_CS : ∀ c ∈ CS, c ≤ 366 → capN c ∈ CS := by decide
theorem capN_33 : ∀ c ∈ CS, c ≤ 30 → capN c ≤ 33 := by decide
theorem CS_549 : ∀ c ∈ CS, c ≤ 549 := by decide
theorem CS_366 : ∀ c ∈ CS, c ≤ 511 → c ≤ 366 := by decide
theorem capN_549 : ∀ c ∈ CS, c ≤ 366 → capN c ≤ 549 := by decide
theorem Ls.k6 {g : Gm} {h : Hp} {a e c : Nat} {l : List Nat} (z : Ls g h a e c l) : hK h a = 6 := z.1
theorem Ls.kE {g : Gm} {h : Hp} {a e c : Nat} {l : List Nat} (z : Ls g h a e c l) : e = g.2.2 1 ∨ hK h e = 24 := by
  rcases z.2.2.2.2.2 with q | q
  · exact Or.inl q.1
  · exact Or.inr q.2.1
theorem Ls.cle {g : Gm} {h : Hp} {a e c : Nat} {l : List Nat} (z : Ls g h a e c l) : l.length ≤ c := z.2.2.2.1
theorem Ls.kept' {g : Gm} {h h' : Hp} {S : Nat → Prop} {a e cap : Nat} {xs : List Nat} (hl : Ls g h a e cap xs) (hf : Fr S h h') (ha : ¬ S a) (he : e ≠ g.2.2 1 → ¬ S e) : Ls g h' a e cap xs := by
  obtain ⟨h1, h2, h3, h4, h5, h6⟩ := hl
  obtain ⟨k1, k2, k3⟩ := hf a (by rw [h1]; decide)
  obtain ⟨k4, k5, k6⟩ := k3 ha
  refine ⟨k1.trans h1, by rw [k4]; exact h2, by rw [k6]; exact h3, h4, h5, ?_⟩
  rcases h6 with h6 | ⟨z1, z2, z3, z4, z5⟩
  · exact Or.inl h6
  · obtain ⟨y1, y2, y3⟩ := hf e (by rw [z2]; decide)
    exact Or.inr ⟨z1, y1.trans z2, y2.trans z3, z4, fun i hi => by rw [(y3 (he z1)).2.2]; exact z5 i hi⟩
theorem Tk.row {g : Gm} {Y : Nat → Prop} {h : Hp} {t : Nat} (z : Tk g Y h t) (k kd : Nat) (hk : (k, kd) ∈ TA) : ∃ a : Nat, hR h t k = some a ∧ hK h a = kd ∧ hN h a = 50 ∧ ¬ Y a := z.2.2.2 (k, kd) hk
theorem Tk.fr {g : Gm} {Y S : Nat → Prop} {h h' : Hp} {t : Nat} (z : Tk g Y h t) (f : Fr S h h') (hs : ¬ S t) : Tk g Y h' t := by
  obtain ⟨z1, z2, z3, z4⟩ := z
  obtain ⟨f1, f2, f3⟩ := f t (by rw [z1]; decide)
  refine ⟨f1.trans z1, z2, z3, fun p hp => ?_⟩
  obtain ⟨a, a1, a2, a3, a4⟩ := z4 p hp
  have nz : ∀ p ∈ TA, p.2 ≠ 0 := by decide
  obtain ⟨y1, y2, -⟩ := f a (by rw [a2]; exact nz p hp)
  exact ⟨a, by rw [(f3 hs).2.2]; exact a1, y1.trans a2, y2.trans a3, a4⟩
theorem Sk.fr {g : Gm} {Y S : Nat → Prop} {h h' : Hp} {x : Nat} {D : Nat → Nat} (s : Sk g Y h x D) (f : Fr S h h') (h1 : ¬ S x) (h2 : ¬ S (D 5)) (h3 : ¬ S (D 6)) : Sk g Y h' x D := by
  obtain ⟨fx1, fx2, fx3⟩ := f x (by rw [s.kx]; decide)
  obtain ⟨fw1, fw2, fw3⟩ := f (D 5) (by rw [s.k5]; decide)
  obtain ⟨fr1, fr2, fr3⟩ := f (D 6) (by rw [s.k6]; decide)
  have ex := (fx3 h1).2.2
  have ew := (fw3 h2).2.2
  have er := (fr3 h3).2.2
  have f4 := f (D 4) (by rw [s.k4.1]; decide)
  have f7 := f (D 7) (by rw [s.k7.1]; decide)
  have f8 := f (D 8) (by rw [s.k8.1]; decide)
  have f9 := f (D 9) (by rw [s.k9.1]; decide)
  exact ⟨fx1.trans s.kx, s.yx, s.x1, by rw [ex]; exact s.f0, by rw [ex]; exact s.f1, by rw [ex]; exact s.f2, by rw [ex]; exact s.f3, fw1.trans s.k5, by rw [ew]; exact s.w0, fr1.trans s.k6, by rw [er]; exact s.r0, by rw [er]; exact s.r1, by rw [er]; exact s.r2, by rw [er]; exact s.r3, by rw [er]; exact s.r4, ⟨f4.1.trans s.k4.1, f4.2.1.trans s.k4.2⟩, ⟨f7.1.trans s.k7.1, f7.2.1.trans s.k7.2⟩, ⟨f8.1.trans s.k8.1, f8.2.1.trans s.k8.2⟩, ⟨f9.1.trans s.k9.1, f9.2.1.trans s.k9.2⟩, s.dy, s.d89⟩
theorem Un.fr {Y S : Nat → Prop} {h0 h h' : Hp} (u : Un Y h0 h) (yk : ∀ b : Nat, Y b → hK h b ≠ 0) (f : Fr S h h') (hs : ∀ b : Nat, Y b → ¬ S b) : Un Y h0 h' ∧ ∀ b : Nat, Y b → hK h' b ≠ 0 := by
  refine ⟨fun b hb => ?_, fun b hb => by rw [(f b (yk b hb)).1]; exact yk b hb⟩
  obtain ⟨u1, u2, u3, u5, u6⟩ := u b hb
  obtain ⟨f1, f2, f3⟩ := f b (yk b hb)
  obtain ⟨g1, g2, g3⟩ := f3 (hs b hb)
  exact ⟨f1.trans u1, f2.trans u2, g1.trans u3, g3.trans u5, fun z => g2.trans (u6 z)⟩
/-- a list was changed -/
theorem CI.upd {g : Gm} {Y P : Nat → Prop} {h0 h h' : Hp} {x i e' c' : Nat} {D E C : Nat → Nat} {L : Nat → List Nat} {l' : List Nat} (c : CI g Y P h0 h x D E C L) (hi : i < 4) (f : Fr (fun b => b = D i ∨ b = E i) h h') (hl : Ls g h' (D i) e' c' l') (he : e' = E i ∨ (hK h e' = 0 ∧ g.2.2 0 ≤ e')) (hl' : ∀ t ∈ l', P t) (hc : c' ∈ CS ∧ (i ≠ 1 → c' ≤ 33)) : CI g Y P h0 h' x D (va_up E i e') (va_up C i c') (va_up L i l') := by
  have hE := (c.ls i hi).kE
  have hD := (c.ls i hi).k6
  have h01 := c.h01
  have nS : ∀ b : Nat, hK h b ≠ 6 → hK h b ≠ 24 → b ≠ g.2.2 1 → ¬ (b = D i ∨ b = E i) := fun b b1 b2 b3 z => by
    rcases z with z | z
    · rw [z] at b1; exact b1 hD
    · rcases hE with q | q
      · rw [z] at b3; exact b3 q
      · rw [z] at b2; exact b2 q
  have hnew : ∀ j : Nat, j < 4 → j ≠ i → e' = E j → E j = g.2.2 1 := fun j hj hji z => by
    rcases he with q | ⟨q1, q2⟩
    · have := (c.dd i j hi hj (fun y => hji y.symm)).2 (q.symm.trans z)
      rw [← z, q]; exact this
    · rcases (c.ls j hj).kE with y | y
      · exact y
      · rw [← z, q1] at y; exact absurd y (by decide)
  obtain ⟨u1, u2⟩ := c.un.fr c.yk f (fun b hb z => by
    rcases z with z | z
    · rw [z] at hb; exact (c.sk.dy i (by omega)).1 hb
    · rw [z] at hb; exact c.ey i hi hb)
  refine ⟨u1, u2, c.sk.fr f ?_ ?_ ?_, fun t ht => ?_, ?_, fun j hj => ?_, fun j hj => ?_, fun j k hj hk hjk => ⟨(c.dd j k hj hk hjk).1, ?_⟩, fun j hj t ht => ?_, fun j hj => ?_, h01, ?_⟩
  · exact nS x (by rw [c.sk.kx]; decide) (by rw [c.sk.kx]; decide) c.sk.x1
  · exact nS (D 5) (by rw [c.sk.k5]; decide) (by rw [c.sk.k5]; decide) (c.sk.dy 5 (by omega)).2
  · exact nS (D 6) (by rw [c.sk.k6]; decide) (by rw [c.sk.k6]; decide) (c.sk.dy 6 (by omega)).2
  · have tk := c.tk t ht
    exact tk.fr f (nS t (by rw [tk.1]; decide) (by rw [tk.1]; decide) tk.2.2.1)
  · have := ((f x (by rw [c.sk.kx]; decide)).2.2 (nS x (by rw [c.sk.kx]; decide) (by rw [c.sk.kx]; decide) c.sk.x1)).1
    rw [this]; exact c.zb
  · by_cases q : j = i
    · rw [q, va_up_self, va_up_self, va_up_self]; exact hl
    · rw [va_up_ne _ _ q, va_up_ne _ _ q, va_up_ne _ _ q]
      have lj := c.ls j hj
      have dij := c.dd j i hj hi q
      refine lj.kept' f (fun z => ?_) (fun y0 z => ?_)
      · rcases z with z | z
        · exact dij.1 z
        · rcases hE with y | y
          · exact (c.sk.dy j (by omega)).2 (z.trans y)
          · rw [← z, lj.k6] at y; exact absurd y (by decide)
      · have kj : hK h (E j) = 24 := by
          rcases lj.kE with y | y
          · exact absurd y y0
          · exact y
        rcases z with z | z
        · rw [z, hD] at kj; exact absurd kj (by decide)
        · exact y0 (dij.2 z)
  · by_cases q : j = i
    · rw [q, va_up_self]
      rcases he with z | ⟨z1, z2⟩
      · rw [z]; exact c.ey i hi
      · exact fun y => c.yk _ y z1
    · rw [va_up_ne _ _ q]; exact c.ey j hj
  · by_cases q : j = i <;> by_cases q' : k = i
    · omega
    · rw [q, va_up_self, va_up_ne _ _ q']
      exact fun z => z.trans (hnew k hk q' z)
    · rw [q', va_up_self, va_up_ne _ _ q]
      exact fun z => hnew j hj q z.symm
    · rw [va_up_ne _ _ q, va_up_ne _ _ q']; exact (c.dd j k hj hk hjk).2
  · by_cases q : j = i
    · rw [q, va_up_self] at ht; exact hl' t ht
    · rw [va_up_ne _ _ q] at ht; exact c.lp j hj t ht
  · by_cases q : j = i
    · rw [q, va_up_self]; exact hc
    · rw [va_up_ne _ _ q]; exact c.cp j hj
  · have := ((f x (by rw [c.sk.kx]; decide)).2.2 (nS x (by rw [c.sk.kx]; decide) (by rw [c.sk.kx]; decide) c.sk.x1)).1
    rw [this]; exact c.lm
/-- an int was written, not of a list and not allInOrder -/
theorem CI.wI {g : Gm} {Y P : Nat → Prop} {h0 h : Hp} {x b k : Nat} {v : Int32} {D E C : Nat → Nat} {L : Nat → List Nat} (c : CI g Y P h0 h x D E C L) (hb : hK h b ≠ 6) (hy : ¬ Y b) (hx : b = x → k = 5 → zB v) (hx4 : b = x → k ≠ 4) : CI g Y P h0 (sI h b k v) x D E C L := by
  have f : Fr (fun z => z = b) h (sI h b k v) := Fr.sI rfl
  obtain ⟨u1, u2⟩ := c.un.fr c.yk f (fun z hz q => hy (q ▸ hz))
  have s := c.sk
  refine ⟨u1, u2, ⟨s.kx, s.yx, s.x1, s.f0, s.f1, s.f2, s.f3, s.k5, s.w0, s.k6, s.r0, s.r1, s.r2, s.r3, s.r4, s.k4, s.k7, s.k8, s.k9, s.dy, s.d89⟩, c.tk, ?_, fun i hi => ?_, c.ey, c.dd, c.lp, c.cp, c.h01, by rw [rI_sI, if_neg (fun z => hx4 z.1.symm z.2.symm)]; exact c.lm⟩
  · rw [rI_sI]
    by_cases q : x = b ∧ 5 = k
    · rw [if_pos q]; exact hx q.1.symm q.2.symm
    · rw [if_neg q]; exact c.zb
  · have z := c.ls i hi
    refine ⟨z.1, ?_, z.2.2⟩
    rw [rI_sI, if_neg (fun q => ?_)]
    · exact z.2.1
    · rw [← q.1] at hb; exact hb z.1
theorem CI.wJ {g : Gm} {Y P : Nat → Prop} {h0 h : Hp} {x b k : Nat} {v : Int64} {D E C : Nat → Nat} {L : Nat → List Nat} (c : CI g Y P h0 h x D E C L) (hy : ¬ Y b) : CI g Y P h0 (sJ h b k v) x D E C L := by
  have f : Fr (fun z => z = b) h (sJ h b k v) := Fr.sJ rfl
  obtain ⟨u1, u2⟩ := c.un.fr c.yk f (fun z hz q => hy (q ▸ hz))
  have s := c.sk
  exact ⟨u1, u2, ⟨s.kx, s.yx, s.x1, s.f0, s.f1, s.f2, s.f3, s.k5, s.w0, s.k6, s.r0, s.r1, s.r2, s.r3, s.r4, s.k4, s.k7, s.k8, s.k9, s.dy, s.d89⟩, c.tk, c.zb, c.ls, c.ey, c.dd, c.lp, c.cp, c.h01, c.lm⟩
/-- an int of a task -/
theorem CI.wT {g : Gm} {Y P : Nat → Prop} {h0 h : Hp} {x t k : Nat} {v : Int32} {D E C : Nat → Nat} {L : Nat → List Nat} (c : CI g Y P h0 h x D E C L) (ht : P t) : CI g Y P h0 (sI h t k v) x D E C L := by
  have tk := c.tk t ht
  have nx : t ≠ x := fun z => by
    have := c.sk.kx
    rw [← z, tk.1] at this; exact absurd this (by decide)
  exact c.wI (by rw [tk.1]; decide) tk.2.1 (fun z => absurd z nx) (fun z => absurd z nx)
/-- an int of an array of ours -/
theorem CI.wA {g : Gm} {Y P : Nat → Prop} {h0 h : Hp} {x b k kd : Nat} {v : Int32} {D E C : Nat → Nat} {L : Nat → List Nat} (c : CI g Y P h0 h x D E C L) (hk : hK h b = kd) (hkd : 20 < kd) (hy : ¬ Y b) : CI g Y P h0 (sI h b k v) x D E C L := by
  have nx : b ≠ x := fun z => by
    have := c.sk.kx
    rw [← z] at this; omega
  exact c.wI (by omega) hy (fun z => absurd z nx) (fun z => absurd z nx)
/-- a list's member is a task -/
theorem CI.mem {g : Gm} {Y P : Nat → Prop} {h0 h : Hp} {x i j : Nat} {D E C : Nat → Nat} {L : Nat → List Nat} (c : CI g Y P h0 h x D E C L) (hi : i < 4) (hj : j < (L i).length) : P ((L i).getD j 0) := c.lp i hi _ (getD_mem hj)
theorem CI.kT {g : Gm} {Y P : Nat → Prop} {h0 h : Hp} {x t : Nat} {D E C : Nat → Nat} {L : Nat → List Nat} (c : CI g Y P h0 h x D E C L) (ht : P t) : hK h t = 4 := (c.tk t ht).1
theorem CI.len {g : Gm} {Y P : Nat → Prop} {h0 h : Hp} {x i : Nat} {D E C : Nat → Nat} {L : Nat → List Nat} (c : CI g Y P h0 h x D E C L) (hi : i < 4) : (L i).length ≤ 549 := Nat.le_trans (c.ls i hi).cle (CS_549 _ (c.cp i hi).1)
/-- a long was written, anywhere -/
theorem CI.wO {g : Gm} {Y P : Nat → Prop} {h0 h : Hp} {x b k : Nat} {v : Int64} {D E C : Nat → Nat} {L : Nat → List Nat} (c : CI g Y P h0 h x D E C L) (hb : hN h b = 1) : CI g Y P h0 (sJ h b k v) x D E C L := by
  have s := c.sk
  have un : Un Y h0 (sJ h b k v) := fun q hq => by
    obtain ⟨u1, u2, u3, u5, u6⟩ := c.un q hq
    refine ⟨u1, u2, u3, u5, fun z => Eq.trans ?_ (u6 z)⟩
    funext j
    rw [rJ_sJ, if_neg (fun y : q = b ∧ j = k => z (by rw [← u2, y.1]; exact hb))]
  exact ⟨un, c.yk, ⟨s.kx, s.yx, s.x1, s.f0, s.f1, s.f2, s.f3, s.k5, s.w0, s.k6, s.r0, s.r1, s.r2, s.r3, s.r4, s.k4, s.k7, s.k8, s.k9, s.dy, s.d89⟩, c.tk, c.zb, c.ls, c.ey, c.dd, c.lp, c.cp, c.h01, c.lm⟩
/-- nothing of ours was changed -/
theorem CI.fr {g : Gm} {Y P S : Nat → Prop} {h0 h h' : Hp} {x : Nat} {D E C : Nat → Nat} {L : Nat → List Nat} (c : CI g Y P h0 h x D E C L) (f : Fr S h h') (hS : ∀ b : Nat, hK h b ≠ 0 → ¬ S b) : CI g Y P h0 h' x D E C L := by
  obtain ⟨u1, u2⟩ := c.un.fr c.yk f (fun b hb => hS b (c.yk b hb))
  have hx := hS x (by rw [c.sk.kx]; decide)
  refine ⟨u1, u2, c.sk.fr f hx (hS _ (by rw [c.sk.k5]; decide)) (hS _ (by rw [c.sk.k6]; decide)), fun t ht => (c.tk t ht).fr f (hS t (by rw [(c.tk t ht).1]; decide)), ?_, fun i hi => ?_, c.ey, c.dd, c.lp, c.cp, c.h01, by rw [((f x (by rw [c.sk.kx]; decide)).2.2 hx).1]; exact c.lm⟩
  · rw [((f x (by rw [c.sk.kx]; decide)).2.2 hx).1]; exact c.zb
  · have l := c.ls i hi
    refine l.kept' f (hS _ (by rw [l.1]; decide)) fun z => ?_
    rcases l.kE with q | q
    · exact absurd q z
    · exact hS _ (by rw [q]; decide)
