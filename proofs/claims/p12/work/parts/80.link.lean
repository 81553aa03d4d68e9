/-! LINK: class and reference side by side -/
/-- the reference behind a call of the class -/
theorem MI.un {Y : Nat → Prop} {h0 h h' : Hp} {a n r q : Nat} {A : Nat → Nat} (m : MI Y h0 h a A n r q) (u : Un Y h h') : MI Y h' h' a A n r q := by
  obtain ⟨m1, m2, m3, m4, m5, m6, m7, m8, ⟨z, z1, z2, z3⟩, ⟨y, y1, y2⟩⟩ := m
  obtain ⟨a1, a2, a3, a4, -⟩ := u a m3.1
  have e : ∀ t ∈ MA, hI h' (A t.1) = hI h (A t.1) := fun t ht => (u _ (m3.2 t ht)).2.2.1
  have e7 := e (7, 21, 31) (by decide)
  have e5 := e (5, 21, 31) (by decide)
  have e15 := e (15, 21, 1550) (by decide)
  have e16 := e (16, 21, 50) (by decide)
  have e18 := e (18, 21, 2000) (by decide)
  refine ⟨Lt.rf h', ⟨a1.trans m2.1, fun t ht => ?_, m2.2.2⟩, m3, by rw [a3]; exact m4, m5, ?_, ?_, ?_, ⟨z, z1, by rw [a3]; exact z2, ?_⟩, ⟨y, y1, by rw [a3]; exact y2.1, rfl⟩⟩
  · obtain ⟨c1, c2, c3⟩ := m2.2.1 t ht
    obtain ⟨u1, u2, -, -⟩ := u _ (m3.2 t ht)
    exact ⟨by rw [a4]; exact c1, u1.trans c2, u2.trans c3⟩
  · rw [e7, e15, e16]; exact m6
  · rw [e7]; exact m7
  · rw [e7, e5]; exact m8
  · rw [e18]; exact z3
/-- and the abstract state that it holds -/
theorem MZ.un {Y : Nat → Prop} {h0 h h' : Hp} {a n r q : Nat} {A : Nat → Nat} {z : Zs} (e : MZ h a A z) (m : MI Y h0 h a A n r q) (u : Un Y h h') : MZ h' a A z := by
  have m3 := m.2.2.1
  have inM : ∀ k ∈ [4, 5, 6, 7, 8, 9, 11, 12, 15, 16, 21], ∃ t ∈ MA, t.1 = k := by decide
  refine e.keep ?_ (fun k hk => ?_) ⟨?_, ?_⟩
  · rw [(u a m3.1).2.2.1]; exact ⟨rfl, rfl⟩
  · obtain ⟨t, t1, t2⟩ := inM k hk
    rw [← t2]; exact (u _ (m3.2 t t1)).2.2.1
  · exact (u _ (m3.2 (13, 22, 1550) (by decide))).2.2.2.2 (by rw [(m.2.1.2.1 (13, 22, 1550) (by decide)).2.2]; decide)
  · exact (u _ (m3.2 (1, 22, 50) (by decide))).2.2.2.2 (by rw [(m.2.1.2.1 (1, 22, 50) (by decide)).2.2]; decide)
/-- the class behind a call of the reference -/
theorem CI.lt {g : Gm} {Y P : Nat → Prop} {h0 h h' : Hp} {x : Nat} {D E C : Nat → Nat} {L : Nat → List Nat} (c : CI g Y P h0 h x D E C L) (t : Lt Y h h') : CI g Y P h' h' x D E C L := by
  obtain ⟨t1, t2, t3, t4⟩ := t
  have s := c.sk
  refine ⟨fun b _ => ⟨rfl, rfl, rfl, rfl, fun _ => rfl⟩, by rw [t1]; exact c.yk, ⟨by rw [t1]; exact s.kx, s.yx, s.x1, by rw [t3]; exact s.f0, by rw [t3]; exact s.f1, by rw [t3]; exact s.f2, by rw [t3]; exact s.f3, by rw [t1]; exact s.k5, by rw [t3]; exact s.w0, by rw [t1]; exact s.k6, by rw [t3]; exact s.r0, by rw [t3]; exact s.r1, by rw [t3]; exact s.r2, by rw [t3]; exact s.r3, by rw [t3]; exact s.r4, by rw [t1, t2]; exact s.k4, by rw [t1, t2]; exact s.k7, by rw [t1, t2]; exact s.k8, by rw [t1, t2]; exact s.k9, s.dy, s.d89⟩, fun u hu => ?_, by rw [(t4 x s.yx).1]; exact c.zb, fun i hi => ?_, c.ey, c.dd, c.lp, c.cp, c.h01, rfl⟩
  · have k := c.tk u hu
    unfold Tk at k ⊢
    rw [t1, t2, t3]; exact k
  · have l := c.ls i hi
    unfold Ls at l ⊢
    rw [t1, t2, t3, (t4 (D i) (s.dy i (by omega)).1).1]; exact l
theorem Cz.lt {g : Gm} {Y P : Nat → Prop} {h0 h h' : Hp} {x : Nat} {D E C : Nat → Nat} {L : Nat → List Nat} {B : Nat → Nat → Nat} {W : List Nat} {z : Zs} (a : Cz h L B D W z) (c : CI g Y P h0 h x D E C L) (t : Lt Y h h') : Cz h' L B D W z := by
  obtain ⟨t1, t2, t3, t4⟩ := t
  have hT : ∀ u : Nat, 1 ≤ u → u ≤ zn z → hI h' (Ta (L 0) u) = hI h (Ta (L 0) u) := fun u u1 u2 => (t4 _ (c.tk _ (Ta_P c u1 (by rw [a.1.1.1]; exact u2))).2.1).1
  refine ⟨⟨a.1.1.keep (fun u u1 u2 => ⟨hT u u1 u2, by rw [t3]⟩) (fun u k u1 u2 k1 k2 => ?_) (t4 _ (c.sk.dy 4 (by omega)).1).2, a.1.2.1.keep hT, a.1.2.2⟩, a.2⟩
  have ny : ¬ Y (B u k) := by
    have : k = 2 ∨ k = 3 ∨ k = 4 ∨ k = 5 ∨ k = 6 ∨ k = 7 := by omega
    rcases this with w | w | w | w | w | w <;> subst w
    · exact (a.1.1.arr c u1 u2 (k := 2) (kd := 21) (by decide) (by decide) (by decide)).2.2.2
    · exact (a.1.1.arr c u1 u2 (k := 3) (kd := 23) (by decide) (by decide) (by decide)).2.2.2
    · exact (a.1.1.arr c u1 u2 (k := 4) (kd := 23) (by decide) (by decide) (by decide)).2.2.2
    · exact (a.1.1.arr c u1 u2 (k := 5) (kd := 22) (by decide) (by decide) (by decide)).2.2.2
    · exact (a.1.1.arr c u1 u2 (k := 6) (kd := 23) (by decide) (by decide) (by decide)).2.2.2
    · exact (a.1.1.arr c u1 u2 (k := 7) (kd := 22) (by decide) (by decide) (by decide)).2.2.2
  exact t4 _ ny
theorem CI.rb {g : Gm} {Y P : Nat → Prop} {h0 h : Hp} {x : Nat} {D E C : Nat → Nat} {L : Nat → List Nat} (c : CI g Y P h0 h x D E C L) : CI g Y P h h x D E C L := c.lt (Lt.rf h)
theorem MI.rb {Y : Nat → Prop} {h0 h : Hp} {a n r q : Nat} {A : Nat → Nat} (m : MI Y h0 h a A n r q) : MI Y h h a A n r q := by
  obtain ⟨m1, m2, m3, m4, m5, m6, m7, m8, m9, ⟨y, y1, y2, y3⟩⟩ := m
  exact ⟨Lt.rf h, m2, m3, m4, m5, m6, m7, m8, m9, ⟨y, y1, y2, rfl⟩⟩
theorem MI.lm {Y : Nat → Prop} {h0 h : Hp} {a n r q : Nat} {A : Nat → Nat} (m : MI Y h0 h a A n r q) : hI h a 3 = hI h0 a 3 := by
  obtain ⟨y, y1, y2, y3⟩ := m.2.2.2.2.2.2.2.2.2
  exact y3
/-- class and reference hold the same abstract state: n tasks, at most k that wait, at most k reads, the same limit -/
def Bz (g : Gm) (Y P : Nat → Prop) (h : Hp) (x m o : Nat) (D A : Nat → Nat) (n k : Nat) : Prop := ∃ (E C : Nat → Nat) (L : Nat → List Nat) (B : Nat → Nat → Nat) (W : List Nat) (z : Zs), CI g Y P h h x D E C L ∧ MI Y h h m A n k 30 ∧ Cz h L B D W z ∧ MZ h m A z ∧ Zw z ∧ zn z = n ∧ (L 1).length ≤ k ∧ Y o ∧ hK h o = 22 ∧ hN h o = 1 ∧ hI h x 4 = hI h m 3 ∧ ∀ t j : Nat, 1 ≤ t → t ≤ zn z → 2 ≤ j → j ≤ 7 → B t j ≠ g.2.2 1
/-- both have made their call -/
theorem Bz.after {g : Gm} {Y P' : Nat → Prop} {hc hm h1 h2 : Hp} {x m o n' k : Nat} {D A E' C' : Nat → Nat} {L' : Nat → List Nat} {B' : Nat → Nat → Nat} {W' : List Nat} {z' : Zs} (ho : Y o) (ko : hK h1 o = 22) (no : hN h1 o = 1) (c1 : CI g Y P' hc h1 x D E' C' L') (a1 : Cz h1 L' B' D W' z') (t : Lt Y h1 h2) (m2 : MI Y hm h2 m A n' (k + 1) 30) (e2 : MZ h2 m A z') (w : Zw z') (ln : zn z' = n') (l1 : (L' 1).length ≤ k + 1) (e : hI h1 x 4 = hI h2 m 3) (hg : ∀ t j : Nat, 1 ≤ t → t ≤ zn z' → 2 ≤ j → j ≤ 7 → B' t j ≠ g.2.2 1) : Bz g Y P' h2 x m o D A n' (k + 1) := by
  refine ⟨E', C', L', B', W', z', c1.lt t, m2.rb, a1.lt c1 t, e2, w, ln, l1, ho, ?_, ?_, ?_, hg⟩
  · rw [t.1]; exact ko
  · rw [t.2.1]; exact no
  · rw [(t.2.2.2 x c1.sk.yx).1]; exact e
theorem zR_le {g : Gm} {Y P : Nat → Prop} {h0 h : Hp} {x m n r q : Nat} {D E C A : Nat → Nat} {L : Nat → List Nat} {B : Nat → Nat → Nat} {W : List Nat} {z : Zs} (c : CI g Y P h0 h x D E C L) (a : Cz h L B D W z) (mi : MI Y h0 h m A n r q) (e : MZ h m A z) : (zR z).length ≤ 31 := by
  obtain ⟨y, y1, y2, -⟩ := mi.2.2.2.2.2.2.2.2.2
  have hl := c.len (i := 2) (by omega)
  have ll : (L 2).length = (zR z).length := by rw [a.2.1]; exact List.length_map ..
  have q := e.2.2.2.2.1.1
  rw [y2] at q
  have := (nI_eq (by omega) (by omega)).mp q
  omega
/-- the places that one call may cost -/
def sM : Nat := 6000
def sB (d : Nat) : Nat := sM * d
theorem sB_s (d : Nat) : sB (d + 1) = sB d + sM := Nat.mul_succ sM d
