/-! EXACT: the reference's other calls -/
theorem MZ.n {h : Hp} {a : Nat} {A : Nat → Nat} {z : Zs} (e : MZ h a A z) : hI h a 2 = nI (zn z) := e.1
/-- a new task of age v -/
def aTask (z : Zs) (v : Int32) : Zs := (fun f u r => if f = 7 ∧ u = zn z + 1 ∧ r = 0 then v else zI z f u r, zQ z, zR z, zn z + 1, zK z, zG z)
theorem aTask_o {z : Zs} {v : Int32} (o : Zo z) (hn : zn z < 30) : Zo (aTask z v) := by
  obtain ⟨o1, o2, o3, o4, o5, o6, o7, o8⟩ := o
  have e : ∀ f u r : Nat, f ≠ 7 → zI (aTask z v) f u r = zI z f u r := fun f u r h => if_neg (fun q => h q.1)
  have en : zn (aTask z v) = zn z + 1 := rfl
  refine ⟨by rw [en]; omega, fun t s t1 t2 hs => by rw [e 0 t s (by decide)]; exact o2 t s t1 t2 hs, o3, fun s t hs => ?_, fun t t1 t2 => by rw [e 4 t 0 (by decide)]; exact o5 t t1 t2, fun t t1 t2 => by rw [e 3 t 0 (by decide), e 4 t 0 (by decide)]; exact o6 t t1 t2, fun t t1 t2 => by rw [e 4 t 0 (by decide), e 5 t 0 (by decide)]; exact o7 t t1 t2, fun t t1 t2 => ?_⟩
  · rw [e 4 t 0 (by decide), en]
    show t ∈ zQ z s ↔ _
    rw [o4 s t hs]
    refine ⟨fun q => ⟨q.1, by omega, q.2.2⟩, fun q => ⟨q.1, ?_, q.2.2⟩⟩
    rcases Nat.lt_or_ge (zn z) t with c | c
    · have := (o8 t c (by omega)).2.1
      rw [this] at q
      exact absurd q.2.2 (nIm1 (by omega))
    · exact c
  · rw [e 3 t 0 (by decide), e 4 t 0 (by decide), e 6 t 0 (by decide)]
    obtain ⟨p1, p2, p3, p4⟩ := o8 t (by rw [en] at t1; omega) t2
    exact ⟨p1, p2, p3, fun s hs => by rw [e 0 t s (by decide), e 1 t s (by decide), e 2 t s (by decide)]; exact p4 s hs⟩
theorem X_task {g : Gm} {Y : Nat → Prop} {h0 h : Hp} {a n r q : Nat} {i : Int32} {A : Nat → Nat} {z : Zs} {post : Int32 → Hp → Prop} (m : MI Y h0 h a A n r q) (e : MZ h a A z) (en : zn z = n)
    (p1 : ∀ h' : Hp, n < 30 → MI Y h0 h' a A (n + 1) r 30 → MZ h' a A (aTask z i) → post (nI (n + 1)) h') (p0 : ∀ h' : Hp, n = 30 → MI Y h0 h' a A n r 30 → MZ h' a A z → post (-1) h') : wp_M_task g post h a i := by
  refine M_task m.2.1 m.2.2.2.1 m.2.2.2.2.1 (fun hn => p1 _ hn ?_ ?_) (fun hn => p0 _ hn (m.wF (by decide)).top (e.wF m.2.1 (by decide)))
  · have m1 : MI Y h0 (sI h a 0 0) a A n r q := m.wF (by decide)
    have m2 : MI Y h0 (sI (sI h a 0 0) a 2 (nI (n + 1))) a A (n + 1) r q := by
      obtain ⟨m1, m2, m3, m4, m5, m6, m7, m8, ⟨z, z1, z2, z3⟩, ⟨y, y1, y2⟩⟩ := m1
      have o : ∀ j kj lj : Nat, (j, kj, lj) ∈ MA → hI (sI (sI h a 0 0) a 2 (nI (n + 1))) (A j) = hI (sI h a 0 0) (A j) := fun j kj lj h1 => sI_o (fun z => m2.na j kj lj h1 z.symm)
      have o7 := o 7 21 31 (by decide)
      have o5 := o 5 21 31 (by decide)
      have o15 := o 15 21 1550 (by decide)
      have o16 := o 16 21 50 (by decide)
      have o18 := o 18 21 2000 (by decide)
      exact ⟨m1.sI m3.1, m2.sI, m3, by rw [rI_sI, if_pos ⟨rfl, rfl⟩], by omega, by rw [o7, o15, o16]; exact m6, by rw [o7]; exact m7, by rw [o7, o5]; exact m8, ⟨z, z1, by rw [rI_sI, if_neg (by omega)]; exact z2, by rw [o18]; exact z3⟩, ⟨y, y1, by rw [rI_sI, if_neg (by omega)]; exact y2.1, by rw [rI_sI, if_neg (by omega)]; exact y2.2⟩⟩
    exact (m2.wI (k := 4) (kd := 21) (len := 31) (by decide) (by decide)).top
  · have inM : ∀ k ∈ [5, 6, 7, 8, 9, 11, 12, 15, 16, 21], ∃ t ∈ MA, t.1 = k := by decide
    have oa : ∀ j : Nat, (∃ t ∈ MA, t.1 = j) → hI (sI (sI h a 0 0) a 2 (nI (n + 1))) (A j) = hI h (A j) := fun j hj => by
      obtain ⟨t, t1, t2⟩ := hj
      rw [← t2]
      have na : A t.1 ≠ a := fun z => m.2.1.na t.1 t.2.1 t.2.2 t1 z.symm
      rw [sI_o na, sI_o na]
    have ok : ∀ k ∈ [5, 6, 7, 8, 9, 11, 12, 15, 16, 21], hI (sI (sI (sI h a 0 0) a 2 (nI (n + 1))) (A 4) (n + 1) i) (A k) = hI h (A k) := fun k hk => by
      rw [sI_o (MA_ne m.2.1 k 4 (inM k hk) (by decide) (by revert k; decide)), oa k (inM k hk)]
    have na := m.2.1.na 4 21 31 (by decide)
    obtain ⟨e1, e2, e3, e4, e5, e6⟩ := e
    have lit : ∀ f u r : Nat, f ≠ 7 → zI (aTask z i) f u r = zI z f u r := fun f u r h => if_neg (fun q => h q.1)
    refine ⟨?_, fun t s t1 t2 hs => ?_, fun t t1 t2 => ?_, ?_, ?_, e6⟩
    · rw [sI_o na, rI_sI, if_pos ⟨rfl, rfl⟩]
      show nI (n + 1) = nI (zn z + 1)
      rw [en]
    · rw [ok 9 (by decide), ok 11 (by decide), ok 12 (by decide), lit 0 t s (by decide), lit 1 t s (by decide), lit 2 t s (by decide)]
      exact e2 t s t1 t2 hs
    · obtain ⟨q1, q2, q3, q4, q5⟩ := e3 t t1 t2
      rw [ok 5 (by decide), ok 7 (by decide), ok 8 (by decide), ok 6 (by decide), lit 3 t 0 (by decide), lit 4 t 0 (by decide), lit 5 t 0 (by decide), lit 6 t 0 (by decide)]
      refine ⟨q1, q2, q3, q4, fun ht => ?_⟩
      have ht : t ≤ zn z + 1 := ht
      rw [rI_sI, oa 4 (by decide)]
      show _ = (if 7 = 7 ∧ t = zn z + 1 ∧ 0 = 0 then i else zI z 7 t 0)
      by_cases c : t = n + 1
      · rw [if_pos ⟨rfl, c⟩, if_pos ⟨rfl, by omega, rfl⟩]
      · rw [if_neg (fun q => c q.2), if_neg (by omega)]; exact q5 (by omega)
    · rw [ok 16 (by decide), ok 15 (by decide)]; exact e4
    · rw [sI_o na, rI_sI, if_neg (by omega), rI_sI, if_neg (by omega), ok 21 (by decide)]; exact e5
/-- task t keeps the number v for s -/
def aWrite (z : Zs) (t s : Nat) (v : Int64) : Zs := (fun f u r => if f = 2 ∧ u = t ∧ r = s then 1 else zI z f u r, zQ z, zR z, zn z, fun u r => if u = t ∧ r = s then v else zK z u r, zG z)
theorem aWrite_o {z : Zs} {t s : Nat} {v : Int64} (o : Zo z) (ht : t ≤ zn z) : Zo (aWrite z t s v) := zu_o (f := 2) (s := s) (v := 1) o ht (Or.inr (Or.inl rfl))
theorem X_write {g : Gm} {Y : Nat → Prop} {h0 h : Hp} {a n r q t s : Nat} {v : Int64} {A : Nat → Nat} {z : Zs} {post : Int32 → Hp → Prop} (m : MI Y h0 h a A n r q) (e : MZ h a A z) (o : Zo z) (ht1 : 1 ≤ t) (htn : t ≤ zn z) (hs : s < 50) (hst : zI z 3 t 0 = 0)
    (p1 : 1 ≤ zI z 0 t s → ∀ h' : Hp, MI Y h0 h' a A n r 30 → MZ h' a A (aWrite z t s v) → post 1 h') (p0 : ¬ 1 ≤ zI z 0 t s → ∀ h' : Hp, MI Y h0 h' a A n r 30 → MZ h' a A z → post 0 h') : wp_M_write g post h a (nI t) (nI s) v := by
  have o1 := o.1
  unfold wp_M_write
  refine ⟨m.2.1.1, fun h2 e2 => ?_⟩
  have m2 : MI Y h0 h2 a A n r q := by rw [e2]; exact m.wF (by decide)
  have z2 : MZ h2 a A z := by rw [e2]; exact e.wF m.2.1 (by decide)
  obtain ⟨r1, r2, r3⟩ := m2.2.1.row 5 21 31 (by decide)
  obtain ⟨u1, u2, u3⟩ := m2.2.1.row 9 21 1550 (by decide)
  obtain ⟨v1, v2, v3⟩ := m2.2.1.row 12 23 1550 (by decide)
  refine ⟨m2.2.1.1, M_isTask m2.2.1.1 z2.1 o1 (fun _ _ _ _ => ⟨fun _ => ?_, fun c => absurd c (by decide)⟩) (fun q => absurd rfl (q t ht1 htn))⟩
  refine M_isSegment (fun _ _ _ => ⟨fun _ => ?_, fun c => absurd c (by decide)⟩) (fun q => absurd rfl (q s hs))
  refine ⟨m2.2.1.1, A 5, r1, r2, by rw [r3]; exact vp_in_nI (by omega) (by omega), ?_⟩
  rw [nI_clamp (n := t) (by omega), (z2.2.2.1 t ht1 (by omega)).1, hst]
  refine ⟨fun _ => ⟨m2.2.1.1, A 9, u1, M_of ⟨u2, by rw [u3]; exact vp_in_nI (by omega) (by omega), ?_⟩⟩, fun c => absurd rfl c⟩
  rw [nI_clamp (n := 50 * t + s) (by omega), (z2.2.1 t s ht1 (by omega) hs).1]
  refine ⟨fun c => ⟨m2.2.1.1, A 12, v1, M_of ⟨v2, by rw [v3]; exact vp_in_nI (by omega) (by omega), Or.inr rfl, fun h28 e28 => ?_⟩⟩, fun c => p0 c h2 m2.top z2⟩
  rw [nI_clamp (n := 50 * t + s) (by omega)] at e28
  have m28 : MI Y h0 h28 a A n r q := by rw [e28]; exact m2.wI (k := 12) (kd := 23) (len := 1550) (by decide) (by decide)
  have z28 : MZ h28 a A (zu z 2 t s 1) := by rw [e28]; exact z2.w12 m2.2.1 (by omega) hs
  obtain ⟨y1, y2, y3⟩ := m28.2.1.row 13 22 1550 (by decide)
  refine ⟨m28.2.1.1, A 13, y1, M_of ⟨y2, by rw [y3]; exact vp_in_nI (by omega) (by omega), fun h35 e35 => ?_⟩⟩
  rw [nI_clamp (n := 50 * t + s) (by omega)] at e35
  have m35 : MI Y h0 h35 a A n r q := by rw [e35]; exact m28.wJ (m28.2.2.1.2 (13, 22, 1550) (by decide))
  have z35 : MZ h35 a A (aWrite z t s v) := by
    obtain ⟨f1, f2, f3, f4, f5, f6⟩ := z28
    have n13 : A 1 ≠ A 13 := MA_ne m.2.1 1 13 (by decide) (by decide) (by decide)
    rw [e35]
    refine ⟨f1, fun u p u1 u2 p1 => ?_, f3, f4, f5, fun p hp => ?_⟩
    · obtain ⟨q1, q2, q3, q4⟩ := f2 u p u1 u2 p1
      refine ⟨q1, q2, q3, ?_⟩
      rw [rJ_sJ]
      show _ = (if u = t ∧ p = s then v else zK z u p)
      by_cases c : u = t ∧ p = s
      · rw [if_pos ⟨rfl, by rw [c.1, c.2]⟩, if_pos c]
      · rw [if_neg (fun q => c (by have := q.2; omega)), if_neg c]; exact q4
    · rw [rJ_sJ, if_neg (fun q => n13 q.1)]; exact f6 p hp
  refine ⟨m35.2.1.1, fun x37 _ => ⟨m35.2.1.1, fun h39 e39 => ?_⟩⟩
  have m39 : MI Y h0 h39 a A n r q := by rw [e39]; exact m35.wF (by decide)
  have z39 : MZ h39 a A (aWrite z t s v) := by rw [e39]; exact z35.wF m35.2.1 (by decide)
  obtain ⟨w1, w2, w3⟩ := m39.2.1.row 10 21 1550 (by decide)
  refine ⟨m39.2.1.1, A 10, w1, M_of ⟨m39.2.1.1, w2, by rw [w3]; exact vp_in_nI (by omega) (by omega), fun h47 e47 => p1 c h47 ?_ ?_⟩⟩
  · rw [e47]; exact (m39.wI (k := 10) (kd := 21) (len := 1550) (by decide) (by decide)).top
  · rw [e47]; exact z39.wO m39.2.1 (by decide)
/-- what task t has kept is agreed -/
def aAgr (z : Zs) (t : Nat) : Zs := (z.1, z.2.1, z.2.2.1, z.2.2.2.1, z.2.2.2.2.1, fun s => if ¬ zI z 2 t s = 0 then zK z t s else zG z s)
theorem aAgr_o {z : Zs} {t : Nat} (o : Zo z) : Zo (aAgr z t) := o
/-- how many segments task t has written -/
def aWr (z : Zs) (t : Nat) : Nat := cntF (fun s => decide (¬ zI z 2 t s = 0)) 50
theorem X_writesOf {g : Gm} {h : Hp} {a t : Nat} {A : Nat → Nat} {z : Zs} {post : Int32 → Prop} (m : Mst h a A) (e : MZ h a A z) (ht1 : 1 ≤ t) (ht : t ≤ 30) (hp : post (nI (aWr z t))) : wp_M_writesOf g post h a (nI t) := by
  have h50 : (50 : Int32) = nI 50 := rfl
  obtain ⟨r1, r2, r3⟩ := m.row 12 23 1550 (by decide)
  have loop : ∀ (d s : Nat), s + d = 50 → wp_M_writesOf_4 g post (d + 1) h a (nI t) (nI (cntF (fun s => decide (¬ zI z 2 t s = 0)) s)) (nI s) := by
    intro d
    induction d with
    | zero =>
      intro s es
      have es : s = 50 := by omega
      subst es
      unfold wp_M_writesOf_4
      exact ⟨fun _ => hp, fun c => absurd (by decide) c⟩
    | succ d ih =>
      intro s es
      have nx := ih (s + 1) (by omega)
      unfold wp_M_writesOf_4 wp_M_writesOf_29
      refine ⟨fun c => ?_, fun _ => ⟨m.1, A 12, r1, M_of ⟨r2, by rw [r3]; exact vp_in_nI (by omega) (by omega), ?_⟩⟩⟩
      · rw [h50] at c
        have := (nI_leI (by omega) (by omega)).mp c
        omega
      · rw [nI_clamp (n := 50 * t + s) (by omega), (e.2.1 t s ht1 ht (by omega)).2.2.1]
        have st : cntF (fun s => decide (¬ zI z 2 t s = 0)) (s + 1) = cntF (fun s => decide (¬ zI z 2 t s = 0)) s + (if decide (¬ zI z 2 t s = 0) = true then 1 else 0) := rfl
        rw [st] at nx
        refine ⟨fun c x1 e1 x2 e2 => ?_, fun c x1 e1 x2 e2 => ?_⟩
        · rw [nI_1] at e2
          rw [if_neg (by simp [c])] at nx
          have e1 : x1 = nI (cntF (fun s => decide (¬ zI z 2 t s = 0)) s) := by rw [e1]; exact nI_add _ 0
          rw [e1, e2]; exact nx
        · rw [nI_1] at e2
          rw [if_pos (by simp [c])] at nx
          have e1 : x1 = nI (cntF (fun s => decide (¬ zI z 2 t s = 0)) s + 1) := by rw [e1]; exact nI_1 _
          rw [e1, e2]; exact nx
  unfold wp_M_writesOf
  exact ⟨51, loop 50 0 rfl⟩
theorem X_agree {g : Gm} {Y : Nat → Prop} {h0 h : Hp} {a n r q t : Nat} {A : Nat → Nat} {z : Zs} {post : Int32 → Hp → Prop} (m : MI Y h0 h a A n r q) (e : MZ h a A z) (o : Zo z) (hr : r ≤ 2000) (ht1 : 1 ≤ t) (htn : t ≤ zn z)
    (hp : ∀ h' : Hp, MI Y h0 h' a A n r 30 → MZ h' a A (aClear (aAgr z t) t 0) → post (nI (aHeld z t)) h') : wp_M_agree g post h a (nI t) := by
  have h50 : (50 : Int32) = nI 50 := rfl
  have o1 := o.1
  have gz : ∀ (j : Nat) (h : Hp), Mst h a A → (MZ h a A (z.1, z.2.1, z.2.2.1, z.2.2.2.1, z.2.2.2.2.1, fun s => if s < j then (if ¬ zI z 2 t s = 0 then zK z t s else zG z s) else zG z s)) → j < 50 → ∀ v : Int64, v = (if ¬ zI z 2 t j = 0 then zK z t j else zG z j) → MZ (sJ h (A 1) j v) a A (z.1, z.2.1, z.2.2.1, z.2.2.2.1, z.2.2.2.2.1, fun s => if s < j + 1 then (if ¬ zI z 2 t s = 0 then zK z t s else zG z s) else zG z s) := fun j h m e hj v ev => by
    obtain ⟨f1, f2, f3, f4, f5, f6⟩ := e
    have n13 : A 13 ≠ A 1 := MA_ne m 13 1 (by decide) (by decide) (by decide)
    refine ⟨f1, fun u p u1 u2 p1 => ?_, f3, f4, f5, fun p hp => ?_⟩
    · obtain ⟨q1, q2, q3, q4⟩ := f2 u p u1 u2 p1
      exact ⟨q1, q2, q3, by rw [rJ_sJ, if_neg (fun q => n13 q.1)]; exact q4⟩
    · rw [rJ_sJ]
      show _ = (if p < j + 1 then (if ¬ zI z 2 t p = 0 then zK z t p else zG z p) else zG z p)
      by_cases c : p = j
      · rw [if_pos ⟨rfl, c⟩, if_pos (show p < j + 1 by omega), c, ev]
      · rw [if_neg (fun q => c q.2)]
        have := f6 p hp
        rw [this]
        show (if p < j then (if ¬ zI z 2 t p = 0 then zK z t p else zG z p) else zG z p) = _
        by_cases d : p < j
        · rw [if_pos d, if_pos (show p < j + 1 by omega)]
        · rw [if_neg d, if_neg (show ¬ p < j + 1 by omega)]
  have loop : ∀ (d s : Nat) (h : Hp), s + d = 50 → MI Y h0 h a A n r q → MZ h a A (z.1, z.2.1, z.2.2.1, z.2.2.2.1, z.2.2.2.2.1, fun p => if p < s then (if ¬ zI z 2 t p = 0 then zK z t p else zG z p) else zG z p) → wp_M_agree_26 g post (d + 1) h a (nI t) (nI s) := by
    intro d
    induction d with
    | zero =>
      intro s h es m e
      have es : s = 50 := by omega
      subst es
      have e' : MZ h a A (aAgr z t) := e.congr ⟨rfl, fun _ _ _ _ _ => ⟨rfl, rfl, rfl, rfl⟩, fun _ _ _ => ⟨rfl, rfl, fun _ => rfl, rfl, rfl⟩, fun _ _ => rfl, rfl, fun p hp => by
        show (if ¬ zI z 2 t p = 0 then zK z t p else zG z p) = (if p < 50 then (if ¬ zI z 2 t p = 0 then zK z t p else zG z p) else zG z p)
        rw [if_pos hp]⟩
      unfold wp_M_agree_26
      exact ⟨fun _ => ⟨m.2.1.1, X_clear m e' (aAgr_o o) hr ht1 htn (by decide) fun h' q' _ _ m' e'' => hp h' m'.top e''⟩, fun c => absurd (by decide) c⟩
    | succ d ih =>
      intro s h es m e
      obtain ⟨r1, r2, r3⟩ := m.2.1.row 12 23 1550 (by decide)
      obtain ⟨u1, u2, u3⟩ := m.2.1.row 1 22 50 (by decide)
      obtain ⟨y1, y2, y3⟩ := m.2.1.row 13 22 1550 (by decide)
      have m5 := m.2.1.1
      have i1 : vp_in (nI s) (hN h (A 1)) := by rw [u3]; exact vp_in_nI (by omega) (by omega)
      have nx : ∀ v : Int64, v = (if ¬ zI z 2 t s = 0 then zK z t s else zG z s) → wp_M_agree_69 g post (fun h v0 v1 v2 => wp_M_agree_26 g post (d + 1) h v0 v1 v2) h a (nI t) (nI s) (A 1) (nI s) v := fun v ev => by
        unfold wp_M_agree_69
        refine ⟨u2, i1, fun h2 e2 x3 e3 => ?_⟩
        rw [nI_1] at e3
        subst e3
        rw [nI_clamp (by omega)] at e2
        exact ih (s + 1) h2 (by omega) (by rw [e2]; exact m.wJ (m.2.2.1.2 (1, 22, 50) (by decide))) (by rw [e2]; exact gz s h m.2.1 e (by omega) v ev)
      have e12 := (e.2.1 t s ht1 (by omega) (by omega)).2.2.1
      have e13 := (e.2.1 t s ht1 (by omega) (by omega)).2.2.2
      have e1 := e.2.2.2.2.2 s (by omega)
      unfold wp_M_agree_26
      refine ⟨fun c => ?_, fun _ => ⟨m5, A 1, u1, m5, A 12, r1, M_of ⟨r2, by rw [r3]; exact vp_in_nI (by omega) (by omega), ?_⟩⟩⟩
      · rw [h50] at c
        have := (nI_leI (by omega) (by omega)).mp c
        omega
      · rw [nI_clamp (n := 50 * t + s) (by omega), e12]
        refine ⟨fun c => ⟨m5, A 1, u1, u2, i1, nx _ ?_⟩, fun c => ⟨m5, A 13, y1, M_of ⟨y2, by rw [y3]; exact vp_in_nI (by omega) (by omega), nx _ ?_⟩⟩⟩
        · have c : zI z 2 t s = 0 := c
          rw [nI_clamp (by omega), e1, if_neg (fun q => q c)]
          show (if s < s then (if ¬ zI z 2 t s = 0 then zK z t s else zG z s) else zG z s) = zG z s
          rw [if_neg (by omega)]
        · have c : ¬ zI z 2 t s = 0 := c
          rw [nI_clamp (by omega), e13, if_pos c]
          rfl
  have q21 : ∀ x : Int32, zB x → wp_M_agree_21 g post h a (nI t) a x := fun x hx => by
    unfold wp_M_agree_21
    refine ⟨m.2.1.1, hx, fun h2 e2 => ⟨51, loop 50 0 h2 rfl ?_ ?_⟩⟩
    · rw [e2]; exact m.wF (by decide)
    · rw [e2]
      refine (e.wF m.2.1 (by decide)).congr ⟨rfl, fun _ _ _ _ _ => ⟨rfl, rfl, rfl, rfl⟩, fun _ _ _ => ⟨rfl, rfl, fun _ => rfl, rfl, rfl⟩, fun _ _ => rfl, rfl, fun p hp => ?_⟩
      show (if p < 0 then (if ¬ zI z 2 t p = 0 then zK z t p else zG z p) else zG z p) = zG z p
      rw [if_neg (by omega)]
  have q1 := q21 1 (Or.inr rfl)
  have q0 := q21 0 (Or.inl rfl)
  unfold wp_M_agree wp_M_agree_16
  exact ⟨m.2.1.1, fun _ => q1, fun _ => ⟨m.2.1.1, m.isInOrder hr fun x => ⟨fun _ => q0, fun _ => q1⟩⟩⟩
