/-! EXACT: the reference holds the abstract state -/
def MZ (h : Hp) (a : Nat) (A : Nat → Nat) (z : Zs) : Prop := hI h a 2 = nI (zn z) ∧
  (∀ t s : Nat, 1 ≤ t → t ≤ 30 → s < 50 → hI h (A 9) (50 * t + s) = zI z 0 t s ∧ hI h (A 11) (50 * t + s) = zI z 1 t s ∧ hI h (A 12) (50 * t + s) = zI z 2 t s ∧ hJ h (A 13) (50 * t + s) = zK z t s) ∧
  (∀ t : Nat, 1 ≤ t → t ≤ 30 → hI h (A 5) t = zI z 3 t 0 ∧ hI h (A 7) t = zI z 4 t 0 ∧ (¬ zI z 4 t 0 = -1 → hI h (A 8) t = zI z 5 t 0) ∧ hI h (A 6) t = zI z 6 t 0 ∧ (t ≤ zn z → hI h (A 4) t = zI z 7 t 0)) ∧
  (∀ s : Nat, s < 50 → hI h (A 16) s = nI (zQ z s).length ∧ ∀ k : Nat, k < (zQ z s).length → hI h (A 15) (31 * s + k) = nI ((zQ z s).getD k 0)) ∧
  (hI h a 25 = nI (zR z).length ∧ ∀ k : Nat, k < (zR z).length → hI h (A 21) k = nI ((zR z).getD k 0)) ∧
  (∀ s : Nat, s < 50 → hJ h (A 1) s = zG z s)
/-- the same as far as it is looked at -/
def Ze (z z' : Zs) : Prop := zn z' = zn z ∧ (∀ t s : Nat, 1 ≤ t → t ≤ 30 → s < 50 → zI z' 0 t s = zI z 0 t s ∧ zI z' 1 t s = zI z 1 t s ∧ zI z' 2 t s = zI z 2 t s ∧ zK z' t s = zK z t s) ∧ (∀ t : Nat, 1 ≤ t → t ≤ 30 → zI z' 3 t 0 = zI z 3 t 0 ∧ zI z' 4 t 0 = zI z 4 t 0 ∧ (¬ zI z 4 t 0 = -1 → zI z' 5 t 0 = zI z 5 t 0) ∧ zI z' 6 t 0 = zI z 6 t 0 ∧ zI z' 7 t 0 = zI z 7 t 0) ∧ (∀ s : Nat, s < 50 → zQ z' s = zQ z s) ∧ zR z' = zR z ∧ (∀ s : Nat, s < 50 → zG z' s = zG z s)
theorem MZ.congr {h : Hp} {a : Nat} {A : Nat → Nat} {z z' : Zs} (e : MZ h a A z) (q : Ze z z') : MZ h a A z' := by
  obtain ⟨e1, e2, e3, e4, e5, e6⟩ := e
  obtain ⟨q1, q2, q3, q4, q5, q6⟩ := q
  refine ⟨by rw [q1]; exact e1, fun t s t1 t2 hs => ?_, fun t t1 t2 => ?_, fun s hs => ?_, by rw [q5]; exact e5, fun s hs => by rw [q6 s hs]; exact e6 s hs⟩
  · obtain ⟨p1, p2, p3, p4⟩ := q2 t s t1 t2 hs
    rw [p1, p2, p3, p4]; exact e2 t s t1 t2 hs
  · obtain ⟨p1, p2, p3, p4, p5⟩ := q3 t t1 t2
    obtain ⟨r1, r2, r3, r4, r5⟩ := e3 t t1 t2
    rw [p1, p2, p4, p5, q1]
    exact ⟨r1, r2, fun c => by rw [p3 c]; exact r3 c, r4, r5⟩
  · rw [q4 s hs]; exact e4 s hs
/-- cells that the abstract state doesn't look at may change -/
theorem MZ.keep {h h' : Hp} {a : Nat} {A : Nat → Nat} {z : Zs} (e : MZ h a A z) (ha : hI h' a 2 = hI h a 2 ∧ hI h' a 25 = hI h a 25) (hi : ∀ k ∈ [4, 5, 6, 7, 8, 9, 11, 12, 15, 16, 21], hI h' (A k) = hI h (A k)) (hj : hJ h' (A 13) = hJ h (A 13) ∧ hJ h' (A 1) = hJ h (A 1)) : MZ h' a A z := by
  obtain ⟨e1, e2, e3, e4, e5, e6⟩ := e
  have i4 := hi 4 (by decide)
  have i5 := hi 5 (by decide)
  have i6 := hi 6 (by decide)
  have i7 := hi 7 (by decide)
  have i8 := hi 8 (by decide)
  have i9 := hi 9 (by decide)
  have i11 := hi 11 (by decide)
  have i12 := hi 12 (by decide)
  have i15 := hi 15 (by decide)
  have i16 := hi 16 (by decide)
  have i21 := hi 21 (by decide)
  exact ⟨ha.1.trans e1, by rw [i9, i11, i12, hj.1]; exact e2, by rw [i5, i7, i8, i6, i4]; exact e3, by rw [i15, i16]; exact e4, by rw [ha.2, i21]; exact e5, by rw [hj.2]; exact e6⟩
theorem MA_ne {h : Hp} {a : Nat} {A : Nat → Nat} (m : Mst h a A) (k j : Nat) (hk : ∃ t ∈ MA, t.1 = k) (hj : ∃ t ∈ MA, t.1 = j) (d : k ≠ j) : A k ≠ A j := by
  obtain ⟨t, t1, rfl⟩ := hk
  obtain ⟨u, u1, rfl⟩ := hj
  exact m.2.2 t t1 u u1 d
/-- an int of the array of field k is written that isn't looked at -/
theorem MZ.wO {h : Hp} {a k i : Nat} {v : Int32} {A : Nat → Nat} {z : Zs} (m : Mst h a A) (e : MZ h a A z) (hk : k ∈ [10, 17, 18, 22, 23, 24]) : MZ (sI h (A k) i v) a A z := by
  have inM : ∀ k ∈ [10, 17, 18, 22, 23, 24], ∃ t ∈ MA, t.1 = k := by decide
  have inM2 : ∀ k ∈ [4, 5, 6, 7, 8, 9, 11, 12, 15, 16, 21], ∃ t ∈ MA, t.1 = k := by decide
  have dif : ∀ k ∈ [10, 17, 18, 22, 23, 24], ∀ j ∈ [4, 5, 6, 7, 8, 9, 11, 12, 15, 16, 21], j ≠ k := by decide
  have na : a ≠ A k := by
    obtain ⟨t, t1, t2⟩ := inM k hk
    rw [← t2]; exact m.na t.1 t.2.1 t.2.2 t1
  exact e.keep ⟨by rw [sI_o na], by rw [sI_o na]⟩ (fun j hj => sI_o (MA_ne m j k (inM2 j hj) (inM k hk) (dif k hk j hj))) ⟨rfl, rfl⟩
theorem MZ.wF {h : Hp} {a k : Nat} {v : Int32} {A : Nat → Nat} {z : Zs} (m : Mst h a A) (e : MZ h a A z) (hk : k ≠ 2 ∧ k ≠ 25) : MZ (sI h a k v) a A z := by
  have inM2 : ∀ k ∈ [4, 5, 6, 7, 8, 9, 11, 12, 15, 16, 21], ∃ t ∈ MA, t.1 = k := by decide
  refine e.keep ⟨by rw [rI_sI, if_neg (by omega)], by rw [rI_sI, if_neg (by omega)]⟩ (fun j hj => sI_o ?_) ⟨rfl, rfl⟩
  obtain ⟨t, t1, t2⟩ := inM2 j hj
  rw [← t2]; exact fun z => m.na t.1 t.2.1 t.2.2 t1 z.symm
theorem ne_ints {h : Hp} {a : Nat} {A : Nat → Nat} (m : Mst h a A) (k : Nat) (i : Nat) (v : Int32) (hk : ∃ t ∈ MA, t.1 = k) : hI (sI h (A k) i v) a = hI h a ∧ ∀ j : Nat, (∃ t ∈ MA, t.1 = j) → j ≠ k → hI (sI h (A k) i v) (A j) = hI h (A j) := by
  refine ⟨sI_o ?_, fun j hj d => sI_o (MA_ne m j k hj hk d)⟩
  obtain ⟨t, t1, t2⟩ := hk
  rw [← t2]; exact m.na t.1 t.2.1 t.2.2 t1
/-- a lock is set -/
theorem MZ.w9 {h : Hp} {a t s : Nat} {v : Int32} {A : Nat → Nat} {z : Zs} (m : Mst h a A) (e : MZ h a A z) (t2 : t ≤ 30) (hs : s < 50) : MZ (sI h (A 9) (50 * t + s) v) a A (zu z 0 t s v) := by
  obtain ⟨e1, e2, e3, e4, e5, e6⟩ := e
  obtain ⟨na, nj⟩ := ne_ints m 9 (50 * t + s) v (by decide)
  refine ⟨by rw [na]; exact e1, fun t' s' p1 p2 p3 => ?_, fun t' p1 p2 => ?_, ?_, ?_, e6⟩
  · obtain ⟨q1, q2, q3, q4⟩ := e2 t' s' p1 p2 p3
    refine ⟨?_, by rw [nj 11 (by decide) (by decide)]; exact q2, by rw [nj 12 (by decide) (by decide)]; exact q3, q4⟩
    rw [rI_sI, zu_I]
    by_cases c : t' = t ∧ s' = s
    · rw [if_pos ⟨rfl, by rw [c.1, c.2]⟩, if_pos ⟨rfl, c⟩]
    · rw [if_neg (fun q => c ?_), if_neg (fun q => c q.2)]
      · exact q1
      · have := q.2; omega
  · rw [nj 5 (by decide) (by decide), nj 7 (by decide) (by decide), nj 8 (by decide) (by decide), nj 6 (by decide) (by decide), nj 4 (by decide) (by decide)]
    exact e3 t' p1 p2
  · rw [nj 16 (by decide) (by decide), nj 15 (by decide) (by decide)]; exact e4
  · rw [na, nj 21 (by decide) (by decide)]; exact e5
theorem MZ.w11 {h : Hp} {a t s : Nat} {v : Int32} {A : Nat → Nat} {z : Zs} (m : Mst h a A) (e : MZ h a A z) (t2 : t ≤ 30) (hs : s < 50) : MZ (sI h (A 11) (50 * t + s) v) a A (zu z 1 t s v) := by
  obtain ⟨e1, e2, e3, e4, e5, e6⟩ := e
  obtain ⟨na, nj⟩ := ne_ints m 11 (50 * t + s) v (by decide)
  refine ⟨by rw [na]; exact e1, fun t' s' p1 p2 p3 => ?_, fun t' p1 p2 => ?_, ?_, ?_, e6⟩
  · obtain ⟨q1, q2, q3, q4⟩ := e2 t' s' p1 p2 p3
    refine ⟨by rw [nj 9 (by decide) (by decide)]; exact q1, ?_, by rw [nj 12 (by decide) (by decide)]; exact q3, q4⟩
    rw [rI_sI, zu_I]
    by_cases c : t' = t ∧ s' = s
    · rw [if_pos ⟨rfl, by rw [c.1, c.2]⟩, if_pos ⟨rfl, c⟩]
    · rw [if_neg (fun q => c ?_), if_neg (fun q => c q.2)]
      · exact q2
      · have := q.2; omega
  · rw [nj 5 (by decide) (by decide), nj 7 (by decide) (by decide), nj 8 (by decide) (by decide), nj 6 (by decide) (by decide), nj 4 (by decide) (by decide)]
    exact e3 t' p1 p2
  · rw [nj 16 (by decide) (by decide), nj 15 (by decide) (by decide)]; exact e4
  · rw [na, nj 21 (by decide) (by decide)]; exact e5
theorem MZ.w12 {h : Hp} {a t s : Nat} {v : Int32} {A : Nat → Nat} {z : Zs} (m : Mst h a A) (e : MZ h a A z) (t2 : t ≤ 30) (hs : s < 50) : MZ (sI h (A 12) (50 * t + s) v) a A (zu z 2 t s v) := by
  obtain ⟨e1, e2, e3, e4, e5, e6⟩ := e
  obtain ⟨na, nj⟩ := ne_ints m 12 (50 * t + s) v (by decide)
  refine ⟨by rw [na]; exact e1, fun t' s' p1 p2 p3 => ?_, fun t' p1 p2 => ?_, ?_, ?_, e6⟩
  · obtain ⟨q1, q2, q3, q4⟩ := e2 t' s' p1 p2 p3
    refine ⟨by rw [nj 9 (by decide) (by decide)]; exact q1, by rw [nj 11 (by decide) (by decide)]; exact q2, ?_, q4⟩
    rw [rI_sI, zu_I]
    by_cases c : t' = t ∧ s' = s
    · rw [if_pos ⟨rfl, by rw [c.1, c.2]⟩, if_pos ⟨rfl, c⟩]
    · rw [if_neg (fun q => c ?_), if_neg (fun q => c q.2)]
      · exact q3
      · have := q.2; omega
  · rw [nj 5 (by decide) (by decide), nj 7 (by decide) (by decide), nj 8 (by decide) (by decide), nj 6 (by decide) (by decide), nj 4 (by decide) (by decide)]
    exact e3 t' p1 p2
  · rw [nj 16 (by decide) (by decide), nj 15 (by decide) (by decide)]; exact e4
  · rw [na, nj 21 (by decide) (by decide)]; exact e5
theorem MZ.w5 {h : Hp} {a t : Nat} {v : Int32} {A : Nat → Nat} {z : Zs} (m : Mst h a A) (e : MZ h a A z) : MZ (sI h (A 5) t v) a A (zu z 3 t 0 v) := by
  obtain ⟨e1, e2, e3, e4, e5, e6⟩ := e
  obtain ⟨na, nj⟩ := ne_ints m 5 t v (by decide)
  refine ⟨by rw [na]; exact e1, ?_, fun t' p1 p2 => ?_, ?_, ?_, e6⟩
  · rw [nj 9 (by decide) (by decide), nj 11 (by decide) (by decide), nj 12 (by decide) (by decide)]; exact e2
  · obtain ⟨q1, q2, q3, q4, q5⟩ := e3 t' p1 p2
    rw [nj 7 (by decide) (by decide), nj 8 (by decide) (by decide), nj 6 (by decide) (by decide), nj 4 (by decide) (by decide)]
    refine ⟨?_, q2, q3, q4, q5⟩
    rw [rI_sI, zu_I]
    by_cases c : t' = t
    · rw [if_pos ⟨rfl, c⟩, if_pos ⟨rfl, c, rfl⟩]
    · rw [if_neg (fun q => c q.2), if_neg (fun q => c q.2.1)]; exact q1
  · rw [nj 16 (by decide) (by decide), nj 15 (by decide) (by decide)]; exact e4
  · rw [na, nj 21 (by decide) (by decide)]; exact e5
theorem MZ.w6 {h : Hp} {a t : Nat} {v : Int32} {A : Nat → Nat} {z : Zs} (m : Mst h a A) (e : MZ h a A z) : MZ (sI h (A 6) t v) a A (zu z 6 t 0 v) := by
  obtain ⟨e1, e2, e3, e4, e5, e6⟩ := e
  obtain ⟨na, nj⟩ := ne_ints m 6 t v (by decide)
  refine ⟨by rw [na]; exact e1, ?_, fun t' p1 p2 => ?_, ?_, ?_, e6⟩
  · rw [nj 9 (by decide) (by decide), nj 11 (by decide) (by decide), nj 12 (by decide) (by decide)]; exact e2
  · obtain ⟨q1, q2, q3, q4, q5⟩ := e3 t' p1 p2
    rw [nj 5 (by decide) (by decide), nj 7 (by decide) (by decide), nj 8 (by decide) (by decide), nj 4 (by decide) (by decide)]
    refine ⟨q1, q2, q3, ?_, q5⟩
    rw [rI_sI, zu_I]
    by_cases c : t' = t
    · rw [if_pos ⟨rfl, c⟩, if_pos ⟨rfl, c, rfl⟩]
    · rw [if_neg (fun q => c q.2), if_neg (fun q => c q.2.1)]; exact q4
  · rw [nj 16 (by decide) (by decide), nj 15 (by decide) (by decide)]; exact e4
  · rw [na, nj 21 (by decide) (by decide)]; exact e5
theorem mFree_a {h : Hp} {a t s : Nat} {w : Int32} {A : Nat → Nat} {z : Zs} (e : MZ h a A z) (hs : s < 50) : ∀ k : Nat, k ≤ 30 → mFree h A t s w k = aFree z t s w k := by
  intro k
  induction k with
  | zero => intro _; rfl
  | succ k ih =>
    intro hk
    have q := (e.2.1 (k + 1) s (by omega) hk hs).1
    show (mFree h A t s w k && mLets h A t s w (k + 1)) = (aFree z t s w k && _)
    rw [ih (by omega)]
    unfold mLets
    rw [q]
theorem X_isFree {g : Gm} {h : Hp} {a t s : Nat} {w : Int32} {A : Nat → Nat} {z : Zs} {post : Int32 → Prop} (m : Mst h a A) (e : MZ h a A z) (hn : zn z ≤ 30) (ht : t ≤ 30) (hs : s < 50) (hp : post (bI (aFree z t s w (zn z)))) : wp_M_isFree g post h a (nI t) (nI s) w :=
  M_isFree m e.1 hn ht hs (by rw [mFree_a e hs _ hn]; exact hp)
/-- erasing from a line -/
theorem erase_at {l : List Nat} {t p : Nat} (nd : l.Nodup) (hp : p < l.length) (hat : l.getD p 0 = t) : (l.erase t).length = l.length - 1 ∧ ∀ k : Nat, k < l.length - 1 → (l.erase t).getD k 0 = if k < p then l.getD k 0 else l.getD (k + 1) 0 := by
  induction l generalizing p with
  | nil => exact absurd hp (Nat.not_lt_zero p)
  | cons b l ih =>
    cases p with
    | zero =>
      have hb : b = t := hat
      subst hb
      rw [List.erase_cons_head]
      exact ⟨rfl, fun k _ => by rw [if_neg (by omega)]; rfl⟩
    | succ p =>
      have nd' := List.nodup_cons.mp nd
      have hp' : p < l.length := by have : p + 1 < l.length + 1 := hp; omega
      have hat' : l.getD p 0 = t := hat
      have hbt : b ≠ t := fun z => nd'.1 (by rw [z, ← hat']; exact getD_mem hp')
      obtain ⟨i1, i2⟩ := ih nd'.2 hp' hat'
      rw [List.erase_cons_tail (by simp [hbt])]
      refine ⟨?_, fun k hk => ?_⟩
      · show (l.erase t).length + 1 = l.length + 1 - 1
        omega
      · have hk : k < l.length + 1 - 1 := hk
        cases k with
        | zero => rw [if_pos (by omega)]; rfl
        | succ k =>
          show (l.erase t).getD k 0 = _
          rw [i2 k (by omega)]
          by_cases c : k < p
          · rw [if_pos c, if_pos (by omega)]; rfl
          · rw [if_neg c, if_neg (by omega)]; rfl
/-- task t leaves the line of s -/
def aUnw (z : Zs) (t s : Nat) : Zs := (fun f u r => if f = 4 ∧ u = t ∧ r = 0 then -1 else zI z f u r, fun r => if r = s then (zQ z s).erase t else zQ z r, z.2.2)
theorem aUnw_I (z : Zs) (t s f u r : Nat) : zI (aUnw z t s) f u r = if f = 4 ∧ u = t ∧ r = 0 then -1 else zI z f u r := rfl
theorem aUnw_Q (z : Zs) (t s r : Nat) : zQ (aUnw z t s) r = if r = s then (zQ z s).erase t else zQ z r := rfl
theorem X_unwait {g : Gm} {Y : Nat → Prop} {h0 h : Hp} {a n r q t s : Nat} {A : Nat → Nat} {z : Zs} {post : Hp → Prop} (m : MI Y h0 h a A n r q) (e : MZ h a A z) (o : Zo z) (ht1 : 1 ≤ t) (ht : t ≤ 30) (hs : s < 50) (hw : zI z 4 t 0 = nI s) (htn : t ≤ zn z)
    (hp : ∀ (h' : Hp) (q' : Nat), q' + 1 = q → MI Y h0 h' a A n r q' → MZ h' a A (aUnw z t s) → hI h' (A 7) t = -1 → hI h' (A 8) = hI h (A 8) → post h') : wp_M_unwait g post h a (nI t) := by
  have e7t : hI h (A 7) t = nI s := (e.2.2.1 t ht1 ht).2.1.trans hw
  obtain ⟨m1, m2, m3, m4, m5, m6, m7, m8, ⟨zr, z1, z2, z3⟩, ⟨y, y1, y2⟩⟩ := m
  obtain ⟨l0, l1, l2, l3, l4⟩ := m6
  have hin : t ∈ zQ z s := (o.2.2.2.1 s t hs).mpr ⟨ht1, htn, hw⟩
  obtain ⟨c1, c2⟩ := e.2.2.2.1 s hs
  have hlen := o.len hs
  have hcn := cn_le l0 hs
  have ecn : cn (hI h (A 7)) s = (zQ z s).length := by
    have := (l1 s hs).symm.trans c1
    exact (nI_eq (by omega) (by omega)).mp this
  obtain ⟨k, hk, hkt⟩ := List.getElem_of_mem hin
  have hgk : (zQ z s).getD k 0 = t := by rw [List.getD_eq_getElem?_getD, List.getElem?_eq_getElem hk]; exact hkt
  have s4 : hI h (A 15) (31 * s + k) = nI t := by rw [c2 k hk, hgk]
  have s3 : k < cn (hI h (A 7)) s := by rw [ecn]; exact hk
  have d57 : A 5 ≠ A 7 := m2.ne 5 7 21 31 21 31 (by decide) (by decide) (by decide)
  have d5f : A 5 ≠ A 15 := m2.ne 5 15 21 31 21 1550 (by decide) (by decide) (by decide)
  have d5s : A 5 ≠ A 16 := m2.ne 5 16 21 31 21 50 (by decide) (by decide) (by decide)
  have d7f : A 7 ≠ A 15 := m2.ne 7 15 21 31 21 1550 (by decide) (by decide) (by decide)
  have d7s : A 7 ≠ A 16 := m2.ne 7 16 21 31 21 50 (by decide) (by decide) (by decide)
  have dfs : A 15 ≠ A 16 := m2.ne 15 16 21 1550 21 50 (by decide) (by decide) (by decide)
  refine M_unwait (n := cn (hI h (A 7)) s - 1) (p := k) m2 ht hs e7t (by omega) (by rw [l1 s hs]; congr 1; omega) (by omega) s4 (fun j hj zz => ?_) fun h' sm ei => ?_
  · have := l3 s j k hs (by omega) s3 (by rw [zz, s4]); omega
  · have oo : ∀ b : Nat, b ≠ A 7 → b ≠ A 15 → b ≠ A 16 → hI h' b = hI h b := fun b b1 b2 b3 => by
      funext j
      rw [ei, if_neg (fun z => b1 z.1), if_neg (fun z => b2 z.1), if_neg (fun z => b3 z.1)]
    have e7 : ∀ j : Nat, hI h' (A 7) j = if j = t then -1 else hI h (A 7) j := fun j => by
      rw [ei]
      by_cases c : j = t
      · rw [if_pos ⟨rfl, c⟩, if_pos c]
      · rw [if_neg (fun z => c z.2), if_neg c, if_neg (fun z => d7f z.1), if_neg (fun z => d7s z.1)]
    have e16 : ∀ j : Nat, hI h' (A 16) j = if j = s then nI (cn (hI h (A 7)) s - 1) else hI h (A 16) j := fun j => by
      rw [ei, if_neg (fun z => d7s z.1.symm), if_neg (fun z => dfs z.1.symm)]
      by_cases c : j = s
      · rw [if_pos ⟨rfl, c⟩, if_pos c]
      · rw [if_neg (fun z => c z.2), if_neg c]
    have e15 : ∀ j : Nat, hI h' (A 15) j = if 31 * s + k ≤ j ∧ j < 31 * s + (cn (hI h (A 7)) s - 1) then hI h (A 15) (j + 1) else hI h (A 15) j := fun j => by
      rw [ei, if_neg (fun z => d7f z.1.symm)]
      by_cases c : 31 * s + k ≤ j ∧ j < 31 * s + (cn (hI h (A 7)) s - 1)
      · rw [if_pos ⟨rfl, c⟩, if_pos c]
      · rw [if_neg (fun z => c z.2), if_neg c, if_neg (fun z => dfs z.1)]
    obtain ⟨n1, n2⟩ := Li.unwait ⟨l0, l1, l2, l3, l4⟩ ht hs e7t s3 s4 e7 e16 e15
    have da := m2.na 7 21 31 (by decide)
    have daf := m2.na 15 21 1550 (by decide)
    have das := m2.na 16 21 50 (by decide)
    have oa : hI h' a = hI h a := oo a da daf das
    have inM : ∀ j ∈ [4, 5, 6, 8, 9, 11, 12, 18, 21], ∃ t ∈ MA, t.1 = j := by decide
    have ok : ∀ j ∈ [4, 5, 6, 8, 9, 11, 12, 18, 21], hI h' (A j) = hI h (A j) := fun j hj => oo (A j) (MA_ne m2 j 7 (inM j hj) (by decide) (by revert j; decide)) (MA_ne m2 j 15 (inM j hj) (by decide) (by revert j; decide)) (MA_ne m2 j 16 (inM j hj) (by decide) (by revert j; decide))
    refine hp h' (q - 1) (by omega) ⟨⟨sm.1.trans m1.1, sm.2.1.trans m1.2.1, sm.2.2.1.trans m1.2.2.1, fun b hb => ?_⟩, m2.sm sm, m3, by rw [oa]; exact m4, m5, n1, by omega, ?_, ⟨zr, z1, by rw [oa]; exact z2, by rw [ok 18 (by decide)]; exact z3⟩, ⟨y, y1, by rw [oa]; exact y2⟩⟩ ?_ (by rw [e7, if_pos rfl]) (ok 8 (by decide))
    · rw [oo b (fun z => hb (z ▸ m3.2 (7, 21, 31) (by decide))) (fun z => hb (z ▸ m3.2 (15, 21, 1550) (by decide))) (fun z => hb (z ▸ m3.2 (16, 21, 50) (by decide))), sm.2.2.2]
      exact m1.2.2.2 b hb
    · intro u hu hw'
      rw [ok 5 (by decide)]
      rw [e7] at hw'
      by_cases c : u = t
      · rw [if_pos c] at hw'; exact absurd rfl hw'
      · rw [if_neg c] at hw'; exact m8 u hu hw'
    · obtain ⟨f1, f2, f3, f4, f5, f6⟩ := e
      obtain ⟨er1, er2⟩ := erase_at (o.2.2.1 s hs) hk hgk
      refine ⟨by rw [oa]; exact f1, ?_, fun u u1 u2 => ?_, fun r' hr' => ?_, by rw [oa, ok 21 (by decide)]; exact f5, by rw [sm.2.2.2]; exact f6⟩
      · rw [ok 9 (by decide), ok 11 (by decide), ok 12 (by decide), sm.2.2.2]; exact f2
      · obtain ⟨q1, q2, q3, q4, q5⟩ := f3 u u1 u2
        rw [ok 5 (by decide), ok 8 (by decide), ok 6 (by decide), ok 4 (by decide), e7]
        have i4 : zI (aUnw z t s) 4 u 0 = if u = t then -1 else zI z 4 u 0 := by
          rw [aUnw_I]
          by_cases c : u = t
          · rw [if_pos ⟨rfl, c, rfl⟩, if_pos c]
          · rw [if_neg (fun q => c q.2.1), if_neg c]
        have io : ∀ f : Nat, f ≠ 4 → zI (aUnw z t s) f u 0 = zI z f u 0 := fun f hf => by rw [aUnw_I, if_neg (fun q => hf q.1)]
        rw [i4, io 3 (by decide), io 5 (by decide), io 6 (by decide), io 7 (by decide)]
        by_cases c : u = t
        · rw [if_pos c, if_pos c]
          exact ⟨q1, rfl, fun q => absurd rfl q, q4, q5⟩
        · rw [if_neg c, if_neg c]
          exact ⟨q1, q2, q3, q4, q5⟩
      · obtain ⟨g1, g2⟩ := f4 r' hr'
        rw [aUnw_Q, e16]
        by_cases c : r' = s
        · rw [if_pos c, if_pos c, er1, ecn]
          refine ⟨rfl, fun j hj => ?_⟩
          rw [er2 j hj, e15, c, ecn]
          by_cases d : j < k
          · rw [if_neg (by omega), if_pos d]; exact c2 j (by omega)
          · rw [if_pos (by omega), if_neg d]
            exact c2 (j + 1) (by omega)
        · rw [if_neg c, if_neg c]
          have hl' := o.len hr'
          refine ⟨g1, fun j hj => ?_⟩
          rw [e15, if_neg (by omega)]
          exact g2 j hj
