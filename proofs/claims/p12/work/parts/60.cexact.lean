/-! EXACT: the class holds the abstract state -/
/-- the address of task t -/
def Ta (T : List Nat) (t : Nat) : Nat := T.getD (t - 1) 0
/-- fields and arrays of the tasks (arrays of task t at B t k), what is agreed -/
def CA (h : Hp) (T : List Nat) (B : Nat → Nat → Nat) (D : Nat → Nat) (z : Zs) : Prop := T.length = zn z ∧ T.Nodup ∧
  (∀ t : Nat, 1 ≤ t → t ≤ zn z → hI h (Ta T t) 0 = nI t ∧ hI h (Ta T t) 1 = zI z 7 t 0 ∧ hI h (Ta T t) 9 = zI z 3 t 0 ∧ hI h (Ta T t) 13 = zI z 4 t 0 ∧ (¬ zI z 4 t 0 = -1 → hI h (Ta T t) 14 = zI z 5 t 0) ∧ hI h (Ta T t) 12 = zI z 6 t 0) ∧
  (∀ t k : Nat, 1 ≤ t → t ≤ zn z → 2 ≤ k → k ≤ 7 → hR h (Ta T t) k = some (B t k)) ∧
  (∀ t s : Nat, 1 ≤ t → t ≤ zn z → s < 50 → hI h (B t 2) s = zI z 0 t s ∧ hI h (B t 3) s = zI z 1 t s ∧ hI h (B t 4) s = zI z 2 t s ∧ hJ h (B t 5) s = zK z t s) ∧
  (∀ t u k l : Nat, 1 ≤ t → t ≤ zn z → 1 ≤ u → u ≤ zn z → 2 ≤ k → k ≤ 7 → 2 ≤ l → l ≤ 7 → B t k = B u l → t = u ∧ k = l) ∧
  (∀ t k j : Nat, 1 ≤ t → t ≤ zn z → 2 ≤ k → k ≤ 7 → j < 10 → B t k ≠ D j) ∧
  (∀ s : Nat, s < 50 → hJ h (D 4) s = zG z s)
/-- the counts of the tasks -/
def CN (h : Hp) (T : List Nat) (z : Zs) : Prop := ∀ t : Nat, 1 ≤ t → t ≤ zn z → hI h (Ta T t) 10 = nI (aHeld z t) ∧ hI h (Ta T t) 11 = nI (aWr z t)
/-- the rows: W those that wait, in order -/
def CW (L1 T : List Nat) (W : List Nat) (z : Zs) : Prop := L1 = W.map (Ta T) ∧ W.Nodup ∧ (∀ t : Nat, t ∈ W ↔ 1 ≤ t ∧ t ≤ zn z ∧ ¬ zI z 4 t 0 = -1) ∧ ∀ s : Nat, s < 50 → W.filter (fun t => decide (zI z 4 t 0 = nI s)) = zQ z s
/-- the ring -/
def CR (L2 T : List Nat) (z : Zs) : Prop := L2 = (zR z).map (Ta T) ∧ ∀ x ∈ zR z, 1 ≤ x ∧ x ≤ zn z
theorem Ta_inj {h : Hp} {T : List Nat} {B : Nat → Nat → Nat} {D : Nat → Nat} {z : Zs} (a : CA h T B D z) {t u : Nat} (t1 : 1 ≤ t) (t2 : t ≤ zn z) (u1 : 1 ≤ u) (u2 : u ≤ zn z) (e : Ta T t = Ta T u) : t = u := by
  have := nodup_getD a.2.1 (i := t - 1) (j := u - 1) (by rw [a.1]; omega) (by rw [a.1]; omega) e
  omega
theorem Ta_P {g : Gm} {Y P : Nat → Prop} {h0 h : Hp} {x : Nat} {D E C : Nat → Nat} {L : Nat → List Nat} (c : CI g Y P h0 h x D E C L) {t : Nat} (t1 : 1 ≤ t) (t2 : t ≤ (L 0).length) : P (Ta (L 0) t) := c.mem (by omega) (by omega)
/-- the arrays are those of the tasks -/
theorem CA.arr {g : Gm} {Y P : Nat → Prop} {h0 h : Hp} {x : Nat} {D E C : Nat → Nat} {L : Nat → List Nat} {B : Nat → Nat → Nat} {z : Zs} (a : CA h (L 0) B D z) (c : CI g Y P h0 h x D E C L) {t k kd : Nat} (t1 : 1 ≤ t) (t2 : t ≤ zn z) (hk : (k, kd) ∈ TA) (h2 : 2 ≤ k) (h7 : k ≤ 7) : hR h (Ta (L 0) t) k = some (B t k) ∧ hK h (B t k) = kd ∧ hN h (B t k) = 50 ∧ ¬ Y (B t k) := by
  obtain ⟨b, b1, b2, b3, b4⟩ := (c.tk _ (Ta_P c t1 (by rw [a.1]; exact t2))).row k kd hk
  have := a.2.2.2.1 t k t1 t2 h2 h7
  rw [this] at b1
  have : B t k = b := Option.some.inj b1
  rw [this]
  exact ⟨by rw [a.2.2.2.1 t k t1 t2 h2 h7, this], b2, b3, b4⟩
/-- nothing of the tasks was changed -/
theorem CA.keep {h h' : Hp} {T : List Nat} {B : Nat → Nat → Nat} {D : Nat → Nat} {z : Zs} (a : CA h T B D z) (hT : ∀ t : Nat, 1 ≤ t → t ≤ zn z → hI h' (Ta T t) = hI h (Ta T t) ∧ hR h' (Ta T t) = hR h (Ta T t)) (hB : ∀ t k : Nat, 1 ≤ t → t ≤ zn z → 2 ≤ k → k ≤ 7 → hI h' (B t k) = hI h (B t k) ∧ hJ h' (B t k) = hJ h (B t k)) (h4 : hJ h' (D 4) = hJ h (D 4)) : CA h' T B D z := by
  obtain ⟨a1, a2, a3, a4, a5, a6, a7, a8⟩ := a
  refine ⟨a1, a2, fun t t1 t2 => by rw [(hT t t1 t2).1]; exact a3 t t1 t2, fun t k t1 t2 k1 k2 => by rw [(hT t t1 t2).2]; exact a4 t k t1 t2 k1 k2, fun t s t1 t2 hs => ?_, a6, a7, by rw [h4]; exact a8⟩
  rw [(hB t 2 t1 t2 (by omega) (by omega)).1, (hB t 3 t1 t2 (by omega) (by omega)).1, (hB t 4 t1 t2 (by omega) (by omega)).1, (hB t 5 t1 t2 (by omega) (by omega)).2]
  exact a5 t s t1 t2 hs
theorem CN.keep {h h' : Hp} {T : List Nat} {z : Zs} (a : CN h T z) (hT : ∀ t : Nat, 1 ≤ t → t ≤ zn z → hI h' (Ta T t) = hI h (Ta T t)) : CN h' T z := fun t t1 t2 => by rw [hT t t1 t2]; exact a t t1 t2
/-- a frame that leaves the tasks alone -/
theorem CA.fr {g : Gm} {Y P S : Nat → Prop} {h0 h h' : Hp} {x : Nat} {D E C : Nat → Nat} {L : Nat → List Nat} {B : Nat → Nat → Nat} {z : Zs} (a : CA h (L 0) B D z) (c : CI g Y P h0 h x D E C L) (f : Fr S h h') (hS : ∀ b : Nat, (hK h b = 4 ∨ 20 < hK h b ∧ hK h b < 24) → b ≠ g.2.2 1 → ¬ S b) (hg : ∀ t k : Nat, 1 ≤ t → t ≤ zn z → 2 ≤ k → k ≤ 7 → B t k ≠ g.2.2 1) : CA h' (L 0) B D z := by
  have kd : ∀ k : Nat, 2 ≤ k → k ≤ 7 → ∃ kd : Nat, (k, kd) ∈ TA ∧ 20 < kd ∧ kd < 24 := fun k k1 k2 => by
    have : k = 2 ∨ k = 3 ∨ k = 4 ∨ k = 5 ∨ k = 6 ∨ k = 7 := by omega
    rcases this with q | q | q | q | q | q <;> subst q
    · exact ⟨21, by decide, by decide⟩
    · exact ⟨23, by decide, by decide⟩
    · exact ⟨23, by decide, by decide⟩
    · exact ⟨22, by decide, by decide⟩
    · exact ⟨23, by decide, by decide⟩
    · exact ⟨22, by decide, by decide⟩
  refine a.keep (fun t t1 t2 => ?_) (fun t k t1 t2 k1 k2 => ?_) ?_
  · have tk := c.tk _ (Ta_P c t1 (by rw [a.1]; exact t2))
    have := (f (Ta (L 0) t) (by rw [tk.1]; decide)).2.2 (hS _ (Or.inl tk.1) tk.2.2.1)
    exact ⟨this.1, this.2.2⟩
  · obtain ⟨kd, q1, q2, q3⟩ := kd k k1 k2
    obtain ⟨b1, b2, b3, b4⟩ := a.arr c t1 t2 q1 k1 k2
    have := (f (B t k) (by rw [b2]; omega)).2.2 (hS _ (Or.inr (by rw [b2]; exact ⟨q2, q3⟩)) (hg t k t1 t2 k1 k2))
    exact ⟨this.1, this.2.1⟩
  · have := (f (D 4) (by rw [c.sk.k4.1]; decide)).2.2 (hS _ (Or.inr (by rw [c.sk.k4.1]; decide)) (c.sk.dy 4 (by omega)).2)
    exact this.2.1
theorem CN.fr {g : Gm} {Y P S : Nat → Prop} {h0 h h' : Hp} {x : Nat} {D E C : Nat → Nat} {L : Nat → List Nat} {z : Zs} (a : CN h (L 0) z) (c : CI g Y P h0 h x D E C L) (hn : (L 0).length = zn z) (f : Fr S h h') (hS : ∀ b : Nat, (hK h b = 4 ∨ 20 < hK h b ∧ hK h b < 24) → b ≠ g.2.2 1 → ¬ S b) : CN h' (L 0) z := a.keep fun t t1 t2 => by
  have tk := c.tk _ (Ta_P c t1 (by rw [hn]; exact t2))
  exact ((f (Ta (L 0) t) (by rw [tk.1]; decide)).2.2 (hS _ (Or.inl tk.1) tk.2.2.1)).1
/-- a list's frame leaves the tasks alone -/
theorem list_S {g : Gm} {Y P : Nat → Prop} {h0 h : Hp} {x i : Nat} {D E C : Nat → Nat} {L : Nat → List Nat} (c : CI g Y P h0 h x D E C L) (hi : i < 4) : ∀ b : Nat, (hK h b = 4 ∨ 20 < hK h b ∧ hK h b < 24) → b ≠ g.2.2 1 → ¬ (b = D i ∨ b = E i) := fun b hb hg z => by
  have l := c.ls i hi
  rcases z with z | z
  · rw [z, l.1] at hb; omega
  · rcases l.kE with q | q
    · exact hg (z.trans q)
    · rw [z, q] at hb; omega
/-- an int of a task is set -/
theorem CA.wT {g : Gm} {Y P : Nat → Prop} {h0 h : Hp} {x : Nat} {D E C : Nat → Nat} {L : Nat → List Nat} {B : Nat → Nat → Nat} {z : Zs} (a : CA h (L 0) B D z) (c : CI g Y P h0 h x D E C L) {t k f : Nat} {v : Int32} (t1 : 1 ≤ t) (t2 : t ≤ zn z) (hk : (k = 9 ∧ f = 3) ∨ (k = 13 ∧ f = 4 ∧ v = -1) ∨ (k = 14 ∧ f = 5) ∨ (k = 12 ∧ f = 6)) : CA (sI h (Ta (L 0) t) k v) (L 0) B D (zu z f t 0 v) := by
  have inj := fun u u1 u2 (e : Ta (L 0) u = Ta (L 0) t) => Ta_inj a u1 u2 t1 t2 e
  have kt := c.kT (Ta_P c t1 (by rw [a.1]; exact t2))
  have nB : ∀ u l kd : Nat, 1 ≤ u → u ≤ zn z → (l, kd) ∈ TA → 2 ≤ l → l ≤ 7 → kd ≠ 4 → B u l ≠ Ta (L 0) t := fun u l kd u1 u2 hl l1 l2 hne e => by
    have := (a.arr c u1 u2 hl l1 l2).2.1
    rw [e, kt] at this
    exact hne this.symm
  obtain ⟨a1, a2, a3, a4, a5, a6, a7, a8⟩ := a
  refine ⟨a1, a2, fun u u1 u2 => ?_, a4, fun u s u1 u2 hs => ?_, a6, a7, a8⟩
  · obtain ⟨q1, q2, q3, q4, q5, q6⟩ := a3 u u1 u2
    simp only [rI_sI, zu_I]
    by_cases e : u = t
    · subst e
      rcases hk with ⟨rfl, rfl⟩ | ⟨rfl, rfl, rfl⟩ | ⟨rfl, rfl⟩ | ⟨rfl, rfl⟩
      · simp; exact ⟨q1, q2, q4, q5, q6⟩
      · simp; exact ⟨q1, q2, q3, q6⟩
      · simp; exact ⟨q1, q2, q3, q4, q6⟩
      · simp; exact ⟨q1, q2, q3, q4, q5⟩
    · have ne : ¬ Ta (L 0) u = Ta (L 0) t := fun y => e (inj u u1 u2 y)
      simp [ne, e]
      exact ⟨q1, q2, q3, q4, q5, q6⟩
  · obtain ⟨q1, q2, q3, q4⟩ := a5 u s u1 u2 hs
    have hf : f ≠ 0 ∧ f ≠ 1 ∧ f ≠ 2 := by omega
    rw [sI_o (nB u 2 21 u1 u2 (by decide) (by decide) (by decide) (by decide)), sI_o (nB u 3 23 u1 u2 (by decide) (by decide) (by decide) (by decide)), sI_o (nB u 4 23 u1 u2 (by decide) (by decide) (by decide) (by decide)), zu_I, zu_I, zu_I, if_neg (fun y => hf.1 y.1.symm), if_neg (fun y => hf.2.1 y.1.symm), if_neg (fun y => hf.2.2 y.1.symm)]
    exact ⟨q1, q2, q3, q4⟩
theorem CN.wT {h : Hp} {T : List Nat} {z : Zs} {t k f : Nat} {v : Int32} {b : Nat} (a : CN h T z) (hk : k ≠ 10 ∧ k ≠ 11) (hf : f ≠ 0 ∧ f ≠ 2) : CN (sI h b k v) T (zu z f t 0 v) := fun u u1 u2 => by
  obtain ⟨q1, q2⟩ := a u u1 u2
  have h1 : aHeld (zu z f t 0 v) u = aHeld z u := cntF_congr fun s _ => by rw [zu_I, if_neg (fun y => hf.1 y.1.symm)]
  have h2 : aWr (zu z f t 0 v) u = aWr z u := cntF_congr fun s _ => by rw [zu_I, if_neg (fun y => hf.2 y.1.symm)]
  rw [h1, h2, rI_sI, rI_sI, if_neg (fun y => hk.1 y.2.symm), if_neg (fun y => hk.2 y.2.symm)]
  exact ⟨q1, q2⟩
/-- an int of an array of a task is set: 2 locks, 3 looks, 4 written -/
theorem CA.wB {g : Gm} {Y P : Nat → Prop} {h0 h : Hp} {x : Nat} {D E C : Nat → Nat} {L : Nat → List Nat} {B : Nat → Nat → Nat} {z : Zs} (a : CA h (L 0) B D z) (c : CI g Y P h0 h x D E C L) {t s k f : Nat} {v : Int32} (t1 : 1 ≤ t) (t2 : t ≤ zn z) (hs : s < 50) (hk : (k = 2 ∧ f = 0) ∨ (k = 3 ∧ f = 1) ∨ (k = 4 ∧ f = 2)) : CA (sI h (B t k) s v) (L 0) B D (zu z f t s v) := by
  have kb : hK h (B t k) = 21 ∨ hK h (B t k) = 23 := by
    rcases hk with ⟨q, -⟩ | ⟨q, -⟩ | ⟨q, -⟩ <;> subst q
    · exact Or.inl (a.arr c t1 t2 (kd := 21) (by decide) (by decide) (by decide)).2.1
    · exact Or.inr (a.arr c t1 t2 (kd := 23) (by decide) (by decide) (by decide)).2.1
    · exact Or.inr (a.arr c t1 t2 (kd := 23) (by decide) (by decide) (by decide)).2.1
  have nT : ∀ u : Nat, 1 ≤ u → u ≤ zn z → Ta (L 0) u ≠ B t k := fun u u1 u2 e => by
    have := c.kT (Ta_P c u1 (by rw [a.1]; exact u2))
    rw [e] at this; omega
  obtain ⟨a1, a2, a3, a4, a5, a6, a7, a8⟩ := a
  have inj : ∀ u l : Nat, 1 ≤ u → u ≤ zn z → 2 ≤ l → l ≤ 7 → (u ≠ t ∨ l ≠ k) → B u l ≠ B t k := fun u l u1 u2 l1 l2 hne e => by
    have := a6 u t l k u1 u2 t1 t2 l1 l2 (by omega) (by omega) e
    omega
  refine ⟨a1, a2, fun u u1 u2 => ?_, a4, fun u r u1 u2 hr => ?_, a6, a7, a8⟩
  · have hf : f ≠ 3 ∧ f ≠ 4 ∧ f ≠ 5 ∧ f ≠ 6 ∧ f ≠ 7 := by omega
    simp only [zu_I]
    rw [sI_o (nT u u1 u2), if_neg (fun y => hf.2.2.2.2 y.1.symm), if_neg (fun y => hf.1 y.1.symm), if_neg (fun y => hf.2.1 y.1.symm), if_neg (fun y => hf.2.2.1 y.1.symm), if_neg (fun y => hf.2.2.2.1 y.1.symm)]
    exact a3 u u1 u2
  · obtain ⟨q1, q2, q3, q4⟩ := a5 u r u1 u2 hr
    have one : ∀ l f' : Nat, (l = 2 ∧ f' = 0) ∨ (l = 3 ∧ f' = 1) ∨ (l = 4 ∧ f' = 2) → hI h (B u l) r = zI z f' u r → hI (sI h (B t k) s v) (B u l) r = zI (zu z f t s v) f' u r := fun l f' hl hq => by
      rw [zu_I]
      by_cases e : u = t ∧ l = k
      · have ef : f' = f := by omega
        rw [e.1, e.2, rI_sI]
        by_cases d : r = s
        · rw [if_pos ⟨rfl, d⟩, if_pos ⟨ef, rfl, d⟩]
        · rw [if_neg (fun y => d y.2), if_neg (fun y => d y.2.2), ← e.1, ← e.2]; exact hq
      · rw [sI_o (inj u l u1 u2 (by omega) (by omega) (by omega)), if_neg (by omega)]; exact hq
    exact ⟨one 2 0 (by omega) q1, one 3 1 (by omega) q2, one 4 2 (by omega) q3, q4⟩
