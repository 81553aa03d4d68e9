/-! EXACT: the class's tasks -/
def Zf (z z' : Zs) : Prop := zn z' = zn z ∧ (∀ t s : Nat, 1 ≤ t → t ≤ 30 → s < 50 → zI z' 0 t s = zI z 0 t s ∧ zI z' 1 t s = zI z 1 t s ∧ zI z' 2 t s = zI z 2 t s ∧ zK z' t s = zK z t s) ∧ (∀ t : Nat, 1 ≤ t → t ≤ 30 → zI z' 3 t 0 = zI z 3 t 0 ∧ zI z' 4 t 0 = zI z 4 t 0 ∧ (¬ zI z 4 t 0 = -1 → zI z' 5 t 0 = zI z 5 t 0) ∧ zI z' 6 t 0 = zI z 6 t 0 ∧ zI z' 7 t 0 = zI z 7 t 0) ∧ (∀ s : Nat, s < 50 → zG z' s = zG z s)
theorem Ze.f {z z' : Zs} (e : Ze z z') : Zf z z' := ⟨e.1, e.2.1, e.2.2.1, e.2.2.2.2.2⟩
theorem CA.congr {h : Hp} {T : List Nat} {B : Nat → Nat → Nat} {D : Nat → Nat} {z z' : Zs} (a : CA h T B D z) (hn : zn z ≤ 30) (e : Zf z z') : CA h T B D z' := by
  obtain ⟨a1, a2, a3, a4, a5, a6, a7, a8⟩ := a
  obtain ⟨e1, e2, e3, e4⟩ := e
  refine ⟨a1.trans e1.symm, a2, fun t t1 t2 => ?_, fun t k t1 t2 => a4 t k t1 (by omega), fun t s t1 t2 hs => ?_, fun t u k l t1 t2 u1 u2 => a6 t u k l t1 (by omega) u1 (by omega), fun t k j t1 t2 => a7 t k j t1 (by omega), fun s hs => by rw [e4 s hs]; exact a8 s hs⟩
  · rw [e1] at t2
    obtain ⟨q1, q2, q3, q4, q5, q6⟩ := a3 t t1 t2
    obtain ⟨p1, p2, p3, p4, p5⟩ := e3 t t1 (by omega)
    rw [p1, p2, p4, p5]
    exact ⟨q1, q2, q3, q4, fun c => by rw [p3 c]; exact q5 c, q6⟩
  · rw [e1] at t2
    obtain ⟨p1, p2, p3, p4⟩ := e2 t s t1 (by omega) hs
    rw [p1, p2, p3, p4]; exact a5 t s t1 t2 hs
theorem held_congr {z z' : Zs} {t : Nat} (e : ∀ s : Nat, s < 50 → zI z' 0 t s = zI z 0 t s) : aHeld z' t = aHeld z t := cntF_congr fun s hs => by rw [e s hs]
theorem wr_congr {z z' : Zs} {t : Nat} (e : ∀ s : Nat, s < 50 → zI z' 2 t s = zI z 2 t s) : aWr z' t = aWr z t := cntF_congr fun s hs => by rw [e s hs]
theorem CN.congr {h : Hp} {T : List Nat} {z z' : Zs} (a : CN h T z) (hn : zn z ≤ 30) (e : Zf z z') : CN h T z' := fun t t1 t2 => by
  rw [e.1] at t2
  rw [held_congr (z := z) (z' := z') (fun s hs => (e.2.1 t s t1 (by omega) hs).1), wr_congr (z := z) (z' := z') (fun s hs => (e.2.1 t s t1 (by omega) hs).2.2.1)]
  exact a t t1 t2
section VT
variable {g : Gm} {Y P : Nat → Prop} {h0 h : Hp} {x : Nat} {D E C : Nat → Nat} {L : Nat → List Nat} {B : Nat → Nat → Nat} {z : Zs}
/-- task t waits no more -/
def aStop (z : Zs) (t : Nat) : Zs := zu (zu (zu z 3 t 0 0) 4 t 0 (-1)) 5 t 0 (-1)
theorem V_stop {t : Nat} {post : Hp → Prop} (c : CI g Y P h0 h x D E C L) (a : CA h (L 0) B D z) (n : CN h (L 0) z) (t1 : 1 ≤ t) (t2 : t ≤ zn z) (hp : ∀ h' : Hp, CI g Y P h0 h' x D E C L → CA h' (L 0) B D (aStop z t) → CN h' (L 0) (aStop z t) → post h') : wp_T_stopWaiting g post h (Ta (L 0) t) := by
  have pt := Ta_P c t1 (by rw [a.1]; exact t2)
  have k := c.kT pt
  unfold wp_T_stopWaiting
  refine ⟨k, fun h2 e2 => ?_⟩
  have c2 : CI g Y P h0 h2 x D E C L := by rw [e2]; exact c.wT pt
  have a2 : CA h2 (L 0) B D (zu z 3 t 0 0) := by rw [e2]; exact a.wT c t1 t2 (Or.inl ⟨rfl, rfl⟩)
  have n2 : CN h2 (L 0) (zu z 3 t 0 0) := by rw [e2]; exact n.wT (by decide) (by decide)
  refine ⟨c2.kT pt, fun h4 e4 => ?_⟩
  have c4 : CI g Y P h0 h4 x D E C L := by rw [e4]; exact c2.wT pt
  have a4 : CA h4 (L 0) B D (zu (zu z 3 t 0 0) 4 t 0 (-1)) := by rw [e4]; exact a2.wT c2 t1 t2 (Or.inr (Or.inl ⟨rfl, rfl, rfl⟩))
  have n4 : CN h4 (L 0) (zu (zu z 3 t 0 0) 4 t 0 (-1)) := by rw [e4]; exact n2.wT (by decide) (by decide)
  refine ⟨c4.kT pt, fun h6 e6 => hp h6 ?_ ?_ ?_⟩
  · rw [e6]; exact c4.wT pt
  · rw [e6]; exact a4.wT c4 t1 t2 (Or.inr (Or.inr (Or.inl ⟨rfl, rfl⟩)))
  · rw [e6]; exact n4.wT (by decide) (by decide)
theorem V_take {t s : Nat} {v : Int32} {post : Hp → Prop} (c : CI g Y P h0 h x D E C L) (a : CA h (L 0) B D z) (n : CN h (L 0) z) (t1 : 1 ≤ t) (t2 : t ≤ zn z) (hs : s < 50) (hv : ¬ v = -1) (hp : ∀ h' : Hp, CI g Y P h0 h' x D E C L → CA h' (L 0) B D (zu z 0 t s v) → CN h' (L 0) (zu z 0 t s v) → post h') : wp_T_take g post h (Ta (L 0) t) (nI s) v := by
  have pt := Ta_P c t1 (by rw [a.1]; exact t2)
  have k := c.kT pt
  obtain ⟨r2, s2, n2, y2⟩ := a.arr c t1 t2 (k := 2) (kd := 21) (by decide) (by decide) (by decide)
  have i2 : vp_in (nI s) (hN h (B t 2)) := by rw [n2]; exact vp_in_nI (by omega) (by omega)
  have e2 := (a.2.2.2.2.1 t s t1 t2 hs).1
  have nT : ∀ u : Nat, 1 ≤ u → u ≤ zn z → Ta (L 0) u ≠ B t 2 := fun u u1 u2 e => by
    have := c.kT (Ta_P c u1 (by rw [a.1]; exact u2))
    rw [e, s2] at this; exact absurd this (by decide)
  have ho : ∀ u : Nat, u ≠ t → aHeld (zu z 0 t s v) u = aHeld z u := fun u hu => held_congr fun r _ => by rw [zu_I, if_neg (fun y => hu y.2.1)]
  have wo : ∀ u : Nat, aWr (zu z 0 t s v) u = aWr z u := fun u => wr_congr fun r _ => by rw [zu_I, if_neg (fun y => absurd y.1 (by decide))]
  unfold wp_T_take wp_T_take_20
  refine ⟨k, B t 2, r2, s2, i2, ?_⟩
  rw [nI_clamp (n := s) (by omega), e2]
  refine ⟨fun hc => ⟨k, B t 2, r2, s2, i2, fun h4 e4 => ?_⟩, fun hc => ⟨k, fun x6 e6 => ⟨k, fun h8 e8 => ?_⟩⟩⟩
  · subst e4
    refine hp _ (c.wA s2 (by omega) y2) (a.wB c t1 t2 hs (Or.inl ⟨rfl, rfl⟩)) fun u u1 u2 => ?_
    obtain ⟨q1, q2⟩ := n u u1 u2
    rw [sI_o (nT u u1 u2), wo u]
    refine ⟨?_, q2⟩
    by_cases e : u = t
    · have : aHeld (zu z 0 t s v) u = aHeld z u := cntF_congr fun r _ => by
        rw [zu_I]
        by_cases d : 0 = 0 ∧ u = t ∧ r = s
        · rw [if_pos d, d.2.1, d.2.2, decide_eq_true hv, decide_eq_true hc]
        · rw [if_neg d]
      rw [this]; exact q1
    · rw [ho u e]; exact q1
  · have c8 : CI g Y P h0 h8 x D E C L := by rw [e8]; exact c.wT pt
    have ar : CA h8 (L 0) B D z := by
      rw [e8]
      obtain ⟨a1, a2, a3, a4, a5, a6, a7, a8⟩ := a
      refine ⟨a1, a2, fun u u1 u2 => ?_, a4, fun u r u1 u2 hr => ?_, a6, a7, a8⟩
      · simp only [rI_sI]
        have := a3 u u1 u2
        simp
        exact this
      · have a' : CA h (L 0) B D z := ⟨a1, a2, a3, a4, a5, a6, a7, a8⟩
        have nb : ∀ l kd : Nat, (l, kd) ∈ TA → 2 ≤ l → l ≤ 7 → kd ≠ 4 → B u l ≠ Ta (L 0) t := fun l kd hl l1 l2 hne e => by
          have := (a'.arr c u1 u2 hl l1 l2).2.1
          rw [e, k] at this
          exact hne this.symm
        rw [sI_o (nb 2 21 (by decide) (by decide) (by decide) (by decide)), sI_o (nb 3 23 (by decide) (by decide) (by decide) (by decide)), sI_o (nb 4 23 (by decide) (by decide) (by decide) (by decide))]
        exact a5 u r u1 u2 hr
    have k8 : hK h8 = hK h := by rw [e8]; rfl
    have n8 : hN h8 = hN h := by rw [e8]; rfl
    have r8 : hR h8 = hR h := by rw [e8]; rfl
    refine ⟨c8.kT pt, B t 2, by rw [r8]; exact r2, by rw [k8]; exact s2, by rw [n8]; exact i2, fun h4 e4 => ?_⟩
    subst e4
    refine hp _ (c8.wA (kd := 21) (by rw [k8]; exact s2) (by omega) y2) (ar.wB c8 t1 t2 hs (Or.inl ⟨rfl, rfl⟩)) fun u u1 u2 => ?_
    obtain ⟨q1, q2⟩ := n u u1 u2
    rw [sI_o (nT u u1 u2), wo u, e8]
    refine ⟨?_, by rw [rI_sI, if_neg (fun y => absurd y.2 (by decide))]; exact q2⟩
    rw [rI_sI]
    by_cases e : u = t
    · have hd : aHeld (zu z 0 t s v) u = aHeld z u + 1 := cntF_set (t := s) hs (by rw [e, hc]; rfl) (by rw [zu_I, if_pos ⟨rfl, e, rfl⟩]; exact decide_eq_true hv) (fun r _ hr => by rw [zu_I, if_neg (fun y => hr y.2.2)])
      rw [if_pos ⟨by rw [e], rfl⟩, e6, hd, e, (n t t1 t2).1, nI_1]
    · rw [if_neg (fun y => e (Ta_inj a u1 u2 t1 t2 y.1)), ho u e]; exact q1
/-- an int of an array that isn't looked at -/
theorem CA.wX {t s : Nat} {v : Int32} (a : CA h (L 0) B D z) (c : CI g Y P h0 h x D E C L) (t1 : 1 ≤ t) (t2 : t ≤ zn z) : CA (sI h (B t 6) s v) (L 0) B D z := by
  have s6 := (a.arr c t1 t2 (k := 6) (kd := 23) (by decide) (by decide) (by decide)).2.1
  have nT : ∀ u : Nat, 1 ≤ u → u ≤ zn z → Ta (L 0) u ≠ B t 6 := fun u u1 u2 e => by
    have := c.kT (Ta_P c u1 (by rw [a.1]; exact u2))
    rw [e, s6] at this; exact absurd this (by decide)
  obtain ⟨a1, a2, a3, a4, a5, a6, a7, a8⟩ := a
  have inj : ∀ u l : Nat, 1 ≤ u → u ≤ zn z → 2 ≤ l → l ≤ 5 → B u l ≠ B t 6 := fun u l u1 u2 l1 l2 e => by
    have := a6 u t l 6 u1 u2 t1 t2 l1 (by omega) (by omega) (by omega) e
    omega
  refine ⟨a1, a2, fun u u1 u2 => by rw [sI_o (nT u u1 u2)]; exact a3 u u1 u2, a4, fun u r u1 u2 hr => ?_, a6, a7, a8⟩
  rw [sI_o (inj u 2 u1 u2 (by omega) (by omega)), sI_o (inj u 3 u1 u2 (by omega) (by omega)), sI_o (inj u 4 u1 u2 (by omega) (by omega))]
  exact a5 u r u1 u2 hr
/-- a count or the like of a task: not looked at by CA -/
theorem CA.wC {t k : Nat} {v : Int32} (a : CA h (L 0) B D z) (c : CI g Y P h0 h x D E C L) (t1 : 1 ≤ t) (t2 : t ≤ zn z) (hk : k = 8 ∨ k = 10 ∨ k = 11) : CA (sI h (Ta (L 0) t) k v) (L 0) B D z := by
  have kt := c.kT (Ta_P c t1 (by rw [a.1]; exact t2))
  have nb : ∀ u l kd : Nat, 1 ≤ u → u ≤ zn z → (l, kd) ∈ TA → 2 ≤ l → l ≤ 7 → kd ≠ 4 → B u l ≠ Ta (L 0) t := fun u l kd u1 u2 hl l1 l2 hne e => by
    have := (a.arr c u1 u2 hl l1 l2).2.1
    rw [e, kt] at this
    exact hne this.symm
  obtain ⟨a1, a2, a3, a4, a5, a6, a7, a8⟩ := a
  refine ⟨a1, a2, fun u u1 u2 => ?_, a4, fun u r u1 u2 hr => ?_, a6, a7, a8⟩
  · have := a3 u u1 u2
    simp only [rI_sI]
    rw [if_neg (by omega), if_neg (by omega), if_neg (by omega), if_neg (by omega), if_neg (by omega), if_neg (by omega)]
    exact this
  · rw [sI_o (nb u 2 21 u1 u2 (by decide) (by decide) (by decide) (by decide)), sI_o (nb u 3 23 u1 u2 (by decide) (by decide) (by decide) (by decide)), sI_o (nb u 4 23 u1 u2 (by decide) (by decide) (by decide) (by decide))]
    exact a5 u r u1 u2 hr
theorem cnt0 (f : Nat → Bool) (n : Nat) (h : ∀ k : Nat, k < n → f k = false) : cntF f n = 0 := by
  induction n with
  | zero => rfl
  | succ n ih =>
    show cntF f n + (if f n = true then 1 else 0) = 0
    rw [ih (fun k hk => h k (by omega)), h n (by omega)]
    rfl
theorem V_forget {t : Nat} {post : Hp → Prop} (c : CI g Y P h0 h x D E C L) (a : CA h (L 0) B D z) (n : CN h (L 0) z) (hn : zn z ≤ 30) (t1 : 1 ≤ t) (t2 : t ≤ zn z) (hp : ∀ h' : Hp, CI g Y P h0 h' x D E C L → CA h' (L 0) B D (aStop (aW z t 50) t) → CN h' (L 0) (aStop (aW z t 50) t) → post h') : wp_T_forget g post h (Ta (L 0) t) := by
  have h50 : (50 : Int32) = nI 50 := rfl
  have pt := Ta_P c t1 (by rw [a.1]; exact t2)
  have loop : ∀ (d s : Nat) (h' : Hp), s + d = 50 → CI g Y P h0 h' x D E C L → CA h' (L 0) B D (aW z t s) → (∀ u : Nat, 1 ≤ u → u ≤ zn z → hI h' (Ta (L 0) u) = hI h (Ta (L 0) u)) → wp_T_forget_2 g post (d + 1) h' (Ta (L 0) t) (nI s) := by
    intro d
    induction d with
    | zero =>
      intro s h' e c a hf
      have k := c.kT pt
      have e : s = 50 := by omega
      subst e
      unfold wp_T_forget_2
      refine ⟨fun _ => ⟨k, Or.inl rfl, fun h3 e3 => ?_⟩, fun c => absurd (by decide) c⟩
      have c3 : CI g Y P h0 h3 x D E C L := by rw [e3]; exact c.wT pt
      have a3 : CA h3 (L 0) B D (aW z t 50) := by rw [e3]; exact a.wC c t1 t2 (by omega)
      refine ⟨c3.kT pt, fun h5 e5 => ?_⟩
      have c5 : CI g Y P h0 h5 x D E C L := by rw [e5]; exact c3.wT pt
      have a5 : CA h5 (L 0) B D (aW z t 50) := by rw [e5]; exact a3.wC c3 t1 t2 (by omega)
      refine ⟨c5.kT pt, fun h7 e7 => ?_⟩
      have c7 : CI g Y P h0 h7 x D E C L := by rw [e7]; exact c5.wT pt
      have a7 : CA h7 (L 0) B D (aW z t 50) := by rw [e7]; exact a5.wC c5 t1 t2 (by omega)
      have n7 : CN h7 (L 0) (aW z t 50) := fun u u1 u2 => by
        have u2 : u ≤ zn z := u2
        have ef : ∀ j : Nat, hI h7 (Ta (L 0) u) j = if Ta (L 0) u = Ta (L 0) t ∧ j = 11 then 0 else if Ta (L 0) u = Ta (L 0) t ∧ j = 10 then 0 else if Ta (L 0) u = Ta (L 0) t ∧ j = 8 then 0 else hI h (Ta (L 0) u) j := fun j => by rw [e7, rI_sI, e5, rI_sI, e3, rI_sI, hf u u1 u2]
        rw [ef, ef]
        by_cases e : u = t
        · have z1 : aHeld (aW z t 50) u = 0 := cnt0 _ 50 fun r hr => by rw [aW_I, if_pos ⟨e, hr, rfl⟩]; rfl
          have z2 : aWr (aW z t 50) u = 0 := cnt0 _ 50 fun r hr => by rw [aW_I, if_neg (by omega), if_pos ⟨e, hr, Or.inr rfl⟩]; rfl
          rw [z1, z2, e, if_neg (by omega), if_pos ⟨rfl, rfl⟩, if_pos ⟨rfl, rfl⟩]
          exact ⟨rfl, rfl⟩
        · have ne : ¬ Ta (L 0) u = Ta (L 0) t := fun y => e (Ta_inj a u1 u2 t1 t2 y)
          have z1 : aHeld (aW z t 50) u = aHeld z u := held_congr fun r _ => by rw [aW_I, if_neg (fun y => e y.1), if_neg (fun y => e y.1)]
          have z2 : aWr (aW z t 50) u = aWr z u := wr_congr fun r _ => by rw [aW_I, if_neg (fun y => e y.1), if_neg (fun y => e y.1)]
          rw [z1, z2, if_neg (fun y => ne y.1), if_neg (fun y => ne y.1), if_neg (fun y => ne y.1), if_neg (fun y => ne y.1), if_neg (fun y => ne y.1), if_neg (fun y => ne y.1)]
          exact n u u1 u2
      exact ⟨c7.kT pt, V_stop c7 a7 n7 t1 t2 fun h' c' a' n' => hp h' c' a' n'⟩
    | succ d ih =>
      intro s h' e c a hf
      have k := c.kT pt
      unfold wp_T_forget_2
      obtain ⟨r2, s2, l2, y2⟩ := a.arr c t1 t2 (k := 2) (kd := 21) (by decide) (by decide) (by decide)
      refine ⟨fun c => ?_, fun _ => ⟨k, B t 2, r2, s2, by rw [l2]; exact vp_in_nI (by omega) (by omega), fun h13 e13 => ?_⟩⟩
      · rw [h50] at c
        have := (nI_leI (by omega) (by omega)).mp c
        omega
      rw [nI_clamp (by omega)] at e13
      have c13 : CI g Y P h0 h13 x D E C L := by rw [e13]; exact c.wA s2 (by omega) y2
      have a13 : CA h13 (L 0) B D (zu (aW z t s) 0 t s (-1)) := by rw [e13]; exact a.wB c t1 t2 (by omega) (Or.inl ⟨rfl, rfl⟩)
      obtain ⟨r3, s3, l3, y3⟩ := a13.arr c13 t1 t2 (k := 3) (kd := 23) (by decide) (by decide) (by decide)
      refine ⟨c13.kT pt, B t 3, r3, s3, by rw [l3]; exact vp_in_nI (by omega) (by omega), Or.inl rfl, fun h17 e17 => ?_⟩
      rw [nI_clamp (by omega)] at e17
      have c17 : CI g Y P h0 h17 x D E C L := by rw [e17]; exact c13.wA s3 (by omega) y3
      have a17 : CA h17 (L 0) B D (zu (zu (aW z t s) 0 t s (-1)) 1 t s 0) := by rw [e17]; exact a13.wB c13 t1 t2 (by omega) (Or.inr (Or.inl ⟨rfl, rfl⟩))
      obtain ⟨r4, s4, l4, y4⟩ := a17.arr c17 t1 t2 (k := 4) (kd := 23) (by decide) (by decide) (by decide)
      refine ⟨c17.kT pt, B t 4, r4, s4, by rw [l4]; exact vp_in_nI (by omega) (by omega), Or.inl rfl, fun h21 e21 => ?_⟩
      rw [nI_clamp (by omega)] at e21
      have c21 : CI g Y P h0 h21 x D E C L := by rw [e21]; exact c17.wA s4 (by omega) y4
      have a21 : CA h21 (L 0) B D (zu (zu (zu (aW z t s) 0 t s (-1)) 1 t s 0) 2 t s 0) := by rw [e21]; exact a17.wB c17 t1 t2 (by omega) (Or.inr (Or.inr ⟨rfl, rfl⟩))
      obtain ⟨r6, s6, l6, y6⟩ := a21.arr c21 t1 t2 (k := 6) (kd := 23) (by decide) (by decide) (by decide)
      refine ⟨c21.kT pt, B t 6, r6, s6, by rw [l6]; exact vp_in_nI (by omega) (by omega), Or.inl rfl, fun h25 e25 x26 e26 => ?_⟩
      rw [nI_clamp (by omega)] at e25
      rw [nI_1] at e26
      subst e26
      have c25 : CI g Y P h0 h25 x D E C L := by rw [e25]; exact c21.wA s6 (by omega) y6
      have a25 : CA h25 (L 0) B D (aW z t (s + 1)) := by
        rw [e25]
        exact CA.congr (a21.wX c21 t1 t2) hn (aW_step z t s).f
      refine ih (s + 1) h25 (by omega) c25 a25 fun u u1 u2 => ?_
      have pu := Ta_P c u1 (by rw [a.1]; exact u2)
      have ku := c.kT pu
      have k13 := c13.kT pu
      have k17 := c17.kT pu
      have k21 := c21.kT pu
      rw [e25, sI_o (fun y => by rw [y, s6] at k21; exact absurd k21 (by decide)), e21, sI_o (fun y => by rw [y, s4] at k17; exact absurd k17 (by decide)), e17, sI_o (fun y => by rw [y, s3] at k13; exact absurd k13 (by decide)), e13, sI_o (fun y => by rw [y, s2] at ku; exact absurd ku (by decide))]
      exact hf u u1 u2
  have aW0 : Zf z (aW z t 0) := by
    have e : ∀ f u r : Nat, zI (aW z t 0) f u r = zI z f u r := fun f u r => by rw [aW_I, if_neg (by omega), if_neg (by omega)]
    exact ⟨rfl, fun u r _ _ _ => ⟨e .., e .., e .., rfl⟩, fun u _ _ => ⟨e .., e .., fun _ => e .., e .., e ..⟩, fun r _ => rfl⟩
  unfold wp_T_forget
  exact ⟨51, loop 50 0 h rfl c (a.congr hn aW0) (fun _ _ _ => rfl)⟩
end VT
