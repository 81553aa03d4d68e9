/-! EXACT: holder -/
/-- the best lock on s among tasks 1 to k, and the first that has it -/
def hU (z : Zs) (s : Nat) : Nat → Int32 × Nat
  | 0 => (-1, 0)
  | k + 1 => if zI z 0 (k + 1) s ≤ (hU z s k).1 then hU z s k else (zI z 0 (k + 1) s, k + 1)
def cHold (z : Zs) (i : Int32) : Int32 := if aSn i = 50 then -4 else nI (hU z (aSn i) (zn z)).2
theorem hU_ok (z : Zs) (s : Nat) : ∀ k : Nat, (∀ v : Nat, 1 ≤ v → v ≤ k → zI z 0 v s ≤ (hU z s k).1) ∧ (((hU z s k).2 = 0 ∧ (hU z s k).1 = -1) ∨ (1 ≤ (hU z s k).2 ∧ (hU z s k).2 ≤ k ∧ (hU z s k).1 = zI z 0 (hU z s k).2 s ∧ ¬ (hU z s k).1 ≤ -1 ∧ ∀ v : Nat, 1 ≤ v → v < (hU z s k).2 → ¬ (hU z s k).1 ≤ zI z 0 v s)) := by
  intro k
  induction k with
  | zero => exact ⟨fun v v1 v2 => by omega, Or.inl ⟨rfl, rfl⟩⟩
  | succ k ih =>
    obtain ⟨i1, i2⟩ := ih
    by_cases c : zI z 0 (k + 1) s ≤ (hU z s k).1
    · have e : hU z s (k + 1) = hU z s k := if_pos c
      rw [e]
      refine ⟨fun v v1 v2 => ?_, ?_⟩
      · by_cases d : v = k + 1
        · rw [d]; exact c
        · exact i1 v v1 (by omega)
      · rcases i2 with q | ⟨q1, q2, q3, q4, q5⟩
        · exact Or.inl q
        · exact Or.inr ⟨q1, by omega, q3, q4, q5⟩
    · have e : hU z s (k + 1) = (zI z 0 (k + 1) s, k + 1) := if_neg c
      have lt := Int32.not_le.mp c
      rw [e]
      refine ⟨fun v v1 v2 => ?_, Or.inr ⟨by omega, Nat.le_refl _, rfl, fun y => c ?_, fun v v1 v2 y => c ?_⟩⟩
      · by_cases d : v = k + 1
        · rw [d]; exact Int32.le_refl _
        · exact Int32.le_trans (i1 v v1 (by omega)) (Int32.le_of_lt lt)
      · refine Int32.le_trans y ?_
        rcases i2 with q | q
        · rw [q.2]; exact Int32.le_refl _
        · exact Int32.le_of_lt (Int32.not_le.mp q.2.2.2.1)
      · have v2 : v < k + 1 := v2
        exact Int32.le_trans y (i1 v v1 (by omega))
/-- coming down from n, who is the answer so far -/
def hD (z : Zs) (s n k w : Nat) : Prop := (w = 0 ∧ ∀ v : Nat, k < v → v ≤ n → zI z 0 v s = -1) ∨ (k < w ∧ w ≤ n ∧ ¬ zI z 0 w s = -1 ∧ (∀ v : Nat, k < v → v ≤ n → zI z 0 v s ≤ zI z 0 w s) ∧ ∀ v : Nat, k < v → v < w → ¬ zI z 0 w s ≤ zI z 0 v s)
theorem lock_le {z : Zs} {t s : Nat} (o : Zo z) (t1 : 1 ≤ t) (t2 : t ≤ 30) (hs : s < 50) : -1 ≤ zI z 0 t s ∧ (zI z 0 t s ≤ -1 → zI z 0 t s = -1) := by
  rcases o.2.1 t s t1 t2 hs with q | q | q | q <;> rw [q] <;> decide
theorem hD_U {z : Zs} {s w : Nat} (o : Zo z) (hs : s < 50) (h : hD z s (zn z) 0 w) : w = (hU z s (zn z)).2 := by
  have o1 := o.1
  obtain ⟨i1, i2⟩ := hU_ok z s (zn z)
  rcases h with ⟨h1, h2⟩ | ⟨h1, h2, h3, h4, h5⟩
  · rcases i2 with q | ⟨q1, q2, q3, q4, q5⟩
    · omega
    · rw [q3, h2 _ q1 q2] at q4
      exact absurd (Int32.le_refl _) q4
  · rcases i2 with q | ⟨q1, q2, q3, q4, q5⟩
    · have := i1 w h1 h2
      rw [q.2] at this
      exact absurd ((lock_le o h1 (by omega) hs).2 this) h3
    · rcases Nat.lt_trichotomy w (hU z s (zn z)).2 with c | c | c
      · have := q5 w h1 c
        rw [q3] at this
        exact absurd (h4 _ q1 q2) this
      · exact c
      · have := h5 _ q1 c
        have le := i1 w h1 h2
        rw [q3] at le
        exact absurd le this
section VH
variable {g : Gm} {Y P : Nat → Prop} {h0 h : Hp} {x : Nat} {D E C : Nat → Nat} {L : Nat → List Nat} {B : Nat → Nat → Nat} {z : Zs} {W : List Nat}
theorem V_holder {i : Int32} {post : Int32 → Prop} (c : CI g Y P h0 h x D E C L) (a : Cz h L B D W z) (oz : Zo z) (hp : post (cHold z i)) : wp_S_holder g post h x i := by
  have l := c.ls 0 (by omega)
  have k := c.sk.kx
  have r := c.sk.f1
  have a0 : (L 0).length = zn z := a.1.1.1
  have o1 := oz.1
  unfold wp_S_holder
  unfold cHold at hp
  rcases aSn_c i with ⟨s, hs, e2, es⟩ | ⟨es, hn⟩
  · rw [if_neg (by omega), es] at hp
    rw [e2]
    have loop : ∀ (d j : Nat), j + d = zn z → wp_S_holder_17 g post (d + 1) h x (nI s) (hU z s j).1 (nI (hU z s j).2) (nI j) := by
      intro d
      induction d with
      | zero =>
        intro j e
        have e : j = zn z := by omega
        subst e
        unfold wp_S_holder_17
        exact ⟨k, D 0, r, l.1, l.size ⟨fun _ => hp, fun y => absurd (nI_le (by omega) (by omega)) y⟩⟩
      | succ d ih =>
        intro j e
        have hm := c.mem (i := 0) (j := j) (by omega) (by omega)
        have km := c.kT hm
        obtain ⟨r2, s2, n2, y2⟩ := a.1.1.arr c (t := j + 1) (k := 2) (kd := 21) (by omega) (by omega) (by decide) (by decide) (by decide)
        have eT : (L 0).getD j 0 = Ta (L 0) (j + 1) := rfl
        have el := (a.1.1.2.2.2.2.1 (j + 1) s (by omega) (by omega) hs).1
        have en := (a.1.1.2.2.1 (j + 1) (by omega) (by omega)).1
        have ii : vp_in (nI s) (hN h (B (j + 1) 2)) := by rw [n2]; exact vp_in_nI (by omega) (by omega)
        unfold wp_S_holder_17 wp_S_holder_68
        refine ⟨k, D 0, r, l.1, l.size ⟨fun y => ?_, fun _ => ⟨k, D 0, r, l.1, l.get (by omega) ⟨_, rfl, km, km, B (j + 1) 2, r2, s2, ii, ?_⟩⟩⟩⟩
        · have := (nI_leI (by omega) (by omega)).mp y
          omega
        rw [nI_clamp (by omega), el]
        refine ⟨fun y x1 e1 => ?_, fun y => ⟨km, B (j + 1) 2, r2, s2, ii, km, fun x1 e1 => ?_⟩⟩
        · rw [nI_1] at e1; subst e1
          have q := ih (j + 1) (by omega)
          have e : hU z s (j + 1) = hU z s j := if_pos y
          rw [e] at q; exact q
        · rw [nI_1] at e1; subst e1
          have q := ih (j + 1) (by omega)
          have e : hU z s (j + 1) = (zI z 0 (j + 1) s, j + 1) := if_neg y
          rw [e] at q
          rw [el, eT, en]
          exact q
    exact V_seg1 hs ⟨fun _ => ⟨zn z + 1, loop _ 0 (by omega)⟩, fun q => absurd q (by decide)⟩
  · rw [if_pos es] at hp
    exact V_seg0 hn ⟨fun q => absurd rfl q, fun _ => hp⟩
end VH
theorem Z_holder {g : Gm} {Y : Nat → Prop} {h0 h : Hp} {a n r q : Nat} {i : Int32} {A : Nat → Nat} {z : Zs} {post : Int32 → Hp → Prop} (m : MI Y h0 h a A n r q) (e : MZ h a A z) (o : Zo z)
    (hp : ∀ h' : Hp, MI Y h0 h' a A n r 30 → MZ h' a A z → post (cHold z i) h') : wp_M_holder g post h a i := by
  have o1 := o.1
  unfold wp_M_holder
  refine ⟨m.2.1.1, fun h2 e2 => ?_⟩
  have m2 : MI Y h0 h2 a A n r q := by rw [e2]; exact m.wF (by decide)
  have z2 : MZ h2 a A z := by rw [e2]; exact e.wF m.2.1 (by decide)
  obtain ⟨r1, r2, r3⟩ := m2.2.1.row 9 21 1550 (by decide)
  have m5 := m2.2.1.1
  replace hp := hp h2 m2.top z2
  unfold cHold at hp
  rcases aSn_c i with ⟨s, hs, e2', es⟩ | ⟨es, hn⟩
  · rw [if_neg (by omega), es] at hp
    subst e2'
    refine M_isSegment (fun s' es' s1' => ⟨fun _ => ⟨m5, zn z + 1, ?_⟩, fun c => absurd c (by decide)⟩) (fun q => absurd rfl (q s hs))
    rw [z2.1]
    have lk : ∀ t : Nat, 1 ≤ t → t ≤ 30 → hI h2 (A 9) (nI (50 * t + s)).toNatClampNeg = zI z 0 t s := fun t t1 t2 => by
      rw [nI_clamp (by omega)]; exact (z2.2.1 t s t1 t2 hs).1
    have iv : ∀ t : Nat, t ≤ 30 → vp_in (nI (50 * t + s)) (hN h2 (A 9)) := fun t t2 => by rw [r3]; exact vp_in_nI (by omega) (by omega)
    have loop : ∀ (d w : Nat), d ≤ zn z → hD z s (zn z) d w → wp_M_holder_22 g post (d + 1) h2 a (nI s) (nI w) (nI d) := by
      intro d
      induction d with
      | zero =>
        intro w _ hw
        unfold wp_M_holder_22
        refine ⟨fun _ => ?_, fun c => absurd (by decide) c⟩
        rw [hD_U o hs hw]; exact hp
      | succ d ih =>
        intro w hd hw
        have nx : ∀ w : Nat, hD z s (zn z) d w → ∀ x1 : Int32, x1 = nI (d + 1) + (-1) → wp_M_holder_22 g post (d + 1) h2 a (nI s) (nI w) x1 := fun w hw x1 e1 => by
          rw [nI_m1] at e1; subst e1; exact ih w (by omega) hw
        have w30 : w ≤ 30 := by rcases hw with q | q <;> omega
        unfold wp_M_holder_22 wp_M_holder_71 wp_M_holder_67 wp_M_holder_72
        refine ⟨fun y => ?_, fun _ => ⟨m5, A 9, r1, M_of ⟨r2, iv (d + 1) (by omega), ?_⟩⟩⟩
        · have h0' : (0 : Int32) = nI 0 := rfl
          rw [h0'] at y
          have := (nI_leI (by omega) (by omega)).mp y
          omega
        rw [lk (d + 1) (by omega) (by omega)]
        have ld := lock_le o (t := d + 1) (by omega) (by omega) hs
        refine ⟨fun y => nx w ?_, fun y => ⟨fun y0 => nx (d + 1) ?_, fun y0 => ⟨m5, A 9, r1, M_of ⟨r2, iv (d + 1) (by omega), m5, A 9, r1, M_of ⟨r2, iv w w30, ?_⟩⟩⟩⟩⟩
        · rcases hw with ⟨q1, q2⟩ | ⟨q1, q2, q3, q4, q5⟩
          · refine Or.inl ⟨q1, fun v v1 v2 => ?_⟩
            by_cases c : v = d + 1
            · rw [c]; exact y
            · exact q2 v (by omega) v2
          · have lw := lock_le o (t := w) (by omega) w30 hs
            refine Or.inr ⟨by omega, q2, q3, fun v v1 v2 => ?_, fun v v1 v2 => ?_⟩
            · by_cases c : v = d + 1
              · rw [c, y]; exact lw.1
              · exact q4 v (by omega) v2
            · by_cases c : v = d + 1
              · rw [c, y]; exact fun y2 => q3 (lw.2 y2)
              · exact q5 v (by omega) v2
        · have y0 : w = 0 := by
            have h0' : (0 : Int32) = nI 0 := rfl
            rw [h0'] at y0
            exact (nI_eq (by omega) (by omega)).mp y0
          rcases hw with ⟨q1, q2⟩ | ⟨q1, q2, q3, q4, q5⟩
          · refine Or.inr ⟨by omega, by omega, y, fun v v1 v2 => ?_, fun v v1 v2 => by omega⟩
            by_cases c : v = d + 1
            · rw [c]; exact Int32.le_refl _
            · rw [q2 v (by omega) v2]; exact ld.1
          · omega
        · have w0 : ¬ w = 0 := fun c => y0 (by rw [c]; rfl)
          rcases hw with ⟨q1, q2⟩ | ⟨q1, q2, q3, q4, q5⟩
          · exact absurd q1 w0
          · rw [lk (d + 1) (by omega) (by omega), lk w (by omega) w30]
            refine ⟨fun c => nx w ?_, fun c => nx (d + 1) ?_⟩
            · refine Or.inr ⟨by omega, q2, q3, fun v v1 v2 => ?_, fun v v1 v2 => ?_⟩
              · by_cases c2 : v = d + 1
                · rw [c2]; exact Int32.le_of_lt c
                · exact q4 v (by omega) v2
              · by_cases c2 : v = d + 1
                · rw [c2]; exact Int32.not_le.mpr c
                · exact q5 v (by omega) v2
            · have le := Int32.not_lt.mp c
              refine Or.inr ⟨by omega, by omega, y, fun v v1 v2 => ?_, fun v v1 v2 => by omega⟩
              by_cases c2 : v = d + 1
              · rw [c2]; exact Int32.le_refl _
              · exact Int32.le_trans (q4 v (by omega) v2) le
    exact loop (zn z) 0 (Nat.le_refl _) (Or.inl ⟨rfl, fun v v1 v2 => by omega⟩)
  · rw [if_pos es] at hp
    exact M_isSegment (fun s es' hs => absurd es' (hn s hs)) (fun _ => ⟨fun c => absurd rfl c, fun _ => hp⟩)
