/-! PURE: the class's tasks and rows -/
theorem va_up_same {α : Type} (f : Nat → α) (k : Nat) : va_up f k (f k) = f := by
  funext j
  by_cases e : j = k
  · rw [e, va_up_self]
  · rw [va_up_ne _ _ e]
/-- the lists behind: the same tasks, at most k more that wait -/
def Lz (L L' : Nat → List Nat) (k : Nat) : Prop := L' 0 = L 0 ∧ (L' 1).length ≤ (L 1).length + k
theorem Lz.rf {L : Nat → List Nat} : Lz L L 0 := ⟨rfl, Nat.le_refl _⟩
theorem Lz.tr {L L1 L2 : Nat → List Nat} {k k' : Nat} (a : Lz L L1 k) (b : Lz L1 L2 k') : Lz L L2 (k + k') := ⟨b.1.trans a.1, by have := a.2; have := b.2; omega⟩
theorem S_isSegment {g : Gm} {h : Hp} {i : Int32} {post : Int32 → Prop} (p1 : ∀ s : Nat, i = nI s → s < 50 → post 1) (p0 : post 0) : wp_S_isSegment g post h i := by
  unfold wp_S_isSegment wp_S_isSegment_14 wp_S_isSegment_15
  have h50 : (50 : Int32) = nI 50 := rfl
  refine ⟨fun _ => ⟨Or.inl rfl, p0⟩, fun c => ⟨fun _ => ⟨Or.inl rfl, p0⟩, fun d => ⟨Or.inr rfl, ?_⟩⟩⟩
  obtain ⟨t, e, ht⟩ := nI_back c
  refine p1 t e ?_
  rcases Nat.lt_or_ge t 50 with q | q
  · exact q
  · exact absurd (by rw [e, h50]; exact nI_le q ht) d
theorem S_areTogether {g : Gm} {h : Hp} {i j : Int32} {post : Int32 → Prop} (p0 : post 0) (p1 : post 1) : wp_S_areTogether g post h i j := by
  unfold wp_S_areTogether wp_S_areTogether_10 wp_S_areTogether_34 wp_S_areTogether_30 wp_S_areTogether_35
  have q0 : zB 0 ∧ post 0 := ⟨Or.inl rfl, p0⟩
  have q1 : zB 1 ∧ post 1 := ⟨Or.inr rfl, p1⟩
  exact ⟨fun _ => q1, fun _ => ⟨fun _ => ⟨fun _ => q0, fun _ => ⟨fun _ => q0, fun _ => ⟨fun _ => q1, fun _ => ⟨fun _ => q0, fun _ => q1⟩⟩⟩⟩, fun _ => q1⟩⟩
section CT
variable {g : Gm} {Y P : Nat → Prop} {h0 h : Hp} {x : Nat} {D E C : Nat → Nat} {L : Nat → List Nat}
theorem T_stopWaiting {t : Nat} {post : Hp → Prop} (c : CI g Y P h0 h x D E C L) (ht : P t) (hp : ∀ h' : Hp, CI g Y P h0 h' x D E C L → post h') : wp_T_stopWaiting g post h t := by
  have k := c.kT ht
  unfold wp_T_stopWaiting
  refine ⟨k, fun h2 e2 => ?_⟩
  subst e2
  refine ⟨k, fun h4 e4 => ?_⟩
  subst e4
  refine ⟨k, fun h6 e6 => ?_⟩
  subst e6
  exact hp _ (((c.wT ht).wT ht).wT ht)
theorem T_forget {t : Nat} {post : Hp → Prop} (c : CI g Y P h0 h x D E C L) (ht : P t) (hp : ∀ h' : Hp, CI g Y P h0 h' x D E C L → post h') : wp_T_forget g post h t := by
  have h50 : (50 : Int32) = nI 50 := rfl
  have loop : ∀ (d s : Nat) (h : Hp), s + d = 50 → CI g Y P h0 h x D E C L → wp_T_forget_2 g post (d + 1) h t (nI s) := by
    intro d
    induction d with
    | zero =>
      intro s h e c
      have k := c.kT ht
      have e : s = 50 := by omega
      subst e
      unfold wp_T_forget_2
      refine ⟨fun _ => ⟨k, Or.inl rfl, fun h3 e3 => ?_⟩, fun c => absurd (by decide) c⟩
      subst e3
      refine ⟨k, fun h5 e5 => ?_⟩
      subst e5
      refine ⟨k, fun h7 e7 => ?_⟩
      subst e7
      exact ⟨k, T_stopWaiting (((c.wT ht).wT ht).wT ht) ht fun h' c' => hp h' c'⟩
    | succ d ih =>
      intro s h e c
      have k := c.kT ht
      obtain ⟨a2, r2, s2, t2, u2⟩ := (c.tk t ht).row 2 21 (by decide)
      obtain ⟨a3, r3, s3, t3, u3⟩ := (c.tk t ht).row 3 23 (by decide)
      obtain ⟨a4, r4, s4, t4, u4⟩ := (c.tk t ht).row 4 23 (by decide)
      obtain ⟨a6, r6, s6, t6, u6⟩ := (c.tk t ht).row 6 23 (by decide)
      unfold wp_T_forget_2
      refine ⟨fun c => ?_, fun _ => ⟨k, a2, r2, s2, by rw [t2]; exact vp_in_nI (by omega) (by omega), fun h13 e13 => ?_⟩⟩
      · rw [h50] at c
        have := (nI_leI (by omega) (by omega)).mp c
        omega
      subst e13
      refine ⟨k, a3, r3, s3, by rw [kN_sI, t3]; exact vp_in_nI (by omega) (by omega), Or.inl rfl, fun h17 e17 => ?_⟩
      subst e17
      refine ⟨k, a4, r4, s4, by rw [kN_sI, kN_sI, t4]; exact vp_in_nI (by omega) (by omega), Or.inl rfl, fun h21 e21 => ?_⟩
      subst e21
      refine ⟨k, a6, r6, s6, by rw [kN_sI, kN_sI, kN_sI, t6]; exact vp_in_nI (by omega) (by omega), Or.inl rfl, fun h25 e25 x26 e26 => ?_⟩
      subst e25
      rw [nI_1] at e26
      subst e26
      exact ih (s + 1) _ (by omega) ((((c.wA s2 (by omega) u2).wA (b := a3) (kd := 23) s3 (by omega) u3).wA (b := a4) (kd := 23) s4 (by omega) u4).wA (b := a6) (kd := 23) s6 (by omega) u6)
  unfold wp_T_forget
  exact ⟨51, loop 50 0 h rfl c⟩
theorem T_take {t s : Nat} {v : Int32} {post : Hp → Prop} (c : CI g Y P h0 h x D E C L) (ht : P t) (hs : s < 50) (hp : ∀ h' : Hp, CI g Y P h0 h' x D E C L → post h') : wp_T_take g post h t (nI s) v := by
  have k := c.kT ht
  obtain ⟨a2, r2, s2, t2, u2⟩ := (c.tk t ht).row 2 21 (by decide)
  have i2 : vp_in (nI s) (hN h a2) := by rw [t2]; exact vp_in_nI (by omega) (by omega)
  unfold wp_T_take wp_T_take_20
  refine ⟨k, a2, r2, s2, i2, fun _ => ⟨k, a2, r2, s2, i2, fun h4 e4 => ?_⟩, fun _ => ⟨k, fun x6 _ => ⟨k, fun h8 e8 => ?_⟩⟩⟩
  · subst e4
    exact hp _ (c.wA s2 (by omega) u2)
  · subst e8
    refine ⟨k, a2, r2, s2, i2, fun h4 e4 => ?_⟩
    subst e4
    exact hp _ ((c.wT ht).wA (b := a2) (kd := 21) s2 (by omega) u2)
theorem T_keep {t s : Nat} {v : Int64} {post : Hp → Prop} (c : CI g Y P h0 h x D E C L) (ht : P t) (hs : s < 50) (hp : ∀ h' : Hp, CI g Y P h0 h' x D E C L → post h') : wp_T_keep g post h t (nI s) v := by
  have k := c.kT ht
  obtain ⟨a4, r4, s4, t4, u4⟩ := (c.tk t ht).row 4 23 (by decide)
  obtain ⟨a5, r5, s5, t5, u5⟩ := (c.tk t ht).row 5 22 (by decide)
  have i4 : vp_in (nI s) (hN h a4) := by rw [t4]; exact vp_in_nI (by omega) (by omega)
  have i5 : vp_in (nI s) (hN h a5) := by rw [t5]; exact vp_in_nI (by omega) (by omega)
  unfold wp_T_keep wp_T_keep_19
  refine ⟨k, a4, r4, s4, i4, fun _ => ⟨k, a4, r4, s4, i4, Or.inr rfl, fun h4 e4 => ?_⟩, fun _ => ⟨k, fun x6 _ => ⟨k, fun h8 e8 => ?_⟩⟩⟩
  · subst e4
    refine ⟨k, a5, r5, s5, i5, fun h8 e8 => ?_⟩
    subst e8
    exact hp _ ((c.wA s4 (by omega) u4).wJ u5)
  · subst e8
    refine ⟨k, a4, r4, s4, i4, Or.inr rfl, fun h4 e4 => ?_⟩
    subst e4
    refine ⟨k, a5, r5, s5, i5, fun h8 e8 => ?_⟩
    subst e8
    exact hp _ (((c.wT ht).wA (b := a4) (kd := 23) s4 (by omega) u4).wJ u5)
theorem T_remember {t s : Nat} {v w : Int64} {post : Hp → Prop} (c : CI g Y P h0 h x D E C L) (ht : P t) (hs : s < 50) (hp : ∀ h' : Hp, CI g Y P h0 h' x D E C L → post h') : wp_T_remember g post h t (nI s) v w := by
  have k := c.kT ht
  obtain ⟨a6, r6, s6, t6, u6⟩ := (c.tk t ht).row 6 23 (by decide)
  obtain ⟨a7, r7, s7, t7, u7⟩ := (c.tk t ht).row 7 22 (by decide)
  have i6 : vp_in (nI s) (hN h a6) := by rw [t6]; exact vp_in_nI (by omega) (by omega)
  have i7 : vp_in (nI s) (hN h a7) := by rw [t7]; exact vp_in_nI (by omega) (by omega)
  have q32 : wp_T_remember_32 g post h t (nI s) v := by
    unfold wp_T_remember_32
    refine ⟨k, a6, r6, s6, i6, Or.inr rfl, fun h4 e4 => ?_⟩
    subst e4
    refine ⟨k, a7, r7, s7, i7, fun h8 e8 => ?_⟩
    subst e8
    exact hp _ ((c.wA s6 (by omega) u6).wJ u7)
  have q27 : wp_T_remember_27 g post h t (nI s) v := by
    unfold wp_T_remember_27 wp_T_remember_32
    refine ⟨k, Or.inr rfl, fun h2 e2 => ?_⟩
    subst e2
    refine ⟨k, a6, r6, s6, i6, Or.inr rfl, fun h4 e4 => ?_⟩
    subst e4
    refine ⟨k, a7, r7, s7, i7, fun h8 e8 => ?_⟩
    subst e8
    exact hp _ (((c.wT ht).wA (b := a6) (kd := 23) s6 (by omega) u6).wJ u7)
  unfold wp_T_remember
  exact ⟨fun _ => q27, fun _ => ⟨k, a6, r6, s6, i6, fun _ => q32, fun _ => ⟨k, a7, r7, s7, i7, fun _ => q32, fun _ => q27⟩⟩⟩
theorem T_isYounger {t u : Nat} {post : Int32 → Prop} (c : CI g Y P h0 h x D E C L) (ht : P t) (hu : P u) (hp : ∀ y : Int32, post y) : wp_T_isYounger g post h t u := by
  have k := c.kT ht
  have k' := c.kT hu
  unfold wp_T_isYounger wp_T_isYounger_33 wp_T_isYounger_37 wp_T_isYounger_38
  exact ⟨k, k', fun _ => ⟨Or.inr rfl, hp _⟩, fun _ => ⟨k, k', fun _ => ⟨Or.inl rfl, hp _⟩, fun _ => ⟨k, k', fun _ => ⟨Or.inl rfl, hp _⟩, fun _ => ⟨Or.inr rfl, hp _⟩⟩⟩⟩
theorem T_isInOrder {t : Nat} {post : Int32 → Prop} (c : CI g Y P h0 h x D E C L) (ht : P t) (hp : ∀ y : Int32, post y) : wp_T_isInOrder g post h t (D 4) := by
  have k := c.kT ht
  have h50 : (50 : Int32) = nI 50 := rfl
  obtain ⟨a6, r6, s6, t6, u6⟩ := (c.tk t ht).row 6 23 (by decide)
  obtain ⟨a7, r7, s7, t7, u7⟩ := (c.tk t ht).row 7 22 (by decide)
  obtain ⟨k4, n4⟩ := c.sk.k4
  have loop : ∀ (d s : Nat), s + d = 50 → wp_T_isInOrder_11 g post (d + 1) h t (D 4) (nI s) := by
    intro d
    induction d with
    | zero =>
      intro s e
      have e : s = 50 := by omega
      subst e
      unfold wp_T_isInOrder_11 wp_T_isInOrder_53
      exact ⟨fun _ => ⟨Or.inr rfl, hp _⟩, fun c => absurd (by decide) c⟩
    | succ d ih =>
      intro s e
      have nx : ∀ x1 : Int32, x1 = nI s + 1 → wp_T_isInOrder_11 g post (d + 1) h t (D 4) x1 := fun x1 e1 => by
        rw [nI_1] at e1; subst e1; exact ih (s + 1) (by omega)
      have i6 : vp_in (nI s) (hN h a6) := by rw [t6]; exact vp_in_nI (by omega) (by omega)
      have i7 : vp_in (nI s) (hN h a7) := by rw [t7]; exact vp_in_nI (by omega) (by omega)
      have i4 : vp_in (nI s) (hN h (D 4)) := by rw [n4]; exact vp_in_nI (by omega) (by omega)
      unfold wp_T_isInOrder_11 wp_T_isInOrder_53 wp_T_isInOrder_47
      exact ⟨fun _ => ⟨Or.inr rfl, hp _⟩, fun _ => ⟨nI 50, Or.inl ⟨by rw [k4]; decide, by rw [k4]; decide, by rw [n4]⟩, fun _ => ⟨Or.inr rfl, hp _⟩, fun _ => ⟨k, a6, r6, s6, i6, fun _ => nx, fun _ => ⟨k, a7, r7, s7, i7, k4, i4, fun _ => nx, fun _ => ⟨Or.inl rfl, hp _⟩⟩⟩⟩⟩
  unfold wp_T_isInOrder
  exact ⟨k, fun _ => ⟨51, loop 50 0 rfl⟩, fun _ => ⟨Or.inl rfl, hp _⟩⟩
/-! rows -/
theorem W_placeOf {t : Nat} {post : Int32 → Prop} (c : CI g Y P h0 h x D E C L) (hp : ∀ p : Nat, p ≤ (L 1).length → post (nI p)) : wp_W_placeOf g post h (D 5) t := by
  have l := c.ls 1 (by omega)
  have hl := c.len (i := 1) (by omega)
  have k := c.sk.k5
  have r := c.sk.w0
  have loop : ∀ (d i : Nat), i + d = (L 1).length → wp_W_placeOf_2 g post (d + 1) h (D 5) t (nI i) := by
    intro d
    induction d with
    | zero =>
      intro i e
      unfold wp_W_placeOf_2
      refine ⟨k, D 1, r, l.1, l.size ⟨fun _ => ⟨k, D 1, r, l.1, l.size (hp _ (Nat.le_refl _))⟩, fun z => absurd (nI_le (by omega) (by omega)) z⟩⟩
    | succ d ih =>
      intro i e
      unfold wp_W_placeOf_2
      refine ⟨k, D 1, r, l.1, l.size ⟨fun _ => ⟨k, D 1, r, l.1, l.size (hp _ (Nat.le_refl _))⟩, fun _ => ⟨k, D 1, r, l.1, l.get (by omega) ⟨fun _ x18 e18 => ?_, fun _ => hp i (by omega)⟩⟩⟩⟩
      rw [nI_1] at e18
      subst e18
      exact ih (i + 1) (by omega)
  unfold wp_W_placeOf
  exact ⟨(L 1).length + 1, loop _ 0 (by omega)⟩
theorem W_leave {t : Nat} {post : Hp → Prop} (c : CI g Y P h0 h x D E C L) (hp : ∀ (h' : Hp) (L' : Nat → List Nat), Lz L L' 0 → CI g Y P h0 h' x D E C L' → post h') : wp_W_leave g post h (D 5) t := by
  have l := c.ls 1 (by omega)
  have hl := c.len (i := 1) (by omega)
  have k := c.sk.k5
  have r := c.sk.w0
  unfold wp_W_leave wp_W_leave_26
  refine ⟨k, W_placeOf c fun p hpp => ⟨k, D 1, r, l.1, l.size ⟨fun _ => hp h L Lz.rf c, fun z => ?_⟩⟩⟩
  have hlt : p < (L 1).length := by
    rcases Nat.lt_or_ge p (L 1).length with q | q
    · exact q
    · exact absurd (nI_le q (by omega)) z
  refine ⟨k, D 1, r, l.1, l.remove hlt (fun j hj => c.kT (c.mem (by omega) hj)) fun h' l' f => ?_⟩
  have u := c.upd (i := 1) (by omega) f l' (Or.inl rfl) (fun t ht => c.lp 1 (by omega) t ?_) (c.cp 1 (by omega))
  · rw [va_up_same, va_up_same] at u
    refine hp h' _ ⟨va_up_ne _ _ (by decide), ?_⟩ u
    rw [va_up_self, List.length_append, List.length_take, List.length_drop]
    omega
  · rcases List.mem_append.mp ht with q | q
    · exact List.mem_of_mem_take q
    · exact List.mem_of_mem_drop q
theorem W_first {s : Int32} {post : Option Nat → Prop} (c : CI g Y P h0 h x D E C L) (p0 : post none) (p1 : ∀ t : Nat, P t → post (some t)) : wp_W_first g post h (D 5) s := by
  have l := c.ls 1 (by omega)
  have hl := c.len (i := 1) (by omega)
  have k := c.sk.k5
  have r := c.sk.w0
  have loop : ∀ (d i : Nat), i + d = (L 1).length → wp_W_first_2 g post (d + 1) h (D 5) s (nI i) := by
    intro d
    induction d with
    | zero =>
      intro i e
      unfold wp_W_first_2
      exact ⟨k, D 1, r, l.1, l.size ⟨fun _ => p0, fun z => absurd (nI_le (by omega) (by omega)) z⟩⟩
    | succ d ih =>
      intro i e
      have hm := c.mem (i := 1) (j := i) (by omega) (by omega)
      have km := c.kT hm
      unfold wp_W_first_2
      refine ⟨k, D 1, r, l.1, l.size ⟨fun _ => p0, fun _ => ⟨k, D 1, r, l.1, l.get (by omega) ⟨_, rfl, km, km, fun _ x16 e16 => ?_, fun _ => ⟨k, D 1, r, l.1, l.get (by omega) ⟨_, rfl, km, p1 _ hm⟩⟩⟩⟩⟩⟩
      rw [nI_1] at e16
      subst e16
      exact ih (i + 1) (by omega)
  unfold wp_W_first
  exact ⟨(L 1).length + 1, loop _ 0 (by omega)⟩
theorem W_firstWithoutLock {s : Nat} {post : Int32 → Prop} (c : CI g Y P h0 h x D E C L) (hs : s < 50) (hp : ∀ p : Nat, p ≤ (L 1).length → post (nI p)) : wp_W_firstWithoutLock g post h (D 5) (nI s) := by
  have l := c.ls 1 (by omega)
  have hl := c.len (i := 1) (by omega)
  have k := c.sk.k5
  have r := c.sk.w0
  have loop : ∀ (d i : Nat), i + d = (L 1).length → wp_W_firstWithoutLock_2 g post (d + 1) h (D 5) (nI s) (nI i) := by
    intro d
    induction d with
    | zero =>
      intro i e
      unfold wp_W_firstWithoutLock_2
      exact ⟨k, D 1, r, l.1, l.size ⟨fun _ => ⟨k, D 1, r, l.1, l.size (hp _ (Nat.le_refl _))⟩, fun z => absurd (nI_le (by omega) (by omega)) z⟩⟩
    | succ d ih =>
      intro i e
      have hm := c.mem (i := 1) (j := i) (by omega) (by omega)
      have km := c.kT hm
      obtain ⟨a2, r2, s2, t2, u2⟩ := (c.tk _ hm).row 2 21 (by decide)
      have nx : ∀ x1 : Int32, x1 = nI i + 1 → wp_W_firstWithoutLock_2 g post (d + 1) h (D 5) (nI s) x1 := fun x1 e1 => by
        rw [nI_1] at e1; subst e1; exact ih (i + 1) (by omega)
      unfold wp_W_firstWithoutLock_2 wp_W_firstWithoutLock_45
      exact ⟨k, D 1, r, l.1, l.size ⟨fun _ => ⟨k, D 1, r, l.1, l.size (hp _ (Nat.le_refl _))⟩, fun _ => ⟨k, D 1, r, l.1, l.get (by omega) ⟨_, rfl, km, km, fun _ => nx, fun _ => ⟨km, a2, r2, s2, by rw [t2]; exact vp_in_nI (by omega) (by omega), fun _ => nx, fun _ => hp i (by omega)⟩⟩⟩⟩⟩
  unfold wp_W_firstWithoutLock
  exact ⟨(L 1).length + 1, loop _ 0 (by omega)⟩
theorem W_enter {t mc ms : Nat} {post : Hp → Prop} (c : CI g Y P h0 h x D E C L) (ht : P t) (hw : (L 1).length ≤ 511) (hmc : 1 ≤ mc) (hms : 549 ≤ ms) (hp : ∀ (h' : Hp) (E' C' : Nat → Nat) (L' : Nat → List Nat), Lz L L' 1 → CI g Y P h0 h' x D E' C' L' → post h') : wp_W_enter g post mc ms h (D 5) t := by
  have l := c.ls 1 (by omega)
  have k := c.sk.k5
  have r := c.sk.w0
  have kt := c.kT ht
  have cs := (c.cp 1 (by omega)).1
  have q37 : ∀ p : Nat, p ≤ (L 1).length → wp_W_enter_37 g post mc ms h 0 0 (D 5) t (nI p) := fun p hpp => by
    unfold wp_W_enter_37
    refine ⟨k, D 1, r, l.1, mc, ms, by omega, by omega, l.insert c.h01 hpp (by have := CS_549 _ cs; omega) (fun j hj => c.kT (c.mem (by omega) hj)) kt (fun e => ⟨hmc, ?_⟩) fun h' e' c' l' f he => ?_⟩
    · have := capN_549 _ cs (CS_366 _ cs (by omega)); omega
    · have hc' : c' ∈ CS ∧ ((1 : Nat) ≠ 1 → c' ≤ 33) := by
        refine ⟨?_, fun z => absurd rfl z⟩
        rcases he with ⟨-, -, q⟩ | ⟨q1, q, -⟩
        · rw [q]; exact cs
        · rw [q]; exact capN_CS _ cs (CS_366 _ cs (by omega))
      have he' : e' = E 1 ∨ (hK h e' = 0 ∧ g.2.2 0 ≤ e') := by
        rcases he with ⟨-, q, -⟩ | ⟨-, -, q⟩
        · exact Or.inl q
        · exact Or.inr q
      have u := c.upd (i := 1) (by omega) f l' he' (fun u hu => ?_) hc'
      · refine hp h' _ _ _ ⟨va_up_ne _ _ (by decide), ?_⟩ u
        rw [va_up_self, List.length_append, List.length_cons, List.length_take, List.length_drop]
        omega
      · rcases List.mem_append.mp hu with q | q
        · exact c.lp 1 (by omega) u (List.mem_of_mem_take q)
        · rcases List.mem_cons.mp q with y | y
          · rw [y]; exact ht
          · exact c.lp 1 (by omega) u (List.mem_of_mem_drop y)
  obtain ⟨a2, r2, s2, t2, u2⟩ := (c.tk t ht).row 2 21 (by decide)
  unfold wp_W_enter
  refine ⟨kt, S_isSegment (fun s es s1 => ⟨fun _ => ⟨k, D 1, r, l.1, l.size ⟨kt, a2, r2, s2, ?_, fun _ => q37 _ (Nat.le_refl _), fun _ => ⟨k, ?_⟩⟩⟩, fun z => absurd z (by decide)⟩) ⟨fun z => absurd rfl z, fun _ => hp h E C L ⟨rfl, by omega⟩ c⟩⟩
  · rw [es, t2]; exact vp_in_nI (by omega) (by omega)
  · rw [es]; exact W_firstWithoutLock c s1 q37
theorem W_isAhead {t i : Nat} {post : Int32 → Prop} (c : CI g Y P h0 h x D E C L) (ht : P t) (hi : i < 2 ^ 31) (hp : ∀ y : Int32, post y) : wp_W_isAhead g post h (D 5) (nI i) t := by
  have l := c.ls 1 (by omega)
  have hl := c.len (i := 1) (by omega)
  have k := c.sk.k5
  have r := c.sk.w0
  unfold wp_W_isAhead wp_W_isAhead_36 wp_W_isAhead_37
  refine ⟨k, D 1, r, l.1, l.size ⟨fun _ => ⟨Or.inl rfl, hp _⟩, fun z => ?_⟩⟩
  have hlt : i < (L 1).length := by
    rcases Nat.lt_or_ge i (L 1).length with q | q
    · exact q
    · exact absurd (nI_le q (by omega)) z
  have km := c.kT (c.mem (i := 1) (by omega) hlt)
  exact ⟨k, D 1, r, l.1, l.get hlt ⟨_, rfl, km, km, c.kT ht, fun _ => ⟨Or.inl rfl, hp _⟩, fun _ => ⟨Or.inr rfl, hp _⟩⟩⟩
theorem W_countAhead {t : Nat} {post : Int32 → Prop} (c : CI g Y P h0 h x D E C L) (ht : P t) (hp : ∀ y : Int32, post y) : wp_W_countAhead g post h (D 5) t := by
  have hl := c.len (i := 1) (by omega)
  have k := c.sk.k5
  unfold wp_W_countAhead
  refine ⟨c.kT ht, fun _ => ⟨k, W_placeOf c fun p hpp => ⟨p + 1, ?_⟩⟩, fun _ => hp _⟩
  have loop : ∀ (d i : Nat) (y : Int32), i + d = p → wp_W_countAhead_21 g post (d + 1) h (D 5) t (nI p) y (nI i) := by
    intro d
    induction d with
    | zero =>
      intro i y e
      unfold wp_W_countAhead_21
      exact ⟨fun _ => hp _, fun z => absurd (nI_le (by omega) (by omega)) z⟩
    | succ d ih =>
      intro i y e
      unfold wp_W_countAhead_21 wp_W_countAhead_40
      refine ⟨fun _ => hp _, fun _ => ⟨k, W_isAhead c ht (by omega) fun w => ⟨fun _ x1 e1 => ?_, fun _ x6 _ x1 e1 => ?_⟩⟩⟩ <;> rw [nI_1] at e1 <;> subst e1 <;> exact ih (i + 1) _ (by omega)
  exact loop p 0 0 (by omega)
theorem W_markAhead {t : Nat} {post : Hp → Prop} (c : CI g Y P h0 h x D E C L) (ht : P t) (hp : ∀ h' : Hp, CI g Y P h0 h' x D E C L → post h') : wp_W_markAhead g post h (D 5) t (D 9) := by
  have hl := c.len (i := 1) (by omega)
  have h30 : (30 : Int32) = nI 30 := rfl
  unfold wp_W_markAhead
  refine ⟨c.sk.k5, W_placeOf c fun p hpp => ⟨p + 1, ?_⟩⟩
  have loop : ∀ (d i : Nat) (h : Hp), CI g Y P h0 h x D E C L → i + d = p → wp_W_markAhead_9 g post (d + 1) h (D 5) t (D 9) (nI p) (nI i) := by
    intro d
    induction d with
    | zero =>
      intro i h c e
      unfold wp_W_markAhead_9
      exact ⟨fun _ => hp h c, fun z => absurd (nI_le (by omega) (by omega)) z⟩
    | succ d ih =>
      intro i h c e
      have l := c.ls 1 (by omega)
      have k := c.sk.k5
      have r := c.sk.w0
      obtain ⟨k9, n9⟩ := c.sk.k9
      have hm := c.mem (i := 1) (j := i) (by omega) (by omega)
      have km := c.kT hm
      have nx : ∀ h' : Hp, CI g Y P h0 h' x D E C L → ∀ x1 : Int32, x1 = nI i + 1 → wp_W_markAhead_9 g post (d + 1) h' (D 5) t (D 9) (nI p) x1 := fun h' c' x1 e1 => by
        rw [nI_1] at e1; subst e1; exact ih (i + 1) h' c' (by omega)
      unfold wp_W_markAhead_9 wp_W_markAhead_61
      refine ⟨fun _ => hp h c, fun _ => ⟨k, D 1, r, l.1, l.get (by omega) ⟨_, rfl, km, km, fun x10 _ => ⟨k, W_isAhead c ht (by omega) fun w => ⟨fun _ => nx h c, fun _ => ⟨fun _ => nx h c, fun z0 => ⟨nI 30, Or.inl ⟨by rw [k9]; decide, by rw [k9]; decide, by rw [n9]⟩, fun _ => nx h c, fun z1 => ⟨k9, ?_, Or.inr rfl, fun h20 e20 => ?_⟩⟩⟩⟩⟩⟩⟩⟩
      · obtain ⟨j, rfl, hj⟩ := nI_back z0
        rw [n9]
        refine vp_in_nI ?_ (by omega)
        rcases Nat.lt_or_ge j 30 with q | q
        · exact q
        · exact absurd (nI_le q hj) z1
      · subst e20
        exact nx _ (c.wA k9 (by omega) (c.sk.dy 9 (by omega)).1)
  exact loop p 0 h c (by omega)
end CT
