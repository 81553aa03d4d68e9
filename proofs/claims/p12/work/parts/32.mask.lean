/-! PURE: the reference's ask -/
theorem MI.top {Y : Nat → Prop} {h0 h : Hp} {a n r q : Nat} {A : Nat → Nat} (m : MI Y h0 h a A n r q) : MI Y h0 h a A n r 30 := by
  obtain ⟨m1, m2, m3, m4, m5, m6, m7, m8, m9, m10⟩ := m
  exact ⟨m1, m2, m3, m4, m5, m6, wn_le m6.1, m8, m9, m10⟩
theorem MI.isTask {g : Gm} {Y : Nat → Prop} {h0 h : Hp} {a n r q : Nat} {i : Int32} {A : Nat → Nat} {post : Int32 → Prop} (m : MI Y h0 h a A n r q) (p1 : ∀ t : Nat, i = nI t → 1 ≤ t → t ≤ 30 → post 1) (p0 : post 0) : wp_M_isTask g post h a i :=
  M_isTask m.2.1.1 m.2.2.2.1 m.2.2.2.2.1 (fun t e t1 t2 => p1 t e t1 (Nat.le_trans t2 m.2.2.2.2.1)) (fun _ => p0)
theorem MI.enter {Y : Nat → Prop} {h0 h h2 : Hp} {a n r q t s p : Nat} {v : Int32} {A : Nat → Nat} (m : MI Y h0 h a A n r q) (ht1 : 1 ≤ t) (ht : t ≤ 30) (hs : s < 50) (hw : hI h (A 7) t = -1) (hp : p ≤ cn (hI h (A 7)) s) (sm : Sm h h2)
    (ei : ∀ b k : Nat, hI h2 b k = if b = A 16 ∧ k = s then nI (cn (hI h (A 7)) s + 1) else if b = A 15 ∧ k = 31 * s + p then nI t else if b = A 15 ∧ 31 * s + p < k ∧ k ≤ 31 * s + cn (hI h (A 7)) s then hI h b (k - 1) else hI h b k) :
    MI Y h0 (sI (sI (sI h2 (A 7) t (nI s)) (A 8) t v) (A 5) t 1) a A n r (q + 1) := by
  obtain ⟨m1, m2, m3, m4, m5, m6, m7, m8, ⟨z, z1, z2, z3⟩, ⟨y, y1, y2⟩⟩ := m
  have d57 : A 5 ≠ A 7 := m2.ne 5 7 21 31 21 31 (by decide) (by decide) (by decide)
  have d58 : A 5 ≠ A 8 := m2.ne 5 8 21 31 21 31 (by decide) (by decide) (by decide)
  have d5f : A 5 ≠ A 15 := m2.ne 5 15 21 31 21 1550 (by decide) (by decide) (by decide)
  have d5s : A 5 ≠ A 16 := m2.ne 5 16 21 31 21 50 (by decide) (by decide) (by decide)
  have d78 : A 7 ≠ A 8 := m2.ne 7 8 21 31 21 31 (by decide) (by decide) (by decide)
  have d7f : A 7 ≠ A 15 := m2.ne 7 15 21 31 21 1550 (by decide) (by decide) (by decide)
  have d7s : A 7 ≠ A 16 := m2.ne 7 16 21 31 21 50 (by decide) (by decide) (by decide)
  have d8f : A 8 ≠ A 15 := m2.ne 8 15 21 31 21 1550 (by decide) (by decide) (by decide)
  have d8s : A 8 ≠ A 16 := m2.ne 8 16 21 31 21 50 (by decide) (by decide) (by decide)
  have dfs : A 15 ≠ A 16 := m2.ne 15 16 21 1550 21 50 (by decide) (by decide) (by decide)
  have oo : ∀ b : Nat, b ≠ A 5 → b ≠ A 7 → b ≠ A 8 → b ≠ A 15 → b ≠ A 16 → hI (sI (sI (sI h2 (A 7) t (nI s)) (A 8) t v) (A 5) t 1) b = hI h b := fun b b1 b2 b3 b4 b5 => by
    rw [sI_o b1, sI_o b3, sI_o b2]
    funext j
    rw [ei, if_neg (fun z => b5 z.1), if_neg (fun z => b4 z.1), if_neg (fun z => b4 z.1)]
  have e7 : ∀ j : Nat, hI (sI (sI (sI h2 (A 7) t (nI s)) (A 8) t v) (A 5) t 1) (A 7) j = if j = t then nI s else hI h (A 7) j := fun j => by
    rw [sI_o (fun z => d57 z.symm), sI_o d78, rI_sI]
    by_cases c : j = t
    · rw [if_pos ⟨rfl, c⟩, if_pos c]
    · rw [if_neg (fun z => c z.2), if_neg c, ei, if_neg (fun z => d7s z.1), if_neg (fun z => d7f z.1), if_neg (fun z => d7f z.1)]
  have e16 : ∀ j : Nat, hI (sI (sI (sI h2 (A 7) t (nI s)) (A 8) t v) (A 5) t 1) (A 16) j = if j = s then nI (cn (hI h (A 7)) s + 1) else hI h (A 16) j := fun j => by
    rw [sI_o (fun z => d5s z.symm), sI_o (fun z => d8s z.symm), sI_o (fun z => d7s z.symm), ei]
    by_cases c : j = s
    · rw [if_pos ⟨rfl, c⟩, if_pos c]
    · rw [if_neg (fun z => c z.2), if_neg c, if_neg (fun z => dfs z.1.symm), if_neg (fun z => dfs z.1.symm)]
  have e15 : ∀ j : Nat, hI (sI (sI (sI h2 (A 7) t (nI s)) (A 8) t v) (A 5) t 1) (A 15) j = if j = 31 * s + p then nI t else if 31 * s + p < j ∧ j ≤ 31 * s + cn (hI h (A 7)) s then hI h (A 15) (j - 1) else hI h (A 15) j := fun j => by
    rw [sI_o (fun z => d5f z.symm), sI_o (fun z => d8f z.symm), sI_o (fun z => d7f z.symm), ei, if_neg (fun z => dfs z.1)]
    by_cases c : j = 31 * s + p
    · rw [if_pos ⟨rfl, c⟩, if_pos c]
    · rw [if_neg (fun z => c z.2), if_neg c]
      by_cases c2 : 31 * s + p < j ∧ j ≤ 31 * s + cn (hI h (A 7)) s
      · rw [if_pos ⟨rfl, c2⟩, if_pos c2]
      · rw [if_neg (fun z => c2 z.2), if_neg c2]
  have e5 : ∀ j : Nat, hI (sI (sI (sI h2 (A 7) t (nI s)) (A 8) t v) (A 5) t 1) (A 5) j = if j = t then 1 else hI h (A 5) j := fun j => by
    rw [rI_sI]
    by_cases c : j = t
    · rw [if_pos ⟨rfl, c⟩, if_pos c]
    · rw [if_neg (fun z => c z.2), if_neg c, sI_o d58, sI_o d57, ei, if_neg (fun z => d5s z.1), if_neg (fun z => d5f z.1), if_neg (fun z => d5f z.1)]
  obtain ⟨n1, n2⟩ := m6.enter ht1 ht hs hw hp e7 e16 e15
  have oa := oo a (m2.na 5 21 31 (by decide)) (m2.na 7 21 31 (by decide)) (m2.na 8 21 31 (by decide)) (m2.na 15 21 1550 (by decide)) (m2.na 16 21 50 (by decide))
  have o18 := oo (A 18) (m2.ne 18 5 21 2000 21 31 (by decide) (by decide) (by decide)) (m2.ne 18 7 21 2000 21 31 (by decide) (by decide) (by decide)) (m2.ne 18 8 21 2000 21 31 (by decide) (by decide) (by decide)) (m2.ne 18 15 21 2000 21 1550 (by decide) (by decide) (by decide)) (m2.ne 18 16 21 2000 21 50 (by decide) (by decide) (by decide))
  refine ⟨⟨sm.1.trans m1.1, sm.2.1.trans m1.2.1, sm.2.2.1.trans m1.2.2.1, fun b hb => ?_⟩, ((m2.sm sm).sI.sI.sI), m3, by rw [oa]; exact m4, m5, n1, by omega, ?_, ⟨z, z1, by rw [oa]; exact z2, by rw [o18]; exact z3⟩, ⟨y, y1, by rw [oa]; exact y2⟩⟩
  · rw [oo b (fun z => hb (z ▸ m3.2 (5, 21, 31) (by decide))) (fun z => hb (z ▸ m3.2 (7, 21, 31) (by decide))) (fun z => hb (z ▸ m3.2 (8, 21, 31) (by decide))) (fun z => hb (z ▸ m3.2 (15, 21, 1550) (by decide))) (fun z => hb (z ▸ m3.2 (16, 21, 50) (by decide)))]
    exact ⟨(m1.2.2.2 b hb).1, (congrFun sm.2.2.2 b).trans (m1.2.2.2 b hb).2⟩
  · intro u hu hw'
    rw [e5]
    by_cases c : u = t
    · rw [if_pos c]; decide
    · rw [if_neg c]
      rw [e7, if_neg c] at hw'
      exact m8 u hu hw'
theorem MI.ask_300 {g : Gm} {Y : Nat → Prop} {h0 h : Hp} {a n r q t : Nat} {A : Nat → Nat} {post : Int32 → Hp → Prop} (m : MI Y h0 h a A n r q) (ht : t ≤ 30)
    (hp : ∀ (x : Int32) (h' : Hp), MI Y h0 h' a A n r 30 → post x h') : wp_M_ask_300 g post h a (nI t) := by
  obtain ⟨r1, r2, r3⟩ := m.2.1.row 5 21 31 (by decide)
  unfold wp_M_ask_300 wp_M_ask_315
  exact ⟨m.2.1.1, A 5, r1, r2, by rw [r3]; exact vp_in_nI (by omega) (by omega), fun _ => hp _ _ m.top, fun _ => hp _ _ m.top⟩
theorem MI.ask_246 {g : Gm} {Y : Nat → Prop} {h0 : Hp} {a n r t : Nat} {A : Nat → Nat} {post : Int32 → Hp → Prop} (hr : r ≤ 2000) (ht1 : 1 ≤ t) (ht : t ≤ 30)
    (hp : ∀ (x : Int32) (h' : Hp), MI Y h0 h' a A n r 30 → post x h') : ∀ (q : Nat) (h : Hp), MI Y h0 h a A n r q → wp_M_ask_246 g post (q + 1) h a (nI t) := by
  intro q
  induction q with
  | zero =>
    intro h m
    obtain ⟨r1, r2, r3⟩ := m.2.1.row 5 21 31 (by decide)
    unfold wp_M_ask_246
    refine ⟨m.2.1.1, A 5, r1, r2, by rw [r3]; exact vp_in_nI (by omega) (by omega), fun _ => m.ask_300 ht hp, fun _ => ⟨m.2.1.1, m.findRing ht1 ht (fun h' m' => ⟨fun _ => m'.ask_300 ht hp, fun c => absurd rfl c⟩) fun h' z m' rn => ⟨fun c => absurd c (by decide), fun _ => ⟨m'.2.1.1, m'.youngest rn fun y y1 y2 y3 => ?_⟩⟩⟩⟩
    exfalso
    have : 1 ≤ wn (hI h' (A 7)) := cntF_some (t := y) (by omega) (decide_eq_true y3)
    have := m'.2.2.2.2.2.2.1
    omega
  | succ q ih =>
    intro h m
    obtain ⟨r1, r2, r3⟩ := m.2.1.row 5 21 31 (by decide)
    unfold wp_M_ask_246
    refine ⟨m.2.1.1, A 5, r1, r2, by rw [r3]; exact vp_in_nI (by omega) (by omega), fun _ => m.ask_300 ht hp, fun _ => ⟨m.2.1.1, m.findRing ht1 ht (fun h' m' => ⟨fun _ => m'.ask_300 ht hp, fun c => absurd rfl c⟩) fun h' z m' rn => ⟨fun c => absurd c (by decide), fun _ => ⟨m'.2.1.1, m'.youngest rn fun y y1 y2 y3 => ?_⟩⟩⟩⟩
    obtain ⟨s1, s2, s3⟩ := m'.2.1.row 6 21 31 (by decide)
    refine ⟨m'.2.1.1, A 6, s1, s2, by rw [s3]; exact vp_in_nI (by omega) (by omega), fun x15 _ => ⟨s2, by rw [s3]; exact vp_in_nI (by omega) (by omega), fun h17 e17 => ?_⟩⟩
    have m17 : MI Y h0 h17 a A n r (q + 1) := by rw [e17]; exact m'.wI (k := 6) (kd := 21) (len := 31) (by decide) (by decide)
    have w17 : ¬ hI h17 (A 7) y = -1 := by rw [e17, sI_o (m'.2.1.ne 7 6 21 31 21 31 (by decide) (by decide) (by decide))]; exact y3
    refine ⟨m17.2.1.1, m17.clear hr y2 fun x h' q' e1 e2 m'' => ⟨fun _ => ih h' (m''.mono (by have := e2 w17; omega)), fun _ => hp _ _ m''.top⟩⟩
theorem MI.ask_217 {g : Gm} {Y : Nat → Prop} {h0 h : Hp} {a n r q t s p : Nat} {v : Int32} {A : Nat → Nat} {post : Int32 → Hp → Prop} (m : MI Y h0 h a A n r q) (hr : r ≤ 2000) (ht1 : 1 ≤ t) (ht : t ≤ 30) (hs : s < 50) (hw : hI h (A 7) t = -1) (hpp : p ≤ cn (hI h (A 7)) s)
    (hp : ∀ (x : Int32) (h' : Hp), MI Y h0 h' a A n r 30 → post x h') : wp_M_ask_217 g post h a (nI t) (nI s) v (nI p) := by
  have m6 := m.2.2.2.2.2.1
  have hc := cn_le m6.1 hs
  unfold wp_M_ask_217
  refine ⟨m.2.1.1, M_insert m.2.1 hs (n := cn (hI h (A 7)) s) (by omega) hpp (m6.2.1 s hs) fun h2 sm ei => ?_⟩
  have m2 := m.2.1.sm sm
  obtain ⟨r1, r2, r3⟩ := m2.row 7 21 31 (by decide)
  obtain ⟨u1, u2, u3⟩ := m2.row 8 21 31 (by decide)
  obtain ⟨v1, v2, v3⟩ := m2.row 5 21 31 (by decide)
  have i7 : vp_in (nI t) (hN h2 (A 7)) := by rw [r3]; exact vp_in_nI (by omega) (by omega)
  have i8 : vp_in (nI t) (hN h2 (A 8)) := by rw [u3]; exact vp_in_nI (by omega) (by omega)
  have i5 : vp_in (nI t) (hN h2 (A 5)) := by rw [v3]; exact vp_in_nI (by omega) (by omega)
  refine ⟨m2.1, A 7, r1, r2, i7, fun h6 e6 => ?_⟩
  rw [nI_clamp (by omega)] at e6
  subst e6
  refine ⟨m2.1, A 8, u1, u2, i8, fun h10 e10 => ?_⟩
  rw [nI_clamp (by omega)] at e10
  subst e10
  refine ⟨m2.1, A 5, v1, v2, i5, fun h14 e14 => ⟨q + 2, ?_⟩⟩
  rw [nI_clamp (by omega)] at e14
  subst e14
  exact MI.ask_246 hr ht1 ht hp (q + 1) _ (m.enter ht1 ht hs hw hpp sm ei)
theorem MI.ask_158 {g : Gm} {Y : Nat → Prop} {h0 h : Hp} {a n r q t s : Nat} {v x4 : Int32} {A : Nat → Nat} {post : Int32 → Hp → Prop} (m : MI Y h0 h a A n r q) (hr : r ≤ 2000) (ht1 : 1 ≤ t) (ht : t ≤ 30) (hs : s < 50) (hw : hI h (A 7) t = -1)
    (hp : ∀ (x : Int32) (h' : Hp), MI Y h0 h' a A n r 30 → post x h') : wp_M_ask_158 g post h a (nI t) (nI s) v x4 := by
  have m6 := m.2.2.2.2.2.1
  have hc := cn_le m6.1 hs
  obtain ⟨r1, r2, r3⟩ := m.2.1.row 16 21 50 (by decide)
  obtain ⟨u1, u2, u3⟩ := m.2.1.row 9 21 1550 (by decide)
  obtain ⟨v1, v2, v3⟩ := m.2.1.row 15 21 1550 (by decide)
  have i16 : vp_in (nI s) (hN h (A 16)) := by rw [r3]; exact vp_in_nI (by omega) (by omega)
  have loop : ∀ d p : Nat, p + d = cn (hI h (A 7)) s → wp_M_ask_175 g post (d + 1) h a (nI t) (nI s) v (nI p) := by
    intro d
    induction d with
    | zero =>
      intro p e
      unfold wp_M_ask_175
      refine ⟨m.2.1.1, A 16, r1, r2, i16, fun _ => m.ask_217 hr ht1 ht hs hw (by omega) hp, fun c => ?_⟩
      rw [nI_clamp (by omega), m6.2.1 s hs] at c
      exact absurd (nI_le (by omega) (by omega)) c
    | succ d ih =>
      intro p e
      obtain ⟨t', t1, t2, t3, t4⟩ := m6.2.2.1 s p hs (by omega)
      unfold wp_M_ask_175
      refine ⟨m.2.1.1, A 16, r1, r2, i16, fun _ => m.ask_217 hr ht1 ht hs hw (by omega) hp, fun _ => ⟨m.2.1.1, A 9, u1, m.2.1.1, A 15, v1, fun x9 e9 x10 e10 => ?_⟩⟩
      rw [nI_31] at e9
      rw [e9, nI_add] at e10
      subst e10
      refine ⟨v2, by rw [v3]; exact vp_in_nI (by omega) (by omega), ?_⟩
      rw [nI_clamp (n := 31 * s + p) (by omega), t3]
      refine M_of ⟨u2, by rw [u3]; exact vp_in_nI (by omega) (by omega), fun _ => m.ask_217 hr ht1 ht hs hw (by omega) hp, fun _ x17 e17 => ?_⟩
      rw [nI_1] at e17
      subst e17
      exact ih (p + 1) (by omega)
  unfold wp_M_ask_158
  refine ⟨m.2.1.1, A 16, r1, r2, i16, fun _ => ?_, fun _ => ⟨cn (hI h (A 7)) s + 1, loop _ 0 (by omega)⟩⟩
  rw [nI_clamp (n := s) (by omega), m6.2.1 s hs]
  exact m.ask_217 hr ht1 ht hs hw (Nat.le_refl _) hp
theorem MI.ask_120 {g : Gm} {Y : Nat → Prop} {h0 h : Hp} {a n r q t s : Nat} {v x4 : Int32} {A : Nat → Nat} {post : Int32 → Hp → Prop} (m : MI Y h0 h a A n r q) (hr : r ≤ 2000) (ht1 : 1 ≤ t) (ht : t ≤ 30) (hs : s < 50) (hw : hI h (A 7) t = -1)
    (hp : ∀ (x : Int32) (h' : Hp), MI Y h0 h' a A n r 30 → post x h') : wp_M_ask_120 g post h a (nI t) (nI s) v x4 := by
  obtain ⟨r1, r2, r3⟩ := m.2.1.row 16 21 50 (by decide)
  obtain ⟨u1, u2, u3⟩ := m.2.1.row 9 21 1550 (by decide)
  have q158 : wp_M_ask_158 g post h a (nI t) (nI s) v x4 := m.ask_158 hr ht1 ht hs hw hp
  have q145 : wp_M_ask_145 g post h a (nI t) (nI s) v := by
    unfold wp_M_ask_145
    refine ⟨m.2.1.1, A 9, u1, M_of ⟨u2, by rw [u3]; exact vp_in_nI (by omega) (by omega), fun h7 e7 => hp _ _ ?_⟩⟩
    rw [e7]
    exact (m.wI (k := 9) (kd := 21) (len := 1550) (by decide) (by decide)).top
  unfold wp_M_ask_120
  exact ⟨m.2.1.1, M_isFree m.2.1 m.2.2.2.1 m.2.2.2.2.1 ht hs ⟨fun _ => q158, fun _ => ⟨fun _ => q145, fun _ => ⟨m.2.1.1, A 16, r1, r2, by rw [r3]; exact vp_in_nI (by omega) (by omega), fun _ => q158, fun _ => q145⟩⟩⟩⟩
theorem MI.ask {g : Gm} {Y : Nat → Prop} {h0 h : Hp} {a n r q : Nat} {i1 i2 i3 : Int32} {A : Nat → Nat} {post : Int32 → Hp → Prop} (m : MI Y h0 h a A n r q) (hr : r ≤ 2000)
    (hp : ∀ (x : Int32) (h' : Hp), MI Y h0 h' a A n r 30 → post x h') : wp_M_ask g post h a i1 i2 i3 := by
  unfold wp_M_ask
  refine ⟨m.2.1.1, fun h2 e2 => ?_⟩
  have m2 : MI Y h0 h2 a A n r q := by rw [e2]; exact m.wF (by decide)
  refine ⟨m2.2.1.1, m2.isTask (fun t et t1 t2 => ⟨fun _ => ?_, fun c => absurd c (by decide)⟩) ⟨fun c => absurd rfl c, fun _ => hp _ _ m2.top⟩⟩
  subst et
  refine M_isSegment (fun s es s1 => ⟨fun c => absurd c (by decide), fun _ => ⟨fun _ => hp _ _ m2.top, fun _ => ⟨fun _ => ?_, fun _ => hp _ _ m2.top⟩⟩⟩) (fun _ => ⟨fun _ => hp _ _ m2.top, fun c => absurd rfl c⟩)
  subst es
  obtain ⟨r1, r2, r3⟩ := m2.2.1.row 5 21 31 (by decide)
  obtain ⟨u1, u2, u3⟩ := m2.2.1.row 9 21 1550 (by decide)
  obtain ⟨v1, v2, v3⟩ := m2.2.1.row 11 23 1550 (by decide)
  refine ⟨m2.2.1.1, A 5, r1, r2, by rw [r3]; exact vp_in_nI (by omega) (by omega), fun c0 => ⟨fun _ => ?_, fun _ => ?_⟩, fun _ => hp _ _ m2.top⟩
  · rw [nI_clamp (by omega)] at c0
    have hw : hI h2 (A 7) t = -1 := by
      by_cases c : hI h2 (A 7) t = -1
      · exact c
      · exact absurd c0 (m2.2.2.2.2.2.2.2.1 t t2 c)
    refine ⟨m2.2.1.1, A 9, u1, M_of ⟨u2, by rw [u3]; exact vp_in_nI (by omega) (by omega), fun _ => ⟨fun _ => m2.ask_120 hr t1 t2 s1 hw hp, fun _ => ⟨m2.2.1.1, fun _ => m2.ask_120 hr t1 t2 s1 hw hp, fun _ => ⟨m2.2.1.1, M_locksOf m2.2.1 t2 ⟨m2.2.1.1, fun _ => m2.ask_120 hr t1 t2 s1 hw hp, fun _ => ⟨m2.2.1.1, m2.clear hr t2 fun x h' q' _ _ m' => hp _ _ m'.top⟩⟩⟩⟩⟩, fun _ => hp _ _ m2.top⟩⟩
  · refine ⟨m2.2.1.1, A 11, v1, M_of ⟨v2, by rw [v3]; exact vp_in_nI (by omega) (by omega), Or.inr rfl, fun h42 e42 => hp _ _ ?_⟩⟩
    rw [e42]
    exact (m2.wI (k := 11) (kd := 23) (len := 1550) (by decide) (by decide)).top
