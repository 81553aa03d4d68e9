/-! PURE: the law of limit (p11) -/
/-- the reference behind a call of the class -/
theorem MI.un {Y : Nat → Prop} {h0 h h' : Hp} {a n r q : Nat} {A : Nat → Nat} (m : MI Y h0 h a A n r q) (u : Un Y h h') : MI Y h' h' a A n r q := by
  obtain ⟨m1, m2, m3, m4, m5, m6, m7, m8, ⟨z, z1, z2, z3⟩, ⟨y, y1, y2⟩⟩ := m
  obtain ⟨a1, a2, a3, a4⟩ := u a m3.1
  have e : ∀ t ∈ MA, hI h' (A t.1) = hI h (A t.1) := fun t ht => (u _ (m3.2 t ht)).2.2.1
  have e7 := e (7, 21, 31) (by decide)
  have e5 := e (5, 21, 31) (by decide)
  have e15 := e (15, 21, 1550) (by decide)
  have e16 := e (16, 21, 50) (by decide)
  have e18 := e (18, 21, 2000) (by decide)
  refine ⟨Lt.rf h', ⟨a1.trans m2.1, fun t ht => ?_, m2.2.2⟩, m3, by rw [a3]; exact m4, m5, ?_, ?_, ?_, ⟨z, z1, by rw [a3]; exact z2, ?_⟩, ⟨y, y1, by rw [a3]; exact y2.1, rfl⟩⟩
  · obtain ⟨c1, c2, c3⟩ := m2.2.1 t ht
    obtain ⟨u1, u2, -, -⟩ := u _ (m3.2 t ht)
    exact ⟨by rw [a4]; exact c1, u1.trans c2, u2.trans c3⟩
  · rw [e7, e15, e16]; exact m6
  · rw [e7]; exact m7
  · rw [e7, e5]; exact m8
  · rw [e18]; exact z3
/-- the class behind a call of the reference -/
theorem CI.lt {g : Gm} {Y P : Nat → Prop} {h0 h h' : Hp} {x : Nat} {D E C : Nat → Nat} {L : Nat → List Nat} (c : CI g Y P h0 h x D E C L) (t : Lt Y h h') : CI g Y P h' h' x D E C L := by
  obtain ⟨t1, t2, t3, t4⟩ := t
  have s := c.sk
  refine ⟨fun b _ => ⟨rfl, rfl, rfl, rfl⟩, by rw [t1]; exact c.yk, ⟨by rw [t1]; exact s.kx, s.yx, s.x1, by rw [t3]; exact s.f0, by rw [t3]; exact s.f1, by rw [t3]; exact s.f2, by rw [t3]; exact s.f3, by rw [t1]; exact s.k5, by rw [t3]; exact s.w0, by rw [t1]; exact s.k6, by rw [t3]; exact s.r0, by rw [t3]; exact s.r1, by rw [t3]; exact s.r2, by rw [t3]; exact s.r3, by rw [t3]; exact s.r4, by rw [t1, t2]; exact s.k4, by rw [t1, t2]; exact s.k7, by rw [t1, t2]; exact s.k8, by rw [t1, t2]; exact s.k9, s.dy, s.d89⟩, fun u hu => ?_, by rw [t4 x s.yx]; exact c.zb, fun i hi => ?_, c.ey, c.dd, c.lp, c.cp, c.h01, rfl⟩
  · have k := c.tk u hu
    unfold Tk at k ⊢
    rw [t1, t2, t3]; exact k
  · have l := c.ls i hi
    unfold Ls at l ⊢
    rw [t1, t2, t3, t4 (D i) (s.dy i (by omega)).1]; exact l
theorem CI.rb {g : Gm} {Y P : Nat → Prop} {h0 h : Hp} {x : Nat} {D E C : Nat → Nat} {L : Nat → List Nat} (c : CI g Y P h0 h x D E C L) : CI g Y P h h x D E C L := c.lt (Lt.rf h)
theorem MI.rb {Y : Nat → Prop} {h0 h : Hp} {a n r q : Nat} {A : Nat → Nat} (m : MI Y h0 h a A n r q) : MI Y h h a A n r q := by
  obtain ⟨m1, m2, m3, m4, m5, m6, m7, m8, m9, ⟨y, y1, y2, y3⟩⟩ := m
  exact ⟨Lt.rf h, m2, m3, m4, m5, m6, m7, m8, m9, ⟨y, y1, y2, rfl⟩⟩
theorem MI.lm {Y : Nat → Prop} {h0 h : Hp} {a n r q : Nat} {A : Nat → Nat} (m : MI Y h0 h a A n r q) : hI h a 3 = hI h0 a 3 := by
  obtain ⟨y, y1, y2, y3⟩ := m.2.2.2.2.2.2.2.2.2
  exact y3
/-- class and reference side by side: n tasks, at most k that wait, at most k reads, the same limit -/
def Bo (g : Gm) (Y P : Nat → Prop) (h : Hp) (x m o : Nat) (D A : Nat → Nat) (n k : Nat) : Prop := ∃ (E C : Nat → Nat) (L : Nat → List Nat), CI g Y P h h x D E C L ∧ MI Y h h m A n k 30 ∧ (L 0).length = n ∧ (L 1).length ≤ k ∧ Y o ∧ hK h o = 22 ∧ hN h o = 1 ∧ hI h x 4 = hI h m 3
/-- both have made their call -/
theorem Bo.after {g : Gm} {Y P' : Nat → Prop} {hc hm h1 h2 : Hp} {x m o n' k : Nat} {D A E' C' : Nat → Nat} {L' : Nat → List Nat} (ho : Y o) (ko : hK h1 o = 22) (no : hN h1 o = 1) (c1 : CI g Y P' hc h1 x D E' C' L') (t : Lt Y h1 h2) (m2 : MI Y hm h2 m A n' (k + 1) 30) (l0 : (L' 0).length = n') (l1 : (L' 1).length ≤ k + 1) (e : hI h1 x 4 = hI h2 m 3) : Bo g Y P' h2 x m o D A n' (k + 1) := by
  refine ⟨E', C', L', c1.lt t, m2.rb, l0, l1, ho, ?_, ?_, ?_⟩
  · rw [t.1]; exact ko
  · rw [t.2.1]; exact no
  · rw [t.2.2.2 x c1.sk.yx]; exact e
/-- the places that one call may cost -/
def sM : Nat := 6000
def sB (d : Nat) : Nat := sM * d
theorem sB_s (d : Nat) : sB (d + 1) = sB d + sM := Nat.mul_succ sM d
theorem law_loop {g : Gm} {Ln : Nat} {xs : Nat → Int32} {Y : Nat → Prop} {x m o mc ms : Nat} {D A : Nat → Nat} (hL : Ln ≤ 2560) : ∀ (d i : Nat) (h : Hp) (P : Nat → Prop) (kc ks n k : Nat), Ln < i + 5 * d + 5 → i ≤ 2565 → k + d = 512 → kc + 250 * d ≤ mc → ks + sB d ≤ ms → Bo g Y P h x m o D A n k → wp_L_law_23 g Ln xs mc ms (d + 1) h kc ks x m o (nI i) := by
  have h5 : (5 : Int32) = nI 5 := rfl
  have small : ∀ i : Nat, i ≤ 2565 → Ln < i + 5 → ∀ x1 : Int32, x1 = nI Ln - 5 → x1 < nI i := fun i hi hlt x1 e1 => by
    rcases Nat.lt_or_ge Ln 5 with q | q
    · have h0 : x1 < nI 0 := by
        have : Ln = 0 ∨ Ln = 1 ∨ Ln = 2 ∨ Ln = 3 ∨ Ln = 4 := by omega
        rcases this with z | z | z | z | z <;> rw [z] at e1 <;> rw [e1] <;> decide
      rcases Nat.eq_zero_or_pos i with z | z
      · rw [z]; exact h0
      · exact Int32.lt_trans h0 (nI_lt z (by omega))
    · rw [h5, pk_sub q] at e1
      rw [e1]
      exact nI_lt (by omega) (by omega)
  intro d
  induction d with
  | zero =>
    intro i h P kc ks n k e hi hk k1 k2 b
    unfold wp_L_law_23
    exact fun x1 e1 => ⟨fun _ => rfl, fun z => absurd (small i hi (by omega) x1 e1) z⟩
  | succ d ih =>
    intro i h P kc ks n k e hi hk k1 k2 b
    rw [sB_s] at k2
    have kS : ∀ y : Nat, y ≤ sM → ks + y ≤ ms := fun y hy => by omega
    have s0 : ks ≤ ks + sM := by omega
    have sl : ∀ y : Nat, y ≤ sM → ks + y ≤ ks + sM := fun y hy => by omega
    unfold wp_L_law_23
    intro x1 e1
    refine ⟨fun _ => rfl, fun z => ?_⟩
    have hil : i + 5 ≤ Ln := by
      rcases Nat.lt_or_ge Ln (i + 5) with q | q
      · exact absurd (small i hi q x1 e1) z
      · exact q
    obtain ⟨E, C, L, c, mi, l0, l1, ho, ko, no, el⟩ := b
    have kx := c.sk.kx
    have ym : Y m := mi.2.2.1.1
    have km := mi.2.1.1
    have hn : n ≤ 30 := mi.2.2.2.2.1
    have mi1 : ∀ h1 : Hp, Un Y h h1 → MI Y h1 h1 m A n (k + 1) 30 := fun h1 u => (mi.un u).monoR (Nat.le_succ k)
    have nx : ∀ (P' : Nat → Prop) (h' : Hp) (n' kc' ks' : Nat), kc' ≤ kc + 250 → ks' ≤ ks + sM → Bo g Y P' h' x m o D A n' (k + 1) → wp_L_law_556 g Ln xs mc ms (fun h kc ks v1 v2 v3 v4 => wp_L_law_23 g Ln xs mc ms (d + 1) h kc ks v1 v2 v3 v4) h' kc' ks' x m o (nI i) := fun P' h' n' kc' ks' q1 q2 b' => by
      unfold wp_L_law_556
      intro x1 e1
      rw [h5, nI_add] at e1
      subst e1
      exact ih (i + 5) h' P' kc' ks' n' (k + 1) (by omega) (by omega) (by omega) (by omega) (by omega) b'
    have fin : ∀ (h1 h2 : Hp) (E' C' : Nat → Nat) (L' : Nat → List Nat) (kc' ks' : Nat), kc' ≤ kc + 250 → ks' ≤ ks + sM → Lz L L' 1 → CI g Y P h h1 x D E' C' L' → MI Y h1 h2 m A n (k + 1) 30 → wp_L_law_556 g Ln xs mc ms (fun h kc ks v1 v2 v3 v4 => wp_L_law_23 g Ln xs mc ms (d + 1) h kc ks v1 v2 v3 v4) h2 kc' ks' x m o (nI i) := fun h1 h2 E' C' L' kc' ks' q1 q2 z c' m' =>
      nx P h2 n kc' ks' q1 q2 (Bo.after ho ((c'.un o ho).1.trans ko) ((c'.un o ho).2.1.trans no) c' m'.1 m' (by rw [z.1]; exact l0) (by have := z.2; omega) (by rw [c'.lm, m'.lm, (c'.un m ym).2.2.1]; exact el))
    have z01 : ∀ {L' : Nat → List Nat}, Lz L L' 0 → Lz L L' 1 := fun z => ⟨z.1, by have := z.2; omega⟩
    have v0 : vp_in (nI i) Ln := vp_in_nI (by omega) (by omega)
    have a1 : ∀ y : Int32, y = nI i + 1 → vp_in y Ln := fun y ey => by rw [ey, nI_1]; exact vp_in_nI (by omega) (by omega)
    have a2 : ∀ y : Int32, y = nI i + 2 → vp_in y Ln := fun y ey => by rw [ey, show (2 : Int32) = nI 2 from rfl, nI_add]; exact vp_in_nI (by omega) (by omega)
    have a3 : ∀ y : Int32, y = nI i + 3 → vp_in y Ln := fun y ey => by rw [ey, show (3 : Int32) = nI 3 from rfl, nI_add]; exact vp_in_nI (by omega) (by omega)
    have a4 : ∀ y : Int32, y = nI i + 4 → vp_in y Ln := fun y ey => by rw [ey, show (4 : Int32) = nI 4 from rfl, nI_add]; exact vp_in_nI (by omega) (by omega)
    have cs : CI g Y P h h x D E C L := c
    refine ⟨v0, fun x4 _ x5 _ => ⟨fun _ => ?_, fun _ x6 ex6 => ⟨a1 _ ex6, fun x8 ex8 => ⟨kx, 8, 348, by omega, kS _ (by decide), ?_⟩⟩, fun _ x21 ex21 => ⟨a1 _ ex21, fun x23 _ x24 ex24 => ⟨a2 _ ex24, fun x26 _ x27 ex27 => ⟨a3 _ ex27, fun x29 _ => ⟨kx, 241, 5349, by omega, kS _ (by decide), ?_⟩⟩⟩⟩, fun _ x47 ex47 => ⟨a1 _ ex47, fun x49 _ x50 ex50 => ⟨a2 _ ex50, fun x52 _ x53 ex53 => ⟨a3 _ ex53, fun x55 _ j56 _ j57 _ x58 ex58 => ⟨a4 _ ex58, fun x60 _ j61 _ j62 _ j63 _ => ⟨kx, ?_⟩⟩⟩⟩⟩, fun _ x87 ex87 => ⟨a1 _ ex87, fun x89 _ x90 ex90 => ⟨a2 _ ex90, fun x92 _ => ⟨1, 6, by omega, kS _ (by decide), ?_⟩⟩⟩, fun _ x107 ex107 => ⟨a1 _ ex107, fun x109 _ => ⟨kx, ?_⟩⟩, fun _ x119 ex119 => ⟨a1 _ ex119, fun x121 _ => ⟨kx, ?_⟩⟩, fun _ x131 ex131 => ⟨a1 _ ex131, fun x133 _ => ⟨kx, ?_⟩⟩, fun _ x143 ex143 => ⟨a1 _ ex143, fun x145 _ => ⟨kx, ?_⟩⟩, fun _ x155 ex155 => ⟨a1 _ ex155, fun x157 _ => ⟨kx, ?_⟩⟩, fun _ x167 ex167 => ⟨a1 _ ex167, fun x169 ex169 => ⟨kx, ?_⟩⟩, fun _ x179 ex179 => ⟨a1 _ ex179, fun x181 _ => ⟨kx, ?_⟩⟩, fun _ => ⟨kx, ?_⟩, fun _ x197 ex197 => ⟨a1 _ ex197, fun x199 _ => ⟨1, 6, by omega, kS _ (by decide), ?_⟩⟩, fun _ x211 ex211 => ⟨a1 _ ex211, fun x213 _ x214 ex214 => ⟨a2 _ ex214, fun x216 _ => ⟨kx, ?_⟩⟩⟩⟩⟩
    · exact nx P h n kc ks (by omega) s0 ⟨E, C, L, c, mi.monoR (Nat.le_succ k), l0, by omega, ho, ko, no, el⟩
    · -- task
      refine S_task c (by omega) (Nat.le_refl _) (Nat.le_refl _) (fun e30 x14 ex14 => ⟨a1 _ ex14, fun x16 ex16 => ⟨km, mi.task (fun h2 hlt m2 => ?_) (fun h2 h30 m2 => ?_)⟩⟩) (fun P' h1 E' C' L' hlt e0 e1 c1 x14 ex14 => ⟨a1 _ ex14, fun x16 ex16 => ⟨(mi1 h1 c1.un).2.1.1, (mi1 h1 c1.un).task (fun h2 hlt2 m2 => ?_) (fun h2 h30 m2 => ?_)⟩⟩)
      · omega
      · exact fin h h2 E C L _ _ (by omega) (sl _ (by decide)) ⟨rfl, by omega⟩ c (m2.monoR (Nat.le_succ k))
      · exact nx P' h2 (n + 1) _ _ (by omega) (sl _ (by decide)) (Bo.after ho ((c1.un o ho).1.trans ko) ((c1.un o ho).2.1.trans no) c1 m2.1 m2 (by omega) (by rw [e1]; omega) (by rw [c1.lm, m2.lm, (c1.un m ym).2.2.1]; exact el))
      · omega
    · exact S_ask c (by omega) (by omega) (Nat.le_refl _) (Nat.le_refl _) fun y h1 E' C' L' z c1 x35 ex35 => ⟨a1 _ ex35, fun x37 _ x38 ex38 => ⟨a2 _ ex38, fun x40 _ x41 ex41 => ⟨a3 _ ex41, fun x43 _ => ⟨(mi1 h1 c1.un).2.1.1, (mi1 h1 c1.un).ask (by omega) fun y h2 m2 => fin h1 h2 E' C' L' _ _ (by omega) (sl _ (by decide)) z c1 m2⟩⟩⟩⟩
    · exact S_write c fun y h1 c1 x67 ex67 => ⟨a1 _ ex67, fun x69 _ x70 ex70 => ⟨a2 _ ex70, fun x72 _ x73 ex73 => ⟨a3 _ ex73, fun x75 _ j76 _ j77 _ x78 ex78 => ⟨a4 _ ex78, fun x80 _ j81 _ j82 _ j83 _ => ⟨(mi1 h1 c1.un).2.1.1, (mi1 h1 c1.un).write fun y h2 m2 => fin h1 h2 E C L _ _ (by omega) s0 ⟨rfl, by omega⟩ c1 m2⟩⟩⟩⟩⟩
    · exact L_read c ho ko no (Nat.le_refl _) (Nat.le_refl _) fun y h1 c1 x98 ex98 => ⟨a1 _ ex98, fun x100 _ x101 ex101 => ⟨a2 _ ex101, fun x103 _ => ⟨(mi1 h1 c1.un).2.1.1, (mi.un c1.un).read (by omega) fun y h2 m2 => fin h1 h2 E C L _ _ (by omega) (sl _ (by decide)) ⟨rfl, by omega⟩ c1 m2⟩⟩⟩
    · exact S_sync c fun y h1 L' z c1 x113 ex113 => ⟨a1 _ ex113, fun x115 _ => ⟨(mi1 h1 c1.un).2.1.1, (mi1 h1 c1.un).sync (by omega) fun y h2 m2 => fin h1 h2 E C L' _ _ (by omega) s0 (z01 z) c1 m2⟩⟩
    · exact S_backout c fun y h1 L' z c1 x113 ex113 => ⟨a1 _ ex113, fun x115 _ => ⟨(mi1 h1 c1.un).2.1.1, (mi1 h1 c1.un).backout (by omega) fun y h2 m2 => fin h1 h2 E C L' _ _ (by omega) s0 (z01 z) c1 m2⟩⟩
    · exact S_ring c fun y x113 ex113 => ⟨a1 _ ex113, fun x115 _ => ⟨km, (mi1 h c.un).ring fun y h2 m2 => fin h h2 E C L _ _ (by omega) s0 ⟨rfl, by omega⟩ c m2⟩⟩
    · exact S_checkpoint c fun y h1 L' z c1 x113 ex113 => ⟨a1 _ ex113, fun x115 _ => ⟨(mi1 h1 c1.un).2.1.1, (mi1 h1 c1.un).checkpoint (by omega) fun y h2 m2 => fin h1 h2 E C L' _ _ (by omega) s0 (z01 z) c1 m2⟩⟩
    · exact S_dead c fun y h1 L' z c1 x113 ex113 => ⟨a1 _ ex113, fun x115 _ => ⟨(mi1 h1 c1.un).2.1.1, (mi1 h1 c1.un).dead (by omega) fun y h2 m2 => fin h1 h2 E C L' _ _ (by omega) s0 (z01 z) c1 m2⟩⟩
    · -- limit
      refine S_limit c (fun h1 z c1 x113 ex113 => ⟨a1 _ ex113, fun x115 ex115 => ?_⟩) (fun z x113 ex113 => ⟨a1 _ ex113, fun x115 ex115 => ⟨km, ?_⟩⟩)
      · have u1 : Un Y h h1 := fun b hb => by
          obtain ⟨u1, u2, u3, u4⟩ := c1.un b hb
          have ne : b ≠ x := fun z => c.sk.yx (z ▸ hb)
          exact ⟨u1, u2, by rw [u3, sI_o ne], u4⟩
        have em : hI h1 m = hI h m := (u1 m ym).2.2.1
        have ex : x115 = x169 := by rw [ex115, ex113, ex169, ex167]
        subst ex
        refine ⟨(mi1 h1 u1).2.1.1, (mi1 h1 u1).limit (fun h2 z2 m2 => ?_) (fun h2 z2 m2 => absurd z z2)⟩
        have t : Lt Y h1 h2 := ⟨m2.1.1, m2.1.2.1, m2.1.2.2.1, fun b hb => by
          have ne : b ≠ m := fun z => hb (z ▸ ym)
          rw [m2.1.2.2.2 b hb, sI_o ne]⟩
        refine ⟨fun _ => ?_, fun q => absurd (by rw [em]; exact el) q⟩
        exact nx P h2 n kc ks (by omega) s0 (Bo.after ho ((u1 o ho).1.trans ko) ((u1 o ho).2.1.trans no) c1 t m2 l0 (by omega) (by rw [c1.lm, m2.lm, rI_sI, if_pos ⟨rfl, rfl⟩, rI_sI, if_pos ⟨rfl, rfl⟩]))
      · have ex : x115 = x169 := by rw [ex115, ex113, ex169, ex167]
        subst ex
        exact (mi1 h c.un).limit (fun h2 z2 m2 => absurd z2 z) fun h2 z2 m2 => ⟨fun _ => fin h h2 E C L _ _ (by omega) s0 ⟨rfl, by omega⟩ c m2, fun q => absurd rfl q⟩
    · exact S_holder c fun y x113 ex113 => ⟨a1 _ ex113, fun x115 _ => ⟨km, (mi1 h c.un).holder fun y h2 m2 => fin h h2 E C L _ _ (by omega) s0 ⟨rfl, by omega⟩ c m2⟩⟩
    · exact S_serial c fun y => ⟨km, (mi1 h c.un).serial fun y h2 m2 => fin h h2 E C L _ _ (by omega) s0 ⟨rfl, by omega⟩ c m2⟩
    · exact L_value c ho ko no (Nat.le_refl _) (Nat.le_refl _) fun y h1 c1 x98 ex98 => ⟨a1 _ ex98, fun x100 _ => ⟨(mi1 h1 c1.un).2.1.1, (mi1 h1 c1.un).value fun y h2 m2 => fin h1 h2 E C L _ _ (by omega) (sl _ (by decide)) ⟨rfl, by omega⟩ c1 m2⟩⟩
    · exact S_state c fun y x113 ex113 => ⟨a1 _ ex113, fun x115 _ x116 ex116 => ⟨a2 _ ex116, fun x117 _ => ⟨km, (mi1 h c.un).state fun y h2 m2 => fin h h2 E C L _ _ (by omega) s0 ⟨rfl, by omega⟩ c m2⟩⟩⟩
