/-! PURE: a new reference -/
theorem FrwI {S : Nat → Prop} {hb h : Hp} {c i : Nat} {v : Int32} (f : Fr S hb h) (hc : hK hb c = 0) : Fr S hb (sI h c i v) := fun b hb' => by
  obtain ⟨f1, f2, f3⟩ := f b hb'
  refine ⟨f1, f2, fun hs => ⟨?_, (f3 hs).2.1, (f3 hs).2.2⟩⟩
  rw [sI_o (fun z => hb' (by rw [z]; exact hc))]
  exact (f3 hs).1
/-- the reference at a with the arrays of T made, all of them new since hb -/
def Mb (g : Gm) (hb h : Hp) (a : Nat) (T : List (Nat × Nat × Nat)) (A : Nat → Nat) : Prop := hK h a = 5 ∧ (∀ j : Nat, hI h a j = 0) ∧ Fr (fun b => b = a) hb h ∧ (∀ t ∈ T, hR h a t.1 = some (A t.1) ∧ hK h (A t.1) = t.2.1 ∧ hN h (A t.1) = t.2.2 ∧ t.2.1 ≠ 0 ∧ hK hb (A t.1) = 0 ∧ (∀ j : Nat, hI h (A t.1) j = 0 ∧ hJ h (A t.1) j = 0) ∧ g.2.2 0 ≤ A t.1) ∧ (∀ t ∈ T, ∀ t' ∈ T, t.1 ≠ t'.1 → A t.1 ≠ A t'.1)
theorem Mb.step {g : Gm} {hb h : Hp} {a k kd n q : Nat} {T : List (Nat × Nat × Nat)} (b : ∃ A : Nat → Nat, Mb g hb h a T A) (hba : hK hb a ≠ 0) (hk : ∀ t ∈ T, t.1 ≠ k) (hkd : kd ≠ 0) (hq : hK h q = 0) (gq : g.2.2 0 ≤ q) : ∃ A : Nat → Nat, Mb g hb (sR (mkC h q kd n) a k (some q)) a ((k, kd, n) :: T) A := by
  obtain ⟨A, b1, b2, b3, b4, b5⟩ := b
  have hqa : a ≠ q := fun z => by rw [← z, b1] at hq; exact absurd hq (by decide)
  have hqb : hK hb q = 0 := by
    by_cases z : hK hb q = 0
    · exact z
    · rw [(b3 q z).1] at hq; exact absurd hq z
  refine ⟨fun j => if j = k then q else A j, by rw [kK_sR, mK_mk, if_neg hqa]; exact b1, fun j => by rw [kI_sR, mI_mk, if_neg hqa]; exact b2 j, (b3.trans (Fr.mk hq)).trans (Fr.sR rfl), fun t ht => ?_, fun t ht t' ht' d => ?_⟩
  · rcases List.mem_cons.mp ht with e | e
    · subst e
      show _ = some (if k = k then q else A k) ∧ hK _ (if k = k then q else A k) = _ ∧ hN _ (if k = k then q else A k) = _ ∧ _ ∧ hK hb (if k = k then q else A k) = 0 ∧ (∀ j, hI _ (if k = k then q else A k) j = 0 ∧ hJ _ (if k = k then q else A k) j = 0) ∧ g.2.2 0 ≤ (if k = k then q else A k)
      rw [if_pos rfl]
      exact ⟨by rw [rR_sR, if_pos ⟨rfl, rfl⟩], by rw [kK_sR, mK_mk, if_pos rfl], by rw [kN_sR, mN_mk, if_pos rfl], hkd, hqb, fun j => ⟨by rw [kI_sR, mI_mk, if_pos rfl], by rw [kJ_sR, mJ_mk, if_pos rfl]⟩, gq⟩
    · obtain ⟨c1, c2, c3, c4, c5, c6, c7⟩ := b4 t e
      have hne : A t.1 ≠ q := fun z => by rw [z, hq] at c2; exact c4 c2.symm
      show _ = some (if t.1 = k then q else A t.1) ∧ hK _ (if t.1 = k then q else A t.1) = _ ∧ hN _ (if t.1 = k then q else A t.1) = _ ∧ _ ∧ hK hb (if t.1 = k then q else A t.1) = 0 ∧ (∀ j, hI _ (if t.1 = k then q else A t.1) j = 0 ∧ hJ _ (if t.1 = k then q else A t.1) j = 0) ∧ g.2.2 0 ≤ (if t.1 = k then q else A t.1)
      rw [if_neg (hk t e)]
      exact ⟨by rw [rR_sR, if_neg (fun z => hk t e z.2), mR_mk, if_neg hqa]; exact c1, by rw [kK_sR, mK_mk, if_neg hne]; exact c2, by rw [kN_sR, mN_mk, if_neg hne]; exact c3, c4, c5, (fun j => ⟨by rw [kI_sR, mI_mk, if_neg hne]; exact (c6 j).1, by rw [kJ_sR, mJ_mk, if_neg hne]; exact (c6 j).2⟩), c7⟩
  · have fr : ∀ u ∈ T, A u.1 ≠ q := fun u hu z => by
      obtain ⟨-, c2, -, c4, -⟩ := b4 u hu
      rw [z, hq] at c2; exact c4 c2.symm
    show (if t.1 = k then q else A t.1) ≠ (if t'.1 = k then q else A t'.1)
    rcases List.mem_cons.mp ht with e | e <;> rcases List.mem_cons.mp ht' with e' | e'
    · subst e e'; exact absurd rfl d
    · subst e
      rw [if_pos rfl, if_neg (hk t' e')]
      exact fun z => fr t' e' z.symm
    · subst e'
      rw [if_pos rfl, if_neg (hk t e)]
      exact fr t e
    · rw [if_neg (hk t e), if_neg (hk t' e')]
      exact b5 t e t' e' d

theorem M_init {g : Gm} {hb : Hp} {a mc ms : Nat} {post : Hp → Prop} (ha : hK hb a = 5) (hz : ∀ j : Nat, hI hb a j = 0) (hmc : 20 ≤ mc) (hms : 15679 ≤ ms)
    (hp : ∀ (h : Hp) (A : Nat → Nat), Mst h a A → Fr (fun b => b = a) hb h → (∀ t ∈ MA, hK hb (A t.1) = 0 ∧ g.2.2 0 ≤ A t.1) → (∀ j : Nat, hI h a j = 0) → (∀ t ∈ MA, t.1 ≠ 7 → t.1 ≠ 9 → ∀ j : Nat, hI h (A t.1) j = 0) → (∀ t ∈ MA, ∀ j : Nat, hJ h (A t.1) j = 0) → (∀ j : Nat, j < 1550 → hI h (A 9) j = -1) → (∀ j : Nat, j < 31 → hI h (A 7) j = -1) → post h) : wp_M_init g post mc ms hb a := by
  have hba : hK hb a ≠ 0 := by rw [ha]; decide
  have lp2 : ∀ (A : Nat → Nat) (kc ks d j : Nat) (h : Hp), j + d = 31 → Mst h a A → Fr (fun b => b = a) hb h → (∀ t ∈ MA, hK hb (A t.1) = 0 ∧ g.2.2 0 ≤ A t.1) → (∀ j : Nat, hI h a j = 0) → (∀ t ∈ MA, t.1 ≠ 7 → t.1 ≠ 9 → ∀ j : Nat, hI h (A t.1) j = 0) → (∀ t ∈ MA, ∀ j : Nat, hJ h (A t.1) j = 0) → (∀ j : Nat, j < 1550 → hI h (A 9) j = -1) → (∀ i : Nat, i < j → hI h (A 7) i = -1) → wp_M_init_197 g post mc ms (d + 1) h kc ks a (nI j) := by
    intro A kc ks d
    induction d with
    | zero =>
      intro j h e m f n z1 z2 zj z9 z3
      have e : j = 31 := by omega
      subst e
      unfold wp_M_init_197
      exact ⟨fun _ => hp h A m f n z1 z2 zj z9 z3, fun c => absurd (by decide) c⟩
    | succ d ih =>
      intro j h e m f n z1 z2 zj z9 z3
      have h30 : (30 : Int32) = nI 30 := rfl
      obtain ⟨r1, r2, r3⟩ := m.row 7 21 31 (by decide)
      unfold wp_M_init_197
      refine ⟨fun c => ?_, fun _ => ⟨m.1, A 7, r1, r2, by rw [r3]; exact vp_in_nI (by omega) (by omega), fun h5 e5 x6 e6 => ?_⟩⟩
      · rw [h30] at c
        have := (nI_ltI (by omega) (by omega)).mp c
        omega
      · rw [nI_clamp (by omega)] at e5
        rw [nI_1] at e6
        subst e5 e6
        refine ih (j + 1) _ (by omega) m.sI (FrwI f (n (7, 21, 31) (by decide)).1) n ?_ (fun t ht h7 h9 => ?_) zj ?_ fun i hi => ?_
        · rw [sI_o (m.na 7 21 31 (by decide))]; exact z1
        · rw [sI_o (m.2.2 t ht (7, 21, 31) (by decide) h7)]; exact z2 t ht h7 h9
        · rw [sI_o (m.ne 9 7 21 1550 21 31 (by decide) (by decide) (by decide))]; exact z9
        · rw [rI_sI]
          by_cases c : i = j
          · rw [if_pos ⟨rfl, c⟩]
          · rw [if_neg (fun q => c q.2)]; exact z3 i (by omega)
  have lp1 : ∀ (A : Nat → Nat) (kc ks d j : Nat) (h : Hp), j + d = 1550 → Mst h a A → Fr (fun b => b = a) hb h → (∀ t ∈ MA, hK hb (A t.1) = 0 ∧ g.2.2 0 ≤ A t.1) → (∀ j : Nat, hI h a j = 0) → (∀ t ∈ MA, t.1 ≠ 7 → t.1 ≠ 9 → ∀ j : Nat, hI h (A t.1) j = 0) → (∀ t ∈ MA, ∀ j : Nat, hJ h (A t.1) j = 0) → (∀ i : Nat, i < j → hI h (A 9) i = -1) → wp_M_init_175 g post mc ms (d + 1) h kc ks a (nI j) := by
    intro A kc ks d
    induction d with
    | zero =>
      intro j h e m f n z1 z2 zj z9
      have e : j = 1550 := by omega
      subst e
      unfold wp_M_init_175
      exact ⟨fun _ => ⟨32, lp2 A kc ks 31 0 h rfl m f n z1 z2 zj z9 (fun i hi => absurd hi (Nat.not_lt_zero i))⟩, fun c => absurd (by decide) c⟩
    | succ d ih =>
      intro j h e m f n z1 z2 zj z9
      have h30 : (1550 : Int32) = nI 1550 := rfl
      obtain ⟨r1, r2, r3⟩ := m.row 9 21 1550 (by decide)
      unfold wp_M_init_175
      refine ⟨fun c => ?_, fun _ => ⟨m.1, A 9, r1, r2, by rw [r3]; exact vp_in_nI (by omega) (by omega), fun h5 e5 x6 e6 => ?_⟩⟩
      · rw [h30] at c
        have := (nI_leI (by omega) (by omega)).mp c
        omega
      · rw [nI_clamp (by omega)] at e5
        rw [nI_1] at e6
        subst e5 e6
        refine ih (j + 1) _ (by omega) m.sI (FrwI f (n (9, 21, 1550) (by decide)).1) n ?_ (fun t ht h7 h9 => ?_) zj fun i hi => ?_
        · rw [sI_o (m.na 9 21 1550 (by decide))]; exact z1
        · rw [sI_o (m.2.2 t ht (9, 21, 1550) (by decide) h9)]; exact z2 t ht h7 h9
        · rw [rI_sI]
          by_cases c : i = j
          · rw [if_pos ⟨rfl, c⟩]
          · rw [if_neg (fun q => c q.2)]; exact z9 i (by omega)
  have b0 : ∃ A : Nat → Nat, Mb g hb hb a [] A := ⟨fun _ => 0, ha, hz, Fr.rfl', (fun _ ht => nomatch ht), (fun _ ht => nomatch ht)⟩
  unfold wp_M_init
  refine ⟨by omega, by omega, fun q1 z1 w1 h1 e1 => ?_⟩
  subst e1
  have b1 := Mb.step (k := 1) (kd := 22) (n := 50) b0 hba (by decide) (by decide) z1 w1
  refine ⟨(b1.choose_spec).1, fun g1 f1 => ?_⟩
  rw [← f1] at b1
  clear f1 b0 z1
  refine ⟨by omega, by omega, fun q2 z2 w2 h2 e2 => ?_⟩
  subst e2
  have b2 := Mb.step (k := 4) (kd := 21) (n := 31) b1 hba (by decide) (by decide) z2 w2
  refine ⟨(b2.choose_spec).1, fun g2 f2 => ?_⟩
  rw [← f2] at b2
  clear f2 b1 z2
  refine ⟨by omega, by omega, fun q3 z3 w3 h3 e3 => ?_⟩
  subst e3
  have b3 := Mb.step (k := 5) (kd := 21) (n := 31) b2 hba (by decide) (by decide) z3 w3
  refine ⟨(b3.choose_spec).1, fun g3 f3 => ?_⟩
  rw [← f3] at b3
  clear f3 b2 z3
  refine ⟨by omega, by omega, fun q4 z4 w4 h4 e4 => ?_⟩
  subst e4
  have b4 := Mb.step (k := 6) (kd := 21) (n := 31) b3 hba (by decide) (by decide) z4 w4
  refine ⟨(b4.choose_spec).1, fun g4 f4 => ?_⟩
  rw [← f4] at b4
  clear f4 b3 z4
  refine ⟨by omega, by omega, fun q5 z5 w5 h5 e5 => ?_⟩
  subst e5
  have b5 := Mb.step (k := 7) (kd := 21) (n := 31) b4 hba (by decide) (by decide) z5 w5
  refine ⟨(b5.choose_spec).1, fun g5 f5 => ?_⟩
  rw [← f5] at b5
  clear f5 b4 z5
  refine ⟨by omega, by omega, fun q6 z6 w6 h6 e6 => ?_⟩
  subst e6
  have b6 := Mb.step (k := 8) (kd := 21) (n := 31) b5 hba (by decide) (by decide) z6 w6
  refine ⟨(b6.choose_spec).1, fun g6 f6 => ?_⟩
  rw [← f6] at b6
  clear f6 b5 z6
  refine ⟨by omega, by omega, fun q7 z7 w7 h7 e7 => ?_⟩
  subst e7
  have b7 := Mb.step (k := 9) (kd := 21) (n := 1550) b6 hba (by decide) (by decide) z7 w7
  refine ⟨(b7.choose_spec).1, fun g7 f7 => ?_⟩
  rw [← f7] at b7
  clear f7 b6 z7
  refine ⟨by omega, by omega, fun q8 z8 w8 h8 e8 => ?_⟩
  subst e8
  have b8 := Mb.step (k := 10) (kd := 21) (n := 1550) b7 hba (by decide) (by decide) z8 w8
  refine ⟨(b8.choose_spec).1, fun g8 f8 => ?_⟩
  rw [← f8] at b8
  clear f8 b7 z8
  refine ⟨by omega, by omega, fun q9 z9 w9 h9 e9 => ?_⟩
  subst e9
  have b9 := Mb.step (k := 11) (kd := 23) (n := 1550) b8 hba (by decide) (by decide) z9 w9
  refine ⟨(b9.choose_spec).1, fun g9 f9 => ?_⟩
  rw [← f9] at b9
  clear f9 b8 z9
  refine ⟨by omega, by omega, fun q10 z10 w10 h10 e10 => ?_⟩
  subst e10
  have b10 := Mb.step (k := 12) (kd := 23) (n := 1550) b9 hba (by decide) (by decide) z10 w10
  refine ⟨(b10.choose_spec).1, fun g10 f10 => ?_⟩
  rw [← f10] at b10
  clear f10 b9 z10
  refine ⟨by omega, by omega, fun q11 z11 w11 h11 e11 => ?_⟩
  subst e11
  have b11 := Mb.step (k := 13) (kd := 22) (n := 1550) b10 hba (by decide) (by decide) z11 w11
  refine ⟨(b11.choose_spec).1, fun g11 f11 => ?_⟩
  rw [← f11] at b11
  clear f11 b10 z11
  refine ⟨by omega, by omega, fun q12 z12 w12 h12 e12 => ?_⟩
  subst e12
  have b12 := Mb.step (k := 15) (kd := 21) (n := 1550) b11 hba (by decide) (by decide) z12 w12
  refine ⟨(b12.choose_spec).1, fun g12 f12 => ?_⟩
  rw [← f12] at b12
  clear f12 b11 z12
  refine ⟨by omega, by omega, fun q13 z13 w13 h13 e13 => ?_⟩
  subst e13
  have b13 := Mb.step (k := 16) (kd := 21) (n := 50) b12 hba (by decide) (by decide) z13 w13
  refine ⟨(b13.choose_spec).1, fun g13 f13 => ?_⟩
  rw [← f13] at b13
  clear f13 b12 z13
  refine ⟨by omega, by omega, fun q14 z14 w14 h14 e14 => ?_⟩
  subst e14
  have b14 := Mb.step (k := 17) (kd := 21) (n := 2000) b13 hba (by decide) (by decide) z14 w14
  refine ⟨(b14.choose_spec).1, fun g14 f14 => ?_⟩
  rw [← f14] at b14
  clear f14 b13 z14
  refine ⟨by omega, by omega, fun q15 z15 w15 h15 e15 => ?_⟩
  subst e15
  have b15 := Mb.step (k := 18) (kd := 21) (n := 2000) b14 hba (by decide) (by decide) z15 w15
  refine ⟨(b15.choose_spec).1, fun g15 f15 => ?_⟩
  rw [← f15] at b15
  clear f15 b14 z15
  refine ⟨by omega, by omega, fun q16 z16 w16 h16 e16 => ?_⟩
  subst e16
  have b16 := Mb.step (k := 19) (kd := 22) (n := 2000) b15 hba (by decide) (by decide) z16 w16
  refine ⟨(b16.choose_spec).1, fun g16 f16 => ?_⟩
  rw [← f16] at b16
  clear f16 b15 z16
  refine ⟨by omega, by omega, fun q17 z17 w17 h17 e17 => ?_⟩
  subst e17
  have b17 := Mb.step (k := 21) (kd := 21) (n := 31) b16 hba (by decide) (by decide) z17 w17
  refine ⟨(b17.choose_spec).1, fun g17 f17 => ?_⟩
  rw [← f17] at b17
  clear f17 b16 z17
  refine ⟨by omega, by omega, fun q18 z18 w18 h18 e18 => ?_⟩
  subst e18
  have b18 := Mb.step (k := 22) (kd := 21) (n := 31) b17 hba (by decide) (by decide) z18 w18
  refine ⟨(b18.choose_spec).1, fun g18 f18 => ?_⟩
  rw [← f18] at b18
  clear f18 b17 z18
  refine ⟨by omega, by omega, fun q19 z19 w19 h19 e19 => ?_⟩
  subst e19
  have b19 := Mb.step (k := 23) (kd := 21) (n := 31) b18 hba (by decide) (by decide) z19 w19
  refine ⟨(b19.choose_spec).1, fun g19 f19 => ?_⟩
  rw [← f19] at b19
  clear f19 b18 z19
  refine ⟨by omega, by omega, fun q20 z20 w20 h20 e20 => ?_⟩
  subst e20
  have b20 := Mb.step (k := 24) (kd := 21) (n := 31) b19 hba (by decide) (by decide) z20 w20
  refine ⟨(b20.choose_spec).1, fun g20 f20 => ?_⟩
  rw [← f20] at b20
  clear f20 b19 z20
  obtain ⟨A, c1, c2, c3, c4, c5⟩ := b20
  have inT : ∀ t ∈ MA, t ∈ MA.reverse := fun t ht => List.mem_reverse.mpr ht
  refine ⟨1551, lp1 A _ _ 1550 0 _ rfl ⟨c1, fun t ht => ?_, fun t ht t' ht' d => c5 t (inT t ht) t' (inT t' ht') d⟩ c3 (fun t ht => ⟨(c4 t (inT t ht)).2.2.2.2.1, (c4 t (inT t ht)).2.2.2.2.2.2⟩) c2 (fun t ht _ _ j => ((c4 t (inT t ht)).2.2.2.2.2.1 j).1) (fun t ht j => ((c4 t (inT t ht)).2.2.2.2.2.1 j).2) (fun i hi => absurd hi (Nat.not_lt_zero i))⟩
  obtain ⟨y1, y2, y3, -⟩ := c4 t (inT t ht)
  exact ⟨y1, y2, y3⟩
/-- a new reference keeps to it -/
theorem MI.new {Y : Nat → Prop} {h : Hp} {a : Nat} {A : Nat → Nat} (m : Mst h a A) (hy : Y a ∧ ∀ t ∈ MA, Y (A t.1)) (z1 : ∀ j : Nat, hI h a j = 0) (z2 : ∀ j : Nat, hI h (A 16) j = 0) (z3 : ∀ j : Nat, j < 31 → hI h (A 7) j = -1) : MI Y h h a A 0 0 30 := by
  have c0 : ∀ s : Nat, s < 50 → cn (hI h (A 7)) s = 0 := fun s hs => by
    have z0 : ∀ k : Nat, cntF (fun _ => false) k = 0 := fun k => by
      induction k with
      | zero => rfl
      | succ k ih => show cntF (fun _ => false) k + (if false = true then 1 else 0) = 0; rw [ih]; rfl
    unfold cn
    rw [cntF_congr (f := fun _ => false) (fun k hk => by rw [z3 k hk]; exact decide_eq_false (nIm1 (by omega))), z0]
  have l : Li (hI h (A 7)) (hI h (A 16)) (hI h (A 15)) := ⟨z3 0 (by omega), fun s hs => by rw [z2, c0 s hs]; rfl, fun s k hs hk => by rw [c0 s hs] at hk; omega, fun s j k hs hj => by rw [c0 s hs] at hj; omega, fun t ht => Or.inl (z3 t (by omega))⟩
  exact ⟨Lt.rf h, m, hy, z1 2, by omega, l, wn_le l.1, fun t ht c => absurd (z3 t (by omega)) c, ⟨0, by omega, z1 20, fun k hk => by omega⟩, ⟨0, by omega, z1 25, rfl⟩⟩
