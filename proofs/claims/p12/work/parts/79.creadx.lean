/-! EXACT: the class keeps the abstract state in read and value -/
section VQ
variable {g : Gm} {Y P : Nat → Prop} {h0 h : Hp} {x : Nat} {D E C : Nat → Nat} {L : Nat → List Nat} {B : Nat → Nat → Nat} {z : Zs} {W : List Nat}
theorem Cz.wJo {b s : Nat} {v : Int64} (a : Cz h L B D W z) (hb : ∀ u : Nat, 1 ≤ u → u ≤ zn z → B u 5 ≠ b) (h4 : D 4 ≠ b) : Cz (sJ h b s v) L B D W z := by
  obtain ⟨⟨⟨a1, a2, a3, a4, a5, a6, a7, a8⟩, n, w⟩, r⟩ := a
  refine ⟨⟨⟨a1, a2, a3, a4, fun u k u1 u2 hk => ?_, a6, a7, fun k hk => ?_⟩, n, w⟩, r⟩
  · obtain ⟨q1, q2, q3, q4⟩ := a5 u k u1 u2 hk
    exact ⟨q1, q2, q3, by rw [rJ_sJ, if_neg (fun y => hb u u1 u2 y.1)]; exact q4⟩
  · rw [rJ_sJ, if_neg (fun y => h4 y.1)]; exact a8 k hk
theorem Cz.w7 {t s : Nat} {v : Int64} (a : Cz h L B D W z) (t1 : 1 ≤ t) (t2 : t ≤ zn z) : Cz (sJ h (B t 7) s v) L B D W z :=
  a.wJo (fun u u1 u2 e => by
    have := (a.1.1.2.2.2.2.2.1 u t 5 7 u1 u2 t1 t2 (by omega) (by omega) (by omega) (by omega) e).2
    omega) (fun e => a.1.1.2.2.2.2.2.2.1 t 7 4 t1 t2 (by omega) (by omega) (by omega) e.symm)
theorem Cz.w6 {t s : Nat} {v : Int32} (a : Cz h L B D W z) (c : CI g Y P h0 h x D E C L) (t1 : 1 ≤ t) (t2 : t ≤ zn z) : Cz (sI h (B t 6) s v) L B D W z := by
  have s6 := (a.1.1.arr c t1 t2 (k := 6) (kd := 23) (by decide) (by decide) (by decide)).2.1
  refine ⟨⟨a.1.1.wX c t1 t2, fun u u1 u2 => ?_, a.1.2.2⟩, a.2⟩
  have nT : Ta (L 0) u ≠ B t 6 := fun e => by
    have := c.kT (Ta_P c u1 (by rw [a.1.1.1]; exact u2))
    rw [e, s6] at this; exact absurd this (by decide)
  rw [sI_o nT]; exact a.1.2.1 u u1 u2
theorem Cz.w8 {t : Nat} {v : Int32} (a : Cz h L B D W z) (c : CI g Y P h0 h x D E C L) (t1 : 1 ≤ t) (t2 : t ≤ zn z) : Cz (sI h (Ta (L 0) t) 8 v) L B D W z :=
  ⟨⟨a.1.1.wC c t1 t2 (Or.inl rfl), fun u u1 u2 => by
    rw [rI_sI, if_neg (fun y => absurd y.2 (by decide)), rI_sI, if_neg (fun y => absurd y.2 (by decide))]; exact a.1.2.1 u u1 u2, a.1.2.2⟩, a.2⟩
theorem V_remember {t s : Nat} {v w : Int64} {post : Hp → Prop} (c : CI g Y P h0 h x D E C L) (a : Cz h L B D W z) (t1 : 1 ≤ t) (t2 : t ≤ zn z) (hs : s < 50) (hp : ∀ h' : Hp, CI g Y P h0 h' x D E C L → Cz h' L B D W z → post h') : wp_T_remember g post h (Ta (L 0) t) (nI s) v w := by
  have ht := Ta_P c t1 (by rw [a.1.1.1]; exact t2)
  have k := c.kT ht
  obtain ⟨r6, s6, t6, u6⟩ := a.1.1.arr c t1 t2 (k := 6) (kd := 23) (by decide) (by decide) (by decide)
  obtain ⟨r7, s7, t7, u7⟩ := a.1.1.arr c t1 t2 (k := 7) (kd := 22) (by decide) (by decide) (by decide)
  have i6 : vp_in (nI s) (hN h (B t 6)) := by rw [t6]; exact vp_in_nI (by omega) (by omega)
  have i7 : vp_in (nI s) (hN h (B t 7)) := by rw [t7]; exact vp_in_nI (by omega) (by omega)
  have q32 : wp_T_remember_32 g post h (Ta (L 0) t) (nI s) v := by
    unfold wp_T_remember_32
    refine ⟨k, B t 6, r6, s6, i6, Or.inr rfl, fun h4 e4 => ?_⟩
    subst e4
    refine ⟨k, B t 7, r7, s7, i7, fun h8 e8 => ?_⟩
    subst e8
    exact hp _ ((c.wA s6 (by omega) u6).wJ u7) ((a.w6 c t1 t2).w7 t1 t2)
  have q27 : wp_T_remember_27 g post h (Ta (L 0) t) (nI s) v := by
    unfold wp_T_remember_27 wp_T_remember_32
    refine ⟨k, Or.inr rfl, fun h2 e2 => ?_⟩
    subst e2
    refine ⟨k, B t 6, r6, s6, i6, Or.inr rfl, fun h4 e4 => ?_⟩
    subst e4
    refine ⟨k, B t 7, r7, s7, i7, fun h8 e8 => ?_⟩
    subst e8
    exact hp _ (((c.wT ht).wA (b := B t 6) (kd := 23) s6 (by omega) u6).wJ u7) (((a.w8 c t1 t2).w6 (c.wT ht) t1 t2).w7 t1 t2)
  unfold wp_T_remember
  exact ⟨fun _ => q27, fun _ => ⟨k, B t 6, r6, s6, i6, fun _ => q32, fun _ => ⟨k, B t 7, r7, s7, i7, fun _ => q32, fun _ => q27⟩⟩⟩
theorem Cz.wo {o s : Nat} {v : Int64} (a : Cz h L B D W z) (c : CI g Y P h0 h x D E C L) (ho : Y o) : Cz (sJ h o s v) L B D W z :=
  a.wJo (fun u u1 u2 e => (a.1.1.arr c u1 u2 (k := 5) (kd := 22) (by decide) (by decide) (by decide)).2.2.2 (e ▸ ho)) (fun e => (c.sk.dy 4 (by omega)).1 (e ▸ ho))
theorem V_readK {o mc ms : Nat} {i1 i2 : Int32} {post : Int32 → Hp → Prop} (c : CI g Y P h0 h x D E C L) (a : Cz h L B D W z) (oz : Zo z) (ho : Y o) (ko : hK h0 o = 22) (no : hN h0 o = 1) (hmc : 1 ≤ mc) (hms : 6 ≤ ms) (hp : ∀ (y : Int32) (h' : Hp), CI g Y P h0 h' x D E C L → Cz h' L B D W z → post y h') : wp_L_read g post mc ms h x i1 i2 o := by
  have k := c.sk.kx
  have a0 : (L 0).length = zn z := a.1.1.1
  have out : ∀ (v : Int64) (h2 : Hp), CI g Y P h0 h2 x D E C L → Cz h2 L B D W z → hK h2 o = 22 ∧ vp_in 0 (hN h2 o) ∧ ∀ h5 : Hp, h5 = sJ h2 o (0 : Int32).toNatClampNeg v → post 0 h5 := fun v h2 c2 z2 => by
    obtain ⟨u1, u2, -⟩ := c2.un o ho
    refine ⟨u1.trans ko, ?_, fun h5 e5 => hp _ _ ?_ ?_⟩
    · rw [u2, no]; exact vp_in_nI (n := 0) (by omega) (by omega)
    · rw [e5]; exact c2.wO (u2.trans no)
    · rw [e5]; exact z2.wo c2 ho
  have throwA : wp_S_read_tA g h x i1 i2 → wp_L_read g post mc ms h x i1 i2 o := fun z => ⟨k, Or.inr (Or.inl ⟨z, by omega, by omega, fun _ => hp _ _ c a⟩)⟩
  have throwS : wp_S_read_tS g h x i1 i2 → wp_L_read g post mc ms h x i1 i2 o := fun z => ⟨k, Or.inr (Or.inr ⟨z, by omega, by omega, fun _ => hp _ _ c a⟩)⟩
  rcases aTk_c (z := z) i1 oz.1 with ⟨t', t1, t2, e1, ea⟩ | ⟨ea, hn⟩
  · obtain ⟨t, et⟩ : ∃ t, t = Ta (L 0) t' := ⟨_, rfl⟩
    have ht : P t := by rw [et]; exact Ta_P c t1 (by omega)
    have ft : ∀ post : Option Nat → Prop, post (some t) → wp_S_find g post h x i1 := fun post hq => by rw [e1]; rw [et] at hq; exact V_find1 c t1 (by omega) hq
    have kt := c.kT ht
    rcases S_segD (g := g) (h := h) (i := i2) with ⟨s, es, hs, fs⟩ | fs
    · obtain ⟨a2, r2, s2, t2', u2⟩ := (c.tk t ht).row 2 21 (by decide)
      obtain ⟨a3, r3, s3, t3, u3⟩ := (c.tk t ht).row 3 23 (by decide)
      obtain ⟨a4, r4, s4, t4, u4⟩ := (c.tk t ht).row 4 23 (by decide)
      obtain ⟨a5, r5, s5, t5, u5⟩ := (c.tk t ht).row 5 22 (by decide)
      obtain ⟨k4, n4⟩ := c.sk.k4
      have ii : ∀ a : Nat, hN h a = 50 → vp_in i2 (hN h a) := fun a ha => by rw [ha, es]; exact vp_in_nI (by omega) (by omega)
      by_cases z9 : hI h t 9 = 0
      · by_cases zl : hI h a2 i2.toNatClampNeg = -1 ∧ hI h a3 i2.toNatClampNeg = 0
        · refine throwS ⟨k, ft _ ⟨(fun q => nomatch q), fun a q => ?_⟩⟩
          cases q
          refine fs _ ⟨fun _ => ⟨kt, fun _ => ⟨kt, a2, r2, s2, ii a2 t2', fun _ => ?_, fun q => absurd zl.1 q⟩, fun q => absurd z9 q⟩, fun q => absurd q (by decide)⟩
          unfold wp_S_read_tS_59
          exact ⟨fun q => absurd rfl q, fun _ => ⟨kt, a3, r3, s3, ii a3 t3, fun q => absurd zl.2 q, fun _ => trivial⟩⟩
        · refine ⟨k, Or.inl ⟨k, ft _ ⟨(fun q => nomatch q), fun a' q => ?_⟩⟩⟩
          cases q
          have q120 : ∀ v : Int64, wp_S_read_120 g (fun j3 h2 => hK h2 o = 22 ∧ vp_in 0 (hN h2 o) ∧ ∀ h5 : Hp, h5 = sJ h2 o (0 : Int32).toNatClampNeg j3 → post 0 h5) h x i2 t v := fun v => by
            unfold wp_S_read_120
            refine ⟨k, D 4, c.sk.f0, k4, ii _ n4, kt, ?_⟩
            rw [es, et]
            exact V_remember c a t1 t2 hs fun h5 c5 z5 => out v h5 c5 z5
          have q85 : ∀ v : Int32, wp_S_read_85 g (fun j3 h2 => hK h2 o = 22 ∧ vp_in 0 (hN h2 o) ∧ ∀ h5 : Hp, h5 = sJ h2 o (0 : Int32).toNatClampNeg j3 → post 0 h5) h x i2 t v := fun v => by
            have ql : wp_S_latest g (fun j8 => wp_S_read_120 g (fun j3 h2 => hK h2 o = 22 ∧ vp_in 0 (hN h2 o) ∧ ∀ h5 : Hp, h5 = sJ h2 o (0 : Int32).toNatClampNeg j3 → post 0 h5) h x i2 t j8) h x i2 := by
              rw [es]; rw [es] at q120; exact S_latest c hs q120
            unfold wp_S_read_85
            exact ⟨kt, a4, r4, s4, ii a4 t4, fun _ => ⟨fun _ => ⟨k, ql⟩, fun _ => ⟨k, D 4, c.sk.f0, k4, ii _ n4, q120 _⟩⟩, fun _ => ⟨kt, a5, r5, s5, ii a5 t5, out _ h c a⟩⟩
          refine fs _ ⟨fun _ => ⟨kt, fun _ => ⟨kt, a2, r2, s2, ii a2 t2', fun q1 => ?_, fun q1 => ?_⟩, fun q => absurd z9 q⟩, fun q => absurd q (by decide)⟩
          · unfold wp_S_read_59
            exact ⟨fun q => absurd rfl q, fun _ => ⟨kt, a3, r3, s3, ii a3 t3, fun _ => q85 _, fun q => zl ⟨q1, q⟩⟩⟩
          · unfold wp_S_read_59
            exact ⟨fun _ => q85 _, fun q => absurd q (by decide)⟩
      · refine throwS ⟨k, ft _ ⟨(fun q => nomatch q), fun a q => ?_⟩⟩
        cases q
        exact fs _ ⟨fun _ => ⟨kt, fun q => absurd q z9, fun _ => trivial⟩, fun q => absurd q (by decide)⟩
    · refine throwA ⟨k, ft _ ⟨(fun q => nomatch q), fun a q => ?_⟩⟩
      cases q
      exact fs _ ⟨fun q => absurd rfl q, fun _ => trivial⟩
  · exact throwA ⟨k, V_find0 c (fun t t1 t2 => hn t t1 (by omega)) ⟨fun _ => trivial, (fun a q => nomatch q)⟩⟩
theorem V_valueK {o mc ms : Nat} {i1 : Int32} {post : Int32 → Hp → Prop} (c : CI g Y P h0 h x D E C L) (a : Cz h L B D W z) (ho : Y o) (ko : hK h0 o = 22) (no : hN h0 o = 1) (hmc : 1 ≤ mc) (hms : 6 ≤ ms) (hp : ∀ (y : Int32) (h' : Hp), CI g Y P h0 h' x D E C L → Cz h' L B D W z → post y h') : wp_L_value g post mc ms h x i1 o := by
  have k := c.sk.kx
  obtain ⟨k4, n4⟩ := c.sk.k4
  obtain ⟨u1, u2, -⟩ := c.un o ho
  rcases S_segD (g := g) (h := h) (i := i1) with ⟨s, es, hs, fs⟩ | fs
  · refine ⟨k, Or.inl (fs _ ⟨fun _ => ⟨k, D 4, c.sk.f0, k4, by rw [n4, es]; exact vp_in_nI (by omega) (by omega), u1.trans ko, ?_, fun h5 e5 => hp _ _ ?_ ?_⟩, fun q => absurd q (by decide)⟩)⟩
    · rw [u2, no]; exact vp_in_nI (n := 0) (by omega) (by omega)
    · rw [e5]; exact c.wO (u2.trans no)
    · rw [e5]; exact a.wo c ho
  · exact ⟨k, Or.inr ⟨fs _ ⟨fun q => absurd rfl q, fun _ => trivial⟩, by omega, by omega, fun _ => hp _ _ c a⟩⟩
end VQ
