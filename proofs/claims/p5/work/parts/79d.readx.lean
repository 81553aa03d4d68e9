/-! EXACT: read -/
section RQ
variable {g : Gm} {Y P : Nat → Prop} {h0 h : Hp} {x : Nat} {D E C : Nat → Nat} {L : Nat → List Nat} {B : Nat → Nat → Nat} {z : Zs} {W : List Nat}
theorem V_latest {s : Nat} {post : Int64 → Prop} (c : CI g Y P h0 h x D E C L) (a : Cz h L B D W z) (oz : Zo z) (hs : s < 50) (hp : post (aLat z s (zn z) 1)) : wp_S_latest g post h x (nI s) := by
  have l := c.ls 0 (by omega)
  have k := c.sk.kx
  have r := c.sk.f1
  have hl : (L 0).length = zn z := a.1.1.1
  have o1 := oz.1
  obtain ⟨k4, n4⟩ := c.sk.k4
  have i4 : vp_in (nI s) (hN h (D 4)) := by rw [n4]; exact vp_in_nI (by omega) (by omega)
  have loop : ∀ (d i : Nat), i + d = zn z → post (aLat z s d (i + 1)) → wp_S_latest_2 g post (d + 1) h x (nI s) (nI i) := by
    intro d
    induction d with
    | zero =>
      intro i e hq
      have hq : post (zG z s) := hq
      rw [← a.1.1.2.2.2.2.2.2.2 s hs] at hq
      unfold wp_S_latest_2
      exact ⟨k, D 0, r, l.1, l.size ⟨fun _ => ⟨k, D 4, c.sk.f0, k4, i4, by rw [nI_clamp (by omega)]; exact hq⟩, fun z => absurd (nI_le (by omega) (by omega)) z⟩⟩
    | succ d ih =>
      intro i e hq
      have hq : post (if zI z 2 (i + 1) s = 0 then aLat z s d (i + 1 + 1) else zK z (i + 1) s) := hq
      have hm := c.mem (i := 0) (j := i) (by omega) (by omega)
      have km := c.kT hm
      obtain ⟨r4, s4, t4, u4⟩ := a.1.1.arr c (t := i + 1) (k := 4) (kd := 23) (by omega) (by omega) (by decide) (by decide) (by decide)
      obtain ⟨r5, s5, t5, u5⟩ := a.1.1.arr c (t := i + 1) (k := 5) (kd := 22) (by omega) (by omega) (by decide) (by decide) (by decide)
      obtain ⟨-, -, q4, q5⟩ := a.1.1.2.2.2.2.1 (i + 1) s (by omega) (by omega) hs
      unfold wp_S_latest_2
      refine ⟨k, D 0, r, l.1, l.size ⟨fun y => ?_, fun _ => ⟨k, D 0, r, l.1, l.get (by omega) ⟨_, rfl, km, km, B (i + 1) 4, r4, s4, by rw [t4]; exact vp_in_nI (by omega) (by omega), ?_⟩⟩⟩⟩
      · have := (nI_leI (by omega) (by omega)).mp y
        omega
      · rw [nI_clamp (by omega), q4]
        refine ⟨fun y x21 e21 => ?_, fun y => ⟨km, B (i + 1) 5, r5, s5, by rw [t5]; exact vp_in_nI (by omega) (by omega), ?_⟩⟩
        · rw [if_pos y] at hq
          rw [nI_1] at e21; subst e21; exact ih (i + 1) (by omega) hq
        · rw [if_neg y] at hq
          rw [q5]; exact hq
  unfold wp_S_latest
  exact ⟨zn z + 1, loop _ 0 (by omega) hp⟩
theorem V_read {o mc ms : Nat} {i1 i2 : Int32} {post : Int32 → Hp → Prop} (c : CI g Y P h0 h x D E C L) (a : Cz h L B D W z) (oz : Zo z) (ho : Y o) (ko : hK h0 o = 22) (no : hN h0 o = 1) (hmc : 1 ≤ mc) (hms : 6 ≤ ms) (hp : ∀ h' : Hp, CI g Y P h0 h' x D E C L → Cz h' L B D W z → ((aRead z i1 i2).1 = 0 → hJ h' o 0 = (aRead z i1 i2).2) → post (aRead z i1 i2).1 h') : wp_L_read g post mc ms h x i1 i2 o := by
  have k := c.sk.kx
  have a0 : (L 0).length = zn z := a.1.1.1
  have out : ∀ v : Int64, aRead z i1 i2 = (0, v) → ∀ h2 : Hp, CI g Y P h0 h2 x D E C L → Cz h2 L B D W z → hK h2 o = 22 ∧ vp_in 0 (hN h2 o) ∧ ∀ h5 : Hp, h5 = sJ h2 o (0 : Int32).toNatClampNeg v → post 0 h5 := fun v ev h2 c2 z2 => by
    obtain ⟨u1, u2, -⟩ := c2.un o ho
    rw [ev] at hp
    refine ⟨u1.trans ko, ?_, fun h5 e5 => hp _ ?_ ?_ fun _ => ?_⟩
    · rw [u2, no]; exact vp_in_nI (n := 0) (by omega) (by omega)
    · rw [e5]; exact c2.wO (u2.trans no)
    · rw [e5]; exact z2.wo c2 ho
    · rw [e5, rJ_sJ, if_pos ⟨rfl, rfl⟩]
  have throwA : aRead z i1 i2 = (1, 0) → wp_S_read_tA g h x i1 i2 → wp_L_read g post mc ms h x i1 i2 o := fun ev w => by
    rw [ev] at hp
    exact ⟨k, Or.inr (Or.inl ⟨w, by omega, by omega, fun _ => hp _ c a fun q => absurd q (by decide)⟩)⟩
  have throwS : aRead z i1 i2 = (2, 0) → wp_S_read_tS g h x i1 i2 → wp_L_read g post mc ms h x i1 i2 o := fun ev w => by
    rw [ev] at hp
    exact ⟨k, Or.inr (Or.inr ⟨w, by omega, by omega, fun _ => hp _ c a fun q => absurd q (by decide)⟩)⟩
  rcases aTk_c (z := z) i1 oz.1 with ⟨t, t1, t2, e1, ea⟩ | ⟨ea, hn⟩
  · have ht : P (Ta (L 0) t) := Ta_P c t1 (by omega)
    have ft : ∀ post : Option Nat → Prop, post (some (Ta (L 0) t)) → wp_S_find g post h x i1 := fun post hq => by rw [e1]; exact V_find1 c t1 (by omega) hq
    have kt := c.kT ht
    rcases aSn_c i2 with ⟨s, hs, es, ns⟩ | ⟨ns, hns⟩
    · have fs : ∀ post : Int32 → Prop, post 1 → wp_S_isSegment g post h i2 := fun post hq => by rw [es]; exact V_seg1 hs hq
      obtain ⟨r2, s2, t2', u2⟩ := a.1.1.arr c t1 t2 (k := 2) (kd := 21) (by decide) (by decide) (by decide)
      obtain ⟨r3, s3, t3, u3⟩ := a.1.1.arr c t1 t2 (k := 3) (kd := 23) (by decide) (by decide) (by decide)
      obtain ⟨r4, s4, t4, u4⟩ := a.1.1.arr c t1 t2 (k := 4) (kd := 23) (by decide) (by decide) (by decide)
      obtain ⟨r5, s5, t5, u5⟩ := a.1.1.arr c t1 t2 (k := 5) (kd := 22) (by decide) (by decide) (by decide)
      obtain ⟨q2, q3, q4, q5⟩ := a.1.1.2.2.2.2.1 t s t1 t2 hs
      have q9 := (a.1.1.2.2.1 t t1 t2).2.2.1
      have q8 := a.1.1.2.2.2.2.2.2.2 s hs
      obtain ⟨k4, n4⟩ := c.sk.k4
      have ec : i2.toNatClampNeg = s := by rw [es]; exact nI_clamp (by omega)
      have ii : ∀ a : Nat, hN h a = 50 → vp_in i2 (hN h a) := fun a ha => by rw [ha, es]; exact vp_in_nI (by omega) (by omega)
      replace q2 : hI h (B t 2) i2.toNatClampNeg = zI z 0 t s := by rw [ec]; exact q2
      replace q3 : hI h (B t 3) i2.toNatClampNeg = zI z 1 t s := by rw [ec]; exact q3
      replace q4 : hI h (B t 4) i2.toNatClampNeg = zI z 2 t s := by rw [ec]; exact q4
      replace q5 : hJ h (B t 5) i2.toNatClampNeg = zK z t s := by rw [ec]; exact q5
      replace q8 : hJ h (D 4) i2.toNatClampNeg = zG z s := by rw [ec]; exact q8
      by_cases z9 : zI z 3 t 0 = 0
      · rw [z9] at q9
        by_cases zl : zI z 0 t s = -1 ∧ zI z 1 t s = 0
        · refine throwS (aRead_3 ea ns t1 hs z9 zl) ⟨k, ft _ ⟨(fun q => nomatch q), fun a q => ?_⟩⟩
          cases q
          have l2 := q2.trans zl.1
          have l3 := q3.trans zl.2
          refine fs _ ⟨fun _ => ⟨kt, fun _ => ⟨kt, B t 2, r2, s2, ii _ t2', fun _ => ?_, fun q => absurd l2 q⟩, fun q => absurd q9 q⟩, fun q => absurd q (by decide)⟩
          unfold wp_S_read_tS_59
          exact ⟨fun q => absurd rfl q, fun _ => ⟨kt, B t 3, r3, s3, ii _ t3, fun q => absurd l3 q, fun _ => trivial⟩⟩
        · refine ⟨k, Or.inl ⟨k, ft _ ⟨(fun q => nomatch q), fun a' q => ?_⟩⟩⟩
          cases q
          have q120 : ∀ v : Int64, aRead z i1 i2 = (0, v) → wp_S_read_120 g (fun j3 h2 => hK h2 o = 22 ∧ vp_in 0 (hN h2 o) ∧ ∀ h5 : Hp, h5 = sJ h2 o (0 : Int32).toNatClampNeg j3 → post 0 h5) h x i2 (Ta (L 0) t) v := fun v ev => by
            unfold wp_S_read_120
            refine ⟨k, D 4, c.sk.f0, k4, ii _ n4, kt, ?_⟩
            rw [es]
            exact V_remember c a t1 t2 hs fun h5 c5 z5 => out v ev h5 c5 z5
          have q85 : ∀ v : Int32, (v = 0 ↔ zI z 0 t s = -1) → wp_S_read_85 g (fun j3 h2 => hK h2 o = 22 ∧ vp_in 0 (hN h2 o) ∧ ∀ h5 : Hp, h5 = sJ h2 o (0 : Int32).toNatClampNeg j3 → post 0 h5) h x i2 (Ta (L 0) t) v := fun v hv => by
            unfold wp_S_read_85
            refine ⟨kt, B t 4, r4, s4, ii _ t4, fun w => ?_, fun w => ⟨kt, B t 5, r5, s5, ii _ t5, ?_⟩⟩
            · have w : zI z 2 t s = 0 := by rw [q4] at w; exact w
              refine ⟨fun v0 => ⟨k, ?_⟩, fun v0 => ⟨k, D 4, c.sk.f0, k4, ii _ n4, ?_⟩⟩
              · have := q120 _ (aRead_6 ea ns t1 hs z9 zl w (hv.mp v0))
                rw [es] at this ⊢
                exact V_latest c a oz hs this
              · rw [q8]; exact q120 _ (aRead_5 ea ns t1 hs z9 zl w (fun y => v0 (hv.mpr y)))
            · have w : ¬ zI z 2 t s = 0 := by rw [q4] at w; exact w
              rw [q5]; exact out _ (aRead_4 ea ns t1 hs z9 zl w) h c a
          refine fs _ ⟨fun _ => ⟨kt, fun _ => ⟨kt, B t 2, r2, s2, ii _ t2', fun q1 => ?_, fun q1 => ?_⟩, fun q => absurd q9 q⟩, fun q => absurd q (by decide)⟩
          · have q1 : zI z 0 t s = -1 := by rw [q2] at q1; exact q1
            unfold wp_S_read_59
            refine ⟨fun q => absurd rfl q, fun _ => ⟨kt, B t 3, r3, s3, ii _ t3, fun _ => q85 _ ⟨fun _ => q1, fun _ => rfl⟩, fun q => absurd ⟨q1, ?_⟩ zl⟩⟩
            rw [q3] at q; exact q
          · have q1 : ¬ zI z 0 t s = -1 := by rw [q2] at q1; exact q1
            unfold wp_S_read_59
            exact ⟨fun _ => q85 _ ⟨fun q => absurd q (by decide), fun q => absurd q q1⟩, fun q => absurd q (by decide)⟩
      · refine throwS (aRead_2 ea ns t1 hs z9) ⟨k, ft _ ⟨(fun q => nomatch q), fun a q => ?_⟩⟩
        cases q
        rw [← q9] at z9
        exact fs _ ⟨fun _ => ⟨kt, fun q => absurd q z9, fun _ => trivial⟩, fun q => absurd q (by decide)⟩
    · have fs : ∀ post : Int32 → Prop, post 0 → wp_S_isSegment g post h i2 := fun post hq => V_seg0 hns hq
      refine throwA (aRead_1 (Or.inr ns)) ⟨k, ft _ ⟨(fun q => nomatch q), fun a q => ?_⟩⟩
      cases q
      exact fs _ ⟨fun q => absurd rfl q, fun _ => trivial⟩
  · exact throwA (aRead_1 (Or.inl ea)) ⟨k, V_find0 c (fun t t1 t2 => hn t t1 (by omega)) ⟨fun _ => trivial, (fun a q => nomatch q)⟩⟩
end RQ
