/-! PURE: the class's calls that throw or make cells -/
theorem S_segD {g : Gm} {h : Hp} {i : Int32} : (∃ s : Nat, i = nI s ∧ s < 50 ∧ ∀ post : Int32 → Prop, post 1 → wp_S_isSegment g post h i) ∨ (∀ post : Int32 → Prop, post 0 → wp_S_isSegment g post h i) := by
  have h50 : (50 : Int32) = nI 50 := rfl
  by_cases c : i < 0
  · exact Or.inr fun post p0 => ⟨fun _ => ⟨Or.inl rfl, p0⟩, fun z => absurd c z⟩
  · by_cases d : 50 ≤ i
    · exact Or.inr fun post p0 => ⟨fun z => absurd z c, fun _ => ⟨fun _ => ⟨Or.inl rfl, p0⟩, fun z => absurd d z⟩⟩
    · obtain ⟨t, e, ht⟩ := nI_back c
      refine Or.inl ⟨t, e, ?_, fun post p1 => ⟨fun z => absurd z c, fun _ => ⟨fun z => absurd z d, fun _ => ⟨Or.inr rfl, p1⟩⟩⟩⟩
      rcases Nat.lt_or_ge t 50 with q | q
      · exact q
      · exact absurd (by rw [e, h50]; exact nI_le q ht) d
section CM
variable {g : Gm} {Y P : Nat → Prop} {h0 h : Hp} {x : Nat} {D E C : Nat → Nat} {L : Nat → List Nat}
theorem S_findD {i : Int32} (c : CI g Y P h0 h x D E C L) : (∃ t : Nat, P t ∧ ∀ post : Option Nat → Prop, post (some t) → wp_S_find g post h x i) ∨ (∀ post : Option Nat → Prop, post none → wp_S_find g post h x i) := by
  have l := c.ls 0 (by omega)
  have hl := c.len (i := 0) (by omega)
  have k := c.sk.kx
  have r := c.sk.f1
  have h1 : (1 : Int32) = nI 1 := rfl
  by_cases z : i < 1
  · exact Or.inr fun post p0 => ⟨fun _ => p0, fun y => absurd z y⟩
  · by_cases z' : nI (L 0).length < i
    · exact Or.inr fun post p0 => ⟨fun y => absurd y z, fun _ => ⟨k, D 0, r, l.1, l.size ⟨fun _ => p0, fun y => absurd z' y⟩⟩⟩
    · obtain ⟨j, rfl, hj⟩ := nI_back (i := i) (fun y => z (Int32.lt_trans y (by decide)))
      have j1 : 1 ≤ j := by
        rcases Nat.lt_or_ge j 1 with q | q
        · exact absurd (by rw [h1]; exact nI_lt q (by omega)) z
        · exact q
      have j2 : j ≤ (L 0).length := by
        rcases Nat.lt_or_ge (L 0).length j with q | q
        · exact absurd (nI_lt q hj) z'
        · exact q
      obtain ⟨j, rfl⟩ : ∃ i, j = i + 1 := ⟨j - 1, by omega⟩
      have hm := c.mem (i := 0) (j := j) (by omega) (by omega)
      refine Or.inl ⟨_, hm, fun post p1 => ⟨fun y => absurd y z, fun _ => ⟨k, D 0, r, l.1, l.size ⟨fun y => absurd y z', fun _ => ⟨k, D 0, r, fun x10 e10 => ?_⟩⟩⟩⟩⟩
      rw [nI_pred] at e10
      subst e10
      exact ⟨l.1, l.get (by omega) ⟨_, rfl, c.kT hm, p1⟩⟩
theorem L_read {o mc ms : Nat} {i1 i2 : Int32} {post : Int32 → Hp → Prop} (c : CI g Y P h0 h x D E C L) (ho : Y o) (ko : hK h0 o = 22) (no : hN h0 o = 1) (hmc : 1 ≤ mc) (hms : 6 ≤ ms) (hp : ∀ (y : Int32) (h' : Hp), CI g Y P h0 h' x D E C L → post y h') : wp_L_read g post mc ms h x i1 i2 o := by
  have k := c.sk.kx
  have out : ∀ (v : Int64) (h2 : Hp), CI g Y P h0 h2 x D E C L → hK h2 o = 22 ∧ vp_in 0 (hN h2 o) ∧ ∀ h5 : Hp, h5 = sJ h2 o (0 : Int32).toNatClampNeg v → post 0 h5 := fun v h2 c2 => by
    obtain ⟨u1, u2, -⟩ := c2.un o ho
    refine ⟨u1.trans ko, ?_, fun h5 e5 => hp _ _ ?_⟩
    · rw [u2, no]; exact vp_in_nI (n := 0) (by omega) (by omega)
    · rw [e5]; exact c2.wO (u2.trans no)
  have throwA : wp_S_read_tA g h x i1 i2 → wp_L_read g post mc ms h x i1 i2 o := fun z => ⟨k, Or.inr (Or.inl ⟨z, by omega, by omega, fun _ => hp _ _ c⟩)⟩
  have throwS : wp_S_read_tS g h x i1 i2 → wp_L_read g post mc ms h x i1 i2 o := fun z => ⟨k, Or.inr (Or.inr ⟨z, by omega, by omega, fun _ => hp _ _ c⟩)⟩
  rcases S_findD (i := i1) c with ⟨t, ht, ft⟩ | fn
  · have kt := c.kT ht
    rcases S_segD (g := g) (h := h) (i := i2) with ⟨s, es, hs, fs⟩ | fs
    · obtain ⟨a2, r2, s2, t2, u2⟩ := (c.tk t ht).row 2 21 (by decide)
      obtain ⟨a3, r3, s3, t3, u3⟩ := (c.tk t ht).row 3 23 (by decide)
      obtain ⟨a4, r4, s4, t4, u4⟩ := (c.tk t ht).row 4 23 (by decide)
      obtain ⟨a5, r5, s5, t5, u5⟩ := (c.tk t ht).row 5 22 (by decide)
      obtain ⟨k4, n4⟩ := c.sk.k4
      have ii : ∀ a : Nat, hN h a = 50 → vp_in i2 (hN h a) := fun a ha => by rw [ha, es]; exact vp_in_nI (by omega) (by omega)
      by_cases z9 : hI h t 9 = 0
      · by_cases zl : hI h a2 i2.toNatClampNeg = -1 ∧ hI h a3 i2.toNatClampNeg = 0
        · refine throwS ⟨k, ft _ ⟨(fun q => nomatch q), fun a q => ?_⟩⟩
          cases q
          refine fs _ ⟨fun _ => ⟨kt, fun _ => ⟨kt, a2, r2, s2, ii a2 t2, fun _ => ?_, fun q => absurd zl.1 q⟩, fun q => absurd z9 q⟩, fun q => absurd q (by decide)⟩
          unfold wp_S_read_tS_59
          exact ⟨fun q => absurd rfl q, fun _ => ⟨kt, a3, r3, s3, ii a3 t3, fun q => absurd zl.2 q, fun _ => trivial⟩⟩
        · refine ⟨k, Or.inl ⟨k, ft _ ⟨(fun q => nomatch q), fun a q => ?_⟩⟩⟩
          cases q
          have q120 : ∀ v : Int64, wp_S_read_120 g (fun j3 h2 => hK h2 o = 22 ∧ vp_in 0 (hN h2 o) ∧ ∀ h5 : Hp, h5 = sJ h2 o (0 : Int32).toNatClampNeg j3 → post 0 h5) h x i2 t v := fun v => by
            unfold wp_S_read_120
            refine ⟨k, D 4, c.sk.f0, k4, ii _ n4, kt, ?_⟩
            rw [es]
            exact T_remember c ht hs fun h5 c5 => out v h5 c5
          have q85 : ∀ v : Int32, wp_S_read_85 g (fun j3 h2 => hK h2 o = 22 ∧ vp_in 0 (hN h2 o) ∧ ∀ h5 : Hp, h5 = sJ h2 o (0 : Int32).toNatClampNeg j3 → post 0 h5) h x i2 t v := fun v => by
            have ql : wp_S_latest g (fun j8 => wp_S_read_120 g (fun j3 h2 => hK h2 o = 22 ∧ vp_in 0 (hN h2 o) ∧ ∀ h5 : Hp, h5 = sJ h2 o (0 : Int32).toNatClampNeg j3 → post 0 h5) h x i2 t j8) h x i2 := by
              rw [es]; rw [es] at q120; exact S_latest c hs q120
            unfold wp_S_read_85
            exact ⟨kt, a4, r4, s4, ii a4 t4, fun _ => ⟨fun _ => ⟨k, ql⟩, fun _ => ⟨k, D 4, c.sk.f0, k4, ii _ n4, q120 _⟩⟩, fun _ => ⟨kt, a5, r5, s5, ii a5 t5, out _ h c⟩⟩
          refine fs _ ⟨fun _ => ⟨kt, fun _ => ⟨kt, a2, r2, s2, ii a2 t2, fun q1 => ?_, fun q1 => ?_⟩, fun q => absurd z9 q⟩, fun q => absurd q (by decide)⟩
          · unfold wp_S_read_59
            exact ⟨fun q => absurd rfl q, fun _ => ⟨kt, a3, r3, s3, ii a3 t3, fun _ => q85 _, fun q => zl ⟨q1, q⟩⟩⟩
          · unfold wp_S_read_59
            exact ⟨fun _ => q85 _, fun q => absurd q (by decide)⟩
      · refine throwS ⟨k, ft _ ⟨(fun q => nomatch q), fun a q => ?_⟩⟩
        cases q
        exact fs _ ⟨fun _ => ⟨kt, fun q => absurd q z9, fun _ => trivial⟩, fun q => absurd q (by decide)⟩
    · refine throwA ⟨k, ft _ ⟨(fun q => nomatch q), fun a q => ?_⟩⟩
      cases q
      exact fs _ ⟨fun q => absurd rfl q, fun _ => trivial⟩
  · exact throwA ⟨k, fn _ ⟨fun _ => trivial, fun a q => nomatch q⟩⟩
theorem L_value {o mc ms : Nat} {i1 : Int32} {post : Int32 → Hp → Prop} (c : CI g Y P h0 h x D E C L) (ho : Y o) (ko : hK h0 o = 22) (no : hN h0 o = 1) (hmc : 1 ≤ mc) (hms : 6 ≤ ms) (hp : ∀ (y : Int32) (h' : Hp), CI g Y P h0 h' x D E C L → post y h') : wp_L_value g post mc ms h x i1 o := by
  have k := c.sk.kx
  obtain ⟨k4, n4⟩ := c.sk.k4
  obtain ⟨u1, u2, -⟩ := c.un o ho
  rcases S_segD (g := g) (h := h) (i := i1) with ⟨s, es, hs, fs⟩ | fs
  · refine ⟨k, Or.inl (fs _ ⟨fun _ => ⟨k, D 4, c.sk.f0, k4, by rw [n4, es]; exact vp_in_nI (by omega) (by omega), u1.trans ko, ?_, fun h5 e5 => hp _ _ ?_⟩, fun q => absurd q (by decide)⟩)⟩
    · rw [u2, no]; exact vp_in_nI (n := 0) (by omega) (by omega)
    · rw [e5]; exact c.wO (u2.trans no)
  · exact ⟨k, Or.inr ⟨fs _ ⟨fun q => absurd rfl q, fun _ => trivial⟩, by omega, by omega, fun _ => hp _ _ c⟩⟩
end CM
/-! a new task -/
def Tb (hb h : Hp) (t : Nat) (T : List (Nat × Nat)) : Prop := hK h t = 4 ∧ Fr (fun b => b = t) hb h ∧ ∀ p ∈ T, ∃ a : Nat, hR h t p.1 = some a ∧ hK h a = p.2 ∧ hN h a = 50 ∧ p.2 ≠ 0 ∧ hK hb a = 0
theorem Tb.step {hb h : Hp} {t k kd q : Nat} {T : List (Nat × Nat)} (b : Tb hb h t T) (hk : ∀ p ∈ T, p.1 ≠ k) (hkd : kd ≠ 0) (hq : hK h q = 0) : Tb hb (sR (mkC h q kd 50) t k (some q)) t ((k, kd) :: T) := by
  obtain ⟨b1, b2, b3⟩ := b
  have hqt : t ≠ q := fun z => by rw [← z, b1] at hq; exact absurd hq (by decide)
  have hqb : hK hb q = 0 := by
    by_cases z : hK hb q = 0
    · exact z
    · rw [(b2 q z).1] at hq; exact absurd hq z
  refine ⟨by rw [kK_sR, mK_mk, if_neg hqt]; exact b1, (b2.trans (Fr.mk hq)).trans (Fr.sR rfl), fun p hp => ?_⟩
  rcases List.mem_cons.mp hp with e | e
  · subst e
    exact ⟨q, by rw [rR_sR, if_pos ⟨rfl, rfl⟩], by rw [kK_sR, mK_mk, if_pos rfl], by rw [kN_sR, mN_mk, if_pos rfl], hkd, hqb⟩
  · obtain ⟨a, c1, c2, c3, c4, c5⟩ := b3 p e
    have hne : a ≠ q := fun z => by rw [z, hq] at c2; exact c4 c2.symm
    exact ⟨a, by rw [rR_sR, if_neg (fun z => hk p e z.2), mR_mk, if_neg hqt]; exact c1, by rw [kK_sR, mK_mk, if_neg hne]; exact c2, by rw [kN_sR, mN_mk, if_neg hne]; exact c3, c4, c5⟩
theorem Tb.wI {hb h : Hp} {t k : Nat} {v : Int32} {T : List (Nat × Nat)} (b : Tb hb h t T) : Tb hb (sI h t k v) t T := ⟨b.1, b.2.1.trans (Fr.sI rfl), b.2.2⟩
theorem Y_fill {g : Gm} {hb h : Hp} {t a : Nat} {v : Int32} {T : List (Nat × Nat)} {post : Hp → Prop} (b : Tb hb h t T) (ha : hK h a = 21) (hna : hN h a = 50) (hba : hK hb a = 0) (hp : ∀ h' : Hp, Tb hb h' t T → post h') : wp_Y_fill g post h a v := by
  have loop : ∀ (d i : Nat) (h : Hp), i + d = 50 → Tb hb h t T → hK h a = 21 → hN h a = 50 → wp_Y_fill_5 g post (d + 1) h a v (nI i) (nI 50) := by
    intro d
    induction d with
    | zero =>
      intro i h e b k n
      unfold wp_Y_fill_5
      exact ⟨fun _ => hp h b, fun z => absurd (nI_le (by omega) (by omega)) z⟩
    | succ d ih =>
      intro i h e b k n
      unfold wp_Y_fill_5
      refine ⟨fun _ => hp h b, fun _ => ⟨k, by rw [n]; exact vp_in_nI (by omega) (by omega), fun h3 e3 x4 e4 => ?_⟩⟩
      subst e3
      rw [nI_1] at e4
      subst e4
      exact ih (i + 1) _ (by omega) ⟨b.1, FrwI b.2.1 hba, b.2.2⟩ k n
  unfold wp_Y_fill
  exact ⟨nI 50, Or.inl ⟨by rw [ha]; decide, by rw [ha]; decide, by rw [hna]⟩, 51, loop 50 0 h rfl b ha hna⟩
theorem T_init {g : Gm} {hb : Hp} {t mc ms : Nat} {i1 i2 : Int32} {post : Hp → Prop} (ht : hK hb t = 4) (hmc : 6 ≤ mc) (hms : 300 ≤ ms) (hp : ∀ h' : Hp, Tb hb h' t TA.reverse → post h') : wp_T_init g post mc ms hb t i1 i2 := by
  have b0 : Tb hb hb t [] := ⟨ht, Fr.rfl', fun _ hp => nomatch hp⟩
  unfold wp_T_init
  refine ⟨by omega, by omega, fun q1 z1 _ h1 e1 => ?_⟩
  subst e1
  have b1 := Tb.step (k := 2) (kd := 21) b0 (by decide) (by decide) z1
  refine ⟨b1.1, fun g1 f1 => ?_⟩
  rw [← f1] at b1
  clear f1 b0 z1
  refine ⟨by omega, by omega, fun q2 z2 _ h2 e2 => ?_⟩
  subst e2
  have b2 := Tb.step (k := 3) (kd := 23) b1 (by decide) (by decide) z2
  refine ⟨b2.1, fun g2 f2 => ?_⟩
  rw [← f2] at b2
  clear f2 b1 z2
  refine ⟨by omega, by omega, fun q3 z3 _ h3 e3 => ?_⟩
  subst e3
  have b3 := Tb.step (k := 4) (kd := 23) b2 (by decide) (by decide) z3
  refine ⟨b3.1, fun g3 f3 => ?_⟩
  rw [← f3] at b3
  clear f3 b2 z3
  refine ⟨by omega, by omega, fun q4 z4 _ h4 e4 => ?_⟩
  subst e4
  have b4 := Tb.step (k := 5) (kd := 22) b3 (by decide) (by decide) z4
  refine ⟨b4.1, fun g4 f4 => ?_⟩
  rw [← f4] at b4
  clear f4 b3 z4
  refine ⟨by omega, by omega, fun q5 z5 _ h5 e5 => ?_⟩
  subst e5
  have b5 := Tb.step (k := 6) (kd := 23) b4 (by decide) (by decide) z5
  refine ⟨b5.1, fun g5 f5 => ?_⟩
  rw [← f5] at b5
  clear f5 b4 z5
  refine ⟨by omega, by omega, fun q6 z6 _ h6 e6 => ?_⟩
  subst e6
  have b6 := Tb.step (k := 7) (kd := 22) b5 (by decide) (by decide) z6
  refine ⟨b6.1, fun g6 f6 => ?_⟩
  rw [← f6] at b6
  clear f6 b5 z6
  refine ⟨b6.1, Or.inl rfl, fun h26 e26 => ?_⟩
  have b7 : Tb hb h26 t TA.reverse := by rw [e26]; exact b6.wI
  clear e26
  refine ⟨b7.1, fun v7 w7 => ?_⟩
  have b8 : Tb hb v7 t TA.reverse := by rw [w7]; exact b7.wI
  clear w7
  refine ⟨b8.1, fun v8 w8 => ?_⟩
  have b9 : Tb hb v8 t TA.reverse := by rw [w8]; exact b8.wI
  clear w8
  refine ⟨b9.1, fun v9 w9 => ?_⟩
  have b10 : Tb hb v9 t TA.reverse := by rw [w9]; exact b9.wI
  clear w9
  refine ⟨b10.1, fun v10 w10 => ?_⟩
  have b11 : Tb hb v10 t TA.reverse := by rw [w10]; exact b10.wI
  clear w10
  refine ⟨b11.1, fun v11 w11 => ?_⟩
  have b12 : Tb hb v11 t TA.reverse := by rw [w11]; exact b11.wI
  clear w11
  refine ⟨b12.1, fun v12 w12 => ?_⟩
  have b13 : Tb hb v12 t TA.reverse := by rw [w12]; exact b12.wI
  clear w12
  refine ⟨b13.1, fun v13 w13 => ?_⟩
  have b14 : Tb hb v13 t TA.reverse := by rw [w13]; exact b13.wI
  clear w13
  refine ⟨b14.1, fun v14 w14 => ?_⟩
  have b15 : Tb hb v14 t TA.reverse := by rw [w14]; exact b14.wI
  clear w14
  obtain ⟨a, a1, a2, a3, a4, a5⟩ := b15.2.2 (2, 21) (by decide)
  exact ⟨b15.1, a, a1, Y_fill b15 a2 a3 a5 fun h' b' => hp h' b'⟩
theorem S_task {g : Gm} {Y P : Nat → Prop} {h0 h : Hp} {x mc ms : Nat} {D E C : Nat → Nat} {L : Nat → List Nat} {i : Int32} {post : Int32 → Hp → Prop} (c : CI g Y P h0 h x D E C L) (hn : (L 0).length ≤ 30) (hmc : 8 ≤ mc) (hms : 348 ≤ ms)
    (p0 : (L 0).length = 30 → post (-1) h) (p1 : ∀ (P' : Nat → Prop) (h' : Hp) (E' C' : Nat → Nat) (L' : Nat → List Nat), (L 0).length < 30 → (L' 0).length = (L 0).length + 1 → L' 1 = L 1 → CI g Y P' h0 h' x D E' C' L' → post (nI ((L 0).length + 1)) h') : wp_S_task g post mc ms h x i := by
  have l := c.ls 0 (by omega)
  have k := c.sk.kx
  have r := c.sk.f1
  have cs := c.cp 0 (by omega)
  unfold wp_S_task
  refine ⟨k, D 0, r, l.1, l.size ⟨fun z => ⟨k, D 0, r, l.1, l.size fun x12 e12 => ⟨k, D 0, r, by omega, by omega, fun q zq gq h16 e16 => ⟨6, 300, by omega, by omega, ?_⟩⟩⟩, fun z => p0 ?_⟩⟩
  · have hlt : (L 0).length < 30 := (nI_ltI (b := 30) (by omega) (by omega)).mp z
    rw [nI_1] at e12
    subst e12 e16
    refine T_init (by rw [mK_mk, if_pos rfl]) (by omega) (by omega) fun h18 b18 => ?_
    have f16 : Fr (fun b => b = q) h (mkC h q 4 0) := Fr.mk zq
    have f18 : Fr (fun b => b = q) h h18 := f16.trans b18.2.1
    have nq : ∀ b : Nat, hK h b ≠ 0 → ¬ b = q := fun b hb z => hb (by rw [z]; exact zq)
    have c18 := c.fr f18 nq
    have yq : ∀ b : Nat, hK (mkC h q 4 0) b = 0 → ¬ Y b := fun b hb y => by
      have h1 := c.yk b y
      rw [mK_mk] at hb
      by_cases e : b = q
      · rw [e] at h1; exact h1 zq
      · rw [if_neg e] at hb; exact h1 hb
    have h01 := c.h01
    have tq : Tk g Y h18 q := ⟨b18.1, fun y => c.yk q y zq, fun y => by rw [y] at gq; omega, fun p hp => by
      obtain ⟨a, a1, a2, a3, a4, a5⟩ := b18.2.2 p (List.mem_reverse.mpr hp)
      exact ⟨a, a1, a2, a3, yq a a5⟩⟩
    have cP : CI g Y (fun b => P b ∨ b = q) h0 h18 x D E C L := ⟨c18.un, c18.yk, c18.sk, fun t ht => by
      rcases ht with ht | ht
      · exact c18.tk t ht
      · rw [ht]; exact tq, c18.zb, c18.ls, c18.ey, c18.dd, fun i hi t ht => Or.inl (c18.lp i hi t ht), c18.cp, c18.h01, c18.lm⟩
    have l18 := cP.ls 0 (by omega)
    have c600 := CS_549 _ cs.1
    refine ⟨l18.1, 1, 33, by omega, by omega, l18.add h01 (by omega) (fun j hj => cP.kT (cP.mem (by omega) hj)) b18.1 (fun e => ⟨by omega, capN_33 _ cs.1 (by omega)⟩) fun h' e' c' l' f' he => ?_⟩
    have he' : e' = E 0 ∨ (hK h18 e' = 0 ∧ g.2.2 0 ≤ e') := by
      rcases he with ⟨-, y, -⟩ | ⟨-, -, y⟩
      · exact Or.inl y
      · exact Or.inr y
    have hc' : c' ∈ CS ∧ ((0 : Nat) ≠ 1 → c' ≤ 33) := by
      rcases he with ⟨-, -, y⟩ | ⟨y1, y, -⟩
      · rw [y]; exact cs
      · rw [y]; exact ⟨capN_CS _ cs.1 (by omega), fun _ => capN_33 _ cs.1 (by omega)⟩
    have u := cP.upd (i := 0) (by omega) f' l' he' (fun u hu => by
      rcases List.mem_append.mp hu with y | y
      · exact cP.lp 0 (by omega) u y
      · exact Or.inr (List.mem_singleton.mp y)) hc'
    exact p1 _ h' _ _ _ hlt (by rw [va_up_self, List.length_append]; rfl) (va_up_ne _ _ (by decide)) u
  · rcases Nat.lt_or_ge (L 0).length 30 with y | y
    · exact absurd (nI_lt (b := 30) y (by omega)) z
    · omega
