/-! PURE: a new object of the class -/
/-- cells (address, kind, length), references (owner, its kind, field, target), new lists -/
def Bd (g : Gm) (h : Hp) (K : List (Nat × Nat × Nat)) (R : List (Nat × Nat × Nat × Nat)) (Z : List Nat) : Prop := (∀ t ∈ K, hK h t.1 = t.2.1 ∧ hN h t.1 = t.2.2 ∧ t.2.1 ≠ 0 ∧ g.2.2 0 ≤ t.1 ∧ ∀ j : Nat, hJ h t.1 j = 0) ∧ (K.map (fun t => t.1)).Nodup ∧ (∀ t ∈ R, hK h t.1 = t.2.1 ∧ t.2.1 ≠ 0 ∧ hR h t.1 t.2.2.1 = some t.2.2.2) ∧ (∀ a ∈ Z, hI h a 1 = 0 ∧ hK h a ≠ 0)
theorem Bd.mk {g : Gm} {h : Hp} {q kd n : Nat} {K : List (Nat × Nat × Nat)} {R : List (Nat × Nat × Nat × Nat)} {Z : List Nat} (b : Bd g h K R Z) (hq : hK h q = 0) (gq : g.2.2 0 ≤ q) (hkd : kd ≠ 0) : Bd g (mkC h q kd n) ((q, kd, n) :: K) R (q :: Z) := by
  obtain ⟨b1, b2, b3, b4⟩ := b
  refine ⟨fun t ht => ?_, ?_, fun t ht => ?_, fun a ha => ?_⟩
  · rcases List.mem_cons.mp ht with e | e
    · subst e
      exact ⟨by rw [mK_mk, if_pos rfl], by rw [mN_mk, if_pos rfl], hkd, gq, fun j => by rw [mJ_mk, if_pos rfl]⟩
    · obtain ⟨c1, c2, c3, c4, c5⟩ := b1 t e
      have ne : t.1 ≠ q := fun z => by rw [z, hq] at c1; exact c3 c1.symm
      exact ⟨by rw [mK_mk, if_neg ne]; exact c1, by rw [mN_mk, if_neg ne]; exact c2, c3, c4, fun j => by rw [mJ_mk, if_neg ne]; exact c5 j⟩
  · rw [List.map_cons, List.nodup_cons]
    refine ⟨fun z => ?_, b2⟩
    obtain ⟨t, t1, t2⟩ := List.mem_map.mp z
    obtain ⟨c1, c2, c3, c4⟩ := b1 t t1
    have t2 : t.1 = q := t2
    rw [t2, hq] at c1
    exact c3 c1.symm
  · obtain ⟨c1, c2, c3⟩ := b3 t ht
    have ne : t.1 ≠ q := fun z => by rw [z, hq] at c1; exact c2 c1.symm
    exact ⟨by rw [mK_mk, if_neg ne]; exact c1, c2, by rw [mR_mk, if_neg ne]; exact c3⟩
  · rcases List.mem_cons.mp ha with e | e
    · subst e
      exact ⟨by rw [mI_mk, if_pos rfl], by rw [mK_mk, if_pos rfl]; exact hkd⟩
    · obtain ⟨c1, c2⟩ := b4 a e
      have ne : a ≠ q := fun z => by rw [z] at c2; exact c2 hq
      exact ⟨by rw [mI_mk, if_neg ne]; exact c1, by rw [mK_mk, if_neg ne]; exact c2⟩
theorem Bd.r {g : Gm} {h : Hp} {a ka k v : Nat} {K : List (Nat × Nat × Nat)} {R : List (Nat × Nat × Nat × Nat)} {Z : List Nat} (b : Bd g h K R Z) (ha : hK h a = ka) (hka : ka ≠ 0) (hd : ∀ t ∈ R, ¬ (t.1 = a ∧ t.2.2.1 = k)) : Bd g (sR h a k (some v)) K ((a, ka, k, v) :: R) Z := by
  obtain ⟨b1, b2, b3, b4⟩ := b
  refine ⟨b1, b2, fun t ht => ?_, b4⟩
  rcases List.mem_cons.mp ht with e | e
  · subst e
    exact ⟨ha, hka, by rw [rR_sR, if_pos ⟨rfl, rfl⟩]⟩
  · obtain ⟨c1, c2, c3⟩ := b3 t e
    exact ⟨c1, c2, by rw [rR_sR, if_neg (hd t e)]; exact c3⟩
theorem Bd.rk {g : Gm} {h : Hp} {a ka k v : Nat} {K : List (Nat × Nat × Nat)} {R : List (Nat × Nat × Nat × Nat)} {Z : List Nat} (b : Bd g h K R Z) (ha : hK h a = ka) (hka : ka ≠ 0) (hd : ∀ t ∈ R, ¬ (t.2.1 = ka ∧ t.2.2.1 = k)) : Bd g (sR h a k (some v)) K ((a, ka, k, v) :: R) Z :=
  b.r ha hka fun t ht z => hd t ht ⟨by rw [← (b.2.2.1 t ht).1, z.1]; exact ha, z.2⟩
theorem Bd.i {g : Gm} {h : Hp} {a k : Nat} {v : Int32} {K : List (Nat × Nat × Nat)} {R : List (Nat × Nat × Nat × Nat)} {Z : List Nat} (b : Bd g h K R Z) (hk : k ≠ 1) : Bd g (sI h a k v) K R Z := by
  obtain ⟨b1, b2, b3, b4⟩ := b
  refine ⟨b1, b2, b3, fun c hc => ⟨?_, (b4 c hc).2⟩⟩
  rw [rI_sI, if_neg (fun z => hk z.2.symm)]
  exact (b4 c hc).1
theorem Bd.lst {g : Gm} {h : Hp} {q : Nat} {K : List (Nat × Nat × Nat)} {R : List (Nat × Nat × Nat × Nat)} {Z : List Nat} {post : Hp → Prop} (b : Bd g h K R Z) (hq : hK h q = 0) (gq : g.2.2 0 ≤ q) (hp : ∀ h' : Hp, Bd g h' ((q, 6, 0) :: K) ((q, 6, 0, g.2.2 1) :: R) (q :: Z) → post h') : wp_A_init g post (mkC h q 6 0) q := by
  have b1 := b.mk (kd := 6) (n := 0) hq gq (by decide)
  have k6 : hK (mkC h q 6 0) q = 6 := by rw [mK_mk, if_pos rfl]
  unfold wp_A_init wp_B_init wp_C_init
  refine ⟨k6, fun h4 e4 => ?_⟩
  subst e4
  refine ⟨k6, fun h5 e5 => hp h5 ?_⟩
  subst e5
  refine (b1.i (by decide)).r k6 (by decide) fun t ht z => ?_
  obtain ⟨c1, c2, -⟩ := b.2.2.1 t ht
  rw [z.1, hq] at c1
  exact c2 c1.symm
theorem Bd.fr {g : Gm} {h h' : Hp} {S : Nat → Prop} {K : List (Nat × Nat × Nat)} {R : List (Nat × Nat × Nat × Nat)} {Z : List Nat} (b : Bd g h K R Z) (f : Fr S h h') (hS : ∀ a : Nat, hK h a ≠ 0 → ¬ S a) : Bd g h' K R Z := by
  obtain ⟨b1, b2, b3, b4⟩ := b
  refine ⟨fun t ht => ?_, b2, fun t ht => ?_, fun a ha => ?_⟩
  · obtain ⟨c1, c2, c3, c4, c5⟩ := b1 t ht
    have nz : hK h t.1 ≠ 0 := by rw [c1]; exact c3
    obtain ⟨f1, f2, f3⟩ := f t.1 nz
    exact ⟨f1.trans c1, f2.trans c2, c3, c4, fun j => by rw [(f3 (hS _ nz)).2.1]; exact c5 j⟩
  · obtain ⟨c1, c2, c3⟩ := b3 t ht
    have nz : hK h t.1 ≠ 0 := by rw [c1]; exact c2
    obtain ⟨f1, f2, f3⟩ := f t.1 nz
    exact ⟨f1.trans c1, c2, by rw [(f3 (hS _ nz)).2.2]; exact c3⟩
  · obtain ⟨c1, c2⟩ := b4 a ha
    obtain ⟨f1, f2, f3⟩ := f a c2
    exact ⟨by rw [(f3 (hS _ c2)).1]; exact c1, by rw [f1]; exact c2⟩
/-- the parts of a new object x: D as in Sk -/
def KL (x : Nat) (D : Nat → Nat) : List (Nat × Nat × Nat) := [(D 9, 23, 30), (D 8, 23, 30), (D 7, 21, 30), (D 3, 6, 0), (D 2, 6, 0), (D 6, 3, 0), (D 1, 6, 0), (D 5, 2, 0), (D 0, 6, 0), (D 4, 22, 50), (x, 1, 0)]
def RL (g : Gm) (x : Nat) (D : Nat → Nat) : List (Nat × Nat × Nat × Nat) := [(x, 1, 3, D 6), (D 6, 3, 4, D 9), (D 6, 3, 3, D 8), (D 6, 3, 2, D 7), (D 6, 3, 1, D 3), (D 3, 6, 0, g.2.2 1), (D 6, 3, 0, D 2), (D 2, 6, 0, g.2.2 1), (x, 1, 2, D 5), (D 5, 2, 0, D 1), (D 1, 6, 0, g.2.2 1), (x, 1, 1, D 0), (D 0, 6, 0, g.2.2 1), (x, 1, 0, D 4)]
def ZL (x : Nat) (D : Nat → Nat) : List Nat := [D 9, D 8, D 7, D 3, D 2, D 6, D 1, D 5, D 0, D 4, x]
theorem S_init {g : Gm} {h : Hp} {x mc ms : Nat} {post : Hp → Prop} (b : Bd g h [(x, 1, 0)] [] [x]) (hmc : 10 ≤ mc) (hms : 158 ≤ ms) (hp : ∀ (h' : Hp) (D : Nat → Nat), Bd g h' (KL x D) (RL g x D) (ZL x D) → hI h' x 5 = 1 → hI h' x 4 = 0 → post h') : wp_S_init g post mc ms h x := by
  have hx : ∀ {h : Hp} {K : List (Nat × Nat × Nat)} {R : List (Nat × Nat × Nat × Nat)} {Z : List Nat}, Bd g h K R Z → (x, 1, 0) ∈ K → hK h x = 1 := fun b m => (b.1 _ m).1
  unfold wp_S_init
  refine ⟨by omega, by omega, fun q1 z1 w1 h2 e2 => ?_⟩
  subst e2
  have b1 := b.mk (kd := 22) (n := 50) z1 w1 (by decide)
  refine ⟨hx b1 (by simp), fun h4 e4 => ?_⟩
  have b2 := b1.rk (k := 0) (v := q1) (hx b1 (by simp)) (by decide) (by simp)
  rw [← e4] at b2
  clear e4 b1 z1
  refine ⟨by omega, by omega, fun q5 z5 w5 h6 e6 => ?_⟩
  subst e6
  refine b2.lst z5 w5 fun h8 b3 => ?_
  clear b2 z5
  refine ⟨hx b3 (by simp), fun h10 e10 => ?_⟩
  have b4 := b3.rk (k := 1) (v := q5) (hx b3 (by simp)) (by decide) (by simp)
  rw [← e10] at b4
  clear e10 b3
  refine ⟨by omega, by omega, fun q11 z11 w11 h12 e12 => ⟨1, 3, by omega, by omega, ?_⟩⟩
  subst e12
  have b5 := b4.mk (kd := 2) (n := 0) z11 w11 (by decide)
  clear b4
  unfold wp_W_init
  refine ⟨by omega, by omega, fun qw zw ww h13 e13 => ?_⟩
  subst e13
  refine b5.lst zw ww fun h14 b6 => ?_
  clear b5
  have k11 : hK h14 q11 = 2 := (b6.1 (q11, 2, 0) (by simp)).1
  refine ⟨k11, fun h15 e15 => ?_⟩
  have b7 := b6.rk (k := 0) (v := qw) k11 (by decide) (by simp)
  rw [← e15] at b7
  clear e15 b6 k11
  refine ⟨hx b7 (by simp), fun h18 e18 => ?_⟩
  have b8 := b7.rk (k := 2) (v := q11) (hx b7 (by simp)) (by decide) (by simp)
  rw [← e18] at b8
  clear e18 b7
  refine ⟨by omega, by omega, fun q19 z19 w19 h20 e20 => ⟨5, 96, by omega, by omega, ?_⟩⟩
  subst e20
  have b9 := b8.mk (kd := 3) (n := 0) z19 w19 (by decide)
  clear b8
  unfold wp_G_init
  refine ⟨by omega, by omega, fun qm zm wm h21 e21 => ?_⟩
  subst e21
  refine b9.lst zm wm fun h22 b10 => ?_
  clear b9
  have k19 : hK h22 q19 = 3 := (b10.1 (q19, 3, 0) (by simp)).1
  refine ⟨k19, fun h23 e23 => ?_⟩
  have b11 := b10.rk (k := 0) (v := qm) k19 (by decide) (by simp)
  rw [← e23] at b11
  clear e23 b10 k19
  refine ⟨by omega, by omega, fun qr zr wr h24 e24 => ?_⟩
  subst e24
  refine b11.lst zr wr fun h25 b12 => ?_
  clear b11
  have k19 : hK h25 q19 = 3 := (b12.1 (q19, 3, 0) (by simp)).1
  refine ⟨k19, fun h26 e26 => ?_⟩
  have b13 := b12.rk (k := 1) (v := qr) k19 (by decide) (by simp)
  rw [← e26] at b13
  clear e26 b12 k19
  refine ⟨by omega, by omega, fun q13 z13 w13 h27 e27 => ?_⟩
  subst e27
  have b14 := b13.mk (kd := 21) (n := 30) z13 w13 (by decide)
  clear b13
  have k19 : hK _ q19 = 3 := (b14.1 (q19, 3, 0) (by simp)).1
  refine ⟨k19, fun h28 e28 => ?_⟩
  have b15 := b14.rk (k := 2) (v := q13) k19 (by decide) (by simp)
  rw [← e28] at b15
  clear e28 b14 k19
  refine ⟨by omega, by omega, fun q17 z17 w17 h29 e29 => ?_⟩
  subst e29
  have b16 := b15.mk (kd := 23) (n := 30) z17 w17 (by decide)
  clear b15
  have k19 : hK _ q19 = 3 := (b16.1 (q19, 3, 0) (by simp)).1
  refine ⟨k19, fun h30 e30 => ?_⟩
  have b17 := b16.rk (k := 3) (v := q17) k19 (by decide) (by simp)
  rw [← e30] at b17
  clear e30 b16 k19
  refine ⟨by omega, by omega, fun q21 z21 w21 h31 e31 => ?_⟩
  subst e31
  have b18 := b17.mk (kd := 23) (n := 30) z21 w21 (by decide)
  clear b17
  have k19 : hK _ q19 = 3 := (b18.1 (q19, 3, 0) (by simp)).1
  refine ⟨k19, fun h32 e32 => ?_⟩
  have b19 := b18.rk (k := 4) (v := q21) k19 (by decide) (by simp)
  rw [← e32] at b19
  clear e32 b18 k19
  refine ⟨hx b19 (by simp), fun h33 e33 => ?_⟩
  have b20 := b19.rk (k := 3) (v := q19) (hx b19 (by simp)) (by decide) (by simp)
  rw [← e33] at b20
  clear e33 b19
  refine ⟨hx b20 (by simp), fun h34 e34 => ?_⟩
  have b21 := b20.i (a := x) (k := 4) (v := 0) (by decide)
  rw [← e34] at b21
  have l34 : hI h34 x 4 = 0 := by rw [e34, rI_sI, if_pos ⟨rfl, rfl⟩]
  clear e34 b20
  refine ⟨hx b21 (by simp), Or.inr rfl, fun h35 e35 => ?_⟩
  have b22 := b21.i (a := x) (k := 5) (v := 1) (by decide)
  rw [← e35] at b22
  refine hp h35 (fun i => match i with
    | 0 => q5
    | 1 => qw
    | 2 => qm
    | 3 => qr
    | 4 => q1
    | 5 => q11
    | 6 => q19
    | 7 => q13
    | 8 => q17
    | _ => q21) b22 ?_ ?_
  · rw [e35, rI_sI, if_pos ⟨rfl, rfl⟩]
  · rw [e35, rI_sI, if_neg (by omega)]; exact l34
theorem CI.new {g : Gm} {Y : Nat → Prop} {h : Hp} {x : Nat} {D : Nat → Nat} (b : Bd g h (KL x D) (RL g x D) (ZL x D)) (hz : zB (hI h x 5)) (h01 : g.2.2 1 < g.2.2 0) (hY : ∀ a : Nat, Y a → hK h a ≠ 0) (hK' : ∀ t ∈ KL x D, ¬ Y t.1) (hg : ¬ Y (g.2.2 1)) : CI g Y (fun _ => False) h h x D (fun _ => g.2.2 1) (fun _ => 0) (fun _ => []) := by
  obtain ⟨b1, b2, b3, b4⟩ := b
  have rr : ∀ t ∈ RL g x D, hR h t.1 t.2.2.1 = some t.2.2.2 := fun t ht => (b3 t ht).2.2
  have kk : ∀ t ∈ KL x D, hK h t.1 = t.2.1 ∧ hN h t.1 = t.2.2 := fun t ht => ⟨(b1 t ht).1, (b1 t ht).2.1⟩
  have gg : ∀ t ∈ KL x D, t.1 ≠ g.2.2 1 := fun t ht z => by
    have := (b1 t ht).2.2.2.1
    rw [z] at this; omega
  have nd : (D 9 ≠ D 8) ∧ (D 3 ≠ D 2 ∧ D 3 ≠ D 1 ∧ D 3 ≠ D 0) ∧ (D 2 ≠ D 1 ∧ D 2 ≠ D 0) ∧ D 1 ≠ D 0 := by
    simp only [KL, List.map_cons, List.map_nil, List.nodup_cons, List.mem_cons, List.not_mem_nil, or_false, not_or] at b2
    obtain ⟨⟨n1, -⟩, -, -, ⟨n2, -, n3, -, n4, -⟩, ⟨-, n5, -, n6, -⟩, -, ⟨-, n7, -⟩, -⟩ := b2
    exact ⟨n1, ⟨n2, n3, n4⟩, ⟨n5, n6⟩, n7⟩
  have four : ∀ i : Nat, i < 4 → i = 0 ∨ i = 1 ∨ i = 2 ∨ i = 3 := fun i hi => by omega
  have ten : ∀ i : Nat, i < 10 → ∃ t ∈ KL x D, t.1 = D i := fun i hi => by
    have : i = 0 ∨ i = 1 ∨ i = 2 ∨ i = 3 ∨ i = 4 ∨ i = 5 ∨ i = 6 ∨ i = 7 ∨ i = 8 ∨ i = 9 := by omega
    rcases this with e | e | e | e | e | e | e | e | e | e <;> subst e
    · exact ⟨(D 0, 6, 0), by simp [KL], rfl⟩
    · exact ⟨(D 1, 6, 0), by simp [KL], rfl⟩
    · exact ⟨(D 2, 6, 0), by simp [KL], rfl⟩
    · exact ⟨(D 3, 6, 0), by simp [KL], rfl⟩
    · exact ⟨(D 4, 22, 50), by simp [KL], rfl⟩
    · exact ⟨(D 5, 2, 0), by simp [KL], rfl⟩
    · exact ⟨(D 6, 3, 0), by simp [KL], rfl⟩
    · exact ⟨(D 7, 21, 30), by simp [KL], rfl⟩
    · exact ⟨(D 8, 23, 30), by simp [KL], rfl⟩
    · exact ⟨(D 9, 23, 30), by simp [KL], rfl⟩
  have ls : ∀ i : Nat, i < 4 → Ls g h (D i) (g.2.2 1) 0 [] := fun i hi => by
    rcases four i hi with e | e | e | e <;> subst e
    · exact ⟨(kk (D 0, 6, 0) (by simp [KL])).1, (b4 (D 0) (by simp [ZL])).1, rr (D 0, 6, 0, g.2.2 1) (by simp [RL]), Nat.le_refl _, by omega, Or.inl ⟨rfl, rfl⟩⟩
    · exact ⟨(kk (D 1, 6, 0) (by simp [KL])).1, (b4 (D 1) (by simp [ZL])).1, rr (D 1, 6, 0, g.2.2 1) (by simp [RL]), Nat.le_refl _, by omega, Or.inl ⟨rfl, rfl⟩⟩
    · exact ⟨(kk (D 2, 6, 0) (by simp [KL])).1, (b4 (D 2) (by simp [ZL])).1, rr (D 2, 6, 0, g.2.2 1) (by simp [RL]), Nat.le_refl _, by omega, Or.inl ⟨rfl, rfl⟩⟩
    · exact ⟨(kk (D 3, 6, 0) (by simp [KL])).1, (b4 (D 3) (by simp [ZL])).1, rr (D 3, 6, 0, g.2.2 1) (by simp [RL]), Nat.le_refl _, by omega, Or.inl ⟨rfl, rfl⟩⟩
  have xm : (x, 1, 0) ∈ KL x D := by simp [KL]
  refine ⟨fun a _ => ⟨rfl, rfl, rfl, rfl, fun _ => rfl⟩, hY, ⟨(kk _ xm).1, hK' _ xm, gg _ xm, rr (x, 1, 0, D 4) (by simp [RL]), rr (x, 1, 1, D 0) (by simp [RL]), rr (x, 1, 2, D 5) (by simp [RL]), rr (x, 1, 3, D 6) (by simp [RL]), (kk (D 5, 2, 0) (by simp [KL])).1, rr (D 5, 2, 0, D 1) (by simp [RL]), (kk (D 6, 3, 0) (by simp [KL])).1, rr (D 6, 3, 0, D 2) (by simp [RL]), rr (D 6, 3, 1, D 3) (by simp [RL]), rr (D 6, 3, 2, D 7) (by simp [RL]), rr (D 6, 3, 3, D 8) (by simp [RL]), rr (D 6, 3, 4, D 9) (by simp [RL]), kk (D 4, 22, 50) (by simp [KL]), kk (D 7, 21, 30) (by simp [KL]), kk (D 8, 23, 30) (by simp [KL]), kk (D 9, 23, 30) (by simp [KL]), fun i hi => ?_, fun z => nd.1 z.symm⟩, (fun t ht => ht.elim), hz, ls, fun i _ => hg, fun i j hi hj hij => ⟨?_, fun _ => rfl⟩, (fun i _ t ht => nomatch ht), fun i _ => ⟨(by decide : (0 : Nat) ∈ CS), fun _ => Nat.zero_le 33⟩, h01, rfl⟩
  · obtain ⟨t, t1, t2⟩ := ten i hi
    rw [← t2]
    exact ⟨hK' t t1, gg t t1⟩
  · obtain ⟨-, ⟨n1, n2, n3⟩, ⟨n4, n5⟩, n6⟩ := nd
    rcases four i hi with e | e | e | e <;> rcases four j hj with e' | e' | e' | e' <;> subst e e' <;> first | exact absurd rfl hij | assumption | (intro z; first | exact n1 z.symm | exact n2 z.symm | exact n3 z.symm | exact n4 z.symm | exact n5 z.symm | exact n6 z.symm)
