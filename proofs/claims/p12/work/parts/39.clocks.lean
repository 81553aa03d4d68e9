/-! PURE: the class's own calls -/
section CL
variable {g : Gm} {Y P : Nat → Prop} {h0 h : Hp} {x : Nat} {D E C : Nat → Nat} {L : Nat → List Nat}
theorem S_find {i : Int32} {post : Option Nat → Prop} (c : CI g Y P h0 h x D E C L) (p0 : post none) (p1 : ∀ t : Nat, P t → post (some t)) : wp_S_find g post h x i := by
  have l := c.ls 0 (by omega)
  have hl := c.len (i := 0) (by omega)
  have k := c.sk.kx
  have r := c.sk.f1
  unfold wp_S_find wp_S_find_32 wp_S_find_33
  refine ⟨fun _ => p0, fun z => ⟨k, D 0, r, l.1, l.size ⟨fun _ => p0, fun z' => ⟨k, D 0, r, fun x10 e10 => ?_⟩⟩⟩⟩
  have h1 : (1 : Int32) = nI 1 := rfl
  obtain ⟨j, rfl, hj⟩ := nI_back (i := i) (fun y => z (Int32.lt_trans y (by decide)))
  have j1 : 1 ≤ j := by
    rcases Nat.lt_or_ge j 1 with q | q
    · exact absurd (by rw [h1]; exact nI_lt q (by omega)) z
    · exact q
  have j2 : j ≤ (L 0).length := by
    rcases Nat.lt_or_ge (L 0).length j with q | q
    · exact absurd (nI_lt q hj) z'
    · exact q
  obtain ⟨j, rfl⟩ : ∃ i, j = i + 1 := ⟨j - 1, by omega⟩
  rw [nI_pred] at e10
  subst e10
  have hm := c.mem (i := 0) (j := j) (by omega) (by omega)
  exact ⟨l.1, l.get (by omega) ⟨_, rfl, c.kT hm, p1 _ hm⟩⟩
theorem S_canHave {t s : Nat} {v : Int32} {post : Int32 → Prop} (c : CI g Y P h0 h x D E C L) (hs : s < 50) (hp : ∀ y : Int32, post y) : wp_S_canHave g post h x t (nI s) v := by
  have l := c.ls 0 (by omega)
  have hl := c.len (i := 0) (by omega)
  have k := c.sk.kx
  have r := c.sk.f1
  have loop : ∀ (d i : Nat), i + d = (L 0).length → wp_S_canHave_3 g post (d + 1) h x t (nI s) v (nI i) := by
    intro d
    induction d with
    | zero =>
      intro i e
      unfold wp_S_canHave_3
      exact ⟨k, D 0, r, l.1, l.size ⟨fun _ => ⟨Or.inr rfl, hp _⟩, fun z => absurd (nI_le (by omega) (by omega)) z⟩⟩
    | succ d ih =>
      intro i e
      have hm := c.mem (i := 0) (j := i) (by omega) (by omega)
      have km := c.kT hm
      obtain ⟨a2, r2, s2, t2, u2⟩ := (c.tk _ hm).row 2 21 (by decide)
      have nx : ∀ x1 : Int32, x1 = nI i + 1 → wp_S_canHave_3 g post (d + 1) h x t (nI s) v x1 := fun x1 e1 => by
        rw [nI_1] at e1; subst e1; exact ih (i + 1) (by omega)
      unfold wp_S_canHave_3 wp_S_canHave_51
      exact ⟨k, D 0, r, l.1, l.size ⟨fun _ => ⟨Or.inr rfl, hp _⟩, fun _ => ⟨k, D 0, r, l.1, l.get (by omega) ⟨_, rfl, km, fun _ => nx, fun _ => ⟨km, a2, r2, s2, by rw [t2]; exact vp_in_nI (by omega) (by omega), S_areTogether ⟨fun _ => nx, fun _ => ⟨Or.inl rfl, hp _⟩⟩ ⟨fun _ => nx, fun _ => ⟨Or.inl rfl, hp _⟩⟩⟩⟩⟩⟩⟩
  unfold wp_S_canHave
  exact ⟨(L 0).length + 1, loop _ 0 (by omega)⟩
theorem S_grantRows {post : Hp → Prop} (c : CI g Y P h0 h x D E C L) (hp : ∀ (h' : Hp) (L' : Nat → List Nat), Lz L L' 0 → CI g Y P h0 h' x D E C L' → post h') : wp_S_grantRows g post h x := by
  have h50 : (50 : Int32) = nI 50 := rfl
  have h30 : (30 : Int32) = nI 30 := rfl
  have inner : ∀ (K2 : Hp → Nat → Int32 → Prop) (s : Nat), s < 50 → (∀ (h' : Hp) (L' : Nat → List Nat), Lz L L' 0 → CI g Y P h0 h' x D E C L' → K2 h' x (nI (s + 1))) → ∀ (d i : Nat) (h : Hp) (L' : Nat → List Nat) (o : Option Nat), i + d = 30 → Lz L L' 0 → CI g Y P h0 h x D E C L' → (∀ t : Nat, o = some t → P t) → wp_S_grantRows_19 g post K2 (d + 1) h x (nI s) o (nI i) := by
    intro K2 s hs hK d
    induction d with
    | zero =>
      intro i h L' o e z c ho
      have e : i = 30 := by omega
      subst e
      unfold wp_S_grantRows_19 wp_S_grantRows_81
      refine ⟨fun _ x1 e1 => ?_, fun y => absurd (by decide) y⟩
      rw [nI_1] at e1; subst e1; exact hK h L' z c
    | succ d ih =>
      intro i h L' o e z c ho
      have out : ∀ x1 : Int32, x1 = nI s + 1 → K2 h x x1 := fun x1 e1 => by rw [nI_1] at e1; subst e1; exact hK h L' z c
      unfold wp_S_grantRows_19 wp_S_grantRows_81
      refine ⟨fun _ => out, fun _ => ⟨fun _ => out, fun t et => ?_⟩⟩
      have ht := ho t et
      refine ⟨c.kT ht, c.sk.kx, S_canHave c hs fun y => ⟨fun _ => ⟨c.sk.kx, D 5, c.sk.f2, c.sk.k5, W_leave c fun h11 L11 z11 c11 => ⟨c11.kT ht, c11.kT ht, T_take c11 ht hs fun h14 c14 => ⟨c14.kT ht, T_stopWaiting c14 ht fun h16 c16 => ⟨c16.sk.kx, D 5, c16.sk.f2, c16.sk.k5, ?_⟩⟩⟩⟩, fun _ => out⟩⟩
      have nx : ∀ r : Option Nat, (∀ t : Nat, r = some t → P t) → ∀ x22 : Int32, x22 = nI i + 1 → wp_S_grantRows_19 g post K2 (d + 1) h16 x (nI s) r x22 := fun r hr x22 e22 => by
        rw [nI_1] at e22; subst e22; exact ih (i + 1) h16 L11 r (by omega) (z.tr z11) c16 hr
      exact W_first c16 (nx none (fun t q => nomatch q)) (fun t ht' => nx (some t) (fun u q => by cases q; exact ht'))
  have outer : ∀ (d s : Nat) (h : Hp) (L' : Nat → List Nat), s + d = 50 → Lz L L' 0 → CI g Y P h0 h x D E C L' → wp_S_grantRows_2 g post (d + 1) h x (nI s) := by
    intro d
    induction d with
    | zero =>
      intro s h L' e z c
      have e : s = 50 := by omega
      subst e
      unfold wp_S_grantRows_2
      exact ⟨fun _ => hp h L' z c, fun y => absurd (by decide) y⟩
    | succ d ih =>
      intro s h L' e z c
      unfold wp_S_grantRows_2
      refine ⟨fun y => ?_, fun _ => ⟨c.sk.kx, D 5, c.sk.f2, c.sk.k5, ?_⟩⟩
      · rw [h50] at y
        have := (nI_leI (by omega) (by omega)).mp y
        omega
      · have go : ∀ r : Option Nat, (∀ t : Nat, r = some t → P t) → ∃ n : Nat, wp_S_grantRows_19 g post (fun h v0 v1 => wp_S_grantRows_2 g post (d + 1) h v0 v1) n h x (nI s) r 0 := fun r hr => ⟨31, inner _ s (by omega) (fun h' L'' z'' c'' => ih (s + 1) h' L'' (by omega) z'' c'') 30 0 h L' r rfl z c hr⟩
        exact W_first c (go none (fun t q => nomatch q)) (fun t ht' => go (some t) (fun u q => by cases q; exact ht'))
  unfold wp_S_grantRows
  exact ⟨51, outer 50 0 h L rfl Lz.rf c⟩
theorem S_letGo {t : Nat} {v : Int32} {post : Hp → Prop} (c : CI g Y P h0 h x D E C L) (ht : P t) (hp : ∀ (h' : Hp) (L' : Nat → List Nat), Lz L L' 0 → CI g Y P h0 h' x D E C L' → post h') : wp_S_letGo g post h x t v := by
  unfold wp_S_letGo
  refine ⟨c.sk.kx, D 5, c.sk.f2, c.sk.k5, W_leave c fun h4 L4 z4 c4 => ⟨c4.kT ht, T_forget c4 ht fun h6 c6 => ⟨c6.kT ht, fun h8 e8 => ?_⟩⟩⟩
  subst e8
  have c8 := c6.wT (k := 9) (v := v) ht
  exact ⟨c8.sk.kx, S_grantRows c8 fun h' L' z' c' => hp h' L' (z4.tr z') c'⟩
theorem S_breakRings {t mc ms : Nat} {post : Int32 → Hp → Prop} (c : CI g Y P h0 h x D E C L) (ht : P t) (hn : (L 0).length ≤ 30) (hmc : 240 ≤ mc) (hms : 4800 ≤ ms)
    (hp : ∀ (y : Int32) (h' : Hp) (E' C' : Nat → Nat) (L' : Nat → List Nat), Lz L L' 0 → CI g Y P h0 h' x D E' C' L' → post y h') : wp_S_breakRings g post mc ms h x t := by
  have q66 : ∀ (v : Int32) (h : Hp) (E C : Nat → Nat) (L' : Nat → List Nat) (kc ks : Nat), Lz L L' 0 → CI g Y P h0 h x D E C L' → wp_S_breakRings_66 g post mc ms h kc ks t v := fun v h E C L' kc ks z c => by
    unfold wp_S_breakRings_66 wp_S_breakRings_89
    have k := c.kT ht
    exact ⟨k, fun _ => ⟨k, fun _ => hp _ h E C L' z c, fun _ => hp _ h E C L' z c⟩, fun _ => hp _ h E C L' z c⟩
  have loop : ∀ (v : Int32) (d i : Nat) (h : Hp) (E C : Nat → Nat) (L' : Nat → List Nat) (kc ks : Nat), i + d = 30 → Lz L L' 0 → CI g Y P h0 h x D E C L' → kc + 8 * d ≤ mc → ks + 160 * d ≤ ms → wp_S_breakRings_7 g post mc ms (d + 1) h kc ks x t v (nI i) := by
    intro v d
    induction d with
    | zero =>
      intro i h E C L' kc ks e z c k1 k2
      have e : i = 30 := by omega
      subst e
      have q := q66 v h E C L' kc ks z c
      unfold wp_S_breakRings_7
      exact ⟨fun _ => q, fun y => absurd (by decide) y⟩
    | succ d ih =>
      intro i h E C L' kc ks e z c k1 k2
      have q := q66 v h E C L' kc ks z c
      unfold wp_S_breakRings_7
      refine ⟨fun _ => q, fun _ => ⟨c.sk.kx, D 6, c.sk.f3, c.sk.kx, D 0, c.sk.f1, c.sk.kx, D 5, c.sk.f2, c.sk.k6, 8, 160, by omega, by omega, G_search c ht (by rw [z.1]; exact hn) (by omega) (by omega) fun y h9 E9 C9 L9 c9 e0 e1 => ?_⟩⟩
      have z9 : Lz L L9 0 := z.tr (k' := 0) ⟨e0, by rw [e1]; omega⟩
      refine ⟨fun _ => q66 v h9 E9 C9 L9 _ _ z9 c9, fun _ => ⟨c9.sk.kx, D 6, c9.sk.f3, c9.sk.k6, G_youngest c9 ht fun u hu => ⟨u, rfl, c9.kT hu, fun x21 _ => ⟨c9.kT hu, fun h23 e23 => ?_⟩⟩⟩⟩
      have c23 : CI g Y P h0 h23 x D E9 C9 L9 := by rw [e23]; exact c9.wT hu
      refine ⟨c23.sk.kx, S_letGo c23 hu fun h25 L25 z25 c25 x26 e26 => ?_⟩
      rw [nI_1] at e26
      subst e26
      exact ih (i + 1) h25 E9 C9 L25 _ _ (by omega) (z9.tr z25) c25 (by omega) (by omega)
  unfold wp_S_breakRings
  exact ⟨c.kT ht, 31, loop _ 30 0 h E C L 0 0 rfl Lz.rf c (by omega) (by omega)⟩
theorem S_askForLock {t s mc ms : Nat} {v : Int32} {post : Int32 → Hp → Prop} (c : CI g Y P h0 h x D E C L) (ht : P t) (hs : s < 50) (hn : (L 0).length ≤ 30) (hw : (L 1).length ≤ 511) (hmc : 241 ≤ mc) (hms : 5349 ≤ ms)
    (hp : ∀ (y : Int32) (h' : Hp) (E' C' : Nat → Nat) (L' : Nat → List Nat), Lz L L' 1 → CI g Y P h0 h' x D E' C' L' → post y h') : wp_S_askForLock g post mc ms h x t (nI s) v := by
  have up : ∀ (y : Int32) (h' : Hp) (E' C' : Nat → Nat) (L' : Nat → List Nat), Lz L L' 0 → CI g Y P h0 h' x D E' C' L' → post y h' := fun y h' E' C' L' z c => hp y h' E' C' L' ⟨z.1, by have := z.2; omega⟩ c
  have k := c.kT ht
  obtain ⟨a2, r2, s2, t2, u2⟩ := (c.tk t ht).row 2 21 (by decide)
  have i2 : vp_in (nI s) (hN h a2) := by rw [t2]; exact vp_in_nI (by omega) (by omega)
  have q96 : wp_S_askForLock_96 g post mc ms h 0 0 x t (nI s) v := by
    unfold wp_S_askForLock_96
    refine ⟨k, fun h2 e2 => ?_⟩
    have c2 : CI g Y P h0 h2 x D E C L := by rw [e2]; exact c.wT ht
    refine ⟨c2.kT ht, fun h4 e4 => ?_⟩
    have c4 : CI g Y P h0 h4 x D E C L := by rw [e4]; exact c2.wT ht
    refine ⟨c4.kT ht, fun h6 e6 => ?_⟩
    have c6 : CI g Y P h0 h6 x D E C L := by rw [e6]; exact c4.wT ht
    refine ⟨c6.sk.kx, D 5, c6.sk.f2, c6.sk.k5, 1, 549, by omega, by omega, W_enter c6 ht hw (by omega) (by omega) fun h10 E' C' L' z10 c10 => ⟨c10.sk.kx, 240, 4800, by omega, by omega, ?_⟩⟩
    exact S_breakRings c10 ht (by rw [z10.1]; exact hn) (by omega) (by omega) fun y h14 E2 C2 L2 z2 c14 => hp y h14 E2 C2 L2 (z10.tr z2) c14
  have q71 : ∀ y : Int32, wp_S_askForLock_71 g post mc ms h 0 0 x t (nI s) v y := fun y => by
    unfold wp_S_askForLock_71
    exact ⟨fun _ => q96, fun _ => ⟨c.sk.kx, S_canHave c hs fun w => ⟨fun _ => q96, fun _ => ⟨k, T_take c ht hs fun h7 c7 => up _ h7 E C L Lz.rf c7⟩⟩⟩⟩
  have q49 : ∀ y : Int32, wp_S_askForLock_49 g post mc ms h 0 0 x t (nI s) v y := fun y => by
    unfold wp_S_askForLock_49 wp_S_askForLock_66
    exact ⟨fun _ => q71 1, fun _ => ⟨c.sk.kx, D 5, c.sk.f2, c.sk.k5, W_first c ⟨fun _ => q71 1, fun a7 q => nomatch q⟩ fun u hu => ⟨(fun q => nomatch q), fun a7 _ => q71 0⟩⟩⟩
  unfold wp_S_askForLock
  exact ⟨k, a2, r2, s2, i2, fun _ => ⟨fun _ => q49 _, fun _ => ⟨c.sk.kx, fun _ => q49 _, fun _ => ⟨k, c.sk.kx, fun _ => q49 _, fun _ => ⟨c.sk.kx, S_letGo c ht fun h12 L12 z12 c12 => up _ h12 E C L12 z12 c12⟩⟩⟩⟩, fun _ => up _ h E C L Lz.rf c⟩
theorem S_ask {mc ms : Nat} {i1 i2 i3 : Int32} {post : Int32 → Hp → Prop} (c : CI g Y P h0 h x D E C L) (hn : (L 0).length ≤ 30) (hw : (L 1).length ≤ 511) (hmc : 241 ≤ mc) (hms : 5349 ≤ ms)
    (hp : ∀ (y : Int32) (h' : Hp) (E' C' : Nat → Nat) (L' : Nat → List Nat), Lz L L' 1 → CI g Y P h0 h' x D E' C' L' → post y h') : wp_S_ask g post mc ms h x i1 i2 i3 := by
  have up : ∀ (y : Int32) (h' : Hp), CI g Y P h0 h' x D E C L → post y h' := fun y h' c => hp y h' E C L ⟨rfl, by omega⟩ c
  unfold wp_S_ask wp_S_ask_31
  refine ⟨c.sk.kx, S_find c ⟨fun _ => up _ _ c, fun a4 q => nomatch q⟩ fun t ht => ⟨(fun q => nomatch q), fun a4 q => ?_⟩⟩
  cases q
  refine S_isSegment (fun s es s1 => ⟨fun z => absurd z (by decide), fun _ => ⟨fun _ => up _ _ c, fun _ => ⟨fun _ => ⟨c.kT ht, fun _ => ⟨fun _ => ?_, fun _ => ?_⟩, fun _ => up _ _ c⟩, fun _ => up _ _ c⟩⟩⟩) ⟨fun _ => up _ _ c, fun z => absurd rfl z⟩
  · subst es
    exact ⟨c.sk.kx, 241, 5349, by omega, by omega, S_askForLock c ht s1 hn hw (by omega) (by omega) hp⟩
  · subst es
    obtain ⟨a3, r3, s3, t3, u3⟩ := (c.tk t ht).row 3 23 (by decide)
    refine ⟨c.kT ht, a3, r3, s3, by rw [t3]; exact vp_in_nI (by omega) (by omega), Or.inr rfl, fun h22 e22 => up _ _ ?_⟩
    rw [e22]; exact c.wA s3 (by omega) u3
theorem S_write {i1 i2 : Int32} {v : Int64} {post : Int32 → Hp → Prop} (c : CI g Y P h0 h x D E C L) (hp : ∀ (y : Int32) (h' : Hp), CI g Y P h0 h' x D E C L → post y h') : wp_S_write g post h x i1 i2 v := by
  unfold wp_S_write
  refine ⟨c.sk.kx, S_find c ⟨fun _ => hp _ _ c, fun a4 q => nomatch q⟩ fun t ht => ⟨(fun q => nomatch q), fun a4 q => ?_⟩⟩
  cases q
  refine S_isSegment (fun s es s1 => ⟨fun _ => ⟨c.kT ht, fun _ => ?_, fun _ => hp _ _ c⟩, fun z => absurd z (by decide)⟩) ⟨fun z => absurd rfl z, fun _ => hp _ _ c⟩
  subst es
  obtain ⟨a2, r2, s2, t2, u2⟩ := (c.tk t ht).row 2 21 (by decide)
  exact ⟨c.kT ht, a2, r2, s2, by rw [t2]; exact vp_in_nI (by omega) (by omega), fun _ => ⟨c.kT ht, T_keep c ht s1 fun h' c' => hp _ _ c'⟩, fun _ => hp _ _ c⟩
theorem S_agree {t : Nat} {post : Hp → Prop} (c : CI g Y P h0 h x D E C L) (ht : P t) (hp : ∀ (h' : Hp) (L' : Nat → List Nat), Lz L L' 0 → CI g Y P h0 h' x D E C L' → post h') : wp_S_agree g post h x t := by
  have h50 : (50 : Int32) = nI 50 := rfl
  have loop : ∀ (d s : Nat) (h : Hp), s + d = 50 → CI g Y P h0 h x D E C L → wp_S_agree_18 g post (d + 1) h x t (nI s) := by
    intro d
    induction d with
    | zero =>
      intro s h e c
      have e : s = 50 := by omega
      subst e
      unfold wp_S_agree_18
      exact ⟨fun _ => ⟨c.sk.kx, S_letGo c ht hp⟩, fun y => absurd (by decide) y⟩
    | succ d ih =>
      intro s h e c
      have k := c.kT ht
      obtain ⟨a4, r4, s4, t4, u4⟩ := (c.tk t ht).row 4 23 (by decide)
      obtain ⟨a5, r5, s5, t5, u5⟩ := (c.tk t ht).row 5 22 (by decide)
      obtain ⟨k4, n4⟩ := c.sk.k4
      have nx : ∀ h' : Hp, CI g Y P h0 h' x D E C L → ∀ x1 : Int32, x1 = nI s + 1 → wp_S_agree_18 g post (d + 1) h' x t x1 := fun h' c' x1 e1 => by
        rw [nI_1] at e1; subst e1; exact ih (s + 1) h' (by omega) c'
      unfold wp_S_agree_18 wp_S_agree_45
      refine ⟨fun y => ?_, fun _ => ⟨k, a4, r4, s4, by rw [t4]; exact vp_in_nI (by omega) (by omega), fun _ => nx h c, fun _ => ⟨c.sk.kx, D 4, c.sk.f0, k, a5, r5, s5, by rw [t5]; exact vp_in_nI (by omega) (by omega), k4, by rw [n4]; exact vp_in_nI (by omega) (by omega), fun h14 e14 => nx h14 ?_⟩⟩⟩
      · rw [h50] at y
        have := (nI_leI (by omega) (by omega)).mp y
        omega
      · rw [e14]; exact c.wJ (c.sk.dy 4 (by omega)).1
  unfold wp_S_agree wp_S_agree_16
  refine ⟨c.sk.kx, D 4, c.sk.f0, c.kT ht, T_isInOrder c ht fun y => ⟨fun _ => ⟨51, loop 50 0 h rfl c⟩, fun _ => ⟨c.sk.kx, Or.inl rfl, fun h8 e8 => ⟨51, loop 50 0 h8 rfl ?_⟩⟩⟩⟩
  rw [e8]
  exact c.wI (by rw [c.sk.kx]; decide) c.sk.yx (fun _ _ => Or.inl rfl) (fun _ => by decide)
theorem S_sync {i : Int32} {post : Int32 → Hp → Prop} (c : CI g Y P h0 h x D E C L) (hp : ∀ (y : Int32) (h' : Hp) (L' : Nat → List Nat), Lz L L' 0 → CI g Y P h0 h' x D E C L' → post y h') : wp_S_sync g post h x i := by
  unfold wp_S_sync
  refine ⟨c.sk.kx, S_find c ⟨fun _ => hp _ _ L Lz.rf c, fun a4 q => nomatch q⟩ fun t ht => ⟨(fun q => nomatch q), fun a4 q => ?_⟩⟩
  cases q
  exact ⟨c.kT ht, fun _ => ⟨c.kT ht, c.sk.kx, S_agree c ht fun h' L' z' c' => hp _ h' L' z' c'⟩, fun _ => hp _ _ L Lz.rf c⟩
theorem S_checkpoint {i : Int32} {post : Int32 → Hp → Prop} (c : CI g Y P h0 h x D E C L) (hp : ∀ (y : Int32) (h' : Hp) (L' : Nat → List Nat), Lz L L' 0 → CI g Y P h0 h' x D E C L' → post y h') : wp_S_checkpoint g post h x i := by
  unfold wp_S_checkpoint
  refine ⟨c.sk.kx, S_find c ⟨fun _ => hp _ _ L Lz.rf c, fun a4 q => nomatch q⟩ fun t ht => ⟨(fun q => nomatch q), fun a4 q => ?_⟩⟩
  cases q
  exact ⟨c.kT ht, fun _ => ⟨c.kT ht, c.sk.kx, S_agree c ht fun h' L' z' c' => hp _ h' L' z' c'⟩, fun _ => hp _ _ L Lz.rf c⟩
theorem S_backout {i : Int32} {post : Int32 → Hp → Prop} (c : CI g Y P h0 h x D E C L) (hp : ∀ (y : Int32) (h' : Hp) (L' : Nat → List Nat), Lz L L' 0 → CI g Y P h0 h' x D E C L' → post y h') : wp_S_backout g post h x i := by
  unfold wp_S_backout
  refine ⟨c.sk.kx, S_find c ⟨fun _ => hp _ _ L Lz.rf c, fun a4 q => nomatch q⟩ fun t ht => ⟨(fun q => nomatch q), fun a4 q => ?_⟩⟩
  cases q
  exact ⟨c.kT ht, fun _ => ⟨c.kT ht, c.sk.kx, S_letGo c ht fun h' L' z' c' => hp _ h' L' z' c'⟩, fun _ => hp _ _ L Lz.rf c⟩
theorem S_dead {i : Int32} {post : Int32 → Hp → Prop} (c : CI g Y P h0 h x D E C L) (hp : ∀ (y : Int32) (h' : Hp) (L' : Nat → List Nat), Lz L L' 0 → CI g Y P h0 h' x D E C L' → post y h') : wp_S_dead g post h x i := by
  unfold wp_S_dead
  refine ⟨c.sk.kx, S_find c ⟨fun _ => hp _ _ L Lz.rf c, fun a4 q => nomatch q⟩ fun t ht => ⟨(fun q => nomatch q), fun a4 q => ?_⟩⟩
  cases q
  exact ⟨c.kT ht, c.sk.kx, S_letGo c ht fun h' L' z' c' => hp _ h' L' z' c'⟩
theorem S_ring {i : Int32} {post : Int32 → Prop} (c : CI g Y P h0 h x D E C L) (hp : ∀ y : Int32, post y) : wp_S_ring g post h x i := by
  unfold wp_S_ring
  exact ⟨c.sk.kx, D 6, c.sk.f3, c.sk.k6, G_member c fun y => hp y⟩
theorem S_limit {i : Int32} {post : Int32 → Hp → Prop} (c : CI g Y P h0 h x D E C L) (p1 : ∀ h' : Hp, 0 ≤ i → CI g Y P (sI h0 x 4 i) h' x D E C L → post (hI h0 x 4) h') (p0 : ¬ 0 ≤ i → post (-4) h) : wp_S_limit g post h x i := by
  unfold wp_S_limit
  refine ⟨fun z => ⟨c.sk.kx, c.sk.kx, fun h4 e4 => ?_⟩, p0⟩
  rw [c.lm]
  refine p1 h4 z ?_
  rw [e4]
  have s := c.sk
  refine ⟨fun b hb => ?_, c.yk, ⟨s.kx, s.yx, s.x1, s.f0, s.f1, s.f2, s.f3, s.k5, s.w0, s.k6, s.r0, s.r1, s.r2, s.r3, s.r4, s.k4, s.k7, s.k8, s.k9, s.dy, s.d89⟩, c.tk, ?_, fun j hj => ?_, c.ey, c.dd, c.lp, c.cp, c.h01, ?_⟩
  · have ne : b ≠ x := fun z => s.yx (z ▸ hb)
    obtain ⟨u1, u2, u3, u4⟩ := c.un b hb
    exact ⟨u1, u2, by rw [sI_o ne, sI_o ne]; exact u3, u4⟩
  · rw [rI_sI, if_neg (by omega)]; exact c.zb
  · have l := c.ls j hj
    refine ⟨l.1, ?_, l.2.2⟩
    rw [rI_sI, if_neg (by omega)]; exact l.2.1
  · rw [rI_sI, rI_sI, if_pos ⟨rfl, rfl⟩, if_pos ⟨rfl, rfl⟩]
theorem S_holder {i : Int32} {post : Int32 → Prop} (c : CI g Y P h0 h x D E C L) (hp : ∀ y : Int32, post y) : wp_S_holder g post h x i := by
  have l := c.ls 0 (by omega)
  have hl := c.len (i := 0) (by omega)
  have k := c.sk.kx
  have r := c.sk.f1
  unfold wp_S_holder
  refine S_isSegment (fun s es s1 => ⟨fun _ => ⟨(L 0).length + 1, ?_⟩, fun z => absurd z (by decide)⟩) ⟨fun z => absurd rfl z, fun _ => hp _⟩
  subst es
  have loop : ∀ (d i : Nat) (v w : Int32), i + d = (L 0).length → wp_S_holder_17 g post (d + 1) h x (nI s) v w (nI i) := by
    intro d
    induction d with
    | zero =>
      intro i v w e
      unfold wp_S_holder_17
      exact ⟨k, D 0, r, l.1, l.size ⟨fun _ => hp _, fun z => absurd (nI_le (by omega) (by omega)) z⟩⟩
    | succ d ih =>
      intro i v w e
      have hm := c.mem (i := 0) (j := i) (by omega) (by omega)
      have km := c.kT hm
      obtain ⟨a2, r2, s2, t2, u2⟩ := (c.tk _ hm).row 2 21 (by decide)
      have i2 : vp_in (nI s) (hN h a2) := by rw [t2]; exact vp_in_nI (by omega) (by omega)
      have nx : ∀ v w x1 : Int32, x1 = nI i + 1 → wp_S_holder_17 g post (d + 1) h x (nI s) v w x1 := fun v w x1 e1 => by
        rw [nI_1] at e1; subst e1; exact ih (i + 1) v w (by omega)
      unfold wp_S_holder_17 wp_S_holder_68
      exact ⟨k, D 0, r, l.1, l.size ⟨fun _ => hp _, fun _ => ⟨k, D 0, r, l.1, l.get (by omega) ⟨_, rfl, km, km, a2, r2, s2, i2, fun _ => nx _ _, fun _ => ⟨km, a2, r2, s2, i2, km, nx _ _⟩⟩⟩⟩⟩
  exact loop _ 0 (-1) 0 (by omega)
theorem S_serial {post : Int32 → Prop} (c : CI g Y P h0 h x D E C L) (hp : ∀ y : Int32, post y) : wp_S_serial g post h x := by
  unfold wp_S_serial
  exact ⟨c.sk.kx, c.zb, hp _⟩
theorem S_state {i i2 : Int32} {post : Int32 → Prop} (c : CI g Y P h0 h x D E C L) (hp : ∀ y : Int32, post y) : wp_S_state g post h x i i2 := by
  unfold wp_S_state
  refine ⟨c.sk.kx, S_find c ⟨fun _ => hp _, fun a4 q => nomatch q⟩ fun t ht => ⟨(fun q => nomatch q), fun a4 q => ?_⟩⟩
  cases q
  have k := c.kT ht
  exact ⟨fun _ => hp _, fun _ => ⟨k, hp _⟩, fun _ => ⟨k, hp _⟩, fun _ => ⟨k, hp _⟩, fun _ => ⟨k, hp _⟩, fun _ => ⟨k, hp _⟩, fun _ => ⟨c.sk.kx, D 5, c.sk.f2, c.sk.k5, W_countAhead c ht fun y => hp y⟩⟩
theorem S_latest {s : Nat} {post : Int64 → Prop} (c : CI g Y P h0 h x D E C L) (hs : s < 50) (hp : ∀ y : Int64, post y) : wp_S_latest g post h x (nI s) := by
  have l := c.ls 0 (by omega)
  have hl := c.len (i := 0) (by omega)
  have k := c.sk.kx
  have r := c.sk.f1
  obtain ⟨k4, n4⟩ := c.sk.k4
  have i4 : vp_in (nI s) (hN h (D 4)) := by rw [n4]; exact vp_in_nI (by omega) (by omega)
  have loop : ∀ (d i : Nat), i + d = (L 0).length → wp_S_latest_2 g post (d + 1) h x (nI s) (nI i) := by
    intro d
    induction d with
    | zero =>
      intro i e
      unfold wp_S_latest_2
      exact ⟨k, D 0, r, l.1, l.size ⟨fun _ => ⟨k, D 4, c.sk.f0, k4, i4, hp _⟩, fun z => absurd (nI_le (by omega) (by omega)) z⟩⟩
    | succ d ih =>
      intro i e
      have hm := c.mem (i := 0) (j := i) (by omega) (by omega)
      have km := c.kT hm
      obtain ⟨a4, r4, s4, t4, u4⟩ := (c.tk _ hm).row 4 23 (by decide)
      obtain ⟨a5, r5, s5, t5, u5⟩ := (c.tk _ hm).row 5 22 (by decide)
      unfold wp_S_latest_2
      refine ⟨k, D 0, r, l.1, l.size ⟨fun _ => ⟨k, D 4, c.sk.f0, k4, i4, hp _⟩, fun _ => ⟨k, D 0, r, l.1, l.get (by omega) ⟨_, rfl, km, km, a4, r4, s4, by rw [t4]; exact vp_in_nI (by omega) (by omega), fun _ x21 e21 => ?_, fun _ => ⟨km, a5, r5, s5, by rw [t5]; exact vp_in_nI (by omega) (by omega), hp _⟩⟩⟩⟩⟩
      rw [nI_1] at e21; subst e21; exact ih (i + 1) (by omega)
  unfold wp_S_latest
  exact ⟨(L 0).length + 1, loop _ 0 (by omega)⟩
end CL
