/-! PURE: the class's rings -/
/-- what a list may still cost until it holds 31: arrays, places -/
def pc (c : Nat) : Nat := if c = 0 then 4 else if c = 10 then 3 else if c = 15 then 2 else if c = 22 then 1 else 0
def ps (c : Nat) : Nat := if c = 0 then 80 else if c = 10 then 70 else if c = 15 then 55 else if c = 22 then 33 else 0
/-- the places behind, once it holds n -/
def fc (c n : Nat) : Nat := if n ≤ c then c else if n ≤ 10 then 10 else if n ≤ 15 then 15 else if n ≤ 22 then 22 else 33
theorem fc_le {c n : Nat} (h : n ≤ c) : fc c n = c := if_pos h
theorem fc_all : ∀ c ∈ CS, c ≤ 30 → ∀ n : Nat, n < 32 → c < n → fc (capN c) n = fc c n ∧ pc (fc c n) + 1 ≤ pc c ∧ ps (fc c n) + capN c ≤ ps c := by decide
theorem pc_all : ∀ c ∈ CS, c ≤ 30 → pc c = pc (capN c) + 1 ∧ ps c = ps (capN c) + capN c := by decide
theorem pc_le : ∀ c ∈ CS, pc c ≤ 4 ∧ ps c ≤ 80 := by decide
theorem fc_pc : ∀ c ∈ CS, c ≤ 33 → ∀ n : Nat, n < 32 → pc (fc c n) ≤ pc c ∧ ps (fc c n) ≤ ps c := by decide
/-- how many are newly reached from place i on -/
def rc (B R : Nat → Int32) (T : List Nat) (st : Nat) : Nat → Nat → Nat
  | 0, _ => 0
  | d + 1, i => if B i = 0 then rc B R T st d (i + 1) else if ¬ R i = 0 then rc B R T st d (i + 1) else if T.getD i 0 = st then 0 else rc B R T st d (i + 1) + 1
theorem rc_congr {B R B' R' : Nat → Int32} {T : List Nat} {st : Nat} : ∀ d i : Nat, (∀ j : Nat, i ≤ j → B' j = B j ∧ R' j = R j) → rc B' R' T st d i = rc B R T st d i := by
  intro d
  induction d with
  | zero => intro i _; rfl
  | succ d ih =>
    intro i h
    unfold rc
    rw [(h i (Nat.le_refl i)).1, (h i (Nat.le_refl i)).2, ih (i + 1) (fun j hj => h j (by omega))]
section CG
variable {g : Gm} {Y P : Nat → Prop} {h0 h : Hp} {x : Nat} {D E C : Nat → Nat} {L : Nat → List Nat}
theorem G_member {i : Int32} {post : Int32 → Prop} (c : CI g Y P h0 h x D E C L) (hp : ∀ y : Int32, post y) : wp_G_member g post h (D 6) i := by
  have l := c.ls 2 (by omega)
  have hl := c.len (i := 2) (by omega)
  have k := c.sk.k6
  have r := c.sk.r0
  unfold wp_G_member wp_G_member_32 wp_G_member_33
  refine ⟨fun _ => hp _, fun z => ⟨k, D 2, r, l.1, l.size ⟨fun _ => hp _, fun z' => ?_⟩⟩⟩
  obtain ⟨j, rfl, hj⟩ := nI_back z
  have hlt : j < (L 2).length := by
    rcases Nat.lt_or_ge j (L 2).length with q | q
    · exact q
    · exact absurd (nI_le q (by omega)) z'
  have km := c.kT (c.mem (i := 2) (by omega) hlt)
  exact ⟨k, D 2, r, l.1, l.get hlt ⟨_, rfl, km, km, hp _⟩⟩
theorem G_youngest {t : Nat} {post : Option Nat → Prop} (c : CI g Y P h0 h x D E C L) (ht : P t) (hp : ∀ u : Nat, P u → post (some u)) : wp_G_youngest g post h (D 6) t := by
  have l := c.ls 2 (by omega)
  have hl := c.len (i := 2) (by omega)
  have k := c.sk.k6
  have r := c.sk.r0
  have loop : ∀ (d i u : Nat), i + d = (L 2).length → P u → wp_G_youngest_4 g post (d + 1) h (D 6) u (nI i) := by
    intro d
    induction d with
    | zero =>
      intro i u e hu
      unfold wp_G_youngest_4
      exact ⟨k, D 2, r, l.1, l.size ⟨fun _ => hp u hu, fun z => absurd (nI_le (by omega) (by omega)) z⟩⟩
    | succ d ih =>
      intro i u e hu
      have hm := c.mem (i := 2) (j := i) (by omega) (by omega)
      have km := c.kT hm
      unfold wp_G_youngest_4 wp_G_youngest_45
      refine ⟨k, D 2, r, l.1, l.size ⟨fun _ => hp u hu, fun _ => ⟨k, D 2, r, l.1, l.get (by omega) ⟨_, rfl, km, km, T_isYounger c hm hu fun y => ⟨fun _ x1 e1 => ?_, fun _ => ⟨k, D 2, r, l.1, l.get (by omega) ⟨_, rfl, km, fun x1 e1 => ?_⟩⟩⟩⟩⟩⟩⟩
      · rw [nI_1] at e1; subst e1; exact ih (i + 1) u (by omega) hu
      · rw [nI_1] at e1; subst e1; exact ih (i + 1) _ (by omega) hm
  unfold wp_G_youngest
  exact ⟨(L 2).length + 1, loop _ 0 t (by omega) ht⟩
theorem G_begin {t mc ms : Nat} {post : Hp → Prop} (c : CI g Y P h0 h x D E C L) (ht : P t) (hm : C 3 = 0 → 1 ≤ mc ∧ 10 ≤ ms)
    (hp : ∀ (h' : Hp) (E' C' : Nat → Nat) (L' : Nat → List Nat), CI g Y P h0 h' x D E' C' L' → L' 0 = L 0 → L' 1 = L 1 → (L' 3).length = 1 → C' 3 = (if C 3 = 0 then 10 else C 3) → post h') : wp_G_begin g post mc ms h (D 6) t := by
  have h30 : (30 : Int32) = nI 30 := rfl
  have loop : ∀ (d j : Nat) (h : Hp), j + d = 30 → CI g Y P h0 h x D E C L → wp_G_begin_2 g post mc ms (d + 1) h 0 0 (D 6) t (nI j) := by
    intro d
    induction d with
    | zero =>
      intro j h e c
      have e : j = 30 := by omega
      subst e
      have k := c.sk.k6
      obtain ⟨k7, n7⟩ := c.sk.k7
      unfold wp_G_begin_2
      refine ⟨fun _ => ⟨k, D 7, c.sk.r2, k7, by rw [n7]; exact vp_in_nI (n := 0) (by omega) (by omega), fun h5 e5 => ?_⟩, fun z => absurd (by decide) z⟩
      have c5 : CI g Y P h0 h5 x D E C L := by rw [e5]; exact c.wA k7 (by omega) (c.sk.dy 7 (by omega)).1
      have l5 := c5.ls 3 (by omega)
      refine ⟨c5.sk.k6, D 3, c5.sk.r1, l5.1, l5.clear (c.sk.dy 3 (by omega)).2 fun h9 l9 f9 => ?_⟩
      have c9 := c5.upd (i := 3) (by omega) f9 l9 (Or.inl rfl) (fun t ht => by cases ht) (c5.cp 3 (by omega))
      rw [va_up_same, va_up_same] at c9
      have kt := c9.kT ht
      have cs := (c9.cp 3 (by omega)).1
      refine ⟨c9.sk.k6, D 3, c9.sk.r1, l9.1, mc, ms, by omega, by omega, l9.add c.h01 (by have := CS_549 _ cs; omega) (fun j hj => absurd hj (Nat.not_lt_zero j)) kt (fun e => ?_) fun h' e' c' l' f' he => ?_⟩
      · have e : C 3 = 0 := e.symm
        obtain ⟨m1, m2⟩ := hm e
        refine ⟨m1, ?_⟩
        rw [e]; exact m2
      · have ec : c' = if C 3 = 0 then 10 else C 3 := by
          rcases he with ⟨q1, -, q⟩ | ⟨q1, q, -⟩
          · have q1 : 0 < C 3 := q1
            rw [if_neg (by omega)]; exact q
          · have q1 : 0 = C 3 := q1
            rw [if_pos q1.symm, q, ← q1]; rfl
        have he' : e' = E 3 ∨ (hK h9 e' = 0 ∧ g.2.2 0 ≤ e') := by
          rcases he with ⟨-, q, -⟩ | ⟨-, -, q⟩
          · exact Or.inl q
          · exact Or.inr q
        have hc' : c' ∈ CS ∧ ((3 : Nat) ≠ 1 → c' ≤ 33) := by
          have h3 := c9.cp 3 (by omega)
          rw [ec]
          by_cases z : C 3 = 0
          · rw [if_pos z]; exact ⟨by decide, fun _ => by omega⟩
          · rw [if_neg z]; exact h3
        have u := c9.upd (i := 3) (by omega) f' l' he' (fun u hu => by
          rcases List.mem_append.mp hu with q | q
          · cases q
          · rw [List.mem_singleton.mp q]; exact ht) hc'
        refine hp h' _ _ _ u ?_ ?_ ?_ ?_
        · rw [va_up_ne _ _ (by decide), va_up_ne _ _ (by decide)]
        · rw [va_up_ne _ _ (by decide), va_up_ne _ _ (by decide)]
        · rw [va_up_self]; rfl
        · rw [va_up_self]; exact ec
    | succ d ih =>
      intro j h e c
      obtain ⟨k8, n8⟩ := c.sk.k8
      unfold wp_G_begin_2
      refine ⟨fun z => ?_, fun _ => ⟨c.sk.k6, D 8, c.sk.r3, k8, by rw [n8]; exact vp_in_nI (by omega) (by omega), Or.inl rfl, fun h20 e20 x21 e21 => ?_⟩⟩
      · rw [h30] at z
        have := (nI_leI (by omega) (by omega)).mp z
        omega
      · subst e20
        rw [nI_1] at e21
        subst e21
        exact ih (j + 1) _ (by omega) (c.wA k8 (by omega) (c.sk.dy 8 (by omega)).1)
  unfold wp_G_begin
  exact ⟨31, loop 30 0 h rfl c⟩
theorem G_markBlockers {t : Nat} {post : Hp → Prop} (c : CI g Y P h0 h x D E C L) (ht : P t) (hp : ∀ h' : Hp, CI g Y P h0 h' x D E C L → post h') : wp_G_markBlockers g post h (D 6) (D 0) (D 5) t := by
  have h30 : (30 : Int32) = nI 30 := rfl
  have hn := c.len (i := 0) (by omega)
  have q111 : ∀ h : Hp, CI g Y P h0 h x D E C L → wp_G_markBlockers_111 g post h (D 6) (D 5) t := fun h c => by
    unfold wp_G_markBlockers_111
    exact ⟨c.sk.k6, D 9, c.sk.r4, c.sk.k5, W_markAhead c ht fun h' c' => hp h' c'⟩
  have loop2 : ∀ (s : Nat), s < 50 → ∀ (d i : Nat) (h : Hp), i + d = 30 → CI g Y P h0 h x D E C L → wp_G_markBlockers_42 g post (d + 1) h (D 6) (D 0) (D 5) t (nI s) (nI i) := by
    intro s hs d
    induction d with
    | zero =>
      intro i h e c
      have e : i = 30 := by omega
      subst e
      unfold wp_G_markBlockers_42
      exact ⟨fun _ => q111 h c, fun z => absurd (by decide) z⟩
    | succ d ih =>
      intro i h e c
      have l := c.ls 0 (by omega)
      obtain ⟨k9, n9⟩ := c.sk.k9
      have i9 : vp_in (nI i) (hN h (D 9)) := by rw [n9]; exact vp_in_nI (by omega) (by omega)
      have nx : ∀ v : Int32, zB v → wp_G_markBlockers_104 g post (fun h v0 v1 v2 v3 v4 v5 => wp_G_markBlockers_42 g post (d + 1) h v0 v1 v2 v3 v4 v5) h (D 6) (D 0) (D 5) t (nI s) (nI i) (D 9) (nI i) v := fun v hv => by
        unfold wp_G_markBlockers_104
        refine ⟨k9, i9, hv, fun h2 e2 x3 e3 => ?_⟩
        subst e2
        rw [nI_1] at e3
        subst e3
        exact ih (i + 1) _ (by omega) (c.wA k9 (by omega) (c.sk.dy 9 (by omega)).1)
      unfold wp_G_markBlockers_42 wp_G_markBlockers_103
      refine ⟨fun _ => q111 h c, fun _ => ⟨l.1, l.size ⟨fun _ => q111 h c, fun z => ?_⟩⟩⟩
      have hlt : i < (L 0).length := by
        rcases Nat.lt_or_ge i (L 0).length with q | q
        · exact q
        · exact absurd (nI_le q (by omega)) z
      have hm := c.mem (i := 0) (by omega) hlt
      have km := c.kT hm
      obtain ⟨a2, r2, s2, t2, u2⟩ := (c.tk _ hm).row 2 21 (by decide)
      exact ⟨l.1, l.get hlt ⟨_, rfl, km, c.sk.k6, D 9, c.sk.r4, fun _ => nx 0 (Or.inl rfl), fun _ => ⟨km, a2, r2, s2, by rw [t2]; exact vp_in_nI (by omega) (by omega), c.kT ht, S_areTogether ⟨fun _ => nx 0 (Or.inl rfl), fun _ => nx 1 (Or.inr rfl)⟩ ⟨fun _ => nx 0 (Or.inl rfl), fun _ => nx 1 (Or.inr rfl)⟩⟩⟩⟩
  have loop1 : ∀ (v : Int32) (d i : Nat) (h : Hp), i + d = 30 → CI g Y P h0 h x D E C L → wp_G_markBlockers_9 g post (d + 1) h (D 6) (D 0) (D 5) t v (nI i) := by
    intro v d
    induction d with
    | zero =>
      intro i h e c
      have e : i = 30 := by omega
      subst e
      unfold wp_G_markBlockers_9
      refine ⟨fun _ => S_isSegment (fun s es s1 => ⟨fun _ => ⟨31, ?_⟩, fun z => absurd z (by decide)⟩) ⟨fun z => absurd rfl z, fun _ => hp h c⟩, fun z => absurd (by decide) z⟩
      rw [es]; exact loop2 s s1 30 0 h rfl c
    | succ d ih =>
      intro i h e c
      obtain ⟨k9, n9⟩ := c.sk.k9
      unfold wp_G_markBlockers_9
      refine ⟨fun z => ?_, fun _ => ⟨c.sk.k6, D 9, c.sk.r4, k9, by rw [n9]; exact vp_in_nI (by omega) (by omega), Or.inl rfl, fun h9 e9 x10 e10 => ?_⟩⟩
      · rw [h30] at z
        have := (nI_leI (by omega) (by omega)).mp z
        omega
      · subst e9
        rw [nI_1] at e10
        subst e10
        exact ih (i + 1) _ (by omega) (c.wA k9 (by omega) (c.sk.dy 9 (by omega)).1)
  unfold wp_G_markBlockers
  exact ⟨c.kT ht, 31, loop1 _ 30 0 h rfl c⟩
theorem min30 {l r : Nat} (h : l ≤ 30) : min 30 (l + r) ≤ 30 ∧ l ≤ min 30 (l + r) := by omega
theorem G_reachBlockers {st mc ms : Nat} {v : Int32} {post : Int32 → Hp → Prop} (c : CI g Y P h0 h x D E C L) (hn : (L 0).length ≤ 30) (hl3 : (L 3).length ≤ 30) (F : Nat) (hF : F = fc (C 3) (min 30 ((L 3).length + rc (hI h (D 9)) (hI h (D 8)) (L 0) st (L 0).length 0))) (hmc : pc (C 3) ≤ mc + pc F) (hms : ps (C 3) ≤ ms + ps F)
    (hp : ∀ (y : Int32) (h' : Hp) (E' C' : Nat → Nat) (L' : Nat → List Nat), CI g Y P h0 h' x D E' C' L' → L' 0 = L 0 → L' 1 = L 1 → (L' 3).length ≤ 30 → C' 3 = F → post y h') : wp_G_reachBlockers g post mc ms h (D 6) (D 0) v st := by
  have h30 : (30 : Int32) = nI 30 := rfl
  have loop : ∀ (d i : Nat) (h : Hp) (E C : Nat → Nat) (L' : Nat → List Nat) (kc ks : Nat), CI g Y P h0 h x D E C L' → L' 0 = L 0 → L' 1 = L 1 → i + d = (L 0).length → (L' 3).length ≤ 30 → F = fc (C 3) (min 30 ((L' 3).length + rc (hI h (D 9)) (hI h (D 8)) (L 0) st d i)) → kc + pc (C 3) ≤ mc + pc F → ks + ps (C 3) ≤ ms + ps F → wp_G_reachBlockers_3 g post mc ms (d + 1) h kc ks (D 6) (D 0) v st (nI i) := by
    intro d
    induction d with
    | zero =>
      intro i h E C L' kc ks c e0 e1 e h3 hF k1 k2
      have l := c.ls 0 (by omega)
      have hc := (c.ls 3 (by omega)).cle
      have hF' : C 3 = F := by
        rw [hF]
        unfold rc
        rw [fc_le (by omega)]
      have q110 : zB 0 ∧ post 0 h := ⟨Or.inl rfl, hp 0 h E C L' c e0 e1 h3 hF'⟩
      unfold wp_G_reachBlockers_3 wp_G_reachBlockers_110
      refine ⟨fun _ => q110, fun _ => ⟨l.1, l.size ⟨fun _ => q110, fun z => ?_⟩⟩⟩
      rw [e0] at z
      exact absurd (nI_le (by omega) (by omega)) z
    | succ d ih =>
      intro i h E C L' kc ks c e0 e1 e h3 hF k1 k2
      have l := c.ls 0 (by omega)
      have hc := (c.ls 3 (by omega)).cle
      have k6 := c.sk.k6
      obtain ⟨k8, n8⟩ := c.sk.k8
      obtain ⟨k9, n9⟩ := c.sk.k9
      obtain ⟨k7, n7⟩ := c.sk.k7
      have i8 : vp_in (nI i) (hN h (D 8)) := by rw [n8]; exact vp_in_nI (by omega) (by omega)
      have i9 : vp_in (nI i) (hN h (D 9)) := by rw [n9]; exact vp_in_nI (by omega) (by omega)
      have hlt : i < (L' 0).length := by rw [e0]; omega
      have hm := c.mem (i := 0) (by omega) hlt
      have km := c.kT hm
      have cs := c.cp 3 (by omega)
      have e9i : (nI i).toNatClampNeg = i := nI_clamp (by omega)
      unfold wp_G_reachBlockers_3 wp_G_reachBlockers_110 wp_G_reachBlockers_104
      refine ⟨fun z => ?_, fun _ => ⟨l.1, l.size ⟨fun z => ?_, fun _ => ⟨l.1, l.get hlt ⟨_, rfl, km, k6, D 9, c.sk.r4, k9, i9, ?_⟩⟩⟩⟩⟩
      · rw [h30] at z
        have := (nI_leI (by omega) (by omega)).mp z
        omega
      · rw [e0] at z
        have := (nI_leI (by omega) (by omega)).mp z
        omega
      rw [e9i]
      refine ⟨fun zb x1 ex1 => ?_, fun zb => ⟨k6, D 8, c.sk.r3, k8, i8, ?_⟩⟩
      · rw [nI_1] at ex1
        subst ex1
        refine ih (i + 1) h E C L' kc ks c e0 e1 (by omega) h3 ?_ k1 k2
        unfold rc at hF
        rw [if_pos zb] at hF
        exact hF
      refine ⟨fun zr => ⟨fun zs => ⟨k6, D 8, c.sk.r3, k8, i8, Or.inr rfl, fun h23 e23 => ?_⟩, fun zs => ?_⟩, fun zr x1 ex1 => ?_⟩
      · have zs' : ¬ (L 0).getD i 0 = st := fun z => zs (by rw [e0, z])
        unfold rc at hF
        rw [if_neg zb, if_neg (fun z => z zr), if_neg zs'] at hF
        have c23 : CI g Y P h0 h23 x D E C L' := by rw [e23]; exact c.wA k8 (by omega) (c.sk.dy 8 (by omega)).1
        have l3 := c23.ls 3 (by omega)
        have d89 := c.sk.d89
        have r23 : rc (hI h23 (D 9)) (hI h23 (D 8)) (L 0) st d (i + 1) = rc (hI h (D 9)) (hI h (D 8)) (L 0) st d (i + 1) := rc_congr d (i + 1) fun j hj => ⟨by rw [e23, sI_o (fun z => d89 z.symm)], by rw [e23, rI_sI, if_neg (by omega)]⟩
        refine ⟨c23.sk.k6, D 3, c23.sk.r1, l3.1, l3.size ⟨fun z30 x1 ex1 => ?_, fun z30 => ?_⟩⟩
        · rw [nI_1] at ex1
          subst ex1
          have := (nI_leI (a := 30) (by omega) (by omega)).mp z30
          refine ih (i + 1) h23 E C L' kc ks c23 e0 e1 (by omega) h3 ?_ k1 k2
          rw [hF, r23]
          congr 1
          omega
        · have hlt3 : (L' 3).length < 30 := by
            rcases Nat.lt_or_ge (L' 3).length 30 with q | q
            · exact q
            · exact absurd (nI_le (a := 30) q (by omega)) z30
          refine ⟨c23.sk.k6, D 7, c23.sk.r2, c23.sk.k6, D 3, c23.sk.r1, l3.1, l3.size ⟨c23.sk.k7.1, by rw [c23.sk.k7.2]; exact vp_in_nI (by omega) (by omega), fun h38 e38 => ?_⟩⟩
          have c38 : CI g Y P h0 h38 x D E C L' := by rw [e38]; exact c23.wA c23.sk.k7.1 (by omega) (c.sk.dy 7 (by omega)).1
          have l38 := c38.ls 3 (by omega)
          have km38 := c38.kT hm
          have d78 : D 8 ≠ D 7 := fun z => by rw [z, k7] at k8; exact absurd k8 (by decide)
          have d79 : D 9 ≠ D 7 := fun z => by rw [z, k7] at k9; exact absurd k9 (by decide)
          have b38 : hI h38 (D 9) = hI h23 (D 9) := by rw [e38, sI_o d79]
          have b38' : hI h38 (D 8) = hI h23 (D 8) := by rw [e38, sI_o d78]
          have fin : ∀ (h' : Hp) (e' c' kc' ks' : Nat), Ls g h' (D 3) e' c' (L' 3 ++ [(L' 0).getD i 0]) → Fr (fun b => b = D 3 ∨ b = E 3) h38 h' → (e' = E 3 ∨ (hK h38 e' = 0 ∧ g.2.2 0 ≤ e')) → (c' ∈ CS ∧ ((3 : Nat) ≠ 1 → c' ≤ 33)) → F = fc c' (min 30 ((L' 3).length + 1 + rc (hI h (D 9)) (hI h (D 8)) (L 0) st d (i + 1))) → kc' + pc c' ≤ mc + pc F → ks' + ps c' ≤ ms + ps F → ∀ x1 : Int32, x1 = nI i + 1 → wp_G_reachBlockers_3 g post mc ms (d + 1) h' kc' ks' (D 6) (D 0) v st x1 := by
            intro h' e' c' kc' ks' l' f' he' hc' hF' k1' k2' x1 ex1
            rw [nI_1] at ex1
            subst ex1
            have u := c38.upd (i := 3) (by omega) f' l' he' (fun u hu => by
              rcases List.mem_append.mp hu with q | q
              · exact c38.lp 3 (by omega) u q
              · rw [List.mem_singleton.mp q]; exact hm) hc'
            have nS : ∀ b : Nat, hK h38 b = 23 → b ≠ g.2.2 1 → hI h' b = hI h38 b := fun b b1 b2 => ((f' b (by rw [b1]; decide)).2.2 (fun z => by
              rcases z with z | z
              · rw [z, l38.1] at b1; exact absurd b1 (by decide)
              · rcases l38.kE with q | q
                · exact b2 (z.trans q)
                · rw [z, q] at b1; exact absurd b1 (by decide))).1
            have b8 : hI h' (D 8) = hI h23 (D 8) := (nS (D 8) c38.sk.k8.1 (c.sk.dy 8 (by omega)).2).trans b38'
            have b9 : hI h' (D 9) = hI h23 (D 9) := (nS (D 9) c38.sk.k9.1 (c.sk.dy 9 (by omega)).2).trans b38
            refine ih (i + 1) h' _ _ _ kc' ks' u (by rw [va_up_ne _ _ (by decide)]; exact e0) (by rw [va_up_ne _ _ (by decide)]; exact e1) (by omega) (by rw [va_up_self, List.length_append]; exact hlt3) ?_ (by rw [va_up_self]; exact k1') (by rw [va_up_self]; exact k2')
            rw [va_up_self, va_up_self, b8, b9, r23, hF', List.length_append]
            rfl
          have hN1 := min30 (l := (L' 3).length) (r := rc (hI h (D 9)) (hI h (D 8)) (L 0) st d (i + 1) + 1) h3
          have eN : (L' 3).length + 1 + rc (hI h (D 9)) (hI h (D 8)) (L 0) st d (i + 1) = (L' 3).length + (rc (hI h (D 9)) (hI h (D 8)) (L 0) st d (i + 1) + 1) := by omega
          by_cases full : (L' 3).length = C 3
          · have cN : C 3 < min 30 ((L' 3).length + (rc (hI h (D 9)) (hI h (D 8)) (L 0) st d (i + 1) + 1)) := by omega
            obtain ⟨f1, f2, f3⟩ := fc_all (C 3) cs.1 (by omega) _ (by omega) cN
            obtain ⟨p1, p2⟩ := pc_all (C 3) cs.1 (by omega)
            rw [← hF] at f1 f2 f3
            refine ⟨c38.sk.k6, D 3, c38.sk.r1, l38.1, 1, capN (C 3), by omega, by omega, l38.add c.h01 (by have := CS_549 _ cs.1; omega) (fun j hj => c38.kT (c38.mem (by omega) hj)) km38 (fun _ => ⟨by omega, by omega⟩) fun h' e' c' l' f' he => ?_⟩
            rcases he with ⟨q, -, -⟩ | ⟨-, q, q'⟩
            · omega
            · subst q
              exact fin h' e' _ _ _ l' f' (Or.inr q') ⟨capN_CS _ cs.1 (by omega), fun _ => capN_33 _ cs.1 (by omega)⟩ (by rw [eN]; exact f1.symm) (by omega) (by omega)
          · refine ⟨c38.sk.k6, D 3, c38.sk.r1, l38.1, 0, 0, by have := fc_pc (C 3) cs.1 (cs.2 (by decide)) _ (Nat.lt_of_le_of_lt hN1.1 (by omega)); rw [← hF] at this; omega, by have := fc_pc (C 3) cs.1 (cs.2 (by decide)) _ (Nat.lt_of_le_of_lt hN1.1 (by omega)); rw [← hF] at this; omega, l38.add c.h01 (by have := CS_549 _ cs.1; omega) (fun j hj => c38.kT (c38.mem (by omega) hj)) km38 (fun z => absurd z full) fun h' e' c' l' f' he => ?_⟩
            rcases he with ⟨-, q1, q2⟩ | ⟨q, -⟩
            · subst q2
              exact fin h' e' _ _ _ l' f' (Or.inl q1) cs (by rw [eN]; exact hF) (by omega) (by omega)
            · exact absurd q full
      · have zs' : (L 0).getD i 0 = st := by rw [e0] at zs; exact Option.some.inj zs
        refine ⟨Or.inr rfl, hp 1 h E C L' c e0 e1 h3 ?_⟩
        unfold rc at hF
        rw [if_neg zb, if_neg (fun z => z zr), if_pos zs', fc_le (by omega)] at hF
        exact hF.symm
      · rw [nI_1] at ex1
        subst ex1
        refine ih (i + 1) h E C L' kc ks c e0 e1 (by omega) h3 ?_ k1 k2
        unfold rc at hF
        rw [if_neg zb, if_pos zr] at hF
        exact hF
  unfold wp_G_reachBlockers
  exact ⟨(L 0).length + 1, loop (L 0).length 0 h E C L 0 0 c rfl rfl (by omega) hl3 hF (by omega) (by omega)⟩
end CG
