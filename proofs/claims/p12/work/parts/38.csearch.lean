/-! PURE: the class's rings: the way, the search -/
section CH
variable {g : Gm} {Y P : Nat → Prop} {h0 h : Hp} {x : Nat} {D E C : Nat → Nat} {L : Nat → List Nat}
theorem G_add0 {u mc ms kc ks : Nat} {Post : Nat → Nat → Hp → Prop} (c : CI g Y P h0 h x D E C L) (hu : P u) (hl : (L 2).length ≤ 30) (k1 : kc + pc (C 2) ≤ mc) (k2 : ks + ps (C 2) ≤ ms)
    (hp : ∀ (m1 m2 : Nat) (h' : Hp) (E' C' : Nat → Nat) (L' : Nat → List Nat), CI g Y P h0 h' x D E' C' L' → (∀ j : Nat, j ≠ 2 → L' j = L j) → (L' 2).length = (L 2).length + 1 → (kc + m1) + pc (C' 2) ≤ mc → (ks + m2) + ps (C' 2) ≤ ms → Post m1 m2 h') :
    ∃ m1 m2 : Nat, kc + m1 ≤ mc ∧ ks + m2 ≤ ms ∧ wp_A_add3 g (Post m1 m2) m1 m2 h (D 2) 0 u := by
  have l := c.ls 2 (by omega)
  have cs := c.cp 2 (by omega)
  have ku := c.kT hu
  have c600 := CS_549 _ cs.1
  have fin : ∀ (m1 m2 : Nat) (h' : Hp) (e' c' : Nat), Ls g h' (D 2) e' c' ((L 2).take 0 ++ u :: (L 2).drop 0) → Fr (fun b => b = D 2 ∨ b = E 2) h h' → (e' = E 2 ∨ (hK h e' = 0 ∧ g.2.2 0 ≤ e')) → (c' ∈ CS ∧ ((2 : Nat) ≠ 1 → c' ≤ 33)) → (kc + m1) + pc c' ≤ mc → (ks + m2) + ps c' ≤ ms → Post m1 m2 h' := by
    intro m1 m2 h' e' c' l' f' he' hc' q1 q2
    have w := c.upd (i := 2) (by omega) f' l' he' (fun t ht => by
      rcases List.mem_append.mp ht with q | q
      · exact c.lp 2 (by omega) t (List.mem_of_mem_take q)
      · rcases List.mem_cons.mp q with y | y
        · rw [y]; exact hu
        · exact c.lp 2 (by omega) t (List.mem_of_mem_drop y)) hc'
    refine hp m1 m2 h' _ _ _ w (fun j hj => va_up_ne _ _ hj) ?_ (by rw [va_up_self]; exact q1) (by rw [va_up_self]; exact q2)
    rw [va_up_self, List.length_append, List.length_cons, List.length_take, List.length_drop]
    omega
  by_cases full : (L 2).length = C 2
  · obtain ⟨p1, p2⟩ := pc_all (C 2) cs.1 (by omega)
    refine ⟨1, capN (C 2), by omega, by omega, l.insert (i := 0) c.h01 (by omega) (by omega) (fun j hj => c.kT (c.mem (by omega) hj)) ku (fun _ => ⟨by omega, by omega⟩) fun h' e' c' l' f' he => ?_⟩
    rcases he with ⟨q, -, -⟩ | ⟨-, q, q'⟩
    · omega
    · subst q
      exact fin _ _ h' e' _ l' f' (Or.inr q') ⟨capN_CS _ cs.1 (by omega), fun _ => capN_33 _ cs.1 (by omega)⟩ (by omega) (by omega)
  · refine ⟨0, 0, by omega, by omega, l.insert (i := 0) c.h01 (by omega) (by omega) (fun j hj => c.kT (c.mem (by omega) hj)) ku (fun z => absurd z full) fun h' e' c' l' f' he => ?_⟩
    rcases he with ⟨-, q1, q2⟩ | ⟨q, -⟩
    · subst q2
      exact fin _ _ h' e' _ l' f' (Or.inl q1) cs (by omega) (by omega)
    · exact absurd q full
theorem G_keepWayTo {mc ms : Nat} {v : Int32} {post : Hp → Prop} (c : CI g Y P h0 h x D E C L) (hl3 : (L 3).length ≤ 30) (hmc : 4 ≤ mc) (hms : 80 ≤ ms)
    (hp : ∀ (h' : Hp) (E' C' : Nat → Nat) (L' : Nat → List Nat), CI g Y P h0 h' x D E' C' L' → L' 0 = L 0 → L' 1 = L 1 → post h') : wp_G_keepWayTo g post mc ms h (D 6) v := by
  have last : ∀ (h : Hp) (E C : Nat → Nat) (L' : Nat → List Nat) (kc ks : Nat), CI g Y P h0 h x D E C L' → L' 0 = L 0 → L' 1 = L 1 → L' 3 = L 3 → (L' 2).length ≤ 30 → kc + pc (C 2) ≤ mc → ks + ps (C 2) ≤ ms → wp_G_keepWayTo_72 g post mc ms h kc ks (D 6) (nI (L 3).length) := by
    intro h E C L' kc ks c e0 e1 e3 h2 k1 k2
    have l3 := c.ls 3 (by omega)
    unfold wp_G_keepWayTo_72 wp_G_keepWayTo_95
    refine ⟨fun _ => hp h E C L' c e0 e1, fun z => ?_⟩
    have hpos : 0 < (L' 3).length := by
      rw [e3]
      rcases Nat.eq_zero_or_pos (L 3).length with q | q
      · rw [q] at z; exact absurd (by decide) z
      · exact q
    have hm := c.mem (i := 3) (by omega) hpos
    have g0 : wp_A_get g (fun r8 => ∃ a9 : Nat, r8 = some a9 ∧ hK h a9 = 4 ∧ hK h (D 2) = 6 ∧ ∃ mc13 ms14 : Nat, kc + mc13 ≤ mc ∧ ks + ms14 ≤ ms ∧ wp_A_add3 g (fun h12 => post h12) mc13 ms14 h (D 2) 0 a9) h (D 3) (nI 0) := by
      refine l3.get hpos ⟨_, rfl, c.kT hm, (c.ls 2 (by omega)).1, ?_⟩
      exact G_add0 (Post := fun _ _ h12 => post h12) c hm h2 k1 k2 fun m1 m2 h' E' C' L'' c' s' _ _ _ => hp h' E' C' L'' c' ((s' 0 (by decide)).trans e0) ((s' 1 (by decide)).trans e1)
    exact ⟨c.sk.k6, D 2, c.sk.r0, c.sk.k6, D 3, c.sk.r1, l3.1, g0⟩
  have loop : ∀ (d st : Nat) (h : Hp) (E C : Nat → Nat) (L' : Nat → List Nat) (kc ks : Nat) (at' : Int32), CI g Y P h0 h x D E C L' → L' 0 = L 0 → L' 1 = L 1 → L' 3 = L 3 → st + d = (L 3).length → (L' 2).length = st → kc + pc (C 2) ≤ mc → ks + ps (C 2) ≤ ms → wp_G_keepWayTo_25 g post mc ms (d + 1) h kc ks (D 6) (nI (L 3).length) at' (nI st) := by
    intro d
    induction d with
    | zero =>
      intro st h E C L' kc ks at' c e0 e1 e3 e h2 k1 k2
      have q := last h E C L' kc ks c e0 e1 e3 (by omega) k1 k2
      unfold wp_G_keepWayTo_25
      exact ⟨fun _ => q, fun z => absurd (nI_le (by omega) (by omega)) z⟩
    | succ d ih =>
      intro st h E C L' kc ks at' c e0 e1 e3 e h2 k1 k2
      have q := last h E C L' kc ks c e0 e1 e3 (by omega) k1 k2
      have l3 := c.ls 3 (by omega)
      unfold wp_G_keepWayTo_25
      refine ⟨fun _ => q, fun _ => ⟨fun _ => q, fun z0 => ⟨fun _ => q, fun z1 => ?_⟩⟩⟩
      obtain ⟨j, rfl, hj⟩ := nI_back (i := at') (fun y => z0 (Int32.le_of_lt y))
      have hlt : j < (L' 3).length := by
        rw [e3]
        rcases Nat.lt_or_ge j (L 3).length with y | y
        · exact y
        · exact absurd (nI_le y hj) z1
      have hlt' := hlt
      rw [e3] at hlt'
      have hm := c.mem (i := 3) (by omega) hlt
      refine ⟨c.sk.k6, D 2, c.sk.r0, c.sk.k6, D 3, c.sk.r1, l3.1, l3.get hlt ⟨_, rfl, c.kT hm, (c.ls 2 (by omega)).1, ?_⟩⟩
      refine G_add0 c hm (by omega) k1 k2 fun m1 m2 h' E' C' L'' c' s' n' q1 q2 => ?_
      refine ⟨c'.sk.k6, D 7, c'.sk.r2, c'.sk.k7.1, by rw [c'.sk.k7.2]; exact vp_in_nI (by omega) (by omega), fun x20 e20 => ?_⟩
      rw [nI_1] at e20
      subst e20
      exact ih (st + 1) h' E' C' L'' _ _ _ c' ((s' 0 (by decide)).trans e0) ((s' 1 (by decide)).trans e1) ((s' 3 (by decide)).trans e3) (by omega) (by omega) q1 q2
  have l2 := c.ls 2 (by omega)
  unfold wp_G_keepWayTo
  refine ⟨c.sk.k6, D 2, c.sk.r0, l2.1, l2.clear (c.sk.dy 2 (by omega)).2 fun h4 l4 f4 => ?_⟩
  have c4 := c.upd (i := 2) (by omega) f4 l4 (Or.inl rfl) (fun t ht => by cases ht) (c.cp 2 (by omega))
  rw [va_up_same, va_up_same] at c4
  have l3 := c4.ls 3 (by omega)
  have e3 : va_up L 2 [] 3 = L 3 := va_up_ne _ _ (by decide)
  refine ⟨c4.sk.k6, D 3, c4.sk.r1, l3.1, l3.size fun x10 e10 => ⟨(L 3).length + 1, ?_⟩⟩
  have h30 : (30 : Int32) = nI 30 := rfl
  rw [e3, h30, if_neg (nI_nlt (by omega) (by omega))] at e10
  subst e10
  have pp := pc_le (C 2) (c.cp 2 (by omega)).1
  exact loop _ 0 h4 E C _ 0 0 v c4 (va_up_ne _ _ (by decide)) (va_up_ne _ _ (by decide)) e3 (by omega) (by rw [va_up_self]; rfl) (by omega) (by omega)
theorem G_search {st mc ms : Nat} {post : Int32 → Hp → Prop} (c : CI g Y P h0 h x D E C L) (hst : P st) (hn : (L 0).length ≤ 30) (hmc : 8 ≤ mc) (hms : 160 ≤ ms)
    (hp : ∀ (y : Int32) (h' : Hp) (E' C' : Nat → Nat) (L' : Nat → List Nat), CI g Y P h0 h' x D E' C' L' → L' 0 = L 0 → L' 1 = L 1 → post y h') : wp_G_search g post mc ms h (D 6) (D 0) (D 5) st := by
  have loop : ∀ (d fr : Nat) (h : Hp) (E C : Nat → Nat) (L' : Nat → List Nat) (kc ks : Nat), CI g Y P h0 h x D E C L' → L' 0 = L 0 → L' 1 = L 1 → fr + d = 30 → (L' 3).length ≤ 30 → kc + pc (C 3) ≤ 4 → ks + ps (C 3) ≤ 80 → wp_G_search_8 g post mc ms (d + 1) h kc ks (D 6) (D 0) (D 5) st (nI fr) := by
    intro d
    induction d with
    | zero =>
      intro fr h E C L' kc ks c e0 e1 e h3 k1 k2
      have e : fr = 30 := by omega
      subst e
      unfold wp_G_search_8 wp_G_search_70
      exact ⟨fun _ => ⟨Or.inl rfl, hp _ h E C L' c e0 e1⟩, fun z => absurd (by decide) z⟩
    | succ d ih =>
      intro fr h E C L' kc ks c e0 e1 e h3 k1 k2
      have l3 := c.ls 3 (by omega)
      have q0 : zB 0 ∧ post 0 h := ⟨Or.inl rfl, hp _ h E C L' c e0 e1⟩
      unfold wp_G_search_8 wp_G_search_70
      refine ⟨fun _ => q0, fun _ => ⟨c.sk.k6, D 3, c.sk.r1, l3.1, l3.size ⟨fun _ => q0, fun z => ?_⟩⟩⟩
      have hlt : fr < (L' 3).length := by
        rcases Nat.lt_or_ge fr (L' 3).length with y | y
        · exact y
        · exact absurd (nI_le y (by omega)) z
      have hm := c.mem (i := 3) (by omega) hlt
      refine ⟨c.sk.k6, D 3, c.sk.r1, l3.1, l3.get hlt ⟨_, rfl, c.kT hm, c.sk.k6, G_markBlockers c hm fun h16 c16 => ⟨c16.sk.k6, ?_⟩⟩⟩
      have cs := c16.cp 3 (by omega)
      have hN := min30 (l := (L' 3).length) (r := rc (hI h16 (D 9)) (hI h16 (D 8)) (L' 0) st (L' 0).length 0) h3
      have fp := fc_pc (C 3) cs.1 (cs.2 (by decide)) _ (Nat.lt_of_le_of_lt hN.1 (by omega))
      obtain ⟨F, hF⟩ : ∃ F : Nat, F = fc (C 3) (min 30 ((L' 3).length + rc (hI h16 (D 9)) (hI h16 (D 8)) (L' 0) st (L' 0).length 0)) := ⟨_, rfl⟩
      rw [← hF] at fp
      refine ⟨pc (C 3) - pc F, ps (C 3) - ps F, by omega, by omega, G_reachBlockers c16 (by rw [e0]; exact hn) h3 F hF (by omega) (by omega) fun y h' E' C' L'' c' s0 s1 s3 sc => ⟨fun _ x23 e23 => ?_, fun _ => ⟨c'.sk.k6, 4, 80, by omega, by omega, ?_⟩⟩⟩
      · rw [nI_1] at e23
        subst e23
        refine ih (fr + 1) h' E' C' L'' _ _ c' (s0.trans e0) (s1.trans e1) (by omega) s3 ?_ ?_
        · rw [sc]; omega
        · rw [sc]; omega
      · exact G_keepWayTo c' s3 (by omega) (by omega) fun h25 E2 C2 L2 c25 t0 t1 => ⟨Or.inr rfl, hp _ h25 E2 C2 L2 c25 (t0.trans (s0.trans e0)) (t1.trans (s1.trans e1))⟩
  have cs := c.cp 3 (by omega)
  have pp := pc_le (C 3) cs.1
  unfold wp_G_search
  by_cases z : C 3 = 0
  · refine ⟨c.sk.k6, 1, 10, by omega, by omega, G_begin c hst (fun _ => ⟨by omega, by omega⟩) fun h2 E2 C2 L2 c2 t0 t1 t3 tc => ⟨31, ?_⟩⟩
    rw [if_pos z] at tc
    exact loop 30 0 h2 E2 C2 L2 _ _ c2 t0 t1 rfl (by omega) (by rw [tc]; decide) (by rw [tc]; decide)
  · refine ⟨c.sk.k6, 0, 0, by omega, by omega, G_begin c hst (fun y => absurd y z) fun h2 E2 C2 L2 c2 t0 t1 t3 tc => ⟨31, ?_⟩⟩
    rw [if_neg z] at tc
    exact loop 30 0 h2 E2 C2 L2 _ _ c2 t0 t1 rfl (by omega) (by rw [tc]; omega) (by rw [tc]; omega)
end CH
