/-! EXACT: the class's way, search, youngest -/
section VF
variable {g : Gm} {Y P : Nat → Prop} {h0 h : Hp} {x : Nat} {D E C : Nat → Nat} {L : Nat → List Nat} {B : Nat → Nat → Nat} {z : Zs} {W : List Nat}
theorem V_add0 {u mc ms kc ks : Nat} {acc : List Nat} {Post : Nat → Nat → Hp → Prop} (c : CI g Y P h0 h x D E C L) (a : CZ h L B D W z) (hg : ∀ t k : Nat, 1 ≤ t → t ≤ zn z → 2 ≤ k → k ≤ 7 → B t k ≠ g.2.2 1) (u1 : 1 ≤ u) (u2 : u ≤ zn z) (hl : (L 2).length ≤ 30) (hacc : L 2 = acc.map (Ta (L 0))) (k1 : kc + pc (C 2) ≤ mc) (k2 : ks + ps (C 2) ≤ ms)
    (hp : ∀ (m1 m2 : Nat) (h' : Hp) (E' C' : Nat → Nat) (L' : Nat → List Nat), CI g Y P h0 h' x D E' C' L' → CZ h' L' B D W z → (∀ j : Nat, j ≠ 2 → L' j = L j) → L' 2 = (u :: acc).map (Ta (L 0)) → hI h' (D 7) = hI h (D 7) → (kc + m1) + pc (C' 2) ≤ mc → (ks + m2) + ps (C' 2) ≤ ms → Post m1 m2 h') :
    ∃ m1 m2 : Nat, kc + m1 ≤ mc ∧ ks + m2 ≤ ms ∧ wp_A_add3 g (Post m1 m2) m1 m2 h (D 2) 0 (Ta (L 0) u) := by
  have l := c.ls 2 (by omega)
  have cs := c.cp 2 (by omega)
  have pu := Ta_P c u1 (by rw [a.1.1]; exact u2)
  have ku := c.kT pu
  have c600 := CS_549 _ cs.1
  have fin : ∀ (m1 m2 : Nat) (h' : Hp) (e' c' : Nat), Ls g h' (D 2) e' c' ((L 2).take 0 ++ Ta (L 0) u :: (L 2).drop 0) → Fr (fun b => b = D 2 ∨ b = E 2) h h' → (e' = E 2 ∨ (hK h e' = 0 ∧ g.2.2 0 ≤ e')) → (c' ∈ CS ∧ ((2 : Nat) ≠ 1 → c' ≤ 33)) → (kc + m1) + pc c' ≤ mc → (ks + m2) + ps c' ≤ ms → Post m1 m2 h' := by
    intro m1 m2 h' e' c' l' f' he' hc' q1 q2
    have w := c.upd (i := 2) (by omega) f' l' he' (fun t ht => by
      rcases List.mem_append.mp ht with q | q
      · exact c.lp 2 (by omega) t (List.mem_of_mem_take q)
      · rcases List.mem_cons.mp q with y | y
        · rw [y]; exact pu
        · exact c.lp 2 (by omega) t (List.mem_of_mem_drop y)) hc'
    refine hp m1 m2 h' _ _ (va_up L 2 ((L 2).take 0 ++ Ta (L 0) u :: (L 2).drop 0)) w (a.fr3 c hg (by omega) (by omega) f' (fun j hj => va_up_ne _ _ hj)) (fun j hj => va_up_ne _ _ hj) ?_ ?_ (by rw [va_up_self]; exact q1) (by rw [va_up_self]; exact q2)
    · rw [va_up_self, List.take_zero, List.drop_zero, hacc]; rfl
    · exact ((f' (D 7) (by rw [c.sk.k7.1]; decide)).2.2 (list_S c (by omega) _ (Or.inr (by rw [c.sk.k7.1]; decide)) (c.sk.dy 7 (by omega)).2)).1
  by_cases full : (L 2).length = C 2
  · obtain ⟨p1, p2⟩ := pc_all (C 2) cs.1 (by omega)
    refine ⟨1, capN (C 2), by omega, by omega, l.insert (i := 0) c.h01 (by omega) (by omega) (fun j hj => c.kT (c.mem (by omega) hj)) ku (fun _ => ⟨by omega, by omega⟩) fun h' e' c' l' f' he => ?_⟩
    rcases he with ⟨q, -, -⟩ | ⟨-, q, q'⟩
    · omega
    · subst q
      exact fin _ _ h' e' _ l' f' (Or.inr q') ⟨capN_CS _ cs.1 (by omega), fun _ => capN_33 _ cs.1 (by omega)⟩ (by omega) (by omega)
  · refine ⟨0, 0, by omega, by omega, l.insert (i := 0) c.h01 (by omega) (by omega) (fun j hj => c.kT (c.mem (by omega) hj)) ku (fun z => absurd z full) fun h' e' c' l' f' he => ?_⟩
    rcases he with ⟨-, q1, q2⟩ | ⟨q, -⟩
    · subst q2
      exact fin _ _ h' e' _ l' f' (Or.inl q1) cs (by omega) (by omega)
    · exact absurd q full
theorem V_keepWayTo {mc ms t k : Nat} {q fr : List Nat} {post : Hp → Prop} (c : CI g Y P h0 h x D E C L) (a : CZ h L B D W z) (o : Zo z) (hg : ∀ t k : Nat, 1 ≤ t → t ≤ zn z → 2 ≤ k → k ≤ 7 → B t k ≠ g.2.2 1) (qo : Qo z t q fr) (rq : RQ h (L 3) (L 0) D (zn z) t q fr) (hk : k < q.length) (hmc : 4 ≤ mc) (hms : 80 ≤ ms)
    (hp : ∀ (h' : Hp) (E' C' : Nat → Nat) (L' : Nat → List Nat), CI g Y P h0 h' x D E' C' L' → CZ h' L' B D W z → L' 0 = L 0 → L' 1 = L 1 → L' 2 = (aPt q fr 30 k []).map (Ta (L 0)) → post h') : wp_G_keepWayTo g post mc ms h (D 6) (nI k) := by
  have o1 := o.1
  have qn := qo.len
  have q3 : (L 3).length = q.length := by rw [rq.1, List.length_map]
  have inq : ∀ j : Nat, j < q.length → 1 ≤ q.getD j 0 ∧ q.getD j 0 ≤ zn z := fun j hj => qo.2.2.1 _ (getD_mem (d := 0) hj)
  have loop : ∀ (fd d j st : Nat) (acc : List Nat) (h' : Hp) (E C : Nat → Nat) (L' : Nat → List Nat) (kc ks : Nat), CI g Y P h0 h' x D E C L' → CZ h' L' B D W z → (∀ i : Nat, i ≠ 2 → L' i = L i) → hI h' (D 7) = hI h (D 7) → j < q.length → j ≤ fd → j ≤ d → st + j ≤ k → acc.length = st → L' 2 = acc.map (Ta (L 0)) → aPt q fr d j acc = aPt q fr 30 k [] → kc + pc (C 2) ≤ mc → ks + ps (C 2) ≤ ms → wp_G_keepWayTo_25 g post mc ms (fd + 1) h' kc ks (D 6) (nI q.length) (nI j) (nI st) := by
    intro fd
    have last : ∀ (d : Nat) (acc : List Nat) (h' : Hp) (E C : Nat → Nat) (L' : Nat → List Nat) (kc ks : Nat), CI g Y P h0 h' x D E C L' → CZ h' L' B D W z → (∀ i : Nat, i ≠ 2 → L' i = L i) → acc.length ≤ 30 → L' 2 = acc.map (Ta (L 0)) → aPt q fr d 0 acc = aPt q fr 30 k [] → kc + pc (C 2) ≤ mc → ks + ps (C 2) ≤ ms → wp_G_keepWayTo_72 g post mc ms h' kc ks (D 6) (nI q.length) := by
      intro d acc h' E C L' kc ks c a hj hal hacc ea k1 k2
      have e0 : L' 0 = L 0 := hj 0 (by decide)
      have e3 : L' 3 = L 3 := hj 3 (by decide)
      have l3 := c.ls 3 (by omega)
      have pt : aPt q fr d 0 acc = q.getD 0 0 :: acc := by
        cases d with
        | zero => rfl
        | succ d => unfold aPt; rw [if_pos rfl]
      rw [pt] at ea
      have p0 : 0 < q.length := by omega
      have i0 := inq 0 p0
      have ge : (L' 3).getD 0 0 = Ta (L' 0) (q.getD 0 0) := by rw [e3, rq.1, e0]; exact map_getD p0
      have hm := c.mem (i := 3) (j := 0) (by omega) (by rw [e3]; omega)
      have km := c.kT hm
      rw [ge] at km
      unfold wp_G_keepWayTo_72 wp_G_keepWayTo_95
      refine ⟨fun y => absurd y (nI_nle p0 (by omega)), fun _ => ?_⟩
      have g0 : wp_A_get g (fun r8 => ∃ a9 : Nat, r8 = some a9 ∧ hK h' a9 = 4 ∧ hK h' (D 2) = 6 ∧ ∃ mc13 ms14 : Nat, kc + mc13 ≤ mc ∧ ks + ms14 ≤ ms ∧ wp_A_add3 g (fun h12 => post h12) mc13 ms14 h' (D 2) 0 a9) h' (D 3) (nI 0) := by
        refine l3.get (by rw [e3]; omega) ⟨_, rfl, by rw [ge]; exact km, (c.ls 2 (by omega)).1, ?_⟩
        rw [ge]
        refine V_add0 (acc := acc) (Post := fun _ _ h12 => post h12) c a hg i0.1 i0.2 (by rw [hacc, List.length_map]; exact hal) (by rw [hacc, e0]) k1 k2 fun m1 m2 h'' E' C' L'' c' a' s' t' _ _ _ => hp h'' E' C' L'' c' a' ((s' 0 (by decide)).trans e0) ((s' 1 (by decide)).trans (hj 1 (by decide))) ?_
        rw [t', e0, ea]
      exact ⟨c.sk.k6, D 2, c.sk.r0, c.sk.k6, D 3, c.sk.r1, l3.1, g0⟩
    induction fd with
    | zero =>
      intro d j st acc h' E C L' kc ks c a hj e7 hjq hfd hd hst hal hacc ea k1 k2
      have j0 : j = 0 := by omega
      subst j0
      have q := last d acc h' E C L' kc ks c a hj (by omega) hacc ea k1 k2
      unfold wp_G_keepWayTo_25
      exact ⟨fun _ => q, fun _ => ⟨fun _ => q, fun y => absurd (by decide) y⟩⟩
    | succ fd ih =>
      intro d j st acc h' E C L' kc ks c a hj e7 hjq hfd hd hst hal hacc ea k1 k2
      have e0 : L' 0 = L 0 := hj 0 (by decide)
      have e3 : L' 3 = L 3 := hj 3 (by decide)
      by_cases j0 : j = 0
      · subst j0
        have q := last d acc h' E C L' kc ks c a hj (by omega) hacc ea k1 k2
        unfold wp_G_keepWayTo_25
        exact ⟨fun _ => q, fun _ => ⟨fun _ => q, fun y => absurd (by decide) y⟩⟩
      · have l3 := c.ls 3 (by omega)
        obtain ⟨d, rfl⟩ : ∃ d', d = d' + 1 := ⟨d - 1, by omega⟩
        have pt : aPt q fr (d + 1) j acc = aPt q fr d (fr.getD j 0) (q.getD j 0 :: acc) := by rw [aPt, if_neg j0]
        rw [pt] at ea
        obtain ⟨fj, -⟩ := qo.2.2.2.2 j (by omega) hjq
        have ij := inq j hjq
        have ge : (L' 3).getD j 0 = Ta (L' 0) (q.getD j 0) := by rw [e3, rq.1, e0]; exact map_getD hjq
        have hm := c.mem (i := 3) (j := j) (by omega) (by rw [e3]; omega)
        have km := c.kT hm
        unfold wp_G_keepWayTo_25
        refine ⟨fun y => ?_, fun _ => ⟨fun y => absurd y (nI_nle (by omega) (by omega)), fun _ => ⟨fun y => ?_, fun _ => ⟨c.sk.k6, D 2, c.sk.r0, c.sk.k6, D 3, c.sk.r1, l3.1, l3.get (by rw [e3]; omega) ⟨_, rfl, km, (c.ls 2 (by omega)).1, ?_⟩⟩⟩⟩⟩
        · have := (nI_leI (by omega) (by omega)).mp y
          omega
        · have := (nI_leI (by omega) (by omega)).mp y
          omega
        rw [ge]
        refine V_add0 (acc := acc) c a hg ij.1 ij.2 (by rw [hacc, List.length_map]; omega) (by rw [hacc, e0]) k1 k2 fun m1 m2 h'' E' C' L'' c' a' s' t' f7 q1 q2 => ?_
        refine ⟨c'.sk.k6, D 7, c'.sk.r2, c'.sk.k7.1, by rw [c'.sk.k7.2]; exact vp_in_nI (by omega) (by omega), fun x20 e20 => ?_⟩
        rw [nI_1] at e20
        subst e20
        rw [nI_clamp (by omega), f7, e7, rq.2.1 j hjq]
        exact ih d (fr.getD j 0) (st + 1) (q.getD j 0 :: acc) h'' E' C' L'' _ _ c' a' (fun i hi => (s' i hi).trans (hj i hi)) (f7.trans e7) (by omega) (by omega) (by omega) (by omega) (by rw [List.length_cons]; omega) (by rw [t', e0]) ea q1 q2
  have l2 := c.ls 2 (by omega)
  unfold wp_G_keepWayTo
  refine ⟨c.sk.k6, D 2, c.sk.r0, l2.1, l2.clear (c.sk.dy 2 (by omega)).2 fun h4 l4 f4 => ?_⟩
  have c4 := c.upd (i := 2) (by omega) f4 l4 (Or.inl rfl) (fun t ht => by cases ht) (c.cp 2 (by omega))
  rw [va_up_same, va_up_same] at c4
  have a4 : CZ h4 (va_up L 2 []) B D W z := a.fr3 c hg (by omega) (by omega) f4 (fun j hj => va_up_ne _ _ hj)
  have l3 := c4.ls 3 (by omega)
  have e3 : va_up L 2 [] 3 = L 3 := va_up_ne _ _ (by decide)
  have f7 : hI h4 (D 7) = hI h (D 7) := ((f4 (D 7) (by rw [c.sk.k7.1]; decide)).2.2 (list_S c (by omega) _ (Or.inr (by rw [c.sk.k7.1]; decide)) (c.sk.dy 7 (by omega)).2)).1
  refine ⟨c4.sk.k6, D 3, c4.sk.r1, l3.1, l3.size fun x10 e10 => ⟨31, ?_⟩⟩
  have h30 : (30 : Int32) = nI 30 := rfl
  rw [e3, q3, h30, if_neg (nI_nlt (by omega) (by omega))] at e10
  subst e10
  have pp := pc_le (C 2) (c.cp 2 (by omega)).1
  exact loop 30 30 k 0 [] h4 E C _ 0 0 c4 a4 (fun i hi => va_up_ne _ _ hi) f7 hk (by omega) (by omega) (by omega) rfl (va_up_self _ _ _) rfl (by omega) (by omega)
theorem V_begin {t mc ms : Nat} {post : Hp → Prop} (c : CI g Y P h0 h x D E C L) (a : CZ h L B D W z) (o : Zo z) (hg : ∀ t k : Nat, 1 ≤ t → t ≤ zn z → 2 ≤ k → k ≤ 7 → B t k ≠ g.2.2 1) (t1 : 1 ≤ t) (t2 : t ≤ zn z) (hm : C 3 = 0 → 1 ≤ mc ∧ 10 ≤ ms)
    (hp : ∀ (h' : Hp) (E' C' : Nat → Nat) (L' : Nat → List Nat), CI g Y P h0 h' x D E' C' L' → CZ h' L' B D W z → (∀ j : Nat, j ≠ 3 → L' j = L j) → RQ h' (L' 3) (L 0) D (zn z) t [t] [0] → C' 3 = (if C 3 = 0 then 10 else C 3) → post h') : wp_G_begin g post mc ms h (D 6) (Ta (L 0) t) := by
  have h30 : (30 : Int32) = nI 30 := rfl
  have o1 := o.1
  have d87 : D 8 ≠ D 7 := fun y => by
    have h1 := c.sk.k8.1
    rw [y, c.sk.k7.1] at h1; exact absurd h1 (by decide)
  have loop : ∀ (d j : Nat) (h : Hp), j + d = 30 → CI g Y P h0 h x D E C L → CZ h L B D W z → (∀ b : Nat, b < j → hI h (D 8) b = 0) → wp_G_begin_2 g post mc ms (d + 1) h 0 0 (D 6) (Ta (L 0) t) (nI j) := by
    intro d
    induction d with
    | zero =>
      intro j h e c a z8
      have e : j = 30 := by omega
      subst e
      have k := c.sk.k6
      obtain ⟨k7, n7⟩ := c.sk.k7
      unfold wp_G_begin_2
      refine ⟨fun _ => ⟨k, D 7, c.sk.r2, k7, by rw [n7]; exact vp_in_nI (n := 0) (by omega) (by omega), fun h5 e5 => ?_⟩, fun z => absurd (by decide) z⟩
      have e5 : h5 = sI h (D 7) 0 0 := e5
      have c5 : CI g Y P h0 h5 x D E C L := by rw [e5]; exact c.wD (by omega)
      have a5 : CZ h5 L B D W z := by rw [e5]; exact a.wD c (by omega)
      have l5 := c5.ls 3 (by omega)
      refine ⟨c5.sk.k6, D 3, c5.sk.r1, l5.1, l5.clear (c.sk.dy 3 (by omega)).2 fun h9 l9 f9 => ?_⟩
      have c9 := c5.upd (i := 3) (by omega) f9 l9 (Or.inl rfl) (fun t ht => by cases ht) (c5.cp 3 (by omega))
      rw [va_up_same, va_up_same] at c9
      have a9 : CZ h9 (va_up L 3 []) B D W z := a5.fr3 c5 hg (by omega) (by omega) f9 (fun j hj => va_up_ne _ _ hj)
      have pt := Ta_P c t1 (by rw [a.1.1]; exact t2)
      have kt := c9.kT pt
      have cs := (c9.cp 3 (by omega)).1
      refine ⟨c9.sk.k6, D 3, c9.sk.r1, l9.1, mc, ms, by omega, by omega, l9.add c.h01 (by have := CS_549 _ cs; omega) (fun j hj => absurd hj (Nat.not_lt_zero j)) kt (fun e => ?_) fun h' e' c' l' f' he => ?_⟩
      · have e : C 3 = 0 := e.symm
        obtain ⟨m1, m2⟩ := hm e
        refine ⟨m1, ?_⟩
        rw [e]; exact m2
      · have ec : c' = if C 3 = 0 then 10 else C 3 := by
          rcases he with ⟨q1, -, q⟩ | ⟨q1, q, -⟩
          · have q1 : 0 < C 3 := q1
            rw [if_neg (by omega)]; exact q
          · have q1 : 0 = C 3 := q1
            rw [if_pos q1.symm, q, ← q1]; rfl
        have he' : e' = E 3 ∨ (hK h9 e' = 0 ∧ g.2.2 0 ≤ e') := by
          rcases he with ⟨-, q, -⟩ | ⟨-, -, q⟩
          · exact Or.inl q
          · exact Or.inr q
        have hc' : c' ∈ CS ∧ ((3 : Nat) ≠ 1 → c' ≤ 33) := by
          have h3 := c9.cp 3 (by omega)
          rw [ec]
          by_cases z : C 3 = 0
          · rw [if_pos z]; exact ⟨by decide, fun _ => by omega⟩
          · rw [if_neg z]; exact h3
        have u := c9.upd (i := 3) (by omega) f' l' he' (fun u hu => by
          rcases List.mem_append.mp hu with q | q
          · cases q
          · rw [List.mem_singleton.mp q]; exact pt) hc'
        have same : ∀ b : Nat, (hK h5 b = 21 ∨ hK h5 b = 23) → b ≠ g.2.2 1 → hI h' b = hI h5 b := fun b b1 b2 => by
          have s1 := (f9 b (by omega)).2.2 (list_S c5 (by omega) b (by omega) b2)
          have k9 := (f9 b (by omega)).1
          have s2 := (f' b (by omega)).2.2 (list_S c9 (by omega) b (by omega) b2)
          exact s2.1.trans s1.1
        refine hp h' _ _ (va_up (va_up L 3 []) 3 ([] ++ [Ta (L 0) t])) u (a9.fr3 c9 hg (by omega) (by omega) f' (fun j hj => va_up_ne _ _ hj)) (fun j hj => (va_up_ne _ _ hj).trans (va_up_ne _ _ hj)) ⟨by rw [va_up_self]; rfl, fun j hj => ?_, fun v hv => ?_⟩ (by rw [va_up_self]; exact ec)
        · have j0 : j = 0 := by have : j < 1 := hj; omega
          rw [j0, same (D 7) (Or.inl c5.sk.k7.1) (c.sk.dy 7 (by omega)).2, e5, rI_sI, if_pos ⟨rfl, rfl⟩]
          rfl
        · rw [same (D 8) (Or.inr c5.sk.k8.1) (c.sk.dy 8 (by omega)).2, e5, sI_o d87, z8 v (by omega), if_neg]
          rintro ⟨y1, y2⟩
          exact y2 (List.mem_singleton.mp y1)
    | succ d ih =>
      intro j h e c a z8
      obtain ⟨k8, n8⟩ := c.sk.k8
      unfold wp_G_begin_2
      refine ⟨fun z => ?_, fun _ => ⟨c.sk.k6, D 8, c.sk.r3, k8, by rw [n8]; exact vp_in_nI (by omega) (by omega), Or.inl rfl, fun h20 e20 x21 e21 => ?_⟩⟩
      · rw [h30] at z
        have := (nI_leI (by omega) (by omega)).mp z
        omega
      · rw [nI_clamp (by omega)] at e20
        rw [nI_1] at e21
        subst e21
        refine ih (j + 1) h20 (by omega) (by rw [e20]; exact c.wD (by omega)) (by rw [e20]; exact a.wD c (by omega)) fun b hb => ?_
        rw [e20, rI_sI]
        by_cases q : b = j
        · rw [if_pos ⟨rfl, q⟩]
        · rw [if_neg (fun y => q y.2)]; exact z8 b (by omega)
  unfold wp_G_begin
  exact ⟨31, loop 30 0 h rfl c a (fun b hb => absurd hb (Nat.not_lt_zero b))⟩
theorem V_search {t mc ms : Nat} {post : Int32 → Hp → Prop} (c : CI g Y P h0 h x D E C L) (a : CZ h L B D W z) (o : Zo z) (hg : ∀ t k : Nat, 1 ≤ t → t ≤ zn z → 2 ≤ k → k ≤ 7 → B t k ≠ g.2.2 1) (t1 : 1 ≤ t) (t2 : t ≤ zn z) (hmc : 8 ≤ mc) (hms : 160 ≤ ms)
    (p0 : aFind z t = none → ∀ (h' : Hp) (E' C' : Nat → Nat) (L' : Nat → List Nat), CI g Y P h0 h' x D E' C' L' → CZ h' L' B D W z → L' 0 = L 0 → L' 1 = L 1 → L' 2 = L 2 → post 0 h')
    (p1 : ∀ R : List Nat, aFind z t = some R → ∀ (h' : Hp) (E' C' : Nat → Nat) (L' : Nat → List Nat), CI g Y P h0 h' x D E' C' L' → CZ h' L' B D W z → L' 0 = L 0 → L' 1 = L 1 → L' 2 = R.map (Ta (L 0)) → post 1 h') : wp_G_search g post mc ms h (D 6) (D 0) (D 5) (Ta (L 0) t) := by
  have o1 := o.1
  have loop : ∀ (d k : Nat) (h : Hp) (E C : Nat → Nat) (L' : Nat → List Nat) (q fr : List Nat) (kc ks : Nat), CI g Y P h0 h x D E C L' → CZ h L' B D W z → (∀ j : Nat, j ≠ 3 → L' j = L j) → k + d = 30 → Qo z t q fr → RQ h (L' 3) (L 0) D (zn z) t q fr → aOut z t d k q fr = aFind z t → kc + pc (C 3) ≤ 4 → ks + ps (C 3) ≤ 80 → wp_G_search_8 g post mc ms (d + 1) h kc ks (D 6) (D 0) (D 5) (Ta (L 0) t) (nI k) := by
    intro d
    induction d with
    | zero =>
      intro k h E C L' q fr kc ks c a hj e qo rq ea k1 k2
      have e : k = 30 := by omega
      subst e
      unfold wp_G_search_8 wp_G_search_70
      exact ⟨fun _ => ⟨Or.inl rfl, p0 ea.symm h E C L' c a (hj 0 (by decide)) (hj 1 (by decide)) (hj 2 (by decide))⟩, fun z => absurd (by decide) z⟩
    | succ d ih =>
      intro k h E C L' q fr kc ks c a hj e qo rq ea k1 k2
      have e0 : L' 0 = L 0 := hj 0 (by decide)
      have h30 : (30 : Int32) = nI 30 := rfl
      have l3 := c.ls 3 (by omega)
      have qn := qo.len
      have q3 : (L' 3).length = q.length := by rw [rq.1, List.length_map]
      unfold aOut at ea
      unfold wp_G_search_8 wp_G_search_70
      refine ⟨fun y => ?_, fun _ => ⟨c.sk.k6, D 3, c.sk.r1, l3.1, l3.size ⟨fun y => ?_, fun y => ?_⟩⟩⟩
      · rw [h30] at y
        have := (nI_leI (by omega) (by omega)).mp y
        omega
      · have := (nI_leI (by omega) (by omega)).mp y
        rw [if_neg (by omega)] at ea
        exact ⟨Or.inl rfl, p0 ea.symm h E C L' c a e0 (hj 1 (by decide)) (hj 2 (by decide))⟩
      · have hlt : k < q.length := by
          rcases Nat.lt_or_ge k q.length with y' | y'
          · exact y'
          · exact absurd (nI_le (by omega) (by omega)) y
        rw [if_pos hlt] at ea
        have hm := c.mem (i := 3) (j := k) (by omega) (by omega)
        have ge : (L' 3).getD k 0 = Ta (L' 0) (q.getD k 0) := by rw [rq.1, e0]; exact map_getD hlt
        have iq := qo.2.2.1 _ (getD_mem (d := 0) hlt)
        refine ⟨c.sk.k6, D 3, c.sk.r1, l3.1, l3.get (by omega) ⟨_, rfl, c.kT hm, c.sk.k6, ?_⟩⟩
        rw [ge]
        refine V_markBlockers c a o iq.1 iq.2 fun h16 c16 a16 f7 f8 f9 => ⟨c16.sk.k6, ?_⟩
        have rq16 : RQ h16 (L' 3) (L' 0) D (zn z) t q fr := ⟨by rw [e0]; exact rq.1, by rw [f7]; exact rq.2.1, by rw [f8]; exact rq.2.2⟩
        obtain ⟨i1, i2, i3, i4⟩ := aIn_Qo (z := z) (t := t) (k := k) (zn z) 1 q fr (Nat.le_refl 1) (by omega) qo hlt rfl
        have il := i1.len
        have cs := c16.cp 3 (by omega)
        have fp := fc_pc (C 3) cs.1 (cs.2 (by decide)) (aIn z t k (q.getD k 0) (zn z) 1 q fr).2.1.length (by omega)
        obtain ⟨F, hF⟩ : ∃ F : Nat, F = fc (C 3) (aIn z t k (q.getD k 0) (zn z) 1 q fr).2.1.length := ⟨_, rfl⟩
        rw [← hF] at fp
        refine ⟨pc (C 3) - pc F, ps (C 3) - ps F, by omega, by omega, ?_⟩
        rw [← e0]
        refine V_reachBlockers c16 a16 o hg t1 t2 qo rq16 hlt rfl f9 (by rw [← hF]; omega) (by rw [← hF]; omega) fun h' E' C' L'' s' c' a' rq' sc => ?_
        rw [← hF] at sc
        have s0 : L'' 0 = L 0 := (s' 0 (by decide)).trans e0
        have sj : ∀ j : Nat, j ≠ 3 → L'' j = L j := fun j hj' => (s' j hj').trans (hj j hj')
        rw [e0] at rq' ⊢
        refine ⟨fun yf x23 e23 => ?_, fun yt => ⟨c'.sk.k6, 4, 80, by omega, by omega, ?_⟩⟩
        · have nf : ¬ (aIn z t k (q.getD k 0) (zn z) 1 q fr).1 = true := fun y => by rw [y] at yf; exact absurd yf (by decide)
          rw [if_neg nf] at ea
          rw [nI_1] at e23
          subst e23
          refine ih (k + 1) h' E' C' L'' _ _ _ _ c' a' sj (by omega) i1 rq' ea ?_ ?_
          · rw [sc]; omega
          · rw [sc]; omega
        · have yt' : (aIn z t k (q.getD k 0) (zn z) 1 q fr).1 = true := by
            cases y : (aIn z t k (q.getD k 0) (zn z) 1 q fr).1
            · rw [y] at yt; exact absurd rfl yt
            · rfl
          rw [if_pos yt'] at ea
          refine V_keepWayTo c' a' o hg i1 (by rw [s0]; exact rq') i2 (by omega) (by omega) fun h25 E2 C2 L2 c25 a25 u0 u1 u2 => ⟨Or.inr rfl, p1 _ ea.symm h25 E2 C2 L2 c25 a25 (u0.trans s0) (u1.trans (sj 1 (by decide))) ?_⟩
          rw [u2, s0]
  have cs := c.cp 3 (by omega)
  have pp := pc_le (C 3) cs.1
  unfold wp_G_search
  by_cases y : C 3 = 0
  · refine ⟨c.sk.k6, 1, 10, by omega, by omega, V_begin c a o hg t1 t2 (fun _ => ⟨by omega, by omega⟩) fun h2 E2 C2 L2 c2 a2 s2 rq2 tc => ⟨31, ?_⟩⟩
    rw [if_pos y] at tc
    exact loop 30 0 h2 E2 C2 L2 _ _ _ _ c2 a2 s2 rfl (Qo.start t1 t2) rq2 rfl (by rw [tc]; decide) (by rw [tc]; decide)
  · refine ⟨c.sk.k6, 0, 0, by omega, by omega, V_begin c a o hg t1 t2 (fun y' => absurd y' y) fun h2 E2 C2 L2 c2 a2 s2 rq2 tc => ⟨31, ?_⟩⟩
    rw [if_neg y] at tc
    exact loop 30 0 h2 E2 C2 L2 _ _ _ _ c2 a2 s2 rfl (Qo.start t1 t2) rq2 rfl (by rw [tc]; omega) (by rw [tc]; omega)
theorem V_youngest {t : Nat} {R : List Nat} {post : Option Nat → Prop} (c : CI g Y P h0 h x D E C L) (a : CZ h L B D W z) (o : Zo z) (hRm : ∀ u ∈ R, 1 ≤ u ∧ u ≤ zn z) (hl2 : L 2 = R.map (Ta (L 0))) (hl : R.length ≤ 31) (t1 : 1 ≤ t) (t2 : t ≤ zn z) (hp : post (some (Ta (L 0) (aYg z R t)))) : wp_G_youngest g post h (D 6) (Ta (L 0) t) := by
  have l := c.ls 2 (by omega)
  have k := c.sk.k6
  have r := c.sk.r0
  have o1 := o.1
  have rl : (L 2).length = R.length := by rw [hl2, List.length_map]
  have loop : ∀ (d i y : Nat), i + d = R.length → 1 ≤ y → y ≤ zn z → aYg z (R.drop i) y = aYg z R t → wp_G_youngest_4 g post (d + 1) h (D 6) (Ta (L 0) y) (nI i) := by
    intro d
    induction d with
    | zero =>
      intro i y e y1 y2 ea
      rw [show i = R.length by omega, List.drop_length] at ea
      have ea : y = aYg z R t := ea
      rw [← ea] at hp
      unfold wp_G_youngest_4
      exact ⟨k, D 2, r, l.1, l.size ⟨fun _ => hp, fun z => absurd (nI_le (by omega) (by omega)) z⟩⟩
    | succ d ih =>
      intro i y e y1 y2 ea
      have hi : i < R.length := by omega
      have hm := c.mem (i := 2) (j := i) (by omega) (by omega)
      have km := c.kT hm
      have ge : (L 2).getD i 0 = Ta (L 0) (R.getD i 0) := by rw [hl2]; exact map_getD hi
      have iv := hRm _ (getD_mem (d := 0) hi)
      have ky := c.kT (Ta_P c y1 (by rw [a.1.1]; exact y2))
      obtain ⟨v0, v1, -⟩ := a.1.2.2.1 _ iv.1 iv.2
      obtain ⟨w0, w1, -⟩ := a.1.2.2.1 y y1 y2
      rw [drop_cons hi] at ea
      have nx : ∀ y' : Nat, 1 ≤ y' → y' ≤ zn z → (if y = 0 ∨ zI z 7 y 0 < zI z 7 (R.getD i 0) 0 ∨ (zI z 7 (R.getD i 0) 0 = zI z 7 y 0 ∧ y < R.getD i 0) then R.getD i 0 else y) = y' → ∀ x1 : Int32, x1 = nI i + 1 → wp_G_youngest_4 g post (d + 1) h (D 6) (Ta (L 0) y') x1 := fun y' h1 h2 ey x1 e1 => by
        rw [nI_1] at e1; subst e1
        refine ih (i + 1) y' (by omega) h1 h2 ?_
        rw [← ea, ← ey]
        rfl
      have yes : (y = 0 ∨ zI z 7 y 0 < zI z 7 (R.getD i 0) 0 ∨ (zI z 7 (R.getD i 0) 0 = zI z 7 y 0 ∧ y < R.getD i 0)) → ((1 : Int32) = 0 → wp_G_youngest_45 g post (fun h v0 v2 v3 => wp_G_youngest_4 g post (d + 1) h v0 v2 v3) h (D 6) (Ta (L 0) y) (nI i)) ∧ (¬ (1 : Int32) = 0 → hK h (D 6) = 3 ∧ ∃ a19 : Nat, hR h (D 6) 0 = some a19 ∧ hK h a19 = 6 ∧ wp_A_get g (fun r22 => ∃ a23 : Nat, r22 = some a23 ∧ hK h a23 = 4 ∧ wp_G_youngest_45 g post (fun h v0 v2 v3 => wp_G_youngest_4 g post (d + 1) h v0 v2 v3) h (D 6) a23 (nI i)) h a19 (nI i)) := fun hc => by
        refine ⟨fun q => absurd q (by decide), fun _ => ⟨k, D 2, r, l.1, l.get (by omega) ⟨_, rfl, km, ?_⟩⟩⟩
        rw [ge]
        unfold wp_G_youngest_45
        exact nx _ iv.1 iv.2 (if_pos hc)
      have no : ¬ (y = 0 ∨ zI z 7 y 0 < zI z 7 (R.getD i 0) 0 ∨ (zI z 7 (R.getD i 0) 0 = zI z 7 y 0 ∧ y < R.getD i 0)) → ((0 : Int32) = 0 → wp_G_youngest_45 g post (fun h v0 v2 v3 => wp_G_youngest_4 g post (d + 1) h v0 v2 v3) h (D 6) (Ta (L 0) y) (nI i)) ∧ (¬ (0 : Int32) = 0 → hK h (D 6) = 3 ∧ ∃ a19 : Nat, hR h (D 6) 0 = some a19 ∧ hK h a19 = 6 ∧ wp_A_get g (fun r22 => ∃ a23 : Nat, r22 = some a23 ∧ hK h a23 = 4 ∧ wp_G_youngest_45 g post (fun h v0 v2 v3 => wp_G_youngest_4 g post (d + 1) h v0 v2 v3) h (D 6) a23 (nI i)) h a19 (nI i)) := fun hc => by
        refine ⟨fun _ => ?_, fun q => absurd rfl q⟩
        unfold wp_G_youngest_45
        exact nx y y1 y2 (if_neg hc)
      unfold wp_G_youngest_4
      refine ⟨k, D 2, r, l.1, l.size ⟨fun q => ?_, fun _ => ⟨k, D 2, r, l.1, l.get (by omega) ⟨_, rfl, km, km, ?_⟩⟩⟩⟩
      · have := (nI_leI (by omega) (by omega)).mp q
        omega
      · unfold wp_T_isYounger wp_T_isYounger_33 wp_T_isYounger_37 wp_T_isYounger_38
        rw [ge] at km ⊢
        rw [v1, w1, v0, w0]
        refine ⟨km, ky, fun q => ⟨Or.inr rfl, yes (Or.inr (Or.inl q))⟩, fun q1 => ⟨km, ky, fun q2 => ⟨Or.inl rfl, no ?_⟩, fun q2 => ⟨km, ky, fun q3 => ⟨Or.inl rfl, no ?_⟩, fun q3 => ⟨Or.inr rfl, yes (Or.inr (Or.inr ⟨q2, ?_⟩))⟩⟩⟩⟩
        · rintro (q | q | q)
          · omega
          · exact q1 q
          · exact q2 q.1
        · have := (nI_leI (by omega) (by omega)).mp q3
          rintro (q | q | q)
          · omega
          · exact q1 q
          · omega
        · rcases Nat.lt_or_ge y (R.getD i 0) with q | q
          · exact q
          · exact absurd (nI_le q (by omega)) q3
  unfold wp_G_youngest
  exact ⟨R.length + 1, loop _ 0 t (by omega) t1 t2 (by rw [List.drop_zero])⟩
end VF
