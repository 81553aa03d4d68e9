/-! EXACT: the class's search, youngest -/
theorem aIn_len {z : Zs} {t k u : Nat} : ∀ (d v : Nat) (q fr : List Nat), q.length ≤ (aIn z t k u d v q fr).2.1.length := by
  intro d
  induction d with
  | zero => intro v q fr; exact Nat.le_refl _
  | succ d ih =>
    intro v q fr
    unfold aIn
    by_cases c : aBl z u v = true
    · rw [if_pos c]
      by_cases c2 : v = t
      · rw [if_pos c2]; exact Nat.le_refl _
      · rw [if_neg c2]
        by_cases c3 : v ∈ q
        · rw [if_pos c3]; exact ih _ _ _
        · rw [if_neg c3]
          refine Nat.le_trans ?_ (ih _ _ _)
          rw [List.length_append]; omega
    · rw [if_neg c]; exact ih _ _ _
section VS
variable {g : Gm} {Y P : Nat → Prop} {h0 h : Hp} {x : Nat} {D E C : Nat → Nat} {L : Nat → List Nat} {B : Nat → Nat → Nat} {z : Zs} {W : List Nat}
/-- those reached, as the class has them -/
def RQ (h : Hp) (L3 T : List Nat) (D : Nat → Nat) (n t : Nat) (q fr : List Nat) : Prop := L3 = q.map (Ta T) ∧ (∀ j : Nat, j < q.length → hI h (D 7) j = nI (fr.getD j 0)) ∧ ∀ v : Nat, v < n → hI h (D 8) v = if v + 1 ∈ q ∧ v + 1 ≠ t then 1 else 0
theorem CZ.fr3 {h' : Hp} {i : Nat} {L' : Nat → List Nat} (a : CZ h L B D W z) (c : CI g Y P h0 h x D E C L) (hg : ∀ t k : Nat, 1 ≤ t → t ≤ zn z → 2 ≤ k → k ≤ 7 → B t k ≠ g.2.2 1) (hi : i < 4) (hi1 : i = 2 ∨ i = 3) (f : Fr (fun b => b = D i ∨ b = E i) h h') (hj : ∀ j : Nat, j ≠ i → L' j = L j) : CZ h' L' B D W z := by
  have e0 : L' 0 = L 0 := hj 0 (by omega)
  have e1 : L' 1 = L 1 := hj 1 (by omega)
  refine ⟨?_, ?_, ?_⟩
  · rw [e0]; exact a.1.fr c f (list_S c hi) hg
  · rw [e0]; exact a.2.1.fr c a.1.1 f (list_S c hi)
  · rw [e0, e1]; exact a.2.2
theorem V_reachBlockers {t k u mc ms : Nat} {q0 fr0 : List Nat} {post : Int32 → Hp → Prop} (c : CI g Y P h0 h x D E C L) (a : CZ h L B D W z) (o : Zo z) (hg : ∀ t k : Nat, 1 ≤ t → t ≤ zn z → 2 ≤ k → k ≤ 7 → B t k ≠ g.2.2 1) (t1 : 1 ≤ t) (t2 : t ≤ zn z) (qo : Qo z t q0 fr0) (rq : RQ h (L 3) (L 0) D (zn z) t q0 fr0) (hk : k < q0.length) (hu : q0.getD k 0 = u) (bl : ∀ i : Nat, i < zn z → hI h (D 9) i = bI (aBl z u (i + 1)))
    (hmc : pc (C 3) ≤ mc + pc (fc (C 3) (aIn z t k u (zn z) 1 q0 fr0).2.1.length)) (hms : ps (C 3) ≤ ms + ps (fc (C 3) (aIn z t k u (zn z) 1 q0 fr0).2.1.length))
    (hp : ∀ (h' : Hp) (E' C' : Nat → Nat) (L' : Nat → List Nat), (∀ j : Nat, j ≠ 3 → L' j = L j) → CI g Y P h0 h' x D E' C' L' → CZ h' L' B D W z → RQ h' (L' 3) (L 0) D (zn z) t (aIn z t k u (zn z) 1 q0 fr0).2.1 (aIn z t k u (zn z) 1 q0 fr0).2.2 → C' 3 = fc (C 3) (aIn z t k u (zn z) 1 q0 fr0).2.1.length → post (bI (aIn z t k u (zn z) 1 q0 fr0).1) h') : wp_G_reachBlockers g post mc ms h (D 6) (D 0) (nI k) (Ta (L 0) t) := by
  have h30 : (30 : Int32) = nI 30 := rfl
  have o1 := o.1
  obtain ⟨fin1, fin2, -, -⟩ := aIn_Qo (z := z) (t := t) (k := k) (u := u) (zn z) 1 q0 fr0 (Nat.le_refl 1) (by omega) qo hk hu
  have fl := fin1.len
  obtain ⟨F, hF0⟩ : ∃ F : Nat, F = fc (C 3) (aIn z t k u (zn z) 1 q0 fr0).2.1.length := ⟨_, rfl⟩
  rw [← hF0] at hmc hms hp
  obtain ⟨R, hR0⟩ : ∃ R, R = aIn z t k u (zn z) 1 q0 fr0 := ⟨_, rfl⟩
  rw [← hR0] at hp fl hF0
  have loop : ∀ (d i : Nat) (h : Hp) (E C : Nat → Nat) (L' : Nat → List Nat) (q fr : List Nat) (kc ks : Nat), CI g Y P h0 h x D E C L' → CZ h L' B D W z → (∀ j : Nat, j ≠ 3 → L' j = L j) → i + d = zn z → Qo z t q fr → RQ h (L' 3) (L 0) D (zn z) t q fr → k < q.length → q.getD k 0 = u → (∀ i : Nat, i < zn z → hI h (D 9) i = bI (aBl z u (i + 1))) → aIn z t k u d (i + 1) q fr = R → F = fc (C 3) R.2.1.length → kc + pc (C 3) ≤ mc + pc F → ks + ps (C 3) ≤ ms + ps F → wp_G_reachBlockers_3 g post mc ms (d + 1) h kc ks (D 6) (D 0) (nI k) (Ta (L 0) t) (nI i) := by
    intro d
    induction d with
    | zero =>
      intro i h E C L' q fr kc ks c a hj e qo rq hk hu bl eR hF k1 k2
      have eR : (false, q, fr) = R := eR
      have l := c.ls 0 (by omega)
      have lc := (c.ls 3 (by omega)).cle
      have hl : (L' 0).length = zn z := a.1.1
      have ql : (L' 3).length = q.length := by rw [rq.1, List.length_map]
      rw [← eR] at hF hp
      have hF' : C 3 = F := by
        rw [hF]
        exact (fc_le (show q.length ≤ C 3 by omega)).symm
      have q110 : zB 0 ∧ post 0 h := ⟨Or.inl rfl, hp h E C L' hj c a rq hF'⟩
      unfold wp_G_reachBlockers_3 wp_G_reachBlockers_110
      refine ⟨fun _ => q110, fun _ => ⟨l.1, l.size ⟨fun _ => q110, fun z => ?_⟩⟩⟩
      exact absurd (nI_le (by omega) (by omega)) z
    | succ d ih =>
      intro i h E C L' q fr kc ks c a hj e qo rq hk hu bl eR hF k1 k2
      have l := c.ls 0 (by omega)
      have e0 : L' 0 = L 0 := hj 0 (by decide)
      have hl : (L' 0).length = zn z := a.1.1
      have ql : (L' 3).length = q.length := by rw [rq.1, List.length_map]
      have qn := qo.len
      have k6 := c.sk.k6
      obtain ⟨k8, n8⟩ := c.sk.k8
      obtain ⟨k9, n9⟩ := c.sk.k9
      obtain ⟨k7, n7⟩ := c.sk.k7
      have i8 : vp_in (nI i) (hN h (D 8)) := by rw [n8]; exact vp_in_nI (by omega) (by omega)
      have i9 : vp_in (nI i) (hN h (D 9)) := by rw [n9]; exact vp_in_nI (by omega) (by omega)
      have hlt : i < (L' 0).length := by omega
      have hm := c.mem (i := 0) (by omega) hlt
      have km := c.kT hm
      have ta : (L' 0).getD i 0 = Ta (L 0) (i + 1) := by rw [e0]; rfl
      have cs := c.cp 3 (by omega)
      have e9i : (nI i).toNatClampNeg = i := nI_clamp (by omega)
      have a1 : CA h (L 0) B D z := by rw [← e0]; exact a.1
      unfold wp_G_reachBlockers_3 wp_G_reachBlockers_110 wp_G_reachBlockers_104
      refine ⟨fun z => ?_, fun _ => ⟨l.1, l.size ⟨fun z => ?_, fun _ => ⟨l.1, l.get hlt ⟨_, rfl, km, k6, D 9, c.sk.r4, k9, i9, ?_⟩⟩⟩⟩⟩
      · rw [h30] at z
        have := (nI_leI (by omega) (by omega)).mp z
        omega
      · have := (nI_leI (by omega) (by omega)).mp z
        omega
      rw [e9i, bl i (by omega)]
      have r8 := rq.2.2 i (by omega)
      refine ⟨fun zb x1 ex1 => ?_, fun zb => ⟨k6, D 8, c.sk.r3, k8, i8, ?_⟩⟩
      · rw [nI_1] at ex1
        subst ex1
        have nb : ¬ aBl z u (i + 1) = true := fun y => by rw [y] at zb; exact absurd zb (by decide)
        refine ih (i + 1) h E C L' q fr kc ks c a hj (by omega) qo rq hk hu bl ?_ hF k1 k2
        rw [← eR, aIn, if_neg nb]
      have yb : aBl z u (i + 1) = true := by
        cases y : aBl z u (i + 1)
        · rw [y] at zb; exact absurd rfl zb
        · rfl
      rw [r8]
      refine ⟨fun zr => ⟨fun zs => ⟨k6, D 8, c.sk.r3, k8, i8, Or.inr rfl, fun h23 e23 => ?_⟩, fun zs => ?_⟩, fun zr x1 ex1 => ?_⟩
      · have nt : ¬ i + 1 = t := fun y => zs (by rw [ta, y])
        have vq : i + 1 ∉ q := fun y => by rw [if_pos ⟨y, nt⟩] at zr; exact absurd zr (by decide)
        have eR' : aIn z t k u d (i + 1 + 1) (q ++ [i + 1]) (fr ++ [k]) = R := by rw [← eR, aIn, if_pos yb, if_neg nt, if_neg vq]
        have qo' := qo.push hk (by omega) (by omega) vq (by rw [hu]; exact (aBl_w yb).1)
        have ql' := qo'.len
        rw [List.length_append] at ql'
        have ql' : q.length + 1 ≤ zn z := ql'
        have rl : q.length + 1 ≤ R.2.1.length := by
          rw [← eR']
          refine Nat.le_trans ?_ (aIn_len _ _ _ _)
          rw [List.length_append]; exact Nat.le_refl _
        have c23 : CI g Y P h0 h23 x D E C L' := by rw [e23]; exact c.wD (by omega)
        have a23 : CZ h23 L' B D W z := by rw [e23]; exact a.wD c (by omega)
        have l3 := c23.ls 3 (by omega)
        refine ⟨c23.sk.k6, D 3, c23.sk.r1, l3.1, l3.size ⟨fun z30 => ?_, fun z30 => ?_⟩⟩
        · have := (nI_leI (a := 30) (by omega) (by omega)).mp z30
          omega
        refine ⟨c23.sk.k6, D 7, c23.sk.r2, c23.sk.k6, D 3, c23.sk.r1, l3.1, l3.size ⟨c23.sk.k7.1, by rw [c23.sk.k7.2]; exact vp_in_nI (by omega) (by omega), fun h38 e38 => ?_⟩⟩
        rw [nI_clamp (by omega)] at e38
        have c38 : CI g Y P h0 h38 x D E C L' := by rw [e38]; exact c23.wD (by omega)
        have a38 : CZ h38 L' B D W z := by rw [e38]; exact a23.wD c23 (by omega)
        have l38 := c38.ls 3 (by omega)
        have km38 := c38.kT hm
        have d89 := c.sk.d89
        have d87 : D 8 ≠ D 7 := fun z => by rw [z, k7] at k8; exact absurd k8 (by decide)
        have d97 : D 9 ≠ D 7 := fun z => by rw [z, k7] at k9; exact absurd k9 (by decide)
        have fin : ∀ (h' : Hp) (e' c' kc' ks' : Nat), Ls g h' (D 3) e' c' (L' 3 ++ [(L' 0).getD i 0]) → Fr (fun b => b = D 3 ∨ b = E 3) h38 h' → (e' = E 3 ∨ (hK h38 e' = 0 ∧ g.2.2 0 ≤ e')) → (c' ∈ CS ∧ ((3 : Nat) ≠ 1 → c' ≤ 33)) → F = fc c' R.2.1.length → kc' + pc c' ≤ mc + pc F → ks' + ps c' ≤ ms + ps F → ∀ x1 : Int32, x1 = nI i + 1 → wp_G_reachBlockers_3 g post mc ms (d + 1) h' kc' ks' (D 6) (D 0) (nI k) (Ta (L 0) t) x1 := by
          intro h' e' c' kc' ks' l' f' he' hc' hF' k1' k2' x1 ex1
          rw [nI_1] at ex1
          subst ex1
          have u' := c38.upd (i := 3) (by omega) f' l' he' (fun u hu => by
            rcases List.mem_append.mp hu with q | q
            · exact c38.lp 3 (by omega) u q
            · rw [List.mem_singleton.mp q]; exact hm) hc'
          have nS : ∀ b : Nat, (hK h38 b = 23 ∨ hK h38 b = 21) → b ≠ g.2.2 1 → hI h' b = hI h38 b := fun b b1 b2 => ((f' b (by omega)).2.2 (list_S c38 (by omega) b (by omega) b2)).1
          have b8 : hI h' (D 8) = hI h23 (D 8) := by rw [nS (D 8) (Or.inl c38.sk.k8.1) (c.sk.dy 8 (by omega)).2, e38, sI_o d87]
          have b9 : hI h' (D 9) = hI h (D 9) := by rw [nS (D 9) (Or.inl c38.sk.k9.1) (c.sk.dy 9 (by omega)).2, e38, sI_o d97, e23, sI_o (fun y => d89 y.symm)]
          have b7 : hI h' (D 7) = hI h38 (D 7) := nS (D 7) (Or.inr c38.sk.k7.1) (c.sk.dy 7 (by omega)).2
          have e3 : va_up L' 3 (L' 3 ++ [(L' 0).getD i 0]) 3 = L' 3 ++ [(L' 0).getD i 0] := va_up_self _ _ _
          refine ih (i + 1) h' _ _ (va_up L' 3 (L' 3 ++ [(L' 0).getD i 0])) (q ++ [i + 1]) (fr ++ [k]) kc' ks' u' (a38.fr3 c38 hg (by omega) (by omega) f' (fun j hj' => va_up_ne _ _ hj')) (fun j hj' => (va_up_ne _ _ hj').trans (hj j hj')) (by omega) qo' ⟨?_, fun j hj' => ?_, fun v hv => ?_⟩ (by rw [List.length_append]; omega) (by rw [getD_app_l hk]; exact hu) (by rw [b9]; exact bl) eR' (by rw [va_up_self]; exact hF') (by rw [va_up_self]; exact k1') (by rw [va_up_self]; exact k2')
          · rw [e3, rq.1, ta, List.map_append]; rfl
          · rw [b7, e38, rI_sI]
            have f1 := qo.1
            rw [List.length_append] at hj'
            have hj' : j < q.length + 1 := hj'
            by_cases y : j = q.length
            · rw [if_pos ⟨rfl, by rw [ql]; exact y⟩, y, ← f1, getD_app_r]
            · rw [if_neg (fun y' => y (by rw [← ql]; exact y'.2)), getD_app_l (by omega), e23, sI_o (fun y => d87 y.symm)]
              exact rq.2.1 j (by omega)
          · rw [b8, e23, rI_sI]
            by_cases y : v = i
            · rw [if_pos ⟨rfl, y⟩, if_pos ⟨List.mem_append.mpr (Or.inr (List.mem_singleton.mpr (by rw [y]))), by rw [y]; exact nt⟩]
            · rw [if_neg (fun y' => y y'.2), rq.2.2 v hv]
              by_cases y2 : v + 1 ∈ q ∧ v + 1 ≠ t
              · rw [if_pos y2, if_pos ⟨List.mem_append.mpr (Or.inl y2.1), y2.2⟩]
              · rw [if_neg y2, if_neg]
                rintro ⟨y3, y4⟩
                rcases List.mem_append.mp y3 with y3 | y3
                · exact y2 ⟨y3, y4⟩
                · have := List.mem_singleton.mp y3; omega
        by_cases full : (L' 3).length = C 3
        · obtain ⟨f1, f2, f3⟩ := fc_all (C 3) cs.1 (by omega) R.2.1.length (by omega) (by omega)
          obtain ⟨p1, p2⟩ := pc_all (C 3) cs.1 (by omega)
          rw [← hF] at f1 f2 f3
          refine ⟨c38.sk.k6, D 3, c38.sk.r1, l38.1, 1, capN (C 3), by omega, by omega, l38.add c.h01 (by have := CS_549 _ cs.1; omega) (fun j hj => c38.kT (c38.mem (by omega) hj)) km38 (fun _ => ⟨by omega, by omega⟩) fun h' e' c' l' f' he => ?_⟩
          rcases he with ⟨q, -, -⟩ | ⟨-, q, q'⟩
          · omega
          · subst q
            exact fin h' e' _ _ _ l' f' (Or.inr q') ⟨capN_CS _ cs.1 (by omega), fun _ => capN_33 _ cs.1 (by omega)⟩ f1.symm (by omega) (by omega)
        · have fp := fc_pc (C 3) cs.1 (cs.2 (by decide)) R.2.1.length (by omega)
          rw [← hF] at fp
          refine ⟨c38.sk.k6, D 3, c38.sk.r1, l38.1, 0, 0, by omega, by omega, l38.add c.h01 (by have := CS_549 _ cs.1; omega) (fun j hj => c38.kT (c38.mem (by omega) hj)) km38 (fun z => absurd z full) fun h' e' c' l' f' he => ?_⟩
          rcases he with ⟨-, q1, q2⟩ | ⟨q, -⟩
          · subst q2
            exact fin h' e' _ _ _ l' f' (Or.inl q1) cs hF (by omega) (by omega)
          · exact absurd q full
      · have et : i + 1 = t := by
          rw [ta] at zs
          exact Ta_inj a1 (by omega) (by omega) t1 t2 (Option.some.inj zs)
        have eR' : (true, q, fr) = R := by rw [← eR, aIn, if_pos yb, if_pos et]
        rw [← eR'] at hF hp
        have lc := (c.ls 3 (by omega)).cle
        refine ⟨Or.inr rfl, hp h E C L' hj c a rq ?_⟩
        rw [hF]
        exact (fc_le (show q.length ≤ C 3 by omega)).symm
      · rw [nI_1] at ex1
        subst ex1
        have vq : i + 1 ∈ q ∧ i + 1 ≠ t := by
          by_cases y : i + 1 ∈ q ∧ i + 1 ≠ t
          · exact y
          · rw [if_neg y] at zr; exact absurd rfl zr
        refine ih (i + 1) h E C L' q fr kc ks c a hj (by omega) qo rq hk hu bl ?_ hF k1 k2
        rw [← eR, aIn, if_pos yb, if_neg vq.2, if_pos vq.1]
  unfold wp_G_reachBlockers
  exact ⟨zn z + 1, loop (zn z) 0 h E C L q0 fr0 0 0 c a (fun _ _ => rfl) (by omega) qo rq hk hu bl hR0.symm hF0 (by omega) (by omega)⟩
end VS
