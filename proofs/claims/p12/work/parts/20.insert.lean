/-! PURE: add at a place -/
theorem Fr.cut {S S' : Nat → Prop} {h h1 h2 : Hp} (a : Fr S h h1) (b : Fr S' h1 h2) (hs : ∀ q : Nat, hK h q ≠ 0 → S' q → S q) : Fr S h h2 := fun q hq => by
  obtain ⟨a1, a2, a3⟩ := a q hq
  obtain ⟨b1, b2, b3⟩ := b q (by rw [a1]; exact hq)
  exact ⟨b1.trans a1, b2.trans a2, fun z => by
    obtain ⟨c1, c2, c3⟩ := a3 z
    obtain ⟨d1, d2, d3⟩ := b3 (fun y => z (hs q hq y))
    exact ⟨d1.trans c1, d2.trans c2, d3.trans c3⟩⟩
theorem ins_len {xs : List Nat} {i y : Nat} (hi : i ≤ xs.length) : (xs.take i ++ y :: xs.drop i).length = xs.length + 1 := by
  rw [List.length_append, List.length_take, List.length_cons, List.length_drop]; omega
theorem ins_at {xs : List Nat} {i j y : Nat} (hi : i ≤ xs.length) : (xs.take i ++ y :: xs.drop i).getD j 0 = if j < i then xs.getD j 0 else if j = i then y else xs.getD (j - 1) 0 := by
  rw [List.getD_eq_getElem?_getD, List.getElem?_append, List.length_take, Nat.min_eq_left hi]
  by_cases c : j < i
  · rw [if_pos c, if_pos c, List.getElem?_take, if_pos c, List.getD_eq_getElem?_getD]
  · rw [if_neg c, if_neg c]
    by_cases d : j = i
    · rw [if_pos d, d, Nat.sub_self]; rfl
    · rw [if_neg d, show j - i = (j - 1 - i) + 1 by omega, List.getElem?_cons_succ, List.getElem?_drop, List.getD_eq_getElem?_getD, show i + (j - 1 - i) = j - 1 by omega]
theorem ins_end {g : Gm} {h : Hp} {a q cap i y mc ms kc ks : Nat} {xs : List Nat} {post : Hp → Prop} (h1 : hK h a = 6) (hr : hR h a 0 = some q) (z1 : q ≠ g.2.2 1) (z2 : hK h q = 24) (z3 : hN h q = cap) (z4 : 2 ≤ cap) (hc : cap ≤ 1000) (hn : xs.length < cap) (hi : i ≤ xs.length) (hrow : ∀ j : Nat, j < xs.length → hR h q j = some (xs.getD j 0)) (htk : ∀ j : Nat, j < xs.length → hK h (xs.getD j 0) = 4) (hy : hK h y = 4)
    (hp : ∀ h' : Hp, Ls g h' a q cap (xs.take i ++ y :: xs.drop i) → Fr (fun b => b = a ∨ b = q) h h' → post h') : wp_A_add3_38 g post mc ms h kc ks a (nI i) y (nI xs.length) (some q) := by
  have haq : a ≠ q := fun z => by rw [z, z2] at h1; exact absurd h1 (by decide)
  have hlen := ins_len (y := y) hi
  unfold wp_A_add3_38
  intro x1 ex1 x2 ex2
  rw [nI_1] at ex1
  rw [pk_sub hi] at ex2
  subst ex1 ex2
  refine ⟨q, rfl, z2, z2, nI_pos (by omega), nI_pos (by omega), nI_pos (by omega), ?_, ?_, ?_, fun h4 e4 => ?_⟩
  · rw [nI_clamp (by omega), nI_clamp (by omega), z3]; omega
  · rw [nI_clamp (by omega), nI_clamp (by omega), z3]; omega
  · intro j w hj hw
    rw [nI_clamp (by omega)] at hj
    rw [nI_clamp (by omega), hrow _ (by omega)] at hw
    rw [← Option.some.inj hw]
    exact htk _ (by omega)
  · rw [nI_clamp (by omega), nI_clamp (by omega), nI_clamp (by omega)] at e4
    refine ⟨by rw [e4, kK_sRr]; exact z2, by rw [e4, kN_sRr, z3]; exact vp_in_nI (by omega) (by omega), by rw [e4, kK_sRr]; exact hy, fun h6 e6 x7 ex7 => ⟨by rw [e6, kK_sR, e4, kK_sRr]; exact h1, fun h9 e9 => ?_⟩⟩
    rw [nI_clamp (by omega)] at e6
    rw [nI_1] at ex7
    subst ex7
    refine hp h9 ⟨?_, ?_, ?_, by omega, hc, Or.inr ⟨z1, ?_, ?_, z4, ?_⟩⟩ ?_
    · rw [e9, kK_sI, e6, kK_sR, e4, kK_sRr]; exact h1
    · rw [e9, rI_sI, if_pos ⟨rfl, rfl⟩, hlen]
    · rw [e9, kR_sI, e6, rR_sR, if_neg (fun z => haq z.1), e4, rR_sRr, if_neg haq]; exact hr
    · rw [e9, kK_sI, e6, kK_sR, e4, kK_sRr]; exact z2
    · rw [e9, kN_sI, e6, kN_sR, e4, kN_sRr]; exact z3
    · intro j hj
      rw [hlen] at hj
      rw [e9, kR_sI, e6, rR_sR, ins_at hi]
      by_cases c : j < i
      · rw [if_neg (fun z => by have := z.2; omega), if_pos c, e4, rR_sRr, if_pos rfl, pk_cpy_out (Or.inl (by omega))]
        exact hrow j (by omega)
      · rw [if_neg c]
        by_cases d : j = i
        · rw [if_pos ⟨rfl, d⟩, if_pos d]
        · rw [if_neg (fun z => d z.2), if_neg d, e4, rR_sRr, if_pos rfl, pk_cpy_in (by omega) (by omega), show i + (j - (i + 1)) = j - 1 by omega]
          exact hrow (j - 1) (by omega)
    · rw [e9, e6, e4]
      exact ((Fr.sRr (Or.inr rfl)).trans (Fr.sR (Or.inr rfl))).trans (Fr.sI (Or.inl rfl))
theorem Ls.insert {g : Gm} {h : Hp} {a e cap i y mc ms : Nat} {xs : List Nat} {post : Hp → Prop} (h01 : g.2.2 1 < g.2.2 0) (hl : Ls g h a e cap xs) (hi : i ≤ xs.length) (hcap : cap ≤ 600) (htk : ∀ i : Nat, i < xs.length → hK h (xs.getD i 0) = 4) (hy : hK h y = 4) (hm : xs.length = cap → 1 ≤ mc ∧ capN cap ≤ ms)
    (hp : ∀ (h' : Hp) (e' cap' : Nat), Ls g h' a e' cap' (xs.take i ++ y :: xs.drop i) → Fr (fun b => b = a ∨ b = e) h h' → ((xs.length < cap ∧ e' = e ∧ cap' = cap) ∨ (xs.length = cap ∧ cap' = capN cap ∧ hK h e' = 0 ∧ g.2.2 0 ≤ e')) → post h') : wp_A_add3 g post mc ms h a (nI i) y := by
  have hl0 := hl
  obtain ⟨h1, h2, h3, h4, h5, h6⟩ := hl
  unfold wp_A_add3
  refine ⟨h1, ?_⟩
  unfold wp_A_rangeCheckForAdd
  refine ⟨h1, fun z => absurd z (by rw [h2]; exact nI_nlt hi (by omega)), fun _ => ⟨fun _ => ?_, fun z => absurd (nI_pos' (by omega)) z⟩⟩
  refine ⟨h1, fun x4 _ => ⟨h1, fun ha4 e4 => ?_⟩⟩
  have hl4 : Ls g ha4 a e cap xs := by rw [e4]; exact hl0.mod
  have hk4 : hK ha4 = hK h := by rw [e4]; rfl
  have hf4 : Fr (fun b => b = a ∨ b = e) h ha4 := by rw [e4]; exact Fr.sI (Or.inl rfl)
  have hlen : gLen g ha4 e (nI cap) := by
    rcases hl4.2.2.2.2.2 with ⟨q1, q2⟩ | ⟨q1, q2, q3, q4, q5⟩
    · exact Or.inr ⟨q1, by rw [q2]; rfl⟩
    · exact Or.inl ⟨by rw [q2]; decide, by rw [q2]; decide, by rw [q3]⟩
  refine ⟨hl4.1, hl4.1, e, hl4.2.2.1, nI cap, hlen, fun c => ?_, fun c => ?_⟩
  · rw [hl4.2.1] at c ⊢
    have hlt : xs.length < cap := by
      rcases Nat.lt_or_ge xs.length cap with z | z
      · exact z
      · exact absurd (by rw [show xs.length = cap by omega]) c
    rcases hl4.2.2.2.2.2 with ⟨-, q2⟩ | ⟨q1, q2, q3, q4, q5⟩
    · omega
    · exact ins_end hl4.1 hl4.2.2.1 q1 q2 q3 q4 h5 hlt hi q5 (fun j hj => by rw [hk4]; exact htk j hj) (by rw [hk4]; exact hy) fun h' k1 k2 => hp h' e cap k1 (hf4.trans k2) (Or.inl ⟨hlt, rfl, rfl⟩)
  · rw [hl4.2.1] at c ⊢
    have hfull : xs.length = cap := (nI_eq (by omega) (by omega)).mp c
    obtain ⟨hm1, hm2⟩ := hm hfull
    have hcz : cap = 0 ∨ 2 ≤ cap := by
      rcases h6 with ⟨-, q⟩ | ⟨-, -, -, q, -⟩
      · exact Or.inl q
      · exact Or.inr q
    obtain ⟨hg1, hg2⟩ := capN_gt cap hcz
    have hg3 := capN_le hcap
    refine ⟨hl4.1, mc, ms, by omega, by omega, ?_⟩
    refine hl4.grow hfull hcap (fun i hi => by rw [hk4]; exact htk i hi) hm1 hm2 fun q h5' hq hqA hF k1 k2 k3 k4 k5 k6 => ?_
    have hq0 : hK h q = 0 := by rw [← hk4]; exact hq
    have old : ∀ b : Nat, hK h b = 4 → hK h5' b = 4 := fun b hb => by
      rw [(hF b (by rw [hk4, hb]; decide)).1, hk4]; exact hb
    have f1 : Fr (fun b => b = a ∨ b = e) h h5' := hf4.trans (hF.mono fun b z => Or.inl z)
    refine ins_end k1 k3 (fun z => by rw [z] at hqA; omega) k4 k5 hg2 hg3 (by omega) hi k6 (fun j hj => old _ (htk j hj)) (old y hy) fun h' n1 n2 => hp h' q (capN cap) n1 (f1.cut n2 ?_) (Or.inr ⟨hfull, rfl, hq0, hqA⟩)
    intro b hb z
    rcases z with z | z
    · exact Or.inl z
    · exact absurd (by rw [z]; exact hq0) hb
