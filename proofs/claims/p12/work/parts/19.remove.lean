/-! PURE: remove -/
theorem rem_len {xs : List Nat} {i : Nat} (hi : i < xs.length) : (xs.take i ++ xs.drop (i + 1)).length = xs.length - 1 := by
  rw [List.length_append, List.length_take, List.length_drop]; omega
theorem rem_at {xs : List Nat} {i j : Nat} (hi : i < xs.length) : (xs.take i ++ xs.drop (i + 1)).getD j 0 = if j < i then xs.getD j 0 else xs.getD (j + 1) 0 := by
  rw [List.getD_eq_getElem?_getD, List.getElem?_append, List.length_take, Nat.min_eq_left (by omega)]
  by_cases c : j < i
  · rw [if_pos c, if_pos c, List.getElem?_take, if_pos c, List.getD_eq_getElem?_getD]
  · rw [if_neg c, if_neg c, List.getElem?_drop, List.getD_eq_getElem?_getD, show i + 1 + (j - i) = j + 1 by omega]
theorem rem_end {g : Gm} {h hh : Hp} {a e cap n : Nat} {ys : List Nat} {post : Hp → Prop} (h1 : hK h a = 6) (z1 : e ≠ g.2.2 1) (z2 : hK h e = 24) (z3 : hN h e = cap) (z4 : 2 ≤ cap) (hc : cap ≤ 1000) (hn : n < cap) (hy : ys.length = n) (hf : Fr (fun b => b = a ∨ b = e) h hh) (hr : hR hh a 0 = some e) (hrow : ∀ j : Nat, j < n → hR hh e j = some (ys.getD j 0))
    (hp : ∀ h' : Hp, Ls g h' a e cap ys → Fr (fun b => b = a ∨ b = e) h h' → post h') : wp_A_fastRemove_34 g post hh a e (nI n) := by
  have ka : hK hh a = 6 := (hf a (by rw [h1]; decide)).1.trans h1
  have ke : hK hh e = 24 := (hf e (by rw [z2]; decide)).1.trans z2
  have kn : hN hh e = cap := (hf e (by rw [z2]; decide)).2.1.trans z3
  have hae : a ≠ e := fun q => by rw [q, z2] at h1; exact absurd h1 (by decide)
  unfold wp_A_fastRemove_34
  refine ⟨ka, fun h2 e2 => ⟨by rw [e2, kK_sI]; exact ke, by rw [e2, kN_sI, kn]; exact vp_in_nI hn (by omega), fun h4 e4 => ?_⟩⟩
  rw [nI_clamp (by omega)] at e4
  refine hp h4 ⟨?_, ?_, ?_, by omega, hc, Or.inr ⟨z1, ?_, ?_, z4, ?_⟩⟩ ?_
  · rw [e4, kK_sR, e2, kK_sI]; exact ka
  · rw [e4, kI_sR, e2, rI_sI, if_pos ⟨rfl, rfl⟩, hy]
  · rw [e4, rR_sR, if_neg (fun q => hae q.1), e2, kR_sI]; exact hr
  · rw [e4, kK_sR, e2, kK_sI]; exact ke
  · rw [e4, kN_sR, e2, kN_sI]; exact kn
  · intro i hi
    rw [e4, rR_sR, if_neg (fun q => by have := q.2; omega), e2, kR_sI]
    exact hrow i (by omega)
  · rw [e4, e2]
    exact (hf.trans (Fr.sI (Or.inl rfl))).trans (Fr.sR (Or.inr rfl))
theorem Ls.remove {g : Gm} {h : Hp} {a e cap i : Nat} {xs : List Nat} {post : Option Nat → Hp → Prop} (hl : Ls g h a e cap xs) (hi : i < xs.length) (htk : ∀ j : Nat, j < xs.length → hK h (xs.getD j 0) = 4)
    (hp : ∀ h' : Hp, Ls g h' a e cap (xs.take i ++ xs.drop (i + 1)) → Fr (fun b => b = a ∨ b = e) h h' → post (some (xs.getD i 0)) h') : wp_A_remove g post h a (nI i) := by
  obtain ⟨h1, h2, h3, h4, h5, h6⟩ := hl
  rcases h6 with ⟨-, z⟩ | ⟨z1, z2, z3, z4, z5⟩
  · omega
  · have hae : a ≠ e := fun q => by rw [q, z2] at h1; exact absurd h1 (by decide)
    have hlen := rem_len hi
    unfold wp_A_remove
    refine ⟨h1, ?_⟩
    rw [h2]
    refine chk_ok hi (by omega) ⟨h1, e, h3, z2, by rw [z3]; exact vp_in_nI (by omega) (by omega), xs.getD i 0, by rw [nI_clamp (by omega)]; exact z5 i hi, h1, ?_⟩
    unfold wp_A_fastRemove
    refine ⟨h1, fun x2 _ => ⟨h1, fun h4' e4 => ?_⟩⟩
    have k1 : hK h4' = hK h := by rw [e4]; rfl
    have k2 : hN h4' = hN h := by rw [e4]; rfl
    have k3 : hR h4' = hR h := by rw [e4]; rfl
    have k4 : hI h4' a 1 = nI xs.length := by rw [e4, rI_sI, if_neg (by omega)]; exact h2
    have f4 : Fr (fun b => b = a ∨ b = e) h h4' := by rw [e4]; exact Fr.sI (Or.inl rfl)
    refine ⟨by rw [k1]; exact h1, fun x6 ex6 => ?_⟩
    have ex6 : x6 = nI (xs.length - 1) := by
      rw [ex6, k4, show xs.length = xs.length - 1 + 1 by omega, nI_pred]; rfl
    subst ex6
    refine ⟨fun c => ?_, fun c => ?_⟩
    · have hc : xs.length - 1 ≤ i := (nI_leI (by omega) (by omega)).mp c
      refine rem_end h1 z1 z2 z3 z4 h5 (by omega) hlen f4 (by rw [k3]; exact h3) (fun j hj => ?_) hp
      rw [k3, rem_at hi, if_pos (by omega)]
      exact z5 j (by omega)
    · have hc : i < xs.length - 1 := by
        rcases Nat.lt_or_ge i (xs.length - 1) with q | q
        · exact q
        · exact absurd (nI_le q (by omega)) c
      intro x8 ex8 x9 ex9
      rw [nI_1] at ex8
      rw [pk_sub (by omega)] at ex9
      subst ex8 ex9
      refine ⟨by rw [k1]; exact z2, by rw [k1]; exact z2, nI_pos (by omega), nI_pos (by omega), nI_pos (by omega), ?_, ?_, ?_, fun h10 e10 => ?_⟩
      · rw [nI_clamp (by omega), nI_clamp (by omega), k2, z3]; omega
      · rw [nI_clamp (by omega), nI_clamp (by omega), k2, z3]; omega
      · intro j y hj hy
        rw [nI_clamp (by omega)] at hj
        rw [nI_clamp (by omega), k3, z5 _ (by omega)] at hy
        rw [k1, ← Option.some.inj hy]
        exact htk _ (by omega)
      · rw [nI_clamp (by omega), nI_clamp (by omega), nI_clamp (by omega)] at e10
        refine rem_end h1 z1 z2 z3 z4 h5 (by omega) hlen (f4.trans (by rw [e10]; exact Fr.sRr (Or.inr rfl))) ?_ (fun j hj => ?_) hp
        · rw [e10, rR_sRr, if_neg hae, k3]; exact h3
        · rw [e10, rR_sRr, if_pos rfl, k3, rem_at hi]
          by_cases q : j < i
          · rw [if_pos q, pk_cpy_out (Or.inl q)]
            exact z5 j (by omega)
          · rw [if_neg q, pk_cpy_in (by omega) (by omega), show i + 1 + (j - i) = j + 1 by omega]
            exact z5 (j + 1) (by omega)
