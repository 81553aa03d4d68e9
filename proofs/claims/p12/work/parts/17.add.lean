/-! PURE: add in all cases, a new list, clear -/
theorem Ls.mod {g : Gm} {h : Hp} {a e cap : Nat} {xs : List Nat} {x : Int32} (hl : Ls g h a e cap xs) : Ls g (sI h a 2 x) a e cap xs := by
  obtain ⟨h1, h2, h3, h4, h5, h6⟩ := hl
  exact ⟨h1, by rw [rI_sI, if_neg (by omega)]; exact h2, h3, h4, h5, h6⟩
theorem capN_gt (cap : Nat) (h : cap = 0 ∨ 2 ≤ cap) : cap < capN cap ∧ 2 ≤ capN cap := by
  unfold capN
  by_cases e : cap = 0
  · rw [if_pos e]; omega
  · rw [if_neg e]; omega
theorem capN_le {cap : Nat} (h : cap ≤ 600) : capN cap ≤ 1000 := by
  unfold capN
  by_cases e : cap = 0
  · rw [if_pos e]; omega
  · rw [if_neg e]; omega
theorem Ls.add {g : Gm} {h : Hp} {a e cap y mc ms : Nat} {xs : List Nat} {post : Int32 → Hp → Prop} (h01 : g.2.2 1 < g.2.2 0) (hl : Ls g h a e cap xs) (hcap : cap ≤ 600) (htk : ∀ i : Nat, i < xs.length → hK h (xs.getD i 0) = 4) (hy : hK h y = 4) (hm : xs.length = cap → 1 ≤ mc ∧ capN cap ≤ ms)
    (hp : ∀ (h' : Hp) (e' cap' : Nat), Ls g h' a e' cap' (xs ++ [y]) → Fr (fun b => b = a ∨ b = e) h h' → ((xs.length < cap ∧ e' = e ∧ cap' = cap) ∨ (xs.length = cap ∧ cap' = capN cap ∧ hK h e' = 0 ∧ g.2.2 0 ≤ e')) → post 1 h') : wp_A_add2 g post mc ms h a y := by
  by_cases hfull : xs.length = cap
  · have hl0 := hl
    obtain ⟨h1, h2, h3, h4, h5, h6⟩ := hl
    obtain ⟨hm1, hm2⟩ := hm hfull
    have hay : a ≠ y := fun z => by rw [z, hy] at h1; exact absurd h1 (by decide)
    unfold wp_A_add2
    refine ⟨h1, fun x2 _ => ⟨h1, fun ha4 e4 => ?_⟩⟩
    have hl4 : Ls g ha4 a e cap xs := by rw [e4]; exact hl0.mod
    have hk4 : hK ha4 = hK h := by rw [e4]; rfl
    have hf4 : Fr (fun b => b = a ∨ b = e) h ha4 := by rw [e4]; exact Fr.sI (Or.inl rfl)
    refine ⟨hl4.1, e, hl4.2.2.1, hl4.1, hl4.1, mc, ms, by omega, by omega, ?_⟩
    rw [hl4.2.1, hfull]
    unfold wp_A_add
    have hlen : gLen g ha4 e (nI cap) := by
      rcases hl4.2.2.2.2.2 with ⟨q1, q2⟩ | ⟨q1, q2, q3, q4, q5⟩
      · exact Or.inr ⟨q1, by rw [q2]; rfl⟩
      · exact Or.inl ⟨by rw [q2]; decide, by rw [q2]; decide, by rw [q3]⟩
    have hcz : cap = 0 ∨ 2 ≤ cap := by
      rcases h6 with ⟨-, q⟩ | ⟨-, -, -, q, -⟩
      · exact Or.inl q
      · exact Or.inr q
    obtain ⟨hg1, hg2⟩ := capN_gt cap hcz
    have hg3 := capN_le hcap
    refine ⟨nI cap, hlen, fun q => absurd rfl q, fun _ => ⟨hl4.1, mc, ms, by omega, by omega, ?_⟩⟩
    refine hl4.grow hfull hcap (fun i hi => by rw [hk4]; exact htk i hi) hm1 hm2 fun q h5' hq hqA hF k1 k2 k3 k4 k5 k6 => ?_
    have haq : a ≠ q := fun z => by rw [z] at k1; rw [k1] at k4; exact absurd k4 (by decide)
    have hy5 : hK h5' y = 4 := by rw [(hF y (by rw [hk4, hy]; decide)).1, hk4]; exact hy
    unfold wp_A_add_11
    refine ⟨q, rfl, k4, by rw [k5]; exact vp_in_nI hg1 (by omega), hy5, fun h3' e3 x4 ex4 => ⟨by rw [e3, kK_sR]; exact k1, fun h6' e6 => ⟨Or.inr rfl, ?_⟩⟩⟩
    rw [nI_clamp (by omega)] at e3
    refine hp h6' q (capN cap) ⟨?_, ?_, ?_, ?_, hg3, Or.inr ⟨?_, ?_, ?_, hg2, ?_⟩⟩ ?_ (Or.inr ⟨hfull, rfl, by rw [← hk4]; exact hq, hqA⟩)
    · rw [e6, kK_sI, e3, kK_sR]; exact k1
    · rw [e6, rI_sI, if_pos ⟨rfl, rfl⟩, ex4, nI_1, List.length_append, hfull]; rfl
    · rw [e6, kR_sI, e3, rR_sR, if_neg (fun z => haq z.1)]; exact k3
    · rw [List.length_append, hfull]; exact hg1
    · exact fun z => by rw [z] at hqA; omega
    · rw [e6, kK_sI, e3, kK_sR]; exact k4
    · rw [e6, kN_sI, e3, kN_sR]; exact k5
    · intro i hi
      rw [List.length_append] at hi
      have hi : i < xs.length + 1 := hi
      rw [e6, kR_sI, e3, rR_sR]
      by_cases z : i = cap
      · rw [if_pos ⟨rfl, z⟩, z, ← hfull]
        simp [List.getD_eq_getElem?_getD]
      · rw [if_neg (fun y => z y.2), k6 i (by omega)]
        simp [List.getD_eq_getElem?_getD, List.getElem?_append_left (show i < xs.length by omega)]
    · have f1 : Fr (fun b => b = a ∨ b = e) h h5' := hf4.trans (hF.mono fun b z => Or.inl z)
      intro b hb
      obtain ⟨f2, f3, f4⟩ := f1 b hb
      have hbq : b ≠ q := fun z => hb (by rw [z, ← hk4]; exact hq)
      refine ⟨by rw [e6, kK_sI, e3, kK_sR]; exact f2, by rw [e6, kN_sI, e3, kN_sR]; exact f3, fun hs => ⟨?_, ?_, ?_⟩⟩
      · rw [← (f4 hs).1]
        funext j
        rw [e6, rI_sI, if_neg (fun z => hs (Or.inl z.1)), e3, kI_sR]
      · rw [← (f4 hs).2.1, e6, kJ_sI, e3, kJ_sR]
      · rw [← (f4 hs).2.2]
        funext j
        rw [e6, kR_sI, e3, rR_sR, if_neg (fun z => hbq z.1)]
  · have hlt : xs.length < cap := by have := hl.2.2.2.1; omega
    exact hl.addRoom hlt hy fun h' k1 k2 => hp h' e cap k1 k2 (Or.inl ⟨hlt, rfl, rfl⟩)
