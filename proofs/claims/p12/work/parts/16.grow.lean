/-! PURE: a list's array grows -/
def capN (cap : Nat) : Nat := if cap = 0 then 10 else cap + cap / 2
theorem Ls.grow {g : Gm} {h : Hp} {a e cap mc ms : Nat} {xs : List Nat} {post : Option Nat → Hp → Prop} (hl : Ls g h a e cap xs) (hc : xs.length = cap) (hcap : cap ≤ 600) (htk : ∀ i : Nat, i < xs.length → hK h (xs.getD i 0) = 4) (hm : 1 ≤ mc) (hms : capN cap ≤ ms)
    (hp : ∀ (q : Nat) (h' : Hp), hK h q = 0 → g.2.2 0 ≤ q → Fr (fun b => b = a) h h' → hK h' a = 6 → hI h' a = hI h a → hR h' a 0 = some q → hK h' q = 24 → hN h' q = capN cap → (∀ i : Nat, i < xs.length → hR h' q i = some (xs.getD i 0)) → post (some q) h') : wp_A_grow2 g post mc ms h a := by
  obtain ⟨h1, h2, h3, h4, h5, h6⟩ := hl
  unfold wp_A_grow2
  refine ⟨h1, fun x2 ex2 => ⟨h1, mc, ms, by omega, by omega, ?_⟩⟩
  rw [h2, nI_1, hc] at ex2
  subst ex2
  unfold wp_A_grow
  rcases h6 with ⟨z1, z2⟩ | ⟨z1, z2, z3, z4, z5⟩
  · subst z2
    refine ⟨h1, e, h3, 0, Or.inr ⟨z1, rfl⟩, fun q => absurd q (by decide), fun _ => ⟨h1, e, h3, fun _ => ?_, fun q => absurd (by rw [z1]) q⟩⟩
    intro x9 ex9
    have ex9 : x9 = nI 10 := ex9.trans (by decide)
    have hc10 : capN 0 = 10 := rfl
    rw [hc10] at hms hp
    refine ⟨10, ex9, by decide, by omega, by omega, fun q hq hqA h11 e11 => ⟨?_, fun h14 e14 => ?_⟩⟩
    · rw [e11, mK_mk, if_neg (fun z => by rw [z, hq] at h1; exact absurd h1 (by decide))]; exact h1
    · have haq : a ≠ q := fun z => by rw [z, hq] at h1; exact absurd h1 (by decide)
      refine hp q h14 hq hqA ?_ ?_ ?_ ?_ ?_ ?_ ?_
      · rw [e14, e11]; exact (Fr.mk hq).trans (Fr.sR rfl)
      · rw [e14, kK_sR, e11, mK_mk, if_neg haq]; exact h1
      · rw [e14, kI_sR, e11]; funext j; rw [mI_mk, if_neg haq]
      · rw [e14, rR_sR, if_pos ⟨rfl, rfl⟩]
      · rw [e14, kK_sR, e11, mK_mk, if_pos rfl]
      · rw [e14, kN_sR, e11, mN_mk, if_pos rfl]
      · intro i hi; omega
  · have hcn : capN cap = cap + cap / 2 := if_neg (by omega)
    rw [hcn] at hms hp
    refine ⟨h1, e, h3, nI cap, Or.inl ⟨by rw [z2]; decide, by rw [z2]; decide, by rw [z3]⟩, fun _ => ?_, fun q => absurd (show nI 0 < nI cap from nI_lt (by omega) (by omega)) q⟩
    unfold wp_A_grow_20
    intro x1 ex1 x2 ex2
    have ex1 : x1 = nI 1 := by rw [ex1, pk_sub (by omega)]; congr 1; omega
    have ex2 : x2 = nI (cap / 2) := by
      have k := pk_shrN (n := cap) (by omega) ((1 : Int32) &&& 31) 1 (by decide)
      rw [Nat.pow_one] at k
      exact ex2.trans k
    subst ex1 ex2
    unfold wp_U_newLength
    intro y1 ey1 y2 ey2
    have ey1 : y1 = nI (cap / 2) := by
      rw [ey1]
      by_cases c : 1 < cap / 2
      · exact if_pos (nI_lt c (by omega))
      · rw [if_neg (nI_nlt (by omega) (by decide))]
        congr 1; omega
    rw [ey1, nI_add] at ey2
    subst ey2
    refine ⟨fun q => absurd q (nI_nle (by omega) (by omega)), fun _ => ⟨fun q => absurd q (show ¬ nI 2147483639 < nI (cap + cap / 2) from nI_nlt (by omega) (by decide)), fun _ => ⟨h1, e, h3, mc, ms, by omega, by omega, ?_⟩⟩⟩
    unfold wp_Y_copyOf2
    refine ⟨z2, mc, ms, by omega, by omega, ?_⟩
    unfold wp_Y_copyOf
    refine ⟨fun q => q rfl, fun _ => ⟨cap + cap / 2, rfl, by omega, by omega, by omega, fun q hq hqA h3' e3 => ?_⟩⟩
    have haq : a ≠ q := fun z => by rw [z, hq] at h1; exact absurd h1 (by decide)
    have heq : e ≠ q := fun z => by rw [z, hq] at z2; exact absurd z2 (by decide)
    have ke : hK h3' e = 24 := by rw [e3, mK_mk, if_neg heq]; exact z2
    have ne : hN h3' e = cap := by rw [e3, mN_mk, if_neg heq]; exact z3
    have kq : hK h3' q = 24 := by rw [e3, mK_mk, if_pos rfl]
    have nq : hN h3' q = cap + cap / 2 := by rw [e3, mN_mk, if_pos rfl]
    refine ⟨nI cap, Or.inl ⟨by rw [ke]; decide, by rw [ke]; decide, by rw [ne]⟩, fun x7 ex7 => ?_⟩
    have ex7 : x7 = nI cap := ex7.trans (if_neg (nI_nlt (by omega) (by omega)))
    subst ex7
    refine ⟨ke, kq, by decide, by decide, nI_pos (by omega), by rw [sb_cl0, nI_clamp (by omega), ne]; omega, by rw [sb_cl0, nI_clamp (by omega), nq]; omega, ?_, fun h8 e8 => ?_⟩
    · intro i y hi hy
      rw [nI_clamp (by omega)] at hi
      rw [sb_cl0, Nat.zero_add, e3, mR_mk, if_neg heq, z5 i (by omega)] at hy
      have hy : xs.getD i 0 = y := Option.some.inj hy
      have h4' : hK h y = 4 := by rw [← hy]; exact htk i (by omega)
      rw [e3, mK_mk, if_neg (fun z => by rw [z, hq] at h4'; exact absurd h4' (by decide))]
      exact h4'
    · refine ⟨q, rfl, by rw [e8, kK_sRr, e3, mK_mk, if_neg haq]; exact h1, fun h15 e15 => ?_⟩
      refine hp q h15 hq hqA ?_ ?_ ?_ ?_ ?_ ?_ ?_
      · rw [e15, e8, e3]
        intro b hb
        have hbq : b ≠ q := fun z => hb (z ▸ hq)
        refine ⟨by rw [kK_sR, kK_sRr, mK_mk, if_neg hbq], by rw [kN_sR, kN_sRr, mN_mk, if_neg hbq], fun hs => ⟨?_, ?_, ?_⟩⟩ <;> funext j
        · rw [kI_sR, kI_sRr, mI_mk, if_neg hbq]
        · rw [kJ_sR, kJ_sRr, mJ_mk, if_neg hbq]
        · rw [rR_sR, if_neg (fun z => hs z.1), rR_sRr, if_neg hbq, mR_mk, if_neg hbq]
      · rw [e15, kK_sR, e8, kK_sRr, e3, mK_mk, if_neg haq]; exact h1
      · rw [e15, kI_sR, e8, kI_sRr, e3]; funext j; rw [mI_mk, if_neg haq]
      · rw [e15, rR_sR, if_pos ⟨rfl, rfl⟩]
      · rw [e15, kK_sR, e8, kK_sRr]; exact kq
      · rw [e15, kN_sR, e8, kN_sRr]; exact nq
      · intro i hi
        rw [e15, rR_sR, if_neg (fun z => haq z.1.symm), e8, rR_sRr, if_pos rfl, sb_cl0, nI_clamp (by omega), pk_cpy_in (by omega) (by omega), e3, mR_mk, if_neg heq]
        rw [show 0 + (i - 0) = i by omega]
        exact z5 i hi
