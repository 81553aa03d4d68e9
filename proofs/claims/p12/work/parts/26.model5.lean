/-! PURE: the reference's placeOf -/
theorem nI_nm1 {s : Nat} (hs : s < 2 ^ 31) : ¬ nI s = -1 := fun c => absurd (by rw [c]; decide) (nI_pos hs)
theorem M_placeOf0 {g : Gm} {h : Hp} {a t : Nat} {A : Nat → Nat} {post : Int32 → Prop} (m : Mst h a A) (ht : t ≤ 30) (hw : hI h (A 7) t = -1) (hp : post (-1)) : wp_M_placeOf g post h a (nI t) := by
  obtain ⟨u1, u2, u3⟩ := m.row 7 21 31 (by decide)
  unfold wp_M_placeOf
  refine ⟨m.1, A 7, u1, u2, by rw [u3]; exact vp_in_nI (by omega) (by omega), 1, ?_⟩
  rw [nI_clamp (n := t) (by omega), hw]
  unfold wp_M_placeOf_12 wp_M_placeOf_57
  exact ⟨fun _ => hp, fun c => absurd rfl c⟩
theorem M_placeOf {g : Gm} {h : Hp} {a t s p n : Nat} {A : Nat → Nat} {post : Int32 → Prop} (m : Mst h a A) (ht : t ≤ 30) (hs : s < 50) (hw : hI h (A 7) t = nI s) (hn : n ≤ 31) (hc : hI h (A 16) s = nI n) (hpn : p < n) (hat : ∀ j : Nat, j < n → (hI h (A 15) (31 * s + j) = nI t ↔ j = p)) (hp : post (nI p)) : wp_M_placeOf g post h a (nI t) := by
  obtain ⟨u1, u2, u3⟩ := m.row 7 21 31 (by decide)
  obtain ⟨r1, r2, r3⟩ := m.row 16 21 50 (by decide)
  obtain ⟨l1, l2, l3⟩ := m.row 15 21 1550 (by decide)
  have loop : ∀ d j : Nat, j + d = n → wp_M_placeOf_12 g post (d + 1) h a (nI t) (nI s) (if p < j then nI p else -1) (nI j) := by
    intro d
    induction d with
    | zero =>
      intro j hj
      have hj : j = n := by omega
      subst hj
      unfold wp_M_placeOf_12 wp_M_placeOf_57
      rw [if_pos hpn]
      refine ⟨fun _ => hp, fun _ => ⟨m.1, A 16, r1, r2, by rw [r3]; exact vp_in_nI hs (by omega), fun _ => hp, fun c => ?_⟩⟩
      rw [nI_clamp (by omega), hc] at c
      exact absurd (nI_le (Nat.le_refl _) (by omega)) c
    | succ d ih =>
      intro j hj
      have nx := ih (j + 1) (by omega)
      unfold wp_M_placeOf_12
      refine ⟨fun c => absurd c (nI_nm1 (by omega)), fun _ => ⟨m.1, A 16, r1, r2, by rw [r3]; exact vp_in_nI hs (by omega), fun c => ?_, fun _ => ⟨m.1, A 15, l1, fun x8 e8 x9 e9 => ?_⟩⟩⟩
      · rw [nI_clamp (by omega), hc] at c
        have := (nI_leI (by omega) (by omega)).mp c
        omega
      · have e8 : x8 = nI (31 * s) := e8.trans (nI_mul 31 s)
        rw [e8, nI_add] at e9
        subst e9
        refine ⟨l2, by rw [l3]; exact vp_in_nI (by omega) (by omega), ?_⟩
        rw [nI_clamp (by omega)]
        refine ⟨fun c => ?_, fun c => ?_⟩ <;> unfold wp_M_placeOf_50 <;> intro x1 e1 <;> rw [nI_1] at e1 <;> subst e1
        · have d1 : j ≠ p := fun q => c ((hat j (by omega)).mpr q)
          by_cases d2 : p < j
          · rw [if_pos d2]
            rw [if_pos (by omega)] at nx
            exact nx
          · rw [if_neg d2]
            rw [if_neg (by omega)] at nx
            exact nx
        · have d1 : j = p := (hat j (by omega)).mp c
          rw [if_pos (by omega), ← d1] at nx
          exact nx
  unfold wp_M_placeOf
  refine ⟨m.1, A 7, u1, u2, by rw [u3]; exact vp_in_nI (by omega) (by omega), n + 1, ?_⟩
  rw [nI_clamp (n := t) (by omega), hw]
  have l0 := loop n 0 (by omega)
  rw [if_neg (by omega)] at l0
  exact l0
