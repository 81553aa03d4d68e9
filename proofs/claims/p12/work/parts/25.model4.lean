/-! PURE: the reference's insert -/
theorem nI_m1 (k : Nat) : nI (k + 1) + (-1) = nI k := by
  rw [← Int32.sub_eq_add_neg, nI_pred]
/-- insert: v comes at place p of the line of s, of n places -/
theorem M_insert {g : Gm} {h : Hp} {a s p n : Nat} {v : Int32} {A : Nat → Nat} {post : Hp → Prop} (m : Mst h a A) (hs : s < 50) (hn : n ≤ 30) (hpn : p ≤ n) (hc : hI h (A 16) s = nI n)
    (hp : ∀ h' : Hp, Sm h h' → (∀ b k : Nat, hI h' b k = if b = A 16 ∧ k = s then nI (n + 1) else if b = A 15 ∧ k = 31 * s + p then v else if b = A 15 ∧ 31 * s + p < k ∧ k ≤ 31 * s + n then hI h b (k - 1) else hI h b k) → post h') : wp_M_insert g post h a v (nI s) (nI p) := by
  have hd : A 16 ≠ A 15 := m.ne 16 15 21 50 21 1550 (by decide) (by decide) (by decide)
  have loop : ∀ (d j : Nat) (hj : Hp), p + d = j → j ≤ n → Sm h hj → (∀ b k : Nat, hI hj b k = if b = A 15 ∧ 31 * s + j < k ∧ k ≤ 31 * s + n then hI h b (k - 1) else hI h b k) → wp_M_insert_8 g post (d + 1) hj a v (nI s) (nI p) (nI j) := by
    intro d
    induction d with
    | zero =>
      intro j hj e1 e2 sm ei
      have mj := m.sm sm
      obtain ⟨r1, r2, r3⟩ := mj.row 16 21 50 (by decide)
      obtain ⟨u1, u2, u3⟩ := mj.row 15 21 1550 (by decide)
      have ej : j = p := by omega
      subst ej
      unfold wp_M_insert_8
      refine ⟨fun _ => ⟨mj.1, A 15, u1, fun x4 e4 x5 e5 => ?_⟩, fun c => absurd (nI_le (Nat.le_refl _) (by omega)) c⟩
      have e4 : x4 = nI (31 * s) := e4.trans (nI_mul 31 s)
      rw [e4, nI_add] at e5
      subst e5
      refine ⟨u2, by rw [u3]; exact vp_in_nI (by omega) (by omega), fun h7 e7 => ?_⟩
      rw [nI_clamp (by omega)] at e7
      have s7 : Sm hj h7 := by rw [e7]; exact Sm.sI _ _ _ _
      have m7 := mj.sm s7
      obtain ⟨q1, q2, q3⟩ := m7.row 16 21 50 (by decide)
      refine ⟨m7.1, A 16, q1, q2, by rw [q3]; exact vp_in_nI hs (by omega), fun x11 e11 => ⟨q2, by rw [q3]; exact vp_in_nI hs (by omega), fun h13 e13 => ?_⟩⟩
      rw [nI_clamp (by omega), e7, rI_sI, if_neg (fun q => hd q.1), ei, if_neg (fun q => hd q.1), hc, nI_1] at e11
      subst e11
      rw [nI_clamp (by omega)] at e13
      refine hp h13 ((sm.tr s7).tr (by rw [e13]; exact Sm.sI _ _ _ _)) fun b k => ?_
      rw [e13, rI_sI, e7, rI_sI, ei]
    | succ d ih =>
      intro j hj e1 e2 sm ei
      obtain ⟨j, rfl⟩ : ∃ i, j = i + 1 := ⟨j - 1, by omega⟩
      have mj := m.sm sm
      obtain ⟨u1, u2, u3⟩ := mj.row 15 21 1550 (by decide)
      unfold wp_M_insert_8
      refine ⟨fun c => ?_, fun _ => ⟨mj.1, A 15, u1, fun x16 e16 x17 e17 => ⟨mj.1, A 15, u1, fun x20 e20 x21 e21 x22 e22 => ?_⟩⟩⟩
      · have := (nI_leI (by omega) (by omega)).mp c
        omega
      · have e16 : x16 = nI (31 * s) := e16.trans (nI_mul 31 s)
        have e20 : x20 = nI (31 * s) := e20.trans (nI_mul 31 s)
        rw [e16, nI_add] at e17
        rw [e20, nI_add] at e21
        rw [e21, ← Nat.add_assoc, nI_pred] at e22
        subst e17 e22
        refine ⟨u2, by rw [u3]; exact vp_in_nI (by omega) (by omega), u2, by rw [u3]; exact vp_in_nI (by omega) (by omega), fun h25 e25 x26 e26 => ?_⟩
        rw [nI_clamp (by omega), nI_clamp (by omega)] at e25
        rw [nI_m1] at e26
        subst e26
        refine ih j h25 (by omega) (by omega) (sm.tr (by rw [e25]; exact Sm.sI _ _ _ _)) fun b k => ?_
        rw [e25, rI_sI]
        by_cases c : b = A 15 ∧ k = 31 * s + (j + 1)
        · rw [if_pos c, if_pos ⟨c.1, by omega, by omega⟩, ei, if_neg (fun q => by omega), c.1, c.2]; rfl
        · rw [if_neg c, ei]
          by_cases c2 : b = A 15 ∧ 31 * s + (j + 1) < k ∧ k ≤ 31 * s + n
          · rw [if_pos c2, if_pos ⟨c2.1, by omega, c2.2.2⟩]
          · rw [if_neg c2, if_neg (fun q => ?_)]
            by_cases c3 : k = 31 * s + (j + 1)
            · exact c ⟨q.1, c3⟩
            · exact c2 ⟨q.1, by omega, q.2.2⟩
  obtain ⟨r1, r2, r3⟩ := m.row 16 21 50 (by decide)
  unfold wp_M_insert
  refine ⟨m.1, A 16, r1, r2, by rw [r3]; exact vp_in_nI hs (by omega), n - p + 1, ?_⟩
  rw [nI_clamp (n := s) (by omega), hc]
  exact loop (n - p) n h (by omega) (Nat.le_refl n) (Sm.rf h) fun b k => by rw [if_neg (fun q => by omega)]
