/-! PURE: the reference's forget -/
def mRd (h : Hp) (A : Nat → Nat) (j : Nat) : Int32 × Int32 × Int64 := (hI h (A 17) j, hI h (A 18) j, hJ h (A 19) j)
/-- of the first r rows, those that aren't of v -/
def mKeep (h : Hp) (A : Nat → Nat) (v : Int32) : Nat → List (Int32 × Int32 × Int64)
  | 0 => []
  | r + 1 => if hI h (A 17) r = v then mKeep h A v r else mKeep h A v r ++ [mRd h A r]
theorem mKeep_le (h : Hp) (A : Nat → Nat) (v : Int32) (r : Nat) : (mKeep h A v r).length ≤ r := by
  induction r with
  | zero => exact Nat.le_refl 0
  | succ r ih =>
    unfold mKeep
    by_cases c : hI h (A 17) r = v
    · rw [if_pos c]; omega
    · rw [if_neg c, List.length_append]
      show (mKeep h A v r).length + 1 ≤ r + 1
      omega
/-- nothing but the rows of the log differs -/
def Kp (A : Nat → Nat) (h h' : Hp) : Prop := hK h' = hK h ∧ hN h' = hN h ∧ hR h' = hR h ∧ (∀ b : Nat, b ≠ A 17 → b ≠ A 18 → hI h' b = hI h b) ∧ (∀ b : Nat, b ≠ A 19 → hJ h' b = hJ h b)
theorem Mst.kp {h h' : Hp} {a : Nat} {A : Nat → Nat} (m : Mst h a A) (x : Kp A h h') : Mst h' a A := by
  obtain ⟨x1, x2, x3, -⟩ := x
  unfold Mst
  rw [x1, x2, x3]
  exact m
theorem M_forget {g : Gm} {h : Hp} {a n : Nat} {v : Int32} {A : Nat → Nat} {post : Hp → Prop} (m : Mst h a A) (hn : n ≤ 2000) (hc : hI h a 20 = nI n)
    (hp : ∀ h1 : Hp, Kp A h h1 → (∀ j : Nat, j < (mKeep h A v n).length → mRd h1 A j = (mKeep h A v n).getD j (0, 0, 0)) → post (sI h1 a 20 (nI (mKeep h A v n).length))) : wp_M_forget g post h a v := by
  have d78 : A 17 ≠ A 18 := m.ne 17 18 21 2000 21 2000 (by decide) (by decide) (by decide)
  have k17 := (m.row 17 21 2000 (by decide)).2.1
  have k18 := (m.row 18 21 2000 (by decide)).2.1
  have a17 : a ≠ A 17 := fun q => by rw [← q, m.1] at k17; exact absurd k17 (by decide)
  have a18 : a ≠ A 18 := fun q => by rw [← q, m.1] at k18; exact absurd k18 (by decide)
  have loop : ∀ (d r : Nat) (hj : Hp), r + d = n → Kp A h hj → (∀ j : Nat, j < (mKeep h A v r).length → mRd hj A j = (mKeep h A v r).getD j (0, 0, 0)) → (∀ j : Nat, r ≤ j → mRd hj A j = mRd h A j) → wp_M_forget_4 g post (d + 1) hj a v (nI (mKeep h A v r).length) (nI r) := by
    intro d
    induction d with
    | zero =>
      intro r hj e1 kp i1 i2
      have e1 : r = n := by omega
      subst e1
      have mj := m.kp kp
      unfold wp_M_forget_4
      rw [kp.2.2.2.1 a a17 a18, hc]
      refine ⟨mj.1, fun _ => ⟨mj.1, fun h4 e4 => ?_⟩, fun c => absurd (nI_le (Nat.le_refl _) (by omega)) c⟩
      rw [e4]
      exact hp hj kp i1
    | succ d ih =>
      intro r hj e1 kp i1 i2
      have mj := m.kp kp
      have hle := mKeep_le h A v r
      obtain ⟨u1, u2, u3⟩ := mj.row 17 21 2000 (by decide)
      obtain ⟨w1, w2, w3⟩ := mj.row 18 21 2000 (by decide)
      obtain ⟨y1, y2, y3⟩ := mj.row 19 22 2000 (by decide)
      have o := i2 r (Nat.le_refl r)
      have o1 : hI hj (A 17) r = hI h (A 17) r := congrArg Prod.fst o
      unfold wp_M_forget_4
      rw [kp.2.2.2.1 a a17 a18, hc]
      refine ⟨mj.1, fun c => ?_, fun _ => ⟨mj.1, A 17, u1, u2, by rw [u3]; exact vp_in_nI (by omega) (by omega), ?_⟩⟩
      · have := (nI_leI (by omega) (by omega)).mp c
        omega
      rw [nI_clamp (n := r) (by omega), o1]
      refine ⟨fun c => ⟨mj.1, A 17, u1, mj.1, A 17, u1, u2, by rw [u3]; exact vp_in_nI (by omega) (by omega), u2, by rw [u3]; exact vp_in_nI (by omega) (by omega), fun h15 e15 => ⟨by rw [e15]; exact mj.1, A 18, by rw [e15]; exact w1, by rw [e15]; exact mj.1, A 18, by rw [e15]; exact w1, by rw [e15]; exact w2, by rw [e15, kN_sI, w3]; exact vp_in_nI (by omega) (by omega), by rw [e15]; exact w2, by rw [e15, kN_sI, w3]; exact vp_in_nI (by omega) (by omega), fun h22 e22 => ⟨by rw [e22, e15]; exact mj.1, A 19, by rw [e22, e15]; exact y1, by rw [e22, e15]; exact mj.1, A 19, by rw [e22, e15]; exact y1, by rw [e22, e15]; exact y2, by rw [e22, kN_sI, e15, kN_sI, y3]; exact vp_in_nI (by omega) (by omega), by rw [e22, e15]; exact y2, by rw [e22, kN_sI, e15, kN_sI, y3]; exact vp_in_nI (by omega) (by omega), fun h29 e29 x30 e30 => ?_⟩⟩⟩, fun c => ?_⟩
      · rw [nI_clamp (by omega)] at e15 e22 e29
        rw [nI_1] at e30
        unfold wp_M_forget_64
        intro x1 ex1
        rw [nI_1] at ex1
        subst ex1
        have eK : mKeep h A v (r + 1) = mKeep h A v r ++ [mRd h A r] := if_neg c
        have eL : (mKeep h A v (r + 1)).length = (mKeep h A v r).length + 1 := by rw [eK, List.length_append]; rfl
        have rd : ∀ j : Nat, mRd h29 A j = if j = (mKeep h A v r).length then mRd h A r else mRd hj A j := fun j => by
          have q1 : hI h29 (A 17) j = if j = (mKeep h A v r).length then hI hj (A 17) r else hI hj (A 17) j := by
            rw [e29, kI_sJ, e22, rI_sI, if_neg (fun q => d78 q.1), e15, rI_sI]
            by_cases c2 : j = (mKeep h A v r).length
            · rw [if_pos ⟨rfl, c2⟩, if_pos c2, o1]
            · rw [if_neg (fun q => c2 q.2), if_neg c2]
          have q2 : hI h29 (A 18) j = if j = (mKeep h A v r).length then hI hj (A 18) r else hI hj (A 18) j := by
            rw [e29, kI_sJ, e22, rI_sI]
            by_cases c2 : j = (mKeep h A v r).length
            · rw [if_pos ⟨rfl, c2⟩, if_pos c2, e15, rI_sI, if_neg (fun q => d78 q.1.symm)]
            · rw [if_neg (fun q => c2 q.2), if_neg c2, e15, rI_sI, if_neg (fun q => d78 q.1.symm)]
          have q3 : hJ h29 (A 19) j = if j = (mKeep h A v r).length then hJ hj (A 19) r else hJ hj (A 19) j := by
            rw [e29, rJ_sJ]
            by_cases c2 : j = (mKeep h A v r).length
            · rw [if_pos ⟨rfl, c2⟩, if_pos c2, e22, kJ_sI, e15, kJ_sI]
            · rw [if_neg (fun q => c2 q.2), if_neg c2, e22, kJ_sI, e15, kJ_sI]
          rw [← o]
          unfold mRd
          rw [q1, q2, q3]
          by_cases c2 : j = (mKeep h A v r).length
          · rw [if_pos c2, if_pos c2, if_pos c2, if_pos c2]
          · rw [if_neg c2, if_neg c2, if_neg c2, if_neg c2]
        rw [e30, ← eL]
        refine ih (r + 1) h29 (by omega) ⟨?_, ?_, ?_, fun b b1 b2 => ?_, fun b b1 => ?_⟩ (fun j hj' => ?_) (fun j hj' => ?_)
        · rw [e29, kK_sJ, e22, kK_sI, e15, kK_sI]; exact kp.1
        · rw [e29, kN_sJ, e22, kN_sI, e15, kN_sI]; exact kp.2.1
        · rw [e29, kR_sJ, e22, kR_sI, e15, kR_sI]; exact kp.2.2.1
        · rw [← kp.2.2.2.1 b b1 b2]
          funext j
          rw [e29, kI_sJ, e22, rI_sI, if_neg (fun q => b2 q.1), e15, rI_sI, if_neg (fun q => b1 q.1)]
        · rw [← kp.2.2.2.2 b b1]
          funext j
          rw [e29, rJ_sJ, if_neg (fun q => b1 q.1), e22, kJ_sI, e15, kJ_sI]
        · rw [eL] at hj'
          rw [rd, eK]
          by_cases c2 : j = (mKeep h A v r).length
          · rw [if_pos c2, c2]
            simp [List.getD_eq_getElem?_getD]
          · rw [if_neg c2, i1 j (by omega)]
            simp [List.getD_eq_getElem?_getD, List.getElem?_append_left (show j < (mKeep h A v r).length by omega)]
        · rw [rd, if_neg (by omega)]
          exact i2 j (by omega)
      · unfold wp_M_forget_64
        intro x1 ex1
        rw [nI_1] at ex1
        subst ex1
        have eK : mKeep h A v (r + 1) = mKeep h A v r := if_pos c
        have nx := ih (r + 1) hj (by omega) kp (by rw [eK]; exact i1) (fun j hj' => i2 j (by omega))
        rw [eK] at nx
        exact nx
  unfold wp_M_forget
  exact ⟨n + 1, loop n 0 h (by omega) ⟨rfl, rfl, rfl, fun _ _ _ => rfl, fun _ _ => rfl⟩ (fun j hj => absurd hj (Nat.not_lt_zero j)) (fun _ _ => rfl)⟩
