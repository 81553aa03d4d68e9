/-! PURE: the reference's counts and places -/
def cntF (f : Nat → Bool) : Nat → Nat
  | 0 => 0
  | n + 1 => cntF f n + (if f n = true then 1 else 0)
theorem cntF_le (f : Nat → Bool) (n : Nat) : cntF f n ≤ n := by
  induction n with
  | zero => exact Nat.le_refl 0
  | succ n ih =>
    show cntF f n + (if f n = true then 1 else 0) ≤ n + 1
    by_cases c : f n = true
    · rw [if_pos c]; omega
    · rw [if_neg c]; omega
def mHeld (h : Hp) (A : Nat → Nat) (t s : Nat) : Bool := decide (¬ hI h (A 9) (50 * t + s) = -1)
theorem M_locksOf {g : Gm} {h : Hp} {a t : Nat} {A : Nat → Nat} {post : Int32 → Prop} (m : Mst h a A) (ht : t ≤ 30) (hp : post (nI (cntF (mHeld h A t) 50))) : wp_M_locksOf g post h a (nI t) := by
  have h50 : (50 : Int32) = nI 50 := rfl
  have h5 := m.1
  obtain ⟨r1, r2, r3⟩ := m.row 9 21 1550 (by decide)
  have loop : ∀ d s : Nat, s + d = 50 → wp_M_locksOf_4 g post (d + 1) h a (nI t) (nI (cntF (mHeld h A t) s)) (nI s) := by
    intro d
    induction d with
    | zero =>
      intro s hs
      have hs : s = 50 := by omega
      subst hs
      unfold wp_M_locksOf_4
      exact ⟨fun _ => hp, fun c => absurd (by rw [h50]; exact nI_le (Nat.le_refl 50) (by omega)) c⟩
    | succ d ih =>
      intro s hs
      have hc := cntF_le (mHeld h A t) s
      unfold wp_M_locksOf_4
      refine ⟨fun c => ?_, fun _ => ⟨h5, A 9, r1, M_of ⟨r2, by rw [r3]; exact vp_in_nI (by omega) (by omega), ?_⟩⟩⟩
      · rw [h50] at c
        have := (nI_leI (by omega) (by omega)).mp c
        omega
      · rw [nI_clamp (by omega)]
        have nx := ih (s + 1) (by omega)
        refine ⟨fun c => ?_, fun c => ?_⟩ <;> unfold wp_M_locksOf_30 <;> intro x1 e1 x2 e2 <;> rw [nI_1] at e2 <;> subst e2
        · have e1 : x1 = nI (cntF (mHeld h A t) (s + 1)) := by
            rw [e1]
            show nI (cntF (mHeld h A t) s) + nI 0 = nI (cntF (mHeld h A t) s + (if mHeld h A t s = true then 1 else 0))
            rw [if_neg (by unfold mHeld; simp [c]), nI_add]
          rw [e1]; exact nx
        · have e1 : x1 = nI (cntF (mHeld h A t) (s + 1)) := by
            rw [e1]
            show nI (cntF (mHeld h A t) s) + nI 1 = nI (cntF (mHeld h A t) s + (if mHeld h A t s = true then 1 else 0))
            rw [if_pos (by unfold mHeld; simp [c]), nI_add]
          rw [e1]; exact nx
  unfold wp_M_locksOf
  exact ⟨51, loop 50 0 rfl⟩
/-- the first place of task t among those that wait for s -/
theorem M_placeBefore {g : Gm} {h : Hp} {a s p : Nat} {v : Int32} {A : Nat → Nat} {post : Int32 → Prop} (m : Mst h a A) (hs : s < 50) (hp31 : p < 31) (hat : hI h (A 15) (31 * s + p) = v) (hbf : ∀ j : Nat, j < p → ¬ hI h (A 15) (31 * s + j) = v) (hp : post (nI p)) : wp_M_placeBefore g post h a v (nI s) := by
  have h5 := m.1
  obtain ⟨r1, r2, r3⟩ := m.row 15 21 1550 (by decide)
  have loop : ∀ d j : Nat, j + d = p → wp_M_placeBefore_2 g post (d + 1) h a v (nI s) (nI j) := by
    intro d
    induction d with
    | zero =>
      intro j hj
      have hj : j = p := by omega
      subst hj
      unfold wp_M_placeBefore_2
      refine ⟨h5, A 15, r1, fun x3 e3 x4 e4 => ?_⟩
      have e3 : x3 = nI (31 * s) := e3.trans (nI_mul 31 s)
      rw [e3, nI_add] at e4
      subst e4
      refine ⟨r2, by rw [r3]; exact vp_in_nI (by omega) (by omega), ?_⟩
      rw [nI_clamp (by omega)]
      exact ⟨fun _ => hp, fun c => absurd hat c⟩
    | succ d ih =>
      intro j hj
      unfold wp_M_placeBefore_2
      refine ⟨h5, A 15, r1, fun x3 e3 x4 e4 => ?_⟩
      have e3 : x3 = nI (31 * s) := e3.trans (nI_mul 31 s)
      rw [e3, nI_add] at e4
      subst e4
      refine ⟨r2, by rw [r3]; exact vp_in_nI (by omega) (by omega), ?_⟩
      rw [nI_clamp (by omega)]
      refine ⟨fun c => absurd c (hbf j (by omega)), fun _ x7 e7 => ?_⟩
      rw [nI_1] at e7
      subst e7
      exact ih (j + 1) (by omega)
  unfold wp_M_placeBefore
  exact ⟨p + 1, loop p 0 (by omega)⟩
