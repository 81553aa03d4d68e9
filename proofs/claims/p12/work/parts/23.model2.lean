/-! PURE: the reference's unwait -/
/-- only ints differ -/
def Sm (h h' : Hp) : Prop := hK h' = hK h ∧ hN h' = hN h ∧ hR h' = hR h ∧ hJ h' = hJ h
theorem Sm.rf (h : Hp) : Sm h h := ⟨rfl, rfl, rfl, rfl⟩
theorem Sm.tr {h h1 h2 : Hp} (x : Sm h h1) (y : Sm h1 h2) : Sm h h2 := ⟨y.1.trans x.1, y.2.1.trans x.2.1, y.2.2.1.trans x.2.2.1, y.2.2.2.trans x.2.2.2⟩
theorem Sm.sI (h : Hp) (b k : Nat) (v : Int32) : Sm h (sI h b k v) := ⟨rfl, rfl, rfl, rfl⟩
theorem Mst.sm {h h' : Hp} {a : Nat} {A : Nat → Nat} (m : Mst h a A) (x : Sm h h') : Mst h' a A := by
  obtain ⟨x1, x2, x3, -⟩ := x
  unfold Mst
  rw [x1, x2, x3]
  exact m
theorem M_unwait_loop {g : Gm} {h : Hp} {a t s p n : Nat} {A : Nat → Nat} {post : Hp → Prop} (m : Mst h a A) (hs : s < 50) (ht : t ≤ 30) (hn : n ≤ 30) (hc : hI h (A 16) s = nI n)
    (hp : ∀ h' : Hp, Sm h h' → (∀ b k : Nat, hI h' b k = if b = A 7 ∧ k = t then -1 else if b = A 15 ∧ 31 * s + p ≤ k ∧ k < 31 * s + n then hI h b (k + 1) else hI h b k) → post h') :
    ∀ (d j : Nat) (hj : Hp), j + d = n → p ≤ j → Sm h hj → (∀ b k : Nat, hI hj b k = if b = A 15 ∧ 31 * s + p ≤ k ∧ k < 31 * s + j then hI h b (k + 1) else hI h b k) → wp_M_unwait_30 g post (d + 1) hj a (nI t) (nI s) (nI j) := by
  intro d
  have hd : A 16 ≠ A 15 := m.ne 16 15 21 50 21 1550 (by decide) (by decide) (by decide)
  have hd7 : A 7 ≠ A 15 := m.ne 7 15 21 31 21 1550 (by decide) (by decide) (by decide)
  induction d with
  | zero =>
    intro j hj e1 e2 sm ei
    have mj := m.sm sm
    obtain ⟨r1, r2, r3⟩ := mj.row 16 21 50 (by decide)
    obtain ⟨u1, u2, u3⟩ := mj.row 7 21 31 (by decide)
    have ej : j = n := by omega
    subst ej
    unfold wp_M_unwait_30
    refine ⟨mj.1, A 16, r1, r2, by rw [r3]; exact vp_in_nI hs (by omega), ?_⟩
    rw [nI_clamp (by omega), ei, if_neg (fun q => hd q.1), hc]
    refine ⟨fun _ => ⟨mj.1, A 7, u1, u2, by rw [u3]; exact vp_in_nI (by omega) (by omega), fun h8 e8 => ?_⟩, fun c => absurd (nI_le (Nat.le_refl _) (by omega)) c⟩
    rw [nI_clamp (by omega)] at e8
    refine hp h8 (sm.tr (by rw [e8]; exact Sm.sI _ _ _ _)) fun b k => ?_
    rw [e8, rI_sI, ei]
  | succ d ih =>
    intro j hj e1 e2 sm ei
    have mj := m.sm sm
    obtain ⟨r1, r2, r3⟩ := mj.row 16 21 50 (by decide)
    obtain ⟨u1, u2, u3⟩ := mj.row 15 21 1550 (by decide)
    unfold wp_M_unwait_30
    refine ⟨mj.1, A 16, r1, r2, by rw [r3]; exact vp_in_nI hs (by omega), ?_⟩
    rw [nI_clamp (n := s) (by omega), ei (A 16), if_neg (fun q => hd q.1), hc]
    refine ⟨fun c => ?_, fun _ => ⟨mj.1, A 15, u1, fun x11 e11 x12 e12 => ⟨mj.1, A 15, u1, fun x15 e15 x16 e16 x17 e17 => ?_⟩⟩⟩
    · have := (nI_leI (by omega) (by omega)).mp c
      omega
    · have e11 : x11 = nI (31 * s) := e11.trans (nI_mul 31 s)
      have e15 : x15 = nI (31 * s) := e15.trans (nI_mul 31 s)
      rw [e11, nI_add] at e12
      rw [e15, nI_add] at e16
      rw [e16, nI_1] at e17
      subst e12 e17
      refine ⟨u2, by rw [u3]; exact vp_in_nI (by omega) (by omega), u2, by rw [u3]; exact vp_in_nI (by omega) (by omega), fun h20 e20 x21 e21 => ?_⟩
      rw [nI_clamp (by omega), nI_clamp (by omega)] at e20
      rw [nI_1] at e21
      subst e21
      refine ih (j + 1) h20 (by omega) (by omega) (sm.tr (by rw [e20]; exact Sm.sI _ _ _ _)) fun b k => ?_
      rw [e20, rI_sI]
      by_cases c : b = A 15 ∧ k = 31 * s + j
      · rw [if_pos c, if_pos ⟨c.1, by omega, by omega⟩, ei, if_neg (fun q => by omega), c.1, c.2]
      · rw [if_neg c, ei]
        by_cases c2 : b = A 15 ∧ 31 * s + p ≤ k ∧ k < 31 * s + j
        · rw [if_pos c2, if_pos ⟨c2.1, c2.2.1, by omega⟩]
        · rw [if_neg c2, if_neg (fun q => ?_)]
          by_cases c3 : k = 31 * s + j
          · exact c ⟨q.1, c3⟩
          · exact c2 ⟨q.1, q.2.1, by omega⟩
/-- unwait: task t leaves its place p in the line of s, of n + 1 places -/
theorem M_unwait {g : Gm} {h : Hp} {a t s p n : Nat} {A : Nat → Nat} {post : Hp → Prop} (m : Mst h a A) (ht : t ≤ 30) (hs : s < 50) (hw : hI h (A 7) t = nI s) (hn : n < 30) (hc : hI h (A 16) s = nI (n + 1)) (hpn : p ≤ n) (hat : hI h (A 15) (31 * s + p) = nI t) (hbf : ∀ j : Nat, j < p → ¬ hI h (A 15) (31 * s + j) = nI t)
    (hp : ∀ h' : Hp, Sm h h' → (∀ b k : Nat, hI h' b k = if b = A 7 ∧ k = t then -1 else if b = A 15 ∧ 31 * s + p ≤ k ∧ k < 31 * s + n then hI h b (k + 1) else if b = A 16 ∧ k = s then nI n else hI h b k) → post h') : wp_M_unwait g post h a (nI t) := by
  have hd : A 16 ≠ A 15 := m.ne 16 15 21 50 21 1550 (by decide) (by decide) (by decide)
  obtain ⟨r1, r2, r3⟩ := m.row 16 21 50 (by decide)
  obtain ⟨u1, u2, u3⟩ := m.row 7 21 31 (by decide)
  unfold wp_M_unwait
  refine ⟨m.1, A 7, u1, u2, by rw [u3]; exact vp_in_nI (by omega) (by omega), ?_⟩
  rw [nI_clamp (n := t) (by omega), hw]
  refine ⟨fun _ => ⟨m.1, A 16, r1, r2, by rw [r3]; exact vp_in_nI hs (by omega), fun x8 e8 => ⟨r2, by rw [r3]; exact vp_in_nI hs (by omega), fun h10 e10 => ?_⟩⟩, fun c => ?_⟩
  · rw [nI_clamp (n := s) (by omega), hc, nI_pred] at e8
    rw [nI_clamp (n := s) (by omega), e8] at e10
    have s10 : Sm h h10 := by rw [e10]; exact Sm.sI _ _ _ _
    have m10 := m.sm s10
    have i15 : ∀ k : Nat, hI h10 (A 15) k = hI h (A 15) k := fun k => by rw [e10, rI_sI, if_neg (fun q => hd q.1.symm)]
    refine ⟨m10.1, M_placeBefore m10 hs (p := p) (by omega) (by rw [i15]; exact hat) (fun j hj => by rw [i15]; exact hbf j hj) ⟨n - p + 1, ?_⟩⟩
    refine M_unwait_loop m10 hs ht (n := n) (p := p) (by omega) (by rw [e10, rI_sI, if_pos ⟨rfl, rfl⟩]) (fun h' y1 y2 => hp h' (s10.tr y1) fun b k => ?_) (n - p) p h10 (by omega) (Nat.le_refl p) (Sm.rf _) (fun b k => by rw [if_neg (fun q => by omega)])
    rw [y2]
    by_cases c1 : b = A 7 ∧ k = t
    · rw [if_pos c1, if_pos c1]
    · rw [if_neg c1, if_neg c1]
      by_cases c2 : b = A 15 ∧ 31 * s + p ≤ k ∧ k < 31 * s + n
      · rw [if_pos c2, if_pos c2, c2.1, i15]
      · rw [if_neg c2, if_neg c2, e10, rI_sI]
  · exact absurd (by rw [c]; decide) (nI_pos (n := s) (by omega))
theorem M_unwait0 {g : Gm} {h : Hp} {a t : Nat} {A : Nat → Nat} {post : Hp → Prop} (m : Mst h a A) (ht : t ≤ 30) (hw : hI h (A 7) t = -1) (hp : post h) : wp_M_unwait g post h a (nI t) := by
  obtain ⟨u1, u2, u3⟩ := m.row 7 21 31 (by decide)
  unfold wp_M_unwait
  refine ⟨m.1, A 7, u1, u2, by rw [u3]; exact vp_in_nI (by omega) (by omega), ?_⟩
  rw [nI_clamp (n := t) (by omega), hw]
  exact ⟨fun c => absurd rfl c, fun _ => hp⟩
