/-! PURE: the reference's isBlocked, findRing, youngest -/
theorem MI.placeOf {g : Gm} {Y : Nat → Prop} {h0 h : Hp} {a n r q t : Nat} {A : Nat → Nat} {post : Int32 → Prop} (m : MI Y h0 h a A n r q) (ht : t ≤ 30) (hp : ∀ x : Int32, post x) : wp_M_placeOf g post h a (nI t) := by
  have m6 := m.2.2.2.2.2.1
  rcases m6.2.2.2.2 t ht with c | ⟨s, k, s1, s2, s3, s4⟩
  · exact M_placeOf0 m.2.1 ht c (hp _)
  · have hc := cn_le m6.1 s1
    refine M_placeOf (n := cn (hI h (A 7)) s) (p := k) m.2.1 ht s1 s2 (by omega) (m6.2.1 s s1) s3 (fun j hj => ⟨fun z => ?_, fun z => by rw [z]; exact s4⟩) (hp _)
    exact m6.2.2.2.1 s j k s1 hj s3 (by rw [z, s4])
theorem MI.isBlocked {g : Gm} {Y : Nat → Prop} {h0 h : Hp} {a n r q u v : Nat} {A : Nat → Nat} {post : Int32 → Prop} (m : MI Y h0 h a A n r q) (hu : u ≤ 30) (hv : v ≤ 30)
    (p0 : post 0) (p1 : ¬ hI h (A 7) u = -1 → post 1) : wp_M_isBlocked g post h a (nI u) (nI v) := by
  obtain ⟨r1, r2, r3⟩ := m.2.1.row 7 21 31 (by decide)
  obtain ⟨u1, u2, u3⟩ := m.2.1.row 9 21 1550 (by decide)
  obtain ⟨v1, v2, v3⟩ := m.2.1.row 8 21 31 (by decide)
  have m5 := m.2.1.1
  unfold wp_M_isBlocked
  refine ⟨m5, A 7, r1, r2, by rw [r3]; exact vp_in_nI (by omega) (by omega), ?_⟩
  rw [nI_clamp (n := u) (by omega)]
  refine ⟨fun _ => ⟨Or.inl rfl, p0⟩, fun c => ?_⟩
  obtain ⟨s, k, s1, s2, s3, s4⟩ : ∃ s k : Nat, s < 50 ∧ hI h (A 7) u = nI s ∧ k < cn (hI h (A 7)) s ∧ hI h (A 15) (31 * s + k) = nI u := by
    rcases m.2.2.2.2.2.1.2.2.2.2 u hu with z | z
    · exact absurd z c
    · exact z
  have q47 : ∀ s0 : Int32, wp_M_isBlocked_47 g post h a (nI u) (nI v) (nI s) s0 := fun s0 => by
    unfold wp_M_isBlocked_47 wp_M_isBlocked_90 wp_M_isBlocked_94 wp_M_isBlocked_95
    refine ⟨fun _ => ⟨Or.inr rfl, p1 c⟩, fun _ => ⟨m5, A 9, u1, M_of ⟨u2, by rw [u3]; exact vp_in_nI (by omega) (by omega), fun _ => ⟨Or.inl rfl, p0⟩, fun _ => ⟨m5, A 9, u1, M_of ⟨u2, by rw [u3]; exact vp_in_nI (by omega) (by omega), m5, A 8, v1, v2, by rw [v3]; exact vp_in_nI (by omega) (by omega), M_areTogether (fun _ => ⟨fun _ => ⟨Or.inl rfl, p0⟩, fun _ => ⟨Or.inr rfl, p1 c⟩⟩) (fun _ => ⟨fun _ => ⟨Or.inl rfl, p0⟩, fun _ => ⟨Or.inr rfl, p1 c⟩⟩)⟩⟩⟩⟩⟩
  refine ⟨fun _ => ⟨m5, A 7, r1, r2, by rw [r3]; exact vp_in_nI (by omega) (by omega), fun _ => ?_, fun _ => ⟨m5, m.placeOf hv fun x12 => ⟨m5, m.placeOf hu fun x15 => ⟨fun _ => ?_, fun _ => ?_⟩⟩⟩⟩, fun _ => ⟨Or.inl rfl, p0⟩⟩
  · rw [s2]; exact q47 0
  · rw [s2]; exact q47 0
  · rw [s2]; exact q47 1
/-- the search: far, came, queue; t where it began, z reached -/
def Bf (W F C Q : Nat → Int32) (t z : Nat) : Prop := F 0 = -1 ∧ z = cntF (fun v => decide (¬ F v = -1)) 31 ∧ (∀ k : Nat, k < z → ∃ v f : Nat, 1 ≤ v ∧ v ≤ 30 ∧ Q k = nI v ∧ F v = nI f ∧ f ≤ k) ∧ (∀ v : Nat, v ≤ 30 → F v = -1 ∨ (v = t ∧ F v = nI 0) ∨ ∃ u f : Nat, 1 ≤ u ∧ u ≤ 30 ∧ C v = nI u ∧ ¬ W u = -1 ∧ F u = nI f ∧ F v = nI (f + 1) ∧ f ≤ 30)
theorem Bf.le {W F C Q : Nat → Int32} {t z : Nat} (b : Bf W F C Q t z) : z ≤ 30 := by
  rw [b.2.1]
  exact cntF_lt 30 (by rw [b.1]; rfl)
theorem Bf.step {W F C Q F' C' Q' : Nat → Int32} {t z k u v f : Nat} (b : Bf W F C Q t z) (hk : k < z) (hu1 : 1 ≤ u) (hu : u ≤ 30) (hQ : Q k = nI u) (hF : F u = nI f) (hf : f ≤ k) (hw : ¬ W u = -1) (hv1 : 1 ≤ v) (hv : v ≤ 30) (hFv : F v = -1)
    (eF : ∀ j : Nat, F' j = if j = v then nI (f + 1) else F j) (eC : ∀ j : Nat, C' j = if j = v then nI u else C j) (eQ : ∀ j : Nat, Q' j = if j = z then nI v else Q j) : Bf W F' C' Q' t (z + 1) := by
  have hz := b.le
  obtain ⟨b1, b2, b3, b4⟩ := b
  have huv : u ≠ v := fun q => by rw [q, hFv] at hF; exact nIm1 (by omega) hF
  refine ⟨?_, ?_, ?_, ?_⟩
  · rw [eF, if_neg (by omega)]; exact b1
  · rw [b2]
    refine (cntF_set (t := v) (by omega) ?_ ?_ ?_).symm
    · rw [hFv]; rfl
    · rw [eF, if_pos rfl]; exact decide_eq_true (nI_nm1 (by omega))
    · intro j _ hj; rw [eF, if_neg hj]
  · intro j hj
    rw [eQ]
    by_cases c : j = z
    · rw [if_pos c]
      exact ⟨v, f + 1, hv1, hv, rfl, by rw [eF, if_pos rfl], by omega⟩
    · rw [if_neg c]
      obtain ⟨v', f', q1, q2, q3, q4, q5⟩ := b3 j (by omega)
      refine ⟨v', f', q1, q2, q3, ?_, q5⟩
      rw [eF, if_neg (fun q => ?_)]; exact q4
      rw [q, hFv] at q4
      exact nIm1 (by omega) q4
  · intro v' hv'
    rw [eF, eC]
    by_cases c : v' = v
    · rw [if_pos c, if_pos c]
      exact Or.inr (Or.inr ⟨u, f, hu1, hu, rfl, hw, by rw [eF, if_neg huv]; exact hF, rfl, by omega⟩)
    · rw [if_neg c, if_neg c]
      rcases b4 v' hv' with q | q | ⟨u', f', q1, q2, q3, q4, q5, q6, q7⟩
      · exact Or.inl q
      · exact Or.inr (Or.inl q)
      · refine Or.inr (Or.inr ⟨u', f', q1, q2, q3, q4, ?_, q6, q7⟩)
        rw [eF, if_neg (fun q => ?_)]; exact q5
        rw [q, hFv] at q5
        exact nIm1 (by omega) q5
/-- a ring of z that wait -/
def Rn (h : Hp) (a : Nat) (A : Nat → Nat) (z : Nat) : Prop := 1 ≤ z ∧ z ≤ 31 ∧ hI h a 25 = nI z ∧ ∀ j : Nat, j < z → ∃ v : Nat, 1 ≤ v ∧ v ≤ 30 ∧ hI h (A 21) j = nI v ∧ ¬ hI h (A 7) v = -1
theorem MI.findRing {g : Gm} {Y : Nat → Prop} {h0 h : Hp} {a n r q t : Nat} {A : Nat → Nat} {post : Int32 → Hp → Prop} (m : MI Y h0 h a A n r q) (ht1 : 1 ≤ t) (ht : t ≤ 30)
    (p0 : ∀ h' : Hp, MI Y h0 h' a A n r q → post 0 h') (p1 : ∀ (h' : Hp) (z : Nat), MI Y h0 h' a A n r q → Rn h' a A z → post 1 h') : wp_M_findRing g post h a (nI t) := by
  have d21 : (21, 21, 31) ∈ MA := by decide
  have d22 : (22, 21, 31) ∈ MA := by decide
  have d23 : (23, 21, 31) ∈ MA := by decide
  have d24 : (24, 21, 31) ∈ MA := by decide
  have d7 : (7, 21, 31) ∈ MA := by decide
  -- the ring is written
  have wr : ∀ (z i w : Nat) (h : Hp), MI Y h0 h a A n r q → Bf (hI h (A 7)) (hI h (A 23)) (hI h (A 22)) (hI h (A 24)) t z → i ≤ 30 → 1 ≤ w → w ≤ 30 → hI h (A 23) w = nI i → ¬ hI h (A 7) w = -1 → ∀ zr : Nat, i < zr → zr ≤ 31 → hI h a 25 = nI zr → (∀ j : Nat, i < j → j < zr → ∃ v : Nat, 1 ≤ v ∧ v ≤ 30 ∧ hI h (A 21) j = nI v ∧ ¬ hI h (A 7) v = -1) → wp_M_findRing_109 g post (i + 2) h a (nI w) (nI i) := by
    intro z i
    induction i with
    | zero =>
      intro w h m b hi hw1 hw2 hF hW zr z1 z2 z3 z4
      obtain ⟨r1, r2, r3⟩ := m.2.1.row 21 21 31 d21
      unfold wp_M_findRing_109
      refine ⟨fun c => absurd c (nI_pos (by omega)), fun _ => ⟨m.2.1.1, A 21, r1, r2, by rw [r3]; exact vp_in_nI (by omega) (by omega), fun h5 e5 => ?_⟩⟩
      rw [nI_clamp (by omega)] at e5
      have m5 : MI Y h0 h5 a A n r q := by rw [e5]; exact m.wI d21 (by decide)
      obtain ⟨s1, s2, s3⟩ := m5.2.1.row 22 21 31 d22
      refine ⟨m5.2.1.1, A 22, s1, s2, by rw [s3]; exact vp_in_nI (by omega) (by omega), fun x9 e9 => ?_⟩
      have e9 : x9 = -1 := by rw [e9]; rfl
      subst e9
      unfold wp_M_findRing_109
      have e7 : hI h5 (A 7) = hI h (A 7) := by rw [e5]; exact sI_o (m.2.1.ne 7 21 21 31 21 31 d7 d21 (by decide))
      refine ⟨fun _ => ⟨Or.inr rfl, p1 h5 zr m5 ⟨by omega, z2, ?_, fun j hj => ?_⟩⟩, fun c => absurd (by decide) c⟩
      · rw [e5, sI_o (m.2.1.na 21 21 31 d21)]; exact z3
      · rw [e7]
        by_cases c : j = 0
        · exact ⟨w, hw1, hw2, by rw [e5, rI_sI, if_pos ⟨rfl, c⟩], hW⟩
        · obtain ⟨v, v1, v2, v3, v4⟩ := z4 j (by omega) hj
          exact ⟨v, v1, v2, by rw [e5, rI_sI, if_neg (fun q => c q.2)]; exact v3, v4⟩
    | succ i ih =>
      intro w h m b hi hw1 hw2 hF hW zr z1 z2 z3 z4
      obtain ⟨r1, r2, r3⟩ := m.2.1.row 21 21 31 d21
      unfold wp_M_findRing_109
      refine ⟨fun c => absurd c (nI_pos (by omega)), fun _ => ⟨m.2.1.1, A 21, r1, r2, by rw [r3]; exact vp_in_nI (by omega) (by omega), fun h5 e5 => ?_⟩⟩
      rw [nI_clamp (by omega)] at e5
      have m5 : MI Y h0 h5 a A n r q := by rw [e5]; exact m.wI d21 (by decide)
      obtain ⟨s1, s2, s3⟩ := m5.2.1.row 22 21 31 d22
      refine ⟨m5.2.1.1, A 22, s1, s2, by rw [s3]; exact vp_in_nI (by omega) (by omega), fun x9 e9 => ?_⟩
      rw [nI_m1] at e9
      subst e9
      have e7 : hI h5 (A 7) = hI h (A 7) := by rw [e5]; exact sI_o (m.2.1.ne 7 21 21 31 21 31 d7 d21 (by decide))
      have e22 : hI h5 (A 22) = hI h (A 22) := by rw [e5]; exact sI_o (m.2.1.ne 22 21 21 31 21 31 d22 d21 (by decide))
      have e23 : hI h5 (A 23) = hI h (A 23) := by rw [e5]; exact sI_o (m.2.1.ne 23 21 21 31 21 31 d23 d21 (by decide))
      have e24 : hI h5 (A 24) = hI h (A 24) := by rw [e5]; exact sI_o (m.2.1.ne 24 21 21 31 21 31 d24 d21 (by decide))
      rw [nI_clamp (n := w) (by omega), e22]
      rcases b.2.2.2 w hw2 with c | ⟨-, c⟩ | ⟨u, f, u1, u2, u3, u4, u5, u6, u7⟩
      · rw [c] at hF; exact absurd hF (nIm1 (by omega))
      · rw [c] at hF
        have := (nI_eq (by omega) (by omega)).mp hF
        omega
      · have ef : f = i := by
          rw [u6] at hF
          have := (nI_eq (by omega) (by omega)).mp hF
          omega
        subst ef
        rw [u3]
        refine ih u h5 m5 (by rw [e7, e22, e23, e24]; exact b) (by omega) u1 u2 (by rw [e23]; exact u5) (by rw [e7]; exact u4) zr (by omega) z2 ?_ ?_
        · rw [e5, sI_o (m.2.1.na 21 21 31 d21)]; exact z3
        · intro j hj1 hj2
          rw [e7]
          by_cases c : j = f + 1
          · exact ⟨w, hw1, hw2, by rw [e5, rI_sI, if_pos ⟨rfl, c⟩], hW⟩
          · obtain ⟨v, v1, v2, v3, v4⟩ := z4 j (by omega) hj2
            exact ⟨v, v1, v2, by rw [e5, rI_sI, if_neg (fun q => c q.2)]; exact v3, v4⟩
  have inner : ∀ (K39 : Hp → Nat → Int32 → Int32 → Int32 → Prop) (k u : Nat), k < 30 → (∀ (h' : Hp) (z' : Nat), MI Y h0 h' a A n r q → Bf (hI h' (A 7)) (hI h' (A 23)) (hI h' (A 22)) (hI h' (A 24)) t z' → k < z' → K39 h' a (nI t) (nI z') (nI (k + 1))) →
      ∀ (d v z : Nat) (h : Hp), v + d = n + 1 → 1 ≤ v → MI Y h0 h a A n r q → Bf (hI h (A 7)) (hI h (A 23)) (hI h (A 22)) (hI h (A 24)) t z → k < z → hI h (A 24) k = nI u → 1 ≤ u → u ≤ 30 → wp_M_findRing_55 g post K39 (d + 1) h a (nI t) (nI z) (nI k) (nI u) (nI v) := by
    intro K39 k u hk30 hK d
    induction d with
    | zero =>
      intro v z h ev hv1 m b hk hQ hu1 hu2
      have ev : v = n + 1 := by omega
      subst ev
      have hn := m.2.2.2.2.1
      unfold wp_M_findRing_55
      rw [m.2.2.2.1]
      refine ⟨m.2.1.1, fun _ x3 e3 => ?_, fun c => absurd (nI_lt (by omega) (by omega)) c⟩
      rw [nI_1] at e3
      subst e3
      exact hK h z m b hk
    | succ d ih =>
      intro v z h ev hv1 m b hk hQ hu1 hu2
      have hn := m.2.2.2.2.1
      have hz := b.le
      obtain ⟨u', f, q1, q2, q3, q4, q5⟩ := b.2.2.1 k hk
      have eu : u' = u := by rw [q3] at hQ; exact (nI_eq (by omega) (by omega)).mp hQ
      subst eu
      obtain ⟨r1, r2, r3⟩ := m.2.1.row 23 21 31 d23
      have m5 := m.2.1.1
      have nx : ∀ (h' : Hp) (z' : Nat), MI Y h0 h' a A n r q → Bf (hI h' (A 7)) (hI h' (A 23)) (hI h' (A 22)) (hI h' (A 24)) t z' → k < z' → hI h' (A 24) k = nI u' → wp_M_findRing_190 g post K39 (fun h v0 v1 v2 v3 v4 v5 => wp_M_findRing_55 g post K39 (d + 1) h v0 v1 v2 v3 v4 v5) h' a (nI t) (nI z') (nI k) (nI u') (nI v) := fun h' z' m' b' k' Q' => by
        unfold wp_M_findRing_190
        intro x1 e1
        rw [nI_1] at e1
        subst e1
        exact ih (v + 1) z' h' (by omega) (by omega) m' b' k' Q' hu1 hu2
      unfold wp_M_findRing_55
      rw [m.2.2.2.1]
      refine ⟨m5, fun c => ?_, fun _ => ⟨m5, m.isBlocked hu2 (by omega) ⟨fun c => absurd rfl c, fun _ => nx h z m b hk hQ⟩ fun hw => ⟨fun _ => ⟨fun cv => ?_, fun cv => ?_⟩, fun c => absurd c (by decide)⟩⟩⟩
      · have := (nI_ltI (by omega) (by omega)).mp c
        omega
      · refine ⟨m5, A 23, r1, r2, by rw [r3]; exact vp_in_nI (by omega) (by omega), fun cf => ?_, fun _ => nx h z m b hk hQ⟩
        rw [nI_clamp (by omega)] at cf
        refine ⟨m5, A 23, r1, m5, A 23, r1, r2, by rw [r3]; exact vp_in_nI (by omega) (by omega), fun x18 e18 => ?_⟩
        rw [nI_clamp (by omega), q4, nI_1] at e18
        subst e18
        refine ⟨r2, by rw [r3]; exact vp_in_nI (by omega) (by omega), fun h20 e20 => ?_⟩
        rw [nI_clamp (by omega)] at e20
        have m20 : MI Y h0 h20 a A n r q := by rw [e20]; exact m.wI d23 (by decide)
        obtain ⟨s1, s2, s3⟩ := m20.2.1.row 22 21 31 d22
        refine ⟨m20.2.1.1, A 22, s1, s2, by rw [s3]; exact vp_in_nI (by omega) (by omega), fun h24 e24 => ?_⟩
        rw [nI_clamp (by omega)] at e24
        have m24 : MI Y h0 h24 a A n r q := by rw [e24]; exact m20.wI d22 (by decide)
        obtain ⟨y1, y2, y3⟩ := m24.2.1.row 24 21 31 d24
        refine ⟨m24.2.1.1, A 24, y1, y2, by rw [y3]; exact vp_in_nI (by omega) (by omega), fun h28 e28 x29 e29 => ?_⟩
        rw [nI_clamp (by omega)] at e28
        rw [nI_1] at e29
        subst e29
        have m28 : MI Y h0 h28 a A n r q := by rw [e28]; exact m24.wI d24 (by decide)
        have n1 : A 22 ≠ A 23 := m.2.1.ne 22 23 21 31 21 31 d22 d23 (by decide)
        have n2 : A 24 ≠ A 23 := m.2.1.ne 24 23 21 31 21 31 d24 d23 (by decide)
        have n3 : A 24 ≠ A 22 := m.2.1.ne 24 22 21 31 21 31 d24 d22 (by decide)
        have n4 : A 7 ≠ A 22 := m.2.1.ne 7 22 21 31 21 31 d7 d22 (by decide)
        have n5 : A 7 ≠ A 23 := m.2.1.ne 7 23 21 31 21 31 d7 d23 (by decide)
        have n6 : A 7 ≠ A 24 := m.2.1.ne 7 24 21 31 21 31 d7 d24 (by decide)
        have f7 : hI h28 (A 7) = hI h (A 7) := by rw [e28, sI_o n6, e24, sI_o n4, e20, sI_o n5]
        have f23 : ∀ j : Nat, hI h28 (A 23) j = if j = v then nI (f + 1) else hI h (A 23) j := fun j => by
          rw [e28, sI_o (fun z => n2 z.symm), e24, sI_o (fun z => n1 z.symm), e20, rI_sI]
          by_cases c : j = v
          · rw [if_pos ⟨rfl, c⟩, if_pos c]
          · rw [if_neg (fun z => c z.2), if_neg c]
        have f22 : ∀ j : Nat, hI h28 (A 22) j = if j = v then nI u' else hI h (A 22) j := fun j => by
          rw [e28, sI_o (fun z => n3 z.symm), e24, rI_sI, e20, sI_o n1]
          by_cases c : j = v
          · rw [if_pos ⟨rfl, c⟩, if_pos c]
          · rw [if_neg (fun z => c z.2), if_neg c]
        have f24 : ∀ j : Nat, hI h28 (A 24) j = if j = z then nI v else hI h (A 24) j := fun j => by
          rw [e28, rI_sI, e24, sI_o n3, e20, sI_o n2]
          by_cases c : j = z
          · rw [if_pos ⟨rfl, c⟩, if_pos c]
          · rw [if_neg (fun z => c z.2), if_neg c]
        have bb := b.step hk hu1 hu2 hQ q4 q5 hw hv1 (by omega) cf f23 f22 f24
        exact nx h28 (z + 1) m28 (by rw [f7]; exact bb) (by omega) (by rw [f24, if_neg (by omega)]; exact hQ)
      · refine ⟨m5, A 23, r1, r2, by rw [r3]; exact vp_in_nI (by omega) (by omega), fun x33 e33 => ⟨m5, fun h35 e35 => ?_⟩⟩
        rw [nI_clamp (by omega), q4, nI_1] at e33
        subst e33
        have m35 : MI Y h0 h35 a A n r q := by rw [e35]; exact m.w25 (by omega)
        have g25 : hI h35 a 25 = nI (f + 1) := by rw [e35, rI_sI, if_pos ⟨rfl, rfl⟩]
        refine ⟨m35.2.1.1, fun x37 e37 => ⟨f + 2, ?_⟩⟩
        rw [g25, nI_pred] at e37
        subst e37
        have o : ∀ j kj lj : Nat, (j, kj, lj) ∈ MA → hI h35 (A j) = hI h (A j) := fun j kj lj h1 => by rw [e35]; exact sI_o (fun z => m.2.1.na j kj lj h1 z.symm)
        refine wr z f u' h35 m35 (by rw [o 7 21 31 d7, o 22 21 31 d22, o 23 21 31 d23, o 24 21 31 d24]; exact b) (by omega) hu1 hu2 (by rw [o 23 21 31 d23]; exact q4) (by rw [o 7 21 31 d7]; exact hw) (f + 1) (by omega) (by omega) g25 (fun j j1 j2 => by omega)
  have outer : ∀ (d k z : Nat) (h : Hp), k + d = 31 → k ≤ z → MI Y h0 h a A n r q → Bf (hI h (A 7)) (hI h (A 23)) (hI h (A 22)) (hI h (A 24)) t z → wp_M_findRing_39 g post (d + 1) h a (nI t) (nI z) (nI k) := by
    intro d
    induction d with
    | zero =>
      intro k z h e hkz m b
      have := b.le
      omega
    | succ d ih =>
      intro k z h e hkz m b
      have hz := b.le
      unfold wp_M_findRing_39
      refine ⟨fun _ => ⟨Or.inl rfl, p0 h m⟩, fun c => ?_⟩
      have hk : k < z := by
        rcases Nat.lt_or_ge k z with q | q
        · exact q
        · exact absurd (nI_le q (by omega)) c
      obtain ⟨r1, r2, r3⟩ := m.2.1.row 24 21 31 d24
      obtain ⟨u, f, q1, q2, q3, q4, q5⟩ := b.2.2.1 k hk
      refine ⟨m.2.1.1, A 24, r1, r2, by rw [r3]; exact vp_in_nI (by omega) (by omega), n + 1, ?_⟩
      rw [nI_clamp (n := k) (by omega), q3]
      exact inner _ k u (by omega) (fun h' z' m' b' k' => ih (k + 1) z' h' (by omega) (by omega) m' b') n 1 z h (by omega) (Nat.le_refl 1) m b hk q3 q1 q2
  have init : ∀ (d j : Nat) (h : Hp), j + d = 31 → MI Y h0 h a A n r q → (∀ i : Nat, i < j → hI h (A 23) i = -1) → wp_M_findRing_2 g post (d + 1) h a (nI t) (nI j) := by
    intro d
    induction d with
    | zero =>
      intro j h e m hj
      have e : j = 31 := by omega
      subst e
      unfold wp_M_findRing_2
      refine ⟨fun _ => ?_, fun c => absurd (by decide) c⟩
      obtain ⟨r1, r2, r3⟩ := m.2.1.row 24 21 31 d24
      refine ⟨m.2.1.1, A 24, r1, r2, by rw [r3]; exact vp_in_nI (n := 0) (by omega) (by omega), fun h5 e5 => ?_⟩
      have m5 : MI Y h0 h5 a A n r q := by rw [e5]; exact m.wI d24 (by decide)
      obtain ⟨s1, s2, s3⟩ := m5.2.1.row 23 21 31 d23
      refine ⟨m5.2.1.1, A 23, s1, s2, by rw [s3]; exact vp_in_nI (by omega) (by omega), fun h9 e9 => ⟨32, ?_⟩⟩
      rw [nI_clamp (by omega)] at e9
      have m9 : MI Y h0 h9 a A n r q := by rw [e9]; exact m5.wI d23 (by decide)
      have n2 : A 24 ≠ A 23 := m.2.1.ne 24 23 21 31 21 31 d24 d23 (by decide)
      have f23 : ∀ i : Nat, i < 31 → hI h9 (A 23) i = if i = t then 0 else -1 := fun i hi => by
        rw [e9, rI_sI, e5, sI_o (fun z => n2 z.symm)]
        by_cases c : i = t
        · rw [if_pos ⟨rfl, c⟩, if_pos c]
        · rw [if_neg (fun z => c z.2), if_neg c]; exact hj i hi
      have f24 : hI h9 (A 24) 0 = nI t := by rw [e9, sI_o n2, e5, rI_sI, if_pos ⟨rfl, by decide⟩]
      refine outer 31 0 1 h9 rfl (by omega) m9 ⟨by rw [f23 0 (by omega), if_neg (by omega)], ?_, fun k hk => ⟨t, 0, ht1, ht, by rw [show k = 0 by omega]; exact f24, by rw [f23 t (by omega), if_pos rfl]; rfl, by omega⟩, fun v hv => ?_⟩
      · have z0 : ∀ k : Nat, cntF (fun _ => false) k = 0 := fun k => by
          induction k with
          | zero => rfl
          | succ k ih => show cntF (fun _ => false) k + (if false = true then 1 else 0) = 0; rw [ih]; rfl
        have := cntF_set (f := fun _ => false) (f' := fun v => decide (¬ hI h9 (A 23) v = -1)) (n := 31) (t := t) (by omega) rfl (by rw [f23 t (by omega), if_pos rfl]; rfl) (fun k hk hkt => by rw [f23 k hk, if_neg hkt]; rfl)
        rw [this, z0]
      · by_cases c : v = t
        · exact Or.inr (Or.inl ⟨c, by rw [f23 v (by omega), if_pos c]; rfl⟩)
        · exact Or.inl (by rw [f23 v (by omega), if_neg c])
    | succ d ih =>
      intro j h e m hj
      have h30 : (30 : Int32) = nI 30 := rfl
      obtain ⟨r1, r2, r3⟩ := m.2.1.row 23 21 31 d23
      unfold wp_M_findRing_2
      refine ⟨fun c => ?_, fun _ => ⟨m.2.1.1, A 23, r1, r2, by rw [r3]; exact vp_in_nI (by omega) (by omega), fun h13 e13 x14 e14 => ?_⟩⟩
      · rw [h30] at c
        have := (nI_ltI (by omega) (by omega)).mp c
        omega
      · rw [nI_clamp (by omega)] at e13
        rw [nI_1] at e14
        subst e14
        refine ih (j + 1) h13 (by omega) (by rw [e13]; exact m.wI d23 (by decide)) fun i hi => ?_
        rw [e13, rI_sI]
        by_cases c : i = j
        · rw [if_pos ⟨rfl, c⟩]
        · rw [if_neg (fun z => c z.2)]; exact hj i (by omega)
  unfold wp_M_findRing
  exact ⟨32, init 31 0 h rfl m (fun i hi => absurd hi (Nat.not_lt_zero i))⟩
theorem MI.youngest {g : Gm} {Y : Nat → Prop} {h0 h : Hp} {a n r q z : Nat} {A : Nat → Nat} {post : Int32 → Prop} (m : MI Y h0 h a A n r q) (rn : Rn h a A z)
    (hp : ∀ y : Nat, 1 ≤ y → y ≤ 30 → ¬ hI h (A 7) y = -1 → post (nI y)) : wp_M_youngest g post h a := by
  obtain ⟨z1, z2, z3, z4⟩ := rn
  obtain ⟨r1, r2, r3⟩ := m.2.1.row 21 21 31 (by decide)
  obtain ⟨u1, u2, u3⟩ := m.2.1.row 4 21 31 (by decide)
  have m5 := m.2.1.1
  have loop : ∀ (d k : Nat) (y : Int32), k + d = z → ((k = 0 ∧ y = 0) ∨ ∃ v : Nat, y = nI v ∧ 1 ≤ v ∧ v ≤ 30 ∧ ¬ hI h (A 7) v = -1) → wp_M_youngest_4 g post (d + 1) h a y (nI k) := by
    intro d
    induction d with
    | zero =>
      intro k y e hy
      have e : k = z := by omega
      subst e
      unfold wp_M_youngest_4
      rw [z3]
      refine ⟨m5, fun _ => ?_, fun c => absurd (nI_le (Nat.le_refl _) (by omega)) c⟩
      rcases hy with ⟨c, -⟩ | ⟨v, e, v1, v2, v3⟩
      · omega
      · rw [e]; exact hp v v1 v2 v3
    | succ d ih =>
      intro k y e hy
      obtain ⟨v, v1, v2, v3, v4⟩ := z4 k (by omega)
      have q66 : wp_M_youngest_66 g post (fun h v0 v1 v2 => wp_M_youngest_4 g post (d + 1) h v0 v1 v2) h a (nI k) := by
        unfold wp_M_youngest_66 wp_M_youngest_76
        refine ⟨m5, A 21, r1, r2, by rw [r3]; exact vp_in_nI (by omega) (by omega), fun x1 e1 => ?_⟩
        rw [nI_1] at e1
        subst e1
        rw [nI_clamp (by omega), v3]
        exact ih (k + 1) (nI v) (by omega) (Or.inr ⟨v, rfl, v1, v2, v4⟩)
      unfold wp_M_youngest_4
      rw [z3]
      refine ⟨m5, fun c => ?_, fun _ => ⟨fun _ => q66, fun cy => ?_⟩⟩
      · have := (nI_leI (by omega) (by omega)).mp c
        omega
      · obtain ⟨w, rfl, w1, w2, w3⟩ : ∃ w : Nat, y = nI w ∧ 1 ≤ w ∧ w ≤ 30 ∧ ¬ hI h (A 7) w = -1 := by
          rcases hy with ⟨-, c⟩ | c
          · exact absurd c cy
          · exact c
        have q75 : wp_M_youngest_75 g post (fun h v0 v1 v2 => wp_M_youngest_4 g post (d + 1) h v0 v1 v2) h a (nI w) (nI k) := by
          unfold wp_M_youngest_75 wp_M_youngest_76
          intro x1 e1
          rw [nI_1] at e1
          subst e1
          exact ih (k + 1) (nI w) (by omega) (Or.inr ⟨w, rfl, w1, w2, w3⟩)
        have i1 : vp_in (nI k) (hN h (A 21)) := by rw [r3]; exact vp_in_nI (by omega) (by omega)
        have i2 : vp_in (nI w) (hN h (A 4)) := by rw [u3]; exact vp_in_nI (by omega) (by omega)
        have i3 : vp_in (hI h (A 21) (nI k).toNatClampNeg) (hN h (A 4)) := by rw [u3, nI_clamp (by omega), v3]; exact vp_in_nI (by omega) (by omega)
        exact ⟨m5, A 4, u1, m5, A 21, r1, r2, i1, u2, i3, m5, A 4, u1, u2, i2, fun _ => q66, fun _ => ⟨m5, A 4, u1, m5, A 21, r1, r2, i1, u2, i3, m5, A 4, u1, u2, i2, fun _ => q75, fun _ => ⟨m5, A 21, r1, r2, i1, fun _ => q75, fun _ => q66⟩⟩⟩
  unfold wp_M_youngest
  exact ⟨z + 1, loop z 0 0 (by omega) (Or.inl ⟨rfl, rfl⟩)⟩
