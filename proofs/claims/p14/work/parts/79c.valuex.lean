/-! EXACT: value -/
theorem V_value {g : Gm} {Y P : Nat → Prop} {h0 h : Hp} {x o mc ms : Nat} {D E C : Nat → Nat} {L : Nat → List Nat} {B : Nat → Nat → Nat} {z : Zs} {W : List Nat} {i1 : Int32} {post : Int32 → Hp → Prop} (c : CI g Y P h0 h x D E C L) (a : Cz h L B D W z) (ho : Y o) (ko : hK h0 o = 22) (no : hN h0 o = 1) (hmc : 1 ≤ mc) (hms : 6 ≤ ms)
    (p1 : ∀ (s : Nat) (h' : Hp), s < 50 → i1 = nI s → aSn i1 = s → h' = sJ h o 0 (zG z s) → CI g Y P h0 h' x D E C L → Cz h' L B D W z → post 0 h') (p0 : aSn i1 = 50 → post 1 h) : wp_L_value g post mc ms h x i1 o := by
  have k := c.sk.kx
  obtain ⟨k4, n4⟩ := c.sk.k4
  obtain ⟨u1, u2, -⟩ := c.un o ho
  rcases aSn_c i1 with ⟨s, hs, e2, es⟩ | ⟨es, hn⟩
  · refine ⟨k, Or.inl ?_⟩
    unfold wp_S_value
    have e4 := a.1.1.2.2.2.2.2.2.2 s hs
    rw [e2]
    refine V_seg1 hs ⟨fun _ => ⟨k, D 4, c.sk.f0, k4, by rw [n4]; exact vp_in_nI (by omega) (by omega), u1.trans ko, ?_, fun h5 e5 => ?_⟩, fun q => absurd q (by decide)⟩
    · rw [u2, no]; exact vp_in_nI (n := 0) (by omega) (by omega)
    · rw [nI_clamp (by omega), e4, sb_cl0] at e5
      exact p1 s h5 hs e2 es e5 (by rw [e5]; exact c.wO (u2.trans no)) (by rw [e5]; exact a.wo c ho)
  · refine ⟨k, Or.inr ⟨?_, by omega, by omega, fun _ => p0 es⟩⟩
    unfold wp_S_value_tA
    exact V_seg0 hn ⟨fun q => absurd rfl q, fun _ => trivial⟩
theorem Z_value {g : Gm} {Y : Nat → Prop} {h0 h : Hp} {a n r q : Nat} {i : Int32} {A : Nat → Nat} {z : Zs} {post : Int64 → Hp → Prop} (m : MI Y h0 h a A n r q) (e : MZ h a A z)
    (p1 : ∀ (s : Nat) (h' : Hp), s < 50 → i = nI s → aSn i = s → h' = sI h a 0 0 → MI Y h0 h' a A n r 30 → MZ h' a A z → post (zG z s) h') (p0 : ∀ h' : Hp, aSn i = 50 → h' = sI h a 0 1 → MI Y h0 h' a A n r 30 → MZ h' a A z → post 0 h') : wp_M_value g post h a i := by
  unfold wp_M_value wp_M_value_13 wp_M_value_33
  rcases aSn_c i with ⟨s, hs, e2, es⟩ | ⟨es, hn⟩
  · refine M_isSegment (fun s' es' s1 => ⟨fun c => absurd c (by decide), fun _ => ⟨m.2.1.1, fun h2 eh => ?_⟩⟩) (fun q => absurd e2 (q s hs))
    have m2 : MI Y h0 h2 a A n r q := by rw [eh]; exact m.wF (by decide)
    have z2 : MZ h2 a A z := by rw [eh]; exact e.wF m.2.1 (by decide)
    have c2 : hI h2 a 0 = 0 := by rw [eh, rI_sI, if_pos ⟨rfl, rfl⟩]
    obtain ⟨r1, r2, r3⟩ := m2.2.1.row 1 22 50 (by decide)
    rw [c2]
    refine ⟨m2.2.1.1, fun _ => ⟨m2.2.1.1, A 1, r1, r2, by rw [r3, e2]; exact vp_in_nI (by omega) (by omega), ?_⟩, fun c => absurd (by decide) c⟩
    rw [e2, nI_clamp (by omega), z2.2.2.2.2.2 s hs]
    exact p1 s h2 hs e2 es eh m2.top z2
  · refine M_isSegment (fun s es' hs => absurd es' (hn s hs)) (fun _ => ⟨fun _ => ⟨m.2.1.1, fun h2 eh => ?_⟩, fun c => absurd rfl c⟩)
    have m2 : MI Y h0 h2 a A n r q := by rw [eh]; exact m.wF (by decide)
    have z2 : MZ h2 a A z := by rw [eh]; exact e.wF m.2.1 (by decide)
    have c2 : hI h2 a 0 = 1 := by rw [eh, rI_sI, if_pos ⟨rfl, rfl⟩]
    rw [c2]
    exact ⟨m2.2.1.1, fun c => absurd c (by decide), fun _ => p0 h2 es eh m2.top z2⟩
