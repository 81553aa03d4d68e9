/-! EXACT: the reference's isBlocked, findRing, youngest -/
theorem bI_true {b : Bool} (h : b = true) : bI b = 1 := by rw [h]; rfl
theorem bI_false {b : Bool} (h : ¬ b = true) : bI b = 0 := by
  cases b
  · rfl
  · exact absurd rfl h
/-- where task t stands in its line -/
theorem Zo.place {z : Zs} (o : Zo z) {t s : Nat} (hs : s < 50) (t1 : 1 ≤ t) (t2 : t ≤ zn z) (hw : zI z 4 t 0 = nI s) : ∃ k : Nat, k < (zQ z s).length ∧ (zQ z s).getD k 0 = t := by
  obtain ⟨k, hk, e⟩ := List.getElem_of_mem ((o.2.2.2.1 s t hs).mpr ⟨t1, t2, hw⟩)
  exact ⟨k, hk, by rw [List.getD_eq_getElem?_getD, List.getElem?_eq_getElem hk]; exact e⟩
theorem X_placeOf {g : Gm} {h : Hp} {a t s k : Nat} {A : Nat → Nat} {z : Zs} {post : Int32 → Prop} (m : Mst h a A) (e : MZ h a A z) (o : Zo z) (hs : s < 50) (t1 : 1 ≤ t) (t2 : t ≤ zn z) (hw : zI z 4 t 0 = nI s) (hk : k < (zQ z s).length) (hkt : (zQ z s).getD k 0 = t) (hp : post (nI k)) : wp_M_placeOf g post h a (nI t) := by
  have o1 := o.1
  have hl := o.len hs
  obtain ⟨c1, c2⟩ := e.2.2.2.1 s hs
  refine M_placeOf (n := (zQ z s).length) (p := k) m (by omega) hs ((e.2.2.1 t t1 (by omega)).2.1.trans hw) (by omega) c1 hk (fun j hj => ⟨fun y => ?_, fun y => by rw [y, c2 k hk, hkt]⟩) hp
  rw [c2 j hj] at y
  have hm := (o.2.2.2.1 s _ hs).mp (getD_mem (d := 0) hj)
  have e1 := (nI_eq (by omega) (by omega)).mp y
  exact nodup_getD (o.2.2.1 s hs) hj hk (e1.trans hkt.symm)
theorem aSg_eq {z : Zs} {u s : Nat} (hs : s < 50) (h : zI z 4 u 0 = nI s) : aSg z u = s := by
  unfold aSg
  rw [h, nI_clamp (by omega)]
theorem X_isBlocked {g : Gm} {h : Hp} {a u v : Nat} {A : Nat → Nat} {z : Zs} {post : Int32 → Prop} (m : Mst h a A) (e : MZ h a A z) (o : Zo z) (u1 : 1 ≤ u) (u2 : u ≤ zn z) (v1 : 1 ≤ v) (v2 : v ≤ zn z) (hp : post (bI (aBl z u v))) : wp_M_isBlocked g post h a (nI u) (nI v) := by
  have o1 := o.1
  obtain ⟨r1, r2, r3⟩ := m.row 7 21 31 (by decide)
  obtain ⟨w1, w2, w3⟩ := m.row 9 21 1550 (by decide)
  obtain ⟨x1, x2, x3⟩ := m.row 8 21 31 (by decide)
  have m5 := m.1
  have e7u := (e.2.2.1 u u1 (by omega)).2.1
  have e7v := (e.2.2.1 v v1 (by omega)).2.1
  unfold wp_M_isBlocked
  refine ⟨m5, A 7, r1, r2, by rw [r3]; exact vp_in_nI (by omega) (by omega), ?_⟩
  rw [nI_clamp (n := u) (by omega), e7u]
  refine ⟨fun c => ⟨Or.inl rfl, ?_⟩, fun c => ?_⟩
  · rw [bI_false (fun q => (aBl_w q).1 c)] at hp; exact hp
  obtain ⟨s, hs, hw⟩ : ∃ s : Nat, s < 50 ∧ zI z 4 u 0 = nI s := by
    rcases o.2.2.2.2.1 u u1 (by omega) with q | q
    · exact absurd q c
    · exact q
  have sg := aSg_eq hs hw
  have e8 : hI h (A 8) u = zI z 5 u 0 := (e.2.2.1 u u1 (by omega)).2.2.1 c
  have e9 : hI h (A 9) (50 * v + s) = zI z 0 v s := (e.2.1 v s v1 (by omega) hs).1
  refine ⟨fun cv => ?_, fun cv => ⟨Or.inl rfl, ?_⟩⟩
  · have nvu : v ≠ u := fun q => cv (by rw [q])
    have bl : aBl z u v = (decide (v ∈ aAh z s u) || (decide (¬ zI z 0 v s = -1) && decide (2 ≤ zI z 0 v s + zI z 5 u 0))) := by
      unfold aBl
      rw [sg, decide_eq_true nvu, decide_eq_true c, Bool.true_and, Bool.true_and]
    have q47 : ∀ s0 : Int32, (s0 = 0 → ¬ v ∈ aAh z s u) → (¬ s0 = 0 → v ∈ aAh z s u) → wp_M_isBlocked_47 g post h a (nI u) (nI v) (nI s) s0 := fun s0 h0 h1 => by
      unfold wp_M_isBlocked_47 wp_M_isBlocked_90 wp_M_isBlocked_94 wp_M_isBlocked_95
      refine ⟨fun y => ⟨Or.inr rfl, ?_⟩, fun y => ⟨m5, A 9, w1, M_of ⟨w2, by rw [w3]; exact vp_in_nI (by omega) (by omega), ?_⟩⟩⟩
      · rw [bI_true (by rw [bl, decide_eq_true (h1 y), Bool.true_or])] at hp; exact hp
      · have bl2 : aBl z u v = (decide (¬ zI z 0 v s = -1) && decide (2 ≤ zI z 0 v s + zI z 5 u 0)) := by rw [bl, decide_eq_false (h0 y), Bool.false_or]
        rw [nI_clamp (n := 50 * v + s) (by omega), e9]
        refine ⟨fun y1 => ⟨Or.inl rfl, ?_⟩, fun y1 => ⟨m5, A 9, w1, M_of ⟨w2, by rw [w3]; exact vp_in_nI (by omega) (by omega), m5, A 8, x1, x2, by rw [x3]; exact vp_in_nI (by omega) (by omega), ?_⟩⟩⟩
        · rw [bI_false (by rw [bl2, decide_eq_false (fun q => q y1)]; simp)] at hp; exact hp
        · rw [nI_clamp (n := 50 * v + s) (by omega), nI_clamp (n := u) (by omega), e9, e8]
          refine M_areTogether (fun y2 => ⟨fun q => absurd rfl q, fun _ => ⟨Or.inr rfl, ?_⟩⟩) (fun y2 => ⟨fun _ => ⟨Or.inl rfl, ?_⟩, fun q => absurd q (by decide)⟩)
          · rw [bI_true (by rw [bl2, decide_eq_true y1, decide_eq_true y2]; rfl)] at hp; exact hp
          · rw [bI_false (by rw [bl2, decide_eq_false y2]; simp)] at hp; exact hp
    obtain ⟨ku, ku1, ku2⟩ := o.place hs u1 u2 hw
    have tw : aAh z s u = (zQ z s).take ku := takeWhile_at (o.2.2.1 s hs) ku1 ku2
    refine ⟨m5, A 7, r1, r2, by rw [r3]; exact vp_in_nI (by omega) (by omega), ?_⟩
    rw [nI_clamp (n := v) (by omega), e7v, hw]
    refine ⟨fun cw => q47 0 (fun _ q => ?_) (fun q => absurd rfl q), fun cw => ⟨m5, ?_⟩⟩
    · rw [tw] at q
      exact cw ((o.2.2.2.1 s v hs).mp (List.mem_of_mem_take q)).2.2
    · obtain ⟨kv, kv1, kv2⟩ := o.place hs v1 v2 cw
      have hl := o.len hs
      refine X_placeOf m e o hs v1 v2 cw kv1 kv2 ⟨m5, X_placeOf m e o hs u1 u2 hw ku1 ku2 ⟨fun y => q47 0 (fun _ q => ?_) (fun q => absurd rfl q), fun y => q47 1 (fun q => absurd q (by decide)) (fun _ => ?_)⟩⟩
      · have hle := (nI_leI (by omega) (by omega)).mp y
        rw [tw, mem_take] at q
        obtain ⟨j, j1, j2, j3⟩ := q
        have := nodup_getD (o.2.2.1 s hs) j2 kv1 (j3.trans kv2.symm)
        omega
      · rw [tw, mem_take]
        refine ⟨kv, ?_, kv1, kv2⟩
        rcases Nat.lt_or_ge kv ku with q | q
        · exact q
        · exact absurd (nI_le q (by omega)) y
  · have evu : v = u := (nI_eq (by omega) (by omega)).mp cv
    rw [bI_false (fun q => (aBl_w q).2 evu)] at hp; exact hp
/-- another ring -/
def zRi (z : Zs) (R : List Nat) : Zs := (z.1, z.2.1, R, z.2.2.2)
theorem MZ.ring {h h' : Hp} {a : Nat} {A : Nat → Nat} {z : Zs} {R : List Nat} (e : MZ h a A z) (ha : hI h' a 2 = hI h a 2) (hi : ∀ k ∈ [4, 5, 6, 7, 8, 9, 11, 12, 15, 16], hI h' (A k) = hI h (A k)) (hj : hJ h' = hJ h) (h25 : hI h' a 25 = nI R.length) (h21 : ∀ k : Nat, k < R.length → hI h' (A 21) k = nI (R.getD k 0)) : MZ h' a A (zRi z R) := by
  obtain ⟨e1, e2, e3, e4, e5, e6⟩ := e
  have i4 := hi 4 (by decide)
  have i5 := hi 5 (by decide)
  have i6 := hi 6 (by decide)
  have i7 := hi 7 (by decide)
  have i8 := hi 8 (by decide)
  have i9 := hi 9 (by decide)
  have i11 := hi 11 (by decide)
  have i12 := hi 12 (by decide)
  have i15 := hi 15 (by decide)
  have i16 := hi 16 (by decide)
  exact ⟨ha.trans e1, by rw [i9, i11, i12, hj]; exact e2, by rw [i5, i7, i8, i6, i4]; exact e3, by rw [i15, i16]; exact e4, ⟨h25, h21⟩, by rw [hj]; exact e6⟩
/-- far, came and queue of the reference hold those reached -/
def Fx (F C Q : Nat → Int32) (q fr : List Nat) : Prop := (∀ k : Nat, k < q.length → Q k = nI (q.getD k 0)) ∧ (∀ v : Nat, v ≤ 30 → (F v = -1 ↔ v ∉ q)) ∧ F (q.getD 0 0) = nI 0 ∧ (∀ j : Nat, 1 ≤ j → j < q.length → C (q.getD j 0) = nI (q.getD (fr.getD j 0) 0) ∧ ∃ f : Nat, F (q.getD (fr.getD j 0) 0) = nI f ∧ F (q.getD j 0) = nI (f + 1)) ∧ (∀ j : Nat, j < q.length → ∃ f : Nat, f ≤ j ∧ F (q.getD j 0) = nI f)
theorem Fx.push {z : Zs} {t k v f : Nat} {F C Q F' C' Q' : Nat → Int32} {q fr : List Nat} (b : Fx F C Q q fr) (h : Qo z t q fr) (hn : zn z ≤ 30) (hk : k < q.length) (hF : F (q.getD k 0) = nI f) (hfk : f ≤ k) (hv : v ≤ 30) (hvq : v ∉ q)
    (eF : ∀ j : Nat, F' j = if j = v then nI (f + 1) else F j) (eC : ∀ j : Nat, C' j = if j = v then nI (q.getD k 0) else C j) (eQ : ∀ j : Nat, Q' j = if j = q.length then nI v else Q j) : Fx F' C' Q' (q ++ [v]) (fr ++ [k]) := by
  obtain ⟨b1, b2, b3, b4, b5⟩ := b
  have h1 := h.1
  have ne : ∀ j : Nat, j < q.length → q.getD j 0 ≠ v := fun j hj e => hvq (by rw [← e]; exact getD_mem hj)
  have oF : ∀ j : Nat, j < q.length → F' (q.getD j 0) = F (q.getD j 0) := fun j hj => by rw [eF, if_neg (ne j hj)]
  have gl : ∀ j : Nat, j < q.length → (q ++ [v]).getD j 0 = q.getD j 0 := fun j hj => getD_app_l hj
  have gr : (q ++ [v]).getD q.length 0 = v := getD_app_r
  have fl : ∀ j : Nat, j < q.length → (fr ++ [k]).getD j 0 = fr.getD j 0 := fun j hj => getD_app_l (by omega)
  have fr' : (fr ++ [k]).getD q.length 0 = k := by rw [← h1]; exact getD_app_r
  have len : (q ++ [v]).length = q.length + 1 := by rw [List.length_append]; rfl
  obtain ⟨p0, p1⟩ := h.2.2.2.1
  refine ⟨fun j hj => ?_, fun u hu => ?_, by rw [gl 0 p0, oF 0 p0]; exact b3, fun j j1 hj => ?_, fun j hj => ?_⟩
  · rw [len] at hj
    rw [eQ]
    by_cases c : j = q.length
    · rw [if_pos c, c, gr]
    · rw [if_neg c, gl j (by omega)]; exact b1 j (by omega)
  · rw [eF, List.mem_append, List.mem_singleton]
    by_cases c : u = v
    · rw [if_pos c]
      exact ⟨fun y => absurd y (nI_nm1 (by have := h.len; omega)), fun y => absurd (Or.inr c) y⟩
    · rw [if_neg c, b2 u hu]
      exact ⟨fun y y' => by rcases y' with y' | y'; exact y y'; exact c y', fun y y' => y (Or.inl y')⟩
  · rw [len] at hj
    by_cases c : j = q.length
    · rw [c, gr, fr', gl k hk, eC, if_pos rfl, eF v, if_pos rfl, oF k hk]
      exact ⟨rfl, f, hF, rfl⟩
    · have hj' : j < q.length := by omega
      obtain ⟨c1, f', c2, c3⟩ := b4 j j1 hj'
      have fj := (h.2.2.2.2 j j1 hj').1
      rw [gl j hj', fl j hj', gl _ (by omega), eC, if_neg (ne j hj'), oF j hj', oF _ (by omega)]
      exact ⟨c1, f', c2, c3⟩
  · rw [len] at hj
    by_cases c : j = q.length
    · rw [c, gr, eF, if_pos rfl]
      exact ⟨f + 1, by omega, rfl⟩
    · rw [gl j (by omega), oF j (by omega)]; exact b5 j (by omega)
