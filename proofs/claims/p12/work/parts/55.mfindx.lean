/-! EXACT: the reference's findRing and youngest -/
/-- heaps that agree but for the ring -/
def Rk (a : Nat) (A : Nat → Nat) (hb h : Hp) : Prop := hI h a 2 = hI hb a 2 ∧ (∀ k ∈ [4, 5, 6, 7, 8, 9, 11, 12, 15, 16, 22, 23, 24], hI h (A k) = hI hb (A k)) ∧ hJ h = hJ hb
theorem Rk.w21 {hb h : Hp} {a i : Nat} {v : Int32} {A : Nat → Nat} (m : Mst h a A) (k : Rk a A hb h) : Rk a A hb (sI h (A 21) i v) := by
  obtain ⟨na, nj⟩ := ne_ints m 21 i v (by decide)
  have inM : ∀ k ∈ [4, 5, 6, 7, 8, 9, 11, 12, 15, 16, 22, 23, 24], ∃ t ∈ MA, t.1 = k := by decide
  have nd : ∀ k ∈ [4, 5, 6, 7, 8, 9, 11, 12, 15, 16, 22, 23, 24], k ≠ 21 := by decide
  exact ⟨by rw [na]; exact k.1, fun j hj => by rw [nj j (inM j hj) (nd j hj)]; exact k.2.1 j hj, k.2.2⟩
theorem X_ringW {g : Gm} {Y : Nat → Prop} {h0 hb : Hp} {a n r qq t N : Nat} {A : Nat → Nat} {z : Zs} {q fr : List Nat} {post : Int32 → Hp → Prop} (e : MZ hb a A z) (o : Zo z) (qo : Qo z t q fr) (b : Fx (hI hb (A 23)) (hI hb (A 22)) (hI hb (A 24)) q fr) (hN : N ≤ 31) :
    ∀ (i j d : Nat) (acc : List Nat) (h : Hp), j < q.length → j ≤ d → hI hb (A 23) (q.getD j 0) = nI i → i ≤ 30 → acc.length + i + 1 = N → MI Y h0 h a A n r qq → Rk a A hb h → hI h a 25 = nI N → (∀ y : Nat, y < acc.length → hI h (A 21) (i + 1 + y) = nI (acc.getD y 0)) → (∀ h' : Hp, MI Y h0 h' a A n r qq → MZ h' a A (zRi z (aPt q fr d j acc)) → post 1 h') → wp_M_findRing_109 g post (i + 2) h a (nI (q.getD j 0)) (nI i) := by
  have o1 := o.1
  have inq : ∀ j : Nat, j < q.length → 1 ≤ q.getD j 0 ∧ q.getD j 0 ≤ 30 := fun j hj => by
    have := qo.2.2.1 _ (getD_mem (d := 0) hj)
    omega
  intro i
  induction i with
  | zero =>
    intro j d acc h hj hd hF hi hlen m k h25 hacc hp
    have j0 : j = 0 := by
      rcases Nat.eq_zero_or_pos j with c | c
      · exact c
      · obtain ⟨-, f, c2, c3⟩ := b.2.2.2.1 j c hj
        obtain ⟨fj, -⟩ := qo.2.2.2.2 j c hj
        have hl := qo.len
        obtain ⟨f', f1, f2⟩ := b.2.2.2.2 (fr.getD j 0) (by omega)
        have e1 : nI (f' + 1) = nI 0 := by rw [← nI_1, ← f2, c2, nI_1, ← c3, hF]
        have := (nI_eq (by omega) (by omega)).mp e1
        omega
    subst j0
    obtain ⟨r1, r2, r3⟩ := m.2.1.row 21 21 31 (by decide)
    have w := inq 0 hj
    unfold wp_M_findRing_109
    refine ⟨fun c => absurd c (nI_pos (by omega)), fun _ => ⟨m.2.1.1, A 21, r1, r2, by rw [r3]; exact vp_in_nI (by omega) (by omega), fun h5 e5 => ?_⟩⟩
    rw [nI_clamp (by omega)] at e5
    have m5 : MI Y h0 h5 a A n r qq := by rw [e5]; exact m.wI (k := 21) (kd := 21) (len := 31) (by decide) (by decide)
    obtain ⟨s1, s2, s3⟩ := m5.2.1.row 22 21 31 (by decide)
    refine ⟨m5.2.1.1, A 22, s1, s2, by rw [s3]; exact vp_in_nI (by omega) (by omega), fun x9 e9 => ?_⟩
    have e9 : x9 = -1 := by rw [e9]; rfl
    subst e9
    have k5 : Rk a A hb h5 := by rw [e5]; exact k.w21 m.2.1
    have pt : aPt q fr d 0 acc = q.getD 0 0 :: acc := by
      cases d with
      | zero => rfl
      | succ d => unfold aPt; rw [if_pos rfl]
    unfold wp_M_findRing_109
    refine ⟨fun _ => ⟨Or.inr rfl, hp h5 m5 ?_⟩, fun c => absurd (by decide) c⟩
    rw [pt]
    refine e.ring k5.1 (fun k hk => k5.2.1 k (by revert k; decide)) k5.2.2 ?_ fun y hy => ?_
    · rw [e5, sI_o (m.2.1.na 21 21 31 (by decide)), h25]
      congr 1
      rw [List.length_cons]; omega
    · rw [List.length_cons] at hy
      rw [e5, rI_sI]
      cases y with
      | zero => rw [if_pos ⟨rfl, rfl⟩]; rfl
      | succ y =>
        rw [if_neg (by omega)]
        have := hacc y (by omega)
        rw [show 0 + 1 + y = y + 1 by omega] at this
        exact this
  | succ i ih =>
    intro j d acc h hj hd hF hi hlen m k h25 hacc hp
    have j1 : 1 ≤ j := by
      rcases Nat.eq_zero_or_pos j with c | c
      · rw [c, b.2.2.1] at hF
        have := (nI_eq (by omega) (by omega)).mp hF
        omega
      · exact c
    obtain ⟨c1, f, c2, c3⟩ := b.2.2.2.1 j j1 hj
    obtain ⟨fj, fw⟩ := qo.2.2.2.2 j j1 hj
    have hl := qo.len
    obtain ⟨f', f1, f2⟩ := b.2.2.2.2 (fr.getD j 0) (by omega)
    have ei : hI hb (A 23) (q.getD (fr.getD j 0) 0) = nI i := by
      have e1 : nI (f' + 1) = nI (i + 1) := by rw [← nI_1, ← f2, c2, nI_1, ← c3, hF]
      have := (nI_eq (by omega) (by omega)).mp e1
      rw [f2]; congr 1; omega
    obtain ⟨d, rfl⟩ : ∃ d', d = d' + 1 := ⟨d - 1, by omega⟩
    obtain ⟨r1, r2, r3⟩ := m.2.1.row 21 21 31 (by decide)
    have w := inq j hj
    unfold wp_M_findRing_109
    refine ⟨fun c => absurd c (nI_pos (by omega)), fun _ => ⟨m.2.1.1, A 21, r1, r2, by rw [r3]; exact vp_in_nI (by omega) (by omega), fun h5 e5 => ?_⟩⟩
    rw [nI_clamp (by omega)] at e5
    have m5 : MI Y h0 h5 a A n r qq := by rw [e5]; exact m.wI (k := 21) (kd := 21) (len := 31) (by decide) (by decide)
    have k5 : Rk a A hb h5 := by rw [e5]; exact k.w21 m.2.1
    obtain ⟨s1, s2, s3⟩ := m5.2.1.row 22 21 31 (by decide)
    refine ⟨m5.2.1.1, A 22, s1, s2, by rw [s3]; exact vp_in_nI (by omega) (by omega), fun x9 e9 => ?_⟩
    rw [nI_m1] at e9
    subst e9
    rw [nI_clamp (n := q.getD j 0) (by omega), k5.2.1 22 (by decide), c1]
    have pt : aPt q fr (d + 1) j acc = aPt q fr d (fr.getD j 0) (q.getD j 0 :: acc) := by
      rw [aPt, if_neg (by omega)]
    rw [pt] at hp
    refine ih (fr.getD j 0) d (q.getD j 0 :: acc) h5 (by omega) (by omega) ei (by omega) (by rw [List.length_cons]; omega) m5 k5 ?_ (fun y hy => ?_) hp
    · rw [e5, sI_o (m.2.1.na 21 21 31 (by decide))]; exact h25
    · rw [List.length_cons] at hy
      rw [e5, rI_sI]
      cases y with
      | zero => rw [if_pos ⟨rfl, by omega⟩]; rfl
      | succ y =>
        rw [if_neg (by omega)]
        have := hacc y (by omega)
        rw [show i + 1 + 1 + y = i + 1 + (y + 1) by omega] at this
        exact this
theorem X_findRing {g : Gm} {Y : Nat → Prop} {h0 h : Hp} {a n r qq t : Nat} {A : Nat → Nat} {z : Zs} {post : Int32 → Hp → Prop} (m : MI Y h0 h a A n r qq) (e : MZ h a A z) (o : Zo z) (ht1 : 1 ≤ t) (ht : t ≤ zn z)
    (p0 : aFind z t = none → ∀ h' : Hp, MI Y h0 h' a A n r qq → MZ h' a A z → post 0 h') (p1 : ∀ R : List Nat, aFind z t = some R → ∀ h' : Hp, MI Y h0 h' a A n r qq → MZ h' a A (zRi z R) → post 1 h') : wp_M_findRing g post h a (nI t) := by
  have o1 := o.1
  have d22 : (22, 21, 31) ∈ MA := by decide
  have d23 : (23, 21, 31) ∈ MA := by decide
  have d24 : (24, 21, 31) ∈ MA := by decide
  have inner : ∀ (K39 : Hp → Nat → Int32 → Int32 → Int32 → Prop) (k u : Nat), ∀ (d v : Nat) (q fr : List Nat) (h : Hp), v + d = zn z + 1 → 1 ≤ v → MI Y h0 h a A n r qq → MZ h a A z → Qo z t q fr → Fx (hI h (A 23)) (hI h (A 22)) (hI h (A 24)) q fr → k < q.length → q.getD k 0 = u →
      ((aIn z t k u d v q fr).1 = false → ∀ h' : Hp, MI Y h0 h' a A n r qq → MZ h' a A z → Fx (hI h' (A 23)) (hI h' (A 22)) (hI h' (A 24)) (aIn z t k u d v q fr).2.1 (aIn z t k u d v q fr).2.2 → K39 h' a (nI t) (nI (aIn z t k u d v q fr).2.1.length) (nI (k + 1))) →
      ((aIn z t k u d v q fr).1 = true → ∀ h' : Hp, MI Y h0 h' a A n r qq → MZ h' a A (zRi z (aPt (aIn z t k u d v q fr).2.1 (aIn z t k u d v q fr).2.2 30 k [])) → post 1 h') →
      wp_M_findRing_55 g post K39 (d + 1) h a (nI t) (nI q.length) (nI k) (nI u) (nI v) := by
    intro K39 k u d
    induction d with
    | zero =>
      intro v q fr h ev hv1 m e qo b hk hu hK hT
      have ev : v = zn z + 1 := by omega
      subst ev
      have hl := qo.len
      unfold wp_M_findRing_55
      rw [e.1]
      refine ⟨m.2.1.1, fun _ x3 e3 => ?_, fun c => absurd (nI_lt (by omega) (by omega)) c⟩
      rw [nI_1] at e3
      subst e3
      exact hK rfl h m e b
    | succ d ih =>
      intro v q fr h ev hv1 m e qo b hk hu hK hT
      have hl := qo.len
      have hu' := qo.2.2.1 _ (getD_mem (d := 0) hk)
      rw [hu] at hu'
      obtain ⟨f, f1, f2⟩ := b.2.2.2.2 k hk
      rw [hu] at f2
      obtain ⟨r1, r2, r3⟩ := m.2.1.row 23 21 31 d23
      have m5 := m.2.1.1
      have nx : ∀ (h' : Hp) (q' fr' : List Nat), aIn z t k u (d + 1) v q fr = aIn z t k u d (v + 1) q' fr' → MI Y h0 h' a A n r qq → MZ h' a A z → Qo z t q' fr' → Fx (hI h' (A 23)) (hI h' (A 22)) (hI h' (A 24)) q' fr' → k < q'.length → q'.getD k 0 = u → wp_M_findRing_190 g post K39 (fun h v0 v1 v2 v3 v4 v5 => wp_M_findRing_55 g post K39 (d + 1) h v0 v1 v2 v3 v4 v5) h' a (nI t) (nI q'.length) (nI k) (nI u) (nI v) := fun h' q' fr' ee m' e' qo' b' k' u' => by
        unfold wp_M_findRing_190
        intro x1 e1
        rw [nI_1] at e1
        subst e1
        rw [ee] at hK hT
        exact ih (v + 1) q' fr' h' (by omega) (by omega) m' e' qo' b' k' u' hK hT
      unfold wp_M_findRing_55
      rw [e.1]
      refine ⟨m5, fun c => ?_, fun _ => ⟨m5, X_isBlocked m.2.1 e o hu'.1 hu'.2 hv1 (by omega) ⟨fun cb => ?_, fun cb => ?_⟩⟩⟩
      · have := (nI_ltI (by omega) (by omega)).mp c
        omega
      · have bl : aBl z u v = true := by
          cases y : aBl z u v
          · rw [y] at cb; exact absurd rfl cb
          · rfl
        refine ⟨fun cv => ⟨m5, A 23, r1, r2, by rw [r3]; exact vp_in_nI (by omega) (by omega), fun cf => ?_, fun cf => ?_⟩, fun cv => ?_⟩
        · have cv' : v ≠ t := fun y => cv (by rw [y])
          rw [nI_clamp (by omega)] at cf
          have vq : v ∉ q := (b.2.1 v (by omega)).mp cf
          have ee : aIn z t k u (d + 1) v q fr = aIn z t k u d (v + 1) (q ++ [v]) (fr ++ [k]) := by rw [aIn, if_pos bl, if_neg cv', if_neg vq]
          refine ⟨m5, A 23, r1, m5, A 23, r1, r2, by rw [r3]; exact vp_in_nI (by omega) (by omega), fun x18 e18 => ?_⟩
          rw [nI_clamp (by omega), f2, nI_1] at e18
          subst e18
          refine ⟨r2, by rw [r3]; exact vp_in_nI (by omega) (by omega), fun h20 e20 => ?_⟩
          rw [nI_clamp (by omega)] at e20
          have m20 : MI Y h0 h20 a A n r qq := by rw [e20]; exact m.wI d23 (by decide)
          have z20 : MZ h20 a A z := by rw [e20]; exact e.wO m.2.1 (by decide)
          obtain ⟨s1, s2, s3⟩ := m20.2.1.row 22 21 31 d22
          refine ⟨m20.2.1.1, A 22, s1, s2, by rw [s3]; exact vp_in_nI (by omega) (by omega), fun h24 e24 => ?_⟩
          rw [nI_clamp (by omega)] at e24
          have m24 : MI Y h0 h24 a A n r qq := by rw [e24]; exact m20.wI d22 (by decide)
          have z24 : MZ h24 a A z := by rw [e24]; exact z20.wO m20.2.1 (by decide)
          obtain ⟨y1, y2, y3⟩ := m24.2.1.row 24 21 31 d24
          refine ⟨m24.2.1.1, A 24, y1, y2, by rw [y3]; exact vp_in_nI (by omega) (by omega), fun h28 e28 x29 e29 => ?_⟩
          rw [nI_clamp (by omega)] at e28
          rw [nI_1] at e29
          subst e29
          have m28 : MI Y h0 h28 a A n r qq := by rw [e28]; exact m24.wI d24 (by decide)
          have z28 : MZ h28 a A z := by rw [e28]; exact z24.wO m24.2.1 (by decide)
          have n1 : A 22 ≠ A 23 := m.2.1.ne 22 23 21 31 21 31 d22 d23 (by decide)
          have n2 : A 24 ≠ A 23 := m.2.1.ne 24 23 21 31 21 31 d24 d23 (by decide)
          have n3 : A 24 ≠ A 22 := m.2.1.ne 24 22 21 31 21 31 d24 d22 (by decide)
          have f23 : ∀ j : Nat, hI h28 (A 23) j = if j = v then nI (f + 1) else hI h (A 23) j := fun j => by
            rw [e28, sI_o (fun z => n2 z.symm), e24, sI_o (fun z => n1 z.symm), e20, rI_sI]
            by_cases c : j = v
            · rw [if_pos ⟨rfl, c⟩, if_pos c]
            · rw [if_neg (fun z => c z.2), if_neg c]
          have f22 : ∀ j : Nat, hI h28 (A 22) j = if j = v then nI (q.getD k 0) else hI h (A 22) j := fun j => by
            rw [e28, sI_o (fun z => n3 z.symm), e24, rI_sI, e20, sI_o n1, hu]
            by_cases c : j = v
            · rw [if_pos ⟨rfl, c⟩, if_pos c]
            · rw [if_neg (fun z => c z.2), if_neg c]
          have f24 : ∀ j : Nat, hI h28 (A 24) j = if j = q.length then nI v else hI h (A 24) j := fun j => by
            rw [e28, rI_sI, e24, sI_o n3, e20, sI_o n2]
            by_cases c : j = q.length
            · rw [if_pos ⟨rfl, c⟩, if_pos c]
            · rw [if_neg (fun z => c z.2), if_neg c]
          have qo' := qo.push hk hv1 (by omega) vq (by rw [hu]; exact (aBl_w bl).1)
          have b' := b.push qo (by omega) hk (by rw [hu]; exact f2) f1 (by omega) vq f23 f22 f24
          have r := nx h28 (q ++ [v]) (fr ++ [k]) ee m28 z28 qo' b' (by rw [List.length_append]; omega) (by rw [getD_app_l hk]; exact hu)
          rw [List.length_append] at r
          exact r
        · have cv' : v ≠ t := fun y => cv (by rw [y])
          rw [nI_clamp (by omega)] at cf
          have vq : v ∈ q := by
            by_cases y : v ∈ q
            · exact y
            · exact absurd ((b.2.1 v (by omega)).mpr y) cf
          exact nx h q fr (by rw [aIn, if_pos bl, if_neg cv', if_pos vq]) m e qo b hk hu
        · have cv' : v = t := (nI_eq (by omega) (by omega)).mp cv
          have ee : aIn z t k u (d + 1) v q fr = (true, q, fr) := by rw [aIn, if_pos bl, if_pos cv']
          rw [ee] at hT
          refine ⟨m5, A 23, r1, r2, by rw [r3]; exact vp_in_nI (by omega) (by omega), fun x33 e33 => ⟨m5, fun h35 e35 => ?_⟩⟩
          rw [nI_clamp (by omega), f2, nI_1] at e33
          subst e33
          have m35 : MI Y h0 h35 a A n r qq := by rw [e35]; exact m.w25 (by omega)
          have g25 : hI h35 a 25 = nI (f + 1) := by rw [e35, rI_sI, if_pos ⟨rfl, rfl⟩]
          refine ⟨m35.2.1.1, fun x37 e37 => ⟨f + 2, ?_⟩⟩
          rw [g25, nI_pred] at e37
          subst e37
          have inM : ∀ k ∈ [4, 5, 6, 7, 8, 9, 11, 12, 15, 16, 22, 23, 24], ∃ t ∈ MA, t.1 = k := by decide
          have rk : Rk a A h h35 := by
            refine ⟨by rw [e35, rI_sI, if_neg (by omega)], fun j hj => ?_, by rw [e35]; rfl⟩
            rw [e35]
            obtain ⟨t', t1, t2⟩ := inM j hj
            rw [← t2]
            exact sI_o (fun z => m.2.1.na t'.1 t'.2.1 t'.2.2 t1 z.symm)
          rw [← hu] at f2 ⊢
          exact X_ringW e o qo b (by omega) f k 30 [] h35 hk (by omega) f2 (by omega) (by rw [List.length_nil]; omega) m35 rk g25 (fun y hy => absurd hy (Nat.not_lt_zero y)) (hT rfl)
      · have bl : ¬ aBl z u v = true := fun y => by rw [y] at cb; exact absurd cb (by decide)
        exact nx h q fr (by rw [aIn, if_neg bl]) m e qo b hk hu
  have outer : ∀ (d k : Nat) (q fr : List Nat) (h : Hp), k + d = 30 → MI Y h0 h a A n r qq → MZ h a A z → Qo z t q fr → Fx (hI h (A 23)) (hI h (A 22)) (hI h (A 24)) q fr → k ≤ q.length → aOut z t d k q fr = aFind z t → wp_M_findRing_39 g post (d + 1) h a (nI t) (nI q.length) (nI k) := by
    intro d
    induction d with
    | zero =>
      intro k q fr h ek m e qo b hk ea
      have hl := qo.len
      unfold wp_M_findRing_39
      refine ⟨fun _ => ⟨Or.inl rfl, p0 ea.symm h m e⟩, fun c => absurd (nI_le (by omega) (by omega)) c⟩
    | succ d ih =>
      intro k q fr h ek m e qo b hk ea
      have hl := qo.len
      unfold aOut at ea
      unfold wp_M_findRing_39
      refine ⟨fun c => ⟨Or.inl rfl, p0 ?_ h m e⟩, fun c => ?_⟩
      · have := (nI_leI (by omega) (by omega)).mp c
        rw [if_neg (by omega)] at ea
        exact ea.symm
      · have hlt : k < q.length := by
          rcases Nat.lt_or_ge k q.length with y | y
          · exact y
          · exact absurd (nI_le y (by omega)) c
        rw [if_pos hlt] at ea
        obtain ⟨r1, r2, r3⟩ := m.2.1.row 24 21 31 d24
        obtain ⟨i1, i2, i3, i4⟩ := aIn_Qo (z := z) (t := t) (k := k) (zn z) 1 q fr (Nat.le_refl 1) (by omega) qo hlt rfl
        refine ⟨m.2.1.1, A 24, r1, r2, by rw [r3]; exact vp_in_nI (by omega) (by omega), zn z + 1, ?_⟩
        rw [nI_clamp (n := k) (by omega), b.1 k hlt]
        refine inner _ k (q.getD k 0) (zn z) 1 q fr h (by omega) (Nat.le_refl 1) m e qo b hlt rfl (fun hf h' m' e' b' => ?_) (fun ht' h' m' e' => ?_)
        · rw [if_neg (by rw [hf]; decide)] at ea
          exact ih (k + 1) _ _ h' (by omega) m' e' i1 b' (by omega) ea
        · rw [if_pos ht'] at ea
          exact p1 _ ea.symm h' m' e'
  have init : ∀ (d j : Nat) (h : Hp), j + d = 31 → MI Y h0 h a A n r qq → MZ h a A z → (∀ i : Nat, i < j → hI h (A 23) i = -1) → wp_M_findRing_2 g post (d + 1) h a (nI t) (nI j) := by
    intro d
    induction d with
    | zero =>
      intro j h ej m e hj
      have ej : j = 31 := by omega
      subst ej
      unfold wp_M_findRing_2
      refine ⟨fun _ => ?_, fun c => absurd (by decide) c⟩
      obtain ⟨r1, r2, r3⟩ := m.2.1.row 24 21 31 d24
      refine ⟨m.2.1.1, A 24, r1, r2, by rw [r3]; exact vp_in_nI (n := 0) (by omega) (by omega), fun h5 e5 => ?_⟩
      have m5 : MI Y h0 h5 a A n r qq := by rw [e5]; exact m.wI d24 (by decide)
      have z5 : MZ h5 a A z := by rw [e5]; exact e.wO m.2.1 (by decide)
      obtain ⟨s1, s2, s3⟩ := m5.2.1.row 23 21 31 d23
      refine ⟨m5.2.1.1, A 23, s1, s2, by rw [s3]; exact vp_in_nI (by omega) (by omega), fun h9 e9 => ⟨31, ?_⟩⟩
      rw [nI_clamp (by omega)] at e9
      have m9 : MI Y h0 h9 a A n r qq := by rw [e9]; exact m5.wI d23 (by decide)
      have z9 : MZ h9 a A z := by rw [e9]; exact z5.wO m5.2.1 (by decide)
      have n2 : A 24 ≠ A 23 := m.2.1.ne 24 23 21 31 21 31 d24 d23 (by decide)
      have f23 : ∀ i : Nat, i < 31 → hI h9 (A 23) i = if i = t then 0 else -1 := fun i hi => by
        rw [e9, rI_sI, e5, sI_o (fun z => n2 z.symm)]
        by_cases c : i = t
        · rw [if_pos ⟨rfl, c⟩, if_pos c]
        · rw [if_neg (fun z => c z.2), if_neg c]; exact hj i hi
      have f24 : hI h9 (A 24) 0 = nI t := by rw [e9, sI_o n2, e5, rI_sI, if_pos ⟨rfl, by decide⟩]
      have b9 : Fx (hI h9 (A 23)) (hI h9 (A 22)) (hI h9 (A 24)) [t] [0] := by
        refine ⟨fun k hk => ?_, fun v hv => ?_, by rw [show [t].getD 0 0 = t from rfl, f23 t (by omega), if_pos rfl]; rfl, fun j j1 j2 => ?_, fun j hj' => ?_⟩
        · have : k = 0 := by have : k < 1 := hk; omega
          rw [this]; exact f24
        · rw [f23 v (by omega), List.mem_singleton]
          by_cases c : v = t
          · rw [if_pos c]; exact ⟨fun y => absurd y (by decide), fun y => absurd c y⟩
          · rw [if_neg c]; exact ⟨fun _ => c, fun _ => rfl⟩
        · have : j < 1 := j2
          omega
        · have : j = 0 := by have : j < 1 := hj'; omega
          rw [this]
          exact ⟨0, Nat.le_refl 0, by rw [show [t].getD 0 0 = t from rfl, f23 t (by omega), if_pos rfl]; rfl⟩
      exact outer 30 0 [t] [0] h9 rfl m9 z9 (Qo.start ht1 ht) b9 (by omega) rfl
    | succ d ih =>
      intro j h ej m e hj
      have h30 : (30 : Int32) = nI 30 := rfl
      obtain ⟨r1, r2, r3⟩ := m.2.1.row 23 21 31 d23
      unfold wp_M_findRing_2
      refine ⟨fun c => ?_, fun _ => ⟨m.2.1.1, A 23, r1, r2, by rw [r3]; exact vp_in_nI (by omega) (by omega), fun h13 e13 x14 e14 => ?_⟩⟩
      · rw [h30] at c
        have := (nI_ltI (by omega) (by omega)).mp c
        omega
      · rw [nI_clamp (by omega)] at e13
        rw [nI_1] at e14
        subst e14
        refine ih (j + 1) h13 (by omega) (by rw [e13]; exact m.wI d23 (by decide)) (by rw [e13]; exact e.wO m.2.1 (by decide)) fun i hi => ?_
        rw [e13, rI_sI]
        by_cases c : i = j
        · rw [if_pos ⟨rfl, c⟩]
        · rw [if_neg (fun z => c z.2)]; exact hj i (by omega)
  unfold wp_M_findRing
  exact ⟨32, init 31 0 h rfl m e (fun i hi => absurd hi (Nat.not_lt_zero i))⟩
theorem X_youngest {g : Gm} {h : Hp} {a : Nat} {A : Nat → Nat} {z : Zs} {post : Int32 → Prop} (m : Mst h a A) (e : MZ h a A z) (hn : zn z ≤ 30) (hR : ∀ x ∈ zR z, 1 ≤ x ∧ x ≤ zn z) (hl : (zR z).length ≤ 31) (hp : post (nI (aYg z (zR z) 0))) : wp_M_youngest g post h a := by
  obtain ⟨r1, r2, r3⟩ := m.row 21 21 31 (by decide)
  obtain ⟨u1, u2, u3⟩ := m.row 4 21 31 (by decide)
  have m5 := m.1
  obtain ⟨g1, g2⟩ := e.2.2.2.2.1
  have drop : ∀ k : Nat, k < (zR z).length → (zR z).drop k = (zR z).getD k 0 :: (zR z).drop (k + 1) := fun k hk => by
    rw [List.drop_eq_getElem_cons hk, List.getD_eq_getElem?_getD, List.getElem?_eq_getElem hk]
    rfl
  have loop : ∀ (d k y : Nat), k + d = (zR z).length → (y = 0 ∨ (1 ≤ y ∧ y ≤ zn z)) → aYg z ((zR z).drop k) y = aYg z (zR z) 0 → wp_M_youngest_4 g post (d + 1) h a (nI y) (nI k) := by
    intro d
    induction d with
    | zero =>
      intro k y ek hy ea
      have ek : k = (zR z).length := by omega
      subst ek
      rw [List.drop_length] at ea
      have ea : y = aYg z (zR z) 0 := ea
      unfold wp_M_youngest_4
      rw [g1]
      refine ⟨m5, fun _ => by rw [ea]; exact hp, fun c => absurd (nI_le (Nat.le_refl _) (by omega)) c⟩
    | succ d ih =>
      intro k y ek hy ea
      have hk : k < (zR z).length := by omega
      have hv := hR _ (getD_mem (d := 0) hk)
      rw [drop k hk] at ea
      have e21 := g2 k hk
      have e4v : hI h (A 4) ((zR z).getD k 0) = zI z 7 ((zR z).getD k 0) 0 := (e.2.2.1 _ hv.1 (by omega)).2.2.2.2 hv.2
      have nx : ∀ y' : Nat, (y' = 0 ∨ (1 ≤ y' ∧ y' ≤ zn z)) → (if y = 0 ∨ zI z 7 y 0 < zI z 7 ((zR z).getD k 0) 0 ∨ (zI z 7 ((zR z).getD k 0) 0 = zI z 7 y 0 ∧ y < (zR z).getD k 0) then (zR z).getD k 0 else y) = y' → ∀ x1 : Int32, x1 = nI k + 1 → wp_M_youngest_4 g post (d + 1) h a (nI y') x1 := fun y' hy' ey x1 e1 => by
        rw [nI_1] at e1
        subst e1
        refine ih (k + 1) y' (by omega) hy' ?_
        rw [← ea, ← ey]
        rfl
      have q66 : (y = 0 ∨ zI z 7 y 0 < zI z 7 ((zR z).getD k 0) 0 ∨ (zI z 7 ((zR z).getD k 0) 0 = zI z 7 y 0 ∧ y < (zR z).getD k 0)) → wp_M_youngest_66 g post (fun h v0 v1 v2 => wp_M_youngest_4 g post (d + 1) h v0 v1 v2) h a (nI k) := fun c => by
        unfold wp_M_youngest_66 wp_M_youngest_76
        refine ⟨m5, A 21, r1, r2, by rw [r3]; exact vp_in_nI (by omega) (by omega), ?_⟩
        rw [nI_clamp (by omega), e21]
        exact nx _ (Or.inr hv) (if_pos c)
      have q75 : ¬ (y = 0 ∨ zI z 7 y 0 < zI z 7 ((zR z).getD k 0) 0 ∨ (zI z 7 ((zR z).getD k 0) 0 = zI z 7 y 0 ∧ y < (zR z).getD k 0)) → wp_M_youngest_75 g post (fun h v0 v1 v2 => wp_M_youngest_4 g post (d + 1) h v0 v1 v2) h a (nI y) (nI k) := fun c => by
        unfold wp_M_youngest_75 wp_M_youngest_76
        exact nx y hy (if_neg c)
      have hy30 : y ≤ 30 := by omega
      unfold wp_M_youngest_4
      rw [g1]
      refine ⟨m5, fun c => ?_, fun _ => ⟨fun c => q66 (Or.inl ((nI_eq (b := 0) (by omega) (by omega)).mp c)), fun cy => ?_⟩⟩
      · have := (nI_leI (by omega) (by omega)).mp c
        omega
      · have hy0 : ¬ y = 0 := fun q => cy (by rw [q]; rfl)
        have e4y : hI h (A 4) y = zI z 7 y 0 := (e.2.2.1 y (by omega) (by omega)).2.2.2.2 (by omega)
        have i1 : vp_in (nI k) (hN h (A 21)) := by rw [r3]; exact vp_in_nI (by omega) (by omega)
        have i2 : vp_in (nI y) (hN h (A 4)) := by rw [u3]; exact vp_in_nI (by omega) (by omega)
        have ek' : (nI k).toNatClampNeg = k := nI_clamp (by omega)
        have ev' : (nI ((zR z).getD k 0)).toNatClampNeg = (zR z).getD k 0 := nI_clamp (by omega)
        have ey' : (nI y).toNatClampNeg = y := nI_clamp (by omega)
        have i3 : vp_in (nI ((zR z).getD k 0)) (hN h (A 4)) := by rw [u3]; exact vp_in_nI (by omega) (by omega)
        refine ⟨m5, A 4, u1, m5, A 21, r1, r2, i1, u2, ?_⟩
        rw [ek', e21, ev', e4v, ey']
        refine ⟨i3, m5, A 4, u1, u2, i2, ?_⟩
        rw [e4y]
        refine ⟨fun c => q66 (Or.inr (Or.inl c)), fun c1 => ⟨m5, A 4, u1, m5, A 21, r1, r2, i1, u2, ?_⟩⟩
        rw [e21]
        refine ⟨i3, m5, A 4, u1, u2, i2, ?_⟩
        rw [ev', e4v, e4y]
        refine ⟨fun c2 => q75 (fun q => ?_), fun c2 => ⟨m5, A 21, r1, r2, i1, ?_⟩⟩
        · rcases q with q | q | q
          · exact hy0 q
          · exact c1 q
          · exact c2 q.1
        · rw [e21]
          refine ⟨fun c3 => q75 (fun q => ?_), fun c3 => q66 (Or.inr (Or.inr ⟨c2, ?_⟩))⟩
          · have := (nI_leI (by omega) (by omega)).mp c3
            rcases q with q | q | q
            · exact hy0 q
            · exact c1 q
            · have := q.2; omega
          · rcases Nat.lt_or_ge y ((zR z).getD k 0) with q | q
            · exact q
            · exact absurd (nI_le q (by omega)) c3
  unfold wp_M_youngest
  exact ⟨(zR z).length + 1, loop _ 0 0 (by omega) (Or.inl rfl) rfl⟩
