/-! PURE: the reference's arrays, its smallest methods -/
/-- field, kind, length -/
def MA : List (Nat × Nat × Nat) := [(1, 22, 50), (4, 21, 31), (5, 21, 31), (6, 21, 31), (7, 21, 31), (8, 21, 31), (9, 21, 1550), (10, 21, 1550), (11, 23, 1550), (12, 23, 1550), (13, 22, 1550), (15, 21, 1550), (16, 21, 50), (17, 21, 2000), (18, 21, 2000), (19, 22, 2000), (21, 21, 31), (22, 21, 31), (23, 21, 31), (24, 21, 31)]
/-- the reference at a, its array of field k at A k -/
def Mst (h : Hp) (a : Nat) (A : Nat → Nat) : Prop := hK h a = 5 ∧ (∀ t ∈ MA, hR h a t.1 = some (A t.1) ∧ hK h (A t.1) = t.2.1 ∧ hN h (A t.1) = t.2.2) ∧ (∀ t ∈ MA, ∀ t' ∈ MA, t.1 ≠ t'.1 → A t.1 ≠ A t'.1)
theorem Mst.sI {h : Hp} {a b k : Nat} {v : Int32} {A : Nat → Nat} (m : Mst h a A) : Mst (sI h b k v) a A := m
theorem Mst.sJ {h : Hp} {a b k : Nat} {v : Int64} {A : Nat → Nat} (m : Mst h a A) : Mst (sJ h b k v) a A := m
theorem Mst.row {h : Hp} {a : Nat} {A : Nat → Nat} (m : Mst h a A) (k kd n : Nat) (hk : (k, kd, n) ∈ MA) : hR h a k = some (A k) ∧ hK h (A k) = kd ∧ hN h (A k) = n := m.2.1 (k, kd, n) hk
theorem Mst.ne {h : Hp} {a : Nat} {A : Nat → Nat} (m : Mst h a A) (k k' kd n kd' n' : Nat) (hk : (k, kd, n) ∈ MA) (hk' : (k', kd', n') ∈ MA) (d : k ≠ k') : A k ≠ A k' := m.2.2 (k, kd, n) hk (k', kd', n') hk' d
theorem Mst.kept {h h' : Hp} {S : Nat → Prop} {a : Nat} {A : Nat → Nat} (m : Mst h a A) (hf : Fr S h h') (ha : ¬ S a) : Mst h' a A := by
  obtain ⟨m1, m2, m3⟩ := m
  obtain ⟨k1, k2, k3⟩ := hf a (by rw [m1]; decide)
  have kz : ∀ t ∈ MA, t.2.1 ≠ 0 := by decide
  refine ⟨k1.trans m1, fun t ht => ?_, m3⟩
  obtain ⟨z1, z2, z3⟩ := m2 t ht
  obtain ⟨y1, y2, -⟩ := hf (A t.1) (by rw [z2]; exact kz t ht)
  exact ⟨by rw [(k3 ha).2.2]; exact z1, y1.trans z2, y2.trans z3⟩
theorem nI_back {i : Int32} (h : ¬ i < 0) : ∃ t : Nat, i = nI t ∧ t < 2 ^ 31 := by
  have h0 : 0 ≤ i.toInt := by
    rw [Int32.lt_iff_toInt_lt, Int32.toInt_zero] at h; omega
  have h1 : i.toInt < 2 ^ 31 := Int32.toInt_lt i
  refine ⟨i.toInt.toNat, ?_, by omega⟩
  rw [← Int32.toInt_inj, nI_toInt (by omega)]
  omega
theorem nI_upto {i : Int32} {n : Nat} (h : ¬ i < 0) (hn : n < 2 ^ 31) (h2 : ¬ nI n < i) : ∃ t : Nat, i = nI t ∧ t ≤ n := by
  obtain ⟨t, rfl, ht⟩ := nI_back h
  refine ⟨t, rfl, ?_⟩
  rcases Nat.lt_or_ge n t with q | q
  · exact absurd (nI_lt q ht) h2
  · exact q
theorem M_isTask {g : Gm} {h : Hp} {a n : Nat} {i : Int32} {post : Int32 → Prop} (h5 : hK h a = 5) (hn : hI h a 2 = nI n) (hn2 : n ≤ 30)
    (p1 : ∀ t : Nat, i = nI t → 1 ≤ t → t ≤ n → post 1) (p0 : (∀ t : Nat, 1 ≤ t → t ≤ n → i ≠ nI t) → post 0) : wp_M_isTask g post h a i := by
  have hz : (0 : Int32) = nI 0 := rfl
  unfold wp_M_isTask wp_M_isTask_16 wp_M_isTask_17
  refine ⟨fun c => ⟨Or.inl rfl, p0 fun t t1 t2 e => ?_⟩, fun c => ⟨h5, fun d => ⟨Or.inl rfl, p0 fun t t1 t2 e => ?_⟩, fun d => ⟨Or.inr rfl, ?_⟩⟩⟩
  · rw [e, hz] at c
    have := (nI_leI (by omega) (by omega)).mp c
    omega
  · rw [e, hn] at d
    exact nI_nlt t2 (by omega) d
  · rw [hn] at d
    obtain ⟨t, e, ht⟩ := nI_upto (fun q => c (Int32.le_of_lt q)) (by omega) d
    refine p1 t e ?_ ht
    rcases Nat.lt_or_ge t 1 with q | q
    · exact absurd (by rw [e, show t = 0 by omega]; decide) c
    · exact q
theorem M_isSegment {g : Gm} {h : Hp} {i : Int32} {post : Int32 → Prop}
    (p1 : ∀ t : Nat, i = nI t → t < 50 → post 1) (p0 : (∀ t : Nat, t < 50 → i ≠ nI t) → post 0) : wp_M_isSegment g post h i := by
  unfold wp_M_isSegment wp_M_isSegment_14 wp_M_isSegment_15
  have h50 : (50 : Int32) = nI 50 := rfl
  refine ⟨fun c => ⟨Or.inl rfl, p0 fun t t1 e => ?_⟩, fun c => ⟨fun d => ⟨Or.inl rfl, p0 fun t t1 e => ?_⟩, fun d => ⟨Or.inr rfl, ?_⟩⟩⟩
  · rw [e] at c
    exact nI_pos (by omega) c
  · rw [e, h50] at d
    have := (nI_leI (by omega) (by omega)).mp d
    omega
  · obtain ⟨t, e, ht⟩ := nI_back c
    refine p1 t e ?_
    rcases Nat.lt_or_ge t 50 with q | q
    · exact q
    · exact absurd (by rw [e, h50]; exact nI_le q ht) d
theorem nI_mul (a b : Nat) : nI a * nI b = nI (a * b) := by
  unfold nI
  rw [Int32.ofNat_mul]
theorem M_of {g : Gm} {h : Hp} {t s : Nat} {post : Int32 → Prop} (hp : post (nI (50 * t + s))) : wp_M_of g post h (nI t) (nI s) := by
  unfold wp_M_of
  intro x1 e1 x2 e2
  have e1 : x1 = nI (50 * t) := e1.trans (nI_mul 50 t)
  rw [e1, nI_add] at e2
  rw [e2]
  exact hp
theorem M_areTogether {g : Gm} {h : Hp} {x y : Int32} {post : Int32 → Prop} (p0 : 2 ≤ x + y → post 0) (p1 : ¬ 2 ≤ x + y → post 1) : wp_M_areTogether g post h x y := by
  unfold wp_M_areTogether wp_M_areTogether_12
  intro x1 e1
  subst e1
  exact ⟨fun c => ⟨Or.inl rfl, p0 c⟩, fun c => ⟨Or.inr rfl, p1 c⟩⟩
/-- task: the count is up by one, the option is set; nothing but the reference's cells changes -/
theorem M_task {g : Gm} {h : Hp} {a n : Nat} {i : Int32} {A : Nat → Nat} {post : Int32 → Hp → Prop} (m : Mst h a A) (hn : hI h a 2 = nI n) (hn2 : n ≤ 30)
    (p1 : n < 30 → post (nI (n + 1)) (sI (sI (sI h a 0 0) a 2 (nI (n + 1))) (A 4) (n + 1) i)) (p0 : n = 30 → post (-1) (sI h a 0 0)) : wp_M_task g post h a i := by
  have h30 : (30 : Int32) = nI 30 := rfl
  have h5 := m.1
  obtain ⟨r1, r2, r3⟩ := m.row 4 21 31 (by decide)
  have hne : a ≠ A 4 := fun q => by rw [← q, h5] at r2; exact absurd r2 (by decide)
  unfold wp_M_task
  refine ⟨h5, fun h2 e2 => ?_⟩
  have e22 : hI h2 a 2 = nI n := by rw [e2, rI_sI, if_neg (by omega)]; exact hn
  have k2 : hK h2 = hK h := by rw [e2]; rfl
  rw [e22]
  refine ⟨by rw [k2]; exact h5, fun c => ⟨by rw [k2]; exact h5, fun x6 e6 => ?_⟩, fun c => ?_⟩
  · have hlt : n < 30 := by
      rcases Nat.lt_or_ge n 30 with q | q
      · exact q
      · exact absurd (by rw [h30, show n = 30 by omega]) c
    rw [nI_1] at e6
    subst e6
    refine ⟨by rw [k2]; exact h5, fun h8 e8 => ?_⟩
    have e82 : hI h8 a 2 = nI (n + 1) := by rw [e8, rI_sI, if_pos ⟨rfl, rfl⟩]
    have k8 : hK h8 = hK h := by rw [e8, kK_sI, k2]
    have n8 : hN h8 = hN h := by rw [e8, kN_sI, e2, kN_sI]
    have q8 : hR h8 = hR h := by rw [e8, kR_sI, e2, kR_sI]
    rw [e82]
    refine ⟨by rw [k8]; exact h5, A 4, by rw [q8]; exact r1, by rw [k8]; exact h5, by rw [k8]; exact r2, by rw [n8, r3]; exact vp_in_nI (by omega) (by omega), fun h13 e13 => ?_⟩
    rw [nI_clamp (by omega)] at e13
    have e132 : hI h13 a 2 = nI (n + 1) := by rw [e13, rI_sI, if_neg (fun q => hne q.1)]; exact e82
    rw [e132]
    refine ⟨by rw [e13, kK_sI, k8]; exact h5, ?_⟩
    rw [e13, e8, e2]
    exact p1 hlt
  · have hq : n = 30 := (nI_eq (by omega) (by omega)).mp (c.trans h30)
    rw [e2]
    exact p0 hq
