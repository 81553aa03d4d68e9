/-! PURE: what the reference keeps to, weak: enough that no call of it goes wrong -/
/-- kinds, lengths, references are as before, and the ints of cells outside Y -/
def Lt (Y : Nat → Prop) (h h' : Hp) : Prop := hK h' = hK h ∧ hN h' = hN h ∧ hR h' = hR h ∧ (∀ b : Nat, ¬ Y b → hI h' b = hI h b ∧ hJ h' b = hJ h b)
theorem Lt.rf {Y : Nat → Prop} (h : Hp) : Lt Y h h := ⟨rfl, rfl, rfl, fun _ _ => ⟨rfl, rfl⟩⟩
theorem sI_o {h : Hp} {c i b : Nat} {v : Int32} (e : b ≠ c) : hI (sI h c i v) b = hI h b := by
  funext j
  rw [rI_sI, if_neg (fun z => e z.1)]
theorem Lt.sI {Y : Nat → Prop} {h0 h : Hp} {c i : Nat} {v : Int32} (l : Lt Y h0 h) (hc : Y c) : Lt Y h0 (sI h c i v) :=
  ⟨l.1, l.2.1, l.2.2.1, fun b hb => ⟨(sI_o (b := b) (c := c) (fun z => hb (z.symm ▸ hc))).trans (l.2.2.2 b hb).1, (l.2.2.2 b hb).2⟩⟩
def Rd (h : Hp) (a : Nat) (A : Nat → Nat) (r : Nat) : Prop := ∃ z : Nat, z ≤ r ∧ hI h a 20 = nI z ∧ ∀ k : Nat, k < z → ∃ s : Nat, s < 50 ∧ hI h (A 18) k = nI s
/-- the ring's length, and the limit as in h0 -/
def Rg (h0 h : Hp) (a : Nat) : Prop := ∃ z : Nat, z ≤ 31 ∧ hI h a 25 = nI z ∧ hI h a 3 = hI h0 a 3
/-- n tasks, at most r reads, at most q that wait -/
def MI (Y : Nat → Prop) (h0 h : Hp) (a : Nat) (A : Nat → Nat) (n r q : Nat) : Prop :=
  Lt Y h0 h ∧ Mst h a A ∧ (Y a ∧ ∀ t ∈ MA, Y (A t.1)) ∧ hI h a 2 = nI n ∧ n ≤ 30 ∧ Li (hI h (A 7)) (hI h (A 16)) (hI h (A 15)) ∧ wn (hI h (A 7)) ≤ q ∧ (∀ t : Nat, t ≤ 30 → ¬ hI h (A 7) t = -1 → ¬ hI h (A 5) t = 0) ∧ Rd h a A r ∧ Rg h0 h a
theorem Mst.na {h : Hp} {a : Nat} {A : Nat → Nat} (m : Mst h a A) (k kd n : Nat) (hk : (k, kd, n) ∈ MA) : a ≠ A k := fun z => by
  have h1 := (m.row k kd n hk).2.1
  rw [← z, m.1] at h1
  have : ∀ t ∈ MA, 5 ≠ t.2.1 := by decide
  exact this _ hk h1
theorem MI.mono {Y : Nat → Prop} {h0 h : Hp} {a n r q q' : Nat} {A : Nat → Nat} (m : MI Y h0 h a A n r q) (hq : q ≤ q') : MI Y h0 h a A n r q' := by
  obtain ⟨m1, m2, m3, m4, m5, m6, m7, m8, m9, m10⟩ := m
  exact ⟨m1, m2, m3, m4, m5, m6, Nat.le_trans m7 hq, m8, m9, m10⟩
theorem MI.wI {Y : Nat → Prop} {h0 h : Hp} {a n r q k kd len i : Nat} {v : Int32} {A : Nat → Nat} (m : MI Y h0 h a A n r q) (hk : (k, kd, len) ∈ MA) (hf : k ≠ 5 ∧ k ≠ 7 ∧ k ≠ 15 ∧ k ≠ 16 ∧ k ≠ 18) : MI Y h0 (sI h (A k) i v) a A n r q := by
  obtain ⟨m1, m2, m3, m4, m5, m6, m7, m8, ⟨z, z1, z2, z3⟩, ⟨y, y1, y2⟩⟩ := m
  have o : ∀ j kj lj : Nat, (j, kj, lj) ∈ MA → k ≠ j → hI (sI h (A k) i v) (A j) = hI h (A j) := fun j kj lj h1 h2 => sI_o (m2.ne j k kj lj kd len h1 hk (fun z => h2 z.symm))
  have oa : hI (sI h (A k) i v) a = hI h a := sI_o (m2.na k kd len hk)
  have o7 := o 7 21 31 (by decide) hf.2.1
  have o5 := o 5 21 31 (by decide) hf.1
  have o15 := o 15 21 1550 (by decide) hf.2.2.1
  have o16 := o 16 21 50 (by decide) hf.2.2.2.1
  have o18 := o 18 21 2000 (by decide) hf.2.2.2.2
  refine ⟨m1.sI (m3.2 _ hk), m2.sI, m3, by rw [oa]; exact m4, m5, by rw [o7, o15, o16]; exact m6, by rw [o7]; exact m7, by rw [o7, o5]; exact m8, ⟨z, z1, by rw [oa]; exact z2, by rw [o18]; exact z3⟩, ⟨y, y1, by rw [oa]; exact y2⟩⟩
theorem MI.wF {Y : Nat → Prop} {h0 h : Hp} {a n r q k : Nat} {v : Int32} {A : Nat → Nat} (m : MI Y h0 h a A n r q) (hf : k ≠ 2 ∧ k ≠ 20 ∧ k ≠ 25 ∧ k ≠ 3) : MI Y h0 (sI h a k v) a A n r q := by
  obtain ⟨m1, m2, m3, m4, m5, m6, m7, m8, ⟨z, z1, z2, z3⟩, ⟨y, y1, y2⟩⟩ := m
  have o : ∀ j kj lj : Nat, (j, kj, lj) ∈ MA → hI (sI h a k v) (A j) = hI h (A j) := fun j kj lj h1 => sI_o (fun z => m2.na j kj lj h1 z.symm)
  have o7 := o 7 21 31 (by decide)
  have o5 := o 5 21 31 (by decide)
  have o15 := o 15 21 1550 (by decide)
  have o16 := o 16 21 50 (by decide)
  have o18 := o 18 21 2000 (by decide)
  refine ⟨m1.sI m3.1, m2.sI, m3, by rw [rI_sI, if_neg (by omega)]; exact m4, m5, by rw [o7, o15, o16]; exact m6, by rw [o7]; exact m7, by rw [o7, o5]; exact m8, ⟨z, z1, by rw [rI_sI, if_neg (by omega)]; exact z2, by rw [o18]; exact z3⟩, ⟨y, y1, by rw [rI_sI, if_neg (by omega), rI_sI, if_neg (by omega)]; exact y2⟩⟩
theorem MI.w5 {Y : Nat → Prop} {h0 h : Hp} {a n r q t : Nat} {v : Int32} {A : Nat → Nat} (m : MI Y h0 h a A n r q) (hv : hI h (A 7) t = -1 ∨ ¬ v = 0) : MI Y h0 (sI h (A 5) t v) a A n r q := by
  obtain ⟨m1, m2, m3, m4, m5, m6, m7, m8, ⟨z, z1, z2, z3⟩, ⟨y, y1, y2⟩⟩ := m
  have o : ∀ j kj lj : Nat, (j, kj, lj) ∈ MA → 5 ≠ j → hI (sI h (A 5) t v) (A j) = hI h (A j) := fun j kj lj h1 h2 => sI_o (m2.ne j 5 kj lj 21 31 h1 (by decide) (fun z => h2 z.symm))
  have oa : hI (sI h (A 5) t v) a = hI h a := sI_o (m2.na 5 21 31 (by decide))
  have o7 := o 7 21 31 (by decide) (by decide)
  have o15 := o 15 21 1550 (by decide) (by decide)
  have o16 := o 16 21 50 (by decide) (by decide)
  have o18 := o 18 21 2000 (by decide) (by decide)
  refine ⟨m1.sI (m3.2 (5, 21, 31) (by decide)), m2.sI, m3, by rw [oa]; exact m4, m5, by rw [o7, o15, o16]; exact m6, by rw [o7]; exact m7, ?_, ⟨z, z1, by rw [oa]; exact z2, by rw [o18]; exact z3⟩, ⟨y, y1, by rw [oa]; exact y2⟩⟩
  rw [o7]
  intro u hu hw
  rw [rI_sI]
  by_cases c : u = t
  · rw [if_pos ⟨rfl, c⟩]
    rcases hv with hv | hv
    · rw [← c] at hv; exact absurd hv hw
    · exact hv
  · rw [if_neg (fun z => c z.2)]; exact m8 u hu hw
theorem MI.wJ {Y : Nat → Prop} {h0 h : Hp} {a n r q b i : Nat} {v : Int64} {A : Nat → Nat} (m : MI Y h0 h a A n r q) (hb : Y b) : MI Y h0 (sJ h b i v) a A n r q := ⟨⟨m.1.1, m.1.2.1, m.1.2.2.1, fun c hc => ⟨(m.1.2.2.2 c hc).1, ((m.1.2.2.2 c hc).2.symm.trans (by funext j; rw [rJ_sJ, if_neg (fun z : c = b ∧ j = i => hc (z.1.symm ▸ hb))])).symm⟩⟩, m.2⟩
theorem MI.w20 {Y : Nat → Prop} {h0 h : Hp} {a n r q z : Nat} {A : Nat → Nat} (m : MI Y h0 h a A n r q) (hz : z ≤ r) (hs : ∀ k : Nat, k < z → ∃ s : Nat, s < 50 ∧ hI h (A 18) k = nI s) : MI Y h0 (sI h a 20 (nI z)) a A n r q := by
  obtain ⟨m1, m2, m3, m4, m5, m6, m7, m8, -, ⟨y, y1, y2⟩⟩ := m
  have o : ∀ j kj lj : Nat, (j, kj, lj) ∈ MA → hI (sI h a 20 (nI z)) (A j) = hI h (A j) := fun j kj lj h1 => sI_o (fun z => m2.na j kj lj h1 z.symm)
  have o7 := o 7 21 31 (by decide)
  have o5 := o 5 21 31 (by decide)
  have o15 := o 15 21 1550 (by decide)
  have o16 := o 16 21 50 (by decide)
  have o18 := o 18 21 2000 (by decide)
  refine ⟨m1.sI m3.1, m2.sI, m3, by rw [rI_sI, if_neg (by omega)]; exact m4, m5, by rw [o7, o15, o16]; exact m6, by rw [o7]; exact m7, by rw [o7, o5]; exact m8, ⟨z, hz, by rw [rI_sI, if_pos ⟨rfl, rfl⟩], by rw [o18]; exact hs⟩, ⟨y, y1, by rw [rI_sI, if_neg (by omega), rI_sI, if_neg (by omega)]; exact y2⟩⟩
theorem MI.w25 {Y : Nat → Prop} {h0 h : Hp} {a n r q z : Nat} {A : Nat → Nat} (m : MI Y h0 h a A n r q) (hz : z ≤ 31) : MI Y h0 (sI h a 25 (nI z)) a A n r q := by
  obtain ⟨m1, m2, m3, m4, m5, m6, m7, m8, ⟨z', z1, z2, z3⟩, ⟨y, y1, y2, y3⟩⟩ := m
  have o : ∀ j kj lj : Nat, (j, kj, lj) ∈ MA → hI (sI h a 25 (nI z)) (A j) = hI h (A j) := fun j kj lj h1 => sI_o (fun z => m2.na j kj lj h1 z.symm)
  have o7 := o 7 21 31 (by decide)
  have o5 := o 5 21 31 (by decide)
  have o15 := o 15 21 1550 (by decide)
  have o16 := o 16 21 50 (by decide)
  have o18 := o 18 21 2000 (by decide)
  refine ⟨m1.sI m3.1, m2.sI, m3, by rw [rI_sI, if_neg (by omega)]; exact m4, m5, by rw [o7, o15, o16]; exact m6, by rw [o7]; exact m7, by rw [o7, o5]; exact m8, ⟨z', z1, by rw [rI_sI, if_neg (by omega)]; exact z2, by rw [o18]; exact z3⟩, ⟨z, hz, by rw [rI_sI, if_pos ⟨rfl, rfl⟩], by rw [rI_sI, if_neg (by omega)]; exact y3⟩⟩
/-- unwait of one that waits -/
theorem MI.unwait {g : Gm} {Y : Nat → Prop} {h0 h : Hp} {a n r q t : Nat} {A : Nat → Nat} {post : Hp → Prop} (m : MI Y h0 h a A n r q) (ht : t ≤ 30) (hw : ¬ hI h (A 7) t = -1)
    (hp : ∀ (h' : Hp) (q' : Nat), q' + 1 = q → MI Y h0 h' a A n r q' → hI h' (A 7) t = -1 → post h') : wp_M_unwait g post h a (nI t) := by
  obtain ⟨m1, m2, m3, m4, m5, m6, m7, m8, ⟨z, z1, z2, z3⟩, ⟨y, y1, y2⟩⟩ := m
  obtain ⟨l0, l1, l2, l3, l4⟩ := m6
  rcases l4 t ht with c | ⟨s, k, s1, s2, s3, s4⟩
  · exact absurd c hw
  have hc30 := cn_le l0 s1
  have d57 : A 5 ≠ A 7 := m2.ne 5 7 21 31 21 31 (by decide) (by decide) (by decide)
  have d5f : A 5 ≠ A 15 := m2.ne 5 15 21 31 21 1550 (by decide) (by decide) (by decide)
  have d5s : A 5 ≠ A 16 := m2.ne 5 16 21 31 21 50 (by decide) (by decide) (by decide)
  have d7f : A 7 ≠ A 15 := m2.ne 7 15 21 31 21 1550 (by decide) (by decide) (by decide)
  have d7s : A 7 ≠ A 16 := m2.ne 7 16 21 31 21 50 (by decide) (by decide) (by decide)
  have dfs : A 15 ≠ A 16 := m2.ne 15 16 21 1550 21 50 (by decide) (by decide) (by decide)
  have d8 : A 18 ≠ A 7 ∧ A 18 ≠ A 15 ∧ A 18 ≠ A 16 := ⟨m2.ne 18 7 21 2000 21 31 (by decide) (by decide) (by decide), m2.ne 18 15 21 2000 21 1550 (by decide) (by decide) (by decide), m2.ne 18 16 21 2000 21 50 (by decide) (by decide) (by decide)⟩
  have da := m2.na 7 21 31 (by decide)
  have daf := m2.na 15 21 1550 (by decide)
  have das := m2.na 16 21 50 (by decide)
  refine M_unwait (n := cn (hI h (A 7)) s - 1) (p := k) m2 ht s1 s2 (by omega) (by rw [l1 s s1]; congr 1; omega) (by omega) s4 (fun j hj z => ?_) fun h' sm ei => ?_
  · have := l3 s j k s1 (by omega) s3 (by rw [z, s4]); omega
  · have oo : ∀ b : Nat, b ≠ A 7 → b ≠ A 15 → b ≠ A 16 → hI h' b = hI h b := fun b b1 b2 b3 => by
      funext j
      rw [ei, if_neg (fun z => b1 z.1), if_neg (fun z => b2 z.1), if_neg (fun z => b3 z.1)]
    have e7 : ∀ j : Nat, hI h' (A 7) j = if j = t then -1 else hI h (A 7) j := fun j => by
      rw [ei]
      by_cases c : j = t
      · rw [if_pos ⟨rfl, c⟩, if_pos c]
      · rw [if_neg (fun z => c z.2), if_neg c, if_neg (fun z => d7f z.1), if_neg (fun z => d7s z.1)]
    have e16 : ∀ j : Nat, hI h' (A 16) j = if j = s then nI (cn (hI h (A 7)) s - 1) else hI h (A 16) j := fun j => by
      rw [ei, if_neg (fun z => d7s z.1.symm), if_neg (fun z => dfs z.1.symm)]
      by_cases c : j = s
      · rw [if_pos ⟨rfl, c⟩, if_pos c]
      · rw [if_neg (fun z => c z.2), if_neg c]
    have e15 : ∀ j : Nat, hI h' (A 15) j = if 31 * s + k ≤ j ∧ j < 31 * s + (cn (hI h (A 7)) s - 1) then hI h (A 15) (j + 1) else hI h (A 15) j := fun j => by
      rw [ei, if_neg (fun z => d7f z.1.symm)]
      by_cases c : 31 * s + k ≤ j ∧ j < 31 * s + (cn (hI h (A 7)) s - 1)
      · rw [if_pos ⟨rfl, c⟩, if_pos c]
      · rw [if_neg (fun z => c z.2), if_neg c, if_neg (fun z => dfs z.1)]
    obtain ⟨n1, n2⟩ := Li.unwait ⟨l0, l1, l2, l3, l4⟩ ht s1 s2 s3 s4 e7 e16 e15
    have oa : hI h' a = hI h a := oo a da daf das
    refine hp h' (q - 1) (by omega) ⟨⟨sm.1.trans m1.1, sm.2.1.trans m1.2.1, sm.2.2.1.trans m1.2.2.1, fun b hb => ?_⟩, m2.sm sm, m3, by rw [oa]; exact m4, m5, n1, by omega, ?_, ⟨z, z1, by rw [oa]; exact z2, by rw [oo (A 18) d8.1 d8.2.1 d8.2.2]; exact z3⟩, ⟨y, y1, by rw [oa]; exact y2⟩⟩ (by rw [e7, if_pos rfl])
    · rw [oo b (fun z => hb (z ▸ m3.2 (7, 21, 31) (by decide))) (fun z => hb (z ▸ m3.2 (15, 21, 1550) (by decide))) (fun z => hb (z ▸ m3.2 (16, 21, 50) (by decide))), sm.2.2.2]
      exact m1.2.2.2 b hb
    · intro u hu hw'
      rw [oo (A 5) d57 d5f d5s]
      rw [e7] at hw'
      by_cases c : u = t
      · rw [if_pos c] at hw'; exact absurd rfl hw'
      · rw [if_neg c] at hw'; exact m8 u hu hw'
