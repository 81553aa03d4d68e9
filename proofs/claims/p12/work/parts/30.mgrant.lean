/-! PURE: the reference's grant and clear keep what it keeps to -/
theorem nI_31 (s : Nat) : (31 : Int32) * nI s = nI (31 * s) := nI_mul 31 s
theorem MI.grant {g : Gm} {Y : Nat → Prop} {h0 h : Hp} {a n r q : Nat} {A : Nat → Nat} {post : Hp → Prop} (m : MI Y h0 h a A n r q)
    (hp : ∀ h' : Hp, MI Y h0 h' a A n r q → post h') : wp_M_grant g post h a := by
  have h50 : (50 : Int32) = nI 50 := rfl
  have inner : ∀ (K2 : Hp → Nat → Int32 → Prop) (s : Nat), s < 50 → (∀ h' : Hp, MI Y h0 h' a A n r q → K2 h' a (nI (s + 1))) → ∀ (d : Nat) (h : Hp), d ≤ q → MI Y h0 h a A n r d → wp_M_grant_8 g post K2 (d + 1) h a (nI s) := by
    intro K2 s hs hK d
    induction d with
    | zero =>
      intro h hd m
      obtain ⟨r1, r2, r3⟩ := m.2.1.row 16 21 50 (by decide)
      have m6 := m.2.2.2.2.2.1
      have m7 := m.2.2.2.2.2.2.1
      unfold wp_M_grant_8 wp_M_grant_89
      refine ⟨m.2.1.1, A 16, r1, r2, by rw [r3]; exact vp_in_nI hs (by omega), fun _ x1 e1 => ?_, fun c => ?_⟩
      · rw [nI_1] at e1; subst e1; exact hK h (m.mono hd)
      · exfalso
        rw [nI_clamp (by omega), m6.2.1 s hs] at c
        have hpos : 0 < cn (hI h (A 7)) s := by
          rcases Nat.eq_zero_or_pos (cn (hI h (A 7)) s) with z | z
          · rw [z] at c; exact absurd (by decide) c
          · exact z
        obtain ⟨t, t1, t2, t3, t4⟩ := m6.2.2.1 s 0 hs hpos
        have : 1 ≤ wn (hI h (A 7)) := cntF_some (t := t) (by omega) (decide_eq_true (by rw [t4]; exact nI_nm1 (by omega)))
        omega
    | succ d ih =>
      intro h hd m
      obtain ⟨r1, r2, r3⟩ := m.2.1.row 16 21 50 (by decide)
      obtain ⟨u1, u2, u3⟩ := m.2.1.row 15 21 1550 (by decide)
      obtain ⟨v1, v2, v3⟩ := m.2.1.row 8 21 31 (by decide)
      have m6 := m.2.2.2.2.2.1
      have m5 := m.2.1.1
      unfold wp_M_grant_8 wp_M_grant_89
      have go : ∀ x1 : Int32, x1 = nI s + 1 → K2 h a x1 := fun x1 e1 => by rw [nI_1] at e1; subst e1; exact hK h (m.mono hd)
      refine ⟨m5, A 16, r1, r2, by rw [r3]; exact vp_in_nI hs (by omega), fun _ => go, fun c => ?_⟩
      rw [nI_clamp (by omega), m6.2.1 s hs] at c
      have hpos : 0 < cn (hI h (A 7)) s := by
        rcases Nat.eq_zero_or_pos (cn (hI h (A 7)) s) with z | z
        · rw [z] at c; exact absurd (by decide) c
        · exact z
      obtain ⟨t, t1, t2, t3, t4⟩ := m6.2.2.1 s 0 hs hpos
      have t3 : hI h (A 15) (31 * s) = nI t := t3
      refine ⟨m5, A 15, u1, fun x7 e7 => ?_⟩
      rw [nI_31] at e7
      subst e7
      refine ⟨u2, by rw [u3]; exact vp_in_nI (by omega) (by omega), m5, A 8, v1, m5, A 15, u1, fun x13 e13 => ?_⟩
      rw [nI_31] at e13
      subst e13
      rw [nI_clamp (n := 31 * s) (by omega), t3]
      refine ⟨u2, by rw [u3]; exact vp_in_nI (by omega) (by omega), v2, by rw [v3]; exact vp_in_nI (by omega) (by omega), m5, ?_⟩
      refine M_isFree m.2.1 m.2.2.2.1 m.2.2.2.2.1 t2 hs ⟨fun _ => go, fun _ => ⟨m5, A 15, u1, fun x22 e22 => ?_⟩⟩
      rw [nI_31] at e22
      subst e22
      rw [nI_clamp (n := 31 * s) (by omega), t3]
      refine ⟨u2, by rw [u3]; exact vp_in_nI (by omega) (by omega), m5, ?_⟩
      refine m.unwait t2 (by rw [t4]; exact nI_nm1 (by omega)) fun h' q' e' m' w' => ?_
      have e' : q' = d := by omega
      subst e'
      obtain ⟨y1, y2, y3⟩ := m'.2.1.row 9 21 1550 (by decide)
      obtain ⟨x1, x2, x3⟩ := m'.2.1.row 8 21 31 (by decide)
      refine ⟨m'.2.1.1, A 9, y1, M_of ⟨m'.2.1.1, A 8, x1, x2, by rw [x3]; exact vp_in_nI (by omega) (by omega), y2, by rw [y3]; exact vp_in_nI (by omega) (by omega), fun h35 e35 => ?_⟩⟩
      have m35 : MI Y h0 h35 a A n r q' := by rw [e35]; exact m'.wI (k := 9) (kd := 21) (len := 1550) (by decide) (by decide)
      have w35 : hI h35 (A 7) t = -1 := by
        rw [e35, sI_o (m'.2.1.ne 7 9 21 31 21 1550 (by decide) (by decide) (by decide))]; exact w'
      obtain ⟨z1, z2, z3⟩ := m35.2.1.row 5 21 31 (by decide)
      refine ⟨m35.2.1.1, A 5, z1, z2, by rw [z3]; exact vp_in_nI (by omega) (by omega), fun h39 e39 => ?_⟩
      rw [nI_clamp (by omega)] at e39
      rw [e39]
      exact ih _ (by omega) (m35.w5 (Or.inl w35))
  have outer : ∀ (d s : Nat) (h : Hp), s + d = 50 → MI Y h0 h a A n r q → wp_M_grant_2 g post (d + 1) h a (nI s) := by
    intro d
    induction d with
    | zero =>
      intro s h e m
      have e : s = 50 := by omega
      subst e
      unfold wp_M_grant_2
      exact ⟨fun _ => hp h m, fun c => absurd (by decide) c⟩
    | succ d ih =>
      intro s h e m
      unfold wp_M_grant_2
      refine ⟨fun c => ?_, fun _ => ⟨q + 1, ?_⟩⟩
      · rw [h50] at c
        have := (nI_leI (by omega) (by omega)).mp c
        omega
      · exact inner _ s (by omega) (fun h' m' => ih (s + 1) h' (by omega) m') q h (Nat.le_refl q) m
  unfold wp_M_grant
  exact ⟨51, outer 50 0 h rfl m⟩
theorem mKeep_mem {h : Hp} {A : Nat → Nat} {v : Int32} (r : Nat) : ∀ x ∈ mKeep h A v r, ∃ j : Nat, j < r ∧ x = mRd h A j := by
  induction r with
  | zero => intro x hx; cases hx
  | succ r ih =>
    intro x hx
    unfold mKeep at hx
    by_cases c : hI h (A 17) r = v
    · rw [if_pos c] at hx
      obtain ⟨j, j1, j2⟩ := ih x hx
      exact ⟨j, by omega, j2⟩
    · rw [if_neg c, List.mem_append] at hx
      rcases hx with hx | hx
      · obtain ⟨j, j1, j2⟩ := ih x hx
        exact ⟨j, by omega, j2⟩
      · exact ⟨r, by omega, List.mem_singleton.mp hx⟩
theorem getD_mem {α : Type} {l : List α} {i : Nat} {d : α} (h : i < l.length) : l.getD i d ∈ l := by
  rw [List.getD_eq_getElem?_getD, List.getElem?_eq_getElem h]
  exact List.getElem_mem h
theorem MI.forget {g : Gm} {Y : Nat → Prop} {h0 h : Hp} {a n r q : Nat} {v : Int32} {A : Nat → Nat} {post : Hp → Prop} (m : MI Y h0 h a A n r q) (hr : r ≤ 2000)
    (hp : ∀ h' : Hp, MI Y h0 h' a A n r q → hI h' (A 7) = hI h (A 7) → post h') : wp_M_forget g post h a v := by
  obtain ⟨m1, m2, m3, m4, m5, m6, m7, m8, ⟨z, z1, z2, z3⟩, ⟨y, y1, y2⟩⟩ := m
  refine M_forget m2 (by omega) z2 fun h1 kp rd => ?_
  have o : ∀ j kj lj : Nat, (j, kj, lj) ∈ MA → j ≠ 17 → j ≠ 18 → hI h1 (A j) = hI h (A j) := fun j kj lj h1 h2 h3 => kp.2.2.2.1 (A j) (m2.ne j 17 kj lj 21 2000 h1 (by decide) h2) (m2.ne j 18 kj lj 21 2000 h1 (by decide) h3)
  have oa : hI h1 a = hI h a := kp.2.2.2.1 a (m2.na 17 21 2000 (by decide)) (m2.na 18 21 2000 (by decide))
  have o7 := o 7 21 31 (by decide) (by decide) (by decide)
  have o5 := o 5 21 31 (by decide) (by decide) (by decide)
  have o15 := o 15 21 1550 (by decide) (by decide) (by decide)
  have o16 := o 16 21 50 (by decide) (by decide) (by decide)
  have hle := mKeep_le h A v z
  have ent : ∀ k : Nat, k < (mKeep h A v z).length → ∃ s : Nat, s < 50 ∧ hI h1 (A 18) k = nI s := fun k hk => by
    obtain ⟨j, j1, j2⟩ := mKeep_mem z _ (getD_mem (d := (0, 0, 0)) hk)
    obtain ⟨s, s1, s2⟩ := z3 j j1
    refine ⟨s, s1, ?_⟩
    have e := (rd k hk).trans j2
    have e : hI h1 (A 18) k = hI h (A 18) j := congrArg (fun x => x.2.1) e
    rw [e]; exact s2
  have mm : MI Y h0 h1 a A n 2000 q → True := fun _ => trivial
  have l1 : Lt Y h0 h1 := ⟨kp.1.trans m1.1, kp.2.1.trans m1.2.1, kp.2.2.1.trans m1.2.2.1, fun b hb => ⟨by
    rw [kp.2.2.2.1 b (fun z => hb (z ▸ m3.2 (17, 21, 2000) (by decide))) (fun z => hb (z ▸ m3.2 (18, 21, 2000) (by decide)))]
    exact (m1.2.2.2 b hb).1, by
    rw [kp.2.2.2.2 b (fun z => hb (z ▸ m3.2 (19, 22, 2000) (by decide)))]
    exact (m1.2.2.2 b hb).2⟩⟩
  have m2' := m2.kp kp
  refine hp _ ⟨l1.sI m3.1, m2'.sI, m3, ?_, m5, ?_, ?_, ?_, ⟨(mKeep h A v z).length, by omega, by rw [rI_sI, if_pos ⟨rfl, rfl⟩], ?_⟩, ⟨y, y1, ?_⟩⟩ ?_
  · rw [rI_sI, if_neg (by omega), oa]; exact m4
  · rw [sI_o (fun z => m2.na 7 21 31 (by decide) z.symm), sI_o (fun z => m2.na 16 21 50 (by decide) z.symm), sI_o (fun z => m2.na 15 21 1550 (by decide) z.symm), o7, o15, o16]; exact m6
  · rw [sI_o (fun z => m2.na 7 21 31 (by decide) z.symm), o7]; exact m7
  · rw [sI_o (fun z => m2.na 7 21 31 (by decide) z.symm), sI_o (fun z => m2.na 5 21 31 (by decide) z.symm), o7, o5]; exact m8
  · rw [sI_o (fun z => m2.na 18 21 2000 (by decide) z.symm)]; exact ent
  · rw [rI_sI, if_neg (by omega), rI_sI, if_neg (by omega), oa]; exact y2
  · rw [sI_o (fun z => m2.na 7 21 31 (by decide) z.symm), o7]
/-- clear: where the task waited, one waits less -/
theorem MI.clear {g : Gm} {Y : Nat → Prop} {h0 h : Hp} {a n r q t : Nat} {v : Int32} {A : Nat → Nat} {post : Int32 → Hp → Prop} (m : MI Y h0 h a A n r q) (hr : r ≤ 2000) (ht : t ≤ 30)
    (hp : ∀ (x : Int32) (h' : Hp) (q' : Nat), q' ≤ q → (¬ hI h (A 7) t = -1 → q' + 1 ≤ q) → MI Y h0 h' a A n r q' → post x h') : wp_M_clear g post h a (nI t) v := by
  have h50 : (50 : Int32) = nI 50 := rfl
  have loop : ∀ (x : Int32) (q' : Nat), q' ≤ q → (¬ hI h (A 7) t = -1 → q' + 1 ≤ q) → ∀ (d s : Nat) (h : Hp), s + d = 50 → MI Y h0 h a A n r q' → hI h (A 7) t = -1 → wp_M_clear_14 g post (d + 1) h a (nI t) v x (nI s) := by
    intro x q' hq1 hq2 d
    induction d with
    | zero =>
      intro s h e m w
      have e : s = 50 := by omega
      subst e
      unfold wp_M_clear_14
      refine ⟨fun _ => ⟨m.2.1.1, m.forget hr fun h3 m3 e3 => ?_⟩, fun c => absurd (by decide) c⟩
      obtain ⟨z1, z2, z3⟩ := m3.2.1.row 5 21 31 (by decide)
      refine ⟨m3.2.1.1, A 5, z1, z2, by rw [z3]; exact vp_in_nI (by omega) (by omega), fun h7 e7 => ?_⟩
      rw [nI_clamp (by omega)] at e7
      have m7 : MI Y h0 h7 a A n r q' := by rw [e7]; exact m3.w5 (Or.inl (by rw [e3]; exact w))
      exact ⟨m7.2.1.1, m7.grant fun h9 m9 => hp x h9 q' hq1 hq2 m9⟩
    | succ d ih =>
      intro s h e m w
      obtain ⟨u1, u2, u3⟩ := m.2.1.row 9 21 1550 (by decide)
      unfold wp_M_clear_14
      refine ⟨fun c => ?_, fun _ => ⟨m.2.1.1, A 9, u1, M_of ⟨u2, by rw [u3]; exact vp_in_nI (by omega) (by omega), fun h16 e16 => ?_⟩⟩⟩
      · rw [h50] at c
        have := (nI_leI (by omega) (by omega)).mp c
        omega
      · have m16 : MI Y h0 h16 a A n r q' := by rw [e16]; exact m.wI (k := 9) (kd := 21) (len := 1550) (by decide) (by decide)
        have w16 : hI h16 (A 7) t = -1 := by rw [e16, sI_o (m.2.1.ne 7 9 21 31 21 1550 (by decide) (by decide) (by decide))]; exact w
        obtain ⟨y1, y2, y3⟩ := m16.2.1.row 11 23 1550 (by decide)
        refine ⟨m16.2.1.1, A 11, y1, M_of ⟨y2, by rw [y3]; exact vp_in_nI (by omega) (by omega), Or.inl rfl, fun h23 e23 => ?_⟩⟩
        have m23 : MI Y h0 h23 a A n r q' := by rw [e23]; exact m16.wI (k := 11) (kd := 23) (len := 1550) (by decide) (by decide)
        have w23 : hI h23 (A 7) t = -1 := by rw [e23, sI_o (m16.2.1.ne 7 11 21 31 23 1550 (by decide) (by decide) (by decide))]; exact w16
        obtain ⟨x1, x2, x3⟩ := m23.2.1.row 12 23 1550 (by decide)
        refine ⟨m23.2.1.1, A 12, x1, M_of ⟨x2, by rw [x3]; exact vp_in_nI (by omega) (by omega), Or.inl rfl, fun h30 e30 x31 e31 => ?_⟩⟩
        rw [nI_1] at e31
        subst e31
        refine ih (s + 1) h30 (by omega) (by rw [e30]; exact m23.wI (k := 12) (kd := 23) (len := 1550) (by decide) (by decide)) ?_
        rw [e30, sI_o (m23.2.1.ne 7 12 21 31 23 1550 (by decide) (by decide) (by decide))]; exact w23
  unfold wp_M_clear
  refine ⟨m.2.1.1, M_locksOf m.2.1 ht ⟨m.2.1.1, ?_⟩⟩
  by_cases hw : hI h (A 7) t = -1
  · exact M_unwait0 m.2.1 ht hw ⟨51, loop _ q (Nat.le_refl q) (fun z => absurd hw z) 50 0 h rfl m hw⟩
  · exact m.unwait ht hw fun h' q' e' m' w' => ⟨51, loop _ q' (by omega) (fun _ => by omega) 50 0 h' rfl m' w'⟩
