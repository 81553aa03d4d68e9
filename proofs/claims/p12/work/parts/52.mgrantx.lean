/-! EXACT: the reference's grant and clear -/
theorem aGrantS_nil {z : Zs} {s d : Nat} (h : zQ z s = []) : aGrantS z s d = z := by
  cases d with
  | zero => rfl
  | succ d => unfold aGrantS; rw [h]
theorem aGrantS_cons {z : Zs} {s d t : Nat} {l : List Nat} (h : zQ z s = t :: l) : aGrantS z s (d + 1) = if aFree z t s (zI z 5 t 0) (zn z) = true then aGrantS (aGive z t s) s d else z := by
  rw [aGrantS]
  rw [h]
theorem give_Ze (z : Zs) (t s : Nat) : Ze (zu (zu (aUnw z t s) 0 t s (zI z 5 t 0)) 3 t 0 0) (aGive z t s) := by
  have e : ∀ f u r : Nat, zI (zu (zu (aUnw z t s) 0 t s (zI z 5 t 0)) 3 t 0 0) f u r = if f = 3 ∧ u = t ∧ r = 0 then 0 else if f = 0 ∧ u = t ∧ r = s then zI z 5 t 0 else if f = 4 ∧ u = t ∧ r = 0 then -1 else zI z f u r := fun f u r => rfl
  refine ⟨rfl, fun u r _ _ _ => ⟨?_, ?_, ?_, rfl⟩, fun u _ _ => ⟨?_, ?_, fun c => ?_, ?_, ?_⟩, fun r _ => rfl, rfl, fun r _ => rfl⟩
  · rw [aGive_I, e]
    by_cases c : u = t
    · by_cases d : r = s
      · simp [c, d]
      · simp [c, d]
    · simp [c]
  · rw [aGive_I, e]
    by_cases c : u = t <;> simp [c]
  · rw [aGive_I, e]
    by_cases c : u = t <;> simp [c]
  · rw [aGive_I, e]
    by_cases c : u = t <;> simp [c]
  · rw [aGive_I, e]
    by_cases c : u = t <;> simp [c]
  · rw [e] at c
    by_cases d : u = t
    · simp [d] at c
    · rw [aGive_I, e]; simp [d]
  · rw [aGive_I, e]
    by_cases c : u = t <;> simp [c]
  · rw [aGive_I, e]
    by_cases c : u = t <;> simp [c]
theorem X_grant {g : Gm} {Y : Nat → Prop} {h0 h : Hp} {a n r q : Nat} {A : Nat → Nat} {z : Zs} {post : Hp → Prop} (m : MI Y h0 h a A n r q) (e : MZ h a A z) (o : Zo z)
    (hp : ∀ h' : Hp, MI Y h0 h' a A n r q → MZ h' a A (aGr z 50 0) → post h') : wp_M_grant g post h a := by
  have h50 : (50 : Int32) = nI 50 := rfl
  have inner : ∀ (K2 : Hp → Nat → Int32 → Prop) (s : Nat) (zt : Zs), s < 50 → (∀ h' : Hp, MI Y h0 h' a A n r q → MZ h' a A zt → K2 h' a (nI (s + 1))) → ∀ (k d : Nat) (z : Zs) (h : Hp), (zQ z s).length = k → k ≤ d → MI Y h0 h a A n r q → MZ h a A z → Zo z → aGrantS z s d = zt → wp_M_grant_8 g post K2 (k + 1) h a (nI s) := by
    intro K2 s zt hs hK k
    induction k with
    | zero =>
      intro d z h hk hd m e o et
      have hq : zQ z s = [] := List.length_eq_zero_iff.mp hk
      rw [aGrantS_nil hq] at et
      subst et
      obtain ⟨r1, r2, r3⟩ := m.2.1.row 16 21 50 (by decide)
      unfold wp_M_grant_8 wp_M_grant_89
      refine ⟨m.2.1.1, A 16, r1, r2, by rw [r3]; exact vp_in_nI hs (by omega), fun _ x1 e1 => ?_, fun c => ?_⟩
      · rw [nI_1] at e1; subst e1; exact hK h m e
      · rw [nI_clamp (by omega), (e.2.2.2.1 s hs).1, hk] at c
        exact absurd (by decide) c
    | succ k ih =>
      intro d z h hk hd m e o et
      obtain ⟨d, rfl⟩ : ∃ j, d = j + 1 := ⟨d - 1, by omega⟩
      obtain ⟨t, l, hq⟩ : ∃ t l, zQ z s = t :: l := by
        cases hq : zQ z s with
        | nil => rw [hq] at hk; exact absurd hk (by simp)
        | cons t l => exact ⟨t, l, rfl⟩
      have hl := o.len hs
      have hin : t ∈ zQ z s := by rw [hq]; exact List.mem_cons_self ..
      obtain ⟨t1, t2, t3⟩ := (o.2.2.2.1 s t hs).mp hin
      have o1 := o.1
      have hw : ¬ zI z 4 t 0 = -1 := by rw [t3]; exact nI_nm1 (by omega)
      rw [aGrantS_cons hq] at et
      obtain ⟨c1, c2⟩ := e.2.2.2.1 s hs
      have a15 : hI h (A 15) (31 * s) = nI t := by
        have := c2 0 (by omega)
        rw [hq] at this
        exact this
      have a8 : hI h (A 8) t = zI z 5 t 0 := (e.2.2.1 t t1 (by omega)).2.2.1 hw
      obtain ⟨r1, r2, r3⟩ := m.2.1.row 16 21 50 (by decide)
      obtain ⟨u1, u2, u3⟩ := m.2.1.row 15 21 1550 (by decide)
      obtain ⟨v1, v2, v3⟩ := m.2.1.row 8 21 31 (by decide)
      have m5 := m.2.1.1
      unfold wp_M_grant_8 wp_M_grant_89
      refine ⟨m5, A 16, r1, r2, by rw [r3]; exact vp_in_nI hs (by omega), fun c => ?_, fun _ => ?_⟩
      · rw [nI_clamp (by omega), c1, hk] at c
        exact absurd c (nI_nle (by omega) (by omega))
      refine ⟨m5, A 15, u1, fun x7 e7 => ?_⟩
      rw [nI_31] at e7
      subst e7
      refine ⟨u2, by rw [u3]; exact vp_in_nI (by omega) (by omega), m5, A 8, v1, m5, A 15, u1, fun x13 e13 => ?_⟩
      rw [nI_31] at e13
      subst e13
      rw [nI_clamp (n := 31 * s) (by omega), a15, nI_clamp (n := t) (by omega), a8]
      refine ⟨u2, by rw [u3]; exact vp_in_nI (by omega) (by omega), v2, by rw [v3]; exact vp_in_nI (by omega) (by omega), m5, ?_⟩
      refine X_isFree m.2.1 e o1 (by omega) hs ⟨fun cf x1 e1 => ?_, fun cf => ⟨m5, A 15, u1, fun x22 e22 => ?_⟩⟩
      · have cf' : ¬ aFree z t s (zI z 5 t 0) (zn z) = true := fun q => by rw [q] at cf; exact absurd cf (by decide)
        rw [if_neg cf'] at et
        subst et
        rw [nI_1] at e1; subst e1; exact hK h m e
      have cf' : aFree z t s (zI z 5 t 0) (zn z) = true := by
        cases q : aFree z t s (zI z 5 t 0) (zn z)
        · rw [q] at cf; exact absurd rfl cf
        · rfl
      rw [if_pos cf'] at et
      rw [nI_31] at e22
      subst e22
      rw [nI_clamp (n := 31 * s) (by omega), a15]
      refine ⟨u2, by rw [u3]; exact vp_in_nI (by omega) (by omega), m5, ?_⟩
      refine X_unwait m e o t1 (by omega) hs t3 t2 fun h' q' eq' m' e' w' w8 => ?_
      obtain ⟨y1, y2, y3⟩ := m'.2.1.row 9 21 1550 (by decide)
      obtain ⟨x1, x2, x3⟩ := m'.2.1.row 8 21 31 (by decide)
      refine ⟨m'.2.1.1, A 9, y1, M_of ⟨m'.2.1.1, A 8, x1, x2, by rw [x3]; exact vp_in_nI (by omega) (by omega), y2, by rw [y3]; exact vp_in_nI (by omega) (by omega), fun h35 e35 => ?_⟩⟩
      rw [nI_clamp (n := 50 * t + s) (by omega), nI_clamp (n := t) (by omega), w8, a8] at e35
      have m35 : MI Y h0 h35 a A n r q' := by rw [e35]; exact m'.wI (k := 9) (kd := 21) (len := 1550) (by decide) (by decide)
      have z35 : MZ h35 a A (zu (aUnw z t s) 0 t s (zI z 5 t 0)) := by rw [e35]; exact e'.w9 m'.2.1 (by omega) hs
      have w35 : hI h35 (A 7) t = -1 := by
        rw [e35, sI_o (m'.2.1.ne 7 9 21 31 21 1550 (by decide) (by decide) (by decide))]; exact w'
      obtain ⟨z1, z2, z3⟩ := m35.2.1.row 5 21 31 (by decide)
      refine ⟨m35.2.1.1, A 5, z1, z2, by rw [z3]; exact vp_in_nI (by omega) (by omega), fun h39 e39 => ?_⟩
      rw [nI_clamp (by omega)] at e39
      subst e39
      have er := (erase_at (p := 0) (o.2.2.1 s hs) (by omega) (by rw [hq]; rfl : (zQ z s).getD 0 0 = t)).1
      refine ih d (aGive z t s) _ ?_ (by omega) ((m35.w5 (Or.inl w35)).mono (by omega)) ((z35.w5 m35.2.1).congr (give_Ze z t s)) (aGive_o o hs hin) et
      rw [aGive_Q, if_pos rfl]
      omega
  have outer : ∀ (d s : Nat) (z : Zs) (h : Hp), s + d = 50 → MI Y h0 h a A n r q → MZ h a A z → Zo z → (∀ h' : Hp, MI Y h0 h' a A n r q → MZ h' a A (aGr z d s) → post h') → wp_M_grant_2 g post (d + 1) h a (nI s) := by
    intro d
    induction d with
    | zero =>
      intro s z h ed m e o hp
      have ed : s = 50 := by omega
      subst ed
      unfold wp_M_grant_2
      exact ⟨fun _ => hp h m e, fun c => absurd (by decide) c⟩
    | succ d ih =>
      intro s z h ed m e o hp
      unfold wp_M_grant_2
      refine ⟨fun c => ?_, fun _ => ⟨(zQ z s).length + 1, ?_⟩⟩
      · rw [h50] at c
        have := (nI_leI (by omega) (by omega)).mp c
        omega
      · exact inner _ s (aGrantS z s 30) (by omega) (fun h' m' e' => ih (s + 1) _ h' (by omega) m' e' (aGrantS_o s (by omega) 30 z o).1 hp) _ 30 z h rfl (o.len (by omega)) m e o rfl
  unfold wp_M_grant
  exact ⟨51, outer 50 0 z h rfl m e o hp⟩
/-- what task t has of the segments below j is gone -/
def aW (z : Zs) (t j : Nat) : Zs := (fun f u r => if u = t ∧ r < j ∧ f = 0 then -1 else if u = t ∧ r < j ∧ (f = 1 ∨ f = 2) then 0 else zI z f u r, z.2)
theorem aW_I (z : Zs) (t j f u r : Nat) : zI (aW z t j) f u r = if u = t ∧ r < j ∧ f = 0 then -1 else if u = t ∧ r < j ∧ (f = 1 ∨ f = 2) then 0 else zI z f u r := rfl
theorem aW_step (z : Zs) (t j : Nat) : Ze (zu (zu (zu (aW z t j) 0 t j (-1)) 1 t j 0) 2 t j 0) (aW z t (j + 1)) := by
  have e : ∀ f u r : Nat, zI (zu (zu (zu (aW z t j) 0 t j (-1)) 1 t j 0) 2 t j 0) f u r = if f = 2 ∧ u = t ∧ r = j then 0 else if f = 1 ∧ u = t ∧ r = j then 0 else if f = 0 ∧ u = t ∧ r = j then -1 else zI (aW z t j) f u r := fun f u r => rfl
  have big : ∀ f u r : Nat, 3 ≤ f → zI (aW z t (j + 1)) f u r = zI (zu (zu (zu (aW z t j) 0 t j (-1)) 1 t j 0) 2 t j 0) f u r := fun f u r hf => by
    rw [e, aW_I, aW_I, if_neg (by omega), if_neg (by omega), if_neg (by omega), if_neg (by omega), if_neg (by omega), if_neg (by omega), if_neg (by omega)]
  refine ⟨rfl, fun u r _ _ _ => ⟨?_, ?_, ?_, rfl⟩, fun u _ _ => ⟨big 3 u 0 (by decide), big 4 u 0 (by decide), fun _ => big 5 u 0 (by decide), big 6 u 0 (by decide), big 7 u 0 (by decide)⟩, fun r _ => rfl, rfl, fun r _ => rfl⟩
  · rw [e, aW_I, aW_I]
    by_cases c : u = t
    · rcases Nat.lt_trichotomy r j with d | d | d
      · rw [if_pos ⟨c, by omega, rfl⟩, if_neg (by omega), if_neg (by omega), if_neg (by omega), if_pos ⟨c, d, rfl⟩]
      · rw [if_pos ⟨c, by omega, rfl⟩, if_neg (by omega), if_neg (by omega), if_pos ⟨rfl, c, d⟩]
      · rw [if_neg (by omega), if_neg (by omega), if_neg (by omega), if_neg (by omega), if_neg (by omega), if_neg (by omega), if_neg (by omega)]
    · rw [if_neg (by omega), if_neg (by omega), if_neg (by omega), if_neg (by omega), if_neg (by omega), if_neg (by omega), if_neg (by omega)]
  · rw [e, aW_I, aW_I]
    by_cases c : u = t
    · rcases Nat.lt_trichotomy r j with d | d | d
      · rw [if_neg (by omega), if_pos ⟨c, by omega, Or.inl rfl⟩, if_neg (by omega), if_neg (by omega), if_neg (by omega), if_neg (by omega), if_pos ⟨c, d, Or.inl rfl⟩]
      · rw [if_neg (by omega), if_pos ⟨c, by omega, Or.inl rfl⟩, if_neg (by omega), if_pos ⟨rfl, c, d⟩]
      · rw [if_neg (by omega), if_neg (by omega), if_neg (by omega), if_neg (by omega), if_neg (by omega), if_neg (by omega), if_neg (by omega)]
    · rw [if_neg (by omega), if_neg (by omega), if_neg (by omega), if_neg (by omega), if_neg (by omega), if_neg (by omega), if_neg (by omega)]
  · rw [e, aW_I, aW_I]
    by_cases c : u = t
    · rcases Nat.lt_trichotomy r j with d | d | d
      · rw [if_neg (by omega), if_pos ⟨c, by omega, Or.inr rfl⟩, if_neg (by omega), if_neg (by omega), if_neg (by omega), if_neg (by omega), if_pos ⟨c, d, Or.inr rfl⟩]
      · rw [if_neg (by omega), if_pos ⟨c, by omega, Or.inr rfl⟩, if_pos ⟨rfl, c, d⟩]
      · rw [if_neg (by omega), if_neg (by omega), if_neg (by omega), if_neg (by omega), if_neg (by omega), if_neg (by omega), if_neg (by omega)]
    · rw [if_neg (by omega), if_neg (by omega), if_neg (by omega), if_neg (by omega), if_neg (by omega), if_neg (by omega), if_neg (by omega)]
theorem X_forget {g : Gm} {Y : Nat → Prop} {h0 h : Hp} {a n r q : Nat} {v : Int32} {A : Nat → Nat} {z : Zs} {post : Hp → Prop} (m : MI Y h0 h a A n r q) (e : MZ h a A z) (hr : r ≤ 2000)
    (hp : ∀ h' : Hp, MI Y h0 h' a A n r q → MZ h' a A z → hI h' (A 7) = hI h (A 7) → post h') : wp_M_forget g post h a v := by
  obtain ⟨m1, m2, m3, m4, m5, m6, m7, m8, ⟨zr, z1, z2, z3⟩, ⟨y, y1, y2⟩⟩ := m
  refine M_forget m2 (by omega) z2 fun h1 kp rd => ?_
  have o : ∀ j kj lj : Nat, (j, kj, lj) ∈ MA → j ≠ 17 → j ≠ 18 → hI h1 (A j) = hI h (A j) := fun j kj lj h1 h2 h3 => kp.2.2.2.1 (A j) (m2.ne j 17 kj lj 21 2000 h1 (by decide) h2) (m2.ne j 18 kj lj 21 2000 h1 (by decide) h3)
  have oa : hI h1 a = hI h a := kp.2.2.2.1 a (m2.na 17 21 2000 (by decide)) (m2.na 18 21 2000 (by decide))
  have o7 := o 7 21 31 (by decide) (by decide) (by decide)
  have o5 := o 5 21 31 (by decide) (by decide) (by decide)
  have o15 := o 15 21 1550 (by decide) (by decide) (by decide)
  have o16 := o 16 21 50 (by decide) (by decide) (by decide)
  have hle := mKeep_le h A v zr
  have ent : ∀ k : Nat, k < (mKeep h A v zr).length → ∃ s : Nat, s < 50 ∧ hI h1 (A 18) k = nI s := fun k hk => by
    obtain ⟨j, j1, j2⟩ := mKeep_mem zr _ (getD_mem (d := (0, 0, 0)) hk)
    obtain ⟨s, s1, s2⟩ := z3 j j1
    refine ⟨s, s1, ?_⟩
    have e := (rd k hk).trans j2
    have e : hI h1 (A 18) k = hI h (A 18) j := congrArg (fun x => x.2.1) e
    rw [e]; exact s2
  have l1 : Lt Y h0 h1 := ⟨kp.1.trans m1.1, kp.2.1.trans m1.2.1, kp.2.2.1.trans m1.2.2.1, fun b hb => ⟨by
    rw [kp.2.2.2.1 b (fun z => hb (z ▸ m3.2 (17, 21, 2000) (by decide))) (fun z => hb (z ▸ m3.2 (18, 21, 2000) (by decide)))]
    exact (m1.2.2.2 b hb).1, by
    rw [kp.2.2.2.2 b (fun z => hb (z ▸ m3.2 (19, 22, 2000) (by decide)))]
    exact (m1.2.2.2 b hb).2⟩⟩
  have m2' := m2.kp kp
  have inM2 : ∀ k ∈ [4, 5, 6, 7, 8, 9, 11, 12, 15, 16, 21], ∃ t ∈ MA, t.1 = k := by decide
  have e1 : MZ h1 a A z := e.keep ⟨by rw [oa], by rw [oa]⟩ (fun j hj => kp.2.2.2.1 (A j) (MA_ne m2 j 17 (inM2 j hj) (by decide) (by revert j; decide)) (MA_ne m2 j 18 (inM2 j hj) (by decide) (by revert j; decide))) ⟨kp.2.2.2.2 _ (MA_ne m2 13 19 (by decide) (by decide) (by decide)), kp.2.2.2.2 _ (MA_ne m2 1 19 (by decide) (by decide) (by decide))⟩
  refine hp _ ⟨l1.sI m3.1, m2'.sI, m3, ?_, m5, ?_, ?_, ?_, ⟨(mKeep h A v zr).length, by omega, by rw [rI_sI, if_pos ⟨rfl, rfl⟩], ?_⟩, ⟨y, y1, ?_⟩⟩ (e1.wF m2' (by decide)) ?_
  · rw [rI_sI, if_neg (by omega), oa]; exact m4
  · rw [sI_o (fun z => m2.na 7 21 31 (by decide) z.symm), sI_o (fun z => m2.na 16 21 50 (by decide) z.symm), sI_o (fun z => m2.na 15 21 1550 (by decide) z.symm), o7, o15, o16]; exact m6
  · rw [sI_o (fun z => m2.na 7 21 31 (by decide) z.symm), o7]; exact m7
  · rw [sI_o (fun z => m2.na 7 21 31 (by decide) z.symm), sI_o (fun z => m2.na 5 21 31 (by decide) z.symm), o7, o5]; exact m8
  · rw [sI_o (fun z => m2.na 18 21 2000 (by decide) z.symm)]; exact ent
  · rw [rI_sI, if_neg (by omega), rI_sI, if_neg (by omega), oa]; exact y2
  · rw [sI_o (fun z => m2.na 7 21 31 (by decide) z.symm), o7]
/-- how many locks task t has -/
def aHeld (z : Zs) (t : Nat) : Nat := cntF (fun s => decide (¬ zI z 0 t s = -1)) 50
theorem wipe_Ze {z z1 : Zs} {t : Nat} {v : Int32} (o : Zo z) (h : (z1 = z ∧ zI z 4 t 0 = -1) ∨ ∃ s : Nat, s < 50 ∧ z1 = aUnw z t s ∧ zI z 4 t 0 = nI s) : Ze (zu (aW z1 t 50) 3 t 0 v) (aWipe z t v) := by
  have e : ∀ f u r : Nat, zI (zu (aW z1 t 50) 3 t 0 v) f u r = if f = 3 ∧ u = t ∧ r = 0 then v else if u = t ∧ r < 50 ∧ f = 0 then -1 else if u = t ∧ r < 50 ∧ (f = 1 ∨ f = 2) then 0 else zI z1 f u r := fun f u r => rfl
  have i1 : ∀ f u r : Nat, f ≠ 4 → zI z1 f u r = zI z f u r := fun f u r hf => by
    rcases h with ⟨q, -⟩ | ⟨s, -, q, -⟩
    · rw [q]
    · rw [q, aUnw_I, if_neg (fun y => hf y.1)]
  have i4 : ∀ u : Nat, zI z1 4 u 0 = if u = t then -1 else zI z 4 u 0 := fun u => by
    rcases h with ⟨q, q'⟩ | ⟨s, -, q, -⟩
    · rw [q]
      by_cases c : u = t
      · rw [if_pos c, c, q']
      · rw [if_neg c]
    · rw [q, aUnw_I]
      by_cases c : u = t
      · rw [if_pos ⟨rfl, c, rfl⟩, if_pos c]
      · rw [if_neg (fun y => c y.2.1), if_neg c]
  have n1 : z1.2.2 = z.2.2 := by
    rcases h with ⟨q, -⟩ | ⟨s, -, q, -⟩ <;> rw [q] <;> rfl
  have q1 : ∀ r : Nat, r < 50 → zQ z1 r = (zQ z r).erase t := fun r hr => by
    have nin : ¬ zI z 4 t 0 = nI r → (zQ z r).erase t = zQ z r := fun c => List.erase_of_not_mem (fun y => c ((o.2.2.2.1 r t hr).mp y).2.2)
    rcases h with ⟨q, q'⟩ | ⟨s, hs, q, q'⟩
    · rw [q, nin (by rw [q']; exact nIm1 (by omega))]
    · rw [q, aUnw_Q]
      by_cases c : r = s
      · rw [if_pos c, c]
      · rw [if_neg c, nin (by rw [q']; exact nI_ne hs hr (fun y => c y.symm))]
  have big : ∀ f u : Nat, 3 ≤ f → f ≠ 4 → (u ≠ t ∨ (f ≠ 3 ∧ f ≠ 5)) → zI (aWipe z t v) f u 0 = zI (zu (aW z1 t 50) 3 t 0 v) f u 0 := fun f u hf h4 hc => by
    rw [e, aWipe_I, i1 f u 0 h4]
    by_cases c : u = t
    · rw [if_pos c, if_neg (by omega), if_neg (by omega), if_neg (by omega), if_pos rfl, if_neg (by omega), if_neg h4, if_neg (by omega), if_neg (by omega), if_neg (by omega), if_neg (by omega)]
    · rw [if_neg c, if_neg (by omega), if_neg (by omega), if_neg (by omega)]
  have nn : zn (zu (aW z1 t 50) 3 t 0 v) = zn z := congrArg (fun y => y.2.1) n1
  refine ⟨nn.symm, fun u r _ _ hr => ⟨?_, ?_, ?_, ?_⟩, fun u _ _ => ⟨?_, ?_, fun c => ?_, big 6 u (by decide) (by decide) (Or.inr (by decide)), big 7 u (by decide) (by decide) (Or.inr (by decide))⟩, fun r hr => (q1 r hr).symm, (congrArg (fun y => y.1) n1).symm, fun r _ => (congrFun (congrArg (fun y => y.2.2.2) n1) r).symm⟩
  · rw [e, aWipe_I, i1 0 u r (by decide)]
    by_cases c : u = t
    · rw [if_pos c, if_pos rfl, if_neg (by omega), if_pos ⟨c, hr, rfl⟩]
    · rw [if_neg c, if_neg (by omega), if_neg (by omega), if_neg (by omega)]
  · rw [e, aWipe_I, i1 1 u r (by decide)]
    by_cases c : u = t
    · rw [if_pos c, if_neg (by omega), if_pos rfl, if_neg (by omega), if_neg (by omega), if_pos ⟨c, hr, Or.inl rfl⟩]
    · rw [if_neg c, if_neg (by omega), if_neg (by omega), if_neg (by omega)]
  · rw [e, aWipe_I, i1 2 u r (by decide)]
    by_cases c : u = t
    · rw [if_pos c, if_neg (by omega), if_neg (by omega), if_pos rfl, if_neg (by omega), if_neg (by omega), if_pos ⟨c, hr, Or.inr rfl⟩]
    · rw [if_neg c, if_neg (by omega), if_neg (by omega), if_neg (by omega)]
  · exact (congrFun (congrFun (congrArg (fun y => y.2.2.1) n1) u) r).symm
  · rw [e, aWipe_I]
    by_cases c : u = t
    · rw [if_pos c, if_neg (by omega), if_neg (by omega), if_neg (by omega), if_pos rfl, if_pos rfl, if_pos ⟨rfl, c, rfl⟩]
    · rw [if_neg c, if_neg (by omega), if_neg (by omega), if_neg (by omega), i1 3 u 0 (by decide)]
  · rw [e, aWipe_I, i4]
    by_cases c : u = t
    · rw [if_pos c, if_neg (by omega), if_neg (by omega), if_neg (by omega), if_pos rfl, if_neg (by omega), if_pos rfl, if_neg (by omega), if_neg (by omega), if_neg (by omega), if_pos c]
    · rw [if_neg c, if_neg (by omega), if_neg (by omega), if_neg (by omega), if_neg c]
  · have cu : u ≠ t := fun y => c (by rw [e, i4, if_neg (by omega), if_neg (by omega), if_neg (by omega), if_pos y])
    exact big 5 u (by decide) (by decide) (Or.inl cu)
theorem X_clear {g : Gm} {Y : Nat → Prop} {h0 h : Hp} {a n r q t : Nat} {v : Int32} {A : Nat → Nat} {z : Zs} {post : Int32 → Hp → Prop} (m : MI Y h0 h a A n r q) (e : MZ h a A z) (o : Zo z) (hr : r ≤ 2000) (ht1 : 1 ≤ t) (htn : t ≤ zn z) (hv : ¬ v = 1)
    (hp : ∀ (h' : Hp) (q' : Nat), q' ≤ q → (¬ zI z 4 t 0 = -1 → q' + 1 ≤ q) → MI Y h0 h' a A n r q' → MZ h' a A (aClear z t v) → post (nI (aHeld z t)) h') : wp_M_clear g post h a (nI t) v := by
  have h50 : (50 : Int32) = nI 50 := rfl
  have o1 := o.1
  have ht : t ≤ 30 := by omega
  have loop : ∀ (x : Int32) (q' : Nat) (z1 : Zs), ((z1 = z ∧ zI z 4 t 0 = -1) ∨ ∃ s : Nat, s < 50 ∧ z1 = aUnw z t s ∧ zI z 4 t 0 = nI s) → (∀ h' : Hp, MI Y h0 h' a A n r q' → MZ h' a A (aClear z t v) → post x h') → ∀ (d s : Nat) (h : Hp), s + d = 50 → MI Y h0 h a A n r q' → MZ h a A (aW z1 t s) → hI h (A 7) t = -1 → wp_M_clear_14 g post (d + 1) h a (nI t) v x (nI s) := by
    intro x q' z1 hz1 hp' d
    induction d with
    | zero =>
      intro s h ed m e w
      have ed : s = 50 := by omega
      subst ed
      unfold wp_M_clear_14
      refine ⟨fun _ => ⟨m.2.1.1, X_forget m e hr fun h3 m3 e3 w3 => ?_⟩, fun c => absurd (by decide) c⟩
      obtain ⟨z1', z2, z3⟩ := m3.2.1.row 5 21 31 (by decide)
      refine ⟨m3.2.1.1, A 5, z1', z2, by rw [z3]; exact vp_in_nI (by omega) (by omega), fun h7 e7 => ?_⟩
      rw [nI_clamp (by omega)] at e7
      have m7 : MI Y h0 h7 a A n r q' := by rw [e7]; exact m3.w5 (Or.inl (by rw [w3]; exact w))
      have e7' : MZ h7 a A (aWipe z t v) := by rw [e7]; exact (e3.w5 m3.2.1).congr (wipe_Ze o hz1)
      exact ⟨m7.2.1.1, X_grant m7 e7' (aWipe_o o ht1 htn hv) fun h9 m9 e9 => hp' h9 m9 e9⟩
    | succ d ih =>
      intro s h ed m e w
      obtain ⟨u1, u2, u3⟩ := m.2.1.row 9 21 1550 (by decide)
      unfold wp_M_clear_14
      refine ⟨fun c => ?_, fun _ => ⟨m.2.1.1, A 9, u1, M_of ⟨u2, by rw [u3]; exact vp_in_nI (by omega) (by omega), fun h16 e16 => ?_⟩⟩⟩
      · rw [h50] at c
        have := (nI_leI (by omega) (by omega)).mp c
        omega
      · rw [nI_clamp (n := 50 * t + s) (by omega)] at e16
        have m16 : MI Y h0 h16 a A n r q' := by rw [e16]; exact m.wI (k := 9) (kd := 21) (len := 1550) (by decide) (by decide)
        have z16 : MZ h16 a A (zu (aW z1 t s) 0 t s (-1)) := by rw [e16]; exact e.w9 m.2.1 ht (by omega)
        have w16 : hI h16 (A 7) t = -1 := by rw [e16, sI_o (m.2.1.ne 7 9 21 31 21 1550 (by decide) (by decide) (by decide))]; exact w
        obtain ⟨y1, y2, y3⟩ := m16.2.1.row 11 23 1550 (by decide)
        refine ⟨m16.2.1.1, A 11, y1, M_of ⟨y2, by rw [y3]; exact vp_in_nI (by omega) (by omega), Or.inl rfl, fun h23 e23 => ?_⟩⟩
        rw [nI_clamp (n := 50 * t + s) (by omega)] at e23
        have m23 : MI Y h0 h23 a A n r q' := by rw [e23]; exact m16.wI (k := 11) (kd := 23) (len := 1550) (by decide) (by decide)
        have z23 : MZ h23 a A (zu (zu (aW z1 t s) 0 t s (-1)) 1 t s 0) := by rw [e23]; exact z16.w11 m16.2.1 ht (by omega)
        have w23 : hI h23 (A 7) t = -1 := by rw [e23, sI_o (m16.2.1.ne 7 11 21 31 23 1550 (by decide) (by decide) (by decide))]; exact w16
        obtain ⟨x1, x2, x3⟩ := m23.2.1.row 12 23 1550 (by decide)
        refine ⟨m23.2.1.1, A 12, x1, M_of ⟨x2, by rw [x3]; exact vp_in_nI (by omega) (by omega), Or.inl rfl, fun h30 e30 x31 e31 => ?_⟩⟩
        rw [nI_clamp (n := 50 * t + s) (by omega)] at e30
        rw [nI_1] at e31
        subst e31
        refine ih (s + 1) h30 (by omega) (by rw [e30]; exact m23.wI (k := 12) (kd := 23) (len := 1550) (by decide) (by decide)) ?_ ?_
        · rw [e30]; exact (z23.w12 m23.2.1 ht (by omega)).congr (aW_step z1 t s)
        · rw [e30, sI_o (m23.2.1.ne 7 12 21 31 23 1550 (by decide) (by decide) (by decide))]; exact w23
  have aW0 : ∀ z1 : Zs, Ze z1 (aW z1 t 0) := fun z1 => by
    have e : ∀ f u r : Nat, zI (aW z1 t 0) f u r = zI z1 f u r := fun f u r => by rw [aW_I, if_neg (by omega), if_neg (by omega)]
    exact ⟨rfl, fun u r _ _ _ => ⟨e .., e .., e .., rfl⟩, fun u _ _ => ⟨e .., e .., fun _ => e .., e .., e ..⟩, fun r _ => rfl, rfl, fun r _ => rfl⟩
  have hc : cntF (mHeld h A t) 50 = aHeld z t := cntF_congr fun s hs => by
    unfold mHeld
    rw [(e.2.1 t s ht1 ht hs).1]
  unfold wp_M_clear
  refine ⟨m.2.1.1, M_locksOf m.2.1 ht ⟨m.2.1.1, ?_⟩⟩
  rw [hc]
  have e7 := (e.2.2.1 t ht1 ht).2.1
  rcases o.2.2.2.2.1 t ht1 ht with hw | ⟨s, hs, hw⟩
  · exact M_unwait0 m.2.1 ht (e7.trans hw) ⟨51, loop _ q z (Or.inl ⟨rfl, hw⟩) (fun h' m' e' => hp h' q (Nat.le_refl q) (fun y => absurd hw y) m' e') 50 0 h rfl m (e.congr (aW0 z)) (e7.trans hw)⟩
  · exact X_unwait m e o ht1 ht hs hw htn fun h' q' eq' m' e' w' _ => ⟨51, loop _ q' (aUnw z t s) (Or.inr ⟨s, hs, rfl, hw⟩) (fun h'' m'' e'' => hp h'' q' (by omega) (fun _ => by omega) m'' e'') 50 0 h' rfl m' (e'.congr (aW0 _)) w'⟩
