/-! ABSTRACT: what each call keeps -/
/-- a level comes up: who couldn't have it can't now -/
theorem up_dec {l w v : Int32} (hl : l = -1 ∨ l = 0 ∨ l = 1 ∨ l = 2) (hw : w = 0 ∨ w = 1 ∨ w = 2) (hv : v = 0 ∨ v = 1 ∨ v = 2) (h : l < w) : (w = -1 ∨ ¬ 2 ≤ w + v) → (l = -1 ∨ ¬ 2 ≤ l + v) := by
  rcases hl with q | q | q | q <;> rcases hw with q' | q' | q' <;> rcases hv with q'' | q'' | q'' <;> subst q <;> subst q' <;> subst q'' <;> revert h <;> decide
theorem take_w {z : Zs} {t s : Nat} {w : Int32} (k : Zw z) (t1 : 1 ≤ t) (t2 : t ≤ zn z) (hs : s < 50) (hst : zI z 3 t 0 = 0) (hv : w = 0 ∨ w = 1 ∨ w = 2) (hlt : zI z 0 t s < w) : Zw (zu z 0 t s w) := by
  obtain ⟨o, kz, st, dn⟩ := k
  have o1 := o.1
  have hw : zI z 4 t 0 = -1 := by
    by_cases c : zI z 4 t 0 = -1
    · exact c
    · have := (o.2.2.2.2.2.1 t t1 (by omega)).mpr c
      rw [hst] at this; exact absurd this (by decide)
  have ei : ∀ f u r : Nat, f ≠ 0 → zI (zu z 0 t s w) f u r = zI z f u r := fun f u r hf => by rw [zu_I, if_neg (fun y => hf y.1)]
  refine ⟨zu_o o t2 (Or.inr (Or.inr (Or.inr ⟨rfl, by rcases hv with q | q | q; exact Or.inr (Or.inl q); exact Or.inr (Or.inr (Or.inl q)); exact Or.inr (Or.inr (Or.inr q))⟩))), kz, fun r hr u l e => ?_, fun u r u1 u2 hr e => ?_⟩
  · have e : zQ z r = u :: l := e
    have hu := (o.2.2.2.1 r u hr).mp (by rw [e]; exact List.mem_cons_self ..)
    have hwu : ¬ zI z 4 u 0 = -1 := by rw [hu.2.2]; exact nI_nm1 (by omega)
    have wv := o.2.2.2.2.2.2.1 u hu.1 (by omega) hwu
    have h := st r hr u l e
    rw [ei 5 u 0 (by decide)]
    refine fun y => h (aFree_mon _ (fun j hj => ?_) y)
    by_cases c : j + 1 = t ∧ r = s
    · rw [zu_I, if_pos ⟨rfl, c.1, c.2⟩, c.1, c.2]
      intro y
      rcases y with y | y
      · exact Or.inl y
      · exact Or.inr (up_dec (o.2.1 t s t1 (by omega) hs) hv wv hlt y)
    · rw [zu_I, if_neg (fun y => c y.2)]; exact fun y => y
  · rw [ei 3 u 0 (by decide)] at e
    rw [zu_I, if_neg (fun y => by rw [y.2.1, hst] at e; exact absurd e (by decide)), ei 1 u r (by decide), ei 2 u r (by decide)]
    exact dn u r u1 u2 hr e
theorem enter_w {z : Zs} {t s : Nat} {w : Int32} (k : Zw z) (t1 : 1 ≤ t) (t2 : t ≤ zn z) (hs : s < 50) (hst : zI z 3 t 0 = 0) (hv : w = 0 ∨ w = 1 ∨ w = 2) (hf : ¬ (aFree z t s w (zn z) = true ∧ (¬ zI z 0 t s = -1 ∨ zQ z s = []))) : Zw (aEnter z t s (if zI z 0 t s = -1 then (zQ z s).length else aPos z s (zQ z s)) w) := by
  obtain ⟨o, kz, st, dn⟩ := k
  have o1 := o.1
  have hw : zI z 4 t 0 = -1 := by
    by_cases c : zI z 4 t 0 = -1
    · exact c
    · have := (o.2.2.2.2.2.1 t t1 (by omega)).mpr c
      rw [hst] at this; exact absurd this (by decide)
  obtain ⟨p, hp⟩ : ∃ p, p = if zI z 0 t s = -1 then (zQ z s).length else aPos z s (zQ z s) := ⟨_, rfl⟩
  rw [← hp]
  have nin : ∀ r : Nat, r < 50 → t ∉ zQ z r := fun r hr y => by
    have := ((o.2.2.2.1 r t hr).mp y).2.2
    rw [hw] at this
    exact nIm1 (by omega) this
  have e0 : ∀ f u r : Nat, f ≠ 3 → f ≠ 4 → f ≠ 5 → zI (aEnter z t s p w) f u r = zI z f u r := fun f u r h3 h4 h5 => by
    rw [aEnter_I, if_neg (fun q => h3 q.2.2), if_neg (fun q => h4 q.2.2), if_neg (fun q => h5 q.2.2)]
  have eo : ∀ f u r : Nat, u ≠ t → zI (aEnter z t s p w) f u r = zI z f u r := fun f u r hu => by
    rw [aEnter_I, if_neg (fun q => hu q.1), if_neg (fun q => hu q.1), if_neg (fun q => hu q.1)]
  have fr : ∀ (u r : Nat) (v : Int32), aFree (aEnter z t s p w) u r v (zn z) = aFree z u r v (zn z) := fun u r v => aFree_congr _ fun j _ => e0 0 (j + 1) r (by decide) (by decide) (by decide)
  refine ⟨aEnter_o o t1 t2 hs hw hv, kz, fun r hr u l e => ?_, fun u r u1 u2 hr e => ?_⟩
  · show ¬ aFree (aEnter z t s p w) u r (zI (aEnter z t s p w) 5 u 0) (zn z) = true
    rw [fr]
    rw [aEnter_Q] at e
    by_cases c : r = s
    · rw [if_pos c] at e
      rw [c]
      cases q : zQ z s with
      | nil =>
        rw [q] at e
        have e : t :: [] = u :: l := by simpa using e
        injection e with e1 e2
        subst e1
        have e5 : zI (aEnter z t s p w) 5 t 0 = w := by rw [aEnter_I]; simp
        rw [e5]
        exact fun y => hf ⟨y, Or.inr q⟩
      | cons b l' =>
        by_cases p0 : p = 0
        · rw [p0, q] at e
          have e : t :: b :: l' = u :: l := by simpa using e
          injection e with e1 e2
          subst e1
          have e5 : zI (aEnter z t s p w) 5 t 0 = w := by rw [aEnter_I]; simp
          rw [e5]
          refine fun y => hf ⟨y, Or.inl fun y2 => ?_⟩
          rw [if_pos y2, q, List.length_cons] at hp
          omega
        · obtain ⟨p', rfl⟩ : ∃ p', p = p' + 1 := ⟨p - 1, by omega⟩
          rw [q, List.take_succ_cons, List.cons_append] at e
          injection e with e1 e2
          subst e1
          have hb : b ∈ zQ z s := by rw [q]; exact List.mem_cons_self ..
          rw [eo 5 b 0 (fun y => nin s hs (y ▸ hb))]
          exact st s hs b l' q
    · rw [if_neg c] at e
      have hu : u ∈ zQ z r := by rw [e]; exact List.mem_cons_self ..
      rw [eo 5 u 0 (fun y => nin r hr (y ▸ hu))]
      exact st r hr u l e
  · by_cases c : u = t
    · rw [aEnter_I, if_pos ⟨c, rfl, rfl⟩] at e; exact absurd e (by decide)
    · rw [eo 3 u 0 c] at e
      rw [eo 0 u r c, eo 1 u r c, eo 2 u r c]
      exact dn u r u1 u2 hr e
theorem aAskL_w {z : Zs} {lm : Int32} {t s : Nat} {w : Int32} (k : Zw z) (t1 : 1 ≤ t) (t2 : t ≤ zn z) (hs : s < 50) (hst : zI z 3 t 0 = 0) (hv : w = 0 ∨ w = 1 ∨ w = 2) : Zw (aAskL z lm t s w).2 ∧ zn (aAskL z lm t s w).2 = zn z := by
  unfold aAskL
  by_cases c1 : zI z 0 t s < w
  · rw [if_pos c1]
    by_cases c2 : zI z 0 t s = -1 ∧ ¬ lm ≤ 0 ∧ ¬ nI (aHeld z t) < lm
    · rw [if_pos c2]; dsimp only; exact aClear_w k t1 t2 (by decide)
    · rw [if_neg c2]
      by_cases c3 : aFree z t s w (zn z) = true ∧ (¬ zI z 0 t s = -1 ∨ zQ z s = [])
      · rw [if_pos c3]; exact ⟨take_w k t1 t2 hs hst hv c1, rfl⟩
      · rw [if_neg c3]
        exact aBrk_w t1 30 _ t2 (enter_w k t1 t2 hs hst hv c3)
  · rw [if_neg c1]; exact ⟨k, rfl⟩
/-- an int is set that the lines don't hang on -/
theorem zu12_w {z : Zs} {f t s : Nat} {v : Int32} (k : Zw z) (t2 : t ≤ zn z) (hst : zI z 3 t 0 = 0) (hf : f = 1 ∨ f = 2) : Zw (zu z f t s v) := by
  obtain ⟨o, kz, st, dn⟩ := k
  have ei : ∀ f' u r : Nat, f' ≠ f → zI (zu z f t s v) f' u r = zI z f' u r := fun f' u r h => by rw [zu_I, if_neg (fun y => h y.1)]
  refine ⟨zu_o o t2 (by rcases hf with q | q; exact Or.inl q; exact Or.inr (Or.inl q)), kz, fun r hr => (st r hr).congr rfl rfl (fun u _ => ei 5 u 0 (by omega)) (fun u _ _ => ei 0 u r (by omega)), fun u r u1 u2 hr e => ?_⟩
  rw [ei 3 u 0 (by omega)] at e
  have c : u ≠ t := fun y => by rw [y, hst] at e; exact absurd e (by decide)
  have eo : ∀ f' r : Nat, zI (zu z f t s v) f' u r = zI z f' u r := fun f' r => by rw [zu_I, if_neg (fun y => c y.2.1)]
  rw [eo, eo, eo]
  exact dn u r u1 u2 hr e
theorem cAsk_w {z : Zs} {lm i1 i2 i3 : Int32} (k : Zw z) : Zw (cAsk z lm i1 i2 i3).2 ∧ zn (cAsk z lm i1 i2 i3).2 = zn z := by
  unfold cAsk
  rcases aTk_c (z := z) i1 k.1.1 with ⟨t, t1, t2, e1, ea⟩ | ⟨ea, hn⟩
  · rw [if_neg (by omega), ea]
    by_cases c : aSn i2 = 50 ∨ i3 < 0 ∨ ¬ i3 ≤ 3
    · rw [if_pos c]; exact ⟨k, rfl⟩
    · rw [if_neg c]
      by_cases st : zI z 3 t 0 = 0
      · rw [if_neg (fun y => y st)]
        rcases aSn_c i2 with ⟨s, hs, e2, es⟩ | ⟨es, hn⟩
        · rw [es]
          by_cases n3 : i3 = 3
          · rw [if_pos n3]; exact ⟨zu12_w k t2 st (Or.inl rfl), rfl⟩
          · rw [if_neg n3]
            exact aAskL_w k t1 t2 hs st (i03 (fun y => c (Or.inr (Or.inl y))) (Decidable.of_not_not fun y => c (Or.inr (Or.inr y))) n3)
        · exact absurd (Or.inl es) c
      · rw [if_pos st]; exact ⟨k, rfl⟩
  · rw [if_pos ea]; exact ⟨k, rfl⟩
theorem cWrite_w {z : Zs} {i1 i2 : Int32} {v : Int64} (k : Zw z) : Zw (cWrite z i1 i2 v).2 ∧ zn (cWrite z i1 i2 v).2 = zn z := by
  unfold cWrite
  rcases aTk_c (z := z) i1 k.1.1 with ⟨t, t1, t2, e1, ea⟩ | ⟨ea, hn⟩
  · rw [if_neg (by omega), ea]
    by_cases c : aSn i2 = 50
    · rw [if_pos c]; exact ⟨k, rfl⟩
    · rw [if_neg c]
      by_cases st : zI z 3 t 0 = 0
      · rw [if_neg (fun y => y st)]
        by_cases c1 : 1 ≤ zI z 0 t (aSn i2)
        · rw [if_pos c1]
          refine ⟨?_, rfl⟩
          obtain ⟨w1, w2, w3, w4⟩ := zu12_w (f := 2) (s := aSn i2) (v := 1) k t2 st (Or.inr rfl)
          refine ⟨w1, fun u r u1 u2 hr => ?_, fun r hr => (w3 r hr).congr rfl rfl (fun _ _ => rfl) (fun _ _ _ => rfl), w4⟩
          have u1 : zn z < u := u1
          show (if u = t ∧ r = aSn i2 then v else zK z u r) = 0
          rw [if_neg (fun y => by omega)]
          exact k.2.1 u r u1 u2 hr
        · rw [if_neg c1]; exact ⟨k, rfl⟩
      · rw [if_pos st]; exact ⟨k, rfl⟩
  · rw [if_pos ea]; exact ⟨k, rfl⟩
theorem aAgr_w {z : Zs} {t : Nat} (k : Zw z) : Zw (aAgr z t) := ⟨k.1, k.2.1, fun r hr => (k.2.2.1 r hr).congr rfl rfl (fun _ _ => rfl) (fun _ _ _ => rfl), k.2.2.2⟩
theorem cSync_w {z : Zs} {i : Int32} (k : Zw z) : Zw (cSync z i).2 ∧ zn (cSync z i).2 = zn z := by
  unfold cSync
  rcases aTk_c (z := z) i k.1.1 with ⟨t, t1, t2, e1, ea⟩ | ⟨ea, hn⟩
  · rw [if_neg (by omega), ea]
    by_cases st : zI z 3 t 0 = 0
    · rw [if_neg (fun y => y st)]; dsimp only; exact aClear_w (aAgr_w (t := t) k) t1 t2 (by decide)
    · rw [if_pos st]; exact ⟨k, rfl⟩
  · rw [if_pos ea]; exact ⟨k, rfl⟩
theorem cChk_w {z : Zs} {i : Int32} (k : Zw z) : Zw (cChk z i).2 ∧ zn (cChk z i).2 = zn z := by
  unfold cChk
  rcases aTk_c (z := z) i k.1.1 with ⟨t, t1, t2, e1, ea⟩ | ⟨ea, hn⟩
  · rw [if_neg (by omega), ea]
    by_cases st : zI z 3 t 0 = 0
    · rw [if_neg (fun y => y st)]; dsimp only; exact aClear_w (aAgr_w (t := t) k) t1 t2 (by decide)
    · rw [if_pos st]; exact ⟨k, rfl⟩
  · rw [if_pos ea]; exact ⟨k, rfl⟩
theorem cBack_w {z : Zs} {i : Int32} (k : Zw z) : Zw (cBack z i).2 ∧ zn (cBack z i).2 = zn z := by
  unfold cBack
  rcases aTk_c (z := z) i k.1.1 with ⟨t, t1, t2, e1, ea⟩ | ⟨ea, hn⟩
  · rw [if_neg (by omega), ea]
    by_cases st : zI z 3 t 0 = 2
    · rw [if_pos st]; exact ⟨k, rfl⟩
    · rw [if_neg st]; dsimp only; exact aClear_w k t1 t2 (by decide)
  · rw [if_pos ea]; exact ⟨k, rfl⟩
theorem cDeadM_w {z : Zs} {i : Int32} (k : Zw z) : Zw (cDeadM z i).2 ∧ zn (cDeadM z i).2 = zn z := by
  unfold cDeadM
  rcases aTk_c (z := z) i k.1.1 with ⟨t, t1, t2, e1, ea⟩ | ⟨ea, hn⟩
  · rw [if_neg (by omega), ea]
    by_cases st : zI z 3 t 0 = 2
    · rw [if_pos st]; exact ⟨k, rfl⟩
    · rw [if_neg st]; dsimp only; exact aClear_w k t1 t2 (by decide)
  · rw [if_pos ea]; exact ⟨k, rfl⟩
theorem aTask_w {z : Zs} {i : Int32} (k : Zw z) (hn : zn z < 30) : Zw (aTask z i) := by
  obtain ⟨o, kz, st, dn⟩ := k
  have ei : ∀ f u r : Nat, f ≠ 7 → zI (aTask z i) f u r = zI z f u r := fun f u r h => if_neg (fun y => h y.1)
  have en : zn (aTask z i) = zn z + 1 := rfl
  have oz := o.2.2.2.2.2.2.2 (zn z + 1) (by omega) (by omega)
  refine ⟨aTask_o o hn, fun u r u1 u2 hr => kz u r (by omega) u2 hr, fun r hr u l e => ?_, fun u r u1 u2 hr e => ?_⟩
  · have e : zQ z r = u :: l := e
    rw [ei 5 u 0 (by decide), en]
    intro y
    have y : (aFree (aTask z i) u r (zI z 5 u 0) (zn z) && decide _) = true := y
    rw [Bool.and_eq_true] at y
    refine st r hr u l e ?_
    rw [← y.1]
    exact (aFree_congr _ fun j _ => ei 0 (j + 1) r (by decide)).symm
  · rw [ei 3 u 0 (by decide)] at e
    rw [ei 0 u r (by decide), ei 1 u r (by decide), ei 2 u r (by decide)]
    rw [en] at u2
    by_cases c : u = zn z + 1
    · rw [c]; exact oz.2.2.2 r hr
    · exact dn u r u1 (by omega) hr e
/-- a dead task that is let go once more: nothing changes -/
theorem dead_2 {z : Zs} {t : Nat} (k : Zw z) (t1 : 1 ≤ t) (t2 : t ≤ zn z) (st : zI z 3 t 0 = 2) : aHeld z t = 0 ∧ Ze (aClear z t 2) z := by
  obtain ⟨o, kz, sa, dn⟩ := k
  have o1 := o.1
  have hw : zI z 4 t 0 = -1 := by
    by_cases c : zI z 4 t 0 = -1
    · exact c
    · have := (o.2.2.2.2.2.1 t t1 (by omega)).mpr c
      rw [st] at this; exact absurd this (by decide)
  have nin : ∀ r : Nat, r < 50 → t ∉ zQ z r := fun r hr y => by
    have := ((o.2.2.2.1 r t hr).mp y).2.2
    rw [hw] at this
    exact nIm1 (by omega) this
  have hq : ∀ r : Nat, r < 50 → zQ (aWipe z t 2) r = zQ z r := fun r hr => List.erase_of_not_mem (nin r hr)
  have e3 : ∀ u : Nat, 1 ≤ u → u ≤ 30 → zI z 3 u 0 = zI (aWipe z t 2) 3 u 0 ∧ zI z 4 u 0 = zI (aWipe z t 2) 4 u 0 ∧ (¬ zI (aWipe z t 2) 4 u 0 = -1 → zI z 5 u 0 = zI (aWipe z t 2) 5 u 0) ∧ zI z 6 u 0 = zI (aWipe z t 2) 6 u 0 ∧ zI z 7 u 0 = zI (aWipe z t 2) 7 u 0 := fun u u1 u2 => by
    simp only [aWipe_I]
    by_cases c : u = t
    · subst c
      simp [st, hw]
    · simp [c]
  have e0 : ∀ u s : Nat, 1 ≤ u → u ≤ 30 → s < 50 → zI z 0 u s = zI (aWipe z t 2) 0 u s ∧ zI z 1 u s = zI (aWipe z t 2) 1 u s ∧ zI z 2 u s = zI (aWipe z t 2) 2 u s ∧ zK z u s = zK (aWipe z t 2) u s := fun u s u1 u2 hs => by
    simp only [aWipe_I]
    by_cases c : u = t
    · subst c
      obtain ⟨d1, d2, d3⟩ := dn u s u1 t2 hs st
      exact ⟨by rw [d1]; simp, by rw [d2]; simp, by rw [d3]; simp, rfl⟩
    · simp [c]; rfl
  have sw : St (aWipe z t 2) := fun s hs => (sa s hs).congr rfl (hq s hs) (fun u hu => by
    have : u ≠ t := fun y => nin s hs (y ▸ hu)
    rw [aWipe_I, if_neg this]) (fun u u1 u2 => ((e0 u s u1 (by omega) hs).1).symm)
  have ec : aClear z t 2 = aWipe z t 2 := aGr_rest sw 50 0 (by omega)
  refine ⟨cnt0 _ _ fun s hs => by rw [(dn t s t1 t2 hs st).1]; rfl, ?_⟩
  rw [ec]
  exact ⟨rfl, e0, e3, fun s hs => (hq s hs).symm, rfl, fun _ _ => rfl⟩
theorem Cz.congr {h : Hp} {L : Nat → List Nat} {B : Nat → Nat → Nat} {D : Nat → Nat} {W : List Nat} {z z' : Zs} (a : Cz h L B D W z) (hn : zn z ≤ 30) (e : Ze z z') : Cz h L B D W z' := by
  obtain ⟨⟨a1, a2, w1, w2, w3, w4⟩, r1, r2⟩ := a
  obtain ⟨e1, e2, e3, e4, e5, e6⟩ := e
  refine ⟨⟨a1.congr hn (Ze.f ⟨e1, e2, e3, e4, e5, e6⟩), a2.congr hn (Ze.f ⟨e1, e2, e3, e4, e5, e6⟩), w1, w2, fun t => ?_, fun s hs => ?_⟩, by rw [e5]; exact r1, by rw [e5, e1]; exact r2⟩
  · rw [w3 t, e1]
    constructor
    · rintro ⟨q1, q2, q3⟩
      exact ⟨q1, q2, by rw [(e3 t q1 (by omega)).2.1]; exact q3⟩
    · rintro ⟨q1, q2, q3⟩
      exact ⟨q1, q2, by rw [(e3 t q1 (by omega)).2.1] at q3; exact q3⟩
  · rw [e4 s hs, ← w4 s hs]
    refine List.filter_congr fun u hu => ?_
    obtain ⟨q1, q2, q3⟩ := (w3 u).mp hu
    rw [(e3 u q1 (by omega)).2.1]
