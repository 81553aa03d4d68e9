/-! ABSTRACT: locks are together, one task writes a segment -/
def Ex (z : Zs) : Prop := ∀ s t u : Nat, s < 50 → 1 ≤ t → t ≤ zn z → 1 ≤ u → u ≤ zn z → t ≠ u → zI z 0 t s = -1 ∨ zI z 0 u s = -1 ∨ ¬ 2 ≤ zI z 0 t s + zI z 0 u s
def Zwi (z : Zs) : Prop := ∀ s t : Nat, s < 50 → t ∈ zQ z s → zI z 0 t s < zI z 5 t 0
def Zwl (z : Zs) : Prop := ∀ s t : Nat, s < 50 → 1 ≤ t → t ≤ zn z → ¬ zI z 2 t s = 0 → 1 ≤ zI z 0 t s
def Zx (z : Zs) : Prop := Ex z ∧ Zwi z ∧ Zwl z
theorem aFree_get {z : Zs} {t s : Nat} {w : Int32} : ∀ n : Nat, aFree z t s w n = true → ∀ k : Nat, k < n → (k + 1 = t ∨ zI z 0 (k + 1) s = -1 ∨ ¬ 2 ≤ zI z 0 (k + 1) s + w) := by
  intro n
  induction n with
  | zero => intro _ k hk; omega
  | succ n ih =>
    intro e k hk
    have e : (aFree z t s w n && decide (n + 1 = t ∨ zI z 0 (n + 1) s = -1 ∨ ¬ 2 ≤ zI z 0 (n + 1) s + w)) = true := e
    rw [Bool.and_eq_true] at e
    by_cases c : k = n
    · rw [c]; exact of_decide_eq_true e.2
    · exact ih e.1 k (by omega)
/-- task t's level on s becomes w, nothing else of locks changes -/
theorem Ex.set {z z' : Zs} {t s : Nat} {w : Int32} (h : Ex z) (hn : zn z' = zn z) (h0 : ∀ u r : Nat, zI z' 0 u r = if u = t ∧ r = s then w else zI z 0 u r) (hf : aFree z t s w (zn z) = true) : Ex z' := by
  have one : ∀ u : Nat, 1 ≤ u → u ≤ zn z → u ≠ t → zI z 0 u s = -1 ∨ ¬ 2 ≤ zI z 0 u s + w := fun u u1 u2 hu => by
    have := aFree_get _ hf (u - 1) (by omega)
    rw [show u - 1 + 1 = u by omega] at this
    rcases this with q | q
    · exact absurd q hu
    · exact q
  intro r a b hr a1 a2 b1 b2 hab
  rw [hn] at a2 b2
  rw [h0, h0]
  by_cases ca : a = t ∧ r = s
  · rw [if_pos ca, if_neg (fun y => hab (ca.1.trans y.1.symm))]
    rw [ca.2]
    rcases one b b1 b2 (fun y => hab (ca.1.trans y.symm)) with q | q
    · exact Or.inr (Or.inl q)
    · exact Or.inr (Or.inr (by rw [Int32.add_comm]; exact q))
  · rw [if_neg ca]
    by_cases cb : b = t ∧ r = s
    · rw [if_pos cb, cb.2]
      rcases one a a1 a2 (fun y => hab (y.trans cb.1.symm)) with q | q
      · exact Or.inl q
      · exact Or.inr (Or.inr q)
    · rw [if_neg cb]; exact h r a b hr a1 a2 b1 b2 hab
theorem give_x {z : Zs} {t s : Nat} (o : Zo z) (hs : s < 50) (ht : t ∈ zQ z s) (hf : aFree z t s (zI z 5 t 0) (zn z) = true) (k : Zx z) : Zx (aGive z t s) := by
  obtain ⟨ex, wi, wl⟩ := k
  have e0 : ∀ u r : Nat, zI (aGive z t s) 0 u r = if u = t ∧ r = s then zI z 5 t 0 else zI z 0 u r := fun u r => by
    rw [aGive_I]
    by_cases c : u = t
    · by_cases d : r = s
      · simp [c, d]
      · simp [c, d]
    · simp [c]
  have e2 : ∀ u r : Nat, zI (aGive z t s) 2 u r = zI z 2 u r := fun u r => by
    rw [aGive_I]
    by_cases c : u = t
    · simp [c]
    · simp [c]
  have hts := (o.2.2.2.1 s t hs).mp ht
  have w0 := wi s t hs ht
  refine ⟨ex.set rfl e0 hf, fun r u hr hu => ?_, fun r u hr u1 u2 h2 => ?_⟩
  · have cu : u ≠ t ∧ u ∈ zQ z r := by
      rw [aGive_Q] at hu
      by_cases c : r = s
      · rw [if_pos c] at hu
        have := ((o.2.2.1 s hs).mem_erase_iff).mp hu
        exact ⟨this.1, by rw [c]; exact this.2⟩
      · rw [if_neg c] at hu
        refine ⟨fun y => ?_, hu⟩
        have h1 := ((o.2.2.2.1 r u hr).mp hu).2.2
        rw [y] at h1
        exact nI_ne hr hs c (h1.symm.trans hts.2.2)
    have ea : ∀ f r : Nat, zI (aGive z t s) f u r = zI z f u r := fun f r => by rw [aGive_I, if_neg cu.1]
    rw [ea, ea]; exact wi r u hr cu.2
  · rw [e2] at h2
    have := wl r u hr u1 u2 h2
    rw [e0]
    by_cases c : u = t ∧ r = s
    · rw [if_pos c]
      rw [c.1, c.2] at this
      exact Int32.le_of_lt (Int32.lt_of_le_of_lt this w0)
    · rw [if_neg c]; exact this
theorem grS_x {s : Nat} (hs : s < 50) : ∀ (d : Nat) (z : Zs), Zo z → Zx z → Zx (aGrantS z s d) := by
  intro d
  induction d with
  | zero => intro z _ k; exact k
  | succ d ih =>
    intro z o k
    cases q : zQ z s with
    | nil => rw [aGrantS_nil q]; exact k
    | cons t l =>
      rw [aGrantS_cons q]
      have ht : t ∈ zQ z s := by rw [q]; exact List.mem_cons_self ..
      by_cases y : aFree z t s (zI z 5 t 0) (zn z) = true
      · rw [if_pos y]; exact ih _ (aGive_o o hs ht) (give_x o hs ht y k)
      · rw [if_neg y]; exact k
theorem aGr_x : ∀ (d s : Nat) (z : Zs), s + d ≤ 50 → Zo z → Zx z → Zx (aGr z d s) := by
  intro d
  induction d with
  | zero => intro s z _ _ k; exact k
  | succ d ih => intro s z h o k; exact ih (s + 1) _ (by omega) (aGrantS_o s (by omega) 30 z o).1 (grS_x (by omega) 30 z o k)
theorem wipe_x {z : Zs} {t : Nat} {v : Int32} (o : Zo z) (k : Zx z) : Zx (aWipe z t v) := by
  obtain ⟨ex, wi, wl⟩ := k
  have ea : ∀ f u r : Nat, u ≠ t → zI (aWipe z t v) f u r = zI z f u r := fun f u r c => by rw [aWipe_I, if_neg c]
  have e0 : ∀ r : Nat, zI (aWipe z t v) 0 t r = -1 := fun r => by rw [aWipe_I]; simp
  have e2 : ∀ r : Nat, zI (aWipe z t v) 2 t r = 0 := fun r => by rw [aWipe_I]; simp
  refine ⟨fun r a b hr a1 a2 b1 b2 hab => ?_, fun r u hr hu => ?_, fun r u hr u1 u2 h2 => ?_⟩
  · by_cases ca : a = t
    · rw [ca]; exact Or.inl (e0 r)
    · by_cases cb : b = t
      · rw [cb]; exact Or.inr (Or.inl (e0 r))
      · rw [ea 0 a r ca, ea 0 b r cb]; exact ex r a b hr a1 a2 b1 b2 hab
  · have := ((o.2.2.1 r hr).mem_erase_iff).mp (show u ∈ (zQ z r).erase t from hu)
    rw [ea 0 u r this.1, ea 5 u 0 this.1]; exact wi r u hr this.2
  · by_cases c : u = t
    · rw [c, e2] at h2; exact absurd rfl h2
    · rw [ea 2 u r c] at h2
      rw [ea 0 u r c]; exact wl r u hr u1 u2 h2
theorem aClear_x {z : Zs} {t : Nat} {v : Int32} (o : Zo z) (t1 : 1 ≤ t) (t2 : t ≤ zn z) (hv : ¬ v = 1) (k : Zx z) : Zx (aClear z t v) := aGr_x 50 0 _ (by omega) (aWipe_o o t1 t2 hv) (wipe_x o k)
/-- at most one task has written a segment -/
theorem one_w {z : Zs} {s t u : Nat} (o : Zo z) (k : Zx z) (hs : s < 50) (t1 : 1 ≤ t) (t2 : t ≤ zn z) (u1 : 1 ≤ u) (u2 : u ≤ zn z) (ht : ¬ zI z 2 t s = 0) (hu : ¬ zI z 2 u s = 0) : t = u := by
  by_cases c : t = u
  · exact c
  · have o1 := o.1
    have a := k.2.2 s t hs t1 t2 ht
    have b := k.2.2 s u hs u1 u2 hu
    have e := k.1 s t u hs t1 t2 u1 u2 c
    exfalso
    rcases o.2.1 t s t1 (by omega) hs with q | q | q | q <;> rcases o.2.1 u s u1 (by omega) hs with q' | q' | q' | q' <;> rw [q] at a e <;> rw [q'] at b e <;> revert a b e <;> decide
theorem x_congr {z z' : Zs} (k : Zx z) (hn : zn z' = zn z) (hq : ∀ s : Nat, zQ z' s = zQ z s) (h : ∀ f u r : Nat, f = 0 ∨ f = 2 ∨ f = 5 → zI z' f u r = zI z f u r) : Zx z' := by
  obtain ⟨ex, wi, wl⟩ := k
  refine ⟨fun r a b hr a1 a2 b1 b2 hab => ?_, fun r u hr hu => ?_, fun r u hr u1 u2 h2 => ?_⟩
  · rw [hn] at a2 b2
    rw [h 0 a r (Or.inl rfl), h 0 b r (Or.inl rfl)]; exact ex r a b hr a1 a2 b1 b2 hab
  · rw [hq] at hu
    rw [h 0 u r (Or.inl rfl), h 5 u 0 (Or.inr (Or.inr rfl))]; exact wi r u hr hu
  · rw [hn] at u2
    rw [h 2 u r (Or.inr (Or.inl rfl))] at h2
    rw [h 0 u r (Or.inl rfl)]; exact wl r u hr u1 u2 h2
theorem aRst_x {z : Zs} {t : Nat} {R : List Nat} (o : Zo z) (k : Zx z) (ht1 : 1 ≤ t) (ht : t ≤ zn z) (hw : ¬ zI z 4 t 0 = -1) (e : aFind z t = some R) : Zx (aRst z R) := by
  obtain ⟨y1, y2, y3, y4, y5⟩ := aRst_ok o ht1 ht hw e
  have ou : Zo (zu (zRi z R) 6 (aYg z R 0) 0 (zI z 6 (aYg z R 0) 0 + 1)) := zu_o (zRi_o o) y2 (Or.inr (Or.inr (Or.inl rfl)))
  exact aClear_x ou y1 y2 (by decide) (x_congr k rfl (fun _ => rfl) fun f u r hf => by rw [zu_I, if_neg (fun y => by omega)]; rfl)
theorem aBrk_x {t : Nat} (ht1 : 1 ≤ t) : ∀ (d : Nat) (z : Zs), t ≤ zn z → Zo z → Zx z → Zx (aBrk t d z).2 := by
  intro d
  induction d with
  | zero => intro z _ _ k; exact k
  | succ d ih =>
    intro z ht o k
    unfold aBrk
    by_cases st : zI z 3 t 0 = 1
    · rw [if_pos st]
      cases hf : aFind z t with
      | none => exact k
      | some R =>
        have o1 := o.1
        have hw := (o.2.2.2.2.2.1 t ht1 (by omega)).mp st
        have kr := aRst_x o k ht1 ht hw hf
        obtain ⟨-, -, -, er, en⟩ := aRst_ok o ht1 ht hw hf
        show Zx (if aYg z R 0 = t then ((-1 : Int32), aRst z R) else aBrk t d (aRst z R)).2
        by_cases y : aYg z R 0 = t
        · rw [if_pos y]; dsimp only; exact kr
        · rw [if_neg y]; exact ih (aRst z R) (by omega) er kr
    · rw [if_neg st]; exact k
theorem aAskL_x {z : Zs} {lm : Int32} {t s : Nat} {w : Int32} (o : Zo z) (k : Zx z) (t1 : 1 ≤ t) (t2 : t ≤ zn z) (hs : s < 50) (hst : zI z 3 t 0 = 0) (hv : w = 0 ∨ w = 1 ∨ w = 2) : Zx (aAskL z lm t s w).2 := by
  have o1 := o.1
  have hw : zI z 4 t 0 = -1 := by
    by_cases c : zI z 4 t 0 = -1
    · exact c
    · have := (o.2.2.2.2.2.1 t t1 (by omega)).mpr c
      rw [hst] at this; exact absurd this (by decide)
  have nin : ∀ r : Nat, r < 50 → t ∉ zQ z r := fun r hr y => by
    have := ((o.2.2.2.1 r t hr).mp y).2.2
    rw [hw] at this
    exact nIm1 (by omega) this
  unfold aAskL
  by_cases c1 : zI z 0 t s < w
  · rw [if_pos c1]
    by_cases c2 : zI z 0 t s = -1 ∧ ¬ lm ≤ 0 ∧ ¬ nI (aHeld z t) < lm
    · rw [if_pos c2]; dsimp only; exact aClear_x o t1 t2 (by decide) k
    · rw [if_neg c2]
      by_cases c3 : aFree z t s w (zn z) = true ∧ (¬ zI z 0 t s = -1 ∨ zQ z s = [])
      · rw [if_pos c3]
        obtain ⟨ex, wi, wl⟩ := k
        have e0 : ∀ u r : Nat, zI (zu z 0 t s w) 0 u r = if u = t ∧ r = s then w else zI z 0 u r := fun u r => by
          rw [zu_I]
          by_cases c : u = t ∧ r = s
          · rw [if_pos ⟨rfl, c⟩, if_pos c]
          · rw [if_neg (fun y => c y.2), if_neg c]
        have ei : ∀ f u r : Nat, f ≠ 0 → zI (zu z 0 t s w) f u r = zI z f u r := fun f u r hf => by rw [zu_I, if_neg (fun y => hf y.1)]
        refine ⟨ex.set rfl e0 c3.1, fun r u hr hu => ?_, fun r u hr u1 u2 h2 => ?_⟩
        · have hu : u ∈ zQ z r := hu
          show zI (zu z 0 t s w) 0 u r < zI (zu z 0 t s w) 5 u 0
          have hne : u ≠ t := fun y => nin r hr (y ▸ hu)
          rw [e0, if_neg (fun y => hne y.1), ei 5 u 0 (by decide)]; exact wi r u hr hu
        · have h2 : ¬ zI (zu z 0 t s w) 2 u r = 0 := h2
          show 1 ≤ zI (zu z 0 t s w) 0 u r
          rw [ei 2 u r (by decide)] at h2
          have := wl r u hr u1 u2 h2
          rw [e0]
          by_cases c : u = t ∧ r = s
          · rw [if_pos c]
            rw [c.1, c.2] at this
            exact Int32.le_of_lt (Int32.lt_of_le_of_lt this c1)
          · rw [if_neg c]; exact this
      · rw [if_neg c3]
        refine aBrk_x t1 30 _ t2 (aEnter_o o t1 t2 hs hw hv) ?_
        obtain ⟨p, hp⟩ : ∃ p, p = if zI z 0 t s = -1 then (zQ z s).length else aPos z s (zQ z s) := ⟨_, rfl⟩
        rw [← hp]
        obtain ⟨ex, wi, wl⟩ := k
        have e0 : ∀ f u r : Nat, f ≠ 3 → f ≠ 4 → f ≠ 5 → zI (aEnter z t s p w) f u r = zI z f u r := fun f u r h3 h4 h5 => by
          rw [aEnter_I, if_neg (fun q => h3 q.2.2), if_neg (fun q => h4 q.2.2), if_neg (fun q => h5 q.2.2)]
        have en : zn (aEnter z t s p w) = zn z := rfl
        refine ⟨fun r a b hr a1 a2 b1 b2 hab => ?_, fun r u hr hu => ?_, fun r u hr u1 u2 h2 => ?_⟩
        · rw [e0 0 a r (by decide) (by decide) (by decide), e0 0 b r (by decide) (by decide) (by decide)]; exact ex r a b hr a1 a2 b1 b2 hab
        · rw [e0 0 u r (by decide) (by decide) (by decide)]
          rw [aEnter_Q] at hu
          have alt : u = t ∧ r = s ∨ u ∈ zQ z r := by
            by_cases c : r = s
            · rw [if_pos c, mem_ins] at hu
              rcases hu with q | q
              · exact Or.inl ⟨q, c⟩
              · exact Or.inr (by rw [c]; exact q)
            · rw [if_neg c] at hu; exact Or.inr hu
          rcases alt with q | q
          · have e5 : zI (aEnter z t s p w) 5 t 0 = w := by rw [aEnter_I]; simp
            rw [q.1, q.2, e5]; exact c1
          · have hne : u ≠ t := fun y => nin r hr (y ▸ q)
            rw [aEnter_I, if_neg (fun y => hne y.1), if_neg (fun y => hne y.1), if_neg (fun y => hne y.1)]
            exact wi r u hr q
        · rw [e0 2 u r (by decide) (by decide) (by decide)] at h2
          rw [e0 0 u r (by decide) (by decide) (by decide)]
          exact wl r u hr u1 u2 h2
  · rw [if_neg c1]; exact k
theorem cAsk_x {z : Zs} {lm i1 i2 i3 : Int32} (o : Zo z) (k : Zx z) : Zx (cAsk z lm i1 i2 i3).2 := by
  unfold cAsk
  rcases aTk_c (z := z) i1 o.1 with ⟨t, t1, t2, e1, ea⟩ | ⟨ea, hn⟩
  · rw [if_neg (by omega), ea]
    by_cases c : aSn i2 = 50 ∨ i3 < 0 ∨ ¬ i3 ≤ 3
    · rw [if_pos c]; exact k
    · rw [if_neg c]
      by_cases st : zI z 3 t 0 = 0
      · rw [if_neg (fun y => y st)]
        rcases aSn_c i2 with ⟨s, hs, e2, es⟩ | ⟨es, hn⟩
        · rw [es]
          by_cases n3 : i3 = 3
          · rw [if_pos n3]
            exact x_congr k rfl (fun _ => rfl) fun f u r hf => by
              show zI (zu z 1 t s 1) f u r = _
              rw [zu_I, if_neg (fun y => by omega)]
          · rw [if_neg n3]
            exact aAskL_x o k t1 t2 hs st (i03 (fun y => c (Or.inr (Or.inl y))) (Decidable.of_not_not fun y => c (Or.inr (Or.inr y))) n3)
        · exact absurd (Or.inl es) c
      · rw [if_pos st]; exact k
  · rw [if_pos ea]; exact k
theorem aWrite_x {z : Zs} {t s : Nat} {v : Int64} (k : Zx z) (hl : 1 ≤ zI z 0 t s) : Zx (aWrite z t s v) := by
  obtain ⟨ex, wi, wl⟩ := k
  refine ⟨ex, wi, fun r u hr u1 u2 h2 => ?_⟩
  by_cases c : u = t ∧ r = s
  · rw [c.1, c.2]; exact hl
  · refine wl r u hr u1 u2 fun y => h2 ?_
    show (if 2 = 2 ∧ u = t ∧ r = s then (1 : Int32) else zI z 2 u r) = 0
    rw [if_neg (fun q => c q.2)]; exact y
theorem cWrite_x {z : Zs} {i1 i2 : Int32} {v : Int64} (k : Zx z) : Zx (cWrite z i1 i2 v).2 := by
  unfold cWrite
  by_cases c1 : aTk z i1 = 0
  · rw [if_pos c1]; exact k
  · rw [if_neg c1]
    by_cases c2 : aSn i2 = 50
    · rw [if_pos c2]; exact k
    · rw [if_neg c2]
      by_cases c3 : ¬ zI z 3 (aTk z i1) 0 = 0
      · rw [if_pos c3]; exact k
      · rw [if_neg c3]
        by_cases c4 : 1 ≤ zI z 0 (aTk z i1) (aSn i2)
        · rw [if_pos c4]; exact aWrite_x k c4
        · rw [if_neg c4]; exact k
theorem aTask_x {z : Zs} {i : Int32} (o : Zo z) (k : Zx z) (hn : zn z < 30) : Zx (aTask z i) := by
  obtain ⟨ex, wi, wl⟩ := k
  have ei : ∀ f u r : Nat, f ≠ 7 → zI (aTask z i) f u r = zI z f u r := fun f u r h => if_neg (fun y => h y.1)
  have en : zn (aTask z i) = zn z + 1 := rfl
  have oz := o.2.2.2.2.2.2.2 (zn z + 1) (by omega) (by omega)
  refine ⟨fun r a b hr a1 a2 b1 b2 hab => ?_, fun r u hr hu => ?_, fun r u hr u1 u2 h2 => ?_⟩
  · rw [en] at a2 b2
    rw [ei 0 a r (by decide), ei 0 b r (by decide)]
    by_cases ca : a = zn z + 1
    · rw [ca]; exact Or.inl (oz.2.2.2 r hr).1
    · by_cases cb : b = zn z + 1
      · rw [cb]; exact Or.inr (Or.inl (oz.2.2.2 r hr).1)
      · exact ex r a b hr a1 (by omega) b1 (by omega) hab
  · rw [ei 0 u r (by decide), ei 5 u 0 (by decide)]; exact wi r u hr hu
  · rw [en] at u2
    rw [ei 2 u r (by decide)] at h2
    rw [ei 0 u r (by decide)]
    by_cases c : u = zn z + 1
    · rw [c, (oz.2.2.2 r hr).2.2] at h2; exact absurd rfl h2
    · exact wl r u hr u1 (by omega) h2
theorem aAgr_x {z : Zs} {t : Nat} (k : Zx z) : Zx (aAgr z t) := k
theorem cSync_x {z : Zs} {i : Int32} (o : Zo z) (k : Zx z) : Zx (cSync z i).2 := by
  unfold cSync
  rcases aTk_c (z := z) i o.1 with ⟨t, t1, t2, e1, ea⟩ | ⟨ea, hn⟩
  · rw [if_neg (by omega), ea]
    by_cases st : zI z 3 t 0 = 0
    · rw [if_neg (fun y => y st)]; dsimp only; exact aClear_x (aAgr_o o) t1 t2 (by decide) (aAgr_x k)
    · rw [if_pos st]; exact k
  · rw [if_pos ea]; exact k
theorem cChk_x {z : Zs} {i : Int32} (o : Zo z) (k : Zx z) : Zx (cChk z i).2 := by
  unfold cChk
  rcases aTk_c (z := z) i o.1 with ⟨t, t1, t2, e1, ea⟩ | ⟨ea, hn⟩
  · rw [if_neg (by omega), ea]
    by_cases st : zI z 3 t 0 = 0
    · rw [if_neg (fun y => y st)]; dsimp only; exact aClear_x (aAgr_o o) t1 t2 (by decide) (aAgr_x k)
    · rw [if_pos st]; exact k
  · rw [if_pos ea]; exact k
theorem cBack_x {z : Zs} {i : Int32} (o : Zo z) (k : Zx z) : Zx (cBack z i).2 := by
  unfold cBack
  rcases aTk_c (z := z) i o.1 with ⟨t, t1, t2, e1, ea⟩ | ⟨ea, hn⟩
  · rw [if_neg (by omega), ea]
    by_cases st : zI z 3 t 0 = 2
    · rw [if_pos st]; exact k
    · rw [if_neg st]; dsimp only; exact aClear_x o t1 t2 (by decide) k
  · rw [if_pos ea]; exact k
theorem cDeadM_x {z : Zs} {i : Int32} (o : Zo z) (k : Zx z) : Zx (cDeadM z i).2 := by
  unfold cDeadM
  rcases aTk_c (z := z) i o.1 with ⟨t, t1, t2, e1, ea⟩ | ⟨ea, hn⟩
  · rw [if_neg (by omega), ea]
    by_cases st : zI z 3 t 0 = 2
    · rw [if_pos st]; exact k
    · rw [if_neg st]; dsimp only; exact aClear_x o t1 t2 (by decide) k
  · rw [if_pos ea]; exact k
