/-! EXACT: the reference's ask -/
theorem aYg_congr {z z' : Zs} (h : ∀ f u r : Nat, zI z' f u r = zI z f u r) : ∀ (l : List Nat) (y : Nat), aYg z' l y = aYg z l y := by
  intro l
  induction l with
  | nil => intro y; rfl
  | cons v l ih =>
    intro y
    unfold aYg
    rw [h, h, ih]
theorem aPt_len (q fr : List Nat) : ∀ (d j : Nat) (acc : List Nat), (aPt q fr d j acc).length ≤ d + 1 + acc.length := by
  intro d
  induction d with
  | zero => intro j acc; show acc.length + 1 ≤ 0 + 1 + acc.length; omega
  | succ d ih =>
    intro j acc
    unfold aPt
    by_cases c : j = 0
    · rw [if_pos c, List.length_cons]; omega
    · rw [if_neg c]
      have := ih (fr.getD j 0) (q.getD j 0 :: acc)
      rw [List.length_cons] at this
      omega
theorem aOut_len {z : Zs} {t : Nat} : ∀ (d k : Nat) (q fr R : List Nat), aOut z t d k q fr = some R → R.length ≤ 31 := by
  intro d
  induction d with
  | zero => intro k q fr R e; exact absurd e (by simp [aOut])
  | succ d ih =>
    intro k q fr R e
    unfold aOut at e
    by_cases c : k < q.length
    · rw [if_pos c] at e
      by_cases c2 : (aIn z t k (q.getD k 0) (zn z) 1 q fr).1 = true
      · rw [if_pos c2] at e
        rw [← Option.some.inj e]
        exact aPt_len _ _ 30 k []
      · rw [if_neg c2] at e
        exact ih (k + 1) _ _ R e
    · rw [if_neg c] at e; exact absurd e (by simp)
theorem aPos_cons (z : Zs) (s u : Nat) (l : List Nat) : aPos z s (u :: l) = if zI z 0 u s = -1 then 0 else aPos z s l + 1 := rfl
theorem X_ask300 {g : Gm} {Y : Nat → Prop} {h0 h : Hp} {a n r q t : Nat} {A : Nat → Nat} {z : Zs} {post : Int32 → Hp → Prop} (m : MI Y h0 h a A n r q) (e : MZ h a A z) (ht1 : 1 ≤ t) (ht : t ≤ 30) (hp : post (if zI z 3 t 0 = 1 then 0 else 1) h) : wp_M_ask_300 g post h a (nI t) := by
  obtain ⟨r1, r2, r3⟩ := m.2.1.row 5 21 31 (by decide)
  unfold wp_M_ask_300 wp_M_ask_315
  refine ⟨m.2.1.1, A 5, r1, r2, by rw [r3]; exact vp_in_nI (by omega) (by omega), ?_⟩
  rw [nI_clamp (by omega), (e.2.2.1 t ht1 ht).1]
  refine ⟨fun c => ?_, fun c => ?_⟩
  · rw [if_neg c] at hp; exact hp
  · rw [if_pos c] at hp; exact hp
theorem X_ask246 {g : Gm} {Y : Nat → Prop} {h0 : Hp} {a n r t : Nat} {A : Nat → Nat} {post : Int32 → Hp → Prop} (hr : r ≤ 2000) (ht1 : 1 ≤ t) : ∀ (d : Nat) (z : Zs) (h : Hp), t ≤ zn z → MI Y h0 h a A n r d → MZ h a A z → Zo z → (∀ h' : Hp, MI Y h0 h' a A n r 30 → MZ h' a A (aBrk t d z).2 → post (aBrk t d z).1 h') → wp_M_ask_246 g post (d + 1) h a (nI t) := by
  intro d
  induction d with
  | zero =>
    intro z h htn m e o hp
    have o1 := o.1
    obtain ⟨r1, r2, r3⟩ := m.2.1.row 5 21 31 (by decide)
    have e5 := (e.2.2.1 t ht1 (by omega)).1
    have e7 := (e.2.2.1 t ht1 (by omega)).2.1
    have hp := hp h m.top e
    unfold wp_M_ask_246
    refine ⟨m.2.1.1, A 5, r1, r2, by rw [r3]; exact vp_in_nI (by omega) (by omega), ?_⟩
    rw [nI_clamp (by omega), e5]
    refine ⟨fun _ => X_ask300 m e ht1 (by omega) hp, fun c => ?_⟩
    exfalso
    have hw := (o.2.2.2.2.2.1 t ht1 (by omega)).mp c
    have : 1 ≤ wn (hI h (A 7)) := cntF_some (t := t) (by omega) (decide_eq_true (by rw [e7]; exact hw))
    have := m.2.2.2.2.2.2.1
    omega
  | succ d ih =>
    intro z h htn m e o hp
    have o1 := o.1
    obtain ⟨r1, r2, r3⟩ := m.2.1.row 5 21 31 (by decide)
    have e5 := (e.2.2.1 t ht1 (by omega)).1
    unfold wp_M_ask_246
    refine ⟨m.2.1.1, A 5, r1, r2, by rw [r3]; exact vp_in_nI (by omega) (by omega), ?_⟩
    rw [nI_clamp (n := t) (by omega), e5]
    refine ⟨fun c => ?_, fun c => ⟨m.2.1.1, ?_⟩⟩
    · unfold aBrk at hp
      rw [if_neg c] at hp
      exact X_ask300 m e ht1 (by omega) (by rw [if_neg c]; exact hp h m.top e)
    · have hw := (o.2.2.2.2.2.1 t ht1 (by omega)).mp c
      unfold aBrk at hp
      rw [if_pos c] at hp
      refine X_findRing m e o ht1 htn (fun hf h' m' e' => ⟨fun _ => ?_, fun y => absurd rfl y⟩) (fun R hf h' m' e' => ⟨fun y => absurd y (by decide), fun _ => ⟨m'.2.1.1, ?_⟩⟩)
      · rw [hf] at hp
        exact X_ask300 m' e' ht1 (by omega) (by rw [if_pos c]; exact hp h' m'.top e')
      · rw [hf] at hp
        obtain ⟨y1, y2, y3, y4, y5⟩ := aRst_ok o ht1 htn hw hf
        obtain ⟨R1, -⟩ := aFind_ok hw ht1 htn hf
        have ey : aYg (zRi z R) (zR (zRi z R)) 0 = aYg z R 0 := aYg_congr (z := z) (z' := zRi z R) (fun _ _ _ => rfl) R 0
        refine X_youngest m'.2.1 e' o1 (fun x hx => ⟨(R1 x hx).1, (R1 x hx).2.1⟩) (aOut_len 30 0 _ _ R hf) ?_
        rw [ey]
        obtain ⟨s1, s2, s3⟩ := m'.2.1.row 6 21 31 (by decide)
        refine ⟨m'.2.1.1, A 6, s1, s2, by rw [s3]; exact vp_in_nI (by omega) (by omega), fun x15 e15 => ⟨s2, by rw [s3]; exact vp_in_nI (by omega) (by omega), fun h17 e17 => ?_⟩⟩
        have e6 : hI h' (A 6) (aYg z R 0) = zI z 6 (aYg z R 0) 0 := (e'.2.2.1 _ y1 (by omega)).2.2.2.1
        rw [nI_clamp (by omega), e6] at e15
        rw [nI_clamp (by omega), e15] at e17
        have m17 : MI Y h0 h17 a A n r (d + 1) := by rw [e17]; exact m'.wI (k := 6) (kd := 21) (len := 31) (by decide) (by decide)
        have z17 : MZ h17 a A (zu (zRi z R) 6 (aYg z R 0) 0 (zI z 6 (aYg z R 0) 0 + 1)) := by rw [e17]; exact e'.w6 m'.2.1
        have o17 : Zo (zu (zRi z R) 6 (aYg z R 0) 0 (zI z 6 (aYg z R 0) 0 + 1)) := zu_o (zRi_o o) y2 (Or.inr (Or.inr (Or.inl rfl)))
        refine ⟨m17.2.1.1, X_clear m17 z17 o17 hr y1 y2 (by decide) fun h'' q' eq1 eq2 m'' e'' => ⟨fun cy => ?_, fun cy => ?_⟩⟩
        · have cy' : ¬ aYg z R 0 = t := fun q => cy (by rw [q])
          have hp : ∀ h' : Hp, MI Y h0 h' a A n r 30 → MZ h' a A (if aYg z R 0 = t then ((-1 : Int32), aRst z R) else aBrk t d (aRst z R)).2 → post (if aYg z R 0 = t then ((-1 : Int32), aRst z R) else aBrk t d (aRst z R)).1 h' := hp
          rw [if_neg cy'] at hp
          exact ih (aRst z R) h'' (by rw [y5]; exact htn) (m''.mono (by have := eq2 y3; omega)) e'' y4 hp
        · have cy' : aYg z R 0 = t := (nI_eq (by omega) (by omega)).mp cy
          have hp : ∀ h' : Hp, MI Y h0 h' a A n r 30 → MZ h' a A (if aYg z R 0 = t then ((-1 : Int32), aRst z R) else aBrk t d (aRst z R)).2 → post (if aYg z R 0 = t then ((-1 : Int32), aRst z R) else aBrk t d (aRst z R)).1 h' := hp
          rw [if_pos cy'] at hp
          have hp2 : ∀ (y1 : Int32) (y2 : Zs), ((-1 : Int32), aRst z R) = (y1, y2) → MZ h'' a A y2 → post y1 h'' := fun y1 y2 ey e2 => by
            rw [ey] at hp; exact hp h'' m''.top e2
          exact hp2 (-1) (aRst z R) rfl (by unfold aRst; exact e'')
theorem X_enter {h h2 : Hp} {a t s p : Nat} {v : Int32} {A : Nat → Nat} {z : Zs} (m : Mst h a A) (e : MZ h a A z) (o : Zo z) (ht1 : 1 ≤ t) (htn : t ≤ zn z) (hs : s < 50) (hp : p ≤ (zQ z s).length) (sm : Sm h h2)
    (ei : ∀ b k : Nat, hI h2 b k = if b = A 16 ∧ k = s then nI ((zQ z s).length + 1) else if b = A 15 ∧ k = 31 * s + p then nI t else if b = A 15 ∧ 31 * s + p < k ∧ k ≤ 31 * s + (zQ z s).length then hI h b (k - 1) else hI h b k) :
    MZ (sI (sI (sI h2 (A 7) t (nI s)) (A 8) t v) (A 5) t 1) a A (aEnter z t s p v) := by
  have inM : ∀ j ∈ [4, 5, 6, 7, 8, 9, 11, 12, 15, 16, 21], ∃ t ∈ MA, t.1 = j := by decide
  have ne : ∀ j ∈ [4, 5, 6, 7, 8, 9, 11, 12, 15, 16, 21], ∀ k ∈ [4, 5, 6, 7, 8, 9, 11, 12, 15, 16, 21], j ≠ k → A j ≠ A k := fun j hj k hk d => MA_ne m j k (inM j hj) (inM k hk) d
  have n57 := ne 5 (by decide) 7 (by decide) (by decide)
  have n58 := ne 5 (by decide) 8 (by decide) (by decide)
  have n78 := ne 7 (by decide) 8 (by decide) (by decide)
  have o2 : ∀ b : Nat, b ≠ A 15 → b ≠ A 16 → hI h2 b = hI h b := fun b b1 b2 => by
    funext j
    rw [ei, if_neg (fun z => b2 z.1), if_neg (fun z => b1 z.1), if_neg (fun z => b1 z.1)]
  have oo : ∀ b : Nat, b ≠ A 5 → b ≠ A 7 → b ≠ A 8 → hI (sI (sI (sI h2 (A 7) t (nI s)) (A 8) t v) (A 5) t 1) b = hI h2 b := fun b b1 b2 b3 => by rw [sI_o b1, sI_o b3, sI_o b2]
  have ok : ∀ j ∈ [4, 6, 9, 11, 12, 21], hI (sI (sI (sI h2 (A 7) t (nI s)) (A 8) t v) (A 5) t 1) (A j) = hI h (A j) := fun j hj => by
    have hj' : j ∈ [4, 5, 6, 7, 8, 9, 11, 12, 15, 16, 21] := by revert j; decide
    rw [oo _ (ne j hj' 5 (by decide) (by revert j; decide)) (ne j hj' 7 (by decide) (by revert j; decide)) (ne j hj' 8 (by decide) (by revert j; decide)), o2 _ (ne j hj' 15 (by decide) (by revert j; decide)) (ne j hj' 16 (by decide) (by revert j; decide))]
  have na : ∀ j ∈ [5, 7, 8, 15, 16], a ≠ A j := fun j hj => by
    have inM' : ∀ j ∈ [5, 7, 8, 15, 16], ∃ t ∈ MA, t.1 = j := by decide
    obtain ⟨t', t1, t2⟩ := inM' j hj
    rw [← t2]; exact m.na t'.1 t'.2.1 t'.2.2 t1
  have oa : hI (sI (sI (sI h2 (A 7) t (nI s)) (A 8) t v) (A 5) t 1) a = hI h a := by
    rw [oo _ (na 5 (by decide)) (na 7 (by decide)) (na 8 (by decide)), o2 _ (na 15 (by decide)) (na 16 (by decide))]
  have e7 : ∀ j : Nat, hI (sI (sI (sI h2 (A 7) t (nI s)) (A 8) t v) (A 5) t 1) (A 7) j = if j = t then nI s else hI h (A 7) j := fun j => by
    rw [sI_o (fun z => n57 z.symm), sI_o n78, rI_sI, o2 _ (ne 7 (by decide) 15 (by decide) (by decide)) (ne 7 (by decide) 16 (by decide) (by decide))]
    by_cases c : j = t
    · rw [if_pos ⟨rfl, c⟩, if_pos c]
    · rw [if_neg (fun z => c z.2), if_neg c]
  have e8 : ∀ j : Nat, hI (sI (sI (sI h2 (A 7) t (nI s)) (A 8) t v) (A 5) t 1) (A 8) j = if j = t then v else hI h (A 8) j := fun j => by
    rw [sI_o (fun z => n58 z.symm), rI_sI, sI_o (fun z => n78 z.symm), o2 _ (ne 8 (by decide) 15 (by decide) (by decide)) (ne 8 (by decide) 16 (by decide) (by decide))]
    by_cases c : j = t
    · rw [if_pos ⟨rfl, c⟩, if_pos c]
    · rw [if_neg (fun z => c z.2), if_neg c]
  have e5 : ∀ j : Nat, hI (sI (sI (sI h2 (A 7) t (nI s)) (A 8) t v) (A 5) t 1) (A 5) j = if j = t then 1 else hI h (A 5) j := fun j => by
    rw [rI_sI, sI_o n58, sI_o n57, o2 _ (ne 5 (by decide) 15 (by decide) (by decide)) (ne 5 (by decide) 16 (by decide) (by decide))]
    by_cases c : j = t
    · rw [if_pos ⟨rfl, c⟩, if_pos c]
    · rw [if_neg (fun z => c z.2), if_neg c]
  have n15 := ne 15 (by decide) 16 (by decide) (by decide)
  have e16 : ∀ j : Nat, hI (sI (sI (sI h2 (A 7) t (nI s)) (A 8) t v) (A 5) t 1) (A 16) j = if j = s then nI ((zQ z s).length + 1) else hI h (A 16) j := fun j => by
    rw [oo _ (ne 16 (by decide) 5 (by decide) (by decide)) (ne 16 (by decide) 7 (by decide) (by decide)) (ne 16 (by decide) 8 (by decide) (by decide)), ei]
    by_cases c : j = s
    · rw [if_pos ⟨rfl, c⟩, if_pos c]
    · rw [if_neg (fun z => c z.2), if_neg c, if_neg (fun z => n15 z.1.symm), if_neg (fun z => n15 z.1.symm)]
  have e15 : ∀ j : Nat, hI (sI (sI (sI h2 (A 7) t (nI s)) (A 8) t v) (A 5) t 1) (A 15) j = if j = 31 * s + p then nI t else if 31 * s + p < j ∧ j ≤ 31 * s + (zQ z s).length then hI h (A 15) (j - 1) else hI h (A 15) j := fun j => by
    rw [oo _ (ne 15 (by decide) 5 (by decide) (by decide)) (ne 15 (by decide) 7 (by decide) (by decide)) (ne 15 (by decide) 8 (by decide) (by decide)), ei, if_neg (fun z => n15 z.1)]
    by_cases c : j = 31 * s + p
    · rw [if_pos ⟨rfl, c⟩, if_pos c]
    · rw [if_neg (fun z => c z.2), if_neg c]
      by_cases c2 : 31 * s + p < j ∧ j ≤ 31 * s + (zQ z s).length
      · rw [if_pos ⟨rfl, c2⟩, if_pos c2]
      · rw [if_neg (fun z => c2 z.2), if_neg c2]
  have hJ' : hJ (sI (sI (sI h2 (A 7) t (nI s)) (A 8) t v) (A 5) t 1) = hJ h := sm.2.2.2
  obtain ⟨f1, f2, f3, f4, f5, f6⟩ := e
  have lit : ∀ f u r : Nat, f ≠ 3 → f ≠ 4 → f ≠ 5 → zI (aEnter z t s p v) f u r = zI z f u r := fun f u r h3 h4 h5 => by
    rw [aEnter_I, if_neg (fun q => h3 q.2.2), if_neg (fun q => h4 q.2.2), if_neg (fun q => h5 q.2.2)]
  refine ⟨by rw [oa]; exact f1, fun u r u1 u2 r1 => ?_, fun u u1 u2 => ?_, fun r hr => ?_, by rw [oa, ok 21 (by decide)]; exact f5, by rw [hJ']; exact f6⟩
  · rw [ok 9 (by decide), ok 11 (by decide), ok 12 (by decide), hJ', lit 0 u r (by decide) (by decide) (by decide), lit 1 u r (by decide) (by decide) (by decide), lit 2 u r (by decide) (by decide) (by decide)]
    exact f2 u r u1 u2 r1
  · obtain ⟨q1, q2, q3, q4, q5⟩ := f3 u u1 u2
    rw [e5, e7, e8, ok 6 (by decide), ok 4 (by decide), lit 6 u 0 (by decide) (by decide) (by decide), lit 7 u 0 (by decide) (by decide) (by decide)]
    have i3 : zI (aEnter z t s p v) 3 u 0 = if u = t then 1 else zI z 3 u 0 := by
      rw [aEnter_I]
      by_cases c : u = t <;> simp [c]
    have i4 : zI (aEnter z t s p v) 4 u 0 = if u = t then nI s else zI z 4 u 0 := by
      rw [aEnter_I]
      by_cases c : u = t <;> simp [c]
    have i5 : zI (aEnter z t s p v) 5 u 0 = if u = t then v else zI z 5 u 0 := by
      rw [aEnter_I]
      by_cases c : u = t <;> simp [c]
    rw [i3, i4, i5]
    by_cases c : u = t
    · rw [if_pos c, if_pos c, if_pos c, if_pos c, if_pos c, if_pos c]
      exact ⟨rfl, rfl, fun _ => rfl, q4, q5⟩
    · rw [if_neg c, if_neg c, if_neg c, if_neg c, if_neg c, if_neg c]
      exact ⟨q1, q2, q3, q4, q5⟩
  · obtain ⟨g1, g2⟩ := f4 r hr
    have lr := o.len hr
    have lss := o.len hs
    rw [aEnter_Q, e16]
    by_cases c : r = s
    · rw [if_pos c, if_pos c, ins_len hp]
      refine ⟨rfl, fun k hk => ?_⟩
      rw [ins_at hp, e15, c]
      obtain ⟨g1, g2⟩ := f4 s hs
      rcases Nat.lt_trichotomy k p with d | d | d
      · rw [if_neg (by omega), if_neg (by omega), if_pos d]; exact g2 k (by omega)
      · rw [if_pos (by omega), if_neg (by omega), if_pos d]
      · rw [if_neg (by omega), if_pos (by omega), if_neg (by omega), if_neg (by omega)]
        have := g2 (k - 1) (by omega)
        rw [← this]
        congr 1
        omega
    · rw [if_neg c, if_neg c]
      refine ⟨g1, fun k hk => ?_⟩
      rw [e15, if_neg (by omega), if_neg (by omega)]
      exact g2 k hk
theorem X_ask217 {g : Gm} {Y : Nat → Prop} {h0 h : Hp} {a n r q t s p : Nat} {v : Int32} {A : Nat → Nat} {z : Zs} {post : Int32 → Hp → Prop} (m : MI Y h0 h a A n r q) (e : MZ h a A z) (o : Zo z) (hr : r ≤ 2000) (ht1 : 1 ≤ t) (htn : t ≤ zn z) (hs : s < 50) (hw : zI z 4 t 0 = -1) (hv : v = 0 ∨ v = 1 ∨ v = 2) (hpp : p ≤ (zQ z s).length)
    (hp : ∀ h' : Hp, MI Y h0 h' a A n r 30 → MZ h' a A (aBrk t 30 (aEnter z t s p v)).2 → post (aBrk t 30 (aEnter z t s p v)).1 h') : wp_M_ask_217 g post h a (nI t) (nI s) v (nI p) := by
  have o1 := o.1
  have hl := o.len hs
  have m6 := m.2.2.2.2.2.1
  have hc := cn_le m6.1 hs
  have ecn : cn (hI h (A 7)) s = (zQ z s).length := (nI_eq (by omega) (by omega)).mp ((m6.2.1 s hs).symm.trans (e.2.2.2.1 s hs).1)
  have w7 : hI h (A 7) t = -1 := (e.2.2.1 t ht1 (by omega)).2.1.trans hw
  unfold wp_M_ask_217
  refine ⟨m.2.1.1, M_insert m.2.1 hs (n := cn (hI h (A 7)) s) (by omega) (by omega) (m6.2.1 s hs) fun h2 sm ei => ?_⟩
  have m2 := m.2.1.sm sm
  obtain ⟨r1, r2, r3⟩ := m2.row 7 21 31 (by decide)
  obtain ⟨u1, u2, u3⟩ := m2.row 8 21 31 (by decide)
  obtain ⟨v1, v2, v3⟩ := m2.row 5 21 31 (by decide)
  have i7 : vp_in (nI t) (hN h2 (A 7)) := by rw [r3]; exact vp_in_nI (by omega) (by omega)
  have i8 : vp_in (nI t) (hN h2 (A 8)) := by rw [u3]; exact vp_in_nI (by omega) (by omega)
  have i5 : vp_in (nI t) (hN h2 (A 5)) := by rw [v3]; exact vp_in_nI (by omega) (by omega)
  refine ⟨m2.1, A 7, r1, r2, i7, fun h6 e6 => ?_⟩
  rw [nI_clamp (by omega)] at e6
  subst e6
  refine ⟨m2.1, A 8, u1, u2, i8, fun h10 e10 => ?_⟩
  rw [nI_clamp (by omega)] at e10
  subst e10
  refine ⟨m2.1, A 5, v1, v2, i5, fun h14 e14 => ⟨31, ?_⟩⟩
  rw [nI_clamp (by omega)] at e14
  subst e14
  have mE := m.enter (v := v) ht1 (by omega) hs w7 (by omega) sm ei
  rw [ecn] at ei
  exact X_ask246 hr ht1 30 (aEnter z t s p v) _ htn mE.top (X_enter m.2.1 e o ht1 htn hs hpp sm ei) (aEnter_o o ht1 htn hs hw hv) hp
theorem X_ask120 {g : Gm} {Y : Nat → Prop} {h0 h : Hp} {a n r q t s : Nat} {v : Int32} {A : Nat → Nat} {z : Zs} {post : Int32 → Hp → Prop} (m : MI Y h0 h a A n r q) (e : MZ h a A z) (o : Zo z) (hr : r ≤ 2000) (ht1 : 1 ≤ t) (htn : t ≤ zn z) (hs : s < 50) (hw : zI z 4 t 0 = -1) (hv : v = 0 ∨ v = 1 ∨ v = 2)
    (hp : ∀ (y : Int32 × Zs) (h' : Hp), y = (if aFree z t s v (zn z) = true ∧ (¬ zI z 0 t s = -1 ∨ zQ z s = []) then (1, zu z 0 t s v) else aBrk t 30 (aEnter z t s (if zI z 0 t s = -1 then (zQ z s).length else aPos z s (zQ z s)) v)) → MI Y h0 h' a A n r 30 → MZ h' a A y.2 → post y.1 h') : wp_M_ask_120 g post h a (nI t) (nI s) v (zI z 0 t s) := by
  have o1 := o.1
  have hl := o.len hs
  obtain ⟨c1, c2⟩ := e.2.2.2.1 s hs
  obtain ⟨r1, r2, r3⟩ := m.2.1.row 16 21 50 (by decide)
  obtain ⟨u1, u2, u3⟩ := m.2.1.row 9 21 1550 (by decide)
  obtain ⟨v1, v2, v3⟩ := m.2.1.row 15 21 1550 (by decide)
  have i16 : vp_in (nI s) (hN h (A 16)) := by rw [r3]; exact vp_in_nI (by omega) (by omega)
  have q158 : ¬ (aFree z t s v (zn z) = true ∧ (¬ zI z 0 t s = -1 ∨ zQ z s = [])) → wp_M_ask_158 g post h a (nI t) (nI s) v (zI z 0 t s) := fun hc => by
    have hp : ∀ h' : Hp, MI Y h0 h' a A n r 30 → MZ h' a A (aBrk t 30 (aEnter z t s (if zI z 0 t s = -1 then (zQ z s).length else aPos z s (zQ z s)) v)).2 → post (aBrk t 30 (aEnter z t s (if zI z 0 t s = -1 then (zQ z s).length else aPos z s (zQ z s)) v)).1 h' := fun h' m' e' => hp _ h' (by rw [if_neg hc]) m' e'
    unfold wp_M_ask_158
    refine ⟨m.2.1.1, A 16, r1, r2, i16, fun y => ?_, fun y => ⟨(zQ z s).length + 1, ?_⟩⟩
    · rw [if_pos y] at hp
      rw [nI_clamp (n := s) (by omega), c1]
      exact X_ask217 m e o hr ht1 htn hs hw hv (Nat.le_refl _) hp
    · rw [if_neg y] at hp
      have loop : ∀ d p : Nat, p + d = (zQ z s).length → p + aPos z s ((zQ z s).drop p) = aPos z s (zQ z s) → wp_M_ask_175 g post (d + 1) h a (nI t) (nI s) v (nI p) := by
        intro d
        induction d with
        | zero =>
          intro p ep ea
          have ep : p = (zQ z s).length := by omega
          rw [ep, List.drop_length] at ea
          have ea : p = aPos z s (zQ z s) := by rw [ep]; exact ea
          unfold wp_M_ask_175
          refine ⟨m.2.1.1, A 16, r1, r2, i16, fun _ => ?_, fun c => ?_⟩
          · rw [ea]; exact X_ask217 m e o hr ht1 htn hs hw hv (by omega) hp
          · rw [nI_clamp (by omega), c1] at c
            exact absurd (nI_le (by omega) (by omega)) c
        | succ d ih =>
          intro p ep ea
          have hk : p < (zQ z s).length := by omega
          have hm := (o.2.2.2.1 s _ hs).mp (getD_mem (d := 0) hk)
          have dr : (zQ z s).drop p = (zQ z s).getD p 0 :: (zQ z s).drop (p + 1) := by
            rw [List.drop_eq_getElem_cons hk, List.getD_eq_getElem?_getD, List.getElem?_eq_getElem hk]
            rfl
          rw [dr, aPos_cons] at ea
          unfold wp_M_ask_175
          refine ⟨m.2.1.1, A 16, r1, r2, i16, fun c => ?_, fun _ => ⟨m.2.1.1, A 9, u1, m.2.1.1, A 15, v1, fun x9 e9 x10 e10 => ?_⟩⟩
          · rw [nI_clamp (by omega), c1] at c
            have := (nI_leI (by omega) (by omega)).mp c
            omega
          · rw [nI_31] at e9
            rw [e9, nI_add] at e10
            subst e10
            refine ⟨v2, by rw [v3]; exact vp_in_nI (by omega) (by omega), ?_⟩
            rw [nI_clamp (n := 31 * s + p) (by omega), c2 p hk]
            refine M_of ⟨u2, by rw [u3]; exact vp_in_nI (by omega) (by omega), ?_⟩
            rw [nI_clamp (n := 50 * (zQ z s).getD p 0 + s) (by omega), (e.2.1 _ s hm.1 (by omega) hs).1]
            refine ⟨fun y1 => ?_, fun y1 x17 e17 => ?_⟩
            · rw [if_pos y1] at ea
              have ea : p = aPos z s (zQ z s) := ea
              rw [ea]; exact X_ask217 m e o hr ht1 htn hs hw hv (aPos_le z s _) hp
            · rw [if_neg y1] at ea
              rw [nI_1] at e17
              subst e17
              exact ih (p + 1) (by omega) (by rw [← ea]; omega)
      exact loop _ 0 (by omega) (by rw [List.drop_zero]; omega)
  have q145 : (aFree z t s v (zn z) = true ∧ (¬ zI z 0 t s = -1 ∨ zQ z s = [])) → wp_M_ask_145 g post h a (nI t) (nI s) v := fun hc => by
    unfold wp_M_ask_145
    refine ⟨m.2.1.1, A 9, u1, M_of ⟨u2, by rw [u3]; exact vp_in_nI (by omega) (by omega), fun h7 e7 => ?_⟩⟩
    rw [nI_clamp (n := 50 * t + s) (by omega)] at e7
    refine hp (1, zu z 0 t s v) h7 (by rw [if_pos hc]) ?_ ?_
    · rw [e7]; exact (m.wI (k := 9) (kd := 21) (len := 1550) (by decide) (by decide)).top
    · rw [e7]; exact e.w9 m.2.1 (by omega) hs
  unfold wp_M_ask_120
  refine ⟨m.2.1.1, X_isFree m.2.1 e o1 (by omega) hs ⟨fun cf => q158 (fun y => by rw [y.1] at cf; exact absurd cf (by decide)), fun cf => ?_⟩⟩
  have cf' : aFree z t s v (zn z) = true := by
    cases y : aFree z t s v (zn z)
    · rw [y] at cf; exact absurd rfl cf
    · rfl
  refine ⟨fun c => q145 ⟨cf', Or.inl c⟩, fun c => ⟨m.2.1.1, A 16, r1, r2, i16, ?_⟩⟩
  rw [nI_clamp (n := s) (by omega), c1]
  refine ⟨fun y => q158 (fun y' => ?_), fun y => q145 ⟨cf', Or.inr (List.length_eq_zero_iff.mp ((nI_eq (b := 0) (by omega) (by omega)).mp y))⟩⟩
  rcases y'.2 with y2 | y2
  · exact y2 c
  · rw [y2] at y; exact y rfl
/-- ask of task t, active, for segment s, at 0, 1 or 2: behind the checks -/
theorem X_askL {g : Gm} {Y : Nat → Prop} {h0 h : Hp} {a n r q t s : Nat} {v : Int32} {A : Nat → Nat} {z : Zs} {post : Int32 → Hp → Prop} (m : MI Y h0 h a A n r q) (e : MZ h a A z) (o : Zo z) (hr : r ≤ 2000) (ht1 : 1 ≤ t) (htn : t ≤ zn z) (hs : s < 50) (hst : zI z 3 t 0 = 0) (hv : v = 0 ∨ v = 1 ∨ v = 2)
    (hp : ∀ h' : Hp, MI Y h0 h' a A n r 30 → MZ h' a A (aAskL z (hI h a 3) t s v).2 → post (aAskL z (hI h a 3) t s v).1 h') : wp_M_ask g post h a (nI t) (nI s) v := by
  have o1 := o.1
  have hw : zI z 4 t 0 = -1 := by
    by_cases c : zI z 4 t 0 = -1
    · exact c
    · have := (o.2.2.2.2.2.1 t ht1 (by omega)).mpr c
      rw [hst] at this; exact absurd this (by decide)
  unfold wp_M_ask
  refine ⟨m.2.1.1, fun h2 e2 => ?_⟩
  have m2 : MI Y h0 h2 a A n r q := by rw [e2]; exact m.wF (by decide)
  have z2 : MZ h2 a A z := by rw [e2]; exact e.wF m.2.1 (by decide)
  have l2 : hI h2 a 3 = hI h a 3 := by rw [e2, rI_sI, if_neg (by omega)]
  rw [← l2] at hp
  have e9 := (z2.2.1 t s ht1 (by omega) hs).1
  have hc : cntF (mHeld h2 A t) 50 = aHeld z t := cntF_congr fun s hs => by
    unfold mHeld
    rw [(z2.2.1 t s ht1 (by omega) hs).1]
  obtain ⟨r1, r2, r3⟩ := m2.2.1.row 5 21 31 (by decide)
  obtain ⟨u1, u2, u3⟩ := m2.2.1.row 9 21 1550 (by decide)
  have v03 : ¬ v < 0 ∧ v ≤ 3 ∧ ¬ v = 3 := by rcases hv with q | q | q <;> rw [q] <;> decide
  have hal : ∀ y : Int32 × Zs, aAskL z (hI h2 a 3) t s v = y → ∀ h' : Hp, MI Y h0 h' a A n r 30 → MZ h' a A y.2 → post y.1 h' := fun y ey h' m' e' => by
    rw [ey] at hp; exact hp h' m' e'
  have hal2 : ∀ (y1 : Int32) (y2 : Zs), aAskL z (hI h2 a 3) t s v = (y1, y2) → ∀ h' : Hp, MI Y h0 h' a A n r 30 → MZ h' a A y2 → post y1 h' := fun y1 y2 ey h' m' e' => hal (y1, y2) ey h' m' e'
  refine ⟨m2.2.1.1, M_isTask m2.2.1.1 z2.1 o1 (fun t' et _ _ => ⟨fun _ => ?_, fun c => absurd c (by decide)⟩) (fun q => absurd rfl (q t ht1 htn))⟩
  refine M_isSegment (fun _ _ _ => ⟨fun c => absurd c (by decide), fun _ => ⟨fun c => absurd c v03.1, fun _ => ⟨fun _ => ?_, fun c => absurd v03.2.1 c⟩⟩⟩) (fun q => absurd rfl (q s hs))
  refine ⟨m2.2.1.1, A 5, r1, r2, by rw [r3]; exact vp_in_nI (by omega) (by omega), ?_⟩
  rw [nI_clamp (n := t) (by omega), (z2.2.2.1 t ht1 (by omega)).1, hst]
  refine ⟨fun _ => ⟨fun _ => ⟨m2.2.1.1, A 9, u1, M_of ⟨u2, by rw [u3]; exact vp_in_nI (by omega) (by omega), ?_⟩⟩, fun c => absurd c v03.2.2⟩, fun c => absurd rfl c⟩
  rw [nI_clamp (n := 50 * t + s) (by omega), e9]
  refine ⟨fun clt => ?_, fun clt => hal _ (by unfold aAskL; rw [if_neg clt]) h2 m2.top z2⟩
  have q120 : ¬ (zI z 0 t s = -1 ∧ ¬ hI h2 a 3 ≤ 0 ∧ ¬ nI (aHeld z t) < hI h2 a 3) → wp_M_ask_120 g post h2 a (nI t) (nI s) v (zI z 0 t s) := fun c => X_ask120 m2 z2 o hr ht1 htn hs hw hv fun y h' ey m' e' => hal y (by unfold aAskL; rw [if_pos clt, if_neg c, ey]) h' m' e'
  refine ⟨fun c => q120 (fun y => c y.1), fun c => ⟨m2.2.1.1, fun c2 => q120 (fun y => y.2.1 c2), fun c2 => ⟨m2.2.1.1, M_locksOf m2.2.1 (by omega) ⟨m2.2.1.1, ?_⟩⟩⟩⟩
  rw [hc]
  refine ⟨fun c3 => q120 (fun y => y.2.2 c3), fun c3 => ⟨m2.2.1.1, X_clear m2 z2 o hr ht1 htn (by decide) fun h' q' _ _ m' e' => hal2 (-3) (aClear z t 2) (by unfold aAskL; rw [if_pos clt, if_pos ⟨c, c2, c3⟩]) h' m'.top e'⟩⟩
