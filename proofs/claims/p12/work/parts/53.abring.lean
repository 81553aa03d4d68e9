/-! ABSTRACT: the search for a ring -/
/-- the segment that task u waits for -/
def aSg (z : Zs) (u : Nat) : Nat := (zI z 4 u 0).toNatClampNeg
/-- those ahead of u in the line of s -/
def aAh (z : Zs) (s u : Nat) : List Nat := (zQ z s).takeWhile (fun x => decide (x ≠ u))
/-- task u waits, and v is in its way -/
def aBl (z : Zs) (u v : Nat) : Bool := decide (v ≠ u) && (decide (¬ zI z 4 u 0 = -1) && (decide (v ∈ aAh z (aSg z u) u) || (decide (¬ zI z 0 v (aSg z u) = -1) && decide (2 ≤ zI z 0 v (aSg z u) + zI z 5 u 0))))
/-- from task u, at place k of those reached: tasks v and on, d of them -/
def aIn (z : Zs) (t k u : Nat) : Nat → Nat → List Nat → List Nat → Bool × List Nat × List Nat
  | 0, _, q, fr => (false, q, fr)
  | d + 1, v, q, fr => if aBl z u v = true then (if v = t then (true, q, fr) else if v ∈ q then aIn z t k u d (v + 1) q fr else aIn z t k u d (v + 1) (q ++ [v]) (fr ++ [k])) else aIn z t k u d (v + 1) q fr
/-- the way back from place j -/
def aPt (q fr : List Nat) : Nat → Nat → List Nat → List Nat
  | 0, _, acc => q.getD 0 0 :: acc
  | d + 1, j, acc => if j = 0 then q.getD 0 0 :: acc else aPt q fr d (fr.getD j 0) (q.getD j 0 :: acc)
def aOut (z : Zs) (t : Nat) : Nat → Nat → List Nat → List Nat → Option (List Nat)
  | 0, _, _, _ => none
  | d + 1, k, q, fr => if k < q.length then (if (aIn z t k (q.getD k 0) (zn z) 1 q fr).1 = true then some (aPt (aIn z t k (q.getD k 0) (zn z) 1 q fr).2.1 (aIn z t k (q.getD k 0) (zn z) 1 q fr).2.2 30 k []) else aOut z t d (k + 1) (aIn z t k (q.getD k 0) (zn z) 1 q fr).2.1 (aIn z t k (q.getD k 0) (zn z) 1 q fr).2.2) else none
def aFind (z : Zs) (t : Nat) : Option (List Nat) := aOut z t 30 0 [t] [0]
/-- those reached, and from where -/
def Qo (z : Zs) (t : Nat) (q fr : List Nat) : Prop := fr.length = q.length ∧ q.Nodup ∧ (∀ x ∈ q, 1 ≤ x ∧ x ≤ zn z) ∧ (0 < q.length ∧ q.getD 0 0 = t) ∧ (∀ j : Nat, 1 ≤ j → j < q.length → fr.getD j 0 < j ∧ ¬ zI z 4 (q.getD (fr.getD j 0) 0) 0 = -1)
theorem getD_app_l {l m : List Nat} {i : Nat} (h : i < l.length) : (l ++ m).getD i 0 = l.getD i 0 := by
  rw [List.getD_eq_getElem?_getD, List.getD_eq_getElem?_getD, List.getElem?_append_left h]
theorem getD_app_r {l : List Nat} {x : Nat} : (l ++ [x]).getD l.length 0 = x := by
  simp [List.getD_eq_getElem?_getD]
theorem Qo.len {z : Zs} {t : Nat} {q fr : List Nat} (h : Qo z t q fr) : q.length ≤ zn z := nodup_le _ _ h.2.1 h.2.2.1
theorem Qo.push {z : Zs} {t k v : Nat} {q fr : List Nat} (h : Qo z t q fr) (hk : k < q.length) (hv1 : 1 ≤ v) (hv : v ≤ zn z) (hn : v ∉ q) (hw : ¬ zI z 4 (q.getD k 0) 0 = -1) : Qo z t (q ++ [v]) (fr ++ [k]) := by
  obtain ⟨h1, h2, h3, ⟨h4, h5⟩, h6⟩ := h
  refine ⟨by rw [List.length_append, List.length_append, h1]; rfl, ?_, fun x hx => ?_, ⟨by rw [List.length_append]; omega, by rw [getD_app_l h4]; exact h5⟩, fun j j1 j2 => ?_⟩
  · rw [List.nodup_append]
    refine ⟨h2, by simp, fun a ha b hb e => ?_⟩
    rw [List.mem_singleton.mp hb] at e
    exact hn (e ▸ ha)
  · rcases List.mem_append.mp hx with q | q
    · exact h3 x q
    · rw [List.mem_singleton.mp q]; exact ⟨hv1, hv⟩
  · rw [List.length_append] at j2
    have j2 : j < q.length + 1 := j2
    by_cases c : j < q.length
    · have f := h6 j j1 c
      rw [getD_app_l (by omega : j < fr.length), getD_app_l (by omega)]
      exact f
    · have c : j = fr.length := by omega
      rw [c, getD_app_r, getD_app_l hk]
      exact ⟨by omega, hw⟩
theorem aBl_w {z : Zs} {u v : Nat} (h : aBl z u v = true) : ¬ zI z 4 u 0 = -1 ∧ v ≠ u := by
  unfold aBl at h
  rw [Bool.and_eq_true, Bool.and_eq_true] at h
  exact ⟨of_decide_eq_true h.2.1, of_decide_eq_true h.1⟩
theorem aIn_Qo {z : Zs} {t k u : Nat} : ∀ (d v : Nat) (q fr : List Nat), 1 ≤ v → v + d = zn z + 1 → Qo z t q fr → k < q.length → q.getD k 0 = u → Qo z t (aIn z t k u d v q fr).2.1 (aIn z t k u d v q fr).2.2 ∧ k < (aIn z t k u d v q fr).2.1.length ∧ (aIn z t k u d v q fr).2.1.getD k 0 = u ∧ ((aIn z t k u d v q fr).1 = true → ¬ zI z 4 u 0 = -1) := by
  intro d
  induction d with
  | zero => intro v q fr _ _ h hk hu; exact ⟨h, hk, hu, fun c => absurd (show false = true from c) (by decide)⟩
  | succ d ih =>
    intro v q fr hv1 hd h hk hu
    unfold aIn
    by_cases c : aBl z u v = true
    · rw [if_pos c]
      by_cases c2 : v = t
      · rw [if_pos c2]; exact ⟨h, hk, hu, fun _ => (aBl_w c).1⟩
      · rw [if_neg c2]
        by_cases c3 : v ∈ q
        · rw [if_pos c3]; exact ih (v + 1) q fr (by omega) (by omega) h hk hu
        · rw [if_neg c3]
          exact ih (v + 1) _ _ (by omega) (by omega) (h.push hk hv1 (by omega) c3 (by rw [hu]; exact (aBl_w c).1)) (by rw [List.length_append]; omega) (by rw [getD_app_l hk]; exact hu)
    · rw [if_neg c]; exact ih (v + 1) q fr (by omega) (by omega) h hk hu
theorem aPt_ok {z : Zs} {t : Nat} {q fr : List Nat} (h : Qo z t q fr) (h0 : ¬ zI z 4 t 0 = -1) : ∀ (d j : Nat) (acc : List Nat), j < q.length → ¬ zI z 4 (q.getD j 0) 0 = -1 → (∀ x ∈ acc, 1 ≤ x ∧ x ≤ zn z ∧ ¬ zI z 4 x 0 = -1) → (∀ x ∈ aPt q fr d j acc, 1 ≤ x ∧ x ≤ zn z ∧ ¬ zI z 4 x 0 = -1) ∧ ∃ l : List Nat, aPt q fr d j acc = t :: l := by
  have root : ∀ acc : List Nat, (∀ x ∈ acc, 1 ≤ x ∧ x ≤ zn z ∧ ¬ zI z 4 x 0 = -1) → (∀ x ∈ q.getD 0 0 :: acc, 1 ≤ x ∧ x ≤ zn z ∧ ¬ zI z 4 x 0 = -1) ∧ ∃ l : List Nat, q.getD 0 0 :: acc = t :: l := fun acc ha => by
    obtain ⟨l0, l1⟩ := h.2.2.2.1
    refine ⟨fun x hx => ?_, acc, by rw [l1]⟩
    rcases List.mem_cons.mp hx with e | e
    · rw [e]
      have := h.2.2.1 _ (getD_mem (d := 0) l0)
      exact ⟨this.1, this.2, by rw [l1]; exact h0⟩
    · exact ha x e
  intro d
  induction d with
  | zero => intro j acc _ _ ha; exact root acc ha
  | succ d ih =>
    intro j acc hj hw ha
    unfold aPt
    by_cases c : j = 0
    · rw [if_pos c]; exact root acc ha
    · rw [if_neg c]
      obtain ⟨f1, f2⟩ := h.2.2.2.2 j (by omega) hj
      refine ih _ _ (by omega) f2 fun x hx => ?_
      rcases List.mem_cons.mp hx with e | e
      · rw [e]
        have := h.2.2.1 _ (getD_mem (d := 0) hj)
        exact ⟨this.1, this.2, hw⟩
      · exact ha x e
theorem aOut_ok {z : Zs} {t : Nat} (h0 : ¬ zI z 4 t 0 = -1) : ∀ (d k : Nat) (q fr R : List Nat), Qo z t q fr → aOut z t d k q fr = some R → (∀ x ∈ R, 1 ≤ x ∧ x ≤ zn z ∧ ¬ zI z 4 x 0 = -1) ∧ ∃ l : List Nat, R = t :: l := by
  intro d
  induction d with
  | zero => intro k q fr R _ e; exact absurd e (by simp [aOut])
  | succ d ih =>
    intro k q fr R h e
    unfold aOut at e
    by_cases c : k < q.length
    · rw [if_pos c] at e
      obtain ⟨i1, i2, i3, i4⟩ := aIn_Qo (z := z) (t := t) (k := k) (zn z) 1 q fr (Nat.le_refl 1) (by omega) h c rfl
      by_cases c2 : (aIn z t k (q.getD k 0) (zn z) 1 q fr).1 = true
      · rw [if_pos c2] at e
        have := aPt_ok i1 h0 30 k [] i2 (by rw [i3]; exact i4 c2) (fun x hx => nomatch hx)
        rw [Option.some.inj e] at this
        exact this
      · rw [if_neg c2] at e
        exact ih (k + 1) _ _ R i1 e
    · rw [if_neg c] at e; exact absurd e (by simp)
theorem Qo.start {z : Zs} {t : Nat} (h1 : 1 ≤ t) (h2 : t ≤ zn z) : Qo z t [t] [0] := by
  refine ⟨rfl, by simp, fun x hx => by rw [List.mem_singleton.mp hx]; exact ⟨h1, h2⟩, ⟨by simp, rfl⟩, fun j j1 j2 => ?_⟩
  have j2 : j < 1 := j2
  omega
theorem aFind_ok {z : Zs} {t : Nat} {R : List Nat} (h0 : ¬ zI z 4 t 0 = -1) (h1 : 1 ≤ t) (h2 : t ≤ zn z) (e : aFind z t = some R) : (∀ x ∈ R, 1 ≤ x ∧ x ≤ zn z ∧ ¬ zI z 4 x 0 = -1) ∧ ∃ l : List Nat, R = t :: l := aOut_ok h0 30 0 _ _ R (Qo.start h1 h2) e
/-- the youngest of a ring -/
def aYg (z : Zs) : List Nat → Nat → Nat
  | [], y => y
  | v :: l, y => aYg z l (if y = 0 ∨ zI z 7 y 0 < zI z 7 v 0 ∨ (zI z 7 v 0 = zI z 7 y 0 ∧ y < v) then v else y)
theorem aYg_mem {z : Zs} : ∀ (l : List Nat) (y : Nat), aYg z l y = y ∨ aYg z l y ∈ l := by
  intro l
  induction l with
  | nil => intro y; exact Or.inl rfl
  | cons v l ih =>
    intro y
    unfold aYg
    by_cases c : y = 0 ∨ zI z 7 y 0 < zI z 7 v 0 ∨ (zI z 7 v 0 = zI z 7 y 0 ∧ y < v)
    · rw [if_pos c]
      rcases ih v with q | q
      · exact Or.inr (by rw [q]; exact List.mem_cons_self ..)
      · exact Or.inr (List.mem_cons_of_mem _ q)
    · rw [if_neg c]
      rcases ih y with q | q
      · exact Or.inl q
      · exact Or.inr (List.mem_cons_of_mem _ q)
theorem takeWhile_at : ∀ {l : List Nat} {u k : Nat}, l.Nodup → k < l.length → l.getD k 0 = u → l.takeWhile (fun x => decide (x ≠ u)) = l.take k := by
  intro l
  induction l with
  | nil => intro u k _ hk; exact absurd hk (Nat.not_lt_zero k)
  | cons b l ih =>
    intro u k nd hk hu
    have nd' := List.nodup_cons.mp nd
    cases k with
    | zero =>
      have hb : b = u := hu
      rw [List.takeWhile_cons]
      simp [hb]
    | succ k =>
      have hk' : k < l.length := by have : k + 1 < l.length + 1 := hk; omega
      have hu' : l.getD k 0 = u := hu
      have hb : b ≠ u := fun e => nd'.1 (by rw [e, ← hu']; exact getD_mem hk')
      rw [List.takeWhile_cons, List.take_succ_cons, ih nd'.2 hk' hu']
      simp [hb]
theorem nodup_getD {l : List Nat} (nd : l.Nodup) : ∀ {i j : Nat}, i < l.length → j < l.length → l.getD i 0 = l.getD j 0 → i = j := by
  intro i j hi hj e
  rw [List.getD_eq_getElem?_getD, List.getD_eq_getElem?_getD, List.getElem?_eq_getElem hi, List.getElem?_eq_getElem hj] at e
  exact (List.getElem_inj nd).mp e
theorem mem_take {l : List Nat} {k v : Nat} : v ∈ l.take k ↔ ∃ j : Nat, j < k ∧ j < l.length ∧ l.getD j 0 = v := by
  constructor
  · intro h
    obtain ⟨j, hj, e⟩ := List.getElem_of_mem h
    rw [List.length_take] at hj
    refine ⟨j, by omega, by omega, ?_⟩
    rw [List.getD_eq_getElem?_getD, List.getElem?_eq_getElem (by omega)]
    rw [List.getElem_take] at e
    exact e
  · rintro ⟨j, h1, h2, h3⟩
    have h4 : j < (l.take k).length := by rw [List.length_take]; omega
    have : (l.take k)[j] = v := by
      rw [List.getElem_take]
      rw [List.getD_eq_getElem?_getD, List.getElem?_eq_getElem h2] at h3
      exact h3
    rw [← this]
    exact List.getElem_mem h4
