/-! ABSTRACT: the locks as both see them -/
/-- ints (0 lock, 1 look, 2 written, 3 state, 4 waits for, 5 wish, 6 restarts, 7 age; by task and segment), lines, ring, how many tasks, numbers kept, numbers agreed -/
abbrev Zs : Type := (Nat → Nat → Nat → Int32) × (Nat → List Nat) × List Nat × Nat × (Nat → Nat → Int64) × (Nat → Int64)
def zI (z : Zs) : Nat → Nat → Nat → Int32 := z.1
def zQ (z : Zs) : Nat → List Nat := z.2.1
def zR (z : Zs) : List Nat := z.2.2.1
def zn (z : Zs) : Nat := z.2.2.2.1
def zK (z : Zs) : Nat → Nat → Int64 := z.2.2.2.2.1
def zG (z : Zs) : Nat → Int64 := z.2.2.2.2.2
/-- one int is set -/
def zu (z : Zs) (f t s : Nat) (v : Int32) : Zs := (fun f' t' s' => if f' = f ∧ t' = t ∧ s' = s then v else zI z f' t' s', z.2)
theorem zu_I (z : Zs) (f t s : Nat) (v : Int32) (f' t' s' : Nat) : zI (zu z f t s v) f' t' s' = if f' = f ∧ t' = t ∧ s' = s then v else zI z f' t' s' := rfl
/-- the lines are as the tasks' waiting says, each task once; locks and wishes are such; a task waits where its state says so; tasks to come are bare -/
def Zo (z : Zs) : Prop := zn z ≤ 30 ∧ (∀ t s : Nat, 1 ≤ t → t ≤ 30 → s < 50 → zI z 0 t s = -1 ∨ zI z 0 t s = 0 ∨ zI z 0 t s = 1 ∨ zI z 0 t s = 2) ∧ (∀ s : Nat, s < 50 → (zQ z s).Nodup) ∧ (∀ s t : Nat, s < 50 → (t ∈ zQ z s ↔ 1 ≤ t ∧ t ≤ zn z ∧ zI z 4 t 0 = nI s)) ∧ (∀ t : Nat, 1 ≤ t → t ≤ 30 → zI z 4 t 0 = -1 ∨ ∃ s : Nat, s < 50 ∧ zI z 4 t 0 = nI s) ∧ (∀ t : Nat, 1 ≤ t → t ≤ 30 → (zI z 3 t 0 = 1 ↔ ¬ zI z 4 t 0 = -1)) ∧ (∀ t : Nat, 1 ≤ t → t ≤ 30 → ¬ zI z 4 t 0 = -1 → zI z 5 t 0 = 0 ∨ zI z 5 t 0 = 1 ∨ zI z 5 t 0 = 2) ∧ (∀ t : Nat, zn z < t → t ≤ 30 → zI z 3 t 0 = 0 ∧ zI z 4 t 0 = -1 ∧ zI z 6 t 0 = 0 ∧ ∀ s : Nat, s < 50 → zI z 0 t s = -1 ∧ zI z 1 t s = 0 ∧ zI z 2 t s = 0)
theorem nodup_le : ∀ (n : Nat) (l : List Nat), l.Nodup → (∀ t ∈ l, 1 ≤ t ∧ t ≤ n) → l.length ≤ n := by
  intro n
  induction n with
  | zero =>
    intro l _ h
    cases l with
    | nil => exact Nat.le_refl 0
    | cons a l => have := h a (List.mem_cons_self ..); omega
  | succ n ih =>
    intro l nd h
    have h1 := ih (l.erase (n + 1)) (nd.erase _) (fun t ht => by
      have ht2 := (nd.mem_erase_iff).mp ht
      have := h t ht2.2
      have := ht2.1
      omega)
    have h2 := List.length_erase (a := n + 1) (l := l)
    rw [h2] at h1
    by_cases c : n + 1 ∈ l
    · rw [if_pos c] at h1; omega
    · rw [if_neg c] at h1; omega
theorem Zo.len {z : Zs} (o : Zo z) {s : Nat} (hs : s < 50) : (zQ z s).length ≤ 30 :=
  Nat.le_trans (nodup_le (zn z) _ (o.2.2.1 s hs) fun t ht => ⟨((o.2.2.2.1 s t hs).mp ht).1, ((o.2.2.2.1 s t hs).mp ht).2.1⟩) o.1
/-- of the first k tasks, all let task t have segment s at w -/
def aFree (z : Zs) (t s : Nat) (w : Int32) : Nat → Bool
  | 0 => true
  | k + 1 => aFree z t s w k && decide (k + 1 = t ∨ zI z 0 (k + 1) s = -1 ∨ ¬ 2 ≤ zI z 0 (k + 1) s + w)
/-- task t, the first in the line of s, gets what it waits for -/
def aGive (z : Zs) (t s : Nat) : Zs := (fun f u r => if u = t then (if f = 0 ∧ r = s then zI z 5 t 0 else if r = 0 then (if f = 3 then 0 else if f = 4 then -1 else if f = 5 then -1 else zI z f u r) else zI z f u r) else zI z f u r, fun r => if r = s then (zQ z s).erase t else zQ z r, z.2.2)
theorem aGive_I (z : Zs) (t s f u r : Nat) : zI (aGive z t s) f u r = if u = t then (if f = 0 ∧ r = s then zI z 5 t 0 else if r = 0 then (if f = 3 then 0 else if f = 4 then -1 else if f = 5 then -1 else zI z f u r) else zI z f u r) else zI z f u r := rfl
theorem aGive_Q (z : Zs) (t s r : Nat) : zQ (aGive z t s) r = if r = s then (zQ z s).erase t else zQ z r := rfl
theorem aGive_n (z : Zs) (t s : Nat) : zn (aGive z t s) = zn z := rfl
theorem aGive_o {z : Zs} {t s : Nat} (o : Zo z) (hs : s < 50) (ht : t ∈ zQ z s) : Zo (aGive z t s) := by
  obtain ⟨o1, o2, o3, o4, o5, o6, o7, o8⟩ := o
  obtain ⟨t1, t2, t3⟩ := (o4 s t hs).mp ht
  have hw : ¬ zI z 4 t 0 = -1 := by rw [t3]; exact nI_nm1 (by omega)
  have e4 : ∀ u : Nat, zI (aGive z t s) 4 u 0 = if u = t then -1 else zI z 4 u 0 := fun u => by
    rw [aGive_I]
    by_cases c : u = t
    · simp [c]
    · simp [c]
  have e3 : ∀ u : Nat, zI (aGive z t s) 3 u 0 = if u = t then 0 else zI z 3 u 0 := fun u => by
    rw [aGive_I]
    by_cases c : u = t
    · simp [c]
    · simp [c]
  have e5 : ∀ u : Nat, u ≠ t → zI (aGive z t s) 5 u 0 = zI z 5 u 0 := fun u c => by rw [aGive_I, if_neg c]
  refine ⟨o1, fun u r u1 u2 r1 => ?_, fun r hr => ?_, fun r u hr => ?_, fun u u1 u2 => ?_, fun u u1 u2 => ?_, fun u u1 u2 hu => ?_, fun u u1 u2 => ?_⟩
  · rw [aGive_I]
    by_cases c : u = t
    · rw [if_pos c]
      by_cases d : r = s
      · rw [if_pos ⟨rfl, d⟩]
        rcases o7 t t1 (by omega) hw with q | q | q
        · exact Or.inr (Or.inl q)
        · exact Or.inr (Or.inr (Or.inl q))
        · exact Or.inr (Or.inr (Or.inr q))
      · rw [if_neg (fun q => d q.2)]
        by_cases d2 : r = 0
        · rw [if_pos d2, if_neg (by decide), if_neg (by decide), if_neg (by decide)]; exact o2 u r u1 u2 r1
        · rw [if_neg d2]; exact o2 u r u1 u2 r1
    · rw [if_neg c]; exact o2 u r u1 u2 r1
  · rw [aGive_Q]
    by_cases c : r = s
    · rw [if_pos c]; exact (o3 s hs).erase t
    · rw [if_neg c]; exact o3 r hr
  · rw [aGive_Q, e4, aGive_n]
    by_cases c : r = s
    · rw [if_pos c, (o3 s hs).mem_erase_iff, o4 s u hs, c]
      by_cases d : u = t
      · rw [if_pos d]
        exact ⟨fun q => absurd d q.1, fun q => absurd q.2.2 (nIm1 (by omega))⟩
      · rw [if_neg d]
        exact ⟨fun q => q.2, fun q => ⟨d, q⟩⟩
    · rw [if_neg c, o4 r u hr]
      by_cases d : u = t
      · rw [if_pos d]
        refine ⟨fun q => ?_, fun q => absurd q.2.2 (nIm1 (by omega))⟩
        have := q.2.2
        rw [d, t3] at this
        exact absurd this (nI_ne hs hr (fun z => c z.symm))
      · rw [if_neg d]
  · rw [e4]
    by_cases c : u = t
    · exact Or.inl (if_pos c)
    · rw [if_neg c]; exact o5 u u1 u2
  · rw [e4, e3]
    by_cases c : u = t
    · rw [if_pos c, if_pos c]
      exact ⟨fun q => absurd q (by decide), fun q => absurd rfl q⟩
    · rw [if_neg c, if_neg c]; exact o6 u u1 u2
  · rw [e4] at hu
    by_cases c : u = t
    · rw [if_pos c] at hu; exact absurd rfl hu
    · rw [if_neg c] at hu
      rw [e5 u c]; exact o7 u u1 u2 hu
  · have c : u ≠ t := by rw [aGive_n] at u1; omega
    have e : ∀ f r : Nat, zI (aGive z t s) f u r = zI z f u r := fun f r => by rw [aGive_I, if_neg c]
    rw [e, e, e]
    obtain ⟨p1, p2, p3, p4⟩ := o8 u u1 u2
    exact ⟨p1, p2, p3, fun r hr => by rw [e, e, e]; exact p4 r hr⟩
/-- the line of s is granted, at most d of it -/
def aGrantS (z : Zs) (s : Nat) : Nat → Zs
  | 0 => z
  | d + 1 => match zQ z s with
    | [] => z
    | t :: _ => if aFree z t s (zI z 5 t 0) (zn z) = true then aGrantS (aGive z t s) s d else z
/-- the lines from s on, d of them -/
def aGr (z : Zs) : Nat → Nat → Zs
  | 0, _ => z
  | d + 1, s => aGr (aGrantS z s 30) d (s + 1)
theorem aGrantS_o (s : Nat) (hs : s < 50) : ∀ (d : Nat) (z : Zs), Zo z → Zo (aGrantS z s d) ∧ zn (aGrantS z s d) = zn z := by
  intro d
  induction d with
  | zero => intro z o; exact ⟨o, rfl⟩
  | succ d ih =>
    intro z o
    unfold aGrantS
    cases q : zQ z s with
    | nil => exact ⟨o, rfl⟩
    | cons t l =>
      show Zo (if _ then _ else _) ∧ zn (if _ then _ else _) = zn z
      by_cases c : aFree z t s (zI z 5 t 0) (zn z) = true
      · rw [if_pos c]
        exact ih _ (aGive_o o hs (by rw [q]; exact List.mem_cons_self ..))
      · rw [if_neg c]; exact ⟨o, rfl⟩
theorem aGr_o : ∀ (d s : Nat) (z : Zs), s + d ≤ 50 → Zo z → Zo (aGr z d s) ∧ zn (aGr z d s) = zn z := by
  intro d
  induction d with
  | zero => intro s z _ o; exact ⟨o, rfl⟩
  | succ d ih =>
    intro s z h o
    obtain ⟨g1, g2⟩ := aGrantS_o s (by omega) 30 z o
    obtain ⟨i1, i2⟩ := ih (s + 1) _ (by omega) g1
    exact ⟨i1, i2.trans g2⟩
/-- all that task t has is gone, its state is v -/
def aWipe (z : Zs) (t : Nat) (v : Int32) : Zs := (fun f u r => if u = t then (if f = 0 then -1 else if f = 1 then 0 else if f = 2 then 0 else if r = 0 then (if f = 3 then v else if f = 4 then -1 else if f = 5 then -1 else zI z f u r) else zI z f u r) else zI z f u r, fun r => (zQ z r).erase t, z.2.2)
theorem aWipe_I (z : Zs) (t : Nat) (v : Int32) (f u r : Nat) : zI (aWipe z t v) f u r = if u = t then (if f = 0 then -1 else if f = 1 then 0 else if f = 2 then 0 else if r = 0 then (if f = 3 then v else if f = 4 then -1 else if f = 5 then -1 else zI z f u r) else zI z f u r) else zI z f u r := rfl
theorem aWipe_o {z : Zs} {t : Nat} {v : Int32} (o : Zo z) (t1 : 1 ≤ t) (t2 : t ≤ zn z) (hv : ¬ v = 1) : Zo (aWipe z t v) := by
  obtain ⟨o1, o2, o3, o4, o5, o6, o7, o8⟩ := o
  have e4 : ∀ u : Nat, zI (aWipe z t v) 4 u 0 = if u = t then -1 else zI z 4 u 0 := fun u => by
    rw [aWipe_I]
    by_cases c : u = t
    · simp [c]
    · simp [c]
  have e3 : ∀ u : Nat, zI (aWipe z t v) 3 u 0 = if u = t then v else zI z 3 u 0 := fun u => by
    rw [aWipe_I]
    by_cases c : u = t
    · simp [c]
    · simp [c]
  have eo : ∀ f u r : Nat, u ≠ t → zI (aWipe z t v) f u r = zI z f u r := fun f u r c => by rw [aWipe_I, if_neg c]
  have eq : ∀ r : Nat, zQ (aWipe z t v) r = (zQ z r).erase t := fun r => rfl
  have en : zn (aWipe z t v) = zn z := rfl
  refine ⟨o1, fun u r u1 u2 r1 => ?_, fun r hr => (o3 r hr).erase t, fun r u hr => ?_, fun u u1 u2 => ?_, fun u u1 u2 => ?_, fun u u1 u2 hu => ?_, fun u u1 u2 => ?_⟩
  · by_cases c : u = t
    · exact Or.inl (by rw [aWipe_I, if_pos c, if_pos rfl])
    · rw [eo 0 u r c]; exact o2 u r u1 u2 r1
  · rw [eq, en, e4, (o3 r hr).mem_erase_iff, o4 r u hr]
    by_cases d : u = t
    · rw [if_pos d]
      exact ⟨fun q => absurd d q.1, fun q => absurd q.2.2 (nIm1 (by omega))⟩
    · rw [if_neg d]
      exact ⟨fun q => q.2, fun q => ⟨d, q⟩⟩
  · rw [e4]
    by_cases c : u = t
    · exact Or.inl (if_pos c)
    · rw [if_neg c]; exact o5 u u1 u2
  · rw [e4, e3]
    by_cases c : u = t
    · rw [if_pos c, if_pos c]
      exact ⟨fun q => absurd q hv, fun q => absurd rfl q⟩
    · rw [if_neg c, if_neg c]; exact o6 u u1 u2
  · rw [e4] at hu
    by_cases c : u = t
    · rw [if_pos c] at hu; exact absurd rfl hu
    · rw [if_neg c] at hu
      rw [eo 5 u 0 c]; exact o7 u u1 u2 hu
  · have c : u ≠ t := by rw [en] at u1; omega
    rw [eo _ _ _ c, eo _ _ _ c, eo _ _ _ c]
    obtain ⟨p1, p2, p3, p4⟩ := o8 u u1 u2
    exact ⟨p1, p2, p3, fun r hr => by rw [eo _ _ _ c, eo _ _ _ c, eo _ _ _ c]; exact p4 r hr⟩
/-- task t is let go of, and the lines are granted -/
def aClear (z : Zs) (t : Nat) (v : Int32) : Zs := aGr (aWipe z t v) 50 0
theorem aClear_o {z : Zs} {t : Nat} {v : Int32} (o : Zo z) (t1 : 1 ≤ t) (t2 : t ≤ zn z) (hv : ¬ v = 1) : Zo (aClear z t v) ∧ zn (aClear z t v) = zn z := aGr_o 50 0 _ (by omega) (aWipe_o o t1 t2 hv)
