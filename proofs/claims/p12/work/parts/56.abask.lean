/-! ABSTRACT: ask -/
/-- the first place in a line whose task has no lock on s -/
def aPos (z : Zs) (s : Nat) : List Nat → Nat
  | [] => 0
  | u :: l => if zI z 0 u s = -1 then 0 else aPos z s l + 1
theorem aPos_le (z : Zs) (s : Nat) : ∀ l : List Nat, aPos z s l ≤ l.length := by
  intro l
  induction l with
  | nil => exact Nat.le_refl 0
  | cons u l ih =>
    unfold aPos
    by_cases c : zI z 0 u s = -1
    · rw [if_pos c]; exact Nat.zero_le _
    · rw [if_neg c, List.length_cons]; omega
/-- task t comes into the line of s at place p, with the wish w -/
def aEnter (z : Zs) (t s p : Nat) (w : Int32) : Zs := (fun f u r => if u = t ∧ r = 0 ∧ f = 3 then 1 else if u = t ∧ r = 0 ∧ f = 4 then nI s else if u = t ∧ r = 0 ∧ f = 5 then w else zI z f u r, fun r => if r = s then (zQ z s).take p ++ t :: (zQ z s).drop p else zQ z r, z.2.2)
theorem aEnter_I (z : Zs) (t s p : Nat) (w : Int32) (f u r : Nat) : zI (aEnter z t s p w) f u r = if u = t ∧ r = 0 ∧ f = 3 then 1 else if u = t ∧ r = 0 ∧ f = 4 then nI s else if u = t ∧ r = 0 ∧ f = 5 then w else zI z f u r := rfl
theorem aEnter_Q (z : Zs) (t s p : Nat) (w : Int32) (r : Nat) : zQ (aEnter z t s p w) r = if r = s then (zQ z s).take p ++ t :: (zQ z s).drop p else zQ z r := rfl
theorem mem_ins {l : List Nat} {p t x : Nat} : x ∈ l.take p ++ t :: l.drop p ↔ x = t ∨ x ∈ l := by
  rw [List.mem_append, List.mem_cons]
  constructor
  · rintro (h | h | h)
    · exact Or.inr (List.mem_of_mem_take h)
    · exact Or.inl h
    · exact Or.inr (List.mem_of_mem_drop h)
  · rintro (h | h)
    · exact Or.inr (Or.inl h)
    · rw [← List.take_append_drop p l, List.mem_append] at h
      rcases h with h | h
      · exact Or.inl h
      · exact Or.inr (Or.inr h)
theorem nodup_ins {l : List Nat} {p t : Nat} (nd : l.Nodup) (ht : t ∉ l) : (l.take p ++ t :: l.drop p).Nodup := by
  have h : (l.take p ++ l.drop p).Nodup := by rw [List.take_append_drop]; exact nd
  rw [List.nodup_append] at h
  obtain ⟨h1, h2, h3⟩ := h
  rw [List.nodup_append]
  refine ⟨h1, List.nodup_cons.mpr ⟨fun y => ht (List.mem_of_mem_drop y), h2⟩, fun a ha b hb e => ?_⟩
  rcases List.mem_cons.mp hb with q | q
  · rw [e, q] at ha; exact ht (List.mem_of_mem_take ha)
  · exact h3 a ha b q e
theorem aEnter_o {z : Zs} {t s p : Nat} {w : Int32} (o : Zo z) (t1 : 1 ≤ t) (t2 : t ≤ zn z) (hs : s < 50) (hw : zI z 4 t 0 = -1) (hv : w = 0 ∨ w = 1 ∨ w = 2) : Zo (aEnter z t s p w) := by
  obtain ⟨o1, o2, o3, o4, o5, o6, o7, o8⟩ := o
  have e4 : ∀ u : Nat, zI (aEnter z t s p w) 4 u 0 = if u = t then nI s else zI z 4 u 0 := fun u => by
    rw [aEnter_I]
    by_cases c : u = t <;> simp [c]
  have e3 : ∀ u : Nat, zI (aEnter z t s p w) 3 u 0 = if u = t then 1 else zI z 3 u 0 := fun u => by
    rw [aEnter_I]
    by_cases c : u = t <;> simp [c]
  have e5 : ∀ u : Nat, zI (aEnter z t s p w) 5 u 0 = if u = t then w else zI z 5 u 0 := fun u => by
    rw [aEnter_I]
    by_cases c : u = t <;> simp [c]
  have e0 : ∀ f u r : Nat, f ≠ 3 → f ≠ 4 → f ≠ 5 → zI (aEnter z t s p w) f u r = zI z f u r := fun f u r h3 h4 h5 => by
    rw [aEnter_I, if_neg (fun q => h3 q.2.2), if_neg (fun q => h4 q.2.2), if_neg (fun q => h5 q.2.2)]
  have nin : ∀ r : Nat, r < 50 → t ∉ zQ z r := fun r hr y => by
    have := ((o4 r t hr).mp y).2.2
    rw [hw] at this
    exact nIm1 (by omega) this
  have en : zn (aEnter z t s p w) = zn z := rfl
  refine ⟨o1, fun u r u1 u2 r1 => by rw [e0 0 u r (by decide) (by decide) (by decide)]; exact o2 u r u1 u2 r1, fun r hr => ?_, fun r u hr => ?_, fun u u1 u2 => ?_, fun u u1 u2 => ?_, fun u u1 u2 hu => ?_, fun u u1 u2 => ?_⟩
  · rw [aEnter_Q]
    by_cases c : r = s
    · rw [if_pos c]; exact nodup_ins (o3 s hs) (nin s hs)
    · rw [if_neg c]; exact o3 r hr
  · rw [aEnter_Q, en, e4]
    by_cases c : r = s
    · rw [if_pos c, mem_ins, o4 s u hs, c]
      by_cases d : u = t
      · rw [if_pos d]
        exact ⟨fun _ => ⟨by omega, by omega, rfl⟩, fun _ => Or.inl d⟩
      · rw [if_neg d]
        exact ⟨fun q => by rcases q with q | q; exact absurd q d; exact q, fun q => Or.inr q⟩
    · rw [if_neg c, o4 r u hr]
      by_cases d : u = t
      · rw [if_pos d]
        refine ⟨fun q => ?_, fun q => absurd q.2.2 (nI_ne hs hr (fun y => c y.symm))⟩
        have := q.2.2
        rw [d, hw] at this
        exact absurd this (nIm1 (by omega))
      · rw [if_neg d]
  · rw [e4]
    by_cases c : u = t
    · rw [if_pos c]; exact Or.inr ⟨s, hs, rfl⟩
    · rw [if_neg c]; exact o5 u u1 u2
  · rw [e4, e3]
    by_cases c : u = t
    · rw [if_pos c, if_pos c]
      exact ⟨fun _ => nI_nm1 (by omega), fun _ => rfl⟩
    · rw [if_neg c, if_neg c]; exact o6 u u1 u2
  · rw [e4] at hu
    rw [e5]
    by_cases c : u = t
    · rw [if_pos c]; exact hv
    · rw [if_neg c] at hu ⊢; exact o7 u u1 u2 hu
  · have c : u ≠ t := by rw [en] at u1; omega
    have ea : ∀ f r : Nat, zI (aEnter z t s p w) f u r = zI z f u r := fun f r => by
      rw [aEnter_I, if_neg (fun q => c q.1), if_neg (fun q => c q.1), if_neg (fun q => c q.1)]
    rw [ea, ea, ea]
    obtain ⟨p1, p2, p3, p4⟩ := o8 u u1 u2
    exact ⟨p1, p2, p3, fun r hr => by rw [ea, ea, ea]; exact p4 r hr⟩
/-- an int is set that the order of the lines doesn't hang on -/
theorem zu_o {z : Zs} {f t s : Nat} {v : Int32} (o : Zo z) (ht : t ≤ zn z) (hf : f = 1 ∨ f = 2 ∨ f = 6 ∨ (f = 0 ∧ (v = -1 ∨ v = 0 ∨ v = 1 ∨ v = 2))) : Zo (zu z f t s v) := by
  obtain ⟨o1, o2, o3, o4, o5, o6, o7, o8⟩ := o
  have e : ∀ f' u r : Nat, f' ≠ f → zI (zu z f t s v) f' u r = zI z f' u r := fun f' u r h => by rw [zu_I, if_neg (fun q => h q.1)]
  have e3 : ∀ u : Nat, zI (zu z f t s v) 3 u 0 = zI z 3 u 0 := fun u => e 3 u 0 (by omega)
  have e4 : ∀ u : Nat, zI (zu z f t s v) 4 u 0 = zI z 4 u 0 := fun u => e 4 u 0 (by omega)
  have e5 : ∀ u : Nat, zI (zu z f t s v) 5 u 0 = zI z 5 u 0 := fun u => e 5 u 0 (by omega)
  refine ⟨o1, fun u r u1 u2 r1 => ?_, o3, fun r u hr => ?_, fun u u1 u2 => ?_, fun u u1 u2 => ?_, fun u u1 u2 hu => ?_, fun u u1 u2 => ?_⟩
  · rw [zu_I]
    by_cases c : 0 = f ∧ u = t ∧ r = s
    · rw [if_pos c]
      rcases hf with q | q | q | q
      · omega
      · omega
      · omega
      · exact q.2
    · rw [if_neg c]; exact o2 u r u1 u2 r1
  · rw [e4]; exact o4 r u hr
  · rw [e4]; exact o5 u u1 u2
  · rw [e4, e3]; exact o6 u u1 u2
  · rw [e4] at hu
    rw [e5]; exact o7 u u1 u2 hu
  · have c : u ≠ t := by have : zn (zu z f t s v) = zn z := rfl; omega
    have ea : ∀ f' r : Nat, zI (zu z f t s v) f' u r = zI z f' u r := fun f' r => by rw [zu_I, if_neg (fun q => c q.2.1)]
    rw [ea, ea, ea]
    obtain ⟨p1, p2, p3, p4⟩ := o8 u u1 u2
    exact ⟨p1, p2, p3, fun r hr => by rw [ea, ea, ea]; exact p4 r hr⟩
theorem zRi_o {z : Zs} {R : List Nat} (o : Zo z) : Zo (zRi z R) := o
/-- the youngest of the ring is restarted -/
def aRst (z : Zs) (R : List Nat) : Zs := aClear (zu (zRi z R) 6 (aYg z R 0) 0 (zI z 6 (aYg z R 0) 0 + 1)) (aYg z R 0) 0
/-- rings are broken while task t waits: what ask answers -/
def aBrk (t : Nat) : Nat → Zs → Int32 × Zs
  | 0, z => (if zI z 3 t 0 = 1 then 0 else 1, z)
  | d + 1, z => if zI z 3 t 0 = 1 then (match aFind z t with
    | none => (0, z)
    | some R => if aYg z R 0 = t then (-1, aRst z R) else aBrk t d (aRst z R)) else (1, z)
/-- ask of a task that is active, for a segment, at 0, 1 or 2 -/
def aAskL (z : Zs) (lm : Int32) (t s : Nat) (w : Int32) : Int32 × Zs :=
  if zI z 0 t s < w then (if zI z 0 t s = -1 ∧ ¬ lm ≤ 0 ∧ ¬ nI (aHeld z t) < lm then (-3, aClear z t 2) else if aFree z t s w (zn z) = true ∧ (¬ zI z 0 t s = -1 ∨ zQ z s = []) then (1, zu z 0 t s w) else aBrk t 30 (aEnter z t s (if zI z 0 t s = -1 then (zQ z s).length else aPos z s (zQ z s)) w)) else (1, z)
theorem aRst_ok {z : Zs} {t : Nat} {R : List Nat} (o : Zo z) (ht1 : 1 ≤ t) (ht : t ≤ zn z) (hw : ¬ zI z 4 t 0 = -1) (e : aFind z t = some R) : 1 ≤ aYg z R 0 ∧ aYg z R 0 ≤ zn z ∧ ¬ zI z 4 (aYg z R 0) 0 = -1 ∧ Zo (aRst z R) ∧ zn (aRst z R) = zn z := by
  obtain ⟨h1, l, h2⟩ := aFind_ok hw ht1 ht e
  have hm : aYg z R 0 ∈ R := by
    rw [h2]
    show aYg z l (if 0 = 0 ∨ _ then t else 0) ∈ t :: l
    rw [if_pos (Or.inl rfl)]
    rcases aYg_mem (z := z) l t with q | q
    · rw [q]; exact List.mem_cons_self ..
    · exact List.mem_cons_of_mem _ q
  obtain ⟨y1, y2, y3⟩ := h1 _ hm
  have ou : Zo (zu (zRi z R) 6 (aYg z R 0) 0 (zI z 6 (aYg z R 0) 0 + 1)) := zu_o (zRi_o o) y2 (Or.inr (Or.inr (Or.inl rfl)))
  obtain ⟨c1, c2⟩ := aClear_o (v := 0) ou y1 y2 (by decide)
  exact ⟨y1, y2, y3, c1, c2⟩
