/-! The abstract heap: for each address its kind (0: no cell of ours; c + 1: an object of class c of vwCl; 21 .. 24: arrays of int, long, boolean, Object), its length, its ints, longs, references by place. -/
abbrev Hp : Type := (Nat → Nat) × (Nat → Nat) × (Nat → Nat → Int32) × (Nat → Nat → Int64) × (Nat → Nat → Option Nat)
def hK (h : Hp) : Nat → Nat := h.1
def hN (h : Hp) : Nat → Nat := h.2.1
def hI (h : Hp) : Nat → Nat → Int32 := h.2.2.1
def hJ (h : Hp) : Nat → Nat → Int64 := h.2.2.2.1
def hR (h : Hp) : Nat → Nat → Option Nat := h.2.2.2.2
def sI (h : Hp) (a k : Nat) (v : Int32) : Hp := (h.1, h.2.1, va_up h.2.2.1 a (va_up (h.2.2.1 a) k v), h.2.2.2.1, h.2.2.2.2)
def sJ (h : Hp) (a k : Nat) (v : Int64) : Hp := (h.1, h.2.1, h.2.2.1, va_up h.2.2.2.1 a (va_up (h.2.2.2.1 a) k v), h.2.2.2.2)
def sR (h : Hp) (a k : Nat) (v : Option Nat) : Hp := (h.1, h.2.1, h.2.2.1, h.2.2.2.1, va_up h.2.2.2.2 a (va_up (h.2.2.2.2 a) k v))
/-- the whole row of references of a cell -/
def sRr (h : Hp) (a : Nat) (f : Nat → Option Nat) : Hp := (h.1, h.2.1, h.2.2.1, h.2.2.2.1, va_up h.2.2.2.2 a f)
/-- a new cell -/
def mkC (h : Hp) (q kd n : Nat) : Hp := (va_up h.1 q kd, va_up h.2.1 q n, va_up h.2.2.1 q (fun _ => 0), va_up h.2.2.2.1 q (fun _ => 0), va_up h.2.2.2.2 q (fun _ => none))
/-- what is fixed over a whole run: classes and slots, classes of arrays, numbers (0: where our cells begin) -/
abbrev Gm : Type := va_G × (Nat → ClassId) × (Nat → Nat)
abbrev gTy (g : Gm) : List (ClassId × FieldType) := [(g.2.1 0, .int), (g.2.1 1, .long), (g.2.1 2, .boolean), (g.2.1 3, .object "java/lang/Object")]
abbrev gA (g : Gm) : Nat → Prop := fun q => g.2.2 0 ≤ q
def vfl (ty : FieldType) (h : Hp) (a k : Nat) : Value := match ty with
  | .long => .long (hJ h a k)
  | .object _ => va_rf (hR h a k)
  | .array _ => va_rf (hR h a k)
  | _ => .int (hI h a k)
def fls (ci : Nat) (h : Hp) (a : Nat) : List Value := (List.range (vwN ci)).map (fun k => vfl (vwTy ci k) h a k)
def cel (g : Gm) (h : Hp) (a : Nat) : va_E :=
  if hK h a = 21 then .inl (g.2.1 0, hN h a, .inl (hI h a))
  else if hK h a = 22 then .inl (g.2.1 1, hN h a, .inr (.inl (hJ h a)))
  else if hK h a = 23 then .inl (g.2.1 2, hN h a, .inl (hI h a))
  else if hK h a = 24 then .inl (g.2.1 3, hN h a, .inr (.inr (.inr (.inr (hR h a)))))
  else .inr (hK h a - 1, fls (hK h a - 1) h a)
/-- the machine's heap holds h -/
def GH (g : Gm) (h : Hp) (H : Heap) : Prop := ∃ L : List Nat, (∀ a, a ∈ L ↔ hK h a ≠ 0) ∧ va_P g.1 vwCl (va_pl L (cel g h)) H ∧ va_D (gA g) (va_pl L (cel g h))
theorem cel_obj {g : Gm} {h : Hp} {a ci : Nat} (hk : hK h a = ci + 1) (hc : ci < 20) : cel g h a = .inr (ci, fls ci h a) := by
  unfold cel
  rw [hk, if_neg (by omega), if_neg (by omega), if_neg (by omega), if_neg (by omega), Nat.add_sub_cancel]
theorem cel_21 {g : Gm} {h : Hp} {a : Nat} (hk : hK h a = 21) : cel g h a = .inl (g.2.1 0, hN h a, .inl (hI h a)) := by
  unfold cel
  rw [hk, if_pos rfl]
theorem cel_22 {g : Gm} {h : Hp} {a : Nat} (hk : hK h a = 22) : cel g h a = .inl (g.2.1 1, hN h a, .inr (.inl (hJ h a))) := by
  unfold cel
  rw [hk, if_neg (by decide), if_pos rfl]
theorem cel_23 {g : Gm} {h : Hp} {a : Nat} (hk : hK h a = 23) : cel g h a = .inl (g.2.1 2, hN h a, .inl (hI h a)) := by
  unfold cel
  rw [hk, if_neg (by decide), if_neg (by decide), if_pos rfl]
theorem cel_24 {g : Gm} {h : Hp} {a : Nat} (hk : hK h a = 24) : cel g h a = .inl (g.2.1 3, hN h a, .inr (.inr (.inr (.inr (hR h a))))) := by
  unfold cel
  rw [hk, if_neg (by decide), if_neg (by decide), if_neg (by decide), if_pos rfl]
theorem cel_same {g : Gm} {h h' : Hp} {a : Nat} (h1 : hK h' a = hK h a) (h2 : hN h' a = hN h a) (h3 : hI h' a = hI h a) (h4 : hJ h' a = hJ h a) (h5 : hR h' a = hR h a) : cel g h' a = cel g h a := by
  unfold cel fls vfl
  rw [h1, h2, h3, h4, h5]
theorem fls_at {ci : Nat} {h : Hp} {a k : Nat} (hk : k < vwN ci) : (fls ci h a)[k]? = some (vfl (vwTy ci k) h a k) := by
  unfold fls
  rw [List.getElem?_map, List.getElem?_range hk]
  rfl
theorem fls_len {ci : Nat} {h : Hp} {a : Nat} : (fls ci h a).length = vwN ci := by
  unfold fls
  rw [List.length_map, List.length_range]
theorem map_set1 {n k : Nat} {f f' : Nat → Value} {v : Value} (hk : k < n) (h1 : f' k = v) (h2 : ∀ j, j ≠ k → f' j = f j) : (List.range n).map f' = ((List.range n).map f).set k v := by
  apply List.ext_getElem?
  intro j
  rw [List.getElem?_set, List.getElem?_map, List.getElem?_map, List.length_map, List.length_range]
  by_cases e : k = j
  · subst e
    rw [if_pos rfl, if_pos hk, List.getElem?_range hk]
    simp [h1]
  · rw [if_neg e]
    by_cases hj : j < n
    · rw [List.getElem?_range hj]
      simp [h2 j (fun q => e q.symm)]
    · rw [List.getElem?_eq_none (by rw [List.length_range]; omega)]
      rfl
def isIt (ty : FieldType) : Bool := match ty with
  | .long => false
  | .object _ => false
  | .array _ => false
  | _ => true
def isRt (ty : FieldType) : Bool := match ty with
  | .object _ => true
  | .array _ => true
  | _ => false
theorem vfl_I {ty : FieldType} (h : isIt ty = true) (hp : Hp) (a k : Nat) : vfl ty hp a k = .int (hI hp a k) := by
  cases ty <;> first | rfl | (simp [isIt] at h)
theorem vfl_R {ty : FieldType} (h : isRt ty = true) (hp : Hp) (a k : Nat) : vfl ty hp a k = va_rf (hR hp a k) := by
  cases ty <;> first | rfl | (simp [isRt] at h)
/-! what reads see behind writes -/
theorem hI_sI (h : Hp) (a k : Nat) (v : Int32) : hI (sI h a k v) = va_up (hI h) a (va_up (hI h a) k v) := rfl
theorem hJ_sJ (h : Hp) (a k : Nat) (v : Int64) : hJ (sJ h a k v) = va_up (hJ h) a (va_up (hJ h a) k v) := rfl
theorem hR_sR (h : Hp) (a k : Nat) (v : Option Nat) : hR (sR h a k v) = va_up (hR h) a (va_up (hR h a) k v) := rfl
theorem fls_sI {ci : Nat} {h : Hp} {a k : Nat} {v : Int32} (hk : k < vwN ci) (ht : isIt (vwTy ci k) = true) : fls ci (sI h a k v) a = (fls ci h a).set k (.int v) := by
  refine map_set1 hk ?_ ?_
  · rw [vfl_I ht, hI_sI, va_up_self, va_up_self]
  · intro j hj
    unfold vfl
    rw [hI_sI, va_up_self, va_up_ne _ _ hj]
    rfl
theorem fls_sJ {ci : Nat} {h : Hp} {a k : Nat} {v : Int64} (hk : k < vwN ci) (ht : vwTy ci k = .long) : fls ci (sJ h a k v) a = (fls ci h a).set k (.long v) := by
  refine map_set1 hk ?_ ?_
  · rw [ht]
    show Value.long (hJ (sJ h a k v) a k) = _
    rw [hJ_sJ, va_up_self, va_up_self]
  · intro j hj
    unfold vfl
    rw [hJ_sJ, va_up_self, va_up_ne _ _ hj]
    rfl
theorem fls_sR {ci : Nat} {h : Hp} {a k : Nat} {v : Option Nat} (hk : k < vwN ci) (ht : isRt (vwTy ci k) = true) : fls ci (sR h a k v) a = (fls ci h a).set k (va_rf v) := by
  refine map_set1 hk ?_ ?_
  · rw [vfl_R ht, hR_sR, va_up_self, va_up_self]
  · intro j hj
    unfold vfl
    rw [hR_sR, va_up_self, va_up_ne _ _ hj]
    rfl
theorem cel_sI {g : Gm} {h : Hp} {a k b : Nat} {v : Int32} (e : b ≠ a) : cel g (sI h a k v) b = cel g h b := cel_same rfl rfl (by rw [hI_sI, va_up_ne _ _ e]) rfl rfl
theorem cel_sJ {g : Gm} {h : Hp} {a k b : Nat} {v : Int64} (e : b ≠ a) : cel g (sJ h a k v) b = cel g h b := cel_same rfl rfl rfl (by rw [hJ_sJ, va_up_ne _ _ e]) rfl
theorem cel_sR {g : Gm} {h : Hp} {a k b : Nat} {v : Option Nat} (e : b ≠ a) : cel g (sR h a k v) b = cel g h b := cel_same rfl rfl rfl rfl (by rw [hR_sR, va_up_ne _ _ e])
theorem cel_sRr {g : Gm} {h : Hp} {a b : Nat} {f : Nat → Option Nat} (e : b ≠ a) : cel g (sRr h a f) b = cel g h b := cel_same rfl rfl rfl rfl (va_up_ne _ _ e)
theorem cel_mk {g : Gm} {h : Hp} {q kd n b : Nat} (e : b ≠ q) : cel g (mkC h q kd n) b = cel g h b := cel_same (va_up_ne _ _ e) (va_up_ne _ _ e) (va_up_ne _ _ e) (va_up_ne _ _ e) (va_up_ne _ _ e)
/-- the place of a cell -/
theorem GH.find {g : Gm} {h : Hp} {H : Heap} {L : List Nat} (hL : ∀ a, a ∈ L ↔ hK h a ≠ 0) {a : Nat} (ha : hK h a ≠ 0) {e : va_E} (he : cel g h a = e) : ∃ k : Nat, (va_pl L (cel g h))[k]? = some (a, e) := by
  obtain ⟨k, hk⟩ := va_pl_get (X := []) (L := L) (f := cel g h) ((hL a).mpr ha)
  rw [List.nil_append] at hk
  exact ⟨k, by rw [hk, he]⟩
/-- a cell was written -/
theorem GH.put {g : Gm} {h h' : Hp} {H1 : Heap} {L : List Nat} {a k : Nat} {e0 e : va_E} (hL : ∀ a, a ∈ L ↔ hK h a ≠ 0) (hD : va_D (gA g) (va_pl L (cel g h))) (hk : (va_pl L (cel g h))[k]? = some (a, e0)) (he0 : cel g h a = e0) (hkk : ∀ b, hK h' b = hK h b) (he : cel g h' a = e) (ho : ∀ b, b ≠ a → cel g h' b = cel g h b)
    (hP1 : va_P g.1 vwCl ((va_pl L (cel g h)).set k (a, e)) H1) (hD1 : va_D (gA g) ((va_pl L (cel g h)).set k (a, e))) : GH g h' H1 := by
  have ha : a ∈ L := by
    obtain ⟨x, hx, hx2⟩ := List.mem_map.mp (List.mem_of_getElem? hk)
    rw [← (Prod.mk.inj hx2).1]
    exact hx
  have e1 := va_pl_set (X := []) (e := e) hD ha (by rw [List.nil_append, he0]; exact hk)
  rw [List.nil_append, List.nil_append] at e1
  have e2 : va_pl L (va_up (cel g h) a e) = va_pl L (cel g h') := va_pl_congr fun b => by
    by_cases eb : b = a
    · rw [eb, va_up_self, he]
    · rw [va_up_ne _ _ eb, ho b eb]
  rw [e1, e2] at hP1 hD1
  exact ⟨L, fun b => by rw [hkk b]; exact hL b, hP1, hD1⟩
/-- a cell was made -/
theorem GH.mk {g : Gm} {h : Hp} {H1 : Heap} {L : List Nat} {q kd n : Nat} {e : va_E} (hL : ∀ a, a ∈ L ↔ hK h a ≠ 0) (hkd : kd ≠ 0) (he : cel g (mkC h q kd n) q = e)
    (hP1 : va_P g.1 vwCl (va_pl L (cel g h) ++ [(q, e)]) H1) (hD1 : va_D (gA g) (va_pl L (cel g h) ++ [(q, e)])) : hK h q = 0 ∧ g.2.2 0 ≤ q ∧ GH g (mkC h q kd n) H1 := by
  have hqA : g.2.2 0 ≤ q := hD1.2 (va_pl L (cel g h)).length (q, e) (by rw [List.getElem?_append_right (Nat.le_refl _), Nat.sub_self]; rfl)
  have hq : q ∉ L := va_pl_fresh2 (X := []) (f := cel g h) (e := e) (by rw [List.nil_append]; exact hD1)
  have h0 : hK h q = 0 := by
    by_cases z : hK h q = 0
    · exact z
    · exact absurd ((hL q).mpr z) hq
  rw [va_pl_push hq] at hP1 hD1
  have e2 : va_pl (L ++ [q]) (va_up (cel g h) q e) = va_pl (L ++ [q]) (cel g (mkC h q kd n)) := va_pl_congr fun b => by
    by_cases eb : b = q
    · rw [eb, va_up_self, he]
    · rw [va_up_ne _ _ eb, cel_mk eb]
  rw [e2] at hP1 hD1
  refine ⟨h0, hqA, L ++ [q], fun b => ?_, hP1, hD1⟩
  rw [List.mem_append, List.mem_singleton]
  by_cases eb : b = q
  · subst eb
    refine ⟨fun _ => ?_, fun _ => Or.inr rfl⟩
    show va_up h.1 b kd b ≠ 0
    rw [va_up_self]
    exact hkd
  · refine ⟨fun z => ?_, fun z => Or.inl ((hL b).mpr ?_)⟩
    · rcases z with z | z
      · show va_up h.1 q kd b ≠ 0
        rw [va_up_ne _ _ eb]
        exact (hL b).mp z
      · exact absurd z eb
    · have z' : va_up h.1 q kd b ≠ 0 := z
      rw [va_up_ne _ _ eb] at z'
      exact z'
