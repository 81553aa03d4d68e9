/-! PURE: reads behind writes, ArrayList -/
theorem rI_sI (h : Hp) (a k : Nat) (v : Int32) (b j : Nat) : hI (sI h a k v) b j = if b = a ∧ j = k then v else hI h b j := by
  rw [hI_sI]
  unfold va_up
  by_cases e : b = a
  · subst e
    by_cases f : j = k <;> simp [f]
  · simp [e]
theorem rJ_sJ (h : Hp) (a k : Nat) (v : Int64) (b j : Nat) : hJ (sJ h a k v) b j = if b = a ∧ j = k then v else hJ h b j := by
  rw [hJ_sJ]
  unfold va_up
  by_cases e : b = a
  · subst e
    by_cases f : j = k <;> simp [f]
  · simp [e]
theorem rR_sR (h : Hp) (a k : Nat) (v : Option Nat) (b j : Nat) : hR (sR h a k v) b j = if b = a ∧ j = k then v else hR h b j := by
  rw [hR_sR]
  unfold va_up
  by_cases e : b = a
  · subst e
    by_cases f : j = k <;> simp [f]
  · simp [e]
theorem rR_sRr (h : Hp) (a : Nat) (f : Nat → Option Nat) (b j : Nat) : hR (sRr h a f) b j = if b = a then f j else hR h b j := by
  show va_up (hR h) a f b j = _
  unfold va_up
  by_cases e : b = a <;> simp [e]
theorem kK_sI (h : Hp) (a k : Nat) (v : Int32) : hK (sI h a k v) = hK h := rfl
theorem kN_sI (h : Hp) (a k : Nat) (v : Int32) : hN (sI h a k v) = hN h := rfl
theorem kJ_sI (h : Hp) (a k : Nat) (v : Int32) : hJ (sI h a k v) = hJ h := rfl
theorem kR_sI (h : Hp) (a k : Nat) (v : Int32) : hR (sI h a k v) = hR h := rfl
theorem kK_sJ (h : Hp) (a k : Nat) (v : Int64) : hK (sJ h a k v) = hK h := rfl
theorem kN_sJ (h : Hp) (a k : Nat) (v : Int64) : hN (sJ h a k v) = hN h := rfl
theorem kI_sJ (h : Hp) (a k : Nat) (v : Int64) : hI (sJ h a k v) = hI h := rfl
theorem kR_sJ (h : Hp) (a k : Nat) (v : Int64) : hR (sJ h a k v) = hR h := rfl
theorem kK_sR (h : Hp) (a k : Nat) (v : Option Nat) : hK (sR h a k v) = hK h := rfl
theorem kN_sR (h : Hp) (a k : Nat) (v : Option Nat) : hN (sR h a k v) = hN h := rfl
theorem kI_sR (h : Hp) (a k : Nat) (v : Option Nat) : hI (sR h a k v) = hI h := rfl
theorem kJ_sR (h : Hp) (a k : Nat) (v : Option Nat) : hJ (sR h a k v) = hJ h := rfl
theorem kK_sRr (h : Hp) (a : Nat) (f : Nat → Option Nat) : hK (sRr h a f) = hK h := rfl
theorem kN_sRr (h : Hp) (a : Nat) (f : Nat → Option Nat) : hN (sRr h a f) = hN h := rfl
theorem kI_sRr (h : Hp) (a : Nat) (f : Nat → Option Nat) : hI (sRr h a f) = hI h := rfl
theorem kJ_sRr (h : Hp) (a : Nat) (f : Nat → Option Nat) : hJ (sRr h a f) = hJ h := rfl
theorem mK_mk (h : Hp) (q kd n b : Nat) : hK (mkC h q kd n) b = if b = q then kd else hK h b := rfl
theorem mN_mk (h : Hp) (q kd n b : Nat) : hN (mkC h q kd n) b = if b = q then n else hN h b := rfl
theorem mI_mk (h : Hp) (q kd n b j : Nat) : hI (mkC h q kd n) b j = if b = q then 0 else hI h b j := by
  show va_up (hI h) q (fun _ => 0) b j = _
  unfold va_up
  by_cases e : b = q <;> simp [e]
theorem mJ_mk (h : Hp) (q kd n b j : Nat) : hJ (mkC h q kd n) b j = if b = q then 0 else hJ h b j := by
  show va_up (hJ h) q (fun _ => 0) b j = _
  unfold va_up
  by_cases e : b = q <;> simp [e]
theorem mR_mk (h : Hp) (q kd n b j : Nat) : hR (mkC h q kd n) b j = if b = q then none else hR h b j := by
  show va_up (hR h) q (fun _ => none) b j = _
  unfold va_up
  by_cases e : b = q <;> simp [e]
/-- the cells that stood and that S doesn't name are as they were; no cell that stood has changed its kind or length -/
def Fr (S : Nat → Prop) (h h' : Hp) : Prop := ∀ b : Nat, hK h b ≠ 0 → hK h' b = hK h b ∧ hN h' b = hN h b ∧ (¬ S b → hI h' b = hI h b ∧ hJ h' b = hJ h b ∧ hR h' b = hR h b)
theorem Fr.rfl' {S : Nat → Prop} {h : Hp} : Fr S h h := fun _ _ => ⟨rfl, rfl, fun _ => ⟨rfl, rfl, rfl⟩⟩
theorem Fr.trans {S : Nat → Prop} {h h1 h2 : Hp} (a : Fr S h h1) (b : Fr S h1 h2) : Fr S h h2 := fun q hq => by
  obtain ⟨a1, a2, a3⟩ := a q hq
  obtain ⟨b1, b2, b3⟩ := b q (by rw [a1]; exact hq)
  exact ⟨b1.trans a1, b2.trans a2, fun hs => ⟨(b3 hs).1.trans (a3 hs).1, (b3 hs).2.1.trans (a3 hs).2.1, (b3 hs).2.2.trans (a3 hs).2.2⟩⟩
theorem Fr.mono {S S' : Nat → Prop} {h h' : Hp} (a : Fr S h h') (hs : ∀ b, S b → S' b) : Fr S' h h' := fun q hq => ⟨(a q hq).1, (a q hq).2.1, fun z => (a q hq).2.2 (fun y => z (hs q y))⟩
theorem Fr.sI {S : Nat → Prop} {h : Hp} {a k : Nat} {v : Int32} (ha : S a) : Fr S h (sI h a k v) := fun b _ => ⟨rfl, rfl, fun hs => ⟨by
  funext j
  rw [rI_sI]; exact if_neg (fun z : b = a ∧ j = k => hs (by rw [z.1]; exact ha)), rfl, rfl⟩⟩
theorem Fr.sR {S : Nat → Prop} {h : Hp} {a k : Nat} {v : Option Nat} (ha : S a) : Fr S h (sR h a k v) := fun b _ => ⟨rfl, rfl, fun hs => ⟨rfl, rfl, by
  funext j
  rw [rR_sR]; exact if_neg (fun z : b = a ∧ j = k => hs (by rw [z.1]; exact ha))⟩⟩
theorem Fr.sJ {S : Nat → Prop} {h : Hp} {a k : Nat} {v : Int64} (ha : S a) : Fr S h (sJ h a k v) := fun b _ => ⟨rfl, rfl, fun hs => ⟨rfl, by
  funext j
  rw [rJ_sJ]; exact if_neg (fun z : b = a ∧ j = k => hs (by rw [z.1]; exact ha)), rfl⟩⟩
theorem Fr.sRr {S : Nat → Prop} {h : Hp} {a : Nat} {f : Nat → Option Nat} (ha : S a) : Fr S h (sRr h a f) := fun b _ => ⟨rfl, rfl, fun hs => ⟨rfl, rfl, by
  funext j
  rw [rR_sRr]; exact if_neg (fun z : b = a => hs (by rw [z]; exact ha))⟩⟩
theorem Fr.mk {S : Nat → Prop} {h : Hp} {q kd n : Nat} (hq : hK h q = 0) : Fr S h (mkC h q kd n) := fun b hb => by
  have e : b ≠ q := fun z => hb (z ▸ hq)
  refine ⟨by rw [mK_mk, if_neg e], by rw [mN_mk, if_neg e], fun _ => ⟨?_, ?_, ?_⟩⟩ <;> funext j
  · rw [mI_mk, if_neg e]
  · rw [mJ_mk, if_neg e]
  · rw [mR_mk, if_neg e]
/-- the list at a (its array at e, of cap places) holds xs -/
def Ls (g : Gm) (h : Hp) (a e cap : Nat) (xs : List Nat) : Prop := hK h a = 6 ∧ hI h a 1 = nI xs.length ∧ hR h a 0 = some e ∧ xs.length ≤ cap ∧ cap ≤ 1000 ∧ ((e = g.2.2 1 ∧ cap = 0) ∨ (e ≠ g.2.2 1 ∧ hK h e = 24 ∧ hN h e = cap ∧ 2 ≤ cap ∧ ∀ i : Nat, i < xs.length → hR h e i = some (xs.getD i 0)))
theorem Ls.kept {g : Gm} {h h' : Hp} {S : Nat → Prop} {a e cap : Nat} {xs : List Nat} (hl : Ls g h a e cap xs) (hf : Fr S h h') (ha : ¬ S a) (he : ¬ S e) : Ls g h' a e cap xs := by
  obtain ⟨h1, h2, h3, h4, h5, h6⟩ := hl
  obtain ⟨k1, k2, k3⟩ := hf a (by rw [h1]; decide)
  obtain ⟨k4, k5, k6⟩ := k3 ha
  refine ⟨k1.trans h1, by rw [k4]; exact h2, by rw [k6]; exact h3, h4, h5, ?_⟩
  rcases h6 with h6 | ⟨z1, z2, z3, z4, z5⟩
  · exact Or.inl h6
  · obtain ⟨y1, y2, y3⟩ := hf e (by rw [z2]; decide)
    exact Or.inr ⟨z1, y1.trans z2, y2.trans z3, z4, fun i hi => by rw [(y3 he).2.2]; exact z5 i hi⟩
theorem Ls.size {g : Gm} {h : Hp} {a e cap : Nat} {xs : List Nat} {post : Int32 → Prop} (hl : Ls g h a e cap xs) (hp : post (nI xs.length)) : wp_A_size g post h a := by
  unfold wp_A_size
  exact ⟨hl.1, by rw [hl.2.1]; exact hp⟩
theorem chk_ok {g : Gm} {h : Hp} {i n : Nat} {post : Int32 → Prop} (hi : i < n) (hn : n < 2 ^ 31) (hp : post (nI i)) : wp_O_checkIndex g post h (nI i) (nI n) := by
  unfold wp_O_checkIndex wp_P_checkIndex
  exact ⟨fun z => absurd z (nI_pos (by omega)), fun _ => ⟨fun _ => hp, fun z => absurd (nI_lt hi hn) z⟩⟩
theorem Ls.get {g : Gm} {h : Hp} {a e cap i : Nat} {xs : List Nat} {post : Option Nat → Prop} (hl : Ls g h a e cap xs) (hi : i < xs.length) (hp : post (some (xs.getD i 0))) : wp_A_get g post h a (nI i) := by
  obtain ⟨h1, h2, h3, h4, h5, h6⟩ := hl
  rcases h6 with ⟨-, z⟩ | ⟨z1, z2, z3, z4, z5⟩
  · omega
  · unfold wp_A_get
    refine ⟨h1, ?_⟩
    rw [h2]
    refine chk_ok hi (by omega) ⟨h1, ?_⟩
    unfold wp_A_elementData
    refine ⟨h1, e, h3, z2, by rw [z3]; exact vp_in_nI (by omega) (by omega), xs.getD i 0, ?_, hp⟩
    rw [nI_clamp (by omega)]
    exact z5 i hi
/-- add, where there is room: the list's cells alone change -/
theorem Ls.addRoom {g : Gm} {h : Hp} {a e cap y mc ms : Nat} {xs : List Nat} {post : Int32 → Hp → Prop} (hl : Ls g h a e cap xs) (hc : xs.length < cap) (hy : hK h y = 4)
    (hp : ∀ h' : Hp, Ls g h' a e cap (xs ++ [y]) → Fr (fun b => b = a ∨ b = e) h h' → post 1 h') : wp_A_add2 g post mc ms h a y := by
  obtain ⟨h1, h2, h3, h4, h5, h6⟩ := hl
  rcases h6 with ⟨-, z⟩ | ⟨z1, z2, z3, z4, z5⟩
  · omega
  · have hae : a ≠ e := fun q => by rw [q, z2] at h1; exact absurd h1 (by decide)
    have hea : e ≠ a := fun q => hae q.symm
    unfold wp_A_add2
    refine ⟨h1, fun x2 _ => ⟨h1, fun ha4 e4 => ?_⟩⟩
    have hk4 : hK ha4 = hK h := by rw [e4]; rfl
    have hn4 : hN ha4 = hN h := by rw [e4]; rfl
    have hr4 : hR ha4 = hR h := by rw [e4]; rfl
    have hi4 : hI ha4 a 1 = nI xs.length := by rw [e4, rI_sI, if_neg (by omega)]; exact h2
    refine ⟨by rw [hk4]; exact h1, e, by rw [hr4]; exact h3, by rw [hk4]; exact h1, by rw [hk4]; exact h1, 0, 0, by omega, by omega, ?_⟩
    rw [hi4]
    unfold wp_A_add
    refine ⟨nI cap, Or.inl ⟨by rw [hk4, z2]; decide, by rw [hk4, z2]; decide, by rw [hn4, z3]⟩, fun _ => ?_, fun q => absurd ((nI_eq (by omega) (by omega)).mp q) (by omega)⟩
    unfold wp_A_add_11
    refine ⟨e, rfl, by rw [hk4]; exact z2, by rw [hn4, z3]; exact vp_in_nI hc (by omega), by rw [hk4]; exact hy, fun h5' e5 => ?_⟩
    rw [nI_clamp (by omega)] at e5
    intro x7 ex7
    refine ⟨by rw [e5, kK_sR, hk4]; exact h1, fun h9 e9 => ⟨Or.inr rfl, hp h9 ⟨?_, ?_, ?_, ?_, h5, Or.inr ⟨z1, ?_, ?_, z4, ?_⟩⟩ ?_⟩⟩
    · rw [e9, kK_sI, e5, kK_sR, hk4]; exact h1
    · rw [e9, rI_sI, if_pos ⟨rfl, rfl⟩, ex7, nI_1, List.length_append]; rfl
    · rw [e9, kR_sI, e5, rR_sR, if_neg (fun q => hae q.1), hr4]; exact h3
    · rw [List.length_append]; exact hc
    · rw [e9, kK_sI, e5, kK_sR, hk4]; exact z2
    · rw [e9, kN_sI, e5, kN_sR, hn4]; exact z3
    · intro i hi
      rw [List.length_append] at hi
      have hi : i < xs.length + 1 := hi
      rw [e9, kR_sI, e5, rR_sR, hr4]
      by_cases q : i = xs.length
      · subst q
        rw [if_pos ⟨rfl, rfl⟩]
        simp [List.getD_eq_getElem?_getD]
      · rw [if_neg (fun z => q z.2), z5 i (by omega)]
        simp [List.getD_eq_getElem?_getD, List.getElem?_append_left (show i < xs.length by omega)]
    · rw [e9, e5, e4]
      exact ((Fr.sI (Or.inl rfl)).trans (Fr.sR (Or.inr rfl))).trans (Fr.sI (Or.inl rfl))
