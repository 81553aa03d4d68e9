/-! LINK: dead, as both have it -/
theorem Ze.rf (z : Zs) : Ze z z := ⟨rfl, fun _ _ _ _ _ => ⟨rfl, rfl, rfl, rfl⟩, fun _ _ _ => ⟨rfl, rfl, fun _ => rfl, rfl, rfl⟩, fun _ _ => rfl, rfl, fun _ _ => rfl⟩
theorem dead_eq {z : Zs} {i : Int32} (w : Zw z) : (cDead z i).1 = (cDeadM z i).1 ∧ Ze (cDead z i).2 (cDeadM z i).2 ∧ zn (cDead z i).2 ≤ 30 := by
  unfold cDead cDeadM
  rcases aTk_c (z := z) i w.1.1 with ⟨t, t1, t2, e1, ea⟩ | ⟨ea, hn⟩
  · rw [if_neg (by omega), if_neg (by omega), ea]
    have cn := (aClear_o (v := 2) w.1 t1 t2 (by decide)).2
    have n30 : zn (aClear z t 2) ≤ 30 := by rw [cn]; exact w.1.1
    by_cases st : zI z 3 t 0 = 2
    · rw [if_pos st]
      obtain ⟨d1, d2⟩ := dead_2 w t1 t2 st
      dsimp only
      exact ⟨by rw [d1]; rfl, d2, n30⟩
    · rw [if_neg st]
      dsimp only
      exact ⟨rfl, Ze.rf _, n30⟩
  · rw [if_pos ea, if_pos ea]
    exact ⟨rfl, Ze.rf z, w.1.1⟩
