/-! ABSTRACT: what read answers -/
/-- the number that the first of d tasks from u on keeps for s, else the agreed one -/
def aLat (z : Zs) (s : Nat) : Nat → Nat → Int64
  | 0, _ => zG z s
  | d + 1, u => if zI z 2 u s = 0 then aLat z s d (u + 1) else zK z u s
/-- code (0 answers, 1 and 2 throw) and number -/
def aRead (z : Zs) (i1 i2 : Int32) : Int32 × Int64 :=
  if aTk z i1 = 0 ∨ aSn i2 = 50 then (1, 0)
  else if ¬ zI z 3 (aTk z i1) 0 = 0 then (2, 0)
  else if zI z 0 (aTk z i1) (aSn i2) = -1 ∧ zI z 1 (aTk z i1) (aSn i2) = 0 then (2, 0)
  else if ¬ zI z 2 (aTk z i1) (aSn i2) = 0 then (0, zK z (aTk z i1) (aSn i2))
  else if ¬ zI z 0 (aTk z i1) (aSn i2) = -1 then (0, zG z (aSn i2))
  else (0, aLat z (aSn i2) (zn z) 1)
section AR
variable {z : Zs} {i1 i2 : Int32}
theorem aRead_1 (c : aTk z i1 = 0 ∨ aSn i2 = 50) : aRead z i1 i2 = (1, 0) := if_pos c
theorem aRead_2 {t s : Nat} (e1 : aTk z i1 = t) (e2 : aSn i2 = s) (t1 : 1 ≤ t) (hs : s < 50) (c : ¬ zI z 3 t 0 = 0) : aRead z i1 i2 = (2, 0) := by
  unfold aRead
  rw [e1, e2, if_neg (by omega), if_pos c]
theorem aRead_3 {t s : Nat} (e1 : aTk z i1 = t) (e2 : aSn i2 = s) (t1 : 1 ≤ t) (hs : s < 50) (c : zI z 3 t 0 = 0) (d : zI z 0 t s = -1 ∧ zI z 1 t s = 0) : aRead z i1 i2 = (2, 0) := by
  unfold aRead
  rw [e1, e2, if_neg (by omega), if_neg (fun y => y c), if_pos d]
theorem aRead_4 {t s : Nat} (e1 : aTk z i1 = t) (e2 : aSn i2 = s) (t1 : 1 ≤ t) (hs : s < 50) (c : zI z 3 t 0 = 0) (d : ¬ (zI z 0 t s = -1 ∧ zI z 1 t s = 0)) (w : ¬ zI z 2 t s = 0) : aRead z i1 i2 = (0, zK z t s) := by
  unfold aRead
  rw [e1, e2, if_neg (by omega), if_neg (fun y => y c), if_neg d, if_pos w]
theorem aRead_5 {t s : Nat} (e1 : aTk z i1 = t) (e2 : aSn i2 = s) (t1 : 1 ≤ t) (hs : s < 50) (c : zI z 3 t 0 = 0) (d : ¬ (zI z 0 t s = -1 ∧ zI z 1 t s = 0)) (w : zI z 2 t s = 0) (l : ¬ zI z 0 t s = -1) : aRead z i1 i2 = (0, zG z s) := by
  unfold aRead
  rw [e1, e2, if_neg (by omega), if_neg (fun y => y c), if_neg d, if_neg (fun y => y w), if_pos l]
theorem aRead_6 {t s : Nat} (e1 : aTk z i1 = t) (e2 : aSn i2 = s) (t1 : 1 ≤ t) (hs : s < 50) (c : zI z 3 t 0 = 0) (d : ¬ (zI z 0 t s = -1 ∧ zI z 1 t s = 0)) (w : zI z 2 t s = 0) (l : zI z 0 t s = -1) : aRead z i1 i2 = (0, aLat z s (zn z) 1) := by
  unfold aRead
  rw [e1, e2, if_neg (by omega), if_neg (fun y => y c), if_neg d, if_neg (fun y => y w), if_neg (fun y => y l)]
end AR
