/-! ABSTRACT: lines at rest, dead tasks, numbers kept -/
/-- the first in the line of s can't have what it waits for -/
def Sa (z : Zs) (s : Nat) : Prop := ∀ (t : Nat) (l : List Nat), zQ z s = t :: l → ¬ aFree z t s (zI z 5 t 0) (zn z) = true
def St (z : Zs) : Prop := ∀ s : Nat, s < 50 → Sa z s
/-- dead tasks have nothing -/
def Dn (z : Zs) : Prop := ∀ t s : Nat, 1 ≤ t → t ≤ zn z → s < 50 → zI z 3 t 0 = 2 → zI z 0 t s = -1 ∧ zI z 1 t s = 0 ∧ zI z 2 t s = 0
theorem aFree_congr {z z' : Zs} {t s : Nat} {w : Int32} : ∀ n : Nat, (∀ k : Nat, k < n → zI z' 0 (k + 1) s = zI z 0 (k + 1) s) → aFree z' t s w n = aFree z t s w n := by
  intro n
  induction n with
  | zero => intro _; rfl
  | succ n ih =>
    intro h
    show (aFree z' t s w n && _) = (aFree z t s w n && _)
    rw [ih (fun k hk => h k (by omega)), h n (by omega)]
theorem aFree_mon {z z' : Zs} {t s : Nat} {w : Int32} : ∀ n : Nat, (∀ k : Nat, k < n → (k + 1 = t ∨ zI z' 0 (k + 1) s = -1 ∨ ¬ 2 ≤ zI z' 0 (k + 1) s + w) → (k + 1 = t ∨ zI z 0 (k + 1) s = -1 ∨ ¬ 2 ≤ zI z 0 (k + 1) s + w)) → aFree z' t s w n = true → aFree z t s w n = true := by
  intro n
  induction n with
  | zero => intro _ _; rfl
  | succ n ih =>
    intro h e
    have e : (aFree z' t s w n && decide (n + 1 = t ∨ zI z' 0 (n + 1) s = -1 ∨ ¬ 2 ≤ zI z' 0 (n + 1) s + w)) = true := e
    rw [Bool.and_eq_true] at e
    show (aFree z t s w n && decide (n + 1 = t ∨ zI z 0 (n + 1) s = -1 ∨ ¬ 2 ≤ zI z 0 (n + 1) s + w)) = true
    rw [Bool.and_eq_true]
    exact ⟨ih (fun k hk => h k (by omega)) e.1, decide_eq_true (h n (by omega) (of_decide_eq_true e.2))⟩
theorem Sa.congr {z z' : Zs} {s : Nat} (h : Sa z s) (hn : zn z' = zn z) (hq : zQ z' s = zQ z s) (h5 : ∀ t ∈ zQ z s, zI z' 5 t 0 = zI z 5 t 0) (h0 : ∀ t : Nat, 1 ≤ t → t ≤ zn z → zI z' 0 t s = zI z 0 t s) : Sa z' s := fun t l e => by
  rw [hq] at e
  rw [hn, h5 t (by rw [e]; exact List.mem_cons_self ..), aFree_congr (z := z) _ (fun k hk => h0 (k + 1) (by omega) (by omega))]
  exact h t l e
theorem give_Sa {z : Zs} {t s r : Nat} (o : Zo z) (hs : s < 50) (hr : r < 50) (ht : t ∈ zQ z s) (hne : r ≠ s) (h : Sa z r) : Sa (aGive z t s) r := by
  refine h.congr rfl (by rw [aGive_Q, if_neg hne]) (fun u hu => ?_) (fun u _ _ => ?_)
  · have : u ≠ t := fun e => by
      have h1 := ((o.2.2.2.1 r u hr).mp hu).2.2
      have h2 := ((o.2.2.2.1 s t hs).mp ht).2.2
      rw [e] at h1
      exact nI_ne hr hs hne (h1.symm.trans h2)
    rw [aGive_I, if_neg this]
  · rw [aGive_I]
    by_cases c : u = t
    · rw [if_pos c, if_neg (fun y => hne y.2)]
      by_cases d : r = 0
      · rw [if_pos d, if_neg (by decide), if_neg (by decide), if_neg (by decide)]
      · rw [if_neg d]
    · rw [if_neg c]
theorem grS_Sa {s : Nat} (hs : s < 50) : ∀ (d : Nat) (z : Zs), Zo z → ((zQ z s).length ≤ d → Sa (aGrantS z s d) s) ∧ ∀ r : Nat, r < 50 → r ≠ s → Sa z r → Sa (aGrantS z s d) r := by
  intro d
  induction d with
  | zero =>
    intro z o
    refine ⟨fun h t l e => ?_, fun r _ _ h => h⟩
    have e : zQ z s = t :: l := e
    rw [e, List.length_cons] at h
    omega
  | succ d ih =>
    intro z o
    cases q : zQ z s with
    | nil =>
      rw [aGrantS_nil q]
      exact ⟨fun _ t l e => (by rw [q] at e; exact absurd e (List.cons_ne_nil t l).symm), fun r _ _ h => h⟩
    | cons t l =>
      rw [aGrantS_cons q]
      have ht : t ∈ zQ z s := by rw [q]; exact List.mem_cons_self ..
      by_cases y : aFree z t s (zI z 5 t 0) (zn z) = true
      · rw [if_pos y]
        obtain ⟨i1, i2⟩ := ih (aGive z t s) (aGive_o o hs ht)
        refine ⟨fun h => i1 ?_, fun r hr hne h => i2 r hr hne (give_Sa o hs hr ht hne h)⟩
        rw [aGive_Q, if_pos rfl, q, List.erase_cons_head]
        rw [List.length_cons] at h
        omega
      · rw [if_neg y]
        refine ⟨fun _ t' l' e => ?_, fun r _ _ h => h⟩
        rw [q] at e
        injection e with e1 e2
        rw [← e1]; exact y
theorem aGr_Sa : ∀ (d s : Nat) (z : Zs), s + d ≤ 50 → Zo z → (∀ r : Nat, s ≤ r → r < s + d → Sa (aGr z d s) r) ∧ ∀ r : Nat, r < 50 → (r < s ∨ s + d ≤ r) → Sa z r → Sa (aGr z d s) r := by
  intro d
  induction d with
  | zero => intro s z _ o; exact ⟨fun r h1 h2 => by omega, fun r _ _ h => h⟩
  | succ d ih =>
    intro s z h o
    obtain ⟨g1, g2⟩ := grS_Sa (s := s) (by omega) 30 z o
    have go := (aGrantS_o s (by omega) 30 z o).1
    obtain ⟨i1, i2⟩ := ih (s + 1) (aGrantS z s 30) (by omega) go
    have hl : (zQ z s).length ≤ 30 := Nat.le_trans (nodup_le (zn z) _ (o.2.2.1 s (by omega)) (fun t ht => ⟨((o.2.2.2.1 s t (by omega)).mp ht).1, ((o.2.2.2.1 s t (by omega)).mp ht).2.1⟩)) o.1
    refine ⟨fun r h1 h2 => ?_, fun r hr hh hz => i2 r hr (by omega) (g2 r hr (by omega) hz)⟩
    by_cases c : r = s
    · rw [c]; exact i2 s (by omega) (Or.inl (by omega)) (g1 hl)
    · exact i1 r (by omega) (by omega)
theorem aClear_St {z : Zs} {t : Nat} {v : Int32} (o : Zo z) (t1 : 1 ≤ t) (t2 : t ≤ zn z) (hv : ¬ v = 1) : St (aClear z t v) := fun s hs => (aGr_Sa 50 0 (aWipe z t v) (by omega) (aWipe_o o t1 t2 hv)).1 s (by omega) (by omega)
/-- a line at rest is left alone -/
theorem grS_rest {z : Zs} {s : Nat} (h : Sa z s) (d : Nat) : aGrantS z s d = z := by
  cases d with
  | zero => rfl
  | succ d =>
    cases q : zQ z s with
    | nil => exact aGrantS_nil q
    | cons t l => rw [aGrantS_cons q, if_neg (h t l q)]
theorem aGr_rest {z : Zs} (h : St z) : ∀ d s : Nat, s + d ≤ 50 → aGr z d s = z := by
  intro d
  induction d with
  | zero => intro s _; rfl
  | succ d ih =>
    intro s hs
    show aGr (aGrantS z s 30) d (s + 1) = z
    rw [grS_rest (h s (by omega))]
    exact ih (s + 1) (by omega)
/-- dead tasks have nothing: a task set -/
theorem give_Dn {z : Zs} {t s : Nat} (h : Dn z) : Dn (aGive z t s) := fun u r u1 u2 hr e => by
  have c : u ≠ t := fun c => by rw [aGive_I, c] at e; simp at e
  have ea : ∀ f r : Nat, zI (aGive z t s) f u r = zI z f u r := fun f r => by rw [aGive_I, if_neg c]
  rw [ea] at e
  rw [ea, ea, ea]
  exact h u r u1 u2 hr e
theorem grS_Dn (s : Nat) : ∀ (d : Nat) (z : Zs), Dn z → Dn (aGrantS z s d) := by
  intro d
  induction d with
  | zero => intro z h; exact h
  | succ d ih =>
    intro z h
    cases q : zQ z s with
    | nil => rw [aGrantS_nil q]; exact h
    | cons t l =>
      rw [aGrantS_cons q]
      by_cases y : aFree z t s (zI z 5 t 0) (zn z) = true
      · rw [if_pos y]; exact ih _ (give_Dn h)
      · rw [if_neg y]; exact h
theorem aGr_Dn : ∀ (d s : Nat) (z : Zs), Dn z → Dn (aGr z d s) := by
  intro d
  induction d with
  | zero => intro s z h; exact h
  | succ d ih => intro s z h; exact ih (s + 1) _ (grS_Dn s 30 z h)
theorem wipe_Dn {z : Zs} {t : Nat} {v : Int32} (h : Dn z) : Dn (aWipe z t v) := fun u r u1 u2 hr e => by
  by_cases c : u = t
  · rw [aWipe_I, aWipe_I, aWipe_I, if_pos c, if_pos c, if_pos c]
    exact ⟨rfl, rfl, rfl⟩
  · have ea : ∀ f r : Nat, zI (aWipe z t v) f u r = zI z f u r := fun f r => by rw [aWipe_I, if_neg c]
    rw [ea] at e
    rw [ea, ea, ea]
    exact h u r u1 u2 hr e
theorem aClear_Dn {z : Zs} {t : Nat} {v : Int32} (h : Dn z) : Dn (aClear z t v) := aGr_Dn 50 0 _ (wipe_Dn h)
/-- numbers kept -/
theorem aGr_K : ∀ (d s : Nat) (z : Zs), zK (aGr z d s) = zK z := by
  intro d
  induction d with
  | zero => intro s z; rfl
  | succ d ih =>
    intro s z
    have h1 : ∀ (e : Nat) (z : Zs), zK (aGrantS z s e) = zK z := by
      intro e
      induction e with
      | zero => intro z; rfl
      | succ e ih2 =>
        intro z
        cases q : zQ z s with
        | nil => rw [aGrantS_nil q]
        | cons t l =>
          rw [aGrantS_cons q]
          by_cases y : aFree z t s (zI z 5 t 0) (zn z) = true
          · rw [if_pos y, ih2]; rfl
          · rw [if_neg y]
    show zK (aGr (aGrantS z s 30) d (s + 1)) = zK z
    rw [ih, h1]
theorem aClear_K {z : Zs} {t : Nat} {v : Int32} : zK (aClear z t v) = zK z := by
  unfold aClear
  rw [aGr_K]; rfl
/-- all that is kept of the abstract state -/
def Zw (z : Zs) : Prop := Zo z ∧ Zk z ∧ St z ∧ Dn z
theorem aClear_w {z : Zs} {t : Nat} {v : Int32} (w : Zw z) (t1 : 1 ≤ t) (t2 : t ≤ zn z) (hv : ¬ v = 1) : Zw (aClear z t v) ∧ zn (aClear z t v) = zn z := by
  obtain ⟨o, k, s, d⟩ := w
  obtain ⟨c1, c2⟩ := aClear_o (v := v) o t1 t2 hv
  exact ⟨⟨c1, by intro u r u1 u2 hr; rw [aClear_K]; exact k u r (by omega) u2 hr, aClear_St o t1 t2 hv, aClear_Dn d⟩, c2⟩
theorem aRst_w {z : Zs} {t : Nat} {R : List Nat} (w : Zw z) (ht1 : 1 ≤ t) (ht : t ≤ zn z) (hw : ¬ zI z 4 t 0 = -1) (e : aFind z t = some R) : Zw (aRst z R) := by
  obtain ⟨y1, y2, y3, y4, y5⟩ := aRst_ok w.1 ht1 ht hw e
  have w0 : Zw (zu (zRi z R) 6 (aYg z R 0) 0 (zI z 6 (aYg z R 0) 0 + 1)) := by
    have ou : Zo (zu (zRi z R) 6 (aYg z R 0) 0 (zI z 6 (aYg z R 0) 0 + 1)) := zu_o (zRi_o w.1) y2 (Or.inr (Or.inr (Or.inl rfl)))
    have ei : ∀ f u r : Nat, f ≠ 6 → zI (zu (zRi z R) 6 (aYg z R 0) 0 (zI z 6 (aYg z R 0) 0 + 1)) f u r = zI z f u r := fun f u r hf => by
      rw [zu_I, if_neg (fun y => hf y.1)]; rfl
    refine ⟨ou, w.2.1, fun s hs => (w.2.2.1 s hs).congr rfl rfl (fun t _ => ei 5 t 0 (by decide)) (fun t _ _ => ei 0 t s (by decide)), fun u r u1 u2 hr e => ?_⟩
    rw [ei 3 u 0 (by decide)] at e
    rw [ei 0 u r (by decide), ei 1 u r (by decide), ei 2 u r (by decide)]
    exact w.2.2.2 u r u1 u2 hr e
  exact (aClear_w w0 y1 y2 (by decide)).1
theorem aBrk_w {t : Nat} (ht1 : 1 ≤ t) : ∀ (d : Nat) (z : Zs), t ≤ zn z → Zw z → Zw (aBrk t d z).2 ∧ zn (aBrk t d z).2 = zn z := by
  intro d
  induction d with
  | zero => intro z ht w; exact ⟨w, rfl⟩
  | succ d ih =>
    intro z ht w
    unfold aBrk
    by_cases st : zI z 3 t 0 = 1
    · rw [if_pos st]
      cases hf : aFind z t with
      | none => exact ⟨w, rfl⟩
      | some R =>
        have o1 := w.1.1
        have hw := (w.1.2.2.2.2.2.1 t ht1 (by omega)).mp st
        have wr := aRst_w w ht1 ht hw hf
        have er := (aRst_ok w.1 ht1 ht hw hf).2.2.2.2
        show Zw (if aYg z R 0 = t then ((-1 : Int32), aRst z R) else aBrk t d (aRst z R)).2 ∧ zn (if aYg z R 0 = t then ((-1 : Int32), aRst z R) else aBrk t d (aRst z R)).2 = zn z
        by_cases y : aYg z R 0 = t
        · rw [if_pos y]; dsimp only; exact ⟨wr, er⟩
        · rw [if_neg y]
          obtain ⟨i1, i2⟩ := ih (aRst z R) (by omega) wr
          exact ⟨i1, i2.trans er⟩
    · rw [if_neg st]; exact ⟨w, rfl⟩
