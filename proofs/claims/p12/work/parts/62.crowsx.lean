/-! EXACT: the class's find, canHave, rows -/
theorem V_tog {g : Gm} {h : Hp} {a b : Int32} {post : Int32 → Prop} (ha : a = -1 ∨ a = 0 ∨ a = 1 ∨ a = 2) (hb : b = 0 ∨ b = 1 ∨ b = 2) (hp : post (if a = -1 ∨ ¬ 2 ≤ a + b then 1 else 0)) : wp_S_areTogether g post h a b := by
  unfold wp_S_areTogether wp_S_areTogether_10 wp_S_areTogether_34 wp_S_areTogether_30 wp_S_areTogether_35
  have p1 : (a = -1 ∨ ¬ 2 ≤ a + b) → zB 1 ∧ post 1 := fun c => by rw [if_pos c] at hp; exact ⟨Or.inr rfl, hp⟩
  have p0 : ¬ (a = -1 ∨ ¬ 2 ≤ a + b) → zB 0 ∧ post 0 := fun c => by rw [if_neg c] at hp; exact ⟨Or.inl rfl, hp⟩
  clear hp
  refine ⟨fun c0 => p1 (Or.inl c0), fun c0 => ⟨fun c1 => ⟨fun c2 => p0 ?_, fun c2 => ⟨fun c3 => p0 ?_, fun c3 => ⟨fun c4 => p1 ?_, fun c4 => ⟨fun c5 => p0 ?_, fun c5 => p1 ?_⟩⟩⟩⟩, fun c1 => ?_⟩⟩
  · rw [c2]; rcases hb with q | q | q <;> rw [q] <;> decide
  · rw [c3]; rcases ha with q | q | q | q
    · exact absurd q c0
    · rw [q]; decide
    · rw [q]; decide
    · exact absurd q c2
  · rw [c4]; rcases hb with q | q | q
    · rw [q]; decide
    · rw [q]; decide
    · exact absurd q c3
  · have qa : a = 1 := by
      rcases ha with q | q | q | q
      · exact absurd q c0
      · exact absurd q c4
      · exact q
      · exact absurd q c2
    have qb : b = 1 := by
      rcases hb with q | q | q
      · exact absurd q c5
      · exact q
      · exact absurd q c3
    rw [qa, qb]; decide
  · rw [c5]; rcases ha with q | q | q | q
    · exact absurd q c0
    · rw [q]; decide
    · rw [q]; decide
    · exact absurd q c2
  · rcases hb with q | q | q <;> rw [q] at c1 <;> exact absurd c1 (by decide)
theorem aFree_mono {z : Zs} {t s : Nat} {w : Int32} {k : Nat} (h : ¬ aFree z t s w k = true) : ∀ n : Nat, k ≤ n → ¬ aFree z t s w n = true := by
  intro n
  induction n with
  | zero => intro hk; have : k = 0 := by omega
            rw [this] at h; exact h
  | succ n ih =>
    intro hk y
    by_cases c : k = n + 1
    · rw [c] at h; exact h y
    · have y : (aFree z t s w n && _) = true := y
      rw [Bool.and_eq_true] at y
      exact ih (by omega) y.1
theorem map_getD {W : List Nat} {f : Nat → Nat} {i : Nat} (hi : i < W.length) : (W.map f).getD i 0 = f (W.getD i 0) := by
  rw [List.getD_eq_getElem?_getD, List.getD_eq_getElem?_getD, List.getElem?_map, List.getElem?_eq_getElem hi]
  rfl
theorem drop_cons {l : List Nat} {k : Nat} (hk : k < l.length) : l.drop k = l.getD k 0 :: l.drop (k + 1) := by
  rw [List.drop_eq_getElem_cons hk, List.getD_eq_getElem?_getD, List.getElem?_eq_getElem hk]
  rfl
theorem erase_take : ∀ {l : List Nat} {t p : Nat}, l.Nodup → p < l.length → l.getD p 0 = t → l.erase t = l.take p ++ l.drop (p + 1) := by
  intro l
  induction l with
  | nil => intro t p _ hp; exact absurd hp (Nat.not_lt_zero p)
  | cons b l ih =>
    intro t p nd hp ht
    have nd' := List.nodup_cons.mp nd
    cases p with
    | zero =>
      have hb : b = t := ht
      rw [hb, List.erase_cons_head]
      rfl
    | succ p =>
      have hp' : p < l.length := by have : p + 1 < l.length + 1 := hp; omega
      have ht' : l.getD p 0 = t := ht
      have hb : b ≠ t := fun e => nd'.1 (by rw [e, ← ht']; exact getD_mem hp')
      rw [List.erase_cons_tail (by simp [hb]), ih nd'.2 hp' ht']
      rfl
section VW
variable {g : Gm} {Y P : Nat → Prop} {h0 h : Hp} {x : Nat} {D E C : Nat → Nat} {L : Nat → List Nat} {B : Nat → Nat → Nat} {z : Zs} {W : List Nat}
theorem V_find1 {t : Nat} {post : Option Nat → Prop} (c : CI g Y P h0 h x D E C L) (t1 : 1 ≤ t) (t2 : t ≤ (L 0).length) (hp : post (some (Ta (L 0) t))) : wp_S_find g post h x (nI t) := by
  have l := c.ls 0 (by omega)
  have hl := c.len (i := 0) (by omega)
  have k := c.sk.kx
  have r := c.sk.f1
  have h1 : (1 : Int32) = nI 1 := rfl
  unfold wp_S_find wp_S_find_32 wp_S_find_33
  refine ⟨fun z => ?_, fun z => ⟨k, D 0, r, l.1, l.size ⟨fun z' => ?_, fun z' => ⟨k, D 0, r, fun x10 e10 => ?_⟩⟩⟩⟩
  · rw [h1] at z
    have := (nI_ltI (by omega) (by omega)).mp z
    omega
  · have := (nI_ltI (by omega) (by omega)).mp z'
    omega
  · obtain ⟨j, rfl⟩ : ∃ i, t = i + 1 := ⟨t - 1, by omega⟩
    rw [nI_pred] at e10
    subst e10
    have hm := c.mem (i := 0) (j := j) (by omega) (by omega)
    exact ⟨l.1, l.get (by omega) ⟨_, rfl, c.kT hm, hp⟩⟩
theorem V_find0 {i : Int32} {post : Option Nat → Prop} (c : CI g Y P h0 h x D E C L) (hn : ∀ t : Nat, 1 ≤ t → t ≤ (L 0).length → i ≠ nI t) (hp : post none) : wp_S_find g post h x i := by
  have l := c.ls 0 (by omega)
  have hl := c.len (i := 0) (by omega)
  have k := c.sk.kx
  have r := c.sk.f1
  have h1 : (1 : Int32) = nI 1 := rfl
  unfold wp_S_find wp_S_find_32 wp_S_find_33
  refine ⟨fun _ => hp, fun z => ⟨k, D 0, r, l.1, l.size ⟨fun _ => hp, fun z' => ?_⟩⟩⟩
  exfalso
  obtain ⟨j, rfl, hj⟩ := nI_back (i := i) (fun y => z (Int32.lt_trans y (by decide)))
  refine hn j ?_ ?_ rfl
  · rcases Nat.lt_or_ge j 1 with q | q
    · exact absurd (by rw [h1]; exact nI_lt q (by omega)) z
    · exact q
  · rcases Nat.lt_or_ge (L 0).length j with q | q
    · exact absurd (nI_lt q hj) z'
    · exact q
theorem V_canHave {t s : Nat} {v : Int32} {post : Int32 → Prop} (c : CI g Y P h0 h x D E C L) (a : CA h (L 0) B D z) (o : Zo z) (t1 : 1 ≤ t) (t2 : t ≤ zn z) (hs : s < 50) (hv : v = 0 ∨ v = 1 ∨ v = 2) (hp : post (bI (aFree z t s v (zn z)))) : wp_S_canHave g post h x (Ta (L 0) t) (nI s) v := by
  have l := c.ls 0 (by omega)
  have hl := a.1
  have o1 := o.1
  have k := c.sk.kx
  have r := c.sk.f1
  have loop : ∀ (d i : Nat), i + d = zn z → aFree z t s v i = true → wp_S_canHave_3 g post (d + 1) h x (Ta (L 0) t) (nI s) v (nI i) := by
    intro d
    induction d with
    | zero =>
      intro i e hf
      have e : i = zn z := by omega
      rw [e] at hf
      rw [bI_true hf] at hp
      unfold wp_S_canHave_3
      exact ⟨k, D 0, r, l.1, l.size ⟨fun _ => ⟨Or.inr rfl, hp⟩, fun z => absurd (nI_le (by omega) (by omega)) z⟩⟩
    | succ d ih =>
      intro i e hf
      have hi : i < (L 0).length := by omega
      have ta : (L 0).getD i 0 = Ta (L 0) (i + 1) := rfl
      have hm := c.mem (i := 0) (j := i) (by omega) hi
      have km := c.kT hm
      obtain ⟨r2, s2, n2, y2⟩ := a.arr c (t := i + 1) (k := 2) (kd := 21) (by omega) (by omega) (by decide) (by decide) (by decide)
      have e2 := (a.2.2.2.2.1 (i + 1) s (by omega) (by omega) hs).1
      have st : aFree z t s v (i + 1) = decide (i + 1 = t ∨ zI z 0 (i + 1) s = -1 ∨ ¬ 2 ≤ zI z 0 (i + 1) s + v) := by
        show (aFree z t s v i && _) = _
        rw [hf, Bool.true_and]
      have nx : aFree z t s v (i + 1) = true → ∀ x1 : Int32, x1 = nI i + 1 → wp_S_canHave_3 g post (d + 1) h x (Ta (L 0) t) (nI s) v x1 := fun hf' x1 e1 => by
        rw [nI_1] at e1; subst e1; exact ih (i + 1) (by omega) hf'
      unfold wp_S_canHave_3 wp_S_canHave_51
      refine ⟨k, D 0, r, l.1, l.size ⟨fun z' => ?_, fun _ => ⟨k, D 0, r, l.1, l.get hi ⟨_, rfl, km, fun et => nx ?_, fun et => ⟨km, B (i + 1) 2, r2, s2, by rw [n2]; exact vp_in_nI (by omega) (by omega), ?_⟩⟩⟩⟩⟩
      · have := (nI_leI (by omega) (by omega)).mp z'
        omega
      · rw [st]
        exact decide_eq_true (Or.inl (Ta_inj a (by omega) (by omega) t1 t2 (Option.some.inj et)))
      · rw [nI_clamp (by omega), e2]
        have net : ¬ i + 1 = t := fun q => et (by rw [ta, q])
        refine V_tog (o.2.1 (i + 1) s (by omega) (by omega) hs) hv ?_
        by_cases q : zI z 0 (i + 1) s = -1 ∨ ¬ 2 ≤ zI z 0 (i + 1) s + v
        · rw [if_pos q]
          exact ⟨fun _ => nx (by rw [st]; exact decide_eq_true (Or.inr q)), fun y => absurd y (by decide)⟩
        · rw [if_neg q]
          refine ⟨fun y => absurd rfl y, fun _ => ⟨Or.inl rfl, ?_⟩⟩
          have hf' : ¬ aFree z t s v (i + 1) = true := by
            rw [st]
            exact fun y => by
              rcases of_decide_eq_true y with y | y
              · exact net y
              · exact q y
          rw [bI_false (aFree_mono hf' (zn z) (by omega))] at hp
          exact hp
  unfold wp_S_canHave
  exact ⟨zn z + 1, loop _ 0 (by omega) rfl⟩
theorem V_first {s : Nat} {post : Option Nat → Prop} (c : CI g Y P h0 h x D E C L) (a : CA h (L 0) B D z) (w : CW (L 1) (L 0) W z) (hs : s < 50) (p0 : zQ z s = [] → post none) (p1 : ∀ (t : Nat) (l : List Nat), zQ z s = t :: l → post (some (Ta (L 0) t))) : wp_W_first g post h (D 5) (nI s) := by
  have l := c.ls 1 (by omega)
  have hl := c.len (i := 1) (by omega)
  have k := c.sk.k5
  have r := c.sk.w0
  obtain ⟨w1, w2, w3, w4⟩ := w
  have wl : (L 1).length = W.length := by rw [w1, List.length_map]
  have loop : ∀ (d i : Nat), i + d = W.length → (W.drop i).filter (fun t => decide (zI z 4 t 0 = nI s)) = zQ z s → wp_W_first_2 g post (d + 1) h (D 5) (nI s) (nI i) := by
    intro d
    induction d with
    | zero =>
      intro i e hf
      rw [show i = W.length by omega, List.drop_length] at hf
      unfold wp_W_first_2
      exact ⟨k, D 1, r, l.1, l.size ⟨fun _ => p0 hf.symm, fun z => absurd (nI_le (by omega) (by omega)) z⟩⟩
    | succ d ih =>
      intro i e hf
      have hi : i < W.length := by omega
      have hm := c.mem (i := 1) (j := i) (by omega) (by omega)
      have km := c.kT hm
      have ge : (L 1).getD i 0 = Ta (L 0) (W.getD i 0) := by rw [w1]; exact map_getD hi
      have hin := (w3 _).mp (getD_mem (d := 0) hi)
      have e13 : hI h ((L 1).getD i 0) 13 = zI z 4 (W.getD i 0) 0 := by rw [ge]; exact (a.2.2.1 _ hin.1 hin.2.1).2.2.2.1
      rw [drop_cons hi, List.filter_cons] at hf
      unfold wp_W_first_2
      refine ⟨k, D 1, r, l.1, l.size ⟨fun z' => ?_, fun _ => ⟨k, D 1, r, l.1, l.get (by omega) ⟨_, rfl, km, km, fun q x16 e16 => ?_, fun q => ⟨k, D 1, r, l.1, l.get (by omega) ⟨_, rfl, km, ?_⟩⟩⟩⟩⟩⟩
      · have := (nI_leI (by omega) (by omega)).mp z'
        omega
      · rw [e13] at q
        rw [if_neg (by rw [decide_eq_false q]; decide)] at hf
        rw [nI_1] at e16
        subst e16
        exact ih (i + 1) (by omega) hf
      · rw [e13] at q
        rw [if_pos (decide_eq_true q)] at hf
        rw [ge]
        exact p1 _ _ hf.symm
  unfold wp_W_first
  exact ⟨W.length + 1, loop _ 0 (by omega) (by rw [List.drop_zero]; exact w4 s hs)⟩
theorem V_placeOf {t : Nat} {post : Int32 → Prop} (c : CI g Y P h0 h x D E C L) (a : CA h (L 0) B D z) (w : CW (L 1) (L 0) W z) (t1 : 1 ≤ t) (t2 : t ≤ zn z) (p1 : ∀ p : Nat, p < W.length → W.getD p 0 = t → post (nI p)) (p0 : t ∉ W → post (nI W.length)) : wp_W_placeOf g post h (D 5) (Ta (L 0) t) := by
  have l := c.ls 1 (by omega)
  have hl := c.len (i := 1) (by omega)
  have k := c.sk.k5
  have r := c.sk.w0
  obtain ⟨w1, w2, w3, w4⟩ := w
  have wl : (L 1).length = W.length := by rw [w1, List.length_map]
  have loop : ∀ (d i : Nat), i + d = W.length → (t ∈ W → t ∈ W.drop i) → wp_W_placeOf_2 g post (d + 1) h (D 5) (Ta (L 0) t) (nI i) := by
    intro d
    induction d with
    | zero =>
      intro i e hf
      rw [show i = W.length by omega, List.drop_length] at hf
      have := p0 (fun y => nomatch hf y)
      unfold wp_W_placeOf_2
      exact ⟨k, D 1, r, l.1, l.size ⟨fun _ => ⟨k, D 1, r, l.1, l.size (by rw [wl]; exact this)⟩, fun z => absurd (nI_le (by omega) (by omega)) z⟩⟩
    | succ d ih =>
      intro i e hf
      have hi : i < W.length := by omega
      have ge : (L 1).getD i 0 = Ta (L 0) (W.getD i 0) := by rw [w1]; exact map_getD hi
      have hin := (w3 _).mp (getD_mem (d := 0) hi)
      unfold wp_W_placeOf_2
      refine ⟨k, D 1, r, l.1, l.size ⟨fun z' => ?_, fun _ => ⟨k, D 1, r, l.1, l.get (by omega) ⟨fun q x18 e18 => ?_, fun q => ?_⟩⟩⟩⟩
      · have := (nI_leI (by omega) (by omega)).mp z'
        omega
      · rw [nI_1] at e18
        subst e18
        refine ih (i + 1) (by omega) fun y => ?_
        have := hf y
        rw [drop_cons hi] at this
        rcases List.mem_cons.mp this with y' | y'
        · exact absurd (by rw [ge, y']) q
        · exact y'
      · rw [ge] at q
        exact p1 i hi (Ta_inj a hin.1 hin.2.1 t1 t2 (Option.some.inj q))
  unfold wp_W_placeOf
  exact ⟨W.length + 1, loop _ 0 (by omega) (fun y => by rw [List.drop_zero]; exact y)⟩
theorem B_g {t k : Nat} (c : CI g Y P h0 h x D E C L) (a : CA h (L 0) B D z) (hg : ∀ t k : Nat, 1 ≤ t → t ≤ zn z → 2 ≤ k → k ≤ 7 → B t k ≠ g.2.2 1) (t1 : 1 ≤ t) (t2 : t ≤ zn z) (k1 : 2 ≤ k) (k2 : k ≤ 7) : B t k ≠ g.2.2 1 := hg t k t1 t2 k1 k2
theorem V_leave {t : Nat} {post : Hp → Prop} (c : CI g Y P h0 h x D E C L) (a : CA h (L 0) B D z) (n : CN h (L 0) z) (w : CW (L 1) (L 0) W z) (hg : ∀ t k : Nat, 1 ≤ t → t ≤ zn z → 2 ≤ k → k ≤ 7 → B t k ≠ g.2.2 1) (t1 : 1 ≤ t) (t2 : t ≤ zn z)
    (hp : ∀ (h' : Hp) (L' : Nat → List Nat), (∀ j : Nat, j ≠ 1 → L' j = L j) → L' 1 = (W.erase t).map (Ta (L 0)) → CI g Y P h0 h' x D E C L' → CA h' (L 0) B D z → CN h' (L 0) z → post h') : wp_W_leave g post h (D 5) (Ta (L 0) t) := by
  have l := c.ls 1 (by omega)
  have hl := c.len (i := 1) (by omega)
  have k := c.sk.k5
  have r := c.sk.w0
  have w1 := w.1
  have wl : (L 1).length = W.length := by rw [w1, List.length_map]
  unfold wp_W_leave wp_W_leave_26
  refine ⟨k, V_placeOf c a w t1 t2 (fun p hpp hpt => ⟨k, D 1, r, l.1, l.size ⟨fun z' => ?_, fun _ => ?_⟩⟩) (fun hn => ⟨k, D 1, r, l.1, l.size ⟨fun _ => ?_, fun z' => ?_⟩⟩)⟩
  · have := (nI_leI (by omega) (by omega)).mp z'
    omega
  · refine ⟨k, D 1, r, l.1, l.remove (by omega) (fun j hj => c.kT (c.mem (by omega) hj)) fun h' l' f => ?_⟩
    have u := c.upd (i := 1) (by omega) f l' (Or.inl rfl) (fun t ht => c.lp 1 (by omega) t ?_) (c.cp 1 (by omega))
    · rw [va_up_same, va_up_same] at u
      refine hp h' _ (fun j hj => va_up_ne _ _ hj) ?_ u (a.fr c f (list_S c (by omega)) hg) (n.fr c a.1 f (list_S c (by omega)))
      rw [va_up_self, erase_take w.2.1 hpp hpt, w1, List.map_append, List.map_take, List.map_drop]
    · rcases List.mem_append.mp ht with q | q
      · exact List.mem_of_mem_take q
      · exact List.mem_of_mem_drop q
  · exact hp h L (fun _ _ => rfl) (by rw [List.erase_of_not_mem hn]; exact w1) c a n
  · exact absurd (nI_le (by omega) (by omega)) z'
end VW
