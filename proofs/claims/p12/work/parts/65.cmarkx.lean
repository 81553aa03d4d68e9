/-! EXACT: the class's marks of those in the way -/
theorem tw_app {u : Nat} : ∀ {a b : List Nat}, (∀ y ∈ a, y ≠ u) → (a ++ u :: b).takeWhile (fun y => decide (y ≠ u)) = a := by
  intro a
  induction a with
  | nil =>
    intro b _
    show (u :: b).takeWhile _ = []
    rw [List.takeWhile_cons, if_neg (by simp)]
  | cons v a ih =>
    intro b h
    show (v :: (a ++ u :: b)).takeWhile _ = v :: a
    rw [List.takeWhile_cons, if_pos (decide_eq_true (h v (List.mem_cons_self ..))), ih (fun y hy => h y (List.mem_cons_of_mem _ hy))]
section VM
variable {g : Gm} {Y P : Nat → Prop} {h0 h : Hp} {x : Nat} {D E C : Nat → Nat} {L : Nat → List Nat} {B : Nat → Nat → Nat} {z : Zs} {W : List Nat}
theorem aAh_W {s u p : Nat} (w : CW (L 1) (L 0) W z) (hs : s < 50) (hp : p < W.length) (hu : W.getD p 0 = u) (hw : zI z 4 u 0 = nI s) : aAh z s u = (W.take p).filter (fun v => decide (zI z 4 v 0 = nI s)) := by
  unfold aAh
  have sp := w.2.2.2 s hs
  rw [← List.take_append_drop p W, List.filter_append, drop_cons hp, hu, List.filter_cons, if_pos (decide_eq_true hw)] at sp
  rw [← sp]
  refine tw_app fun y hy e => ?_
  obtain ⟨j, j1, j2, j3⟩ := mem_take.mp (List.mem_filter.mp hy).1
  have := nodup_getD w.2.1 j2 hp (by rw [j3, hu]; exact e)
  omega
theorem V_isAhead {u i : Nat} {post : Int32 → Prop} (c : CI g Y P h0 h x D E C L) (a : CA h (L 0) B D z) (w : CW (L 1) (L 0) W z) (u1 : 1 ≤ u) (u2 : u ≤ zn z) (hi : i < W.length) (hp : post (bI (decide (zI z 4 (W.getD i 0) 0 = zI z 4 u 0)))) : wp_W_isAhead g post h (D 5) (nI i) (Ta (L 0) u) := by
  have l := c.ls 1 (by omega)
  have hl := c.len (i := 1) (by omega)
  have k := c.sk.k5
  have r := c.sk.w0
  have wl : (L 1).length = W.length := by rw [w.1, List.length_map]
  have ge : (L 1).getD i 0 = Ta (L 0) (W.getD i 0) := by rw [w.1]; exact map_getD hi
  have hin := (w.2.2.1 _).mp (getD_mem (d := 0) hi)
  have km := c.kT (c.mem (i := 1) (j := i) (by omega) (by omega))
  have pu := Ta_P c u1 (by rw [a.1]; exact u2)
  unfold wp_W_isAhead wp_W_isAhead_36 wp_W_isAhead_37
  refine ⟨k, D 1, r, l.1, l.size ⟨fun z' => ?_, fun _ => ⟨k, D 1, r, l.1, l.get (by omega) ⟨_, rfl, km, km, c.kT pu, ?_⟩⟩⟩⟩
  · have := (nI_leI (by omega) (by omega)).mp z'
    omega
  · rw [ge, (a.2.2.1 _ hin.1 hin.2.1).2.2.2.1, (a.2.2.1 u u1 u2).2.2.2.1]
    refine ⟨fun q => ⟨Or.inl rfl, ?_⟩, fun q => ⟨Or.inr rfl, ?_⟩⟩
    · rw [bI_false (fun y => q (of_decide_eq_true y))] at hp; exact hp
    · rw [bI_true (decide_eq_true q)] at hp; exact hp
theorem V_markAhead {u s p : Nat} {post : Hp → Prop} (c : CI g Y P h0 h x D E C L) (a : CZ h L B D W z) (o : Zo z) (u1 : 1 ≤ u) (u2 : u ≤ zn z) (hs : s < 50) (hw : zI z 4 u 0 = nI s) (hpp : p < W.length) (hpu : W.getD p 0 = u)
    (hp : ∀ h' : Hp, CI g Y P h0 h' x D E C L → CZ h' L B D W z → hI h' (D 7) = hI h (D 7) → hI h' (D 8) = hI h (D 8) → (∀ i : Nat, i < 30 → hI h' (D 9) i = if i + 1 ∈ aAh z s u then 1 else hI h (D 9) i) → post h') : wp_W_markAhead g post h (D 5) (Ta (L 0) u) (D 9) := by
  have hl := c.len (i := 1) (by omega)
  have o1 := o.1
  have w := a.2.2
  have wl : (L 1).length = W.length := by rw [w.1, List.length_map]
  have ah := aAh_W w hs hpp hpu hw
  have d79 : D 7 ≠ D 9 := fun y => by
    have h1 := c.sk.k7.1
    rw [y, c.sk.k9.1] at h1; exact absurd h1 (by decide)
  have d89 := c.sk.d89
  unfold wp_W_markAhead
  refine ⟨c.sk.k5, V_placeOf c a.1 w u1 u2 (fun p' hp' hpu' => ⟨p' + 1, ?_⟩) (fun y => absurd ((w.2.2.1 u).mpr ⟨u1, u2, by rw [hw]; exact nI_nm1 (by omega)⟩) y)⟩
  have ep : p' = p := nodup_getD w.2.1 hp' hpp (hpu'.trans hpu.symm)
  subst ep
  have loop : ∀ (d i : Nat) (h' : Hp), CI g Y P h0 h' x D E C L → CZ h' L B D W z → hI h' (D 7) = hI h (D 7) → hI h' (D 8) = hI h (D 8) → (∀ b : Nat, b < 30 → hI h' (D 9) b = if b + 1 ∈ (W.take i).filter (fun v => decide (zI z 4 v 0 = nI s)) then 1 else hI h (D 9) b) → i + d = p' → wp_W_markAhead_9 g post (d + 1) h' (D 5) (Ta (L 0) u) (D 9) (nI p') (nI i) := by
    intro d
    induction d with
    | zero =>
      intro i h' c a e7 e8 e9 e
      have e : i = p' := by omega
      subst e
      unfold wp_W_markAhead_9
      refine ⟨fun _ => hp h' c a e7 e8 fun b hb => ?_, fun z => absurd (nI_le (by omega) (by omega)) z⟩
      rw [ah]; exact e9 b hb
    | succ d ih =>
      intro i h' c a e7 e8 e9 e
      have l := c.ls 1 (by omega)
      have k := c.sk.k5
      have r := c.sk.w0
      obtain ⟨k9, n9⟩ := c.sk.k9
      have hi : i < W.length := by omega
      have ge : (L 1).getD i 0 = Ta (L 0) (W.getD i 0) := by rw [w.1]; exact map_getD hi
      have hin := (w.2.2.1 _).mp (getD_mem (d := 0) hi)
      have km := c.kT (c.mem (i := 1) (j := i) (by omega) (by omega))
      have tk : W.take (i + 1) = W.take i ++ [W.getD i 0] := by
        rw [List.take_succ, List.getElem?_eq_getElem hi, List.getD_eq_getElem?_getD, List.getElem?_eq_getElem hi]
        rfl
      have e0 : hI h' ((L 1).getD i 0) 0 = nI (W.getD i 0) := by rw [ge]; exact (a.1.2.2.1 _ hin.1 hin.2.1).1
      obtain ⟨v, hv⟩ : ∃ v, W.getD i 0 = v + 1 := ⟨W.getD i 0 - 1, by omega⟩
      unfold wp_W_markAhead_9 wp_W_markAhead_61
      refine ⟨fun y => ?_, fun _ => ⟨k, D 1, r, l.1, l.get (by omega) ⟨_, rfl, km, km, fun x10 e10 => ⟨k, V_isAhead c a.1 w u1 u2 hi ⟨fun q x1 e1 => ?_, fun q => ⟨fun y => ?_, fun _ => ⟨nI 30, Or.inl ⟨by rw [k9]; decide, by rw [k9]; decide, by rw [n9]⟩, fun y => ?_, fun _ => ?_⟩⟩⟩⟩⟩⟩⟩
      · have := (nI_leI (by omega) (by omega)).mp y
        omega
      · rw [nI_1] at e1
        subst e1
        have q' : ¬ zI z 4 (W.getD i 0) 0 = nI s := fun y => by
          rw [bI_true (decide_eq_true (by rw [hw]; exact y))] at q
          exact absurd q (by decide)
        refine ih (i + 1) h' c a e7 e8 (fun b hb => ?_) (by omega)
        have fl : (W.take (i + 1)).filter (fun v => decide (zI z 4 v 0 = nI s)) = (W.take i).filter (fun v => decide (zI z 4 v 0 = nI s)) := by
          have : ¬ (fun v => decide (zI z 4 v 0 = nI s)) (W.getD i 0) = true := fun y => q' (of_decide_eq_true y)
          rw [tk, List.filter_append, List.filter_cons_of_neg (p := fun v => decide (zI z 4 v 0 = nI s)) this, List.filter_nil, List.append_nil]
        rw [fl]
        exact e9 b hb
      · rw [e0, hv, nI_pred] at e10
        rw [e10] at y
        exact absurd y (nI_pos (by omega))
      · rw [e0, hv, nI_pred] at e10
        rw [e10] at y
        have := (nI_leI (by omega) (by omega)).mp y
        omega
      · rw [e0, hv, nI_pred] at e10
        have q' : zI z 4 (W.getD i 0) 0 = nI s := by
          by_cases y : zI z 4 (W.getD i 0) 0 = nI s
          · exact y
          · rw [bI_false (fun y' => y (by rw [← hw]; exact of_decide_eq_true y'))] at q
            exact absurd rfl q
        rw [e10]
        refine ⟨k9, by rw [n9]; exact vp_in_nI (by omega) (by omega), Or.inr rfl, fun h20 e20 x1 e1 => ?_⟩
        rw [nI_clamp (by omega)] at e20
        rw [nI_1] at e1
        subst e1
        refine ih (i + 1) h20 (by rw [e20]; exact c.wD (by omega)) (by rw [e20]; exact a.wD c (by omega)) (by rw [e20, sI_o d79]; exact e7) (by rw [e20, sI_o d89]; exact e8) (fun b hb => ?_) (by omega)
        have fl : (W.take (i + 1)).filter (fun v => decide (zI z 4 v 0 = nI s)) = (W.take i).filter (fun v => decide (zI z 4 v 0 = nI s)) ++ [W.getD i 0] := by
          have : (fun v => decide (zI z 4 v 0 = nI s)) (W.getD i 0) = true := decide_eq_true q'
          rw [tk, List.filter_append, List.filter_cons_of_pos (p := fun v => decide (zI z 4 v 0 = nI s)) this, List.filter_nil]
        rw [fl, e20, rI_sI]
        by_cases y : b = v
        · rw [if_pos ⟨rfl, y⟩, if_pos (List.mem_append.mpr (Or.inr (List.mem_singleton.mpr (by rw [hv, y]))))]
        · rw [if_neg (fun y' => y y'.2), e9 b hb]
          by_cases y2 : b + 1 ∈ (W.take i).filter (fun v => decide (zI z 4 v 0 = nI s))
          · rw [if_pos y2, if_pos (List.mem_append.mpr (Or.inl y2))]
          · rw [if_neg y2, if_neg]
            intro y3
            rcases List.mem_append.mp y3 with y3 | y3
            · exact y2 y3
            · have := List.mem_singleton.mp y3
              omega
  exact loop p' 0 h c a rfl rfl (fun b hb => by rw [List.take_zero, List.filter_nil, if_neg (by simp)]) (by omega)
theorem V_markBlockers {u : Nat} {post : Hp → Prop} (c : CI g Y P h0 h x D E C L) (a : CZ h L B D W z) (o : Zo z) (u1 : 1 ≤ u) (u2 : u ≤ zn z)
    (hp : ∀ h' : Hp, CI g Y P h0 h' x D E C L → CZ h' L B D W z → hI h' (D 7) = hI h (D 7) → hI h' (D 8) = hI h (D 8) → (∀ i : Nat, i < zn z → hI h' (D 9) i = bI (aBl z u (i + 1))) → post h') : wp_G_markBlockers g post h (D 6) (D 0) (D 5) (Ta (L 0) u) := by
  have h30 : (30 : Int32) = nI 30 := rfl
  have o1 := o.1
  have d79 : D 7 ≠ D 9 := fun y => by
    have h1 := c.sk.k7.1
    rw [y, c.sk.k9.1] at h1; exact absurd h1 (by decide)
  have d89 := c.sk.d89
  have pu := Ta_P c u1 (by rw [a.1.1]; exact u2)
  have loop2 : ∀ (s : Nat), s < 50 → zI z 4 u 0 = nI s → ∀ (d i : Nat) (h' : Hp), i + d = 30 → i ≤ zn z → CI g Y P h0 h' x D E C L → CZ h' L B D W z → hI h' (D 7) = hI h (D 7) → hI h' (D 8) = hI h (D 8) → (∀ b : Nat, b < i → hI h' (D 9) b = bI (decide (b + 1 ≠ u) && (decide (¬ zI z 0 (b + 1) s = -1) && decide (2 ≤ zI z 0 (b + 1) s + zI z 5 u 0)))) → wp_G_markBlockers_42 g post (d + 1) h' (D 6) (D 0) (D 5) (Ta (L 0) u) (nI s) (nI i) := by
    intro s hs hw d
    have hwm : ¬ zI z 4 u 0 = -1 := by rw [hw]; exact nI_nm1 (by omega)
    have wv := o.2.2.2.2.2.2.1 u u1 (by omega) hwm
    have sg := aSg_eq hs hw
    have q111 : ∀ h' : Hp, CI g Y P h0 h' x D E C L → CZ h' L B D W z → hI h' (D 7) = hI h (D 7) → hI h' (D 8) = hI h (D 8) → (∀ b : Nat, b < zn z → hI h' (D 9) b = bI (decide (b + 1 ≠ u) && (decide (¬ zI z 0 (b + 1) s = -1) && decide (2 ≤ zI z 0 (b + 1) s + zI z 5 u 0)))) → wp_G_markBlockers_111 g post h' (D 6) (D 5) (Ta (L 0) u) := fun h' c a e7 e8 e9 => by
      obtain ⟨p, hpp, hpu⟩ := List.getElem_of_mem ((a.2.2.2.2.1 u).mpr ⟨u1, u2, hwm⟩)
      have hpu' : W.getD p 0 = u := by rw [List.getD_eq_getElem?_getD, List.getElem?_eq_getElem hpp]; exact hpu
      unfold wp_G_markBlockers_111
      refine ⟨c.sk.k6, D 9, c.sk.r4, c.sk.k5, V_markAhead c a o u1 u2 hs hw hpp hpu' fun h'' c'' a'' f7 f8 f9 => hp h'' c'' a'' (f7.trans e7) (f8.trans e8) fun i hi => ?_⟩
      rw [f9 i (by omega)]
      unfold aBl
      rw [sg, decide_eq_true hwm, Bool.true_and]
      by_cases y : i + 1 ∈ aAh z s u
      · have ne : i + 1 ≠ u := fun y2 => by
          have := aAh_W (L := L) a.2.2 hs hpp hpu' hw
          rw [this, y2] at y
          obtain ⟨j, j1, j2, j3⟩ := mem_take.mp (List.mem_filter.mp y).1
          have := nodup_getD a.2.2.2.1 j2 hpp (j3.trans hpu'.symm)
          omega
        rw [if_pos y, decide_eq_true y, decide_eq_true ne, Bool.true_or]
        rfl
      · rw [if_neg y, decide_eq_false y, Bool.false_or]
        exact e9 i hi
    induction d with
    | zero =>
      intro i h' e hi c a e7 e8 e9
      have e : i = 30 := by omega
      subst e
      unfold wp_G_markBlockers_42
      exact ⟨fun _ => q111 h' c a e7 e8 (fun b hb => e9 b (by omega)), fun z => absurd (by decide) z⟩
    | succ d ih =>
      intro i h' e hi c a e7 e8 e9
      have l := c.ls 0 (by omega)
      obtain ⟨k9, n9⟩ := c.sk.k9
      have i9 : vp_in (nI i) (hN h' (D 9)) := by rw [n9]; exact vp_in_nI (by omega) (by omega)
      have hl := a.1.1
      unfold wp_G_markBlockers_42 wp_G_markBlockers_103
      refine ⟨fun y => ?_, fun _ => ⟨l.1, l.size ⟨fun y => ?_, fun y => ?_⟩⟩⟩
      · rw [h30] at y
        have := (nI_leI (by omega) (by omega)).mp y
        omega
      · have := (nI_leI (by omega) (by omega)).mp y
        exact q111 h' c a e7 e8 (fun b hb => e9 b (by omega))
      · have hlt : i < (L 0).length := by
          rcases Nat.lt_or_ge i (L 0).length with q | q
          · exact q
          · exact absurd (nI_le q (by omega)) y
        have hm := c.mem (i := 0) (by omega) hlt
        have km := c.kT hm
        have ta : (L 0).getD i 0 = Ta (L 0) (i + 1) := rfl
        obtain ⟨r2, s2, n2, y2⟩ := a.1.arr c (t := i + 1) (k := 2) (kd := 21) (by omega) (by omega) (by decide) (by decide) (by decide)
        have e2 := (a.1.2.2.2.2.1 (i + 1) s (by omega) (by omega) hs).1
        have e14 : hI h' (Ta (L 0) u) 14 = zI z 5 u 0 := (a.1.2.2.1 u u1 u2).2.2.2.2.1 hwm
        have nx : ∀ v : Int32, zB v → v = bI (decide (i + 1 ≠ u) && (decide (¬ zI z 0 (i + 1) s = -1) && decide (2 ≤ zI z 0 (i + 1) s + zI z 5 u 0))) → wp_G_markBlockers_104 g post (fun h v0 v1 v2 v3 v4 v5 => wp_G_markBlockers_42 g post (d + 1) h v0 v1 v2 v3 v4 v5) h' (D 6) (D 0) (D 5) (Ta (L 0) u) (nI s) (nI i) (D 9) (nI i) v := fun v hv ev => by
          unfold wp_G_markBlockers_104
          refine ⟨k9, i9, hv, fun h2 e2 x3 e3 => ?_⟩
          rw [nI_clamp (by omega)] at e2
          rw [nI_1] at e3
          subst e3
          refine ih (i + 1) h2 (by omega) (by omega) (by rw [e2]; exact c.wD (by omega)) (by rw [e2]; exact a.wD c (by omega)) (by rw [e2, sI_o d79]; exact e7) (by rw [e2, sI_o d89]; exact e8) fun b hb => ?_
          rw [e2, rI_sI]
          by_cases q : b = i
          · rw [if_pos ⟨rfl, q⟩, ev, q]
          · rw [if_neg (fun y => q y.2)]; exact e9 b (by omega)
        refine ⟨l.1, l.get hlt ⟨_, rfl, km, c.sk.k6, D 9, c.sk.r4, fun q => nx 0 (Or.inl rfl) ?_, fun q => ⟨km, B (i + 1) 2, r2, s2, by rw [n2]; exact vp_in_nI (by omega) (by omega), c.kT pu, ?_⟩⟩⟩
        · have q' : i + 1 = u := Ta_inj a.1 (by omega) (by omega) u1 u2 (Option.some.inj q)
          rw [decide_eq_false (fun y => y q')]; rfl
        · have q' : i + 1 ≠ u := fun y => q (by rw [ta, y])
          rw [nI_clamp (by omega), e2, e14]
          refine V_tog (o.2.1 (i + 1) s (by omega) (by omega) hs) wv ?_
          by_cases y : zI z 0 (i + 1) s = -1 ∨ ¬ 2 ≤ zI z 0 (i + 1) s + zI z 5 u 0
          · rw [if_pos y]
            refine ⟨fun _ => nx 0 (Or.inl rfl) ?_, fun y' => absurd y' (by decide)⟩
            rw [bI_false]
            intro y2
            rw [Bool.and_eq_true, Bool.and_eq_true] at y2
            rcases y with y | y
            · exact (of_decide_eq_true y2.2.1) y
            · exact y (of_decide_eq_true y2.2.2)
          · rw [if_neg y]
            refine ⟨fun y' => absurd rfl y', fun _ => nx 1 (Or.inr rfl) ?_⟩
            have y1 : ¬ zI z 0 (i + 1) s = -1 := fun q => y (Or.inl q)
            have y2 : 2 ≤ zI z 0 (i + 1) s + zI z 5 u 0 := Classical.byContradiction fun q => y (Or.inr q)
            rw [decide_eq_true q', decide_eq_true y1, decide_eq_true y2]; rfl
  have loop1 : ∀ (d i : Nat) (h' : Hp), i + d = 30 → CI g Y P h0 h' x D E C L → CZ h' L B D W z → hI h' (D 7) = hI h (D 7) → hI h' (D 8) = hI h (D 8) → (∀ b : Nat, b < i → hI h' (D 9) b = 0) → wp_G_markBlockers_9 g post (d + 1) h' (D 6) (D 0) (D 5) (Ta (L 0) u) (zI z 4 u 0) (nI i) := by
    intro d
    induction d with
    | zero =>
      intro i h' e c a e7 e8 e9
      have e : i = 30 := by omega
      subst e
      unfold wp_G_markBlockers_9
      refine ⟨fun _ => ?_, fun z => absurd (by decide) z⟩
      rcases o.2.2.2.2.1 u u1 (by omega) with q | ⟨s, hs, q⟩
      · refine V_seg0 (fun s hs y => ?_) ⟨fun y => absurd rfl y, fun _ => hp h' c a e7 e8 fun i hi => ?_⟩
        · rw [q] at y; exact nIm1 (by omega) y
        · rw [e9 i (by omega), bI_false (fun y => (aBl_w y).1 q)]
      · rw [q]
        exact V_seg1 hs ⟨fun _ => ⟨31, loop2 s hs q 30 0 h' rfl (by omega) c a e7 e8 (fun b hb => absurd hb (Nat.not_lt_zero b))⟩, fun y => absurd y (by decide)⟩
    | succ d ih =>
      intro i h' e c a e7 e8 e9
      obtain ⟨k9, n9⟩ := c.sk.k9
      unfold wp_G_markBlockers_9
      refine ⟨fun z => ?_, fun _ => ⟨c.sk.k6, D 9, c.sk.r4, k9, by rw [n9]; exact vp_in_nI (by omega) (by omega), Or.inl rfl, fun h9 e9' x10 e10 => ?_⟩⟩
      · rw [h30] at z
        have := (nI_leI (by omega) (by omega)).mp z
        omega
      · rw [nI_clamp (by omega)] at e9'
        rw [nI_1] at e10
        subst e10
        refine ih (i + 1) h9 (by omega) (by rw [e9']; exact c.wD (by omega)) (by rw [e9']; exact a.wD c (by omega)) (by rw [e9', sI_o d79]; exact e7) (by rw [e9', sI_o d89]; exact e8) fun b hb => ?_
        rw [e9', rI_sI]
        by_cases q : b = i
        · rw [if_pos ⟨rfl, q⟩]
        · rw [if_neg (fun y => q y.2)]; exact e9 b (by omega)
  unfold wp_G_markBlockers
  rw [(a.1.2.2.1 u u1 u2).2.2.2.1]
  exact ⟨c.kT pu, 31, loop1 30 0 h rfl c a rfl rfl (fun b hb => absurd hb (Nat.not_lt_zero b))⟩
end VM
