/-! EXACT: the class's enter, marks -/
theorem V_seg1 {g : Gm} {h : Hp} {s : Nat} {post : Int32 → Prop} (hs : s < 50) (hp : post 1) : wp_S_isSegment g post h (nI s) := by
  have h50 : (50 : Int32) = nI 50 := rfl
  unfold wp_S_isSegment wp_S_isSegment_14 wp_S_isSegment_15
  refine ⟨fun z => absurd z (nI_pos (by omega)), fun _ => ⟨fun z => ?_, fun _ => ⟨Or.inr rfl, hp⟩⟩⟩
  rw [h50] at z
  have := (nI_leI (by omega) (by omega)).mp z
  omega
theorem V_seg0 {g : Gm} {h : Hp} {i : Int32} {post : Int32 → Prop} (hn : ∀ s : Nat, s < 50 → i ≠ nI s) (hp : post 0) : wp_S_isSegment g post h i := by
  have h50 : (50 : Int32) = nI 50 := rfl
  unfold wp_S_isSegment wp_S_isSegment_14 wp_S_isSegment_15
  refine ⟨fun _ => ⟨Or.inl rfl, hp⟩, fun c => ⟨fun _ => ⟨Or.inl rfl, hp⟩, fun d => ?_⟩⟩
  exfalso
  obtain ⟨t, e, ht⟩ := nI_back c
  rcases Nat.lt_or_ge t 50 with q | q
  · exact hn t q e
  · exact d (by rw [e, h50]; exact nI_le q ht)
section VE
variable {g : Gm} {Y P : Nat → Prop} {h0 h : Hp} {x : Nat} {D E C : Nat → Nat} {L : Nat → List Nat} {B : Nat → Nat → Nat} {z : Zs} {W : List Nat}
/-- an int of an array of the rings is set -/
theorem CA.wD {j i : Nat} {v : Int32} (a : CA h (L 0) B D z) (c : CI g Y P h0 h x D E C L) (hj : j = 7 ∨ j = 8 ∨ j = 9) : CA (sI h (D j) i v) (L 0) B D z := by
  have kd : hK h (D j) = 21 ∨ hK h (D j) = 23 := by
    rcases hj with q | q | q <;> subst q
    · exact Or.inl c.sk.k7.1
    · exact Or.inr c.sk.k8.1
    · exact Or.inr c.sk.k9.1
  refine a.keep (fun t t1 t2 => ⟨sI_o (fun e => ?_), rfl⟩) (fun t k t1 t2 k1 k2 => ⟨sI_o (a.2.2.2.2.2.2.1 t k j t1 t2 k1 k2 (by omega)), rfl⟩) rfl
  have := c.kT (Ta_P c t1 (by rw [a.1]; exact t2))
  rw [e] at this; omega
theorem CN.wD {j i : Nat} {v : Int32} (n : CN h (L 0) z) (c : CI g Y P h0 h x D E C L) (hn : (L 0).length = zn z) (hj : j = 7 ∨ j = 8 ∨ j = 9) : CN (sI h (D j) i v) (L 0) z := by
  have kd : hK h (D j) = 21 ∨ hK h (D j) = 23 := by
    rcases hj with q | q | q <;> subst q
    · exact Or.inl c.sk.k7.1
    · exact Or.inr c.sk.k8.1
    · exact Or.inr c.sk.k9.1
  refine n.keep fun t t1 t2 => sI_o fun e => ?_
  have := c.kT (Ta_P c t1 (by rw [hn]; exact t2))
  rw [e] at this; omega
theorem CI.wD {j i : Nat} {v : Int32} (c : CI g Y P h0 h x D E C L) (hj : j = 7 ∨ j = 8 ∨ j = 9) : CI g Y P h0 (sI h (D j) i v) x D E C L := by
  rcases hj with q | q | q <;> subst q
  · exact c.wA c.sk.k7.1 (by omega) (c.sk.dy 7 (by omega)).1
  · exact c.wA c.sk.k8.1 (by omega) (c.sk.dy 8 (by omega)).1
  · exact c.wA c.sk.k9.1 (by omega) (c.sk.dy 9 (by omega)).1
theorem CZ.wD {j i : Nat} {v : Int32} (a : CZ h L B D W z) (c : CI g Y P h0 h x D E C L) (hj : j = 7 ∨ j = 8 ∨ j = 9) : CZ (sI h (D j) i v) L B D W z := ⟨a.1.wD c hj, a.2.1.wD c a.1.1 hj, a.2.2⟩
theorem aPos_app {s : Nat} : ∀ {a b : List Nat}, (∀ u ∈ a, ¬ zI z 0 u s = -1) → (b = [] ∨ ∃ u l, b = u :: l ∧ zI z 0 u s = -1) → aPos z s (a ++ b) = a.length := by
  intro a
  induction a with
  | nil =>
    intro b _ hb
    rcases hb with q | ⟨u, l, q, hu⟩
    · rw [q]; rfl
    · rw [q]
      show aPos z s (u :: l) = 0
      rw [aPos_cons, if_pos hu]
  | cons v a ih =>
    intro b ha hb
    show aPos z s (v :: (a ++ b)) = a.length + 1
    rw [aPos_cons, if_neg (ha v (List.mem_cons_self ..)), ih (fun u hu => ha u (List.mem_cons_of_mem _ hu)) hb]
/-- the place where one with a lock comes in -/
theorem V_fwl {s : Nat} {post : Int32 → Prop} (c : CI g Y P h0 h x D E C L) (a : CA h (L 0) B D z) (hs : s < 50) (w1 : L 1 = W.map (Ta (L 0))) (win : ∀ t ∈ W, 1 ≤ t ∧ t ≤ zn z)
    (hp : ∀ p : Nat, p ≤ W.length → (∀ j : Nat, j < p → ¬ (zI z 4 (W.getD j 0) 0 = nI s ∧ zI z 0 (W.getD j 0) s = -1)) → (p = W.length ∨ (p < W.length ∧ zI z 4 (W.getD p 0) 0 = nI s ∧ zI z 0 (W.getD p 0) s = -1)) → post (nI p)) : wp_W_firstWithoutLock g post h (D 5) (nI s) := by
  have l := c.ls 1 (by omega)
  have hl := c.len (i := 1) (by omega)
  have k := c.sk.k5
  have r := c.sk.w0
  have wl : (L 1).length = W.length := by rw [w1, List.length_map]
  have loop : ∀ (d i : Nat), i + d = W.length → (∀ j : Nat, j < i → ¬ (zI z 4 (W.getD j 0) 0 = nI s ∧ zI z 0 (W.getD j 0) s = -1)) → wp_W_firstWithoutLock_2 g post (d + 1) h (D 5) (nI s) (nI i) := by
    intro d
    induction d with
    | zero =>
      intro i e hf
      have e : i = W.length := by omega
      subst e
      have := hp W.length (Nat.le_refl _) hf (Or.inl rfl)
      unfold wp_W_firstWithoutLock_2
      exact ⟨k, D 1, r, l.1, l.size ⟨fun _ => ⟨k, D 1, r, l.1, l.size (by rw [wl]; exact this)⟩, fun z => absurd (nI_le (by omega) (by omega)) z⟩⟩
    | succ d ih =>
      intro i e hf
      have hi : i < W.length := by omega
      have hm := c.mem (i := 1) (j := i) (by omega) (by omega)
      have km := c.kT hm
      have ge : (L 1).getD i 0 = Ta (L 0) (W.getD i 0) := by rw [w1]; exact map_getD hi
      have hin := win _ (getD_mem (d := 0) hi)
      have e13 : hI h ((L 1).getD i 0) 13 = zI z 4 (W.getD i 0) 0 := by rw [ge]; exact (a.2.2.1 _ hin.1 hin.2).2.2.2.1
      obtain ⟨r2, s2, n2, y2⟩ := a.arr c hin.1 hin.2 (k := 2) (kd := 21) (by decide) (by decide) (by decide)
      have e2 := (a.2.2.2.2.1 _ s hin.1 hin.2 hs).1
      have nx : ¬ (zI z 4 (W.getD i 0) 0 = nI s ∧ zI z 0 (W.getD i 0) s = -1) → ∀ x1 : Int32, x1 = nI i + 1 → wp_W_firstWithoutLock_2 g post (d + 1) h (D 5) (nI s) x1 := fun hc x1 e1 => by
        rw [nI_1] at e1; subst e1
        refine ih (i + 1) (by omega) fun j hj => ?_
        by_cases q : j = i
        · rw [q]; exact hc
        · exact hf j (by omega)
      unfold wp_W_firstWithoutLock_2 wp_W_firstWithoutLock_45
      refine ⟨k, D 1, r, l.1, l.size ⟨fun z' => ?_, fun _ => ⟨k, D 1, r, l.1, l.get (by omega) ⟨_, rfl, km, km, ?_⟩⟩⟩⟩
      · have := (nI_leI (by omega) (by omega)).mp z'
        omega
      · rw [e13, ge]
        rw [ge] at km
        refine ⟨fun q => nx (fun y => q y.1), fun q => ⟨km, B (W.getD i 0) 2, r2, s2, by rw [n2]; exact vp_in_nI (by omega) (by omega), ?_⟩⟩
        rw [nI_clamp (by omega), e2]
        exact ⟨fun q2 => nx (fun y => q2 y.2), fun q2 => hp i (by omega) hf (Or.inr ⟨hi, q, q2⟩)⟩
  unfold wp_W_firstWithoutLock
  exact ⟨W.length + 1, loop _ 0 (by omega) (fun j hj => absurd hj (Nat.not_lt_zero j))⟩
/-- the place of the line where the abstract state has it -/
def aWh (z : Zs) (t s : Nat) : Nat := if zI z 0 t s = -1 then (zQ z s).length else aPos z s (zQ z s)
theorem CW.ins {T : List Nat} {L1 : List Nat} {t s p : Nat} {v : Int32} (w : CW L1 T W z) (t1 : 1 ≤ t) (t2 : t ≤ zn z) (hs : s < 50) (hw : zI z 4 t 0 = -1) (hpp : p ≤ W.length) (q' : Nat) (hq : ((W.take p).filter (fun u => decide (zI z 4 u 0 = nI s))).length = q') : CW ((W.take p ++ t :: W.drop p).map (Ta T)) T (W.take p ++ t :: W.drop p) (aEnter z t s q' v) := by
  obtain ⟨w1, w2, w3, w4⟩ := w
  have nin : t ∉ W := fun y => ((w3 t).mp y).2.2 hw
  have e4 : ∀ u : Nat, zI (aEnter z t s q' v) 4 u 0 = if u = t then nI s else zI z 4 u 0 := fun u => by
    rw [aEnter_I]
    by_cases c : u = t <;> simp [c]
  refine ⟨rfl, nodup_ins w2 nin, fun u => ?_, fun r hr => ?_⟩
  · rw [mem_ins, w3 u, e4]
    show _ ↔ 1 ≤ u ∧ u ≤ zn z ∧ _
    by_cases c : u = t
    · rw [if_pos c]
      exact ⟨fun _ => ⟨by omega, by omega, nI_nm1 (by omega)⟩, fun _ => Or.inl c⟩
    · rw [if_neg c]
      exact ⟨fun y => by rcases y with y | y; exact absurd y c; exact y, fun y => Or.inr y⟩
  · have cg : ∀ l : List Nat, (∀ u ∈ l, u ∈ W) → l.filter (fun u => decide (zI (aEnter z t s q' v) 4 u 0 = nI r)) = l.filter (fun u => decide (zI z 4 u 0 = nI r)) := fun l hl => List.filter_congr fun u hu => by
      have : u ≠ t := fun y => nin (y ▸ hl u hu)
      rw [e4, if_neg this]
    have sp := w4 r hr
    rw [← List.take_append_drop p W, List.filter_append] at sp
    rw [List.filter_append, List.filter_cons, cg _ (fun u hu => List.mem_of_mem_take hu), cg _ (fun u hu => List.mem_of_mem_drop hu), e4, if_pos rfl, aEnter_Q]
    by_cases c : r = s
    · rw [if_pos (decide_eq_true (by rw [c])), if_pos c]
      subst c
      rw [← sp, ← hq, List.take_left, List.drop_left]
    · rw [if_neg (by rw [decide_eq_false (nI_ne hs hr (fun y => c y.symm))]; decide), if_neg c]
      exact sp
theorem enter_pos {t s p : Nat} (w : CW (L 1) (L 0) W z) (hs : s < 50) (hl : ¬ zI z 0 t s = -1) (h1 : ∀ j : Nat, j < p → ¬ (zI z 4 (W.getD j 0) 0 = nI s ∧ zI z 0 (W.getD j 0) s = -1)) (h2 : p = W.length ∨ (p < W.length ∧ zI z 4 (W.getD p 0) 0 = nI s ∧ zI z 0 (W.getD p 0) s = -1)) : ((W.take p).filter (fun u => decide (zI z 4 u 0 = nI s))).length = aWh z t s := by
  unfold aWh
  rw [if_neg hl]
  have sp := w.2.2.2 s hs
  rw [← List.take_append_drop p W, List.filter_append] at sp
  rw [← sp]
  refine (aPos_app (fun u hu => ?_) ?_).symm
  · rw [List.mem_filter] at hu
    obtain ⟨j, j1, j2, j3⟩ := mem_take.mp hu.1
    intro y
    exact h1 j j1 ⟨by rw [j3]; exact of_decide_eq_true hu.2, by rw [j3]; exact y⟩
  · rcases h2 with q | ⟨q1, q2, q3⟩
    · rw [q, List.drop_length]; exact Or.inl rfl
    · rw [drop_cons q1, List.filter_cons, if_pos (decide_eq_true q2)]
      exact Or.inr ⟨_, _, rfl, q3⟩
/-- task t waits for s with the wish v: its fields, then the rows -/
theorem CA.enter {t s p : Nat} {v : Int32} (a : CA h (L 0) B D z) (c : CI g Y P h0 h x D E C L) (t1 : 1 ≤ t) (t2 : t ≤ zn z) : CA (sI (sI (sI h (Ta (L 0) t) 9 1) (Ta (L 0) t) 13 (nI s)) (Ta (L 0) t) 14 v) (L 0) B D (aEnter z t s p v) := by
  have kt := c.kT (Ta_P c t1 (by rw [a.1]; exact t2))
  have nb : ∀ u l kd : Nat, 1 ≤ u → u ≤ zn z → (l, kd) ∈ TA → 2 ≤ l → l ≤ 7 → kd ≠ 4 → B u l ≠ Ta (L 0) t := fun u l kd u1 u2 hl l1 l2 hne e => by
    have := (a.arr c u1 u2 hl l1 l2).2.1
    rw [e, kt] at this
    exact hne this.symm
  have inj := fun u u1 u2 (e : Ta (L 0) u = Ta (L 0) t) => Ta_inj a u1 u2 t1 t2 e
  obtain ⟨a1, a2, a3, a4, a5, a6, a7, a8⟩ := a
  refine ⟨a1, a2, fun u u1 u2 => ?_, a4, fun u r u1 u2 hr => ?_, a6, a7, a8⟩
  · obtain ⟨q1, q2, q3, q4, q5, q6⟩ := a3 u u1 u2
    simp only [rI_sI, aEnter_I]
    by_cases e : u = t
    · subst e
      simp
      exact ⟨q1, q2, q6⟩
    · have ne : ¬ Ta (L 0) u = Ta (L 0) t := fun y => e (inj u u1 u2 y)
      simp [ne, e]
      exact ⟨q1, q2, q3, q4, q5, q6⟩
  · have lit : ∀ f : Nat, f < 3 → zI (aEnter z t s p v) f u r = zI z f u r := fun f hf => by rw [aEnter_I, if_neg (by omega), if_neg (by omega), if_neg (by omega)]
    have n2 := nb u 2 21 u1 u2 (by decide) (by decide) (by decide) (by decide)
    have n3 := nb u 3 23 u1 u2 (by decide) (by decide) (by decide) (by decide)
    have n4 := nb u 4 23 u1 u2 (by decide) (by decide) (by decide) (by decide)
    rw [sI_o n2, sI_o n2, sI_o n2, sI_o n3, sI_o n3, sI_o n3, sI_o n4, sI_o n4, sI_o n4, lit 0 (by omega), lit 1 (by omega), lit 2 (by omega)]
    exact a5 u r u1 u2 hr
theorem CN.enter {t s p : Nat} {v : Int32} {b : Nat} (n : CN h (L 0) z) : CN (sI (sI (sI h b 9 1) b 13 (nI s)) b 14 v) (L 0) (aEnter z t s p v) := fun u u1 u2 => by
  have u2 : u ≤ zn z := u2
  have h1 : aHeld (aEnter z t s p v) u = aHeld z u := held_congr fun r _ => by rw [aEnter_I, if_neg (by omega), if_neg (by omega), if_neg (by omega)]
  have h2 : aWr (aEnter z t s p v) u = aWr z u := wr_congr fun r _ => by rw [aEnter_I, if_neg (by omega), if_neg (by omega), if_neg (by omega)]
  rw [h1, h2]
  simp only [rI_sI]
  simp
  exact n u u1 u2
/-- the rows' enter, behind the fields -/
theorem V_enter {t s mc ms : Nat} {v : Int32} {post : Hp → Prop} (c : CI g Y P h0 h x D E C L) (a : CA h (L 0) B D (aEnter z t s (aWh z t s) v)) (n : CN h (L 0) (aEnter z t s (aWh z t s) v)) (w : CW (L 1) (L 0) W z) (o : Zo z) (hg : ∀ t k : Nat, 1 ≤ t → t ≤ zn z → 2 ≤ k → k ≤ 7 → B t k ≠ g.2.2 1) (t1 : 1 ≤ t) (t2 : t ≤ zn z) (hs : s < 50) (hw : zI z 4 t 0 = -1) (hwl : (L 1).length ≤ 511) (hmc : 1 ≤ mc) (hms : 549 ≤ ms)
    (hp : ∀ (h' : Hp) (E' C' : Nat → Nat) (L' : Nat → List Nat) (W' : List Nat), (∀ j : Nat, j ≠ 1 → L' j = L j) → (L' 1).length = (L 1).length + 1 → CI g Y P h0 h' x D E' C' L' → CZ h' L' B D W' (aEnter z t s (aWh z t s) v) → post h') : wp_W_enter g post mc ms h (D 5) (Ta (L 0) t) := by
  have l := c.ls 1 (by omega)
  have k := c.sk.k5
  have r := c.sk.w0
  have pt := Ta_P c t1 (by rw [a.1]; exact t2)
  have kt := c.kT pt
  have cs := (c.cp 1 (by omega)).1
  have o1 := o.1
  obtain ⟨w1, w2, w3, w4⟩ := w
  have wl : (L 1).length = W.length := by rw [w1, List.length_map]
  have nin : t ∉ W := fun y => ((w3 t).mp y).2.2 hw
  have q37 : ∀ p : Nat, p ≤ W.length → ((W.take p).filter (fun u => decide (zI z 4 u 0 = nI s))).length = aWh z t s → wp_W_enter_37 g post mc ms h 0 0 (D 5) (Ta (L 0) t) (nI p) := fun p hpp hq => by
    unfold wp_W_enter_37
    refine ⟨k, D 1, r, l.1, mc, ms, by omega, by omega, l.insert c.h01 (by omega) (by have := CS_549 _ cs; omega) (fun j hj => c.kT (c.mem (by omega) hj)) kt (fun e => ⟨hmc, ?_⟩) fun h' e' c' l' f he => ?_⟩
    · have := capN_549 _ cs (CS_366 _ cs (by omega)); omega
    · have hc' : c' ∈ CS ∧ ((1 : Nat) ≠ 1 → c' ≤ 33) := by
        refine ⟨?_, fun z => absurd rfl z⟩
        rcases he with ⟨-, -, q⟩ | ⟨q1, q, -⟩
        · rw [q]; exact cs
        · rw [q]; exact capN_CS _ cs (CS_366 _ cs (by omega))
      have he' : e' = E 1 ∨ (hK h e' = 0 ∧ g.2.2 0 ≤ e') := by
        rcases he with ⟨-, q, -⟩ | ⟨-, -, q⟩
        · exact Or.inl q
        · exact Or.inr q
      have u := c.upd (i := 1) (by omega) f l' he' (fun u hu => ?_) hc'
      · have e0 : va_up L 1 ((L 1).take p ++ Ta (L 0) t :: (L 1).drop p) 0 = L 0 := va_up_ne _ _ (by decide)
        refine hp h' _ _ (va_up L 1 ((L 1).take p ++ Ta (L 0) t :: (L 1).drop p)) (W.take p ++ t :: W.drop p) (fun j hj => va_up_ne _ _ hj) ?_ u ⟨?_, ?_, ?_⟩
        · rw [va_up_self, List.length_append, List.length_cons, List.length_take, List.length_drop]
          omega
        · rw [e0]; exact a.fr c f (list_S c (by omega)) hg
        · rw [e0]; exact n.fr c a.1 f (list_S c (by omega))
        · rw [e0, va_up_self, w1]
          have ci := CW.ins (v := v) ⟨w1, w2, w3, w4⟩ t1 t2 hs hw hpp _ hq
          rw [List.map_append, List.map_cons, List.map_take, List.map_drop] at ci
          exact ci
      · rcases List.mem_append.mp hu with q | q
        · exact c.lp 1 (by omega) u (List.mem_of_mem_take q)
        · rcases List.mem_cons.mp q with y | y
          · rw [y]; exact pt
          · exact c.lp 1 (by omega) u (List.mem_of_mem_drop y)
  have e13 : hI h (Ta (L 0) t) 13 = nI s := by
    rw [(a.2.2.1 t t1 t2).2.2.2.1, aEnter_I, if_neg (by omega), if_pos ⟨rfl, rfl, rfl⟩]
  obtain ⟨r2, s2, n2, y2⟩ := a.arr c t1 t2 (k := 2) (kd := 21) (by decide) (by decide) (by decide)
  have e2 : hI h (B t 2) s = zI z 0 t s := by
    rw [(a.2.2.2.2.1 t s t1 t2 hs).1, aEnter_I, if_neg (by omega), if_neg (by omega), if_neg (by omega)]
  unfold wp_W_enter
  rw [e13]
  refine ⟨kt, V_seg1 hs ⟨fun _ => ⟨k, D 1, r, l.1, l.size ⟨kt, B t 2, r2, s2, by rw [n2]; exact vp_in_nI (by omega) (by omega), ?_⟩⟩, fun z => absurd z (by decide)⟩⟩
  · rw [nI_clamp (by omega), e2]
    refine ⟨fun q => ?_, fun q => ⟨k, V_fwl (W := W) c a hs w1 (fun u hu => ⟨((w3 u).mp hu).1, ((w3 u).mp hu).2.1⟩) fun p p1 p2 p3 => q37 p p1 ?_⟩⟩
    · rw [wl]
      refine q37 W.length (Nat.le_refl _) ?_
      unfold aWh
      rw [if_pos q, List.take_length, w4 s hs]
    · have tr : ∀ j : Nat, j < W.length → zI (aEnter z t s (aWh z t s) v) 4 (W.getD j 0) 0 = zI z 4 (W.getD j 0) 0 ∧ zI (aEnter z t s (aWh z t s) v) 0 (W.getD j 0) s = zI z 0 (W.getD j 0) s := fun j hj => by
        have ne : W.getD j 0 ≠ t := fun y => nin (by rw [← y]; exact getD_mem hj)
        exact ⟨by rw [aEnter_I, if_neg (fun y => ne y.1), if_neg (fun y => ne y.1), if_neg (fun y => ne y.1)], by rw [aEnter_I, if_neg (fun y => ne y.1), if_neg (fun y => ne y.1), if_neg (fun y => ne y.1)]⟩
      refine enter_pos (L := L) ⟨w1, w2, w3, w4⟩ hs q (fun j hj => ?_) ?_
      · have := p2 j hj
        rw [(tr j (by omega)).1, (tr j (by omega)).2] at this
        exact this
      · rcases p3 with y | ⟨y1, y2, y3⟩
        · exact Or.inl y
        · rw [(tr p y1).1] at y2
          rw [(tr p y1).2] at y3
          exact Or.inr ⟨y1, y2, y3⟩
end VE
