/-! EXACT: the class's task, on -/
theorem Ta_app1 {T : List Nat} {q t : Nat} (t1 : 1 ≤ t) (t2 : t ≤ T.length) : Ta (T ++ [q]) t = Ta T t := by
  unfold Ta
  rw [List.getD_eq_getElem?_getD, List.getD_eq_getElem?_getD, List.getElem?_append_left (by omega)]
theorem Ta_app2 {T : List Nat} {q : Nat} : Ta (T ++ [q]) (T.length + 1) = q := by
  unfold Ta
  rw [List.getD_eq_getElem?_getD, Nat.add_sub_cancel, List.getElem?_append_right (Nat.le_refl _), Nat.sub_self]
  rfl
/-- nothing is kept of tasks that are not there yet -/
def Zk (z : Zs) : Prop := ∀ t s : Nat, zn z < t → t ≤ 30 → s < 50 → zK z t s = 0
theorem V_task {g : Gm} {Y P : Nat → Prop} {h0 h : Hp} {x mc ms : Nat} {D E C : Nat → Nat} {L : Nat → List Nat} {B : Nat → Nat → Nat} {z : Zs} {W : List Nat} {i : Int32} {post : Int32 → Hp → Prop} (c : CI g Y P h0 h x D E C L) (a : Cz h L B D W z) (o : Zo z) (kz : Zk z) (hg : ∀ t k : Nat, 1 ≤ t → t ≤ zn z → 2 ≤ k → k ≤ 7 → B t k ≠ g.2.2 1) (hmc : 8 ≤ mc) (hms : 348 ≤ ms)
    (p0 : zn z = 30 → post (-1) h) (p1 : ∀ (P' : Nat → Prop) (h' : Hp) (E' C' : Nat → Nat) (L' : Nat → List Nat) (B' : Nat → Nat → Nat), zn z < 30 → (L' 0).length = zn z + 1 → L' 1 = L 1 → CI g Y P' h0 h' x D E' C' L' → Cz h' L' B' D W (aTask z i) → (∀ t k : Nat, 1 ≤ t → t ≤ zn z + 1 → 2 ≤ k → k ≤ 7 → B' t k ≠ g.2.2 1) → post (nI (zn z + 1)) h') : wp_S_task g post mc ms h x i := by
  have l := c.ls 0 (by omega)
  have k := c.sk.kx
  have r := c.sk.f1
  have cs := c.cp 0 (by omega)
  have o1 := o.1
  have a0 : (L 0).length = zn z := a.1.1.1
  unfold wp_S_task
  refine ⟨k, D 0, r, l.1, l.size ⟨fun y => ⟨k, D 0, r, l.1, l.size fun x12 e12 => ⟨k, D 0, r, by omega, by omega, fun q zq gq h16 e16 => ⟨6, 300, by omega, by omega, ?_⟩⟩⟩, fun y => p0 ?_⟩⟩
  · have hlt : (L 0).length < 30 := (nI_ltI (b := 30) (by omega) (by omega)).mp y
    rw [nI_1] at e12
    subst e12 e16
    refine U_init (by rw [mK_mk, if_pos rfl]) (by omega) (by omega) fun h18 Q b18 u18 => ?_
    have f16 : Fr (fun b => b = q) h (mkC h q 4 0) := Fr.mk zq
    have f18 : Fr (fun b => b = q) h h18 := f16.trans b18.2.1
    have nq : ∀ b : Nat, hK h b ≠ 0 → ¬ b = q := fun b hb z => hb (by rw [z]; exact zq)
    have c18 := c.fr f18 nq
    have yq : ∀ b : Nat, hK (mkC h q 4 0) b = 0 → ¬ Y b := fun b hb y => by
      have h1 := c.yk b y
      rw [mK_mk] at hb
      by_cases e : b = q
      · rw [e] at h1; exact h1 zq
      · rw [if_neg e] at hb; exact h1 hb
    have h01 := c.h01
    have tq : Tk g Y h18 q := ⟨b18.1, fun y => c.yk q y zq, fun y => by rw [y] at gq; omega, fun p hp => by
      obtain ⟨a, a1, a2, a3, a4, a5⟩ := b18.2.2 p (List.mem_reverse.mpr hp)
      exact ⟨a, a1, a2, a3, yq a a5⟩⟩
    have cP : CI g Y (fun b => P b ∨ b = q) h0 h18 x D E C L := ⟨c18.un, c18.yk, c18.sk, fun t ht => by
      rcases ht with ht | ht
      · exact c18.tk t ht
      · rw [ht]; exact tq, c18.zb, c18.ls, c18.ey, c18.dd, fun i hi t ht => Or.inl (c18.lp i hi t ht), c18.cp, c18.h01, c18.lm⟩
    have l18 := cP.ls 0 (by omega)
    have c600 := CS_549 _ cs.1
    -- the abstract state, before the list is longer
    have hS : ∀ b : Nat, (hK h b = 4 ∨ 20 < hK h b ∧ hK h b < 24) → b ≠ g.2.2 1 → ¬ (b = q) := fun b hb _ e => by rw [e, zq] at hb; omega
    have a18 : CA h18 (L 0) B D z := a.1.1.fr c f18 hS hg
    have n18 : CN h18 (L 0) z := a.1.2.1.fr c a0 f18 hS
    obtain ⟨u1, u2, u3, u4⟩ := u18
    have hQ0 : ∀ j : Nat, 2 ≤ j → j ≤ 7 → hK h (Q j) = 0 := fun j j1 j2 => by
      have := (u1 j j1 j2).2.1
      rw [mK_mk] at this
      by_cases e : Q j = q
      · rw [e]; exact zq
      · rw [if_neg e] at this; exact this
    have hT : ∀ t : Nat, 1 ≤ t → t ≤ zn z → Ta (L 0 ++ [q]) t = Ta (L 0) t := fun t t1 t2 => Ta_app1 t1 (by omega)
    have hTn : Ta (L 0 ++ [q]) (zn z + 1) = q := by rw [← a0]; exact Ta_app2
    obtain ⟨B', hB'⟩ : ∃ B' : Nat → Nat → Nat, B' = fun t k => if t = zn z + 1 then Q k else B t k := ⟨_, rfl⟩
    have hBo : ∀ t k : Nat, t ≤ zn z → B' t k = B t k := fun t k ht => by rw [hB']; exact if_neg (by omega)
    have hBn : ∀ k : Nat, B' (zn z + 1) k = Q k := fun k => by rw [hB']; exact if_pos rfl
    have kB : ∀ t k : Nat, 1 ≤ t → t ≤ zn z → 2 ≤ k → k ≤ 7 → hK h (B t k) ≠ 0 := fun t k t1 t2 k1 k2 => by
      have : k = 2 ∨ k = 3 ∨ k = 4 ∨ k = 5 ∨ k = 6 ∨ k = 7 := by omega
      rcases this with w | w | w | w | w | w <;> subst w
      · rw [(a.1.1.arr c t1 t2 (k := 2) (kd := 21) (by decide) (by decide) (by decide)).2.1]; decide
      · rw [(a.1.1.arr c t1 t2 (k := 3) (kd := 23) (by decide) (by decide) (by decide)).2.1]; decide
      · rw [(a.1.1.arr c t1 t2 (k := 4) (kd := 23) (by decide) (by decide) (by decide)).2.1]; decide
      · rw [(a.1.1.arr c t1 t2 (k := 5) (kd := 22) (by decide) (by decide) (by decide)).2.1]; decide
      · rw [(a.1.1.arr c t1 t2 (k := 6) (kd := 23) (by decide) (by decide) (by decide)).2.1]; decide
      · rw [(a.1.1.arr c t1 t2 (k := 7) (kd := 22) (by decide) (by decide) (by decide)).2.1]; decide
    have oz := o.2.2.2.2.2.2.2 (zn z + 1) (by omega) (by omega)
    have lit : ∀ f u s : Nat, f ≠ 7 → zI (aTask z i) f u s = zI z f u s := fun f u s hf => if_neg (fun w => hf w.1)
    have l7o : ∀ u : Nat, u ≤ zn z → zI (aTask z i) 7 u 0 = zI z 7 u 0 := fun u hu => if_neg (fun w => by omega)
    have l7n : zI (aTask z i) 7 (zn z + 1) 0 = i := if_pos ⟨rfl, rfl, rfl⟩
    have en : zn (aTask z i) = zn z + 1 := rfl
    have dk : ∀ j : Nat, j < 10 → hK h (D j) ≠ 0 := fun j hj => by
      have : j = 0 ∨ j = 1 ∨ j = 2 ∨ j = 3 ∨ j = 4 ∨ j = 5 ∨ j = 6 ∨ j = 7 ∨ j = 8 ∨ j = 9 := by omega
      rcases this with w | w | w | w | w | w | w | w | w | w <;> subst w
      · rw [(c.ls 0 (by omega)).1]; decide
      · rw [(c.ls 1 (by omega)).1]; decide
      · rw [(c.ls 2 (by omega)).1]; decide
      · rw [(c.ls 3 (by omega)).1]; decide
      · rw [c.sk.k4.1]; decide
      · rw [c.sk.k5]; decide
      · rw [c.sk.k6]; decide
      · rw [c.sk.k7.1]; decide
      · rw [c.sk.k8.1]; decide
      · rw [c.sk.k9.1]; decide
    have aN : CA h18 (L 0 ++ [q]) B' D (aTask z i) := by
      obtain ⟨a1, a2, a3, a4, a5, a6, a7, a8⟩ := a18
      refine ⟨by rw [List.length_append, en, a1]; rfl, ?_, fun t t1 t2 => ?_, fun t k t1 t2 k1 k2 => ?_, fun t s t1 t2 hs => ?_, fun t u k j t1 t2 u1' u2' k1 k2 j1 j2 e => ?_, fun t k j t1 t2 k1 k2 hj e => ?_, a8⟩
      · rw [List.nodup_append]
        refine ⟨a2, List.nodup_cons.mpr ⟨List.not_mem_nil, List.nodup_nil⟩, fun u hu v hv e => ?_⟩
        have hv : v = q := List.mem_singleton.mp hv
        have := (c.tk u (c.lp 0 (by omega) u hu)).1
        rw [e, hv, zq] at this; exact absurd this (by decide)
      · rw [en] at t2
        by_cases e : t = zn z + 1
        · rw [e, hTn, l7n, lit 3 _ _ (by decide), lit 4 _ _ (by decide), lit 6 _ _ (by decide), oz.1, oz.2.1, oz.2.2.1]
          exact ⟨by rw [u3.1, a0], u3.2.1, u3.2.2.1, u3.2.2.2.2.2.2, fun w => absurd rfl w, u3.2.2.2.2.2.1⟩
        · rw [hT t t1 (by omega), l7o t (by omega), lit 3 _ _ (by decide), lit 4 _ _ (by decide), lit 5 _ _ (by decide), lit 6 _ _ (by decide)]
          exact a3 t t1 (by omega)
      · rw [en] at t2
        by_cases e : t = zn z + 1
        · rw [e, hTn, hBn]; exact (u1 k k1 k2).1
        · rw [hT t t1 (by omega), hBo t k (by omega)]; exact a4 t k t1 (by omega) k1 k2
      · rw [en] at t2
        rw [lit 0 _ _ (by decide), lit 1 _ _ (by decide), lit 2 _ _ (by decide)]
        show _ ∧ _ ∧ _ ∧ _ = zK z t s
        by_cases e : t = zn z + 1
        · obtain ⟨w1, w2, w3⟩ := oz.2.2.2 s hs
          rw [e, hBn, hBn, hBn, hBn, w1, w2, w3, kz _ s (by omega) (by omega) hs]
          exact u4 s hs
        · rw [hBo t _ (by omega), hBo t _ (by omega), hBo t _ (by omega), hBo t _ (by omega)]
          exact a5 t s t1 (by omega) hs
      · rw [en] at t2 u2'
        by_cases e1 : t = zn z + 1
        · by_cases e2 : u = zn z + 1
          · rw [e1, e2, hBn, hBn] at e
            exact ⟨e1.trans e2.symm, u2 k j k1 k2 j1 j2 e⟩
          · rw [e1, hBn, hBo u j (by omega)] at e
            exact absurd (by rw [← e]; exact hQ0 k k1 k2) (kB u j u1' (by omega) j1 j2)
        · by_cases e2 : u = zn z + 1
          · rw [e2, hBn, hBo t k (by omega)] at e
            exact absurd (by rw [e]; exact hQ0 j j1 j2) (kB t k t1 (by omega) k1 k2)
          · rw [hBo t k (by omega), hBo u j (by omega)] at e
            exact a6 t u k j t1 (by omega) u1' (by omega) k1 k2 j1 j2 e
      · rw [en] at t2
        by_cases e1 : t = zn z + 1
        · rw [e1, hBn] at e
          exact dk j hj (by rw [← e]; exact hQ0 k k1 k2)
        · rw [hBo t k (by omega)] at e
          exact a7 t k j t1 (by omega) k1 k2 hj e
    have nN : CN h18 (L 0 ++ [q]) (aTask z i) := fun t t1 t2 => by
      rw [en] at t2
      rw [held_congr (z := z) (fun s _ => lit 0 t s (by decide)), wr_congr (z := z) (fun s _ => lit 2 t s (by decide))]
      by_cases e : t = zn z + 1
      · have w0 : aHeld z t = 0 := cnt0 _ _ fun s hs => by rw [e, (oz.2.2.2 s hs).1]; rfl
        have w2 : aWr z t = 0 := cnt0 _ _ fun s hs => by rw [e, (oz.2.2.2 s hs).2.2]; rfl
        rw [w0, w2, e, hTn]
        exact ⟨u3.2.2.2.1, u3.2.2.2.2.1⟩
      · rw [hT t t1 (by omega)]; exact n18 t t1 (by omega)
    have gN : ∀ t k : Nat, 1 ≤ t → t ≤ zn z + 1 → 2 ≤ k → k ≤ 7 → B' t k ≠ g.2.2 1 := fun t k t1 t2 k1 k2 e => by
      by_cases e1 : t = zn z + 1
      · rw [e1, hBn] at e
        have := (u1 k k1 k2).2.2.1
        omega
      · rw [hBo t k (by omega)] at e; exact hg t k t1 (by omega) k1 k2 e
    refine ⟨l18.1, 1, 33, by omega, by omega, l18.add h01 (by omega) (fun j hj => cP.kT (cP.mem (by omega) hj)) b18.1 (fun e => ⟨by omega, capN_33 _ cs.1 (by omega)⟩) fun h' e' c' l' f' he => ?_⟩
    have he' : e' = E 0 ∨ (hK h18 e' = 0 ∧ g.2.2 0 ≤ e') := by
      rcases he with ⟨-, y, -⟩ | ⟨-, -, y⟩
      · exact Or.inl y
      · exact Or.inr y
    have hc' : c' ∈ CS ∧ ((0 : Nat) ≠ 1 → c' ≤ 33) := by
      rcases he with ⟨-, -, y⟩ | ⟨y1, y, -⟩
      · rw [y]; exact cs
      · rw [y]; exact ⟨capN_CS _ cs.1 (by omega), fun _ => capN_33 _ cs.1 (by omega)⟩
    have u := cP.upd (i := 0) (by omega) f' l' he' (fun u hu => by
      rcases List.mem_append.mp hu with y | y
      · exact cP.lp 0 (by omega) u y
      · exact Or.inr (List.mem_singleton.mp y)) hc'
    have hS' := list_S cP (i := 0) (by omega)
    have kT18 : ∀ t : Nat, 1 ≤ t → t ≤ zn z + 1 → hK h18 (Ta (L 0 ++ [q]) t) = 4 ∧ Ta (L 0 ++ [q]) t ≠ g.2.2 1 := fun t t1 t2 => by
      by_cases e : t = zn z + 1
      · rw [e, hTn]; exact ⟨tq.1, tq.2.2.1⟩
      · rw [hT t t1 (by omega)]
        have := c18.tk _ (Ta_P c18 t1 (by omega))
        exact ⟨this.1, this.2.2.1⟩
    have fT : ∀ t : Nat, 1 ≤ t → t ≤ zn z + 1 → hI h' (Ta (L 0 ++ [q]) t) = hI h18 (Ta (L 0 ++ [q]) t) ∧ hR h' (Ta (L 0 ++ [q]) t) = hR h18 (Ta (L 0 ++ [q]) t) := fun t t1 t2 => by
      obtain ⟨w1, w2⟩ := kT18 t t1 t2
      have := (f' _ (by rw [w1]; decide)).2.2 (hS' _ (Or.inl w1) w2)
      exact ⟨this.1, this.2.2⟩
    have fB : ∀ t k : Nat, 1 ≤ t → t ≤ zn z + 1 → 2 ≤ k → k ≤ 7 → hI h' (B' t k) = hI h18 (B' t k) ∧ hJ h' (B' t k) = hJ h18 (B' t k) := fun t k t1 t2 k1 k2 => by
      have kk : 20 < hK h18 (B' t k) ∧ hK h18 (B' t k) < 24 := by
        by_cases e : t = zn z + 1
        · rw [e, hBn]; exact (u1 k k1 k2).2.2.2
        · rw [hBo t k (by omega), (f18 _ (kB t k t1 (by omega) k1 k2)).1]
          have : k = 2 ∨ k = 3 ∨ k = 4 ∨ k = 5 ∨ k = 6 ∨ k = 7 := by omega
          have t2' : t ≤ zn z := by omega
          rcases this with w | w | w | w | w | w <;> subst w
          · rw [(a.1.1.arr c t1 t2' (k := 2) (kd := 21) (by decide) (by decide) (by decide)).2.1]; decide
          · rw [(a.1.1.arr c t1 t2' (k := 3) (kd := 23) (by decide) (by decide) (by decide)).2.1]; decide
          · rw [(a.1.1.arr c t1 t2' (k := 4) (kd := 23) (by decide) (by decide) (by decide)).2.1]; decide
          · rw [(a.1.1.arr c t1 t2' (k := 5) (kd := 22) (by decide) (by decide) (by decide)).2.1]; decide
          · rw [(a.1.1.arr c t1 t2' (k := 6) (kd := 23) (by decide) (by decide) (by decide)).2.1]; decide
          · rw [(a.1.1.arr c t1 t2' (k := 7) (kd := 22) (by decide) (by decide) (by decide)).2.1]; decide
      have := (f' (B' t k) (by omega)).2.2 (hS' _ (Or.inr kk) (gN t k t1 t2 k1 k2))
      exact ⟨this.1, this.2.1⟩
    have f4 : hJ h' (D 4) = hJ h18 (D 4) := ((f' (D 4) (by rw [cP.sk.k4.1]; decide)).2.2 (hS' _ (Or.inr (by rw [cP.sk.k4.1]; decide)) (cP.sk.dy 4 (by omega)).2)).2.1
    have mapT : ∀ l : List Nat, (∀ t ∈ l, 1 ≤ t ∧ t ≤ zn z) → l.map (Ta (L 0)) = l.map (Ta (L 0 ++ [q])) := fun l hl => List.map_congr_left fun t ht => (hT t (hl t ht).1 (hl t ht).2).symm
    rw [a0]
    obtain ⟨w1, w2, w3, w4⟩ := a.1.2.2
    refine p1 _ h' _ _ _ B' (by omega) (by rw [va_up_self, List.length_append, a0]; rfl) (va_up_ne _ _ (by decide)) u ⟨⟨?_, ?_, ?_⟩, ?_⟩ gN
    · rw [va_up_self]; exact aN.keep fT fB f4
    · rw [va_up_self]; exact nN.keep fun t t1 t2 => (fT t t1 t2).1
    · rw [va_up_self, va_up_ne _ _ (by decide)]
      refine ⟨w1.trans (mapT W fun t ht => ⟨((w3 t).mp ht).1, ((w3 t).mp ht).2.1⟩), w2, fun t => ?_, fun s hs => ?_⟩
      · rw [w3 t, en, lit 4 _ _ (by decide)]
        refine ⟨fun v => ⟨v.1, by omega, v.2.2⟩, fun v => ⟨v.1, ?_, v.2.2⟩⟩
        rcases Nat.lt_or_ge (zn z) t with e | e
        · have : t = zn z + 1 := by omega
          rw [this, oz.2.1] at v; exact absurd rfl v.2.2
        · exact e
      · show _ = zQ z s
        rw [← w4 s hs]
        exact List.filter_congr fun u _ => by rw [lit 4 _ _ (by decide)]
    · rw [va_up_self, va_up_ne _ _ (by decide)]
      exact ⟨a.2.1.trans (mapT _ a.2.2), fun t ht => ⟨(a.2.2 t ht).1, Nat.le_succ_of_le (a.2.2 t ht).2⟩⟩
  · rcases Nat.lt_or_ge (L 0).length 30 with w | w
    · exact absurd (nI_lt (b := 30) w (by omega)) y
    · omega
