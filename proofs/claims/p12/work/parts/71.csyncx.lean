/-! EXACT: the class's write, sync, checkpoint, backout, dead -/
section VS
variable {g : Gm} {Y P : Nat → Prop} {h0 h : Hp} {x : Nat} {D E C : Nat → Nat} {L : Nat → List Nat} {B : Nat → Nat → Nat} {z : Zs} {W : List Nat}
theorem CA.wK {t s : Nat} {v : Int64} (a : CA h (L 0) B D z) (t1 : 1 ≤ t) (t2 : t ≤ zn z) : CA (sJ h (B t 5) s v) (L 0) B D (z.1, zQ z, zR z, zn z, fun u r => if u = t ∧ r = s then v else zK z u r, zG z) := by
  obtain ⟨a1, a2, a3, a4, a5, a6, a7, a8⟩ := a
  refine ⟨a1, a2, a3, a4, fun u r u1 u2 hr => ?_, a6, a7, fun r hr => ?_⟩
  · obtain ⟨q1, q2, q3, q4⟩ := a5 u r u1 u2 hr
    refine ⟨q1, q2, q3, ?_⟩
    rw [rJ_sJ]
    show _ = if u = t ∧ r = s then v else zK z u r
    by_cases c : u = t ∧ r = s
    · rw [if_pos ⟨by rw [c.1], c.2⟩, if_pos c]
    · rw [if_neg (fun q => c ⟨(a6 u t 5 5 u1 u2 t1 t2 (by omega) (by omega) (by omega) (by omega) q.1).1, q.2⟩), if_neg c]; exact q4
  · rw [rJ_sJ, if_neg (fun q => a7 t 5 4 t1 t2 (by omega) (by omega) (by omega) q.1.symm)]; exact a8 r hr
theorem V_keep {t s : Nat} {v : Int64} {post : Hp → Prop} (c : CI g Y P h0 h x D E C L) (a : CA h (L 0) B D z) (n : CN h (L 0) z) (t1 : 1 ≤ t) (t2 : t ≤ zn z) (hs : s < 50) (hp : ∀ h' : Hp, CI g Y P h0 h' x D E C L → CA h' (L 0) B D (aWrite z t s v) → CN h' (L 0) (aWrite z t s v) → post h') : wp_T_keep g post h (Ta (L 0) t) (nI s) v := by
  have pt := Ta_P c t1 (by rw [a.1]; exact t2)
  have eI : ∀ f u r : Nat, zI (aWrite z t s v) f u r = if f = 2 ∧ u = t ∧ r = s then 1 else zI z f u r := fun _ _ _ => rfl
  have q19 : ∀ h : Hp, CI g Y P h0 h x D E C L → CA h (L 0) B D z → (∀ u : Nat, 1 ≤ u → u ≤ zn z → hI h (Ta (L 0) u) 10 = nI (aHeld z u) ∧ hI h (Ta (L 0) u) 11 = nI (aWr (aWrite z t s v) u)) → wp_T_keep_19 g post h (Ta (L 0) t) (nI s) v := fun h c a nn => by
    obtain ⟨r4, s4, n4, y4⟩ := a.arr c t1 t2 (k := 4) (kd := 23) (by decide) (by decide) (by decide)
    obtain ⟨r5, s5, n5, y5⟩ := a.arr c t1 t2 (k := 5) (kd := 22) (by decide) (by decide) (by decide)
    have nT : ∀ u : Nat, 1 ≤ u → u ≤ zn z → Ta (L 0) u ≠ B t 4 := fun u u1 u2 e => by
      have := c.kT (Ta_P c u1 (by rw [a.1]; exact u2))
      rw [e, s4] at this; exact absurd this (by decide)
    unfold wp_T_keep_19
    refine ⟨c.kT pt, B t 4, r4, s4, by rw [n4]; exact vp_in_nI (by omega) (by omega), Or.inr rfl, fun h4 e4 => ?_⟩
    rw [nI_clamp (by omega)] at e4
    have c4 : CI g Y P h0 h4 x D E C L := by rw [e4]; exact c.wA s4 (by omega) y4
    have a4 : CA h4 (L 0) B D (zu z 2 t s 1) := by rw [e4]; exact a.wB c t1 t2 hs (Or.inr (Or.inr ⟨rfl, rfl⟩))
    refine ⟨c4.kT pt, B t 5, by rw [e4]; exact r5, by rw [e4]; exact s5, by rw [e4]; exact (by rw [n5]; exact vp_in_nI (by omega) (by omega) : vp_in (nI s) (hN h (B t 5))), fun h8 e8 => ?_⟩
    rw [nI_clamp (by omega)] at e8
    refine hp h8 ?_ ?_ ?_
    · rw [e8]; exact c4.wJ y5
    · rw [e8]; exact CA.wK a4 t1 t2
    · intro u u1 u2
      rw [e8, e4]
      show hI (sI h (B t 4) s 1) (Ta (L 0) u) 10 = _ ∧ hI (sI h (B t 4) s 1) (Ta (L 0) u) 11 = _
      rw [sI_o (nT u u1 u2), held_congr (z := z) (fun r _ => by rw [eI, if_neg (fun y => absurd y.1 (by decide))])]
      exact nn u u1 u2
  obtain ⟨r4, s4, n4, y4⟩ := a.arr c t1 t2 (k := 4) (kd := 23) (by decide) (by decide) (by decide)
  have e2 := (a.2.2.2.2.1 t s t1 t2 hs).2.2.1
  unfold wp_T_keep
  refine ⟨c.kT pt, B t 4, r4, s4, by rw [n4]; exact vp_in_nI (by omega) (by omega), ?_⟩
  rw [nI_clamp (by omega), e2]
  refine ⟨fun y => q19 h c a fun u u1 u2 => ⟨(n u u1 u2).1, ?_⟩, fun y => ⟨c.kT pt, fun x6 e6 => ⟨c.kT pt, fun h8 e8 => ?_⟩⟩⟩
  · rw [(n u u1 u2).2]
    congr 1
    refine (cntF_congr fun r _ => ?_).symm
    rw [eI]
    by_cases d : 2 = 2 ∧ u = t ∧ r = s
    · rw [if_pos d, d.2.1, d.2.2, decide_eq_true y]; rfl
    · rw [if_neg d]
  · refine q19 h8 (by rw [e8]; exact c.wT pt) (by rw [e8]; exact a.wC c t1 t2 (Or.inr (Or.inr rfl))) fun u u1 u2 => ?_
    obtain ⟨q1, q2⟩ := n u u1 u2
    rw [e8, rI_sI, if_neg (fun q => absurd q.2 (by decide)), rI_sI]
    refine ⟨q1, ?_⟩
    by_cases e : u = t
    · have hd : aWr (aWrite z t s v) u = aWr z u + 1 := cntF_set (t := s) hs (by rw [e, y]; rfl) (by rw [eI, if_pos ⟨rfl, e, rfl⟩]; rfl) (fun r _ hr => by rw [eI, if_neg (fun y => hr y.2.2)])
      rw [if_pos ⟨by rw [e], rfl⟩, e6, hd, e, (n t t1 t2).2, nI_1]
    · rw [if_neg (fun y => e (Ta_inj a u1 u2 t1 t2 y.1)), q2]
      congr 1
      exact (wr_congr fun r _ => by rw [eI, if_neg (fun y => e y.2.1)]).symm
theorem V_write {i1 i2 : Int32} {v : Int64} {post : Int32 → Hp → Prop} (c : CI g Y P h0 h x D E C L) (a : Cz h L B D W z) (o : Zo z)
    (hp : ∀ h' : Hp, CI g Y P h0 h' x D E C L → Cz h' L B D W (cWrite z i1 i2 v).2 → post (cWrite z i1 i2 v).1 h') : wp_S_write g post h x i1 i2 v := by
  have o1 := o.1
  have a0 : (L 0).length = zn z := a.1.1.1
  unfold wp_S_write
  unfold cWrite at hp
  refine ⟨c.sk.kx, ?_⟩
  rcases aTk_c (z := z) i1 o1 with ⟨t, t1, t2, e1, ea⟩ | ⟨ea, hn⟩
  · rw [if_neg (by omega)] at hp
    rw [e1]
    refine V_find1 c t1 (by omega) ⟨(fun q => nomatch q), fun a4 q => ?_⟩
    cases q
    have kt := c.kT (Ta_P c t1 (by omega))
    have e9 := (a.1.1.2.2.1 t t1 t2).2.2.1
    rcases aSn_c i2 with ⟨s, hs, e2, es⟩ | ⟨es, hn⟩
    · rw [e2]
      rw [if_neg (by omega), ea, es] at hp
      obtain ⟨b1, b2, b3, b4⟩ := a.1.1.arr c (k := 2) (kd := 21) t1 t2 (by decide) (by decide) (by decide)
      have el := (a.1.1.2.2.2.2.1 t s t1 t2 hs).1
      refine V_seg1 hs ⟨fun _ => ⟨kt, ?_⟩, fun q => absurd q (by decide)⟩
      rw [e9]
      refine ⟨fun st => ⟨kt, B t 2, b1, b2, by rw [b3]; exact vp_in_nI (by omega) (by omega), ?_⟩, fun st => ?_⟩
      · rw [if_neg (fun y => y st)] at hp
        rw [nI_clamp (by omega), el]
        refine ⟨fun y => ?_, fun y => ?_⟩
        · rw [if_pos y] at hp
          exact ⟨kt, V_keep c a.1.1 a.1.2.1 t1 t2 hs fun h' c' a' n' => hp h' c' ⟨⟨a', n', a.1.2.2.same rfl (fun u => rfl) (fun _ => rfl)⟩, a.2⟩⟩
        · rw [if_neg y] at hp; exact hp h c a
      · rw [if_pos st] at hp; exact hp h c a
    · rw [if_pos es] at hp
      exact V_seg0 hn ⟨fun q => absurd rfl q, fun _ => hp h c a⟩
  · rw [if_pos ea] at hp
    exact V_find0 c (fun t t1 t2 => hn t t1 (by omega)) ⟨fun _ => hp h c a, (fun a4 q => nomatch q)⟩
/-- what is agreed -/
def zg (z : Zs) (f : Nat → Int64) : Zs := (z.1, zQ z, zR z, zn z, zK z, f)
theorem CA.wG {s : Nat} {v : Int64} {f : Nat → Int64} (a : CA h (L 0) B D (zg z f)) : CA (sJ h (D 4) s v) (L 0) B D (zg z (fun r => if r = s then v else f r)) := by
  obtain ⟨a1, a2, a3, a4, a5, a6, a7, a8⟩ := a
  refine ⟨a1, a2, a3, a4, fun u r u1 u2 hr => ?_, a6, a7, fun r hr => ?_⟩
  · obtain ⟨q1, q2, q3, q4⟩ := a5 u r u1 u2 hr
    refine ⟨q1, q2, q3, ?_⟩
    rw [rJ_sJ, if_neg (fun q => a7 u 5 4 u1 u2 (by omega) (by omega) (by omega) q.1)]; exact q4
  · rw [rJ_sJ]
    show _ = if r = s then v else f r
    by_cases c : r = s
    · rw [if_pos ⟨rfl, c⟩, if_pos c]
    · rw [if_neg (fun q => c q.2), if_neg c]; exact a8 r hr
/-- an int of the class itself -/
theorem Cz.wx {k : Nat} {v : Int32} (a : Cz h L B D W z) (c : CI g Y P h0 h x D E C L) (hg : ∀ t k : Nat, 1 ≤ t → t ≤ zn z → 2 ≤ k → k ≤ 7 → B t k ≠ g.2.2 1) : Cz (sI h x k v) L B D W z := by
  have hS : ∀ b : Nat, (hK h b = 4 ∨ 20 < hK h b ∧ hK h b < 24) → b ≠ g.2.2 1 → ¬ (b = x) := fun b hb _ e => by
    rw [e, c.sk.kx] at hb; omega
  exact ⟨⟨a.1.1.fr c (Fr.sI (S := fun b => b = x) rfl) hS hg, a.1.2.1.fr c a.1.1.1 (Fr.sI (S := fun b => b = x) rfl) hS, a.1.2.2⟩, a.2⟩
theorem V_agree {t : Nat} {post : Hp → Prop} (c : CI g Y P h0 h x D E C L) (a : Cz h L B D W z) (o : Zo z) (hg : ∀ t k : Nat, 1 ≤ t → t ≤ zn z → 2 ≤ k → k ≤ 7 → B t k ≠ g.2.2 1) (t1 : 1 ≤ t) (t2 : t ≤ zn z)
    (hp : ∀ (h' : Hp) (L' : Nat → List Nat) (W' : List Nat), Lz L L' 0 → CI g Y P h0 h' x D E C L' → Cz h' L' B D W' (aClear (aAgr z t) t 0) → post h') : wp_S_agree g post h x (Ta (L 0) t) := by
  have h50 : (50 : Int32) = nI 50 := rfl
  have o1 := o.1
  have pt := Ta_P c t1 (by rw [a.1.1.1]; exact t2)
  have loop : ∀ (d s : Nat) (h : Hp) (f : Nat → Int64), s + d = 50 → CI g Y P h0 h x D E C L → CA h (L 0) B D (zg z f) → CN h (L 0) z → (∀ r : Nat, r < 50 → f r = if r < s ∧ ¬ zI z 2 t r = 0 then zK z t r else zG z r) → wp_S_agree_18 g post (d + 1) h x (Ta (L 0) t) (nI s) := by
    intro d
    induction d with
    | zero =>
      intro s h f e c a' n hf
      have e : s = 50 := by omega
      subst e
      unfold wp_S_agree_18
      refine ⟨fun _ => ⟨c.sk.kx, ?_⟩, fun y => absurd (by decide) y⟩
      have fz : Zf (zg z f) (aAgr z t) := ⟨rfl, fun _ _ _ _ _ => ⟨rfl, rfl, rfl, rfl⟩, fun _ _ _ => ⟨rfl, rfl, fun _ => rfl, rfl, rfl⟩, fun r hr => by
        show (if ¬ zI z 2 t r = 0 then zK z t r else zG z r) = f r
        rw [hf r hr]
        by_cases y : ¬ zI z 2 t r = 0
        · rw [if_pos y, if_pos ⟨hr, y⟩]
        · rw [if_neg y, if_neg (fun q => y q.2)]⟩
      have cz : Cz h L B D W (aAgr z t) := ⟨⟨a'.congr o1 fz, n, a.1.2.2.same rfl (fun _ => rfl) (fun _ => rfl)⟩, a.2⟩
      exact V_letGoR c cz (aAgr_o o) hg t1 t2 (by decide) fun h' L' W' k0 wl c' a' => hp h' L' W' ⟨k0, by
        have e1 : (L' 1).length = W'.length := by rw [a'.1.2.2.1]; exact List.length_map ..
        have e2 : (L 1).length = W.length := by rw [a.1.2.2.1]; exact List.length_map ..
        omega⟩ c' a'
    | succ d ih =>
      intro s h f e c a' n hf
      have k := c.kT pt
      obtain ⟨r4, s4, n4, u4⟩ := a'.arr c t1 t2 (k := 4) (kd := 23) (by decide) (by decide) (by decide)
      obtain ⟨r5, s5, n5, u5⟩ := a'.arr c t1 t2 (k := 5) (kd := 22) (by decide) (by decide) (by decide)
      obtain ⟨k4, n4'⟩ := c.sk.k4
      have q := a'.2.2.2.2.1 t s t1 t2 (by omega)
      have e2 : hI h (B t 4) s = zI z 2 t s := q.2.2.1
      have e5 : hJ h (B t 5) s = zK z t s := q.2.2.2
      unfold wp_S_agree_18 wp_S_agree_45
      refine ⟨fun y => ?_, fun _ => ⟨k, B t 4, r4, s4, by rw [n4]; exact vp_in_nI (by omega) (by omega), ?_⟩⟩
      · rw [h50] at y
        have := (nI_leI (by omega) (by omega)).mp y
        omega
      rw [nI_clamp (by omega), e2]
      refine ⟨fun y x1 e1 => ?_, fun y => ⟨c.sk.kx, D 4, c.sk.f0, k, B t 5, r5, s5, by rw [n5]; exact vp_in_nI (by omega) (by omega), k4, by rw [n4']; exact vp_in_nI (by omega) (by omega), fun h14 e14 x1 e1 => ?_⟩⟩
      · rw [nI_1] at e1; subst e1
        refine ih (s + 1) h f (by omega) c a' n fun r hr => ?_
        rw [hf r hr]
        by_cases y2 : r < s ∧ ¬ zI z 2 t r = 0
        · rw [if_pos y2, if_pos ⟨by omega, y2.2⟩]
        · rw [if_neg y2, if_neg (fun q => y2 ⟨by
            rcases Nat.lt_or_ge r s with w | w
            · exact w
            · have : r = s := by omega
              rw [this] at q; exact absurd y q.2, q.2⟩)]
      · rw [nI_1] at e1; subst e1
        rw [e5] at e14
        refine ih (s + 1) h14 (fun r => if r = s then zK z t s else f r) (by omega) (by rw [e14]; exact c.wJ (c.sk.dy 4 (by omega)).1) (by rw [e14]; exact CA.wG a') (by rw [e14]; exact n) fun r hr => ?_
        by_cases y2 : r = s
        · rw [if_pos y2, if_pos ⟨by omega, by rw [y2]; exact y⟩, y2]
        · rw [if_neg y2, hf r hr]
          by_cases y3 : r < s ∧ ¬ zI z 2 t r = 0
          · rw [if_pos y3, if_pos ⟨by omega, y3.2⟩]
          · rw [if_neg y3, if_neg (fun q => y3 ⟨by omega, q.2⟩)]
  have go : ∀ h : Hp, CI g Y P h0 h x D E C L → Cz h L B D W z → wp_S_agree_16 g post h x (Ta (L 0) t) := fun h c a => ⟨51, loop 50 0 h (zG z) rfl c a.1.1 a.1.2.1 fun r hr => by rw [if_neg (fun q => absurd q.1 (by omega))]⟩
  unfold wp_S_agree
  refine ⟨c.sk.kx, D 4, c.sk.f0, c.kT pt, T_isInOrder c pt fun y => ⟨fun _ => go h c a, fun _ => ⟨c.sk.kx, Or.inl rfl, fun h8 e8 => go h8 ?_ ?_⟩⟩⟩
  · rw [e8]
    exact c.wI (by rw [c.sk.kx]; decide) c.sk.yx (fun _ _ => Or.inl rfl) (fun _ => by decide)
  · rw [e8]; exact a.wx c hg
end VS
