/-! EXACT: the class's ask, write, agree and the rest -/
theorem aFind_no {z : Zs} {t : Nat} (h : zI z 4 t 0 = -1) : aFind z t = none := by
  have nb : ∀ v : Nat, ¬ aBl z t v = true := fun v y => (aBl_w y).1 h
  have ai : ∀ (d v : Nat) (q fr : List Nat) (k : Nat), aIn z t k t d v q fr = (false, q, fr) := by
    intro d
    induction d with
    | zero => intro v q fr k; rfl
    | succ d ih => intro v q fr k; unfold aIn; rw [if_neg (nb v)]; exact ih (v + 1) q fr k
  unfold aFind aOut
  have g0 : [t].getD 0 0 = t := rfl
  rw [if_pos (show 0 < [t].length from Nat.one_pos), g0, ai, if_neg (show ¬ false = true from Bool.noConfusion)]
  unfold aOut
  rw [if_neg (show ¬ 0 + 1 < [t].length from Nat.lt_irrefl 1)]
section VA
variable {g : Gm} {Y P : Nat → Prop} {h0 h : Hp} {x : Nat} {D E C : Nat → Nat} {L : Nat → List Nat} {B : Nat → Nat → Nat} {z : Zs} {W : List Nat}
/-- the class holds all of the abstract state, the ring too -/
def Cz (h : Hp) (L : Nat → List Nat) (B : Nat → Nat → Nat) (D : Nat → Nat) (W : List Nat) (z : Zs) : Prop := CZ h L B D W z ∧ CR (L 2) (L 0) z
theorem aGr_R : ∀ (d s : Nat) (z : Zs), zR (aGr z d s) = zR z := by
  intro d
  induction d with
  | zero => intro s z; rfl
  | succ d ih =>
    intro s z
    have h1 : ∀ (e : Nat) (z : Zs), zR (aGrantS z s e) = zR z := by
      intro e
      induction e with
      | zero => intro z; rfl
      | succ e ih2 =>
        intro z
        cases q : zQ z s with
        | nil => rw [aGrantS_nil q]
        | cons t l =>
          rw [aGrantS_cons q]
          by_cases y : aFree z t s (zI z 5 t 0) (zn z) = true
          · rw [if_pos y, ih2]; rfl
          · rw [if_neg y]
    show zR (aGr (aGrantS z s 30) d (s + 1)) = zR z
    rw [ih, h1]
theorem aClear_R {t : Nat} {v : Int32} : zR (aClear z t v) = zR z := by
  unfold aClear
  rw [aGr_R]; rfl
theorem V_letGoR {t : Nat} {v : Int32} {post : Hp → Prop} (c : CI g Y P h0 h x D E C L) (a : Cz h L B D W z) (o : Zo z) (hg : ∀ t k : Nat, 1 ≤ t → t ≤ zn z → 2 ≤ k → k ≤ 7 → B t k ≠ g.2.2 1) (t1 : 1 ≤ t) (t2 : t ≤ zn z) (hv : ¬ v = 1)
    (hp : ∀ (h' : Hp) (L' : Nat → List Nat) (W' : List Nat), L' 0 = L 0 → W'.length ≤ W.length → CI g Y P h0 h' x D E C L' → Cz h' L' B D W' (aClear z t v) → post h') : wp_S_letGo g post h x (Ta (L 0) t) v :=
  V_letGo c a.1 o hg t1 t2 hv fun h' L' W' j' wl c' a' => hp h' L' W' (j' 0 (by decide)) wl c' ⟨a', by
    have en := (aClear_o (v := v) o t1 t2 hv).2
    rw [j' 0 (by decide), j' 2 (by decide)]
    unfold CR
    rw [aClear_R, en]
    exact a.2⟩
theorem i32_ne (v : Int32) : ¬ v + 1 = v := fun h => by
  have h2 : v + 1 = v + 0 := by rw [h, Int32.add_zero]
  have := (Int32.add_right_inj v).mp h2
  exact absurd this (by decide)
theorem aGrS_46 (s u : Nat) : ∀ (e : Nat) (z : Zs), (zI z 4 u 0 = -1 → zI (aGrantS z s e) 4 u 0 = -1) ∧ zI (aGrantS z s e) 6 u 0 = zI z 6 u 0 := by
  intro e
  induction e with
  | zero => intro z; exact ⟨fun y => y, rfl⟩
  | succ e ih2 =>
    intro z
    cases q : zQ z s with
    | nil => rw [aGrantS_nil q]; exact ⟨fun y => y, rfl⟩
    | cons t l =>
      rw [aGrantS_cons q]
      by_cases y : aFree z t s (zI z 5 t 0) (zn z) = true
      · rw [if_pos y]
        obtain ⟨i1, i2⟩ := ih2 (aGive z t s)
        refine ⟨fun y' => i1 ?_, i2.trans ?_⟩
        · rw [aGive_I]
          by_cases c : u = t
          · simp [c]
          · simp [c]; exact y'
        · rw [aGive_I]
          by_cases c : u = t
          · simp [c]
          · simp [c]
      · rw [if_neg y]; exact ⟨fun y => y, rfl⟩
theorem aGr_46 (u : Nat) : ∀ (d s : Nat) (z : Zs), (zI z 4 u 0 = -1 → zI (aGr z d s) 4 u 0 = -1) ∧ zI (aGr z d s) 6 u 0 = zI z 6 u 0 := by
  intro d
  induction d with
  | zero => intro s z; exact ⟨fun y => y, rfl⟩
  | succ d ih =>
    intro s z
    obtain ⟨i1, i2⟩ := ih (s + 1) (aGrantS z s 30)
    obtain ⟨j1, j2⟩ := aGrS_46 s u 30 z
    exact ⟨fun y => i1 (j1 y), i2.trans j2⟩
theorem aClear_46 {t : Nat} {v : Int32} (u : Nat) : ((u = t ∨ zI z 4 u 0 = -1) → zI (aClear z t v) 4 u 0 = -1) ∧ zI (aClear z t v) 6 u 0 = zI z 6 u 0 := by
  unfold aClear
  obtain ⟨i1, i2⟩ := aGr_46 u 50 0 (aWipe z t v)
  refine ⟨fun y => i1 ?_, i2.trans ?_⟩
  · rw [aWipe_I]
    by_cases c : u = t
    · simp [c]
    · simp [c]
      rcases y with y | y
      · exact absurd y c
      · exact y
  · rw [aWipe_I]
    by_cases c : u = t
    · simp [c]
    · simp [c]
theorem aYg_t {t : Nat} {l : List Nat} (t1 : 1 ≤ t) : aYg z (t :: l) t = aYg z (t :: l) 0 := by
  show aYg z l (if t = 0 ∨ zI z 7 t 0 < zI z 7 t 0 ∨ (zI z 7 t 0 = zI z 7 t 0 ∧ t < t) then t else t) = aYg z l (if 0 = 0 ∨ zI z 7 0 0 < zI z 7 t 0 ∨ (zI z 7 t 0 = zI z 7 0 0 ∧ 0 < t) then t else 0)
  rw [if_pos (Or.inl rfl), ite_self]
theorem V_breakRings {t mc ms : Nat} {post : Int32 → Hp → Prop} (c : CI g Y P h0 h x D E C L) (a : Cz h L B D W z) (o : Zo z) (hg : ∀ t k : Nat, 1 ≤ t → t ≤ zn z → 2 ≤ k → k ≤ 7 → B t k ≠ g.2.2 1) (t1 : 1 ≤ t) (t2 : t ≤ zn z) (hmc : 240 ≤ mc) (hms : 4800 ≤ ms)
    (hp : ∀ (h' : Hp) (E' C' : Nat → Nat) (L' : Nat → List Nat) (W' : List Nat), L' 0 = L 0 → (L' 1).length ≤ (L 1).length → CI g Y P h0 h' x D E' C' L' → Cz h' L' B D W' (aBrk t 30 z).2 → post (aBrk t 30 z).1 h') : wp_S_breakRings g post mc ms h x (Ta (L 0) t) := by
  have e12 : hI h (Ta (L 0) t) 12 = zI z 6 t 0 := (a.1.1.2.2.1 t t1 t2).2.2.2.2.2
  have cl : ∀ {L' : Nat → List Nat} {W' : List Nat} {h' : Hp} {z' : Zs}, CZ h' L' B D W' z' → (L' 1).length = W'.length := fun a => by rw [a.2.2.1, List.length_map]
  obtain ⟨bef, hb⟩ : ∃ v : Int32, v = zI z 6 t 0 := ⟨_, rfl⟩
  -- behind the loop
  have out : ∀ (z' : Zs) (h : Hp) (E C : Nat → Nat) (L' : Nat → List Nat) (W' : List Nat) (kc ks : Nat), L' 0 = L 0 → CI g Y P h0 h x D E C L' → Cz h L' B D W' z' → zn z' = zn z → post (if zI z' 6 t 0 = bef then (if zI z' 3 t 0 = 1 then 0 else 1) else -1) h → wp_S_breakRings_66 g post mc ms h kc ks (Ta (L 0) t) bef := fun z' h E C L' W' kc ks e0 c a en hq => by
    have kt := c.kT (Ta_P c t1 (by rw [a.1.1.1, en]; exact t2))
    obtain ⟨-, -, q9, -, -, q12⟩ := a.1.1.2.2.1 t t1 (by omega)
    rw [e0] at kt q9 q12
    unfold wp_S_breakRings_66 wp_S_breakRings_89
    rw [q12, q9]
    refine ⟨kt, fun y => ⟨kt, fun y2 => ?_, fun y2 => ?_⟩, fun y => ?_⟩
    · rw [if_pos y, if_neg y2] at hq; exact hq
    · rw [if_pos y, if_pos y2] at hq; exact hq
    · rw [if_neg y] at hq; exact hq
  have loop : ∀ (d i : Nat) (z' : Zs) (h : Hp) (E C : Nat → Nat) (L' : Nat → List Nat) (W' : List Nat) (kc ks : Nat), i + d = 30 → L' 0 = L 0 → W'.length ≤ W.length → CI g Y P h0 h x D E C L' → Cz h L' B D W' z' → Zo z' → zn z' = zn z → kc + 8 * d ≤ mc → ks + 160 * d ≤ ms → ((zI z' 6 t 0 = bef ∧ aBrk t d z' = aBrk t 30 z) ∨ (zI z' 4 t 0 = -1 ∧ zI z' 6 t 0 = bef + 1 ∧ aBrk t 30 z = (-1, z'))) → wp_S_breakRings_7 g post mc ms (d + 1) h kc ks x (Ta (L 0) t) bef (nI i) := by
    intro d
    induction d with
    | zero =>
      intro i z' h E C L' W' kc ks e e0 wle c a o en k1 k2 hst
      have e : i = 30 := by omega
      subst e
      have q := out z' h E C L' W' kc ks e0 c a en (by
        rcases hst with ⟨q1, q2⟩ | ⟨q1, q2, q3⟩
        · rw [if_pos q1]
          have hp := hp h E C L' W' e0 (by rw [cl a.1, cl ‹Cz _ L B D W z›.1]; exact wle) c
          rw [← q2] at hp
          exact hp a
        · rw [if_neg (by rw [q2]; exact i32_ne bef)]
          have hp := hp h E C L' W' e0 (by rw [cl a.1, cl ‹Cz _ L B D W z›.1]; exact wle) c
          rw [q3] at hp
          exact hp a)
      unfold wp_S_breakRings_7
      exact ⟨fun _ => q, fun y => absurd (by decide) y⟩
    | succ d ih =>
      intro i z' h E C L' W' kc ks e e0 wle c a o en k1 k2 hst
      have h30 : (30 : Int32) = nI 30 := rfl
      have t2' : t ≤ zn z' := by omega
      have o1 := o.1
      have s9 := (o.2.2.2.2.2.1 t t1 (by omega))
      unfold wp_S_breakRings_7
      refine ⟨fun y => ?_, fun _ => ⟨c.sk.kx, D 6, c.sk.f3, c.sk.kx, D 0, c.sk.f1, c.sk.kx, D 5, c.sk.f2, c.sk.k6, 8, 160, by omega, by omega, ?_⟩⟩
      · rw [h30] at y
        have := (nI_leI (by omega) (by omega)).mp y
        omega
      rw [← e0]
      refine V_search c a.1 o (fun t k q1 q2 => hg t k q1 (by omega)) t1 t2' (by omega) (by omega) (fun hf h9 E9 C9 L9 c9 a9 f0 f1 f2 => ⟨fun _ => ?_, fun y => absurd rfl y⟩) (fun R hf h9 E9 C9 L9 c9 a9 f0 f1 f2 => ⟨fun y => absurd y (by decide), fun _ => ?_⟩)
      · have g0 : L9 0 = L 0 := f0.trans e0
        have r9 : Cz h9 L9 B D W' z' := ⟨a9, by rw [f0, f2]; exact a.2⟩
        rw [e0]
        refine out z' h9 E9 C9 L9 W' _ _ g0 c9 r9 en ?_
        have hp := hp h9 E9 C9 L9 W' g0 (by rw [cl a9, cl ‹Cz _ L B D W z›.1]; exact wle) c9
        rcases hst with ⟨q1, q2⟩ | ⟨q1, q2, q3⟩
        · rw [if_pos q1]
          rw [← q2] at hp
          unfold aBrk at hp
          rw [hf] at hp
          by_cases y : zI z' 3 t 0 = 1
          · rw [if_pos y] at hp ⊢; exact hp r9
          · rw [if_neg y] at hp ⊢; exact hp r9
        · rw [if_neg (by rw [q2]; exact i32_ne bef)]
          rw [q3] at hp; exact hp r9
      · have hw : ¬ zI z' 4 t 0 = -1 := fun y => by rw [aFind_no y] at hf; exact nomatch hf
        obtain ⟨q1, q2⟩ : zI z' 6 t 0 = bef ∧ aBrk t (d + 1) z' = aBrk t 30 z := by
          rcases hst with q | q
          · exact q
          · exact absurd q.1 hw
        have st1 := s9.mpr hw
        obtain ⟨R1, l, hRl⟩ := aFind_ok hw t1 t2' hf
        obtain ⟨y1, y2, y3, y4, y5⟩ := aRst_ok o t1 t2' hw hf
        have g0 : L9 0 = L 0 := f0.trans e0
        have ey : aYg z' R t = aYg z' R 0 := by rw [hRl]; exact aYg_t t1
        refine ⟨c9.sk.kx, D 6, c9.sk.f3, c9.sk.k6, ?_⟩
        rw [← f0]
        refine V_youngest c9 a9 o (fun u hu => ⟨(R1 u hu).1, (R1 u hu).2.1⟩) (by rw [f2, f0]) (aOut_len 30 0 _ _ R hf) t1 t2' ?_
        rw [ey]
        have pu := Ta_P c9 y1 (by rw [a9.1.1]; exact y2)
        have e6 : hI h9 (Ta (L9 0) (aYg z' R 0)) 12 = zI z' 6 (aYg z' R 0) 0 := (a9.1.2.2.1 _ y1 y2).2.2.2.2.2
        refine ⟨_, rfl, c9.kT pu, fun x21 e21 => ⟨c9.kT pu, fun h23 e23 => ?_⟩⟩
        rw [e6] at e21
        rw [e21] at e23
        have c23 : CI g Y P h0 h23 x D E9 C9 L9 := by rw [e23]; exact c9.wT pu
        have ar : CA h23 (L9 0) B D (zu (zRi z' R) 6 (aYg z' R 0) 0 (zI z' 6 (aYg z' R 0) 0 + 1)) := by
          rw [e23]; exact a9.1.wT c9 y1 y2 (Or.inr (Or.inr (Or.inr ⟨rfl, rfl⟩)))
        have nr : CN h23 (L9 0) (zu (zRi z' R) 6 (aYg z' R 0) 0 (zI z' 6 (aYg z' R 0) 0 + 1)) := by
          rw [e23]; exact CN.wT (z := zRi z' R) a9.2.1 (by decide) (by decide)
        have z23 : Cz h23 L9 B D W' (zu (zRi z' R) 6 (aYg z' R 0) 0 (zI z' 6 (aYg z' R 0) 0 + 1)) := ⟨⟨ar, nr, a9.2.2⟩, by rw [f2, f0]; exact ⟨rfl, fun u hu => ⟨(R1 u hu).1, (R1 u hu).2.1⟩⟩⟩
        have o23 : Zo (zu (zRi z' R) 6 (aYg z' R 0) 0 (zI z' 6 (aYg z' R 0) 0 + 1)) := zu_o (zRi_o o) y2 (Or.inr (Or.inr (Or.inl rfl)))
        refine ⟨c23.sk.kx, V_letGoR c23 z23 o23 (fun t k q1 q2 => hg t k q1 (by have : zn z' = zn z := en; exact Nat.le_trans q2 (Nat.le_of_eq en))) y1 y2 (by decide) fun h25 L25 W25 k0 w25 c25 a25 x26 e26 => ?_⟩
        rw [nI_1] at e26
        subst e26
        rw [f0, e0]
        have a25' : Cz h25 L25 B D W25 (aRst z' R) := a25
        refine ih (i + 1) (aRst z' R) h25 E9 C9 L25 W25 _ _ (by omega) (k0.trans g0) (Nat.le_trans w25 wle) c25 a25' y4 (y5.trans en) (by omega) (by omega) ?_
        unfold aBrk at q2
        rw [if_pos st1, hf] at q2
        have q2 : (if aYg z' R 0 = t then ((-1 : Int32), aRst z' R) else aBrk t d (aRst z' R)) = aBrk t 30 z := q2
        have cc := aClear_46 (z := zu (zRi z' R) 6 (aYg z' R 0) 0 (zI z' 6 (aYg z' R 0) 0 + 1)) (t := aYg z' R 0) (v := 0) t
        have c6 : zI (aRst z' R) 6 t 0 = if aYg z' R 0 = t then bef + 1 else bef := by
          refine cc.2.trans ?_
          rw [zu_I]
          by_cases yt : aYg z' R 0 = t
          · rw [if_pos ⟨rfl, yt.symm, rfl⟩, if_pos yt, yt, q1]
          · rw [if_neg (fun q => yt q.2.1.symm), if_neg yt]; exact q1
        by_cases yt : aYg z' R 0 = t
        · rw [if_pos yt] at q2 c6
          exact Or.inr ⟨cc.1 (Or.inl yt.symm), c6, q2.symm⟩
        · rw [if_neg yt] at q2 c6
          exact Or.inl ⟨c6, q2⟩
  have kt := c.kT (Ta_P c t1 (by rw [a.1.1.1]; exact t2))
  unfold wp_S_breakRings
  rw [e12, ← hb]
  exact ⟨kt, 31, loop 30 0 z h E C L W 0 0 rfl rfl (Nat.le_refl _) c a o rfl (by omega) (by omega) (Or.inl ⟨hb.symm, rfl⟩)⟩
end VA
