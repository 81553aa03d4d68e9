/-! EXACT: the class's task -/
theorem Y_fillx {g : Gm} {h : Hp} {a : Nat} {v : Int32} {post : Hp → Prop} (ha : hK h a = 21) (hna : hN h a = 50) (hp : ∀ h' : Hp, Sm h h' → (∀ b : Nat, b ≠ a → hI h' b = hI h b) → (∀ j : Nat, j < 50 → hI h' a j = v) → post h') : wp_Y_fill g post h a v := by
  have loop : ∀ (d i : Nat) (h' : Hp), i + d = 50 → Sm h h' → (∀ b : Nat, b ≠ a → hI h' b = hI h b) → (∀ j : Nat, j < i → hI h' a j = v) → wp_Y_fill_5 g post (d + 1) h' a v (nI i) (nI 50) := by
    intro d
    induction d with
    | zero =>
      intro i h' e sm ob ov
      have e : i = 50 := by omega
      subst e
      unfold wp_Y_fill_5
      exact ⟨fun _ => hp h' sm ob ov, fun z => absurd (nI_le (by omega) (by omega)) z⟩
    | succ d ih =>
      intro i h' e sm ob ov
      unfold wp_Y_fill_5
      refine ⟨fun y => ?_, fun _ => ⟨by rw [sm.1]; exact ha, by rw [sm.2.1, hna]; exact vp_in_nI (by omega) (by omega), fun h3 e3 x4 e4 => ?_⟩⟩
      · have := (nI_leI (by omega) (by omega)).mp y
        omega
      · rw [nI_clamp (by omega)] at e3
        subst e3
        rw [nI_1] at e4
        subst e4
        refine ih (i + 1) _ (by omega) ⟨sm.1, sm.2.1, sm.2.2.1, sm.2.2.2⟩ (fun b hb => (sI_o hb).trans (ob b hb)) fun j hj => ?_
        rw [rI_sI]
        by_cases c : j = i
        · rw [if_pos ⟨rfl, c⟩]
        · rw [if_neg (fun q => c q.2)]; exact ov j (by omega)
  unfold wp_Y_fill
  exact ⟨nI 50, Or.inl ⟨by rw [ha]; decide, by rw [ha]; decide, by rw [hna]⟩, 51, loop 50 0 h rfl ⟨rfl, rfl, rfl, rfl⟩ (fun _ _ => rfl) (fun j hj => absurd hj (by omega))⟩
def Ub (g : Gm) (hb h : Hp) (t : Nat) (Q : Nat → Nat) (T : List (Nat × Nat)) : Prop := hK h t = 4 ∧ Fr (fun b => b = t) hb h ∧ (∀ p ∈ T, hR h t p.1 = some (Q p.1) ∧ hK h (Q p.1) = p.2 ∧ hN h (Q p.1) = 50 ∧ p.2 ≠ 0 ∧ hK hb (Q p.1) = 0 ∧ g.2.2 0 ≤ Q p.1 ∧ ∀ j : Nat, hI h (Q p.1) j = 0 ∧ hJ h (Q p.1) j = 0) ∧ (∀ p ∈ T, ∀ p' ∈ T, Q p.1 = Q p'.1 → p.1 = p'.1)
theorem Ub.step {g : Gm} {hb h : Hp} {t k kd q : Nat} {Q : Nat → Nat} {T : List (Nat × Nat)} (b : Ub g hb h t Q T) (hk : ∀ p ∈ T, p.1 ≠ k) (hkd : kd ≠ 0) (hq : hK h q = 0) (gq : g.2.2 0 ≤ q) : Ub g hb (sR (mkC h q kd 50) t k (some q)) t (va_up Q k q) ((k, kd) :: T) := by
  obtain ⟨b1, b2, b3, b4⟩ := b
  have hqt : t ≠ q := fun z => by rw [← z, b1] at hq; exact absurd hq (by decide)
  have hqb : hK hb q = 0 := by
    by_cases z : hK hb q = 0
    · exact z
    · rw [(b2 q z).1] at hq; exact absurd hq z
  have hne : ∀ p ∈ T, Q p.1 ≠ q := fun p e z => by
    obtain ⟨-, c2, -, c4, -⟩ := b3 p e
    rw [z, hq] at c2; exact c4 c2.symm
  refine ⟨by rw [kK_sR, mK_mk, if_neg hqt]; exact b1, (b2.trans (Fr.mk hq)).trans (Fr.sR rfl), fun p hp => ?_, fun p hp p' hp' e => ?_⟩
  · rcases List.mem_cons.mp hp with e | e
    · subst e
      rw [va_up_self]
      exact ⟨by rw [rR_sR, if_pos ⟨rfl, rfl⟩], by rw [kK_sR, mK_mk, if_pos rfl], by rw [kN_sR, mN_mk, if_pos rfl], hkd, hqb, gq, fun j => ⟨by rw [kI_sR, mI_mk, if_pos rfl], by rw [kJ_sR, mJ_mk, if_pos rfl]⟩⟩
    · obtain ⟨c1, c2, c3, c4, c5, c6, c7⟩ := b3 p e
      have ne := hne p e
      rw [va_up_ne _ _ (hk p e)]
      exact ⟨by rw [rR_sR, if_neg (fun z => hk p e z.2), mR_mk, if_neg hqt]; exact c1, by rw [kK_sR, mK_mk, if_neg ne]; exact c2, by rw [kN_sR, mN_mk, if_neg ne]; exact c3, c4, c5, c6, fun j => ⟨by rw [kI_sR, mI_mk, if_neg ne]; exact (c7 j).1, by rw [kJ_sR, mJ_mk, if_neg ne]; exact (c7 j).2⟩⟩
  · rcases List.mem_cons.mp hp with e1 | e1
    · rcases List.mem_cons.mp hp' with e2 | e2
      · rw [e1, e2]
      · rw [e1, va_up_self, va_up_ne _ _ (hk p' e2)] at e
        exact absurd e.symm (hne p' e2)
    · rcases List.mem_cons.mp hp' with e2 | e2
      · rw [e2, va_up_self, va_up_ne _ _ (hk p e1)] at e
        exact absurd e (hne p e1)
      · rw [va_up_ne _ _ (hk p e1), va_up_ne _ _ (hk p' e2)] at e
        exact b4 p e1 p' e2 e
theorem Ub.wI {g : Gm} {hb h : Hp} {t k : Nat} {v : Int32} {Q : Nat → Nat} {T : List (Nat × Nat)} (ht : hK hb t = 4) (b : Ub g hb h t Q T) : Ub g hb (sI h t k v) t Q T := by
  obtain ⟨b1, b2, b3, b4⟩ := b
  refine ⟨b1, b2.trans (Fr.sI rfl), fun p hp => ?_, b4⟩
  obtain ⟨c1, c2, c3, c4, c5, c6, c7⟩ := b3 p hp
  have ne : Q p.1 ≠ t := fun z => by rw [z, ht] at c5; exact absurd c5 (by decide)
  exact ⟨c1, c2, c3, c4, c5, c6, fun j => ⟨by rw [sI_o ne]; exact (c7 j).1, (c7 j).2⟩⟩
/-- a new task as it is made -/
def Un1 (g : Gm) (hb h : Hp) (t : Nat) (Q : Nat → Nat) (i1 i2 : Int32) : Prop := (∀ k : Nat, 2 ≤ k → k ≤ 7 → hR h t k = some (Q k) ∧ hK hb (Q k) = 0 ∧ g.2.2 0 ≤ Q k ∧ 20 < hK h (Q k) ∧ hK h (Q k) < 24) ∧ (∀ k l : Nat, 2 ≤ k → k ≤ 7 → 2 ≤ l → l ≤ 7 → Q k = Q l → k = l) ∧ (hI h t 0 = i1 ∧ hI h t 1 = i2 ∧ hI h t 9 = 0 ∧ hI h t 10 = 0 ∧ hI h t 11 = 0 ∧ hI h t 12 = 0 ∧ hI h t 13 = -1) ∧ (∀ j : Nat, j < 50 → hI h (Q 2) j = -1 ∧ hI h (Q 3) j = 0 ∧ hI h (Q 4) j = 0 ∧ hJ h (Q 5) j = 0)
theorem U_init {g : Gm} {hb : Hp} {t mc ms : Nat} {i1 i2 : Int32} {post : Hp → Prop} (ht : hK hb t = 4) (hmc : 6 ≤ mc) (hms : 300 ≤ ms) (hp : ∀ (h' : Hp) (Q : Nat → Nat), Tb hb h' t TA.reverse → Un1 g hb h' t Q i1 i2 → post h') : wp_T_init g post mc ms hb t i1 i2 := by
  have b0 : Ub g hb hb t (fun _ => 0) [] := ⟨ht, Fr.rfl', fun _ hp => (nomatch hp), fun _ hp => (nomatch hp)⟩
  unfold wp_T_init
  refine ⟨by omega, by omega, fun q1 z1 y1 h1 e1 => ?_⟩
  subst e1
  have b1 := Ub.step (k := 2) (kd := 21) b0 (by decide) (by decide) z1 y1
  refine ⟨b1.1, fun g1 f1 => ?_⟩
  rw [← f1] at b1
  clear f1 b0 z1
  refine ⟨by omega, by omega, fun q2 z2 y2 h2 e2 => ?_⟩
  subst e2
  have b2 := Ub.step (k := 3) (kd := 23) b1 (by decide) (by decide) z2 y2
  refine ⟨b2.1, fun g2 f2 => ?_⟩
  rw [← f2] at b2
  clear f2 b1 z2
  refine ⟨by omega, by omega, fun q3 z3 y3 h3 e3 => ?_⟩
  subst e3
  have b3 := Ub.step (k := 4) (kd := 23) b2 (by decide) (by decide) z3 y3
  refine ⟨b3.1, fun g3 f3 => ?_⟩
  rw [← f3] at b3
  clear f3 b2 z3
  refine ⟨by omega, by omega, fun q4 z4 y4 h4 e4 => ?_⟩
  subst e4
  have b4 := Ub.step (k := 5) (kd := 22) b3 (by decide) (by decide) z4 y4
  refine ⟨b4.1, fun g4 f4 => ?_⟩
  rw [← f4] at b4
  clear f4 b3 z4
  refine ⟨by omega, by omega, fun q5 z5 y5 h5 e5 => ?_⟩
  subst e5
  have b5 := Ub.step (k := 6) (kd := 23) b4 (by decide) (by decide) z5 y5
  refine ⟨b5.1, fun g5 f5 => ?_⟩
  rw [← f5] at b5
  clear f5 b4 z5
  refine ⟨by omega, by omega, fun q6 z6 y6 h6 e6 => ?_⟩
  subst e6
  have b6 := Ub.step (k := 7) (kd := 22) b5 (by decide) (by decide) z6 y6
  refine ⟨b6.1, fun g6 f6 => ?_⟩
  rw [← f6] at b6
  clear f6 b5 z6
  obtain ⟨Q, hQ⟩ : ∃ Q, Q = va_up (va_up (va_up (va_up (va_up (va_up (fun _ => 0) 2 q1) 3 q2) 4 q3) 5 q4) 6 q5) 7 q6 := ⟨_, rfl⟩
  rw [← hQ] at b6
  refine ⟨b6.1, Or.inl rfl, fun v6 w6 => ⟨by rw [w6]; exact b6.1, fun v7 w7 => ⟨by rw [w7, w6]; exact b6.1, fun v8 w8 => ⟨by rw [w8, w7, w6]; exact b6.1, fun v9 w9 => ⟨by rw [w9, w8, w7, w6]; exact b6.1, fun v10 w10 => ⟨by rw [w10, w9, w8, w7, w6]; exact b6.1, fun v11 w11 => ⟨by rw [w11, w10, w9, w8, w7, w6]; exact b6.1, fun v12 w12 => ⟨by rw [w12, w11, w10, w9, w8, w7, w6]; exact b6.1, fun v13 w13 => ⟨by rw [w13, w12, w11, w10, w9, w8, w7, w6]; exact b6.1, fun v14 w14 => ?_⟩⟩⟩⟩⟩⟩⟩⟩⟩
  have bb : Ub g hb v14 t Q [(7, 22), (6, 23), (5, 22), (4, 23), (3, 23), (2, 21)] := by
    rw [w14, w13, w12, w11, w10, w9, w8, w7, w6]
    exact (((((((((b6.wI ht).wI ht).wI ht).wI ht).wI ht).wI ht).wI ht).wI ht).wI ht)
  have ff : hI v14 t 0 = i1 ∧ hI v14 t 1 = i2 ∧ hI v14 t 9 = 0 ∧ hI v14 t 10 = 0 ∧ hI v14 t 11 = 0 ∧ hI v14 t 12 = 0 ∧ hI v14 t 13 = -1 := by
    rw [w14, w13, w12, w11, w10, w9, w8, w7, w6]
    simp [rI_sI]
  clear w14 w13 w12 w11 w10 w9 w8 w7 w6
  have c2 := bb.2.2.1 (2, 21) (by decide)
  have nt : ∀ p ∈ [(7, 22), (6, 23), (5, 22), (4, 23), (3, 23), (2, 21)], Q p.1 ≠ t := fun p hp z => by
    have := (bb.2.2.1 p hp).2.2.2.2.1
    rw [z, ht] at this; exact absurd this (by decide)
  refine ⟨bb.1, Q 2, c2.1, Y_fillx c2.2.1 c2.2.2.1 fun h' sm ob ov => hp h' Q ?_ ?_⟩
  · refine ⟨by rw [sm.1]; exact bb.1, fun b hb' => ?_, fun p hp => ?_⟩
    · obtain ⟨f1, f2, f3⟩ := bb.2.1 b hb'
      rw [sm.1, sm.2.1, sm.2.2.1, sm.2.2.2]
      refine ⟨f1, f2, fun hs => ?_⟩
      rw [ob b (fun z => hb' (by rw [z]; exact c2.2.2.2.2.1))]
      exact f3 hs
    · obtain ⟨c1, c2, c3, c4, c5, -⟩ := bb.2.2.1 p hp
      exact ⟨Q p.1, by rw [sm.2.2.1]; exact c1, by rw [sm.1]; exact c2, by rw [sm.2.1]; exact c3, c4, c5⟩
  · have get : ∀ k : Nat, 2 ≤ k → k ≤ 7 → ∃ kd : Nat, (k, kd) ∈ [(7, 22), (6, 23), (5, 22), (4, 23), (3, 23), (2, 21)] ∧ 20 < kd ∧ kd < 24 := fun k k1 k2 => by
      have : k = 2 ∨ k = 3 ∨ k = 4 ∨ k = 5 ∨ k = 6 ∨ k = 7 := by omega
      rcases this with q | q | q | q | q | q <;> subst q
      · exact ⟨21, by decide, by decide⟩
      · exact ⟨23, by decide, by decide⟩
      · exact ⟨23, by decide, by decide⟩
      · exact ⟨22, by decide, by decide⟩
      · exact ⟨23, by decide, by decide⟩
      · exact ⟨22, by decide, by decide⟩
    have inj : ∀ k l : Nat, 2 ≤ k → k ≤ 7 → 2 ≤ l → l ≤ 7 → Q k = Q l → k = l := fun k l k1 k2 l1 l2 e => by
      obtain ⟨kd, m1, -⟩ := get k k1 k2
      obtain ⟨ld, m2, -⟩ := get l l1 l2
      exact bb.2.2.2 _ m1 _ m2 e
    have n3 : ∀ k : Nat, 3 ≤ k → k ≤ 7 → Q k ≠ Q 2 := fun k k1 k2 e => by
      have := inj k 2 (by omega) k2 (by omega) (by omega) e
      omega
    refine ⟨fun k k1 k2 => ?_, inj, ?_, fun j hj => ⟨ov j hj, ?_, ?_, ?_⟩⟩
    · obtain ⟨kd, m1, m2, m3⟩ := get k k1 k2
      obtain ⟨c1, c2, c3, c4, c5, c6, -⟩ := bb.2.2.1 _ m1
      rw [sm.2.2.1, sm.1]
      exact ⟨c1, c5, c6, by rw [c2]; exact ⟨m2, m3⟩⟩
    · rw [ob t (fun z => nt (2, 21) (by decide) z.symm)]; exact ff
    · rw [ob _ (n3 3 (by omega) (by omega))]; exact ((bb.2.2.1 (3, 23) (by decide)).2.2.2.2.2.2 j).1
    · rw [ob _ (n3 4 (by omega) (by omega))]; exact ((bb.2.2.1 (4, 23) (by decide)).2.2.2.2.2.2 j).1
    · rw [sm.2.2.2]; exact ((bb.2.2.1 (5, 22) (by decide)).2.2.2.2.2.2 j).2
