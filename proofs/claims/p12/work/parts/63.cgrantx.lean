/-! EXACT: the class's grantRows, letGo -/
theorem CW.cut {L1 T W : List Nat} {z z' : Zs} {t : Nat} (w : CW L1 T W z) (hn : zn z' = zn z) (h4 : ∀ u : Nat, 1 ≤ u → u ≤ zn z → zI z' 4 u 0 = if u = t then -1 else zI z 4 u 0) (hq : ∀ r : Nat, r < 50 → zQ z' r = (zQ z r).erase t) : CW ((W.erase t).map (Ta T)) T (W.erase t) z' := by
  obtain ⟨w1, w2, w3, w4⟩ := w
  refine ⟨rfl, w2.erase t, fun u => ?_, fun r hr => ?_⟩
  · rw [w2.mem_erase_iff, w3 u, hn]
    constructor
    · rintro ⟨q1, q2, q3, q4⟩
      refine ⟨q2, q3, ?_⟩
      rw [h4 u q2 q3, if_neg q1]; exact q4
    · rintro ⟨q1, q2, q3⟩
      rw [h4 u q1 q2] at q3
      by_cases c : u = t
      · rw [if_pos c] at q3; exact absurd rfl q3
      · rw [if_neg c] at q3; exact ⟨c, q1, q2, q3⟩
  · rw [hq r hr, ← w4 r hr, List.Nodup.erase_eq_filter (show (W.filter _).Nodup from List.Pairwise.filter _ w2), List.Nodup.erase_eq_filter w2, List.filter_filter, List.filter_filter]
    refine List.filter_congr fun u hu => ?_
    obtain ⟨q1, q2, q3⟩ := (w3 u).mp hu
    rw [h4 u q1 q2]
    by_cases c : u = t
    · rw [if_pos c, decide_eq_false (nIm1 (by omega))]
      simp [c]
    · rw [if_neg c, Bool.and_comm]
theorem give_Zf (z : Zs) (t s : Nat) : Zf (aStop (zu z 0 t s (zI z 5 t 0)) t) (aGive z t s) := by
  have e : ∀ f u r : Nat, zI (aStop (zu z 0 t s (zI z 5 t 0)) t) f u r = if f = 5 ∧ u = t ∧ r = 0 then -1 else if f = 4 ∧ u = t ∧ r = 0 then -1 else if f = 3 ∧ u = t ∧ r = 0 then 0 else if f = 0 ∧ u = t ∧ r = s then zI z 5 t 0 else zI z f u r := fun f u r => rfl
  refine ⟨rfl, fun u r _ _ _ => ⟨?_, ?_, ?_, rfl⟩, fun u _ _ => ⟨?_, ?_, fun _ => ?_, ?_, ?_⟩, fun r _ => rfl⟩
  · rw [aGive_I, e]
    by_cases c : u = t
    · by_cases d : r = s
      · simp [c, d]
      · simp [c, d]
    · simp [c]
  all_goals
    rw [aGive_I, e]
    by_cases c : u = t <;> simp [c]
theorem wipe_Zf (z : Zs) (t : Nat) (v : Int32) : Zf (zu (aStop (aW z t 50) t) 3 t 0 v) (aWipe z t v) := by
  have e : ∀ f u r : Nat, zI (zu (aStop (aW z t 50) t) 3 t 0 v) f u r = if f = 3 ∧ u = t ∧ r = 0 then v else if f = 5 ∧ u = t ∧ r = 0 then -1 else if f = 4 ∧ u = t ∧ r = 0 then -1 else if f = 3 ∧ u = t ∧ r = 0 then 0 else zI (aW z t 50) f u r := fun f u r => rfl
  refine ⟨rfl, fun u r _ _ hr => ⟨?_, ?_, ?_, rfl⟩, fun u _ _ => ⟨?_, ?_, fun _ => ?_, ?_, ?_⟩, fun r _ => rfl⟩
  all_goals
    rw [aWipe_I, e, aW_I]
    by_cases c : u = t
    · simp [c]
      try omega
    · simp [c]
theorem wipe_Q {z : Zs} {t : Nat} {v : Int32} (r : Nat) : zQ (aWipe z t v) r = (zQ z r).erase t := rfl
theorem give_Q {z : Zs} {t s : Nat} (o : Zo z) (hs : s < 50) (ht : t ∈ zQ z s) (r : Nat) (hr : r < 50) : zQ (aGive z t s) r = (zQ z r).erase t := by
  rw [aGive_Q]
  by_cases c : r = s
  · rw [if_pos c, c]
  · rw [if_neg c, List.erase_of_not_mem]
    intro y
    have h1 := ((o.2.2.2.1 r t hr).mp y).2.2
    have h2 := ((o.2.2.2.1 s t hs).mp ht).2.2
    exact nI_ne hr hs c (h1.symm.trans h2)
section VG
variable {g : Gm} {Y P : Nat → Prop} {h0 h : Hp} {x : Nat} {D E C : Nat → Nat} {L : Nat → List Nat} {B : Nat → Nat → Nat} {z : Zs} {W : List Nat}
/-- all that the class holds of the abstract state -/
def CZ (h : Hp) (L : Nat → List Nat) (B : Nat → Nat → Nat) (D : Nat → Nat) (W : List Nat) (z : Zs) : Prop := CA h (L 0) B D z ∧ CN h (L 0) z ∧ CW (L 1) (L 0) W z
theorem V_grantRows {post : Hp → Prop} (c : CI g Y P h0 h x D E C L) (a : CZ h L B D W z) (o : Zo z) (hg : ∀ t k : Nat, 1 ≤ t → t ≤ zn z → 2 ≤ k → k ≤ 7 → B t k ≠ g.2.2 1)
    (hp : ∀ (h' : Hp) (L' : Nat → List Nat) (W' : List Nat), (∀ j : Nat, j ≠ 1 → L' j = L j) → W'.length ≤ W.length → CI g Y P h0 h' x D E C L' → CZ h' L' B D W' (aGr z 50 0) → post h') : wp_S_grantRows g post h x := by
  have h50 : (50 : Int32) = nI 50 := rfl
  have h30 : (30 : Int32) = nI 30 := rfl
  have inner : ∀ (K2 : Hp → Nat → Int32 → Prop) (s : Nat) (zt : Zs), s < 50 → (∀ (h' : Hp) (L' : Nat → List Nat) (W' : List Nat), (∀ j : Nat, j ≠ 1 → L' j = L j) → W'.length ≤ W.length → CI g Y P h0 h' x D E C L' → CZ h' L' B D W' zt → K2 h' x (nI (s + 1))) →
      ∀ (d i : Nat) (z' : Zs) (h : Hp) (L' : Nat → List Nat) (W' : List Nat) (v : Option Nat), i + d = 30 → (∀ j : Nat, j ≠ 1 → L' j = L j) → W'.length ≤ W.length → CI g Y P h0 h x D E C L' → CZ h L' B D W' z' → Zo z' → zn z' = zn z → aGrantS z' s d = zt → ((zQ z' s = [] ∧ v = none) ∨ ∃ t l, zQ z' s = t :: l ∧ v = some (Ta (L' 0) t)) → wp_S_grantRows_19 g post K2 (d + 1) h x (nI s) v (nI i) := by
    intro K2 s zt hs hK d
    induction d with
    | zero =>
      intro i z' h L' W' v e hj wl c a o en et hv
      have e : i = 30 := by omega
      subst e
      have et : z' = zt := et
      subst et
      unfold wp_S_grantRows_19 wp_S_grantRows_81
      refine ⟨fun _ x1 e1 => ?_, fun y => absurd (by decide) y⟩
      rw [nI_1] at e1; subst e1; exact hK h L' W' hj wl c a
    | succ d ih =>
      intro i z' h L' W' v e hj wl c a o en et hv
      unfold wp_S_grantRows_19 wp_S_grantRows_81
      have o1 := o.1
      rcases hv with ⟨hq, hv⟩ | ⟨t, l, hq, hv⟩
      · rw [aGrantS_nil hq] at et
        subst et
        have out : ∀ x1 : Int32, x1 = nI s + 1 → K2 h x x1 := fun x1 e1 => by rw [nI_1] at e1; subst e1; exact hK h L' W' hj wl c a
        exact ⟨fun _ => out, fun _ => ⟨fun _ => out, fun t ht => by rw [hv] at ht; exact nomatch ht⟩⟩
      · rw [aGrantS_cons hq] at et
        have hin : t ∈ zQ z' s := by rw [hq]; exact List.mem_cons_self ..
        obtain ⟨t1, t2, t3⟩ := (o.2.2.2.1 s t hs).mp hin
        have hw : ¬ zI z' 4 t 0 = -1 := by rw [t3]; exact nI_nm1 (by omega)
        have pt := Ta_P c t1 (by rw [a.1.1]; exact t2)
        have e14 : hI h (Ta (L' 0) t) 14 = zI z' 5 t 0 := (a.1.2.2.1 t t1 t2).2.2.2.2.1 hw
        have wv := o.2.2.2.2.2.2.1 t t1 (by omega) hw
        have wn1 : ¬ zI z' 5 t 0 = -1 := by rcases wv with q | q | q <;> rw [q] <;> decide
        refine ⟨fun y => ?_, fun _ => ⟨(fun y => by rw [hv] at y; exact nomatch y), fun t' et' => ?_⟩⟩
        · rw [h30] at y
          have := (nI_leI (by omega) (by omega)).mp y
          omega
        rw [hv] at et'
        have et' : Ta (L' 0) t = t' := Option.some.inj et'
        subst et'
        rw [e14]
        refine ⟨c.kT pt, c.sk.kx, V_canHave c a.1 o t1 t2 hs wv ⟨fun cf => ?_, fun cf x1 e1 => ?_⟩⟩
        · have cf' : aFree z' t s (zI z' 5 t 0) (zn z') = true := by
            cases q : aFree z' t s (zI z' 5 t 0) (zn z')
            · rw [q] at cf; exact absurd rfl cf
            · rfl
          rw [if_pos cf'] at et
          refine ⟨c.sk.kx, D 5, c.sk.f2, c.sk.k5, V_leave c a.1 a.2.1 a.2.2 (fun t k q1 q2 => hg t k q1 (by omega)) t1 t2 fun h11 L11 j11 w11 c11 a11 n11 => ?_⟩
          have e0 : L11 0 = L' 0 := j11 0 (by decide)
          rw [← e0] at a11 n11 w11 pt e14 ⊢
          have e14' : hI h11 (Ta (L11 0) t) 14 = zI z' 5 t 0 := (a11.2.2.1 t t1 t2).2.2.2.2.1 hw
          rw [e14']
          refine ⟨c11.kT pt, c11.kT pt, V_take c11 a11 n11 t1 t2 hs wn1 fun h14 c14 a14 n14 => ⟨c14.kT pt, V_stop c14 a14 n14 t1 t2 fun h16 c16 a16 n16 => ⟨c16.sk.kx, D 5, c16.sk.f2, c16.sk.k5, ?_⟩⟩⟩
          have z16 : CZ h16 L11 B D (W'.erase t) (aGive z' t s) := by
            refine ⟨a16.congr (by exact o1) (give_Zf z' t s), n16.congr (by exact o1) (give_Zf z' t s), ?_⟩
            rw [w11]
            have w' := a.2.2
            rw [← e0] at w'
            refine w'.cut rfl (fun u u1 u2 => ?_) (fun r hr => give_Q o hs hin r hr)
            rw [aGive_I]
            by_cases c : u = t <;> simp [c]
          have og := aGive_o o hs hin
          have nx : ∀ v : Option Nat, ((zQ (aGive z' t s) s = [] ∧ v = none) ∨ ∃ t' l', zQ (aGive z' t s) s = t' :: l' ∧ v = some (Ta (L11 0) t')) → ∀ x22 : Int32, x22 = nI i + 1 → wp_S_grantRows_19 g post K2 (d + 1) h16 x (nI s) v x22 := fun v hv x22 e22 => by
            rw [nI_1] at e22; subst e22
            exact ih (i + 1) (aGive z' t s) h16 L11 (W'.erase t) v (by omega) (fun j hj' => (j11 j hj').trans (hj j hj')) (Nat.le_trans (List.length_erase_le ..) wl) c16 z16 og en et hv
          exact V_first c16 z16.1 z16.2.2 hs (fun q => nx none (Or.inl ⟨q, rfl⟩)) (fun t' l' q => nx _ (Or.inr ⟨t', l', q, rfl⟩))
        · have cf' : ¬ aFree z' t s (zI z' 5 t 0) (zn z') = true := fun q => by rw [q] at cf; exact absurd cf (by decide)
          rw [if_neg cf'] at et
          subst et
          rw [nI_1] at e1; subst e1; exact hK h L' W' hj wl c a
  have outer : ∀ (d s : Nat) (z' : Zs) (h : Hp) (L' : Nat → List Nat) (W' : List Nat), s + d = 50 → (∀ j : Nat, j ≠ 1 → L' j = L j) → W'.length ≤ W.length → CI g Y P h0 h x D E C L' → CZ h L' B D W' z' → Zo z' → zn z' = zn z → aGr z' d s = aGr z 50 0 → wp_S_grantRows_2 g post (d + 1) h x (nI s) := by
    intro d
    induction d with
    | zero =>
      intro s z' h L' W' e hj wl c a o en ez
      have e : s = 50 := by omega
      subst e
      have ez : z' = aGr z 50 0 := ez
      unfold wp_S_grantRows_2
      exact ⟨fun _ => hp h L' W' hj wl c (by rw [← ez]; exact a), fun y => absurd (by decide) y⟩
    | succ d ih =>
      intro s z' h L' W' e hj wl c a o en ez
      unfold wp_S_grantRows_2
      refine ⟨fun y => ?_, fun _ => ⟨c.sk.kx, D 5, c.sk.f2, c.sk.k5, ?_⟩⟩
      · rw [h50] at y
        have := (nI_leI (by omega) (by omega)).mp y
        omega
      · obtain ⟨g1, g2⟩ := aGrantS_o s (by omega) 30 z' o
        have go : ∀ v : Option Nat, ((zQ z' s = [] ∧ v = none) ∨ ∃ t l, zQ z' s = t :: l ∧ v = some (Ta (L' 0) t)) → ∃ n : Nat, wp_S_grantRows_19 g post (fun h v0 v1 => wp_S_grantRows_2 g post (d + 1) h v0 v1) n h x (nI s) v 0 := fun v hv => ⟨31, inner _ s (aGrantS z' s 30) (by omega) (fun h' L'' W'' j'' wl'' c'' a'' => ih (s + 1) _ h' L'' W'' (by omega) j'' wl'' c'' a'' g1 (g2.trans en) ez) 30 0 z' h L' W' v rfl hj wl c a o en rfl hv⟩
        exact V_first c a.1 a.2.2 (by omega) (fun q => go none (Or.inl ⟨q, rfl⟩)) (fun t l q => go _ (Or.inr ⟨t, l, q, rfl⟩))
  unfold wp_S_grantRows
  exact ⟨51, outer 50 0 z h L W rfl (fun _ _ => rfl) (Nat.le_refl _) c a o rfl rfl⟩
theorem V_letGo {t : Nat} {v : Int32} {post : Hp → Prop} (c : CI g Y P h0 h x D E C L) (a : CZ h L B D W z) (o : Zo z) (hg : ∀ t k : Nat, 1 ≤ t → t ≤ zn z → 2 ≤ k → k ≤ 7 → B t k ≠ g.2.2 1) (t1 : 1 ≤ t) (t2 : t ≤ zn z) (hv : ¬ v = 1)
    (hp : ∀ (h' : Hp) (L' : Nat → List Nat) (W' : List Nat), (∀ j : Nat, j ≠ 1 → L' j = L j) → W'.length ≤ W.length → CI g Y P h0 h' x D E C L' → CZ h' L' B D W' (aClear z t v) → post h') : wp_S_letGo g post h x (Ta (L 0) t) v := by
  have o1 := o.1
  have pt := Ta_P c t1 (by rw [a.1.1]; exact t2)
  unfold wp_S_letGo
  refine ⟨c.sk.kx, D 5, c.sk.f2, c.sk.k5, V_leave c a.1 a.2.1 a.2.2 hg t1 t2 fun h4 L4 j4 w4 c4 a4 n4 => ?_⟩
  have e0 : L4 0 = L 0 := j4 0 (by decide)
  rw [← e0] at a4 n4 w4 pt ⊢
  refine ⟨c4.kT pt, V_forget c4 a4 n4 o1 t1 t2 fun h6 c6 a6 n6 => ⟨c6.kT pt, fun h8 e8 => ?_⟩⟩
  have c8 : CI g Y P h0 h8 x D E C L4 := by rw [e8]; exact c6.wT pt
  have a8 : CA h8 (L4 0) B D (aWipe z t v) := by
    rw [e8]
    exact CA.congr (a6.wT c6 t1 t2 (Or.inl ⟨rfl, rfl⟩)) o1 (wipe_Zf z t v)
  have n8 : CN h8 (L4 0) (aWipe z t v) := by
    rw [e8]
    exact CN.congr (n6.wT (by decide) (by decide)) o1 (wipe_Zf z t v)
  have w8 : CW (L4 1) (L4 0) (W.erase t) (aWipe z t v) := by
    rw [w4]
    have w' := a.2.2
    rw [← e0] at w'
    refine w'.cut rfl (fun u u1 u2 => ?_) (fun r _ => wipe_Q r)
    rw [aWipe_I]
    by_cases c : u = t <;> simp [c]
  exact ⟨c8.sk.kx, V_grantRows c8 ⟨a8, n8, w8⟩ (aWipe_o o t1 t2 hv) hg fun h' L' W' j' wl' c' a' => hp h' L' W' (fun j hj => (j' j hj).trans (j4 j hj)) (Nat.le_trans wl' (List.length_erase_le ..)) c' a'⟩
end VG
