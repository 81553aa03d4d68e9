/-! EXACT: the class's askForLock -/
theorem CW.same {L1 T W : List Nat} {z z' : Zs} (w : CW L1 T W z) (hn : zn z' = zn z) (h4 : ∀ u : Nat, zI z' 4 u 0 = zI z 4 u 0) (hq : ∀ s : Nat, zQ z' s = zQ z s) : CW L1 T W z' := by
  obtain ⟨w1, w2, w3, w4⟩ := w
  refine ⟨w1, w2, fun t => by rw [hn, h4]; exact w3 t, fun s hs => ?_⟩
  rw [hq, ← w4 s hs]
  exact List.filter_congr fun u _ => by rw [h4]
section VK
variable {g : Gm} {Y P : Nat → Prop} {h0 h : Hp} {x : Nat} {D E C : Nat → Nat} {L : Nat → List Nat} {B : Nat → Nat → Nat} {z : Zs} {W : List Nat}
theorem V_askForLock {t s mc ms : Nat} {v : Int32} {post : Int32 → Hp → Prop} (c : CI g Y P h0 h x D E C L) (a : Cz h L B D W z) (o : Zo z) (hg : ∀ t k : Nat, 1 ≤ t → t ≤ zn z → 2 ≤ k → k ≤ 7 → B t k ≠ g.2.2 1) (t1 : 1 ≤ t) (t2 : t ≤ zn z) (hs : s < 50) (hv : v = 0 ∨ v = 1 ∨ v = 2) (hw : zI z 4 t 0 = -1) (hwl : (L 1).length ≤ 511) (hmc : 241 ≤ mc) (hms : 5349 ≤ ms)
    (hp : ∀ (h' : Hp) (E' C' : Nat → Nat) (L' : Nat → List Nat) (W' : List Nat), L' 0 = L 0 → (L' 1).length ≤ (L 1).length + 1 → CI g Y P h0 h' x D E' C' L' → Cz h' L' B D W' (aAskL z (hI h0 x 4) t s v).2 → post (aAskL z (hI h0 x 4) t s v).1 h') : wp_S_askForLock g post mc ms h x (Ta (L 0) t) (nI s) v := by
  have o1 := o.1
  have pt := Ta_P c t1 (by rw [a.1.1.1]; exact t2)
  have kt := c.kT pt
  obtain ⟨b1, b2, b3, b4⟩ := a.1.1.arr c (k := 2) (kd := 21) t1 t2 (by decide) (by decide) (by decide)
  have e0 := (a.1.1.2.2.2.2.1 t s t1 t2 hs).1
  have e10 := (a.1.2.1 t t1 t2).1
  have lm := c.lm
  obtain ⟨r, hr⟩ : ∃ r, r = aAskL z (hI h0 x 4) t s v := ⟨_, rfl⟩
  rw [← hr] at hp
  have q96 : r = aBrk t 30 (aEnter z t s (aWh z t s) v) → wp_S_askForLock_96 g post mc ms h 0 0 x (Ta (L 0) t) (nI s) v := fun er => by
    unfold wp_S_askForLock_96
    refine ⟨kt, fun h2 e2 => ?_⟩
    have c2 : CI g Y P h0 h2 x D E C L := by rw [e2]; exact c.wT pt
    refine ⟨c2.kT pt, fun h4 e4 => ?_⟩
    have c4 : CI g Y P h0 h4 x D E C L := by rw [e4]; exact c2.wT pt
    refine ⟨c4.kT pt, fun h6 e6 => ?_⟩
    have c6 : CI g Y P h0 h6 x D E C L := by rw [e6]; exact c4.wT pt
    rw [e4, e2] at e6
    have a6 : CA h6 (L 0) B D (aEnter z t s (aWh z t s) v) := by rw [e6]; exact a.1.1.enter c t1 t2
    have n6 : CN h6 (L 0) (aEnter z t s (aWh z t s) v) := by rw [e6]; exact a.1.2.1.enter
    refine ⟨c6.sk.kx, D 5, c6.sk.f2, c6.sk.k5, 1, 549, by omega, by omega, V_enter c6 a6 n6 a.1.2.2 o hg t1 t2 hs hw hwl (by omega) (by omega) fun h10 E' C' L' W' j10 l10 c10 a10 => ⟨c10.sk.kx, 240, 4800, by omega, by omega, ?_⟩⟩
    have f0 : L' 0 = L 0 := j10 0 (by decide)
    have r10 : CR (L' 2) (L' 0) (aEnter z t s (aWh z t s) v) := by rw [f0, j10 2 (by decide)]; exact a.2
    rw [← f0]
    refine V_breakRings c10 ⟨a10, r10⟩ (aEnter_o o t1 t2 hs hw hv) hg t1 t2 (by omega) (by omega) fun h' E2 C2 L2 W2 k0 k1 c2 a2 => ?_
    rw [← er] at a2 ⊢
    exact hp h' E2 C2 L2 W2 (k0.trans f0) (by omega) c2 a2
  have q71 : zI z 0 t s < v → ¬ (zI z 0 t s = -1 ∧ ¬ hI h0 x 4 ≤ 0 ∧ ¬ nI (aHeld z t) < hI h0 x 4) → ∀ y : Int32, (¬ y = 0 ↔ (¬ zI z 0 t s = -1 ∨ zQ z s = [])) → wp_S_askForLock_71 g post mc ms h 0 0 x (Ta (L 0) t) (nI s) v y := fun g1 g2 y hy => by
    unfold aAskL at hr
    rw [if_pos g1, if_neg g2] at hr
    unfold wp_S_askForLock_71
    refine ⟨fun y0 => q96 ?_, fun y0 => ⟨c.sk.kx, V_canHave c a.1.1 o t1 t2 hs hv ⟨fun cf => q96 ?_, fun cf => ⟨kt, V_take c a.1.1 a.1.2.1 t1 t2 hs (by rcases hv with q | q | q <;> rw [q] <;> decide) fun h' c' a' n' => ?_⟩⟩⟩⟩
    · rw [if_neg (fun q => absurd y0 (hy.mpr q.2))] at hr; exact hr
    · rw [if_neg (fun q => by rw [q.1] at cf; exact absurd cf (by decide))] at hr; exact hr
    · have cf' : aFree z t s v (zn z) = true := by
        cases q : aFree z t s v (zn z)
        · rw [q] at cf; exact absurd rfl cf
        · rfl
      rw [if_pos ⟨cf', hy.mp y0⟩] at hr
      subst hr
      exact hp h' E C L W rfl (by omega) c' ⟨⟨a', n', a.1.2.2.same rfl (fun u => by rw [zu_I, if_neg (fun q => absurd q.1 (by decide))]) (fun _ => rfl)⟩, a.2⟩
  have q49 : zI z 0 t s < v → ¬ (zI z 0 t s = -1 ∧ ¬ hI h0 x 4 ≤ 0 ∧ ¬ nI (aHeld z t) < hI h0 x 4) → wp_S_askForLock_49 g post mc ms h 0 0 x (Ta (L 0) t) (nI s) v (zI z 0 t s) := fun g1 g2 => by
    unfold wp_S_askForLock_49 wp_S_askForLock_66
    refine ⟨fun y => q71 g1 g2 1 ⟨fun _ => Or.inl y, fun _ => by decide⟩, fun y => ⟨c.sk.kx, D 5, c.sk.f2, c.sk.k5, V_first c a.1.1 a.1.2.2 hs (fun q => ⟨fun _ => q71 g1 g2 1 ⟨fun _ => Or.inr q, fun _ => by decide⟩, (fun a7 q => nomatch q)⟩) fun u l q => ⟨(fun q => nomatch q), fun a7 _ => q71 g1 g2 0 ⟨fun q' => absurd rfl q', fun q' => ?_⟩⟩⟩⟩
    rcases q' with q' | q'
    · exact absurd y q'
    · rw [q] at q'; exact nomatch q'
  unfold wp_S_askForLock
  refine ⟨kt, B t 2, b1, b2, by rw [b3]; exact vp_in_nI (by omega) (by omega), ?_⟩
  rw [nI_clamp (by omega), e0, lm, e10]
  refine ⟨fun g1 => ⟨fun y => q49 g1 (fun q => y q.1), fun y => ⟨c.sk.kx, fun y2 => q49 g1 (fun q => q.2.1 y2), fun y2 => ⟨kt, c.sk.kx, fun y3 => q49 g1 (fun q => q.2.2 y3), fun y3 => ⟨c.sk.kx, ?_⟩⟩⟩⟩, fun g1 => ?_⟩
  · unfold aAskL at hr
    rw [if_pos g1, if_pos ⟨y, y2, y3⟩] at hr
    have r1 : r.1 = -3 := by rw [hr]
    have r2 : r.2 = aClear z t 2 := by rw [hr]
    rw [r1, r2] at hp
    exact V_letGoR c a o hg t1 t2 (by decide) fun h' L' W' k0 wl c' a' => hp h' E C L' W' k0 (by
      have e1 : (L' 1).length = W'.length := by rw [a'.1.2.2.1]; exact List.length_map ..
      have e2 : (L 1).length = W.length := by rw [a.1.2.2.1]; exact List.length_map ..
      rw [e1, e2]; exact Nat.le_succ_of_le wl) c' a'
  · unfold aAskL at hr
    rw [if_neg g1] at hr
    subst hr
    exact hp h E C L W rfl (by omega) c a
end VK
