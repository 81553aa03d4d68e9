/-! EXACT: the reference's calls, whole -/
section ZM
variable {g : Gm} {Y : Nat → Prop} {h0 h : Hp} {a n r q : Nat} {A : Nat → Nat} {z : Zs}
theorem Z_ask {i1 i2 i3 : Int32} {post : Int32 → Hp → Prop} (m : MI Y h0 h a A n r q) (e : MZ h a A z) (o : Zo z) (hr : r ≤ 2000)
    (hp : ∀ h' : Hp, MI Y h0 h' a A n r 30 → MZ h' a A (cAsk z (hI h a 3) i1 i2 i3).2 → post (cAsk z (hI h a 3) i1 i2 i3).1 h') : wp_M_ask g post h a i1 i2 i3 := by
  have o1 := o.1
  have m2 : MI Y h0 (sI h a 0 0) a A n r q := m.wF (by decide)
  have z2 : MZ (sI h a 0 0) a A z := e.wF m.2.1 (by decide)
  unfold cAsk at hp
  rcases aTk_c (z := z) i1 o1 with ⟨t, t1, t2, e1, ea⟩ | ⟨ea, hn⟩
  · rw [if_neg (by omega), ea] at hp
    obtain ⟨r1, r2, r3⟩ := m2.2.1.row 5 21 31 (by decide)
    rcases aSn_c i2 with ⟨s, hs, e2, es⟩ | ⟨es, hn⟩
    · rw [es] at hp
      by_cases c0 : i3 < 0
      · rw [if_pos (Or.inr (Or.inl c0))] at hp
        have hp := hp _ m2.top z2
        unfold wp_M_ask wp_M_ask_32
        refine ⟨m.2.1.1, fun h2 e2 => ?_⟩
        subst e2
        exact ⟨m2.2.1.1, M_isTask m2.2.1.1 z2.1 o1 (fun _ _ _ _ => ⟨fun _ => M_isSegment (fun _ _ _ => ⟨fun _ => hp, fun _ => ⟨fun _ => hp, fun q => absurd c0 q⟩⟩) (fun _ => ⟨fun _ => hp, fun _ => ⟨fun _ => hp, fun q => absurd c0 q⟩⟩), fun q => absurd q (by decide)⟩) (fun q => absurd e1 (q t t1 t2))⟩
      · by_cases c3 : i3 ≤ 3
        · rw [if_neg (fun y => by rcases y with y | y | y; (exact absurd y (by omega)); exact c0 y; exact y c3)] at hp
          by_cases st : zI z 3 t 0 = 0
          · rw [if_neg (fun y => y st)] at hp
            by_cases n3 : i3 = 3
            · rw [if_pos n3] at hp
              obtain ⟨v1, v2, v3⟩ := m2.2.1.row 11 23 1550 (by decide)
              unfold wp_M_ask wp_M_ask_32
              refine ⟨m.2.1.1, fun h2 e2' => ?_⟩
              subst e2' e1 e2
              refine ⟨m2.2.1.1, M_isTask m2.2.1.1 z2.1 o1 (fun _ _ _ _ => ⟨fun _ => M_isSegment (fun _ _ _ => ⟨fun q => absurd q (by decide), fun _ => ⟨fun q => absurd q c0, fun _ => ⟨fun _ => ⟨m2.2.1.1, A 5, r1, r2, by rw [r3]; exact vp_in_nI (by omega) (by omega), ?_⟩, fun q => absurd c3 q⟩⟩⟩) (fun q => absurd rfl (q s hs)), fun q => absurd q (by decide)⟩) (fun q => absurd rfl (q t t1 t2))⟩
              rw [nI_clamp (n := t) (by omega), (z2.2.2.1 t t1 (by omega)).1]
              refine ⟨fun _ => ⟨fun q => absurd n3 q, fun _ => ⟨m2.2.1.1, A 11, v1, M_of ⟨v2, by rw [v3]; exact vp_in_nI (by omega) (by omega), Or.inr rfl, fun h42 e42 => hp h42 ?_ ?_⟩⟩⟩, fun q => absurd st q⟩
              · rw [e42]; exact (m2.wI (k := 11) (kd := 23) (len := 1550) (by decide) (by decide)).top
              · rw [e42, nI_clamp (n := 50 * t + s) (by omega)]; exact z2.w11 m2.2.1 (by omega) hs
            · rw [if_neg n3] at hp
              subst e1 e2
              exact X_askL m e o hr t1 t2 hs st (i03 c0 c3 n3) hp
          · rw [if_pos st] at hp
            have hp := hp _ m2.top z2
            unfold wp_M_ask wp_M_ask_32
            refine ⟨m.2.1.1, fun h2 e2' => ?_⟩
            subst e2' e1 e2
            refine ⟨m2.2.1.1, M_isTask m2.2.1.1 z2.1 o1 (fun _ _ _ _ => ⟨fun _ => M_isSegment (fun _ _ _ => ⟨fun q => absurd q (by decide), fun _ => ⟨fun q => absurd q c0, fun _ => ⟨fun _ => ⟨m2.2.1.1, A 5, r1, r2, by rw [r3]; exact vp_in_nI (by omega) (by omega), ?_⟩, fun q => absurd c3 q⟩⟩⟩) (fun q => absurd rfl (q s hs)), fun q => absurd q (by decide)⟩) (fun q => absurd rfl (q t t1 t2))⟩
            rw [nI_clamp (n := t) (by omega), (z2.2.2.1 t t1 (by omega)).1]
            exact ⟨fun q => absurd q st, fun _ => hp⟩
        · rw [if_pos (Or.inr (Or.inr c3))] at hp
          have hp := hp _ m2.top z2
          unfold wp_M_ask wp_M_ask_32
          refine ⟨m.2.1.1, fun h2 e2 => ?_⟩
          subst e2
          exact ⟨m2.2.1.1, M_isTask m2.2.1.1 z2.1 o1 (fun _ _ _ _ => ⟨fun _ => M_isSegment (fun _ _ _ => ⟨fun _ => hp, fun _ => ⟨fun _ => hp, fun _ => ⟨fun q => absurd q c3, fun _ => hp⟩⟩⟩) (fun _ => ⟨fun _ => hp, fun q => absurd rfl q⟩), fun q => absurd q (by decide)⟩) (fun q => absurd e1 (q t t1 t2))⟩
    · rw [if_pos (Or.inl es)] at hp
      have hp := hp _ m2.top z2
      unfold wp_M_ask wp_M_ask_32
      refine ⟨m.2.1.1, fun h2 e2 => ?_⟩
      subst e2
      exact ⟨m2.2.1.1, M_isTask m2.2.1.1 z2.1 o1 (fun _ _ _ _ => ⟨fun _ => M_isSegment (fun s es' hs => absurd es' (hn s hs)) (fun _ => ⟨fun _ => hp, fun q => absurd rfl q⟩), fun q => absurd q (by decide)⟩) (fun q => absurd e1 (q t t1 t2))⟩
  · rw [if_pos ea] at hp
    have hp := hp _ m2.top z2
    unfold wp_M_ask wp_M_ask_32
    refine ⟨m.2.1.1, fun h2 e2 => ?_⟩
    subst e2
    exact ⟨m2.2.1.1, M_isTask m2.2.1.1 z2.1 o1 (fun t et t1 t2 => absurd et (hn t t1 t2)) (fun _ => ⟨fun q => absurd rfl q, fun _ => hp⟩)⟩
theorem Z_write {i1 i2 : Int32} {v : Int64} {post : Int32 → Hp → Prop} (m : MI Y h0 h a A n r q) (e : MZ h a A z) (o : Zo z)
    (hp : ∀ h' : Hp, MI Y h0 h' a A n r 30 → MZ h' a A (cWrite z i1 i2 v).2 → post (cWrite z i1 i2 v).1 h') : wp_M_write g post h a i1 i2 v := by
  have o1 := o.1
  have m2 : MI Y h0 (sI h a 0 0) a A n r q := m.wF (by decide)
  have z2 : MZ (sI h a 0 0) a A z := e.wF m.2.1 (by decide)
  unfold cWrite at hp
  rcases aTk_c (z := z) i1 o1 with ⟨t, t1, t2, e1, ea⟩ | ⟨ea, hn⟩
  · rw [if_neg (by omega), ea] at hp
    obtain ⟨r1, r2, r3⟩ := m2.2.1.row 5 21 31 (by decide)
    rcases aSn_c i2 with ⟨s, hs, e2, es⟩ | ⟨es, hn⟩
    · rw [if_neg (by omega), es] at hp
      by_cases st : zI z 3 t 0 = 0
      · rw [if_neg (fun y => y st)] at hp
        subst e1 e2
        refine X_write m e o t1 t2 hs st (fun c h' m' e' => ?_) (fun c h' m' e' => ?_)
        · rw [if_pos c] at hp; exact hp h' m' e'
        · rw [if_neg c] at hp; exact hp h' m' e'
      · rw [if_pos st] at hp
        have hp := hp _ m2.top z2
        unfold wp_M_write
        refine ⟨m.2.1.1, fun h2 e2' => ?_⟩
        subst e2' e1 e2
        refine ⟨m2.2.1.1, M_isTask m2.2.1.1 z2.1 o1 (fun _ _ _ _ => ⟨fun _ => M_isSegment (fun _ _ _ => ⟨fun _ => ⟨m2.2.1.1, A 5, r1, r2, by rw [r3]; exact vp_in_nI (by omega) (by omega), ?_⟩, fun q => absurd q (by decide)⟩) (fun q => absurd rfl (q s hs)), fun q => absurd q (by decide)⟩) (fun q => absurd rfl (q t t1 t2))⟩
        rw [nI_clamp (n := t) (by omega), (z2.2.2.1 t t1 (by omega)).1]
        exact ⟨fun q => absurd q st, fun _ => hp⟩
    · rw [if_pos es] at hp
      have hp := hp _ m2.top z2
      unfold wp_M_write
      refine ⟨m.2.1.1, fun h2 e2 => ?_⟩
      subst e2
      exact ⟨m2.2.1.1, M_isTask m2.2.1.1 z2.1 o1 (fun _ _ _ _ => ⟨fun _ => M_isSegment (fun s es' hs => absurd es' (hn s hs)) (fun _ => ⟨fun q => absurd rfl q, fun _ => hp⟩), fun q => absurd q (by decide)⟩) (fun q => absurd e1 (q t t1 t2))⟩
  · rw [if_pos ea] at hp
    have hp := hp _ m2.top z2
    unfold wp_M_write
    refine ⟨m.2.1.1, fun h2 e2 => ?_⟩
    subst e2
    exact ⟨m2.2.1.1, M_isTask m2.2.1.1 z2.1 o1 (fun t et t1 t2 => absurd et (hn t t1 t2)) (fun _ => ⟨fun q => absurd rfl q, fun _ => hp⟩)⟩
theorem Z_refusal {i : Int32} {post : Int32 → Prop} (m : Mst h a A) (e : MZ h a A z) (o : Zo z) (hp : post (if aTk z i = 0 then -2 else if ¬ zI z 3 (aTk z i) 0 = 0 then -5 else 0)) : wp_M_refusal g post h a i := by
  have o1 := o.1
  obtain ⟨r1, r2, r3⟩ := m.row 5 21 31 (by decide)
  unfold wp_M_refusal wp_M_refusal_28
  refine ⟨m.1, ?_⟩
  rcases aTk_c (z := z) i o1 with ⟨t, t1, t2, e1, ea⟩ | ⟨ea, hn⟩
  · rw [if_neg (by omega), ea] at hp
    subst e1
    refine M_isTask m.1 e.1 o1 (fun _ _ _ _ => ⟨fun _ => ⟨m.1, A 5, r1, r2, by rw [r3]; exact vp_in_nI (by omega) (by omega), ?_⟩, fun q => absurd q (by decide)⟩) (fun q => absurd rfl (q t t1 t2))
    rw [nI_clamp (n := t) (by omega), (e.2.2.1 t t1 (by omega)).1]
    refine ⟨fun st => ?_, fun st => ?_⟩
    · rw [if_neg (fun y => y st)] at hp; exact hp
    · rw [if_pos st] at hp; exact hp
  · rw [if_pos ea] at hp
    exact M_isTask m.1 e.1 o1 (fun t et t1 t2 => absurd et (hn t t1 t2)) (fun _ => ⟨fun q => absurd rfl q, fun _ => hp⟩)
theorem Z_sync {i : Int32} {post : Int32 → Hp → Prop} (m : MI Y h0 h a A n r q) (e : MZ h a A z) (o : Zo z) (hr : r ≤ 2000)
    (hp : ∀ h' : Hp, MI Y h0 h' a A n r 30 → MZ h' a A (cSync z i).2 → post (cSync z i).1 h') : wp_M_sync g post h a i := by
  have o1 := o.1
  have m2 : MI Y h0 (sI h a 0 0) a A n r q := m.wF (by decide)
  have z2 : MZ (sI h a 0 0) a A z := e.wF m.2.1 (by decide)
  unfold wp_M_sync
  refine ⟨m.2.1.1, fun h2 e2 => ?_⟩
  subst e2
  refine ⟨m2.2.1.1, Z_refusal m2.2.1 z2 o ?_⟩
  unfold cSync at hp
  rcases aTk_c (z := z) i o1 with ⟨t, t1, t2, e1, ea⟩ | ⟨ea, hn⟩
  · rw [if_neg (by omega), ea] at hp ⊢
    subst e1
    by_cases st : zI z 3 t 0 = 0
    · rw [if_neg (fun y => y st)] at hp ⊢
      dsimp only at hp
      exact ⟨fun _ => ⟨m2.2.1.1, X_writesOf m2.2.1 z2 t1 (by omega) ⟨m2.2.1.1, X_agree m2 z2 o hr t1 t2 fun h' m' e' => hp h' m' e'⟩⟩, fun q => absurd rfl q⟩
    · rw [if_pos st] at hp ⊢
      exact ⟨fun q => absurd q (by decide), fun _ => hp _ m2.top z2⟩
  · rw [if_pos ea] at hp ⊢
    exact ⟨fun q => absurd q (by decide), fun _ => hp _ m2.top z2⟩
theorem Z_checkpoint {i : Int32} {post : Int32 → Hp → Prop} (m : MI Y h0 h a A n r q) (e : MZ h a A z) (o : Zo z) (hr : r ≤ 2000)
    (hp : ∀ h' : Hp, MI Y h0 h' a A n r 30 → MZ h' a A (cChk z i).2 → post (cChk z i).1 h') : wp_M_checkpoint g post h a i := by
  have o1 := o.1
  have m2 : MI Y h0 (sI h a 0 0) a A n r q := m.wF (by decide)
  have z2 : MZ (sI h a 0 0) a A z := e.wF m.2.1 (by decide)
  unfold wp_M_checkpoint wp_M_checkpoint_24
  refine ⟨m.2.1.1, fun h2 e2 => ?_⟩
  subst e2
  refine ⟨m2.2.1.1, Z_refusal m2.2.1 z2 o ?_⟩
  unfold cChk at hp
  rcases aTk_c (z := z) i o1 with ⟨t, t1, t2, e1, ea⟩ | ⟨ea, hn⟩
  · rw [if_neg (by omega), ea] at hp ⊢
    subst e1
    by_cases st : zI z 3 t 0 = 0
    · rw [if_neg (fun y => y st)] at hp ⊢
      dsimp only at hp
      exact ⟨fun _ => ⟨m2.2.1.1, X_agree m2 z2 o hr t1 t2 fun h' m' e' => hp h' m' e'⟩, fun q => absurd rfl q⟩
    · rw [if_pos st] at hp ⊢
      exact ⟨fun q => absurd q (by decide), fun _ => hp _ m2.top z2⟩
  · rw [if_pos ea] at hp ⊢
    exact ⟨fun q => absurd q (by decide), fun _ => hp _ m2.top z2⟩
theorem Z_backout {i : Int32} {post : Int32 → Hp → Prop} (m : MI Y h0 h a A n r q) (e : MZ h a A z) (o : Zo z) (hr : r ≤ 2000)
    (hp : ∀ h' : Hp, MI Y h0 h' a A n r 30 → MZ h' a A (cBack z i).2 → post (cBack z i).1 h') : wp_M_backout g post h a i := by
  have o1 := o.1
  have m2 : MI Y h0 (sI h a 0 0) a A n r q := m.wF (by decide)
  have z2 : MZ (sI h a 0 0) a A z := e.wF m.2.1 (by decide)
  obtain ⟨r1, r2, r3⟩ := m2.2.1.row 5 21 31 (by decide)
  unfold wp_M_backout
  refine ⟨m.2.1.1, fun h2 e2 => ?_⟩
  subst e2
  unfold cBack at hp
  refine ⟨m2.2.1.1, ?_⟩
  rcases aTk_c (z := z) i o1 with ⟨t, t1, t2, e1, ea⟩ | ⟨ea, hn⟩
  · rw [if_neg (by omega), ea] at hp
    subst e1
    refine M_isTask m2.2.1.1 z2.1 o1 (fun _ _ _ _ => ⟨fun _ => ⟨m2.2.1.1, A 5, r1, r2, by rw [r3]; exact vp_in_nI (by omega) (by omega), ?_⟩, fun q => absurd q (by decide)⟩) (fun q => absurd rfl (q t t1 t2))
    rw [nI_clamp (n := t) (by omega), (z2.2.2.1 t t1 (by omega)).1]
    refine ⟨fun st => ?_, fun st => ?_⟩
    · rw [if_neg st] at hp
      dsimp only at hp
      exact ⟨m2.2.1.1, X_writesOf m2.2.1 z2 t1 (by omega) ⟨m2.2.1.1, X_clear m2 z2 o hr t1 t2 (by decide) fun h' q' _ _ m' e' => hp h' m'.top e'⟩⟩
    · rw [if_pos st] at hp; exact hp _ m2.top z2
  · rw [if_pos ea] at hp
    exact M_isTask m2.2.1.1 z2.1 o1 (fun t et t1 t2 => absurd et (hn t t1 t2)) (fun _ => ⟨fun q => absurd rfl q, fun _ => hp _ m2.top z2⟩)
/-- dead, as the reference has it -/
def cDeadM (z : Zs) (i : Int32) : Int32 × Zs := if aTk z i = 0 then (-2, z) else if zI z 3 (aTk z i) 0 = 2 then (0, z) else (nI (aHeld z (aTk z i)), aClear z (aTk z i) 2)
theorem Z_dead {i : Int32} {post : Int32 → Hp → Prop} (m : MI Y h0 h a A n r q) (e : MZ h a A z) (o : Zo z) (hr : r ≤ 2000)
    (hp : ∀ h' : Hp, MI Y h0 h' a A n r 30 → MZ h' a A (cDeadM z i).2 → post (cDeadM z i).1 h') : wp_M_dead g post h a i := by
  have o1 := o.1
  have m2 : MI Y h0 (sI h a 0 0) a A n r q := m.wF (by decide)
  have z2 : MZ (sI h a 0 0) a A z := e.wF m.2.1 (by decide)
  obtain ⟨r1, r2, r3⟩ := m2.2.1.row 5 21 31 (by decide)
  unfold wp_M_dead wp_M_dead_36
  refine ⟨m.2.1.1, fun h2 e2 => ?_⟩
  subst e2
  unfold cDeadM at hp
  refine ⟨m2.2.1.1, ?_⟩
  rcases aTk_c (z := z) i o1 with ⟨t, t1, t2, e1, ea⟩ | ⟨ea, hn⟩
  · rw [if_neg (by omega), ea] at hp
    subst e1
    refine M_isTask m2.2.1.1 z2.1 o1 (fun _ _ _ _ => ⟨fun _ => ⟨m2.2.1.1, A 5, r1, r2, by rw [r3]; exact vp_in_nI (by omega) (by omega), ?_⟩, fun q => absurd q (by decide)⟩) (fun q => absurd rfl (q t t1 t2))
    rw [nI_clamp (n := t) (by omega), (z2.2.2.1 t t1 (by omega)).1]
    refine ⟨fun st => ?_, fun st => ?_⟩
    · rw [if_neg st] at hp
      dsimp only at hp
      exact ⟨m2.2.1.1, X_clear m2 z2 o hr t1 t2 (by decide) fun h' q' _ _ m' e' => hp h' m'.top e'⟩
    · rw [if_pos st] at hp; exact hp _ m2.top z2
  · rw [if_pos ea] at hp
    exact M_isTask m2.2.1.1 z2.1 o1 (fun t et t1 t2 => absurd et (hn t t1 t2)) (fun _ => ⟨fun q => absurd rfl q, fun _ => hp _ m2.top z2⟩)
theorem Z_ring {i : Int32} {post : Int32 → Hp → Prop} (m : MI Y h0 h a A n r q) (e : MZ h a A z) (hl : (zR z).length ≤ 31) (hp : ∀ h' : Hp, MI Y h0 h' a A n r 30 → MZ h' a A z → post (cRing z i) h') : wp_M_ring g post h a i := by
  have m2 : MI Y h0 (sI h a 0 0) a A n r q := m.wF (by decide)
  have z2 : MZ (sI h a 0 0) a A z := e.wF m.2.1 (by decide)
  obtain ⟨r1, r2, r3⟩ := m2.2.1.row 21 21 31 (by decide)
  have hp := hp _ m2.top z2
  unfold wp_M_ring wp_M_ring_26 wp_M_ring_27
  refine ⟨m.2.1.1, fun h2 e2 => ?_⟩
  subst e2
  unfold cRing at hp
  obtain ⟨q1, q2⟩ := z2.2.2.2.2.1
  rw [q1]
  refine ⟨fun y => ?_, fun y => ⟨m2.2.1.1, fun y2 => ?_, fun y2 => ?_⟩⟩
  · rw [if_pos (Or.inl y)] at hp; exact hp
  · rw [if_pos (Or.inr y2)] at hp; exact hp
  · obtain ⟨j, rfl, hj⟩ := nI_back y
    have j2 : j < (zR z).length := by
      rcases Nat.lt_or_ge j (zR z).length with w | w
      · exact w
      · exact absurd (nI_le w hj) y2
    rw [if_neg (fun w => by rcases w with w | w; exact y w; exact y2 w), nI_clamp hj] at hp
    refine ⟨m2.2.1.1, A 21, r1, r2, by rw [r3]; exact vp_in_nI (by omega) (by omega), ?_⟩
    rw [nI_clamp hj, q2 j j2]
    exact hp
end ZM
