/-! EXACT: the class's sync, checkpoint, backout, dead, ring, limit -/
section VR
variable {g : Gm} {Y P : Nat → Prop} {h0 h : Hp} {x : Nat} {D E C : Nat → Nat} {L : Nat → List Nat} {B : Nat → Nat → Nat} {z : Zs} {W : List Nat}
theorem V_sync {i : Int32} {post : Int32 → Hp → Prop} (c : CI g Y P h0 h x D E C L) (a : Cz h L B D W z) (o : Zo z) (hg : ∀ t k : Nat, 1 ≤ t → t ≤ zn z → 2 ≤ k → k ≤ 7 → B t k ≠ g.2.2 1)
    (hp : ∀ (h' : Hp) (L' : Nat → List Nat) (W' : List Nat), Lz L L' 0 → CI g Y P h0 h' x D E C L' → Cz h' L' B D W' (cSync z i).2 → post (cSync z i).1 h') : wp_S_sync g post h x i := by
  have a0 : (L 0).length = zn z := a.1.1.1
  unfold wp_S_sync
  unfold cSync at hp
  refine ⟨c.sk.kx, ?_⟩
  rcases aTk_c (z := z) i o.1 with ⟨t, t1, t2, e1, ea⟩ | ⟨ea, hn⟩
  · rw [if_neg (by omega), ea] at hp
    rw [e1]
    refine V_find1 c t1 (by omega) ⟨(fun q => nomatch q), fun a4 q => ?_⟩
    cases q
    have kt := c.kT (Ta_P c t1 (by omega))
    refine ⟨kt, ?_⟩
    rw [(a.1.1.2.2.1 t t1 t2).2.2.1, (a.1.2.1 t t1 t2).2]
    refine ⟨fun st => ⟨kt, c.sk.kx, ?_⟩, fun st => ?_⟩
    · rw [if_neg (fun y => y st)] at hp
      dsimp only at hp
      exact V_agree c a o hg t1 t2 hp
    · rw [if_pos st] at hp; exact hp h L W Lz.rf c a
  · rw [if_pos ea] at hp
    exact V_find0 c (fun t t1 t2 => hn t t1 (by omega)) ⟨fun _ => hp h L W Lz.rf c a, (fun a4 q => nomatch q)⟩
theorem V_checkpoint {i : Int32} {post : Int32 → Hp → Prop} (c : CI g Y P h0 h x D E C L) (a : Cz h L B D W z) (o : Zo z) (hg : ∀ t k : Nat, 1 ≤ t → t ≤ zn z → 2 ≤ k → k ≤ 7 → B t k ≠ g.2.2 1)
    (hp : ∀ (h' : Hp) (L' : Nat → List Nat) (W' : List Nat), Lz L L' 0 → CI g Y P h0 h' x D E C L' → Cz h' L' B D W' (cChk z i).2 → post (cChk z i).1 h') : wp_S_checkpoint g post h x i := by
  have a0 : (L 0).length = zn z := a.1.1.1
  unfold wp_S_checkpoint
  unfold cChk at hp
  refine ⟨c.sk.kx, ?_⟩
  rcases aTk_c (z := z) i o.1 with ⟨t, t1, t2, e1, ea⟩ | ⟨ea, hn⟩
  · rw [if_neg (by omega), ea] at hp
    rw [e1]
    refine V_find1 c t1 (by omega) ⟨(fun q => nomatch q), fun a4 q => ?_⟩
    cases q
    have kt := c.kT (Ta_P c t1 (by omega))
    refine ⟨kt, ?_⟩
    rw [(a.1.1.2.2.1 t t1 t2).2.2.1, (a.1.2.1 t t1 t2).1]
    refine ⟨fun st => ⟨kt, c.sk.kx, ?_⟩, fun st => ?_⟩
    · rw [if_neg (fun y => y st)] at hp
      dsimp only at hp
      exact V_agree c a o hg t1 t2 hp
    · rw [if_pos st] at hp; exact hp h L W Lz.rf c a
  · rw [if_pos ea] at hp
    exact V_find0 c (fun t t1 t2 => hn t t1 (by omega)) ⟨fun _ => hp h L W Lz.rf c a, (fun a4 q => nomatch q)⟩
theorem V_letGoZ {t : Nat} {v : Int32} {post : Hp → Prop} (c : CI g Y P h0 h x D E C L) (a : Cz h L B D W z) (o : Zo z) (hg : ∀ t k : Nat, 1 ≤ t → t ≤ zn z → 2 ≤ k → k ≤ 7 → B t k ≠ g.2.2 1) (t1 : 1 ≤ t) (t2 : t ≤ zn z) (hv : ¬ v = 1)
    (hp : ∀ (h' : Hp) (L' : Nat → List Nat) (W' : List Nat), Lz L L' 0 → CI g Y P h0 h' x D E C L' → Cz h' L' B D W' (aClear z t v) → post h') : wp_S_letGo g post h x (Ta (L 0) t) v :=
  V_letGoR c a o hg t1 t2 hv fun h' L' W' k0 wl c' a' => hp h' L' W' ⟨k0, by
    have e1 : (L' 1).length = W'.length := by rw [a'.1.2.2.1]; exact List.length_map ..
    have e2 : (L 1).length = W.length := by rw [a.1.2.2.1]; exact List.length_map ..
    omega⟩ c' a'
theorem V_backout {i : Int32} {post : Int32 → Hp → Prop} (c : CI g Y P h0 h x D E C L) (a : Cz h L B D W z) (o : Zo z) (hg : ∀ t k : Nat, 1 ≤ t → t ≤ zn z → 2 ≤ k → k ≤ 7 → B t k ≠ g.2.2 1)
    (hp : ∀ (h' : Hp) (L' : Nat → List Nat) (W' : List Nat), Lz L L' 0 → CI g Y P h0 h' x D E C L' → Cz h' L' B D W' (cBack z i).2 → post (cBack z i).1 h') : wp_S_backout g post h x i := by
  have a0 : (L 0).length = zn z := a.1.1.1
  unfold wp_S_backout
  unfold cBack at hp
  refine ⟨c.sk.kx, ?_⟩
  rcases aTk_c (z := z) i o.1 with ⟨t, t1, t2, e1, ea⟩ | ⟨ea, hn⟩
  · rw [if_neg (by omega), ea] at hp
    rw [e1]
    refine V_find1 c t1 (by omega) ⟨(fun q => nomatch q), fun a4 q => ?_⟩
    cases q
    have kt := c.kT (Ta_P c t1 (by omega))
    refine ⟨kt, ?_⟩
    rw [(a.1.1.2.2.1 t t1 t2).2.2.1, (a.1.2.1 t t1 t2).2]
    refine ⟨fun st => ⟨kt, c.sk.kx, ?_⟩, fun st => ?_⟩
    · rw [if_neg st] at hp
      dsimp only at hp
      exact V_letGoZ c a o hg t1 t2 (by decide) hp
    · rw [if_pos st] at hp; exact hp h L W Lz.rf c a
  · rw [if_pos ea] at hp
    exact V_find0 c (fun t t1 t2 => hn t t1 (by omega)) ⟨fun _ => hp h L W Lz.rf c a, (fun a4 q => nomatch q)⟩
theorem V_dead {i : Int32} {post : Int32 → Hp → Prop} (c : CI g Y P h0 h x D E C L) (a : Cz h L B D W z) (o : Zo z) (hg : ∀ t k : Nat, 1 ≤ t → t ≤ zn z → 2 ≤ k → k ≤ 7 → B t k ≠ g.2.2 1)
    (hp : ∀ (h' : Hp) (L' : Nat → List Nat) (W' : List Nat), Lz L L' 0 → CI g Y P h0 h' x D E C L' → Cz h' L' B D W' (cDead z i).2 → post (cDead z i).1 h') : wp_S_dead g post h x i := by
  have a0 : (L 0).length = zn z := a.1.1.1
  unfold wp_S_dead
  unfold cDead at hp
  refine ⟨c.sk.kx, ?_⟩
  rcases aTk_c (z := z) i o.1 with ⟨t, t1, t2, e1, ea⟩ | ⟨ea, hn⟩
  · rw [if_neg (by omega), ea] at hp
    rw [e1]
    refine V_find1 c t1 (by omega) ⟨(fun q => nomatch q), fun a4 q => ?_⟩
    cases q
    have kt := c.kT (Ta_P c t1 (by omega))
    refine ⟨kt, c.sk.kx, ?_⟩
    rw [(a.1.2.1 t t1 t2).1]
    dsimp only at hp
    exact V_letGoZ c a o hg t1 t2 (by decide) hp
  · rw [if_pos ea] at hp
    exact V_find0 c (fun t t1 t2 => hn t t1 (by omega)) ⟨fun _ => hp h L W Lz.rf c a, (fun a4 q => nomatch q)⟩
/-- the task at a place of the ring -/
def cRing (z : Zs) (i : Int32) : Int32 := if i < 0 ∨ nI (zR z).length ≤ i then 0 else nI ((zR z).getD i.toNatClampNeg 0)
theorem V_ring {i : Int32} {post : Int32 → Prop} (c : CI g Y P h0 h x D E C L) (a : Cz h L B D W z) (hp : post (cRing z i)) : wp_S_ring g post h x i := by
  have l := c.ls 2 (by omega)
  have hl := c.len (i := 2) (by omega)
  have ll : (L 2).length = (zR z).length := by rw [a.2.1]; exact List.length_map ..
  unfold wp_S_ring
  refine ⟨c.sk.kx, D 6, c.sk.f3, c.sk.k6, ?_⟩
  unfold wp_G_member wp_G_member_32 wp_G_member_33
  unfold cRing at hp
  refine ⟨fun y => ?_, fun y => ⟨c.sk.k6, D 2, c.sk.r0, l.1, l.size ⟨fun y2 => ?_, fun y2 => ⟨c.sk.k6, D 2, c.sk.r0, l.1, ?_⟩⟩⟩⟩
  · rw [if_pos (Or.inl y)] at hp; exact hp
  · rw [ll] at y2
    rw [if_pos (Or.inr y2)] at hp; exact hp
  · obtain ⟨j, rfl, hj⟩ := nI_back y
    have j2 : j < (L 2).length := by
      rcases Nat.lt_or_ge j (L 2).length with q | q
      · exact q
      · exact absurd (nI_le q hj) y2
    rw [if_neg (fun q => by rcases q with q | q; exact y q; rw [ll] at y2; exact y2 q), nI_clamp hj] at hp
    have hm := c.mem (i := 2) (j := j) (by omega) j2
    have eg : (L 2).getD j 0 = Ta (L 0) ((zR z).getD j 0) := by rw [a.2.1]; exact map_getD (by omega)
    have rj := a.2.2 ((zR z).getD j 0) (getD_mem (by omega))
    refine l.get j2 ⟨_, rfl, c.kT hm, c.kT hm, ?_⟩
    rw [eg, (a.1.1.2.2.1 _ rj.1 rj.2).1]
    exact hp
theorem V_limit {i : Int32} {post : Int32 → Hp → Prop} (c : CI g Y P h0 h x D E C L) (a : Cz h L B D W z) (hg : ∀ t k : Nat, 1 ≤ t → t ≤ zn z → 2 ≤ k → k ≤ 7 → B t k ≠ g.2.2 1) (p1 : ∀ h' : Hp, 0 ≤ i → CI g Y P (sI h0 x 4 i) h' x D E C L → Cz h' L B D W z → post (hI h0 x 4) h') (p0 : ¬ 0 ≤ i → post (-4) h) : wp_S_limit g post h x i := by
  have q := S_limit (i := i) (post := fun y h' => y = hI h0 x 4 ∧ 0 ≤ i ∧ CI g Y P (sI h0 x 4 i) h' x D E C L ∨ y = -4 ∧ ¬ 0 ≤ i ∧ h' = h) c (fun h' z c' => Or.inl ⟨rfl, z, c'⟩) (fun z => Or.inr ⟨rfl, z, rfl⟩)
  unfold wp_S_limit at q ⊢
  refine ⟨fun y => ⟨c.sk.kx, c.sk.kx, fun h4 e4 => ?_⟩, p0⟩
  have w := (q.1 y).2.2 h4 e4
  rcases w with ⟨-, -, w⟩ | ⟨-, w, -⟩
  · rw [c.lm]
    exact p1 h4 y w (by rw [e4]; exact a.wx c hg)
  · exact absurd y w
end VR
