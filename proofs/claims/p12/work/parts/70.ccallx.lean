/-! EXACT: the calls as functions of the abstract state, and the class's own -/
/-- the task of a number, 0 if there is none -/
def aTk (z : Zs) (i : Int32) : Nat := if 1 ≤ i.toNatClampNeg ∧ i.toNatClampNeg ≤ zn z ∧ i = nI i.toNatClampNeg then i.toNatClampNeg else 0
/-- the segment of a number, 50 if there is none -/
def aSn (i : Int32) : Nat := if i.toNatClampNeg < 50 ∧ i = nI i.toNatClampNeg then i.toNatClampNeg else 50
theorem aTk_c {z : Zs} (i : Int32) (hn : zn z ≤ 30) : (∃ t : Nat, 1 ≤ t ∧ t ≤ zn z ∧ i = nI t ∧ aTk z i = t) ∨ (aTk z i = 0 ∧ ∀ t : Nat, 1 ≤ t → t ≤ zn z → i ≠ nI t) := by
  by_cases c : 1 ≤ i.toNatClampNeg ∧ i.toNatClampNeg ≤ zn z ∧ i = nI i.toNatClampNeg
  · exact Or.inl ⟨_, c.1, c.2.1, c.2.2, if_pos c⟩
  · refine Or.inr ⟨if_neg c, fun t t1 t2 e => c ?_⟩
    rw [e, nI_clamp (by omega)]
    exact ⟨t1, t2, rfl⟩
theorem aSn_c (i : Int32) : (∃ s : Nat, s < 50 ∧ i = nI s ∧ aSn i = s) ∨ (aSn i = 50 ∧ ∀ s : Nat, s < 50 → i ≠ nI s) := by
  by_cases c : i.toNatClampNeg < 50 ∧ i = nI i.toNatClampNeg
  · exact Or.inl ⟨_, c.1, c.2, if_pos c⟩
  · refine Or.inr ⟨if_neg c, fun s s1 e => c ?_⟩
    rw [e, nI_clamp (by omega)]
    exact ⟨s1, rfl⟩
def cAsk (z : Zs) (lm : Int32) (i1 i2 i3 : Int32) : Int32 × Zs := if aTk z i1 = 0 then (-2, z) else if aSn i2 = 50 ∨ i3 < 0 ∨ ¬ i3 ≤ 3 then (-4, z) else if ¬ zI z 3 (aTk z i1) 0 = 0 then (-5, z) else if i3 = 3 then (1, zu z 1 (aTk z i1) (aSn i2) 1) else aAskL z lm (aTk z i1) (aSn i2) i3
def cWrite (z : Zs) (i1 i2 : Int32) (v : Int64) : Int32 × Zs := if aTk z i1 = 0 then (-2, z) else if aSn i2 = 50 then (-4, z) else if ¬ zI z 3 (aTk z i1) 0 = 0 then (-5, z) else if 1 ≤ zI z 0 (aTk z i1) (aSn i2) then (1, aWrite z (aTk z i1) (aSn i2) v) else (0, z)
def cSync (z : Zs) (i : Int32) : Int32 × Zs := if aTk z i = 0 then (-2, z) else if ¬ zI z 3 (aTk z i) 0 = 0 then (-5, z) else (nI (aWr z (aTk z i)), aClear (aAgr z (aTk z i)) (aTk z i) 0)
def cChk (z : Zs) (i : Int32) : Int32 × Zs := if aTk z i = 0 then (-2, z) else if ¬ zI z 3 (aTk z i) 0 = 0 then (-5, z) else (nI (aHeld z (aTk z i)), aClear (aAgr z (aTk z i)) (aTk z i) 0)
def cBack (z : Zs) (i : Int32) : Int32 × Zs := if aTk z i = 0 then (-2, z) else if zI z 3 (aTk z i) 0 = 2 then (-5, z) else (nI (aWr z (aTk z i)), aClear z (aTk z i) 0)
/-- dead: the reference lets a dead task be, the class lets it go once more -/
def cDead (z : Zs) (i : Int32) : Int32 × Zs := if aTk z i = 0 then (-2, z) else (nI (aHeld z (aTk z i)), aClear z (aTk z i) 2)
theorem i03 {v : Int32} (h0 : ¬ v < 0) (h3 : v ≤ 3) (hn : ¬ v = 3) : v = 0 ∨ v = 1 ∨ v = 2 := by
  obtain ⟨n, rfl, hn'⟩ := nI_back h0
  have h3' : (3 : Int32) = nI 3 := rfl
  rw [h3'] at h3 hn
  have := (nI_leI (by omega) (by omega)).mp h3
  have : n = 0 ∨ n = 1 ∨ n = 2 ∨ n = 3 := by omega
  rcases this with q | q | q | q <;> subst q
  · exact Or.inl rfl
  · exact Or.inr (Or.inl rfl)
  · exact Or.inr (Or.inr rfl)
  · exact absurd rfl hn
section VC
variable {g : Gm} {Y P : Nat → Prop} {h0 h : Hp} {x : Nat} {D E C : Nat → Nat} {L : Nat → List Nat} {B : Nat → Nat → Nat} {z : Zs} {W : List Nat}
theorem CZ.mark {t s : Nat} (c : CI g Y P h0 h x D E C L) (a : Cz h L B D W z) (t1 : 1 ≤ t) (t2 : t ≤ zn z) (hs : s < 50) : Cz (sI h (B t 3) s 1) L B D W (zu z 1 t s 1) := by
  obtain ⟨-, s3, -, -⟩ := a.1.1.arr c t1 t2 (k := 3) (kd := 23) (by decide) (by decide) (by decide)
  refine ⟨⟨a.1.1.wB c t1 t2 hs (Or.inr (Or.inl ⟨rfl, rfl⟩)), fun u u1 u2 => ?_, a.1.2.2.same rfl (fun u => by rw [zu_I, if_neg (fun q => absurd q.1 (by decide))]) (fun _ => rfl)⟩, a.2⟩
  have nT : Ta (L 0) u ≠ B t 3 := fun e => by
    have := c.kT (Ta_P c u1 (by rw [a.1.1.1]; exact u2))
    rw [e, s3] at this; exact absurd this (by decide)
  have q := a.1.2.1 u u1 u2
  rw [sI_o nT]
  rw [held_congr (z := z) (fun r _ => by rw [zu_I, if_neg (fun y => absurd y.1 (by decide))]), wr_congr (z := z) (fun r _ => by rw [zu_I, if_neg (fun y => absurd y.1 (by decide))])]
  exact q
theorem V_ask {i1 i2 i3 : Int32} {mc ms : Nat} {post : Int32 → Hp → Prop} (c : CI g Y P h0 h x D E C L) (a : Cz h L B D W z) (o : Zo z) (hg : ∀ t k : Nat, 1 ≤ t → t ≤ zn z → 2 ≤ k → k ≤ 7 → B t k ≠ g.2.2 1) (hwl : (L 1).length ≤ 511) (hmc : 241 ≤ mc) (hms : 5349 ≤ ms)
    (hp : ∀ (h' : Hp) (E' C' : Nat → Nat) (L' : Nat → List Nat) (W' : List Nat), Lz L L' 1 → CI g Y P h0 h' x D E' C' L' → Cz h' L' B D W' (cAsk z (hI h0 x 4) i1 i2 i3).2 → post (cAsk z (hI h0 x 4) i1 i2 i3).1 h') : wp_S_ask g post mc ms h x i1 i2 i3 := by
  have o1 := o.1
  have a0 : (L 0).length = zn z := a.1.1.1
  have rf : Lz L L 1 := ⟨rfl, Nat.le_succ _⟩
  unfold wp_S_ask wp_S_ask_31
  unfold cAsk at hp
  refine ⟨c.sk.kx, ?_⟩
  rcases aTk_c (z := z) i1 o1 with ⟨t, t1, t2, e1, ea⟩ | ⟨ea, hn⟩
  · rw [if_neg (by omega)] at hp
    rw [e1]
    refine V_find1 c t1 (by omega) ⟨(fun q => nomatch q), fun a4 q => ?_⟩
    cases q
    have kt := c.kT (Ta_P c t1 (by omega))
    have e9 := (a.1.1.2.2.1 t t1 t2).2.2.1
    rcases aSn_c i2 with ⟨s, hs, e2, es⟩ | ⟨es, hn⟩
    · rw [e2]
      refine V_seg1 hs ⟨fun q => absurd q (by decide), fun _ => ⟨fun q => ?_, fun q3 => ⟨fun q4 => ⟨kt, ?_⟩, fun q => ?_⟩⟩⟩
      · rw [if_pos (Or.inr (Or.inl q))] at hp; exact hp h E C L W rf c a
      · rw [if_neg (fun y => by rcases y with y | y | y; (exact absurd y (by omega)); exact q3 y; exact y q4), ea, es] at hp
        rw [e9]
        refine ⟨fun st => ?_, fun st => ?_⟩
        · rw [if_neg (fun y => y st)] at hp
          refine ⟨fun n3 => ?_, fun y3 => ?_⟩
          · rw [if_neg n3] at hp
            have hw : zI z 4 t 0 = -1 := by
              by_cases y : zI z 4 t 0 = -1
              · exact y
              · have := (o.2.2.2.2.2.1 t t1 (by omega)).mpr y
                rw [st] at this; exact absurd this (by decide)
            exact ⟨c.sk.kx, 241, 5349, by omega, by omega, V_askForLock c a o hg t1 t2 hs (i03 q3 q4 n3) hw hwl (Nat.le_refl _) (Nat.le_refl _) fun h' E' C' L' W' k0 k1 c' a' => hp h' E' C' L' W' ⟨k0, k1⟩ c' a'⟩
          · rw [if_pos y3] at hp
            obtain ⟨b1, b2, b3, b4⟩ := a.1.1.arr c (k := 3) (kd := 23) t1 t2 (by decide) (by decide) (by decide)
            refine ⟨kt, B t 3, b1, b2, by rw [b3]; exact vp_in_nI (by omega) (by omega), Or.inr rfl, fun h22 e22 => hp h22 E C L W rf ?_ ?_⟩
            · rw [e22]; exact c.wA b2 (by omega) b4
            · rw [e22, nI_clamp (by omega)]; exact CZ.mark c a t1 t2 hs
        · rw [if_pos st] at hp; exact hp h E C L W rf c a
      · rw [if_pos (Or.inr (Or.inr q))] at hp; exact hp h E C L W rf c a
    · rw [if_pos (Or.inl es)] at hp
      exact V_seg0 hn ⟨fun _ => hp h E C L W rf c a, fun q => absurd rfl q⟩
  · rw [if_pos ea] at hp
    exact V_find0 c (fun t t1 t2 => hn t t1 (by omega)) ⟨fun _ => hp h E C L W rf c a, (fun a4 q => nomatch q)⟩
end VC
