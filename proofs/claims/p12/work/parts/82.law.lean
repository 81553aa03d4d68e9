/-! LAW: holder (p12) -/
theorem law_loop {g : Gm} {Ln : Nat} {xs : Nat → Int32} {Y : Nat → Prop} {x m o mc ms : Nat} {D A : Nat → Nat} (hL : Ln ≤ 2560) : ∀ (d i : Nat) (h : Hp) (P : Nat → Prop) (kc ks n k : Nat), Ln < i + 5 * d + 5 → i ≤ 2565 → k + d = 512 → kc + 250 * d ≤ mc → ks + sB d ≤ ms → Bz g Y P h x m o D A n k → wp_L_law_23 g Ln xs mc ms (d + 1) h kc ks x m o (nI i) := by
  have h5 : (5 : Int32) = nI 5 := rfl
  have small : ∀ i : Nat, i ≤ 2565 → Ln < i + 5 → ∀ x1 : Int32, x1 = nI Ln - 5 → x1 < nI i := fun i hi hlt x1 e1 => by
    rcases Nat.lt_or_ge Ln 5 with q | q
    · have h0 : x1 < nI 0 := by
        have : Ln = 0 ∨ Ln = 1 ∨ Ln = 2 ∨ Ln = 3 ∨ Ln = 4 := by omega
        rcases this with z | z | z | z | z <;> rw [z] at e1 <;> rw [e1] <;> decide
      rcases Nat.eq_zero_or_pos i with z | z
      · rw [z]; exact h0
      · exact Int32.lt_trans h0 (nI_lt z (by omega))
    · rw [h5, pk_sub q] at e1
      rw [e1]
      exact nI_lt (by omega) (by omega)
  intro d
  induction d with
  | zero =>
    intro i h P kc ks n k e hi hk k1 k2 b
    unfold wp_L_law_23
    exact fun x1 e1 => ⟨fun _ => rfl, fun z => absurd (small i hi (by omega) x1 e1) z⟩
  | succ d ih =>
    intro i h P kc ks n k e hi hk k1 k2 b
    rw [sB_s] at k2
    have kS : ∀ y : Nat, y ≤ sM → ks + y ≤ ms := fun y hy => by omega
    have s0 : ks ≤ ks + sM := by omega
    have sl : ∀ y : Nat, y ≤ sM → ks + y ≤ ks + sM := fun y hy => by omega
    unfold wp_L_law_23
    intro x1 e1
    refine ⟨fun _ => rfl, fun z => ?_⟩
    have hil : i + 5 ≤ Ln := by
      rcases Nat.lt_or_ge Ln (i + 5) with q | q
      · exact absurd (small i hi q x1 e1) z
      · exact q
    clear z
    obtain ⟨E, C, L, B, W, z, c, mi, a, ez, zw, ln, l1, ho, ko, no, el, hg⟩ := b
    have oz := zw.1
    have kx := c.sk.kx
    have ym : Y m := mi.2.2.1.1
    have km := mi.2.1.1
    have l0 : (L 0).length = n := a.1.1.1.trans ln
    have hn : n ≤ 30 := mi.2.2.2.2.1
    have mi1 : ∀ h1 : Hp, Un Y h h1 → MI Y h1 h1 m A n (k + 1) 30 := fun h1 u => (mi.un u).monoR (Nat.le_succ k)
    have me1 : ∀ h1 : Hp, Un Y h h1 → MZ h1 m A z := fun h1 u => ez.un mi u
    have lm1 : ∀ h1 : Hp, Un Y h h1 → hI h x 4 = hI h1 m 3 := fun h1 u => by rw [(u m ym).2.2.1]; exact el
    have nx : ∀ (P' : Nat → Prop) (h' : Hp) (n' kc' ks' : Nat), kc' ≤ kc + 250 → ks' ≤ ks + sM → Bz g Y P' h' x m o D A n' (k + 1) → wp_L_law_556 g Ln xs mc ms (fun h kc ks v1 v2 v3 v4 => wp_L_law_23 g Ln xs mc ms (d + 1) h kc ks v1 v2 v3 v4) h' kc' ks' x m o (nI i) := fun P' h' n' kc' ks' q1 q2 b' => by
      unfold wp_L_law_556
      intro x1 e1
      rw [h5, nI_add] at e1
      subst e1
      exact ih (i + 5) h' P' kc' ks' n' (k + 1) (by omega) (by omega) (by omega) (by omega) (by omega) b'
    have fin : ∀ (h1 h2 : Hp) (E' C' : Nat → Nat) (L' : Nat → List Nat) (W' : List Nat) (z' : Zs) (kc' ks' : Nat), kc' ≤ kc + 250 → ks' ≤ ks + sM → Lz L L' 1 → CI g Y P h h1 x D E' C' L' → Cz h1 L' B D W' z' → MI Y h1 h2 m A n (k + 1) 30 → MZ h2 m A z' → (Zw z' ∧ zn z' = zn z) → wp_L_law_556 g Ln xs mc ms (fun h kc ks v1 v2 v3 v4 => wp_L_law_23 g Ln xs mc ms (d + 1) h kc ks v1 v2 v3 v4) h2 kc' ks' x m o (nI i) := fun h1 h2 E' C' L' W' z' kc' ks' q1 q2 lz c' a' m' e' w' =>
      nx P h2 n kc' ks' q1 q2 (Bz.after ho ((c'.un o ho).1.trans ko) ((c'.un o ho).2.1.trans no) c' a' m'.1 m' e' w'.1 (w'.2.trans ln) (by have := lz.2; omega) (by rw [c'.lm, m'.lm, (c'.un m ym).2.2.1]; exact el) (by rw [w'.2]; exact hg))
    have z01 : ∀ {L' : Nat → List Nat}, Lz L L' 0 → Lz L L' 1 := fun z => ⟨z.1, by have := z.2; omega⟩
    have zrf : Lz L L 1 := ⟨rfl, Nat.le_succ _⟩
    have same : Zw z ∧ zn z = zn z := ⟨zw, rfl⟩
    have v0 : vp_in (nI i) Ln := vp_in_nI (by omega) (by omega)
    have a1 : ∀ y : Int32, y = nI i + 1 → vp_in y Ln := fun y ey => by rw [ey, nI_1]; exact vp_in_nI (by omega) (by omega)
    have a2 : ∀ y : Int32, y = nI i + 2 → vp_in y Ln := fun y ey => by rw [ey, show (2 : Int32) = nI 2 from rfl, nI_add]; exact vp_in_nI (by omega) (by omega)
    have a3 : ∀ y : Int32, y = nI i + 3 → vp_in y Ln := fun y ey => by rw [ey, show (3 : Int32) = nI 3 from rfl, nI_add]; exact vp_in_nI (by omega) (by omega)
    have a4 : ∀ y : Int32, y = nI i + 4 → vp_in y Ln := fun y ey => by rw [ey, show (4 : Int32) = nI 4 from rfl, nI_add]; exact vp_in_nI (by omega) (by omega)
    refine ⟨v0, fun x4 _ x5 _ => ⟨fun _ => ?_, fun _ x6 ex6 => ⟨a1 _ ex6, fun x8 ex8 => ⟨kx, 8, 348, by omega, kS _ (by decide), ?_⟩⟩, fun _ x20 ex20 => ⟨a1 _ ex20, fun x22 ex22 x23 ex23 => ⟨a2 _ ex23, fun x25 ex25 x26 ex26 => ⟨a3 _ ex26, fun x28 ex28 => ⟨kx, 241, 5349, by omega, kS _ (by decide), ?_⟩⟩⟩⟩, fun _ x47 ex47 => ⟨a1 _ ex47, fun x49 ex49 x50 ex50 => ⟨a2 _ ex50, fun x52 ex52 x53 ex53 => ⟨a3 _ ex53, fun x55 ex55 j56 ej56 j57 ej57 x58 ex58 => ⟨a4 _ ex58, fun x60 ex60 j61 ej61 j62 ej62 j63 ej63 => ⟨kx, ?_⟩⟩⟩⟩⟩, fun _ x87 ex87 => ⟨a1 _ ex87, fun x89 _ x90 ex90 => ⟨a2 _ ex90, fun x92 _ => ⟨1, 6, by omega, kS _ (by decide), ?_⟩⟩⟩, fun _ x107 ex107 => ⟨a1 _ ex107, fun x109 ex109 => ⟨kx, ?_⟩⟩, fun _ x119 ex119 => ⟨a1 _ ex119, fun x121 ex121 => ⟨kx, ?_⟩⟩, fun _ x131 ex131 => ⟨a1 _ ex131, fun x133 ex133 => ⟨kx, ?_⟩⟩, fun _ x143 ex143 => ⟨a1 _ ex143, fun x145 ex145 => ⟨kx, ?_⟩⟩, fun _ x155 ex155 => ⟨a1 _ ex155, fun x157 ex157 => ⟨kx, ?_⟩⟩, fun _ x167 ex167 => ⟨a1 _ ex167, fun x169 ex169 => ⟨kx, ?_⟩⟩, fun _ x179 ex179 => ⟨a1 _ ex179, fun x181 ex181 => ⟨kx, ?_⟩⟩, fun _ => ⟨kx, ?_⟩, fun _ x197 ex197 => ⟨a1 _ ex197, fun x199 _ => ⟨1, 6, by omega, kS _ (by decide), ?_⟩⟩, fun _ x211 ex211 => ⟨a1 _ ex211, fun x213 _ x214 ex214 => ⟨a2 _ ex214, fun x216 _ => ⟨kx, ?_⟩⟩⟩⟩⟩
    · exact nx P h n kc ks (by omega) s0 ⟨E, C, L, B, W, z, c, mi.monoR (Nat.le_succ k), a, ez, zw, ln, by omega, ho, ko, no, el, hg⟩
    · -- task
      refine V_task c a oz zw.2.1 hg (Nat.le_refl _) (Nat.le_refl _) (fun e30 x14 ex14 => ⟨a1 _ ex14, fun x16 ex16 => ⟨km, X_task (mi1 h c.un) (me1 h c.un) ln (fun h2 hlt m2 e2 => ?_) (fun h2 h30 m2 e2 => ?_)⟩⟩) (fun P' h1 E' C' L' B' hlt e0 e1 c1 a1' g1 x14 ex14 => ⟨a1 _ ex14, fun x16 ex16 => ⟨(mi1 h1 c1.un).2.1.1, X_task (mi1 h1 c1.un) (me1 h1 c1.un) ln (fun h2 hlt2 m2 e2 => ?_) (fun h2 h30 m2 e2 => ?_)⟩⟩)
      · omega
      · exact fin h h2 E C L W z _ _ (by omega) (sl _ (by decide)) zrf c a m2 e2 same
      · have ex : x16 = x8 := by rw [ex16, ex14, ex8, ex6]
        subst ex
        exact nx P' h2 (n + 1) _ _ (by omega) (sl _ (by decide)) (Bz.after ho ((c1.un o ho).1.trans ko) ((c1.un o ho).2.1.trans no) c1 a1' m2.1 m2 e2 (aTask_w zw hlt) (by rw [← ln]; rfl) (by rw [e1]; omega) (by rw [c1.lm, m2.lm, (c1.un m ym).2.2.1]; exact el) g1)
      · omega
    · -- ask
      refine V_ask c a oz hg (by omega) (Nat.le_refl _) (Nat.le_refl _) fun h1 E' C' L' W' lz c1 a1' x34 ex34 => ⟨a1 _ ex34, fun x36 ex36 x37 ex37 => ⟨a2 _ ex37, fun x39 ex39 x40 ex40 => ⟨a3 _ ex40, fun x42 ex42 => ⟨(mi1 h1 c1.un).2.1.1, ?_⟩⟩⟩⟩
      have q1 : x36 = x22 := by rw [ex36, ex34, ex22, ex20]
      have q2 : x39 = x25 := by rw [ex39, ex37, ex25, ex23]
      have q3 : x42 = x28 := by rw [ex42, ex40, ex28, ex26]
      subst q1 q2 q3
      rw [lm1 h1 c1.un] at a1'
      exact Z_ask (mi1 h1 c1.un) (me1 h1 c1.un) oz (by omega) fun h2 m2 e2 => fin h1 h2 E' C' L' W' _ _ _ (by omega) (sl _ (by decide)) lz c1 a1' m2 e2 (cAsk_w zw)
    · -- write
      refine V_write c a oz fun h1 c1 a1' x67 ex67 => ⟨a1 _ ex67, fun x69 ex69 x70 ex70 => ⟨a2 _ ex70, fun x72 ex72 x73 ex73 => ⟨a3 _ ex73, fun x75 ex75 j76 ej76 j77 ej77 x78 ex78 => ⟨a4 _ ex78, fun x80 ex80 j81 ej81 j82 ej82 j83 ej83 => ⟨(mi1 h1 c1.un).2.1.1, ?_⟩⟩⟩⟩⟩
      have q1 : x69 = x49 := by rw [ex69, ex67, ex49, ex47]
      have q2 : x72 = x52 := by rw [ex72, ex70, ex52, ex50]
      have q3 : j83 = j63 := by rw [ej83, ej82, ej81, ej77, ej76, ex75, ex73, ex80, ex78, ej63, ej62, ej61, ej57, ej56, ex55, ex53, ex60, ex58]
      subst q1 q2 q3
      exact Z_write (mi1 h1 c1.un) (me1 h1 c1.un) oz fun h2 m2 e2 => fin h1 h2 E C L W _ _ _ (by omega) s0 zrf c1 a1' m2 e2 (cWrite_w zw)
    · exact V_readK c a oz ho ko no (Nat.le_refl _) (Nat.le_refl _) fun y h1 c1 a1' x98 ex98 => ⟨a1 _ ex98, fun x100 _ x101 ex101 => ⟨a2 _ ex101, fun x103 _ => ⟨(mi1 h1 c1.un).2.1.1, MX.read (mi.un c1.un) (me1 h1 c1.un) (by omega) fun y h2 m2 e2 => fin h1 h2 E C L W z _ _ (by omega) (sl _ (by decide)) zrf c1 a1' m2 e2 same⟩⟩⟩
    · -- sync
      refine V_sync c a oz hg fun h1 L' W' lz c1 a1' x113 ex113 => ⟨a1 _ ex113, fun x115 ex115 => ⟨(mi1 h1 c1.un).2.1.1, ?_⟩⟩
      have q1 : x115 = x109 := by rw [ex115, ex113, ex109, ex107]
      subst q1
      exact Z_sync (mi1 h1 c1.un) (me1 h1 c1.un) oz (by omega) fun h2 m2 e2 => fin h1 h2 E C L' W' _ _ _ (by omega) s0 (z01 lz) c1 a1' m2 e2 (cSync_w zw)
    · -- backout
      refine V_backout c a oz hg fun h1 L' W' lz c1 a1' x113 ex113 => ⟨a1 _ ex113, fun x115 ex115 => ⟨(mi1 h1 c1.un).2.1.1, ?_⟩⟩
      have q1 : x115 = x121 := by rw [ex115, ex113, ex121, ex119]
      subst q1
      exact Z_backout (mi1 h1 c1.un) (me1 h1 c1.un) oz (by omega) fun h2 m2 e2 => fin h1 h2 E C L' W' _ _ _ (by omega) s0 (z01 lz) c1 a1' m2 e2 (cBack_w zw)
    · -- ring
      refine V_ring c a fun x113 ex113 => ⟨a1 _ ex113, fun x115 ex115 => ⟨km, ?_⟩⟩
      have q1 : x115 = x133 := by rw [ex115, ex113, ex133, ex131]
      subst q1
      exact Z_ring (mi1 h c.un) (me1 h c.un) (zR_le c a mi ez) fun h2 m2 e2 => fin h h2 E C L W z _ _ (by omega) s0 zrf c a m2 e2 same
    · -- checkpoint
      refine V_checkpoint c a oz hg fun h1 L' W' lz c1 a1' x113 ex113 => ⟨a1 _ ex113, fun x115 ex115 => ⟨(mi1 h1 c1.un).2.1.1, ?_⟩⟩
      have q1 : x115 = x145 := by rw [ex115, ex113, ex145, ex143]
      subst q1
      exact Z_checkpoint (mi1 h1 c1.un) (me1 h1 c1.un) oz (by omega) fun h2 m2 e2 => fin h1 h2 E C L' W' _ _ _ (by omega) s0 (z01 lz) c1 a1' m2 e2 (cChk_w zw)
    · -- dead
      refine V_dead c a oz hg fun h1 L' W' lz c1 a1' x113 ex113 => ⟨a1 _ ex113, fun x115 ex115 => ⟨(mi1 h1 c1.un).2.1.1, ?_⟩⟩
      have q1 : x115 = x157 := by rw [ex115, ex113, ex157, ex155]
      subst q1
      obtain ⟨d1, d2, d3⟩ := dead_eq (i := x115) zw
      exact Z_dead (mi1 h1 c1.un) (me1 h1 c1.un) oz (by omega) fun h2 m2 e2 => fin h1 h2 E C L' W' _ _ _ (by omega) s0 (z01 lz) c1 (a1'.congr d3 d2) m2 e2 (cDeadM_w zw)
    · -- limit
      refine V_limit c a hg (fun h1 y c1 a1' x113 ex113 => ⟨a1 _ ex113, fun x115 ex115 => ?_⟩) (fun y x113 ex113 => ⟨a1 _ ex113, fun x115 ex115 => ⟨km, ?_⟩⟩)
      · have u1 : Un Y h h1 := fun b hb => by
          obtain ⟨u1, u2, u3, u4⟩ := c1.un b hb
          have ne : b ≠ x := fun z => c.sk.yx (z ▸ hb)
          exact ⟨u1, u2, by rw [u3, sI_o ne], u4⟩
        have em : hI h1 m = hI h m := (u1 m ym).2.2.1
        have ex : x115 = x169 := by rw [ex115, ex113, ex169, ex167]
        subst ex
        refine ⟨(mi1 h1 u1).2.1.1, MX.limit (mi1 h1 u1) (me1 h1 u1) (fun h2 z2 m2 e2 => ?_) (fun h2 z2 m2 e2 => absurd y z2)⟩
        have t : Lt Y h1 h2 := ⟨m2.1.1, m2.1.2.1, m2.1.2.2.1, fun b hb => by
          have ne : b ≠ m := fun z => hb (z ▸ ym)
          obtain ⟨t1, t2⟩ := m2.1.2.2.2 b hb
          exact ⟨by rw [t1, sI_o ne], t2⟩⟩
        exact nx P h2 n kc ks (by omega) s0 (Bz.after ho ((u1 o ho).1.trans ko) ((u1 o ho).2.1.trans no) c1 a1' t m2 e2 zw ln (by omega) (by rw [c1.lm, m2.lm, rI_sI, if_pos ⟨rfl, rfl⟩, rI_sI, if_pos ⟨rfl, rfl⟩]) hg)
      · have ex : x115 = x169 := by rw [ex115, ex113, ex169, ex167]
        subst ex
        exact MX.limit (mi1 h c.un) (me1 h c.un) (fun h2 z2 m2 e2 => absurd z2 y) fun h2 z2 m2 e2 => fin h h2 E C L W z _ _ (by omega) s0 zrf c a m2 e2 same
    · -- holder
      refine V_holder c a oz fun x113 ex113 => ⟨a1 _ ex113, fun x115 ex115 => ⟨km, ?_⟩⟩
      have q1 : x115 = x181 := by rw [ex115, ex113, ex181, ex179]
      subst q1
      exact Z_holder (mi1 h c.un) (me1 h c.un) oz fun h2 m2 e2 => ⟨fun _ => fin h h2 E C L W z _ _ (by omega) s0 zrf c a m2 e2 same, fun q => absurd rfl q⟩
    · exact S_serial c fun y => ⟨km, MX.serial (mi1 h c.un) (me1 h c.un) fun y h2 m2 e2 => fin h h2 E C L W z _ _ (by omega) s0 zrf c a m2 e2 same⟩
    · exact V_valueK c a ho ko no (Nat.le_refl _) (Nat.le_refl _) fun y h1 c1 a1' x98 ex98 => ⟨a1 _ ex98, fun x100 _ => ⟨(mi1 h1 c1.un).2.1.1, MX.value (mi1 h1 c1.un) (me1 h1 c1.un) fun y h2 m2 e2 => fin h1 h2 E C L W z _ _ (by omega) (sl _ (by decide)) zrf c1 a1' m2 e2 same⟩⟩
    · exact S_state c fun y x113 ex113 => ⟨a1 _ ex113, fun x115 _ x116 ex116 => ⟨a2 _ ex116, fun x117 _ => ⟨km, MX.state (mi1 h c.un) (me1 h c.un) fun y h2 m2 e2 => fin h h2 E C L W z _ _ (by omega) s0 zrf c a m2 e2 same⟩⟩⟩
