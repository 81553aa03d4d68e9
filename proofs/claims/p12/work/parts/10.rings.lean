/-! SegmentLocks$Rings.<init>()V -/
theorem dd_G_init_0 : decode prog_2_method_1_code 0 = .ok (.aload_n 0, 1) := by decide +kernel
theorem dd_G_init_1 : decode prog_2_method_1_code 1 = .ok (.invokespecial 3, 3) := by decide +kernel
theorem dd_G_init_4 : decode prog_2_method_1_code 4 = .ok (.aload_n 0, 1) := by decide +kernel
theorem dd_G_init_5 : decode prog_2_method_1_code 5 = .ok (.new 9, 3) := by decide +kernel
theorem dd_G_init_8 : decode prog_2_method_1_code 8 = .ok (.dup, 1) := by decide +kernel
theorem dd_G_init_9 : decode prog_2_method_1_code 9 = .ok (.invokespecial 11, 3) := by decide +kernel
theorem dd_G_init_12 : decode prog_2_method_1_code 12 = .ok (.putfield 12, 3) := by decide +kernel
theorem dd_G_init_15 : decode prog_2_method_1_code 15 = .ok (.aload_n 0, 1) := by decide +kernel
theorem dd_G_init_16 : decode prog_2_method_1_code 16 = .ok (.new 9, 3) := by decide +kernel
theorem dd_G_init_19 : decode prog_2_method_1_code 19 = .ok (.dup, 1) := by decide +kernel
theorem dd_G_init_20 : decode prog_2_method_1_code 20 = .ok (.invokespecial 11, 3) := by decide +kernel
theorem dd_G_init_23 : decode prog_2_method_1_code 23 = .ok (.putfield 18, 3) := by decide +kernel
theorem dd_G_init_26 : decode prog_2_method_1_code 26 = .ok (.aload_n 0, 1) := by decide +kernel
theorem dd_G_init_27 : decode prog_2_method_1_code 27 = .ok (.bipush 30, 2) := by decide +kernel
theorem dd_G_init_29 : decode prog_2_method_1_code 29 = .ok (.newarray .int, 2) := by decide +kernel
theorem dd_G_init_31 : decode prog_2_method_1_code 31 = .ok (.putfield 21, 3) := by decide +kernel
theorem dd_G_init_34 : decode prog_2_method_1_code 34 = .ok (.aload_n 0, 1) := by decide +kernel
theorem dd_G_init_35 : decode prog_2_method_1_code 35 = .ok (.bipush 30, 2) := by decide +kernel
theorem dd_G_init_37 : decode prog_2_method_1_code 37 = .ok (.newarray .boolean, 2) := by decide +kernel
theorem dd_G_init_39 : decode prog_2_method_1_code 39 = .ok (.putfield 25, 3) := by decide +kernel
theorem dd_G_init_42 : decode prog_2_method_1_code 42 = .ok (.aload_n 0, 1) := by decide +kernel
theorem dd_G_init_43 : decode prog_2_method_1_code 43 = .ok (.bipush 30, 2) := by decide +kernel
theorem dd_G_init_45 : decode prog_2_method_1_code 45 = .ok (.newarray .boolean, 2) := by decide +kernel
theorem dd_G_init_47 : decode prog_2_method_1_code 47 = .ok (.putfield 29, 3) := by decide +kernel
theorem dd_G_init_50 : decode prog_2_method_1_code 50 = .ok (.return_, 1) := by decide +kernel
def wp_G_init (g : Gm) (post : Hp → Prop) (mc ms : Nat) (h : Hp) (a0 : Nat) : Prop := 0 + 1 ≤ mc ∧ 0 + 3 ≤ ms ∧ ∀ q1 : Nat, hK h q1 = 0 → g.2.2 0 ≤ q1 → ∀ h2 : Hp, h2 = mkC h q1 6 0 → wp_A_init g (fun h4 => hK h4 a0 = 3 ∧ ∀ h6 : Hp, h6 = sR h4 a0 0 (some q1) → (0 + 1) + 1 ≤ mc ∧ (0 + 3) + 3 ≤ ms ∧ ∀ q7 : Nat, hK h6 q7 = 0 → g.2.2 0 ≤ q7 → ∀ h8 : Hp, h8 = mkC h6 q7 6 0 → wp_A_init g (fun h10 => hK h10 a0 = 3 ∧ ∀ h12 : Hp, h12 = sR h10 a0 1 (some q7) → ((0 + 1) + 1) + 1 ≤ mc ∧ ((0 + 3) + 3) + 30 ≤ ms ∧ ∀ q13 : Nat, hK h12 q13 = 0 → g.2.2 0 ≤ q13 → ∀ h14 : Hp, h14 = mkC h12 q13 21 30 → hK h14 a0 = 3 ∧ ∀ h16 : Hp, h16 = sR h14 a0 2 (some q13) → (((0 + 1) + 1) + 1) + 1 ≤ mc ∧ (((0 + 3) + 3) + 30) + 30 ≤ ms ∧ ∀ q17 : Nat, hK h16 q17 = 0 → g.2.2 0 ≤ q17 → ∀ h18 : Hp, h18 = mkC h16 q17 23 30 → hK h18 a0 = 3 ∧ ∀ h20 : Hp, h20 = sR h18 a0 3 (some q17) → ((((0 + 1) + 1) + 1) + 1) + 1 ≤ mc ∧ ((((0 + 3) + 3) + 30) + 30) + 30 ≤ ms ∧ ∀ q21 : Nat, hK h20 q21 = 0 → g.2.2 0 ≤ q21 → ∀ h22 : Hp, h22 = mkC h20 q21 23 30 → hK h22 a0 = 3 ∧ ∀ h24 : Hp, h24 = sR h22 a0 4 (some q21) → post h24) h8 q7) h2 q1
set_option maxHeartbeats 4000000 in
set_option maxRecDepth 100000 in
theorem c_G_init (l : Launch) (g : Gm) (post : Hp → Prop) (mc ms : Nat) (h : Hp) (a0 : Nat) (hw : wp_G_init g post mc ms h a0) : Met l (⟨"SegmentLocks$Rings", "<init>", "()V"⟩ : MethodName) (ww (⟨"SegmentLocks$Rings", "<init>", "()V"⟩ : MethodName) prog_2_method_1_code 1 none) (rmm 4 84 mc ms) (va_Pc [.ref a0] (gS g h)) (va_Qv post (gS g) (gA g)) mc ms (gA g) := by
  first | refine en_met (by decide) ?_ | refine en_metF (by decide) ?_
  intro p e s m below meth c C0 hr hlk hin hG
  have hS : va_S (gA g) s.heap s.heap [] := va_S.rf
  have hl := lv_entry ([.ref a0]) (n := 1) (Nat.le_of_ble_eq_true rfl)
  rw [lg_entry_eq]
  generalize (lg_sl ([.ref a0]) ++ List.replicate (1 - (lg_sl ([.ref a0])).length) Slot.unset).toArray = ls at hl ⊢
  replace hl : lv_has ls 1 [(0, .ref a0)] := hl
  obtain ⟨hx, hb, -, hown, hts, hgk⟩ := id C0
  have hkc : 0 ≤ mc ∧ 0 ≤ ms := ⟨Nat.zero_le _, Nat.zero_le _⟩
  unfold wp_G_init at hw
  refine lv_aload_n hx hb dd_G_init_0 rfl (lv_at hl 0 rfl) ?_
  refine W.objInit hx hb hown (hts _ km_22) (hts _ km_1) (hts _ km_2) rfl (by rw [C0.2.2.1]; exact hl.1) rfl dd_G_init_1 (Nat.le_of_ble_eq_true rfl) (Nat.le_of_ble_eq_true rfl) ?_
  refine W.eq (g2 := F0 m 4 ls []) rfl ?_
  refine lv_aload_n hx hb dd_G_init_4 rfl (lv_at hl 0 rfl) ?_
  obtain ⟨hc1, hc2, hw⟩ := hw
  refine px_new C0 hG hS (ci := 5) (T := FX5) (N := 3) (C := RX5) (by decide) rfl iX5 rfl tX5_ok (by decide) km_23 km_16 km_17 hc1 hc2 dd_G_init_5 (fun q1 H z0 zq hG hS => ?_)
  replace hw := hw q1 z0 zq _ rfl
  generalize mkC h q1 6 0 = h2 at hw hG
  have hkc := And.intro hc1 hc2
  refine lv_dup hx hb dd_G_init_8 rfl ?_
  refine ca_v hS (rn_I C0 hG hS (c_A_init l g _ h2 q1 hw) (host := "") (nest := false) (n := 0) (As := []) (rest := [.ref q1, .ref a0]) km_20 km_31 km_21 km_17 rfl ⟨by decide, by decide, by decide +kernel⟩ ⟨Nat.le_of_ble_eq_true rfl, Nat.le_of_ble_eq_true rfl⟩ rfl hl.1 rfl (Nat.le_of_ble_eq_true rfl) dd_G_init_9 hkc) (fun h4 H locs hw hG hS => ?_)
  obtain ⟨k5, hw⟩ := hw
  refine pf_G_12 C0 hG hS k5 hin dd_G_init_12 (fun H locs hG hS => ?_)
  replace hw := hw _ rfl
  generalize sR h4 a0 0 (some q1) = h6 at hw hG
  refine lv_aload_n hx hb dd_G_init_15 rfl (lv_at hl 0 rfl) ?_
  obtain ⟨hc1, hc2, hw⟩ := hw
  refine px_new C0 hG hS (ci := 5) (T := FX5) (N := 3) (C := RX5) (by decide) rfl iX5 rfl tX5_ok (by decide) km_23 km_16 km_17 hc1 hc2 dd_G_init_16 (fun q7 H z0 zq hG hS => ?_)
  replace hw := hw q7 z0 zq _ rfl
  generalize mkC h6 q7 6 0 = h8 at hw hG
  have hkc := And.intro hc1 hc2
  refine lv_dup hx hb dd_G_init_19 rfl ?_
  refine ca_v hS (rn_I C0 hG hS (c_A_init l g _ h8 q7 hw) (host := "") (nest := false) (n := 0) (As := []) (rest := [.ref q7, .ref a0]) km_20 km_31 km_21 km_17 rfl ⟨by decide, by decide, by decide +kernel⟩ ⟨Nat.le_of_ble_eq_true rfl, Nat.le_of_ble_eq_true rfl⟩ rfl hl.1 rfl (Nat.le_of_ble_eq_true rfl) dd_G_init_20 hkc) (fun h10 H locs hw hG hS => ?_)
  obtain ⟨k11, hw⟩ := hw
  refine pf_G_18 C0 hG hS k11 hin dd_G_init_23 (fun H locs hG hS => ?_)
  replace hw := hw _ rfl
  generalize sR h10 a0 1 (some q7) = h12 at hw hG
  refine lv_aload_n hx hb dd_G_init_26 rfl (lv_at hl 0 rfl) ?_
  refine lv_bipush (v := 30) hx hb dd_G_init_27 (by decide) ?_
  obtain ⟨hc1, hc2, hw⟩ := hw
  refine px_newI C0 hG hS km_26 (N := 30) (by decide) (by decide) (by decide) hc1 hc2 dd_G_init_29 (fun q13 H z0 zq hG hS => ?_)
  replace hw := hw q13 z0 zq _ rfl
  generalize mkC h12 q13 21 30 = h14 at hw hG
  have hkc := And.intro hc1 hc2
  obtain ⟨k15, hw⟩ := hw
  refine pf_G_21 C0 hG hS k15 hin dd_G_init_31 (fun H locs hG hS => ?_)
  replace hw := hw _ rfl
  generalize sR h14 a0 2 (some q13) = h16 at hw hG
  refine lv_aload_n hx hb dd_G_init_34 rfl (lv_at hl 0 rfl) ?_
  refine lv_bipush (v := 30) hx hb dd_G_init_35 (by decide) ?_
  obtain ⟨hc1, hc2, hw⟩ := hw
  refine px_newZ C0 hG hS km_28 (N := 30) (by decide) (by decide) (by decide) hc1 hc2 dd_G_init_37 (fun q17 H z0 zq hG hS => ?_)
  replace hw := hw q17 z0 zq _ rfl
  generalize mkC h16 q17 23 30 = h18 at hw hG
  have hkc := And.intro hc1 hc2
  obtain ⟨k19, hw⟩ := hw
  refine pf_G_25 C0 hG hS k19 hin dd_G_init_39 (fun H locs hG hS => ?_)
  replace hw := hw _ rfl
  generalize sR h18 a0 3 (some q17) = h20 at hw hG
  refine lv_aload_n hx hb dd_G_init_42 rfl (lv_at hl 0 rfl) ?_
  refine lv_bipush (v := 30) hx hb dd_G_init_43 (by decide) ?_
  obtain ⟨hc1, hc2, hw⟩ := hw
  refine px_newZ C0 hG hS km_28 (N := 30) (by decide) (by decide) (by decide) hc1 hc2 dd_G_init_45 (fun q21 H z0 zq hG hS => ?_)
  replace hw := hw q21 z0 zq _ rfl
  generalize mkC h20 q21 23 30 = h22 at hw hG
  have hkc := And.intro hc1 hc2
  obtain ⟨k23, hw⟩ := hw
  refine pf_G_29 C0 hG hS k23 hin dd_G_init_47 (fun H locs hG hS => ?_)
  replace hw := hw _ rfl
  generalize sR h22 a0 4 (some q21) = h24 at hw hG
  exact re_v C0 hG hS hr hlk hkc hw dd_G_init_50
/-! SegmentLocks$Rings.begin(LSegmentLocks$Task;)V -/
theorem dd_G_begin_0 : decode prog_2_method_5_code 0 = .ok (.iconst 0, 1) := by decide +kernel
theorem dd_G_begin_1 : decode prog_2_method_5_code 1 = .ok (.istore_n 2, 1) := by decide +kernel
theorem dd_G_begin_2 : decode prog_2_method_5_code 2 = .ok (.iload_n 2, 1) := by decide +kernel
theorem dd_G_begin_3 : decode prog_2_method_5_code 3 = .ok (.bipush 30, 2) := by decide +kernel
theorem dd_G_begin_5 : decode prog_2_method_5_code 5 = .ok (.if_icmp .ge 16, 3) := by decide +kernel
theorem dd_G_begin_8 : decode prog_2_method_5_code 8 = .ok (.aload_n 0, 1) := by decide +kernel
theorem dd_G_begin_9 : decode prog_2_method_5_code 9 = .ok (.getfield 25, 3) := by decide +kernel
theorem dd_G_begin_12 : decode prog_2_method_5_code 12 = .ok (.iload_n 2, 1) := by decide +kernel
theorem dd_G_begin_13 : decode prog_2_method_5_code 13 = .ok (.iconst 0, 1) := by decide +kernel
theorem dd_G_begin_14 : decode prog_2_method_5_code 14 = .ok (.bastore, 1) := by decide +kernel
theorem dd_G_begin_15 : decode prog_2_method_5_code 15 = .ok (.iinc 2 1, 3) := by decide +kernel
theorem dd_G_begin_18 : decode prog_2_method_5_code 18 = .ok (.goto (-16), 3) := by decide +kernel
theorem dd_G_begin_21 : decode prog_2_method_5_code 21 = .ok (.aload_n 0, 1) := by decide +kernel
theorem dd_G_begin_22 : decode prog_2_method_5_code 22 = .ok (.getfield 21, 3) := by decide +kernel
theorem dd_G_begin_25 : decode prog_2_method_5_code 25 = .ok (.iconst 0, 1) := by decide +kernel
theorem dd_G_begin_26 : decode prog_2_method_5_code 26 = .ok (.iconst 0, 1) := by decide +kernel
theorem dd_G_begin_27 : decode prog_2_method_5_code 27 = .ok (.iastore, 1) := by decide +kernel
theorem dd_G_begin_28 : decode prog_2_method_5_code 28 = .ok (.aload_n 0, 1) := by decide +kernel
theorem dd_G_begin_29 : decode prog_2_method_5_code 29 = .ok (.getfield 18, 3) := by decide +kernel
theorem dd_G_begin_32 : decode prog_2_method_5_code 32 = .ok (.invokevirtual 66, 3) := by decide +kernel
theorem dd_G_begin_35 : decode prog_2_method_5_code 35 = .ok (.aload_n 0, 1) := by decide +kernel
theorem dd_G_begin_36 : decode prog_2_method_5_code 36 = .ok (.getfield 18, 3) := by decide +kernel
theorem dd_G_begin_39 : decode prog_2_method_5_code 39 = .ok (.aload_n 1, 1) := by decide +kernel
theorem dd_G_begin_40 : decode prog_2_method_5_code 40 = .ok (.invokevirtual 69, 3) := by decide +kernel
theorem dd_G_begin_43 : decode prog_2_method_5_code 43 = .ok (.pop, 1) := by decide +kernel
theorem dd_G_begin_44 : decode prog_2_method_5_code 44 = .ok (.return_, 1) := by decide +kernel
def wp_G_begin_2 (g : Gm) (post : Hp → Prop) (mc ms : Nat) : Nat → Hp → Nat → Nat → Nat → Nat → Int32 → Prop
  | 0, _, _, _, _, _, _ => False
  | fu + 1, h, kc, ks, v0, v1, v2 => ((30 ≤ v2 → hK h v0 = 3 ∧ ∃ a3 : Nat, hR h v0 2 = some a3 ∧ hK h a3 = 21 ∧ vp_in 0 (hN h a3) ∧ ∀ h5 : Hp, h5 = sI h a3 (0 : Int32).toNatClampNeg 0 → hK h5 v0 = 3 ∧ ∃ a7 : Nat, hR h5 v0 1 = some a7 ∧ hK h5 a7 = 6 ∧ wp_A_clear g (fun h9 => hK h9 v0 = 3 ∧ ∃ a11 : Nat, hR h9 v0 1 = some a11 ∧ hK h9 a11 = 6 ∧ ∃ mc15 ms16 : Nat, kc + mc15 ≤ mc ∧ ks + ms16 ≤ ms ∧ wp_A_add2 g (fun x14 h13 => post h13) mc15 ms16 h9 a11 v1) h5 a7) ∧ (¬ 30 ≤ v2 → hK h v0 = 3 ∧ ∃ a18 : Nat, hR h v0 3 = some a18 ∧ hK h a18 = 23 ∧ vp_in v2 (hN h a18) ∧ zB 0 ∧ ∀ h20 : Hp, h20 = sI h a18 v2.toNatClampNeg 0 → ∀ x21 : Int32, x21 = v2 + 1 → wp_G_begin_2 g post mc ms fu h20 kc ks v0 v1 x21))
set_option maxHeartbeats 4000000 in
set_option maxRecDepth 100000 in
theorem wk_G_begin_2 {p : Program} {l : Launch} {e : Env} {s : State} {m : MethodId} {args : Array Value} {below : List Frame} {meth : Method} {c : Code} {g : Gm} {post : Hp → Prop} {mc ms : Nat} (C0 : Cx g p s m args c prog_2_method_5_code 3 "SegmentLocks$Rings") (hr : meth.sig.returnType = none) (hlk : meth.locks = false) : ∀ n : Nat, ∀ (h : Hp) (kc ks : Nat) (v0 : Nat) (v1 : Nat) (v2 : Int32) (H : Heap) (locs : List Loc) (ls : Array Slot), wp_G_begin_2 g post mc ms n h kc ks v0 v1 v2 → GH g h H → va_S (gA g) s.heap H locs → kc ≤ mc ∧ ks ≤ ms → lv_has ls 3 [(0, .ref v0), (1, .ref v1), (2, .int v2)] → W p l e (rmm 7 191 mc ms) s m args below meth c H locs kc ks (MQ below (va_Qv post (gS g) (gA g)) args s mc ms (gA g)) (F0 m 2 ls []) := by
  obtain ⟨hx, hb, -, hown, hts, hgk⟩ := id C0
  intro n
  induction n with
  | zero =>
    intro h kc ks v0 v1 v2 H locs ls hw hG hS hkc hl
    exact hw.elim
  | succ n ih =>
    intro h kc ks v0 v1 v2 H locs ls hw hG hS hkc hl
    unfold wp_G_begin_2 at hw
    refine lv_iload_n hx hb dd_G_begin_2 rfl (lv_at hl 2 rfl) ?_
    refine lv_bipush (v := 30) hx hb dd_G_begin_3 (by decide) ?_
    refine lv_icmp_ge (tgt := 21) hx hb dd_G_begin_5 (by decide) (fun c1 => ?_) (fun c1 => ?_)
    · replace hw := hw.1 c1
      refine lv_aload_n hx hb dd_G_begin_21 rfl (lv_at hl 0 rfl) ?_
      obtain ⟨k2, a3, ea3, hw⟩ := hw
      refine gf_G_21 C0 hG k2 ea3 dd_G_begin_22 ?_
      refine lv_iconst (v := 0) hx hb dd_G_begin_25 (by decide) ?_
      refine lv_iconst (v := 0) hx hb dd_G_begin_26 (by decide) ?_
      obtain ⟨k4, k4i, hw⟩ := hw
      refine px_iast C0 hG hS k4 k4i dd_G_begin_27 (fun H locs hG hS => ?_)
      replace hw := hw _ rfl
      generalize sI h a3 (0 : Int32).toNatClampNeg 0 = h5 at hw hG
      refine lv_aload_n hx hb dd_G_begin_28 rfl (lv_at hl 0 rfl) ?_
      obtain ⟨k6, a7, ea7, hw⟩ := hw
      refine gf_G_18 C0 hG k6 ea7 dd_G_begin_29 ?_
      obtain ⟨k8, hw⟩ := hw
      refine ca_v hS (rn_V C0 hG hS (c_A_clear l g _ h5 a7 hw) (ci := 5) k8 (by decide) rfl rfl (host := "") (nest := false) (n := 0) (As := []) (rest := []) km_223 km_222 km_224 km_225 km_17 ⟨by decide, by decide, by decide +kernel⟩ ⟨Nat.le_of_ble_eq_true rfl, Nat.le_of_ble_eq_true rfl⟩ rfl hl.1 rfl (Nat.le_of_ble_eq_true rfl) dd_G_begin_32 hkc) (fun h9 H locs hw hG hS => ?_)
      refine lv_aload_n hx hb dd_G_begin_35 rfl (lv_at hl 0 rfl) ?_
      obtain ⟨k10, a11, ea11, hw⟩ := hw
      refine gf_G_18 C0 hG k10 ea11 dd_G_begin_36 ?_
      refine lv_aload_n hx hb dd_G_begin_39 rfl (lv_at hl 1 rfl) ?_
      obtain ⟨k12, hw⟩ := hw
      obtain ⟨mc15, ms16, hc1, hc2, hw⟩ := hw
      refine ca_i hS (rn_V C0 hG hS (c_A_add2 l g _ mc15 ms16 h9 a11 v1 hw) (ci := 5) k12 (by decide) rfl rfl (host := "") (nest := false) (n := 1) (As := [.ref v1]) (rest := []) km_125 km_221 km_126 km_127 km_17 ⟨by decide, by decide, by decide +kernel⟩ ⟨Nat.le_of_ble_eq_true rfl, Nat.le_of_ble_eq_true rfl⟩ rfl hl.1 rfl (Nat.le_of_ble_eq_true rfl) dd_G_begin_40 ⟨hc1, hc2⟩) (fun x14 h13 H locs hw hG hS => ?_)
      have hkc := And.intro hc1 hc2
      refine lv_pop hx hb dd_G_begin_43 rfl ?_
      exact re_v C0 hG hS hr hlk hkc hw dd_G_begin_44
    · replace hw := hw.2 c1
      refine lv_aload_n hx hb dd_G_begin_8 rfl (lv_at hl 0 rfl) ?_
      obtain ⟨k17, a18, ea18, hw⟩ := hw
      refine gf_G_25 C0 hG k17 ea18 dd_G_begin_9 ?_
      refine lv_iload_n hx hb dd_G_begin_12 rfl (lv_at hl 2 rfl) ?_
      refine lv_iconst (v := 0) hx hb dd_G_begin_13 (by decide) ?_
      obtain ⟨k19, k19i, hz, hw⟩ := hw
      refine px_zast C0 hG hS k19 k19i hz.nar dd_G_begin_14 (fun H locs hG hS => ?_)
      replace hw := hw _ rfl
      generalize sI h a18 v2.toNatClampNeg 0 = h20 at hw hG
      obtain ⟨x21, ex21⟩ : ∃ y : Int32, y = v2 + 1 := ⟨_, rfl⟩
      replace hw := hw x21 ex21
      have hl0 := hl
      clear hl
      refine lv_iinc (v := x21) (lv' := [(2, .int x21), (0, .ref v0), (1, .ref v1)]) hx hb dd_G_begin_15 hl0 (k := 2) rfl (by rw [ex21]; rfl) (by decide) rfl (fun ls hl => ?_)
      refine lv_goto (tgt := 2) hx hb dd_G_begin_18 (by decide) ?_
      exact ih _ _ _ _ _ _ _ _ _ hw hG hS hkc (lv_sub hl [1, 2, 0] rfl)
def wp_G_begin (g : Gm) (post : Hp → Prop) (mc ms : Nat) (h : Hp) (a0 : Nat) (b1 : Nat) : Prop := ∃ n : Nat, wp_G_begin_2 g post mc ms n h 0 0 a0 b1 0
set_option maxHeartbeats 4000000 in
set_option maxRecDepth 100000 in
theorem c_G_begin (l : Launch) (g : Gm) (post : Hp → Prop) (mc ms : Nat) (h : Hp) (a0 : Nat) (b1 : Nat) (hw : wp_G_begin g post mc ms h a0 b1) : Met l (⟨"SegmentLocks$Rings", "begin", "(LSegmentLocks$Task;)V"⟩ : MethodName) (ww (⟨"SegmentLocks$Rings", "begin", "(LSegmentLocks$Task;)V"⟩ : MethodName) prog_2_method_5_code 3 none) (rmm 7 191 mc ms) (va_Pc [.ref a0, .ref b1] (gS g h)) (va_Qv post (gS g) (gA g)) mc ms (gA g) := by
  first | refine en_met (by decide) ?_ | refine en_metF (by decide) ?_
  intro p e s m below meth c C0 hr hlk hin hG
  have hS : va_S (gA g) s.heap s.heap [] := va_S.rf
  have hl := lv_entry ([.ref a0, .ref b1]) (n := 3) (Nat.le_of_ble_eq_true rfl)
  rw [lg_entry_eq]
  generalize (lg_sl ([.ref a0, .ref b1]) ++ List.replicate (3 - (lg_sl ([.ref a0, .ref b1])).length) Slot.unset).toArray = ls at hl ⊢
  replace hl : lv_has ls 3 [(0, .ref a0), (1, .ref b1)] := hl
  obtain ⟨hx, hb, -, hown, hts, hgk⟩ := id C0
  have hkc : 0 ≤ mc ∧ 0 ≤ ms := ⟨Nat.zero_le _, Nat.zero_le _⟩
  unfold wp_G_begin at hw
  refine lv_iconst (v := 0) hx hb dd_G_begin_0 (by decide) ?_
  have hl0 := hl
  clear hl
  refine lv_istore_n (lv' := [(2, .int 0), (0, .ref a0), (1, .ref b1)]) hx hb dd_G_begin_1 rfl hl0 (by decide) rfl (fun ls hl => ?_)
  obtain ⟨n, hw⟩ := hw
  exact wk_G_begin_2 C0 hr hlk n _ _ _ _ _ _ _ _ _ hw hG hS hkc (lv_sub hl [1, 2, 0] rfl)
/-! SegmentLocks$Rings.markBlockers(Ljava/util/ArrayList;LSegmentLocks$Rows;LSegmentLocks$Task;)V -/
theorem dd_G_markBlockers_0 : decode prog_2_method_6_code 0 = .ok (.aload_n 3, 1) := by decide +kernel
theorem dd_G_markBlockers_1 : decode prog_2_method_6_code 1 = .ok (.getfield 73, 3) := by decide +kernel
theorem dd_G_markBlockers_4 : decode prog_2_method_6_code 4 = .ok (.istore 4, 2) := by decide +kernel
theorem dd_G_markBlockers_6 : decode prog_2_method_6_code 6 = .ok (.iconst 0, 1) := by decide +kernel
theorem dd_G_markBlockers_7 : decode prog_2_method_6_code 7 = .ok (.istore 5, 2) := by decide +kernel
theorem dd_G_markBlockers_9 : decode prog_2_method_6_code 9 = .ok (.iload 5, 2) := by decide +kernel
theorem dd_G_markBlockers_11 : decode prog_2_method_6_code 11 = .ok (.bipush 30, 2) := by decide +kernel
theorem dd_G_markBlockers_13 : decode prog_2_method_6_code 13 = .ok (.if_icmp .ge 17, 3) := by decide +kernel
theorem dd_G_markBlockers_16 : decode prog_2_method_6_code 16 = .ok (.aload_n 0, 1) := by decide +kernel
theorem dd_G_markBlockers_17 : decode prog_2_method_6_code 17 = .ok (.getfield 29, 3) := by decide +kernel
theorem dd_G_markBlockers_20 : decode prog_2_method_6_code 20 = .ok (.iload 5, 2) := by decide +kernel
theorem dd_G_markBlockers_22 : decode prog_2_method_6_code 22 = .ok (.iconst 0, 1) := by decide +kernel
theorem dd_G_markBlockers_23 : decode prog_2_method_6_code 23 = .ok (.bastore, 1) := by decide +kernel
theorem dd_G_markBlockers_24 : decode prog_2_method_6_code 24 = .ok (.iinc 5 1, 3) := by decide +kernel
theorem dd_G_markBlockers_27 : decode prog_2_method_6_code 27 = .ok (.goto (-18), 3) := by decide +kernel
theorem dd_G_markBlockers_30 : decode prog_2_method_6_code 30 = .ok (.iload 4, 2) := by decide +kernel
theorem dd_G_markBlockers_32 : decode prog_2_method_6_code 32 = .ok (.invokestatic 76, 3) := by decide +kernel
theorem dd_G_markBlockers_35 : decode prog_2_method_6_code 35 = .ok (.ifCond .ne 4, 3) := by decide +kernel
theorem dd_G_markBlockers_38 : decode prog_2_method_6_code 38 = .ok (.return_, 1) := by decide +kernel
theorem dd_G_markBlockers_39 : decode prog_2_method_6_code 39 = .ok (.iconst 0, 1) := by decide +kernel
theorem dd_G_markBlockers_40 : decode prog_2_method_6_code 40 = .ok (.istore 5, 2) := by decide +kernel
theorem dd_G_markBlockers_42 : decode prog_2_method_6_code 42 = .ok (.iload 5, 2) := by decide +kernel
theorem dd_G_markBlockers_44 : decode prog_2_method_6_code 44 = .ok (.bipush 30, 2) := by decide +kernel
theorem dd_G_markBlockers_46 : decode prog_2_method_6_code 46 = .ok (.if_icmp .ge 65, 3) := by decide +kernel
theorem dd_G_markBlockers_49 : decode prog_2_method_6_code 49 = .ok (.iload 5, 2) := by decide +kernel
theorem dd_G_markBlockers_51 : decode prog_2_method_6_code 51 = .ok (.aload_n 1, 1) := by decide +kernel
theorem dd_G_markBlockers_52 : decode prog_2_method_6_code 52 = .ok (.invokevirtual 32, 3) := by decide +kernel
theorem dd_G_markBlockers_55 : decode prog_2_method_6_code 55 = .ok (.if_icmp .ge 56, 3) := by decide +kernel
theorem dd_G_markBlockers_58 : decode prog_2_method_6_code 58 = .ok (.aload_n 1, 1) := by decide +kernel
theorem dd_G_markBlockers_59 : decode prog_2_method_6_code 59 = .ok (.iload 5, 2) := by decide +kernel
theorem dd_G_markBlockers_61 : decode prog_2_method_6_code 61 = .ok (.invokevirtual 36, 3) := by decide +kernel
theorem dd_G_markBlockers_64 : decode prog_2_method_6_code 64 = .ok (.checkcast 40, 3) := by decide +kernel
theorem dd_G_markBlockers_67 : decode prog_2_method_6_code 67 = .ok (.astore 6, 2) := by decide +kernel
theorem dd_G_markBlockers_69 : decode prog_2_method_6_code 69 = .ok (.aload_n 0, 1) := by decide +kernel
theorem dd_G_markBlockers_70 : decode prog_2_method_6_code 70 = .ok (.getfield 29, 3) := by decide +kernel
theorem dd_G_markBlockers_73 : decode prog_2_method_6_code 73 = .ok (.iload 5, 2) := by decide +kernel
theorem dd_G_markBlockers_75 : decode prog_2_method_6_code 75 = .ok (.aload 6, 2) := by decide +kernel
theorem dd_G_markBlockers_77 : decode prog_2_method_6_code 77 = .ok (.aload_n 3, 1) := by decide +kernel
theorem dd_G_markBlockers_78 : decode prog_2_method_6_code 78 = .ok (.if_acmp .eq 25, 3) := by decide +kernel
theorem dd_G_markBlockers_81 : decode prog_2_method_6_code 81 = .ok (.aload 6, 2) := by decide +kernel
theorem dd_G_markBlockers_83 : decode prog_2_method_6_code 83 = .ok (.getfield 80, 3) := by decide +kernel
theorem dd_G_markBlockers_86 : decode prog_2_method_6_code 86 = .ok (.iload 4, 2) := by decide +kernel
theorem dd_G_markBlockers_88 : decode prog_2_method_6_code 88 = .ok (.iaload, 1) := by decide +kernel
theorem dd_G_markBlockers_89 : decode prog_2_method_6_code 89 = .ok (.aload_n 3, 1) := by decide +kernel
theorem dd_G_markBlockers_90 : decode prog_2_method_6_code 90 = .ok (.getfield 83, 3) := by decide +kernel
theorem dd_G_markBlockers_93 : decode prog_2_method_6_code 93 = .ok (.invokestatic 86, 3) := by decide +kernel
theorem dd_G_markBlockers_96 : decode prog_2_method_6_code 96 = .ok (.ifCond .ne 7, 3) := by decide +kernel
theorem dd_G_markBlockers_99 : decode prog_2_method_6_code 99 = .ok (.iconst 1, 1) := by decide +kernel
theorem dd_G_markBlockers_100 : decode prog_2_method_6_code 100 = .ok (.goto 4, 3) := by decide +kernel
theorem dd_G_markBlockers_103 : decode prog_2_method_6_code 103 = .ok (.iconst 0, 1) := by decide +kernel
theorem dd_G_markBlockers_104 : decode prog_2_method_6_code 104 = .ok (.bastore, 1) := by decide +kernel
theorem dd_G_markBlockers_105 : decode prog_2_method_6_code 105 = .ok (.iinc 5 1, 3) := by decide +kernel
theorem dd_G_markBlockers_108 : decode prog_2_method_6_code 108 = .ok (.goto (-66), 3) := by decide +kernel
theorem dd_G_markBlockers_111 : decode prog_2_method_6_code 111 = .ok (.aload_n 2, 1) := by decide +kernel
theorem dd_G_markBlockers_112 : decode prog_2_method_6_code 112 = .ok (.aload_n 3, 1) := by decide +kernel
theorem dd_G_markBlockers_113 : decode prog_2_method_6_code 113 = .ok (.aload_n 0, 1) := by decide +kernel
theorem dd_G_markBlockers_114 : decode prog_2_method_6_code 114 = .ok (.getfield 29, 3) := by decide +kernel
theorem dd_G_markBlockers_117 : decode prog_2_method_6_code 117 = .ok (.invokevirtual 90, 3) := by decide +kernel
theorem dd_G_markBlockers_120 : decode prog_2_method_6_code 120 = .ok (.return_, 1) := by decide +kernel
def wp_G_markBlockers_111 (g : Gm) (post : Hp → Prop) (h : Hp) (v0 : Nat) (v2 : Nat) (v3 : Nat) : Prop := hK h v0 = 3 ∧ ∃ a2 : Nat, hR h v0 4 = some a2 ∧ hK h v2 = 2 ∧ wp_W_markAhead g (fun h4 => post h4) h v2 v3 a2
set_option maxHeartbeats 4000000 in
set_option maxRecDepth 100000 in
theorem wk_G_markBlockers_111 {p : Program} {l : Launch} {e : Env} {s : State} {m : MethodId} {args : Array Value} {below : List Frame} {meth : Method} {c : Code} {g : Gm} {post : Hp → Prop} (C0 : Cx g p s m args c prog_2_method_6_code 7 "SegmentLocks$Rings") (hr : meth.sig.returnType = none) (hlk : meth.locks = false) : ∀ (h : Hp) (v0 : Nat) (v2 : Nat) (v3 : Nat) (H : Heap) (locs : List Loc) (ls : Array Slot), wp_G_markBlockers_111 g post h v0 v2 v3 → GH g h H → va_S (gA g) s.heap H locs → lv_has ls 7 [(0, .ref v0), (2, .ref v2), (3, .ref v3)] → W p l e (rmm 5 111 0 0) s m args below meth c H locs 0 0 (MQ below (va_Qv post (gS g) (gA g)) args s 0 0 (gA g)) (F0 m 111 ls []) := by
  obtain ⟨hx, hb, -, hown, hts, hgk⟩ := id C0
  intro h v0 v2 v3 H locs ls hw hG hS hl
  unfold wp_G_markBlockers_111 at hw
  refine lv_aload_n hx hb dd_G_markBlockers_111 rfl (lv_at hl 1 rfl) ?_
  refine lv_aload_n hx hb dd_G_markBlockers_112 rfl (lv_at hl 2 rfl) ?_
  refine lv_aload_n hx hb dd_G_markBlockers_113 rfl (lv_at hl 0 rfl) ?_
  obtain ⟨k1, a2, ea2, hw⟩ := hw
  refine gf_G_29 C0 hG k1 ea2 dd_G_markBlockers_114 ?_
  obtain ⟨k3, hw⟩ := hw
  refine ca_v hS (rn_V C0 hG hS (c_W_markAhead l g _ h v2 v3 a2 hw) (ci := 1) k3 (by decide) rfl rfl (host := "SegmentLocks") (nest := true) (n := 2) (As := [.ref v3, .ref a2]) (rest := []) km_232 km_231 km_233 km_234 km_39 ⟨by decide, by decide, by decide +kernel⟩ ⟨Nat.le_of_ble_eq_true rfl, Nat.le_of_ble_eq_true rfl⟩ rfl hl.1 rfl (Nat.le_of_ble_eq_true rfl) dd_G_markBlockers_117 ⟨Nat.le_refl _, Nat.le_refl _⟩) (fun h4 H locs hw hG hS => ?_)
  exact re_v C0 hG hS hr hlk ⟨Nat.le_refl _, Nat.le_refl _⟩ hw dd_G_markBlockers_120
def wp_G_markBlockers_104 (g : Gm) (post : Hp → Prop) (K42 : Hp → Nat → Nat → Nat → Nat → Int32 → Int32 → Prop) (h : Hp) (v0 : Nat) (v1 : Nat) (v2 : Nat) (v3 : Nat) (v4 : Int32) (v5 : Int32) (s0 : Nat) (s1 : Int32) (s2 : Int32) : Prop := hK h s0 = 23 ∧ vp_in s1 (hN h s0) ∧ zB s2 ∧ ∀ h2 : Hp, h2 = sI h s0 s1.toNatClampNeg s2 → ∀ x3 : Int32, x3 = v5 + 1 → K42 h2 v0 v1 v2 v3 v4 x3
set_option maxHeartbeats 4000000 in
set_option maxRecDepth 100000 in
theorem wk_G_markBlockers_104 {p : Program} {l : Launch} {e : Env} {s : State} {m : MethodId} {args : Array Value} {below : List Frame} {meth : Method} {c : Code} {g : Gm} {post : Hp → Prop} (C0 : Cx g p s m args c prog_2_method_6_code 7 "SegmentLocks$Rings") (hr : meth.sig.returnType = none) (hlk : meth.locks = false) {K42 : Hp → Nat → Nat → Nat → Nat → Int32 → Int32 → Prop} (hK42 : ∀ (h : Hp) (v0 : Nat) (v1 : Nat) (v2 : Nat) (v3 : Nat) (v4 : Int32) (v5 : Int32) (H : Heap) (locs : List Loc) (ls : Array Slot), K42 h v0 v1 v2 v3 v4 v5 → GH g h H → va_S (gA g) s.heap H locs → lv_has ls 7 [(0, .ref v0), (1, .ref v1), (2, .ref v2), (3, .ref v3), (4, .int v4), (5, .int v5)] → W p l e (rmm 5 111 0 0) s m args below meth c H locs 0 0 (MQ below (va_Qv post (gS g) (gA g)) args s 0 0 (gA g)) (F0 m 42 ls [])) : ∀ (h : Hp) (v0 : Nat) (v1 : Nat) (v2 : Nat) (v3 : Nat) (v4 : Int32) (v5 : Int32) (s0 : Nat) (s1 : Int32) (s2 : Int32) (H : Heap) (locs : List Loc) (ls : Array Slot), wp_G_markBlockers_104 g post K42 h v0 v1 v2 v3 v4 v5 s0 s1 s2 → GH g h H → va_S (gA g) s.heap H locs → lv_has ls 7 [(0, .ref v0), (1, .ref v1), (2, .ref v2), (3, .ref v3), (4, .int v4), (5, .int v5)] → W p l e (rmm 5 111 0 0) s m args below meth c H locs 0 0 (MQ below (va_Qv post (gS g) (gA g)) args s 0 0 (gA g)) (F0 m 104 ls [.int s2, .int s1, .ref s0]) := by
  obtain ⟨hx, hb, -, hown, hts, hgk⟩ := id C0
  intro h v0 v1 v2 v3 v4 v5 s0 s1 s2 H locs ls hw hG hS hl
  unfold wp_G_markBlockers_104 at hw
  obtain ⟨k1, k1i, hz, hw⟩ := hw
  refine px_zast C0 hG hS k1 k1i hz.nar dd_G_markBlockers_104 (fun H locs hG hS => ?_)
  replace hw := hw _ rfl
  generalize sI h s0 s1.toNatClampNeg s2 = h2 at hw hG
  obtain ⟨x3, ex3⟩ : ∃ y : Int32, y = v5 + 1 := ⟨_, rfl⟩
  replace hw := hw x3 ex3
  have hl0 := hl
  clear hl
  refine lv_iinc (v := x3) (lv' := [(5, .int x3), (0, .ref v0), (1, .ref v1), (2, .ref v2), (3, .ref v3), (4, .int v4)]) hx hb dd_G_markBlockers_105 hl0 (k := 5) rfl (by rw [ex3]; rfl) (by decide) rfl (fun ls hl => ?_)
  refine lv_goto (tgt := 42) hx hb dd_G_markBlockers_108 (by decide) ?_
  exact hK42 _ _ _ _ _ _ _ _ _ _ hw hG hS (lv_sub hl [1, 2, 3, 4, 5, 0] rfl)
def wp_G_markBlockers_103 (g : Gm) (post : Hp → Prop) (K42 : Hp → Nat → Nat → Nat → Nat → Int32 → Int32 → Prop) (h : Hp) (v0 : Nat) (v1 : Nat) (v2 : Nat) (v3 : Nat) (v4 : Int32) (v5 : Int32) (s0 : Nat) (s1 : Int32) : Prop := wp_G_markBlockers_104 g post K42 h v0 v1 v2 v3 v4 v5 s0 s1 0
set_option maxHeartbeats 4000000 in
set_option maxRecDepth 100000 in
theorem wk_G_markBlockers_103 {p : Program} {l : Launch} {e : Env} {s : State} {m : MethodId} {args : Array Value} {below : List Frame} {meth : Method} {c : Code} {g : Gm} {post : Hp → Prop} (C0 : Cx g p s m args c prog_2_method_6_code 7 "SegmentLocks$Rings") (hr : meth.sig.returnType = none) (hlk : meth.locks = false) {K42 : Hp → Nat → Nat → Nat → Nat → Int32 → Int32 → Prop} (hK42 : ∀ (h : Hp) (v0 : Nat) (v1 : Nat) (v2 : Nat) (v3 : Nat) (v4 : Int32) (v5 : Int32) (H : Heap) (locs : List Loc) (ls : Array Slot), K42 h v0 v1 v2 v3 v4 v5 → GH g h H → va_S (gA g) s.heap H locs → lv_has ls 7 [(0, .ref v0), (1, .ref v1), (2, .ref v2), (3, .ref v3), (4, .int v4), (5, .int v5)] → W p l e (rmm 5 111 0 0) s m args below meth c H locs 0 0 (MQ below (va_Qv post (gS g) (gA g)) args s 0 0 (gA g)) (F0 m 42 ls [])) : ∀ (h : Hp) (v0 : Nat) (v1 : Nat) (v2 : Nat) (v3 : Nat) (v4 : Int32) (v5 : Int32) (s0 : Nat) (s1 : Int32) (H : Heap) (locs : List Loc) (ls : Array Slot), wp_G_markBlockers_103 g post K42 h v0 v1 v2 v3 v4 v5 s0 s1 → GH g h H → va_S (gA g) s.heap H locs → lv_has ls 7 [(0, .ref v0), (1, .ref v1), (2, .ref v2), (3, .ref v3), (4, .int v4), (5, .int v5)] → W p l e (rmm 5 111 0 0) s m args below meth c H locs 0 0 (MQ below (va_Qv post (gS g) (gA g)) args s 0 0 (gA g)) (F0 m 103 ls [.int s1, .ref s0]) := by
  obtain ⟨hx, hb, -, hown, hts, hgk⟩ := id C0
  intro h v0 v1 v2 v3 v4 v5 s0 s1 H locs ls hw hG hS hl
  unfold wp_G_markBlockers_103 at hw
  refine lv_iconst (v := 0) hx hb dd_G_markBlockers_103 (by decide) ?_
  exact wk_G_markBlockers_104 C0 hr hlk hK42 _ _ _ _ _ _ _ _ _ _ _ _ _ hw hG hS (lv_sub hl [0, 1, 2, 3, 4, 5] rfl)
def wp_G_markBlockers_42 (g : Gm) (post : Hp → Prop) : Nat → Hp → Nat → Nat → Nat → Nat → Int32 → Int32 → Prop
  | 0, _, _, _, _, _, _, _ => False
  | fu + 1, h, v0, v1, v2, v3, v4, v5 => ((30 ≤ v5 → wp_G_markBlockers_111 g post h v0 v2 v3) ∧ (¬ 30 ≤ v5 → hK h v1 = 6 ∧ wp_A_size g (fun x4 => ((x4 ≤ v5 → wp_G_markBlockers_111 g post h v0 v2 v3) ∧ (¬ x4 ≤ v5 → hK h v1 = 6 ∧ wp_A_get g (fun r8 => ∃ a9 : Nat, r8 = some a9 ∧ hK h a9 = 4 ∧ hK h v0 = 3 ∧ ∃ a12 : Nat, hR h v0 4 = some a12 ∧ (((some a9) = (some v3) → wp_G_markBlockers_103 g post (fun h v0 v1 v2 v3 v4 v5 => wp_G_markBlockers_42 g post fu h v0 v1 v2 v3 v4 v5) h v0 v1 v2 v3 v4 v5 a12 v5) ∧ (¬ (some a9) = (some v3) → hK h a9 = 4 ∧ ∃ a15 : Nat, hR h a9 2 = some a15 ∧ hK h a15 = 21 ∧ vp_in v4 (hN h a15) ∧ hK h v3 = 4 ∧ wp_S_areTogether g (fun x20 => ((¬ x20 = 0 → wp_G_markBlockers_103 g post (fun h v0 v1 v2 v3 v4 v5 => wp_G_markBlockers_42 g post fu h v0 v1 v2 v3 v4 v5) h v0 v1 v2 v3 v4 v5 a12 v5) ∧ (x20 = 0 → wp_G_markBlockers_104 g post (fun h v0 v1 v2 v3 v4 v5 => wp_G_markBlockers_42 g post fu h v0 v1 v2 v3 v4 v5) h v0 v1 v2 v3 v4 v5 a12 v5 1))) h (hI h a15 v4.toNatClampNeg) (hI h v3 14)))) h v1 v5))) h v1))
set_option maxHeartbeats 4000000 in
set_option maxRecDepth 100000 in
theorem wk_G_markBlockers_42 {p : Program} {l : Launch} {e : Env} {s : State} {m : MethodId} {args : Array Value} {below : List Frame} {meth : Method} {c : Code} {g : Gm} {post : Hp → Prop} (C0 : Cx g p s m args c prog_2_method_6_code 7 "SegmentLocks$Rings") (hr : meth.sig.returnType = none) (hlk : meth.locks = false) : ∀ n : Nat, ∀ (h : Hp) (v0 : Nat) (v1 : Nat) (v2 : Nat) (v3 : Nat) (v4 : Int32) (v5 : Int32) (H : Heap) (locs : List Loc) (ls : Array Slot), wp_G_markBlockers_42 g post n h v0 v1 v2 v3 v4 v5 → GH g h H → va_S (gA g) s.heap H locs → lv_has ls 7 [(0, .ref v0), (1, .ref v1), (2, .ref v2), (3, .ref v3), (4, .int v4), (5, .int v5)] → W p l e (rmm 5 111 0 0) s m args below meth c H locs 0 0 (MQ below (va_Qv post (gS g) (gA g)) args s 0 0 (gA g)) (F0 m 42 ls []) := by
  obtain ⟨hx, hb, -, hown, hts, hgk⟩ := id C0
  intro n
  induction n with
  | zero =>
    intro h v0 v1 v2 v3 v4 v5 H locs ls hw hG hS hl
    exact hw.elim
  | succ n ih =>
    intro h v0 v1 v2 v3 v4 v5 H locs ls hw hG hS hl
    unfold wp_G_markBlockers_42 at hw
    refine lv_iload hx hb dd_G_markBlockers_42 (lv_at hl 5 rfl) ?_
    refine lv_bipush (v := 30) hx hb dd_G_markBlockers_44 (by decide) ?_
    refine lv_icmp_ge (tgt := 111) hx hb dd_G_markBlockers_46 (by decide) (fun c1 => ?_) (fun c1 => ?_)
    · replace hw := hw.1 c1
      exact wk_G_markBlockers_111 C0 hr hlk _ _ _ _ _ _ _ hw hG hS (lv_sub hl [0, 2, 3] rfl)
    · replace hw := hw.2 c1
      refine lv_iload hx hb dd_G_markBlockers_49 (lv_at hl 5 rfl) ?_
      refine lv_aload_n hx hb dd_G_markBlockers_51 rfl (lv_at hl 1 rfl) ?_
      obtain ⟨k2, hw⟩ := hw
      have hw0 := hw
      clear hw
      refine cs_i (rn_V C0 hG hS (c_A_size l g _ h v1 hw0) (ci := 5) k2 (by decide) rfl rfl (host := "") (nest := false) (n := 0) (As := []) (rest := [.int v5]) km_132 km_240 km_133 km_134 km_17 ⟨by decide, by decide, by decide +kernel⟩ ⟨Nat.le_of_ble_eq_true rfl, Nat.le_of_ble_eq_true rfl⟩ rfl hl.1 rfl (Nat.le_of_ble_eq_true rfl) dd_G_markBlockers_52 ⟨Nat.le_refl _, Nat.le_refl _⟩) (fun x4 hw => ?_)
      refine lv_icmp_ge (tgt := 111) hx hb dd_G_markBlockers_55 (by decide) (fun c5 => ?_) (fun c5 => ?_)
      · replace hw := hw.1 c5
        exact wk_G_markBlockers_111 C0 hr hlk _ _ _ _ _ _ _ hw hG hS (lv_sub hl [0, 2, 3] rfl)
      · replace hw := hw.2 c5
        refine lv_aload_n hx hb dd_G_markBlockers_58 rfl (lv_at hl 1 rfl) ?_
        refine lv_iload hx hb dd_G_markBlockers_59 (lv_at hl 5 rfl) ?_
        obtain ⟨k6, hw⟩ := hw
        have hw0 := hw
        clear hw
        refine cs_q (rn_V C0 hG hS (c_A_get l g _ h v1 v5 hw0) (ci := 5) k6 (by decide) rfl rfl (host := "") (nest := false) (n := 1) (As := [.int v5]) (rest := []) km_149 km_239 km_150 km_151 km_17 ⟨by decide, by decide, by decide +kernel⟩ ⟨Nat.le_of_ble_eq_true rfl, Nat.le_of_ble_eq_true rfl⟩ rfl hl.1 rfl (Nat.le_of_ble_eq_true rfl) dd_G_markBlockers_61 ⟨Nat.le_refl _, Nat.le_refl _⟩) (fun r8 hw => ?_)
        obtain ⟨a9, rfl, hw⟩ := hw
        replace hl : lv_has ls 7 [(0, .ref v0), (1, .ref v1), (2, .ref v2), (3, .ref v3), (4, .int v4), (5, .int v5)] := hl
        obtain ⟨k10, hw⟩ := hw
        refine va_castY (C := RX3) hx hb hown (hts _ km_235) (hgk.2.1 _ km_147) (px_recv C0 hG (ci := 3) k10 (by decide) rfl) dd_G_markBlockers_64 ?_
        have hl0 := hl
        clear hl
        refine lv_astore (lv' := [(6, .ref a9), (0, .ref v0), (1, .ref v1), (2, .ref v2), (3, .ref v3), (4, .int v4), (5, .int v5)]) hx hb dd_G_markBlockers_67 hl0 (by decide) rfl (fun ls hl => ?_)
        refine lv_aload_n hx hb dd_G_markBlockers_69 rfl (lv_at hl 1 rfl) ?_
        obtain ⟨k11, a12, ea12, hw⟩ := hw
        refine gf_G_29 C0 hG k11 ea12 dd_G_markBlockers_70 ?_
        refine lv_iload hx hb dd_G_markBlockers_73 (lv_at hl 6 rfl) ?_
        refine lv_aload hx hb dd_G_markBlockers_75 (lv_at hl 0 rfl) ?_
        refine lv_aload_n hx hb dd_G_markBlockers_77 rfl (lv_at hl 4 rfl) ?_
        refine lv_acmp_eq (tgt := 103) (rx := (some a9)) (ry := (some v3)) hx hb dd_G_markBlockers_78 (by decide) (fun c13 => ?_) (fun c13 => ?_)
        · replace hw := hw.1 c13
          exact wk_G_markBlockers_103 C0 hr hlk ih _ _ _ _ _ _ _ _ _ _ _ _ hw hG hS (lv_sub hl [1, 2, 3, 4, 5, 6] rfl)
        · replace hw := hw.2 c13
          refine lv_aload hx hb dd_G_markBlockers_81 (lv_at hl 0 rfl) ?_
          obtain ⟨k14, a15, ea15, hw⟩ := hw
          refine gf_G_80 C0 hG k14 ea15 dd_G_markBlockers_83 ?_
          refine lv_iload hx hb dd_G_markBlockers_86 (lv_at hl 5 rfl) ?_
          obtain ⟨k16, k16i, hw⟩ := hw
          refine px_iald C0 hG k16 k16i dd_G_markBlockers_88 ?_
          refine lv_aload_n hx hb dd_G_markBlockers_89 rfl (lv_at hl 4 rfl) ?_
          obtain ⟨k17, hw⟩ := hw
          refine gf_G_83 C0 hG k17 dd_G_markBlockers_90 ?_
          have hw0 := hw
          clear hw
          refine cs_i (rn_S C0 hG hS (c_S_areTogether l g _ h (hI h a15 v4.toNatClampNeg) (hI h v3 14) hw0) (host := "SegmentLocks") (nest := true) (n := 2) (As := [.int (hI h a15 v4.toNatClampNeg), .int (hI h v3 14)]) (rest := [.int v5, .ref a12]) km_175 km_238 km_177 km_176 ⟨by decide, by decide, by decide +kernel⟩ ⟨Nat.le_of_ble_eq_true rfl, Nat.le_of_ble_eq_true rfl⟩ rfl hl.1 rfl (Nat.le_of_ble_eq_true rfl) dd_G_markBlockers_93 ⟨Nat.le_refl _, Nat.le_refl _⟩) (fun x20 hw => ?_)
          refine lv_if_ne (tgt := 103) hx hb dd_G_markBlockers_96 (by decide) (fun c21 => ?_) (fun c21 => ?_)
          · replace hw := hw.1 c21
            exact wk_G_markBlockers_103 C0 hr hlk ih _ _ _ _ _ _ _ _ _ _ _ _ hw hG hS (lv_sub hl [1, 2, 3, 4, 5, 6] rfl)
          · replace hw := hw.2 c21
            refine lv_iconst (v := 1) hx hb dd_G_markBlockers_99 (by decide) ?_
            refine lv_goto (tgt := 104) hx hb dd_G_markBlockers_100 (by decide) ?_
            exact wk_G_markBlockers_104 C0 hr hlk ih _ _ _ _ _ _ _ _ _ _ _ _ _ hw hG hS (lv_sub hl [1, 2, 3, 4, 5, 6] rfl)
def wp_G_markBlockers_9 (g : Gm) (post : Hp → Prop) : Nat → Hp → Nat → Nat → Nat → Nat → Int32 → Int32 → Prop
  | 0, _, _, _, _, _, _, _ => False
  | fu + 1, h, v0, v1, v2, v3, v4, v5 => ((30 ≤ v5 → wp_S_isSegment g (fun x4 => ((¬ x4 = 0 → ∃ n : Nat, wp_G_markBlockers_42 g post n h v0 v1 v2 v3 v4 0) ∧ (x4 = 0 → post h))) h v4) ∧ (¬ 30 ≤ v5 → hK h v0 = 3 ∧ ∃ a7 : Nat, hR h v0 4 = some a7 ∧ hK h a7 = 23 ∧ vp_in v5 (hN h a7) ∧ zB 0 ∧ ∀ h9 : Hp, h9 = sI h a7 v5.toNatClampNeg 0 → ∀ x10 : Int32, x10 = v5 + 1 → wp_G_markBlockers_9 g post fu h9 v0 v1 v2 v3 v4 x10))
set_option maxHeartbeats 4000000 in
set_option maxRecDepth 100000 in
theorem wk_G_markBlockers_9 {p : Program} {l : Launch} {e : Env} {s : State} {m : MethodId} {args : Array Value} {below : List Frame} {meth : Method} {c : Code} {g : Gm} {post : Hp → Prop} (C0 : Cx g p s m args c prog_2_method_6_code 7 "SegmentLocks$Rings") (hr : meth.sig.returnType = none) (hlk : meth.locks = false) : ∀ n : Nat, ∀ (h : Hp) (v0 : Nat) (v1 : Nat) (v2 : Nat) (v3 : Nat) (v4 : Int32) (v5 : Int32) (H : Heap) (locs : List Loc) (ls : Array Slot), wp_G_markBlockers_9 g post n h v0 v1 v2 v3 v4 v5 → GH g h H → va_S (gA g) s.heap H locs → lv_has ls 7 [(0, .ref v0), (1, .ref v1), (2, .ref v2), (3, .ref v3), (4, .int v4), (5, .int v5)] → W p l e (rmm 5 111 0 0) s m args below meth c H locs 0 0 (MQ below (va_Qv post (gS g) (gA g)) args s 0 0 (gA g)) (F0 m 9 ls []) := by
  obtain ⟨hx, hb, -, hown, hts, hgk⟩ := id C0
  intro n
  induction n with
  | zero =>
    intro h v0 v1 v2 v3 v4 v5 H locs ls hw hG hS hl
    exact hw.elim
  | succ n ih =>
    intro h v0 v1 v2 v3 v4 v5 H locs ls hw hG hS hl
    unfold wp_G_markBlockers_9 at hw
    refine lv_iload hx hb dd_G_markBlockers_9 (lv_at hl 5 rfl) ?_
    refine lv_bipush (v := 30) hx hb dd_G_markBlockers_11 (by decide) ?_
    refine lv_icmp_ge (tgt := 30) hx hb dd_G_markBlockers_13 (by decide) (fun c1 => ?_) (fun c1 => ?_)
    · replace hw := hw.1 c1
      refine lv_iload hx hb dd_G_markBlockers_30 (lv_at hl 4 rfl) ?_
      have hw0 := hw
      clear hw
      refine cs_i (rn_S C0 hG hS (c_S_isSegment l g _ h v4 hw0) (host := "SegmentLocks") (nest := true) (n := 1) (As := [.int v4]) (rest := []) km_219 km_241 km_220 km_176 ⟨by decide, by decide, by decide +kernel⟩ ⟨Nat.le_of_ble_eq_true rfl, Nat.le_of_ble_eq_true rfl⟩ rfl hl.1 rfl (Nat.le_of_ble_eq_true rfl) dd_G_markBlockers_32 ⟨Nat.le_refl _, Nat.le_refl _⟩) (fun x4 hw => ?_)
      refine lv_if_ne (tgt := 39) hx hb dd_G_markBlockers_35 (by decide) (fun c5 => ?_) (fun c5 => ?_)
      · replace hw := hw.1 c5
        refine lv_iconst (v := 0) hx hb dd_G_markBlockers_39 (by decide) ?_
        have hl0 := hl
        clear hl
        refine lv_istore (lv' := [(5, .int 0), (0, .ref v0), (1, .ref v1), (2, .ref v2), (3, .ref v3), (4, .int v4)]) hx hb dd_G_markBlockers_40 hl0 (by decide) rfl (fun ls hl => ?_)
        obtain ⟨n, hw⟩ := hw
        exact wk_G_markBlockers_42 C0 hr hlk n _ _ _ _ _ _ _ _ _ _ hw hG hS (lv_sub hl [1, 2, 3, 4, 5, 0] rfl)
      · replace hw := hw.2 c5
        exact re_v C0 hG hS hr hlk ⟨Nat.le_refl _, Nat.le_refl _⟩ hw dd_G_markBlockers_38
    · replace hw := hw.2 c1
      refine lv_aload_n hx hb dd_G_markBlockers_16 rfl (lv_at hl 0 rfl) ?_
      obtain ⟨k6, a7, ea7, hw⟩ := hw
      refine gf_G_29 C0 hG k6 ea7 dd_G_markBlockers_17 ?_
      refine lv_iload hx hb dd_G_markBlockers_20 (lv_at hl 5 rfl) ?_
      refine lv_iconst (v := 0) hx hb dd_G_markBlockers_22 (by decide) ?_
      obtain ⟨k8, k8i, hz, hw⟩ := hw
      refine px_zast C0 hG hS k8 k8i hz.nar dd_G_markBlockers_23 (fun H locs hG hS => ?_)
      replace hw := hw _ rfl
      generalize sI h a7 v5.toNatClampNeg 0 = h9 at hw hG
      obtain ⟨x10, ex10⟩ : ∃ y : Int32, y = v5 + 1 := ⟨_, rfl⟩
      replace hw := hw x10 ex10
      have hl0 := hl
      clear hl
      refine lv_iinc (v := x10) (lv' := [(5, .int x10), (0, .ref v0), (1, .ref v1), (2, .ref v2), (3, .ref v3), (4, .int v4)]) hx hb dd_G_markBlockers_24 hl0 (k := 5) rfl (by rw [ex10]; rfl) (by decide) rfl (fun ls hl => ?_)
      refine lv_goto (tgt := 9) hx hb dd_G_markBlockers_27 (by decide) ?_
      exact ih _ _ _ _ _ _ _ _ _ _ hw hG hS (lv_sub hl [1, 2, 3, 4, 5, 0] rfl)
def wp_G_markBlockers (g : Gm) (post : Hp → Prop) (h : Hp) (a0 : Nat) (b1 : Nat) (b2 : Nat) (b3 : Nat) : Prop := hK h b3 = 4 ∧ ∃ n : Nat, wp_G_markBlockers_9 g post n h a0 b1 b2 b3 (hI h b3 13) 0
set_option maxHeartbeats 4000000 in
set_option maxRecDepth 100000 in
theorem c_G_markBlockers (l : Launch) (g : Gm) (post : Hp → Prop) (h : Hp) (a0 : Nat) (b1 : Nat) (b2 : Nat) (b3 : Nat) (hw : wp_G_markBlockers g post h a0 b1 b2 b3) : Met l (⟨"SegmentLocks$Rings", "markBlockers", "(Ljava/util/ArrayList;LSegmentLocks$Rows;LSegmentLocks$Task;)V"⟩ : MethodName) (ww (⟨"SegmentLocks$Rings", "markBlockers", "(Ljava/util/ArrayList;LSegmentLocks$Rows;LSegmentLocks$Task;)V"⟩ : MethodName) prog_2_method_6_code 7 none) (rmm 5 111 0 0) (va_Pc [.ref a0, .ref b1, .ref b2, .ref b3] (gS g h)) (va_Qv post (gS g) (gA g)) 0 0 (gA g) := by
  first | refine en_met (by decide) ?_ | refine en_metF (by decide) ?_
  intro p e s m below meth c C0 hr hlk hin hG
  have hS : va_S (gA g) s.heap s.heap [] := va_S.rf
  have hl := lv_entry ([.ref a0, .ref b1, .ref b2, .ref b3]) (n := 7) (Nat.le_of_ble_eq_true rfl)
  rw [lg_entry_eq]
  generalize (lg_sl ([.ref a0, .ref b1, .ref b2, .ref b3]) ++ List.replicate (7 - (lg_sl ([.ref a0, .ref b1, .ref b2, .ref b3])).length) Slot.unset).toArray = ls at hl ⊢
  replace hl : lv_has ls 7 [(0, .ref a0), (1, .ref b1), (2, .ref b2), (3, .ref b3)] := hl
  obtain ⟨hx, hb, -, hown, hts, hgk⟩ := id C0
  unfold wp_G_markBlockers at hw
  refine lv_aload_n hx hb dd_G_markBlockers_0 rfl (lv_at hl 3 rfl) ?_
  obtain ⟨k1, hw⟩ := hw
  refine gf_G_73 C0 hG k1 dd_G_markBlockers_1 ?_
  have hl0 := hl
  clear hl
  refine lv_istore (lv' := [(4, .int (hI h b3 13)), (0, .ref a0), (1, .ref b1), (2, .ref b2), (3, .ref b3)]) hx hb dd_G_markBlockers_4 hl0 (by decide) rfl (fun ls hl => ?_)
  refine lv_iconst (v := 0) hx hb dd_G_markBlockers_6 (by decide) ?_
  have hl0 := hl
  clear hl
  refine lv_istore (lv' := [(5, .int 0), (4, .int (hI h b3 13)), (0, .ref a0), (1, .ref b1), (2, .ref b2), (3, .ref b3)]) hx hb dd_G_markBlockers_7 hl0 (by decide) rfl (fun ls hl => ?_)
  obtain ⟨n, hw⟩ := hw
  exact wk_G_markBlockers_9 C0 hr hlk n _ _ _ _ _ _ _ _ _ _ hw hG hS (lv_sub hl [2, 3, 4, 5, 1, 0] rfl)
/-! SegmentLocks$Rings.reachBlockers(Ljava/util/ArrayList;ILSegmentLocks$Task;)Z -/
theorem dd_G_reachBlockers_0 : decode prog_2_method_7_code 0 = .ok (.iconst 0, 1) := by decide +kernel
theorem dd_G_reachBlockers_1 : decode prog_2_method_7_code 1 = .ok (.istore 4, 2) := by decide +kernel
theorem dd_G_reachBlockers_3 : decode prog_2_method_7_code 3 = .ok (.iload 4, 2) := by decide +kernel
theorem dd_G_reachBlockers_5 : decode prog_2_method_7_code 5 = .ok (.bipush 30, 2) := by decide +kernel
theorem dd_G_reachBlockers_7 : decode prog_2_method_7_code 7 = .ok (.if_icmp .ge 103, 3) := by decide +kernel
theorem dd_G_reachBlockers_10 : decode prog_2_method_7_code 10 = .ok (.iload 4, 2) := by decide +kernel
theorem dd_G_reachBlockers_12 : decode prog_2_method_7_code 12 = .ok (.aload_n 1, 1) := by decide +kernel
theorem dd_G_reachBlockers_13 : decode prog_2_method_7_code 13 = .ok (.invokevirtual 32, 3) := by decide +kernel
theorem dd_G_reachBlockers_16 : decode prog_2_method_7_code 16 = .ok (.if_icmp .ge 94, 3) := by decide +kernel
theorem dd_G_reachBlockers_19 : decode prog_2_method_7_code 19 = .ok (.aload_n 1, 1) := by decide +kernel
theorem dd_G_reachBlockers_20 : decode prog_2_method_7_code 20 = .ok (.iload 4, 2) := by decide +kernel
theorem dd_G_reachBlockers_22 : decode prog_2_method_7_code 22 = .ok (.invokevirtual 36, 3) := by decide +kernel
theorem dd_G_reachBlockers_25 : decode prog_2_method_7_code 25 = .ok (.checkcast 40, 3) := by decide +kernel
theorem dd_G_reachBlockers_28 : decode prog_2_method_7_code 28 = .ok (.astore 5, 2) := by decide +kernel
theorem dd_G_reachBlockers_30 : decode prog_2_method_7_code 30 = .ok (.aload_n 0, 1) := by decide +kernel
theorem dd_G_reachBlockers_31 : decode prog_2_method_7_code 31 = .ok (.getfield 29, 3) := by decide +kernel
theorem dd_G_reachBlockers_34 : decode prog_2_method_7_code 34 = .ok (.iload 4, 2) := by decide +kernel
theorem dd_G_reachBlockers_36 : decode prog_2_method_7_code 36 = .ok (.baload, 1) := by decide +kernel
theorem dd_G_reachBlockers_37 : decode prog_2_method_7_code 37 = .ok (.ifCond .eq 67, 3) := by decide +kernel
theorem dd_G_reachBlockers_40 : decode prog_2_method_7_code 40 = .ok (.aload_n 0, 1) := by decide +kernel
theorem dd_G_reachBlockers_41 : decode prog_2_method_7_code 41 = .ok (.getfield 25, 3) := by decide +kernel
theorem dd_G_reachBlockers_44 : decode prog_2_method_7_code 44 = .ok (.iload 4, 2) := by decide +kernel
theorem dd_G_reachBlockers_46 : decode prog_2_method_7_code 46 = .ok (.baload, 1) := by decide +kernel
theorem dd_G_reachBlockers_47 : decode prog_2_method_7_code 47 = .ok (.ifCond .eq 6, 3) := by decide +kernel
theorem dd_G_reachBlockers_50 : decode prog_2_method_7_code 50 = .ok (.goto 54, 3) := by decide +kernel
theorem dd_G_reachBlockers_53 : decode prog_2_method_7_code 53 = .ok (.aload 5, 2) := by decide +kernel
theorem dd_G_reachBlockers_55 : decode prog_2_method_7_code 55 = .ok (.aload_n 3, 1) := by decide +kernel
theorem dd_G_reachBlockers_56 : decode prog_2_method_7_code 56 = .ok (.if_acmp .ne 5, 3) := by decide +kernel
theorem dd_G_reachBlockers_59 : decode prog_2_method_7_code 59 = .ok (.iconst 1, 1) := by decide +kernel
theorem dd_G_reachBlockers_60 : decode prog_2_method_7_code 60 = .ok (.ireturn, 1) := by decide +kernel
theorem dd_G_reachBlockers_61 : decode prog_2_method_7_code 61 = .ok (.aload_n 0, 1) := by decide +kernel
theorem dd_G_reachBlockers_62 : decode prog_2_method_7_code 62 = .ok (.getfield 25, 3) := by decide +kernel
theorem dd_G_reachBlockers_65 : decode prog_2_method_7_code 65 = .ok (.iload 4, 2) := by decide +kernel
theorem dd_G_reachBlockers_67 : decode prog_2_method_7_code 67 = .ok (.iconst 1, 1) := by decide +kernel
theorem dd_G_reachBlockers_68 : decode prog_2_method_7_code 68 = .ok (.bastore, 1) := by decide +kernel
theorem dd_G_reachBlockers_69 : decode prog_2_method_7_code 69 = .ok (.aload_n 0, 1) := by decide +kernel
theorem dd_G_reachBlockers_70 : decode prog_2_method_7_code 70 = .ok (.getfield 18, 3) := by decide +kernel
theorem dd_G_reachBlockers_73 : decode prog_2_method_7_code 73 = .ok (.invokevirtual 32, 3) := by decide +kernel
theorem dd_G_reachBlockers_76 : decode prog_2_method_7_code 76 = .ok (.bipush 30, 2) := by decide +kernel
theorem dd_G_reachBlockers_78 : decode prog_2_method_7_code 78 = .ok (.if_icmp .ge 26, 3) := by decide +kernel
theorem dd_G_reachBlockers_81 : decode prog_2_method_7_code 81 = .ok (.aload_n 0, 1) := by decide +kernel
theorem dd_G_reachBlockers_82 : decode prog_2_method_7_code 82 = .ok (.getfield 21, 3) := by decide +kernel
theorem dd_G_reachBlockers_85 : decode prog_2_method_7_code 85 = .ok (.aload_n 0, 1) := by decide +kernel
theorem dd_G_reachBlockers_86 : decode prog_2_method_7_code 86 = .ok (.getfield 18, 3) := by decide +kernel
theorem dd_G_reachBlockers_89 : decode prog_2_method_7_code 89 = .ok (.invokevirtual 32, 3) := by decide +kernel
theorem dd_G_reachBlockers_92 : decode prog_2_method_7_code 92 = .ok (.iload_n 2, 1) := by decide +kernel
theorem dd_G_reachBlockers_93 : decode prog_2_method_7_code 93 = .ok (.iastore, 1) := by decide +kernel
theorem dd_G_reachBlockers_94 : decode prog_2_method_7_code 94 = .ok (.aload_n 0, 1) := by decide +kernel
theorem dd_G_reachBlockers_95 : decode prog_2_method_7_code 95 = .ok (.getfield 18, 3) := by decide +kernel
theorem dd_G_reachBlockers_98 : decode prog_2_method_7_code 98 = .ok (.aload 5, 2) := by decide +kernel
theorem dd_G_reachBlockers_100 : decode prog_2_method_7_code 100 = .ok (.invokevirtual 69, 3) := by decide +kernel
theorem dd_G_reachBlockers_103 : decode prog_2_method_7_code 103 = .ok (.pop, 1) := by decide +kernel
theorem dd_G_reachBlockers_104 : decode prog_2_method_7_code 104 = .ok (.iinc 4 1, 3) := by decide +kernel
theorem dd_G_reachBlockers_107 : decode prog_2_method_7_code 107 = .ok (.goto (-104), 3) := by decide +kernel
theorem dd_G_reachBlockers_110 : decode prog_2_method_7_code 110 = .ok (.iconst 0, 1) := by decide +kernel
theorem dd_G_reachBlockers_111 : decode prog_2_method_7_code 111 = .ok (.ireturn, 1) := by decide +kernel
def wp_G_reachBlockers_110 (g : Gm) (post : Int32 → Hp → Prop) (mc ms : Nat) (h : Hp) (kc ks : Nat) : Prop := zB 0 ∧ post 0 h
set_option maxHeartbeats 4000000 in
set_option maxRecDepth 100000 in
theorem wk_G_reachBlockers_110 {p : Program} {l : Launch} {e : Env} {s : State} {m : MethodId} {args : Array Value} {below : List Frame} {meth : Method} {c : Code} {g : Gm} {post : Int32 → Hp → Prop} {mc ms : Nat} (C0 : Cx g p s m args c prog_2_method_7_code 6 "SegmentLocks$Rings") (hr : meth.sig.returnType = (some .boolean)) (hlk : meth.locks = false) : ∀ (h : Hp) (kc ks : Nat) (H : Heap) (locs : List Loc) (ls : Array Slot), wp_G_reachBlockers_110 g post mc ms h kc ks → GH g h H → va_S (gA g) s.heap H locs → kc ≤ mc ∧ ks ≤ ms → lv_has ls 6 [] → W p l e (rmm 7 191 mc ms) s m args below meth c H locs kc ks (MQ below (va_Qi post (gS g) (gA g)) args s mc ms (gA g)) (F0 m 110 ls []) := by
  obtain ⟨hx, hb, -, hown, hts, hgk⟩ := id C0
  intro h kc ks H locs ls hw hG hS hkc hl
  unfold wp_G_reachBlockers_110 at hw
  refine lv_iconst (v := 0) hx hb dd_G_reachBlockers_110 (by decide) ?_
  exact re_z C0 hG hS hr hlk hkc hw.1.nar hw.2 dd_G_reachBlockers_111
def wp_G_reachBlockers_104 (g : Gm) (post : Int32 → Hp → Prop) (mc ms : Nat) (K3 : Hp → Nat → Nat → Nat → Nat → Int32 → Nat → Int32 → Prop) (h : Hp) (kc ks : Nat) (v0 : Nat) (v1 : Nat) (v2 : Int32) (v3 : Nat) (v4 : Int32) : Prop := ∀ x1 : Int32, x1 = v4 + 1 → K3 h kc ks v0 v1 v2 v3 x1
set_option maxHeartbeats 4000000 in
set_option maxRecDepth 100000 in
theorem wk_G_reachBlockers_104 {p : Program} {l : Launch} {e : Env} {s : State} {m : MethodId} {args : Array Value} {below : List Frame} {meth : Method} {c : Code} {g : Gm} {post : Int32 → Hp → Prop} {mc ms : Nat} (C0 : Cx g p s m args c prog_2_method_7_code 6 "SegmentLocks$Rings") (hr : meth.sig.returnType = (some .boolean)) (hlk : meth.locks = false) {K3 : Hp → Nat → Nat → Nat → Nat → Int32 → Nat → Int32 → Prop} (hK3 : ∀ (h : Hp) (kc ks : Nat) (v0 : Nat) (v1 : Nat) (v2 : Int32) (v3 : Nat) (v4 : Int32) (H : Heap) (locs : List Loc) (ls : Array Slot), K3 h kc ks v0 v1 v2 v3 v4 → GH g h H → va_S (gA g) s.heap H locs → kc ≤ mc ∧ ks ≤ ms → lv_has ls 6 [(0, .ref v0), (1, .ref v1), (2, .int v2), (3, .ref v3), (4, .int v4)] → W p l e (rmm 7 191 mc ms) s m args below meth c H locs kc ks (MQ below (va_Qi post (gS g) (gA g)) args s mc ms (gA g)) (F0 m 3 ls [])) : ∀ (h : Hp) (kc ks : Nat) (v0 : Nat) (v1 : Nat) (v2 : Int32) (v3 : Nat) (v4 : Int32) (H : Heap) (locs : List Loc) (ls : Array Slot), wp_G_reachBlockers_104 g post mc ms K3 h kc ks v0 v1 v2 v3 v4 → GH g h H → va_S (gA g) s.heap H locs → kc ≤ mc ∧ ks ≤ ms → lv_has ls 6 [(0, .ref v0), (1, .ref v1), (2, .int v2), (3, .ref v3), (4, .int v4)] → W p l e (rmm 7 191 mc ms) s m args below meth c H locs kc ks (MQ below (va_Qi post (gS g) (gA g)) args s mc ms (gA g)) (F0 m 104 ls []) := by
  obtain ⟨hx, hb, -, hown, hts, hgk⟩ := id C0
  intro h kc ks v0 v1 v2 v3 v4 H locs ls hw hG hS hkc hl
  unfold wp_G_reachBlockers_104 at hw
  obtain ⟨x1, ex1⟩ : ∃ y : Int32, y = v4 + 1 := ⟨_, rfl⟩
  replace hw := hw x1 ex1
  have hl0 := hl
  clear hl
  refine lv_iinc (v := x1) (lv' := [(4, .int x1), (0, .ref v0), (1, .ref v1), (2, .int v2), (3, .ref v3)]) hx hb dd_G_reachBlockers_104 hl0 (k := 4) rfl (by rw [ex1]; rfl) (by decide) rfl (fun ls hl => ?_)
  refine lv_goto (tgt := 3) hx hb dd_G_reachBlockers_107 (by decide) ?_
  exact hK3 _ _ _ _ _ _ _ _ _ _ _ hw hG hS hkc (lv_sub hl [1, 2, 3, 4, 0] rfl)
def wp_G_reachBlockers_3 (g : Gm) (post : Int32 → Hp → Prop) (mc ms : Nat) : Nat → Hp → Nat → Nat → Nat → Nat → Int32 → Nat → Int32 → Prop
  | 0, _, _, _, _, _, _, _, _ => False
  | fu + 1, h, kc, ks, v0, v1, v2, v3, v4 => ((30 ≤ v4 → wp_G_reachBlockers_110 g post mc ms h kc ks) ∧ (¬ 30 ≤ v4 → hK h v1 = 6 ∧ wp_A_size g (fun x4 => ((x4 ≤ v4 → wp_G_reachBlockers_110 g post mc ms h kc ks) ∧ (¬ x4 ≤ v4 → hK h v1 = 6 ∧ wp_A_get g (fun r8 => ∃ a9 : Nat, r8 = some a9 ∧ hK h a9 = 4 ∧ hK h v0 = 3 ∧ ∃ a12 : Nat, hR h v0 4 = some a12 ∧ hK h a12 = 23 ∧ vp_in v4 (hN h a12) ∧ (((hI h a12 v4.toNatClampNeg) = 0 → wp_G_reachBlockers_104 g post mc ms (fun h kc ks v0 v1 v2 v3 v4 => wp_G_reachBlockers_3 g post mc ms fu h kc ks v0 v1 v2 v3 v4) h kc ks v0 v1 v2 v3 v4) ∧ (¬ (hI h a12 v4.toNatClampNeg) = 0 → hK h v0 = 3 ∧ ∃ a16 : Nat, hR h v0 3 = some a16 ∧ hK h a16 = 23 ∧ vp_in v4 (hN h a16) ∧ (((hI h a16 v4.toNatClampNeg) = 0 → ((¬ (some a9) = (some v3) → hK h v0 = 3 ∧ ∃ a21 : Nat, hR h v0 3 = some a21 ∧ hK h a21 = 23 ∧ vp_in v4 (hN h a21) ∧ zB 1 ∧ ∀ h23 : Hp, h23 = sI h a21 v4.toNatClampNeg 1 → hK h23 v0 = 3 ∧ ∃ a25 : Nat, hR h23 v0 1 = some a25 ∧ hK h23 a25 = 6 ∧ wp_A_size g (fun x28 => ((30 ≤ x28 → wp_G_reachBlockers_104 g post mc ms (fun h kc ks v0 v1 v2 v3 v4 => wp_G_reachBlockers_3 g post mc ms fu h kc ks v0 v1 v2 v3 v4) h23 kc ks v0 v1 v2 v3 v4) ∧ (¬ 30 ≤ x28 → hK h23 v0 = 3 ∧ ∃ a31 : Nat, hR h23 v0 2 = some a31 ∧ hK h23 v0 = 3 ∧ ∃ a33 : Nat, hR h23 v0 1 = some a33 ∧ hK h23 a33 = 6 ∧ wp_A_size g (fun x36 => hK h23 a31 = 21 ∧ vp_in x36 (hN h23 a31) ∧ ∀ h38 : Hp, h38 = sI h23 a31 x36.toNatClampNeg v2 → hK h38 v0 = 3 ∧ ∃ a40 : Nat, hR h38 v0 1 = some a40 ∧ hK h38 a40 = 6 ∧ ∃ mc44 ms45 : Nat, kc + mc44 ≤ mc ∧ ks + ms45 ≤ ms ∧ wp_A_add2 g (fun x43 h42 => wp_G_reachBlockers_104 g post mc ms (fun h kc ks v0 v1 v2 v3 v4 => wp_G_reachBlockers_3 g post mc ms fu h kc ks v0 v1 v2 v3 v4) h42 (kc + mc44) (ks + ms45) v0 v1 v2 v3 v4) mc44 ms45 h38 a40 a9) h23 a33))) h23 a25) ∧ ((some a9) = (some v3) → zB 1 ∧ post 1 h))) ∧ (¬ (hI h a16 v4.toNatClampNeg) = 0 → wp_G_reachBlockers_104 g post mc ms (fun h kc ks v0 v1 v2 v3 v4 => wp_G_reachBlockers_3 g post mc ms fu h kc ks v0 v1 v2 v3 v4) h kc ks v0 v1 v2 v3 v4))))) h v1 v4))) h v1))
set_option maxHeartbeats 4000000 in
set_option maxRecDepth 100000 in
theorem wk_G_reachBlockers_3 {p : Program} {l : Launch} {e : Env} {s : State} {m : MethodId} {args : Array Value} {below : List Frame} {meth : Method} {c : Code} {g : Gm} {post : Int32 → Hp → Prop} {mc ms : Nat} (C0 : Cx g p s m args c prog_2_method_7_code 6 "SegmentLocks$Rings") (hr : meth.sig.returnType = (some .boolean)) (hlk : meth.locks = false) : ∀ n : Nat, ∀ (h : Hp) (kc ks : Nat) (v0 : Nat) (v1 : Nat) (v2 : Int32) (v3 : Nat) (v4 : Int32) (H : Heap) (locs : List Loc) (ls : Array Slot), wp_G_reachBlockers_3 g post mc ms n h kc ks v0 v1 v2 v3 v4 → GH g h H → va_S (gA g) s.heap H locs → kc ≤ mc ∧ ks ≤ ms → lv_has ls 6 [(0, .ref v0), (1, .ref v1), (2, .int v2), (3, .ref v3), (4, .int v4)] → W p l e (rmm 7 191 mc ms) s m args below meth c H locs kc ks (MQ below (va_Qi post (gS g) (gA g)) args s mc ms (gA g)) (F0 m 3 ls []) := by
  obtain ⟨hx, hb, -, hown, hts, hgk⟩ := id C0
  intro n
  induction n with
  | zero =>
    intro h kc ks v0 v1 v2 v3 v4 H locs ls hw hG hS hkc hl
    exact hw.elim
  | succ n ih =>
    intro h kc ks v0 v1 v2 v3 v4 H locs ls hw hG hS hkc hl
    unfold wp_G_reachBlockers_3 at hw
    refine lv_iload hx hb dd_G_reachBlockers_3 (lv_at hl 4 rfl) ?_
    refine lv_bipush (v := 30) hx hb dd_G_reachBlockers_5 (by decide) ?_
    refine lv_icmp_ge (tgt := 110) hx hb dd_G_reachBlockers_7 (by decide) (fun c1 => ?_) (fun c1 => ?_)
    · replace hw := hw.1 c1
      exact wk_G_reachBlockers_110 C0 hr hlk _ _ _ _ _ _ hw hG hS hkc (lv_sub hl [] rfl)
    · replace hw := hw.2 c1
      refine lv_iload hx hb dd_G_reachBlockers_10 (lv_at hl 4 rfl) ?_
      refine lv_aload_n hx hb dd_G_reachBlockers_12 rfl (lv_at hl 1 rfl) ?_
      obtain ⟨k2, hw⟩ := hw
      have hw0 := hw
      clear hw
      refine cs_i (rn_V C0 hG hS (c_A_size l g _ h v1 hw0) (ci := 5) k2 (by decide) rfl rfl (host := "") (nest := false) (n := 0) (As := []) (rest := [.int v4]) km_132 km_240 km_133 km_134 km_17 ⟨by decide, by decide, by decide +kernel⟩ ⟨Nat.le_of_ble_eq_true rfl, Nat.le_of_ble_eq_true rfl⟩ rfl hl.1 rfl (Nat.le_of_ble_eq_true rfl) dd_G_reachBlockers_13 hkc) (fun x4 hw => ?_)
      refine lv_icmp_ge (tgt := 110) hx hb dd_G_reachBlockers_16 (by decide) (fun c5 => ?_) (fun c5 => ?_)
      · replace hw := hw.1 c5
        exact wk_G_reachBlockers_110 C0 hr hlk _ _ _ _ _ _ hw hG hS hkc (lv_sub hl [] rfl)
      · replace hw := hw.2 c5
        refine lv_aload_n hx hb dd_G_reachBlockers_19 rfl (lv_at hl 1 rfl) ?_
        refine lv_iload hx hb dd_G_reachBlockers_20 (lv_at hl 4 rfl) ?_
        obtain ⟨k6, hw⟩ := hw
        have hw0 := hw
        clear hw
        refine cs_q (rn_V C0 hG hS (c_A_get l g _ h v1 v4 hw0) (ci := 5) k6 (by decide) rfl rfl (host := "") (nest := false) (n := 1) (As := [.int v4]) (rest := []) km_149 km_239 km_150 km_151 km_17 ⟨by decide, by decide, by decide +kernel⟩ ⟨Nat.le_of_ble_eq_true rfl, Nat.le_of_ble_eq_true rfl⟩ rfl hl.1 rfl (Nat.le_of_ble_eq_true rfl) dd_G_reachBlockers_22 hkc) (fun r8 hw => ?_)
        obtain ⟨a9, rfl, hw⟩ := hw
        replace hl : lv_has ls 6 [(0, .ref v0), (1, .ref v1), (2, .int v2), (3, .ref v3), (4, .int v4)] := hl
        obtain ⟨k10, hw⟩ := hw
        refine va_castY (C := RX3) hx hb hown (hts _ km_235) (hgk.2.1 _ km_147) (px_recv C0 hG (ci := 3) k10 (by decide) rfl) dd_G_reachBlockers_25 ?_
        have hl0 := hl
        clear hl
        refine lv_astore (lv' := [(5, .ref a9), (0, .ref v0), (1, .ref v1), (2, .int v2), (3, .ref v3), (4, .int v4)]) hx hb dd_G_reachBlockers_28 hl0 (by decide) rfl (fun ls hl => ?_)
        refine lv_aload_n hx hb dd_G_reachBlockers_30 rfl (lv_at hl 1 rfl) ?_
        obtain ⟨k11, a12, ea12, hw⟩ := hw
        refine gf_G_29 C0 hG k11 ea12 dd_G_reachBlockers_31 ?_
        refine lv_iload hx hb dd_G_reachBlockers_34 (lv_at hl 5 rfl) ?_
        obtain ⟨k13, k13i, hw⟩ := hw
        refine px_zald C0 hG k13 k13i dd_G_reachBlockers_36 ?_
        refine lv_if_eq (tgt := 104) hx hb dd_G_reachBlockers_37 (by decide) (fun c14 => ?_) (fun c14 => ?_)
        · replace hw := hw.1 c14
          exact wk_G_reachBlockers_104 C0 hr hlk ih _ _ _ _ _ _ _ _ _ _ _ hw hG hS hkc (lv_sub hl [1, 2, 3, 4, 5] rfl)
        · replace hw := hw.2 c14
          refine lv_aload_n hx hb dd_G_reachBlockers_40 rfl (lv_at hl 1 rfl) ?_
          obtain ⟨k15, a16, ea16, hw⟩ := hw
          refine gf_G_25 C0 hG k15 ea16 dd_G_reachBlockers_41 ?_
          refine lv_iload hx hb dd_G_reachBlockers_44 (lv_at hl 5 rfl) ?_
          obtain ⟨k17, k17i, hw⟩ := hw
          refine px_zald C0 hG k17 k17i dd_G_reachBlockers_46 ?_
          refine lv_if_eq (tgt := 53) hx hb dd_G_reachBlockers_47 (by decide) (fun c18 => ?_) (fun c18 => ?_)
          · replace hw := hw.1 c18
            refine lv_aload hx hb dd_G_reachBlockers_53 (lv_at hl 0 rfl) ?_
            refine lv_aload_n hx hb dd_G_reachBlockers_55 rfl (lv_at hl 4 rfl) ?_
            refine lv_acmp_ne (tgt := 61) (rx := (some a9)) (ry := (some v3)) hx hb dd_G_reachBlockers_56 (by decide) (fun c19 => ?_) (fun c19 => ?_)
            · replace hw := hw.1 c19
              refine lv_aload_n hx hb dd_G_reachBlockers_61 rfl (lv_at hl 1 rfl) ?_
              obtain ⟨k20, a21, ea21, hw⟩ := hw
              refine gf_G_25 C0 hG k20 ea21 dd_G_reachBlockers_62 ?_
              refine lv_iload hx hb dd_G_reachBlockers_65 (lv_at hl 5 rfl) ?_
              refine lv_iconst (v := 1) hx hb dd_G_reachBlockers_67 (by decide) ?_
              obtain ⟨k22, k22i, hz, hw⟩ := hw
              refine px_zast C0 hG hS k22 k22i hz.nar dd_G_reachBlockers_68 (fun H locs hG hS => ?_)
              replace hw := hw _ rfl
              generalize sI h a21 v4.toNatClampNeg 1 = h23 at hw hG
              refine lv_aload_n hx hb dd_G_reachBlockers_69 rfl (lv_at hl 1 rfl) ?_
              obtain ⟨k24, a25, ea25, hw⟩ := hw
              refine gf_G_18 C0 hG k24 ea25 dd_G_reachBlockers_70 ?_
              obtain ⟨k26, hw⟩ := hw
              have hw0 := hw
              clear hw
              refine cs_i (rn_V C0 hG hS (c_A_size l g _ h23 a25 hw0) (ci := 5) k26 (by decide) rfl rfl (host := "") (nest := false) (n := 0) (As := []) (rest := []) km_132 km_240 km_133 km_134 km_17 ⟨by decide, by decide, by decide +kernel⟩ ⟨Nat.le_of_ble_eq_true rfl, Nat.le_of_ble_eq_true rfl⟩ rfl hl.1 rfl (Nat.le_of_ble_eq_true rfl) dd_G_reachBlockers_73 hkc) (fun x28 hw => ?_)
              refine lv_bipush (v := 30) hx hb dd_G_reachBlockers_76 (by decide) ?_
              refine lv_icmp_ge (tgt := 104) hx hb dd_G_reachBlockers_78 (by decide) (fun c29 => ?_) (fun c29 => ?_)
              · replace hw := hw.1 c29
                exact wk_G_reachBlockers_104 C0 hr hlk ih _ _ _ _ _ _ _ _ _ _ _ hw hG hS hkc (lv_sub hl [1, 2, 3, 4, 5] rfl)
              · replace hw := hw.2 c29
                refine lv_aload_n hx hb dd_G_reachBlockers_81 rfl (lv_at hl 1 rfl) ?_
                obtain ⟨k30, a31, ea31, hw⟩ := hw
                refine gf_G_21 C0 hG k30 ea31 dd_G_reachBlockers_82 ?_
                refine lv_aload_n hx hb dd_G_reachBlockers_85 rfl (lv_at hl 1 rfl) ?_
                obtain ⟨k32, a33, ea33, hw⟩ := hw
                refine gf_G_18 C0 hG k32 ea33 dd_G_reachBlockers_86 ?_
                obtain ⟨k34, hw⟩ := hw
                have hw0 := hw
                clear hw
                refine cs_i (rn_V C0 hG hS (c_A_size l g _ h23 a33 hw0) (ci := 5) k34 (by decide) rfl rfl (host := "") (nest := false) (n := 0) (As := []) (rest := [.ref a31]) km_132 km_240 km_133 km_134 km_17 ⟨by decide, by decide, by decide +kernel⟩ ⟨Nat.le_of_ble_eq_true rfl, Nat.le_of_ble_eq_true rfl⟩ rfl hl.1 rfl (Nat.le_of_ble_eq_true rfl) dd_G_reachBlockers_89 hkc) (fun x36 hw => ?_)
                refine lv_iload_n hx hb dd_G_reachBlockers_92 rfl (lv_at hl 3 rfl) ?_
                obtain ⟨k37, k37i, hw⟩ := hw
                refine px_iast C0 hG hS k37 k37i dd_G_reachBlockers_93 (fun H locs hG hS => ?_)
                replace hw := hw _ rfl
                generalize sI h23 a31 x36.toNatClampNeg v2 = h38 at hw hG
                refine lv_aload_n hx hb dd_G_reachBlockers_94 rfl (lv_at hl 1 rfl) ?_
                obtain ⟨k39, a40, ea40, hw⟩ := hw
                refine gf_G_18 C0 hG k39 ea40 dd_G_reachBlockers_95 ?_
                refine lv_aload hx hb dd_G_reachBlockers_98 (lv_at hl 0 rfl) ?_
                obtain ⟨k41, hw⟩ := hw
                obtain ⟨mc44, ms45, hc1, hc2, hw⟩ := hw
                refine ca_i hS (rn_V C0 hG hS (c_A_add2 l g _ mc44 ms45 h38 a40 a9 hw) (ci := 5) k41 (by decide) rfl rfl (host := "") (nest := false) (n := 1) (As := [.ref a9]) (rest := []) km_125 km_221 km_126 km_127 km_17 ⟨by decide, by decide, by decide +kernel⟩ ⟨Nat.le_of_ble_eq_true rfl, Nat.le_of_ble_eq_true rfl⟩ rfl hl.1 rfl (Nat.le_of_ble_eq_true rfl) dd_G_reachBlockers_100 ⟨hc1, hc2⟩) (fun x43 h42 H locs hw hG hS => ?_)
                have hkc := And.intro hc1 hc2
                refine lv_pop hx hb dd_G_reachBlockers_103 rfl ?_
                exact wk_G_reachBlockers_104 C0 hr hlk ih _ _ _ _ _ _ _ _ _ _ _ hw hG hS hkc (lv_sub hl [1, 2, 3, 4, 5] rfl)
            · replace hw := hw.2 c19
              refine lv_iconst (v := 1) hx hb dd_G_reachBlockers_59 (by decide) ?_
              exact re_z C0 hG hS hr hlk hkc hw.1.nar hw.2 dd_G_reachBlockers_60
          · replace hw := hw.2 c18
            refine lv_goto (tgt := 104) hx hb dd_G_reachBlockers_50 (by decide) ?_
            exact wk_G_reachBlockers_104 C0 hr hlk ih _ _ _ _ _ _ _ _ _ _ _ hw hG hS hkc (lv_sub hl [1, 2, 3, 4, 5] rfl)
def wp_G_reachBlockers (g : Gm) (post : Int32 → Hp → Prop) (mc ms : Nat) (h : Hp) (a0 : Nat) (b1 : Nat) (i2 : Int32) (b3 : Nat) : Prop := ∃ n : Nat, wp_G_reachBlockers_3 g post mc ms n h 0 0 a0 b1 i2 b3 0
set_option maxHeartbeats 4000000 in
set_option maxRecDepth 100000 in
theorem c_G_reachBlockers (l : Launch) (g : Gm) (post : Int32 → Hp → Prop) (mc ms : Nat) (h : Hp) (a0 : Nat) (b1 : Nat) (i2 : Int32) (b3 : Nat) (hw : wp_G_reachBlockers g post mc ms h a0 b1 i2 b3) : Met l (⟨"SegmentLocks$Rings", "reachBlockers", "(Ljava/util/ArrayList;ILSegmentLocks$Task;)Z"⟩ : MethodName) (ww (⟨"SegmentLocks$Rings", "reachBlockers", "(Ljava/util/ArrayList;ILSegmentLocks$Task;)Z"⟩ : MethodName) prog_2_method_7_code 6 (some .boolean)) (rmm 7 191 mc ms) (va_Pc [.ref a0, .ref b1, .int i2, .ref b3] (gS g h)) (va_Qi post (gS g) (gA g)) mc ms (gA g) := by
  first | refine en_met (by decide) ?_ | refine en_metF (by decide) ?_
  intro p e s m below meth c C0 hr hlk hin hG
  have hS : va_S (gA g) s.heap s.heap [] := va_S.rf
  have hl := lv_entry ([.ref a0, .ref b1, .int i2, .ref b3]) (n := 6) (Nat.le_of_ble_eq_true rfl)
  rw [lg_entry_eq]
  generalize (lg_sl ([.ref a0, .ref b1, .int i2, .ref b3]) ++ List.replicate (6 - (lg_sl ([.ref a0, .ref b1, .int i2, .ref b3])).length) Slot.unset).toArray = ls at hl ⊢
  replace hl : lv_has ls 6 [(0, .ref a0), (1, .ref b1), (2, .int i2), (3, .ref b3)] := hl
  obtain ⟨hx, hb, -, hown, hts, hgk⟩ := id C0
  have hkc : 0 ≤ mc ∧ 0 ≤ ms := ⟨Nat.zero_le _, Nat.zero_le _⟩
  unfold wp_G_reachBlockers at hw
  refine lv_iconst (v := 0) hx hb dd_G_reachBlockers_0 (by decide) ?_
  have hl0 := hl
  clear hl
  refine lv_istore (lv' := [(4, .int 0), (0, .ref a0), (1, .ref b1), (2, .int i2), (3, .ref b3)]) hx hb dd_G_reachBlockers_1 hl0 (by decide) rfl (fun ls hl => ?_)
  obtain ⟨n, hw⟩ := hw
  exact wk_G_reachBlockers_3 C0 hr hlk n _ _ _ _ _ _ _ _ _ _ _ hw hG hS hkc (lv_sub hl [1, 2, 3, 4, 0] rfl)
/-! SegmentLocks$Rings.keepWayTo(I)V -/
theorem dd_G_keepWayTo_0 : decode prog_2_method_8_code 0 = .ok (.aload_n 0, 1) := by decide +kernel
theorem dd_G_keepWayTo_1 : decode prog_2_method_8_code 1 = .ok (.getfield 12, 3) := by decide +kernel
theorem dd_G_keepWayTo_4 : decode prog_2_method_8_code 4 = .ok (.invokevirtual 66, 3) := by decide +kernel
theorem dd_G_keepWayTo_7 : decode prog_2_method_8_code 7 = .ok (.aload_n 0, 1) := by decide +kernel
theorem dd_G_keepWayTo_8 : decode prog_2_method_8_code 8 = .ok (.getfield 18, 3) := by decide +kernel
theorem dd_G_keepWayTo_11 : decode prog_2_method_8_code 11 = .ok (.invokevirtual 32, 3) := by decide +kernel
theorem dd_G_keepWayTo_14 : decode prog_2_method_8_code 14 = .ok (.bipush 30, 2) := by decide +kernel
theorem dd_G_keepWayTo_16 : decode prog_2_method_8_code 16 = .ok (.invokestatic 96, 3) := by decide +kernel
theorem dd_G_keepWayTo_19 : decode prog_2_method_8_code 19 = .ok (.istore_n 2, 1) := by decide +kernel
theorem dd_G_keepWayTo_20 : decode prog_2_method_8_code 20 = .ok (.iload_n 1, 1) := by decide +kernel
theorem dd_G_keepWayTo_21 : decode prog_2_method_8_code 21 = .ok (.istore_n 3, 1) := by decide +kernel
theorem dd_G_keepWayTo_22 : decode prog_2_method_8_code 22 = .ok (.iconst 0, 1) := by decide +kernel
theorem dd_G_keepWayTo_23 : decode prog_2_method_8_code 23 = .ok (.istore 4, 2) := by decide +kernel
theorem dd_G_keepWayTo_25 : decode prog_2_method_8_code 25 = .ok (.iload 4, 2) := by decide +kernel
theorem dd_G_keepWayTo_27 : decode prog_2_method_8_code 27 = .ok (.iload_n 2, 1) := by decide +kernel
theorem dd_G_keepWayTo_28 : decode prog_2_method_8_code 28 = .ok (.if_icmp .ge 44, 3) := by decide +kernel
theorem dd_G_keepWayTo_31 : decode prog_2_method_8_code 31 = .ok (.iload_n 3, 1) := by decide +kernel
theorem dd_G_keepWayTo_32 : decode prog_2_method_8_code 32 = .ok (.ifCond .le 40, 3) := by decide +kernel
theorem dd_G_keepWayTo_35 : decode prog_2_method_8_code 35 = .ok (.iload_n 3, 1) := by decide +kernel
theorem dd_G_keepWayTo_36 : decode prog_2_method_8_code 36 = .ok (.iload_n 2, 1) := by decide +kernel
theorem dd_G_keepWayTo_37 : decode prog_2_method_8_code 37 = .ok (.if_icmp .ge 35, 3) := by decide +kernel
theorem dd_G_keepWayTo_40 : decode prog_2_method_8_code 40 = .ok (.aload_n 0, 1) := by decide +kernel
theorem dd_G_keepWayTo_41 : decode prog_2_method_8_code 41 = .ok (.getfield 12, 3) := by decide +kernel
theorem dd_G_keepWayTo_44 : decode prog_2_method_8_code 44 = .ok (.iconst 0, 1) := by decide +kernel
theorem dd_G_keepWayTo_45 : decode prog_2_method_8_code 45 = .ok (.aload_n 0, 1) := by decide +kernel
theorem dd_G_keepWayTo_46 : decode prog_2_method_8_code 46 = .ok (.getfield 18, 3) := by decide +kernel
theorem dd_G_keepWayTo_49 : decode prog_2_method_8_code 49 = .ok (.iload_n 3, 1) := by decide +kernel
theorem dd_G_keepWayTo_50 : decode prog_2_method_8_code 50 = .ok (.invokevirtual 36, 3) := by decide +kernel
theorem dd_G_keepWayTo_53 : decode prog_2_method_8_code 53 = .ok (.checkcast 40, 3) := by decide +kernel
theorem dd_G_keepWayTo_56 : decode prog_2_method_8_code 56 = .ok (.invokevirtual 102, 3) := by decide +kernel
theorem dd_G_keepWayTo_59 : decode prog_2_method_8_code 59 = .ok (.aload_n 0, 1) := by decide +kernel
theorem dd_G_keepWayTo_60 : decode prog_2_method_8_code 60 = .ok (.getfield 21, 3) := by decide +kernel
theorem dd_G_keepWayTo_63 : decode prog_2_method_8_code 63 = .ok (.iload_n 3, 1) := by decide +kernel
theorem dd_G_keepWayTo_64 : decode prog_2_method_8_code 64 = .ok (.iaload, 1) := by decide +kernel
theorem dd_G_keepWayTo_65 : decode prog_2_method_8_code 65 = .ok (.istore_n 3, 1) := by decide +kernel
theorem dd_G_keepWayTo_66 : decode prog_2_method_8_code 66 = .ok (.iinc 4 1, 3) := by decide +kernel
theorem dd_G_keepWayTo_69 : decode prog_2_method_8_code 69 = .ok (.goto (-44), 3) := by decide +kernel
theorem dd_G_keepWayTo_72 : decode prog_2_method_8_code 72 = .ok (.iload_n 2, 1) := by decide +kernel
theorem dd_G_keepWayTo_73 : decode prog_2_method_8_code 73 = .ok (.ifCond .le 22, 3) := by decide +kernel
theorem dd_G_keepWayTo_76 : decode prog_2_method_8_code 76 = .ok (.aload_n 0, 1) := by decide +kernel
theorem dd_G_keepWayTo_77 : decode prog_2_method_8_code 77 = .ok (.getfield 12, 3) := by decide +kernel
theorem dd_G_keepWayTo_80 : decode prog_2_method_8_code 80 = .ok (.iconst 0, 1) := by decide +kernel
theorem dd_G_keepWayTo_81 : decode prog_2_method_8_code 81 = .ok (.aload_n 0, 1) := by decide +kernel
theorem dd_G_keepWayTo_82 : decode prog_2_method_8_code 82 = .ok (.getfield 18, 3) := by decide +kernel
theorem dd_G_keepWayTo_85 : decode prog_2_method_8_code 85 = .ok (.iconst 0, 1) := by decide +kernel
theorem dd_G_keepWayTo_86 : decode prog_2_method_8_code 86 = .ok (.invokevirtual 36, 3) := by decide +kernel
theorem dd_G_keepWayTo_89 : decode prog_2_method_8_code 89 = .ok (.checkcast 40, 3) := by decide +kernel
theorem dd_G_keepWayTo_92 : decode prog_2_method_8_code 92 = .ok (.invokevirtual 102, 3) := by decide +kernel
theorem dd_G_keepWayTo_95 : decode prog_2_method_8_code 95 = .ok (.return_, 1) := by decide +kernel
def wp_G_keepWayTo_95 (g : Gm) (post : Hp → Prop) (mc ms : Nat) (h : Hp) (kc ks : Nat) : Prop := post h
set_option maxHeartbeats 4000000 in
set_option maxRecDepth 100000 in
theorem wk_G_keepWayTo_95 {p : Program} {l : Launch} {e : Env} {s : State} {m : MethodId} {args : Array Value} {below : List Frame} {meth : Method} {c : Code} {g : Gm} {post : Hp → Prop} {mc ms : Nat} (C0 : Cx g p s m args c prog_2_method_8_code 5 "SegmentLocks$Rings") (hr : meth.sig.returnType = none) (hlk : meth.locks = false) : ∀ (h : Hp) (kc ks : Nat) (H : Heap) (locs : List Loc) (ls : Array Slot), wp_G_keepWayTo_95 g post mc ms h kc ks → GH g h H → va_S (gA g) s.heap H locs → kc ≤ mc ∧ ks ≤ ms → lv_has ls 5 [] → W p l e (rmm 6 171 mc ms) s m args below meth c H locs kc ks (MQ below (va_Qv post (gS g) (gA g)) args s mc ms (gA g)) (F0 m 95 ls []) := by
  obtain ⟨hx, hb, -, hown, hts, hgk⟩ := id C0
  intro h kc ks H locs ls hw hG hS hkc hl
  unfold wp_G_keepWayTo_95 at hw
  exact re_v C0 hG hS hr hlk hkc hw dd_G_keepWayTo_95
def wp_G_keepWayTo_72 (g : Gm) (post : Hp → Prop) (mc ms : Nat) (h : Hp) (kc ks : Nat) (v0 : Nat) (v2 : Int32) : Prop := ((v2 ≤ 0 → wp_G_keepWayTo_95 g post mc ms h kc ks) ∧ (¬ v2 ≤ 0 → hK h v0 = 3 ∧ ∃ a3 : Nat, hR h v0 0 = some a3 ∧ hK h v0 = 3 ∧ ∃ a5 : Nat, hR h v0 1 = some a5 ∧ hK h a5 = 6 ∧ wp_A_get g (fun r8 => ∃ a9 : Nat, r8 = some a9 ∧ hK h a9 = 4 ∧ hK h a3 = 6 ∧ ∃ mc13 ms14 : Nat, kc + mc13 ≤ mc ∧ ks + ms14 ≤ ms ∧ wp_A_add3 g (fun h12 => wp_G_keepWayTo_95 g post mc ms h12 (kc + mc13) (ks + ms14)) mc13 ms14 h a3 0 a9) h a5 0))
set_option maxHeartbeats 4000000 in
set_option maxRecDepth 100000 in
theorem wk_G_keepWayTo_72 {p : Program} {l : Launch} {e : Env} {s : State} {m : MethodId} {args : Array Value} {below : List Frame} {meth : Method} {c : Code} {g : Gm} {post : Hp → Prop} {mc ms : Nat} (C0 : Cx g p s m args c prog_2_method_8_code 5 "SegmentLocks$Rings") (hr : meth.sig.returnType = none) (hlk : meth.locks = false) : ∀ (h : Hp) (kc ks : Nat) (v0 : Nat) (v2 : Int32) (H : Heap) (locs : List Loc) (ls : Array Slot), wp_G_keepWayTo_72 g post mc ms h kc ks v0 v2 → GH g h H → va_S (gA g) s.heap H locs → kc ≤ mc ∧ ks ≤ ms → lv_has ls 5 [(0, .ref v0), (2, .int v2)] → W p l e (rmm 6 171 mc ms) s m args below meth c H locs kc ks (MQ below (va_Qv post (gS g) (gA g)) args s mc ms (gA g)) (F0 m 72 ls []) := by
  obtain ⟨hx, hb, -, hown, hts, hgk⟩ := id C0
  intro h kc ks v0 v2 H locs ls hw hG hS hkc hl
  unfold wp_G_keepWayTo_72 at hw
  refine lv_iload_n hx hb dd_G_keepWayTo_72 rfl (lv_at hl 1 rfl) ?_
  refine lv_if_le (tgt := 95) hx hb dd_G_keepWayTo_73 (by decide) (fun c1 => ?_) (fun c1 => ?_)
  · replace hw := hw.1 c1
    exact wk_G_keepWayTo_95 C0 hr hlk _ _ _ _ _ _ hw hG hS hkc (lv_sub hl [] rfl)
  · replace hw := hw.2 c1
    refine lv_aload_n hx hb dd_G_keepWayTo_76 rfl (lv_at hl 0 rfl) ?_
    obtain ⟨k2, a3, ea3, hw⟩ := hw
    refine gf_G_12 C0 hG k2 ea3 dd_G_keepWayTo_77 ?_
    refine lv_iconst (v := 0) hx hb dd_G_keepWayTo_80 (by decide) ?_
    refine lv_aload_n hx hb dd_G_keepWayTo_81 rfl (lv_at hl 0 rfl) ?_
    obtain ⟨k4, a5, ea5, hw⟩ := hw
    refine gf_G_18 C0 hG k4 ea5 dd_G_keepWayTo_82 ?_
    refine lv_iconst (v := 0) hx hb dd_G_keepWayTo_85 (by decide) ?_
    obtain ⟨k6, hw⟩ := hw
    have hw0 := hw
    clear hw
    refine cs_q (rn_V C0 hG hS (c_A_get l g _ h a5 0 hw0) (ci := 5) k6 (by decide) rfl rfl (host := "") (nest := false) (n := 1) (As := [.int 0]) (rest := [.int 0, .ref a3]) km_149 km_239 km_150 km_151 km_17 ⟨by decide, by decide, by decide +kernel⟩ ⟨Nat.le_of_ble_eq_true rfl, Nat.le_of_ble_eq_true rfl⟩ rfl hl.1 rfl (Nat.le_of_ble_eq_true rfl) dd_G_keepWayTo_86 hkc) (fun r8 hw => ?_)
    obtain ⟨a9, rfl, hw⟩ := hw
    replace hl : lv_has ls 5 [(0, .ref v0), (2, .int v2)] := hl
    obtain ⟨k10, hw⟩ := hw
    refine va_castY (C := RX3) hx hb hown (hts _ km_235) (hgk.2.1 _ km_147) (px_recv C0 hG (ci := 3) k10 (by decide) rfl) dd_G_keepWayTo_89 ?_
    obtain ⟨k11, hw⟩ := hw
    obtain ⟨mc13, ms14, hc1, hc2, hw⟩ := hw
    refine ca_v hS (rn_V C0 hG hS (c_A_add3 l g _ mc13 ms14 h a3 0 a9 hw) (ci := 5) k11 (by decide) rfl rfl (host := "") (nest := false) (n := 2) (As := [.int 0, .ref a9]) (rest := []) km_211 km_243 km_212 km_213 km_17 ⟨by decide, by decide, by decide +kernel⟩ ⟨Nat.le_of_ble_eq_true rfl, Nat.le_of_ble_eq_true rfl⟩ rfl hl.1 rfl (Nat.le_of_ble_eq_true rfl) dd_G_keepWayTo_92 ⟨hc1, hc2⟩) (fun h12 H locs hw hG hS => ?_)
    have hkc := And.intro hc1 hc2
    exact wk_G_keepWayTo_95 C0 hr hlk _ _ _ _ _ _ hw hG hS hkc (lv_sub hl [] rfl)
def wp_G_keepWayTo_25 (g : Gm) (post : Hp → Prop) (mc ms : Nat) : Nat → Hp → Nat → Nat → Nat → Int32 → Int32 → Int32 → Prop
  | 0, _, _, _, _, _, _, _ => False
  | fu + 1, h, kc, ks, v0, v2, v3, v4 => ((v2 ≤ v4 → wp_G_keepWayTo_72 g post mc ms h kc ks v0 v2) ∧ (¬ v2 ≤ v4 → ((v3 ≤ 0 → wp_G_keepWayTo_72 g post mc ms h kc ks v0 v2) ∧ (¬ v3 ≤ 0 → ((v2 ≤ v3 → wp_G_keepWayTo_72 g post mc ms h kc ks v0 v2) ∧ (¬ v2 ≤ v3 → hK h v0 = 3 ∧ ∃ a5 : Nat, hR h v0 0 = some a5 ∧ hK h v0 = 3 ∧ ∃ a7 : Nat, hR h v0 1 = some a7 ∧ hK h a7 = 6 ∧ wp_A_get g (fun r10 => ∃ a11 : Nat, r10 = some a11 ∧ hK h a11 = 4 ∧ hK h a5 = 6 ∧ ∃ mc15 ms16 : Nat, kc + mc15 ≤ mc ∧ ks + ms16 ≤ ms ∧ wp_A_add3 g (fun h14 => hK h14 v0 = 3 ∧ ∃ a18 : Nat, hR h14 v0 2 = some a18 ∧ hK h14 a18 = 21 ∧ vp_in v3 (hN h14 a18) ∧ ∀ x20 : Int32, x20 = v4 + 1 → wp_G_keepWayTo_25 g post mc ms fu h14 (kc + mc15) (ks + ms16) v0 v2 (hI h14 a18 v3.toNatClampNeg) x20) mc15 ms16 h a5 0 a11) h a7 v3))))))
set_option maxHeartbeats 4000000 in
set_option maxRecDepth 100000 in
theorem wk_G_keepWayTo_25 {p : Program} {l : Launch} {e : Env} {s : State} {m : MethodId} {args : Array Value} {below : List Frame} {meth : Method} {c : Code} {g : Gm} {post : Hp → Prop} {mc ms : Nat} (C0 : Cx g p s m args c prog_2_method_8_code 5 "SegmentLocks$Rings") (hr : meth.sig.returnType = none) (hlk : meth.locks = false) : ∀ n : Nat, ∀ (h : Hp) (kc ks : Nat) (v0 : Nat) (v2 : Int32) (v3 : Int32) (v4 : Int32) (H : Heap) (locs : List Loc) (ls : Array Slot), wp_G_keepWayTo_25 g post mc ms n h kc ks v0 v2 v3 v4 → GH g h H → va_S (gA g) s.heap H locs → kc ≤ mc ∧ ks ≤ ms → lv_has ls 5 [(0, .ref v0), (2, .int v2), (3, .int v3), (4, .int v4)] → W p l e (rmm 6 171 mc ms) s m args below meth c H locs kc ks (MQ below (va_Qv post (gS g) (gA g)) args s mc ms (gA g)) (F0 m 25 ls []) := by
  obtain ⟨hx, hb, -, hown, hts, hgk⟩ := id C0
  intro n
  induction n with
  | zero =>
    intro h kc ks v0 v2 v3 v4 H locs ls hw hG hS hkc hl
    exact hw.elim
  | succ n ih =>
    intro h kc ks v0 v2 v3 v4 H locs ls hw hG hS hkc hl
    unfold wp_G_keepWayTo_25 at hw
    refine lv_iload hx hb dd_G_keepWayTo_25 (lv_at hl 3 rfl) ?_
    refine lv_iload_n hx hb dd_G_keepWayTo_27 rfl (lv_at hl 1 rfl) ?_
    refine lv_icmp_ge (tgt := 72) hx hb dd_G_keepWayTo_28 (by decide) (fun c1 => ?_) (fun c1 => ?_)
    · replace hw := hw.1 c1
      exact wk_G_keepWayTo_72 C0 hr hlk _ _ _ _ _ _ _ _ hw hG hS hkc (lv_sub hl [0, 1] rfl)
    · replace hw := hw.2 c1
      refine lv_iload_n hx hb dd_G_keepWayTo_31 rfl (lv_at hl 2 rfl) ?_
      refine lv_if_le (tgt := 72) hx hb dd_G_keepWayTo_32 (by decide) (fun c2 => ?_) (fun c2 => ?_)
      · replace hw := hw.1 c2
        exact wk_G_keepWayTo_72 C0 hr hlk _ _ _ _ _ _ _ _ hw hG hS hkc (lv_sub hl [0, 1] rfl)
      · replace hw := hw.2 c2
        refine lv_iload_n hx hb dd_G_keepWayTo_35 rfl (lv_at hl 2 rfl) ?_
        refine lv_iload_n hx hb dd_G_keepWayTo_36 rfl (lv_at hl 1 rfl) ?_
        refine lv_icmp_ge (tgt := 72) hx hb dd_G_keepWayTo_37 (by decide) (fun c3 => ?_) (fun c3 => ?_)
        · replace hw := hw.1 c3
          exact wk_G_keepWayTo_72 C0 hr hlk _ _ _ _ _ _ _ _ hw hG hS hkc (lv_sub hl [0, 1] rfl)
        · replace hw := hw.2 c3
          refine lv_aload_n hx hb dd_G_keepWayTo_40 rfl (lv_at hl 0 rfl) ?_
          obtain ⟨k4, a5, ea5, hw⟩ := hw
          refine gf_G_12 C0 hG k4 ea5 dd_G_keepWayTo_41 ?_
          refine lv_iconst (v := 0) hx hb dd_G_keepWayTo_44 (by decide) ?_
          refine lv_aload_n hx hb dd_G_keepWayTo_45 rfl (lv_at hl 0 rfl) ?_
          obtain ⟨k6, a7, ea7, hw⟩ := hw
          refine gf_G_18 C0 hG k6 ea7 dd_G_keepWayTo_46 ?_
          refine lv_iload_n hx hb dd_G_keepWayTo_49 rfl (lv_at hl 2 rfl) ?_
          obtain ⟨k8, hw⟩ := hw
          have hw0 := hw
          clear hw
          refine cs_q (rn_V C0 hG hS (c_A_get l g _ h a7 v3 hw0) (ci := 5) k8 (by decide) rfl rfl (host := "") (nest := false) (n := 1) (As := [.int v3]) (rest := [.int 0, .ref a5]) km_149 km_239 km_150 km_151 km_17 ⟨by decide, by decide, by decide +kernel⟩ ⟨Nat.le_of_ble_eq_true rfl, Nat.le_of_ble_eq_true rfl⟩ rfl hl.1 rfl (Nat.le_of_ble_eq_true rfl) dd_G_keepWayTo_50 hkc) (fun r10 hw => ?_)
          obtain ⟨a11, rfl, hw⟩ := hw
          replace hl : lv_has ls 5 [(0, .ref v0), (2, .int v2), (3, .int v3), (4, .int v4)] := hl
          obtain ⟨k12, hw⟩ := hw
          refine va_castY (C := RX3) hx hb hown (hts _ km_235) (hgk.2.1 _ km_147) (px_recv C0 hG (ci := 3) k12 (by decide) rfl) dd_G_keepWayTo_53 ?_
          obtain ⟨k13, hw⟩ := hw
          obtain ⟨mc15, ms16, hc1, hc2, hw⟩ := hw
          refine ca_v hS (rn_V C0 hG hS (c_A_add3 l g _ mc15 ms16 h a5 0 a11 hw) (ci := 5) k13 (by decide) rfl rfl (host := "") (nest := false) (n := 2) (As := [.int 0, .ref a11]) (rest := []) km_211 km_243 km_212 km_213 km_17 ⟨by decide, by decide, by decide +kernel⟩ ⟨Nat.le_of_ble_eq_true rfl, Nat.le_of_ble_eq_true rfl⟩ rfl hl.1 rfl (Nat.le_of_ble_eq_true rfl) dd_G_keepWayTo_56 ⟨hc1, hc2⟩) (fun h14 H locs hw hG hS => ?_)
          have hkc := And.intro hc1 hc2
          refine lv_aload_n hx hb dd_G_keepWayTo_59 rfl (lv_at hl 0 rfl) ?_
          obtain ⟨k17, a18, ea18, hw⟩ := hw
          refine gf_G_21 C0 hG k17 ea18 dd_G_keepWayTo_60 ?_
          refine lv_iload_n hx hb dd_G_keepWayTo_63 rfl (lv_at hl 2 rfl) ?_
          obtain ⟨k19, k19i, hw⟩ := hw
          refine px_iald C0 hG k19 k19i dd_G_keepWayTo_64 ?_
          have hl0 := hl
          clear hl
          refine lv_istore_n (lv' := [(3, .int (hI h14 a18 v3.toNatClampNeg)), (0, .ref v0), (2, .int v2), (4, .int v4)]) hx hb dd_G_keepWayTo_65 rfl hl0 (by decide) rfl (fun ls hl => ?_)
          obtain ⟨x20, ex20⟩ : ∃ y : Int32, y = v4 + 1 := ⟨_, rfl⟩
          replace hw := hw x20 ex20
          have hl0 := hl
          clear hl
          refine lv_iinc (v := x20) (lv' := [(4, .int x20), (3, .int (hI h14 a18 v3.toNatClampNeg)), (0, .ref v0), (2, .int v2)]) hx hb dd_G_keepWayTo_66 hl0 (k := 3) rfl (by rw [ex20]; rfl) (by decide) rfl (fun ls hl => ?_)
          refine lv_goto (tgt := 25) hx hb dd_G_keepWayTo_69 (by decide) ?_
          exact ih _ _ _ _ _ _ _ _ _ _ hw hG hS hkc (lv_sub hl [2, 3, 1, 0] rfl)
def wp_G_keepWayTo (g : Gm) (post : Hp → Prop) (mc ms : Nat) (h : Hp) (a0 : Nat) (i1 : Int32) : Prop := hK h a0 = 3 ∧ ∃ a2 : Nat, hR h a0 0 = some a2 ∧ hK h a2 = 6 ∧ wp_A_clear g (fun h4 => hK h4 a0 = 3 ∧ ∃ a6 : Nat, hR h4 a0 1 = some a6 ∧ hK h4 a6 = 6 ∧ wp_A_size g (fun x9 => ∀ x10 : Int32, x10 = (if 30 < x9 then 30 else x9) → ∃ n : Nat, wp_G_keepWayTo_25 g post mc ms n h4 0 0 a0 x10 i1 0) h4 a6) h a2
set_option maxHeartbeats 4000000 in
set_option maxRecDepth 100000 in
theorem c_G_keepWayTo (l : Launch) (g : Gm) (post : Hp → Prop) (mc ms : Nat) (h : Hp) (a0 : Nat) (i1 : Int32) (hw : wp_G_keepWayTo g post mc ms h a0 i1) : Met l (⟨"SegmentLocks$Rings", "keepWayTo", "(I)V"⟩ : MethodName) (ww (⟨"SegmentLocks$Rings", "keepWayTo", "(I)V"⟩ : MethodName) prog_2_method_8_code 5 none) (rmm 6 171 mc ms) (va_Pc [.ref a0, .int i1] (gS g h)) (va_Qv post (gS g) (gA g)) mc ms (gA g) := by
  first | refine en_met (by decide) ?_ | refine en_metF (by decide) ?_
  intro p e s m below meth c C0 hr hlk hin hG
  have hS : va_S (gA g) s.heap s.heap [] := va_S.rf
  have hl := lv_entry ([.ref a0, .int i1]) (n := 5) (Nat.le_of_ble_eq_true rfl)
  rw [lg_entry_eq]
  generalize (lg_sl ([.ref a0, .int i1]) ++ List.replicate (5 - (lg_sl ([.ref a0, .int i1])).length) Slot.unset).toArray = ls at hl ⊢
  replace hl : lv_has ls 5 [(0, .ref a0), (1, .int i1)] := hl
  obtain ⟨hx, hb, -, hown, hts, hgk⟩ := id C0
  have hkc : 0 ≤ mc ∧ 0 ≤ ms := ⟨Nat.zero_le _, Nat.zero_le _⟩
  unfold wp_G_keepWayTo at hw
  refine lv_aload_n hx hb dd_G_keepWayTo_0 rfl (lv_at hl 0 rfl) ?_
  obtain ⟨k1, a2, ea2, hw⟩ := hw
  refine gf_G_12 C0 hG k1 ea2 dd_G_keepWayTo_1 ?_
  obtain ⟨k3, hw⟩ := hw
  refine ca_v hS (rn_V C0 hG hS (c_A_clear l g _ h a2 hw) (ci := 5) k3 (by decide) rfl rfl (host := "") (nest := false) (n := 0) (As := []) (rest := []) km_223 km_222 km_224 km_225 km_17 ⟨by decide, by decide, by decide +kernel⟩ ⟨Nat.le_of_ble_eq_true rfl, Nat.le_of_ble_eq_true rfl⟩ rfl hl.1 rfl (Nat.le_of_ble_eq_true rfl) dd_G_keepWayTo_4 hkc) (fun h4 H locs hw hG hS => ?_)
  refine lv_aload_n hx hb dd_G_keepWayTo_7 rfl (lv_at hl 0 rfl) ?_
  obtain ⟨k5, a6, ea6, hw⟩ := hw
  refine gf_G_18 C0 hG k5 ea6 dd_G_keepWayTo_8 ?_
  obtain ⟨k7, hw⟩ := hw
  have hw0 := hw
  clear hw
  refine cs_i (rn_V C0 hG hS (c_A_size l g _ h4 a6 hw0) (ci := 5) k7 (by decide) rfl rfl (host := "") (nest := false) (n := 0) (As := []) (rest := []) km_132 km_240 km_133 km_134 km_17 ⟨by decide, by decide, by decide +kernel⟩ ⟨Nat.le_of_ble_eq_true rfl, Nat.le_of_ble_eq_true rfl⟩ rfl hl.1 rfl (Nat.le_of_ble_eq_true rfl) dd_G_keepWayTo_11 hkc) (fun x9 hw => ?_)
  refine lv_bipush (v := 30) hx hb dd_G_keepWayTo_14 (by decide) ?_
  refine va_mmin hx hb (C0.2.2.1.trans hl.1.symm) hown (hts _ km_244) (hts _ km_83) (hts _ km_77) (hts _ km_84) (Nat.le_of_ble_eq_true rfl) (Nat.le_of_ble_eq_true rfl) hkc.1 hkc.2 dd_G_keepWayTo_16 ?_
  refine lv_topi (fun x10 ex10 => ?_)
  replace hw := hw x10 ex10
  have hl0 := hl
  clear hl
  refine lv_istore_n (lv' := [(2, .int x10), (0, .ref a0), (1, .int i1)]) hx hb dd_G_keepWayTo_19 rfl hl0 (by decide) rfl (fun ls hl => ?_)
  refine lv_iload_n hx hb dd_G_keepWayTo_20 rfl (lv_at hl 2 rfl) ?_
  have hl0 := hl
  clear hl
  refine lv_istore_n (lv' := [(3, .int i1), (2, .int x10), (0, .ref a0), (1, .int i1)]) hx hb dd_G_keepWayTo_21 rfl hl0 (by decide) rfl (fun ls hl => ?_)
  refine lv_iconst (v := 0) hx hb dd_G_keepWayTo_22 (by decide) ?_
  have hl0 := hl
  clear hl
  refine lv_istore (lv' := [(4, .int 0), (3, .int i1), (2, .int x10), (0, .ref a0), (1, .int i1)]) hx hb dd_G_keepWayTo_23 hl0 (by decide) rfl (fun ls hl => ?_)
  obtain ⟨n, hw⟩ := hw
  exact wk_G_keepWayTo_25 C0 hr hlk n _ _ _ _ _ _ _ _ _ _ hw hG hS hkc (lv_sub hl [3, 2, 1, 0] rfl)
/-! SegmentLocks$Rings.search(Ljava/util/ArrayList;LSegmentLocks$Rows;LSegmentLocks$Task;)Z -/
theorem dd_G_search_0 : decode prog_2_method_4_code 0 = .ok (.aload_n 0, 1) := by decide +kernel
theorem dd_G_search_1 : decode prog_2_method_4_code 1 = .ok (.aload_n 3, 1) := by decide +kernel
theorem dd_G_search_2 : decode prog_2_method_4_code 2 = .ok (.invokevirtual 50, 3) := by decide +kernel
theorem dd_G_search_5 : decode prog_2_method_4_code 5 = .ok (.iconst 0, 1) := by decide +kernel
theorem dd_G_search_6 : decode prog_2_method_4_code 6 = .ok (.istore 4, 2) := by decide +kernel
theorem dd_G_search_8 : decode prog_2_method_4_code 8 = .ok (.iload 4, 2) := by decide +kernel
theorem dd_G_search_10 : decode prog_2_method_4_code 10 = .ok (.bipush 30, 2) := by decide +kernel
theorem dd_G_search_12 : decode prog_2_method_4_code 12 = .ok (.if_icmp .ge 58, 3) := by decide +kernel
theorem dd_G_search_15 : decode prog_2_method_4_code 15 = .ok (.iload 4, 2) := by decide +kernel
theorem dd_G_search_17 : decode prog_2_method_4_code 17 = .ok (.aload_n 0, 1) := by decide +kernel
theorem dd_G_search_18 : decode prog_2_method_4_code 18 = .ok (.getfield 18, 3) := by decide +kernel
theorem dd_G_search_21 : decode prog_2_method_4_code 21 = .ok (.invokevirtual 32, 3) := by decide +kernel
theorem dd_G_search_24 : decode prog_2_method_4_code 24 = .ok (.if_icmp .ge 46, 3) := by decide +kernel
theorem dd_G_search_27 : decode prog_2_method_4_code 27 = .ok (.aload_n 0, 1) := by decide +kernel
theorem dd_G_search_28 : decode prog_2_method_4_code 28 = .ok (.aload_n 1, 1) := by decide +kernel
theorem dd_G_search_29 : decode prog_2_method_4_code 29 = .ok (.aload_n 2, 1) := by decide +kernel
theorem dd_G_search_30 : decode prog_2_method_4_code 30 = .ok (.aload_n 0, 1) := by decide +kernel
theorem dd_G_search_31 : decode prog_2_method_4_code 31 = .ok (.getfield 18, 3) := by decide +kernel
theorem dd_G_search_34 : decode prog_2_method_4_code 34 = .ok (.iload 4, 2) := by decide +kernel
theorem dd_G_search_36 : decode prog_2_method_4_code 36 = .ok (.invokevirtual 36, 3) := by decide +kernel
theorem dd_G_search_39 : decode prog_2_method_4_code 39 = .ok (.checkcast 40, 3) := by decide +kernel
theorem dd_G_search_42 : decode prog_2_method_4_code 42 = .ok (.invokevirtual 54, 3) := by decide +kernel
theorem dd_G_search_45 : decode prog_2_method_4_code 45 = .ok (.aload_n 0, 1) := by decide +kernel
theorem dd_G_search_46 : decode prog_2_method_4_code 46 = .ok (.aload_n 1, 1) := by decide +kernel
theorem dd_G_search_47 : decode prog_2_method_4_code 47 = .ok (.iload 4, 2) := by decide +kernel
theorem dd_G_search_49 : decode prog_2_method_4_code 49 = .ok (.aload_n 3, 1) := by decide +kernel
theorem dd_G_search_50 : decode prog_2_method_4_code 50 = .ok (.invokevirtual 58, 3) := by decide +kernel
theorem dd_G_search_53 : decode prog_2_method_4_code 53 = .ok (.ifCond .eq 11, 3) := by decide +kernel
theorem dd_G_search_56 : decode prog_2_method_4_code 56 = .ok (.aload_n 0, 1) := by decide +kernel
theorem dd_G_search_57 : decode prog_2_method_4_code 57 = .ok (.iload 4, 2) := by decide +kernel
theorem dd_G_search_59 : decode prog_2_method_4_code 59 = .ok (.invokevirtual 62, 3) := by decide +kernel
theorem dd_G_search_62 : decode prog_2_method_4_code 62 = .ok (.iconst 1, 1) := by decide +kernel
theorem dd_G_search_63 : decode prog_2_method_4_code 63 = .ok (.ireturn, 1) := by decide +kernel
theorem dd_G_search_64 : decode prog_2_method_4_code 64 = .ok (.iinc 4 1, 3) := by decide +kernel
theorem dd_G_search_67 : decode prog_2_method_4_code 67 = .ok (.goto (-59), 3) := by decide +kernel
theorem dd_G_search_70 : decode prog_2_method_4_code 70 = .ok (.iconst 0, 1) := by decide +kernel
theorem dd_G_search_71 : decode prog_2_method_4_code 71 = .ok (.ireturn, 1) := by decide +kernel
def wp_G_search_70 (g : Gm) (post : Int32 → Hp → Prop) (mc ms : Nat) (h : Hp) (kc ks : Nat) : Prop := zB 0 ∧ post 0 h
set_option maxHeartbeats 4000000 in
set_option maxRecDepth 100000 in
theorem wk_G_search_70 {p : Program} {l : Launch} {e : Env} {s : State} {m : MethodId} {args : Array Value} {below : List Frame} {meth : Method} {c : Code} {g : Gm} {post : Int32 → Hp → Prop} {mc ms : Nat} (C0 : Cx g p s m args c prog_2_method_4_code 5 "SegmentLocks$Rings") (hr : meth.sig.returnType = (some .boolean)) (hlk : meth.locks = false) : ∀ (h : Hp) (kc ks : Nat) (H : Heap) (locs : List Loc) (ls : Array Slot), wp_G_search_70 g post mc ms h kc ks → GH g h H → va_S (gA g) s.heap H locs → kc ≤ mc ∧ ks ≤ ms → lv_has ls 5 [] → W p l e (rmm 8 216 mc ms) s m args below meth c H locs kc ks (MQ below (va_Qi post (gS g) (gA g)) args s mc ms (gA g)) (F0 m 70 ls []) := by
  obtain ⟨hx, hb, -, hown, hts, hgk⟩ := id C0
  intro h kc ks H locs ls hw hG hS hkc hl
  unfold wp_G_search_70 at hw
  refine lv_iconst (v := 0) hx hb dd_G_search_70 (by decide) ?_
  exact re_z C0 hG hS hr hlk hkc hw.1.nar hw.2 dd_G_search_71
def wp_G_search_8 (g : Gm) (post : Int32 → Hp → Prop) (mc ms : Nat) : Nat → Hp → Nat → Nat → Nat → Nat → Nat → Nat → Int32 → Prop
  | 0, _, _, _, _, _, _, _, _ => False
  | fu + 1, h, kc, ks, v0, v1, v2, v3, v4 => ((30 ≤ v4 → wp_G_search_70 g post mc ms h kc ks) ∧ (¬ 30 ≤ v4 → hK h v0 = 3 ∧ ∃ a3 : Nat, hR h v0 1 = some a3 ∧ hK h a3 = 6 ∧ wp_A_size g (fun x6 => ((x6 ≤ v4 → wp_G_search_70 g post mc ms h kc ks) ∧ (¬ x6 ≤ v4 → hK h v0 = 3 ∧ ∃ a9 : Nat, hR h v0 1 = some a9 ∧ hK h a9 = 6 ∧ wp_A_get g (fun r12 => ∃ a13 : Nat, r12 = some a13 ∧ hK h a13 = 4 ∧ hK h v0 = 3 ∧ wp_G_markBlockers g (fun h16 => hK h16 v0 = 3 ∧ ∃ mc20 ms21 : Nat, kc + mc20 ≤ mc ∧ ks + ms21 ≤ ms ∧ wp_G_reachBlockers g (fun x19 h18 => ((x19 = 0 → ∀ x23 : Int32, x23 = v4 + 1 → wp_G_search_8 g post mc ms fu h18 (kc + mc20) (ks + ms21) v0 v1 v2 v3 x23) ∧ (¬ x19 = 0 → hK h18 v0 = 3 ∧ ∃ mc26 ms27 : Nat, (kc + mc20) + mc26 ≤ mc ∧ (ks + ms21) + ms27 ≤ ms ∧ wp_G_keepWayTo g (fun h25 => zB 1 ∧ post 1 h25) mc26 ms27 h18 v0 v4))) mc20 ms21 h16 v0 v1 v4 v3) h v0 v1 v2 a13) h a9 v4))) h a3))
set_option maxHeartbeats 4000000 in
set_option maxRecDepth 100000 in
theorem wk_G_search_8 {p : Program} {l : Launch} {e : Env} {s : State} {m : MethodId} {args : Array Value} {below : List Frame} {meth : Method} {c : Code} {g : Gm} {post : Int32 → Hp → Prop} {mc ms : Nat} (C0 : Cx g p s m args c prog_2_method_4_code 5 "SegmentLocks$Rings") (hr : meth.sig.returnType = (some .boolean)) (hlk : meth.locks = false) : ∀ n : Nat, ∀ (h : Hp) (kc ks : Nat) (v0 : Nat) (v1 : Nat) (v2 : Nat) (v3 : Nat) (v4 : Int32) (H : Heap) (locs : List Loc) (ls : Array Slot), wp_G_search_8 g post mc ms n h kc ks v0 v1 v2 v3 v4 → GH g h H → va_S (gA g) s.heap H locs → kc ≤ mc ∧ ks ≤ ms → lv_has ls 5 [(0, .ref v0), (1, .ref v1), (2, .ref v2), (3, .ref v3), (4, .int v4)] → W p l e (rmm 8 216 mc ms) s m args below meth c H locs kc ks (MQ below (va_Qi post (gS g) (gA g)) args s mc ms (gA g)) (F0 m 8 ls []) := by
  obtain ⟨hx, hb, -, hown, hts, hgk⟩ := id C0
  intro n
  induction n with
  | zero =>
    intro h kc ks v0 v1 v2 v3 v4 H locs ls hw hG hS hkc hl
    exact hw.elim
  | succ n ih =>
    intro h kc ks v0 v1 v2 v3 v4 H locs ls hw hG hS hkc hl
    unfold wp_G_search_8 at hw
    refine lv_iload hx hb dd_G_search_8 (lv_at hl 4 rfl) ?_
    refine lv_bipush (v := 30) hx hb dd_G_search_10 (by decide) ?_
    refine lv_icmp_ge (tgt := 70) hx hb dd_G_search_12 (by decide) (fun c1 => ?_) (fun c1 => ?_)
    · replace hw := hw.1 c1
      exact wk_G_search_70 C0 hr hlk _ _ _ _ _ _ hw hG hS hkc (lv_sub hl [] rfl)
    · replace hw := hw.2 c1
      refine lv_iload hx hb dd_G_search_15 (lv_at hl 4 rfl) ?_
      refine lv_aload_n hx hb dd_G_search_17 rfl (lv_at hl 0 rfl) ?_
      obtain ⟨k2, a3, ea3, hw⟩ := hw
      refine gf_G_18 C0 hG k2 ea3 dd_G_search_18 ?_
      obtain ⟨k4, hw⟩ := hw
      have hw0 := hw
      clear hw
      refine cs_i (rn_V C0 hG hS (c_A_size l g _ h a3 hw0) (ci := 5) k4 (by decide) rfl rfl (host := "") (nest := false) (n := 0) (As := []) (rest := [.int v4]) km_132 km_240 km_133 km_134 km_17 ⟨by decide, by decide, by decide +kernel⟩ ⟨Nat.le_of_ble_eq_true rfl, Nat.le_of_ble_eq_true rfl⟩ rfl hl.1 rfl (Nat.le_of_ble_eq_true rfl) dd_G_search_21 hkc) (fun x6 hw => ?_)
      refine lv_icmp_ge (tgt := 70) hx hb dd_G_search_24 (by decide) (fun c7 => ?_) (fun c7 => ?_)
      · replace hw := hw.1 c7
        exact wk_G_search_70 C0 hr hlk _ _ _ _ _ _ hw hG hS hkc (lv_sub hl [] rfl)
      · replace hw := hw.2 c7
        refine lv_aload_n hx hb dd_G_search_27 rfl (lv_at hl 0 rfl) ?_
        refine lv_aload_n hx hb dd_G_search_28 rfl (lv_at hl 1 rfl) ?_
        refine lv_aload_n hx hb dd_G_search_29 rfl (lv_at hl 2 rfl) ?_
        refine lv_aload_n hx hb dd_G_search_30 rfl (lv_at hl 0 rfl) ?_
        obtain ⟨k8, a9, ea9, hw⟩ := hw
        refine gf_G_18 C0 hG k8 ea9 dd_G_search_31 ?_
        refine lv_iload hx hb dd_G_search_34 (lv_at hl 4 rfl) ?_
        obtain ⟨k10, hw⟩ := hw
        have hw0 := hw
        clear hw
        refine cs_q (rn_V C0 hG hS (c_A_get l g _ h a9 v4 hw0) (ci := 5) k10 (by decide) rfl rfl (host := "") (nest := false) (n := 1) (As := [.int v4]) (rest := [.ref v2, .ref v1, .ref v0]) km_149 km_239 km_150 km_151 km_17 ⟨by decide, by decide, by decide +kernel⟩ ⟨Nat.le_of_ble_eq_true rfl, Nat.le_of_ble_eq_true rfl⟩ rfl hl.1 rfl (Nat.le_of_ble_eq_true rfl) dd_G_search_36 hkc) (fun r12 hw => ?_)
        obtain ⟨a13, rfl, hw⟩ := hw
        replace hl : lv_has ls 5 [(0, .ref v0), (1, .ref v1), (2, .ref v2), (3, .ref v3), (4, .int v4)] := hl
        obtain ⟨k14, hw⟩ := hw
        refine va_castY (C := RX3) hx hb hown (hts _ km_235) (hgk.2.1 _ km_147) (px_recv C0 hG (ci := 3) k14 (by decide) rfl) dd_G_search_39 ?_
        obtain ⟨k15, hw⟩ := hw
        refine ca_v hS (rn_V C0 hG hS (c_G_markBlockers l g _ h v0 v1 v2 a13 hw) (ci := 2) k15 (by decide) rfl rfl (host := "") (nest := false) (n := 3) (As := [.ref v1, .ref v2, .ref a13]) (rest := []) km_254 km_253 km_255 km_256 km_43 ⟨by decide, by decide, by decide +kernel⟩ ⟨Nat.le_of_ble_eq_true rfl, Nat.le_of_ble_eq_true rfl⟩ rfl hl.1 rfl (Nat.le_of_ble_eq_true rfl) dd_G_search_42 hkc) (fun h16 H locs hw hG hS => ?_)
        refine lv_aload_n hx hb dd_G_search_45 rfl (lv_at hl 0 rfl) ?_
        refine lv_aload_n hx hb dd_G_search_46 rfl (lv_at hl 1 rfl) ?_
        refine lv_iload hx hb dd_G_search_47 (lv_at hl 4 rfl) ?_
        refine lv_aload_n hx hb dd_G_search_49 rfl (lv_at hl 3 rfl) ?_
        obtain ⟨k17, hw⟩ := hw
        obtain ⟨mc20, ms21, hc1, hc2, hw⟩ := hw
        refine ca_i hS (rn_V C0 hG hS (c_G_reachBlockers l g _ mc20 ms21 h16 v0 v1 v4 v3 hw) (ci := 2) k17 (by decide) rfl rfl (host := "") (nest := false) (n := 3) (As := [.ref v1, .int v4, .ref v3]) (rest := []) km_250 km_249 km_251 km_252 km_43 ⟨by decide, by decide, by decide +kernel⟩ ⟨Nat.le_of_ble_eq_true rfl, Nat.le_of_ble_eq_true rfl⟩ rfl hl.1 rfl (Nat.le_of_ble_eq_true rfl) dd_G_search_50 ⟨hc1, hc2⟩) (fun x19 h18 H locs hw hG hS => ?_)
        have hkc := And.intro hc1 hc2
        refine lv_if_eq (tgt := 64) hx hb dd_G_search_53 (by decide) (fun c22 => ?_) (fun c22 => ?_)
        · replace hw := hw.1 c22
          obtain ⟨x23, ex23⟩ : ∃ y : Int32, y = v4 + 1 := ⟨_, rfl⟩
          replace hw := hw x23 ex23
          have hl0 := hl
          clear hl
          refine lv_iinc (v := x23) (lv' := [(4, .int x23), (0, .ref v0), (1, .ref v1), (2, .ref v2), (3, .ref v3)]) hx hb dd_G_search_64 hl0 (k := 4) rfl (by rw [ex23]; rfl) (by decide) rfl (fun ls hl => ?_)
          refine lv_goto (tgt := 8) hx hb dd_G_search_67 (by decide) ?_
          exact ih _ _ _ _ _ _ _ _ _ _ _ hw hG hS hkc (lv_sub hl [1, 2, 3, 4, 0] rfl)
        · replace hw := hw.2 c22
          refine lv_aload_n hx hb dd_G_search_56 rfl (lv_at hl 0 rfl) ?_
          refine lv_iload hx hb dd_G_search_57 (lv_at hl 4 rfl) ?_
          obtain ⟨k24, hw⟩ := hw
          obtain ⟨mc26, ms27, hc1, hc2, hw⟩ := hw
          refine ca_v hS (rn_V C0 hG hS (c_G_keepWayTo l g _ mc26 ms27 h18 v0 v4 hw) (ci := 2) k24 (by decide) rfl rfl (host := "") (nest := false) (n := 1) (As := [.int v4]) (rest := []) km_246 km_245 km_247 km_248 km_43 ⟨by decide, by decide, by decide +kernel⟩ ⟨Nat.le_of_ble_eq_true rfl, Nat.le_of_ble_eq_true rfl⟩ rfl hl.1 rfl (Nat.le_of_ble_eq_true rfl) dd_G_search_59 ⟨hc1, hc2⟩) (fun h25 H locs hw hG hS => ?_)
          have hkc := And.intro hc1 hc2
          refine lv_iconst (v := 1) hx hb dd_G_search_62 (by decide) ?_
          exact re_z C0 hG hS hr hlk hkc hw.1.nar hw.2 dd_G_search_63
def wp_G_search (g : Gm) (post : Int32 → Hp → Prop) (mc ms : Nat) (h : Hp) (a0 : Nat) (b1 : Nat) (b2 : Nat) (b3 : Nat) : Prop := hK h a0 = 3 ∧ ∃ mc3 ms4 : Nat, 0 + mc3 ≤ mc ∧ 0 + ms4 ≤ ms ∧ wp_G_begin g (fun h2 => ∃ n : Nat, wp_G_search_8 g post mc ms n h2 (0 + mc3) (0 + ms4) a0 b1 b2 b3 0) mc3 ms4 h a0 b3
set_option maxHeartbeats 4000000 in
set_option maxRecDepth 100000 in
theorem c_G_search (l : Launch) (g : Gm) (post : Int32 → Hp → Prop) (mc ms : Nat) (h : Hp) (a0 : Nat) (b1 : Nat) (b2 : Nat) (b3 : Nat) (hw : wp_G_search g post mc ms h a0 b1 b2 b3) : Met l (⟨"SegmentLocks$Rings", "search", "(Ljava/util/ArrayList;LSegmentLocks$Rows;LSegmentLocks$Task;)Z"⟩ : MethodName) (ww (⟨"SegmentLocks$Rings", "search", "(Ljava/util/ArrayList;LSegmentLocks$Rows;LSegmentLocks$Task;)Z"⟩ : MethodName) prog_2_method_4_code 5 (some .boolean)) (rmm 8 216 mc ms) (va_Pc [.ref a0, .ref b1, .ref b2, .ref b3] (gS g h)) (va_Qi post (gS g) (gA g)) mc ms (gA g) := by
  first | refine en_met (by decide) ?_ | refine en_metF (by decide) ?_
  intro p e s m below meth c C0 hr hlk hin hG
  have hS : va_S (gA g) s.heap s.heap [] := va_S.rf
  have hl := lv_entry ([.ref a0, .ref b1, .ref b2, .ref b3]) (n := 5) (Nat.le_of_ble_eq_true rfl)
  rw [lg_entry_eq]
  generalize (lg_sl ([.ref a0, .ref b1, .ref b2, .ref b3]) ++ List.replicate (5 - (lg_sl ([.ref a0, .ref b1, .ref b2, .ref b3])).length) Slot.unset).toArray = ls at hl ⊢
  replace hl : lv_has ls 5 [(0, .ref a0), (1, .ref b1), (2, .ref b2), (3, .ref b3)] := hl
  obtain ⟨hx, hb, -, hown, hts, hgk⟩ := id C0
  have hkc : 0 ≤ mc ∧ 0 ≤ ms := ⟨Nat.zero_le _, Nat.zero_le _⟩
  unfold wp_G_search at hw
  refine lv_aload_n hx hb dd_G_search_0 rfl (lv_at hl 0 rfl) ?_
  refine lv_aload_n hx hb dd_G_search_1 rfl (lv_at hl 3 rfl) ?_
  obtain ⟨k1, hw⟩ := hw
  obtain ⟨mc3, ms4, hc1, hc2, hw⟩ := hw
  refine ca_v hS (rn_V C0 hG hS (c_G_begin l g _ mc3 ms4 h a0 b3 hw) (ci := 2) k1 (by decide) rfl rfl (host := "") (nest := false) (n := 1) (As := [.ref b3]) (rest := []) km_258 km_257 km_259 km_260 km_43 ⟨by decide, by decide, by decide +kernel⟩ ⟨Nat.le_of_ble_eq_true rfl, Nat.le_of_ble_eq_true rfl⟩ rfl hl.1 rfl (Nat.le_of_ble_eq_true rfl) dd_G_search_2 ⟨hc1, hc2⟩) (fun h2 H locs hw hG hS => ?_)
  have hkc := And.intro hc1 hc2
  refine lv_iconst (v := 0) hx hb dd_G_search_5 (by decide) ?_
  have hl0 := hl
  clear hl
  refine lv_istore (lv' := [(4, .int 0), (0, .ref a0), (1, .ref b1), (2, .ref b2), (3, .ref b3)]) hx hb dd_G_search_6 hl0 (by decide) rfl (fun ls hl => ?_)
  obtain ⟨n, hw⟩ := hw
  exact wk_G_search_8 C0 hr hlk n _ _ _ _ _ _ _ _ _ _ _ hw hG hS hkc (lv_sub hl [1, 2, 3, 4, 0] rfl)
/-! SegmentLocks$Rings.youngest(LSegmentLocks$Task;)LSegmentLocks$Task; -/
theorem dd_G_youngest_0 : decode prog_2_method_3_code 0 = .ok (.aload_n 1, 1) := by decide +kernel
theorem dd_G_youngest_1 : decode prog_2_method_3_code 1 = .ok (.astore_n 2, 1) := by decide +kernel
theorem dd_G_youngest_2 : decode prog_2_method_3_code 2 = .ok (.iconst 0, 1) := by decide +kernel
theorem dd_G_youngest_3 : decode prog_2_method_3_code 3 = .ok (.istore_n 3, 1) := by decide +kernel
theorem dd_G_youngest_4 : decode prog_2_method_3_code 4 = .ok (.iload_n 3, 1) := by decide +kernel
theorem dd_G_youngest_5 : decode prog_2_method_3_code 5 = .ok (.aload_n 0, 1) := by decide +kernel
theorem dd_G_youngest_6 : decode prog_2_method_3_code 6 = .ok (.getfield 12, 3) := by decide +kernel
theorem dd_G_youngest_9 : decode prog_2_method_3_code 9 = .ok (.invokevirtual 32, 3) := by decide +kernel
theorem dd_G_youngest_12 : decode prog_2_method_3_code 12 = .ok (.if_icmp .ge 39, 3) := by decide +kernel
theorem dd_G_youngest_15 : decode prog_2_method_3_code 15 = .ok (.aload_n 0, 1) := by decide +kernel
theorem dd_G_youngest_16 : decode prog_2_method_3_code 16 = .ok (.getfield 12, 3) := by decide +kernel
theorem dd_G_youngest_19 : decode prog_2_method_3_code 19 = .ok (.iload_n 3, 1) := by decide +kernel
theorem dd_G_youngest_20 : decode prog_2_method_3_code 20 = .ok (.invokevirtual 36, 3) := by decide +kernel
theorem dd_G_youngest_23 : decode prog_2_method_3_code 23 = .ok (.checkcast 40, 3) := by decide +kernel
theorem dd_G_youngest_26 : decode prog_2_method_3_code 26 = .ok (.aload_n 2, 1) := by decide +kernel
theorem dd_G_youngest_27 : decode prog_2_method_3_code 27 = .ok (.invokevirtual 46, 3) := by decide +kernel
theorem dd_G_youngest_30 : decode prog_2_method_3_code 30 = .ok (.ifCond .eq 15, 3) := by decide +kernel
theorem dd_G_youngest_33 : decode prog_2_method_3_code 33 = .ok (.aload_n 0, 1) := by decide +kernel
theorem dd_G_youngest_34 : decode prog_2_method_3_code 34 = .ok (.getfield 12, 3) := by decide +kernel
theorem dd_G_youngest_37 : decode prog_2_method_3_code 37 = .ok (.iload_n 3, 1) := by decide +kernel
theorem dd_G_youngest_38 : decode prog_2_method_3_code 38 = .ok (.invokevirtual 36, 3) := by decide +kernel
theorem dd_G_youngest_41 : decode prog_2_method_3_code 41 = .ok (.checkcast 40, 3) := by decide +kernel
theorem dd_G_youngest_44 : decode prog_2_method_3_code 44 = .ok (.astore_n 2, 1) := by decide +kernel
theorem dd_G_youngest_45 : decode prog_2_method_3_code 45 = .ok (.iinc 3 1, 3) := by decide +kernel
theorem dd_G_youngest_48 : decode prog_2_method_3_code 48 = .ok (.goto (-44), 3) := by decide +kernel
theorem dd_G_youngest_51 : decode prog_2_method_3_code 51 = .ok (.aload_n 2, 1) := by decide +kernel
theorem dd_G_youngest_52 : decode prog_2_method_3_code 52 = .ok (.areturn, 1) := by decide +kernel
def wp_G_youngest_45 (g : Gm) (post : Option Nat → Prop) (K4 : Hp → Nat → Nat → Int32 → Prop) (h : Hp) (v0 : Nat) (v2 : Nat) (v3 : Int32) : Prop := ∀ x1 : Int32, x1 = v3 + 1 → K4 h v0 v2 x1
set_option maxHeartbeats 4000000 in
set_option maxRecDepth 100000 in
theorem wk_G_youngest_45 {p : Program} {l : Launch} {e : Env} {s : State} {m : MethodId} {args : Array Value} {below : List Frame} {meth : Method} {c : Code} {g : Gm} {post : Option Nat → Prop} (C0 : Cx g p s m args c prog_2_method_3_code 4 "SegmentLocks$Rings") (hr : meth.sig.returnType = (some (.object "SegmentLocks$Task"))) (hlk : meth.locks = false) {K4 : Hp → Nat → Nat → Int32 → Prop} (hK4 : ∀ (h : Hp) (v0 : Nat) (v2 : Nat) (v3 : Int32) (ls : Array Slot), K4 h v0 v2 v3 → GH g h s.heap → lv_has ls 4 [(0, .ref v0), (2, .ref v2), (3, .int v3)] → W p l e (rmm 3 64 0 0) s m args below meth c s.heap [] 0 0 (MQ below (va_Sq post) args s 0 0 (fun _ => False)) (F0 m 4 ls [])) : ∀ (h : Hp) (v0 : Nat) (v2 : Nat) (v3 : Int32) (ls : Array Slot), wp_G_youngest_45 g post K4 h v0 v2 v3 → GH g h s.heap → lv_has ls 4 [(0, .ref v0), (2, .ref v2), (3, .int v3)] → W p l e (rmm 3 64 0 0) s m args below meth c s.heap [] 0 0 (MQ below (va_Sq post) args s 0 0 (fun _ => False)) (F0 m 45 ls []) := by
  obtain ⟨hx, hb, -, hown, hts, hgk⟩ := id C0
  have hS : va_S (gA g) s.heap s.heap [] := va_S.rf
  intro h v0 v2 v3 ls hw hG hl
  unfold wp_G_youngest_45 at hw
  obtain ⟨x1, ex1⟩ : ∃ y : Int32, y = v3 + 1 := ⟨_, rfl⟩
  replace hw := hw x1 ex1
  have hl0 := hl
  clear hl
  refine lv_iinc (v := x1) (lv' := [(3, .int x1), (0, .ref v0), (2, .ref v2)]) hx hb dd_G_youngest_45 hl0 (k := 2) rfl (by rw [ex1]; rfl) (by decide) rfl (fun ls hl => ?_)
  refine lv_goto (tgt := 4) hx hb dd_G_youngest_48 (by decide) ?_
  exact hK4 _ _ _ _ _ hw hG (lv_sub hl [1, 2, 0] rfl)
def wp_G_youngest_4 (g : Gm) (post : Option Nat → Prop) : Nat → Hp → Nat → Nat → Int32 → Prop
  | 0, _, _, _, _ => False
  | fu + 1, h, v0, v2, v3 => hK h v0 = 3 ∧ ∃ a2 : Nat, hR h v0 0 = some a2 ∧ hK h a2 = 6 ∧ wp_A_size g (fun x5 => ((x5 ≤ v3 → post (some v2)) ∧ (¬ x5 ≤ v3 → hK h v0 = 3 ∧ ∃ a8 : Nat, hR h v0 0 = some a8 ∧ hK h a8 = 6 ∧ wp_A_get g (fun r11 => ∃ a12 : Nat, r11 = some a12 ∧ hK h a12 = 4 ∧ hK h a12 = 4 ∧ wp_T_isYounger g (fun x16 => ((x16 = 0 → wp_G_youngest_45 g post (fun h v0 v2 v3 => wp_G_youngest_4 g post fu h v0 v2 v3) h v0 v2 v3) ∧ (¬ x16 = 0 → hK h v0 = 3 ∧ ∃ a19 : Nat, hR h v0 0 = some a19 ∧ hK h a19 = 6 ∧ wp_A_get g (fun r22 => ∃ a23 : Nat, r22 = some a23 ∧ hK h a23 = 4 ∧ wp_G_youngest_45 g post (fun h v0 v2 v3 => wp_G_youngest_4 g post fu h v0 v2 v3) h v0 a23 v3) h a19 v3))) h a12 v2) h a8 v3))) h a2
set_option maxHeartbeats 4000000 in
set_option maxRecDepth 100000 in
theorem wk_G_youngest_4 {p : Program} {l : Launch} {e : Env} {s : State} {m : MethodId} {args : Array Value} {below : List Frame} {meth : Method} {c : Code} {g : Gm} {post : Option Nat → Prop} (C0 : Cx g p s m args c prog_2_method_3_code 4 "SegmentLocks$Rings") (hr : meth.sig.returnType = (some (.object "SegmentLocks$Task"))) (hlk : meth.locks = false) : ∀ n : Nat, ∀ (h : Hp) (v0 : Nat) (v2 : Nat) (v3 : Int32) (ls : Array Slot), wp_G_youngest_4 g post n h v0 v2 v3 → GH g h s.heap → lv_has ls 4 [(0, .ref v0), (2, .ref v2), (3, .int v3)] → W p l e (rmm 3 64 0 0) s m args below meth c s.heap [] 0 0 (MQ below (va_Sq post) args s 0 0 (fun _ => False)) (F0 m 4 ls []) := by
  obtain ⟨hx, hb, -, hown, hts, hgk⟩ := id C0
  have hS : va_S (gA g) s.heap s.heap [] := va_S.rf
  intro n
  induction n with
  | zero =>
    intro h v0 v2 v3 ls hw hG hl
    exact hw.elim
  | succ n ih =>
    intro h v0 v2 v3 ls hw hG hl
    unfold wp_G_youngest_4 at hw
    refine lv_iload_n hx hb dd_G_youngest_4 rfl (lv_at hl 2 rfl) ?_
    refine lv_aload_n hx hb dd_G_youngest_5 rfl (lv_at hl 0 rfl) ?_
    obtain ⟨k1, a2, ea2, hw⟩ := hw
    refine gf_G_12 C0 hG k1 ea2 dd_G_youngest_6 ?_
    obtain ⟨k3, hw⟩ := hw
    have hw0 := hw
    clear hw
    refine cs_i (rn_V C0 hG hS (c_A_size l g _ h a2 hw0) (ci := 5) k3 (by decide) rfl rfl (host := "") (nest := false) (n := 0) (As := []) (rest := [.int v3]) km_132 km_240 km_133 km_134 km_17 ⟨by decide, by decide, by decide +kernel⟩ ⟨Nat.le_of_ble_eq_true rfl, Nat.le_of_ble_eq_true rfl⟩ rfl hl.1 rfl (Nat.le_of_ble_eq_true rfl) dd_G_youngest_9 ⟨Nat.le_refl _, Nat.le_refl _⟩) (fun x5 hw => ?_)
    refine lv_icmp_ge (tgt := 51) hx hb dd_G_youngest_12 (by decide) (fun c6 => ?_) (fun c6 => ?_)
    · replace hw := hw.1 c6
      refine lv_aload_n hx hb dd_G_youngest_51 rfl (lv_at hl 1 rfl) ?_
      exact rs_q (v := (some v2)) C0 hr (by first | exact Or.inl ⟨_, rfl⟩ | exact Or.inr ⟨_, rfl⟩) hlk hw dd_G_youngest_52
    · replace hw := hw.2 c6
      refine lv_aload_n hx hb dd_G_youngest_15 rfl (lv_at hl 0 rfl) ?_
      obtain ⟨k7, a8, ea8, hw⟩ := hw
      refine gf_G_12 C0 hG k7 ea8 dd_G_youngest_16 ?_
      refine lv_iload_n hx hb dd_G_youngest_19 rfl (lv_at hl 2 rfl) ?_
      obtain ⟨k9, hw⟩ := hw
      have hw0 := hw
      clear hw
      refine cs_q (rn_V C0 hG hS (c_A_get l g _ h a8 v3 hw0) (ci := 5) k9 (by decide) rfl rfl (host := "") (nest := false) (n := 1) (As := [.int v3]) (rest := []) km_149 km_239 km_150 km_151 km_17 ⟨by decide, by decide, by decide +kernel⟩ ⟨Nat.le_of_ble_eq_true rfl, Nat.le_of_ble_eq_true rfl⟩ rfl hl.1 rfl (Nat.le_of_ble_eq_true rfl) dd_G_youngest_20 ⟨Nat.le_refl _, Nat.le_refl _⟩) (fun r11 hw => ?_)
      obtain ⟨a12, rfl, hw⟩ := hw
      replace hl : lv_has ls 4 [(0, .ref v0), (2, .ref v2), (3, .int v3)] := hl
      obtain ⟨k13, hw⟩ := hw
      refine va_castY (C := RX3) hx hb hown (hts _ km_235) (hgk.2.1 _ km_147) (px_recv C0 hG (ci := 3) k13 (by decide) rfl) dd_G_youngest_23 ?_
      refine lv_aload_n hx hb dd_G_youngest_26 rfl (lv_at hl 1 rfl) ?_
      obtain ⟨k14, hw⟩ := hw
      have hw0 := hw
      clear hw
      refine cs_i (rn_V C0 hG hS (c_T_isYounger l g _ h a12 v2 hw0) (ci := 3) k14 (by decide) rfl rfl (host := "SegmentLocks") (nest := true) (n := 1) (As := [.ref v2]) (rest := []) km_262 km_261 km_263 km_264 km_123 ⟨by decide, by decide, by decide +kernel⟩ ⟨Nat.le_of_ble_eq_true rfl, Nat.le_of_ble_eq_true rfl⟩ rfl hl.1 rfl (Nat.le_of_ble_eq_true rfl) dd_G_youngest_27 ⟨Nat.le_refl _, Nat.le_refl _⟩) (fun x16 hw => ?_)
      refine lv_if_eq (tgt := 45) hx hb dd_G_youngest_30 (by decide) (fun c17 => ?_) (fun c17 => ?_)
      · replace hw := hw.1 c17
        exact wk_G_youngest_45 C0 hr hlk ih _ _ _ _ _ hw hG (lv_sub hl [0, 1, 2] rfl)
      · replace hw := hw.2 c17
        refine lv_aload_n hx hb dd_G_youngest_33 rfl (lv_at hl 0 rfl) ?_
        obtain ⟨k18, a19, ea19, hw⟩ := hw
        refine gf_G_12 C0 hG k18 ea19 dd_G_youngest_34 ?_
        refine lv_iload_n hx hb dd_G_youngest_37 rfl (lv_at hl 2 rfl) ?_
        obtain ⟨k20, hw⟩ := hw
        have hw0 := hw
        clear hw
        refine cs_q (rn_V C0 hG hS (c_A_get l g _ h a19 v3 hw0) (ci := 5) k20 (by decide) rfl rfl (host := "") (nest := false) (n := 1) (As := [.int v3]) (rest := []) km_149 km_239 km_150 km_151 km_17 ⟨by decide, by decide, by decide +kernel⟩ ⟨Nat.le_of_ble_eq_true rfl, Nat.le_of_ble_eq_true rfl⟩ rfl hl.1 rfl (Nat.le_of_ble_eq_true rfl) dd_G_youngest_38 ⟨Nat.le_refl _, Nat.le_refl _⟩) (fun r22 hw => ?_)
        obtain ⟨a23, rfl, hw⟩ := hw
        replace hl : lv_has ls 4 [(0, .ref v0), (2, .ref v2), (3, .int v3)] := hl
        obtain ⟨k24, hw⟩ := hw
        refine va_castY (C := RX3) hx hb hown (hts _ km_235) (hgk.2.1 _ km_147) (px_recv C0 hG (ci := 3) k24 (by decide) rfl) dd_G_youngest_41 ?_
        have hl0 := hl
        clear hl
        refine lv_astore_n (lv' := [(2, .ref a23), (0, .ref v0), (3, .int v3)]) hx hb dd_G_youngest_44 rfl hl0 (by decide) rfl (fun ls hl => ?_)
        exact wk_G_youngest_45 C0 hr hlk ih _ _ _ _ _ hw hG (lv_sub hl [1, 0, 2] rfl)
def wp_G_youngest (g : Gm) (post : Option Nat → Prop) (h : Hp) (a0 : Nat) (b1 : Nat) : Prop := ∃ n : Nat, wp_G_youngest_4 g post n h a0 b1 0
set_option maxHeartbeats 4000000 in
set_option maxRecDepth 100000 in
theorem c_G_youngest (l : Launch) (g : Gm) (post : Option Nat → Prop) (h : Hp) (a0 : Nat) (b1 : Nat) (hw : wp_G_youngest g post h a0 b1) : Met l (⟨"SegmentLocks$Rings", "youngest", "(LSegmentLocks$Task;)LSegmentLocks$Task;"⟩ : MethodName) (ww (⟨"SegmentLocks$Rings", "youngest", "(LSegmentLocks$Task;)LSegmentLocks$Task;"⟩ : MethodName) prog_2_method_3_code 4 (some (.object "SegmentLocks$Task"))) (rmm 3 64 0 0) (va_Pc [.ref a0, .ref b1] (gS g h)) (va_Sq post) 0 0 (fun _ => False) := by
  first | refine en_met (by decide) ?_ | refine en_metF (by decide) ?_
  intro p e s m below meth c C0 hr hlk hin hG
  have hS : va_S (gA g) s.heap s.heap [] := va_S.rf
  have hl := lv_entry ([.ref a0, .ref b1]) (n := 4) (Nat.le_of_ble_eq_true rfl)
  rw [lg_entry_eq]
  generalize (lg_sl ([.ref a0, .ref b1]) ++ List.replicate (4 - (lg_sl ([.ref a0, .ref b1])).length) Slot.unset).toArray = ls at hl ⊢
  replace hl : lv_has ls 4 [(0, .ref a0), (1, .ref b1)] := hl
  obtain ⟨hx, hb, -, hown, hts, hgk⟩ := id C0
  unfold wp_G_youngest at hw
  refine lv_aload_n hx hb dd_G_youngest_0 rfl (lv_at hl 1 rfl) ?_
  have hl0 := hl
  clear hl
  refine lv_astore_n (lv' := [(2, .ref b1), (0, .ref a0), (1, .ref b1)]) hx hb dd_G_youngest_1 rfl hl0 (by decide) rfl (fun ls hl => ?_)
  refine lv_iconst (v := 0) hx hb dd_G_youngest_2 (by decide) ?_
  have hl0 := hl
  clear hl
  refine lv_istore_n (lv' := [(3, .int 0), (2, .ref b1), (0, .ref a0), (1, .ref b1)]) hx hb dd_G_youngest_3 rfl hl0 (by decide) rfl (fun ls hl => ?_)
  obtain ⟨n, hw⟩ := hw
  exact wk_G_youngest_4 C0 hr hlk n _ _ _ _ _ hw hG (lv_sub hl [2, 1, 0] rfl)
/-! SegmentLocks$Rings.member(I)I -/
theorem dd_G_member_0 : decode prog_2_method_2_code 0 = .ok (.iload_n 1, 1) := by decide +kernel
theorem dd_G_member_1 : decode prog_2_method_2_code 1 = .ok (.ifCond .lt 31, 3) := by decide +kernel
theorem dd_G_member_4 : decode prog_2_method_2_code 4 = .ok (.iload_n 1, 1) := by decide +kernel
theorem dd_G_member_5 : decode prog_2_method_2_code 5 = .ok (.aload_n 0, 1) := by decide +kernel
theorem dd_G_member_6 : decode prog_2_method_2_code 6 = .ok (.getfield 12, 3) := by decide +kernel
theorem dd_G_member_9 : decode prog_2_method_2_code 9 = .ok (.invokevirtual 32, 3) := by decide +kernel
theorem dd_G_member_12 : decode prog_2_method_2_code 12 = .ok (.if_icmp .ge 20, 3) := by decide +kernel
theorem dd_G_member_15 : decode prog_2_method_2_code 15 = .ok (.aload_n 0, 1) := by decide +kernel
theorem dd_G_member_16 : decode prog_2_method_2_code 16 = .ok (.getfield 12, 3) := by decide +kernel
theorem dd_G_member_19 : decode prog_2_method_2_code 19 = .ok (.iload_n 1, 1) := by decide +kernel
theorem dd_G_member_20 : decode prog_2_method_2_code 20 = .ok (.invokevirtual 36, 3) := by decide +kernel
theorem dd_G_member_23 : decode prog_2_method_2_code 23 = .ok (.checkcast 40, 3) := by decide +kernel
theorem dd_G_member_26 : decode prog_2_method_2_code 26 = .ok (.getfield 42, 3) := by decide +kernel
theorem dd_G_member_29 : decode prog_2_method_2_code 29 = .ok (.goto 4, 3) := by decide +kernel
theorem dd_G_member_32 : decode prog_2_method_2_code 32 = .ok (.iconst 0, 1) := by decide +kernel
theorem dd_G_member_33 : decode prog_2_method_2_code 33 = .ok (.ireturn, 1) := by decide +kernel
def wp_G_member_33 (g : Gm) (post : Int32 → Prop) (h : Hp) (s0 : Int32) : Prop := post s0
set_option maxHeartbeats 4000000 in
set_option maxRecDepth 100000 in
theorem wk_G_member_33 {p : Program} {l : Launch} {e : Env} {s : State} {m : MethodId} {args : Array Value} {below : List Frame} {meth : Method} {c : Code} {g : Gm} {post : Int32 → Prop} (C0 : Cx g p s m args c prog_2_method_2_code 2 "SegmentLocks$Rings") (hr : meth.sig.returnType = (some .int)) (hlk : meth.locks = false) : ∀ (h : Hp) (s0 : Int32) (ls : Array Slot), wp_G_member_33 g post h s0 → GH g h s.heap → lv_has ls 2 [] → W p l e (rmm 3 64 0 0) s m args below meth c s.heap [] 0 0 (MQ below (vp_Si post) args s 0 0 (fun _ => False)) (F0 m 33 ls [.int s0]) := by
  obtain ⟨hx, hb, -, hown, hts, hgk⟩ := id C0
  have hS : va_S (gA g) s.heap s.heap [] := va_S.rf
  intro h s0 ls hw hG hl
  unfold wp_G_member_33 at hw
  exact rs_i C0 hr hlk hw dd_G_member_33
def wp_G_member_32 (g : Gm) (post : Int32 → Prop) (h : Hp) : Prop := wp_G_member_33 g post h 0
set_option maxHeartbeats 4000000 in
set_option maxRecDepth 100000 in
theorem wk_G_member_32 {p : Program} {l : Launch} {e : Env} {s : State} {m : MethodId} {args : Array Value} {below : List Frame} {meth : Method} {c : Code} {g : Gm} {post : Int32 → Prop} (C0 : Cx g p s m args c prog_2_method_2_code 2 "SegmentLocks$Rings") (hr : meth.sig.returnType = (some .int)) (hlk : meth.locks = false) : ∀ (h : Hp) (ls : Array Slot), wp_G_member_32 g post h → GH g h s.heap → lv_has ls 2 [] → W p l e (rmm 3 64 0 0) s m args below meth c s.heap [] 0 0 (MQ below (vp_Si post) args s 0 0 (fun _ => False)) (F0 m 32 ls []) := by
  obtain ⟨hx, hb, -, hown, hts, hgk⟩ := id C0
  have hS : va_S (gA g) s.heap s.heap [] := va_S.rf
  intro h ls hw hG hl
  unfold wp_G_member_32 at hw
  refine lv_iconst (v := 0) hx hb dd_G_member_32 (by decide) ?_
  exact wk_G_member_33 C0 hr hlk _ _ _ hw hG (lv_sub hl [] rfl)
def wp_G_member (g : Gm) (post : Int32 → Prop) (h : Hp) (a0 : Nat) (i1 : Int32) : Prop := ((i1 < 0 → wp_G_member_32 g post h) ∧ (¬ i1 < 0 → hK h a0 = 3 ∧ ∃ a3 : Nat, hR h a0 0 = some a3 ∧ hK h a3 = 6 ∧ wp_A_size g (fun x6 => ((x6 ≤ i1 → wp_G_member_32 g post h) ∧ (¬ x6 ≤ i1 → hK h a0 = 3 ∧ ∃ a9 : Nat, hR h a0 0 = some a9 ∧ hK h a9 = 6 ∧ wp_A_get g (fun r12 => ∃ a13 : Nat, r12 = some a13 ∧ hK h a13 = 4 ∧ hK h a13 = 4 ∧ wp_G_member_33 g post h (hI h a13 0)) h a9 i1))) h a3))
set_option maxHeartbeats 4000000 in
set_option maxRecDepth 100000 in
theorem c_G_member (l : Launch) (g : Gm) (post : Int32 → Prop) (h : Hp) (a0 : Nat) (i1 : Int32) (hw : wp_G_member g post h a0 i1) : Met l (⟨"SegmentLocks$Rings", "member", "(I)I"⟩ : MethodName) (ww (⟨"SegmentLocks$Rings", "member", "(I)I"⟩ : MethodName) prog_2_method_2_code 2 (some .int)) (rmm 3 64 0 0) (va_Pc [.ref a0, .int i1] (gS g h)) (vp_Si post) 0 0 (fun _ => False) := by
  first | refine en_met (by decide) ?_ | refine en_metF (by decide) ?_
  intro p e s m below meth c C0 hr hlk hin hG
  have hS : va_S (gA g) s.heap s.heap [] := va_S.rf
  have hl := lv_entry ([.ref a0, .int i1]) (n := 2) (Nat.le_of_ble_eq_true rfl)
  rw [lg_entry_eq]
  generalize (lg_sl ([.ref a0, .int i1]) ++ List.replicate (2 - (lg_sl ([.ref a0, .int i1])).length) Slot.unset).toArray = ls at hl ⊢
  replace hl : lv_has ls 2 [(0, .ref a0), (1, .int i1)] := hl
  obtain ⟨hx, hb, -, hown, hts, hgk⟩ := id C0
  unfold wp_G_member at hw
  refine lv_iload_n hx hb dd_G_member_0 rfl (lv_at hl 1 rfl) ?_
  refine lv_if_lt (tgt := 32) hx hb dd_G_member_1 (by decide) (fun c1 => ?_) (fun c1 => ?_)
  · replace hw := hw.1 c1
    exact wk_G_member_32 C0 hr hlk _ _ hw hG (lv_sub hl [] rfl)
  · replace hw := hw.2 c1
    refine lv_iload_n hx hb dd_G_member_4 rfl (lv_at hl 1 rfl) ?_
    refine lv_aload_n hx hb dd_G_member_5 rfl (lv_at hl 0 rfl) ?_
    obtain ⟨k2, a3, ea3, hw⟩ := hw
    refine gf_G_12 C0 hG k2 ea3 dd_G_member_6 ?_
    obtain ⟨k4, hw⟩ := hw
    have hw0 := hw
    clear hw
    refine cs_i (rn_V C0 hG hS (c_A_size l g _ h a3 hw0) (ci := 5) k4 (by decide) rfl rfl (host := "") (nest := false) (n := 0) (As := []) (rest := [.int i1]) km_132 km_240 km_133 km_134 km_17 ⟨by decide, by decide, by decide +kernel⟩ ⟨Nat.le_of_ble_eq_true rfl, Nat.le_of_ble_eq_true rfl⟩ rfl hl.1 rfl (Nat.le_of_ble_eq_true rfl) dd_G_member_9 ⟨Nat.le_refl _, Nat.le_refl _⟩) (fun x6 hw => ?_)
    refine lv_icmp_ge (tgt := 32) hx hb dd_G_member_12 (by decide) (fun c7 => ?_) (fun c7 => ?_)
    · replace hw := hw.1 c7
      exact wk_G_member_32 C0 hr hlk _ _ hw hG (lv_sub hl [] rfl)
    · replace hw := hw.2 c7
      refine lv_aload_n hx hb dd_G_member_15 rfl (lv_at hl 0 rfl) ?_
      obtain ⟨k8, a9, ea9, hw⟩ := hw
      refine gf_G_12 C0 hG k8 ea9 dd_G_member_16 ?_
      refine lv_iload_n hx hb dd_G_member_19 rfl (lv_at hl 1 rfl) ?_
      obtain ⟨k10, hw⟩ := hw
      have hw0 := hw
      clear hw
      refine cs_q (rn_V C0 hG hS (c_A_get l g _ h a9 i1 hw0) (ci := 5) k10 (by decide) rfl rfl (host := "") (nest := false) (n := 1) (As := [.int i1]) (rest := []) km_149 km_239 km_150 km_151 km_17 ⟨by decide, by decide, by decide +kernel⟩ ⟨Nat.le_of_ble_eq_true rfl, Nat.le_of_ble_eq_true rfl⟩ rfl hl.1 rfl (Nat.le_of_ble_eq_true rfl) dd_G_member_20 ⟨Nat.le_refl _, Nat.le_refl _⟩) (fun r12 hw => ?_)
      obtain ⟨a13, rfl, hw⟩ := hw
      replace hl : lv_has ls 2 [(0, .ref a0), (1, .int i1)] := hl
      obtain ⟨k14, hw⟩ := hw
      refine va_castY (C := RX3) hx hb hown (hts _ km_235) (hgk.2.1 _ km_147) (px_recv C0 hG (ci := 3) k14 (by decide) rfl) dd_G_member_23 ?_
      obtain ⟨k15, hw⟩ := hw
      refine gf_G_42 C0 hG k15 dd_G_member_26 ?_
      refine lv_goto (tgt := 33) hx hb dd_G_member_29 (by decide) ?_
      exact wk_G_member_33 C0 hr hlk _ _ _ hw hG (lv_sub hl [] rfl)
