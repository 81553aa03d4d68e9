/-! SegmentLocks.<init>()V -/
theorem dd_S_init_0 : decode prog_1_method_1_code 0 = .ok (.aload_n 0, 1) := by decide +kernel
theorem dd_S_init_1 : decode prog_1_method_1_code 1 = .ok (.invokespecial 1, 3) := by decide +kernel
theorem dd_S_init_4 : decode prog_1_method_1_code 4 = .ok (.aload_n 0, 1) := by decide +kernel
theorem dd_S_init_5 : decode prog_1_method_1_code 5 = .ok (.bipush 50, 2) := by decide +kernel
theorem dd_S_init_7 : decode prog_1_method_1_code 7 = .ok (.newarray .long, 2) := by decide +kernel
theorem dd_S_init_9 : decode prog_1_method_1_code 9 = .ok (.putfield 9, 3) := by decide +kernel
theorem dd_S_init_12 : decode prog_1_method_1_code 12 = .ok (.aload_n 0, 1) := by decide +kernel
theorem dd_S_init_13 : decode prog_1_method_1_code 13 = .ok (.new 13, 3) := by decide +kernel
theorem dd_S_init_16 : decode prog_1_method_1_code 16 = .ok (.dup, 1) := by decide +kernel
theorem dd_S_init_17 : decode prog_1_method_1_code 17 = .ok (.invokespecial 15, 3) := by decide +kernel
theorem dd_S_init_20 : decode prog_1_method_1_code 20 = .ok (.putfield 16, 3) := by decide +kernel
theorem dd_S_init_23 : decode prog_1_method_1_code 23 = .ok (.aload_n 0, 1) := by decide +kernel
theorem dd_S_init_24 : decode prog_1_method_1_code 24 = .ok (.new 20, 3) := by decide +kernel
theorem dd_S_init_27 : decode prog_1_method_1_code 27 = .ok (.dup, 1) := by decide +kernel
theorem dd_S_init_28 : decode prog_1_method_1_code 28 = .ok (.invokespecial 22, 3) := by decide +kernel
theorem dd_S_init_31 : decode prog_1_method_1_code 31 = .ok (.putfield 23, 3) := by decide +kernel
theorem dd_S_init_34 : decode prog_1_method_1_code 34 = .ok (.aload_n 0, 1) := by decide +kernel
theorem dd_S_init_35 : decode prog_1_method_1_code 35 = .ok (.new 27, 3) := by decide +kernel
theorem dd_S_init_38 : decode prog_1_method_1_code 38 = .ok (.dup, 1) := by decide +kernel
theorem dd_S_init_39 : decode prog_1_method_1_code 39 = .ok (.invokespecial 29, 3) := by decide +kernel
theorem dd_S_init_42 : decode prog_1_method_1_code 42 = .ok (.putfield 30, 3) := by decide +kernel
theorem dd_S_init_45 : decode prog_1_method_1_code 45 = .ok (.aload_n 0, 1) := by decide +kernel
theorem dd_S_init_46 : decode prog_1_method_1_code 46 = .ok (.iconst 0, 1) := by decide +kernel
theorem dd_S_init_47 : decode prog_1_method_1_code 47 = .ok (.putfield 34, 3) := by decide +kernel
theorem dd_S_init_50 : decode prog_1_method_1_code 50 = .ok (.aload_n 0, 1) := by decide +kernel
theorem dd_S_init_51 : decode prog_1_method_1_code 51 = .ok (.iconst 1, 1) := by decide +kernel
theorem dd_S_init_52 : decode prog_1_method_1_code 52 = .ok (.putfield 38, 3) := by decide +kernel
theorem dd_S_init_55 : decode prog_1_method_1_code 55 = .ok (.return_, 1) := by decide +kernel
def wp_S_init (g : Gm) (post : Hp → Prop) (mc ms : Nat) (h : Hp) (a0 : Nat) : Prop := 0 + 1 ≤ mc ∧ 0 + 50 ≤ ms ∧ ∀ q1 : Nat, hK h q1 = 0 → g.2.2 0 ≤ q1 → ∀ h2 : Hp, h2 = mkC h q1 22 50 → hK h2 a0 = 1 ∧ ∀ h4 : Hp, h4 = sR h2 a0 0 (some q1) → (0 + 1) + 1 ≤ mc ∧ (0 + 50) + 3 ≤ ms ∧ ∀ q5 : Nat, hK h4 q5 = 0 → g.2.2 0 ≤ q5 → ∀ h6 : Hp, h6 = mkC h4 q5 6 0 → wp_A_init g (fun h8 => hK h8 a0 = 1 ∧ ∀ h10 : Hp, h10 = sR h8 a0 1 (some q5) → ((0 + 1) + 1) + 1 ≤ mc ∧ ((0 + 50) + 3) + 1 ≤ ms ∧ ∀ q11 : Nat, hK h10 q11 = 0 → g.2.2 0 ≤ q11 → ∀ h12 : Hp, h12 = mkC h10 q11 2 0 → ∃ mc15 ms16 : Nat, (((0 + 1) + 1) + 1) + mc15 ≤ mc ∧ (((0 + 50) + 3) + 1) + ms16 ≤ ms ∧ wp_W_init g (fun h14 => hK h14 a0 = 1 ∧ ∀ h18 : Hp, h18 = sR h14 a0 2 (some q11) → ((((0 + 1) + 1) + 1) + mc15) + 1 ≤ mc ∧ ((((0 + 50) + 3) + 1) + ms16) + 5 ≤ ms ∧ ∀ q19 : Nat, hK h18 q19 = 0 → g.2.2 0 ≤ q19 → ∀ h20 : Hp, h20 = mkC h18 q19 3 0 → ∃ mc23 ms24 : Nat, (((((0 + 1) + 1) + 1) + mc15) + 1) + mc23 ≤ mc ∧ (((((0 + 50) + 3) + 1) + ms16) + 5) + ms24 ≤ ms ∧ wp_G_init g (fun h22 => hK h22 a0 = 1 ∧ ∀ h26 : Hp, h26 = sR h22 a0 3 (some q19) → hK h26 a0 = 1 ∧ ∀ h28 : Hp, h28 = sI h26 a0 4 0 → hK h28 a0 = 1 ∧ zB 1 ∧ ∀ h30 : Hp, h30 = sI h28 a0 5 1 → post h30) mc23 ms24 h20 q19) mc15 ms16 h12 q11) h6 q5
set_option maxHeartbeats 4000000 in
set_option maxRecDepth 100000 in
theorem c_S_init (l : Launch) (g : Gm) (post : Hp → Prop) (mc ms : Nat) (h : Hp) (a0 : Nat) (hw : wp_S_init g post mc ms h a0) : Met l (⟨"SegmentLocks", "<init>", "()V"⟩ : MethodName) (ww (⟨"SegmentLocks", "<init>", "()V"⟩ : MethodName) prog_1_method_1_code 1 none) (rmm 5 104 mc ms) (va_Pc [.ref a0] (gS g h)) (va_Qv post (gS g) (gA g)) mc ms (gA g) := by
  first | refine en_met (by decide) ?_ | refine en_metF (by decide) ?_
  intro p e s m below meth c C0 hr hlk hin hG
  have hS : va_S (gA g) s.heap s.heap [] := va_S.rf
  have hl := lv_entry ([.ref a0]) (n := 1) (Nat.le_of_ble_eq_true rfl)
  rw [lg_entry_eq]
  generalize (lg_sl ([.ref a0]) ++ List.replicate (1 - (lg_sl ([.ref a0])).length) Slot.unset).toArray = ls at hl ⊢
  replace hl : lv_has ls 1 [(0, .ref a0)] := hl
  obtain ⟨hx, hb, -, hown, hts, hgk⟩ := id C0
  have hkc : 0 ≤ mc ∧ 0 ≤ ms := ⟨Nat.zero_le _, Nat.zero_le _⟩
  unfold wp_S_init at hw
  refine lv_aload_n hx hb dd_S_init_0 rfl (lv_at hl 0 rfl) ?_
  refine W.objInit hx hb hown (hts _ km_32) (hts _ km_1) (hts _ km_2) rfl (by rw [C0.2.2.1]; exact hl.1) rfl dd_S_init_1 (Nat.le_of_ble_eq_true rfl) (Nat.le_of_ble_eq_true rfl) ?_
  refine W.eq (g2 := F0 m 4 ls []) rfl ?_
  refine lv_aload_n hx hb dd_S_init_4 rfl (lv_at hl 0 rfl) ?_
  refine lv_bipush (v := 50) hx hb dd_S_init_5 (by decide) ?_
  obtain ⟨hc1, hc2, hw⟩ := hw
  refine px_newJ C0 hG hS km_33 (N := 50) (by decide) (by decide) (by decide) hc1 hc2 dd_S_init_7 (fun q1 H z0 zq hG hS => ?_)
  replace hw := hw q1 z0 zq _ rfl
  generalize mkC h q1 22 50 = h2 at hw hG
  have hkc := And.intro hc1 hc2
  obtain ⟨k3, hw⟩ := hw
  refine pf_S_9 C0 hG hS k3 hin dd_S_init_9 (fun H locs hG hS => ?_)
  replace hw := hw _ rfl
  generalize sR h2 a0 0 (some q1) = h4 at hw hG
  refine lv_aload_n hx hb dd_S_init_12 rfl (lv_at hl 0 rfl) ?_
  obtain ⟨hc1, hc2, hw⟩ := hw
  refine px_new C0 hG hS (ci := 5) (T := FX5) (N := 3) (C := RX5) (by decide) rfl iX5 rfl tX5_ok (by decide) km_35 km_16 km_17 hc1 hc2 dd_S_init_13 (fun q5 H z0 zq hG hS => ?_)
  replace hw := hw q5 z0 zq _ rfl
  generalize mkC h4 q5 6 0 = h6 at hw hG
  have hkc := And.intro hc1 hc2
  refine lv_dup hx hb dd_S_init_16 rfl ?_
  refine ca_v hS (rn_I C0 hG hS (c_A_init l g _ h6 q5 hw) (host := "") (nest := false) (n := 0) (As := []) (rest := [.ref q5, .ref a0]) km_20 km_53 km_21 km_17 rfl ⟨by decide, by decide, by decide +kernel⟩ ⟨Nat.le_of_ble_eq_true rfl, Nat.le_of_ble_eq_true rfl⟩ rfl hl.1 rfl (Nat.le_of_ble_eq_true rfl) dd_S_init_17 hkc) (fun h8 H locs hw hG hS => ?_)
  obtain ⟨k9, hw⟩ := hw
  refine pf_S_16 C0 hG hS k9 hin dd_S_init_20 (fun H locs hG hS => ?_)
  replace hw := hw _ rfl
  generalize sR h8 a0 1 (some q5) = h10 at hw hG
  refine lv_aload_n hx hb dd_S_init_23 rfl (lv_at hl 0 rfl) ?_
  obtain ⟨hc1, hc2, hw⟩ := hw
  refine px_new C0 hG hS (ci := 1) (T := FX1) (N := 1) (C := RX1) (by decide) rfl iX1 rfl tX1_ok (by decide) km_37 km_38 km_39 hc1 hc2 dd_S_init_24 (fun q11 H z0 zq hG hS => ?_)
  replace hw := hw q11 z0 zq _ rfl
  generalize mkC h10 q11 2 0 = h12 at hw hG
  have hkc := And.intro hc1 hc2
  refine lv_dup hx hb dd_S_init_27 rfl ?_
  obtain ⟨mc15, ms16, hc1, hc2, hw⟩ := hw
  refine ca_v hS (rn_I C0 hG hS (c_W_init l g _ mc15 ms16 h12 q11 hw) (host := "SegmentLocks") (nest := true) (n := 0) (As := []) (rest := [.ref q11, .ref a0]) km_51 km_50 km_52 km_39 rfl ⟨by decide, by decide, by decide +kernel⟩ ⟨Nat.le_of_ble_eq_true rfl, Nat.le_of_ble_eq_true rfl⟩ rfl hl.1 rfl (Nat.le_of_ble_eq_true rfl) dd_S_init_28 ⟨hc1, hc2⟩) (fun h14 H locs hw hG hS => ?_)
  have hkc := And.intro hc1 hc2
  obtain ⟨k17, hw⟩ := hw
  refine pf_S_23 C0 hG hS k17 hin dd_S_init_31 (fun H locs hG hS => ?_)
  replace hw := hw _ rfl
  generalize sR h14 a0 2 (some q11) = h18 at hw hG
  refine lv_aload_n hx hb dd_S_init_34 rfl (lv_at hl 0 rfl) ?_
  obtain ⟨hc1, hc2, hw⟩ := hw
  refine px_new C0 hG hS (ci := 2) (T := FX2) (N := 5) (C := RX2) (by decide) rfl iX2 rfl tX2_ok (by decide) km_41 km_42 km_43 hc1 hc2 dd_S_init_35 (fun q19 H z0 zq hG hS => ?_)
  replace hw := hw q19 z0 zq _ rfl
  generalize mkC h18 q19 3 0 = h20 at hw hG
  have hkc := And.intro hc1 hc2
  refine lv_dup hx hb dd_S_init_38 rfl ?_
  obtain ⟨mc23, ms24, hc1, hc2, hw⟩ := hw
  refine ca_v hS (rn_I C0 hG hS (c_G_init l g _ mc23 ms24 h20 q19 hw) (host := "SegmentLocks") (nest := true) (n := 0) (As := []) (rest := [.ref q19, .ref a0]) km_48 km_47 km_49 km_43 rfl ⟨by decide, by decide, by decide +kernel⟩ ⟨Nat.le_of_ble_eq_true rfl, Nat.le_of_ble_eq_true rfl⟩ rfl hl.1 rfl (Nat.le_of_ble_eq_true rfl) dd_S_init_39 ⟨hc1, hc2⟩) (fun h22 H locs hw hG hS => ?_)
  have hkc := And.intro hc1 hc2
  obtain ⟨k25, hw⟩ := hw
  refine pf_S_30 C0 hG hS k25 hin dd_S_init_42 (fun H locs hG hS => ?_)
  replace hw := hw _ rfl
  generalize sR h22 a0 3 (some q19) = h26 at hw hG
  refine lv_aload_n hx hb dd_S_init_45 rfl (lv_at hl 0 rfl) ?_
  refine lv_iconst (v := 0) hx hb dd_S_init_46 (by decide) ?_
  obtain ⟨k27, hw⟩ := hw
  refine pf_S_34 C0 hG hS k27 dd_S_init_47 (fun H locs hG hS => ?_)
  replace hw := hw _ rfl
  generalize sI h26 a0 4 0 = h28 at hw hG
  refine lv_aload_n hx hb dd_S_init_50 rfl (lv_at hl 0 rfl) ?_
  refine lv_iconst (v := 1) hx hb dd_S_init_51 (by decide) ?_
  obtain ⟨k29, hz, hw⟩ := hw
  refine pf_S_38 C0 hG hS k29 hz dd_S_init_52 (fun H locs hG hS => ?_)
  replace hw := hw _ rfl
  generalize sI h28 a0 5 1 = h30 at hw hG
  exact re_v C0 hG hS hr hlk hkc hw dd_S_init_55
/-! SegmentLocks.task(I)I -/
theorem dd_S_task_0 : decode prog_1_method_2_code 0 = .ok (.aload_n 0, 1) := by decide +kernel
theorem dd_S_task_1 : decode prog_1_method_2_code 1 = .ok (.getfield 16, 3) := by decide +kernel
theorem dd_S_task_4 : decode prog_1_method_2_code 4 = .ok (.invokevirtual 42, 3) := by decide +kernel
theorem dd_S_task_7 : decode prog_1_method_2_code 7 = .ok (.bipush 30, 2) := by decide +kernel
theorem dd_S_task_9 : decode prog_1_method_2_code 9 = .ok (.if_icmp .lt 5, 3) := by decide +kernel
theorem dd_S_task_12 : decode prog_1_method_2_code 12 = .ok (.iconst (-1), 1) := by decide +kernel
theorem dd_S_task_13 : decode prog_1_method_2_code 13 = .ok (.ireturn, 1) := by decide +kernel
theorem dd_S_task_14 : decode prog_1_method_2_code 14 = .ok (.aload_n 0, 1) := by decide +kernel
theorem dd_S_task_15 : decode prog_1_method_2_code 15 = .ok (.getfield 16, 3) := by decide +kernel
theorem dd_S_task_18 : decode prog_1_method_2_code 18 = .ok (.invokevirtual 42, 3) := by decide +kernel
theorem dd_S_task_21 : decode prog_1_method_2_code 21 = .ok (.iconst 1, 1) := by decide +kernel
theorem dd_S_task_22 : decode prog_1_method_2_code 22 = .ok (.iadd, 1) := by decide +kernel
theorem dd_S_task_23 : decode prog_1_method_2_code 23 = .ok (.istore_n 2, 1) := by decide +kernel
theorem dd_S_task_24 : decode prog_1_method_2_code 24 = .ok (.aload_n 0, 1) := by decide +kernel
theorem dd_S_task_25 : decode prog_1_method_2_code 25 = .ok (.getfield 16, 3) := by decide +kernel
theorem dd_S_task_28 : decode prog_1_method_2_code 28 = .ok (.new 46, 3) := by decide +kernel
theorem dd_S_task_31 : decode prog_1_method_2_code 31 = .ok (.dup, 1) := by decide +kernel
theorem dd_S_task_32 : decode prog_1_method_2_code 32 = .ok (.iload_n 2, 1) := by decide +kernel
theorem dd_S_task_33 : decode prog_1_method_2_code 33 = .ok (.iload_n 1, 1) := by decide +kernel
theorem dd_S_task_34 : decode prog_1_method_2_code 34 = .ok (.invokespecial 48, 3) := by decide +kernel
theorem dd_S_task_37 : decode prog_1_method_2_code 37 = .ok (.invokevirtual 51, 3) := by decide +kernel
theorem dd_S_task_40 : decode prog_1_method_2_code 40 = .ok (.pop, 1) := by decide +kernel
theorem dd_S_task_41 : decode prog_1_method_2_code 41 = .ok (.iload_n 2, 1) := by decide +kernel
theorem dd_S_task_42 : decode prog_1_method_2_code 42 = .ok (.ireturn, 1) := by decide +kernel
def wp_S_task (g : Gm) (post : Int32 → Hp → Prop) (mc ms : Nat) (h : Hp) (a0 : Nat) (i1 : Int32) : Prop := hK h a0 = 1 ∧ ∃ a2 : Nat, hR h a0 1 = some a2 ∧ hK h a2 = 6 ∧ wp_A_size g (fun x5 => ((x5 < 30 → hK h a0 = 1 ∧ ∃ a8 : Nat, hR h a0 1 = some a8 ∧ hK h a8 = 6 ∧ wp_A_size g (fun x11 => ∀ x12 : Int32, x12 = x11 + 1 → hK h a0 = 1 ∧ ∃ a14 : Nat, hR h a0 1 = some a14 ∧ 0 + 1 ≤ mc ∧ 0 + 15 ≤ ms ∧ ∀ q15 : Nat, hK h q15 = 0 → g.2.2 0 ≤ q15 → ∀ h16 : Hp, h16 = mkC h q15 4 0 → ∃ mc19 ms20 : Nat, (0 + 1) + mc19 ≤ mc ∧ (0 + 15) + ms20 ≤ ms ∧ wp_T_init g (fun h18 => hK h18 a14 = 6 ∧ ∃ mc24 ms25 : Nat, ((0 + 1) + mc19) + mc24 ≤ mc ∧ ((0 + 15) + ms20) + ms25 ≤ ms ∧ wp_A_add2 g (fun x23 h22 => post x12 h22) mc24 ms25 h18 a14 q15) mc19 ms20 h16 q15 x12 i1) h a8) ∧ (¬ x5 < 30 → post (-1) h))) h a2
set_option maxHeartbeats 4000000 in
set_option maxRecDepth 100000 in
theorem c_S_task (l : Launch) (g : Gm) (post : Int32 → Hp → Prop) (mc ms : Nat) (h : Hp) (a0 : Nat) (i1 : Int32) (hw : wp_S_task g post mc ms h a0 i1) : Met l (⟨"SegmentLocks", "task", "(I)I"⟩ : MethodName) (ww (⟨"SegmentLocks", "task", "(I)I"⟩ : MethodName) prog_1_method_2_code 3 (some .int)) (rmm 7 191 mc ms) (va_Pc [.ref a0, .int i1] (gS g h)) (va_Qi post (gS g) (gA g)) mc ms (gA g) := by
  first | refine en_met (by decide) ?_ | refine en_metF (by decide) ?_
  intro p e s m below meth c C0 hr hlk hin hG
  have hS : va_S (gA g) s.heap s.heap [] := va_S.rf
  have hl := lv_entry ([.ref a0, .int i1]) (n := 3) (Nat.le_of_ble_eq_true rfl)
  rw [lg_entry_eq]
  generalize (lg_sl ([.ref a0, .int i1]) ++ List.replicate (3 - (lg_sl ([.ref a0, .int i1])).length) Slot.unset).toArray = ls at hl ⊢
  replace hl : lv_has ls 3 [(0, .ref a0), (1, .int i1)] := hl
  obtain ⟨hx, hb, -, hown, hts, hgk⟩ := id C0
  have hkc : 0 ≤ mc ∧ 0 ≤ ms := ⟨Nat.zero_le _, Nat.zero_le _⟩
  unfold wp_S_task at hw
  refine lv_aload_n hx hb dd_S_task_0 rfl (lv_at hl 0 rfl) ?_
  obtain ⟨k1, a2, ea2, hw⟩ := hw
  refine gf_S_16 C0 hG k1 ea2 dd_S_task_1 ?_
  obtain ⟨k3, hw⟩ := hw
  have hw0 := hw
  clear hw
  refine cs_i (rn_V C0 hG hS (c_A_size l g _ h a2 hw0) (ci := 5) k3 (by decide) rfl rfl (host := "") (nest := false) (n := 0) (As := []) (rest := []) km_132 km_131 km_133 km_134 km_17 ⟨by decide, by decide, by decide +kernel⟩ ⟨Nat.le_of_ble_eq_true rfl, Nat.le_of_ble_eq_true rfl⟩ rfl hl.1 rfl (Nat.le_of_ble_eq_true rfl) dd_S_task_4 hkc) (fun x5 hw => ?_)
  refine lv_bipush (v := 30) hx hb dd_S_task_7 (by decide) ?_
  refine lv_icmp_lt (tgt := 14) hx hb dd_S_task_9 (by decide) (fun c6 => ?_) (fun c6 => ?_)
  · replace hw := hw.1 c6
    refine lv_aload_n hx hb dd_S_task_14 rfl (lv_at hl 0 rfl) ?_
    obtain ⟨k7, a8, ea8, hw⟩ := hw
    refine gf_S_16 C0 hG k7 ea8 dd_S_task_15 ?_
    obtain ⟨k9, hw⟩ := hw
    have hw0 := hw
    clear hw
    refine cs_i (rn_V C0 hG hS (c_A_size l g _ h a8 hw0) (ci := 5) k9 (by decide) rfl rfl (host := "") (nest := false) (n := 0) (As := []) (rest := []) km_132 km_131 km_133 km_134 km_17 ⟨by decide, by decide, by decide +kernel⟩ ⟨Nat.le_of_ble_eq_true rfl, Nat.le_of_ble_eq_true rfl⟩ rfl hl.1 rfl (Nat.le_of_ble_eq_true rfl) dd_S_task_18 hkc) (fun x11 hw => ?_)
    refine lv_iconst (v := 1) hx hb dd_S_task_21 (by decide) ?_
    refine lv_iadd hx hb dd_S_task_22 ?_
    refine lv_topi (fun x12 ex12 => ?_)
    replace hw := hw x12 ex12
    have hl0 := hl
    clear hl
    refine lv_istore_n (lv' := [(2, .int x12), (0, .ref a0), (1, .int i1)]) hx hb dd_S_task_23 rfl hl0 (by decide) rfl (fun ls hl => ?_)
    refine lv_aload_n hx hb dd_S_task_24 rfl (lv_at hl 1 rfl) ?_
    obtain ⟨k13, a14, ea14, hw⟩ := hw
    refine gf_S_16 C0 hG k13 ea14 dd_S_task_25 ?_
    obtain ⟨hc1, hc2, hw⟩ := hw
    refine px_new C0 hG hS (ci := 3) (T := FX3) (N := 15) (C := RX3) (by decide) rfl iX3 rfl tX3_ok (by decide) km_121 km_122 km_123 hc1 hc2 dd_S_task_28 (fun q15 H z0 zq hG hS => ?_)
    replace hw := hw q15 z0 zq _ rfl
    generalize mkC h q15 4 0 = h16 at hw hG
    have hkc := And.intro hc1 hc2
    refine lv_dup hx hb dd_S_task_31 rfl ?_
    refine lv_iload_n hx hb dd_S_task_32 rfl (lv_at hl 0 rfl) ?_
    refine lv_iload_n hx hb dd_S_task_33 rfl (lv_at hl 2 rfl) ?_
    obtain ⟨mc19, ms20, hc1, hc2, hw⟩ := hw
    refine ca_v hS (rn_I C0 hG hS (c_T_init l g _ mc19 ms20 h16 q15 x12 i1 hw) (host := "SegmentLocks") (nest := true) (n := 2) (As := [.int x12, .int i1]) (rest := [.ref q15, .ref a14]) km_129 km_128 km_130 km_123 rfl ⟨by decide, by decide, by decide +kernel⟩ ⟨Nat.le_of_ble_eq_true rfl, Nat.le_of_ble_eq_true rfl⟩ rfl hl.1 rfl (Nat.le_of_ble_eq_true rfl) dd_S_task_34 ⟨hc1, hc2⟩) (fun h18 H locs hw hG hS => ?_)
    have hkc := And.intro hc1 hc2
    obtain ⟨k21, hw⟩ := hw
    obtain ⟨mc24, ms25, hc1, hc2, hw⟩ := hw
    refine ca_i hS (rn_V C0 hG hS (c_A_add2 l g _ mc24 ms25 h18 a14 q15 hw) (ci := 5) k21 (by decide) rfl rfl (host := "") (nest := false) (n := 1) (As := [.ref q15]) (rest := []) km_125 km_124 km_126 km_127 km_17 ⟨by decide, by decide, by decide +kernel⟩ ⟨Nat.le_of_ble_eq_true rfl, Nat.le_of_ble_eq_true rfl⟩ rfl hl.1 rfl (Nat.le_of_ble_eq_true rfl) dd_S_task_37 ⟨hc1, hc2⟩) (fun x23 h22 H locs hw hG hS => ?_)
    have hkc := And.intro hc1 hc2
    refine lv_pop hx hb dd_S_task_40 rfl ?_
    refine lv_iload_n hx hb dd_S_task_41 rfl (lv_at hl 0 rfl) ?_
    exact re_i C0 hG hS hr hlk hkc hw dd_S_task_42
  · replace hw := hw.2 c6
    refine lv_iconst (v := (-1)) hx hb dd_S_task_12 (by decide) ?_
    exact re_i C0 hG hS hr hlk hkc hw dd_S_task_13
/-! SegmentLocks.find(I)LSegmentLocks$Task; -/
theorem dd_S_find_0 : decode prog_1_method_16_code 0 = .ok (.iload_n 1, 1) := by decide +kernel
theorem dd_S_find_1 : decode prog_1_method_16_code 1 = .ok (.iconst 1, 1) := by decide +kernel
theorem dd_S_find_2 : decode prog_1_method_16_code 2 = .ok (.if_icmp .lt 30, 3) := by decide +kernel
theorem dd_S_find_5 : decode prog_1_method_16_code 5 = .ok (.iload_n 1, 1) := by decide +kernel
theorem dd_S_find_6 : decode prog_1_method_16_code 6 = .ok (.aload_n 0, 1) := by decide +kernel
theorem dd_S_find_7 : decode prog_1_method_16_code 7 = .ok (.getfield 16, 3) := by decide +kernel
theorem dd_S_find_10 : decode prog_1_method_16_code 10 = .ok (.invokevirtual 42, 3) := by decide +kernel
theorem dd_S_find_13 : decode prog_1_method_16_code 13 = .ok (.if_icmp .gt 19, 3) := by decide +kernel
theorem dd_S_find_16 : decode prog_1_method_16_code 16 = .ok (.aload_n 0, 1) := by decide +kernel
theorem dd_S_find_17 : decode prog_1_method_16_code 17 = .ok (.getfield 16, 3) := by decide +kernel
theorem dd_S_find_20 : decode prog_1_method_16_code 20 = .ok (.iload_n 1, 1) := by decide +kernel
theorem dd_S_find_21 : decode prog_1_method_16_code 21 = .ok (.iconst 1, 1) := by decide +kernel
theorem dd_S_find_22 : decode prog_1_method_16_code 22 = .ok (.isub, 1) := by decide +kernel
theorem dd_S_find_23 : decode prog_1_method_16_code 23 = .ok (.invokevirtual 128, 3) := by decide +kernel
theorem dd_S_find_26 : decode prog_1_method_16_code 26 = .ok (.checkcast 46, 3) := by decide +kernel
theorem dd_S_find_29 : decode prog_1_method_16_code 29 = .ok (.goto 4, 3) := by decide +kernel
theorem dd_S_find_32 : decode prog_1_method_16_code 32 = .ok (.aconst_null, 1) := by decide +kernel
theorem dd_S_find_33 : decode prog_1_method_16_code 33 = .ok (.areturn, 1) := by decide +kernel
def wp_S_find_33 (g : Gm) (post : Option Nat → Prop) (h : Hp) (s0 : Option Nat) : Prop := post s0
set_option maxHeartbeats 4000000 in
set_option maxRecDepth 100000 in
theorem wk_S_find_33 {p : Program} {l : Launch} {e : Env} {s : State} {m : MethodId} {args : Array Value} {below : List Frame} {meth : Method} {c : Code} {g : Gm} {post : Option Nat → Prop} (C0 : Cx g p s m args c prog_1_method_16_code 2 "SegmentLocks") (hr : meth.sig.returnType = (some (.object "SegmentLocks$Task"))) (hlk : meth.locks = false) : ∀ (h : Hp) (s0 : Option Nat) (ls : Array Slot), wp_S_find_33 g post h s0 → GH g h s.heap → lv_has ls 2 [] → W p l e (rmm 3 64 0 0) s m args below meth c s.heap [] 0 0 (MQ below (va_Sq post) args s 0 0 (fun _ => False)) (F0 m 33 ls [va_rf s0]) := by
  obtain ⟨hx, hb, -, hown, hts, hgk⟩ := id C0
  have hS : va_S (gA g) s.heap s.heap [] := va_S.rf
  intro h s0 ls hw hG hl
  unfold wp_S_find_33 at hw
  exact rs_q (v := s0) C0 hr (by first | exact Or.inl ⟨_, rfl⟩ | exact Or.inr ⟨_, rfl⟩) hlk hw dd_S_find_33
def wp_S_find_32 (g : Gm) (post : Option Nat → Prop) (h : Hp) : Prop := wp_S_find_33 g post h none
set_option maxHeartbeats 4000000 in
set_option maxRecDepth 100000 in
theorem wk_S_find_32 {p : Program} {l : Launch} {e : Env} {s : State} {m : MethodId} {args : Array Value} {below : List Frame} {meth : Method} {c : Code} {g : Gm} {post : Option Nat → Prop} (C0 : Cx g p s m args c prog_1_method_16_code 2 "SegmentLocks") (hr : meth.sig.returnType = (some (.object "SegmentLocks$Task"))) (hlk : meth.locks = false) : ∀ (h : Hp) (ls : Array Slot), wp_S_find_32 g post h → GH g h s.heap → lv_has ls 2 [] → W p l e (rmm 3 64 0 0) s m args below meth c s.heap [] 0 0 (MQ below (va_Sq post) args s 0 0 (fun _ => False)) (F0 m 32 ls []) := by
  obtain ⟨hx, hb, -, hown, hts, hgk⟩ := id C0
  have hS : va_S (gA g) s.heap s.heap [] := va_S.rf
  intro h ls hw hG hl
  unfold wp_S_find_32 at hw
  refine lv_null hx hb dd_S_find_32 ?_
  exact wk_S_find_33 C0 hr hlk _ _ _ hw hG (lv_sub hl [] rfl)
def wp_S_find (g : Gm) (post : Option Nat → Prop) (h : Hp) (a0 : Nat) (i1 : Int32) : Prop := ((i1 < 1 → wp_S_find_32 g post h) ∧ (¬ i1 < 1 → hK h a0 = 1 ∧ ∃ a3 : Nat, hR h a0 1 = some a3 ∧ hK h a3 = 6 ∧ wp_A_size g (fun x6 => ((x6 < i1 → wp_S_find_32 g post h) ∧ (¬ x6 < i1 → hK h a0 = 1 ∧ ∃ a9 : Nat, hR h a0 1 = some a9 ∧ ∀ x10 : Int32, x10 = i1 - 1 → hK h a9 = 6 ∧ wp_A_get g (fun r13 => ∃ a14 : Nat, r13 = some a14 ∧ hK h a14 = 4 ∧ wp_S_find_33 g post h (some a14)) h a9 x10))) h a3))
set_option maxHeartbeats 4000000 in
set_option maxRecDepth 100000 in
theorem c_S_find (l : Launch) (g : Gm) (post : Option Nat → Prop) (h : Hp) (a0 : Nat) (i1 : Int32) (hw : wp_S_find g post h a0 i1) : Met l (⟨"SegmentLocks", "find", "(I)LSegmentLocks$Task;"⟩ : MethodName) (ww (⟨"SegmentLocks", "find", "(I)LSegmentLocks$Task;"⟩ : MethodName) prog_1_method_16_code 2 (some (.object "SegmentLocks$Task"))) (rmm 3 64 0 0) (va_Pc [.ref a0, .int i1] (gS g h)) (va_Sq post) 0 0 (fun _ => False) := by
  first | refine en_met (by decide) ?_ | refine en_metF (by decide) ?_
  intro p e s m below meth c C0 hr hlk hin hG
  have hS : va_S (gA g) s.heap s.heap [] := va_S.rf
  have hl := lv_entry ([.ref a0, .int i1]) (n := 2) (Nat.le_of_ble_eq_true rfl)
  rw [lg_entry_eq]
  generalize (lg_sl ([.ref a0, .int i1]) ++ List.replicate (2 - (lg_sl ([.ref a0, .int i1])).length) Slot.unset).toArray = ls at hl ⊢
  replace hl : lv_has ls 2 [(0, .ref a0), (1, .int i1)] := hl
  obtain ⟨hx, hb, -, hown, hts, hgk⟩ := id C0
  unfold wp_S_find at hw
  refine lv_iload_n hx hb dd_S_find_0 rfl (lv_at hl 1 rfl) ?_
  refine lv_iconst (v := 1) hx hb dd_S_find_1 (by decide) ?_
  refine lv_icmp_lt (tgt := 32) hx hb dd_S_find_2 (by decide) (fun c1 => ?_) (fun c1 => ?_)
  · replace hw := hw.1 c1
    exact wk_S_find_32 C0 hr hlk _ _ hw hG (lv_sub hl [] rfl)
  · replace hw := hw.2 c1
    refine lv_iload_n hx hb dd_S_find_5 rfl (lv_at hl 1 rfl) ?_
    refine lv_aload_n hx hb dd_S_find_6 rfl (lv_at hl 0 rfl) ?_
    obtain ⟨k2, a3, ea3, hw⟩ := hw
    refine gf_S_16 C0 hG k2 ea3 dd_S_find_7 ?_
    obtain ⟨k4, hw⟩ := hw
    have hw0 := hw
    clear hw
    refine cs_i (rn_V C0 hG hS (c_A_size l g _ h a3 hw0) (ci := 5) k4 (by decide) rfl rfl (host := "") (nest := false) (n := 0) (As := []) (rest := [.int i1]) km_132 km_131 km_133 km_134 km_17 ⟨by decide, by decide, by decide +kernel⟩ ⟨Nat.le_of_ble_eq_true rfl, Nat.le_of_ble_eq_true rfl⟩ rfl hl.1 rfl (Nat.le_of_ble_eq_true rfl) dd_S_find_10 ⟨Nat.le_refl _, Nat.le_refl _⟩) (fun x6 hw => ?_)
    refine lv_icmp_gt (tgt := 32) hx hb dd_S_find_13 (by decide) (fun c7 => ?_) (fun c7 => ?_)
    · replace hw := hw.1 c7
      exact wk_S_find_32 C0 hr hlk _ _ hw hG (lv_sub hl [] rfl)
    · replace hw := hw.2 c7
      refine lv_aload_n hx hb dd_S_find_16 rfl (lv_at hl 0 rfl) ?_
      obtain ⟨k8, a9, ea9, hw⟩ := hw
      refine gf_S_16 C0 hG k8 ea9 dd_S_find_17 ?_
      refine lv_iload_n hx hb dd_S_find_20 rfl (lv_at hl 1 rfl) ?_
      refine lv_iconst (v := 1) hx hb dd_S_find_21 (by decide) ?_
      refine lv_isub hx hb dd_S_find_22 ?_
      refine lv_topi (fun x10 ex10 => ?_)
      replace hw := hw x10 ex10
      obtain ⟨k11, hw⟩ := hw
      have hw0 := hw
      clear hw
      refine cs_q (rn_V C0 hG hS (c_A_get l g _ h a9 x10 hw0) (ci := 5) k11 (by decide) rfl rfl (host := "") (nest := false) (n := 1) (As := [.int x10]) (rest := []) km_149 km_148 km_150 km_151 km_17 ⟨by decide, by decide, by decide +kernel⟩ ⟨Nat.le_of_ble_eq_true rfl, Nat.le_of_ble_eq_true rfl⟩ rfl hl.1 rfl (Nat.le_of_ble_eq_true rfl) dd_S_find_23 ⟨Nat.le_refl _, Nat.le_refl _⟩) (fun r13 hw => ?_)
      obtain ⟨a14, rfl, hw⟩ := hw
      replace hl : lv_has ls 2 [(0, .ref a0), (1, .int i1)] := hl
      obtain ⟨k15, hw⟩ := hw
      refine va_castY (C := RX3) hx hb hown (hts _ km_121) (hgk.2.1 _ km_147) (px_recv C0 hG (ci := 3) k15 (by decide) rfl) dd_S_find_26 ?_
      refine lv_goto (tgt := 33) hx hb dd_S_find_29 (by decide) ?_
      exact wk_S_find_33 C0 hr hlk _ _ _ hw hG (lv_sub hl [] rfl)
/-! SegmentLocks.canHave(LSegmentLocks$Task;II)Z -/
theorem dd_S_canHave_0 : decode prog_1_method_20_code 0 = .ok (.iconst 0, 1) := by decide +kernel
theorem dd_S_canHave_1 : decode prog_1_method_20_code 1 = .ok (.istore 4, 2) := by decide +kernel
theorem dd_S_canHave_3 : decode prog_1_method_20_code 3 = .ok (.iload 4, 2) := by decide +kernel
theorem dd_S_canHave_5 : decode prog_1_method_20_code 5 = .ok (.aload_n 0, 1) := by decide +kernel
theorem dd_S_canHave_6 : decode prog_1_method_20_code 6 = .ok (.getfield 16, 3) := by decide +kernel
theorem dd_S_canHave_9 : decode prog_1_method_20_code 9 = .ok (.invokevirtual 42, 3) := by decide +kernel
theorem dd_S_canHave_12 : decode prog_1_method_20_code 12 = .ok (.if_icmp .ge 45, 3) := by decide +kernel
theorem dd_S_canHave_15 : decode prog_1_method_20_code 15 = .ok (.aload_n 0, 1) := by decide +kernel
theorem dd_S_canHave_16 : decode prog_1_method_20_code 16 = .ok (.getfield 16, 3) := by decide +kernel
theorem dd_S_canHave_19 : decode prog_1_method_20_code 19 = .ok (.iload 4, 2) := by decide +kernel
theorem dd_S_canHave_21 : decode prog_1_method_20_code 21 = .ok (.invokevirtual 128, 3) := by decide +kernel
theorem dd_S_canHave_24 : decode prog_1_method_20_code 24 = .ok (.checkcast 46, 3) := by decide +kernel
theorem dd_S_canHave_27 : decode prog_1_method_20_code 27 = .ok (.astore 5, 2) := by decide +kernel
theorem dd_S_canHave_29 : decode prog_1_method_20_code 29 = .ok (.aload 5, 2) := by decide +kernel
theorem dd_S_canHave_31 : decode prog_1_method_20_code 31 = .ok (.aload_n 1, 1) := by decide +kernel
theorem dd_S_canHave_32 : decode prog_1_method_20_code 32 = .ok (.if_acmp .eq 19, 3) := by decide +kernel
theorem dd_S_canHave_35 : decode prog_1_method_20_code 35 = .ok (.aload 5, 2) := by decide +kernel
theorem dd_S_canHave_37 : decode prog_1_method_20_code 37 = .ok (.getfield 74, 3) := by decide +kernel
theorem dd_S_canHave_40 : decode prog_1_method_20_code 40 = .ok (.iload_n 2, 1) := by decide +kernel
theorem dd_S_canHave_41 : decode prog_1_method_20_code 41 = .ok (.iaload, 1) := by decide +kernel
theorem dd_S_canHave_42 : decode prog_1_method_20_code 42 = .ok (.iload_n 3, 1) := by decide +kernel
theorem dd_S_canHave_43 : decode prog_1_method_20_code 43 = .ok (.invokestatic 166, 3) := by decide +kernel
theorem dd_S_canHave_46 : decode prog_1_method_20_code 46 = .ok (.ifCond .ne 5, 3) := by decide +kernel
theorem dd_S_canHave_49 : decode prog_1_method_20_code 49 = .ok (.iconst 0, 1) := by decide +kernel
theorem dd_S_canHave_50 : decode prog_1_method_20_code 50 = .ok (.ireturn, 1) := by decide +kernel
theorem dd_S_canHave_51 : decode prog_1_method_20_code 51 = .ok (.iinc 4 1, 3) := by decide +kernel
theorem dd_S_canHave_54 : decode prog_1_method_20_code 54 = .ok (.goto (-51), 3) := by decide +kernel
theorem dd_S_canHave_57 : decode prog_1_method_20_code 57 = .ok (.iconst 1, 1) := by decide +kernel
theorem dd_S_canHave_58 : decode prog_1_method_20_code 58 = .ok (.ireturn, 1) := by decide +kernel
def wp_S_canHave_51 (g : Gm) (post : Int32 → Prop) (K3 : Hp → Nat → Nat → Int32 → Int32 → Int32 → Prop) (h : Hp) (v0 : Nat) (v1 : Nat) (v2 : Int32) (v3 : Int32) (v4 : Int32) : Prop := ∀ x1 : Int32, x1 = v4 + 1 → K3 h v0 v1 v2 v3 x1
set_option maxHeartbeats 4000000 in
set_option maxRecDepth 100000 in
theorem wk_S_canHave_51 {p : Program} {l : Launch} {e : Env} {s : State} {m : MethodId} {args : Array Value} {below : List Frame} {meth : Method} {c : Code} {g : Gm} {post : Int32 → Prop} (C0 : Cx g p s m args c prog_1_method_20_code 6 "SegmentLocks") (hr : meth.sig.returnType = (some .boolean)) (hlk : meth.locks = false) {K3 : Hp → Nat → Nat → Int32 → Int32 → Int32 → Prop} (hK3 : ∀ (h : Hp) (v0 : Nat) (v1 : Nat) (v2 : Int32) (v3 : Int32) (v4 : Int32) (ls : Array Slot), K3 h v0 v1 v2 v3 v4 → GH g h s.heap → lv_has ls 6 [(0, .ref v0), (1, .ref v1), (2, .int v2), (3, .int v3), (4, .int v4)] → W p l e (rmm 3 64 0 0) s m args below meth c s.heap [] 0 0 (MQ below (vp_Si post) args s 0 0 (fun _ => False)) (F0 m 3 ls [])) : ∀ (h : Hp) (v0 : Nat) (v1 : Nat) (v2 : Int32) (v3 : Int32) (v4 : Int32) (ls : Array Slot), wp_S_canHave_51 g post K3 h v0 v1 v2 v3 v4 → GH g h s.heap → lv_has ls 6 [(0, .ref v0), (1, .ref v1), (2, .int v2), (3, .int v3), (4, .int v4)] → W p l e (rmm 3 64 0 0) s m args below meth c s.heap [] 0 0 (MQ below (vp_Si post) args s 0 0 (fun _ => False)) (F0 m 51 ls []) := by
  obtain ⟨hx, hb, -, hown, hts, hgk⟩ := id C0
  have hS : va_S (gA g) s.heap s.heap [] := va_S.rf
  intro h v0 v1 v2 v3 v4 ls hw hG hl
  unfold wp_S_canHave_51 at hw
  obtain ⟨x1, ex1⟩ : ∃ y : Int32, y = v4 + 1 := ⟨_, rfl⟩
  replace hw := hw x1 ex1
  have hl0 := hl
  clear hl
  refine lv_iinc (v := x1) (lv' := [(4, .int x1), (0, .ref v0), (1, .ref v1), (2, .int v2), (3, .int v3)]) hx hb dd_S_canHave_51 hl0 (k := 4) rfl (by rw [ex1]; rfl) (by decide) rfl (fun ls hl => ?_)
  refine lv_goto (tgt := 3) hx hb dd_S_canHave_54 (by decide) ?_
  exact hK3 _ _ _ _ _ _ _ hw hG (lv_sub hl [1, 2, 3, 4, 0] rfl)
def wp_S_canHave_3 (g : Gm) (post : Int32 → Prop) : Nat → Hp → Nat → Nat → Int32 → Int32 → Int32 → Prop
  | 0, _, _, _, _, _, _ => False
  | fu + 1, h, v0, v1, v2, v3, v4 => hK h v0 = 1 ∧ ∃ a2 : Nat, hR h v0 1 = some a2 ∧ hK h a2 = 6 ∧ wp_A_size g (fun x5 => ((x5 ≤ v4 → zB 1 ∧ post 1) ∧ (¬ x5 ≤ v4 → hK h v0 = 1 ∧ ∃ a8 : Nat, hR h v0 1 = some a8 ∧ hK h a8 = 6 ∧ wp_A_get g (fun r11 => ∃ a12 : Nat, r11 = some a12 ∧ hK h a12 = 4 ∧ (((some a12) = (some v1) → wp_S_canHave_51 g post (fun h v0 v1 v2 v3 v4 => wp_S_canHave_3 g post fu h v0 v1 v2 v3 v4) h v0 v1 v2 v3 v4) ∧ (¬ (some a12) = (some v1) → hK h a12 = 4 ∧ ∃ a16 : Nat, hR h a12 2 = some a16 ∧ hK h a16 = 21 ∧ vp_in v2 (hN h a16) ∧ wp_S_areTogether g (fun x20 => ((¬ x20 = 0 → wp_S_canHave_51 g post (fun h v0 v1 v2 v3 v4 => wp_S_canHave_3 g post fu h v0 v1 v2 v3 v4) h v0 v1 v2 v3 v4) ∧ (x20 = 0 → zB 0 ∧ post 0))) h (hI h a16 v2.toNatClampNeg) v3))) h a8 v4))) h a2
set_option maxHeartbeats 4000000 in
set_option maxRecDepth 100000 in
theorem wk_S_canHave_3 {p : Program} {l : Launch} {e : Env} {s : State} {m : MethodId} {args : Array Value} {below : List Frame} {meth : Method} {c : Code} {g : Gm} {post : Int32 → Prop} (C0 : Cx g p s m args c prog_1_method_20_code 6 "SegmentLocks") (hr : meth.sig.returnType = (some .boolean)) (hlk : meth.locks = false) : ∀ n : Nat, ∀ (h : Hp) (v0 : Nat) (v1 : Nat) (v2 : Int32) (v3 : Int32) (v4 : Int32) (ls : Array Slot), wp_S_canHave_3 g post n h v0 v1 v2 v3 v4 → GH g h s.heap → lv_has ls 6 [(0, .ref v0), (1, .ref v1), (2, .int v2), (3, .int v3), (4, .int v4)] → W p l e (rmm 3 64 0 0) s m args below meth c s.heap [] 0 0 (MQ below (vp_Si post) args s 0 0 (fun _ => False)) (F0 m 3 ls []) := by
  obtain ⟨hx, hb, -, hown, hts, hgk⟩ := id C0
  have hS : va_S (gA g) s.heap s.heap [] := va_S.rf
  intro n
  induction n with
  | zero =>
    intro h v0 v1 v2 v3 v4 ls hw hG hl
    exact hw.elim
  | succ n ih =>
    intro h v0 v1 v2 v3 v4 ls hw hG hl
    unfold wp_S_canHave_3 at hw
    refine lv_iload hx hb dd_S_canHave_3 (lv_at hl 4 rfl) ?_
    refine lv_aload_n hx hb dd_S_canHave_5 rfl (lv_at hl 0 rfl) ?_
    obtain ⟨k1, a2, ea2, hw⟩ := hw
    refine gf_S_16 C0 hG k1 ea2 dd_S_canHave_6 ?_
    obtain ⟨k3, hw⟩ := hw
    have hw0 := hw
    clear hw
    refine cs_i (rn_V C0 hG hS (c_A_size l g _ h a2 hw0) (ci := 5) k3 (by decide) rfl rfl (host := "") (nest := false) (n := 0) (As := []) (rest := [.int v4]) km_132 km_131 km_133 km_134 km_17 ⟨by decide, by decide, by decide +kernel⟩ ⟨Nat.le_of_ble_eq_true rfl, Nat.le_of_ble_eq_true rfl⟩ rfl hl.1 rfl (Nat.le_of_ble_eq_true rfl) dd_S_canHave_9 ⟨Nat.le_refl _, Nat.le_refl _⟩) (fun x5 hw => ?_)
    refine lv_icmp_ge (tgt := 57) hx hb dd_S_canHave_12 (by decide) (fun c6 => ?_) (fun c6 => ?_)
    · replace hw := hw.1 c6
      refine lv_iconst (v := 1) hx hb dd_S_canHave_57 (by decide) ?_
      exact rs_z C0 hr hlk hw.1.nar hw.2 dd_S_canHave_58
    · replace hw := hw.2 c6
      refine lv_aload_n hx hb dd_S_canHave_15 rfl (lv_at hl 0 rfl) ?_
      obtain ⟨k7, a8, ea8, hw⟩ := hw
      refine gf_S_16 C0 hG k7 ea8 dd_S_canHave_16 ?_
      refine lv_iload hx hb dd_S_canHave_19 (lv_at hl 4 rfl) ?_
      obtain ⟨k9, hw⟩ := hw
      have hw0 := hw
      clear hw
      refine cs_q (rn_V C0 hG hS (c_A_get l g _ h a8 v4 hw0) (ci := 5) k9 (by decide) rfl rfl (host := "") (nest := false) (n := 1) (As := [.int v4]) (rest := []) km_149 km_148 km_150 km_151 km_17 ⟨by decide, by decide, by decide +kernel⟩ ⟨Nat.le_of_ble_eq_true rfl, Nat.le_of_ble_eq_true rfl⟩ rfl hl.1 rfl (Nat.le_of_ble_eq_true rfl) dd_S_canHave_21 ⟨Nat.le_refl _, Nat.le_refl _⟩) (fun r11 hw => ?_)
      obtain ⟨a12, rfl, hw⟩ := hw
      replace hl : lv_has ls 6 [(0, .ref v0), (1, .ref v1), (2, .int v2), (3, .int v3), (4, .int v4)] := hl
      obtain ⟨k13, hw⟩ := hw
      refine va_castY (C := RX3) hx hb hown (hts _ km_121) (hgk.2.1 _ km_147) (px_recv C0 hG (ci := 3) k13 (by decide) rfl) dd_S_canHave_24 ?_
      have hl0 := hl
      clear hl
      refine lv_astore (lv' := [(5, .ref a12), (0, .ref v0), (1, .ref v1), (2, .int v2), (3, .int v3), (4, .int v4)]) hx hb dd_S_canHave_27 hl0 (by decide) rfl (fun ls hl => ?_)
      refine lv_aload hx hb dd_S_canHave_29 (lv_at hl 0 rfl) ?_
      refine lv_aload_n hx hb dd_S_canHave_31 rfl (lv_at hl 2 rfl) ?_
      refine lv_acmp_eq (tgt := 51) (rx := (some a12)) (ry := (some v1)) hx hb dd_S_canHave_32 (by decide) (fun c14 => ?_) (fun c14 => ?_)
      · replace hw := hw.1 c14
        exact wk_S_canHave_51 C0 hr hlk ih _ _ _ _ _ _ _ hw hG (lv_sub hl [1, 2, 3, 4, 5] rfl)
      · replace hw := hw.2 c14
        refine lv_aload hx hb dd_S_canHave_35 (lv_at hl 0 rfl) ?_
        obtain ⟨k15, a16, ea16, hw⟩ := hw
        refine gf_S_74 C0 hG k15 ea16 dd_S_canHave_37 ?_
        refine lv_iload_n hx hb dd_S_canHave_40 rfl (lv_at hl 3 rfl) ?_
        obtain ⟨k17, k17i, hw⟩ := hw
        refine px_iald C0 hG k17 k17i dd_S_canHave_41 ?_
        refine lv_iload_n hx hb dd_S_canHave_42 rfl (lv_at hl 4 rfl) ?_
        have hw0 := hw
        clear hw
        refine cs_i (rn_S C0 hG hS (c_S_areTogether l g _ h (hI h a16 v2.toNatClampNeg) v3 hw0) (host := "") (nest := false) (n := 2) (As := [.int (hI h a16 v2.toNatClampNeg), .int v3]) (rest := []) km_175 km_174 km_177 km_176 ⟨by decide, by decide, by decide +kernel⟩ ⟨Nat.le_of_ble_eq_true rfl, Nat.le_of_ble_eq_true rfl⟩ rfl hl.1 rfl (Nat.le_of_ble_eq_true rfl) dd_S_canHave_43 ⟨Nat.le_refl _, Nat.le_refl _⟩) (fun x20 hw => ?_)
        refine lv_if_ne (tgt := 51) hx hb dd_S_canHave_46 (by decide) (fun c21 => ?_) (fun c21 => ?_)
        · replace hw := hw.1 c21
          exact wk_S_canHave_51 C0 hr hlk ih _ _ _ _ _ _ _ hw hG (lv_sub hl [1, 2, 3, 4, 5] rfl)
        · replace hw := hw.2 c21
          refine lv_iconst (v := 0) hx hb dd_S_canHave_49 (by decide) ?_
          exact rs_z C0 hr hlk hw.1.nar hw.2 dd_S_canHave_50
def wp_S_canHave (g : Gm) (post : Int32 → Prop) (h : Hp) (a0 : Nat) (b1 : Nat) (i2 : Int32) (i3 : Int32) : Prop := ∃ n : Nat, wp_S_canHave_3 g post n h a0 b1 i2 i3 0
set_option maxHeartbeats 4000000 in
set_option maxRecDepth 100000 in
theorem c_S_canHave (l : Launch) (g : Gm) (post : Int32 → Prop) (h : Hp) (a0 : Nat) (b1 : Nat) (i2 : Int32) (i3 : Int32) (hw : wp_S_canHave g post h a0 b1 i2 i3) : Met l (⟨"SegmentLocks", "canHave", "(LSegmentLocks$Task;II)Z"⟩ : MethodName) (ww (⟨"SegmentLocks", "canHave", "(LSegmentLocks$Task;II)Z"⟩ : MethodName) prog_1_method_20_code 6 (some .boolean)) (rmm 3 64 0 0) (va_Pc [.ref a0, .ref b1, .int i2, .int i3] (gS g h)) (vp_Si post) 0 0 (fun _ => False) := by
  first | refine en_met (by decide) ?_ | refine en_metF (by decide) ?_
  intro p e s m below meth c C0 hr hlk hin hG
  have hS : va_S (gA g) s.heap s.heap [] := va_S.rf
  have hl := lv_entry ([.ref a0, .ref b1, .int i2, .int i3]) (n := 6) (Nat.le_of_ble_eq_true rfl)
  rw [lg_entry_eq]
  generalize (lg_sl ([.ref a0, .ref b1, .int i2, .int i3]) ++ List.replicate (6 - (lg_sl ([.ref a0, .ref b1, .int i2, .int i3])).length) Slot.unset).toArray = ls at hl ⊢
  replace hl : lv_has ls 6 [(0, .ref a0), (1, .ref b1), (2, .int i2), (3, .int i3)] := hl
  obtain ⟨hx, hb, -, hown, hts, hgk⟩ := id C0
  unfold wp_S_canHave at hw
  refine lv_iconst (v := 0) hx hb dd_S_canHave_0 (by decide) ?_
  have hl0 := hl
  clear hl
  refine lv_istore (lv' := [(4, .int 0), (0, .ref a0), (1, .ref b1), (2, .int i2), (3, .int i3)]) hx hb dd_S_canHave_1 hl0 (by decide) rfl (fun ls hl => ?_)
  obtain ⟨n, hw⟩ := hw
  exact wk_S_canHave_3 C0 hr hlk n _ _ _ _ _ _ _ hw hG (lv_sub hl [1, 2, 3, 4, 0] rfl)
/-! SegmentLocks.grantRows()V -/
theorem dd_S_grantRows_0 : decode prog_1_method_23_code 0 = .ok (.iconst 0, 1) := by decide +kernel
theorem dd_S_grantRows_1 : decode prog_1_method_23_code 1 = .ok (.istore_n 1, 1) := by decide +kernel
theorem dd_S_grantRows_2 : decode prog_1_method_23_code 2 = .ok (.iload_n 1, 1) := by decide +kernel
theorem dd_S_grantRows_3 : decode prog_1_method_23_code 3 = .ok (.bipush 50, 2) := by decide +kernel
theorem dd_S_grantRows_5 : decode prog_1_method_23_code 5 = .ok (.if_icmp .ge 82, 3) := by decide +kernel
theorem dd_S_grantRows_8 : decode prog_1_method_23_code 8 = .ok (.aload_n 0, 1) := by decide +kernel
theorem dd_S_grantRows_9 : decode prog_1_method_23_code 9 = .ok (.getfield 23, 3) := by decide +kernel
theorem dd_S_grantRows_12 : decode prog_1_method_23_code 12 = .ok (.iload_n 1, 1) := by decide +kernel
theorem dd_S_grantRows_13 : decode prog_1_method_23_code 13 = .ok (.invokevirtual 147, 3) := by decide +kernel
theorem dd_S_grantRows_16 : decode prog_1_method_23_code 16 = .ok (.astore_n 2, 1) := by decide +kernel
theorem dd_S_grantRows_17 : decode prog_1_method_23_code 17 = .ok (.iconst 0, 1) := by decide +kernel
theorem dd_S_grantRows_18 : decode prog_1_method_23_code 18 = .ok (.istore_n 3, 1) := by decide +kernel
theorem dd_S_grantRows_19 : decode prog_1_method_23_code 19 = .ok (.iload_n 3, 1) := by decide +kernel
theorem dd_S_grantRows_20 : decode prog_1_method_23_code 20 = .ok (.bipush 30, 2) := by decide +kernel
theorem dd_S_grantRows_22 : decode prog_1_method_23_code 22 = .ok (.if_icmp .ge 59, 3) := by decide +kernel
theorem dd_S_grantRows_25 : decode prog_1_method_23_code 25 = .ok (.aload_n 2, 1) := by decide +kernel
theorem dd_S_grantRows_26 : decode prog_1_method_23_code 26 = .ok (.ifnull 55, 3) := by decide +kernel
theorem dd_S_grantRows_29 : decode prog_1_method_23_code 29 = .ok (.aload_n 0, 1) := by decide +kernel
theorem dd_S_grantRows_30 : decode prog_1_method_23_code 30 = .ok (.aload_n 2, 1) := by decide +kernel
theorem dd_S_grantRows_31 : decode prog_1_method_23_code 31 = .ok (.iload_n 1, 1) := by decide +kernel
theorem dd_S_grantRows_32 : decode prog_1_method_23_code 32 = .ok (.aload_n 2, 1) := by decide +kernel
theorem dd_S_grantRows_33 : decode prog_1_method_23_code 33 = .ok (.getfield 157, 3) := by decide +kernel
theorem dd_S_grantRows_36 : decode prog_1_method_23_code 36 = .ok (.invokevirtual 150, 3) := by decide +kernel
theorem dd_S_grantRows_39 : decode prog_1_method_23_code 39 = .ok (.ifCond .ne 6, 3) := by decide +kernel
theorem dd_S_grantRows_42 : decode prog_1_method_23_code 42 = .ok (.goto 39, 3) := by decide +kernel
theorem dd_S_grantRows_45 : decode prog_1_method_23_code 45 = .ok (.aload_n 0, 1) := by decide +kernel
theorem dd_S_grantRows_46 : decode prog_1_method_23_code 46 = .ok (.getfield 23, 3) := by decide +kernel
theorem dd_S_grantRows_49 : decode prog_1_method_23_code 49 = .ok (.aload_n 2, 1) := by decide +kernel
theorem dd_S_grantRows_50 : decode prog_1_method_23_code 50 = .ok (.invokevirtual 178, 3) := by decide +kernel
theorem dd_S_grantRows_53 : decode prog_1_method_23_code 53 = .ok (.aload_n 2, 1) := by decide +kernel
theorem dd_S_grantRows_54 : decode prog_1_method_23_code 54 = .ok (.iload_n 1, 1) := by decide +kernel
theorem dd_S_grantRows_55 : decode prog_1_method_23_code 55 = .ok (.aload_n 2, 1) := by decide +kernel
theorem dd_S_grantRows_56 : decode prog_1_method_23_code 56 = .ok (.getfield 157, 3) := by decide +kernel
theorem dd_S_grantRows_59 : decode prog_1_method_23_code 59 = .ok (.invokevirtual 154, 3) := by decide +kernel
theorem dd_S_grantRows_62 : decode prog_1_method_23_code 62 = .ok (.aload_n 2, 1) := by decide +kernel
theorem dd_S_grantRows_63 : decode prog_1_method_23_code 63 = .ok (.invokevirtual 187, 3) := by decide +kernel
theorem dd_S_grantRows_66 : decode prog_1_method_23_code 66 = .ok (.aload_n 0, 1) := by decide +kernel
theorem dd_S_grantRows_67 : decode prog_1_method_23_code 67 = .ok (.getfield 23, 3) := by decide +kernel
theorem dd_S_grantRows_70 : decode prog_1_method_23_code 70 = .ok (.iload_n 1, 1) := by decide +kernel
theorem dd_S_grantRows_71 : decode prog_1_method_23_code 71 = .ok (.invokevirtual 147, 3) := by decide +kernel
theorem dd_S_grantRows_74 : decode prog_1_method_23_code 74 = .ok (.astore_n 2, 1) := by decide +kernel
theorem dd_S_grantRows_75 : decode prog_1_method_23_code 75 = .ok (.iinc 3 1, 3) := by decide +kernel
theorem dd_S_grantRows_78 : decode prog_1_method_23_code 78 = .ok (.goto (-59), 3) := by decide +kernel
theorem dd_S_grantRows_81 : decode prog_1_method_23_code 81 = .ok (.iinc 1 1, 3) := by decide +kernel
theorem dd_S_grantRows_84 : decode prog_1_method_23_code 84 = .ok (.goto (-82), 3) := by decide +kernel
theorem dd_S_grantRows_87 : decode prog_1_method_23_code 87 = .ok (.return_, 1) := by decide +kernel
def wp_S_grantRows_81 (g : Gm) (post : Hp → Prop) (K2 : Hp → Nat → Int32 → Prop) (h : Hp) (v0 : Nat) (v1 : Int32) : Prop := ∀ x1 : Int32, x1 = v1 + 1 → K2 h v0 x1
set_option maxHeartbeats 4000000 in
set_option maxRecDepth 100000 in
theorem wk_S_grantRows_81 {p : Program} {l : Launch} {e : Env} {s : State} {m : MethodId} {args : Array Value} {below : List Frame} {meth : Method} {c : Code} {g : Gm} {post : Hp → Prop} (C0 : Cx g p s m args c prog_1_method_23_code 4 "SegmentLocks") (hr : meth.sig.returnType = none) (hlk : meth.locks = false) {K2 : Hp → Nat → Int32 → Prop} (hK2 : ∀ (h : Hp) (v0 : Nat) (v1 : Int32) (H : Heap) (locs : List Loc) (ls : Array Slot), K2 h v0 v1 → GH g h H → va_S (gA g) s.heap H locs → lv_has ls 4 [(0, .ref v0), (1, .int v1)] → W p l e (rmm 5 128 0 0) s m args below meth c H locs 0 0 (MQ below (va_Qv post (gS g) (gA g)) args s 0 0 (gA g)) (F0 m 2 ls [])) : ∀ (h : Hp) (v0 : Nat) (v1 : Int32) (H : Heap) (locs : List Loc) (ls : Array Slot), wp_S_grantRows_81 g post K2 h v0 v1 → GH g h H → va_S (gA g) s.heap H locs → lv_has ls 4 [(0, .ref v0), (1, .int v1)] → W p l e (rmm 5 128 0 0) s m args below meth c H locs 0 0 (MQ below (va_Qv post (gS g) (gA g)) args s 0 0 (gA g)) (F0 m 81 ls []) := by
  obtain ⟨hx, hb, -, hown, hts, hgk⟩ := id C0
  intro h v0 v1 H locs ls hw hG hS hl
  unfold wp_S_grantRows_81 at hw
  obtain ⟨x1, ex1⟩ : ∃ y : Int32, y = v1 + 1 := ⟨_, rfl⟩
  replace hw := hw x1 ex1
  have hl0 := hl
  clear hl
  refine lv_iinc (v := x1) (lv' := [(1, .int x1), (0, .ref v0)]) hx hb dd_S_grantRows_81 hl0 (k := 1) rfl (by rw [ex1]; rfl) (by decide) rfl (fun ls hl => ?_)
  refine lv_goto (tgt := 2) hx hb dd_S_grantRows_84 (by decide) ?_
  exact hK2 _ _ _ _ _ _ hw hG hS (lv_sub hl [1, 0] rfl)
def wp_S_grantRows_19 (g : Gm) (post : Hp → Prop) (K2 : Hp → Nat → Int32 → Prop) : Nat → Hp → Nat → Int32 → Option Nat → Int32 → Prop
  | 0, _, _, _, _, _ => False
  | fu + 1, h, v0, v1, v2, v3 => ((30 ≤ v3 → wp_S_grantRows_81 g post K2 h v0 v1) ∧ (¬ 30 ≤ v3 → ((v2 = none → wp_S_grantRows_81 g post K2 h v0 v1) ∧ (∀ a2 : Nat, v2 = some a2 → hK h a2 = 4 ∧ hK h v0 = 1 ∧ wp_S_canHave g (fun x6 => ((¬ x6 = 0 → hK h v0 = 1 ∧ ∃ a9 : Nat, hR h v0 2 = some a9 ∧ hK h a9 = 2 ∧ wp_W_leave g (fun h11 => hK h11 a2 = 4 ∧ hK h11 a2 = 4 ∧ wp_T_take g (fun h14 => hK h14 a2 = 4 ∧ wp_T_stopWaiting g (fun h16 => hK h16 v0 = 1 ∧ ∃ a18 : Nat, hR h16 v0 2 = some a18 ∧ hK h16 a18 = 2 ∧ wp_W_first g (fun r21 => ∀ x22 : Int32, x22 = v3 + 1 → wp_S_grantRows_19 g post K2 fu h16 v0 v1 r21 x22) h16 a18 v1) h14 a2) h11 a2 v1 (hI h11 a2 14)) h a9 a2) ∧ (x6 = 0 → wp_S_grantRows_81 g post K2 h v0 v1))) h v0 a2 v1 (hI h a2 14)))))
set_option maxHeartbeats 4000000 in
set_option maxRecDepth 100000 in
theorem wk_S_grantRows_19 {p : Program} {l : Launch} {e : Env} {s : State} {m : MethodId} {args : Array Value} {below : List Frame} {meth : Method} {c : Code} {g : Gm} {post : Hp → Prop} (C0 : Cx g p s m args c prog_1_method_23_code 4 "SegmentLocks") (hr : meth.sig.returnType = none) (hlk : meth.locks = false) {K2 : Hp → Nat → Int32 → Prop} (hK2 : ∀ (h : Hp) (v0 : Nat) (v1 : Int32) (H : Heap) (locs : List Loc) (ls : Array Slot), K2 h v0 v1 → GH g h H → va_S (gA g) s.heap H locs → lv_has ls 4 [(0, .ref v0), (1, .int v1)] → W p l e (rmm 5 128 0 0) s m args below meth c H locs 0 0 (MQ below (va_Qv post (gS g) (gA g)) args s 0 0 (gA g)) (F0 m 2 ls [])) : ∀ n : Nat, ∀ (h : Hp) (v0 : Nat) (v1 : Int32) (v2 : Option Nat) (v3 : Int32) (H : Heap) (locs : List Loc) (ls : Array Slot), wp_S_grantRows_19 g post K2 n h v0 v1 v2 v3 → GH g h H → va_S (gA g) s.heap H locs → lv_has ls 4 [(0, .ref v0), (1, .int v1), (2, va_rf v2), (3, .int v3)] → W p l e (rmm 5 128 0 0) s m args below meth c H locs 0 0 (MQ below (va_Qv post (gS g) (gA g)) args s 0 0 (gA g)) (F0 m 19 ls []) := by
  obtain ⟨hx, hb, -, hown, hts, hgk⟩ := id C0
  intro n
  induction n with
  | zero =>
    intro h v0 v1 v2 v3 H locs ls hw hG hS hl
    exact hw.elim
  | succ n ih =>
    intro h v0 v1 v2 v3 H locs ls hw hG hS hl
    unfold wp_S_grantRows_19 at hw
    refine lv_iload_n hx hb dd_S_grantRows_19 rfl (lv_at hl 3 rfl) ?_
    refine lv_bipush (v := 30) hx hb dd_S_grantRows_20 (by decide) ?_
    refine lv_icmp_ge (tgt := 81) hx hb dd_S_grantRows_22 (by decide) (fun c1 => ?_) (fun c1 => ?_)
    · replace hw := hw.1 c1
      exact wk_S_grantRows_81 C0 hr hlk hK2 _ _ _ _ _ _ hw hG hS (lv_sub hl [0, 1] rfl)
    · replace hw := hw.2 c1
      refine px_aload_nq hx hb dd_S_grantRows_25 rfl (lv_at hl 2 rfl) ?_
      refine px_ifnullq (tgt := 81) hx hb dd_S_grantRows_26 (by decide) (fun z => ?_) (fun a2 z => ?_)
      · replace hw := hw.1 z
        subst z
        replace hl : lv_has ls 4 [(0, .ref v0), (1, .int v1), (2, .null), (3, .int v3)] := hl
        exact wk_S_grantRows_81 C0 hr hlk hK2 _ _ _ _ _ _ hw hG hS (lv_sub hl [0, 1] rfl)
      · replace hw := hw.2 a2 z
        subst z
        replace hl : lv_has ls 4 [(0, .ref v0), (1, .int v1), (2, .ref a2), (3, .int v3)] := hl
        refine lv_aload_n hx hb dd_S_grantRows_29 rfl (lv_at hl 0 rfl) ?_
        refine lv_aload_n hx hb dd_S_grantRows_30 rfl (lv_at hl 2 rfl) ?_
        refine lv_iload_n hx hb dd_S_grantRows_31 rfl (lv_at hl 1 rfl) ?_
        refine lv_aload_n hx hb dd_S_grantRows_32 rfl (lv_at hl 2 rfl) ?_
        obtain ⟨k3, hw⟩ := hw
        refine gf_S_157 C0 hG k3 dd_S_grantRows_33 ?_
        obtain ⟨k4, hw⟩ := hw
        have hw0 := hw
        clear hw
        refine cs_i (rn_V C0 hG hS (c_S_canHave l g _ h v0 a2 v1 (hI h a2 14) hw0) (ci := 0) k4 (by decide) rfl rfl (host := "") (nest := false) (n := 3) (As := [.ref a2, .int v1, .int (hI h a2 14)]) (rest := []) km_193 km_192 km_194 km_195 km_176 ⟨by decide, by decide, by decide +kernel⟩ ⟨Nat.le_of_ble_eq_true rfl, Nat.le_of_ble_eq_true rfl⟩ rfl hl.1 rfl (Nat.le_of_ble_eq_true rfl) dd_S_grantRows_36 ⟨Nat.le_refl _, Nat.le_refl _⟩) (fun x6 hw => ?_)
        refine lv_if_ne (tgt := 45) hx hb dd_S_grantRows_39 (by decide) (fun c7 => ?_) (fun c7 => ?_)
        · replace hw := hw.1 c7
          refine lv_aload_n hx hb dd_S_grantRows_45 rfl (lv_at hl 0 rfl) ?_
          obtain ⟨k8, a9, ea9, hw⟩ := hw
          refine gf_S_23 C0 hG k8 ea9 dd_S_grantRows_46 ?_
          refine lv_aload_n hx hb dd_S_grantRows_49 rfl (lv_at hl 2 rfl) ?_
          obtain ⟨k10, hw⟩ := hw
          refine ca_v hS (rn_V C0 hG hS (c_W_leave l g _ h a9 a2 hw) (ci := 1) k10 (by decide) rfl rfl (host := "SegmentLocks") (nest := true) (n := 1) (As := [.ref a2]) (rest := []) km_189 km_188 km_190 km_191 km_39 ⟨by decide, by decide, by decide +kernel⟩ ⟨Nat.le_of_ble_eq_true rfl, Nat.le_of_ble_eq_true rfl⟩ rfl hl.1 rfl (Nat.le_of_ble_eq_true rfl) dd_S_grantRows_50 ⟨Nat.le_refl _, Nat.le_refl _⟩) (fun h11 H locs hw hG hS => ?_)
          refine lv_aload_n hx hb dd_S_grantRows_53 rfl (lv_at hl 2 rfl) ?_
          refine lv_iload_n hx hb dd_S_grantRows_54 rfl (lv_at hl 1 rfl) ?_
          refine lv_aload_n hx hb dd_S_grantRows_55 rfl (lv_at hl 2 rfl) ?_
          obtain ⟨k12, hw⟩ := hw
          refine gf_S_157 C0 hG k12 dd_S_grantRows_56 ?_
          obtain ⟨k13, hw⟩ := hw
          refine ca_v hS (rn_V C0 hG hS (c_T_take l g _ h11 a2 v1 (hI h11 a2 14) hw) (ci := 3) k13 (by decide) rfl rfl (host := "SegmentLocks") (nest := true) (n := 2) (As := [.int v1, .int (hI h11 a2 14)]) (rest := []) km_185 km_184 km_186 km_187 km_123 ⟨by decide, by decide, by decide +kernel⟩ ⟨Nat.le_of_ble_eq_true rfl, Nat.le_of_ble_eq_true rfl⟩ rfl hl.1 rfl (Nat.le_of_ble_eq_true rfl) dd_S_grantRows_59 ⟨Nat.le_refl _, Nat.le_refl _⟩) (fun h14 H locs hw hG hS => ?_)
          refine lv_aload_n hx hb dd_S_grantRows_62 rfl (lv_at hl 2 rfl) ?_
          obtain ⟨k15, hw⟩ := hw
          refine ca_v hS (rn_V C0 hG hS (c_T_stopWaiting l g _ h14 a2 hw) (ci := 3) k15 (by decide) rfl rfl (host := "SegmentLocks") (nest := true) (n := 0) (As := []) (rest := []) km_168 km_183 km_169 km_170 km_123 ⟨by decide, by decide, by decide +kernel⟩ ⟨Nat.le_of_ble_eq_true rfl, Nat.le_of_ble_eq_true rfl⟩ rfl hl.1 rfl (Nat.le_of_ble_eq_true rfl) dd_S_grantRows_63 ⟨Nat.le_refl _, Nat.le_refl _⟩) (fun h16 H locs hw hG hS => ?_)
          refine lv_aload_n hx hb dd_S_grantRows_66 rfl (lv_at hl 0 rfl) ?_
          obtain ⟨k17, a18, ea18, hw⟩ := hw
          refine gf_S_23 C0 hG k17 ea18 dd_S_grantRows_67 ?_
          refine lv_iload_n hx hb dd_S_grantRows_70 rfl (lv_at hl 1 rfl) ?_
          obtain ⟨k19, hw⟩ := hw
          have hw0 := hw
          clear hw
          refine cs_q (rn_V C0 hG hS (c_W_first l g _ h16 a18 v1 hw0) (ci := 1) k19 (by decide) rfl rfl (host := "SegmentLocks") (nest := true) (n := 1) (As := [.int v1]) (rest := []) km_180 km_179 km_181 km_182 km_39 ⟨by decide, by decide, by decide +kernel⟩ ⟨Nat.le_of_ble_eq_true rfl, Nat.le_of_ble_eq_true rfl⟩ rfl hl.1 rfl (Nat.le_of_ble_eq_true rfl) dd_S_grantRows_71 ⟨Nat.le_refl _, Nat.le_refl _⟩) (fun r21 hw => ?_)
          have hl0 := hl
          clear hl
          refine px_astore_nq (lv' := [(2, va_rf r21), (0, .ref v0), (1, .int v1), (3, .int v3)]) hx hb dd_S_grantRows_74 rfl hl0 (by decide) rfl (fun ls hl => ?_)
          obtain ⟨x22, ex22⟩ : ∃ y : Int32, y = v3 + 1 := ⟨_, rfl⟩
          replace hw := hw x22 ex22
          have hl0 := hl
          clear hl
          refine lv_iinc (v := x22) (lv' := [(3, .int x22), (2, va_rf r21), (0, .ref v0), (1, .int v1)]) hx hb dd_S_grantRows_75 hl0 (k := 3) rfl (by rw [ex22]; rfl) (by decide) (by cases r21 <;> rfl) (fun ls hl => ?_)
          refine lv_goto (tgt := 19) hx hb dd_S_grantRows_78 (by decide) ?_
          exact ih _ _ _ _ _ _ _ _ hw hG hS (lv_sub hl [2, 3, 1, 0] rfl)
        · replace hw := hw.2 c7
          refine lv_goto (tgt := 81) hx hb dd_S_grantRows_42 (by decide) ?_
          exact wk_S_grantRows_81 C0 hr hlk hK2 _ _ _ _ _ _ hw hG hS (lv_sub hl [0, 1] rfl)
def wp_S_grantRows_2 (g : Gm) (post : Hp → Prop) : Nat → Hp → Nat → Int32 → Prop
  | 0, _, _, _ => False
  | fu + 1, h, v0, v1 => ((50 ≤ v1 → post h) ∧ (¬ 50 ≤ v1 → hK h v0 = 1 ∧ ∃ a3 : Nat, hR h v0 2 = some a3 ∧ hK h a3 = 2 ∧ wp_W_first g (fun r6 => ∃ n : Nat, wp_S_grantRows_19 g post (fun h v0 v1 => wp_S_grantRows_2 g post fu h v0 v1) n h v0 v1 r6 0) h a3 v1))
set_option maxHeartbeats 4000000 in
set_option maxRecDepth 100000 in
theorem wk_S_grantRows_2 {p : Program} {l : Launch} {e : Env} {s : State} {m : MethodId} {args : Array Value} {below : List Frame} {meth : Method} {c : Code} {g : Gm} {post : Hp → Prop} (C0 : Cx g p s m args c prog_1_method_23_code 4 "SegmentLocks") (hr : meth.sig.returnType = none) (hlk : meth.locks = false) : ∀ n : Nat, ∀ (h : Hp) (v0 : Nat) (v1 : Int32) (H : Heap) (locs : List Loc) (ls : Array Slot), wp_S_grantRows_2 g post n h v0 v1 → GH g h H → va_S (gA g) s.heap H locs → lv_has ls 4 [(0, .ref v0), (1, .int v1)] → W p l e (rmm 5 128 0 0) s m args below meth c H locs 0 0 (MQ below (va_Qv post (gS g) (gA g)) args s 0 0 (gA g)) (F0 m 2 ls []) := by
  obtain ⟨hx, hb, -, hown, hts, hgk⟩ := id C0
  intro n
  induction n with
  | zero =>
    intro h v0 v1 H locs ls hw hG hS hl
    exact hw.elim
  | succ n ih =>
    intro h v0 v1 H locs ls hw hG hS hl
    unfold wp_S_grantRows_2 at hw
    refine lv_iload_n hx hb dd_S_grantRows_2 rfl (lv_at hl 1 rfl) ?_
    refine lv_bipush (v := 50) hx hb dd_S_grantRows_3 (by decide) ?_
    refine lv_icmp_ge (tgt := 87) hx hb dd_S_grantRows_5 (by decide) (fun c1 => ?_) (fun c1 => ?_)
    · replace hw := hw.1 c1
      exact re_v C0 hG hS hr hlk ⟨Nat.le_refl _, Nat.le_refl _⟩ hw dd_S_grantRows_87
    · replace hw := hw.2 c1
      refine lv_aload_n hx hb dd_S_grantRows_8 rfl (lv_at hl 0 rfl) ?_
      obtain ⟨k2, a3, ea3, hw⟩ := hw
      refine gf_S_23 C0 hG k2 ea3 dd_S_grantRows_9 ?_
      refine lv_iload_n hx hb dd_S_grantRows_12 rfl (lv_at hl 1 rfl) ?_
      obtain ⟨k4, hw⟩ := hw
      have hw0 := hw
      clear hw
      refine cs_q (rn_V C0 hG hS (c_W_first l g _ h a3 v1 hw0) (ci := 1) k4 (by decide) rfl rfl (host := "SegmentLocks") (nest := true) (n := 1) (As := [.int v1]) (rest := []) km_180 km_179 km_181 km_182 km_39 ⟨by decide, by decide, by decide +kernel⟩ ⟨Nat.le_of_ble_eq_true rfl, Nat.le_of_ble_eq_true rfl⟩ rfl hl.1 rfl (Nat.le_of_ble_eq_true rfl) dd_S_grantRows_13 ⟨Nat.le_refl _, Nat.le_refl _⟩) (fun r6 hw => ?_)
      have hl0 := hl
      clear hl
      refine px_astore_nq (lv' := [(2, va_rf r6), (0, .ref v0), (1, .int v1)]) hx hb dd_S_grantRows_16 rfl hl0 (by decide) rfl (fun ls hl => ?_)
      refine lv_iconst (v := 0) hx hb dd_S_grantRows_17 (by decide) ?_
      have hl0 := hl
      clear hl
      refine lv_istore_n (lv' := [(3, .int 0), (2, va_rf r6), (0, .ref v0), (1, .int v1)]) hx hb dd_S_grantRows_18 rfl hl0 (by decide) (by cases r6 <;> rfl) (fun ls hl => ?_)
      obtain ⟨n, hw⟩ := hw
      exact wk_S_grantRows_19 C0 hr hlk ih n _ _ _ _ _ _ _ _ hw hG hS (lv_sub hl [2, 3, 1, 0] rfl)
def wp_S_grantRows (g : Gm) (post : Hp → Prop) (h : Hp) (a0 : Nat) : Prop := ∃ n : Nat, wp_S_grantRows_2 g post n h a0 0
set_option maxHeartbeats 4000000 in
set_option maxRecDepth 100000 in
theorem c_S_grantRows (l : Launch) (g : Gm) (post : Hp → Prop) (h : Hp) (a0 : Nat) (hw : wp_S_grantRows g post h a0) : Met l (⟨"SegmentLocks", "grantRows", "()V"⟩ : MethodName) (ww (⟨"SegmentLocks", "grantRows", "()V"⟩ : MethodName) prog_1_method_23_code 4 none) (rmm 5 128 0 0) (va_Pc [.ref a0] (gS g h)) (va_Qv post (gS g) (gA g)) 0 0 (gA g) := by
  first | refine en_met (by decide) ?_ | refine en_metF (by decide) ?_
  intro p e s m below meth c C0 hr hlk hin hG
  have hS : va_S (gA g) s.heap s.heap [] := va_S.rf
  have hl := lv_entry ([.ref a0]) (n := 4) (Nat.le_of_ble_eq_true rfl)
  rw [lg_entry_eq]
  generalize (lg_sl ([.ref a0]) ++ List.replicate (4 - (lg_sl ([.ref a0])).length) Slot.unset).toArray = ls at hl ⊢
  replace hl : lv_has ls 4 [(0, .ref a0)] := hl
  obtain ⟨hx, hb, -, hown, hts, hgk⟩ := id C0
  unfold wp_S_grantRows at hw
  refine lv_iconst (v := 0) hx hb dd_S_grantRows_0 (by decide) ?_
  have hl0 := hl
  clear hl
  refine lv_istore_n (lv' := [(1, .int 0), (0, .ref a0)]) hx hb dd_S_grantRows_1 rfl hl0 (by decide) rfl (fun ls hl => ?_)
  obtain ⟨n, hw⟩ := hw
  exact wk_S_grantRows_2 C0 hr hlk n _ _ _ _ _ _ hw hG hS (lv_sub hl [1, 0] rfl)
/-! SegmentLocks.letGo(LSegmentLocks$Task;I)V -/
theorem dd_S_letGo_0 : decode prog_1_method_22_code 0 = .ok (.aload_n 0, 1) := by decide +kernel
theorem dd_S_letGo_1 : decode prog_1_method_22_code 1 = .ok (.getfield 23, 3) := by decide +kernel
theorem dd_S_letGo_4 : decode prog_1_method_22_code 4 = .ok (.aload_n 1, 1) := by decide +kernel
theorem dd_S_letGo_5 : decode prog_1_method_22_code 5 = .ok (.invokevirtual 178, 3) := by decide +kernel
theorem dd_S_letGo_8 : decode prog_1_method_22_code 8 = .ok (.aload_n 1, 1) := by decide +kernel
theorem dd_S_letGo_9 : decode prog_1_method_22_code 9 = .ok (.invokevirtual 181, 3) := by decide +kernel
theorem dd_S_letGo_12 : decode prog_1_method_22_code 12 = .ok (.aload_n 1, 1) := by decide +kernel
theorem dd_S_letGo_13 : decode prog_1_method_22_code 13 = .ok (.iload_n 2, 1) := by decide +kernel
theorem dd_S_letGo_14 : decode prog_1_method_22_code 14 = .ok (.putfield 63, 3) := by decide +kernel
theorem dd_S_letGo_17 : decode prog_1_method_22_code 17 = .ok (.aload_n 0, 1) := by decide +kernel
theorem dd_S_letGo_18 : decode prog_1_method_22_code 18 = .ok (.invokevirtual 184, 3) := by decide +kernel
theorem dd_S_letGo_21 : decode prog_1_method_22_code 21 = .ok (.return_, 1) := by decide +kernel
def wp_S_letGo (g : Gm) (post : Hp → Prop) (h : Hp) (a0 : Nat) (b1 : Nat) (i2 : Int32) : Prop := hK h a0 = 1 ∧ ∃ a2 : Nat, hR h a0 2 = some a2 ∧ hK h a2 = 2 ∧ wp_W_leave g (fun h4 => hK h4 b1 = 4 ∧ wp_T_forget g (fun h6 => hK h6 b1 = 4 ∧ ∀ h8 : Hp, h8 = sI h6 b1 9 i2 → hK h8 a0 = 1 ∧ wp_S_grantRows g (fun h10 => post h10) h8 a0) h4 b1) h a2 b1
set_option maxHeartbeats 4000000 in
set_option maxRecDepth 100000 in
theorem c_S_letGo (l : Launch) (g : Gm) (post : Hp → Prop) (h : Hp) (a0 : Nat) (b1 : Nat) (i2 : Int32) (hw : wp_S_letGo g post h a0 b1 i2) : Met l (⟨"SegmentLocks", "letGo", "(LSegmentLocks$Task;I)V"⟩ : MethodName) (ww (⟨"SegmentLocks", "letGo", "(LSegmentLocks$Task;I)V"⟩ : MethodName) prog_1_method_22_code 3 none) (rmm 6 151 0 0) (va_Pc [.ref a0, .ref b1, .int i2] (gS g h)) (va_Qv post (gS g) (gA g)) 0 0 (gA g) := by
  first | refine en_met (by decide) ?_ | refine en_metF (by decide) ?_
  intro p e s m below meth c C0 hr hlk hin hG
  have hS : va_S (gA g) s.heap s.heap [] := va_S.rf
  have hl := lv_entry ([.ref a0, .ref b1, .int i2]) (n := 3) (Nat.le_of_ble_eq_true rfl)
  rw [lg_entry_eq]
  generalize (lg_sl ([.ref a0, .ref b1, .int i2]) ++ List.replicate (3 - (lg_sl ([.ref a0, .ref b1, .int i2])).length) Slot.unset).toArray = ls at hl ⊢
  replace hl : lv_has ls 3 [(0, .ref a0), (1, .ref b1), (2, .int i2)] := hl
  obtain ⟨hx, hb, -, hown, hts, hgk⟩ := id C0
  unfold wp_S_letGo at hw
  refine lv_aload_n hx hb dd_S_letGo_0 rfl (lv_at hl 0 rfl) ?_
  obtain ⟨k1, a2, ea2, hw⟩ := hw
  refine gf_S_23 C0 hG k1 ea2 dd_S_letGo_1 ?_
  refine lv_aload_n hx hb dd_S_letGo_4 rfl (lv_at hl 1 rfl) ?_
  obtain ⟨k3, hw⟩ := hw
  refine ca_v hS (rn_V C0 hG hS (c_W_leave l g _ h a2 b1 hw) (ci := 1) k3 (by decide) rfl rfl (host := "SegmentLocks") (nest := true) (n := 1) (As := [.ref b1]) (rest := []) km_189 km_188 km_190 km_191 km_39 ⟨by decide, by decide, by decide +kernel⟩ ⟨Nat.le_of_ble_eq_true rfl, Nat.le_of_ble_eq_true rfl⟩ rfl hl.1 rfl (Nat.le_of_ble_eq_true rfl) dd_S_letGo_5 ⟨Nat.le_refl _, Nat.le_refl _⟩) (fun h4 H locs hw hG hS => ?_)
  refine lv_aload_n hx hb dd_S_letGo_8 rfl (lv_at hl 1 rfl) ?_
  obtain ⟨k5, hw⟩ := hw
  refine ca_v hS (rn_V C0 hG hS (c_T_forget l g _ h4 b1 hw) (ci := 3) k5 (by decide) rfl rfl (host := "SegmentLocks") (nest := true) (n := 0) (As := []) (rest := []) km_202 km_201 km_203 km_204 km_123 ⟨by decide, by decide, by decide +kernel⟩ ⟨Nat.le_of_ble_eq_true rfl, Nat.le_of_ble_eq_true rfl⟩ rfl hl.1 rfl (Nat.le_of_ble_eq_true rfl) dd_S_letGo_9 ⟨Nat.le_refl _, Nat.le_refl _⟩) (fun h6 H locs hw hG hS => ?_)
  refine lv_aload_n hx hb dd_S_letGo_12 rfl (lv_at hl 1 rfl) ?_
  refine lv_iload_n hx hb dd_S_letGo_13 rfl (lv_at hl 2 rfl) ?_
  obtain ⟨k7, hw⟩ := hw
  refine pf_S_63 C0 hG hS k7 dd_S_letGo_14 (fun H locs hG hS => ?_)
  replace hw := hw _ rfl
  generalize sI h6 b1 9 i2 = h8 at hw hG
  refine lv_aload_n hx hb dd_S_letGo_17 rfl (lv_at hl 0 rfl) ?_
  obtain ⟨k9, hw⟩ := hw
  refine ca_v hS (rn_V C0 hG hS (c_S_grantRows l g _ h8 a0 hw) (ci := 0) k9 (by decide) rfl rfl (host := "") (nest := false) (n := 0) (As := []) (rest := []) km_198 km_197 km_199 km_200 km_176 ⟨by decide, by decide, by decide +kernel⟩ ⟨Nat.le_of_ble_eq_true rfl, Nat.le_of_ble_eq_true rfl⟩ rfl hl.1 rfl (Nat.le_of_ble_eq_true rfl) dd_S_letGo_18 ⟨Nat.le_refl _, Nat.le_refl _⟩) (fun h10 H locs hw hG hS => ?_)
  exact re_v C0 hG hS hr hlk ⟨Nat.le_refl _, Nat.le_refl _⟩ hw dd_S_letGo_21
/-! SegmentLocks.breakRings(LSegmentLocks$Task;)I -/
theorem dd_S_breakRings_0 : decode prog_1_method_21_code 0 = .ok (.aload_n 1, 1) := by decide +kernel
theorem dd_S_breakRings_1 : decode prog_1_method_21_code 1 = .ok (.getfield 137, 3) := by decide +kernel
theorem dd_S_breakRings_4 : decode prog_1_method_21_code 4 = .ok (.istore_n 2, 1) := by decide +kernel
theorem dd_S_breakRings_5 : decode prog_1_method_21_code 5 = .ok (.iconst 0, 1) := by decide +kernel
theorem dd_S_breakRings_6 : decode prog_1_method_21_code 6 = .ok (.istore_n 3, 1) := by decide +kernel
theorem dd_S_breakRings_7 : decode prog_1_method_21_code 7 = .ok (.iload_n 3, 1) := by decide +kernel
theorem dd_S_breakRings_8 : decode prog_1_method_21_code 8 = .ok (.bipush 30, 2) := by decide +kernel
theorem dd_S_breakRings_10 : decode prog_1_method_21_code 10 = .ok (.if_icmp .ge 56, 3) := by decide +kernel
theorem dd_S_breakRings_13 : decode prog_1_method_21_code 13 = .ok (.aload_n 0, 1) := by decide +kernel
theorem dd_S_breakRings_14 : decode prog_1_method_21_code 14 = .ok (.getfield 30, 3) := by decide +kernel
theorem dd_S_breakRings_17 : decode prog_1_method_21_code 17 = .ok (.aload_n 0, 1) := by decide +kernel
theorem dd_S_breakRings_18 : decode prog_1_method_21_code 18 = .ok (.getfield 16, 3) := by decide +kernel
theorem dd_S_breakRings_21 : decode prog_1_method_21_code 21 = .ok (.aload_n 0, 1) := by decide +kernel
theorem dd_S_breakRings_22 : decode prog_1_method_21_code 22 = .ok (.getfield 23, 3) := by decide +kernel
theorem dd_S_breakRings_25 : decode prog_1_method_21_code 25 = .ok (.aload_n 1, 1) := by decide +kernel
theorem dd_S_breakRings_26 : decode prog_1_method_21_code 26 = .ok (.invokevirtual 170, 3) := by decide +kernel
theorem dd_S_breakRings_29 : decode prog_1_method_21_code 29 = .ok (.ifCond .eq 37, 3) := by decide +kernel
theorem dd_S_breakRings_32 : decode prog_1_method_21_code 32 = .ok (.aload_n 0, 1) := by decide +kernel
theorem dd_S_breakRings_33 : decode prog_1_method_21_code 33 = .ok (.getfield 30, 3) := by decide +kernel
theorem dd_S_breakRings_36 : decode prog_1_method_21_code 36 = .ok (.aload_n 1, 1) := by decide +kernel
theorem dd_S_breakRings_37 : decode prog_1_method_21_code 37 = .ok (.invokevirtual 174, 3) := by decide +kernel
theorem dd_S_breakRings_40 : decode prog_1_method_21_code 40 = .ok (.astore 4, 2) := by decide +kernel
theorem dd_S_breakRings_42 : decode prog_1_method_21_code 42 = .ok (.aload 4, 2) := by decide +kernel
theorem dd_S_breakRings_44 : decode prog_1_method_21_code 44 = .ok (.dup, 1) := by decide +kernel
theorem dd_S_breakRings_45 : decode prog_1_method_21_code 45 = .ok (.getfield 137, 3) := by decide +kernel
theorem dd_S_breakRings_48 : decode prog_1_method_21_code 48 = .ok (.iconst 1, 1) := by decide +kernel
theorem dd_S_breakRings_49 : decode prog_1_method_21_code 49 = .ok (.iadd, 1) := by decide +kernel
theorem dd_S_breakRings_50 : decode prog_1_method_21_code 50 = .ok (.putfield 137, 3) := by decide +kernel
theorem dd_S_breakRings_53 : decode prog_1_method_21_code 53 = .ok (.aload_n 0, 1) := by decide +kernel
theorem dd_S_breakRings_54 : decode prog_1_method_21_code 54 = .ok (.aload 4, 2) := by decide +kernel
theorem dd_S_breakRings_56 : decode prog_1_method_21_code 56 = .ok (.iconst 0, 1) := by decide +kernel
theorem dd_S_breakRings_57 : decode prog_1_method_21_code 57 = .ok (.invokevirtual 117, 3) := by decide +kernel
theorem dd_S_breakRings_60 : decode prog_1_method_21_code 60 = .ok (.iinc 3 1, 3) := by decide +kernel
theorem dd_S_breakRings_63 : decode prog_1_method_21_code 63 = .ok (.goto (-56), 3) := by decide +kernel
theorem dd_S_breakRings_66 : decode prog_1_method_21_code 66 = .ok (.aload_n 1, 1) := by decide +kernel
theorem dd_S_breakRings_67 : decode prog_1_method_21_code 67 = .ok (.getfield 137, 3) := by decide +kernel
theorem dd_S_breakRings_70 : decode prog_1_method_21_code 70 = .ok (.iload_n 2, 1) := by decide +kernel
theorem dd_S_breakRings_71 : decode prog_1_method_21_code 71 = .ok (.if_icmp .eq 5, 3) := by decide +kernel
theorem dd_S_breakRings_74 : decode prog_1_method_21_code 74 = .ok (.iconst (-1), 1) := by decide +kernel
theorem dd_S_breakRings_75 : decode prog_1_method_21_code 75 = .ok (.ireturn, 1) := by decide +kernel
theorem dd_S_breakRings_76 : decode prog_1_method_21_code 76 = .ok (.aload_n 1, 1) := by decide +kernel
theorem dd_S_breakRings_77 : decode prog_1_method_21_code 77 = .ok (.getfield 63, 3) := by decide +kernel
theorem dd_S_breakRings_80 : decode prog_1_method_21_code 80 = .ok (.iconst 1, 1) := by decide +kernel
theorem dd_S_breakRings_81 : decode prog_1_method_21_code 81 = .ok (.if_icmp .ne 7, 3) := by decide +kernel
theorem dd_S_breakRings_84 : decode prog_1_method_21_code 84 = .ok (.iconst 0, 1) := by decide +kernel
theorem dd_S_breakRings_85 : decode prog_1_method_21_code 85 = .ok (.goto 4, 3) := by decide +kernel
theorem dd_S_breakRings_88 : decode prog_1_method_21_code 88 = .ok (.iconst 1, 1) := by decide +kernel
theorem dd_S_breakRings_89 : decode prog_1_method_21_code 89 = .ok (.ireturn, 1) := by decide +kernel
def wp_S_breakRings_89 (g : Gm) (post : Int32 → Hp → Prop) (mc ms : Nat) (h : Hp) (kc ks : Nat) (s0 : Int32) : Prop := post s0 h
set_option maxHeartbeats 4000000 in
set_option maxRecDepth 100000 in
theorem wk_S_breakRings_89 {p : Program} {l : Launch} {e : Env} {s : State} {m : MethodId} {args : Array Value} {below : List Frame} {meth : Method} {c : Code} {g : Gm} {post : Int32 → Hp → Prop} {mc ms : Nat} (C0 : Cx g p s m args c prog_1_method_21_code 5 "SegmentLocks") (hr : meth.sig.returnType = (some .int)) (hlk : meth.locks = false) : ∀ (h : Hp) (kc ks : Nat) (s0 : Int32) (H : Heap) (locs : List Loc) (ls : Array Slot), wp_S_breakRings_89 g post mc ms h kc ks s0 → GH g h H → va_S (gA g) s.heap H locs → kc ≤ mc ∧ ks ≤ ms → lv_has ls 5 [] → W p l e (rmm 9 240 mc ms) s m args below meth c H locs kc ks (MQ below (va_Qi post (gS g) (gA g)) args s mc ms (gA g)) (F0 m 89 ls [.int s0]) := by
  obtain ⟨hx, hb, -, hown, hts, hgk⟩ := id C0
  intro h kc ks s0 H locs ls hw hG hS hkc hl
  unfold wp_S_breakRings_89 at hw
  exact re_i C0 hG hS hr hlk hkc hw dd_S_breakRings_89
def wp_S_breakRings_66 (g : Gm) (post : Int32 → Hp → Prop) (mc ms : Nat) (h : Hp) (kc ks : Nat) (v1 : Nat) (v2 : Int32) : Prop := hK h v1 = 4 ∧ (((hI h v1 12) = v2 → hK h v1 = 4 ∧ ((¬ (hI h v1 9) = 1 → wp_S_breakRings_89 g post mc ms h kc ks 1) ∧ ((hI h v1 9) = 1 → wp_S_breakRings_89 g post mc ms h kc ks 0))) ∧ (¬ (hI h v1 12) = v2 → post (-1) h))
set_option maxHeartbeats 4000000 in
set_option maxRecDepth 100000 in
theorem wk_S_breakRings_66 {p : Program} {l : Launch} {e : Env} {s : State} {m : MethodId} {args : Array Value} {below : List Frame} {meth : Method} {c : Code} {g : Gm} {post : Int32 → Hp → Prop} {mc ms : Nat} (C0 : Cx g p s m args c prog_1_method_21_code 5 "SegmentLocks") (hr : meth.sig.returnType = (some .int)) (hlk : meth.locks = false) : ∀ (h : Hp) (kc ks : Nat) (v1 : Nat) (v2 : Int32) (H : Heap) (locs : List Loc) (ls : Array Slot), wp_S_breakRings_66 g post mc ms h kc ks v1 v2 → GH g h H → va_S (gA g) s.heap H locs → kc ≤ mc ∧ ks ≤ ms → lv_has ls 5 [(1, .ref v1), (2, .int v2)] → W p l e (rmm 9 240 mc ms) s m args below meth c H locs kc ks (MQ below (va_Qi post (gS g) (gA g)) args s mc ms (gA g)) (F0 m 66 ls []) := by
  obtain ⟨hx, hb, -, hown, hts, hgk⟩ := id C0
  intro h kc ks v1 v2 H locs ls hw hG hS hkc hl
  unfold wp_S_breakRings_66 at hw
  refine lv_aload_n hx hb dd_S_breakRings_66 rfl (lv_at hl 0 rfl) ?_
  obtain ⟨k1, hw⟩ := hw
  refine gf_S_137 C0 hG k1 dd_S_breakRings_67 ?_
  refine lv_iload_n hx hb dd_S_breakRings_70 rfl (lv_at hl 1 rfl) ?_
  refine lv_icmp_eq (tgt := 76) hx hb dd_S_breakRings_71 (by decide) (fun c2 => ?_) (fun c2 => ?_)
  · replace hw := hw.1 c2
    refine lv_aload_n hx hb dd_S_breakRings_76 rfl (lv_at hl 0 rfl) ?_
    obtain ⟨k3, hw⟩ := hw
    refine gf_S_63 C0 hG k3 dd_S_breakRings_77 ?_
    refine lv_iconst (v := 1) hx hb dd_S_breakRings_80 (by decide) ?_
    refine lv_icmp_ne (tgt := 88) hx hb dd_S_breakRings_81 (by decide) (fun c4 => ?_) (fun c4 => ?_)
    · replace hw := hw.1 c4
      refine lv_iconst (v := 1) hx hb dd_S_breakRings_88 (by decide) ?_
      exact wk_S_breakRings_89 C0 hr hlk _ _ _ _ _ _ _ hw hG hS hkc (lv_sub hl [] rfl)
    · replace hw := hw.2 c4
      refine lv_iconst (v := 0) hx hb dd_S_breakRings_84 (by decide) ?_
      refine lv_goto (tgt := 89) hx hb dd_S_breakRings_85 (by decide) ?_
      exact wk_S_breakRings_89 C0 hr hlk _ _ _ _ _ _ _ hw hG hS hkc (lv_sub hl [] rfl)
  · replace hw := hw.2 c2
    refine lv_iconst (v := (-1)) hx hb dd_S_breakRings_74 (by decide) ?_
    exact re_i C0 hG hS hr hlk hkc hw dd_S_breakRings_75
def wp_S_breakRings_7 (g : Gm) (post : Int32 → Hp → Prop) (mc ms : Nat) : Nat → Hp → Nat → Nat → Nat → Nat → Int32 → Int32 → Prop
  | 0, _, _, _, _, _, _, _ => False
  | fu + 1, h, kc, ks, v0, v1, v2, v3 => ((30 ≤ v3 → wp_S_breakRings_66 g post mc ms h kc ks v1 v2) ∧ (¬ 30 ≤ v3 → hK h v0 = 1 ∧ ∃ a3 : Nat, hR h v0 3 = some a3 ∧ hK h v0 = 1 ∧ ∃ a5 : Nat, hR h v0 1 = some a5 ∧ hK h v0 = 1 ∧ ∃ a7 : Nat, hR h v0 2 = some a7 ∧ hK h a3 = 3 ∧ ∃ mc11 ms12 : Nat, kc + mc11 ≤ mc ∧ ks + ms12 ≤ ms ∧ wp_G_search g (fun x10 h9 => ((x10 = 0 → wp_S_breakRings_66 g post mc ms h9 (kc + mc11) (ks + ms12) v1 v2) ∧ (¬ x10 = 0 → hK h9 v0 = 1 ∧ ∃ a15 : Nat, hR h9 v0 3 = some a15 ∧ hK h9 a15 = 3 ∧ wp_G_youngest g (fun r18 => ∃ a19 : Nat, r18 = some a19 ∧ hK h9 a19 = 4 ∧ ∀ x21 : Int32, x21 = (hI h9 a19 12) + 1 → hK h9 a19 = 4 ∧ ∀ h23 : Hp, h23 = sI h9 a19 12 x21 → hK h23 v0 = 1 ∧ wp_S_letGo g (fun h25 => ∀ x26 : Int32, x26 = v3 + 1 → wp_S_breakRings_7 g post mc ms fu h25 (kc + mc11) (ks + ms12) v0 v1 v2 x26) h23 v0 a19 0) h9 a15 v1))) mc11 ms12 h a3 a5 a7 v1))
set_option maxHeartbeats 4000000 in
set_option maxRecDepth 100000 in
theorem wk_S_breakRings_7 {p : Program} {l : Launch} {e : Env} {s : State} {m : MethodId} {args : Array Value} {below : List Frame} {meth : Method} {c : Code} {g : Gm} {post : Int32 → Hp → Prop} {mc ms : Nat} (C0 : Cx g p s m args c prog_1_method_21_code 5 "SegmentLocks") (hr : meth.sig.returnType = (some .int)) (hlk : meth.locks = false) : ∀ n : Nat, ∀ (h : Hp) (kc ks : Nat) (v0 : Nat) (v1 : Nat) (v2 : Int32) (v3 : Int32) (H : Heap) (locs : List Loc) (ls : Array Slot), wp_S_breakRings_7 g post mc ms n h kc ks v0 v1 v2 v3 → GH g h H → va_S (gA g) s.heap H locs → kc ≤ mc ∧ ks ≤ ms → lv_has ls 5 [(0, .ref v0), (1, .ref v1), (2, .int v2), (3, .int v3)] → W p l e (rmm 9 240 mc ms) s m args below meth c H locs kc ks (MQ below (va_Qi post (gS g) (gA g)) args s mc ms (gA g)) (F0 m 7 ls []) := by
  obtain ⟨hx, hb, -, hown, hts, hgk⟩ := id C0
  intro n
  induction n with
  | zero =>
    intro h kc ks v0 v1 v2 v3 H locs ls hw hG hS hkc hl
    exact hw.elim
  | succ n ih =>
    intro h kc ks v0 v1 v2 v3 H locs ls hw hG hS hkc hl
    unfold wp_S_breakRings_7 at hw
    refine lv_iload_n hx hb dd_S_breakRings_7 rfl (lv_at hl 3 rfl) ?_
    refine lv_bipush (v := 30) hx hb dd_S_breakRings_8 (by decide) ?_
    refine lv_icmp_ge (tgt := 66) hx hb dd_S_breakRings_10 (by decide) (fun c1 => ?_) (fun c1 => ?_)
    · replace hw := hw.1 c1
      exact wk_S_breakRings_66 C0 hr hlk _ _ _ _ _ _ _ _ hw hG hS hkc (lv_sub hl [1, 2] rfl)
    · replace hw := hw.2 c1
      refine lv_aload_n hx hb dd_S_breakRings_13 rfl (lv_at hl 0 rfl) ?_
      obtain ⟨k2, a3, ea3, hw⟩ := hw
      refine gf_S_30 C0 hG k2 ea3 dd_S_breakRings_14 ?_
      refine lv_aload_n hx hb dd_S_breakRings_17 rfl (lv_at hl 0 rfl) ?_
      obtain ⟨k4, a5, ea5, hw⟩ := hw
      refine gf_S_16 C0 hG k4 ea5 dd_S_breakRings_18 ?_
      refine lv_aload_n hx hb dd_S_breakRings_21 rfl (lv_at hl 0 rfl) ?_
      obtain ⟨k6, a7, ea7, hw⟩ := hw
      refine gf_S_23 C0 hG k6 ea7 dd_S_breakRings_22 ?_
      refine lv_aload_n hx hb dd_S_breakRings_25 rfl (lv_at hl 1 rfl) ?_
      obtain ⟨k8, hw⟩ := hw
      obtain ⟨mc11, ms12, hc1, hc2, hw⟩ := hw
      refine ca_i hS (rn_V C0 hG hS (c_G_search l g _ mc11 ms12 h a3 a5 a7 v1 hw) (ci := 2) k8 (by decide) rfl rfl (host := "SegmentLocks") (nest := true) (n := 3) (As := [.ref a5, .ref a7, .ref v1]) (rest := []) km_275 km_274 km_276 km_277 km_43 ⟨by decide, by decide, by decide +kernel⟩ ⟨Nat.le_of_ble_eq_true rfl, Nat.le_of_ble_eq_true rfl⟩ rfl hl.1 rfl (Nat.le_of_ble_eq_true rfl) dd_S_breakRings_26 ⟨hc1, hc2⟩) (fun x10 h9 H locs hw hG hS => ?_)
      have hkc := And.intro hc1 hc2
      refine lv_if_eq (tgt := 66) hx hb dd_S_breakRings_29 (by decide) (fun c13 => ?_) (fun c13 => ?_)
      · replace hw := hw.1 c13
        exact wk_S_breakRings_66 C0 hr hlk _ _ _ _ _ _ _ _ hw hG hS hkc (lv_sub hl [1, 2] rfl)
      · replace hw := hw.2 c13
        refine lv_aload_n hx hb dd_S_breakRings_32 rfl (lv_at hl 0 rfl) ?_
        obtain ⟨k14, a15, ea15, hw⟩ := hw
        refine gf_S_30 C0 hG k14 ea15 dd_S_breakRings_33 ?_
        refine lv_aload_n hx hb dd_S_breakRings_36 rfl (lv_at hl 1 rfl) ?_
        obtain ⟨k16, hw⟩ := hw
        have hw0 := hw
        clear hw
        refine cs_q (rn_V C0 hG hS (c_G_youngest l g _ h9 a15 v1 hw0) (ci := 2) k16 (by decide) rfl rfl (host := "SegmentLocks") (nest := true) (n := 1) (As := [.ref v1]) (rest := []) km_271 km_270 km_272 km_273 km_43 ⟨by decide, by decide, by decide +kernel⟩ ⟨Nat.le_of_ble_eq_true rfl, Nat.le_of_ble_eq_true rfl⟩ rfl hl.1 rfl (Nat.le_of_ble_eq_true rfl) dd_S_breakRings_37 hkc) (fun r18 hw => ?_)
        have hl0 := hl
        clear hl
        refine px_astoreq (lv' := [(4, va_rf r18), (0, .ref v0), (1, .ref v1), (2, .int v2), (3, .int v3)]) hx hb dd_S_breakRings_40 hl0 (by decide) rfl (fun ls hl => ?_)
        refine px_aloadq hx hb dd_S_breakRings_42 (lv_at hl 0 rfl) ?_
        obtain ⟨a19, rfl, hw⟩ := hw
        replace hl : lv_has ls 5 [(4, .ref a19), (0, .ref v0), (1, .ref v1), (2, .int v2), (3, .int v3)] := hl
        refine lv_dup hx hb dd_S_breakRings_44 rfl ?_
        obtain ⟨k20, hw⟩ := hw
        refine gf_S_137 C0 hG k20 dd_S_breakRings_45 ?_
        refine lv_iconst (v := 1) hx hb dd_S_breakRings_48 (by decide) ?_
        refine lv_iadd hx hb dd_S_breakRings_49 ?_
        refine lv_topi (fun x21 ex21 => ?_)
        replace hw := hw x21 ex21
        obtain ⟨k22, hw⟩ := hw
        refine pf_S_137 C0 hG hS k22 dd_S_breakRings_50 (fun H locs hG hS => ?_)
        replace hw := hw _ rfl
        generalize sI h9 a19 12 x21 = h23 at hw hG
        refine lv_aload_n hx hb dd_S_breakRings_53 rfl (lv_at hl 1 rfl) ?_
        refine lv_aload hx hb dd_S_breakRings_54 (lv_at hl 0 rfl) ?_
        refine lv_iconst (v := 0) hx hb dd_S_breakRings_56 (by decide) ?_
        obtain ⟨k24, hw⟩ := hw
        refine ca_v hS (rn_V C0 hG hS (c_S_letGo l g _ h23 v0 a19 0 hw) (ci := 0) k24 (by decide) rfl rfl (host := "") (nest := false) (n := 2) (As := [.ref a19, .int 0]) (rest := []) km_267 km_266 km_268 km_269 km_176 ⟨by decide, by decide, by decide +kernel⟩ ⟨Nat.le_of_ble_eq_true rfl, Nat.le_of_ble_eq_true rfl⟩ rfl hl.1 rfl (Nat.le_of_ble_eq_true rfl) dd_S_breakRings_57 hkc) (fun h25 H locs hw hG hS => ?_)
        obtain ⟨x26, ex26⟩ : ∃ y : Int32, y = v3 + 1 := ⟨_, rfl⟩
        replace hw := hw x26 ex26
        have hl0 := hl
        clear hl
        refine lv_iinc (v := x26) (lv' := [(3, .int x26), (4, .ref a19), (0, .ref v0), (1, .ref v1), (2, .int v2)]) hx hb dd_S_breakRings_60 hl0 (k := 4) rfl (by rw [ex26]; rfl) (by decide) rfl (fun ls hl => ?_)
        refine lv_goto (tgt := 7) hx hb dd_S_breakRings_63 (by decide) ?_
        exact ih _ _ _ _ _ _ _ _ _ _ hw hG hS hkc (lv_sub hl [2, 3, 4, 0] rfl)
def wp_S_breakRings (g : Gm) (post : Int32 → Hp → Prop) (mc ms : Nat) (h : Hp) (a0 : Nat) (b1 : Nat) : Prop := hK h b1 = 4 ∧ ∃ n : Nat, wp_S_breakRings_7 g post mc ms n h 0 0 a0 b1 (hI h b1 12) 0
set_option maxHeartbeats 4000000 in
set_option maxRecDepth 100000 in
theorem c_S_breakRings (l : Launch) (g : Gm) (post : Int32 → Hp → Prop) (mc ms : Nat) (h : Hp) (a0 : Nat) (b1 : Nat) (hw : wp_S_breakRings g post mc ms h a0 b1) : Met l (⟨"SegmentLocks", "breakRings", "(LSegmentLocks$Task;)I"⟩ : MethodName) (ww (⟨"SegmentLocks", "breakRings", "(LSegmentLocks$Task;)I"⟩ : MethodName) prog_1_method_21_code 5 (some .int)) (rmm 9 240 mc ms) (va_Pc [.ref a0, .ref b1] (gS g h)) (va_Qi post (gS g) (gA g)) mc ms (gA g) := by
  first | refine en_met (by decide) ?_ | refine en_metF (by decide) ?_
  intro p e s m below meth c C0 hr hlk hin hG
  have hS : va_S (gA g) s.heap s.heap [] := va_S.rf
  have hl := lv_entry ([.ref a0, .ref b1]) (n := 5) (Nat.le_of_ble_eq_true rfl)
  rw [lg_entry_eq]
  generalize (lg_sl ([.ref a0, .ref b1]) ++ List.replicate (5 - (lg_sl ([.ref a0, .ref b1])).length) Slot.unset).toArray = ls at hl ⊢
  replace hl : lv_has ls 5 [(0, .ref a0), (1, .ref b1)] := hl
  obtain ⟨hx, hb, -, hown, hts, hgk⟩ := id C0
  have hkc : 0 ≤ mc ∧ 0 ≤ ms := ⟨Nat.zero_le _, Nat.zero_le _⟩
  unfold wp_S_breakRings at hw
  refine lv_aload_n hx hb dd_S_breakRings_0 rfl (lv_at hl 1 rfl) ?_
  obtain ⟨k1, hw⟩ := hw
  refine gf_S_137 C0 hG k1 dd_S_breakRings_1 ?_
  have hl0 := hl
  clear hl
  refine lv_istore_n (lv' := [(2, .int (hI h b1 12)), (0, .ref a0), (1, .ref b1)]) hx hb dd_S_breakRings_4 rfl hl0 (by decide) rfl (fun ls hl => ?_)
  refine lv_iconst (v := 0) hx hb dd_S_breakRings_5 (by decide) ?_
  have hl0 := hl
  clear hl
  refine lv_istore_n (lv' := [(3, .int 0), (2, .int (hI h b1 12)), (0, .ref a0), (1, .ref b1)]) hx hb dd_S_breakRings_6 rfl hl0 (by decide) rfl (fun ls hl => ?_)
  obtain ⟨n, hw⟩ := hw
  exact wk_S_breakRings_7 C0 hr hlk n _ _ _ _ _ _ _ _ _ _ hw hG hS hkc (lv_sub hl [2, 3, 1, 0] rfl)
/-! SegmentLocks.askForLock(LSegmentLocks$Task;II)I -/
theorem dd_S_askForLock_0 : decode prog_1_method_19_code 0 = .ok (.aload_n 1, 1) := by decide +kernel
theorem dd_S_askForLock_1 : decode prog_1_method_19_code 1 = .ok (.getfield 74, 3) := by decide +kernel
theorem dd_S_askForLock_4 : decode prog_1_method_19_code 4 = .ok (.iload_n 2, 1) := by decide +kernel
theorem dd_S_askForLock_5 : decode prog_1_method_19_code 5 = .ok (.iaload, 1) := by decide +kernel
theorem dd_S_askForLock_6 : decode prog_1_method_19_code 6 = .ok (.istore 4, 2) := by decide +kernel
theorem dd_S_askForLock_8 : decode prog_1_method_19_code 8 = .ok (.iload_n 3, 1) := by decide +kernel
theorem dd_S_askForLock_9 : decode prog_1_method_19_code 9 = .ok (.iload 4, 2) := by decide +kernel
theorem dd_S_askForLock_11 : decode prog_1_method_19_code 11 = .ok (.if_icmp .gt 5, 3) := by decide +kernel
theorem dd_S_askForLock_14 : decode prog_1_method_19_code 14 = .ok (.iconst 1, 1) := by decide +kernel
theorem dd_S_askForLock_15 : decode prog_1_method_19_code 15 = .ok (.ireturn, 1) := by decide +kernel
theorem dd_S_askForLock_16 : decode prog_1_method_19_code 16 = .ok (.iload 4, 2) := by decide +kernel
theorem dd_S_askForLock_18 : decode prog_1_method_19_code 18 = .ok (.iconst (-1), 1) := by decide +kernel
theorem dd_S_askForLock_19 : decode prog_1_method_19_code 19 = .ok (.if_icmp .ne 30, 3) := by decide +kernel
theorem dd_S_askForLock_22 : decode prog_1_method_19_code 22 = .ok (.aload_n 0, 1) := by decide +kernel
theorem dd_S_askForLock_23 : decode prog_1_method_19_code 23 = .ok (.getfield 34, 3) := by decide +kernel
theorem dd_S_askForLock_26 : decode prog_1_method_19_code 26 = .ok (.ifCond .le 23, 3) := by decide +kernel
theorem dd_S_askForLock_29 : decode prog_1_method_19_code 29 = .ok (.aload_n 1, 1) := by decide +kernel
theorem dd_S_askForLock_30 : decode prog_1_method_19_code 30 = .ok (.getfield 125, 3) := by decide +kernel
theorem dd_S_askForLock_33 : decode prog_1_method_19_code 33 = .ok (.aload_n 0, 1) := by decide +kernel
theorem dd_S_askForLock_34 : decode prog_1_method_19_code 34 = .ok (.getfield 34, 3) := by decide +kernel
theorem dd_S_askForLock_37 : decode prog_1_method_19_code 37 = .ok (.if_icmp .lt 12, 3) := by decide +kernel
theorem dd_S_askForLock_40 : decode prog_1_method_19_code 40 = .ok (.aload_n 0, 1) := by decide +kernel
theorem dd_S_askForLock_41 : decode prog_1_method_19_code 41 = .ok (.aload_n 1, 1) := by decide +kernel
theorem dd_S_askForLock_42 : decode prog_1_method_19_code 42 = .ok (.iconst 2, 1) := by decide +kernel
theorem dd_S_askForLock_43 : decode prog_1_method_19_code 43 = .ok (.invokevirtual 117, 3) := by decide +kernel
theorem dd_S_askForLock_46 : decode prog_1_method_19_code 46 = .ok (.bipush (-3), 2) := by decide +kernel
theorem dd_S_askForLock_48 : decode prog_1_method_19_code 48 = .ok (.ireturn, 1) := by decide +kernel
theorem dd_S_askForLock_49 : decode prog_1_method_19_code 49 = .ok (.iload 4, 2) := by decide +kernel
theorem dd_S_askForLock_51 : decode prog_1_method_19_code 51 = .ok (.iconst (-1), 1) := by decide +kernel
theorem dd_S_askForLock_52 : decode prog_1_method_19_code 52 = .ok (.if_icmp .ne 14, 3) := by decide +kernel
theorem dd_S_askForLock_55 : decode prog_1_method_19_code 55 = .ok (.aload_n 0, 1) := by decide +kernel
theorem dd_S_askForLock_56 : decode prog_1_method_19_code 56 = .ok (.getfield 23, 3) := by decide +kernel
theorem dd_S_askForLock_59 : decode prog_1_method_19_code 59 = .ok (.iload_n 2, 1) := by decide +kernel
theorem dd_S_askForLock_60 : decode prog_1_method_19_code 60 = .ok (.invokevirtual 147, 3) := by decide +kernel
theorem dd_S_askForLock_63 : decode prog_1_method_19_code 63 = .ok (.ifnonnull 7, 3) := by decide +kernel
theorem dd_S_askForLock_66 : decode prog_1_method_19_code 66 = .ok (.iconst 1, 1) := by decide +kernel
theorem dd_S_askForLock_67 : decode prog_1_method_19_code 67 = .ok (.goto 4, 3) := by decide +kernel
theorem dd_S_askForLock_70 : decode prog_1_method_19_code 70 = .ok (.iconst 0, 1) := by decide +kernel
theorem dd_S_askForLock_71 : decode prog_1_method_19_code 71 = .ok (.istore 5, 2) := by decide +kernel
theorem dd_S_askForLock_73 : decode prog_1_method_19_code 73 = .ok (.iload 5, 2) := by decide +kernel
theorem dd_S_askForLock_75 : decode prog_1_method_19_code 75 = .ok (.ifCond .eq 21, 3) := by decide +kernel
theorem dd_S_askForLock_78 : decode prog_1_method_19_code 78 = .ok (.aload_n 0, 1) := by decide +kernel
theorem dd_S_askForLock_79 : decode prog_1_method_19_code 79 = .ok (.aload_n 1, 1) := by decide +kernel
theorem dd_S_askForLock_80 : decode prog_1_method_19_code 80 = .ok (.iload_n 2, 1) := by decide +kernel
theorem dd_S_askForLock_81 : decode prog_1_method_19_code 81 = .ok (.iload_n 3, 1) := by decide +kernel
theorem dd_S_askForLock_82 : decode prog_1_method_19_code 82 = .ok (.invokevirtual 150, 3) := by decide +kernel
theorem dd_S_askForLock_85 : decode prog_1_method_19_code 85 = .ok (.ifCond .eq 11, 3) := by decide +kernel
theorem dd_S_askForLock_88 : decode prog_1_method_19_code 88 = .ok (.aload_n 1, 1) := by decide +kernel
theorem dd_S_askForLock_89 : decode prog_1_method_19_code 89 = .ok (.iload_n 2, 1) := by decide +kernel
theorem dd_S_askForLock_90 : decode prog_1_method_19_code 90 = .ok (.iload_n 3, 1) := by decide +kernel
theorem dd_S_askForLock_91 : decode prog_1_method_19_code 91 = .ok (.invokevirtual 154, 3) := by decide +kernel
theorem dd_S_askForLock_94 : decode prog_1_method_19_code 94 = .ok (.iconst 1, 1) := by decide +kernel
theorem dd_S_askForLock_95 : decode prog_1_method_19_code 95 = .ok (.ireturn, 1) := by decide +kernel
theorem dd_S_askForLock_96 : decode prog_1_method_19_code 96 = .ok (.aload_n 1, 1) := by decide +kernel
theorem dd_S_askForLock_97 : decode prog_1_method_19_code 97 = .ok (.iconst 1, 1) := by decide +kernel
theorem dd_S_askForLock_98 : decode prog_1_method_19_code 98 = .ok (.putfield 63, 3) := by decide +kernel
theorem dd_S_askForLock_101 : decode prog_1_method_19_code 101 = .ok (.aload_n 1, 1) := by decide +kernel
theorem dd_S_askForLock_102 : decode prog_1_method_19_code 102 = .ok (.iload_n 2, 1) := by decide +kernel
theorem dd_S_askForLock_103 : decode prog_1_method_19_code 103 = .ok (.putfield 140, 3) := by decide +kernel
theorem dd_S_askForLock_106 : decode prog_1_method_19_code 106 = .ok (.aload_n 1, 1) := by decide +kernel
theorem dd_S_askForLock_107 : decode prog_1_method_19_code 107 = .ok (.iload_n 3, 1) := by decide +kernel
theorem dd_S_askForLock_108 : decode prog_1_method_19_code 108 = .ok (.putfield 157, 3) := by decide +kernel
theorem dd_S_askForLock_111 : decode prog_1_method_19_code 111 = .ok (.aload_n 0, 1) := by decide +kernel
theorem dd_S_askForLock_112 : decode prog_1_method_19_code 112 = .ok (.getfield 23, 3) := by decide +kernel
theorem dd_S_askForLock_115 : decode prog_1_method_19_code 115 = .ok (.aload_n 1, 1) := by decide +kernel
theorem dd_S_askForLock_116 : decode prog_1_method_19_code 116 = .ok (.invokevirtual 160, 3) := by decide +kernel
theorem dd_S_askForLock_119 : decode prog_1_method_19_code 119 = .ok (.aload_n 0, 1) := by decide +kernel
theorem dd_S_askForLock_120 : decode prog_1_method_19_code 120 = .ok (.aload_n 1, 1) := by decide +kernel
theorem dd_S_askForLock_121 : decode prog_1_method_19_code 121 = .ok (.invokevirtual 163, 3) := by decide +kernel
theorem dd_S_askForLock_124 : decode prog_1_method_19_code 124 = .ok (.ireturn, 1) := by decide +kernel
def wp_S_askForLock_96 (g : Gm) (post : Int32 → Hp → Prop) (mc ms : Nat) (h : Hp) (kc ks : Nat) (v0 : Nat) (v1 : Nat) (v2 : Int32) (v3 : Int32) : Prop := hK h v1 = 4 ∧ ∀ h2 : Hp, h2 = sI h v1 9 1 → hK h2 v1 = 4 ∧ ∀ h4 : Hp, h4 = sI h2 v1 13 v2 → hK h4 v1 = 4 ∧ ∀ h6 : Hp, h6 = sI h4 v1 14 v3 → hK h6 v0 = 1 ∧ ∃ a8 : Nat, hR h6 v0 2 = some a8 ∧ hK h6 a8 = 2 ∧ ∃ mc11 ms12 : Nat, kc + mc11 ≤ mc ∧ ks + ms12 ≤ ms ∧ wp_W_enter g (fun h10 => hK h10 v0 = 1 ∧ ∃ mc16 ms17 : Nat, (kc + mc11) + mc16 ≤ mc ∧ (ks + ms12) + ms17 ≤ ms ∧ wp_S_breakRings g (fun x15 h14 => post x15 h14) mc16 ms17 h10 v0 v1) mc11 ms12 h6 a8 v1
set_option maxHeartbeats 4000000 in
set_option maxRecDepth 100000 in
theorem wk_S_askForLock_96 {p : Program} {l : Launch} {e : Env} {s : State} {m : MethodId} {args : Array Value} {below : List Frame} {meth : Method} {c : Code} {g : Gm} {post : Int32 → Hp → Prop} {mc ms : Nat} (C0 : Cx g p s m args c prog_1_method_19_code 6 "SegmentLocks") (hr : meth.sig.returnType = (some .int)) (hlk : meth.locks = false) : ∀ (h : Hp) (kc ks : Nat) (v0 : Nat) (v1 : Nat) (v2 : Int32) (v3 : Int32) (H : Heap) (locs : List Loc) (ls : Array Slot), wp_S_askForLock_96 g post mc ms h kc ks v0 v1 v2 v3 → GH g h H → va_S (gA g) s.heap H locs → kc ≤ mc ∧ ks ≤ ms → lv_has ls 6 [(0, .ref v0), (1, .ref v1), (2, .int v2), (3, .int v3)] → W p l e (rmm 10 264 mc ms) s m args below meth c H locs kc ks (MQ below (va_Qi post (gS g) (gA g)) args s mc ms (gA g)) (F0 m 96 ls []) := by
  obtain ⟨hx, hb, -, hown, hts, hgk⟩ := id C0
  intro h kc ks v0 v1 v2 v3 H locs ls hw hG hS hkc hl
  unfold wp_S_askForLock_96 at hw
  refine lv_aload_n hx hb dd_S_askForLock_96 rfl (lv_at hl 1 rfl) ?_
  refine lv_iconst (v := 1) hx hb dd_S_askForLock_97 (by decide) ?_
  obtain ⟨k1, hw⟩ := hw
  refine pf_S_63 C0 hG hS k1 dd_S_askForLock_98 (fun H locs hG hS => ?_)
  replace hw := hw _ rfl
  generalize sI h v1 9 1 = h2 at hw hG
  refine lv_aload_n hx hb dd_S_askForLock_101 rfl (lv_at hl 1 rfl) ?_
  refine lv_iload_n hx hb dd_S_askForLock_102 rfl (lv_at hl 2 rfl) ?_
  obtain ⟨k3, hw⟩ := hw
  refine pf_S_140 C0 hG hS k3 dd_S_askForLock_103 (fun H locs hG hS => ?_)
  replace hw := hw _ rfl
  generalize sI h2 v1 13 v2 = h4 at hw hG
  refine lv_aload_n hx hb dd_S_askForLock_106 rfl (lv_at hl 1 rfl) ?_
  refine lv_iload_n hx hb dd_S_askForLock_107 rfl (lv_at hl 3 rfl) ?_
  obtain ⟨k5, hw⟩ := hw
  refine pf_S_157 C0 hG hS k5 dd_S_askForLock_108 (fun H locs hG hS => ?_)
  replace hw := hw _ rfl
  generalize sI h4 v1 14 v3 = h6 at hw hG
  refine lv_aload_n hx hb dd_S_askForLock_111 rfl (lv_at hl 0 rfl) ?_
  obtain ⟨k7, a8, ea8, hw⟩ := hw
  refine gf_S_23 C0 hG k7 ea8 dd_S_askForLock_112 ?_
  refine lv_aload_n hx hb dd_S_askForLock_115 rfl (lv_at hl 1 rfl) ?_
  obtain ⟨k9, hw⟩ := hw
  obtain ⟨mc11, ms12, hc1, hc2, hw⟩ := hw
  refine ca_v hS (rn_V C0 hG hS (c_W_enter l g _ mc11 ms12 h6 a8 v1 hw) (ci := 1) k9 (by decide) rfl rfl (host := "SegmentLocks") (nest := true) (n := 1) (As := [.ref v1]) (rest := []) km_284 km_283 km_285 km_286 km_39 ⟨by decide, by decide, by decide +kernel⟩ ⟨Nat.le_of_ble_eq_true rfl, Nat.le_of_ble_eq_true rfl⟩ rfl hl.1 rfl (Nat.le_of_ble_eq_true rfl) dd_S_askForLock_116 ⟨hc1, hc2⟩) (fun h10 H locs hw hG hS => ?_)
  have hkc := And.intro hc1 hc2
  refine lv_aload_n hx hb dd_S_askForLock_119 rfl (lv_at hl 0 rfl) ?_
  refine lv_aload_n hx hb dd_S_askForLock_120 rfl (lv_at hl 1 rfl) ?_
  obtain ⟨k13, hw⟩ := hw
  obtain ⟨mc16, ms17, hc1, hc2, hw⟩ := hw
  refine ca_i hS (rn_V C0 hG hS (c_S_breakRings l g _ mc16 ms17 h10 v0 v1 hw) (ci := 0) k13 (by decide) rfl rfl (host := "") (nest := false) (n := 1) (As := [.ref v1]) (rest := []) km_280 km_279 km_281 km_282 km_176 ⟨by decide, by decide, by decide +kernel⟩ ⟨Nat.le_of_ble_eq_true rfl, Nat.le_of_ble_eq_true rfl⟩ rfl hl.1 rfl (Nat.le_of_ble_eq_true rfl) dd_S_askForLock_121 ⟨hc1, hc2⟩) (fun x15 h14 H locs hw hG hS => ?_)
  have hkc := And.intro hc1 hc2
  exact re_i C0 hG hS hr hlk hkc hw dd_S_askForLock_124
def wp_S_askForLock_71 (g : Gm) (post : Int32 → Hp → Prop) (mc ms : Nat) (h : Hp) (kc ks : Nat) (v0 : Nat) (v1 : Nat) (v2 : Int32) (v3 : Int32) (s0 : Int32) : Prop := ((s0 = 0 → wp_S_askForLock_96 g post mc ms h kc ks v0 v1 v2 v3) ∧ (¬ s0 = 0 → hK h v0 = 1 ∧ wp_S_canHave g (fun x4 => ((x4 = 0 → wp_S_askForLock_96 g post mc ms h kc ks v0 v1 v2 v3) ∧ (¬ x4 = 0 → hK h v1 = 4 ∧ wp_T_take g (fun h7 => post 1 h7) h v1 v2 v3))) h v0 v1 v2 v3))
set_option maxHeartbeats 4000000 in
set_option maxRecDepth 100000 in
theorem wk_S_askForLock_71 {p : Program} {l : Launch} {e : Env} {s : State} {m : MethodId} {args : Array Value} {below : List Frame} {meth : Method} {c : Code} {g : Gm} {post : Int32 → Hp → Prop} {mc ms : Nat} (C0 : Cx g p s m args c prog_1_method_19_code 6 "SegmentLocks") (hr : meth.sig.returnType = (some .int)) (hlk : meth.locks = false) : ∀ (h : Hp) (kc ks : Nat) (v0 : Nat) (v1 : Nat) (v2 : Int32) (v3 : Int32) (s0 : Int32) (H : Heap) (locs : List Loc) (ls : Array Slot), wp_S_askForLock_71 g post mc ms h kc ks v0 v1 v2 v3 s0 → GH g h H → va_S (gA g) s.heap H locs → kc ≤ mc ∧ ks ≤ ms → lv_has ls 6 [(0, .ref v0), (1, .ref v1), (2, .int v2), (3, .int v3)] → W p l e (rmm 10 264 mc ms) s m args below meth c H locs kc ks (MQ below (va_Qi post (gS g) (gA g)) args s mc ms (gA g)) (F0 m 71 ls [.int s0]) := by
  obtain ⟨hx, hb, -, hown, hts, hgk⟩ := id C0
  intro h kc ks v0 v1 v2 v3 s0 H locs ls hw hG hS hkc hl
  unfold wp_S_askForLock_71 at hw
  have hl0 := hl
  clear hl
  refine lv_istore (lv' := [(5, .int s0), (0, .ref v0), (1, .ref v1), (2, .int v2), (3, .int v3)]) hx hb dd_S_askForLock_71 hl0 (by decide) rfl (fun ls hl => ?_)
  refine lv_iload hx hb dd_S_askForLock_73 (lv_at hl 0 rfl) ?_
  refine lv_if_eq (tgt := 96) hx hb dd_S_askForLock_75 (by decide) (fun c1 => ?_) (fun c1 => ?_)
  · replace hw := hw.1 c1
    exact wk_S_askForLock_96 C0 hr hlk _ _ _ _ _ _ _ _ _ _ hw hG hS hkc (lv_sub hl [1, 2, 3, 4] rfl)
  · replace hw := hw.2 c1
    refine lv_aload_n hx hb dd_S_askForLock_78 rfl (lv_at hl 1 rfl) ?_
    refine lv_aload_n hx hb dd_S_askForLock_79 rfl (lv_at hl 2 rfl) ?_
    refine lv_iload_n hx hb dd_S_askForLock_80 rfl (lv_at hl 3 rfl) ?_
    refine lv_iload_n hx hb dd_S_askForLock_81 rfl (lv_at hl 4 rfl) ?_
    obtain ⟨k2, hw⟩ := hw
    have hw0 := hw
    clear hw
    refine cs_i (rn_V C0 hG hS (c_S_canHave l g _ h v0 v1 v2 v3 hw0) (ci := 0) k2 (by decide) rfl rfl (host := "") (nest := false) (n := 3) (As := [.ref v1, .int v2, .int v3]) (rest := []) km_193 km_192 km_194 km_195 km_176 ⟨by decide, by decide, by decide +kernel⟩ ⟨Nat.le_of_ble_eq_true rfl, Nat.le_of_ble_eq_true rfl⟩ rfl hl.1 rfl (Nat.le_of_ble_eq_true rfl) dd_S_askForLock_82 hkc) (fun x4 hw => ?_)
    refine lv_if_eq (tgt := 96) hx hb dd_S_askForLock_85 (by decide) (fun c5 => ?_) (fun c5 => ?_)
    · replace hw := hw.1 c5
      exact wk_S_askForLock_96 C0 hr hlk _ _ _ _ _ _ _ _ _ _ hw hG hS hkc (lv_sub hl [1, 2, 3, 4] rfl)
    · replace hw := hw.2 c5
      refine lv_aload_n hx hb dd_S_askForLock_88 rfl (lv_at hl 2 rfl) ?_
      refine lv_iload_n hx hb dd_S_askForLock_89 rfl (lv_at hl 3 rfl) ?_
      refine lv_iload_n hx hb dd_S_askForLock_90 rfl (lv_at hl 4 rfl) ?_
      obtain ⟨k6, hw⟩ := hw
      refine ca_v hS (rn_V C0 hG hS (c_T_take l g _ h v1 v2 v3 hw) (ci := 3) k6 (by decide) rfl rfl (host := "SegmentLocks") (nest := true) (n := 2) (As := [.int v2, .int v3]) (rest := []) km_185 km_184 km_186 km_187 km_123 ⟨by decide, by decide, by decide +kernel⟩ ⟨Nat.le_of_ble_eq_true rfl, Nat.le_of_ble_eq_true rfl⟩ rfl hl.1 rfl (Nat.le_of_ble_eq_true rfl) dd_S_askForLock_91 hkc) (fun h7 H locs hw hG hS => ?_)
      refine lv_iconst (v := 1) hx hb dd_S_askForLock_94 (by decide) ?_
      exact re_i C0 hG hS hr hlk hkc hw dd_S_askForLock_95
def wp_S_askForLock_66 (g : Gm) (post : Int32 → Hp → Prop) (mc ms : Nat) (h : Hp) (kc ks : Nat) (v0 : Nat) (v1 : Nat) (v2 : Int32) (v3 : Int32) : Prop := wp_S_askForLock_71 g post mc ms h kc ks v0 v1 v2 v3 1
set_option maxHeartbeats 4000000 in
set_option maxRecDepth 100000 in
theorem wk_S_askForLock_66 {p : Program} {l : Launch} {e : Env} {s : State} {m : MethodId} {args : Array Value} {below : List Frame} {meth : Method} {c : Code} {g : Gm} {post : Int32 → Hp → Prop} {mc ms : Nat} (C0 : Cx g p s m args c prog_1_method_19_code 6 "SegmentLocks") (hr : meth.sig.returnType = (some .int)) (hlk : meth.locks = false) : ∀ (h : Hp) (kc ks : Nat) (v0 : Nat) (v1 : Nat) (v2 : Int32) (v3 : Int32) (H : Heap) (locs : List Loc) (ls : Array Slot), wp_S_askForLock_66 g post mc ms h kc ks v0 v1 v2 v3 → GH g h H → va_S (gA g) s.heap H locs → kc ≤ mc ∧ ks ≤ ms → lv_has ls 6 [(0, .ref v0), (1, .ref v1), (2, .int v2), (3, .int v3)] → W p l e (rmm 10 264 mc ms) s m args below meth c H locs kc ks (MQ below (va_Qi post (gS g) (gA g)) args s mc ms (gA g)) (F0 m 66 ls []) := by
  obtain ⟨hx, hb, -, hown, hts, hgk⟩ := id C0
  intro h kc ks v0 v1 v2 v3 H locs ls hw hG hS hkc hl
  unfold wp_S_askForLock_66 at hw
  refine lv_iconst (v := 1) hx hb dd_S_askForLock_66 (by decide) ?_
  refine lv_goto (tgt := 71) hx hb dd_S_askForLock_67 (by decide) ?_
  exact wk_S_askForLock_71 C0 hr hlk _ _ _ _ _ _ _ _ _ _ _ hw hG hS hkc (lv_sub hl [0, 1, 2, 3] rfl)
def wp_S_askForLock_49 (g : Gm) (post : Int32 → Hp → Prop) (mc ms : Nat) (h : Hp) (kc ks : Nat) (v0 : Nat) (v1 : Nat) (v2 : Int32) (v3 : Int32) (v4 : Int32) : Prop := ((¬ v4 = (-1) → wp_S_askForLock_66 g post mc ms h kc ks v0 v1 v2 v3) ∧ (v4 = (-1) → hK h v0 = 1 ∧ ∃ a3 : Nat, hR h v0 2 = some a3 ∧ hK h a3 = 2 ∧ wp_W_first g (fun r6 => ((r6 = none → wp_S_askForLock_66 g post mc ms h kc ks v0 v1 v2 v3) ∧ (∀ a7 : Nat, r6 = some a7 → wp_S_askForLock_71 g post mc ms h kc ks v0 v1 v2 v3 0))) h a3 v2))
set_option maxHeartbeats 4000000 in
set_option maxRecDepth 100000 in
theorem wk_S_askForLock_49 {p : Program} {l : Launch} {e : Env} {s : State} {m : MethodId} {args : Array Value} {below : List Frame} {meth : Method} {c : Code} {g : Gm} {post : Int32 → Hp → Prop} {mc ms : Nat} (C0 : Cx g p s m args c prog_1_method_19_code 6 "SegmentLocks") (hr : meth.sig.returnType = (some .int)) (hlk : meth.locks = false) : ∀ (h : Hp) (kc ks : Nat) (v0 : Nat) (v1 : Nat) (v2 : Int32) (v3 : Int32) (v4 : Int32) (H : Heap) (locs : List Loc) (ls : Array Slot), wp_S_askForLock_49 g post mc ms h kc ks v0 v1 v2 v3 v4 → GH g h H → va_S (gA g) s.heap H locs → kc ≤ mc ∧ ks ≤ ms → lv_has ls 6 [(0, .ref v0), (1, .ref v1), (2, .int v2), (3, .int v3), (4, .int v4)] → W p l e (rmm 10 264 mc ms) s m args below meth c H locs kc ks (MQ below (va_Qi post (gS g) (gA g)) args s mc ms (gA g)) (F0 m 49 ls []) := by
  obtain ⟨hx, hb, -, hown, hts, hgk⟩ := id C0
  intro h kc ks v0 v1 v2 v3 v4 H locs ls hw hG hS hkc hl
  unfold wp_S_askForLock_49 at hw
  refine lv_iload hx hb dd_S_askForLock_49 (lv_at hl 4 rfl) ?_
  refine lv_iconst (v := (-1)) hx hb dd_S_askForLock_51 (by decide) ?_
  refine lv_icmp_ne (tgt := 66) hx hb dd_S_askForLock_52 (by decide) (fun c1 => ?_) (fun c1 => ?_)
  · replace hw := hw.1 c1
    exact wk_S_askForLock_66 C0 hr hlk _ _ _ _ _ _ _ _ _ _ hw hG hS hkc (lv_sub hl [0, 1, 2, 3] rfl)
  · replace hw := hw.2 c1
    refine lv_aload_n hx hb dd_S_askForLock_55 rfl (lv_at hl 0 rfl) ?_
    obtain ⟨k2, a3, ea3, hw⟩ := hw
    refine gf_S_23 C0 hG k2 ea3 dd_S_askForLock_56 ?_
    refine lv_iload_n hx hb dd_S_askForLock_59 rfl (lv_at hl 2 rfl) ?_
    obtain ⟨k4, hw⟩ := hw
    have hw0 := hw
    clear hw
    refine cs_q (rn_V C0 hG hS (c_W_first l g _ h a3 v2 hw0) (ci := 1) k4 (by decide) rfl rfl (host := "SegmentLocks") (nest := true) (n := 1) (As := [.int v2]) (rest := []) km_180 km_179 km_181 km_182 km_39 ⟨by decide, by decide, by decide +kernel⟩ ⟨Nat.le_of_ble_eq_true rfl, Nat.le_of_ble_eq_true rfl⟩ rfl hl.1 rfl (Nat.le_of_ble_eq_true rfl) dd_S_askForLock_60 hkc) (fun r6 hw => ?_)
    refine px_ifnonnullq (tgt := 70) hx hb dd_S_askForLock_63 (by decide) (fun z => ?_) (fun a7 z => ?_)
    · replace hw := hw.1 z
      subst z
      replace hl : lv_has ls 6 [(0, .ref v0), (1, .ref v1), (2, .int v2), (3, .int v3), (4, .int v4)] := hl
      exact wk_S_askForLock_66 C0 hr hlk _ _ _ _ _ _ _ _ _ _ hw hG hS hkc (lv_sub hl [0, 1, 2, 3] rfl)
    · replace hw := hw.2 a7 z
      subst z
      replace hl : lv_has ls 6 [(0, .ref v0), (1, .ref v1), (2, .int v2), (3, .int v3), (4, .int v4)] := hl
      refine lv_iconst (v := 0) hx hb dd_S_askForLock_70 (by decide) ?_
      exact wk_S_askForLock_71 C0 hr hlk _ _ _ _ _ _ _ _ _ _ _ hw hG hS hkc (lv_sub hl [0, 1, 2, 3] rfl)
def wp_S_askForLock (g : Gm) (post : Int32 → Hp → Prop) (mc ms : Nat) (h : Hp) (a0 : Nat) (b1 : Nat) (i2 : Int32) (i3 : Int32) : Prop := hK h b1 = 4 ∧ ∃ a2 : Nat, hR h b1 2 = some a2 ∧ hK h a2 = 21 ∧ vp_in i2 (hN h a2) ∧ (((hI h a2 i2.toNatClampNeg) < i3 → ((¬ (hI h a2 i2.toNatClampNeg) = (-1) → wp_S_askForLock_49 g post mc ms h 0 0 a0 b1 i2 i3 (hI h a2 i2.toNatClampNeg)) ∧ ((hI h a2 i2.toNatClampNeg) = (-1) → hK h a0 = 1 ∧ (((hI h a0 4) ≤ 0 → wp_S_askForLock_49 g post mc ms h 0 0 a0 b1 i2 i3 (hI h a2 i2.toNatClampNeg)) ∧ (¬ (hI h a0 4) ≤ 0 → hK h b1 = 4 ∧ hK h a0 = 1 ∧ (((hI h b1 10) < (hI h a0 4) → wp_S_askForLock_49 g post mc ms h 0 0 a0 b1 i2 i3 (hI h a2 i2.toNatClampNeg)) ∧ (¬ (hI h b1 10) < (hI h a0 4) → hK h a0 = 1 ∧ wp_S_letGo g (fun h12 => post (-3) h12) h a0 b1 2))))))) ∧ (¬ (hI h a2 i2.toNatClampNeg) < i3 → post 1 h))
set_option maxHeartbeats 4000000 in
set_option maxRecDepth 100000 in
theorem c_S_askForLock (l : Launch) (g : Gm) (post : Int32 → Hp → Prop) (mc ms : Nat) (h : Hp) (a0 : Nat) (b1 : Nat) (i2 : Int32) (i3 : Int32) (hw : wp_S_askForLock g post mc ms h a0 b1 i2 i3) : Met l (⟨"SegmentLocks", "askForLock", "(LSegmentLocks$Task;II)I"⟩ : MethodName) (ww (⟨"SegmentLocks", "askForLock", "(LSegmentLocks$Task;II)I"⟩ : MethodName) prog_1_method_19_code 6 (some .int)) (rmm 10 264 mc ms) (va_Pc [.ref a0, .ref b1, .int i2, .int i3] (gS g h)) (va_Qi post (gS g) (gA g)) mc ms (gA g) := by
  first | refine en_met (by decide) ?_ | refine en_metF (by decide) ?_
  intro p e s m below meth c C0 hr hlk hin hG
  have hS : va_S (gA g) s.heap s.heap [] := va_S.rf
  have hl := lv_entry ([.ref a0, .ref b1, .int i2, .int i3]) (n := 6) (Nat.le_of_ble_eq_true rfl)
  rw [lg_entry_eq]
  generalize (lg_sl ([.ref a0, .ref b1, .int i2, .int i3]) ++ List.replicate (6 - (lg_sl ([.ref a0, .ref b1, .int i2, .int i3])).length) Slot.unset).toArray = ls at hl ⊢
  replace hl : lv_has ls 6 [(0, .ref a0), (1, .ref b1), (2, .int i2), (3, .int i3)] := hl
  obtain ⟨hx, hb, -, hown, hts, hgk⟩ := id C0
  have hkc : 0 ≤ mc ∧ 0 ≤ ms := ⟨Nat.zero_le _, Nat.zero_le _⟩
  unfold wp_S_askForLock at hw
  refine lv_aload_n hx hb dd_S_askForLock_0 rfl (lv_at hl 1 rfl) ?_
  obtain ⟨k1, a2, ea2, hw⟩ := hw
  refine gf_S_74 C0 hG k1 ea2 dd_S_askForLock_1 ?_
  refine lv_iload_n hx hb dd_S_askForLock_4 rfl (lv_at hl 2 rfl) ?_
  obtain ⟨k3, k3i, hw⟩ := hw
  refine px_iald C0 hG k3 k3i dd_S_askForLock_5 ?_
  have hl0 := hl
  clear hl
  refine lv_istore (lv' := [(4, .int (hI h a2 i2.toNatClampNeg)), (0, .ref a0), (1, .ref b1), (2, .int i2), (3, .int i3)]) hx hb dd_S_askForLock_6 hl0 (by decide) rfl (fun ls hl => ?_)
  refine lv_iload_n hx hb dd_S_askForLock_8 rfl (lv_at hl 4 rfl) ?_
  refine lv_iload hx hb dd_S_askForLock_9 (lv_at hl 0 rfl) ?_
  refine lv_icmp_gt (tgt := 16) hx hb dd_S_askForLock_11 (by decide) (fun c4 => ?_) (fun c4 => ?_)
  · replace hw := hw.1 c4
    refine lv_iload hx hb dd_S_askForLock_16 (lv_at hl 0 rfl) ?_
    refine lv_iconst (v := (-1)) hx hb dd_S_askForLock_18 (by decide) ?_
    refine lv_icmp_ne (tgt := 49) hx hb dd_S_askForLock_19 (by decide) (fun c5 => ?_) (fun c5 => ?_)
    · replace hw := hw.1 c5
      exact wk_S_askForLock_49 C0 hr hlk _ _ _ _ _ _ _ _ _ _ _ hw hG hS hkc (lv_sub hl [1, 2, 3, 4, 0] rfl)
    · replace hw := hw.2 c5
      refine lv_aload_n hx hb dd_S_askForLock_22 rfl (lv_at hl 1 rfl) ?_
      obtain ⟨k6, hw⟩ := hw
      refine gf_S_34 C0 hG k6 dd_S_askForLock_23 ?_
      refine lv_if_le (tgt := 49) hx hb dd_S_askForLock_26 (by decide) (fun c7 => ?_) (fun c7 => ?_)
      · replace hw := hw.1 c7
        exact wk_S_askForLock_49 C0 hr hlk _ _ _ _ _ _ _ _ _ _ _ hw hG hS hkc (lv_sub hl [1, 2, 3, 4, 0] rfl)
      · replace hw := hw.2 c7
        refine lv_aload_n hx hb dd_S_askForLock_29 rfl (lv_at hl 2 rfl) ?_
        obtain ⟨k8, hw⟩ := hw
        refine gf_S_125 C0 hG k8 dd_S_askForLock_30 ?_
        refine lv_aload_n hx hb dd_S_askForLock_33 rfl (lv_at hl 1 rfl) ?_
        obtain ⟨k9, hw⟩ := hw
        refine gf_S_34 C0 hG k9 dd_S_askForLock_34 ?_
        refine lv_icmp_lt (tgt := 49) hx hb dd_S_askForLock_37 (by decide) (fun c10 => ?_) (fun c10 => ?_)
        · replace hw := hw.1 c10
          exact wk_S_askForLock_49 C0 hr hlk _ _ _ _ _ _ _ _ _ _ _ hw hG hS hkc (lv_sub hl [1, 2, 3, 4, 0] rfl)
        · replace hw := hw.2 c10
          refine lv_aload_n hx hb dd_S_askForLock_40 rfl (lv_at hl 1 rfl) ?_
          refine lv_aload_n hx hb dd_S_askForLock_41 rfl (lv_at hl 2 rfl) ?_
          refine lv_iconst (v := 2) hx hb dd_S_askForLock_42 (by decide) ?_
          obtain ⟨k11, hw⟩ := hw
          refine ca_v hS (rn_V C0 hG hS (c_S_letGo l g _ h a0 b1 2 hw) (ci := 0) k11 (by decide) rfl rfl (host := "") (nest := false) (n := 2) (As := [.ref b1, .int 2]) (rest := []) km_267 km_266 km_268 km_269 km_176 ⟨by decide, by decide, by decide +kernel⟩ ⟨Nat.le_of_ble_eq_true rfl, Nat.le_of_ble_eq_true rfl⟩ rfl hl.1 rfl (Nat.le_of_ble_eq_true rfl) dd_S_askForLock_43 hkc) (fun h12 H locs hw hG hS => ?_)
          refine lv_bipush (v := (-3)) hx hb dd_S_askForLock_46 (by decide) ?_
          exact re_i C0 hG hS hr hlk hkc hw dd_S_askForLock_48
  · replace hw := hw.2 c4
    refine lv_iconst (v := 1) hx hb dd_S_askForLock_14 (by decide) ?_
    exact re_i C0 hG hS hr hlk hkc hw dd_S_askForLock_15
/-! SegmentLocks.ask(III)I -/
theorem dd_S_ask_0 : decode prog_1_method_3_code 0 = .ok (.aload_n 0, 1) := by decide +kernel
theorem dd_S_ask_1 : decode prog_1_method_3_code 1 = .ok (.iload_n 1, 1) := by decide +kernel
theorem dd_S_ask_2 : decode prog_1_method_3_code 2 = .ok (.invokevirtual 55, 3) := by decide +kernel
theorem dd_S_ask_5 : decode prog_1_method_3_code 5 = .ok (.astore 4, 2) := by decide +kernel
theorem dd_S_ask_7 : decode prog_1_method_3_code 7 = .ok (.aload 4, 2) := by decide +kernel
theorem dd_S_ask_9 : decode prog_1_method_3_code 9 = .ok (.ifnonnull 6, 3) := by decide +kernel
theorem dd_S_ask_12 : decode prog_1_method_3_code 12 = .ok (.bipush (-2), 2) := by decide +kernel
theorem dd_S_ask_14 : decode prog_1_method_3_code 14 = .ok (.ireturn, 1) := by decide +kernel
theorem dd_S_ask_15 : decode prog_1_method_3_code 15 = .ok (.iload_n 2, 1) := by decide +kernel
theorem dd_S_ask_16 : decode prog_1_method_3_code 16 = .ok (.invokestatic 59, 3) := by decide +kernel
theorem dd_S_ask_19 : decode prog_1_method_3_code 19 = .ok (.ifCond .eq 12, 3) := by decide +kernel
theorem dd_S_ask_22 : decode prog_1_method_3_code 22 = .ok (.iload_n 3, 1) := by decide +kernel
theorem dd_S_ask_23 : decode prog_1_method_3_code 23 = .ok (.ifCond .lt 8, 3) := by decide +kernel
theorem dd_S_ask_26 : decode prog_1_method_3_code 26 = .ok (.iload_n 3, 1) := by decide +kernel
theorem dd_S_ask_27 : decode prog_1_method_3_code 27 = .ok (.iconst 3, 1) := by decide +kernel
theorem dd_S_ask_28 : decode prog_1_method_3_code 28 = .ok (.if_icmp .le 6, 3) := by decide +kernel
theorem dd_S_ask_31 : decode prog_1_method_3_code 31 = .ok (.bipush (-4), 2) := by decide +kernel
theorem dd_S_ask_33 : decode prog_1_method_3_code 33 = .ok (.ireturn, 1) := by decide +kernel
theorem dd_S_ask_34 : decode prog_1_method_3_code 34 = .ok (.aload 4, 2) := by decide +kernel
theorem dd_S_ask_36 : decode prog_1_method_3_code 36 = .ok (.getfield 63, 3) := by decide +kernel
theorem dd_S_ask_39 : decode prog_1_method_3_code 39 = .ok (.ifCond .eq 6, 3) := by decide +kernel
theorem dd_S_ask_42 : decode prog_1_method_3_code 42 = .ok (.bipush (-5), 2) := by decide +kernel
theorem dd_S_ask_44 : decode prog_1_method_3_code 44 = .ok (.ireturn, 1) := by decide +kernel
theorem dd_S_ask_45 : decode prog_1_method_3_code 45 = .ok (.iload_n 3, 1) := by decide +kernel
theorem dd_S_ask_46 : decode prog_1_method_3_code 46 = .ok (.iconst 3, 1) := by decide +kernel
theorem dd_S_ask_47 : decode prog_1_method_3_code 47 = .ok (.if_icmp .ne 13, 3) := by decide +kernel
theorem dd_S_ask_50 : decode prog_1_method_3_code 50 = .ok (.aload 4, 2) := by decide +kernel
theorem dd_S_ask_52 : decode prog_1_method_3_code 52 = .ok (.getfield 66, 3) := by decide +kernel
theorem dd_S_ask_55 : decode prog_1_method_3_code 55 = .ok (.iload_n 2, 1) := by decide +kernel
theorem dd_S_ask_56 : decode prog_1_method_3_code 56 = .ok (.iconst 1, 1) := by decide +kernel
theorem dd_S_ask_57 : decode prog_1_method_3_code 57 = .ok (.bastore, 1) := by decide +kernel
theorem dd_S_ask_58 : decode prog_1_method_3_code 58 = .ok (.iconst 1, 1) := by decide +kernel
theorem dd_S_ask_59 : decode prog_1_method_3_code 59 = .ok (.ireturn, 1) := by decide +kernel
theorem dd_S_ask_60 : decode prog_1_method_3_code 60 = .ok (.aload_n 0, 1) := by decide +kernel
theorem dd_S_ask_61 : decode prog_1_method_3_code 61 = .ok (.aload 4, 2) := by decide +kernel
theorem dd_S_ask_63 : decode prog_1_method_3_code 63 = .ok (.iload_n 2, 1) := by decide +kernel
theorem dd_S_ask_64 : decode prog_1_method_3_code 64 = .ok (.iload_n 3, 1) := by decide +kernel
theorem dd_S_ask_65 : decode prog_1_method_3_code 65 = .ok (.invokevirtual 70, 3) := by decide +kernel
theorem dd_S_ask_68 : decode prog_1_method_3_code 68 = .ok (.ireturn, 1) := by decide +kernel
def wp_S_ask_31 (g : Gm) (post : Int32 → Hp → Prop) (mc ms : Nat) (h : Hp) (kc ks : Nat) : Prop := post (-4) h
set_option maxHeartbeats 4000000 in
set_option maxRecDepth 100000 in
theorem wk_S_ask_31 {p : Program} {l : Launch} {e : Env} {s : State} {m : MethodId} {args : Array Value} {below : List Frame} {meth : Method} {c : Code} {g : Gm} {post : Int32 → Hp → Prop} {mc ms : Nat} (C0 : Cx g p s m args c prog_1_method_3_code 5 "SegmentLocks") (hr : meth.sig.returnType = (some .int)) (hlk : meth.locks = false) : ∀ (h : Hp) (kc ks : Nat) (H : Heap) (locs : List Loc) (ls : Array Slot), wp_S_ask_31 g post mc ms h kc ks → GH g h H → va_S (gA g) s.heap H locs → kc ≤ mc ∧ ks ≤ ms → lv_has ls 5 [] → W p l e (rmm 11 289 mc ms) s m args below meth c H locs kc ks (MQ below (va_Qi post (gS g) (gA g)) args s mc ms (gA g)) (F0 m 31 ls []) := by
  obtain ⟨hx, hb, -, hown, hts, hgk⟩ := id C0
  intro h kc ks H locs ls hw hG hS hkc hl
  unfold wp_S_ask_31 at hw
  refine lv_bipush (v := (-4)) hx hb dd_S_ask_31 (by decide) ?_
  exact re_i C0 hG hS hr hlk hkc hw dd_S_ask_33
def wp_S_ask (g : Gm) (post : Int32 → Hp → Prop) (mc ms : Nat) (h : Hp) (a0 : Nat) (i1 : Int32) (i2 : Int32) (i3 : Int32) : Prop := hK h a0 = 1 ∧ wp_S_find g (fun r3 => ((r3 = none → post (-2) h) ∧ (∀ a4 : Nat, r3 = some a4 → wp_S_isSegment g (fun x7 => ((x7 = 0 → wp_S_ask_31 g post mc ms h 0 0) ∧ (¬ x7 = 0 → ((i3 < 0 → wp_S_ask_31 g post mc ms h 0 0) ∧ (¬ i3 < 0 → ((i3 ≤ 3 → hK h a4 = 4 ∧ (((hI h a4 9) = 0 → ((¬ i3 = 3 → hK h a0 = 1 ∧ ∃ mc17 ms18 : Nat, 0 + mc17 ≤ mc ∧ 0 + ms18 ≤ ms ∧ wp_S_askForLock g (fun x16 h15 => post x16 h15) mc17 ms18 h a0 a4 i2 i3) ∧ (i3 = 3 → hK h a4 = 4 ∧ ∃ a20 : Nat, hR h a4 3 = some a20 ∧ hK h a20 = 23 ∧ vp_in i2 (hN h a20) ∧ zB 1 ∧ ∀ h22 : Hp, h22 = sI h a20 i2.toNatClampNeg 1 → post 1 h22))) ∧ (¬ (hI h a4 9) = 0 → post (-5) h))) ∧ (¬ i3 ≤ 3 → wp_S_ask_31 g post mc ms h 0 0))))))) h i2))) h a0 i1
set_option maxHeartbeats 4000000 in
set_option maxRecDepth 100000 in
theorem c_S_ask (l : Launch) (g : Gm) (post : Int32 → Hp → Prop) (mc ms : Nat) (h : Hp) (a0 : Nat) (i1 : Int32) (i2 : Int32) (i3 : Int32) (hw : wp_S_ask g post mc ms h a0 i1 i2 i3) : Met l (⟨"SegmentLocks", "ask", "(III)I"⟩ : MethodName) (ww (⟨"SegmentLocks", "ask", "(III)I"⟩ : MethodName) prog_1_method_3_code 5 (some .int)) (rmm 11 289 mc ms) (va_Pc [.ref a0, .int i1, .int i2, .int i3] (gS g h)) (va_Qi post (gS g) (gA g)) mc ms (gA g) := by
  first | refine en_met (by decide) ?_ | refine en_metF (by decide) ?_
  intro p e s m below meth c C0 hr hlk hin hG
  have hS : va_S (gA g) s.heap s.heap [] := va_S.rf
  have hl := lv_entry ([.ref a0, .int i1, .int i2, .int i3]) (n := 5) (Nat.le_of_ble_eq_true rfl)
  rw [lg_entry_eq]
  generalize (lg_sl ([.ref a0, .int i1, .int i2, .int i3]) ++ List.replicate (5 - (lg_sl ([.ref a0, .int i1, .int i2, .int i3])).length) Slot.unset).toArray = ls at hl ⊢
  replace hl : lv_has ls 5 [(0, .ref a0), (1, .int i1), (2, .int i2), (3, .int i3)] := hl
  obtain ⟨hx, hb, -, hown, hts, hgk⟩ := id C0
  have hkc : 0 ≤ mc ∧ 0 ≤ ms := ⟨Nat.zero_le _, Nat.zero_le _⟩
  unfold wp_S_ask at hw
  refine lv_aload_n hx hb dd_S_ask_0 rfl (lv_at hl 0 rfl) ?_
  refine lv_iload_n hx hb dd_S_ask_1 rfl (lv_at hl 1 rfl) ?_
  obtain ⟨k1, hw⟩ := hw
  have hw0 := hw
  clear hw
  refine cs_q (rn_V C0 hG hS (c_S_find l g _ h a0 i1 hw0) (ci := 0) k1 (by decide) rfl rfl (host := "") (nest := false) (n := 1) (As := [.int i1]) (rest := []) km_295 km_294 km_296 km_297 km_176 ⟨by decide, by decide, by decide +kernel⟩ ⟨Nat.le_of_ble_eq_true rfl, Nat.le_of_ble_eq_true rfl⟩ rfl hl.1 rfl (Nat.le_of_ble_eq_true rfl) dd_S_ask_2 hkc) (fun r3 hw => ?_)
  have hl0 := hl
  clear hl
  refine px_astoreq (lv' := [(4, va_rf r3), (0, .ref a0), (1, .int i1), (2, .int i2), (3, .int i3)]) hx hb dd_S_ask_5 hl0 (by decide) rfl (fun ls hl => ?_)
  refine px_aloadq hx hb dd_S_ask_7 (lv_at hl 0 rfl) ?_
  refine px_ifnonnullq (tgt := 15) hx hb dd_S_ask_9 (by decide) (fun z => ?_) (fun a4 z => ?_)
  · replace hw := hw.1 z
    subst z
    replace hl : lv_has ls 5 [(4, .null), (0, .ref a0), (1, .int i1), (2, .int i2), (3, .int i3)] := hl
    refine lv_bipush (v := (-2)) hx hb dd_S_ask_12 (by decide) ?_
    exact re_i C0 hG hS hr hlk hkc hw dd_S_ask_14
  · replace hw := hw.2 a4 z
    subst z
    replace hl : lv_has ls 5 [(4, .ref a4), (0, .ref a0), (1, .int i1), (2, .int i2), (3, .int i3)] := hl
    refine lv_iload_n hx hb dd_S_ask_15 rfl (lv_at hl 3 rfl) ?_
    have hw0 := hw
    clear hw
    refine cs_i (rn_S C0 hG hS (c_S_isSegment l g _ h i2 hw0) (host := "") (nest := false) (n := 1) (As := [.int i2]) (rest := []) km_219 km_293 km_220 km_176 ⟨by decide, by decide, by decide +kernel⟩ ⟨Nat.le_of_ble_eq_true rfl, Nat.le_of_ble_eq_true rfl⟩ rfl hl.1 rfl (Nat.le_of_ble_eq_true rfl) dd_S_ask_16 hkc) (fun x7 hw => ?_)
    refine lv_if_eq (tgt := 31) hx hb dd_S_ask_19 (by decide) (fun c8 => ?_) (fun c8 => ?_)
    · replace hw := hw.1 c8
      exact wk_S_ask_31 C0 hr hlk _ _ _ _ _ _ hw hG hS hkc (lv_sub hl [] rfl)
    · replace hw := hw.2 c8
      refine lv_iload_n hx hb dd_S_ask_22 rfl (lv_at hl 4 rfl) ?_
      refine lv_if_lt (tgt := 31) hx hb dd_S_ask_23 (by decide) (fun c9 => ?_) (fun c9 => ?_)
      · replace hw := hw.1 c9
        exact wk_S_ask_31 C0 hr hlk _ _ _ _ _ _ hw hG hS hkc (lv_sub hl [] rfl)
      · replace hw := hw.2 c9
        refine lv_iload_n hx hb dd_S_ask_26 rfl (lv_at hl 4 rfl) ?_
        refine lv_iconst (v := 3) hx hb dd_S_ask_27 (by decide) ?_
        refine lv_icmp_le (tgt := 34) hx hb dd_S_ask_28 (by decide) (fun c10 => ?_) (fun c10 => ?_)
        · replace hw := hw.1 c10
          refine lv_aload hx hb dd_S_ask_34 (lv_at hl 0 rfl) ?_
          obtain ⟨k11, hw⟩ := hw
          refine gf_S_63 C0 hG k11 dd_S_ask_36 ?_
          refine lv_if_eq (tgt := 45) hx hb dd_S_ask_39 (by decide) (fun c12 => ?_) (fun c12 => ?_)
          · replace hw := hw.1 c12
            refine lv_iload_n hx hb dd_S_ask_45 rfl (lv_at hl 4 rfl) ?_
            refine lv_iconst (v := 3) hx hb dd_S_ask_46 (by decide) ?_
            refine lv_icmp_ne (tgt := 60) hx hb dd_S_ask_47 (by decide) (fun c13 => ?_) (fun c13 => ?_)
            · replace hw := hw.1 c13
              refine lv_aload_n hx hb dd_S_ask_60 rfl (lv_at hl 1 rfl) ?_
              refine lv_aload hx hb dd_S_ask_61 (lv_at hl 0 rfl) ?_
              refine lv_iload_n hx hb dd_S_ask_63 rfl (lv_at hl 3 rfl) ?_
              refine lv_iload_n hx hb dd_S_ask_64 rfl (lv_at hl 4 rfl) ?_
              obtain ⟨k14, hw⟩ := hw
              obtain ⟨mc17, ms18, hc1, hc2, hw⟩ := hw
              refine ca_i hS (rn_V C0 hG hS (c_S_askForLock l g _ mc17 ms18 h a0 a4 i2 i3 hw) (ci := 0) k14 (by decide) rfl rfl (host := "") (nest := false) (n := 3) (As := [.ref a4, .int i2, .int i3]) (rest := []) km_289 km_288 km_290 km_291 km_176 ⟨by decide, by decide, by decide +kernel⟩ ⟨Nat.le_of_ble_eq_true rfl, Nat.le_of_ble_eq_true rfl⟩ rfl hl.1 rfl (Nat.le_of_ble_eq_true rfl) dd_S_ask_65 ⟨hc1, hc2⟩) (fun x16 h15 H locs hw hG hS => ?_)
              have hkc := And.intro hc1 hc2
              exact re_i C0 hG hS hr hlk hkc hw dd_S_ask_68
            · replace hw := hw.2 c13
              refine lv_aload hx hb dd_S_ask_50 (lv_at hl 0 rfl) ?_
              obtain ⟨k19, a20, ea20, hw⟩ := hw
              refine gf_S_66 C0 hG k19 ea20 dd_S_ask_52 ?_
              refine lv_iload_n hx hb dd_S_ask_55 rfl (lv_at hl 3 rfl) ?_
              refine lv_iconst (v := 1) hx hb dd_S_ask_56 (by decide) ?_
              obtain ⟨k21, k21i, hz, hw⟩ := hw
              refine px_zast C0 hG hS k21 k21i hz.nar dd_S_ask_57 (fun H locs hG hS => ?_)
              replace hw := hw _ rfl
              generalize sI h a20 i2.toNatClampNeg 1 = h22 at hw hG
              refine lv_iconst (v := 1) hx hb dd_S_ask_58 (by decide) ?_
              exact re_i C0 hG hS hr hlk hkc hw dd_S_ask_59
          · replace hw := hw.2 c12
            refine lv_bipush (v := (-5)) hx hb dd_S_ask_42 (by decide) ?_
            exact re_i C0 hG hS hr hlk hkc hw dd_S_ask_44
        · replace hw := hw.2 c10
          exact wk_S_ask_31 C0 hr hlk _ _ _ _ _ _ hw hG hS hkc (lv_sub hl [] rfl)
/-! SegmentLocks.write(IIJ)I -/
theorem dd_S_write_0 : decode prog_1_method_4_code 0 = .ok (.aload_n 0, 1) := by decide +kernel
theorem dd_S_write_1 : decode prog_1_method_4_code 1 = .ok (.iload_n 1, 1) := by decide +kernel
theorem dd_S_write_2 : decode prog_1_method_4_code 2 = .ok (.invokevirtual 55, 3) := by decide +kernel
theorem dd_S_write_5 : decode prog_1_method_4_code 5 = .ok (.astore 5, 2) := by decide +kernel
theorem dd_S_write_7 : decode prog_1_method_4_code 7 = .ok (.aload 5, 2) := by decide +kernel
theorem dd_S_write_9 : decode prog_1_method_4_code 9 = .ok (.ifnonnull 6, 3) := by decide +kernel
theorem dd_S_write_12 : decode prog_1_method_4_code 12 = .ok (.bipush (-2), 2) := by decide +kernel
theorem dd_S_write_14 : decode prog_1_method_4_code 14 = .ok (.ireturn, 1) := by decide +kernel
theorem dd_S_write_15 : decode prog_1_method_4_code 15 = .ok (.iload_n 2, 1) := by decide +kernel
theorem dd_S_write_16 : decode prog_1_method_4_code 16 = .ok (.invokestatic 59, 3) := by decide +kernel
theorem dd_S_write_19 : decode prog_1_method_4_code 19 = .ok (.ifCond .ne 6, 3) := by decide +kernel
theorem dd_S_write_22 : decode prog_1_method_4_code 22 = .ok (.bipush (-4), 2) := by decide +kernel
theorem dd_S_write_24 : decode prog_1_method_4_code 24 = .ok (.ireturn, 1) := by decide +kernel
theorem dd_S_write_25 : decode prog_1_method_4_code 25 = .ok (.aload 5, 2) := by decide +kernel
theorem dd_S_write_27 : decode prog_1_method_4_code 27 = .ok (.getfield 63, 3) := by decide +kernel
theorem dd_S_write_30 : decode prog_1_method_4_code 30 = .ok (.ifCond .eq 6, 3) := by decide +kernel
theorem dd_S_write_33 : decode prog_1_method_4_code 33 = .ok (.bipush (-5), 2) := by decide +kernel
theorem dd_S_write_35 : decode prog_1_method_4_code 35 = .ok (.ireturn, 1) := by decide +kernel
theorem dd_S_write_36 : decode prog_1_method_4_code 36 = .ok (.aload 5, 2) := by decide +kernel
theorem dd_S_write_38 : decode prog_1_method_4_code 38 = .ok (.getfield 74, 3) := by decide +kernel
theorem dd_S_write_41 : decode prog_1_method_4_code 41 = .ok (.iload_n 2, 1) := by decide +kernel
theorem dd_S_write_42 : decode prog_1_method_4_code 42 = .ok (.iaload, 1) := by decide +kernel
theorem dd_S_write_43 : decode prog_1_method_4_code 43 = .ok (.iconst 1, 1) := by decide +kernel
theorem dd_S_write_44 : decode prog_1_method_4_code 44 = .ok (.if_icmp .ge 5, 3) := by decide +kernel
theorem dd_S_write_47 : decode prog_1_method_4_code 47 = .ok (.iconst 0, 1) := by decide +kernel
theorem dd_S_write_48 : decode prog_1_method_4_code 48 = .ok (.ireturn, 1) := by decide +kernel
theorem dd_S_write_49 : decode prog_1_method_4_code 49 = .ok (.aload 5, 2) := by decide +kernel
theorem dd_S_write_51 : decode prog_1_method_4_code 51 = .ok (.iload_n 2, 1) := by decide +kernel
theorem dd_S_write_52 : decode prog_1_method_4_code 52 = .ok (.lload_n 3, 1) := by decide +kernel
theorem dd_S_write_53 : decode prog_1_method_4_code 53 = .ok (.invokevirtual 78, 3) := by decide +kernel
theorem dd_S_write_56 : decode prog_1_method_4_code 56 = .ok (.iconst 1, 1) := by decide +kernel
theorem dd_S_write_57 : decode prog_1_method_4_code 57 = .ok (.ireturn, 1) := by decide +kernel
def wp_S_write (g : Gm) (post : Int32 → Hp → Prop) (h : Hp) (a0 : Nat) (i1 : Int32) (i2 : Int32) (l3 : Int64) : Prop := hK h a0 = 1 ∧ wp_S_find g (fun r3 => ((r3 = none → post (-2) h) ∧ (∀ a4 : Nat, r3 = some a4 → wp_S_isSegment g (fun x7 => ((¬ x7 = 0 → hK h a4 = 4 ∧ (((hI h a4 9) = 0 → hK h a4 = 4 ∧ ∃ a12 : Nat, hR h a4 2 = some a12 ∧ hK h a12 = 21 ∧ vp_in i2 (hN h a12) ∧ ((1 ≤ (hI h a12 i2.toNatClampNeg) → hK h a4 = 4 ∧ wp_T_keep g (fun h16 => post 1 h16) h a4 i2 l3) ∧ (¬ 1 ≤ (hI h a12 i2.toNatClampNeg) → post 0 h))) ∧ (¬ (hI h a4 9) = 0 → post (-5) h))) ∧ (x7 = 0 → post (-4) h))) h i2))) h a0 i1
set_option maxHeartbeats 4000000 in
set_option maxRecDepth 100000 in
theorem c_S_write (l : Launch) (g : Gm) (post : Int32 → Hp → Prop) (h : Hp) (a0 : Nat) (i1 : Int32) (i2 : Int32) (l3 : Int64) (hw : wp_S_write g post h a0 i1 i2 l3) : Met l (⟨"SegmentLocks", "write", "(IIJ)I"⟩ : MethodName) (ww (⟨"SegmentLocks", "write", "(IIJ)I"⟩ : MethodName) prog_1_method_4_code 6 (some .int)) (rmm 4 85 0 0) (va_Pc [.ref a0, .int i1, .int i2, .long l3] (gS g h)) (va_Qi post (gS g) (gA g)) 0 0 (gA g) := by
  first | refine en_met (by decide) ?_ | refine en_metF (by decide) ?_
  intro p e s m below meth c C0 hr hlk hin hG
  have hS : va_S (gA g) s.heap s.heap [] := va_S.rf
  have hl := lv_entry ([.ref a0, .int i1, .int i2, .long l3]) (n := 6) (Nat.le_of_ble_eq_true rfl)
  rw [lg_entry_eq]
  generalize (lg_sl ([.ref a0, .int i1, .int i2, .long l3]) ++ List.replicate (6 - (lg_sl ([.ref a0, .int i1, .int i2, .long l3])).length) Slot.unset).toArray = ls at hl ⊢
  replace hl : lv_has ls 6 [(0, .ref a0), (1, .int i1), (2, .int i2), (3, .long l3)] := hl
  obtain ⟨hx, hb, -, hown, hts, hgk⟩ := id C0
  unfold wp_S_write at hw
  refine lv_aload_n hx hb dd_S_write_0 rfl (lv_at hl 0 rfl) ?_
  refine lv_iload_n hx hb dd_S_write_1 rfl (lv_at hl 1 rfl) ?_
  obtain ⟨k1, hw⟩ := hw
  have hw0 := hw
  clear hw
  refine cs_q (rn_V C0 hG hS (c_S_find l g _ h a0 i1 hw0) (ci := 0) k1 (by decide) rfl rfl (host := "") (nest := false) (n := 1) (As := [.int i1]) (rest := []) km_295 km_294 km_296 km_297 km_176 ⟨by decide, by decide, by decide +kernel⟩ ⟨Nat.le_of_ble_eq_true rfl, Nat.le_of_ble_eq_true rfl⟩ rfl hl.1 rfl (Nat.le_of_ble_eq_true rfl) dd_S_write_2 ⟨Nat.le_refl _, Nat.le_refl _⟩) (fun r3 hw => ?_)
  have hl0 := hl
  clear hl
  refine px_astoreq (lv' := [(5, va_rf r3), (0, .ref a0), (1, .int i1), (2, .int i2), (3, .long l3)]) hx hb dd_S_write_5 hl0 (by decide) rfl (fun ls hl => ?_)
  refine px_aloadq hx hb dd_S_write_7 (lv_at hl 0 rfl) ?_
  refine px_ifnonnullq (tgt := 15) hx hb dd_S_write_9 (by decide) (fun z => ?_) (fun a4 z => ?_)
  · replace hw := hw.1 z
    subst z
    replace hl : lv_has ls 6 [(5, .null), (0, .ref a0), (1, .int i1), (2, .int i2), (3, .long l3)] := hl
    refine lv_bipush (v := (-2)) hx hb dd_S_write_12 (by decide) ?_
    exact re_i C0 hG hS hr hlk ⟨Nat.le_refl _, Nat.le_refl _⟩ hw dd_S_write_14
  · replace hw := hw.2 a4 z
    subst z
    replace hl : lv_has ls 6 [(5, .ref a4), (0, .ref a0), (1, .int i1), (2, .int i2), (3, .long l3)] := hl
    refine lv_iload_n hx hb dd_S_write_15 rfl (lv_at hl 3 rfl) ?_
    have hw0 := hw
    clear hw
    refine cs_i (rn_S C0 hG hS (c_S_isSegment l g _ h i2 hw0) (host := "") (nest := false) (n := 1) (As := [.int i2]) (rest := []) km_219 km_293 km_220 km_176 ⟨by decide, by decide, by decide +kernel⟩ ⟨Nat.le_of_ble_eq_true rfl, Nat.le_of_ble_eq_true rfl⟩ rfl hl.1 rfl (Nat.le_of_ble_eq_true rfl) dd_S_write_16 ⟨Nat.le_refl _, Nat.le_refl _⟩) (fun x7 hw => ?_)
    refine lv_if_ne (tgt := 25) hx hb dd_S_write_19 (by decide) (fun c8 => ?_) (fun c8 => ?_)
    · replace hw := hw.1 c8
      refine lv_aload hx hb dd_S_write_25 (lv_at hl 0 rfl) ?_
      obtain ⟨k9, hw⟩ := hw
      refine gf_S_63 C0 hG k9 dd_S_write_27 ?_
      refine lv_if_eq (tgt := 36) hx hb dd_S_write_30 (by decide) (fun c10 => ?_) (fun c10 => ?_)
      · replace hw := hw.1 c10
        refine lv_aload hx hb dd_S_write_36 (lv_at hl 0 rfl) ?_
        obtain ⟨k11, a12, ea12, hw⟩ := hw
        refine gf_S_74 C0 hG k11 ea12 dd_S_write_38 ?_
        refine lv_iload_n hx hb dd_S_write_41 rfl (lv_at hl 3 rfl) ?_
        obtain ⟨k13, k13i, hw⟩ := hw
        refine px_iald C0 hG k13 k13i dd_S_write_42 ?_
        refine lv_iconst (v := 1) hx hb dd_S_write_43 (by decide) ?_
        refine lv_icmp_ge (tgt := 49) hx hb dd_S_write_44 (by decide) (fun c14 => ?_) (fun c14 => ?_)
        · replace hw := hw.1 c14
          refine lv_aload hx hb dd_S_write_49 (lv_at hl 0 rfl) ?_
          refine lv_iload_n hx hb dd_S_write_51 rfl (lv_at hl 3 rfl) ?_
          refine lv_lload_n hx hb dd_S_write_52 rfl (lv_at hl 4 rfl) ?_
          obtain ⟨k15, hw⟩ := hw
          refine ca_v hS (rn_V C0 hG hS (c_T_keep l g _ h a4 i2 l3 hw) (ci := 3) k15 (by decide) rfl rfl (host := "SegmentLocks") (nest := true) (n := 2) (As := [.int i2, .long l3]) (rest := []) km_299 km_298 km_300 km_301 km_123 ⟨by decide, by decide, by decide +kernel⟩ ⟨Nat.le_of_ble_eq_true rfl, Nat.le_of_ble_eq_true rfl⟩ rfl hl.1 rfl (Nat.le_of_ble_eq_true rfl) dd_S_write_53 ⟨Nat.le_refl _, Nat.le_refl _⟩) (fun h16 H locs hw hG hS => ?_)
          refine lv_iconst (v := 1) hx hb dd_S_write_56 (by decide) ?_
          exact re_i C0 hG hS hr hlk ⟨Nat.le_refl _, Nat.le_refl _⟩ hw dd_S_write_57
        · replace hw := hw.2 c14
          refine lv_iconst (v := 0) hx hb dd_S_write_47 (by decide) ?_
          exact re_i C0 hG hS hr hlk ⟨Nat.le_refl _, Nat.le_refl _⟩ hw dd_S_write_48
      · replace hw := hw.2 c10
        refine lv_bipush (v := (-5)) hx hb dd_S_write_33 (by decide) ?_
        exact re_i C0 hG hS hr hlk ⟨Nat.le_refl _, Nat.le_refl _⟩ hw dd_S_write_35
    · replace hw := hw.2 c8
      refine lv_bipush (v := (-4)) hx hb dd_S_write_22 (by decide) ?_
      exact re_i C0 hG hS hr hlk ⟨Nat.le_refl _, Nat.le_refl _⟩ hw dd_S_write_24
/-! SegmentLocks.agree(LSegmentLocks$Task;)V -/
theorem dd_S_agree_0 : decode prog_1_method_25_code 0 = .ok (.aload_n 1, 1) := by decide +kernel
theorem dd_S_agree_1 : decode prog_1_method_25_code 1 = .ok (.aload_n 0, 1) := by decide +kernel
theorem dd_S_agree_2 : decode prog_1_method_25_code 2 = .ok (.getfield 9, 3) := by decide +kernel
theorem dd_S_agree_5 : decode prog_1_method_25_code 5 = .ok (.invokevirtual 190, 3) := by decide +kernel
theorem dd_S_agree_8 : decode prog_1_method_25_code 8 = .ok (.ifCond .ne 8, 3) := by decide +kernel
theorem dd_S_agree_11 : decode prog_1_method_25_code 11 = .ok (.aload_n 0, 1) := by decide +kernel
theorem dd_S_agree_12 : decode prog_1_method_25_code 12 = .ok (.iconst 0, 1) := by decide +kernel
theorem dd_S_agree_13 : decode prog_1_method_25_code 13 = .ok (.putfield 38, 3) := by decide +kernel
theorem dd_S_agree_16 : decode prog_1_method_25_code 16 = .ok (.iconst 0, 1) := by decide +kernel
theorem dd_S_agree_17 : decode prog_1_method_25_code 17 = .ok (.istore_n 2, 1) := by decide +kernel
theorem dd_S_agree_18 : decode prog_1_method_25_code 18 = .ok (.iload_n 2, 1) := by decide +kernel
theorem dd_S_agree_19 : decode prog_1_method_25_code 19 = .ok (.bipush 50, 2) := by decide +kernel
theorem dd_S_agree_21 : decode prog_1_method_25_code 21 = .ok (.if_icmp .ge 30, 3) := by decide +kernel
theorem dd_S_agree_24 : decode prog_1_method_25_code 24 = .ok (.aload_n 1, 1) := by decide +kernel
theorem dd_S_agree_25 : decode prog_1_method_25_code 25 = .ok (.getfield 96, 3) := by decide +kernel
theorem dd_S_agree_28 : decode prog_1_method_25_code 28 = .ok (.iload_n 2, 1) := by decide +kernel
theorem dd_S_agree_29 : decode prog_1_method_25_code 29 = .ok (.baload, 1) := by decide +kernel
theorem dd_S_agree_30 : decode prog_1_method_25_code 30 = .ok (.ifCond .eq 15, 3) := by decide +kernel
theorem dd_S_agree_33 : decode prog_1_method_25_code 33 = .ok (.aload_n 0, 1) := by decide +kernel
theorem dd_S_agree_34 : decode prog_1_method_25_code 34 = .ok (.getfield 9, 3) := by decide +kernel
theorem dd_S_agree_37 : decode prog_1_method_25_code 37 = .ok (.iload_n 2, 1) := by decide +kernel
theorem dd_S_agree_38 : decode prog_1_method_25_code 38 = .ok (.aload_n 1, 1) := by decide +kernel
theorem dd_S_agree_39 : decode prog_1_method_25_code 39 = .ok (.getfield 99, 3) := by decide +kernel
theorem dd_S_agree_42 : decode prog_1_method_25_code 42 = .ok (.iload_n 2, 1) := by decide +kernel
theorem dd_S_agree_43 : decode prog_1_method_25_code 43 = .ok (.laload, 1) := by decide +kernel
theorem dd_S_agree_44 : decode prog_1_method_25_code 44 = .ok (.lastore, 1) := by decide +kernel
theorem dd_S_agree_45 : decode prog_1_method_25_code 45 = .ok (.iinc 2 1, 3) := by decide +kernel
theorem dd_S_agree_48 : decode prog_1_method_25_code 48 = .ok (.goto (-30), 3) := by decide +kernel
theorem dd_S_agree_51 : decode prog_1_method_25_code 51 = .ok (.aload_n 0, 1) := by decide +kernel
theorem dd_S_agree_52 : decode prog_1_method_25_code 52 = .ok (.aload_n 1, 1) := by decide +kernel
theorem dd_S_agree_53 : decode prog_1_method_25_code 53 = .ok (.iconst 0, 1) := by decide +kernel
theorem dd_S_agree_54 : decode prog_1_method_25_code 54 = .ok (.invokevirtual 117, 3) := by decide +kernel
theorem dd_S_agree_57 : decode prog_1_method_25_code 57 = .ok (.return_, 1) := by decide +kernel
def wp_S_agree_45 (g : Gm) (post : Hp → Prop) (K18 : Hp → Nat → Nat → Int32 → Prop) (h : Hp) (v0 : Nat) (v1 : Nat) (v2 : Int32) : Prop := ∀ x1 : Int32, x1 = v2 + 1 → K18 h v0 v1 x1
set_option maxHeartbeats 4000000 in
set_option maxRecDepth 100000 in
theorem wk_S_agree_45 {p : Program} {l : Launch} {e : Env} {s : State} {m : MethodId} {args : Array Value} {below : List Frame} {meth : Method} {c : Code} {g : Gm} {post : Hp → Prop} (C0 : Cx g p s m args c prog_1_method_25_code 3 "SegmentLocks") (hr : meth.sig.returnType = none) (hlk : meth.locks = false) {K18 : Hp → Nat → Nat → Int32 → Prop} (hK18 : ∀ (h : Hp) (v0 : Nat) (v1 : Nat) (v2 : Int32) (H : Heap) (locs : List Loc) (ls : Array Slot), K18 h v0 v1 v2 → GH g h H → va_S (gA g) s.heap H locs → lv_has ls 3 [(0, .ref v0), (1, .ref v1), (2, .int v2)] → W p l e (rmm 7 173 0 0) s m args below meth c H locs 0 0 (MQ below (va_Qv post (gS g) (gA g)) args s 0 0 (gA g)) (F0 m 18 ls [])) : ∀ (h : Hp) (v0 : Nat) (v1 : Nat) (v2 : Int32) (H : Heap) (locs : List Loc) (ls : Array Slot), wp_S_agree_45 g post K18 h v0 v1 v2 → GH g h H → va_S (gA g) s.heap H locs → lv_has ls 3 [(0, .ref v0), (1, .ref v1), (2, .int v2)] → W p l e (rmm 7 173 0 0) s m args below meth c H locs 0 0 (MQ below (va_Qv post (gS g) (gA g)) args s 0 0 (gA g)) (F0 m 45 ls []) := by
  obtain ⟨hx, hb, -, hown, hts, hgk⟩ := id C0
  intro h v0 v1 v2 H locs ls hw hG hS hl
  unfold wp_S_agree_45 at hw
  obtain ⟨x1, ex1⟩ : ∃ y : Int32, y = v2 + 1 := ⟨_, rfl⟩
  replace hw := hw x1 ex1
  have hl0 := hl
  clear hl
  refine lv_iinc (v := x1) (lv' := [(2, .int x1), (0, .ref v0), (1, .ref v1)]) hx hb dd_S_agree_45 hl0 (k := 2) rfl (by rw [ex1]; rfl) (by decide) rfl (fun ls hl => ?_)
  refine lv_goto (tgt := 18) hx hb dd_S_agree_48 (by decide) ?_
  exact hK18 _ _ _ _ _ _ _ hw hG hS (lv_sub hl [1, 2, 0] rfl)
def wp_S_agree_18 (g : Gm) (post : Hp → Prop) : Nat → Hp → Nat → Nat → Int32 → Prop
  | 0, _, _, _, _ => False
  | fu + 1, h, v0, v1, v2 => ((50 ≤ v2 → hK h v0 = 1 ∧ wp_S_letGo g (fun h3 => post h3) h v0 v1 0) ∧ (¬ 50 ≤ v2 → hK h v1 = 4 ∧ ∃ a5 : Nat, hR h v1 4 = some a5 ∧ hK h a5 = 23 ∧ vp_in v2 (hN h a5) ∧ (((hI h a5 v2.toNatClampNeg) = 0 → wp_S_agree_45 g post (fun h v0 v1 v2 => wp_S_agree_18 g post fu h v0 v1 v2) h v0 v1 v2) ∧ (¬ (hI h a5 v2.toNatClampNeg) = 0 → hK h v0 = 1 ∧ ∃ a9 : Nat, hR h v0 0 = some a9 ∧ hK h v1 = 4 ∧ ∃ a11 : Nat, hR h v1 5 = some a11 ∧ hK h a11 = 22 ∧ vp_in v2 (hN h a11) ∧ hK h a9 = 22 ∧ vp_in v2 (hN h a9) ∧ ∀ h14 : Hp, h14 = sJ h a9 v2.toNatClampNeg (hJ h a11 v2.toNatClampNeg) → wp_S_agree_45 g post (fun h v0 v1 v2 => wp_S_agree_18 g post fu h v0 v1 v2) h14 v0 v1 v2))))
set_option maxHeartbeats 4000000 in
set_option maxRecDepth 100000 in
theorem wk_S_agree_18 {p : Program} {l : Launch} {e : Env} {s : State} {m : MethodId} {args : Array Value} {below : List Frame} {meth : Method} {c : Code} {g : Gm} {post : Hp → Prop} (C0 : Cx g p s m args c prog_1_method_25_code 3 "SegmentLocks") (hr : meth.sig.returnType = none) (hlk : meth.locks = false) : ∀ n : Nat, ∀ (h : Hp) (v0 : Nat) (v1 : Nat) (v2 : Int32) (H : Heap) (locs : List Loc) (ls : Array Slot), wp_S_agree_18 g post n h v0 v1 v2 → GH g h H → va_S (gA g) s.heap H locs → lv_has ls 3 [(0, .ref v0), (1, .ref v1), (2, .int v2)] → W p l e (rmm 7 173 0 0) s m args below meth c H locs 0 0 (MQ below (va_Qv post (gS g) (gA g)) args s 0 0 (gA g)) (F0 m 18 ls []) := by
  obtain ⟨hx, hb, -, hown, hts, hgk⟩ := id C0
  intro n
  induction n with
  | zero =>
    intro h v0 v1 v2 H locs ls hw hG hS hl
    exact hw.elim
  | succ n ih =>
    intro h v0 v1 v2 H locs ls hw hG hS hl
    unfold wp_S_agree_18 at hw
    refine lv_iload_n hx hb dd_S_agree_18 rfl (lv_at hl 2 rfl) ?_
    refine lv_bipush (v := 50) hx hb dd_S_agree_19 (by decide) ?_
    refine lv_icmp_ge (tgt := 51) hx hb dd_S_agree_21 (by decide) (fun c1 => ?_) (fun c1 => ?_)
    · replace hw := hw.1 c1
      refine lv_aload_n hx hb dd_S_agree_51 rfl (lv_at hl 0 rfl) ?_
      refine lv_aload_n hx hb dd_S_agree_52 rfl (lv_at hl 1 rfl) ?_
      refine lv_iconst (v := 0) hx hb dd_S_agree_53 (by decide) ?_
      obtain ⟨k2, hw⟩ := hw
      refine ca_v hS (rn_V C0 hG hS (c_S_letGo l g _ h v0 v1 0 hw) (ci := 0) k2 (by decide) rfl rfl (host := "") (nest := false) (n := 2) (As := [.ref v1, .int 0]) (rest := []) km_267 km_266 km_268 km_269 km_176 ⟨by decide, by decide, by decide +kernel⟩ ⟨Nat.le_of_ble_eq_true rfl, Nat.le_of_ble_eq_true rfl⟩ rfl hl.1 rfl (Nat.le_of_ble_eq_true rfl) dd_S_agree_54 ⟨Nat.le_refl _, Nat.le_refl _⟩) (fun h3 H locs hw hG hS => ?_)
      exact re_v C0 hG hS hr hlk ⟨Nat.le_refl _, Nat.le_refl _⟩ hw dd_S_agree_57
    · replace hw := hw.2 c1
      refine lv_aload_n hx hb dd_S_agree_24 rfl (lv_at hl 1 rfl) ?_
      obtain ⟨k4, a5, ea5, hw⟩ := hw
      refine gf_S_96 C0 hG k4 ea5 dd_S_agree_25 ?_
      refine lv_iload_n hx hb dd_S_agree_28 rfl (lv_at hl 2 rfl) ?_
      obtain ⟨k6, k6i, hw⟩ := hw
      refine px_zald C0 hG k6 k6i dd_S_agree_29 ?_
      refine lv_if_eq (tgt := 45) hx hb dd_S_agree_30 (by decide) (fun c7 => ?_) (fun c7 => ?_)
      · replace hw := hw.1 c7
        exact wk_S_agree_45 C0 hr hlk ih _ _ _ _ _ _ _ hw hG hS (lv_sub hl [0, 1, 2] rfl)
      · replace hw := hw.2 c7
        refine lv_aload_n hx hb dd_S_agree_33 rfl (lv_at hl 0 rfl) ?_
        obtain ⟨k8, a9, ea9, hw⟩ := hw
        refine gf_S_9 C0 hG k8 ea9 dd_S_agree_34 ?_
        refine lv_iload_n hx hb dd_S_agree_37 rfl (lv_at hl 2 rfl) ?_
        refine lv_aload_n hx hb dd_S_agree_38 rfl (lv_at hl 1 rfl) ?_
        obtain ⟨k10, a11, ea11, hw⟩ := hw
        refine gf_S_99 C0 hG k10 ea11 dd_S_agree_39 ?_
        refine lv_iload_n hx hb dd_S_agree_42 rfl (lv_at hl 2 rfl) ?_
        obtain ⟨k12, k12i, hw⟩ := hw
        refine px_lald C0 hG k12 k12i dd_S_agree_43 ?_
        obtain ⟨k13, k13i, hw⟩ := hw
        refine px_last C0 hG hS k13 k13i dd_S_agree_44 (fun H locs hG hS => ?_)
        replace hw := hw _ rfl
        generalize sJ h a9 v2.toNatClampNeg (hJ h a11 v2.toNatClampNeg) = h14 at hw hG
        exact wk_S_agree_45 C0 hr hlk ih _ _ _ _ _ _ _ hw hG hS (lv_sub hl [0, 1, 2] rfl)
def wp_S_agree_16 (g : Gm) (post : Hp → Prop) (h : Hp) (v0 : Nat) (v1 : Nat) : Prop := ∃ n : Nat, wp_S_agree_18 g post n h v0 v1 0
set_option maxHeartbeats 4000000 in
set_option maxRecDepth 100000 in
theorem wk_S_agree_16 {p : Program} {l : Launch} {e : Env} {s : State} {m : MethodId} {args : Array Value} {below : List Frame} {meth : Method} {c : Code} {g : Gm} {post : Hp → Prop} (C0 : Cx g p s m args c prog_1_method_25_code 3 "SegmentLocks") (hr : meth.sig.returnType = none) (hlk : meth.locks = false) : ∀ (h : Hp) (v0 : Nat) (v1 : Nat) (H : Heap) (locs : List Loc) (ls : Array Slot), wp_S_agree_16 g post h v0 v1 → GH g h H → va_S (gA g) s.heap H locs → lv_has ls 3 [(0, .ref v0), (1, .ref v1)] → W p l e (rmm 7 173 0 0) s m args below meth c H locs 0 0 (MQ below (va_Qv post (gS g) (gA g)) args s 0 0 (gA g)) (F0 m 16 ls []) := by
  obtain ⟨hx, hb, -, hown, hts, hgk⟩ := id C0
  intro h v0 v1 H locs ls hw hG hS hl
  unfold wp_S_agree_16 at hw
  refine lv_iconst (v := 0) hx hb dd_S_agree_16 (by decide) ?_
  have hl0 := hl
  clear hl
  refine lv_istore_n (lv' := [(2, .int 0), (0, .ref v0), (1, .ref v1)]) hx hb dd_S_agree_17 rfl hl0 (by decide) rfl (fun ls hl => ?_)
  obtain ⟨n, hw⟩ := hw
  exact wk_S_agree_18 C0 hr hlk n _ _ _ _ _ _ _ hw hG hS (lv_sub hl [1, 2, 0] rfl)
def wp_S_agree (g : Gm) (post : Hp → Prop) (h : Hp) (a0 : Nat) (b1 : Nat) : Prop := hK h a0 = 1 ∧ ∃ a2 : Nat, hR h a0 0 = some a2 ∧ hK h b1 = 4 ∧ wp_T_isInOrder g (fun x5 => ((¬ x5 = 0 → wp_S_agree_16 g post h a0 b1) ∧ (x5 = 0 → hK h a0 = 1 ∧ zB 0 ∧ ∀ h8 : Hp, h8 = sI h a0 5 0 → wp_S_agree_16 g post h8 a0 b1))) h b1 a2
set_option maxHeartbeats 4000000 in
set_option maxRecDepth 100000 in
theorem c_S_agree (l : Launch) (g : Gm) (post : Hp → Prop) (h : Hp) (a0 : Nat) (b1 : Nat) (hw : wp_S_agree g post h a0 b1) : Met l (⟨"SegmentLocks", "agree", "(LSegmentLocks$Task;)V"⟩ : MethodName) (ww (⟨"SegmentLocks", "agree", "(LSegmentLocks$Task;)V"⟩ : MethodName) prog_1_method_25_code 3 none) (rmm 7 173 0 0) (va_Pc [.ref a0, .ref b1] (gS g h)) (va_Qv post (gS g) (gA g)) 0 0 (gA g) := by
  first | refine en_met (by decide) ?_ | refine en_metF (by decide) ?_
  intro p e s m below meth c C0 hr hlk hin hG
  have hS : va_S (gA g) s.heap s.heap [] := va_S.rf
  have hl := lv_entry ([.ref a0, .ref b1]) (n := 3) (Nat.le_of_ble_eq_true rfl)
  rw [lg_entry_eq]
  generalize (lg_sl ([.ref a0, .ref b1]) ++ List.replicate (3 - (lg_sl ([.ref a0, .ref b1])).length) Slot.unset).toArray = ls at hl ⊢
  replace hl : lv_has ls 3 [(0, .ref a0), (1, .ref b1)] := hl
  obtain ⟨hx, hb, -, hown, hts, hgk⟩ := id C0
  unfold wp_S_agree at hw
  refine lv_aload_n hx hb dd_S_agree_0 rfl (lv_at hl 1 rfl) ?_
  refine lv_aload_n hx hb dd_S_agree_1 rfl (lv_at hl 0 rfl) ?_
  obtain ⟨k1, a2, ea2, hw⟩ := hw
  refine gf_S_9 C0 hG k1 ea2 dd_S_agree_2 ?_
  obtain ⟨k3, hw⟩ := hw
  have hw0 := hw
  clear hw
  refine cs_i (rn_V C0 hG hS (c_T_isInOrder l g _ h b1 a2 hw0) (ci := 3) k3 (by decide) rfl rfl (host := "SegmentLocks") (nest := true) (n := 1) (As := [.ref a2]) (rest := []) km_305 km_304 km_306 km_307 km_123 ⟨by decide, by decide, by decide +kernel⟩ ⟨Nat.le_of_ble_eq_true rfl, Nat.le_of_ble_eq_true rfl⟩ rfl hl.1 rfl (Nat.le_of_ble_eq_true rfl) dd_S_agree_5 ⟨Nat.le_refl _, Nat.le_refl _⟩) (fun x5 hw => ?_)
  refine lv_if_ne (tgt := 16) hx hb dd_S_agree_8 (by decide) (fun c6 => ?_) (fun c6 => ?_)
  · replace hw := hw.1 c6
    exact wk_S_agree_16 C0 hr hlk _ _ _ _ _ _ hw hG hS (lv_sub hl [0, 1] rfl)
  · replace hw := hw.2 c6
    refine lv_aload_n hx hb dd_S_agree_11 rfl (lv_at hl 0 rfl) ?_
    refine lv_iconst (v := 0) hx hb dd_S_agree_12 (by decide) ?_
    obtain ⟨k7, hz, hw⟩ := hw
    refine pf_S_38 C0 hG hS k7 hz dd_S_agree_13 (fun H locs hG hS => ?_)
    replace hw := hw _ rfl
    generalize sI h a0 5 0 = h8 at hw hG
    exact wk_S_agree_16 C0 hr hlk _ _ _ _ _ _ hw hG hS (lv_sub hl [0, 1] rfl)
/-! SegmentLocks.sync(I)I -/
theorem dd_S_sync_0 : decode prog_1_method_6_code 0 = .ok (.aload_n 0, 1) := by decide +kernel
theorem dd_S_sync_1 : decode prog_1_method_6_code 1 = .ok (.iload_n 1, 1) := by decide +kernel
theorem dd_S_sync_2 : decode prog_1_method_6_code 2 = .ok (.invokevirtual 55, 3) := by decide +kernel
theorem dd_S_sync_5 : decode prog_1_method_6_code 5 = .ok (.astore_n 2, 1) := by decide +kernel
theorem dd_S_sync_6 : decode prog_1_method_6_code 6 = .ok (.aload_n 2, 1) := by decide +kernel
theorem dd_S_sync_7 : decode prog_1_method_6_code 7 = .ok (.ifnonnull 6, 3) := by decide +kernel
theorem dd_S_sync_10 : decode prog_1_method_6_code 10 = .ok (.bipush (-2), 2) := by decide +kernel
theorem dd_S_sync_12 : decode prog_1_method_6_code 12 = .ok (.ireturn, 1) := by decide +kernel
theorem dd_S_sync_13 : decode prog_1_method_6_code 13 = .ok (.aload_n 2, 1) := by decide +kernel
theorem dd_S_sync_14 : decode prog_1_method_6_code 14 = .ok (.getfield 63, 3) := by decide +kernel
theorem dd_S_sync_17 : decode prog_1_method_6_code 17 = .ok (.ifCond .eq 6, 3) := by decide +kernel
theorem dd_S_sync_20 : decode prog_1_method_6_code 20 = .ok (.bipush (-5), 2) := by decide +kernel
theorem dd_S_sync_22 : decode prog_1_method_6_code 22 = .ok (.ireturn, 1) := by decide +kernel
theorem dd_S_sync_23 : decode prog_1_method_6_code 23 = .ok (.aload_n 2, 1) := by decide +kernel
theorem dd_S_sync_24 : decode prog_1_method_6_code 24 = .ok (.getfield 110, 3) := by decide +kernel
theorem dd_S_sync_27 : decode prog_1_method_6_code 27 = .ok (.istore_n 3, 1) := by decide +kernel
theorem dd_S_sync_28 : decode prog_1_method_6_code 28 = .ok (.aload_n 0, 1) := by decide +kernel
theorem dd_S_sync_29 : decode prog_1_method_6_code 29 = .ok (.aload_n 2, 1) := by decide +kernel
theorem dd_S_sync_30 : decode prog_1_method_6_code 30 = .ok (.invokevirtual 113, 3) := by decide +kernel
theorem dd_S_sync_33 : decode prog_1_method_6_code 33 = .ok (.iload_n 3, 1) := by decide +kernel
theorem dd_S_sync_34 : decode prog_1_method_6_code 34 = .ok (.ireturn, 1) := by decide +kernel
def wp_S_sync (g : Gm) (post : Int32 → Hp → Prop) (h : Hp) (a0 : Nat) (i1 : Int32) : Prop := hK h a0 = 1 ∧ wp_S_find g (fun r3 => ((r3 = none → post (-2) h) ∧ (∀ a4 : Nat, r3 = some a4 → hK h a4 = 4 ∧ (((hI h a4 9) = 0 → hK h a4 = 4 ∧ hK h a0 = 1 ∧ wp_S_agree g (fun h9 => post (hI h a4 11) h9) h a0 a4) ∧ (¬ (hI h a4 9) = 0 → post (-5) h))))) h a0 i1
set_option maxHeartbeats 4000000 in
set_option maxRecDepth 100000 in
theorem c_S_sync (l : Launch) (g : Gm) (post : Int32 → Hp → Prop) (h : Hp) (a0 : Nat) (i1 : Int32) (hw : wp_S_sync g post h a0 i1) : Met l (⟨"SegmentLocks", "sync", "(I)I"⟩ : MethodName) (ww (⟨"SegmentLocks", "sync", "(I)I"⟩ : MethodName) prog_1_method_6_code 4 (some .int)) (rmm 8 195 0 0) (va_Pc [.ref a0, .int i1] (gS g h)) (va_Qi post (gS g) (gA g)) 0 0 (gA g) := by
  first | refine en_met (by decide) ?_ | refine en_metF (by decide) ?_
  intro p e s m below meth c C0 hr hlk hin hG
  have hS : va_S (gA g) s.heap s.heap [] := va_S.rf
  have hl := lv_entry ([.ref a0, .int i1]) (n := 4) (Nat.le_of_ble_eq_true rfl)
  rw [lg_entry_eq]
  generalize (lg_sl ([.ref a0, .int i1]) ++ List.replicate (4 - (lg_sl ([.ref a0, .int i1])).length) Slot.unset).toArray = ls at hl ⊢
  replace hl : lv_has ls 4 [(0, .ref a0), (1, .int i1)] := hl
  obtain ⟨hx, hb, -, hown, hts, hgk⟩ := id C0
  unfold wp_S_sync at hw
  refine lv_aload_n hx hb dd_S_sync_0 rfl (lv_at hl 0 rfl) ?_
  refine lv_iload_n hx hb dd_S_sync_1 rfl (lv_at hl 1 rfl) ?_
  obtain ⟨k1, hw⟩ := hw
  have hw0 := hw
  clear hw
  refine cs_q (rn_V C0 hG hS (c_S_find l g _ h a0 i1 hw0) (ci := 0) k1 (by decide) rfl rfl (host := "") (nest := false) (n := 1) (As := [.int i1]) (rest := []) km_295 km_294 km_296 km_297 km_176 ⟨by decide, by decide, by decide +kernel⟩ ⟨Nat.le_of_ble_eq_true rfl, Nat.le_of_ble_eq_true rfl⟩ rfl hl.1 rfl (Nat.le_of_ble_eq_true rfl) dd_S_sync_2 ⟨Nat.le_refl _, Nat.le_refl _⟩) (fun r3 hw => ?_)
  have hl0 := hl
  clear hl
  refine px_astore_nq (lv' := [(2, va_rf r3), (0, .ref a0), (1, .int i1)]) hx hb dd_S_sync_5 rfl hl0 (by decide) rfl (fun ls hl => ?_)
  refine px_aload_nq hx hb dd_S_sync_6 rfl (lv_at hl 0 rfl) ?_
  refine px_ifnonnullq (tgt := 13) hx hb dd_S_sync_7 (by decide) (fun z => ?_) (fun a4 z => ?_)
  · replace hw := hw.1 z
    subst z
    replace hl : lv_has ls 4 [(2, .null), (0, .ref a0), (1, .int i1)] := hl
    refine lv_bipush (v := (-2)) hx hb dd_S_sync_10 (by decide) ?_
    exact re_i C0 hG hS hr hlk ⟨Nat.le_refl _, Nat.le_refl _⟩ hw dd_S_sync_12
  · replace hw := hw.2 a4 z
    subst z
    replace hl : lv_has ls 4 [(2, .ref a4), (0, .ref a0), (1, .int i1)] := hl
    refine lv_aload_n hx hb dd_S_sync_13 rfl (lv_at hl 0 rfl) ?_
    obtain ⟨k5, hw⟩ := hw
    refine gf_S_63 C0 hG k5 dd_S_sync_14 ?_
    refine lv_if_eq (tgt := 23) hx hb dd_S_sync_17 (by decide) (fun c6 => ?_) (fun c6 => ?_)
    · replace hw := hw.1 c6
      refine lv_aload_n hx hb dd_S_sync_23 rfl (lv_at hl 0 rfl) ?_
      obtain ⟨k7, hw⟩ := hw
      refine gf_S_110 C0 hG k7 dd_S_sync_24 ?_
      have hl0 := hl
      clear hl
      refine lv_istore_n (lv' := [(3, .int (hI h a4 11)), (2, .ref a4), (0, .ref a0), (1, .int i1)]) hx hb dd_S_sync_27 rfl hl0 (by decide) rfl (fun ls hl => ?_)
      refine lv_aload_n hx hb dd_S_sync_28 rfl (lv_at hl 2 rfl) ?_
      refine lv_aload_n hx hb dd_S_sync_29 rfl (lv_at hl 1 rfl) ?_
      obtain ⟨k8, hw⟩ := hw
      refine ca_v hS (rn_V C0 hG hS (c_S_agree l g _ h a0 a4 hw) (ci := 0) k8 (by decide) rfl rfl (host := "") (nest := false) (n := 1) (As := [.ref a4]) (rest := []) km_310 km_309 km_311 km_312 km_176 ⟨by decide, by decide, by decide +kernel⟩ ⟨Nat.le_of_ble_eq_true rfl, Nat.le_of_ble_eq_true rfl⟩ rfl hl.1 rfl (Nat.le_of_ble_eq_true rfl) dd_S_sync_30 ⟨Nat.le_refl _, Nat.le_refl _⟩) (fun h9 H locs hw hG hS => ?_)
      refine lv_iload_n hx hb dd_S_sync_33 rfl (lv_at hl 0 rfl) ?_
      exact re_i C0 hG hS hr hlk ⟨Nat.le_refl _, Nat.le_refl _⟩ hw dd_S_sync_34
    · replace hw := hw.2 c6
      refine lv_bipush (v := (-5)) hx hb dd_S_sync_20 (by decide) ?_
      exact re_i C0 hG hS hr hlk ⟨Nat.le_refl _, Nat.le_refl _⟩ hw dd_S_sync_22
/-! SegmentLocks.backout(I)I -/
theorem dd_S_backout_0 : decode prog_1_method_7_code 0 = .ok (.aload_n 0, 1) := by decide +kernel
theorem dd_S_backout_1 : decode prog_1_method_7_code 1 = .ok (.iload_n 1, 1) := by decide +kernel
theorem dd_S_backout_2 : decode prog_1_method_7_code 2 = .ok (.invokevirtual 55, 3) := by decide +kernel
theorem dd_S_backout_5 : decode prog_1_method_7_code 5 = .ok (.astore_n 2, 1) := by decide +kernel
theorem dd_S_backout_6 : decode prog_1_method_7_code 6 = .ok (.aload_n 2, 1) := by decide +kernel
theorem dd_S_backout_7 : decode prog_1_method_7_code 7 = .ok (.ifnonnull 6, 3) := by decide +kernel
theorem dd_S_backout_10 : decode prog_1_method_7_code 10 = .ok (.bipush (-2), 2) := by decide +kernel
theorem dd_S_backout_12 : decode prog_1_method_7_code 12 = .ok (.ireturn, 1) := by decide +kernel
theorem dd_S_backout_13 : decode prog_1_method_7_code 13 = .ok (.aload_n 2, 1) := by decide +kernel
theorem dd_S_backout_14 : decode prog_1_method_7_code 14 = .ok (.getfield 63, 3) := by decide +kernel
theorem dd_S_backout_17 : decode prog_1_method_7_code 17 = .ok (.iconst 2, 1) := by decide +kernel
theorem dd_S_backout_18 : decode prog_1_method_7_code 18 = .ok (.if_icmp .ne 6, 3) := by decide +kernel
theorem dd_S_backout_21 : decode prog_1_method_7_code 21 = .ok (.bipush (-5), 2) := by decide +kernel
theorem dd_S_backout_23 : decode prog_1_method_7_code 23 = .ok (.ireturn, 1) := by decide +kernel
theorem dd_S_backout_24 : decode prog_1_method_7_code 24 = .ok (.aload_n 2, 1) := by decide +kernel
theorem dd_S_backout_25 : decode prog_1_method_7_code 25 = .ok (.getfield 110, 3) := by decide +kernel
theorem dd_S_backout_28 : decode prog_1_method_7_code 28 = .ok (.istore_n 3, 1) := by decide +kernel
theorem dd_S_backout_29 : decode prog_1_method_7_code 29 = .ok (.aload_n 0, 1) := by decide +kernel
theorem dd_S_backout_30 : decode prog_1_method_7_code 30 = .ok (.aload_n 2, 1) := by decide +kernel
theorem dd_S_backout_31 : decode prog_1_method_7_code 31 = .ok (.iconst 0, 1) := by decide +kernel
theorem dd_S_backout_32 : decode prog_1_method_7_code 32 = .ok (.invokevirtual 117, 3) := by decide +kernel
theorem dd_S_backout_35 : decode prog_1_method_7_code 35 = .ok (.iload_n 3, 1) := by decide +kernel
theorem dd_S_backout_36 : decode prog_1_method_7_code 36 = .ok (.ireturn, 1) := by decide +kernel
def wp_S_backout (g : Gm) (post : Int32 → Hp → Prop) (h : Hp) (a0 : Nat) (i1 : Int32) : Prop := hK h a0 = 1 ∧ wp_S_find g (fun r3 => ((r3 = none → post (-2) h) ∧ (∀ a4 : Nat, r3 = some a4 → hK h a4 = 4 ∧ ((¬ (hI h a4 9) = 2 → hK h a4 = 4 ∧ hK h a0 = 1 ∧ wp_S_letGo g (fun h9 => post (hI h a4 11) h9) h a0 a4 0) ∧ ((hI h a4 9) = 2 → post (-5) h))))) h a0 i1
set_option maxHeartbeats 4000000 in
set_option maxRecDepth 100000 in
theorem c_S_backout (l : Launch) (g : Gm) (post : Int32 → Hp → Prop) (h : Hp) (a0 : Nat) (i1 : Int32) (hw : wp_S_backout g post h a0 i1) : Met l (⟨"SegmentLocks", "backout", "(I)I"⟩ : MethodName) (ww (⟨"SegmentLocks", "backout", "(I)I"⟩ : MethodName) prog_1_method_7_code 4 (some .int)) (rmm 7 173 0 0) (va_Pc [.ref a0, .int i1] (gS g h)) (va_Qi post (gS g) (gA g)) 0 0 (gA g) := by
  first | refine en_met (by decide) ?_ | refine en_metF (by decide) ?_
  intro p e s m below meth c C0 hr hlk hin hG
  have hS : va_S (gA g) s.heap s.heap [] := va_S.rf
  have hl := lv_entry ([.ref a0, .int i1]) (n := 4) (Nat.le_of_ble_eq_true rfl)
  rw [lg_entry_eq]
  generalize (lg_sl ([.ref a0, .int i1]) ++ List.replicate (4 - (lg_sl ([.ref a0, .int i1])).length) Slot.unset).toArray = ls at hl ⊢
  replace hl : lv_has ls 4 [(0, .ref a0), (1, .int i1)] := hl
  obtain ⟨hx, hb, -, hown, hts, hgk⟩ := id C0
  unfold wp_S_backout at hw
  refine lv_aload_n hx hb dd_S_backout_0 rfl (lv_at hl 0 rfl) ?_
  refine lv_iload_n hx hb dd_S_backout_1 rfl (lv_at hl 1 rfl) ?_
  obtain ⟨k1, hw⟩ := hw
  have hw0 := hw
  clear hw
  refine cs_q (rn_V C0 hG hS (c_S_find l g _ h a0 i1 hw0) (ci := 0) k1 (by decide) rfl rfl (host := "") (nest := false) (n := 1) (As := [.int i1]) (rest := []) km_295 km_294 km_296 km_297 km_176 ⟨by decide, by decide, by decide +kernel⟩ ⟨Nat.le_of_ble_eq_true rfl, Nat.le_of_ble_eq_true rfl⟩ rfl hl.1 rfl (Nat.le_of_ble_eq_true rfl) dd_S_backout_2 ⟨Nat.le_refl _, Nat.le_refl _⟩) (fun r3 hw => ?_)
  have hl0 := hl
  clear hl
  refine px_astore_nq (lv' := [(2, va_rf r3), (0, .ref a0), (1, .int i1)]) hx hb dd_S_backout_5 rfl hl0 (by decide) rfl (fun ls hl => ?_)
  refine px_aload_nq hx hb dd_S_backout_6 rfl (lv_at hl 0 rfl) ?_
  refine px_ifnonnullq (tgt := 13) hx hb dd_S_backout_7 (by decide) (fun z => ?_) (fun a4 z => ?_)
  · replace hw := hw.1 z
    subst z
    replace hl : lv_has ls 4 [(2, .null), (0, .ref a0), (1, .int i1)] := hl
    refine lv_bipush (v := (-2)) hx hb dd_S_backout_10 (by decide) ?_
    exact re_i C0 hG hS hr hlk ⟨Nat.le_refl _, Nat.le_refl _⟩ hw dd_S_backout_12
  · replace hw := hw.2 a4 z
    subst z
    replace hl : lv_has ls 4 [(2, .ref a4), (0, .ref a0), (1, .int i1)] := hl
    refine lv_aload_n hx hb dd_S_backout_13 rfl (lv_at hl 0 rfl) ?_
    obtain ⟨k5, hw⟩ := hw
    refine gf_S_63 C0 hG k5 dd_S_backout_14 ?_
    refine lv_iconst (v := 2) hx hb dd_S_backout_17 (by decide) ?_
    refine lv_icmp_ne (tgt := 24) hx hb dd_S_backout_18 (by decide) (fun c6 => ?_) (fun c6 => ?_)
    · replace hw := hw.1 c6
      refine lv_aload_n hx hb dd_S_backout_24 rfl (lv_at hl 0 rfl) ?_
      obtain ⟨k7, hw⟩ := hw
      refine gf_S_110 C0 hG k7 dd_S_backout_25 ?_
      have hl0 := hl
      clear hl
      refine lv_istore_n (lv' := [(3, .int (hI h a4 11)), (2, .ref a4), (0, .ref a0), (1, .int i1)]) hx hb dd_S_backout_28 rfl hl0 (by decide) rfl (fun ls hl => ?_)
      refine lv_aload_n hx hb dd_S_backout_29 rfl (lv_at hl 2 rfl) ?_
      refine lv_aload_n hx hb dd_S_backout_30 rfl (lv_at hl 1 rfl) ?_
      refine lv_iconst (v := 0) hx hb dd_S_backout_31 (by decide) ?_
      obtain ⟨k8, hw⟩ := hw
      refine ca_v hS (rn_V C0 hG hS (c_S_letGo l g _ h a0 a4 0 hw) (ci := 0) k8 (by decide) rfl rfl (host := "") (nest := false) (n := 2) (As := [.ref a4, .int 0]) (rest := []) km_267 km_266 km_268 km_269 km_176 ⟨by decide, by decide, by decide +kernel⟩ ⟨Nat.le_of_ble_eq_true rfl, Nat.le_of_ble_eq_true rfl⟩ rfl hl.1 rfl (Nat.le_of_ble_eq_true rfl) dd_S_backout_32 ⟨Nat.le_refl _, Nat.le_refl _⟩) (fun h9 H locs hw hG hS => ?_)
      refine lv_iload_n hx hb dd_S_backout_35 rfl (lv_at hl 0 rfl) ?_
      exact re_i C0 hG hS hr hlk ⟨Nat.le_refl _, Nat.le_refl _⟩ hw dd_S_backout_36
    · replace hw := hw.2 c6
      refine lv_bipush (v := (-5)) hx hb dd_S_backout_21 (by decide) ?_
      exact re_i C0 hG hS hr hlk ⟨Nat.le_refl _, Nat.le_refl _⟩ hw dd_S_backout_23
/-! SegmentLocks.ring(I)I -/
theorem dd_S_ring_0 : decode prog_1_method_8_code 0 = .ok (.aload_n 0, 1) := by decide +kernel
theorem dd_S_ring_1 : decode prog_1_method_8_code 1 = .ok (.getfield 30, 3) := by decide +kernel
theorem dd_S_ring_4 : decode prog_1_method_8_code 4 = .ok (.iload_n 1, 1) := by decide +kernel
theorem dd_S_ring_5 : decode prog_1_method_8_code 5 = .ok (.invokevirtual 121, 3) := by decide +kernel
theorem dd_S_ring_8 : decode prog_1_method_8_code 8 = .ok (.ireturn, 1) := by decide +kernel
def wp_S_ring (g : Gm) (post : Int32 → Prop) (h : Hp) (a0 : Nat) (i1 : Int32) : Prop := hK h a0 = 1 ∧ ∃ a2 : Nat, hR h a0 3 = some a2 ∧ hK h a2 = 3 ∧ wp_G_member g (fun x5 => post x5) h a2 i1
set_option maxHeartbeats 4000000 in
set_option maxRecDepth 100000 in
theorem c_S_ring (l : Launch) (g : Gm) (post : Int32 → Prop) (h : Hp) (a0 : Nat) (i1 : Int32) (hw : wp_S_ring g post h a0 i1) : Met l (⟨"SegmentLocks", "ring", "(I)I"⟩ : MethodName) (ww (⟨"SegmentLocks", "ring", "(I)I"⟩ : MethodName) prog_1_method_8_code 2 (some .int)) (rmm 4 85 0 0) (va_Pc [.ref a0, .int i1] (gS g h)) (vp_Si post) 0 0 (fun _ => False) := by
  first | refine en_met (by decide) ?_ | refine en_metF (by decide) ?_
  intro p e s m below meth c C0 hr hlk hin hG
  have hS : va_S (gA g) s.heap s.heap [] := va_S.rf
  have hl := lv_entry ([.ref a0, .int i1]) (n := 2) (Nat.le_of_ble_eq_true rfl)
  rw [lg_entry_eq]
  generalize (lg_sl ([.ref a0, .int i1]) ++ List.replicate (2 - (lg_sl ([.ref a0, .int i1])).length) Slot.unset).toArray = ls at hl ⊢
  replace hl : lv_has ls 2 [(0, .ref a0), (1, .int i1)] := hl
  obtain ⟨hx, hb, -, hown, hts, hgk⟩ := id C0
  unfold wp_S_ring at hw
  refine lv_aload_n hx hb dd_S_ring_0 rfl (lv_at hl 0 rfl) ?_
  obtain ⟨k1, a2, ea2, hw⟩ := hw
  refine gf_S_30 C0 hG k1 ea2 dd_S_ring_1 ?_
  refine lv_iload_n hx hb dd_S_ring_4 rfl (lv_at hl 1 rfl) ?_
  obtain ⟨k3, hw⟩ := hw
  have hw0 := hw
  clear hw
  refine cs_i (rn_V C0 hG hS (c_G_member l g _ h a2 i1 hw0) (ci := 2) k3 (by decide) rfl rfl (host := "SegmentLocks") (nest := true) (n := 1) (As := [.int i1]) (rest := []) km_315 km_314 km_316 km_317 km_43 ⟨by decide, by decide, by decide +kernel⟩ ⟨Nat.le_of_ble_eq_true rfl, Nat.le_of_ble_eq_true rfl⟩ rfl hl.1 rfl (Nat.le_of_ble_eq_true rfl) dd_S_ring_5 ⟨Nat.le_refl _, Nat.le_refl _⟩) (fun x5 hw => ?_)
  exact rs_i C0 hr hlk hw dd_S_ring_8
/-! SegmentLocks.checkpoint(I)I -/
theorem dd_S_checkpoint_0 : decode prog_1_method_9_code 0 = .ok (.aload_n 0, 1) := by decide +kernel
theorem dd_S_checkpoint_1 : decode prog_1_method_9_code 1 = .ok (.iload_n 1, 1) := by decide +kernel
theorem dd_S_checkpoint_2 : decode prog_1_method_9_code 2 = .ok (.invokevirtual 55, 3) := by decide +kernel
theorem dd_S_checkpoint_5 : decode prog_1_method_9_code 5 = .ok (.astore_n 2, 1) := by decide +kernel
theorem dd_S_checkpoint_6 : decode prog_1_method_9_code 6 = .ok (.aload_n 2, 1) := by decide +kernel
theorem dd_S_checkpoint_7 : decode prog_1_method_9_code 7 = .ok (.ifnonnull 6, 3) := by decide +kernel
theorem dd_S_checkpoint_10 : decode prog_1_method_9_code 10 = .ok (.bipush (-2), 2) := by decide +kernel
theorem dd_S_checkpoint_12 : decode prog_1_method_9_code 12 = .ok (.ireturn, 1) := by decide +kernel
theorem dd_S_checkpoint_13 : decode prog_1_method_9_code 13 = .ok (.aload_n 2, 1) := by decide +kernel
theorem dd_S_checkpoint_14 : decode prog_1_method_9_code 14 = .ok (.getfield 63, 3) := by decide +kernel
theorem dd_S_checkpoint_17 : decode prog_1_method_9_code 17 = .ok (.ifCond .eq 6, 3) := by decide +kernel
theorem dd_S_checkpoint_20 : decode prog_1_method_9_code 20 = .ok (.bipush (-5), 2) := by decide +kernel
theorem dd_S_checkpoint_22 : decode prog_1_method_9_code 22 = .ok (.ireturn, 1) := by decide +kernel
theorem dd_S_checkpoint_23 : decode prog_1_method_9_code 23 = .ok (.aload_n 2, 1) := by decide +kernel
theorem dd_S_checkpoint_24 : decode prog_1_method_9_code 24 = .ok (.getfield 125, 3) := by decide +kernel
theorem dd_S_checkpoint_27 : decode prog_1_method_9_code 27 = .ok (.istore_n 3, 1) := by decide +kernel
theorem dd_S_checkpoint_28 : decode prog_1_method_9_code 28 = .ok (.aload_n 0, 1) := by decide +kernel
theorem dd_S_checkpoint_29 : decode prog_1_method_9_code 29 = .ok (.aload_n 2, 1) := by decide +kernel
theorem dd_S_checkpoint_30 : decode prog_1_method_9_code 30 = .ok (.invokevirtual 113, 3) := by decide +kernel
theorem dd_S_checkpoint_33 : decode prog_1_method_9_code 33 = .ok (.iload_n 3, 1) := by decide +kernel
theorem dd_S_checkpoint_34 : decode prog_1_method_9_code 34 = .ok (.ireturn, 1) := by decide +kernel
def wp_S_checkpoint (g : Gm) (post : Int32 → Hp → Prop) (h : Hp) (a0 : Nat) (i1 : Int32) : Prop := hK h a0 = 1 ∧ wp_S_find g (fun r3 => ((r3 = none → post (-2) h) ∧ (∀ a4 : Nat, r3 = some a4 → hK h a4 = 4 ∧ (((hI h a4 9) = 0 → hK h a4 = 4 ∧ hK h a0 = 1 ∧ wp_S_agree g (fun h9 => post (hI h a4 10) h9) h a0 a4) ∧ (¬ (hI h a4 9) = 0 → post (-5) h))))) h a0 i1
set_option maxHeartbeats 4000000 in
set_option maxRecDepth 100000 in
theorem c_S_checkpoint (l : Launch) (g : Gm) (post : Int32 → Hp → Prop) (h : Hp) (a0 : Nat) (i1 : Int32) (hw : wp_S_checkpoint g post h a0 i1) : Met l (⟨"SegmentLocks", "checkpoint", "(I)I"⟩ : MethodName) (ww (⟨"SegmentLocks", "checkpoint", "(I)I"⟩ : MethodName) prog_1_method_9_code 4 (some .int)) (rmm 8 195 0 0) (va_Pc [.ref a0, .int i1] (gS g h)) (va_Qi post (gS g) (gA g)) 0 0 (gA g) := by
  first | refine en_met (by decide) ?_ | refine en_metF (by decide) ?_
  intro p e s m below meth c C0 hr hlk hin hG
  have hS : va_S (gA g) s.heap s.heap [] := va_S.rf
  have hl := lv_entry ([.ref a0, .int i1]) (n := 4) (Nat.le_of_ble_eq_true rfl)
  rw [lg_entry_eq]
  generalize (lg_sl ([.ref a0, .int i1]) ++ List.replicate (4 - (lg_sl ([.ref a0, .int i1])).length) Slot.unset).toArray = ls at hl ⊢
  replace hl : lv_has ls 4 [(0, .ref a0), (1, .int i1)] := hl
  obtain ⟨hx, hb, -, hown, hts, hgk⟩ := id C0
  unfold wp_S_checkpoint at hw
  refine lv_aload_n hx hb dd_S_checkpoint_0 rfl (lv_at hl 0 rfl) ?_
  refine lv_iload_n hx hb dd_S_checkpoint_1 rfl (lv_at hl 1 rfl) ?_
  obtain ⟨k1, hw⟩ := hw
  have hw0 := hw
  clear hw
  refine cs_q (rn_V C0 hG hS (c_S_find l g _ h a0 i1 hw0) (ci := 0) k1 (by decide) rfl rfl (host := "") (nest := false) (n := 1) (As := [.int i1]) (rest := []) km_295 km_294 km_296 km_297 km_176 ⟨by decide, by decide, by decide +kernel⟩ ⟨Nat.le_of_ble_eq_true rfl, Nat.le_of_ble_eq_true rfl⟩ rfl hl.1 rfl (Nat.le_of_ble_eq_true rfl) dd_S_checkpoint_2 ⟨Nat.le_refl _, Nat.le_refl _⟩) (fun r3 hw => ?_)
  have hl0 := hl
  clear hl
  refine px_astore_nq (lv' := [(2, va_rf r3), (0, .ref a0), (1, .int i1)]) hx hb dd_S_checkpoint_5 rfl hl0 (by decide) rfl (fun ls hl => ?_)
  refine px_aload_nq hx hb dd_S_checkpoint_6 rfl (lv_at hl 0 rfl) ?_
  refine px_ifnonnullq (tgt := 13) hx hb dd_S_checkpoint_7 (by decide) (fun z => ?_) (fun a4 z => ?_)
  · replace hw := hw.1 z
    subst z
    replace hl : lv_has ls 4 [(2, .null), (0, .ref a0), (1, .int i1)] := hl
    refine lv_bipush (v := (-2)) hx hb dd_S_checkpoint_10 (by decide) ?_
    exact re_i C0 hG hS hr hlk ⟨Nat.le_refl _, Nat.le_refl _⟩ hw dd_S_checkpoint_12
  · replace hw := hw.2 a4 z
    subst z
    replace hl : lv_has ls 4 [(2, .ref a4), (0, .ref a0), (1, .int i1)] := hl
    refine lv_aload_n hx hb dd_S_checkpoint_13 rfl (lv_at hl 0 rfl) ?_
    obtain ⟨k5, hw⟩ := hw
    refine gf_S_63 C0 hG k5 dd_S_checkpoint_14 ?_
    refine lv_if_eq (tgt := 23) hx hb dd_S_checkpoint_17 (by decide) (fun c6 => ?_) (fun c6 => ?_)
    · replace hw := hw.1 c6
      refine lv_aload_n hx hb dd_S_checkpoint_23 rfl (lv_at hl 0 rfl) ?_
      obtain ⟨k7, hw⟩ := hw
      refine gf_S_125 C0 hG k7 dd_S_checkpoint_24 ?_
      have hl0 := hl
      clear hl
      refine lv_istore_n (lv' := [(3, .int (hI h a4 10)), (2, .ref a4), (0, .ref a0), (1, .int i1)]) hx hb dd_S_checkpoint_27 rfl hl0 (by decide) rfl (fun ls hl => ?_)
      refine lv_aload_n hx hb dd_S_checkpoint_28 rfl (lv_at hl 2 rfl) ?_
      refine lv_aload_n hx hb dd_S_checkpoint_29 rfl (lv_at hl 1 rfl) ?_
      obtain ⟨k8, hw⟩ := hw
      refine ca_v hS (rn_V C0 hG hS (c_S_agree l g _ h a0 a4 hw) (ci := 0) k8 (by decide) rfl rfl (host := "") (nest := false) (n := 1) (As := [.ref a4]) (rest := []) km_310 km_309 km_311 km_312 km_176 ⟨by decide, by decide, by decide +kernel⟩ ⟨Nat.le_of_ble_eq_true rfl, Nat.le_of_ble_eq_true rfl⟩ rfl hl.1 rfl (Nat.le_of_ble_eq_true rfl) dd_S_checkpoint_30 ⟨Nat.le_refl _, Nat.le_refl _⟩) (fun h9 H locs hw hG hS => ?_)
      refine lv_iload_n hx hb dd_S_checkpoint_33 rfl (lv_at hl 0 rfl) ?_
      exact re_i C0 hG hS hr hlk ⟨Nat.le_refl _, Nat.le_refl _⟩ hw dd_S_checkpoint_34
    · replace hw := hw.2 c6
      refine lv_bipush (v := (-5)) hx hb dd_S_checkpoint_20 (by decide) ?_
      exact re_i C0 hG hS hr hlk ⟨Nat.le_refl _, Nat.le_refl _⟩ hw dd_S_checkpoint_22
/-! SegmentLocks.dead(I)I -/
theorem dd_S_dead_0 : decode prog_1_method_10_code 0 = .ok (.aload_n 0, 1) := by decide +kernel
theorem dd_S_dead_1 : decode prog_1_method_10_code 1 = .ok (.iload_n 1, 1) := by decide +kernel
theorem dd_S_dead_2 : decode prog_1_method_10_code 2 = .ok (.invokevirtual 55, 3) := by decide +kernel
theorem dd_S_dead_5 : decode prog_1_method_10_code 5 = .ok (.astore_n 2, 1) := by decide +kernel
theorem dd_S_dead_6 : decode prog_1_method_10_code 6 = .ok (.aload_n 2, 1) := by decide +kernel
theorem dd_S_dead_7 : decode prog_1_method_10_code 7 = .ok (.ifnonnull 6, 3) := by decide +kernel
theorem dd_S_dead_10 : decode prog_1_method_10_code 10 = .ok (.bipush (-2), 2) := by decide +kernel
theorem dd_S_dead_12 : decode prog_1_method_10_code 12 = .ok (.ireturn, 1) := by decide +kernel
theorem dd_S_dead_13 : decode prog_1_method_10_code 13 = .ok (.aload_n 2, 1) := by decide +kernel
theorem dd_S_dead_14 : decode prog_1_method_10_code 14 = .ok (.getfield 125, 3) := by decide +kernel
theorem dd_S_dead_17 : decode prog_1_method_10_code 17 = .ok (.istore_n 3, 1) := by decide +kernel
theorem dd_S_dead_18 : decode prog_1_method_10_code 18 = .ok (.aload_n 0, 1) := by decide +kernel
theorem dd_S_dead_19 : decode prog_1_method_10_code 19 = .ok (.aload_n 2, 1) := by decide +kernel
theorem dd_S_dead_20 : decode prog_1_method_10_code 20 = .ok (.iconst 2, 1) := by decide +kernel
theorem dd_S_dead_21 : decode prog_1_method_10_code 21 = .ok (.invokevirtual 117, 3) := by decide +kernel
theorem dd_S_dead_24 : decode prog_1_method_10_code 24 = .ok (.iload_n 3, 1) := by decide +kernel
theorem dd_S_dead_25 : decode prog_1_method_10_code 25 = .ok (.ireturn, 1) := by decide +kernel
def wp_S_dead (g : Gm) (post : Int32 → Hp → Prop) (h : Hp) (a0 : Nat) (i1 : Int32) : Prop := hK h a0 = 1 ∧ wp_S_find g (fun r3 => ((r3 = none → post (-2) h) ∧ (∀ a4 : Nat, r3 = some a4 → hK h a4 = 4 ∧ hK h a0 = 1 ∧ wp_S_letGo g (fun h7 => post (hI h a4 10) h7) h a0 a4 2))) h a0 i1
set_option maxHeartbeats 4000000 in
set_option maxRecDepth 100000 in
theorem c_S_dead (l : Launch) (g : Gm) (post : Int32 → Hp → Prop) (h : Hp) (a0 : Nat) (i1 : Int32) (hw : wp_S_dead g post h a0 i1) : Met l (⟨"SegmentLocks", "dead", "(I)I"⟩ : MethodName) (ww (⟨"SegmentLocks", "dead", "(I)I"⟩ : MethodName) prog_1_method_10_code 4 (some .int)) (rmm 7 173 0 0) (va_Pc [.ref a0, .int i1] (gS g h)) (va_Qi post (gS g) (gA g)) 0 0 (gA g) := by
  first | refine en_met (by decide) ?_ | refine en_metF (by decide) ?_
  intro p e s m below meth c C0 hr hlk hin hG
  have hS : va_S (gA g) s.heap s.heap [] := va_S.rf
  have hl := lv_entry ([.ref a0, .int i1]) (n := 4) (Nat.le_of_ble_eq_true rfl)
  rw [lg_entry_eq]
  generalize (lg_sl ([.ref a0, .int i1]) ++ List.replicate (4 - (lg_sl ([.ref a0, .int i1])).length) Slot.unset).toArray = ls at hl ⊢
  replace hl : lv_has ls 4 [(0, .ref a0), (1, .int i1)] := hl
  obtain ⟨hx, hb, -, hown, hts, hgk⟩ := id C0
  unfold wp_S_dead at hw
  refine lv_aload_n hx hb dd_S_dead_0 rfl (lv_at hl 0 rfl) ?_
  refine lv_iload_n hx hb dd_S_dead_1 rfl (lv_at hl 1 rfl) ?_
  obtain ⟨k1, hw⟩ := hw
  have hw0 := hw
  clear hw
  refine cs_q (rn_V C0 hG hS (c_S_find l g _ h a0 i1 hw0) (ci := 0) k1 (by decide) rfl rfl (host := "") (nest := false) (n := 1) (As := [.int i1]) (rest := []) km_295 km_294 km_296 km_297 km_176 ⟨by decide, by decide, by decide +kernel⟩ ⟨Nat.le_of_ble_eq_true rfl, Nat.le_of_ble_eq_true rfl⟩ rfl hl.1 rfl (Nat.le_of_ble_eq_true rfl) dd_S_dead_2 ⟨Nat.le_refl _, Nat.le_refl _⟩) (fun r3 hw => ?_)
  have hl0 := hl
  clear hl
  refine px_astore_nq (lv' := [(2, va_rf r3), (0, .ref a0), (1, .int i1)]) hx hb dd_S_dead_5 rfl hl0 (by decide) rfl (fun ls hl => ?_)
  refine px_aload_nq hx hb dd_S_dead_6 rfl (lv_at hl 0 rfl) ?_
  refine px_ifnonnullq (tgt := 13) hx hb dd_S_dead_7 (by decide) (fun z => ?_) (fun a4 z => ?_)
  · replace hw := hw.1 z
    subst z
    replace hl : lv_has ls 4 [(2, .null), (0, .ref a0), (1, .int i1)] := hl
    refine lv_bipush (v := (-2)) hx hb dd_S_dead_10 (by decide) ?_
    exact re_i C0 hG hS hr hlk ⟨Nat.le_refl _, Nat.le_refl _⟩ hw dd_S_dead_12
  · replace hw := hw.2 a4 z
    subst z
    replace hl : lv_has ls 4 [(2, .ref a4), (0, .ref a0), (1, .int i1)] := hl
    refine lv_aload_n hx hb dd_S_dead_13 rfl (lv_at hl 0 rfl) ?_
    obtain ⟨k5, hw⟩ := hw
    refine gf_S_125 C0 hG k5 dd_S_dead_14 ?_
    have hl0 := hl
    clear hl
    refine lv_istore_n (lv' := [(3, .int (hI h a4 10)), (2, .ref a4), (0, .ref a0), (1, .int i1)]) hx hb dd_S_dead_17 rfl hl0 (by decide) rfl (fun ls hl => ?_)
    refine lv_aload_n hx hb dd_S_dead_18 rfl (lv_at hl 2 rfl) ?_
    refine lv_aload_n hx hb dd_S_dead_19 rfl (lv_at hl 1 rfl) ?_
    refine lv_iconst (v := 2) hx hb dd_S_dead_20 (by decide) ?_
    obtain ⟨k6, hw⟩ := hw
    refine ca_v hS (rn_V C0 hG hS (c_S_letGo l g _ h a0 a4 2 hw) (ci := 0) k6 (by decide) rfl rfl (host := "") (nest := false) (n := 2) (As := [.ref a4, .int 2]) (rest := []) km_267 km_266 km_268 km_269 km_176 ⟨by decide, by decide, by decide +kernel⟩ ⟨Nat.le_of_ble_eq_true rfl, Nat.le_of_ble_eq_true rfl⟩ rfl hl.1 rfl (Nat.le_of_ble_eq_true rfl) dd_S_dead_21 ⟨Nat.le_refl _, Nat.le_refl _⟩) (fun h7 H locs hw hG hS => ?_)
    refine lv_iload_n hx hb dd_S_dead_24 rfl (lv_at hl 0 rfl) ?_
    exact re_i C0 hG hS hr hlk ⟨Nat.le_refl _, Nat.le_refl _⟩ hw dd_S_dead_25
/-! SegmentLocks.limit(I)I -/
theorem dd_S_limit_0 : decode prog_1_method_11_code 0 = .ok (.iload_n 1, 1) := by decide +kernel
theorem dd_S_limit_1 : decode prog_1_method_11_code 1 = .ok (.ifCond .ge 6, 3) := by decide +kernel
theorem dd_S_limit_4 : decode prog_1_method_11_code 4 = .ok (.bipush (-4), 2) := by decide +kernel
theorem dd_S_limit_6 : decode prog_1_method_11_code 6 = .ok (.ireturn, 1) := by decide +kernel
theorem dd_S_limit_7 : decode prog_1_method_11_code 7 = .ok (.aload_n 0, 1) := by decide +kernel
theorem dd_S_limit_8 : decode prog_1_method_11_code 8 = .ok (.getfield 34, 3) := by decide +kernel
theorem dd_S_limit_11 : decode prog_1_method_11_code 11 = .ok (.istore_n 2, 1) := by decide +kernel
theorem dd_S_limit_12 : decode prog_1_method_11_code 12 = .ok (.aload_n 0, 1) := by decide +kernel
theorem dd_S_limit_13 : decode prog_1_method_11_code 13 = .ok (.iload_n 1, 1) := by decide +kernel
theorem dd_S_limit_14 : decode prog_1_method_11_code 14 = .ok (.putfield 34, 3) := by decide +kernel
theorem dd_S_limit_17 : decode prog_1_method_11_code 17 = .ok (.iload_n 2, 1) := by decide +kernel
theorem dd_S_limit_18 : decode prog_1_method_11_code 18 = .ok (.ireturn, 1) := by decide +kernel
def wp_S_limit (g : Gm) (post : Int32 → Hp → Prop) (h : Hp) (a0 : Nat) (i1 : Int32) : Prop := ((0 ≤ i1 → hK h a0 = 1 ∧ hK h a0 = 1 ∧ ∀ h4 : Hp, h4 = sI h a0 4 i1 → post (hI h a0 4) h4) ∧ (¬ 0 ≤ i1 → post (-4) h))
set_option maxHeartbeats 4000000 in
set_option maxRecDepth 100000 in
theorem c_S_limit (l : Launch) (g : Gm) (post : Int32 → Hp → Prop) (h : Hp) (a0 : Nat) (i1 : Int32) (hw : wp_S_limit g post h a0 i1) : Met l (⟨"SegmentLocks", "limit", "(I)I"⟩ : MethodName) (ww (⟨"SegmentLocks", "limit", "(I)I"⟩ : MethodName) prog_1_method_11_code 3 (some .int)) (rmm 0 0 0 0) (va_Pc [.ref a0, .int i1] (gS g h)) (va_Qi post (gS g) (gA g)) 0 0 (gA g) := by
  first | refine en_met (by decide) ?_ | refine en_metF (by decide) ?_
  intro p e s m below meth c C0 hr hlk hin hG
  have hS : va_S (gA g) s.heap s.heap [] := va_S.rf
  have hl := lv_entry ([.ref a0, .int i1]) (n := 3) (Nat.le_of_ble_eq_true rfl)
  rw [lg_entry_eq]
  generalize (lg_sl ([.ref a0, .int i1]) ++ List.replicate (3 - (lg_sl ([.ref a0, .int i1])).length) Slot.unset).toArray = ls at hl ⊢
  replace hl : lv_has ls 3 [(0, .ref a0), (1, .int i1)] := hl
  obtain ⟨hx, hb, -, hown, hts, hgk⟩ := id C0
  unfold wp_S_limit at hw
  refine lv_iload_n hx hb dd_S_limit_0 rfl (lv_at hl 1 rfl) ?_
  refine lv_if_ge (tgt := 7) hx hb dd_S_limit_1 (by decide) (fun c1 => ?_) (fun c1 => ?_)
  · replace hw := hw.1 c1
    refine lv_aload_n hx hb dd_S_limit_7 rfl (lv_at hl 0 rfl) ?_
    obtain ⟨k2, hw⟩ := hw
    refine gf_S_34 C0 hG k2 dd_S_limit_8 ?_
    have hl0 := hl
    clear hl
    refine lv_istore_n (lv' := [(2, .int (hI h a0 4)), (0, .ref a0), (1, .int i1)]) hx hb dd_S_limit_11 rfl hl0 (by decide) rfl (fun ls hl => ?_)
    refine lv_aload_n hx hb dd_S_limit_12 rfl (lv_at hl 1 rfl) ?_
    refine lv_iload_n hx hb dd_S_limit_13 rfl (lv_at hl 2 rfl) ?_
    obtain ⟨k3, hw⟩ := hw
    refine pf_S_34 C0 hG hS k3 dd_S_limit_14 (fun H locs hG hS => ?_)
    replace hw := hw _ rfl
    generalize sI h a0 4 i1 = h4 at hw hG
    refine lv_iload_n hx hb dd_S_limit_17 rfl (lv_at hl 0 rfl) ?_
    exact re_i C0 hG hS hr hlk ⟨Nat.le_refl _, Nat.le_refl _⟩ hw dd_S_limit_18
  · replace hw := hw.2 c1
    refine lv_bipush (v := (-4)) hx hb dd_S_limit_4 (by decide) ?_
    exact re_i C0 hG hS hr hlk ⟨Nat.le_refl _, Nat.le_refl _⟩ hw dd_S_limit_6
/-! SegmentLocks.holder(I)I -/
theorem dd_S_holder_0 : decode prog_1_method_12_code 0 = .ok (.iload_n 1, 1) := by decide +kernel
theorem dd_S_holder_1 : decode prog_1_method_12_code 1 = .ok (.invokestatic 59, 3) := by decide +kernel
theorem dd_S_holder_4 : decode prog_1_method_12_code 4 = .ok (.ifCond .ne 6, 3) := by decide +kernel
theorem dd_S_holder_7 : decode prog_1_method_12_code 7 = .ok (.bipush (-4), 2) := by decide +kernel
theorem dd_S_holder_9 : decode prog_1_method_12_code 9 = .ok (.ireturn, 1) := by decide +kernel
theorem dd_S_holder_10 : decode prog_1_method_12_code 10 = .ok (.iconst (-1), 1) := by decide +kernel
theorem dd_S_holder_11 : decode prog_1_method_12_code 11 = .ok (.istore_n 2, 1) := by decide +kernel
theorem dd_S_holder_12 : decode prog_1_method_12_code 12 = .ok (.iconst 0, 1) := by decide +kernel
theorem dd_S_holder_13 : decode prog_1_method_12_code 13 = .ok (.istore_n 3, 1) := by decide +kernel
theorem dd_S_holder_14 : decode prog_1_method_12_code 14 = .ok (.iconst 0, 1) := by decide +kernel
theorem dd_S_holder_15 : decode prog_1_method_12_code 15 = .ok (.istore 4, 2) := by decide +kernel
theorem dd_S_holder_17 : decode prog_1_method_12_code 17 = .ok (.iload 4, 2) := by decide +kernel
theorem dd_S_holder_19 : decode prog_1_method_12_code 19 = .ok (.aload_n 0, 1) := by decide +kernel
theorem dd_S_holder_20 : decode prog_1_method_12_code 20 = .ok (.getfield 16, 3) := by decide +kernel
theorem dd_S_holder_23 : decode prog_1_method_12_code 23 = .ok (.invokevirtual 42, 3) := by decide +kernel
theorem dd_S_holder_26 : decode prog_1_method_12_code 26 = .ok (.if_icmp .ge 48, 3) := by decide +kernel
theorem dd_S_holder_29 : decode prog_1_method_12_code 29 = .ok (.aload_n 0, 1) := by decide +kernel
theorem dd_S_holder_30 : decode prog_1_method_12_code 30 = .ok (.getfield 16, 3) := by decide +kernel
theorem dd_S_holder_33 : decode prog_1_method_12_code 33 = .ok (.iload 4, 2) := by decide +kernel
theorem dd_S_holder_35 : decode prog_1_method_12_code 35 = .ok (.invokevirtual 128, 3) := by decide +kernel
theorem dd_S_holder_38 : decode prog_1_method_12_code 38 = .ok (.checkcast 46, 3) := by decide +kernel
theorem dd_S_holder_41 : decode prog_1_method_12_code 41 = .ok (.astore 5, 2) := by decide +kernel
theorem dd_S_holder_43 : decode prog_1_method_12_code 43 = .ok (.aload 5, 2) := by decide +kernel
theorem dd_S_holder_45 : decode prog_1_method_12_code 45 = .ok (.getfield 74, 3) := by decide +kernel
theorem dd_S_holder_48 : decode prog_1_method_12_code 48 = .ok (.iload_n 1, 1) := by decide +kernel
theorem dd_S_holder_49 : decode prog_1_method_12_code 49 = .ok (.iaload, 1) := by decide +kernel
theorem dd_S_holder_50 : decode prog_1_method_12_code 50 = .ok (.iload_n 2, 1) := by decide +kernel
theorem dd_S_holder_51 : decode prog_1_method_12_code 51 = .ok (.if_icmp .le 17, 3) := by decide +kernel
theorem dd_S_holder_54 : decode prog_1_method_12_code 54 = .ok (.aload 5, 2) := by decide +kernel
theorem dd_S_holder_56 : decode prog_1_method_12_code 56 = .ok (.getfield 74, 3) := by decide +kernel
theorem dd_S_holder_59 : decode prog_1_method_12_code 59 = .ok (.iload_n 1, 1) := by decide +kernel
theorem dd_S_holder_60 : decode prog_1_method_12_code 60 = .ok (.iaload, 1) := by decide +kernel
theorem dd_S_holder_61 : decode prog_1_method_12_code 61 = .ok (.istore_n 2, 1) := by decide +kernel
theorem dd_S_holder_62 : decode prog_1_method_12_code 62 = .ok (.aload 5, 2) := by decide +kernel
theorem dd_S_holder_64 : decode prog_1_method_12_code 64 = .ok (.getfield 132, 3) := by decide +kernel
theorem dd_S_holder_67 : decode prog_1_method_12_code 67 = .ok (.istore_n 3, 1) := by decide +kernel
theorem dd_S_holder_68 : decode prog_1_method_12_code 68 = .ok (.iinc 4 1, 3) := by decide +kernel
theorem dd_S_holder_71 : decode prog_1_method_12_code 71 = .ok (.goto (-54), 3) := by decide +kernel
theorem dd_S_holder_74 : decode prog_1_method_12_code 74 = .ok (.iload_n 3, 1) := by decide +kernel
theorem dd_S_holder_75 : decode prog_1_method_12_code 75 = .ok (.ireturn, 1) := by decide +kernel
def wp_S_holder_68 (g : Gm) (post : Int32 → Prop) (K17 : Hp → Nat → Int32 → Int32 → Int32 → Int32 → Prop) (h : Hp) (v0 : Nat) (v1 : Int32) (v2 : Int32) (v3 : Int32) (v4 : Int32) : Prop := ∀ x1 : Int32, x1 = v4 + 1 → K17 h v0 v1 v2 v3 x1
set_option maxHeartbeats 4000000 in
set_option maxRecDepth 100000 in
theorem wk_S_holder_68 {p : Program} {l : Launch} {e : Env} {s : State} {m : MethodId} {args : Array Value} {below : List Frame} {meth : Method} {c : Code} {g : Gm} {post : Int32 → Prop} (C0 : Cx g p s m args c prog_1_method_12_code 6 "SegmentLocks") (hr : meth.sig.returnType = (some .int)) (hlk : meth.locks = false) {K17 : Hp → Nat → Int32 → Int32 → Int32 → Int32 → Prop} (hK17 : ∀ (h : Hp) (v0 : Nat) (v1 : Int32) (v2 : Int32) (v3 : Int32) (v4 : Int32) (ls : Array Slot), K17 h v0 v1 v2 v3 v4 → GH g h s.heap → lv_has ls 6 [(0, .ref v0), (1, .int v1), (2, .int v2), (3, .int v3), (4, .int v4)] → W p l e (rmm 3 64 0 0) s m args below meth c s.heap [] 0 0 (MQ below (vp_Si post) args s 0 0 (fun _ => False)) (F0 m 17 ls [])) : ∀ (h : Hp) (v0 : Nat) (v1 : Int32) (v2 : Int32) (v3 : Int32) (v4 : Int32) (ls : Array Slot), wp_S_holder_68 g post K17 h v0 v1 v2 v3 v4 → GH g h s.heap → lv_has ls 6 [(0, .ref v0), (1, .int v1), (2, .int v2), (3, .int v3), (4, .int v4)] → W p l e (rmm 3 64 0 0) s m args below meth c s.heap [] 0 0 (MQ below (vp_Si post) args s 0 0 (fun _ => False)) (F0 m 68 ls []) := by
  obtain ⟨hx, hb, -, hown, hts, hgk⟩ := id C0
  have hS : va_S (gA g) s.heap s.heap [] := va_S.rf
  intro h v0 v1 v2 v3 v4 ls hw hG hl
  unfold wp_S_holder_68 at hw
  obtain ⟨x1, ex1⟩ : ∃ y : Int32, y = v4 + 1 := ⟨_, rfl⟩
  replace hw := hw x1 ex1
  have hl0 := hl
  clear hl
  refine lv_iinc (v := x1) (lv' := [(4, .int x1), (0, .ref v0), (1, .int v1), (2, .int v2), (3, .int v3)]) hx hb dd_S_holder_68 hl0 (k := 4) rfl (by rw [ex1]; rfl) (by decide) rfl (fun ls hl => ?_)
  refine lv_goto (tgt := 17) hx hb dd_S_holder_71 (by decide) ?_
  exact hK17 _ _ _ _ _ _ _ hw hG (lv_sub hl [1, 2, 3, 4, 0] rfl)
def wp_S_holder_17 (g : Gm) (post : Int32 → Prop) : Nat → Hp → Nat → Int32 → Int32 → Int32 → Int32 → Prop
  | 0, _, _, _, _, _, _ => False
  | fu + 1, h, v0, v1, v2, v3, v4 => hK h v0 = 1 ∧ ∃ a2 : Nat, hR h v0 1 = some a2 ∧ hK h a2 = 6 ∧ wp_A_size g (fun x5 => ((x5 ≤ v4 → post v3) ∧ (¬ x5 ≤ v4 → hK h v0 = 1 ∧ ∃ a8 : Nat, hR h v0 1 = some a8 ∧ hK h a8 = 6 ∧ wp_A_get g (fun r11 => ∃ a12 : Nat, r11 = some a12 ∧ hK h a12 = 4 ∧ hK h a12 = 4 ∧ ∃ a15 : Nat, hR h a12 2 = some a15 ∧ hK h a15 = 21 ∧ vp_in v1 (hN h a15) ∧ (((hI h a15 v1.toNatClampNeg) ≤ v2 → wp_S_holder_68 g post (fun h v0 v1 v2 v3 v4 => wp_S_holder_17 g post fu h v0 v1 v2 v3 v4) h v0 v1 v2 v3 v4) ∧ (¬ (hI h a15 v1.toNatClampNeg) ≤ v2 → hK h a12 = 4 ∧ ∃ a19 : Nat, hR h a12 2 = some a19 ∧ hK h a19 = 21 ∧ vp_in v1 (hN h a19) ∧ hK h a12 = 4 ∧ wp_S_holder_68 g post (fun h v0 v1 v2 v3 v4 => wp_S_holder_17 g post fu h v0 v1 v2 v3 v4) h v0 v1 (hI h a19 v1.toNatClampNeg) (hI h a12 0) v4))) h a8 v4))) h a2
set_option maxHeartbeats 4000000 in
set_option maxRecDepth 100000 in
theorem wk_S_holder_17 {p : Program} {l : Launch} {e : Env} {s : State} {m : MethodId} {args : Array Value} {below : List Frame} {meth : Method} {c : Code} {g : Gm} {post : Int32 → Prop} (C0 : Cx g p s m args c prog_1_method_12_code 6 "SegmentLocks") (hr : meth.sig.returnType = (some .int)) (hlk : meth.locks = false) : ∀ n : Nat, ∀ (h : Hp) (v0 : Nat) (v1 : Int32) (v2 : Int32) (v3 : Int32) (v4 : Int32) (ls : Array Slot), wp_S_holder_17 g post n h v0 v1 v2 v3 v4 → GH g h s.heap → lv_has ls 6 [(0, .ref v0), (1, .int v1), (2, .int v2), (3, .int v3), (4, .int v4)] → W p l e (rmm 3 64 0 0) s m args below meth c s.heap [] 0 0 (MQ below (vp_Si post) args s 0 0 (fun _ => False)) (F0 m 17 ls []) := by
  obtain ⟨hx, hb, -, hown, hts, hgk⟩ := id C0
  have hS : va_S (gA g) s.heap s.heap [] := va_S.rf
  intro n
  induction n with
  | zero =>
    intro h v0 v1 v2 v3 v4 ls hw hG hl
    exact hw.elim
  | succ n ih =>
    intro h v0 v1 v2 v3 v4 ls hw hG hl
    unfold wp_S_holder_17 at hw
    refine lv_iload hx hb dd_S_holder_17 (lv_at hl 4 rfl) ?_
    refine lv_aload_n hx hb dd_S_holder_19 rfl (lv_at hl 0 rfl) ?_
    obtain ⟨k1, a2, ea2, hw⟩ := hw
    refine gf_S_16 C0 hG k1 ea2 dd_S_holder_20 ?_
    obtain ⟨k3, hw⟩ := hw
    have hw0 := hw
    clear hw
    refine cs_i (rn_V C0 hG hS (c_A_size l g _ h a2 hw0) (ci := 5) k3 (by decide) rfl rfl (host := "") (nest := false) (n := 0) (As := []) (rest := [.int v4]) km_132 km_131 km_133 km_134 km_17 ⟨by decide, by decide, by decide +kernel⟩ ⟨Nat.le_of_ble_eq_true rfl, Nat.le_of_ble_eq_true rfl⟩ rfl hl.1 rfl (Nat.le_of_ble_eq_true rfl) dd_S_holder_23 ⟨Nat.le_refl _, Nat.le_refl _⟩) (fun x5 hw => ?_)
    refine lv_icmp_ge (tgt := 74) hx hb dd_S_holder_26 (by decide) (fun c6 => ?_) (fun c6 => ?_)
    · replace hw := hw.1 c6
      refine lv_iload_n hx hb dd_S_holder_74 rfl (lv_at hl 3 rfl) ?_
      exact rs_i C0 hr hlk hw dd_S_holder_75
    · replace hw := hw.2 c6
      refine lv_aload_n hx hb dd_S_holder_29 rfl (lv_at hl 0 rfl) ?_
      obtain ⟨k7, a8, ea8, hw⟩ := hw
      refine gf_S_16 C0 hG k7 ea8 dd_S_holder_30 ?_
      refine lv_iload hx hb dd_S_holder_33 (lv_at hl 4 rfl) ?_
      obtain ⟨k9, hw⟩ := hw
      have hw0 := hw
      clear hw
      refine cs_q (rn_V C0 hG hS (c_A_get l g _ h a8 v4 hw0) (ci := 5) k9 (by decide) rfl rfl (host := "") (nest := false) (n := 1) (As := [.int v4]) (rest := []) km_149 km_148 km_150 km_151 km_17 ⟨by decide, by decide, by decide +kernel⟩ ⟨Nat.le_of_ble_eq_true rfl, Nat.le_of_ble_eq_true rfl⟩ rfl hl.1 rfl (Nat.le_of_ble_eq_true rfl) dd_S_holder_35 ⟨Nat.le_refl _, Nat.le_refl _⟩) (fun r11 hw => ?_)
      obtain ⟨a12, rfl, hw⟩ := hw
      replace hl : lv_has ls 6 [(0, .ref v0), (1, .int v1), (2, .int v2), (3, .int v3), (4, .int v4)] := hl
      obtain ⟨k13, hw⟩ := hw
      refine va_castY (C := RX3) hx hb hown (hts _ km_121) (hgk.2.1 _ km_147) (px_recv C0 hG (ci := 3) k13 (by decide) rfl) dd_S_holder_38 ?_
      have hl0 := hl
      clear hl
      refine lv_astore (lv' := [(5, .ref a12), (0, .ref v0), (1, .int v1), (2, .int v2), (3, .int v3), (4, .int v4)]) hx hb dd_S_holder_41 hl0 (by decide) rfl (fun ls hl => ?_)
      refine lv_aload hx hb dd_S_holder_43 (lv_at hl 0 rfl) ?_
      obtain ⟨k14, a15, ea15, hw⟩ := hw
      refine gf_S_74 C0 hG k14 ea15 dd_S_holder_45 ?_
      refine lv_iload_n hx hb dd_S_holder_48 rfl (lv_at hl 2 rfl) ?_
      obtain ⟨k16, k16i, hw⟩ := hw
      refine px_iald C0 hG k16 k16i dd_S_holder_49 ?_
      refine lv_iload_n hx hb dd_S_holder_50 rfl (lv_at hl 3 rfl) ?_
      refine lv_icmp_le (tgt := 68) hx hb dd_S_holder_51 (by decide) (fun c17 => ?_) (fun c17 => ?_)
      · replace hw := hw.1 c17
        exact wk_S_holder_68 C0 hr hlk ih _ _ _ _ _ _ _ hw hG (lv_sub hl [1, 2, 3, 4, 5] rfl)
      · replace hw := hw.2 c17
        refine lv_aload hx hb dd_S_holder_54 (lv_at hl 0 rfl) ?_
        obtain ⟨k18, a19, ea19, hw⟩ := hw
        refine gf_S_74 C0 hG k18 ea19 dd_S_holder_56 ?_
        refine lv_iload_n hx hb dd_S_holder_59 rfl (lv_at hl 2 rfl) ?_
        obtain ⟨k20, k20i, hw⟩ := hw
        refine px_iald C0 hG k20 k20i dd_S_holder_60 ?_
        have hl0 := hl
        clear hl
        refine lv_istore_n (lv' := [(2, .int (hI h a19 v1.toNatClampNeg)), (5, .ref a12), (0, .ref v0), (1, .int v1), (3, .int v3), (4, .int v4)]) hx hb dd_S_holder_61 rfl hl0 (by decide) rfl (fun ls hl => ?_)
        refine lv_aload hx hb dd_S_holder_62 (lv_at hl 1 rfl) ?_
        obtain ⟨k21, hw⟩ := hw
        refine gf_S_132 C0 hG k21 dd_S_holder_64 ?_
        have hl0 := hl
        clear hl
        refine lv_istore_n (lv' := [(3, .int (hI h a12 0)), (2, .int (hI h a19 v1.toNatClampNeg)), (5, .ref a12), (0, .ref v0), (1, .int v1), (4, .int v4)]) hx hb dd_S_holder_67 rfl hl0 (by decide) rfl (fun ls hl => ?_)
        exact wk_S_holder_68 C0 hr hlk ih _ _ _ _ _ _ _ hw hG (lv_sub hl [3, 4, 1, 0, 5] rfl)
def wp_S_holder (g : Gm) (post : Int32 → Prop) (h : Hp) (a0 : Nat) (i1 : Int32) : Prop := wp_S_isSegment g (fun x3 => ((¬ x3 = 0 → ∃ n : Nat, wp_S_holder_17 g post n h a0 i1 (-1) 0 0) ∧ (x3 = 0 → post (-4)))) h i1
set_option maxHeartbeats 4000000 in
set_option maxRecDepth 100000 in
theorem c_S_holder (l : Launch) (g : Gm) (post : Int32 → Prop) (h : Hp) (a0 : Nat) (i1 : Int32) (hw : wp_S_holder g post h a0 i1) : Met l (⟨"SegmentLocks", "holder", "(I)I"⟩ : MethodName) (ww (⟨"SegmentLocks", "holder", "(I)I"⟩ : MethodName) prog_1_method_12_code 6 (some .int)) (rmm 3 64 0 0) (va_Pc [.ref a0, .int i1] (gS g h)) (vp_Si post) 0 0 (fun _ => False) := by
  first | refine en_met (by decide) ?_ | refine en_metF (by decide) ?_
  intro p e s m below meth c C0 hr hlk hin hG
  have hS : va_S (gA g) s.heap s.heap [] := va_S.rf
  have hl := lv_entry ([.ref a0, .int i1]) (n := 6) (Nat.le_of_ble_eq_true rfl)
  rw [lg_entry_eq]
  generalize (lg_sl ([.ref a0, .int i1]) ++ List.replicate (6 - (lg_sl ([.ref a0, .int i1])).length) Slot.unset).toArray = ls at hl ⊢
  replace hl : lv_has ls 6 [(0, .ref a0), (1, .int i1)] := hl
  obtain ⟨hx, hb, -, hown, hts, hgk⟩ := id C0
  unfold wp_S_holder at hw
  refine lv_iload_n hx hb dd_S_holder_0 rfl (lv_at hl 1 rfl) ?_
  have hw0 := hw
  clear hw
  refine cs_i (rn_S C0 hG hS (c_S_isSegment l g _ h i1 hw0) (host := "") (nest := false) (n := 1) (As := [.int i1]) (rest := []) km_219 km_293 km_220 km_176 ⟨by decide, by decide, by decide +kernel⟩ ⟨Nat.le_of_ble_eq_true rfl, Nat.le_of_ble_eq_true rfl⟩ rfl hl.1 rfl (Nat.le_of_ble_eq_true rfl) dd_S_holder_1 ⟨Nat.le_refl _, Nat.le_refl _⟩) (fun x3 hw => ?_)
  refine lv_if_ne (tgt := 10) hx hb dd_S_holder_4 (by decide) (fun c4 => ?_) (fun c4 => ?_)
  · replace hw := hw.1 c4
    refine lv_iconst (v := (-1)) hx hb dd_S_holder_10 (by decide) ?_
    have hl0 := hl
    clear hl
    refine lv_istore_n (lv' := [(2, .int (-1)), (0, .ref a0), (1, .int i1)]) hx hb dd_S_holder_11 rfl hl0 (by decide) rfl (fun ls hl => ?_)
    refine lv_iconst (v := 0) hx hb dd_S_holder_12 (by decide) ?_
    have hl0 := hl
    clear hl
    refine lv_istore_n (lv' := [(3, .int 0), (2, .int (-1)), (0, .ref a0), (1, .int i1)]) hx hb dd_S_holder_13 rfl hl0 (by decide) rfl (fun ls hl => ?_)
    refine lv_iconst (v := 0) hx hb dd_S_holder_14 (by decide) ?_
    have hl0 := hl
    clear hl
    refine lv_istore (lv' := [(4, .int 0), (3, .int 0), (2, .int (-1)), (0, .ref a0), (1, .int i1)]) hx hb dd_S_holder_15 hl0 (by decide) rfl (fun ls hl => ?_)
    obtain ⟨n, hw⟩ := hw
    exact wk_S_holder_17 C0 hr hlk n _ _ _ _ _ _ _ hw hG (lv_sub hl [3, 4, 2, 1, 0] rfl)
  · replace hw := hw.2 c4
    refine lv_bipush (v := (-4)) hx hb dd_S_holder_7 (by decide) ?_
    exact rs_i C0 hr hlk hw dd_S_holder_9
/-! SegmentLocks.serial()Z -/
theorem dd_S_serial_0 : decode prog_1_method_13_code 0 = .ok (.aload_n 0, 1) := by decide +kernel
theorem dd_S_serial_1 : decode prog_1_method_13_code 1 = .ok (.getfield 38, 3) := by decide +kernel
theorem dd_S_serial_4 : decode prog_1_method_13_code 4 = .ok (.ireturn, 1) := by decide +kernel
def wp_S_serial (g : Gm) (post : Int32 → Prop) (h : Hp) (a0 : Nat) : Prop := hK h a0 = 1 ∧ zB (hI h a0 5) ∧ post (hI h a0 5)
set_option maxHeartbeats 4000000 in
set_option maxRecDepth 100000 in
theorem c_S_serial (l : Launch) (g : Gm) (post : Int32 → Prop) (h : Hp) (a0 : Nat) (hw : wp_S_serial g post h a0) : Met l (⟨"SegmentLocks", "serial", "()Z"⟩ : MethodName) (ww (⟨"SegmentLocks", "serial", "()Z"⟩ : MethodName) prog_1_method_13_code 1 (some .boolean)) (rmm 0 0 0 0) (va_Pc [.ref a0] (gS g h)) (vp_Si post) 0 0 (fun _ => False) := by
  first | refine en_met (by decide) ?_ | refine en_metF (by decide) ?_
  intro p e s m below meth c C0 hr hlk hin hG
  have hS : va_S (gA g) s.heap s.heap [] := va_S.rf
  have hl := lv_entry ([.ref a0]) (n := 1) (Nat.le_of_ble_eq_true rfl)
  rw [lg_entry_eq]
  generalize (lg_sl ([.ref a0]) ++ List.replicate (1 - (lg_sl ([.ref a0])).length) Slot.unset).toArray = ls at hl ⊢
  replace hl : lv_has ls 1 [(0, .ref a0)] := hl
  obtain ⟨hx, hb, -, hown, hts, hgk⟩ := id C0
  unfold wp_S_serial at hw
  refine lv_aload_n hx hb dd_S_serial_0 rfl (lv_at hl 0 rfl) ?_
  obtain ⟨k1, hw⟩ := hw
  refine gf_S_38 C0 hG k1 dd_S_serial_1 ?_
  exact rs_z C0 hr hlk hw.1.nar hw.2 dd_S_serial_4
/-! SegmentLocks.state(II)I -/
theorem dd_S_state_0 : decode prog_1_method_15_code 0 = .ok (.aload_n 0, 1) := by decide +kernel
theorem dd_S_state_1 : decode prog_1_method_15_code 1 = .ok (.iload_n 1, 1) := by decide +kernel
theorem dd_S_state_2 : decode prog_1_method_15_code 2 = .ok (.invokevirtual 55, 3) := by decide +kernel
theorem dd_S_state_5 : decode prog_1_method_15_code 5 = .ok (.astore_n 3, 1) := by decide +kernel
theorem dd_S_state_6 : decode prog_1_method_15_code 6 = .ok (.aload_n 3, 1) := by decide +kernel
theorem dd_S_state_7 : decode prog_1_method_15_code 7 = .ok (.ifnonnull 5, 3) := by decide +kernel
theorem dd_S_state_10 : decode prog_1_method_15_code 10 = .ok (.iconst (-1), 1) := by decide +kernel
theorem dd_S_state_11 : decode prog_1_method_15_code 11 = .ok (.ireturn, 1) := by decide +kernel
theorem dd_S_state_12 : decode prog_1_method_15_code 12 = .ok (.iload_n 2, 1) := by decide +kernel
theorem dd_S_state_13 : decode prog_1_method_15_code 13 = .ok (.tableswitch 73 0 5 #[39, 44, 49, 54, 59, 64], 39) := by decide +kernel
theorem dd_S_state_52 : decode prog_1_method_15_code 52 = .ok (.aload_n 3, 1) := by decide +kernel
theorem dd_S_state_53 : decode prog_1_method_15_code 53 = .ok (.getfield 63, 3) := by decide +kernel
theorem dd_S_state_56 : decode prog_1_method_15_code 56 = .ok (.ireturn, 1) := by decide +kernel
theorem dd_S_state_57 : decode prog_1_method_15_code 57 = .ok (.aload_n 3, 1) := by decide +kernel
theorem dd_S_state_58 : decode prog_1_method_15_code 58 = .ok (.getfield 125, 3) := by decide +kernel
theorem dd_S_state_61 : decode prog_1_method_15_code 61 = .ok (.ireturn, 1) := by decide +kernel
theorem dd_S_state_62 : decode prog_1_method_15_code 62 = .ok (.aload_n 3, 1) := by decide +kernel
theorem dd_S_state_63 : decode prog_1_method_15_code 63 = .ok (.getfield 110, 3) := by decide +kernel
theorem dd_S_state_66 : decode prog_1_method_15_code 66 = .ok (.ireturn, 1) := by decide +kernel
theorem dd_S_state_67 : decode prog_1_method_15_code 67 = .ok (.aload_n 3, 1) := by decide +kernel
theorem dd_S_state_68 : decode prog_1_method_15_code 68 = .ok (.getfield 137, 3) := by decide +kernel
theorem dd_S_state_71 : decode prog_1_method_15_code 71 = .ok (.ireturn, 1) := by decide +kernel
theorem dd_S_state_72 : decode prog_1_method_15_code 72 = .ok (.aload_n 3, 1) := by decide +kernel
theorem dd_S_state_73 : decode prog_1_method_15_code 73 = .ok (.getfield 140, 3) := by decide +kernel
theorem dd_S_state_76 : decode prog_1_method_15_code 76 = .ok (.ireturn, 1) := by decide +kernel
theorem dd_S_state_77 : decode prog_1_method_15_code 77 = .ok (.aload_n 0, 1) := by decide +kernel
theorem dd_S_state_78 : decode prog_1_method_15_code 78 = .ok (.getfield 23, 3) := by decide +kernel
theorem dd_S_state_81 : decode prog_1_method_15_code 81 = .ok (.aload_n 3, 1) := by decide +kernel
theorem dd_S_state_82 : decode prog_1_method_15_code 82 = .ok (.invokevirtual 143, 3) := by decide +kernel
theorem dd_S_state_85 : decode prog_1_method_15_code 85 = .ok (.ireturn, 1) := by decide +kernel
theorem dd_S_state_86 : decode prog_1_method_15_code 86 = .ok (.iconst (-1), 1) := by decide +kernel
theorem dd_S_state_87 : decode prog_1_method_15_code 87 = .ok (.ireturn, 1) := by decide +kernel
def wp_S_state (g : Gm) (post : Int32 → Prop) (h : Hp) (a0 : Nat) (i1 : Int32) (i2 : Int32) : Prop := hK h a0 = 1 ∧ wp_S_find g (fun r3 => ((r3 = none → post (-1)) ∧ (∀ a4 : Nat, r3 = some a4 → ((i2.toInt < 0 ∨ 5 < i2.toInt → post (-1)) ∧ (i2.toInt = 0 → hK h a4 = 4 ∧ post (hI h a4 9)) ∧ (i2.toInt = 1 → hK h a4 = 4 ∧ post (hI h a4 10)) ∧ (i2.toInt = 2 → hK h a4 = 4 ∧ post (hI h a4 11)) ∧ (i2.toInt = 3 → hK h a4 = 4 ∧ post (hI h a4 12)) ∧ (i2.toInt = 4 → hK h a4 = 4 ∧ post (hI h a4 13)) ∧ (i2.toInt = 5 → hK h a0 = 1 ∧ ∃ a11 : Nat, hR h a0 2 = some a11 ∧ hK h a11 = 2 ∧ wp_W_countAhead g (fun x14 => post x14) h a11 a4))))) h a0 i1
set_option maxHeartbeats 4000000 in
set_option maxRecDepth 100000 in
theorem c_S_state (l : Launch) (g : Gm) (post : Int32 → Prop) (h : Hp) (a0 : Nat) (i1 : Int32) (i2 : Int32) (hw : wp_S_state g post h a0 i1 i2) : Met l (⟨"SegmentLocks", "state", "(II)I"⟩ : MethodName) (ww (⟨"SegmentLocks", "state", "(II)I"⟩ : MethodName) prog_1_method_15_code 4 (some .int)) (rmm 5 110 0 0) (va_Pc [.ref a0, .int i1, .int i2] (gS g h)) (vp_Si post) 0 0 (fun _ => False) := by
  first | refine en_met (by decide) ?_ | refine en_metF (by decide) ?_
  intro p e s m below meth c C0 hr hlk hin hG
  have hS : va_S (gA g) s.heap s.heap [] := va_S.rf
  have hl := lv_entry ([.ref a0, .int i1, .int i2]) (n := 4) (Nat.le_of_ble_eq_true rfl)
  rw [lg_entry_eq]
  generalize (lg_sl ([.ref a0, .int i1, .int i2]) ++ List.replicate (4 - (lg_sl ([.ref a0, .int i1, .int i2])).length) Slot.unset).toArray = ls at hl ⊢
  replace hl : lv_has ls 4 [(0, .ref a0), (1, .int i1), (2, .int i2)] := hl
  obtain ⟨hx, hb, -, hown, hts, hgk⟩ := id C0
  unfold wp_S_state at hw
  refine lv_aload_n hx hb dd_S_state_0 rfl (lv_at hl 0 rfl) ?_
  refine lv_iload_n hx hb dd_S_state_1 rfl (lv_at hl 1 rfl) ?_
  obtain ⟨k1, hw⟩ := hw
  have hw0 := hw
  clear hw
  refine cs_q (rn_V C0 hG hS (c_S_find l g _ h a0 i1 hw0) (ci := 0) k1 (by decide) rfl rfl (host := "") (nest := false) (n := 1) (As := [.int i1]) (rest := []) km_295 km_294 km_296 km_297 km_176 ⟨by decide, by decide, by decide +kernel⟩ ⟨Nat.le_of_ble_eq_true rfl, Nat.le_of_ble_eq_true rfl⟩ rfl hl.1 rfl (Nat.le_of_ble_eq_true rfl) dd_S_state_2 ⟨Nat.le_refl _, Nat.le_refl _⟩) (fun r3 hw => ?_)
  have hl0 := hl
  clear hl
  refine px_astore_nq (lv' := [(3, va_rf r3), (0, .ref a0), (1, .int i1), (2, .int i2)]) hx hb dd_S_state_5 rfl hl0 (by decide) rfl (fun ls hl => ?_)
  refine px_aload_nq hx hb dd_S_state_6 rfl (lv_at hl 0 rfl) ?_
  refine px_ifnonnullq (tgt := 12) hx hb dd_S_state_7 (by decide) (fun z => ?_) (fun a4 z => ?_)
  · replace hw := hw.1 z
    subst z
    replace hl : lv_has ls 4 [(3, .null), (0, .ref a0), (1, .int i1), (2, .int i2)] := hl
    refine lv_iconst (v := (-1)) hx hb dd_S_state_10 (by decide) ?_
    exact rs_i C0 hr hlk hw dd_S_state_11
  · replace hw := hw.2 a4 z
    subst z
    replace hl : lv_has ls 4 [(3, .ref a4), (0, .ref a0), (1, .int i1), (2, .int i2)] := hl
    refine lv_iload_n hx hb dd_S_state_12 rfl (lv_at hl 3 rfl) ?_
    rcases (show (i2.toInt < 0 ∨ 5 < i2.toInt) ∨ i2.toInt = 0 ∨ i2.toInt = 1 ∨ i2.toInt = 2 ∨ i2.toInt = 3 ∨ i2.toInt = 4 ∨ i2.toInt = 5 by omega) with z | z | z | z | z | z | z
    · replace hw := hw.1 z
      refine lv_tableOut (tgt := 86) hx hb dd_S_state_13 z (by decide) ?_
      refine lv_iconst (v := (-1)) hx hb dd_S_state_86 (by decide) ?_
      exact rs_i C0 hr hlk hw dd_S_state_87
    · replace hw := hw.2.1 z
      refine lv_tableIn (tgt := 52) hx hb dd_S_state_13 (by omega) (by omega) (by rw [z]; rfl) (by decide) ?_
      refine lv_aload_n hx hb dd_S_state_52 rfl (lv_at hl 0 rfl) ?_
      obtain ⟨k5, hw⟩ := hw
      refine gf_S_63 C0 hG k5 dd_S_state_53 ?_
      exact rs_i C0 hr hlk hw dd_S_state_56
    · replace hw := hw.2.2.1 z
      refine lv_tableIn (tgt := 57) hx hb dd_S_state_13 (by omega) (by omega) (by rw [z]; rfl) (by decide) ?_
      refine lv_aload_n hx hb dd_S_state_57 rfl (lv_at hl 0 rfl) ?_
      obtain ⟨k6, hw⟩ := hw
      refine gf_S_125 C0 hG k6 dd_S_state_58 ?_
      exact rs_i C0 hr hlk hw dd_S_state_61
    · replace hw := hw.2.2.2.1 z
      refine lv_tableIn (tgt := 62) hx hb dd_S_state_13 (by omega) (by omega) (by rw [z]; rfl) (by decide) ?_
      refine lv_aload_n hx hb dd_S_state_62 rfl (lv_at hl 0 rfl) ?_
      obtain ⟨k7, hw⟩ := hw
      refine gf_S_110 C0 hG k7 dd_S_state_63 ?_
      exact rs_i C0 hr hlk hw dd_S_state_66
    · replace hw := hw.2.2.2.2.1 z
      refine lv_tableIn (tgt := 67) hx hb dd_S_state_13 (by omega) (by omega) (by rw [z]; rfl) (by decide) ?_
      refine lv_aload_n hx hb dd_S_state_67 rfl (lv_at hl 0 rfl) ?_
      obtain ⟨k8, hw⟩ := hw
      refine gf_S_137 C0 hG k8 dd_S_state_68 ?_
      exact rs_i C0 hr hlk hw dd_S_state_71
    · replace hw := hw.2.2.2.2.2.1 z
      refine lv_tableIn (tgt := 72) hx hb dd_S_state_13 (by omega) (by omega) (by rw [z]; rfl) (by decide) ?_
      refine lv_aload_n hx hb dd_S_state_72 rfl (lv_at hl 0 rfl) ?_
      obtain ⟨k9, hw⟩ := hw
      refine gf_S_140 C0 hG k9 dd_S_state_73 ?_
      exact rs_i C0 hr hlk hw dd_S_state_76
    · replace hw := hw.2.2.2.2.2.2 z
      refine lv_tableIn (tgt := 77) hx hb dd_S_state_13 (by omega) (by omega) (by rw [z]; rfl) (by decide) ?_
      refine lv_aload_n hx hb dd_S_state_77 rfl (lv_at hl 1 rfl) ?_
      obtain ⟨k10, a11, ea11, hw⟩ := hw
      refine gf_S_23 C0 hG k10 ea11 dd_S_state_78 ?_
      refine lv_aload_n hx hb dd_S_state_81 rfl (lv_at hl 0 rfl) ?_
      obtain ⟨k12, hw⟩ := hw
      have hw0 := hw
      clear hw
      refine cs_i (rn_V C0 hG hS (c_W_countAhead l g _ h a11 a4 hw0) (ci := 1) k12 (by decide) rfl rfl (host := "SegmentLocks") (nest := true) (n := 1) (As := [.ref a4]) (rest := []) km_321 km_320 km_322 km_323 km_39 ⟨by decide, by decide, by decide +kernel⟩ ⟨Nat.le_of_ble_eq_true rfl, Nat.le_of_ble_eq_true rfl⟩ rfl hl.1 rfl (Nat.le_of_ble_eq_true rfl) dd_S_state_82 ⟨Nat.le_refl _, Nat.le_refl _⟩) (fun x14 hw => ?_)
      exact rs_i C0 hr hlk hw dd_S_state_85
/-! SegmentLocks.latest(I)J -/
theorem dd_S_latest_0 : decode prog_1_method_24_code 0 = .ok (.iconst 0, 1) := by decide +kernel
theorem dd_S_latest_1 : decode prog_1_method_24_code 1 = .ok (.istore_n 2, 1) := by decide +kernel
theorem dd_S_latest_2 : decode prog_1_method_24_code 2 = .ok (.iload_n 2, 1) := by decide +kernel
theorem dd_S_latest_3 : decode prog_1_method_24_code 3 = .ok (.aload_n 0, 1) := by decide +kernel
theorem dd_S_latest_4 : decode prog_1_method_24_code 4 = .ok (.getfield 16, 3) := by decide +kernel
theorem dd_S_latest_7 : decode prog_1_method_24_code 7 = .ok (.invokevirtual 42, 3) := by decide +kernel
theorem dd_S_latest_10 : decode prog_1_method_24_code 10 = .ok (.if_icmp .ge 37, 3) := by decide +kernel
theorem dd_S_latest_13 : decode prog_1_method_24_code 13 = .ok (.aload_n 0, 1) := by decide +kernel
theorem dd_S_latest_14 : decode prog_1_method_24_code 14 = .ok (.getfield 16, 3) := by decide +kernel
theorem dd_S_latest_17 : decode prog_1_method_24_code 17 = .ok (.iload_n 2, 1) := by decide +kernel
theorem dd_S_latest_18 : decode prog_1_method_24_code 18 = .ok (.invokevirtual 128, 3) := by decide +kernel
theorem dd_S_latest_21 : decode prog_1_method_24_code 21 = .ok (.checkcast 46, 3) := by decide +kernel
theorem dd_S_latest_24 : decode prog_1_method_24_code 24 = .ok (.astore_n 3, 1) := by decide +kernel
theorem dd_S_latest_25 : decode prog_1_method_24_code 25 = .ok (.aload_n 3, 1) := by decide +kernel
theorem dd_S_latest_26 : decode prog_1_method_24_code 26 = .ok (.getfield 96, 3) := by decide +kernel
theorem dd_S_latest_29 : decode prog_1_method_24_code 29 = .ok (.iload_n 1, 1) := by decide +kernel
theorem dd_S_latest_30 : decode prog_1_method_24_code 30 = .ok (.baload, 1) := by decide +kernel
theorem dd_S_latest_31 : decode prog_1_method_24_code 31 = .ok (.ifCond .eq 10, 3) := by decide +kernel
theorem dd_S_latest_34 : decode prog_1_method_24_code 34 = .ok (.aload_n 3, 1) := by decide +kernel
theorem dd_S_latest_35 : decode prog_1_method_24_code 35 = .ok (.getfield 99, 3) := by decide +kernel
theorem dd_S_latest_38 : decode prog_1_method_24_code 38 = .ok (.iload_n 1, 1) := by decide +kernel
theorem dd_S_latest_39 : decode prog_1_method_24_code 39 = .ok (.laload, 1) := by decide +kernel
theorem dd_S_latest_40 : decode prog_1_method_24_code 40 = .ok (.lreturn, 1) := by decide +kernel
theorem dd_S_latest_41 : decode prog_1_method_24_code 41 = .ok (.iinc 2 1, 3) := by decide +kernel
theorem dd_S_latest_44 : decode prog_1_method_24_code 44 = .ok (.goto (-42), 3) := by decide +kernel
theorem dd_S_latest_47 : decode prog_1_method_24_code 47 = .ok (.aload_n 0, 1) := by decide +kernel
theorem dd_S_latest_48 : decode prog_1_method_24_code 48 = .ok (.getfield 9, 3) := by decide +kernel
theorem dd_S_latest_51 : decode prog_1_method_24_code 51 = .ok (.iload_n 1, 1) := by decide +kernel
theorem dd_S_latest_52 : decode prog_1_method_24_code 52 = .ok (.laload, 1) := by decide +kernel
theorem dd_S_latest_53 : decode prog_1_method_24_code 53 = .ok (.lreturn, 1) := by decide +kernel
def wp_S_latest_2 (g : Gm) (post : Int64 → Prop) : Nat → Hp → Nat → Int32 → Int32 → Prop
  | 0, _, _, _, _ => False
  | fu + 1, h, v0, v1, v2 => hK h v0 = 1 ∧ ∃ a2 : Nat, hR h v0 1 = some a2 ∧ hK h a2 = 6 ∧ wp_A_size g (fun x5 => ((x5 ≤ v2 → hK h v0 = 1 ∧ ∃ a8 : Nat, hR h v0 0 = some a8 ∧ hK h a8 = 22 ∧ vp_in v1 (hN h a8) ∧ post (hJ h a8 v1.toNatClampNeg)) ∧ (¬ x5 ≤ v2 → hK h v0 = 1 ∧ ∃ a11 : Nat, hR h v0 1 = some a11 ∧ hK h a11 = 6 ∧ wp_A_get g (fun r14 => ∃ a15 : Nat, r14 = some a15 ∧ hK h a15 = 4 ∧ hK h a15 = 4 ∧ ∃ a18 : Nat, hR h a15 4 = some a18 ∧ hK h a18 = 23 ∧ vp_in v1 (hN h a18) ∧ (((hI h a18 v1.toNatClampNeg) = 0 → ∀ x21 : Int32, x21 = v2 + 1 → wp_S_latest_2 g post fu h v0 v1 x21) ∧ (¬ (hI h a18 v1.toNatClampNeg) = 0 → hK h a15 = 4 ∧ ∃ a23 : Nat, hR h a15 5 = some a23 ∧ hK h a23 = 22 ∧ vp_in v1 (hN h a23) ∧ post (hJ h a23 v1.toNatClampNeg)))) h a11 v2))) h a2
set_option maxHeartbeats 4000000 in
set_option maxRecDepth 100000 in
theorem wk_S_latest_2 {p : Program} {l : Launch} {e : Env} {s : State} {m : MethodId} {args : Array Value} {below : List Frame} {meth : Method} {c : Code} {g : Gm} {post : Int64 → Prop} (C0 : Cx g p s m args c prog_1_method_24_code 4 "SegmentLocks") (hr : meth.sig.returnType = (some .long)) (hlk : meth.locks = false) : ∀ n : Nat, ∀ (h : Hp) (v0 : Nat) (v1 : Int32) (v2 : Int32) (ls : Array Slot), wp_S_latest_2 g post n h v0 v1 v2 → GH g h s.heap → lv_has ls 4 [(0, .ref v0), (1, .int v1), (2, .int v2)] → W p l e (rmm 3 64 0 0) s m args below meth c s.heap [] 0 0 (MQ below (vp_Sl post) args s 0 0 (fun _ => False)) (F0 m 2 ls []) := by
  obtain ⟨hx, hb, -, hown, hts, hgk⟩ := id C0
  have hS : va_S (gA g) s.heap s.heap [] := va_S.rf
  intro n
  induction n with
  | zero =>
    intro h v0 v1 v2 ls hw hG hl
    exact hw.elim
  | succ n ih =>
    intro h v0 v1 v2 ls hw hG hl
    unfold wp_S_latest_2 at hw
    refine lv_iload_n hx hb dd_S_latest_2 rfl (lv_at hl 2 rfl) ?_
    refine lv_aload_n hx hb dd_S_latest_3 rfl (lv_at hl 0 rfl) ?_
    obtain ⟨k1, a2, ea2, hw⟩ := hw
    refine gf_S_16 C0 hG k1 ea2 dd_S_latest_4 ?_
    obtain ⟨k3, hw⟩ := hw
    have hw0 := hw
    clear hw
    refine cs_i (rn_V C0 hG hS (c_A_size l g _ h a2 hw0) (ci := 5) k3 (by decide) rfl rfl (host := "") (nest := false) (n := 0) (As := []) (rest := [.int v2]) km_132 km_131 km_133 km_134 km_17 ⟨by decide, by decide, by decide +kernel⟩ ⟨Nat.le_of_ble_eq_true rfl, Nat.le_of_ble_eq_true rfl⟩ rfl hl.1 rfl (Nat.le_of_ble_eq_true rfl) dd_S_latest_7 ⟨Nat.le_refl _, Nat.le_refl _⟩) (fun x5 hw => ?_)
    refine lv_icmp_ge (tgt := 47) hx hb dd_S_latest_10 (by decide) (fun c6 => ?_) (fun c6 => ?_)
    · replace hw := hw.1 c6
      refine lv_aload_n hx hb dd_S_latest_47 rfl (lv_at hl 0 rfl) ?_
      obtain ⟨k7, a8, ea8, hw⟩ := hw
      refine gf_S_9 C0 hG k7 ea8 dd_S_latest_48 ?_
      refine lv_iload_n hx hb dd_S_latest_51 rfl (lv_at hl 1 rfl) ?_
      obtain ⟨k9, k9i, hw⟩ := hw
      refine px_lald C0 hG k9 k9i dd_S_latest_52 ?_
      exact rs_l C0 hr hlk hw dd_S_latest_53
    · replace hw := hw.2 c6
      refine lv_aload_n hx hb dd_S_latest_13 rfl (lv_at hl 0 rfl) ?_
      obtain ⟨k10, a11, ea11, hw⟩ := hw
      refine gf_S_16 C0 hG k10 ea11 dd_S_latest_14 ?_
      refine lv_iload_n hx hb dd_S_latest_17 rfl (lv_at hl 2 rfl) ?_
      obtain ⟨k12, hw⟩ := hw
      have hw0 := hw
      clear hw
      refine cs_q (rn_V C0 hG hS (c_A_get l g _ h a11 v2 hw0) (ci := 5) k12 (by decide) rfl rfl (host := "") (nest := false) (n := 1) (As := [.int v2]) (rest := []) km_149 km_148 km_150 km_151 km_17 ⟨by decide, by decide, by decide +kernel⟩ ⟨Nat.le_of_ble_eq_true rfl, Nat.le_of_ble_eq_true rfl⟩ rfl hl.1 rfl (Nat.le_of_ble_eq_true rfl) dd_S_latest_18 ⟨Nat.le_refl _, Nat.le_refl _⟩) (fun r14 hw => ?_)
      obtain ⟨a15, rfl, hw⟩ := hw
      replace hl : lv_has ls 4 [(0, .ref v0), (1, .int v1), (2, .int v2)] := hl
      obtain ⟨k16, hw⟩ := hw
      refine va_castY (C := RX3) hx hb hown (hts _ km_121) (hgk.2.1 _ km_147) (px_recv C0 hG (ci := 3) k16 (by decide) rfl) dd_S_latest_21 ?_
      have hl0 := hl
      clear hl
      refine lv_astore_n (lv' := [(3, .ref a15), (0, .ref v0), (1, .int v1), (2, .int v2)]) hx hb dd_S_latest_24 rfl hl0 (by decide) rfl (fun ls hl => ?_)
      refine lv_aload_n hx hb dd_S_latest_25 rfl (lv_at hl 0 rfl) ?_
      obtain ⟨k17, a18, ea18, hw⟩ := hw
      refine gf_S_96 C0 hG k17 ea18 dd_S_latest_26 ?_
      refine lv_iload_n hx hb dd_S_latest_29 rfl (lv_at hl 2 rfl) ?_
      obtain ⟨k19, k19i, hw⟩ := hw
      refine px_zald C0 hG k19 k19i dd_S_latest_30 ?_
      refine lv_if_eq (tgt := 41) hx hb dd_S_latest_31 (by decide) (fun c20 => ?_) (fun c20 => ?_)
      · replace hw := hw.1 c20
        obtain ⟨x21, ex21⟩ : ∃ y : Int32, y = v2 + 1 := ⟨_, rfl⟩
        replace hw := hw x21 ex21
        have hl0 := hl
        clear hl
        refine lv_iinc (v := x21) (lv' := [(2, .int x21), (3, .ref a15), (0, .ref v0), (1, .int v1)]) hx hb dd_S_latest_41 hl0 (k := 3) rfl (by rw [ex21]; rfl) (by decide) rfl (fun ls hl => ?_)
        refine lv_goto (tgt := 2) hx hb dd_S_latest_44 (by decide) ?_
        exact ih _ _ _ _ _ hw hG (lv_sub hl [2, 3, 0] rfl)
      · replace hw := hw.2 c20
        refine lv_aload_n hx hb dd_S_latest_34 rfl (lv_at hl 0 rfl) ?_
        obtain ⟨k22, a23, ea23, hw⟩ := hw
        refine gf_S_99 C0 hG k22 ea23 dd_S_latest_35 ?_
        refine lv_iload_n hx hb dd_S_latest_38 rfl (lv_at hl 2 rfl) ?_
        obtain ⟨k24, k24i, hw⟩ := hw
        refine px_lald C0 hG k24 k24i dd_S_latest_39 ?_
        exact rs_l C0 hr hlk hw dd_S_latest_40
def wp_S_latest (g : Gm) (post : Int64 → Prop) (h : Hp) (a0 : Nat) (i1 : Int32) : Prop := ∃ n : Nat, wp_S_latest_2 g post n h a0 i1 0
set_option maxHeartbeats 4000000 in
set_option maxRecDepth 100000 in
theorem c_S_latest (l : Launch) (g : Gm) (post : Int64 → Prop) (h : Hp) (a0 : Nat) (i1 : Int32) (hw : wp_S_latest g post h a0 i1) : Met l (⟨"SegmentLocks", "latest", "(I)J"⟩ : MethodName) (ww (⟨"SegmentLocks", "latest", "(I)J"⟩ : MethodName) prog_1_method_24_code 4 (some .long)) (rmm 3 64 0 0) (va_Pc [.ref a0, .int i1] (gS g h)) (vp_Sl post) 0 0 (fun _ => False) := by
  first | refine en_met (by decide) ?_ | refine en_metF (by decide) ?_
  intro p e s m below meth c C0 hr hlk hin hG
  have hS : va_S (gA g) s.heap s.heap [] := va_S.rf
  have hl := lv_entry ([.ref a0, .int i1]) (n := 4) (Nat.le_of_ble_eq_true rfl)
  rw [lg_entry_eq]
  generalize (lg_sl ([.ref a0, .int i1]) ++ List.replicate (4 - (lg_sl ([.ref a0, .int i1])).length) Slot.unset).toArray = ls at hl ⊢
  replace hl : lv_has ls 4 [(0, .ref a0), (1, .int i1)] := hl
  obtain ⟨hx, hb, -, hown, hts, hgk⟩ := id C0
  unfold wp_S_latest at hw
  refine lv_iconst (v := 0) hx hb dd_S_latest_0 (by decide) ?_
  have hl0 := hl
  clear hl
  refine lv_istore_n (lv' := [(2, .int 0), (0, .ref a0), (1, .int i1)]) hx hb dd_S_latest_1 rfl hl0 (by decide) rfl (fun ls hl => ?_)
  obtain ⟨n, hw⟩ := hw
  exact wk_S_latest_2 C0 hr hlk n _ _ _ _ _ hw hG (lv_sub hl [1, 2, 0] rfl)
theorem dd_S_read_tA_0 : decode prog_1_method_5_code 0 = .ok (.aload_n 0, 1) := by decide +kernel
theorem dd_S_read_tA_1 : decode prog_1_method_5_code 1 = .ok (.iload_n 1, 1) := by decide +kernel
theorem dd_S_read_tA_2 : decode prog_1_method_5_code 2 = .ok (.invokevirtual 55, 3) := by decide +kernel
theorem dd_S_read_tA_5 : decode prog_1_method_5_code 5 = .ok (.astore_n 3, 1) := by decide +kernel
theorem dd_S_read_tA_6 : decode prog_1_method_5_code 6 = .ok (.aload_n 3, 1) := by decide +kernel
theorem dd_S_read_tA_7 : decode prog_1_method_5_code 7 = .ok (.ifnull 10, 3) := by decide +kernel
theorem dd_S_read_tA_10 : decode prog_1_method_5_code 10 = .ok (.iload_n 2, 1) := by decide +kernel
theorem dd_S_read_tA_11 : decode prog_1_method_5_code 11 = .ok (.invokestatic 59, 3) := by decide +kernel
theorem dd_S_read_tA_14 : decode prog_1_method_5_code 14 = .ok (.ifCond .ne 13, 3) := by decide +kernel
theorem dd_S_read_tA_17 : decode prog_1_method_5_code 17 = .ok (.new 82, 3) := by decide +kernel
theorem dd_S_read_tA_20 : decode prog_1_method_5_code 20 = .ok (.dup, 1) := by decide +kernel
theorem dd_S_read_tA_21 : decode prog_1_method_5_code 21 = .ok (.ldc 84, 2) := by decide +kernel
theorem dd_S_read_tA_23 : decode prog_1_method_5_code 23 = .ok (.invokespecial 86, 3) := by decide +kernel
theorem dd_S_read_tA_26 : decode prog_1_method_5_code 26 = .ok (.athrow, 1) := by decide +kernel
theorem dd_S_read_tA_27 : decode prog_1_method_5_code 27 = .ok (.aload_n 3, 1) := by decide +kernel
theorem dd_S_read_tA_28 : decode prog_1_method_5_code 28 = .ok (.getfield 63, 3) := by decide +kernel
theorem dd_S_read_tA_31 : decode prog_1_method_5_code 31 = .ok (.ifCond .eq 13, 3) := by decide +kernel
theorem dd_S_read_tA_44 : decode prog_1_method_5_code 44 = .ok (.aload_n 3, 1) := by decide +kernel
theorem dd_S_read_tA_45 : decode prog_1_method_5_code 45 = .ok (.getfield 74, 3) := by decide +kernel
theorem dd_S_read_tA_48 : decode prog_1_method_5_code 48 = .ok (.iload_n 2, 1) := by decide +kernel
theorem dd_S_read_tA_49 : decode prog_1_method_5_code 49 = .ok (.iaload, 1) := by decide +kernel
theorem dd_S_read_tA_50 : decode prog_1_method_5_code 50 = .ok (.iconst (-1), 1) := by decide +kernel
theorem dd_S_read_tA_51 : decode prog_1_method_5_code 51 = .ok (.if_icmp .eq 7, 3) := by decide +kernel
theorem dd_S_read_tA_54 : decode prog_1_method_5_code 54 = .ok (.iconst 1, 1) := by decide +kernel
theorem dd_S_read_tA_55 : decode prog_1_method_5_code 55 = .ok (.goto 4, 3) := by decide +kernel
theorem dd_S_read_tA_58 : decode prog_1_method_5_code 58 = .ok (.iconst 0, 1) := by decide +kernel
theorem dd_S_read_tA_59 : decode prog_1_method_5_code 59 = .ok (.istore 4, 2) := by decide +kernel
theorem dd_S_read_tA_61 : decode prog_1_method_5_code 61 = .ok (.iload 4, 2) := by decide +kernel
theorem dd_S_read_tA_63 : decode prog_1_method_5_code 63 = .ok (.ifCond .ne 22, 3) := by decide +kernel
theorem dd_S_read_tA_66 : decode prog_1_method_5_code 66 = .ok (.aload_n 3, 1) := by decide +kernel
theorem dd_S_read_tA_67 : decode prog_1_method_5_code 67 = .ok (.getfield 66, 3) := by decide +kernel
theorem dd_S_read_tA_70 : decode prog_1_method_5_code 70 = .ok (.iload_n 2, 1) := by decide +kernel
theorem dd_S_read_tA_71 : decode prog_1_method_5_code 71 = .ok (.baload, 1) := by decide +kernel
theorem dd_S_read_tA_72 : decode prog_1_method_5_code 72 = .ok (.ifCond .ne 13, 3) := by decide +kernel
theorem dd_S_read_tA_85 : decode prog_1_method_5_code 85 = .ok (.aload_n 3, 1) := by decide +kernel
theorem dd_S_read_tA_86 : decode prog_1_method_5_code 86 = .ok (.getfield 96, 3) := by decide +kernel
theorem dd_S_read_tA_89 : decode prog_1_method_5_code 89 = .ok (.iload_n 2, 1) := by decide +kernel
theorem dd_S_read_tA_90 : decode prog_1_method_5_code 90 = .ok (.baload, 1) := by decide +kernel
theorem dd_S_read_tA_91 : decode prog_1_method_5_code 91 = .ok (.ifCond .eq 10, 3) := by decide +kernel
theorem dd_S_read_tA_94 : decode prog_1_method_5_code 94 = .ok (.aload_n 3, 1) := by decide +kernel
theorem dd_S_read_tA_95 : decode prog_1_method_5_code 95 = .ok (.getfield 99, 3) := by decide +kernel
theorem dd_S_read_tA_98 : decode prog_1_method_5_code 98 = .ok (.iload_n 2, 1) := by decide +kernel
theorem dd_S_read_tA_99 : decode prog_1_method_5_code 99 = .ok (.laload, 1) := by decide +kernel
theorem dd_S_read_tA_101 : decode prog_1_method_5_code 101 = .ok (.iload 4, 2) := by decide +kernel
theorem dd_S_read_tA_103 : decode prog_1_method_5_code 103 = .ok (.ifCond .eq 12, 3) := by decide +kernel
theorem dd_S_read_tA_106 : decode prog_1_method_5_code 106 = .ok (.aload_n 0, 1) := by decide +kernel
theorem dd_S_read_tA_107 : decode prog_1_method_5_code 107 = .ok (.getfield 9, 3) := by decide +kernel
theorem dd_S_read_tA_110 : decode prog_1_method_5_code 110 = .ok (.iload_n 2, 1) := by decide +kernel
theorem dd_S_read_tA_111 : decode prog_1_method_5_code 111 = .ok (.laload, 1) := by decide +kernel
theorem dd_S_read_tA_112 : decode prog_1_method_5_code 112 = .ok (.goto 8, 3) := by decide +kernel
theorem dd_S_read_tA_115 : decode prog_1_method_5_code 115 = .ok (.aload_n 0, 1) := by decide +kernel
theorem dd_S_read_tA_116 : decode prog_1_method_5_code 116 = .ok (.iload_n 2, 1) := by decide +kernel
theorem dd_S_read_tA_117 : decode prog_1_method_5_code 117 = .ok (.invokevirtual 102, 3) := by decide +kernel
theorem dd_S_read_tA_120 : decode prog_1_method_5_code 120 = .ok (.lstore 5, 2) := by decide +kernel
theorem dd_S_read_tA_122 : decode prog_1_method_5_code 122 = .ok (.aload_n 3, 1) := by decide +kernel
theorem dd_S_read_tA_123 : decode prog_1_method_5_code 123 = .ok (.iload_n 2, 1) := by decide +kernel
theorem dd_S_read_tA_124 : decode prog_1_method_5_code 124 = .ok (.lload 5, 2) := by decide +kernel
theorem dd_S_read_tA_126 : decode prog_1_method_5_code 126 = .ok (.aload_n 0, 1) := by decide +kernel
theorem dd_S_read_tA_127 : decode prog_1_method_5_code 127 = .ok (.getfield 9, 3) := by decide +kernel
theorem dd_S_read_tA_130 : decode prog_1_method_5_code 130 = .ok (.iload_n 2, 1) := by decide +kernel
theorem dd_S_read_tA_131 : decode prog_1_method_5_code 131 = .ok (.laload, 1) := by decide +kernel
theorem dd_S_read_tA_132 : decode prog_1_method_5_code 132 = .ok (.invokevirtual 106, 3) := by decide +kernel
def wp_S_read_tA_17 (g : Gm) (h : Hp) : Prop := True
set_option maxHeartbeats 4000000 in
set_option maxRecDepth 100000 in
theorem wk_S_read_tA_17 {p : Program} {l : Launch} {e : Env} {s : State} {m : MethodId} {args : Array Value} {below : List Frame} {meth : Method} {c : Code} {g : Gm} (C0 : Cx g p s m args c prog_1_method_5_code 7 "SegmentLocks") (hfl : l.flags = pinnedFlags ++ [noTraceFlag]) (hlk : meth.locks = false) (htab : c.exceptionTable.isEmpty = true) : ∀ (h : Hp) (ls : Array Slot), wp_S_read_tA_17 g h → GH g h s.heap → lv_has ls 7 [] → W p l e (rmm 6 87 1 6) s m args below meth c s.heap [] 0 0 (QT below s "java/lang/IllegalArgumentException") (F0 m 17 ls []) := by
  obtain ⟨hx, hb, -, hown, hts, hgk⟩ := id C0
  have hS : va_S (gA g) s.heap s.heap [] := va_S.rf
  intro h ls hw hG hl
  unfold wp_S_read_tA_17 at hw
  exact px_throw C0 hfl hlk htab hl.1 km_332 km_333 km_334 (List.mem_of_getElem? (i := 0) rfl) at_A_86 (by decide) (by decide) dd_S_read_tA_17 dd_S_read_tA_20 dd_S_read_tA_21 dd_S_read_tA_23 dd_S_read_tA_26 (Nat.le_of_ble_eq_true rfl) (Nat.le_of_ble_eq_true rfl) (Nat.le_of_ble_eq_true rfl) (Nat.le_of_ble_eq_true rfl)
def wp_S_read_tA_120 (g : Gm) (h : Hp) (v0 : Nat) (v2 : Int32) (v3 : Nat) (s0 : Int64) : Prop := hK h v0 = 1 ∧ ∃ a2 : Nat, hR h v0 0 = some a2 ∧ hK h a2 = 22 ∧ vp_in v2 (hN h a2) ∧ False
set_option maxHeartbeats 4000000 in
set_option maxRecDepth 100000 in
theorem wk_S_read_tA_120 {p : Program} {l : Launch} {e : Env} {s : State} {m : MethodId} {args : Array Value} {below : List Frame} {meth : Method} {c : Code} {g : Gm} (C0 : Cx g p s m args c prog_1_method_5_code 7 "SegmentLocks") (hfl : l.flags = pinnedFlags ++ [noTraceFlag]) (hlk : meth.locks = false) (htab : c.exceptionTable.isEmpty = true) : ∀ (h : Hp) (v0 : Nat) (v2 : Int32) (v3 : Nat) (s0 : Int64) (ls : Array Slot), wp_S_read_tA_120 g h v0 v2 v3 s0 → GH g h s.heap → lv_has ls 7 [(0, .ref v0), (2, .int v2), (3, .ref v3)] → W p l e (rmm 6 87 1 6) s m args below meth c s.heap [] 0 0 (QT below s "java/lang/IllegalArgumentException") (F0 m 120 ls [.long s0]) := by
  obtain ⟨hx, hb, -, hown, hts, hgk⟩ := id C0
  have hS : va_S (gA g) s.heap s.heap [] := va_S.rf
  intro h v0 v2 v3 s0 ls hw hG hl
  unfold wp_S_read_tA_120 at hw
  have hl0 := hl
  clear hl
  refine lv_lstore (lv' := [(5, .long s0), (0, .ref v0), (2, .int v2), (3, .ref v3)]) hx hb dd_S_read_tA_120 hl0 (by decide) rfl (fun ls hl => ?_)
  refine lv_aload_n hx hb dd_S_read_tA_122 rfl (lv_at hl 3 rfl) ?_
  refine lv_iload_n hx hb dd_S_read_tA_123 rfl (lv_at hl 2 rfl) ?_
  refine lv_lload hx hb dd_S_read_tA_124 (lv_at hl 0 rfl) ?_
  refine lv_aload_n hx hb dd_S_read_tA_126 rfl (lv_at hl 1 rfl) ?_
  obtain ⟨k1, a2, ea2, hw⟩ := hw
  refine gf_S_9 C0 hG k1 ea2 dd_S_read_tA_127 ?_
  refine lv_iload_n hx hb dd_S_read_tA_130 rfl (lv_at hl 2 rfl) ?_
  obtain ⟨k3, k3i, hw⟩ := hw
  refine px_lald C0 hG k3 k3i dd_S_read_tA_131 ?_
  exact hw.elim
def wp_S_read_tA_85 (g : Gm) (h : Hp) (v0 : Nat) (v2 : Int32) (v3 : Nat) (v4 : Int32) : Prop := hK h v3 = 4 ∧ ∃ a2 : Nat, hR h v3 4 = some a2 ∧ hK h a2 = 23 ∧ vp_in v2 (hN h a2) ∧ (((hI h a2 v2.toNatClampNeg) = 0 → ((v4 = 0 → hK h v0 = 1 ∧ wp_S_latest g (fun j8 => wp_S_read_tA_120 g h v0 v2 v3 j8) h v0 v2) ∧ (¬ v4 = 0 → hK h v0 = 1 ∧ ∃ a10 : Nat, hR h v0 0 = some a10 ∧ hK h a10 = 22 ∧ vp_in v2 (hN h a10) ∧ wp_S_read_tA_120 g h v0 v2 v3 (hJ h a10 v2.toNatClampNeg)))) ∧ (¬ (hI h a2 v2.toNatClampNeg) = 0 → hK h v3 = 4 ∧ ∃ a13 : Nat, hR h v3 5 = some a13 ∧ hK h a13 = 22 ∧ vp_in v2 (hN h a13) ∧ False))
set_option maxHeartbeats 4000000 in
set_option maxRecDepth 100000 in
theorem wk_S_read_tA_85 {p : Program} {l : Launch} {e : Env} {s : State} {m : MethodId} {args : Array Value} {below : List Frame} {meth : Method} {c : Code} {g : Gm} (C0 : Cx g p s m args c prog_1_method_5_code 7 "SegmentLocks") (hfl : l.flags = pinnedFlags ++ [noTraceFlag]) (hlk : meth.locks = false) (htab : c.exceptionTable.isEmpty = true) : ∀ (h : Hp) (v0 : Nat) (v2 : Int32) (v3 : Nat) (v4 : Int32) (ls : Array Slot), wp_S_read_tA_85 g h v0 v2 v3 v4 → GH g h s.heap → lv_has ls 7 [(0, .ref v0), (2, .int v2), (3, .ref v3), (4, .int v4)] → W p l e (rmm 6 87 1 6) s m args below meth c s.heap [] 0 0 (QT below s "java/lang/IllegalArgumentException") (F0 m 85 ls []) := by
  obtain ⟨hx, hb, -, hown, hts, hgk⟩ := id C0
  have hS : va_S (gA g) s.heap s.heap [] := va_S.rf
  intro h v0 v2 v3 v4 ls hw hG hl
  unfold wp_S_read_tA_85 at hw
  refine lv_aload_n hx hb dd_S_read_tA_85 rfl (lv_at hl 2 rfl) ?_
  obtain ⟨k1, a2, ea2, hw⟩ := hw
  refine gf_S_96 C0 hG k1 ea2 dd_S_read_tA_86 ?_
  refine lv_iload_n hx hb dd_S_read_tA_89 rfl (lv_at hl 1 rfl) ?_
  obtain ⟨k3, k3i, hw⟩ := hw
  refine px_zald C0 hG k3 k3i dd_S_read_tA_90 ?_
  refine lv_if_eq (tgt := 101) hx hb dd_S_read_tA_91 (by decide) (fun c4 => ?_) (fun c4 => ?_)
  · replace hw := hw.1 c4
    refine lv_iload hx hb dd_S_read_tA_101 (lv_at hl 3 rfl) ?_
    refine lv_if_eq (tgt := 115) hx hb dd_S_read_tA_103 (by decide) (fun c5 => ?_) (fun c5 => ?_)
    · replace hw := hw.1 c5
      refine lv_aload_n hx hb dd_S_read_tA_115 rfl (lv_at hl 0 rfl) ?_
      refine lv_iload_n hx hb dd_S_read_tA_116 rfl (lv_at hl 1 rfl) ?_
      obtain ⟨k6, hw⟩ := hw
      have hw0 := hw
      clear hw
      refine cs_l (rn_V C0 hG hS (c_S_latest l g _ h v0 v2 hw0) (ci := 0) k6 (by decide) rfl rfl (host := "") (nest := false) (n := 1) (As := [.int v2]) (rest := []) km_329 km_328 km_330 km_331 km_176 ⟨by decide, by decide, by decide +kernel⟩ ⟨Nat.le_of_ble_eq_true rfl, Nat.le_of_ble_eq_true rfl⟩ rfl hl.1 rfl (Nat.le_of_ble_eq_true rfl) dd_S_read_tA_117 ⟨Nat.zero_le _, Nat.zero_le _⟩) (fun j8 hw => ?_)
      exact wk_S_read_tA_120 C0 hfl hlk htab _ _ _ _ _ _ hw hG (lv_sub hl [0, 1, 2] rfl)
    · replace hw := hw.2 c5
      refine lv_aload_n hx hb dd_S_read_tA_106 rfl (lv_at hl 0 rfl) ?_
      obtain ⟨k9, a10, ea10, hw⟩ := hw
      refine gf_S_9 C0 hG k9 ea10 dd_S_read_tA_107 ?_
      refine lv_iload_n hx hb dd_S_read_tA_110 rfl (lv_at hl 1 rfl) ?_
      obtain ⟨k11, k11i, hw⟩ := hw
      refine px_lald C0 hG k11 k11i dd_S_read_tA_111 ?_
      refine lv_goto (tgt := 120) hx hb dd_S_read_tA_112 (by decide) ?_
      exact wk_S_read_tA_120 C0 hfl hlk htab _ _ _ _ _ _ hw hG (lv_sub hl [0, 1, 2] rfl)
  · replace hw := hw.2 c4
    refine lv_aload_n hx hb dd_S_read_tA_94 rfl (lv_at hl 2 rfl) ?_
    obtain ⟨k12, a13, ea13, hw⟩ := hw
    refine gf_S_99 C0 hG k12 ea13 dd_S_read_tA_95 ?_
    refine lv_iload_n hx hb dd_S_read_tA_98 rfl (lv_at hl 1 rfl) ?_
    obtain ⟨k14, k14i, hw⟩ := hw
    refine px_lald C0 hG k14 k14i dd_S_read_tA_99 ?_
    exact hw.elim
def wp_S_read_tA_59 (g : Gm) (h : Hp) (v0 : Nat) (v2 : Int32) (v3 : Nat) (s0 : Int32) : Prop := ((¬ s0 = 0 → wp_S_read_tA_85 g h v0 v2 v3 s0) ∧ (s0 = 0 → hK h v3 = 4 ∧ ∃ a3 : Nat, hR h v3 3 = some a3 ∧ hK h a3 = 23 ∧ vp_in v2 (hN h a3) ∧ ((¬ (hI h a3 v2.toNatClampNeg) = 0 → wp_S_read_tA_85 g h v0 v2 v3 s0) ∧ ((hI h a3 v2.toNatClampNeg) = 0 → False))))
set_option maxHeartbeats 4000000 in
set_option maxRecDepth 100000 in
theorem wk_S_read_tA_59 {p : Program} {l : Launch} {e : Env} {s : State} {m : MethodId} {args : Array Value} {below : List Frame} {meth : Method} {c : Code} {g : Gm} (C0 : Cx g p s m args c prog_1_method_5_code 7 "SegmentLocks") (hfl : l.flags = pinnedFlags ++ [noTraceFlag]) (hlk : meth.locks = false) (htab : c.exceptionTable.isEmpty = true) : ∀ (h : Hp) (v0 : Nat) (v2 : Int32) (v3 : Nat) (s0 : Int32) (ls : Array Slot), wp_S_read_tA_59 g h v0 v2 v3 s0 → GH g h s.heap → lv_has ls 7 [(0, .ref v0), (2, .int v2), (3, .ref v3)] → W p l e (rmm 6 87 1 6) s m args below meth c s.heap [] 0 0 (QT below s "java/lang/IllegalArgumentException") (F0 m 59 ls [.int s0]) := by
  obtain ⟨hx, hb, -, hown, hts, hgk⟩ := id C0
  have hS : va_S (gA g) s.heap s.heap [] := va_S.rf
  intro h v0 v2 v3 s0 ls hw hG hl
  unfold wp_S_read_tA_59 at hw
  have hl0 := hl
  clear hl
  refine lv_istore (lv' := [(4, .int s0), (0, .ref v0), (2, .int v2), (3, .ref v3)]) hx hb dd_S_read_tA_59 hl0 (by decide) rfl (fun ls hl => ?_)
  refine lv_iload hx hb dd_S_read_tA_61 (lv_at hl 0 rfl) ?_
  refine lv_if_ne (tgt := 85) hx hb dd_S_read_tA_63 (by decide) (fun c1 => ?_) (fun c1 => ?_)
  · replace hw := hw.1 c1
    exact wk_S_read_tA_85 C0 hfl hlk htab _ _ _ _ _ _ hw hG (lv_sub hl [1, 2, 3, 0] rfl)
  · replace hw := hw.2 c1
    refine lv_aload_n hx hb dd_S_read_tA_66 rfl (lv_at hl 3 rfl) ?_
    obtain ⟨k2, a3, ea3, hw⟩ := hw
    refine gf_S_66 C0 hG k2 ea3 dd_S_read_tA_67 ?_
    refine lv_iload_n hx hb dd_S_read_tA_70 rfl (lv_at hl 2 rfl) ?_
    obtain ⟨k4, k4i, hw⟩ := hw
    refine px_zald C0 hG k4 k4i dd_S_read_tA_71 ?_
    refine lv_if_ne (tgt := 85) hx hb dd_S_read_tA_72 (by decide) (fun c5 => ?_) (fun c5 => ?_)
    · replace hw := hw.1 c5
      exact wk_S_read_tA_85 C0 hfl hlk htab _ _ _ _ _ _ hw hG (lv_sub hl [1, 2, 3, 0] rfl)
    · replace hw := hw.2 c5
      exact hw.elim
def wp_S_read_tA (g : Gm) (h : Hp) (a0 : Nat) (i1 : Int32) (i2 : Int32) : Prop := hK h a0 = 1 ∧ wp_S_find g (fun r3 => ((r3 = none → wp_S_read_tA_17 g h) ∧ (∀ a4 : Nat, r3 = some a4 → wp_S_isSegment g (fun x7 => ((¬ x7 = 0 → hK h a4 = 4 ∧ (((hI h a4 9) = 0 → hK h a4 = 4 ∧ ∃ a12 : Nat, hR h a4 2 = some a12 ∧ hK h a12 = 21 ∧ vp_in i2 (hN h a12) ∧ (((hI h a12 i2.toNatClampNeg) = (-1) → wp_S_read_tA_59 g h a0 i2 a4 0) ∧ (¬ (hI h a12 i2.toNatClampNeg) = (-1) → wp_S_read_tA_59 g h a0 i2 a4 1))) ∧ (¬ (hI h a4 9) = 0 → False))) ∧ (x7 = 0 → wp_S_read_tA_17 g h))) h i2))) h a0 i1
set_option maxHeartbeats 4000000 in
set_option maxRecDepth 100000 in
theorem c_S_read_tA (l : Launch) (hfl : l.flags = pinnedFlags ++ [noTraceFlag]) (g : Gm) (h : Hp) (a0 : Nat) (i1 : Int32) (i2 : Int32) (hw : wp_S_read_tA g h a0 i1 i2) : MetT l (⟨"SegmentLocks", "read", "(II)J"⟩ : MethodName) (ww (⟨"SegmentLocks", "read", "(II)J"⟩ : MethodName) prog_1_method_5_code 7 (some .long)) (rmm 6 87 1 6) (va_Pc [.ref a0, .int i1, .int i2] (gS g h)) "java/lang/IllegalArgumentException" 1 6 := by
  refine en_metT (by decide) ?_
  intro p e s m below meth c C0 hlk htab hG
  have hS : va_S (gA g) s.heap s.heap [] := va_S.rf
  have hl := lv_entry ([.ref a0, .int i1, .int i2]) (n := 7) (Nat.le_of_ble_eq_true rfl)
  rw [lg_entry_eq]
  generalize (lg_sl ([.ref a0, .int i1, .int i2]) ++ List.replicate (7 - (lg_sl ([.ref a0, .int i1, .int i2])).length) Slot.unset).toArray = ls at hl ⊢
  replace hl : lv_has ls 7 [(0, .ref a0), (1, .int i1), (2, .int i2)] := hl
  obtain ⟨hx, hb, -, hown, hts, hgk⟩ := id C0
  unfold wp_S_read_tA at hw
  refine lv_aload_n hx hb dd_S_read_tA_0 rfl (lv_at hl 0 rfl) ?_
  refine lv_iload_n hx hb dd_S_read_tA_1 rfl (lv_at hl 1 rfl) ?_
  obtain ⟨k1, hw⟩ := hw
  have hw0 := hw
  clear hw
  refine cs_q (rn_V C0 hG hS (c_S_find l g _ h a0 i1 hw0) (ci := 0) k1 (by decide) rfl rfl (host := "") (nest := false) (n := 1) (As := [.int i1]) (rest := []) km_295 km_294 km_296 km_297 km_176 ⟨by decide, by decide, by decide +kernel⟩ ⟨Nat.le_of_ble_eq_true rfl, Nat.le_of_ble_eq_true rfl⟩ rfl hl.1 rfl (Nat.le_of_ble_eq_true rfl) dd_S_read_tA_2 ⟨Nat.zero_le _, Nat.zero_le _⟩) (fun r3 hw => ?_)
  have hl0 := hl
  clear hl
  refine px_astore_nq (lv' := [(3, va_rf r3), (0, .ref a0), (1, .int i1), (2, .int i2)]) hx hb dd_S_read_tA_5 rfl hl0 (by decide) rfl (fun ls hl => ?_)
  refine px_aload_nq hx hb dd_S_read_tA_6 rfl (lv_at hl 0 rfl) ?_
  refine px_ifnullq (tgt := 17) hx hb dd_S_read_tA_7 (by decide) (fun z => ?_) (fun a4 z => ?_)
  · replace hw := hw.1 z
    subst z
    replace hl : lv_has ls 7 [(3, .null), (0, .ref a0), (1, .int i1), (2, .int i2)] := hl
    exact wk_S_read_tA_17 C0 hfl hlk htab _ _ hw hG (lv_sub hl [] rfl)
  · replace hw := hw.2 a4 z
    subst z
    replace hl : lv_has ls 7 [(3, .ref a4), (0, .ref a0), (1, .int i1), (2, .int i2)] := hl
    refine lv_iload_n hx hb dd_S_read_tA_10 rfl (lv_at hl 3 rfl) ?_
    have hw0 := hw
    clear hw
    refine cs_i (rn_S C0 hG hS (c_S_isSegment l g _ h i2 hw0) (host := "") (nest := false) (n := 1) (As := [.int i2]) (rest := []) km_219 km_293 km_220 km_176 ⟨by decide, by decide, by decide +kernel⟩ ⟨Nat.le_of_ble_eq_true rfl, Nat.le_of_ble_eq_true rfl⟩ rfl hl.1 rfl (Nat.le_of_ble_eq_true rfl) dd_S_read_tA_11 ⟨Nat.zero_le _, Nat.zero_le _⟩) (fun x7 hw => ?_)
    refine lv_if_ne (tgt := 27) hx hb dd_S_read_tA_14 (by decide) (fun c8 => ?_) (fun c8 => ?_)
    · replace hw := hw.1 c8
      refine lv_aload_n hx hb dd_S_read_tA_27 rfl (lv_at hl 0 rfl) ?_
      obtain ⟨k9, hw⟩ := hw
      refine gf_S_63 C0 hG k9 dd_S_read_tA_28 ?_
      refine lv_if_eq (tgt := 44) hx hb dd_S_read_tA_31 (by decide) (fun c10 => ?_) (fun c10 => ?_)
      · replace hw := hw.1 c10
        refine lv_aload_n hx hb dd_S_read_tA_44 rfl (lv_at hl 0 rfl) ?_
        obtain ⟨k11, a12, ea12, hw⟩ := hw
        refine gf_S_74 C0 hG k11 ea12 dd_S_read_tA_45 ?_
        refine lv_iload_n hx hb dd_S_read_tA_48 rfl (lv_at hl 3 rfl) ?_
        obtain ⟨k13, k13i, hw⟩ := hw
        refine px_iald C0 hG k13 k13i dd_S_read_tA_49 ?_
        refine lv_iconst (v := (-1)) hx hb dd_S_read_tA_50 (by decide) ?_
        refine lv_icmp_eq (tgt := 58) hx hb dd_S_read_tA_51 (by decide) (fun c14 => ?_) (fun c14 => ?_)
        · replace hw := hw.1 c14
          refine lv_iconst (v := 0) hx hb dd_S_read_tA_58 (by decide) ?_
          exact wk_S_read_tA_59 C0 hfl hlk htab _ _ _ _ _ _ hw hG (lv_sub hl [1, 3, 0] rfl)
        · replace hw := hw.2 c14
          refine lv_iconst (v := 1) hx hb dd_S_read_tA_54 (by decide) ?_
          refine lv_goto (tgt := 59) hx hb dd_S_read_tA_55 (by decide) ?_
          exact wk_S_read_tA_59 C0 hfl hlk htab _ _ _ _ _ _ hw hG (lv_sub hl [1, 3, 0] rfl)
      · replace hw := hw.2 c10
        exact hw.elim
    · replace hw := hw.2 c8
      exact wk_S_read_tA_17 C0 hfl hlk htab _ _ hw hG (lv_sub hl [] rfl)
theorem dd_S_read_tS_0 : decode prog_1_method_5_code 0 = .ok (.aload_n 0, 1) := by decide +kernel
theorem dd_S_read_tS_1 : decode prog_1_method_5_code 1 = .ok (.iload_n 1, 1) := by decide +kernel
theorem dd_S_read_tS_2 : decode prog_1_method_5_code 2 = .ok (.invokevirtual 55, 3) := by decide +kernel
theorem dd_S_read_tS_5 : decode prog_1_method_5_code 5 = .ok (.astore_n 3, 1) := by decide +kernel
theorem dd_S_read_tS_6 : decode prog_1_method_5_code 6 = .ok (.aload_n 3, 1) := by decide +kernel
theorem dd_S_read_tS_7 : decode prog_1_method_5_code 7 = .ok (.ifnull 10, 3) := by decide +kernel
theorem dd_S_read_tS_10 : decode prog_1_method_5_code 10 = .ok (.iload_n 2, 1) := by decide +kernel
theorem dd_S_read_tS_11 : decode prog_1_method_5_code 11 = .ok (.invokestatic 59, 3) := by decide +kernel
theorem dd_S_read_tS_14 : decode prog_1_method_5_code 14 = .ok (.ifCond .ne 13, 3) := by decide +kernel
theorem dd_S_read_tS_27 : decode prog_1_method_5_code 27 = .ok (.aload_n 3, 1) := by decide +kernel
theorem dd_S_read_tS_28 : decode prog_1_method_5_code 28 = .ok (.getfield 63, 3) := by decide +kernel
theorem dd_S_read_tS_31 : decode prog_1_method_5_code 31 = .ok (.ifCond .eq 13, 3) := by decide +kernel
theorem dd_S_read_tS_34 : decode prog_1_method_5_code 34 = .ok (.new 89, 3) := by decide +kernel
theorem dd_S_read_tS_37 : decode prog_1_method_5_code 37 = .ok (.dup, 1) := by decide +kernel
theorem dd_S_read_tS_38 : decode prog_1_method_5_code 38 = .ok (.ldc 91, 2) := by decide +kernel
theorem dd_S_read_tS_40 : decode prog_1_method_5_code 40 = .ok (.invokespecial 93, 3) := by decide +kernel
theorem dd_S_read_tS_43 : decode prog_1_method_5_code 43 = .ok (.athrow, 1) := by decide +kernel
theorem dd_S_read_tS_44 : decode prog_1_method_5_code 44 = .ok (.aload_n 3, 1) := by decide +kernel
theorem dd_S_read_tS_45 : decode prog_1_method_5_code 45 = .ok (.getfield 74, 3) := by decide +kernel
theorem dd_S_read_tS_48 : decode prog_1_method_5_code 48 = .ok (.iload_n 2, 1) := by decide +kernel
theorem dd_S_read_tS_49 : decode prog_1_method_5_code 49 = .ok (.iaload, 1) := by decide +kernel
theorem dd_S_read_tS_50 : decode prog_1_method_5_code 50 = .ok (.iconst (-1), 1) := by decide +kernel
theorem dd_S_read_tS_51 : decode prog_1_method_5_code 51 = .ok (.if_icmp .eq 7, 3) := by decide +kernel
theorem dd_S_read_tS_54 : decode prog_1_method_5_code 54 = .ok (.iconst 1, 1) := by decide +kernel
theorem dd_S_read_tS_55 : decode prog_1_method_5_code 55 = .ok (.goto 4, 3) := by decide +kernel
theorem dd_S_read_tS_58 : decode prog_1_method_5_code 58 = .ok (.iconst 0, 1) := by decide +kernel
theorem dd_S_read_tS_59 : decode prog_1_method_5_code 59 = .ok (.istore 4, 2) := by decide +kernel
theorem dd_S_read_tS_61 : decode prog_1_method_5_code 61 = .ok (.iload 4, 2) := by decide +kernel
theorem dd_S_read_tS_63 : decode prog_1_method_5_code 63 = .ok (.ifCond .ne 22, 3) := by decide +kernel
theorem dd_S_read_tS_66 : decode prog_1_method_5_code 66 = .ok (.aload_n 3, 1) := by decide +kernel
theorem dd_S_read_tS_67 : decode prog_1_method_5_code 67 = .ok (.getfield 66, 3) := by decide +kernel
theorem dd_S_read_tS_70 : decode prog_1_method_5_code 70 = .ok (.iload_n 2, 1) := by decide +kernel
theorem dd_S_read_tS_71 : decode prog_1_method_5_code 71 = .ok (.baload, 1) := by decide +kernel
theorem dd_S_read_tS_72 : decode prog_1_method_5_code 72 = .ok (.ifCond .ne 13, 3) := by decide +kernel
theorem dd_S_read_tS_75 : decode prog_1_method_5_code 75 = .ok (.new 89, 3) := by decide +kernel
theorem dd_S_read_tS_78 : decode prog_1_method_5_code 78 = .ok (.dup, 1) := by decide +kernel
theorem dd_S_read_tS_79 : decode prog_1_method_5_code 79 = .ok (.ldc 94, 2) := by decide +kernel
theorem dd_S_read_tS_81 : decode prog_1_method_5_code 81 = .ok (.invokespecial 93, 3) := by decide +kernel
theorem dd_S_read_tS_84 : decode prog_1_method_5_code 84 = .ok (.athrow, 1) := by decide +kernel
theorem dd_S_read_tS_85 : decode prog_1_method_5_code 85 = .ok (.aload_n 3, 1) := by decide +kernel
theorem dd_S_read_tS_86 : decode prog_1_method_5_code 86 = .ok (.getfield 96, 3) := by decide +kernel
theorem dd_S_read_tS_89 : decode prog_1_method_5_code 89 = .ok (.iload_n 2, 1) := by decide +kernel
theorem dd_S_read_tS_90 : decode prog_1_method_5_code 90 = .ok (.baload, 1) := by decide +kernel
theorem dd_S_read_tS_91 : decode prog_1_method_5_code 91 = .ok (.ifCond .eq 10, 3) := by decide +kernel
theorem dd_S_read_tS_94 : decode prog_1_method_5_code 94 = .ok (.aload_n 3, 1) := by decide +kernel
theorem dd_S_read_tS_95 : decode prog_1_method_5_code 95 = .ok (.getfield 99, 3) := by decide +kernel
theorem dd_S_read_tS_98 : decode prog_1_method_5_code 98 = .ok (.iload_n 2, 1) := by decide +kernel
theorem dd_S_read_tS_99 : decode prog_1_method_5_code 99 = .ok (.laload, 1) := by decide +kernel
theorem dd_S_read_tS_101 : decode prog_1_method_5_code 101 = .ok (.iload 4, 2) := by decide +kernel
theorem dd_S_read_tS_103 : decode prog_1_method_5_code 103 = .ok (.ifCond .eq 12, 3) := by decide +kernel
theorem dd_S_read_tS_106 : decode prog_1_method_5_code 106 = .ok (.aload_n 0, 1) := by decide +kernel
theorem dd_S_read_tS_107 : decode prog_1_method_5_code 107 = .ok (.getfield 9, 3) := by decide +kernel
theorem dd_S_read_tS_110 : decode prog_1_method_5_code 110 = .ok (.iload_n 2, 1) := by decide +kernel
theorem dd_S_read_tS_111 : decode prog_1_method_5_code 111 = .ok (.laload, 1) := by decide +kernel
theorem dd_S_read_tS_112 : decode prog_1_method_5_code 112 = .ok (.goto 8, 3) := by decide +kernel
theorem dd_S_read_tS_115 : decode prog_1_method_5_code 115 = .ok (.aload_n 0, 1) := by decide +kernel
theorem dd_S_read_tS_116 : decode prog_1_method_5_code 116 = .ok (.iload_n 2, 1) := by decide +kernel
theorem dd_S_read_tS_117 : decode prog_1_method_5_code 117 = .ok (.invokevirtual 102, 3) := by decide +kernel
theorem dd_S_read_tS_120 : decode prog_1_method_5_code 120 = .ok (.lstore 5, 2) := by decide +kernel
theorem dd_S_read_tS_122 : decode prog_1_method_5_code 122 = .ok (.aload_n 3, 1) := by decide +kernel
theorem dd_S_read_tS_123 : decode prog_1_method_5_code 123 = .ok (.iload_n 2, 1) := by decide +kernel
theorem dd_S_read_tS_124 : decode prog_1_method_5_code 124 = .ok (.lload 5, 2) := by decide +kernel
theorem dd_S_read_tS_126 : decode prog_1_method_5_code 126 = .ok (.aload_n 0, 1) := by decide +kernel
theorem dd_S_read_tS_127 : decode prog_1_method_5_code 127 = .ok (.getfield 9, 3) := by decide +kernel
theorem dd_S_read_tS_130 : decode prog_1_method_5_code 130 = .ok (.iload_n 2, 1) := by decide +kernel
theorem dd_S_read_tS_131 : decode prog_1_method_5_code 131 = .ok (.laload, 1) := by decide +kernel
theorem dd_S_read_tS_132 : decode prog_1_method_5_code 132 = .ok (.invokevirtual 106, 3) := by decide +kernel
def wp_S_read_tS_17 (g : Gm) (h : Hp) : Prop := False
set_option maxHeartbeats 4000000 in
set_option maxRecDepth 100000 in
theorem wk_S_read_tS_17 {p : Program} {l : Launch} {e : Env} {s : State} {m : MethodId} {args : Array Value} {below : List Frame} {meth : Method} {c : Code} {g : Gm} (C0 : Cx g p s m args c prog_1_method_5_code 7 "SegmentLocks") (hfl : l.flags = pinnedFlags ++ [noTraceFlag]) (hlk : meth.locks = false) (htab : c.exceptionTable.isEmpty = true) : ∀ (h : Hp) (ls : Array Slot), wp_S_read_tS_17 g h → GH g h s.heap → lv_has ls 7 [] → W p l e (rmm 6 87 1 6) s m args below meth c s.heap [] 0 0 (QT below s "java/lang/IllegalStateException") (F0 m 17 ls []) := by
  obtain ⟨hx, hb, -, hown, hts, hgk⟩ := id C0
  have hS : va_S (gA g) s.heap s.heap [] := va_S.rf
  intro h ls hw hG hl
  unfold wp_S_read_tS_17 at hw
  exact hw.elim
def wp_S_read_tS_120 (g : Gm) (h : Hp) (v0 : Nat) (v2 : Int32) (v3 : Nat) (s0 : Int64) : Prop := hK h v0 = 1 ∧ ∃ a2 : Nat, hR h v0 0 = some a2 ∧ hK h a2 = 22 ∧ vp_in v2 (hN h a2) ∧ False
set_option maxHeartbeats 4000000 in
set_option maxRecDepth 100000 in
theorem wk_S_read_tS_120 {p : Program} {l : Launch} {e : Env} {s : State} {m : MethodId} {args : Array Value} {below : List Frame} {meth : Method} {c : Code} {g : Gm} (C0 : Cx g p s m args c prog_1_method_5_code 7 "SegmentLocks") (hfl : l.flags = pinnedFlags ++ [noTraceFlag]) (hlk : meth.locks = false) (htab : c.exceptionTable.isEmpty = true) : ∀ (h : Hp) (v0 : Nat) (v2 : Int32) (v3 : Nat) (s0 : Int64) (ls : Array Slot), wp_S_read_tS_120 g h v0 v2 v3 s0 → GH g h s.heap → lv_has ls 7 [(0, .ref v0), (2, .int v2), (3, .ref v3)] → W p l e (rmm 6 87 1 6) s m args below meth c s.heap [] 0 0 (QT below s "java/lang/IllegalStateException") (F0 m 120 ls [.long s0]) := by
  obtain ⟨hx, hb, -, hown, hts, hgk⟩ := id C0
  have hS : va_S (gA g) s.heap s.heap [] := va_S.rf
  intro h v0 v2 v3 s0 ls hw hG hl
  unfold wp_S_read_tS_120 at hw
  have hl0 := hl
  clear hl
  refine lv_lstore (lv' := [(5, .long s0), (0, .ref v0), (2, .int v2), (3, .ref v3)]) hx hb dd_S_read_tS_120 hl0 (by decide) rfl (fun ls hl => ?_)
  refine lv_aload_n hx hb dd_S_read_tS_122 rfl (lv_at hl 3 rfl) ?_
  refine lv_iload_n hx hb dd_S_read_tS_123 rfl (lv_at hl 2 rfl) ?_
  refine lv_lload hx hb dd_S_read_tS_124 (lv_at hl 0 rfl) ?_
  refine lv_aload_n hx hb dd_S_read_tS_126 rfl (lv_at hl 1 rfl) ?_
  obtain ⟨k1, a2, ea2, hw⟩ := hw
  refine gf_S_9 C0 hG k1 ea2 dd_S_read_tS_127 ?_
  refine lv_iload_n hx hb dd_S_read_tS_130 rfl (lv_at hl 2 rfl) ?_
  obtain ⟨k3, k3i, hw⟩ := hw
  refine px_lald C0 hG k3 k3i dd_S_read_tS_131 ?_
  exact hw.elim
def wp_S_read_tS_85 (g : Gm) (h : Hp) (v0 : Nat) (v2 : Int32) (v3 : Nat) (v4 : Int32) : Prop := hK h v3 = 4 ∧ ∃ a2 : Nat, hR h v3 4 = some a2 ∧ hK h a2 = 23 ∧ vp_in v2 (hN h a2) ∧ (((hI h a2 v2.toNatClampNeg) = 0 → ((v4 = 0 → hK h v0 = 1 ∧ wp_S_latest g (fun j8 => wp_S_read_tS_120 g h v0 v2 v3 j8) h v0 v2) ∧ (¬ v4 = 0 → hK h v0 = 1 ∧ ∃ a10 : Nat, hR h v0 0 = some a10 ∧ hK h a10 = 22 ∧ vp_in v2 (hN h a10) ∧ wp_S_read_tS_120 g h v0 v2 v3 (hJ h a10 v2.toNatClampNeg)))) ∧ (¬ (hI h a2 v2.toNatClampNeg) = 0 → hK h v3 = 4 ∧ ∃ a13 : Nat, hR h v3 5 = some a13 ∧ hK h a13 = 22 ∧ vp_in v2 (hN h a13) ∧ False))
set_option maxHeartbeats 4000000 in
set_option maxRecDepth 100000 in
theorem wk_S_read_tS_85 {p : Program} {l : Launch} {e : Env} {s : State} {m : MethodId} {args : Array Value} {below : List Frame} {meth : Method} {c : Code} {g : Gm} (C0 : Cx g p s m args c prog_1_method_5_code 7 "SegmentLocks") (hfl : l.flags = pinnedFlags ++ [noTraceFlag]) (hlk : meth.locks = false) (htab : c.exceptionTable.isEmpty = true) : ∀ (h : Hp) (v0 : Nat) (v2 : Int32) (v3 : Nat) (v4 : Int32) (ls : Array Slot), wp_S_read_tS_85 g h v0 v2 v3 v4 → GH g h s.heap → lv_has ls 7 [(0, .ref v0), (2, .int v2), (3, .ref v3), (4, .int v4)] → W p l e (rmm 6 87 1 6) s m args below meth c s.heap [] 0 0 (QT below s "java/lang/IllegalStateException") (F0 m 85 ls []) := by
  obtain ⟨hx, hb, -, hown, hts, hgk⟩ := id C0
  have hS : va_S (gA g) s.heap s.heap [] := va_S.rf
  intro h v0 v2 v3 v4 ls hw hG hl
  unfold wp_S_read_tS_85 at hw
  refine lv_aload_n hx hb dd_S_read_tS_85 rfl (lv_at hl 2 rfl) ?_
  obtain ⟨k1, a2, ea2, hw⟩ := hw
  refine gf_S_96 C0 hG k1 ea2 dd_S_read_tS_86 ?_
  refine lv_iload_n hx hb dd_S_read_tS_89 rfl (lv_at hl 1 rfl) ?_
  obtain ⟨k3, k3i, hw⟩ := hw
  refine px_zald C0 hG k3 k3i dd_S_read_tS_90 ?_
  refine lv_if_eq (tgt := 101) hx hb dd_S_read_tS_91 (by decide) (fun c4 => ?_) (fun c4 => ?_)
  · replace hw := hw.1 c4
    refine lv_iload hx hb dd_S_read_tS_101 (lv_at hl 3 rfl) ?_
    refine lv_if_eq (tgt := 115) hx hb dd_S_read_tS_103 (by decide) (fun c5 => ?_) (fun c5 => ?_)
    · replace hw := hw.1 c5
      refine lv_aload_n hx hb dd_S_read_tS_115 rfl (lv_at hl 0 rfl) ?_
      refine lv_iload_n hx hb dd_S_read_tS_116 rfl (lv_at hl 1 rfl) ?_
      obtain ⟨k6, hw⟩ := hw
      have hw0 := hw
      clear hw
      refine cs_l (rn_V C0 hG hS (c_S_latest l g _ h v0 v2 hw0) (ci := 0) k6 (by decide) rfl rfl (host := "") (nest := false) (n := 1) (As := [.int v2]) (rest := []) km_329 km_328 km_330 km_331 km_176 ⟨by decide, by decide, by decide +kernel⟩ ⟨Nat.le_of_ble_eq_true rfl, Nat.le_of_ble_eq_true rfl⟩ rfl hl.1 rfl (Nat.le_of_ble_eq_true rfl) dd_S_read_tS_117 ⟨Nat.zero_le _, Nat.zero_le _⟩) (fun j8 hw => ?_)
      exact wk_S_read_tS_120 C0 hfl hlk htab _ _ _ _ _ _ hw hG (lv_sub hl [0, 1, 2] rfl)
    · replace hw := hw.2 c5
      refine lv_aload_n hx hb dd_S_read_tS_106 rfl (lv_at hl 0 rfl) ?_
      obtain ⟨k9, a10, ea10, hw⟩ := hw
      refine gf_S_9 C0 hG k9 ea10 dd_S_read_tS_107 ?_
      refine lv_iload_n hx hb dd_S_read_tS_110 rfl (lv_at hl 1 rfl) ?_
      obtain ⟨k11, k11i, hw⟩ := hw
      refine px_lald C0 hG k11 k11i dd_S_read_tS_111 ?_
      refine lv_goto (tgt := 120) hx hb dd_S_read_tS_112 (by decide) ?_
      exact wk_S_read_tS_120 C0 hfl hlk htab _ _ _ _ _ _ hw hG (lv_sub hl [0, 1, 2] rfl)
  · replace hw := hw.2 c4
    refine lv_aload_n hx hb dd_S_read_tS_94 rfl (lv_at hl 2 rfl) ?_
    obtain ⟨k12, a13, ea13, hw⟩ := hw
    refine gf_S_99 C0 hG k12 ea13 dd_S_read_tS_95 ?_
    refine lv_iload_n hx hb dd_S_read_tS_98 rfl (lv_at hl 1 rfl) ?_
    obtain ⟨k14, k14i, hw⟩ := hw
    refine px_lald C0 hG k14 k14i dd_S_read_tS_99 ?_
    exact hw.elim
def wp_S_read_tS_59 (g : Gm) (h : Hp) (v0 : Nat) (v2 : Int32) (v3 : Nat) (s0 : Int32) : Prop := ((¬ s0 = 0 → wp_S_read_tS_85 g h v0 v2 v3 s0) ∧ (s0 = 0 → hK h v3 = 4 ∧ ∃ a3 : Nat, hR h v3 3 = some a3 ∧ hK h a3 = 23 ∧ vp_in v2 (hN h a3) ∧ ((¬ (hI h a3 v2.toNatClampNeg) = 0 → wp_S_read_tS_85 g h v0 v2 v3 s0) ∧ ((hI h a3 v2.toNatClampNeg) = 0 → True))))
set_option maxHeartbeats 4000000 in
set_option maxRecDepth 100000 in
theorem wk_S_read_tS_59 {p : Program} {l : Launch} {e : Env} {s : State} {m : MethodId} {args : Array Value} {below : List Frame} {meth : Method} {c : Code} {g : Gm} (C0 : Cx g p s m args c prog_1_method_5_code 7 "SegmentLocks") (hfl : l.flags = pinnedFlags ++ [noTraceFlag]) (hlk : meth.locks = false) (htab : c.exceptionTable.isEmpty = true) : ∀ (h : Hp) (v0 : Nat) (v2 : Int32) (v3 : Nat) (s0 : Int32) (ls : Array Slot), wp_S_read_tS_59 g h v0 v2 v3 s0 → GH g h s.heap → lv_has ls 7 [(0, .ref v0), (2, .int v2), (3, .ref v3)] → W p l e (rmm 6 87 1 6) s m args below meth c s.heap [] 0 0 (QT below s "java/lang/IllegalStateException") (F0 m 59 ls [.int s0]) := by
  obtain ⟨hx, hb, -, hown, hts, hgk⟩ := id C0
  have hS : va_S (gA g) s.heap s.heap [] := va_S.rf
  intro h v0 v2 v3 s0 ls hw hG hl
  unfold wp_S_read_tS_59 at hw
  have hl0 := hl
  clear hl
  refine lv_istore (lv' := [(4, .int s0), (0, .ref v0), (2, .int v2), (3, .ref v3)]) hx hb dd_S_read_tS_59 hl0 (by decide) rfl (fun ls hl => ?_)
  refine lv_iload hx hb dd_S_read_tS_61 (lv_at hl 0 rfl) ?_
  refine lv_if_ne (tgt := 85) hx hb dd_S_read_tS_63 (by decide) (fun c1 => ?_) (fun c1 => ?_)
  · replace hw := hw.1 c1
    exact wk_S_read_tS_85 C0 hfl hlk htab _ _ _ _ _ _ hw hG (lv_sub hl [1, 2, 3, 0] rfl)
  · replace hw := hw.2 c1
    refine lv_aload_n hx hb dd_S_read_tS_66 rfl (lv_at hl 3 rfl) ?_
    obtain ⟨k2, a3, ea3, hw⟩ := hw
    refine gf_S_66 C0 hG k2 ea3 dd_S_read_tS_67 ?_
    refine lv_iload_n hx hb dd_S_read_tS_70 rfl (lv_at hl 2 rfl) ?_
    obtain ⟨k4, k4i, hw⟩ := hw
    refine px_zald C0 hG k4 k4i dd_S_read_tS_71 ?_
    refine lv_if_ne (tgt := 85) hx hb dd_S_read_tS_72 (by decide) (fun c5 => ?_) (fun c5 => ?_)
    · replace hw := hw.1 c5
      exact wk_S_read_tS_85 C0 hfl hlk htab _ _ _ _ _ _ hw hG (lv_sub hl [1, 2, 3, 0] rfl)
    · replace hw := hw.2 c5
      exact px_throw C0 hfl hlk htab hl.1 km_381 km_382 km_383 (List.mem_of_getElem? (i := 2) rfl) at_S_93 (by decide) (by decide) dd_S_read_tS_75 dd_S_read_tS_78 dd_S_read_tS_79 dd_S_read_tS_81 dd_S_read_tS_84 (Nat.le_of_ble_eq_true rfl) (Nat.le_of_ble_eq_true rfl) (Nat.le_of_ble_eq_true rfl) (Nat.le_of_ble_eq_true rfl)
def wp_S_read_tS (g : Gm) (h : Hp) (a0 : Nat) (i1 : Int32) (i2 : Int32) : Prop := hK h a0 = 1 ∧ wp_S_find g (fun r3 => ((r3 = none → wp_S_read_tS_17 g h) ∧ (∀ a4 : Nat, r3 = some a4 → wp_S_isSegment g (fun x7 => ((¬ x7 = 0 → hK h a4 = 4 ∧ (((hI h a4 9) = 0 → hK h a4 = 4 ∧ ∃ a12 : Nat, hR h a4 2 = some a12 ∧ hK h a12 = 21 ∧ vp_in i2 (hN h a12) ∧ (((hI h a12 i2.toNatClampNeg) = (-1) → wp_S_read_tS_59 g h a0 i2 a4 0) ∧ (¬ (hI h a12 i2.toNatClampNeg) = (-1) → wp_S_read_tS_59 g h a0 i2 a4 1))) ∧ (¬ (hI h a4 9) = 0 → True))) ∧ (x7 = 0 → wp_S_read_tS_17 g h))) h i2))) h a0 i1
set_option maxHeartbeats 4000000 in
set_option maxRecDepth 100000 in
theorem c_S_read_tS (l : Launch) (hfl : l.flags = pinnedFlags ++ [noTraceFlag]) (g : Gm) (h : Hp) (a0 : Nat) (i1 : Int32) (i2 : Int32) (hw : wp_S_read_tS g h a0 i1 i2) : MetT l (⟨"SegmentLocks", "read", "(II)J"⟩ : MethodName) (ww (⟨"SegmentLocks", "read", "(II)J"⟩ : MethodName) prog_1_method_5_code 7 (some .long)) (rmm 6 87 1 6) (va_Pc [.ref a0, .int i1, .int i2] (gS g h)) "java/lang/IllegalStateException" 1 6 := by
  refine en_metT (by decide) ?_
  intro p e s m below meth c C0 hlk htab hG
  have hS : va_S (gA g) s.heap s.heap [] := va_S.rf
  have hl := lv_entry ([.ref a0, .int i1, .int i2]) (n := 7) (Nat.le_of_ble_eq_true rfl)
  rw [lg_entry_eq]
  generalize (lg_sl ([.ref a0, .int i1, .int i2]) ++ List.replicate (7 - (lg_sl ([.ref a0, .int i1, .int i2])).length) Slot.unset).toArray = ls at hl ⊢
  replace hl : lv_has ls 7 [(0, .ref a0), (1, .int i1), (2, .int i2)] := hl
  obtain ⟨hx, hb, -, hown, hts, hgk⟩ := id C0
  unfold wp_S_read_tS at hw
  refine lv_aload_n hx hb dd_S_read_tS_0 rfl (lv_at hl 0 rfl) ?_
  refine lv_iload_n hx hb dd_S_read_tS_1 rfl (lv_at hl 1 rfl) ?_
  obtain ⟨k1, hw⟩ := hw
  have hw0 := hw
  clear hw
  refine cs_q (rn_V C0 hG hS (c_S_find l g _ h a0 i1 hw0) (ci := 0) k1 (by decide) rfl rfl (host := "") (nest := false) (n := 1) (As := [.int i1]) (rest := []) km_295 km_294 km_296 km_297 km_176 ⟨by decide, by decide, by decide +kernel⟩ ⟨Nat.le_of_ble_eq_true rfl, Nat.le_of_ble_eq_true rfl⟩ rfl hl.1 rfl (Nat.le_of_ble_eq_true rfl) dd_S_read_tS_2 ⟨Nat.zero_le _, Nat.zero_le _⟩) (fun r3 hw => ?_)
  have hl0 := hl
  clear hl
  refine px_astore_nq (lv' := [(3, va_rf r3), (0, .ref a0), (1, .int i1), (2, .int i2)]) hx hb dd_S_read_tS_5 rfl hl0 (by decide) rfl (fun ls hl => ?_)
  refine px_aload_nq hx hb dd_S_read_tS_6 rfl (lv_at hl 0 rfl) ?_
  refine px_ifnullq (tgt := 17) hx hb dd_S_read_tS_7 (by decide) (fun z => ?_) (fun a4 z => ?_)
  · replace hw := hw.1 z
    subst z
    replace hl : lv_has ls 7 [(3, .null), (0, .ref a0), (1, .int i1), (2, .int i2)] := hl
    exact wk_S_read_tS_17 C0 hfl hlk htab _ _ hw hG (lv_sub hl [] rfl)
  · replace hw := hw.2 a4 z
    subst z
    replace hl : lv_has ls 7 [(3, .ref a4), (0, .ref a0), (1, .int i1), (2, .int i2)] := hl
    refine lv_iload_n hx hb dd_S_read_tS_10 rfl (lv_at hl 3 rfl) ?_
    have hw0 := hw
    clear hw
    refine cs_i (rn_S C0 hG hS (c_S_isSegment l g _ h i2 hw0) (host := "") (nest := false) (n := 1) (As := [.int i2]) (rest := []) km_219 km_293 km_220 km_176 ⟨by decide, by decide, by decide +kernel⟩ ⟨Nat.le_of_ble_eq_true rfl, Nat.le_of_ble_eq_true rfl⟩ rfl hl.1 rfl (Nat.le_of_ble_eq_true rfl) dd_S_read_tS_11 ⟨Nat.zero_le _, Nat.zero_le _⟩) (fun x7 hw => ?_)
    refine lv_if_ne (tgt := 27) hx hb dd_S_read_tS_14 (by decide) (fun c8 => ?_) (fun c8 => ?_)
    · replace hw := hw.1 c8
      refine lv_aload_n hx hb dd_S_read_tS_27 rfl (lv_at hl 0 rfl) ?_
      obtain ⟨k9, hw⟩ := hw
      refine gf_S_63 C0 hG k9 dd_S_read_tS_28 ?_
      refine lv_if_eq (tgt := 44) hx hb dd_S_read_tS_31 (by decide) (fun c10 => ?_) (fun c10 => ?_)
      · replace hw := hw.1 c10
        refine lv_aload_n hx hb dd_S_read_tS_44 rfl (lv_at hl 0 rfl) ?_
        obtain ⟨k11, a12, ea12, hw⟩ := hw
        refine gf_S_74 C0 hG k11 ea12 dd_S_read_tS_45 ?_
        refine lv_iload_n hx hb dd_S_read_tS_48 rfl (lv_at hl 3 rfl) ?_
        obtain ⟨k13, k13i, hw⟩ := hw
        refine px_iald C0 hG k13 k13i dd_S_read_tS_49 ?_
        refine lv_iconst (v := (-1)) hx hb dd_S_read_tS_50 (by decide) ?_
        refine lv_icmp_eq (tgt := 58) hx hb dd_S_read_tS_51 (by decide) (fun c14 => ?_) (fun c14 => ?_)
        · replace hw := hw.1 c14
          refine lv_iconst (v := 0) hx hb dd_S_read_tS_58 (by decide) ?_
          exact wk_S_read_tS_59 C0 hfl hlk htab _ _ _ _ _ _ hw hG (lv_sub hl [1, 3, 0] rfl)
        · replace hw := hw.2 c14
          refine lv_iconst (v := 1) hx hb dd_S_read_tS_54 (by decide) ?_
          refine lv_goto (tgt := 59) hx hb dd_S_read_tS_55 (by decide) ?_
          exact wk_S_read_tS_59 C0 hfl hlk htab _ _ _ _ _ _ hw hG (lv_sub hl [1, 3, 0] rfl)
      · replace hw := hw.2 c10
        exact px_throw C0 hfl hlk htab hl.1 km_381 km_382 km_383 (List.mem_of_getElem? (i := 1) rfl) at_S_93 (by decide) (by decide) dd_S_read_tS_34 dd_S_read_tS_37 dd_S_read_tS_38 dd_S_read_tS_40 dd_S_read_tS_43 (Nat.le_of_ble_eq_true rfl) (Nat.le_of_ble_eq_true rfl) (Nat.le_of_ble_eq_true rfl) (Nat.le_of_ble_eq_true rfl)
    · replace hw := hw.2 c8
      exact wk_S_read_tS_17 C0 hfl hlk htab _ _ hw hG (lv_sub hl [] rfl)
/-! SegmentLocks.read(II)J -/
theorem dd_S_read_0 : decode prog_1_method_5_code 0 = .ok (.aload_n 0, 1) := by decide +kernel
theorem dd_S_read_1 : decode prog_1_method_5_code 1 = .ok (.iload_n 1, 1) := by decide +kernel
theorem dd_S_read_2 : decode prog_1_method_5_code 2 = .ok (.invokevirtual 55, 3) := by decide +kernel
theorem dd_S_read_5 : decode prog_1_method_5_code 5 = .ok (.astore_n 3, 1) := by decide +kernel
theorem dd_S_read_6 : decode prog_1_method_5_code 6 = .ok (.aload_n 3, 1) := by decide +kernel
theorem dd_S_read_7 : decode prog_1_method_5_code 7 = .ok (.ifnull 10, 3) := by decide +kernel
theorem dd_S_read_10 : decode prog_1_method_5_code 10 = .ok (.iload_n 2, 1) := by decide +kernel
theorem dd_S_read_11 : decode prog_1_method_5_code 11 = .ok (.invokestatic 59, 3) := by decide +kernel
theorem dd_S_read_14 : decode prog_1_method_5_code 14 = .ok (.ifCond .ne 13, 3) := by decide +kernel
theorem dd_S_read_27 : decode prog_1_method_5_code 27 = .ok (.aload_n 3, 1) := by decide +kernel
theorem dd_S_read_28 : decode prog_1_method_5_code 28 = .ok (.getfield 63, 3) := by decide +kernel
theorem dd_S_read_31 : decode prog_1_method_5_code 31 = .ok (.ifCond .eq 13, 3) := by decide +kernel
theorem dd_S_read_44 : decode prog_1_method_5_code 44 = .ok (.aload_n 3, 1) := by decide +kernel
theorem dd_S_read_45 : decode prog_1_method_5_code 45 = .ok (.getfield 74, 3) := by decide +kernel
theorem dd_S_read_48 : decode prog_1_method_5_code 48 = .ok (.iload_n 2, 1) := by decide +kernel
theorem dd_S_read_49 : decode prog_1_method_5_code 49 = .ok (.iaload, 1) := by decide +kernel
theorem dd_S_read_50 : decode prog_1_method_5_code 50 = .ok (.iconst (-1), 1) := by decide +kernel
theorem dd_S_read_51 : decode prog_1_method_5_code 51 = .ok (.if_icmp .eq 7, 3) := by decide +kernel
theorem dd_S_read_54 : decode prog_1_method_5_code 54 = .ok (.iconst 1, 1) := by decide +kernel
theorem dd_S_read_55 : decode prog_1_method_5_code 55 = .ok (.goto 4, 3) := by decide +kernel
theorem dd_S_read_58 : decode prog_1_method_5_code 58 = .ok (.iconst 0, 1) := by decide +kernel
theorem dd_S_read_59 : decode prog_1_method_5_code 59 = .ok (.istore 4, 2) := by decide +kernel
theorem dd_S_read_61 : decode prog_1_method_5_code 61 = .ok (.iload 4, 2) := by decide +kernel
theorem dd_S_read_63 : decode prog_1_method_5_code 63 = .ok (.ifCond .ne 22, 3) := by decide +kernel
theorem dd_S_read_66 : decode prog_1_method_5_code 66 = .ok (.aload_n 3, 1) := by decide +kernel
theorem dd_S_read_67 : decode prog_1_method_5_code 67 = .ok (.getfield 66, 3) := by decide +kernel
theorem dd_S_read_70 : decode prog_1_method_5_code 70 = .ok (.iload_n 2, 1) := by decide +kernel
theorem dd_S_read_71 : decode prog_1_method_5_code 71 = .ok (.baload, 1) := by decide +kernel
theorem dd_S_read_72 : decode prog_1_method_5_code 72 = .ok (.ifCond .ne 13, 3) := by decide +kernel
theorem dd_S_read_85 : decode prog_1_method_5_code 85 = .ok (.aload_n 3, 1) := by decide +kernel
theorem dd_S_read_86 : decode prog_1_method_5_code 86 = .ok (.getfield 96, 3) := by decide +kernel
theorem dd_S_read_89 : decode prog_1_method_5_code 89 = .ok (.iload_n 2, 1) := by decide +kernel
theorem dd_S_read_90 : decode prog_1_method_5_code 90 = .ok (.baload, 1) := by decide +kernel
theorem dd_S_read_91 : decode prog_1_method_5_code 91 = .ok (.ifCond .eq 10, 3) := by decide +kernel
theorem dd_S_read_94 : decode prog_1_method_5_code 94 = .ok (.aload_n 3, 1) := by decide +kernel
theorem dd_S_read_95 : decode prog_1_method_5_code 95 = .ok (.getfield 99, 3) := by decide +kernel
theorem dd_S_read_98 : decode prog_1_method_5_code 98 = .ok (.iload_n 2, 1) := by decide +kernel
theorem dd_S_read_99 : decode prog_1_method_5_code 99 = .ok (.laload, 1) := by decide +kernel
theorem dd_S_read_100 : decode prog_1_method_5_code 100 = .ok (.lreturn, 1) := by decide +kernel
theorem dd_S_read_101 : decode prog_1_method_5_code 101 = .ok (.iload 4, 2) := by decide +kernel
theorem dd_S_read_103 : decode prog_1_method_5_code 103 = .ok (.ifCond .eq 12, 3) := by decide +kernel
theorem dd_S_read_106 : decode prog_1_method_5_code 106 = .ok (.aload_n 0, 1) := by decide +kernel
theorem dd_S_read_107 : decode prog_1_method_5_code 107 = .ok (.getfield 9, 3) := by decide +kernel
theorem dd_S_read_110 : decode prog_1_method_5_code 110 = .ok (.iload_n 2, 1) := by decide +kernel
theorem dd_S_read_111 : decode prog_1_method_5_code 111 = .ok (.laload, 1) := by decide +kernel
theorem dd_S_read_112 : decode prog_1_method_5_code 112 = .ok (.goto 8, 3) := by decide +kernel
theorem dd_S_read_115 : decode prog_1_method_5_code 115 = .ok (.aload_n 0, 1) := by decide +kernel
theorem dd_S_read_116 : decode prog_1_method_5_code 116 = .ok (.iload_n 2, 1) := by decide +kernel
theorem dd_S_read_117 : decode prog_1_method_5_code 117 = .ok (.invokevirtual 102, 3) := by decide +kernel
theorem dd_S_read_120 : decode prog_1_method_5_code 120 = .ok (.lstore 5, 2) := by decide +kernel
theorem dd_S_read_122 : decode prog_1_method_5_code 122 = .ok (.aload_n 3, 1) := by decide +kernel
theorem dd_S_read_123 : decode prog_1_method_5_code 123 = .ok (.iload_n 2, 1) := by decide +kernel
theorem dd_S_read_124 : decode prog_1_method_5_code 124 = .ok (.lload 5, 2) := by decide +kernel
theorem dd_S_read_126 : decode prog_1_method_5_code 126 = .ok (.aload_n 0, 1) := by decide +kernel
theorem dd_S_read_127 : decode prog_1_method_5_code 127 = .ok (.getfield 9, 3) := by decide +kernel
theorem dd_S_read_130 : decode prog_1_method_5_code 130 = .ok (.iload_n 2, 1) := by decide +kernel
theorem dd_S_read_131 : decode prog_1_method_5_code 131 = .ok (.laload, 1) := by decide +kernel
theorem dd_S_read_132 : decode prog_1_method_5_code 132 = .ok (.invokevirtual 106, 3) := by decide +kernel
theorem dd_S_read_135 : decode prog_1_method_5_code 135 = .ok (.lload 5, 2) := by decide +kernel
theorem dd_S_read_137 : decode prog_1_method_5_code 137 = .ok (.lreturn, 1) := by decide +kernel
def wp_S_read_17 (g : Gm) (post : Int64 → Hp → Prop) (h : Hp) : Prop := False
set_option maxHeartbeats 4000000 in
set_option maxRecDepth 100000 in
theorem wk_S_read_17 {p : Program} {l : Launch} {e : Env} {s : State} {m : MethodId} {args : Array Value} {below : List Frame} {meth : Method} {c : Code} {g : Gm} {post : Int64 → Hp → Prop} (C0 : Cx g p s m args c prog_1_method_5_code 7 "SegmentLocks") (hr : meth.sig.returnType = (some .long)) (hlk : meth.locks = false) : ∀ (h : Hp) (H : Heap) (locs : List Loc) (ls : Array Slot), wp_S_read_17 g post h → GH g h H → va_S (gA g) s.heap H locs → lv_has ls 7 [] → W p l e (rmm 4 87 0 0) s m args below meth c H locs 0 0 (MQ below (va_Ql post (gS g) (gA g)) args s 0 0 (gA g)) (F0 m 17 ls []) := by
  obtain ⟨hx, hb, -, hown, hts, hgk⟩ := id C0
  intro h H locs ls hw hG hS hl
  unfold wp_S_read_17 at hw
  exact hw.elim
def wp_S_read_120 (g : Gm) (post : Int64 → Hp → Prop) (h : Hp) (v0 : Nat) (v2 : Int32) (v3 : Nat) (s0 : Int64) : Prop := hK h v0 = 1 ∧ ∃ a2 : Nat, hR h v0 0 = some a2 ∧ hK h a2 = 22 ∧ vp_in v2 (hN h a2) ∧ hK h v3 = 4 ∧ wp_T_remember g (fun h5 => post s0 h5) h v3 v2 s0 (hJ h a2 v2.toNatClampNeg)
set_option maxHeartbeats 4000000 in
set_option maxRecDepth 100000 in
theorem wk_S_read_120 {p : Program} {l : Launch} {e : Env} {s : State} {m : MethodId} {args : Array Value} {below : List Frame} {meth : Method} {c : Code} {g : Gm} {post : Int64 → Hp → Prop} (C0 : Cx g p s m args c prog_1_method_5_code 7 "SegmentLocks") (hr : meth.sig.returnType = (some .long)) (hlk : meth.locks = false) : ∀ (h : Hp) (v0 : Nat) (v2 : Int32) (v3 : Nat) (s0 : Int64) (H : Heap) (locs : List Loc) (ls : Array Slot), wp_S_read_120 g post h v0 v2 v3 s0 → GH g h H → va_S (gA g) s.heap H locs → lv_has ls 7 [(0, .ref v0), (2, .int v2), (3, .ref v3)] → W p l e (rmm 4 87 0 0) s m args below meth c H locs 0 0 (MQ below (va_Ql post (gS g) (gA g)) args s 0 0 (gA g)) (F0 m 120 ls [.long s0]) := by
  obtain ⟨hx, hb, -, hown, hts, hgk⟩ := id C0
  intro h v0 v2 v3 s0 H locs ls hw hG hS hl
  unfold wp_S_read_120 at hw
  have hl0 := hl
  clear hl
  refine lv_lstore (lv' := [(5, .long s0), (0, .ref v0), (2, .int v2), (3, .ref v3)]) hx hb dd_S_read_120 hl0 (by decide) rfl (fun ls hl => ?_)
  refine lv_aload_n hx hb dd_S_read_122 rfl (lv_at hl 3 rfl) ?_
  refine lv_iload_n hx hb dd_S_read_123 rfl (lv_at hl 2 rfl) ?_
  refine lv_lload hx hb dd_S_read_124 (lv_at hl 0 rfl) ?_
  refine lv_aload_n hx hb dd_S_read_126 rfl (lv_at hl 1 rfl) ?_
  obtain ⟨k1, a2, ea2, hw⟩ := hw
  refine gf_S_9 C0 hG k1 ea2 dd_S_read_127 ?_
  refine lv_iload_n hx hb dd_S_read_130 rfl (lv_at hl 2 rfl) ?_
  obtain ⟨k3, k3i, hw⟩ := hw
  refine px_lald C0 hG k3 k3i dd_S_read_131 ?_
  obtain ⟨k4, hw⟩ := hw
  refine ca_v hS (rn_V C0 hG hS (c_T_remember l g _ h v3 v2 s0 (hJ h a2 v2.toNatClampNeg) hw) (ci := 3) k4 (by decide) rfl rfl (host := "SegmentLocks") (nest := true) (n := 3) (As := [.int v2, .long s0, .long (hJ h a2 v2.toNatClampNeg)]) (rest := []) km_325 km_324 km_326 km_327 km_123 ⟨by decide, by decide, by decide +kernel⟩ ⟨Nat.le_of_ble_eq_true rfl, Nat.le_of_ble_eq_true rfl⟩ rfl hl.1 rfl (Nat.le_of_ble_eq_true rfl) dd_S_read_132 ⟨Nat.le_refl _, Nat.le_refl _⟩) (fun h5 H locs hw hG hS => ?_)
  refine lv_lload hx hb dd_S_read_135 (lv_at hl 0 rfl) ?_
  exact re_l C0 hG hS hr hlk ⟨Nat.le_refl _, Nat.le_refl _⟩ hw dd_S_read_137
def wp_S_read_85 (g : Gm) (post : Int64 → Hp → Prop) (h : Hp) (v0 : Nat) (v2 : Int32) (v3 : Nat) (v4 : Int32) : Prop := hK h v3 = 4 ∧ ∃ a2 : Nat, hR h v3 4 = some a2 ∧ hK h a2 = 23 ∧ vp_in v2 (hN h a2) ∧ (((hI h a2 v2.toNatClampNeg) = 0 → ((v4 = 0 → hK h v0 = 1 ∧ wp_S_latest g (fun j8 => wp_S_read_120 g post h v0 v2 v3 j8) h v0 v2) ∧ (¬ v4 = 0 → hK h v0 = 1 ∧ ∃ a10 : Nat, hR h v0 0 = some a10 ∧ hK h a10 = 22 ∧ vp_in v2 (hN h a10) ∧ wp_S_read_120 g post h v0 v2 v3 (hJ h a10 v2.toNatClampNeg)))) ∧ (¬ (hI h a2 v2.toNatClampNeg) = 0 → hK h v3 = 4 ∧ ∃ a13 : Nat, hR h v3 5 = some a13 ∧ hK h a13 = 22 ∧ vp_in v2 (hN h a13) ∧ post (hJ h a13 v2.toNatClampNeg) h))
set_option maxHeartbeats 4000000 in
set_option maxRecDepth 100000 in
theorem wk_S_read_85 {p : Program} {l : Launch} {e : Env} {s : State} {m : MethodId} {args : Array Value} {below : List Frame} {meth : Method} {c : Code} {g : Gm} {post : Int64 → Hp → Prop} (C0 : Cx g p s m args c prog_1_method_5_code 7 "SegmentLocks") (hr : meth.sig.returnType = (some .long)) (hlk : meth.locks = false) : ∀ (h : Hp) (v0 : Nat) (v2 : Int32) (v3 : Nat) (v4 : Int32) (H : Heap) (locs : List Loc) (ls : Array Slot), wp_S_read_85 g post h v0 v2 v3 v4 → GH g h H → va_S (gA g) s.heap H locs → lv_has ls 7 [(0, .ref v0), (2, .int v2), (3, .ref v3), (4, .int v4)] → W p l e (rmm 4 87 0 0) s m args below meth c H locs 0 0 (MQ below (va_Ql post (gS g) (gA g)) args s 0 0 (gA g)) (F0 m 85 ls []) := by
  obtain ⟨hx, hb, -, hown, hts, hgk⟩ := id C0
  intro h v0 v2 v3 v4 H locs ls hw hG hS hl
  unfold wp_S_read_85 at hw
  refine lv_aload_n hx hb dd_S_read_85 rfl (lv_at hl 2 rfl) ?_
  obtain ⟨k1, a2, ea2, hw⟩ := hw
  refine gf_S_96 C0 hG k1 ea2 dd_S_read_86 ?_
  refine lv_iload_n hx hb dd_S_read_89 rfl (lv_at hl 1 rfl) ?_
  obtain ⟨k3, k3i, hw⟩ := hw
  refine px_zald C0 hG k3 k3i dd_S_read_90 ?_
  refine lv_if_eq (tgt := 101) hx hb dd_S_read_91 (by decide) (fun c4 => ?_) (fun c4 => ?_)
  · replace hw := hw.1 c4
    refine lv_iload hx hb dd_S_read_101 (lv_at hl 3 rfl) ?_
    refine lv_if_eq (tgt := 115) hx hb dd_S_read_103 (by decide) (fun c5 => ?_) (fun c5 => ?_)
    · replace hw := hw.1 c5
      refine lv_aload_n hx hb dd_S_read_115 rfl (lv_at hl 0 rfl) ?_
      refine lv_iload_n hx hb dd_S_read_116 rfl (lv_at hl 1 rfl) ?_
      obtain ⟨k6, hw⟩ := hw
      have hw0 := hw
      clear hw
      refine cs_l (rn_V C0 hG hS (c_S_latest l g _ h v0 v2 hw0) (ci := 0) k6 (by decide) rfl rfl (host := "") (nest := false) (n := 1) (As := [.int v2]) (rest := []) km_329 km_328 km_330 km_331 km_176 ⟨by decide, by decide, by decide +kernel⟩ ⟨Nat.le_of_ble_eq_true rfl, Nat.le_of_ble_eq_true rfl⟩ rfl hl.1 rfl (Nat.le_of_ble_eq_true rfl) dd_S_read_117 ⟨Nat.le_refl _, Nat.le_refl _⟩) (fun j8 hw => ?_)
      exact wk_S_read_120 C0 hr hlk _ _ _ _ _ _ _ _ hw hG hS (lv_sub hl [0, 1, 2] rfl)
    · replace hw := hw.2 c5
      refine lv_aload_n hx hb dd_S_read_106 rfl (lv_at hl 0 rfl) ?_
      obtain ⟨k9, a10, ea10, hw⟩ := hw
      refine gf_S_9 C0 hG k9 ea10 dd_S_read_107 ?_
      refine lv_iload_n hx hb dd_S_read_110 rfl (lv_at hl 1 rfl) ?_
      obtain ⟨k11, k11i, hw⟩ := hw
      refine px_lald C0 hG k11 k11i dd_S_read_111 ?_
      refine lv_goto (tgt := 120) hx hb dd_S_read_112 (by decide) ?_
      exact wk_S_read_120 C0 hr hlk _ _ _ _ _ _ _ _ hw hG hS (lv_sub hl [0, 1, 2] rfl)
  · replace hw := hw.2 c4
    refine lv_aload_n hx hb dd_S_read_94 rfl (lv_at hl 2 rfl) ?_
    obtain ⟨k12, a13, ea13, hw⟩ := hw
    refine gf_S_99 C0 hG k12 ea13 dd_S_read_95 ?_
    refine lv_iload_n hx hb dd_S_read_98 rfl (lv_at hl 1 rfl) ?_
    obtain ⟨k14, k14i, hw⟩ := hw
    refine px_lald C0 hG k14 k14i dd_S_read_99 ?_
    exact re_l C0 hG hS hr hlk ⟨Nat.le_refl _, Nat.le_refl _⟩ hw dd_S_read_100
def wp_S_read_59 (g : Gm) (post : Int64 → Hp → Prop) (h : Hp) (v0 : Nat) (v2 : Int32) (v3 : Nat) (s0 : Int32) : Prop := ((¬ s0 = 0 → wp_S_read_85 g post h v0 v2 v3 s0) ∧ (s0 = 0 → hK h v3 = 4 ∧ ∃ a3 : Nat, hR h v3 3 = some a3 ∧ hK h a3 = 23 ∧ vp_in v2 (hN h a3) ∧ ((¬ (hI h a3 v2.toNatClampNeg) = 0 → wp_S_read_85 g post h v0 v2 v3 s0) ∧ ((hI h a3 v2.toNatClampNeg) = 0 → False))))
set_option maxHeartbeats 4000000 in
set_option maxRecDepth 100000 in
theorem wk_S_read_59 {p : Program} {l : Launch} {e : Env} {s : State} {m : MethodId} {args : Array Value} {below : List Frame} {meth : Method} {c : Code} {g : Gm} {post : Int64 → Hp → Prop} (C0 : Cx g p s m args c prog_1_method_5_code 7 "SegmentLocks") (hr : meth.sig.returnType = (some .long)) (hlk : meth.locks = false) : ∀ (h : Hp) (v0 : Nat) (v2 : Int32) (v3 : Nat) (s0 : Int32) (H : Heap) (locs : List Loc) (ls : Array Slot), wp_S_read_59 g post h v0 v2 v3 s0 → GH g h H → va_S (gA g) s.heap H locs → lv_has ls 7 [(0, .ref v0), (2, .int v2), (3, .ref v3)] → W p l e (rmm 4 87 0 0) s m args below meth c H locs 0 0 (MQ below (va_Ql post (gS g) (gA g)) args s 0 0 (gA g)) (F0 m 59 ls [.int s0]) := by
  obtain ⟨hx, hb, -, hown, hts, hgk⟩ := id C0
  intro h v0 v2 v3 s0 H locs ls hw hG hS hl
  unfold wp_S_read_59 at hw
  have hl0 := hl
  clear hl
  refine lv_istore (lv' := [(4, .int s0), (0, .ref v0), (2, .int v2), (3, .ref v3)]) hx hb dd_S_read_59 hl0 (by decide) rfl (fun ls hl => ?_)
  refine lv_iload hx hb dd_S_read_61 (lv_at hl 0 rfl) ?_
  refine lv_if_ne (tgt := 85) hx hb dd_S_read_63 (by decide) (fun c1 => ?_) (fun c1 => ?_)
  · replace hw := hw.1 c1
    exact wk_S_read_85 C0 hr hlk _ _ _ _ _ _ _ _ hw hG hS (lv_sub hl [1, 2, 3, 0] rfl)
  · replace hw := hw.2 c1
    refine lv_aload_n hx hb dd_S_read_66 rfl (lv_at hl 3 rfl) ?_
    obtain ⟨k2, a3, ea3, hw⟩ := hw
    refine gf_S_66 C0 hG k2 ea3 dd_S_read_67 ?_
    refine lv_iload_n hx hb dd_S_read_70 rfl (lv_at hl 2 rfl) ?_
    obtain ⟨k4, k4i, hw⟩ := hw
    refine px_zald C0 hG k4 k4i dd_S_read_71 ?_
    refine lv_if_ne (tgt := 85) hx hb dd_S_read_72 (by decide) (fun c5 => ?_) (fun c5 => ?_)
    · replace hw := hw.1 c5
      exact wk_S_read_85 C0 hr hlk _ _ _ _ _ _ _ _ hw hG hS (lv_sub hl [1, 2, 3, 0] rfl)
    · replace hw := hw.2 c5
      exact hw.elim
def wp_S_read (g : Gm) (post : Int64 → Hp → Prop) (h : Hp) (a0 : Nat) (i1 : Int32) (i2 : Int32) : Prop := hK h a0 = 1 ∧ wp_S_find g (fun r3 => ((r3 = none → wp_S_read_17 g post h) ∧ (∀ a4 : Nat, r3 = some a4 → wp_S_isSegment g (fun x7 => ((¬ x7 = 0 → hK h a4 = 4 ∧ (((hI h a4 9) = 0 → hK h a4 = 4 ∧ ∃ a12 : Nat, hR h a4 2 = some a12 ∧ hK h a12 = 21 ∧ vp_in i2 (hN h a12) ∧ (((hI h a12 i2.toNatClampNeg) = (-1) → wp_S_read_59 g post h a0 i2 a4 0) ∧ (¬ (hI h a12 i2.toNatClampNeg) = (-1) → wp_S_read_59 g post h a0 i2 a4 1))) ∧ (¬ (hI h a4 9) = 0 → False))) ∧ (x7 = 0 → wp_S_read_17 g post h))) h i2))) h a0 i1
set_option maxHeartbeats 4000000 in
set_option maxRecDepth 100000 in
theorem c_S_read (l : Launch) (g : Gm) (post : Int64 → Hp → Prop) (h : Hp) (a0 : Nat) (i1 : Int32) (i2 : Int32) (hw : wp_S_read g post h a0 i1 i2) : Met l (⟨"SegmentLocks", "read", "(II)J"⟩ : MethodName) (ww (⟨"SegmentLocks", "read", "(II)J"⟩ : MethodName) prog_1_method_5_code 7 (some .long)) (rmm 4 87 0 0) (va_Pc [.ref a0, .int i1, .int i2] (gS g h)) (va_Ql post (gS g) (gA g)) 0 0 (gA g) := by
  first | refine en_met (by decide) ?_ | refine en_metF (by decide) ?_
  intro p e s m below meth c C0 hr hlk hin hG
  have hS : va_S (gA g) s.heap s.heap [] := va_S.rf
  have hl := lv_entry ([.ref a0, .int i1, .int i2]) (n := 7) (Nat.le_of_ble_eq_true rfl)
  rw [lg_entry_eq]
  generalize (lg_sl ([.ref a0, .int i1, .int i2]) ++ List.replicate (7 - (lg_sl ([.ref a0, .int i1, .int i2])).length) Slot.unset).toArray = ls at hl ⊢
  replace hl : lv_has ls 7 [(0, .ref a0), (1, .int i1), (2, .int i2)] := hl
  obtain ⟨hx, hb, -, hown, hts, hgk⟩ := id C0
  unfold wp_S_read at hw
  refine lv_aload_n hx hb dd_S_read_0 rfl (lv_at hl 0 rfl) ?_
  refine lv_iload_n hx hb dd_S_read_1 rfl (lv_at hl 1 rfl) ?_
  obtain ⟨k1, hw⟩ := hw
  have hw0 := hw
  clear hw
  refine cs_q (rn_V C0 hG hS (c_S_find l g _ h a0 i1 hw0) (ci := 0) k1 (by decide) rfl rfl (host := "") (nest := false) (n := 1) (As := [.int i1]) (rest := []) km_295 km_294 km_296 km_297 km_176 ⟨by decide, by decide, by decide +kernel⟩ ⟨Nat.le_of_ble_eq_true rfl, Nat.le_of_ble_eq_true rfl⟩ rfl hl.1 rfl (Nat.le_of_ble_eq_true rfl) dd_S_read_2 ⟨Nat.le_refl _, Nat.le_refl _⟩) (fun r3 hw => ?_)
  have hl0 := hl
  clear hl
  refine px_astore_nq (lv' := [(3, va_rf r3), (0, .ref a0), (1, .int i1), (2, .int i2)]) hx hb dd_S_read_5 rfl hl0 (by decide) rfl (fun ls hl => ?_)
  refine px_aload_nq hx hb dd_S_read_6 rfl (lv_at hl 0 rfl) ?_
  refine px_ifnullq (tgt := 17) hx hb dd_S_read_7 (by decide) (fun z => ?_) (fun a4 z => ?_)
  · replace hw := hw.1 z
    subst z
    replace hl : lv_has ls 7 [(3, .null), (0, .ref a0), (1, .int i1), (2, .int i2)] := hl
    exact wk_S_read_17 C0 hr hlk _ _ _ _ hw hG hS (lv_sub hl [] rfl)
  · replace hw := hw.2 a4 z
    subst z
    replace hl : lv_has ls 7 [(3, .ref a4), (0, .ref a0), (1, .int i1), (2, .int i2)] := hl
    refine lv_iload_n hx hb dd_S_read_10 rfl (lv_at hl 3 rfl) ?_
    have hw0 := hw
    clear hw
    refine cs_i (rn_S C0 hG hS (c_S_isSegment l g _ h i2 hw0) (host := "") (nest := false) (n := 1) (As := [.int i2]) (rest := []) km_219 km_293 km_220 km_176 ⟨by decide, by decide, by decide +kernel⟩ ⟨Nat.le_of_ble_eq_true rfl, Nat.le_of_ble_eq_true rfl⟩ rfl hl.1 rfl (Nat.le_of_ble_eq_true rfl) dd_S_read_11 ⟨Nat.le_refl _, Nat.le_refl _⟩) (fun x7 hw => ?_)
    refine lv_if_ne (tgt := 27) hx hb dd_S_read_14 (by decide) (fun c8 => ?_) (fun c8 => ?_)
    · replace hw := hw.1 c8
      refine lv_aload_n hx hb dd_S_read_27 rfl (lv_at hl 0 rfl) ?_
      obtain ⟨k9, hw⟩ := hw
      refine gf_S_63 C0 hG k9 dd_S_read_28 ?_
      refine lv_if_eq (tgt := 44) hx hb dd_S_read_31 (by decide) (fun c10 => ?_) (fun c10 => ?_)
      · replace hw := hw.1 c10
        refine lv_aload_n hx hb dd_S_read_44 rfl (lv_at hl 0 rfl) ?_
        obtain ⟨k11, a12, ea12, hw⟩ := hw
        refine gf_S_74 C0 hG k11 ea12 dd_S_read_45 ?_
        refine lv_iload_n hx hb dd_S_read_48 rfl (lv_at hl 3 rfl) ?_
        obtain ⟨k13, k13i, hw⟩ := hw
        refine px_iald C0 hG k13 k13i dd_S_read_49 ?_
        refine lv_iconst (v := (-1)) hx hb dd_S_read_50 (by decide) ?_
        refine lv_icmp_eq (tgt := 58) hx hb dd_S_read_51 (by decide) (fun c14 => ?_) (fun c14 => ?_)
        · replace hw := hw.1 c14
          refine lv_iconst (v := 0) hx hb dd_S_read_58 (by decide) ?_
          exact wk_S_read_59 C0 hr hlk _ _ _ _ _ _ _ _ hw hG hS (lv_sub hl [1, 3, 0] rfl)
        · replace hw := hw.2 c14
          refine lv_iconst (v := 1) hx hb dd_S_read_54 (by decide) ?_
          refine lv_goto (tgt := 59) hx hb dd_S_read_55 (by decide) ?_
          exact wk_S_read_59 C0 hr hlk _ _ _ _ _ _ _ _ hw hG hS (lv_sub hl [1, 3, 0] rfl)
      · replace hw := hw.2 c10
        exact hw.elim
    · replace hw := hw.2 c8
      exact wk_S_read_17 C0 hr hlk _ _ _ _ hw hG hS (lv_sub hl [] rfl)
theorem dd_S_value_tA_0 : decode prog_1_method_14_code 0 = .ok (.iload_n 1, 1) := by decide +kernel
theorem dd_S_value_tA_1 : decode prog_1_method_14_code 1 = .ok (.invokestatic 59, 3) := by decide +kernel
theorem dd_S_value_tA_4 : decode prog_1_method_14_code 4 = .ok (.ifCond .ne 13, 3) := by decide +kernel
theorem dd_S_value_tA_7 : decode prog_1_method_14_code 7 = .ok (.new 82, 3) := by decide +kernel
theorem dd_S_value_tA_10 : decode prog_1_method_14_code 10 = .ok (.dup, 1) := by decide +kernel
theorem dd_S_value_tA_11 : decode prog_1_method_14_code 11 = .ok (.ldc 135, 2) := by decide +kernel
theorem dd_S_value_tA_13 : decode prog_1_method_14_code 13 = .ok (.invokespecial 86, 3) := by decide +kernel
theorem dd_S_value_tA_16 : decode prog_1_method_14_code 16 = .ok (.athrow, 1) := by decide +kernel
theorem dd_S_value_tA_17 : decode prog_1_method_14_code 17 = .ok (.aload_n 0, 1) := by decide +kernel
theorem dd_S_value_tA_18 : decode prog_1_method_14_code 18 = .ok (.getfield 9, 3) := by decide +kernel
theorem dd_S_value_tA_21 : decode prog_1_method_14_code 21 = .ok (.iload_n 1, 1) := by decide +kernel
theorem dd_S_value_tA_22 : decode prog_1_method_14_code 22 = .ok (.laload, 1) := by decide +kernel
def wp_S_value_tA (g : Gm) (h : Hp) (a0 : Nat) (i1 : Int32) : Prop := wp_S_isSegment g (fun x3 => ((¬ x3 = 0 → hK h a0 = 1 ∧ ∃ a6 : Nat, hR h a0 0 = some a6 ∧ hK h a6 = 22 ∧ vp_in i1 (hN h a6) ∧ False) ∧ (x3 = 0 → True))) h i1
set_option maxHeartbeats 4000000 in
set_option maxRecDepth 100000 in
theorem c_S_value_tA (l : Launch) (hfl : l.flags = pinnedFlags ++ [noTraceFlag]) (g : Gm) (h : Hp) (a0 : Nat) (i1 : Int32) (hw : wp_S_value_tA g h a0 i1) : MetT l (⟨"SegmentLocks", "value", "(I)J"⟩ : MethodName) (ww (⟨"SegmentLocks", "value", "(I)J"⟩ : MethodName) prog_1_method_14_code 2 (some .long)) (rmm 6 82 1 6) (va_Pc [.ref a0, .int i1] (gS g h)) "java/lang/IllegalArgumentException" 1 6 := by
  refine en_metT (by decide) ?_
  intro p e s m below meth c C0 hlk htab hG
  have hS : va_S (gA g) s.heap s.heap [] := va_S.rf
  have hl := lv_entry ([.ref a0, .int i1]) (n := 2) (Nat.le_of_ble_eq_true rfl)
  rw [lg_entry_eq]
  generalize (lg_sl ([.ref a0, .int i1]) ++ List.replicate (2 - (lg_sl ([.ref a0, .int i1])).length) Slot.unset).toArray = ls at hl ⊢
  replace hl : lv_has ls 2 [(0, .ref a0), (1, .int i1)] := hl
  obtain ⟨hx, hb, -, hown, hts, hgk⟩ := id C0
  unfold wp_S_value_tA at hw
  refine lv_iload_n hx hb dd_S_value_tA_0 rfl (lv_at hl 1 rfl) ?_
  have hw0 := hw
  clear hw
  refine cs_i (rn_S C0 hG hS (c_S_isSegment l g _ h i1 hw0) (host := "") (nest := false) (n := 1) (As := [.int i1]) (rest := []) km_219 km_293 km_220 km_176 ⟨by decide, by decide, by decide +kernel⟩ ⟨Nat.le_of_ble_eq_true rfl, Nat.le_of_ble_eq_true rfl⟩ rfl hl.1 rfl (Nat.le_of_ble_eq_true rfl) dd_S_value_tA_1 ⟨Nat.zero_le _, Nat.zero_le _⟩) (fun x3 hw => ?_)
  refine lv_if_ne (tgt := 17) hx hb dd_S_value_tA_4 (by decide) (fun c4 => ?_) (fun c4 => ?_)
  · replace hw := hw.1 c4
    refine lv_aload_n hx hb dd_S_value_tA_17 rfl (lv_at hl 0 rfl) ?_
    obtain ⟨k5, a6, ea6, hw⟩ := hw
    refine gf_S_9 C0 hG k5 ea6 dd_S_value_tA_18 ?_
    refine lv_iload_n hx hb dd_S_value_tA_21 rfl (lv_at hl 1 rfl) ?_
    obtain ⟨k7, k7i, hw⟩ := hw
    refine px_lald C0 hG k7 k7i dd_S_value_tA_22 ?_
    exact hw.elim
  · replace hw := hw.2 c4
    exact px_throw C0 hfl hlk htab hl.1 km_332 km_333 km_334 (List.mem_of_getElem? (i := 3) rfl) at_A_86 (by decide) (by decide) dd_S_value_tA_7 dd_S_value_tA_10 dd_S_value_tA_11 dd_S_value_tA_13 dd_S_value_tA_16 (Nat.le_of_ble_eq_true rfl) (Nat.le_of_ble_eq_true rfl) (Nat.le_of_ble_eq_true rfl) (Nat.le_of_ble_eq_true rfl)
/-! SegmentLocks.value(I)J -/
theorem dd_S_value_0 : decode prog_1_method_14_code 0 = .ok (.iload_n 1, 1) := by decide +kernel
theorem dd_S_value_1 : decode prog_1_method_14_code 1 = .ok (.invokestatic 59, 3) := by decide +kernel
theorem dd_S_value_4 : decode prog_1_method_14_code 4 = .ok (.ifCond .ne 13, 3) := by decide +kernel
theorem dd_S_value_17 : decode prog_1_method_14_code 17 = .ok (.aload_n 0, 1) := by decide +kernel
theorem dd_S_value_18 : decode prog_1_method_14_code 18 = .ok (.getfield 9, 3) := by decide +kernel
theorem dd_S_value_21 : decode prog_1_method_14_code 21 = .ok (.iload_n 1, 1) := by decide +kernel
theorem dd_S_value_22 : decode prog_1_method_14_code 22 = .ok (.laload, 1) := by decide +kernel
theorem dd_S_value_23 : decode prog_1_method_14_code 23 = .ok (.lreturn, 1) := by decide +kernel
def wp_S_value (g : Gm) (post : Int64 → Prop) (h : Hp) (a0 : Nat) (i1 : Int32) : Prop := wp_S_isSegment g (fun x3 => ((¬ x3 = 0 → hK h a0 = 1 ∧ ∃ a6 : Nat, hR h a0 0 = some a6 ∧ hK h a6 = 22 ∧ vp_in i1 (hN h a6) ∧ post (hJ h a6 i1.toNatClampNeg)) ∧ (x3 = 0 → False))) h i1
set_option maxHeartbeats 4000000 in
set_option maxRecDepth 100000 in
theorem c_S_value (l : Launch) (g : Gm) (post : Int64 → Prop) (h : Hp) (a0 : Nat) (i1 : Int32) (hw : wp_S_value g post h a0 i1) : Met l (⟨"SegmentLocks", "value", "(I)J"⟩ : MethodName) (ww (⟨"SegmentLocks", "value", "(I)J"⟩ : MethodName) prog_1_method_14_code 2 (some .long)) (rmm 1 20 0 0) (va_Pc [.ref a0, .int i1] (gS g h)) (vp_Sl post) 0 0 (fun _ => False) := by
  first | refine en_met (by decide) ?_ | refine en_metF (by decide) ?_
  intro p e s m below meth c C0 hr hlk hin hG
  have hS : va_S (gA g) s.heap s.heap [] := va_S.rf
  have hl := lv_entry ([.ref a0, .int i1]) (n := 2) (Nat.le_of_ble_eq_true rfl)
  rw [lg_entry_eq]
  generalize (lg_sl ([.ref a0, .int i1]) ++ List.replicate (2 - (lg_sl ([.ref a0, .int i1])).length) Slot.unset).toArray = ls at hl ⊢
  replace hl : lv_has ls 2 [(0, .ref a0), (1, .int i1)] := hl
  obtain ⟨hx, hb, -, hown, hts, hgk⟩ := id C0
  unfold wp_S_value at hw
  refine lv_iload_n hx hb dd_S_value_0 rfl (lv_at hl 1 rfl) ?_
  have hw0 := hw
  clear hw
  refine cs_i (rn_S C0 hG hS (c_S_isSegment l g _ h i1 hw0) (host := "") (nest := false) (n := 1) (As := [.int i1]) (rest := []) km_219 km_293 km_220 km_176 ⟨by decide, by decide, by decide +kernel⟩ ⟨Nat.le_of_ble_eq_true rfl, Nat.le_of_ble_eq_true rfl⟩ rfl hl.1 rfl (Nat.le_of_ble_eq_true rfl) dd_S_value_1 ⟨Nat.le_refl _, Nat.le_refl _⟩) (fun x3 hw => ?_)
  refine lv_if_ne (tgt := 17) hx hb dd_S_value_4 (by decide) (fun c4 => ?_) (fun c4 => ?_)
  · replace hw := hw.1 c4
    refine lv_aload_n hx hb dd_S_value_17 rfl (lv_at hl 0 rfl) ?_
    obtain ⟨k5, a6, ea6, hw⟩ := hw
    refine gf_S_9 C0 hG k5 ea6 dd_S_value_18 ?_
    refine lv_iload_n hx hb dd_S_value_21 rfl (lv_at hl 1 rfl) ?_
    obtain ⟨k7, k7i, hw⟩ := hw
    refine px_lald C0 hG k7 k7i dd_S_value_22 ?_
    exact rs_l C0 hr hlk hw dd_S_value_23
  · replace hw := hw.2 c4
    exact hw.elim
