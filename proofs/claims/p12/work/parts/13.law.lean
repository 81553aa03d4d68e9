/-! SegmentLocksLaw.read(LSegmentLocks;II[J)I -/
theorem dd_L_read_0 : decode method_3_code 0 = .ok (.aload_n 3, 1) := by decide +kernel
theorem dd_L_read_1 : decode method_3_code 1 = .ok (.iconst 0, 1) := by decide +kernel
theorem dd_L_read_2 : decode method_3_code 2 = .ok (.aload_n 0, 1) := by decide +kernel
theorem dd_L_read_3 : decode method_3_code 3 = .ok (.iload_n 1, 1) := by decide +kernel
theorem dd_L_read_4 : decode method_3_code 4 = .ok (.iload_n 2, 1) := by decide +kernel
theorem dd_L_read_5 : decode method_3_code 5 = .ok (.invokevirtual 7, 3) := by decide +kernel
theorem dd_L_read_8 : decode method_3_code 8 = .ok (.lastore, 1) := by decide +kernel
theorem dd_L_read_9 : decode method_3_code 9 = .ok (.goto 11, 3) := by decide +kernel
theorem dd_L_read_12 : decode method_3_code 12 = .ok (.astore 4, 2) := by decide +kernel
theorem dd_L_read_14 : decode method_3_code 14 = .ok (.iconst 1, 1) := by decide +kernel
theorem dd_L_read_15 : decode method_3_code 15 = .ok (.ireturn, 1) := by decide +kernel
theorem dd_L_read_16 : decode method_3_code 16 = .ok (.astore 4, 2) := by decide +kernel
theorem dd_L_read_18 : decode method_3_code 18 = .ok (.iconst 2, 1) := by decide +kernel
theorem dd_L_read_19 : decode method_3_code 19 = .ok (.ireturn, 1) := by decide +kernel
theorem dd_L_read_20 : decode method_3_code 20 = .ok (.iconst 0, 1) := by decide +kernel
theorem dd_L_read_21 : decode method_3_code 21 = .ok (.ireturn, 1) := by decide +kernel
def wp_L_read (g : Gm) (post : Int32 → Hp → Prop) (mc ms : Nat) (h : Hp) (b0 : Nat) (i1 : Int32) (i2 : Int32) (b3 : Nat) : Prop := hK h b0 = 1 ∧ (wp_S_read g (fun j3 h2 => hK h2 b3 = 22 ∧ vp_in 0 (hN h2 b3) ∧ ∀ h5 : Hp, h5 = sJ h2 b3 (0 : Int32).toNatClampNeg j3 → post 0 h5) h b0 i1 i2 ∨ (wp_S_read_tA g h b0 i1 i2 ∧ 0 + 1 ≤ mc ∧ 0 + 6 ≤ ms ∧ ∀ x6 : Nat, post 1 h) ∨ (wp_S_read_tS g h b0 i1 i2 ∧ 0 + 1 ≤ mc ∧ 0 + 6 ≤ ms ∧ ∀ x7 : Nat, post 2 h))
set_option maxHeartbeats 4000000 in
set_option maxRecDepth 100000 in
theorem c_L_read (l : Launch) (hfl : l.flags = pinnedFlags ++ [noTraceFlag]) (g : Gm) (post : Int32 → Hp → Prop) (mc ms : Nat) (h : Hp) (b0 : Nat) (i1 : Int32) (i2 : Int32) (b3 : Nat) (hw : wp_L_read g post mc ms h b0 i1 i2 b3) : Met l (⟨"SegmentLocksLaw", "read", "(LSegmentLocks;II[J)I"⟩ : MethodName) (wwH (⟨"SegmentLocksLaw", "read", "(LSegmentLocks;II[J)I"⟩ : MethodName) method_3_code 5 (some .int) [(0, 9, 12, 13), (0, 9, 16, 15)]) (rmm 7 113 mc ms) (va_Pc [.ref b0, .int i1, .int i2, .ref b3] (gS g h)) (va_Qi post (gS g) (gA g)) mc ms (gA g) := by
  refine en_metW (by decide) ?_
  intro p e s m below meth c C0 hr hlk htab hG
  have hS : va_S (gA g) s.heap s.heap [] := va_S.rf
  have hl := lv_entry ([.ref b0, .int i1, .int i2, .ref b3]) (n := 5) (Nat.le_of_ble_eq_true rfl)
  rw [lg_entry_eq]
  generalize (lg_sl ([.ref b0, .int i1, .int i2, .ref b3]) ++ List.replicate (5 - (lg_sl ([.ref b0, .int i1, .int i2, .ref b3])).length) Slot.unset).toArray = ls at hl ⊢
  replace hl : lv_has ls 5 [(0, .ref b0), (1, .int i1), (2, .int i2), (3, .ref b3)] := hl
  obtain ⟨hx, hb, -, hown, hts, hgk⟩ := id C0
  have hkc : 0 ≤ mc ∧ 0 ≤ ms := ⟨Nat.zero_le _, Nat.zero_le _⟩
  unfold wp_L_read at hw
  refine lv_aload_n hx hb dd_L_read_0 rfl (lv_at hl 3 rfl) ?_
  refine lv_iconst (v := 0) hx hb dd_L_read_1 (by decide) ?_
  refine lv_aload_n hx hb dd_L_read_2 rfl (lv_at hl 0 rfl) ?_
  refine lv_iload_n hx hb dd_L_read_3 rfl (lv_at hl 1 rfl) ?_
  refine lv_iload_n hx hb dd_L_read_4 rfl (lv_at hl 2 rfl) ?_
  obtain ⟨k1, hw⟩ := hw
  rcases hw with hw | ⟨hwt, hc1, hc2, hw⟩ | ⟨hwt, hc1, hc2, hw⟩
  · refine ca_l hS (rn_V C0 hG hS (c_S_read l g _ h b0 i1 i2 hw) (ci := 0) k1 (by decide) rfl rfl (host := "") (nest := false) (n := 2) (As := [.int i1, .int i2]) (rest := [.int 0, .ref b3]) km_503 km_502 km_504 km_505 km_176 ⟨by decide, by decide, by decide +kernel⟩ ⟨Nat.le_of_ble_eq_true rfl, Nat.le_of_ble_eq_true rfl⟩ rfl hl.1 rfl (Nat.le_of_ble_eq_true rfl) dd_L_read_5 hkc) (fun j3 h2 H locs hw hG hS => ?_)
    obtain ⟨k4, k4i, hw⟩ := hw
    refine px_last C0 hG hS k4 k4i dd_L_read_8 (fun H locs hG hS => ?_)
    replace hw := hw _ rfl
    generalize sJ h2 b3 (0 : Int32).toNatClampNeg j3 = h5 at hw hG
    refine lv_goto (tgt := 20) hx hb dd_L_read_9 (by decide) ?_
    refine lv_iconst (v := 0) hx hb dd_L_read_20 (by decide) ?_
    exact re_i C0 hG hS hr hlk hkc hw dd_L_read_21
  · refine cx_call C0 hG hS (c_S_read_tA l hfl g h b0 i1 i2 hwt) (ci := 0) k1 (by decide) rfl rfl (n := 2) (As := [.int i1, .int i2]) (rest := [.int 0, .ref b3]) km_503 km_502 km_504 km_505 km_176 ⟨by decide, by decide, by decide +kernel⟩ ⟨Nat.le_of_ble_eq_true rfl, Nat.le_of_ble_eq_true rfl⟩ rfl hl.1 rfl (Nat.le_of_ble_eq_true rfl) dd_L_read_5 ⟨hc1, hc2⟩ (hc_one C0 htab ⟨by decide, by decide⟩ (by decide) km_506 km_371) (fun x6 H hG hS => ?_)
    replace hw := hw x6
    have hkc := And.intro hc1 hc2
    have hl0 := hl
    clear hl
    refine lv_astore (lv' := [(4, .ref x6), (0, .ref b0), (1, .int i1), (2, .int i2), (3, .ref b3)]) hx hb dd_L_read_12 hl0 (by decide) rfl (fun ls hl => ?_)
    refine lv_iconst (v := 1) hx hb dd_L_read_14 (by decide) ?_
    exact re_i C0 hG hS hr hlk hkc hw dd_L_read_15
  · refine cx_call C0 hG hS (c_S_read_tS l hfl g h b0 i1 i2 hwt) (ci := 0) k1 (by decide) rfl rfl (n := 2) (As := [.int i1, .int i2]) (rest := [.int 0, .ref b3]) km_503 km_502 km_504 km_505 km_176 ⟨by decide, by decide, by decide +kernel⟩ ⟨Nat.le_of_ble_eq_true rfl, Nat.le_of_ble_eq_true rfl⟩ rfl hl.1 rfl (Nat.le_of_ble_eq_true rfl) dd_L_read_5 ⟨hc1, hc2⟩ (hc_two C0 htab ⟨by decide, by decide⟩ (by decide) ⟨by decide, by decide⟩ (by decide) km_506 km_507 hgk.2.2.2.2.2.2.2.2.2.2 km_388) (fun x7 H hG hS => ?_)
    replace hw := hw x7
    have hkc := And.intro hc1 hc2
    have hl0 := hl
    clear hl
    refine lv_astore (lv' := [(4, .ref x7), (0, .ref b0), (1, .int i1), (2, .int i2), (3, .ref b3)]) hx hb dd_L_read_16 hl0 (by decide) rfl (fun ls hl => ?_)
    refine lv_iconst (v := 2) hx hb dd_L_read_18 (by decide) ?_
    exact re_i C0 hG hS hr hlk hkc hw dd_L_read_19
/-! SegmentLocksLaw.value(LSegmentLocks;I[J)I -/
theorem dd_L_value_0 : decode method_4_code 0 = .ok (.aload_n 2, 1) := by decide +kernel
theorem dd_L_value_1 : decode method_4_code 1 = .ok (.iconst 0, 1) := by decide +kernel
theorem dd_L_value_2 : decode method_4_code 2 = .ok (.aload_n 0, 1) := by decide +kernel
theorem dd_L_value_3 : decode method_4_code 3 = .ok (.iload_n 1, 1) := by decide +kernel
theorem dd_L_value_4 : decode method_4_code 4 = .ok (.invokevirtual 17, 3) := by decide +kernel
theorem dd_L_value_7 : decode method_4_code 7 = .ok (.lastore, 1) := by decide +kernel
theorem dd_L_value_8 : decode method_4_code 8 = .ok (.goto 6, 3) := by decide +kernel
theorem dd_L_value_11 : decode method_4_code 11 = .ok (.astore_n 3, 1) := by decide +kernel
theorem dd_L_value_12 : decode method_4_code 12 = .ok (.iconst 1, 1) := by decide +kernel
theorem dd_L_value_13 : decode method_4_code 13 = .ok (.ireturn, 1) := by decide +kernel
theorem dd_L_value_14 : decode method_4_code 14 = .ok (.iconst 0, 1) := by decide +kernel
theorem dd_L_value_15 : decode method_4_code 15 = .ok (.ireturn, 1) := by decide +kernel
def wp_L_value (g : Gm) (post : Int32 → Hp → Prop) (mc ms : Nat) (h : Hp) (b0 : Nat) (i1 : Int32) (b2 : Nat) : Prop := hK h b0 = 1 ∧ (wp_S_value g (fun j3 => hK h b2 = 22 ∧ vp_in 0 (hN h b2) ∧ ∀ h5 : Hp, h5 = sJ h b2 (0 : Int32).toNatClampNeg j3 → post 0 h5) h b0 i1 ∨ (wp_S_value_tA g h b0 i1 ∧ 0 + 1 ≤ mc ∧ 0 + 6 ≤ ms ∧ ∀ x6 : Nat, post 1 h))
set_option maxHeartbeats 4000000 in
set_option maxRecDepth 100000 in
theorem c_L_value (l : Launch) (hfl : l.flags = pinnedFlags ++ [noTraceFlag]) (g : Gm) (post : Int32 → Hp → Prop) (mc ms : Nat) (h : Hp) (b0 : Nat) (i1 : Int32) (b2 : Nat) (hw : wp_L_value g post mc ms h b0 i1 b2) : Met l (⟨"SegmentLocksLaw", "value", "(LSegmentLocks;I[J)I"⟩ : MethodName) (wwH (⟨"SegmentLocksLaw", "value", "(LSegmentLocks;I[J)I"⟩ : MethodName) method_4_code 4 (some .int) [(0, 8, 11, 13)]) (rmm 7 103 mc ms) (va_Pc [.ref b0, .int i1, .ref b2] (gS g h)) (va_Qi post (gS g) (gA g)) mc ms (gA g) := by
  refine en_metW (by decide) ?_
  intro p e s m below meth c C0 hr hlk htab hG
  have hS : va_S (gA g) s.heap s.heap [] := va_S.rf
  have hl := lv_entry ([.ref b0, .int i1, .ref b2]) (n := 4) (Nat.le_of_ble_eq_true rfl)
  rw [lg_entry_eq]
  generalize (lg_sl ([.ref b0, .int i1, .ref b2]) ++ List.replicate (4 - (lg_sl ([.ref b0, .int i1, .ref b2])).length) Slot.unset).toArray = ls at hl ⊢
  replace hl : lv_has ls 4 [(0, .ref b0), (1, .int i1), (2, .ref b2)] := hl
  obtain ⟨hx, hb, -, hown, hts, hgk⟩ := id C0
  have hkc : 0 ≤ mc ∧ 0 ≤ ms := ⟨Nat.zero_le _, Nat.zero_le _⟩
  unfold wp_L_value at hw
  refine lv_aload_n hx hb dd_L_value_0 rfl (lv_at hl 2 rfl) ?_
  refine lv_iconst (v := 0) hx hb dd_L_value_1 (by decide) ?_
  refine lv_aload_n hx hb dd_L_value_2 rfl (lv_at hl 0 rfl) ?_
  refine lv_iload_n hx hb dd_L_value_3 rfl (lv_at hl 1 rfl) ?_
  obtain ⟨k1, hw⟩ := hw
  rcases hw with hw | ⟨hwt, hc1, hc2, hw⟩
  · have hw0 := hw
    clear hw
    refine cs_l (rn_V C0 hG hS (c_S_value l g _ h b0 i1 hw0) (ci := 0) k1 (by decide) rfl rfl (host := "") (nest := false) (n := 1) (As := [.int i1]) (rest := [.int 0, .ref b2]) km_509 km_508 km_510 km_511 km_176 ⟨by decide, by decide, by decide +kernel⟩ ⟨Nat.le_of_ble_eq_true rfl, Nat.le_of_ble_eq_true rfl⟩ rfl hl.1 rfl (Nat.le_of_ble_eq_true rfl) dd_L_value_4 hkc) (fun j3 hw => ?_)
    obtain ⟨k4, k4i, hw⟩ := hw
    refine px_last C0 hG hS k4 k4i dd_L_value_7 (fun H locs hG hS => ?_)
    replace hw := hw _ rfl
    generalize sJ h b2 (0 : Int32).toNatClampNeg j3 = h5 at hw hG
    refine lv_goto (tgt := 14) hx hb dd_L_value_8 (by decide) ?_
    refine lv_iconst (v := 0) hx hb dd_L_value_14 (by decide) ?_
    exact re_i C0 hG hS hr hlk hkc hw dd_L_value_15
  · refine cx_call C0 hG hS (c_S_value_tA l hfl g h b0 i1 hwt) (ci := 0) k1 (by decide) rfl rfl (n := 1) (As := [.int i1]) (rest := [.int 0, .ref b2]) km_509 km_508 km_510 km_511 km_176 ⟨by decide, by decide, by decide +kernel⟩ ⟨Nat.le_of_ble_eq_true rfl, Nat.le_of_ble_eq_true rfl⟩ rfl hl.1 rfl (Nat.le_of_ble_eq_true rfl) dd_L_value_4 ⟨hc1, hc2⟩ (hc_one C0 htab ⟨by decide, by decide⟩ (by decide) km_506 km_371) (fun x6 H hG hS => ?_)
    replace hw := hw x6
    have hkc := And.intro hc1 hc2
    have hl0 := hl
    clear hl
    refine lv_astore_n (lv' := [(3, .ref x6), (0, .ref b0), (1, .int i1), (2, .ref b2)]) hx hb dd_L_value_11 rfl hl0 (by decide) rfl (fun ls hl => ?_)
    refine lv_iconst (v := 1) hx hb dd_L_value_12 (by decide) ?_
    exact re_i C0 hG hS hr hlk hkc hw dd_L_value_13
theorem dd_L_law_0 : decode code 0 = .ok (.new 8, 3) := by decide +kernel
theorem dd_L_law_3 : decode code 3 = .ok (.dup, 1) := by decide +kernel
theorem dd_L_law_4 : decode code 4 = .ok (.invokespecial 21, 3) := by decide +kernel
theorem dd_L_law_7 : decode code 7 = .ok (.astore_n 1, 1) := by decide +kernel
theorem dd_L_law_8 : decode code 8 = .ok (.new 22, 3) := by decide +kernel
theorem dd_L_law_11 : decode code 11 = .ok (.dup, 1) := by decide +kernel
theorem dd_L_law_12 : decode code 12 = .ok (.invokespecial 24, 3) := by decide +kernel
theorem dd_L_law_15 : decode code 15 = .ok (.astore_n 2, 1) := by decide +kernel
theorem dd_L_law_16 : decode code 16 = .ok (.iconst 1, 1) := by decide +kernel
theorem dd_L_law_17 : decode code 17 = .ok (.newarray .long, 2) := by decide +kernel
theorem dd_L_law_19 : decode code 19 = .ok (.astore_n 3, 1) := by decide +kernel
theorem dd_L_law_20 : decode code 20 = .ok (.iconst 0, 1) := by decide +kernel
theorem dd_L_law_21 : decode code 21 = .ok (.istore 4, 2) := by decide +kernel
theorem dd_L_law_23 : decode code 23 = .ok (.iload 4, 2) := by decide +kernel
theorem dd_L_law_25 : decode code 25 = .ok (.aload_n 0, 1) := by decide +kernel
theorem dd_L_law_26 : decode code 26 = .ok (.arraylength, 1) := by decide +kernel
theorem dd_L_law_27 : decode code 27 = .ok (.iconst 5, 1) := by decide +kernel
theorem dd_L_law_28 : decode code 28 = .ok (.isub, 1) := by decide +kernel
theorem dd_L_law_29 : decode code 29 = .ok (.if_icmp .gt 533, 3) := by decide +kernel
theorem dd_L_law_32 : decode code 32 = .ok (.aload_n 0, 1) := by decide +kernel
theorem dd_L_law_33 : decode code 33 = .ok (.iload 4, 2) := by decide +kernel
theorem dd_L_law_35 : decode code 35 = .ok (.iaload, 1) := by decide +kernel
theorem dd_L_law_36 : decode code 36 = .ok (.bipush 15, 2) := by decide +kernel
theorem dd_L_law_38 : decode code 38 = .ok (.iand, 1) := by decide +kernel
theorem dd_L_law_39 : decode code 39 = .ok (.tableswitch 517 0 13 #[69, 94, 143, 224, 264, 289, 314, 339, 364, 389, 414, 439, 452, 480], 69) := by decide +kernel
theorem dd_L_law_108 : decode code 108 = .ok (.aload_n 1, 1) := by decide +kernel
theorem dd_L_law_109 : decode code 109 = .ok (.aload_n 0, 1) := by decide +kernel
theorem dd_L_law_110 : decode code 110 = .ok (.iload 4, 2) := by decide +kernel
theorem dd_L_law_112 : decode code 112 = .ok (.iconst 1, 1) := by decide +kernel
theorem dd_L_law_113 : decode code 113 = .ok (.iadd, 1) := by decide +kernel
theorem dd_L_law_114 : decode code 114 = .ok (.iaload, 1) := by decide +kernel
theorem dd_L_law_115 : decode code 115 = .ok (.invokevirtual 25, 3) := by decide +kernel
theorem dd_L_law_118 : decode code 118 = .ok (.pop, 1) := by decide +kernel
theorem dd_L_law_119 : decode code 119 = .ok (.aload_n 2, 1) := by decide +kernel
theorem dd_L_law_120 : decode code 120 = .ok (.aload_n 0, 1) := by decide +kernel
theorem dd_L_law_121 : decode code 121 = .ok (.iload 4, 2) := by decide +kernel
theorem dd_L_law_123 : decode code 123 = .ok (.iconst 1, 1) := by decide +kernel
theorem dd_L_law_124 : decode code 124 = .ok (.iadd, 1) := by decide +kernel
theorem dd_L_law_125 : decode code 125 = .ok (.iaload, 1) := by decide +kernel
theorem dd_L_law_126 : decode code 126 = .ok (.invokevirtual 29, 3) := by decide +kernel
theorem dd_L_law_129 : decode code 129 = .ok (.pop, 1) := by decide +kernel
theorem dd_L_law_130 : decode code 130 = .ok (.goto 426, 3) := by decide +kernel
theorem dd_L_law_133 : decode code 133 = .ok (.aload_n 1, 1) := by decide +kernel
theorem dd_L_law_134 : decode code 134 = .ok (.aload_n 0, 1) := by decide +kernel
theorem dd_L_law_135 : decode code 135 = .ok (.iload 4, 2) := by decide +kernel
theorem dd_L_law_137 : decode code 137 = .ok (.iconst 1, 1) := by decide +kernel
theorem dd_L_law_138 : decode code 138 = .ok (.iadd, 1) := by decide +kernel
theorem dd_L_law_139 : decode code 139 = .ok (.iaload, 1) := by decide +kernel
theorem dd_L_law_140 : decode code 140 = .ok (.aload_n 0, 1) := by decide +kernel
theorem dd_L_law_141 : decode code 141 = .ok (.iload 4, 2) := by decide +kernel
theorem dd_L_law_143 : decode code 143 = .ok (.iconst 2, 1) := by decide +kernel
theorem dd_L_law_144 : decode code 144 = .ok (.iadd, 1) := by decide +kernel
theorem dd_L_law_145 : decode code 145 = .ok (.iaload, 1) := by decide +kernel
theorem dd_L_law_146 : decode code 146 = .ok (.aload_n 0, 1) := by decide +kernel
theorem dd_L_law_147 : decode code 147 = .ok (.iload 4, 2) := by decide +kernel
theorem dd_L_law_149 : decode code 149 = .ok (.iconst 3, 1) := by decide +kernel
theorem dd_L_law_150 : decode code 150 = .ok (.iadd, 1) := by decide +kernel
theorem dd_L_law_151 : decode code 151 = .ok (.iaload, 1) := by decide +kernel
theorem dd_L_law_152 : decode code 152 = .ok (.invokevirtual 30, 3) := by decide +kernel
theorem dd_L_law_155 : decode code 155 = .ok (.pop, 1) := by decide +kernel
theorem dd_L_law_156 : decode code 156 = .ok (.aload_n 2, 1) := by decide +kernel
theorem dd_L_law_157 : decode code 157 = .ok (.aload_n 0, 1) := by decide +kernel
theorem dd_L_law_158 : decode code 158 = .ok (.iload 4, 2) := by decide +kernel
theorem dd_L_law_160 : decode code 160 = .ok (.iconst 1, 1) := by decide +kernel
theorem dd_L_law_161 : decode code 161 = .ok (.iadd, 1) := by decide +kernel
theorem dd_L_law_162 : decode code 162 = .ok (.iaload, 1) := by decide +kernel
theorem dd_L_law_163 : decode code 163 = .ok (.aload_n 0, 1) := by decide +kernel
theorem dd_L_law_164 : decode code 164 = .ok (.iload 4, 2) := by decide +kernel
theorem dd_L_law_166 : decode code 166 = .ok (.iconst 2, 1) := by decide +kernel
theorem dd_L_law_167 : decode code 167 = .ok (.iadd, 1) := by decide +kernel
theorem dd_L_law_168 : decode code 168 = .ok (.iaload, 1) := by decide +kernel
theorem dd_L_law_169 : decode code 169 = .ok (.aload_n 0, 1) := by decide +kernel
theorem dd_L_law_170 : decode code 170 = .ok (.iload 4, 2) := by decide +kernel
theorem dd_L_law_172 : decode code 172 = .ok (.iconst 3, 1) := by decide +kernel
theorem dd_L_law_173 : decode code 173 = .ok (.iadd, 1) := by decide +kernel
theorem dd_L_law_174 : decode code 174 = .ok (.iaload, 1) := by decide +kernel
theorem dd_L_law_175 : decode code 175 = .ok (.invokevirtual 34, 3) := by decide +kernel
theorem dd_L_law_178 : decode code 178 = .ok (.pop, 1) := by decide +kernel
theorem dd_L_law_179 : decode code 179 = .ok (.goto 377, 3) := by decide +kernel
theorem dd_L_law_182 : decode code 182 = .ok (.aload_n 1, 1) := by decide +kernel
theorem dd_L_law_183 : decode code 183 = .ok (.aload_n 0, 1) := by decide +kernel
theorem dd_L_law_184 : decode code 184 = .ok (.iload 4, 2) := by decide +kernel
theorem dd_L_law_186 : decode code 186 = .ok (.iconst 1, 1) := by decide +kernel
theorem dd_L_law_187 : decode code 187 = .ok (.iadd, 1) := by decide +kernel
theorem dd_L_law_188 : decode code 188 = .ok (.iaload, 1) := by decide +kernel
theorem dd_L_law_189 : decode code 189 = .ok (.aload_n 0, 1) := by decide +kernel
theorem dd_L_law_190 : decode code 190 = .ok (.iload 4, 2) := by decide +kernel
theorem dd_L_law_192 : decode code 192 = .ok (.iconst 2, 1) := by decide +kernel
theorem dd_L_law_193 : decode code 193 = .ok (.iadd, 1) := by decide +kernel
theorem dd_L_law_194 : decode code 194 = .ok (.iaload, 1) := by decide +kernel
theorem dd_L_law_195 : decode code 195 = .ok (.aload_n 0, 1) := by decide +kernel
theorem dd_L_law_196 : decode code 196 = .ok (.iload 4, 2) := by decide +kernel
theorem dd_L_law_198 : decode code 198 = .ok (.iconst 3, 1) := by decide +kernel
theorem dd_L_law_199 : decode code 199 = .ok (.iadd, 1) := by decide +kernel
theorem dd_L_law_200 : decode code 200 = .ok (.iaload, 1) := by decide +kernel
theorem dd_L_law_201 : decode code 201 = .ok (.i2l, 1) := by decide +kernel
theorem dd_L_law_202 : decode code 202 = .ok (.bipush 32, 2) := by decide +kernel
theorem dd_L_law_204 : decode code 204 = .ok (.lshl, 1) := by decide +kernel
theorem dd_L_law_205 : decode code 205 = .ok (.aload_n 0, 1) := by decide +kernel
theorem dd_L_law_206 : decode code 206 = .ok (.iload 4, 2) := by decide +kernel
theorem dd_L_law_208 : decode code 208 = .ok (.iconst 4, 1) := by decide +kernel
theorem dd_L_law_209 : decode code 209 = .ok (.iadd, 1) := by decide +kernel
theorem dd_L_law_210 : decode code 210 = .ok (.iaload, 1) := by decide +kernel
theorem dd_L_law_211 : decode code 211 = .ok (.i2l, 1) := by decide +kernel
theorem dd_L_law_212 : decode code 212 = .ok (.ldc2_w 35, 3) := by decide +kernel
theorem dd_L_law_215 : decode code 215 = .ok (.land, 1) := by decide +kernel
theorem dd_L_law_216 : decode code 216 = .ok (.lor, 1) := by decide +kernel
theorem dd_L_law_217 : decode code 217 = .ok (.invokevirtual 37, 3) := by decide +kernel
theorem dd_L_law_220 : decode code 220 = .ok (.pop, 1) := by decide +kernel
theorem dd_L_law_221 : decode code 221 = .ok (.aload_n 2, 1) := by decide +kernel
theorem dd_L_law_222 : decode code 222 = .ok (.aload_n 0, 1) := by decide +kernel
theorem dd_L_law_223 : decode code 223 = .ok (.iload 4, 2) := by decide +kernel
theorem dd_L_law_225 : decode code 225 = .ok (.iconst 1, 1) := by decide +kernel
theorem dd_L_law_226 : decode code 226 = .ok (.iadd, 1) := by decide +kernel
theorem dd_L_law_227 : decode code 227 = .ok (.iaload, 1) := by decide +kernel
theorem dd_L_law_228 : decode code 228 = .ok (.aload_n 0, 1) := by decide +kernel
theorem dd_L_law_229 : decode code 229 = .ok (.iload 4, 2) := by decide +kernel
theorem dd_L_law_231 : decode code 231 = .ok (.iconst 2, 1) := by decide +kernel
theorem dd_L_law_232 : decode code 232 = .ok (.iadd, 1) := by decide +kernel
theorem dd_L_law_233 : decode code 233 = .ok (.iaload, 1) := by decide +kernel
theorem dd_L_law_234 : decode code 234 = .ok (.aload_n 0, 1) := by decide +kernel
theorem dd_L_law_235 : decode code 235 = .ok (.iload 4, 2) := by decide +kernel
theorem dd_L_law_237 : decode code 237 = .ok (.iconst 3, 1) := by decide +kernel
theorem dd_L_law_238 : decode code 238 = .ok (.iadd, 1) := by decide +kernel
theorem dd_L_law_239 : decode code 239 = .ok (.iaload, 1) := by decide +kernel
theorem dd_L_law_240 : decode code 240 = .ok (.i2l, 1) := by decide +kernel
theorem dd_L_law_241 : decode code 241 = .ok (.bipush 32, 2) := by decide +kernel
theorem dd_L_law_243 : decode code 243 = .ok (.lshl, 1) := by decide +kernel
theorem dd_L_law_244 : decode code 244 = .ok (.aload_n 0, 1) := by decide +kernel
theorem dd_L_law_245 : decode code 245 = .ok (.iload 4, 2) := by decide +kernel
theorem dd_L_law_247 : decode code 247 = .ok (.iconst 4, 1) := by decide +kernel
theorem dd_L_law_248 : decode code 248 = .ok (.iadd, 1) := by decide +kernel
theorem dd_L_law_249 : decode code 249 = .ok (.iaload, 1) := by decide +kernel
theorem dd_L_law_250 : decode code 250 = .ok (.i2l, 1) := by decide +kernel
theorem dd_L_law_251 : decode code 251 = .ok (.ldc2_w 35, 3) := by decide +kernel
theorem dd_L_law_254 : decode code 254 = .ok (.land, 1) := by decide +kernel
theorem dd_L_law_255 : decode code 255 = .ok (.lor, 1) := by decide +kernel
theorem dd_L_law_256 : decode code 256 = .ok (.invokevirtual 41, 3) := by decide +kernel
theorem dd_L_law_259 : decode code 259 = .ok (.pop, 1) := by decide +kernel
theorem dd_L_law_260 : decode code 260 = .ok (.goto 296, 3) := by decide +kernel
theorem dd_L_law_263 : decode code 263 = .ok (.aload_n 1, 1) := by decide +kernel
theorem dd_L_law_264 : decode code 264 = .ok (.aload_n 0, 1) := by decide +kernel
theorem dd_L_law_265 : decode code 265 = .ok (.iload 4, 2) := by decide +kernel
theorem dd_L_law_267 : decode code 267 = .ok (.iconst 1, 1) := by decide +kernel
theorem dd_L_law_268 : decode code 268 = .ok (.iadd, 1) := by decide +kernel
theorem dd_L_law_269 : decode code 269 = .ok (.iaload, 1) := by decide +kernel
theorem dd_L_law_270 : decode code 270 = .ok (.aload_n 0, 1) := by decide +kernel
theorem dd_L_law_271 : decode code 271 = .ok (.iload 4, 2) := by decide +kernel
theorem dd_L_law_273 : decode code 273 = .ok (.iconst 2, 1) := by decide +kernel
theorem dd_L_law_274 : decode code 274 = .ok (.iadd, 1) := by decide +kernel
theorem dd_L_law_275 : decode code 275 = .ok (.iaload, 1) := by decide +kernel
theorem dd_L_law_276 : decode code 276 = .ok (.aload_n 3, 1) := by decide +kernel
theorem dd_L_law_277 : decode code 277 = .ok (.invokestatic 42, 3) := by decide +kernel
theorem dd_L_law_280 : decode code 280 = .ok (.istore 5, 2) := by decide +kernel
theorem dd_L_law_282 : decode code 282 = .ok (.aload_n 2, 1) := by decide +kernel
theorem dd_L_law_283 : decode code 283 = .ok (.aload_n 0, 1) := by decide +kernel
theorem dd_L_law_284 : decode code 284 = .ok (.iload 4, 2) := by decide +kernel
theorem dd_L_law_286 : decode code 286 = .ok (.iconst 1, 1) := by decide +kernel
theorem dd_L_law_287 : decode code 287 = .ok (.iadd, 1) := by decide +kernel
theorem dd_L_law_288 : decode code 288 = .ok (.iaload, 1) := by decide +kernel
theorem dd_L_law_289 : decode code 289 = .ok (.aload_n 0, 1) := by decide +kernel
theorem dd_L_law_290 : decode code 290 = .ok (.iload 4, 2) := by decide +kernel
theorem dd_L_law_292 : decode code 292 = .ok (.iconst 2, 1) := by decide +kernel
theorem dd_L_law_293 : decode code 293 = .ok (.iadd, 1) := by decide +kernel
theorem dd_L_law_294 : decode code 294 = .ok (.iaload, 1) := by decide +kernel
theorem dd_L_law_295 : decode code 295 = .ok (.invokevirtual 47, 3) := by decide +kernel
theorem dd_L_law_298 : decode code 298 = .ok (.lstore 6, 2) := by decide +kernel
theorem dd_L_law_300 : decode code 300 = .ok (.goto 256, 3) := by decide +kernel
theorem dd_L_law_303 : decode code 303 = .ok (.aload_n 1, 1) := by decide +kernel
theorem dd_L_law_304 : decode code 304 = .ok (.aload_n 0, 1) := by decide +kernel
theorem dd_L_law_305 : decode code 305 = .ok (.iload 4, 2) := by decide +kernel
theorem dd_L_law_307 : decode code 307 = .ok (.iconst 1, 1) := by decide +kernel
theorem dd_L_law_308 : decode code 308 = .ok (.iadd, 1) := by decide +kernel
theorem dd_L_law_309 : decode code 309 = .ok (.iaload, 1) := by decide +kernel
theorem dd_L_law_310 : decode code 310 = .ok (.invokevirtual 48, 3) := by decide +kernel
theorem dd_L_law_313 : decode code 313 = .ok (.pop, 1) := by decide +kernel
theorem dd_L_law_314 : decode code 314 = .ok (.aload_n 2, 1) := by decide +kernel
theorem dd_L_law_315 : decode code 315 = .ok (.aload_n 0, 1) := by decide +kernel
theorem dd_L_law_316 : decode code 316 = .ok (.iload 4, 2) := by decide +kernel
theorem dd_L_law_318 : decode code 318 = .ok (.iconst 1, 1) := by decide +kernel
theorem dd_L_law_319 : decode code 319 = .ok (.iadd, 1) := by decide +kernel
theorem dd_L_law_320 : decode code 320 = .ok (.iaload, 1) := by decide +kernel
theorem dd_L_law_321 : decode code 321 = .ok (.invokevirtual 51, 3) := by decide +kernel
theorem dd_L_law_324 : decode code 324 = .ok (.pop, 1) := by decide +kernel
theorem dd_L_law_325 : decode code 325 = .ok (.goto 231, 3) := by decide +kernel
theorem dd_L_law_328 : decode code 328 = .ok (.aload_n 1, 1) := by decide +kernel
theorem dd_L_law_329 : decode code 329 = .ok (.aload_n 0, 1) := by decide +kernel
theorem dd_L_law_330 : decode code 330 = .ok (.iload 4, 2) := by decide +kernel
theorem dd_L_law_332 : decode code 332 = .ok (.iconst 1, 1) := by decide +kernel
theorem dd_L_law_333 : decode code 333 = .ok (.iadd, 1) := by decide +kernel
theorem dd_L_law_334 : decode code 334 = .ok (.iaload, 1) := by decide +kernel
theorem dd_L_law_335 : decode code 335 = .ok (.invokevirtual 52, 3) := by decide +kernel
theorem dd_L_law_338 : decode code 338 = .ok (.pop, 1) := by decide +kernel
theorem dd_L_law_339 : decode code 339 = .ok (.aload_n 2, 1) := by decide +kernel
theorem dd_L_law_340 : decode code 340 = .ok (.aload_n 0, 1) := by decide +kernel
theorem dd_L_law_341 : decode code 341 = .ok (.iload 4, 2) := by decide +kernel
theorem dd_L_law_343 : decode code 343 = .ok (.iconst 1, 1) := by decide +kernel
theorem dd_L_law_344 : decode code 344 = .ok (.iadd, 1) := by decide +kernel
theorem dd_L_law_345 : decode code 345 = .ok (.iaload, 1) := by decide +kernel
theorem dd_L_law_346 : decode code 346 = .ok (.invokevirtual 55, 3) := by decide +kernel
theorem dd_L_law_349 : decode code 349 = .ok (.pop, 1) := by decide +kernel
theorem dd_L_law_350 : decode code 350 = .ok (.goto 206, 3) := by decide +kernel
theorem dd_L_law_353 : decode code 353 = .ok (.aload_n 1, 1) := by decide +kernel
theorem dd_L_law_354 : decode code 354 = .ok (.aload_n 0, 1) := by decide +kernel
theorem dd_L_law_355 : decode code 355 = .ok (.iload 4, 2) := by decide +kernel
theorem dd_L_law_357 : decode code 357 = .ok (.iconst 1, 1) := by decide +kernel
theorem dd_L_law_358 : decode code 358 = .ok (.iadd, 1) := by decide +kernel
theorem dd_L_law_359 : decode code 359 = .ok (.iaload, 1) := by decide +kernel
theorem dd_L_law_360 : decode code 360 = .ok (.invokevirtual 56, 3) := by decide +kernel
theorem dd_L_law_363 : decode code 363 = .ok (.pop, 1) := by decide +kernel
theorem dd_L_law_364 : decode code 364 = .ok (.aload_n 2, 1) := by decide +kernel
theorem dd_L_law_365 : decode code 365 = .ok (.aload_n 0, 1) := by decide +kernel
theorem dd_L_law_366 : decode code 366 = .ok (.iload 4, 2) := by decide +kernel
theorem dd_L_law_368 : decode code 368 = .ok (.iconst 1, 1) := by decide +kernel
theorem dd_L_law_369 : decode code 369 = .ok (.iadd, 1) := by decide +kernel
theorem dd_L_law_370 : decode code 370 = .ok (.iaload, 1) := by decide +kernel
theorem dd_L_law_371 : decode code 371 = .ok (.invokevirtual 59, 3) := by decide +kernel
theorem dd_L_law_374 : decode code 374 = .ok (.pop, 1) := by decide +kernel
theorem dd_L_law_375 : decode code 375 = .ok (.goto 181, 3) := by decide +kernel
theorem dd_L_law_378 : decode code 378 = .ok (.aload_n 1, 1) := by decide +kernel
theorem dd_L_law_379 : decode code 379 = .ok (.aload_n 0, 1) := by decide +kernel
theorem dd_L_law_380 : decode code 380 = .ok (.iload 4, 2) := by decide +kernel
theorem dd_L_law_382 : decode code 382 = .ok (.iconst 1, 1) := by decide +kernel
theorem dd_L_law_383 : decode code 383 = .ok (.iadd, 1) := by decide +kernel
theorem dd_L_law_384 : decode code 384 = .ok (.iaload, 1) := by decide +kernel
theorem dd_L_law_385 : decode code 385 = .ok (.invokevirtual 60, 3) := by decide +kernel
theorem dd_L_law_388 : decode code 388 = .ok (.pop, 1) := by decide +kernel
theorem dd_L_law_389 : decode code 389 = .ok (.aload_n 2, 1) := by decide +kernel
theorem dd_L_law_390 : decode code 390 = .ok (.aload_n 0, 1) := by decide +kernel
theorem dd_L_law_391 : decode code 391 = .ok (.iload 4, 2) := by decide +kernel
theorem dd_L_law_393 : decode code 393 = .ok (.iconst 1, 1) := by decide +kernel
theorem dd_L_law_394 : decode code 394 = .ok (.iadd, 1) := by decide +kernel
theorem dd_L_law_395 : decode code 395 = .ok (.iaload, 1) := by decide +kernel
theorem dd_L_law_396 : decode code 396 = .ok (.invokevirtual 63, 3) := by decide +kernel
theorem dd_L_law_399 : decode code 399 = .ok (.pop, 1) := by decide +kernel
theorem dd_L_law_400 : decode code 400 = .ok (.goto 156, 3) := by decide +kernel
theorem dd_L_law_403 : decode code 403 = .ok (.aload_n 1, 1) := by decide +kernel
theorem dd_L_law_404 : decode code 404 = .ok (.aload_n 0, 1) := by decide +kernel
theorem dd_L_law_405 : decode code 405 = .ok (.iload 4, 2) := by decide +kernel
theorem dd_L_law_407 : decode code 407 = .ok (.iconst 1, 1) := by decide +kernel
theorem dd_L_law_408 : decode code 408 = .ok (.iadd, 1) := by decide +kernel
theorem dd_L_law_409 : decode code 409 = .ok (.iaload, 1) := by decide +kernel
theorem dd_L_law_410 : decode code 410 = .ok (.invokevirtual 64, 3) := by decide +kernel
theorem dd_L_law_413 : decode code 413 = .ok (.pop, 1) := by decide +kernel
theorem dd_L_law_414 : decode code 414 = .ok (.aload_n 2, 1) := by decide +kernel
theorem dd_L_law_415 : decode code 415 = .ok (.aload_n 0, 1) := by decide +kernel
theorem dd_L_law_416 : decode code 416 = .ok (.iload 4, 2) := by decide +kernel
theorem dd_L_law_418 : decode code 418 = .ok (.iconst 1, 1) := by decide +kernel
theorem dd_L_law_419 : decode code 419 = .ok (.iadd, 1) := by decide +kernel
theorem dd_L_law_420 : decode code 420 = .ok (.iaload, 1) := by decide +kernel
theorem dd_L_law_421 : decode code 421 = .ok (.invokevirtual 67, 3) := by decide +kernel
theorem dd_L_law_424 : decode code 424 = .ok (.pop, 1) := by decide +kernel
theorem dd_L_law_425 : decode code 425 = .ok (.goto 131, 3) := by decide +kernel
theorem dd_L_law_428 : decode code 428 = .ok (.aload_n 1, 1) := by decide +kernel
theorem dd_L_law_429 : decode code 429 = .ok (.aload_n 0, 1) := by decide +kernel
theorem dd_L_law_430 : decode code 430 = .ok (.iload 4, 2) := by decide +kernel
theorem dd_L_law_432 : decode code 432 = .ok (.iconst 1, 1) := by decide +kernel
theorem dd_L_law_433 : decode code 433 = .ok (.iadd, 1) := by decide +kernel
theorem dd_L_law_434 : decode code 434 = .ok (.iaload, 1) := by decide +kernel
theorem dd_L_law_435 : decode code 435 = .ok (.invokevirtual 68, 3) := by decide +kernel
theorem dd_L_law_438 : decode code 438 = .ok (.pop, 1) := by decide +kernel
theorem dd_L_law_439 : decode code 439 = .ok (.aload_n 2, 1) := by decide +kernel
theorem dd_L_law_440 : decode code 440 = .ok (.aload_n 0, 1) := by decide +kernel
theorem dd_L_law_441 : decode code 441 = .ok (.iload 4, 2) := by decide +kernel
theorem dd_L_law_443 : decode code 443 = .ok (.iconst 1, 1) := by decide +kernel
theorem dd_L_law_444 : decode code 444 = .ok (.iadd, 1) := by decide +kernel
theorem dd_L_law_445 : decode code 445 = .ok (.iaload, 1) := by decide +kernel
theorem dd_L_law_446 : decode code 446 = .ok (.invokevirtual 71, 3) := by decide +kernel
theorem dd_L_law_449 : decode code 449 = .ok (.pop, 1) := by decide +kernel
theorem dd_L_law_450 : decode code 450 = .ok (.goto 106, 3) := by decide +kernel
theorem dd_L_law_453 : decode code 453 = .ok (.aload_n 1, 1) := by decide +kernel
theorem dd_L_law_454 : decode code 454 = .ok (.aload_n 0, 1) := by decide +kernel
theorem dd_L_law_455 : decode code 455 = .ok (.iload 4, 2) := by decide +kernel
theorem dd_L_law_457 : decode code 457 = .ok (.iconst 1, 1) := by decide +kernel
theorem dd_L_law_458 : decode code 458 = .ok (.iadd, 1) := by decide +kernel
theorem dd_L_law_459 : decode code 459 = .ok (.iaload, 1) := by decide +kernel
theorem dd_L_law_460 : decode code 460 = .ok (.invokevirtual 72, 3) := by decide +kernel
theorem dd_L_law_463 : decode code 463 = .ok (.aload_n 2, 1) := by decide +kernel
theorem dd_L_law_464 : decode code 464 = .ok (.aload_n 0, 1) := by decide +kernel
theorem dd_L_law_465 : decode code 465 = .ok (.iload 4, 2) := by decide +kernel
theorem dd_L_law_467 : decode code 467 = .ok (.iconst 1, 1) := by decide +kernel
theorem dd_L_law_468 : decode code 468 = .ok (.iadd, 1) := by decide +kernel
theorem dd_L_law_469 : decode code 469 = .ok (.iaload, 1) := by decide +kernel
theorem dd_L_law_470 : decode code 470 = .ok (.invokevirtual 75, 3) := by decide +kernel
theorem dd_L_law_473 : decode code 473 = .ok (.if_icmp .eq 83, 3) := by decide +kernel
theorem dd_L_law_476 : decode code 476 = .ok (.iconst 0, 1) := by decide +kernel
theorem dd_L_law_477 : decode code 477 = .ok (.ireturn, 1) := by decide +kernel
theorem dd_L_law_478 : decode code 478 = .ok (.aload_n 1, 1) := by decide +kernel
theorem dd_L_law_479 : decode code 479 = .ok (.invokevirtual 76, 3) := by decide +kernel
theorem dd_L_law_482 : decode code 482 = .ok (.pop, 1) := by decide +kernel
theorem dd_L_law_483 : decode code 483 = .ok (.aload_n 2, 1) := by decide +kernel
theorem dd_L_law_484 : decode code 484 = .ok (.invokevirtual 80, 3) := by decide +kernel
theorem dd_L_law_487 : decode code 487 = .ok (.pop, 1) := by decide +kernel
theorem dd_L_law_488 : decode code 488 = .ok (.goto 68, 3) := by decide +kernel
theorem dd_L_law_491 : decode code 491 = .ok (.aload_n 1, 1) := by decide +kernel
theorem dd_L_law_492 : decode code 492 = .ok (.aload_n 0, 1) := by decide +kernel
theorem dd_L_law_493 : decode code 493 = .ok (.iload 4, 2) := by decide +kernel
theorem dd_L_law_495 : decode code 495 = .ok (.iconst 1, 1) := by decide +kernel
theorem dd_L_law_496 : decode code 496 = .ok (.iadd, 1) := by decide +kernel
theorem dd_L_law_497 : decode code 497 = .ok (.iaload, 1) := by decide +kernel
theorem dd_L_law_498 : decode code 498 = .ok (.aload_n 3, 1) := by decide +kernel
theorem dd_L_law_499 : decode code 499 = .ok (.invokestatic 81, 3) := by decide +kernel
theorem dd_L_law_502 : decode code 502 = .ok (.istore 5, 2) := by decide +kernel
theorem dd_L_law_504 : decode code 504 = .ok (.aload_n 2, 1) := by decide +kernel
theorem dd_L_law_505 : decode code 505 = .ok (.aload_n 0, 1) := by decide +kernel
theorem dd_L_law_506 : decode code 506 = .ok (.iload 4, 2) := by decide +kernel
theorem dd_L_law_508 : decode code 508 = .ok (.iconst 1, 1) := by decide +kernel
theorem dd_L_law_509 : decode code 509 = .ok (.iadd, 1) := by decide +kernel
theorem dd_L_law_510 : decode code 510 = .ok (.iaload, 1) := by decide +kernel
theorem dd_L_law_511 : decode code 511 = .ok (.invokevirtual 84, 3) := by decide +kernel
theorem dd_L_law_514 : decode code 514 = .ok (.lstore 6, 2) := by decide +kernel
theorem dd_L_law_516 : decode code 516 = .ok (.goto 40, 3) := by decide +kernel
theorem dd_L_law_519 : decode code 519 = .ok (.aload_n 1, 1) := by decide +kernel
theorem dd_L_law_520 : decode code 520 = .ok (.aload_n 0, 1) := by decide +kernel
theorem dd_L_law_521 : decode code 521 = .ok (.iload 4, 2) := by decide +kernel
theorem dd_L_law_523 : decode code 523 = .ok (.iconst 1, 1) := by decide +kernel
theorem dd_L_law_524 : decode code 524 = .ok (.iadd, 1) := by decide +kernel
theorem dd_L_law_525 : decode code 525 = .ok (.iaload, 1) := by decide +kernel
theorem dd_L_law_526 : decode code 526 = .ok (.aload_n 0, 1) := by decide +kernel
theorem dd_L_law_527 : decode code 527 = .ok (.iload 4, 2) := by decide +kernel
theorem dd_L_law_529 : decode code 529 = .ok (.iconst 2, 1) := by decide +kernel
theorem dd_L_law_530 : decode code 530 = .ok (.iadd, 1) := by decide +kernel
theorem dd_L_law_531 : decode code 531 = .ok (.iaload, 1) := by decide +kernel
theorem dd_L_law_532 : decode code 532 = .ok (.invokevirtual 85, 3) := by decide +kernel
theorem dd_L_law_535 : decode code 535 = .ok (.pop, 1) := by decide +kernel
theorem dd_L_law_536 : decode code 536 = .ok (.aload_n 2, 1) := by decide +kernel
theorem dd_L_law_537 : decode code 537 = .ok (.aload_n 0, 1) := by decide +kernel
theorem dd_L_law_538 : decode code 538 = .ok (.iload 4, 2) := by decide +kernel
theorem dd_L_law_540 : decode code 540 = .ok (.iconst 1, 1) := by decide +kernel
theorem dd_L_law_541 : decode code 541 = .ok (.iadd, 1) := by decide +kernel
theorem dd_L_law_542 : decode code 542 = .ok (.iaload, 1) := by decide +kernel
theorem dd_L_law_543 : decode code 543 = .ok (.aload_n 0, 1) := by decide +kernel
theorem dd_L_law_544 : decode code 544 = .ok (.iload 4, 2) := by decide +kernel
theorem dd_L_law_546 : decode code 546 = .ok (.iconst 2, 1) := by decide +kernel
theorem dd_L_law_547 : decode code 547 = .ok (.iadd, 1) := by decide +kernel
theorem dd_L_law_548 : decode code 548 = .ok (.iaload, 1) := by decide +kernel
theorem dd_L_law_549 : decode code 549 = .ok (.invokevirtual 89, 3) := by decide +kernel
theorem dd_L_law_552 : decode code 552 = .ok (.pop, 1) := by decide +kernel
theorem dd_L_law_553 : decode code 553 = .ok (.goto 3, 3) := by decide +kernel
theorem dd_L_law_556 : decode code 556 = .ok (.iinc 4 5, 3) := by decide +kernel
theorem dd_L_law_559 : decode code 559 = .ok (.goto (-536), 3) := by decide +kernel
theorem dd_L_law_562 : decode code 562 = .ok (.iconst 1, 1) := by decide +kernel
theorem dd_L_law_563 : decode code 563 = .ok (.ireturn, 1) := by decide +kernel
def wp_L_law_556 (g : Gm) (L : Nat) (xs : Nat → Int32) (mc ms : Nat) (K23 : Hp → Nat → Nat → Nat → Nat → Nat → Int32 → Prop) (h : Hp) (kc ks : Nat) (v1 : Nat) (v2 : Nat) (v3 : Nat) (v4 : Int32) : Prop := ∀ x1 : Int32, x1 = v4 + 5 → K23 h kc ks v1 v2 v3 x1
set_option maxHeartbeats 4000000 in
set_option maxRecDepth 100000 in
theorem wk_L_law_556 {p : Program} {l : Launch} {e : Env} {s : State} {m : MethodId} {args : Array Value} {below : List Frame} {meth : Method} {c : Code} {g : Gm} {b L : Nat} {xs : Nat → Int32} {mc ms : Nat} (C0 : Cx g p s m args c code 8 "SegmentLocksLaw") (hfl : l.flags = pinnedFlags ++ [noTraceFlag]) (hr : meth.sig.returnType = some .boolean) (hlk : meth.locks = false) (hsz : s.heap.size ≤ g.2.2 0) (hX : va_X b L xs s s.heap) (hbl : b < s.heap.size) (hbA : ¬ gA g b) {K23 : Hp → Nat → Nat → Nat → Nat → Nat → Int32 → Prop} (hK23 : ∀ (h : Hp) (kc ks : Nat) (v1 : Nat) (v2 : Nat) (v3 : Nat) (v4 : Int32) (H : Heap) (locs : List Loc) (ls : Array Slot), K23 h kc ks v1 v2 v3 v4 → GH g h H → va_S (gA g) s.heap H locs → kc ≤ mc ∧ ks ≤ ms → lv_has ls 8 [(0, .ref b), (1, .ref v1), (2, .ref v2), (3, .ref v3), (4, .int v4)] → W p l e (rmm 14 556 mc ms) s m args below meth c H locs kc ks (MQ below lawQ args s mc ms (fun _ => False)) (F0 m 23 ls [])) : ∀ (h : Hp) (kc ks : Nat) (v1 : Nat) (v2 : Nat) (v3 : Nat) (v4 : Int32) (H : Heap) (locs : List Loc) (ls : Array Slot), wp_L_law_556 g L xs mc ms K23 h kc ks v1 v2 v3 v4 → GH g h H → va_S (gA g) s.heap H locs → kc ≤ mc ∧ ks ≤ ms → lv_has ls 8 [(0, .ref b), (1, .ref v1), (2, .ref v2), (3, .ref v3), (4, .int v4)] → W p l e (rmm 14 556 mc ms) s m args below meth c H locs kc ks (MQ below lawQ args s mc ms (fun _ => False)) (F0 m 556 ls []) := by
  obtain ⟨hx, hb, -, hown, hts, hgk⟩ := id C0
  intro h kc ks v1 v2 v3 v4 H locs ls hw hG hS hkc hl
  unfold wp_L_law_556 at hw
  obtain ⟨x1, ex1⟩ : ∃ y : Int32, y = v4 + 5 := ⟨_, rfl⟩
  replace hw := hw x1 ex1
  have hl0 := hl
  clear hl
  refine lv_iinc (v := x1) (lv' := [(4, .int x1), (0, .ref b), (1, .ref v1), (2, .ref v2), (3, .ref v3)]) hx hb dd_L_law_556 hl0 (k := 4) rfl (by rw [ex1]; rfl) (by decide) rfl (fun ls hl => ?_)
  refine lv_goto (tgt := 23) hx hb dd_L_law_559 (by decide) ?_
  exact hK23 _ _ _ _ _ _ _ _ _ _ hw hG hS hkc (lv_sub hl [1, 2, 3, 4, 0] rfl)
def wp_L_law_23 (g : Gm) (L : Nat) (xs : Nat → Int32) (mc ms : Nat) : Nat → Hp → Nat → Nat → Nat → Nat → Nat → Int32 → Prop
  | 0, _, _, _, _, _, _, _ => False
  | fu + 1, h, kc, ks, v1, v2, v3, v4 => ∀ x1 : Int32, x1 = (nI L) - 5 → ((x1 < v4 → (1 : Int32) = 1) ∧ (¬ x1 < v4 → vp_in v4 L ∧ ∀ x4 : Int32, x4 = xs v4.toNatClampNeg → ∀ x5 : Int32, x5 = x4 &&& 15 → ((x5.toInt < 0 ∨ 13 < x5.toInt → wp_L_law_556 g L xs mc ms (fun h kc ks v1 v2 v3 v4 => wp_L_law_23 g L xs mc ms fu h kc ks v1 v2 v3 v4) h kc ks v1 v2 v3 v4) ∧ (x5.toInt = 0 → ∀ x6 : Int32, x6 = v4 + 1 → vp_in x6 L ∧ ∀ x8 : Int32, x8 = xs x6.toNatClampNeg → hK h v1 = 1 ∧ ∃ mc12 ms13 : Nat, kc + mc12 ≤ mc ∧ ks + ms13 ≤ ms ∧ wp_S_task g (fun x11 h10 => ∀ x14 : Int32, x14 = v4 + 1 → vp_in x14 L ∧ ∀ x16 : Int32, x16 = xs x14.toNatClampNeg → hK h10 v2 = 5 ∧ wp_M_task g (fun x19 h18 => wp_L_law_556 g L xs mc ms (fun h kc ks v1 v2 v3 v4 => wp_L_law_23 g L xs mc ms fu h kc ks v1 v2 v3 v4) h18 (kc + mc12) (ks + ms13) v1 v2 v3 v4) h10 v2 x16) mc12 ms13 h v1 x8) ∧ (x5.toInt = 1 → ∀ x20 : Int32, x20 = v4 + 1 → vp_in x20 L ∧ ∀ x22 : Int32, x22 = xs x20.toNatClampNeg → ∀ x23 : Int32, x23 = v4 + 2 → vp_in x23 L ∧ ∀ x25 : Int32, x25 = xs x23.toNatClampNeg → ∀ x26 : Int32, x26 = v4 + 3 → vp_in x26 L ∧ ∀ x28 : Int32, x28 = xs x26.toNatClampNeg → hK h v1 = 1 ∧ ∃ mc32 ms33 : Nat, kc + mc32 ≤ mc ∧ ks + ms33 ≤ ms ∧ wp_S_ask g (fun x31 h30 => ∀ x34 : Int32, x34 = v4 + 1 → vp_in x34 L ∧ ∀ x36 : Int32, x36 = xs x34.toNatClampNeg → ∀ x37 : Int32, x37 = v4 + 2 → vp_in x37 L ∧ ∀ x39 : Int32, x39 = xs x37.toNatClampNeg → ∀ x40 : Int32, x40 = v4 + 3 → vp_in x40 L ∧ ∀ x42 : Int32, x42 = xs x40.toNatClampNeg → hK h30 v2 = 5 ∧ wp_M_ask g (fun x45 h44 => wp_L_law_556 g L xs mc ms (fun h kc ks v1 v2 v3 v4 => wp_L_law_23 g L xs mc ms fu h kc ks v1 v2 v3 v4) h44 (kc + mc32) (ks + ms33) v1 v2 v3 v4) h30 v2 x36 x39 x42) mc32 ms33 h v1 x22 x25 x28) ∧ (x5.toInt = 2 → ∀ x46 : Int32, x46 = v4 + 1 → vp_in x46 L ∧ ∀ x48 : Int32, x48 = xs x46.toNatClampNeg → ∀ x49 : Int32, x49 = v4 + 2 → vp_in x49 L ∧ ∀ x51 : Int32, x51 = xs x49.toNatClampNeg → ∀ x52 : Int32, x52 = v4 + 3 → vp_in x52 L ∧ ∀ x54 : Int32, x54 = xs x52.toNatClampNeg → ∀ j55 : Int64, j55 = x54.toInt64 → ∀ j56 : Int64, j56 = j55 <<< ((32 : Int32).toInt64 &&& 63) → ∀ x57 : Int32, x57 = v4 + 4 → vp_in x57 L ∧ ∀ x59 : Int32, x59 = xs x57.toNatClampNeg → ∀ j60 : Int64, j60 = x59.toInt64 → ∀ j61 : Int64, j61 = j60 &&& 4294967295 → ∀ j62 : Int64, j62 = j56 ||| j61 → hK h v1 = 1 ∧ wp_S_write g (fun x65 h64 => ∀ x66 : Int32, x66 = v4 + 1 → vp_in x66 L ∧ ∀ x68 : Int32, x68 = xs x66.toNatClampNeg → ∀ x69 : Int32, x69 = v4 + 2 → vp_in x69 L ∧ ∀ x71 : Int32, x71 = xs x69.toNatClampNeg → ∀ x72 : Int32, x72 = v4 + 3 → vp_in x72 L ∧ ∀ x74 : Int32, x74 = xs x72.toNatClampNeg → ∀ j75 : Int64, j75 = x74.toInt64 → ∀ j76 : Int64, j76 = j75 <<< ((32 : Int32).toInt64 &&& 63) → ∀ x77 : Int32, x77 = v4 + 4 → vp_in x77 L ∧ ∀ x79 : Int32, x79 = xs x77.toNatClampNeg → ∀ j80 : Int64, j80 = x79.toInt64 → ∀ j81 : Int64, j81 = j80 &&& 4294967295 → ∀ j82 : Int64, j82 = j76 ||| j81 → hK h64 v2 = 5 ∧ wp_M_write g (fun x85 h84 => wp_L_law_556 g L xs mc ms (fun h kc ks v1 v2 v3 v4 => wp_L_law_23 g L xs mc ms fu h kc ks v1 v2 v3 v4) h84 kc ks v1 v2 v3 v4) h64 v2 x68 x71 j82) h v1 x48 x51 j62) ∧ (x5.toInt = 3 → ∀ x86 : Int32, x86 = v4 + 1 → vp_in x86 L ∧ ∀ x88 : Int32, x88 = xs x86.toNatClampNeg → ∀ x89 : Int32, x89 = v4 + 2 → vp_in x89 L ∧ ∀ x91 : Int32, x91 = xs x89.toNatClampNeg → ∃ mc95 ms96 : Nat, kc + mc95 ≤ mc ∧ ks + ms96 ≤ ms ∧ wp_L_read g (fun x94 h93 => ∀ x97 : Int32, x97 = v4 + 1 → vp_in x97 L ∧ ∀ x99 : Int32, x99 = xs x97.toNatClampNeg → ∀ x100 : Int32, x100 = v4 + 2 → vp_in x100 L ∧ ∀ x102 : Int32, x102 = xs x100.toNatClampNeg → hK h93 v2 = 5 ∧ wp_M_read g (fun j105 h104 => wp_L_law_556 g L xs mc ms (fun h kc ks v1 v2 v3 v4 => wp_L_law_23 g L xs mc ms fu h kc ks v1 v2 v3 v4) h104 (kc + mc95) (ks + ms96) v1 v2 v3 v4) h93 v2 x99 x102) mc95 ms96 h v1 x88 x91 v3) ∧ (x5.toInt = 4 → ∀ x106 : Int32, x106 = v4 + 1 → vp_in x106 L ∧ ∀ x108 : Int32, x108 = xs x106.toNatClampNeg → hK h v1 = 1 ∧ wp_S_sync g (fun x111 h110 => ∀ x112 : Int32, x112 = v4 + 1 → vp_in x112 L ∧ ∀ x114 : Int32, x114 = xs x112.toNatClampNeg → hK h110 v2 = 5 ∧ wp_M_sync g (fun x117 h116 => wp_L_law_556 g L xs mc ms (fun h kc ks v1 v2 v3 v4 => wp_L_law_23 g L xs mc ms fu h kc ks v1 v2 v3 v4) h116 kc ks v1 v2 v3 v4) h110 v2 x114) h v1 x108) ∧ (x5.toInt = 5 → ∀ x118 : Int32, x118 = v4 + 1 → vp_in x118 L ∧ ∀ x120 : Int32, x120 = xs x118.toNatClampNeg → hK h v1 = 1 ∧ wp_S_backout g (fun x123 h122 => ∀ x124 : Int32, x124 = v4 + 1 → vp_in x124 L ∧ ∀ x126 : Int32, x126 = xs x124.toNatClampNeg → hK h122 v2 = 5 ∧ wp_M_backout g (fun x129 h128 => wp_L_law_556 g L xs mc ms (fun h kc ks v1 v2 v3 v4 => wp_L_law_23 g L xs mc ms fu h kc ks v1 v2 v3 v4) h128 kc ks v1 v2 v3 v4) h122 v2 x126) h v1 x120) ∧ (x5.toInt = 6 → ∀ x130 : Int32, x130 = v4 + 1 → vp_in x130 L ∧ ∀ x132 : Int32, x132 = xs x130.toNatClampNeg → hK h v1 = 1 ∧ wp_S_ring g (fun x135 => ∀ x136 : Int32, x136 = v4 + 1 → vp_in x136 L ∧ ∀ x138 : Int32, x138 = xs x136.toNatClampNeg → hK h v2 = 5 ∧ wp_M_ring g (fun x141 h140 => wp_L_law_556 g L xs mc ms (fun h kc ks v1 v2 v3 v4 => wp_L_law_23 g L xs mc ms fu h kc ks v1 v2 v3 v4) h140 kc ks v1 v2 v3 v4) h v2 x138) h v1 x132) ∧ (x5.toInt = 7 → ∀ x142 : Int32, x142 = v4 + 1 → vp_in x142 L ∧ ∀ x144 : Int32, x144 = xs x142.toNatClampNeg → hK h v1 = 1 ∧ wp_S_checkpoint g (fun x147 h146 => ∀ x148 : Int32, x148 = v4 + 1 → vp_in x148 L ∧ ∀ x150 : Int32, x150 = xs x148.toNatClampNeg → hK h146 v2 = 5 ∧ wp_M_checkpoint g (fun x153 h152 => wp_L_law_556 g L xs mc ms (fun h kc ks v1 v2 v3 v4 => wp_L_law_23 g L xs mc ms fu h kc ks v1 v2 v3 v4) h152 kc ks v1 v2 v3 v4) h146 v2 x150) h v1 x144) ∧ (x5.toInt = 8 → ∀ x154 : Int32, x154 = v4 + 1 → vp_in x154 L ∧ ∀ x156 : Int32, x156 = xs x154.toNatClampNeg → hK h v1 = 1 ∧ wp_S_dead g (fun x159 h158 => ∀ x160 : Int32, x160 = v4 + 1 → vp_in x160 L ∧ ∀ x162 : Int32, x162 = xs x160.toNatClampNeg → hK h158 v2 = 5 ∧ wp_M_dead g (fun x165 h164 => wp_L_law_556 g L xs mc ms (fun h kc ks v1 v2 v3 v4 => wp_L_law_23 g L xs mc ms fu h kc ks v1 v2 v3 v4) h164 kc ks v1 v2 v3 v4) h158 v2 x162) h v1 x156) ∧ (x5.toInt = 9 → ∀ x166 : Int32, x166 = v4 + 1 → vp_in x166 L ∧ ∀ x168 : Int32, x168 = xs x166.toNatClampNeg → hK h v1 = 1 ∧ wp_S_limit g (fun x171 h170 => ∀ x172 : Int32, x172 = v4 + 1 → vp_in x172 L ∧ ∀ x174 : Int32, x174 = xs x172.toNatClampNeg → hK h170 v2 = 5 ∧ wp_M_limit g (fun x177 h176 => wp_L_law_556 g L xs mc ms (fun h kc ks v1 v2 v3 v4 => wp_L_law_23 g L xs mc ms fu h kc ks v1 v2 v3 v4) h176 kc ks v1 v2 v3 v4) h170 v2 x174) h v1 x168) ∧ (x5.toInt = 10 → ∀ x178 : Int32, x178 = v4 + 1 → vp_in x178 L ∧ ∀ x180 : Int32, x180 = xs x178.toNatClampNeg → hK h v1 = 1 ∧ wp_S_holder g (fun x183 => ∀ x184 : Int32, x184 = v4 + 1 → vp_in x184 L ∧ ∀ x186 : Int32, x186 = xs x184.toNatClampNeg → hK h v2 = 5 ∧ wp_M_holder g (fun x189 h188 => ((x183 = x189 → wp_L_law_556 g L xs mc ms (fun h kc ks v1 v2 v3 v4 => wp_L_law_23 g L xs mc ms fu h kc ks v1 v2 v3 v4) h188 kc ks v1 v2 v3 v4) ∧ (¬ x183 = x189 → (0 : Int32) = 1))) h v2 x186) h v1 x180) ∧ (x5.toInt = 11 → hK h v1 = 1 ∧ wp_S_serial g (fun x193 => hK h v2 = 5 ∧ wp_M_serial g (fun x196 h195 => wp_L_law_556 g L xs mc ms (fun h kc ks v1 v2 v3 v4 => wp_L_law_23 g L xs mc ms fu h kc ks v1 v2 v3 v4) h195 kc ks v1 v2 v3 v4) h v2) h v1) ∧ (x5.toInt = 12 → ∀ x197 : Int32, x197 = v4 + 1 → vp_in x197 L ∧ ∀ x199 : Int32, x199 = xs x197.toNatClampNeg → ∃ mc203 ms204 : Nat, kc + mc203 ≤ mc ∧ ks + ms204 ≤ ms ∧ wp_L_value g (fun x202 h201 => ∀ x205 : Int32, x205 = v4 + 1 → vp_in x205 L ∧ ∀ x207 : Int32, x207 = xs x205.toNatClampNeg → hK h201 v2 = 5 ∧ wp_M_value g (fun j210 h209 => wp_L_law_556 g L xs mc ms (fun h kc ks v1 v2 v3 v4 => wp_L_law_23 g L xs mc ms fu h kc ks v1 v2 v3 v4) h209 (kc + mc203) (ks + ms204) v1 v2 v3 v4) h201 v2 x207) mc203 ms204 h v1 x199 v3) ∧ (x5.toInt = 13 → ∀ x211 : Int32, x211 = v4 + 1 → vp_in x211 L ∧ ∀ x213 : Int32, x213 = xs x211.toNatClampNeg → ∀ x214 : Int32, x214 = v4 + 2 → vp_in x214 L ∧ ∀ x216 : Int32, x216 = xs x214.toNatClampNeg → hK h v1 = 1 ∧ wp_S_state g (fun x219 => ∀ x220 : Int32, x220 = v4 + 1 → vp_in x220 L ∧ ∀ x222 : Int32, x222 = xs x220.toNatClampNeg → ∀ x223 : Int32, x223 = v4 + 2 → vp_in x223 L ∧ ∀ x225 : Int32, x225 = xs x223.toNatClampNeg → hK h v2 = 5 ∧ wp_M_state g (fun x228 h227 => wp_L_law_556 g L xs mc ms (fun h kc ks v1 v2 v3 v4 => wp_L_law_23 g L xs mc ms fu h kc ks v1 v2 v3 v4) h227 kc ks v1 v2 v3 v4) h v2 x222 x225) h v1 x213 x216))))
set_option maxHeartbeats 4000000 in
set_option maxRecDepth 100000 in
theorem wk_L_law_23 {p : Program} {l : Launch} {e : Env} {s : State} {m : MethodId} {args : Array Value} {below : List Frame} {meth : Method} {c : Code} {g : Gm} {b L : Nat} {xs : Nat → Int32} {mc ms : Nat} (C0 : Cx g p s m args c code 8 "SegmentLocksLaw") (hfl : l.flags = pinnedFlags ++ [noTraceFlag]) (hr : meth.sig.returnType = some .boolean) (hlk : meth.locks = false) (hsz : s.heap.size ≤ g.2.2 0) (hX : va_X b L xs s s.heap) (hbl : b < s.heap.size) (hbA : ¬ gA g b) : ∀ n : Nat, ∀ (h : Hp) (kc ks : Nat) (v1 : Nat) (v2 : Nat) (v3 : Nat) (v4 : Int32) (H : Heap) (locs : List Loc) (ls : Array Slot), wp_L_law_23 g L xs mc ms n h kc ks v1 v2 v3 v4 → GH g h H → va_S (gA g) s.heap H locs → kc ≤ mc ∧ ks ≤ ms → lv_has ls 8 [(0, .ref b), (1, .ref v1), (2, .ref v2), (3, .ref v3), (4, .int v4)] → W p l e (rmm 14 556 mc ms) s m args below meth c H locs kc ks (MQ below lawQ args s mc ms (fun _ => False)) (F0 m 23 ls []) := by
  obtain ⟨hx, hb, -, hown, hts, hgk⟩ := id C0
  intro n
  induction n with
  | zero =>
    intro h kc ks v1 v2 v3 v4 H locs ls hw hG hS hkc hl
    exact hw.elim
  | succ n ih =>
    intro h kc ks v1 v2 v3 v4 H locs ls hw hG hS hkc hl
    unfold wp_L_law_23 at hw
    refine lv_iload hx hb dd_L_law_23 (lv_at hl 4 rfl) ?_
    refine lv_aload_n hx hb dd_L_law_25 rfl (lv_at hl 0 rfl) ?_
    refine va_slen hx hb hX hbl hbA hS dd_L_law_26 ?_
    refine lv_iconst (v := 5) hx hb dd_L_law_27 (by decide) ?_
    refine lv_isub hx hb dd_L_law_28 ?_
    refine lv_topi (fun x1 ex1 => ?_)
    replace hw := hw x1 ex1
    refine lv_icmp_gt (tgt := 562) hx hb dd_L_law_29 (by decide) (fun c2 => ?_) (fun c2 => ?_)
    · replace hw := hw.1 c2
      refine lv_iconst (v := 1) hx hb dd_L_law_562 (by decide) ?_
      exact re_law C0 hr hlk hsz hS hkc (1) hw dd_L_law_563
    · replace hw := hw.2 c2
      refine lv_aload_n hx hb dd_L_law_32 rfl (lv_at hl 0 rfl) ?_
      refine lv_iload hx hb dd_L_law_33 (lv_at hl 4 rfl) ?_
      obtain ⟨k3, hw⟩ := hw
      refine va_sld hx hb hX hbl hbA hS k3 dd_L_law_35 ?_
      refine lv_topi (fun x4 ex4 => ?_)
      replace hw := hw x4 ex4
      refine lv_bipush (v := 15) hx hb dd_L_law_36 (by decide) ?_
      refine lv_iand hx hb dd_L_law_38 ?_
      refine lv_topi (fun x5 ex5 => ?_)
      replace hw := hw x5 ex5
      rcases (show (x5.toInt < 0 ∨ 13 < x5.toInt) ∨ x5.toInt = 0 ∨ x5.toInt = 1 ∨ x5.toInt = 2 ∨ x5.toInt = 3 ∨ x5.toInt = 4 ∨ x5.toInt = 5 ∨ x5.toInt = 6 ∨ x5.toInt = 7 ∨ x5.toInt = 8 ∨ x5.toInt = 9 ∨ x5.toInt = 10 ∨ x5.toInt = 11 ∨ x5.toInt = 12 ∨ x5.toInt = 13 by omega) with z | z | z | z | z | z | z | z | z | z | z | z | z | z | z
      · replace hw := hw.1 z
        refine lv_tableOut (tgt := 556) hx hb dd_L_law_39 z (by decide) ?_
        exact wk_L_law_556 C0 hfl hr hlk hsz hX hbl hbA ih _ _ _ _ _ _ _ _ _ _ hw hG hS hkc (lv_sub hl [0, 1, 2, 3, 4] rfl)
      · replace hw := hw.2.1 z
        refine lv_tableIn (tgt := 108) hx hb dd_L_law_39 (by omega) (by omega) (by rw [z]; rfl) (by decide) ?_
        refine lv_aload_n hx hb dd_L_law_108 rfl (lv_at hl 1 rfl) ?_
        refine lv_aload_n hx hb dd_L_law_109 rfl (lv_at hl 0 rfl) ?_
        refine lv_iload hx hb dd_L_law_110 (lv_at hl 4 rfl) ?_
        refine lv_iconst (v := 1) hx hb dd_L_law_112 (by decide) ?_
        refine lv_iadd hx hb dd_L_law_113 ?_
        refine lv_topi (fun x6 ex6 => ?_)
        replace hw := hw x6 ex6
        obtain ⟨k7, hw⟩ := hw
        refine va_sld hx hb hX hbl hbA hS k7 dd_L_law_114 ?_
        refine lv_topi (fun x8 ex8 => ?_)
        replace hw := hw x8 ex8
        obtain ⟨k9, hw⟩ := hw
        obtain ⟨mc12, ms13, hc1, hc2, hw⟩ := hw
        refine ca_i hS (rn_V C0 hG hS (c_S_task l g _ mc12 ms13 h v1 x8 hw) (ci := 0) k9 (by decide) rfl rfl (host := "") (nest := false) (n := 1) (As := [.int x8]) (rest := []) km_517 km_516 km_518 km_519 km_176 ⟨by decide, by decide, by decide +kernel⟩ ⟨Nat.le_of_ble_eq_true rfl, Nat.le_of_ble_eq_true rfl⟩ rfl hl.1 rfl (Nat.le_of_ble_eq_true rfl) dd_L_law_115 ⟨hc1, hc2⟩) (fun x11 h10 H locs hw hG hS => ?_)
        have hkc := And.intro hc1 hc2
        refine lv_pop hx hb dd_L_law_118 rfl ?_
        refine lv_aload_n hx hb dd_L_law_119 rfl (lv_at hl 2 rfl) ?_
        refine lv_aload_n hx hb dd_L_law_120 rfl (lv_at hl 0 rfl) ?_
        refine lv_iload hx hb dd_L_law_121 (lv_at hl 4 rfl) ?_
        refine lv_iconst (v := 1) hx hb dd_L_law_123 (by decide) ?_
        refine lv_iadd hx hb dd_L_law_124 ?_
        refine lv_topi (fun x14 ex14 => ?_)
        replace hw := hw x14 ex14
        obtain ⟨k15, hw⟩ := hw
        refine va_sld hx hb hX hbl hbA hS k15 dd_L_law_125 ?_
        refine lv_topi (fun x16 ex16 => ?_)
        replace hw := hw x16 ex16
        obtain ⟨k17, hw⟩ := hw
        refine ca_i hS (rn_V C0 hG hS (c_M_task l g _ h10 v2 x16 hw) (ci := 4) k17 (by decide) rfl rfl (host := "") (nest := false) (n := 1) (As := [.int x16]) (rest := []) km_513 km_512 km_514 km_515 km_421 ⟨by decide, by decide, by decide +kernel⟩ ⟨Nat.le_of_ble_eq_true rfl, Nat.le_of_ble_eq_true rfl⟩ rfl hl.1 rfl (Nat.le_of_ble_eq_true rfl) dd_L_law_126 hkc) (fun x19 h18 H locs hw hG hS => ?_)
        refine lv_pop hx hb dd_L_law_129 rfl ?_
        refine lv_goto (tgt := 556) hx hb dd_L_law_130 (by decide) ?_
        exact wk_L_law_556 C0 hfl hr hlk hsz hX hbl hbA ih _ _ _ _ _ _ _ _ _ _ hw hG hS hkc (lv_sub hl [0, 1, 2, 3, 4] rfl)
      · replace hw := hw.2.2.1 z
        refine lv_tableIn (tgt := 133) hx hb dd_L_law_39 (by omega) (by omega) (by rw [z]; rfl) (by decide) ?_
        refine lv_aload_n hx hb dd_L_law_133 rfl (lv_at hl 1 rfl) ?_
        refine lv_aload_n hx hb dd_L_law_134 rfl (lv_at hl 0 rfl) ?_
        refine lv_iload hx hb dd_L_law_135 (lv_at hl 4 rfl) ?_
        refine lv_iconst (v := 1) hx hb dd_L_law_137 (by decide) ?_
        refine lv_iadd hx hb dd_L_law_138 ?_
        refine lv_topi (fun x20 ex20 => ?_)
        replace hw := hw x20 ex20
        obtain ⟨k21, hw⟩ := hw
        refine va_sld hx hb hX hbl hbA hS k21 dd_L_law_139 ?_
        refine lv_topi (fun x22 ex22 => ?_)
        replace hw := hw x22 ex22
        refine lv_aload_n hx hb dd_L_law_140 rfl (lv_at hl 0 rfl) ?_
        refine lv_iload hx hb dd_L_law_141 (lv_at hl 4 rfl) ?_
        refine lv_iconst (v := 2) hx hb dd_L_law_143 (by decide) ?_
        refine lv_iadd hx hb dd_L_law_144 ?_
        refine lv_topi (fun x23 ex23 => ?_)
        replace hw := hw x23 ex23
        obtain ⟨k24, hw⟩ := hw
        refine va_sld hx hb hX hbl hbA hS k24 dd_L_law_145 ?_
        refine lv_topi (fun x25 ex25 => ?_)
        replace hw := hw x25 ex25
        refine lv_aload_n hx hb dd_L_law_146 rfl (lv_at hl 0 rfl) ?_
        refine lv_iload hx hb dd_L_law_147 (lv_at hl 4 rfl) ?_
        refine lv_iconst (v := 3) hx hb dd_L_law_149 (by decide) ?_
        refine lv_iadd hx hb dd_L_law_150 ?_
        refine lv_topi (fun x26 ex26 => ?_)
        replace hw := hw x26 ex26
        obtain ⟨k27, hw⟩ := hw
        refine va_sld hx hb hX hbl hbA hS k27 dd_L_law_151 ?_
        refine lv_topi (fun x28 ex28 => ?_)
        replace hw := hw x28 ex28
        obtain ⟨k29, hw⟩ := hw
        obtain ⟨mc32, ms33, hc1, hc2, hw⟩ := hw
        refine ca_i hS (rn_V C0 hG hS (c_S_ask l g _ mc32 ms33 h v1 x22 x25 x28 hw) (ci := 0) k29 (by decide) rfl rfl (host := "") (nest := false) (n := 3) (As := [.int x22, .int x25, .int x28]) (rest := []) km_525 km_524 km_526 km_527 km_176 ⟨by decide, by decide, by decide +kernel⟩ ⟨Nat.le_of_ble_eq_true rfl, Nat.le_of_ble_eq_true rfl⟩ rfl hl.1 rfl (Nat.le_of_ble_eq_true rfl) dd_L_law_152 ⟨hc1, hc2⟩) (fun x31 h30 H locs hw hG hS => ?_)
        have hkc := And.intro hc1 hc2
        refine lv_pop hx hb dd_L_law_155 rfl ?_
        refine lv_aload_n hx hb dd_L_law_156 rfl (lv_at hl 2 rfl) ?_
        refine lv_aload_n hx hb dd_L_law_157 rfl (lv_at hl 0 rfl) ?_
        refine lv_iload hx hb dd_L_law_158 (lv_at hl 4 rfl) ?_
        refine lv_iconst (v := 1) hx hb dd_L_law_160 (by decide) ?_
        refine lv_iadd hx hb dd_L_law_161 ?_
        refine lv_topi (fun x34 ex34 => ?_)
        replace hw := hw x34 ex34
        obtain ⟨k35, hw⟩ := hw
        refine va_sld hx hb hX hbl hbA hS k35 dd_L_law_162 ?_
        refine lv_topi (fun x36 ex36 => ?_)
        replace hw := hw x36 ex36
        refine lv_aload_n hx hb dd_L_law_163 rfl (lv_at hl 0 rfl) ?_
        refine lv_iload hx hb dd_L_law_164 (lv_at hl 4 rfl) ?_
        refine lv_iconst (v := 2) hx hb dd_L_law_166 (by decide) ?_
        refine lv_iadd hx hb dd_L_law_167 ?_
        refine lv_topi (fun x37 ex37 => ?_)
        replace hw := hw x37 ex37
        obtain ⟨k38, hw⟩ := hw
        refine va_sld hx hb hX hbl hbA hS k38 dd_L_law_168 ?_
        refine lv_topi (fun x39 ex39 => ?_)
        replace hw := hw x39 ex39
        refine lv_aload_n hx hb dd_L_law_169 rfl (lv_at hl 0 rfl) ?_
        refine lv_iload hx hb dd_L_law_170 (lv_at hl 4 rfl) ?_
        refine lv_iconst (v := 3) hx hb dd_L_law_172 (by decide) ?_
        refine lv_iadd hx hb dd_L_law_173 ?_
        refine lv_topi (fun x40 ex40 => ?_)
        replace hw := hw x40 ex40
        obtain ⟨k41, hw⟩ := hw
        refine va_sld hx hb hX hbl hbA hS k41 dd_L_law_174 ?_
        refine lv_topi (fun x42 ex42 => ?_)
        replace hw := hw x42 ex42
        obtain ⟨k43, hw⟩ := hw
        refine ca_i hS (rn_V C0 hG hS (c_M_ask l g _ h30 v2 x36 x39 x42 hw) (ci := 4) k43 (by decide) rfl rfl (host := "") (nest := false) (n := 3) (As := [.int x36, .int x39, .int x42]) (rest := []) km_521 km_520 km_522 km_523 km_421 ⟨by decide, by decide, by decide +kernel⟩ ⟨Nat.le_of_ble_eq_true rfl, Nat.le_of_ble_eq_true rfl⟩ rfl hl.1 rfl (Nat.le_of_ble_eq_true rfl) dd_L_law_175 hkc) (fun x45 h44 H locs hw hG hS => ?_)
        refine lv_pop hx hb dd_L_law_178 rfl ?_
        refine lv_goto (tgt := 556) hx hb dd_L_law_179 (by decide) ?_
        exact wk_L_law_556 C0 hfl hr hlk hsz hX hbl hbA ih _ _ _ _ _ _ _ _ _ _ hw hG hS hkc (lv_sub hl [0, 1, 2, 3, 4] rfl)
      · replace hw := hw.2.2.2.1 z
        refine lv_tableIn (tgt := 182) hx hb dd_L_law_39 (by omega) (by omega) (by rw [z]; rfl) (by decide) ?_
        refine lv_aload_n hx hb dd_L_law_182 rfl (lv_at hl 1 rfl) ?_
        refine lv_aload_n hx hb dd_L_law_183 rfl (lv_at hl 0 rfl) ?_
        refine lv_iload hx hb dd_L_law_184 (lv_at hl 4 rfl) ?_
        refine lv_iconst (v := 1) hx hb dd_L_law_186 (by decide) ?_
        refine lv_iadd hx hb dd_L_law_187 ?_
        refine lv_topi (fun x46 ex46 => ?_)
        replace hw := hw x46 ex46
        obtain ⟨k47, hw⟩ := hw
        refine va_sld hx hb hX hbl hbA hS k47 dd_L_law_188 ?_
        refine lv_topi (fun x48 ex48 => ?_)
        replace hw := hw x48 ex48
        refine lv_aload_n hx hb dd_L_law_189 rfl (lv_at hl 0 rfl) ?_
        refine lv_iload hx hb dd_L_law_190 (lv_at hl 4 rfl) ?_
        refine lv_iconst (v := 2) hx hb dd_L_law_192 (by decide) ?_
        refine lv_iadd hx hb dd_L_law_193 ?_
        refine lv_topi (fun x49 ex49 => ?_)
        replace hw := hw x49 ex49
        obtain ⟨k50, hw⟩ := hw
        refine va_sld hx hb hX hbl hbA hS k50 dd_L_law_194 ?_
        refine lv_topi (fun x51 ex51 => ?_)
        replace hw := hw x51 ex51
        refine lv_aload_n hx hb dd_L_law_195 rfl (lv_at hl 0 rfl) ?_
        refine lv_iload hx hb dd_L_law_196 (lv_at hl 4 rfl) ?_
        refine lv_iconst (v := 3) hx hb dd_L_law_198 (by decide) ?_
        refine lv_iadd hx hb dd_L_law_199 ?_
        refine lv_topi (fun x52 ex52 => ?_)
        replace hw := hw x52 ex52
        obtain ⟨k53, hw⟩ := hw
        refine va_sld hx hb hX hbl hbA hS k53 dd_L_law_200 ?_
        refine lv_topi (fun x54 ex54 => ?_)
        replace hw := hw x54 ex54
        obtain ⟨j55, ej55⟩ : ∃ y : Int64, y = x54.toInt64 := ⟨_, rfl⟩
        replace hw := hw j55 ej55
        refine lv_i2l (v := j55) hx hb dd_L_law_201 ej55.symm ?_
        refine lv_bipush (v := 32) hx hb dd_L_law_202 (by decide) ?_
        obtain ⟨j56, ej56⟩ : ∃ y : Int64, y = j55 <<< ((32 : Int32).toInt64 &&& 63) := ⟨_, rfl⟩
        replace hw := hw j56 ej56
        refine lv_lshl (v := j56) hx hb dd_L_law_204 ej56.symm ?_
        refine lv_aload_n hx hb dd_L_law_205 rfl (lv_at hl 0 rfl) ?_
        refine lv_iload hx hb dd_L_law_206 (lv_at hl 4 rfl) ?_
        refine lv_iconst (v := 4) hx hb dd_L_law_208 (by decide) ?_
        refine lv_iadd hx hb dd_L_law_209 ?_
        refine lv_topi (fun x57 ex57 => ?_)
        replace hw := hw x57 ex57
        obtain ⟨k58, hw⟩ := hw
        refine va_sld hx hb hX hbl hbA hS k58 dd_L_law_210 ?_
        refine lv_topi (fun x59 ex59 => ?_)
        replace hw := hw x59 ex59
        obtain ⟨j60, ej60⟩ : ∃ y : Int64, y = x59.toInt64 := ⟨_, rfl⟩
        replace hw := hw j60 ej60
        refine lv_i2l (v := j60) hx hb dd_L_law_211 ej60.symm ?_
        refine lv_ldc2 hx hb hown (hts _ km_528) dd_L_law_212 ?_
        refine lv_land hx hb dd_L_law_215 ?_
        refine lv_topl (fun j61 ej61 => ?_)
        replace hw := hw j61 ej61
        refine lv_lor hx hb dd_L_law_216 ?_
        refine lv_topl (fun j62 ej62 => ?_)
        replace hw := hw j62 ej62
        obtain ⟨k63, hw⟩ := hw
        refine ca_i hS (rn_V C0 hG hS (c_S_write l g _ h v1 x48 x51 j62 hw) (ci := 0) k63 (by decide) rfl rfl (host := "") (nest := false) (n := 3) (As := [.int x48, .int x51, .long j62]) (rest := []) km_534 km_533 km_535 km_536 km_176 ⟨by decide, by decide, by decide +kernel⟩ ⟨Nat.le_of_ble_eq_true rfl, Nat.le_of_ble_eq_true rfl⟩ rfl hl.1 rfl (Nat.le_of_ble_eq_true rfl) dd_L_law_217 hkc) (fun x65 h64 H locs hw hG hS => ?_)
        refine lv_pop hx hb dd_L_law_220 rfl ?_
        refine lv_aload_n hx hb dd_L_law_221 rfl (lv_at hl 2 rfl) ?_
        refine lv_aload_n hx hb dd_L_law_222 rfl (lv_at hl 0 rfl) ?_
        refine lv_iload hx hb dd_L_law_223 (lv_at hl 4 rfl) ?_
        refine lv_iconst (v := 1) hx hb dd_L_law_225 (by decide) ?_
        refine lv_iadd hx hb dd_L_law_226 ?_
        refine lv_topi (fun x66 ex66 => ?_)
        replace hw := hw x66 ex66
        obtain ⟨k67, hw⟩ := hw
        refine va_sld hx hb hX hbl hbA hS k67 dd_L_law_227 ?_
        refine lv_topi (fun x68 ex68 => ?_)
        replace hw := hw x68 ex68
        refine lv_aload_n hx hb dd_L_law_228 rfl (lv_at hl 0 rfl) ?_
        refine lv_iload hx hb dd_L_law_229 (lv_at hl 4 rfl) ?_
        refine lv_iconst (v := 2) hx hb dd_L_law_231 (by decide) ?_
        refine lv_iadd hx hb dd_L_law_232 ?_
        refine lv_topi (fun x69 ex69 => ?_)
        replace hw := hw x69 ex69
        obtain ⟨k70, hw⟩ := hw
        refine va_sld hx hb hX hbl hbA hS k70 dd_L_law_233 ?_
        refine lv_topi (fun x71 ex71 => ?_)
        replace hw := hw x71 ex71
        refine lv_aload_n hx hb dd_L_law_234 rfl (lv_at hl 0 rfl) ?_
        refine lv_iload hx hb dd_L_law_235 (lv_at hl 4 rfl) ?_
        refine lv_iconst (v := 3) hx hb dd_L_law_237 (by decide) ?_
        refine lv_iadd hx hb dd_L_law_238 ?_
        refine lv_topi (fun x72 ex72 => ?_)
        replace hw := hw x72 ex72
        obtain ⟨k73, hw⟩ := hw
        refine va_sld hx hb hX hbl hbA hS k73 dd_L_law_239 ?_
        refine lv_topi (fun x74 ex74 => ?_)
        replace hw := hw x74 ex74
        obtain ⟨j75, ej75⟩ : ∃ y : Int64, y = x74.toInt64 := ⟨_, rfl⟩
        replace hw := hw j75 ej75
        refine lv_i2l (v := j75) hx hb dd_L_law_240 ej75.symm ?_
        refine lv_bipush (v := 32) hx hb dd_L_law_241 (by decide) ?_
        obtain ⟨j76, ej76⟩ : ∃ y : Int64, y = j75 <<< ((32 : Int32).toInt64 &&& 63) := ⟨_, rfl⟩
        replace hw := hw j76 ej76
        refine lv_lshl (v := j76) hx hb dd_L_law_243 ej76.symm ?_
        refine lv_aload_n hx hb dd_L_law_244 rfl (lv_at hl 0 rfl) ?_
        refine lv_iload hx hb dd_L_law_245 (lv_at hl 4 rfl) ?_
        refine lv_iconst (v := 4) hx hb dd_L_law_247 (by decide) ?_
        refine lv_iadd hx hb dd_L_law_248 ?_
        refine lv_topi (fun x77 ex77 => ?_)
        replace hw := hw x77 ex77
        obtain ⟨k78, hw⟩ := hw
        refine va_sld hx hb hX hbl hbA hS k78 dd_L_law_249 ?_
        refine lv_topi (fun x79 ex79 => ?_)
        replace hw := hw x79 ex79
        obtain ⟨j80, ej80⟩ : ∃ y : Int64, y = x79.toInt64 := ⟨_, rfl⟩
        replace hw := hw j80 ej80
        refine lv_i2l (v := j80) hx hb dd_L_law_250 ej80.symm ?_
        refine lv_ldc2 hx hb hown (hts _ km_528) dd_L_law_251 ?_
        refine lv_land hx hb dd_L_law_254 ?_
        refine lv_topl (fun j81 ej81 => ?_)
        replace hw := hw j81 ej81
        refine lv_lor hx hb dd_L_law_255 ?_
        refine lv_topl (fun j82 ej82 => ?_)
        replace hw := hw j82 ej82
        obtain ⟨k83, hw⟩ := hw
        refine ca_i hS (rn_V C0 hG hS (c_M_write l g _ h64 v2 x68 x71 j82 hw) (ci := 4) k83 (by decide) rfl rfl (host := "") (nest := false) (n := 3) (As := [.int x68, .int x71, .long j82]) (rest := []) km_530 km_529 km_531 km_532 km_421 ⟨by decide, by decide, by decide +kernel⟩ ⟨Nat.le_of_ble_eq_true rfl, Nat.le_of_ble_eq_true rfl⟩ rfl hl.1 rfl (Nat.le_of_ble_eq_true rfl) dd_L_law_256 hkc) (fun x85 h84 H locs hw hG hS => ?_)
        refine lv_pop hx hb dd_L_law_259 rfl ?_
        refine lv_goto (tgt := 556) hx hb dd_L_law_260 (by decide) ?_
        exact wk_L_law_556 C0 hfl hr hlk hsz hX hbl hbA ih _ _ _ _ _ _ _ _ _ _ hw hG hS hkc (lv_sub hl [0, 1, 2, 3, 4] rfl)
      · replace hw := hw.2.2.2.2.1 z
        refine lv_tableIn (tgt := 263) hx hb dd_L_law_39 (by omega) (by omega) (by rw [z]; rfl) (by decide) ?_
        refine lv_aload_n hx hb dd_L_law_263 rfl (lv_at hl 1 rfl) ?_
        refine lv_aload_n hx hb dd_L_law_264 rfl (lv_at hl 0 rfl) ?_
        refine lv_iload hx hb dd_L_law_265 (lv_at hl 4 rfl) ?_
        refine lv_iconst (v := 1) hx hb dd_L_law_267 (by decide) ?_
        refine lv_iadd hx hb dd_L_law_268 ?_
        refine lv_topi (fun x86 ex86 => ?_)
        replace hw := hw x86 ex86
        obtain ⟨k87, hw⟩ := hw
        refine va_sld hx hb hX hbl hbA hS k87 dd_L_law_269 ?_
        refine lv_topi (fun x88 ex88 => ?_)
        replace hw := hw x88 ex88
        refine lv_aload_n hx hb dd_L_law_270 rfl (lv_at hl 0 rfl) ?_
        refine lv_iload hx hb dd_L_law_271 (lv_at hl 4 rfl) ?_
        refine lv_iconst (v := 2) hx hb dd_L_law_273 (by decide) ?_
        refine lv_iadd hx hb dd_L_law_274 ?_
        refine lv_topi (fun x89 ex89 => ?_)
        replace hw := hw x89 ex89
        obtain ⟨k90, hw⟩ := hw
        refine va_sld hx hb hX hbl hbA hS k90 dd_L_law_275 ?_
        refine lv_topi (fun x91 ex91 => ?_)
        replace hw := hw x91 ex91
        refine lv_aload_n hx hb dd_L_law_276 rfl (lv_at hl 3 rfl) ?_
        obtain ⟨mc95, ms96, hc1, hc2, hw⟩ := hw
        refine ca_i hS (rn_SW C0 hG hS (c_L_read l hfl g _ mc95 ms96 h v1 x88 x91 v3 hw) (n := 4) (As := [.ref v1, .int x88, .int x91, .ref v3]) (rest := []) km_542 km_541 km_544 km_543 ⟨by decide, by decide, by decide +kernel⟩ ⟨Nat.le_of_ble_eq_true rfl, Nat.le_of_ble_eq_true rfl⟩ rfl hl.1 rfl (Nat.le_of_ble_eq_true rfl) dd_L_law_277 ⟨hc1, hc2⟩) (fun x94 h93 H locs hw hG hS => ?_)
        have hkc := And.intro hc1 hc2
        have hl0 := hl
        clear hl
        refine lv_istore (lv' := [(5, .int x94), (0, .ref b), (1, .ref v1), (2, .ref v2), (3, .ref v3), (4, .int v4)]) hx hb dd_L_law_280 hl0 (by decide) rfl (fun ls hl => ?_)
        refine lv_aload_n hx hb dd_L_law_282 rfl (lv_at hl 3 rfl) ?_
        refine lv_aload_n hx hb dd_L_law_283 rfl (lv_at hl 1 rfl) ?_
        refine lv_iload hx hb dd_L_law_284 (lv_at hl 5 rfl) ?_
        refine lv_iconst (v := 1) hx hb dd_L_law_286 (by decide) ?_
        refine lv_iadd hx hb dd_L_law_287 ?_
        refine lv_topi (fun x97 ex97 => ?_)
        replace hw := hw x97 ex97
        obtain ⟨k98, hw⟩ := hw
        refine va_sld hx hb hX hbl hbA hS k98 dd_L_law_288 ?_
        refine lv_topi (fun x99 ex99 => ?_)
        replace hw := hw x99 ex99
        refine lv_aload_n hx hb dd_L_law_289 rfl (lv_at hl 1 rfl) ?_
        refine lv_iload hx hb dd_L_law_290 (lv_at hl 5 rfl) ?_
        refine lv_iconst (v := 2) hx hb dd_L_law_292 (by decide) ?_
        refine lv_iadd hx hb dd_L_law_293 ?_
        refine lv_topi (fun x100 ex100 => ?_)
        replace hw := hw x100 ex100
        obtain ⟨k101, hw⟩ := hw
        refine va_sld hx hb hX hbl hbA hS k101 dd_L_law_294 ?_
        refine lv_topi (fun x102 ex102 => ?_)
        replace hw := hw x102 ex102
        obtain ⟨k103, hw⟩ := hw
        refine ca_l hS (rn_V C0 hG hS (c_M_read l g _ h93 v2 x99 x102 hw) (ci := 4) k103 (by decide) rfl rfl (host := "") (nest := false) (n := 2) (As := [.int x99, .int x102]) (rest := []) km_538 km_537 km_539 km_540 km_421 ⟨by decide, by decide, by decide +kernel⟩ ⟨Nat.le_of_ble_eq_true rfl, Nat.le_of_ble_eq_true rfl⟩ rfl hl.1 rfl (Nat.le_of_ble_eq_true rfl) dd_L_law_295 hkc) (fun j105 h104 H locs hw hG hS => ?_)
        have hl0 := hl
        clear hl
        refine lv_lstore (lv' := [(6, .long j105), (5, .int x94), (0, .ref b), (1, .ref v1), (2, .ref v2), (3, .ref v3), (4, .int v4)]) hx hb dd_L_law_298 hl0 (by decide) rfl (fun ls hl => ?_)
        refine lv_goto (tgt := 556) hx hb dd_L_law_300 (by decide) ?_
        exact wk_L_law_556 C0 hfl hr hlk hsz hX hbl hbA ih _ _ _ _ _ _ _ _ _ _ hw hG hS hkc (lv_sub hl [2, 3, 4, 5, 6] rfl)
      · replace hw := hw.2.2.2.2.2.1 z
        refine lv_tableIn (tgt := 303) hx hb dd_L_law_39 (by omega) (by omega) (by rw [z]; rfl) (by decide) ?_
        refine lv_aload_n hx hb dd_L_law_303 rfl (lv_at hl 1 rfl) ?_
        refine lv_aload_n hx hb dd_L_law_304 rfl (lv_at hl 0 rfl) ?_
        refine lv_iload hx hb dd_L_law_305 (lv_at hl 4 rfl) ?_
        refine lv_iconst (v := 1) hx hb dd_L_law_307 (by decide) ?_
        refine lv_iadd hx hb dd_L_law_308 ?_
        refine lv_topi (fun x106 ex106 => ?_)
        replace hw := hw x106 ex106
        obtain ⟨k107, hw⟩ := hw
        refine va_sld hx hb hX hbl hbA hS k107 dd_L_law_309 ?_
        refine lv_topi (fun x108 ex108 => ?_)
        replace hw := hw x108 ex108
        obtain ⟨k109, hw⟩ := hw
        refine ca_i hS (rn_V C0 hG hS (c_S_sync l g _ h v1 x108 hw) (ci := 0) k109 (by decide) rfl rfl (host := "") (nest := false) (n := 1) (As := [.int x108]) (rest := []) km_550 km_549 km_551 km_552 km_176 ⟨by decide, by decide, by decide +kernel⟩ ⟨Nat.le_of_ble_eq_true rfl, Nat.le_of_ble_eq_true rfl⟩ rfl hl.1 rfl (Nat.le_of_ble_eq_true rfl) dd_L_law_310 hkc) (fun x111 h110 H locs hw hG hS => ?_)
        refine lv_pop hx hb dd_L_law_313 rfl ?_
        refine lv_aload_n hx hb dd_L_law_314 rfl (lv_at hl 2 rfl) ?_
        refine lv_aload_n hx hb dd_L_law_315 rfl (lv_at hl 0 rfl) ?_
        refine lv_iload hx hb dd_L_law_316 (lv_at hl 4 rfl) ?_
        refine lv_iconst (v := 1) hx hb dd_L_law_318 (by decide) ?_
        refine lv_iadd hx hb dd_L_law_319 ?_
        refine lv_topi (fun x112 ex112 => ?_)
        replace hw := hw x112 ex112
        obtain ⟨k113, hw⟩ := hw
        refine va_sld hx hb hX hbl hbA hS k113 dd_L_law_320 ?_
        refine lv_topi (fun x114 ex114 => ?_)
        replace hw := hw x114 ex114
        obtain ⟨k115, hw⟩ := hw
        refine ca_i hS (rn_V C0 hG hS (c_M_sync l g _ h110 v2 x114 hw) (ci := 4) k115 (by decide) rfl rfl (host := "") (nest := false) (n := 1) (As := [.int x114]) (rest := []) km_546 km_545 km_547 km_548 km_421 ⟨by decide, by decide, by decide +kernel⟩ ⟨Nat.le_of_ble_eq_true rfl, Nat.le_of_ble_eq_true rfl⟩ rfl hl.1 rfl (Nat.le_of_ble_eq_true rfl) dd_L_law_321 hkc) (fun x117 h116 H locs hw hG hS => ?_)
        refine lv_pop hx hb dd_L_law_324 rfl ?_
        refine lv_goto (tgt := 556) hx hb dd_L_law_325 (by decide) ?_
        exact wk_L_law_556 C0 hfl hr hlk hsz hX hbl hbA ih _ _ _ _ _ _ _ _ _ _ hw hG hS hkc (lv_sub hl [0, 1, 2, 3, 4] rfl)
      · replace hw := hw.2.2.2.2.2.2.1 z
        refine lv_tableIn (tgt := 328) hx hb dd_L_law_39 (by omega) (by omega) (by rw [z]; rfl) (by decide) ?_
        refine lv_aload_n hx hb dd_L_law_328 rfl (lv_at hl 1 rfl) ?_
        refine lv_aload_n hx hb dd_L_law_329 rfl (lv_at hl 0 rfl) ?_
        refine lv_iload hx hb dd_L_law_330 (lv_at hl 4 rfl) ?_
        refine lv_iconst (v := 1) hx hb dd_L_law_332 (by decide) ?_
        refine lv_iadd hx hb dd_L_law_333 ?_
        refine lv_topi (fun x118 ex118 => ?_)
        replace hw := hw x118 ex118
        obtain ⟨k119, hw⟩ := hw
        refine va_sld hx hb hX hbl hbA hS k119 dd_L_law_334 ?_
        refine lv_topi (fun x120 ex120 => ?_)
        replace hw := hw x120 ex120
        obtain ⟨k121, hw⟩ := hw
        refine ca_i hS (rn_V C0 hG hS (c_S_backout l g _ h v1 x120 hw) (ci := 0) k121 (by decide) rfl rfl (host := "") (nest := false) (n := 1) (As := [.int x120]) (rest := []) km_558 km_557 km_559 km_560 km_176 ⟨by decide, by decide, by decide +kernel⟩ ⟨Nat.le_of_ble_eq_true rfl, Nat.le_of_ble_eq_true rfl⟩ rfl hl.1 rfl (Nat.le_of_ble_eq_true rfl) dd_L_law_335 hkc) (fun x123 h122 H locs hw hG hS => ?_)
        refine lv_pop hx hb dd_L_law_338 rfl ?_
        refine lv_aload_n hx hb dd_L_law_339 rfl (lv_at hl 2 rfl) ?_
        refine lv_aload_n hx hb dd_L_law_340 rfl (lv_at hl 0 rfl) ?_
        refine lv_iload hx hb dd_L_law_341 (lv_at hl 4 rfl) ?_
        refine lv_iconst (v := 1) hx hb dd_L_law_343 (by decide) ?_
        refine lv_iadd hx hb dd_L_law_344 ?_
        refine lv_topi (fun x124 ex124 => ?_)
        replace hw := hw x124 ex124
        obtain ⟨k125, hw⟩ := hw
        refine va_sld hx hb hX hbl hbA hS k125 dd_L_law_345 ?_
        refine lv_topi (fun x126 ex126 => ?_)
        replace hw := hw x126 ex126
        obtain ⟨k127, hw⟩ := hw
        refine ca_i hS (rn_V C0 hG hS (c_M_backout l g _ h122 v2 x126 hw) (ci := 4) k127 (by decide) rfl rfl (host := "") (nest := false) (n := 1) (As := [.int x126]) (rest := []) km_554 km_553 km_555 km_556 km_421 ⟨by decide, by decide, by decide +kernel⟩ ⟨Nat.le_of_ble_eq_true rfl, Nat.le_of_ble_eq_true rfl⟩ rfl hl.1 rfl (Nat.le_of_ble_eq_true rfl) dd_L_law_346 hkc) (fun x129 h128 H locs hw hG hS => ?_)
        refine lv_pop hx hb dd_L_law_349 rfl ?_
        refine lv_goto (tgt := 556) hx hb dd_L_law_350 (by decide) ?_
        exact wk_L_law_556 C0 hfl hr hlk hsz hX hbl hbA ih _ _ _ _ _ _ _ _ _ _ hw hG hS hkc (lv_sub hl [0, 1, 2, 3, 4] rfl)
      · replace hw := hw.2.2.2.2.2.2.2.1 z
        refine lv_tableIn (tgt := 353) hx hb dd_L_law_39 (by omega) (by omega) (by rw [z]; rfl) (by decide) ?_
        refine lv_aload_n hx hb dd_L_law_353 rfl (lv_at hl 1 rfl) ?_
        refine lv_aload_n hx hb dd_L_law_354 rfl (lv_at hl 0 rfl) ?_
        refine lv_iload hx hb dd_L_law_355 (lv_at hl 4 rfl) ?_
        refine lv_iconst (v := 1) hx hb dd_L_law_357 (by decide) ?_
        refine lv_iadd hx hb dd_L_law_358 ?_
        refine lv_topi (fun x130 ex130 => ?_)
        replace hw := hw x130 ex130
        obtain ⟨k131, hw⟩ := hw
        refine va_sld hx hb hX hbl hbA hS k131 dd_L_law_359 ?_
        refine lv_topi (fun x132 ex132 => ?_)
        replace hw := hw x132 ex132
        obtain ⟨k133, hw⟩ := hw
        have hw0 := hw
        clear hw
        refine cs_i (rn_V C0 hG hS (c_S_ring l g _ h v1 x132 hw0) (ci := 0) k133 (by decide) rfl rfl (host := "") (nest := false) (n := 1) (As := [.int x132]) (rest := []) km_566 km_565 km_567 km_568 km_176 ⟨by decide, by decide, by decide +kernel⟩ ⟨Nat.le_of_ble_eq_true rfl, Nat.le_of_ble_eq_true rfl⟩ rfl hl.1 rfl (Nat.le_of_ble_eq_true rfl) dd_L_law_360 hkc) (fun x135 hw => ?_)
        refine lv_pop hx hb dd_L_law_363 rfl ?_
        refine lv_aload_n hx hb dd_L_law_364 rfl (lv_at hl 2 rfl) ?_
        refine lv_aload_n hx hb dd_L_law_365 rfl (lv_at hl 0 rfl) ?_
        refine lv_iload hx hb dd_L_law_366 (lv_at hl 4 rfl) ?_
        refine lv_iconst (v := 1) hx hb dd_L_law_368 (by decide) ?_
        refine lv_iadd hx hb dd_L_law_369 ?_
        refine lv_topi (fun x136 ex136 => ?_)
        replace hw := hw x136 ex136
        obtain ⟨k137, hw⟩ := hw
        refine va_sld hx hb hX hbl hbA hS k137 dd_L_law_370 ?_
        refine lv_topi (fun x138 ex138 => ?_)
        replace hw := hw x138 ex138
        obtain ⟨k139, hw⟩ := hw
        refine ca_i hS (rn_V C0 hG hS (c_M_ring l g _ h v2 x138 hw) (ci := 4) k139 (by decide) rfl rfl (host := "") (nest := false) (n := 1) (As := [.int x138]) (rest := []) km_562 km_561 km_563 km_564 km_421 ⟨by decide, by decide, by decide +kernel⟩ ⟨Nat.le_of_ble_eq_true rfl, Nat.le_of_ble_eq_true rfl⟩ rfl hl.1 rfl (Nat.le_of_ble_eq_true rfl) dd_L_law_371 hkc) (fun x141 h140 H locs hw hG hS => ?_)
        refine lv_pop hx hb dd_L_law_374 rfl ?_
        refine lv_goto (tgt := 556) hx hb dd_L_law_375 (by decide) ?_
        exact wk_L_law_556 C0 hfl hr hlk hsz hX hbl hbA ih _ _ _ _ _ _ _ _ _ _ hw hG hS hkc (lv_sub hl [0, 1, 2, 3, 4] rfl)
      · replace hw := hw.2.2.2.2.2.2.2.2.1 z
        refine lv_tableIn (tgt := 378) hx hb dd_L_law_39 (by omega) (by omega) (by rw [z]; rfl) (by decide) ?_
        refine lv_aload_n hx hb dd_L_law_378 rfl (lv_at hl 1 rfl) ?_
        refine lv_aload_n hx hb dd_L_law_379 rfl (lv_at hl 0 rfl) ?_
        refine lv_iload hx hb dd_L_law_380 (lv_at hl 4 rfl) ?_
        refine lv_iconst (v := 1) hx hb dd_L_law_382 (by decide) ?_
        refine lv_iadd hx hb dd_L_law_383 ?_
        refine lv_topi (fun x142 ex142 => ?_)
        replace hw := hw x142 ex142
        obtain ⟨k143, hw⟩ := hw
        refine va_sld hx hb hX hbl hbA hS k143 dd_L_law_384 ?_
        refine lv_topi (fun x144 ex144 => ?_)
        replace hw := hw x144 ex144
        obtain ⟨k145, hw⟩ := hw
        refine ca_i hS (rn_V C0 hG hS (c_S_checkpoint l g _ h v1 x144 hw) (ci := 0) k145 (by decide) rfl rfl (host := "") (nest := false) (n := 1) (As := [.int x144]) (rest := []) km_574 km_573 km_575 km_576 km_176 ⟨by decide, by decide, by decide +kernel⟩ ⟨Nat.le_of_ble_eq_true rfl, Nat.le_of_ble_eq_true rfl⟩ rfl hl.1 rfl (Nat.le_of_ble_eq_true rfl) dd_L_law_385 hkc) (fun x147 h146 H locs hw hG hS => ?_)
        refine lv_pop hx hb dd_L_law_388 rfl ?_
        refine lv_aload_n hx hb dd_L_law_389 rfl (lv_at hl 2 rfl) ?_
        refine lv_aload_n hx hb dd_L_law_390 rfl (lv_at hl 0 rfl) ?_
        refine lv_iload hx hb dd_L_law_391 (lv_at hl 4 rfl) ?_
        refine lv_iconst (v := 1) hx hb dd_L_law_393 (by decide) ?_
        refine lv_iadd hx hb dd_L_law_394 ?_
        refine lv_topi (fun x148 ex148 => ?_)
        replace hw := hw x148 ex148
        obtain ⟨k149, hw⟩ := hw
        refine va_sld hx hb hX hbl hbA hS k149 dd_L_law_395 ?_
        refine lv_topi (fun x150 ex150 => ?_)
        replace hw := hw x150 ex150
        obtain ⟨k151, hw⟩ := hw
        refine ca_i hS (rn_V C0 hG hS (c_M_checkpoint l g _ h146 v2 x150 hw) (ci := 4) k151 (by decide) rfl rfl (host := "") (nest := false) (n := 1) (As := [.int x150]) (rest := []) km_570 km_569 km_571 km_572 km_421 ⟨by decide, by decide, by decide +kernel⟩ ⟨Nat.le_of_ble_eq_true rfl, Nat.le_of_ble_eq_true rfl⟩ rfl hl.1 rfl (Nat.le_of_ble_eq_true rfl) dd_L_law_396 hkc) (fun x153 h152 H locs hw hG hS => ?_)
        refine lv_pop hx hb dd_L_law_399 rfl ?_
        refine lv_goto (tgt := 556) hx hb dd_L_law_400 (by decide) ?_
        exact wk_L_law_556 C0 hfl hr hlk hsz hX hbl hbA ih _ _ _ _ _ _ _ _ _ _ hw hG hS hkc (lv_sub hl [0, 1, 2, 3, 4] rfl)
      · replace hw := hw.2.2.2.2.2.2.2.2.2.1 z
        refine lv_tableIn (tgt := 403) hx hb dd_L_law_39 (by omega) (by omega) (by rw [z]; rfl) (by decide) ?_
        refine lv_aload_n hx hb dd_L_law_403 rfl (lv_at hl 1 rfl) ?_
        refine lv_aload_n hx hb dd_L_law_404 rfl (lv_at hl 0 rfl) ?_
        refine lv_iload hx hb dd_L_law_405 (lv_at hl 4 rfl) ?_
        refine lv_iconst (v := 1) hx hb dd_L_law_407 (by decide) ?_
        refine lv_iadd hx hb dd_L_law_408 ?_
        refine lv_topi (fun x154 ex154 => ?_)
        replace hw := hw x154 ex154
        obtain ⟨k155, hw⟩ := hw
        refine va_sld hx hb hX hbl hbA hS k155 dd_L_law_409 ?_
        refine lv_topi (fun x156 ex156 => ?_)
        replace hw := hw x156 ex156
        obtain ⟨k157, hw⟩ := hw
        refine ca_i hS (rn_V C0 hG hS (c_S_dead l g _ h v1 x156 hw) (ci := 0) k157 (by decide) rfl rfl (host := "") (nest := false) (n := 1) (As := [.int x156]) (rest := []) km_582 km_581 km_583 km_584 km_176 ⟨by decide, by decide, by decide +kernel⟩ ⟨Nat.le_of_ble_eq_true rfl, Nat.le_of_ble_eq_true rfl⟩ rfl hl.1 rfl (Nat.le_of_ble_eq_true rfl) dd_L_law_410 hkc) (fun x159 h158 H locs hw hG hS => ?_)
        refine lv_pop hx hb dd_L_law_413 rfl ?_
        refine lv_aload_n hx hb dd_L_law_414 rfl (lv_at hl 2 rfl) ?_
        refine lv_aload_n hx hb dd_L_law_415 rfl (lv_at hl 0 rfl) ?_
        refine lv_iload hx hb dd_L_law_416 (lv_at hl 4 rfl) ?_
        refine lv_iconst (v := 1) hx hb dd_L_law_418 (by decide) ?_
        refine lv_iadd hx hb dd_L_law_419 ?_
        refine lv_topi (fun x160 ex160 => ?_)
        replace hw := hw x160 ex160
        obtain ⟨k161, hw⟩ := hw
        refine va_sld hx hb hX hbl hbA hS k161 dd_L_law_420 ?_
        refine lv_topi (fun x162 ex162 => ?_)
        replace hw := hw x162 ex162
        obtain ⟨k163, hw⟩ := hw
        refine ca_i hS (rn_V C0 hG hS (c_M_dead l g _ h158 v2 x162 hw) (ci := 4) k163 (by decide) rfl rfl (host := "") (nest := false) (n := 1) (As := [.int x162]) (rest := []) km_578 km_577 km_579 km_580 km_421 ⟨by decide, by decide, by decide +kernel⟩ ⟨Nat.le_of_ble_eq_true rfl, Nat.le_of_ble_eq_true rfl⟩ rfl hl.1 rfl (Nat.le_of_ble_eq_true rfl) dd_L_law_421 hkc) (fun x165 h164 H locs hw hG hS => ?_)
        refine lv_pop hx hb dd_L_law_424 rfl ?_
        refine lv_goto (tgt := 556) hx hb dd_L_law_425 (by decide) ?_
        exact wk_L_law_556 C0 hfl hr hlk hsz hX hbl hbA ih _ _ _ _ _ _ _ _ _ _ hw hG hS hkc (lv_sub hl [0, 1, 2, 3, 4] rfl)
      · replace hw := hw.2.2.2.2.2.2.2.2.2.2.1 z
        refine lv_tableIn (tgt := 428) hx hb dd_L_law_39 (by omega) (by omega) (by rw [z]; rfl) (by decide) ?_
        refine lv_aload_n hx hb dd_L_law_428 rfl (lv_at hl 1 rfl) ?_
        refine lv_aload_n hx hb dd_L_law_429 rfl (lv_at hl 0 rfl) ?_
        refine lv_iload hx hb dd_L_law_430 (lv_at hl 4 rfl) ?_
        refine lv_iconst (v := 1) hx hb dd_L_law_432 (by decide) ?_
        refine lv_iadd hx hb dd_L_law_433 ?_
        refine lv_topi (fun x166 ex166 => ?_)
        replace hw := hw x166 ex166
        obtain ⟨k167, hw⟩ := hw
        refine va_sld hx hb hX hbl hbA hS k167 dd_L_law_434 ?_
        refine lv_topi (fun x168 ex168 => ?_)
        replace hw := hw x168 ex168
        obtain ⟨k169, hw⟩ := hw
        refine ca_i hS (rn_V C0 hG hS (c_S_limit l g _ h v1 x168 hw) (ci := 0) k169 (by decide) rfl rfl (host := "") (nest := false) (n := 1) (As := [.int x168]) (rest := []) km_590 km_589 km_591 km_592 km_176 ⟨by decide, by decide, by decide +kernel⟩ ⟨Nat.le_of_ble_eq_true rfl, Nat.le_of_ble_eq_true rfl⟩ rfl hl.1 rfl (Nat.le_of_ble_eq_true rfl) dd_L_law_435 hkc) (fun x171 h170 H locs hw hG hS => ?_)
        refine lv_pop hx hb dd_L_law_438 rfl ?_
        refine lv_aload_n hx hb dd_L_law_439 rfl (lv_at hl 2 rfl) ?_
        refine lv_aload_n hx hb dd_L_law_440 rfl (lv_at hl 0 rfl) ?_
        refine lv_iload hx hb dd_L_law_441 (lv_at hl 4 rfl) ?_
        refine lv_iconst (v := 1) hx hb dd_L_law_443 (by decide) ?_
        refine lv_iadd hx hb dd_L_law_444 ?_
        refine lv_topi (fun x172 ex172 => ?_)
        replace hw := hw x172 ex172
        obtain ⟨k173, hw⟩ := hw
        refine va_sld hx hb hX hbl hbA hS k173 dd_L_law_445 ?_
        refine lv_topi (fun x174 ex174 => ?_)
        replace hw := hw x174 ex174
        obtain ⟨k175, hw⟩ := hw
        refine ca_i hS (rn_V C0 hG hS (c_M_limit l g _ h170 v2 x174 hw) (ci := 4) k175 (by decide) rfl rfl (host := "") (nest := false) (n := 1) (As := [.int x174]) (rest := []) km_586 km_585 km_587 km_588 km_421 ⟨by decide, by decide, by decide +kernel⟩ ⟨Nat.le_of_ble_eq_true rfl, Nat.le_of_ble_eq_true rfl⟩ rfl hl.1 rfl (Nat.le_of_ble_eq_true rfl) dd_L_law_446 hkc) (fun x177 h176 H locs hw hG hS => ?_)
        refine lv_pop hx hb dd_L_law_449 rfl ?_
        refine lv_goto (tgt := 556) hx hb dd_L_law_450 (by decide) ?_
        exact wk_L_law_556 C0 hfl hr hlk hsz hX hbl hbA ih _ _ _ _ _ _ _ _ _ _ hw hG hS hkc (lv_sub hl [0, 1, 2, 3, 4] rfl)
      · replace hw := hw.2.2.2.2.2.2.2.2.2.2.2.1 z
        refine lv_tableIn (tgt := 453) hx hb dd_L_law_39 (by omega) (by omega) (by rw [z]; rfl) (by decide) ?_
        refine lv_aload_n hx hb dd_L_law_453 rfl (lv_at hl 1 rfl) ?_
        refine lv_aload_n hx hb dd_L_law_454 rfl (lv_at hl 0 rfl) ?_
        refine lv_iload hx hb dd_L_law_455 (lv_at hl 4 rfl) ?_
        refine lv_iconst (v := 1) hx hb dd_L_law_457 (by decide) ?_
        refine lv_iadd hx hb dd_L_law_458 ?_
        refine lv_topi (fun x178 ex178 => ?_)
        replace hw := hw x178 ex178
        obtain ⟨k179, hw⟩ := hw
        refine va_sld hx hb hX hbl hbA hS k179 dd_L_law_459 ?_
        refine lv_topi (fun x180 ex180 => ?_)
        replace hw := hw x180 ex180
        obtain ⟨k181, hw⟩ := hw
        have hw0 := hw
        clear hw
        refine cs_i (rn_V C0 hG hS (c_S_holder l g _ h v1 x180 hw0) (ci := 0) k181 (by decide) rfl rfl (host := "") (nest := false) (n := 1) (As := [.int x180]) (rest := []) km_598 km_597 km_599 km_600 km_176 ⟨by decide, by decide, by decide +kernel⟩ ⟨Nat.le_of_ble_eq_true rfl, Nat.le_of_ble_eq_true rfl⟩ rfl hl.1 rfl (Nat.le_of_ble_eq_true rfl) dd_L_law_460 hkc) (fun x183 hw => ?_)
        refine lv_aload_n hx hb dd_L_law_463 rfl (lv_at hl 2 rfl) ?_
        refine lv_aload_n hx hb dd_L_law_464 rfl (lv_at hl 0 rfl) ?_
        refine lv_iload hx hb dd_L_law_465 (lv_at hl 4 rfl) ?_
        refine lv_iconst (v := 1) hx hb dd_L_law_467 (by decide) ?_
        refine lv_iadd hx hb dd_L_law_468 ?_
        refine lv_topi (fun x184 ex184 => ?_)
        replace hw := hw x184 ex184
        obtain ⟨k185, hw⟩ := hw
        refine va_sld hx hb hX hbl hbA hS k185 dd_L_law_469 ?_
        refine lv_topi (fun x186 ex186 => ?_)
        replace hw := hw x186 ex186
        obtain ⟨k187, hw⟩ := hw
        refine ca_i hS (rn_V C0 hG hS (c_M_holder l g _ h v2 x186 hw) (ci := 4) k187 (by decide) rfl rfl (host := "") (nest := false) (n := 1) (As := [.int x186]) (rest := [.int x183]) km_594 km_593 km_595 km_596 km_421 ⟨by decide, by decide, by decide +kernel⟩ ⟨Nat.le_of_ble_eq_true rfl, Nat.le_of_ble_eq_true rfl⟩ rfl hl.1 rfl (Nat.le_of_ble_eq_true rfl) dd_L_law_470 hkc) (fun x189 h188 H locs hw hG hS => ?_)
        refine lv_icmp_eq (tgt := 556) hx hb dd_L_law_473 (by decide) (fun c190 => ?_) (fun c190 => ?_)
        · replace hw := hw.1 c190
          exact wk_L_law_556 C0 hfl hr hlk hsz hX hbl hbA ih _ _ _ _ _ _ _ _ _ _ hw hG hS hkc (lv_sub hl [0, 1, 2, 3, 4] rfl)
        · replace hw := hw.2 c190
          refine lv_iconst (v := 0) hx hb dd_L_law_476 (by decide) ?_
          exact re_law C0 hr hlk hsz hS hkc (0) hw dd_L_law_477
      · replace hw := hw.2.2.2.2.2.2.2.2.2.2.2.2.1 z
        refine lv_tableIn (tgt := 478) hx hb dd_L_law_39 (by omega) (by omega) (by rw [z]; rfl) (by decide) ?_
        refine lv_aload_n hx hb dd_L_law_478 rfl (lv_at hl 1 rfl) ?_
        obtain ⟨k191, hw⟩ := hw
        have hw0 := hw
        clear hw
        refine cs_i (rn_V C0 hG hS (c_S_serial l g _ h v1 hw0) (ci := 0) k191 (by decide) rfl rfl (host := "") (nest := false) (n := 0) (As := []) (rest := []) km_606 km_605 km_607 km_608 km_176 ⟨by decide, by decide, by decide +kernel⟩ ⟨Nat.le_of_ble_eq_true rfl, Nat.le_of_ble_eq_true rfl⟩ rfl hl.1 rfl (Nat.le_of_ble_eq_true rfl) dd_L_law_479 hkc) (fun x193 hw => ?_)
        refine lv_pop hx hb dd_L_law_482 rfl ?_
        refine lv_aload_n hx hb dd_L_law_483 rfl (lv_at hl 2 rfl) ?_
        obtain ⟨k194, hw⟩ := hw
        refine ca_i hS (rn_V C0 hG hS (c_M_serial l g _ h v2 hw) (ci := 4) k194 (by decide) rfl rfl (host := "") (nest := false) (n := 0) (As := []) (rest := []) km_602 km_601 km_603 km_604 km_421 ⟨by decide, by decide, by decide +kernel⟩ ⟨Nat.le_of_ble_eq_true rfl, Nat.le_of_ble_eq_true rfl⟩ rfl hl.1 rfl (Nat.le_of_ble_eq_true rfl) dd_L_law_484 hkc) (fun x196 h195 H locs hw hG hS => ?_)
        refine lv_pop hx hb dd_L_law_487 rfl ?_
        refine lv_goto (tgt := 556) hx hb dd_L_law_488 (by decide) ?_
        exact wk_L_law_556 C0 hfl hr hlk hsz hX hbl hbA ih _ _ _ _ _ _ _ _ _ _ hw hG hS hkc (lv_sub hl [0, 1, 2, 3, 4] rfl)
      · replace hw := hw.2.2.2.2.2.2.2.2.2.2.2.2.2.1 z
        refine lv_tableIn (tgt := 491) hx hb dd_L_law_39 (by omega) (by omega) (by rw [z]; rfl) (by decide) ?_
        refine lv_aload_n hx hb dd_L_law_491 rfl (lv_at hl 1 rfl) ?_
        refine lv_aload_n hx hb dd_L_law_492 rfl (lv_at hl 0 rfl) ?_
        refine lv_iload hx hb dd_L_law_493 (lv_at hl 4 rfl) ?_
        refine lv_iconst (v := 1) hx hb dd_L_law_495 (by decide) ?_
        refine lv_iadd hx hb dd_L_law_496 ?_
        refine lv_topi (fun x197 ex197 => ?_)
        replace hw := hw x197 ex197
        obtain ⟨k198, hw⟩ := hw
        refine va_sld hx hb hX hbl hbA hS k198 dd_L_law_497 ?_
        refine lv_topi (fun x199 ex199 => ?_)
        replace hw := hw x199 ex199
        refine lv_aload_n hx hb dd_L_law_498 rfl (lv_at hl 3 rfl) ?_
        obtain ⟨mc203, ms204, hc1, hc2, hw⟩ := hw
        refine ca_i hS (rn_SW C0 hG hS (c_L_value l hfl g _ mc203 ms204 h v1 x199 v3 hw) (n := 3) (As := [.ref v1, .int x199, .ref v3]) (rest := []) km_614 km_613 km_615 km_543 ⟨by decide, by decide, by decide +kernel⟩ ⟨Nat.le_of_ble_eq_true rfl, Nat.le_of_ble_eq_true rfl⟩ rfl hl.1 rfl (Nat.le_of_ble_eq_true rfl) dd_L_law_499 ⟨hc1, hc2⟩) (fun x202 h201 H locs hw hG hS => ?_)
        have hkc := And.intro hc1 hc2
        have hl0 := hl
        clear hl
        refine lv_istore (lv' := [(5, .int x202), (0, .ref b), (1, .ref v1), (2, .ref v2), (3, .ref v3), (4, .int v4)]) hx hb dd_L_law_502 hl0 (by decide) rfl (fun ls hl => ?_)
        refine lv_aload_n hx hb dd_L_law_504 rfl (lv_at hl 3 rfl) ?_
        refine lv_aload_n hx hb dd_L_law_505 rfl (lv_at hl 1 rfl) ?_
        refine lv_iload hx hb dd_L_law_506 (lv_at hl 5 rfl) ?_
        refine lv_iconst (v := 1) hx hb dd_L_law_508 (by decide) ?_
        refine lv_iadd hx hb dd_L_law_509 ?_
        refine lv_topi (fun x205 ex205 => ?_)
        replace hw := hw x205 ex205
        obtain ⟨k206, hw⟩ := hw
        refine va_sld hx hb hX hbl hbA hS k206 dd_L_law_510 ?_
        refine lv_topi (fun x207 ex207 => ?_)
        replace hw := hw x207 ex207
        obtain ⟨k208, hw⟩ := hw
        refine ca_l hS (rn_V C0 hG hS (c_M_value l g _ h201 v2 x207 hw) (ci := 4) k208 (by decide) rfl rfl (host := "") (nest := false) (n := 1) (As := [.int x207]) (rest := []) km_610 km_609 km_611 km_612 km_421 ⟨by decide, by decide, by decide +kernel⟩ ⟨Nat.le_of_ble_eq_true rfl, Nat.le_of_ble_eq_true rfl⟩ rfl hl.1 rfl (Nat.le_of_ble_eq_true rfl) dd_L_law_511 hkc) (fun j210 h209 H locs hw hG hS => ?_)
        have hl0 := hl
        clear hl
        refine lv_lstore (lv' := [(6, .long j210), (5, .int x202), (0, .ref b), (1, .ref v1), (2, .ref v2), (3, .ref v3), (4, .int v4)]) hx hb dd_L_law_514 hl0 (by decide) rfl (fun ls hl => ?_)
        refine lv_goto (tgt := 556) hx hb dd_L_law_516 (by decide) ?_
        exact wk_L_law_556 C0 hfl hr hlk hsz hX hbl hbA ih _ _ _ _ _ _ _ _ _ _ hw hG hS hkc (lv_sub hl [2, 3, 4, 5, 6] rfl)
      · replace hw := hw.2.2.2.2.2.2.2.2.2.2.2.2.2.2 z
        refine lv_tableIn (tgt := 519) hx hb dd_L_law_39 (by omega) (by omega) (by rw [z]; rfl) (by decide) ?_
        refine lv_aload_n hx hb dd_L_law_519 rfl (lv_at hl 1 rfl) ?_
        refine lv_aload_n hx hb dd_L_law_520 rfl (lv_at hl 0 rfl) ?_
        refine lv_iload hx hb dd_L_law_521 (lv_at hl 4 rfl) ?_
        refine lv_iconst (v := 1) hx hb dd_L_law_523 (by decide) ?_
        refine lv_iadd hx hb dd_L_law_524 ?_
        refine lv_topi (fun x211 ex211 => ?_)
        replace hw := hw x211 ex211
        obtain ⟨k212, hw⟩ := hw
        refine va_sld hx hb hX hbl hbA hS k212 dd_L_law_525 ?_
        refine lv_topi (fun x213 ex213 => ?_)
        replace hw := hw x213 ex213
        refine lv_aload_n hx hb dd_L_law_526 rfl (lv_at hl 0 rfl) ?_
        refine lv_iload hx hb dd_L_law_527 (lv_at hl 4 rfl) ?_
        refine lv_iconst (v := 2) hx hb dd_L_law_529 (by decide) ?_
        refine lv_iadd hx hb dd_L_law_530 ?_
        refine lv_topi (fun x214 ex214 => ?_)
        replace hw := hw x214 ex214
        obtain ⟨k215, hw⟩ := hw
        refine va_sld hx hb hX hbl hbA hS k215 dd_L_law_531 ?_
        refine lv_topi (fun x216 ex216 => ?_)
        replace hw := hw x216 ex216
        obtain ⟨k217, hw⟩ := hw
        have hw0 := hw
        clear hw
        refine cs_i (rn_V C0 hG hS (c_S_state l g _ h v1 x213 x216 hw0) (ci := 0) k217 (by decide) rfl rfl (host := "") (nest := false) (n := 2) (As := [.int x213, .int x216]) (rest := []) km_621 km_620 km_622 km_623 km_176 ⟨by decide, by decide, by decide +kernel⟩ ⟨Nat.le_of_ble_eq_true rfl, Nat.le_of_ble_eq_true rfl⟩ rfl hl.1 rfl (Nat.le_of_ble_eq_true rfl) dd_L_law_532 hkc) (fun x219 hw => ?_)
        refine lv_pop hx hb dd_L_law_535 rfl ?_
        refine lv_aload_n hx hb dd_L_law_536 rfl (lv_at hl 2 rfl) ?_
        refine lv_aload_n hx hb dd_L_law_537 rfl (lv_at hl 0 rfl) ?_
        refine lv_iload hx hb dd_L_law_538 (lv_at hl 4 rfl) ?_
        refine lv_iconst (v := 1) hx hb dd_L_law_540 (by decide) ?_
        refine lv_iadd hx hb dd_L_law_541 ?_
        refine lv_topi (fun x220 ex220 => ?_)
        replace hw := hw x220 ex220
        obtain ⟨k221, hw⟩ := hw
        refine va_sld hx hb hX hbl hbA hS k221 dd_L_law_542 ?_
        refine lv_topi (fun x222 ex222 => ?_)
        replace hw := hw x222 ex222
        refine lv_aload_n hx hb dd_L_law_543 rfl (lv_at hl 0 rfl) ?_
        refine lv_iload hx hb dd_L_law_544 (lv_at hl 4 rfl) ?_
        refine lv_iconst (v := 2) hx hb dd_L_law_546 (by decide) ?_
        refine lv_iadd hx hb dd_L_law_547 ?_
        refine lv_topi (fun x223 ex223 => ?_)
        replace hw := hw x223 ex223
        obtain ⟨k224, hw⟩ := hw
        refine va_sld hx hb hX hbl hbA hS k224 dd_L_law_548 ?_
        refine lv_topi (fun x225 ex225 => ?_)
        replace hw := hw x225 ex225
        obtain ⟨k226, hw⟩ := hw
        refine ca_i hS (rn_V C0 hG hS (c_M_state l g _ h v2 x222 x225 hw) (ci := 4) k226 (by decide) rfl rfl (host := "") (nest := false) (n := 2) (As := [.int x222, .int x225]) (rest := []) km_617 km_616 km_618 km_619 km_421 ⟨by decide, by decide, by decide +kernel⟩ ⟨Nat.le_of_ble_eq_true rfl, Nat.le_of_ble_eq_true rfl⟩ rfl hl.1 rfl (Nat.le_of_ble_eq_true rfl) dd_L_law_549 hkc) (fun x228 h227 H locs hw hG hS => ?_)
        refine lv_pop hx hb dd_L_law_552 rfl ?_
        refine lv_goto (tgt := 556) hx hb dd_L_law_553 (by decide) ?_
        exact wk_L_law_556 C0 hfl hr hlk hsz hX hbl hbA ih _ _ _ _ _ _ _ _ _ _ hw hG hS hkc (lv_sub hl [0, 1, 2, 3, 4] rfl)
def wp_L_law (g : Gm) (L : Nat) (xs : Nat → Int32) (mc ms : Nat) (h : Hp) : Prop := 0 + 1 ≤ mc ∧ 0 + 6 ≤ ms ∧ ∀ q1 : Nat, hK h q1 = 0 → g.2.2 0 ≤ q1 → ∀ h2 : Hp, h2 = mkC h q1 1 0 → ∃ mc5 ms6 : Nat, (0 + 1) + mc5 ≤ mc ∧ (0 + 6) + ms6 ≤ ms ∧ wp_S_init g (fun h4 => ((0 + 1) + mc5) + 1 ≤ mc ∧ ((0 + 6) + ms6) + 27 ≤ ms ∧ ∀ q7 : Nat, hK h4 q7 = 0 → g.2.2 0 ≤ q7 → ∀ h8 : Hp, h8 = mkC h4 q7 5 0 → ∃ mc11 ms12 : Nat, (((0 + 1) + mc5) + 1) + mc11 ≤ mc ∧ (((0 + 6) + ms6) + 27) + ms12 ≤ ms ∧ wp_M_init g (fun h10 => ((((0 + 1) + mc5) + 1) + mc11) + 1 ≤ mc ∧ ((((0 + 6) + ms6) + 27) + ms12) + 1 ≤ ms ∧ ∀ q13 : Nat, hK h10 q13 = 0 → g.2.2 0 ≤ q13 → ∀ h14 : Hp, h14 = mkC h10 q13 22 1 → ∃ n : Nat, wp_L_law_23 g L xs mc ms n h14 (((((0 + 1) + mc5) + 1) + mc11) + 1) (((((0 + 6) + ms6) + 27) + ms12) + 1) q1 q7 q13 0) mc11 ms12 h8 q7) mc5 ms6 h2 q1
set_option maxHeartbeats 4000000 in
set_option maxRecDepth 100000 in
theorem c_law {p : Program} {l : Launch} {e : Env} {s : State} {m : MethodId} {args : Array Value} {below : List Frame} {meth : Method} {c : Code} {g : Gm} {b L : Nat} {xs : Nat → Int32} {mc ms : Nat} (C0 : Cx g p s m args c code 8 "SegmentLocksLaw") (hfl : l.flags = pinnedFlags ++ [noTraceFlag]) (hr : meth.sig.returnType = some .boolean) (hlk : meth.locks = false) (hsz : s.heap.size ≤ g.2.2 0) (hX : va_X b L xs s s.heap) (hbl : b < s.heap.size) (hbA : ¬ gA g b) (h : Hp) (H : Heap) (locs : List Loc) (ls : Array Slot) (hw : wp_L_law g L xs mc ms h) (hG : GH g h H) (hS : va_S (gA g) s.heap H locs) (hl : lv_has ls 8 [(0, .ref b)]) : W p l e (rmm 14 556 mc ms) s m args below meth c H locs 0 0 (MQ below lawQ args s mc ms (fun _ => False)) (F0 m 0 ls []) := by
  obtain ⟨hx, hb, -, hown, hts, hgk⟩ := id C0
  have hkc : 0 ≤ mc ∧ 0 ≤ ms := ⟨Nat.zero_le _, Nat.zero_le _⟩
  unfold wp_L_law at hw
  obtain ⟨hc1, hc2, hw⟩ := hw
  refine px_new C0 hG hS (ci := 0) (T := FX0) (N := 6) (C := RX0) (by decide) rfl iX0 rfl tX0_ok (by decide) km_624 km_625 km_176 hc1 hc2 dd_L_law_0 (fun q1 H z0 zq hG hS => ?_)
  replace hw := hw q1 z0 zq _ rfl
  generalize mkC h q1 1 0 = h2 at hw hG
  have hkc := And.intro hc1 hc2
  refine lv_dup hx hb dd_L_law_3 rfl ?_
  obtain ⟨mc5, ms6, hc1, hc2, hw⟩ := hw
  refine ca_v hS (rn_I C0 hG hS (c_S_init l g _ mc5 ms6 h2 q1 hw) (host := "") (nest := false) (n := 0) (As := []) (rest := [.ref q1]) km_632 km_631 km_633 km_176 rfl ⟨by decide, by decide, by decide +kernel⟩ ⟨Nat.le_of_ble_eq_true rfl, Nat.le_of_ble_eq_true rfl⟩ rfl hl.1 rfl (Nat.le_of_ble_eq_true rfl) dd_L_law_4 ⟨hc1, hc2⟩) (fun h4 H locs hw hG hS => ?_)
  have hkc := And.intro hc1 hc2
  have hl0 := hl
  clear hl
  refine lv_astore_n (lv' := [(1, .ref q1), (0, .ref b)]) hx hb dd_L_law_7 rfl hl0 (by decide) rfl (fun ls hl => ?_)
  obtain ⟨hc1, hc2, hw⟩ := hw
  refine px_new C0 hG hS (ci := 4) (T := FX4) (N := 27) (C := RX4) (by decide) rfl iX4 rfl tX4_ok (by decide) km_626 km_627 km_421 hc1 hc2 dd_L_law_8 (fun q7 H z0 zq hG hS => ?_)
  replace hw := hw q7 z0 zq _ rfl
  generalize mkC h4 q7 5 0 = h8 at hw hG
  have hkc := And.intro hc1 hc2
  refine lv_dup hx hb dd_L_law_11 rfl ?_
  obtain ⟨mc11, ms12, hc1, hc2, hw⟩ := hw
  refine ca_v hS (rn_I C0 hG hS (c_M_init l g _ mc11 ms12 h8 q7 hw) (host := "") (nest := false) (n := 0) (As := []) (rest := [.ref q7]) km_629 km_628 km_630 km_421 rfl ⟨by decide, by decide, by decide +kernel⟩ ⟨Nat.le_of_ble_eq_true rfl, Nat.le_of_ble_eq_true rfl⟩ rfl hl.1 rfl (Nat.le_of_ble_eq_true rfl) dd_L_law_12 ⟨hc1, hc2⟩) (fun h10 H locs hw hG hS => ?_)
  have hkc := And.intro hc1 hc2
  have hl0 := hl
  clear hl
  refine lv_astore_n (lv' := [(2, .ref q7), (1, .ref q1), (0, .ref b)]) hx hb dd_L_law_15 rfl hl0 (by decide) rfl (fun ls hl => ?_)
  refine lv_iconst (v := 1) hx hb dd_L_law_16 (by decide) ?_
  obtain ⟨hc1, hc2, hw⟩ := hw
  refine px_newJ C0 hG hS km_33 (N := 1) (by decide) (by decide) (by decide) hc1 hc2 dd_L_law_17 (fun q13 H z0 zq hG hS => ?_)
  replace hw := hw q13 z0 zq _ rfl
  generalize mkC h10 q13 22 1 = h14 at hw hG
  have hkc := And.intro hc1 hc2
  have hl0 := hl
  clear hl
  refine lv_astore_n (lv' := [(3, .ref q13), (2, .ref q7), (1, .ref q1), (0, .ref b)]) hx hb dd_L_law_19 rfl hl0 (by decide) rfl (fun ls hl => ?_)
  refine lv_iconst (v := 0) hx hb dd_L_law_20 (by decide) ?_
  have hl0 := hl
  clear hl
  refine lv_istore (lv' := [(4, .int 0), (3, .ref q13), (2, .ref q7), (1, .ref q1), (0, .ref b)]) hx hb dd_L_law_21 hl0 (by decide) rfl (fun ls hl => ?_)
  obtain ⟨n, hw⟩ := hw
  exact wk_L_law_23 C0 hfl hr hlk hsz hX hbl hbA n _ _ _ _ _ _ _ _ _ _ hw hG hS hkc (lv_sub hl [4, 3, 2, 1, 0] rfl)
