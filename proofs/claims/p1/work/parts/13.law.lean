/-! SegmentLocksLaw.read(LSegmentLocks;II[J)I -/
theorem dd_L_read_0 : decode method_3_code 0 = .ok (.aload_n 3, 1) := by decide +kernel
theorem dd_L_read_1 : decode method_3_code 1 = .ok (.iconst 0, 1) := by decide +kernel
theorem dd_L_read_2 : decode method_3_code 2 = .ok (.aload_n 0, 1) := by decide +kernel
theorem dd_L_read_3 : decode method_3_code 3 = .ok (.iload_n 1, 1) := by decide +kernel
theorem dd_L_read_4 : decode method_3_code 4 = .ok (.iload_n 2, 1) := by decide +kernel
theorem dd_L_read_5 : decode method_3_code 5 = .ok (.invokevirtual 7, 3) := by decide +kernel
theorem dd_L_read_8 : decode method_3_code 8 = .ok (.lastore, 1) := by decide +kernel
theorem dd_L_read_9 : decode method_3_code 9 = .ok (.goto 11, 3) := by decide +kernel
theorem dd_L_read_12 : decode method_3_code 12 = .ok (.astore 4, 2) := by decide +kernel
theorem dd_L_read_14 : decode method_3_code 14 = .ok (.iconst 1, 1) := by decide +kernel
theorem dd_L_read_15 : decode method_3_code 15 = .ok (.ireturn, 1) := by decide +kernel
theorem dd_L_read_16 : decode method_3_code 16 = .ok (.astore 4, 2) := by decide +kernel
theorem dd_L_read_18 : decode method_3_code 18 = .ok (.iconst 2, 1) := by decide +kernel
theorem dd_L_read_19 : decode method_3_code 19 = .ok (.ireturn, 1) := by decide +kernel
theorem dd_L_read_20 : decode method_3_code 20 = .ok (.iconst 0, 1) := by decide +kernel
theorem dd_L_read_21 : decode method_3_code 21 = .ok (.ireturn, 1) := by decide +kernel
def wp_L_read (g : Gm) (post : Int32 → Hp → Prop) (mc ms : Nat) (h : Hp) (b0 : Nat) (i1 : Int32) (i2 : Int32) (b3 : Nat) : Prop := hK h b0 = 1 ∧ (wp_S_read g (fun j3 h2 => hK h2 b3 = 22 ∧ vp_in 0 (hN h2 b3) ∧ ∀ h5 : Hp, h5 = sJ h2 b3 (0 : Int32).toNatClampNeg j3 → post 0 h5) h b0 i1 i2 ∨ (wp_S_read_tA g h b0 i1 i2 ∧ 0 + 1 ≤ mc ∧ 0 + 6 ≤ ms ∧ ∀ x6 : Nat, post 1 h) ∨ (wp_S_read_tS g h b0 i1 i2 ∧ 0 + 1 ≤ mc ∧ 0 + 6 ≤ ms ∧ ∀ x7 : Nat, post 2 h))
set_option maxHeartbeats 4000000 in
set_option maxRecDepth 100000 in
theorem c_L_read (l : Launch) (hfl : l.flags = pinnedFlags ++ [noTraceFlag]) (g : Gm) (post : Int32 → Hp → Prop) (mc ms : Nat) (h : Hp) (b0 : Nat) (i1 : Int32) (i2 : Int32) (b3 : Nat) (hw : wp_L_read g post mc ms h b0 i1 i2 b3) : Met l (⟨"SegmentLocksLaw", "read", "(LSegmentLocks;II[J)I"⟩ : MethodName) (wwH (⟨"SegmentLocksLaw", "read", "(LSegmentLocks;II[J)I"⟩ : MethodName) method_3_code 5 (some .int) [(0, 9, 12, 13), (0, 9, 16, 15)]) (rmm 7 113 mc ms) (va_Pc [.ref b0, .int i1, .int i2, .ref b3] (gS g h)) (va_Qi post (gS g) (gA g)) mc ms (gA g) := by
  refine en_metW (by decide) ?_
  intro p e s m below meth c C0 hr hlk htab hG
  have hS : va_S (gA g) s.heap s.heap [] := va_S.rf
  have hl := lv_entry ([.ref b0, .int i1, .int i2, .ref b3]) (n := 5) (Nat.le_of_ble_eq_true rfl)
  rw [lg_entry_eq]
  generalize (lg_sl ([.ref b0, .int i1, .int i2, .ref b3]) ++ List.replicate (5 - (lg_sl ([.ref b0, .int i1, .int i2, .ref b3])).length) Slot.unset).toArray = ls at hl ⊢
  replace hl : lv_has ls 5 [(0, .ref b0), (1, .int i1), (2, .int i2), (3, .ref b3)] := hl
  obtain ⟨hx, hb, -, hown, hts, hgk⟩ := id C0
  have hkc : 0 ≤ mc ∧ 0 ≤ ms := ⟨Nat.zero_le _, Nat.zero_le _⟩
  unfold wp_L_read at hw
  refine lv_aload_n hx hb dd_L_read_0 rfl (lv_at hl 3 rfl) ?_
  refine lv_iconst (v := 0) hx hb dd_L_read_1 (by decide) ?_
  refine lv_aload_n hx hb dd_L_read_2 rfl (lv_at hl 0 rfl) ?_
  refine lv_iload_n hx hb dd_L_read_3 rfl (lv_at hl 1 rfl) ?_
  refine lv_iload_n hx hb dd_L_read_4 rfl (lv_at hl 2 rfl) ?_
  obtain ⟨k1, hw⟩ := hw
  rcases hw with hw | ⟨hwt, hc1, hc2, hw⟩ | ⟨hwt, hc1, hc2, hw⟩
  · refine ca_l hS (rn_V C0 hG hS (c_S_read l g _ h b0 i1 i2 hw) (ci := 0) k1 (by decide) rfl rfl (host := "") (nest := false) (n := 2) (As := [.int i1, .int i2]) (rest := [.int 0, .ref b3]) km_503 km_502 km_504 km_505 km_176 ⟨by decide, by decide, by decide +kernel⟩ ⟨Nat.le_of_ble_eq_true rfl, Nat.le_of_ble_eq_true rfl⟩ rfl hl.1 rfl (Nat.le_of_ble_eq_true rfl) dd_L_read_5 hkc) (fun j3 h2 H locs hw hG hS => ?_)
    obtain ⟨k4, k4i, hw⟩ := hw
    refine px_last C0 hG hS k4 k4i dd_L_read_8 (fun H locs hG hS => ?_)
    replace hw := hw _ rfl
    generalize sJ h2 b3 (0 : Int32).toNatClampNeg j3 = h5 at hw hG
    refine lv_goto (tgt := 20) hx hb dd_L_read_9 (by decide) ?_
    refine lv_iconst (v := 0) hx hb dd_L_read_20 (by decide) ?_
    exact re_i C0 hG hS hr hlk hkc hw dd_L_read_21
  · refine cx_call C0 hG hS (c_S_read_tA l hfl g h b0 i1 i2 hwt) (ci := 0) k1 (by decide) rfl rfl (n := 2) (As := [.int i1, .int i2]) (rest := [.int 0, .ref b3]) km_503 km_502 km_504 km_505 km_176 ⟨by decide, by decide, by decide +kernel⟩ ⟨Nat.le_of_ble_eq_true rfl, Nat.le_of_ble_eq_true rfl⟩ rfl hl.1 rfl (Nat.le_of_ble_eq_true rfl) dd_L_read_5 ⟨hc1, hc2⟩ (hc_one C0 htab ⟨by decide, by decide⟩ (by decide) km_506 km_371) (fun x6 H hG hS => ?_)
    replace hw := hw x6
    have hkc := And.intro hc1 hc2
    have hl0 := hl
    clear hl
    refine lv_astore (lv' := [(4, .ref x6), (0, .ref b0), (1, .int i1), (2, .int i2), (3, .ref b3)]) hx hb dd_L_read_12 hl0 (by decide) rfl (fun ls hl => ?_)
    refine lv_iconst (v := 1) hx hb dd_L_read_14 (by decide) ?_
    exact re_i C0 hG hS hr hlk hkc hw dd_L_read_15
  · refine cx_call C0 hG hS (c_S_read_tS l hfl g h b0 i1 i2 hwt) (ci := 0) k1 (by decide) rfl rfl (n := 2) (As := [.int i1, .int i2]) (rest := [.int 0, .ref b3]) km_503 km_502 km_504 km_505 km_176 ⟨by decide, by decide, by decide +kernel⟩ ⟨Nat.le_of_ble_eq_true rfl, Nat.le_of_ble_eq_true rfl⟩ rfl hl.1 rfl (Nat.le_of_ble_eq_true rfl) dd_L_read_5 ⟨hc1, hc2⟩ (hc_two C0 htab ⟨by decide, by decide⟩ (by decide) ⟨by decide, by decide⟩ (by decide) km_506 km_507 hgk.2.2.2.2.2.2.2.2.2.2 km_388) (fun x7 H hG hS => ?_)
    replace hw := hw x7
    have hkc := And.intro hc1 hc2
    have hl0 := hl
    clear hl
    refine lv_astore (lv' := [(4, .ref x7), (0, .ref b0), (1, .int i1), (2, .int i2), (3, .ref b3)]) hx hb dd_L_read_16 hl0 (by decide) rfl (fun ls hl => ?_)
    refine lv_iconst (v := 2) hx hb dd_L_read_18 (by decide) ?_
    exact re_i C0 hG hS hr hlk hkc hw dd_L_read_19
/-! SegmentLocksLaw.value(LSegmentLocks;I[J)I -/
theorem dd_L_value_0 : decode method_4_code 0 = .ok (.aload_n 2, 1) := by decide +kernel
theorem dd_L_value_1 : decode method_4_code 1 = .ok (.iconst 0, 1) := by decide +kernel
theorem dd_L_value_2 : decode method_4_code 2 = .ok (.aload_n 0, 1) := by decide +kernel
theorem dd_L_value_3 : decode method_4_code 3 = .ok (.iload_n 1, 1) := by decide +kernel
theorem dd_L_value_4 : decode method_4_code 4 = .ok (.invokevirtual 17, 3) := by decide +kernel
theorem dd_L_value_7 : decode method_4_code 7 = .ok (.lastore, 1) := by decide +kernel
theorem dd_L_value_8 : decode method_4_code 8 = .ok (.goto 6, 3) := by decide +kernel
theorem dd_L_value_11 : decode method_4_code 11 = .ok (.astore_n 3, 1) := by decide +kernel
theorem dd_L_value_12 : decode method_4_code 12 = .ok (.iconst 1, 1) := by decide +kernel
theorem dd_L_value_13 : decode method_4_code 13 = .ok (.ireturn, 1) := by decide +kernel
theorem dd_L_value_14 : decode method_4_code 14 = .ok (.iconst 0, 1) := by decide +kernel
theorem dd_L_value_15 : decode method_4_code 15 = .ok (.ireturn, 1) := by decide +kernel
def wp_L_value (g : Gm) (post : Int32 → Hp → Prop) (mc ms : Nat) (h : Hp) (b0 : Nat) (i1 : Int32) (b2 : Nat) : Prop := hK h b0 = 1 ∧ (wp_S_value g (fun j3 => hK h b2 = 22 ∧ vp_in 0 (hN h b2) ∧ ∀ h5 : Hp, h5 = sJ h b2 (0 : Int32).toNatClampNeg j3 → post 0 h5) h b0 i1 ∨ (wp_S_value_tA g h b0 i1 ∧ 0 + 1 ≤ mc ∧ 0 + 6 ≤ ms ∧ ∀ x6 : Nat, post 1 h))
set_option maxHeartbeats 4000000 in
set_option maxRecDepth 100000 in
theorem c_L_value (l : Launch) (hfl : l.flags = pinnedFlags ++ [noTraceFlag]) (g : Gm) (post : Int32 → Hp → Prop) (mc ms : Nat) (h : Hp) (b0 : Nat) (i1 : Int32) (b2 : Nat) (hw : wp_L_value g post mc ms h b0 i1 b2) : Met l (⟨"SegmentLocksLaw", "value", "(LSegmentLocks;I[J)I"⟩ : MethodName) (wwH (⟨"SegmentLocksLaw", "value", "(LSegmentLocks;I[J)I"⟩ : MethodName) method_4_code 4 (some .int) [(0, 8, 11, 13)]) (rmm 7 103 mc ms) (va_Pc [.ref b0, .int i1, .ref b2] (gS g h)) (va_Qi post (gS g) (gA g)) mc ms (gA g) := by
  refine en_metW (by decide) ?_
  intro p e s m below meth c C0 hr hlk htab hG
  have hS : va_S (gA g) s.heap s.heap [] := va_S.rf
  have hl := lv_entry ([.ref b0, .int i1, .ref b2]) (n := 4) (Nat.le_of_ble_eq_true rfl)
  rw [lg_entry_eq]
  generalize (lg_sl ([.ref b0, .int i1, .ref b2]) ++ List.replicate (4 - (lg_sl ([.ref b0, .int i1, .ref b2])).length) Slot.unset).toArray = ls at hl ⊢
  replace hl : lv_has ls 4 [(0, .ref b0), (1, .int i1), (2, .ref b2)] := hl
  obtain ⟨hx, hb, -, hown, hts, hgk⟩ := id C0
  have hkc : 0 ≤ mc ∧ 0 ≤ ms := ⟨Nat.zero_le _, Nat.zero_le _⟩
  unfold wp_L_value at hw
  refine lv_aload_n hx hb dd_L_value_0 rfl (lv_at hl 2 rfl) ?_
  refine lv_iconst (v := 0) hx hb dd_L_value_1 (by decide) ?_
  refine lv_aload_n hx hb dd_L_value_2 rfl (lv_at hl 0 rfl) ?_
  refine lv_iload_n hx hb dd_L_value_3 rfl (lv_at hl 1 rfl) ?_
  obtain ⟨k1, hw⟩ := hw
  rcases hw with hw | ⟨hwt, hc1, hc2, hw⟩
  · have hw0 := hw
    clear hw
    refine cs_l (rn_V C0 hG hS (c_S_value l g _ h b0 i1 hw0) (ci := 0) k1 (by decide) rfl rfl (host := "") (nest := false) (n := 1) (As := [.int i1]) (rest := [.int 0, .ref b2]) km_509 km_508 km_510 km_511 km_176 ⟨by decide, by decide, by decide +kernel⟩ ⟨Nat.le_of_ble_eq_true rfl, Nat.le_of_ble_eq_true rfl⟩ rfl hl.1 rfl (Nat.le_of_ble_eq_true rfl) dd_L_value_4 hkc) (fun j3 hw => ?_)
    obtain ⟨k4, k4i, hw⟩ := hw
    refine px_last C0 hG hS k4 k4i dd_L_value_7 (fun H locs hG hS => ?_)
    replace hw := hw _ rfl
    generalize sJ h b2 (0 : Int32).toNatClampNeg j3 = h5 at hw hG
    refine lv_goto (tgt := 14) hx hb dd_L_value_8 (by decide) ?_
    refine lv_iconst (v := 0) hx hb dd_L_value_14 (by decide) ?_
    exact re_i C0 hG hS hr hlk hkc hw dd_L_value_15
  · refine cx_call C0 hG hS (c_S_value_tA l hfl g h b0 i1 hwt) (ci := 0) k1 (by decide) rfl rfl (n := 1) (As := [.int i1]) (rest := [.int 0, .ref b2]) km_509 km_508 km_510 km_511 km_176 ⟨by decide, by decide, by decide +kernel⟩ ⟨Nat.le_of_ble_eq_true rfl, Nat.le_of_ble_eq_true rfl⟩ rfl hl.1 rfl (Nat.le_of_ble_eq_true rfl) dd_L_value_4 ⟨hc1, hc2⟩ (hc_one C0 htab ⟨by decide, by decide⟩ (by decide) km_506 km_371) (fun x6 H hG hS => ?_)
    replace hw := hw x6
    have hkc := And.intro hc1 hc2
    have hl0 := hl
    clear hl
    refine lv_astore_n (lv' := [(3, .ref x6), (0, .ref b0), (1, .int i1), (2, .ref b2)]) hx hb dd_L_value_11 rfl hl0 (by decide) rfl (fun ls hl => ?_)
    refine lv_iconst (v := 1) hx hb dd_L_value_12 (by decide) ?_
    exact re_i C0 hG hS hr hlk hkc hw dd_L_value_13
theorem dd_L_law_0 : decode code 0 = .ok (.new 8, 3) := by decide +kernel
theorem dd_L_law_3 : decode code 3 = .ok (.dup, 1) := by decide +kernel
theorem dd_L_law_4 : decode code 4 = .ok (.invokespecial 21, 3) := by decide +kernel
theorem dd_L_law_7 : decode code 7 = .ok (.astore_n 1, 1) := by decide +kernel
theorem dd_L_law_8 : decode code 8 = .ok (.new 22, 3) := by decide +kernel
theorem dd_L_law_11 : decode code 11 = .ok (.dup, 1) := by decide +kernel
theorem dd_L_law_12 : decode code 12 = .ok (.invokespecial 24, 3) := by decide +kernel
theorem dd_L_law_15 : decode code 15 = .ok (.astore_n 2, 1) := by decide +kernel
theorem dd_L_law_16 : decode code 16 = .ok (.iconst 1, 1) := by decide +kernel
theorem dd_L_law_17 : decode code 17 = .ok (.newarray .long, 2) := by decide +kernel
theorem dd_L_law_19 : decode code 19 = .ok (.astore_n 3, 1) := by decide +kernel
theorem dd_L_law_20 : decode code 20 = .ok (.iconst 0, 1) := by decide +kernel
theorem dd_L_law_21 : decode code 21 = .ok (.istore 4, 2) := by decide +kernel
theorem dd_L_law_23 : decode code 23 = .ok (.iload 4, 2) := by decide +kernel
theorem dd_L_law_25 : decode code 25 = .ok (.aload_n 0, 1) := by decide +kernel
theorem dd_L_law_26 : decode code 26 = .ok (.arraylength, 1) := by decide +kernel
theorem dd_L_law_27 : decode code 27 = .ok (.iconst 5, 1) := by decide +kernel
theorem dd_L_law_28 : decode code 28 = .ok (.isub, 1) := by decide +kernel
theorem dd_L_law_29 : decode code 29 = .ok (.if_icmp .gt 587, 3) := by decide +kernel
theorem dd_L_law_32 : decode code 32 = .ok (.aload_n 0, 1) := by decide +kernel
theorem dd_L_law_33 : decode code 33 = .ok (.iload 4, 2) := by decide +kernel
theorem dd_L_law_35 : decode code 35 = .ok (.iaload, 1) := by decide +kernel
theorem dd_L_law_36 : decode code 36 = .ok (.bipush 15, 2) := by decide +kernel
theorem dd_L_law_38 : decode code 38 = .ok (.iand, 1) := by decide +kernel
theorem dd_L_law_39 : decode code 39 = .ok (.tableswitch 571 0 13 #[69, 94, 143, 224, 291, 316, 341, 366, 391, 416, 441, 466, 479, 534], 69) := by decide +kernel
theorem dd_L_law_108 : decode code 108 = .ok (.aload_n 1, 1) := by decide +kernel
theorem dd_L_law_109 : decode code 109 = .ok (.aload_n 0, 1) := by decide +kernel
theorem dd_L_law_110 : decode code 110 = .ok (.iload 4, 2) := by decide +kernel
theorem dd_L_law_112 : decode code 112 = .ok (.iconst 1, 1) := by decide +kernel
theorem dd_L_law_113 : decode code 113 = .ok (.iadd, 1) := by decide +kernel
theorem dd_L_law_114 : decode code 114 = .ok (.iaload, 1) := by decide +kernel
theorem dd_L_law_115 : decode code 115 = .ok (.invokevirtual 25, 3) := by decide +kernel
theorem dd_L_law_118 : decode code 118 = .ok (.aload_n 2, 1) := by decide +kernel
theorem dd_L_law_119 : decode code 119 = .ok (.aload_n 0, 1) := by decide +kernel
theorem dd_L_law_120 : decode code 120 = .ok (.iload 4, 2) := by decide +kernel
theorem dd_L_law_122 : decode code 122 = .ok (.iconst 1, 1) := by decide +kernel
theorem dd_L_law_123 : decode code 123 = .ok (.iadd, 1) := by decide +kernel
theorem dd_L_law_124 : decode code 124 = .ok (.iaload, 1) := by decide +kernel
theorem dd_L_law_125 : decode code 125 = .ok (.invokevirtual 29, 3) := by decide +kernel
theorem dd_L_law_128 : decode code 128 = .ok (.if_icmp .eq 482, 3) := by decide +kernel
theorem dd_L_law_131 : decode code 131 = .ok (.iconst 0, 1) := by decide +kernel
theorem dd_L_law_132 : decode code 132 = .ok (.ireturn, 1) := by decide +kernel
theorem dd_L_law_133 : decode code 133 = .ok (.aload_n 1, 1) := by decide +kernel
theorem dd_L_law_134 : decode code 134 = .ok (.aload_n 0, 1) := by decide +kernel
theorem dd_L_law_135 : decode code 135 = .ok (.iload 4, 2) := by decide +kernel
theorem dd_L_law_137 : decode code 137 = .ok (.iconst 1, 1) := by decide +kernel
theorem dd_L_law_138 : decode code 138 = .ok (.iadd, 1) := by decide +kernel
theorem dd_L_law_139 : decode code 139 = .ok (.iaload, 1) := by decide +kernel
theorem dd_L_law_140 : decode code 140 = .ok (.aload_n 0, 1) := by decide +kernel
theorem dd_L_law_141 : decode code 141 = .ok (.iload 4, 2) := by decide +kernel
theorem dd_L_law_143 : decode code 143 = .ok (.iconst 2, 1) := by decide +kernel
theorem dd_L_law_144 : decode code 144 = .ok (.iadd, 1) := by decide +kernel
theorem dd_L_law_145 : decode code 145 = .ok (.iaload, 1) := by decide +kernel
theorem dd_L_law_146 : decode code 146 = .ok (.aload_n 0, 1) := by decide +kernel
theorem dd_L_law_147 : decode code 147 = .ok (.iload 4, 2) := by decide +kernel
theorem dd_L_law_149 : decode code 149 = .ok (.iconst 3, 1) := by decide +kernel
theorem dd_L_law_150 : decode code 150 = .ok (.iadd, 1) := by decide +kernel
theorem dd_L_law_151 : decode code 151 = .ok (.iaload, 1) := by decide +kernel
theorem dd_L_law_152 : decode code 152 = .ok (.invokevirtual 30, 3) := by decide +kernel
theorem dd_L_law_155 : decode code 155 = .ok (.aload_n 2, 1) := by decide +kernel
theorem dd_L_law_156 : decode code 156 = .ok (.aload_n 0, 1) := by decide +kernel
theorem dd_L_law_157 : decode code 157 = .ok (.iload 4, 2) := by decide +kernel
theorem dd_L_law_159 : decode code 159 = .ok (.iconst 1, 1) := by decide +kernel
theorem dd_L_law_160 : decode code 160 = .ok (.iadd, 1) := by decide +kernel
theorem dd_L_law_161 : decode code 161 = .ok (.iaload, 1) := by decide +kernel
theorem dd_L_law_162 : decode code 162 = .ok (.aload_n 0, 1) := by decide +kernel
theorem dd_L_law_163 : decode code 163 = .ok (.iload 4, 2) := by decide +kernel
theorem dd_L_law_165 : decode code 165 = .ok (.iconst 2, 1) := by decide +kernel
theorem dd_L_law_166 : decode code 166 = .ok (.iadd, 1) := by decide +kernel
theorem dd_L_law_167 : decode code 167 = .ok (.iaload, 1) := by decide +kernel
theorem dd_L_law_168 : decode code 168 = .ok (.aload_n 0, 1) := by decide +kernel
theorem dd_L_law_169 : decode code 169 = .ok (.iload 4, 2) := by decide +kernel
theorem dd_L_law_171 : decode code 171 = .ok (.iconst 3, 1) := by decide +kernel
theorem dd_L_law_172 : decode code 172 = .ok (.iadd, 1) := by decide +kernel
theorem dd_L_law_173 : decode code 173 = .ok (.iaload, 1) := by decide +kernel
theorem dd_L_law_174 : decode code 174 = .ok (.invokevirtual 34, 3) := by decide +kernel
theorem dd_L_law_177 : decode code 177 = .ok (.if_icmp .eq 433, 3) := by decide +kernel
theorem dd_L_law_180 : decode code 180 = .ok (.iconst 0, 1) := by decide +kernel
theorem dd_L_law_181 : decode code 181 = .ok (.ireturn, 1) := by decide +kernel
theorem dd_L_law_182 : decode code 182 = .ok (.aload_n 1, 1) := by decide +kernel
theorem dd_L_law_183 : decode code 183 = .ok (.aload_n 0, 1) := by decide +kernel
theorem dd_L_law_184 : decode code 184 = .ok (.iload 4, 2) := by decide +kernel
theorem dd_L_law_186 : decode code 186 = .ok (.iconst 1, 1) := by decide +kernel
theorem dd_L_law_187 : decode code 187 = .ok (.iadd, 1) := by decide +kernel
theorem dd_L_law_188 : decode code 188 = .ok (.iaload, 1) := by decide +kernel
theorem dd_L_law_189 : decode code 189 = .ok (.aload_n 0, 1) := by decide +kernel
theorem dd_L_law_190 : decode code 190 = .ok (.iload 4, 2) := by decide +kernel
theorem dd_L_law_192 : decode code 192 = .ok (.iconst 2, 1) := by decide +kernel
theorem dd_L_law_193 : decode code 193 = .ok (.iadd, 1) := by decide +kernel
theorem dd_L_law_194 : decode code 194 = .ok (.iaload, 1) := by decide +kernel
theorem dd_L_law_195 : decode code 195 = .ok (.aload_n 0, 1) := by decide +kernel
theorem dd_L_law_196 : decode code 196 = .ok (.iload 4, 2) := by decide +kernel
theorem dd_L_law_198 : decode code 198 = .ok (.iconst 3, 1) := by decide +kernel
theorem dd_L_law_199 : decode code 199 = .ok (.iadd, 1) := by decide +kernel
theorem dd_L_law_200 : decode code 200 = .ok (.iaload, 1) := by decide +kernel
theorem dd_L_law_201 : decode code 201 = .ok (.i2l, 1) := by decide +kernel
theorem dd_L_law_202 : decode code 202 = .ok (.bipush 32, 2) := by decide +kernel
theorem dd_L_law_204 : decode code 204 = .ok (.lshl, 1) := by decide +kernel
theorem dd_L_law_205 : decode code 205 = .ok (.aload_n 0, 1) := by decide +kernel
theorem dd_L_law_206 : decode code 206 = .ok (.iload 4, 2) := by decide +kernel
theorem dd_L_law_208 : decode code 208 = .ok (.iconst 4, 1) := by decide +kernel
theorem dd_L_law_209 : decode code 209 = .ok (.iadd, 1) := by decide +kernel
theorem dd_L_law_210 : decode code 210 = .ok (.iaload, 1) := by decide +kernel
theorem dd_L_law_211 : decode code 211 = .ok (.i2l, 1) := by decide +kernel
theorem dd_L_law_212 : decode code 212 = .ok (.ldc2_w 35, 3) := by decide +kernel
theorem dd_L_law_215 : decode code 215 = .ok (.land, 1) := by decide +kernel
theorem dd_L_law_216 : decode code 216 = .ok (.lor, 1) := by decide +kernel
theorem dd_L_law_217 : decode code 217 = .ok (.invokevirtual 37, 3) := by decide +kernel
theorem dd_L_law_220 : decode code 220 = .ok (.aload_n 2, 1) := by decide +kernel
theorem dd_L_law_221 : decode code 221 = .ok (.aload_n 0, 1) := by decide +kernel
theorem dd_L_law_222 : decode code 222 = .ok (.iload 4, 2) := by decide +kernel
theorem dd_L_law_224 : decode code 224 = .ok (.iconst 1, 1) := by decide +kernel
theorem dd_L_law_225 : decode code 225 = .ok (.iadd, 1) := by decide +kernel
theorem dd_L_law_226 : decode code 226 = .ok (.iaload, 1) := by decide +kernel
theorem dd_L_law_227 : decode code 227 = .ok (.aload_n 0, 1) := by decide +kernel
theorem dd_L_law_228 : decode code 228 = .ok (.iload 4, 2) := by decide +kernel
theorem dd_L_law_230 : decode code 230 = .ok (.iconst 2, 1) := by decide +kernel
theorem dd_L_law_231 : decode code 231 = .ok (.iadd, 1) := by decide +kernel
theorem dd_L_law_232 : decode code 232 = .ok (.iaload, 1) := by decide +kernel
theorem dd_L_law_233 : decode code 233 = .ok (.aload_n 0, 1) := by decide +kernel
theorem dd_L_law_234 : decode code 234 = .ok (.iload 4, 2) := by decide +kernel
theorem dd_L_law_236 : decode code 236 = .ok (.iconst 3, 1) := by decide +kernel
theorem dd_L_law_237 : decode code 237 = .ok (.iadd, 1) := by decide +kernel
theorem dd_L_law_238 : decode code 238 = .ok (.iaload, 1) := by decide +kernel
theorem dd_L_law_239 : decode code 239 = .ok (.i2l, 1) := by decide +kernel
theorem dd_L_law_240 : decode code 240 = .ok (.bipush 32, 2) := by decide +kernel
theorem dd_L_law_242 : decode code 242 = .ok (.lshl, 1) := by decide +kernel
theorem dd_L_law_243 : decode code 243 = .ok (.aload_n 0, 1) := by decide +kernel
theorem dd_L_law_244 : decode code 244 = .ok (.iload 4, 2) := by decide +kernel
theorem dd_L_law_246 : decode code 246 = .ok (.iconst 4, 1) := by decide +kernel
theorem dd_L_law_247 : decode code 247 = .ok (.iadd, 1) := by decide +kernel
theorem dd_L_law_248 : decode code 248 = .ok (.iaload, 1) := by decide +kernel
theorem dd_L_law_249 : decode code 249 = .ok (.i2l, 1) := by decide +kernel
theorem dd_L_law_250 : decode code 250 = .ok (.ldc2_w 35, 3) := by decide +kernel
theorem dd_L_law_253 : decode code 253 = .ok (.land, 1) := by decide +kernel
theorem dd_L_law_254 : decode code 254 = .ok (.lor, 1) := by decide +kernel
theorem dd_L_law_255 : decode code 255 = .ok (.invokevirtual 41, 3) := by decide +kernel
theorem dd_L_law_258 : decode code 258 = .ok (.if_icmp .eq 352, 3) := by decide +kernel
theorem dd_L_law_261 : decode code 261 = .ok (.iconst 0, 1) := by decide +kernel
theorem dd_L_law_262 : decode code 262 = .ok (.ireturn, 1) := by decide +kernel
theorem dd_L_law_263 : decode code 263 = .ok (.aload_n 1, 1) := by decide +kernel
theorem dd_L_law_264 : decode code 264 = .ok (.aload_n 0, 1) := by decide +kernel
theorem dd_L_law_265 : decode code 265 = .ok (.iload 4, 2) := by decide +kernel
theorem dd_L_law_267 : decode code 267 = .ok (.iconst 1, 1) := by decide +kernel
theorem dd_L_law_268 : decode code 268 = .ok (.iadd, 1) := by decide +kernel
theorem dd_L_law_269 : decode code 269 = .ok (.iaload, 1) := by decide +kernel
theorem dd_L_law_270 : decode code 270 = .ok (.aload_n 0, 1) := by decide +kernel
theorem dd_L_law_271 : decode code 271 = .ok (.iload 4, 2) := by decide +kernel
theorem dd_L_law_273 : decode code 273 = .ok (.iconst 2, 1) := by decide +kernel
theorem dd_L_law_274 : decode code 274 = .ok (.iadd, 1) := by decide +kernel
theorem dd_L_law_275 : decode code 275 = .ok (.iaload, 1) := by decide +kernel
theorem dd_L_law_276 : decode code 276 = .ok (.aload_n 3, 1) := by decide +kernel
theorem dd_L_law_277 : decode code 277 = .ok (.invokestatic 42, 3) := by decide +kernel
theorem dd_L_law_280 : decode code 280 = .ok (.istore 5, 2) := by decide +kernel
theorem dd_L_law_282 : decode code 282 = .ok (.aload_n 2, 1) := by decide +kernel
theorem dd_L_law_283 : decode code 283 = .ok (.aload_n 0, 1) := by decide +kernel
theorem dd_L_law_284 : decode code 284 = .ok (.iload 4, 2) := by decide +kernel
theorem dd_L_law_286 : decode code 286 = .ok (.iconst 1, 1) := by decide +kernel
theorem dd_L_law_287 : decode code 287 = .ok (.iadd, 1) := by decide +kernel
theorem dd_L_law_288 : decode code 288 = .ok (.iaload, 1) := by decide +kernel
theorem dd_L_law_289 : decode code 289 = .ok (.aload_n 0, 1) := by decide +kernel
theorem dd_L_law_290 : decode code 290 = .ok (.iload 4, 2) := by decide +kernel
theorem dd_L_law_292 : decode code 292 = .ok (.iconst 2, 1) := by decide +kernel
theorem dd_L_law_293 : decode code 293 = .ok (.iadd, 1) := by decide +kernel
theorem dd_L_law_294 : decode code 294 = .ok (.iaload, 1) := by decide +kernel
theorem dd_L_law_295 : decode code 295 = .ok (.invokevirtual 47, 3) := by decide +kernel
theorem dd_L_law_298 : decode code 298 = .ok (.lstore 6, 2) := by decide +kernel
theorem dd_L_law_300 : decode code 300 = .ok (.aload_n 2, 1) := by decide +kernel
theorem dd_L_law_301 : decode code 301 = .ok (.invokevirtual 48, 3) := by decide +kernel
theorem dd_L_law_304 : decode code 304 = .ok (.iload 5, 2) := by decide +kernel
theorem dd_L_law_306 : decode code 306 = .ok (.if_icmp .eq 5, 3) := by decide +kernel
theorem dd_L_law_309 : decode code 309 = .ok (.iconst 0, 1) := by decide +kernel
theorem dd_L_law_310 : decode code 310 = .ok (.ireturn, 1) := by decide +kernel
theorem dd_L_law_311 : decode code 311 = .ok (.iload 5, 2) := by decide +kernel
theorem dd_L_law_313 : decode code 313 = .ok (.ifCond .ne 14, 3) := by decide +kernel
theorem dd_L_law_316 : decode code 316 = .ok (.aload_n 3, 1) := by decide +kernel
theorem dd_L_law_317 : decode code 317 = .ok (.iconst 0, 1) := by decide +kernel
theorem dd_L_law_318 : decode code 318 = .ok (.laload, 1) := by decide +kernel
theorem dd_L_law_319 : decode code 319 = .ok (.lload 6, 2) := by decide +kernel
theorem dd_L_law_321 : decode code 321 = .ok (.lcmp, 1) := by decide +kernel
theorem dd_L_law_322 : decode code 322 = .ok (.ifCond .eq 5, 3) := by decide +kernel
theorem dd_L_law_325 : decode code 325 = .ok (.iconst 0, 1) := by decide +kernel
theorem dd_L_law_326 : decode code 326 = .ok (.ireturn, 1) := by decide +kernel
theorem dd_L_law_327 : decode code 327 = .ok (.goto 283, 3) := by decide +kernel
theorem dd_L_law_330 : decode code 330 = .ok (.aload_n 1, 1) := by decide +kernel
theorem dd_L_law_331 : decode code 331 = .ok (.aload_n 0, 1) := by decide +kernel
theorem dd_L_law_332 : decode code 332 = .ok (.iload 4, 2) := by decide +kernel
theorem dd_L_law_334 : decode code 334 = .ok (.iconst 1, 1) := by decide +kernel
theorem dd_L_law_335 : decode code 335 = .ok (.iadd, 1) := by decide +kernel
theorem dd_L_law_336 : decode code 336 = .ok (.iaload, 1) := by decide +kernel
theorem dd_L_law_337 : decode code 337 = .ok (.invokevirtual 52, 3) := by decide +kernel
theorem dd_L_law_340 : decode code 340 = .ok (.aload_n 2, 1) := by decide +kernel
theorem dd_L_law_341 : decode code 341 = .ok (.aload_n 0, 1) := by decide +kernel
theorem dd_L_law_342 : decode code 342 = .ok (.iload 4, 2) := by decide +kernel
theorem dd_L_law_344 : decode code 344 = .ok (.iconst 1, 1) := by decide +kernel
theorem dd_L_law_345 : decode code 345 = .ok (.iadd, 1) := by decide +kernel
theorem dd_L_law_346 : decode code 346 = .ok (.iaload, 1) := by decide +kernel
theorem dd_L_law_347 : decode code 347 = .ok (.invokevirtual 55, 3) := by decide +kernel
theorem dd_L_law_350 : decode code 350 = .ok (.if_icmp .eq 260, 3) := by decide +kernel
theorem dd_L_law_353 : decode code 353 = .ok (.iconst 0, 1) := by decide +kernel
theorem dd_L_law_354 : decode code 354 = .ok (.ireturn, 1) := by decide +kernel
theorem dd_L_law_355 : decode code 355 = .ok (.aload_n 1, 1) := by decide +kernel
theorem dd_L_law_356 : decode code 356 = .ok (.aload_n 0, 1) := by decide +kernel
theorem dd_L_law_357 : decode code 357 = .ok (.iload 4, 2) := by decide +kernel
theorem dd_L_law_359 : decode code 359 = .ok (.iconst 1, 1) := by decide +kernel
theorem dd_L_law_360 : decode code 360 = .ok (.iadd, 1) := by decide +kernel
theorem dd_L_law_361 : decode code 361 = .ok (.iaload, 1) := by decide +kernel
theorem dd_L_law_362 : decode code 362 = .ok (.invokevirtual 56, 3) := by decide +kernel
theorem dd_L_law_365 : decode code 365 = .ok (.aload_n 2, 1) := by decide +kernel
theorem dd_L_law_366 : decode code 366 = .ok (.aload_n 0, 1) := by decide +kernel
theorem dd_L_law_367 : decode code 367 = .ok (.iload 4, 2) := by decide +kernel
theorem dd_L_law_369 : decode code 369 = .ok (.iconst 1, 1) := by decide +kernel
theorem dd_L_law_370 : decode code 370 = .ok (.iadd, 1) := by decide +kernel
theorem dd_L_law_371 : decode code 371 = .ok (.iaload, 1) := by decide +kernel
theorem dd_L_law_372 : decode code 372 = .ok (.invokevirtual 59, 3) := by decide +kernel
theorem dd_L_law_375 : decode code 375 = .ok (.if_icmp .eq 235, 3) := by decide +kernel
theorem dd_L_law_378 : decode code 378 = .ok (.iconst 0, 1) := by decide +kernel
theorem dd_L_law_379 : decode code 379 = .ok (.ireturn, 1) := by decide +kernel
theorem dd_L_law_380 : decode code 380 = .ok (.aload_n 1, 1) := by decide +kernel
theorem dd_L_law_381 : decode code 381 = .ok (.aload_n 0, 1) := by decide +kernel
theorem dd_L_law_382 : decode code 382 = .ok (.iload 4, 2) := by decide +kernel
theorem dd_L_law_384 : decode code 384 = .ok (.iconst 1, 1) := by decide +kernel
theorem dd_L_law_385 : decode code 385 = .ok (.iadd, 1) := by decide +kernel
theorem dd_L_law_386 : decode code 386 = .ok (.iaload, 1) := by decide +kernel
theorem dd_L_law_387 : decode code 387 = .ok (.invokevirtual 60, 3) := by decide +kernel
theorem dd_L_law_390 : decode code 390 = .ok (.aload_n 2, 1) := by decide +kernel
theorem dd_L_law_391 : decode code 391 = .ok (.aload_n 0, 1) := by decide +kernel
theorem dd_L_law_392 : decode code 392 = .ok (.iload 4, 2) := by decide +kernel
theorem dd_L_law_394 : decode code 394 = .ok (.iconst 1, 1) := by decide +kernel
theorem dd_L_law_395 : decode code 395 = .ok (.iadd, 1) := by decide +kernel
theorem dd_L_law_396 : decode code 396 = .ok (.iaload, 1) := by decide +kernel
theorem dd_L_law_397 : decode code 397 = .ok (.invokevirtual 63, 3) := by decide +kernel
theorem dd_L_law_400 : decode code 400 = .ok (.if_icmp .eq 210, 3) := by decide +kernel
theorem dd_L_law_403 : decode code 403 = .ok (.iconst 0, 1) := by decide +kernel
theorem dd_L_law_404 : decode code 404 = .ok (.ireturn, 1) := by decide +kernel
theorem dd_L_law_405 : decode code 405 = .ok (.aload_n 1, 1) := by decide +kernel
theorem dd_L_law_406 : decode code 406 = .ok (.aload_n 0, 1) := by decide +kernel
theorem dd_L_law_407 : decode code 407 = .ok (.iload 4, 2) := by decide +kernel
theorem dd_L_law_409 : decode code 409 = .ok (.iconst 1, 1) := by decide +kernel
theorem dd_L_law_410 : decode code 410 = .ok (.iadd, 1) := by decide +kernel
theorem dd_L_law_411 : decode code 411 = .ok (.iaload, 1) := by decide +kernel
theorem dd_L_law_412 : decode code 412 = .ok (.invokevirtual 64, 3) := by decide +kernel
theorem dd_L_law_415 : decode code 415 = .ok (.aload_n 2, 1) := by decide +kernel
theorem dd_L_law_416 : decode code 416 = .ok (.aload_n 0, 1) := by decide +kernel
theorem dd_L_law_417 : decode code 417 = .ok (.iload 4, 2) := by decide +kernel
theorem dd_L_law_419 : decode code 419 = .ok (.iconst 1, 1) := by decide +kernel
theorem dd_L_law_420 : decode code 420 = .ok (.iadd, 1) := by decide +kernel
theorem dd_L_law_421 : decode code 421 = .ok (.iaload, 1) := by decide +kernel
theorem dd_L_law_422 : decode code 422 = .ok (.invokevirtual 67, 3) := by decide +kernel
theorem dd_L_law_425 : decode code 425 = .ok (.if_icmp .eq 185, 3) := by decide +kernel
theorem dd_L_law_428 : decode code 428 = .ok (.iconst 0, 1) := by decide +kernel
theorem dd_L_law_429 : decode code 429 = .ok (.ireturn, 1) := by decide +kernel
theorem dd_L_law_430 : decode code 430 = .ok (.aload_n 1, 1) := by decide +kernel
theorem dd_L_law_431 : decode code 431 = .ok (.aload_n 0, 1) := by decide +kernel
theorem dd_L_law_432 : decode code 432 = .ok (.iload 4, 2) := by decide +kernel
theorem dd_L_law_434 : decode code 434 = .ok (.iconst 1, 1) := by decide +kernel
theorem dd_L_law_435 : decode code 435 = .ok (.iadd, 1) := by decide +kernel
theorem dd_L_law_436 : decode code 436 = .ok (.iaload, 1) := by decide +kernel
theorem dd_L_law_437 : decode code 437 = .ok (.invokevirtual 68, 3) := by decide +kernel
theorem dd_L_law_440 : decode code 440 = .ok (.aload_n 2, 1) := by decide +kernel
theorem dd_L_law_441 : decode code 441 = .ok (.aload_n 0, 1) := by decide +kernel
theorem dd_L_law_442 : decode code 442 = .ok (.iload 4, 2) := by decide +kernel
theorem dd_L_law_444 : decode code 444 = .ok (.iconst 1, 1) := by decide +kernel
theorem dd_L_law_445 : decode code 445 = .ok (.iadd, 1) := by decide +kernel
theorem dd_L_law_446 : decode code 446 = .ok (.iaload, 1) := by decide +kernel
theorem dd_L_law_447 : decode code 447 = .ok (.invokevirtual 71, 3) := by decide +kernel
theorem dd_L_law_450 : decode code 450 = .ok (.if_icmp .eq 160, 3) := by decide +kernel
theorem dd_L_law_453 : decode code 453 = .ok (.iconst 0, 1) := by decide +kernel
theorem dd_L_law_454 : decode code 454 = .ok (.ireturn, 1) := by decide +kernel
theorem dd_L_law_455 : decode code 455 = .ok (.aload_n 1, 1) := by decide +kernel
theorem dd_L_law_456 : decode code 456 = .ok (.aload_n 0, 1) := by decide +kernel
theorem dd_L_law_457 : decode code 457 = .ok (.iload 4, 2) := by decide +kernel
theorem dd_L_law_459 : decode code 459 = .ok (.iconst 1, 1) := by decide +kernel
theorem dd_L_law_460 : decode code 460 = .ok (.iadd, 1) := by decide +kernel
theorem dd_L_law_461 : decode code 461 = .ok (.iaload, 1) := by decide +kernel
theorem dd_L_law_462 : decode code 462 = .ok (.invokevirtual 72, 3) := by decide +kernel
theorem dd_L_law_465 : decode code 465 = .ok (.aload_n 2, 1) := by decide +kernel
theorem dd_L_law_466 : decode code 466 = .ok (.aload_n 0, 1) := by decide +kernel
theorem dd_L_law_467 : decode code 467 = .ok (.iload 4, 2) := by decide +kernel
theorem dd_L_law_469 : decode code 469 = .ok (.iconst 1, 1) := by decide +kernel
theorem dd_L_law_470 : decode code 470 = .ok (.iadd, 1) := by decide +kernel
theorem dd_L_law_471 : decode code 471 = .ok (.iaload, 1) := by decide +kernel
theorem dd_L_law_472 : decode code 472 = .ok (.invokevirtual 75, 3) := by decide +kernel
theorem dd_L_law_475 : decode code 475 = .ok (.if_icmp .eq 135, 3) := by decide +kernel
theorem dd_L_law_478 : decode code 478 = .ok (.iconst 0, 1) := by decide +kernel
theorem dd_L_law_479 : decode code 479 = .ok (.ireturn, 1) := by decide +kernel
theorem dd_L_law_480 : decode code 480 = .ok (.aload_n 1, 1) := by decide +kernel
theorem dd_L_law_481 : decode code 481 = .ok (.aload_n 0, 1) := by decide +kernel
theorem dd_L_law_482 : decode code 482 = .ok (.iload 4, 2) := by decide +kernel
theorem dd_L_law_484 : decode code 484 = .ok (.iconst 1, 1) := by decide +kernel
theorem dd_L_law_485 : decode code 485 = .ok (.iadd, 1) := by decide +kernel
theorem dd_L_law_486 : decode code 486 = .ok (.iaload, 1) := by decide +kernel
theorem dd_L_law_487 : decode code 487 = .ok (.invokevirtual 76, 3) := by decide +kernel
theorem dd_L_law_490 : decode code 490 = .ok (.aload_n 2, 1) := by decide +kernel
theorem dd_L_law_491 : decode code 491 = .ok (.aload_n 0, 1) := by decide +kernel
theorem dd_L_law_492 : decode code 492 = .ok (.iload 4, 2) := by decide +kernel
theorem dd_L_law_494 : decode code 494 = .ok (.iconst 1, 1) := by decide +kernel
theorem dd_L_law_495 : decode code 495 = .ok (.iadd, 1) := by decide +kernel
theorem dd_L_law_496 : decode code 496 = .ok (.iaload, 1) := by decide +kernel
theorem dd_L_law_497 : decode code 497 = .ok (.invokevirtual 79, 3) := by decide +kernel
theorem dd_L_law_500 : decode code 500 = .ok (.if_icmp .eq 110, 3) := by decide +kernel
theorem dd_L_law_503 : decode code 503 = .ok (.iconst 0, 1) := by decide +kernel
theorem dd_L_law_504 : decode code 504 = .ok (.ireturn, 1) := by decide +kernel
theorem dd_L_law_505 : decode code 505 = .ok (.aload_n 1, 1) := by decide +kernel
theorem dd_L_law_506 : decode code 506 = .ok (.invokevirtual 80, 3) := by decide +kernel
theorem dd_L_law_509 : decode code 509 = .ok (.aload_n 2, 1) := by decide +kernel
theorem dd_L_law_510 : decode code 510 = .ok (.invokevirtual 84, 3) := by decide +kernel
theorem dd_L_law_513 : decode code 513 = .ok (.if_icmp .eq 97, 3) := by decide +kernel
theorem dd_L_law_516 : decode code 516 = .ok (.iconst 0, 1) := by decide +kernel
theorem dd_L_law_517 : decode code 517 = .ok (.ireturn, 1) := by decide +kernel
theorem dd_L_law_518 : decode code 518 = .ok (.aload_n 1, 1) := by decide +kernel
theorem dd_L_law_519 : decode code 519 = .ok (.aload_n 0, 1) := by decide +kernel
theorem dd_L_law_520 : decode code 520 = .ok (.iload 4, 2) := by decide +kernel
theorem dd_L_law_522 : decode code 522 = .ok (.iconst 1, 1) := by decide +kernel
theorem dd_L_law_523 : decode code 523 = .ok (.iadd, 1) := by decide +kernel
theorem dd_L_law_524 : decode code 524 = .ok (.iaload, 1) := by decide +kernel
theorem dd_L_law_525 : decode code 525 = .ok (.aload_n 3, 1) := by decide +kernel
theorem dd_L_law_526 : decode code 526 = .ok (.invokestatic 85, 3) := by decide +kernel
theorem dd_L_law_529 : decode code 529 = .ok (.istore 5, 2) := by decide +kernel
theorem dd_L_law_531 : decode code 531 = .ok (.aload_n 2, 1) := by decide +kernel
theorem dd_L_law_532 : decode code 532 = .ok (.aload_n 0, 1) := by decide +kernel
theorem dd_L_law_533 : decode code 533 = .ok (.iload 4, 2) := by decide +kernel
theorem dd_L_law_535 : decode code 535 = .ok (.iconst 1, 1) := by decide +kernel
theorem dd_L_law_536 : decode code 536 = .ok (.iadd, 1) := by decide +kernel
theorem dd_L_law_537 : decode code 537 = .ok (.iaload, 1) := by decide +kernel
theorem dd_L_law_538 : decode code 538 = .ok (.invokevirtual 88, 3) := by decide +kernel
theorem dd_L_law_541 : decode code 541 = .ok (.lstore 6, 2) := by decide +kernel
theorem dd_L_law_543 : decode code 543 = .ok (.aload_n 2, 1) := by decide +kernel
theorem dd_L_law_544 : decode code 544 = .ok (.invokevirtual 48, 3) := by decide +kernel
theorem dd_L_law_547 : decode code 547 = .ok (.iload 5, 2) := by decide +kernel
theorem dd_L_law_549 : decode code 549 = .ok (.if_icmp .eq 5, 3) := by decide +kernel
theorem dd_L_law_552 : decode code 552 = .ok (.iconst 0, 1) := by decide +kernel
theorem dd_L_law_553 : decode code 553 = .ok (.ireturn, 1) := by decide +kernel
theorem dd_L_law_554 : decode code 554 = .ok (.iload 5, 2) := by decide +kernel
theorem dd_L_law_556 : decode code 556 = .ok (.ifCond .ne 14, 3) := by decide +kernel
theorem dd_L_law_559 : decode code 559 = .ok (.aload_n 3, 1) := by decide +kernel
theorem dd_L_law_560 : decode code 560 = .ok (.iconst 0, 1) := by decide +kernel
theorem dd_L_law_561 : decode code 561 = .ok (.laload, 1) := by decide +kernel
theorem dd_L_law_562 : decode code 562 = .ok (.lload 6, 2) := by decide +kernel
theorem dd_L_law_564 : decode code 564 = .ok (.lcmp, 1) := by decide +kernel
theorem dd_L_law_565 : decode code 565 = .ok (.ifCond .eq 5, 3) := by decide +kernel
theorem dd_L_law_568 : decode code 568 = .ok (.iconst 0, 1) := by decide +kernel
theorem dd_L_law_569 : decode code 569 = .ok (.ireturn, 1) := by decide +kernel
theorem dd_L_law_570 : decode code 570 = .ok (.goto 40, 3) := by decide +kernel
theorem dd_L_law_573 : decode code 573 = .ok (.aload_n 1, 1) := by decide +kernel
theorem dd_L_law_574 : decode code 574 = .ok (.aload_n 0, 1) := by decide +kernel
theorem dd_L_law_575 : decode code 575 = .ok (.iload 4, 2) := by decide +kernel
theorem dd_L_law_577 : decode code 577 = .ok (.iconst 1, 1) := by decide +kernel
theorem dd_L_law_578 : decode code 578 = .ok (.iadd, 1) := by decide +kernel
theorem dd_L_law_579 : decode code 579 = .ok (.iaload, 1) := by decide +kernel
theorem dd_L_law_580 : decode code 580 = .ok (.aload_n 0, 1) := by decide +kernel
theorem dd_L_law_581 : decode code 581 = .ok (.iload 4, 2) := by decide +kernel
theorem dd_L_law_583 : decode code 583 = .ok (.iconst 2, 1) := by decide +kernel
theorem dd_L_law_584 : decode code 584 = .ok (.iadd, 1) := by decide +kernel
theorem dd_L_law_585 : decode code 585 = .ok (.iaload, 1) := by decide +kernel
theorem dd_L_law_586 : decode code 586 = .ok (.invokevirtual 89, 3) := by decide +kernel
theorem dd_L_law_589 : decode code 589 = .ok (.aload_n 2, 1) := by decide +kernel
theorem dd_L_law_590 : decode code 590 = .ok (.aload_n 0, 1) := by decide +kernel
theorem dd_L_law_591 : decode code 591 = .ok (.iload 4, 2) := by decide +kernel
theorem dd_L_law_593 : decode code 593 = .ok (.iconst 1, 1) := by decide +kernel
theorem dd_L_law_594 : decode code 594 = .ok (.iadd, 1) := by decide +kernel
theorem dd_L_law_595 : decode code 595 = .ok (.iaload, 1) := by decide +kernel
theorem dd_L_law_596 : decode code 596 = .ok (.aload_n 0, 1) := by decide +kernel
theorem dd_L_law_597 : decode code 597 = .ok (.iload 4, 2) := by decide +kernel
theorem dd_L_law_599 : decode code 599 = .ok (.iconst 2, 1) := by decide +kernel
theorem dd_L_law_600 : decode code 600 = .ok (.iadd, 1) := by decide +kernel
theorem dd_L_law_601 : decode code 601 = .ok (.iaload, 1) := by decide +kernel
theorem dd_L_law_602 : decode code 602 = .ok (.invokevirtual 93, 3) := by decide +kernel
theorem dd_L_law_605 : decode code 605 = .ok (.if_icmp .eq 5, 3) := by decide +kernel
theorem dd_L_law_608 : decode code 608 = .ok (.iconst 0, 1) := by decide +kernel
theorem dd_L_law_609 : decode code 609 = .ok (.ireturn, 1) := by decide +kernel
theorem dd_L_law_610 : decode code 610 = .ok (.iinc 4 5, 3) := by decide +kernel
theorem dd_L_law_613 : decode code 613 = .ok (.goto (-590), 3) := by decide +kernel
theorem dd_L_law_616 : decode code 616 = .ok (.iconst 1, 1) := by decide +kernel
theorem dd_L_law_617 : decode code 617 = .ok (.ireturn, 1) := by decide +kernel
def wp_L_law_610 (g : Gm) (L : Nat) (xs : Nat → Int32) (mc ms : Nat) (K23 : Hp → Nat → Nat → Nat → Nat → Nat → Int32 → Prop) (h : Hp) (kc ks : Nat) (v1 : Nat) (v2 : Nat) (v3 : Nat) (v4 : Int32) : Prop := ∀ x1 : Int32, x1 = v4 + 5 → K23 h kc ks v1 v2 v3 x1
set_option maxHeartbeats 4000000 in
set_option maxRecDepth 100000 in
theorem wk_L_law_610 {p : Program} {l : Launch} {e : Env} {s : State} {m : MethodId} {args : Array Value} {below : List Frame} {meth : Method} {c : Code} {g : Gm} {b L : Nat} {xs : Nat → Int32} {mc ms : Nat} (C0 : Cx g p s m args c code 8 "SegmentLocksLaw") (hfl : l.flags = pinnedFlags ++ [noTraceFlag]) (hr : meth.sig.returnType = some .boolean) (hlk : meth.locks = false) (hsz : s.heap.size ≤ g.2.2 0) (hX : va_X b L xs s s.heap) (hbl : b < s.heap.size) (hbA : ¬ gA g b) {K23 : Hp → Nat → Nat → Nat → Nat → Nat → Int32 → Prop} (hK23 : ∀ (h : Hp) (kc ks : Nat) (v1 : Nat) (v2 : Nat) (v3 : Nat) (v4 : Int32) (H : Heap) (locs : List Loc) (ls : Array Slot), K23 h kc ks v1 v2 v3 v4 → GH g h H → va_S (gA g) s.heap H locs → kc ≤ mc ∧ ks ≤ ms → lv_has ls 8 [(0, .ref b), (1, .ref v1), (2, .ref v2), (3, .ref v3), (4, .int v4)] → W p l e (rmm 14 558 mc ms) s m args below meth c H locs kc ks (MQ below lawQ args s mc ms (fun _ => False)) (F0 m 23 ls [])) : ∀ (h : Hp) (kc ks : Nat) (v1 : Nat) (v2 : Nat) (v3 : Nat) (v4 : Int32) (H : Heap) (locs : List Loc) (ls : Array Slot), wp_L_law_610 g L xs mc ms K23 h kc ks v1 v2 v3 v4 → GH g h H → va_S (gA g) s.heap H locs → kc ≤ mc ∧ ks ≤ ms → lv_has ls 8 [(0, .ref b), (1, .ref v1), (2, .ref v2), (3, .ref v3), (4, .int v4)] → W p l e (rmm 14 558 mc ms) s m args below meth c H locs kc ks (MQ below lawQ args s mc ms (fun _ => False)) (F0 m 610 ls []) := by
  obtain ⟨hx, hb, -, hown, hts, hgk⟩ := id C0
  intro h kc ks v1 v2 v3 v4 H locs ls hw hG hS hkc hl
  unfold wp_L_law_610 at hw
  obtain ⟨x1, ex1⟩ : ∃ y : Int32, y = v4 + 5 := ⟨_, rfl⟩
  replace hw := hw x1 ex1
  have hl0 := hl
  clear hl
  refine lv_iinc (v := x1) (lv' := [(4, .int x1), (0, .ref b), (1, .ref v1), (2, .ref v2), (3, .ref v3)]) hx hb dd_L_law_610 hl0 (k := 4) rfl (by rw [ex1]; rfl) (by decide) rfl (fun ls hl => ?_)
  refine lv_goto (tgt := 23) hx hb dd_L_law_613 (by decide) ?_
  exact hK23 _ _ _ _ _ _ _ _ _ _ hw hG hS hkc (lv_sub hl [1, 2, 3, 4, 0] rfl)
def wp_L_law_327 (g : Gm) (L : Nat) (xs : Nat → Int32) (mc ms : Nat) (K23 : Hp → Nat → Nat → Nat → Nat → Nat → Int32 → Prop) (h : Hp) (kc ks : Nat) (v1 : Nat) (v2 : Nat) (v3 : Nat) (v4 : Int32) : Prop := wp_L_law_610 g L xs mc ms K23 h kc ks v1 v2 v3 v4
set_option maxHeartbeats 4000000 in
set_option maxRecDepth 100000 in
theorem wk_L_law_327 {p : Program} {l : Launch} {e : Env} {s : State} {m : MethodId} {args : Array Value} {below : List Frame} {meth : Method} {c : Code} {g : Gm} {b L : Nat} {xs : Nat → Int32} {mc ms : Nat} (C0 : Cx g p s m args c code 8 "SegmentLocksLaw") (hfl : l.flags = pinnedFlags ++ [noTraceFlag]) (hr : meth.sig.returnType = some .boolean) (hlk : meth.locks = false) (hsz : s.heap.size ≤ g.2.2 0) (hX : va_X b L xs s s.heap) (hbl : b < s.heap.size) (hbA : ¬ gA g b) {K23 : Hp → Nat → Nat → Nat → Nat → Nat → Int32 → Prop} (hK23 : ∀ (h : Hp) (kc ks : Nat) (v1 : Nat) (v2 : Nat) (v3 : Nat) (v4 : Int32) (H : Heap) (locs : List Loc) (ls : Array Slot), K23 h kc ks v1 v2 v3 v4 → GH g h H → va_S (gA g) s.heap H locs → kc ≤ mc ∧ ks ≤ ms → lv_has ls 8 [(0, .ref b), (1, .ref v1), (2, .ref v2), (3, .ref v3), (4, .int v4)] → W p l e (rmm 14 558 mc ms) s m args below meth c H locs kc ks (MQ below lawQ args s mc ms (fun _ => False)) (F0 m 23 ls [])) : ∀ (h : Hp) (kc ks : Nat) (v1 : Nat) (v2 : Nat) (v3 : Nat) (v4 : Int32) (H : Heap) (locs : List Loc) (ls : Array Slot), wp_L_law_327 g L xs mc ms K23 h kc ks v1 v2 v3 v4 → GH g h H → va_S (gA g) s.heap H locs → kc ≤ mc ∧ ks ≤ ms → lv_has ls 8 [(0, .ref b), (1, .ref v1), (2, .ref v2), (3, .ref v3), (4, .int v4)] → W p l e (rmm 14 558 mc ms) s m args below meth c H locs kc ks (MQ below lawQ args s mc ms (fun _ => False)) (F0 m 327 ls []) := by
  obtain ⟨hx, hb, -, hown, hts, hgk⟩ := id C0
  intro h kc ks v1 v2 v3 v4 H locs ls hw hG hS hkc hl
  unfold wp_L_law_327 at hw
  refine lv_goto (tgt := 610) hx hb dd_L_law_327 (by decide) ?_
  exact wk_L_law_610 C0 hfl hr hlk hsz hX hbl hbA hK23 _ _ _ _ _ _ _ _ _ _ hw hG hS hkc (lv_sub hl [0, 1, 2, 3, 4] rfl)
def wp_L_law_570 (g : Gm) (L : Nat) (xs : Nat → Int32) (mc ms : Nat) (K23 : Hp → Nat → Nat → Nat → Nat → Nat → Int32 → Prop) (h : Hp) (kc ks : Nat) (v1 : Nat) (v2 : Nat) (v3 : Nat) (v4 : Int32) : Prop := wp_L_law_610 g L xs mc ms K23 h kc ks v1 v2 v3 v4
set_option maxHeartbeats 4000000 in
set_option maxRecDepth 100000 in
theorem wk_L_law_570 {p : Program} {l : Launch} {e : Env} {s : State} {m : MethodId} {args : Array Value} {below : List Frame} {meth : Method} {c : Code} {g : Gm} {b L : Nat} {xs : Nat → Int32} {mc ms : Nat} (C0 : Cx g p s m args c code 8 "SegmentLocksLaw") (hfl : l.flags = pinnedFlags ++ [noTraceFlag]) (hr : meth.sig.returnType = some .boolean) (hlk : meth.locks = false) (hsz : s.heap.size ≤ g.2.2 0) (hX : va_X b L xs s s.heap) (hbl : b < s.heap.size) (hbA : ¬ gA g b) {K23 : Hp → Nat → Nat → Nat → Nat → Nat → Int32 → Prop} (hK23 : ∀ (h : Hp) (kc ks : Nat) (v1 : Nat) (v2 : Nat) (v3 : Nat) (v4 : Int32) (H : Heap) (locs : List Loc) (ls : Array Slot), K23 h kc ks v1 v2 v3 v4 → GH g h H → va_S (gA g) s.heap H locs → kc ≤ mc ∧ ks ≤ ms → lv_has ls 8 [(0, .ref b), (1, .ref v1), (2, .ref v2), (3, .ref v3), (4, .int v4)] → W p l e (rmm 14 558 mc ms) s m args below meth c H locs kc ks (MQ below lawQ args s mc ms (fun _ => False)) (F0 m 23 ls [])) : ∀ (h : Hp) (kc ks : Nat) (v1 : Nat) (v2 : Nat) (v3 : Nat) (v4 : Int32) (H : Heap) (locs : List Loc) (ls : Array Slot), wp_L_law_570 g L xs mc ms K23 h kc ks v1 v2 v3 v4 → GH g h H → va_S (gA g) s.heap H locs → kc ≤ mc ∧ ks ≤ ms → lv_has ls 8 [(0, .ref b), (1, .ref v1), (2, .ref v2), (3, .ref v3), (4, .int v4)] → W p l e (rmm 14 558 mc ms) s m args below meth c H locs kc ks (MQ below lawQ args s mc ms (fun _ => False)) (F0 m 570 ls []) := by
  obtain ⟨hx, hb, -, hown, hts, hgk⟩ := id C0
  intro h kc ks v1 v2 v3 v4 H locs ls hw hG hS hkc hl
  unfold wp_L_law_570 at hw
  refine lv_goto (tgt := 610) hx hb dd_L_law_570 (by decide) ?_
  exact wk_L_law_610 C0 hfl hr hlk hsz hX hbl hbA hK23 _ _ _ _ _ _ _ _ _ _ hw hG hS hkc (lv_sub hl [0, 1, 2, 3, 4] rfl)
def wp_L_law_23 (g : Gm) (L : Nat) (xs : Nat → Int32) (mc ms : Nat) : Nat → Hp → Nat → Nat → Nat → Nat → Nat → Int32 → Prop
  | 0, _, _, _, _, _, _, _ => False
  | fu + 1, h, kc, ks, v1, v2, v3, v4 => ∀ x1 : Int32, x1 = (nI L) - 5 → ((x1 < v4 → (1 : Int32) = 1) ∧ (¬ x1 < v4 → vp_in v4 L ∧ ∀ x4 : Int32, x4 = xs v4.toNatClampNeg → ∀ x5 : Int32, x5 = x4 &&& 15 → ((x5.toInt < 0 ∨ 13 < x5.toInt → wp_L_law_610 g L xs mc ms (fun h kc ks v1 v2 v3 v4 => wp_L_law_23 g L xs mc ms fu h kc ks v1 v2 v3 v4) h kc ks v1 v2 v3 v4) ∧ (x5.toInt = 0 → ∀ x6 : Int32, x6 = v4 + 1 → vp_in x6 L ∧ ∀ x8 : Int32, x8 = xs x6.toNatClampNeg → hK h v1 = 1 ∧ ∃ mc12 ms13 : Nat, kc + mc12 ≤ mc ∧ ks + ms13 ≤ ms ∧ wp_S_task g (fun x11 h10 => ∀ x14 : Int32, x14 = v4 + 1 → vp_in x14 L ∧ ∀ x16 : Int32, x16 = xs x14.toNatClampNeg → hK h10 v2 = 5 ∧ wp_M_task g (fun x19 h18 => ((x11 = x19 → wp_L_law_610 g L xs mc ms (fun h kc ks v1 v2 v3 v4 => wp_L_law_23 g L xs mc ms fu h kc ks v1 v2 v3 v4) h18 (kc + mc12) (ks + ms13) v1 v2 v3 v4) ∧ (¬ x11 = x19 → (0 : Int32) = 1))) h10 v2 x16) mc12 ms13 h v1 x8) ∧ (x5.toInt = 1 → ∀ x21 : Int32, x21 = v4 + 1 → vp_in x21 L ∧ ∀ x23 : Int32, x23 = xs x21.toNatClampNeg → ∀ x24 : Int32, x24 = v4 + 2 → vp_in x24 L ∧ ∀ x26 : Int32, x26 = xs x24.toNatClampNeg → ∀ x27 : Int32, x27 = v4 + 3 → vp_in x27 L ∧ ∀ x29 : Int32, x29 = xs x27.toNatClampNeg → hK h v1 = 1 ∧ ∃ mc33 ms34 : Nat, kc + mc33 ≤ mc ∧ ks + ms34 ≤ ms ∧ wp_S_ask g (fun x32 h31 => ∀ x35 : Int32, x35 = v4 + 1 → vp_in x35 L ∧ ∀ x37 : Int32, x37 = xs x35.toNatClampNeg → ∀ x38 : Int32, x38 = v4 + 2 → vp_in x38 L ∧ ∀ x40 : Int32, x40 = xs x38.toNatClampNeg → ∀ x41 : Int32, x41 = v4 + 3 → vp_in x41 L ∧ ∀ x43 : Int32, x43 = xs x41.toNatClampNeg → hK h31 v2 = 5 ∧ wp_M_ask g (fun x46 h45 => ((x32 = x46 → wp_L_law_610 g L xs mc ms (fun h kc ks v1 v2 v3 v4 => wp_L_law_23 g L xs mc ms fu h kc ks v1 v2 v3 v4) h45 (kc + mc33) (ks + ms34) v1 v2 v3 v4) ∧ (¬ x32 = x46 → (0 : Int32) = 1))) h31 v2 x37 x40 x43) mc33 ms34 h v1 x23 x26 x29) ∧ (x5.toInt = 2 → ∀ x48 : Int32, x48 = v4 + 1 → vp_in x48 L ∧ ∀ x50 : Int32, x50 = xs x48.toNatClampNeg → ∀ x51 : Int32, x51 = v4 + 2 → vp_in x51 L ∧ ∀ x53 : Int32, x53 = xs x51.toNatClampNeg → ∀ x54 : Int32, x54 = v4 + 3 → vp_in x54 L ∧ ∀ x56 : Int32, x56 = xs x54.toNatClampNeg → ∀ j57 : Int64, j57 = x56.toInt64 → ∀ j58 : Int64, j58 = j57 <<< ((32 : Int32).toInt64 &&& 63) → ∀ x59 : Int32, x59 = v4 + 4 → vp_in x59 L ∧ ∀ x61 : Int32, x61 = xs x59.toNatClampNeg → ∀ j62 : Int64, j62 = x61.toInt64 → ∀ j63 : Int64, j63 = j62 &&& 4294967295 → ∀ j64 : Int64, j64 = j58 ||| j63 → hK h v1 = 1 ∧ wp_S_write g (fun x67 h66 => ∀ x68 : Int32, x68 = v4 + 1 → vp_in x68 L ∧ ∀ x70 : Int32, x70 = xs x68.toNatClampNeg → ∀ x71 : Int32, x71 = v4 + 2 → vp_in x71 L ∧ ∀ x73 : Int32, x73 = xs x71.toNatClampNeg → ∀ x74 : Int32, x74 = v4 + 3 → vp_in x74 L ∧ ∀ x76 : Int32, x76 = xs x74.toNatClampNeg → ∀ j77 : Int64, j77 = x76.toInt64 → ∀ j78 : Int64, j78 = j77 <<< ((32 : Int32).toInt64 &&& 63) → ∀ x79 : Int32, x79 = v4 + 4 → vp_in x79 L ∧ ∀ x81 : Int32, x81 = xs x79.toNatClampNeg → ∀ j82 : Int64, j82 = x81.toInt64 → ∀ j83 : Int64, j83 = j82 &&& 4294967295 → ∀ j84 : Int64, j84 = j78 ||| j83 → hK h66 v2 = 5 ∧ wp_M_write g (fun x87 h86 => ((x67 = x87 → wp_L_law_610 g L xs mc ms (fun h kc ks v1 v2 v3 v4 => wp_L_law_23 g L xs mc ms fu h kc ks v1 v2 v3 v4) h86 kc ks v1 v2 v3 v4) ∧ (¬ x67 = x87 → (0 : Int32) = 1))) h66 v2 x70 x73 j84) h v1 x50 x53 j64) ∧ (x5.toInt = 3 → ∀ x89 : Int32, x89 = v4 + 1 → vp_in x89 L ∧ ∀ x91 : Int32, x91 = xs x89.toNatClampNeg → ∀ x92 : Int32, x92 = v4 + 2 → vp_in x92 L ∧ ∀ x94 : Int32, x94 = xs x92.toNatClampNeg → ∃ mc98 ms99 : Nat, kc + mc98 ≤ mc ∧ ks + ms99 ≤ ms ∧ wp_L_read g (fun x97 h96 => ∀ x100 : Int32, x100 = v4 + 1 → vp_in x100 L ∧ ∀ x102 : Int32, x102 = xs x100.toNatClampNeg → ∀ x103 : Int32, x103 = v4 + 2 → vp_in x103 L ∧ ∀ x105 : Int32, x105 = xs x103.toNatClampNeg → hK h96 v2 = 5 ∧ wp_M_read g (fun j108 h107 => hK h107 v2 = 5 ∧ wp_M_thrown g (fun x111 => ((x111 = x97 → ((¬ x97 = 0 → wp_L_law_327 g L xs mc ms (fun h kc ks v1 v2 v3 v4 => wp_L_law_23 g L xs mc ms fu h kc ks v1 v2 v3 v4) h107 (kc + mc98) (ks + ms99) v1 v2 v3 v4) ∧ (x97 = 0 → hK h107 v3 = 22 ∧ vp_in 0 (hN h107 v3) ∧ (((lg_cmp (hJ h107 v3 (0 : Int32).toNatClampNeg) j108) = 0 → wp_L_law_327 g L xs mc ms (fun h kc ks v1 v2 v3 v4 => wp_L_law_23 g L xs mc ms fu h kc ks v1 v2 v3 v4) h107 (kc + mc98) (ks + ms99) v1 v2 v3 v4) ∧ (¬ (lg_cmp (hJ h107 v3 (0 : Int32).toNatClampNeg) j108) = 0 → (0 : Int32) = 1))))) ∧ (¬ x111 = x97 → (0 : Int32) = 1))) h107 v2) h96 v2 x102 x105) mc98 ms99 h v1 x91 x94 v3) ∧ (x5.toInt = 4 → ∀ x116 : Int32, x116 = v4 + 1 → vp_in x116 L ∧ ∀ x118 : Int32, x118 = xs x116.toNatClampNeg → hK h v1 = 1 ∧ wp_S_sync g (fun x121 h120 => ∀ x122 : Int32, x122 = v4 + 1 → vp_in x122 L ∧ ∀ x124 : Int32, x124 = xs x122.toNatClampNeg → hK h120 v2 = 5 ∧ wp_M_sync g (fun x127 h126 => ((x121 = x127 → wp_L_law_610 g L xs mc ms (fun h kc ks v1 v2 v3 v4 => wp_L_law_23 g L xs mc ms fu h kc ks v1 v2 v3 v4) h126 kc ks v1 v2 v3 v4) ∧ (¬ x121 = x127 → (0 : Int32) = 1))) h120 v2 x124) h v1 x118) ∧ (x5.toInt = 5 → ∀ x129 : Int32, x129 = v4 + 1 → vp_in x129 L ∧ ∀ x131 : Int32, x131 = xs x129.toNatClampNeg → hK h v1 = 1 ∧ wp_S_backout g (fun x134 h133 => ∀ x135 : Int32, x135 = v4 + 1 → vp_in x135 L ∧ ∀ x137 : Int32, x137 = xs x135.toNatClampNeg → hK h133 v2 = 5 ∧ wp_M_backout g (fun x140 h139 => ((x134 = x140 → wp_L_law_610 g L xs mc ms (fun h kc ks v1 v2 v3 v4 => wp_L_law_23 g L xs mc ms fu h kc ks v1 v2 v3 v4) h139 kc ks v1 v2 v3 v4) ∧ (¬ x134 = x140 → (0 : Int32) = 1))) h133 v2 x137) h v1 x131) ∧ (x5.toInt = 6 → ∀ x142 : Int32, x142 = v4 + 1 → vp_in x142 L ∧ ∀ x144 : Int32, x144 = xs x142.toNatClampNeg → hK h v1 = 1 ∧ wp_S_ring g (fun x147 => ∀ x148 : Int32, x148 = v4 + 1 → vp_in x148 L ∧ ∀ x150 : Int32, x150 = xs x148.toNatClampNeg → hK h v2 = 5 ∧ wp_M_ring g (fun x153 h152 => ((x147 = x153 → wp_L_law_610 g L xs mc ms (fun h kc ks v1 v2 v3 v4 => wp_L_law_23 g L xs mc ms fu h kc ks v1 v2 v3 v4) h152 kc ks v1 v2 v3 v4) ∧ (¬ x147 = x153 → (0 : Int32) = 1))) h v2 x150) h v1 x144) ∧ (x5.toInt = 7 → ∀ x155 : Int32, x155 = v4 + 1 → vp_in x155 L ∧ ∀ x157 : Int32, x157 = xs x155.toNatClampNeg → hK h v1 = 1 ∧ wp_S_checkpoint g (fun x160 h159 => ∀ x161 : Int32, x161 = v4 + 1 → vp_in x161 L ∧ ∀ x163 : Int32, x163 = xs x161.toNatClampNeg → hK h159 v2 = 5 ∧ wp_M_checkpoint g (fun x166 h165 => ((x160 = x166 → wp_L_law_610 g L xs mc ms (fun h kc ks v1 v2 v3 v4 => wp_L_law_23 g L xs mc ms fu h kc ks v1 v2 v3 v4) h165 kc ks v1 v2 v3 v4) ∧ (¬ x160 = x166 → (0 : Int32) = 1))) h159 v2 x163) h v1 x157) ∧ (x5.toInt = 8 → ∀ x168 : Int32, x168 = v4 + 1 → vp_in x168 L ∧ ∀ x170 : Int32, x170 = xs x168.toNatClampNeg → hK h v1 = 1 ∧ wp_S_dead g (fun x173 h172 => ∀ x174 : Int32, x174 = v4 + 1 → vp_in x174 L ∧ ∀ x176 : Int32, x176 = xs x174.toNatClampNeg → hK h172 v2 = 5 ∧ wp_M_dead g (fun x179 h178 => ((x173 = x179 → wp_L_law_610 g L xs mc ms (fun h kc ks v1 v2 v3 v4 => wp_L_law_23 g L xs mc ms fu h kc ks v1 v2 v3 v4) h178 kc ks v1 v2 v3 v4) ∧ (¬ x173 = x179 → (0 : Int32) = 1))) h172 v2 x176) h v1 x170) ∧ (x5.toInt = 9 → ∀ x181 : Int32, x181 = v4 + 1 → vp_in x181 L ∧ ∀ x183 : Int32, x183 = xs x181.toNatClampNeg → hK h v1 = 1 ∧ wp_S_limit g (fun x186 h185 => ∀ x187 : Int32, x187 = v4 + 1 → vp_in x187 L ∧ ∀ x189 : Int32, x189 = xs x187.toNatClampNeg → hK h185 v2 = 5 ∧ wp_M_limit g (fun x192 h191 => ((x186 = x192 → wp_L_law_610 g L xs mc ms (fun h kc ks v1 v2 v3 v4 => wp_L_law_23 g L xs mc ms fu h kc ks v1 v2 v3 v4) h191 kc ks v1 v2 v3 v4) ∧ (¬ x186 = x192 → (0 : Int32) = 1))) h185 v2 x189) h v1 x183) ∧ (x5.toInt = 10 → ∀ x194 : Int32, x194 = v4 + 1 → vp_in x194 L ∧ ∀ x196 : Int32, x196 = xs x194.toNatClampNeg → hK h v1 = 1 ∧ wp_S_holder g (fun x199 => ∀ x200 : Int32, x200 = v4 + 1 → vp_in x200 L ∧ ∀ x202 : Int32, x202 = xs x200.toNatClampNeg → hK h v2 = 5 ∧ wp_M_holder g (fun x205 h204 => ((x199 = x205 → wp_L_law_610 g L xs mc ms (fun h kc ks v1 v2 v3 v4 => wp_L_law_23 g L xs mc ms fu h kc ks v1 v2 v3 v4) h204 kc ks v1 v2 v3 v4) ∧ (¬ x199 = x205 → (0 : Int32) = 1))) h v2 x202) h v1 x196) ∧ (x5.toInt = 11 → hK h v1 = 1 ∧ wp_S_serial g (fun x209 => hK h v2 = 5 ∧ wp_M_serial g (fun x212 h211 => ((x209 = x212 → wp_L_law_610 g L xs mc ms (fun h kc ks v1 v2 v3 v4 => wp_L_law_23 g L xs mc ms fu h kc ks v1 v2 v3 v4) h211 kc ks v1 v2 v3 v4) ∧ (¬ x209 = x212 → (0 : Int32) = 1))) h v2) h v1) ∧ (x5.toInt = 12 → ∀ x214 : Int32, x214 = v4 + 1 → vp_in x214 L ∧ ∀ x216 : Int32, x216 = xs x214.toNatClampNeg → ∃ mc220 ms221 : Nat, kc + mc220 ≤ mc ∧ ks + ms221 ≤ ms ∧ wp_L_value g (fun x219 h218 => ∀ x222 : Int32, x222 = v4 + 1 → vp_in x222 L ∧ ∀ x224 : Int32, x224 = xs x222.toNatClampNeg → hK h218 v2 = 5 ∧ wp_M_value g (fun j227 h226 => hK h226 v2 = 5 ∧ wp_M_thrown g (fun x230 => ((x230 = x219 → ((¬ x219 = 0 → wp_L_law_570 g L xs mc ms (fun h kc ks v1 v2 v3 v4 => wp_L_law_23 g L xs mc ms fu h kc ks v1 v2 v3 v4) h226 (kc + mc220) (ks + ms221) v1 v2 v3 v4) ∧ (x219 = 0 → hK h226 v3 = 22 ∧ vp_in 0 (hN h226 v3) ∧ (((lg_cmp (hJ h226 v3 (0 : Int32).toNatClampNeg) j227) = 0 → wp_L_law_570 g L xs mc ms (fun h kc ks v1 v2 v3 v4 => wp_L_law_23 g L xs mc ms fu h kc ks v1 v2 v3 v4) h226 (kc + mc220) (ks + ms221) v1 v2 v3 v4) ∧ (¬ (lg_cmp (hJ h226 v3 (0 : Int32).toNatClampNeg) j227) = 0 → (0 : Int32) = 1))))) ∧ (¬ x230 = x219 → (0 : Int32) = 1))) h226 v2) h218 v2 x224) mc220 ms221 h v1 x216 v3) ∧ (x5.toInt = 13 → ∀ x235 : Int32, x235 = v4 + 1 → vp_in x235 L ∧ ∀ x237 : Int32, x237 = xs x235.toNatClampNeg → ∀ x238 : Int32, x238 = v4 + 2 → vp_in x238 L ∧ ∀ x240 : Int32, x240 = xs x238.toNatClampNeg → hK h v1 = 1 ∧ wp_S_state g (fun x243 => ∀ x244 : Int32, x244 = v4 + 1 → vp_in x244 L ∧ ∀ x246 : Int32, x246 = xs x244.toNatClampNeg → ∀ x247 : Int32, x247 = v4 + 2 → vp_in x247 L ∧ ∀ x249 : Int32, x249 = xs x247.toNatClampNeg → hK h v2 = 5 ∧ wp_M_state g (fun x252 h251 => ((x243 = x252 → wp_L_law_610 g L xs mc ms (fun h kc ks v1 v2 v3 v4 => wp_L_law_23 g L xs mc ms fu h kc ks v1 v2 v3 v4) h251 kc ks v1 v2 v3 v4) ∧ (¬ x243 = x252 → (0 : Int32) = 1))) h v2 x246 x249) h v1 x237 x240))))
set_option maxHeartbeats 4000000 in
set_option maxRecDepth 100000 in
theorem wk_L_law_23 {p : Program} {l : Launch} {e : Env} {s : State} {m : MethodId} {args : Array Value} {below : List Frame} {meth : Method} {c : Code} {g : Gm} {b L : Nat} {xs : Nat → Int32} {mc ms : Nat} (C0 : Cx g p s m args c code 8 "SegmentLocksLaw") (hfl : l.flags = pinnedFlags ++ [noTraceFlag]) (hr : meth.sig.returnType = some .boolean) (hlk : meth.locks = false) (hsz : s.heap.size ≤ g.2.2 0) (hX : va_X b L xs s s.heap) (hbl : b < s.heap.size) (hbA : ¬ gA g b) : ∀ n : Nat, ∀ (h : Hp) (kc ks : Nat) (v1 : Nat) (v2 : Nat) (v3 : Nat) (v4 : Int32) (H : Heap) (locs : List Loc) (ls : Array Slot), wp_L_law_23 g L xs mc ms n h kc ks v1 v2 v3 v4 → GH g h H → va_S (gA g) s.heap H locs → kc ≤ mc ∧ ks ≤ ms → lv_has ls 8 [(0, .ref b), (1, .ref v1), (2, .ref v2), (3, .ref v3), (4, .int v4)] → W p l e (rmm 14 558 mc ms) s m args below meth c H locs kc ks (MQ below lawQ args s mc ms (fun _ => False)) (F0 m 23 ls []) := by
  obtain ⟨hx, hb, -, hown, hts, hgk⟩ := id C0
  intro n
  induction n with
  | zero =>
    intro h kc ks v1 v2 v3 v4 H locs ls hw hG hS hkc hl
    exact hw.elim
  | succ n ih =>
    intro h kc ks v1 v2 v3 v4 H locs ls hw hG hS hkc hl
    unfold wp_L_law_23 at hw
    refine lv_iload hx hb dd_L_law_23 (lv_at hl 4 rfl) ?_
    refine lv_aload_n hx hb dd_L_law_25 rfl (lv_at hl 0 rfl) ?_
    refine va_slen hx hb hX hbl hbA hS dd_L_law_26 ?_
    refine lv_iconst (v := 5) hx hb dd_L_law_27 (by decide) ?_
    refine lv_isub hx hb dd_L_law_28 ?_
    refine lv_topi (fun x1 ex1 => ?_)
    replace hw := hw x1 ex1
    refine lv_icmp_gt (tgt := 616) hx hb dd_L_law_29 (by decide) (fun c2 => ?_) (fun c2 => ?_)
    · replace hw := hw.1 c2
      refine lv_iconst (v := 1) hx hb dd_L_law_616 (by decide) ?_
      exact re_law C0 hr hlk hsz hS hkc (1) hw dd_L_law_617
    · replace hw := hw.2 c2
      refine lv_aload_n hx hb dd_L_law_32 rfl (lv_at hl 0 rfl) ?_
      refine lv_iload hx hb dd_L_law_33 (lv_at hl 4 rfl) ?_
      obtain ⟨k3, hw⟩ := hw
      refine va_sld hx hb hX hbl hbA hS k3 dd_L_law_35 ?_
      refine lv_topi (fun x4 ex4 => ?_)
      replace hw := hw x4 ex4
      refine lv_bipush (v := 15) hx hb dd_L_law_36 (by decide) ?_
      refine lv_iand hx hb dd_L_law_38 ?_
      refine lv_topi (fun x5 ex5 => ?_)
      replace hw := hw x5 ex5
      rcases (show (x5.toInt < 0 ∨ 13 < x5.toInt) ∨ x5.toInt = 0 ∨ x5.toInt = 1 ∨ x5.toInt = 2 ∨ x5.toInt = 3 ∨ x5.toInt = 4 ∨ x5.toInt = 5 ∨ x5.toInt = 6 ∨ x5.toInt = 7 ∨ x5.toInt = 8 ∨ x5.toInt = 9 ∨ x5.toInt = 10 ∨ x5.toInt = 11 ∨ x5.toInt = 12 ∨ x5.toInt = 13 by omega) with z | z | z | z | z | z | z | z | z | z | z | z | z | z | z
      · replace hw := hw.1 z
        refine lv_tableOut (tgt := 610) hx hb dd_L_law_39 z (by decide) ?_
        exact wk_L_law_610 C0 hfl hr hlk hsz hX hbl hbA ih _ _ _ _ _ _ _ _ _ _ hw hG hS hkc (lv_sub hl [0, 1, 2, 3, 4] rfl)
      · replace hw := hw.2.1 z
        refine lv_tableIn (tgt := 108) hx hb dd_L_law_39 (by omega) (by omega) (by rw [z]; rfl) (by decide) ?_
        refine lv_aload_n hx hb dd_L_law_108 rfl (lv_at hl 1 rfl) ?_
        refine lv_aload_n hx hb dd_L_law_109 rfl (lv_at hl 0 rfl) ?_
        refine lv_iload hx hb dd_L_law_110 (lv_at hl 4 rfl) ?_
        refine lv_iconst (v := 1) hx hb dd_L_law_112 (by decide) ?_
        refine lv_iadd hx hb dd_L_law_113 ?_
        refine lv_topi (fun x6 ex6 => ?_)
        replace hw := hw x6 ex6
        obtain ⟨k7, hw⟩ := hw
        refine va_sld hx hb hX hbl hbA hS k7 dd_L_law_114 ?_
        refine lv_topi (fun x8 ex8 => ?_)
        replace hw := hw x8 ex8
        obtain ⟨k9, hw⟩ := hw
        obtain ⟨mc12, ms13, hc1, hc2, hw⟩ := hw
        refine ca_i hS (rn_V C0 hG hS (c_S_task l g _ mc12 ms13 h v1 x8 hw) (ci := 0) k9 (by decide) rfl rfl (host := "") (nest := false) (n := 1) (As := [.int x8]) (rest := []) km_517 km_516 km_518 km_519 km_176 ⟨by decide, by decide, by decide +kernel⟩ ⟨Nat.le_of_ble_eq_true rfl, Nat.le_of_ble_eq_true rfl⟩ rfl hl.1 rfl (Nat.le_of_ble_eq_true rfl) dd_L_law_115 ⟨hc1, hc2⟩) (fun x11 h10 H locs hw hG hS => ?_)
        have hkc := And.intro hc1 hc2
        refine lv_aload_n hx hb dd_L_law_118 rfl (lv_at hl 2 rfl) ?_
        refine lv_aload_n hx hb dd_L_law_119 rfl (lv_at hl 0 rfl) ?_
        refine lv_iload hx hb dd_L_law_120 (lv_at hl 4 rfl) ?_
        refine lv_iconst (v := 1) hx hb dd_L_law_122 (by decide) ?_
        refine lv_iadd hx hb dd_L_law_123 ?_
        refine lv_topi (fun x14 ex14 => ?_)
        replace hw := hw x14 ex14
        obtain ⟨k15, hw⟩ := hw
        refine va_sld hx hb hX hbl hbA hS k15 dd_L_law_124 ?_
        refine lv_topi (fun x16 ex16 => ?_)
        replace hw := hw x16 ex16
        obtain ⟨k17, hw⟩ := hw
        refine ca_i hS (rn_V C0 hG hS (c_M_task l g _ h10 v2 x16 hw) (ci := 4) k17 (by decide) rfl rfl (host := "") (nest := false) (n := 1) (As := [.int x16]) (rest := [.int x11]) km_513 km_512 km_514 km_515 km_421 ⟨by decide, by decide, by decide +kernel⟩ ⟨Nat.le_of_ble_eq_true rfl, Nat.le_of_ble_eq_true rfl⟩ rfl hl.1 rfl (Nat.le_of_ble_eq_true rfl) dd_L_law_125 hkc) (fun x19 h18 H locs hw hG hS => ?_)
        refine lv_icmp_eq (tgt := 610) hx hb dd_L_law_128 (by decide) (fun c20 => ?_) (fun c20 => ?_)
        · replace hw := hw.1 c20
          exact wk_L_law_610 C0 hfl hr hlk hsz hX hbl hbA ih _ _ _ _ _ _ _ _ _ _ hw hG hS hkc (lv_sub hl [0, 1, 2, 3, 4] rfl)
        · replace hw := hw.2 c20
          refine lv_iconst (v := 0) hx hb dd_L_law_131 (by decide) ?_
          exact re_law C0 hr hlk hsz hS hkc (0) hw dd_L_law_132
      · replace hw := hw.2.2.1 z
        refine lv_tableIn (tgt := 133) hx hb dd_L_law_39 (by omega) (by omega) (by rw [z]; rfl) (by decide) ?_
        refine lv_aload_n hx hb dd_L_law_133 rfl (lv_at hl 1 rfl) ?_
        refine lv_aload_n hx hb dd_L_law_134 rfl (lv_at hl 0 rfl) ?_
        refine lv_iload hx hb dd_L_law_135 (lv_at hl 4 rfl) ?_
        refine lv_iconst (v := 1) hx hb dd_L_law_137 (by decide) ?_
        refine lv_iadd hx hb dd_L_law_138 ?_
        refine lv_topi (fun x21 ex21 => ?_)
        replace hw := hw x21 ex21
        obtain ⟨k22, hw⟩ := hw
        refine va_sld hx hb hX hbl hbA hS k22 dd_L_law_139 ?_
        refine lv_topi (fun x23 ex23 => ?_)
        replace hw := hw x23 ex23
        refine lv_aload_n hx hb dd_L_law_140 rfl (lv_at hl 0 rfl) ?_
        refine lv_iload hx hb dd_L_law_141 (lv_at hl 4 rfl) ?_
        refine lv_iconst (v := 2) hx hb dd_L_law_143 (by decide) ?_
        refine lv_iadd hx hb dd_L_law_144 ?_
        refine lv_topi (fun x24 ex24 => ?_)
        replace hw := hw x24 ex24
        obtain ⟨k25, hw⟩ := hw
        refine va_sld hx hb hX hbl hbA hS k25 dd_L_law_145 ?_
        refine lv_topi (fun x26 ex26 => ?_)
        replace hw := hw x26 ex26
        refine lv_aload_n hx hb dd_L_law_146 rfl (lv_at hl 0 rfl) ?_
        refine lv_iload hx hb dd_L_law_147 (lv_at hl 4 rfl) ?_
        refine lv_iconst (v := 3) hx hb dd_L_law_149 (by decide) ?_
        refine lv_iadd hx hb dd_L_law_150 ?_
        refine lv_topi (fun x27 ex27 => ?_)
        replace hw := hw x27 ex27
        obtain ⟨k28, hw⟩ := hw
        refine va_sld hx hb hX hbl hbA hS k28 dd_L_law_151 ?_
        refine lv_topi (fun x29 ex29 => ?_)
        replace hw := hw x29 ex29
        obtain ⟨k30, hw⟩ := hw
        obtain ⟨mc33, ms34, hc1, hc2, hw⟩ := hw
        refine ca_i hS (rn_V C0 hG hS (c_S_ask l g _ mc33 ms34 h v1 x23 x26 x29 hw) (ci := 0) k30 (by decide) rfl rfl (host := "") (nest := false) (n := 3) (As := [.int x23, .int x26, .int x29]) (rest := []) km_525 km_524 km_526 km_527 km_176 ⟨by decide, by decide, by decide +kernel⟩ ⟨Nat.le_of_ble_eq_true rfl, Nat.le_of_ble_eq_true rfl⟩ rfl hl.1 rfl (Nat.le_of_ble_eq_true rfl) dd_L_law_152 ⟨hc1, hc2⟩) (fun x32 h31 H locs hw hG hS => ?_)
        have hkc := And.intro hc1 hc2
        refine lv_aload_n hx hb dd_L_law_155 rfl (lv_at hl 2 rfl) ?_
        refine lv_aload_n hx hb dd_L_law_156 rfl (lv_at hl 0 rfl) ?_
        refine lv_iload hx hb dd_L_law_157 (lv_at hl 4 rfl) ?_
        refine lv_iconst (v := 1) hx hb dd_L_law_159 (by decide) ?_
        refine lv_iadd hx hb dd_L_law_160 ?_
        refine lv_topi (fun x35 ex35 => ?_)
        replace hw := hw x35 ex35
        obtain ⟨k36, hw⟩ := hw
        refine va_sld hx hb hX hbl hbA hS k36 dd_L_law_161 ?_
        refine lv_topi (fun x37 ex37 => ?_)
        replace hw := hw x37 ex37
        refine lv_aload_n hx hb dd_L_law_162 rfl (lv_at hl 0 rfl) ?_
        refine lv_iload hx hb dd_L_law_163 (lv_at hl 4 rfl) ?_
        refine lv_iconst (v := 2) hx hb dd_L_law_165 (by decide) ?_
        refine lv_iadd hx hb dd_L_law_166 ?_
        refine lv_topi (fun x38 ex38 => ?_)
        replace hw := hw x38 ex38
        obtain ⟨k39, hw⟩ := hw
        refine va_sld hx hb hX hbl hbA hS k39 dd_L_law_167 ?_
        refine lv_topi (fun x40 ex40 => ?_)
        replace hw := hw x40 ex40
        refine lv_aload_n hx hb dd_L_law_168 rfl (lv_at hl 0 rfl) ?_
        refine lv_iload hx hb dd_L_law_169 (lv_at hl 4 rfl) ?_
        refine lv_iconst (v := 3) hx hb dd_L_law_171 (by decide) ?_
        refine lv_iadd hx hb dd_L_law_172 ?_
        refine lv_topi (fun x41 ex41 => ?_)
        replace hw := hw x41 ex41
        obtain ⟨k42, hw⟩ := hw
        refine va_sld hx hb hX hbl hbA hS k42 dd_L_law_173 ?_
        refine lv_topi (fun x43 ex43 => ?_)
        replace hw := hw x43 ex43
        obtain ⟨k44, hw⟩ := hw
        refine ca_i hS (rn_V C0 hG hS (c_M_ask l g _ h31 v2 x37 x40 x43 hw) (ci := 4) k44 (by decide) rfl rfl (host := "") (nest := false) (n := 3) (As := [.int x37, .int x40, .int x43]) (rest := [.int x32]) km_521 km_520 km_522 km_523 km_421 ⟨by decide, by decide, by decide +kernel⟩ ⟨Nat.le_of_ble_eq_true rfl, Nat.le_of_ble_eq_true rfl⟩ rfl hl.1 rfl (Nat.le_of_ble_eq_true rfl) dd_L_law_174 hkc) (fun x46 h45 H locs hw hG hS => ?_)
        refine lv_icmp_eq (tgt := 610) hx hb dd_L_law_177 (by decide) (fun c47 => ?_) (fun c47 => ?_)
        · replace hw := hw.1 c47
          exact wk_L_law_610 C0 hfl hr hlk hsz hX hbl hbA ih _ _ _ _ _ _ _ _ _ _ hw hG hS hkc (lv_sub hl [0, 1, 2, 3, 4] rfl)
        · replace hw := hw.2 c47
          refine lv_iconst (v := 0) hx hb dd_L_law_180 (by decide) ?_
          exact re_law C0 hr hlk hsz hS hkc (0) hw dd_L_law_181
      · replace hw := hw.2.2.2.1 z
        refine lv_tableIn (tgt := 182) hx hb dd_L_law_39 (by omega) (by omega) (by rw [z]; rfl) (by decide) ?_
        refine lv_aload_n hx hb dd_L_law_182 rfl (lv_at hl 1 rfl) ?_
        refine lv_aload_n hx hb dd_L_law_183 rfl (lv_at hl 0 rfl) ?_
        refine lv_iload hx hb dd_L_law_184 (lv_at hl 4 rfl) ?_
        refine lv_iconst (v := 1) hx hb dd_L_law_186 (by decide) ?_
        refine lv_iadd hx hb dd_L_law_187 ?_
        refine lv_topi (fun x48 ex48 => ?_)
        replace hw := hw x48 ex48
        obtain ⟨k49, hw⟩ := hw
        refine va_sld hx hb hX hbl hbA hS k49 dd_L_law_188 ?_
        refine lv_topi (fun x50 ex50 => ?_)
        replace hw := hw x50 ex50
        refine lv_aload_n hx hb dd_L_law_189 rfl (lv_at hl 0 rfl) ?_
        refine lv_iload hx hb dd_L_law_190 (lv_at hl 4 rfl) ?_
        refine lv_iconst (v := 2) hx hb dd_L_law_192 (by decide) ?_
        refine lv_iadd hx hb dd_L_law_193 ?_
        refine lv_topi (fun x51 ex51 => ?_)
        replace hw := hw x51 ex51
        obtain ⟨k52, hw⟩ := hw
        refine va_sld hx hb hX hbl hbA hS k52 dd_L_law_194 ?_
        refine lv_topi (fun x53 ex53 => ?_)
        replace hw := hw x53 ex53
        refine lv_aload_n hx hb dd_L_law_195 rfl (lv_at hl 0 rfl) ?_
        refine lv_iload hx hb dd_L_law_196 (lv_at hl 4 rfl) ?_
        refine lv_iconst (v := 3) hx hb dd_L_law_198 (by decide) ?_
        refine lv_iadd hx hb dd_L_law_199 ?_
        refine lv_topi (fun x54 ex54 => ?_)
        replace hw := hw x54 ex54
        obtain ⟨k55, hw⟩ := hw
        refine va_sld hx hb hX hbl hbA hS k55 dd_L_law_200 ?_
        refine lv_topi (fun x56 ex56 => ?_)
        replace hw := hw x56 ex56
        obtain ⟨j57, ej57⟩ : ∃ y : Int64, y = x56.toInt64 := ⟨_, rfl⟩
        replace hw := hw j57 ej57
        refine lv_i2l (v := j57) hx hb dd_L_law_201 ej57.symm ?_
        refine lv_bipush (v := 32) hx hb dd_L_law_202 (by decide) ?_
        obtain ⟨j58, ej58⟩ : ∃ y : Int64, y = j57 <<< ((32 : Int32).toInt64 &&& 63) := ⟨_, rfl⟩
        replace hw := hw j58 ej58
        refine lv_lshl (v := j58) hx hb dd_L_law_204 ej58.symm ?_
        refine lv_aload_n hx hb dd_L_law_205 rfl (lv_at hl 0 rfl) ?_
        refine lv_iload hx hb dd_L_law_206 (lv_at hl 4 rfl) ?_
        refine lv_iconst (v := 4) hx hb dd_L_law_208 (by decide) ?_
        refine lv_iadd hx hb dd_L_law_209 ?_
        refine lv_topi (fun x59 ex59 => ?_)
        replace hw := hw x59 ex59
        obtain ⟨k60, hw⟩ := hw
        refine va_sld hx hb hX hbl hbA hS k60 dd_L_law_210 ?_
        refine lv_topi (fun x61 ex61 => ?_)
        replace hw := hw x61 ex61
        obtain ⟨j62, ej62⟩ : ∃ y : Int64, y = x61.toInt64 := ⟨_, rfl⟩
        replace hw := hw j62 ej62
        refine lv_i2l (v := j62) hx hb dd_L_law_211 ej62.symm ?_
        refine lv_ldc2 hx hb hown (hts _ km_528) dd_L_law_212 ?_
        refine lv_land hx hb dd_L_law_215 ?_
        refine lv_topl (fun j63 ej63 => ?_)
        replace hw := hw j63 ej63
        refine lv_lor hx hb dd_L_law_216 ?_
        refine lv_topl (fun j64 ej64 => ?_)
        replace hw := hw j64 ej64
        obtain ⟨k65, hw⟩ := hw
        refine ca_i hS (rn_V C0 hG hS (c_S_write l g _ h v1 x50 x53 j64 hw) (ci := 0) k65 (by decide) rfl rfl (host := "") (nest := false) (n := 3) (As := [.int x50, .int x53, .long j64]) (rest := []) km_534 km_533 km_535 km_536 km_176 ⟨by decide, by decide, by decide +kernel⟩ ⟨Nat.le_of_ble_eq_true rfl, Nat.le_of_ble_eq_true rfl⟩ rfl hl.1 rfl (Nat.le_of_ble_eq_true rfl) dd_L_law_217 hkc) (fun x67 h66 H locs hw hG hS => ?_)
        refine lv_aload_n hx hb dd_L_law_220 rfl (lv_at hl 2 rfl) ?_
        refine lv_aload_n hx hb dd_L_law_221 rfl (lv_at hl 0 rfl) ?_
        refine lv_iload hx hb dd_L_law_222 (lv_at hl 4 rfl) ?_
        refine lv_iconst (v := 1) hx hb dd_L_law_224 (by decide) ?_
        refine lv_iadd hx hb dd_L_law_225 ?_
        refine lv_topi (fun x68 ex68 => ?_)
        replace hw := hw x68 ex68
        obtain ⟨k69, hw⟩ := hw
        refine va_sld hx hb hX hbl hbA hS k69 dd_L_law_226 ?_
        refine lv_topi (fun x70 ex70 => ?_)
        replace hw := hw x70 ex70
        refine lv_aload_n hx hb dd_L_law_227 rfl (lv_at hl 0 rfl) ?_
        refine lv_iload hx hb dd_L_law_228 (lv_at hl 4 rfl) ?_
        refine lv_iconst (v := 2) hx hb dd_L_law_230 (by decide) ?_
        refine lv_iadd hx hb dd_L_law_231 ?_
        refine lv_topi (fun x71 ex71 => ?_)
        replace hw := hw x71 ex71
        obtain ⟨k72, hw⟩ := hw
        refine va_sld hx hb hX hbl hbA hS k72 dd_L_law_232 ?_
        refine lv_topi (fun x73 ex73 => ?_)
        replace hw := hw x73 ex73
        refine lv_aload_n hx hb dd_L_law_233 rfl (lv_at hl 0 rfl) ?_
        refine lv_iload hx hb dd_L_law_234 (lv_at hl 4 rfl) ?_
        refine lv_iconst (v := 3) hx hb dd_L_law_236 (by decide) ?_
        refine lv_iadd hx hb dd_L_law_237 ?_
        refine lv_topi (fun x74 ex74 => ?_)
        replace hw := hw x74 ex74
        obtain ⟨k75, hw⟩ := hw
        refine va_sld hx hb hX hbl hbA hS k75 dd_L_law_238 ?_
        refine lv_topi (fun x76 ex76 => ?_)
        replace hw := hw x76 ex76
        obtain ⟨j77, ej77⟩ : ∃ y : Int64, y = x76.toInt64 := ⟨_, rfl⟩
        replace hw := hw j77 ej77
        refine lv_i2l (v := j77) hx hb dd_L_law_239 ej77.symm ?_
        refine lv_bipush (v := 32) hx hb dd_L_law_240 (by decide) ?_
        obtain ⟨j78, ej78⟩ : ∃ y : Int64, y = j77 <<< ((32 : Int32).toInt64 &&& 63) := ⟨_, rfl⟩
        replace hw := hw j78 ej78
        refine lv_lshl (v := j78) hx hb dd_L_law_242 ej78.symm ?_
        refine lv_aload_n hx hb dd_L_law_243 rfl (lv_at hl 0 rfl) ?_
        refine lv_iload hx hb dd_L_law_244 (lv_at hl 4 rfl) ?_
        refine lv_iconst (v := 4) hx hb dd_L_law_246 (by decide) ?_
        refine lv_iadd hx hb dd_L_law_247 ?_
        refine lv_topi (fun x79 ex79 => ?_)
        replace hw := hw x79 ex79
        obtain ⟨k80, hw⟩ := hw
        refine va_sld hx hb hX hbl hbA hS k80 dd_L_law_248 ?_
        refine lv_topi (fun x81 ex81 => ?_)
        replace hw := hw x81 ex81
        obtain ⟨j82, ej82⟩ : ∃ y : Int64, y = x81.toInt64 := ⟨_, rfl⟩
        replace hw := hw j82 ej82
        refine lv_i2l (v := j82) hx hb dd_L_law_249 ej82.symm ?_
        refine lv_ldc2 hx hb hown (hts _ km_528) dd_L_law_250 ?_
        refine lv_land hx hb dd_L_law_253 ?_
        refine lv_topl (fun j83 ej83 => ?_)
        replace hw := hw j83 ej83
        refine lv_lor hx hb dd_L_law_254 ?_
        refine lv_topl (fun j84 ej84 => ?_)
        replace hw := hw j84 ej84
        obtain ⟨k85, hw⟩ := hw
        refine ca_i hS (rn_V C0 hG hS (c_M_write l g _ h66 v2 x70 x73 j84 hw) (ci := 4) k85 (by decide) rfl rfl (host := "") (nest := false) (n := 3) (As := [.int x70, .int x73, .long j84]) (rest := [.int x67]) km_530 km_529 km_531 km_532 km_421 ⟨by decide, by decide, by decide +kernel⟩ ⟨Nat.le_of_ble_eq_true rfl, Nat.le_of_ble_eq_true rfl⟩ rfl hl.1 rfl (Nat.le_of_ble_eq_true rfl) dd_L_law_255 hkc) (fun x87 h86 H locs hw hG hS => ?_)
        refine lv_icmp_eq (tgt := 610) hx hb dd_L_law_258 (by decide) (fun c88 => ?_) (fun c88 => ?_)
        · replace hw := hw.1 c88
          exact wk_L_law_610 C0 hfl hr hlk hsz hX hbl hbA ih _ _ _ _ _ _ _ _ _ _ hw hG hS hkc (lv_sub hl [0, 1, 2, 3, 4] rfl)
        · replace hw := hw.2 c88
          refine lv_iconst (v := 0) hx hb dd_L_law_261 (by decide) ?_
          exact re_law C0 hr hlk hsz hS hkc (0) hw dd_L_law_262
      · replace hw := hw.2.2.2.2.1 z
        refine lv_tableIn (tgt := 263) hx hb dd_L_law_39 (by omega) (by omega) (by rw [z]; rfl) (by decide) ?_
        refine lv_aload_n hx hb dd_L_law_263 rfl (lv_at hl 1 rfl) ?_
        refine lv_aload_n hx hb dd_L_law_264 rfl (lv_at hl 0 rfl) ?_
        refine lv_iload hx hb dd_L_law_265 (lv_at hl 4 rfl) ?_
        refine lv_iconst (v := 1) hx hb dd_L_law_267 (by decide) ?_
        refine lv_iadd hx hb dd_L_law_268 ?_
        refine lv_topi (fun x89 ex89 => ?_)
        replace hw := hw x89 ex89
        obtain ⟨k90, hw⟩ := hw
        refine va_sld hx hb hX hbl hbA hS k90 dd_L_law_269 ?_
        refine lv_topi (fun x91 ex91 => ?_)
        replace hw := hw x91 ex91
        refine lv_aload_n hx hb dd_L_law_270 rfl (lv_at hl 0 rfl) ?_
        refine lv_iload hx hb dd_L_law_271 (lv_at hl 4 rfl) ?_
        refine lv_iconst (v := 2) hx hb dd_L_law_273 (by decide) ?_
        refine lv_iadd hx hb dd_L_law_274 ?_
        refine lv_topi (fun x92 ex92 => ?_)
        replace hw := hw x92 ex92
        obtain ⟨k93, hw⟩ := hw
        refine va_sld hx hb hX hbl hbA hS k93 dd_L_law_275 ?_
        refine lv_topi (fun x94 ex94 => ?_)
        replace hw := hw x94 ex94
        refine lv_aload_n hx hb dd_L_law_276 rfl (lv_at hl 3 rfl) ?_
        obtain ⟨mc98, ms99, hc1, hc2, hw⟩ := hw
        refine ca_i hS (rn_SW C0 hG hS (c_L_read l hfl g _ mc98 ms99 h v1 x91 x94 v3 hw) (n := 4) (As := [.ref v1, .int x91, .int x94, .ref v3]) (rest := []) km_546 km_545 km_548 km_547 ⟨by decide, by decide, by decide +kernel⟩ ⟨Nat.le_of_ble_eq_true rfl, Nat.le_of_ble_eq_true rfl⟩ rfl hl.1 rfl (Nat.le_of_ble_eq_true rfl) dd_L_law_277 ⟨hc1, hc2⟩) (fun x97 h96 H locs hw hG hS => ?_)
        have hkc := And.intro hc1 hc2
        have hl0 := hl
        clear hl
        refine lv_istore (lv' := [(5, .int x97), (0, .ref b), (1, .ref v1), (2, .ref v2), (3, .ref v3), (4, .int v4)]) hx hb dd_L_law_280 hl0 (by decide) rfl (fun ls hl => ?_)
        refine lv_aload_n hx hb dd_L_law_282 rfl (lv_at hl 3 rfl) ?_
        refine lv_aload_n hx hb dd_L_law_283 rfl (lv_at hl 1 rfl) ?_
        refine lv_iload hx hb dd_L_law_284 (lv_at hl 5 rfl) ?_
        refine lv_iconst (v := 1) hx hb dd_L_law_286 (by decide) ?_
        refine lv_iadd hx hb dd_L_law_287 ?_
        refine lv_topi (fun x100 ex100 => ?_)
        replace hw := hw x100 ex100
        obtain ⟨k101, hw⟩ := hw
        refine va_sld hx hb hX hbl hbA hS k101 dd_L_law_288 ?_
        refine lv_topi (fun x102 ex102 => ?_)
        replace hw := hw x102 ex102
        refine lv_aload_n hx hb dd_L_law_289 rfl (lv_at hl 1 rfl) ?_
        refine lv_iload hx hb dd_L_law_290 (lv_at hl 5 rfl) ?_
        refine lv_iconst (v := 2) hx hb dd_L_law_292 (by decide) ?_
        refine lv_iadd hx hb dd_L_law_293 ?_
        refine lv_topi (fun x103 ex103 => ?_)
        replace hw := hw x103 ex103
        obtain ⟨k104, hw⟩ := hw
        refine va_sld hx hb hX hbl hbA hS k104 dd_L_law_294 ?_
        refine lv_topi (fun x105 ex105 => ?_)
        replace hw := hw x105 ex105
        obtain ⟨k106, hw⟩ := hw
        refine ca_l hS (rn_V C0 hG hS (c_M_read l g _ h96 v2 x102 x105 hw) (ci := 4) k106 (by decide) rfl rfl (host := "") (nest := false) (n := 2) (As := [.int x102, .int x105]) (rest := []) km_542 km_541 km_543 km_544 km_421 ⟨by decide, by decide, by decide +kernel⟩ ⟨Nat.le_of_ble_eq_true rfl, Nat.le_of_ble_eq_true rfl⟩ rfl hl.1 rfl (Nat.le_of_ble_eq_true rfl) dd_L_law_295 hkc) (fun j108 h107 H locs hw hG hS => ?_)
        have hl0 := hl
        clear hl
        refine lv_lstore (lv' := [(6, .long j108), (5, .int x97), (0, .ref b), (1, .ref v1), (2, .ref v2), (3, .ref v3), (4, .int v4)]) hx hb dd_L_law_298 hl0 (by decide) rfl (fun ls hl => ?_)
        refine lv_aload_n hx hb dd_L_law_300 rfl (lv_at hl 4 rfl) ?_
        obtain ⟨k109, hw⟩ := hw
        have hw0 := hw
        clear hw
        refine cs_i (rn_V C0 hG hS (c_M_thrown l g _ h107 v2 hw0) (ci := 4) k109 (by decide) rfl rfl (host := "") (nest := false) (n := 0) (As := []) (rest := []) km_538 km_537 km_539 km_540 km_421 ⟨by decide, by decide, by decide +kernel⟩ ⟨Nat.le_of_ble_eq_true rfl, Nat.le_of_ble_eq_true rfl⟩ rfl hl.1 rfl (Nat.le_of_ble_eq_true rfl) dd_L_law_301 hkc) (fun x111 hw => ?_)
        refine lv_iload hx hb dd_L_law_304 (lv_at hl 1 rfl) ?_
        refine lv_icmp_eq (tgt := 311) hx hb dd_L_law_306 (by decide) (fun c112 => ?_) (fun c112 => ?_)
        · replace hw := hw.1 c112
          refine lv_iload hx hb dd_L_law_311 (lv_at hl 1 rfl) ?_
          refine lv_if_ne (tgt := 327) hx hb dd_L_law_313 (by decide) (fun c113 => ?_) (fun c113 => ?_)
          · replace hw := hw.1 c113
            exact wk_L_law_327 C0 hfl hr hlk hsz hX hbl hbA ih _ _ _ _ _ _ _ _ _ _ hw hG hS hkc (lv_sub hl [2, 3, 4, 5, 6] rfl)
          · replace hw := hw.2 c113
            refine lv_aload_n hx hb dd_L_law_316 rfl (lv_at hl 5 rfl) ?_
            refine lv_iconst (v := 0) hx hb dd_L_law_317 (by decide) ?_
            obtain ⟨k114, k114i, hw⟩ := hw
            refine px_lald C0 hG k114 k114i dd_L_law_318 ?_
            refine lv_lload hx hb dd_L_law_319 (lv_at hl 0 rfl) ?_
            refine W.lcmp hx hb dd_L_law_321 ?_
            refine lv_if_eq (tgt := 327) hx hb dd_L_law_322 (by decide) (fun c115 => ?_) (fun c115 => ?_)
            · replace hw := hw.1 c115
              exact wk_L_law_327 C0 hfl hr hlk hsz hX hbl hbA ih _ _ _ _ _ _ _ _ _ _ hw hG hS hkc (lv_sub hl [2, 3, 4, 5, 6] rfl)
            · replace hw := hw.2 c115
              refine lv_iconst (v := 0) hx hb dd_L_law_325 (by decide) ?_
              exact re_law C0 hr hlk hsz hS hkc (0) hw dd_L_law_326
        · replace hw := hw.2 c112
          refine lv_iconst (v := 0) hx hb dd_L_law_309 (by decide) ?_
          exact re_law C0 hr hlk hsz hS hkc (0) hw dd_L_law_310
      · replace hw := hw.2.2.2.2.2.1 z
        refine lv_tableIn (tgt := 330) hx hb dd_L_law_39 (by omega) (by omega) (by rw [z]; rfl) (by decide) ?_
        refine lv_aload_n hx hb dd_L_law_330 rfl (lv_at hl 1 rfl) ?_
        refine lv_aload_n hx hb dd_L_law_331 rfl (lv_at hl 0 rfl) ?_
        refine lv_iload hx hb dd_L_law_332 (lv_at hl 4 rfl) ?_
        refine lv_iconst (v := 1) hx hb dd_L_law_334 (by decide) ?_
        refine lv_iadd hx hb dd_L_law_335 ?_
        refine lv_topi (fun x116 ex116 => ?_)
        replace hw := hw x116 ex116
        obtain ⟨k117, hw⟩ := hw
        refine va_sld hx hb hX hbl hbA hS k117 dd_L_law_336 ?_
        refine lv_topi (fun x118 ex118 => ?_)
        replace hw := hw x118 ex118
        obtain ⟨k119, hw⟩ := hw
        refine ca_i hS (rn_V C0 hG hS (c_S_sync l g _ h v1 x118 hw) (ci := 0) k119 (by decide) rfl rfl (host := "") (nest := false) (n := 1) (As := [.int x118]) (rest := []) km_554 km_553 km_555 km_556 km_176 ⟨by decide, by decide, by decide +kernel⟩ ⟨Nat.le_of_ble_eq_true rfl, Nat.le_of_ble_eq_true rfl⟩ rfl hl.1 rfl (Nat.le_of_ble_eq_true rfl) dd_L_law_337 hkc) (fun x121 h120 H locs hw hG hS => ?_)
        refine lv_aload_n hx hb dd_L_law_340 rfl (lv_at hl 2 rfl) ?_
        refine lv_aload_n hx hb dd_L_law_341 rfl (lv_at hl 0 rfl) ?_
        refine lv_iload hx hb dd_L_law_342 (lv_at hl 4 rfl) ?_
        refine lv_iconst (v := 1) hx hb dd_L_law_344 (by decide) ?_
        refine lv_iadd hx hb dd_L_law_345 ?_
        refine lv_topi (fun x122 ex122 => ?_)
        replace hw := hw x122 ex122
        obtain ⟨k123, hw⟩ := hw
        refine va_sld hx hb hX hbl hbA hS k123 dd_L_law_346 ?_
        refine lv_topi (fun x124 ex124 => ?_)
        replace hw := hw x124 ex124
        obtain ⟨k125, hw⟩ := hw
        refine ca_i hS (rn_V C0 hG hS (c_M_sync l g _ h120 v2 x124 hw) (ci := 4) k125 (by decide) rfl rfl (host := "") (nest := false) (n := 1) (As := [.int x124]) (rest := [.int x121]) km_550 km_549 km_551 km_552 km_421 ⟨by decide, by decide, by decide +kernel⟩ ⟨Nat.le_of_ble_eq_true rfl, Nat.le_of_ble_eq_true rfl⟩ rfl hl.1 rfl (Nat.le_of_ble_eq_true rfl) dd_L_law_347 hkc) (fun x127 h126 H locs hw hG hS => ?_)
        refine lv_icmp_eq (tgt := 610) hx hb dd_L_law_350 (by decide) (fun c128 => ?_) (fun c128 => ?_)
        · replace hw := hw.1 c128
          exact wk_L_law_610 C0 hfl hr hlk hsz hX hbl hbA ih _ _ _ _ _ _ _ _ _ _ hw hG hS hkc (lv_sub hl [0, 1, 2, 3, 4] rfl)
        · replace hw := hw.2 c128
          refine lv_iconst (v := 0) hx hb dd_L_law_353 (by decide) ?_
          exact re_law C0 hr hlk hsz hS hkc (0) hw dd_L_law_354
      · replace hw := hw.2.2.2.2.2.2.1 z
        refine lv_tableIn (tgt := 355) hx hb dd_L_law_39 (by omega) (by omega) (by rw [z]; rfl) (by decide) ?_
        refine lv_aload_n hx hb dd_L_law_355 rfl (lv_at hl 1 rfl) ?_
        refine lv_aload_n hx hb dd_L_law_356 rfl (lv_at hl 0 rfl) ?_
        refine lv_iload hx hb dd_L_law_357 (lv_at hl 4 rfl) ?_
        refine lv_iconst (v := 1) hx hb dd_L_law_359 (by decide) ?_
        refine lv_iadd hx hb dd_L_law_360 ?_
        refine lv_topi (fun x129 ex129 => ?_)
        replace hw := hw x129 ex129
        obtain ⟨k130, hw⟩ := hw
        refine va_sld hx hb hX hbl hbA hS k130 dd_L_law_361 ?_
        refine lv_topi (fun x131 ex131 => ?_)
        replace hw := hw x131 ex131
        obtain ⟨k132, hw⟩ := hw
        refine ca_i hS (rn_V C0 hG hS (c_S_backout l g _ h v1 x131 hw) (ci := 0) k132 (by decide) rfl rfl (host := "") (nest := false) (n := 1) (As := [.int x131]) (rest := []) km_562 km_561 km_563 km_564 km_176 ⟨by decide, by decide, by decide +kernel⟩ ⟨Nat.le_of_ble_eq_true rfl, Nat.le_of_ble_eq_true rfl⟩ rfl hl.1 rfl (Nat.le_of_ble_eq_true rfl) dd_L_law_362 hkc) (fun x134 h133 H locs hw hG hS => ?_)
        refine lv_aload_n hx hb dd_L_law_365 rfl (lv_at hl 2 rfl) ?_
        refine lv_aload_n hx hb dd_L_law_366 rfl (lv_at hl 0 rfl) ?_
        refine lv_iload hx hb dd_L_law_367 (lv_at hl 4 rfl) ?_
        refine lv_iconst (v := 1) hx hb dd_L_law_369 (by decide) ?_
        refine lv_iadd hx hb dd_L_law_370 ?_
        refine lv_topi (fun x135 ex135 => ?_)
        replace hw := hw x135 ex135
        obtain ⟨k136, hw⟩ := hw
        refine va_sld hx hb hX hbl hbA hS k136 dd_L_law_371 ?_
        refine lv_topi (fun x137 ex137 => ?_)
        replace hw := hw x137 ex137
        obtain ⟨k138, hw⟩ := hw
        refine ca_i hS (rn_V C0 hG hS (c_M_backout l g _ h133 v2 x137 hw) (ci := 4) k138 (by decide) rfl rfl (host := "") (nest := false) (n := 1) (As := [.int x137]) (rest := [.int x134]) km_558 km_557 km_559 km_560 km_421 ⟨by decide, by decide, by decide +kernel⟩ ⟨Nat.le_of_ble_eq_true rfl, Nat.le_of_ble_eq_true rfl⟩ rfl hl.1 rfl (Nat.le_of_ble_eq_true rfl) dd_L_law_372 hkc) (fun x140 h139 H locs hw hG hS => ?_)
        refine lv_icmp_eq (tgt := 610) hx hb dd_L_law_375 (by decide) (fun c141 => ?_) (fun c141 => ?_)
        · replace hw := hw.1 c141
          exact wk_L_law_610 C0 hfl hr hlk hsz hX hbl hbA ih _ _ _ _ _ _ _ _ _ _ hw hG hS hkc (lv_sub hl [0, 1, 2, 3, 4] rfl)
        · replace hw := hw.2 c141
          refine lv_iconst (v := 0) hx hb dd_L_law_378 (by decide) ?_
          exact re_law C0 hr hlk hsz hS hkc (0) hw dd_L_law_379
      · replace hw := hw.2.2.2.2.2.2.2.1 z
        refine lv_tableIn (tgt := 380) hx hb dd_L_law_39 (by omega) (by omega) (by rw [z]; rfl) (by decide) ?_
        refine lv_aload_n hx hb dd_L_law_380 rfl (lv_at hl 1 rfl) ?_
        refine lv_aload_n hx hb dd_L_law_381 rfl (lv_at hl 0 rfl) ?_
        refine lv_iload hx hb dd_L_law_382 (lv_at hl 4 rfl) ?_
        refine lv_iconst (v := 1) hx hb dd_L_law_384 (by decide) ?_
        refine lv_iadd hx hb dd_L_law_385 ?_
        refine lv_topi (fun x142 ex142 => ?_)
        replace hw := hw x142 ex142
        obtain ⟨k143, hw⟩ := hw
        refine va_sld hx hb hX hbl hbA hS k143 dd_L_law_386 ?_
        refine lv_topi (fun x144 ex144 => ?_)
        replace hw := hw x144 ex144
        obtain ⟨k145, hw⟩ := hw
        have hw0 := hw
        clear hw
        refine cs_i (rn_V C0 hG hS (c_S_ring l g _ h v1 x144 hw0) (ci := 0) k145 (by decide) rfl rfl (host := "") (nest := false) (n := 1) (As := [.int x144]) (rest := []) km_570 km_569 km_571 km_572 km_176 ⟨by decide, by decide, by decide +kernel⟩ ⟨Nat.le_of_ble_eq_true rfl, Nat.le_of_ble_eq_true rfl⟩ rfl hl.1 rfl (Nat.le_of_ble_eq_true rfl) dd_L_law_387 hkc) (fun x147 hw => ?_)
        refine lv_aload_n hx hb dd_L_law_390 rfl (lv_at hl 2 rfl) ?_
        refine lv_aload_n hx hb dd_L_law_391 rfl (lv_at hl 0 rfl) ?_
        refine lv_iload hx hb dd_L_law_392 (lv_at hl 4 rfl) ?_
        refine lv_iconst (v := 1) hx hb dd_L_law_394 (by decide) ?_
        refine lv_iadd hx hb dd_L_law_395 ?_
        refine lv_topi (fun x148 ex148 => ?_)
        replace hw := hw x148 ex148
        obtain ⟨k149, hw⟩ := hw
        refine va_sld hx hb hX hbl hbA hS k149 dd_L_law_396 ?_
        refine lv_topi (fun x150 ex150 => ?_)
        replace hw := hw x150 ex150
        obtain ⟨k151, hw⟩ := hw
        refine ca_i hS (rn_V C0 hG hS (c_M_ring l g _ h v2 x150 hw) (ci := 4) k151 (by decide) rfl rfl (host := "") (nest := false) (n := 1) (As := [.int x150]) (rest := [.int x147]) km_566 km_565 km_567 km_568 km_421 ⟨by decide, by decide, by decide +kernel⟩ ⟨Nat.le_of_ble_eq_true rfl, Nat.le_of_ble_eq_true rfl⟩ rfl hl.1 rfl (Nat.le_of_ble_eq_true rfl) dd_L_law_397 hkc) (fun x153 h152 H locs hw hG hS => ?_)
        refine lv_icmp_eq (tgt := 610) hx hb dd_L_law_400 (by decide) (fun c154 => ?_) (fun c154 => ?_)
        · replace hw := hw.1 c154
          exact wk_L_law_610 C0 hfl hr hlk hsz hX hbl hbA ih _ _ _ _ _ _ _ _ _ _ hw hG hS hkc (lv_sub hl [0, 1, 2, 3, 4] rfl)
        · replace hw := hw.2 c154
          refine lv_iconst (v := 0) hx hb dd_L_law_403 (by decide) ?_
          exact re_law C0 hr hlk hsz hS hkc (0) hw dd_L_law_404
      · replace hw := hw.2.2.2.2.2.2.2.2.1 z
        refine lv_tableIn (tgt := 405) hx hb dd_L_law_39 (by omega) (by omega) (by rw [z]; rfl) (by decide) ?_
        refine lv_aload_n hx hb dd_L_law_405 rfl (lv_at hl 1 rfl) ?_
        refine lv_aload_n hx hb dd_L_law_406 rfl (lv_at hl 0 rfl) ?_
        refine lv_iload hx hb dd_L_law_407 (lv_at hl 4 rfl) ?_
        refine lv_iconst (v := 1) hx hb dd_L_law_409 (by decide) ?_
        refine lv_iadd hx hb dd_L_law_410 ?_
        refine lv_topi (fun x155 ex155 => ?_)
        replace hw := hw x155 ex155
        obtain ⟨k156, hw⟩ := hw
        refine va_sld hx hb hX hbl hbA hS k156 dd_L_law_411 ?_
        refine lv_topi (fun x157 ex157 => ?_)
        replace hw := hw x157 ex157
        obtain ⟨k158, hw⟩ := hw
        refine ca_i hS (rn_V C0 hG hS (c_S_checkpoint l g _ h v1 x157 hw) (ci := 0) k158 (by decide) rfl rfl (host := "") (nest := false) (n := 1) (As := [.int x157]) (rest := []) km_578 km_577 km_579 km_580 km_176 ⟨by decide, by decide, by decide +kernel⟩ ⟨Nat.le_of_ble_eq_true rfl, Nat.le_of_ble_eq_true rfl⟩ rfl hl.1 rfl (Nat.le_of_ble_eq_true rfl) dd_L_law_412 hkc) (fun x160 h159 H locs hw hG hS => ?_)
        refine lv_aload_n hx hb dd_L_law_415 rfl (lv_at hl 2 rfl) ?_
        refine lv_aload_n hx hb dd_L_law_416 rfl (lv_at hl 0 rfl) ?_
        refine lv_iload hx hb dd_L_law_417 (lv_at hl 4 rfl) ?_
        refine lv_iconst (v := 1) hx hb dd_L_law_419 (by decide) ?_
        refine lv_iadd hx hb dd_L_law_420 ?_
        refine lv_topi (fun x161 ex161 => ?_)
        replace hw := hw x161 ex161
        obtain ⟨k162, hw⟩ := hw
        refine va_sld hx hb hX hbl hbA hS k162 dd_L_law_421 ?_
        refine lv_topi (fun x163 ex163 => ?_)
        replace hw := hw x163 ex163
        obtain ⟨k164, hw⟩ := hw
        refine ca_i hS (rn_V C0 hG hS (c_M_checkpoint l g _ h159 v2 x163 hw) (ci := 4) k164 (by decide) rfl rfl (host := "") (nest := false) (n := 1) (As := [.int x163]) (rest := [.int x160]) km_574 km_573 km_575 km_576 km_421 ⟨by decide, by decide, by decide +kernel⟩ ⟨Nat.le_of_ble_eq_true rfl, Nat.le_of_ble_eq_true rfl⟩ rfl hl.1 rfl (Nat.le_of_ble_eq_true rfl) dd_L_law_422 hkc) (fun x166 h165 H locs hw hG hS => ?_)
        refine lv_icmp_eq (tgt := 610) hx hb dd_L_law_425 (by decide) (fun c167 => ?_) (fun c167 => ?_)
        · replace hw := hw.1 c167
          exact wk_L_law_610 C0 hfl hr hlk hsz hX hbl hbA ih _ _ _ _ _ _ _ _ _ _ hw hG hS hkc (lv_sub hl [0, 1, 2, 3, 4] rfl)
        · replace hw := hw.2 c167
          refine lv_iconst (v := 0) hx hb dd_L_law_428 (by decide) ?_
          exact re_law C0 hr hlk hsz hS hkc (0) hw dd_L_law_429
      · replace hw := hw.2.2.2.2.2.2.2.2.2.1 z
        refine lv_tableIn (tgt := 430) hx hb dd_L_law_39 (by omega) (by omega) (by rw [z]; rfl) (by decide) ?_
        refine lv_aload_n hx hb dd_L_law_430 rfl (lv_at hl 1 rfl) ?_
        refine lv_aload_n hx hb dd_L_law_431 rfl (lv_at hl 0 rfl) ?_
        refine lv_iload hx hb dd_L_law_432 (lv_at hl 4 rfl) ?_
        refine lv_iconst (v := 1) hx hb dd_L_law_434 (by decide) ?_
        refine lv_iadd hx hb dd_L_law_435 ?_
        refine lv_topi (fun x168 ex168 => ?_)
        replace hw := hw x168 ex168
        obtain ⟨k169, hw⟩ := hw
        refine va_sld hx hb hX hbl hbA hS k169 dd_L_law_436 ?_
        refine lv_topi (fun x170 ex170 => ?_)
        replace hw := hw x170 ex170
        obtain ⟨k171, hw⟩ := hw
        refine ca_i hS (rn_V C0 hG hS (c_S_dead l g _ h v1 x170 hw) (ci := 0) k171 (by decide) rfl rfl (host := "") (nest := false) (n := 1) (As := [.int x170]) (rest := []) km_586 km_585 km_587 km_588 km_176 ⟨by decide, by decide, by decide +kernel⟩ ⟨Nat.le_of_ble_eq_true rfl, Nat.le_of_ble_eq_true rfl⟩ rfl hl.1 rfl (Nat.le_of_ble_eq_true rfl) dd_L_law_437 hkc) (fun x173 h172 H locs hw hG hS => ?_)
        refine lv_aload_n hx hb dd_L_law_440 rfl (lv_at hl 2 rfl) ?_
        refine lv_aload_n hx hb dd_L_law_441 rfl (lv_at hl 0 rfl) ?_
        refine lv_iload hx hb dd_L_law_442 (lv_at hl 4 rfl) ?_
        refine lv_iconst (v := 1) hx hb dd_L_law_444 (by decide) ?_
        refine lv_iadd hx hb dd_L_law_445 ?_
        refine lv_topi (fun x174 ex174 => ?_)
        replace hw := hw x174 ex174
        obtain ⟨k175, hw⟩ := hw
        refine va_sld hx hb hX hbl hbA hS k175 dd_L_law_446 ?_
        refine lv_topi (fun x176 ex176 => ?_)
        replace hw := hw x176 ex176
        obtain ⟨k177, hw⟩ := hw
        refine ca_i hS (rn_V C0 hG hS (c_M_dead l g _ h172 v2 x176 hw) (ci := 4) k177 (by decide) rfl rfl (host := "") (nest := false) (n := 1) (As := [.int x176]) (rest := [.int x173]) km_582 km_581 km_583 km_584 km_421 ⟨by decide, by decide, by decide +kernel⟩ ⟨Nat.le_of_ble_eq_true rfl, Nat.le_of_ble_eq_true rfl⟩ rfl hl.1 rfl (Nat.le_of_ble_eq_true rfl) dd_L_law_447 hkc) (fun x179 h178 H locs hw hG hS => ?_)
        refine lv_icmp_eq (tgt := 610) hx hb dd_L_law_450 (by decide) (fun c180 => ?_) (fun c180 => ?_)
        · replace hw := hw.1 c180
          exact wk_L_law_610 C0 hfl hr hlk hsz hX hbl hbA ih _ _ _ _ _ _ _ _ _ _ hw hG hS hkc (lv_sub hl [0, 1, 2, 3, 4] rfl)
        · replace hw := hw.2 c180
          refine lv_iconst (v := 0) hx hb dd_L_law_453 (by decide) ?_
          exact re_law C0 hr hlk hsz hS hkc (0) hw dd_L_law_454
      · replace hw := hw.2.2.2.2.2.2.2.2.2.2.1 z
        refine lv_tableIn (tgt := 455) hx hb dd_L_law_39 (by omega) (by omega) (by rw [z]; rfl) (by decide) ?_
        refine lv_aload_n hx hb dd_L_law_455 rfl (lv_at hl 1 rfl) ?_
        refine lv_aload_n hx hb dd_L_law_456 rfl (lv_at hl 0 rfl) ?_
        refine lv_iload hx hb dd_L_law_457 (lv_at hl 4 rfl) ?_
        refine lv_iconst (v := 1) hx hb dd_L_law_459 (by decide) ?_
        refine lv_iadd hx hb dd_L_law_460 ?_
        refine lv_topi (fun x181 ex181 => ?_)
        replace hw := hw x181 ex181
        obtain ⟨k182, hw⟩ := hw
        refine va_sld hx hb hX hbl hbA hS k182 dd_L_law_461 ?_
        refine lv_topi (fun x183 ex183 => ?_)
        replace hw := hw x183 ex183
        obtain ⟨k184, hw⟩ := hw
        refine ca_i hS (rn_V C0 hG hS (c_S_limit l g _ h v1 x183 hw) (ci := 0) k184 (by decide) rfl rfl (host := "") (nest := false) (n := 1) (As := [.int x183]) (rest := []) km_594 km_593 km_595 km_596 km_176 ⟨by decide, by decide, by decide +kernel⟩ ⟨Nat.le_of_ble_eq_true rfl, Nat.le_of_ble_eq_true rfl⟩ rfl hl.1 rfl (Nat.le_of_ble_eq_true rfl) dd_L_law_462 hkc) (fun x186 h185 H locs hw hG hS => ?_)
        refine lv_aload_n hx hb dd_L_law_465 rfl (lv_at hl 2 rfl) ?_
        refine lv_aload_n hx hb dd_L_law_466 rfl (lv_at hl 0 rfl) ?_
        refine lv_iload hx hb dd_L_law_467 (lv_at hl 4 rfl) ?_
        refine lv_iconst (v := 1) hx hb dd_L_law_469 (by decide) ?_
        refine lv_iadd hx hb dd_L_law_470 ?_
        refine lv_topi (fun x187 ex187 => ?_)
        replace hw := hw x187 ex187
        obtain ⟨k188, hw⟩ := hw
        refine va_sld hx hb hX hbl hbA hS k188 dd_L_law_471 ?_
        refine lv_topi (fun x189 ex189 => ?_)
        replace hw := hw x189 ex189
        obtain ⟨k190, hw⟩ := hw
        refine ca_i hS (rn_V C0 hG hS (c_M_limit l g _ h185 v2 x189 hw) (ci := 4) k190 (by decide) rfl rfl (host := "") (nest := false) (n := 1) (As := [.int x189]) (rest := [.int x186]) km_590 km_589 km_591 km_592 km_421 ⟨by decide, by decide, by decide +kernel⟩ ⟨Nat.le_of_ble_eq_true rfl, Nat.le_of_ble_eq_true rfl⟩ rfl hl.1 rfl (Nat.le_of_ble_eq_true rfl) dd_L_law_472 hkc) (fun x192 h191 H locs hw hG hS => ?_)
        refine lv_icmp_eq (tgt := 610) hx hb dd_L_law_475 (by decide) (fun c193 => ?_) (fun c193 => ?_)
        · replace hw := hw.1 c193
          exact wk_L_law_610 C0 hfl hr hlk hsz hX hbl hbA ih _ _ _ _ _ _ _ _ _ _ hw hG hS hkc (lv_sub hl [0, 1, 2, 3, 4] rfl)
        · replace hw := hw.2 c193
          refine lv_iconst (v := 0) hx hb dd_L_law_478 (by decide) ?_
          exact re_law C0 hr hlk hsz hS hkc (0) hw dd_L_law_479
      · replace hw := hw.2.2.2.2.2.2.2.2.2.2.2.1 z
        refine lv_tableIn (tgt := 480) hx hb dd_L_law_39 (by omega) (by omega) (by rw [z]; rfl) (by decide) ?_
        refine lv_aload_n hx hb dd_L_law_480 rfl (lv_at hl 1 rfl) ?_
        refine lv_aload_n hx hb dd_L_law_481 rfl (lv_at hl 0 rfl) ?_
        refine lv_iload hx hb dd_L_law_482 (lv_at hl 4 rfl) ?_
        refine lv_iconst (v := 1) hx hb dd_L_law_484 (by decide) ?_
        refine lv_iadd hx hb dd_L_law_485 ?_
        refine lv_topi (fun x194 ex194 => ?_)
        replace hw := hw x194 ex194
        obtain ⟨k195, hw⟩ := hw
        refine va_sld hx hb hX hbl hbA hS k195 dd_L_law_486 ?_
        refine lv_topi (fun x196 ex196 => ?_)
        replace hw := hw x196 ex196
        obtain ⟨k197, hw⟩ := hw
        have hw0 := hw
        clear hw
        refine cs_i (rn_V C0 hG hS (c_S_holder l g _ h v1 x196 hw0) (ci := 0) k197 (by decide) rfl rfl (host := "") (nest := false) (n := 1) (As := [.int x196]) (rest := []) km_602 km_601 km_603 km_604 km_176 ⟨by decide, by decide, by decide +kernel⟩ ⟨Nat.le_of_ble_eq_true rfl, Nat.le_of_ble_eq_true rfl⟩ rfl hl.1 rfl (Nat.le_of_ble_eq_true rfl) dd_L_law_487 hkc) (fun x199 hw => ?_)
        refine lv_aload_n hx hb dd_L_law_490 rfl (lv_at hl 2 rfl) ?_
        refine lv_aload_n hx hb dd_L_law_491 rfl (lv_at hl 0 rfl) ?_
        refine lv_iload hx hb dd_L_law_492 (lv_at hl 4 rfl) ?_
        refine lv_iconst (v := 1) hx hb dd_L_law_494 (by decide) ?_
        refine lv_iadd hx hb dd_L_law_495 ?_
        refine lv_topi (fun x200 ex200 => ?_)
        replace hw := hw x200 ex200
        obtain ⟨k201, hw⟩ := hw
        refine va_sld hx hb hX hbl hbA hS k201 dd_L_law_496 ?_
        refine lv_topi (fun x202 ex202 => ?_)
        replace hw := hw x202 ex202
        obtain ⟨k203, hw⟩ := hw
        refine ca_i hS (rn_V C0 hG hS (c_M_holder l g _ h v2 x202 hw) (ci := 4) k203 (by decide) rfl rfl (host := "") (nest := false) (n := 1) (As := [.int x202]) (rest := [.int x199]) km_598 km_597 km_599 km_600 km_421 ⟨by decide, by decide, by decide +kernel⟩ ⟨Nat.le_of_ble_eq_true rfl, Nat.le_of_ble_eq_true rfl⟩ rfl hl.1 rfl (Nat.le_of_ble_eq_true rfl) dd_L_law_497 hkc) (fun x205 h204 H locs hw hG hS => ?_)
        refine lv_icmp_eq (tgt := 610) hx hb dd_L_law_500 (by decide) (fun c206 => ?_) (fun c206 => ?_)
        · replace hw := hw.1 c206
          exact wk_L_law_610 C0 hfl hr hlk hsz hX hbl hbA ih _ _ _ _ _ _ _ _ _ _ hw hG hS hkc (lv_sub hl [0, 1, 2, 3, 4] rfl)
        · replace hw := hw.2 c206
          refine lv_iconst (v := 0) hx hb dd_L_law_503 (by decide) ?_
          exact re_law C0 hr hlk hsz hS hkc (0) hw dd_L_law_504
      · replace hw := hw.2.2.2.2.2.2.2.2.2.2.2.2.1 z
        refine lv_tableIn (tgt := 505) hx hb dd_L_law_39 (by omega) (by omega) (by rw [z]; rfl) (by decide) ?_
        refine lv_aload_n hx hb dd_L_law_505 rfl (lv_at hl 1 rfl) ?_
        obtain ⟨k207, hw⟩ := hw
        have hw0 := hw
        clear hw
        refine cs_i (rn_V C0 hG hS (c_S_serial l g _ h v1 hw0) (ci := 0) k207 (by decide) rfl rfl (host := "") (nest := false) (n := 0) (As := []) (rest := []) km_610 km_609 km_611 km_612 km_176 ⟨by decide, by decide, by decide +kernel⟩ ⟨Nat.le_of_ble_eq_true rfl, Nat.le_of_ble_eq_true rfl⟩ rfl hl.1 rfl (Nat.le_of_ble_eq_true rfl) dd_L_law_506 hkc) (fun x209 hw => ?_)
        refine lv_aload_n hx hb dd_L_law_509 rfl (lv_at hl 2 rfl) ?_
        obtain ⟨k210, hw⟩ := hw
        refine ca_i hS (rn_V C0 hG hS (c_M_serial l g _ h v2 hw) (ci := 4) k210 (by decide) rfl rfl (host := "") (nest := false) (n := 0) (As := []) (rest := [.int x209]) km_606 km_605 km_607 km_608 km_421 ⟨by decide, by decide, by decide +kernel⟩ ⟨Nat.le_of_ble_eq_true rfl, Nat.le_of_ble_eq_true rfl⟩ rfl hl.1 rfl (Nat.le_of_ble_eq_true rfl) dd_L_law_510 hkc) (fun x212 h211 H locs hw hG hS => ?_)
        refine lv_icmp_eq (tgt := 610) hx hb dd_L_law_513 (by decide) (fun c213 => ?_) (fun c213 => ?_)
        · replace hw := hw.1 c213
          exact wk_L_law_610 C0 hfl hr hlk hsz hX hbl hbA ih _ _ _ _ _ _ _ _ _ _ hw hG hS hkc (lv_sub hl [0, 1, 2, 3, 4] rfl)
        · replace hw := hw.2 c213
          refine lv_iconst (v := 0) hx hb dd_L_law_516 (by decide) ?_
          exact re_law C0 hr hlk hsz hS hkc (0) hw dd_L_law_517
      · replace hw := hw.2.2.2.2.2.2.2.2.2.2.2.2.2.1 z
        refine lv_tableIn (tgt := 518) hx hb dd_L_law_39 (by omega) (by omega) (by rw [z]; rfl) (by decide) ?_
        refine lv_aload_n hx hb dd_L_law_518 rfl (lv_at hl 1 rfl) ?_
        refine lv_aload_n hx hb dd_L_law_519 rfl (lv_at hl 0 rfl) ?_
        refine lv_iload hx hb dd_L_law_520 (lv_at hl 4 rfl) ?_
        refine lv_iconst (v := 1) hx hb dd_L_law_522 (by decide) ?_
        refine lv_iadd hx hb dd_L_law_523 ?_
        refine lv_topi (fun x214 ex214 => ?_)
        replace hw := hw x214 ex214
        obtain ⟨k215, hw⟩ := hw
        refine va_sld hx hb hX hbl hbA hS k215 dd_L_law_524 ?_
        refine lv_topi (fun x216 ex216 => ?_)
        replace hw := hw x216 ex216
        refine lv_aload_n hx hb dd_L_law_525 rfl (lv_at hl 3 rfl) ?_
        obtain ⟨mc220, ms221, hc1, hc2, hw⟩ := hw
        refine ca_i hS (rn_SW C0 hG hS (c_L_value l hfl g _ mc220 ms221 h v1 x216 v3 hw) (n := 3) (As := [.ref v1, .int x216, .ref v3]) (rest := []) km_618 km_617 km_619 km_547 ⟨by decide, by decide, by decide +kernel⟩ ⟨Nat.le_of_ble_eq_true rfl, Nat.le_of_ble_eq_true rfl⟩ rfl hl.1 rfl (Nat.le_of_ble_eq_true rfl) dd_L_law_526 ⟨hc1, hc2⟩) (fun x219 h218 H locs hw hG hS => ?_)
        have hkc := And.intro hc1 hc2
        have hl0 := hl
        clear hl
        refine lv_istore (lv' := [(5, .int x219), (0, .ref b), (1, .ref v1), (2, .ref v2), (3, .ref v3), (4, .int v4)]) hx hb dd_L_law_529 hl0 (by decide) rfl (fun ls hl => ?_)
        refine lv_aload_n hx hb dd_L_law_531 rfl (lv_at hl 3 rfl) ?_
        refine lv_aload_n hx hb dd_L_law_532 rfl (lv_at hl 1 rfl) ?_
        refine lv_iload hx hb dd_L_law_533 (lv_at hl 5 rfl) ?_
        refine lv_iconst (v := 1) hx hb dd_L_law_535 (by decide) ?_
        refine lv_iadd hx hb dd_L_law_536 ?_
        refine lv_topi (fun x222 ex222 => ?_)
        replace hw := hw x222 ex222
        obtain ⟨k223, hw⟩ := hw
        refine va_sld hx hb hX hbl hbA hS k223 dd_L_law_537 ?_
        refine lv_topi (fun x224 ex224 => ?_)
        replace hw := hw x224 ex224
        obtain ⟨k225, hw⟩ := hw
        refine ca_l hS (rn_V C0 hG hS (c_M_value l g _ h218 v2 x224 hw) (ci := 4) k225 (by decide) rfl rfl (host := "") (nest := false) (n := 1) (As := [.int x224]) (rest := []) km_614 km_613 km_615 km_616 km_421 ⟨by decide, by decide, by decide +kernel⟩ ⟨Nat.le_of_ble_eq_true rfl, Nat.le_of_ble_eq_true rfl⟩ rfl hl.1 rfl (Nat.le_of_ble_eq_true rfl) dd_L_law_538 hkc) (fun j227 h226 H locs hw hG hS => ?_)
        have hl0 := hl
        clear hl
        refine lv_lstore (lv' := [(6, .long j227), (5, .int x219), (0, .ref b), (1, .ref v1), (2, .ref v2), (3, .ref v3), (4, .int v4)]) hx hb dd_L_law_541 hl0 (by decide) rfl (fun ls hl => ?_)
        refine lv_aload_n hx hb dd_L_law_543 rfl (lv_at hl 4 rfl) ?_
        obtain ⟨k228, hw⟩ := hw
        have hw0 := hw
        clear hw
        refine cs_i (rn_V C0 hG hS (c_M_thrown l g _ h226 v2 hw0) (ci := 4) k228 (by decide) rfl rfl (host := "") (nest := false) (n := 0) (As := []) (rest := []) km_538 km_537 km_539 km_540 km_421 ⟨by decide, by decide, by decide +kernel⟩ ⟨Nat.le_of_ble_eq_true rfl, Nat.le_of_ble_eq_true rfl⟩ rfl hl.1 rfl (Nat.le_of_ble_eq_true rfl) dd_L_law_544 hkc) (fun x230 hw => ?_)
        refine lv_iload hx hb dd_L_law_547 (lv_at hl 1 rfl) ?_
        refine lv_icmp_eq (tgt := 554) hx hb dd_L_law_549 (by decide) (fun c231 => ?_) (fun c231 => ?_)
        · replace hw := hw.1 c231
          refine lv_iload hx hb dd_L_law_554 (lv_at hl 1 rfl) ?_
          refine lv_if_ne (tgt := 570) hx hb dd_L_law_556 (by decide) (fun c232 => ?_) (fun c232 => ?_)
          · replace hw := hw.1 c232
            exact wk_L_law_570 C0 hfl hr hlk hsz hX hbl hbA ih _ _ _ _ _ _ _ _ _ _ hw hG hS hkc (lv_sub hl [2, 3, 4, 5, 6] rfl)
          · replace hw := hw.2 c232
            refine lv_aload_n hx hb dd_L_law_559 rfl (lv_at hl 5 rfl) ?_
            refine lv_iconst (v := 0) hx hb dd_L_law_560 (by decide) ?_
            obtain ⟨k233, k233i, hw⟩ := hw
            refine px_lald C0 hG k233 k233i dd_L_law_561 ?_
            refine lv_lload hx hb dd_L_law_562 (lv_at hl 0 rfl) ?_
            refine W.lcmp hx hb dd_L_law_564 ?_
            refine lv_if_eq (tgt := 570) hx hb dd_L_law_565 (by decide) (fun c234 => ?_) (fun c234 => ?_)
            · replace hw := hw.1 c234
              exact wk_L_law_570 C0 hfl hr hlk hsz hX hbl hbA ih _ _ _ _ _ _ _ _ _ _ hw hG hS hkc (lv_sub hl [2, 3, 4, 5, 6] rfl)
            · replace hw := hw.2 c234
              refine lv_iconst (v := 0) hx hb dd_L_law_568 (by decide) ?_
              exact re_law C0 hr hlk hsz hS hkc (0) hw dd_L_law_569
        · replace hw := hw.2 c231
          refine lv_iconst (v := 0) hx hb dd_L_law_552 (by decide) ?_
          exact re_law C0 hr hlk hsz hS hkc (0) hw dd_L_law_553
      · replace hw := hw.2.2.2.2.2.2.2.2.2.2.2.2.2.2 z
        refine lv_tableIn (tgt := 573) hx hb dd_L_law_39 (by omega) (by omega) (by rw [z]; rfl) (by decide) ?_
        refine lv_aload_n hx hb dd_L_law_573 rfl (lv_at hl 1 rfl) ?_
        refine lv_aload_n hx hb dd_L_law_574 rfl (lv_at hl 0 rfl) ?_
        refine lv_iload hx hb dd_L_law_575 (lv_at hl 4 rfl) ?_
        refine lv_iconst (v := 1) hx hb dd_L_law_577 (by decide) ?_
        refine lv_iadd hx hb dd_L_law_578 ?_
        refine lv_topi (fun x235 ex235 => ?_)
        replace hw := hw x235 ex235
        obtain ⟨k236, hw⟩ := hw
        refine va_sld hx hb hX hbl hbA hS k236 dd_L_law_579 ?_
        refine lv_topi (fun x237 ex237 => ?_)
        replace hw := hw x237 ex237
        refine lv_aload_n hx hb dd_L_law_580 rfl (lv_at hl 0 rfl) ?_
        refine lv_iload hx hb dd_L_law_581 (lv_at hl 4 rfl) ?_
        refine lv_iconst (v := 2) hx hb dd_L_law_583 (by decide) ?_
        refine lv_iadd hx hb dd_L_law_584 ?_
        refine lv_topi (fun x238 ex238 => ?_)
        replace hw := hw x238 ex238
        obtain ⟨k239, hw⟩ := hw
        refine va_sld hx hb hX hbl hbA hS k239 dd_L_law_585 ?_
        refine lv_topi (fun x240 ex240 => ?_)
        replace hw := hw x240 ex240
        obtain ⟨k241, hw⟩ := hw
        have hw0 := hw
        clear hw
        refine cs_i (rn_V C0 hG hS (c_S_state l g _ h v1 x237 x240 hw0) (ci := 0) k241 (by decide) rfl rfl (host := "") (nest := false) (n := 2) (As := [.int x237, .int x240]) (rest := []) km_625 km_624 km_626 km_627 km_176 ⟨by decide, by decide, by decide +kernel⟩ ⟨Nat.le_of_ble_eq_true rfl, Nat.le_of_ble_eq_true rfl⟩ rfl hl.1 rfl (Nat.le_of_ble_eq_true rfl) dd_L_law_586 hkc) (fun x243 hw => ?_)
        refine lv_aload_n hx hb dd_L_law_589 rfl (lv_at hl 2 rfl) ?_
        refine lv_aload_n hx hb dd_L_law_590 rfl (lv_at hl 0 rfl) ?_
        refine lv_iload hx hb dd_L_law_591 (lv_at hl 4 rfl) ?_
        refine lv_iconst (v := 1) hx hb dd_L_law_593 (by decide) ?_
        refine lv_iadd hx hb dd_L_law_594 ?_
        refine lv_topi (fun x244 ex244 => ?_)
        replace hw := hw x244 ex244
        obtain ⟨k245, hw⟩ := hw
        refine va_sld hx hb hX hbl hbA hS k245 dd_L_law_595 ?_
        refine lv_topi (fun x246 ex246 => ?_)
        replace hw := hw x246 ex246
        refine lv_aload_n hx hb dd_L_law_596 rfl (lv_at hl 0 rfl) ?_
        refine lv_iload hx hb dd_L_law_597 (lv_at hl 4 rfl) ?_
        refine lv_iconst (v := 2) hx hb dd_L_law_599 (by decide) ?_
        refine lv_iadd hx hb dd_L_law_600 ?_
        refine lv_topi (fun x247 ex247 => ?_)
        replace hw := hw x247 ex247
        obtain ⟨k248, hw⟩ := hw
        refine va_sld hx hb hX hbl hbA hS k248 dd_L_law_601 ?_
        refine lv_topi (fun x249 ex249 => ?_)
        replace hw := hw x249 ex249
        obtain ⟨k250, hw⟩ := hw
        refine ca_i hS (rn_V C0 hG hS (c_M_state l g _ h v2 x246 x249 hw) (ci := 4) k250 (by decide) rfl rfl (host := "") (nest := false) (n := 2) (As := [.int x246, .int x249]) (rest := [.int x243]) km_621 km_620 km_622 km_623 km_421 ⟨by decide, by decide, by decide +kernel⟩ ⟨Nat.le_of_ble_eq_true rfl, Nat.le_of_ble_eq_true rfl⟩ rfl hl.1 rfl (Nat.le_of_ble_eq_true rfl) dd_L_law_602 hkc) (fun x252 h251 H locs hw hG hS => ?_)
        refine lv_icmp_eq (tgt := 610) hx hb dd_L_law_605 (by decide) (fun c253 => ?_) (fun c253 => ?_)
        · replace hw := hw.1 c253
          exact wk_L_law_610 C0 hfl hr hlk hsz hX hbl hbA ih _ _ _ _ _ _ _ _ _ _ hw hG hS hkc (lv_sub hl [0, 1, 2, 3, 4] rfl)
        · replace hw := hw.2 c253
          refine lv_iconst (v := 0) hx hb dd_L_law_608 (by decide) ?_
          exact re_law C0 hr hlk hsz hS hkc (0) hw dd_L_law_609
def wp_L_law (g : Gm) (L : Nat) (xs : Nat → Int32) (mc ms : Nat) (h : Hp) : Prop := 0 + 1 ≤ mc ∧ 0 + 6 ≤ ms ∧ ∀ q1 : Nat, hK h q1 = 0 → g.2.2 0 ≤ q1 → ∀ h2 : Hp, h2 = mkC h q1 1 0 → ∃ mc5 ms6 : Nat, (0 + 1) + mc5 ≤ mc ∧ (0 + 6) + ms6 ≤ ms ∧ wp_S_init g (fun h4 => ((0 + 1) + mc5) + 1 ≤ mc ∧ ((0 + 6) + ms6) + 27 ≤ ms ∧ ∀ q7 : Nat, hK h4 q7 = 0 → g.2.2 0 ≤ q7 → ∀ h8 : Hp, h8 = mkC h4 q7 5 0 → ∃ mc11 ms12 : Nat, (((0 + 1) + mc5) + 1) + mc11 ≤ mc ∧ (((0 + 6) + ms6) + 27) + ms12 ≤ ms ∧ wp_M_init g (fun h10 => ((((0 + 1) + mc5) + 1) + mc11) + 1 ≤ mc ∧ ((((0 + 6) + ms6) + 27) + ms12) + 1 ≤ ms ∧ ∀ q13 : Nat, hK h10 q13 = 0 → g.2.2 0 ≤ q13 → ∀ h14 : Hp, h14 = mkC h10 q13 22 1 → ∃ n : Nat, wp_L_law_23 g L xs mc ms n h14 (((((0 + 1) + mc5) + 1) + mc11) + 1) (((((0 + 6) + ms6) + 27) + ms12) + 1) q1 q7 q13 0) mc11 ms12 h8 q7) mc5 ms6 h2 q1
set_option maxHeartbeats 4000000 in
set_option maxRecDepth 100000 in
theorem c_law {p : Program} {l : Launch} {e : Env} {s : State} {m : MethodId} {args : Array Value} {below : List Frame} {meth : Method} {c : Code} {g : Gm} {b L : Nat} {xs : Nat → Int32} {mc ms : Nat} (C0 : Cx g p s m args c code 8 "SegmentLocksLaw") (hfl : l.flags = pinnedFlags ++ [noTraceFlag]) (hr : meth.sig.returnType = some .boolean) (hlk : meth.locks = false) (hsz : s.heap.size ≤ g.2.2 0) (hX : va_X b L xs s s.heap) (hbl : b < s.heap.size) (hbA : ¬ gA g b) (h : Hp) (H : Heap) (locs : List Loc) (ls : Array Slot) (hw : wp_L_law g L xs mc ms h) (hG : GH g h H) (hS : va_S (gA g) s.heap H locs) (hl : lv_has ls 8 [(0, .ref b)]) : W p l e (rmm 14 558 mc ms) s m args below meth c H locs 0 0 (MQ below lawQ args s mc ms (fun _ => False)) (F0 m 0 ls []) := by
  obtain ⟨hx, hb, -, hown, hts, hgk⟩ := id C0
  have hkc : 0 ≤ mc ∧ 0 ≤ ms := ⟨Nat.zero_le _, Nat.zero_le _⟩
  unfold wp_L_law at hw
  obtain ⟨hc1, hc2, hw⟩ := hw
  refine px_new C0 hG hS (ci := 0) (T := FX0) (N := 6) (C := RX0) (by decide) rfl iX0 rfl tX0_ok (by decide) km_628 km_629 km_176 hc1 hc2 dd_L_law_0 (fun q1 H z0 zq hG hS => ?_)
  replace hw := hw q1 z0 zq _ rfl
  generalize mkC h q1 1 0 = h2 at hw hG
  have hkc := And.intro hc1 hc2
  refine lv_dup hx hb dd_L_law_3 rfl ?_
  obtain ⟨mc5, ms6, hc1, hc2, hw⟩ := hw
  refine ca_v hS (rn_I C0 hG hS (c_S_init l g _ mc5 ms6 h2 q1 hw) (host := "") (nest := false) (n := 0) (As := []) (rest := [.ref q1]) km_636 km_635 km_637 km_176 rfl ⟨by decide, by decide, by decide +kernel⟩ ⟨Nat.le_of_ble_eq_true rfl, Nat.le_of_ble_eq_true rfl⟩ rfl hl.1 rfl (Nat.le_of_ble_eq_true rfl) dd_L_law_4 ⟨hc1, hc2⟩) (fun h4 H locs hw hG hS => ?_)
  have hkc := And.intro hc1 hc2
  have hl0 := hl
  clear hl
  refine lv_astore_n (lv' := [(1, .ref q1), (0, .ref b)]) hx hb dd_L_law_7 rfl hl0 (by decide) rfl (fun ls hl => ?_)
  obtain ⟨hc1, hc2, hw⟩ := hw
  refine px_new C0 hG hS (ci := 4) (T := FX4) (N := 27) (C := RX4) (by decide) rfl iX4 rfl tX4_ok (by decide) km_630 km_631 km_421 hc1 hc2 dd_L_law_8 (fun q7 H z0 zq hG hS => ?_)
  replace hw := hw q7 z0 zq _ rfl
  generalize mkC h4 q7 5 0 = h8 at hw hG
  have hkc := And.intro hc1 hc2
  refine lv_dup hx hb dd_L_law_11 rfl ?_
  obtain ⟨mc11, ms12, hc1, hc2, hw⟩ := hw
  refine ca_v hS (rn_I C0 hG hS (c_M_init l g _ mc11 ms12 h8 q7 hw) (host := "") (nest := false) (n := 0) (As := []) (rest := [.ref q7]) km_633 km_632 km_634 km_421 rfl ⟨by decide, by decide, by decide +kernel⟩ ⟨Nat.le_of_ble_eq_true rfl, Nat.le_of_ble_eq_true rfl⟩ rfl hl.1 rfl (Nat.le_of_ble_eq_true rfl) dd_L_law_12 ⟨hc1, hc2⟩) (fun h10 H locs hw hG hS => ?_)
  have hkc := And.intro hc1 hc2
  have hl0 := hl
  clear hl
  refine lv_astore_n (lv' := [(2, .ref q7), (1, .ref q1), (0, .ref b)]) hx hb dd_L_law_15 rfl hl0 (by decide) rfl (fun ls hl => ?_)
  refine lv_iconst (v := 1) hx hb dd_L_law_16 (by decide) ?_
  obtain ⟨hc1, hc2, hw⟩ := hw
  refine px_newJ C0 hG hS km_33 (N := 1) (by decide) (by decide) (by decide) hc1 hc2 dd_L_law_17 (fun q13 H z0 zq hG hS => ?_)
  replace hw := hw q13 z0 zq _ rfl
  generalize mkC h10 q13 22 1 = h14 at hw hG
  have hkc := And.intro hc1 hc2
  have hl0 := hl
  clear hl
  refine lv_astore_n (lv' := [(3, .ref q13), (2, .ref q7), (1, .ref q1), (0, .ref b)]) hx hb dd_L_law_19 rfl hl0 (by decide) rfl (fun ls hl => ?_)
  refine lv_iconst (v := 0) hx hb dd_L_law_20 (by decide) ?_
  have hl0 := hl
  clear hl
  refine lv_istore (lv' := [(4, .int 0), (3, .ref q13), (2, .ref q7), (1, .ref q1), (0, .ref b)]) hx hb dd_L_law_21 hl0 (by decide) rfl (fun ls hl => ?_)
  obtain ⟨n, hw⟩ := hw
  exact wk_L_law_23 C0 hfl hr hlk hsz hX hbl hbA n _ _ _ _ _ _ _ _ _ _ hw hG hS hkc (lv_sub hl [4, 3, 2, 1, 0] rfl)
