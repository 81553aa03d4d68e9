/-! SegmentLocks$Task.<init>(II)V -/
theorem dd_T_init_0 : decode prog_4_method_1_code 0 = .ok (.aload_n 0, 1) := by decide +kernel
theorem dd_T_init_1 : decode prog_4_method_1_code 1 = .ok (.invokespecial 3, 3) := by decide +kernel
theorem dd_T_init_4 : decode prog_4_method_1_code 4 = .ok (.aload_n 0, 1) := by decide +kernel
theorem dd_T_init_5 : decode prog_4_method_1_code 5 = .ok (.bipush 50, 2) := by decide +kernel
theorem dd_T_init_7 : decode prog_4_method_1_code 7 = .ok (.newarray .int, 2) := by decide +kernel
theorem dd_T_init_9 : decode prog_4_method_1_code 9 = .ok (.putfield 9, 3) := by decide +kernel
theorem dd_T_init_12 : decode prog_4_method_1_code 12 = .ok (.aload_n 0, 1) := by decide +kernel
theorem dd_T_init_13 : decode prog_4_method_1_code 13 = .ok (.bipush 50, 2) := by decide +kernel
theorem dd_T_init_15 : decode prog_4_method_1_code 15 = .ok (.newarray .boolean, 2) := by decide +kernel
theorem dd_T_init_17 : decode prog_4_method_1_code 17 = .ok (.putfield 15, 3) := by decide +kernel
theorem dd_T_init_20 : decode prog_4_method_1_code 20 = .ok (.aload_n 0, 1) := by decide +kernel
theorem dd_T_init_21 : decode prog_4_method_1_code 21 = .ok (.bipush 50, 2) := by decide +kernel
theorem dd_T_init_23 : decode prog_4_method_1_code 23 = .ok (.newarray .boolean, 2) := by decide +kernel
theorem dd_T_init_25 : decode prog_4_method_1_code 25 = .ok (.putfield 19, 3) := by decide +kernel
theorem dd_T_init_28 : decode prog_4_method_1_code 28 = .ok (.aload_n 0, 1) := by decide +kernel
theorem dd_T_init_29 : decode prog_4_method_1_code 29 = .ok (.bipush 50, 2) := by decide +kernel
theorem dd_T_init_31 : decode prog_4_method_1_code 31 = .ok (.newarray .long, 2) := by decide +kernel
theorem dd_T_init_33 : decode prog_4_method_1_code 33 = .ok (.putfield 22, 3) := by decide +kernel
theorem dd_T_init_36 : decode prog_4_method_1_code 36 = .ok (.aload_n 0, 1) := by decide +kernel
theorem dd_T_init_37 : decode prog_4_method_1_code 37 = .ok (.bipush 50, 2) := by decide +kernel
theorem dd_T_init_39 : decode prog_4_method_1_code 39 = .ok (.newarray .boolean, 2) := by decide +kernel
theorem dd_T_init_41 : decode prog_4_method_1_code 41 = .ok (.putfield 26, 3) := by decide +kernel
theorem dd_T_init_44 : decode prog_4_method_1_code 44 = .ok (.aload_n 0, 1) := by decide +kernel
theorem dd_T_init_45 : decode prog_4_method_1_code 45 = .ok (.bipush 50, 2) := by decide +kernel
theorem dd_T_init_47 : decode prog_4_method_1_code 47 = .ok (.newarray .long, 2) := by decide +kernel
theorem dd_T_init_49 : decode prog_4_method_1_code 49 = .ok (.putfield 29, 3) := by decide +kernel
theorem dd_T_init_52 : decode prog_4_method_1_code 52 = .ok (.aload_n 0, 1) := by decide +kernel
theorem dd_T_init_53 : decode prog_4_method_1_code 53 = .ok (.iconst 0, 1) := by decide +kernel
theorem dd_T_init_54 : decode prog_4_method_1_code 54 = .ok (.putfield 32, 3) := by decide +kernel
theorem dd_T_init_57 : decode prog_4_method_1_code 57 = .ok (.aload_n 0, 1) := by decide +kernel
theorem dd_T_init_58 : decode prog_4_method_1_code 58 = .ok (.iconst 0, 1) := by decide +kernel
theorem dd_T_init_59 : decode prog_4_method_1_code 59 = .ok (.putfield 36, 3) := by decide +kernel
theorem dd_T_init_62 : decode prog_4_method_1_code 62 = .ok (.aload_n 0, 1) := by decide +kernel
theorem dd_T_init_63 : decode prog_4_method_1_code 63 = .ok (.iconst 0, 1) := by decide +kernel
theorem dd_T_init_64 : decode prog_4_method_1_code 64 = .ok (.putfield 40, 3) := by decide +kernel
theorem dd_T_init_67 : decode prog_4_method_1_code 67 = .ok (.aload_n 0, 1) := by decide +kernel
theorem dd_T_init_68 : decode prog_4_method_1_code 68 = .ok (.iconst 0, 1) := by decide +kernel
theorem dd_T_init_69 : decode prog_4_method_1_code 69 = .ok (.putfield 43, 3) := by decide +kernel
theorem dd_T_init_72 : decode prog_4_method_1_code 72 = .ok (.aload_n 0, 1) := by decide +kernel
theorem dd_T_init_73 : decode prog_4_method_1_code 73 = .ok (.iconst 0, 1) := by decide +kernel
theorem dd_T_init_74 : decode prog_4_method_1_code 74 = .ok (.putfield 46, 3) := by decide +kernel
theorem dd_T_init_77 : decode prog_4_method_1_code 77 = .ok (.aload_n 0, 1) := by decide +kernel
theorem dd_T_init_78 : decode prog_4_method_1_code 78 = .ok (.iconst (-1), 1) := by decide +kernel
theorem dd_T_init_79 : decode prog_4_method_1_code 79 = .ok (.putfield 49, 3) := by decide +kernel
theorem dd_T_init_82 : decode prog_4_method_1_code 82 = .ok (.aload_n 0, 1) := by decide +kernel
theorem dd_T_init_83 : decode prog_4_method_1_code 83 = .ok (.iconst (-1), 1) := by decide +kernel
theorem dd_T_init_84 : decode prog_4_method_1_code 84 = .ok (.putfield 52, 3) := by decide +kernel
theorem dd_T_init_87 : decode prog_4_method_1_code 87 = .ok (.aload_n 0, 1) := by decide +kernel
theorem dd_T_init_88 : decode prog_4_method_1_code 88 = .ok (.iload_n 1, 1) := by decide +kernel
theorem dd_T_init_89 : decode prog_4_method_1_code 89 = .ok (.putfield 55, 3) := by decide +kernel
theorem dd_T_init_92 : decode prog_4_method_1_code 92 = .ok (.aload_n 0, 1) := by decide +kernel
theorem dd_T_init_93 : decode prog_4_method_1_code 93 = .ok (.iload_n 2, 1) := by decide +kernel
theorem dd_T_init_94 : decode prog_4_method_1_code 94 = .ok (.putfield 58, 3) := by decide +kernel
theorem dd_T_init_97 : decode prog_4_method_1_code 97 = .ok (.aload_n 0, 1) := by decide +kernel
theorem dd_T_init_98 : decode prog_4_method_1_code 98 = .ok (.getfield 9, 3) := by decide +kernel
theorem dd_T_init_101 : decode prog_4_method_1_code 101 = .ok (.iconst (-1), 1) := by decide +kernel
theorem dd_T_init_102 : decode prog_4_method_1_code 102 = .ok (.invokestatic 61, 3) := by decide +kernel
theorem dd_T_init_105 : decode prog_4_method_1_code 105 = .ok (.return_, 1) := by decide +kernel
def wp_T_init (g : Gm) (post : Hp → Prop) (mc ms : Nat) (h : Hp) (a0 : Nat) (i1 : Int32) (i2 : Int32) : Prop := 0 + 1 ≤ mc ∧ 0 + 50 ≤ ms ∧ ∀ q1 : Nat, hK h q1 = 0 → g.2.2 0 ≤ q1 → ∀ h2 : Hp, h2 = mkC h q1 21 50 → hK h2 a0 = 4 ∧ ∀ h4 : Hp, h4 = sR h2 a0 2 (some q1) → (0 + 1) + 1 ≤ mc ∧ (0 + 50) + 50 ≤ ms ∧ ∀ q5 : Nat, hK h4 q5 = 0 → g.2.2 0 ≤ q5 → ∀ h6 : Hp, h6 = mkC h4 q5 23 50 → hK h6 a0 = 4 ∧ ∀ h8 : Hp, h8 = sR h6 a0 3 (some q5) → ((0 + 1) + 1) + 1 ≤ mc ∧ ((0 + 50) + 50) + 50 ≤ ms ∧ ∀ q9 : Nat, hK h8 q9 = 0 → g.2.2 0 ≤ q9 → ∀ h10 : Hp, h10 = mkC h8 q9 23 50 → hK h10 a0 = 4 ∧ ∀ h12 : Hp, h12 = sR h10 a0 4 (some q9) → (((0 + 1) + 1) + 1) + 1 ≤ mc ∧ (((0 + 50) + 50) + 50) + 50 ≤ ms ∧ ∀ q13 : Nat, hK h12 q13 = 0 → g.2.2 0 ≤ q13 → ∀ h14 : Hp, h14 = mkC h12 q13 22 50 → hK h14 a0 = 4 ∧ ∀ h16 : Hp, h16 = sR h14 a0 5 (some q13) → ((((0 + 1) + 1) + 1) + 1) + 1 ≤ mc ∧ ((((0 + 50) + 50) + 50) + 50) + 50 ≤ ms ∧ ∀ q17 : Nat, hK h16 q17 = 0 → g.2.2 0 ≤ q17 → ∀ h18 : Hp, h18 = mkC h16 q17 23 50 → hK h18 a0 = 4 ∧ ∀ h20 : Hp, h20 = sR h18 a0 6 (some q17) → (((((0 + 1) + 1) + 1) + 1) + 1) + 1 ≤ mc ∧ (((((0 + 50) + 50) + 50) + 50) + 50) + 50 ≤ ms ∧ ∀ q21 : Nat, hK h20 q21 = 0 → g.2.2 0 ≤ q21 → ∀ h22 : Hp, h22 = mkC h20 q21 22 50 → hK h22 a0 = 4 ∧ ∀ h24 : Hp, h24 = sR h22 a0 7 (some q21) → hK h24 a0 = 4 ∧ zB 0 ∧ ∀ h26 : Hp, h26 = sI h24 a0 8 0 → hK h26 a0 = 4 ∧ ∀ h28 : Hp, h28 = sI h26 a0 9 0 → hK h28 a0 = 4 ∧ ∀ h30 : Hp, h30 = sI h28 a0 10 0 → hK h30 a0 = 4 ∧ ∀ h32 : Hp, h32 = sI h30 a0 11 0 → hK h32 a0 = 4 ∧ ∀ h34 : Hp, h34 = sI h32 a0 12 0 → hK h34 a0 = 4 ∧ ∀ h36 : Hp, h36 = sI h34 a0 13 (-1) → hK h36 a0 = 4 ∧ ∀ h38 : Hp, h38 = sI h36 a0 14 (-1) → hK h38 a0 = 4 ∧ ∀ h40 : Hp, h40 = sI h38 a0 0 i1 → hK h40 a0 = 4 ∧ ∀ h42 : Hp, h42 = sI h40 a0 1 i2 → hK h42 a0 = 4 ∧ ∃ a44 : Nat, hR h42 a0 2 = some a44 ∧ wp_Y_fill g (fun h46 => post h46) h42 a44 (-1)
set_option maxHeartbeats 4000000 in
set_option maxRecDepth 100000 in
theorem c_T_init (l : Launch) (g : Gm) (post : Hp → Prop) (mc ms : Nat) (h : Hp) (a0 : Nat) (i1 : Int32) (i2 : Int32) (hw : wp_T_init g post mc ms h a0 i1 i2) : Met l (⟨"SegmentLocks$Task", "<init>", "(II)V"⟩ : MethodName) (ww (⟨"SegmentLocks$Task", "<init>", "(II)V"⟩ : MethodName) prog_4_method_1_code 3 none) (rmm 1 24 mc ms) (va_Pc [.ref a0, .int i1, .int i2] (gS g h)) (va_Qv post (gS g) (gA g)) mc ms (gA g) := by
  first | refine en_met (by decide) ?_ | refine en_metF (by decide) ?_
  intro p e s m below meth c C0 hr hlk hin hG
  have hS : va_S (gA g) s.heap s.heap [] := va_S.rf
  have hl := lv_entry ([.ref a0, .int i1, .int i2]) (n := 3) (Nat.le_of_ble_eq_true rfl)
  rw [lg_entry_eq]
  generalize (lg_sl ([.ref a0, .int i1, .int i2]) ++ List.replicate (3 - (lg_sl ([.ref a0, .int i1, .int i2])).length) Slot.unset).toArray = ls at hl ⊢
  replace hl : lv_has ls 3 [(0, .ref a0), (1, .int i1), (2, .int i2)] := hl
  obtain ⟨hx, hb, -, hown, hts, hgk⟩ := id C0
  have hkc : 0 ≤ mc ∧ 0 ≤ ms := ⟨Nat.zero_le _, Nat.zero_le _⟩
  unfold wp_T_init at hw
  refine lv_aload_n hx hb dd_T_init_0 rfl (lv_at hl 0 rfl) ?_
  refine W.objInit hx hb hown (hts _ km_55) (hts _ km_1) (hts _ km_2) rfl (by rw [C0.2.2.1]; exact hl.1) rfl dd_T_init_1 (Nat.le_of_ble_eq_true rfl) (Nat.le_of_ble_eq_true rfl) ?_
  refine W.eq (g2 := F0 m 4 ls []) rfl ?_
  refine lv_aload_n hx hb dd_T_init_4 rfl (lv_at hl 0 rfl) ?_
  refine lv_bipush (v := 50) hx hb dd_T_init_5 (by decide) ?_
  obtain ⟨hc1, hc2, hw⟩ := hw
  refine px_newI C0 hG hS km_26 (N := 50) (by decide) (by decide) (by decide) hc1 hc2 dd_T_init_7 (fun q1 H z0 zq hG hS => ?_)
  replace hw := hw q1 z0 zq _ rfl
  generalize mkC h q1 21 50 = h2 at hw hG
  have hkc := And.intro hc1 hc2
  obtain ⟨k3, hw⟩ := hw
  refine pf_T_9 C0 hG hS k3 hin dd_T_init_9 (fun H locs hG hS => ?_)
  replace hw := hw _ rfl
  generalize sR h2 a0 2 (some q1) = h4 at hw hG
  refine lv_aload_n hx hb dd_T_init_12 rfl (lv_at hl 0 rfl) ?_
  refine lv_bipush (v := 50) hx hb dd_T_init_13 (by decide) ?_
  obtain ⟨hc1, hc2, hw⟩ := hw
  refine px_newZ C0 hG hS km_28 (N := 50) (by decide) (by decide) (by decide) hc1 hc2 dd_T_init_15 (fun q5 H z0 zq hG hS => ?_)
  replace hw := hw q5 z0 zq _ rfl
  generalize mkC h4 q5 23 50 = h6 at hw hG
  have hkc := And.intro hc1 hc2
  obtain ⟨k7, hw⟩ := hw
  refine pf_T_15 C0 hG hS k7 hin dd_T_init_17 (fun H locs hG hS => ?_)
  replace hw := hw _ rfl
  generalize sR h6 a0 3 (some q5) = h8 at hw hG
  refine lv_aload_n hx hb dd_T_init_20 rfl (lv_at hl 0 rfl) ?_
  refine lv_bipush (v := 50) hx hb dd_T_init_21 (by decide) ?_
  obtain ⟨hc1, hc2, hw⟩ := hw
  refine px_newZ C0 hG hS km_28 (N := 50) (by decide) (by decide) (by decide) hc1 hc2 dd_T_init_23 (fun q9 H z0 zq hG hS => ?_)
  replace hw := hw q9 z0 zq _ rfl
  generalize mkC h8 q9 23 50 = h10 at hw hG
  have hkc := And.intro hc1 hc2
  obtain ⟨k11, hw⟩ := hw
  refine pf_T_19 C0 hG hS k11 hin dd_T_init_25 (fun H locs hG hS => ?_)
  replace hw := hw _ rfl
  generalize sR h10 a0 4 (some q9) = h12 at hw hG
  refine lv_aload_n hx hb dd_T_init_28 rfl (lv_at hl 0 rfl) ?_
  refine lv_bipush (v := 50) hx hb dd_T_init_29 (by decide) ?_
  obtain ⟨hc1, hc2, hw⟩ := hw
  refine px_newJ C0 hG hS km_33 (N := 50) (by decide) (by decide) (by decide) hc1 hc2 dd_T_init_31 (fun q13 H z0 zq hG hS => ?_)
  replace hw := hw q13 z0 zq _ rfl
  generalize mkC h12 q13 22 50 = h14 at hw hG
  have hkc := And.intro hc1 hc2
  obtain ⟨k15, hw⟩ := hw
  refine pf_T_22 C0 hG hS k15 hin dd_T_init_33 (fun H locs hG hS => ?_)
  replace hw := hw _ rfl
  generalize sR h14 a0 5 (some q13) = h16 at hw hG
  refine lv_aload_n hx hb dd_T_init_36 rfl (lv_at hl 0 rfl) ?_
  refine lv_bipush (v := 50) hx hb dd_T_init_37 (by decide) ?_
  obtain ⟨hc1, hc2, hw⟩ := hw
  refine px_newZ C0 hG hS km_28 (N := 50) (by decide) (by decide) (by decide) hc1 hc2 dd_T_init_39 (fun q17 H z0 zq hG hS => ?_)
  replace hw := hw q17 z0 zq _ rfl
  generalize mkC h16 q17 23 50 = h18 at hw hG
  have hkc := And.intro hc1 hc2
  obtain ⟨k19, hw⟩ := hw
  refine pf_T_26 C0 hG hS k19 hin dd_T_init_41 (fun H locs hG hS => ?_)
  replace hw := hw _ rfl
  generalize sR h18 a0 6 (some q17) = h20 at hw hG
  refine lv_aload_n hx hb dd_T_init_44 rfl (lv_at hl 0 rfl) ?_
  refine lv_bipush (v := 50) hx hb dd_T_init_45 (by decide) ?_
  obtain ⟨hc1, hc2, hw⟩ := hw
  refine px_newJ C0 hG hS km_33 (N := 50) (by decide) (by decide) (by decide) hc1 hc2 dd_T_init_47 (fun q21 H z0 zq hG hS => ?_)
  replace hw := hw q21 z0 zq _ rfl
  generalize mkC h20 q21 22 50 = h22 at hw hG
  have hkc := And.intro hc1 hc2
  obtain ⟨k23, hw⟩ := hw
  refine pf_T_29 C0 hG hS k23 hin dd_T_init_49 (fun H locs hG hS => ?_)
  replace hw := hw _ rfl
  generalize sR h22 a0 7 (some q21) = h24 at hw hG
  refine lv_aload_n hx hb dd_T_init_52 rfl (lv_at hl 0 rfl) ?_
  refine lv_iconst (v := 0) hx hb dd_T_init_53 (by decide) ?_
  obtain ⟨k25, hz, hw⟩ := hw
  refine pf_T_32 C0 hG hS k25 hz dd_T_init_54 (fun H locs hG hS => ?_)
  replace hw := hw _ rfl
  generalize sI h24 a0 8 0 = h26 at hw hG
  refine lv_aload_n hx hb dd_T_init_57 rfl (lv_at hl 0 rfl) ?_
  refine lv_iconst (v := 0) hx hb dd_T_init_58 (by decide) ?_
  obtain ⟨k27, hw⟩ := hw
  refine pf_T_36 C0 hG hS k27 dd_T_init_59 (fun H locs hG hS => ?_)
  replace hw := hw _ rfl
  generalize sI h26 a0 9 0 = h28 at hw hG
  refine lv_aload_n hx hb dd_T_init_62 rfl (lv_at hl 0 rfl) ?_
  refine lv_iconst (v := 0) hx hb dd_T_init_63 (by decide) ?_
  obtain ⟨k29, hw⟩ := hw
  refine pf_T_40 C0 hG hS k29 dd_T_init_64 (fun H locs hG hS => ?_)
  replace hw := hw _ rfl
  generalize sI h28 a0 10 0 = h30 at hw hG
  refine lv_aload_n hx hb dd_T_init_67 rfl (lv_at hl 0 rfl) ?_
  refine lv_iconst (v := 0) hx hb dd_T_init_68 (by decide) ?_
  obtain ⟨k31, hw⟩ := hw
  refine pf_T_43 C0 hG hS k31 dd_T_init_69 (fun H locs hG hS => ?_)
  replace hw := hw _ rfl
  generalize sI h30 a0 11 0 = h32 at hw hG
  refine lv_aload_n hx hb dd_T_init_72 rfl (lv_at hl 0 rfl) ?_
  refine lv_iconst (v := 0) hx hb dd_T_init_73 (by decide) ?_
  obtain ⟨k33, hw⟩ := hw
  refine pf_T_46 C0 hG hS k33 dd_T_init_74 (fun H locs hG hS => ?_)
  replace hw := hw _ rfl
  generalize sI h32 a0 12 0 = h34 at hw hG
  refine lv_aload_n hx hb dd_T_init_77 rfl (lv_at hl 0 rfl) ?_
  refine lv_iconst (v := (-1)) hx hb dd_T_init_78 (by decide) ?_
  obtain ⟨k35, hw⟩ := hw
  refine pf_T_49 C0 hG hS k35 dd_T_init_79 (fun H locs hG hS => ?_)
  replace hw := hw _ rfl
  generalize sI h34 a0 13 (-1) = h36 at hw hG
  refine lv_aload_n hx hb dd_T_init_82 rfl (lv_at hl 0 rfl) ?_
  refine lv_iconst (v := (-1)) hx hb dd_T_init_83 (by decide) ?_
  obtain ⟨k37, hw⟩ := hw
  refine pf_T_52 C0 hG hS k37 dd_T_init_84 (fun H locs hG hS => ?_)
  replace hw := hw _ rfl
  generalize sI h36 a0 14 (-1) = h38 at hw hG
  refine lv_aload_n hx hb dd_T_init_87 rfl (lv_at hl 0 rfl) ?_
  refine lv_iload_n hx hb dd_T_init_88 rfl (lv_at hl 1 rfl) ?_
  obtain ⟨k39, hw⟩ := hw
  refine pf_T_55 C0 hG hS k39 hin dd_T_init_89 (fun H locs hG hS => ?_)
  replace hw := hw _ rfl
  generalize sI h38 a0 0 i1 = h40 at hw hG
  refine lv_aload_n hx hb dd_T_init_92 rfl (lv_at hl 0 rfl) ?_
  refine lv_iload_n hx hb dd_T_init_93 rfl (lv_at hl 2 rfl) ?_
  obtain ⟨k41, hw⟩ := hw
  refine pf_T_58 C0 hG hS k41 hin dd_T_init_94 (fun H locs hG hS => ?_)
  replace hw := hw _ rfl
  generalize sI h40 a0 1 i2 = h42 at hw hG
  refine lv_aload_n hx hb dd_T_init_97 rfl (lv_at hl 0 rfl) ?_
  obtain ⟨k43, a44, ea44, hw⟩ := hw
  refine gf_T_9 C0 hG k43 ea44 dd_T_init_98 ?_
  refine lv_iconst (v := (-1)) hx hb dd_T_init_101 (by decide) ?_
  refine ca_v hS (rn_S C0 hG hS (c_Y_fill l g _ h42 a44 (-1) hw) (host := "") (nest := false) (n := 2) (As := [.ref a44, .int (-1)]) (rest := []) km_72 km_71 km_74 km_73 ⟨by decide, by decide, by decide +kernel⟩ ⟨Nat.le_of_ble_eq_true rfl, Nat.le_of_ble_eq_true rfl⟩ rfl hl.1 rfl (Nat.le_of_ble_eq_true rfl) dd_T_init_102 hkc) (fun h46 H locs hw hG hS => ?_)
  exact re_v C0 hG hS hr hlk hkc hw dd_T_init_105
/-! SegmentLocks$Task.stopWaiting()V -/
theorem dd_T_stopWaiting_0 : decode prog_4_method_7_code 0 = .ok (.aload_n 0, 1) := by decide +kernel
theorem dd_T_stopWaiting_1 : decode prog_4_method_7_code 1 = .ok (.iconst 0, 1) := by decide +kernel
theorem dd_T_stopWaiting_2 : decode prog_4_method_7_code 2 = .ok (.putfield 36, 3) := by decide +kernel
theorem dd_T_stopWaiting_5 : decode prog_4_method_7_code 5 = .ok (.aload_n 0, 1) := by decide +kernel
theorem dd_T_stopWaiting_6 : decode prog_4_method_7_code 6 = .ok (.iconst (-1), 1) := by decide +kernel
theorem dd_T_stopWaiting_7 : decode prog_4_method_7_code 7 = .ok (.putfield 49, 3) := by decide +kernel
theorem dd_T_stopWaiting_10 : decode prog_4_method_7_code 10 = .ok (.aload_n 0, 1) := by decide +kernel
theorem dd_T_stopWaiting_11 : decode prog_4_method_7_code 11 = .ok (.iconst (-1), 1) := by decide +kernel
theorem dd_T_stopWaiting_12 : decode prog_4_method_7_code 12 = .ok (.putfield 52, 3) := by decide +kernel
theorem dd_T_stopWaiting_15 : decode prog_4_method_7_code 15 = .ok (.return_, 1) := by decide +kernel
def wp_T_stopWaiting (g : Gm) (post : Hp → Prop) (h : Hp) (a0 : Nat) : Prop := hK h a0 = 4 ∧ ∀ h2 : Hp, h2 = sI h a0 9 0 → hK h2 a0 = 4 ∧ ∀ h4 : Hp, h4 = sI h2 a0 13 (-1) → hK h4 a0 = 4 ∧ ∀ h6 : Hp, h6 = sI h4 a0 14 (-1) → post h6
set_option maxHeartbeats 4000000 in
set_option maxRecDepth 100000 in
theorem c_T_stopWaiting (l : Launch) (g : Gm) (post : Hp → Prop) (h : Hp) (a0 : Nat) (hw : wp_T_stopWaiting g post h a0) : Met l (⟨"SegmentLocks$Task", "stopWaiting", "()V"⟩ : MethodName) (ww (⟨"SegmentLocks$Task", "stopWaiting", "()V"⟩ : MethodName) prog_4_method_7_code 1 none) (rmm 0 0 0 0) (va_Pc [.ref a0] (gS g h)) (va_Qv post (gS g) (gA g)) 0 0 (gA g) := by
  first | refine en_met (by decide) ?_ | refine en_metF (by decide) ?_
  intro p e s m below meth c C0 hr hlk hin hG
  have hS : va_S (gA g) s.heap s.heap [] := va_S.rf
  have hl := lv_entry ([.ref a0]) (n := 1) (Nat.le_of_ble_eq_true rfl)
  rw [lg_entry_eq]
  generalize (lg_sl ([.ref a0]) ++ List.replicate (1 - (lg_sl ([.ref a0])).length) Slot.unset).toArray = ls at hl ⊢
  replace hl : lv_has ls 1 [(0, .ref a0)] := hl
  obtain ⟨hx, hb, -, hown, hts, hgk⟩ := id C0
  unfold wp_T_stopWaiting at hw
  refine lv_aload_n hx hb dd_T_stopWaiting_0 rfl (lv_at hl 0 rfl) ?_
  refine lv_iconst (v := 0) hx hb dd_T_stopWaiting_1 (by decide) ?_
  obtain ⟨k1, hw⟩ := hw
  refine pf_T_36 C0 hG hS k1 dd_T_stopWaiting_2 (fun H locs hG hS => ?_)
  replace hw := hw _ rfl
  generalize sI h a0 9 0 = h2 at hw hG
  refine lv_aload_n hx hb dd_T_stopWaiting_5 rfl (lv_at hl 0 rfl) ?_
  refine lv_iconst (v := (-1)) hx hb dd_T_stopWaiting_6 (by decide) ?_
  obtain ⟨k3, hw⟩ := hw
  refine pf_T_49 C0 hG hS k3 dd_T_stopWaiting_7 (fun H locs hG hS => ?_)
  replace hw := hw _ rfl
  generalize sI h2 a0 13 (-1) = h4 at hw hG
  refine lv_aload_n hx hb dd_T_stopWaiting_10 rfl (lv_at hl 0 rfl) ?_
  refine lv_iconst (v := (-1)) hx hb dd_T_stopWaiting_11 (by decide) ?_
  obtain ⟨k5, hw⟩ := hw
  refine pf_T_52 C0 hG hS k5 dd_T_stopWaiting_12 (fun H locs hG hS => ?_)
  replace hw := hw _ rfl
  generalize sI h4 a0 14 (-1) = h6 at hw hG
  exact re_v C0 hG hS hr hlk ⟨Nat.le_refl _, Nat.le_refl _⟩ hw dd_T_stopWaiting_15
/-! SegmentLocks$Task.forget()V -/
theorem dd_T_forget_0 : decode prog_4_method_8_code 0 = .ok (.iconst 0, 1) := by decide +kernel
theorem dd_T_forget_1 : decode prog_4_method_8_code 1 = .ok (.istore_n 1, 1) := by decide +kernel
theorem dd_T_forget_2 : decode prog_4_method_8_code 2 = .ok (.iload_n 1, 1) := by decide +kernel
theorem dd_T_forget_3 : decode prog_4_method_8_code 3 = .ok (.bipush 50, 2) := by decide +kernel
theorem dd_T_forget_5 : decode prog_4_method_8_code 5 = .ok (.if_icmp .ge 37, 3) := by decide +kernel
theorem dd_T_forget_8 : decode prog_4_method_8_code 8 = .ok (.aload_n 0, 1) := by decide +kernel
theorem dd_T_forget_9 : decode prog_4_method_8_code 9 = .ok (.getfield 9, 3) := by decide +kernel
theorem dd_T_forget_12 : decode prog_4_method_8_code 12 = .ok (.iload_n 1, 1) := by decide +kernel
theorem dd_T_forget_13 : decode prog_4_method_8_code 13 = .ok (.iconst (-1), 1) := by decide +kernel
theorem dd_T_forget_14 : decode prog_4_method_8_code 14 = .ok (.iastore, 1) := by decide +kernel
theorem dd_T_forget_15 : decode prog_4_method_8_code 15 = .ok (.aload_n 0, 1) := by decide +kernel
theorem dd_T_forget_16 : decode prog_4_method_8_code 16 = .ok (.getfield 15, 3) := by decide +kernel
theorem dd_T_forget_19 : decode prog_4_method_8_code 19 = .ok (.iload_n 1, 1) := by decide +kernel
theorem dd_T_forget_20 : decode prog_4_method_8_code 20 = .ok (.iconst 0, 1) := by decide +kernel
theorem dd_T_forget_21 : decode prog_4_method_8_code 21 = .ok (.bastore, 1) := by decide +kernel
theorem dd_T_forget_22 : decode prog_4_method_8_code 22 = .ok (.aload_n 0, 1) := by decide +kernel
theorem dd_T_forget_23 : decode prog_4_method_8_code 23 = .ok (.getfield 19, 3) := by decide +kernel
theorem dd_T_forget_26 : decode prog_4_method_8_code 26 = .ok (.iload_n 1, 1) := by decide +kernel
theorem dd_T_forget_27 : decode prog_4_method_8_code 27 = .ok (.iconst 0, 1) := by decide +kernel
theorem dd_T_forget_28 : decode prog_4_method_8_code 28 = .ok (.bastore, 1) := by decide +kernel
theorem dd_T_forget_29 : decode prog_4_method_8_code 29 = .ok (.aload_n 0, 1) := by decide +kernel
theorem dd_T_forget_30 : decode prog_4_method_8_code 30 = .ok (.getfield 26, 3) := by decide +kernel
theorem dd_T_forget_33 : decode prog_4_method_8_code 33 = .ok (.iload_n 1, 1) := by decide +kernel
theorem dd_T_forget_34 : decode prog_4_method_8_code 34 = .ok (.iconst 0, 1) := by decide +kernel
theorem dd_T_forget_35 : decode prog_4_method_8_code 35 = .ok (.bastore, 1) := by decide +kernel
theorem dd_T_forget_36 : decode prog_4_method_8_code 36 = .ok (.iinc 1 1, 3) := by decide +kernel
theorem dd_T_forget_39 : decode prog_4_method_8_code 39 = .ok (.goto (-37), 3) := by decide +kernel
theorem dd_T_forget_42 : decode prog_4_method_8_code 42 = .ok (.aload_n 0, 1) := by decide +kernel
theorem dd_T_forget_43 : decode prog_4_method_8_code 43 = .ok (.iconst 0, 1) := by decide +kernel
theorem dd_T_forget_44 : decode prog_4_method_8_code 44 = .ok (.putfield 32, 3) := by decide +kernel
theorem dd_T_forget_47 : decode prog_4_method_8_code 47 = .ok (.aload_n 0, 1) := by decide +kernel
theorem dd_T_forget_48 : decode prog_4_method_8_code 48 = .ok (.iconst 0, 1) := by decide +kernel
theorem dd_T_forget_49 : decode prog_4_method_8_code 49 = .ok (.putfield 40, 3) := by decide +kernel
theorem dd_T_forget_52 : decode prog_4_method_8_code 52 = .ok (.aload_n 0, 1) := by decide +kernel
theorem dd_T_forget_53 : decode prog_4_method_8_code 53 = .ok (.iconst 0, 1) := by decide +kernel
theorem dd_T_forget_54 : decode prog_4_method_8_code 54 = .ok (.putfield 43, 3) := by decide +kernel
theorem dd_T_forget_57 : decode prog_4_method_8_code 57 = .ok (.aload_n 0, 1) := by decide +kernel
theorem dd_T_forget_58 : decode prog_4_method_8_code 58 = .ok (.invokevirtual 67, 3) := by decide +kernel
theorem dd_T_forget_61 : decode prog_4_method_8_code 61 = .ok (.return_, 1) := by decide +kernel
def wp_T_forget_2 (g : Gm) (post : Hp → Prop) : Nat → Hp → Nat → Int32 → Prop
  | 0, _, _, _ => False
  | fu + 1, h, v0, v1 => ((50 ≤ v1 → hK h v0 = 4 ∧ zB 0 ∧ ∀ h3 : Hp, h3 = sI h v0 8 0 → hK h3 v0 = 4 ∧ ∀ h5 : Hp, h5 = sI h3 v0 10 0 → hK h5 v0 = 4 ∧ ∀ h7 : Hp, h7 = sI h5 v0 11 0 → hK h7 v0 = 4 ∧ wp_T_stopWaiting g (fun h9 => post h9) h7 v0) ∧ (¬ 50 ≤ v1 → hK h v0 = 4 ∧ ∃ a11 : Nat, hR h v0 2 = some a11 ∧ hK h a11 = 21 ∧ vp_in v1 (hN h a11) ∧ ∀ h13 : Hp, h13 = sI h a11 v1.toNatClampNeg (-1) → hK h13 v0 = 4 ∧ ∃ a15 : Nat, hR h13 v0 3 = some a15 ∧ hK h13 a15 = 23 ∧ vp_in v1 (hN h13 a15) ∧ zB 0 ∧ ∀ h17 : Hp, h17 = sI h13 a15 v1.toNatClampNeg 0 → hK h17 v0 = 4 ∧ ∃ a19 : Nat, hR h17 v0 4 = some a19 ∧ hK h17 a19 = 23 ∧ vp_in v1 (hN h17 a19) ∧ zB 0 ∧ ∀ h21 : Hp, h21 = sI h17 a19 v1.toNatClampNeg 0 → hK h21 v0 = 4 ∧ ∃ a23 : Nat, hR h21 v0 6 = some a23 ∧ hK h21 a23 = 23 ∧ vp_in v1 (hN h21 a23) ∧ zB 0 ∧ ∀ h25 : Hp, h25 = sI h21 a23 v1.toNatClampNeg 0 → ∀ x26 : Int32, x26 = v1 + 1 → wp_T_forget_2 g post fu h25 v0 x26))
set_option maxHeartbeats 4000000 in
set_option maxRecDepth 100000 in
theorem wk_T_forget_2 {p : Program} {l : Launch} {e : Env} {s : State} {m : MethodId} {args : Array Value} {below : List Frame} {meth : Method} {c : Code} {g : Gm} {post : Hp → Prop} (C0 : Cx g p s m args c prog_4_method_8_code 2 "SegmentLocks$Task") (hr : meth.sig.returnType = none) (hlk : meth.locks = false) : ∀ n : Nat, ∀ (h : Hp) (v0 : Nat) (v1 : Int32) (H : Heap) (locs : List Loc) (ls : Array Slot), wp_T_forget_2 g post n h v0 v1 → GH g h H → va_S (gA g) s.heap H locs → lv_has ls 2 [(0, .ref v0), (1, .int v1)] → W p l e (rmm 1 20 0 0) s m args below meth c H locs 0 0 (MQ below (va_Qv post (gS g) (gA g)) args s 0 0 (gA g)) (F0 m 2 ls []) := by
  obtain ⟨hx, hb, -, hown, hts, hgk⟩ := id C0
  intro n
  induction n with
  | zero =>
    intro h v0 v1 H locs ls hw hG hS hl
    exact hw.elim
  | succ n ih =>
    intro h v0 v1 H locs ls hw hG hS hl
    unfold wp_T_forget_2 at hw
    refine lv_iload_n hx hb dd_T_forget_2 rfl (lv_at hl 1 rfl) ?_
    refine lv_bipush (v := 50) hx hb dd_T_forget_3 (by decide) ?_
    refine lv_icmp_ge (tgt := 42) hx hb dd_T_forget_5 (by decide) (fun c1 => ?_) (fun c1 => ?_)
    · replace hw := hw.1 c1
      refine lv_aload_n hx hb dd_T_forget_42 rfl (lv_at hl 0 rfl) ?_
      refine lv_iconst (v := 0) hx hb dd_T_forget_43 (by decide) ?_
      obtain ⟨k2, hz, hw⟩ := hw
      refine pf_T_32 C0 hG hS k2 hz dd_T_forget_44 (fun H locs hG hS => ?_)
      replace hw := hw _ rfl
      generalize sI h v0 8 0 = h3 at hw hG
      refine lv_aload_n hx hb dd_T_forget_47 rfl (lv_at hl 0 rfl) ?_
      refine lv_iconst (v := 0) hx hb dd_T_forget_48 (by decide) ?_
      obtain ⟨k4, hw⟩ := hw
      refine pf_T_40 C0 hG hS k4 dd_T_forget_49 (fun H locs hG hS => ?_)
      replace hw := hw _ rfl
      generalize sI h3 v0 10 0 = h5 at hw hG
      refine lv_aload_n hx hb dd_T_forget_52 rfl (lv_at hl 0 rfl) ?_
      refine lv_iconst (v := 0) hx hb dd_T_forget_53 (by decide) ?_
      obtain ⟨k6, hw⟩ := hw
      refine pf_T_43 C0 hG hS k6 dd_T_forget_54 (fun H locs hG hS => ?_)
      replace hw := hw _ rfl
      generalize sI h5 v0 11 0 = h7 at hw hG
      refine lv_aload_n hx hb dd_T_forget_57 rfl (lv_at hl 0 rfl) ?_
      obtain ⟨k8, hw⟩ := hw
      refine ca_v hS (rn_V C0 hG hS (c_T_stopWaiting l g _ h7 v0 hw) (ci := 3) k8 (by decide) rfl rfl (host := "") (nest := false) (n := 0) (As := []) (rest := []) km_168 km_167 km_169 km_170 km_123 ⟨by decide, by decide, by decide +kernel⟩ ⟨Nat.le_of_ble_eq_true rfl, Nat.le_of_ble_eq_true rfl⟩ rfl hl.1 rfl (Nat.le_of_ble_eq_true rfl) dd_T_forget_58 ⟨Nat.le_refl _, Nat.le_refl _⟩) (fun h9 H locs hw hG hS => ?_)
      exact re_v C0 hG hS hr hlk ⟨Nat.le_refl _, Nat.le_refl _⟩ hw dd_T_forget_61
    · replace hw := hw.2 c1
      refine lv_aload_n hx hb dd_T_forget_8 rfl (lv_at hl 0 rfl) ?_
      obtain ⟨k10, a11, ea11, hw⟩ := hw
      refine gf_T_9 C0 hG k10 ea11 dd_T_forget_9 ?_
      refine lv_iload_n hx hb dd_T_forget_12 rfl (lv_at hl 1 rfl) ?_
      refine lv_iconst (v := (-1)) hx hb dd_T_forget_13 (by decide) ?_
      obtain ⟨k12, k12i, hw⟩ := hw
      refine px_iast C0 hG hS k12 k12i dd_T_forget_14 (fun H locs hG hS => ?_)
      replace hw := hw _ rfl
      generalize sI h a11 v1.toNatClampNeg (-1) = h13 at hw hG
      refine lv_aload_n hx hb dd_T_forget_15 rfl (lv_at hl 0 rfl) ?_
      obtain ⟨k14, a15, ea15, hw⟩ := hw
      refine gf_T_15 C0 hG k14 ea15 dd_T_forget_16 ?_
      refine lv_iload_n hx hb dd_T_forget_19 rfl (lv_at hl 1 rfl) ?_
      refine lv_iconst (v := 0) hx hb dd_T_forget_20 (by decide) ?_
      obtain ⟨k16, k16i, hz, hw⟩ := hw
      refine px_zast C0 hG hS k16 k16i hz.nar dd_T_forget_21 (fun H locs hG hS => ?_)
      replace hw := hw _ rfl
      generalize sI h13 a15 v1.toNatClampNeg 0 = h17 at hw hG
      refine lv_aload_n hx hb dd_T_forget_22 rfl (lv_at hl 0 rfl) ?_
      obtain ⟨k18, a19, ea19, hw⟩ := hw
      refine gf_T_19 C0 hG k18 ea19 dd_T_forget_23 ?_
      refine lv_iload_n hx hb dd_T_forget_26 rfl (lv_at hl 1 rfl) ?_
      refine lv_iconst (v := 0) hx hb dd_T_forget_27 (by decide) ?_
      obtain ⟨k20, k20i, hz, hw⟩ := hw
      refine px_zast C0 hG hS k20 k20i hz.nar dd_T_forget_28 (fun H locs hG hS => ?_)
      replace hw := hw _ rfl
      generalize sI h17 a19 v1.toNatClampNeg 0 = h21 at hw hG
      refine lv_aload_n hx hb dd_T_forget_29 rfl (lv_at hl 0 rfl) ?_
      obtain ⟨k22, a23, ea23, hw⟩ := hw
      refine gf_T_26 C0 hG k22 ea23 dd_T_forget_30 ?_
      refine lv_iload_n hx hb dd_T_forget_33 rfl (lv_at hl 1 rfl) ?_
      refine lv_iconst (v := 0) hx hb dd_T_forget_34 (by decide) ?_
      obtain ⟨k24, k24i, hz, hw⟩ := hw
      refine px_zast C0 hG hS k24 k24i hz.nar dd_T_forget_35 (fun H locs hG hS => ?_)
      replace hw := hw _ rfl
      generalize sI h21 a23 v1.toNatClampNeg 0 = h25 at hw hG
      obtain ⟨x26, ex26⟩ : ∃ y : Int32, y = v1 + 1 := ⟨_, rfl⟩
      replace hw := hw x26 ex26
      have hl0 := hl
      clear hl
      refine lv_iinc (v := x26) (lv' := [(1, .int x26), (0, .ref v0)]) hx hb dd_T_forget_36 hl0 (k := 1) rfl (by rw [ex26]; rfl) (by decide) rfl (fun ls hl => ?_)
      refine lv_goto (tgt := 2) hx hb dd_T_forget_39 (by decide) ?_
      exact ih _ _ _ _ _ _ hw hG hS (lv_sub hl [1, 0] rfl)
def wp_T_forget (g : Gm) (post : Hp → Prop) (h : Hp) (a0 : Nat) : Prop := ∃ n : Nat, wp_T_forget_2 g post n h a0 0
set_option maxHeartbeats 4000000 in
set_option maxRecDepth 100000 in
theorem c_T_forget (l : Launch) (g : Gm) (post : Hp → Prop) (h : Hp) (a0 : Nat) (hw : wp_T_forget g post h a0) : Met l (⟨"SegmentLocks$Task", "forget", "()V"⟩ : MethodName) (ww (⟨"SegmentLocks$Task", "forget", "()V"⟩ : MethodName) prog_4_method_8_code 2 none) (rmm 1 20 0 0) (va_Pc [.ref a0] (gS g h)) (va_Qv post (gS g) (gA g)) 0 0 (gA g) := by
  first | refine en_met (by decide) ?_ | refine en_metF (by decide) ?_
  intro p e s m below meth c C0 hr hlk hin hG
  have hS : va_S (gA g) s.heap s.heap [] := va_S.rf
  have hl := lv_entry ([.ref a0]) (n := 2) (Nat.le_of_ble_eq_true rfl)
  rw [lg_entry_eq]
  generalize (lg_sl ([.ref a0]) ++ List.replicate (2 - (lg_sl ([.ref a0])).length) Slot.unset).toArray = ls at hl ⊢
  replace hl : lv_has ls 2 [(0, .ref a0)] := hl
  obtain ⟨hx, hb, -, hown, hts, hgk⟩ := id C0
  unfold wp_T_forget at hw
  refine lv_iconst (v := 0) hx hb dd_T_forget_0 (by decide) ?_
  have hl0 := hl
  clear hl
  refine lv_istore_n (lv' := [(1, .int 0), (0, .ref a0)]) hx hb dd_T_forget_1 rfl hl0 (by decide) rfl (fun ls hl => ?_)
  obtain ⟨n, hw⟩ := hw
  exact wk_T_forget_2 C0 hr hlk n _ _ _ _ _ _ hw hG hS (lv_sub hl [1, 0] rfl)
/-! SegmentLocks$Task.take(II)V -/
theorem dd_T_take_0 : decode prog_4_method_3_code 0 = .ok (.aload_n 0, 1) := by decide +kernel
theorem dd_T_take_1 : decode prog_4_method_3_code 1 = .ok (.getfield 9, 3) := by decide +kernel
theorem dd_T_take_4 : decode prog_4_method_3_code 4 = .ok (.iload_n 1, 1) := by decide +kernel
theorem dd_T_take_5 : decode prog_4_method_3_code 5 = .ok (.iaload, 1) := by decide +kernel
theorem dd_T_take_6 : decode prog_4_method_3_code 6 = .ok (.iconst (-1), 1) := by decide +kernel
theorem dd_T_take_7 : decode prog_4_method_3_code 7 = .ok (.if_icmp .ne 13, 3) := by decide +kernel
theorem dd_T_take_10 : decode prog_4_method_3_code 10 = .ok (.aload_n 0, 1) := by decide +kernel
theorem dd_T_take_11 : decode prog_4_method_3_code 11 = .ok (.dup, 1) := by decide +kernel
theorem dd_T_take_12 : decode prog_4_method_3_code 12 = .ok (.getfield 40, 3) := by decide +kernel
theorem dd_T_take_15 : decode prog_4_method_3_code 15 = .ok (.iconst 1, 1) := by decide +kernel
theorem dd_T_take_16 : decode prog_4_method_3_code 16 = .ok (.iadd, 1) := by decide +kernel
theorem dd_T_take_17 : decode prog_4_method_3_code 17 = .ok (.putfield 40, 3) := by decide +kernel
theorem dd_T_take_20 : decode prog_4_method_3_code 20 = .ok (.aload_n 0, 1) := by decide +kernel
theorem dd_T_take_21 : decode prog_4_method_3_code 21 = .ok (.getfield 9, 3) := by decide +kernel
theorem dd_T_take_24 : decode prog_4_method_3_code 24 = .ok (.iload_n 1, 1) := by decide +kernel
theorem dd_T_take_25 : decode prog_4_method_3_code 25 = .ok (.iload_n 2, 1) := by decide +kernel
theorem dd_T_take_26 : decode prog_4_method_3_code 26 = .ok (.iastore, 1) := by decide +kernel
theorem dd_T_take_27 : decode prog_4_method_3_code 27 = .ok (.return_, 1) := by decide +kernel
def wp_T_take_20 (g : Gm) (post : Hp → Prop) (h : Hp) (v0 : Nat) (v1 : Int32) (v2 : Int32) : Prop := hK h v0 = 4 ∧ ∃ a2 : Nat, hR h v0 2 = some a2 ∧ hK h a2 = 21 ∧ vp_in v1 (hN h a2) ∧ ∀ h4 : Hp, h4 = sI h a2 v1.toNatClampNeg v2 → post h4
set_option maxHeartbeats 4000000 in
set_option maxRecDepth 100000 in
theorem wk_T_take_20 {p : Program} {l : Launch} {e : Env} {s : State} {m : MethodId} {args : Array Value} {below : List Frame} {meth : Method} {c : Code} {g : Gm} {post : Hp → Prop} (C0 : Cx g p s m args c prog_4_method_3_code 3 "SegmentLocks$Task") (hr : meth.sig.returnType = none) (hlk : meth.locks = false) : ∀ (h : Hp) (v0 : Nat) (v1 : Int32) (v2 : Int32) (H : Heap) (locs : List Loc) (ls : Array Slot), wp_T_take_20 g post h v0 v1 v2 → GH g h H → va_S (gA g) s.heap H locs → lv_has ls 3 [(0, .ref v0), (1, .int v1), (2, .int v2)] → W p l e (rmm 0 0 0 0) s m args below meth c H locs 0 0 (MQ below (va_Qv post (gS g) (gA g)) args s 0 0 (gA g)) (F0 m 20 ls []) := by
  obtain ⟨hx, hb, -, hown, hts, hgk⟩ := id C0
  intro h v0 v1 v2 H locs ls hw hG hS hl
  unfold wp_T_take_20 at hw
  refine lv_aload_n hx hb dd_T_take_20 rfl (lv_at hl 0 rfl) ?_
  obtain ⟨k1, a2, ea2, hw⟩ := hw
  refine gf_T_9 C0 hG k1 ea2 dd_T_take_21 ?_
  refine lv_iload_n hx hb dd_T_take_24 rfl (lv_at hl 1 rfl) ?_
  refine lv_iload_n hx hb dd_T_take_25 rfl (lv_at hl 2 rfl) ?_
  obtain ⟨k3, k3i, hw⟩ := hw
  refine px_iast C0 hG hS k3 k3i dd_T_take_26 (fun H locs hG hS => ?_)
  replace hw := hw _ rfl
  generalize sI h a2 v1.toNatClampNeg v2 = h4 at hw hG
  exact re_v C0 hG hS hr hlk ⟨Nat.le_refl _, Nat.le_refl _⟩ hw dd_T_take_27
def wp_T_take (g : Gm) (post : Hp → Prop) (h : Hp) (a0 : Nat) (i1 : Int32) (i2 : Int32) : Prop := hK h a0 = 4 ∧ ∃ a2 : Nat, hR h a0 2 = some a2 ∧ hK h a2 = 21 ∧ vp_in i1 (hN h a2) ∧ ((¬ (hI h a2 i1.toNatClampNeg) = (-1) → wp_T_take_20 g post h a0 i1 i2) ∧ ((hI h a2 i1.toNatClampNeg) = (-1) → hK h a0 = 4 ∧ ∀ x6 : Int32, x6 = (hI h a0 10) + 1 → hK h a0 = 4 ∧ ∀ h8 : Hp, h8 = sI h a0 10 x6 → wp_T_take_20 g post h8 a0 i1 i2))
set_option maxHeartbeats 4000000 in
set_option maxRecDepth 100000 in
theorem c_T_take (l : Launch) (g : Gm) (post : Hp → Prop) (h : Hp) (a0 : Nat) (i1 : Int32) (i2 : Int32) (hw : wp_T_take g post h a0 i1 i2) : Met l (⟨"SegmentLocks$Task", "take", "(II)V"⟩ : MethodName) (ww (⟨"SegmentLocks$Task", "take", "(II)V"⟩ : MethodName) prog_4_method_3_code 3 none) (rmm 0 0 0 0) (va_Pc [.ref a0, .int i1, .int i2] (gS g h)) (va_Qv post (gS g) (gA g)) 0 0 (gA g) := by
  first | refine en_met (by decide) ?_ | refine en_metF (by decide) ?_
  intro p e s m below meth c C0 hr hlk hin hG
  have hS : va_S (gA g) s.heap s.heap [] := va_S.rf
  have hl := lv_entry ([.ref a0, .int i1, .int i2]) (n := 3) (Nat.le_of_ble_eq_true rfl)
  rw [lg_entry_eq]
  generalize (lg_sl ([.ref a0, .int i1, .int i2]) ++ List.replicate (3 - (lg_sl ([.ref a0, .int i1, .int i2])).length) Slot.unset).toArray = ls at hl ⊢
  replace hl : lv_has ls 3 [(0, .ref a0), (1, .int i1), (2, .int i2)] := hl
  obtain ⟨hx, hb, -, hown, hts, hgk⟩ := id C0
  unfold wp_T_take at hw
  refine lv_aload_n hx hb dd_T_take_0 rfl (lv_at hl 0 rfl) ?_
  obtain ⟨k1, a2, ea2, hw⟩ := hw
  refine gf_T_9 C0 hG k1 ea2 dd_T_take_1 ?_
  refine lv_iload_n hx hb dd_T_take_4 rfl (lv_at hl 1 rfl) ?_
  obtain ⟨k3, k3i, hw⟩ := hw
  refine px_iald C0 hG k3 k3i dd_T_take_5 ?_
  refine lv_iconst (v := (-1)) hx hb dd_T_take_6 (by decide) ?_
  refine lv_icmp_ne (tgt := 20) hx hb dd_T_take_7 (by decide) (fun c4 => ?_) (fun c4 => ?_)
  · replace hw := hw.1 c4
    exact wk_T_take_20 C0 hr hlk _ _ _ _ _ _ _ hw hG hS (lv_sub hl [0, 1, 2] rfl)
  · replace hw := hw.2 c4
    refine lv_aload_n hx hb dd_T_take_10 rfl (lv_at hl 0 rfl) ?_
    refine lv_dup hx hb dd_T_take_11 rfl ?_
    obtain ⟨k5, hw⟩ := hw
    refine gf_T_40 C0 hG k5 dd_T_take_12 ?_
    refine lv_iconst (v := 1) hx hb dd_T_take_15 (by decide) ?_
    refine lv_iadd hx hb dd_T_take_16 ?_
    refine lv_topi (fun x6 ex6 => ?_)
    replace hw := hw x6 ex6
    obtain ⟨k7, hw⟩ := hw
    refine pf_T_40 C0 hG hS k7 dd_T_take_17 (fun H locs hG hS => ?_)
    replace hw := hw _ rfl
    generalize sI h a0 10 x6 = h8 at hw hG
    exact wk_T_take_20 C0 hr hlk _ _ _ _ _ _ _ hw hG hS (lv_sub hl [0, 1, 2] rfl)
/-! SegmentLocks$Task.isYounger(LSegmentLocks$Task;)Z -/
theorem dd_T_isYounger_0 : decode prog_4_method_2_code 0 = .ok (.aload_n 0, 1) := by decide +kernel
theorem dd_T_isYounger_1 : decode prog_4_method_2_code 1 = .ok (.getfield 58, 3) := by decide +kernel
theorem dd_T_isYounger_4 : decode prog_4_method_2_code 4 = .ok (.aload_n 1, 1) := by decide +kernel
theorem dd_T_isYounger_5 : decode prog_4_method_2_code 5 = .ok (.getfield 58, 3) := by decide +kernel
theorem dd_T_isYounger_8 : decode prog_4_method_2_code 8 = .ok (.if_icmp .gt 25, 3) := by decide +kernel
theorem dd_T_isYounger_11 : decode prog_4_method_2_code 11 = .ok (.aload_n 0, 1) := by decide +kernel
theorem dd_T_isYounger_12 : decode prog_4_method_2_code 12 = .ok (.getfield 58, 3) := by decide +kernel
theorem dd_T_isYounger_15 : decode prog_4_method_2_code 15 = .ok (.aload_n 1, 1) := by decide +kernel
theorem dd_T_isYounger_16 : decode prog_4_method_2_code 16 = .ok (.getfield 58, 3) := by decide +kernel
theorem dd_T_isYounger_19 : decode prog_4_method_2_code 19 = .ok (.if_icmp .ne 18, 3) := by decide +kernel
theorem dd_T_isYounger_22 : decode prog_4_method_2_code 22 = .ok (.aload_n 0, 1) := by decide +kernel
theorem dd_T_isYounger_23 : decode prog_4_method_2_code 23 = .ok (.getfield 55, 3) := by decide +kernel
theorem dd_T_isYounger_26 : decode prog_4_method_2_code 26 = .ok (.aload_n 1, 1) := by decide +kernel
theorem dd_T_isYounger_27 : decode prog_4_method_2_code 27 = .ok (.getfield 55, 3) := by decide +kernel
theorem dd_T_isYounger_30 : decode prog_4_method_2_code 30 = .ok (.if_icmp .le 7, 3) := by decide +kernel
theorem dd_T_isYounger_33 : decode prog_4_method_2_code 33 = .ok (.iconst 1, 1) := by decide +kernel
theorem dd_T_isYounger_34 : decode prog_4_method_2_code 34 = .ok (.goto 4, 3) := by decide +kernel
theorem dd_T_isYounger_37 : decode prog_4_method_2_code 37 = .ok (.iconst 0, 1) := by decide +kernel
theorem dd_T_isYounger_38 : decode prog_4_method_2_code 38 = .ok (.ireturn, 1) := by decide +kernel
def wp_T_isYounger_38 (g : Gm) (post : Int32 → Prop) (h : Hp) (s0 : Int32) : Prop := zB s0 ∧ post s0
set_option maxHeartbeats 4000000 in
set_option maxRecDepth 100000 in
theorem wk_T_isYounger_38 {p : Program} {l : Launch} {e : Env} {s : State} {m : MethodId} {args : Array Value} {below : List Frame} {meth : Method} {c : Code} {g : Gm} {post : Int32 → Prop} (C0 : Cx g p s m args c prog_4_method_2_code 2 "SegmentLocks$Task") (hr : meth.sig.returnType = (some .boolean)) (hlk : meth.locks = false) : ∀ (h : Hp) (s0 : Int32) (ls : Array Slot), wp_T_isYounger_38 g post h s0 → GH g h s.heap → lv_has ls 2 [] → W p l e (rmm 0 0 0 0) s m args below meth c s.heap [] 0 0 (MQ below (vp_Si post) args s 0 0 (fun _ => False)) (F0 m 38 ls [.int s0]) := by
  obtain ⟨hx, hb, -, hown, hts, hgk⟩ := id C0
  have hS : va_S (gA g) s.heap s.heap [] := va_S.rf
  intro h s0 ls hw hG hl
  unfold wp_T_isYounger_38 at hw
  exact rs_z C0 hr hlk hw.1.nar hw.2 dd_T_isYounger_38
def wp_T_isYounger_33 (g : Gm) (post : Int32 → Prop) (h : Hp) : Prop := wp_T_isYounger_38 g post h 1
set_option maxHeartbeats 4000000 in
set_option maxRecDepth 100000 in
theorem wk_T_isYounger_33 {p : Program} {l : Launch} {e : Env} {s : State} {m : MethodId} {args : Array Value} {below : List Frame} {meth : Method} {c : Code} {g : Gm} {post : Int32 → Prop} (C0 : Cx g p s m args c prog_4_method_2_code 2 "SegmentLocks$Task") (hr : meth.sig.returnType = (some .boolean)) (hlk : meth.locks = false) : ∀ (h : Hp) (ls : Array Slot), wp_T_isYounger_33 g post h → GH g h s.heap → lv_has ls 2 [] → W p l e (rmm 0 0 0 0) s m args below meth c s.heap [] 0 0 (MQ below (vp_Si post) args s 0 0 (fun _ => False)) (F0 m 33 ls []) := by
  obtain ⟨hx, hb, -, hown, hts, hgk⟩ := id C0
  have hS : va_S (gA g) s.heap s.heap [] := va_S.rf
  intro h ls hw hG hl
  unfold wp_T_isYounger_33 at hw
  refine lv_iconst (v := 1) hx hb dd_T_isYounger_33 (by decide) ?_
  refine lv_goto (tgt := 38) hx hb dd_T_isYounger_34 (by decide) ?_
  exact wk_T_isYounger_38 C0 hr hlk _ _ _ hw hG (lv_sub hl [] rfl)
def wp_T_isYounger_37 (g : Gm) (post : Int32 → Prop) (h : Hp) : Prop := wp_T_isYounger_38 g post h 0
set_option maxHeartbeats 4000000 in
set_option maxRecDepth 100000 in
theorem wk_T_isYounger_37 {p : Program} {l : Launch} {e : Env} {s : State} {m : MethodId} {args : Array Value} {below : List Frame} {meth : Method} {c : Code} {g : Gm} {post : Int32 → Prop} (C0 : Cx g p s m args c prog_4_method_2_code 2 "SegmentLocks$Task") (hr : meth.sig.returnType = (some .boolean)) (hlk : meth.locks = false) : ∀ (h : Hp) (ls : Array Slot), wp_T_isYounger_37 g post h → GH g h s.heap → lv_has ls 2 [] → W p l e (rmm 0 0 0 0) s m args below meth c s.heap [] 0 0 (MQ below (vp_Si post) args s 0 0 (fun _ => False)) (F0 m 37 ls []) := by
  obtain ⟨hx, hb, -, hown, hts, hgk⟩ := id C0
  have hS : va_S (gA g) s.heap s.heap [] := va_S.rf
  intro h ls hw hG hl
  unfold wp_T_isYounger_37 at hw
  refine lv_iconst (v := 0) hx hb dd_T_isYounger_37 (by decide) ?_
  exact wk_T_isYounger_38 C0 hr hlk _ _ _ hw hG (lv_sub hl [] rfl)
def wp_T_isYounger (g : Gm) (post : Int32 → Prop) (h : Hp) (a0 : Nat) (b1 : Nat) : Prop := hK h a0 = 4 ∧ hK h b1 = 4 ∧ (((hI h b1 1) < (hI h a0 1) → wp_T_isYounger_33 g post h) ∧ (¬ (hI h b1 1) < (hI h a0 1) → hK h a0 = 4 ∧ hK h b1 = 4 ∧ ((¬ (hI h a0 1) = (hI h b1 1) → wp_T_isYounger_37 g post h) ∧ ((hI h a0 1) = (hI h b1 1) → hK h a0 = 4 ∧ hK h b1 = 4 ∧ (((hI h a0 0) ≤ (hI h b1 0) → wp_T_isYounger_37 g post h) ∧ (¬ (hI h a0 0) ≤ (hI h b1 0) → wp_T_isYounger_33 g post h))))))
set_option maxHeartbeats 4000000 in
set_option maxRecDepth 100000 in
theorem c_T_isYounger (l : Launch) (g : Gm) (post : Int32 → Prop) (h : Hp) (a0 : Nat) (b1 : Nat) (hw : wp_T_isYounger g post h a0 b1) : Met l (⟨"SegmentLocks$Task", "isYounger", "(LSegmentLocks$Task;)Z"⟩ : MethodName) (ww (⟨"SegmentLocks$Task", "isYounger", "(LSegmentLocks$Task;)Z"⟩ : MethodName) prog_4_method_2_code 2 (some .boolean)) (rmm 0 0 0 0) (va_Pc [.ref a0, .ref b1] (gS g h)) (vp_Si post) 0 0 (fun _ => False) := by
  first | refine en_met (by decide) ?_ | refine en_metF (by decide) ?_
  intro p e s m below meth c C0 hr hlk hin hG
  have hS : va_S (gA g) s.heap s.heap [] := va_S.rf
  have hl := lv_entry ([.ref a0, .ref b1]) (n := 2) (Nat.le_of_ble_eq_true rfl)
  rw [lg_entry_eq]
  generalize (lg_sl ([.ref a0, .ref b1]) ++ List.replicate (2 - (lg_sl ([.ref a0, .ref b1])).length) Slot.unset).toArray = ls at hl ⊢
  replace hl : lv_has ls 2 [(0, .ref a0), (1, .ref b1)] := hl
  obtain ⟨hx, hb, -, hown, hts, hgk⟩ := id C0
  unfold wp_T_isYounger at hw
  refine lv_aload_n hx hb dd_T_isYounger_0 rfl (lv_at hl 0 rfl) ?_
  obtain ⟨k1, hw⟩ := hw
  refine gf_T_58 C0 hG k1 dd_T_isYounger_1 ?_
  refine lv_aload_n hx hb dd_T_isYounger_4 rfl (lv_at hl 1 rfl) ?_
  obtain ⟨k2, hw⟩ := hw
  refine gf_T_58 C0 hG k2 dd_T_isYounger_5 ?_
  refine lv_icmp_gt (tgt := 33) hx hb dd_T_isYounger_8 (by decide) (fun c3 => ?_) (fun c3 => ?_)
  · replace hw := hw.1 c3
    exact wk_T_isYounger_33 C0 hr hlk _ _ hw hG (lv_sub hl [] rfl)
  · replace hw := hw.2 c3
    refine lv_aload_n hx hb dd_T_isYounger_11 rfl (lv_at hl 0 rfl) ?_
    obtain ⟨k4, hw⟩ := hw
    refine gf_T_58 C0 hG k4 dd_T_isYounger_12 ?_
    refine lv_aload_n hx hb dd_T_isYounger_15 rfl (lv_at hl 1 rfl) ?_
    obtain ⟨k5, hw⟩ := hw
    refine gf_T_58 C0 hG k5 dd_T_isYounger_16 ?_
    refine lv_icmp_ne (tgt := 37) hx hb dd_T_isYounger_19 (by decide) (fun c6 => ?_) (fun c6 => ?_)
    · replace hw := hw.1 c6
      exact wk_T_isYounger_37 C0 hr hlk _ _ hw hG (lv_sub hl [] rfl)
    · replace hw := hw.2 c6
      refine lv_aload_n hx hb dd_T_isYounger_22 rfl (lv_at hl 0 rfl) ?_
      obtain ⟨k7, hw⟩ := hw
      refine gf_T_55 C0 hG k7 dd_T_isYounger_23 ?_
      refine lv_aload_n hx hb dd_T_isYounger_26 rfl (lv_at hl 1 rfl) ?_
      obtain ⟨k8, hw⟩ := hw
      refine gf_T_55 C0 hG k8 dd_T_isYounger_27 ?_
      refine lv_icmp_le (tgt := 37) hx hb dd_T_isYounger_30 (by decide) (fun c9 => ?_) (fun c9 => ?_)
      · replace hw := hw.1 c9
        exact wk_T_isYounger_37 C0 hr hlk _ _ hw hG (lv_sub hl [] rfl)
      · replace hw := hw.2 c9
        exact wk_T_isYounger_33 C0 hr hlk _ _ hw hG (lv_sub hl [] rfl)
/-! SegmentLocks$Task.keep(IJ)V -/
theorem dd_T_keep_0 : decode prog_4_method_4_code 0 = .ok (.aload_n 0, 1) := by decide +kernel
theorem dd_T_keep_1 : decode prog_4_method_4_code 1 = .ok (.getfield 19, 3) := by decide +kernel
theorem dd_T_keep_4 : decode prog_4_method_4_code 4 = .ok (.iload_n 1, 1) := by decide +kernel
theorem dd_T_keep_5 : decode prog_4_method_4_code 5 = .ok (.baload, 1) := by decide +kernel
theorem dd_T_keep_6 : decode prog_4_method_4_code 6 = .ok (.ifCond .ne 13, 3) := by decide +kernel
theorem dd_T_keep_9 : decode prog_4_method_4_code 9 = .ok (.aload_n 0, 1) := by decide +kernel
theorem dd_T_keep_10 : decode prog_4_method_4_code 10 = .ok (.dup, 1) := by decide +kernel
theorem dd_T_keep_11 : decode prog_4_method_4_code 11 = .ok (.getfield 43, 3) := by decide +kernel
theorem dd_T_keep_14 : decode prog_4_method_4_code 14 = .ok (.iconst 1, 1) := by decide +kernel
theorem dd_T_keep_15 : decode prog_4_method_4_code 15 = .ok (.iadd, 1) := by decide +kernel
theorem dd_T_keep_16 : decode prog_4_method_4_code 16 = .ok (.putfield 43, 3) := by decide +kernel
theorem dd_T_keep_19 : decode prog_4_method_4_code 19 = .ok (.aload_n 0, 1) := by decide +kernel
theorem dd_T_keep_20 : decode prog_4_method_4_code 20 = .ok (.getfield 19, 3) := by decide +kernel
theorem dd_T_keep_23 : decode prog_4_method_4_code 23 = .ok (.iload_n 1, 1) := by decide +kernel
theorem dd_T_keep_24 : decode prog_4_method_4_code 24 = .ok (.iconst 1, 1) := by decide +kernel
theorem dd_T_keep_25 : decode prog_4_method_4_code 25 = .ok (.bastore, 1) := by decide +kernel
theorem dd_T_keep_26 : decode prog_4_method_4_code 26 = .ok (.aload_n 0, 1) := by decide +kernel
theorem dd_T_keep_27 : decode prog_4_method_4_code 27 = .ok (.getfield 22, 3) := by decide +kernel
theorem dd_T_keep_30 : decode prog_4_method_4_code 30 = .ok (.iload_n 1, 1) := by decide +kernel
theorem dd_T_keep_31 : decode prog_4_method_4_code 31 = .ok (.lload_n 2, 1) := by decide +kernel
theorem dd_T_keep_32 : decode prog_4_method_4_code 32 = .ok (.lastore, 1) := by decide +kernel
theorem dd_T_keep_33 : decode prog_4_method_4_code 33 = .ok (.return_, 1) := by decide +kernel
def wp_T_keep_19 (g : Gm) (post : Hp → Prop) (h : Hp) (v0 : Nat) (v1 : Int32) (v2 : Int64) : Prop := hK h v0 = 4 ∧ ∃ a2 : Nat, hR h v0 4 = some a2 ∧ hK h a2 = 23 ∧ vp_in v1 (hN h a2) ∧ zB 1 ∧ ∀ h4 : Hp, h4 = sI h a2 v1.toNatClampNeg 1 → hK h4 v0 = 4 ∧ ∃ a6 : Nat, hR h4 v0 5 = some a6 ∧ hK h4 a6 = 22 ∧ vp_in v1 (hN h4 a6) ∧ ∀ h8 : Hp, h8 = sJ h4 a6 v1.toNatClampNeg v2 → post h8
set_option maxHeartbeats 4000000 in
set_option maxRecDepth 100000 in
theorem wk_T_keep_19 {p : Program} {l : Launch} {e : Env} {s : State} {m : MethodId} {args : Array Value} {below : List Frame} {meth : Method} {c : Code} {g : Gm} {post : Hp → Prop} (C0 : Cx g p s m args c prog_4_method_4_code 4 "SegmentLocks$Task") (hr : meth.sig.returnType = none) (hlk : meth.locks = false) : ∀ (h : Hp) (v0 : Nat) (v1 : Int32) (v2 : Int64) (H : Heap) (locs : List Loc) (ls : Array Slot), wp_T_keep_19 g post h v0 v1 v2 → GH g h H → va_S (gA g) s.heap H locs → lv_has ls 4 [(0, .ref v0), (1, .int v1), (2, .long v2)] → W p l e (rmm 0 0 0 0) s m args below meth c H locs 0 0 (MQ below (va_Qv post (gS g) (gA g)) args s 0 0 (gA g)) (F0 m 19 ls []) := by
  obtain ⟨hx, hb, -, hown, hts, hgk⟩ := id C0
  intro h v0 v1 v2 H locs ls hw hG hS hl
  unfold wp_T_keep_19 at hw
  refine lv_aload_n hx hb dd_T_keep_19 rfl (lv_at hl 0 rfl) ?_
  obtain ⟨k1, a2, ea2, hw⟩ := hw
  refine gf_T_19 C0 hG k1 ea2 dd_T_keep_20 ?_
  refine lv_iload_n hx hb dd_T_keep_23 rfl (lv_at hl 1 rfl) ?_
  refine lv_iconst (v := 1) hx hb dd_T_keep_24 (by decide) ?_
  obtain ⟨k3, k3i, hz, hw⟩ := hw
  refine px_zast C0 hG hS k3 k3i hz.nar dd_T_keep_25 (fun H locs hG hS => ?_)
  replace hw := hw _ rfl
  generalize sI h a2 v1.toNatClampNeg 1 = h4 at hw hG
  refine lv_aload_n hx hb dd_T_keep_26 rfl (lv_at hl 0 rfl) ?_
  obtain ⟨k5, a6, ea6, hw⟩ := hw
  refine gf_T_22 C0 hG k5 ea6 dd_T_keep_27 ?_
  refine lv_iload_n hx hb dd_T_keep_30 rfl (lv_at hl 1 rfl) ?_
  refine lv_lload_n hx hb dd_T_keep_31 rfl (lv_at hl 2 rfl) ?_
  obtain ⟨k7, k7i, hw⟩ := hw
  refine px_last C0 hG hS k7 k7i dd_T_keep_32 (fun H locs hG hS => ?_)
  replace hw := hw _ rfl
  generalize sJ h4 a6 v1.toNatClampNeg v2 = h8 at hw hG
  exact re_v C0 hG hS hr hlk ⟨Nat.le_refl _, Nat.le_refl _⟩ hw dd_T_keep_33
def wp_T_keep (g : Gm) (post : Hp → Prop) (h : Hp) (a0 : Nat) (i1 : Int32) (l2 : Int64) : Prop := hK h a0 = 4 ∧ ∃ a2 : Nat, hR h a0 4 = some a2 ∧ hK h a2 = 23 ∧ vp_in i1 (hN h a2) ∧ ((¬ (hI h a2 i1.toNatClampNeg) = 0 → wp_T_keep_19 g post h a0 i1 l2) ∧ ((hI h a2 i1.toNatClampNeg) = 0 → hK h a0 = 4 ∧ ∀ x6 : Int32, x6 = (hI h a0 11) + 1 → hK h a0 = 4 ∧ ∀ h8 : Hp, h8 = sI h a0 11 x6 → wp_T_keep_19 g post h8 a0 i1 l2))
set_option maxHeartbeats 4000000 in
set_option maxRecDepth 100000 in
theorem c_T_keep (l : Launch) (g : Gm) (post : Hp → Prop) (h : Hp) (a0 : Nat) (i1 : Int32) (l2 : Int64) (hw : wp_T_keep g post h a0 i1 l2) : Met l (⟨"SegmentLocks$Task", "keep", "(IJ)V"⟩ : MethodName) (ww (⟨"SegmentLocks$Task", "keep", "(IJ)V"⟩ : MethodName) prog_4_method_4_code 4 none) (rmm 0 0 0 0) (va_Pc [.ref a0, .int i1, .long l2] (gS g h)) (va_Qv post (gS g) (gA g)) 0 0 (gA g) := by
  first | refine en_met (by decide) ?_ | refine en_metF (by decide) ?_
  intro p e s m below meth c C0 hr hlk hin hG
  have hS : va_S (gA g) s.heap s.heap [] := va_S.rf
  have hl := lv_entry ([.ref a0, .int i1, .long l2]) (n := 4) (Nat.le_of_ble_eq_true rfl)
  rw [lg_entry_eq]
  generalize (lg_sl ([.ref a0, .int i1, .long l2]) ++ List.replicate (4 - (lg_sl ([.ref a0, .int i1, .long l2])).length) Slot.unset).toArray = ls at hl ⊢
  replace hl : lv_has ls 4 [(0, .ref a0), (1, .int i1), (2, .long l2)] := hl
  obtain ⟨hx, hb, -, hown, hts, hgk⟩ := id C0
  unfold wp_T_keep at hw
  refine lv_aload_n hx hb dd_T_keep_0 rfl (lv_at hl 0 rfl) ?_
  obtain ⟨k1, a2, ea2, hw⟩ := hw
  refine gf_T_19 C0 hG k1 ea2 dd_T_keep_1 ?_
  refine lv_iload_n hx hb dd_T_keep_4 rfl (lv_at hl 1 rfl) ?_
  obtain ⟨k3, k3i, hw⟩ := hw
  refine px_zald C0 hG k3 k3i dd_T_keep_5 ?_
  refine lv_if_ne (tgt := 19) hx hb dd_T_keep_6 (by decide) (fun c4 => ?_) (fun c4 => ?_)
  · replace hw := hw.1 c4
    exact wk_T_keep_19 C0 hr hlk _ _ _ _ _ _ _ hw hG hS (lv_sub hl [0, 1, 2] rfl)
  · replace hw := hw.2 c4
    refine lv_aload_n hx hb dd_T_keep_9 rfl (lv_at hl 0 rfl) ?_
    refine lv_dup hx hb dd_T_keep_10 rfl ?_
    obtain ⟨k5, hw⟩ := hw
    refine gf_T_43 C0 hG k5 dd_T_keep_11 ?_
    refine lv_iconst (v := 1) hx hb dd_T_keep_14 (by decide) ?_
    refine lv_iadd hx hb dd_T_keep_15 ?_
    refine lv_topi (fun x6 ex6 => ?_)
    replace hw := hw x6 ex6
    obtain ⟨k7, hw⟩ := hw
    refine pf_T_43 C0 hG hS k7 dd_T_keep_16 (fun H locs hG hS => ?_)
    replace hw := hw _ rfl
    generalize sI h a0 11 x6 = h8 at hw hG
    exact wk_T_keep_19 C0 hr hlk _ _ _ _ _ _ _ hw hG hS (lv_sub hl [0, 1, 2] rfl)
/-! SegmentLocks$Task.isInOrder([J)Z -/
theorem dd_T_isInOrder_0 : decode prog_4_method_6_code 0 = .ok (.aload_n 0, 1) := by decide +kernel
theorem dd_T_isInOrder_1 : decode prog_4_method_6_code 1 = .ok (.getfield 32, 3) := by decide +kernel
theorem dd_T_isInOrder_4 : decode prog_4_method_6_code 4 = .ok (.ifCond .eq 5, 3) := by decide +kernel
theorem dd_T_isInOrder_7 : decode prog_4_method_6_code 7 = .ok (.iconst 0, 1) := by decide +kernel
theorem dd_T_isInOrder_8 : decode prog_4_method_6_code 8 = .ok (.ireturn, 1) := by decide +kernel
theorem dd_T_isInOrder_9 : decode prog_4_method_6_code 9 = .ok (.iconst 0, 1) := by decide +kernel
theorem dd_T_isInOrder_10 : decode prog_4_method_6_code 10 = .ok (.istore_n 2, 1) := by decide +kernel
theorem dd_T_isInOrder_11 : decode prog_4_method_6_code 11 = .ok (.iload_n 2, 1) := by decide +kernel
theorem dd_T_isInOrder_12 : decode prog_4_method_6_code 12 = .ok (.bipush 50, 2) := by decide +kernel
theorem dd_T_isInOrder_14 : decode prog_4_method_6_code 14 = .ok (.if_icmp .ge 39, 3) := by decide +kernel
theorem dd_T_isInOrder_17 : decode prog_4_method_6_code 17 = .ok (.iload_n 2, 1) := by decide +kernel
theorem dd_T_isInOrder_18 : decode prog_4_method_6_code 18 = .ok (.aload_n 1, 1) := by decide +kernel
theorem dd_T_isInOrder_19 : decode prog_4_method_6_code 19 = .ok (.arraylength, 1) := by decide +kernel
theorem dd_T_isInOrder_20 : decode prog_4_method_6_code 20 = .ok (.if_icmp .ge 33, 3) := by decide +kernel
theorem dd_T_isInOrder_23 : decode prog_4_method_6_code 23 = .ok (.aload_n 0, 1) := by decide +kernel
theorem dd_T_isInOrder_24 : decode prog_4_method_6_code 24 = .ok (.getfield 26, 3) := by decide +kernel
theorem dd_T_isInOrder_27 : decode prog_4_method_6_code 27 = .ok (.iload_n 2, 1) := by decide +kernel
theorem dd_T_isInOrder_28 : decode prog_4_method_6_code 28 = .ok (.baload, 1) := by decide +kernel
theorem dd_T_isInOrder_29 : decode prog_4_method_6_code 29 = .ok (.ifCond .eq 18, 3) := by decide +kernel
theorem dd_T_isInOrder_32 : decode prog_4_method_6_code 32 = .ok (.aload_n 0, 1) := by decide +kernel
theorem dd_T_isInOrder_33 : decode prog_4_method_6_code 33 = .ok (.getfield 29, 3) := by decide +kernel
theorem dd_T_isInOrder_36 : decode prog_4_method_6_code 36 = .ok (.iload_n 2, 1) := by decide +kernel
theorem dd_T_isInOrder_37 : decode prog_4_method_6_code 37 = .ok (.laload, 1) := by decide +kernel
theorem dd_T_isInOrder_38 : decode prog_4_method_6_code 38 = .ok (.aload_n 1, 1) := by decide +kernel
theorem dd_T_isInOrder_39 : decode prog_4_method_6_code 39 = .ok (.iload_n 2, 1) := by decide +kernel
theorem dd_T_isInOrder_40 : decode prog_4_method_6_code 40 = .ok (.laload, 1) := by decide +kernel
theorem dd_T_isInOrder_41 : decode prog_4_method_6_code 41 = .ok (.lcmp, 1) := by decide +kernel
theorem dd_T_isInOrder_42 : decode prog_4_method_6_code 42 = .ok (.ifCond .eq 5, 3) := by decide +kernel
theorem dd_T_isInOrder_45 : decode prog_4_method_6_code 45 = .ok (.iconst 0, 1) := by decide +kernel
theorem dd_T_isInOrder_46 : decode prog_4_method_6_code 46 = .ok (.ireturn, 1) := by decide +kernel
theorem dd_T_isInOrder_47 : decode prog_4_method_6_code 47 = .ok (.iinc 2 1, 3) := by decide +kernel
theorem dd_T_isInOrder_50 : decode prog_4_method_6_code 50 = .ok (.goto (-39), 3) := by decide +kernel
theorem dd_T_isInOrder_53 : decode prog_4_method_6_code 53 = .ok (.iconst 1, 1) := by decide +kernel
theorem dd_T_isInOrder_54 : decode prog_4_method_6_code 54 = .ok (.ireturn, 1) := by decide +kernel
def wp_T_isInOrder_53 (g : Gm) (post : Int32 → Prop) (h : Hp) : Prop := zB 1 ∧ post 1
set_option maxHeartbeats 4000000 in
set_option maxRecDepth 100000 in
theorem wk_T_isInOrder_53 {p : Program} {l : Launch} {e : Env} {s : State} {m : MethodId} {args : Array Value} {below : List Frame} {meth : Method} {c : Code} {g : Gm} {post : Int32 → Prop} (C0 : Cx g p s m args c prog_4_method_6_code 3 "SegmentLocks$Task") (hr : meth.sig.returnType = (some .boolean)) (hlk : meth.locks = false) : ∀ (h : Hp) (ls : Array Slot), wp_T_isInOrder_53 g post h → GH g h s.heap → lv_has ls 3 [] → W p l e (rmm 0 0 0 0) s m args below meth c s.heap [] 0 0 (MQ below (vp_Si post) args s 0 0 (fun _ => False)) (F0 m 53 ls []) := by
  obtain ⟨hx, hb, -, hown, hts, hgk⟩ := id C0
  have hS : va_S (gA g) s.heap s.heap [] := va_S.rf
  intro h ls hw hG hl
  unfold wp_T_isInOrder_53 at hw
  refine lv_iconst (v := 1) hx hb dd_T_isInOrder_53 (by decide) ?_
  exact rs_z C0 hr hlk hw.1.nar hw.2 dd_T_isInOrder_54
def wp_T_isInOrder_47 (g : Gm) (post : Int32 → Prop) (K11 : Hp → Nat → Nat → Int32 → Prop) (h : Hp) (v0 : Nat) (v1 : Nat) (v2 : Int32) : Prop := ∀ x1 : Int32, x1 = v2 + 1 → K11 h v0 v1 x1
set_option maxHeartbeats 4000000 in
set_option maxRecDepth 100000 in
theorem wk_T_isInOrder_47 {p : Program} {l : Launch} {e : Env} {s : State} {m : MethodId} {args : Array Value} {below : List Frame} {meth : Method} {c : Code} {g : Gm} {post : Int32 → Prop} (C0 : Cx g p s m args c prog_4_method_6_code 3 "SegmentLocks$Task") (hr : meth.sig.returnType = (some .boolean)) (hlk : meth.locks = false) {K11 : Hp → Nat → Nat → Int32 → Prop} (hK11 : ∀ (h : Hp) (v0 : Nat) (v1 : Nat) (v2 : Int32) (ls : Array Slot), K11 h v0 v1 v2 → GH g h s.heap → lv_has ls 3 [(0, .ref v0), (1, .ref v1), (2, .int v2)] → W p l e (rmm 0 0 0 0) s m args below meth c s.heap [] 0 0 (MQ below (vp_Si post) args s 0 0 (fun _ => False)) (F0 m 11 ls [])) : ∀ (h : Hp) (v0 : Nat) (v1 : Nat) (v2 : Int32) (ls : Array Slot), wp_T_isInOrder_47 g post K11 h v0 v1 v2 → GH g h s.heap → lv_has ls 3 [(0, .ref v0), (1, .ref v1), (2, .int v2)] → W p l e (rmm 0 0 0 0) s m args below meth c s.heap [] 0 0 (MQ below (vp_Si post) args s 0 0 (fun _ => False)) (F0 m 47 ls []) := by
  obtain ⟨hx, hb, -, hown, hts, hgk⟩ := id C0
  have hS : va_S (gA g) s.heap s.heap [] := va_S.rf
  intro h v0 v1 v2 ls hw hG hl
  unfold wp_T_isInOrder_47 at hw
  obtain ⟨x1, ex1⟩ : ∃ y : Int32, y = v2 + 1 := ⟨_, rfl⟩
  replace hw := hw x1 ex1
  have hl0 := hl
  clear hl
  refine lv_iinc (v := x1) (lv' := [(2, .int x1), (0, .ref v0), (1, .ref v1)]) hx hb dd_T_isInOrder_47 hl0 (k := 2) rfl (by rw [ex1]; rfl) (by decide) rfl (fun ls hl => ?_)
  refine lv_goto (tgt := 11) hx hb dd_T_isInOrder_50 (by decide) ?_
  exact hK11 _ _ _ _ _ hw hG (lv_sub hl [1, 2, 0] rfl)
def wp_T_isInOrder_11 (g : Gm) (post : Int32 → Prop) : Nat → Hp → Nat → Nat → Int32 → Prop
  | 0, _, _, _, _ => False
  | fu + 1, h, v0, v1, v2 => ((50 ≤ v2 → wp_T_isInOrder_53 g post h) ∧ (¬ 50 ≤ v2 → ∃ x3 : Int32, gLen g h v1 x3 ∧ ((x3 ≤ v2 → wp_T_isInOrder_53 g post h) ∧ (¬ x3 ≤ v2 → hK h v0 = 4 ∧ ∃ a6 : Nat, hR h v0 6 = some a6 ∧ hK h a6 = 23 ∧ vp_in v2 (hN h a6) ∧ (((hI h a6 v2.toNatClampNeg) = 0 → wp_T_isInOrder_47 g post (fun h v0 v1 v2 => wp_T_isInOrder_11 g post fu h v0 v1 v2) h v0 v1 v2) ∧ (¬ (hI h a6 v2.toNatClampNeg) = 0 → hK h v0 = 4 ∧ ∃ a10 : Nat, hR h v0 7 = some a10 ∧ hK h a10 = 22 ∧ vp_in v2 (hN h a10) ∧ hK h v1 = 22 ∧ vp_in v2 (hN h v1) ∧ (((lg_cmp (hJ h a10 v2.toNatClampNeg) (hJ h v1 v2.toNatClampNeg)) = 0 → wp_T_isInOrder_47 g post (fun h v0 v1 v2 => wp_T_isInOrder_11 g post fu h v0 v1 v2) h v0 v1 v2) ∧ (¬ (lg_cmp (hJ h a10 v2.toNatClampNeg) (hJ h v1 v2.toNatClampNeg)) = 0 → zB 0 ∧ post 0))))))))
set_option maxHeartbeats 4000000 in
set_option maxRecDepth 100000 in
theorem wk_T_isInOrder_11 {p : Program} {l : Launch} {e : Env} {s : State} {m : MethodId} {args : Array Value} {below : List Frame} {meth : Method} {c : Code} {g : Gm} {post : Int32 → Prop} (C0 : Cx g p s m args c prog_4_method_6_code 3 "SegmentLocks$Task") (hr : meth.sig.returnType = (some .boolean)) (hlk : meth.locks = false) : ∀ n : Nat, ∀ (h : Hp) (v0 : Nat) (v1 : Nat) (v2 : Int32) (ls : Array Slot), wp_T_isInOrder_11 g post n h v0 v1 v2 → GH g h s.heap → lv_has ls 3 [(0, .ref v0), (1, .ref v1), (2, .int v2)] → W p l e (rmm 0 0 0 0) s m args below meth c s.heap [] 0 0 (MQ below (vp_Si post) args s 0 0 (fun _ => False)) (F0 m 11 ls []) := by
  obtain ⟨hx, hb, -, hown, hts, hgk⟩ := id C0
  have hS : va_S (gA g) s.heap s.heap [] := va_S.rf
  intro n
  induction n with
  | zero =>
    intro h v0 v1 v2 ls hw hG hl
    exact hw.elim
  | succ n ih =>
    intro h v0 v1 v2 ls hw hG hl
    unfold wp_T_isInOrder_11 at hw
    refine lv_iload_n hx hb dd_T_isInOrder_11 rfl (lv_at hl 2 rfl) ?_
    refine lv_bipush (v := 50) hx hb dd_T_isInOrder_12 (by decide) ?_
    refine lv_icmp_ge (tgt := 53) hx hb dd_T_isInOrder_14 (by decide) (fun c1 => ?_) (fun c1 => ?_)
    · replace hw := hw.1 c1
      exact wk_T_isInOrder_53 C0 hr hlk _ _ hw hG (lv_sub hl [] rfl)
    · replace hw := hw.2 c1
      refine lv_iload_n hx hb dd_T_isInOrder_17 rfl (lv_at hl 2 rfl) ?_
      refine lv_aload_n hx hb dd_T_isInOrder_18 rfl (lv_at hl 1 rfl) ?_
      obtain ⟨x3, k2, hw⟩ := hw
      refine px_len C0 hG hS k2 dd_T_isInOrder_19 ?_
      refine lv_icmp_ge (tgt := 53) hx hb dd_T_isInOrder_20 (by decide) (fun c4 => ?_) (fun c4 => ?_)
      · replace hw := hw.1 c4
        exact wk_T_isInOrder_53 C0 hr hlk _ _ hw hG (lv_sub hl [] rfl)
      · replace hw := hw.2 c4
        refine lv_aload_n hx hb dd_T_isInOrder_23 rfl (lv_at hl 0 rfl) ?_
        obtain ⟨k5, a6, ea6, hw⟩ := hw
        refine gf_T_26 C0 hG k5 ea6 dd_T_isInOrder_24 ?_
        refine lv_iload_n hx hb dd_T_isInOrder_27 rfl (lv_at hl 2 rfl) ?_
        obtain ⟨k7, k7i, hw⟩ := hw
        refine px_zald C0 hG k7 k7i dd_T_isInOrder_28 ?_
        refine lv_if_eq (tgt := 47) hx hb dd_T_isInOrder_29 (by decide) (fun c8 => ?_) (fun c8 => ?_)
        · replace hw := hw.1 c8
          exact wk_T_isInOrder_47 C0 hr hlk ih _ _ _ _ _ hw hG (lv_sub hl [0, 1, 2] rfl)
        · replace hw := hw.2 c8
          refine lv_aload_n hx hb dd_T_isInOrder_32 rfl (lv_at hl 0 rfl) ?_
          obtain ⟨k9, a10, ea10, hw⟩ := hw
          refine gf_T_29 C0 hG k9 ea10 dd_T_isInOrder_33 ?_
          refine lv_iload_n hx hb dd_T_isInOrder_36 rfl (lv_at hl 2 rfl) ?_
          obtain ⟨k11, k11i, hw⟩ := hw
          refine px_lald C0 hG k11 k11i dd_T_isInOrder_37 ?_
          refine lv_aload_n hx hb dd_T_isInOrder_38 rfl (lv_at hl 1 rfl) ?_
          refine lv_iload_n hx hb dd_T_isInOrder_39 rfl (lv_at hl 2 rfl) ?_
          obtain ⟨k12, k12i, hw⟩ := hw
          refine px_lald C0 hG k12 k12i dd_T_isInOrder_40 ?_
          refine W.lcmp hx hb dd_T_isInOrder_41 ?_
          refine lv_if_eq (tgt := 47) hx hb dd_T_isInOrder_42 (by decide) (fun c13 => ?_) (fun c13 => ?_)
          · replace hw := hw.1 c13
            exact wk_T_isInOrder_47 C0 hr hlk ih _ _ _ _ _ hw hG (lv_sub hl [0, 1, 2] rfl)
          · replace hw := hw.2 c13
            refine lv_iconst (v := 0) hx hb dd_T_isInOrder_45 (by decide) ?_
            exact rs_z C0 hr hlk hw.1.nar hw.2 dd_T_isInOrder_46
def wp_T_isInOrder (g : Gm) (post : Int32 → Prop) (h : Hp) (a0 : Nat) (b1 : Nat) : Prop := hK h a0 = 4 ∧ (((hI h a0 8) = 0 → ∃ n : Nat, wp_T_isInOrder_11 g post n h a0 b1 0) ∧ (¬ (hI h a0 8) = 0 → zB 0 ∧ post 0))
set_option maxHeartbeats 4000000 in
set_option maxRecDepth 100000 in
theorem c_T_isInOrder (l : Launch) (g : Gm) (post : Int32 → Prop) (h : Hp) (a0 : Nat) (b1 : Nat) (hw : wp_T_isInOrder g post h a0 b1) : Met l (⟨"SegmentLocks$Task", "isInOrder", "([J)Z"⟩ : MethodName) (ww (⟨"SegmentLocks$Task", "isInOrder", "([J)Z"⟩ : MethodName) prog_4_method_6_code 3 (some .boolean)) (rmm 0 0 0 0) (va_Pc [.ref a0, .ref b1] (gS g h)) (vp_Si post) 0 0 (fun _ => False) := by
  first | refine en_met (by decide) ?_ | refine en_metF (by decide) ?_
  intro p e s m below meth c C0 hr hlk hin hG
  have hS : va_S (gA g) s.heap s.heap [] := va_S.rf
  have hl := lv_entry ([.ref a0, .ref b1]) (n := 3) (Nat.le_of_ble_eq_true rfl)
  rw [lg_entry_eq]
  generalize (lg_sl ([.ref a0, .ref b1]) ++ List.replicate (3 - (lg_sl ([.ref a0, .ref b1])).length) Slot.unset).toArray = ls at hl ⊢
  replace hl : lv_has ls 3 [(0, .ref a0), (1, .ref b1)] := hl
  obtain ⟨hx, hb, -, hown, hts, hgk⟩ := id C0
  unfold wp_T_isInOrder at hw
  refine lv_aload_n hx hb dd_T_isInOrder_0 rfl (lv_at hl 0 rfl) ?_
  obtain ⟨k1, hw⟩ := hw
  refine gf_T_32 C0 hG k1 dd_T_isInOrder_1 ?_
  refine lv_if_eq (tgt := 9) hx hb dd_T_isInOrder_4 (by decide) (fun c2 => ?_) (fun c2 => ?_)
  · replace hw := hw.1 c2
    refine lv_iconst (v := 0) hx hb dd_T_isInOrder_9 (by decide) ?_
    have hl0 := hl
    clear hl
    refine lv_istore_n (lv' := [(2, .int 0), (0, .ref a0), (1, .ref b1)]) hx hb dd_T_isInOrder_10 rfl hl0 (by decide) rfl (fun ls hl => ?_)
    obtain ⟨n, hw⟩ := hw
    exact wk_T_isInOrder_11 C0 hr hlk n _ _ _ _ _ hw hG (lv_sub hl [1, 2, 0] rfl)
  · replace hw := hw.2 c2
    refine lv_iconst (v := 0) hx hb dd_T_isInOrder_7 (by decide) ?_
    exact rs_z C0 hr hlk hw.1.nar hw.2 dd_T_isInOrder_8
/-! SegmentLocks$Task.remember(IJJ)V -/
theorem dd_T_remember_0 : decode prog_4_method_5_code 0 = .ok (.lload_n 2, 1) := by decide +kernel
theorem dd_T_remember_1 : decode prog_4_method_5_code 1 = .ok (.lload 4, 2) := by decide +kernel
theorem dd_T_remember_3 : decode prog_4_method_5_code 3 = .ok (.lcmp, 1) := by decide +kernel
theorem dd_T_remember_4 : decode prog_4_method_5_code 4 = .ok (.ifCond .ne 23, 3) := by decide +kernel
theorem dd_T_remember_7 : decode prog_4_method_5_code 7 = .ok (.aload_n 0, 1) := by decide +kernel
theorem dd_T_remember_8 : decode prog_4_method_5_code 8 = .ok (.getfield 26, 3) := by decide +kernel
theorem dd_T_remember_11 : decode prog_4_method_5_code 11 = .ok (.iload_n 1, 1) := by decide +kernel
theorem dd_T_remember_12 : decode prog_4_method_5_code 12 = .ok (.baload, 1) := by decide +kernel
theorem dd_T_remember_13 : decode prog_4_method_5_code 13 = .ok (.ifCond .eq 19, 3) := by decide +kernel
theorem dd_T_remember_16 : decode prog_4_method_5_code 16 = .ok (.aload_n 0, 1) := by decide +kernel
theorem dd_T_remember_17 : decode prog_4_method_5_code 17 = .ok (.getfield 29, 3) := by decide +kernel
theorem dd_T_remember_20 : decode prog_4_method_5_code 20 = .ok (.iload_n 1, 1) := by decide +kernel
theorem dd_T_remember_21 : decode prog_4_method_5_code 21 = .ok (.laload, 1) := by decide +kernel
theorem dd_T_remember_22 : decode prog_4_method_5_code 22 = .ok (.lload_n 2, 1) := by decide +kernel
theorem dd_T_remember_23 : decode prog_4_method_5_code 23 = .ok (.lcmp, 1) := by decide +kernel
theorem dd_T_remember_24 : decode prog_4_method_5_code 24 = .ok (.ifCond .eq 8, 3) := by decide +kernel
theorem dd_T_remember_27 : decode prog_4_method_5_code 27 = .ok (.aload_n 0, 1) := by decide +kernel
theorem dd_T_remember_28 : decode prog_4_method_5_code 28 = .ok (.iconst 1, 1) := by decide +kernel
theorem dd_T_remember_29 : decode prog_4_method_5_code 29 = .ok (.putfield 32, 3) := by decide +kernel
theorem dd_T_remember_32 : decode prog_4_method_5_code 32 = .ok (.aload_n 0, 1) := by decide +kernel
theorem dd_T_remember_33 : decode prog_4_method_5_code 33 = .ok (.getfield 26, 3) := by decide +kernel
theorem dd_T_remember_36 : decode prog_4_method_5_code 36 = .ok (.iload_n 1, 1) := by decide +kernel
theorem dd_T_remember_37 : decode prog_4_method_5_code 37 = .ok (.iconst 1, 1) := by decide +kernel
theorem dd_T_remember_38 : decode prog_4_method_5_code 38 = .ok (.bastore, 1) := by decide +kernel
theorem dd_T_remember_39 : decode prog_4_method_5_code 39 = .ok (.aload_n 0, 1) := by decide +kernel
theorem dd_T_remember_40 : decode prog_4_method_5_code 40 = .ok (.getfield 29, 3) := by decide +kernel
theorem dd_T_remember_43 : decode prog_4_method_5_code 43 = .ok (.iload_n 1, 1) := by decide +kernel
theorem dd_T_remember_44 : decode prog_4_method_5_code 44 = .ok (.lload_n 2, 1) := by decide +kernel
theorem dd_T_remember_45 : decode prog_4_method_5_code 45 = .ok (.lastore, 1) := by decide +kernel
theorem dd_T_remember_46 : decode prog_4_method_5_code 46 = .ok (.return_, 1) := by decide +kernel
def wp_T_remember_32 (g : Gm) (post : Hp → Prop) (h : Hp) (v0 : Nat) (v1 : Int32) (v2 : Int64) : Prop := hK h v0 = 4 ∧ ∃ a2 : Nat, hR h v0 6 = some a2 ∧ hK h a2 = 23 ∧ vp_in v1 (hN h a2) ∧ zB 1 ∧ ∀ h4 : Hp, h4 = sI h a2 v1.toNatClampNeg 1 → hK h4 v0 = 4 ∧ ∃ a6 : Nat, hR h4 v0 7 = some a6 ∧ hK h4 a6 = 22 ∧ vp_in v1 (hN h4 a6) ∧ ∀ h8 : Hp, h8 = sJ h4 a6 v1.toNatClampNeg v2 → post h8
set_option maxHeartbeats 4000000 in
set_option maxRecDepth 100000 in
theorem wk_T_remember_32 {p : Program} {l : Launch} {e : Env} {s : State} {m : MethodId} {args : Array Value} {below : List Frame} {meth : Method} {c : Code} {g : Gm} {post : Hp → Prop} (C0 : Cx g p s m args c prog_4_method_5_code 6 "SegmentLocks$Task") (hr : meth.sig.returnType = none) (hlk : meth.locks = false) : ∀ (h : Hp) (v0 : Nat) (v1 : Int32) (v2 : Int64) (H : Heap) (locs : List Loc) (ls : Array Slot), wp_T_remember_32 g post h v0 v1 v2 → GH g h H → va_S (gA g) s.heap H locs → lv_has ls 6 [(0, .ref v0), (1, .int v1), (2, .long v2)] → W p l e (rmm 0 0 0 0) s m args below meth c H locs 0 0 (MQ below (va_Qv post (gS g) (gA g)) args s 0 0 (gA g)) (F0 m 32 ls []) := by
  obtain ⟨hx, hb, -, hown, hts, hgk⟩ := id C0
  intro h v0 v1 v2 H locs ls hw hG hS hl
  unfold wp_T_remember_32 at hw
  refine lv_aload_n hx hb dd_T_remember_32 rfl (lv_at hl 0 rfl) ?_
  obtain ⟨k1, a2, ea2, hw⟩ := hw
  refine gf_T_26 C0 hG k1 ea2 dd_T_remember_33 ?_
  refine lv_iload_n hx hb dd_T_remember_36 rfl (lv_at hl 1 rfl) ?_
  refine lv_iconst (v := 1) hx hb dd_T_remember_37 (by decide) ?_
  obtain ⟨k3, k3i, hz, hw⟩ := hw
  refine px_zast C0 hG hS k3 k3i hz.nar dd_T_remember_38 (fun H locs hG hS => ?_)
  replace hw := hw _ rfl
  generalize sI h a2 v1.toNatClampNeg 1 = h4 at hw hG
  refine lv_aload_n hx hb dd_T_remember_39 rfl (lv_at hl 0 rfl) ?_
  obtain ⟨k5, a6, ea6, hw⟩ := hw
  refine gf_T_29 C0 hG k5 ea6 dd_T_remember_40 ?_
  refine lv_iload_n hx hb dd_T_remember_43 rfl (lv_at hl 1 rfl) ?_
  refine lv_lload_n hx hb dd_T_remember_44 rfl (lv_at hl 2 rfl) ?_
  obtain ⟨k7, k7i, hw⟩ := hw
  refine px_last C0 hG hS k7 k7i dd_T_remember_45 (fun H locs hG hS => ?_)
  replace hw := hw _ rfl
  generalize sJ h4 a6 v1.toNatClampNeg v2 = h8 at hw hG
  exact re_v C0 hG hS hr hlk ⟨Nat.le_refl _, Nat.le_refl _⟩ hw dd_T_remember_46
def wp_T_remember_27 (g : Gm) (post : Hp → Prop) (h : Hp) (v0 : Nat) (v1 : Int32) (v2 : Int64) : Prop := hK h v0 = 4 ∧ zB 1 ∧ ∀ h2 : Hp, h2 = sI h v0 8 1 → wp_T_remember_32 g post h2 v0 v1 v2
set_option maxHeartbeats 4000000 in
set_option maxRecDepth 100000 in
theorem wk_T_remember_27 {p : Program} {l : Launch} {e : Env} {s : State} {m : MethodId} {args : Array Value} {below : List Frame} {meth : Method} {c : Code} {g : Gm} {post : Hp → Prop} (C0 : Cx g p s m args c prog_4_method_5_code 6 "SegmentLocks$Task") (hr : meth.sig.returnType = none) (hlk : meth.locks = false) : ∀ (h : Hp) (v0 : Nat) (v1 : Int32) (v2 : Int64) (H : Heap) (locs : List Loc) (ls : Array Slot), wp_T_remember_27 g post h v0 v1 v2 → GH g h H → va_S (gA g) s.heap H locs → lv_has ls 6 [(0, .ref v0), (1, .int v1), (2, .long v2)] → W p l e (rmm 0 0 0 0) s m args below meth c H locs 0 0 (MQ below (va_Qv post (gS g) (gA g)) args s 0 0 (gA g)) (F0 m 27 ls []) := by
  obtain ⟨hx, hb, -, hown, hts, hgk⟩ := id C0
  intro h v0 v1 v2 H locs ls hw hG hS hl
  unfold wp_T_remember_27 at hw
  refine lv_aload_n hx hb dd_T_remember_27 rfl (lv_at hl 0 rfl) ?_
  refine lv_iconst (v := 1) hx hb dd_T_remember_28 (by decide) ?_
  obtain ⟨k1, hz, hw⟩ := hw
  refine pf_T_32 C0 hG hS k1 hz dd_T_remember_29 (fun H locs hG hS => ?_)
  replace hw := hw _ rfl
  generalize sI h v0 8 1 = h2 at hw hG
  exact wk_T_remember_32 C0 hr hlk _ _ _ _ _ _ _ hw hG hS (lv_sub hl [0, 1, 2] rfl)
def wp_T_remember (g : Gm) (post : Hp → Prop) (h : Hp) (a0 : Nat) (i1 : Int32) (l2 : Int64) (l4 : Int64) : Prop := ((¬ (lg_cmp l2 l4) = 0 → wp_T_remember_27 g post h a0 i1 l2) ∧ ((lg_cmp l2 l4) = 0 → hK h a0 = 4 ∧ ∃ a3 : Nat, hR h a0 6 = some a3 ∧ hK h a3 = 23 ∧ vp_in i1 (hN h a3) ∧ (((hI h a3 i1.toNatClampNeg) = 0 → wp_T_remember_32 g post h a0 i1 l2) ∧ (¬ (hI h a3 i1.toNatClampNeg) = 0 → hK h a0 = 4 ∧ ∃ a7 : Nat, hR h a0 7 = some a7 ∧ hK h a7 = 22 ∧ vp_in i1 (hN h a7) ∧ (((lg_cmp (hJ h a7 i1.toNatClampNeg) l2) = 0 → wp_T_remember_32 g post h a0 i1 l2) ∧ (¬ (lg_cmp (hJ h a7 i1.toNatClampNeg) l2) = 0 → wp_T_remember_27 g post h a0 i1 l2))))))
set_option maxHeartbeats 4000000 in
set_option maxRecDepth 100000 in
theorem c_T_remember (l : Launch) (g : Gm) (post : Hp → Prop) (h : Hp) (a0 : Nat) (i1 : Int32) (l2 : Int64) (l4 : Int64) (hw : wp_T_remember g post h a0 i1 l2 l4) : Met l (⟨"SegmentLocks$Task", "remember", "(IJJ)V"⟩ : MethodName) (ww (⟨"SegmentLocks$Task", "remember", "(IJJ)V"⟩ : MethodName) prog_4_method_5_code 6 none) (rmm 0 0 0 0) (va_Pc [.ref a0, .int i1, .long l2, .long l4] (gS g h)) (va_Qv post (gS g) (gA g)) 0 0 (gA g) := by
  first | refine en_met (by decide) ?_ | refine en_metF (by decide) ?_
  intro p e s m below meth c C0 hr hlk hin hG
  have hS : va_S (gA g) s.heap s.heap [] := va_S.rf
  have hl := lv_entry ([.ref a0, .int i1, .long l2, .long l4]) (n := 6) (Nat.le_of_ble_eq_true rfl)
  rw [lg_entry_eq]
  generalize (lg_sl ([.ref a0, .int i1, .long l2, .long l4]) ++ List.replicate (6 - (lg_sl ([.ref a0, .int i1, .long l2, .long l4])).length) Slot.unset).toArray = ls at hl ⊢
  replace hl : lv_has ls 6 [(0, .ref a0), (1, .int i1), (2, .long l2), (4, .long l4)] := hl
  obtain ⟨hx, hb, -, hown, hts, hgk⟩ := id C0
  unfold wp_T_remember at hw
  refine lv_lload_n hx hb dd_T_remember_0 rfl (lv_at hl 2 rfl) ?_
  refine lv_lload hx hb dd_T_remember_1 (lv_at hl 3 rfl) ?_
  refine W.lcmp hx hb dd_T_remember_3 ?_
  refine lv_if_ne (tgt := 27) hx hb dd_T_remember_4 (by decide) (fun c1 => ?_) (fun c1 => ?_)
  · replace hw := hw.1 c1
    exact wk_T_remember_27 C0 hr hlk _ _ _ _ _ _ _ hw hG hS (lv_sub hl [0, 1, 2] rfl)
  · replace hw := hw.2 c1
    refine lv_aload_n hx hb dd_T_remember_7 rfl (lv_at hl 0 rfl) ?_
    obtain ⟨k2, a3, ea3, hw⟩ := hw
    refine gf_T_26 C0 hG k2 ea3 dd_T_remember_8 ?_
    refine lv_iload_n hx hb dd_T_remember_11 rfl (lv_at hl 1 rfl) ?_
    obtain ⟨k4, k4i, hw⟩ := hw
    refine px_zald C0 hG k4 k4i dd_T_remember_12 ?_
    refine lv_if_eq (tgt := 32) hx hb dd_T_remember_13 (by decide) (fun c5 => ?_) (fun c5 => ?_)
    · replace hw := hw.1 c5
      exact wk_T_remember_32 C0 hr hlk _ _ _ _ _ _ _ hw hG hS (lv_sub hl [0, 1, 2] rfl)
    · replace hw := hw.2 c5
      refine lv_aload_n hx hb dd_T_remember_16 rfl (lv_at hl 0 rfl) ?_
      obtain ⟨k6, a7, ea7, hw⟩ := hw
      refine gf_T_29 C0 hG k6 ea7 dd_T_remember_17 ?_
      refine lv_iload_n hx hb dd_T_remember_20 rfl (lv_at hl 1 rfl) ?_
      obtain ⟨k8, k8i, hw⟩ := hw
      refine px_lald C0 hG k8 k8i dd_T_remember_21 ?_
      refine lv_lload_n hx hb dd_T_remember_22 rfl (lv_at hl 2 rfl) ?_
      refine W.lcmp hx hb dd_T_remember_23 ?_
      refine lv_if_eq (tgt := 32) hx hb dd_T_remember_24 (by decide) (fun c9 => ?_) (fun c9 => ?_)
      · replace hw := hw.1 c9
        exact wk_T_remember_32 C0 hr hlk _ _ _ _ _ _ _ hw hG hS (lv_sub hl [0, 1, 2] rfl)
      · replace hw := hw.2 c9
        exact wk_T_remember_27 C0 hr hlk _ _ _ _ _ _ _ hw hG hS (lv_sub hl [0, 1, 2] rfl)
