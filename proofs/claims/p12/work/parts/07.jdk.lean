/-! java/util/AbstractCollection.<init>()V -/
theorem dd_C_init_0 : decode prog_18_method_1_code 0 = .ok (.aload_n 0, 1) := by decide +kernel
theorem dd_C_init_1 : decode prog_18_method_1_code 1 = .ok (.invokespecial 1, 3) := by decide +kernel
theorem dd_C_init_4 : decode prog_18_method_1_code 4 = .ok (.return_, 1) := by decide +kernel
def wp_C_init (g : Gm) (post : Hp → Prop) (h : Hp) (a0 : Nat) : Prop := post h
set_option maxHeartbeats 4000000 in
set_option maxRecDepth 100000 in
theorem c_C_init (l : Launch) (g : Gm) (post : Hp → Prop) (h : Hp) (a0 : Nat) (hw : wp_C_init g post h a0) : Met l (⟨"java/util/AbstractCollection", "<init>", "()V"⟩ : MethodName) (ww (⟨"java/util/AbstractCollection", "<init>", "()V"⟩ : MethodName) prog_18_method_1_code 1 none) (rmm 1 24 0 0) (va_Pc [.ref a0] (gS g h)) (va_Qv post (gS g) (gA g)) 0 0 (gA g) := by
  first | refine en_met (by decide) ?_ | refine en_metF (by decide) ?_
  intro p e s m below meth c C0 hr hlk hin hG
  have hS : va_S (gA g) s.heap s.heap [] := va_S.rf
  have hl := lv_entry ([.ref a0]) (n := 1) (Nat.le_of_ble_eq_true rfl)
  rw [lg_entry_eq]
  generalize (lg_sl ([.ref a0]) ++ List.replicate (1 - (lg_sl ([.ref a0])).length) Slot.unset).toArray = ls at hl ⊢
  replace hl : lv_has ls 1 [(0, .ref a0)] := hl
  obtain ⟨hx, hb, -, hown, hts, hgk⟩ := id C0
  unfold wp_C_init at hw
  refine lv_aload_n hx hb dd_C_init_0 rfl (lv_at hl 0 rfl) ?_
  refine W.objInit hx hb hown (hts _ km_0) (hts _ km_1) (hts _ km_2) rfl (by rw [C0.2.2.1]; exact hl.1) rfl dd_C_init_1 (Nat.le_of_ble_eq_true rfl) (Nat.le_of_ble_eq_true rfl) ?_
  refine W.eq (g2 := F0 m 4 ls []) rfl ?_
  exact re_v C0 hG hS hr hlk ⟨Nat.le_refl _, Nat.le_refl _⟩ hw dd_C_init_4
/-! java/util/AbstractList.<init>()V -/
theorem dd_B_init_0 : decode prog_19_method_1_code 0 = .ok (.aload_n 0, 1) := by decide +kernel
theorem dd_B_init_1 : decode prog_19_method_1_code 1 = .ok (.invokespecial 1, 3) := by decide +kernel
theorem dd_B_init_4 : decode prog_19_method_1_code 4 = .ok (.aload_n 0, 1) := by decide +kernel
theorem dd_B_init_5 : decode prog_19_method_1_code 5 = .ok (.iconst 0, 1) := by decide +kernel
theorem dd_B_init_6 : decode prog_19_method_1_code 6 = .ok (.putfield 7, 3) := by decide +kernel
theorem dd_B_init_9 : decode prog_19_method_1_code 9 = .ok (.return_, 1) := by decide +kernel
def wp_B_init (g : Gm) (post : Hp → Prop) (h : Hp) (a0 : Nat) : Prop := wp_C_init g (fun h2 => hK h2 a0 = 6 ∧ ∀ h4 : Hp, h4 = sI h2 a0 2 0 → post h4) h a0
set_option maxHeartbeats 4000000 in
set_option maxRecDepth 100000 in
theorem c_B_init (l : Launch) (g : Gm) (post : Hp → Prop) (h : Hp) (a0 : Nat) (hw : wp_B_init g post h a0) : Met l (⟨"java/util/AbstractList", "<init>", "()V"⟩ : MethodName) (ww (⟨"java/util/AbstractList", "<init>", "()V"⟩ : MethodName) prog_19_method_1_code 1 none) (rmm 2 44 0 0) (va_Pc [.ref a0] (gS g h)) (va_Qv post (gS g) (gA g)) 0 0 (gA g) := by
  first | refine en_met (by decide) ?_ | refine en_metF (by decide) ?_
  intro p e s m below meth c C0 hr hlk hin hG
  have hS : va_S (gA g) s.heap s.heap [] := va_S.rf
  have hl := lv_entry ([.ref a0]) (n := 1) (Nat.le_of_ble_eq_true rfl)
  rw [lg_entry_eq]
  generalize (lg_sl ([.ref a0]) ++ List.replicate (1 - (lg_sl ([.ref a0])).length) Slot.unset).toArray = ls at hl ⊢
  replace hl : lv_has ls 1 [(0, .ref a0)] := hl
  obtain ⟨hx, hb, -, hown, hts, hgk⟩ := id C0
  unfold wp_B_init at hw
  refine lv_aload_n hx hb dd_B_init_0 rfl (lv_at hl 0 rfl) ?_
  refine ca_v hS (rn_I C0 hG hS (c_C_init l g _ h a0 hw) (host := "") (nest := false) (n := 0) (As := []) (rest := []) km_5 km_4 km_7 km_6 rfl ⟨by decide, by decide, by decide +kernel⟩ ⟨Nat.le_of_ble_eq_true rfl, Nat.le_of_ble_eq_true rfl⟩ rfl hl.1 rfl (Nat.le_of_ble_eq_true rfl) dd_B_init_1 ⟨Nat.le_refl _, Nat.le_refl _⟩) (fun h2 H locs hw hG hS => ?_)
  refine lv_aload_n hx hb dd_B_init_4 rfl (lv_at hl 0 rfl) ?_
  refine lv_iconst (v := 0) hx hb dd_B_init_5 (by decide) ?_
  obtain ⟨k3, hw⟩ := hw
  refine pf_B_7 C0 hG hS k3 dd_B_init_6 (fun H locs hG hS => ?_)
  replace hw := hw _ rfl
  generalize sI h2 a0 2 0 = h4 at hw hG
  exact re_v C0 hG hS hr hlk ⟨Nat.le_refl _, Nat.le_refl _⟩ hw dd_B_init_9
/-! java/util/ArrayList.<init>()V -/
theorem dd_A_init_0 : decode prog_20_method_2_code 0 = .ok (.aload_n 0, 1) := by decide +kernel
theorem dd_A_init_1 : decode prog_20_method_2_code 1 = .ok (.invokespecial 1, 3) := by decide +kernel
theorem dd_A_init_4 : decode prog_20_method_2_code 4 = .ok (.aload_n 0, 1) := by decide +kernel
theorem dd_A_init_5 : decode prog_20_method_2_code 5 = .ok (.getstatic 39, 3) := by decide +kernel
theorem dd_A_init_8 : decode prog_20_method_2_code 8 = .ok (.putfield 9, 3) := by decide +kernel
theorem dd_A_init_11 : decode prog_20_method_2_code 11 = .ok (.return_, 1) := by decide +kernel
def wp_A_init (g : Gm) (post : Hp → Prop) (h : Hp) (a0 : Nat) : Prop := wp_B_init g (fun h2 => hK h2 a0 = 6 ∧ ∀ h4 : Hp, h4 = sR h2 a0 0 (some (g.2.2 1)) → post h4) h a0
set_option maxHeartbeats 4000000 in
set_option maxRecDepth 100000 in
theorem c_A_init (l : Launch) (g : Gm) (post : Hp → Prop) (h : Hp) (a0 : Nat) (hw : wp_A_init g post h a0) : Met l (⟨"java/util/ArrayList", "<init>", "()V"⟩ : MethodName) (ww (⟨"java/util/ArrayList", "<init>", "()V"⟩ : MethodName) prog_20_method_2_code 1 none) (rmm 3 64 0 0) (va_Pc [.ref a0] (gS g h)) (va_Qv post (gS g) (gA g)) 0 0 (gA g) := by
  first | refine en_met (by decide) ?_ | refine en_metF (by decide) ?_
  intro p e s m below meth c C0 hr hlk hin hG
  have hS : va_S (gA g) s.heap s.heap [] := va_S.rf
  have hl := lv_entry ([.ref a0]) (n := 1) (Nat.le_of_ble_eq_true rfl)
  rw [lg_entry_eq]
  generalize (lg_sl ([.ref a0]) ++ List.replicate (1 - (lg_sl ([.ref a0])).length) Slot.unset).toArray = ls at hl ⊢
  replace hl : lv_has ls 1 [(0, .ref a0)] := hl
  obtain ⟨hx, hb, -, hown, hts, hgk⟩ := id C0
  unfold wp_A_init at hw
  refine lv_aload_n hx hb dd_A_init_0 rfl (lv_at hl 0 rfl) ?_
  refine ca_v hS (rn_I C0 hG hS (c_B_init l g _ h a0 hw) (host := "") (nest := false) (n := 0) (As := []) (rest := []) km_11 km_10 km_13 km_12 rfl ⟨by decide, by decide, by decide +kernel⟩ ⟨Nat.le_of_ble_eq_true rfl, Nat.le_of_ble_eq_true rfl⟩ rfl hl.1 rfl (Nat.le_of_ble_eq_true rfl) dd_A_init_1 ⟨Nat.le_refl _, Nat.le_refl _⟩) (fun h2 H locs hw hG hS => ?_)
  refine lv_aload_n hx hb dd_A_init_4 rfl (lv_at hl 0 rfl) ?_
  refine va_gets hx hb hgk.2.2.2.2.1.1 hS hown (hts _ km_8) (fun _ z => z) dd_A_init_5 ?_
  obtain ⟨k3, hw⟩ := hw
  refine pf_A_9 C0 hG hS k3 dd_A_init_8 (fun H locs hG hS => ?_)
  replace hw := hw _ rfl
  generalize sR h2 a0 0 (some (g.2.2 1)) = h4 at hw hG
  exact re_v C0 hG hS hr hlk ⟨Nat.le_refl _, Nat.le_refl _⟩ hw dd_A_init_11
/-! java/util/ArrayList.size()I -/
theorem dd_A_size_0 : decode prog_20_method_8_code 0 = .ok (.aload_n 0, 1) := by decide +kernel
theorem dd_A_size_1 : decode prog_20_method_8_code 1 = .ok (.getfield 48, 3) := by decide +kernel
theorem dd_A_size_4 : decode prog_20_method_8_code 4 = .ok (.ireturn, 1) := by decide +kernel
def wp_A_size (g : Gm) (post : Int32 → Prop) (h : Hp) (a0 : Nat) : Prop := hK h a0 = 6 ∧ post (hI h a0 1)
set_option maxHeartbeats 4000000 in
set_option maxRecDepth 100000 in
theorem c_A_size (l : Launch) (g : Gm) (post : Int32 → Prop) (h : Hp) (a0 : Nat) (hw : wp_A_size g post h a0) : Met l (⟨"java/util/ArrayList", "size", "()I"⟩ : MethodName) (ww (⟨"java/util/ArrayList", "size", "()I"⟩ : MethodName) prog_20_method_8_code 1 (some .int)) (rmm 0 0 0 0) (va_Pc [.ref a0] (gS g h)) (vp_Si post) 0 0 (fun _ => False) := by
  first | refine en_met (by decide) ?_ | refine en_metF (by decide) ?_
  intro p e s m below meth c C0 hr hlk hin hG
  have hS : va_S (gA g) s.heap s.heap [] := va_S.rf
  have hl := lv_entry ([.ref a0]) (n := 1) (Nat.le_of_ble_eq_true rfl)
  rw [lg_entry_eq]
  generalize (lg_sl ([.ref a0]) ++ List.replicate (1 - (lg_sl ([.ref a0])).length) Slot.unset).toArray = ls at hl ⊢
  replace hl : lv_has ls 1 [(0, .ref a0)] := hl
  obtain ⟨hx, hb, -, hown, hts, hgk⟩ := id C0
  unfold wp_A_size at hw
  refine lv_aload_n hx hb dd_A_size_0 rfl (lv_at hl 0 rfl) ?_
  obtain ⟨k1, hw⟩ := hw
  refine gf_A_48 C0 hG k1 dd_A_size_1 ?_
  exact rs_i C0 hr hlk hw dd_A_size_4
/-! java/util/Arrays.fill([II)V -/
theorem dd_Y_fill_0 : decode prog_21_method_103_code 0 = .ok (.iconst 0, 1) := by decide +kernel
theorem dd_Y_fill_1 : decode prog_21_method_103_code 1 = .ok (.istore_n 2, 1) := by decide +kernel
theorem dd_Y_fill_2 : decode prog_21_method_103_code 2 = .ok (.aload_n 0, 1) := by decide +kernel
theorem dd_Y_fill_3 : decode prog_21_method_103_code 3 = .ok (.arraylength, 1) := by decide +kernel
theorem dd_Y_fill_4 : decode prog_21_method_103_code 4 = .ok (.istore_n 3, 1) := by decide +kernel
theorem dd_Y_fill_5 : decode prog_21_method_103_code 5 = .ok (.iload_n 2, 1) := by decide +kernel
theorem dd_Y_fill_6 : decode prog_21_method_103_code 6 = .ok (.iload_n 3, 1) := by decide +kernel
theorem dd_Y_fill_7 : decode prog_21_method_103_code 7 = .ok (.if_icmp .ge 13, 3) := by decide +kernel
theorem dd_Y_fill_10 : decode prog_21_method_103_code 10 = .ok (.aload_n 0, 1) := by decide +kernel
theorem dd_Y_fill_11 : decode prog_21_method_103_code 11 = .ok (.iload_n 2, 1) := by decide +kernel
theorem dd_Y_fill_12 : decode prog_21_method_103_code 12 = .ok (.iload_n 1, 1) := by decide +kernel
theorem dd_Y_fill_13 : decode prog_21_method_103_code 13 = .ok (.iastore, 1) := by decide +kernel
theorem dd_Y_fill_14 : decode prog_21_method_103_code 14 = .ok (.iinc 2 1, 3) := by decide +kernel
theorem dd_Y_fill_17 : decode prog_21_method_103_code 17 = .ok (.goto (-12), 3) := by decide +kernel
theorem dd_Y_fill_20 : decode prog_21_method_103_code 20 = .ok (.return_, 1) := by decide +kernel
def wp_Y_fill_5 (g : Gm) (post : Hp → Prop) : Nat → Hp → Nat → Int32 → Int32 → Int32 → Prop
  | 0, _, _, _, _, _ => False
  | fu + 1, h, v0, v1, v2, v3 => ((v3 ≤ v2 → post h) ∧ (¬ v3 ≤ v2 → hK h v0 = 21 ∧ vp_in v2 (hN h v0) ∧ ∀ h3 : Hp, h3 = sI h v0 v2.toNatClampNeg v1 → ∀ x4 : Int32, x4 = v2 + 1 → wp_Y_fill_5 g post fu h3 v0 v1 x4 v3))
set_option maxHeartbeats 4000000 in
set_option maxRecDepth 100000 in
theorem wk_Y_fill_5 {p : Program} {l : Launch} {e : Env} {s : State} {m : MethodId} {args : Array Value} {below : List Frame} {meth : Method} {c : Code} {g : Gm} {post : Hp → Prop} (C0 : Cx g p s m args c prog_21_method_103_code 4 "java/util/Arrays") (hr : meth.sig.returnType = none) (hlk : meth.locks = false) : ∀ n : Nat, ∀ (h : Hp) (v0 : Nat) (v1 : Int32) (v2 : Int32) (v3 : Int32) (H : Heap) (locs : List Loc) (ls : Array Slot), wp_Y_fill_5 g post n h v0 v1 v2 v3 → GH g h H → va_S (gA g) s.heap H locs → lv_has ls 4 [(0, .ref v0), (1, .int v1), (2, .int v2), (3, .int v3)] → W p l e (rmm 0 0 0 0) s m args below meth c H locs 0 0 (MQ below (va_Qv post (gS g) (gA g)) args s 0 0 (gA g)) (F0 m 5 ls []) := by
  obtain ⟨hx, hb, -, hown, hts, hgk⟩ := id C0
  intro n
  induction n with
  | zero =>
    intro h v0 v1 v2 v3 H locs ls hw hG hS hl
    exact hw.elim
  | succ n ih =>
    intro h v0 v1 v2 v3 H locs ls hw hG hS hl
    unfold wp_Y_fill_5 at hw
    refine lv_iload_n hx hb dd_Y_fill_5 rfl (lv_at hl 2 rfl) ?_
    refine lv_iload_n hx hb dd_Y_fill_6 rfl (lv_at hl 3 rfl) ?_
    refine lv_icmp_ge (tgt := 20) hx hb dd_Y_fill_7 (by decide) (fun c1 => ?_) (fun c1 => ?_)
    · replace hw := hw.1 c1
      exact re_v C0 hG hS hr hlk ⟨Nat.le_refl _, Nat.le_refl _⟩ hw dd_Y_fill_20
    · replace hw := hw.2 c1
      refine lv_aload_n hx hb dd_Y_fill_10 rfl (lv_at hl 0 rfl) ?_
      refine lv_iload_n hx hb dd_Y_fill_11 rfl (lv_at hl 2 rfl) ?_
      refine lv_iload_n hx hb dd_Y_fill_12 rfl (lv_at hl 1 rfl) ?_
      obtain ⟨k2, k2i, hw⟩ := hw
      refine px_iast C0 hG hS k2 k2i dd_Y_fill_13 (fun H locs hG hS => ?_)
      replace hw := hw _ rfl
      generalize sI h v0 v2.toNatClampNeg v1 = h3 at hw hG
      obtain ⟨x4, ex4⟩ : ∃ y : Int32, y = v2 + 1 := ⟨_, rfl⟩
      replace hw := hw x4 ex4
      have hl0 := hl
      clear hl
      refine lv_iinc (v := x4) (lv' := [(2, .int x4), (0, .ref v0), (1, .int v1), (3, .int v3)]) hx hb dd_Y_fill_14 hl0 (k := 2) rfl (by rw [ex4]; rfl) (by decide) rfl (fun ls hl => ?_)
      refine lv_goto (tgt := 5) hx hb dd_Y_fill_17 (by decide) ?_
      exact ih _ _ _ _ _ _ _ _ hw hG hS (lv_sub hl [1, 2, 0, 3] rfl)
def wp_Y_fill (g : Gm) (post : Hp → Prop) (h : Hp) (b0 : Nat) (i1 : Int32) : Prop := ∃ x2 : Int32, gLen g h b0 x2 ∧ ∃ n : Nat, wp_Y_fill_5 g post n h b0 i1 0 x2
set_option maxHeartbeats 4000000 in
set_option maxRecDepth 100000 in
theorem c_Y_fill (l : Launch) (g : Gm) (post : Hp → Prop) (h : Hp) (b0 : Nat) (i1 : Int32) (hw : wp_Y_fill g post h b0 i1) : Met l (⟨"java/util/Arrays", "fill", "([II)V"⟩ : MethodName) (ww (⟨"java/util/Arrays", "fill", "([II)V"⟩ : MethodName) prog_21_method_103_code 4 none) (rmm 0 0 0 0) (va_Pc [.ref b0, .int i1] (gS g h)) (va_Qv post (gS g) (gA g)) 0 0 (gA g) := by
  first | refine en_met (by decide) ?_ | refine en_metF (by decide) ?_
  intro p e s m below meth c C0 hr hlk hin hG
  have hS : va_S (gA g) s.heap s.heap [] := va_S.rf
  have hl := lv_entry ([.ref b0, .int i1]) (n := 4) (Nat.le_of_ble_eq_true rfl)
  rw [lg_entry_eq]
  generalize (lg_sl ([.ref b0, .int i1]) ++ List.replicate (4 - (lg_sl ([.ref b0, .int i1])).length) Slot.unset).toArray = ls at hl ⊢
  replace hl : lv_has ls 4 [(0, .ref b0), (1, .int i1)] := hl
  obtain ⟨hx, hb, -, hown, hts, hgk⟩ := id C0
  unfold wp_Y_fill at hw
  refine lv_iconst (v := 0) hx hb dd_Y_fill_0 (by decide) ?_
  have hl0 := hl
  clear hl
  refine lv_istore_n (lv' := [(2, .int 0), (0, .ref b0), (1, .int i1)]) hx hb dd_Y_fill_1 rfl hl0 (by decide) rfl (fun ls hl => ?_)
  refine lv_aload_n hx hb dd_Y_fill_2 rfl (lv_at hl 1 rfl) ?_
  obtain ⟨x2, k1, hw⟩ := hw
  refine px_len C0 hG hS k1 dd_Y_fill_3 ?_
  have hl0 := hl
  clear hl
  refine lv_istore_n (lv' := [(3, .int x2), (2, .int 0), (0, .ref b0), (1, .int i1)]) hx hb dd_Y_fill_4 rfl hl0 (by decide) rfl (fun ls hl => ?_)
  obtain ⟨n, hw⟩ := hw
  exact wk_Y_fill_5 C0 hr hlk n _ _ _ _ _ _ _ _ hw hG hS (lv_sub hl [2, 3, 1, 0] rfl)
/-! jdk/internal/util/ArraysSupport.newLength(III)I -/
theorem dd_U_newLength_0 : decode prog_27_method_27_code 0 = .ok (.iload_n 0, 1) := by decide +kernel
theorem dd_U_newLength_1 : decode prog_27_method_27_code 1 = .ok (.iload_n 1, 1) := by decide +kernel
theorem dd_U_newLength_2 : decode prog_27_method_27_code 2 = .ok (.iload_n 2, 1) := by decide +kernel
theorem dd_U_newLength_3 : decode prog_27_method_27_code 3 = .ok (.invokestatic 194, 3) := by decide +kernel
theorem dd_U_newLength_6 : decode prog_27_method_27_code 6 = .ok (.iadd, 1) := by decide +kernel
theorem dd_U_newLength_7 : decode prog_27_method_27_code 7 = .ok (.istore_n 3, 1) := by decide +kernel
theorem dd_U_newLength_8 : decode prog_27_method_27_code 8 = .ok (.iconst 0, 1) := by decide +kernel
theorem dd_U_newLength_9 : decode prog_27_method_27_code 9 = .ok (.iload_n 3, 1) := by decide +kernel
theorem dd_U_newLength_10 : decode prog_27_method_27_code 10 = .ok (.if_icmp .ge 11, 3) := by decide +kernel
theorem dd_U_newLength_13 : decode prog_27_method_27_code 13 = .ok (.iload_n 3, 1) := by decide +kernel
theorem dd_U_newLength_14 : decode prog_27_method_27_code 14 = .ok (.ldc 200, 2) := by decide +kernel
theorem dd_U_newLength_16 : decode prog_27_method_27_code 16 = .ok (.if_icmp .gt 5, 3) := by decide +kernel
theorem dd_U_newLength_19 : decode prog_27_method_27_code 19 = .ok (.iload_n 3, 1) := by decide +kernel
theorem dd_U_newLength_20 : decode prog_27_method_27_code 20 = .ok (.ireturn, 1) := by decide +kernel
theorem dd_U_newLength_21 : decode prog_27_method_27_code 21 = .ok (.iload_n 0, 1) := by decide +kernel
theorem dd_U_newLength_22 : decode prog_27_method_27_code 22 = .ok (.iload_n 1, 1) := by decide +kernel
def wp_U_newLength_21 (g : Gm) (post : Int32 → Prop) (h : Hp) (v0 : Int32) (v1 : Int32) : Prop := False
set_option maxHeartbeats 4000000 in
set_option maxRecDepth 100000 in
theorem wk_U_newLength_21 {p : Program} {l : Launch} {e : Env} {s : State} {m : MethodId} {args : Array Value} {below : List Frame} {meth : Method} {c : Code} {g : Gm} {post : Int32 → Prop} (C0 : Cx g p s m args c prog_27_method_27_code 4 "jdk/internal/util/ArraysSupport") (hr : meth.sig.returnType = (some .int)) (hlk : meth.locks = false) : ∀ (h : Hp) (v0 : Int32) (v1 : Int32) (ls : Array Slot), wp_U_newLength_21 g post h v0 v1 → GH g h s.heap → lv_has ls 4 [(0, .int v0), (1, .int v1)] → W p l e (rmm 1 24 0 0) s m args below meth c s.heap [] 0 0 (MQ below (vp_Si post) args s 0 0 (fun _ => False)) (F0 m 21 ls []) := by
  obtain ⟨hx, hb, -, hown, hts, hgk⟩ := id C0
  have hS : va_S (gA g) s.heap s.heap [] := va_S.rf
  intro h v0 v1 ls hw hG hl
  unfold wp_U_newLength_21 at hw
  refine lv_iload_n hx hb dd_U_newLength_21 rfl (lv_at hl 0 rfl) ?_
  refine lv_iload_n hx hb dd_U_newLength_22 rfl (lv_at hl 1 rfl) ?_
  exact hw.elim
def wp_U_newLength (g : Gm) (post : Int32 → Prop) (h : Hp) (i0 : Int32) (i1 : Int32) (i2 : Int32) : Prop := ∀ x1 : Int32, x1 = (if i1 < i2 then i2 else i1) → ∀ x2 : Int32, x2 = i0 + x1 → ((x2 ≤ 0 → wp_U_newLength_21 g post h i0 i1) ∧ (¬ x2 ≤ 0 → ((2147483639 < x2 → wp_U_newLength_21 g post h i0 i1) ∧ (¬ 2147483639 < x2 → post x2))))
set_option maxHeartbeats 4000000 in
set_option maxRecDepth 100000 in
theorem c_U_newLength (l : Launch) (g : Gm) (post : Int32 → Prop) (h : Hp) (i0 : Int32) (i1 : Int32) (i2 : Int32) (hw : wp_U_newLength g post h i0 i1 i2) : Met l (⟨"jdk/internal/util/ArraysSupport", "newLength", "(III)I"⟩ : MethodName) (ww (⟨"jdk/internal/util/ArraysSupport", "newLength", "(III)I"⟩ : MethodName) prog_27_method_27_code 4 (some .int)) (rmm 1 24 0 0) (va_Pc [.int i0, .int i1, .int i2] (gS g h)) (vp_Si post) 0 0 (fun _ => False) := by
  first | refine en_met (by decide) ?_ | refine en_metF (by decide) ?_
  intro p e s m below meth c C0 hr hlk hin hG
  have hS : va_S (gA g) s.heap s.heap [] := va_S.rf
  have hl := lv_entry ([.int i0, .int i1, .int i2]) (n := 4) (Nat.le_of_ble_eq_true rfl)
  rw [lg_entry_eq]
  generalize (lg_sl ([.int i0, .int i1, .int i2]) ++ List.replicate (4 - (lg_sl ([.int i0, .int i1, .int i2])).length) Slot.unset).toArray = ls at hl ⊢
  replace hl : lv_has ls 4 [(0, .int i0), (1, .int i1), (2, .int i2)] := hl
  obtain ⟨hx, hb, -, hown, hts, hgk⟩ := id C0
  unfold wp_U_newLength at hw
  refine lv_iload_n hx hb dd_U_newLength_0 rfl (lv_at hl 0 rfl) ?_
  refine lv_iload_n hx hb dd_U_newLength_1 rfl (lv_at hl 1 rfl) ?_
  refine lv_iload_n hx hb dd_U_newLength_2 rfl (lv_at hl 2 rfl) ?_
  refine va_mmax hx hb (C0.2.2.1.trans hl.1.symm) hown (hts _ km_75) (hts _ km_76) (hts _ km_77) (hts _ km_78) (Nat.le_of_ble_eq_true rfl) (Nat.le_of_ble_eq_true rfl) (Nat.le_refl _) (Nat.le_refl _) dd_U_newLength_3 ?_
  refine lv_topi (fun x1 ex1 => ?_)
  replace hw := hw x1 ex1
  refine lv_iadd hx hb dd_U_newLength_6 ?_
  refine lv_topi (fun x2 ex2 => ?_)
  replace hw := hw x2 ex2
  have hl0 := hl
  clear hl
  refine lv_istore_n (lv' := [(3, .int x2), (0, .int i0), (1, .int i1), (2, .int i2)]) hx hb dd_U_newLength_7 rfl hl0 (by decide) rfl (fun ls hl => ?_)
  refine lv_iconst (v := 0) hx hb dd_U_newLength_8 (by decide) ?_
  refine lv_iload_n hx hb dd_U_newLength_9 rfl (lv_at hl 0 rfl) ?_
  refine lv_icmp_ge (tgt := 21) hx hb dd_U_newLength_10 (by decide) (fun c3 => ?_) (fun c3 => ?_)
  · replace hw := hw.1 c3
    exact wk_U_newLength_21 C0 hr hlk _ _ _ _ hw hG (lv_sub hl [1, 2] rfl)
  · replace hw := hw.2 c3
    refine lv_iload_n hx hb dd_U_newLength_13 rfl (lv_at hl 0 rfl) ?_
    refine lv_ldc hx hb hown (hts _ km_79) dd_U_newLength_14 ?_
    refine lv_icmp_gt (tgt := 21) hx hb dd_U_newLength_16 (by decide) (fun c4 => ?_) (fun c4 => ?_)
    · replace hw := hw.1 c4
      exact wk_U_newLength_21 C0 hr hlk _ _ _ _ hw hG (lv_sub hl [1, 2] rfl)
    · replace hw := hw.2 c4
      refine lv_iload_n hx hb dd_U_newLength_19 rfl (lv_at hl 0 rfl) ?_
      exact rs_i C0 hr hlk hw dd_U_newLength_20
/-! java/util/Arrays.copyOf([Ljava/lang/Object;ILjava/lang/Class;)[Ljava/lang/Object; -/
theorem dd_Y_copyOf_0 : decode prog_21_method_120_code 0 = .ok (.aload_n 2, 1) := by decide +kernel
theorem dd_Y_copyOf_1 : decode prog_21_method_120_code 1 = .ok (.ldc 110, 2) := by decide +kernel
theorem dd_Y_copyOf_3 : decode prog_21_method_120_code 3 = .ok (.if_acmp .ne 10, 3) := by decide +kernel
theorem dd_Y_copyOf_6 : decode prog_21_method_120_code 6 = .ok (.iload_n 1, 1) := by decide +kernel
theorem dd_Y_copyOf_7 : decode prog_21_method_120_code 7 = .ok (.anewarray 2, 3) := by decide +kernel
theorem dd_Y_copyOf_10 : decode prog_21_method_120_code 10 = .ok (.goto 14, 3) := by decide +kernel
theorem dd_Y_copyOf_13 : decode prog_21_method_120_code 13 = .ok (.aload_n 2, 1) := by decide +kernel
theorem dd_Y_copyOf_24 : decode prog_21_method_120_code 24 = .ok (.astore_n 3, 1) := by decide +kernel
theorem dd_Y_copyOf_25 : decode prog_21_method_120_code 25 = .ok (.aload_n 0, 1) := by decide +kernel
theorem dd_Y_copyOf_26 : decode prog_21_method_120_code 26 = .ok (.iconst 0, 1) := by decide +kernel
theorem dd_Y_copyOf_27 : decode prog_21_method_120_code 27 = .ok (.aload_n 3, 1) := by decide +kernel
theorem dd_Y_copyOf_28 : decode prog_21_method_120_code 28 = .ok (.iconst 0, 1) := by decide +kernel
theorem dd_Y_copyOf_29 : decode prog_21_method_120_code 29 = .ok (.aload_n 0, 1) := by decide +kernel
theorem dd_Y_copyOf_30 : decode prog_21_method_120_code 30 = .ok (.arraylength, 1) := by decide +kernel
theorem dd_Y_copyOf_31 : decode prog_21_method_120_code 31 = .ok (.iload_n 1, 1) := by decide +kernel
theorem dd_Y_copyOf_32 : decode prog_21_method_120_code 32 = .ok (.invokestatic 304, 3) := by decide +kernel
theorem dd_Y_copyOf_35 : decode prog_21_method_120_code 35 = .ok (.invokestatic 150, 3) := by decide +kernel
theorem dd_Y_copyOf_38 : decode prog_21_method_120_code 38 = .ok (.aload_n 3, 1) := by decide +kernel
theorem dd_Y_copyOf_39 : decode prog_21_method_120_code 39 = .ok (.areturn, 1) := by decide +kernel
def wp_Y_copyOf (g : Gm) (post : Option Nat → Hp → Prop) (mc ms : Nat) (h : Hp) (b0 : Nat) (i1 : Int32) (b2 : Nat) : Prop := ((¬ (some b2) = (some (g.2.2 2)) → False) ∧ ((some b2) = (some (g.2.2 2)) → ∃ n4 : Nat, i1 = nI n4 ∧ n4 ≤ 100000 ∧ 0 + 1 ≤ mc ∧ 0 + n4 ≤ ms ∧ ∀ q2 : Nat, hK h q2 = 0 → g.2.2 0 ≤ q2 → ∀ h3 : Hp, h3 = mkC h q2 24 n4 → ∃ x6 : Int32, gLen g h3 b0 x6 ∧ ∀ x7 : Int32, x7 = (if i1 < x6 then i1 else x6) → hK h3 b0 = 24 ∧ hK h3 q2 = 24 ∧ ¬ (0 : Int32) < 0 ∧ ¬ (0 : Int32) < 0 ∧ ¬ (x7 : Int32) < 0 ∧ (0 : Int32).toNatClampNeg + (x7 : Int32).toNatClampNeg ≤ hN h3 b0 ∧ (0 : Int32).toNatClampNeg + (x7 : Int32).toNatClampNeg ≤ hN h3 q2 ∧ (∀ i y : Nat, i < (x7 : Int32).toNatClampNeg → hR h3 b0 ((0 : Int32).toNatClampNeg + i) = some y → hK h3 y = 4) ∧ ∀ h8 : Hp, h8 = sRr h3 q2 (va_cpy (hR h3 b0) (hR h3 q2) (0 : Int32).toNatClampNeg (0 : Int32).toNatClampNeg (x7 : Int32).toNatClampNeg) → post (some q2) h8))
set_option maxHeartbeats 4000000 in
set_option maxRecDepth 100000 in
theorem c_Y_copyOf (l : Launch) (g : Gm) (post : Option Nat → Hp → Prop) (mc ms : Nat) (h : Hp) (b0 : Nat) (i1 : Int32) (b2 : Nat) (hw : wp_Y_copyOf g post mc ms h b0 i1 b2) : Met l (⟨"java/util/Arrays", "copyOf", "([Ljava/lang/Object;ILjava/lang/Class;)[Ljava/lang/Object;"⟩ : MethodName) (ww (⟨"java/util/Arrays", "copyOf", "([Ljava/lang/Object;ILjava/lang/Class;)[Ljava/lang/Object;"⟩ : MethodName) prog_21_method_120_code 4 (some (.array (.object "java/lang/Object")))) (rmm 1 60 mc ms) (va_Pc [.ref b0, .int i1, .ref b2] (gS g h)) (va_Qq post (gS g) (gA g)) mc ms (gA g) := by
  first | refine en_met (by decide) ?_ | refine en_metF (by decide) ?_
  intro p e s m below meth c C0 hr hlk hin hG
  have hS : va_S (gA g) s.heap s.heap [] := va_S.rf
  have hl := lv_entry ([.ref b0, .int i1, .ref b2]) (n := 4) (Nat.le_of_ble_eq_true rfl)
  rw [lg_entry_eq]
  generalize (lg_sl ([.ref b0, .int i1, .ref b2]) ++ List.replicate (4 - (lg_sl ([.ref b0, .int i1, .ref b2])).length) Slot.unset).toArray = ls at hl ⊢
  replace hl : lv_has ls 4 [(0, .ref b0), (1, .int i1), (2, .ref b2)] := hl
  obtain ⟨hx, hb, -, hown, hts, hgk⟩ := id C0
  have hkc : 0 ≤ mc ∧ 0 ≤ ms := ⟨Nat.zero_le _, Nat.zero_le _⟩
  unfold wp_Y_copyOf at hw
  refine lv_aload_n hx hb dd_Y_copyOf_0 rfl (lv_at hl 2 rfl) ?_
  refine va_ldcM hx hb hown (hts _ km_80) hgk.2.2.2.2.1.2.2.1 dd_Y_copyOf_1 ?_
  refine lv_acmp_ne (tgt := 13) (rx := (some b2)) (ry := (some (g.2.2 2))) hx hb dd_Y_copyOf_3 (by decide) (fun c1 => ?_) (fun c1 => ?_)
  · replace hw := hw.1 c1
    refine lv_aload_n hx hb dd_Y_copyOf_13 rfl (lv_at hl 2 rfl) ?_
    exact hw.elim
  · replace hw := hw.2 c1
    refine lv_iload_n hx hb dd_Y_copyOf_6 rfl (lv_at hl 1 rfl) ?_
    obtain ⟨n4, en, hn1, hc1, hc2, hw⟩ := hw
    refine px_newQ C0 hG hS km_81 (N := n4) (by rw [en]; exact nI_pos (by omega)) (by rw [en]; exact nI_clamp (by omega)) hn1 hc1 hc2 dd_Y_copyOf_7 (fun q2 H z0 zq hG hS => ?_)
    replace hw := hw q2 z0 zq _ rfl
    generalize mkC h q2 24 n4 = h3 at hw hG
    have hkc := And.intro hc1 hc2
    refine lv_goto (tgt := 24) hx hb dd_Y_copyOf_10 (by decide) ?_
    have hl0 := hl
    clear hl
    refine lv_astore_n (lv' := [(3, .ref q2), (0, .ref b0), (1, .int i1), (2, .ref b2)]) hx hb dd_Y_copyOf_24 rfl hl0 (by decide) rfl (fun ls hl => ?_)
    refine lv_aload_n hx hb dd_Y_copyOf_25 rfl (lv_at hl 1 rfl) ?_
    refine lv_iconst (v := 0) hx hb dd_Y_copyOf_26 (by decide) ?_
    refine lv_aload_n hx hb dd_Y_copyOf_27 rfl (lv_at hl 0 rfl) ?_
    refine lv_iconst (v := 0) hx hb dd_Y_copyOf_28 (by decide) ?_
    refine lv_aload_n hx hb dd_Y_copyOf_29 rfl (lv_at hl 1 rfl) ?_
    obtain ⟨x6, k5, hw⟩ := hw
    refine px_len C0 hG hS k5 dd_Y_copyOf_30 ?_
    refine lv_iload_n hx hb dd_Y_copyOf_31 rfl (lv_at hl 2 rfl) ?_
    refine va_mmin hx hb (C0.2.2.1.trans hl.1.symm) hown (hts _ km_82) (hts _ km_83) (hts _ km_77) (hts _ km_84) (Nat.le_of_ble_eq_true rfl) (Nat.le_of_ble_eq_true rfl) hkc.1 hkc.2 dd_Y_copyOf_32 ?_
    refine lv_topi (fun x7 ex7 => ?_)
    replace hw := hw x7 ex7
    obtain ⟨z1, z2, z3, z4, z5, z6, z7, z8, hw⟩ := hw
    refine px_copy C0 hG hS hl.1 km_86 km_87 km_88 km_89 (ci := 3) (by decide) rfl km_85 z1 z2 z3 z4 z5 z6 z7 z8 (Nat.le_of_ble_eq_true rfl) (by first | exact Nat.le_of_ble_eq_true rfl | exact (by decide +kernel : 0 + (nativeFrameWords "java/lang/System" "arraycopy" 5 + 11) ≤ 60)) dd_Y_copyOf_35 (fun H locs hG hS => ?_)
    replace hw := hw _ rfl
    generalize sRr h3 q2 (va_cpy (hR h3 b0) (hR h3 q2) (0 : Int32).toNatClampNeg (0 : Int32).toNatClampNeg (x7 : Int32).toNatClampNeg) = h8 at hw hG
    refine lv_aload_n hx hb dd_Y_copyOf_38 rfl (lv_at hl 0 rfl) ?_
    exact re_q (v := (some q2)) C0 hG hS hr (by first | exact Or.inl ⟨_, rfl⟩ | exact Or.inr ⟨_, rfl⟩) hlk hkc hw dd_Y_copyOf_39
/-! java/util/Arrays.copyOf([Ljava/lang/Object;I)[Ljava/lang/Object; -/
theorem dd_Y_copyOf2_0 : decode prog_21_method_119_code 0 = .ok (.aload_n 0, 1) := by decide +kernel
theorem dd_Y_copyOf2_1 : decode prog_21_method_119_code 1 = .ok (.iload_n 1, 1) := by decide +kernel
theorem dd_Y_copyOf2_2 : decode prog_21_method_119_code 2 = .ok (.aload_n 0, 1) := by decide +kernel
theorem dd_Y_copyOf2_3 : decode prog_21_method_119_code 3 = .ok (.invokevirtual 86, 3) := by decide +kernel
theorem dd_Y_copyOf2_6 : decode prog_21_method_119_code 6 = .ok (.invokestatic 300, 3) := by decide +kernel
theorem dd_Y_copyOf2_9 : decode prog_21_method_119_code 9 = .ok (.areturn, 1) := by decide +kernel
def wp_Y_copyOf2 (g : Gm) (post : Option Nat → Hp → Prop) (mc ms : Nat) (h : Hp) (b0 : Nat) (i1 : Int32) : Prop := hK h b0 = 24 ∧ ∃ mc5 ms6 : Nat, 0 + mc5 ≤ mc ∧ 0 + ms6 ≤ ms ∧ wp_Y_copyOf g (fun r4 h3 => post r4 h3) mc5 ms6 h b0 i1 (g.2.2 2)
set_option maxHeartbeats 4000000 in
set_option maxRecDepth 100000 in
theorem c_Y_copyOf2 (l : Launch) (g : Gm) (post : Option Nat → Hp → Prop) (mc ms : Nat) (h : Hp) (b0 : Nat) (i1 : Int32) (hw : wp_Y_copyOf2 g post mc ms h b0 i1) : Met l (⟨"java/util/Arrays", "copyOf", "([Ljava/lang/Object;I)[Ljava/lang/Object;"⟩ : MethodName) (ww (⟨"java/util/Arrays", "copyOf", "([Ljava/lang/Object;I)[Ljava/lang/Object;"⟩ : MethodName) prog_21_method_119_code 2 (some (.array (.object "java/lang/Object")))) (rmm 2 83 mc ms) (va_Pc [.ref b0, .int i1] (gS g h)) (va_Qq post (gS g) (gA g)) mc ms (gA g) := by
  first | refine en_met (by decide) ?_ | refine en_metF (by decide) ?_
  intro p e s m below meth c C0 hr hlk hin hG
  have hS : va_S (gA g) s.heap s.heap [] := va_S.rf
  have hl := lv_entry ([.ref b0, .int i1]) (n := 2) (Nat.le_of_ble_eq_true rfl)
  rw [lg_entry_eq]
  generalize (lg_sl ([.ref b0, .int i1]) ++ List.replicate (2 - (lg_sl ([.ref b0, .int i1])).length) Slot.unset).toArray = ls at hl ⊢
  replace hl : lv_has ls 2 [(0, .ref b0), (1, .int i1)] := hl
  obtain ⟨hx, hb, -, hown, hts, hgk⟩ := id C0
  have hkc : 0 ≤ mc ∧ 0 ≤ ms := ⟨Nat.zero_le _, Nat.zero_le _⟩
  unfold wp_Y_copyOf2 at hw
  refine lv_aload_n hx hb dd_Y_copyOf2_0 rfl (lv_at hl 0 rfl) ?_
  refine lv_iload_n hx hb dd_Y_copyOf2_1 rfl (lv_at hl 1 rfl) ?_
  refine lv_aload_n hx hb dd_Y_copyOf2_2 rfl (lv_at hl 0 rfl) ?_
  obtain ⟨k1, hw⟩ := hw
  refine va_getC hx hb (C0.2.2.1.trans hl.1.symm) hown (hts _ km_90) (va_Nw.use rfl (hgk.2.1 _ km_91)) (hts _ km_92) (hts _ km_93) (hts _ km_94) hgk.2.2.2.2.1.2.2.1 (px_recA hgk hG k1) (Nat.le_of_ble_eq_true rfl) (Nat.le_of_ble_eq_true rfl) dd_Y_copyOf2_3 ?_
  obtain ⟨mc5, ms6, hc1, hc2, hw⟩ := hw
  refine ca_q hS (rn_S C0 hG hS (c_Y_copyOf l g _ mc5 ms6 h b0 i1 (g.2.2 2) hw) (host := "") (nest := false) (n := 3) (As := [.ref b0, .int i1, .ref (g.2.2 2)]) (rest := []) km_96 km_95 km_97 km_73 ⟨by decide, by decide, by decide +kernel⟩ ⟨Nat.le_of_ble_eq_true rfl, Nat.le_of_ble_eq_true rfl⟩ rfl hl.1 rfl (Nat.le_of_ble_eq_true rfl) dd_Y_copyOf2_6 ⟨hc1, hc2⟩) (fun r4 h3 H locs hw hG hS => ?_)
  have hkc := And.intro hc1 hc2
  exact re_q (v := r4) C0 hG hS hr (by first | exact Or.inl ⟨_, rfl⟩ | exact Or.inr ⟨_, rfl⟩) hlk hkc hw dd_Y_copyOf2_9
/-! java/util/ArrayList.grow(I)[Ljava/lang/Object; -/
theorem dd_A_grow_0 : decode prog_20_method_6_code 0 = .ok (.aload_n 0, 1) := by decide +kernel
theorem dd_A_grow_1 : decode prog_20_method_6_code 1 = .ok (.getfield 9, 3) := by decide +kernel
theorem dd_A_grow_4 : decode prog_20_method_6_code 4 = .ok (.arraylength, 1) := by decide +kernel
theorem dd_A_grow_5 : decode prog_20_method_6_code 5 = .ok (.istore_n 2, 1) := by decide +kernel
theorem dd_A_grow_6 : decode prog_20_method_6_code 6 = .ok (.iload_n 2, 1) := by decide +kernel
theorem dd_A_grow_7 : decode prog_20_method_6_code 7 = .ok (.ifCond .gt 13, 3) := by decide +kernel
theorem dd_A_grow_10 : decode prog_20_method_6_code 10 = .ok (.aload_n 0, 1) := by decide +kernel
theorem dd_A_grow_11 : decode prog_20_method_6_code 11 = .ok (.getfield 9, 3) := by decide +kernel
theorem dd_A_grow_14 : decode prog_20_method_6_code 14 = .ok (.getstatic 39, 3) := by decide +kernel
theorem dd_A_grow_17 : decode prog_20_method_6_code 17 = .ok (.if_acmp .eq 28, 3) := by decide +kernel
theorem dd_A_grow_20 : decode prog_20_method_6_code 20 = .ok (.iload_n 2, 1) := by decide +kernel
theorem dd_A_grow_21 : decode prog_20_method_6_code 21 = .ok (.iload_n 1, 1) := by decide +kernel
theorem dd_A_grow_22 : decode prog_20_method_6_code 22 = .ok (.iload_n 2, 1) := by decide +kernel
theorem dd_A_grow_23 : decode prog_20_method_6_code 23 = .ok (.isub, 1) := by decide +kernel
theorem dd_A_grow_24 : decode prog_20_method_6_code 24 = .ok (.iload_n 2, 1) := by decide +kernel
theorem dd_A_grow_25 : decode prog_20_method_6_code 25 = .ok (.iconst 1, 1) := by decide +kernel
theorem dd_A_grow_26 : decode prog_20_method_6_code 26 = .ok (.ishr, 1) := by decide +kernel
theorem dd_A_grow_27 : decode prog_20_method_6_code 27 = .ok (.invokestatic 73, 3) := by decide +kernel
theorem dd_A_grow_30 : decode prog_20_method_6_code 30 = .ok (.istore_n 3, 1) := by decide +kernel
theorem dd_A_grow_31 : decode prog_20_method_6_code 31 = .ok (.aload_n 0, 1) := by decide +kernel
theorem dd_A_grow_32 : decode prog_20_method_6_code 32 = .ok (.aload_n 0, 1) := by decide +kernel
theorem dd_A_grow_33 : decode prog_20_method_6_code 33 = .ok (.getfield 9, 3) := by decide +kernel
theorem dd_A_grow_36 : decode prog_20_method_6_code 36 = .ok (.iload_n 3, 1) := by decide +kernel
theorem dd_A_grow_37 : decode prog_20_method_6_code 37 = .ok (.invokestatic 66, 3) := by decide +kernel
theorem dd_A_grow_40 : decode prog_20_method_6_code 40 = .ok (.dup_x1, 1) := by decide +kernel
theorem dd_A_grow_41 : decode prog_20_method_6_code 41 = .ok (.putfield 9, 3) := by decide +kernel
theorem dd_A_grow_44 : decode prog_20_method_6_code 44 = .ok (.areturn, 1) := by decide +kernel
theorem dd_A_grow_45 : decode prog_20_method_6_code 45 = .ok (.aload_n 0, 1) := by decide +kernel
theorem dd_A_grow_46 : decode prog_20_method_6_code 46 = .ok (.bipush 10, 2) := by decide +kernel
theorem dd_A_grow_48 : decode prog_20_method_6_code 48 = .ok (.iload_n 1, 1) := by decide +kernel
theorem dd_A_grow_49 : decode prog_20_method_6_code 49 = .ok (.invokestatic 79, 3) := by decide +kernel
theorem dd_A_grow_52 : decode prog_20_method_6_code 52 = .ok (.anewarray 7, 3) := by decide +kernel
theorem dd_A_grow_55 : decode prog_20_method_6_code 55 = .ok (.dup_x1, 1) := by decide +kernel
theorem dd_A_grow_56 : decode prog_20_method_6_code 56 = .ok (.putfield 9, 3) := by decide +kernel
theorem dd_A_grow_59 : decode prog_20_method_6_code 59 = .ok (.areturn, 1) := by decide +kernel
def wp_A_grow_20 (g : Gm) (post : Option Nat → Hp → Prop) (mc ms : Nat) (h : Hp) (kc ks : Nat) (v0 : Nat) (v1 : Int32) (v2 : Int32) : Prop := ∀ x1 : Int32, x1 = v1 - v2 → ∀ x2 : Int32, x2 = v2 >>> ((1 : Int32) &&& 31) → wp_U_newLength g (fun x5 => hK h v0 = 6 ∧ ∃ a7 : Nat, hR h v0 0 = some a7 ∧ ∃ mc11 ms12 : Nat, kc + mc11 ≤ mc ∧ ks + ms12 ≤ ms ∧ wp_Y_copyOf2 g (fun r10 h9 => ∃ a13 : Nat, r10 = some a13 ∧ hK h9 v0 = 6 ∧ ∀ h15 : Hp, h15 = sR h9 v0 0 (some a13) → post (some a13) h15) mc11 ms12 h a7 x5) h v2 x1 x2
set_option maxHeartbeats 4000000 in
set_option maxRecDepth 100000 in
theorem wk_A_grow_20 {p : Program} {l : Launch} {e : Env} {s : State} {m : MethodId} {args : Array Value} {below : List Frame} {meth : Method} {c : Code} {g : Gm} {post : Option Nat → Hp → Prop} {mc ms : Nat} (C0 : Cx g p s m args c prog_20_method_6_code 4 "java/util/ArrayList") (hr : meth.sig.returnType = (some (.array (.object "java/lang/Object")))) (hlk : meth.locks = false) : ∀ (h : Hp) (kc ks : Nat) (v0 : Nat) (v1 : Int32) (v2 : Int32) (H : Heap) (locs : List Loc) (ls : Array Slot), wp_A_grow_20 g post mc ms h kc ks v0 v1 v2 → GH g h H → va_S (gA g) s.heap H locs → kc ≤ mc ∧ ks ≤ ms → lv_has ls 4 [(0, .ref v0), (1, .int v1), (2, .int v2)] → W p l e (rmm 3 104 mc ms) s m args below meth c H locs kc ks (MQ below (va_Qq post (gS g) (gA g)) args s mc ms (gA g)) (F0 m 20 ls []) := by
  obtain ⟨hx, hb, -, hown, hts, hgk⟩ := id C0
  intro h kc ks v0 v1 v2 H locs ls hw hG hS hkc hl
  unfold wp_A_grow_20 at hw
  refine lv_iload_n hx hb dd_A_grow_20 rfl (lv_at hl 2 rfl) ?_
  refine lv_iload_n hx hb dd_A_grow_21 rfl (lv_at hl 1 rfl) ?_
  refine lv_iload_n hx hb dd_A_grow_22 rfl (lv_at hl 2 rfl) ?_
  refine lv_isub hx hb dd_A_grow_23 ?_
  refine lv_topi (fun x1 ex1 => ?_)
  replace hw := hw x1 ex1
  refine lv_iload_n hx hb dd_A_grow_24 rfl (lv_at hl 2 rfl) ?_
  refine lv_iconst (v := 1) hx hb dd_A_grow_25 (by decide) ?_
  refine lv_ishr hx hb dd_A_grow_26 ?_
  refine lv_topi (fun x2 ex2 => ?_)
  replace hw := hw x2 ex2
  have hw0 := hw
  clear hw
  refine cs_i (rn_S C0 hG hS (c_U_newLength l g _ h v2 x1 x2 hw0) (host := "") (nest := false) (n := 3) (As := [.int v2, .int x1, .int x2]) (rest := []) km_102 km_101 km_104 km_103 ⟨by decide, by decide, by decide +kernel⟩ ⟨Nat.le_of_ble_eq_true rfl, Nat.le_of_ble_eq_true rfl⟩ rfl hl.1 rfl (Nat.le_of_ble_eq_true rfl) dd_A_grow_27 hkc) (fun x5 hw => ?_)
  have hl0 := hl
  clear hl
  refine lv_istore_n (lv' := [(3, .int x5), (0, .ref v0), (1, .int v1), (2, .int v2)]) hx hb dd_A_grow_30 rfl hl0 (by decide) rfl (fun ls hl => ?_)
  refine lv_aload_n hx hb dd_A_grow_31 rfl (lv_at hl 1 rfl) ?_
  refine lv_aload_n hx hb dd_A_grow_32 rfl (lv_at hl 1 rfl) ?_
  obtain ⟨k6, a7, ea7, hw⟩ := hw
  refine gf_A_9 C0 hG k6 ea7 dd_A_grow_33 ?_
  refine lv_iload_n hx hb dd_A_grow_36 rfl (lv_at hl 0 rfl) ?_
  obtain ⟨mc11, ms12, hc1, hc2, hw⟩ := hw
  refine ca_q hS (rn_S C0 hG hS (c_Y_copyOf2 l g _ mc11 ms12 h a7 x5 hw) (host := "") (nest := false) (n := 2) (As := [.ref a7, .int x5]) (rest := [.ref v0]) km_99 km_98 km_100 km_73 ⟨by decide, by decide, by decide +kernel⟩ ⟨Nat.le_of_ble_eq_true rfl, Nat.le_of_ble_eq_true rfl⟩ rfl hl.1 rfl (Nat.le_of_ble_eq_true rfl) dd_A_grow_37 ⟨hc1, hc2⟩) (fun r10 h9 H locs hw hG hS => ?_)
  have hkc := And.intro hc1 hc2
  obtain ⟨a13, rfl, hw⟩ := hw
  replace hl : lv_has ls 4 [(3, .int x5), (0, .ref v0), (1, .int v1), (2, .int v2)] := hl
  refine lv_dup_x1 hx hb dd_A_grow_40 rfl rfl ?_
  obtain ⟨k14, hw⟩ := hw
  refine pf_A_9 C0 hG hS k14 dd_A_grow_41 (fun H locs hG hS => ?_)
  replace hw := hw _ rfl
  generalize sR h9 v0 0 (some a13) = h15 at hw hG
  exact re_q (v := (some a13)) C0 hG hS hr (by first | exact Or.inl ⟨_, rfl⟩ | exact Or.inr ⟨_, rfl⟩) hlk hkc hw dd_A_grow_44
def wp_A_grow (g : Gm) (post : Option Nat → Hp → Prop) (mc ms : Nat) (h : Hp) (a0 : Nat) (i1 : Int32) : Prop := hK h a0 = 6 ∧ ∃ a2 : Nat, hR h a0 0 = some a2 ∧ ∃ x4 : Int32, gLen g h a2 x4 ∧ ((0 < x4 → wp_A_grow_20 g post mc ms h 0 0 a0 i1 x4) ∧ (¬ 0 < x4 → hK h a0 = 6 ∧ ∃ a7 : Nat, hR h a0 0 = some a7 ∧ (((some a7) = (some (g.2.2 1)) → ∀ x9 : Int32, x9 = (if 10 < i1 then i1 else 10) → ∃ n12 : Nat, x9 = nI n12 ∧ n12 ≤ 100000 ∧ 0 + 1 ≤ mc ∧ 0 + n12 ≤ ms ∧ ∀ q10 : Nat, hK h q10 = 0 → g.2.2 0 ≤ q10 → ∀ h11 : Hp, h11 = mkC h q10 24 n12 → hK h11 a0 = 6 ∧ ∀ h14 : Hp, h14 = sR h11 a0 0 (some q10) → post (some q10) h14) ∧ (¬ (some a7) = (some (g.2.2 1)) → wp_A_grow_20 g post mc ms h 0 0 a0 i1 x4))))
set_option maxHeartbeats 4000000 in
set_option maxRecDepth 100000 in
theorem c_A_grow (l : Launch) (g : Gm) (post : Option Nat → Hp → Prop) (mc ms : Nat) (h : Hp) (a0 : Nat) (i1 : Int32) (hw : wp_A_grow g post mc ms h a0 i1) : Met l (⟨"java/util/ArrayList", "grow", "(I)[Ljava/lang/Object;"⟩ : MethodName) (ww (⟨"java/util/ArrayList", "grow", "(I)[Ljava/lang/Object;"⟩ : MethodName) prog_20_method_6_code 4 (some (.array (.object "java/lang/Object")))) (rmm 3 104 mc ms) (va_Pc [.ref a0, .int i1] (gS g h)) (va_Qq post (gS g) (gA g)) mc ms (gA g) := by
  first | refine en_met (by decide) ?_ | refine en_metF (by decide) ?_
  intro p e s m below meth c C0 hr hlk hin hG
  have hS : va_S (gA g) s.heap s.heap [] := va_S.rf
  have hl := lv_entry ([.ref a0, .int i1]) (n := 4) (Nat.le_of_ble_eq_true rfl)
  rw [lg_entry_eq]
  generalize (lg_sl ([.ref a0, .int i1]) ++ List.replicate (4 - (lg_sl ([.ref a0, .int i1])).length) Slot.unset).toArray = ls at hl ⊢
  replace hl : lv_has ls 4 [(0, .ref a0), (1, .int i1)] := hl
  obtain ⟨hx, hb, -, hown, hts, hgk⟩ := id C0
  have hkc : 0 ≤ mc ∧ 0 ≤ ms := ⟨Nat.zero_le _, Nat.zero_le _⟩
  unfold wp_A_grow at hw
  refine lv_aload_n hx hb dd_A_grow_0 rfl (lv_at hl 0 rfl) ?_
  obtain ⟨k1, a2, ea2, hw⟩ := hw
  refine gf_A_9 C0 hG k1 ea2 dd_A_grow_1 ?_
  obtain ⟨x4, k3, hw⟩ := hw
  refine px_len C0 hG hS k3 dd_A_grow_4 ?_
  have hl0 := hl
  clear hl
  refine lv_istore_n (lv' := [(2, .int x4), (0, .ref a0), (1, .int i1)]) hx hb dd_A_grow_5 rfl hl0 (by decide) rfl (fun ls hl => ?_)
  refine lv_iload_n hx hb dd_A_grow_6 rfl (lv_at hl 0 rfl) ?_
  refine lv_if_gt (tgt := 20) hx hb dd_A_grow_7 (by decide) (fun c5 => ?_) (fun c5 => ?_)
  · replace hw := hw.1 c5
    exact wk_A_grow_20 C0 hr hlk _ _ _ _ _ _ _ _ _ hw hG hS hkc (lv_sub hl [1, 2, 0] rfl)
  · replace hw := hw.2 c5
    refine lv_aload_n hx hb dd_A_grow_10 rfl (lv_at hl 1 rfl) ?_
    obtain ⟨k6, a7, ea7, hw⟩ := hw
    refine gf_A_9 C0 hG k6 ea7 dd_A_grow_11 ?_
    refine va_gets hx hb hgk.2.2.2.2.1.1 hS hown (hts _ km_8) (fun _ z => z) dd_A_grow_14 ?_
    refine lv_acmp_eq (tgt := 45) (rx := (some a7)) (ry := (some (g.2.2 1))) hx hb dd_A_grow_17 (by decide) (fun c8 => ?_) (fun c8 => ?_)
    · replace hw := hw.1 c8
      refine lv_aload_n hx hb dd_A_grow_45 rfl (lv_at hl 1 rfl) ?_
      refine lv_bipush (v := 10) hx hb dd_A_grow_46 (by decide) ?_
      refine lv_iload_n hx hb dd_A_grow_48 rfl (lv_at hl 2 rfl) ?_
      refine va_mmax hx hb (C0.2.2.1.trans hl.1.symm) hown (hts _ km_105) (hts _ km_76) (hts _ km_77) (hts _ km_78) (Nat.le_of_ble_eq_true rfl) (Nat.le_of_ble_eq_true rfl) hkc.1 hkc.2 dd_A_grow_49 ?_
      refine lv_topi (fun x9 ex9 => ?_)
      replace hw := hw x9 ex9
      obtain ⟨n12, en, hn1, hc1, hc2, hw⟩ := hw
      refine px_newQ C0 hG hS km_106 (N := n12) (by rw [en]; exact nI_pos (by omega)) (by rw [en]; exact nI_clamp (by omega)) hn1 hc1 hc2 dd_A_grow_52 (fun q10 H z0 zq hG hS => ?_)
      replace hw := hw q10 z0 zq _ rfl
      generalize mkC h q10 24 n12 = h11 at hw hG
      have hkc := And.intro hc1 hc2
      refine lv_dup_x1 hx hb dd_A_grow_55 rfl rfl ?_
      obtain ⟨k13, hw⟩ := hw
      refine pf_A_9 C0 hG hS k13 dd_A_grow_56 (fun H locs hG hS => ?_)
      replace hw := hw _ rfl
      generalize sR h11 a0 0 (some q10) = h14 at hw hG
      exact re_q (v := (some q10)) C0 hG hS hr (by first | exact Or.inl ⟨_, rfl⟩ | exact Or.inr ⟨_, rfl⟩) hlk hkc hw dd_A_grow_59
    · replace hw := hw.2 c8
      exact wk_A_grow_20 C0 hr hlk _ _ _ _ _ _ _ _ _ hw hG hS hkc (lv_sub hl [1, 2, 0] rfl)
/-! java/util/ArrayList.grow()[Ljava/lang/Object; -/
theorem dd_A_grow2_0 : decode prog_20_method_7_code 0 = .ok (.aload_n 0, 1) := by decide +kernel
theorem dd_A_grow2_1 : decode prog_20_method_7_code 1 = .ok (.aload_n 0, 1) := by decide +kernel
theorem dd_A_grow2_2 : decode prog_20_method_7_code 2 = .ok (.getfield 48, 3) := by decide +kernel
theorem dd_A_grow2_5 : decode prog_20_method_7_code 5 = .ok (.iconst 1, 1) := by decide +kernel
theorem dd_A_grow2_6 : decode prog_20_method_7_code 6 = .ok (.iadd, 1) := by decide +kernel
theorem dd_A_grow2_7 : decode prog_20_method_7_code 7 = .ok (.invokevirtual 69, 3) := by decide +kernel
theorem dd_A_grow2_10 : decode prog_20_method_7_code 10 = .ok (.areturn, 1) := by decide +kernel
def wp_A_grow2 (g : Gm) (post : Option Nat → Hp → Prop) (mc ms : Nat) (h : Hp) (a0 : Nat) : Prop := hK h a0 = 6 ∧ ∀ x2 : Int32, x2 = (hI h a0 1) + 1 → hK h a0 = 6 ∧ ∃ mc6 ms7 : Nat, 0 + mc6 ≤ mc ∧ 0 + ms7 ≤ ms ∧ wp_A_grow g (fun r5 h4 => post r5 h4) mc6 ms7 h a0 x2
set_option maxHeartbeats 4000000 in
set_option maxRecDepth 100000 in
theorem c_A_grow2 (l : Launch) (g : Gm) (post : Option Nat → Hp → Prop) (mc ms : Nat) (h : Hp) (a0 : Nat) (hw : wp_A_grow2 g post mc ms h a0) : Met l (⟨"java/util/ArrayList", "grow", "()[Ljava/lang/Object;"⟩ : MethodName) (ww (⟨"java/util/ArrayList", "grow", "()[Ljava/lang/Object;"⟩ : MethodName) prog_20_method_7_code 1 (some (.array (.object "java/lang/Object")))) (rmm 4 127 mc ms) (va_Pc [.ref a0] (gS g h)) (va_Qq post (gS g) (gA g)) mc ms (gA g) := by
  first | refine en_met (by decide) ?_ | refine en_metF (by decide) ?_
  intro p e s m below meth c C0 hr hlk hin hG
  have hS : va_S (gA g) s.heap s.heap [] := va_S.rf
  have hl := lv_entry ([.ref a0]) (n := 1) (Nat.le_of_ble_eq_true rfl)
  rw [lg_entry_eq]
  generalize (lg_sl ([.ref a0]) ++ List.replicate (1 - (lg_sl ([.ref a0])).length) Slot.unset).toArray = ls at hl ⊢
  replace hl : lv_has ls 1 [(0, .ref a0)] := hl
  obtain ⟨hx, hb, -, hown, hts, hgk⟩ := id C0
  have hkc : 0 ≤ mc ∧ 0 ≤ ms := ⟨Nat.zero_le _, Nat.zero_le _⟩
  unfold wp_A_grow2 at hw
  refine lv_aload_n hx hb dd_A_grow2_0 rfl (lv_at hl 0 rfl) ?_
  refine lv_aload_n hx hb dd_A_grow2_1 rfl (lv_at hl 0 rfl) ?_
  obtain ⟨k1, hw⟩ := hw
  refine gf_A_48 C0 hG k1 dd_A_grow2_2 ?_
  refine lv_iconst (v := 1) hx hb dd_A_grow2_5 (by decide) ?_
  refine lv_iadd hx hb dd_A_grow2_6 ?_
  refine lv_topi (fun x2 ex2 => ?_)
  replace hw := hw x2 ex2
  obtain ⟨k3, hw⟩ := hw
  obtain ⟨mc6, ms7, hc1, hc2, hw⟩ := hw
  refine ca_q hS (rn_V C0 hG hS (c_A_grow l g _ mc6 ms7 h a0 x2 hw) (ci := 5) k3 (by decide) rfl rfl (host := "") (nest := false) (n := 1) (As := [.int x2]) (rest := []) km_108 km_107 km_109 km_110 km_17 ⟨by decide, by decide, by decide +kernel⟩ ⟨Nat.le_of_ble_eq_true rfl, Nat.le_of_ble_eq_true rfl⟩ rfl hl.1 rfl (Nat.le_of_ble_eq_true rfl) dd_A_grow2_7 ⟨hc1, hc2⟩) (fun r5 h4 H locs hw hG hS => ?_)
  have hkc := And.intro hc1 hc2
  exact re_q (v := r5) C0 hG hS hr (by first | exact Or.inl ⟨_, rfl⟩ | exact Or.inr ⟨_, rfl⟩) hlk hkc hw dd_A_grow2_10
/-! java/util/ArrayList.add(Ljava/lang/Object;[Ljava/lang/Object;I)V -/
theorem dd_A_add_0 : decode prog_20_method_24_code 0 = .ok (.iload_n 3, 1) := by decide +kernel
theorem dd_A_add_1 : decode prog_20_method_24_code 1 = .ok (.aload_n 2, 1) := by decide +kernel
theorem dd_A_add_2 : decode prog_20_method_24_code 2 = .ok (.arraylength, 1) := by decide +kernel
theorem dd_A_add_3 : decode prog_20_method_24_code 3 = .ok (.if_icmp .ne 8, 3) := by decide +kernel
theorem dd_A_add_6 : decode prog_20_method_24_code 6 = .ok (.aload_n 0, 1) := by decide +kernel
theorem dd_A_add_7 : decode prog_20_method_24_code 7 = .ok (.invokevirtual 129, 3) := by decide +kernel
theorem dd_A_add_10 : decode prog_20_method_24_code 10 = .ok (.astore_n 2, 1) := by decide +kernel
theorem dd_A_add_11 : decode prog_20_method_24_code 11 = .ok (.aload_n 2, 1) := by decide +kernel
theorem dd_A_add_12 : decode prog_20_method_24_code 12 = .ok (.iload_n 3, 1) := by decide +kernel
theorem dd_A_add_13 : decode prog_20_method_24_code 13 = .ok (.aload_n 1, 1) := by decide +kernel
theorem dd_A_add_14 : decode prog_20_method_24_code 14 = .ok (.aastore, 1) := by decide +kernel
theorem dd_A_add_15 : decode prog_20_method_24_code 15 = .ok (.aload_n 0, 1) := by decide +kernel
theorem dd_A_add_16 : decode prog_20_method_24_code 16 = .ok (.iload_n 3, 1) := by decide +kernel
theorem dd_A_add_17 : decode prog_20_method_24_code 17 = .ok (.iconst 1, 1) := by decide +kernel
theorem dd_A_add_18 : decode prog_20_method_24_code 18 = .ok (.iadd, 1) := by decide +kernel
theorem dd_A_add_19 : decode prog_20_method_24_code 19 = .ok (.putfield 48, 3) := by decide +kernel
theorem dd_A_add_22 : decode prog_20_method_24_code 22 = .ok (.return_, 1) := by decide +kernel
def wp_A_add_11 (g : Gm) (post : Hp → Prop) (mc ms : Nat) (h : Hp) (kc ks : Nat) (v0 : Nat) (v1 : Nat) (v2 : Option Nat) (v3 : Int32) : Prop := ∃ a1 : Nat, v2 = some a1 ∧ hK h a1 = 24 ∧ vp_in v3 (hN h a1) ∧ hK h v1 = 4 ∧ ∀ h3 : Hp, h3 = sR h a1 v3.toNatClampNeg (some v1) → ∀ x4 : Int32, x4 = v3 + 1 → hK h3 v0 = 6 ∧ ∀ h6 : Hp, h6 = sI h3 v0 1 x4 → post h6
set_option maxHeartbeats 4000000 in
set_option maxRecDepth 100000 in
theorem wk_A_add_11 {p : Program} {l : Launch} {e : Env} {s : State} {m : MethodId} {args : Array Value} {below : List Frame} {meth : Method} {c : Code} {g : Gm} {post : Hp → Prop} {mc ms : Nat} (C0 : Cx g p s m args c prog_20_method_24_code 4 "java/util/ArrayList") (hr : meth.sig.returnType = none) (hlk : meth.locks = false) : ∀ (h : Hp) (kc ks : Nat) (v0 : Nat) (v1 : Nat) (v2 : Option Nat) (v3 : Int32) (H : Heap) (locs : List Loc) (ls : Array Slot), wp_A_add_11 g post mc ms h kc ks v0 v1 v2 v3 → GH g h H → va_S (gA g) s.heap H locs → kc ≤ mc ∧ ks ≤ ms → lv_has ls 4 [(0, .ref v0), (1, .ref v1), (2, va_rf v2), (3, .int v3)] → W p l e (rmm 5 147 mc ms) s m args below meth c H locs kc ks (MQ below (va_Qv post (gS g) (gA g)) args s mc ms (gA g)) (F0 m 11 ls []) := by
  obtain ⟨hx, hb, -, hown, hts, hgk⟩ := id C0
  intro h kc ks v0 v1 v2 v3 H locs ls hw hG hS hkc hl
  unfold wp_A_add_11 at hw
  refine px_aload_nq hx hb dd_A_add_11 rfl (lv_at hl 2 rfl) ?_
  refine lv_iload_n hx hb dd_A_add_12 rfl (lv_at hl 3 rfl) ?_
  refine lv_aload_n hx hb dd_A_add_13 rfl (lv_at hl 1 rfl) ?_
  obtain ⟨a1, rfl, hw⟩ := hw
  replace hl : lv_has ls 4 [(0, .ref v0), (1, .ref v1), (2, .ref a1), (3, .int v3)] := hl
  obtain ⟨k2, k2i, k2v, hw⟩ := hw
  refine px_aast C0 hG hS k2 k2i (ci := 3) k2v (by decide) rfl km_85 dd_A_add_14 (fun H locs hG hS => ?_)
  replace hw := hw _ rfl
  generalize sR h a1 v3.toNatClampNeg (some v1) = h3 at hw hG
  refine lv_aload_n hx hb dd_A_add_15 rfl (lv_at hl 0 rfl) ?_
  refine lv_iload_n hx hb dd_A_add_16 rfl (lv_at hl 3 rfl) ?_
  refine lv_iconst (v := 1) hx hb dd_A_add_17 (by decide) ?_
  refine lv_iadd hx hb dd_A_add_18 ?_
  refine lv_topi (fun x4 ex4 => ?_)
  replace hw := hw x4 ex4
  obtain ⟨k5, hw⟩ := hw
  refine pf_A_48 C0 hG hS k5 dd_A_add_19 (fun H locs hG hS => ?_)
  replace hw := hw _ rfl
  generalize sI h3 v0 1 x4 = h6 at hw hG
  exact re_v C0 hG hS hr hlk hkc hw dd_A_add_22
def wp_A_add (g : Gm) (post : Hp → Prop) (mc ms : Nat) (h : Hp) (a0 : Nat) (b1 : Nat) (b2 : Nat) (i3 : Int32) : Prop := ∃ x2 : Int32, gLen g h b2 x2 ∧ ((¬ i3 = x2 → wp_A_add_11 g post mc ms h 0 0 a0 b1 (some b2) i3) ∧ (i3 = x2 → hK h a0 = 6 ∧ ∃ mc7 ms8 : Nat, 0 + mc7 ≤ mc ∧ 0 + ms8 ≤ ms ∧ wp_A_grow2 g (fun r6 h5 => wp_A_add_11 g post mc ms h5 (0 + mc7) (0 + ms8) a0 b1 r6 i3) mc7 ms8 h a0))
set_option maxHeartbeats 4000000 in
set_option maxRecDepth 100000 in
theorem c_A_add (l : Launch) (g : Gm) (post : Hp → Prop) (mc ms : Nat) (h : Hp) (a0 : Nat) (b1 : Nat) (b2 : Nat) (i3 : Int32) (hw : wp_A_add g post mc ms h a0 b1 b2 i3) : Met l (⟨"java/util/ArrayList", "add", "(Ljava/lang/Object;[Ljava/lang/Object;I)V"⟩ : MethodName) (ww (⟨"java/util/ArrayList", "add", "(Ljava/lang/Object;[Ljava/lang/Object;I)V"⟩ : MethodName) prog_20_method_24_code 4 none) (rmm 5 147 mc ms) (va_Pc [.ref a0, .ref b1, .ref b2, .int i3] (gS g h)) (va_Qv post (gS g) (gA g)) mc ms (gA g) := by
  first | refine en_met (by decide) ?_ | refine en_metF (by decide) ?_
  intro p e s m below meth c C0 hr hlk hin hG
  have hS : va_S (gA g) s.heap s.heap [] := va_S.rf
  have hl := lv_entry ([.ref a0, .ref b1, .ref b2, .int i3]) (n := 4) (Nat.le_of_ble_eq_true rfl)
  rw [lg_entry_eq]
  generalize (lg_sl ([.ref a0, .ref b1, .ref b2, .int i3]) ++ List.replicate (4 - (lg_sl ([.ref a0, .ref b1, .ref b2, .int i3])).length) Slot.unset).toArray = ls at hl ⊢
  replace hl : lv_has ls 4 [(0, .ref a0), (1, .ref b1), (2, .ref b2), (3, .int i3)] := hl
  obtain ⟨hx, hb, -, hown, hts, hgk⟩ := id C0
  have hkc : 0 ≤ mc ∧ 0 ≤ ms := ⟨Nat.zero_le _, Nat.zero_le _⟩
  unfold wp_A_add at hw
  refine lv_iload_n hx hb dd_A_add_0 rfl (lv_at hl 3 rfl) ?_
  refine lv_aload_n hx hb dd_A_add_1 rfl (lv_at hl 2 rfl) ?_
  obtain ⟨x2, k1, hw⟩ := hw
  refine px_len C0 hG hS k1 dd_A_add_2 ?_
  refine lv_icmp_ne (tgt := 11) hx hb dd_A_add_3 (by decide) (fun c3 => ?_) (fun c3 => ?_)
  · replace hw := hw.1 c3
    exact wk_A_add_11 C0 hr hlk _ _ _ _ _ _ _ _ _ _ hw hG hS hkc (lv_sub hl [0, 1, 2, 3] rfl)
  · replace hw := hw.2 c3
    refine lv_aload_n hx hb dd_A_add_6 rfl (lv_at hl 0 rfl) ?_
    obtain ⟨k4, hw⟩ := hw
    obtain ⟨mc7, ms8, hc1, hc2, hw⟩ := hw
    refine ca_q hS (rn_V C0 hG hS (c_A_grow2 l g _ mc7 ms8 h a0 hw) (ci := 5) k4 (by decide) rfl rfl (host := "") (nest := false) (n := 0) (As := []) (rest := []) km_112 km_111 km_113 km_114 km_17 ⟨by decide, by decide, by decide +kernel⟩ ⟨Nat.le_of_ble_eq_true rfl, Nat.le_of_ble_eq_true rfl⟩ rfl hl.1 rfl (Nat.le_of_ble_eq_true rfl) dd_A_add_7 ⟨hc1, hc2⟩) (fun r6 h5 H locs hw hG hS => ?_)
    have hkc := And.intro hc1 hc2
    have hl0 := hl
    clear hl
    refine px_astore_nq (lv' := [(2, va_rf r6), (0, .ref a0), (1, .ref b1), (3, .int i3)]) hx hb dd_A_add_10 rfl hl0 (by decide) rfl (fun ls hl => ?_)
    exact wk_A_add_11 C0 hr hlk _ _ _ _ _ _ _ _ _ _ hw hG hS hkc (lv_sub hl [1, 2, 0, 3] rfl)
/-! java/util/ArrayList.add(Ljava/lang/Object;)Z -/
theorem dd_A_add2_0 : decode prog_20_method_25_code 0 = .ok (.aload_n 0, 1) := by decide +kernel
theorem dd_A_add2_1 : decode prog_20_method_25_code 1 = .ok (.dup, 1) := by decide +kernel
theorem dd_A_add2_2 : decode prog_20_method_25_code 2 = .ok (.getfield 63, 3) := by decide +kernel
theorem dd_A_add2_5 : decode prog_20_method_25_code 5 = .ok (.iconst 1, 1) := by decide +kernel
theorem dd_A_add2_6 : decode prog_20_method_25_code 6 = .ok (.iadd, 1) := by decide +kernel
theorem dd_A_add2_7 : decode prog_20_method_25_code 7 = .ok (.putfield 63, 3) := by decide +kernel
theorem dd_A_add2_10 : decode prog_20_method_25_code 10 = .ok (.aload_n 0, 1) := by decide +kernel
theorem dd_A_add2_11 : decode prog_20_method_25_code 11 = .ok (.aload_n 1, 1) := by decide +kernel
theorem dd_A_add2_12 : decode prog_20_method_25_code 12 = .ok (.aload_n 0, 1) := by decide +kernel
theorem dd_A_add2_13 : decode prog_20_method_25_code 13 = .ok (.getfield 9, 3) := by decide +kernel
theorem dd_A_add2_16 : decode prog_20_method_25_code 16 = .ok (.aload_n 0, 1) := by decide +kernel
theorem dd_A_add2_17 : decode prog_20_method_25_code 17 = .ok (.getfield 48, 3) := by decide +kernel
theorem dd_A_add2_20 : decode prog_20_method_25_code 20 = .ok (.invokevirtual 131, 3) := by decide +kernel
theorem dd_A_add2_23 : decode prog_20_method_25_code 23 = .ok (.iconst 1, 1) := by decide +kernel
theorem dd_A_add2_24 : decode prog_20_method_25_code 24 = .ok (.ireturn, 1) := by decide +kernel
def wp_A_add2 (g : Gm) (post : Int32 → Hp → Prop) (mc ms : Nat) (h : Hp) (a0 : Nat) (b1 : Nat) : Prop := hK h a0 = 6 ∧ ∀ x2 : Int32, x2 = (hI h a0 2) + 1 → hK h a0 = 6 ∧ ∀ h4 : Hp, h4 = sI h a0 2 x2 → hK h4 a0 = 6 ∧ ∃ a6 : Nat, hR h4 a0 0 = some a6 ∧ hK h4 a0 = 6 ∧ hK h4 a0 = 6 ∧ ∃ mc10 ms11 : Nat, 0 + mc10 ≤ mc ∧ 0 + ms11 ≤ ms ∧ wp_A_add g (fun h9 => zB 1 ∧ post 1 h9) mc10 ms11 h4 a0 b1 a6 (hI h4 a0 1)
set_option maxHeartbeats 4000000 in
set_option maxRecDepth 100000 in
theorem c_A_add2 (l : Launch) (g : Gm) (post : Int32 → Hp → Prop) (mc ms : Nat) (h : Hp) (a0 : Nat) (b1 : Nat) (hw : wp_A_add2 g post mc ms h a0 b1) : Met l (⟨"java/util/ArrayList", "add", "(Ljava/lang/Object;)Z"⟩ : MethodName) (ww (⟨"java/util/ArrayList", "add", "(Ljava/lang/Object;)Z"⟩ : MethodName) prog_20_method_25_code 2 (some .boolean)) (rmm 6 170 mc ms) (va_Pc [.ref a0, .ref b1] (gS g h)) (va_Qi post (gS g) (gA g)) mc ms (gA g) := by
  first | refine en_met (by decide) ?_ | refine en_metF (by decide) ?_
  intro p e s m below meth c C0 hr hlk hin hG
  have hS : va_S (gA g) s.heap s.heap [] := va_S.rf
  have hl := lv_entry ([.ref a0, .ref b1]) (n := 2) (Nat.le_of_ble_eq_true rfl)
  rw [lg_entry_eq]
  generalize (lg_sl ([.ref a0, .ref b1]) ++ List.replicate (2 - (lg_sl ([.ref a0, .ref b1])).length) Slot.unset).toArray = ls at hl ⊢
  replace hl : lv_has ls 2 [(0, .ref a0), (1, .ref b1)] := hl
  obtain ⟨hx, hb, -, hown, hts, hgk⟩ := id C0
  have hkc : 0 ≤ mc ∧ 0 ≤ ms := ⟨Nat.zero_le _, Nat.zero_le _⟩
  unfold wp_A_add2 at hw
  refine lv_aload_n hx hb dd_A_add2_0 rfl (lv_at hl 0 rfl) ?_
  refine lv_dup hx hb dd_A_add2_1 rfl ?_
  obtain ⟨k1, hw⟩ := hw
  refine gf_A_63 C0 hG k1 dd_A_add2_2 ?_
  refine lv_iconst (v := 1) hx hb dd_A_add2_5 (by decide) ?_
  refine lv_iadd hx hb dd_A_add2_6 ?_
  refine lv_topi (fun x2 ex2 => ?_)
  replace hw := hw x2 ex2
  obtain ⟨k3, hw⟩ := hw
  refine pf_A_63 C0 hG hS k3 dd_A_add2_7 (fun H locs hG hS => ?_)
  replace hw := hw _ rfl
  generalize sI h a0 2 x2 = h4 at hw hG
  refine lv_aload_n hx hb dd_A_add2_10 rfl (lv_at hl 0 rfl) ?_
  refine lv_aload_n hx hb dd_A_add2_11 rfl (lv_at hl 1 rfl) ?_
  refine lv_aload_n hx hb dd_A_add2_12 rfl (lv_at hl 0 rfl) ?_
  obtain ⟨k5, a6, ea6, hw⟩ := hw
  refine gf_A_9 C0 hG k5 ea6 dd_A_add2_13 ?_
  refine lv_aload_n hx hb dd_A_add2_16 rfl (lv_at hl 0 rfl) ?_
  obtain ⟨k7, hw⟩ := hw
  refine gf_A_48 C0 hG k7 dd_A_add2_17 ?_
  obtain ⟨k8, hw⟩ := hw
  obtain ⟨mc10, ms11, hc1, hc2, hw⟩ := hw
  refine ca_v hS (rn_V C0 hG hS (c_A_add l g _ mc10 ms11 h4 a0 b1 a6 (hI h4 a0 1) hw) (ci := 5) k8 (by decide) rfl rfl (host := "") (nest := false) (n := 3) (As := [.ref b1, .ref a6, .int (hI h4 a0 1)]) (rest := []) km_118 km_117 km_119 km_120 km_17 ⟨by decide, by decide, by decide +kernel⟩ ⟨Nat.le_of_ble_eq_true rfl, Nat.le_of_ble_eq_true rfl⟩ rfl hl.1 rfl (Nat.le_of_ble_eq_true rfl) dd_A_add2_20 ⟨hc1, hc2⟩) (fun h9 H locs hw hG hS => ?_)
  have hkc := And.intro hc1 hc2
  refine lv_iconst (v := 1) hx hb dd_A_add2_23 (by decide) ?_
  exact re_z C0 hG hS hr hlk hkc hw.1.nar hw.2 dd_A_add2_24
/-! jdk/internal/util/Preconditions.checkIndex(IILjava/util/function/BiFunction;)I -/
theorem dd_P_checkIndex_0 : decode prog_28_method_11_code 0 = .ok (.iload_n 0, 1) := by decide +kernel
theorem dd_P_checkIndex_1 : decode prog_28_method_11_code 1 = .ok (.ifCond .lt 8, 3) := by decide +kernel
theorem dd_P_checkIndex_4 : decode prog_28_method_11_code 4 = .ok (.iload_n 0, 1) := by decide +kernel
theorem dd_P_checkIndex_5 : decode prog_28_method_11_code 5 = .ok (.iload_n 1, 1) := by decide +kernel
theorem dd_P_checkIndex_6 : decode prog_28_method_11_code 6 = .ok (.if_icmp .lt 10, 3) := by decide +kernel
theorem dd_P_checkIndex_9 : decode prog_28_method_11_code 9 = .ok (.aload_n 2, 1) := by decide +kernel
theorem dd_P_checkIndex_10 : decode prog_28_method_11_code 10 = .ok (.iload_n 0, 1) := by decide +kernel
theorem dd_P_checkIndex_11 : decode prog_28_method_11_code 11 = .ok (.iload_n 1, 1) := by decide +kernel
theorem dd_P_checkIndex_16 : decode prog_28_method_11_code 16 = .ok (.iload_n 0, 1) := by decide +kernel
theorem dd_P_checkIndex_17 : decode prog_28_method_11_code 17 = .ok (.ireturn, 1) := by decide +kernel
def wp_P_checkIndex_9 (g : Gm) (post : Int32 → Prop) (h : Hp) (v0 : Int32) (v1 : Int32) : Prop := False
set_option maxHeartbeats 4000000 in
set_option maxRecDepth 100000 in
theorem wk_P_checkIndex_9 {p : Program} {l : Launch} {e : Env} {s : State} {m : MethodId} {args : Array Value} {below : List Frame} {meth : Method} {c : Code} {g : Gm} {post : Int32 → Prop} (C0 : Cx g p s m args c prog_28_method_11_code 3 "jdk/internal/util/Preconditions") (hr : meth.sig.returnType = (some .int)) (hlk : meth.locks = false) : ∀ (h : Hp) (v0 : Int32) (v1 : Int32) (ls : Array Slot), wp_P_checkIndex_9 g post h v0 v1 → GH g h s.heap → lv_has ls 3 [(0, .int v0), (1, .int v1), (2, .null)] → W p l e (rmm 0 0 0 0) s m args below meth c s.heap [] 0 0 (MQ below (vp_Si post) args s 0 0 (fun _ => False)) (F0 m 9 ls []) := by
  obtain ⟨hx, hb, -, hown, hts, hgk⟩ := id C0
  have hS : va_S (gA g) s.heap s.heap [] := va_S.rf
  intro h v0 v1 ls hw hG hl
  unfold wp_P_checkIndex_9 at hw
  refine lv_aload_nN hx hb dd_P_checkIndex_9 rfl (lv_at hl 2 rfl) ?_
  refine lv_iload_n hx hb dd_P_checkIndex_10 rfl (lv_at hl 0 rfl) ?_
  refine lv_iload_n hx hb dd_P_checkIndex_11 rfl (lv_at hl 1 rfl) ?_
  exact hw.elim
def wp_P_checkIndex (g : Gm) (post : Int32 → Prop) (h : Hp) (i0 : Int32) (i1 : Int32) : Prop := ((i0 < 0 → wp_P_checkIndex_9 g post h i0 i1) ∧ (¬ i0 < 0 → ((i0 < i1 → post i0) ∧ (¬ i0 < i1 → wp_P_checkIndex_9 g post h i0 i1))))
set_option maxHeartbeats 4000000 in
set_option maxRecDepth 100000 in
theorem c_P_checkIndex (l : Launch) (g : Gm) (post : Int32 → Prop) (h : Hp) (i0 : Int32) (i1 : Int32) (hw : wp_P_checkIndex g post h i0 i1) : Met l (⟨"jdk/internal/util/Preconditions", "checkIndex", "(IILjava/util/function/BiFunction;)I"⟩ : MethodName) (ww (⟨"jdk/internal/util/Preconditions", "checkIndex", "(IILjava/util/function/BiFunction;)I"⟩ : MethodName) prog_28_method_11_code 3 (some .int)) (rmm 0 0 0 0) (va_Pc [.int i0, .int i1, .null] (gS g h)) (vp_Si post) 0 0 (fun _ => False) := by
  first | refine en_met (by decide) ?_ | refine en_metF (by decide) ?_
  intro p e s m below meth c C0 hr hlk hin hG
  have hS : va_S (gA g) s.heap s.heap [] := va_S.rf
  have hl := lv_entry ([.int i0, .int i1, .null]) (n := 3) (Nat.le_of_ble_eq_true rfl)
  rw [lg_entry_eq]
  generalize (lg_sl ([.int i0, .int i1, .null]) ++ List.replicate (3 - (lg_sl ([.int i0, .int i1, .null])).length) Slot.unset).toArray = ls at hl ⊢
  replace hl : lv_has ls 3 [(0, .int i0), (1, .int i1), (2, .null)] := hl
  obtain ⟨hx, hb, -, hown, hts, hgk⟩ := id C0
  unfold wp_P_checkIndex at hw
  refine lv_iload_n hx hb dd_P_checkIndex_0 rfl (lv_at hl 0 rfl) ?_
  refine lv_if_lt (tgt := 9) hx hb dd_P_checkIndex_1 (by decide) (fun c1 => ?_) (fun c1 => ?_)
  · replace hw := hw.1 c1
    exact wk_P_checkIndex_9 C0 hr hlk _ _ _ _ hw hG (lv_sub hl [0, 1, 2] rfl)
  · replace hw := hw.2 c1
    refine lv_iload_n hx hb dd_P_checkIndex_4 rfl (lv_at hl 0 rfl) ?_
    refine lv_iload_n hx hb dd_P_checkIndex_5 rfl (lv_at hl 1 rfl) ?_
    refine lv_icmp_lt (tgt := 16) hx hb dd_P_checkIndex_6 (by decide) (fun c2 => ?_) (fun c2 => ?_)
    · replace hw := hw.1 c2
      refine lv_iload_n hx hb dd_P_checkIndex_16 rfl (lv_at hl 0 rfl) ?_
      exact rs_i C0 hr hlk hw dd_P_checkIndex_17
    · replace hw := hw.2 c2
      exact wk_P_checkIndex_9 C0 hr hlk _ _ _ _ hw hG (lv_sub hl [0, 1, 2] rfl)
/-! java/util/Objects.checkIndex(II)I -/
theorem dd_O_checkIndex_0 : decode prog_24_method_17_code 0 = .ok (.iload_n 0, 1) := by decide +kernel
theorem dd_O_checkIndex_1 : decode prog_24_method_17_code 1 = .ok (.iload_n 1, 1) := by decide +kernel
theorem dd_O_checkIndex_2 : decode prog_24_method_17_code 2 = .ok (.aconst_null, 1) := by decide +kernel
theorem dd_O_checkIndex_3 : decode prog_24_method_17_code 3 = .ok (.invokestatic 105, 3) := by decide +kernel
theorem dd_O_checkIndex_6 : decode prog_24_method_17_code 6 = .ok (.ireturn, 1) := by decide +kernel
def wp_O_checkIndex (g : Gm) (post : Int32 → Prop) (h : Hp) (i0 : Int32) (i1 : Int32) : Prop := wp_P_checkIndex g (fun x3 => post x3) h i0 i1
set_option maxHeartbeats 4000000 in
set_option maxRecDepth 100000 in
theorem c_O_checkIndex (l : Launch) (g : Gm) (post : Int32 → Prop) (h : Hp) (i0 : Int32) (i1 : Int32) (hw : wp_O_checkIndex g post h i0 i1) : Met l (⟨"java/util/Objects", "checkIndex", "(II)I"⟩ : MethodName) (ww (⟨"java/util/Objects", "checkIndex", "(II)I"⟩ : MethodName) prog_24_method_17_code 2 (some .int)) (rmm 1 22 0 0) (va_Pc [.int i0, .int i1] (gS g h)) (vp_Si post) 0 0 (fun _ => False) := by
  first | refine en_met (by decide) ?_ | refine en_metF (by decide) ?_
  intro p e s m below meth c C0 hr hlk hin hG
  have hS : va_S (gA g) s.heap s.heap [] := va_S.rf
  have hl := lv_entry ([.int i0, .int i1]) (n := 2) (Nat.le_of_ble_eq_true rfl)
  rw [lg_entry_eq]
  generalize (lg_sl ([.int i0, .int i1]) ++ List.replicate (2 - (lg_sl ([.int i0, .int i1])).length) Slot.unset).toArray = ls at hl ⊢
  replace hl : lv_has ls 2 [(0, .int i0), (1, .int i1)] := hl
  obtain ⟨hx, hb, -, hown, hts, hgk⟩ := id C0
  unfold wp_O_checkIndex at hw
  refine lv_iload_n hx hb dd_O_checkIndex_0 rfl (lv_at hl 0 rfl) ?_
  refine lv_iload_n hx hb dd_O_checkIndex_1 rfl (lv_at hl 1 rfl) ?_
  refine lv_null hx hb dd_O_checkIndex_2 ?_
  have hw0 := hw
  clear hw
  refine cs_i (rn_S C0 hG hS (c_P_checkIndex l g _ h i0 i1 hw0) (host := "") (nest := false) (n := 3) (As := [.int i0, .int i1, .null]) (rest := []) km_136 km_135 km_138 km_137 ⟨by decide, by decide, by decide +kernel⟩ ⟨Nat.le_of_ble_eq_true rfl, Nat.le_of_ble_eq_true rfl⟩ rfl hl.1 rfl (Nat.le_of_ble_eq_true rfl) dd_O_checkIndex_3 ⟨Nat.le_refl _, Nat.le_refl _⟩) (fun x3 hw => ?_)
  exact rs_i C0 hr hlk hw dd_O_checkIndex_6
/-! java/util/ArrayList.elementData(I)Ljava/lang/Object; -/
theorem dd_A_elementData_0 : decode prog_20_method_18_code 0 = .ok (.aload_n 0, 1) := by decide +kernel
theorem dd_A_elementData_1 : decode prog_20_method_18_code 1 = .ok (.getfield 9, 3) := by decide +kernel
theorem dd_A_elementData_4 : decode prog_20_method_18_code 4 = .ok (.iload_n 1, 1) := by decide +kernel
theorem dd_A_elementData_5 : decode prog_20_method_18_code 5 = .ok (.aaload, 1) := by decide +kernel
theorem dd_A_elementData_6 : decode prog_20_method_18_code 6 = .ok (.areturn, 1) := by decide +kernel
def wp_A_elementData (g : Gm) (post : Option Nat → Prop) (h : Hp) (a0 : Nat) (i1 : Int32) : Prop := hK h a0 = 6 ∧ ∃ a2 : Nat, hR h a0 0 = some a2 ∧ hK h a2 = 24 ∧ vp_in i1 (hN h a2) ∧ ∃ a4 : Nat, hR h a2 i1.toNatClampNeg = some a4 ∧ post (some a4)
set_option maxHeartbeats 4000000 in
set_option maxRecDepth 100000 in
theorem c_A_elementData (l : Launch) (g : Gm) (post : Option Nat → Prop) (h : Hp) (a0 : Nat) (i1 : Int32) (hw : wp_A_elementData g post h a0 i1) : Met l (⟨"java/util/ArrayList", "elementData", "(I)Ljava/lang/Object;"⟩ : MethodName) (ww (⟨"java/util/ArrayList", "elementData", "(I)Ljava/lang/Object;"⟩ : MethodName) prog_20_method_18_code 2 (some (.object "java/lang/Object"))) (rmm 0 0 0 0) (va_Pc [.ref a0, .int i1] (gS g h)) (va_Sq post) 0 0 (fun _ => False) := by
  first | refine en_met (by decide) ?_ | refine en_metF (by decide) ?_
  intro p e s m below meth c C0 hr hlk hin hG
  have hS : va_S (gA g) s.heap s.heap [] := va_S.rf
  have hl := lv_entry ([.ref a0, .int i1]) (n := 2) (Nat.le_of_ble_eq_true rfl)
  rw [lg_entry_eq]
  generalize (lg_sl ([.ref a0, .int i1]) ++ List.replicate (2 - (lg_sl ([.ref a0, .int i1])).length) Slot.unset).toArray = ls at hl ⊢
  replace hl : lv_has ls 2 [(0, .ref a0), (1, .int i1)] := hl
  obtain ⟨hx, hb, -, hown, hts, hgk⟩ := id C0
  unfold wp_A_elementData at hw
  refine lv_aload_n hx hb dd_A_elementData_0 rfl (lv_at hl 0 rfl) ?_
  obtain ⟨k1, a2, ea2, hw⟩ := hw
  refine gf_A_9 C0 hG k1 ea2 dd_A_elementData_1 ?_
  refine lv_iload_n hx hb dd_A_elementData_4 rfl (lv_at hl 1 rfl) ?_
  obtain ⟨k3, k3i, a4, ea4, hw⟩ := hw
  refine px_aald C0 hG k3 k3i dd_A_elementData_5 ?_
  rw [ea4]
  exact rs_q (v := (some a4)) C0 hr (by first | exact Or.inl ⟨_, rfl⟩ | exact Or.inr ⟨_, rfl⟩) hlk hw dd_A_elementData_6
/-! java/util/ArrayList.get(I)Ljava/lang/Object; -/
theorem dd_A_get_0 : decode prog_20_method_20_code 0 = .ok (.iload_n 1, 1) := by decide +kernel
theorem dd_A_get_1 : decode prog_20_method_20_code 1 = .ok (.aload_n 0, 1) := by decide +kernel
theorem dd_A_get_2 : decode prog_20_method_20_code 2 = .ok (.getfield 48, 3) := by decide +kernel
theorem dd_A_get_5 : decode prog_20_method_20_code 5 = .ok (.invokestatic 118, 3) := by decide +kernel
theorem dd_A_get_8 : decode prog_20_method_20_code 8 = .ok (.pop, 1) := by decide +kernel
theorem dd_A_get_9 : decode prog_20_method_20_code 9 = .ok (.aload_n 0, 1) := by decide +kernel
theorem dd_A_get_10 : decode prog_20_method_20_code 10 = .ok (.iload_n 1, 1) := by decide +kernel
theorem dd_A_get_11 : decode prog_20_method_20_code 11 = .ok (.invokevirtual 123, 3) := by decide +kernel
theorem dd_A_get_14 : decode prog_20_method_20_code 14 = .ok (.areturn, 1) := by decide +kernel
def wp_A_get (g : Gm) (post : Option Nat → Prop) (h : Hp) (a0 : Nat) (i1 : Int32) : Prop := hK h a0 = 6 ∧ wp_O_checkIndex g (fun x4 => hK h a0 = 6 ∧ wp_A_elementData g (fun r7 => post r7) h a0 i1) h i1 (hI h a0 1)
set_option maxHeartbeats 4000000 in
set_option maxRecDepth 100000 in
theorem c_A_get (l : Launch) (g : Gm) (post : Option Nat → Prop) (h : Hp) (a0 : Nat) (i1 : Int32) (hw : wp_A_get g post h a0 i1) : Met l (⟨"java/util/ArrayList", "get", "(I)Ljava/lang/Object;"⟩ : MethodName) (ww (⟨"java/util/ArrayList", "get", "(I)Ljava/lang/Object;"⟩ : MethodName) prog_20_method_20_code 2 (some (.object "java/lang/Object"))) (rmm 2 43 0 0) (va_Pc [.ref a0, .int i1] (gS g h)) (va_Sq post) 0 0 (fun _ => False) := by
  first | refine en_met (by decide) ?_ | refine en_metF (by decide) ?_
  intro p e s m below meth c C0 hr hlk hin hG
  have hS : va_S (gA g) s.heap s.heap [] := va_S.rf
  have hl := lv_entry ([.ref a0, .int i1]) (n := 2) (Nat.le_of_ble_eq_true rfl)
  rw [lg_entry_eq]
  generalize (lg_sl ([.ref a0, .int i1]) ++ List.replicate (2 - (lg_sl ([.ref a0, .int i1])).length) Slot.unset).toArray = ls at hl ⊢
  replace hl : lv_has ls 2 [(0, .ref a0), (1, .int i1)] := hl
  obtain ⟨hx, hb, -, hown, hts, hgk⟩ := id C0
  unfold wp_A_get at hw
  refine lv_iload_n hx hb dd_A_get_0 rfl (lv_at hl 1 rfl) ?_
  refine lv_aload_n hx hb dd_A_get_1 rfl (lv_at hl 0 rfl) ?_
  obtain ⟨k1, hw⟩ := hw
  refine gf_A_48 C0 hG k1 dd_A_get_2 ?_
  have hw0 := hw
  clear hw
  refine cs_i (rn_S C0 hG hS (c_O_checkIndex l g _ h i1 (hI h a0 1) hw0) (host := "") (nest := false) (n := 2) (As := [.int i1, .int (hI h a0 1)]) (rest := []) km_144 km_143 km_146 km_145 ⟨by decide, by decide, by decide +kernel⟩ ⟨Nat.le_of_ble_eq_true rfl, Nat.le_of_ble_eq_true rfl⟩ rfl hl.1 rfl (Nat.le_of_ble_eq_true rfl) dd_A_get_5 ⟨Nat.le_refl _, Nat.le_refl _⟩) (fun x4 hw => ?_)
  refine lv_pop hx hb dd_A_get_8 rfl ?_
  refine lv_aload_n hx hb dd_A_get_9 rfl (lv_at hl 0 rfl) ?_
  refine lv_iload_n hx hb dd_A_get_10 rfl (lv_at hl 1 rfl) ?_
  obtain ⟨k5, hw⟩ := hw
  have hw0 := hw
  clear hw
  refine cs_q (rn_V C0 hG hS (c_A_elementData l g _ h a0 i1 hw0) (ci := 5) k5 (by decide) rfl rfl (host := "") (nest := false) (n := 1) (As := [.int i1]) (rest := []) km_140 km_139 km_141 km_142 km_17 ⟨by decide, by decide, by decide +kernel⟩ ⟨Nat.le_of_ble_eq_true rfl, Nat.le_of_ble_eq_true rfl⟩ rfl hl.1 rfl (Nat.le_of_ble_eq_true rfl) dd_A_get_11 ⟨Nat.le_refl _, Nat.le_refl _⟩) (fun r7 hw => ?_)
  exact rs_q (v := r7) C0 hr (by first | exact Or.inl ⟨_, rfl⟩ | exact Or.inr ⟨_, rfl⟩) hlk hw dd_A_get_14
/-! SegmentLocks.isSegment(I)Z -/
theorem dd_S_isSegment_0 : decode prog_1_method_17_code 0 = .ok (.iload_n 0, 1) := by decide +kernel
theorem dd_S_isSegment_1 : decode prog_1_method_17_code 1 = .ok (.ifCond .lt 13, 3) := by decide +kernel
theorem dd_S_isSegment_4 : decode prog_1_method_17_code 4 = .ok (.iload_n 0, 1) := by decide +kernel
theorem dd_S_isSegment_5 : decode prog_1_method_17_code 5 = .ok (.bipush 50, 2) := by decide +kernel
theorem dd_S_isSegment_7 : decode prog_1_method_17_code 7 = .ok (.if_icmp .ge 7, 3) := by decide +kernel
theorem dd_S_isSegment_10 : decode prog_1_method_17_code 10 = .ok (.iconst 1, 1) := by decide +kernel
theorem dd_S_isSegment_11 : decode prog_1_method_17_code 11 = .ok (.goto 4, 3) := by decide +kernel
theorem dd_S_isSegment_14 : decode prog_1_method_17_code 14 = .ok (.iconst 0, 1) := by decide +kernel
theorem dd_S_isSegment_15 : decode prog_1_method_17_code 15 = .ok (.ireturn, 1) := by decide +kernel
def wp_S_isSegment_15 (g : Gm) (post : Int32 → Prop) (h : Hp) (s0 : Int32) : Prop := zB s0 ∧ post s0
set_option maxHeartbeats 4000000 in
set_option maxRecDepth 100000 in
theorem wk_S_isSegment_15 {p : Program} {l : Launch} {e : Env} {s : State} {m : MethodId} {args : Array Value} {below : List Frame} {meth : Method} {c : Code} {g : Gm} {post : Int32 → Prop} (C0 : Cx g p s m args c prog_1_method_17_code 1 "SegmentLocks") (hr : meth.sig.returnType = (some .boolean)) (hlk : meth.locks = false) : ∀ (h : Hp) (s0 : Int32) (ls : Array Slot), wp_S_isSegment_15 g post h s0 → GH g h s.heap → lv_has ls 1 [] → W p l e (rmm 0 0 0 0) s m args below meth c s.heap [] 0 0 (MQ below (vp_Si post) args s 0 0 (fun _ => False)) (F0 m 15 ls [.int s0]) := by
  obtain ⟨hx, hb, -, hown, hts, hgk⟩ := id C0
  have hS : va_S (gA g) s.heap s.heap [] := va_S.rf
  intro h s0 ls hw hG hl
  unfold wp_S_isSegment_15 at hw
  exact rs_z C0 hr hlk hw.1.nar hw.2 dd_S_isSegment_15
def wp_S_isSegment_14 (g : Gm) (post : Int32 → Prop) (h : Hp) : Prop := wp_S_isSegment_15 g post h 0
set_option maxHeartbeats 4000000 in
set_option maxRecDepth 100000 in
theorem wk_S_isSegment_14 {p : Program} {l : Launch} {e : Env} {s : State} {m : MethodId} {args : Array Value} {below : List Frame} {meth : Method} {c : Code} {g : Gm} {post : Int32 → Prop} (C0 : Cx g p s m args c prog_1_method_17_code 1 "SegmentLocks") (hr : meth.sig.returnType = (some .boolean)) (hlk : meth.locks = false) : ∀ (h : Hp) (ls : Array Slot), wp_S_isSegment_14 g post h → GH g h s.heap → lv_has ls 1 [] → W p l e (rmm 0 0 0 0) s m args below meth c s.heap [] 0 0 (MQ below (vp_Si post) args s 0 0 (fun _ => False)) (F0 m 14 ls []) := by
  obtain ⟨hx, hb, -, hown, hts, hgk⟩ := id C0
  have hS : va_S (gA g) s.heap s.heap [] := va_S.rf
  intro h ls hw hG hl
  unfold wp_S_isSegment_14 at hw
  refine lv_iconst (v := 0) hx hb dd_S_isSegment_14 (by decide) ?_
  exact wk_S_isSegment_15 C0 hr hlk _ _ _ hw hG (lv_sub hl [] rfl)
def wp_S_isSegment (g : Gm) (post : Int32 → Prop) (h : Hp) (i0 : Int32) : Prop := ((i0 < 0 → wp_S_isSegment_14 g post h) ∧ (¬ i0 < 0 → ((50 ≤ i0 → wp_S_isSegment_14 g post h) ∧ (¬ 50 ≤ i0 → wp_S_isSegment_15 g post h 1))))
set_option maxHeartbeats 4000000 in
set_option maxRecDepth 100000 in
theorem c_S_isSegment (l : Launch) (g : Gm) (post : Int32 → Prop) (h : Hp) (i0 : Int32) (hw : wp_S_isSegment g post h i0) : Met l (⟨"SegmentLocks", "isSegment", "(I)Z"⟩ : MethodName) (ww (⟨"SegmentLocks", "isSegment", "(I)Z"⟩ : MethodName) prog_1_method_17_code 1 (some .boolean)) (rmm 0 0 0 0) (va_Pc [.int i0] (gS g h)) (vp_Si post) 0 0 (fun _ => False) := by
  first | refine en_met (by decide) ?_ | refine en_metF (by decide) ?_
  intro p e s m below meth c C0 hr hlk hin hG
  have hS : va_S (gA g) s.heap s.heap [] := va_S.rf
  have hl := lv_entry ([.int i0]) (n := 1) (Nat.le_of_ble_eq_true rfl)
  rw [lg_entry_eq]
  generalize (lg_sl ([.int i0]) ++ List.replicate (1 - (lg_sl ([.int i0])).length) Slot.unset).toArray = ls at hl ⊢
  replace hl : lv_has ls 1 [(0, .int i0)] := hl
  obtain ⟨hx, hb, -, hown, hts, hgk⟩ := id C0
  unfold wp_S_isSegment at hw
  refine lv_iload_n hx hb dd_S_isSegment_0 rfl (lv_at hl 0 rfl) ?_
  refine lv_if_lt (tgt := 14) hx hb dd_S_isSegment_1 (by decide) (fun c1 => ?_) (fun c1 => ?_)
  · replace hw := hw.1 c1
    exact wk_S_isSegment_14 C0 hr hlk _ _ hw hG (lv_sub hl [] rfl)
  · replace hw := hw.2 c1
    refine lv_iload_n hx hb dd_S_isSegment_4 rfl (lv_at hl 0 rfl) ?_
    refine lv_bipush (v := 50) hx hb dd_S_isSegment_5 (by decide) ?_
    refine lv_icmp_ge (tgt := 14) hx hb dd_S_isSegment_7 (by decide) (fun c2 => ?_) (fun c2 => ?_)
    · replace hw := hw.1 c2
      exact wk_S_isSegment_14 C0 hr hlk _ _ hw hG (lv_sub hl [] rfl)
    · replace hw := hw.2 c2
      refine lv_iconst (v := 1) hx hb dd_S_isSegment_10 (by decide) ?_
      refine lv_goto (tgt := 15) hx hb dd_S_isSegment_11 (by decide) ?_
      exact wk_S_isSegment_15 C0 hr hlk _ _ _ hw hG (lv_sub hl [] rfl)
/-! java/util/ArrayList.fastRemove([Ljava/lang/Object;I)V -/
theorem dd_A_fastRemove_0 : decode prog_20_method_39_code 0 = .ok (.aload_n 0, 1) := by decide +kernel
theorem dd_A_fastRemove_1 : decode prog_20_method_39_code 1 = .ok (.dup, 1) := by decide +kernel
theorem dd_A_fastRemove_2 : decode prog_20_method_39_code 2 = .ok (.getfield 63, 3) := by decide +kernel
theorem dd_A_fastRemove_5 : decode prog_20_method_39_code 5 = .ok (.iconst 1, 1) := by decide +kernel
theorem dd_A_fastRemove_6 : decode prog_20_method_39_code 6 = .ok (.iadd, 1) := by decide +kernel
theorem dd_A_fastRemove_7 : decode prog_20_method_39_code 7 = .ok (.putfield 63, 3) := by decide +kernel
theorem dd_A_fastRemove_10 : decode prog_20_method_39_code 10 = .ok (.aload_n 0, 1) := by decide +kernel
theorem dd_A_fastRemove_11 : decode prog_20_method_39_code 11 = .ok (.getfield 48, 3) := by decide +kernel
theorem dd_A_fastRemove_14 : decode prog_20_method_39_code 14 = .ok (.iconst 1, 1) := by decide +kernel
theorem dd_A_fastRemove_15 : decode prog_20_method_39_code 15 = .ok (.isub, 1) := by decide +kernel
theorem dd_A_fastRemove_16 : decode prog_20_method_39_code 16 = .ok (.dup, 1) := by decide +kernel
theorem dd_A_fastRemove_17 : decode prog_20_method_39_code 17 = .ok (.istore_n 3, 1) := by decide +kernel
theorem dd_A_fastRemove_18 : decode prog_20_method_39_code 18 = .ok (.iload_n 2, 1) := by decide +kernel
theorem dd_A_fastRemove_19 : decode prog_20_method_39_code 19 = .ok (.if_icmp .le 15, 3) := by decide +kernel
theorem dd_A_fastRemove_22 : decode prog_20_method_39_code 22 = .ok (.aload_n 1, 1) := by decide +kernel
theorem dd_A_fastRemove_23 : decode prog_20_method_39_code 23 = .ok (.iload_n 2, 1) := by decide +kernel
theorem dd_A_fastRemove_24 : decode prog_20_method_39_code 24 = .ok (.iconst 1, 1) := by decide +kernel
theorem dd_A_fastRemove_25 : decode prog_20_method_39_code 25 = .ok (.iadd, 1) := by decide +kernel
theorem dd_A_fastRemove_26 : decode prog_20_method_39_code 26 = .ok (.aload_n 1, 1) := by decide +kernel
theorem dd_A_fastRemove_27 : decode prog_20_method_39_code 27 = .ok (.iload_n 2, 1) := by decide +kernel
theorem dd_A_fastRemove_28 : decode prog_20_method_39_code 28 = .ok (.iload_n 3, 1) := by decide +kernel
theorem dd_A_fastRemove_29 : decode prog_20_method_39_code 29 = .ok (.iload_n 2, 1) := by decide +kernel
theorem dd_A_fastRemove_30 : decode prog_20_method_39_code 30 = .ok (.isub, 1) := by decide +kernel
theorem dd_A_fastRemove_31 : decode prog_20_method_39_code 31 = .ok (.invokestatic 112, 3) := by decide +kernel
theorem dd_A_fastRemove_34 : decode prog_20_method_39_code 34 = .ok (.aload_n 1, 1) := by decide +kernel
theorem dd_A_fastRemove_35 : decode prog_20_method_39_code 35 = .ok (.aload_n 0, 1) := by decide +kernel
theorem dd_A_fastRemove_36 : decode prog_20_method_39_code 36 = .ok (.iload_n 3, 1) := by decide +kernel
theorem dd_A_fastRemove_37 : decode prog_20_method_39_code 37 = .ok (.dup_x1, 1) := by decide +kernel
theorem dd_A_fastRemove_38 : decode prog_20_method_39_code 38 = .ok (.putfield 48, 3) := by decide +kernel
theorem dd_A_fastRemove_41 : decode prog_20_method_39_code 41 = .ok (.aconst_null, 1) := by decide +kernel
theorem dd_A_fastRemove_42 : decode prog_20_method_39_code 42 = .ok (.aastore, 1) := by decide +kernel
theorem dd_A_fastRemove_43 : decode prog_20_method_39_code 43 = .ok (.return_, 1) := by decide +kernel
def wp_A_fastRemove_34 (g : Gm) (post : Hp → Prop) (h : Hp) (v0 : Nat) (v1 : Nat) (v3 : Int32) : Prop := hK h v0 = 6 ∧ ∀ h2 : Hp, h2 = sI h v0 1 v3 → hK h2 v1 = 24 ∧ vp_in v3 (hN h2 v1) ∧ ∀ h4 : Hp, h4 = sR h2 v1 v3.toNatClampNeg none → post h4
set_option maxHeartbeats 4000000 in
set_option maxRecDepth 100000 in
theorem wk_A_fastRemove_34 {p : Program} {l : Launch} {e : Env} {s : State} {m : MethodId} {args : Array Value} {below : List Frame} {meth : Method} {c : Code} {g : Gm} {post : Hp → Prop} (C0 : Cx g p s m args c prog_20_method_39_code 4 "java/util/ArrayList") (hr : meth.sig.returnType = none) (hlk : meth.locks = false) : ∀ (h : Hp) (v0 : Nat) (v1 : Nat) (v3 : Int32) (H : Heap) (locs : List Loc) (ls : Array Slot), wp_A_fastRemove_34 g post h v0 v1 v3 → GH g h H → va_S (gA g) s.heap H locs → lv_has ls 4 [(0, .ref v0), (1, .ref v1), (3, .int v3)] → W p l e (rmm 1 60 0 0) s m args below meth c H locs 0 0 (MQ below (va_Qv post (gS g) (gA g)) args s 0 0 (gA g)) (F0 m 34 ls []) := by
  obtain ⟨hx, hb, -, hown, hts, hgk⟩ := id C0
  intro h v0 v1 v3 H locs ls hw hG hS hl
  unfold wp_A_fastRemove_34 at hw
  refine lv_aload_n hx hb dd_A_fastRemove_34 rfl (lv_at hl 1 rfl) ?_
  refine lv_aload_n hx hb dd_A_fastRemove_35 rfl (lv_at hl 0 rfl) ?_
  refine lv_iload_n hx hb dd_A_fastRemove_36 rfl (lv_at hl 2 rfl) ?_
  refine lv_dup_x1 hx hb dd_A_fastRemove_37 rfl rfl ?_
  obtain ⟨k1, hw⟩ := hw
  refine pf_A_48 C0 hG hS k1 dd_A_fastRemove_38 (fun H locs hG hS => ?_)
  replace hw := hw _ rfl
  generalize sI h v0 1 v3 = h2 at hw hG
  refine lv_null hx hb dd_A_fastRemove_41 ?_
  obtain ⟨k3, k3i, hw⟩ := hw
  refine px_aastN C0 hG hS k3 k3i dd_A_fastRemove_42 (fun H locs hG hS => ?_)
  replace hw := hw _ rfl
  generalize sR h2 v1 v3.toNatClampNeg none = h4 at hw hG
  exact re_v C0 hG hS hr hlk ⟨Nat.le_refl _, Nat.le_refl _⟩ hw dd_A_fastRemove_43
def wp_A_fastRemove (g : Gm) (post : Hp → Prop) (h : Hp) (a0 : Nat) (b1 : Nat) (i2 : Int32) : Prop := hK h a0 = 6 ∧ ∀ x2 : Int32, x2 = (hI h a0 2) + 1 → hK h a0 = 6 ∧ ∀ h4 : Hp, h4 = sI h a0 2 x2 → hK h4 a0 = 6 ∧ ∀ x6 : Int32, x6 = (hI h4 a0 1) - 1 → ((x6 ≤ i2 → wp_A_fastRemove_34 g post h4 a0 b1 x6) ∧ (¬ x6 ≤ i2 → ∀ x8 : Int32, x8 = i2 + 1 → ∀ x9 : Int32, x9 = x6 - i2 → hK h4 b1 = 24 ∧ hK h4 b1 = 24 ∧ ¬ (x8 : Int32) < 0 ∧ ¬ (i2 : Int32) < 0 ∧ ¬ (x9 : Int32) < 0 ∧ (x8 : Int32).toNatClampNeg + (x9 : Int32).toNatClampNeg ≤ hN h4 b1 ∧ (i2 : Int32).toNatClampNeg + (x9 : Int32).toNatClampNeg ≤ hN h4 b1 ∧ (∀ i y : Nat, i < (x9 : Int32).toNatClampNeg → hR h4 b1 ((x8 : Int32).toNatClampNeg + i) = some y → hK h4 y = 4) ∧ ∀ h10 : Hp, h10 = sRr h4 b1 (va_cpy (hR h4 b1) (hR h4 b1) (x8 : Int32).toNatClampNeg (i2 : Int32).toNatClampNeg (x9 : Int32).toNatClampNeg) → wp_A_fastRemove_34 g post h10 a0 b1 x6))
set_option maxHeartbeats 4000000 in
set_option maxRecDepth 100000 in
theorem c_A_fastRemove (l : Launch) (g : Gm) (post : Hp → Prop) (h : Hp) (a0 : Nat) (b1 : Nat) (i2 : Int32) (hw : wp_A_fastRemove g post h a0 b1 i2) : Met l (⟨"java/util/ArrayList", "fastRemove", "([Ljava/lang/Object;I)V"⟩ : MethodName) (ww (⟨"java/util/ArrayList", "fastRemove", "([Ljava/lang/Object;I)V"⟩ : MethodName) prog_20_method_39_code 4 none) (rmm 1 60 0 0) (va_Pc [.ref a0, .ref b1, .int i2] (gS g h)) (va_Qv post (gS g) (gA g)) 0 0 (gA g) := by
  first | refine en_met (by decide) ?_ | refine en_metF (by decide) ?_
  intro p e s m below meth c C0 hr hlk hin hG
  have hS : va_S (gA g) s.heap s.heap [] := va_S.rf
  have hl := lv_entry ([.ref a0, .ref b1, .int i2]) (n := 4) (Nat.le_of_ble_eq_true rfl)
  rw [lg_entry_eq]
  generalize (lg_sl ([.ref a0, .ref b1, .int i2]) ++ List.replicate (4 - (lg_sl ([.ref a0, .ref b1, .int i2])).length) Slot.unset).toArray = ls at hl ⊢
  replace hl : lv_has ls 4 [(0, .ref a0), (1, .ref b1), (2, .int i2)] := hl
  obtain ⟨hx, hb, -, hown, hts, hgk⟩ := id C0
  unfold wp_A_fastRemove at hw
  refine lv_aload_n hx hb dd_A_fastRemove_0 rfl (lv_at hl 0 rfl) ?_
  refine lv_dup hx hb dd_A_fastRemove_1 rfl ?_
  obtain ⟨k1, hw⟩ := hw
  refine gf_A_63 C0 hG k1 dd_A_fastRemove_2 ?_
  refine lv_iconst (v := 1) hx hb dd_A_fastRemove_5 (by decide) ?_
  refine lv_iadd hx hb dd_A_fastRemove_6 ?_
  refine lv_topi (fun x2 ex2 => ?_)
  replace hw := hw x2 ex2
  obtain ⟨k3, hw⟩ := hw
  refine pf_A_63 C0 hG hS k3 dd_A_fastRemove_7 (fun H locs hG hS => ?_)
  replace hw := hw _ rfl
  generalize sI h a0 2 x2 = h4 at hw hG
  refine lv_aload_n hx hb dd_A_fastRemove_10 rfl (lv_at hl 0 rfl) ?_
  obtain ⟨k5, hw⟩ := hw
  refine gf_A_48 C0 hG k5 dd_A_fastRemove_11 ?_
  refine lv_iconst (v := 1) hx hb dd_A_fastRemove_14 (by decide) ?_
  refine lv_isub hx hb dd_A_fastRemove_15 ?_
  refine lv_topi (fun x6 ex6 => ?_)
  replace hw := hw x6 ex6
  refine lv_dup hx hb dd_A_fastRemove_16 rfl ?_
  have hl0 := hl
  clear hl
  refine lv_istore_n (lv' := [(3, .int x6), (0, .ref a0), (1, .ref b1), (2, .int i2)]) hx hb dd_A_fastRemove_17 rfl hl0 (by decide) rfl (fun ls hl => ?_)
  refine lv_iload_n hx hb dd_A_fastRemove_18 rfl (lv_at hl 3 rfl) ?_
  refine lv_icmp_le (tgt := 34) hx hb dd_A_fastRemove_19 (by decide) (fun c7 => ?_) (fun c7 => ?_)
  · replace hw := hw.1 c7
    exact wk_A_fastRemove_34 C0 hr hlk _ _ _ _ _ _ _ hw hG hS (lv_sub hl [1, 2, 0] rfl)
  · replace hw := hw.2 c7
    refine lv_aload_n hx hb dd_A_fastRemove_22 rfl (lv_at hl 2 rfl) ?_
    refine lv_iload_n hx hb dd_A_fastRemove_23 rfl (lv_at hl 3 rfl) ?_
    refine lv_iconst (v := 1) hx hb dd_A_fastRemove_24 (by decide) ?_
    refine lv_iadd hx hb dd_A_fastRemove_25 ?_
    refine lv_topi (fun x8 ex8 => ?_)
    replace hw := hw x8 ex8
    refine lv_aload_n hx hb dd_A_fastRemove_26 rfl (lv_at hl 2 rfl) ?_
    refine lv_iload_n hx hb dd_A_fastRemove_27 rfl (lv_at hl 3 rfl) ?_
    refine lv_iload_n hx hb dd_A_fastRemove_28 rfl (lv_at hl 0 rfl) ?_
    refine lv_iload_n hx hb dd_A_fastRemove_29 rfl (lv_at hl 3 rfl) ?_
    refine lv_isub hx hb dd_A_fastRemove_30 ?_
    refine lv_topi (fun x9 ex9 => ?_)
    replace hw := hw x9 ex9
    obtain ⟨z1, z2, z3, z4, z5, z6, z7, z8, hw⟩ := hw
    refine px_copy C0 hG hS hl.1 km_154 km_87 km_88 km_89 (ci := 3) (by decide) rfl km_85 z1 z2 z3 z4 z5 z6 z7 z8 (Nat.le_of_ble_eq_true rfl) (by first | exact Nat.le_of_ble_eq_true rfl | exact (by decide +kernel : 0 + (nativeFrameWords "java/lang/System" "arraycopy" 5 + 11) ≤ 60)) dd_A_fastRemove_31 (fun H locs hG hS => ?_)
    replace hw := hw _ rfl
    generalize sRr h4 b1 (va_cpy (hR h4 b1) (hR h4 b1) (x8 : Int32).toNatClampNeg (i2 : Int32).toNatClampNeg (x9 : Int32).toNatClampNeg) = h10 at hw hG
    exact wk_A_fastRemove_34 C0 hr hlk _ _ _ _ _ _ _ hw hG hS (lv_sub hl [1, 2, 0] rfl)
/-! java/util/ArrayList.remove(I)Ljava/lang/Object; -/
theorem dd_A_remove_0 : decode prog_20_method_29_code 0 = .ok (.iload_n 1, 1) := by decide +kernel
theorem dd_A_remove_1 : decode prog_20_method_29_code 1 = .ok (.aload_n 0, 1) := by decide +kernel
theorem dd_A_remove_2 : decode prog_20_method_29_code 2 = .ok (.getfield 48, 3) := by decide +kernel
theorem dd_A_remove_5 : decode prog_20_method_29_code 5 = .ok (.invokestatic 118, 3) := by decide +kernel
theorem dd_A_remove_8 : decode prog_20_method_29_code 8 = .ok (.pop, 1) := by decide +kernel
theorem dd_A_remove_9 : decode prog_20_method_29_code 9 = .ok (.aload_n 0, 1) := by decide +kernel
theorem dd_A_remove_10 : decode prog_20_method_29_code 10 = .ok (.getfield 9, 3) := by decide +kernel
theorem dd_A_remove_13 : decode prog_20_method_29_code 13 = .ok (.astore_n 2, 1) := by decide +kernel
theorem dd_A_remove_14 : decode prog_20_method_29_code 14 = .ok (.aload_n 2, 1) := by decide +kernel
theorem dd_A_remove_15 : decode prog_20_method_29_code 15 = .ok (.iload_n 1, 1) := by decide +kernel
theorem dd_A_remove_16 : decode prog_20_method_29_code 16 = .ok (.aaload, 1) := by decide +kernel
theorem dd_A_remove_17 : decode prog_20_method_29_code 17 = .ok (.astore_n 3, 1) := by decide +kernel
theorem dd_A_remove_18 : decode prog_20_method_29_code 18 = .ok (.aload_n 0, 1) := by decide +kernel
theorem dd_A_remove_19 : decode prog_20_method_29_code 19 = .ok (.aload_n 2, 1) := by decide +kernel
theorem dd_A_remove_20 : decode prog_20_method_29_code 20 = .ok (.iload_n 1, 1) := by decide +kernel
theorem dd_A_remove_21 : decode prog_20_method_29_code 21 = .ok (.invokevirtual 144, 3) := by decide +kernel
theorem dd_A_remove_24 : decode prog_20_method_29_code 24 = .ok (.aload_n 3, 1) := by decide +kernel
theorem dd_A_remove_25 : decode prog_20_method_29_code 25 = .ok (.areturn, 1) := by decide +kernel
def wp_A_remove (g : Gm) (post : Option Nat → Hp → Prop) (h : Hp) (a0 : Nat) (i1 : Int32) : Prop := hK h a0 = 6 ∧ wp_O_checkIndex g (fun x4 => hK h a0 = 6 ∧ ∃ a6 : Nat, hR h a0 0 = some a6 ∧ hK h a6 = 24 ∧ vp_in i1 (hN h a6) ∧ ∃ a8 : Nat, hR h a6 i1.toNatClampNeg = some a8 ∧ hK h a0 = 6 ∧ wp_A_fastRemove g (fun h10 => post (some a8) h10) h a0 a6 i1) h i1 (hI h a0 1)
set_option maxHeartbeats 4000000 in
set_option maxRecDepth 100000 in
theorem c_A_remove (l : Launch) (g : Gm) (post : Option Nat → Hp → Prop) (h : Hp) (a0 : Nat) (i1 : Int32) (hw : wp_A_remove g post h a0 i1) : Met l (⟨"java/util/ArrayList", "remove", "(I)Ljava/lang/Object;"⟩ : MethodName) (ww (⟨"java/util/ArrayList", "remove", "(I)Ljava/lang/Object;"⟩ : MethodName) prog_20_method_29_code 4 (some (.object "java/lang/Object"))) (rmm 2 83 0 0) (va_Pc [.ref a0, .int i1] (gS g h)) (va_Qq post (gS g) (gA g)) 0 0 (gA g) := by
  first | refine en_met (by decide) ?_ | refine en_metF (by decide) ?_
  intro p e s m below meth c C0 hr hlk hin hG
  have hS : va_S (gA g) s.heap s.heap [] := va_S.rf
  have hl := lv_entry ([.ref a0, .int i1]) (n := 4) (Nat.le_of_ble_eq_true rfl)
  rw [lg_entry_eq]
  generalize (lg_sl ([.ref a0, .int i1]) ++ List.replicate (4 - (lg_sl ([.ref a0, .int i1])).length) Slot.unset).toArray = ls at hl ⊢
  replace hl : lv_has ls 4 [(0, .ref a0), (1, .int i1)] := hl
  obtain ⟨hx, hb, -, hown, hts, hgk⟩ := id C0
  unfold wp_A_remove at hw
  refine lv_iload_n hx hb dd_A_remove_0 rfl (lv_at hl 1 rfl) ?_
  refine lv_aload_n hx hb dd_A_remove_1 rfl (lv_at hl 0 rfl) ?_
  obtain ⟨k1, hw⟩ := hw
  refine gf_A_48 C0 hG k1 dd_A_remove_2 ?_
  have hw0 := hw
  clear hw
  refine cs_i (rn_S C0 hG hS (c_O_checkIndex l g _ h i1 (hI h a0 1) hw0) (host := "") (nest := false) (n := 2) (As := [.int i1, .int (hI h a0 1)]) (rest := []) km_144 km_143 km_146 km_145 ⟨by decide, by decide, by decide +kernel⟩ ⟨Nat.le_of_ble_eq_true rfl, Nat.le_of_ble_eq_true rfl⟩ rfl hl.1 rfl (Nat.le_of_ble_eq_true rfl) dd_A_remove_5 ⟨Nat.le_refl _, Nat.le_refl _⟩) (fun x4 hw => ?_)
  refine lv_pop hx hb dd_A_remove_8 rfl ?_
  refine lv_aload_n hx hb dd_A_remove_9 rfl (lv_at hl 0 rfl) ?_
  obtain ⟨k5, a6, ea6, hw⟩ := hw
  refine gf_A_9 C0 hG k5 ea6 dd_A_remove_10 ?_
  have hl0 := hl
  clear hl
  refine lv_astore_n (lv' := [(2, .ref a6), (0, .ref a0), (1, .int i1)]) hx hb dd_A_remove_13 rfl hl0 (by decide) rfl (fun ls hl => ?_)
  refine lv_aload_n hx hb dd_A_remove_14 rfl (lv_at hl 0 rfl) ?_
  refine lv_iload_n hx hb dd_A_remove_15 rfl (lv_at hl 2 rfl) ?_
  obtain ⟨k7, k7i, a8, ea8, hw⟩ := hw
  refine px_aald C0 hG k7 k7i dd_A_remove_16 ?_
  rw [ea8]
  have hl0 := hl
  clear hl
  refine lv_astore_n (lv' := [(3, .ref a8), (2, .ref a6), (0, .ref a0), (1, .int i1)]) hx hb dd_A_remove_17 rfl hl0 (by decide) rfl (fun ls hl => ?_)
  refine lv_aload_n hx hb dd_A_remove_18 rfl (lv_at hl 2 rfl) ?_
  refine lv_aload_n hx hb dd_A_remove_19 rfl (lv_at hl 1 rfl) ?_
  refine lv_iload_n hx hb dd_A_remove_20 rfl (lv_at hl 3 rfl) ?_
  obtain ⟨k9, hw⟩ := hw
  refine ca_v hS (rn_V C0 hG hS (c_A_fastRemove l g _ h a0 a6 i1 hw) (ci := 5) k9 (by decide) rfl rfl (host := "") (nest := false) (n := 2) (As := [.ref a6, .int i1]) (rest := []) km_156 km_155 km_157 km_158 km_17 ⟨by decide, by decide, by decide +kernel⟩ ⟨Nat.le_of_ble_eq_true rfl, Nat.le_of_ble_eq_true rfl⟩ rfl hl.1 rfl (Nat.le_of_ble_eq_true rfl) dd_A_remove_21 ⟨Nat.le_refl _, Nat.le_refl _⟩) (fun h10 H locs hw hG hS => ?_)
  refine lv_aload_n hx hb dd_A_remove_24 rfl (lv_at hl 0 rfl) ?_
  exact re_q (v := (some a8)) C0 hG hS hr (by first | exact Or.inl ⟨_, rfl⟩ | exact Or.inr ⟨_, rfl⟩) hlk ⟨Nat.le_refl _, Nat.le_refl _⟩ hw dd_A_remove_25
/-! SegmentLocks.areTogether(II)Z -/
theorem dd_S_areTogether_0 : decode prog_1_method_18_code 0 = .ok (.iload_n 0, 1) := by decide +kernel
theorem dd_S_areTogether_1 : decode prog_1_method_18_code 1 = .ok (.iconst (-1), 1) := by decide +kernel
theorem dd_S_areTogether_2 : decode prog_1_method_18_code 2 = .ok (.if_icmp .eq 8, 3) := by decide +kernel
theorem dd_S_areTogether_5 : decode prog_1_method_18_code 5 = .ok (.iload_n 1, 1) := by decide +kernel
theorem dd_S_areTogether_6 : decode prog_1_method_18_code 6 = .ok (.iconst (-1), 1) := by decide +kernel
theorem dd_S_areTogether_7 : decode prog_1_method_18_code 7 = .ok (.if_icmp .ne 5, 3) := by decide +kernel
theorem dd_S_areTogether_10 : decode prog_1_method_18_code 10 = .ok (.iconst 1, 1) := by decide +kernel
theorem dd_S_areTogether_11 : decode prog_1_method_18_code 11 = .ok (.ireturn, 1) := by decide +kernel
theorem dd_S_areTogether_12 : decode prog_1_method_18_code 12 = .ok (.iload_n 0, 1) := by decide +kernel
theorem dd_S_areTogether_13 : decode prog_1_method_18_code 13 = .ok (.iconst 2, 1) := by decide +kernel
theorem dd_S_areTogether_14 : decode prog_1_method_18_code 14 = .ok (.if_icmp .eq 20, 3) := by decide +kernel
theorem dd_S_areTogether_17 : decode prog_1_method_18_code 17 = .ok (.iload_n 1, 1) := by decide +kernel
theorem dd_S_areTogether_18 : decode prog_1_method_18_code 18 = .ok (.iconst 2, 1) := by decide +kernel
theorem dd_S_areTogether_19 : decode prog_1_method_18_code 19 = .ok (.if_icmp .eq 15, 3) := by decide +kernel
theorem dd_S_areTogether_22 : decode prog_1_method_18_code 22 = .ok (.iload_n 0, 1) := by decide +kernel
theorem dd_S_areTogether_23 : decode prog_1_method_18_code 23 = .ok (.ifCond .eq 7, 3) := by decide +kernel
theorem dd_S_areTogether_26 : decode prog_1_method_18_code 26 = .ok (.iload_n 1, 1) := by decide +kernel
theorem dd_S_areTogether_27 : decode prog_1_method_18_code 27 = .ok (.ifCond .ne 7, 3) := by decide +kernel
theorem dd_S_areTogether_30 : decode prog_1_method_18_code 30 = .ok (.iconst 1, 1) := by decide +kernel
theorem dd_S_areTogether_31 : decode prog_1_method_18_code 31 = .ok (.goto 4, 3) := by decide +kernel
theorem dd_S_areTogether_34 : decode prog_1_method_18_code 34 = .ok (.iconst 0, 1) := by decide +kernel
theorem dd_S_areTogether_35 : decode prog_1_method_18_code 35 = .ok (.ireturn, 1) := by decide +kernel
def wp_S_areTogether_10 (g : Gm) (post : Int32 → Prop) (h : Hp) : Prop := zB 1 ∧ post 1
set_option maxHeartbeats 4000000 in
set_option maxRecDepth 100000 in
theorem wk_S_areTogether_10 {p : Program} {l : Launch} {e : Env} {s : State} {m : MethodId} {args : Array Value} {below : List Frame} {meth : Method} {c : Code} {g : Gm} {post : Int32 → Prop} (C0 : Cx g p s m args c prog_1_method_18_code 2 "SegmentLocks") (hr : meth.sig.returnType = (some .boolean)) (hlk : meth.locks = false) : ∀ (h : Hp) (ls : Array Slot), wp_S_areTogether_10 g post h → GH g h s.heap → lv_has ls 2 [] → W p l e (rmm 0 0 0 0) s m args below meth c s.heap [] 0 0 (MQ below (vp_Si post) args s 0 0 (fun _ => False)) (F0 m 10 ls []) := by
  obtain ⟨hx, hb, -, hown, hts, hgk⟩ := id C0
  have hS : va_S (gA g) s.heap s.heap [] := va_S.rf
  intro h ls hw hG hl
  unfold wp_S_areTogether_10 at hw
  refine lv_iconst (v := 1) hx hb dd_S_areTogether_10 (by decide) ?_
  exact rs_z C0 hr hlk hw.1.nar hw.2 dd_S_areTogether_11
def wp_S_areTogether_35 (g : Gm) (post : Int32 → Prop) (h : Hp) (s0 : Int32) : Prop := zB s0 ∧ post s0
set_option maxHeartbeats 4000000 in
set_option maxRecDepth 100000 in
theorem wk_S_areTogether_35 {p : Program} {l : Launch} {e : Env} {s : State} {m : MethodId} {args : Array Value} {below : List Frame} {meth : Method} {c : Code} {g : Gm} {post : Int32 → Prop} (C0 : Cx g p s m args c prog_1_method_18_code 2 "SegmentLocks") (hr : meth.sig.returnType = (some .boolean)) (hlk : meth.locks = false) : ∀ (h : Hp) (s0 : Int32) (ls : Array Slot), wp_S_areTogether_35 g post h s0 → GH g h s.heap → lv_has ls 2 [] → W p l e (rmm 0 0 0 0) s m args below meth c s.heap [] 0 0 (MQ below (vp_Si post) args s 0 0 (fun _ => False)) (F0 m 35 ls [.int s0]) := by
  obtain ⟨hx, hb, -, hown, hts, hgk⟩ := id C0
  have hS : va_S (gA g) s.heap s.heap [] := va_S.rf
  intro h s0 ls hw hG hl
  unfold wp_S_areTogether_35 at hw
  exact rs_z C0 hr hlk hw.1.nar hw.2 dd_S_areTogether_35
def wp_S_areTogether_34 (g : Gm) (post : Int32 → Prop) (h : Hp) : Prop := wp_S_areTogether_35 g post h 0
set_option maxHeartbeats 4000000 in
set_option maxRecDepth 100000 in
theorem wk_S_areTogether_34 {p : Program} {l : Launch} {e : Env} {s : State} {m : MethodId} {args : Array Value} {below : List Frame} {meth : Method} {c : Code} {g : Gm} {post : Int32 → Prop} (C0 : Cx g p s m args c prog_1_method_18_code 2 "SegmentLocks") (hr : meth.sig.returnType = (some .boolean)) (hlk : meth.locks = false) : ∀ (h : Hp) (ls : Array Slot), wp_S_areTogether_34 g post h → GH g h s.heap → lv_has ls 2 [] → W p l e (rmm 0 0 0 0) s m args below meth c s.heap [] 0 0 (MQ below (vp_Si post) args s 0 0 (fun _ => False)) (F0 m 34 ls []) := by
  obtain ⟨hx, hb, -, hown, hts, hgk⟩ := id C0
  have hS : va_S (gA g) s.heap s.heap [] := va_S.rf
  intro h ls hw hG hl
  unfold wp_S_areTogether_34 at hw
  refine lv_iconst (v := 0) hx hb dd_S_areTogether_34 (by decide) ?_
  exact wk_S_areTogether_35 C0 hr hlk _ _ _ hw hG (lv_sub hl [] rfl)
def wp_S_areTogether_30 (g : Gm) (post : Int32 → Prop) (h : Hp) : Prop := wp_S_areTogether_35 g post h 1
set_option maxHeartbeats 4000000 in
set_option maxRecDepth 100000 in
theorem wk_S_areTogether_30 {p : Program} {l : Launch} {e : Env} {s : State} {m : MethodId} {args : Array Value} {below : List Frame} {meth : Method} {c : Code} {g : Gm} {post : Int32 → Prop} (C0 : Cx g p s m args c prog_1_method_18_code 2 "SegmentLocks") (hr : meth.sig.returnType = (some .boolean)) (hlk : meth.locks = false) : ∀ (h : Hp) (ls : Array Slot), wp_S_areTogether_30 g post h → GH g h s.heap → lv_has ls 2 [] → W p l e (rmm 0 0 0 0) s m args below meth c s.heap [] 0 0 (MQ below (vp_Si post) args s 0 0 (fun _ => False)) (F0 m 30 ls []) := by
  obtain ⟨hx, hb, -, hown, hts, hgk⟩ := id C0
  have hS : va_S (gA g) s.heap s.heap [] := va_S.rf
  intro h ls hw hG hl
  unfold wp_S_areTogether_30 at hw
  refine lv_iconst (v := 1) hx hb dd_S_areTogether_30 (by decide) ?_
  refine lv_goto (tgt := 35) hx hb dd_S_areTogether_31 (by decide) ?_
  exact wk_S_areTogether_35 C0 hr hlk _ _ _ hw hG (lv_sub hl [] rfl)
def wp_S_areTogether (g : Gm) (post : Int32 → Prop) (h : Hp) (i0 : Int32) (i1 : Int32) : Prop := ((i0 = (-1) → wp_S_areTogether_10 g post h) ∧ (¬ i0 = (-1) → ((¬ i1 = (-1) → ((i0 = 2 → wp_S_areTogether_34 g post h) ∧ (¬ i0 = 2 → ((i1 = 2 → wp_S_areTogether_34 g post h) ∧ (¬ i1 = 2 → ((i0 = 0 → wp_S_areTogether_30 g post h) ∧ (¬ i0 = 0 → ((¬ i1 = 0 → wp_S_areTogether_34 g post h) ∧ (i1 = 0 → wp_S_areTogether_30 g post h))))))))) ∧ (i1 = (-1) → wp_S_areTogether_10 g post h))))
set_option maxHeartbeats 4000000 in
set_option maxRecDepth 100000 in
theorem c_S_areTogether (l : Launch) (g : Gm) (post : Int32 → Prop) (h : Hp) (i0 : Int32) (i1 : Int32) (hw : wp_S_areTogether g post h i0 i1) : Met l (⟨"SegmentLocks", "areTogether", "(II)Z"⟩ : MethodName) (ww (⟨"SegmentLocks", "areTogether", "(II)Z"⟩ : MethodName) prog_1_method_18_code 2 (some .boolean)) (rmm 0 0 0 0) (va_Pc [.int i0, .int i1] (gS g h)) (vp_Si post) 0 0 (fun _ => False) := by
  first | refine en_met (by decide) ?_ | refine en_metF (by decide) ?_
  intro p e s m below meth c C0 hr hlk hin hG
  have hS : va_S (gA g) s.heap s.heap [] := va_S.rf
  have hl := lv_entry ([.int i0, .int i1]) (n := 2) (Nat.le_of_ble_eq_true rfl)
  rw [lg_entry_eq]
  generalize (lg_sl ([.int i0, .int i1]) ++ List.replicate (2 - (lg_sl ([.int i0, .int i1])).length) Slot.unset).toArray = ls at hl ⊢
  replace hl : lv_has ls 2 [(0, .int i0), (1, .int i1)] := hl
  obtain ⟨hx, hb, -, hown, hts, hgk⟩ := id C0
  unfold wp_S_areTogether at hw
  refine lv_iload_n hx hb dd_S_areTogether_0 rfl (lv_at hl 0 rfl) ?_
  refine lv_iconst (v := (-1)) hx hb dd_S_areTogether_1 (by decide) ?_
  refine lv_icmp_eq (tgt := 10) hx hb dd_S_areTogether_2 (by decide) (fun c1 => ?_) (fun c1 => ?_)
  · replace hw := hw.1 c1
    exact wk_S_areTogether_10 C0 hr hlk _ _ hw hG (lv_sub hl [] rfl)
  · replace hw := hw.2 c1
    refine lv_iload_n hx hb dd_S_areTogether_5 rfl (lv_at hl 1 rfl) ?_
    refine lv_iconst (v := (-1)) hx hb dd_S_areTogether_6 (by decide) ?_
    refine lv_icmp_ne (tgt := 12) hx hb dd_S_areTogether_7 (by decide) (fun c2 => ?_) (fun c2 => ?_)
    · replace hw := hw.1 c2
      refine lv_iload_n hx hb dd_S_areTogether_12 rfl (lv_at hl 0 rfl) ?_
      refine lv_iconst (v := 2) hx hb dd_S_areTogether_13 (by decide) ?_
      refine lv_icmp_eq (tgt := 34) hx hb dd_S_areTogether_14 (by decide) (fun c3 => ?_) (fun c3 => ?_)
      · replace hw := hw.1 c3
        exact wk_S_areTogether_34 C0 hr hlk _ _ hw hG (lv_sub hl [] rfl)
      · replace hw := hw.2 c3
        refine lv_iload_n hx hb dd_S_areTogether_17 rfl (lv_at hl 1 rfl) ?_
        refine lv_iconst (v := 2) hx hb dd_S_areTogether_18 (by decide) ?_
        refine lv_icmp_eq (tgt := 34) hx hb dd_S_areTogether_19 (by decide) (fun c4 => ?_) (fun c4 => ?_)
        · replace hw := hw.1 c4
          exact wk_S_areTogether_34 C0 hr hlk _ _ hw hG (lv_sub hl [] rfl)
        · replace hw := hw.2 c4
          refine lv_iload_n hx hb dd_S_areTogether_22 rfl (lv_at hl 0 rfl) ?_
          refine lv_if_eq (tgt := 30) hx hb dd_S_areTogether_23 (by decide) (fun c5 => ?_) (fun c5 => ?_)
          · replace hw := hw.1 c5
            exact wk_S_areTogether_30 C0 hr hlk _ _ hw hG (lv_sub hl [] rfl)
          · replace hw := hw.2 c5
            refine lv_iload_n hx hb dd_S_areTogether_26 rfl (lv_at hl 1 rfl) ?_
            refine lv_if_ne (tgt := 34) hx hb dd_S_areTogether_27 (by decide) (fun c6 => ?_) (fun c6 => ?_)
            · replace hw := hw.1 c6
              exact wk_S_areTogether_34 C0 hr hlk _ _ hw hG (lv_sub hl [] rfl)
            · replace hw := hw.2 c6
              exact wk_S_areTogether_30 C0 hr hlk _ _ hw hG (lv_sub hl [] rfl)
    · replace hw := hw.2 c2
      exact wk_S_areTogether_10 C0 hr hlk _ _ hw hG (lv_sub hl [] rfl)
/-! java/util/ArrayList.rangeCheckForAdd(I)V -/
theorem dd_A_rangeCheckForAdd_0 : decode prog_20_method_45_code 0 = .ok (.iload_n 1, 1) := by decide +kernel
theorem dd_A_rangeCheckForAdd_1 : decode prog_20_method_45_code 1 = .ok (.aload_n 0, 1) := by decide +kernel
theorem dd_A_rangeCheckForAdd_2 : decode prog_20_method_45_code 2 = .ok (.getfield 48, 3) := by decide +kernel
theorem dd_A_rangeCheckForAdd_5 : decode prog_20_method_45_code 5 = .ok (.if_icmp .gt 7, 3) := by decide +kernel
theorem dd_A_rangeCheckForAdd_8 : decode prog_20_method_45_code 8 = .ok (.iload_n 1, 1) := by decide +kernel
theorem dd_A_rangeCheckForAdd_9 : decode prog_20_method_45_code 9 = .ok (.ifCond .ge 16, 3) := by decide +kernel
theorem dd_A_rangeCheckForAdd_25 : decode prog_20_method_45_code 25 = .ok (.return_, 1) := by decide +kernel
def wp_A_rangeCheckForAdd_12 (g : Gm) (post : Prop) (h : Hp) : Prop := False
set_option maxHeartbeats 4000000 in
set_option maxRecDepth 100000 in
theorem wk_A_rangeCheckForAdd_12 {p : Program} {l : Launch} {e : Env} {s : State} {m : MethodId} {args : Array Value} {below : List Frame} {meth : Method} {c : Code} {g : Gm} {post : Prop} (C0 : Cx g p s m args c prog_20_method_45_code 2 "java/util/ArrayList") (hr : meth.sig.returnType = none) (hlk : meth.locks = false) : ∀ (h : Hp) (ls : Array Slot), wp_A_rangeCheckForAdd_12 g post h → GH g h s.heap → lv_has ls 2 [] → W p l e (rmm 0 0 0 0) s m args below meth c s.heap [] 0 0 (MQ below (vs_V post) args s 0 0 (fun _ => False)) (F0 m 12 ls []) := by
  obtain ⟨hx, hb, -, hown, hts, hgk⟩ := id C0
  have hS : va_S (gA g) s.heap s.heap [] := va_S.rf
  intro h ls hw hG hl
  unfold wp_A_rangeCheckForAdd_12 at hw
  exact hw.elim
def wp_A_rangeCheckForAdd (g : Gm) (post : Prop) (h : Hp) (a0 : Nat) (i1 : Int32) : Prop := hK h a0 = 6 ∧ (((hI h a0 1) < i1 → wp_A_rangeCheckForAdd_12 g post h) ∧ (¬ (hI h a0 1) < i1 → ((0 ≤ i1 → post) ∧ (¬ 0 ≤ i1 → wp_A_rangeCheckForAdd_12 g post h))))
set_option maxHeartbeats 4000000 in
set_option maxRecDepth 100000 in
theorem c_A_rangeCheckForAdd (l : Launch) (g : Gm) (post : Prop) (h : Hp) (a0 : Nat) (i1 : Int32) (hw : wp_A_rangeCheckForAdd g post h a0 i1) : Met l (⟨"java/util/ArrayList", "rangeCheckForAdd", "(I)V"⟩ : MethodName) (ww (⟨"java/util/ArrayList", "rangeCheckForAdd", "(I)V"⟩ : MethodName) prog_20_method_45_code 2 none) (rmm 0 0 0 0) (va_Pc [.ref a0, .int i1] (gS g h)) (vs_V post) 0 0 (fun _ => False) := by
  first | refine en_met (by decide) ?_ | refine en_metF (by decide) ?_
  intro p e s m below meth c C0 hr hlk hin hG
  have hS : va_S (gA g) s.heap s.heap [] := va_S.rf
  have hl := lv_entry ([.ref a0, .int i1]) (n := 2) (Nat.le_of_ble_eq_true rfl)
  rw [lg_entry_eq]
  generalize (lg_sl ([.ref a0, .int i1]) ++ List.replicate (2 - (lg_sl ([.ref a0, .int i1])).length) Slot.unset).toArray = ls at hl ⊢
  replace hl : lv_has ls 2 [(0, .ref a0), (1, .int i1)] := hl
  obtain ⟨hx, hb, -, hown, hts, hgk⟩ := id C0
  unfold wp_A_rangeCheckForAdd at hw
  refine lv_iload_n hx hb dd_A_rangeCheckForAdd_0 rfl (lv_at hl 1 rfl) ?_
  refine lv_aload_n hx hb dd_A_rangeCheckForAdd_1 rfl (lv_at hl 0 rfl) ?_
  obtain ⟨k1, hw⟩ := hw
  refine gf_A_48 C0 hG k1 dd_A_rangeCheckForAdd_2 ?_
  refine lv_icmp_gt (tgt := 12) hx hb dd_A_rangeCheckForAdd_5 (by decide) (fun c2 => ?_) (fun c2 => ?_)
  · replace hw := hw.1 c2
    exact wk_A_rangeCheckForAdd_12 C0 hr hlk _ _ hw hG (lv_sub hl [] rfl)
  · replace hw := hw.2 c2
    refine lv_iload_n hx hb dd_A_rangeCheckForAdd_8 rfl (lv_at hl 1 rfl) ?_
    refine lv_if_ge (tgt := 25) hx hb dd_A_rangeCheckForAdd_9 (by decide) (fun c3 => ?_) (fun c3 => ?_)
    · replace hw := hw.1 c3
      exact rs_v C0 hr hlk hw dd_A_rangeCheckForAdd_25
    · replace hw := hw.2 c3
      exact wk_A_rangeCheckForAdd_12 C0 hr hlk _ _ hw hG (lv_sub hl [] rfl)
/-! java/util/ArrayList.add(ILjava/lang/Object;)V -/
theorem dd_A_add3_0 : decode prog_20_method_26_code 0 = .ok (.aload_n 0, 1) := by decide +kernel
theorem dd_A_add3_1 : decode prog_20_method_26_code 1 = .ok (.iload_n 1, 1) := by decide +kernel
theorem dd_A_add3_2 : decode prog_20_method_26_code 2 = .ok (.invokevirtual 135, 3) := by decide +kernel
theorem dd_A_add3_5 : decode prog_20_method_26_code 5 = .ok (.aload_n 0, 1) := by decide +kernel
theorem dd_A_add3_6 : decode prog_20_method_26_code 6 = .ok (.dup, 1) := by decide +kernel
theorem dd_A_add3_7 : decode prog_20_method_26_code 7 = .ok (.getfield 63, 3) := by decide +kernel
theorem dd_A_add3_10 : decode prog_20_method_26_code 10 = .ok (.iconst 1, 1) := by decide +kernel
theorem dd_A_add3_11 : decode prog_20_method_26_code 11 = .ok (.iadd, 1) := by decide +kernel
theorem dd_A_add3_12 : decode prog_20_method_26_code 12 = .ok (.putfield 63, 3) := by decide +kernel
theorem dd_A_add3_15 : decode prog_20_method_26_code 15 = .ok (.aload_n 0, 1) := by decide +kernel
theorem dd_A_add3_16 : decode prog_20_method_26_code 16 = .ok (.getfield 48, 3) := by decide +kernel
theorem dd_A_add3_19 : decode prog_20_method_26_code 19 = .ok (.dup, 1) := by decide +kernel
theorem dd_A_add3_20 : decode prog_20_method_26_code 20 = .ok (.istore_n 3, 1) := by decide +kernel
theorem dd_A_add3_21 : decode prog_20_method_26_code 21 = .ok (.aload_n 0, 1) := by decide +kernel
theorem dd_A_add3_22 : decode prog_20_method_26_code 22 = .ok (.getfield 9, 3) := by decide +kernel
theorem dd_A_add3_25 : decode prog_20_method_26_code 25 = .ok (.dup, 1) := by decide +kernel
theorem dd_A_add3_26 : decode prog_20_method_26_code 26 = .ok (.astore 4, 2) := by decide +kernel
theorem dd_A_add3_28 : decode prog_20_method_26_code 28 = .ok (.arraylength, 1) := by decide +kernel
theorem dd_A_add3_29 : decode prog_20_method_26_code 29 = .ok (.if_icmp .ne 9, 3) := by decide +kernel
theorem dd_A_add3_32 : decode prog_20_method_26_code 32 = .ok (.aload_n 0, 1) := by decide +kernel
theorem dd_A_add3_33 : decode prog_20_method_26_code 33 = .ok (.invokevirtual 129, 3) := by decide +kernel
theorem dd_A_add3_36 : decode prog_20_method_26_code 36 = .ok (.astore 4, 2) := by decide +kernel
theorem dd_A_add3_38 : decode prog_20_method_26_code 38 = .ok (.aload 4, 2) := by decide +kernel
theorem dd_A_add3_40 : decode prog_20_method_26_code 40 = .ok (.iload_n 1, 1) := by decide +kernel
theorem dd_A_add3_41 : decode prog_20_method_26_code 41 = .ok (.aload 4, 2) := by decide +kernel
theorem dd_A_add3_43 : decode prog_20_method_26_code 43 = .ok (.iload_n 1, 1) := by decide +kernel
theorem dd_A_add3_44 : decode prog_20_method_26_code 44 = .ok (.iconst 1, 1) := by decide +kernel
theorem dd_A_add3_45 : decode prog_20_method_26_code 45 = .ok (.iadd, 1) := by decide +kernel
theorem dd_A_add3_46 : decode prog_20_method_26_code 46 = .ok (.iload_n 3, 1) := by decide +kernel
theorem dd_A_add3_47 : decode prog_20_method_26_code 47 = .ok (.iload_n 1, 1) := by decide +kernel
theorem dd_A_add3_48 : decode prog_20_method_26_code 48 = .ok (.isub, 1) := by decide +kernel
theorem dd_A_add3_49 : decode prog_20_method_26_code 49 = .ok (.invokestatic 112, 3) := by decide +kernel
theorem dd_A_add3_52 : decode prog_20_method_26_code 52 = .ok (.aload 4, 2) := by decide +kernel
theorem dd_A_add3_54 : decode prog_20_method_26_code 54 = .ok (.iload_n 1, 1) := by decide +kernel
theorem dd_A_add3_55 : decode prog_20_method_26_code 55 = .ok (.aload_n 2, 1) := by decide +kernel
theorem dd_A_add3_56 : decode prog_20_method_26_code 56 = .ok (.aastore, 1) := by decide +kernel
theorem dd_A_add3_57 : decode prog_20_method_26_code 57 = .ok (.aload_n 0, 1) := by decide +kernel
theorem dd_A_add3_58 : decode prog_20_method_26_code 58 = .ok (.iload_n 3, 1) := by decide +kernel
theorem dd_A_add3_59 : decode prog_20_method_26_code 59 = .ok (.iconst 1, 1) := by decide +kernel
theorem dd_A_add3_60 : decode prog_20_method_26_code 60 = .ok (.iadd, 1) := by decide +kernel
theorem dd_A_add3_61 : decode prog_20_method_26_code 61 = .ok (.putfield 48, 3) := by decide +kernel
theorem dd_A_add3_64 : decode prog_20_method_26_code 64 = .ok (.return_, 1) := by decide +kernel
def wp_A_add3_38 (g : Gm) (post : Hp → Prop) (mc ms : Nat) (h : Hp) (kc ks : Nat) (v0 : Nat) (v1 : Int32) (v2 : Nat) (v3 : Int32) (v4 : Option Nat) : Prop := ∀ x1 : Int32, x1 = v1 + 1 → ∀ x2 : Int32, x2 = v3 - v1 → ∃ a3 : Nat, v4 = some a3 ∧ hK h a3 = 24 ∧ hK h a3 = 24 ∧ ¬ (v1 : Int32) < 0 ∧ ¬ (x1 : Int32) < 0 ∧ ¬ (x2 : Int32) < 0 ∧ (v1 : Int32).toNatClampNeg + (x2 : Int32).toNatClampNeg ≤ hN h a3 ∧ (x1 : Int32).toNatClampNeg + (x2 : Int32).toNatClampNeg ≤ hN h a3 ∧ (∀ i y : Nat, i < (x2 : Int32).toNatClampNeg → hR h a3 ((v1 : Int32).toNatClampNeg + i) = some y → hK h y = 4) ∧ ∀ h4 : Hp, h4 = sRr h a3 (va_cpy (hR h a3) (hR h a3) (v1 : Int32).toNatClampNeg (x1 : Int32).toNatClampNeg (x2 : Int32).toNatClampNeg) → hK h4 a3 = 24 ∧ vp_in v1 (hN h4 a3) ∧ hK h4 v2 = 4 ∧ ∀ h6 : Hp, h6 = sR h4 a3 v1.toNatClampNeg (some v2) → ∀ x7 : Int32, x7 = v3 + 1 → hK h6 v0 = 6 ∧ ∀ h9 : Hp, h9 = sI h6 v0 1 x7 → post h9
set_option maxHeartbeats 4000000 in
set_option maxRecDepth 100000 in
theorem wk_A_add3_38 {p : Program} {l : Launch} {e : Env} {s : State} {m : MethodId} {args : Array Value} {below : List Frame} {meth : Method} {c : Code} {g : Gm} {post : Hp → Prop} {mc ms : Nat} (C0 : Cx g p s m args c prog_20_method_26_code 5 "java/util/ArrayList") (hr : meth.sig.returnType = none) (hlk : meth.locks = false) : ∀ (h : Hp) (kc ks : Nat) (v0 : Nat) (v1 : Int32) (v2 : Nat) (v3 : Int32) (v4 : Option Nat) (H : Heap) (locs : List Loc) (ls : Array Slot), wp_A_add3_38 g post mc ms h kc ks v0 v1 v2 v3 v4 → GH g h H → va_S (gA g) s.heap H locs → kc ≤ mc ∧ ks ≤ ms → lv_has ls 5 [(0, .ref v0), (1, .int v1), (2, .ref v2), (3, .int v3), (4, va_rf v4)] → W p l e (rmm 5 147 mc ms) s m args below meth c H locs kc ks (MQ below (va_Qv post (gS g) (gA g)) args s mc ms (gA g)) (F0 m 38 ls []) := by
  obtain ⟨hx, hb, -, hown, hts, hgk⟩ := id C0
  intro h kc ks v0 v1 v2 v3 v4 H locs ls hw hG hS hkc hl
  unfold wp_A_add3_38 at hw
  refine px_aloadq hx hb dd_A_add3_38 (lv_at hl 4 rfl) ?_
  refine lv_iload_n hx hb dd_A_add3_40 rfl (lv_at hl 1 rfl) ?_
  refine px_aloadq hx hb dd_A_add3_41 (lv_at hl 4 rfl) ?_
  refine lv_iload_n hx hb dd_A_add3_43 rfl (lv_at hl 1 rfl) ?_
  refine lv_iconst (v := 1) hx hb dd_A_add3_44 (by decide) ?_
  refine lv_iadd hx hb dd_A_add3_45 ?_
  refine lv_topi (fun x1 ex1 => ?_)
  replace hw := hw x1 ex1
  refine lv_iload_n hx hb dd_A_add3_46 rfl (lv_at hl 3 rfl) ?_
  refine lv_iload_n hx hb dd_A_add3_47 rfl (lv_at hl 1 rfl) ?_
  refine lv_isub hx hb dd_A_add3_48 ?_
  refine lv_topi (fun x2 ex2 => ?_)
  replace hw := hw x2 ex2
  obtain ⟨a3, rfl, hw⟩ := hw
  replace hl : lv_has ls 5 [(0, .ref v0), (1, .int v1), (2, .ref v2), (3, .int v3), (4, .ref a3)] := hl
  obtain ⟨z1, z2, z3, z4, z5, z6, z7, z8, hw⟩ := hw
  refine px_copy C0 hG hS hl.1 km_154 km_87 km_88 km_89 (ci := 3) (by decide) rfl km_85 z1 z2 z3 z4 z5 z6 z7 z8 (Nat.le_of_ble_eq_true rfl) (by first | exact Nat.le_of_ble_eq_true rfl | exact (by decide +kernel : 0 + (nativeFrameWords "java/lang/System" "arraycopy" 5 + 11) ≤ 147)) dd_A_add3_49 (fun H locs hG hS => ?_)
  replace hw := hw _ rfl
  generalize sRr h a3 (va_cpy (hR h a3) (hR h a3) (v1 : Int32).toNatClampNeg (x1 : Int32).toNatClampNeg (x2 : Int32).toNatClampNeg) = h4 at hw hG
  refine lv_aload hx hb dd_A_add3_52 (lv_at hl 4 rfl) ?_
  refine lv_iload_n hx hb dd_A_add3_54 rfl (lv_at hl 1 rfl) ?_
  refine lv_aload_n hx hb dd_A_add3_55 rfl (lv_at hl 2 rfl) ?_
  obtain ⟨k5, k5i, k5v, hw⟩ := hw
  refine px_aast C0 hG hS k5 k5i (ci := 3) k5v (by decide) rfl km_85 dd_A_add3_56 (fun H locs hG hS => ?_)
  replace hw := hw _ rfl
  generalize sR h4 a3 v1.toNatClampNeg (some v2) = h6 at hw hG
  refine lv_aload_n hx hb dd_A_add3_57 rfl (lv_at hl 0 rfl) ?_
  refine lv_iload_n hx hb dd_A_add3_58 rfl (lv_at hl 3 rfl) ?_
  refine lv_iconst (v := 1) hx hb dd_A_add3_59 (by decide) ?_
  refine lv_iadd hx hb dd_A_add3_60 ?_
  refine lv_topi (fun x7 ex7 => ?_)
  replace hw := hw x7 ex7
  obtain ⟨k8, hw⟩ := hw
  refine pf_A_48 C0 hG hS k8 dd_A_add3_61 (fun H locs hG hS => ?_)
  replace hw := hw _ rfl
  generalize sI h6 v0 1 x7 = h9 at hw hG
  exact re_v C0 hG hS hr hlk hkc hw dd_A_add3_64
def wp_A_add3 (g : Gm) (post : Hp → Prop) (mc ms : Nat) (h : Hp) (a0 : Nat) (i1 : Int32) (b2 : Nat) : Prop := hK h a0 = 6 ∧ wp_A_rangeCheckForAdd g (hK h a0 = 6 ∧ ∀ x4 : Int32, x4 = (hI h a0 2) + 1 → hK h a0 = 6 ∧ ∀ h6 : Hp, h6 = sI h a0 2 x4 → hK h6 a0 = 6 ∧ hK h6 a0 = 6 ∧ ∃ a9 : Nat, hR h6 a0 0 = some a9 ∧ ∃ x11 : Int32, gLen g h6 a9 x11 ∧ ((¬ (hI h6 a0 1) = x11 → wp_A_add3_38 g post mc ms h6 0 0 a0 i1 b2 (hI h6 a0 1) (some a9)) ∧ ((hI h6 a0 1) = x11 → hK h6 a0 = 6 ∧ ∃ mc16 ms17 : Nat, 0 + mc16 ≤ mc ∧ 0 + ms17 ≤ ms ∧ wp_A_grow2 g (fun r15 h14 => wp_A_add3_38 g post mc ms h14 (0 + mc16) (0 + ms17) a0 i1 b2 (hI h6 a0 1) r15) mc16 ms17 h6 a0))) h a0 i1
set_option maxHeartbeats 4000000 in
set_option maxRecDepth 100000 in
theorem c_A_add3 (l : Launch) (g : Gm) (post : Hp → Prop) (mc ms : Nat) (h : Hp) (a0 : Nat) (i1 : Int32) (b2 : Nat) (hw : wp_A_add3 g post mc ms h a0 i1 b2) : Met l (⟨"java/util/ArrayList", "add", "(ILjava/lang/Object;)V"⟩ : MethodName) (ww (⟨"java/util/ArrayList", "add", "(ILjava/lang/Object;)V"⟩ : MethodName) prog_20_method_26_code 5 none) (rmm 5 147 mc ms) (va_Pc [.ref a0, .int i1, .ref b2] (gS g h)) (va_Qv post (gS g) (gA g)) mc ms (gA g) := by
  first | refine en_met (by decide) ?_ | refine en_metF (by decide) ?_
  intro p e s m below meth c C0 hr hlk hin hG
  have hS : va_S (gA g) s.heap s.heap [] := va_S.rf
  have hl := lv_entry ([.ref a0, .int i1, .ref b2]) (n := 5) (Nat.le_of_ble_eq_true rfl)
  rw [lg_entry_eq]
  generalize (lg_sl ([.ref a0, .int i1, .ref b2]) ++ List.replicate (5 - (lg_sl ([.ref a0, .int i1, .ref b2])).length) Slot.unset).toArray = ls at hl ⊢
  replace hl : lv_has ls 5 [(0, .ref a0), (1, .int i1), (2, .ref b2)] := hl
  obtain ⟨hx, hb, -, hown, hts, hgk⟩ := id C0
  have hkc : 0 ≤ mc ∧ 0 ≤ ms := ⟨Nat.zero_le _, Nat.zero_le _⟩
  unfold wp_A_add3 at hw
  refine lv_aload_n hx hb dd_A_add3_0 rfl (lv_at hl 0 rfl) ?_
  refine lv_iload_n hx hb dd_A_add3_1 rfl (lv_at hl 1 rfl) ?_
  obtain ⟨k1, hw⟩ := hw
  have hw0 := hw
  clear hw
  refine cs_v (rn_V C0 hG hS (c_A_rangeCheckForAdd l g _ h a0 i1 hw0) (ci := 5) k1 (by decide) rfl rfl (host := "") (nest := false) (n := 1) (As := [.int i1]) (rest := []) km_207 km_206 km_208 km_209 km_17 ⟨by decide, by decide, by decide +kernel⟩ ⟨Nat.le_of_ble_eq_true rfl, Nat.le_of_ble_eq_true rfl⟩ rfl hl.1 rfl (Nat.le_of_ble_eq_true rfl) dd_A_add3_2 hkc) (fun hw => ?_)
  refine lv_aload_n hx hb dd_A_add3_5 rfl (lv_at hl 0 rfl) ?_
  refine lv_dup hx hb dd_A_add3_6 rfl ?_
  obtain ⟨k3, hw⟩ := hw
  refine gf_A_63 C0 hG k3 dd_A_add3_7 ?_
  refine lv_iconst (v := 1) hx hb dd_A_add3_10 (by decide) ?_
  refine lv_iadd hx hb dd_A_add3_11 ?_
  refine lv_topi (fun x4 ex4 => ?_)
  replace hw := hw x4 ex4
  obtain ⟨k5, hw⟩ := hw
  refine pf_A_63 C0 hG hS k5 dd_A_add3_12 (fun H locs hG hS => ?_)
  replace hw := hw _ rfl
  generalize sI h a0 2 x4 = h6 at hw hG
  refine lv_aload_n hx hb dd_A_add3_15 rfl (lv_at hl 0 rfl) ?_
  obtain ⟨k7, hw⟩ := hw
  refine gf_A_48 C0 hG k7 dd_A_add3_16 ?_
  refine lv_dup hx hb dd_A_add3_19 rfl ?_
  have hl0 := hl
  clear hl
  refine lv_istore_n (lv' := [(3, .int (hI h6 a0 1)), (0, .ref a0), (1, .int i1), (2, .ref b2)]) hx hb dd_A_add3_20 rfl hl0 (by decide) rfl (fun ls hl => ?_)
  refine lv_aload_n hx hb dd_A_add3_21 rfl (lv_at hl 1 rfl) ?_
  obtain ⟨k8, a9, ea9, hw⟩ := hw
  refine gf_A_9 C0 hG k8 ea9 dd_A_add3_22 ?_
  refine lv_dup hx hb dd_A_add3_25 rfl ?_
  have hl0 := hl
  clear hl
  refine lv_astore (lv' := [(4, .ref a9), (3, .int (hI h6 a0 1)), (0, .ref a0), (1, .int i1), (2, .ref b2)]) hx hb dd_A_add3_26 hl0 (by decide) rfl (fun ls hl => ?_)
  obtain ⟨x11, k10, hw⟩ := hw
  refine px_len C0 hG hS k10 dd_A_add3_28 ?_
  refine lv_icmp_ne (tgt := 38) hx hb dd_A_add3_29 (by decide) (fun c12 => ?_) (fun c12 => ?_)
  · replace hw := hw.1 c12
    exact wk_A_add3_38 C0 hr hlk _ _ _ _ _ _ _ _ _ _ _ hw hG hS hkc (lv_sub hl [2, 3, 4, 1, 0] rfl)
  · replace hw := hw.2 c12
    refine lv_aload_n hx hb dd_A_add3_32 rfl (lv_at hl 2 rfl) ?_
    obtain ⟨k13, hw⟩ := hw
    obtain ⟨mc16, ms17, hc1, hc2, hw⟩ := hw
    refine ca_q hS (rn_V C0 hG hS (c_A_grow2 l g _ mc16 ms17 h6 a0 hw) (ci := 5) k13 (by decide) rfl rfl (host := "") (nest := false) (n := 0) (As := []) (rest := []) km_112 km_111 km_113 km_114 km_17 ⟨by decide, by decide, by decide +kernel⟩ ⟨Nat.le_of_ble_eq_true rfl, Nat.le_of_ble_eq_true rfl⟩ rfl hl.1 rfl (Nat.le_of_ble_eq_true rfl) dd_A_add3_33 ⟨hc1, hc2⟩) (fun r15 h14 H locs hw hG hS => ?_)
    have hkc := And.intro hc1 hc2
    have hl0 := hl
    clear hl
    refine px_astoreq (lv' := [(4, va_rf r15), (3, .int (hI h6 a0 1)), (0, .ref a0), (1, .int i1), (2, .ref b2)]) hx hb dd_A_add3_36 hl0 (by decide) rfl (fun ls hl => ?_)
    exact wk_A_add3_38 C0 hr hlk _ _ _ _ _ _ _ _ _ _ _ hw hG hS hkc (lv_sub hl [2, 3, 4, 1, 0] rfl)
/-! java/util/ArrayList.clear()V -/
theorem dd_A_clear_0 : decode prog_20_method_40_code 0 = .ok (.aload_n 0, 1) := by decide +kernel
theorem dd_A_clear_1 : decode prog_20_method_40_code 1 = .ok (.dup, 1) := by decide +kernel
theorem dd_A_clear_2 : decode prog_20_method_40_code 2 = .ok (.getfield 63, 3) := by decide +kernel
theorem dd_A_clear_5 : decode prog_20_method_40_code 5 = .ok (.iconst 1, 1) := by decide +kernel
theorem dd_A_clear_6 : decode prog_20_method_40_code 6 = .ok (.iadd, 1) := by decide +kernel
theorem dd_A_clear_7 : decode prog_20_method_40_code 7 = .ok (.putfield 63, 3) := by decide +kernel
theorem dd_A_clear_10 : decode prog_20_method_40_code 10 = .ok (.aload_n 0, 1) := by decide +kernel
theorem dd_A_clear_11 : decode prog_20_method_40_code 11 = .ok (.getfield 9, 3) := by decide +kernel
theorem dd_A_clear_14 : decode prog_20_method_40_code 14 = .ok (.astore_n 1, 1) := by decide +kernel
theorem dd_A_clear_15 : decode prog_20_method_40_code 15 = .ok (.aload_n 0, 1) := by decide +kernel
theorem dd_A_clear_16 : decode prog_20_method_40_code 16 = .ok (.getfield 48, 3) := by decide +kernel
theorem dd_A_clear_19 : decode prog_20_method_40_code 19 = .ok (.istore_n 2, 1) := by decide +kernel
theorem dd_A_clear_20 : decode prog_20_method_40_code 20 = .ok (.aload_n 0, 1) := by decide +kernel
theorem dd_A_clear_21 : decode prog_20_method_40_code 21 = .ok (.iconst 0, 1) := by decide +kernel
theorem dd_A_clear_22 : decode prog_20_method_40_code 22 = .ok (.dup_x1, 1) := by decide +kernel
theorem dd_A_clear_23 : decode prog_20_method_40_code 23 = .ok (.putfield 48, 3) := by decide +kernel
theorem dd_A_clear_26 : decode prog_20_method_40_code 26 = .ok (.istore_n 3, 1) := by decide +kernel
theorem dd_A_clear_27 : decode prog_20_method_40_code 27 = .ok (.iload_n 3, 1) := by decide +kernel
theorem dd_A_clear_28 : decode prog_20_method_40_code 28 = .ok (.iload_n 2, 1) := by decide +kernel
theorem dd_A_clear_29 : decode prog_20_method_40_code 29 = .ok (.if_icmp .ge 13, 3) := by decide +kernel
theorem dd_A_clear_32 : decode prog_20_method_40_code 32 = .ok (.aload_n 1, 1) := by decide +kernel
theorem dd_A_clear_33 : decode prog_20_method_40_code 33 = .ok (.iload_n 3, 1) := by decide +kernel
theorem dd_A_clear_34 : decode prog_20_method_40_code 34 = .ok (.aconst_null, 1) := by decide +kernel
theorem dd_A_clear_35 : decode prog_20_method_40_code 35 = .ok (.aastore, 1) := by decide +kernel
theorem dd_A_clear_36 : decode prog_20_method_40_code 36 = .ok (.iinc 3 1, 3) := by decide +kernel
theorem dd_A_clear_39 : decode prog_20_method_40_code 39 = .ok (.goto (-12), 3) := by decide +kernel
theorem dd_A_clear_42 : decode prog_20_method_40_code 42 = .ok (.return_, 1) := by decide +kernel
def wp_A_clear_27 (g : Gm) (post : Hp → Prop) : Nat → Hp → Nat → Int32 → Int32 → Prop
  | 0, _, _, _, _ => False
  | fu + 1, h, v1, v2, v3 => ((v2 ≤ v3 → post h) ∧ (¬ v2 ≤ v3 → hK h v1 = 24 ∧ vp_in v3 (hN h v1) ∧ ∀ h3 : Hp, h3 = sR h v1 v3.toNatClampNeg none → ∀ x4 : Int32, x4 = v3 + 1 → wp_A_clear_27 g post fu h3 v1 v2 x4))
set_option maxHeartbeats 4000000 in
set_option maxRecDepth 100000 in
theorem wk_A_clear_27 {p : Program} {l : Launch} {e : Env} {s : State} {m : MethodId} {args : Array Value} {below : List Frame} {meth : Method} {c : Code} {g : Gm} {post : Hp → Prop} (C0 : Cx g p s m args c prog_20_method_40_code 4 "java/util/ArrayList") (hr : meth.sig.returnType = none) (hlk : meth.locks = false) : ∀ n : Nat, ∀ (h : Hp) (v1 : Nat) (v2 : Int32) (v3 : Int32) (H : Heap) (locs : List Loc) (ls : Array Slot), wp_A_clear_27 g post n h v1 v2 v3 → GH g h H → va_S (gA g) s.heap H locs → lv_has ls 4 [(1, .ref v1), (2, .int v2), (3, .int v3)] → W p l e (rmm 0 0 0 0) s m args below meth c H locs 0 0 (MQ below (va_Qv post (gS g) (gA g)) args s 0 0 (gA g)) (F0 m 27 ls []) := by
  obtain ⟨hx, hb, -, hown, hts, hgk⟩ := id C0
  intro n
  induction n with
  | zero =>
    intro h v1 v2 v3 H locs ls hw hG hS hl
    exact hw.elim
  | succ n ih =>
    intro h v1 v2 v3 H locs ls hw hG hS hl
    unfold wp_A_clear_27 at hw
    refine lv_iload_n hx hb dd_A_clear_27 rfl (lv_at hl 2 rfl) ?_
    refine lv_iload_n hx hb dd_A_clear_28 rfl (lv_at hl 1 rfl) ?_
    refine lv_icmp_ge (tgt := 42) hx hb dd_A_clear_29 (by decide) (fun c1 => ?_) (fun c1 => ?_)
    · replace hw := hw.1 c1
      exact re_v C0 hG hS hr hlk ⟨Nat.le_refl _, Nat.le_refl _⟩ hw dd_A_clear_42
    · replace hw := hw.2 c1
      refine lv_aload_n hx hb dd_A_clear_32 rfl (lv_at hl 0 rfl) ?_
      refine lv_iload_n hx hb dd_A_clear_33 rfl (lv_at hl 2 rfl) ?_
      refine lv_null hx hb dd_A_clear_34 ?_
      obtain ⟨k2, k2i, hw⟩ := hw
      refine px_aastN C0 hG hS k2 k2i dd_A_clear_35 (fun H locs hG hS => ?_)
      replace hw := hw _ rfl
      generalize sR h v1 v3.toNatClampNeg none = h3 at hw hG
      obtain ⟨x4, ex4⟩ : ∃ y : Int32, y = v3 + 1 := ⟨_, rfl⟩
      replace hw := hw x4 ex4
      have hl0 := hl
      clear hl
      refine lv_iinc (v := x4) (lv' := [(3, .int x4), (1, .ref v1), (2, .int v2)]) hx hb dd_A_clear_36 hl0 (k := 2) rfl (by rw [ex4]; rfl) (by decide) rfl (fun ls hl => ?_)
      refine lv_goto (tgt := 27) hx hb dd_A_clear_39 (by decide) ?_
      exact ih _ _ _ _ _ _ _ hw hG hS (lv_sub hl [1, 2, 0] rfl)
def wp_A_clear (g : Gm) (post : Hp → Prop) (h : Hp) (a0 : Nat) : Prop := hK h a0 = 6 ∧ ∀ x2 : Int32, x2 = (hI h a0 2) + 1 → hK h a0 = 6 ∧ ∀ h4 : Hp, h4 = sI h a0 2 x2 → hK h4 a0 = 6 ∧ ∃ a6 : Nat, hR h4 a0 0 = some a6 ∧ hK h4 a0 = 6 ∧ hK h4 a0 = 6 ∧ ∀ h9 : Hp, h9 = sI h4 a0 1 0 → ∃ n : Nat, wp_A_clear_27 g post n h9 a6 (hI h4 a0 1) 0
set_option maxHeartbeats 4000000 in
set_option maxRecDepth 100000 in
theorem c_A_clear (l : Launch) (g : Gm) (post : Hp → Prop) (h : Hp) (a0 : Nat) (hw : wp_A_clear g post h a0) : Met l (⟨"java/util/ArrayList", "clear", "()V"⟩ : MethodName) (ww (⟨"java/util/ArrayList", "clear", "()V"⟩ : MethodName) prog_20_method_40_code 4 none) (rmm 0 0 0 0) (va_Pc [.ref a0] (gS g h)) (va_Qv post (gS g) (gA g)) 0 0 (gA g) := by
  first | refine en_met (by decide) ?_ | refine en_metF (by decide) ?_
  intro p e s m below meth c C0 hr hlk hin hG
  have hS : va_S (gA g) s.heap s.heap [] := va_S.rf
  have hl := lv_entry ([.ref a0]) (n := 4) (Nat.le_of_ble_eq_true rfl)
  rw [lg_entry_eq]
  generalize (lg_sl ([.ref a0]) ++ List.replicate (4 - (lg_sl ([.ref a0])).length) Slot.unset).toArray = ls at hl ⊢
  replace hl : lv_has ls 4 [(0, .ref a0)] := hl
  obtain ⟨hx, hb, -, hown, hts, hgk⟩ := id C0
  unfold wp_A_clear at hw
  refine lv_aload_n hx hb dd_A_clear_0 rfl (lv_at hl 0 rfl) ?_
  refine lv_dup hx hb dd_A_clear_1 rfl ?_
  obtain ⟨k1, hw⟩ := hw
  refine gf_A_63 C0 hG k1 dd_A_clear_2 ?_
  refine lv_iconst (v := 1) hx hb dd_A_clear_5 (by decide) ?_
  refine lv_iadd hx hb dd_A_clear_6 ?_
  refine lv_topi (fun x2 ex2 => ?_)
  replace hw := hw x2 ex2
  obtain ⟨k3, hw⟩ := hw
  refine pf_A_63 C0 hG hS k3 dd_A_clear_7 (fun H locs hG hS => ?_)
  replace hw := hw _ rfl
  generalize sI h a0 2 x2 = h4 at hw hG
  refine lv_aload_n hx hb dd_A_clear_10 rfl (lv_at hl 0 rfl) ?_
  obtain ⟨k5, a6, ea6, hw⟩ := hw
  refine gf_A_9 C0 hG k5 ea6 dd_A_clear_11 ?_
  have hl0 := hl
  clear hl
  refine lv_astore_n (lv' := [(1, .ref a6), (0, .ref a0)]) hx hb dd_A_clear_14 rfl hl0 (by decide) rfl (fun ls hl => ?_)
  refine lv_aload_n hx hb dd_A_clear_15 rfl (lv_at hl 1 rfl) ?_
  obtain ⟨k7, hw⟩ := hw
  refine gf_A_48 C0 hG k7 dd_A_clear_16 ?_
  have hl0 := hl
  clear hl
  refine lv_istore_n (lv' := [(2, .int (hI h4 a0 1)), (1, .ref a6), (0, .ref a0)]) hx hb dd_A_clear_19 rfl hl0 (by decide) rfl (fun ls hl => ?_)
  refine lv_aload_n hx hb dd_A_clear_20 rfl (lv_at hl 2 rfl) ?_
  refine lv_iconst (v := 0) hx hb dd_A_clear_21 (by decide) ?_
  refine lv_dup_x1 hx hb dd_A_clear_22 rfl rfl ?_
  obtain ⟨k8, hw⟩ := hw
  refine pf_A_48 C0 hG hS k8 dd_A_clear_23 (fun H locs hG hS => ?_)
  replace hw := hw _ rfl
  generalize sI h4 a0 1 0 = h9 at hw hG
  have hl0 := hl
  clear hl
  refine lv_istore_n (lv' := [(3, .int 0), (2, .int (hI h4 a0 1)), (1, .ref a6), (0, .ref a0)]) hx hb dd_A_clear_26 rfl hl0 (by decide) rfl (fun ls hl => ?_)
  obtain ⟨n, hw⟩ := hw
  exact wk_A_clear_27 C0 hr hlk n _ _ _ _ _ _ _ hw hG hS (lv_sub hl [2, 1, 0] rfl)
