/-! SegmentLocks$Rows.<init>()V -/
theorem dd_W_init_0 : decode prog_3_method_1_code 0 = .ok (.aload_n 0, 1) := by decide +kernel
theorem dd_W_init_1 : decode prog_3_method_1_code 1 = .ok (.invokespecial 3, 3) := by decide +kernel
theorem dd_W_init_4 : decode prog_3_method_1_code 4 = .ok (.aload_n 0, 1) := by decide +kernel
theorem dd_W_init_5 : decode prog_3_method_1_code 5 = .ok (.new 9, 3) := by decide +kernel
theorem dd_W_init_8 : decode prog_3_method_1_code 8 = .ok (.dup, 1) := by decide +kernel
theorem dd_W_init_9 : decode prog_3_method_1_code 9 = .ok (.invokespecial 11, 3) := by decide +kernel
theorem dd_W_init_12 : decode prog_3_method_1_code 12 = .ok (.putfield 12, 3) := by decide +kernel
theorem dd_W_init_15 : decode prog_3_method_1_code 15 = .ok (.return_, 1) := by decide +kernel
def wp_W_init (g : Gm) (post : Hp → Prop) (mc ms : Nat) (h : Hp) (a0 : Nat) : Prop := 0 + 1 ≤ mc ∧ 0 + 3 ≤ ms ∧ ∀ q1 : Nat, hK h q1 = 0 → g.2.2 0 ≤ q1 → ∀ h2 : Hp, h2 = mkC h q1 6 0 → wp_A_init g (fun h4 => hK h4 a0 = 2 ∧ ∀ h6 : Hp, h6 = sR h4 a0 0 (some q1) → post h6) h2 q1
set_option maxHeartbeats 4000000 in
set_option maxRecDepth 100000 in
theorem c_W_init (l : Launch) (g : Gm) (post : Hp → Prop) (mc ms : Nat) (h : Hp) (a0 : Nat) (hw : wp_W_init g post mc ms h a0) : Met l (⟨"SegmentLocks$Rows", "<init>", "()V"⟩ : MethodName) (ww (⟨"SegmentLocks$Rows", "<init>", "()V"⟩ : MethodName) prog_3_method_1_code 1 none) (rmm 4 84 mc ms) (va_Pc [.ref a0] (gS g h)) (va_Qv post (gS g) (gA g)) mc ms (gA g) := by
  first | refine en_met (by decide) ?_ | refine en_metF (by decide) ?_
  intro p e s m below meth c C0 hr hlk hin hG
  have hS : va_S (gA g) s.heap s.heap [] := va_S.rf
  have hl := lv_entry ([.ref a0]) (n := 1) (Nat.le_of_ble_eq_true rfl)
  rw [lg_entry_eq]
  generalize (lg_sl ([.ref a0]) ++ List.replicate (1 - (lg_sl ([.ref a0])).length) Slot.unset).toArray = ls at hl ⊢
  replace hl : lv_has ls 1 [(0, .ref a0)] := hl
  obtain ⟨hx, hb, -, hown, hts, hgk⟩ := id C0
  have hkc : 0 ≤ mc ∧ 0 ≤ ms := ⟨Nat.zero_le _, Nat.zero_le _⟩
  unfold wp_W_init at hw
  refine lv_aload_n hx hb dd_W_init_0 rfl (lv_at hl 0 rfl) ?_
  refine W.objInit hx hb hown (hts _ km_14) (hts _ km_1) (hts _ km_2) rfl (by rw [C0.2.2.1]; exact hl.1) rfl dd_W_init_1 (Nat.le_of_ble_eq_true rfl) (Nat.le_of_ble_eq_true rfl) ?_
  refine W.eq (g2 := F0 m 4 ls []) rfl ?_
  refine lv_aload_n hx hb dd_W_init_4 rfl (lv_at hl 0 rfl) ?_
  obtain ⟨hc1, hc2, hw⟩ := hw
  refine px_new C0 hG hS (ci := 5) (T := FX5) (N := 3) (C := RX5) (by decide) rfl iX5 rfl tX5_ok (by decide) km_15 km_16 km_17 hc1 hc2 dd_W_init_5 (fun q1 H z0 zq hG hS => ?_)
  replace hw := hw q1 z0 zq _ rfl
  generalize mkC h q1 6 0 = h2 at hw hG
  have hkc := And.intro hc1 hc2
  refine lv_dup hx hb dd_W_init_8 rfl ?_
  refine ca_v hS (rn_I C0 hG hS (c_A_init l g _ h2 q1 hw) (host := "") (nest := false) (n := 0) (As := []) (rest := [.ref q1, .ref a0]) km_20 km_19 km_21 km_17 rfl ⟨by decide, by decide, by decide +kernel⟩ ⟨Nat.le_of_ble_eq_true rfl, Nat.le_of_ble_eq_true rfl⟩ rfl hl.1 rfl (Nat.le_of_ble_eq_true rfl) dd_W_init_9 hkc) (fun h4 H locs hw hG hS => ?_)
  obtain ⟨k5, hw⟩ := hw
  refine pf_W_12 C0 hG hS k5 hin dd_W_init_12 (fun H locs hG hS => ?_)
  replace hw := hw _ rfl
  generalize sR h4 a0 0 (some q1) = h6 at hw hG
  exact re_v C0 hG hS hr hlk hkc hw dd_W_init_15
/-! SegmentLocks$Rows.placeOf(LSegmentLocks$Task;)I -/
theorem dd_W_placeOf_0 : decode prog_3_method_5_code 0 = .ok (.iconst 0, 1) := by decide +kernel
theorem dd_W_placeOf_1 : decode prog_3_method_5_code 1 = .ok (.istore_n 2, 1) := by decide +kernel
theorem dd_W_placeOf_2 : decode prog_3_method_5_code 2 = .ok (.iload_n 2, 1) := by decide +kernel
theorem dd_W_placeOf_3 : decode prog_3_method_5_code 3 = .ok (.aload_n 0, 1) := by decide +kernel
theorem dd_W_placeOf_4 : decode prog_3_method_5_code 4 = .ok (.getfield 12, 3) := by decide +kernel
theorem dd_W_placeOf_7 : decode prog_3_method_5_code 7 = .ok (.invokevirtual 28, 3) := by decide +kernel
theorem dd_W_placeOf_10 : decode prog_3_method_5_code 10 = .ok (.if_icmp .ge 23, 3) := by decide +kernel
theorem dd_W_placeOf_13 : decode prog_3_method_5_code 13 = .ok (.aload_n 0, 1) := by decide +kernel
theorem dd_W_placeOf_14 : decode prog_3_method_5_code 14 = .ok (.getfield 12, 3) := by decide +kernel
theorem dd_W_placeOf_17 : decode prog_3_method_5_code 17 = .ok (.iload_n 2, 1) := by decide +kernel
theorem dd_W_placeOf_18 : decode prog_3_method_5_code 18 = .ok (.invokevirtual 44, 3) := by decide +kernel
theorem dd_W_placeOf_21 : decode prog_3_method_5_code 21 = .ok (.aload_n 1, 1) := by decide +kernel
theorem dd_W_placeOf_22 : decode prog_3_method_5_code 22 = .ok (.if_acmp .ne 5, 3) := by decide +kernel
theorem dd_W_placeOf_25 : decode prog_3_method_5_code 25 = .ok (.iload_n 2, 1) := by decide +kernel
theorem dd_W_placeOf_26 : decode prog_3_method_5_code 26 = .ok (.ireturn, 1) := by decide +kernel
theorem dd_W_placeOf_27 : decode prog_3_method_5_code 27 = .ok (.iinc 2 1, 3) := by decide +kernel
theorem dd_W_placeOf_30 : decode prog_3_method_5_code 30 = .ok (.goto (-28), 3) := by decide +kernel
theorem dd_W_placeOf_33 : decode prog_3_method_5_code 33 = .ok (.aload_n 0, 1) := by decide +kernel
theorem dd_W_placeOf_34 : decode prog_3_method_5_code 34 = .ok (.getfield 12, 3) := by decide +kernel
theorem dd_W_placeOf_37 : decode prog_3_method_5_code 37 = .ok (.invokevirtual 28, 3) := by decide +kernel
theorem dd_W_placeOf_40 : decode prog_3_method_5_code 40 = .ok (.ireturn, 1) := by decide +kernel
def wp_W_placeOf_2 (g : Gm) (post : Int32 → Prop) : Nat → Hp → Nat → Nat → Int32 → Prop
  | 0, _, _, _, _ => False
  | fu + 1, h, v0, v1, v2 => hK h v0 = 2 ∧ ∃ a2 : Nat, hR h v0 0 = some a2 ∧ hK h a2 = 6 ∧ wp_A_size g (fun x5 => ((x5 ≤ v2 → hK h v0 = 2 ∧ ∃ a8 : Nat, hR h v0 0 = some a8 ∧ hK h a8 = 6 ∧ wp_A_size g (fun x11 => post x11) h a8) ∧ (¬ x5 ≤ v2 → hK h v0 = 2 ∧ ∃ a13 : Nat, hR h v0 0 = some a13 ∧ hK h a13 = 6 ∧ wp_A_get g (fun r16 => ((¬ r16 = (some v1) → ∀ x18 : Int32, x18 = v2 + 1 → wp_W_placeOf_2 g post fu h v0 v1 x18) ∧ (r16 = (some v1) → post v2))) h a13 v2))) h a2
set_option maxHeartbeats 4000000 in
set_option maxRecDepth 100000 in
theorem wk_W_placeOf_2 {p : Program} {l : Launch} {e : Env} {s : State} {m : MethodId} {args : Array Value} {below : List Frame} {meth : Method} {c : Code} {g : Gm} {post : Int32 → Prop} (C0 : Cx g p s m args c prog_3_method_5_code 3 "SegmentLocks$Rows") (hr : meth.sig.returnType = (some .int)) (hlk : meth.locks = false) : ∀ n : Nat, ∀ (h : Hp) (v0 : Nat) (v1 : Nat) (v2 : Int32) (ls : Array Slot), wp_W_placeOf_2 g post n h v0 v1 v2 → GH g h s.heap → lv_has ls 3 [(0, .ref v0), (1, .ref v1), (2, .int v2)] → W p l e (rmm 3 64 0 0) s m args below meth c s.heap [] 0 0 (MQ below (vp_Si post) args s 0 0 (fun _ => False)) (F0 m 2 ls []) := by
  obtain ⟨hx, hb, -, hown, hts, hgk⟩ := id C0
  have hS : va_S (gA g) s.heap s.heap [] := va_S.rf
  intro n
  induction n with
  | zero =>
    intro h v0 v1 v2 ls hw hG hl
    exact hw.elim
  | succ n ih =>
    intro h v0 v1 v2 ls hw hG hl
    unfold wp_W_placeOf_2 at hw
    refine lv_iload_n hx hb dd_W_placeOf_2 rfl (lv_at hl 2 rfl) ?_
    refine lv_aload_n hx hb dd_W_placeOf_3 rfl (lv_at hl 0 rfl) ?_
    obtain ⟨k1, a2, ea2, hw⟩ := hw
    refine gf_W_12 C0 hG k1 ea2 dd_W_placeOf_4 ?_
    obtain ⟨k3, hw⟩ := hw
    have hw0 := hw
    clear hw
    refine cs_i (rn_V C0 hG hS (c_A_size l g _ h a2 hw0) (ci := 5) k3 (by decide) rfl rfl (host := "") (nest := false) (n := 0) (As := []) (rest := [.int v2]) km_132 km_152 km_133 km_134 km_17 ⟨by decide, by decide, by decide +kernel⟩ ⟨Nat.le_of_ble_eq_true rfl, Nat.le_of_ble_eq_true rfl⟩ rfl hl.1 rfl (Nat.le_of_ble_eq_true rfl) dd_W_placeOf_7 ⟨Nat.le_refl _, Nat.le_refl _⟩) (fun x5 hw => ?_)
    refine lv_icmp_ge (tgt := 33) hx hb dd_W_placeOf_10 (by decide) (fun c6 => ?_) (fun c6 => ?_)
    · replace hw := hw.1 c6
      refine lv_aload_n hx hb dd_W_placeOf_33 rfl (lv_at hl 0 rfl) ?_
      obtain ⟨k7, a8, ea8, hw⟩ := hw
      refine gf_W_12 C0 hG k7 ea8 dd_W_placeOf_34 ?_
      obtain ⟨k9, hw⟩ := hw
      have hw0 := hw
      clear hw
      refine cs_i (rn_V C0 hG hS (c_A_size l g _ h a8 hw0) (ci := 5) k9 (by decide) rfl rfl (host := "") (nest := false) (n := 0) (As := []) (rest := []) km_132 km_152 km_133 km_134 km_17 ⟨by decide, by decide, by decide +kernel⟩ ⟨Nat.le_of_ble_eq_true rfl, Nat.le_of_ble_eq_true rfl⟩ rfl hl.1 rfl (Nat.le_of_ble_eq_true rfl) dd_W_placeOf_37 ⟨Nat.le_refl _, Nat.le_refl _⟩) (fun x11 hw => ?_)
      exact rs_i C0 hr hlk hw dd_W_placeOf_40
    · replace hw := hw.2 c6
      refine lv_aload_n hx hb dd_W_placeOf_13 rfl (lv_at hl 0 rfl) ?_
      obtain ⟨k12, a13, ea13, hw⟩ := hw
      refine gf_W_12 C0 hG k12 ea13 dd_W_placeOf_14 ?_
      refine lv_iload_n hx hb dd_W_placeOf_17 rfl (lv_at hl 2 rfl) ?_
      obtain ⟨k14, hw⟩ := hw
      have hw0 := hw
      clear hw
      refine cs_q (rn_V C0 hG hS (c_A_get l g _ h a13 v2 hw0) (ci := 5) k14 (by decide) rfl rfl (host := "") (nest := false) (n := 1) (As := [.int v2]) (rest := []) km_149 km_153 km_150 km_151 km_17 ⟨by decide, by decide, by decide +kernel⟩ ⟨Nat.le_of_ble_eq_true rfl, Nat.le_of_ble_eq_true rfl⟩ rfl hl.1 rfl (Nat.le_of_ble_eq_true rfl) dd_W_placeOf_18 ⟨Nat.le_refl _, Nat.le_refl _⟩) (fun r16 hw => ?_)
      refine lv_aload_n hx hb dd_W_placeOf_21 rfl (lv_at hl 1 rfl) ?_
      refine lv_acmp_ne (tgt := 27) (rx := r16) (ry := (some v1)) hx hb dd_W_placeOf_22 (by decide) (fun c17 => ?_) (fun c17 => ?_)
      · replace hw := hw.1 c17
        obtain ⟨x18, ex18⟩ : ∃ y : Int32, y = v2 + 1 := ⟨_, rfl⟩
        replace hw := hw x18 ex18
        have hl0 := hl
        clear hl
        refine lv_iinc (v := x18) (lv' := [(2, .int x18), (0, .ref v0), (1, .ref v1)]) hx hb dd_W_placeOf_27 hl0 (k := 2) rfl (by rw [ex18]; rfl) (by decide) rfl (fun ls hl => ?_)
        refine lv_goto (tgt := 2) hx hb dd_W_placeOf_30 (by decide) ?_
        exact ih _ _ _ _ _ hw hG (lv_sub hl [1, 2, 0] rfl)
      · replace hw := hw.2 c17
        refine lv_iload_n hx hb dd_W_placeOf_25 rfl (lv_at hl 2 rfl) ?_
        exact rs_i C0 hr hlk hw dd_W_placeOf_26
def wp_W_placeOf (g : Gm) (post : Int32 → Prop) (h : Hp) (a0 : Nat) (b1 : Nat) : Prop := ∃ n : Nat, wp_W_placeOf_2 g post n h a0 b1 0
set_option maxHeartbeats 4000000 in
set_option maxRecDepth 100000 in
theorem c_W_placeOf (l : Launch) (g : Gm) (post : Int32 → Prop) (h : Hp) (a0 : Nat) (b1 : Nat) (hw : wp_W_placeOf g post h a0 b1) : Met l (⟨"SegmentLocks$Rows", "placeOf", "(LSegmentLocks$Task;)I"⟩ : MethodName) (ww (⟨"SegmentLocks$Rows", "placeOf", "(LSegmentLocks$Task;)I"⟩ : MethodName) prog_3_method_5_code 3 (some .int)) (rmm 3 64 0 0) (va_Pc [.ref a0, .ref b1] (gS g h)) (vp_Si post) 0 0 (fun _ => False) := by
  first | refine en_met (by decide) ?_ | refine en_metF (by decide) ?_
  intro p e s m below meth c C0 hr hlk hin hG
  have hS : va_S (gA g) s.heap s.heap [] := va_S.rf
  have hl := lv_entry ([.ref a0, .ref b1]) (n := 3) (Nat.le_of_ble_eq_true rfl)
  rw [lg_entry_eq]
  generalize (lg_sl ([.ref a0, .ref b1]) ++ List.replicate (3 - (lg_sl ([.ref a0, .ref b1])).length) Slot.unset).toArray = ls at hl ⊢
  replace hl : lv_has ls 3 [(0, .ref a0), (1, .ref b1)] := hl
  obtain ⟨hx, hb, -, hown, hts, hgk⟩ := id C0
  unfold wp_W_placeOf at hw
  refine lv_iconst (v := 0) hx hb dd_W_placeOf_0 (by decide) ?_
  have hl0 := hl
  clear hl
  refine lv_istore_n (lv' := [(2, .int 0), (0, .ref a0), (1, .ref b1)]) hx hb dd_W_placeOf_1 rfl hl0 (by decide) rfl (fun ls hl => ?_)
  obtain ⟨n, hw⟩ := hw
  exact wk_W_placeOf_2 C0 hr hlk n _ _ _ _ _ hw hG (lv_sub hl [1, 2, 0] rfl)
/-! SegmentLocks$Rows.leave(LSegmentLocks$Task;)V -/
theorem dd_W_leave_0 : decode prog_3_method_4_code 0 = .ok (.aload_n 0, 1) := by decide +kernel
theorem dd_W_leave_1 : decode prog_3_method_4_code 1 = .ok (.aload_n 1, 1) := by decide +kernel
theorem dd_W_leave_2 : decode prog_3_method_4_code 2 = .ok (.invokevirtual 48, 3) := by decide +kernel
theorem dd_W_leave_5 : decode prog_3_method_4_code 5 = .ok (.istore_n 2, 1) := by decide +kernel
theorem dd_W_leave_6 : decode prog_3_method_4_code 6 = .ok (.iload_n 2, 1) := by decide +kernel
theorem dd_W_leave_7 : decode prog_3_method_4_code 7 = .ok (.aload_n 0, 1) := by decide +kernel
theorem dd_W_leave_8 : decode prog_3_method_4_code 8 = .ok (.getfield 12, 3) := by decide +kernel
theorem dd_W_leave_11 : decode prog_3_method_4_code 11 = .ok (.invokevirtual 28, 3) := by decide +kernel
theorem dd_W_leave_14 : decode prog_3_method_4_code 14 = .ok (.if_icmp .ge 12, 3) := by decide +kernel
theorem dd_W_leave_17 : decode prog_3_method_4_code 17 = .ok (.aload_n 0, 1) := by decide +kernel
theorem dd_W_leave_18 : decode prog_3_method_4_code 18 = .ok (.getfield 12, 3) := by decide +kernel
theorem dd_W_leave_21 : decode prog_3_method_4_code 21 = .ok (.iload_n 2, 1) := by decide +kernel
theorem dd_W_leave_22 : decode prog_3_method_4_code 22 = .ok (.invokevirtual 52, 3) := by decide +kernel
theorem dd_W_leave_25 : decode prog_3_method_4_code 25 = .ok (.pop, 1) := by decide +kernel
theorem dd_W_leave_26 : decode prog_3_method_4_code 26 = .ok (.return_, 1) := by decide +kernel
def wp_W_leave_26 (g : Gm) (post : Hp → Prop) (h : Hp) : Prop := post h
set_option maxHeartbeats 4000000 in
set_option maxRecDepth 100000 in
theorem wk_W_leave_26 {p : Program} {l : Launch} {e : Env} {s : State} {m : MethodId} {args : Array Value} {below : List Frame} {meth : Method} {c : Code} {g : Gm} {post : Hp → Prop} (C0 : Cx g p s m args c prog_3_method_4_code 3 "SegmentLocks$Rows") (hr : meth.sig.returnType = none) (hlk : meth.locks = false) : ∀ (h : Hp) (H : Heap) (locs : List Loc) (ls : Array Slot), wp_W_leave_26 g post h → GH g h H → va_S (gA g) s.heap H locs → lv_has ls 3 [] → W p l e (rmm 4 106 0 0) s m args below meth c H locs 0 0 (MQ below (va_Qv post (gS g) (gA g)) args s 0 0 (gA g)) (F0 m 26 ls []) := by
  obtain ⟨hx, hb, -, hown, hts, hgk⟩ := id C0
  intro h H locs ls hw hG hS hl
  unfold wp_W_leave_26 at hw
  exact re_v C0 hG hS hr hlk ⟨Nat.le_refl _, Nat.le_refl _⟩ hw dd_W_leave_26
def wp_W_leave (g : Gm) (post : Hp → Prop) (h : Hp) (a0 : Nat) (b1 : Nat) : Prop := hK h a0 = 2 ∧ wp_W_placeOf g (fun x3 => hK h a0 = 2 ∧ ∃ a5 : Nat, hR h a0 0 = some a5 ∧ hK h a5 = 6 ∧ wp_A_size g (fun x8 => ((x8 ≤ x3 → wp_W_leave_26 g post h) ∧ (¬ x8 ≤ x3 → hK h a0 = 2 ∧ ∃ a11 : Nat, hR h a0 0 = some a11 ∧ hK h a11 = 6 ∧ wp_A_remove g (fun r14 h13 => wp_W_leave_26 g post h13) h a11 x3))) h a5) h a0 b1
set_option maxHeartbeats 4000000 in
set_option maxRecDepth 100000 in
theorem c_W_leave (l : Launch) (g : Gm) (post : Hp → Prop) (h : Hp) (a0 : Nat) (b1 : Nat) (hw : wp_W_leave g post h a0 b1) : Met l (⟨"SegmentLocks$Rows", "leave", "(LSegmentLocks$Task;)V"⟩ : MethodName) (ww (⟨"SegmentLocks$Rows", "leave", "(LSegmentLocks$Task;)V"⟩ : MethodName) prog_3_method_4_code 3 none) (rmm 4 106 0 0) (va_Pc [.ref a0, .ref b1] (gS g h)) (va_Qv post (gS g) (gA g)) 0 0 (gA g) := by
  first | refine en_met (by decide) ?_ | refine en_metF (by decide) ?_
  intro p e s m below meth c C0 hr hlk hin hG
  have hS : va_S (gA g) s.heap s.heap [] := va_S.rf
  have hl := lv_entry ([.ref a0, .ref b1]) (n := 3) (Nat.le_of_ble_eq_true rfl)
  rw [lg_entry_eq]
  generalize (lg_sl ([.ref a0, .ref b1]) ++ List.replicate (3 - (lg_sl ([.ref a0, .ref b1])).length) Slot.unset).toArray = ls at hl ⊢
  replace hl : lv_has ls 3 [(0, .ref a0), (1, .ref b1)] := hl
  obtain ⟨hx, hb, -, hown, hts, hgk⟩ := id C0
  unfold wp_W_leave at hw
  refine lv_aload_n hx hb dd_W_leave_0 rfl (lv_at hl 0 rfl) ?_
  refine lv_aload_n hx hb dd_W_leave_1 rfl (lv_at hl 1 rfl) ?_
  obtain ⟨k1, hw⟩ := hw
  have hw0 := hw
  clear hw
  refine cs_i (rn_V C0 hG hS (c_W_placeOf l g _ h a0 b1 hw0) (ci := 1) k1 (by decide) rfl rfl (host := "") (nest := false) (n := 1) (As := [.ref b1]) (rest := []) km_164 km_163 km_165 km_166 km_39 ⟨by decide, by decide, by decide +kernel⟩ ⟨Nat.le_of_ble_eq_true rfl, Nat.le_of_ble_eq_true rfl⟩ rfl hl.1 rfl (Nat.le_of_ble_eq_true rfl) dd_W_leave_2 ⟨Nat.le_refl _, Nat.le_refl _⟩) (fun x3 hw => ?_)
  have hl0 := hl
  clear hl
  refine lv_istore_n (lv' := [(2, .int x3), (0, .ref a0), (1, .ref b1)]) hx hb dd_W_leave_5 rfl hl0 (by decide) rfl (fun ls hl => ?_)
  refine lv_iload_n hx hb dd_W_leave_6 rfl (lv_at hl 0 rfl) ?_
  refine lv_aload_n hx hb dd_W_leave_7 rfl (lv_at hl 1 rfl) ?_
  obtain ⟨k4, a5, ea5, hw⟩ := hw
  refine gf_W_12 C0 hG k4 ea5 dd_W_leave_8 ?_
  obtain ⟨k6, hw⟩ := hw
  have hw0 := hw
  clear hw
  refine cs_i (rn_V C0 hG hS (c_A_size l g _ h a5 hw0) (ci := 5) k6 (by decide) rfl rfl (host := "") (nest := false) (n := 0) (As := []) (rest := [.int x3]) km_132 km_152 km_133 km_134 km_17 ⟨by decide, by decide, by decide +kernel⟩ ⟨Nat.le_of_ble_eq_true rfl, Nat.le_of_ble_eq_true rfl⟩ rfl hl.1 rfl (Nat.le_of_ble_eq_true rfl) dd_W_leave_11 ⟨Nat.le_refl _, Nat.le_refl _⟩) (fun x8 hw => ?_)
  refine lv_icmp_ge (tgt := 26) hx hb dd_W_leave_14 (by decide) (fun c9 => ?_) (fun c9 => ?_)
  · replace hw := hw.1 c9
    exact wk_W_leave_26 C0 hr hlk _ _ _ _ hw hG hS (lv_sub hl [] rfl)
  · replace hw := hw.2 c9
    refine lv_aload_n hx hb dd_W_leave_17 rfl (lv_at hl 1 rfl) ?_
    obtain ⟨k10, a11, ea11, hw⟩ := hw
    refine gf_W_12 C0 hG k10 ea11 dd_W_leave_18 ?_
    refine lv_iload_n hx hb dd_W_leave_21 rfl (lv_at hl 0 rfl) ?_
    obtain ⟨k12, hw⟩ := hw
    refine ca_q hS (rn_V C0 hG hS (c_A_remove l g _ h a11 x3 hw) (ci := 5) k12 (by decide) rfl rfl (host := "") (nest := false) (n := 1) (As := [.int x3]) (rest := []) km_160 km_159 km_161 km_162 km_17 ⟨by decide, by decide, by decide +kernel⟩ ⟨Nat.le_of_ble_eq_true rfl, Nat.le_of_ble_eq_true rfl⟩ rfl hl.1 rfl (Nat.le_of_ble_eq_true rfl) dd_W_leave_22 ⟨Nat.le_refl _, Nat.le_refl _⟩) (fun r14 h13 H locs hw hG hS => ?_)
    refine lv_pop hx hb dd_W_leave_25 (by cases r14 <;> rfl) ?_
    exact wk_W_leave_26 C0 hr hlk _ _ _ _ hw hG hS (lv_sub hl [] rfl)
/-! SegmentLocks$Rows.first(I)LSegmentLocks$Task; -/
theorem dd_W_first_0 : decode prog_3_method_6_code 0 = .ok (.iconst 0, 1) := by decide +kernel
theorem dd_W_first_1 : decode prog_3_method_6_code 1 = .ok (.istore_n 2, 1) := by decide +kernel
theorem dd_W_first_2 : decode prog_3_method_6_code 2 = .ok (.iload_n 2, 1) := by decide +kernel
theorem dd_W_first_3 : decode prog_3_method_6_code 3 = .ok (.aload_n 0, 1) := by decide +kernel
theorem dd_W_first_4 : decode prog_3_method_6_code 4 = .ok (.getfield 12, 3) := by decide +kernel
theorem dd_W_first_7 : decode prog_3_method_6_code 7 = .ok (.invokevirtual 28, 3) := by decide +kernel
theorem dd_W_first_10 : decode prog_3_method_6_code 10 = .ok (.if_icmp .ge 39, 3) := by decide +kernel
theorem dd_W_first_13 : decode prog_3_method_6_code 13 = .ok (.aload_n 0, 1) := by decide +kernel
theorem dd_W_first_14 : decode prog_3_method_6_code 14 = .ok (.getfield 12, 3) := by decide +kernel
theorem dd_W_first_17 : decode prog_3_method_6_code 17 = .ok (.iload_n 2, 1) := by decide +kernel
theorem dd_W_first_18 : decode prog_3_method_6_code 18 = .ok (.invokevirtual 44, 3) := by decide +kernel
theorem dd_W_first_21 : decode prog_3_method_6_code 21 = .ok (.checkcast 19, 3) := by decide +kernel
theorem dd_W_first_24 : decode prog_3_method_6_code 24 = .ok (.getfield 18, 3) := by decide +kernel
theorem dd_W_first_27 : decode prog_3_method_6_code 27 = .ok (.iload_n 1, 1) := by decide +kernel
theorem dd_W_first_28 : decode prog_3_method_6_code 28 = .ok (.if_icmp .ne 15, 3) := by decide +kernel
theorem dd_W_first_31 : decode prog_3_method_6_code 31 = .ok (.aload_n 0, 1) := by decide +kernel
theorem dd_W_first_32 : decode prog_3_method_6_code 32 = .ok (.getfield 12, 3) := by decide +kernel
theorem dd_W_first_35 : decode prog_3_method_6_code 35 = .ok (.iload_n 2, 1) := by decide +kernel
theorem dd_W_first_36 : decode prog_3_method_6_code 36 = .ok (.invokevirtual 44, 3) := by decide +kernel
theorem dd_W_first_39 : decode prog_3_method_6_code 39 = .ok (.checkcast 19, 3) := by decide +kernel
theorem dd_W_first_42 : decode prog_3_method_6_code 42 = .ok (.areturn, 1) := by decide +kernel
theorem dd_W_first_43 : decode prog_3_method_6_code 43 = .ok (.iinc 2 1, 3) := by decide +kernel
theorem dd_W_first_46 : decode prog_3_method_6_code 46 = .ok (.goto (-44), 3) := by decide +kernel
theorem dd_W_first_49 : decode prog_3_method_6_code 49 = .ok (.aconst_null, 1) := by decide +kernel
theorem dd_W_first_50 : decode prog_3_method_6_code 50 = .ok (.areturn, 1) := by decide +kernel
def wp_W_first_2 (g : Gm) (post : Option Nat → Prop) : Nat → Hp → Nat → Int32 → Int32 → Prop
  | 0, _, _, _, _ => False
  | fu + 1, h, v0, v1, v2 => hK h v0 = 2 ∧ ∃ a2 : Nat, hR h v0 0 = some a2 ∧ hK h a2 = 6 ∧ wp_A_size g (fun x5 => ((x5 ≤ v2 → post none) ∧ (¬ x5 ≤ v2 → hK h v0 = 2 ∧ ∃ a8 : Nat, hR h v0 0 = some a8 ∧ hK h a8 = 6 ∧ wp_A_get g (fun r11 => ∃ a12 : Nat, r11 = some a12 ∧ hK h a12 = 4 ∧ hK h a12 = 4 ∧ ((¬ (hI h a12 13) = v1 → ∀ x16 : Int32, x16 = v2 + 1 → wp_W_first_2 g post fu h v0 v1 x16) ∧ ((hI h a12 13) = v1 → hK h v0 = 2 ∧ ∃ a18 : Nat, hR h v0 0 = some a18 ∧ hK h a18 = 6 ∧ wp_A_get g (fun r21 => ∃ a22 : Nat, r21 = some a22 ∧ hK h a22 = 4 ∧ post (some a22)) h a18 v2))) h a8 v2))) h a2
set_option maxHeartbeats 4000000 in
set_option maxRecDepth 100000 in
theorem wk_W_first_2 {p : Program} {l : Launch} {e : Env} {s : State} {m : MethodId} {args : Array Value} {below : List Frame} {meth : Method} {c : Code} {g : Gm} {post : Option Nat → Prop} (C0 : Cx g p s m args c prog_3_method_6_code 3 "SegmentLocks$Rows") (hr : meth.sig.returnType = (some (.object "SegmentLocks$Task"))) (hlk : meth.locks = false) : ∀ n : Nat, ∀ (h : Hp) (v0 : Nat) (v1 : Int32) (v2 : Int32) (ls : Array Slot), wp_W_first_2 g post n h v0 v1 v2 → GH g h s.heap → lv_has ls 3 [(0, .ref v0), (1, .int v1), (2, .int v2)] → W p l e (rmm 3 64 0 0) s m args below meth c s.heap [] 0 0 (MQ below (va_Sq post) args s 0 0 (fun _ => False)) (F0 m 2 ls []) := by
  obtain ⟨hx, hb, -, hown, hts, hgk⟩ := id C0
  have hS : va_S (gA g) s.heap s.heap [] := va_S.rf
  intro n
  induction n with
  | zero =>
    intro h v0 v1 v2 ls hw hG hl
    exact hw.elim
  | succ n ih =>
    intro h v0 v1 v2 ls hw hG hl
    unfold wp_W_first_2 at hw
    refine lv_iload_n hx hb dd_W_first_2 rfl (lv_at hl 2 rfl) ?_
    refine lv_aload_n hx hb dd_W_first_3 rfl (lv_at hl 0 rfl) ?_
    obtain ⟨k1, a2, ea2, hw⟩ := hw
    refine gf_W_12 C0 hG k1 ea2 dd_W_first_4 ?_
    obtain ⟨k3, hw⟩ := hw
    have hw0 := hw
    clear hw
    refine cs_i (rn_V C0 hG hS (c_A_size l g _ h a2 hw0) (ci := 5) k3 (by decide) rfl rfl (host := "") (nest := false) (n := 0) (As := []) (rest := [.int v2]) km_132 km_152 km_133 km_134 km_17 ⟨by decide, by decide, by decide +kernel⟩ ⟨Nat.le_of_ble_eq_true rfl, Nat.le_of_ble_eq_true rfl⟩ rfl hl.1 rfl (Nat.le_of_ble_eq_true rfl) dd_W_first_7 ⟨Nat.le_refl _, Nat.le_refl _⟩) (fun x5 hw => ?_)
    refine lv_icmp_ge (tgt := 49) hx hb dd_W_first_10 (by decide) (fun c6 => ?_) (fun c6 => ?_)
    · replace hw := hw.1 c6
      refine lv_null hx hb dd_W_first_49 ?_
      exact rs_q (v := none) C0 hr (by first | exact Or.inl ⟨_, rfl⟩ | exact Or.inr ⟨_, rfl⟩) hlk hw dd_W_first_50
    · replace hw := hw.2 c6
      refine lv_aload_n hx hb dd_W_first_13 rfl (lv_at hl 0 rfl) ?_
      obtain ⟨k7, a8, ea8, hw⟩ := hw
      refine gf_W_12 C0 hG k7 ea8 dd_W_first_14 ?_
      refine lv_iload_n hx hb dd_W_first_17 rfl (lv_at hl 2 rfl) ?_
      obtain ⟨k9, hw⟩ := hw
      have hw0 := hw
      clear hw
      refine cs_q (rn_V C0 hG hS (c_A_get l g _ h a8 v2 hw0) (ci := 5) k9 (by decide) rfl rfl (host := "") (nest := false) (n := 1) (As := [.int v2]) (rest := []) km_149 km_153 km_150 km_151 km_17 ⟨by decide, by decide, by decide +kernel⟩ ⟨Nat.le_of_ble_eq_true rfl, Nat.le_of_ble_eq_true rfl⟩ rfl hl.1 rfl (Nat.le_of_ble_eq_true rfl) dd_W_first_18 ⟨Nat.le_refl _, Nat.le_refl _⟩) (fun r11 hw => ?_)
      obtain ⟨a12, rfl, hw⟩ := hw
      replace hl : lv_has ls 3 [(0, .ref v0), (1, .int v1), (2, .int v2)] := hl
      obtain ⟨k13, hw⟩ := hw
      refine va_castY (C := RX3) hx hb hown (hts _ km_171) (hgk.2.1 _ km_147) (px_recv C0 hG (ci := 3) k13 (by decide) rfl) dd_W_first_21 ?_
      obtain ⟨k14, hw⟩ := hw
      refine gf_W_18 C0 hG k14 dd_W_first_24 ?_
      refine lv_iload_n hx hb dd_W_first_27 rfl (lv_at hl 1 rfl) ?_
      refine lv_icmp_ne (tgt := 43) hx hb dd_W_first_28 (by decide) (fun c15 => ?_) (fun c15 => ?_)
      · replace hw := hw.1 c15
        obtain ⟨x16, ex16⟩ : ∃ y : Int32, y = v2 + 1 := ⟨_, rfl⟩
        replace hw := hw x16 ex16
        have hl0 := hl
        clear hl
        refine lv_iinc (v := x16) (lv' := [(2, .int x16), (0, .ref v0), (1, .int v1)]) hx hb dd_W_first_43 hl0 (k := 2) rfl (by rw [ex16]; rfl) (by decide) rfl (fun ls hl => ?_)
        refine lv_goto (tgt := 2) hx hb dd_W_first_46 (by decide) ?_
        exact ih _ _ _ _ _ hw hG (lv_sub hl [1, 2, 0] rfl)
      · replace hw := hw.2 c15
        refine lv_aload_n hx hb dd_W_first_31 rfl (lv_at hl 0 rfl) ?_
        obtain ⟨k17, a18, ea18, hw⟩ := hw
        refine gf_W_12 C0 hG k17 ea18 dd_W_first_32 ?_
        refine lv_iload_n hx hb dd_W_first_35 rfl (lv_at hl 2 rfl) ?_
        obtain ⟨k19, hw⟩ := hw
        have hw0 := hw
        clear hw
        refine cs_q (rn_V C0 hG hS (c_A_get l g _ h a18 v2 hw0) (ci := 5) k19 (by decide) rfl rfl (host := "") (nest := false) (n := 1) (As := [.int v2]) (rest := []) km_149 km_153 km_150 km_151 km_17 ⟨by decide, by decide, by decide +kernel⟩ ⟨Nat.le_of_ble_eq_true rfl, Nat.le_of_ble_eq_true rfl⟩ rfl hl.1 rfl (Nat.le_of_ble_eq_true rfl) dd_W_first_36 ⟨Nat.le_refl _, Nat.le_refl _⟩) (fun r21 hw => ?_)
        obtain ⟨a22, rfl, hw⟩ := hw
        replace hl : lv_has ls 3 [(0, .ref v0), (1, .int v1), (2, .int v2)] := hl
        obtain ⟨k23, hw⟩ := hw
        refine va_castY (C := RX3) hx hb hown (hts _ km_171) (hgk.2.1 _ km_147) (px_recv C0 hG (ci := 3) k23 (by decide) rfl) dd_W_first_39 ?_
        exact rs_q (v := (some a22)) C0 hr (by first | exact Or.inl ⟨_, rfl⟩ | exact Or.inr ⟨_, rfl⟩) hlk hw dd_W_first_42
def wp_W_first (g : Gm) (post : Option Nat → Prop) (h : Hp) (a0 : Nat) (i1 : Int32) : Prop := ∃ n : Nat, wp_W_first_2 g post n h a0 i1 0
set_option maxHeartbeats 4000000 in
set_option maxRecDepth 100000 in
theorem c_W_first (l : Launch) (g : Gm) (post : Option Nat → Prop) (h : Hp) (a0 : Nat) (i1 : Int32) (hw : wp_W_first g post h a0 i1) : Met l (⟨"SegmentLocks$Rows", "first", "(I)LSegmentLocks$Task;"⟩ : MethodName) (ww (⟨"SegmentLocks$Rows", "first", "(I)LSegmentLocks$Task;"⟩ : MethodName) prog_3_method_6_code 3 (some (.object "SegmentLocks$Task"))) (rmm 3 64 0 0) (va_Pc [.ref a0, .int i1] (gS g h)) (va_Sq post) 0 0 (fun _ => False) := by
  first | refine en_met (by decide) ?_ | refine en_metF (by decide) ?_
  intro p e s m below meth c C0 hr hlk hin hG
  have hS : va_S (gA g) s.heap s.heap [] := va_S.rf
  have hl := lv_entry ([.ref a0, .int i1]) (n := 3) (Nat.le_of_ble_eq_true rfl)
  rw [lg_entry_eq]
  generalize (lg_sl ([.ref a0, .int i1]) ++ List.replicate (3 - (lg_sl ([.ref a0, .int i1])).length) Slot.unset).toArray = ls at hl ⊢
  replace hl : lv_has ls 3 [(0, .ref a0), (1, .int i1)] := hl
  obtain ⟨hx, hb, -, hown, hts, hgk⟩ := id C0
  unfold wp_W_first at hw
  refine lv_iconst (v := 0) hx hb dd_W_first_0 (by decide) ?_
  have hl0 := hl
  clear hl
  refine lv_istore_n (lv' := [(2, .int 0), (0, .ref a0), (1, .int i1)]) hx hb dd_W_first_1 rfl hl0 (by decide) rfl (fun ls hl => ?_)
  obtain ⟨n, hw⟩ := hw
  exact wk_W_first_2 C0 hr hlk n _ _ _ _ _ hw hG (lv_sub hl [1, 2, 0] rfl)
/-! SegmentLocks$Rows.firstWithoutLock(I)I -/
theorem dd_W_firstWithoutLock_0 : decode prog_3_method_3_code 0 = .ok (.iconst 0, 1) := by decide +kernel
theorem dd_W_firstWithoutLock_1 : decode prog_3_method_3_code 1 = .ok (.istore_n 2, 1) := by decide +kernel
theorem dd_W_firstWithoutLock_2 : decode prog_3_method_3_code 2 = .ok (.iload_n 2, 1) := by decide +kernel
theorem dd_W_firstWithoutLock_3 : decode prog_3_method_3_code 3 = .ok (.aload_n 0, 1) := by decide +kernel
theorem dd_W_firstWithoutLock_4 : decode prog_3_method_3_code 4 = .ok (.getfield 12, 3) := by decide +kernel
theorem dd_W_firstWithoutLock_7 : decode prog_3_method_3_code 7 = .ok (.invokevirtual 28, 3) := by decide +kernel
theorem dd_W_firstWithoutLock_10 : decode prog_3_method_3_code 10 = .ok (.if_icmp .ge 41, 3) := by decide +kernel
theorem dd_W_firstWithoutLock_13 : decode prog_3_method_3_code 13 = .ok (.aload_n 0, 1) := by decide +kernel
theorem dd_W_firstWithoutLock_14 : decode prog_3_method_3_code 14 = .ok (.getfield 12, 3) := by decide +kernel
theorem dd_W_firstWithoutLock_17 : decode prog_3_method_3_code 17 = .ok (.iload_n 2, 1) := by decide +kernel
theorem dd_W_firstWithoutLock_18 : decode prog_3_method_3_code 18 = .ok (.invokevirtual 44, 3) := by decide +kernel
theorem dd_W_firstWithoutLock_21 : decode prog_3_method_3_code 21 = .ok (.checkcast 19, 3) := by decide +kernel
theorem dd_W_firstWithoutLock_24 : decode prog_3_method_3_code 24 = .ok (.astore_n 3, 1) := by decide +kernel
theorem dd_W_firstWithoutLock_25 : decode prog_3_method_3_code 25 = .ok (.aload_n 3, 1) := by decide +kernel
theorem dd_W_firstWithoutLock_26 : decode prog_3_method_3_code 26 = .ok (.getfield 18, 3) := by decide +kernel
theorem dd_W_firstWithoutLock_29 : decode prog_3_method_3_code 29 = .ok (.iload_n 1, 1) := by decide +kernel
theorem dd_W_firstWithoutLock_30 : decode prog_3_method_3_code 30 = .ok (.if_icmp .ne 15, 3) := by decide +kernel
theorem dd_W_firstWithoutLock_33 : decode prog_3_method_3_code 33 = .ok (.aload_n 3, 1) := by decide +kernel
theorem dd_W_firstWithoutLock_34 : decode prog_3_method_3_code 34 = .ok (.getfield 32, 3) := by decide +kernel
theorem dd_W_firstWithoutLock_37 : decode prog_3_method_3_code 37 = .ok (.iload_n 1, 1) := by decide +kernel
theorem dd_W_firstWithoutLock_38 : decode prog_3_method_3_code 38 = .ok (.iaload, 1) := by decide +kernel
theorem dd_W_firstWithoutLock_39 : decode prog_3_method_3_code 39 = .ok (.iconst (-1), 1) := by decide +kernel
theorem dd_W_firstWithoutLock_40 : decode prog_3_method_3_code 40 = .ok (.if_icmp .ne 5, 3) := by decide +kernel
theorem dd_W_firstWithoutLock_43 : decode prog_3_method_3_code 43 = .ok (.iload_n 2, 1) := by decide +kernel
theorem dd_W_firstWithoutLock_44 : decode prog_3_method_3_code 44 = .ok (.ireturn, 1) := by decide +kernel
theorem dd_W_firstWithoutLock_45 : decode prog_3_method_3_code 45 = .ok (.iinc 2 1, 3) := by decide +kernel
theorem dd_W_firstWithoutLock_48 : decode prog_3_method_3_code 48 = .ok (.goto (-46), 3) := by decide +kernel
theorem dd_W_firstWithoutLock_51 : decode prog_3_method_3_code 51 = .ok (.aload_n 0, 1) := by decide +kernel
theorem dd_W_firstWithoutLock_52 : decode prog_3_method_3_code 52 = .ok (.getfield 12, 3) := by decide +kernel
theorem dd_W_firstWithoutLock_55 : decode prog_3_method_3_code 55 = .ok (.invokevirtual 28, 3) := by decide +kernel
theorem dd_W_firstWithoutLock_58 : decode prog_3_method_3_code 58 = .ok (.ireturn, 1) := by decide +kernel
def wp_W_firstWithoutLock_45 (g : Gm) (post : Int32 → Prop) (K2 : Hp → Nat → Int32 → Int32 → Prop) (h : Hp) (v0 : Nat) (v1 : Int32) (v2 : Int32) : Prop := ∀ x1 : Int32, x1 = v2 + 1 → K2 h v0 v1 x1
set_option maxHeartbeats 4000000 in
set_option maxRecDepth 100000 in
theorem wk_W_firstWithoutLock_45 {p : Program} {l : Launch} {e : Env} {s : State} {m : MethodId} {args : Array Value} {below : List Frame} {meth : Method} {c : Code} {g : Gm} {post : Int32 → Prop} (C0 : Cx g p s m args c prog_3_method_3_code 4 "SegmentLocks$Rows") (hr : meth.sig.returnType = (some .int)) (hlk : meth.locks = false) {K2 : Hp → Nat → Int32 → Int32 → Prop} (hK2 : ∀ (h : Hp) (v0 : Nat) (v1 : Int32) (v2 : Int32) (ls : Array Slot), K2 h v0 v1 v2 → GH g h s.heap → lv_has ls 4 [(0, .ref v0), (1, .int v1), (2, .int v2)] → W p l e (rmm 3 64 0 0) s m args below meth c s.heap [] 0 0 (MQ below (vp_Si post) args s 0 0 (fun _ => False)) (F0 m 2 ls [])) : ∀ (h : Hp) (v0 : Nat) (v1 : Int32) (v2 : Int32) (ls : Array Slot), wp_W_firstWithoutLock_45 g post K2 h v0 v1 v2 → GH g h s.heap → lv_has ls 4 [(0, .ref v0), (1, .int v1), (2, .int v2)] → W p l e (rmm 3 64 0 0) s m args below meth c s.heap [] 0 0 (MQ below (vp_Si post) args s 0 0 (fun _ => False)) (F0 m 45 ls []) := by
  obtain ⟨hx, hb, -, hown, hts, hgk⟩ := id C0
  have hS : va_S (gA g) s.heap s.heap [] := va_S.rf
  intro h v0 v1 v2 ls hw hG hl
  unfold wp_W_firstWithoutLock_45 at hw
  obtain ⟨x1, ex1⟩ : ∃ y : Int32, y = v2 + 1 := ⟨_, rfl⟩
  replace hw := hw x1 ex1
  have hl0 := hl
  clear hl
  refine lv_iinc (v := x1) (lv' := [(2, .int x1), (0, .ref v0), (1, .int v1)]) hx hb dd_W_firstWithoutLock_45 hl0 (k := 2) rfl (by rw [ex1]; rfl) (by decide) rfl (fun ls hl => ?_)
  refine lv_goto (tgt := 2) hx hb dd_W_firstWithoutLock_48 (by decide) ?_
  exact hK2 _ _ _ _ _ hw hG (lv_sub hl [1, 2, 0] rfl)
def wp_W_firstWithoutLock_2 (g : Gm) (post : Int32 → Prop) : Nat → Hp → Nat → Int32 → Int32 → Prop
  | 0, _, _, _, _ => False
  | fu + 1, h, v0, v1, v2 => hK h v0 = 2 ∧ ∃ a2 : Nat, hR h v0 0 = some a2 ∧ hK h a2 = 6 ∧ wp_A_size g (fun x5 => ((x5 ≤ v2 → hK h v0 = 2 ∧ ∃ a8 : Nat, hR h v0 0 = some a8 ∧ hK h a8 = 6 ∧ wp_A_size g (fun x11 => post x11) h a8) ∧ (¬ x5 ≤ v2 → hK h v0 = 2 ∧ ∃ a13 : Nat, hR h v0 0 = some a13 ∧ hK h a13 = 6 ∧ wp_A_get g (fun r16 => ∃ a17 : Nat, r16 = some a17 ∧ hK h a17 = 4 ∧ hK h a17 = 4 ∧ ((¬ (hI h a17 13) = v1 → wp_W_firstWithoutLock_45 g post (fun h v0 v1 v2 => wp_W_firstWithoutLock_2 g post fu h v0 v1 v2) h v0 v1 v2) ∧ ((hI h a17 13) = v1 → hK h a17 = 4 ∧ ∃ a22 : Nat, hR h a17 2 = some a22 ∧ hK h a22 = 21 ∧ vp_in v1 (hN h a22) ∧ ((¬ (hI h a22 v1.toNatClampNeg) = (-1) → wp_W_firstWithoutLock_45 g post (fun h v0 v1 v2 => wp_W_firstWithoutLock_2 g post fu h v0 v1 v2) h v0 v1 v2) ∧ ((hI h a22 v1.toNatClampNeg) = (-1) → post v2))))) h a13 v2))) h a2
set_option maxHeartbeats 4000000 in
set_option maxRecDepth 100000 in
theorem wk_W_firstWithoutLock_2 {p : Program} {l : Launch} {e : Env} {s : State} {m : MethodId} {args : Array Value} {below : List Frame} {meth : Method} {c : Code} {g : Gm} {post : Int32 → Prop} (C0 : Cx g p s m args c prog_3_method_3_code 4 "SegmentLocks$Rows") (hr : meth.sig.returnType = (some .int)) (hlk : meth.locks = false) : ∀ n : Nat, ∀ (h : Hp) (v0 : Nat) (v1 : Int32) (v2 : Int32) (ls : Array Slot), wp_W_firstWithoutLock_2 g post n h v0 v1 v2 → GH g h s.heap → lv_has ls 4 [(0, .ref v0), (1, .int v1), (2, .int v2)] → W p l e (rmm 3 64 0 0) s m args below meth c s.heap [] 0 0 (MQ below (vp_Si post) args s 0 0 (fun _ => False)) (F0 m 2 ls []) := by
  obtain ⟨hx, hb, -, hown, hts, hgk⟩ := id C0
  have hS : va_S (gA g) s.heap s.heap [] := va_S.rf
  intro n
  induction n with
  | zero =>
    intro h v0 v1 v2 ls hw hG hl
    exact hw.elim
  | succ n ih =>
    intro h v0 v1 v2 ls hw hG hl
    unfold wp_W_firstWithoutLock_2 at hw
    refine lv_iload_n hx hb dd_W_firstWithoutLock_2 rfl (lv_at hl 2 rfl) ?_
    refine lv_aload_n hx hb dd_W_firstWithoutLock_3 rfl (lv_at hl 0 rfl) ?_
    obtain ⟨k1, a2, ea2, hw⟩ := hw
    refine gf_W_12 C0 hG k1 ea2 dd_W_firstWithoutLock_4 ?_
    obtain ⟨k3, hw⟩ := hw
    have hw0 := hw
    clear hw
    refine cs_i (rn_V C0 hG hS (c_A_size l g _ h a2 hw0) (ci := 5) k3 (by decide) rfl rfl (host := "") (nest := false) (n := 0) (As := []) (rest := [.int v2]) km_132 km_152 km_133 km_134 km_17 ⟨by decide, by decide, by decide +kernel⟩ ⟨Nat.le_of_ble_eq_true rfl, Nat.le_of_ble_eq_true rfl⟩ rfl hl.1 rfl (Nat.le_of_ble_eq_true rfl) dd_W_firstWithoutLock_7 ⟨Nat.le_refl _, Nat.le_refl _⟩) (fun x5 hw => ?_)
    refine lv_icmp_ge (tgt := 51) hx hb dd_W_firstWithoutLock_10 (by decide) (fun c6 => ?_) (fun c6 => ?_)
    · replace hw := hw.1 c6
      refine lv_aload_n hx hb dd_W_firstWithoutLock_51 rfl (lv_at hl 0 rfl) ?_
      obtain ⟨k7, a8, ea8, hw⟩ := hw
      refine gf_W_12 C0 hG k7 ea8 dd_W_firstWithoutLock_52 ?_
      obtain ⟨k9, hw⟩ := hw
      have hw0 := hw
      clear hw
      refine cs_i (rn_V C0 hG hS (c_A_size l g _ h a8 hw0) (ci := 5) k9 (by decide) rfl rfl (host := "") (nest := false) (n := 0) (As := []) (rest := []) km_132 km_152 km_133 km_134 km_17 ⟨by decide, by decide, by decide +kernel⟩ ⟨Nat.le_of_ble_eq_true rfl, Nat.le_of_ble_eq_true rfl⟩ rfl hl.1 rfl (Nat.le_of_ble_eq_true rfl) dd_W_firstWithoutLock_55 ⟨Nat.le_refl _, Nat.le_refl _⟩) (fun x11 hw => ?_)
      exact rs_i C0 hr hlk hw dd_W_firstWithoutLock_58
    · replace hw := hw.2 c6
      refine lv_aload_n hx hb dd_W_firstWithoutLock_13 rfl (lv_at hl 0 rfl) ?_
      obtain ⟨k12, a13, ea13, hw⟩ := hw
      refine gf_W_12 C0 hG k12 ea13 dd_W_firstWithoutLock_14 ?_
      refine lv_iload_n hx hb dd_W_firstWithoutLock_17 rfl (lv_at hl 2 rfl) ?_
      obtain ⟨k14, hw⟩ := hw
      have hw0 := hw
      clear hw
      refine cs_q (rn_V C0 hG hS (c_A_get l g _ h a13 v2 hw0) (ci := 5) k14 (by decide) rfl rfl (host := "") (nest := false) (n := 1) (As := [.int v2]) (rest := []) km_149 km_153 km_150 km_151 km_17 ⟨by decide, by decide, by decide +kernel⟩ ⟨Nat.le_of_ble_eq_true rfl, Nat.le_of_ble_eq_true rfl⟩ rfl hl.1 rfl (Nat.le_of_ble_eq_true rfl) dd_W_firstWithoutLock_18 ⟨Nat.le_refl _, Nat.le_refl _⟩) (fun r16 hw => ?_)
      obtain ⟨a17, rfl, hw⟩ := hw
      replace hl : lv_has ls 4 [(0, .ref v0), (1, .int v1), (2, .int v2)] := hl
      obtain ⟨k18, hw⟩ := hw
      refine va_castY (C := RX3) hx hb hown (hts _ km_171) (hgk.2.1 _ km_147) (px_recv C0 hG (ci := 3) k18 (by decide) rfl) dd_W_firstWithoutLock_21 ?_
      have hl0 := hl
      clear hl
      refine lv_astore_n (lv' := [(3, .ref a17), (0, .ref v0), (1, .int v1), (2, .int v2)]) hx hb dd_W_firstWithoutLock_24 rfl hl0 (by decide) rfl (fun ls hl => ?_)
      refine lv_aload_n hx hb dd_W_firstWithoutLock_25 rfl (lv_at hl 0 rfl) ?_
      obtain ⟨k19, hw⟩ := hw
      refine gf_W_18 C0 hG k19 dd_W_firstWithoutLock_26 ?_
      refine lv_iload_n hx hb dd_W_firstWithoutLock_29 rfl (lv_at hl 2 rfl) ?_
      refine lv_icmp_ne (tgt := 45) hx hb dd_W_firstWithoutLock_30 (by decide) (fun c20 => ?_) (fun c20 => ?_)
      · replace hw := hw.1 c20
        exact wk_W_firstWithoutLock_45 C0 hr hlk ih _ _ _ _ _ hw hG (lv_sub hl [1, 2, 3] rfl)
      · replace hw := hw.2 c20
        refine lv_aload_n hx hb dd_W_firstWithoutLock_33 rfl (lv_at hl 0 rfl) ?_
        obtain ⟨k21, a22, ea22, hw⟩ := hw
        refine gf_W_32 C0 hG k21 ea22 dd_W_firstWithoutLock_34 ?_
        refine lv_iload_n hx hb dd_W_firstWithoutLock_37 rfl (lv_at hl 2 rfl) ?_
        obtain ⟨k23, k23i, hw⟩ := hw
        refine px_iald C0 hG k23 k23i dd_W_firstWithoutLock_38 ?_
        refine lv_iconst (v := (-1)) hx hb dd_W_firstWithoutLock_39 (by decide) ?_
        refine lv_icmp_ne (tgt := 45) hx hb dd_W_firstWithoutLock_40 (by decide) (fun c24 => ?_) (fun c24 => ?_)
        · replace hw := hw.1 c24
          exact wk_W_firstWithoutLock_45 C0 hr hlk ih _ _ _ _ _ hw hG (lv_sub hl [1, 2, 3] rfl)
        · replace hw := hw.2 c24
          refine lv_iload_n hx hb dd_W_firstWithoutLock_43 rfl (lv_at hl 3 rfl) ?_
          exact rs_i C0 hr hlk hw dd_W_firstWithoutLock_44
def wp_W_firstWithoutLock (g : Gm) (post : Int32 → Prop) (h : Hp) (a0 : Nat) (i1 : Int32) : Prop := ∃ n : Nat, wp_W_firstWithoutLock_2 g post n h a0 i1 0
set_option maxHeartbeats 4000000 in
set_option maxRecDepth 100000 in
theorem c_W_firstWithoutLock (l : Launch) (g : Gm) (post : Int32 → Prop) (h : Hp) (a0 : Nat) (i1 : Int32) (hw : wp_W_firstWithoutLock g post h a0 i1) : Met l (⟨"SegmentLocks$Rows", "firstWithoutLock", "(I)I"⟩ : MethodName) (ww (⟨"SegmentLocks$Rows", "firstWithoutLock", "(I)I"⟩ : MethodName) prog_3_method_3_code 4 (some .int)) (rmm 3 64 0 0) (va_Pc [.ref a0, .int i1] (gS g h)) (vp_Si post) 0 0 (fun _ => False) := by
  first | refine en_met (by decide) ?_ | refine en_metF (by decide) ?_
  intro p e s m below meth c C0 hr hlk hin hG
  have hS : va_S (gA g) s.heap s.heap [] := va_S.rf
  have hl := lv_entry ([.ref a0, .int i1]) (n := 4) (Nat.le_of_ble_eq_true rfl)
  rw [lg_entry_eq]
  generalize (lg_sl ([.ref a0, .int i1]) ++ List.replicate (4 - (lg_sl ([.ref a0, .int i1])).length) Slot.unset).toArray = ls at hl ⊢
  replace hl : lv_has ls 4 [(0, .ref a0), (1, .int i1)] := hl
  obtain ⟨hx, hb, -, hown, hts, hgk⟩ := id C0
  unfold wp_W_firstWithoutLock at hw
  refine lv_iconst (v := 0) hx hb dd_W_firstWithoutLock_0 (by decide) ?_
  have hl0 := hl
  clear hl
  refine lv_istore_n (lv' := [(2, .int 0), (0, .ref a0), (1, .int i1)]) hx hb dd_W_firstWithoutLock_1 rfl hl0 (by decide) rfl (fun ls hl => ?_)
  obtain ⟨n, hw⟩ := hw
  exact wk_W_firstWithoutLock_2 C0 hr hlk n _ _ _ _ _ hw hG (lv_sub hl [1, 2, 0] rfl)
/-! SegmentLocks$Rows.enter(LSegmentLocks$Task;)V -/
theorem dd_W_enter_0 : decode prog_3_method_2_code 0 = .ok (.aload_n 1, 1) := by decide +kernel
theorem dd_W_enter_1 : decode prog_3_method_2_code 1 = .ok (.getfield 18, 3) := by decide +kernel
theorem dd_W_enter_4 : decode prog_3_method_2_code 4 = .ok (.istore_n 2, 1) := by decide +kernel
theorem dd_W_enter_5 : decode prog_3_method_2_code 5 = .ok (.iload_n 2, 1) := by decide +kernel
theorem dd_W_enter_6 : decode prog_3_method_2_code 6 = .ok (.invokestatic 24, 3) := by decide +kernel
theorem dd_W_enter_9 : decode prog_3_method_2_code 9 = .ok (.ifCond .ne 4, 3) := by decide +kernel
theorem dd_W_enter_12 : decode prog_3_method_2_code 12 = .ok (.return_, 1) := by decide +kernel
theorem dd_W_enter_13 : decode prog_3_method_2_code 13 = .ok (.aload_n 0, 1) := by decide +kernel
theorem dd_W_enter_14 : decode prog_3_method_2_code 14 = .ok (.getfield 12, 3) := by decide +kernel
theorem dd_W_enter_17 : decode prog_3_method_2_code 17 = .ok (.invokevirtual 28, 3) := by decide +kernel
theorem dd_W_enter_20 : decode prog_3_method_2_code 20 = .ok (.istore_n 3, 1) := by decide +kernel
theorem dd_W_enter_21 : decode prog_3_method_2_code 21 = .ok (.aload_n 1, 1) := by decide +kernel
theorem dd_W_enter_22 : decode prog_3_method_2_code 22 = .ok (.getfield 32, 3) := by decide +kernel
theorem dd_W_enter_25 : decode prog_3_method_2_code 25 = .ok (.iload_n 2, 1) := by decide +kernel
theorem dd_W_enter_26 : decode prog_3_method_2_code 26 = .ok (.iaload, 1) := by decide +kernel
theorem dd_W_enter_27 : decode prog_3_method_2_code 27 = .ok (.iconst (-1), 1) := by decide +kernel
theorem dd_W_enter_28 : decode prog_3_method_2_code 28 = .ok (.if_icmp .eq 9, 3) := by decide +kernel
theorem dd_W_enter_31 : decode prog_3_method_2_code 31 = .ok (.aload_n 0, 1) := by decide +kernel
theorem dd_W_enter_32 : decode prog_3_method_2_code 32 = .ok (.iload_n 2, 1) := by decide +kernel
theorem dd_W_enter_33 : decode prog_3_method_2_code 33 = .ok (.invokevirtual 36, 3) := by decide +kernel
theorem dd_W_enter_36 : decode prog_3_method_2_code 36 = .ok (.istore_n 3, 1) := by decide +kernel
theorem dd_W_enter_37 : decode prog_3_method_2_code 37 = .ok (.aload_n 0, 1) := by decide +kernel
theorem dd_W_enter_38 : decode prog_3_method_2_code 38 = .ok (.getfield 12, 3) := by decide +kernel
theorem dd_W_enter_41 : decode prog_3_method_2_code 41 = .ok (.iload_n 3, 1) := by decide +kernel
theorem dd_W_enter_42 : decode prog_3_method_2_code 42 = .ok (.aload_n 1, 1) := by decide +kernel
theorem dd_W_enter_43 : decode prog_3_method_2_code 43 = .ok (.invokevirtual 40, 3) := by decide +kernel
theorem dd_W_enter_46 : decode prog_3_method_2_code 46 = .ok (.return_, 1) := by decide +kernel
def wp_W_enter_37 (g : Gm) (post : Hp → Prop) (mc ms : Nat) (h : Hp) (kc ks : Nat) (v0 : Nat) (v1 : Nat) (v3 : Int32) : Prop := hK h v0 = 2 ∧ ∃ a2 : Nat, hR h v0 0 = some a2 ∧ hK h a2 = 6 ∧ ∃ mc5 ms6 : Nat, kc + mc5 ≤ mc ∧ ks + ms6 ≤ ms ∧ wp_A_add3 g (fun h4 => post h4) mc5 ms6 h a2 v3 v1
set_option maxHeartbeats 4000000 in
set_option maxRecDepth 100000 in
theorem wk_W_enter_37 {p : Program} {l : Launch} {e : Env} {s : State} {m : MethodId} {args : Array Value} {below : List Frame} {meth : Method} {c : Code} {g : Gm} {post : Hp → Prop} {mc ms : Nat} (C0 : Cx g p s m args c prog_3_method_2_code 4 "SegmentLocks$Rows") (hr : meth.sig.returnType = none) (hlk : meth.locks = false) : ∀ (h : Hp) (kc ks : Nat) (v0 : Nat) (v1 : Nat) (v3 : Int32) (H : Heap) (locs : List Loc) (ls : Array Slot), wp_W_enter_37 g post mc ms h kc ks v0 v1 v3 → GH g h H → va_S (gA g) s.heap H locs → kc ≤ mc ∧ ks ≤ ms → lv_has ls 4 [(0, .ref v0), (1, .ref v1), (3, .int v3)] → W p l e (rmm 6 171 mc ms) s m args below meth c H locs kc ks (MQ below (va_Qv post (gS g) (gA g)) args s mc ms (gA g)) (F0 m 37 ls []) := by
  obtain ⟨hx, hb, -, hown, hts, hgk⟩ := id C0
  intro h kc ks v0 v1 v3 H locs ls hw hG hS hkc hl
  unfold wp_W_enter_37 at hw
  refine lv_aload_n hx hb dd_W_enter_37 rfl (lv_at hl 0 rfl) ?_
  obtain ⟨k1, a2, ea2, hw⟩ := hw
  refine gf_W_12 C0 hG k1 ea2 dd_W_enter_38 ?_
  refine lv_iload_n hx hb dd_W_enter_41 rfl (lv_at hl 2 rfl) ?_
  refine lv_aload_n hx hb dd_W_enter_42 rfl (lv_at hl 1 rfl) ?_
  obtain ⟨k3, hw⟩ := hw
  obtain ⟨mc5, ms6, hc1, hc2, hw⟩ := hw
  refine ca_v hS (rn_V C0 hG hS (c_A_add3 l g _ mc5 ms6 h a2 v3 v1 hw) (ci := 5) k3 (by decide) rfl rfl (host := "") (nest := false) (n := 2) (As := [.int v3, .ref v1]) (rest := []) km_211 km_210 km_212 km_213 km_17 ⟨by decide, by decide, by decide +kernel⟩ ⟨Nat.le_of_ble_eq_true rfl, Nat.le_of_ble_eq_true rfl⟩ rfl hl.1 rfl (Nat.le_of_ble_eq_true rfl) dd_W_enter_43 ⟨hc1, hc2⟩) (fun h4 H locs hw hG hS => ?_)
  have hkc := And.intro hc1 hc2
  exact re_v C0 hG hS hr hlk hkc hw dd_W_enter_46
def wp_W_enter (g : Gm) (post : Hp → Prop) (mc ms : Nat) (h : Hp) (a0 : Nat) (b1 : Nat) : Prop := hK h b1 = 4 ∧ wp_S_isSegment g (fun x4 => ((¬ x4 = 0 → hK h a0 = 2 ∧ ∃ a7 : Nat, hR h a0 0 = some a7 ∧ hK h a7 = 6 ∧ wp_A_size g (fun x10 => hK h b1 = 4 ∧ ∃ a12 : Nat, hR h b1 2 = some a12 ∧ hK h a12 = 21 ∧ vp_in (hI h b1 13) (hN h a12) ∧ (((hI h a12 (hI h b1 13).toNatClampNeg) = (-1) → wp_W_enter_37 g post mc ms h 0 0 a0 b1 x10) ∧ (¬ (hI h a12 (hI h b1 13).toNatClampNeg) = (-1) → hK h a0 = 2 ∧ wp_W_firstWithoutLock g (fun x17 => wp_W_enter_37 g post mc ms h 0 0 a0 b1 x17) h a0 (hI h b1 13)))) h a7) ∧ (x4 = 0 → post h))) h (hI h b1 13)
set_option maxHeartbeats 4000000 in
set_option maxRecDepth 100000 in
theorem c_W_enter (l : Launch) (g : Gm) (post : Hp → Prop) (mc ms : Nat) (h : Hp) (a0 : Nat) (b1 : Nat) (hw : wp_W_enter g post mc ms h a0 b1) : Met l (⟨"SegmentLocks$Rows", "enter", "(LSegmentLocks$Task;)V"⟩ : MethodName) (ww (⟨"SegmentLocks$Rows", "enter", "(LSegmentLocks$Task;)V"⟩ : MethodName) prog_3_method_2_code 4 none) (rmm 6 171 mc ms) (va_Pc [.ref a0, .ref b1] (gS g h)) (va_Qv post (gS g) (gA g)) mc ms (gA g) := by
  first | refine en_met (by decide) ?_ | refine en_metF (by decide) ?_
  intro p e s m below meth c C0 hr hlk hin hG
  have hS : va_S (gA g) s.heap s.heap [] := va_S.rf
  have hl := lv_entry ([.ref a0, .ref b1]) (n := 4) (Nat.le_of_ble_eq_true rfl)
  rw [lg_entry_eq]
  generalize (lg_sl ([.ref a0, .ref b1]) ++ List.replicate (4 - (lg_sl ([.ref a0, .ref b1])).length) Slot.unset).toArray = ls at hl ⊢
  replace hl : lv_has ls 4 [(0, .ref a0), (1, .ref b1)] := hl
  obtain ⟨hx, hb, -, hown, hts, hgk⟩ := id C0
  have hkc : 0 ≤ mc ∧ 0 ≤ ms := ⟨Nat.zero_le _, Nat.zero_le _⟩
  unfold wp_W_enter at hw
  refine lv_aload_n hx hb dd_W_enter_0 rfl (lv_at hl 1 rfl) ?_
  obtain ⟨k1, hw⟩ := hw
  refine gf_W_18 C0 hG k1 dd_W_enter_1 ?_
  have hl0 := hl
  clear hl
  refine lv_istore_n (lv' := [(2, .int (hI h b1 13)), (0, .ref a0), (1, .ref b1)]) hx hb dd_W_enter_4 rfl hl0 (by decide) rfl (fun ls hl => ?_)
  refine lv_iload_n hx hb dd_W_enter_5 rfl (lv_at hl 0 rfl) ?_
  have hw0 := hw
  clear hw
  refine cs_i (rn_S C0 hG hS (c_S_isSegment l g _ h (hI h b1 13) hw0) (host := "SegmentLocks") (nest := true) (n := 1) (As := [.int (hI h b1 13)]) (rest := []) km_219 km_218 km_220 km_176 ⟨by decide, by decide, by decide +kernel⟩ ⟨Nat.le_of_ble_eq_true rfl, Nat.le_of_ble_eq_true rfl⟩ rfl hl.1 rfl (Nat.le_of_ble_eq_true rfl) dd_W_enter_6 hkc) (fun x4 hw => ?_)
  refine lv_if_ne (tgt := 13) hx hb dd_W_enter_9 (by decide) (fun c5 => ?_) (fun c5 => ?_)
  · replace hw := hw.1 c5
    refine lv_aload_n hx hb dd_W_enter_13 rfl (lv_at hl 1 rfl) ?_
    obtain ⟨k6, a7, ea7, hw⟩ := hw
    refine gf_W_12 C0 hG k6 ea7 dd_W_enter_14 ?_
    obtain ⟨k8, hw⟩ := hw
    have hw0 := hw
    clear hw
    refine cs_i (rn_V C0 hG hS (c_A_size l g _ h a7 hw0) (ci := 5) k8 (by decide) rfl rfl (host := "") (nest := false) (n := 0) (As := []) (rest := []) km_132 km_152 km_133 km_134 km_17 ⟨by decide, by decide, by decide +kernel⟩ ⟨Nat.le_of_ble_eq_true rfl, Nat.le_of_ble_eq_true rfl⟩ rfl hl.1 rfl (Nat.le_of_ble_eq_true rfl) dd_W_enter_17 hkc) (fun x10 hw => ?_)
    have hl0 := hl
    clear hl
    refine lv_istore_n (lv' := [(3, .int x10), (2, .int (hI h b1 13)), (0, .ref a0), (1, .ref b1)]) hx hb dd_W_enter_20 rfl hl0 (by decide) rfl (fun ls hl => ?_)
    refine lv_aload_n hx hb dd_W_enter_21 rfl (lv_at hl 3 rfl) ?_
    obtain ⟨k11, a12, ea12, hw⟩ := hw
    refine gf_W_32 C0 hG k11 ea12 dd_W_enter_22 ?_
    refine lv_iload_n hx hb dd_W_enter_25 rfl (lv_at hl 1 rfl) ?_
    obtain ⟨k13, k13i, hw⟩ := hw
    refine px_iald C0 hG k13 k13i dd_W_enter_26 ?_
    refine lv_iconst (v := (-1)) hx hb dd_W_enter_27 (by decide) ?_
    refine lv_icmp_eq (tgt := 37) hx hb dd_W_enter_28 (by decide) (fun c14 => ?_) (fun c14 => ?_)
    · replace hw := hw.1 c14
      exact wk_W_enter_37 C0 hr hlk _ _ _ _ _ _ _ _ _ hw hG hS hkc (lv_sub hl [2, 3, 0] rfl)
    · replace hw := hw.2 c14
      refine lv_aload_n hx hb dd_W_enter_31 rfl (lv_at hl 2 rfl) ?_
      refine lv_iload_n hx hb dd_W_enter_32 rfl (lv_at hl 1 rfl) ?_
      obtain ⟨k15, hw⟩ := hw
      have hw0 := hw
      clear hw
      refine cs_i (rn_V C0 hG hS (c_W_firstWithoutLock l g _ h a0 (hI h b1 13) hw0) (ci := 1) k15 (by decide) rfl rfl (host := "") (nest := false) (n := 1) (As := [.int (hI h b1 13)]) (rest := []) km_215 km_214 km_216 km_217 km_39 ⟨by decide, by decide, by decide +kernel⟩ ⟨Nat.le_of_ble_eq_true rfl, Nat.le_of_ble_eq_true rfl⟩ rfl hl.1 rfl (Nat.le_of_ble_eq_true rfl) dd_W_enter_33 hkc) (fun x17 hw => ?_)
      have hl0 := hl
      clear hl
      refine lv_istore_n (lv' := [(3, .int x17), (2, .int (hI h b1 13)), (0, .ref a0), (1, .ref b1)]) hx hb dd_W_enter_36 rfl hl0 (by decide) rfl (fun ls hl => ?_)
      exact wk_W_enter_37 C0 hr hlk _ _ _ _ _ _ _ _ _ hw hG hS hkc (lv_sub hl [2, 3, 0] rfl)
  · replace hw := hw.2 c5
    exact re_v C0 hG hS hr hlk hkc hw dd_W_enter_12
/-! SegmentLocks$Rows.isAhead(ILSegmentLocks$Task;)Z -/
theorem dd_W_isAhead_0 : decode prog_3_method_7_code 0 = .ok (.iload_n 1, 1) := by decide +kernel
theorem dd_W_isAhead_1 : decode prog_3_method_7_code 1 = .ok (.aload_n 0, 1) := by decide +kernel
theorem dd_W_isAhead_2 : decode prog_3_method_7_code 2 = .ok (.getfield 12, 3) := by decide +kernel
theorem dd_W_isAhead_5 : decode prog_3_method_7_code 5 = .ok (.invokevirtual 28, 3) := by decide +kernel
theorem dd_W_isAhead_8 : decode prog_3_method_7_code 8 = .ok (.if_icmp .ge 28, 3) := by decide +kernel
theorem dd_W_isAhead_11 : decode prog_3_method_7_code 11 = .ok (.aload_n 0, 1) := by decide +kernel
theorem dd_W_isAhead_12 : decode prog_3_method_7_code 12 = .ok (.getfield 12, 3) := by decide +kernel
theorem dd_W_isAhead_15 : decode prog_3_method_7_code 15 = .ok (.iload_n 1, 1) := by decide +kernel
theorem dd_W_isAhead_16 : decode prog_3_method_7_code 16 = .ok (.invokevirtual 44, 3) := by decide +kernel
theorem dd_W_isAhead_19 : decode prog_3_method_7_code 19 = .ok (.checkcast 19, 3) := by decide +kernel
theorem dd_W_isAhead_22 : decode prog_3_method_7_code 22 = .ok (.getfield 18, 3) := by decide +kernel
theorem dd_W_isAhead_25 : decode prog_3_method_7_code 25 = .ok (.aload_n 2, 1) := by decide +kernel
theorem dd_W_isAhead_26 : decode prog_3_method_7_code 26 = .ok (.getfield 18, 3) := by decide +kernel
theorem dd_W_isAhead_29 : decode prog_3_method_7_code 29 = .ok (.if_icmp .ne 7, 3) := by decide +kernel
theorem dd_W_isAhead_32 : decode prog_3_method_7_code 32 = .ok (.iconst 1, 1) := by decide +kernel
theorem dd_W_isAhead_33 : decode prog_3_method_7_code 33 = .ok (.goto 4, 3) := by decide +kernel
theorem dd_W_isAhead_36 : decode prog_3_method_7_code 36 = .ok (.iconst 0, 1) := by decide +kernel
theorem dd_W_isAhead_37 : decode prog_3_method_7_code 37 = .ok (.ireturn, 1) := by decide +kernel
def wp_W_isAhead_37 (g : Gm) (post : Int32 → Prop) (h : Hp) (s0 : Int32) : Prop := zB s0 ∧ post s0
set_option maxHeartbeats 4000000 in
set_option maxRecDepth 100000 in
theorem wk_W_isAhead_37 {p : Program} {l : Launch} {e : Env} {s : State} {m : MethodId} {args : Array Value} {below : List Frame} {meth : Method} {c : Code} {g : Gm} {post : Int32 → Prop} (C0 : Cx g p s m args c prog_3_method_7_code 3 "SegmentLocks$Rows") (hr : meth.sig.returnType = (some .boolean)) (hlk : meth.locks = false) : ∀ (h : Hp) (s0 : Int32) (ls : Array Slot), wp_W_isAhead_37 g post h s0 → GH g h s.heap → lv_has ls 3 [] → W p l e (rmm 3 64 0 0) s m args below meth c s.heap [] 0 0 (MQ below (vp_Si post) args s 0 0 (fun _ => False)) (F0 m 37 ls [.int s0]) := by
  obtain ⟨hx, hb, -, hown, hts, hgk⟩ := id C0
  have hS : va_S (gA g) s.heap s.heap [] := va_S.rf
  intro h s0 ls hw hG hl
  unfold wp_W_isAhead_37 at hw
  exact rs_z C0 hr hlk hw.1.nar hw.2 dd_W_isAhead_37
def wp_W_isAhead_36 (g : Gm) (post : Int32 → Prop) (h : Hp) : Prop := wp_W_isAhead_37 g post h 0
set_option maxHeartbeats 4000000 in
set_option maxRecDepth 100000 in
theorem wk_W_isAhead_36 {p : Program} {l : Launch} {e : Env} {s : State} {m : MethodId} {args : Array Value} {below : List Frame} {meth : Method} {c : Code} {g : Gm} {post : Int32 → Prop} (C0 : Cx g p s m args c prog_3_method_7_code 3 "SegmentLocks$Rows") (hr : meth.sig.returnType = (some .boolean)) (hlk : meth.locks = false) : ∀ (h : Hp) (ls : Array Slot), wp_W_isAhead_36 g post h → GH g h s.heap → lv_has ls 3 [] → W p l e (rmm 3 64 0 0) s m args below meth c s.heap [] 0 0 (MQ below (vp_Si post) args s 0 0 (fun _ => False)) (F0 m 36 ls []) := by
  obtain ⟨hx, hb, -, hown, hts, hgk⟩ := id C0
  have hS : va_S (gA g) s.heap s.heap [] := va_S.rf
  intro h ls hw hG hl
  unfold wp_W_isAhead_36 at hw
  refine lv_iconst (v := 0) hx hb dd_W_isAhead_36 (by decide) ?_
  exact wk_W_isAhead_37 C0 hr hlk _ _ _ hw hG (lv_sub hl [] rfl)
def wp_W_isAhead (g : Gm) (post : Int32 → Prop) (h : Hp) (a0 : Nat) (i1 : Int32) (b2 : Nat) : Prop := hK h a0 = 2 ∧ ∃ a2 : Nat, hR h a0 0 = some a2 ∧ hK h a2 = 6 ∧ wp_A_size g (fun x5 => ((x5 ≤ i1 → wp_W_isAhead_36 g post h) ∧ (¬ x5 ≤ i1 → hK h a0 = 2 ∧ ∃ a8 : Nat, hR h a0 0 = some a8 ∧ hK h a8 = 6 ∧ wp_A_get g (fun r11 => ∃ a12 : Nat, r11 = some a12 ∧ hK h a12 = 4 ∧ hK h a12 = 4 ∧ hK h b2 = 4 ∧ ((¬ (hI h a12 13) = (hI h b2 13) → wp_W_isAhead_36 g post h) ∧ ((hI h a12 13) = (hI h b2 13) → wp_W_isAhead_37 g post h 1))) h a8 i1))) h a2
set_option maxHeartbeats 4000000 in
set_option maxRecDepth 100000 in
theorem c_W_isAhead (l : Launch) (g : Gm) (post : Int32 → Prop) (h : Hp) (a0 : Nat) (i1 : Int32) (b2 : Nat) (hw : wp_W_isAhead g post h a0 i1 b2) : Met l (⟨"SegmentLocks$Rows", "isAhead", "(ILSegmentLocks$Task;)Z"⟩ : MethodName) (ww (⟨"SegmentLocks$Rows", "isAhead", "(ILSegmentLocks$Task;)Z"⟩ : MethodName) prog_3_method_7_code 3 (some .boolean)) (rmm 3 64 0 0) (va_Pc [.ref a0, .int i1, .ref b2] (gS g h)) (vp_Si post) 0 0 (fun _ => False) := by
  first | refine en_met (by decide) ?_ | refine en_metF (by decide) ?_
  intro p e s m below meth c C0 hr hlk hin hG
  have hS : va_S (gA g) s.heap s.heap [] := va_S.rf
  have hl := lv_entry ([.ref a0, .int i1, .ref b2]) (n := 3) (Nat.le_of_ble_eq_true rfl)
  rw [lg_entry_eq]
  generalize (lg_sl ([.ref a0, .int i1, .ref b2]) ++ List.replicate (3 - (lg_sl ([.ref a0, .int i1, .ref b2])).length) Slot.unset).toArray = ls at hl ⊢
  replace hl : lv_has ls 3 [(0, .ref a0), (1, .int i1), (2, .ref b2)] := hl
  obtain ⟨hx, hb, -, hown, hts, hgk⟩ := id C0
  unfold wp_W_isAhead at hw
  refine lv_iload_n hx hb dd_W_isAhead_0 rfl (lv_at hl 1 rfl) ?_
  refine lv_aload_n hx hb dd_W_isAhead_1 rfl (lv_at hl 0 rfl) ?_
  obtain ⟨k1, a2, ea2, hw⟩ := hw
  refine gf_W_12 C0 hG k1 ea2 dd_W_isAhead_2 ?_
  obtain ⟨k3, hw⟩ := hw
  have hw0 := hw
  clear hw
  refine cs_i (rn_V C0 hG hS (c_A_size l g _ h a2 hw0) (ci := 5) k3 (by decide) rfl rfl (host := "") (nest := false) (n := 0) (As := []) (rest := [.int i1]) km_132 km_152 km_133 km_134 km_17 ⟨by decide, by decide, by decide +kernel⟩ ⟨Nat.le_of_ble_eq_true rfl, Nat.le_of_ble_eq_true rfl⟩ rfl hl.1 rfl (Nat.le_of_ble_eq_true rfl) dd_W_isAhead_5 ⟨Nat.le_refl _, Nat.le_refl _⟩) (fun x5 hw => ?_)
  refine lv_icmp_ge (tgt := 36) hx hb dd_W_isAhead_8 (by decide) (fun c6 => ?_) (fun c6 => ?_)
  · replace hw := hw.1 c6
    exact wk_W_isAhead_36 C0 hr hlk _ _ hw hG (lv_sub hl [] rfl)
  · replace hw := hw.2 c6
    refine lv_aload_n hx hb dd_W_isAhead_11 rfl (lv_at hl 0 rfl) ?_
    obtain ⟨k7, a8, ea8, hw⟩ := hw
    refine gf_W_12 C0 hG k7 ea8 dd_W_isAhead_12 ?_
    refine lv_iload_n hx hb dd_W_isAhead_15 rfl (lv_at hl 1 rfl) ?_
    obtain ⟨k9, hw⟩ := hw
    have hw0 := hw
    clear hw
    refine cs_q (rn_V C0 hG hS (c_A_get l g _ h a8 i1 hw0) (ci := 5) k9 (by decide) rfl rfl (host := "") (nest := false) (n := 1) (As := [.int i1]) (rest := []) km_149 km_153 km_150 km_151 km_17 ⟨by decide, by decide, by decide +kernel⟩ ⟨Nat.le_of_ble_eq_true rfl, Nat.le_of_ble_eq_true rfl⟩ rfl hl.1 rfl (Nat.le_of_ble_eq_true rfl) dd_W_isAhead_16 ⟨Nat.le_refl _, Nat.le_refl _⟩) (fun r11 hw => ?_)
    obtain ⟨a12, rfl, hw⟩ := hw
    replace hl : lv_has ls 3 [(0, .ref a0), (1, .int i1), (2, .ref b2)] := hl
    obtain ⟨k13, hw⟩ := hw
    refine va_castY (C := RX3) hx hb hown (hts _ km_171) (hgk.2.1 _ km_147) (px_recv C0 hG (ci := 3) k13 (by decide) rfl) dd_W_isAhead_19 ?_
    obtain ⟨k14, hw⟩ := hw
    refine gf_W_18 C0 hG k14 dd_W_isAhead_22 ?_
    refine lv_aload_n hx hb dd_W_isAhead_25 rfl (lv_at hl 2 rfl) ?_
    obtain ⟨k15, hw⟩ := hw
    refine gf_W_18 C0 hG k15 dd_W_isAhead_26 ?_
    refine lv_icmp_ne (tgt := 36) hx hb dd_W_isAhead_29 (by decide) (fun c16 => ?_) (fun c16 => ?_)
    · replace hw := hw.1 c16
      exact wk_W_isAhead_36 C0 hr hlk _ _ hw hG (lv_sub hl [] rfl)
    · replace hw := hw.2 c16
      refine lv_iconst (v := 1) hx hb dd_W_isAhead_32 (by decide) ?_
      refine lv_goto (tgt := 37) hx hb dd_W_isAhead_33 (by decide) ?_
      exact wk_W_isAhead_37 C0 hr hlk _ _ _ hw hG (lv_sub hl [] rfl)
/-! SegmentLocks$Rows.markAhead(LSegmentLocks$Task;[Z)V -/
theorem dd_W_markAhead_0 : decode prog_3_method_9_code 0 = .ok (.aload_n 0, 1) := by decide +kernel
theorem dd_W_markAhead_1 : decode prog_3_method_9_code 1 = .ok (.aload_n 1, 1) := by decide +kernel
theorem dd_W_markAhead_2 : decode prog_3_method_9_code 2 = .ok (.invokevirtual 48, 3) := by decide +kernel
theorem dd_W_markAhead_5 : decode prog_3_method_9_code 5 = .ok (.istore_n 3, 1) := by decide +kernel
theorem dd_W_markAhead_6 : decode prog_3_method_9_code 6 = .ok (.iconst 0, 1) := by decide +kernel
theorem dd_W_markAhead_7 : decode prog_3_method_9_code 7 = .ok (.istore 4, 2) := by decide +kernel
theorem dd_W_markAhead_9 : decode prog_3_method_9_code 9 = .ok (.iload 4, 2) := by decide +kernel
theorem dd_W_markAhead_11 : decode prog_3_method_9_code 11 = .ok (.iload_n 3, 1) := by decide +kernel
theorem dd_W_markAhead_12 : decode prog_3_method_9_code 12 = .ok (.if_icmp .ge 55, 3) := by decide +kernel
theorem dd_W_markAhead_15 : decode prog_3_method_9_code 15 = .ok (.aload_n 0, 1) := by decide +kernel
theorem dd_W_markAhead_16 : decode prog_3_method_9_code 16 = .ok (.getfield 12, 3) := by decide +kernel
theorem dd_W_markAhead_19 : decode prog_3_method_9_code 19 = .ok (.iload 4, 2) := by decide +kernel
theorem dd_W_markAhead_21 : decode prog_3_method_9_code 21 = .ok (.invokevirtual 44, 3) := by decide +kernel
theorem dd_W_markAhead_24 : decode prog_3_method_9_code 24 = .ok (.checkcast 19, 3) := by decide +kernel
theorem dd_W_markAhead_27 : decode prog_3_method_9_code 27 = .ok (.getfield 62, 3) := by decide +kernel
theorem dd_W_markAhead_30 : decode prog_3_method_9_code 30 = .ok (.iconst 1, 1) := by decide +kernel
theorem dd_W_markAhead_31 : decode prog_3_method_9_code 31 = .ok (.isub, 1) := by decide +kernel
theorem dd_W_markAhead_32 : decode prog_3_method_9_code 32 = .ok (.istore 5, 2) := by decide +kernel
theorem dd_W_markAhead_34 : decode prog_3_method_9_code 34 = .ok (.aload_n 0, 1) := by decide +kernel
theorem dd_W_markAhead_35 : decode prog_3_method_9_code 35 = .ok (.iload 4, 2) := by decide +kernel
theorem dd_W_markAhead_37 : decode prog_3_method_9_code 37 = .ok (.aload_n 1, 1) := by decide +kernel
theorem dd_W_markAhead_38 : decode prog_3_method_9_code 38 = .ok (.invokevirtual 58, 3) := by decide +kernel
theorem dd_W_markAhead_41 : decode prog_3_method_9_code 41 = .ok (.ifCond .eq 20, 3) := by decide +kernel
theorem dd_W_markAhead_44 : decode prog_3_method_9_code 44 = .ok (.iload 5, 2) := by decide +kernel
theorem dd_W_markAhead_46 : decode prog_3_method_9_code 46 = .ok (.ifCond .lt 15, 3) := by decide +kernel
theorem dd_W_markAhead_49 : decode prog_3_method_9_code 49 = .ok (.iload 5, 2) := by decide +kernel
theorem dd_W_markAhead_51 : decode prog_3_method_9_code 51 = .ok (.aload_n 2, 1) := by decide +kernel
theorem dd_W_markAhead_52 : decode prog_3_method_9_code 52 = .ok (.arraylength, 1) := by decide +kernel
theorem dd_W_markAhead_53 : decode prog_3_method_9_code 53 = .ok (.if_icmp .ge 8, 3) := by decide +kernel
theorem dd_W_markAhead_56 : decode prog_3_method_9_code 56 = .ok (.aload_n 2, 1) := by decide +kernel
theorem dd_W_markAhead_57 : decode prog_3_method_9_code 57 = .ok (.iload 5, 2) := by decide +kernel
theorem dd_W_markAhead_59 : decode prog_3_method_9_code 59 = .ok (.iconst 1, 1) := by decide +kernel
theorem dd_W_markAhead_60 : decode prog_3_method_9_code 60 = .ok (.bastore, 1) := by decide +kernel
theorem dd_W_markAhead_61 : decode prog_3_method_9_code 61 = .ok (.iinc 4 1, 3) := by decide +kernel
theorem dd_W_markAhead_64 : decode prog_3_method_9_code 64 = .ok (.goto (-55), 3) := by decide +kernel
theorem dd_W_markAhead_67 : decode prog_3_method_9_code 67 = .ok (.return_, 1) := by decide +kernel
def wp_W_markAhead_61 (g : Gm) (post : Hp → Prop) (K9 : Hp → Nat → Nat → Nat → Int32 → Int32 → Prop) (h : Hp) (v0 : Nat) (v1 : Nat) (v2 : Nat) (v3 : Int32) (v4 : Int32) : Prop := ∀ x1 : Int32, x1 = v4 + 1 → K9 h v0 v1 v2 v3 x1
set_option maxHeartbeats 4000000 in
set_option maxRecDepth 100000 in
theorem wk_W_markAhead_61 {p : Program} {l : Launch} {e : Env} {s : State} {m : MethodId} {args : Array Value} {below : List Frame} {meth : Method} {c : Code} {g : Gm} {post : Hp → Prop} (C0 : Cx g p s m args c prog_3_method_9_code 6 "SegmentLocks$Rows") (hr : meth.sig.returnType = none) (hlk : meth.locks = false) {K9 : Hp → Nat → Nat → Nat → Int32 → Int32 → Prop} (hK9 : ∀ (h : Hp) (v0 : Nat) (v1 : Nat) (v2 : Nat) (v3 : Int32) (v4 : Int32) (H : Heap) (locs : List Loc) (ls : Array Slot), K9 h v0 v1 v2 v3 v4 → GH g h H → va_S (gA g) s.heap H locs → lv_has ls 6 [(0, .ref v0), (1, .ref v1), (2, .ref v2), (3, .int v3), (4, .int v4)] → W p l e (rmm 4 86 0 0) s m args below meth c H locs 0 0 (MQ below (va_Qv post (gS g) (gA g)) args s 0 0 (gA g)) (F0 m 9 ls [])) : ∀ (h : Hp) (v0 : Nat) (v1 : Nat) (v2 : Nat) (v3 : Int32) (v4 : Int32) (H : Heap) (locs : List Loc) (ls : Array Slot), wp_W_markAhead_61 g post K9 h v0 v1 v2 v3 v4 → GH g h H → va_S (gA g) s.heap H locs → lv_has ls 6 [(0, .ref v0), (1, .ref v1), (2, .ref v2), (3, .int v3), (4, .int v4)] → W p l e (rmm 4 86 0 0) s m args below meth c H locs 0 0 (MQ below (va_Qv post (gS g) (gA g)) args s 0 0 (gA g)) (F0 m 61 ls []) := by
  obtain ⟨hx, hb, -, hown, hts, hgk⟩ := id C0
  intro h v0 v1 v2 v3 v4 H locs ls hw hG hS hl
  unfold wp_W_markAhead_61 at hw
  obtain ⟨x1, ex1⟩ : ∃ y : Int32, y = v4 + 1 := ⟨_, rfl⟩
  replace hw := hw x1 ex1
  have hl0 := hl
  clear hl
  refine lv_iinc (v := x1) (lv' := [(4, .int x1), (0, .ref v0), (1, .ref v1), (2, .ref v2), (3, .int v3)]) hx hb dd_W_markAhead_61 hl0 (k := 4) rfl (by rw [ex1]; rfl) (by decide) rfl (fun ls hl => ?_)
  refine lv_goto (tgt := 9) hx hb dd_W_markAhead_64 (by decide) ?_
  exact hK9 _ _ _ _ _ _ _ _ _ hw hG hS (lv_sub hl [1, 2, 3, 4, 0] rfl)
def wp_W_markAhead_9 (g : Gm) (post : Hp → Prop) : Nat → Hp → Nat → Nat → Nat → Int32 → Int32 → Prop
  | 0, _, _, _, _, _, _ => False
  | fu + 1, h, v0, v1, v2, v3, v4 => ((v3 ≤ v4 → post h) ∧ (¬ v3 ≤ v4 → hK h v0 = 2 ∧ ∃ a3 : Nat, hR h v0 0 = some a3 ∧ hK h a3 = 6 ∧ wp_A_get g (fun r6 => ∃ a7 : Nat, r6 = some a7 ∧ hK h a7 = 4 ∧ hK h a7 = 4 ∧ ∀ x10 : Int32, x10 = (hI h a7 0) - 1 → hK h v0 = 2 ∧ wp_W_isAhead g (fun x13 => ((x13 = 0 → wp_W_markAhead_61 g post (fun h v0 v1 v2 v3 v4 => wp_W_markAhead_9 g post fu h v0 v1 v2 v3 v4) h v0 v1 v2 v3 v4) ∧ (¬ x13 = 0 → ((x10 < 0 → wp_W_markAhead_61 g post (fun h v0 v1 v2 v3 v4 => wp_W_markAhead_9 g post fu h v0 v1 v2 v3 v4) h v0 v1 v2 v3 v4) ∧ (¬ x10 < 0 → ∃ x17 : Int32, gLen g h v2 x17 ∧ ((x17 ≤ x10 → wp_W_markAhead_61 g post (fun h v0 v1 v2 v3 v4 => wp_W_markAhead_9 g post fu h v0 v1 v2 v3 v4) h v0 v1 v2 v3 v4) ∧ (¬ x17 ≤ x10 → hK h v2 = 23 ∧ vp_in x10 (hN h v2) ∧ zB 1 ∧ ∀ h20 : Hp, h20 = sI h v2 x10.toNatClampNeg 1 → wp_W_markAhead_61 g post (fun h v0 v1 v2 v3 v4 => wp_W_markAhead_9 g post fu h v0 v1 v2 v3 v4) h20 v0 v1 v2 v3 v4))))))) h v0 v4 v1) h a3 v4))
set_option maxHeartbeats 4000000 in
set_option maxRecDepth 100000 in
theorem wk_W_markAhead_9 {p : Program} {l : Launch} {e : Env} {s : State} {m : MethodId} {args : Array Value} {below : List Frame} {meth : Method} {c : Code} {g : Gm} {post : Hp → Prop} (C0 : Cx g p s m args c prog_3_method_9_code 6 "SegmentLocks$Rows") (hr : meth.sig.returnType = none) (hlk : meth.locks = false) : ∀ n : Nat, ∀ (h : Hp) (v0 : Nat) (v1 : Nat) (v2 : Nat) (v3 : Int32) (v4 : Int32) (H : Heap) (locs : List Loc) (ls : Array Slot), wp_W_markAhead_9 g post n h v0 v1 v2 v3 v4 → GH g h H → va_S (gA g) s.heap H locs → lv_has ls 6 [(0, .ref v0), (1, .ref v1), (2, .ref v2), (3, .int v3), (4, .int v4)] → W p l e (rmm 4 86 0 0) s m args below meth c H locs 0 0 (MQ below (va_Qv post (gS g) (gA g)) args s 0 0 (gA g)) (F0 m 9 ls []) := by
  obtain ⟨hx, hb, -, hown, hts, hgk⟩ := id C0
  intro n
  induction n with
  | zero =>
    intro h v0 v1 v2 v3 v4 H locs ls hw hG hS hl
    exact hw.elim
  | succ n ih =>
    intro h v0 v1 v2 v3 v4 H locs ls hw hG hS hl
    unfold wp_W_markAhead_9 at hw
    refine lv_iload hx hb dd_W_markAhead_9 (lv_at hl 4 rfl) ?_
    refine lv_iload_n hx hb dd_W_markAhead_11 rfl (lv_at hl 3 rfl) ?_
    refine lv_icmp_ge (tgt := 67) hx hb dd_W_markAhead_12 (by decide) (fun c1 => ?_) (fun c1 => ?_)
    · replace hw := hw.1 c1
      exact re_v C0 hG hS hr hlk ⟨Nat.le_refl _, Nat.le_refl _⟩ hw dd_W_markAhead_67
    · replace hw := hw.2 c1
      refine lv_aload_n hx hb dd_W_markAhead_15 rfl (lv_at hl 0 rfl) ?_
      obtain ⟨k2, a3, ea3, hw⟩ := hw
      refine gf_W_12 C0 hG k2 ea3 dd_W_markAhead_16 ?_
      refine lv_iload hx hb dd_W_markAhead_19 (lv_at hl 4 rfl) ?_
      obtain ⟨k4, hw⟩ := hw
      have hw0 := hw
      clear hw
      refine cs_q (rn_V C0 hG hS (c_A_get l g _ h a3 v4 hw0) (ci := 5) k4 (by decide) rfl rfl (host := "") (nest := false) (n := 1) (As := [.int v4]) (rest := []) km_149 km_153 km_150 km_151 km_17 ⟨by decide, by decide, by decide +kernel⟩ ⟨Nat.le_of_ble_eq_true rfl, Nat.le_of_ble_eq_true rfl⟩ rfl hl.1 rfl (Nat.le_of_ble_eq_true rfl) dd_W_markAhead_21 ⟨Nat.le_refl _, Nat.le_refl _⟩) (fun r6 hw => ?_)
      obtain ⟨a7, rfl, hw⟩ := hw
      replace hl : lv_has ls 6 [(0, .ref v0), (1, .ref v1), (2, .ref v2), (3, .int v3), (4, .int v4)] := hl
      obtain ⟨k8, hw⟩ := hw
      refine va_castY (C := RX3) hx hb hown (hts _ km_171) (hgk.2.1 _ km_147) (px_recv C0 hG (ci := 3) k8 (by decide) rfl) dd_W_markAhead_24 ?_
      obtain ⟨k9, hw⟩ := hw
      refine gf_W_62 C0 hG k9 dd_W_markAhead_27 ?_
      refine lv_iconst (v := 1) hx hb dd_W_markAhead_30 (by decide) ?_
      refine lv_isub hx hb dd_W_markAhead_31 ?_
      refine lv_topi (fun x10 ex10 => ?_)
      replace hw := hw x10 ex10
      have hl0 := hl
      clear hl
      refine lv_istore (lv' := [(5, .int x10), (0, .ref v0), (1, .ref v1), (2, .ref v2), (3, .int v3), (4, .int v4)]) hx hb dd_W_markAhead_32 hl0 (by decide) rfl (fun ls hl => ?_)
      refine lv_aload_n hx hb dd_W_markAhead_34 rfl (lv_at hl 1 rfl) ?_
      refine lv_iload hx hb dd_W_markAhead_35 (lv_at hl 5 rfl) ?_
      refine lv_aload_n hx hb dd_W_markAhead_37 rfl (lv_at hl 2 rfl) ?_
      obtain ⟨k11, hw⟩ := hw
      have hw0 := hw
      clear hw
      refine cs_i (rn_V C0 hG hS (c_W_isAhead l g _ h v0 v4 v1 hw0) (ci := 1) k11 (by decide) rfl rfl (host := "") (nest := false) (n := 2) (As := [.int v4, .ref v1]) (rest := []) km_228 km_227 km_229 km_230 km_39 ⟨by decide, by decide, by decide +kernel⟩ ⟨Nat.le_of_ble_eq_true rfl, Nat.le_of_ble_eq_true rfl⟩ rfl hl.1 rfl (Nat.le_of_ble_eq_true rfl) dd_W_markAhead_38 ⟨Nat.le_refl _, Nat.le_refl _⟩) (fun x13 hw => ?_)
      refine lv_if_eq (tgt := 61) hx hb dd_W_markAhead_41 (by decide) (fun c14 => ?_) (fun c14 => ?_)
      · replace hw := hw.1 c14
        exact wk_W_markAhead_61 C0 hr hlk ih _ _ _ _ _ _ _ _ _ hw hG hS (lv_sub hl [1, 2, 3, 4, 5] rfl)
      · replace hw := hw.2 c14
        refine lv_iload hx hb dd_W_markAhead_44 (lv_at hl 0 rfl) ?_
        refine lv_if_lt (tgt := 61) hx hb dd_W_markAhead_46 (by decide) (fun c15 => ?_) (fun c15 => ?_)
        · replace hw := hw.1 c15
          exact wk_W_markAhead_61 C0 hr hlk ih _ _ _ _ _ _ _ _ _ hw hG hS (lv_sub hl [1, 2, 3, 4, 5] rfl)
        · replace hw := hw.2 c15
          refine lv_iload hx hb dd_W_markAhead_49 (lv_at hl 0 rfl) ?_
          refine lv_aload_n hx hb dd_W_markAhead_51 rfl (lv_at hl 3 rfl) ?_
          obtain ⟨x17, k16, hw⟩ := hw
          refine px_len C0 hG hS k16 dd_W_markAhead_52 ?_
          refine lv_icmp_ge (tgt := 61) hx hb dd_W_markAhead_53 (by decide) (fun c18 => ?_) (fun c18 => ?_)
          · replace hw := hw.1 c18
            exact wk_W_markAhead_61 C0 hr hlk ih _ _ _ _ _ _ _ _ _ hw hG hS (lv_sub hl [1, 2, 3, 4, 5] rfl)
          · replace hw := hw.2 c18
            refine lv_aload_n hx hb dd_W_markAhead_56 rfl (lv_at hl 3 rfl) ?_
            refine lv_iload hx hb dd_W_markAhead_57 (lv_at hl 0 rfl) ?_
            refine lv_iconst (v := 1) hx hb dd_W_markAhead_59 (by decide) ?_
            obtain ⟨k19, k19i, hz, hw⟩ := hw
            refine px_zast C0 hG hS k19 k19i hz.nar dd_W_markAhead_60 (fun H locs hG hS => ?_)
            replace hw := hw _ rfl
            generalize sI h v2 x10.toNatClampNeg 1 = h20 at hw hG
            exact wk_W_markAhead_61 C0 hr hlk ih _ _ _ _ _ _ _ _ _ hw hG hS (lv_sub hl [1, 2, 3, 4, 5] rfl)
def wp_W_markAhead (g : Gm) (post : Hp → Prop) (h : Hp) (a0 : Nat) (b1 : Nat) (b2 : Nat) : Prop := hK h a0 = 2 ∧ wp_W_placeOf g (fun x3 => ∃ n : Nat, wp_W_markAhead_9 g post n h a0 b1 b2 x3 0) h a0 b1
set_option maxHeartbeats 4000000 in
set_option maxRecDepth 100000 in
theorem c_W_markAhead (l : Launch) (g : Gm) (post : Hp → Prop) (h : Hp) (a0 : Nat) (b1 : Nat) (b2 : Nat) (hw : wp_W_markAhead g post h a0 b1 b2) : Met l (⟨"SegmentLocks$Rows", "markAhead", "(LSegmentLocks$Task;[Z)V"⟩ : MethodName) (ww (⟨"SegmentLocks$Rows", "markAhead", "(LSegmentLocks$Task;[Z)V"⟩ : MethodName) prog_3_method_9_code 6 none) (rmm 4 86 0 0) (va_Pc [.ref a0, .ref b1, .ref b2] (gS g h)) (va_Qv post (gS g) (gA g)) 0 0 (gA g) := by
  first | refine en_met (by decide) ?_ | refine en_metF (by decide) ?_
  intro p e s m below meth c C0 hr hlk hin hG
  have hS : va_S (gA g) s.heap s.heap [] := va_S.rf
  have hl := lv_entry ([.ref a0, .ref b1, .ref b2]) (n := 6) (Nat.le_of_ble_eq_true rfl)
  rw [lg_entry_eq]
  generalize (lg_sl ([.ref a0, .ref b1, .ref b2]) ++ List.replicate (6 - (lg_sl ([.ref a0, .ref b1, .ref b2])).length) Slot.unset).toArray = ls at hl ⊢
  replace hl : lv_has ls 6 [(0, .ref a0), (1, .ref b1), (2, .ref b2)] := hl
  obtain ⟨hx, hb, -, hown, hts, hgk⟩ := id C0
  unfold wp_W_markAhead at hw
  refine lv_aload_n hx hb dd_W_markAhead_0 rfl (lv_at hl 0 rfl) ?_
  refine lv_aload_n hx hb dd_W_markAhead_1 rfl (lv_at hl 1 rfl) ?_
  obtain ⟨k1, hw⟩ := hw
  have hw0 := hw
  clear hw
  refine cs_i (rn_V C0 hG hS (c_W_placeOf l g _ h a0 b1 hw0) (ci := 1) k1 (by decide) rfl rfl (host := "") (nest := false) (n := 1) (As := [.ref b1]) (rest := []) km_164 km_163 km_165 km_166 km_39 ⟨by decide, by decide, by decide +kernel⟩ ⟨Nat.le_of_ble_eq_true rfl, Nat.le_of_ble_eq_true rfl⟩ rfl hl.1 rfl (Nat.le_of_ble_eq_true rfl) dd_W_markAhead_2 ⟨Nat.le_refl _, Nat.le_refl _⟩) (fun x3 hw => ?_)
  have hl0 := hl
  clear hl
  refine lv_istore_n (lv' := [(3, .int x3), (0, .ref a0), (1, .ref b1), (2, .ref b2)]) hx hb dd_W_markAhead_5 rfl hl0 (by decide) rfl (fun ls hl => ?_)
  refine lv_iconst (v := 0) hx hb dd_W_markAhead_6 (by decide) ?_
  have hl0 := hl
  clear hl
  refine lv_istore (lv' := [(4, .int 0), (3, .int x3), (0, .ref a0), (1, .ref b1), (2, .ref b2)]) hx hb dd_W_markAhead_7 hl0 (by decide) rfl (fun ls hl => ?_)
  obtain ⟨n, hw⟩ := hw
  exact wk_W_markAhead_9 C0 hr hlk n _ _ _ _ _ _ _ _ _ hw hG hS (lv_sub hl [2, 3, 4, 1, 0] rfl)
/-! SegmentLocks$Rows.countAhead(LSegmentLocks$Task;)I -/
theorem dd_W_countAhead_0 : decode prog_3_method_8_code 0 = .ok (.aload_n 1, 1) := by decide +kernel
theorem dd_W_countAhead_1 : decode prog_3_method_8_code 1 = .ok (.getfield 55, 3) := by decide +kernel
theorem dd_W_countAhead_4 : decode prog_3_method_8_code 4 = .ok (.iconst 1, 1) := by decide +kernel
theorem dd_W_countAhead_5 : decode prog_3_method_8_code 5 = .ok (.if_icmp .eq 5, 3) := by decide +kernel
theorem dd_W_countAhead_8 : decode prog_3_method_8_code 8 = .ok (.iconst 0, 1) := by decide +kernel
theorem dd_W_countAhead_9 : decode prog_3_method_8_code 9 = .ok (.ireturn, 1) := by decide +kernel
theorem dd_W_countAhead_10 : decode prog_3_method_8_code 10 = .ok (.aload_n 0, 1) := by decide +kernel
theorem dd_W_countAhead_11 : decode prog_3_method_8_code 11 = .ok (.aload_n 1, 1) := by decide +kernel
theorem dd_W_countAhead_12 : decode prog_3_method_8_code 12 = .ok (.invokevirtual 48, 3) := by decide +kernel
theorem dd_W_countAhead_15 : decode prog_3_method_8_code 15 = .ok (.istore_n 2, 1) := by decide +kernel
theorem dd_W_countAhead_16 : decode prog_3_method_8_code 16 = .ok (.iconst 0, 1) := by decide +kernel
theorem dd_W_countAhead_17 : decode prog_3_method_8_code 17 = .ok (.istore_n 3, 1) := by decide +kernel
theorem dd_W_countAhead_18 : decode prog_3_method_8_code 18 = .ok (.iconst 0, 1) := by decide +kernel
theorem dd_W_countAhead_19 : decode prog_3_method_8_code 19 = .ok (.istore 4, 2) := by decide +kernel
theorem dd_W_countAhead_21 : decode prog_3_method_8_code 21 = .ok (.iload 4, 2) := by decide +kernel
theorem dd_W_countAhead_23 : decode prog_3_method_8_code 23 = .ok (.iload_n 2, 1) := by decide +kernel
theorem dd_W_countAhead_24 : decode prog_3_method_8_code 24 = .ok (.if_icmp .ge 22, 3) := by decide +kernel
theorem dd_W_countAhead_27 : decode prog_3_method_8_code 27 = .ok (.aload_n 0, 1) := by decide +kernel
theorem dd_W_countAhead_28 : decode prog_3_method_8_code 28 = .ok (.iload 4, 2) := by decide +kernel
theorem dd_W_countAhead_30 : decode prog_3_method_8_code 30 = .ok (.aload_n 1, 1) := by decide +kernel
theorem dd_W_countAhead_31 : decode prog_3_method_8_code 31 = .ok (.invokevirtual 58, 3) := by decide +kernel
theorem dd_W_countAhead_34 : decode prog_3_method_8_code 34 = .ok (.ifCond .eq 6, 3) := by decide +kernel
theorem dd_W_countAhead_37 : decode prog_3_method_8_code 37 = .ok (.iinc 3 1, 3) := by decide +kernel
theorem dd_W_countAhead_40 : decode prog_3_method_8_code 40 = .ok (.iinc 4 1, 3) := by decide +kernel
theorem dd_W_countAhead_43 : decode prog_3_method_8_code 43 = .ok (.goto (-22), 3) := by decide +kernel
theorem dd_W_countAhead_46 : decode prog_3_method_8_code 46 = .ok (.iload_n 3, 1) := by decide +kernel
theorem dd_W_countAhead_47 : decode prog_3_method_8_code 47 = .ok (.ireturn, 1) := by decide +kernel
def wp_W_countAhead_40 (g : Gm) (post : Int32 → Prop) (K21 : Hp → Nat → Nat → Int32 → Int32 → Int32 → Prop) (h : Hp) (v0 : Nat) (v1 : Nat) (v2 : Int32) (v3 : Int32) (v4 : Int32) : Prop := ∀ x1 : Int32, x1 = v4 + 1 → K21 h v0 v1 v2 v3 x1
set_option maxHeartbeats 4000000 in
set_option maxRecDepth 100000 in
theorem wk_W_countAhead_40 {p : Program} {l : Launch} {e : Env} {s : State} {m : MethodId} {args : Array Value} {below : List Frame} {meth : Method} {c : Code} {g : Gm} {post : Int32 → Prop} (C0 : Cx g p s m args c prog_3_method_8_code 5 "SegmentLocks$Rows") (hr : meth.sig.returnType = (some .int)) (hlk : meth.locks = false) {K21 : Hp → Nat → Nat → Int32 → Int32 → Int32 → Prop} (hK21 : ∀ (h : Hp) (v0 : Nat) (v1 : Nat) (v2 : Int32) (v3 : Int32) (v4 : Int32) (ls : Array Slot), K21 h v0 v1 v2 v3 v4 → GH g h s.heap → lv_has ls 5 [(0, .ref v0), (1, .ref v1), (2, .int v2), (3, .int v3), (4, .int v4)] → W p l e (rmm 4 86 0 0) s m args below meth c s.heap [] 0 0 (MQ below (vp_Si post) args s 0 0 (fun _ => False)) (F0 m 21 ls [])) : ∀ (h : Hp) (v0 : Nat) (v1 : Nat) (v2 : Int32) (v3 : Int32) (v4 : Int32) (ls : Array Slot), wp_W_countAhead_40 g post K21 h v0 v1 v2 v3 v4 → GH g h s.heap → lv_has ls 5 [(0, .ref v0), (1, .ref v1), (2, .int v2), (3, .int v3), (4, .int v4)] → W p l e (rmm 4 86 0 0) s m args below meth c s.heap [] 0 0 (MQ below (vp_Si post) args s 0 0 (fun _ => False)) (F0 m 40 ls []) := by
  obtain ⟨hx, hb, -, hown, hts, hgk⟩ := id C0
  have hS : va_S (gA g) s.heap s.heap [] := va_S.rf
  intro h v0 v1 v2 v3 v4 ls hw hG hl
  unfold wp_W_countAhead_40 at hw
  obtain ⟨x1, ex1⟩ : ∃ y : Int32, y = v4 + 1 := ⟨_, rfl⟩
  replace hw := hw x1 ex1
  have hl0 := hl
  clear hl
  refine lv_iinc (v := x1) (lv' := [(4, .int x1), (0, .ref v0), (1, .ref v1), (2, .int v2), (3, .int v3)]) hx hb dd_W_countAhead_40 hl0 (k := 4) rfl (by rw [ex1]; rfl) (by decide) rfl (fun ls hl => ?_)
  refine lv_goto (tgt := 21) hx hb dd_W_countAhead_43 (by decide) ?_
  exact hK21 _ _ _ _ _ _ _ hw hG (lv_sub hl [1, 2, 3, 4, 0] rfl)
def wp_W_countAhead_21 (g : Gm) (post : Int32 → Prop) : Nat → Hp → Nat → Nat → Int32 → Int32 → Int32 → Prop
  | 0, _, _, _, _, _, _ => False
  | fu + 1, h, v0, v1, v2, v3, v4 => ((v2 ≤ v4 → post v3) ∧ (¬ v2 ≤ v4 → hK h v0 = 2 ∧ wp_W_isAhead g (fun x4 => ((x4 = 0 → wp_W_countAhead_40 g post (fun h v0 v1 v2 v3 v4 => wp_W_countAhead_21 g post fu h v0 v1 v2 v3 v4) h v0 v1 v2 v3 v4) ∧ (¬ x4 = 0 → ∀ x6 : Int32, x6 = v3 + 1 → wp_W_countAhead_40 g post (fun h v0 v1 v2 v3 v4 => wp_W_countAhead_21 g post fu h v0 v1 v2 v3 v4) h v0 v1 v2 x6 v4))) h v0 v4 v1))
set_option maxHeartbeats 4000000 in
set_option maxRecDepth 100000 in
theorem wk_W_countAhead_21 {p : Program} {l : Launch} {e : Env} {s : State} {m : MethodId} {args : Array Value} {below : List Frame} {meth : Method} {c : Code} {g : Gm} {post : Int32 → Prop} (C0 : Cx g p s m args c prog_3_method_8_code 5 "SegmentLocks$Rows") (hr : meth.sig.returnType = (some .int)) (hlk : meth.locks = false) : ∀ n : Nat, ∀ (h : Hp) (v0 : Nat) (v1 : Nat) (v2 : Int32) (v3 : Int32) (v4 : Int32) (ls : Array Slot), wp_W_countAhead_21 g post n h v0 v1 v2 v3 v4 → GH g h s.heap → lv_has ls 5 [(0, .ref v0), (1, .ref v1), (2, .int v2), (3, .int v3), (4, .int v4)] → W p l e (rmm 4 86 0 0) s m args below meth c s.heap [] 0 0 (MQ below (vp_Si post) args s 0 0 (fun _ => False)) (F0 m 21 ls []) := by
  obtain ⟨hx, hb, -, hown, hts, hgk⟩ := id C0
  have hS : va_S (gA g) s.heap s.heap [] := va_S.rf
  intro n
  induction n with
  | zero =>
    intro h v0 v1 v2 v3 v4 ls hw hG hl
    exact hw.elim
  | succ n ih =>
    intro h v0 v1 v2 v3 v4 ls hw hG hl
    unfold wp_W_countAhead_21 at hw
    refine lv_iload hx hb dd_W_countAhead_21 (lv_at hl 4 rfl) ?_
    refine lv_iload_n hx hb dd_W_countAhead_23 rfl (lv_at hl 2 rfl) ?_
    refine lv_icmp_ge (tgt := 46) hx hb dd_W_countAhead_24 (by decide) (fun c1 => ?_) (fun c1 => ?_)
    · replace hw := hw.1 c1
      refine lv_iload_n hx hb dd_W_countAhead_46 rfl (lv_at hl 3 rfl) ?_
      exact rs_i C0 hr hlk hw dd_W_countAhead_47
    · replace hw := hw.2 c1
      refine lv_aload_n hx hb dd_W_countAhead_27 rfl (lv_at hl 0 rfl) ?_
      refine lv_iload hx hb dd_W_countAhead_28 (lv_at hl 4 rfl) ?_
      refine lv_aload_n hx hb dd_W_countAhead_30 rfl (lv_at hl 1 rfl) ?_
      obtain ⟨k2, hw⟩ := hw
      have hw0 := hw
      clear hw
      refine cs_i (rn_V C0 hG hS (c_W_isAhead l g _ h v0 v4 v1 hw0) (ci := 1) k2 (by decide) rfl rfl (host := "") (nest := false) (n := 2) (As := [.int v4, .ref v1]) (rest := []) km_228 km_227 km_229 km_230 km_39 ⟨by decide, by decide, by decide +kernel⟩ ⟨Nat.le_of_ble_eq_true rfl, Nat.le_of_ble_eq_true rfl⟩ rfl hl.1 rfl (Nat.le_of_ble_eq_true rfl) dd_W_countAhead_31 ⟨Nat.le_refl _, Nat.le_refl _⟩) (fun x4 hw => ?_)
      refine lv_if_eq (tgt := 40) hx hb dd_W_countAhead_34 (by decide) (fun c5 => ?_) (fun c5 => ?_)
      · replace hw := hw.1 c5
        exact wk_W_countAhead_40 C0 hr hlk ih _ _ _ _ _ _ _ hw hG (lv_sub hl [0, 1, 2, 3, 4] rfl)
      · replace hw := hw.2 c5
        obtain ⟨x6, ex6⟩ : ∃ y : Int32, y = v3 + 1 := ⟨_, rfl⟩
        replace hw := hw x6 ex6
        have hl0 := hl
        clear hl
        refine lv_iinc (v := x6) (lv' := [(3, .int x6), (0, .ref v0), (1, .ref v1), (2, .int v2), (4, .int v4)]) hx hb dd_W_countAhead_37 hl0 (k := 3) rfl (by rw [ex6]; rfl) (by decide) rfl (fun ls hl => ?_)
        exact wk_W_countAhead_40 C0 hr hlk ih _ _ _ _ _ _ _ hw hG (lv_sub hl [1, 2, 3, 0, 4] rfl)
def wp_W_countAhead (g : Gm) (post : Int32 → Prop) (h : Hp) (a0 : Nat) (b1 : Nat) : Prop := hK h b1 = 4 ∧ (((hI h b1 9) = 1 → hK h a0 = 2 ∧ wp_W_placeOf g (fun x5 => ∃ n : Nat, wp_W_countAhead_21 g post n h a0 b1 x5 0 0) h a0 b1) ∧ (¬ (hI h b1 9) = 1 → post 0))
set_option maxHeartbeats 4000000 in
set_option maxRecDepth 100000 in
theorem c_W_countAhead (l : Launch) (g : Gm) (post : Int32 → Prop) (h : Hp) (a0 : Nat) (b1 : Nat) (hw : wp_W_countAhead g post h a0 b1) : Met l (⟨"SegmentLocks$Rows", "countAhead", "(LSegmentLocks$Task;)I"⟩ : MethodName) (ww (⟨"SegmentLocks$Rows", "countAhead", "(LSegmentLocks$Task;)I"⟩ : MethodName) prog_3_method_8_code 5 (some .int)) (rmm 4 86 0 0) (va_Pc [.ref a0, .ref b1] (gS g h)) (vp_Si post) 0 0 (fun _ => False) := by
  first | refine en_met (by decide) ?_ | refine en_metF (by decide) ?_
  intro p e s m below meth c C0 hr hlk hin hG
  have hS : va_S (gA g) s.heap s.heap [] := va_S.rf
  have hl := lv_entry ([.ref a0, .ref b1]) (n := 5) (Nat.le_of_ble_eq_true rfl)
  rw [lg_entry_eq]
  generalize (lg_sl ([.ref a0, .ref b1]) ++ List.replicate (5 - (lg_sl ([.ref a0, .ref b1])).length) Slot.unset).toArray = ls at hl ⊢
  replace hl : lv_has ls 5 [(0, .ref a0), (1, .ref b1)] := hl
  obtain ⟨hx, hb, -, hown, hts, hgk⟩ := id C0
  unfold wp_W_countAhead at hw
  refine lv_aload_n hx hb dd_W_countAhead_0 rfl (lv_at hl 1 rfl) ?_
  obtain ⟨k1, hw⟩ := hw
  refine gf_W_55 C0 hG k1 dd_W_countAhead_1 ?_
  refine lv_iconst (v := 1) hx hb dd_W_countAhead_4 (by decide) ?_
  refine lv_icmp_eq (tgt := 10) hx hb dd_W_countAhead_5 (by decide) (fun c2 => ?_) (fun c2 => ?_)
  · replace hw := hw.1 c2
    refine lv_aload_n hx hb dd_W_countAhead_10 rfl (lv_at hl 0 rfl) ?_
    refine lv_aload_n hx hb dd_W_countAhead_11 rfl (lv_at hl 1 rfl) ?_
    obtain ⟨k3, hw⟩ := hw
    have hw0 := hw
    clear hw
    refine cs_i (rn_V C0 hG hS (c_W_placeOf l g _ h a0 b1 hw0) (ci := 1) k3 (by decide) rfl rfl (host := "") (nest := false) (n := 1) (As := [.ref b1]) (rest := []) km_164 km_163 km_165 km_166 km_39 ⟨by decide, by decide, by decide +kernel⟩ ⟨Nat.le_of_ble_eq_true rfl, Nat.le_of_ble_eq_true rfl⟩ rfl hl.1 rfl (Nat.le_of_ble_eq_true rfl) dd_W_countAhead_12 ⟨Nat.le_refl _, Nat.le_refl _⟩) (fun x5 hw => ?_)
    have hl0 := hl
    clear hl
    refine lv_istore_n (lv' := [(2, .int x5), (0, .ref a0), (1, .ref b1)]) hx hb dd_W_countAhead_15 rfl hl0 (by decide) rfl (fun ls hl => ?_)
    refine lv_iconst (v := 0) hx hb dd_W_countAhead_16 (by decide) ?_
    have hl0 := hl
    clear hl
    refine lv_istore_n (lv' := [(3, .int 0), (2, .int x5), (0, .ref a0), (1, .ref b1)]) hx hb dd_W_countAhead_17 rfl hl0 (by decide) rfl (fun ls hl => ?_)
    refine lv_iconst (v := 0) hx hb dd_W_countAhead_18 (by decide) ?_
    have hl0 := hl
    clear hl
    refine lv_istore (lv' := [(4, .int 0), (3, .int 0), (2, .int x5), (0, .ref a0), (1, .ref b1)]) hx hb dd_W_countAhead_19 hl0 (by decide) rfl (fun ls hl => ?_)
    obtain ⟨n, hw⟩ := hw
    exact wk_W_countAhead_21 C0 hr hlk n _ _ _ _ _ _ _ hw hG (lv_sub hl [3, 4, 2, 1, 0] rfl)
  · replace hw := hw.2 c2
    refine lv_iconst (v := 0) hx hb dd_W_countAhead_8 (by decide) ?_
    exact rs_i C0 hr hlk hw dd_W_countAhead_9
