/-! SegmentLocksModel.<init>()V -/
theorem dd_M_init_0 : decode prog_6_method_1_code 0 = .ok (.aload_n 0, 1) := by decide +kernel
theorem dd_M_init_1 : decode prog_6_method_1_code 1 = .ok (.invokespecial 1, 3) := by decide +kernel
theorem dd_M_init_4 : decode prog_6_method_1_code 4 = .ok (.aload_n 0, 1) := by decide +kernel
theorem dd_M_init_5 : decode prog_6_method_1_code 5 = .ok (.bipush 50, 2) := by decide +kernel
theorem dd_M_init_7 : decode prog_6_method_1_code 7 = .ok (.newarray .long, 2) := by decide +kernel
theorem dd_M_init_9 : decode prog_6_method_1_code 9 = .ok (.putfield 7, 3) := by decide +kernel
theorem dd_M_init_12 : decode prog_6_method_1_code 12 = .ok (.aload_n 0, 1) := by decide +kernel
theorem dd_M_init_13 : decode prog_6_method_1_code 13 = .ok (.bipush 31, 2) := by decide +kernel
theorem dd_M_init_15 : decode prog_6_method_1_code 15 = .ok (.newarray .int, 2) := by decide +kernel
theorem dd_M_init_17 : decode prog_6_method_1_code 17 = .ok (.putfield 13, 3) := by decide +kernel
theorem dd_M_init_20 : decode prog_6_method_1_code 20 = .ok (.aload_n 0, 1) := by decide +kernel
theorem dd_M_init_21 : decode prog_6_method_1_code 21 = .ok (.bipush 31, 2) := by decide +kernel
theorem dd_M_init_23 : decode prog_6_method_1_code 23 = .ok (.newarray .int, 2) := by decide +kernel
theorem dd_M_init_25 : decode prog_6_method_1_code 25 = .ok (.putfield 17, 3) := by decide +kernel
theorem dd_M_init_28 : decode prog_6_method_1_code 28 = .ok (.aload_n 0, 1) := by decide +kernel
theorem dd_M_init_29 : decode prog_6_method_1_code 29 = .ok (.bipush 31, 2) := by decide +kernel
theorem dd_M_init_31 : decode prog_6_method_1_code 31 = .ok (.newarray .int, 2) := by decide +kernel
theorem dd_M_init_33 : decode prog_6_method_1_code 33 = .ok (.putfield 20, 3) := by decide +kernel
theorem dd_M_init_36 : decode prog_6_method_1_code 36 = .ok (.aload_n 0, 1) := by decide +kernel
theorem dd_M_init_37 : decode prog_6_method_1_code 37 = .ok (.bipush 31, 2) := by decide +kernel
theorem dd_M_init_39 : decode prog_6_method_1_code 39 = .ok (.newarray .int, 2) := by decide +kernel
theorem dd_M_init_41 : decode prog_6_method_1_code 41 = .ok (.putfield 23, 3) := by decide +kernel
theorem dd_M_init_44 : decode prog_6_method_1_code 44 = .ok (.aload_n 0, 1) := by decide +kernel
theorem dd_M_init_45 : decode prog_6_method_1_code 45 = .ok (.bipush 31, 2) := by decide +kernel
theorem dd_M_init_47 : decode prog_6_method_1_code 47 = .ok (.newarray .int, 2) := by decide +kernel
theorem dd_M_init_49 : decode prog_6_method_1_code 49 = .ok (.putfield 26, 3) := by decide +kernel
theorem dd_M_init_52 : decode prog_6_method_1_code 52 = .ok (.aload_n 0, 1) := by decide +kernel
theorem dd_M_init_53 : decode prog_6_method_1_code 53 = .ok (.sipush 1550, 3) := by decide +kernel
theorem dd_M_init_56 : decode prog_6_method_1_code 56 = .ok (.newarray .int, 2) := by decide +kernel
theorem dd_M_init_58 : decode prog_6_method_1_code 58 = .ok (.putfield 29, 3) := by decide +kernel
theorem dd_M_init_61 : decode prog_6_method_1_code 61 = .ok (.aload_n 0, 1) := by decide +kernel
theorem dd_M_init_62 : decode prog_6_method_1_code 62 = .ok (.sipush 1550, 3) := by decide +kernel
theorem dd_M_init_65 : decode prog_6_method_1_code 65 = .ok (.newarray .int, 2) := by decide +kernel
theorem dd_M_init_67 : decode prog_6_method_1_code 67 = .ok (.putfield 32, 3) := by decide +kernel
theorem dd_M_init_70 : decode prog_6_method_1_code 70 = .ok (.aload_n 0, 1) := by decide +kernel
theorem dd_M_init_71 : decode prog_6_method_1_code 71 = .ok (.sipush 1550, 3) := by decide +kernel
theorem dd_M_init_74 : decode prog_6_method_1_code 74 = .ok (.newarray .boolean, 2) := by decide +kernel
theorem dd_M_init_76 : decode prog_6_method_1_code 76 = .ok (.putfield 35, 3) := by decide +kernel
theorem dd_M_init_79 : decode prog_6_method_1_code 79 = .ok (.aload_n 0, 1) := by decide +kernel
theorem dd_M_init_80 : decode prog_6_method_1_code 80 = .ok (.sipush 1550, 3) := by decide +kernel
theorem dd_M_init_83 : decode prog_6_method_1_code 83 = .ok (.newarray .boolean, 2) := by decide +kernel
theorem dd_M_init_85 : decode prog_6_method_1_code 85 = .ok (.putfield 39, 3) := by decide +kernel
theorem dd_M_init_88 : decode prog_6_method_1_code 88 = .ok (.aload_n 0, 1) := by decide +kernel
theorem dd_M_init_89 : decode prog_6_method_1_code 89 = .ok (.sipush 1550, 3) := by decide +kernel
theorem dd_M_init_92 : decode prog_6_method_1_code 92 = .ok (.newarray .long, 2) := by decide +kernel
theorem dd_M_init_94 : decode prog_6_method_1_code 94 = .ok (.putfield 42, 3) := by decide +kernel
theorem dd_M_init_97 : decode prog_6_method_1_code 97 = .ok (.aload_n 0, 1) := by decide +kernel
theorem dd_M_init_98 : decode prog_6_method_1_code 98 = .ok (.sipush 1550, 3) := by decide +kernel
theorem dd_M_init_101 : decode prog_6_method_1_code 101 = .ok (.newarray .int, 2) := by decide +kernel
theorem dd_M_init_103 : decode prog_6_method_1_code 103 = .ok (.putfield 45, 3) := by decide +kernel
theorem dd_M_init_106 : decode prog_6_method_1_code 106 = .ok (.aload_n 0, 1) := by decide +kernel
theorem dd_M_init_107 : decode prog_6_method_1_code 107 = .ok (.bipush 50, 2) := by decide +kernel
theorem dd_M_init_109 : decode prog_6_method_1_code 109 = .ok (.newarray .int, 2) := by decide +kernel
theorem dd_M_init_111 : decode prog_6_method_1_code 111 = .ok (.putfield 48, 3) := by decide +kernel
theorem dd_M_init_114 : decode prog_6_method_1_code 114 = .ok (.aload_n 0, 1) := by decide +kernel
theorem dd_M_init_115 : decode prog_6_method_1_code 115 = .ok (.sipush 2000, 3) := by decide +kernel
theorem dd_M_init_118 : decode prog_6_method_1_code 118 = .ok (.newarray .int, 2) := by decide +kernel
theorem dd_M_init_120 : decode prog_6_method_1_code 120 = .ok (.putfield 51, 3) := by decide +kernel
theorem dd_M_init_123 : decode prog_6_method_1_code 123 = .ok (.aload_n 0, 1) := by decide +kernel
theorem dd_M_init_124 : decode prog_6_method_1_code 124 = .ok (.sipush 2000, 3) := by decide +kernel
theorem dd_M_init_127 : decode prog_6_method_1_code 127 = .ok (.newarray .int, 2) := by decide +kernel
theorem dd_M_init_129 : decode prog_6_method_1_code 129 = .ok (.putfield 54, 3) := by decide +kernel
theorem dd_M_init_132 : decode prog_6_method_1_code 132 = .ok (.aload_n 0, 1) := by decide +kernel
theorem dd_M_init_133 : decode prog_6_method_1_code 133 = .ok (.sipush 2000, 3) := by decide +kernel
theorem dd_M_init_136 : decode prog_6_method_1_code 136 = .ok (.newarray .long, 2) := by decide +kernel
theorem dd_M_init_138 : decode prog_6_method_1_code 138 = .ok (.putfield 57, 3) := by decide +kernel
theorem dd_M_init_141 : decode prog_6_method_1_code 141 = .ok (.aload_n 0, 1) := by decide +kernel
theorem dd_M_init_142 : decode prog_6_method_1_code 142 = .ok (.bipush 31, 2) := by decide +kernel
theorem dd_M_init_144 : decode prog_6_method_1_code 144 = .ok (.newarray .int, 2) := by decide +kernel
theorem dd_M_init_146 : decode prog_6_method_1_code 146 = .ok (.putfield 60, 3) := by decide +kernel
theorem dd_M_init_149 : decode prog_6_method_1_code 149 = .ok (.aload_n 0, 1) := by decide +kernel
theorem dd_M_init_150 : decode prog_6_method_1_code 150 = .ok (.bipush 31, 2) := by decide +kernel
theorem dd_M_init_152 : decode prog_6_method_1_code 152 = .ok (.newarray .int, 2) := by decide +kernel
theorem dd_M_init_154 : decode prog_6_method_1_code 154 = .ok (.putfield 63, 3) := by decide +kernel
theorem dd_M_init_157 : decode prog_6_method_1_code 157 = .ok (.aload_n 0, 1) := by decide +kernel
theorem dd_M_init_158 : decode prog_6_method_1_code 158 = .ok (.bipush 31, 2) := by decide +kernel
theorem dd_M_init_160 : decode prog_6_method_1_code 160 = .ok (.newarray .int, 2) := by decide +kernel
theorem dd_M_init_162 : decode prog_6_method_1_code 162 = .ok (.putfield 66, 3) := by decide +kernel
theorem dd_M_init_165 : decode prog_6_method_1_code 165 = .ok (.aload_n 0, 1) := by decide +kernel
theorem dd_M_init_166 : decode prog_6_method_1_code 166 = .ok (.bipush 31, 2) := by decide +kernel
theorem dd_M_init_168 : decode prog_6_method_1_code 168 = .ok (.newarray .int, 2) := by decide +kernel
theorem dd_M_init_170 : decode prog_6_method_1_code 170 = .ok (.putfield 69, 3) := by decide +kernel
theorem dd_M_init_173 : decode prog_6_method_1_code 173 = .ok (.iconst 0, 1) := by decide +kernel
theorem dd_M_init_174 : decode prog_6_method_1_code 174 = .ok (.istore_n 1, 1) := by decide +kernel
theorem dd_M_init_175 : decode prog_6_method_1_code 175 = .ok (.iload_n 1, 1) := by decide +kernel
theorem dd_M_init_176 : decode prog_6_method_1_code 176 = .ok (.sipush 1550, 3) := by decide +kernel
theorem dd_M_init_179 : decode prog_6_method_1_code 179 = .ok (.if_icmp .ge 16, 3) := by decide +kernel
theorem dd_M_init_182 : decode prog_6_method_1_code 182 = .ok (.aload_n 0, 1) := by decide +kernel
theorem dd_M_init_183 : decode prog_6_method_1_code 183 = .ok (.getfield 29, 3) := by decide +kernel
theorem dd_M_init_186 : decode prog_6_method_1_code 186 = .ok (.iload_n 1, 1) := by decide +kernel
theorem dd_M_init_187 : decode prog_6_method_1_code 187 = .ok (.iconst (-1), 1) := by decide +kernel
theorem dd_M_init_188 : decode prog_6_method_1_code 188 = .ok (.iastore, 1) := by decide +kernel
theorem dd_M_init_189 : decode prog_6_method_1_code 189 = .ok (.iinc 1 1, 3) := by decide +kernel
theorem dd_M_init_192 : decode prog_6_method_1_code 192 = .ok (.goto (-17), 3) := by decide +kernel
theorem dd_M_init_195 : decode prog_6_method_1_code 195 = .ok (.iconst 0, 1) := by decide +kernel
theorem dd_M_init_196 : decode prog_6_method_1_code 196 = .ok (.istore_n 1, 1) := by decide +kernel
theorem dd_M_init_197 : decode prog_6_method_1_code 197 = .ok (.iload_n 1, 1) := by decide +kernel
theorem dd_M_init_198 : decode prog_6_method_1_code 198 = .ok (.bipush 30, 2) := by decide +kernel
theorem dd_M_init_200 : decode prog_6_method_1_code 200 = .ok (.if_icmp .gt 16, 3) := by decide +kernel
theorem dd_M_init_203 : decode prog_6_method_1_code 203 = .ok (.aload_n 0, 1) := by decide +kernel
theorem dd_M_init_204 : decode prog_6_method_1_code 204 = .ok (.getfield 23, 3) := by decide +kernel
theorem dd_M_init_207 : decode prog_6_method_1_code 207 = .ok (.iload_n 1, 1) := by decide +kernel
theorem dd_M_init_208 : decode prog_6_method_1_code 208 = .ok (.iconst (-1), 1) := by decide +kernel
theorem dd_M_init_209 : decode prog_6_method_1_code 209 = .ok (.iastore, 1) := by decide +kernel
theorem dd_M_init_210 : decode prog_6_method_1_code 210 = .ok (.iinc 1 1, 3) := by decide +kernel
theorem dd_M_init_213 : decode prog_6_method_1_code 213 = .ok (.goto (-16), 3) := by decide +kernel
theorem dd_M_init_216 : decode prog_6_method_1_code 216 = .ok (.return_, 1) := by decide +kernel
def wp_M_init_197 (g : Gm) (post : Hp → Prop) (mc ms : Nat) : Nat → Hp → Nat → Nat → Nat → Int32 → Prop
  | 0, _, _, _, _, _ => False
  | fu + 1, h, kc, ks, v0, v1 => ((30 < v1 → post h) ∧ (¬ 30 < v1 → hK h v0 = 5 ∧ ∃ a3 : Nat, hR h v0 7 = some a3 ∧ hK h a3 = 21 ∧ vp_in v1 (hN h a3) ∧ ∀ h5 : Hp, h5 = sI h a3 v1.toNatClampNeg (-1) → ∀ x6 : Int32, x6 = v1 + 1 → wp_M_init_197 g post mc ms fu h5 kc ks v0 x6))
set_option maxHeartbeats 4000000 in
set_option maxRecDepth 100000 in
theorem wk_M_init_197 {p : Program} {l : Launch} {e : Env} {s : State} {m : MethodId} {args : Array Value} {below : List Frame} {meth : Method} {c : Code} {g : Gm} {post : Hp → Prop} {mc ms : Nat} (C0 : Cx g p s m args c prog_6_method_1_code 2 "SegmentLocksModel") (hr : meth.sig.returnType = none) (hlk : meth.locks = false) (hin : meth.name = "<init>") : ∀ n : Nat, ∀ (h : Hp) (kc ks : Nat) (v0 : Nat) (v1 : Int32) (H : Heap) (locs : List Loc) (ls : Array Slot), wp_M_init_197 g post mc ms n h kc ks v0 v1 → GH g h H → va_S (gA g) s.heap H locs → kc ≤ mc ∧ ks ≤ ms → lv_has ls 2 [(0, .ref v0), (1, .int v1)] → W p l e (rmm 1 24 mc ms) s m args below meth c H locs kc ks (MQ below (va_Qv post (gS g) (gA g)) args s mc ms (gA g)) (F0 m 197 ls []) := by
  obtain ⟨hx, hb, -, hown, hts, hgk⟩ := id C0
  intro n
  induction n with
  | zero =>
    intro h kc ks v0 v1 H locs ls hw hG hS hkc hl
    exact hw.elim
  | succ n ih =>
    intro h kc ks v0 v1 H locs ls hw hG hS hkc hl
    unfold wp_M_init_197 at hw
    refine lv_iload_n hx hb dd_M_init_197 rfl (lv_at hl 1 rfl) ?_
    refine lv_bipush (v := 30) hx hb dd_M_init_198 (by decide) ?_
    refine lv_icmp_gt (tgt := 216) hx hb dd_M_init_200 (by decide) (fun c1 => ?_) (fun c1 => ?_)
    · replace hw := hw.1 c1
      exact re_v C0 hG hS hr hlk hkc hw dd_M_init_216
    · replace hw := hw.2 c1
      refine lv_aload_n hx hb dd_M_init_203 rfl (lv_at hl 0 rfl) ?_
      obtain ⟨k2, a3, ea3, hw⟩ := hw
      refine gf_M_23 C0 hG k2 ea3 dd_M_init_204 ?_
      refine lv_iload_n hx hb dd_M_init_207 rfl (lv_at hl 1 rfl) ?_
      refine lv_iconst (v := (-1)) hx hb dd_M_init_208 (by decide) ?_
      obtain ⟨k4, k4i, hw⟩ := hw
      refine px_iast C0 hG hS k4 k4i dd_M_init_209 (fun H locs hG hS => ?_)
      replace hw := hw _ rfl
      generalize sI h a3 v1.toNatClampNeg (-1) = h5 at hw hG
      obtain ⟨x6, ex6⟩ : ∃ y : Int32, y = v1 + 1 := ⟨_, rfl⟩
      replace hw := hw x6 ex6
      have hl0 := hl
      clear hl
      refine lv_iinc (v := x6) (lv' := [(1, .int x6), (0, .ref v0)]) hx hb dd_M_init_210 hl0 (k := 1) rfl (by rw [ex6]; rfl) (by decide) rfl (fun ls hl => ?_)
      refine lv_goto (tgt := 197) hx hb dd_M_init_213 (by decide) ?_
      exact ih _ _ _ _ _ _ _ _ hw hG hS hkc (lv_sub hl [1, 0] rfl)
def wp_M_init_175 (g : Gm) (post : Hp → Prop) (mc ms : Nat) : Nat → Hp → Nat → Nat → Nat → Int32 → Prop
  | 0, _, _, _, _, _ => False
  | fu + 1, h, kc, ks, v0, v1 => ((1550 ≤ v1 → ∃ n : Nat, wp_M_init_197 g post mc ms n h kc ks v0 0) ∧ (¬ 1550 ≤ v1 → hK h v0 = 5 ∧ ∃ a3 : Nat, hR h v0 9 = some a3 ∧ hK h a3 = 21 ∧ vp_in v1 (hN h a3) ∧ ∀ h5 : Hp, h5 = sI h a3 v1.toNatClampNeg (-1) → ∀ x6 : Int32, x6 = v1 + 1 → wp_M_init_175 g post mc ms fu h5 kc ks v0 x6))
set_option maxHeartbeats 4000000 in
set_option maxRecDepth 100000 in
theorem wk_M_init_175 {p : Program} {l : Launch} {e : Env} {s : State} {m : MethodId} {args : Array Value} {below : List Frame} {meth : Method} {c : Code} {g : Gm} {post : Hp → Prop} {mc ms : Nat} (C0 : Cx g p s m args c prog_6_method_1_code 2 "SegmentLocksModel") (hr : meth.sig.returnType = none) (hlk : meth.locks = false) (hin : meth.name = "<init>") : ∀ n : Nat, ∀ (h : Hp) (kc ks : Nat) (v0 : Nat) (v1 : Int32) (H : Heap) (locs : List Loc) (ls : Array Slot), wp_M_init_175 g post mc ms n h kc ks v0 v1 → GH g h H → va_S (gA g) s.heap H locs → kc ≤ mc ∧ ks ≤ ms → lv_has ls 2 [(0, .ref v0), (1, .int v1)] → W p l e (rmm 1 24 mc ms) s m args below meth c H locs kc ks (MQ below (va_Qv post (gS g) (gA g)) args s mc ms (gA g)) (F0 m 175 ls []) := by
  obtain ⟨hx, hb, -, hown, hts, hgk⟩ := id C0
  intro n
  induction n with
  | zero =>
    intro h kc ks v0 v1 H locs ls hw hG hS hkc hl
    exact hw.elim
  | succ n ih =>
    intro h kc ks v0 v1 H locs ls hw hG hS hkc hl
    unfold wp_M_init_175 at hw
    refine lv_iload_n hx hb dd_M_init_175 rfl (lv_at hl 1 rfl) ?_
    refine lv_sipush (v := 1550) hx hb dd_M_init_176 (by decide) ?_
    refine lv_icmp_ge (tgt := 195) hx hb dd_M_init_179 (by decide) (fun c1 => ?_) (fun c1 => ?_)
    · replace hw := hw.1 c1
      refine lv_iconst (v := 0) hx hb dd_M_init_195 (by decide) ?_
      have hl0 := hl
      clear hl
      refine lv_istore_n (lv' := [(1, .int 0), (0, .ref v0)]) hx hb dd_M_init_196 rfl hl0 (by decide) rfl (fun ls hl => ?_)
      obtain ⟨n, hw⟩ := hw
      exact wk_M_init_197 C0 hr hlk hin n _ _ _ _ _ _ _ _ hw hG hS hkc (lv_sub hl [1, 0] rfl)
    · replace hw := hw.2 c1
      refine lv_aload_n hx hb dd_M_init_182 rfl (lv_at hl 0 rfl) ?_
      obtain ⟨k2, a3, ea3, hw⟩ := hw
      refine gf_M_29 C0 hG k2 ea3 dd_M_init_183 ?_
      refine lv_iload_n hx hb dd_M_init_186 rfl (lv_at hl 1 rfl) ?_
      refine lv_iconst (v := (-1)) hx hb dd_M_init_187 (by decide) ?_
      obtain ⟨k4, k4i, hw⟩ := hw
      refine px_iast C0 hG hS k4 k4i dd_M_init_188 (fun H locs hG hS => ?_)
      replace hw := hw _ rfl
      generalize sI h a3 v1.toNatClampNeg (-1) = h5 at hw hG
      obtain ⟨x6, ex6⟩ : ∃ y : Int32, y = v1 + 1 := ⟨_, rfl⟩
      replace hw := hw x6 ex6
      have hl0 := hl
      clear hl
      refine lv_iinc (v := x6) (lv' := [(1, .int x6), (0, .ref v0)]) hx hb dd_M_init_189 hl0 (k := 1) rfl (by rw [ex6]; rfl) (by decide) rfl (fun ls hl => ?_)
      refine lv_goto (tgt := 175) hx hb dd_M_init_192 (by decide) ?_
      exact ih _ _ _ _ _ _ _ _ hw hG hS hkc (lv_sub hl [1, 0] rfl)
def wp_M_init (g : Gm) (post : Hp → Prop) (mc ms : Nat) (h : Hp) (a0 : Nat) : Prop := 0 + 1 ≤ mc ∧ 0 + 50 ≤ ms ∧ ∀ q1 : Nat, hK h q1 = 0 → g.2.2 0 ≤ q1 → ∀ h2 : Hp, h2 = mkC h q1 22 50 → hK h2 a0 = 5 ∧ ∀ h4 : Hp, h4 = sR h2 a0 1 (some q1) → (0 + 1) + 1 ≤ mc ∧ (0 + 50) + 31 ≤ ms ∧ ∀ q5 : Nat, hK h4 q5 = 0 → g.2.2 0 ≤ q5 → ∀ h6 : Hp, h6 = mkC h4 q5 21 31 → hK h6 a0 = 5 ∧ ∀ h8 : Hp, h8 = sR h6 a0 4 (some q5) → ((0 + 1) + 1) + 1 ≤ mc ∧ ((0 + 50) + 31) + 31 ≤ ms ∧ ∀ q9 : Nat, hK h8 q9 = 0 → g.2.2 0 ≤ q9 → ∀ h10 : Hp, h10 = mkC h8 q9 21 31 → hK h10 a0 = 5 ∧ ∀ h12 : Hp, h12 = sR h10 a0 5 (some q9) → (((0 + 1) + 1) + 1) + 1 ≤ mc ∧ (((0 + 50) + 31) + 31) + 31 ≤ ms ∧ ∀ q13 : Nat, hK h12 q13 = 0 → g.2.2 0 ≤ q13 → ∀ h14 : Hp, h14 = mkC h12 q13 21 31 → hK h14 a0 = 5 ∧ ∀ h16 : Hp, h16 = sR h14 a0 6 (some q13) → ((((0 + 1) + 1) + 1) + 1) + 1 ≤ mc ∧ ((((0 + 50) + 31) + 31) + 31) + 31 ≤ ms ∧ ∀ q17 : Nat, hK h16 q17 = 0 → g.2.2 0 ≤ q17 → ∀ h18 : Hp, h18 = mkC h16 q17 21 31 → hK h18 a0 = 5 ∧ ∀ h20 : Hp, h20 = sR h18 a0 7 (some q17) → (((((0 + 1) + 1) + 1) + 1) + 1) + 1 ≤ mc ∧ (((((0 + 50) + 31) + 31) + 31) + 31) + 31 ≤ ms ∧ ∀ q21 : Nat, hK h20 q21 = 0 → g.2.2 0 ≤ q21 → ∀ h22 : Hp, h22 = mkC h20 q21 21 31 → hK h22 a0 = 5 ∧ ∀ h24 : Hp, h24 = sR h22 a0 8 (some q21) → ((((((0 + 1) + 1) + 1) + 1) + 1) + 1) + 1 ≤ mc ∧ ((((((0 + 50) + 31) + 31) + 31) + 31) + 31) + 1550 ≤ ms ∧ ∀ q25 : Nat, hK h24 q25 = 0 → g.2.2 0 ≤ q25 → ∀ h26 : Hp, h26 = mkC h24 q25 21 1550 → hK h26 a0 = 5 ∧ ∀ h28 : Hp, h28 = sR h26 a0 9 (some q25) → (((((((0 + 1) + 1) + 1) + 1) + 1) + 1) + 1) + 1 ≤ mc ∧ (((((((0 + 50) + 31) + 31) + 31) + 31) + 31) + 1550) + 1550 ≤ ms ∧ ∀ q29 : Nat, hK h28 q29 = 0 → g.2.2 0 ≤ q29 → ∀ h30 : Hp, h30 = mkC h28 q29 21 1550 → hK h30 a0 = 5 ∧ ∀ h32 : Hp, h32 = sR h30 a0 10 (some q29) → ((((((((0 + 1) + 1) + 1) + 1) + 1) + 1) + 1) + 1) + 1 ≤ mc ∧ ((((((((0 + 50) + 31) + 31) + 31) + 31) + 31) + 1550) + 1550) + 1550 ≤ ms ∧ ∀ q33 : Nat, hK h32 q33 = 0 → g.2.2 0 ≤ q33 → ∀ h34 : Hp, h34 = mkC h32 q33 23 1550 → hK h34 a0 = 5 ∧ ∀ h36 : Hp, h36 = sR h34 a0 11 (some q33) → (((((((((0 + 1) + 1) + 1) + 1) + 1) + 1) + 1) + 1) + 1) + 1 ≤ mc ∧ (((((((((0 + 50) + 31) + 31) + 31) + 31) + 31) + 1550) + 1550) + 1550) + 1550 ≤ ms ∧ ∀ q37 : Nat, hK h36 q37 = 0 → g.2.2 0 ≤ q37 → ∀ h38 : Hp, h38 = mkC h36 q37 23 1550 → hK h38 a0 = 5 ∧ ∀ h40 : Hp, h40 = sR h38 a0 12 (some q37) → ((((((((((0 + 1) + 1) + 1) + 1) + 1) + 1) + 1) + 1) + 1) + 1) + 1 ≤ mc ∧ ((((((((((0 + 50) + 31) + 31) + 31) + 31) + 31) + 1550) + 1550) + 1550) + 1550) + 1550 ≤ ms ∧ ∀ q41 : Nat, hK h40 q41 = 0 → g.2.2 0 ≤ q41 → ∀ h42 : Hp, h42 = mkC h40 q41 22 1550 → hK h42 a0 = 5 ∧ ∀ h44 : Hp, h44 = sR h42 a0 13 (some q41) → (((((((((((0 + 1) + 1) + 1) + 1) + 1) + 1) + 1) + 1) + 1) + 1) + 1) + 1 ≤ mc ∧ (((((((((((0 + 50) + 31) + 31) + 31) + 31) + 31) + 1550) + 1550) + 1550) + 1550) + 1550) + 1550 ≤ ms ∧ ∀ q45 : Nat, hK h44 q45 = 0 → g.2.2 0 ≤ q45 → ∀ h46 : Hp, h46 = mkC h44 q45 21 1550 → hK h46 a0 = 5 ∧ ∀ h48 : Hp, h48 = sR h46 a0 15 (some q45) → ((((((((((((0 + 1) + 1) + 1) + 1) + 1) + 1) + 1) + 1) + 1) + 1) + 1) + 1) + 1 ≤ mc ∧ ((((((((((((0 + 50) + 31) + 31) + 31) + 31) + 31) + 1550) + 1550) + 1550) + 1550) + 1550) + 1550) + 50 ≤ ms ∧ ∀ q49 : Nat, hK h48 q49 = 0 → g.2.2 0 ≤ q49 → ∀ h50 : Hp, h50 = mkC h48 q49 21 50 → hK h50 a0 = 5 ∧ ∀ h52 : Hp, h52 = sR h50 a0 16 (some q49) → (((((((((((((0 + 1) + 1) + 1) + 1) + 1) + 1) + 1) + 1) + 1) + 1) + 1) + 1) + 1) + 1 ≤ mc ∧ (((((((((((((0 + 50) + 31) + 31) + 31) + 31) + 31) + 1550) + 1550) + 1550) + 1550) + 1550) + 1550) + 50) + 2000 ≤ ms ∧ ∀ q53 : Nat, hK h52 q53 = 0 → g.2.2 0 ≤ q53 → ∀ h54 : Hp, h54 = mkC h52 q53 21 2000 → hK h54 a0 = 5 ∧ ∀ h56 : Hp, h56 = sR h54 a0 17 (some q53) → ((((((((((((((0 + 1) + 1) + 1) + 1) + 1) + 1) + 1) + 1) + 1) + 1) + 1) + 1) + 1) + 1) + 1 ≤ mc ∧ ((((((((((((((0 + 50) + 31) + 31) + 31) + 31) + 31) + 1550) + 1550) + 1550) + 1550) + 1550) + 1550) + 50) + 2000) + 2000 ≤ ms ∧ ∀ q57 : Nat, hK h56 q57 = 0 → g.2.2 0 ≤ q57 → ∀ h58 : Hp, h58 = mkC h56 q57 21 2000 → hK h58 a0 = 5 ∧ ∀ h60 : Hp, h60 = sR h58 a0 18 (some q57) → (((((((((((((((0 + 1) + 1) + 1) + 1) + 1) + 1) + 1) + 1) + 1) + 1) + 1) + 1) + 1) + 1) + 1) + 1 ≤ mc ∧ (((((((((((((((0 + 50) + 31) + 31) + 31) + 31) + 31) + 1550) + 1550) + 1550) + 1550) + 1550) + 1550) + 50) + 2000) + 2000) + 2000 ≤ ms ∧ ∀ q61 : Nat, hK h60 q61 = 0 → g.2.2 0 ≤ q61 → ∀ h62 : Hp, h62 = mkC h60 q61 22 2000 → hK h62 a0 = 5 ∧ ∀ h64 : Hp, h64 = sR h62 a0 19 (some q61) → ((((((((((((((((0 + 1) + 1) + 1) + 1) + 1) + 1) + 1) + 1) + 1) + 1) + 1) + 1) + 1) + 1) + 1) + 1) + 1 ≤ mc ∧ ((((((((((((((((0 + 50) + 31) + 31) + 31) + 31) + 31) + 1550) + 1550) + 1550) + 1550) + 1550) + 1550) + 50) + 2000) + 2000) + 2000) + 31 ≤ ms ∧ ∀ q65 : Nat, hK h64 q65 = 0 → g.2.2 0 ≤ q65 → ∀ h66 : Hp, h66 = mkC h64 q65 21 31 → hK h66 a0 = 5 ∧ ∀ h68 : Hp, h68 = sR h66 a0 21 (some q65) → (((((((((((((((((0 + 1) + 1) + 1) + 1) + 1) + 1) + 1) + 1) + 1) + 1) + 1) + 1) + 1) + 1) + 1) + 1) + 1) + 1 ≤ mc ∧ (((((((((((((((((0 + 50) + 31) + 31) + 31) + 31) + 31) + 1550) + 1550) + 1550) + 1550) + 1550) + 1550) + 50) + 2000) + 2000) + 2000) + 31) + 31 ≤ ms ∧ ∀ q69 : Nat, hK h68 q69 = 0 → g.2.2 0 ≤ q69 → ∀ h70 : Hp, h70 = mkC h68 q69 21 31 → hK h70 a0 = 5 ∧ ∀ h72 : Hp, h72 = sR h70 a0 22 (some q69) → ((((((((((((((((((0 + 1) + 1) + 1) + 1) + 1) + 1) + 1) + 1) + 1) + 1) + 1) + 1) + 1) + 1) + 1) + 1) + 1) + 1) + 1 ≤ mc ∧ ((((((((((((((((((0 + 50) + 31) + 31) + 31) + 31) + 31) + 1550) + 1550) + 1550) + 1550) + 1550) + 1550) + 50) + 2000) + 2000) + 2000) + 31) + 31) + 31 ≤ ms ∧ ∀ q73 : Nat, hK h72 q73 = 0 → g.2.2 0 ≤ q73 → ∀ h74 : Hp, h74 = mkC h72 q73 21 31 → hK h74 a0 = 5 ∧ ∀ h76 : Hp, h76 = sR h74 a0 23 (some q73) → (((((((((((((((((((0 + 1) + 1) + 1) + 1) + 1) + 1) + 1) + 1) + 1) + 1) + 1) + 1) + 1) + 1) + 1) + 1) + 1) + 1) + 1) + 1 ≤ mc ∧ (((((((((((((((((((0 + 50) + 31) + 31) + 31) + 31) + 31) + 1550) + 1550) + 1550) + 1550) + 1550) + 1550) + 50) + 2000) + 2000) + 2000) + 31) + 31) + 31) + 31 ≤ ms ∧ ∀ q77 : Nat, hK h76 q77 = 0 → g.2.2 0 ≤ q77 → ∀ h78 : Hp, h78 = mkC h76 q77 21 31 → hK h78 a0 = 5 ∧ ∀ h80 : Hp, h80 = sR h78 a0 24 (some q77) → ∃ n : Nat, wp_M_init_175 g post mc ms n h80 ((((((((((((((((((((0 + 1) + 1) + 1) + 1) + 1) + 1) + 1) + 1) + 1) + 1) + 1) + 1) + 1) + 1) + 1) + 1) + 1) + 1) + 1) + 1) ((((((((((((((((((((0 + 50) + 31) + 31) + 31) + 31) + 31) + 1550) + 1550) + 1550) + 1550) + 1550) + 1550) + 50) + 2000) + 2000) + 2000) + 31) + 31) + 31) + 31) a0 0
set_option maxHeartbeats 4000000 in
set_option maxRecDepth 100000 in
theorem c_M_init (l : Launch) (g : Gm) (post : Hp → Prop) (mc ms : Nat) (h : Hp) (a0 : Nat) (hw : wp_M_init g post mc ms h a0) : Met l (⟨"SegmentLocksModel", "<init>", "()V"⟩ : MethodName) (ww (⟨"SegmentLocksModel", "<init>", "()V"⟩ : MethodName) prog_6_method_1_code 2 none) (rmm 1 24 mc ms) (va_Pc [.ref a0] (gS g h)) (va_Qv post (gS g) (gA g)) mc ms (gA g) := by
  first | refine en_met (by decide) ?_ | refine en_metF (by decide) ?_
  intro p e s m below meth c C0 hr hlk hin hG
  have hS : va_S (gA g) s.heap s.heap [] := va_S.rf
  have hl := lv_entry ([.ref a0]) (n := 2) (Nat.le_of_ble_eq_true rfl)
  rw [lg_entry_eq]
  generalize (lg_sl ([.ref a0]) ++ List.replicate (2 - (lg_sl ([.ref a0])).length) Slot.unset).toArray = ls at hl ⊢
  replace hl : lv_has ls 2 [(0, .ref a0)] := hl
  obtain ⟨hx, hb, -, hown, hts, hgk⟩ := id C0
  have hkc : 0 ≤ mc ∧ 0 ≤ ms := ⟨Nat.zero_le _, Nat.zero_le _⟩
  unfold wp_M_init at hw
  refine lv_aload_n hx hb dd_M_init_0 rfl (lv_at hl 0 rfl) ?_
  refine W.objInit hx hb hown (hts _ km_398) (hts _ km_1) (hts _ km_2) rfl (by rw [C0.2.2.1]; exact hl.1) rfl dd_M_init_1 (Nat.le_of_ble_eq_true rfl) (Nat.le_of_ble_eq_true rfl) ?_
  refine W.eq (g2 := F0 m 4 ls []) rfl ?_
  refine lv_aload_n hx hb dd_M_init_4 rfl (lv_at hl 0 rfl) ?_
  refine lv_bipush (v := 50) hx hb dd_M_init_5 (by decide) ?_
  obtain ⟨hc1, hc2, hw⟩ := hw
  refine px_newJ C0 hG hS km_33 (N := 50) (by decide) (by decide) (by decide) hc1 hc2 dd_M_init_7 (fun q1 H z0 zq hG hS => ?_)
  replace hw := hw q1 z0 zq _ rfl
  generalize mkC h q1 22 50 = h2 at hw hG
  have hkc := And.intro hc1 hc2
  obtain ⟨k3, hw⟩ := hw
  refine pf_M_7 C0 hG hS k3 hin dd_M_init_9 (fun H locs hG hS => ?_)
  replace hw := hw _ rfl
  generalize sR h2 a0 1 (some q1) = h4 at hw hG
  refine lv_aload_n hx hb dd_M_init_12 rfl (lv_at hl 0 rfl) ?_
  refine lv_bipush (v := 31) hx hb dd_M_init_13 (by decide) ?_
  obtain ⟨hc1, hc2, hw⟩ := hw
  refine px_newI C0 hG hS km_26 (N := 31) (by decide) (by decide) (by decide) hc1 hc2 dd_M_init_15 (fun q5 H z0 zq hG hS => ?_)
  replace hw := hw q5 z0 zq _ rfl
  generalize mkC h4 q5 21 31 = h6 at hw hG
  have hkc := And.intro hc1 hc2
  obtain ⟨k7, hw⟩ := hw
  refine pf_M_13 C0 hG hS k7 hin dd_M_init_17 (fun H locs hG hS => ?_)
  replace hw := hw _ rfl
  generalize sR h6 a0 4 (some q5) = h8 at hw hG
  refine lv_aload_n hx hb dd_M_init_20 rfl (lv_at hl 0 rfl) ?_
  refine lv_bipush (v := 31) hx hb dd_M_init_21 (by decide) ?_
  obtain ⟨hc1, hc2, hw⟩ := hw
  refine px_newI C0 hG hS km_26 (N := 31) (by decide) (by decide) (by decide) hc1 hc2 dd_M_init_23 (fun q9 H z0 zq hG hS => ?_)
  replace hw := hw q9 z0 zq _ rfl
  generalize mkC h8 q9 21 31 = h10 at hw hG
  have hkc := And.intro hc1 hc2
  obtain ⟨k11, hw⟩ := hw
  refine pf_M_17 C0 hG hS k11 hin dd_M_init_25 (fun H locs hG hS => ?_)
  replace hw := hw _ rfl
  generalize sR h10 a0 5 (some q9) = h12 at hw hG
  refine lv_aload_n hx hb dd_M_init_28 rfl (lv_at hl 0 rfl) ?_
  refine lv_bipush (v := 31) hx hb dd_M_init_29 (by decide) ?_
  obtain ⟨hc1, hc2, hw⟩ := hw
  refine px_newI C0 hG hS km_26 (N := 31) (by decide) (by decide) (by decide) hc1 hc2 dd_M_init_31 (fun q13 H z0 zq hG hS => ?_)
  replace hw := hw q13 z0 zq _ rfl
  generalize mkC h12 q13 21 31 = h14 at hw hG
  have hkc := And.intro hc1 hc2
  obtain ⟨k15, hw⟩ := hw
  refine pf_M_20 C0 hG hS k15 hin dd_M_init_33 (fun H locs hG hS => ?_)
  replace hw := hw _ rfl
  generalize sR h14 a0 6 (some q13) = h16 at hw hG
  refine lv_aload_n hx hb dd_M_init_36 rfl (lv_at hl 0 rfl) ?_
  refine lv_bipush (v := 31) hx hb dd_M_init_37 (by decide) ?_
  obtain ⟨hc1, hc2, hw⟩ := hw
  refine px_newI C0 hG hS km_26 (N := 31) (by decide) (by decide) (by decide) hc1 hc2 dd_M_init_39 (fun q17 H z0 zq hG hS => ?_)
  replace hw := hw q17 z0 zq _ rfl
  generalize mkC h16 q17 21 31 = h18 at hw hG
  have hkc := And.intro hc1 hc2
  obtain ⟨k19, hw⟩ := hw
  refine pf_M_23 C0 hG hS k19 hin dd_M_init_41 (fun H locs hG hS => ?_)
  replace hw := hw _ rfl
  generalize sR h18 a0 7 (some q17) = h20 at hw hG
  refine lv_aload_n hx hb dd_M_init_44 rfl (lv_at hl 0 rfl) ?_
  refine lv_bipush (v := 31) hx hb dd_M_init_45 (by decide) ?_
  obtain ⟨hc1, hc2, hw⟩ := hw
  refine px_newI C0 hG hS km_26 (N := 31) (by decide) (by decide) (by decide) hc1 hc2 dd_M_init_47 (fun q21 H z0 zq hG hS => ?_)
  replace hw := hw q21 z0 zq _ rfl
  generalize mkC h20 q21 21 31 = h22 at hw hG
  have hkc := And.intro hc1 hc2
  obtain ⟨k23, hw⟩ := hw
  refine pf_M_26 C0 hG hS k23 hin dd_M_init_49 (fun H locs hG hS => ?_)
  replace hw := hw _ rfl
  generalize sR h22 a0 8 (some q21) = h24 at hw hG
  refine lv_aload_n hx hb dd_M_init_52 rfl (lv_at hl 0 rfl) ?_
  refine lv_sipush (v := 1550) hx hb dd_M_init_53 (by decide) ?_
  obtain ⟨hc1, hc2, hw⟩ := hw
  refine px_newI C0 hG hS km_26 (N := 1550) (by decide) (by decide) (by decide) hc1 hc2 dd_M_init_56 (fun q25 H z0 zq hG hS => ?_)
  replace hw := hw q25 z0 zq _ rfl
  generalize mkC h24 q25 21 1550 = h26 at hw hG
  have hkc := And.intro hc1 hc2
  obtain ⟨k27, hw⟩ := hw
  refine pf_M_29 C0 hG hS k27 hin dd_M_init_58 (fun H locs hG hS => ?_)
  replace hw := hw _ rfl
  generalize sR h26 a0 9 (some q25) = h28 at hw hG
  refine lv_aload_n hx hb dd_M_init_61 rfl (lv_at hl 0 rfl) ?_
  refine lv_sipush (v := 1550) hx hb dd_M_init_62 (by decide) ?_
  obtain ⟨hc1, hc2, hw⟩ := hw
  refine px_newI C0 hG hS km_26 (N := 1550) (by decide) (by decide) (by decide) hc1 hc2 dd_M_init_65 (fun q29 H z0 zq hG hS => ?_)
  replace hw := hw q29 z0 zq _ rfl
  generalize mkC h28 q29 21 1550 = h30 at hw hG
  have hkc := And.intro hc1 hc2
  obtain ⟨k31, hw⟩ := hw
  refine pf_M_32 C0 hG hS k31 hin dd_M_init_67 (fun H locs hG hS => ?_)
  replace hw := hw _ rfl
  generalize sR h30 a0 10 (some q29) = h32 at hw hG
  refine lv_aload_n hx hb dd_M_init_70 rfl (lv_at hl 0 rfl) ?_
  refine lv_sipush (v := 1550) hx hb dd_M_init_71 (by decide) ?_
  obtain ⟨hc1, hc2, hw⟩ := hw
  refine px_newZ C0 hG hS km_28 (N := 1550) (by decide) (by decide) (by decide) hc1 hc2 dd_M_init_74 (fun q33 H z0 zq hG hS => ?_)
  replace hw := hw q33 z0 zq _ rfl
  generalize mkC h32 q33 23 1550 = h34 at hw hG
  have hkc := And.intro hc1 hc2
  obtain ⟨k35, hw⟩ := hw
  refine pf_M_35 C0 hG hS k35 hin dd_M_init_76 (fun H locs hG hS => ?_)
  replace hw := hw _ rfl
  generalize sR h34 a0 11 (some q33) = h36 at hw hG
  refine lv_aload_n hx hb dd_M_init_79 rfl (lv_at hl 0 rfl) ?_
  refine lv_sipush (v := 1550) hx hb dd_M_init_80 (by decide) ?_
  obtain ⟨hc1, hc2, hw⟩ := hw
  refine px_newZ C0 hG hS km_28 (N := 1550) (by decide) (by decide) (by decide) hc1 hc2 dd_M_init_83 (fun q37 H z0 zq hG hS => ?_)
  replace hw := hw q37 z0 zq _ rfl
  generalize mkC h36 q37 23 1550 = h38 at hw hG
  have hkc := And.intro hc1 hc2
  obtain ⟨k39, hw⟩ := hw
  refine pf_M_39 C0 hG hS k39 hin dd_M_init_85 (fun H locs hG hS => ?_)
  replace hw := hw _ rfl
  generalize sR h38 a0 12 (some q37) = h40 at hw hG
  refine lv_aload_n hx hb dd_M_init_88 rfl (lv_at hl 0 rfl) ?_
  refine lv_sipush (v := 1550) hx hb dd_M_init_89 (by decide) ?_
  obtain ⟨hc1, hc2, hw⟩ := hw
  refine px_newJ C0 hG hS km_33 (N := 1550) (by decide) (by decide) (by decide) hc1 hc2 dd_M_init_92 (fun q41 H z0 zq hG hS => ?_)
  replace hw := hw q41 z0 zq _ rfl
  generalize mkC h40 q41 22 1550 = h42 at hw hG
  have hkc := And.intro hc1 hc2
  obtain ⟨k43, hw⟩ := hw
  refine pf_M_42 C0 hG hS k43 hin dd_M_init_94 (fun H locs hG hS => ?_)
  replace hw := hw _ rfl
  generalize sR h42 a0 13 (some q41) = h44 at hw hG
  refine lv_aload_n hx hb dd_M_init_97 rfl (lv_at hl 0 rfl) ?_
  refine lv_sipush (v := 1550) hx hb dd_M_init_98 (by decide) ?_
  obtain ⟨hc1, hc2, hw⟩ := hw
  refine px_newI C0 hG hS km_26 (N := 1550) (by decide) (by decide) (by decide) hc1 hc2 dd_M_init_101 (fun q45 H z0 zq hG hS => ?_)
  replace hw := hw q45 z0 zq _ rfl
  generalize mkC h44 q45 21 1550 = h46 at hw hG
  have hkc := And.intro hc1 hc2
  obtain ⟨k47, hw⟩ := hw
  refine pf_M_45 C0 hG hS k47 hin dd_M_init_103 (fun H locs hG hS => ?_)
  replace hw := hw _ rfl
  generalize sR h46 a0 15 (some q45) = h48 at hw hG
  refine lv_aload_n hx hb dd_M_init_106 rfl (lv_at hl 0 rfl) ?_
  refine lv_bipush (v := 50) hx hb dd_M_init_107 (by decide) ?_
  obtain ⟨hc1, hc2, hw⟩ := hw
  refine px_newI C0 hG hS km_26 (N := 50) (by decide) (by decide) (by decide) hc1 hc2 dd_M_init_109 (fun q49 H z0 zq hG hS => ?_)
  replace hw := hw q49 z0 zq _ rfl
  generalize mkC h48 q49 21 50 = h50 at hw hG
  have hkc := And.intro hc1 hc2
  obtain ⟨k51, hw⟩ := hw
  refine pf_M_48 C0 hG hS k51 hin dd_M_init_111 (fun H locs hG hS => ?_)
  replace hw := hw _ rfl
  generalize sR h50 a0 16 (some q49) = h52 at hw hG
  refine lv_aload_n hx hb dd_M_init_114 rfl (lv_at hl 0 rfl) ?_
  refine lv_sipush (v := 2000) hx hb dd_M_init_115 (by decide) ?_
  obtain ⟨hc1, hc2, hw⟩ := hw
  refine px_newI C0 hG hS km_26 (N := 2000) (by decide) (by decide) (by decide) hc1 hc2 dd_M_init_118 (fun q53 H z0 zq hG hS => ?_)
  replace hw := hw q53 z0 zq _ rfl
  generalize mkC h52 q53 21 2000 = h54 at hw hG
  have hkc := And.intro hc1 hc2
  obtain ⟨k55, hw⟩ := hw
  refine pf_M_51 C0 hG hS k55 hin dd_M_init_120 (fun H locs hG hS => ?_)
  replace hw := hw _ rfl
  generalize sR h54 a0 17 (some q53) = h56 at hw hG
  refine lv_aload_n hx hb dd_M_init_123 rfl (lv_at hl 0 rfl) ?_
  refine lv_sipush (v := 2000) hx hb dd_M_init_124 (by decide) ?_
  obtain ⟨hc1, hc2, hw⟩ := hw
  refine px_newI C0 hG hS km_26 (N := 2000) (by decide) (by decide) (by decide) hc1 hc2 dd_M_init_127 (fun q57 H z0 zq hG hS => ?_)
  replace hw := hw q57 z0 zq _ rfl
  generalize mkC h56 q57 21 2000 = h58 at hw hG
  have hkc := And.intro hc1 hc2
  obtain ⟨k59, hw⟩ := hw
  refine pf_M_54 C0 hG hS k59 hin dd_M_init_129 (fun H locs hG hS => ?_)
  replace hw := hw _ rfl
  generalize sR h58 a0 18 (some q57) = h60 at hw hG
  refine lv_aload_n hx hb dd_M_init_132 rfl (lv_at hl 0 rfl) ?_
  refine lv_sipush (v := 2000) hx hb dd_M_init_133 (by decide) ?_
  obtain ⟨hc1, hc2, hw⟩ := hw
  refine px_newJ C0 hG hS km_33 (N := 2000) (by decide) (by decide) (by decide) hc1 hc2 dd_M_init_136 (fun q61 H z0 zq hG hS => ?_)
  replace hw := hw q61 z0 zq _ rfl
  generalize mkC h60 q61 22 2000 = h62 at hw hG
  have hkc := And.intro hc1 hc2
  obtain ⟨k63, hw⟩ := hw
  refine pf_M_57 C0 hG hS k63 hin dd_M_init_138 (fun H locs hG hS => ?_)
  replace hw := hw _ rfl
  generalize sR h62 a0 19 (some q61) = h64 at hw hG
  refine lv_aload_n hx hb dd_M_init_141 rfl (lv_at hl 0 rfl) ?_
  refine lv_bipush (v := 31) hx hb dd_M_init_142 (by decide) ?_
  obtain ⟨hc1, hc2, hw⟩ := hw
  refine px_newI C0 hG hS km_26 (N := 31) (by decide) (by decide) (by decide) hc1 hc2 dd_M_init_144 (fun q65 H z0 zq hG hS => ?_)
  replace hw := hw q65 z0 zq _ rfl
  generalize mkC h64 q65 21 31 = h66 at hw hG
  have hkc := And.intro hc1 hc2
  obtain ⟨k67, hw⟩ := hw
  refine pf_M_60 C0 hG hS k67 hin dd_M_init_146 (fun H locs hG hS => ?_)
  replace hw := hw _ rfl
  generalize sR h66 a0 21 (some q65) = h68 at hw hG
  refine lv_aload_n hx hb dd_M_init_149 rfl (lv_at hl 0 rfl) ?_
  refine lv_bipush (v := 31) hx hb dd_M_init_150 (by decide) ?_
  obtain ⟨hc1, hc2, hw⟩ := hw
  refine px_newI C0 hG hS km_26 (N := 31) (by decide) (by decide) (by decide) hc1 hc2 dd_M_init_152 (fun q69 H z0 zq hG hS => ?_)
  replace hw := hw q69 z0 zq _ rfl
  generalize mkC h68 q69 21 31 = h70 at hw hG
  have hkc := And.intro hc1 hc2
  obtain ⟨k71, hw⟩ := hw
  refine pf_M_63 C0 hG hS k71 hin dd_M_init_154 (fun H locs hG hS => ?_)
  replace hw := hw _ rfl
  generalize sR h70 a0 22 (some q69) = h72 at hw hG
  refine lv_aload_n hx hb dd_M_init_157 rfl (lv_at hl 0 rfl) ?_
  refine lv_bipush (v := 31) hx hb dd_M_init_158 (by decide) ?_
  obtain ⟨hc1, hc2, hw⟩ := hw
  refine px_newI C0 hG hS km_26 (N := 31) (by decide) (by decide) (by decide) hc1 hc2 dd_M_init_160 (fun q73 H z0 zq hG hS => ?_)
  replace hw := hw q73 z0 zq _ rfl
  generalize mkC h72 q73 21 31 = h74 at hw hG
  have hkc := And.intro hc1 hc2
  obtain ⟨k75, hw⟩ := hw
  refine pf_M_66 C0 hG hS k75 hin dd_M_init_162 (fun H locs hG hS => ?_)
  replace hw := hw _ rfl
  generalize sR h74 a0 23 (some q73) = h76 at hw hG
  refine lv_aload_n hx hb dd_M_init_165 rfl (lv_at hl 0 rfl) ?_
  refine lv_bipush (v := 31) hx hb dd_M_init_166 (by decide) ?_
  obtain ⟨hc1, hc2, hw⟩ := hw
  refine px_newI C0 hG hS km_26 (N := 31) (by decide) (by decide) (by decide) hc1 hc2 dd_M_init_168 (fun q77 H z0 zq hG hS => ?_)
  replace hw := hw q77 z0 zq _ rfl
  generalize mkC h76 q77 21 31 = h78 at hw hG
  have hkc := And.intro hc1 hc2
  obtain ⟨k79, hw⟩ := hw
  refine pf_M_69 C0 hG hS k79 hin dd_M_init_170 (fun H locs hG hS => ?_)
  replace hw := hw _ rfl
  generalize sR h78 a0 24 (some q77) = h80 at hw hG
  refine lv_iconst (v := 0) hx hb dd_M_init_173 (by decide) ?_
  have hl0 := hl
  clear hl
  refine lv_istore_n (lv' := [(1, .int 0), (0, .ref a0)]) hx hb dd_M_init_174 rfl hl0 (by decide) rfl (fun ls hl => ?_)
  obtain ⟨n, hw⟩ := hw
  exact wk_M_init_175 C0 hr hlk hin n _ _ _ _ _ _ _ _ hw hG hS hkc (lv_sub hl [1, 0] rfl)
/-! SegmentLocksModel.task(I)I -/
theorem dd_M_task_0 : decode prog_6_method_6_code 0 = .ok (.aload_n 0, 1) := by decide +kernel
theorem dd_M_task_1 : decode prog_6_method_6_code 1 = .ok (.iconst 0, 1) := by decide +kernel
theorem dd_M_task_2 : decode prog_6_method_6_code 2 = .ok (.putfield 72, 3) := by decide +kernel
theorem dd_M_task_5 : decode prog_6_method_6_code 5 = .ok (.aload_n 0, 1) := by decide +kernel
theorem dd_M_task_6 : decode prog_6_method_6_code 6 = .ok (.getfield 76, 3) := by decide +kernel
theorem dd_M_task_9 : decode prog_6_method_6_code 9 = .ok (.bipush 30, 2) := by decide +kernel
theorem dd_M_task_11 : decode prog_6_method_6_code 11 = .ok (.if_icmp .ne 5, 3) := by decide +kernel
theorem dd_M_task_14 : decode prog_6_method_6_code 14 = .ok (.iconst (-1), 1) := by decide +kernel
theorem dd_M_task_15 : decode prog_6_method_6_code 15 = .ok (.ireturn, 1) := by decide +kernel
theorem dd_M_task_16 : decode prog_6_method_6_code 16 = .ok (.aload_n 0, 1) := by decide +kernel
theorem dd_M_task_17 : decode prog_6_method_6_code 17 = .ok (.dup, 1) := by decide +kernel
theorem dd_M_task_18 : decode prog_6_method_6_code 18 = .ok (.getfield 76, 3) := by decide +kernel
theorem dd_M_task_21 : decode prog_6_method_6_code 21 = .ok (.iconst 1, 1) := by decide +kernel
theorem dd_M_task_22 : decode prog_6_method_6_code 22 = .ok (.iadd, 1) := by decide +kernel
theorem dd_M_task_23 : decode prog_6_method_6_code 23 = .ok (.putfield 76, 3) := by decide +kernel
theorem dd_M_task_26 : decode prog_6_method_6_code 26 = .ok (.aload_n 0, 1) := by decide +kernel
theorem dd_M_task_27 : decode prog_6_method_6_code 27 = .ok (.getfield 13, 3) := by decide +kernel
theorem dd_M_task_30 : decode prog_6_method_6_code 30 = .ok (.aload_n 0, 1) := by decide +kernel
theorem dd_M_task_31 : decode prog_6_method_6_code 31 = .ok (.getfield 76, 3) := by decide +kernel
theorem dd_M_task_34 : decode prog_6_method_6_code 34 = .ok (.iload_n 1, 1) := by decide +kernel
theorem dd_M_task_35 : decode prog_6_method_6_code 35 = .ok (.iastore, 1) := by decide +kernel
theorem dd_M_task_36 : decode prog_6_method_6_code 36 = .ok (.aload_n 0, 1) := by decide +kernel
theorem dd_M_task_37 : decode prog_6_method_6_code 37 = .ok (.getfield 76, 3) := by decide +kernel
theorem dd_M_task_40 : decode prog_6_method_6_code 40 = .ok (.ireturn, 1) := by decide +kernel
def wp_M_task (g : Gm) (post : Int32 → Hp → Prop) (h : Hp) (a0 : Nat) (i1 : Int32) : Prop := hK h a0 = 5 ∧ ∀ h2 : Hp, h2 = sI h a0 0 0 → hK h2 a0 = 5 ∧ ((¬ (hI h2 a0 2) = 30 → hK h2 a0 = 5 ∧ ∀ x6 : Int32, x6 = (hI h2 a0 2) + 1 → hK h2 a0 = 5 ∧ ∀ h8 : Hp, h8 = sI h2 a0 2 x6 → hK h8 a0 = 5 ∧ ∃ a10 : Nat, hR h8 a0 4 = some a10 ∧ hK h8 a0 = 5 ∧ hK h8 a10 = 21 ∧ vp_in (hI h8 a0 2) (hN h8 a10) ∧ ∀ h13 : Hp, h13 = sI h8 a10 (hI h8 a0 2).toNatClampNeg i1 → hK h13 a0 = 5 ∧ post (hI h13 a0 2) h13) ∧ ((hI h2 a0 2) = 30 → post (-1) h2))
set_option maxHeartbeats 4000000 in
set_option maxRecDepth 100000 in
theorem c_M_task (l : Launch) (g : Gm) (post : Int32 → Hp → Prop) (h : Hp) (a0 : Nat) (i1 : Int32) (hw : wp_M_task g post h a0 i1) : Met l (⟨"SegmentLocksModel", "task", "(I)I"⟩ : MethodName) (ww (⟨"SegmentLocksModel", "task", "(I)I"⟩ : MethodName) prog_6_method_6_code 2 (some .int)) (rmm 0 0 0 0) (va_Pc [.ref a0, .int i1] (gS g h)) (va_Qi post (gS g) (gA g)) 0 0 (gA g) := by
  first | refine en_met (by decide) ?_ | refine en_metF (by decide) ?_
  intro p e s m below meth c C0 hr hlk hin hG
  have hS : va_S (gA g) s.heap s.heap [] := va_S.rf
  have hl := lv_entry ([.ref a0, .int i1]) (n := 2) (Nat.le_of_ble_eq_true rfl)
  rw [lg_entry_eq]
  generalize (lg_sl ([.ref a0, .int i1]) ++ List.replicate (2 - (lg_sl ([.ref a0, .int i1])).length) Slot.unset).toArray = ls at hl ⊢
  replace hl : lv_has ls 2 [(0, .ref a0), (1, .int i1)] := hl
  obtain ⟨hx, hb, -, hown, hts, hgk⟩ := id C0
  unfold wp_M_task at hw
  refine lv_aload_n hx hb dd_M_task_0 rfl (lv_at hl 0 rfl) ?_
  refine lv_iconst (v := 0) hx hb dd_M_task_1 (by decide) ?_
  obtain ⟨k1, hw⟩ := hw
  refine pf_M_72 C0 hG hS k1 dd_M_task_2 (fun H locs hG hS => ?_)
  replace hw := hw _ rfl
  generalize sI h a0 0 0 = h2 at hw hG
  refine lv_aload_n hx hb dd_M_task_5 rfl (lv_at hl 0 rfl) ?_
  obtain ⟨k3, hw⟩ := hw
  refine gf_M_76 C0 hG k3 dd_M_task_6 ?_
  refine lv_bipush (v := 30) hx hb dd_M_task_9 (by decide) ?_
  refine lv_icmp_ne (tgt := 16) hx hb dd_M_task_11 (by decide) (fun c4 => ?_) (fun c4 => ?_)
  · replace hw := hw.1 c4
    refine lv_aload_n hx hb dd_M_task_16 rfl (lv_at hl 0 rfl) ?_
    refine lv_dup hx hb dd_M_task_17 rfl ?_
    obtain ⟨k5, hw⟩ := hw
    refine gf_M_76 C0 hG k5 dd_M_task_18 ?_
    refine lv_iconst (v := 1) hx hb dd_M_task_21 (by decide) ?_
    refine lv_iadd hx hb dd_M_task_22 ?_
    refine lv_topi (fun x6 ex6 => ?_)
    replace hw := hw x6 ex6
    obtain ⟨k7, hw⟩ := hw
    refine pf_M_76 C0 hG hS k7 dd_M_task_23 (fun H locs hG hS => ?_)
    replace hw := hw _ rfl
    generalize sI h2 a0 2 x6 = h8 at hw hG
    refine lv_aload_n hx hb dd_M_task_26 rfl (lv_at hl 0 rfl) ?_
    obtain ⟨k9, a10, ea10, hw⟩ := hw
    refine gf_M_13 C0 hG k9 ea10 dd_M_task_27 ?_
    refine lv_aload_n hx hb dd_M_task_30 rfl (lv_at hl 0 rfl) ?_
    obtain ⟨k11, hw⟩ := hw
    refine gf_M_76 C0 hG k11 dd_M_task_31 ?_
    refine lv_iload_n hx hb dd_M_task_34 rfl (lv_at hl 1 rfl) ?_
    obtain ⟨k12, k12i, hw⟩ := hw
    refine px_iast C0 hG hS k12 k12i dd_M_task_35 (fun H locs hG hS => ?_)
    replace hw := hw _ rfl
    generalize sI h8 a10 (hI h8 a0 2).toNatClampNeg i1 = h13 at hw hG
    refine lv_aload_n hx hb dd_M_task_36 rfl (lv_at hl 0 rfl) ?_
    obtain ⟨k14, hw⟩ := hw
    refine gf_M_76 C0 hG k14 dd_M_task_37 ?_
    exact re_i C0 hG hS hr hlk ⟨Nat.le_refl _, Nat.le_refl _⟩ hw dd_M_task_40
  · replace hw := hw.2 c4
    refine lv_iconst (v := (-1)) hx hb dd_M_task_14 (by decide) ?_
    exact re_i C0 hG hS hr hlk ⟨Nat.le_refl _, Nat.le_refl _⟩ hw dd_M_task_15
/-! SegmentLocksModel.isTask(I)Z -/
theorem dd_M_isTask_0 : decode prog_6_method_3_code 0 = .ok (.iload_n 1, 1) := by decide +kernel
theorem dd_M_isTask_1 : decode prog_6_method_3_code 1 = .ok (.ifCond .le 15, 3) := by decide +kernel
theorem dd_M_isTask_4 : decode prog_6_method_3_code 4 = .ok (.iload_n 1, 1) := by decide +kernel
theorem dd_M_isTask_5 : decode prog_6_method_3_code 5 = .ok (.aload_n 0, 1) := by decide +kernel
theorem dd_M_isTask_6 : decode prog_6_method_3_code 6 = .ok (.getfield 76, 3) := by decide +kernel
theorem dd_M_isTask_9 : decode prog_6_method_3_code 9 = .ok (.if_icmp .gt 7, 3) := by decide +kernel
theorem dd_M_isTask_12 : decode prog_6_method_3_code 12 = .ok (.iconst 1, 1) := by decide +kernel
theorem dd_M_isTask_13 : decode prog_6_method_3_code 13 = .ok (.goto 4, 3) := by decide +kernel
theorem dd_M_isTask_16 : decode prog_6_method_3_code 16 = .ok (.iconst 0, 1) := by decide +kernel
theorem dd_M_isTask_17 : decode prog_6_method_3_code 17 = .ok (.ireturn, 1) := by decide +kernel
def wp_M_isTask_17 (g : Gm) (post : Int32 → Prop) (h : Hp) (s0 : Int32) : Prop := zB s0 ∧ post s0
set_option maxHeartbeats 4000000 in
set_option maxRecDepth 100000 in
theorem wk_M_isTask_17 {p : Program} {l : Launch} {e : Env} {s : State} {m : MethodId} {args : Array Value} {below : List Frame} {meth : Method} {c : Code} {g : Gm} {post : Int32 → Prop} (C0 : Cx g p s m args c prog_6_method_3_code 2 "SegmentLocksModel") (hr : meth.sig.returnType = (some .boolean)) (hlk : meth.locks = false) : ∀ (h : Hp) (s0 : Int32) (ls : Array Slot), wp_M_isTask_17 g post h s0 → GH g h s.heap → lv_has ls 2 [] → W p l e (rmm 0 0 0 0) s m args below meth c s.heap [] 0 0 (MQ below (vp_Si post) args s 0 0 (fun _ => False)) (F0 m 17 ls [.int s0]) := by
  obtain ⟨hx, hb, -, hown, hts, hgk⟩ := id C0
  have hS : va_S (gA g) s.heap s.heap [] := va_S.rf
  intro h s0 ls hw hG hl
  unfold wp_M_isTask_17 at hw
  exact rs_z C0 hr hlk hw.1.nar hw.2 dd_M_isTask_17
def wp_M_isTask_16 (g : Gm) (post : Int32 → Prop) (h : Hp) : Prop := wp_M_isTask_17 g post h 0
set_option maxHeartbeats 4000000 in
set_option maxRecDepth 100000 in
theorem wk_M_isTask_16 {p : Program} {l : Launch} {e : Env} {s : State} {m : MethodId} {args : Array Value} {below : List Frame} {meth : Method} {c : Code} {g : Gm} {post : Int32 → Prop} (C0 : Cx g p s m args c prog_6_method_3_code 2 "SegmentLocksModel") (hr : meth.sig.returnType = (some .boolean)) (hlk : meth.locks = false) : ∀ (h : Hp) (ls : Array Slot), wp_M_isTask_16 g post h → GH g h s.heap → lv_has ls 2 [] → W p l e (rmm 0 0 0 0) s m args below meth c s.heap [] 0 0 (MQ below (vp_Si post) args s 0 0 (fun _ => False)) (F0 m 16 ls []) := by
  obtain ⟨hx, hb, -, hown, hts, hgk⟩ := id C0
  have hS : va_S (gA g) s.heap s.heap [] := va_S.rf
  intro h ls hw hG hl
  unfold wp_M_isTask_16 at hw
  refine lv_iconst (v := 0) hx hb dd_M_isTask_16 (by decide) ?_
  exact wk_M_isTask_17 C0 hr hlk _ _ _ hw hG (lv_sub hl [] rfl)
def wp_M_isTask (g : Gm) (post : Int32 → Prop) (h : Hp) (a0 : Nat) (i1 : Int32) : Prop := ((i1 ≤ 0 → wp_M_isTask_16 g post h) ∧ (¬ i1 ≤ 0 → hK h a0 = 5 ∧ (((hI h a0 2) < i1 → wp_M_isTask_16 g post h) ∧ (¬ (hI h a0 2) < i1 → wp_M_isTask_17 g post h 1))))
set_option maxHeartbeats 4000000 in
set_option maxRecDepth 100000 in
theorem c_M_isTask (l : Launch) (g : Gm) (post : Int32 → Prop) (h : Hp) (a0 : Nat) (i1 : Int32) (hw : wp_M_isTask g post h a0 i1) : Met l (⟨"SegmentLocksModel", "isTask", "(I)Z"⟩ : MethodName) (ww (⟨"SegmentLocksModel", "isTask", "(I)Z"⟩ : MethodName) prog_6_method_3_code 2 (some .boolean)) (rmm 0 0 0 0) (va_Pc [.ref a0, .int i1] (gS g h)) (vp_Si post) 0 0 (fun _ => False) := by
  first | refine en_met (by decide) ?_ | refine en_metF (by decide) ?_
  intro p e s m below meth c C0 hr hlk hin hG
  have hS : va_S (gA g) s.heap s.heap [] := va_S.rf
  have hl := lv_entry ([.ref a0, .int i1]) (n := 2) (Nat.le_of_ble_eq_true rfl)
  rw [lg_entry_eq]
  generalize (lg_sl ([.ref a0, .int i1]) ++ List.replicate (2 - (lg_sl ([.ref a0, .int i1])).length) Slot.unset).toArray = ls at hl ⊢
  replace hl : lv_has ls 2 [(0, .ref a0), (1, .int i1)] := hl
  obtain ⟨hx, hb, -, hown, hts, hgk⟩ := id C0
  unfold wp_M_isTask at hw
  refine lv_iload_n hx hb dd_M_isTask_0 rfl (lv_at hl 1 rfl) ?_
  refine lv_if_le (tgt := 16) hx hb dd_M_isTask_1 (by decide) (fun c1 => ?_) (fun c1 => ?_)
  · replace hw := hw.1 c1
    exact wk_M_isTask_16 C0 hr hlk _ _ hw hG (lv_sub hl [] rfl)
  · replace hw := hw.2 c1
    refine lv_iload_n hx hb dd_M_isTask_4 rfl (lv_at hl 1 rfl) ?_
    refine lv_aload_n hx hb dd_M_isTask_5 rfl (lv_at hl 0 rfl) ?_
    obtain ⟨k2, hw⟩ := hw
    refine gf_M_76 C0 hG k2 dd_M_isTask_6 ?_
    refine lv_icmp_gt (tgt := 16) hx hb dd_M_isTask_9 (by decide) (fun c3 => ?_) (fun c3 => ?_)
    · replace hw := hw.1 c3
      exact wk_M_isTask_16 C0 hr hlk _ _ hw hG (lv_sub hl [] rfl)
    · replace hw := hw.2 c3
      refine lv_iconst (v := 1) hx hb dd_M_isTask_12 (by decide) ?_
      refine lv_goto (tgt := 17) hx hb dd_M_isTask_13 (by decide) ?_
      exact wk_M_isTask_17 C0 hr hlk _ _ _ hw hG (lv_sub hl [] rfl)
/-! SegmentLocksModel.isSegment(I)Z -/
theorem dd_M_isSegment_0 : decode prog_6_method_4_code 0 = .ok (.iload_n 0, 1) := by decide +kernel
theorem dd_M_isSegment_1 : decode prog_6_method_4_code 1 = .ok (.ifCond .lt 13, 3) := by decide +kernel
theorem dd_M_isSegment_4 : decode prog_6_method_4_code 4 = .ok (.iload_n 0, 1) := by decide +kernel
theorem dd_M_isSegment_5 : decode prog_6_method_4_code 5 = .ok (.bipush 50, 2) := by decide +kernel
theorem dd_M_isSegment_7 : decode prog_6_method_4_code 7 = .ok (.if_icmp .ge 7, 3) := by decide +kernel
theorem dd_M_isSegment_10 : decode prog_6_method_4_code 10 = .ok (.iconst 1, 1) := by decide +kernel
theorem dd_M_isSegment_11 : decode prog_6_method_4_code 11 = .ok (.goto 4, 3) := by decide +kernel
theorem dd_M_isSegment_14 : decode prog_6_method_4_code 14 = .ok (.iconst 0, 1) := by decide +kernel
theorem dd_M_isSegment_15 : decode prog_6_method_4_code 15 = .ok (.ireturn, 1) := by decide +kernel
def wp_M_isSegment_15 (g : Gm) (post : Int32 → Prop) (h : Hp) (s0 : Int32) : Prop := zB s0 ∧ post s0
set_option maxHeartbeats 4000000 in
set_option maxRecDepth 100000 in
theorem wk_M_isSegment_15 {p : Program} {l : Launch} {e : Env} {s : State} {m : MethodId} {args : Array Value} {below : List Frame} {meth : Method} {c : Code} {g : Gm} {post : Int32 → Prop} (C0 : Cx g p s m args c prog_6_method_4_code 1 "SegmentLocksModel") (hr : meth.sig.returnType = (some .boolean)) (hlk : meth.locks = false) : ∀ (h : Hp) (s0 : Int32) (ls : Array Slot), wp_M_isSegment_15 g post h s0 → GH g h s.heap → lv_has ls 1 [] → W p l e (rmm 0 0 0 0) s m args below meth c s.heap [] 0 0 (MQ below (vp_Si post) args s 0 0 (fun _ => False)) (F0 m 15 ls [.int s0]) := by
  obtain ⟨hx, hb, -, hown, hts, hgk⟩ := id C0
  have hS : va_S (gA g) s.heap s.heap [] := va_S.rf
  intro h s0 ls hw hG hl
  unfold wp_M_isSegment_15 at hw
  exact rs_z C0 hr hlk hw.1.nar hw.2 dd_M_isSegment_15
def wp_M_isSegment_14 (g : Gm) (post : Int32 → Prop) (h : Hp) : Prop := wp_M_isSegment_15 g post h 0
set_option maxHeartbeats 4000000 in
set_option maxRecDepth 100000 in
theorem wk_M_isSegment_14 {p : Program} {l : Launch} {e : Env} {s : State} {m : MethodId} {args : Array Value} {below : List Frame} {meth : Method} {c : Code} {g : Gm} {post : Int32 → Prop} (C0 : Cx g p s m args c prog_6_method_4_code 1 "SegmentLocksModel") (hr : meth.sig.returnType = (some .boolean)) (hlk : meth.locks = false) : ∀ (h : Hp) (ls : Array Slot), wp_M_isSegment_14 g post h → GH g h s.heap → lv_has ls 1 [] → W p l e (rmm 0 0 0 0) s m args below meth c s.heap [] 0 0 (MQ below (vp_Si post) args s 0 0 (fun _ => False)) (F0 m 14 ls []) := by
  obtain ⟨hx, hb, -, hown, hts, hgk⟩ := id C0
  have hS : va_S (gA g) s.heap s.heap [] := va_S.rf
  intro h ls hw hG hl
  unfold wp_M_isSegment_14 at hw
  refine lv_iconst (v := 0) hx hb dd_M_isSegment_14 (by decide) ?_
  exact wk_M_isSegment_15 C0 hr hlk _ _ _ hw hG (lv_sub hl [] rfl)
def wp_M_isSegment (g : Gm) (post : Int32 → Prop) (h : Hp) (i0 : Int32) : Prop := ((i0 < 0 → wp_M_isSegment_14 g post h) ∧ (¬ i0 < 0 → ((50 ≤ i0 → wp_M_isSegment_14 g post h) ∧ (¬ 50 ≤ i0 → wp_M_isSegment_15 g post h 1))))
set_option maxHeartbeats 4000000 in
set_option maxRecDepth 100000 in
theorem c_M_isSegment (l : Launch) (g : Gm) (post : Int32 → Prop) (h : Hp) (i0 : Int32) (hw : wp_M_isSegment g post h i0) : Met l (⟨"SegmentLocksModel", "isSegment", "(I)Z"⟩ : MethodName) (ww (⟨"SegmentLocksModel", "isSegment", "(I)Z"⟩ : MethodName) prog_6_method_4_code 1 (some .boolean)) (rmm 0 0 0 0) (va_Pc [.int i0] (gS g h)) (vp_Si post) 0 0 (fun _ => False) := by
  first | refine en_met (by decide) ?_ | refine en_metF (by decide) ?_
  intro p e s m below meth c C0 hr hlk hin hG
  have hS : va_S (gA g) s.heap s.heap [] := va_S.rf
  have hl := lv_entry ([.int i0]) (n := 1) (Nat.le_of_ble_eq_true rfl)
  rw [lg_entry_eq]
  generalize (lg_sl ([.int i0]) ++ List.replicate (1 - (lg_sl ([.int i0])).length) Slot.unset).toArray = ls at hl ⊢
  replace hl : lv_has ls 1 [(0, .int i0)] := hl
  obtain ⟨hx, hb, -, hown, hts, hgk⟩ := id C0
  unfold wp_M_isSegment at hw
  refine lv_iload_n hx hb dd_M_isSegment_0 rfl (lv_at hl 0 rfl) ?_
  refine lv_if_lt (tgt := 14) hx hb dd_M_isSegment_1 (by decide) (fun c1 => ?_) (fun c1 => ?_)
  · replace hw := hw.1 c1
    exact wk_M_isSegment_14 C0 hr hlk _ _ hw hG (lv_sub hl [] rfl)
  · replace hw := hw.2 c1
    refine lv_iload_n hx hb dd_M_isSegment_4 rfl (lv_at hl 0 rfl) ?_
    refine lv_bipush (v := 50) hx hb dd_M_isSegment_5 (by decide) ?_
    refine lv_icmp_ge (tgt := 14) hx hb dd_M_isSegment_7 (by decide) (fun c2 => ?_) (fun c2 => ?_)
    · replace hw := hw.1 c2
      exact wk_M_isSegment_14 C0 hr hlk _ _ hw hG (lv_sub hl [] rfl)
    · replace hw := hw.2 c2
      refine lv_iconst (v := 1) hx hb dd_M_isSegment_10 (by decide) ?_
      refine lv_goto (tgt := 15) hx hb dd_M_isSegment_11 (by decide) ?_
      exact wk_M_isSegment_15 C0 hr hlk _ _ _ hw hG (lv_sub hl [] rfl)
/-! SegmentLocksModel.of(II)I -/
theorem dd_M_of_0 : decode prog_6_method_5_code 0 = .ok (.bipush 50, 2) := by decide +kernel
theorem dd_M_of_2 : decode prog_6_method_5_code 2 = .ok (.iload_n 0, 1) := by decide +kernel
theorem dd_M_of_3 : decode prog_6_method_5_code 3 = .ok (.imul, 1) := by decide +kernel
theorem dd_M_of_4 : decode prog_6_method_5_code 4 = .ok (.iload_n 1, 1) := by decide +kernel
theorem dd_M_of_5 : decode prog_6_method_5_code 5 = .ok (.iadd, 1) := by decide +kernel
theorem dd_M_of_6 : decode prog_6_method_5_code 6 = .ok (.ireturn, 1) := by decide +kernel
def wp_M_of (g : Gm) (post : Int32 → Prop) (h : Hp) (i0 : Int32) (i1 : Int32) : Prop := ∀ x1 : Int32, x1 = 50 * i0 → ∀ x2 : Int32, x2 = x1 + i1 → post x2
set_option maxHeartbeats 4000000 in
set_option maxRecDepth 100000 in
theorem c_M_of (l : Launch) (g : Gm) (post : Int32 → Prop) (h : Hp) (i0 : Int32) (i1 : Int32) (hw : wp_M_of g post h i0 i1) : Met l (⟨"SegmentLocksModel", "of", "(II)I"⟩ : MethodName) (ww (⟨"SegmentLocksModel", "of", "(II)I"⟩ : MethodName) prog_6_method_5_code 2 (some .int)) (rmm 0 0 0 0) (va_Pc [.int i0, .int i1] (gS g h)) (vp_Si post) 0 0 (fun _ => False) := by
  first | refine en_met (by decide) ?_ | refine en_metF (by decide) ?_
  intro p e s m below meth c C0 hr hlk hin hG
  have hS : va_S (gA g) s.heap s.heap [] := va_S.rf
  have hl := lv_entry ([.int i0, .int i1]) (n := 2) (Nat.le_of_ble_eq_true rfl)
  rw [lg_entry_eq]
  generalize (lg_sl ([.int i0, .int i1]) ++ List.replicate (2 - (lg_sl ([.int i0, .int i1])).length) Slot.unset).toArray = ls at hl ⊢
  replace hl : lv_has ls 2 [(0, .int i0), (1, .int i1)] := hl
  obtain ⟨hx, hb, -, hown, hts, hgk⟩ := id C0
  unfold wp_M_of at hw
  refine lv_bipush (v := 50) hx hb dd_M_of_0 (by decide) ?_
  refine lv_iload_n hx hb dd_M_of_2 rfl (lv_at hl 0 rfl) ?_
  refine lv_imul hx hb dd_M_of_3 ?_
  refine lv_topi (fun x1 ex1 => ?_)
  replace hw := hw x1 ex1
  refine lv_iload_n hx hb dd_M_of_4 rfl (lv_at hl 1 rfl) ?_
  refine lv_iadd hx hb dd_M_of_5 ?_
  refine lv_topi (fun x2 ex2 => ?_)
  replace hw := hw x2 ex2
  exact rs_i C0 hr hlk hw dd_M_of_6
/-! SegmentLocksModel.locksOf(I)I -/
theorem dd_M_locksOf_0 : decode prog_6_method_9_code 0 = .ok (.iconst 0, 1) := by decide +kernel
theorem dd_M_locksOf_1 : decode prog_6_method_9_code 1 = .ok (.istore_n 2, 1) := by decide +kernel
theorem dd_M_locksOf_2 : decode prog_6_method_9_code 2 = .ok (.iconst 0, 1) := by decide +kernel
theorem dd_M_locksOf_3 : decode prog_6_method_9_code 3 = .ok (.istore_n 3, 1) := by decide +kernel
theorem dd_M_locksOf_4 : decode prog_6_method_9_code 4 = .ok (.iload_n 3, 1) := by decide +kernel
theorem dd_M_locksOf_5 : decode prog_6_method_9_code 5 = .ok (.bipush 50, 2) := by decide +kernel
theorem dd_M_locksOf_7 : decode prog_6_method_9_code 7 = .ok (.if_icmp .ge 31, 3) := by decide +kernel
theorem dd_M_locksOf_10 : decode prog_6_method_9_code 10 = .ok (.iload_n 2, 1) := by decide +kernel
theorem dd_M_locksOf_11 : decode prog_6_method_9_code 11 = .ok (.aload_n 0, 1) := by decide +kernel
theorem dd_M_locksOf_12 : decode prog_6_method_9_code 12 = .ok (.getfield 29, 3) := by decide +kernel
theorem dd_M_locksOf_15 : decode prog_6_method_9_code 15 = .ok (.iload_n 1, 1) := by decide +kernel
theorem dd_M_locksOf_16 : decode prog_6_method_9_code 16 = .ok (.iload_n 3, 1) := by decide +kernel
theorem dd_M_locksOf_17 : decode prog_6_method_9_code 17 = .ok (.invokestatic 79, 3) := by decide +kernel
theorem dd_M_locksOf_20 : decode prog_6_method_9_code 20 = .ok (.iaload, 1) := by decide +kernel
theorem dd_M_locksOf_21 : decode prog_6_method_9_code 21 = .ok (.iconst (-1), 1) := by decide +kernel
theorem dd_M_locksOf_22 : decode prog_6_method_9_code 22 = .ok (.if_icmp .eq 7, 3) := by decide +kernel
theorem dd_M_locksOf_25 : decode prog_6_method_9_code 25 = .ok (.iconst 1, 1) := by decide +kernel
theorem dd_M_locksOf_26 : decode prog_6_method_9_code 26 = .ok (.goto 4, 3) := by decide +kernel
theorem dd_M_locksOf_29 : decode prog_6_method_9_code 29 = .ok (.iconst 0, 1) := by decide +kernel
theorem dd_M_locksOf_30 : decode prog_6_method_9_code 30 = .ok (.iadd, 1) := by decide +kernel
theorem dd_M_locksOf_31 : decode prog_6_method_9_code 31 = .ok (.istore_n 2, 1) := by decide +kernel
theorem dd_M_locksOf_32 : decode prog_6_method_9_code 32 = .ok (.iinc 3 1, 3) := by decide +kernel
theorem dd_M_locksOf_35 : decode prog_6_method_9_code 35 = .ok (.goto (-31), 3) := by decide +kernel
theorem dd_M_locksOf_38 : decode prog_6_method_9_code 38 = .ok (.iload_n 2, 1) := by decide +kernel
theorem dd_M_locksOf_39 : decode prog_6_method_9_code 39 = .ok (.ireturn, 1) := by decide +kernel
def wp_M_locksOf_30 (g : Gm) (post : Int32 → Prop) (K4 : Hp → Nat → Int32 → Int32 → Int32 → Prop) (h : Hp) (v0 : Nat) (v1 : Int32) (v3 : Int32) (s0 : Int32) (s1 : Int32) : Prop := ∀ x1 : Int32, x1 = s0 + s1 → ∀ x2 : Int32, x2 = v3 + 1 → K4 h v0 v1 x1 x2
set_option maxHeartbeats 4000000 in
set_option maxRecDepth 100000 in
theorem wk_M_locksOf_30 {p : Program} {l : Launch} {e : Env} {s : State} {m : MethodId} {args : Array Value} {below : List Frame} {meth : Method} {c : Code} {g : Gm} {post : Int32 → Prop} (C0 : Cx g p s m args c prog_6_method_9_code 4 "SegmentLocksModel") (hr : meth.sig.returnType = (some .int)) (hlk : meth.locks = false) {K4 : Hp → Nat → Int32 → Int32 → Int32 → Prop} (hK4 : ∀ (h : Hp) (v0 : Nat) (v1 : Int32) (v2 : Int32) (v3 : Int32) (ls : Array Slot), K4 h v0 v1 v2 v3 → GH g h s.heap → lv_has ls 4 [(0, .ref v0), (1, .int v1), (2, .int v2), (3, .int v3)] → W p l e (rmm 1 21 0 0) s m args below meth c s.heap [] 0 0 (MQ below (vp_Si post) args s 0 0 (fun _ => False)) (F0 m 4 ls [])) : ∀ (h : Hp) (v0 : Nat) (v1 : Int32) (v3 : Int32) (s0 : Int32) (s1 : Int32) (ls : Array Slot), wp_M_locksOf_30 g post K4 h v0 v1 v3 s0 s1 → GH g h s.heap → lv_has ls 4 [(0, .ref v0), (1, .int v1), (3, .int v3)] → W p l e (rmm 1 21 0 0) s m args below meth c s.heap [] 0 0 (MQ below (vp_Si post) args s 0 0 (fun _ => False)) (F0 m 30 ls [.int s1, .int s0]) := by
  obtain ⟨hx, hb, -, hown, hts, hgk⟩ := id C0
  have hS : va_S (gA g) s.heap s.heap [] := va_S.rf
  intro h v0 v1 v3 s0 s1 ls hw hG hl
  unfold wp_M_locksOf_30 at hw
  refine lv_iadd hx hb dd_M_locksOf_30 ?_
  refine lv_topi (fun x1 ex1 => ?_)
  replace hw := hw x1 ex1
  have hl0 := hl
  clear hl
  refine lv_istore_n (lv' := [(2, .int x1), (0, .ref v0), (1, .int v1), (3, .int v3)]) hx hb dd_M_locksOf_31 rfl hl0 (by decide) rfl (fun ls hl => ?_)
  obtain ⟨x2, ex2⟩ : ∃ y : Int32, y = v3 + 1 := ⟨_, rfl⟩
  replace hw := hw x2 ex2
  have hl0 := hl
  clear hl
  refine lv_iinc (v := x2) (lv' := [(3, .int x2), (2, .int x1), (0, .ref v0), (1, .int v1)]) hx hb dd_M_locksOf_32 hl0 (k := 3) rfl (by rw [ex2]; rfl) (by decide) rfl (fun ls hl => ?_)
  refine lv_goto (tgt := 4) hx hb dd_M_locksOf_35 (by decide) ?_
  exact hK4 _ _ _ _ _ _ hw hG (lv_sub hl [2, 3, 1, 0] rfl)
def wp_M_locksOf_4 (g : Gm) (post : Int32 → Prop) : Nat → Hp → Nat → Int32 → Int32 → Int32 → Prop
  | 0, _, _, _, _, _ => False
  | fu + 1, h, v0, v1, v2, v3 => ((50 ≤ v3 → post v2) ∧ (¬ 50 ≤ v3 → hK h v0 = 5 ∧ ∃ a3 : Nat, hR h v0 9 = some a3 ∧ wp_M_of g (fun x6 => hK h a3 = 21 ∧ vp_in x6 (hN h a3) ∧ (((hI h a3 x6.toNatClampNeg) = (-1) → wp_M_locksOf_30 g post (fun h v0 v1 v2 v3 => wp_M_locksOf_4 g post fu h v0 v1 v2 v3) h v0 v1 v3 v2 0) ∧ (¬ (hI h a3 x6.toNatClampNeg) = (-1) → wp_M_locksOf_30 g post (fun h v0 v1 v2 v3 => wp_M_locksOf_4 g post fu h v0 v1 v2 v3) h v0 v1 v3 v2 1))) h v1 v3))
set_option maxHeartbeats 4000000 in
set_option maxRecDepth 100000 in
theorem wk_M_locksOf_4 {p : Program} {l : Launch} {e : Env} {s : State} {m : MethodId} {args : Array Value} {below : List Frame} {meth : Method} {c : Code} {g : Gm} {post : Int32 → Prop} (C0 : Cx g p s m args c prog_6_method_9_code 4 "SegmentLocksModel") (hr : meth.sig.returnType = (some .int)) (hlk : meth.locks = false) : ∀ n : Nat, ∀ (h : Hp) (v0 : Nat) (v1 : Int32) (v2 : Int32) (v3 : Int32) (ls : Array Slot), wp_M_locksOf_4 g post n h v0 v1 v2 v3 → GH g h s.heap → lv_has ls 4 [(0, .ref v0), (1, .int v1), (2, .int v2), (3, .int v3)] → W p l e (rmm 1 21 0 0) s m args below meth c s.heap [] 0 0 (MQ below (vp_Si post) args s 0 0 (fun _ => False)) (F0 m 4 ls []) := by
  obtain ⟨hx, hb, -, hown, hts, hgk⟩ := id C0
  have hS : va_S (gA g) s.heap s.heap [] := va_S.rf
  intro n
  induction n with
  | zero =>
    intro h v0 v1 v2 v3 ls hw hG hl
    exact hw.elim
  | succ n ih =>
    intro h v0 v1 v2 v3 ls hw hG hl
    unfold wp_M_locksOf_4 at hw
    refine lv_iload_n hx hb dd_M_locksOf_4 rfl (lv_at hl 3 rfl) ?_
    refine lv_bipush (v := 50) hx hb dd_M_locksOf_5 (by decide) ?_
    refine lv_icmp_ge (tgt := 38) hx hb dd_M_locksOf_7 (by decide) (fun c1 => ?_) (fun c1 => ?_)
    · replace hw := hw.1 c1
      refine lv_iload_n hx hb dd_M_locksOf_38 rfl (lv_at hl 2 rfl) ?_
      exact rs_i C0 hr hlk hw dd_M_locksOf_39
    · replace hw := hw.2 c1
      refine lv_iload_n hx hb dd_M_locksOf_10 rfl (lv_at hl 2 rfl) ?_
      refine lv_aload_n hx hb dd_M_locksOf_11 rfl (lv_at hl 0 rfl) ?_
      obtain ⟨k2, a3, ea3, hw⟩ := hw
      refine gf_M_29 C0 hG k2 ea3 dd_M_locksOf_12 ?_
      refine lv_iload_n hx hb dd_M_locksOf_15 rfl (lv_at hl 1 rfl) ?_
      refine lv_iload_n hx hb dd_M_locksOf_16 rfl (lv_at hl 3 rfl) ?_
      have hw0 := hw
      clear hw
      refine cs_i (rn_S C0 hG hS (c_M_of l g _ h v1 v3 hw0) (host := "") (nest := false) (n := 2) (As := [.int v1, .int v3]) (rest := [.ref a3, .int v2]) km_420 km_419 km_422 km_421 ⟨by decide, by decide, by decide +kernel⟩ ⟨Nat.le_of_ble_eq_true rfl, Nat.le_of_ble_eq_true rfl⟩ rfl hl.1 rfl (Nat.le_of_ble_eq_true rfl) dd_M_locksOf_17 ⟨Nat.le_refl _, Nat.le_refl _⟩) (fun x6 hw => ?_)
      obtain ⟨k7, k7i, hw⟩ := hw
      refine px_iald C0 hG k7 k7i dd_M_locksOf_20 ?_
      refine lv_iconst (v := (-1)) hx hb dd_M_locksOf_21 (by decide) ?_
      refine lv_icmp_eq (tgt := 29) hx hb dd_M_locksOf_22 (by decide) (fun c8 => ?_) (fun c8 => ?_)
      · replace hw := hw.1 c8
        refine lv_iconst (v := 0) hx hb dd_M_locksOf_29 (by decide) ?_
        exact wk_M_locksOf_30 C0 hr hlk ih _ _ _ _ _ _ _ hw hG (lv_sub hl [0, 1, 3] rfl)
      · replace hw := hw.2 c8
        refine lv_iconst (v := 1) hx hb dd_M_locksOf_25 (by decide) ?_
        refine lv_goto (tgt := 30) hx hb dd_M_locksOf_26 (by decide) ?_
        exact wk_M_locksOf_30 C0 hr hlk ih _ _ _ _ _ _ _ hw hG (lv_sub hl [0, 1, 3] rfl)
def wp_M_locksOf (g : Gm) (post : Int32 → Prop) (h : Hp) (a0 : Nat) (i1 : Int32) : Prop := ∃ n : Nat, wp_M_locksOf_4 g post n h a0 i1 0 0
set_option maxHeartbeats 4000000 in
set_option maxRecDepth 100000 in
theorem c_M_locksOf (l : Launch) (g : Gm) (post : Int32 → Prop) (h : Hp) (a0 : Nat) (i1 : Int32) (hw : wp_M_locksOf g post h a0 i1) : Met l (⟨"SegmentLocksModel", "locksOf", "(I)I"⟩ : MethodName) (ww (⟨"SegmentLocksModel", "locksOf", "(I)I"⟩ : MethodName) prog_6_method_9_code 4 (some .int)) (rmm 1 21 0 0) (va_Pc [.ref a0, .int i1] (gS g h)) (vp_Si post) 0 0 (fun _ => False) := by
  first | refine en_met (by decide) ?_ | refine en_metF (by decide) ?_
  intro p e s m below meth c C0 hr hlk hin hG
  have hS : va_S (gA g) s.heap s.heap [] := va_S.rf
  have hl := lv_entry ([.ref a0, .int i1]) (n := 4) (Nat.le_of_ble_eq_true rfl)
  rw [lg_entry_eq]
  generalize (lg_sl ([.ref a0, .int i1]) ++ List.replicate (4 - (lg_sl ([.ref a0, .int i1])).length) Slot.unset).toArray = ls at hl ⊢
  replace hl : lv_has ls 4 [(0, .ref a0), (1, .int i1)] := hl
  obtain ⟨hx, hb, -, hown, hts, hgk⟩ := id C0
  unfold wp_M_locksOf at hw
  refine lv_iconst (v := 0) hx hb dd_M_locksOf_0 (by decide) ?_
  have hl0 := hl
  clear hl
  refine lv_istore_n (lv' := [(2, .int 0), (0, .ref a0), (1, .int i1)]) hx hb dd_M_locksOf_1 rfl hl0 (by decide) rfl (fun ls hl => ?_)
  refine lv_iconst (v := 0) hx hb dd_M_locksOf_2 (by decide) ?_
  have hl0 := hl
  clear hl
  refine lv_istore_n (lv' := [(3, .int 0), (2, .int 0), (0, .ref a0), (1, .int i1)]) hx hb dd_M_locksOf_3 rfl hl0 (by decide) rfl (fun ls hl => ?_)
  obtain ⟨n, hw⟩ := hw
  exact wk_M_locksOf_4 C0 hr hlk n _ _ _ _ _ _ hw hG (lv_sub hl [2, 3, 1, 0] rfl)
/-! SegmentLocksModel.placeBefore(II)I -/
theorem dd_M_placeBefore_0 : decode prog_6_method_14_code 0 = .ok (.iconst 0, 1) := by decide +kernel
theorem dd_M_placeBefore_1 : decode prog_6_method_14_code 1 = .ok (.istore_n 3, 1) := by decide +kernel
theorem dd_M_placeBefore_2 : decode prog_6_method_14_code 2 = .ok (.aload_n 0, 1) := by decide +kernel
theorem dd_M_placeBefore_3 : decode prog_6_method_14_code 3 = .ok (.getfield 45, 3) := by decide +kernel
theorem dd_M_placeBefore_6 : decode prog_6_method_14_code 6 = .ok (.bipush 31, 2) := by decide +kernel
theorem dd_M_placeBefore_8 : decode prog_6_method_14_code 8 = .ok (.iload_n 2, 1) := by decide +kernel
theorem dd_M_placeBefore_9 : decode prog_6_method_14_code 9 = .ok (.imul, 1) := by decide +kernel
theorem dd_M_placeBefore_10 : decode prog_6_method_14_code 10 = .ok (.iload_n 3, 1) := by decide +kernel
theorem dd_M_placeBefore_11 : decode prog_6_method_14_code 11 = .ok (.iadd, 1) := by decide +kernel
theorem dd_M_placeBefore_12 : decode prog_6_method_14_code 12 = .ok (.iaload, 1) := by decide +kernel
theorem dd_M_placeBefore_13 : decode prog_6_method_14_code 13 = .ok (.iload_n 1, 1) := by decide +kernel
theorem dd_M_placeBefore_14 : decode prog_6_method_14_code 14 = .ok (.if_icmp .eq 9, 3) := by decide +kernel
theorem dd_M_placeBefore_17 : decode prog_6_method_14_code 17 = .ok (.iinc 3 1, 3) := by decide +kernel
theorem dd_M_placeBefore_20 : decode prog_6_method_14_code 20 = .ok (.goto (-18), 3) := by decide +kernel
theorem dd_M_placeBefore_23 : decode prog_6_method_14_code 23 = .ok (.iload_n 3, 1) := by decide +kernel
theorem dd_M_placeBefore_24 : decode prog_6_method_14_code 24 = .ok (.ireturn, 1) := by decide +kernel
def wp_M_placeBefore_2 (g : Gm) (post : Int32 → Prop) : Nat → Hp → Nat → Int32 → Int32 → Int32 → Prop
  | 0, _, _, _, _, _ => False
  | fu + 1, h, v0, v1, v2, v3 => hK h v0 = 5 ∧ ∃ a2 : Nat, hR h v0 15 = some a2 ∧ ∀ x3 : Int32, x3 = 31 * v2 → ∀ x4 : Int32, x4 = x3 + v3 → hK h a2 = 21 ∧ vp_in x4 (hN h a2) ∧ (((hI h a2 x4.toNatClampNeg) = v1 → post v3) ∧ (¬ (hI h a2 x4.toNatClampNeg) = v1 → ∀ x7 : Int32, x7 = v3 + 1 → wp_M_placeBefore_2 g post fu h v0 v1 v2 x7))
set_option maxHeartbeats 4000000 in
set_option maxRecDepth 100000 in
theorem wk_M_placeBefore_2 {p : Program} {l : Launch} {e : Env} {s : State} {m : MethodId} {args : Array Value} {below : List Frame} {meth : Method} {c : Code} {g : Gm} {post : Int32 → Prop} (C0 : Cx g p s m args c prog_6_method_14_code 4 "SegmentLocksModel") (hr : meth.sig.returnType = (some .int)) (hlk : meth.locks = false) : ∀ n : Nat, ∀ (h : Hp) (v0 : Nat) (v1 : Int32) (v2 : Int32) (v3 : Int32) (ls : Array Slot), wp_M_placeBefore_2 g post n h v0 v1 v2 v3 → GH g h s.heap → lv_has ls 4 [(0, .ref v0), (1, .int v1), (2, .int v2), (3, .int v3)] → W p l e (rmm 0 0 0 0) s m args below meth c s.heap [] 0 0 (MQ below (vp_Si post) args s 0 0 (fun _ => False)) (F0 m 2 ls []) := by
  obtain ⟨hx, hb, -, hown, hts, hgk⟩ := id C0
  have hS : va_S (gA g) s.heap s.heap [] := va_S.rf
  intro n
  induction n with
  | zero =>
    intro h v0 v1 v2 v3 ls hw hG hl
    exact hw.elim
  | succ n ih =>
    intro h v0 v1 v2 v3 ls hw hG hl
    unfold wp_M_placeBefore_2 at hw
    refine lv_aload_n hx hb dd_M_placeBefore_2 rfl (lv_at hl 0 rfl) ?_
    obtain ⟨k1, a2, ea2, hw⟩ := hw
    refine gf_M_45 C0 hG k1 ea2 dd_M_placeBefore_3 ?_
    refine lv_bipush (v := 31) hx hb dd_M_placeBefore_6 (by decide) ?_
    refine lv_iload_n hx hb dd_M_placeBefore_8 rfl (lv_at hl 2 rfl) ?_
    refine lv_imul hx hb dd_M_placeBefore_9 ?_
    refine lv_topi (fun x3 ex3 => ?_)
    replace hw := hw x3 ex3
    refine lv_iload_n hx hb dd_M_placeBefore_10 rfl (lv_at hl 3 rfl) ?_
    refine lv_iadd hx hb dd_M_placeBefore_11 ?_
    refine lv_topi (fun x4 ex4 => ?_)
    replace hw := hw x4 ex4
    obtain ⟨k5, k5i, hw⟩ := hw
    refine px_iald C0 hG k5 k5i dd_M_placeBefore_12 ?_
    refine lv_iload_n hx hb dd_M_placeBefore_13 rfl (lv_at hl 1 rfl) ?_
    refine lv_icmp_eq (tgt := 23) hx hb dd_M_placeBefore_14 (by decide) (fun c6 => ?_) (fun c6 => ?_)
    · replace hw := hw.1 c6
      refine lv_iload_n hx hb dd_M_placeBefore_23 rfl (lv_at hl 3 rfl) ?_
      exact rs_i C0 hr hlk hw dd_M_placeBefore_24
    · replace hw := hw.2 c6
      obtain ⟨x7, ex7⟩ : ∃ y : Int32, y = v3 + 1 := ⟨_, rfl⟩
      replace hw := hw x7 ex7
      have hl0 := hl
      clear hl
      refine lv_iinc (v := x7) (lv' := [(3, .int x7), (0, .ref v0), (1, .int v1), (2, .int v2)]) hx hb dd_M_placeBefore_17 hl0 (k := 3) rfl (by rw [ex7]; rfl) (by decide) rfl (fun ls hl => ?_)
      refine lv_goto (tgt := 2) hx hb dd_M_placeBefore_20 (by decide) ?_
      exact ih _ _ _ _ _ _ hw hG (lv_sub hl [1, 2, 3, 0] rfl)
def wp_M_placeBefore (g : Gm) (post : Int32 → Prop) (h : Hp) (a0 : Nat) (i1 : Int32) (i2 : Int32) : Prop := ∃ n : Nat, wp_M_placeBefore_2 g post n h a0 i1 i2 0
set_option maxHeartbeats 4000000 in
set_option maxRecDepth 100000 in
theorem c_M_placeBefore (l : Launch) (g : Gm) (post : Int32 → Prop) (h : Hp) (a0 : Nat) (i1 : Int32) (i2 : Int32) (hw : wp_M_placeBefore g post h a0 i1 i2) : Met l (⟨"SegmentLocksModel", "placeBefore", "(II)I"⟩ : MethodName) (ww (⟨"SegmentLocksModel", "placeBefore", "(II)I"⟩ : MethodName) prog_6_method_14_code 4 (some .int)) (rmm 0 0 0 0) (va_Pc [.ref a0, .int i1, .int i2] (gS g h)) (vp_Si post) 0 0 (fun _ => False) := by
  first | refine en_met (by decide) ?_ | refine en_metF (by decide) ?_
  intro p e s m below meth c C0 hr hlk hin hG
  have hS : va_S (gA g) s.heap s.heap [] := va_S.rf
  have hl := lv_entry ([.ref a0, .int i1, .int i2]) (n := 4) (Nat.le_of_ble_eq_true rfl)
  rw [lg_entry_eq]
  generalize (lg_sl ([.ref a0, .int i1, .int i2]) ++ List.replicate (4 - (lg_sl ([.ref a0, .int i1, .int i2])).length) Slot.unset).toArray = ls at hl ⊢
  replace hl : lv_has ls 4 [(0, .ref a0), (1, .int i1), (2, .int i2)] := hl
  obtain ⟨hx, hb, -, hown, hts, hgk⟩ := id C0
  unfold wp_M_placeBefore at hw
  refine lv_iconst (v := 0) hx hb dd_M_placeBefore_0 (by decide) ?_
  have hl0 := hl
  clear hl
  refine lv_istore_n (lv' := [(3, .int 0), (0, .ref a0), (1, .int i1), (2, .int i2)]) hx hb dd_M_placeBefore_1 rfl hl0 (by decide) rfl (fun ls hl => ?_)
  obtain ⟨n, hw⟩ := hw
  exact wk_M_placeBefore_2 C0 hr hlk n _ _ _ _ _ _ hw hG (lv_sub hl [1, 2, 3, 0] rfl)
/-! SegmentLocksModel.unwait(I)V -/
theorem dd_M_unwait_0 : decode prog_6_method_13_code 0 = .ok (.aload_n 0, 1) := by decide +kernel
theorem dd_M_unwait_1 : decode prog_6_method_13_code 1 = .ok (.getfield 23, 3) := by decide +kernel
theorem dd_M_unwait_4 : decode prog_6_method_13_code 4 = .ok (.iload_n 1, 1) := by decide +kernel
theorem dd_M_unwait_5 : decode prog_6_method_13_code 5 = .ok (.iaload, 1) := by decide +kernel
theorem dd_M_unwait_6 : decode prog_6_method_13_code 6 = .ok (.istore_n 2, 1) := by decide +kernel
theorem dd_M_unwait_7 : decode prog_6_method_13_code 7 = .ok (.iload_n 2, 1) := by decide +kernel
theorem dd_M_unwait_8 : decode prog_6_method_13_code 8 = .ok (.iconst (-1), 1) := by decide +kernel
theorem dd_M_unwait_9 : decode prog_6_method_13_code 9 = .ok (.if_icmp .ne 4, 3) := by decide +kernel
theorem dd_M_unwait_12 : decode prog_6_method_13_code 12 = .ok (.return_, 1) := by decide +kernel
theorem dd_M_unwait_13 : decode prog_6_method_13_code 13 = .ok (.aload_n 0, 1) := by decide +kernel
theorem dd_M_unwait_14 : decode prog_6_method_13_code 14 = .ok (.getfield 48, 3) := by decide +kernel
theorem dd_M_unwait_17 : decode prog_6_method_13_code 17 = .ok (.iload_n 2, 1) := by decide +kernel
theorem dd_M_unwait_18 : decode prog_6_method_13_code 18 = .ok (.dup2, 1) := by decide +kernel
theorem dd_M_unwait_19 : decode prog_6_method_13_code 19 = .ok (.iaload, 1) := by decide +kernel
theorem dd_M_unwait_20 : decode prog_6_method_13_code 20 = .ok (.iconst 1, 1) := by decide +kernel
theorem dd_M_unwait_21 : decode prog_6_method_13_code 21 = .ok (.isub, 1) := by decide +kernel
theorem dd_M_unwait_22 : decode prog_6_method_13_code 22 = .ok (.iastore, 1) := by decide +kernel
theorem dd_M_unwait_23 : decode prog_6_method_13_code 23 = .ok (.aload_n 0, 1) := by decide +kernel
theorem dd_M_unwait_24 : decode prog_6_method_13_code 24 = .ok (.iload_n 1, 1) := by decide +kernel
theorem dd_M_unwait_25 : decode prog_6_method_13_code 25 = .ok (.iload_n 2, 1) := by decide +kernel
theorem dd_M_unwait_26 : decode prog_6_method_13_code 26 = .ok (.invokevirtual 87, 3) := by decide +kernel
theorem dd_M_unwait_29 : decode prog_6_method_13_code 29 = .ok (.istore_n 3, 1) := by decide +kernel
theorem dd_M_unwait_30 : decode prog_6_method_13_code 30 = .ok (.iload_n 3, 1) := by decide +kernel
theorem dd_M_unwait_31 : decode prog_6_method_13_code 31 = .ok (.aload_n 0, 1) := by decide +kernel
theorem dd_M_unwait_32 : decode prog_6_method_13_code 32 = .ok (.getfield 48, 3) := by decide +kernel
theorem dd_M_unwait_35 : decode prog_6_method_13_code 35 = .ok (.iload_n 2, 1) := by decide +kernel
theorem dd_M_unwait_36 : decode prog_6_method_13_code 36 = .ok (.iaload, 1) := by decide +kernel
theorem dd_M_unwait_37 : decode prog_6_method_13_code 37 = .ok (.if_icmp .ge 33, 3) := by decide +kernel
theorem dd_M_unwait_40 : decode prog_6_method_13_code 40 = .ok (.aload_n 0, 1) := by decide +kernel
theorem dd_M_unwait_41 : decode prog_6_method_13_code 41 = .ok (.getfield 45, 3) := by decide +kernel
theorem dd_M_unwait_44 : decode prog_6_method_13_code 44 = .ok (.bipush 31, 2) := by decide +kernel
theorem dd_M_unwait_46 : decode prog_6_method_13_code 46 = .ok (.iload_n 2, 1) := by decide +kernel
theorem dd_M_unwait_47 : decode prog_6_method_13_code 47 = .ok (.imul, 1) := by decide +kernel
theorem dd_M_unwait_48 : decode prog_6_method_13_code 48 = .ok (.iload_n 3, 1) := by decide +kernel
theorem dd_M_unwait_49 : decode prog_6_method_13_code 49 = .ok (.iadd, 1) := by decide +kernel
theorem dd_M_unwait_50 : decode prog_6_method_13_code 50 = .ok (.aload_n 0, 1) := by decide +kernel
theorem dd_M_unwait_51 : decode prog_6_method_13_code 51 = .ok (.getfield 45, 3) := by decide +kernel
theorem dd_M_unwait_54 : decode prog_6_method_13_code 54 = .ok (.bipush 31, 2) := by decide +kernel
theorem dd_M_unwait_56 : decode prog_6_method_13_code 56 = .ok (.iload_n 2, 1) := by decide +kernel
theorem dd_M_unwait_57 : decode prog_6_method_13_code 57 = .ok (.imul, 1) := by decide +kernel
theorem dd_M_unwait_58 : decode prog_6_method_13_code 58 = .ok (.iload_n 3, 1) := by decide +kernel
theorem dd_M_unwait_59 : decode prog_6_method_13_code 59 = .ok (.iadd, 1) := by decide +kernel
theorem dd_M_unwait_60 : decode prog_6_method_13_code 60 = .ok (.iconst 1, 1) := by decide +kernel
theorem dd_M_unwait_61 : decode prog_6_method_13_code 61 = .ok (.iadd, 1) := by decide +kernel
theorem dd_M_unwait_62 : decode prog_6_method_13_code 62 = .ok (.iaload, 1) := by decide +kernel
theorem dd_M_unwait_63 : decode prog_6_method_13_code 63 = .ok (.iastore, 1) := by decide +kernel
theorem dd_M_unwait_64 : decode prog_6_method_13_code 64 = .ok (.iinc 3 1, 3) := by decide +kernel
theorem dd_M_unwait_67 : decode prog_6_method_13_code 67 = .ok (.goto (-37), 3) := by decide +kernel
theorem dd_M_unwait_70 : decode prog_6_method_13_code 70 = .ok (.aload_n 0, 1) := by decide +kernel
theorem dd_M_unwait_71 : decode prog_6_method_13_code 71 = .ok (.getfield 23, 3) := by decide +kernel
theorem dd_M_unwait_74 : decode prog_6_method_13_code 74 = .ok (.iload_n 1, 1) := by decide +kernel
theorem dd_M_unwait_75 : decode prog_6_method_13_code 75 = .ok (.iconst (-1), 1) := by decide +kernel
theorem dd_M_unwait_76 : decode prog_6_method_13_code 76 = .ok (.iastore, 1) := by decide +kernel
theorem dd_M_unwait_77 : decode prog_6_method_13_code 77 = .ok (.return_, 1) := by decide +kernel
def wp_M_unwait_30 (g : Gm) (post : Hp → Prop) : Nat → Hp → Nat → Int32 → Int32 → Int32 → Prop
  | 0, _, _, _, _, _ => False
  | fu + 1, h, v0, v1, v2, v3 => hK h v0 = 5 ∧ ∃ a2 : Nat, hR h v0 16 = some a2 ∧ hK h a2 = 21 ∧ vp_in v2 (hN h a2) ∧ (((hI h a2 v2.toNatClampNeg) ≤ v3 → hK h v0 = 5 ∧ ∃ a6 : Nat, hR h v0 7 = some a6 ∧ hK h a6 = 21 ∧ vp_in v1 (hN h a6) ∧ ∀ h8 : Hp, h8 = sI h a6 v1.toNatClampNeg (-1) → post h8) ∧ (¬ (hI h a2 v2.toNatClampNeg) ≤ v3 → hK h v0 = 5 ∧ ∃ a10 : Nat, hR h v0 15 = some a10 ∧ ∀ x11 : Int32, x11 = 31 * v2 → ∀ x12 : Int32, x12 = x11 + v3 → hK h v0 = 5 ∧ ∃ a14 : Nat, hR h v0 15 = some a14 ∧ ∀ x15 : Int32, x15 = 31 * v2 → ∀ x16 : Int32, x16 = x15 + v3 → ∀ x17 : Int32, x17 = x16 + 1 → hK h a14 = 21 ∧ vp_in x17 (hN h a14) ∧ hK h a10 = 21 ∧ vp_in x12 (hN h a10) ∧ ∀ h20 : Hp, h20 = sI h a10 x12.toNatClampNeg (hI h a14 x17.toNatClampNeg) → ∀ x21 : Int32, x21 = v3 + 1 → wp_M_unwait_30 g post fu h20 v0 v1 v2 x21))
set_option maxHeartbeats 4000000 in
set_option maxRecDepth 100000 in
theorem wk_M_unwait_30 {p : Program} {l : Launch} {e : Env} {s : State} {m : MethodId} {args : Array Value} {below : List Frame} {meth : Method} {c : Code} {g : Gm} {post : Hp → Prop} (C0 : Cx g p s m args c prog_6_method_13_code 4 "SegmentLocksModel") (hr : meth.sig.returnType = none) (hlk : meth.locks = false) : ∀ n : Nat, ∀ (h : Hp) (v0 : Nat) (v1 : Int32) (v2 : Int32) (v3 : Int32) (H : Heap) (locs : List Loc) (ls : Array Slot), wp_M_unwait_30 g post n h v0 v1 v2 v3 → GH g h H → va_S (gA g) s.heap H locs → lv_has ls 4 [(0, .ref v0), (1, .int v1), (2, .int v2), (3, .int v3)] → W p l e (rmm 1 23 0 0) s m args below meth c H locs 0 0 (MQ below (va_Qv post (gS g) (gA g)) args s 0 0 (gA g)) (F0 m 30 ls []) := by
  obtain ⟨hx, hb, -, hown, hts, hgk⟩ := id C0
  intro n
  induction n with
  | zero =>
    intro h v0 v1 v2 v3 H locs ls hw hG hS hl
    exact hw.elim
  | succ n ih =>
    intro h v0 v1 v2 v3 H locs ls hw hG hS hl
    unfold wp_M_unwait_30 at hw
    refine lv_iload_n hx hb dd_M_unwait_30 rfl (lv_at hl 3 rfl) ?_
    refine lv_aload_n hx hb dd_M_unwait_31 rfl (lv_at hl 0 rfl) ?_
    obtain ⟨k1, a2, ea2, hw⟩ := hw
    refine gf_M_48 C0 hG k1 ea2 dd_M_unwait_32 ?_
    refine lv_iload_n hx hb dd_M_unwait_35 rfl (lv_at hl 2 rfl) ?_
    obtain ⟨k3, k3i, hw⟩ := hw
    refine px_iald C0 hG k3 k3i dd_M_unwait_36 ?_
    refine lv_icmp_ge (tgt := 70) hx hb dd_M_unwait_37 (by decide) (fun c4 => ?_) (fun c4 => ?_)
    · replace hw := hw.1 c4
      refine lv_aload_n hx hb dd_M_unwait_70 rfl (lv_at hl 0 rfl) ?_
      obtain ⟨k5, a6, ea6, hw⟩ := hw
      refine gf_M_23 C0 hG k5 ea6 dd_M_unwait_71 ?_
      refine lv_iload_n hx hb dd_M_unwait_74 rfl (lv_at hl 1 rfl) ?_
      refine lv_iconst (v := (-1)) hx hb dd_M_unwait_75 (by decide) ?_
      obtain ⟨k7, k7i, hw⟩ := hw
      refine px_iast C0 hG hS k7 k7i dd_M_unwait_76 (fun H locs hG hS => ?_)
      replace hw := hw _ rfl
      generalize sI h a6 v1.toNatClampNeg (-1) = h8 at hw hG
      exact re_v C0 hG hS hr hlk ⟨Nat.le_refl _, Nat.le_refl _⟩ hw dd_M_unwait_77
    · replace hw := hw.2 c4
      refine lv_aload_n hx hb dd_M_unwait_40 rfl (lv_at hl 0 rfl) ?_
      obtain ⟨k9, a10, ea10, hw⟩ := hw
      refine gf_M_45 C0 hG k9 ea10 dd_M_unwait_41 ?_
      refine lv_bipush (v := 31) hx hb dd_M_unwait_44 (by decide) ?_
      refine lv_iload_n hx hb dd_M_unwait_46 rfl (lv_at hl 2 rfl) ?_
      refine lv_imul hx hb dd_M_unwait_47 ?_
      refine lv_topi (fun x11 ex11 => ?_)
      replace hw := hw x11 ex11
      refine lv_iload_n hx hb dd_M_unwait_48 rfl (lv_at hl 3 rfl) ?_
      refine lv_iadd hx hb dd_M_unwait_49 ?_
      refine lv_topi (fun x12 ex12 => ?_)
      replace hw := hw x12 ex12
      refine lv_aload_n hx hb dd_M_unwait_50 rfl (lv_at hl 0 rfl) ?_
      obtain ⟨k13, a14, ea14, hw⟩ := hw
      refine gf_M_45 C0 hG k13 ea14 dd_M_unwait_51 ?_
      refine lv_bipush (v := 31) hx hb dd_M_unwait_54 (by decide) ?_
      refine lv_iload_n hx hb dd_M_unwait_56 rfl (lv_at hl 2 rfl) ?_
      refine lv_imul hx hb dd_M_unwait_57 ?_
      refine lv_topi (fun x15 ex15 => ?_)
      replace hw := hw x15 ex15
      refine lv_iload_n hx hb dd_M_unwait_58 rfl (lv_at hl 3 rfl) ?_
      refine lv_iadd hx hb dd_M_unwait_59 ?_
      refine lv_topi (fun x16 ex16 => ?_)
      replace hw := hw x16 ex16
      refine lv_iconst (v := 1) hx hb dd_M_unwait_60 (by decide) ?_
      refine lv_iadd hx hb dd_M_unwait_61 ?_
      refine lv_topi (fun x17 ex17 => ?_)
      replace hw := hw x17 ex17
      obtain ⟨k18, k18i, hw⟩ := hw
      refine px_iald C0 hG k18 k18i dd_M_unwait_62 ?_
      obtain ⟨k19, k19i, hw⟩ := hw
      refine px_iast C0 hG hS k19 k19i dd_M_unwait_63 (fun H locs hG hS => ?_)
      replace hw := hw _ rfl
      generalize sI h a10 x12.toNatClampNeg (hI h a14 x17.toNatClampNeg) = h20 at hw hG
      obtain ⟨x21, ex21⟩ : ∃ y : Int32, y = v3 + 1 := ⟨_, rfl⟩
      replace hw := hw x21 ex21
      have hl0 := hl
      clear hl
      refine lv_iinc (v := x21) (lv' := [(3, .int x21), (0, .ref v0), (1, .int v1), (2, .int v2)]) hx hb dd_M_unwait_64 hl0 (k := 3) rfl (by rw [ex21]; rfl) (by decide) rfl (fun ls hl => ?_)
      refine lv_goto (tgt := 30) hx hb dd_M_unwait_67 (by decide) ?_
      exact ih _ _ _ _ _ _ _ _ hw hG hS (lv_sub hl [1, 2, 3, 0] rfl)
def wp_M_unwait (g : Gm) (post : Hp → Prop) (h : Hp) (a0 : Nat) (i1 : Int32) : Prop := hK h a0 = 5 ∧ ∃ a2 : Nat, hR h a0 7 = some a2 ∧ hK h a2 = 21 ∧ vp_in i1 (hN h a2) ∧ ((¬ (hI h a2 i1.toNatClampNeg) = (-1) → hK h a0 = 5 ∧ ∃ a6 : Nat, hR h a0 16 = some a6 ∧ hK h a6 = 21 ∧ vp_in (hI h a2 i1.toNatClampNeg) (hN h a6) ∧ ∀ x8 : Int32, x8 = (hI h a6 (hI h a2 i1.toNatClampNeg).toNatClampNeg) - 1 → hK h a6 = 21 ∧ vp_in (hI h a2 i1.toNatClampNeg) (hN h a6) ∧ ∀ h10 : Hp, h10 = sI h a6 (hI h a2 i1.toNatClampNeg).toNatClampNeg x8 → hK h10 a0 = 5 ∧ wp_M_placeBefore g (fun x13 => ∃ n : Nat, wp_M_unwait_30 g post n h10 a0 i1 (hI h a2 i1.toNatClampNeg) x13) h10 a0 i1 (hI h a2 i1.toNatClampNeg)) ∧ ((hI h a2 i1.toNatClampNeg) = (-1) → post h))
set_option maxHeartbeats 4000000 in
set_option maxRecDepth 100000 in
theorem c_M_unwait (l : Launch) (g : Gm) (post : Hp → Prop) (h : Hp) (a0 : Nat) (i1 : Int32) (hw : wp_M_unwait g post h a0 i1) : Met l (⟨"SegmentLocksModel", "unwait", "(I)V"⟩ : MethodName) (ww (⟨"SegmentLocksModel", "unwait", "(I)V"⟩ : MethodName) prog_6_method_13_code 4 none) (rmm 1 23 0 0) (va_Pc [.ref a0, .int i1] (gS g h)) (va_Qv post (gS g) (gA g)) 0 0 (gA g) := by
  first | refine en_met (by decide) ?_ | refine en_metF (by decide) ?_
  intro p e s m below meth c C0 hr hlk hin hG
  have hS : va_S (gA g) s.heap s.heap [] := va_S.rf
  have hl := lv_entry ([.ref a0, .int i1]) (n := 4) (Nat.le_of_ble_eq_true rfl)
  rw [lg_entry_eq]
  generalize (lg_sl ([.ref a0, .int i1]) ++ List.replicate (4 - (lg_sl ([.ref a0, .int i1])).length) Slot.unset).toArray = ls at hl ⊢
  replace hl : lv_has ls 4 [(0, .ref a0), (1, .int i1)] := hl
  obtain ⟨hx, hb, -, hown, hts, hgk⟩ := id C0
  unfold wp_M_unwait at hw
  refine lv_aload_n hx hb dd_M_unwait_0 rfl (lv_at hl 0 rfl) ?_
  obtain ⟨k1, a2, ea2, hw⟩ := hw
  refine gf_M_23 C0 hG k1 ea2 dd_M_unwait_1 ?_
  refine lv_iload_n hx hb dd_M_unwait_4 rfl (lv_at hl 1 rfl) ?_
  obtain ⟨k3, k3i, hw⟩ := hw
  refine px_iald C0 hG k3 k3i dd_M_unwait_5 ?_
  have hl0 := hl
  clear hl
  refine lv_istore_n (lv' := [(2, .int (hI h a2 i1.toNatClampNeg)), (0, .ref a0), (1, .int i1)]) hx hb dd_M_unwait_6 rfl hl0 (by decide) rfl (fun ls hl => ?_)
  refine lv_iload_n hx hb dd_M_unwait_7 rfl (lv_at hl 0 rfl) ?_
  refine lv_iconst (v := (-1)) hx hb dd_M_unwait_8 (by decide) ?_
  refine lv_icmp_ne (tgt := 13) hx hb dd_M_unwait_9 (by decide) (fun c4 => ?_) (fun c4 => ?_)
  · replace hw := hw.1 c4
    refine lv_aload_n hx hb dd_M_unwait_13 rfl (lv_at hl 1 rfl) ?_
    obtain ⟨k5, a6, ea6, hw⟩ := hw
    refine gf_M_48 C0 hG k5 ea6 dd_M_unwait_14 ?_
    refine lv_iload_n hx hb dd_M_unwait_17 rfl (lv_at hl 0 rfl) ?_
    refine lv_dup2_11 hx hb dd_M_unwait_18 rfl rfl ?_
    obtain ⟨k7, k7i, hw⟩ := hw
    refine px_iald C0 hG k7 k7i dd_M_unwait_19 ?_
    refine lv_iconst (v := 1) hx hb dd_M_unwait_20 (by decide) ?_
    refine lv_isub hx hb dd_M_unwait_21 ?_
    refine lv_topi (fun x8 ex8 => ?_)
    replace hw := hw x8 ex8
    obtain ⟨k9, k9i, hw⟩ := hw
    refine px_iast C0 hG hS k9 k9i dd_M_unwait_22 (fun H locs hG hS => ?_)
    replace hw := hw _ rfl
    generalize sI h a6 (hI h a2 i1.toNatClampNeg).toNatClampNeg x8 = h10 at hw hG
    refine lv_aload_n hx hb dd_M_unwait_23 rfl (lv_at hl 1 rfl) ?_
    refine lv_iload_n hx hb dd_M_unwait_24 rfl (lv_at hl 2 rfl) ?_
    refine lv_iload_n hx hb dd_M_unwait_25 rfl (lv_at hl 0 rfl) ?_
    obtain ⟨k11, hw⟩ := hw
    have hw0 := hw
    clear hw
    refine cs_i (rn_V C0 hG hS (c_M_placeBefore l g _ h10 a0 i1 (hI h a2 i1.toNatClampNeg) hw0) (ci := 4) k11 (by decide) rfl rfl (host := "") (nest := false) (n := 2) (As := [.int i1, .int (hI h a2 i1.toNatClampNeg)]) (rest := []) km_424 km_423 km_425 km_426 km_421 ⟨by decide, by decide, by decide +kernel⟩ ⟨Nat.le_of_ble_eq_true rfl, Nat.le_of_ble_eq_true rfl⟩ rfl hl.1 rfl (Nat.le_of_ble_eq_true rfl) dd_M_unwait_26 ⟨Nat.le_refl _, Nat.le_refl _⟩) (fun x13 hw => ?_)
    have hl0 := hl
    clear hl
    refine lv_istore_n (lv' := [(3, .int x13), (2, .int (hI h a2 i1.toNatClampNeg)), (0, .ref a0), (1, .int i1)]) hx hb dd_M_unwait_29 rfl hl0 (by decide) rfl (fun ls hl => ?_)
    obtain ⟨n, hw⟩ := hw
    exact wk_M_unwait_30 C0 hr hlk n _ _ _ _ _ _ _ _ hw hG hS (lv_sub hl [2, 3, 1, 0] rfl)
  · replace hw := hw.2 c4
    exact re_v C0 hG hS hr hlk ⟨Nat.le_refl _, Nat.le_refl _⟩ hw dd_M_unwait_12
/-! SegmentLocksModel.forget(I)V -/
theorem dd_M_forget_0 : decode prog_6_method_17_code 0 = .ok (.iconst 0, 1) := by decide +kernel
theorem dd_M_forget_1 : decode prog_6_method_17_code 1 = .ok (.istore_n 2, 1) := by decide +kernel
theorem dd_M_forget_2 : decode prog_6_method_17_code 2 = .ok (.iconst 0, 1) := by decide +kernel
theorem dd_M_forget_3 : decode prog_6_method_17_code 3 = .ok (.istore_n 3, 1) := by decide +kernel
theorem dd_M_forget_4 : decode prog_6_method_17_code 4 = .ok (.iload_n 3, 1) := by decide +kernel
theorem dd_M_forget_5 : decode prog_6_method_17_code 5 = .ok (.aload_n 0, 1) := by decide +kernel
theorem dd_M_forget_6 : decode prog_6_method_17_code 6 = .ok (.getfield 108, 3) := by decide +kernel
theorem dd_M_forget_9 : decode prog_6_method_17_code 9 = .ok (.if_icmp .ge 61, 3) := by decide +kernel
theorem dd_M_forget_12 : decode prog_6_method_17_code 12 = .ok (.aload_n 0, 1) := by decide +kernel
theorem dd_M_forget_13 : decode prog_6_method_17_code 13 = .ok (.getfield 51, 3) := by decide +kernel
theorem dd_M_forget_16 : decode prog_6_method_17_code 16 = .ok (.iload_n 3, 1) := by decide +kernel
theorem dd_M_forget_17 : decode prog_6_method_17_code 17 = .ok (.iaload, 1) := by decide +kernel
theorem dd_M_forget_18 : decode prog_6_method_17_code 18 = .ok (.iload_n 1, 1) := by decide +kernel
theorem dd_M_forget_19 : decode prog_6_method_17_code 19 = .ok (.if_icmp .ne 6, 3) := by decide +kernel
theorem dd_M_forget_22 : decode prog_6_method_17_code 22 = .ok (.goto 42, 3) := by decide +kernel
theorem dd_M_forget_25 : decode prog_6_method_17_code 25 = .ok (.aload_n 0, 1) := by decide +kernel
theorem dd_M_forget_26 : decode prog_6_method_17_code 26 = .ok (.getfield 51, 3) := by decide +kernel
theorem dd_M_forget_29 : decode prog_6_method_17_code 29 = .ok (.iload_n 2, 1) := by decide +kernel
theorem dd_M_forget_30 : decode prog_6_method_17_code 30 = .ok (.aload_n 0, 1) := by decide +kernel
theorem dd_M_forget_31 : decode prog_6_method_17_code 31 = .ok (.getfield 51, 3) := by decide +kernel
theorem dd_M_forget_34 : decode prog_6_method_17_code 34 = .ok (.iload_n 3, 1) := by decide +kernel
theorem dd_M_forget_35 : decode prog_6_method_17_code 35 = .ok (.iaload, 1) := by decide +kernel
theorem dd_M_forget_36 : decode prog_6_method_17_code 36 = .ok (.iastore, 1) := by decide +kernel
theorem dd_M_forget_37 : decode prog_6_method_17_code 37 = .ok (.aload_n 0, 1) := by decide +kernel
theorem dd_M_forget_38 : decode prog_6_method_17_code 38 = .ok (.getfield 54, 3) := by decide +kernel
theorem dd_M_forget_41 : decode prog_6_method_17_code 41 = .ok (.iload_n 2, 1) := by decide +kernel
theorem dd_M_forget_42 : decode prog_6_method_17_code 42 = .ok (.aload_n 0, 1) := by decide +kernel
theorem dd_M_forget_43 : decode prog_6_method_17_code 43 = .ok (.getfield 54, 3) := by decide +kernel
theorem dd_M_forget_46 : decode prog_6_method_17_code 46 = .ok (.iload_n 3, 1) := by decide +kernel
theorem dd_M_forget_47 : decode prog_6_method_17_code 47 = .ok (.iaload, 1) := by decide +kernel
theorem dd_M_forget_48 : decode prog_6_method_17_code 48 = .ok (.iastore, 1) := by decide +kernel
theorem dd_M_forget_49 : decode prog_6_method_17_code 49 = .ok (.aload_n 0, 1) := by decide +kernel
theorem dd_M_forget_50 : decode prog_6_method_17_code 50 = .ok (.getfield 57, 3) := by decide +kernel
theorem dd_M_forget_53 : decode prog_6_method_17_code 53 = .ok (.iload_n 2, 1) := by decide +kernel
theorem dd_M_forget_54 : decode prog_6_method_17_code 54 = .ok (.aload_n 0, 1) := by decide +kernel
theorem dd_M_forget_55 : decode prog_6_method_17_code 55 = .ok (.getfield 57, 3) := by decide +kernel
theorem dd_M_forget_58 : decode prog_6_method_17_code 58 = .ok (.iload_n 3, 1) := by decide +kernel
theorem dd_M_forget_59 : decode prog_6_method_17_code 59 = .ok (.laload, 1) := by decide +kernel
theorem dd_M_forget_60 : decode prog_6_method_17_code 60 = .ok (.lastore, 1) := by decide +kernel
theorem dd_M_forget_61 : decode prog_6_method_17_code 61 = .ok (.iinc 2 1, 3) := by decide +kernel
theorem dd_M_forget_64 : decode prog_6_method_17_code 64 = .ok (.iinc 3 1, 3) := by decide +kernel
theorem dd_M_forget_67 : decode prog_6_method_17_code 67 = .ok (.goto (-63), 3) := by decide +kernel
theorem dd_M_forget_70 : decode prog_6_method_17_code 70 = .ok (.aload_n 0, 1) := by decide +kernel
theorem dd_M_forget_71 : decode prog_6_method_17_code 71 = .ok (.iload_n 2, 1) := by decide +kernel
theorem dd_M_forget_72 : decode prog_6_method_17_code 72 = .ok (.putfield 108, 3) := by decide +kernel
theorem dd_M_forget_75 : decode prog_6_method_17_code 75 = .ok (.return_, 1) := by decide +kernel
def wp_M_forget_64 (g : Gm) (post : Hp → Prop) (K4 : Hp → Nat → Int32 → Int32 → Int32 → Prop) (h : Hp) (v0 : Nat) (v1 : Int32) (v2 : Int32) (v3 : Int32) : Prop := ∀ x1 : Int32, x1 = v3 + 1 → K4 h v0 v1 v2 x1
set_option maxHeartbeats 4000000 in
set_option maxRecDepth 100000 in
theorem wk_M_forget_64 {p : Program} {l : Launch} {e : Env} {s : State} {m : MethodId} {args : Array Value} {below : List Frame} {meth : Method} {c : Code} {g : Gm} {post : Hp → Prop} (C0 : Cx g p s m args c prog_6_method_17_code 4 "SegmentLocksModel") (hr : meth.sig.returnType = none) (hlk : meth.locks = false) {K4 : Hp → Nat → Int32 → Int32 → Int32 → Prop} (hK4 : ∀ (h : Hp) (v0 : Nat) (v1 : Int32) (v2 : Int32) (v3 : Int32) (H : Heap) (locs : List Loc) (ls : Array Slot), K4 h v0 v1 v2 v3 → GH g h H → va_S (gA g) s.heap H locs → lv_has ls 4 [(0, .ref v0), (1, .int v1), (2, .int v2), (3, .int v3)] → W p l e (rmm 0 0 0 0) s m args below meth c H locs 0 0 (MQ below (va_Qv post (gS g) (gA g)) args s 0 0 (gA g)) (F0 m 4 ls [])) : ∀ (h : Hp) (v0 : Nat) (v1 : Int32) (v2 : Int32) (v3 : Int32) (H : Heap) (locs : List Loc) (ls : Array Slot), wp_M_forget_64 g post K4 h v0 v1 v2 v3 → GH g h H → va_S (gA g) s.heap H locs → lv_has ls 4 [(0, .ref v0), (1, .int v1), (2, .int v2), (3, .int v3)] → W p l e (rmm 0 0 0 0) s m args below meth c H locs 0 0 (MQ below (va_Qv post (gS g) (gA g)) args s 0 0 (gA g)) (F0 m 64 ls []) := by
  obtain ⟨hx, hb, -, hown, hts, hgk⟩ := id C0
  intro h v0 v1 v2 v3 H locs ls hw hG hS hl
  unfold wp_M_forget_64 at hw
  obtain ⟨x1, ex1⟩ : ∃ y : Int32, y = v3 + 1 := ⟨_, rfl⟩
  replace hw := hw x1 ex1
  have hl0 := hl
  clear hl
  refine lv_iinc (v := x1) (lv' := [(3, .int x1), (0, .ref v0), (1, .int v1), (2, .int v2)]) hx hb dd_M_forget_64 hl0 (k := 3) rfl (by rw [ex1]; rfl) (by decide) rfl (fun ls hl => ?_)
  refine lv_goto (tgt := 4) hx hb dd_M_forget_67 (by decide) ?_
  exact hK4 _ _ _ _ _ _ _ _ hw hG hS (lv_sub hl [1, 2, 3, 0] rfl)
def wp_M_forget_4 (g : Gm) (post : Hp → Prop) : Nat → Hp → Nat → Int32 → Int32 → Int32 → Prop
  | 0, _, _, _, _, _ => False
  | fu + 1, h, v0, v1, v2, v3 => hK h v0 = 5 ∧ (((hI h v0 20) ≤ v3 → hK h v0 = 5 ∧ ∀ h4 : Hp, h4 = sI h v0 20 v2 → post h4) ∧ (¬ (hI h v0 20) ≤ v3 → hK h v0 = 5 ∧ ∃ a6 : Nat, hR h v0 17 = some a6 ∧ hK h a6 = 21 ∧ vp_in v3 (hN h a6) ∧ ((¬ (hI h a6 v3.toNatClampNeg) = v1 → hK h v0 = 5 ∧ ∃ a10 : Nat, hR h v0 17 = some a10 ∧ hK h v0 = 5 ∧ ∃ a12 : Nat, hR h v0 17 = some a12 ∧ hK h a12 = 21 ∧ vp_in v3 (hN h a12) ∧ hK h a10 = 21 ∧ vp_in v2 (hN h a10) ∧ ∀ h15 : Hp, h15 = sI h a10 v2.toNatClampNeg (hI h a12 v3.toNatClampNeg) → hK h15 v0 = 5 ∧ ∃ a17 : Nat, hR h15 v0 18 = some a17 ∧ hK h15 v0 = 5 ∧ ∃ a19 : Nat, hR h15 v0 18 = some a19 ∧ hK h15 a19 = 21 ∧ vp_in v3 (hN h15 a19) ∧ hK h15 a17 = 21 ∧ vp_in v2 (hN h15 a17) ∧ ∀ h22 : Hp, h22 = sI h15 a17 v2.toNatClampNeg (hI h15 a19 v3.toNatClampNeg) → hK h22 v0 = 5 ∧ ∃ a24 : Nat, hR h22 v0 19 = some a24 ∧ hK h22 v0 = 5 ∧ ∃ a26 : Nat, hR h22 v0 19 = some a26 ∧ hK h22 a26 = 22 ∧ vp_in v3 (hN h22 a26) ∧ hK h22 a24 = 22 ∧ vp_in v2 (hN h22 a24) ∧ ∀ h29 : Hp, h29 = sJ h22 a24 v2.toNatClampNeg (hJ h22 a26 v3.toNatClampNeg) → ∀ x30 : Int32, x30 = v2 + 1 → wp_M_forget_64 g post (fun h v0 v1 v2 v3 => wp_M_forget_4 g post fu h v0 v1 v2 v3) h29 v0 v1 x30 v3) ∧ ((hI h a6 v3.toNatClampNeg) = v1 → wp_M_forget_64 g post (fun h v0 v1 v2 v3 => wp_M_forget_4 g post fu h v0 v1 v2 v3) h v0 v1 v2 v3))))
set_option maxHeartbeats 4000000 in
set_option maxRecDepth 100000 in
theorem wk_M_forget_4 {p : Program} {l : Launch} {e : Env} {s : State} {m : MethodId} {args : Array Value} {below : List Frame} {meth : Method} {c : Code} {g : Gm} {post : Hp → Prop} (C0 : Cx g p s m args c prog_6_method_17_code 4 "SegmentLocksModel") (hr : meth.sig.returnType = none) (hlk : meth.locks = false) : ∀ n : Nat, ∀ (h : Hp) (v0 : Nat) (v1 : Int32) (v2 : Int32) (v3 : Int32) (H : Heap) (locs : List Loc) (ls : Array Slot), wp_M_forget_4 g post n h v0 v1 v2 v3 → GH g h H → va_S (gA g) s.heap H locs → lv_has ls 4 [(0, .ref v0), (1, .int v1), (2, .int v2), (3, .int v3)] → W p l e (rmm 0 0 0 0) s m args below meth c H locs 0 0 (MQ below (va_Qv post (gS g) (gA g)) args s 0 0 (gA g)) (F0 m 4 ls []) := by
  obtain ⟨hx, hb, -, hown, hts, hgk⟩ := id C0
  intro n
  induction n with
  | zero =>
    intro h v0 v1 v2 v3 H locs ls hw hG hS hl
    exact hw.elim
  | succ n ih =>
    intro h v0 v1 v2 v3 H locs ls hw hG hS hl
    unfold wp_M_forget_4 at hw
    refine lv_iload_n hx hb dd_M_forget_4 rfl (lv_at hl 3 rfl) ?_
    refine lv_aload_n hx hb dd_M_forget_5 rfl (lv_at hl 0 rfl) ?_
    obtain ⟨k1, hw⟩ := hw
    refine gf_M_108 C0 hG k1 dd_M_forget_6 ?_
    refine lv_icmp_ge (tgt := 70) hx hb dd_M_forget_9 (by decide) (fun c2 => ?_) (fun c2 => ?_)
    · replace hw := hw.1 c2
      refine lv_aload_n hx hb dd_M_forget_70 rfl (lv_at hl 0 rfl) ?_
      refine lv_iload_n hx hb dd_M_forget_71 rfl (lv_at hl 2 rfl) ?_
      obtain ⟨k3, hw⟩ := hw
      refine pf_M_108 C0 hG hS k3 dd_M_forget_72 (fun H locs hG hS => ?_)
      replace hw := hw _ rfl
      generalize sI h v0 20 v2 = h4 at hw hG
      exact re_v C0 hG hS hr hlk ⟨Nat.le_refl _, Nat.le_refl _⟩ hw dd_M_forget_75
    · replace hw := hw.2 c2
      refine lv_aload_n hx hb dd_M_forget_12 rfl (lv_at hl 0 rfl) ?_
      obtain ⟨k5, a6, ea6, hw⟩ := hw
      refine gf_M_51 C0 hG k5 ea6 dd_M_forget_13 ?_
      refine lv_iload_n hx hb dd_M_forget_16 rfl (lv_at hl 3 rfl) ?_
      obtain ⟨k7, k7i, hw⟩ := hw
      refine px_iald C0 hG k7 k7i dd_M_forget_17 ?_
      refine lv_iload_n hx hb dd_M_forget_18 rfl (lv_at hl 1 rfl) ?_
      refine lv_icmp_ne (tgt := 25) hx hb dd_M_forget_19 (by decide) (fun c8 => ?_) (fun c8 => ?_)
      · replace hw := hw.1 c8
        refine lv_aload_n hx hb dd_M_forget_25 rfl (lv_at hl 0 rfl) ?_
        obtain ⟨k9, a10, ea10, hw⟩ := hw
        refine gf_M_51 C0 hG k9 ea10 dd_M_forget_26 ?_
        refine lv_iload_n hx hb dd_M_forget_29 rfl (lv_at hl 2 rfl) ?_
        refine lv_aload_n hx hb dd_M_forget_30 rfl (lv_at hl 0 rfl) ?_
        obtain ⟨k11, a12, ea12, hw⟩ := hw
        refine gf_M_51 C0 hG k11 ea12 dd_M_forget_31 ?_
        refine lv_iload_n hx hb dd_M_forget_34 rfl (lv_at hl 3 rfl) ?_
        obtain ⟨k13, k13i, hw⟩ := hw
        refine px_iald C0 hG k13 k13i dd_M_forget_35 ?_
        obtain ⟨k14, k14i, hw⟩ := hw
        refine px_iast C0 hG hS k14 k14i dd_M_forget_36 (fun H locs hG hS => ?_)
        replace hw := hw _ rfl
        generalize sI h a10 v2.toNatClampNeg (hI h a12 v3.toNatClampNeg) = h15 at hw hG
        refine lv_aload_n hx hb dd_M_forget_37 rfl (lv_at hl 0 rfl) ?_
        obtain ⟨k16, a17, ea17, hw⟩ := hw
        refine gf_M_54 C0 hG k16 ea17 dd_M_forget_38 ?_
        refine lv_iload_n hx hb dd_M_forget_41 rfl (lv_at hl 2 rfl) ?_
        refine lv_aload_n hx hb dd_M_forget_42 rfl (lv_at hl 0 rfl) ?_
        obtain ⟨k18, a19, ea19, hw⟩ := hw
        refine gf_M_54 C0 hG k18 ea19 dd_M_forget_43 ?_
        refine lv_iload_n hx hb dd_M_forget_46 rfl (lv_at hl 3 rfl) ?_
        obtain ⟨k20, k20i, hw⟩ := hw
        refine px_iald C0 hG k20 k20i dd_M_forget_47 ?_
        obtain ⟨k21, k21i, hw⟩ := hw
        refine px_iast C0 hG hS k21 k21i dd_M_forget_48 (fun H locs hG hS => ?_)
        replace hw := hw _ rfl
        generalize sI h15 a17 v2.toNatClampNeg (hI h15 a19 v3.toNatClampNeg) = h22 at hw hG
        refine lv_aload_n hx hb dd_M_forget_49 rfl (lv_at hl 0 rfl) ?_
        obtain ⟨k23, a24, ea24, hw⟩ := hw
        refine gf_M_57 C0 hG k23 ea24 dd_M_forget_50 ?_
        refine lv_iload_n hx hb dd_M_forget_53 rfl (lv_at hl 2 rfl) ?_
        refine lv_aload_n hx hb dd_M_forget_54 rfl (lv_at hl 0 rfl) ?_
        obtain ⟨k25, a26, ea26, hw⟩ := hw
        refine gf_M_57 C0 hG k25 ea26 dd_M_forget_55 ?_
        refine lv_iload_n hx hb dd_M_forget_58 rfl (lv_at hl 3 rfl) ?_
        obtain ⟨k27, k27i, hw⟩ := hw
        refine px_lald C0 hG k27 k27i dd_M_forget_59 ?_
        obtain ⟨k28, k28i, hw⟩ := hw
        refine px_last C0 hG hS k28 k28i dd_M_forget_60 (fun H locs hG hS => ?_)
        replace hw := hw _ rfl
        generalize sJ h22 a24 v2.toNatClampNeg (hJ h22 a26 v3.toNatClampNeg) = h29 at hw hG
        obtain ⟨x30, ex30⟩ : ∃ y : Int32, y = v2 + 1 := ⟨_, rfl⟩
        replace hw := hw x30 ex30
        have hl0 := hl
        clear hl
        refine lv_iinc (v := x30) (lv' := [(2, .int x30), (0, .ref v0), (1, .int v1), (3, .int v3)]) hx hb dd_M_forget_61 hl0 (k := 2) rfl (by rw [ex30]; rfl) (by decide) rfl (fun ls hl => ?_)
        exact wk_M_forget_64 C0 hr hlk ih _ _ _ _ _ _ _ _ hw hG hS (lv_sub hl [1, 2, 0, 3] rfl)
      · replace hw := hw.2 c8
        refine lv_goto (tgt := 64) hx hb dd_M_forget_22 (by decide) ?_
        exact wk_M_forget_64 C0 hr hlk ih _ _ _ _ _ _ _ _ hw hG hS (lv_sub hl [0, 1, 2, 3] rfl)
def wp_M_forget (g : Gm) (post : Hp → Prop) (h : Hp) (a0 : Nat) (i1 : Int32) : Prop := ∃ n : Nat, wp_M_forget_4 g post n h a0 i1 0 0
set_option maxHeartbeats 4000000 in
set_option maxRecDepth 100000 in
theorem c_M_forget (l : Launch) (g : Gm) (post : Hp → Prop) (h : Hp) (a0 : Nat) (i1 : Int32) (hw : wp_M_forget g post h a0 i1) : Met l (⟨"SegmentLocksModel", "forget", "(I)V"⟩ : MethodName) (ww (⟨"SegmentLocksModel", "forget", "(I)V"⟩ : MethodName) prog_6_method_17_code 4 none) (rmm 0 0 0 0) (va_Pc [.ref a0, .int i1] (gS g h)) (va_Qv post (gS g) (gA g)) 0 0 (gA g) := by
  first | refine en_met (by decide) ?_ | refine en_metF (by decide) ?_
  intro p e s m below meth c C0 hr hlk hin hG
  have hS : va_S (gA g) s.heap s.heap [] := va_S.rf
  have hl := lv_entry ([.ref a0, .int i1]) (n := 4) (Nat.le_of_ble_eq_true rfl)
  rw [lg_entry_eq]
  generalize (lg_sl ([.ref a0, .int i1]) ++ List.replicate (4 - (lg_sl ([.ref a0, .int i1])).length) Slot.unset).toArray = ls at hl ⊢
  replace hl : lv_has ls 4 [(0, .ref a0), (1, .int i1)] := hl
  obtain ⟨hx, hb, -, hown, hts, hgk⟩ := id C0
  unfold wp_M_forget at hw
  refine lv_iconst (v := 0) hx hb dd_M_forget_0 (by decide) ?_
  have hl0 := hl
  clear hl
  refine lv_istore_n (lv' := [(2, .int 0), (0, .ref a0), (1, .int i1)]) hx hb dd_M_forget_1 rfl hl0 (by decide) rfl (fun ls hl => ?_)
  refine lv_iconst (v := 0) hx hb dd_M_forget_2 (by decide) ?_
  have hl0 := hl
  clear hl
  refine lv_istore_n (lv' := [(3, .int 0), (2, .int 0), (0, .ref a0), (1, .int i1)]) hx hb dd_M_forget_3 rfl hl0 (by decide) rfl (fun ls hl => ?_)
  obtain ⟨n, hw⟩ := hw
  exact wk_M_forget_4 C0 hr hlk n _ _ _ _ _ _ _ _ hw hG hS (lv_sub hl [2, 3, 1, 0] rfl)
/-! SegmentLocksModel.areTogether(II)Z -/
theorem dd_M_areTogether_0 : decode prog_6_method_7_code 0 = .ok (.iload_n 0, 1) := by decide +kernel
theorem dd_M_areTogether_1 : decode prog_6_method_7_code 1 = .ok (.iload_n 1, 1) := by decide +kernel
theorem dd_M_areTogether_2 : decode prog_6_method_7_code 2 = .ok (.iadd, 1) := by decide +kernel
theorem dd_M_areTogether_3 : decode prog_6_method_7_code 3 = .ok (.iconst 2, 1) := by decide +kernel
theorem dd_M_areTogether_4 : decode prog_6_method_7_code 4 = .ok (.if_icmp .ge 7, 3) := by decide +kernel
theorem dd_M_areTogether_7 : decode prog_6_method_7_code 7 = .ok (.iconst 1, 1) := by decide +kernel
theorem dd_M_areTogether_8 : decode prog_6_method_7_code 8 = .ok (.goto 4, 3) := by decide +kernel
theorem dd_M_areTogether_11 : decode prog_6_method_7_code 11 = .ok (.iconst 0, 1) := by decide +kernel
theorem dd_M_areTogether_12 : decode prog_6_method_7_code 12 = .ok (.ireturn, 1) := by decide +kernel
def wp_M_areTogether_12 (g : Gm) (post : Int32 → Prop) (h : Hp) (s0 : Int32) : Prop := zB s0 ∧ post s0
set_option maxHeartbeats 4000000 in
set_option maxRecDepth 100000 in
theorem wk_M_areTogether_12 {p : Program} {l : Launch} {e : Env} {s : State} {m : MethodId} {args : Array Value} {below : List Frame} {meth : Method} {c : Code} {g : Gm} {post : Int32 → Prop} (C0 : Cx g p s m args c prog_6_method_7_code 2 "SegmentLocksModel") (hr : meth.sig.returnType = (some .boolean)) (hlk : meth.locks = false) : ∀ (h : Hp) (s0 : Int32) (ls : Array Slot), wp_M_areTogether_12 g post h s0 → GH g h s.heap → lv_has ls 2 [] → W p l e (rmm 0 0 0 0) s m args below meth c s.heap [] 0 0 (MQ below (vp_Si post) args s 0 0 (fun _ => False)) (F0 m 12 ls [.int s0]) := by
  obtain ⟨hx, hb, -, hown, hts, hgk⟩ := id C0
  have hS : va_S (gA g) s.heap s.heap [] := va_S.rf
  intro h s0 ls hw hG hl
  unfold wp_M_areTogether_12 at hw
  exact rs_z C0 hr hlk hw.1.nar hw.2 dd_M_areTogether_12
def wp_M_areTogether (g : Gm) (post : Int32 → Prop) (h : Hp) (i0 : Int32) (i1 : Int32) : Prop := ∀ x1 : Int32, x1 = i0 + i1 → ((2 ≤ x1 → wp_M_areTogether_12 g post h 0) ∧ (¬ 2 ≤ x1 → wp_M_areTogether_12 g post h 1))
set_option maxHeartbeats 4000000 in
set_option maxRecDepth 100000 in
theorem c_M_areTogether (l : Launch) (g : Gm) (post : Int32 → Prop) (h : Hp) (i0 : Int32) (i1 : Int32) (hw : wp_M_areTogether g post h i0 i1) : Met l (⟨"SegmentLocksModel", "areTogether", "(II)Z"⟩ : MethodName) (ww (⟨"SegmentLocksModel", "areTogether", "(II)Z"⟩ : MethodName) prog_6_method_7_code 2 (some .boolean)) (rmm 0 0 0 0) (va_Pc [.int i0, .int i1] (gS g h)) (vp_Si post) 0 0 (fun _ => False) := by
  first | refine en_met (by decide) ?_ | refine en_metF (by decide) ?_
  intro p e s m below meth c C0 hr hlk hin hG
  have hS : va_S (gA g) s.heap s.heap [] := va_S.rf
  have hl := lv_entry ([.int i0, .int i1]) (n := 2) (Nat.le_of_ble_eq_true rfl)
  rw [lg_entry_eq]
  generalize (lg_sl ([.int i0, .int i1]) ++ List.replicate (2 - (lg_sl ([.int i0, .int i1])).length) Slot.unset).toArray = ls at hl ⊢
  replace hl : lv_has ls 2 [(0, .int i0), (1, .int i1)] := hl
  obtain ⟨hx, hb, -, hown, hts, hgk⟩ := id C0
  unfold wp_M_areTogether at hw
  refine lv_iload_n hx hb dd_M_areTogether_0 rfl (lv_at hl 0 rfl) ?_
  refine lv_iload_n hx hb dd_M_areTogether_1 rfl (lv_at hl 1 rfl) ?_
  refine lv_iadd hx hb dd_M_areTogether_2 ?_
  refine lv_topi (fun x1 ex1 => ?_)
  replace hw := hw x1 ex1
  refine lv_iconst (v := 2) hx hb dd_M_areTogether_3 (by decide) ?_
  refine lv_icmp_ge (tgt := 11) hx hb dd_M_areTogether_4 (by decide) (fun c2 => ?_) (fun c2 => ?_)
  · replace hw := hw.1 c2
    refine lv_iconst (v := 0) hx hb dd_M_areTogether_11 (by decide) ?_
    exact wk_M_areTogether_12 C0 hr hlk _ _ _ hw hG (lv_sub hl [] rfl)
  · replace hw := hw.2 c2
    refine lv_iconst (v := 1) hx hb dd_M_areTogether_7 (by decide) ?_
    refine lv_goto (tgt := 12) hx hb dd_M_areTogether_8 (by decide) ?_
    exact wk_M_areTogether_12 C0 hr hlk _ _ _ hw hG (lv_sub hl [] rfl)
/-! SegmentLocksModel.isFree(III)Z -/
theorem dd_M_isFree_0 : decode prog_6_method_8_code 0 = .ok (.iconst 1, 1) := by decide +kernel
theorem dd_M_isFree_1 : decode prog_6_method_8_code 1 = .ok (.istore 4, 2) := by decide +kernel
theorem dd_M_isFree_3 : decode prog_6_method_8_code 3 = .ok (.iconst 1, 1) := by decide +kernel
theorem dd_M_isFree_4 : decode prog_6_method_8_code 4 = .ok (.istore 5, 2) := by decide +kernel
theorem dd_M_isFree_6 : decode prog_6_method_8_code 6 = .ok (.iload 5, 2) := by decide +kernel
theorem dd_M_isFree_8 : decode prog_6_method_8_code 8 = .ok (.aload_n 0, 1) := by decide +kernel
theorem dd_M_isFree_9 : decode prog_6_method_8_code 9 = .ok (.getfield 76, 3) := by decide +kernel
theorem dd_M_isFree_12 : decode prog_6_method_8_code 12 = .ok (.if_icmp .gt 60, 3) := by decide +kernel
theorem dd_M_isFree_15 : decode prog_6_method_8_code 15 = .ok (.iload 4, 2) := by decide +kernel
theorem dd_M_isFree_17 : decode prog_6_method_8_code 17 = .ok (.ifCond .eq 46, 3) := by decide +kernel
theorem dd_M_isFree_20 : decode prog_6_method_8_code 20 = .ok (.iload 5, 2) := by decide +kernel
theorem dd_M_isFree_22 : decode prog_6_method_8_code 22 = .ok (.iload_n 1, 1) := by decide +kernel
theorem dd_M_isFree_23 : decode prog_6_method_8_code 23 = .ok (.if_icmp .eq 36, 3) := by decide +kernel
theorem dd_M_isFree_26 : decode prog_6_method_8_code 26 = .ok (.aload_n 0, 1) := by decide +kernel
theorem dd_M_isFree_27 : decode prog_6_method_8_code 27 = .ok (.getfield 29, 3) := by decide +kernel
theorem dd_M_isFree_30 : decode prog_6_method_8_code 30 = .ok (.iload 5, 2) := by decide +kernel
theorem dd_M_isFree_32 : decode prog_6_method_8_code 32 = .ok (.iload_n 2, 1) := by decide +kernel
theorem dd_M_isFree_33 : decode prog_6_method_8_code 33 = .ok (.invokestatic 79, 3) := by decide +kernel
theorem dd_M_isFree_36 : decode prog_6_method_8_code 36 = .ok (.iaload, 1) := by decide +kernel
theorem dd_M_isFree_37 : decode prog_6_method_8_code 37 = .ok (.iconst (-1), 1) := by decide +kernel
theorem dd_M_isFree_38 : decode prog_6_method_8_code 38 = .ok (.if_icmp .eq 21, 3) := by decide +kernel
theorem dd_M_isFree_41 : decode prog_6_method_8_code 41 = .ok (.aload_n 0, 1) := by decide +kernel
theorem dd_M_isFree_42 : decode prog_6_method_8_code 42 = .ok (.getfield 29, 3) := by decide +kernel
theorem dd_M_isFree_45 : decode prog_6_method_8_code 45 = .ok (.iload 5, 2) := by decide +kernel
theorem dd_M_isFree_47 : decode prog_6_method_8_code 47 = .ok (.iload_n 2, 1) := by decide +kernel
theorem dd_M_isFree_48 : decode prog_6_method_8_code 48 = .ok (.invokestatic 79, 3) := by decide +kernel
theorem dd_M_isFree_51 : decode prog_6_method_8_code 51 = .ok (.iaload, 1) := by decide +kernel
theorem dd_M_isFree_52 : decode prog_6_method_8_code 52 = .ok (.iload_n 3, 1) := by decide +kernel
theorem dd_M_isFree_53 : decode prog_6_method_8_code 53 = .ok (.invokestatic 83, 3) := by decide +kernel
theorem dd_M_isFree_56 : decode prog_6_method_8_code 56 = .ok (.ifCond .eq 7, 3) := by decide +kernel
theorem dd_M_isFree_59 : decode prog_6_method_8_code 59 = .ok (.iconst 1, 1) := by decide +kernel
theorem dd_M_isFree_60 : decode prog_6_method_8_code 60 = .ok (.goto 4, 3) := by decide +kernel
theorem dd_M_isFree_63 : decode prog_6_method_8_code 63 = .ok (.iconst 0, 1) := by decide +kernel
theorem dd_M_isFree_64 : decode prog_6_method_8_code 64 = .ok (.istore 4, 2) := by decide +kernel
theorem dd_M_isFree_66 : decode prog_6_method_8_code 66 = .ok (.iinc 5 1, 3) := by decide +kernel
theorem dd_M_isFree_69 : decode prog_6_method_8_code 69 = .ok (.goto (-63), 3) := by decide +kernel
theorem dd_M_isFree_72 : decode prog_6_method_8_code 72 = .ok (.iload 4, 2) := by decide +kernel
theorem dd_M_isFree_74 : decode prog_6_method_8_code 74 = .ok (.ireturn, 1) := by decide +kernel
def wp_M_isFree_64 (g : Gm) (post : Int32 → Prop) (K6 : Hp → Nat → Int32 → Int32 → Int32 → Int32 → Int32 → Prop) (h : Hp) (v0 : Nat) (v1 : Int32) (v2 : Int32) (v3 : Int32) (v5 : Int32) (s0 : Int32) : Prop := ∀ x1 : Int32, x1 = v5 + 1 → K6 h v0 v1 v2 v3 s0 x1
set_option maxHeartbeats 4000000 in
set_option maxRecDepth 100000 in
theorem wk_M_isFree_64 {p : Program} {l : Launch} {e : Env} {s : State} {m : MethodId} {args : Array Value} {below : List Frame} {meth : Method} {c : Code} {g : Gm} {post : Int32 → Prop} (C0 : Cx g p s m args c prog_6_method_8_code 6 "SegmentLocksModel") (hr : meth.sig.returnType = (some .boolean)) (hlk : meth.locks = false) {K6 : Hp → Nat → Int32 → Int32 → Int32 → Int32 → Int32 → Prop} (hK6 : ∀ (h : Hp) (v0 : Nat) (v1 : Int32) (v2 : Int32) (v3 : Int32) (v4 : Int32) (v5 : Int32) (ls : Array Slot), K6 h v0 v1 v2 v3 v4 v5 → GH g h s.heap → lv_has ls 6 [(0, .ref v0), (1, .int v1), (2, .int v2), (3, .int v3), (4, .int v4), (5, .int v5)] → W p l e (rmm 1 21 0 0) s m args below meth c s.heap [] 0 0 (MQ below (vp_Si post) args s 0 0 (fun _ => False)) (F0 m 6 ls [])) : ∀ (h : Hp) (v0 : Nat) (v1 : Int32) (v2 : Int32) (v3 : Int32) (v5 : Int32) (s0 : Int32) (ls : Array Slot), wp_M_isFree_64 g post K6 h v0 v1 v2 v3 v5 s0 → GH g h s.heap → lv_has ls 6 [(0, .ref v0), (1, .int v1), (2, .int v2), (3, .int v3), (5, .int v5)] → W p l e (rmm 1 21 0 0) s m args below meth c s.heap [] 0 0 (MQ below (vp_Si post) args s 0 0 (fun _ => False)) (F0 m 64 ls [.int s0]) := by
  obtain ⟨hx, hb, -, hown, hts, hgk⟩ := id C0
  have hS : va_S (gA g) s.heap s.heap [] := va_S.rf
  intro h v0 v1 v2 v3 v5 s0 ls hw hG hl
  unfold wp_M_isFree_64 at hw
  have hl0 := hl
  clear hl
  refine lv_istore (lv' := [(4, .int s0), (0, .ref v0), (1, .int v1), (2, .int v2), (3, .int v3), (5, .int v5)]) hx hb dd_M_isFree_64 hl0 (by decide) rfl (fun ls hl => ?_)
  obtain ⟨x1, ex1⟩ : ∃ y : Int32, y = v5 + 1 := ⟨_, rfl⟩
  replace hw := hw x1 ex1
  have hl0 := hl
  clear hl
  refine lv_iinc (v := x1) (lv' := [(5, .int x1), (4, .int s0), (0, .ref v0), (1, .int v1), (2, .int v2), (3, .int v3)]) hx hb dd_M_isFree_66 hl0 (k := 5) rfl (by rw [ex1]; rfl) (by decide) rfl (fun ls hl => ?_)
  refine lv_goto (tgt := 6) hx hb dd_M_isFree_69 (by decide) ?_
  exact hK6 _ _ _ _ _ _ _ _ hw hG (lv_sub hl [2, 3, 4, 5, 1, 0] rfl)
def wp_M_isFree_63 (g : Gm) (post : Int32 → Prop) (K6 : Hp → Nat → Int32 → Int32 → Int32 → Int32 → Int32 → Prop) (h : Hp) (v0 : Nat) (v1 : Int32) (v2 : Int32) (v3 : Int32) (v5 : Int32) : Prop := wp_M_isFree_64 g post K6 h v0 v1 v2 v3 v5 0
set_option maxHeartbeats 4000000 in
set_option maxRecDepth 100000 in
theorem wk_M_isFree_63 {p : Program} {l : Launch} {e : Env} {s : State} {m : MethodId} {args : Array Value} {below : List Frame} {meth : Method} {c : Code} {g : Gm} {post : Int32 → Prop} (C0 : Cx g p s m args c prog_6_method_8_code 6 "SegmentLocksModel") (hr : meth.sig.returnType = (some .boolean)) (hlk : meth.locks = false) {K6 : Hp → Nat → Int32 → Int32 → Int32 → Int32 → Int32 → Prop} (hK6 : ∀ (h : Hp) (v0 : Nat) (v1 : Int32) (v2 : Int32) (v3 : Int32) (v4 : Int32) (v5 : Int32) (ls : Array Slot), K6 h v0 v1 v2 v3 v4 v5 → GH g h s.heap → lv_has ls 6 [(0, .ref v0), (1, .int v1), (2, .int v2), (3, .int v3), (4, .int v4), (5, .int v5)] → W p l e (rmm 1 21 0 0) s m args below meth c s.heap [] 0 0 (MQ below (vp_Si post) args s 0 0 (fun _ => False)) (F0 m 6 ls [])) : ∀ (h : Hp) (v0 : Nat) (v1 : Int32) (v2 : Int32) (v3 : Int32) (v5 : Int32) (ls : Array Slot), wp_M_isFree_63 g post K6 h v0 v1 v2 v3 v5 → GH g h s.heap → lv_has ls 6 [(0, .ref v0), (1, .int v1), (2, .int v2), (3, .int v3), (5, .int v5)] → W p l e (rmm 1 21 0 0) s m args below meth c s.heap [] 0 0 (MQ below (vp_Si post) args s 0 0 (fun _ => False)) (F0 m 63 ls []) := by
  obtain ⟨hx, hb, -, hown, hts, hgk⟩ := id C0
  have hS : va_S (gA g) s.heap s.heap [] := va_S.rf
  intro h v0 v1 v2 v3 v5 ls hw hG hl
  unfold wp_M_isFree_63 at hw
  refine lv_iconst (v := 0) hx hb dd_M_isFree_63 (by decide) ?_
  exact wk_M_isFree_64 C0 hr hlk hK6 _ _ _ _ _ _ _ _ hw hG (lv_sub hl [0, 1, 2, 3, 4] rfl)
def wp_M_isFree_59 (g : Gm) (post : Int32 → Prop) (K6 : Hp → Nat → Int32 → Int32 → Int32 → Int32 → Int32 → Prop) (h : Hp) (v0 : Nat) (v1 : Int32) (v2 : Int32) (v3 : Int32) (v5 : Int32) : Prop := wp_M_isFree_64 g post K6 h v0 v1 v2 v3 v5 1
set_option maxHeartbeats 4000000 in
set_option maxRecDepth 100000 in
theorem wk_M_isFree_59 {p : Program} {l : Launch} {e : Env} {s : State} {m : MethodId} {args : Array Value} {below : List Frame} {meth : Method} {c : Code} {g : Gm} {post : Int32 → Prop} (C0 : Cx g p s m args c prog_6_method_8_code 6 "SegmentLocksModel") (hr : meth.sig.returnType = (some .boolean)) (hlk : meth.locks = false) {K6 : Hp → Nat → Int32 → Int32 → Int32 → Int32 → Int32 → Prop} (hK6 : ∀ (h : Hp) (v0 : Nat) (v1 : Int32) (v2 : Int32) (v3 : Int32) (v4 : Int32) (v5 : Int32) (ls : Array Slot), K6 h v0 v1 v2 v3 v4 v5 → GH g h s.heap → lv_has ls 6 [(0, .ref v0), (1, .int v1), (2, .int v2), (3, .int v3), (4, .int v4), (5, .int v5)] → W p l e (rmm 1 21 0 0) s m args below meth c s.heap [] 0 0 (MQ below (vp_Si post) args s 0 0 (fun _ => False)) (F0 m 6 ls [])) : ∀ (h : Hp) (v0 : Nat) (v1 : Int32) (v2 : Int32) (v3 : Int32) (v5 : Int32) (ls : Array Slot), wp_M_isFree_59 g post K6 h v0 v1 v2 v3 v5 → GH g h s.heap → lv_has ls 6 [(0, .ref v0), (1, .int v1), (2, .int v2), (3, .int v3), (5, .int v5)] → W p l e (rmm 1 21 0 0) s m args below meth c s.heap [] 0 0 (MQ below (vp_Si post) args s 0 0 (fun _ => False)) (F0 m 59 ls []) := by
  obtain ⟨hx, hb, -, hown, hts, hgk⟩ := id C0
  have hS : va_S (gA g) s.heap s.heap [] := va_S.rf
  intro h v0 v1 v2 v3 v5 ls hw hG hl
  unfold wp_M_isFree_59 at hw
  refine lv_iconst (v := 1) hx hb dd_M_isFree_59 (by decide) ?_
  refine lv_goto (tgt := 64) hx hb dd_M_isFree_60 (by decide) ?_
  exact wk_M_isFree_64 C0 hr hlk hK6 _ _ _ _ _ _ _ _ hw hG (lv_sub hl [0, 1, 2, 3, 4] rfl)
def wp_M_isFree_6 (g : Gm) (post : Int32 → Prop) : Nat → Hp → Nat → Int32 → Int32 → Int32 → Int32 → Int32 → Prop
  | 0, _, _, _, _, _, _, _ => False
  | fu + 1, h, v0, v1, v2, v3, v4, v5 => hK h v0 = 5 ∧ (((hI h v0 2) < v5 → zB v4 ∧ post v4) ∧ (¬ (hI h v0 2) < v5 → ((v4 = 0 → wp_M_isFree_63 g post (fun h v0 v1 v2 v3 v4 v5 => wp_M_isFree_6 g post fu h v0 v1 v2 v3 v4 v5) h v0 v1 v2 v3 v5) ∧ (¬ v4 = 0 → ((v5 = v1 → wp_M_isFree_59 g post (fun h v0 v1 v2 v3 v4 v5 => wp_M_isFree_6 g post fu h v0 v1 v2 v3 v4 v5) h v0 v1 v2 v3 v5) ∧ (¬ v5 = v1 → hK h v0 = 5 ∧ ∃ a6 : Nat, hR h v0 9 = some a6 ∧ wp_M_of g (fun x9 => hK h a6 = 21 ∧ vp_in x9 (hN h a6) ∧ (((hI h a6 x9.toNatClampNeg) = (-1) → wp_M_isFree_59 g post (fun h v0 v1 v2 v3 v4 v5 => wp_M_isFree_6 g post fu h v0 v1 v2 v3 v4 v5) h v0 v1 v2 v3 v5) ∧ (¬ (hI h a6 x9.toNatClampNeg) = (-1) → hK h v0 = 5 ∧ ∃ a13 : Nat, hR h v0 9 = some a13 ∧ wp_M_of g (fun x16 => hK h a13 = 21 ∧ vp_in x16 (hN h a13) ∧ wp_M_areTogether g (fun x20 => ((x20 = 0 → wp_M_isFree_63 g post (fun h v0 v1 v2 v3 v4 v5 => wp_M_isFree_6 g post fu h v0 v1 v2 v3 v4 v5) h v0 v1 v2 v3 v5) ∧ (¬ x20 = 0 → wp_M_isFree_59 g post (fun h v0 v1 v2 v3 v4 v5 => wp_M_isFree_6 g post fu h v0 v1 v2 v3 v4 v5) h v0 v1 v2 v3 v5))) h (hI h a13 x16.toNatClampNeg) v3) h v5 v2))) h v5 v2))))))
set_option maxHeartbeats 4000000 in
set_option maxRecDepth 100000 in
theorem wk_M_isFree_6 {p : Program} {l : Launch} {e : Env} {s : State} {m : MethodId} {args : Array Value} {below : List Frame} {meth : Method} {c : Code} {g : Gm} {post : Int32 → Prop} (C0 : Cx g p s m args c prog_6_method_8_code 6 "SegmentLocksModel") (hr : meth.sig.returnType = (some .boolean)) (hlk : meth.locks = false) : ∀ n : Nat, ∀ (h : Hp) (v0 : Nat) (v1 : Int32) (v2 : Int32) (v3 : Int32) (v4 : Int32) (v5 : Int32) (ls : Array Slot), wp_M_isFree_6 g post n h v0 v1 v2 v3 v4 v5 → GH g h s.heap → lv_has ls 6 [(0, .ref v0), (1, .int v1), (2, .int v2), (3, .int v3), (4, .int v4), (5, .int v5)] → W p l e (rmm 1 21 0 0) s m args below meth c s.heap [] 0 0 (MQ below (vp_Si post) args s 0 0 (fun _ => False)) (F0 m 6 ls []) := by
  obtain ⟨hx, hb, -, hown, hts, hgk⟩ := id C0
  have hS : va_S (gA g) s.heap s.heap [] := va_S.rf
  intro n
  induction n with
  | zero =>
    intro h v0 v1 v2 v3 v4 v5 ls hw hG hl
    exact hw.elim
  | succ n ih =>
    intro h v0 v1 v2 v3 v4 v5 ls hw hG hl
    unfold wp_M_isFree_6 at hw
    refine lv_iload hx hb dd_M_isFree_6 (lv_at hl 5 rfl) ?_
    refine lv_aload_n hx hb dd_M_isFree_8 rfl (lv_at hl 0 rfl) ?_
    obtain ⟨k1, hw⟩ := hw
    refine gf_M_76 C0 hG k1 dd_M_isFree_9 ?_
    refine lv_icmp_gt (tgt := 72) hx hb dd_M_isFree_12 (by decide) (fun c2 => ?_) (fun c2 => ?_)
    · replace hw := hw.1 c2
      refine lv_iload hx hb dd_M_isFree_72 (lv_at hl 4 rfl) ?_
      exact rs_z C0 hr hlk hw.1.nar hw.2 dd_M_isFree_74
    · replace hw := hw.2 c2
      refine lv_iload hx hb dd_M_isFree_15 (lv_at hl 4 rfl) ?_
      refine lv_if_eq (tgt := 63) hx hb dd_M_isFree_17 (by decide) (fun c3 => ?_) (fun c3 => ?_)
      · replace hw := hw.1 c3
        exact wk_M_isFree_63 C0 hr hlk ih _ _ _ _ _ _ _ hw hG (lv_sub hl [0, 1, 2, 3, 5] rfl)
      · replace hw := hw.2 c3
        refine lv_iload hx hb dd_M_isFree_20 (lv_at hl 5 rfl) ?_
        refine lv_iload_n hx hb dd_M_isFree_22 rfl (lv_at hl 1 rfl) ?_
        refine lv_icmp_eq (tgt := 59) hx hb dd_M_isFree_23 (by decide) (fun c4 => ?_) (fun c4 => ?_)
        · replace hw := hw.1 c4
          exact wk_M_isFree_59 C0 hr hlk ih _ _ _ _ _ _ _ hw hG (lv_sub hl [0, 1, 2, 3, 5] rfl)
        · replace hw := hw.2 c4
          refine lv_aload_n hx hb dd_M_isFree_26 rfl (lv_at hl 0 rfl) ?_
          obtain ⟨k5, a6, ea6, hw⟩ := hw
          refine gf_M_29 C0 hG k5 ea6 dd_M_isFree_27 ?_
          refine lv_iload hx hb dd_M_isFree_30 (lv_at hl 5 rfl) ?_
          refine lv_iload_n hx hb dd_M_isFree_32 rfl (lv_at hl 2 rfl) ?_
          have hw0 := hw
          clear hw
          refine cs_i (rn_S C0 hG hS (c_M_of l g _ h v5 v2 hw0) (host := "") (nest := false) (n := 2) (As := [.int v5, .int v2]) (rest := [.ref a6]) km_420 km_419 km_422 km_421 ⟨by decide, by decide, by decide +kernel⟩ ⟨Nat.le_of_ble_eq_true rfl, Nat.le_of_ble_eq_true rfl⟩ rfl hl.1 rfl (Nat.le_of_ble_eq_true rfl) dd_M_isFree_33 ⟨Nat.le_refl _, Nat.le_refl _⟩) (fun x9 hw => ?_)
          obtain ⟨k10, k10i, hw⟩ := hw
          refine px_iald C0 hG k10 k10i dd_M_isFree_36 ?_
          refine lv_iconst (v := (-1)) hx hb dd_M_isFree_37 (by decide) ?_
          refine lv_icmp_eq (tgt := 59) hx hb dd_M_isFree_38 (by decide) (fun c11 => ?_) (fun c11 => ?_)
          · replace hw := hw.1 c11
            exact wk_M_isFree_59 C0 hr hlk ih _ _ _ _ _ _ _ hw hG (lv_sub hl [0, 1, 2, 3, 5] rfl)
          · replace hw := hw.2 c11
            refine lv_aload_n hx hb dd_M_isFree_41 rfl (lv_at hl 0 rfl) ?_
            obtain ⟨k12, a13, ea13, hw⟩ := hw
            refine gf_M_29 C0 hG k12 ea13 dd_M_isFree_42 ?_
            refine lv_iload hx hb dd_M_isFree_45 (lv_at hl 5 rfl) ?_
            refine lv_iload_n hx hb dd_M_isFree_47 rfl (lv_at hl 2 rfl) ?_
            have hw0 := hw
            clear hw
            refine cs_i (rn_S C0 hG hS (c_M_of l g _ h v5 v2 hw0) (host := "") (nest := false) (n := 2) (As := [.int v5, .int v2]) (rest := [.ref a13]) km_420 km_419 km_422 km_421 ⟨by decide, by decide, by decide +kernel⟩ ⟨Nat.le_of_ble_eq_true rfl, Nat.le_of_ble_eq_true rfl⟩ rfl hl.1 rfl (Nat.le_of_ble_eq_true rfl) dd_M_isFree_48 ⟨Nat.le_refl _, Nat.le_refl _⟩) (fun x16 hw => ?_)
            obtain ⟨k17, k17i, hw⟩ := hw
            refine px_iald C0 hG k17 k17i dd_M_isFree_51 ?_
            refine lv_iload_n hx hb dd_M_isFree_52 rfl (lv_at hl 3 rfl) ?_
            have hw0 := hw
            clear hw
            refine cs_i (rn_S C0 hG hS (c_M_areTogether l g _ h (hI h a13 x16.toNatClampNeg) v3 hw0) (host := "") (nest := false) (n := 2) (As := [.int (hI h a13 x16.toNatClampNeg), .int v3]) (rest := []) km_429 km_428 km_430 km_421 ⟨by decide, by decide, by decide +kernel⟩ ⟨Nat.le_of_ble_eq_true rfl, Nat.le_of_ble_eq_true rfl⟩ rfl hl.1 rfl (Nat.le_of_ble_eq_true rfl) dd_M_isFree_53 ⟨Nat.le_refl _, Nat.le_refl _⟩) (fun x20 hw => ?_)
            refine lv_if_eq (tgt := 63) hx hb dd_M_isFree_56 (by decide) (fun c21 => ?_) (fun c21 => ?_)
            · replace hw := hw.1 c21
              exact wk_M_isFree_63 C0 hr hlk ih _ _ _ _ _ _ _ hw hG (lv_sub hl [0, 1, 2, 3, 5] rfl)
            · replace hw := hw.2 c21
              exact wk_M_isFree_59 C0 hr hlk ih _ _ _ _ _ _ _ hw hG (lv_sub hl [0, 1, 2, 3, 5] rfl)
def wp_M_isFree (g : Gm) (post : Int32 → Prop) (h : Hp) (a0 : Nat) (i1 : Int32) (i2 : Int32) (i3 : Int32) : Prop := ∃ n : Nat, wp_M_isFree_6 g post n h a0 i1 i2 i3 1 1
set_option maxHeartbeats 4000000 in
set_option maxRecDepth 100000 in
theorem c_M_isFree (l : Launch) (g : Gm) (post : Int32 → Prop) (h : Hp) (a0 : Nat) (i1 : Int32) (i2 : Int32) (i3 : Int32) (hw : wp_M_isFree g post h a0 i1 i2 i3) : Met l (⟨"SegmentLocksModel", "isFree", "(III)Z"⟩ : MethodName) (ww (⟨"SegmentLocksModel", "isFree", "(III)Z"⟩ : MethodName) prog_6_method_8_code 6 (some .boolean)) (rmm 1 21 0 0) (va_Pc [.ref a0, .int i1, .int i2, .int i3] (gS g h)) (vp_Si post) 0 0 (fun _ => False) := by
  first | refine en_met (by decide) ?_ | refine en_metF (by decide) ?_
  intro p e s m below meth c C0 hr hlk hin hG
  have hS : va_S (gA g) s.heap s.heap [] := va_S.rf
  have hl := lv_entry ([.ref a0, .int i1, .int i2, .int i3]) (n := 6) (Nat.le_of_ble_eq_true rfl)
  rw [lg_entry_eq]
  generalize (lg_sl ([.ref a0, .int i1, .int i2, .int i3]) ++ List.replicate (6 - (lg_sl ([.ref a0, .int i1, .int i2, .int i3])).length) Slot.unset).toArray = ls at hl ⊢
  replace hl : lv_has ls 6 [(0, .ref a0), (1, .int i1), (2, .int i2), (3, .int i3)] := hl
  obtain ⟨hx, hb, -, hown, hts, hgk⟩ := id C0
  unfold wp_M_isFree at hw
  refine lv_iconst (v := 1) hx hb dd_M_isFree_0 (by decide) ?_
  have hl0 := hl
  clear hl
  refine lv_istore (lv' := [(4, .int 1), (0, .ref a0), (1, .int i1), (2, .int i2), (3, .int i3)]) hx hb dd_M_isFree_1 hl0 (by decide) rfl (fun ls hl => ?_)
  refine lv_iconst (v := 1) hx hb dd_M_isFree_3 (by decide) ?_
  have hl0 := hl
  clear hl
  refine lv_istore (lv' := [(5, .int 1), (4, .int 1), (0, .ref a0), (1, .int i1), (2, .int i2), (3, .int i3)]) hx hb dd_M_isFree_4 hl0 (by decide) rfl (fun ls hl => ?_)
  obtain ⟨n, hw⟩ := hw
  exact wk_M_isFree_6 C0 hr hlk n _ _ _ _ _ _ _ _ hw hG (lv_sub hl [2, 3, 4, 5, 1, 0] rfl)
/-! SegmentLocksModel.grant()V -/
theorem dd_M_grant_0 : decode prog_6_method_15_code 0 = .ok (.iconst 0, 1) := by decide +kernel
theorem dd_M_grant_1 : decode prog_6_method_15_code 1 = .ok (.istore_n 1, 1) := by decide +kernel
theorem dd_M_grant_2 : decode prog_6_method_15_code 2 = .ok (.iload_n 1, 1) := by decide +kernel
theorem dd_M_grant_3 : decode prog_6_method_15_code 3 = .ok (.bipush 50, 2) := by decide +kernel
theorem dd_M_grant_5 : decode prog_6_method_15_code 5 = .ok (.if_icmp .ge 90, 3) := by decide +kernel
theorem dd_M_grant_8 : decode prog_6_method_15_code 8 = .ok (.aload_n 0, 1) := by decide +kernel
theorem dd_M_grant_9 : decode prog_6_method_15_code 9 = .ok (.getfield 48, 3) := by decide +kernel
theorem dd_M_grant_12 : decode prog_6_method_15_code 12 = .ok (.iload_n 1, 1) := by decide +kernel
theorem dd_M_grant_13 : decode prog_6_method_15_code 13 = .ok (.iaload, 1) := by decide +kernel
theorem dd_M_grant_14 : decode prog_6_method_15_code 14 = .ok (.ifCond .le 75, 3) := by decide +kernel
theorem dd_M_grant_17 : decode prog_6_method_15_code 17 = .ok (.aload_n 0, 1) := by decide +kernel
theorem dd_M_grant_18 : decode prog_6_method_15_code 18 = .ok (.aload_n 0, 1) := by decide +kernel
theorem dd_M_grant_19 : decode prog_6_method_15_code 19 = .ok (.getfield 45, 3) := by decide +kernel
theorem dd_M_grant_22 : decode prog_6_method_15_code 22 = .ok (.bipush 31, 2) := by decide +kernel
theorem dd_M_grant_24 : decode prog_6_method_15_code 24 = .ok (.iload_n 1, 1) := by decide +kernel
theorem dd_M_grant_25 : decode prog_6_method_15_code 25 = .ok (.imul, 1) := by decide +kernel
theorem dd_M_grant_26 : decode prog_6_method_15_code 26 = .ok (.iaload, 1) := by decide +kernel
theorem dd_M_grant_27 : decode prog_6_method_15_code 27 = .ok (.iload_n 1, 1) := by decide +kernel
theorem dd_M_grant_28 : decode prog_6_method_15_code 28 = .ok (.aload_n 0, 1) := by decide +kernel
theorem dd_M_grant_29 : decode prog_6_method_15_code 29 = .ok (.getfield 26, 3) := by decide +kernel
theorem dd_M_grant_32 : decode prog_6_method_15_code 32 = .ok (.aload_n 0, 1) := by decide +kernel
theorem dd_M_grant_33 : decode prog_6_method_15_code 33 = .ok (.getfield 45, 3) := by decide +kernel
theorem dd_M_grant_36 : decode prog_6_method_15_code 36 = .ok (.bipush 31, 2) := by decide +kernel
theorem dd_M_grant_38 : decode prog_6_method_15_code 38 = .ok (.iload_n 1, 1) := by decide +kernel
theorem dd_M_grant_39 : decode prog_6_method_15_code 39 = .ok (.imul, 1) := by decide +kernel
theorem dd_M_grant_40 : decode prog_6_method_15_code 40 = .ok (.iaload, 1) := by decide +kernel
theorem dd_M_grant_41 : decode prog_6_method_15_code 41 = .ok (.iaload, 1) := by decide +kernel
theorem dd_M_grant_42 : decode prog_6_method_15_code 42 = .ok (.invokevirtual 90, 3) := by decide +kernel
theorem dd_M_grant_45 : decode prog_6_method_15_code 45 = .ok (.ifCond .eq 44, 3) := by decide +kernel
theorem dd_M_grant_48 : decode prog_6_method_15_code 48 = .ok (.aload_n 0, 1) := by decide +kernel
theorem dd_M_grant_49 : decode prog_6_method_15_code 49 = .ok (.getfield 45, 3) := by decide +kernel
theorem dd_M_grant_52 : decode prog_6_method_15_code 52 = .ok (.bipush 31, 2) := by decide +kernel
theorem dd_M_grant_54 : decode prog_6_method_15_code 54 = .ok (.iload_n 1, 1) := by decide +kernel
theorem dd_M_grant_55 : decode prog_6_method_15_code 55 = .ok (.imul, 1) := by decide +kernel
theorem dd_M_grant_56 : decode prog_6_method_15_code 56 = .ok (.iaload, 1) := by decide +kernel
theorem dd_M_grant_57 : decode prog_6_method_15_code 57 = .ok (.istore_n 2, 1) := by decide +kernel
theorem dd_M_grant_58 : decode prog_6_method_15_code 58 = .ok (.aload_n 0, 1) := by decide +kernel
theorem dd_M_grant_59 : decode prog_6_method_15_code 59 = .ok (.iload_n 2, 1) := by decide +kernel
theorem dd_M_grant_60 : decode prog_6_method_15_code 60 = .ok (.invokevirtual 94, 3) := by decide +kernel
theorem dd_M_grant_63 : decode prog_6_method_15_code 63 = .ok (.aload_n 0, 1) := by decide +kernel
theorem dd_M_grant_64 : decode prog_6_method_15_code 64 = .ok (.getfield 29, 3) := by decide +kernel
theorem dd_M_grant_67 : decode prog_6_method_15_code 67 = .ok (.iload_n 2, 1) := by decide +kernel
theorem dd_M_grant_68 : decode prog_6_method_15_code 68 = .ok (.iload_n 1, 1) := by decide +kernel
theorem dd_M_grant_69 : decode prog_6_method_15_code 69 = .ok (.invokestatic 79, 3) := by decide +kernel
theorem dd_M_grant_72 : decode prog_6_method_15_code 72 = .ok (.aload_n 0, 1) := by decide +kernel
theorem dd_M_grant_73 : decode prog_6_method_15_code 73 = .ok (.getfield 26, 3) := by decide +kernel
theorem dd_M_grant_76 : decode prog_6_method_15_code 76 = .ok (.iload_n 2, 1) := by decide +kernel
theorem dd_M_grant_77 : decode prog_6_method_15_code 77 = .ok (.iaload, 1) := by decide +kernel
theorem dd_M_grant_78 : decode prog_6_method_15_code 78 = .ok (.iastore, 1) := by decide +kernel
theorem dd_M_grant_79 : decode prog_6_method_15_code 79 = .ok (.aload_n 0, 1) := by decide +kernel
theorem dd_M_grant_80 : decode prog_6_method_15_code 80 = .ok (.getfield 17, 3) := by decide +kernel
theorem dd_M_grant_83 : decode prog_6_method_15_code 83 = .ok (.iload_n 2, 1) := by decide +kernel
theorem dd_M_grant_84 : decode prog_6_method_15_code 84 = .ok (.iconst 0, 1) := by decide +kernel
theorem dd_M_grant_85 : decode prog_6_method_15_code 85 = .ok (.iastore, 1) := by decide +kernel
theorem dd_M_grant_86 : decode prog_6_method_15_code 86 = .ok (.goto (-78), 3) := by decide +kernel
theorem dd_M_grant_89 : decode prog_6_method_15_code 89 = .ok (.iinc 1 1, 3) := by decide +kernel
theorem dd_M_grant_92 : decode prog_6_method_15_code 92 = .ok (.goto (-90), 3) := by decide +kernel
theorem dd_M_grant_95 : decode prog_6_method_15_code 95 = .ok (.return_, 1) := by decide +kernel
def wp_M_grant_89 (g : Gm) (post : Hp → Prop) (K2 : Hp → Nat → Int32 → Prop) (h : Hp) (v0 : Nat) (v1 : Int32) : Prop := ∀ x1 : Int32, x1 = v1 + 1 → K2 h v0 x1
set_option maxHeartbeats 4000000 in
set_option maxRecDepth 100000 in
theorem wk_M_grant_89 {p : Program} {l : Launch} {e : Env} {s : State} {m : MethodId} {args : Array Value} {below : List Frame} {meth : Method} {c : Code} {g : Gm} {post : Hp → Prop} (C0 : Cx g p s m args c prog_6_method_15_code 3 "SegmentLocksModel") (hr : meth.sig.returnType = none) (hlk : meth.locks = false) {K2 : Hp → Nat → Int32 → Prop} (hK2 : ∀ (h : Hp) (v0 : Nat) (v1 : Int32) (H : Heap) (locs : List Loc) (ls : Array Slot), K2 h v0 v1 → GH g h H → va_S (gA g) s.heap H locs → lv_has ls 3 [(0, .ref v0), (1, .int v1)] → W p l e (rmm 2 46 0 0) s m args below meth c H locs 0 0 (MQ below (va_Qv post (gS g) (gA g)) args s 0 0 (gA g)) (F0 m 2 ls [])) : ∀ (h : Hp) (v0 : Nat) (v1 : Int32) (H : Heap) (locs : List Loc) (ls : Array Slot), wp_M_grant_89 g post K2 h v0 v1 → GH g h H → va_S (gA g) s.heap H locs → lv_has ls 3 [(0, .ref v0), (1, .int v1)] → W p l e (rmm 2 46 0 0) s m args below meth c H locs 0 0 (MQ below (va_Qv post (gS g) (gA g)) args s 0 0 (gA g)) (F0 m 89 ls []) := by
  obtain ⟨hx, hb, -, hown, hts, hgk⟩ := id C0
  intro h v0 v1 H locs ls hw hG hS hl
  unfold wp_M_grant_89 at hw
  obtain ⟨x1, ex1⟩ : ∃ y : Int32, y = v1 + 1 := ⟨_, rfl⟩
  replace hw := hw x1 ex1
  have hl0 := hl
  clear hl
  refine lv_iinc (v := x1) (lv' := [(1, .int x1), (0, .ref v0)]) hx hb dd_M_grant_89 hl0 (k := 1) rfl (by rw [ex1]; rfl) (by decide) rfl (fun ls hl => ?_)
  refine lv_goto (tgt := 2) hx hb dd_M_grant_92 (by decide) ?_
  exact hK2 _ _ _ _ _ _ hw hG hS (lv_sub hl [1, 0] rfl)
def wp_M_grant_8 (g : Gm) (post : Hp → Prop) (K2 : Hp → Nat → Int32 → Prop) : Nat → Hp → Nat → Int32 → Prop
  | 0, _, _, _ => False
  | fu + 1, h, v0, v1 => hK h v0 = 5 ∧ ∃ a2 : Nat, hR h v0 16 = some a2 ∧ hK h a2 = 21 ∧ vp_in v1 (hN h a2) ∧ (((hI h a2 v1.toNatClampNeg) ≤ 0 → wp_M_grant_89 g post K2 h v0 v1) ∧ (¬ (hI h a2 v1.toNatClampNeg) ≤ 0 → hK h v0 = 5 ∧ ∃ a6 : Nat, hR h v0 15 = some a6 ∧ ∀ x7 : Int32, x7 = 31 * v1 → hK h a6 = 21 ∧ vp_in x7 (hN h a6) ∧ hK h v0 = 5 ∧ ∃ a10 : Nat, hR h v0 8 = some a10 ∧ hK h v0 = 5 ∧ ∃ a12 : Nat, hR h v0 15 = some a12 ∧ ∀ x13 : Int32, x13 = 31 * v1 → hK h a12 = 21 ∧ vp_in x13 (hN h a12) ∧ hK h a10 = 21 ∧ vp_in (hI h a12 x13.toNatClampNeg) (hN h a10) ∧ hK h v0 = 5 ∧ wp_M_isFree g (fun x18 => ((x18 = 0 → wp_M_grant_89 g post K2 h v0 v1) ∧ (¬ x18 = 0 → hK h v0 = 5 ∧ ∃ a21 : Nat, hR h v0 15 = some a21 ∧ ∀ x22 : Int32, x22 = 31 * v1 → hK h a21 = 21 ∧ vp_in x22 (hN h a21) ∧ hK h v0 = 5 ∧ wp_M_unwait g (fun h25 => hK h25 v0 = 5 ∧ ∃ a27 : Nat, hR h25 v0 9 = some a27 ∧ wp_M_of g (fun x30 => hK h25 v0 = 5 ∧ ∃ a32 : Nat, hR h25 v0 8 = some a32 ∧ hK h25 a32 = 21 ∧ vp_in (hI h a21 x22.toNatClampNeg) (hN h25 a32) ∧ hK h25 a27 = 21 ∧ vp_in x30 (hN h25 a27) ∧ ∀ h35 : Hp, h35 = sI h25 a27 x30.toNatClampNeg (hI h25 a32 (hI h a21 x22.toNatClampNeg).toNatClampNeg) → hK h35 v0 = 5 ∧ ∃ a37 : Nat, hR h35 v0 5 = some a37 ∧ hK h35 a37 = 21 ∧ vp_in (hI h a21 x22.toNatClampNeg) (hN h35 a37) ∧ ∀ h39 : Hp, h39 = sI h35 a37 (hI h a21 x22.toNatClampNeg).toNatClampNeg 0 → wp_M_grant_8 g post K2 fu h39 v0 v1) h25 (hI h a21 x22.toNatClampNeg) v1) h v0 (hI h a21 x22.toNatClampNeg)))) h v0 (hI h a6 x7.toNatClampNeg) v1 (hI h a10 (hI h a12 x13.toNatClampNeg).toNatClampNeg)))
set_option maxHeartbeats 4000000 in
set_option maxRecDepth 100000 in
theorem wk_M_grant_8 {p : Program} {l : Launch} {e : Env} {s : State} {m : MethodId} {args : Array Value} {below : List Frame} {meth : Method} {c : Code} {g : Gm} {post : Hp → Prop} (C0 : Cx g p s m args c prog_6_method_15_code 3 "SegmentLocksModel") (hr : meth.sig.returnType = none) (hlk : meth.locks = false) {K2 : Hp → Nat → Int32 → Prop} (hK2 : ∀ (h : Hp) (v0 : Nat) (v1 : Int32) (H : Heap) (locs : List Loc) (ls : Array Slot), K2 h v0 v1 → GH g h H → va_S (gA g) s.heap H locs → lv_has ls 3 [(0, .ref v0), (1, .int v1)] → W p l e (rmm 2 46 0 0) s m args below meth c H locs 0 0 (MQ below (va_Qv post (gS g) (gA g)) args s 0 0 (gA g)) (F0 m 2 ls [])) : ∀ n : Nat, ∀ (h : Hp) (v0 : Nat) (v1 : Int32) (H : Heap) (locs : List Loc) (ls : Array Slot), wp_M_grant_8 g post K2 n h v0 v1 → GH g h H → va_S (gA g) s.heap H locs → lv_has ls 3 [(0, .ref v0), (1, .int v1)] → W p l e (rmm 2 46 0 0) s m args below meth c H locs 0 0 (MQ below (va_Qv post (gS g) (gA g)) args s 0 0 (gA g)) (F0 m 8 ls []) := by
  obtain ⟨hx, hb, -, hown, hts, hgk⟩ := id C0
  intro n
  induction n with
  | zero =>
    intro h v0 v1 H locs ls hw hG hS hl
    exact hw.elim
  | succ n ih =>
    intro h v0 v1 H locs ls hw hG hS hl
    unfold wp_M_grant_8 at hw
    refine lv_aload_n hx hb dd_M_grant_8 rfl (lv_at hl 0 rfl) ?_
    obtain ⟨k1, a2, ea2, hw⟩ := hw
    refine gf_M_48 C0 hG k1 ea2 dd_M_grant_9 ?_
    refine lv_iload_n hx hb dd_M_grant_12 rfl (lv_at hl 1 rfl) ?_
    obtain ⟨k3, k3i, hw⟩ := hw
    refine px_iald C0 hG k3 k3i dd_M_grant_13 ?_
    refine lv_if_le (tgt := 89) hx hb dd_M_grant_14 (by decide) (fun c4 => ?_) (fun c4 => ?_)
    · replace hw := hw.1 c4
      exact wk_M_grant_89 C0 hr hlk hK2 _ _ _ _ _ _ hw hG hS (lv_sub hl [0, 1] rfl)
    · replace hw := hw.2 c4
      refine lv_aload_n hx hb dd_M_grant_17 rfl (lv_at hl 0 rfl) ?_
      refine lv_aload_n hx hb dd_M_grant_18 rfl (lv_at hl 0 rfl) ?_
      obtain ⟨k5, a6, ea6, hw⟩ := hw
      refine gf_M_45 C0 hG k5 ea6 dd_M_grant_19 ?_
      refine lv_bipush (v := 31) hx hb dd_M_grant_22 (by decide) ?_
      refine lv_iload_n hx hb dd_M_grant_24 rfl (lv_at hl 1 rfl) ?_
      refine lv_imul hx hb dd_M_grant_25 ?_
      refine lv_topi (fun x7 ex7 => ?_)
      replace hw := hw x7 ex7
      obtain ⟨k8, k8i, hw⟩ := hw
      refine px_iald C0 hG k8 k8i dd_M_grant_26 ?_
      refine lv_iload_n hx hb dd_M_grant_27 rfl (lv_at hl 1 rfl) ?_
      refine lv_aload_n hx hb dd_M_grant_28 rfl (lv_at hl 0 rfl) ?_
      obtain ⟨k9, a10, ea10, hw⟩ := hw
      refine gf_M_26 C0 hG k9 ea10 dd_M_grant_29 ?_
      refine lv_aload_n hx hb dd_M_grant_32 rfl (lv_at hl 0 rfl) ?_
      obtain ⟨k11, a12, ea12, hw⟩ := hw
      refine gf_M_45 C0 hG k11 ea12 dd_M_grant_33 ?_
      refine lv_bipush (v := 31) hx hb dd_M_grant_36 (by decide) ?_
      refine lv_iload_n hx hb dd_M_grant_38 rfl (lv_at hl 1 rfl) ?_
      refine lv_imul hx hb dd_M_grant_39 ?_
      refine lv_topi (fun x13 ex13 => ?_)
      replace hw := hw x13 ex13
      obtain ⟨k14, k14i, hw⟩ := hw
      refine px_iald C0 hG k14 k14i dd_M_grant_40 ?_
      obtain ⟨k15, k15i, hw⟩ := hw
      refine px_iald C0 hG k15 k15i dd_M_grant_41 ?_
      obtain ⟨k16, hw⟩ := hw
      have hw0 := hw
      clear hw
      refine cs_i (rn_V C0 hG hS (c_M_isFree l g _ h v0 (hI h a6 x7.toNatClampNeg) v1 (hI h a10 (hI h a12 x13.toNatClampNeg).toNatClampNeg) hw0) (ci := 4) k16 (by decide) rfl rfl (host := "") (nest := false) (n := 3) (As := [.int (hI h a6 x7.toNatClampNeg), .int v1, .int (hI h a10 (hI h a12 x13.toNatClampNeg).toNatClampNeg)]) (rest := []) km_436 km_435 km_437 km_438 km_421 ⟨by decide, by decide, by decide +kernel⟩ ⟨Nat.le_of_ble_eq_true rfl, Nat.le_of_ble_eq_true rfl⟩ rfl hl.1 rfl (Nat.le_of_ble_eq_true rfl) dd_M_grant_42 ⟨Nat.le_refl _, Nat.le_refl _⟩) (fun x18 hw => ?_)
      refine lv_if_eq (tgt := 89) hx hb dd_M_grant_45 (by decide) (fun c19 => ?_) (fun c19 => ?_)
      · replace hw := hw.1 c19
        exact wk_M_grant_89 C0 hr hlk hK2 _ _ _ _ _ _ hw hG hS (lv_sub hl [0, 1] rfl)
      · replace hw := hw.2 c19
        refine lv_aload_n hx hb dd_M_grant_48 rfl (lv_at hl 0 rfl) ?_
        obtain ⟨k20, a21, ea21, hw⟩ := hw
        refine gf_M_45 C0 hG k20 ea21 dd_M_grant_49 ?_
        refine lv_bipush (v := 31) hx hb dd_M_grant_52 (by decide) ?_
        refine lv_iload_n hx hb dd_M_grant_54 rfl (lv_at hl 1 rfl) ?_
        refine lv_imul hx hb dd_M_grant_55 ?_
        refine lv_topi (fun x22 ex22 => ?_)
        replace hw := hw x22 ex22
        obtain ⟨k23, k23i, hw⟩ := hw
        refine px_iald C0 hG k23 k23i dd_M_grant_56 ?_
        have hl0 := hl
        clear hl
        refine lv_istore_n (lv' := [(2, .int (hI h a21 x22.toNatClampNeg)), (0, .ref v0), (1, .int v1)]) hx hb dd_M_grant_57 rfl hl0 (by decide) rfl (fun ls hl => ?_)
        refine lv_aload_n hx hb dd_M_grant_58 rfl (lv_at hl 1 rfl) ?_
        refine lv_iload_n hx hb dd_M_grant_59 rfl (lv_at hl 0 rfl) ?_
        obtain ⟨k24, hw⟩ := hw
        refine ca_v hS (rn_V C0 hG hS (c_M_unwait l g _ h v0 (hI h a21 x22.toNatClampNeg) hw) (ci := 4) k24 (by decide) rfl rfl (host := "") (nest := false) (n := 1) (As := [.int (hI h a21 x22.toNatClampNeg)]) (rest := []) km_432 km_431 km_433 km_434 km_421 ⟨by decide, by decide, by decide +kernel⟩ ⟨Nat.le_of_ble_eq_true rfl, Nat.le_of_ble_eq_true rfl⟩ rfl hl.1 rfl (Nat.le_of_ble_eq_true rfl) dd_M_grant_60 ⟨Nat.le_refl _, Nat.le_refl _⟩) (fun h25 H locs hw hG hS => ?_)
        refine lv_aload_n hx hb dd_M_grant_63 rfl (lv_at hl 1 rfl) ?_
        obtain ⟨k26, a27, ea27, hw⟩ := hw
        refine gf_M_29 C0 hG k26 ea27 dd_M_grant_64 ?_
        refine lv_iload_n hx hb dd_M_grant_67 rfl (lv_at hl 0 rfl) ?_
        refine lv_iload_n hx hb dd_M_grant_68 rfl (lv_at hl 2 rfl) ?_
        have hw0 := hw
        clear hw
        refine cs_i (rn_S C0 hG hS (c_M_of l g _ h25 (hI h a21 x22.toNatClampNeg) v1 hw0) (host := "") (nest := false) (n := 2) (As := [.int (hI h a21 x22.toNatClampNeg), .int v1]) (rest := [.ref a27]) km_420 km_419 km_422 km_421 ⟨by decide, by decide, by decide +kernel⟩ ⟨Nat.le_of_ble_eq_true rfl, Nat.le_of_ble_eq_true rfl⟩ rfl hl.1 rfl (Nat.le_of_ble_eq_true rfl) dd_M_grant_69 ⟨Nat.le_refl _, Nat.le_refl _⟩) (fun x30 hw => ?_)
        refine lv_aload_n hx hb dd_M_grant_72 rfl (lv_at hl 1 rfl) ?_
        obtain ⟨k31, a32, ea32, hw⟩ := hw
        refine gf_M_26 C0 hG k31 ea32 dd_M_grant_73 ?_
        refine lv_iload_n hx hb dd_M_grant_76 rfl (lv_at hl 0 rfl) ?_
        obtain ⟨k33, k33i, hw⟩ := hw
        refine px_iald C0 hG k33 k33i dd_M_grant_77 ?_
        obtain ⟨k34, k34i, hw⟩ := hw
        refine px_iast C0 hG hS k34 k34i dd_M_grant_78 (fun H locs hG hS => ?_)
        replace hw := hw _ rfl
        generalize sI h25 a27 x30.toNatClampNeg (hI h25 a32 (hI h a21 x22.toNatClampNeg).toNatClampNeg) = h35 at hw hG
        refine lv_aload_n hx hb dd_M_grant_79 rfl (lv_at hl 1 rfl) ?_
        obtain ⟨k36, a37, ea37, hw⟩ := hw
        refine gf_M_17 C0 hG k36 ea37 dd_M_grant_80 ?_
        refine lv_iload_n hx hb dd_M_grant_83 rfl (lv_at hl 0 rfl) ?_
        refine lv_iconst (v := 0) hx hb dd_M_grant_84 (by decide) ?_
        obtain ⟨k38, k38i, hw⟩ := hw
        refine px_iast C0 hG hS k38 k38i dd_M_grant_85 (fun H locs hG hS => ?_)
        replace hw := hw _ rfl
        generalize sI h35 a37 (hI h a21 x22.toNatClampNeg).toNatClampNeg 0 = h39 at hw hG
        refine lv_goto (tgt := 8) hx hb dd_M_grant_86 (by decide) ?_
        exact ih _ _ _ _ _ _ hw hG hS (lv_sub hl [1, 2] rfl)
def wp_M_grant_2 (g : Gm) (post : Hp → Prop) : Nat → Hp → Nat → Int32 → Prop
  | 0, _, _, _ => False
  | fu + 1, h, v0, v1 => ((50 ≤ v1 → post h) ∧ (¬ 50 ≤ v1 → ∃ n : Nat, wp_M_grant_8 g post (fun h v0 v1 => wp_M_grant_2 g post fu h v0 v1) n h v0 v1))
set_option maxHeartbeats 4000000 in
set_option maxRecDepth 100000 in
theorem wk_M_grant_2 {p : Program} {l : Launch} {e : Env} {s : State} {m : MethodId} {args : Array Value} {below : List Frame} {meth : Method} {c : Code} {g : Gm} {post : Hp → Prop} (C0 : Cx g p s m args c prog_6_method_15_code 3 "SegmentLocksModel") (hr : meth.sig.returnType = none) (hlk : meth.locks = false) : ∀ n : Nat, ∀ (h : Hp) (v0 : Nat) (v1 : Int32) (H : Heap) (locs : List Loc) (ls : Array Slot), wp_M_grant_2 g post n h v0 v1 → GH g h H → va_S (gA g) s.heap H locs → lv_has ls 3 [(0, .ref v0), (1, .int v1)] → W p l e (rmm 2 46 0 0) s m args below meth c H locs 0 0 (MQ below (va_Qv post (gS g) (gA g)) args s 0 0 (gA g)) (F0 m 2 ls []) := by
  obtain ⟨hx, hb, -, hown, hts, hgk⟩ := id C0
  intro n
  induction n with
  | zero =>
    intro h v0 v1 H locs ls hw hG hS hl
    exact hw.elim
  | succ n ih =>
    intro h v0 v1 H locs ls hw hG hS hl
    unfold wp_M_grant_2 at hw
    refine lv_iload_n hx hb dd_M_grant_2 rfl (lv_at hl 1 rfl) ?_
    refine lv_bipush (v := 50) hx hb dd_M_grant_3 (by decide) ?_
    refine lv_icmp_ge (tgt := 95) hx hb dd_M_grant_5 (by decide) (fun c1 => ?_) (fun c1 => ?_)
    · replace hw := hw.1 c1
      exact re_v C0 hG hS hr hlk ⟨Nat.le_refl _, Nat.le_refl _⟩ hw dd_M_grant_95
    · replace hw := hw.2 c1
      obtain ⟨n, hw⟩ := hw
      exact wk_M_grant_8 C0 hr hlk ih n _ _ _ _ _ _ hw hG hS (lv_sub hl [0, 1] rfl)
def wp_M_grant (g : Gm) (post : Hp → Prop) (h : Hp) (a0 : Nat) : Prop := ∃ n : Nat, wp_M_grant_2 g post n h a0 0
set_option maxHeartbeats 4000000 in
set_option maxRecDepth 100000 in
theorem c_M_grant (l : Launch) (g : Gm) (post : Hp → Prop) (h : Hp) (a0 : Nat) (hw : wp_M_grant g post h a0) : Met l (⟨"SegmentLocksModel", "grant", "()V"⟩ : MethodName) (ww (⟨"SegmentLocksModel", "grant", "()V"⟩ : MethodName) prog_6_method_15_code 3 none) (rmm 2 46 0 0) (va_Pc [.ref a0] (gS g h)) (va_Qv post (gS g) (gA g)) 0 0 (gA g) := by
  first | refine en_met (by decide) ?_ | refine en_metF (by decide) ?_
  intro p e s m below meth c C0 hr hlk hin hG
  have hS : va_S (gA g) s.heap s.heap [] := va_S.rf
  have hl := lv_entry ([.ref a0]) (n := 3) (Nat.le_of_ble_eq_true rfl)
  rw [lg_entry_eq]
  generalize (lg_sl ([.ref a0]) ++ List.replicate (3 - (lg_sl ([.ref a0])).length) Slot.unset).toArray = ls at hl ⊢
  replace hl : lv_has ls 3 [(0, .ref a0)] := hl
  obtain ⟨hx, hb, -, hown, hts, hgk⟩ := id C0
  unfold wp_M_grant at hw
  refine lv_iconst (v := 0) hx hb dd_M_grant_0 (by decide) ?_
  have hl0 := hl
  clear hl
  refine lv_istore_n (lv' := [(1, .int 0), (0, .ref a0)]) hx hb dd_M_grant_1 rfl hl0 (by decide) rfl (fun ls hl => ?_)
  obtain ⟨n, hw⟩ := hw
  exact wk_M_grant_2 C0 hr hlk n _ _ _ _ _ _ hw hG hS (lv_sub hl [1, 0] rfl)
/-! SegmentLocksModel.clear(II)I -/
theorem dd_M_clear_0 : decode prog_6_method_16_code 0 = .ok (.aload_n 0, 1) := by decide +kernel
theorem dd_M_clear_1 : decode prog_6_method_16_code 1 = .ok (.iload_n 1, 1) := by decide +kernel
theorem dd_M_clear_2 : decode prog_6_method_16_code 2 = .ok (.invokevirtual 98, 3) := by decide +kernel
theorem dd_M_clear_5 : decode prog_6_method_16_code 5 = .ok (.istore_n 3, 1) := by decide +kernel
theorem dd_M_clear_6 : decode prog_6_method_16_code 6 = .ok (.aload_n 0, 1) := by decide +kernel
theorem dd_M_clear_7 : decode prog_6_method_16_code 7 = .ok (.iload_n 1, 1) := by decide +kernel
theorem dd_M_clear_8 : decode prog_6_method_16_code 8 = .ok (.invokevirtual 94, 3) := by decide +kernel
theorem dd_M_clear_11 : decode prog_6_method_16_code 11 = .ok (.iconst 0, 1) := by decide +kernel
theorem dd_M_clear_12 : decode prog_6_method_16_code 12 = .ok (.istore 4, 2) := by decide +kernel
theorem dd_M_clear_14 : decode prog_6_method_16_code 14 = .ok (.iload 4, 2) := by decide +kernel
theorem dd_M_clear_16 : decode prog_6_method_16_code 16 = .ok (.bipush 50, 2) := by decide +kernel
theorem dd_M_clear_18 : decode prog_6_method_16_code 18 = .ok (.if_icmp .ge 45, 3) := by decide +kernel
theorem dd_M_clear_21 : decode prog_6_method_16_code 21 = .ok (.aload_n 0, 1) := by decide +kernel
theorem dd_M_clear_22 : decode prog_6_method_16_code 22 = .ok (.getfield 29, 3) := by decide +kernel
theorem dd_M_clear_25 : decode prog_6_method_16_code 25 = .ok (.iload_n 1, 1) := by decide +kernel
theorem dd_M_clear_26 : decode prog_6_method_16_code 26 = .ok (.iload 4, 2) := by decide +kernel
theorem dd_M_clear_28 : decode prog_6_method_16_code 28 = .ok (.invokestatic 79, 3) := by decide +kernel
theorem dd_M_clear_31 : decode prog_6_method_16_code 31 = .ok (.iconst (-1), 1) := by decide +kernel
theorem dd_M_clear_32 : decode prog_6_method_16_code 32 = .ok (.iastore, 1) := by decide +kernel
theorem dd_M_clear_33 : decode prog_6_method_16_code 33 = .ok (.aload_n 0, 1) := by decide +kernel
theorem dd_M_clear_34 : decode prog_6_method_16_code 34 = .ok (.getfield 35, 3) := by decide +kernel
theorem dd_M_clear_37 : decode prog_6_method_16_code 37 = .ok (.iload_n 1, 1) := by decide +kernel
theorem dd_M_clear_38 : decode prog_6_method_16_code 38 = .ok (.iload 4, 2) := by decide +kernel
theorem dd_M_clear_40 : decode prog_6_method_16_code 40 = .ok (.invokestatic 79, 3) := by decide +kernel
theorem dd_M_clear_43 : decode prog_6_method_16_code 43 = .ok (.iconst 0, 1) := by decide +kernel
theorem dd_M_clear_44 : decode prog_6_method_16_code 44 = .ok (.bastore, 1) := by decide +kernel
theorem dd_M_clear_45 : decode prog_6_method_16_code 45 = .ok (.aload_n 0, 1) := by decide +kernel
theorem dd_M_clear_46 : decode prog_6_method_16_code 46 = .ok (.getfield 39, 3) := by decide +kernel
theorem dd_M_clear_49 : decode prog_6_method_16_code 49 = .ok (.iload_n 1, 1) := by decide +kernel
theorem dd_M_clear_50 : decode prog_6_method_16_code 50 = .ok (.iload 4, 2) := by decide +kernel
theorem dd_M_clear_52 : decode prog_6_method_16_code 52 = .ok (.invokestatic 79, 3) := by decide +kernel
theorem dd_M_clear_55 : decode prog_6_method_16_code 55 = .ok (.iconst 0, 1) := by decide +kernel
theorem dd_M_clear_56 : decode prog_6_method_16_code 56 = .ok (.bastore, 1) := by decide +kernel
theorem dd_M_clear_57 : decode prog_6_method_16_code 57 = .ok (.iinc 4 1, 3) := by decide +kernel
theorem dd_M_clear_60 : decode prog_6_method_16_code 60 = .ok (.goto (-46), 3) := by decide +kernel
theorem dd_M_clear_63 : decode prog_6_method_16_code 63 = .ok (.aload_n 0, 1) := by decide +kernel
theorem dd_M_clear_64 : decode prog_6_method_16_code 64 = .ok (.iload_n 1, 1) := by decide +kernel
theorem dd_M_clear_65 : decode prog_6_method_16_code 65 = .ok (.invokevirtual 102, 3) := by decide +kernel
theorem dd_M_clear_68 : decode prog_6_method_16_code 68 = .ok (.aload_n 0, 1) := by decide +kernel
theorem dd_M_clear_69 : decode prog_6_method_16_code 69 = .ok (.getfield 17, 3) := by decide +kernel
theorem dd_M_clear_72 : decode prog_6_method_16_code 72 = .ok (.iload_n 1, 1) := by decide +kernel
theorem dd_M_clear_73 : decode prog_6_method_16_code 73 = .ok (.iload_n 2, 1) := by decide +kernel
theorem dd_M_clear_74 : decode prog_6_method_16_code 74 = .ok (.iastore, 1) := by decide +kernel
theorem dd_M_clear_75 : decode prog_6_method_16_code 75 = .ok (.aload_n 0, 1) := by decide +kernel
theorem dd_M_clear_76 : decode prog_6_method_16_code 76 = .ok (.invokevirtual 105, 3) := by decide +kernel
theorem dd_M_clear_79 : decode prog_6_method_16_code 79 = .ok (.iload_n 3, 1) := by decide +kernel
theorem dd_M_clear_80 : decode prog_6_method_16_code 80 = .ok (.ireturn, 1) := by decide +kernel
def wp_M_clear_14 (g : Gm) (post : Int32 → Hp → Prop) : Nat → Hp → Nat → Int32 → Int32 → Int32 → Int32 → Prop
  | 0, _, _, _, _, _, _ => False
  | fu + 1, h, v0, v1, v2, v3, v4 => ((50 ≤ v4 → hK h v0 = 5 ∧ wp_M_forget g (fun h3 => hK h3 v0 = 5 ∧ ∃ a5 : Nat, hR h3 v0 5 = some a5 ∧ hK h3 a5 = 21 ∧ vp_in v1 (hN h3 a5) ∧ ∀ h7 : Hp, h7 = sI h3 a5 v1.toNatClampNeg v2 → hK h7 v0 = 5 ∧ wp_M_grant g (fun h9 => post v3 h9) h7 v0) h v0 v1) ∧ (¬ 50 ≤ v4 → hK h v0 = 5 ∧ ∃ a11 : Nat, hR h v0 9 = some a11 ∧ wp_M_of g (fun x14 => hK h a11 = 21 ∧ vp_in x14 (hN h a11) ∧ ∀ h16 : Hp, h16 = sI h a11 x14.toNatClampNeg (-1) → hK h16 v0 = 5 ∧ ∃ a18 : Nat, hR h16 v0 11 = some a18 ∧ wp_M_of g (fun x21 => hK h16 a18 = 23 ∧ vp_in x21 (hN h16 a18) ∧ zB 0 ∧ ∀ h23 : Hp, h23 = sI h16 a18 x21.toNatClampNeg 0 → hK h23 v0 = 5 ∧ ∃ a25 : Nat, hR h23 v0 12 = some a25 ∧ wp_M_of g (fun x28 => hK h23 a25 = 23 ∧ vp_in x28 (hN h23 a25) ∧ zB 0 ∧ ∀ h30 : Hp, h30 = sI h23 a25 x28.toNatClampNeg 0 → ∀ x31 : Int32, x31 = v4 + 1 → wp_M_clear_14 g post fu h30 v0 v1 v2 v3 x31) h23 v1 v4) h16 v1 v4) h v1 v4))
set_option maxHeartbeats 4000000 in
set_option maxRecDepth 100000 in
theorem wk_M_clear_14 {p : Program} {l : Launch} {e : Env} {s : State} {m : MethodId} {args : Array Value} {below : List Frame} {meth : Method} {c : Code} {g : Gm} {post : Int32 → Hp → Prop} (C0 : Cx g p s m args c prog_6_method_16_code 5 "SegmentLocksModel") (hr : meth.sig.returnType = (some .int)) (hlk : meth.locks = false) : ∀ n : Nat, ∀ (h : Hp) (v0 : Nat) (v1 : Int32) (v2 : Int32) (v3 : Int32) (v4 : Int32) (H : Heap) (locs : List Loc) (ls : Array Slot), wp_M_clear_14 g post n h v0 v1 v2 v3 v4 → GH g h H → va_S (gA g) s.heap H locs → lv_has ls 5 [(0, .ref v0), (1, .int v1), (2, .int v2), (3, .int v3), (4, .int v4)] → W p l e (rmm 3 68 0 0) s m args below meth c H locs 0 0 (MQ below (va_Qi post (gS g) (gA g)) args s 0 0 (gA g)) (F0 m 14 ls []) := by
  obtain ⟨hx, hb, -, hown, hts, hgk⟩ := id C0
  intro n
  induction n with
  | zero =>
    intro h v0 v1 v2 v3 v4 H locs ls hw hG hS hl
    exact hw.elim
  | succ n ih =>
    intro h v0 v1 v2 v3 v4 H locs ls hw hG hS hl
    unfold wp_M_clear_14 at hw
    refine lv_iload hx hb dd_M_clear_14 (lv_at hl 4 rfl) ?_
    refine lv_bipush (v := 50) hx hb dd_M_clear_16 (by decide) ?_
    refine lv_icmp_ge (tgt := 63) hx hb dd_M_clear_18 (by decide) (fun c1 => ?_) (fun c1 => ?_)
    · replace hw := hw.1 c1
      refine lv_aload_n hx hb dd_M_clear_63 rfl (lv_at hl 0 rfl) ?_
      refine lv_iload_n hx hb dd_M_clear_64 rfl (lv_at hl 1 rfl) ?_
      obtain ⟨k2, hw⟩ := hw
      refine ca_v hS (rn_V C0 hG hS (c_M_forget l g _ h v0 v1 hw) (ci := 4) k2 (by decide) rfl rfl (host := "") (nest := false) (n := 1) (As := [.int v1]) (rest := []) km_444 km_443 km_445 km_446 km_421 ⟨by decide, by decide, by decide +kernel⟩ ⟨Nat.le_of_ble_eq_true rfl, Nat.le_of_ble_eq_true rfl⟩ rfl hl.1 rfl (Nat.le_of_ble_eq_true rfl) dd_M_clear_65 ⟨Nat.le_refl _, Nat.le_refl _⟩) (fun h3 H locs hw hG hS => ?_)
      refine lv_aload_n hx hb dd_M_clear_68 rfl (lv_at hl 0 rfl) ?_
      obtain ⟨k4, a5, ea5, hw⟩ := hw
      refine gf_M_17 C0 hG k4 ea5 dd_M_clear_69 ?_
      refine lv_iload_n hx hb dd_M_clear_72 rfl (lv_at hl 1 rfl) ?_
      refine lv_iload_n hx hb dd_M_clear_73 rfl (lv_at hl 2 rfl) ?_
      obtain ⟨k6, k6i, hw⟩ := hw
      refine px_iast C0 hG hS k6 k6i dd_M_clear_74 (fun H locs hG hS => ?_)
      replace hw := hw _ rfl
      generalize sI h3 a5 v1.toNatClampNeg v2 = h7 at hw hG
      refine lv_aload_n hx hb dd_M_clear_75 rfl (lv_at hl 0 rfl) ?_
      obtain ⟨k8, hw⟩ := hw
      refine ca_v hS (rn_V C0 hG hS (c_M_grant l g _ h7 v0 hw) (ci := 4) k8 (by decide) rfl rfl (host := "") (nest := false) (n := 0) (As := []) (rest := []) km_440 km_439 km_441 km_442 km_421 ⟨by decide, by decide, by decide +kernel⟩ ⟨Nat.le_of_ble_eq_true rfl, Nat.le_of_ble_eq_true rfl⟩ rfl hl.1 rfl (Nat.le_of_ble_eq_true rfl) dd_M_clear_76 ⟨Nat.le_refl _, Nat.le_refl _⟩) (fun h9 H locs hw hG hS => ?_)
      refine lv_iload_n hx hb dd_M_clear_79 rfl (lv_at hl 3 rfl) ?_
      exact re_i C0 hG hS hr hlk ⟨Nat.le_refl _, Nat.le_refl _⟩ hw dd_M_clear_80
    · replace hw := hw.2 c1
      refine lv_aload_n hx hb dd_M_clear_21 rfl (lv_at hl 0 rfl) ?_
      obtain ⟨k10, a11, ea11, hw⟩ := hw
      refine gf_M_29 C0 hG k10 ea11 dd_M_clear_22 ?_
      refine lv_iload_n hx hb dd_M_clear_25 rfl (lv_at hl 1 rfl) ?_
      refine lv_iload hx hb dd_M_clear_26 (lv_at hl 4 rfl) ?_
      have hw0 := hw
      clear hw
      refine cs_i (rn_S C0 hG hS (c_M_of l g _ h v1 v4 hw0) (host := "") (nest := false) (n := 2) (As := [.int v1, .int v4]) (rest := [.ref a11]) km_420 km_419 km_422 km_421 ⟨by decide, by decide, by decide +kernel⟩ ⟨Nat.le_of_ble_eq_true rfl, Nat.le_of_ble_eq_true rfl⟩ rfl hl.1 rfl (Nat.le_of_ble_eq_true rfl) dd_M_clear_28 ⟨Nat.le_refl _, Nat.le_refl _⟩) (fun x14 hw => ?_)
      refine lv_iconst (v := (-1)) hx hb dd_M_clear_31 (by decide) ?_
      obtain ⟨k15, k15i, hw⟩ := hw
      refine px_iast C0 hG hS k15 k15i dd_M_clear_32 (fun H locs hG hS => ?_)
      replace hw := hw _ rfl
      generalize sI h a11 x14.toNatClampNeg (-1) = h16 at hw hG
      refine lv_aload_n hx hb dd_M_clear_33 rfl (lv_at hl 0 rfl) ?_
      obtain ⟨k17, a18, ea18, hw⟩ := hw
      refine gf_M_35 C0 hG k17 ea18 dd_M_clear_34 ?_
      refine lv_iload_n hx hb dd_M_clear_37 rfl (lv_at hl 1 rfl) ?_
      refine lv_iload hx hb dd_M_clear_38 (lv_at hl 4 rfl) ?_
      have hw0 := hw
      clear hw
      refine cs_i (rn_S C0 hG hS (c_M_of l g _ h16 v1 v4 hw0) (host := "") (nest := false) (n := 2) (As := [.int v1, .int v4]) (rest := [.ref a18]) km_420 km_419 km_422 km_421 ⟨by decide, by decide, by decide +kernel⟩ ⟨Nat.le_of_ble_eq_true rfl, Nat.le_of_ble_eq_true rfl⟩ rfl hl.1 rfl (Nat.le_of_ble_eq_true rfl) dd_M_clear_40 ⟨Nat.le_refl _, Nat.le_refl _⟩) (fun x21 hw => ?_)
      refine lv_iconst (v := 0) hx hb dd_M_clear_43 (by decide) ?_
      obtain ⟨k22, k22i, hz, hw⟩ := hw
      refine px_zast C0 hG hS k22 k22i hz.nar dd_M_clear_44 (fun H locs hG hS => ?_)
      replace hw := hw _ rfl
      generalize sI h16 a18 x21.toNatClampNeg 0 = h23 at hw hG
      refine lv_aload_n hx hb dd_M_clear_45 rfl (lv_at hl 0 rfl) ?_
      obtain ⟨k24, a25, ea25, hw⟩ := hw
      refine gf_M_39 C0 hG k24 ea25 dd_M_clear_46 ?_
      refine lv_iload_n hx hb dd_M_clear_49 rfl (lv_at hl 1 rfl) ?_
      refine lv_iload hx hb dd_M_clear_50 (lv_at hl 4 rfl) ?_
      have hw0 := hw
      clear hw
      refine cs_i (rn_S C0 hG hS (c_M_of l g _ h23 v1 v4 hw0) (host := "") (nest := false) (n := 2) (As := [.int v1, .int v4]) (rest := [.ref a25]) km_420 km_419 km_422 km_421 ⟨by decide, by decide, by decide +kernel⟩ ⟨Nat.le_of_ble_eq_true rfl, Nat.le_of_ble_eq_true rfl⟩ rfl hl.1 rfl (Nat.le_of_ble_eq_true rfl) dd_M_clear_52 ⟨Nat.le_refl _, Nat.le_refl _⟩) (fun x28 hw => ?_)
      refine lv_iconst (v := 0) hx hb dd_M_clear_55 (by decide) ?_
      obtain ⟨k29, k29i, hz, hw⟩ := hw
      refine px_zast C0 hG hS k29 k29i hz.nar dd_M_clear_56 (fun H locs hG hS => ?_)
      replace hw := hw _ rfl
      generalize sI h23 a25 x28.toNatClampNeg 0 = h30 at hw hG
      obtain ⟨x31, ex31⟩ : ∃ y : Int32, y = v4 + 1 := ⟨_, rfl⟩
      replace hw := hw x31 ex31
      have hl0 := hl
      clear hl
      refine lv_iinc (v := x31) (lv' := [(4, .int x31), (0, .ref v0), (1, .int v1), (2, .int v2), (3, .int v3)]) hx hb dd_M_clear_57 hl0 (k := 4) rfl (by rw [ex31]; rfl) (by decide) rfl (fun ls hl => ?_)
      refine lv_goto (tgt := 14) hx hb dd_M_clear_60 (by decide) ?_
      exact ih _ _ _ _ _ _ _ _ _ hw hG hS (lv_sub hl [1, 2, 3, 4, 0] rfl)
def wp_M_clear (g : Gm) (post : Int32 → Hp → Prop) (h : Hp) (a0 : Nat) (i1 : Int32) (i2 : Int32) : Prop := hK h a0 = 5 ∧ wp_M_locksOf g (fun x3 => hK h a0 = 5 ∧ wp_M_unwait g (fun h5 => ∃ n : Nat, wp_M_clear_14 g post n h5 a0 i1 i2 x3 0) h a0 i1) h a0 i1
set_option maxHeartbeats 4000000 in
set_option maxRecDepth 100000 in
theorem c_M_clear (l : Launch) (g : Gm) (post : Int32 → Hp → Prop) (h : Hp) (a0 : Nat) (i1 : Int32) (i2 : Int32) (hw : wp_M_clear g post h a0 i1 i2) : Met l (⟨"SegmentLocksModel", "clear", "(II)I"⟩ : MethodName) (ww (⟨"SegmentLocksModel", "clear", "(II)I"⟩ : MethodName) prog_6_method_16_code 5 (some .int)) (rmm 3 68 0 0) (va_Pc [.ref a0, .int i1, .int i2] (gS g h)) (va_Qi post (gS g) (gA g)) 0 0 (gA g) := by
  first | refine en_met (by decide) ?_ | refine en_metF (by decide) ?_
  intro p e s m below meth c C0 hr hlk hin hG
  have hS : va_S (gA g) s.heap s.heap [] := va_S.rf
  have hl := lv_entry ([.ref a0, .int i1, .int i2]) (n := 5) (Nat.le_of_ble_eq_true rfl)
  rw [lg_entry_eq]
  generalize (lg_sl ([.ref a0, .int i1, .int i2]) ++ List.replicate (5 - (lg_sl ([.ref a0, .int i1, .int i2])).length) Slot.unset).toArray = ls at hl ⊢
  replace hl : lv_has ls 5 [(0, .ref a0), (1, .int i1), (2, .int i2)] := hl
  obtain ⟨hx, hb, -, hown, hts, hgk⟩ := id C0
  unfold wp_M_clear at hw
  refine lv_aload_n hx hb dd_M_clear_0 rfl (lv_at hl 0 rfl) ?_
  refine lv_iload_n hx hb dd_M_clear_1 rfl (lv_at hl 1 rfl) ?_
  obtain ⟨k1, hw⟩ := hw
  have hw0 := hw
  clear hw
  refine cs_i (rn_V C0 hG hS (c_M_locksOf l g _ h a0 i1 hw0) (ci := 4) k1 (by decide) rfl rfl (host := "") (nest := false) (n := 1) (As := [.int i1]) (rest := []) km_448 km_447 km_449 km_450 km_421 ⟨by decide, by decide, by decide +kernel⟩ ⟨Nat.le_of_ble_eq_true rfl, Nat.le_of_ble_eq_true rfl⟩ rfl hl.1 rfl (Nat.le_of_ble_eq_true rfl) dd_M_clear_2 ⟨Nat.le_refl _, Nat.le_refl _⟩) (fun x3 hw => ?_)
  have hl0 := hl
  clear hl
  refine lv_istore_n (lv' := [(3, .int x3), (0, .ref a0), (1, .int i1), (2, .int i2)]) hx hb dd_M_clear_5 rfl hl0 (by decide) rfl (fun ls hl => ?_)
  refine lv_aload_n hx hb dd_M_clear_6 rfl (lv_at hl 1 rfl) ?_
  refine lv_iload_n hx hb dd_M_clear_7 rfl (lv_at hl 2 rfl) ?_
  obtain ⟨k4, hw⟩ := hw
  refine ca_v hS (rn_V C0 hG hS (c_M_unwait l g _ h a0 i1 hw) (ci := 4) k4 (by decide) rfl rfl (host := "") (nest := false) (n := 1) (As := [.int i1]) (rest := []) km_432 km_431 km_433 km_434 km_421 ⟨by decide, by decide, by decide +kernel⟩ ⟨Nat.le_of_ble_eq_true rfl, Nat.le_of_ble_eq_true rfl⟩ rfl hl.1 rfl (Nat.le_of_ble_eq_true rfl) dd_M_clear_8 ⟨Nat.le_refl _, Nat.le_refl _⟩) (fun h5 H locs hw hG hS => ?_)
  refine lv_iconst (v := 0) hx hb dd_M_clear_11 (by decide) ?_
  have hl0 := hl
  clear hl
  refine lv_istore (lv' := [(4, .int 0), (3, .int x3), (0, .ref a0), (1, .int i1), (2, .int i2)]) hx hb dd_M_clear_12 hl0 (by decide) rfl (fun ls hl => ?_)
  obtain ⟨n, hw⟩ := hw
  exact wk_M_clear_14 C0 hr hlk n _ _ _ _ _ _ _ _ _ hw hG hS (lv_sub hl [2, 3, 4, 1, 0] rfl)
/-! SegmentLocksModel.insert(III)V -/
theorem dd_M_insert_0 : decode prog_6_method_12_code 0 = .ok (.aload_n 0, 1) := by decide +kernel
theorem dd_M_insert_1 : decode prog_6_method_12_code 1 = .ok (.getfield 48, 3) := by decide +kernel
theorem dd_M_insert_4 : decode prog_6_method_12_code 4 = .ok (.iload_n 2, 1) := by decide +kernel
theorem dd_M_insert_5 : decode prog_6_method_12_code 5 = .ok (.iaload, 1) := by decide +kernel
theorem dd_M_insert_6 : decode prog_6_method_12_code 6 = .ok (.istore 4, 2) := by decide +kernel
theorem dd_M_insert_8 : decode prog_6_method_12_code 8 = .ok (.iload 4, 2) := by decide +kernel
theorem dd_M_insert_10 : decode prog_6_method_12_code 10 = .ok (.iload_n 3, 1) := by decide +kernel
theorem dd_M_insert_11 : decode prog_6_method_12_code 11 = .ok (.if_icmp .le 35, 3) := by decide +kernel
theorem dd_M_insert_14 : decode prog_6_method_12_code 14 = .ok (.aload_n 0, 1) := by decide +kernel
theorem dd_M_insert_15 : decode prog_6_method_12_code 15 = .ok (.getfield 45, 3) := by decide +kernel
theorem dd_M_insert_18 : decode prog_6_method_12_code 18 = .ok (.bipush 31, 2) := by decide +kernel
theorem dd_M_insert_20 : decode prog_6_method_12_code 20 = .ok (.iload_n 2, 1) := by decide +kernel
theorem dd_M_insert_21 : decode prog_6_method_12_code 21 = .ok (.imul, 1) := by decide +kernel
theorem dd_M_insert_22 : decode prog_6_method_12_code 22 = .ok (.iload 4, 2) := by decide +kernel
theorem dd_M_insert_24 : decode prog_6_method_12_code 24 = .ok (.iadd, 1) := by decide +kernel
theorem dd_M_insert_25 : decode prog_6_method_12_code 25 = .ok (.aload_n 0, 1) := by decide +kernel
theorem dd_M_insert_26 : decode prog_6_method_12_code 26 = .ok (.getfield 45, 3) := by decide +kernel
theorem dd_M_insert_29 : decode prog_6_method_12_code 29 = .ok (.bipush 31, 2) := by decide +kernel
theorem dd_M_insert_31 : decode prog_6_method_12_code 31 = .ok (.iload_n 2, 1) := by decide +kernel
theorem dd_M_insert_32 : decode prog_6_method_12_code 32 = .ok (.imul, 1) := by decide +kernel
theorem dd_M_insert_33 : decode prog_6_method_12_code 33 = .ok (.iload 4, 2) := by decide +kernel
theorem dd_M_insert_35 : decode prog_6_method_12_code 35 = .ok (.iadd, 1) := by decide +kernel
theorem dd_M_insert_36 : decode prog_6_method_12_code 36 = .ok (.iconst 1, 1) := by decide +kernel
theorem dd_M_insert_37 : decode prog_6_method_12_code 37 = .ok (.isub, 1) := by decide +kernel
theorem dd_M_insert_38 : decode prog_6_method_12_code 38 = .ok (.iaload, 1) := by decide +kernel
theorem dd_M_insert_39 : decode prog_6_method_12_code 39 = .ok (.iastore, 1) := by decide +kernel
theorem dd_M_insert_40 : decode prog_6_method_12_code 40 = .ok (.iinc 4 (-1), 3) := by decide +kernel
theorem dd_M_insert_43 : decode prog_6_method_12_code 43 = .ok (.goto (-35), 3) := by decide +kernel
theorem dd_M_insert_46 : decode prog_6_method_12_code 46 = .ok (.aload_n 0, 1) := by decide +kernel
theorem dd_M_insert_47 : decode prog_6_method_12_code 47 = .ok (.getfield 45, 3) := by decide +kernel
theorem dd_M_insert_50 : decode prog_6_method_12_code 50 = .ok (.bipush 31, 2) := by decide +kernel
theorem dd_M_insert_52 : decode prog_6_method_12_code 52 = .ok (.iload_n 2, 1) := by decide +kernel
theorem dd_M_insert_53 : decode prog_6_method_12_code 53 = .ok (.imul, 1) := by decide +kernel
theorem dd_M_insert_54 : decode prog_6_method_12_code 54 = .ok (.iload_n 3, 1) := by decide +kernel
theorem dd_M_insert_55 : decode prog_6_method_12_code 55 = .ok (.iadd, 1) := by decide +kernel
theorem dd_M_insert_56 : decode prog_6_method_12_code 56 = .ok (.iload_n 1, 1) := by decide +kernel
theorem dd_M_insert_57 : decode prog_6_method_12_code 57 = .ok (.iastore, 1) := by decide +kernel
theorem dd_M_insert_58 : decode prog_6_method_12_code 58 = .ok (.aload_n 0, 1) := by decide +kernel
theorem dd_M_insert_59 : decode prog_6_method_12_code 59 = .ok (.getfield 48, 3) := by decide +kernel
theorem dd_M_insert_62 : decode prog_6_method_12_code 62 = .ok (.iload_n 2, 1) := by decide +kernel
theorem dd_M_insert_63 : decode prog_6_method_12_code 63 = .ok (.dup2, 1) := by decide +kernel
theorem dd_M_insert_64 : decode prog_6_method_12_code 64 = .ok (.iaload, 1) := by decide +kernel
theorem dd_M_insert_65 : decode prog_6_method_12_code 65 = .ok (.iconst 1, 1) := by decide +kernel
theorem dd_M_insert_66 : decode prog_6_method_12_code 66 = .ok (.iadd, 1) := by decide +kernel
theorem dd_M_insert_67 : decode prog_6_method_12_code 67 = .ok (.iastore, 1) := by decide +kernel
theorem dd_M_insert_68 : decode prog_6_method_12_code 68 = .ok (.return_, 1) := by decide +kernel
def wp_M_insert_8 (g : Gm) (post : Hp → Prop) : Nat → Hp → Nat → Int32 → Int32 → Int32 → Int32 → Prop
  | 0, _, _, _, _, _, _ => False
  | fu + 1, h, v0, v1, v2, v3, v4 => ((v4 ≤ v3 → hK h v0 = 5 ∧ ∃ a3 : Nat, hR h v0 15 = some a3 ∧ ∀ x4 : Int32, x4 = 31 * v2 → ∀ x5 : Int32, x5 = x4 + v3 → hK h a3 = 21 ∧ vp_in x5 (hN h a3) ∧ ∀ h7 : Hp, h7 = sI h a3 x5.toNatClampNeg v1 → hK h7 v0 = 5 ∧ ∃ a9 : Nat, hR h7 v0 16 = some a9 ∧ hK h7 a9 = 21 ∧ vp_in v2 (hN h7 a9) ∧ ∀ x11 : Int32, x11 = (hI h7 a9 v2.toNatClampNeg) + 1 → hK h7 a9 = 21 ∧ vp_in v2 (hN h7 a9) ∧ ∀ h13 : Hp, h13 = sI h7 a9 v2.toNatClampNeg x11 → post h13) ∧ (¬ v4 ≤ v3 → hK h v0 = 5 ∧ ∃ a15 : Nat, hR h v0 15 = some a15 ∧ ∀ x16 : Int32, x16 = 31 * v2 → ∀ x17 : Int32, x17 = x16 + v4 → hK h v0 = 5 ∧ ∃ a19 : Nat, hR h v0 15 = some a19 ∧ ∀ x20 : Int32, x20 = 31 * v2 → ∀ x21 : Int32, x21 = x20 + v4 → ∀ x22 : Int32, x22 = x21 - 1 → hK h a19 = 21 ∧ vp_in x22 (hN h a19) ∧ hK h a15 = 21 ∧ vp_in x17 (hN h a15) ∧ ∀ h25 : Hp, h25 = sI h a15 x17.toNatClampNeg (hI h a19 x22.toNatClampNeg) → ∀ x26 : Int32, x26 = v4 + (-1) → wp_M_insert_8 g post fu h25 v0 v1 v2 v3 x26))
set_option maxHeartbeats 4000000 in
set_option maxRecDepth 100000 in
theorem wk_M_insert_8 {p : Program} {l : Launch} {e : Env} {s : State} {m : MethodId} {args : Array Value} {below : List Frame} {meth : Method} {c : Code} {g : Gm} {post : Hp → Prop} (C0 : Cx g p s m args c prog_6_method_12_code 5 "SegmentLocksModel") (hr : meth.sig.returnType = none) (hlk : meth.locks = false) : ∀ n : Nat, ∀ (h : Hp) (v0 : Nat) (v1 : Int32) (v2 : Int32) (v3 : Int32) (v4 : Int32) (H : Heap) (locs : List Loc) (ls : Array Slot), wp_M_insert_8 g post n h v0 v1 v2 v3 v4 → GH g h H → va_S (gA g) s.heap H locs → lv_has ls 5 [(0, .ref v0), (1, .int v1), (2, .int v2), (3, .int v3), (4, .int v4)] → W p l e (rmm 0 0 0 0) s m args below meth c H locs 0 0 (MQ below (va_Qv post (gS g) (gA g)) args s 0 0 (gA g)) (F0 m 8 ls []) := by
  obtain ⟨hx, hb, -, hown, hts, hgk⟩ := id C0
  intro n
  induction n with
  | zero =>
    intro h v0 v1 v2 v3 v4 H locs ls hw hG hS hl
    exact hw.elim
  | succ n ih =>
    intro h v0 v1 v2 v3 v4 H locs ls hw hG hS hl
    unfold wp_M_insert_8 at hw
    refine lv_iload hx hb dd_M_insert_8 (lv_at hl 4 rfl) ?_
    refine lv_iload_n hx hb dd_M_insert_10 rfl (lv_at hl 3 rfl) ?_
    refine lv_icmp_le (tgt := 46) hx hb dd_M_insert_11 (by decide) (fun c1 => ?_) (fun c1 => ?_)
    · replace hw := hw.1 c1
      refine lv_aload_n hx hb dd_M_insert_46 rfl (lv_at hl 0 rfl) ?_
      obtain ⟨k2, a3, ea3, hw⟩ := hw
      refine gf_M_45 C0 hG k2 ea3 dd_M_insert_47 ?_
      refine lv_bipush (v := 31) hx hb dd_M_insert_50 (by decide) ?_
      refine lv_iload_n hx hb dd_M_insert_52 rfl (lv_at hl 2 rfl) ?_
      refine lv_imul hx hb dd_M_insert_53 ?_
      refine lv_topi (fun x4 ex4 => ?_)
      replace hw := hw x4 ex4
      refine lv_iload_n hx hb dd_M_insert_54 rfl (lv_at hl 3 rfl) ?_
      refine lv_iadd hx hb dd_M_insert_55 ?_
      refine lv_topi (fun x5 ex5 => ?_)
      replace hw := hw x5 ex5
      refine lv_iload_n hx hb dd_M_insert_56 rfl (lv_at hl 1 rfl) ?_
      obtain ⟨k6, k6i, hw⟩ := hw
      refine px_iast C0 hG hS k6 k6i dd_M_insert_57 (fun H locs hG hS => ?_)
      replace hw := hw _ rfl
      generalize sI h a3 x5.toNatClampNeg v1 = h7 at hw hG
      refine lv_aload_n hx hb dd_M_insert_58 rfl (lv_at hl 0 rfl) ?_
      obtain ⟨k8, a9, ea9, hw⟩ := hw
      refine gf_M_48 C0 hG k8 ea9 dd_M_insert_59 ?_
      refine lv_iload_n hx hb dd_M_insert_62 rfl (lv_at hl 2 rfl) ?_
      refine lv_dup2_11 hx hb dd_M_insert_63 rfl rfl ?_
      obtain ⟨k10, k10i, hw⟩ := hw
      refine px_iald C0 hG k10 k10i dd_M_insert_64 ?_
      refine lv_iconst (v := 1) hx hb dd_M_insert_65 (by decide) ?_
      refine lv_iadd hx hb dd_M_insert_66 ?_
      refine lv_topi (fun x11 ex11 => ?_)
      replace hw := hw x11 ex11
      obtain ⟨k12, k12i, hw⟩ := hw
      refine px_iast C0 hG hS k12 k12i dd_M_insert_67 (fun H locs hG hS => ?_)
      replace hw := hw _ rfl
      generalize sI h7 a9 v2.toNatClampNeg x11 = h13 at hw hG
      exact re_v C0 hG hS hr hlk ⟨Nat.le_refl _, Nat.le_refl _⟩ hw dd_M_insert_68
    · replace hw := hw.2 c1
      refine lv_aload_n hx hb dd_M_insert_14 rfl (lv_at hl 0 rfl) ?_
      obtain ⟨k14, a15, ea15, hw⟩ := hw
      refine gf_M_45 C0 hG k14 ea15 dd_M_insert_15 ?_
      refine lv_bipush (v := 31) hx hb dd_M_insert_18 (by decide) ?_
      refine lv_iload_n hx hb dd_M_insert_20 rfl (lv_at hl 2 rfl) ?_
      refine lv_imul hx hb dd_M_insert_21 ?_
      refine lv_topi (fun x16 ex16 => ?_)
      replace hw := hw x16 ex16
      refine lv_iload hx hb dd_M_insert_22 (lv_at hl 4 rfl) ?_
      refine lv_iadd hx hb dd_M_insert_24 ?_
      refine lv_topi (fun x17 ex17 => ?_)
      replace hw := hw x17 ex17
      refine lv_aload_n hx hb dd_M_insert_25 rfl (lv_at hl 0 rfl) ?_
      obtain ⟨k18, a19, ea19, hw⟩ := hw
      refine gf_M_45 C0 hG k18 ea19 dd_M_insert_26 ?_
      refine lv_bipush (v := 31) hx hb dd_M_insert_29 (by decide) ?_
      refine lv_iload_n hx hb dd_M_insert_31 rfl (lv_at hl 2 rfl) ?_
      refine lv_imul hx hb dd_M_insert_32 ?_
      refine lv_topi (fun x20 ex20 => ?_)
      replace hw := hw x20 ex20
      refine lv_iload hx hb dd_M_insert_33 (lv_at hl 4 rfl) ?_
      refine lv_iadd hx hb dd_M_insert_35 ?_
      refine lv_topi (fun x21 ex21 => ?_)
      replace hw := hw x21 ex21
      refine lv_iconst (v := 1) hx hb dd_M_insert_36 (by decide) ?_
      refine lv_isub hx hb dd_M_insert_37 ?_
      refine lv_topi (fun x22 ex22 => ?_)
      replace hw := hw x22 ex22
      obtain ⟨k23, k23i, hw⟩ := hw
      refine px_iald C0 hG k23 k23i dd_M_insert_38 ?_
      obtain ⟨k24, k24i, hw⟩ := hw
      refine px_iast C0 hG hS k24 k24i dd_M_insert_39 (fun H locs hG hS => ?_)
      replace hw := hw _ rfl
      generalize sI h a15 x17.toNatClampNeg (hI h a19 x22.toNatClampNeg) = h25 at hw hG
      obtain ⟨x26, ex26⟩ : ∃ y : Int32, y = v4 + (-1) := ⟨_, rfl⟩
      replace hw := hw x26 ex26
      have hl0 := hl
      clear hl
      refine lv_iinc (v := x26) (lv' := [(4, .int x26), (0, .ref v0), (1, .int v1), (2, .int v2), (3, .int v3)]) hx hb dd_M_insert_40 hl0 (k := 4) rfl (by rw [ex26]; rfl) (by decide) rfl (fun ls hl => ?_)
      refine lv_goto (tgt := 8) hx hb dd_M_insert_43 (by decide) ?_
      exact ih _ _ _ _ _ _ _ _ _ hw hG hS (lv_sub hl [1, 2, 3, 4, 0] rfl)
def wp_M_insert (g : Gm) (post : Hp → Prop) (h : Hp) (a0 : Nat) (i1 : Int32) (i2 : Int32) (i3 : Int32) : Prop := hK h a0 = 5 ∧ ∃ a2 : Nat, hR h a0 16 = some a2 ∧ hK h a2 = 21 ∧ vp_in i2 (hN h a2) ∧ ∃ n : Nat, wp_M_insert_8 g post n h a0 i1 i2 i3 (hI h a2 i2.toNatClampNeg)
set_option maxHeartbeats 4000000 in
set_option maxRecDepth 100000 in
theorem c_M_insert (l : Launch) (g : Gm) (post : Hp → Prop) (h : Hp) (a0 : Nat) (i1 : Int32) (i2 : Int32) (i3 : Int32) (hw : wp_M_insert g post h a0 i1 i2 i3) : Met l (⟨"SegmentLocksModel", "insert", "(III)V"⟩ : MethodName) (ww (⟨"SegmentLocksModel", "insert", "(III)V"⟩ : MethodName) prog_6_method_12_code 5 none) (rmm 0 0 0 0) (va_Pc [.ref a0, .int i1, .int i2, .int i3] (gS g h)) (va_Qv post (gS g) (gA g)) 0 0 (gA g) := by
  first | refine en_met (by decide) ?_ | refine en_metF (by decide) ?_
  intro p e s m below meth c C0 hr hlk hin hG
  have hS : va_S (gA g) s.heap s.heap [] := va_S.rf
  have hl := lv_entry ([.ref a0, .int i1, .int i2, .int i3]) (n := 5) (Nat.le_of_ble_eq_true rfl)
  rw [lg_entry_eq]
  generalize (lg_sl ([.ref a0, .int i1, .int i2, .int i3]) ++ List.replicate (5 - (lg_sl ([.ref a0, .int i1, .int i2, .int i3])).length) Slot.unset).toArray = ls at hl ⊢
  replace hl : lv_has ls 5 [(0, .ref a0), (1, .int i1), (2, .int i2), (3, .int i3)] := hl
  obtain ⟨hx, hb, -, hown, hts, hgk⟩ := id C0
  unfold wp_M_insert at hw
  refine lv_aload_n hx hb dd_M_insert_0 rfl (lv_at hl 0 rfl) ?_
  obtain ⟨k1, a2, ea2, hw⟩ := hw
  refine gf_M_48 C0 hG k1 ea2 dd_M_insert_1 ?_
  refine lv_iload_n hx hb dd_M_insert_4 rfl (lv_at hl 2 rfl) ?_
  obtain ⟨k3, k3i, hw⟩ := hw
  refine px_iald C0 hG k3 k3i dd_M_insert_5 ?_
  have hl0 := hl
  clear hl
  refine lv_istore (lv' := [(4, .int (hI h a2 i2.toNatClampNeg)), (0, .ref a0), (1, .int i1), (2, .int i2), (3, .int i3)]) hx hb dd_M_insert_6 hl0 (by decide) rfl (fun ls hl => ?_)
  obtain ⟨n, hw⟩ := hw
  exact wk_M_insert_8 C0 hr hlk n _ _ _ _ _ _ _ _ _ hw hG hS (lv_sub hl [1, 2, 3, 4, 0] rfl)
/-! SegmentLocksModel.placeOf(I)I -/
theorem dd_M_placeOf_0 : decode prog_6_method_11_code 0 = .ok (.aload_n 0, 1) := by decide +kernel
theorem dd_M_placeOf_1 : decode prog_6_method_11_code 1 = .ok (.getfield 23, 3) := by decide +kernel
theorem dd_M_placeOf_4 : decode prog_6_method_11_code 4 = .ok (.iload_n 1, 1) := by decide +kernel
theorem dd_M_placeOf_5 : decode prog_6_method_11_code 5 = .ok (.iaload, 1) := by decide +kernel
theorem dd_M_placeOf_6 : decode prog_6_method_11_code 6 = .ok (.istore_n 2, 1) := by decide +kernel
theorem dd_M_placeOf_7 : decode prog_6_method_11_code 7 = .ok (.iconst (-1), 1) := by decide +kernel
theorem dd_M_placeOf_8 : decode prog_6_method_11_code 8 = .ok (.istore_n 3, 1) := by decide +kernel
theorem dd_M_placeOf_9 : decode prog_6_method_11_code 9 = .ok (.iconst 0, 1) := by decide +kernel
theorem dd_M_placeOf_10 : decode prog_6_method_11_code 10 = .ok (.istore 4, 2) := by decide +kernel
theorem dd_M_placeOf_12 : decode prog_6_method_11_code 12 = .ok (.iload_n 2, 1) := by decide +kernel
theorem dd_M_placeOf_13 : decode prog_6_method_11_code 13 = .ok (.iconst (-1), 1) := by decide +kernel
theorem dd_M_placeOf_14 : decode prog_6_method_11_code 14 = .ok (.if_icmp .eq 43, 3) := by decide +kernel
theorem dd_M_placeOf_17 : decode prog_6_method_11_code 17 = .ok (.iload 4, 2) := by decide +kernel
theorem dd_M_placeOf_19 : decode prog_6_method_11_code 19 = .ok (.aload_n 0, 1) := by decide +kernel
theorem dd_M_placeOf_20 : decode prog_6_method_11_code 20 = .ok (.getfield 48, 3) := by decide +kernel
theorem dd_M_placeOf_23 : decode prog_6_method_11_code 23 = .ok (.iload_n 2, 1) := by decide +kernel
theorem dd_M_placeOf_24 : decode prog_6_method_11_code 24 = .ok (.iaload, 1) := by decide +kernel
theorem dd_M_placeOf_25 : decode prog_6_method_11_code 25 = .ok (.if_icmp .ge 32, 3) := by decide +kernel
theorem dd_M_placeOf_28 : decode prog_6_method_11_code 28 = .ok (.aload_n 0, 1) := by decide +kernel
theorem dd_M_placeOf_29 : decode prog_6_method_11_code 29 = .ok (.getfield 45, 3) := by decide +kernel
theorem dd_M_placeOf_32 : decode prog_6_method_11_code 32 = .ok (.bipush 31, 2) := by decide +kernel
theorem dd_M_placeOf_34 : decode prog_6_method_11_code 34 = .ok (.iload_n 2, 1) := by decide +kernel
theorem dd_M_placeOf_35 : decode prog_6_method_11_code 35 = .ok (.imul, 1) := by decide +kernel
theorem dd_M_placeOf_36 : decode prog_6_method_11_code 36 = .ok (.iload 4, 2) := by decide +kernel
theorem dd_M_placeOf_38 : decode prog_6_method_11_code 38 = .ok (.iadd, 1) := by decide +kernel
theorem dd_M_placeOf_39 : decode prog_6_method_11_code 39 = .ok (.iaload, 1) := by decide +kernel
theorem dd_M_placeOf_40 : decode prog_6_method_11_code 40 = .ok (.iload_n 1, 1) := by decide +kernel
theorem dd_M_placeOf_41 : decode prog_6_method_11_code 41 = .ok (.if_icmp .ne 8, 3) := by decide +kernel
theorem dd_M_placeOf_44 : decode prog_6_method_11_code 44 = .ok (.iload 4, 2) := by decide +kernel
theorem dd_M_placeOf_46 : decode prog_6_method_11_code 46 = .ok (.goto 4, 3) := by decide +kernel
theorem dd_M_placeOf_49 : decode prog_6_method_11_code 49 = .ok (.iload_n 3, 1) := by decide +kernel
theorem dd_M_placeOf_50 : decode prog_6_method_11_code 50 = .ok (.istore_n 3, 1) := by decide +kernel
theorem dd_M_placeOf_51 : decode prog_6_method_11_code 51 = .ok (.iinc 4 1, 3) := by decide +kernel
theorem dd_M_placeOf_54 : decode prog_6_method_11_code 54 = .ok (.goto (-42), 3) := by decide +kernel
theorem dd_M_placeOf_57 : decode prog_6_method_11_code 57 = .ok (.iload_n 3, 1) := by decide +kernel
theorem dd_M_placeOf_58 : decode prog_6_method_11_code 58 = .ok (.ireturn, 1) := by decide +kernel
def wp_M_placeOf_57 (g : Gm) (post : Int32 → Prop) (h : Hp) (v3 : Int32) : Prop := post v3
set_option maxHeartbeats 4000000 in
set_option maxRecDepth 100000 in
theorem wk_M_placeOf_57 {p : Program} {l : Launch} {e : Env} {s : State} {m : MethodId} {args : Array Value} {below : List Frame} {meth : Method} {c : Code} {g : Gm} {post : Int32 → Prop} (C0 : Cx g p s m args c prog_6_method_11_code 5 "SegmentLocksModel") (hr : meth.sig.returnType = (some .int)) (hlk : meth.locks = false) : ∀ (h : Hp) (v3 : Int32) (ls : Array Slot), wp_M_placeOf_57 g post h v3 → GH g h s.heap → lv_has ls 5 [(3, .int v3)] → W p l e (rmm 0 0 0 0) s m args below meth c s.heap [] 0 0 (MQ below (vp_Si post) args s 0 0 (fun _ => False)) (F0 m 57 ls []) := by
  obtain ⟨hx, hb, -, hown, hts, hgk⟩ := id C0
  have hS : va_S (gA g) s.heap s.heap [] := va_S.rf
  intro h v3 ls hw hG hl
  unfold wp_M_placeOf_57 at hw
  refine lv_iload_n hx hb dd_M_placeOf_57 rfl (lv_at hl 0 rfl) ?_
  exact rs_i C0 hr hlk hw dd_M_placeOf_58
def wp_M_placeOf_50 (g : Gm) (post : Int32 → Prop) (K12 : Hp → Nat → Int32 → Int32 → Int32 → Int32 → Prop) (h : Hp) (v0 : Nat) (v1 : Int32) (v2 : Int32) (v4 : Int32) (s0 : Int32) : Prop := ∀ x1 : Int32, x1 = v4 + 1 → K12 h v0 v1 v2 s0 x1
set_option maxHeartbeats 4000000 in
set_option maxRecDepth 100000 in
theorem wk_M_placeOf_50 {p : Program} {l : Launch} {e : Env} {s : State} {m : MethodId} {args : Array Value} {below : List Frame} {meth : Method} {c : Code} {g : Gm} {post : Int32 → Prop} (C0 : Cx g p s m args c prog_6_method_11_code 5 "SegmentLocksModel") (hr : meth.sig.returnType = (some .int)) (hlk : meth.locks = false) {K12 : Hp → Nat → Int32 → Int32 → Int32 → Int32 → Prop} (hK12 : ∀ (h : Hp) (v0 : Nat) (v1 : Int32) (v2 : Int32) (v3 : Int32) (v4 : Int32) (ls : Array Slot), K12 h v0 v1 v2 v3 v4 → GH g h s.heap → lv_has ls 5 [(0, .ref v0), (1, .int v1), (2, .int v2), (3, .int v3), (4, .int v4)] → W p l e (rmm 0 0 0 0) s m args below meth c s.heap [] 0 0 (MQ below (vp_Si post) args s 0 0 (fun _ => False)) (F0 m 12 ls [])) : ∀ (h : Hp) (v0 : Nat) (v1 : Int32) (v2 : Int32) (v4 : Int32) (s0 : Int32) (ls : Array Slot), wp_M_placeOf_50 g post K12 h v0 v1 v2 v4 s0 → GH g h s.heap → lv_has ls 5 [(0, .ref v0), (1, .int v1), (2, .int v2), (4, .int v4)] → W p l e (rmm 0 0 0 0) s m args below meth c s.heap [] 0 0 (MQ below (vp_Si post) args s 0 0 (fun _ => False)) (F0 m 50 ls [.int s0]) := by
  obtain ⟨hx, hb, -, hown, hts, hgk⟩ := id C0
  have hS : va_S (gA g) s.heap s.heap [] := va_S.rf
  intro h v0 v1 v2 v4 s0 ls hw hG hl
  unfold wp_M_placeOf_50 at hw
  have hl0 := hl
  clear hl
  refine lv_istore_n (lv' := [(3, .int s0), (0, .ref v0), (1, .int v1), (2, .int v2), (4, .int v4)]) hx hb dd_M_placeOf_50 rfl hl0 (by decide) rfl (fun ls hl => ?_)
  obtain ⟨x1, ex1⟩ : ∃ y : Int32, y = v4 + 1 := ⟨_, rfl⟩
  replace hw := hw x1 ex1
  have hl0 := hl
  clear hl
  refine lv_iinc (v := x1) (lv' := [(4, .int x1), (3, .int s0), (0, .ref v0), (1, .int v1), (2, .int v2)]) hx hb dd_M_placeOf_51 hl0 (k := 4) rfl (by rw [ex1]; rfl) (by decide) rfl (fun ls hl => ?_)
  refine lv_goto (tgt := 12) hx hb dd_M_placeOf_54 (by decide) ?_
  exact hK12 _ _ _ _ _ _ _ hw hG (lv_sub hl [2, 3, 4, 1, 0] rfl)
def wp_M_placeOf_12 (g : Gm) (post : Int32 → Prop) : Nat → Hp → Nat → Int32 → Int32 → Int32 → Int32 → Prop
  | 0, _, _, _, _, _, _ => False
  | fu + 1, h, v0, v1, v2, v3, v4 => ((v2 = (-1) → wp_M_placeOf_57 g post h v3) ∧ (¬ v2 = (-1) → hK h v0 = 5 ∧ ∃ a3 : Nat, hR h v0 16 = some a3 ∧ hK h a3 = 21 ∧ vp_in v2 (hN h a3) ∧ (((hI h a3 v2.toNatClampNeg) ≤ v4 → wp_M_placeOf_57 g post h v3) ∧ (¬ (hI h a3 v2.toNatClampNeg) ≤ v4 → hK h v0 = 5 ∧ ∃ a7 : Nat, hR h v0 15 = some a7 ∧ ∀ x8 : Int32, x8 = 31 * v2 → ∀ x9 : Int32, x9 = x8 + v4 → hK h a7 = 21 ∧ vp_in x9 (hN h a7) ∧ ((¬ (hI h a7 x9.toNatClampNeg) = v1 → wp_M_placeOf_50 g post (fun h v0 v1 v2 v3 v4 => wp_M_placeOf_12 g post fu h v0 v1 v2 v3 v4) h v0 v1 v2 v4 v3) ∧ ((hI h a7 x9.toNatClampNeg) = v1 → wp_M_placeOf_50 g post (fun h v0 v1 v2 v3 v4 => wp_M_placeOf_12 g post fu h v0 v1 v2 v3 v4) h v0 v1 v2 v4 v4))))))
set_option maxHeartbeats 4000000 in
set_option maxRecDepth 100000 in
theorem wk_M_placeOf_12 {p : Program} {l : Launch} {e : Env} {s : State} {m : MethodId} {args : Array Value} {below : List Frame} {meth : Method} {c : Code} {g : Gm} {post : Int32 → Prop} (C0 : Cx g p s m args c prog_6_method_11_code 5 "SegmentLocksModel") (hr : meth.sig.returnType = (some .int)) (hlk : meth.locks = false) : ∀ n : Nat, ∀ (h : Hp) (v0 : Nat) (v1 : Int32) (v2 : Int32) (v3 : Int32) (v4 : Int32) (ls : Array Slot), wp_M_placeOf_12 g post n h v0 v1 v2 v3 v4 → GH g h s.heap → lv_has ls 5 [(0, .ref v0), (1, .int v1), (2, .int v2), (3, .int v3), (4, .int v4)] → W p l e (rmm 0 0 0 0) s m args below meth c s.heap [] 0 0 (MQ below (vp_Si post) args s 0 0 (fun _ => False)) (F0 m 12 ls []) := by
  obtain ⟨hx, hb, -, hown, hts, hgk⟩ := id C0
  have hS : va_S (gA g) s.heap s.heap [] := va_S.rf
  intro n
  induction n with
  | zero =>
    intro h v0 v1 v2 v3 v4 ls hw hG hl
    exact hw.elim
  | succ n ih =>
    intro h v0 v1 v2 v3 v4 ls hw hG hl
    unfold wp_M_placeOf_12 at hw
    refine lv_iload_n hx hb dd_M_placeOf_12 rfl (lv_at hl 2 rfl) ?_
    refine lv_iconst (v := (-1)) hx hb dd_M_placeOf_13 (by decide) ?_
    refine lv_icmp_eq (tgt := 57) hx hb dd_M_placeOf_14 (by decide) (fun c1 => ?_) (fun c1 => ?_)
    · replace hw := hw.1 c1
      exact wk_M_placeOf_57 C0 hr hlk _ _ _ hw hG (lv_sub hl [3] rfl)
    · replace hw := hw.2 c1
      refine lv_iload hx hb dd_M_placeOf_17 (lv_at hl 4 rfl) ?_
      refine lv_aload_n hx hb dd_M_placeOf_19 rfl (lv_at hl 0 rfl) ?_
      obtain ⟨k2, a3, ea3, hw⟩ := hw
      refine gf_M_48 C0 hG k2 ea3 dd_M_placeOf_20 ?_
      refine lv_iload_n hx hb dd_M_placeOf_23 rfl (lv_at hl 2 rfl) ?_
      obtain ⟨k4, k4i, hw⟩ := hw
      refine px_iald C0 hG k4 k4i dd_M_placeOf_24 ?_
      refine lv_icmp_ge (tgt := 57) hx hb dd_M_placeOf_25 (by decide) (fun c5 => ?_) (fun c5 => ?_)
      · replace hw := hw.1 c5
        exact wk_M_placeOf_57 C0 hr hlk _ _ _ hw hG (lv_sub hl [3] rfl)
      · replace hw := hw.2 c5
        refine lv_aload_n hx hb dd_M_placeOf_28 rfl (lv_at hl 0 rfl) ?_
        obtain ⟨k6, a7, ea7, hw⟩ := hw
        refine gf_M_45 C0 hG k6 ea7 dd_M_placeOf_29 ?_
        refine lv_bipush (v := 31) hx hb dd_M_placeOf_32 (by decide) ?_
        refine lv_iload_n hx hb dd_M_placeOf_34 rfl (lv_at hl 2 rfl) ?_
        refine lv_imul hx hb dd_M_placeOf_35 ?_
        refine lv_topi (fun x8 ex8 => ?_)
        replace hw := hw x8 ex8
        refine lv_iload hx hb dd_M_placeOf_36 (lv_at hl 4 rfl) ?_
        refine lv_iadd hx hb dd_M_placeOf_38 ?_
        refine lv_topi (fun x9 ex9 => ?_)
        replace hw := hw x9 ex9
        obtain ⟨k10, k10i, hw⟩ := hw
        refine px_iald C0 hG k10 k10i dd_M_placeOf_39 ?_
        refine lv_iload_n hx hb dd_M_placeOf_40 rfl (lv_at hl 1 rfl) ?_
        refine lv_icmp_ne (tgt := 49) hx hb dd_M_placeOf_41 (by decide) (fun c11 => ?_) (fun c11 => ?_)
        · replace hw := hw.1 c11
          refine lv_iload_n hx hb dd_M_placeOf_49 rfl (lv_at hl 3 rfl) ?_
          exact wk_M_placeOf_50 C0 hr hlk ih _ _ _ _ _ _ _ hw hG (lv_sub hl [0, 1, 2, 4] rfl)
        · replace hw := hw.2 c11
          refine lv_iload hx hb dd_M_placeOf_44 (lv_at hl 4 rfl) ?_
          refine lv_goto (tgt := 50) hx hb dd_M_placeOf_46 (by decide) ?_
          exact wk_M_placeOf_50 C0 hr hlk ih _ _ _ _ _ _ _ hw hG (lv_sub hl [0, 1, 2, 4] rfl)
def wp_M_placeOf (g : Gm) (post : Int32 → Prop) (h : Hp) (a0 : Nat) (i1 : Int32) : Prop := hK h a0 = 5 ∧ ∃ a2 : Nat, hR h a0 7 = some a2 ∧ hK h a2 = 21 ∧ vp_in i1 (hN h a2) ∧ ∃ n : Nat, wp_M_placeOf_12 g post n h a0 i1 (hI h a2 i1.toNatClampNeg) (-1) 0
set_option maxHeartbeats 4000000 in
set_option maxRecDepth 100000 in
theorem c_M_placeOf (l : Launch) (g : Gm) (post : Int32 → Prop) (h : Hp) (a0 : Nat) (i1 : Int32) (hw : wp_M_placeOf g post h a0 i1) : Met l (⟨"SegmentLocksModel", "placeOf", "(I)I"⟩ : MethodName) (ww (⟨"SegmentLocksModel", "placeOf", "(I)I"⟩ : MethodName) prog_6_method_11_code 5 (some .int)) (rmm 0 0 0 0) (va_Pc [.ref a0, .int i1] (gS g h)) (vp_Si post) 0 0 (fun _ => False) := by
  first | refine en_met (by decide) ?_ | refine en_metF (by decide) ?_
  intro p e s m below meth c C0 hr hlk hin hG
  have hS : va_S (gA g) s.heap s.heap [] := va_S.rf
  have hl := lv_entry ([.ref a0, .int i1]) (n := 5) (Nat.le_of_ble_eq_true rfl)
  rw [lg_entry_eq]
  generalize (lg_sl ([.ref a0, .int i1]) ++ List.replicate (5 - (lg_sl ([.ref a0, .int i1])).length) Slot.unset).toArray = ls at hl ⊢
  replace hl : lv_has ls 5 [(0, .ref a0), (1, .int i1)] := hl
  obtain ⟨hx, hb, -, hown, hts, hgk⟩ := id C0
  unfold wp_M_placeOf at hw
  refine lv_aload_n hx hb dd_M_placeOf_0 rfl (lv_at hl 0 rfl) ?_
  obtain ⟨k1, a2, ea2, hw⟩ := hw
  refine gf_M_23 C0 hG k1 ea2 dd_M_placeOf_1 ?_
  refine lv_iload_n hx hb dd_M_placeOf_4 rfl (lv_at hl 1 rfl) ?_
  obtain ⟨k3, k3i, hw⟩ := hw
  refine px_iald C0 hG k3 k3i dd_M_placeOf_5 ?_
  have hl0 := hl
  clear hl
  refine lv_istore_n (lv' := [(2, .int (hI h a2 i1.toNatClampNeg)), (0, .ref a0), (1, .int i1)]) hx hb dd_M_placeOf_6 rfl hl0 (by decide) rfl (fun ls hl => ?_)
  refine lv_iconst (v := (-1)) hx hb dd_M_placeOf_7 (by decide) ?_
  have hl0 := hl
  clear hl
  refine lv_istore_n (lv' := [(3, .int (-1)), (2, .int (hI h a2 i1.toNatClampNeg)), (0, .ref a0), (1, .int i1)]) hx hb dd_M_placeOf_8 rfl hl0 (by decide) rfl (fun ls hl => ?_)
  refine lv_iconst (v := 0) hx hb dd_M_placeOf_9 (by decide) ?_
  have hl0 := hl
  clear hl
  refine lv_istore (lv' := [(4, .int 0), (3, .int (-1)), (2, .int (hI h a2 i1.toNatClampNeg)), (0, .ref a0), (1, .int i1)]) hx hb dd_M_placeOf_10 hl0 (by decide) rfl (fun ls hl => ?_)
  obtain ⟨n, hw⟩ := hw
  exact wk_M_placeOf_12 C0 hr hlk n _ _ _ _ _ _ _ hw hG (lv_sub hl [3, 4, 2, 1, 0] rfl)
/-! SegmentLocksModel.isBlocked(II)Z -/
theorem dd_M_isBlocked_0 : decode prog_6_method_18_code 0 = .ok (.aload_n 0, 1) := by decide +kernel
theorem dd_M_isBlocked_1 : decode prog_6_method_18_code 1 = .ok (.getfield 23, 3) := by decide +kernel
theorem dd_M_isBlocked_4 : decode prog_6_method_18_code 4 = .ok (.iload_n 1, 1) := by decide +kernel
theorem dd_M_isBlocked_5 : decode prog_6_method_18_code 5 = .ok (.iaload, 1) := by decide +kernel
theorem dd_M_isBlocked_6 : decode prog_6_method_18_code 6 = .ok (.istore_n 3, 1) := by decide +kernel
theorem dd_M_isBlocked_7 : decode prog_6_method_18_code 7 = .ok (.iload_n 3, 1) := by decide +kernel
theorem dd_M_isBlocked_8 : decode prog_6_method_18_code 8 = .ok (.iconst (-1), 1) := by decide +kernel
theorem dd_M_isBlocked_9 : decode prog_6_method_18_code 9 = .ok (.if_icmp .eq 8, 3) := by decide +kernel
theorem dd_M_isBlocked_12 : decode prog_6_method_18_code 12 = .ok (.iload_n 2, 1) := by decide +kernel
theorem dd_M_isBlocked_13 : decode prog_6_method_18_code 13 = .ok (.iload_n 1, 1) := by decide +kernel
theorem dd_M_isBlocked_14 : decode prog_6_method_18_code 14 = .ok (.if_icmp .ne 5, 3) := by decide +kernel
theorem dd_M_isBlocked_17 : decode prog_6_method_18_code 17 = .ok (.iconst 0, 1) := by decide +kernel
theorem dd_M_isBlocked_18 : decode prog_6_method_18_code 18 = .ok (.ireturn, 1) := by decide +kernel
theorem dd_M_isBlocked_19 : decode prog_6_method_18_code 19 = .ok (.aload_n 0, 1) := by decide +kernel
theorem dd_M_isBlocked_20 : decode prog_6_method_18_code 20 = .ok (.getfield 23, 3) := by decide +kernel
theorem dd_M_isBlocked_23 : decode prog_6_method_18_code 23 = .ok (.iload_n 2, 1) := by decide +kernel
theorem dd_M_isBlocked_24 : decode prog_6_method_18_code 24 = .ok (.iaload, 1) := by decide +kernel
theorem dd_M_isBlocked_25 : decode prog_6_method_18_code 25 = .ok (.iload_n 3, 1) := by decide +kernel
theorem dd_M_isBlocked_26 : decode prog_6_method_18_code 26 = .ok (.if_icmp .ne 20, 3) := by decide +kernel
theorem dd_M_isBlocked_29 : decode prog_6_method_18_code 29 = .ok (.aload_n 0, 1) := by decide +kernel
theorem dd_M_isBlocked_30 : decode prog_6_method_18_code 30 = .ok (.iload_n 2, 1) := by decide +kernel
theorem dd_M_isBlocked_31 : decode prog_6_method_18_code 31 = .ok (.invokevirtual 111, 3) := by decide +kernel
theorem dd_M_isBlocked_34 : decode prog_6_method_18_code 34 = .ok (.aload_n 0, 1) := by decide +kernel
theorem dd_M_isBlocked_35 : decode prog_6_method_18_code 35 = .ok (.iload_n 1, 1) := by decide +kernel
theorem dd_M_isBlocked_36 : decode prog_6_method_18_code 36 = .ok (.invokevirtual 111, 3) := by decide +kernel
theorem dd_M_isBlocked_39 : decode prog_6_method_18_code 39 = .ok (.if_icmp .ge 7, 3) := by decide +kernel
theorem dd_M_isBlocked_42 : decode prog_6_method_18_code 42 = .ok (.iconst 1, 1) := by decide +kernel
theorem dd_M_isBlocked_43 : decode prog_6_method_18_code 43 = .ok (.goto 4, 3) := by decide +kernel
theorem dd_M_isBlocked_46 : decode prog_6_method_18_code 46 = .ok (.iconst 0, 1) := by decide +kernel
theorem dd_M_isBlocked_47 : decode prog_6_method_18_code 47 = .ok (.istore 4, 2) := by decide +kernel
theorem dd_M_isBlocked_49 : decode prog_6_method_18_code 49 = .ok (.iload 4, 2) := by decide +kernel
theorem dd_M_isBlocked_51 : decode prog_6_method_18_code 51 = .ok (.ifCond .ne 39, 3) := by decide +kernel
theorem dd_M_isBlocked_54 : decode prog_6_method_18_code 54 = .ok (.aload_n 0, 1) := by decide +kernel
theorem dd_M_isBlocked_55 : decode prog_6_method_18_code 55 = .ok (.getfield 29, 3) := by decide +kernel
theorem dd_M_isBlocked_58 : decode prog_6_method_18_code 58 = .ok (.iload_n 2, 1) := by decide +kernel
theorem dd_M_isBlocked_59 : decode prog_6_method_18_code 59 = .ok (.iload_n 3, 1) := by decide +kernel
theorem dd_M_isBlocked_60 : decode prog_6_method_18_code 60 = .ok (.invokestatic 79, 3) := by decide +kernel
theorem dd_M_isBlocked_63 : decode prog_6_method_18_code 63 = .ok (.iaload, 1) := by decide +kernel
theorem dd_M_isBlocked_64 : decode prog_6_method_18_code 64 = .ok (.iconst (-1), 1) := by decide +kernel
theorem dd_M_isBlocked_65 : decode prog_6_method_18_code 65 = .ok (.if_icmp .eq 29, 3) := by decide +kernel
theorem dd_M_isBlocked_68 : decode prog_6_method_18_code 68 = .ok (.aload_n 0, 1) := by decide +kernel
theorem dd_M_isBlocked_69 : decode prog_6_method_18_code 69 = .ok (.getfield 29, 3) := by decide +kernel
theorem dd_M_isBlocked_72 : decode prog_6_method_18_code 72 = .ok (.iload_n 2, 1) := by decide +kernel
theorem dd_M_isBlocked_73 : decode prog_6_method_18_code 73 = .ok (.iload_n 3, 1) := by decide +kernel
theorem dd_M_isBlocked_74 : decode prog_6_method_18_code 74 = .ok (.invokestatic 79, 3) := by decide +kernel
theorem dd_M_isBlocked_77 : decode prog_6_method_18_code 77 = .ok (.iaload, 1) := by decide +kernel
theorem dd_M_isBlocked_78 : decode prog_6_method_18_code 78 = .ok (.aload_n 0, 1) := by decide +kernel
theorem dd_M_isBlocked_79 : decode prog_6_method_18_code 79 = .ok (.getfield 26, 3) := by decide +kernel
theorem dd_M_isBlocked_82 : decode prog_6_method_18_code 82 = .ok (.iload_n 1, 1) := by decide +kernel
theorem dd_M_isBlocked_83 : decode prog_6_method_18_code 83 = .ok (.iaload, 1) := by decide +kernel
theorem dd_M_isBlocked_84 : decode prog_6_method_18_code 84 = .ok (.invokestatic 83, 3) := by decide +kernel
theorem dd_M_isBlocked_87 : decode prog_6_method_18_code 87 = .ok (.ifCond .ne 7, 3) := by decide +kernel
theorem dd_M_isBlocked_90 : decode prog_6_method_18_code 90 = .ok (.iconst 1, 1) := by decide +kernel
theorem dd_M_isBlocked_91 : decode prog_6_method_18_code 91 = .ok (.goto 4, 3) := by decide +kernel
theorem dd_M_isBlocked_94 : decode prog_6_method_18_code 94 = .ok (.iconst 0, 1) := by decide +kernel
theorem dd_M_isBlocked_95 : decode prog_6_method_18_code 95 = .ok (.ireturn, 1) := by decide +kernel
def wp_M_isBlocked_17 (g : Gm) (post : Int32 → Prop) (h : Hp) : Prop := zB 0 ∧ post 0
set_option maxHeartbeats 4000000 in
set_option maxRecDepth 100000 in
theorem wk_M_isBlocked_17 {p : Program} {l : Launch} {e : Env} {s : State} {m : MethodId} {args : Array Value} {below : List Frame} {meth : Method} {c : Code} {g : Gm} {post : Int32 → Prop} (C0 : Cx g p s m args c prog_6_method_18_code 5 "SegmentLocksModel") (hr : meth.sig.returnType = (some .boolean)) (hlk : meth.locks = false) : ∀ (h : Hp) (ls : Array Slot), wp_M_isBlocked_17 g post h → GH g h s.heap → lv_has ls 5 [] → W p l e (rmm 1 24 0 0) s m args below meth c s.heap [] 0 0 (MQ below (vp_Si post) args s 0 0 (fun _ => False)) (F0 m 17 ls []) := by
  obtain ⟨hx, hb, -, hown, hts, hgk⟩ := id C0
  have hS : va_S (gA g) s.heap s.heap [] := va_S.rf
  intro h ls hw hG hl
  unfold wp_M_isBlocked_17 at hw
  refine lv_iconst (v := 0) hx hb dd_M_isBlocked_17 (by decide) ?_
  exact rs_z C0 hr hlk hw.1.nar hw.2 dd_M_isBlocked_18
def wp_M_isBlocked_95 (g : Gm) (post : Int32 → Prop) (h : Hp) (s0 : Int32) : Prop := zB s0 ∧ post s0
set_option maxHeartbeats 4000000 in
set_option maxRecDepth 100000 in
theorem wk_M_isBlocked_95 {p : Program} {l : Launch} {e : Env} {s : State} {m : MethodId} {args : Array Value} {below : List Frame} {meth : Method} {c : Code} {g : Gm} {post : Int32 → Prop} (C0 : Cx g p s m args c prog_6_method_18_code 5 "SegmentLocksModel") (hr : meth.sig.returnType = (some .boolean)) (hlk : meth.locks = false) : ∀ (h : Hp) (s0 : Int32) (ls : Array Slot), wp_M_isBlocked_95 g post h s0 → GH g h s.heap → lv_has ls 5 [] → W p l e (rmm 1 24 0 0) s m args below meth c s.heap [] 0 0 (MQ below (vp_Si post) args s 0 0 (fun _ => False)) (F0 m 95 ls [.int s0]) := by
  obtain ⟨hx, hb, -, hown, hts, hgk⟩ := id C0
  have hS : va_S (gA g) s.heap s.heap [] := va_S.rf
  intro h s0 ls hw hG hl
  unfold wp_M_isBlocked_95 at hw
  exact rs_z C0 hr hlk hw.1.nar hw.2 dd_M_isBlocked_95
def wp_M_isBlocked_90 (g : Gm) (post : Int32 → Prop) (h : Hp) : Prop := wp_M_isBlocked_95 g post h 1
set_option maxHeartbeats 4000000 in
set_option maxRecDepth 100000 in
theorem wk_M_isBlocked_90 {p : Program} {l : Launch} {e : Env} {s : State} {m : MethodId} {args : Array Value} {below : List Frame} {meth : Method} {c : Code} {g : Gm} {post : Int32 → Prop} (C0 : Cx g p s m args c prog_6_method_18_code 5 "SegmentLocksModel") (hr : meth.sig.returnType = (some .boolean)) (hlk : meth.locks = false) : ∀ (h : Hp) (ls : Array Slot), wp_M_isBlocked_90 g post h → GH g h s.heap → lv_has ls 5 [] → W p l e (rmm 1 24 0 0) s m args below meth c s.heap [] 0 0 (MQ below (vp_Si post) args s 0 0 (fun _ => False)) (F0 m 90 ls []) := by
  obtain ⟨hx, hb, -, hown, hts, hgk⟩ := id C0
  have hS : va_S (gA g) s.heap s.heap [] := va_S.rf
  intro h ls hw hG hl
  unfold wp_M_isBlocked_90 at hw
  refine lv_iconst (v := 1) hx hb dd_M_isBlocked_90 (by decide) ?_
  refine lv_goto (tgt := 95) hx hb dd_M_isBlocked_91 (by decide) ?_
  exact wk_M_isBlocked_95 C0 hr hlk _ _ _ hw hG (lv_sub hl [] rfl)
def wp_M_isBlocked_94 (g : Gm) (post : Int32 → Prop) (h : Hp) : Prop := wp_M_isBlocked_95 g post h 0
set_option maxHeartbeats 4000000 in
set_option maxRecDepth 100000 in
theorem wk_M_isBlocked_94 {p : Program} {l : Launch} {e : Env} {s : State} {m : MethodId} {args : Array Value} {below : List Frame} {meth : Method} {c : Code} {g : Gm} {post : Int32 → Prop} (C0 : Cx g p s m args c prog_6_method_18_code 5 "SegmentLocksModel") (hr : meth.sig.returnType = (some .boolean)) (hlk : meth.locks = false) : ∀ (h : Hp) (ls : Array Slot), wp_M_isBlocked_94 g post h → GH g h s.heap → lv_has ls 5 [] → W p l e (rmm 1 24 0 0) s m args below meth c s.heap [] 0 0 (MQ below (vp_Si post) args s 0 0 (fun _ => False)) (F0 m 94 ls []) := by
  obtain ⟨hx, hb, -, hown, hts, hgk⟩ := id C0
  have hS : va_S (gA g) s.heap s.heap [] := va_S.rf
  intro h ls hw hG hl
  unfold wp_M_isBlocked_94 at hw
  refine lv_iconst (v := 0) hx hb dd_M_isBlocked_94 (by decide) ?_
  exact wk_M_isBlocked_95 C0 hr hlk _ _ _ hw hG (lv_sub hl [] rfl)
def wp_M_isBlocked_47 (g : Gm) (post : Int32 → Prop) (h : Hp) (v0 : Nat) (v1 : Int32) (v2 : Int32) (v3 : Int32) (s0 : Int32) : Prop := ((¬ s0 = 0 → wp_M_isBlocked_90 g post h) ∧ (s0 = 0 → hK h v0 = 5 ∧ ∃ a3 : Nat, hR h v0 9 = some a3 ∧ wp_M_of g (fun x6 => hK h a3 = 21 ∧ vp_in x6 (hN h a3) ∧ (((hI h a3 x6.toNatClampNeg) = (-1) → wp_M_isBlocked_94 g post h) ∧ (¬ (hI h a3 x6.toNatClampNeg) = (-1) → hK h v0 = 5 ∧ ∃ a10 : Nat, hR h v0 9 = some a10 ∧ wp_M_of g (fun x13 => hK h a10 = 21 ∧ vp_in x13 (hN h a10) ∧ hK h v0 = 5 ∧ ∃ a16 : Nat, hR h v0 8 = some a16 ∧ hK h a16 = 21 ∧ vp_in v1 (hN h a16) ∧ wp_M_areTogether g (fun x20 => ((¬ x20 = 0 → wp_M_isBlocked_94 g post h) ∧ (x20 = 0 → wp_M_isBlocked_90 g post h))) h (hI h a10 x13.toNatClampNeg) (hI h a16 v1.toNatClampNeg)) h v2 v3))) h v2 v3))
set_option maxHeartbeats 4000000 in
set_option maxRecDepth 100000 in
theorem wk_M_isBlocked_47 {p : Program} {l : Launch} {e : Env} {s : State} {m : MethodId} {args : Array Value} {below : List Frame} {meth : Method} {c : Code} {g : Gm} {post : Int32 → Prop} (C0 : Cx g p s m args c prog_6_method_18_code 5 "SegmentLocksModel") (hr : meth.sig.returnType = (some .boolean)) (hlk : meth.locks = false) : ∀ (h : Hp) (v0 : Nat) (v1 : Int32) (v2 : Int32) (v3 : Int32) (s0 : Int32) (ls : Array Slot), wp_M_isBlocked_47 g post h v0 v1 v2 v3 s0 → GH g h s.heap → lv_has ls 5 [(0, .ref v0), (1, .int v1), (2, .int v2), (3, .int v3)] → W p l e (rmm 1 24 0 0) s m args below meth c s.heap [] 0 0 (MQ below (vp_Si post) args s 0 0 (fun _ => False)) (F0 m 47 ls [.int s0]) := by
  obtain ⟨hx, hb, -, hown, hts, hgk⟩ := id C0
  have hS : va_S (gA g) s.heap s.heap [] := va_S.rf
  intro h v0 v1 v2 v3 s0 ls hw hG hl
  unfold wp_M_isBlocked_47 at hw
  have hl0 := hl
  clear hl
  refine lv_istore (lv' := [(4, .int s0), (0, .ref v0), (1, .int v1), (2, .int v2), (3, .int v3)]) hx hb dd_M_isBlocked_47 hl0 (by decide) rfl (fun ls hl => ?_)
  refine lv_iload hx hb dd_M_isBlocked_49 (lv_at hl 0 rfl) ?_
  refine lv_if_ne (tgt := 90) hx hb dd_M_isBlocked_51 (by decide) (fun c1 => ?_) (fun c1 => ?_)
  · replace hw := hw.1 c1
    exact wk_M_isBlocked_90 C0 hr hlk _ _ hw hG (lv_sub hl [] rfl)
  · replace hw := hw.2 c1
    refine lv_aload_n hx hb dd_M_isBlocked_54 rfl (lv_at hl 1 rfl) ?_
    obtain ⟨k2, a3, ea3, hw⟩ := hw
    refine gf_M_29 C0 hG k2 ea3 dd_M_isBlocked_55 ?_
    refine lv_iload_n hx hb dd_M_isBlocked_58 rfl (lv_at hl 3 rfl) ?_
    refine lv_iload_n hx hb dd_M_isBlocked_59 rfl (lv_at hl 4 rfl) ?_
    have hw0 := hw
    clear hw
    refine cs_i (rn_S C0 hG hS (c_M_of l g _ h v2 v3 hw0) (host := "") (nest := false) (n := 2) (As := [.int v2, .int v3]) (rest := [.ref a3]) km_420 km_419 km_422 km_421 ⟨by decide, by decide, by decide +kernel⟩ ⟨Nat.le_of_ble_eq_true rfl, Nat.le_of_ble_eq_true rfl⟩ rfl hl.1 rfl (Nat.le_of_ble_eq_true rfl) dd_M_isBlocked_60 ⟨Nat.le_refl _, Nat.le_refl _⟩) (fun x6 hw => ?_)
    obtain ⟨k7, k7i, hw⟩ := hw
    refine px_iald C0 hG k7 k7i dd_M_isBlocked_63 ?_
    refine lv_iconst (v := (-1)) hx hb dd_M_isBlocked_64 (by decide) ?_
    refine lv_icmp_eq (tgt := 94) hx hb dd_M_isBlocked_65 (by decide) (fun c8 => ?_) (fun c8 => ?_)
    · replace hw := hw.1 c8
      exact wk_M_isBlocked_94 C0 hr hlk _ _ hw hG (lv_sub hl [] rfl)
    · replace hw := hw.2 c8
      refine lv_aload_n hx hb dd_M_isBlocked_68 rfl (lv_at hl 1 rfl) ?_
      obtain ⟨k9, a10, ea10, hw⟩ := hw
      refine gf_M_29 C0 hG k9 ea10 dd_M_isBlocked_69 ?_
      refine lv_iload_n hx hb dd_M_isBlocked_72 rfl (lv_at hl 3 rfl) ?_
      refine lv_iload_n hx hb dd_M_isBlocked_73 rfl (lv_at hl 4 rfl) ?_
      have hw0 := hw
      clear hw
      refine cs_i (rn_S C0 hG hS (c_M_of l g _ h v2 v3 hw0) (host := "") (nest := false) (n := 2) (As := [.int v2, .int v3]) (rest := [.ref a10]) km_420 km_419 km_422 km_421 ⟨by decide, by decide, by decide +kernel⟩ ⟨Nat.le_of_ble_eq_true rfl, Nat.le_of_ble_eq_true rfl⟩ rfl hl.1 rfl (Nat.le_of_ble_eq_true rfl) dd_M_isBlocked_74 ⟨Nat.le_refl _, Nat.le_refl _⟩) (fun x13 hw => ?_)
      obtain ⟨k14, k14i, hw⟩ := hw
      refine px_iald C0 hG k14 k14i dd_M_isBlocked_77 ?_
      refine lv_aload_n hx hb dd_M_isBlocked_78 rfl (lv_at hl 1 rfl) ?_
      obtain ⟨k15, a16, ea16, hw⟩ := hw
      refine gf_M_26 C0 hG k15 ea16 dd_M_isBlocked_79 ?_
      refine lv_iload_n hx hb dd_M_isBlocked_82 rfl (lv_at hl 2 rfl) ?_
      obtain ⟨k17, k17i, hw⟩ := hw
      refine px_iald C0 hG k17 k17i dd_M_isBlocked_83 ?_
      have hw0 := hw
      clear hw
      refine cs_i (rn_S C0 hG hS (c_M_areTogether l g _ h (hI h a10 x13.toNatClampNeg) (hI h a16 v1.toNatClampNeg) hw0) (host := "") (nest := false) (n := 2) (As := [.int (hI h a10 x13.toNatClampNeg), .int (hI h a16 v1.toNatClampNeg)]) (rest := []) km_429 km_428 km_430 km_421 ⟨by decide, by decide, by decide +kernel⟩ ⟨Nat.le_of_ble_eq_true rfl, Nat.le_of_ble_eq_true rfl⟩ rfl hl.1 rfl (Nat.le_of_ble_eq_true rfl) dd_M_isBlocked_84 ⟨Nat.le_refl _, Nat.le_refl _⟩) (fun x20 hw => ?_)
      refine lv_if_ne (tgt := 94) hx hb dd_M_isBlocked_87 (by decide) (fun c21 => ?_) (fun c21 => ?_)
      · replace hw := hw.1 c21
        exact wk_M_isBlocked_94 C0 hr hlk _ _ hw hG (lv_sub hl [] rfl)
      · replace hw := hw.2 c21
        exact wk_M_isBlocked_90 C0 hr hlk _ _ hw hG (lv_sub hl [] rfl)
def wp_M_isBlocked_46 (g : Gm) (post : Int32 → Prop) (h : Hp) (v0 : Nat) (v1 : Int32) (v2 : Int32) (v3 : Int32) : Prop := wp_M_isBlocked_47 g post h v0 v1 v2 v3 0
set_option maxHeartbeats 4000000 in
set_option maxRecDepth 100000 in
theorem wk_M_isBlocked_46 {p : Program} {l : Launch} {e : Env} {s : State} {m : MethodId} {args : Array Value} {below : List Frame} {meth : Method} {c : Code} {g : Gm} {post : Int32 → Prop} (C0 : Cx g p s m args c prog_6_method_18_code 5 "SegmentLocksModel") (hr : meth.sig.returnType = (some .boolean)) (hlk : meth.locks = false) : ∀ (h : Hp) (v0 : Nat) (v1 : Int32) (v2 : Int32) (v3 : Int32) (ls : Array Slot), wp_M_isBlocked_46 g post h v0 v1 v2 v3 → GH g h s.heap → lv_has ls 5 [(0, .ref v0), (1, .int v1), (2, .int v2), (3, .int v3)] → W p l e (rmm 1 24 0 0) s m args below meth c s.heap [] 0 0 (MQ below (vp_Si post) args s 0 0 (fun _ => False)) (F0 m 46 ls []) := by
  obtain ⟨hx, hb, -, hown, hts, hgk⟩ := id C0
  have hS : va_S (gA g) s.heap s.heap [] := va_S.rf
  intro h v0 v1 v2 v3 ls hw hG hl
  unfold wp_M_isBlocked_46 at hw
  refine lv_iconst (v := 0) hx hb dd_M_isBlocked_46 (by decide) ?_
  exact wk_M_isBlocked_47 C0 hr hlk _ _ _ _ _ _ _ hw hG (lv_sub hl [0, 1, 2, 3] rfl)
def wp_M_isBlocked (g : Gm) (post : Int32 → Prop) (h : Hp) (a0 : Nat) (i1 : Int32) (i2 : Int32) : Prop := hK h a0 = 5 ∧ ∃ a2 : Nat, hR h a0 7 = some a2 ∧ hK h a2 = 21 ∧ vp_in i1 (hN h a2) ∧ (((hI h a2 i1.toNatClampNeg) = (-1) → wp_M_isBlocked_17 g post h) ∧ (¬ (hI h a2 i1.toNatClampNeg) = (-1) → ((¬ i2 = i1 → hK h a0 = 5 ∧ ∃ a7 : Nat, hR h a0 7 = some a7 ∧ hK h a7 = 21 ∧ vp_in i2 (hN h a7) ∧ ((¬ (hI h a7 i2.toNatClampNeg) = (hI h a2 i1.toNatClampNeg) → wp_M_isBlocked_46 g post h a0 i1 i2 (hI h a2 i1.toNatClampNeg)) ∧ ((hI h a7 i2.toNatClampNeg) = (hI h a2 i1.toNatClampNeg) → hK h a0 = 5 ∧ wp_M_placeOf g (fun x12 => hK h a0 = 5 ∧ wp_M_placeOf g (fun x15 => ((x15 ≤ x12 → wp_M_isBlocked_46 g post h a0 i1 i2 (hI h a2 i1.toNatClampNeg)) ∧ (¬ x15 ≤ x12 → wp_M_isBlocked_47 g post h a0 i1 i2 (hI h a2 i1.toNatClampNeg) 1))) h a0 i1) h a0 i2))) ∧ (i2 = i1 → wp_M_isBlocked_17 g post h))))
set_option maxHeartbeats 4000000 in
set_option maxRecDepth 100000 in
theorem c_M_isBlocked (l : Launch) (g : Gm) (post : Int32 → Prop) (h : Hp) (a0 : Nat) (i1 : Int32) (i2 : Int32) (hw : wp_M_isBlocked g post h a0 i1 i2) : Met l (⟨"SegmentLocksModel", "isBlocked", "(II)Z"⟩ : MethodName) (ww (⟨"SegmentLocksModel", "isBlocked", "(II)Z"⟩ : MethodName) prog_6_method_18_code 5 (some .boolean)) (rmm 1 24 0 0) (va_Pc [.ref a0, .int i1, .int i2] (gS g h)) (vp_Si post) 0 0 (fun _ => False) := by
  first | refine en_met (by decide) ?_ | refine en_metF (by decide) ?_
  intro p e s m below meth c C0 hr hlk hin hG
  have hS : va_S (gA g) s.heap s.heap [] := va_S.rf
  have hl := lv_entry ([.ref a0, .int i1, .int i2]) (n := 5) (Nat.le_of_ble_eq_true rfl)
  rw [lg_entry_eq]
  generalize (lg_sl ([.ref a0, .int i1, .int i2]) ++ List.replicate (5 - (lg_sl ([.ref a0, .int i1, .int i2])).length) Slot.unset).toArray = ls at hl ⊢
  replace hl : lv_has ls 5 [(0, .ref a0), (1, .int i1), (2, .int i2)] := hl
  obtain ⟨hx, hb, -, hown, hts, hgk⟩ := id C0
  unfold wp_M_isBlocked at hw
  refine lv_aload_n hx hb dd_M_isBlocked_0 rfl (lv_at hl 0 rfl) ?_
  obtain ⟨k1, a2, ea2, hw⟩ := hw
  refine gf_M_23 C0 hG k1 ea2 dd_M_isBlocked_1 ?_
  refine lv_iload_n hx hb dd_M_isBlocked_4 rfl (lv_at hl 1 rfl) ?_
  obtain ⟨k3, k3i, hw⟩ := hw
  refine px_iald C0 hG k3 k3i dd_M_isBlocked_5 ?_
  have hl0 := hl
  clear hl
  refine lv_istore_n (lv' := [(3, .int (hI h a2 i1.toNatClampNeg)), (0, .ref a0), (1, .int i1), (2, .int i2)]) hx hb dd_M_isBlocked_6 rfl hl0 (by decide) rfl (fun ls hl => ?_)
  refine lv_iload_n hx hb dd_M_isBlocked_7 rfl (lv_at hl 0 rfl) ?_
  refine lv_iconst (v := (-1)) hx hb dd_M_isBlocked_8 (by decide) ?_
  refine lv_icmp_eq (tgt := 17) hx hb dd_M_isBlocked_9 (by decide) (fun c4 => ?_) (fun c4 => ?_)
  · replace hw := hw.1 c4
    exact wk_M_isBlocked_17 C0 hr hlk _ _ hw hG (lv_sub hl [] rfl)
  · replace hw := hw.2 c4
    refine lv_iload_n hx hb dd_M_isBlocked_12 rfl (lv_at hl 3 rfl) ?_
    refine lv_iload_n hx hb dd_M_isBlocked_13 rfl (lv_at hl 2 rfl) ?_
    refine lv_icmp_ne (tgt := 19) hx hb dd_M_isBlocked_14 (by decide) (fun c5 => ?_) (fun c5 => ?_)
    · replace hw := hw.1 c5
      refine lv_aload_n hx hb dd_M_isBlocked_19 rfl (lv_at hl 1 rfl) ?_
      obtain ⟨k6, a7, ea7, hw⟩ := hw
      refine gf_M_23 C0 hG k6 ea7 dd_M_isBlocked_20 ?_
      refine lv_iload_n hx hb dd_M_isBlocked_23 rfl (lv_at hl 3 rfl) ?_
      obtain ⟨k8, k8i, hw⟩ := hw
      refine px_iald C0 hG k8 k8i dd_M_isBlocked_24 ?_
      refine lv_iload_n hx hb dd_M_isBlocked_25 rfl (lv_at hl 0 rfl) ?_
      refine lv_icmp_ne (tgt := 46) hx hb dd_M_isBlocked_26 (by decide) (fun c9 => ?_) (fun c9 => ?_)
      · replace hw := hw.1 c9
        exact wk_M_isBlocked_46 C0 hr hlk _ _ _ _ _ _ hw hG (lv_sub hl [1, 2, 3, 0] rfl)
      · replace hw := hw.2 c9
        refine lv_aload_n hx hb dd_M_isBlocked_29 rfl (lv_at hl 1 rfl) ?_
        refine lv_iload_n hx hb dd_M_isBlocked_30 rfl (lv_at hl 3 rfl) ?_
        obtain ⟨k10, hw⟩ := hw
        have hw0 := hw
        clear hw
        refine cs_i (rn_V C0 hG hS (c_M_placeOf l g _ h a0 i2 hw0) (ci := 4) k10 (by decide) rfl rfl (host := "") (nest := false) (n := 1) (As := [.int i2]) (rest := []) km_452 km_451 km_453 km_454 km_421 ⟨by decide, by decide, by decide +kernel⟩ ⟨Nat.le_of_ble_eq_true rfl, Nat.le_of_ble_eq_true rfl⟩ rfl hl.1 rfl (Nat.le_of_ble_eq_true rfl) dd_M_isBlocked_31 ⟨Nat.le_refl _, Nat.le_refl _⟩) (fun x12 hw => ?_)
        refine lv_aload_n hx hb dd_M_isBlocked_34 rfl (lv_at hl 1 rfl) ?_
        refine lv_iload_n hx hb dd_M_isBlocked_35 rfl (lv_at hl 2 rfl) ?_
        obtain ⟨k13, hw⟩ := hw
        have hw0 := hw
        clear hw
        refine cs_i (rn_V C0 hG hS (c_M_placeOf l g _ h a0 i1 hw0) (ci := 4) k13 (by decide) rfl rfl (host := "") (nest := false) (n := 1) (As := [.int i1]) (rest := [.int x12]) km_452 km_451 km_453 km_454 km_421 ⟨by decide, by decide, by decide +kernel⟩ ⟨Nat.le_of_ble_eq_true rfl, Nat.le_of_ble_eq_true rfl⟩ rfl hl.1 rfl (Nat.le_of_ble_eq_true rfl) dd_M_isBlocked_36 ⟨Nat.le_refl _, Nat.le_refl _⟩) (fun x15 hw => ?_)
        refine lv_icmp_ge (tgt := 46) hx hb dd_M_isBlocked_39 (by decide) (fun c16 => ?_) (fun c16 => ?_)
        · replace hw := hw.1 c16
          exact wk_M_isBlocked_46 C0 hr hlk _ _ _ _ _ _ hw hG (lv_sub hl [1, 2, 3, 0] rfl)
        · replace hw := hw.2 c16
          refine lv_iconst (v := 1) hx hb dd_M_isBlocked_42 (by decide) ?_
          refine lv_goto (tgt := 47) hx hb dd_M_isBlocked_43 (by decide) ?_
          exact wk_M_isBlocked_47 C0 hr hlk _ _ _ _ _ _ _ hw hG (lv_sub hl [1, 2, 3, 0] rfl)
    · replace hw := hw.2 c5
      exact wk_M_isBlocked_17 C0 hr hlk _ _ hw hG (lv_sub hl [] rfl)
/-! SegmentLocksModel.findRing(I)Z -/
theorem dd_M_findRing_0 : decode prog_6_method_19_code 0 = .ok (.iconst 0, 1) := by decide +kernel
theorem dd_M_findRing_1 : decode prog_6_method_19_code 1 = .ok (.istore_n 2, 1) := by decide +kernel
theorem dd_M_findRing_2 : decode prog_6_method_19_code 2 = .ok (.iload_n 2, 1) := by decide +kernel
theorem dd_M_findRing_3 : decode prog_6_method_19_code 3 = .ok (.bipush 30, 2) := by decide +kernel
theorem dd_M_findRing_5 : decode prog_6_method_19_code 5 = .ok (.if_icmp .gt 16, 3) := by decide +kernel
theorem dd_M_findRing_8 : decode prog_6_method_19_code 8 = .ok (.aload_n 0, 1) := by decide +kernel
theorem dd_M_findRing_9 : decode prog_6_method_19_code 9 = .ok (.getfield 66, 3) := by decide +kernel
theorem dd_M_findRing_12 : decode prog_6_method_19_code 12 = .ok (.iload_n 2, 1) := by decide +kernel
theorem dd_M_findRing_13 : decode prog_6_method_19_code 13 = .ok (.iconst (-1), 1) := by decide +kernel
theorem dd_M_findRing_14 : decode prog_6_method_19_code 14 = .ok (.iastore, 1) := by decide +kernel
theorem dd_M_findRing_15 : decode prog_6_method_19_code 15 = .ok (.iinc 2 1, 3) := by decide +kernel
theorem dd_M_findRing_18 : decode prog_6_method_19_code 18 = .ok (.goto (-16), 3) := by decide +kernel
theorem dd_M_findRing_21 : decode prog_6_method_19_code 21 = .ok (.aload_n 0, 1) := by decide +kernel
theorem dd_M_findRing_22 : decode prog_6_method_19_code 22 = .ok (.getfield 69, 3) := by decide +kernel
theorem dd_M_findRing_25 : decode prog_6_method_19_code 25 = .ok (.iconst 0, 1) := by decide +kernel
theorem dd_M_findRing_26 : decode prog_6_method_19_code 26 = .ok (.iload_n 1, 1) := by decide +kernel
theorem dd_M_findRing_27 : decode prog_6_method_19_code 27 = .ok (.iastore, 1) := by decide +kernel
theorem dd_M_findRing_28 : decode prog_6_method_19_code 28 = .ok (.aload_n 0, 1) := by decide +kernel
theorem dd_M_findRing_29 : decode prog_6_method_19_code 29 = .ok (.getfield 66, 3) := by decide +kernel
theorem dd_M_findRing_32 : decode prog_6_method_19_code 32 = .ok (.iload_n 1, 1) := by decide +kernel
theorem dd_M_findRing_33 : decode prog_6_method_19_code 33 = .ok (.iconst 0, 1) := by decide +kernel
theorem dd_M_findRing_34 : decode prog_6_method_19_code 34 = .ok (.iastore, 1) := by decide +kernel
theorem dd_M_findRing_35 : decode prog_6_method_19_code 35 = .ok (.iconst 1, 1) := by decide +kernel
theorem dd_M_findRing_36 : decode prog_6_method_19_code 36 = .ok (.istore_n 2, 1) := by decide +kernel
theorem dd_M_findRing_37 : decode prog_6_method_19_code 37 = .ok (.iconst 0, 1) := by decide +kernel
theorem dd_M_findRing_38 : decode prog_6_method_19_code 38 = .ok (.istore_n 3, 1) := by decide +kernel
theorem dd_M_findRing_39 : decode prog_6_method_19_code 39 = .ok (.iload_n 3, 1) := by decide +kernel
theorem dd_M_findRing_40 : decode prog_6_method_19_code 40 = .ok (.iload_n 2, 1) := by decide +kernel
theorem dd_M_findRing_41 : decode prog_6_method_19_code 41 = .ok (.if_icmp .ge 161, 3) := by decide +kernel
theorem dd_M_findRing_44 : decode prog_6_method_19_code 44 = .ok (.aload_n 0, 1) := by decide +kernel
theorem dd_M_findRing_45 : decode prog_6_method_19_code 45 = .ok (.getfield 69, 3) := by decide +kernel
theorem dd_M_findRing_48 : decode prog_6_method_19_code 48 = .ok (.iload_n 3, 1) := by decide +kernel
theorem dd_M_findRing_49 : decode prog_6_method_19_code 49 = .ok (.iaload, 1) := by decide +kernel
theorem dd_M_findRing_50 : decode prog_6_method_19_code 50 = .ok (.istore 4, 2) := by decide +kernel
theorem dd_M_findRing_52 : decode prog_6_method_19_code 52 = .ok (.iconst 1, 1) := by decide +kernel
theorem dd_M_findRing_53 : decode prog_6_method_19_code 53 = .ok (.istore 5, 2) := by decide +kernel
theorem dd_M_findRing_55 : decode prog_6_method_19_code 55 = .ok (.iload 5, 2) := by decide +kernel
theorem dd_M_findRing_57 : decode prog_6_method_19_code 57 = .ok (.aload_n 0, 1) := by decide +kernel
theorem dd_M_findRing_58 : decode prog_6_method_19_code 58 = .ok (.getfield 76, 3) := by decide +kernel
theorem dd_M_findRing_61 : decode prog_6_method_19_code 61 = .ok (.if_icmp .gt 135, 3) := by decide +kernel
theorem dd_M_findRing_64 : decode prog_6_method_19_code 64 = .ok (.aload_n 0, 1) := by decide +kernel
theorem dd_M_findRing_65 : decode prog_6_method_19_code 65 = .ok (.iload 4, 2) := by decide +kernel
theorem dd_M_findRing_67 : decode prog_6_method_19_code 67 = .ok (.iload 5, 2) := by decide +kernel
theorem dd_M_findRing_69 : decode prog_6_method_19_code 69 = .ok (.invokevirtual 114, 3) := by decide +kernel
theorem dd_M_findRing_72 : decode prog_6_method_19_code 72 = .ok (.ifCond .ne 6, 3) := by decide +kernel
theorem dd_M_findRing_75 : decode prog_6_method_19_code 75 = .ok (.goto 115, 3) := by decide +kernel
theorem dd_M_findRing_78 : decode prog_6_method_19_code 78 = .ok (.iload 5, 2) := by decide +kernel
theorem dd_M_findRing_80 : decode prog_6_method_19_code 80 = .ok (.iload_n 1, 1) := by decide +kernel
theorem dd_M_findRing_81 : decode prog_6_method_19_code 81 = .ok (.if_icmp .ne 59, 3) := by decide +kernel
theorem dd_M_findRing_84 : decode prog_6_method_19_code 84 = .ok (.aload_n 0, 1) := by decide +kernel
theorem dd_M_findRing_85 : decode prog_6_method_19_code 85 = .ok (.aload_n 0, 1) := by decide +kernel
theorem dd_M_findRing_86 : decode prog_6_method_19_code 86 = .ok (.getfield 66, 3) := by decide +kernel
theorem dd_M_findRing_89 : decode prog_6_method_19_code 89 = .ok (.iload 4, 2) := by decide +kernel
theorem dd_M_findRing_91 : decode prog_6_method_19_code 91 = .ok (.iaload, 1) := by decide +kernel
theorem dd_M_findRing_92 : decode prog_6_method_19_code 92 = .ok (.iconst 1, 1) := by decide +kernel
theorem dd_M_findRing_93 : decode prog_6_method_19_code 93 = .ok (.iadd, 1) := by decide +kernel
theorem dd_M_findRing_94 : decode prog_6_method_19_code 94 = .ok (.putfield 117, 3) := by decide +kernel
theorem dd_M_findRing_97 : decode prog_6_method_19_code 97 = .ok (.iload 4, 2) := by decide +kernel
theorem dd_M_findRing_99 : decode prog_6_method_19_code 99 = .ok (.istore 6, 2) := by decide +kernel
theorem dd_M_findRing_101 : decode prog_6_method_19_code 101 = .ok (.aload_n 0, 1) := by decide +kernel
theorem dd_M_findRing_102 : decode prog_6_method_19_code 102 = .ok (.getfield 117, 3) := by decide +kernel
theorem dd_M_findRing_105 : decode prog_6_method_19_code 105 = .ok (.iconst 1, 1) := by decide +kernel
theorem dd_M_findRing_106 : decode prog_6_method_19_code 106 = .ok (.isub, 1) := by decide +kernel
theorem dd_M_findRing_107 : decode prog_6_method_19_code 107 = .ok (.istore 7, 2) := by decide +kernel
theorem dd_M_findRing_109 : decode prog_6_method_19_code 109 = .ok (.iload 7, 2) := by decide +kernel
theorem dd_M_findRing_111 : decode prog_6_method_19_code 111 = .ok (.ifCond .lt 27, 3) := by decide +kernel
theorem dd_M_findRing_114 : decode prog_6_method_19_code 114 = .ok (.aload_n 0, 1) := by decide +kernel
theorem dd_M_findRing_115 : decode prog_6_method_19_code 115 = .ok (.getfield 60, 3) := by decide +kernel
theorem dd_M_findRing_118 : decode prog_6_method_19_code 118 = .ok (.iload 7, 2) := by decide +kernel
theorem dd_M_findRing_120 : decode prog_6_method_19_code 120 = .ok (.iload 6, 2) := by decide +kernel
theorem dd_M_findRing_122 : decode prog_6_method_19_code 122 = .ok (.iastore, 1) := by decide +kernel
theorem dd_M_findRing_123 : decode prog_6_method_19_code 123 = .ok (.aload_n 0, 1) := by decide +kernel
theorem dd_M_findRing_124 : decode prog_6_method_19_code 124 = .ok (.getfield 63, 3) := by decide +kernel
theorem dd_M_findRing_127 : decode prog_6_method_19_code 127 = .ok (.iload 6, 2) := by decide +kernel
theorem dd_M_findRing_129 : decode prog_6_method_19_code 129 = .ok (.iaload, 1) := by decide +kernel
theorem dd_M_findRing_130 : decode prog_6_method_19_code 130 = .ok (.istore 6, 2) := by decide +kernel
theorem dd_M_findRing_132 : decode prog_6_method_19_code 132 = .ok (.iinc 7 (-1), 3) := by decide +kernel
theorem dd_M_findRing_135 : decode prog_6_method_19_code 135 = .ok (.goto (-26), 3) := by decide +kernel
theorem dd_M_findRing_138 : decode prog_6_method_19_code 138 = .ok (.iconst 1, 1) := by decide +kernel
theorem dd_M_findRing_139 : decode prog_6_method_19_code 139 = .ok (.ireturn, 1) := by decide +kernel
theorem dd_M_findRing_140 : decode prog_6_method_19_code 140 = .ok (.aload_n 0, 1) := by decide +kernel
theorem dd_M_findRing_141 : decode prog_6_method_19_code 141 = .ok (.getfield 66, 3) := by decide +kernel
theorem dd_M_findRing_144 : decode prog_6_method_19_code 144 = .ok (.iload 5, 2) := by decide +kernel
theorem dd_M_findRing_146 : decode prog_6_method_19_code 146 = .ok (.iaload, 1) := by decide +kernel
theorem dd_M_findRing_147 : decode prog_6_method_19_code 147 = .ok (.iconst (-1), 1) := by decide +kernel
theorem dd_M_findRing_148 : decode prog_6_method_19_code 148 = .ok (.if_icmp .eq 6, 3) := by decide +kernel
theorem dd_M_findRing_151 : decode prog_6_method_19_code 151 = .ok (.goto 39, 3) := by decide +kernel
theorem dd_M_findRing_154 : decode prog_6_method_19_code 154 = .ok (.aload_n 0, 1) := by decide +kernel
theorem dd_M_findRing_155 : decode prog_6_method_19_code 155 = .ok (.getfield 66, 3) := by decide +kernel
theorem dd_M_findRing_158 : decode prog_6_method_19_code 158 = .ok (.iload 5, 2) := by decide +kernel
theorem dd_M_findRing_160 : decode prog_6_method_19_code 160 = .ok (.aload_n 0, 1) := by decide +kernel
theorem dd_M_findRing_161 : decode prog_6_method_19_code 161 = .ok (.getfield 66, 3) := by decide +kernel
theorem dd_M_findRing_164 : decode prog_6_method_19_code 164 = .ok (.iload 4, 2) := by decide +kernel
theorem dd_M_findRing_166 : decode prog_6_method_19_code 166 = .ok (.iaload, 1) := by decide +kernel
theorem dd_M_findRing_167 : decode prog_6_method_19_code 167 = .ok (.iconst 1, 1) := by decide +kernel
theorem dd_M_findRing_168 : decode prog_6_method_19_code 168 = .ok (.iadd, 1) := by decide +kernel
theorem dd_M_findRing_169 : decode prog_6_method_19_code 169 = .ok (.iastore, 1) := by decide +kernel
theorem dd_M_findRing_170 : decode prog_6_method_19_code 170 = .ok (.aload_n 0, 1) := by decide +kernel
theorem dd_M_findRing_171 : decode prog_6_method_19_code 171 = .ok (.getfield 63, 3) := by decide +kernel
theorem dd_M_findRing_174 : decode prog_6_method_19_code 174 = .ok (.iload 5, 2) := by decide +kernel
theorem dd_M_findRing_176 : decode prog_6_method_19_code 176 = .ok (.iload 4, 2) := by decide +kernel
theorem dd_M_findRing_178 : decode prog_6_method_19_code 178 = .ok (.iastore, 1) := by decide +kernel
theorem dd_M_findRing_179 : decode prog_6_method_19_code 179 = .ok (.aload_n 0, 1) := by decide +kernel
theorem dd_M_findRing_180 : decode prog_6_method_19_code 180 = .ok (.getfield 69, 3) := by decide +kernel
theorem dd_M_findRing_183 : decode prog_6_method_19_code 183 = .ok (.iload_n 2, 1) := by decide +kernel
theorem dd_M_findRing_184 : decode prog_6_method_19_code 184 = .ok (.iload 5, 2) := by decide +kernel
theorem dd_M_findRing_186 : decode prog_6_method_19_code 186 = .ok (.iastore, 1) := by decide +kernel
theorem dd_M_findRing_187 : decode prog_6_method_19_code 187 = .ok (.iinc 2 1, 3) := by decide +kernel
theorem dd_M_findRing_190 : decode prog_6_method_19_code 190 = .ok (.iinc 5 1, 3) := by decide +kernel
theorem dd_M_findRing_193 : decode prog_6_method_19_code 193 = .ok (.goto (-138), 3) := by decide +kernel
theorem dd_M_findRing_196 : decode prog_6_method_19_code 196 = .ok (.iinc 3 1, 3) := by decide +kernel
theorem dd_M_findRing_199 : decode prog_6_method_19_code 199 = .ok (.goto (-160), 3) := by decide +kernel
theorem dd_M_findRing_202 : decode prog_6_method_19_code 202 = .ok (.iconst 0, 1) := by decide +kernel
theorem dd_M_findRing_203 : decode prog_6_method_19_code 203 = .ok (.ireturn, 1) := by decide +kernel
def wp_M_findRing_190 (g : Gm) (post : Int32 → Hp → Prop) (K39 : Hp → Nat → Int32 → Int32 → Int32 → Prop) (K55 : Hp → Nat → Int32 → Int32 → Int32 → Int32 → Int32 → Prop) (h : Hp) (v0 : Nat) (v1 : Int32) (v2 : Int32) (v3 : Int32) (v4 : Int32) (v5 : Int32) : Prop := ∀ x1 : Int32, x1 = v5 + 1 → K55 h v0 v1 v2 v3 v4 x1
set_option maxHeartbeats 4000000 in
set_option maxRecDepth 100000 in
theorem wk_M_findRing_190 {p : Program} {l : Launch} {e : Env} {s : State} {m : MethodId} {args : Array Value} {below : List Frame} {meth : Method} {c : Code} {g : Gm} {post : Int32 → Hp → Prop} (C0 : Cx g p s m args c prog_6_method_19_code 8 "SegmentLocksModel") (hr : meth.sig.returnType = (some .boolean)) (hlk : meth.locks = false) {K39 : Hp → Nat → Int32 → Int32 → Int32 → Prop} (hK39 : ∀ (h : Hp) (v0 : Nat) (v1 : Int32) (v2 : Int32) (v3 : Int32) (H : Heap) (locs : List Loc) (ls : Array Slot), K39 h v0 v1 v2 v3 → GH g h H → va_S (gA g) s.heap H locs → lv_has ls 8 [(0, .ref v0), (1, .int v1), (2, .int v2), (3, .int v3)] → W p l e (rmm 2 48 0 0) s m args below meth c H locs 0 0 (MQ below (va_Qi post (gS g) (gA g)) args s 0 0 (gA g)) (F0 m 39 ls [])) {K55 : Hp → Nat → Int32 → Int32 → Int32 → Int32 → Int32 → Prop} (hK55 : ∀ (h : Hp) (v0 : Nat) (v1 : Int32) (v2 : Int32) (v3 : Int32) (v4 : Int32) (v5 : Int32) (H : Heap) (locs : List Loc) (ls : Array Slot), K55 h v0 v1 v2 v3 v4 v5 → GH g h H → va_S (gA g) s.heap H locs → lv_has ls 8 [(0, .ref v0), (1, .int v1), (2, .int v2), (3, .int v3), (4, .int v4), (5, .int v5)] → W p l e (rmm 2 48 0 0) s m args below meth c H locs 0 0 (MQ below (va_Qi post (gS g) (gA g)) args s 0 0 (gA g)) (F0 m 55 ls [])) : ∀ (h : Hp) (v0 : Nat) (v1 : Int32) (v2 : Int32) (v3 : Int32) (v4 : Int32) (v5 : Int32) (H : Heap) (locs : List Loc) (ls : Array Slot), wp_M_findRing_190 g post K39 K55 h v0 v1 v2 v3 v4 v5 → GH g h H → va_S (gA g) s.heap H locs → lv_has ls 8 [(0, .ref v0), (1, .int v1), (2, .int v2), (3, .int v3), (4, .int v4), (5, .int v5)] → W p l e (rmm 2 48 0 0) s m args below meth c H locs 0 0 (MQ below (va_Qi post (gS g) (gA g)) args s 0 0 (gA g)) (F0 m 190 ls []) := by
  obtain ⟨hx, hb, -, hown, hts, hgk⟩ := id C0
  intro h v0 v1 v2 v3 v4 v5 H locs ls hw hG hS hl
  unfold wp_M_findRing_190 at hw
  obtain ⟨x1, ex1⟩ : ∃ y : Int32, y = v5 + 1 := ⟨_, rfl⟩
  replace hw := hw x1 ex1
  have hl0 := hl
  clear hl
  refine lv_iinc (v := x1) (lv' := [(5, .int x1), (0, .ref v0), (1, .int v1), (2, .int v2), (3, .int v3), (4, .int v4)]) hx hb dd_M_findRing_190 hl0 (k := 5) rfl (by rw [ex1]; rfl) (by decide) rfl (fun ls hl => ?_)
  refine lv_goto (tgt := 55) hx hb dd_M_findRing_193 (by decide) ?_
  exact hK55 _ _ _ _ _ _ _ _ _ _ hw hG hS (lv_sub hl [1, 2, 3, 4, 5, 0] rfl)
def wp_M_findRing_109 (g : Gm) (post : Int32 → Hp → Prop) : Nat → Hp → Nat → Int32 → Int32 → Prop
  | 0, _, _, _, _ => False
  | fu + 1, h, v0, v6, v7 => ((v7 < 0 → zB 1 ∧ post 1 h) ∧ (¬ v7 < 0 → hK h v0 = 5 ∧ ∃ a3 : Nat, hR h v0 21 = some a3 ∧ hK h a3 = 21 ∧ vp_in v7 (hN h a3) ∧ ∀ h5 : Hp, h5 = sI h a3 v7.toNatClampNeg v6 → hK h5 v0 = 5 ∧ ∃ a7 : Nat, hR h5 v0 22 = some a7 ∧ hK h5 a7 = 21 ∧ vp_in v6 (hN h5 a7) ∧ ∀ x9 : Int32, x9 = v7 + (-1) → wp_M_findRing_109 g post fu h5 v0 (hI h5 a7 v6.toNatClampNeg) x9))
set_option maxHeartbeats 4000000 in
set_option maxRecDepth 100000 in
theorem wk_M_findRing_109 {p : Program} {l : Launch} {e : Env} {s : State} {m : MethodId} {args : Array Value} {below : List Frame} {meth : Method} {c : Code} {g : Gm} {post : Int32 → Hp → Prop} (C0 : Cx g p s m args c prog_6_method_19_code 8 "SegmentLocksModel") (hr : meth.sig.returnType = (some .boolean)) (hlk : meth.locks = false) : ∀ n : Nat, ∀ (h : Hp) (v0 : Nat) (v6 : Int32) (v7 : Int32) (H : Heap) (locs : List Loc) (ls : Array Slot), wp_M_findRing_109 g post n h v0 v6 v7 → GH g h H → va_S (gA g) s.heap H locs → lv_has ls 8 [(0, .ref v0), (6, .int v6), (7, .int v7)] → W p l e (rmm 2 48 0 0) s m args below meth c H locs 0 0 (MQ below (va_Qi post (gS g) (gA g)) args s 0 0 (gA g)) (F0 m 109 ls []) := by
  obtain ⟨hx, hb, -, hown, hts, hgk⟩ := id C0
  intro n
  induction n with
  | zero =>
    intro h v0 v6 v7 H locs ls hw hG hS hl
    exact hw.elim
  | succ n ih =>
    intro h v0 v6 v7 H locs ls hw hG hS hl
    unfold wp_M_findRing_109 at hw
    refine lv_iload hx hb dd_M_findRing_109 (lv_at hl 2 rfl) ?_
    refine lv_if_lt (tgt := 138) hx hb dd_M_findRing_111 (by decide) (fun c1 => ?_) (fun c1 => ?_)
    · replace hw := hw.1 c1
      refine lv_iconst (v := 1) hx hb dd_M_findRing_138 (by decide) ?_
      exact re_z C0 hG hS hr hlk ⟨Nat.le_refl _, Nat.le_refl _⟩ hw.1.nar hw.2 dd_M_findRing_139
    · replace hw := hw.2 c1
      refine lv_aload_n hx hb dd_M_findRing_114 rfl (lv_at hl 0 rfl) ?_
      obtain ⟨k2, a3, ea3, hw⟩ := hw
      refine gf_M_60 C0 hG k2 ea3 dd_M_findRing_115 ?_
      refine lv_iload hx hb dd_M_findRing_118 (lv_at hl 2 rfl) ?_
      refine lv_iload hx hb dd_M_findRing_120 (lv_at hl 1 rfl) ?_
      obtain ⟨k4, k4i, hw⟩ := hw
      refine px_iast C0 hG hS k4 k4i dd_M_findRing_122 (fun H locs hG hS => ?_)
      replace hw := hw _ rfl
      generalize sI h a3 v7.toNatClampNeg v6 = h5 at hw hG
      refine lv_aload_n hx hb dd_M_findRing_123 rfl (lv_at hl 0 rfl) ?_
      obtain ⟨k6, a7, ea7, hw⟩ := hw
      refine gf_M_63 C0 hG k6 ea7 dd_M_findRing_124 ?_
      refine lv_iload hx hb dd_M_findRing_127 (lv_at hl 1 rfl) ?_
      obtain ⟨k8, k8i, hw⟩ := hw
      refine px_iald C0 hG k8 k8i dd_M_findRing_129 ?_
      have hl0 := hl
      clear hl
      refine lv_istore (lv' := [(6, .int (hI h5 a7 v6.toNatClampNeg)), (0, .ref v0), (7, .int v7)]) hx hb dd_M_findRing_130 hl0 (by decide) rfl (fun ls hl => ?_)
      obtain ⟨x9, ex9⟩ : ∃ y : Int32, y = v7 + (-1) := ⟨_, rfl⟩
      replace hw := hw x9 ex9
      have hl0 := hl
      clear hl
      refine lv_iinc (v := x9) (lv' := [(7, .int x9), (6, .int (hI h5 a7 v6.toNatClampNeg)), (0, .ref v0)]) hx hb dd_M_findRing_132 hl0 (k := 2) rfl (by rw [ex9]; rfl) (by decide) rfl (fun ls hl => ?_)
      refine lv_goto (tgt := 109) hx hb dd_M_findRing_135 (by decide) ?_
      exact ih _ _ _ _ _ _ _ hw hG hS (lv_sub hl [2, 1, 0] rfl)
def wp_M_findRing_55 (g : Gm) (post : Int32 → Hp → Prop) (K39 : Hp → Nat → Int32 → Int32 → Int32 → Prop) : Nat → Hp → Nat → Int32 → Int32 → Int32 → Int32 → Int32 → Prop
  | 0, _, _, _, _, _, _, _ => False
  | fu + 1, h, v0, v1, v2, v3, v4, v5 => hK h v0 = 5 ∧ (((hI h v0 2) < v5 → ∀ x3 : Int32, x3 = v3 + 1 → K39 h v0 v1 v2 x3) ∧ (¬ (hI h v0 2) < v5 → hK h v0 = 5 ∧ wp_M_isBlocked g (fun x6 => ((¬ x6 = 0 → ((¬ v5 = v1 → hK h v0 = 5 ∧ ∃ a10 : Nat, hR h v0 23 = some a10 ∧ hK h a10 = 21 ∧ vp_in v5 (hN h a10) ∧ (((hI h a10 v5.toNatClampNeg) = (-1) → hK h v0 = 5 ∧ ∃ a14 : Nat, hR h v0 23 = some a14 ∧ hK h v0 = 5 ∧ ∃ a16 : Nat, hR h v0 23 = some a16 ∧ hK h a16 = 21 ∧ vp_in v4 (hN h a16) ∧ ∀ x18 : Int32, x18 = (hI h a16 v4.toNatClampNeg) + 1 → hK h a14 = 21 ∧ vp_in v5 (hN h a14) ∧ ∀ h20 : Hp, h20 = sI h a14 v5.toNatClampNeg x18 → hK h20 v0 = 5 ∧ ∃ a22 : Nat, hR h20 v0 22 = some a22 ∧ hK h20 a22 = 21 ∧ vp_in v5 (hN h20 a22) ∧ ∀ h24 : Hp, h24 = sI h20 a22 v5.toNatClampNeg v4 → hK h24 v0 = 5 ∧ ∃ a26 : Nat, hR h24 v0 24 = some a26 ∧ hK h24 a26 = 21 ∧ vp_in v2 (hN h24 a26) ∧ ∀ h28 : Hp, h28 = sI h24 a26 v2.toNatClampNeg v5 → ∀ x29 : Int32, x29 = v2 + 1 → wp_M_findRing_190 g post K39 (fun h v0 v1 v2 v3 v4 v5 => wp_M_findRing_55 g post K39 fu h v0 v1 v2 v3 v4 v5) h28 v0 v1 x29 v3 v4 v5) ∧ (¬ (hI h a10 v5.toNatClampNeg) = (-1) → wp_M_findRing_190 g post K39 (fun h v0 v1 v2 v3 v4 v5 => wp_M_findRing_55 g post K39 fu h v0 v1 v2 v3 v4 v5) h v0 v1 v2 v3 v4 v5))) ∧ (v5 = v1 → hK h v0 = 5 ∧ ∃ a31 : Nat, hR h v0 23 = some a31 ∧ hK h a31 = 21 ∧ vp_in v4 (hN h a31) ∧ ∀ x33 : Int32, x33 = (hI h a31 v4.toNatClampNeg) + 1 → hK h v0 = 5 ∧ ∀ h35 : Hp, h35 = sI h v0 25 x33 → hK h35 v0 = 5 ∧ ∀ x37 : Int32, x37 = (hI h35 v0 25) - 1 → ∃ n : Nat, wp_M_findRing_109 g post n h35 v0 v4 x37))) ∧ (x6 = 0 → wp_M_findRing_190 g post K39 (fun h v0 v1 v2 v3 v4 v5 => wp_M_findRing_55 g post K39 fu h v0 v1 v2 v3 v4 v5) h v0 v1 v2 v3 v4 v5))) h v0 v4 v5))
set_option maxHeartbeats 4000000 in
set_option maxRecDepth 100000 in
theorem wk_M_findRing_55 {p : Program} {l : Launch} {e : Env} {s : State} {m : MethodId} {args : Array Value} {below : List Frame} {meth : Method} {c : Code} {g : Gm} {post : Int32 → Hp → Prop} (C0 : Cx g p s m args c prog_6_method_19_code 8 "SegmentLocksModel") (hr : meth.sig.returnType = (some .boolean)) (hlk : meth.locks = false) {K39 : Hp → Nat → Int32 → Int32 → Int32 → Prop} (hK39 : ∀ (h : Hp) (v0 : Nat) (v1 : Int32) (v2 : Int32) (v3 : Int32) (H : Heap) (locs : List Loc) (ls : Array Slot), K39 h v0 v1 v2 v3 → GH g h H → va_S (gA g) s.heap H locs → lv_has ls 8 [(0, .ref v0), (1, .int v1), (2, .int v2), (3, .int v3)] → W p l e (rmm 2 48 0 0) s m args below meth c H locs 0 0 (MQ below (va_Qi post (gS g) (gA g)) args s 0 0 (gA g)) (F0 m 39 ls [])) : ∀ n : Nat, ∀ (h : Hp) (v0 : Nat) (v1 : Int32) (v2 : Int32) (v3 : Int32) (v4 : Int32) (v5 : Int32) (H : Heap) (locs : List Loc) (ls : Array Slot), wp_M_findRing_55 g post K39 n h v0 v1 v2 v3 v4 v5 → GH g h H → va_S (gA g) s.heap H locs → lv_has ls 8 [(0, .ref v0), (1, .int v1), (2, .int v2), (3, .int v3), (4, .int v4), (5, .int v5)] → W p l e (rmm 2 48 0 0) s m args below meth c H locs 0 0 (MQ below (va_Qi post (gS g) (gA g)) args s 0 0 (gA g)) (F0 m 55 ls []) := by
  obtain ⟨hx, hb, -, hown, hts, hgk⟩ := id C0
  intro n
  induction n with
  | zero =>
    intro h v0 v1 v2 v3 v4 v5 H locs ls hw hG hS hl
    exact hw.elim
  | succ n ih =>
    intro h v0 v1 v2 v3 v4 v5 H locs ls hw hG hS hl
    unfold wp_M_findRing_55 at hw
    refine lv_iload hx hb dd_M_findRing_55 (lv_at hl 5 rfl) ?_
    refine lv_aload_n hx hb dd_M_findRing_57 rfl (lv_at hl 0 rfl) ?_
    obtain ⟨k1, hw⟩ := hw
    refine gf_M_76 C0 hG k1 dd_M_findRing_58 ?_
    refine lv_icmp_gt (tgt := 196) hx hb dd_M_findRing_61 (by decide) (fun c2 => ?_) (fun c2 => ?_)
    · replace hw := hw.1 c2
      obtain ⟨x3, ex3⟩ : ∃ y : Int32, y = v3 + 1 := ⟨_, rfl⟩
      replace hw := hw x3 ex3
      have hl0 := hl
      clear hl
      refine lv_iinc (v := x3) (lv' := [(3, .int x3), (0, .ref v0), (1, .int v1), (2, .int v2), (4, .int v4), (5, .int v5)]) hx hb dd_M_findRing_196 hl0 (k := 3) rfl (by rw [ex3]; rfl) (by decide) rfl (fun ls hl => ?_)
      refine lv_goto (tgt := 39) hx hb dd_M_findRing_199 (by decide) ?_
      exact hK39 _ _ _ _ _ _ _ _ hw hG hS (lv_sub hl [1, 2, 3, 0] rfl)
    · replace hw := hw.2 c2
      refine lv_aload_n hx hb dd_M_findRing_64 rfl (lv_at hl 0 rfl) ?_
      refine lv_iload hx hb dd_M_findRing_65 (lv_at hl 4 rfl) ?_
      refine lv_iload hx hb dd_M_findRing_67 (lv_at hl 5 rfl) ?_
      obtain ⟨k4, hw⟩ := hw
      have hw0 := hw
      clear hw
      refine cs_i (rn_V C0 hG hS (c_M_isBlocked l g _ h v0 v4 v5 hw0) (ci := 4) k4 (by decide) rfl rfl (host := "") (nest := false) (n := 2) (As := [.int v4, .int v5]) (rest := []) km_457 km_456 km_458 km_459 km_421 ⟨by decide, by decide, by decide +kernel⟩ ⟨Nat.le_of_ble_eq_true rfl, Nat.le_of_ble_eq_true rfl⟩ rfl hl.1 rfl (Nat.le_of_ble_eq_true rfl) dd_M_findRing_69 ⟨Nat.le_refl _, Nat.le_refl _⟩) (fun x6 hw => ?_)
      refine lv_if_ne (tgt := 78) hx hb dd_M_findRing_72 (by decide) (fun c7 => ?_) (fun c7 => ?_)
      · replace hw := hw.1 c7
        refine lv_iload hx hb dd_M_findRing_78 (lv_at hl 5 rfl) ?_
        refine lv_iload_n hx hb dd_M_findRing_80 rfl (lv_at hl 1 rfl) ?_
        refine lv_icmp_ne (tgt := 140) hx hb dd_M_findRing_81 (by decide) (fun c8 => ?_) (fun c8 => ?_)
        · replace hw := hw.1 c8
          refine lv_aload_n hx hb dd_M_findRing_140 rfl (lv_at hl 0 rfl) ?_
          obtain ⟨k9, a10, ea10, hw⟩ := hw
          refine gf_M_66 C0 hG k9 ea10 dd_M_findRing_141 ?_
          refine lv_iload hx hb dd_M_findRing_144 (lv_at hl 5 rfl) ?_
          obtain ⟨k11, k11i, hw⟩ := hw
          refine px_iald C0 hG k11 k11i dd_M_findRing_146 ?_
          refine lv_iconst (v := (-1)) hx hb dd_M_findRing_147 (by decide) ?_
          refine lv_icmp_eq (tgt := 154) hx hb dd_M_findRing_148 (by decide) (fun c12 => ?_) (fun c12 => ?_)
          · replace hw := hw.1 c12
            refine lv_aload_n hx hb dd_M_findRing_154 rfl (lv_at hl 0 rfl) ?_
            obtain ⟨k13, a14, ea14, hw⟩ := hw
            refine gf_M_66 C0 hG k13 ea14 dd_M_findRing_155 ?_
            refine lv_iload hx hb dd_M_findRing_158 (lv_at hl 5 rfl) ?_
            refine lv_aload_n hx hb dd_M_findRing_160 rfl (lv_at hl 0 rfl) ?_
            obtain ⟨k15, a16, ea16, hw⟩ := hw
            refine gf_M_66 C0 hG k15 ea16 dd_M_findRing_161 ?_
            refine lv_iload hx hb dd_M_findRing_164 (lv_at hl 4 rfl) ?_
            obtain ⟨k17, k17i, hw⟩ := hw
            refine px_iald C0 hG k17 k17i dd_M_findRing_166 ?_
            refine lv_iconst (v := 1) hx hb dd_M_findRing_167 (by decide) ?_
            refine lv_iadd hx hb dd_M_findRing_168 ?_
            refine lv_topi (fun x18 ex18 => ?_)
            replace hw := hw x18 ex18
            obtain ⟨k19, k19i, hw⟩ := hw
            refine px_iast C0 hG hS k19 k19i dd_M_findRing_169 (fun H locs hG hS => ?_)
            replace hw := hw _ rfl
            generalize sI h a14 v5.toNatClampNeg x18 = h20 at hw hG
            refine lv_aload_n hx hb dd_M_findRing_170 rfl (lv_at hl 0 rfl) ?_
            obtain ⟨k21, a22, ea22, hw⟩ := hw
            refine gf_M_63 C0 hG k21 ea22 dd_M_findRing_171 ?_
            refine lv_iload hx hb dd_M_findRing_174 (lv_at hl 5 rfl) ?_
            refine lv_iload hx hb dd_M_findRing_176 (lv_at hl 4 rfl) ?_
            obtain ⟨k23, k23i, hw⟩ := hw
            refine px_iast C0 hG hS k23 k23i dd_M_findRing_178 (fun H locs hG hS => ?_)
            replace hw := hw _ rfl
            generalize sI h20 a22 v5.toNatClampNeg v4 = h24 at hw hG
            refine lv_aload_n hx hb dd_M_findRing_179 rfl (lv_at hl 0 rfl) ?_
            obtain ⟨k25, a26, ea26, hw⟩ := hw
            refine gf_M_69 C0 hG k25 ea26 dd_M_findRing_180 ?_
            refine lv_iload_n hx hb dd_M_findRing_183 rfl (lv_at hl 2 rfl) ?_
            refine lv_iload hx hb dd_M_findRing_184 (lv_at hl 5 rfl) ?_
            obtain ⟨k27, k27i, hw⟩ := hw
            refine px_iast C0 hG hS k27 k27i dd_M_findRing_186 (fun H locs hG hS => ?_)
            replace hw := hw _ rfl
            generalize sI h24 a26 v2.toNatClampNeg v5 = h28 at hw hG
            obtain ⟨x29, ex29⟩ : ∃ y : Int32, y = v2 + 1 := ⟨_, rfl⟩
            replace hw := hw x29 ex29
            have hl0 := hl
            clear hl
            refine lv_iinc (v := x29) (lv' := [(2, .int x29), (0, .ref v0), (1, .int v1), (3, .int v3), (4, .int v4), (5, .int v5)]) hx hb dd_M_findRing_187 hl0 (k := 2) rfl (by rw [ex29]; rfl) (by decide) rfl (fun ls hl => ?_)
            exact wk_M_findRing_190 C0 hr hlk hK39 ih _ _ _ _ _ _ _ _ _ _ hw hG hS (lv_sub hl [1, 2, 0, 3, 4, 5] rfl)
          · replace hw := hw.2 c12
            refine lv_goto (tgt := 190) hx hb dd_M_findRing_151 (by decide) ?_
            exact wk_M_findRing_190 C0 hr hlk hK39 ih _ _ _ _ _ _ _ _ _ _ hw hG hS (lv_sub hl [0, 1, 2, 3, 4, 5] rfl)
        · replace hw := hw.2 c8
          refine lv_aload_n hx hb dd_M_findRing_84 rfl (lv_at hl 0 rfl) ?_
          refine lv_aload_n hx hb dd_M_findRing_85 rfl (lv_at hl 0 rfl) ?_
          obtain ⟨k30, a31, ea31, hw⟩ := hw
          refine gf_M_66 C0 hG k30 ea31 dd_M_findRing_86 ?_
          refine lv_iload hx hb dd_M_findRing_89 (lv_at hl 4 rfl) ?_
          obtain ⟨k32, k32i, hw⟩ := hw
          refine px_iald C0 hG k32 k32i dd_M_findRing_91 ?_
          refine lv_iconst (v := 1) hx hb dd_M_findRing_92 (by decide) ?_
          refine lv_iadd hx hb dd_M_findRing_93 ?_
          refine lv_topi (fun x33 ex33 => ?_)
          replace hw := hw x33 ex33
          obtain ⟨k34, hw⟩ := hw
          refine pf_M_117 C0 hG hS k34 dd_M_findRing_94 (fun H locs hG hS => ?_)
          replace hw := hw _ rfl
          generalize sI h v0 25 x33 = h35 at hw hG
          refine lv_iload hx hb dd_M_findRing_97 (lv_at hl 4 rfl) ?_
          have hl0 := hl
          clear hl
          refine lv_istore (lv' := [(6, .int v4), (0, .ref v0), (1, .int v1), (2, .int v2), (3, .int v3), (4, .int v4), (5, .int v5)]) hx hb dd_M_findRing_99 hl0 (by decide) rfl (fun ls hl => ?_)
          refine lv_aload_n hx hb dd_M_findRing_101 rfl (lv_at hl 1 rfl) ?_
          obtain ⟨k36, hw⟩ := hw
          refine gf_M_117 C0 hG k36 dd_M_findRing_102 ?_
          refine lv_iconst (v := 1) hx hb dd_M_findRing_105 (by decide) ?_
          refine lv_isub hx hb dd_M_findRing_106 ?_
          refine lv_topi (fun x37 ex37 => ?_)
          replace hw := hw x37 ex37
          have hl0 := hl
          clear hl
          refine lv_istore (lv' := [(7, .int x37), (6, .int v4), (0, .ref v0), (1, .int v1), (2, .int v2), (3, .int v3), (4, .int v4), (5, .int v5)]) hx hb dd_M_findRing_107 hl0 (by decide) rfl (fun ls hl => ?_)
          obtain ⟨n, hw⟩ := hw
          exact wk_M_findRing_109 C0 hr hlk n _ _ _ _ _ _ _ hw hG hS (lv_sub hl [2, 1, 0] rfl)
      · replace hw := hw.2 c7
        refine lv_goto (tgt := 190) hx hb dd_M_findRing_75 (by decide) ?_
        exact wk_M_findRing_190 C0 hr hlk hK39 ih _ _ _ _ _ _ _ _ _ _ hw hG hS (lv_sub hl [0, 1, 2, 3, 4, 5] rfl)
def wp_M_findRing_39 (g : Gm) (post : Int32 → Hp → Prop) : Nat → Hp → Nat → Int32 → Int32 → Int32 → Prop
  | 0, _, _, _, _, _ => False
  | fu + 1, h, v0, v1, v2, v3 => ((v2 ≤ v3 → zB 0 ∧ post 0 h) ∧ (¬ v2 ≤ v3 → hK h v0 = 5 ∧ ∃ a3 : Nat, hR h v0 24 = some a3 ∧ hK h a3 = 21 ∧ vp_in v3 (hN h a3) ∧ ∃ n : Nat, wp_M_findRing_55 g post (fun h v0 v1 v2 v3 => wp_M_findRing_39 g post fu h v0 v1 v2 v3) n h v0 v1 v2 v3 (hI h a3 v3.toNatClampNeg) 1))
set_option maxHeartbeats 4000000 in
set_option maxRecDepth 100000 in
theorem wk_M_findRing_39 {p : Program} {l : Launch} {e : Env} {s : State} {m : MethodId} {args : Array Value} {below : List Frame} {meth : Method} {c : Code} {g : Gm} {post : Int32 → Hp → Prop} (C0 : Cx g p s m args c prog_6_method_19_code 8 "SegmentLocksModel") (hr : meth.sig.returnType = (some .boolean)) (hlk : meth.locks = false) : ∀ n : Nat, ∀ (h : Hp) (v0 : Nat) (v1 : Int32) (v2 : Int32) (v3 : Int32) (H : Heap) (locs : List Loc) (ls : Array Slot), wp_M_findRing_39 g post n h v0 v1 v2 v3 → GH g h H → va_S (gA g) s.heap H locs → lv_has ls 8 [(0, .ref v0), (1, .int v1), (2, .int v2), (3, .int v3)] → W p l e (rmm 2 48 0 0) s m args below meth c H locs 0 0 (MQ below (va_Qi post (gS g) (gA g)) args s 0 0 (gA g)) (F0 m 39 ls []) := by
  obtain ⟨hx, hb, -, hown, hts, hgk⟩ := id C0
  intro n
  induction n with
  | zero =>
    intro h v0 v1 v2 v3 H locs ls hw hG hS hl
    exact hw.elim
  | succ n ih =>
    intro h v0 v1 v2 v3 H locs ls hw hG hS hl
    unfold wp_M_findRing_39 at hw
    refine lv_iload_n hx hb dd_M_findRing_39 rfl (lv_at hl 3 rfl) ?_
    refine lv_iload_n hx hb dd_M_findRing_40 rfl (lv_at hl 2 rfl) ?_
    refine lv_icmp_ge (tgt := 202) hx hb dd_M_findRing_41 (by decide) (fun c1 => ?_) (fun c1 => ?_)
    · replace hw := hw.1 c1
      refine lv_iconst (v := 0) hx hb dd_M_findRing_202 (by decide) ?_
      exact re_z C0 hG hS hr hlk ⟨Nat.le_refl _, Nat.le_refl _⟩ hw.1.nar hw.2 dd_M_findRing_203
    · replace hw := hw.2 c1
      refine lv_aload_n hx hb dd_M_findRing_44 rfl (lv_at hl 0 rfl) ?_
      obtain ⟨k2, a3, ea3, hw⟩ := hw
      refine gf_M_69 C0 hG k2 ea3 dd_M_findRing_45 ?_
      refine lv_iload_n hx hb dd_M_findRing_48 rfl (lv_at hl 3 rfl) ?_
      obtain ⟨k4, k4i, hw⟩ := hw
      refine px_iald C0 hG k4 k4i dd_M_findRing_49 ?_
      have hl0 := hl
      clear hl
      refine lv_istore (lv' := [(4, .int (hI h a3 v3.toNatClampNeg)), (0, .ref v0), (1, .int v1), (2, .int v2), (3, .int v3)]) hx hb dd_M_findRing_50 hl0 (by decide) rfl (fun ls hl => ?_)
      refine lv_iconst (v := 1) hx hb dd_M_findRing_52 (by decide) ?_
      have hl0 := hl
      clear hl
      refine lv_istore (lv' := [(5, .int 1), (4, .int (hI h a3 v3.toNatClampNeg)), (0, .ref v0), (1, .int v1), (2, .int v2), (3, .int v3)]) hx hb dd_M_findRing_53 hl0 (by decide) rfl (fun ls hl => ?_)
      obtain ⟨n, hw⟩ := hw
      exact wk_M_findRing_55 C0 hr hlk ih n _ _ _ _ _ _ _ _ _ _ hw hG hS (lv_sub hl [2, 3, 4, 5, 1, 0] rfl)
def wp_M_findRing_2 (g : Gm) (post : Int32 → Hp → Prop) : Nat → Hp → Nat → Int32 → Int32 → Prop
  | 0, _, _, _, _ => False
  | fu + 1, h, v0, v1, v2 => ((30 < v2 → hK h v0 = 5 ∧ ∃ a3 : Nat, hR h v0 24 = some a3 ∧ hK h a3 = 21 ∧ vp_in 0 (hN h a3) ∧ ∀ h5 : Hp, h5 = sI h a3 (0 : Int32).toNatClampNeg v1 → hK h5 v0 = 5 ∧ ∃ a7 : Nat, hR h5 v0 23 = some a7 ∧ hK h5 a7 = 21 ∧ vp_in v1 (hN h5 a7) ∧ ∀ h9 : Hp, h9 = sI h5 a7 v1.toNatClampNeg 0 → ∃ n : Nat, wp_M_findRing_39 g post n h9 v0 v1 1 0) ∧ (¬ 30 < v2 → hK h v0 = 5 ∧ ∃ a11 : Nat, hR h v0 23 = some a11 ∧ hK h a11 = 21 ∧ vp_in v2 (hN h a11) ∧ ∀ h13 : Hp, h13 = sI h a11 v2.toNatClampNeg (-1) → ∀ x14 : Int32, x14 = v2 + 1 → wp_M_findRing_2 g post fu h13 v0 v1 x14))
set_option maxHeartbeats 4000000 in
set_option maxRecDepth 100000 in
theorem wk_M_findRing_2 {p : Program} {l : Launch} {e : Env} {s : State} {m : MethodId} {args : Array Value} {below : List Frame} {meth : Method} {c : Code} {g : Gm} {post : Int32 → Hp → Prop} (C0 : Cx g p s m args c prog_6_method_19_code 8 "SegmentLocksModel") (hr : meth.sig.returnType = (some .boolean)) (hlk : meth.locks = false) : ∀ n : Nat, ∀ (h : Hp) (v0 : Nat) (v1 : Int32) (v2 : Int32) (H : Heap) (locs : List Loc) (ls : Array Slot), wp_M_findRing_2 g post n h v0 v1 v2 → GH g h H → va_S (gA g) s.heap H locs → lv_has ls 8 [(0, .ref v0), (1, .int v1), (2, .int v2)] → W p l e (rmm 2 48 0 0) s m args below meth c H locs 0 0 (MQ below (va_Qi post (gS g) (gA g)) args s 0 0 (gA g)) (F0 m 2 ls []) := by
  obtain ⟨hx, hb, -, hown, hts, hgk⟩ := id C0
  intro n
  induction n with
  | zero =>
    intro h v0 v1 v2 H locs ls hw hG hS hl
    exact hw.elim
  | succ n ih =>
    intro h v0 v1 v2 H locs ls hw hG hS hl
    unfold wp_M_findRing_2 at hw
    refine lv_iload_n hx hb dd_M_findRing_2 rfl (lv_at hl 2 rfl) ?_
    refine lv_bipush (v := 30) hx hb dd_M_findRing_3 (by decide) ?_
    refine lv_icmp_gt (tgt := 21) hx hb dd_M_findRing_5 (by decide) (fun c1 => ?_) (fun c1 => ?_)
    · replace hw := hw.1 c1
      refine lv_aload_n hx hb dd_M_findRing_21 rfl (lv_at hl 0 rfl) ?_
      obtain ⟨k2, a3, ea3, hw⟩ := hw
      refine gf_M_69 C0 hG k2 ea3 dd_M_findRing_22 ?_
      refine lv_iconst (v := 0) hx hb dd_M_findRing_25 (by decide) ?_
      refine lv_iload_n hx hb dd_M_findRing_26 rfl (lv_at hl 1 rfl) ?_
      obtain ⟨k4, k4i, hw⟩ := hw
      refine px_iast C0 hG hS k4 k4i dd_M_findRing_27 (fun H locs hG hS => ?_)
      replace hw := hw _ rfl
      generalize sI h a3 (0 : Int32).toNatClampNeg v1 = h5 at hw hG
      refine lv_aload_n hx hb dd_M_findRing_28 rfl (lv_at hl 0 rfl) ?_
      obtain ⟨k6, a7, ea7, hw⟩ := hw
      refine gf_M_66 C0 hG k6 ea7 dd_M_findRing_29 ?_
      refine lv_iload_n hx hb dd_M_findRing_32 rfl (lv_at hl 1 rfl) ?_
      refine lv_iconst (v := 0) hx hb dd_M_findRing_33 (by decide) ?_
      obtain ⟨k8, k8i, hw⟩ := hw
      refine px_iast C0 hG hS k8 k8i dd_M_findRing_34 (fun H locs hG hS => ?_)
      replace hw := hw _ rfl
      generalize sI h5 a7 v1.toNatClampNeg 0 = h9 at hw hG
      refine lv_iconst (v := 1) hx hb dd_M_findRing_35 (by decide) ?_
      have hl0 := hl
      clear hl
      refine lv_istore_n (lv' := [(2, .int 1), (0, .ref v0), (1, .int v1)]) hx hb dd_M_findRing_36 rfl hl0 (by decide) rfl (fun ls hl => ?_)
      refine lv_iconst (v := 0) hx hb dd_M_findRing_37 (by decide) ?_
      have hl0 := hl
      clear hl
      refine lv_istore_n (lv' := [(3, .int 0), (2, .int 1), (0, .ref v0), (1, .int v1)]) hx hb dd_M_findRing_38 rfl hl0 (by decide) rfl (fun ls hl => ?_)
      obtain ⟨n, hw⟩ := hw
      exact wk_M_findRing_39 C0 hr hlk n _ _ _ _ _ _ _ _ hw hG hS (lv_sub hl [2, 3, 1, 0] rfl)
    · replace hw := hw.2 c1
      refine lv_aload_n hx hb dd_M_findRing_8 rfl (lv_at hl 0 rfl) ?_
      obtain ⟨k10, a11, ea11, hw⟩ := hw
      refine gf_M_66 C0 hG k10 ea11 dd_M_findRing_9 ?_
      refine lv_iload_n hx hb dd_M_findRing_12 rfl (lv_at hl 2 rfl) ?_
      refine lv_iconst (v := (-1)) hx hb dd_M_findRing_13 (by decide) ?_
      obtain ⟨k12, k12i, hw⟩ := hw
      refine px_iast C0 hG hS k12 k12i dd_M_findRing_14 (fun H locs hG hS => ?_)
      replace hw := hw _ rfl
      generalize sI h a11 v2.toNatClampNeg (-1) = h13 at hw hG
      obtain ⟨x14, ex14⟩ : ∃ y : Int32, y = v2 + 1 := ⟨_, rfl⟩
      replace hw := hw x14 ex14
      have hl0 := hl
      clear hl
      refine lv_iinc (v := x14) (lv' := [(2, .int x14), (0, .ref v0), (1, .int v1)]) hx hb dd_M_findRing_15 hl0 (k := 2) rfl (by rw [ex14]; rfl) (by decide) rfl (fun ls hl => ?_)
      refine lv_goto (tgt := 2) hx hb dd_M_findRing_18 (by decide) ?_
      exact ih _ _ _ _ _ _ _ hw hG hS (lv_sub hl [1, 2, 0] rfl)
def wp_M_findRing (g : Gm) (post : Int32 → Hp → Prop) (h : Hp) (a0 : Nat) (i1 : Int32) : Prop := ∃ n : Nat, wp_M_findRing_2 g post n h a0 i1 0
set_option maxHeartbeats 4000000 in
set_option maxRecDepth 100000 in
theorem c_M_findRing (l : Launch) (g : Gm) (post : Int32 → Hp → Prop) (h : Hp) (a0 : Nat) (i1 : Int32) (hw : wp_M_findRing g post h a0 i1) : Met l (⟨"SegmentLocksModel", "findRing", "(I)Z"⟩ : MethodName) (ww (⟨"SegmentLocksModel", "findRing", "(I)Z"⟩ : MethodName) prog_6_method_19_code 8 (some .boolean)) (rmm 2 48 0 0) (va_Pc [.ref a0, .int i1] (gS g h)) (va_Qi post (gS g) (gA g)) 0 0 (gA g) := by
  first | refine en_met (by decide) ?_ | refine en_metF (by decide) ?_
  intro p e s m below meth c C0 hr hlk hin hG
  have hS : va_S (gA g) s.heap s.heap [] := va_S.rf
  have hl := lv_entry ([.ref a0, .int i1]) (n := 8) (Nat.le_of_ble_eq_true rfl)
  rw [lg_entry_eq]
  generalize (lg_sl ([.ref a0, .int i1]) ++ List.replicate (8 - (lg_sl ([.ref a0, .int i1])).length) Slot.unset).toArray = ls at hl ⊢
  replace hl : lv_has ls 8 [(0, .ref a0), (1, .int i1)] := hl
  obtain ⟨hx, hb, -, hown, hts, hgk⟩ := id C0
  unfold wp_M_findRing at hw
  refine lv_iconst (v := 0) hx hb dd_M_findRing_0 (by decide) ?_
  have hl0 := hl
  clear hl
  refine lv_istore_n (lv' := [(2, .int 0), (0, .ref a0), (1, .int i1)]) hx hb dd_M_findRing_1 rfl hl0 (by decide) rfl (fun ls hl => ?_)
  obtain ⟨n, hw⟩ := hw
  exact wk_M_findRing_2 C0 hr hlk n _ _ _ _ _ _ _ hw hG hS (lv_sub hl [1, 2, 0] rfl)
/-! SegmentLocksModel.youngest()I -/
theorem dd_M_youngest_0 : decode prog_6_method_20_code 0 = .ok (.iconst 0, 1) := by decide +kernel
theorem dd_M_youngest_1 : decode prog_6_method_20_code 1 = .ok (.istore_n 1, 1) := by decide +kernel
theorem dd_M_youngest_2 : decode prog_6_method_20_code 2 = .ok (.iconst 0, 1) := by decide +kernel
theorem dd_M_youngest_3 : decode prog_6_method_20_code 3 = .ok (.istore_n 2, 1) := by decide +kernel
theorem dd_M_youngest_4 : decode prog_6_method_20_code 4 = .ok (.iload_n 2, 1) := by decide +kernel
theorem dd_M_youngest_5 : decode prog_6_method_20_code 5 = .ok (.aload_n 0, 1) := by decide +kernel
theorem dd_M_youngest_6 : decode prog_6_method_20_code 6 = .ok (.getfield 117, 3) := by decide +kernel
theorem dd_M_youngest_9 : decode prog_6_method_20_code 9 = .ok (.if_icmp .ge 74, 3) := by decide +kernel
theorem dd_M_youngest_12 : decode prog_6_method_20_code 12 = .ok (.iload_n 1, 1) := by decide +kernel
theorem dd_M_youngest_13 : decode prog_6_method_20_code 13 = .ok (.ifCond .eq 53, 3) := by decide +kernel
theorem dd_M_youngest_16 : decode prog_6_method_20_code 16 = .ok (.aload_n 0, 1) := by decide +kernel
theorem dd_M_youngest_17 : decode prog_6_method_20_code 17 = .ok (.getfield 13, 3) := by decide +kernel
theorem dd_M_youngest_20 : decode prog_6_method_20_code 20 = .ok (.aload_n 0, 1) := by decide +kernel
theorem dd_M_youngest_21 : decode prog_6_method_20_code 21 = .ok (.getfield 60, 3) := by decide +kernel
theorem dd_M_youngest_24 : decode prog_6_method_20_code 24 = .ok (.iload_n 2, 1) := by decide +kernel
theorem dd_M_youngest_25 : decode prog_6_method_20_code 25 = .ok (.iaload, 1) := by decide +kernel
theorem dd_M_youngest_26 : decode prog_6_method_20_code 26 = .ok (.iaload, 1) := by decide +kernel
theorem dd_M_youngest_27 : decode prog_6_method_20_code 27 = .ok (.aload_n 0, 1) := by decide +kernel
theorem dd_M_youngest_28 : decode prog_6_method_20_code 28 = .ok (.getfield 13, 3) := by decide +kernel
theorem dd_M_youngest_31 : decode prog_6_method_20_code 31 = .ok (.iload_n 1, 1) := by decide +kernel
theorem dd_M_youngest_32 : decode prog_6_method_20_code 32 = .ok (.iaload, 1) := by decide +kernel
theorem dd_M_youngest_33 : decode prog_6_method_20_code 33 = .ok (.if_icmp .gt 33, 3) := by decide +kernel
theorem dd_M_youngest_36 : decode prog_6_method_20_code 36 = .ok (.aload_n 0, 1) := by decide +kernel
theorem dd_M_youngest_37 : decode prog_6_method_20_code 37 = .ok (.getfield 13, 3) := by decide +kernel
theorem dd_M_youngest_40 : decode prog_6_method_20_code 40 = .ok (.aload_n 0, 1) := by decide +kernel
theorem dd_M_youngest_41 : decode prog_6_method_20_code 41 = .ok (.getfield 60, 3) := by decide +kernel
theorem dd_M_youngest_44 : decode prog_6_method_20_code 44 = .ok (.iload_n 2, 1) := by decide +kernel
theorem dd_M_youngest_45 : decode prog_6_method_20_code 45 = .ok (.iaload, 1) := by decide +kernel
theorem dd_M_youngest_46 : decode prog_6_method_20_code 46 = .ok (.iaload, 1) := by decide +kernel
theorem dd_M_youngest_47 : decode prog_6_method_20_code 47 = .ok (.aload_n 0, 1) := by decide +kernel
theorem dd_M_youngest_48 : decode prog_6_method_20_code 48 = .ok (.getfield 13, 3) := by decide +kernel
theorem dd_M_youngest_51 : decode prog_6_method_20_code 51 = .ok (.iload_n 1, 1) := by decide +kernel
theorem dd_M_youngest_52 : decode prog_6_method_20_code 52 = .ok (.iaload, 1) := by decide +kernel
theorem dd_M_youngest_53 : decode prog_6_method_20_code 53 = .ok (.if_icmp .ne 22, 3) := by decide +kernel
theorem dd_M_youngest_56 : decode prog_6_method_20_code 56 = .ok (.aload_n 0, 1) := by decide +kernel
theorem dd_M_youngest_57 : decode prog_6_method_20_code 57 = .ok (.getfield 60, 3) := by decide +kernel
theorem dd_M_youngest_60 : decode prog_6_method_20_code 60 = .ok (.iload_n 2, 1) := by decide +kernel
theorem dd_M_youngest_61 : decode prog_6_method_20_code 61 = .ok (.iaload, 1) := by decide +kernel
theorem dd_M_youngest_62 : decode prog_6_method_20_code 62 = .ok (.iload_n 1, 1) := by decide +kernel
theorem dd_M_youngest_63 : decode prog_6_method_20_code 63 = .ok (.if_icmp .le 12, 3) := by decide +kernel
theorem dd_M_youngest_66 : decode prog_6_method_20_code 66 = .ok (.aload_n 0, 1) := by decide +kernel
theorem dd_M_youngest_67 : decode prog_6_method_20_code 67 = .ok (.getfield 60, 3) := by decide +kernel
theorem dd_M_youngest_70 : decode prog_6_method_20_code 70 = .ok (.iload_n 2, 1) := by decide +kernel
theorem dd_M_youngest_71 : decode prog_6_method_20_code 71 = .ok (.iaload, 1) := by decide +kernel
theorem dd_M_youngest_72 : decode prog_6_method_20_code 72 = .ok (.goto 4, 3) := by decide +kernel
theorem dd_M_youngest_75 : decode prog_6_method_20_code 75 = .ok (.iload_n 1, 1) := by decide +kernel
theorem dd_M_youngest_76 : decode prog_6_method_20_code 76 = .ok (.istore_n 1, 1) := by decide +kernel
theorem dd_M_youngest_77 : decode prog_6_method_20_code 77 = .ok (.iinc 2 1, 3) := by decide +kernel
theorem dd_M_youngest_80 : decode prog_6_method_20_code 80 = .ok (.goto (-76), 3) := by decide +kernel
theorem dd_M_youngest_83 : decode prog_6_method_20_code 83 = .ok (.iload_n 1, 1) := by decide +kernel
theorem dd_M_youngest_84 : decode prog_6_method_20_code 84 = .ok (.ireturn, 1) := by decide +kernel
def wp_M_youngest_76 (g : Gm) (post : Int32 → Prop) (K4 : Hp → Nat → Int32 → Int32 → Prop) (h : Hp) (v0 : Nat) (v2 : Int32) (s0 : Int32) : Prop := ∀ x1 : Int32, x1 = v2 + 1 → K4 h v0 s0 x1
set_option maxHeartbeats 4000000 in
set_option maxRecDepth 100000 in
theorem wk_M_youngest_76 {p : Program} {l : Launch} {e : Env} {s : State} {m : MethodId} {args : Array Value} {below : List Frame} {meth : Method} {c : Code} {g : Gm} {post : Int32 → Prop} (C0 : Cx g p s m args c prog_6_method_20_code 3 "SegmentLocksModel") (hr : meth.sig.returnType = (some .int)) (hlk : meth.locks = false) {K4 : Hp → Nat → Int32 → Int32 → Prop} (hK4 : ∀ (h : Hp) (v0 : Nat) (v1 : Int32) (v2 : Int32) (ls : Array Slot), K4 h v0 v1 v2 → GH g h s.heap → lv_has ls 3 [(0, .ref v0), (1, .int v1), (2, .int v2)] → W p l e (rmm 0 0 0 0) s m args below meth c s.heap [] 0 0 (MQ below (vp_Si post) args s 0 0 (fun _ => False)) (F0 m 4 ls [])) : ∀ (h : Hp) (v0 : Nat) (v2 : Int32) (s0 : Int32) (ls : Array Slot), wp_M_youngest_76 g post K4 h v0 v2 s0 → GH g h s.heap → lv_has ls 3 [(0, .ref v0), (2, .int v2)] → W p l e (rmm 0 0 0 0) s m args below meth c s.heap [] 0 0 (MQ below (vp_Si post) args s 0 0 (fun _ => False)) (F0 m 76 ls [.int s0]) := by
  obtain ⟨hx, hb, -, hown, hts, hgk⟩ := id C0
  have hS : va_S (gA g) s.heap s.heap [] := va_S.rf
  intro h v0 v2 s0 ls hw hG hl
  unfold wp_M_youngest_76 at hw
  have hl0 := hl
  clear hl
  refine lv_istore_n (lv' := [(1, .int s0), (0, .ref v0), (2, .int v2)]) hx hb dd_M_youngest_76 rfl hl0 (by decide) rfl (fun ls hl => ?_)
  obtain ⟨x1, ex1⟩ : ∃ y : Int32, y = v2 + 1 := ⟨_, rfl⟩
  replace hw := hw x1 ex1
  have hl0 := hl
  clear hl
  refine lv_iinc (v := x1) (lv' := [(2, .int x1), (1, .int s0), (0, .ref v0)]) hx hb dd_M_youngest_77 hl0 (k := 2) rfl (by rw [ex1]; rfl) (by decide) rfl (fun ls hl => ?_)
  refine lv_goto (tgt := 4) hx hb dd_M_youngest_80 (by decide) ?_
  exact hK4 _ _ _ _ _ hw hG (lv_sub hl [2, 1, 0] rfl)
def wp_M_youngest_66 (g : Gm) (post : Int32 → Prop) (K4 : Hp → Nat → Int32 → Int32 → Prop) (h : Hp) (v0 : Nat) (v2 : Int32) : Prop := hK h v0 = 5 ∧ ∃ a2 : Nat, hR h v0 21 = some a2 ∧ hK h a2 = 21 ∧ vp_in v2 (hN h a2) ∧ wp_M_youngest_76 g post K4 h v0 v2 (hI h a2 v2.toNatClampNeg)
set_option maxHeartbeats 4000000 in
set_option maxRecDepth 100000 in
theorem wk_M_youngest_66 {p : Program} {l : Launch} {e : Env} {s : State} {m : MethodId} {args : Array Value} {below : List Frame} {meth : Method} {c : Code} {g : Gm} {post : Int32 → Prop} (C0 : Cx g p s m args c prog_6_method_20_code 3 "SegmentLocksModel") (hr : meth.sig.returnType = (some .int)) (hlk : meth.locks = false) {K4 : Hp → Nat → Int32 → Int32 → Prop} (hK4 : ∀ (h : Hp) (v0 : Nat) (v1 : Int32) (v2 : Int32) (ls : Array Slot), K4 h v0 v1 v2 → GH g h s.heap → lv_has ls 3 [(0, .ref v0), (1, .int v1), (2, .int v2)] → W p l e (rmm 0 0 0 0) s m args below meth c s.heap [] 0 0 (MQ below (vp_Si post) args s 0 0 (fun _ => False)) (F0 m 4 ls [])) : ∀ (h : Hp) (v0 : Nat) (v2 : Int32) (ls : Array Slot), wp_M_youngest_66 g post K4 h v0 v2 → GH g h s.heap → lv_has ls 3 [(0, .ref v0), (2, .int v2)] → W p l e (rmm 0 0 0 0) s m args below meth c s.heap [] 0 0 (MQ below (vp_Si post) args s 0 0 (fun _ => False)) (F0 m 66 ls []) := by
  obtain ⟨hx, hb, -, hown, hts, hgk⟩ := id C0
  have hS : va_S (gA g) s.heap s.heap [] := va_S.rf
  intro h v0 v2 ls hw hG hl
  unfold wp_M_youngest_66 at hw
  refine lv_aload_n hx hb dd_M_youngest_66 rfl (lv_at hl 0 rfl) ?_
  obtain ⟨k1, a2, ea2, hw⟩ := hw
  refine gf_M_60 C0 hG k1 ea2 dd_M_youngest_67 ?_
  refine lv_iload_n hx hb dd_M_youngest_70 rfl (lv_at hl 1 rfl) ?_
  obtain ⟨k3, k3i, hw⟩ := hw
  refine px_iald C0 hG k3 k3i dd_M_youngest_71 ?_
  refine lv_goto (tgt := 76) hx hb dd_M_youngest_72 (by decide) ?_
  exact wk_M_youngest_76 C0 hr hlk hK4 _ _ _ _ _ hw hG (lv_sub hl [0, 1] rfl)
def wp_M_youngest_75 (g : Gm) (post : Int32 → Prop) (K4 : Hp → Nat → Int32 → Int32 → Prop) (h : Hp) (v0 : Nat) (v1 : Int32) (v2 : Int32) : Prop := wp_M_youngest_76 g post K4 h v0 v2 v1
set_option maxHeartbeats 4000000 in
set_option maxRecDepth 100000 in
theorem wk_M_youngest_75 {p : Program} {l : Launch} {e : Env} {s : State} {m : MethodId} {args : Array Value} {below : List Frame} {meth : Method} {c : Code} {g : Gm} {post : Int32 → Prop} (C0 : Cx g p s m args c prog_6_method_20_code 3 "SegmentLocksModel") (hr : meth.sig.returnType = (some .int)) (hlk : meth.locks = false) {K4 : Hp → Nat → Int32 → Int32 → Prop} (hK4 : ∀ (h : Hp) (v0 : Nat) (v1 : Int32) (v2 : Int32) (ls : Array Slot), K4 h v0 v1 v2 → GH g h s.heap → lv_has ls 3 [(0, .ref v0), (1, .int v1), (2, .int v2)] → W p l e (rmm 0 0 0 0) s m args below meth c s.heap [] 0 0 (MQ below (vp_Si post) args s 0 0 (fun _ => False)) (F0 m 4 ls [])) : ∀ (h : Hp) (v0 : Nat) (v1 : Int32) (v2 : Int32) (ls : Array Slot), wp_M_youngest_75 g post K4 h v0 v1 v2 → GH g h s.heap → lv_has ls 3 [(0, .ref v0), (1, .int v1), (2, .int v2)] → W p l e (rmm 0 0 0 0) s m args below meth c s.heap [] 0 0 (MQ below (vp_Si post) args s 0 0 (fun _ => False)) (F0 m 75 ls []) := by
  obtain ⟨hx, hb, -, hown, hts, hgk⟩ := id C0
  have hS : va_S (gA g) s.heap s.heap [] := va_S.rf
  intro h v0 v1 v2 ls hw hG hl
  unfold wp_M_youngest_75 at hw
  refine lv_iload_n hx hb dd_M_youngest_75 rfl (lv_at hl 1 rfl) ?_
  exact wk_M_youngest_76 C0 hr hlk hK4 _ _ _ _ _ hw hG (lv_sub hl [0, 2] rfl)
def wp_M_youngest_4 (g : Gm) (post : Int32 → Prop) : Nat → Hp → Nat → Int32 → Int32 → Prop
  | 0, _, _, _, _ => False
  | fu + 1, h, v0, v1, v2 => hK h v0 = 5 ∧ (((hI h v0 25) ≤ v2 → post v1) ∧ (¬ (hI h v0 25) ≤ v2 → ((v1 = 0 → wp_M_youngest_66 g post (fun h v0 v1 v2 => wp_M_youngest_4 g post fu h v0 v1 v2) h v0 v2) ∧ (¬ v1 = 0 → hK h v0 = 5 ∧ ∃ a5 : Nat, hR h v0 4 = some a5 ∧ hK h v0 = 5 ∧ ∃ a7 : Nat, hR h v0 21 = some a7 ∧ hK h a7 = 21 ∧ vp_in v2 (hN h a7) ∧ hK h a5 = 21 ∧ vp_in (hI h a7 v2.toNatClampNeg) (hN h a5) ∧ hK h v0 = 5 ∧ ∃ a11 : Nat, hR h v0 4 = some a11 ∧ hK h a11 = 21 ∧ vp_in v1 (hN h a11) ∧ (((hI h a11 v1.toNatClampNeg) < (hI h a5 (hI h a7 v2.toNatClampNeg).toNatClampNeg) → wp_M_youngest_66 g post (fun h v0 v1 v2 => wp_M_youngest_4 g post fu h v0 v1 v2) h v0 v2) ∧ (¬ (hI h a11 v1.toNatClampNeg) < (hI h a5 (hI h a7 v2.toNatClampNeg).toNatClampNeg) → hK h v0 = 5 ∧ ∃ a15 : Nat, hR h v0 4 = some a15 ∧ hK h v0 = 5 ∧ ∃ a17 : Nat, hR h v0 21 = some a17 ∧ hK h a17 = 21 ∧ vp_in v2 (hN h a17) ∧ hK h a15 = 21 ∧ vp_in (hI h a17 v2.toNatClampNeg) (hN h a15) ∧ hK h v0 = 5 ∧ ∃ a21 : Nat, hR h v0 4 = some a21 ∧ hK h a21 = 21 ∧ vp_in v1 (hN h a21) ∧ ((¬ (hI h a15 (hI h a17 v2.toNatClampNeg).toNatClampNeg) = (hI h a21 v1.toNatClampNeg) → wp_M_youngest_75 g post (fun h v0 v1 v2 => wp_M_youngest_4 g post fu h v0 v1 v2) h v0 v1 v2) ∧ ((hI h a15 (hI h a17 v2.toNatClampNeg).toNatClampNeg) = (hI h a21 v1.toNatClampNeg) → hK h v0 = 5 ∧ ∃ a25 : Nat, hR h v0 21 = some a25 ∧ hK h a25 = 21 ∧ vp_in v2 (hN h a25) ∧ (((hI h a25 v2.toNatClampNeg) ≤ v1 → wp_M_youngest_75 g post (fun h v0 v1 v2 => wp_M_youngest_4 g post fu h v0 v1 v2) h v0 v1 v2) ∧ (¬ (hI h a25 v2.toNatClampNeg) ≤ v1 → wp_M_youngest_66 g post (fun h v0 v1 v2 => wp_M_youngest_4 g post fu h v0 v1 v2) h v0 v2))))))))))
set_option maxHeartbeats 4000000 in
set_option maxRecDepth 100000 in
theorem wk_M_youngest_4 {p : Program} {l : Launch} {e : Env} {s : State} {m : MethodId} {args : Array Value} {below : List Frame} {meth : Method} {c : Code} {g : Gm} {post : Int32 → Prop} (C0 : Cx g p s m args c prog_6_method_20_code 3 "SegmentLocksModel") (hr : meth.sig.returnType = (some .int)) (hlk : meth.locks = false) : ∀ n : Nat, ∀ (h : Hp) (v0 : Nat) (v1 : Int32) (v2 : Int32) (ls : Array Slot), wp_M_youngest_4 g post n h v0 v1 v2 → GH g h s.heap → lv_has ls 3 [(0, .ref v0), (1, .int v1), (2, .int v2)] → W p l e (rmm 0 0 0 0) s m args below meth c s.heap [] 0 0 (MQ below (vp_Si post) args s 0 0 (fun _ => False)) (F0 m 4 ls []) := by
  obtain ⟨hx, hb, -, hown, hts, hgk⟩ := id C0
  have hS : va_S (gA g) s.heap s.heap [] := va_S.rf
  intro n
  induction n with
  | zero =>
    intro h v0 v1 v2 ls hw hG hl
    exact hw.elim
  | succ n ih =>
    intro h v0 v1 v2 ls hw hG hl
    unfold wp_M_youngest_4 at hw
    refine lv_iload_n hx hb dd_M_youngest_4 rfl (lv_at hl 2 rfl) ?_
    refine lv_aload_n hx hb dd_M_youngest_5 rfl (lv_at hl 0 rfl) ?_
    obtain ⟨k1, hw⟩ := hw
    refine gf_M_117 C0 hG k1 dd_M_youngest_6 ?_
    refine lv_icmp_ge (tgt := 83) hx hb dd_M_youngest_9 (by decide) (fun c2 => ?_) (fun c2 => ?_)
    · replace hw := hw.1 c2
      refine lv_iload_n hx hb dd_M_youngest_83 rfl (lv_at hl 1 rfl) ?_
      exact rs_i C0 hr hlk hw dd_M_youngest_84
    · replace hw := hw.2 c2
      refine lv_iload_n hx hb dd_M_youngest_12 rfl (lv_at hl 1 rfl) ?_
      refine lv_if_eq (tgt := 66) hx hb dd_M_youngest_13 (by decide) (fun c3 => ?_) (fun c3 => ?_)
      · replace hw := hw.1 c3
        exact wk_M_youngest_66 C0 hr hlk ih _ _ _ _ hw hG (lv_sub hl [0, 2] rfl)
      · replace hw := hw.2 c3
        refine lv_aload_n hx hb dd_M_youngest_16 rfl (lv_at hl 0 rfl) ?_
        obtain ⟨k4, a5, ea5, hw⟩ := hw
        refine gf_M_13 C0 hG k4 ea5 dd_M_youngest_17 ?_
        refine lv_aload_n hx hb dd_M_youngest_20 rfl (lv_at hl 0 rfl) ?_
        obtain ⟨k6, a7, ea7, hw⟩ := hw
        refine gf_M_60 C0 hG k6 ea7 dd_M_youngest_21 ?_
        refine lv_iload_n hx hb dd_M_youngest_24 rfl (lv_at hl 2 rfl) ?_
        obtain ⟨k8, k8i, hw⟩ := hw
        refine px_iald C0 hG k8 k8i dd_M_youngest_25 ?_
        obtain ⟨k9, k9i, hw⟩ := hw
        refine px_iald C0 hG k9 k9i dd_M_youngest_26 ?_
        refine lv_aload_n hx hb dd_M_youngest_27 rfl (lv_at hl 0 rfl) ?_
        obtain ⟨k10, a11, ea11, hw⟩ := hw
        refine gf_M_13 C0 hG k10 ea11 dd_M_youngest_28 ?_
        refine lv_iload_n hx hb dd_M_youngest_31 rfl (lv_at hl 1 rfl) ?_
        obtain ⟨k12, k12i, hw⟩ := hw
        refine px_iald C0 hG k12 k12i dd_M_youngest_32 ?_
        refine lv_icmp_gt (tgt := 66) hx hb dd_M_youngest_33 (by decide) (fun c13 => ?_) (fun c13 => ?_)
        · replace hw := hw.1 c13
          exact wk_M_youngest_66 C0 hr hlk ih _ _ _ _ hw hG (lv_sub hl [0, 2] rfl)
        · replace hw := hw.2 c13
          refine lv_aload_n hx hb dd_M_youngest_36 rfl (lv_at hl 0 rfl) ?_
          obtain ⟨k14, a15, ea15, hw⟩ := hw
          refine gf_M_13 C0 hG k14 ea15 dd_M_youngest_37 ?_
          refine lv_aload_n hx hb dd_M_youngest_40 rfl (lv_at hl 0 rfl) ?_
          obtain ⟨k16, a17, ea17, hw⟩ := hw
          refine gf_M_60 C0 hG k16 ea17 dd_M_youngest_41 ?_
          refine lv_iload_n hx hb dd_M_youngest_44 rfl (lv_at hl 2 rfl) ?_
          obtain ⟨k18, k18i, hw⟩ := hw
          refine px_iald C0 hG k18 k18i dd_M_youngest_45 ?_
          obtain ⟨k19, k19i, hw⟩ := hw
          refine px_iald C0 hG k19 k19i dd_M_youngest_46 ?_
          refine lv_aload_n hx hb dd_M_youngest_47 rfl (lv_at hl 0 rfl) ?_
          obtain ⟨k20, a21, ea21, hw⟩ := hw
          refine gf_M_13 C0 hG k20 ea21 dd_M_youngest_48 ?_
          refine lv_iload_n hx hb dd_M_youngest_51 rfl (lv_at hl 1 rfl) ?_
          obtain ⟨k22, k22i, hw⟩ := hw
          refine px_iald C0 hG k22 k22i dd_M_youngest_52 ?_
          refine lv_icmp_ne (tgt := 75) hx hb dd_M_youngest_53 (by decide) (fun c23 => ?_) (fun c23 => ?_)
          · replace hw := hw.1 c23
            exact wk_M_youngest_75 C0 hr hlk ih _ _ _ _ _ hw hG (lv_sub hl [0, 1, 2] rfl)
          · replace hw := hw.2 c23
            refine lv_aload_n hx hb dd_M_youngest_56 rfl (lv_at hl 0 rfl) ?_
            obtain ⟨k24, a25, ea25, hw⟩ := hw
            refine gf_M_60 C0 hG k24 ea25 dd_M_youngest_57 ?_
            refine lv_iload_n hx hb dd_M_youngest_60 rfl (lv_at hl 2 rfl) ?_
            obtain ⟨k26, k26i, hw⟩ := hw
            refine px_iald C0 hG k26 k26i dd_M_youngest_61 ?_
            refine lv_iload_n hx hb dd_M_youngest_62 rfl (lv_at hl 1 rfl) ?_
            refine lv_icmp_le (tgt := 75) hx hb dd_M_youngest_63 (by decide) (fun c27 => ?_) (fun c27 => ?_)
            · replace hw := hw.1 c27
              exact wk_M_youngest_75 C0 hr hlk ih _ _ _ _ _ hw hG (lv_sub hl [0, 1, 2] rfl)
            · replace hw := hw.2 c27
              exact wk_M_youngest_66 C0 hr hlk ih _ _ _ _ hw hG (lv_sub hl [0, 2] rfl)
def wp_M_youngest (g : Gm) (post : Int32 → Prop) (h : Hp) (a0 : Nat) : Prop := ∃ n : Nat, wp_M_youngest_4 g post n h a0 0 0
set_option maxHeartbeats 4000000 in
set_option maxRecDepth 100000 in
theorem c_M_youngest (l : Launch) (g : Gm) (post : Int32 → Prop) (h : Hp) (a0 : Nat) (hw : wp_M_youngest g post h a0) : Met l (⟨"SegmentLocksModel", "youngest", "()I"⟩ : MethodName) (ww (⟨"SegmentLocksModel", "youngest", "()I"⟩ : MethodName) prog_6_method_20_code 3 (some .int)) (rmm 0 0 0 0) (va_Pc [.ref a0] (gS g h)) (vp_Si post) 0 0 (fun _ => False) := by
  first | refine en_met (by decide) ?_ | refine en_metF (by decide) ?_
  intro p e s m below meth c C0 hr hlk hin hG
  have hS : va_S (gA g) s.heap s.heap [] := va_S.rf
  have hl := lv_entry ([.ref a0]) (n := 3) (Nat.le_of_ble_eq_true rfl)
  rw [lg_entry_eq]
  generalize (lg_sl ([.ref a0]) ++ List.replicate (3 - (lg_sl ([.ref a0])).length) Slot.unset).toArray = ls at hl ⊢
  replace hl : lv_has ls 3 [(0, .ref a0)] := hl
  obtain ⟨hx, hb, -, hown, hts, hgk⟩ := id C0
  unfold wp_M_youngest at hw
  refine lv_iconst (v := 0) hx hb dd_M_youngest_0 (by decide) ?_
  have hl0 := hl
  clear hl
  refine lv_istore_n (lv' := [(1, .int 0), (0, .ref a0)]) hx hb dd_M_youngest_1 rfl hl0 (by decide) rfl (fun ls hl => ?_)
  refine lv_iconst (v := 0) hx hb dd_M_youngest_2 (by decide) ?_
  have hl0 := hl
  clear hl
  refine lv_istore_n (lv' := [(2, .int 0), (1, .int 0), (0, .ref a0)]) hx hb dd_M_youngest_3 rfl hl0 (by decide) rfl (fun ls hl => ?_)
  obtain ⟨n, hw⟩ := hw
  exact wk_M_youngest_4 C0 hr hlk n _ _ _ _ _ hw hG (lv_sub hl [2, 1, 0] rfl)
/-! SegmentLocksModel.ask(III)I -/
theorem dd_M_ask_0 : decode prog_6_method_21_code 0 = .ok (.aload_n 0, 1) := by decide +kernel
theorem dd_M_ask_1 : decode prog_6_method_21_code 1 = .ok (.iconst 0, 1) := by decide +kernel
theorem dd_M_ask_2 : decode prog_6_method_21_code 2 = .ok (.putfield 72, 3) := by decide +kernel
theorem dd_M_ask_5 : decode prog_6_method_21_code 5 = .ok (.aload_n 0, 1) := by decide +kernel
theorem dd_M_ask_6 : decode prog_6_method_21_code 6 = .ok (.iload_n 1, 1) := by decide +kernel
theorem dd_M_ask_7 : decode prog_6_method_21_code 7 = .ok (.invokevirtual 120, 3) := by decide +kernel
theorem dd_M_ask_10 : decode prog_6_method_21_code 10 = .ok (.ifCond .ne 6, 3) := by decide +kernel
theorem dd_M_ask_13 : decode prog_6_method_21_code 13 = .ok (.bipush (-2), 2) := by decide +kernel
theorem dd_M_ask_15 : decode prog_6_method_21_code 15 = .ok (.ireturn, 1) := by decide +kernel
theorem dd_M_ask_16 : decode prog_6_method_21_code 16 = .ok (.iload_n 2, 1) := by decide +kernel
theorem dd_M_ask_17 : decode prog_6_method_21_code 17 = .ok (.invokestatic 124, 3) := by decide +kernel
theorem dd_M_ask_20 : decode prog_6_method_21_code 20 = .ok (.ifCond .eq 12, 3) := by decide +kernel
theorem dd_M_ask_23 : decode prog_6_method_21_code 23 = .ok (.iload_n 3, 1) := by decide +kernel
theorem dd_M_ask_24 : decode prog_6_method_21_code 24 = .ok (.ifCond .lt 8, 3) := by decide +kernel
theorem dd_M_ask_27 : decode prog_6_method_21_code 27 = .ok (.iload_n 3, 1) := by decide +kernel
theorem dd_M_ask_28 : decode prog_6_method_21_code 28 = .ok (.iconst 3, 1) := by decide +kernel
theorem dd_M_ask_29 : decode prog_6_method_21_code 29 = .ok (.if_icmp .le 6, 3) := by decide +kernel
theorem dd_M_ask_32 : decode prog_6_method_21_code 32 = .ok (.bipush (-4), 2) := by decide +kernel
theorem dd_M_ask_34 : decode prog_6_method_21_code 34 = .ok (.ireturn, 1) := by decide +kernel
theorem dd_M_ask_35 : decode prog_6_method_21_code 35 = .ok (.aload_n 0, 1) := by decide +kernel
theorem dd_M_ask_36 : decode prog_6_method_21_code 36 = .ok (.getfield 17, 3) := by decide +kernel
theorem dd_M_ask_39 : decode prog_6_method_21_code 39 = .ok (.iload_n 1, 1) := by decide +kernel
theorem dd_M_ask_40 : decode prog_6_method_21_code 40 = .ok (.iaload, 1) := by decide +kernel
theorem dd_M_ask_41 : decode prog_6_method_21_code 41 = .ok (.ifCond .eq 6, 3) := by decide +kernel
theorem dd_M_ask_44 : decode prog_6_method_21_code 44 = .ok (.bipush (-5), 2) := by decide +kernel
theorem dd_M_ask_46 : decode prog_6_method_21_code 46 = .ok (.ireturn, 1) := by decide +kernel
theorem dd_M_ask_47 : decode prog_6_method_21_code 47 = .ok (.iload_n 3, 1) := by decide +kernel
theorem dd_M_ask_48 : decode prog_6_method_21_code 48 = .ok (.iconst 3, 1) := by decide +kernel
theorem dd_M_ask_49 : decode prog_6_method_21_code 49 = .ok (.if_icmp .ne 16, 3) := by decide +kernel
theorem dd_M_ask_52 : decode prog_6_method_21_code 52 = .ok (.aload_n 0, 1) := by decide +kernel
theorem dd_M_ask_53 : decode prog_6_method_21_code 53 = .ok (.getfield 35, 3) := by decide +kernel
theorem dd_M_ask_56 : decode prog_6_method_21_code 56 = .ok (.iload_n 1, 1) := by decide +kernel
theorem dd_M_ask_57 : decode prog_6_method_21_code 57 = .ok (.iload_n 2, 1) := by decide +kernel
theorem dd_M_ask_58 : decode prog_6_method_21_code 58 = .ok (.invokestatic 79, 3) := by decide +kernel
theorem dd_M_ask_61 : decode prog_6_method_21_code 61 = .ok (.iconst 1, 1) := by decide +kernel
theorem dd_M_ask_62 : decode prog_6_method_21_code 62 = .ok (.bastore, 1) := by decide +kernel
theorem dd_M_ask_63 : decode prog_6_method_21_code 63 = .ok (.iconst 1, 1) := by decide +kernel
theorem dd_M_ask_64 : decode prog_6_method_21_code 64 = .ok (.ireturn, 1) := by decide +kernel
theorem dd_M_ask_65 : decode prog_6_method_21_code 65 = .ok (.aload_n 0, 1) := by decide +kernel
theorem dd_M_ask_66 : decode prog_6_method_21_code 66 = .ok (.getfield 29, 3) := by decide +kernel
theorem dd_M_ask_69 : decode prog_6_method_21_code 69 = .ok (.iload_n 1, 1) := by decide +kernel
theorem dd_M_ask_70 : decode prog_6_method_21_code 70 = .ok (.iload_n 2, 1) := by decide +kernel
theorem dd_M_ask_71 : decode prog_6_method_21_code 71 = .ok (.invokestatic 79, 3) := by decide +kernel
theorem dd_M_ask_74 : decode prog_6_method_21_code 74 = .ok (.iaload, 1) := by decide +kernel
theorem dd_M_ask_75 : decode prog_6_method_21_code 75 = .ok (.istore 4, 2) := by decide +kernel
theorem dd_M_ask_77 : decode prog_6_method_21_code 77 = .ok (.iload 4, 2) := by decide +kernel
theorem dd_M_ask_79 : decode prog_6_method_21_code 79 = .ok (.iload_n 3, 1) := by decide +kernel
theorem dd_M_ask_80 : decode prog_6_method_21_code 80 = .ok (.if_icmp .lt 5, 3) := by decide +kernel
theorem dd_M_ask_83 : decode prog_6_method_21_code 83 = .ok (.iconst 1, 1) := by decide +kernel
theorem dd_M_ask_84 : decode prog_6_method_21_code 84 = .ok (.ireturn, 1) := by decide +kernel
theorem dd_M_ask_85 : decode prog_6_method_21_code 85 = .ok (.iload 4, 2) := by decide +kernel
theorem dd_M_ask_87 : decode prog_6_method_21_code 87 = .ok (.iconst (-1), 1) := by decide +kernel
theorem dd_M_ask_88 : decode prog_6_method_21_code 88 = .ok (.if_icmp .ne 32, 3) := by decide +kernel
theorem dd_M_ask_91 : decode prog_6_method_21_code 91 = .ok (.aload_n 0, 1) := by decide +kernel
theorem dd_M_ask_92 : decode prog_6_method_21_code 92 = .ok (.getfield 127, 3) := by decide +kernel
theorem dd_M_ask_95 : decode prog_6_method_21_code 95 = .ok (.ifCond .le 25, 3) := by decide +kernel
theorem dd_M_ask_98 : decode prog_6_method_21_code 98 = .ok (.aload_n 0, 1) := by decide +kernel
theorem dd_M_ask_99 : decode prog_6_method_21_code 99 = .ok (.iload_n 1, 1) := by decide +kernel
theorem dd_M_ask_100 : decode prog_6_method_21_code 100 = .ok (.invokevirtual 98, 3) := by decide +kernel
theorem dd_M_ask_103 : decode prog_6_method_21_code 103 = .ok (.aload_n 0, 1) := by decide +kernel
theorem dd_M_ask_104 : decode prog_6_method_21_code 104 = .ok (.getfield 127, 3) := by decide +kernel
theorem dd_M_ask_107 : decode prog_6_method_21_code 107 = .ok (.if_icmp .lt 13, 3) := by decide +kernel
theorem dd_M_ask_110 : decode prog_6_method_21_code 110 = .ok (.aload_n 0, 1) := by decide +kernel
theorem dd_M_ask_111 : decode prog_6_method_21_code 111 = .ok (.iload_n 1, 1) := by decide +kernel
theorem dd_M_ask_112 : decode prog_6_method_21_code 112 = .ok (.iconst 2, 1) := by decide +kernel
theorem dd_M_ask_113 : decode prog_6_method_21_code 113 = .ok (.invokevirtual 130, 3) := by decide +kernel
theorem dd_M_ask_116 : decode prog_6_method_21_code 116 = .ok (.pop, 1) := by decide +kernel
theorem dd_M_ask_117 : decode prog_6_method_21_code 117 = .ok (.bipush (-3), 2) := by decide +kernel
theorem dd_M_ask_119 : decode prog_6_method_21_code 119 = .ok (.ireturn, 1) := by decide +kernel
theorem dd_M_ask_120 : decode prog_6_method_21_code 120 = .ok (.aload_n 0, 1) := by decide +kernel
theorem dd_M_ask_121 : decode prog_6_method_21_code 121 = .ok (.iload_n 1, 1) := by decide +kernel
theorem dd_M_ask_122 : decode prog_6_method_21_code 122 = .ok (.iload_n 2, 1) := by decide +kernel
theorem dd_M_ask_123 : decode prog_6_method_21_code 123 = .ok (.iload_n 3, 1) := by decide +kernel
theorem dd_M_ask_124 : decode prog_6_method_21_code 124 = .ok (.invokevirtual 90, 3) := by decide +kernel
theorem dd_M_ask_127 : decode prog_6_method_21_code 127 = .ok (.ifCond .eq 31, 3) := by decide +kernel
theorem dd_M_ask_130 : decode prog_6_method_21_code 130 = .ok (.iload 4, 2) := by decide +kernel
theorem dd_M_ask_132 : decode prog_6_method_21_code 132 = .ok (.iconst (-1), 1) := by decide +kernel
theorem dd_M_ask_133 : decode prog_6_method_21_code 133 = .ok (.if_icmp .ne 12, 3) := by decide +kernel
theorem dd_M_ask_136 : decode prog_6_method_21_code 136 = .ok (.aload_n 0, 1) := by decide +kernel
theorem dd_M_ask_137 : decode prog_6_method_21_code 137 = .ok (.getfield 48, 3) := by decide +kernel
theorem dd_M_ask_140 : decode prog_6_method_21_code 140 = .ok (.iload_n 2, 1) := by decide +kernel
theorem dd_M_ask_141 : decode prog_6_method_21_code 141 = .ok (.iaload, 1) := by decide +kernel
theorem dd_M_ask_142 : decode prog_6_method_21_code 142 = .ok (.ifCond .ne 16, 3) := by decide +kernel
theorem dd_M_ask_145 : decode prog_6_method_21_code 145 = .ok (.aload_n 0, 1) := by decide +kernel
theorem dd_M_ask_146 : decode prog_6_method_21_code 146 = .ok (.getfield 29, 3) := by decide +kernel
theorem dd_M_ask_149 : decode prog_6_method_21_code 149 = .ok (.iload_n 1, 1) := by decide +kernel
theorem dd_M_ask_150 : decode prog_6_method_21_code 150 = .ok (.iload_n 2, 1) := by decide +kernel
theorem dd_M_ask_151 : decode prog_6_method_21_code 151 = .ok (.invokestatic 79, 3) := by decide +kernel
theorem dd_M_ask_154 : decode prog_6_method_21_code 154 = .ok (.iload_n 3, 1) := by decide +kernel
theorem dd_M_ask_155 : decode prog_6_method_21_code 155 = .ok (.iastore, 1) := by decide +kernel
theorem dd_M_ask_156 : decode prog_6_method_21_code 156 = .ok (.iconst 1, 1) := by decide +kernel
theorem dd_M_ask_157 : decode prog_6_method_21_code 157 = .ok (.ireturn, 1) := by decide +kernel
theorem dd_M_ask_158 : decode prog_6_method_21_code 158 = .ok (.aload_n 0, 1) := by decide +kernel
theorem dd_M_ask_159 : decode prog_6_method_21_code 159 = .ok (.getfield 48, 3) := by decide +kernel
theorem dd_M_ask_162 : decode prog_6_method_21_code 162 = .ok (.iload_n 2, 1) := by decide +kernel
theorem dd_M_ask_163 : decode prog_6_method_21_code 163 = .ok (.iaload, 1) := by decide +kernel
theorem dd_M_ask_164 : decode prog_6_method_21_code 164 = .ok (.istore 5, 2) := by decide +kernel
theorem dd_M_ask_166 : decode prog_6_method_21_code 166 = .ok (.iload 4, 2) := by decide +kernel
theorem dd_M_ask_168 : decode prog_6_method_21_code 168 = .ok (.iconst (-1), 1) := by decide +kernel
theorem dd_M_ask_169 : decode prog_6_method_21_code 169 = .ok (.if_icmp .eq 48, 3) := by decide +kernel
theorem dd_M_ask_172 : decode prog_6_method_21_code 172 = .ok (.iconst 0, 1) := by decide +kernel
theorem dd_M_ask_173 : decode prog_6_method_21_code 173 = .ok (.istore 5, 2) := by decide +kernel
theorem dd_M_ask_175 : decode prog_6_method_21_code 175 = .ok (.iload 5, 2) := by decide +kernel
theorem dd_M_ask_177 : decode prog_6_method_21_code 177 = .ok (.aload_n 0, 1) := by decide +kernel
theorem dd_M_ask_178 : decode prog_6_method_21_code 178 = .ok (.getfield 48, 3) := by decide +kernel
theorem dd_M_ask_181 : decode prog_6_method_21_code 181 = .ok (.iload_n 2, 1) := by decide +kernel
theorem dd_M_ask_182 : decode prog_6_method_21_code 182 = .ok (.iaload, 1) := by decide +kernel
theorem dd_M_ask_183 : decode prog_6_method_21_code 183 = .ok (.if_icmp .ge 34, 3) := by decide +kernel
theorem dd_M_ask_186 : decode prog_6_method_21_code 186 = .ok (.aload_n 0, 1) := by decide +kernel
theorem dd_M_ask_187 : decode prog_6_method_21_code 187 = .ok (.getfield 29, 3) := by decide +kernel
theorem dd_M_ask_190 : decode prog_6_method_21_code 190 = .ok (.aload_n 0, 1) := by decide +kernel
theorem dd_M_ask_191 : decode prog_6_method_21_code 191 = .ok (.getfield 45, 3) := by decide +kernel
theorem dd_M_ask_194 : decode prog_6_method_21_code 194 = .ok (.bipush 31, 2) := by decide +kernel
theorem dd_M_ask_196 : decode prog_6_method_21_code 196 = .ok (.iload_n 2, 1) := by decide +kernel
theorem dd_M_ask_197 : decode prog_6_method_21_code 197 = .ok (.imul, 1) := by decide +kernel
theorem dd_M_ask_198 : decode prog_6_method_21_code 198 = .ok (.iload 5, 2) := by decide +kernel
theorem dd_M_ask_200 : decode prog_6_method_21_code 200 = .ok (.iadd, 1) := by decide +kernel
theorem dd_M_ask_201 : decode prog_6_method_21_code 201 = .ok (.iaload, 1) := by decide +kernel
theorem dd_M_ask_202 : decode prog_6_method_21_code 202 = .ok (.iload_n 2, 1) := by decide +kernel
theorem dd_M_ask_203 : decode prog_6_method_21_code 203 = .ok (.invokestatic 79, 3) := by decide +kernel
theorem dd_M_ask_206 : decode prog_6_method_21_code 206 = .ok (.iaload, 1) := by decide +kernel
theorem dd_M_ask_207 : decode prog_6_method_21_code 207 = .ok (.iconst (-1), 1) := by decide +kernel
theorem dd_M_ask_208 : decode prog_6_method_21_code 208 = .ok (.if_icmp .eq 9, 3) := by decide +kernel
theorem dd_M_ask_211 : decode prog_6_method_21_code 211 = .ok (.iinc 5 1, 3) := by decide +kernel
theorem dd_M_ask_214 : decode prog_6_method_21_code 214 = .ok (.goto (-39), 3) := by decide +kernel
theorem dd_M_ask_217 : decode prog_6_method_21_code 217 = .ok (.aload_n 0, 1) := by decide +kernel
theorem dd_M_ask_218 : decode prog_6_method_21_code 218 = .ok (.iload_n 1, 1) := by decide +kernel
theorem dd_M_ask_219 : decode prog_6_method_21_code 219 = .ok (.iload_n 2, 1) := by decide +kernel
theorem dd_M_ask_220 : decode prog_6_method_21_code 220 = .ok (.iload 5, 2) := by decide +kernel
theorem dd_M_ask_222 : decode prog_6_method_21_code 222 = .ok (.invokevirtual 133, 3) := by decide +kernel
theorem dd_M_ask_225 : decode prog_6_method_21_code 225 = .ok (.aload_n 0, 1) := by decide +kernel
theorem dd_M_ask_226 : decode prog_6_method_21_code 226 = .ok (.getfield 23, 3) := by decide +kernel
theorem dd_M_ask_229 : decode prog_6_method_21_code 229 = .ok (.iload_n 1, 1) := by decide +kernel
theorem dd_M_ask_230 : decode prog_6_method_21_code 230 = .ok (.iload_n 2, 1) := by decide +kernel
theorem dd_M_ask_231 : decode prog_6_method_21_code 231 = .ok (.iastore, 1) := by decide +kernel
theorem dd_M_ask_232 : decode prog_6_method_21_code 232 = .ok (.aload_n 0, 1) := by decide +kernel
theorem dd_M_ask_233 : decode prog_6_method_21_code 233 = .ok (.getfield 26, 3) := by decide +kernel
theorem dd_M_ask_236 : decode prog_6_method_21_code 236 = .ok (.iload_n 1, 1) := by decide +kernel
theorem dd_M_ask_237 : decode prog_6_method_21_code 237 = .ok (.iload_n 3, 1) := by decide +kernel
theorem dd_M_ask_238 : decode prog_6_method_21_code 238 = .ok (.iastore, 1) := by decide +kernel
theorem dd_M_ask_239 : decode prog_6_method_21_code 239 = .ok (.aload_n 0, 1) := by decide +kernel
theorem dd_M_ask_240 : decode prog_6_method_21_code 240 = .ok (.getfield 17, 3) := by decide +kernel
theorem dd_M_ask_243 : decode prog_6_method_21_code 243 = .ok (.iload_n 1, 1) := by decide +kernel
theorem dd_M_ask_244 : decode prog_6_method_21_code 244 = .ok (.iconst 1, 1) := by decide +kernel
theorem dd_M_ask_245 : decode prog_6_method_21_code 245 = .ok (.iastore, 1) := by decide +kernel
theorem dd_M_ask_246 : decode prog_6_method_21_code 246 = .ok (.aload_n 0, 1) := by decide +kernel
theorem dd_M_ask_247 : decode prog_6_method_21_code 247 = .ok (.getfield 17, 3) := by decide +kernel
theorem dd_M_ask_250 : decode prog_6_method_21_code 250 = .ok (.iload_n 1, 1) := by decide +kernel
theorem dd_M_ask_251 : decode prog_6_method_21_code 251 = .ok (.iaload, 1) := by decide +kernel
theorem dd_M_ask_252 : decode prog_6_method_21_code 252 = .ok (.iconst 1, 1) := by decide +kernel
theorem dd_M_ask_253 : decode prog_6_method_21_code 253 = .ok (.if_icmp .ne 47, 3) := by decide +kernel
theorem dd_M_ask_256 : decode prog_6_method_21_code 256 = .ok (.aload_n 0, 1) := by decide +kernel
theorem dd_M_ask_257 : decode prog_6_method_21_code 257 = .ok (.iload_n 1, 1) := by decide +kernel
theorem dd_M_ask_258 : decode prog_6_method_21_code 258 = .ok (.invokevirtual 137, 3) := by decide +kernel
theorem dd_M_ask_261 : decode prog_6_method_21_code 261 = .ok (.ifCond .eq 39, 3) := by decide +kernel
theorem dd_M_ask_264 : decode prog_6_method_21_code 264 = .ok (.aload_n 0, 1) := by decide +kernel
theorem dd_M_ask_265 : decode prog_6_method_21_code 265 = .ok (.invokevirtual 140, 3) := by decide +kernel
theorem dd_M_ask_268 : decode prog_6_method_21_code 268 = .ok (.istore 6, 2) := by decide +kernel
theorem dd_M_ask_270 : decode prog_6_method_21_code 270 = .ok (.aload_n 0, 1) := by decide +kernel
theorem dd_M_ask_271 : decode prog_6_method_21_code 271 = .ok (.getfield 20, 3) := by decide +kernel
theorem dd_M_ask_274 : decode prog_6_method_21_code 274 = .ok (.iload 6, 2) := by decide +kernel
theorem dd_M_ask_276 : decode prog_6_method_21_code 276 = .ok (.dup2, 1) := by decide +kernel
theorem dd_M_ask_277 : decode prog_6_method_21_code 277 = .ok (.iaload, 1) := by decide +kernel
theorem dd_M_ask_278 : decode prog_6_method_21_code 278 = .ok (.iconst 1, 1) := by decide +kernel
theorem dd_M_ask_279 : decode prog_6_method_21_code 279 = .ok (.iadd, 1) := by decide +kernel
theorem dd_M_ask_280 : decode prog_6_method_21_code 280 = .ok (.iastore, 1) := by decide +kernel
theorem dd_M_ask_281 : decode prog_6_method_21_code 281 = .ok (.aload_n 0, 1) := by decide +kernel
theorem dd_M_ask_282 : decode prog_6_method_21_code 282 = .ok (.iload 6, 2) := by decide +kernel
theorem dd_M_ask_284 : decode prog_6_method_21_code 284 = .ok (.iconst 0, 1) := by decide +kernel
theorem dd_M_ask_285 : decode prog_6_method_21_code 285 = .ok (.invokevirtual 130, 3) := by decide +kernel
theorem dd_M_ask_288 : decode prog_6_method_21_code 288 = .ok (.pop, 1) := by decide +kernel
theorem dd_M_ask_289 : decode prog_6_method_21_code 289 = .ok (.iload 6, 2) := by decide +kernel
theorem dd_M_ask_291 : decode prog_6_method_21_code 291 = .ok (.iload_n 1, 1) := by decide +kernel
theorem dd_M_ask_292 : decode prog_6_method_21_code 292 = .ok (.if_icmp .ne 5, 3) := by decide +kernel
theorem dd_M_ask_295 : decode prog_6_method_21_code 295 = .ok (.iconst (-1), 1) := by decide +kernel
theorem dd_M_ask_296 : decode prog_6_method_21_code 296 = .ok (.ireturn, 1) := by decide +kernel
theorem dd_M_ask_297 : decode prog_6_method_21_code 297 = .ok (.goto (-51), 3) := by decide +kernel
theorem dd_M_ask_300 : decode prog_6_method_21_code 300 = .ok (.aload_n 0, 1) := by decide +kernel
theorem dd_M_ask_301 : decode prog_6_method_21_code 301 = .ok (.getfield 17, 3) := by decide +kernel
theorem dd_M_ask_304 : decode prog_6_method_21_code 304 = .ok (.iload_n 1, 1) := by decide +kernel
theorem dd_M_ask_305 : decode prog_6_method_21_code 305 = .ok (.iaload, 1) := by decide +kernel
theorem dd_M_ask_306 : decode prog_6_method_21_code 306 = .ok (.iconst 1, 1) := by decide +kernel
theorem dd_M_ask_307 : decode prog_6_method_21_code 307 = .ok (.if_icmp .ne 7, 3) := by decide +kernel
theorem dd_M_ask_310 : decode prog_6_method_21_code 310 = .ok (.iconst 0, 1) := by decide +kernel
theorem dd_M_ask_311 : decode prog_6_method_21_code 311 = .ok (.goto 4, 3) := by decide +kernel
theorem dd_M_ask_314 : decode prog_6_method_21_code 314 = .ok (.iconst 1, 1) := by decide +kernel
theorem dd_M_ask_315 : decode prog_6_method_21_code 315 = .ok (.ireturn, 1) := by decide +kernel
def wp_M_ask_32 (g : Gm) (post : Int32 → Hp → Prop) (h : Hp) : Prop := post (-4) h
set_option maxHeartbeats 4000000 in
set_option maxRecDepth 100000 in
theorem wk_M_ask_32 {p : Program} {l : Launch} {e : Env} {s : State} {m : MethodId} {args : Array Value} {below : List Frame} {meth : Method} {c : Code} {g : Gm} {post : Int32 → Hp → Prop} (C0 : Cx g p s m args c prog_6_method_21_code 7 "SegmentLocksModel") (hr : meth.sig.returnType = (some .int)) (hlk : meth.locks = false) : ∀ (h : Hp) (H : Heap) (locs : List Loc) (ls : Array Slot), wp_M_ask_32 g post h → GH g h H → va_S (gA g) s.heap H locs → lv_has ls 7 [] → W p l e (rmm 4 92 0 0) s m args below meth c H locs 0 0 (MQ below (va_Qi post (gS g) (gA g)) args s 0 0 (gA g)) (F0 m 32 ls []) := by
  obtain ⟨hx, hb, -, hown, hts, hgk⟩ := id C0
  intro h H locs ls hw hG hS hl
  unfold wp_M_ask_32 at hw
  refine lv_bipush (v := (-4)) hx hb dd_M_ask_32 (by decide) ?_
  exact re_i C0 hG hS hr hlk ⟨Nat.le_refl _, Nat.le_refl _⟩ hw dd_M_ask_34
def wp_M_ask_315 (g : Gm) (post : Int32 → Hp → Prop) (h : Hp) (s0 : Int32) : Prop := post s0 h
set_option maxHeartbeats 4000000 in
set_option maxRecDepth 100000 in
theorem wk_M_ask_315 {p : Program} {l : Launch} {e : Env} {s : State} {m : MethodId} {args : Array Value} {below : List Frame} {meth : Method} {c : Code} {g : Gm} {post : Int32 → Hp → Prop} (C0 : Cx g p s m args c prog_6_method_21_code 7 "SegmentLocksModel") (hr : meth.sig.returnType = (some .int)) (hlk : meth.locks = false) : ∀ (h : Hp) (s0 : Int32) (H : Heap) (locs : List Loc) (ls : Array Slot), wp_M_ask_315 g post h s0 → GH g h H → va_S (gA g) s.heap H locs → lv_has ls 7 [] → W p l e (rmm 4 92 0 0) s m args below meth c H locs 0 0 (MQ below (va_Qi post (gS g) (gA g)) args s 0 0 (gA g)) (F0 m 315 ls [.int s0]) := by
  obtain ⟨hx, hb, -, hown, hts, hgk⟩ := id C0
  intro h s0 H locs ls hw hG hS hl
  unfold wp_M_ask_315 at hw
  exact re_i C0 hG hS hr hlk ⟨Nat.le_refl _, Nat.le_refl _⟩ hw dd_M_ask_315
def wp_M_ask_300 (g : Gm) (post : Int32 → Hp → Prop) (h : Hp) (v0 : Nat) (v1 : Int32) : Prop := hK h v0 = 5 ∧ ∃ a2 : Nat, hR h v0 5 = some a2 ∧ hK h a2 = 21 ∧ vp_in v1 (hN h a2) ∧ ((¬ (hI h a2 v1.toNatClampNeg) = 1 → wp_M_ask_315 g post h 1) ∧ ((hI h a2 v1.toNatClampNeg) = 1 → wp_M_ask_315 g post h 0))
set_option maxHeartbeats 4000000 in
set_option maxRecDepth 100000 in
theorem wk_M_ask_300 {p : Program} {l : Launch} {e : Env} {s : State} {m : MethodId} {args : Array Value} {below : List Frame} {meth : Method} {c : Code} {g : Gm} {post : Int32 → Hp → Prop} (C0 : Cx g p s m args c prog_6_method_21_code 7 "SegmentLocksModel") (hr : meth.sig.returnType = (some .int)) (hlk : meth.locks = false) : ∀ (h : Hp) (v0 : Nat) (v1 : Int32) (H : Heap) (locs : List Loc) (ls : Array Slot), wp_M_ask_300 g post h v0 v1 → GH g h H → va_S (gA g) s.heap H locs → lv_has ls 7 [(0, .ref v0), (1, .int v1)] → W p l e (rmm 4 92 0 0) s m args below meth c H locs 0 0 (MQ below (va_Qi post (gS g) (gA g)) args s 0 0 (gA g)) (F0 m 300 ls []) := by
  obtain ⟨hx, hb, -, hown, hts, hgk⟩ := id C0
  intro h v0 v1 H locs ls hw hG hS hl
  unfold wp_M_ask_300 at hw
  refine lv_aload_n hx hb dd_M_ask_300 rfl (lv_at hl 0 rfl) ?_
  obtain ⟨k1, a2, ea2, hw⟩ := hw
  refine gf_M_17 C0 hG k1 ea2 dd_M_ask_301 ?_
  refine lv_iload_n hx hb dd_M_ask_304 rfl (lv_at hl 1 rfl) ?_
  obtain ⟨k3, k3i, hw⟩ := hw
  refine px_iald C0 hG k3 k3i dd_M_ask_305 ?_
  refine lv_iconst (v := 1) hx hb dd_M_ask_306 (by decide) ?_
  refine lv_icmp_ne (tgt := 314) hx hb dd_M_ask_307 (by decide) (fun c4 => ?_) (fun c4 => ?_)
  · replace hw := hw.1 c4
    refine lv_iconst (v := 1) hx hb dd_M_ask_314 (by decide) ?_
    exact wk_M_ask_315 C0 hr hlk _ _ _ _ _ hw hG hS (lv_sub hl [] rfl)
  · replace hw := hw.2 c4
    refine lv_iconst (v := 0) hx hb dd_M_ask_310 (by decide) ?_
    refine lv_goto (tgt := 315) hx hb dd_M_ask_311 (by decide) ?_
    exact wk_M_ask_315 C0 hr hlk _ _ _ _ _ hw hG hS (lv_sub hl [] rfl)
def wp_M_ask_246 (g : Gm) (post : Int32 → Hp → Prop) : Nat → Hp → Nat → Int32 → Prop
  | 0, _, _, _ => False
  | fu + 1, h, v0, v1 => hK h v0 = 5 ∧ ∃ a2 : Nat, hR h v0 5 = some a2 ∧ hK h a2 = 21 ∧ vp_in v1 (hN h a2) ∧ ((¬ (hI h a2 v1.toNatClampNeg) = 1 → wp_M_ask_300 g post h v0 v1) ∧ ((hI h a2 v1.toNatClampNeg) = 1 → hK h v0 = 5 ∧ wp_M_findRing g (fun x7 h6 => ((x7 = 0 → wp_M_ask_300 g post h6 v0 v1) ∧ (¬ x7 = 0 → hK h6 v0 = 5 ∧ wp_M_youngest g (fun x11 => hK h6 v0 = 5 ∧ ∃ a13 : Nat, hR h6 v0 6 = some a13 ∧ hK h6 a13 = 21 ∧ vp_in x11 (hN h6 a13) ∧ ∀ x15 : Int32, x15 = (hI h6 a13 x11.toNatClampNeg) + 1 → hK h6 a13 = 21 ∧ vp_in x11 (hN h6 a13) ∧ ∀ h17 : Hp, h17 = sI h6 a13 x11.toNatClampNeg x15 → hK h17 v0 = 5 ∧ wp_M_clear g (fun x20 h19 => ((¬ x11 = v1 → wp_M_ask_246 g post fu h19 v0 v1) ∧ (x11 = v1 → post (-1) h19))) h17 v0 x11 0) h6 v0))) h v0 v1))
set_option maxHeartbeats 4000000 in
set_option maxRecDepth 100000 in
theorem wk_M_ask_246 {p : Program} {l : Launch} {e : Env} {s : State} {m : MethodId} {args : Array Value} {below : List Frame} {meth : Method} {c : Code} {g : Gm} {post : Int32 → Hp → Prop} (C0 : Cx g p s m args c prog_6_method_21_code 7 "SegmentLocksModel") (hr : meth.sig.returnType = (some .int)) (hlk : meth.locks = false) : ∀ n : Nat, ∀ (h : Hp) (v0 : Nat) (v1 : Int32) (H : Heap) (locs : List Loc) (ls : Array Slot), wp_M_ask_246 g post n h v0 v1 → GH g h H → va_S (gA g) s.heap H locs → lv_has ls 7 [(0, .ref v0), (1, .int v1)] → W p l e (rmm 4 92 0 0) s m args below meth c H locs 0 0 (MQ below (va_Qi post (gS g) (gA g)) args s 0 0 (gA g)) (F0 m 246 ls []) := by
  obtain ⟨hx, hb, -, hown, hts, hgk⟩ := id C0
  intro n
  induction n with
  | zero =>
    intro h v0 v1 H locs ls hw hG hS hl
    exact hw.elim
  | succ n ih =>
    intro h v0 v1 H locs ls hw hG hS hl
    unfold wp_M_ask_246 at hw
    refine lv_aload_n hx hb dd_M_ask_246 rfl (lv_at hl 0 rfl) ?_
    obtain ⟨k1, a2, ea2, hw⟩ := hw
    refine gf_M_17 C0 hG k1 ea2 dd_M_ask_247 ?_
    refine lv_iload_n hx hb dd_M_ask_250 rfl (lv_at hl 1 rfl) ?_
    obtain ⟨k3, k3i, hw⟩ := hw
    refine px_iald C0 hG k3 k3i dd_M_ask_251 ?_
    refine lv_iconst (v := 1) hx hb dd_M_ask_252 (by decide) ?_
    refine lv_icmp_ne (tgt := 300) hx hb dd_M_ask_253 (by decide) (fun c4 => ?_) (fun c4 => ?_)
    · replace hw := hw.1 c4
      exact wk_M_ask_300 C0 hr hlk _ _ _ _ _ _ hw hG hS (lv_sub hl [0, 1] rfl)
    · replace hw := hw.2 c4
      refine lv_aload_n hx hb dd_M_ask_256 rfl (lv_at hl 0 rfl) ?_
      refine lv_iload_n hx hb dd_M_ask_257 rfl (lv_at hl 1 rfl) ?_
      obtain ⟨k5, hw⟩ := hw
      refine ca_i hS (rn_V C0 hG hS (c_M_findRing l g _ h v0 v1 hw) (ci := 4) k5 (by decide) rfl rfl (host := "") (nest := false) (n := 1) (As := [.int v1]) (rest := []) km_469 km_468 km_470 km_471 km_421 ⟨by decide, by decide, by decide +kernel⟩ ⟨Nat.le_of_ble_eq_true rfl, Nat.le_of_ble_eq_true rfl⟩ rfl hl.1 rfl (Nat.le_of_ble_eq_true rfl) dd_M_ask_258 ⟨Nat.le_refl _, Nat.le_refl _⟩) (fun x7 h6 H locs hw hG hS => ?_)
      refine lv_if_eq (tgt := 300) hx hb dd_M_ask_261 (by decide) (fun c8 => ?_) (fun c8 => ?_)
      · replace hw := hw.1 c8
        exact wk_M_ask_300 C0 hr hlk _ _ _ _ _ _ hw hG hS (lv_sub hl [0, 1] rfl)
      · replace hw := hw.2 c8
        refine lv_aload_n hx hb dd_M_ask_264 rfl (lv_at hl 0 rfl) ?_
        obtain ⟨k9, hw⟩ := hw
        have hw0 := hw
        clear hw
        refine cs_i (rn_V C0 hG hS (c_M_youngest l g _ h6 v0 hw0) (ci := 4) k9 (by decide) rfl rfl (host := "") (nest := false) (n := 0) (As := []) (rest := []) km_465 km_464 km_466 km_467 km_421 ⟨by decide, by decide, by decide +kernel⟩ ⟨Nat.le_of_ble_eq_true rfl, Nat.le_of_ble_eq_true rfl⟩ rfl hl.1 rfl (Nat.le_of_ble_eq_true rfl) dd_M_ask_265 ⟨Nat.le_refl _, Nat.le_refl _⟩) (fun x11 hw => ?_)
        have hl0 := hl
        clear hl
        refine lv_istore (lv' := [(6, .int x11), (0, .ref v0), (1, .int v1)]) hx hb dd_M_ask_268 hl0 (by decide) rfl (fun ls hl => ?_)
        refine lv_aload_n hx hb dd_M_ask_270 rfl (lv_at hl 1 rfl) ?_
        obtain ⟨k12, a13, ea13, hw⟩ := hw
        refine gf_M_20 C0 hG k12 ea13 dd_M_ask_271 ?_
        refine lv_iload hx hb dd_M_ask_274 (lv_at hl 0 rfl) ?_
        refine lv_dup2_11 hx hb dd_M_ask_276 rfl rfl ?_
        obtain ⟨k14, k14i, hw⟩ := hw
        refine px_iald C0 hG k14 k14i dd_M_ask_277 ?_
        refine lv_iconst (v := 1) hx hb dd_M_ask_278 (by decide) ?_
        refine lv_iadd hx hb dd_M_ask_279 ?_
        refine lv_topi (fun x15 ex15 => ?_)
        replace hw := hw x15 ex15
        obtain ⟨k16, k16i, hw⟩ := hw
        refine px_iast C0 hG hS k16 k16i dd_M_ask_280 (fun H locs hG hS => ?_)
        replace hw := hw _ rfl
        generalize sI h6 a13 x11.toNatClampNeg x15 = h17 at hw hG
        refine lv_aload_n hx hb dd_M_ask_281 rfl (lv_at hl 1 rfl) ?_
        refine lv_iload hx hb dd_M_ask_282 (lv_at hl 0 rfl) ?_
        refine lv_iconst (v := 0) hx hb dd_M_ask_284 (by decide) ?_
        obtain ⟨k18, hw⟩ := hw
        refine ca_i hS (rn_V C0 hG hS (c_M_clear l g _ h17 v0 x11 0 hw) (ci := 4) k18 (by decide) rfl rfl (host := "") (nest := false) (n := 2) (As := [.int x11, .int 0]) (rest := []) km_461 km_460 km_462 km_463 km_421 ⟨by decide, by decide, by decide +kernel⟩ ⟨Nat.le_of_ble_eq_true rfl, Nat.le_of_ble_eq_true rfl⟩ rfl hl.1 rfl (Nat.le_of_ble_eq_true rfl) dd_M_ask_285 ⟨Nat.le_refl _, Nat.le_refl _⟩) (fun x20 h19 H locs hw hG hS => ?_)
        refine lv_pop hx hb dd_M_ask_288 rfl ?_
        refine lv_iload hx hb dd_M_ask_289 (lv_at hl 0 rfl) ?_
        refine lv_iload_n hx hb dd_M_ask_291 rfl (lv_at hl 2 rfl) ?_
        refine lv_icmp_ne (tgt := 297) hx hb dd_M_ask_292 (by decide) (fun c21 => ?_) (fun c21 => ?_)
        · replace hw := hw.1 c21
          refine lv_goto (tgt := 246) hx hb dd_M_ask_297 (by decide) ?_
          exact ih _ _ _ _ _ _ hw hG hS (lv_sub hl [1, 2] rfl)
        · replace hw := hw.2 c21
          refine lv_iconst (v := (-1)) hx hb dd_M_ask_295 (by decide) ?_
          exact re_i C0 hG hS hr hlk ⟨Nat.le_refl _, Nat.le_refl _⟩ hw dd_M_ask_296
def wp_M_ask_217 (g : Gm) (post : Int32 → Hp → Prop) (h : Hp) (v0 : Nat) (v1 : Int32) (v2 : Int32) (v3 : Int32) (v5 : Int32) : Prop := hK h v0 = 5 ∧ wp_M_insert g (fun h2 => hK h2 v0 = 5 ∧ ∃ a4 : Nat, hR h2 v0 7 = some a4 ∧ hK h2 a4 = 21 ∧ vp_in v1 (hN h2 a4) ∧ ∀ h6 : Hp, h6 = sI h2 a4 v1.toNatClampNeg v2 → hK h6 v0 = 5 ∧ ∃ a8 : Nat, hR h6 v0 8 = some a8 ∧ hK h6 a8 = 21 ∧ vp_in v1 (hN h6 a8) ∧ ∀ h10 : Hp, h10 = sI h6 a8 v1.toNatClampNeg v3 → hK h10 v0 = 5 ∧ ∃ a12 : Nat, hR h10 v0 5 = some a12 ∧ hK h10 a12 = 21 ∧ vp_in v1 (hN h10 a12) ∧ ∀ h14 : Hp, h14 = sI h10 a12 v1.toNatClampNeg 1 → ∃ n : Nat, wp_M_ask_246 g post n h14 v0 v1) h v0 v1 v2 v5
set_option maxHeartbeats 4000000 in
set_option maxRecDepth 100000 in
theorem wk_M_ask_217 {p : Program} {l : Launch} {e : Env} {s : State} {m : MethodId} {args : Array Value} {below : List Frame} {meth : Method} {c : Code} {g : Gm} {post : Int32 → Hp → Prop} (C0 : Cx g p s m args c prog_6_method_21_code 7 "SegmentLocksModel") (hr : meth.sig.returnType = (some .int)) (hlk : meth.locks = false) : ∀ (h : Hp) (v0 : Nat) (v1 : Int32) (v2 : Int32) (v3 : Int32) (v5 : Int32) (H : Heap) (locs : List Loc) (ls : Array Slot), wp_M_ask_217 g post h v0 v1 v2 v3 v5 → GH g h H → va_S (gA g) s.heap H locs → lv_has ls 7 [(0, .ref v0), (1, .int v1), (2, .int v2), (3, .int v3), (5, .int v5)] → W p l e (rmm 4 92 0 0) s m args below meth c H locs 0 0 (MQ below (va_Qi post (gS g) (gA g)) args s 0 0 (gA g)) (F0 m 217 ls []) := by
  obtain ⟨hx, hb, -, hown, hts, hgk⟩ := id C0
  intro h v0 v1 v2 v3 v5 H locs ls hw hG hS hl
  unfold wp_M_ask_217 at hw
  refine lv_aload_n hx hb dd_M_ask_217 rfl (lv_at hl 0 rfl) ?_
  refine lv_iload_n hx hb dd_M_ask_218 rfl (lv_at hl 1 rfl) ?_
  refine lv_iload_n hx hb dd_M_ask_219 rfl (lv_at hl 2 rfl) ?_
  refine lv_iload hx hb dd_M_ask_220 (lv_at hl 4 rfl) ?_
  obtain ⟨k1, hw⟩ := hw
  refine ca_v hS (rn_V C0 hG hS (c_M_insert l g _ h v0 v1 v2 v5 hw) (ci := 4) k1 (by decide) rfl rfl (host := "") (nest := false) (n := 3) (As := [.int v1, .int v2, .int v5]) (rest := []) km_473 km_472 km_474 km_475 km_421 ⟨by decide, by decide, by decide +kernel⟩ ⟨Nat.le_of_ble_eq_true rfl, Nat.le_of_ble_eq_true rfl⟩ rfl hl.1 rfl (Nat.le_of_ble_eq_true rfl) dd_M_ask_222 ⟨Nat.le_refl _, Nat.le_refl _⟩) (fun h2 H locs hw hG hS => ?_)
  refine lv_aload_n hx hb dd_M_ask_225 rfl (lv_at hl 0 rfl) ?_
  obtain ⟨k3, a4, ea4, hw⟩ := hw
  refine gf_M_23 C0 hG k3 ea4 dd_M_ask_226 ?_
  refine lv_iload_n hx hb dd_M_ask_229 rfl (lv_at hl 1 rfl) ?_
  refine lv_iload_n hx hb dd_M_ask_230 rfl (lv_at hl 2 rfl) ?_
  obtain ⟨k5, k5i, hw⟩ := hw
  refine px_iast C0 hG hS k5 k5i dd_M_ask_231 (fun H locs hG hS => ?_)
  replace hw := hw _ rfl
  generalize sI h2 a4 v1.toNatClampNeg v2 = h6 at hw hG
  refine lv_aload_n hx hb dd_M_ask_232 rfl (lv_at hl 0 rfl) ?_
  obtain ⟨k7, a8, ea8, hw⟩ := hw
  refine gf_M_26 C0 hG k7 ea8 dd_M_ask_233 ?_
  refine lv_iload_n hx hb dd_M_ask_236 rfl (lv_at hl 1 rfl) ?_
  refine lv_iload_n hx hb dd_M_ask_237 rfl (lv_at hl 3 rfl) ?_
  obtain ⟨k9, k9i, hw⟩ := hw
  refine px_iast C0 hG hS k9 k9i dd_M_ask_238 (fun H locs hG hS => ?_)
  replace hw := hw _ rfl
  generalize sI h6 a8 v1.toNatClampNeg v3 = h10 at hw hG
  refine lv_aload_n hx hb dd_M_ask_239 rfl (lv_at hl 0 rfl) ?_
  obtain ⟨k11, a12, ea12, hw⟩ := hw
  refine gf_M_17 C0 hG k11 ea12 dd_M_ask_240 ?_
  refine lv_iload_n hx hb dd_M_ask_243 rfl (lv_at hl 1 rfl) ?_
  refine lv_iconst (v := 1) hx hb dd_M_ask_244 (by decide) ?_
  obtain ⟨k13, k13i, hw⟩ := hw
  refine px_iast C0 hG hS k13 k13i dd_M_ask_245 (fun H locs hG hS => ?_)
  replace hw := hw _ rfl
  generalize sI h10 a12 v1.toNatClampNeg 1 = h14 at hw hG
  obtain ⟨n, hw⟩ := hw
  exact wk_M_ask_246 C0 hr hlk n _ _ _ _ _ _ hw hG hS (lv_sub hl [0, 1] rfl)
def wp_M_ask_175 (g : Gm) (post : Int32 → Hp → Prop) : Nat → Hp → Nat → Int32 → Int32 → Int32 → Int32 → Prop
  | 0, _, _, _, _, _, _ => False
  | fu + 1, h, v0, v1, v2, v3, v5 => hK h v0 = 5 ∧ ∃ a2 : Nat, hR h v0 16 = some a2 ∧ hK h a2 = 21 ∧ vp_in v2 (hN h a2) ∧ (((hI h a2 v2.toNatClampNeg) ≤ v5 → wp_M_ask_217 g post h v0 v1 v2 v3 v5) ∧ (¬ (hI h a2 v2.toNatClampNeg) ≤ v5 → hK h v0 = 5 ∧ ∃ a6 : Nat, hR h v0 9 = some a6 ∧ hK h v0 = 5 ∧ ∃ a8 : Nat, hR h v0 15 = some a8 ∧ ∀ x9 : Int32, x9 = 31 * v2 → ∀ x10 : Int32, x10 = x9 + v5 → hK h a8 = 21 ∧ vp_in x10 (hN h a8) ∧ wp_M_of g (fun x14 => hK h a6 = 21 ∧ vp_in x14 (hN h a6) ∧ (((hI h a6 x14.toNatClampNeg) = (-1) → wp_M_ask_217 g post h v0 v1 v2 v3 v5) ∧ (¬ (hI h a6 x14.toNatClampNeg) = (-1) → ∀ x17 : Int32, x17 = v5 + 1 → wp_M_ask_175 g post fu h v0 v1 v2 v3 x17))) h (hI h a8 x10.toNatClampNeg) v2))
set_option maxHeartbeats 4000000 in
set_option maxRecDepth 100000 in
theorem wk_M_ask_175 {p : Program} {l : Launch} {e : Env} {s : State} {m : MethodId} {args : Array Value} {below : List Frame} {meth : Method} {c : Code} {g : Gm} {post : Int32 → Hp → Prop} (C0 : Cx g p s m args c prog_6_method_21_code 7 "SegmentLocksModel") (hr : meth.sig.returnType = (some .int)) (hlk : meth.locks = false) : ∀ n : Nat, ∀ (h : Hp) (v0 : Nat) (v1 : Int32) (v2 : Int32) (v3 : Int32) (v5 : Int32) (H : Heap) (locs : List Loc) (ls : Array Slot), wp_M_ask_175 g post n h v0 v1 v2 v3 v5 → GH g h H → va_S (gA g) s.heap H locs → lv_has ls 7 [(0, .ref v0), (1, .int v1), (2, .int v2), (3, .int v3), (5, .int v5)] → W p l e (rmm 4 92 0 0) s m args below meth c H locs 0 0 (MQ below (va_Qi post (gS g) (gA g)) args s 0 0 (gA g)) (F0 m 175 ls []) := by
  obtain ⟨hx, hb, -, hown, hts, hgk⟩ := id C0
  intro n
  induction n with
  | zero =>
    intro h v0 v1 v2 v3 v5 H locs ls hw hG hS hl
    exact hw.elim
  | succ n ih =>
    intro h v0 v1 v2 v3 v5 H locs ls hw hG hS hl
    unfold wp_M_ask_175 at hw
    refine lv_iload hx hb dd_M_ask_175 (lv_at hl 4 rfl) ?_
    refine lv_aload_n hx hb dd_M_ask_177 rfl (lv_at hl 0 rfl) ?_
    obtain ⟨k1, a2, ea2, hw⟩ := hw
    refine gf_M_48 C0 hG k1 ea2 dd_M_ask_178 ?_
    refine lv_iload_n hx hb dd_M_ask_181 rfl (lv_at hl 2 rfl) ?_
    obtain ⟨k3, k3i, hw⟩ := hw
    refine px_iald C0 hG k3 k3i dd_M_ask_182 ?_
    refine lv_icmp_ge (tgt := 217) hx hb dd_M_ask_183 (by decide) (fun c4 => ?_) (fun c4 => ?_)
    · replace hw := hw.1 c4
      exact wk_M_ask_217 C0 hr hlk _ _ _ _ _ _ _ _ _ hw hG hS (lv_sub hl [0, 1, 2, 3, 4] rfl)
    · replace hw := hw.2 c4
      refine lv_aload_n hx hb dd_M_ask_186 rfl (lv_at hl 0 rfl) ?_
      obtain ⟨k5, a6, ea6, hw⟩ := hw
      refine gf_M_29 C0 hG k5 ea6 dd_M_ask_187 ?_
      refine lv_aload_n hx hb dd_M_ask_190 rfl (lv_at hl 0 rfl) ?_
      obtain ⟨k7, a8, ea8, hw⟩ := hw
      refine gf_M_45 C0 hG k7 ea8 dd_M_ask_191 ?_
      refine lv_bipush (v := 31) hx hb dd_M_ask_194 (by decide) ?_
      refine lv_iload_n hx hb dd_M_ask_196 rfl (lv_at hl 2 rfl) ?_
      refine lv_imul hx hb dd_M_ask_197 ?_
      refine lv_topi (fun x9 ex9 => ?_)
      replace hw := hw x9 ex9
      refine lv_iload hx hb dd_M_ask_198 (lv_at hl 4 rfl) ?_
      refine lv_iadd hx hb dd_M_ask_200 ?_
      refine lv_topi (fun x10 ex10 => ?_)
      replace hw := hw x10 ex10
      obtain ⟨k11, k11i, hw⟩ := hw
      refine px_iald C0 hG k11 k11i dd_M_ask_201 ?_
      refine lv_iload_n hx hb dd_M_ask_202 rfl (lv_at hl 2 rfl) ?_
      have hw0 := hw
      clear hw
      refine cs_i (rn_S C0 hG hS (c_M_of l g _ h (hI h a8 x10.toNatClampNeg) v2 hw0) (host := "") (nest := false) (n := 2) (As := [.int (hI h a8 x10.toNatClampNeg), .int v2]) (rest := [.ref a6]) km_420 km_419 km_422 km_421 ⟨by decide, by decide, by decide +kernel⟩ ⟨Nat.le_of_ble_eq_true rfl, Nat.le_of_ble_eq_true rfl⟩ rfl hl.1 rfl (Nat.le_of_ble_eq_true rfl) dd_M_ask_203 ⟨Nat.le_refl _, Nat.le_refl _⟩) (fun x14 hw => ?_)
      obtain ⟨k15, k15i, hw⟩ := hw
      refine px_iald C0 hG k15 k15i dd_M_ask_206 ?_
      refine lv_iconst (v := (-1)) hx hb dd_M_ask_207 (by decide) ?_
      refine lv_icmp_eq (tgt := 217) hx hb dd_M_ask_208 (by decide) (fun c16 => ?_) (fun c16 => ?_)
      · replace hw := hw.1 c16
        exact wk_M_ask_217 C0 hr hlk _ _ _ _ _ _ _ _ _ hw hG hS (lv_sub hl [0, 1, 2, 3, 4] rfl)
      · replace hw := hw.2 c16
        obtain ⟨x17, ex17⟩ : ∃ y : Int32, y = v5 + 1 := ⟨_, rfl⟩
        replace hw := hw x17 ex17
        have hl0 := hl
        clear hl
        refine lv_iinc (v := x17) (lv' := [(5, .int x17), (0, .ref v0), (1, .int v1), (2, .int v2), (3, .int v3)]) hx hb dd_M_ask_211 hl0 (k := 4) rfl (by rw [ex17]; rfl) (by decide) rfl (fun ls hl => ?_)
        refine lv_goto (tgt := 175) hx hb dd_M_ask_214 (by decide) ?_
        exact ih _ _ _ _ _ _ _ _ _ hw hG hS (lv_sub hl [1, 2, 3, 4, 0] rfl)
def wp_M_ask_158 (g : Gm) (post : Int32 → Hp → Prop) (h : Hp) (v0 : Nat) (v1 : Int32) (v2 : Int32) (v3 : Int32) (v4 : Int32) : Prop := hK h v0 = 5 ∧ ∃ a2 : Nat, hR h v0 16 = some a2 ∧ hK h a2 = 21 ∧ vp_in v2 (hN h a2) ∧ ((v4 = (-1) → wp_M_ask_217 g post h v0 v1 v2 v3 (hI h a2 v2.toNatClampNeg)) ∧ (¬ v4 = (-1) → ∃ n : Nat, wp_M_ask_175 g post n h v0 v1 v2 v3 0))
set_option maxHeartbeats 4000000 in
set_option maxRecDepth 100000 in
theorem wk_M_ask_158 {p : Program} {l : Launch} {e : Env} {s : State} {m : MethodId} {args : Array Value} {below : List Frame} {meth : Method} {c : Code} {g : Gm} {post : Int32 → Hp → Prop} (C0 : Cx g p s m args c prog_6_method_21_code 7 "SegmentLocksModel") (hr : meth.sig.returnType = (some .int)) (hlk : meth.locks = false) : ∀ (h : Hp) (v0 : Nat) (v1 : Int32) (v2 : Int32) (v3 : Int32) (v4 : Int32) (H : Heap) (locs : List Loc) (ls : Array Slot), wp_M_ask_158 g post h v0 v1 v2 v3 v4 → GH g h H → va_S (gA g) s.heap H locs → lv_has ls 7 [(0, .ref v0), (1, .int v1), (2, .int v2), (3, .int v3), (4, .int v4)] → W p l e (rmm 4 92 0 0) s m args below meth c H locs 0 0 (MQ below (va_Qi post (gS g) (gA g)) args s 0 0 (gA g)) (F0 m 158 ls []) := by
  obtain ⟨hx, hb, -, hown, hts, hgk⟩ := id C0
  intro h v0 v1 v2 v3 v4 H locs ls hw hG hS hl
  unfold wp_M_ask_158 at hw
  refine lv_aload_n hx hb dd_M_ask_158 rfl (lv_at hl 0 rfl) ?_
  obtain ⟨k1, a2, ea2, hw⟩ := hw
  refine gf_M_48 C0 hG k1 ea2 dd_M_ask_159 ?_
  refine lv_iload_n hx hb dd_M_ask_162 rfl (lv_at hl 2 rfl) ?_
  obtain ⟨k3, k3i, hw⟩ := hw
  refine px_iald C0 hG k3 k3i dd_M_ask_163 ?_
  have hl0 := hl
  clear hl
  refine lv_istore (lv' := [(5, .int (hI h a2 v2.toNatClampNeg)), (0, .ref v0), (1, .int v1), (2, .int v2), (3, .int v3), (4, .int v4)]) hx hb dd_M_ask_164 hl0 (by decide) rfl (fun ls hl => ?_)
  refine lv_iload hx hb dd_M_ask_166 (lv_at hl 5 rfl) ?_
  refine lv_iconst (v := (-1)) hx hb dd_M_ask_168 (by decide) ?_
  refine lv_icmp_eq (tgt := 217) hx hb dd_M_ask_169 (by decide) (fun c4 => ?_) (fun c4 => ?_)
  · replace hw := hw.1 c4
    exact wk_M_ask_217 C0 hr hlk _ _ _ _ _ _ _ _ _ hw hG hS (lv_sub hl [1, 2, 3, 4, 0] rfl)
  · replace hw := hw.2 c4
    refine lv_iconst (v := 0) hx hb dd_M_ask_172 (by decide) ?_
    have hl0 := hl
    clear hl
    refine lv_istore (lv' := [(5, .int 0), (0, .ref v0), (1, .int v1), (2, .int v2), (3, .int v3), (4, .int v4)]) hx hb dd_M_ask_173 hl0 (by decide) rfl (fun ls hl => ?_)
    obtain ⟨n, hw⟩ := hw
    exact wk_M_ask_175 C0 hr hlk n _ _ _ _ _ _ _ _ _ hw hG hS (lv_sub hl [1, 2, 3, 4, 0] rfl)
def wp_M_ask_145 (g : Gm) (post : Int32 → Hp → Prop) (h : Hp) (v0 : Nat) (v1 : Int32) (v2 : Int32) (v3 : Int32) : Prop := hK h v0 = 5 ∧ ∃ a2 : Nat, hR h v0 9 = some a2 ∧ wp_M_of g (fun x5 => hK h a2 = 21 ∧ vp_in x5 (hN h a2) ∧ ∀ h7 : Hp, h7 = sI h a2 x5.toNatClampNeg v3 → post 1 h7) h v1 v2
set_option maxHeartbeats 4000000 in
set_option maxRecDepth 100000 in
theorem wk_M_ask_145 {p : Program} {l : Launch} {e : Env} {s : State} {m : MethodId} {args : Array Value} {below : List Frame} {meth : Method} {c : Code} {g : Gm} {post : Int32 → Hp → Prop} (C0 : Cx g p s m args c prog_6_method_21_code 7 "SegmentLocksModel") (hr : meth.sig.returnType = (some .int)) (hlk : meth.locks = false) : ∀ (h : Hp) (v0 : Nat) (v1 : Int32) (v2 : Int32) (v3 : Int32) (H : Heap) (locs : List Loc) (ls : Array Slot), wp_M_ask_145 g post h v0 v1 v2 v3 → GH g h H → va_S (gA g) s.heap H locs → lv_has ls 7 [(0, .ref v0), (1, .int v1), (2, .int v2), (3, .int v3)] → W p l e (rmm 4 92 0 0) s m args below meth c H locs 0 0 (MQ below (va_Qi post (gS g) (gA g)) args s 0 0 (gA g)) (F0 m 145 ls []) := by
  obtain ⟨hx, hb, -, hown, hts, hgk⟩ := id C0
  intro h v0 v1 v2 v3 H locs ls hw hG hS hl
  unfold wp_M_ask_145 at hw
  refine lv_aload_n hx hb dd_M_ask_145 rfl (lv_at hl 0 rfl) ?_
  obtain ⟨k1, a2, ea2, hw⟩ := hw
  refine gf_M_29 C0 hG k1 ea2 dd_M_ask_146 ?_
  refine lv_iload_n hx hb dd_M_ask_149 rfl (lv_at hl 1 rfl) ?_
  refine lv_iload_n hx hb dd_M_ask_150 rfl (lv_at hl 2 rfl) ?_
  have hw0 := hw
  clear hw
  refine cs_i (rn_S C0 hG hS (c_M_of l g _ h v1 v2 hw0) (host := "") (nest := false) (n := 2) (As := [.int v1, .int v2]) (rest := [.ref a2]) km_420 km_419 km_422 km_421 ⟨by decide, by decide, by decide +kernel⟩ ⟨Nat.le_of_ble_eq_true rfl, Nat.le_of_ble_eq_true rfl⟩ rfl hl.1 rfl (Nat.le_of_ble_eq_true rfl) dd_M_ask_151 ⟨Nat.le_refl _, Nat.le_refl _⟩) (fun x5 hw => ?_)
  refine lv_iload_n hx hb dd_M_ask_154 rfl (lv_at hl 3 rfl) ?_
  obtain ⟨k6, k6i, hw⟩ := hw
  refine px_iast C0 hG hS k6 k6i dd_M_ask_155 (fun H locs hG hS => ?_)
  replace hw := hw _ rfl
  generalize sI h a2 x5.toNatClampNeg v3 = h7 at hw hG
  refine lv_iconst (v := 1) hx hb dd_M_ask_156 (by decide) ?_
  exact re_i C0 hG hS hr hlk ⟨Nat.le_refl _, Nat.le_refl _⟩ hw dd_M_ask_157
def wp_M_ask_120 (g : Gm) (post : Int32 → Hp → Prop) (h : Hp) (v0 : Nat) (v1 : Int32) (v2 : Int32) (v3 : Int32) (v4 : Int32) : Prop := hK h v0 = 5 ∧ wp_M_isFree g (fun x3 => ((x3 = 0 → wp_M_ask_158 g post h v0 v1 v2 v3 v4) ∧ (¬ x3 = 0 → ((¬ v4 = (-1) → wp_M_ask_145 g post h v0 v1 v2 v3) ∧ (v4 = (-1) → hK h v0 = 5 ∧ ∃ a7 : Nat, hR h v0 16 = some a7 ∧ hK h a7 = 21 ∧ vp_in v2 (hN h a7) ∧ ((¬ (hI h a7 v2.toNatClampNeg) = 0 → wp_M_ask_158 g post h v0 v1 v2 v3 v4) ∧ ((hI h a7 v2.toNatClampNeg) = 0 → wp_M_ask_145 g post h v0 v1 v2 v3))))))) h v0 v1 v2 v3
set_option maxHeartbeats 4000000 in
set_option maxRecDepth 100000 in
theorem wk_M_ask_120 {p : Program} {l : Launch} {e : Env} {s : State} {m : MethodId} {args : Array Value} {below : List Frame} {meth : Method} {c : Code} {g : Gm} {post : Int32 → Hp → Prop} (C0 : Cx g p s m args c prog_6_method_21_code 7 "SegmentLocksModel") (hr : meth.sig.returnType = (some .int)) (hlk : meth.locks = false) : ∀ (h : Hp) (v0 : Nat) (v1 : Int32) (v2 : Int32) (v3 : Int32) (v4 : Int32) (H : Heap) (locs : List Loc) (ls : Array Slot), wp_M_ask_120 g post h v0 v1 v2 v3 v4 → GH g h H → va_S (gA g) s.heap H locs → lv_has ls 7 [(0, .ref v0), (1, .int v1), (2, .int v2), (3, .int v3), (4, .int v4)] → W p l e (rmm 4 92 0 0) s m args below meth c H locs 0 0 (MQ below (va_Qi post (gS g) (gA g)) args s 0 0 (gA g)) (F0 m 120 ls []) := by
  obtain ⟨hx, hb, -, hown, hts, hgk⟩ := id C0
  intro h v0 v1 v2 v3 v4 H locs ls hw hG hS hl
  unfold wp_M_ask_120 at hw
  refine lv_aload_n hx hb dd_M_ask_120 rfl (lv_at hl 0 rfl) ?_
  refine lv_iload_n hx hb dd_M_ask_121 rfl (lv_at hl 1 rfl) ?_
  refine lv_iload_n hx hb dd_M_ask_122 rfl (lv_at hl 2 rfl) ?_
  refine lv_iload_n hx hb dd_M_ask_123 rfl (lv_at hl 3 rfl) ?_
  obtain ⟨k1, hw⟩ := hw
  have hw0 := hw
  clear hw
  refine cs_i (rn_V C0 hG hS (c_M_isFree l g _ h v0 v1 v2 v3 hw0) (ci := 4) k1 (by decide) rfl rfl (host := "") (nest := false) (n := 3) (As := [.int v1, .int v2, .int v3]) (rest := []) km_436 km_435 km_437 km_438 km_421 ⟨by decide, by decide, by decide +kernel⟩ ⟨Nat.le_of_ble_eq_true rfl, Nat.le_of_ble_eq_true rfl⟩ rfl hl.1 rfl (Nat.le_of_ble_eq_true rfl) dd_M_ask_124 ⟨Nat.le_refl _, Nat.le_refl _⟩) (fun x3 hw => ?_)
  refine lv_if_eq (tgt := 158) hx hb dd_M_ask_127 (by decide) (fun c4 => ?_) (fun c4 => ?_)
  · replace hw := hw.1 c4
    exact wk_M_ask_158 C0 hr hlk _ _ _ _ _ _ _ _ _ hw hG hS (lv_sub hl [0, 1, 2, 3, 4] rfl)
  · replace hw := hw.2 c4
    refine lv_iload hx hb dd_M_ask_130 (lv_at hl 4 rfl) ?_
    refine lv_iconst (v := (-1)) hx hb dd_M_ask_132 (by decide) ?_
    refine lv_icmp_ne (tgt := 145) hx hb dd_M_ask_133 (by decide) (fun c5 => ?_) (fun c5 => ?_)
    · replace hw := hw.1 c5
      exact wk_M_ask_145 C0 hr hlk _ _ _ _ _ _ _ _ hw hG hS (lv_sub hl [0, 1, 2, 3] rfl)
    · replace hw := hw.2 c5
      refine lv_aload_n hx hb dd_M_ask_136 rfl (lv_at hl 0 rfl) ?_
      obtain ⟨k6, a7, ea7, hw⟩ := hw
      refine gf_M_48 C0 hG k6 ea7 dd_M_ask_137 ?_
      refine lv_iload_n hx hb dd_M_ask_140 rfl (lv_at hl 2 rfl) ?_
      obtain ⟨k8, k8i, hw⟩ := hw
      refine px_iald C0 hG k8 k8i dd_M_ask_141 ?_
      refine lv_if_ne (tgt := 158) hx hb dd_M_ask_142 (by decide) (fun c9 => ?_) (fun c9 => ?_)
      · replace hw := hw.1 c9
        exact wk_M_ask_158 C0 hr hlk _ _ _ _ _ _ _ _ _ hw hG hS (lv_sub hl [0, 1, 2, 3, 4] rfl)
      · replace hw := hw.2 c9
        exact wk_M_ask_145 C0 hr hlk _ _ _ _ _ _ _ _ hw hG hS (lv_sub hl [0, 1, 2, 3] rfl)
def wp_M_ask (g : Gm) (post : Int32 → Hp → Prop) (h : Hp) (a0 : Nat) (i1 : Int32) (i2 : Int32) (i3 : Int32) : Prop := hK h a0 = 5 ∧ ∀ h2 : Hp, h2 = sI h a0 0 0 → hK h2 a0 = 5 ∧ wp_M_isTask g (fun x5 => ((¬ x5 = 0 → wp_M_isSegment g (fun x9 => ((x9 = 0 → wp_M_ask_32 g post h2) ∧ (¬ x9 = 0 → ((i3 < 0 → wp_M_ask_32 g post h2) ∧ (¬ i3 < 0 → ((i3 ≤ 3 → hK h2 a0 = 5 ∧ ∃ a14 : Nat, hR h2 a0 5 = some a14 ∧ hK h2 a14 = 21 ∧ vp_in i1 (hN h2 a14) ∧ (((hI h2 a14 i1.toNatClampNeg) = 0 → ((¬ i3 = 3 → hK h2 a0 = 5 ∧ ∃ a19 : Nat, hR h2 a0 9 = some a19 ∧ wp_M_of g (fun x22 => hK h2 a19 = 21 ∧ vp_in x22 (hN h2 a19) ∧ (((hI h2 a19 x22.toNatClampNeg) < i3 → ((¬ (hI h2 a19 x22.toNatClampNeg) = (-1) → wp_M_ask_120 g post h2 a0 i1 i2 i3 (hI h2 a19 x22.toNatClampNeg)) ∧ ((hI h2 a19 x22.toNatClampNeg) = (-1) → hK h2 a0 = 5 ∧ (((hI h2 a0 3) ≤ 0 → wp_M_ask_120 g post h2 a0 i1 i2 i3 (hI h2 a19 x22.toNatClampNeg)) ∧ (¬ (hI h2 a0 3) ≤ 0 → hK h2 a0 = 5 ∧ wp_M_locksOf g (fun x30 => hK h2 a0 = 5 ∧ ((x30 < (hI h2 a0 3) → wp_M_ask_120 g post h2 a0 i1 i2 i3 (hI h2 a19 x22.toNatClampNeg)) ∧ (¬ x30 < (hI h2 a0 3) → hK h2 a0 = 5 ∧ wp_M_clear g (fun x35 h34 => post (-3) h34) h2 a0 i1 2))) h2 a0 i1))))) ∧ (¬ (hI h2 a19 x22.toNatClampNeg) < i3 → post 1 h2))) h2 i1 i2) ∧ (i3 = 3 → hK h2 a0 = 5 ∧ ∃ a37 : Nat, hR h2 a0 11 = some a37 ∧ wp_M_of g (fun x40 => hK h2 a37 = 23 ∧ vp_in x40 (hN h2 a37) ∧ zB 1 ∧ ∀ h42 : Hp, h42 = sI h2 a37 x40.toNatClampNeg 1 → post 1 h42) h2 i1 i2))) ∧ (¬ (hI h2 a14 i1.toNatClampNeg) = 0 → post (-5) h2))) ∧ (¬ i3 ≤ 3 → wp_M_ask_32 g post h2))))))) h2 i2) ∧ (x5 = 0 → post (-2) h2))) h2 a0 i1
set_option maxHeartbeats 4000000 in
set_option maxRecDepth 100000 in
theorem c_M_ask (l : Launch) (g : Gm) (post : Int32 → Hp → Prop) (h : Hp) (a0 : Nat) (i1 : Int32) (i2 : Int32) (i3 : Int32) (hw : wp_M_ask g post h a0 i1 i2 i3) : Met l (⟨"SegmentLocksModel", "ask", "(III)I"⟩ : MethodName) (ww (⟨"SegmentLocksModel", "ask", "(III)I"⟩ : MethodName) prog_6_method_21_code 7 (some .int)) (rmm 4 92 0 0) (va_Pc [.ref a0, .int i1, .int i2, .int i3] (gS g h)) (va_Qi post (gS g) (gA g)) 0 0 (gA g) := by
  first | refine en_met (by decide) ?_ | refine en_metF (by decide) ?_
  intro p e s m below meth c C0 hr hlk hin hG
  have hS : va_S (gA g) s.heap s.heap [] := va_S.rf
  have hl := lv_entry ([.ref a0, .int i1, .int i2, .int i3]) (n := 7) (Nat.le_of_ble_eq_true rfl)
  rw [lg_entry_eq]
  generalize (lg_sl ([.ref a0, .int i1, .int i2, .int i3]) ++ List.replicate (7 - (lg_sl ([.ref a0, .int i1, .int i2, .int i3])).length) Slot.unset).toArray = ls at hl ⊢
  replace hl : lv_has ls 7 [(0, .ref a0), (1, .int i1), (2, .int i2), (3, .int i3)] := hl
  obtain ⟨hx, hb, -, hown, hts, hgk⟩ := id C0
  unfold wp_M_ask at hw
  refine lv_aload_n hx hb dd_M_ask_0 rfl (lv_at hl 0 rfl) ?_
  refine lv_iconst (v := 0) hx hb dd_M_ask_1 (by decide) ?_
  obtain ⟨k1, hw⟩ := hw
  refine pf_M_72 C0 hG hS k1 dd_M_ask_2 (fun H locs hG hS => ?_)
  replace hw := hw _ rfl
  generalize sI h a0 0 0 = h2 at hw hG
  refine lv_aload_n hx hb dd_M_ask_5 rfl (lv_at hl 0 rfl) ?_
  refine lv_iload_n hx hb dd_M_ask_6 rfl (lv_at hl 1 rfl) ?_
  obtain ⟨k3, hw⟩ := hw
  have hw0 := hw
  clear hw
  refine cs_i (rn_V C0 hG hS (c_M_isTask l g _ h2 a0 i1 hw0) (ci := 4) k3 (by decide) rfl rfl (host := "") (nest := false) (n := 1) (As := [.int i1]) (rest := []) km_481 km_480 km_482 km_483 km_421 ⟨by decide, by decide, by decide +kernel⟩ ⟨Nat.le_of_ble_eq_true rfl, Nat.le_of_ble_eq_true rfl⟩ rfl hl.1 rfl (Nat.le_of_ble_eq_true rfl) dd_M_ask_7 ⟨Nat.le_refl _, Nat.le_refl _⟩) (fun x5 hw => ?_)
  refine lv_if_ne (tgt := 16) hx hb dd_M_ask_10 (by decide) (fun c6 => ?_) (fun c6 => ?_)
  · replace hw := hw.1 c6
    refine lv_iload_n hx hb dd_M_ask_16 rfl (lv_at hl 2 rfl) ?_
    have hw0 := hw
    clear hw
    refine cs_i (rn_S C0 hG hS (c_M_isSegment l g _ h2 i2 hw0) (host := "") (nest := false) (n := 1) (As := [.int i2]) (rest := []) km_478 km_477 km_479 km_421 ⟨by decide, by decide, by decide +kernel⟩ ⟨Nat.le_of_ble_eq_true rfl, Nat.le_of_ble_eq_true rfl⟩ rfl hl.1 rfl (Nat.le_of_ble_eq_true rfl) dd_M_ask_17 ⟨Nat.le_refl _, Nat.le_refl _⟩) (fun x9 hw => ?_)
    refine lv_if_eq (tgt := 32) hx hb dd_M_ask_20 (by decide) (fun c10 => ?_) (fun c10 => ?_)
    · replace hw := hw.1 c10
      exact wk_M_ask_32 C0 hr hlk _ _ _ _ hw hG hS (lv_sub hl [] rfl)
    · replace hw := hw.2 c10
      refine lv_iload_n hx hb dd_M_ask_23 rfl (lv_at hl 3 rfl) ?_
      refine lv_if_lt (tgt := 32) hx hb dd_M_ask_24 (by decide) (fun c11 => ?_) (fun c11 => ?_)
      · replace hw := hw.1 c11
        exact wk_M_ask_32 C0 hr hlk _ _ _ _ hw hG hS (lv_sub hl [] rfl)
      · replace hw := hw.2 c11
        refine lv_iload_n hx hb dd_M_ask_27 rfl (lv_at hl 3 rfl) ?_
        refine lv_iconst (v := 3) hx hb dd_M_ask_28 (by decide) ?_
        refine lv_icmp_le (tgt := 35) hx hb dd_M_ask_29 (by decide) (fun c12 => ?_) (fun c12 => ?_)
        · replace hw := hw.1 c12
          refine lv_aload_n hx hb dd_M_ask_35 rfl (lv_at hl 0 rfl) ?_
          obtain ⟨k13, a14, ea14, hw⟩ := hw
          refine gf_M_17 C0 hG k13 ea14 dd_M_ask_36 ?_
          refine lv_iload_n hx hb dd_M_ask_39 rfl (lv_at hl 1 rfl) ?_
          obtain ⟨k15, k15i, hw⟩ := hw
          refine px_iald C0 hG k15 k15i dd_M_ask_40 ?_
          refine lv_if_eq (tgt := 47) hx hb dd_M_ask_41 (by decide) (fun c16 => ?_) (fun c16 => ?_)
          · replace hw := hw.1 c16
            refine lv_iload_n hx hb dd_M_ask_47 rfl (lv_at hl 3 rfl) ?_
            refine lv_iconst (v := 3) hx hb dd_M_ask_48 (by decide) ?_
            refine lv_icmp_ne (tgt := 65) hx hb dd_M_ask_49 (by decide) (fun c17 => ?_) (fun c17 => ?_)
            · replace hw := hw.1 c17
              refine lv_aload_n hx hb dd_M_ask_65 rfl (lv_at hl 0 rfl) ?_
              obtain ⟨k18, a19, ea19, hw⟩ := hw
              refine gf_M_29 C0 hG k18 ea19 dd_M_ask_66 ?_
              refine lv_iload_n hx hb dd_M_ask_69 rfl (lv_at hl 1 rfl) ?_
              refine lv_iload_n hx hb dd_M_ask_70 rfl (lv_at hl 2 rfl) ?_
              have hw0 := hw
              clear hw
              refine cs_i (rn_S C0 hG hS (c_M_of l g _ h2 i1 i2 hw0) (host := "") (nest := false) (n := 2) (As := [.int i1, .int i2]) (rest := [.ref a19]) km_420 km_419 km_422 km_421 ⟨by decide, by decide, by decide +kernel⟩ ⟨Nat.le_of_ble_eq_true rfl, Nat.le_of_ble_eq_true rfl⟩ rfl hl.1 rfl (Nat.le_of_ble_eq_true rfl) dd_M_ask_71 ⟨Nat.le_refl _, Nat.le_refl _⟩) (fun x22 hw => ?_)
              obtain ⟨k23, k23i, hw⟩ := hw
              refine px_iald C0 hG k23 k23i dd_M_ask_74 ?_
              have hl0 := hl
              clear hl
              refine lv_istore (lv' := [(4, .int (hI h2 a19 x22.toNatClampNeg)), (0, .ref a0), (1, .int i1), (2, .int i2), (3, .int i3)]) hx hb dd_M_ask_75 hl0 (by decide) rfl (fun ls hl => ?_)
              refine lv_iload hx hb dd_M_ask_77 (lv_at hl 0 rfl) ?_
              refine lv_iload_n hx hb dd_M_ask_79 rfl (lv_at hl 4 rfl) ?_
              refine lv_icmp_lt (tgt := 85) hx hb dd_M_ask_80 (by decide) (fun c24 => ?_) (fun c24 => ?_)
              · replace hw := hw.1 c24
                refine lv_iload hx hb dd_M_ask_85 (lv_at hl 0 rfl) ?_
                refine lv_iconst (v := (-1)) hx hb dd_M_ask_87 (by decide) ?_
                refine lv_icmp_ne (tgt := 120) hx hb dd_M_ask_88 (by decide) (fun c25 => ?_) (fun c25 => ?_)
                · replace hw := hw.1 c25
                  exact wk_M_ask_120 C0 hr hlk _ _ _ _ _ _ _ _ _ hw hG hS (lv_sub hl [1, 2, 3, 4, 0] rfl)
                · replace hw := hw.2 c25
                  refine lv_aload_n hx hb dd_M_ask_91 rfl (lv_at hl 1 rfl) ?_
                  obtain ⟨k26, hw⟩ := hw
                  refine gf_M_127 C0 hG k26 dd_M_ask_92 ?_
                  refine lv_if_le (tgt := 120) hx hb dd_M_ask_95 (by decide) (fun c27 => ?_) (fun c27 => ?_)
                  · replace hw := hw.1 c27
                    exact wk_M_ask_120 C0 hr hlk _ _ _ _ _ _ _ _ _ hw hG hS (lv_sub hl [1, 2, 3, 4, 0] rfl)
                  · replace hw := hw.2 c27
                    refine lv_aload_n hx hb dd_M_ask_98 rfl (lv_at hl 1 rfl) ?_
                    refine lv_iload_n hx hb dd_M_ask_99 rfl (lv_at hl 2 rfl) ?_
                    obtain ⟨k28, hw⟩ := hw
                    have hw0 := hw
                    clear hw
                    refine cs_i (rn_V C0 hG hS (c_M_locksOf l g _ h2 a0 i1 hw0) (ci := 4) k28 (by decide) rfl rfl (host := "") (nest := false) (n := 1) (As := [.int i1]) (rest := []) km_448 km_447 km_449 km_450 km_421 ⟨by decide, by decide, by decide +kernel⟩ ⟨Nat.le_of_ble_eq_true rfl, Nat.le_of_ble_eq_true rfl⟩ rfl hl.1 rfl (Nat.le_of_ble_eq_true rfl) dd_M_ask_100 ⟨Nat.le_refl _, Nat.le_refl _⟩) (fun x30 hw => ?_)
                    refine lv_aload_n hx hb dd_M_ask_103 rfl (lv_at hl 1 rfl) ?_
                    obtain ⟨k31, hw⟩ := hw
                    refine gf_M_127 C0 hG k31 dd_M_ask_104 ?_
                    refine lv_icmp_lt (tgt := 120) hx hb dd_M_ask_107 (by decide) (fun c32 => ?_) (fun c32 => ?_)
                    · replace hw := hw.1 c32
                      exact wk_M_ask_120 C0 hr hlk _ _ _ _ _ _ _ _ _ hw hG hS (lv_sub hl [1, 2, 3, 4, 0] rfl)
                    · replace hw := hw.2 c32
                      refine lv_aload_n hx hb dd_M_ask_110 rfl (lv_at hl 1 rfl) ?_
                      refine lv_iload_n hx hb dd_M_ask_111 rfl (lv_at hl 2 rfl) ?_
                      refine lv_iconst (v := 2) hx hb dd_M_ask_112 (by decide) ?_
                      obtain ⟨k33, hw⟩ := hw
                      refine ca_i hS (rn_V C0 hG hS (c_M_clear l g _ h2 a0 i1 2 hw) (ci := 4) k33 (by decide) rfl rfl (host := "") (nest := false) (n := 2) (As := [.int i1, .int 2]) (rest := []) km_461 km_460 km_462 km_463 km_421 ⟨by decide, by decide, by decide +kernel⟩ ⟨Nat.le_of_ble_eq_true rfl, Nat.le_of_ble_eq_true rfl⟩ rfl hl.1 rfl (Nat.le_of_ble_eq_true rfl) dd_M_ask_113 ⟨Nat.le_refl _, Nat.le_refl _⟩) (fun x35 h34 H locs hw hG hS => ?_)
                      refine lv_pop hx hb dd_M_ask_116 rfl ?_
                      refine lv_bipush (v := (-3)) hx hb dd_M_ask_117 (by decide) ?_
                      exact re_i C0 hG hS hr hlk ⟨Nat.le_refl _, Nat.le_refl _⟩ hw dd_M_ask_119
              · replace hw := hw.2 c24
                refine lv_iconst (v := 1) hx hb dd_M_ask_83 (by decide) ?_
                exact re_i C0 hG hS hr hlk ⟨Nat.le_refl _, Nat.le_refl _⟩ hw dd_M_ask_84
            · replace hw := hw.2 c17
              refine lv_aload_n hx hb dd_M_ask_52 rfl (lv_at hl 0 rfl) ?_
              obtain ⟨k36, a37, ea37, hw⟩ := hw
              refine gf_M_35 C0 hG k36 ea37 dd_M_ask_53 ?_
              refine lv_iload_n hx hb dd_M_ask_56 rfl (lv_at hl 1 rfl) ?_
              refine lv_iload_n hx hb dd_M_ask_57 rfl (lv_at hl 2 rfl) ?_
              have hw0 := hw
              clear hw
              refine cs_i (rn_S C0 hG hS (c_M_of l g _ h2 i1 i2 hw0) (host := "") (nest := false) (n := 2) (As := [.int i1, .int i2]) (rest := [.ref a37]) km_420 km_419 km_422 km_421 ⟨by decide, by decide, by decide +kernel⟩ ⟨Nat.le_of_ble_eq_true rfl, Nat.le_of_ble_eq_true rfl⟩ rfl hl.1 rfl (Nat.le_of_ble_eq_true rfl) dd_M_ask_58 ⟨Nat.le_refl _, Nat.le_refl _⟩) (fun x40 hw => ?_)
              refine lv_iconst (v := 1) hx hb dd_M_ask_61 (by decide) ?_
              obtain ⟨k41, k41i, hz, hw⟩ := hw
              refine px_zast C0 hG hS k41 k41i hz.nar dd_M_ask_62 (fun H locs hG hS => ?_)
              replace hw := hw _ rfl
              generalize sI h2 a37 x40.toNatClampNeg 1 = h42 at hw hG
              refine lv_iconst (v := 1) hx hb dd_M_ask_63 (by decide) ?_
              exact re_i C0 hG hS hr hlk ⟨Nat.le_refl _, Nat.le_refl _⟩ hw dd_M_ask_64
          · replace hw := hw.2 c16
            refine lv_bipush (v := (-5)) hx hb dd_M_ask_44 (by decide) ?_
            exact re_i C0 hG hS hr hlk ⟨Nat.le_refl _, Nat.le_refl _⟩ hw dd_M_ask_46
        · replace hw := hw.2 c12
          exact wk_M_ask_32 C0 hr hlk _ _ _ _ hw hG hS (lv_sub hl [] rfl)
  · replace hw := hw.2 c6
    refine lv_bipush (v := (-2)) hx hb dd_M_ask_13 (by decide) ?_
    exact re_i C0 hG hS hr hlk ⟨Nat.le_refl _, Nat.le_refl _⟩ hw dd_M_ask_15
/-! SegmentLocksModel.write(IIJ)I -/
theorem dd_M_write_0 : decode prog_6_method_23_code 0 = .ok (.aload_n 0, 1) := by decide +kernel
theorem dd_M_write_1 : decode prog_6_method_23_code 1 = .ok (.iconst 0, 1) := by decide +kernel
theorem dd_M_write_2 : decode prog_6_method_23_code 2 = .ok (.putfield 72, 3) := by decide +kernel
theorem dd_M_write_5 : decode prog_6_method_23_code 5 = .ok (.aload_n 0, 1) := by decide +kernel
theorem dd_M_write_6 : decode prog_6_method_23_code 6 = .ok (.iload_n 1, 1) := by decide +kernel
theorem dd_M_write_7 : decode prog_6_method_23_code 7 = .ok (.invokevirtual 120, 3) := by decide +kernel
theorem dd_M_write_10 : decode prog_6_method_23_code 10 = .ok (.ifCond .ne 6, 3) := by decide +kernel
theorem dd_M_write_13 : decode prog_6_method_23_code 13 = .ok (.bipush (-2), 2) := by decide +kernel
theorem dd_M_write_15 : decode prog_6_method_23_code 15 = .ok (.ireturn, 1) := by decide +kernel
theorem dd_M_write_16 : decode prog_6_method_23_code 16 = .ok (.iload_n 2, 1) := by decide +kernel
theorem dd_M_write_17 : decode prog_6_method_23_code 17 = .ok (.invokestatic 124, 3) := by decide +kernel
theorem dd_M_write_20 : decode prog_6_method_23_code 20 = .ok (.ifCond .ne 6, 3) := by decide +kernel
theorem dd_M_write_23 : decode prog_6_method_23_code 23 = .ok (.bipush (-4), 2) := by decide +kernel
theorem dd_M_write_25 : decode prog_6_method_23_code 25 = .ok (.ireturn, 1) := by decide +kernel
theorem dd_M_write_26 : decode prog_6_method_23_code 26 = .ok (.aload_n 0, 1) := by decide +kernel
theorem dd_M_write_27 : decode prog_6_method_23_code 27 = .ok (.getfield 17, 3) := by decide +kernel
theorem dd_M_write_30 : decode prog_6_method_23_code 30 = .ok (.iload_n 1, 1) := by decide +kernel
theorem dd_M_write_31 : decode prog_6_method_23_code 31 = .ok (.iaload, 1) := by decide +kernel
theorem dd_M_write_32 : decode prog_6_method_23_code 32 = .ok (.ifCond .eq 6, 3) := by decide +kernel
theorem dd_M_write_35 : decode prog_6_method_23_code 35 = .ok (.bipush (-5), 2) := by decide +kernel
theorem dd_M_write_37 : decode prog_6_method_23_code 37 = .ok (.ireturn, 1) := by decide +kernel
theorem dd_M_write_38 : decode prog_6_method_23_code 38 = .ok (.aload_n 0, 1) := by decide +kernel
theorem dd_M_write_39 : decode prog_6_method_23_code 39 = .ok (.getfield 29, 3) := by decide +kernel
theorem dd_M_write_42 : decode prog_6_method_23_code 42 = .ok (.iload_n 1, 1) := by decide +kernel
theorem dd_M_write_43 : decode prog_6_method_23_code 43 = .ok (.iload_n 2, 1) := by decide +kernel
theorem dd_M_write_44 : decode prog_6_method_23_code 44 = .ok (.invokestatic 79, 3) := by decide +kernel
theorem dd_M_write_47 : decode prog_6_method_23_code 47 = .ok (.iaload, 1) := by decide +kernel
theorem dd_M_write_48 : decode prog_6_method_23_code 48 = .ok (.iconst 1, 1) := by decide +kernel
theorem dd_M_write_49 : decode prog_6_method_23_code 49 = .ok (.if_icmp .ge 5, 3) := by decide +kernel
theorem dd_M_write_52 : decode prog_6_method_23_code 52 = .ok (.iconst 0, 1) := by decide +kernel
theorem dd_M_write_53 : decode prog_6_method_23_code 53 = .ok (.ireturn, 1) := by decide +kernel
theorem dd_M_write_54 : decode prog_6_method_23_code 54 = .ok (.aload_n 0, 1) := by decide +kernel
theorem dd_M_write_55 : decode prog_6_method_23_code 55 = .ok (.getfield 39, 3) := by decide +kernel
theorem dd_M_write_58 : decode prog_6_method_23_code 58 = .ok (.iload_n 1, 1) := by decide +kernel
theorem dd_M_write_59 : decode prog_6_method_23_code 59 = .ok (.iload_n 2, 1) := by decide +kernel
theorem dd_M_write_60 : decode prog_6_method_23_code 60 = .ok (.invokestatic 79, 3) := by decide +kernel
theorem dd_M_write_63 : decode prog_6_method_23_code 63 = .ok (.iconst 1, 1) := by decide +kernel
theorem dd_M_write_64 : decode prog_6_method_23_code 64 = .ok (.bastore, 1) := by decide +kernel
theorem dd_M_write_65 : decode prog_6_method_23_code 65 = .ok (.aload_n 0, 1) := by decide +kernel
theorem dd_M_write_66 : decode prog_6_method_23_code 66 = .ok (.getfield 42, 3) := by decide +kernel
theorem dd_M_write_69 : decode prog_6_method_23_code 69 = .ok (.iload_n 1, 1) := by decide +kernel
theorem dd_M_write_70 : decode prog_6_method_23_code 70 = .ok (.iload_n 2, 1) := by decide +kernel
theorem dd_M_write_71 : decode prog_6_method_23_code 71 = .ok (.invokestatic 79, 3) := by decide +kernel
theorem dd_M_write_74 : decode prog_6_method_23_code 74 = .ok (.lload_n 3, 1) := by decide +kernel
theorem dd_M_write_75 : decode prog_6_method_23_code 75 = .ok (.lastore, 1) := by decide +kernel
theorem dd_M_write_76 : decode prog_6_method_23_code 76 = .ok (.aload_n 0, 1) := by decide +kernel
theorem dd_M_write_77 : decode prog_6_method_23_code 77 = .ok (.dup, 1) := by decide +kernel
theorem dd_M_write_78 : decode prog_6_method_23_code 78 = .ok (.getfield 144, 3) := by decide +kernel
theorem dd_M_write_81 : decode prog_6_method_23_code 81 = .ok (.iconst 1, 1) := by decide +kernel
theorem dd_M_write_82 : decode prog_6_method_23_code 82 = .ok (.iadd, 1) := by decide +kernel
theorem dd_M_write_83 : decode prog_6_method_23_code 83 = .ok (.putfield 144, 3) := by decide +kernel
theorem dd_M_write_86 : decode prog_6_method_23_code 86 = .ok (.aload_n 0, 1) := by decide +kernel
theorem dd_M_write_87 : decode prog_6_method_23_code 87 = .ok (.getfield 32, 3) := by decide +kernel
theorem dd_M_write_90 : decode prog_6_method_23_code 90 = .ok (.iload_n 1, 1) := by decide +kernel
theorem dd_M_write_91 : decode prog_6_method_23_code 91 = .ok (.iload_n 2, 1) := by decide +kernel
theorem dd_M_write_92 : decode prog_6_method_23_code 92 = .ok (.invokestatic 79, 3) := by decide +kernel
theorem dd_M_write_95 : decode prog_6_method_23_code 95 = .ok (.aload_n 0, 1) := by decide +kernel
theorem dd_M_write_96 : decode prog_6_method_23_code 96 = .ok (.getfield 144, 3) := by decide +kernel
theorem dd_M_write_99 : decode prog_6_method_23_code 99 = .ok (.iastore, 1) := by decide +kernel
theorem dd_M_write_100 : decode prog_6_method_23_code 100 = .ok (.iconst 1, 1) := by decide +kernel
theorem dd_M_write_101 : decode prog_6_method_23_code 101 = .ok (.ireturn, 1) := by decide +kernel
def wp_M_write (g : Gm) (post : Int32 → Hp → Prop) (h : Hp) (a0 : Nat) (i1 : Int32) (i2 : Int32) (l3 : Int64) : Prop := hK h a0 = 5 ∧ ∀ h2 : Hp, h2 = sI h a0 0 0 → hK h2 a0 = 5 ∧ wp_M_isTask g (fun x5 => ((¬ x5 = 0 → wp_M_isSegment g (fun x9 => ((¬ x9 = 0 → hK h2 a0 = 5 ∧ ∃ a12 : Nat, hR h2 a0 5 = some a12 ∧ hK h2 a12 = 21 ∧ vp_in i1 (hN h2 a12) ∧ (((hI h2 a12 i1.toNatClampNeg) = 0 → hK h2 a0 = 5 ∧ ∃ a16 : Nat, hR h2 a0 9 = some a16 ∧ wp_M_of g (fun x19 => hK h2 a16 = 21 ∧ vp_in x19 (hN h2 a16) ∧ ((1 ≤ (hI h2 a16 x19.toNatClampNeg) → hK h2 a0 = 5 ∧ ∃ a23 : Nat, hR h2 a0 12 = some a23 ∧ wp_M_of g (fun x26 => hK h2 a23 = 23 ∧ vp_in x26 (hN h2 a23) ∧ zB 1 ∧ ∀ h28 : Hp, h28 = sI h2 a23 x26.toNatClampNeg 1 → hK h28 a0 = 5 ∧ ∃ a30 : Nat, hR h28 a0 13 = some a30 ∧ wp_M_of g (fun x33 => hK h28 a30 = 22 ∧ vp_in x33 (hN h28 a30) ∧ ∀ h35 : Hp, h35 = sJ h28 a30 x33.toNatClampNeg l3 → hK h35 a0 = 5 ∧ ∀ x37 : Int32, x37 = (hI h35 a0 14) + 1 → hK h35 a0 = 5 ∧ ∀ h39 : Hp, h39 = sI h35 a0 14 x37 → hK h39 a0 = 5 ∧ ∃ a41 : Nat, hR h39 a0 10 = some a41 ∧ wp_M_of g (fun x44 => hK h39 a0 = 5 ∧ hK h39 a41 = 21 ∧ vp_in x44 (hN h39 a41) ∧ ∀ h47 : Hp, h47 = sI h39 a41 x44.toNatClampNeg (hI h39 a0 14) → post 1 h47) h39 i1 i2) h28 i1 i2) h2 i1 i2) ∧ (¬ 1 ≤ (hI h2 a16 x19.toNatClampNeg) → post 0 h2))) h2 i1 i2) ∧ (¬ (hI h2 a12 i1.toNatClampNeg) = 0 → post (-5) h2))) ∧ (x9 = 0 → post (-4) h2))) h2 i2) ∧ (x5 = 0 → post (-2) h2))) h2 a0 i1
set_option maxHeartbeats 4000000 in
set_option maxRecDepth 100000 in
theorem c_M_write (l : Launch) (g : Gm) (post : Int32 → Hp → Prop) (h : Hp) (a0 : Nat) (i1 : Int32) (i2 : Int32) (l3 : Int64) (hw : wp_M_write g post h a0 i1 i2 l3) : Met l (⟨"SegmentLocksModel", "write", "(IIJ)I"⟩ : MethodName) (ww (⟨"SegmentLocksModel", "write", "(IIJ)I"⟩ : MethodName) prog_6_method_23_code 5 (some .int)) (rmm 1 21 0 0) (va_Pc [.ref a0, .int i1, .int i2, .long l3] (gS g h)) (va_Qi post (gS g) (gA g)) 0 0 (gA g) := by
  first | refine en_met (by decide) ?_ | refine en_metF (by decide) ?_
  intro p e s m below meth c C0 hr hlk hin hG
  have hS : va_S (gA g) s.heap s.heap [] := va_S.rf
  have hl := lv_entry ([.ref a0, .int i1, .int i2, .long l3]) (n := 5) (Nat.le_of_ble_eq_true rfl)
  rw [lg_entry_eq]
  generalize (lg_sl ([.ref a0, .int i1, .int i2, .long l3]) ++ List.replicate (5 - (lg_sl ([.ref a0, .int i1, .int i2, .long l3])).length) Slot.unset).toArray = ls at hl ⊢
  replace hl : lv_has ls 5 [(0, .ref a0), (1, .int i1), (2, .int i2), (3, .long l3)] := hl
  obtain ⟨hx, hb, -, hown, hts, hgk⟩ := id C0
  unfold wp_M_write at hw
  refine lv_aload_n hx hb dd_M_write_0 rfl (lv_at hl 0 rfl) ?_
  refine lv_iconst (v := 0) hx hb dd_M_write_1 (by decide) ?_
  obtain ⟨k1, hw⟩ := hw
  refine pf_M_72 C0 hG hS k1 dd_M_write_2 (fun H locs hG hS => ?_)
  replace hw := hw _ rfl
  generalize sI h a0 0 0 = h2 at hw hG
  refine lv_aload_n hx hb dd_M_write_5 rfl (lv_at hl 0 rfl) ?_
  refine lv_iload_n hx hb dd_M_write_6 rfl (lv_at hl 1 rfl) ?_
  obtain ⟨k3, hw⟩ := hw
  have hw0 := hw
  clear hw
  refine cs_i (rn_V C0 hG hS (c_M_isTask l g _ h2 a0 i1 hw0) (ci := 4) k3 (by decide) rfl rfl (host := "") (nest := false) (n := 1) (As := [.int i1]) (rest := []) km_481 km_480 km_482 km_483 km_421 ⟨by decide, by decide, by decide +kernel⟩ ⟨Nat.le_of_ble_eq_true rfl, Nat.le_of_ble_eq_true rfl⟩ rfl hl.1 rfl (Nat.le_of_ble_eq_true rfl) dd_M_write_7 ⟨Nat.le_refl _, Nat.le_refl _⟩) (fun x5 hw => ?_)
  refine lv_if_ne (tgt := 16) hx hb dd_M_write_10 (by decide) (fun c6 => ?_) (fun c6 => ?_)
  · replace hw := hw.1 c6
    refine lv_iload_n hx hb dd_M_write_16 rfl (lv_at hl 2 rfl) ?_
    have hw0 := hw
    clear hw
    refine cs_i (rn_S C0 hG hS (c_M_isSegment l g _ h2 i2 hw0) (host := "") (nest := false) (n := 1) (As := [.int i2]) (rest := []) km_478 km_477 km_479 km_421 ⟨by decide, by decide, by decide +kernel⟩ ⟨Nat.le_of_ble_eq_true rfl, Nat.le_of_ble_eq_true rfl⟩ rfl hl.1 rfl (Nat.le_of_ble_eq_true rfl) dd_M_write_17 ⟨Nat.le_refl _, Nat.le_refl _⟩) (fun x9 hw => ?_)
    refine lv_if_ne (tgt := 26) hx hb dd_M_write_20 (by decide) (fun c10 => ?_) (fun c10 => ?_)
    · replace hw := hw.1 c10
      refine lv_aload_n hx hb dd_M_write_26 rfl (lv_at hl 0 rfl) ?_
      obtain ⟨k11, a12, ea12, hw⟩ := hw
      refine gf_M_17 C0 hG k11 ea12 dd_M_write_27 ?_
      refine lv_iload_n hx hb dd_M_write_30 rfl (lv_at hl 1 rfl) ?_
      obtain ⟨k13, k13i, hw⟩ := hw
      refine px_iald C0 hG k13 k13i dd_M_write_31 ?_
      refine lv_if_eq (tgt := 38) hx hb dd_M_write_32 (by decide) (fun c14 => ?_) (fun c14 => ?_)
      · replace hw := hw.1 c14
        refine lv_aload_n hx hb dd_M_write_38 rfl (lv_at hl 0 rfl) ?_
        obtain ⟨k15, a16, ea16, hw⟩ := hw
        refine gf_M_29 C0 hG k15 ea16 dd_M_write_39 ?_
        refine lv_iload_n hx hb dd_M_write_42 rfl (lv_at hl 1 rfl) ?_
        refine lv_iload_n hx hb dd_M_write_43 rfl (lv_at hl 2 rfl) ?_
        have hw0 := hw
        clear hw
        refine cs_i (rn_S C0 hG hS (c_M_of l g _ h2 i1 i2 hw0) (host := "") (nest := false) (n := 2) (As := [.int i1, .int i2]) (rest := [.ref a16]) km_420 km_419 km_422 km_421 ⟨by decide, by decide, by decide +kernel⟩ ⟨Nat.le_of_ble_eq_true rfl, Nat.le_of_ble_eq_true rfl⟩ rfl hl.1 rfl (Nat.le_of_ble_eq_true rfl) dd_M_write_44 ⟨Nat.le_refl _, Nat.le_refl _⟩) (fun x19 hw => ?_)
        obtain ⟨k20, k20i, hw⟩ := hw
        refine px_iald C0 hG k20 k20i dd_M_write_47 ?_
        refine lv_iconst (v := 1) hx hb dd_M_write_48 (by decide) ?_
        refine lv_icmp_ge (tgt := 54) hx hb dd_M_write_49 (by decide) (fun c21 => ?_) (fun c21 => ?_)
        · replace hw := hw.1 c21
          refine lv_aload_n hx hb dd_M_write_54 rfl (lv_at hl 0 rfl) ?_
          obtain ⟨k22, a23, ea23, hw⟩ := hw
          refine gf_M_39 C0 hG k22 ea23 dd_M_write_55 ?_
          refine lv_iload_n hx hb dd_M_write_58 rfl (lv_at hl 1 rfl) ?_
          refine lv_iload_n hx hb dd_M_write_59 rfl (lv_at hl 2 rfl) ?_
          have hw0 := hw
          clear hw
          refine cs_i (rn_S C0 hG hS (c_M_of l g _ h2 i1 i2 hw0) (host := "") (nest := false) (n := 2) (As := [.int i1, .int i2]) (rest := [.ref a23]) km_420 km_419 km_422 km_421 ⟨by decide, by decide, by decide +kernel⟩ ⟨Nat.le_of_ble_eq_true rfl, Nat.le_of_ble_eq_true rfl⟩ rfl hl.1 rfl (Nat.le_of_ble_eq_true rfl) dd_M_write_60 ⟨Nat.le_refl _, Nat.le_refl _⟩) (fun x26 hw => ?_)
          refine lv_iconst (v := 1) hx hb dd_M_write_63 (by decide) ?_
          obtain ⟨k27, k27i, hz, hw⟩ := hw
          refine px_zast C0 hG hS k27 k27i hz.nar dd_M_write_64 (fun H locs hG hS => ?_)
          replace hw := hw _ rfl
          generalize sI h2 a23 x26.toNatClampNeg 1 = h28 at hw hG
          refine lv_aload_n hx hb dd_M_write_65 rfl (lv_at hl 0 rfl) ?_
          obtain ⟨k29, a30, ea30, hw⟩ := hw
          refine gf_M_42 C0 hG k29 ea30 dd_M_write_66 ?_
          refine lv_iload_n hx hb dd_M_write_69 rfl (lv_at hl 1 rfl) ?_
          refine lv_iload_n hx hb dd_M_write_70 rfl (lv_at hl 2 rfl) ?_
          have hw0 := hw
          clear hw
          refine cs_i (rn_S C0 hG hS (c_M_of l g _ h28 i1 i2 hw0) (host := "") (nest := false) (n := 2) (As := [.int i1, .int i2]) (rest := [.ref a30]) km_420 km_419 km_422 km_421 ⟨by decide, by decide, by decide +kernel⟩ ⟨Nat.le_of_ble_eq_true rfl, Nat.le_of_ble_eq_true rfl⟩ rfl hl.1 rfl (Nat.le_of_ble_eq_true rfl) dd_M_write_71 ⟨Nat.le_refl _, Nat.le_refl _⟩) (fun x33 hw => ?_)
          refine lv_lload_n hx hb dd_M_write_74 rfl (lv_at hl 3 rfl) ?_
          obtain ⟨k34, k34i, hw⟩ := hw
          refine px_last C0 hG hS k34 k34i dd_M_write_75 (fun H locs hG hS => ?_)
          replace hw := hw _ rfl
          generalize sJ h28 a30 x33.toNatClampNeg l3 = h35 at hw hG
          refine lv_aload_n hx hb dd_M_write_76 rfl (lv_at hl 0 rfl) ?_
          refine lv_dup hx hb dd_M_write_77 rfl ?_
          obtain ⟨k36, hw⟩ := hw
          refine gf_M_144 C0 hG k36 dd_M_write_78 ?_
          refine lv_iconst (v := 1) hx hb dd_M_write_81 (by decide) ?_
          refine lv_iadd hx hb dd_M_write_82 ?_
          refine lv_topi (fun x37 ex37 => ?_)
          replace hw := hw x37 ex37
          obtain ⟨k38, hw⟩ := hw
          refine pf_M_144 C0 hG hS k38 dd_M_write_83 (fun H locs hG hS => ?_)
          replace hw := hw _ rfl
          generalize sI h35 a0 14 x37 = h39 at hw hG
          refine lv_aload_n hx hb dd_M_write_86 rfl (lv_at hl 0 rfl) ?_
          obtain ⟨k40, a41, ea41, hw⟩ := hw
          refine gf_M_32 C0 hG k40 ea41 dd_M_write_87 ?_
          refine lv_iload_n hx hb dd_M_write_90 rfl (lv_at hl 1 rfl) ?_
          refine lv_iload_n hx hb dd_M_write_91 rfl (lv_at hl 2 rfl) ?_
          have hw0 := hw
          clear hw
          refine cs_i (rn_S C0 hG hS (c_M_of l g _ h39 i1 i2 hw0) (host := "") (nest := false) (n := 2) (As := [.int i1, .int i2]) (rest := [.ref a41]) km_420 km_419 km_422 km_421 ⟨by decide, by decide, by decide +kernel⟩ ⟨Nat.le_of_ble_eq_true rfl, Nat.le_of_ble_eq_true rfl⟩ rfl hl.1 rfl (Nat.le_of_ble_eq_true rfl) dd_M_write_92 ⟨Nat.le_refl _, Nat.le_refl _⟩) (fun x44 hw => ?_)
          refine lv_aload_n hx hb dd_M_write_95 rfl (lv_at hl 0 rfl) ?_
          obtain ⟨k45, hw⟩ := hw
          refine gf_M_144 C0 hG k45 dd_M_write_96 ?_
          obtain ⟨k46, k46i, hw⟩ := hw
          refine px_iast C0 hG hS k46 k46i dd_M_write_99 (fun H locs hG hS => ?_)
          replace hw := hw _ rfl
          generalize sI h39 a41 x44.toNatClampNeg (hI h39 a0 14) = h47 at hw hG
          refine lv_iconst (v := 1) hx hb dd_M_write_100 (by decide) ?_
          exact re_i C0 hG hS hr hlk ⟨Nat.le_refl _, Nat.le_refl _⟩ hw dd_M_write_101
        · replace hw := hw.2 c21
          refine lv_iconst (v := 0) hx hb dd_M_write_52 (by decide) ?_
          exact re_i C0 hG hS hr hlk ⟨Nat.le_refl _, Nat.le_refl _⟩ hw dd_M_write_53
      · replace hw := hw.2 c14
        refine lv_bipush (v := (-5)) hx hb dd_M_write_35 (by decide) ?_
        exact re_i C0 hG hS hr hlk ⟨Nat.le_refl _, Nat.le_refl _⟩ hw dd_M_write_37
    · replace hw := hw.2 c10
      refine lv_bipush (v := (-4)) hx hb dd_M_write_23 (by decide) ?_
      exact re_i C0 hG hS hr hlk ⟨Nat.le_refl _, Nat.le_refl _⟩ hw dd_M_write_25
  · replace hw := hw.2 c6
    refine lv_bipush (v := (-2)) hx hb dd_M_write_13 (by decide) ?_
    exact re_i C0 hG hS hr hlk ⟨Nat.le_refl _, Nat.le_refl _⟩ hw dd_M_write_15
/-! SegmentLocksModel.read(II)J -/
theorem dd_M_read_0 : decode prog_6_method_24_code 0 = .ok (.aload_n 0, 1) := by decide +kernel
theorem dd_M_read_1 : decode prog_6_method_24_code 1 = .ok (.aload_n 0, 1) := by decide +kernel
theorem dd_M_read_2 : decode prog_6_method_24_code 2 = .ok (.iload_n 1, 1) := by decide +kernel
theorem dd_M_read_3 : decode prog_6_method_24_code 3 = .ok (.invokevirtual 120, 3) := by decide +kernel
theorem dd_M_read_6 : decode prog_6_method_24_code 6 = .ok (.ifCond .eq 10, 3) := by decide +kernel
theorem dd_M_read_9 : decode prog_6_method_24_code 9 = .ok (.iload_n 2, 1) := by decide +kernel
theorem dd_M_read_10 : decode prog_6_method_24_code 10 = .ok (.invokestatic 124, 3) := by decide +kernel
theorem dd_M_read_13 : decode prog_6_method_24_code 13 = .ok (.ifCond .ne 7, 3) := by decide +kernel
theorem dd_M_read_16 : decode prog_6_method_24_code 16 = .ok (.iconst 1, 1) := by decide +kernel
theorem dd_M_read_17 : decode prog_6_method_24_code 17 = .ok (.goto 44, 3) := by decide +kernel
theorem dd_M_read_20 : decode prog_6_method_24_code 20 = .ok (.aload_n 0, 1) := by decide +kernel
theorem dd_M_read_21 : decode prog_6_method_24_code 21 = .ok (.getfield 17, 3) := by decide +kernel
theorem dd_M_read_24 : decode prog_6_method_24_code 24 = .ok (.iload_n 1, 1) := by decide +kernel
theorem dd_M_read_25 : decode prog_6_method_24_code 25 = .ok (.iaload, 1) := by decide +kernel
theorem dd_M_read_26 : decode prog_6_method_24_code 26 = .ok (.ifCond .ne 30, 3) := by decide +kernel
theorem dd_M_read_29 : decode prog_6_method_24_code 29 = .ok (.aload_n 0, 1) := by decide +kernel
theorem dd_M_read_30 : decode prog_6_method_24_code 30 = .ok (.getfield 29, 3) := by decide +kernel
theorem dd_M_read_33 : decode prog_6_method_24_code 33 = .ok (.iload_n 1, 1) := by decide +kernel
theorem dd_M_read_34 : decode prog_6_method_24_code 34 = .ok (.iload_n 2, 1) := by decide +kernel
theorem dd_M_read_35 : decode prog_6_method_24_code 35 = .ok (.invokestatic 79, 3) := by decide +kernel
theorem dd_M_read_38 : decode prog_6_method_24_code 38 = .ok (.iaload, 1) := by decide +kernel
theorem dd_M_read_39 : decode prog_6_method_24_code 39 = .ok (.iconst (-1), 1) := by decide +kernel
theorem dd_M_read_40 : decode prog_6_method_24_code 40 = .ok (.if_icmp .ne 20, 3) := by decide +kernel
theorem dd_M_read_43 : decode prog_6_method_24_code 43 = .ok (.aload_n 0, 1) := by decide +kernel
theorem dd_M_read_44 : decode prog_6_method_24_code 44 = .ok (.getfield 35, 3) := by decide +kernel
theorem dd_M_read_47 : decode prog_6_method_24_code 47 = .ok (.iload_n 1, 1) := by decide +kernel
theorem dd_M_read_48 : decode prog_6_method_24_code 48 = .ok (.iload_n 2, 1) := by decide +kernel
theorem dd_M_read_49 : decode prog_6_method_24_code 49 = .ok (.invokestatic 79, 3) := by decide +kernel
theorem dd_M_read_52 : decode prog_6_method_24_code 52 = .ok (.baload, 1) := by decide +kernel
theorem dd_M_read_53 : decode prog_6_method_24_code 53 = .ok (.ifCond .ne 7, 3) := by decide +kernel
theorem dd_M_read_56 : decode prog_6_method_24_code 56 = .ok (.iconst 2, 1) := by decide +kernel
theorem dd_M_read_57 : decode prog_6_method_24_code 57 = .ok (.goto 4, 3) := by decide +kernel
theorem dd_M_read_60 : decode prog_6_method_24_code 60 = .ok (.iconst 0, 1) := by decide +kernel
theorem dd_M_read_61 : decode prog_6_method_24_code 61 = .ok (.putfield 72, 3) := by decide +kernel
theorem dd_M_read_64 : decode prog_6_method_24_code 64 = .ok (.aload_n 0, 1) := by decide +kernel
theorem dd_M_read_65 : decode prog_6_method_24_code 65 = .ok (.getfield 72, 3) := by decide +kernel
theorem dd_M_read_68 : decode prog_6_method_24_code 68 = .ok (.ifCond .le 5, 3) := by decide +kernel
theorem dd_M_read_71 : decode prog_6_method_24_code 71 = .ok (.lconst 0, 1) := by decide +kernel
theorem dd_M_read_72 : decode prog_6_method_24_code 72 = .ok (.lreturn, 1) := by decide +kernel
theorem dd_M_read_73 : decode prog_6_method_24_code 73 = .ok (.aload_n 0, 1) := by decide +kernel
theorem dd_M_read_74 : decode prog_6_method_24_code 74 = .ok (.getfield 39, 3) := by decide +kernel
theorem dd_M_read_77 : decode prog_6_method_24_code 77 = .ok (.iload_n 1, 1) := by decide +kernel
theorem dd_M_read_78 : decode prog_6_method_24_code 78 = .ok (.iload_n 2, 1) := by decide +kernel
theorem dd_M_read_79 : decode prog_6_method_24_code 79 = .ok (.invokestatic 79, 3) := by decide +kernel
theorem dd_M_read_82 : decode prog_6_method_24_code 82 = .ok (.baload, 1) := by decide +kernel
theorem dd_M_read_83 : decode prog_6_method_24_code 83 = .ok (.ifCond .eq 14, 3) := by decide +kernel
theorem dd_M_read_86 : decode prog_6_method_24_code 86 = .ok (.aload_n 0, 1) := by decide +kernel
theorem dd_M_read_87 : decode prog_6_method_24_code 87 = .ok (.getfield 42, 3) := by decide +kernel
theorem dd_M_read_90 : decode prog_6_method_24_code 90 = .ok (.iload_n 1, 1) := by decide +kernel
theorem dd_M_read_91 : decode prog_6_method_24_code 91 = .ok (.iload_n 2, 1) := by decide +kernel
theorem dd_M_read_92 : decode prog_6_method_24_code 92 = .ok (.invokestatic 79, 3) := by decide +kernel
theorem dd_M_read_95 : decode prog_6_method_24_code 95 = .ok (.laload, 1) := by decide +kernel
theorem dd_M_read_96 : decode prog_6_method_24_code 96 = .ok (.lreturn, 1) := by decide +kernel
theorem dd_M_read_97 : decode prog_6_method_24_code 97 = .ok (.aload_n 0, 1) := by decide +kernel
theorem dd_M_read_98 : decode prog_6_method_24_code 98 = .ok (.getfield 7, 3) := by decide +kernel
theorem dd_M_read_101 : decode prog_6_method_24_code 101 = .ok (.iload_n 2, 1) := by decide +kernel
theorem dd_M_read_102 : decode prog_6_method_24_code 102 = .ok (.laload, 1) := by decide +kernel
theorem dd_M_read_103 : decode prog_6_method_24_code 103 = .ok (.lstore_n 3, 1) := by decide +kernel
theorem dd_M_read_104 : decode prog_6_method_24_code 104 = .ok (.aload_n 0, 1) := by decide +kernel
theorem dd_M_read_105 : decode prog_6_method_24_code 105 = .ok (.getfield 29, 3) := by decide +kernel
theorem dd_M_read_108 : decode prog_6_method_24_code 108 = .ok (.iload_n 1, 1) := by decide +kernel
theorem dd_M_read_109 : decode prog_6_method_24_code 109 = .ok (.iload_n 2, 1) := by decide +kernel
theorem dd_M_read_110 : decode prog_6_method_24_code 110 = .ok (.invokestatic 79, 3) := by decide +kernel
theorem dd_M_read_113 : decode prog_6_method_24_code 113 = .ok (.iaload, 1) := by decide +kernel
theorem dd_M_read_114 : decode prog_6_method_24_code 114 = .ok (.iconst (-1), 1) := by decide +kernel
theorem dd_M_read_115 : decode prog_6_method_24_code 115 = .ok (.if_icmp .ne 82, 3) := by decide +kernel
theorem dd_M_read_118 : decode prog_6_method_24_code 118 = .ok (.iconst 0, 1) := by decide +kernel
theorem dd_M_read_119 : decode prog_6_method_24_code 119 = .ok (.istore 5, 2) := by decide +kernel
theorem dd_M_read_121 : decode prog_6_method_24_code 121 = .ok (.iconst 1, 1) := by decide +kernel
theorem dd_M_read_122 : decode prog_6_method_24_code 122 = .ok (.istore 6, 2) := by decide +kernel
theorem dd_M_read_124 : decode prog_6_method_24_code 124 = .ok (.iload 6, 2) := by decide +kernel
theorem dd_M_read_126 : decode prog_6_method_24_code 126 = .ok (.aload_n 0, 1) := by decide +kernel
theorem dd_M_read_127 : decode prog_6_method_24_code 127 = .ok (.getfield 76, 3) := by decide +kernel
theorem dd_M_read_130 : decode prog_6_method_24_code 130 = .ok (.if_icmp .gt 67, 3) := by decide +kernel
theorem dd_M_read_133 : decode prog_6_method_24_code 133 = .ok (.aload_n 0, 1) := by decide +kernel
theorem dd_M_read_134 : decode prog_6_method_24_code 134 = .ok (.getfield 39, 3) := by decide +kernel
theorem dd_M_read_137 : decode prog_6_method_24_code 137 = .ok (.iload 6, 2) := by decide +kernel
theorem dd_M_read_139 : decode prog_6_method_24_code 139 = .ok (.iload_n 2, 1) := by decide +kernel
theorem dd_M_read_140 : decode prog_6_method_24_code 140 = .ok (.invokestatic 79, 3) := by decide +kernel
theorem dd_M_read_143 : decode prog_6_method_24_code 143 = .ok (.baload, 1) := by decide +kernel
theorem dd_M_read_144 : decode prog_6_method_24_code 144 = .ok (.ifCond .eq 47, 3) := by decide +kernel
theorem dd_M_read_147 : decode prog_6_method_24_code 147 = .ok (.aload_n 0, 1) := by decide +kernel
theorem dd_M_read_148 : decode prog_6_method_24_code 148 = .ok (.getfield 32, 3) := by decide +kernel
theorem dd_M_read_151 : decode prog_6_method_24_code 151 = .ok (.iload 6, 2) := by decide +kernel
theorem dd_M_read_153 : decode prog_6_method_24_code 153 = .ok (.iload_n 2, 1) := by decide +kernel
theorem dd_M_read_154 : decode prog_6_method_24_code 154 = .ok (.invokestatic 79, 3) := by decide +kernel
theorem dd_M_read_157 : decode prog_6_method_24_code 157 = .ok (.iaload, 1) := by decide +kernel
theorem dd_M_read_158 : decode prog_6_method_24_code 158 = .ok (.iload 5, 2) := by decide +kernel
theorem dd_M_read_160 : decode prog_6_method_24_code 160 = .ok (.if_icmp .ge 6, 3) := by decide +kernel
theorem dd_M_read_163 : decode prog_6_method_24_code 163 = .ok (.goto 28, 3) := by decide +kernel
theorem dd_M_read_166 : decode prog_6_method_24_code 166 = .ok (.aload_n 0, 1) := by decide +kernel
theorem dd_M_read_167 : decode prog_6_method_24_code 167 = .ok (.getfield 32, 3) := by decide +kernel
theorem dd_M_read_170 : decode prog_6_method_24_code 170 = .ok (.iload 6, 2) := by decide +kernel
theorem dd_M_read_172 : decode prog_6_method_24_code 172 = .ok (.iload_n 2, 1) := by decide +kernel
theorem dd_M_read_173 : decode prog_6_method_24_code 173 = .ok (.invokestatic 79, 3) := by decide +kernel
theorem dd_M_read_176 : decode prog_6_method_24_code 176 = .ok (.iaload, 1) := by decide +kernel
theorem dd_M_read_177 : decode prog_6_method_24_code 177 = .ok (.istore 5, 2) := by decide +kernel
theorem dd_M_read_179 : decode prog_6_method_24_code 179 = .ok (.aload_n 0, 1) := by decide +kernel
theorem dd_M_read_180 : decode prog_6_method_24_code 180 = .ok (.getfield 42, 3) := by decide +kernel
theorem dd_M_read_183 : decode prog_6_method_24_code 183 = .ok (.iload 6, 2) := by decide +kernel
theorem dd_M_read_185 : decode prog_6_method_24_code 185 = .ok (.iload_n 2, 1) := by decide +kernel
theorem dd_M_read_186 : decode prog_6_method_24_code 186 = .ok (.invokestatic 79, 3) := by decide +kernel
theorem dd_M_read_189 : decode prog_6_method_24_code 189 = .ok (.laload, 1) := by decide +kernel
theorem dd_M_read_190 : decode prog_6_method_24_code 190 = .ok (.lstore_n 3, 1) := by decide +kernel
theorem dd_M_read_191 : decode prog_6_method_24_code 191 = .ok (.iinc 6 1, 3) := by decide +kernel
theorem dd_M_read_194 : decode prog_6_method_24_code 194 = .ok (.goto (-70), 3) := by decide +kernel
theorem dd_M_read_197 : decode prog_6_method_24_code 197 = .ok (.aload_n 0, 1) := by decide +kernel
theorem dd_M_read_198 : decode prog_6_method_24_code 198 = .ok (.getfield 51, 3) := by decide +kernel
theorem dd_M_read_201 : decode prog_6_method_24_code 201 = .ok (.aload_n 0, 1) := by decide +kernel
theorem dd_M_read_202 : decode prog_6_method_24_code 202 = .ok (.getfield 108, 3) := by decide +kernel
theorem dd_M_read_205 : decode prog_6_method_24_code 205 = .ok (.iload_n 1, 1) := by decide +kernel
theorem dd_M_read_206 : decode prog_6_method_24_code 206 = .ok (.iastore, 1) := by decide +kernel
theorem dd_M_read_207 : decode prog_6_method_24_code 207 = .ok (.aload_n 0, 1) := by decide +kernel
theorem dd_M_read_208 : decode prog_6_method_24_code 208 = .ok (.getfield 54, 3) := by decide +kernel
theorem dd_M_read_211 : decode prog_6_method_24_code 211 = .ok (.aload_n 0, 1) := by decide +kernel
theorem dd_M_read_212 : decode prog_6_method_24_code 212 = .ok (.getfield 108, 3) := by decide +kernel
theorem dd_M_read_215 : decode prog_6_method_24_code 215 = .ok (.iload_n 2, 1) := by decide +kernel
theorem dd_M_read_216 : decode prog_6_method_24_code 216 = .ok (.iastore, 1) := by decide +kernel
theorem dd_M_read_217 : decode prog_6_method_24_code 217 = .ok (.aload_n 0, 1) := by decide +kernel
theorem dd_M_read_218 : decode prog_6_method_24_code 218 = .ok (.getfield 57, 3) := by decide +kernel
theorem dd_M_read_221 : decode prog_6_method_24_code 221 = .ok (.aload_n 0, 1) := by decide +kernel
theorem dd_M_read_222 : decode prog_6_method_24_code 222 = .ok (.getfield 108, 3) := by decide +kernel
theorem dd_M_read_225 : decode prog_6_method_24_code 225 = .ok (.lload_n 3, 1) := by decide +kernel
theorem dd_M_read_226 : decode prog_6_method_24_code 226 = .ok (.lastore, 1) := by decide +kernel
theorem dd_M_read_227 : decode prog_6_method_24_code 227 = .ok (.aload_n 0, 1) := by decide +kernel
theorem dd_M_read_228 : decode prog_6_method_24_code 228 = .ok (.dup, 1) := by decide +kernel
theorem dd_M_read_229 : decode prog_6_method_24_code 229 = .ok (.getfield 108, 3) := by decide +kernel
theorem dd_M_read_232 : decode prog_6_method_24_code 232 = .ok (.iconst 1, 1) := by decide +kernel
theorem dd_M_read_233 : decode prog_6_method_24_code 233 = .ok (.iadd, 1) := by decide +kernel
theorem dd_M_read_234 : decode prog_6_method_24_code 234 = .ok (.putfield 108, 3) := by decide +kernel
theorem dd_M_read_237 : decode prog_6_method_24_code 237 = .ok (.lload_n 3, 1) := by decide +kernel
theorem dd_M_read_238 : decode prog_6_method_24_code 238 = .ok (.lreturn, 1) := by decide +kernel
def wp_M_read_197 (g : Gm) (post : Int64 → Hp → Prop) (h : Hp) (v0 : Nat) (v1 : Int32) (v2 : Int32) (v3 : Int64) : Prop := hK h v0 = 5 ∧ ∃ a2 : Nat, hR h v0 17 = some a2 ∧ hK h v0 = 5 ∧ hK h a2 = 21 ∧ vp_in (hI h v0 20) (hN h a2) ∧ ∀ h5 : Hp, h5 = sI h a2 (hI h v0 20).toNatClampNeg v1 → hK h5 v0 = 5 ∧ ∃ a7 : Nat, hR h5 v0 18 = some a7 ∧ hK h5 v0 = 5 ∧ hK h5 a7 = 21 ∧ vp_in (hI h5 v0 20) (hN h5 a7) ∧ ∀ h10 : Hp, h10 = sI h5 a7 (hI h5 v0 20).toNatClampNeg v2 → hK h10 v0 = 5 ∧ ∃ a12 : Nat, hR h10 v0 19 = some a12 ∧ hK h10 v0 = 5 ∧ hK h10 a12 = 22 ∧ vp_in (hI h10 v0 20) (hN h10 a12) ∧ ∀ h15 : Hp, h15 = sJ h10 a12 (hI h10 v0 20).toNatClampNeg v3 → hK h15 v0 = 5 ∧ ∀ x17 : Int32, x17 = (hI h15 v0 20) + 1 → hK h15 v0 = 5 ∧ ∀ h19 : Hp, h19 = sI h15 v0 20 x17 → post v3 h19
set_option maxHeartbeats 4000000 in
set_option maxRecDepth 100000 in
theorem wk_M_read_197 {p : Program} {l : Launch} {e : Env} {s : State} {m : MethodId} {args : Array Value} {below : List Frame} {meth : Method} {c : Code} {g : Gm} {post : Int64 → Hp → Prop} (C0 : Cx g p s m args c prog_6_method_24_code 7 "SegmentLocksModel") (hr : meth.sig.returnType = (some .long)) (hlk : meth.locks = false) : ∀ (h : Hp) (v0 : Nat) (v1 : Int32) (v2 : Int32) (v3 : Int64) (H : Heap) (locs : List Loc) (ls : Array Slot), wp_M_read_197 g post h v0 v1 v2 v3 → GH g h H → va_S (gA g) s.heap H locs → lv_has ls 7 [(0, .ref v0), (1, .int v1), (2, .int v2), (3, .long v3)] → W p l e (rmm 1 21 0 0) s m args below meth c H locs 0 0 (MQ below (va_Ql post (gS g) (gA g)) args s 0 0 (gA g)) (F0 m 197 ls []) := by
  obtain ⟨hx, hb, -, hown, hts, hgk⟩ := id C0
  intro h v0 v1 v2 v3 H locs ls hw hG hS hl
  unfold wp_M_read_197 at hw
  refine lv_aload_n hx hb dd_M_read_197 rfl (lv_at hl 0 rfl) ?_
  obtain ⟨k1, a2, ea2, hw⟩ := hw
  refine gf_M_51 C0 hG k1 ea2 dd_M_read_198 ?_
  refine lv_aload_n hx hb dd_M_read_201 rfl (lv_at hl 0 rfl) ?_
  obtain ⟨k3, hw⟩ := hw
  refine gf_M_108 C0 hG k3 dd_M_read_202 ?_
  refine lv_iload_n hx hb dd_M_read_205 rfl (lv_at hl 1 rfl) ?_
  obtain ⟨k4, k4i, hw⟩ := hw
  refine px_iast C0 hG hS k4 k4i dd_M_read_206 (fun H locs hG hS => ?_)
  replace hw := hw _ rfl
  generalize sI h a2 (hI h v0 20).toNatClampNeg v1 = h5 at hw hG
  refine lv_aload_n hx hb dd_M_read_207 rfl (lv_at hl 0 rfl) ?_
  obtain ⟨k6, a7, ea7, hw⟩ := hw
  refine gf_M_54 C0 hG k6 ea7 dd_M_read_208 ?_
  refine lv_aload_n hx hb dd_M_read_211 rfl (lv_at hl 0 rfl) ?_
  obtain ⟨k8, hw⟩ := hw
  refine gf_M_108 C0 hG k8 dd_M_read_212 ?_
  refine lv_iload_n hx hb dd_M_read_215 rfl (lv_at hl 2 rfl) ?_
  obtain ⟨k9, k9i, hw⟩ := hw
  refine px_iast C0 hG hS k9 k9i dd_M_read_216 (fun H locs hG hS => ?_)
  replace hw := hw _ rfl
  generalize sI h5 a7 (hI h5 v0 20).toNatClampNeg v2 = h10 at hw hG
  refine lv_aload_n hx hb dd_M_read_217 rfl (lv_at hl 0 rfl) ?_
  obtain ⟨k11, a12, ea12, hw⟩ := hw
  refine gf_M_57 C0 hG k11 ea12 dd_M_read_218 ?_
  refine lv_aload_n hx hb dd_M_read_221 rfl (lv_at hl 0 rfl) ?_
  obtain ⟨k13, hw⟩ := hw
  refine gf_M_108 C0 hG k13 dd_M_read_222 ?_
  refine lv_lload_n hx hb dd_M_read_225 rfl (lv_at hl 3 rfl) ?_
  obtain ⟨k14, k14i, hw⟩ := hw
  refine px_last C0 hG hS k14 k14i dd_M_read_226 (fun H locs hG hS => ?_)
  replace hw := hw _ rfl
  generalize sJ h10 a12 (hI h10 v0 20).toNatClampNeg v3 = h15 at hw hG
  refine lv_aload_n hx hb dd_M_read_227 rfl (lv_at hl 0 rfl) ?_
  refine lv_dup hx hb dd_M_read_228 rfl ?_
  obtain ⟨k16, hw⟩ := hw
  refine gf_M_108 C0 hG k16 dd_M_read_229 ?_
  refine lv_iconst (v := 1) hx hb dd_M_read_232 (by decide) ?_
  refine lv_iadd hx hb dd_M_read_233 ?_
  refine lv_topi (fun x17 ex17 => ?_)
  replace hw := hw x17 ex17
  obtain ⟨k18, hw⟩ := hw
  refine pf_M_108 C0 hG hS k18 dd_M_read_234 (fun H locs hG hS => ?_)
  replace hw := hw _ rfl
  generalize sI h15 v0 20 x17 = h19 at hw hG
  refine lv_lload_n hx hb dd_M_read_237 rfl (lv_at hl 3 rfl) ?_
  exact re_l C0 hG hS hr hlk ⟨Nat.le_refl _, Nat.le_refl _⟩ hw dd_M_read_238
def wp_M_read_191 (g : Gm) (post : Int64 → Hp → Prop) (K124 : Hp → Nat → Int32 → Int32 → Int64 → Int32 → Int32 → Prop) (h : Hp) (v0 : Nat) (v1 : Int32) (v2 : Int32) (v3 : Int64) (v5 : Int32) (v6 : Int32) : Prop := ∀ x1 : Int32, x1 = v6 + 1 → K124 h v0 v1 v2 v3 v5 x1
set_option maxHeartbeats 4000000 in
set_option maxRecDepth 100000 in
theorem wk_M_read_191 {p : Program} {l : Launch} {e : Env} {s : State} {m : MethodId} {args : Array Value} {below : List Frame} {meth : Method} {c : Code} {g : Gm} {post : Int64 → Hp → Prop} (C0 : Cx g p s m args c prog_6_method_24_code 7 "SegmentLocksModel") (hr : meth.sig.returnType = (some .long)) (hlk : meth.locks = false) {K124 : Hp → Nat → Int32 → Int32 → Int64 → Int32 → Int32 → Prop} (hK124 : ∀ (h : Hp) (v0 : Nat) (v1 : Int32) (v2 : Int32) (v3 : Int64) (v5 : Int32) (v6 : Int32) (H : Heap) (locs : List Loc) (ls : Array Slot), K124 h v0 v1 v2 v3 v5 v6 → GH g h H → va_S (gA g) s.heap H locs → lv_has ls 7 [(0, .ref v0), (1, .int v1), (2, .int v2), (3, .long v3), (5, .int v5), (6, .int v6)] → W p l e (rmm 1 21 0 0) s m args below meth c H locs 0 0 (MQ below (va_Ql post (gS g) (gA g)) args s 0 0 (gA g)) (F0 m 124 ls [])) : ∀ (h : Hp) (v0 : Nat) (v1 : Int32) (v2 : Int32) (v3 : Int64) (v5 : Int32) (v6 : Int32) (H : Heap) (locs : List Loc) (ls : Array Slot), wp_M_read_191 g post K124 h v0 v1 v2 v3 v5 v6 → GH g h H → va_S (gA g) s.heap H locs → lv_has ls 7 [(0, .ref v0), (1, .int v1), (2, .int v2), (3, .long v3), (5, .int v5), (6, .int v6)] → W p l e (rmm 1 21 0 0) s m args below meth c H locs 0 0 (MQ below (va_Ql post (gS g) (gA g)) args s 0 0 (gA g)) (F0 m 191 ls []) := by
  obtain ⟨hx, hb, -, hown, hts, hgk⟩ := id C0
  intro h v0 v1 v2 v3 v5 v6 H locs ls hw hG hS hl
  unfold wp_M_read_191 at hw
  obtain ⟨x1, ex1⟩ : ∃ y : Int32, y = v6 + 1 := ⟨_, rfl⟩
  replace hw := hw x1 ex1
  have hl0 := hl
  clear hl
  refine lv_iinc (v := x1) (lv' := [(6, .int x1), (0, .ref v0), (1, .int v1), (2, .int v2), (3, .long v3), (5, .int v5)]) hx hb dd_M_read_191 hl0 (k := 5) rfl (by rw [ex1]; rfl) (by decide) rfl (fun ls hl => ?_)
  refine lv_goto (tgt := 124) hx hb dd_M_read_194 (by decide) ?_
  exact hK124 _ _ _ _ _ _ _ _ _ _ hw hG hS (lv_sub hl [1, 2, 3, 4, 5, 0] rfl)
def wp_M_read_124 (g : Gm) (post : Int64 → Hp → Prop) : Nat → Hp → Nat → Int32 → Int32 → Int64 → Int32 → Int32 → Prop
  | 0, _, _, _, _, _, _, _ => False
  | fu + 1, h, v0, v1, v2, v3, v5, v6 => hK h v0 = 5 ∧ (((hI h v0 2) < v6 → wp_M_read_197 g post h v0 v1 v2 v3) ∧ (¬ (hI h v0 2) < v6 → hK h v0 = 5 ∧ ∃ a4 : Nat, hR h v0 12 = some a4 ∧ wp_M_of g (fun x7 => hK h a4 = 23 ∧ vp_in x7 (hN h a4) ∧ (((hI h a4 x7.toNatClampNeg) = 0 → wp_M_read_191 g post (fun h v0 v1 v2 v3 v5 v6 => wp_M_read_124 g post fu h v0 v1 v2 v3 v5 v6) h v0 v1 v2 v3 v5 v6) ∧ (¬ (hI h a4 x7.toNatClampNeg) = 0 → hK h v0 = 5 ∧ ∃ a11 : Nat, hR h v0 10 = some a11 ∧ wp_M_of g (fun x14 => hK h a11 = 21 ∧ vp_in x14 (hN h a11) ∧ ((v5 ≤ (hI h a11 x14.toNatClampNeg) → hK h v0 = 5 ∧ ∃ a18 : Nat, hR h v0 10 = some a18 ∧ wp_M_of g (fun x21 => hK h a18 = 21 ∧ vp_in x21 (hN h a18) ∧ hK h v0 = 5 ∧ ∃ a24 : Nat, hR h v0 13 = some a24 ∧ wp_M_of g (fun x27 => hK h a24 = 22 ∧ vp_in x27 (hN h a24) ∧ wp_M_read_191 g post (fun h v0 v1 v2 v3 v5 v6 => wp_M_read_124 g post fu h v0 v1 v2 v3 v5 v6) h v0 v1 v2 (hJ h a24 x27.toNatClampNeg) (hI h a18 x21.toNatClampNeg) v6) h v6 v2) h v6 v2) ∧ (¬ v5 ≤ (hI h a11 x14.toNatClampNeg) → wp_M_read_191 g post (fun h v0 v1 v2 v3 v5 v6 => wp_M_read_124 g post fu h v0 v1 v2 v3 v5 v6) h v0 v1 v2 v3 v5 v6))) h v6 v2))) h v6 v2))
set_option maxHeartbeats 4000000 in
set_option maxRecDepth 100000 in
theorem wk_M_read_124 {p : Program} {l : Launch} {e : Env} {s : State} {m : MethodId} {args : Array Value} {below : List Frame} {meth : Method} {c : Code} {g : Gm} {post : Int64 → Hp → Prop} (C0 : Cx g p s m args c prog_6_method_24_code 7 "SegmentLocksModel") (hr : meth.sig.returnType = (some .long)) (hlk : meth.locks = false) : ∀ n : Nat, ∀ (h : Hp) (v0 : Nat) (v1 : Int32) (v2 : Int32) (v3 : Int64) (v5 : Int32) (v6 : Int32) (H : Heap) (locs : List Loc) (ls : Array Slot), wp_M_read_124 g post n h v0 v1 v2 v3 v5 v6 → GH g h H → va_S (gA g) s.heap H locs → lv_has ls 7 [(0, .ref v0), (1, .int v1), (2, .int v2), (3, .long v3), (5, .int v5), (6, .int v6)] → W p l e (rmm 1 21 0 0) s m args below meth c H locs 0 0 (MQ below (va_Ql post (gS g) (gA g)) args s 0 0 (gA g)) (F0 m 124 ls []) := by
  obtain ⟨hx, hb, -, hown, hts, hgk⟩ := id C0
  intro n
  induction n with
  | zero =>
    intro h v0 v1 v2 v3 v5 v6 H locs ls hw hG hS hl
    exact hw.elim
  | succ n ih =>
    intro h v0 v1 v2 v3 v5 v6 H locs ls hw hG hS hl
    unfold wp_M_read_124 at hw
    refine lv_iload hx hb dd_M_read_124 (lv_at hl 5 rfl) ?_
    refine lv_aload_n hx hb dd_M_read_126 rfl (lv_at hl 0 rfl) ?_
    obtain ⟨k1, hw⟩ := hw
    refine gf_M_76 C0 hG k1 dd_M_read_127 ?_
    refine lv_icmp_gt (tgt := 197) hx hb dd_M_read_130 (by decide) (fun c2 => ?_) (fun c2 => ?_)
    · replace hw := hw.1 c2
      exact wk_M_read_197 C0 hr hlk _ _ _ _ _ _ _ _ hw hG hS (lv_sub hl [0, 1, 2, 3] rfl)
    · replace hw := hw.2 c2
      refine lv_aload_n hx hb dd_M_read_133 rfl (lv_at hl 0 rfl) ?_
      obtain ⟨k3, a4, ea4, hw⟩ := hw
      refine gf_M_39 C0 hG k3 ea4 dd_M_read_134 ?_
      refine lv_iload hx hb dd_M_read_137 (lv_at hl 5 rfl) ?_
      refine lv_iload_n hx hb dd_M_read_139 rfl (lv_at hl 2 rfl) ?_
      have hw0 := hw
      clear hw
      refine cs_i (rn_S C0 hG hS (c_M_of l g _ h v6 v2 hw0) (host := "") (nest := false) (n := 2) (As := [.int v6, .int v2]) (rest := [.ref a4]) km_420 km_419 km_422 km_421 ⟨by decide, by decide, by decide +kernel⟩ ⟨Nat.le_of_ble_eq_true rfl, Nat.le_of_ble_eq_true rfl⟩ rfl hl.1 rfl (Nat.le_of_ble_eq_true rfl) dd_M_read_140 ⟨Nat.le_refl _, Nat.le_refl _⟩) (fun x7 hw => ?_)
      obtain ⟨k8, k8i, hw⟩ := hw
      refine px_zald C0 hG k8 k8i dd_M_read_143 ?_
      refine lv_if_eq (tgt := 191) hx hb dd_M_read_144 (by decide) (fun c9 => ?_) (fun c9 => ?_)
      · replace hw := hw.1 c9
        exact wk_M_read_191 C0 hr hlk ih _ _ _ _ _ _ _ _ _ _ hw hG hS (lv_sub hl [0, 1, 2, 3, 4, 5] rfl)
      · replace hw := hw.2 c9
        refine lv_aload_n hx hb dd_M_read_147 rfl (lv_at hl 0 rfl) ?_
        obtain ⟨k10, a11, ea11, hw⟩ := hw
        refine gf_M_32 C0 hG k10 ea11 dd_M_read_148 ?_
        refine lv_iload hx hb dd_M_read_151 (lv_at hl 5 rfl) ?_
        refine lv_iload_n hx hb dd_M_read_153 rfl (lv_at hl 2 rfl) ?_
        have hw0 := hw
        clear hw
        refine cs_i (rn_S C0 hG hS (c_M_of l g _ h v6 v2 hw0) (host := "") (nest := false) (n := 2) (As := [.int v6, .int v2]) (rest := [.ref a11]) km_420 km_419 km_422 km_421 ⟨by decide, by decide, by decide +kernel⟩ ⟨Nat.le_of_ble_eq_true rfl, Nat.le_of_ble_eq_true rfl⟩ rfl hl.1 rfl (Nat.le_of_ble_eq_true rfl) dd_M_read_154 ⟨Nat.le_refl _, Nat.le_refl _⟩) (fun x14 hw => ?_)
        obtain ⟨k15, k15i, hw⟩ := hw
        refine px_iald C0 hG k15 k15i dd_M_read_157 ?_
        refine lv_iload hx hb dd_M_read_158 (lv_at hl 4 rfl) ?_
        refine lv_icmp_ge (tgt := 166) hx hb dd_M_read_160 (by decide) (fun c16 => ?_) (fun c16 => ?_)
        · replace hw := hw.1 c16
          refine lv_aload_n hx hb dd_M_read_166 rfl (lv_at hl 0 rfl) ?_
          obtain ⟨k17, a18, ea18, hw⟩ := hw
          refine gf_M_32 C0 hG k17 ea18 dd_M_read_167 ?_
          refine lv_iload hx hb dd_M_read_170 (lv_at hl 5 rfl) ?_
          refine lv_iload_n hx hb dd_M_read_172 rfl (lv_at hl 2 rfl) ?_
          have hw0 := hw
          clear hw
          refine cs_i (rn_S C0 hG hS (c_M_of l g _ h v6 v2 hw0) (host := "") (nest := false) (n := 2) (As := [.int v6, .int v2]) (rest := [.ref a18]) km_420 km_419 km_422 km_421 ⟨by decide, by decide, by decide +kernel⟩ ⟨Nat.le_of_ble_eq_true rfl, Nat.le_of_ble_eq_true rfl⟩ rfl hl.1 rfl (Nat.le_of_ble_eq_true rfl) dd_M_read_173 ⟨Nat.le_refl _, Nat.le_refl _⟩) (fun x21 hw => ?_)
          obtain ⟨k22, k22i, hw⟩ := hw
          refine px_iald C0 hG k22 k22i dd_M_read_176 ?_
          have hl0 := hl
          clear hl
          refine lv_istore (lv' := [(5, .int (hI h a18 x21.toNatClampNeg)), (0, .ref v0), (1, .int v1), (2, .int v2), (3, .long v3), (6, .int v6)]) hx hb dd_M_read_177 hl0 (by decide) rfl (fun ls hl => ?_)
          refine lv_aload_n hx hb dd_M_read_179 rfl (lv_at hl 1 rfl) ?_
          obtain ⟨k23, a24, ea24, hw⟩ := hw
          refine gf_M_42 C0 hG k23 ea24 dd_M_read_180 ?_
          refine lv_iload hx hb dd_M_read_183 (lv_at hl 5 rfl) ?_
          refine lv_iload_n hx hb dd_M_read_185 rfl (lv_at hl 3 rfl) ?_
          have hw0 := hw
          clear hw
          refine cs_i (rn_S C0 hG hS (c_M_of l g _ h v6 v2 hw0) (host := "") (nest := false) (n := 2) (As := [.int v6, .int v2]) (rest := [.ref a24]) km_420 km_419 km_422 km_421 ⟨by decide, by decide, by decide +kernel⟩ ⟨Nat.le_of_ble_eq_true rfl, Nat.le_of_ble_eq_true rfl⟩ rfl hl.1 rfl (Nat.le_of_ble_eq_true rfl) dd_M_read_186 ⟨Nat.le_refl _, Nat.le_refl _⟩) (fun x27 hw => ?_)
          obtain ⟨k28, k28i, hw⟩ := hw
          refine px_lald C0 hG k28 k28i dd_M_read_189 ?_
          have hl0 := hl
          clear hl
          refine lv_lstore_n (lv' := [(3, .long (hJ h a24 x27.toNatClampNeg)), (5, .int (hI h a18 x21.toNatClampNeg)), (0, .ref v0), (1, .int v1), (2, .int v2), (6, .int v6)]) hx hb dd_M_read_190 rfl hl0 (by decide) rfl (fun ls hl => ?_)
          exact wk_M_read_191 C0 hr hlk ih _ _ _ _ _ _ _ _ _ _ hw hG hS (lv_sub hl [2, 3, 4, 0, 1, 5] rfl)
        · replace hw := hw.2 c16
          refine lv_goto (tgt := 191) hx hb dd_M_read_163 (by decide) ?_
          exact wk_M_read_191 C0 hr hlk ih _ _ _ _ _ _ _ _ _ _ hw hG hS (lv_sub hl [0, 1, 2, 3, 4, 5] rfl)
def wp_M_read_61 (g : Gm) (post : Int64 → Hp → Prop) (h : Hp) (v0 : Nat) (v1 : Int32) (v2 : Int32) (s0 : Nat) (s1 : Int32) : Prop := hK h s0 = 5 ∧ ∀ h2 : Hp, h2 = sI h s0 0 s1 → hK h2 v0 = 5 ∧ (((hI h2 v0 0) ≤ 0 → hK h2 v0 = 5 ∧ ∃ a6 : Nat, hR h2 v0 12 = some a6 ∧ wp_M_of g (fun x9 => hK h2 a6 = 23 ∧ vp_in x9 (hN h2 a6) ∧ (((hI h2 a6 x9.toNatClampNeg) = 0 → hK h2 v0 = 5 ∧ ∃ a13 : Nat, hR h2 v0 1 = some a13 ∧ hK h2 a13 = 22 ∧ vp_in v2 (hN h2 a13) ∧ hK h2 v0 = 5 ∧ ∃ a16 : Nat, hR h2 v0 9 = some a16 ∧ wp_M_of g (fun x19 => hK h2 a16 = 21 ∧ vp_in x19 (hN h2 a16) ∧ ((¬ (hI h2 a16 x19.toNatClampNeg) = (-1) → wp_M_read_197 g post h2 v0 v1 v2 (hJ h2 a13 v2.toNatClampNeg)) ∧ ((hI h2 a16 x19.toNatClampNeg) = (-1) → ∃ n : Nat, wp_M_read_124 g post n h2 v0 v1 v2 (hJ h2 a13 v2.toNatClampNeg) 0 1))) h2 v1 v2) ∧ (¬ (hI h2 a6 x9.toNatClampNeg) = 0 → hK h2 v0 = 5 ∧ ∃ a23 : Nat, hR h2 v0 13 = some a23 ∧ wp_M_of g (fun x26 => hK h2 a23 = 22 ∧ vp_in x26 (hN h2 a23) ∧ post (hJ h2 a23 x26.toNatClampNeg) h2) h2 v1 v2))) h2 v1 v2) ∧ (¬ (hI h2 v0 0) ≤ 0 → post 0 h2))
set_option maxHeartbeats 4000000 in
set_option maxRecDepth 100000 in
theorem wk_M_read_61 {p : Program} {l : Launch} {e : Env} {s : State} {m : MethodId} {args : Array Value} {below : List Frame} {meth : Method} {c : Code} {g : Gm} {post : Int64 → Hp → Prop} (C0 : Cx g p s m args c prog_6_method_24_code 7 "SegmentLocksModel") (hr : meth.sig.returnType = (some .long)) (hlk : meth.locks = false) : ∀ (h : Hp) (v0 : Nat) (v1 : Int32) (v2 : Int32) (s0 : Nat) (s1 : Int32) (H : Heap) (locs : List Loc) (ls : Array Slot), wp_M_read_61 g post h v0 v1 v2 s0 s1 → GH g h H → va_S (gA g) s.heap H locs → lv_has ls 7 [(0, .ref v0), (1, .int v1), (2, .int v2)] → W p l e (rmm 1 21 0 0) s m args below meth c H locs 0 0 (MQ below (va_Ql post (gS g) (gA g)) args s 0 0 (gA g)) (F0 m 61 ls [.int s1, .ref s0]) := by
  obtain ⟨hx, hb, -, hown, hts, hgk⟩ := id C0
  intro h v0 v1 v2 s0 s1 H locs ls hw hG hS hl
  unfold wp_M_read_61 at hw
  obtain ⟨k1, hw⟩ := hw
  refine pf_M_72 C0 hG hS k1 dd_M_read_61 (fun H locs hG hS => ?_)
  replace hw := hw _ rfl
  generalize sI h s0 0 s1 = h2 at hw hG
  refine lv_aload_n hx hb dd_M_read_64 rfl (lv_at hl 0 rfl) ?_
  obtain ⟨k3, hw⟩ := hw
  refine gf_M_72 C0 hG k3 dd_M_read_65 ?_
  refine lv_if_le (tgt := 73) hx hb dd_M_read_68 (by decide) (fun c4 => ?_) (fun c4 => ?_)
  · replace hw := hw.1 c4
    refine lv_aload_n hx hb dd_M_read_73 rfl (lv_at hl 0 rfl) ?_
    obtain ⟨k5, a6, ea6, hw⟩ := hw
    refine gf_M_39 C0 hG k5 ea6 dd_M_read_74 ?_
    refine lv_iload_n hx hb dd_M_read_77 rfl (lv_at hl 1 rfl) ?_
    refine lv_iload_n hx hb dd_M_read_78 rfl (lv_at hl 2 rfl) ?_
    have hw0 := hw
    clear hw
    refine cs_i (rn_S C0 hG hS (c_M_of l g _ h2 v1 v2 hw0) (host := "") (nest := false) (n := 2) (As := [.int v1, .int v2]) (rest := [.ref a6]) km_420 km_419 km_422 km_421 ⟨by decide, by decide, by decide +kernel⟩ ⟨Nat.le_of_ble_eq_true rfl, Nat.le_of_ble_eq_true rfl⟩ rfl hl.1 rfl (Nat.le_of_ble_eq_true rfl) dd_M_read_79 ⟨Nat.le_refl _, Nat.le_refl _⟩) (fun x9 hw => ?_)
    obtain ⟨k10, k10i, hw⟩ := hw
    refine px_zald C0 hG k10 k10i dd_M_read_82 ?_
    refine lv_if_eq (tgt := 97) hx hb dd_M_read_83 (by decide) (fun c11 => ?_) (fun c11 => ?_)
    · replace hw := hw.1 c11
      refine lv_aload_n hx hb dd_M_read_97 rfl (lv_at hl 0 rfl) ?_
      obtain ⟨k12, a13, ea13, hw⟩ := hw
      refine gf_M_7 C0 hG k12 ea13 dd_M_read_98 ?_
      refine lv_iload_n hx hb dd_M_read_101 rfl (lv_at hl 2 rfl) ?_
      obtain ⟨k14, k14i, hw⟩ := hw
      refine px_lald C0 hG k14 k14i dd_M_read_102 ?_
      have hl0 := hl
      clear hl
      refine lv_lstore_n (lv' := [(3, .long (hJ h2 a13 v2.toNatClampNeg)), (0, .ref v0), (1, .int v1), (2, .int v2)]) hx hb dd_M_read_103 rfl hl0 (by decide) rfl (fun ls hl => ?_)
      refine lv_aload_n hx hb dd_M_read_104 rfl (lv_at hl 1 rfl) ?_
      obtain ⟨k15, a16, ea16, hw⟩ := hw
      refine gf_M_29 C0 hG k15 ea16 dd_M_read_105 ?_
      refine lv_iload_n hx hb dd_M_read_108 rfl (lv_at hl 2 rfl) ?_
      refine lv_iload_n hx hb dd_M_read_109 rfl (lv_at hl 3 rfl) ?_
      have hw0 := hw
      clear hw
      refine cs_i (rn_S C0 hG hS (c_M_of l g _ h2 v1 v2 hw0) (host := "") (nest := false) (n := 2) (As := [.int v1, .int v2]) (rest := [.ref a16]) km_420 km_419 km_422 km_421 ⟨by decide, by decide, by decide +kernel⟩ ⟨Nat.le_of_ble_eq_true rfl, Nat.le_of_ble_eq_true rfl⟩ rfl hl.1 rfl (Nat.le_of_ble_eq_true rfl) dd_M_read_110 ⟨Nat.le_refl _, Nat.le_refl _⟩) (fun x19 hw => ?_)
      obtain ⟨k20, k20i, hw⟩ := hw
      refine px_iald C0 hG k20 k20i dd_M_read_113 ?_
      refine lv_iconst (v := (-1)) hx hb dd_M_read_114 (by decide) ?_
      refine lv_icmp_ne (tgt := 197) hx hb dd_M_read_115 (by decide) (fun c21 => ?_) (fun c21 => ?_)
      · replace hw := hw.1 c21
        exact wk_M_read_197 C0 hr hlk _ _ _ _ _ _ _ _ hw hG hS (lv_sub hl [1, 2, 3, 0] rfl)
      · replace hw := hw.2 c21
        refine lv_iconst (v := 0) hx hb dd_M_read_118 (by decide) ?_
        have hl0 := hl
        clear hl
        refine lv_istore (lv' := [(5, .int 0), (3, .long (hJ h2 a13 v2.toNatClampNeg)), (0, .ref v0), (1, .int v1), (2, .int v2)]) hx hb dd_M_read_119 hl0 (by decide) rfl (fun ls hl => ?_)
        refine lv_iconst (v := 1) hx hb dd_M_read_121 (by decide) ?_
        have hl0 := hl
        clear hl
        refine lv_istore (lv' := [(6, .int 1), (5, .int 0), (3, .long (hJ h2 a13 v2.toNatClampNeg)), (0, .ref v0), (1, .int v1), (2, .int v2)]) hx hb dd_M_read_122 hl0 (by decide) rfl (fun ls hl => ?_)
        obtain ⟨n, hw⟩ := hw
        exact wk_M_read_124 C0 hr hlk n _ _ _ _ _ _ _ _ _ _ hw hG hS (lv_sub hl [3, 4, 5, 2, 1, 0] rfl)
    · replace hw := hw.2 c11
      refine lv_aload_n hx hb dd_M_read_86 rfl (lv_at hl 0 rfl) ?_
      obtain ⟨k22, a23, ea23, hw⟩ := hw
      refine gf_M_42 C0 hG k22 ea23 dd_M_read_87 ?_
      refine lv_iload_n hx hb dd_M_read_90 rfl (lv_at hl 1 rfl) ?_
      refine lv_iload_n hx hb dd_M_read_91 rfl (lv_at hl 2 rfl) ?_
      have hw0 := hw
      clear hw
      refine cs_i (rn_S C0 hG hS (c_M_of l g _ h2 v1 v2 hw0) (host := "") (nest := false) (n := 2) (As := [.int v1, .int v2]) (rest := [.ref a23]) km_420 km_419 km_422 km_421 ⟨by decide, by decide, by decide +kernel⟩ ⟨Nat.le_of_ble_eq_true rfl, Nat.le_of_ble_eq_true rfl⟩ rfl hl.1 rfl (Nat.le_of_ble_eq_true rfl) dd_M_read_92 ⟨Nat.le_refl _, Nat.le_refl _⟩) (fun x26 hw => ?_)
      obtain ⟨k27, k27i, hw⟩ := hw
      refine px_lald C0 hG k27 k27i dd_M_read_95 ?_
      exact re_l C0 hG hS hr hlk ⟨Nat.le_refl _, Nat.le_refl _⟩ hw dd_M_read_96
  · replace hw := hw.2 c4
    refine lv_lconst (v := 0) hx hb dd_M_read_71 (by decide) ?_
    exact re_l C0 hG hS hr hlk ⟨Nat.le_refl _, Nat.le_refl _⟩ hw dd_M_read_72
def wp_M_read_16 (g : Gm) (post : Int64 → Hp → Prop) (h : Hp) (v0 : Nat) (v1 : Int32) (v2 : Int32) (s0 : Nat) : Prop := wp_M_read_61 g post h v0 v1 v2 s0 1
set_option maxHeartbeats 4000000 in
set_option maxRecDepth 100000 in
theorem wk_M_read_16 {p : Program} {l : Launch} {e : Env} {s : State} {m : MethodId} {args : Array Value} {below : List Frame} {meth : Method} {c : Code} {g : Gm} {post : Int64 → Hp → Prop} (C0 : Cx g p s m args c prog_6_method_24_code 7 "SegmentLocksModel") (hr : meth.sig.returnType = (some .long)) (hlk : meth.locks = false) : ∀ (h : Hp) (v0 : Nat) (v1 : Int32) (v2 : Int32) (s0 : Nat) (H : Heap) (locs : List Loc) (ls : Array Slot), wp_M_read_16 g post h v0 v1 v2 s0 → GH g h H → va_S (gA g) s.heap H locs → lv_has ls 7 [(0, .ref v0), (1, .int v1), (2, .int v2)] → W p l e (rmm 1 21 0 0) s m args below meth c H locs 0 0 (MQ below (va_Ql post (gS g) (gA g)) args s 0 0 (gA g)) (F0 m 16 ls [.ref s0]) := by
  obtain ⟨hx, hb, -, hown, hts, hgk⟩ := id C0
  intro h v0 v1 v2 s0 H locs ls hw hG hS hl
  unfold wp_M_read_16 at hw
  refine lv_iconst (v := 1) hx hb dd_M_read_16 (by decide) ?_
  refine lv_goto (tgt := 61) hx hb dd_M_read_17 (by decide) ?_
  exact wk_M_read_61 C0 hr hlk _ _ _ _ _ _ _ _ _ hw hG hS (lv_sub hl [0, 1, 2] rfl)
def wp_M_read_56 (g : Gm) (post : Int64 → Hp → Prop) (h : Hp) (v0 : Nat) (v1 : Int32) (v2 : Int32) (s0 : Nat) : Prop := wp_M_read_61 g post h v0 v1 v2 s0 2
set_option maxHeartbeats 4000000 in
set_option maxRecDepth 100000 in
theorem wk_M_read_56 {p : Program} {l : Launch} {e : Env} {s : State} {m : MethodId} {args : Array Value} {below : List Frame} {meth : Method} {c : Code} {g : Gm} {post : Int64 → Hp → Prop} (C0 : Cx g p s m args c prog_6_method_24_code 7 "SegmentLocksModel") (hr : meth.sig.returnType = (some .long)) (hlk : meth.locks = false) : ∀ (h : Hp) (v0 : Nat) (v1 : Int32) (v2 : Int32) (s0 : Nat) (H : Heap) (locs : List Loc) (ls : Array Slot), wp_M_read_56 g post h v0 v1 v2 s0 → GH g h H → va_S (gA g) s.heap H locs → lv_has ls 7 [(0, .ref v0), (1, .int v1), (2, .int v2)] → W p l e (rmm 1 21 0 0) s m args below meth c H locs 0 0 (MQ below (va_Ql post (gS g) (gA g)) args s 0 0 (gA g)) (F0 m 56 ls [.ref s0]) := by
  obtain ⟨hx, hb, -, hown, hts, hgk⟩ := id C0
  intro h v0 v1 v2 s0 H locs ls hw hG hS hl
  unfold wp_M_read_56 at hw
  refine lv_iconst (v := 2) hx hb dd_M_read_56 (by decide) ?_
  refine lv_goto (tgt := 61) hx hb dd_M_read_57 (by decide) ?_
  exact wk_M_read_61 C0 hr hlk _ _ _ _ _ _ _ _ _ hw hG hS (lv_sub hl [0, 1, 2] rfl)
def wp_M_read_60 (g : Gm) (post : Int64 → Hp → Prop) (h : Hp) (v0 : Nat) (v1 : Int32) (v2 : Int32) (s0 : Nat) : Prop := wp_M_read_61 g post h v0 v1 v2 s0 0
set_option maxHeartbeats 4000000 in
set_option maxRecDepth 100000 in
theorem wk_M_read_60 {p : Program} {l : Launch} {e : Env} {s : State} {m : MethodId} {args : Array Value} {below : List Frame} {meth : Method} {c : Code} {g : Gm} {post : Int64 → Hp → Prop} (C0 : Cx g p s m args c prog_6_method_24_code 7 "SegmentLocksModel") (hr : meth.sig.returnType = (some .long)) (hlk : meth.locks = false) : ∀ (h : Hp) (v0 : Nat) (v1 : Int32) (v2 : Int32) (s0 : Nat) (H : Heap) (locs : List Loc) (ls : Array Slot), wp_M_read_60 g post h v0 v1 v2 s0 → GH g h H → va_S (gA g) s.heap H locs → lv_has ls 7 [(0, .ref v0), (1, .int v1), (2, .int v2)] → W p l e (rmm 1 21 0 0) s m args below meth c H locs 0 0 (MQ below (va_Ql post (gS g) (gA g)) args s 0 0 (gA g)) (F0 m 60 ls [.ref s0]) := by
  obtain ⟨hx, hb, -, hown, hts, hgk⟩ := id C0
  intro h v0 v1 v2 s0 H locs ls hw hG hS hl
  unfold wp_M_read_60 at hw
  refine lv_iconst (v := 0) hx hb dd_M_read_60 (by decide) ?_
  exact wk_M_read_61 C0 hr hlk _ _ _ _ _ _ _ _ _ hw hG hS (lv_sub hl [0, 1, 2] rfl)
def wp_M_read (g : Gm) (post : Int64 → Hp → Prop) (h : Hp) (a0 : Nat) (i1 : Int32) (i2 : Int32) : Prop := hK h a0 = 5 ∧ wp_M_isTask g (fun x3 => ((x3 = 0 → wp_M_read_16 g post h a0 i1 i2 a0) ∧ (¬ x3 = 0 → wp_M_isSegment g (fun x7 => ((¬ x7 = 0 → hK h a0 = 5 ∧ ∃ a10 : Nat, hR h a0 5 = some a10 ∧ hK h a10 = 21 ∧ vp_in i1 (hN h a10) ∧ ((¬ (hI h a10 i1.toNatClampNeg) = 0 → wp_M_read_56 g post h a0 i1 i2 a0) ∧ ((hI h a10 i1.toNatClampNeg) = 0 → hK h a0 = 5 ∧ ∃ a14 : Nat, hR h a0 9 = some a14 ∧ wp_M_of g (fun x17 => hK h a14 = 21 ∧ vp_in x17 (hN h a14) ∧ ((¬ (hI h a14 x17.toNatClampNeg) = (-1) → wp_M_read_60 g post h a0 i1 i2 a0) ∧ ((hI h a14 x17.toNatClampNeg) = (-1) → hK h a0 = 5 ∧ ∃ a21 : Nat, hR h a0 11 = some a21 ∧ wp_M_of g (fun x24 => hK h a21 = 23 ∧ vp_in x24 (hN h a21) ∧ ((¬ (hI h a21 x24.toNatClampNeg) = 0 → wp_M_read_60 g post h a0 i1 i2 a0) ∧ ((hI h a21 x24.toNatClampNeg) = 0 → wp_M_read_56 g post h a0 i1 i2 a0))) h i1 i2))) h i1 i2))) ∧ (x7 = 0 → wp_M_read_16 g post h a0 i1 i2 a0))) h i2))) h a0 i1
set_option maxHeartbeats 4000000 in
set_option maxRecDepth 100000 in
theorem c_M_read (l : Launch) (g : Gm) (post : Int64 → Hp → Prop) (h : Hp) (a0 : Nat) (i1 : Int32) (i2 : Int32) (hw : wp_M_read g post h a0 i1 i2) : Met l (⟨"SegmentLocksModel", "read", "(II)J"⟩ : MethodName) (ww (⟨"SegmentLocksModel", "read", "(II)J"⟩ : MethodName) prog_6_method_24_code 7 (some .long)) (rmm 1 21 0 0) (va_Pc [.ref a0, .int i1, .int i2] (gS g h)) (va_Ql post (gS g) (gA g)) 0 0 (gA g) := by
  first | refine en_met (by decide) ?_ | refine en_metF (by decide) ?_
  intro p e s m below meth c C0 hr hlk hin hG
  have hS : va_S (gA g) s.heap s.heap [] := va_S.rf
  have hl := lv_entry ([.ref a0, .int i1, .int i2]) (n := 7) (Nat.le_of_ble_eq_true rfl)
  rw [lg_entry_eq]
  generalize (lg_sl ([.ref a0, .int i1, .int i2]) ++ List.replicate (7 - (lg_sl ([.ref a0, .int i1, .int i2])).length) Slot.unset).toArray = ls at hl ⊢
  replace hl : lv_has ls 7 [(0, .ref a0), (1, .int i1), (2, .int i2)] := hl
  obtain ⟨hx, hb, -, hown, hts, hgk⟩ := id C0
  unfold wp_M_read at hw
  refine lv_aload_n hx hb dd_M_read_0 rfl (lv_at hl 0 rfl) ?_
  refine lv_aload_n hx hb dd_M_read_1 rfl (lv_at hl 0 rfl) ?_
  refine lv_iload_n hx hb dd_M_read_2 rfl (lv_at hl 1 rfl) ?_
  obtain ⟨k1, hw⟩ := hw
  have hw0 := hw
  clear hw
  refine cs_i (rn_V C0 hG hS (c_M_isTask l g _ h a0 i1 hw0) (ci := 4) k1 (by decide) rfl rfl (host := "") (nest := false) (n := 1) (As := [.int i1]) (rest := [.ref a0]) km_481 km_480 km_482 km_483 km_421 ⟨by decide, by decide, by decide +kernel⟩ ⟨Nat.le_of_ble_eq_true rfl, Nat.le_of_ble_eq_true rfl⟩ rfl hl.1 rfl (Nat.le_of_ble_eq_true rfl) dd_M_read_3 ⟨Nat.le_refl _, Nat.le_refl _⟩) (fun x3 hw => ?_)
  refine lv_if_eq (tgt := 16) hx hb dd_M_read_6 (by decide) (fun c4 => ?_) (fun c4 => ?_)
  · replace hw := hw.1 c4
    exact wk_M_read_16 C0 hr hlk _ _ _ _ _ _ _ _ hw hG hS (lv_sub hl [0, 1, 2] rfl)
  · replace hw := hw.2 c4
    refine lv_iload_n hx hb dd_M_read_9 rfl (lv_at hl 2 rfl) ?_
    have hw0 := hw
    clear hw
    refine cs_i (rn_S C0 hG hS (c_M_isSegment l g _ h i2 hw0) (host := "") (nest := false) (n := 1) (As := [.int i2]) (rest := [.ref a0]) km_478 km_477 km_479 km_421 ⟨by decide, by decide, by decide +kernel⟩ ⟨Nat.le_of_ble_eq_true rfl, Nat.le_of_ble_eq_true rfl⟩ rfl hl.1 rfl (Nat.le_of_ble_eq_true rfl) dd_M_read_10 ⟨Nat.le_refl _, Nat.le_refl _⟩) (fun x7 hw => ?_)
    refine lv_if_ne (tgt := 20) hx hb dd_M_read_13 (by decide) (fun c8 => ?_) (fun c8 => ?_)
    · replace hw := hw.1 c8
      refine lv_aload_n hx hb dd_M_read_20 rfl (lv_at hl 0 rfl) ?_
      obtain ⟨k9, a10, ea10, hw⟩ := hw
      refine gf_M_17 C0 hG k9 ea10 dd_M_read_21 ?_
      refine lv_iload_n hx hb dd_M_read_24 rfl (lv_at hl 1 rfl) ?_
      obtain ⟨k11, k11i, hw⟩ := hw
      refine px_iald C0 hG k11 k11i dd_M_read_25 ?_
      refine lv_if_ne (tgt := 56) hx hb dd_M_read_26 (by decide) (fun c12 => ?_) (fun c12 => ?_)
      · replace hw := hw.1 c12
        exact wk_M_read_56 C0 hr hlk _ _ _ _ _ _ _ _ hw hG hS (lv_sub hl [0, 1, 2] rfl)
      · replace hw := hw.2 c12
        refine lv_aload_n hx hb dd_M_read_29 rfl (lv_at hl 0 rfl) ?_
        obtain ⟨k13, a14, ea14, hw⟩ := hw
        refine gf_M_29 C0 hG k13 ea14 dd_M_read_30 ?_
        refine lv_iload_n hx hb dd_M_read_33 rfl (lv_at hl 1 rfl) ?_
        refine lv_iload_n hx hb dd_M_read_34 rfl (lv_at hl 2 rfl) ?_
        have hw0 := hw
        clear hw
        refine cs_i (rn_S C0 hG hS (c_M_of l g _ h i1 i2 hw0) (host := "") (nest := false) (n := 2) (As := [.int i1, .int i2]) (rest := [.ref a14, .ref a0]) km_420 km_419 km_422 km_421 ⟨by decide, by decide, by decide +kernel⟩ ⟨Nat.le_of_ble_eq_true rfl, Nat.le_of_ble_eq_true rfl⟩ rfl hl.1 rfl (Nat.le_of_ble_eq_true rfl) dd_M_read_35 ⟨Nat.le_refl _, Nat.le_refl _⟩) (fun x17 hw => ?_)
        obtain ⟨k18, k18i, hw⟩ := hw
        refine px_iald C0 hG k18 k18i dd_M_read_38 ?_
        refine lv_iconst (v := (-1)) hx hb dd_M_read_39 (by decide) ?_
        refine lv_icmp_ne (tgt := 60) hx hb dd_M_read_40 (by decide) (fun c19 => ?_) (fun c19 => ?_)
        · replace hw := hw.1 c19
          exact wk_M_read_60 C0 hr hlk _ _ _ _ _ _ _ _ hw hG hS (lv_sub hl [0, 1, 2] rfl)
        · replace hw := hw.2 c19
          refine lv_aload_n hx hb dd_M_read_43 rfl (lv_at hl 0 rfl) ?_
          obtain ⟨k20, a21, ea21, hw⟩ := hw
          refine gf_M_35 C0 hG k20 ea21 dd_M_read_44 ?_
          refine lv_iload_n hx hb dd_M_read_47 rfl (lv_at hl 1 rfl) ?_
          refine lv_iload_n hx hb dd_M_read_48 rfl (lv_at hl 2 rfl) ?_
          have hw0 := hw
          clear hw
          refine cs_i (rn_S C0 hG hS (c_M_of l g _ h i1 i2 hw0) (host := "") (nest := false) (n := 2) (As := [.int i1, .int i2]) (rest := [.ref a21, .ref a0]) km_420 km_419 km_422 km_421 ⟨by decide, by decide, by decide +kernel⟩ ⟨Nat.le_of_ble_eq_true rfl, Nat.le_of_ble_eq_true rfl⟩ rfl hl.1 rfl (Nat.le_of_ble_eq_true rfl) dd_M_read_49 ⟨Nat.le_refl _, Nat.le_refl _⟩) (fun x24 hw => ?_)
          obtain ⟨k25, k25i, hw⟩ := hw
          refine px_zald C0 hG k25 k25i dd_M_read_52 ?_
          refine lv_if_ne (tgt := 60) hx hb dd_M_read_53 (by decide) (fun c26 => ?_) (fun c26 => ?_)
          · replace hw := hw.1 c26
            exact wk_M_read_60 C0 hr hlk _ _ _ _ _ _ _ _ hw hG hS (lv_sub hl [0, 1, 2] rfl)
          · replace hw := hw.2 c26
            exact wk_M_read_56 C0 hr hlk _ _ _ _ _ _ _ _ hw hG hS (lv_sub hl [0, 1, 2] rfl)
    · replace hw := hw.2 c8
      exact wk_M_read_16 C0 hr hlk _ _ _ _ _ _ _ _ hw hG hS (lv_sub hl [0, 1, 2] rfl)
/-! SegmentLocksModel.refusal(I)I -/
theorem dd_M_refusal_0 : decode prog_6_method_22_code 0 = .ok (.aload_n 0, 1) := by decide +kernel
theorem dd_M_refusal_1 : decode prog_6_method_22_code 1 = .ok (.iload_n 1, 1) := by decide +kernel
theorem dd_M_refusal_2 : decode prog_6_method_22_code 2 = .ok (.invokevirtual 120, 3) := by decide +kernel
theorem dd_M_refusal_5 : decode prog_6_method_22_code 5 = .ok (.ifCond .ne 8, 3) := by decide +kernel
theorem dd_M_refusal_8 : decode prog_6_method_22_code 8 = .ok (.bipush (-2), 2) := by decide +kernel
theorem dd_M_refusal_10 : decode prog_6_method_22_code 10 = .ok (.goto 18, 3) := by decide +kernel
theorem dd_M_refusal_13 : decode prog_6_method_22_code 13 = .ok (.aload_n 0, 1) := by decide +kernel
theorem dd_M_refusal_14 : decode prog_6_method_22_code 14 = .ok (.getfield 17, 3) := by decide +kernel
theorem dd_M_refusal_17 : decode prog_6_method_22_code 17 = .ok (.iload_n 1, 1) := by decide +kernel
theorem dd_M_refusal_18 : decode prog_6_method_22_code 18 = .ok (.iaload, 1) := by decide +kernel
theorem dd_M_refusal_19 : decode prog_6_method_22_code 19 = .ok (.ifCond .eq 8, 3) := by decide +kernel
theorem dd_M_refusal_22 : decode prog_6_method_22_code 22 = .ok (.bipush (-5), 2) := by decide +kernel
theorem dd_M_refusal_24 : decode prog_6_method_22_code 24 = .ok (.goto 4, 3) := by decide +kernel
theorem dd_M_refusal_27 : decode prog_6_method_22_code 27 = .ok (.iconst 0, 1) := by decide +kernel
theorem dd_M_refusal_28 : decode prog_6_method_22_code 28 = .ok (.ireturn, 1) := by decide +kernel
def wp_M_refusal_28 (g : Gm) (post : Int32 → Prop) (h : Hp) (s0 : Int32) : Prop := post s0
set_option maxHeartbeats 4000000 in
set_option maxRecDepth 100000 in
theorem wk_M_refusal_28 {p : Program} {l : Launch} {e : Env} {s : State} {m : MethodId} {args : Array Value} {below : List Frame} {meth : Method} {c : Code} {g : Gm} {post : Int32 → Prop} (C0 : Cx g p s m args c prog_6_method_22_code 2 "SegmentLocksModel") (hr : meth.sig.returnType = (some .int)) (hlk : meth.locks = false) : ∀ (h : Hp) (s0 : Int32) (ls : Array Slot), wp_M_refusal_28 g post h s0 → GH g h s.heap → lv_has ls 2 [] → W p l e (rmm 1 21 0 0) s m args below meth c s.heap [] 0 0 (MQ below (vp_Si post) args s 0 0 (fun _ => False)) (F0 m 28 ls [.int s0]) := by
  obtain ⟨hx, hb, -, hown, hts, hgk⟩ := id C0
  have hS : va_S (gA g) s.heap s.heap [] := va_S.rf
  intro h s0 ls hw hG hl
  unfold wp_M_refusal_28 at hw
  exact rs_i C0 hr hlk hw dd_M_refusal_28
def wp_M_refusal (g : Gm) (post : Int32 → Prop) (h : Hp) (a0 : Nat) (i1 : Int32) : Prop := hK h a0 = 5 ∧ wp_M_isTask g (fun x3 => ((¬ x3 = 0 → hK h a0 = 5 ∧ ∃ a6 : Nat, hR h a0 5 = some a6 ∧ hK h a6 = 21 ∧ vp_in i1 (hN h a6) ∧ (((hI h a6 i1.toNatClampNeg) = 0 → wp_M_refusal_28 g post h 0) ∧ (¬ (hI h a6 i1.toNatClampNeg) = 0 → wp_M_refusal_28 g post h (-5)))) ∧ (x3 = 0 → wp_M_refusal_28 g post h (-2)))) h a0 i1
set_option maxHeartbeats 4000000 in
set_option maxRecDepth 100000 in
theorem c_M_refusal (l : Launch) (g : Gm) (post : Int32 → Prop) (h : Hp) (a0 : Nat) (i1 : Int32) (hw : wp_M_refusal g post h a0 i1) : Met l (⟨"SegmentLocksModel", "refusal", "(I)I"⟩ : MethodName) (ww (⟨"SegmentLocksModel", "refusal", "(I)I"⟩ : MethodName) prog_6_method_22_code 2 (some .int)) (rmm 1 21 0 0) (va_Pc [.ref a0, .int i1] (gS g h)) (vp_Si post) 0 0 (fun _ => False) := by
  first | refine en_met (by decide) ?_ | refine en_metF (by decide) ?_
  intro p e s m below meth c C0 hr hlk hin hG
  have hS : va_S (gA g) s.heap s.heap [] := va_S.rf
  have hl := lv_entry ([.ref a0, .int i1]) (n := 2) (Nat.le_of_ble_eq_true rfl)
  rw [lg_entry_eq]
  generalize (lg_sl ([.ref a0, .int i1]) ++ List.replicate (2 - (lg_sl ([.ref a0, .int i1])).length) Slot.unset).toArray = ls at hl ⊢
  replace hl : lv_has ls 2 [(0, .ref a0), (1, .int i1)] := hl
  obtain ⟨hx, hb, -, hown, hts, hgk⟩ := id C0
  unfold wp_M_refusal at hw
  refine lv_aload_n hx hb dd_M_refusal_0 rfl (lv_at hl 0 rfl) ?_
  refine lv_iload_n hx hb dd_M_refusal_1 rfl (lv_at hl 1 rfl) ?_
  obtain ⟨k1, hw⟩ := hw
  have hw0 := hw
  clear hw
  refine cs_i (rn_V C0 hG hS (c_M_isTask l g _ h a0 i1 hw0) (ci := 4) k1 (by decide) rfl rfl (host := "") (nest := false) (n := 1) (As := [.int i1]) (rest := []) km_481 km_480 km_482 km_483 km_421 ⟨by decide, by decide, by decide +kernel⟩ ⟨Nat.le_of_ble_eq_true rfl, Nat.le_of_ble_eq_true rfl⟩ rfl hl.1 rfl (Nat.le_of_ble_eq_true rfl) dd_M_refusal_2 ⟨Nat.le_refl _, Nat.le_refl _⟩) (fun x3 hw => ?_)
  refine lv_if_ne (tgt := 13) hx hb dd_M_refusal_5 (by decide) (fun c4 => ?_) (fun c4 => ?_)
  · replace hw := hw.1 c4
    refine lv_aload_n hx hb dd_M_refusal_13 rfl (lv_at hl 0 rfl) ?_
    obtain ⟨k5, a6, ea6, hw⟩ := hw
    refine gf_M_17 C0 hG k5 ea6 dd_M_refusal_14 ?_
    refine lv_iload_n hx hb dd_M_refusal_17 rfl (lv_at hl 1 rfl) ?_
    obtain ⟨k7, k7i, hw⟩ := hw
    refine px_iald C0 hG k7 k7i dd_M_refusal_18 ?_
    refine lv_if_eq (tgt := 27) hx hb dd_M_refusal_19 (by decide) (fun c8 => ?_) (fun c8 => ?_)
    · replace hw := hw.1 c8
      refine lv_iconst (v := 0) hx hb dd_M_refusal_27 (by decide) ?_
      exact wk_M_refusal_28 C0 hr hlk _ _ _ hw hG (lv_sub hl [] rfl)
    · replace hw := hw.2 c8
      refine lv_bipush (v := (-5)) hx hb dd_M_refusal_22 (by decide) ?_
      refine lv_goto (tgt := 28) hx hb dd_M_refusal_24 (by decide) ?_
      exact wk_M_refusal_28 C0 hr hlk _ _ _ hw hG (lv_sub hl [] rfl)
  · replace hw := hw.2 c4
    refine lv_bipush (v := (-2)) hx hb dd_M_refusal_8 (by decide) ?_
    refine lv_goto (tgt := 28) hx hb dd_M_refusal_10 (by decide) ?_
    exact wk_M_refusal_28 C0 hr hlk _ _ _ hw hG (lv_sub hl [] rfl)
/-! SegmentLocksModel.writesOf(I)I -/
theorem dd_M_writesOf_0 : decode prog_6_method_10_code 0 = .ok (.iconst 0, 1) := by decide +kernel
theorem dd_M_writesOf_1 : decode prog_6_method_10_code 1 = .ok (.istore_n 2, 1) := by decide +kernel
theorem dd_M_writesOf_2 : decode prog_6_method_10_code 2 = .ok (.iconst 0, 1) := by decide +kernel
theorem dd_M_writesOf_3 : decode prog_6_method_10_code 3 = .ok (.istore_n 3, 1) := by decide +kernel
theorem dd_M_writesOf_4 : decode prog_6_method_10_code 4 = .ok (.iload_n 3, 1) := by decide +kernel
theorem dd_M_writesOf_5 : decode prog_6_method_10_code 5 = .ok (.bipush 50, 2) := by decide +kernel
theorem dd_M_writesOf_7 : decode prog_6_method_10_code 7 = .ok (.if_icmp .ge 30, 3) := by decide +kernel
theorem dd_M_writesOf_10 : decode prog_6_method_10_code 10 = .ok (.iload_n 2, 1) := by decide +kernel
theorem dd_M_writesOf_11 : decode prog_6_method_10_code 11 = .ok (.aload_n 0, 1) := by decide +kernel
theorem dd_M_writesOf_12 : decode prog_6_method_10_code 12 = .ok (.getfield 39, 3) := by decide +kernel
theorem dd_M_writesOf_15 : decode prog_6_method_10_code 15 = .ok (.iload_n 1, 1) := by decide +kernel
theorem dd_M_writesOf_16 : decode prog_6_method_10_code 16 = .ok (.iload_n 3, 1) := by decide +kernel
theorem dd_M_writesOf_17 : decode prog_6_method_10_code 17 = .ok (.invokestatic 79, 3) := by decide +kernel
theorem dd_M_writesOf_20 : decode prog_6_method_10_code 20 = .ok (.baload, 1) := by decide +kernel
theorem dd_M_writesOf_21 : decode prog_6_method_10_code 21 = .ok (.ifCond .eq 7, 3) := by decide +kernel
theorem dd_M_writesOf_24 : decode prog_6_method_10_code 24 = .ok (.iconst 1, 1) := by decide +kernel
theorem dd_M_writesOf_25 : decode prog_6_method_10_code 25 = .ok (.goto 4, 3) := by decide +kernel
theorem dd_M_writesOf_28 : decode prog_6_method_10_code 28 = .ok (.iconst 0, 1) := by decide +kernel
theorem dd_M_writesOf_29 : decode prog_6_method_10_code 29 = .ok (.iadd, 1) := by decide +kernel
theorem dd_M_writesOf_30 : decode prog_6_method_10_code 30 = .ok (.istore_n 2, 1) := by decide +kernel
theorem dd_M_writesOf_31 : decode prog_6_method_10_code 31 = .ok (.iinc 3 1, 3) := by decide +kernel
theorem dd_M_writesOf_34 : decode prog_6_method_10_code 34 = .ok (.goto (-30), 3) := by decide +kernel
theorem dd_M_writesOf_37 : decode prog_6_method_10_code 37 = .ok (.iload_n 2, 1) := by decide +kernel
theorem dd_M_writesOf_38 : decode prog_6_method_10_code 38 = .ok (.ireturn, 1) := by decide +kernel
def wp_M_writesOf_29 (g : Gm) (post : Int32 → Prop) (K4 : Hp → Nat → Int32 → Int32 → Int32 → Prop) (h : Hp) (v0 : Nat) (v1 : Int32) (v3 : Int32) (s0 : Int32) (s1 : Int32) : Prop := ∀ x1 : Int32, x1 = s0 + s1 → ∀ x2 : Int32, x2 = v3 + 1 → K4 h v0 v1 x1 x2
set_option maxHeartbeats 4000000 in
set_option maxRecDepth 100000 in
theorem wk_M_writesOf_29 {p : Program} {l : Launch} {e : Env} {s : State} {m : MethodId} {args : Array Value} {below : List Frame} {meth : Method} {c : Code} {g : Gm} {post : Int32 → Prop} (C0 : Cx g p s m args c prog_6_method_10_code 4 "SegmentLocksModel") (hr : meth.sig.returnType = (some .int)) (hlk : meth.locks = false) {K4 : Hp → Nat → Int32 → Int32 → Int32 → Prop} (hK4 : ∀ (h : Hp) (v0 : Nat) (v1 : Int32) (v2 : Int32) (v3 : Int32) (ls : Array Slot), K4 h v0 v1 v2 v3 → GH g h s.heap → lv_has ls 4 [(0, .ref v0), (1, .int v1), (2, .int v2), (3, .int v3)] → W p l e (rmm 1 21 0 0) s m args below meth c s.heap [] 0 0 (MQ below (vp_Si post) args s 0 0 (fun _ => False)) (F0 m 4 ls [])) : ∀ (h : Hp) (v0 : Nat) (v1 : Int32) (v3 : Int32) (s0 : Int32) (s1 : Int32) (ls : Array Slot), wp_M_writesOf_29 g post K4 h v0 v1 v3 s0 s1 → GH g h s.heap → lv_has ls 4 [(0, .ref v0), (1, .int v1), (3, .int v3)] → W p l e (rmm 1 21 0 0) s m args below meth c s.heap [] 0 0 (MQ below (vp_Si post) args s 0 0 (fun _ => False)) (F0 m 29 ls [.int s1, .int s0]) := by
  obtain ⟨hx, hb, -, hown, hts, hgk⟩ := id C0
  have hS : va_S (gA g) s.heap s.heap [] := va_S.rf
  intro h v0 v1 v3 s0 s1 ls hw hG hl
  unfold wp_M_writesOf_29 at hw
  refine lv_iadd hx hb dd_M_writesOf_29 ?_
  refine lv_topi (fun x1 ex1 => ?_)
  replace hw := hw x1 ex1
  have hl0 := hl
  clear hl
  refine lv_istore_n (lv' := [(2, .int x1), (0, .ref v0), (1, .int v1), (3, .int v3)]) hx hb dd_M_writesOf_30 rfl hl0 (by decide) rfl (fun ls hl => ?_)
  obtain ⟨x2, ex2⟩ : ∃ y : Int32, y = v3 + 1 := ⟨_, rfl⟩
  replace hw := hw x2 ex2
  have hl0 := hl
  clear hl
  refine lv_iinc (v := x2) (lv' := [(3, .int x2), (2, .int x1), (0, .ref v0), (1, .int v1)]) hx hb dd_M_writesOf_31 hl0 (k := 3) rfl (by rw [ex2]; rfl) (by decide) rfl (fun ls hl => ?_)
  refine lv_goto (tgt := 4) hx hb dd_M_writesOf_34 (by decide) ?_
  exact hK4 _ _ _ _ _ _ hw hG (lv_sub hl [2, 3, 1, 0] rfl)
def wp_M_writesOf_4 (g : Gm) (post : Int32 → Prop) : Nat → Hp → Nat → Int32 → Int32 → Int32 → Prop
  | 0, _, _, _, _, _ => False
  | fu + 1, h, v0, v1, v2, v3 => ((50 ≤ v3 → post v2) ∧ (¬ 50 ≤ v3 → hK h v0 = 5 ∧ ∃ a3 : Nat, hR h v0 12 = some a3 ∧ wp_M_of g (fun x6 => hK h a3 = 23 ∧ vp_in x6 (hN h a3) ∧ (((hI h a3 x6.toNatClampNeg) = 0 → wp_M_writesOf_29 g post (fun h v0 v1 v2 v3 => wp_M_writesOf_4 g post fu h v0 v1 v2 v3) h v0 v1 v3 v2 0) ∧ (¬ (hI h a3 x6.toNatClampNeg) = 0 → wp_M_writesOf_29 g post (fun h v0 v1 v2 v3 => wp_M_writesOf_4 g post fu h v0 v1 v2 v3) h v0 v1 v3 v2 1))) h v1 v3))
set_option maxHeartbeats 4000000 in
set_option maxRecDepth 100000 in
theorem wk_M_writesOf_4 {p : Program} {l : Launch} {e : Env} {s : State} {m : MethodId} {args : Array Value} {below : List Frame} {meth : Method} {c : Code} {g : Gm} {post : Int32 → Prop} (C0 : Cx g p s m args c prog_6_method_10_code 4 "SegmentLocksModel") (hr : meth.sig.returnType = (some .int)) (hlk : meth.locks = false) : ∀ n : Nat, ∀ (h : Hp) (v0 : Nat) (v1 : Int32) (v2 : Int32) (v3 : Int32) (ls : Array Slot), wp_M_writesOf_4 g post n h v0 v1 v2 v3 → GH g h s.heap → lv_has ls 4 [(0, .ref v0), (1, .int v1), (2, .int v2), (3, .int v3)] → W p l e (rmm 1 21 0 0) s m args below meth c s.heap [] 0 0 (MQ below (vp_Si post) args s 0 0 (fun _ => False)) (F0 m 4 ls []) := by
  obtain ⟨hx, hb, -, hown, hts, hgk⟩ := id C0
  have hS : va_S (gA g) s.heap s.heap [] := va_S.rf
  intro n
  induction n with
  | zero =>
    intro h v0 v1 v2 v3 ls hw hG hl
    exact hw.elim
  | succ n ih =>
    intro h v0 v1 v2 v3 ls hw hG hl
    unfold wp_M_writesOf_4 at hw
    refine lv_iload_n hx hb dd_M_writesOf_4 rfl (lv_at hl 3 rfl) ?_
    refine lv_bipush (v := 50) hx hb dd_M_writesOf_5 (by decide) ?_
    refine lv_icmp_ge (tgt := 37) hx hb dd_M_writesOf_7 (by decide) (fun c1 => ?_) (fun c1 => ?_)
    · replace hw := hw.1 c1
      refine lv_iload_n hx hb dd_M_writesOf_37 rfl (lv_at hl 2 rfl) ?_
      exact rs_i C0 hr hlk hw dd_M_writesOf_38
    · replace hw := hw.2 c1
      refine lv_iload_n hx hb dd_M_writesOf_10 rfl (lv_at hl 2 rfl) ?_
      refine lv_aload_n hx hb dd_M_writesOf_11 rfl (lv_at hl 0 rfl) ?_
      obtain ⟨k2, a3, ea3, hw⟩ := hw
      refine gf_M_39 C0 hG k2 ea3 dd_M_writesOf_12 ?_
      refine lv_iload_n hx hb dd_M_writesOf_15 rfl (lv_at hl 1 rfl) ?_
      refine lv_iload_n hx hb dd_M_writesOf_16 rfl (lv_at hl 3 rfl) ?_
      have hw0 := hw
      clear hw
      refine cs_i (rn_S C0 hG hS (c_M_of l g _ h v1 v3 hw0) (host := "") (nest := false) (n := 2) (As := [.int v1, .int v3]) (rest := [.ref a3, .int v2]) km_420 km_419 km_422 km_421 ⟨by decide, by decide, by decide +kernel⟩ ⟨Nat.le_of_ble_eq_true rfl, Nat.le_of_ble_eq_true rfl⟩ rfl hl.1 rfl (Nat.le_of_ble_eq_true rfl) dd_M_writesOf_17 ⟨Nat.le_refl _, Nat.le_refl _⟩) (fun x6 hw => ?_)
      obtain ⟨k7, k7i, hw⟩ := hw
      refine px_zald C0 hG k7 k7i dd_M_writesOf_20 ?_
      refine lv_if_eq (tgt := 28) hx hb dd_M_writesOf_21 (by decide) (fun c8 => ?_) (fun c8 => ?_)
      · replace hw := hw.1 c8
        refine lv_iconst (v := 0) hx hb dd_M_writesOf_28 (by decide) ?_
        exact wk_M_writesOf_29 C0 hr hlk ih _ _ _ _ _ _ _ hw hG (lv_sub hl [0, 1, 3] rfl)
      · replace hw := hw.2 c8
        refine lv_iconst (v := 1) hx hb dd_M_writesOf_24 (by decide) ?_
        refine lv_goto (tgt := 29) hx hb dd_M_writesOf_25 (by decide) ?_
        exact wk_M_writesOf_29 C0 hr hlk ih _ _ _ _ _ _ _ hw hG (lv_sub hl [0, 1, 3] rfl)
def wp_M_writesOf (g : Gm) (post : Int32 → Prop) (h : Hp) (a0 : Nat) (i1 : Int32) : Prop := ∃ n : Nat, wp_M_writesOf_4 g post n h a0 i1 0 0
set_option maxHeartbeats 4000000 in
set_option maxRecDepth 100000 in
theorem c_M_writesOf (l : Launch) (g : Gm) (post : Int32 → Prop) (h : Hp) (a0 : Nat) (i1 : Int32) (hw : wp_M_writesOf g post h a0 i1) : Met l (⟨"SegmentLocksModel", "writesOf", "(I)I"⟩ : MethodName) (ww (⟨"SegmentLocksModel", "writesOf", "(I)I"⟩ : MethodName) prog_6_method_10_code 4 (some .int)) (rmm 1 21 0 0) (va_Pc [.ref a0, .int i1] (gS g h)) (vp_Si post) 0 0 (fun _ => False) := by
  first | refine en_met (by decide) ?_ | refine en_metF (by decide) ?_
  intro p e s m below meth c C0 hr hlk hin hG
  have hS : va_S (gA g) s.heap s.heap [] := va_S.rf
  have hl := lv_entry ([.ref a0, .int i1]) (n := 4) (Nat.le_of_ble_eq_true rfl)
  rw [lg_entry_eq]
  generalize (lg_sl ([.ref a0, .int i1]) ++ List.replicate (4 - (lg_sl ([.ref a0, .int i1])).length) Slot.unset).toArray = ls at hl ⊢
  replace hl : lv_has ls 4 [(0, .ref a0), (1, .int i1)] := hl
  obtain ⟨hx, hb, -, hown, hts, hgk⟩ := id C0
  unfold wp_M_writesOf at hw
  refine lv_iconst (v := 0) hx hb dd_M_writesOf_0 (by decide) ?_
  have hl0 := hl
  clear hl
  refine lv_istore_n (lv' := [(2, .int 0), (0, .ref a0), (1, .int i1)]) hx hb dd_M_writesOf_1 rfl hl0 (by decide) rfl (fun ls hl => ?_)
  refine lv_iconst (v := 0) hx hb dd_M_writesOf_2 (by decide) ?_
  have hl0 := hl
  clear hl
  refine lv_istore_n (lv' := [(3, .int 0), (2, .int 0), (0, .ref a0), (1, .int i1)]) hx hb dd_M_writesOf_3 rfl hl0 (by decide) rfl (fun ls hl => ?_)
  obtain ⟨n, hw⟩ := hw
  exact wk_M_writesOf_4 C0 hr hlk n _ _ _ _ _ _ hw hG (lv_sub hl [2, 3, 1, 0] rfl)
/-! SegmentLocksModel.isInOrder(I)Z -/
theorem dd_M_isInOrder_0 : decode prog_6_method_25_code 0 = .ok (.iconst 1, 1) := by decide +kernel
theorem dd_M_isInOrder_1 : decode prog_6_method_25_code 1 = .ok (.istore_n 2, 1) := by decide +kernel
theorem dd_M_isInOrder_2 : decode prog_6_method_25_code 2 = .ok (.iconst 0, 1) := by decide +kernel
theorem dd_M_isInOrder_3 : decode prog_6_method_25_code 3 = .ok (.istore_n 3, 1) := by decide +kernel
theorem dd_M_isInOrder_4 : decode prog_6_method_25_code 4 = .ok (.iload_n 3, 1) := by decide +kernel
theorem dd_M_isInOrder_5 : decode prog_6_method_25_code 5 = .ok (.aload_n 0, 1) := by decide +kernel
theorem dd_M_isInOrder_6 : decode prog_6_method_25_code 6 = .ok (.getfield 108, 3) := by decide +kernel
theorem dd_M_isInOrder_9 : decode prog_6_method_25_code 9 = .ok (.if_icmp .ge 50, 3) := by decide +kernel
theorem dd_M_isInOrder_12 : decode prog_6_method_25_code 12 = .ok (.iload_n 2, 1) := by decide +kernel
theorem dd_M_isInOrder_13 : decode prog_6_method_25_code 13 = .ok (.ifCond .eq 38, 3) := by decide +kernel
theorem dd_M_isInOrder_16 : decode prog_6_method_25_code 16 = .ok (.aload_n 0, 1) := by decide +kernel
theorem dd_M_isInOrder_17 : decode prog_6_method_25_code 17 = .ok (.getfield 51, 3) := by decide +kernel
theorem dd_M_isInOrder_20 : decode prog_6_method_25_code 20 = .ok (.iload_n 3, 1) := by decide +kernel
theorem dd_M_isInOrder_21 : decode prog_6_method_25_code 21 = .ok (.iaload, 1) := by decide +kernel
theorem dd_M_isInOrder_22 : decode prog_6_method_25_code 22 = .ok (.iload_n 1, 1) := by decide +kernel
theorem dd_M_isInOrder_23 : decode prog_6_method_25_code 23 = .ok (.if_icmp .ne 24, 3) := by decide +kernel
theorem dd_M_isInOrder_26 : decode prog_6_method_25_code 26 = .ok (.aload_n 0, 1) := by decide +kernel
theorem dd_M_isInOrder_27 : decode prog_6_method_25_code 27 = .ok (.getfield 7, 3) := by decide +kernel
theorem dd_M_isInOrder_30 : decode prog_6_method_25_code 30 = .ok (.aload_n 0, 1) := by decide +kernel
theorem dd_M_isInOrder_31 : decode prog_6_method_25_code 31 = .ok (.getfield 54, 3) := by decide +kernel
theorem dd_M_isInOrder_34 : decode prog_6_method_25_code 34 = .ok (.iload_n 3, 1) := by decide +kernel
theorem dd_M_isInOrder_35 : decode prog_6_method_25_code 35 = .ok (.iaload, 1) := by decide +kernel
theorem dd_M_isInOrder_36 : decode prog_6_method_25_code 36 = .ok (.laload, 1) := by decide +kernel
theorem dd_M_isInOrder_37 : decode prog_6_method_25_code 37 = .ok (.aload_n 0, 1) := by decide +kernel
theorem dd_M_isInOrder_38 : decode prog_6_method_25_code 38 = .ok (.getfield 57, 3) := by decide +kernel
theorem dd_M_isInOrder_41 : decode prog_6_method_25_code 41 = .ok (.iload_n 3, 1) := by decide +kernel
theorem dd_M_isInOrder_42 : decode prog_6_method_25_code 42 = .ok (.laload, 1) := by decide +kernel
theorem dd_M_isInOrder_43 : decode prog_6_method_25_code 43 = .ok (.lcmp, 1) := by decide +kernel
theorem dd_M_isInOrder_44 : decode prog_6_method_25_code 44 = .ok (.ifCond .ne 7, 3) := by decide +kernel
theorem dd_M_isInOrder_47 : decode prog_6_method_25_code 47 = .ok (.iconst 1, 1) := by decide +kernel
theorem dd_M_isInOrder_48 : decode prog_6_method_25_code 48 = .ok (.goto 4, 3) := by decide +kernel
theorem dd_M_isInOrder_51 : decode prog_6_method_25_code 51 = .ok (.iconst 0, 1) := by decide +kernel
theorem dd_M_isInOrder_52 : decode prog_6_method_25_code 52 = .ok (.istore_n 2, 1) := by decide +kernel
theorem dd_M_isInOrder_53 : decode prog_6_method_25_code 53 = .ok (.iinc 3 1, 3) := by decide +kernel
theorem dd_M_isInOrder_56 : decode prog_6_method_25_code 56 = .ok (.goto (-52), 3) := by decide +kernel
theorem dd_M_isInOrder_59 : decode prog_6_method_25_code 59 = .ok (.iload_n 2, 1) := by decide +kernel
theorem dd_M_isInOrder_60 : decode prog_6_method_25_code 60 = .ok (.ireturn, 1) := by decide +kernel
def wp_M_isInOrder_52 (g : Gm) (post : Int32 → Prop) (K4 : Hp → Nat → Int32 → Int32 → Int32 → Prop) (h : Hp) (v0 : Nat) (v1 : Int32) (v3 : Int32) (s0 : Int32) : Prop := ∀ x1 : Int32, x1 = v3 + 1 → K4 h v0 v1 s0 x1
set_option maxHeartbeats 4000000 in
set_option maxRecDepth 100000 in
theorem wk_M_isInOrder_52 {p : Program} {l : Launch} {e : Env} {s : State} {m : MethodId} {args : Array Value} {below : List Frame} {meth : Method} {c : Code} {g : Gm} {post : Int32 → Prop} (C0 : Cx g p s m args c prog_6_method_25_code 4 "SegmentLocksModel") (hr : meth.sig.returnType = (some .boolean)) (hlk : meth.locks = false) {K4 : Hp → Nat → Int32 → Int32 → Int32 → Prop} (hK4 : ∀ (h : Hp) (v0 : Nat) (v1 : Int32) (v2 : Int32) (v3 : Int32) (ls : Array Slot), K4 h v0 v1 v2 v3 → GH g h s.heap → lv_has ls 4 [(0, .ref v0), (1, .int v1), (2, .int v2), (3, .int v3)] → W p l e (rmm 0 0 0 0) s m args below meth c s.heap [] 0 0 (MQ below (vp_Si post) args s 0 0 (fun _ => False)) (F0 m 4 ls [])) : ∀ (h : Hp) (v0 : Nat) (v1 : Int32) (v3 : Int32) (s0 : Int32) (ls : Array Slot), wp_M_isInOrder_52 g post K4 h v0 v1 v3 s0 → GH g h s.heap → lv_has ls 4 [(0, .ref v0), (1, .int v1), (3, .int v3)] → W p l e (rmm 0 0 0 0) s m args below meth c s.heap [] 0 0 (MQ below (vp_Si post) args s 0 0 (fun _ => False)) (F0 m 52 ls [.int s0]) := by
  obtain ⟨hx, hb, -, hown, hts, hgk⟩ := id C0
  have hS : va_S (gA g) s.heap s.heap [] := va_S.rf
  intro h v0 v1 v3 s0 ls hw hG hl
  unfold wp_M_isInOrder_52 at hw
  have hl0 := hl
  clear hl
  refine lv_istore_n (lv' := [(2, .int s0), (0, .ref v0), (1, .int v1), (3, .int v3)]) hx hb dd_M_isInOrder_52 rfl hl0 (by decide) rfl (fun ls hl => ?_)
  obtain ⟨x1, ex1⟩ : ∃ y : Int32, y = v3 + 1 := ⟨_, rfl⟩
  replace hw := hw x1 ex1
  have hl0 := hl
  clear hl
  refine lv_iinc (v := x1) (lv' := [(3, .int x1), (2, .int s0), (0, .ref v0), (1, .int v1)]) hx hb dd_M_isInOrder_53 hl0 (k := 3) rfl (by rw [ex1]; rfl) (by decide) rfl (fun ls hl => ?_)
  refine lv_goto (tgt := 4) hx hb dd_M_isInOrder_56 (by decide) ?_
  exact hK4 _ _ _ _ _ _ hw hG (lv_sub hl [2, 3, 1, 0] rfl)
def wp_M_isInOrder_51 (g : Gm) (post : Int32 → Prop) (K4 : Hp → Nat → Int32 → Int32 → Int32 → Prop) (h : Hp) (v0 : Nat) (v1 : Int32) (v3 : Int32) : Prop := wp_M_isInOrder_52 g post K4 h v0 v1 v3 0
set_option maxHeartbeats 4000000 in
set_option maxRecDepth 100000 in
theorem wk_M_isInOrder_51 {p : Program} {l : Launch} {e : Env} {s : State} {m : MethodId} {args : Array Value} {below : List Frame} {meth : Method} {c : Code} {g : Gm} {post : Int32 → Prop} (C0 : Cx g p s m args c prog_6_method_25_code 4 "SegmentLocksModel") (hr : meth.sig.returnType = (some .boolean)) (hlk : meth.locks = false) {K4 : Hp → Nat → Int32 → Int32 → Int32 → Prop} (hK4 : ∀ (h : Hp) (v0 : Nat) (v1 : Int32) (v2 : Int32) (v3 : Int32) (ls : Array Slot), K4 h v0 v1 v2 v3 → GH g h s.heap → lv_has ls 4 [(0, .ref v0), (1, .int v1), (2, .int v2), (3, .int v3)] → W p l e (rmm 0 0 0 0) s m args below meth c s.heap [] 0 0 (MQ below (vp_Si post) args s 0 0 (fun _ => False)) (F0 m 4 ls [])) : ∀ (h : Hp) (v0 : Nat) (v1 : Int32) (v3 : Int32) (ls : Array Slot), wp_M_isInOrder_51 g post K4 h v0 v1 v3 → GH g h s.heap → lv_has ls 4 [(0, .ref v0), (1, .int v1), (3, .int v3)] → W p l e (rmm 0 0 0 0) s m args below meth c s.heap [] 0 0 (MQ below (vp_Si post) args s 0 0 (fun _ => False)) (F0 m 51 ls []) := by
  obtain ⟨hx, hb, -, hown, hts, hgk⟩ := id C0
  have hS : va_S (gA g) s.heap s.heap [] := va_S.rf
  intro h v0 v1 v3 ls hw hG hl
  unfold wp_M_isInOrder_51 at hw
  refine lv_iconst (v := 0) hx hb dd_M_isInOrder_51 (by decide) ?_
  exact wk_M_isInOrder_52 C0 hr hlk hK4 _ _ _ _ _ _ hw hG (lv_sub hl [0, 1, 2] rfl)
def wp_M_isInOrder_47 (g : Gm) (post : Int32 → Prop) (K4 : Hp → Nat → Int32 → Int32 → Int32 → Prop) (h : Hp) (v0 : Nat) (v1 : Int32) (v3 : Int32) : Prop := wp_M_isInOrder_52 g post K4 h v0 v1 v3 1
set_option maxHeartbeats 4000000 in
set_option maxRecDepth 100000 in
theorem wk_M_isInOrder_47 {p : Program} {l : Launch} {e : Env} {s : State} {m : MethodId} {args : Array Value} {below : List Frame} {meth : Method} {c : Code} {g : Gm} {post : Int32 → Prop} (C0 : Cx g p s m args c prog_6_method_25_code 4 "SegmentLocksModel") (hr : meth.sig.returnType = (some .boolean)) (hlk : meth.locks = false) {K4 : Hp → Nat → Int32 → Int32 → Int32 → Prop} (hK4 : ∀ (h : Hp) (v0 : Nat) (v1 : Int32) (v2 : Int32) (v3 : Int32) (ls : Array Slot), K4 h v0 v1 v2 v3 → GH g h s.heap → lv_has ls 4 [(0, .ref v0), (1, .int v1), (2, .int v2), (3, .int v3)] → W p l e (rmm 0 0 0 0) s m args below meth c s.heap [] 0 0 (MQ below (vp_Si post) args s 0 0 (fun _ => False)) (F0 m 4 ls [])) : ∀ (h : Hp) (v0 : Nat) (v1 : Int32) (v3 : Int32) (ls : Array Slot), wp_M_isInOrder_47 g post K4 h v0 v1 v3 → GH g h s.heap → lv_has ls 4 [(0, .ref v0), (1, .int v1), (3, .int v3)] → W p l e (rmm 0 0 0 0) s m args below meth c s.heap [] 0 0 (MQ below (vp_Si post) args s 0 0 (fun _ => False)) (F0 m 47 ls []) := by
  obtain ⟨hx, hb, -, hown, hts, hgk⟩ := id C0
  have hS : va_S (gA g) s.heap s.heap [] := va_S.rf
  intro h v0 v1 v3 ls hw hG hl
  unfold wp_M_isInOrder_47 at hw
  refine lv_iconst (v := 1) hx hb dd_M_isInOrder_47 (by decide) ?_
  refine lv_goto (tgt := 52) hx hb dd_M_isInOrder_48 (by decide) ?_
  exact wk_M_isInOrder_52 C0 hr hlk hK4 _ _ _ _ _ _ hw hG (lv_sub hl [0, 1, 2] rfl)
def wp_M_isInOrder_4 (g : Gm) (post : Int32 → Prop) : Nat → Hp → Nat → Int32 → Int32 → Int32 → Prop
  | 0, _, _, _, _, _ => False
  | fu + 1, h, v0, v1, v2, v3 => hK h v0 = 5 ∧ (((hI h v0 20) ≤ v3 → zB v2 ∧ post v2) ∧ (¬ (hI h v0 20) ≤ v3 → ((v2 = 0 → wp_M_isInOrder_51 g post (fun h v0 v1 v2 v3 => wp_M_isInOrder_4 g post fu h v0 v1 v2 v3) h v0 v1 v3) ∧ (¬ v2 = 0 → hK h v0 = 5 ∧ ∃ a5 : Nat, hR h v0 17 = some a5 ∧ hK h a5 = 21 ∧ vp_in v3 (hN h a5) ∧ ((¬ (hI h a5 v3.toNatClampNeg) = v1 → wp_M_isInOrder_47 g post (fun h v0 v1 v2 v3 => wp_M_isInOrder_4 g post fu h v0 v1 v2 v3) h v0 v1 v3) ∧ ((hI h a5 v3.toNatClampNeg) = v1 → hK h v0 = 5 ∧ ∃ a9 : Nat, hR h v0 1 = some a9 ∧ hK h v0 = 5 ∧ ∃ a11 : Nat, hR h v0 18 = some a11 ∧ hK h a11 = 21 ∧ vp_in v3 (hN h a11) ∧ hK h a9 = 22 ∧ vp_in (hI h a11 v3.toNatClampNeg) (hN h a9) ∧ hK h v0 = 5 ∧ ∃ a15 : Nat, hR h v0 19 = some a15 ∧ hK h a15 = 22 ∧ vp_in v3 (hN h a15) ∧ ((¬ (lg_cmp (hJ h a9 (hI h a11 v3.toNatClampNeg).toNatClampNeg) (hJ h a15 v3.toNatClampNeg)) = 0 → wp_M_isInOrder_51 g post (fun h v0 v1 v2 v3 => wp_M_isInOrder_4 g post fu h v0 v1 v2 v3) h v0 v1 v3) ∧ ((lg_cmp (hJ h a9 (hI h a11 v3.toNatClampNeg).toNatClampNeg) (hJ h a15 v3.toNatClampNeg)) = 0 → wp_M_isInOrder_47 g post (fun h v0 v1 v2 v3 => wp_M_isInOrder_4 g post fu h v0 v1 v2 v3) h v0 v1 v3))))))))
set_option maxHeartbeats 4000000 in
set_option maxRecDepth 100000 in
theorem wk_M_isInOrder_4 {p : Program} {l : Launch} {e : Env} {s : State} {m : MethodId} {args : Array Value} {below : List Frame} {meth : Method} {c : Code} {g : Gm} {post : Int32 → Prop} (C0 : Cx g p s m args c prog_6_method_25_code 4 "SegmentLocksModel") (hr : meth.sig.returnType = (some .boolean)) (hlk : meth.locks = false) : ∀ n : Nat, ∀ (h : Hp) (v0 : Nat) (v1 : Int32) (v2 : Int32) (v3 : Int32) (ls : Array Slot), wp_M_isInOrder_4 g post n h v0 v1 v2 v3 → GH g h s.heap → lv_has ls 4 [(0, .ref v0), (1, .int v1), (2, .int v2), (3, .int v3)] → W p l e (rmm 0 0 0 0) s m args below meth c s.heap [] 0 0 (MQ below (vp_Si post) args s 0 0 (fun _ => False)) (F0 m 4 ls []) := by
  obtain ⟨hx, hb, -, hown, hts, hgk⟩ := id C0
  have hS : va_S (gA g) s.heap s.heap [] := va_S.rf
  intro n
  induction n with
  | zero =>
    intro h v0 v1 v2 v3 ls hw hG hl
    exact hw.elim
  | succ n ih =>
    intro h v0 v1 v2 v3 ls hw hG hl
    unfold wp_M_isInOrder_4 at hw
    refine lv_iload_n hx hb dd_M_isInOrder_4 rfl (lv_at hl 3 rfl) ?_
    refine lv_aload_n hx hb dd_M_isInOrder_5 rfl (lv_at hl 0 rfl) ?_
    obtain ⟨k1, hw⟩ := hw
    refine gf_M_108 C0 hG k1 dd_M_isInOrder_6 ?_
    refine lv_icmp_ge (tgt := 59) hx hb dd_M_isInOrder_9 (by decide) (fun c2 => ?_) (fun c2 => ?_)
    · replace hw := hw.1 c2
      refine lv_iload_n hx hb dd_M_isInOrder_59 rfl (lv_at hl 2 rfl) ?_
      exact rs_z C0 hr hlk hw.1.nar hw.2 dd_M_isInOrder_60
    · replace hw := hw.2 c2
      refine lv_iload_n hx hb dd_M_isInOrder_12 rfl (lv_at hl 2 rfl) ?_
      refine lv_if_eq (tgt := 51) hx hb dd_M_isInOrder_13 (by decide) (fun c3 => ?_) (fun c3 => ?_)
      · replace hw := hw.1 c3
        exact wk_M_isInOrder_51 C0 hr hlk ih _ _ _ _ _ hw hG (lv_sub hl [0, 1, 3] rfl)
      · replace hw := hw.2 c3
        refine lv_aload_n hx hb dd_M_isInOrder_16 rfl (lv_at hl 0 rfl) ?_
        obtain ⟨k4, a5, ea5, hw⟩ := hw
        refine gf_M_51 C0 hG k4 ea5 dd_M_isInOrder_17 ?_
        refine lv_iload_n hx hb dd_M_isInOrder_20 rfl (lv_at hl 3 rfl) ?_
        obtain ⟨k6, k6i, hw⟩ := hw
        refine px_iald C0 hG k6 k6i dd_M_isInOrder_21 ?_
        refine lv_iload_n hx hb dd_M_isInOrder_22 rfl (lv_at hl 1 rfl) ?_
        refine lv_icmp_ne (tgt := 47) hx hb dd_M_isInOrder_23 (by decide) (fun c7 => ?_) (fun c7 => ?_)
        · replace hw := hw.1 c7
          exact wk_M_isInOrder_47 C0 hr hlk ih _ _ _ _ _ hw hG (lv_sub hl [0, 1, 3] rfl)
        · replace hw := hw.2 c7
          refine lv_aload_n hx hb dd_M_isInOrder_26 rfl (lv_at hl 0 rfl) ?_
          obtain ⟨k8, a9, ea9, hw⟩ := hw
          refine gf_M_7 C0 hG k8 ea9 dd_M_isInOrder_27 ?_
          refine lv_aload_n hx hb dd_M_isInOrder_30 rfl (lv_at hl 0 rfl) ?_
          obtain ⟨k10, a11, ea11, hw⟩ := hw
          refine gf_M_54 C0 hG k10 ea11 dd_M_isInOrder_31 ?_
          refine lv_iload_n hx hb dd_M_isInOrder_34 rfl (lv_at hl 3 rfl) ?_
          obtain ⟨k12, k12i, hw⟩ := hw
          refine px_iald C0 hG k12 k12i dd_M_isInOrder_35 ?_
          obtain ⟨k13, k13i, hw⟩ := hw
          refine px_lald C0 hG k13 k13i dd_M_isInOrder_36 ?_
          refine lv_aload_n hx hb dd_M_isInOrder_37 rfl (lv_at hl 0 rfl) ?_
          obtain ⟨k14, a15, ea15, hw⟩ := hw
          refine gf_M_57 C0 hG k14 ea15 dd_M_isInOrder_38 ?_
          refine lv_iload_n hx hb dd_M_isInOrder_41 rfl (lv_at hl 3 rfl) ?_
          obtain ⟨k16, k16i, hw⟩ := hw
          refine px_lald C0 hG k16 k16i dd_M_isInOrder_42 ?_
          refine W.lcmp hx hb dd_M_isInOrder_43 ?_
          refine lv_if_ne (tgt := 51) hx hb dd_M_isInOrder_44 (by decide) (fun c17 => ?_) (fun c17 => ?_)
          · replace hw := hw.1 c17
            exact wk_M_isInOrder_51 C0 hr hlk ih _ _ _ _ _ hw hG (lv_sub hl [0, 1, 3] rfl)
          · replace hw := hw.2 c17
            exact wk_M_isInOrder_47 C0 hr hlk ih _ _ _ _ _ hw hG (lv_sub hl [0, 1, 3] rfl)
def wp_M_isInOrder (g : Gm) (post : Int32 → Prop) (h : Hp) (a0 : Nat) (i1 : Int32) : Prop := ∃ n : Nat, wp_M_isInOrder_4 g post n h a0 i1 1 0
set_option maxHeartbeats 4000000 in
set_option maxRecDepth 100000 in
theorem c_M_isInOrder (l : Launch) (g : Gm) (post : Int32 → Prop) (h : Hp) (a0 : Nat) (i1 : Int32) (hw : wp_M_isInOrder g post h a0 i1) : Met l (⟨"SegmentLocksModel", "isInOrder", "(I)Z"⟩ : MethodName) (ww (⟨"SegmentLocksModel", "isInOrder", "(I)Z"⟩ : MethodName) prog_6_method_25_code 4 (some .boolean)) (rmm 0 0 0 0) (va_Pc [.ref a0, .int i1] (gS g h)) (vp_Si post) 0 0 (fun _ => False) := by
  first | refine en_met (by decide) ?_ | refine en_metF (by decide) ?_
  intro p e s m below meth c C0 hr hlk hin hG
  have hS : va_S (gA g) s.heap s.heap [] := va_S.rf
  have hl := lv_entry ([.ref a0, .int i1]) (n := 4) (Nat.le_of_ble_eq_true rfl)
  rw [lg_entry_eq]
  generalize (lg_sl ([.ref a0, .int i1]) ++ List.replicate (4 - (lg_sl ([.ref a0, .int i1])).length) Slot.unset).toArray = ls at hl ⊢
  replace hl : lv_has ls 4 [(0, .ref a0), (1, .int i1)] := hl
  obtain ⟨hx, hb, -, hown, hts, hgk⟩ := id C0
  unfold wp_M_isInOrder at hw
  refine lv_iconst (v := 1) hx hb dd_M_isInOrder_0 (by decide) ?_
  have hl0 := hl
  clear hl
  refine lv_istore_n (lv' := [(2, .int 1), (0, .ref a0), (1, .int i1)]) hx hb dd_M_isInOrder_1 rfl hl0 (by decide) rfl (fun ls hl => ?_)
  refine lv_iconst (v := 0) hx hb dd_M_isInOrder_2 (by decide) ?_
  have hl0 := hl
  clear hl
  refine lv_istore_n (lv' := [(3, .int 0), (2, .int 1), (0, .ref a0), (1, .int i1)]) hx hb dd_M_isInOrder_3 rfl hl0 (by decide) rfl (fun ls hl => ?_)
  obtain ⟨n, hw⟩ := hw
  exact wk_M_isInOrder_4 C0 hr hlk n _ _ _ _ _ _ hw hG (lv_sub hl [2, 3, 1, 0] rfl)
/-! SegmentLocksModel.agree(I)I -/
theorem dd_M_agree_0 : decode prog_6_method_27_code 0 = .ok (.aload_n 0, 1) := by decide +kernel
theorem dd_M_agree_1 : decode prog_6_method_27_code 1 = .ok (.aload_n 0, 1) := by decide +kernel
theorem dd_M_agree_2 : decode prog_6_method_27_code 2 = .ok (.getfield 156, 3) := by decide +kernel
theorem dd_M_agree_5 : decode prog_6_method_27_code 5 = .ok (.ifCond .ne 11, 3) := by decide +kernel
theorem dd_M_agree_8 : decode prog_6_method_27_code 8 = .ok (.aload_n 0, 1) := by decide +kernel
theorem dd_M_agree_9 : decode prog_6_method_27_code 9 = .ok (.iload_n 1, 1) := by decide +kernel
theorem dd_M_agree_10 : decode prog_6_method_27_code 10 = .ok (.invokevirtual 160, 3) := by decide +kernel
theorem dd_M_agree_13 : decode prog_6_method_27_code 13 = .ok (.ifCond .ne 7, 3) := by decide +kernel
theorem dd_M_agree_16 : decode prog_6_method_27_code 16 = .ok (.iconst 1, 1) := by decide +kernel
theorem dd_M_agree_17 : decode prog_6_method_27_code 17 = .ok (.goto 4, 3) := by decide +kernel
theorem dd_M_agree_20 : decode prog_6_method_27_code 20 = .ok (.iconst 0, 1) := by decide +kernel
theorem dd_M_agree_21 : decode prog_6_method_27_code 21 = .ok (.putfield 156, 3) := by decide +kernel
theorem dd_M_agree_24 : decode prog_6_method_27_code 24 = .ok (.iconst 0, 1) := by decide +kernel
theorem dd_M_agree_25 : decode prog_6_method_27_code 25 = .ok (.istore_n 2, 1) := by decide +kernel
theorem dd_M_agree_26 : decode prog_6_method_27_code 26 = .ok (.iload_n 2, 1) := by decide +kernel
theorem dd_M_agree_27 : decode prog_6_method_27_code 27 = .ok (.bipush 50, 2) := by decide +kernel
theorem dd_M_agree_29 : decode prog_6_method_27_code 29 = .ok (.if_icmp .ge 47, 3) := by decide +kernel
theorem dd_M_agree_32 : decode prog_6_method_27_code 32 = .ok (.aload_n 0, 1) := by decide +kernel
theorem dd_M_agree_33 : decode prog_6_method_27_code 33 = .ok (.getfield 7, 3) := by decide +kernel
theorem dd_M_agree_36 : decode prog_6_method_27_code 36 = .ok (.iload_n 2, 1) := by decide +kernel
theorem dd_M_agree_37 : decode prog_6_method_27_code 37 = .ok (.aload_n 0, 1) := by decide +kernel
theorem dd_M_agree_38 : decode prog_6_method_27_code 38 = .ok (.getfield 39, 3) := by decide +kernel
theorem dd_M_agree_41 : decode prog_6_method_27_code 41 = .ok (.iload_n 1, 1) := by decide +kernel
theorem dd_M_agree_42 : decode prog_6_method_27_code 42 = .ok (.iload_n 2, 1) := by decide +kernel
theorem dd_M_agree_43 : decode prog_6_method_27_code 43 = .ok (.invokestatic 79, 3) := by decide +kernel
theorem dd_M_agree_46 : decode prog_6_method_27_code 46 = .ok (.baload, 1) := by decide +kernel
theorem dd_M_agree_47 : decode prog_6_method_27_code 47 = .ok (.ifCond .eq 16, 3) := by decide +kernel
theorem dd_M_agree_50 : decode prog_6_method_27_code 50 = .ok (.aload_n 0, 1) := by decide +kernel
theorem dd_M_agree_51 : decode prog_6_method_27_code 51 = .ok (.getfield 42, 3) := by decide +kernel
theorem dd_M_agree_54 : decode prog_6_method_27_code 54 = .ok (.iload_n 1, 1) := by decide +kernel
theorem dd_M_agree_55 : decode prog_6_method_27_code 55 = .ok (.iload_n 2, 1) := by decide +kernel
theorem dd_M_agree_56 : decode prog_6_method_27_code 56 = .ok (.invokestatic 79, 3) := by decide +kernel
theorem dd_M_agree_59 : decode prog_6_method_27_code 59 = .ok (.laload, 1) := by decide +kernel
theorem dd_M_agree_60 : decode prog_6_method_27_code 60 = .ok (.goto 9, 3) := by decide +kernel
theorem dd_M_agree_63 : decode prog_6_method_27_code 63 = .ok (.aload_n 0, 1) := by decide +kernel
theorem dd_M_agree_64 : decode prog_6_method_27_code 64 = .ok (.getfield 7, 3) := by decide +kernel
theorem dd_M_agree_67 : decode prog_6_method_27_code 67 = .ok (.iload_n 2, 1) := by decide +kernel
theorem dd_M_agree_68 : decode prog_6_method_27_code 68 = .ok (.laload, 1) := by decide +kernel
theorem dd_M_agree_69 : decode prog_6_method_27_code 69 = .ok (.lastore, 1) := by decide +kernel
theorem dd_M_agree_70 : decode prog_6_method_27_code 70 = .ok (.iinc 2 1, 3) := by decide +kernel
theorem dd_M_agree_73 : decode prog_6_method_27_code 73 = .ok (.goto (-47), 3) := by decide +kernel
theorem dd_M_agree_76 : decode prog_6_method_27_code 76 = .ok (.aload_n 0, 1) := by decide +kernel
theorem dd_M_agree_77 : decode prog_6_method_27_code 77 = .ok (.iload_n 1, 1) := by decide +kernel
theorem dd_M_agree_78 : decode prog_6_method_27_code 78 = .ok (.iconst 0, 1) := by decide +kernel
theorem dd_M_agree_79 : decode prog_6_method_27_code 79 = .ok (.invokevirtual 130, 3) := by decide +kernel
theorem dd_M_agree_82 : decode prog_6_method_27_code 82 = .ok (.ireturn, 1) := by decide +kernel
def wp_M_agree_69 (g : Gm) (post : Int32 → Hp → Prop) (K26 : Hp → Nat → Int32 → Int32 → Prop) (h : Hp) (v0 : Nat) (v1 : Int32) (v2 : Int32) (s0 : Nat) (s1 : Int32) (s2 : Int64) : Prop := hK h s0 = 22 ∧ vp_in s1 (hN h s0) ∧ ∀ h2 : Hp, h2 = sJ h s0 s1.toNatClampNeg s2 → ∀ x3 : Int32, x3 = v2 + 1 → K26 h2 v0 v1 x3
set_option maxHeartbeats 4000000 in
set_option maxRecDepth 100000 in
theorem wk_M_agree_69 {p : Program} {l : Launch} {e : Env} {s : State} {m : MethodId} {args : Array Value} {below : List Frame} {meth : Method} {c : Code} {g : Gm} {post : Int32 → Hp → Prop} (C0 : Cx g p s m args c prog_6_method_27_code 3 "SegmentLocksModel") (hr : meth.sig.returnType = (some .int)) (hlk : meth.locks = false) {K26 : Hp → Nat → Int32 → Int32 → Prop} (hK26 : ∀ (h : Hp) (v0 : Nat) (v1 : Int32) (v2 : Int32) (H : Heap) (locs : List Loc) (ls : Array Slot), K26 h v0 v1 v2 → GH g h H → va_S (gA g) s.heap H locs → lv_has ls 3 [(0, .ref v0), (1, .int v1), (2, .int v2)] → W p l e (rmm 4 92 0 0) s m args below meth c H locs 0 0 (MQ below (va_Qi post (gS g) (gA g)) args s 0 0 (gA g)) (F0 m 26 ls [])) : ∀ (h : Hp) (v0 : Nat) (v1 : Int32) (v2 : Int32) (s0 : Nat) (s1 : Int32) (s2 : Int64) (H : Heap) (locs : List Loc) (ls : Array Slot), wp_M_agree_69 g post K26 h v0 v1 v2 s0 s1 s2 → GH g h H → va_S (gA g) s.heap H locs → lv_has ls 3 [(0, .ref v0), (1, .int v1), (2, .int v2)] → W p l e (rmm 4 92 0 0) s m args below meth c H locs 0 0 (MQ below (va_Qi post (gS g) (gA g)) args s 0 0 (gA g)) (F0 m 69 ls [.long s2, .int s1, .ref s0]) := by
  obtain ⟨hx, hb, -, hown, hts, hgk⟩ := id C0
  intro h v0 v1 v2 s0 s1 s2 H locs ls hw hG hS hl
  unfold wp_M_agree_69 at hw
  obtain ⟨k1, k1i, hw⟩ := hw
  refine px_last C0 hG hS k1 k1i dd_M_agree_69 (fun H locs hG hS => ?_)
  replace hw := hw _ rfl
  generalize sJ h s0 s1.toNatClampNeg s2 = h2 at hw hG
  obtain ⟨x3, ex3⟩ : ∃ y : Int32, y = v2 + 1 := ⟨_, rfl⟩
  replace hw := hw x3 ex3
  have hl0 := hl
  clear hl
  refine lv_iinc (v := x3) (lv' := [(2, .int x3), (0, .ref v0), (1, .int v1)]) hx hb dd_M_agree_70 hl0 (k := 2) rfl (by rw [ex3]; rfl) (by decide) rfl (fun ls hl => ?_)
  refine lv_goto (tgt := 26) hx hb dd_M_agree_73 (by decide) ?_
  exact hK26 _ _ _ _ _ _ _ hw hG hS (lv_sub hl [1, 2, 0] rfl)
def wp_M_agree_26 (g : Gm) (post : Int32 → Hp → Prop) : Nat → Hp → Nat → Int32 → Int32 → Prop
  | 0, _, _, _, _ => False
  | fu + 1, h, v0, v1, v2 => ((50 ≤ v2 → hK h v0 = 5 ∧ wp_M_clear g (fun x4 h3 => post x4 h3) h v0 v1 0) ∧ (¬ 50 ≤ v2 → hK h v0 = 5 ∧ ∃ a6 : Nat, hR h v0 1 = some a6 ∧ hK h v0 = 5 ∧ ∃ a8 : Nat, hR h v0 12 = some a8 ∧ wp_M_of g (fun x11 => hK h a8 = 23 ∧ vp_in x11 (hN h a8) ∧ (((hI h a8 x11.toNatClampNeg) = 0 → hK h v0 = 5 ∧ ∃ a15 : Nat, hR h v0 1 = some a15 ∧ hK h a15 = 22 ∧ vp_in v2 (hN h a15) ∧ wp_M_agree_69 g post (fun h v0 v1 v2 => wp_M_agree_26 g post fu h v0 v1 v2) h v0 v1 v2 a6 v2 (hJ h a15 v2.toNatClampNeg)) ∧ (¬ (hI h a8 x11.toNatClampNeg) = 0 → hK h v0 = 5 ∧ ∃ a18 : Nat, hR h v0 13 = some a18 ∧ wp_M_of g (fun x21 => hK h a18 = 22 ∧ vp_in x21 (hN h a18) ∧ wp_M_agree_69 g post (fun h v0 v1 v2 => wp_M_agree_26 g post fu h v0 v1 v2) h v0 v1 v2 a6 v2 (hJ h a18 x21.toNatClampNeg)) h v1 v2))) h v1 v2))
set_option maxHeartbeats 4000000 in
set_option maxRecDepth 100000 in
theorem wk_M_agree_26 {p : Program} {l : Launch} {e : Env} {s : State} {m : MethodId} {args : Array Value} {below : List Frame} {meth : Method} {c : Code} {g : Gm} {post : Int32 → Hp → Prop} (C0 : Cx g p s m args c prog_6_method_27_code 3 "SegmentLocksModel") (hr : meth.sig.returnType = (some .int)) (hlk : meth.locks = false) : ∀ n : Nat, ∀ (h : Hp) (v0 : Nat) (v1 : Int32) (v2 : Int32) (H : Heap) (locs : List Loc) (ls : Array Slot), wp_M_agree_26 g post n h v0 v1 v2 → GH g h H → va_S (gA g) s.heap H locs → lv_has ls 3 [(0, .ref v0), (1, .int v1), (2, .int v2)] → W p l e (rmm 4 92 0 0) s m args below meth c H locs 0 0 (MQ below (va_Qi post (gS g) (gA g)) args s 0 0 (gA g)) (F0 m 26 ls []) := by
  obtain ⟨hx, hb, -, hown, hts, hgk⟩ := id C0
  intro n
  induction n with
  | zero =>
    intro h v0 v1 v2 H locs ls hw hG hS hl
    exact hw.elim
  | succ n ih =>
    intro h v0 v1 v2 H locs ls hw hG hS hl
    unfold wp_M_agree_26 at hw
    refine lv_iload_n hx hb dd_M_agree_26 rfl (lv_at hl 2 rfl) ?_
    refine lv_bipush (v := 50) hx hb dd_M_agree_27 (by decide) ?_
    refine lv_icmp_ge (tgt := 76) hx hb dd_M_agree_29 (by decide) (fun c1 => ?_) (fun c1 => ?_)
    · replace hw := hw.1 c1
      refine lv_aload_n hx hb dd_M_agree_76 rfl (lv_at hl 0 rfl) ?_
      refine lv_iload_n hx hb dd_M_agree_77 rfl (lv_at hl 1 rfl) ?_
      refine lv_iconst (v := 0) hx hb dd_M_agree_78 (by decide) ?_
      obtain ⟨k2, hw⟩ := hw
      refine ca_i hS (rn_V C0 hG hS (c_M_clear l g _ h v0 v1 0 hw) (ci := 4) k2 (by decide) rfl rfl (host := "") (nest := false) (n := 2) (As := [.int v1, .int 0]) (rest := []) km_461 km_460 km_462 km_463 km_421 ⟨by decide, by decide, by decide +kernel⟩ ⟨Nat.le_of_ble_eq_true rfl, Nat.le_of_ble_eq_true rfl⟩ rfl hl.1 rfl (Nat.le_of_ble_eq_true rfl) dd_M_agree_79 ⟨Nat.le_refl _, Nat.le_refl _⟩) (fun x4 h3 H locs hw hG hS => ?_)
      exact re_i C0 hG hS hr hlk ⟨Nat.le_refl _, Nat.le_refl _⟩ hw dd_M_agree_82
    · replace hw := hw.2 c1
      refine lv_aload_n hx hb dd_M_agree_32 rfl (lv_at hl 0 rfl) ?_
      obtain ⟨k5, a6, ea6, hw⟩ := hw
      refine gf_M_7 C0 hG k5 ea6 dd_M_agree_33 ?_
      refine lv_iload_n hx hb dd_M_agree_36 rfl (lv_at hl 2 rfl) ?_
      refine lv_aload_n hx hb dd_M_agree_37 rfl (lv_at hl 0 rfl) ?_
      obtain ⟨k7, a8, ea8, hw⟩ := hw
      refine gf_M_39 C0 hG k7 ea8 dd_M_agree_38 ?_
      refine lv_iload_n hx hb dd_M_agree_41 rfl (lv_at hl 1 rfl) ?_
      refine lv_iload_n hx hb dd_M_agree_42 rfl (lv_at hl 2 rfl) ?_
      have hw0 := hw
      clear hw
      refine cs_i (rn_S C0 hG hS (c_M_of l g _ h v1 v2 hw0) (host := "") (nest := false) (n := 2) (As := [.int v1, .int v2]) (rest := [.ref a8, .int v2, .ref a6]) km_420 km_419 km_422 km_421 ⟨by decide, by decide, by decide +kernel⟩ ⟨Nat.le_of_ble_eq_true rfl, Nat.le_of_ble_eq_true rfl⟩ rfl hl.1 rfl (Nat.le_of_ble_eq_true rfl) dd_M_agree_43 ⟨Nat.le_refl _, Nat.le_refl _⟩) (fun x11 hw => ?_)
      obtain ⟨k12, k12i, hw⟩ := hw
      refine px_zald C0 hG k12 k12i dd_M_agree_46 ?_
      refine lv_if_eq (tgt := 63) hx hb dd_M_agree_47 (by decide) (fun c13 => ?_) (fun c13 => ?_)
      · replace hw := hw.1 c13
        refine lv_aload_n hx hb dd_M_agree_63 rfl (lv_at hl 0 rfl) ?_
        obtain ⟨k14, a15, ea15, hw⟩ := hw
        refine gf_M_7 C0 hG k14 ea15 dd_M_agree_64 ?_
        refine lv_iload_n hx hb dd_M_agree_67 rfl (lv_at hl 2 rfl) ?_
        obtain ⟨k16, k16i, hw⟩ := hw
        refine px_lald C0 hG k16 k16i dd_M_agree_68 ?_
        exact wk_M_agree_69 C0 hr hlk ih _ _ _ _ _ _ _ _ _ _ hw hG hS (lv_sub hl [0, 1, 2] rfl)
      · replace hw := hw.2 c13
        refine lv_aload_n hx hb dd_M_agree_50 rfl (lv_at hl 0 rfl) ?_
        obtain ⟨k17, a18, ea18, hw⟩ := hw
        refine gf_M_42 C0 hG k17 ea18 dd_M_agree_51 ?_
        refine lv_iload_n hx hb dd_M_agree_54 rfl (lv_at hl 1 rfl) ?_
        refine lv_iload_n hx hb dd_M_agree_55 rfl (lv_at hl 2 rfl) ?_
        have hw0 := hw
        clear hw
        refine cs_i (rn_S C0 hG hS (c_M_of l g _ h v1 v2 hw0) (host := "") (nest := false) (n := 2) (As := [.int v1, .int v2]) (rest := [.ref a18, .int v2, .ref a6]) km_420 km_419 km_422 km_421 ⟨by decide, by decide, by decide +kernel⟩ ⟨Nat.le_of_ble_eq_true rfl, Nat.le_of_ble_eq_true rfl⟩ rfl hl.1 rfl (Nat.le_of_ble_eq_true rfl) dd_M_agree_56 ⟨Nat.le_refl _, Nat.le_refl _⟩) (fun x21 hw => ?_)
        obtain ⟨k22, k22i, hw⟩ := hw
        refine px_lald C0 hG k22 k22i dd_M_agree_59 ?_
        refine lv_goto (tgt := 69) hx hb dd_M_agree_60 (by decide) ?_
        exact wk_M_agree_69 C0 hr hlk ih _ _ _ _ _ _ _ _ _ _ hw hG hS (lv_sub hl [0, 1, 2] rfl)
def wp_M_agree_21 (g : Gm) (post : Int32 → Hp → Prop) (h : Hp) (v0 : Nat) (v1 : Int32) (s0 : Nat) (s1 : Int32) : Prop := hK h s0 = 5 ∧ zB s1 ∧ ∀ h2 : Hp, h2 = sI h s0 26 s1 → ∃ n : Nat, wp_M_agree_26 g post n h2 v0 v1 0
set_option maxHeartbeats 4000000 in
set_option maxRecDepth 100000 in
theorem wk_M_agree_21 {p : Program} {l : Launch} {e : Env} {s : State} {m : MethodId} {args : Array Value} {below : List Frame} {meth : Method} {c : Code} {g : Gm} {post : Int32 → Hp → Prop} (C0 : Cx g p s m args c prog_6_method_27_code 3 "SegmentLocksModel") (hr : meth.sig.returnType = (some .int)) (hlk : meth.locks = false) : ∀ (h : Hp) (v0 : Nat) (v1 : Int32) (s0 : Nat) (s1 : Int32) (H : Heap) (locs : List Loc) (ls : Array Slot), wp_M_agree_21 g post h v0 v1 s0 s1 → GH g h H → va_S (gA g) s.heap H locs → lv_has ls 3 [(0, .ref v0), (1, .int v1)] → W p l e (rmm 4 92 0 0) s m args below meth c H locs 0 0 (MQ below (va_Qi post (gS g) (gA g)) args s 0 0 (gA g)) (F0 m 21 ls [.int s1, .ref s0]) := by
  obtain ⟨hx, hb, -, hown, hts, hgk⟩ := id C0
  intro h v0 v1 s0 s1 H locs ls hw hG hS hl
  unfold wp_M_agree_21 at hw
  obtain ⟨k1, hz, hw⟩ := hw
  refine pf_M_156 C0 hG hS k1 hz dd_M_agree_21 (fun H locs hG hS => ?_)
  replace hw := hw _ rfl
  generalize sI h s0 26 s1 = h2 at hw hG
  refine lv_iconst (v := 0) hx hb dd_M_agree_24 (by decide) ?_
  have hl0 := hl
  clear hl
  refine lv_istore_n (lv' := [(2, .int 0), (0, .ref v0), (1, .int v1)]) hx hb dd_M_agree_25 rfl hl0 (by decide) rfl (fun ls hl => ?_)
  obtain ⟨n, hw⟩ := hw
  exact wk_M_agree_26 C0 hr hlk n _ _ _ _ _ _ _ hw hG hS (lv_sub hl [1, 2, 0] rfl)
def wp_M_agree_16 (g : Gm) (post : Int32 → Hp → Prop) (h : Hp) (v0 : Nat) (v1 : Int32) (s0 : Nat) : Prop := wp_M_agree_21 g post h v0 v1 s0 1
set_option maxHeartbeats 4000000 in
set_option maxRecDepth 100000 in
theorem wk_M_agree_16 {p : Program} {l : Launch} {e : Env} {s : State} {m : MethodId} {args : Array Value} {below : List Frame} {meth : Method} {c : Code} {g : Gm} {post : Int32 → Hp → Prop} (C0 : Cx g p s m args c prog_6_method_27_code 3 "SegmentLocksModel") (hr : meth.sig.returnType = (some .int)) (hlk : meth.locks = false) : ∀ (h : Hp) (v0 : Nat) (v1 : Int32) (s0 : Nat) (H : Heap) (locs : List Loc) (ls : Array Slot), wp_M_agree_16 g post h v0 v1 s0 → GH g h H → va_S (gA g) s.heap H locs → lv_has ls 3 [(0, .ref v0), (1, .int v1)] → W p l e (rmm 4 92 0 0) s m args below meth c H locs 0 0 (MQ below (va_Qi post (gS g) (gA g)) args s 0 0 (gA g)) (F0 m 16 ls [.ref s0]) := by
  obtain ⟨hx, hb, -, hown, hts, hgk⟩ := id C0
  intro h v0 v1 s0 H locs ls hw hG hS hl
  unfold wp_M_agree_16 at hw
  refine lv_iconst (v := 1) hx hb dd_M_agree_16 (by decide) ?_
  refine lv_goto (tgt := 21) hx hb dd_M_agree_17 (by decide) ?_
  exact wk_M_agree_21 C0 hr hlk _ _ _ _ _ _ _ _ hw hG hS (lv_sub hl [0, 1] rfl)
def wp_M_agree (g : Gm) (post : Int32 → Hp → Prop) (h : Hp) (a0 : Nat) (i1 : Int32) : Prop := hK h a0 = 5 ∧ ((¬ (hI h a0 26) = 0 → wp_M_agree_16 g post h a0 i1 a0) ∧ ((hI h a0 26) = 0 → hK h a0 = 5 ∧ wp_M_isInOrder g (fun x5 => ((¬ x5 = 0 → wp_M_agree_21 g post h a0 i1 a0 0) ∧ (x5 = 0 → wp_M_agree_16 g post h a0 i1 a0))) h a0 i1))
set_option maxHeartbeats 4000000 in
set_option maxRecDepth 100000 in
theorem c_M_agree (l : Launch) (g : Gm) (post : Int32 → Hp → Prop) (h : Hp) (a0 : Nat) (i1 : Int32) (hw : wp_M_agree g post h a0 i1) : Met l (⟨"SegmentLocksModel", "agree", "(I)I"⟩ : MethodName) (ww (⟨"SegmentLocksModel", "agree", "(I)I"⟩ : MethodName) prog_6_method_27_code 3 (some .int)) (rmm 4 92 0 0) (va_Pc [.ref a0, .int i1] (gS g h)) (va_Qi post (gS g) (gA g)) 0 0 (gA g) := by
  first | refine en_met (by decide) ?_ | refine en_metF (by decide) ?_
  intro p e s m below meth c C0 hr hlk hin hG
  have hS : va_S (gA g) s.heap s.heap [] := va_S.rf
  have hl := lv_entry ([.ref a0, .int i1]) (n := 3) (Nat.le_of_ble_eq_true rfl)
  rw [lg_entry_eq]
  generalize (lg_sl ([.ref a0, .int i1]) ++ List.replicate (3 - (lg_sl ([.ref a0, .int i1])).length) Slot.unset).toArray = ls at hl ⊢
  replace hl : lv_has ls 3 [(0, .ref a0), (1, .int i1)] := hl
  obtain ⟨hx, hb, -, hown, hts, hgk⟩ := id C0
  unfold wp_M_agree at hw
  refine lv_aload_n hx hb dd_M_agree_0 rfl (lv_at hl 0 rfl) ?_
  refine lv_aload_n hx hb dd_M_agree_1 rfl (lv_at hl 0 rfl) ?_
  obtain ⟨k1, hw⟩ := hw
  refine gf_M_156 C0 hG k1 dd_M_agree_2 ?_
  refine lv_if_ne (tgt := 16) hx hb dd_M_agree_5 (by decide) (fun c2 => ?_) (fun c2 => ?_)
  · replace hw := hw.1 c2
    exact wk_M_agree_16 C0 hr hlk _ _ _ _ _ _ _ hw hG hS (lv_sub hl [0, 1] rfl)
  · replace hw := hw.2 c2
    refine lv_aload_n hx hb dd_M_agree_8 rfl (lv_at hl 0 rfl) ?_
    refine lv_iload_n hx hb dd_M_agree_9 rfl (lv_at hl 1 rfl) ?_
    obtain ⟨k3, hw⟩ := hw
    have hw0 := hw
    clear hw
    refine cs_i (rn_V C0 hG hS (c_M_isInOrder l g _ h a0 i1 hw0) (ci := 4) k3 (by decide) rfl rfl (host := "") (nest := false) (n := 1) (As := [.int i1]) (rest := [.ref a0]) km_487 km_486 km_488 km_489 km_421 ⟨by decide, by decide, by decide +kernel⟩ ⟨Nat.le_of_ble_eq_true rfl, Nat.le_of_ble_eq_true rfl⟩ rfl hl.1 rfl (Nat.le_of_ble_eq_true rfl) dd_M_agree_10 ⟨Nat.le_refl _, Nat.le_refl _⟩) (fun x5 hw => ?_)
    refine lv_if_ne (tgt := 20) hx hb dd_M_agree_13 (by decide) (fun c6 => ?_) (fun c6 => ?_)
    · replace hw := hw.1 c6
      refine lv_iconst (v := 0) hx hb dd_M_agree_20 (by decide) ?_
      exact wk_M_agree_21 C0 hr hlk _ _ _ _ _ _ _ _ hw hG hS (lv_sub hl [0, 1] rfl)
    · replace hw := hw.2 c6
      exact wk_M_agree_16 C0 hr hlk _ _ _ _ _ _ _ hw hG hS (lv_sub hl [0, 1] rfl)
/-! SegmentLocksModel.sync(I)I -/
theorem dd_M_sync_0 : decode prog_6_method_26_code 0 = .ok (.aload_n 0, 1) := by decide +kernel
theorem dd_M_sync_1 : decode prog_6_method_26_code 1 = .ok (.iconst 0, 1) := by decide +kernel
theorem dd_M_sync_2 : decode prog_6_method_26_code 2 = .ok (.putfield 72, 3) := by decide +kernel
theorem dd_M_sync_5 : decode prog_6_method_26_code 5 = .ok (.aload_n 0, 1) := by decide +kernel
theorem dd_M_sync_6 : decode prog_6_method_26_code 6 = .ok (.iload_n 1, 1) := by decide +kernel
theorem dd_M_sync_7 : decode prog_6_method_26_code 7 = .ok (.invokevirtual 147, 3) := by decide +kernel
theorem dd_M_sync_10 : decode prog_6_method_26_code 10 = .ok (.istore_n 2, 1) := by decide +kernel
theorem dd_M_sync_11 : decode prog_6_method_26_code 11 = .ok (.iload_n 2, 1) := by decide +kernel
theorem dd_M_sync_12 : decode prog_6_method_26_code 12 = .ok (.ifCond .eq 5, 3) := by decide +kernel
theorem dd_M_sync_15 : decode prog_6_method_26_code 15 = .ok (.iload_n 2, 1) := by decide +kernel
theorem dd_M_sync_16 : decode prog_6_method_26_code 16 = .ok (.ireturn, 1) := by decide +kernel
theorem dd_M_sync_17 : decode prog_6_method_26_code 17 = .ok (.aload_n 0, 1) := by decide +kernel
theorem dd_M_sync_18 : decode prog_6_method_26_code 18 = .ok (.iload_n 1, 1) := by decide +kernel
theorem dd_M_sync_19 : decode prog_6_method_26_code 19 = .ok (.invokevirtual 150, 3) := by decide +kernel
theorem dd_M_sync_22 : decode prog_6_method_26_code 22 = .ok (.istore_n 3, 1) := by decide +kernel
theorem dd_M_sync_23 : decode prog_6_method_26_code 23 = .ok (.aload_n 0, 1) := by decide +kernel
theorem dd_M_sync_24 : decode prog_6_method_26_code 24 = .ok (.iload_n 1, 1) := by decide +kernel
theorem dd_M_sync_25 : decode prog_6_method_26_code 25 = .ok (.invokevirtual 153, 3) := by decide +kernel
theorem dd_M_sync_28 : decode prog_6_method_26_code 28 = .ok (.pop, 1) := by decide +kernel
theorem dd_M_sync_29 : decode prog_6_method_26_code 29 = .ok (.iload_n 3, 1) := by decide +kernel
theorem dd_M_sync_30 : decode prog_6_method_26_code 30 = .ok (.ireturn, 1) := by decide +kernel
def wp_M_sync (g : Gm) (post : Int32 → Hp → Prop) (h : Hp) (a0 : Nat) (i1 : Int32) : Prop := hK h a0 = 5 ∧ ∀ h2 : Hp, h2 = sI h a0 0 0 → hK h2 a0 = 5 ∧ wp_M_refusal g (fun x5 => ((x5 = 0 → hK h2 a0 = 5 ∧ wp_M_writesOf g (fun x9 => hK h2 a0 = 5 ∧ wp_M_agree g (fun x12 h11 => post x9 h11) h2 a0 i1) h2 a0 i1) ∧ (¬ x5 = 0 → post x5 h2))) h2 a0 i1
set_option maxHeartbeats 4000000 in
set_option maxRecDepth 100000 in
theorem c_M_sync (l : Launch) (g : Gm) (post : Int32 → Hp → Prop) (h : Hp) (a0 : Nat) (i1 : Int32) (hw : wp_M_sync g post h a0 i1) : Met l (⟨"SegmentLocksModel", "sync", "(I)I"⟩ : MethodName) (ww (⟨"SegmentLocksModel", "sync", "(I)I"⟩ : MethodName) prog_6_method_26_code 4 (some .int)) (rmm 5 114 0 0) (va_Pc [.ref a0, .int i1] (gS g h)) (va_Qi post (gS g) (gA g)) 0 0 (gA g) := by
  first | refine en_met (by decide) ?_ | refine en_metF (by decide) ?_
  intro p e s m below meth c C0 hr hlk hin hG
  have hS : va_S (gA g) s.heap s.heap [] := va_S.rf
  have hl := lv_entry ([.ref a0, .int i1]) (n := 4) (Nat.le_of_ble_eq_true rfl)
  rw [lg_entry_eq]
  generalize (lg_sl ([.ref a0, .int i1]) ++ List.replicate (4 - (lg_sl ([.ref a0, .int i1])).length) Slot.unset).toArray = ls at hl ⊢
  replace hl : lv_has ls 4 [(0, .ref a0), (1, .int i1)] := hl
  obtain ⟨hx, hb, -, hown, hts, hgk⟩ := id C0
  unfold wp_M_sync at hw
  refine lv_aload_n hx hb dd_M_sync_0 rfl (lv_at hl 0 rfl) ?_
  refine lv_iconst (v := 0) hx hb dd_M_sync_1 (by decide) ?_
  obtain ⟨k1, hw⟩ := hw
  refine pf_M_72 C0 hG hS k1 dd_M_sync_2 (fun H locs hG hS => ?_)
  replace hw := hw _ rfl
  generalize sI h a0 0 0 = h2 at hw hG
  refine lv_aload_n hx hb dd_M_sync_5 rfl (lv_at hl 0 rfl) ?_
  refine lv_iload_n hx hb dd_M_sync_6 rfl (lv_at hl 1 rfl) ?_
  obtain ⟨k3, hw⟩ := hw
  have hw0 := hw
  clear hw
  refine cs_i (rn_V C0 hG hS (c_M_refusal l g _ h2 a0 i1 hw0) (ci := 4) k3 (by decide) rfl rfl (host := "") (nest := false) (n := 1) (As := [.int i1]) (rest := []) km_499 km_498 km_500 km_501 km_421 ⟨by decide, by decide, by decide +kernel⟩ ⟨Nat.le_of_ble_eq_true rfl, Nat.le_of_ble_eq_true rfl⟩ rfl hl.1 rfl (Nat.le_of_ble_eq_true rfl) dd_M_sync_7 ⟨Nat.le_refl _, Nat.le_refl _⟩) (fun x5 hw => ?_)
  have hl0 := hl
  clear hl
  refine lv_istore_n (lv' := [(2, .int x5), (0, .ref a0), (1, .int i1)]) hx hb dd_M_sync_10 rfl hl0 (by decide) rfl (fun ls hl => ?_)
  refine lv_iload_n hx hb dd_M_sync_11 rfl (lv_at hl 0 rfl) ?_
  refine lv_if_eq (tgt := 17) hx hb dd_M_sync_12 (by decide) (fun c6 => ?_) (fun c6 => ?_)
  · replace hw := hw.1 c6
    refine lv_aload_n hx hb dd_M_sync_17 rfl (lv_at hl 1 rfl) ?_
    refine lv_iload_n hx hb dd_M_sync_18 rfl (lv_at hl 2 rfl) ?_
    obtain ⟨k7, hw⟩ := hw
    have hw0 := hw
    clear hw
    refine cs_i (rn_V C0 hG hS (c_M_writesOf l g _ h2 a0 i1 hw0) (ci := 4) k7 (by decide) rfl rfl (host := "") (nest := false) (n := 1) (As := [.int i1]) (rest := []) km_495 km_494 km_496 km_497 km_421 ⟨by decide, by decide, by decide +kernel⟩ ⟨Nat.le_of_ble_eq_true rfl, Nat.le_of_ble_eq_true rfl⟩ rfl hl.1 rfl (Nat.le_of_ble_eq_true rfl) dd_M_sync_19 ⟨Nat.le_refl _, Nat.le_refl _⟩) (fun x9 hw => ?_)
    have hl0 := hl
    clear hl
    refine lv_istore_n (lv' := [(3, .int x9), (2, .int x5), (0, .ref a0), (1, .int i1)]) hx hb dd_M_sync_22 rfl hl0 (by decide) rfl (fun ls hl => ?_)
    refine lv_aload_n hx hb dd_M_sync_23 rfl (lv_at hl 2 rfl) ?_
    refine lv_iload_n hx hb dd_M_sync_24 rfl (lv_at hl 3 rfl) ?_
    obtain ⟨k10, hw⟩ := hw
    refine ca_i hS (rn_V C0 hG hS (c_M_agree l g _ h2 a0 i1 hw) (ci := 4) k10 (by decide) rfl rfl (host := "") (nest := false) (n := 1) (As := [.int i1]) (rest := []) km_491 km_490 km_492 km_493 km_421 ⟨by decide, by decide, by decide +kernel⟩ ⟨Nat.le_of_ble_eq_true rfl, Nat.le_of_ble_eq_true rfl⟩ rfl hl.1 rfl (Nat.le_of_ble_eq_true rfl) dd_M_sync_25 ⟨Nat.le_refl _, Nat.le_refl _⟩) (fun x12 h11 H locs hw hG hS => ?_)
    refine lv_pop hx hb dd_M_sync_28 rfl ?_
    refine lv_iload_n hx hb dd_M_sync_29 rfl (lv_at hl 0 rfl) ?_
    exact re_i C0 hG hS hr hlk ⟨Nat.le_refl _, Nat.le_refl _⟩ hw dd_M_sync_30
  · replace hw := hw.2 c6
    refine lv_iload_n hx hb dd_M_sync_15 rfl (lv_at hl 0 rfl) ?_
    exact re_i C0 hG hS hr hlk ⟨Nat.le_refl _, Nat.le_refl _⟩ hw dd_M_sync_16
/-! SegmentLocksModel.checkpoint(I)I -/
theorem dd_M_checkpoint_0 : decode prog_6_method_28_code 0 = .ok (.aload_n 0, 1) := by decide +kernel
theorem dd_M_checkpoint_1 : decode prog_6_method_28_code 1 = .ok (.iconst 0, 1) := by decide +kernel
theorem dd_M_checkpoint_2 : decode prog_6_method_28_code 2 = .ok (.putfield 72, 3) := by decide +kernel
theorem dd_M_checkpoint_5 : decode prog_6_method_28_code 5 = .ok (.aload_n 0, 1) := by decide +kernel
theorem dd_M_checkpoint_6 : decode prog_6_method_28_code 6 = .ok (.iload_n 1, 1) := by decide +kernel
theorem dd_M_checkpoint_7 : decode prog_6_method_28_code 7 = .ok (.invokevirtual 147, 3) := by decide +kernel
theorem dd_M_checkpoint_10 : decode prog_6_method_28_code 10 = .ok (.istore_n 2, 1) := by decide +kernel
theorem dd_M_checkpoint_11 : decode prog_6_method_28_code 11 = .ok (.iload_n 2, 1) := by decide +kernel
theorem dd_M_checkpoint_12 : decode prog_6_method_28_code 12 = .ok (.ifCond .eq 7, 3) := by decide +kernel
theorem dd_M_checkpoint_15 : decode prog_6_method_28_code 15 = .ok (.iload_n 2, 1) := by decide +kernel
theorem dd_M_checkpoint_16 : decode prog_6_method_28_code 16 = .ok (.goto 8, 3) := by decide +kernel
theorem dd_M_checkpoint_19 : decode prog_6_method_28_code 19 = .ok (.aload_n 0, 1) := by decide +kernel
theorem dd_M_checkpoint_20 : decode prog_6_method_28_code 20 = .ok (.iload_n 1, 1) := by decide +kernel
theorem dd_M_checkpoint_21 : decode prog_6_method_28_code 21 = .ok (.invokevirtual 153, 3) := by decide +kernel
theorem dd_M_checkpoint_24 : decode prog_6_method_28_code 24 = .ok (.ireturn, 1) := by decide +kernel
def wp_M_checkpoint_24 (g : Gm) (post : Int32 → Hp → Prop) (h : Hp) (s0 : Int32) : Prop := post s0 h
set_option maxHeartbeats 4000000 in
set_option maxRecDepth 100000 in
theorem wk_M_checkpoint_24 {p : Program} {l : Launch} {e : Env} {s : State} {m : MethodId} {args : Array Value} {below : List Frame} {meth : Method} {c : Code} {g : Gm} {post : Int32 → Hp → Prop} (C0 : Cx g p s m args c prog_6_method_28_code 3 "SegmentLocksModel") (hr : meth.sig.returnType = (some .int)) (hlk : meth.locks = false) : ∀ (h : Hp) (s0 : Int32) (H : Heap) (locs : List Loc) (ls : Array Slot), wp_M_checkpoint_24 g post h s0 → GH g h H → va_S (gA g) s.heap H locs → lv_has ls 3 [] → W p l e (rmm 5 114 0 0) s m args below meth c H locs 0 0 (MQ below (va_Qi post (gS g) (gA g)) args s 0 0 (gA g)) (F0 m 24 ls [.int s0]) := by
  obtain ⟨hx, hb, -, hown, hts, hgk⟩ := id C0
  intro h s0 H locs ls hw hG hS hl
  unfold wp_M_checkpoint_24 at hw
  exact re_i C0 hG hS hr hlk ⟨Nat.le_refl _, Nat.le_refl _⟩ hw dd_M_checkpoint_24
def wp_M_checkpoint (g : Gm) (post : Int32 → Hp → Prop) (h : Hp) (a0 : Nat) (i1 : Int32) : Prop := hK h a0 = 5 ∧ ∀ h2 : Hp, h2 = sI h a0 0 0 → hK h2 a0 = 5 ∧ wp_M_refusal g (fun x5 => ((x5 = 0 → hK h2 a0 = 5 ∧ wp_M_agree g (fun x9 h8 => wp_M_checkpoint_24 g post h8 x9) h2 a0 i1) ∧ (¬ x5 = 0 → wp_M_checkpoint_24 g post h2 x5))) h2 a0 i1
set_option maxHeartbeats 4000000 in
set_option maxRecDepth 100000 in
theorem c_M_checkpoint (l : Launch) (g : Gm) (post : Int32 → Hp → Prop) (h : Hp) (a0 : Nat) (i1 : Int32) (hw : wp_M_checkpoint g post h a0 i1) : Met l (⟨"SegmentLocksModel", "checkpoint", "(I)I"⟩ : MethodName) (ww (⟨"SegmentLocksModel", "checkpoint", "(I)I"⟩ : MethodName) prog_6_method_28_code 3 (some .int)) (rmm 5 114 0 0) (va_Pc [.ref a0, .int i1] (gS g h)) (va_Qi post (gS g) (gA g)) 0 0 (gA g) := by
  first | refine en_met (by decide) ?_ | refine en_metF (by decide) ?_
  intro p e s m below meth c C0 hr hlk hin hG
  have hS : va_S (gA g) s.heap s.heap [] := va_S.rf
  have hl := lv_entry ([.ref a0, .int i1]) (n := 3) (Nat.le_of_ble_eq_true rfl)
  rw [lg_entry_eq]
  generalize (lg_sl ([.ref a0, .int i1]) ++ List.replicate (3 - (lg_sl ([.ref a0, .int i1])).length) Slot.unset).toArray = ls at hl ⊢
  replace hl : lv_has ls 3 [(0, .ref a0), (1, .int i1)] := hl
  obtain ⟨hx, hb, -, hown, hts, hgk⟩ := id C0
  unfold wp_M_checkpoint at hw
  refine lv_aload_n hx hb dd_M_checkpoint_0 rfl (lv_at hl 0 rfl) ?_
  refine lv_iconst (v := 0) hx hb dd_M_checkpoint_1 (by decide) ?_
  obtain ⟨k1, hw⟩ := hw
  refine pf_M_72 C0 hG hS k1 dd_M_checkpoint_2 (fun H locs hG hS => ?_)
  replace hw := hw _ rfl
  generalize sI h a0 0 0 = h2 at hw hG
  refine lv_aload_n hx hb dd_M_checkpoint_5 rfl (lv_at hl 0 rfl) ?_
  refine lv_iload_n hx hb dd_M_checkpoint_6 rfl (lv_at hl 1 rfl) ?_
  obtain ⟨k3, hw⟩ := hw
  have hw0 := hw
  clear hw
  refine cs_i (rn_V C0 hG hS (c_M_refusal l g _ h2 a0 i1 hw0) (ci := 4) k3 (by decide) rfl rfl (host := "") (nest := false) (n := 1) (As := [.int i1]) (rest := []) km_499 km_498 km_500 km_501 km_421 ⟨by decide, by decide, by decide +kernel⟩ ⟨Nat.le_of_ble_eq_true rfl, Nat.le_of_ble_eq_true rfl⟩ rfl hl.1 rfl (Nat.le_of_ble_eq_true rfl) dd_M_checkpoint_7 ⟨Nat.le_refl _, Nat.le_refl _⟩) (fun x5 hw => ?_)
  have hl0 := hl
  clear hl
  refine lv_istore_n (lv' := [(2, .int x5), (0, .ref a0), (1, .int i1)]) hx hb dd_M_checkpoint_10 rfl hl0 (by decide) rfl (fun ls hl => ?_)
  refine lv_iload_n hx hb dd_M_checkpoint_11 rfl (lv_at hl 0 rfl) ?_
  refine lv_if_eq (tgt := 19) hx hb dd_M_checkpoint_12 (by decide) (fun c6 => ?_) (fun c6 => ?_)
  · replace hw := hw.1 c6
    refine lv_aload_n hx hb dd_M_checkpoint_19 rfl (lv_at hl 1 rfl) ?_
    refine lv_iload_n hx hb dd_M_checkpoint_20 rfl (lv_at hl 2 rfl) ?_
    obtain ⟨k7, hw⟩ := hw
    refine ca_i hS (rn_V C0 hG hS (c_M_agree l g _ h2 a0 i1 hw) (ci := 4) k7 (by decide) rfl rfl (host := "") (nest := false) (n := 1) (As := [.int i1]) (rest := []) km_491 km_490 km_492 km_493 km_421 ⟨by decide, by decide, by decide +kernel⟩ ⟨Nat.le_of_ble_eq_true rfl, Nat.le_of_ble_eq_true rfl⟩ rfl hl.1 rfl (Nat.le_of_ble_eq_true rfl) dd_M_checkpoint_21 ⟨Nat.le_refl _, Nat.le_refl _⟩) (fun x9 h8 H locs hw hG hS => ?_)
    exact wk_M_checkpoint_24 C0 hr hlk _ _ _ _ _ hw hG hS (lv_sub hl [] rfl)
  · replace hw := hw.2 c6
    refine lv_iload_n hx hb dd_M_checkpoint_15 rfl (lv_at hl 0 rfl) ?_
    refine lv_goto (tgt := 24) hx hb dd_M_checkpoint_16 (by decide) ?_
    exact wk_M_checkpoint_24 C0 hr hlk _ _ _ _ _ hw hG hS (lv_sub hl [] rfl)
/-! SegmentLocksModel.backout(I)I -/
theorem dd_M_backout_0 : decode prog_6_method_29_code 0 = .ok (.aload_n 0, 1) := by decide +kernel
theorem dd_M_backout_1 : decode prog_6_method_29_code 1 = .ok (.iconst 0, 1) := by decide +kernel
theorem dd_M_backout_2 : decode prog_6_method_29_code 2 = .ok (.putfield 72, 3) := by decide +kernel
theorem dd_M_backout_5 : decode prog_6_method_29_code 5 = .ok (.aload_n 0, 1) := by decide +kernel
theorem dd_M_backout_6 : decode prog_6_method_29_code 6 = .ok (.iload_n 1, 1) := by decide +kernel
theorem dd_M_backout_7 : decode prog_6_method_29_code 7 = .ok (.invokevirtual 120, 3) := by decide +kernel
theorem dd_M_backout_10 : decode prog_6_method_29_code 10 = .ok (.ifCond .ne 6, 3) := by decide +kernel
theorem dd_M_backout_13 : decode prog_6_method_29_code 13 = .ok (.bipush (-2), 2) := by decide +kernel
theorem dd_M_backout_15 : decode prog_6_method_29_code 15 = .ok (.ireturn, 1) := by decide +kernel
theorem dd_M_backout_16 : decode prog_6_method_29_code 16 = .ok (.aload_n 0, 1) := by decide +kernel
theorem dd_M_backout_17 : decode prog_6_method_29_code 17 = .ok (.getfield 17, 3) := by decide +kernel
theorem dd_M_backout_20 : decode prog_6_method_29_code 20 = .ok (.iload_n 1, 1) := by decide +kernel
theorem dd_M_backout_21 : decode prog_6_method_29_code 21 = .ok (.iaload, 1) := by decide +kernel
theorem dd_M_backout_22 : decode prog_6_method_29_code 22 = .ok (.iconst 2, 1) := by decide +kernel
theorem dd_M_backout_23 : decode prog_6_method_29_code 23 = .ok (.if_icmp .ne 6, 3) := by decide +kernel
theorem dd_M_backout_26 : decode prog_6_method_29_code 26 = .ok (.bipush (-5), 2) := by decide +kernel
theorem dd_M_backout_28 : decode prog_6_method_29_code 28 = .ok (.ireturn, 1) := by decide +kernel
theorem dd_M_backout_29 : decode prog_6_method_29_code 29 = .ok (.aload_n 0, 1) := by decide +kernel
theorem dd_M_backout_30 : decode prog_6_method_29_code 30 = .ok (.iload_n 1, 1) := by decide +kernel
theorem dd_M_backout_31 : decode prog_6_method_29_code 31 = .ok (.invokevirtual 150, 3) := by decide +kernel
theorem dd_M_backout_34 : decode prog_6_method_29_code 34 = .ok (.istore_n 2, 1) := by decide +kernel
theorem dd_M_backout_35 : decode prog_6_method_29_code 35 = .ok (.aload_n 0, 1) := by decide +kernel
theorem dd_M_backout_36 : decode prog_6_method_29_code 36 = .ok (.iload_n 1, 1) := by decide +kernel
theorem dd_M_backout_37 : decode prog_6_method_29_code 37 = .ok (.iconst 0, 1) := by decide +kernel
theorem dd_M_backout_38 : decode prog_6_method_29_code 38 = .ok (.invokevirtual 130, 3) := by decide +kernel
theorem dd_M_backout_41 : decode prog_6_method_29_code 41 = .ok (.pop, 1) := by decide +kernel
theorem dd_M_backout_42 : decode prog_6_method_29_code 42 = .ok (.iload_n 2, 1) := by decide +kernel
theorem dd_M_backout_43 : decode prog_6_method_29_code 43 = .ok (.ireturn, 1) := by decide +kernel
def wp_M_backout (g : Gm) (post : Int32 → Hp → Prop) (h : Hp) (a0 : Nat) (i1 : Int32) : Prop := hK h a0 = 5 ∧ ∀ h2 : Hp, h2 = sI h a0 0 0 → hK h2 a0 = 5 ∧ wp_M_isTask g (fun x5 => ((¬ x5 = 0 → hK h2 a0 = 5 ∧ ∃ a8 : Nat, hR h2 a0 5 = some a8 ∧ hK h2 a8 = 21 ∧ vp_in i1 (hN h2 a8) ∧ ((¬ (hI h2 a8 i1.toNatClampNeg) = 2 → hK h2 a0 = 5 ∧ wp_M_writesOf g (fun x13 => hK h2 a0 = 5 ∧ wp_M_clear g (fun x16 h15 => post x13 h15) h2 a0 i1 0) h2 a0 i1) ∧ ((hI h2 a8 i1.toNatClampNeg) = 2 → post (-5) h2))) ∧ (x5 = 0 → post (-2) h2))) h2 a0 i1
set_option maxHeartbeats 4000000 in
set_option maxRecDepth 100000 in
theorem c_M_backout (l : Launch) (g : Gm) (post : Int32 → Hp → Prop) (h : Hp) (a0 : Nat) (i1 : Int32) (hw : wp_M_backout g post h a0 i1) : Met l (⟨"SegmentLocksModel", "backout", "(I)I"⟩ : MethodName) (ww (⟨"SegmentLocksModel", "backout", "(I)I"⟩ : MethodName) prog_6_method_29_code 3 (some .int)) (rmm 4 92 0 0) (va_Pc [.ref a0, .int i1] (gS g h)) (va_Qi post (gS g) (gA g)) 0 0 (gA g) := by
  first | refine en_met (by decide) ?_ | refine en_metF (by decide) ?_
  intro p e s m below meth c C0 hr hlk hin hG
  have hS : va_S (gA g) s.heap s.heap [] := va_S.rf
  have hl := lv_entry ([.ref a0, .int i1]) (n := 3) (Nat.le_of_ble_eq_true rfl)
  rw [lg_entry_eq]
  generalize (lg_sl ([.ref a0, .int i1]) ++ List.replicate (3 - (lg_sl ([.ref a0, .int i1])).length) Slot.unset).toArray = ls at hl ⊢
  replace hl : lv_has ls 3 [(0, .ref a0), (1, .int i1)] := hl
  obtain ⟨hx, hb, -, hown, hts, hgk⟩ := id C0
  unfold wp_M_backout at hw
  refine lv_aload_n hx hb dd_M_backout_0 rfl (lv_at hl 0 rfl) ?_
  refine lv_iconst (v := 0) hx hb dd_M_backout_1 (by decide) ?_
  obtain ⟨k1, hw⟩ := hw
  refine pf_M_72 C0 hG hS k1 dd_M_backout_2 (fun H locs hG hS => ?_)
  replace hw := hw _ rfl
  generalize sI h a0 0 0 = h2 at hw hG
  refine lv_aload_n hx hb dd_M_backout_5 rfl (lv_at hl 0 rfl) ?_
  refine lv_iload_n hx hb dd_M_backout_6 rfl (lv_at hl 1 rfl) ?_
  obtain ⟨k3, hw⟩ := hw
  have hw0 := hw
  clear hw
  refine cs_i (rn_V C0 hG hS (c_M_isTask l g _ h2 a0 i1 hw0) (ci := 4) k3 (by decide) rfl rfl (host := "") (nest := false) (n := 1) (As := [.int i1]) (rest := []) km_481 km_480 km_482 km_483 km_421 ⟨by decide, by decide, by decide +kernel⟩ ⟨Nat.le_of_ble_eq_true rfl, Nat.le_of_ble_eq_true rfl⟩ rfl hl.1 rfl (Nat.le_of_ble_eq_true rfl) dd_M_backout_7 ⟨Nat.le_refl _, Nat.le_refl _⟩) (fun x5 hw => ?_)
  refine lv_if_ne (tgt := 16) hx hb dd_M_backout_10 (by decide) (fun c6 => ?_) (fun c6 => ?_)
  · replace hw := hw.1 c6
    refine lv_aload_n hx hb dd_M_backout_16 rfl (lv_at hl 0 rfl) ?_
    obtain ⟨k7, a8, ea8, hw⟩ := hw
    refine gf_M_17 C0 hG k7 ea8 dd_M_backout_17 ?_
    refine lv_iload_n hx hb dd_M_backout_20 rfl (lv_at hl 1 rfl) ?_
    obtain ⟨k9, k9i, hw⟩ := hw
    refine px_iald C0 hG k9 k9i dd_M_backout_21 ?_
    refine lv_iconst (v := 2) hx hb dd_M_backout_22 (by decide) ?_
    refine lv_icmp_ne (tgt := 29) hx hb dd_M_backout_23 (by decide) (fun c10 => ?_) (fun c10 => ?_)
    · replace hw := hw.1 c10
      refine lv_aload_n hx hb dd_M_backout_29 rfl (lv_at hl 0 rfl) ?_
      refine lv_iload_n hx hb dd_M_backout_30 rfl (lv_at hl 1 rfl) ?_
      obtain ⟨k11, hw⟩ := hw
      have hw0 := hw
      clear hw
      refine cs_i (rn_V C0 hG hS (c_M_writesOf l g _ h2 a0 i1 hw0) (ci := 4) k11 (by decide) rfl rfl (host := "") (nest := false) (n := 1) (As := [.int i1]) (rest := []) km_495 km_494 km_496 km_497 km_421 ⟨by decide, by decide, by decide +kernel⟩ ⟨Nat.le_of_ble_eq_true rfl, Nat.le_of_ble_eq_true rfl⟩ rfl hl.1 rfl (Nat.le_of_ble_eq_true rfl) dd_M_backout_31 ⟨Nat.le_refl _, Nat.le_refl _⟩) (fun x13 hw => ?_)
      have hl0 := hl
      clear hl
      refine lv_istore_n (lv' := [(2, .int x13), (0, .ref a0), (1, .int i1)]) hx hb dd_M_backout_34 rfl hl0 (by decide) rfl (fun ls hl => ?_)
      refine lv_aload_n hx hb dd_M_backout_35 rfl (lv_at hl 1 rfl) ?_
      refine lv_iload_n hx hb dd_M_backout_36 rfl (lv_at hl 2 rfl) ?_
      refine lv_iconst (v := 0) hx hb dd_M_backout_37 (by decide) ?_
      obtain ⟨k14, hw⟩ := hw
      refine ca_i hS (rn_V C0 hG hS (c_M_clear l g _ h2 a0 i1 0 hw) (ci := 4) k14 (by decide) rfl rfl (host := "") (nest := false) (n := 2) (As := [.int i1, .int 0]) (rest := []) km_461 km_460 km_462 km_463 km_421 ⟨by decide, by decide, by decide +kernel⟩ ⟨Nat.le_of_ble_eq_true rfl, Nat.le_of_ble_eq_true rfl⟩ rfl hl.1 rfl (Nat.le_of_ble_eq_true rfl) dd_M_backout_38 ⟨Nat.le_refl _, Nat.le_refl _⟩) (fun x16 h15 H locs hw hG hS => ?_)
      refine lv_pop hx hb dd_M_backout_41 rfl ?_
      refine lv_iload_n hx hb dd_M_backout_42 rfl (lv_at hl 0 rfl) ?_
      exact re_i C0 hG hS hr hlk ⟨Nat.le_refl _, Nat.le_refl _⟩ hw dd_M_backout_43
    · replace hw := hw.2 c10
      refine lv_bipush (v := (-5)) hx hb dd_M_backout_26 (by decide) ?_
      exact re_i C0 hG hS hr hlk ⟨Nat.le_refl _, Nat.le_refl _⟩ hw dd_M_backout_28
  · replace hw := hw.2 c6
    refine lv_bipush (v := (-2)) hx hb dd_M_backout_13 (by decide) ?_
    exact re_i C0 hG hS hr hlk ⟨Nat.le_refl _, Nat.le_refl _⟩ hw dd_M_backout_15
/-! SegmentLocksModel.dead(I)I -/
theorem dd_M_dead_0 : decode prog_6_method_30_code 0 = .ok (.aload_n 0, 1) := by decide +kernel
theorem dd_M_dead_1 : decode prog_6_method_30_code 1 = .ok (.iconst 0, 1) := by decide +kernel
theorem dd_M_dead_2 : decode prog_6_method_30_code 2 = .ok (.putfield 72, 3) := by decide +kernel
theorem dd_M_dead_5 : decode prog_6_method_30_code 5 = .ok (.aload_n 0, 1) := by decide +kernel
theorem dd_M_dead_6 : decode prog_6_method_30_code 6 = .ok (.iload_n 1, 1) := by decide +kernel
theorem dd_M_dead_7 : decode prog_6_method_30_code 7 = .ok (.invokevirtual 120, 3) := by decide +kernel
theorem dd_M_dead_10 : decode prog_6_method_30_code 10 = .ok (.ifCond .ne 6, 3) := by decide +kernel
theorem dd_M_dead_13 : decode prog_6_method_30_code 13 = .ok (.bipush (-2), 2) := by decide +kernel
theorem dd_M_dead_15 : decode prog_6_method_30_code 15 = .ok (.ireturn, 1) := by decide +kernel
theorem dd_M_dead_16 : decode prog_6_method_30_code 16 = .ok (.aload_n 0, 1) := by decide +kernel
theorem dd_M_dead_17 : decode prog_6_method_30_code 17 = .ok (.getfield 17, 3) := by decide +kernel
theorem dd_M_dead_20 : decode prog_6_method_30_code 20 = .ok (.iload_n 1, 1) := by decide +kernel
theorem dd_M_dead_21 : decode prog_6_method_30_code 21 = .ok (.iaload, 1) := by decide +kernel
theorem dd_M_dead_22 : decode prog_6_method_30_code 22 = .ok (.iconst 2, 1) := by decide +kernel
theorem dd_M_dead_23 : decode prog_6_method_30_code 23 = .ok (.if_icmp .ne 7, 3) := by decide +kernel
theorem dd_M_dead_26 : decode prog_6_method_30_code 26 = .ok (.iconst 0, 1) := by decide +kernel
theorem dd_M_dead_27 : decode prog_6_method_30_code 27 = .ok (.goto 9, 3) := by decide +kernel
theorem dd_M_dead_30 : decode prog_6_method_30_code 30 = .ok (.aload_n 0, 1) := by decide +kernel
theorem dd_M_dead_31 : decode prog_6_method_30_code 31 = .ok (.iload_n 1, 1) := by decide +kernel
theorem dd_M_dead_32 : decode prog_6_method_30_code 32 = .ok (.iconst 2, 1) := by decide +kernel
theorem dd_M_dead_33 : decode prog_6_method_30_code 33 = .ok (.invokevirtual 130, 3) := by decide +kernel
theorem dd_M_dead_36 : decode prog_6_method_30_code 36 = .ok (.ireturn, 1) := by decide +kernel
def wp_M_dead_36 (g : Gm) (post : Int32 → Hp → Prop) (h : Hp) (s0 : Int32) : Prop := post s0 h
set_option maxHeartbeats 4000000 in
set_option maxRecDepth 100000 in
theorem wk_M_dead_36 {p : Program} {l : Launch} {e : Env} {s : State} {m : MethodId} {args : Array Value} {below : List Frame} {meth : Method} {c : Code} {g : Gm} {post : Int32 → Hp → Prop} (C0 : Cx g p s m args c prog_6_method_30_code 2 "SegmentLocksModel") (hr : meth.sig.returnType = (some .int)) (hlk : meth.locks = false) : ∀ (h : Hp) (s0 : Int32) (H : Heap) (locs : List Loc) (ls : Array Slot), wp_M_dead_36 g post h s0 → GH g h H → va_S (gA g) s.heap H locs → lv_has ls 2 [] → W p l e (rmm 4 92 0 0) s m args below meth c H locs 0 0 (MQ below (va_Qi post (gS g) (gA g)) args s 0 0 (gA g)) (F0 m 36 ls [.int s0]) := by
  obtain ⟨hx, hb, -, hown, hts, hgk⟩ := id C0
  intro h s0 H locs ls hw hG hS hl
  unfold wp_M_dead_36 at hw
  exact re_i C0 hG hS hr hlk ⟨Nat.le_refl _, Nat.le_refl _⟩ hw dd_M_dead_36
def wp_M_dead (g : Gm) (post : Int32 → Hp → Prop) (h : Hp) (a0 : Nat) (i1 : Int32) : Prop := hK h a0 = 5 ∧ ∀ h2 : Hp, h2 = sI h a0 0 0 → hK h2 a0 = 5 ∧ wp_M_isTask g (fun x5 => ((¬ x5 = 0 → hK h2 a0 = 5 ∧ ∃ a8 : Nat, hR h2 a0 5 = some a8 ∧ hK h2 a8 = 21 ∧ vp_in i1 (hN h2 a8) ∧ ((¬ (hI h2 a8 i1.toNatClampNeg) = 2 → hK h2 a0 = 5 ∧ wp_M_clear g (fun x13 h12 => wp_M_dead_36 g post h12 x13) h2 a0 i1 2) ∧ ((hI h2 a8 i1.toNatClampNeg) = 2 → wp_M_dead_36 g post h2 0))) ∧ (x5 = 0 → post (-2) h2))) h2 a0 i1
set_option maxHeartbeats 4000000 in
set_option maxRecDepth 100000 in
theorem c_M_dead (l : Launch) (g : Gm) (post : Int32 → Hp → Prop) (h : Hp) (a0 : Nat) (i1 : Int32) (hw : wp_M_dead g post h a0 i1) : Met l (⟨"SegmentLocksModel", "dead", "(I)I"⟩ : MethodName) (ww (⟨"SegmentLocksModel", "dead", "(I)I"⟩ : MethodName) prog_6_method_30_code 2 (some .int)) (rmm 4 92 0 0) (va_Pc [.ref a0, .int i1] (gS g h)) (va_Qi post (gS g) (gA g)) 0 0 (gA g) := by
  first | refine en_met (by decide) ?_ | refine en_metF (by decide) ?_
  intro p e s m below meth c C0 hr hlk hin hG
  have hS : va_S (gA g) s.heap s.heap [] := va_S.rf
  have hl := lv_entry ([.ref a0, .int i1]) (n := 2) (Nat.le_of_ble_eq_true rfl)
  rw [lg_entry_eq]
  generalize (lg_sl ([.ref a0, .int i1]) ++ List.replicate (2 - (lg_sl ([.ref a0, .int i1])).length) Slot.unset).toArray = ls at hl ⊢
  replace hl : lv_has ls 2 [(0, .ref a0), (1, .int i1)] := hl
  obtain ⟨hx, hb, -, hown, hts, hgk⟩ := id C0
  unfold wp_M_dead at hw
  refine lv_aload_n hx hb dd_M_dead_0 rfl (lv_at hl 0 rfl) ?_
  refine lv_iconst (v := 0) hx hb dd_M_dead_1 (by decide) ?_
  obtain ⟨k1, hw⟩ := hw
  refine pf_M_72 C0 hG hS k1 dd_M_dead_2 (fun H locs hG hS => ?_)
  replace hw := hw _ rfl
  generalize sI h a0 0 0 = h2 at hw hG
  refine lv_aload_n hx hb dd_M_dead_5 rfl (lv_at hl 0 rfl) ?_
  refine lv_iload_n hx hb dd_M_dead_6 rfl (lv_at hl 1 rfl) ?_
  obtain ⟨k3, hw⟩ := hw
  have hw0 := hw
  clear hw
  refine cs_i (rn_V C0 hG hS (c_M_isTask l g _ h2 a0 i1 hw0) (ci := 4) k3 (by decide) rfl rfl (host := "") (nest := false) (n := 1) (As := [.int i1]) (rest := []) km_481 km_480 km_482 km_483 km_421 ⟨by decide, by decide, by decide +kernel⟩ ⟨Nat.le_of_ble_eq_true rfl, Nat.le_of_ble_eq_true rfl⟩ rfl hl.1 rfl (Nat.le_of_ble_eq_true rfl) dd_M_dead_7 ⟨Nat.le_refl _, Nat.le_refl _⟩) (fun x5 hw => ?_)
  refine lv_if_ne (tgt := 16) hx hb dd_M_dead_10 (by decide) (fun c6 => ?_) (fun c6 => ?_)
  · replace hw := hw.1 c6
    refine lv_aload_n hx hb dd_M_dead_16 rfl (lv_at hl 0 rfl) ?_
    obtain ⟨k7, a8, ea8, hw⟩ := hw
    refine gf_M_17 C0 hG k7 ea8 dd_M_dead_17 ?_
    refine lv_iload_n hx hb dd_M_dead_20 rfl (lv_at hl 1 rfl) ?_
    obtain ⟨k9, k9i, hw⟩ := hw
    refine px_iald C0 hG k9 k9i dd_M_dead_21 ?_
    refine lv_iconst (v := 2) hx hb dd_M_dead_22 (by decide) ?_
    refine lv_icmp_ne (tgt := 30) hx hb dd_M_dead_23 (by decide) (fun c10 => ?_) (fun c10 => ?_)
    · replace hw := hw.1 c10
      refine lv_aload_n hx hb dd_M_dead_30 rfl (lv_at hl 0 rfl) ?_
      refine lv_iload_n hx hb dd_M_dead_31 rfl (lv_at hl 1 rfl) ?_
      refine lv_iconst (v := 2) hx hb dd_M_dead_32 (by decide) ?_
      obtain ⟨k11, hw⟩ := hw
      refine ca_i hS (rn_V C0 hG hS (c_M_clear l g _ h2 a0 i1 2 hw) (ci := 4) k11 (by decide) rfl rfl (host := "") (nest := false) (n := 2) (As := [.int i1, .int 2]) (rest := []) km_461 km_460 km_462 km_463 km_421 ⟨by decide, by decide, by decide +kernel⟩ ⟨Nat.le_of_ble_eq_true rfl, Nat.le_of_ble_eq_true rfl⟩ rfl hl.1 rfl (Nat.le_of_ble_eq_true rfl) dd_M_dead_33 ⟨Nat.le_refl _, Nat.le_refl _⟩) (fun x13 h12 H locs hw hG hS => ?_)
      exact wk_M_dead_36 C0 hr hlk _ _ _ _ _ hw hG hS (lv_sub hl [] rfl)
    · replace hw := hw.2 c10
      refine lv_iconst (v := 0) hx hb dd_M_dead_26 (by decide) ?_
      refine lv_goto (tgt := 36) hx hb dd_M_dead_27 (by decide) ?_
      exact wk_M_dead_36 C0 hr hlk _ _ _ _ _ hw hG hS (lv_sub hl [] rfl)
  · replace hw := hw.2 c6
    refine lv_bipush (v := (-2)) hx hb dd_M_dead_13 (by decide) ?_
    exact re_i C0 hG hS hr hlk ⟨Nat.le_refl _, Nat.le_refl _⟩ hw dd_M_dead_15
/-! SegmentLocksModel.ring(I)I -/
theorem dd_M_ring_0 : decode prog_6_method_31_code 0 = .ok (.aload_n 0, 1) := by decide +kernel
theorem dd_M_ring_1 : decode prog_6_method_31_code 1 = .ok (.iconst 0, 1) := by decide +kernel
theorem dd_M_ring_2 : decode prog_6_method_31_code 2 = .ok (.putfield 72, 3) := by decide +kernel
theorem dd_M_ring_5 : decode prog_6_method_31_code 5 = .ok (.iload_n 1, 1) := by decide +kernel
theorem dd_M_ring_6 : decode prog_6_method_31_code 6 = .ok (.ifCond .lt 20, 3) := by decide +kernel
theorem dd_M_ring_9 : decode prog_6_method_31_code 9 = .ok (.iload_n 1, 1) := by decide +kernel
theorem dd_M_ring_10 : decode prog_6_method_31_code 10 = .ok (.aload_n 0, 1) := by decide +kernel
theorem dd_M_ring_11 : decode prog_6_method_31_code 11 = .ok (.getfield 117, 3) := by decide +kernel
theorem dd_M_ring_14 : decode prog_6_method_31_code 14 = .ok (.if_icmp .ge 12, 3) := by decide +kernel
theorem dd_M_ring_17 : decode prog_6_method_31_code 17 = .ok (.aload_n 0, 1) := by decide +kernel
theorem dd_M_ring_18 : decode prog_6_method_31_code 18 = .ok (.getfield 60, 3) := by decide +kernel
theorem dd_M_ring_21 : decode prog_6_method_31_code 21 = .ok (.iload_n 1, 1) := by decide +kernel
theorem dd_M_ring_22 : decode prog_6_method_31_code 22 = .ok (.iaload, 1) := by decide +kernel
theorem dd_M_ring_23 : decode prog_6_method_31_code 23 = .ok (.goto 4, 3) := by decide +kernel
theorem dd_M_ring_26 : decode prog_6_method_31_code 26 = .ok (.iconst 0, 1) := by decide +kernel
theorem dd_M_ring_27 : decode prog_6_method_31_code 27 = .ok (.ireturn, 1) := by decide +kernel
def wp_M_ring_27 (g : Gm) (post : Int32 → Hp → Prop) (h : Hp) (s0 : Int32) : Prop := post s0 h
set_option maxHeartbeats 4000000 in
set_option maxRecDepth 100000 in
theorem wk_M_ring_27 {p : Program} {l : Launch} {e : Env} {s : State} {m : MethodId} {args : Array Value} {below : List Frame} {meth : Method} {c : Code} {g : Gm} {post : Int32 → Hp → Prop} (C0 : Cx g p s m args c prog_6_method_31_code 2 "SegmentLocksModel") (hr : meth.sig.returnType = (some .int)) (hlk : meth.locks = false) : ∀ (h : Hp) (s0 : Int32) (H : Heap) (locs : List Loc) (ls : Array Slot), wp_M_ring_27 g post h s0 → GH g h H → va_S (gA g) s.heap H locs → lv_has ls 2 [] → W p l e (rmm 0 0 0 0) s m args below meth c H locs 0 0 (MQ below (va_Qi post (gS g) (gA g)) args s 0 0 (gA g)) (F0 m 27 ls [.int s0]) := by
  obtain ⟨hx, hb, -, hown, hts, hgk⟩ := id C0
  intro h s0 H locs ls hw hG hS hl
  unfold wp_M_ring_27 at hw
  exact re_i C0 hG hS hr hlk ⟨Nat.le_refl _, Nat.le_refl _⟩ hw dd_M_ring_27
def wp_M_ring_26 (g : Gm) (post : Int32 → Hp → Prop) (h : Hp) : Prop := wp_M_ring_27 g post h 0
set_option maxHeartbeats 4000000 in
set_option maxRecDepth 100000 in
theorem wk_M_ring_26 {p : Program} {l : Launch} {e : Env} {s : State} {m : MethodId} {args : Array Value} {below : List Frame} {meth : Method} {c : Code} {g : Gm} {post : Int32 → Hp → Prop} (C0 : Cx g p s m args c prog_6_method_31_code 2 "SegmentLocksModel") (hr : meth.sig.returnType = (some .int)) (hlk : meth.locks = false) : ∀ (h : Hp) (H : Heap) (locs : List Loc) (ls : Array Slot), wp_M_ring_26 g post h → GH g h H → va_S (gA g) s.heap H locs → lv_has ls 2 [] → W p l e (rmm 0 0 0 0) s m args below meth c H locs 0 0 (MQ below (va_Qi post (gS g) (gA g)) args s 0 0 (gA g)) (F0 m 26 ls []) := by
  obtain ⟨hx, hb, -, hown, hts, hgk⟩ := id C0
  intro h H locs ls hw hG hS hl
  unfold wp_M_ring_26 at hw
  refine lv_iconst (v := 0) hx hb dd_M_ring_26 (by decide) ?_
  exact wk_M_ring_27 C0 hr hlk _ _ _ _ _ hw hG hS (lv_sub hl [] rfl)
def wp_M_ring (g : Gm) (post : Int32 → Hp → Prop) (h : Hp) (a0 : Nat) (i1 : Int32) : Prop := hK h a0 = 5 ∧ ∀ h2 : Hp, h2 = sI h a0 0 0 → ((i1 < 0 → wp_M_ring_26 g post h2) ∧ (¬ i1 < 0 → hK h2 a0 = 5 ∧ (((hI h2 a0 25) ≤ i1 → wp_M_ring_26 g post h2) ∧ (¬ (hI h2 a0 25) ≤ i1 → hK h2 a0 = 5 ∧ ∃ a7 : Nat, hR h2 a0 21 = some a7 ∧ hK h2 a7 = 21 ∧ vp_in i1 (hN h2 a7) ∧ wp_M_ring_27 g post h2 (hI h2 a7 i1.toNatClampNeg)))))
set_option maxHeartbeats 4000000 in
set_option maxRecDepth 100000 in
theorem c_M_ring (l : Launch) (g : Gm) (post : Int32 → Hp → Prop) (h : Hp) (a0 : Nat) (i1 : Int32) (hw : wp_M_ring g post h a0 i1) : Met l (⟨"SegmentLocksModel", "ring", "(I)I"⟩ : MethodName) (ww (⟨"SegmentLocksModel", "ring", "(I)I"⟩ : MethodName) prog_6_method_31_code 2 (some .int)) (rmm 0 0 0 0) (va_Pc [.ref a0, .int i1] (gS g h)) (va_Qi post (gS g) (gA g)) 0 0 (gA g) := by
  first | refine en_met (by decide) ?_ | refine en_metF (by decide) ?_
  intro p e s m below meth c C0 hr hlk hin hG
  have hS : va_S (gA g) s.heap s.heap [] := va_S.rf
  have hl := lv_entry ([.ref a0, .int i1]) (n := 2) (Nat.le_of_ble_eq_true rfl)
  rw [lg_entry_eq]
  generalize (lg_sl ([.ref a0, .int i1]) ++ List.replicate (2 - (lg_sl ([.ref a0, .int i1])).length) Slot.unset).toArray = ls at hl ⊢
  replace hl : lv_has ls 2 [(0, .ref a0), (1, .int i1)] := hl
  obtain ⟨hx, hb, -, hown, hts, hgk⟩ := id C0
  unfold wp_M_ring at hw
  refine lv_aload_n hx hb dd_M_ring_0 rfl (lv_at hl 0 rfl) ?_
  refine lv_iconst (v := 0) hx hb dd_M_ring_1 (by decide) ?_
  obtain ⟨k1, hw⟩ := hw
  refine pf_M_72 C0 hG hS k1 dd_M_ring_2 (fun H locs hG hS => ?_)
  replace hw := hw _ rfl
  generalize sI h a0 0 0 = h2 at hw hG
  refine lv_iload_n hx hb dd_M_ring_5 rfl (lv_at hl 1 rfl) ?_
  refine lv_if_lt (tgt := 26) hx hb dd_M_ring_6 (by decide) (fun c3 => ?_) (fun c3 => ?_)
  · replace hw := hw.1 c3
    exact wk_M_ring_26 C0 hr hlk _ _ _ _ hw hG hS (lv_sub hl [] rfl)
  · replace hw := hw.2 c3
    refine lv_iload_n hx hb dd_M_ring_9 rfl (lv_at hl 1 rfl) ?_
    refine lv_aload_n hx hb dd_M_ring_10 rfl (lv_at hl 0 rfl) ?_
    obtain ⟨k4, hw⟩ := hw
    refine gf_M_117 C0 hG k4 dd_M_ring_11 ?_
    refine lv_icmp_ge (tgt := 26) hx hb dd_M_ring_14 (by decide) (fun c5 => ?_) (fun c5 => ?_)
    · replace hw := hw.1 c5
      exact wk_M_ring_26 C0 hr hlk _ _ _ _ hw hG hS (lv_sub hl [] rfl)
    · replace hw := hw.2 c5
      refine lv_aload_n hx hb dd_M_ring_17 rfl (lv_at hl 0 rfl) ?_
      obtain ⟨k6, a7, ea7, hw⟩ := hw
      refine gf_M_60 C0 hG k6 ea7 dd_M_ring_18 ?_
      refine lv_iload_n hx hb dd_M_ring_21 rfl (lv_at hl 1 rfl) ?_
      obtain ⟨k8, k8i, hw⟩ := hw
      refine px_iald C0 hG k8 k8i dd_M_ring_22 ?_
      refine lv_goto (tgt := 27) hx hb dd_M_ring_23 (by decide) ?_
      exact wk_M_ring_27 C0 hr hlk _ _ _ _ _ hw hG hS (lv_sub hl [] rfl)
/-! SegmentLocksModel.limit(I)I -/
theorem dd_M_limit_0 : decode prog_6_method_32_code 0 = .ok (.aload_n 0, 1) := by decide +kernel
theorem dd_M_limit_1 : decode prog_6_method_32_code 1 = .ok (.iconst 0, 1) := by decide +kernel
theorem dd_M_limit_2 : decode prog_6_method_32_code 2 = .ok (.putfield 72, 3) := by decide +kernel
theorem dd_M_limit_5 : decode prog_6_method_32_code 5 = .ok (.iload_n 1, 1) := by decide +kernel
theorem dd_M_limit_6 : decode prog_6_method_32_code 6 = .ok (.ifCond .ge 6, 3) := by decide +kernel
theorem dd_M_limit_9 : decode prog_6_method_32_code 9 = .ok (.bipush (-4), 2) := by decide +kernel
theorem dd_M_limit_11 : decode prog_6_method_32_code 11 = .ok (.ireturn, 1) := by decide +kernel
theorem dd_M_limit_12 : decode prog_6_method_32_code 12 = .ok (.aload_n 0, 1) := by decide +kernel
theorem dd_M_limit_13 : decode prog_6_method_32_code 13 = .ok (.getfield 127, 3) := by decide +kernel
theorem dd_M_limit_16 : decode prog_6_method_32_code 16 = .ok (.istore_n 2, 1) := by decide +kernel
theorem dd_M_limit_17 : decode prog_6_method_32_code 17 = .ok (.aload_n 0, 1) := by decide +kernel
theorem dd_M_limit_18 : decode prog_6_method_32_code 18 = .ok (.iload_n 1, 1) := by decide +kernel
theorem dd_M_limit_19 : decode prog_6_method_32_code 19 = .ok (.putfield 127, 3) := by decide +kernel
theorem dd_M_limit_22 : decode prog_6_method_32_code 22 = .ok (.iload_n 2, 1) := by decide +kernel
theorem dd_M_limit_23 : decode prog_6_method_32_code 23 = .ok (.ireturn, 1) := by decide +kernel
def wp_M_limit (g : Gm) (post : Int32 → Hp → Prop) (h : Hp) (a0 : Nat) (i1 : Int32) : Prop := hK h a0 = 5 ∧ ∀ h2 : Hp, h2 = sI h a0 0 0 → ((0 ≤ i1 → hK h2 a0 = 5 ∧ hK h2 a0 = 5 ∧ ∀ h6 : Hp, h6 = sI h2 a0 3 i1 → post (hI h2 a0 3) h6) ∧ (¬ 0 ≤ i1 → post (-4) h2))
set_option maxHeartbeats 4000000 in
set_option maxRecDepth 100000 in
theorem c_M_limit (l : Launch) (g : Gm) (post : Int32 → Hp → Prop) (h : Hp) (a0 : Nat) (i1 : Int32) (hw : wp_M_limit g post h a0 i1) : Met l (⟨"SegmentLocksModel", "limit", "(I)I"⟩ : MethodName) (ww (⟨"SegmentLocksModel", "limit", "(I)I"⟩ : MethodName) prog_6_method_32_code 3 (some .int)) (rmm 0 0 0 0) (va_Pc [.ref a0, .int i1] (gS g h)) (va_Qi post (gS g) (gA g)) 0 0 (gA g) := by
  first | refine en_met (by decide) ?_ | refine en_metF (by decide) ?_
  intro p e s m below meth c C0 hr hlk hin hG
  have hS : va_S (gA g) s.heap s.heap [] := va_S.rf
  have hl := lv_entry ([.ref a0, .int i1]) (n := 3) (Nat.le_of_ble_eq_true rfl)
  rw [lg_entry_eq]
  generalize (lg_sl ([.ref a0, .int i1]) ++ List.replicate (3 - (lg_sl ([.ref a0, .int i1])).length) Slot.unset).toArray = ls at hl ⊢
  replace hl : lv_has ls 3 [(0, .ref a0), (1, .int i1)] := hl
  obtain ⟨hx, hb, -, hown, hts, hgk⟩ := id C0
  unfold wp_M_limit at hw
  refine lv_aload_n hx hb dd_M_limit_0 rfl (lv_at hl 0 rfl) ?_
  refine lv_iconst (v := 0) hx hb dd_M_limit_1 (by decide) ?_
  obtain ⟨k1, hw⟩ := hw
  refine pf_M_72 C0 hG hS k1 dd_M_limit_2 (fun H locs hG hS => ?_)
  replace hw := hw _ rfl
  generalize sI h a0 0 0 = h2 at hw hG
  refine lv_iload_n hx hb dd_M_limit_5 rfl (lv_at hl 1 rfl) ?_
  refine lv_if_ge (tgt := 12) hx hb dd_M_limit_6 (by decide) (fun c3 => ?_) (fun c3 => ?_)
  · replace hw := hw.1 c3
    refine lv_aload_n hx hb dd_M_limit_12 rfl (lv_at hl 0 rfl) ?_
    obtain ⟨k4, hw⟩ := hw
    refine gf_M_127 C0 hG k4 dd_M_limit_13 ?_
    have hl0 := hl
    clear hl
    refine lv_istore_n (lv' := [(2, .int (hI h2 a0 3)), (0, .ref a0), (1, .int i1)]) hx hb dd_M_limit_16 rfl hl0 (by decide) rfl (fun ls hl => ?_)
    refine lv_aload_n hx hb dd_M_limit_17 rfl (lv_at hl 1 rfl) ?_
    refine lv_iload_n hx hb dd_M_limit_18 rfl (lv_at hl 2 rfl) ?_
    obtain ⟨k5, hw⟩ := hw
    refine pf_M_127 C0 hG hS k5 dd_M_limit_19 (fun H locs hG hS => ?_)
    replace hw := hw _ rfl
    generalize sI h2 a0 3 i1 = h6 at hw hG
    refine lv_iload_n hx hb dd_M_limit_22 rfl (lv_at hl 0 rfl) ?_
    exact re_i C0 hG hS hr hlk ⟨Nat.le_refl _, Nat.le_refl _⟩ hw dd_M_limit_23
  · replace hw := hw.2 c3
    refine lv_bipush (v := (-4)) hx hb dd_M_limit_9 (by decide) ?_
    exact re_i C0 hG hS hr hlk ⟨Nat.le_refl _, Nat.le_refl _⟩ hw dd_M_limit_11
/-! SegmentLocksModel.holder(I)I -/
theorem dd_M_holder_0 : decode prog_6_method_33_code 0 = .ok (.aload_n 0, 1) := by decide +kernel
theorem dd_M_holder_1 : decode prog_6_method_33_code 1 = .ok (.iconst 0, 1) := by decide +kernel
theorem dd_M_holder_2 : decode prog_6_method_33_code 2 = .ok (.putfield 72, 3) := by decide +kernel
theorem dd_M_holder_5 : decode prog_6_method_33_code 5 = .ok (.iload_n 1, 1) := by decide +kernel
theorem dd_M_holder_6 : decode prog_6_method_33_code 6 = .ok (.invokestatic 124, 3) := by decide +kernel
theorem dd_M_holder_9 : decode prog_6_method_33_code 9 = .ok (.ifCond .ne 6, 3) := by decide +kernel
theorem dd_M_holder_12 : decode prog_6_method_33_code 12 = .ok (.bipush (-4), 2) := by decide +kernel
theorem dd_M_holder_14 : decode prog_6_method_33_code 14 = .ok (.ireturn, 1) := by decide +kernel
theorem dd_M_holder_15 : decode prog_6_method_33_code 15 = .ok (.iconst 0, 1) := by decide +kernel
theorem dd_M_holder_16 : decode prog_6_method_33_code 16 = .ok (.istore_n 2, 1) := by decide +kernel
theorem dd_M_holder_17 : decode prog_6_method_33_code 17 = .ok (.aload_n 0, 1) := by decide +kernel
theorem dd_M_holder_18 : decode prog_6_method_33_code 18 = .ok (.getfield 76, 3) := by decide +kernel
theorem dd_M_holder_21 : decode prog_6_method_33_code 21 = .ok (.istore_n 3, 1) := by decide +kernel
theorem dd_M_holder_22 : decode prog_6_method_33_code 22 = .ok (.iload_n 3, 1) := by decide +kernel
theorem dd_M_holder_23 : decode prog_6_method_33_code 23 = .ok (.ifCond .le 56, 3) := by decide +kernel
theorem dd_M_holder_26 : decode prog_6_method_33_code 26 = .ok (.aload_n 0, 1) := by decide +kernel
theorem dd_M_holder_27 : decode prog_6_method_33_code 27 = .ok (.getfield 29, 3) := by decide +kernel
theorem dd_M_holder_30 : decode prog_6_method_33_code 30 = .ok (.iload_n 3, 1) := by decide +kernel
theorem dd_M_holder_31 : decode prog_6_method_33_code 31 = .ok (.iload_n 1, 1) := by decide +kernel
theorem dd_M_holder_32 : decode prog_6_method_33_code 32 = .ok (.invokestatic 79, 3) := by decide +kernel
theorem dd_M_holder_35 : decode prog_6_method_33_code 35 = .ok (.iaload, 1) := by decide +kernel
theorem dd_M_holder_36 : decode prog_6_method_33_code 36 = .ok (.iconst (-1), 1) := by decide +kernel
theorem dd_M_holder_37 : decode prog_6_method_33_code 37 = .ok (.if_icmp .eq 34, 3) := by decide +kernel
theorem dd_M_holder_40 : decode prog_6_method_33_code 40 = .ok (.iload_n 2, 1) := by decide +kernel
theorem dd_M_holder_41 : decode prog_6_method_33_code 41 = .ok (.ifCond .eq 26, 3) := by decide +kernel
theorem dd_M_holder_44 : decode prog_6_method_33_code 44 = .ok (.aload_n 0, 1) := by decide +kernel
theorem dd_M_holder_45 : decode prog_6_method_33_code 45 = .ok (.getfield 29, 3) := by decide +kernel
theorem dd_M_holder_48 : decode prog_6_method_33_code 48 = .ok (.iload_n 3, 1) := by decide +kernel
theorem dd_M_holder_49 : decode prog_6_method_33_code 49 = .ok (.iload_n 1, 1) := by decide +kernel
theorem dd_M_holder_50 : decode prog_6_method_33_code 50 = .ok (.invokestatic 79, 3) := by decide +kernel
theorem dd_M_holder_53 : decode prog_6_method_33_code 53 = .ok (.iaload, 1) := by decide +kernel
theorem dd_M_holder_54 : decode prog_6_method_33_code 54 = .ok (.aload_n 0, 1) := by decide +kernel
theorem dd_M_holder_55 : decode prog_6_method_33_code 55 = .ok (.getfield 29, 3) := by decide +kernel
theorem dd_M_holder_58 : decode prog_6_method_33_code 58 = .ok (.iload_n 2, 1) := by decide +kernel
theorem dd_M_holder_59 : decode prog_6_method_33_code 59 = .ok (.iload_n 1, 1) := by decide +kernel
theorem dd_M_holder_60 : decode prog_6_method_33_code 60 = .ok (.invokestatic 79, 3) := by decide +kernel
theorem dd_M_holder_63 : decode prog_6_method_33_code 63 = .ok (.iaload, 1) := by decide +kernel
theorem dd_M_holder_64 : decode prog_6_method_33_code 64 = .ok (.if_icmp .lt 7, 3) := by decide +kernel
theorem dd_M_holder_67 : decode prog_6_method_33_code 67 = .ok (.iload_n 3, 1) := by decide +kernel
theorem dd_M_holder_68 : decode prog_6_method_33_code 68 = .ok (.goto 4, 3) := by decide +kernel
theorem dd_M_holder_71 : decode prog_6_method_33_code 71 = .ok (.iload_n 2, 1) := by decide +kernel
theorem dd_M_holder_72 : decode prog_6_method_33_code 72 = .ok (.istore_n 2, 1) := by decide +kernel
theorem dd_M_holder_73 : decode prog_6_method_33_code 73 = .ok (.iinc 3 (-1), 3) := by decide +kernel
theorem dd_M_holder_76 : decode prog_6_method_33_code 76 = .ok (.goto (-54), 3) := by decide +kernel
theorem dd_M_holder_79 : decode prog_6_method_33_code 79 = .ok (.iload_n 2, 1) := by decide +kernel
theorem dd_M_holder_80 : decode prog_6_method_33_code 80 = .ok (.ireturn, 1) := by decide +kernel
def wp_M_holder_72 (g : Gm) (post : Int32 → Hp → Prop) (K22 : Hp → Nat → Int32 → Int32 → Int32 → Prop) (h : Hp) (v0 : Nat) (v1 : Int32) (v3 : Int32) (s0 : Int32) : Prop := ∀ x1 : Int32, x1 = v3 + (-1) → K22 h v0 v1 s0 x1
set_option maxHeartbeats 4000000 in
set_option maxRecDepth 100000 in
theorem wk_M_holder_72 {p : Program} {l : Launch} {e : Env} {s : State} {m : MethodId} {args : Array Value} {below : List Frame} {meth : Method} {c : Code} {g : Gm} {post : Int32 → Hp → Prop} (C0 : Cx g p s m args c prog_6_method_33_code 4 "SegmentLocksModel") (hr : meth.sig.returnType = (some .int)) (hlk : meth.locks = false) {K22 : Hp → Nat → Int32 → Int32 → Int32 → Prop} (hK22 : ∀ (h : Hp) (v0 : Nat) (v1 : Int32) (v2 : Int32) (v3 : Int32) (H : Heap) (locs : List Loc) (ls : Array Slot), K22 h v0 v1 v2 v3 → GH g h H → va_S (gA g) s.heap H locs → lv_has ls 4 [(0, .ref v0), (1, .int v1), (2, .int v2), (3, .int v3)] → W p l e (rmm 1 21 0 0) s m args below meth c H locs 0 0 (MQ below (va_Qi post (gS g) (gA g)) args s 0 0 (gA g)) (F0 m 22 ls [])) : ∀ (h : Hp) (v0 : Nat) (v1 : Int32) (v3 : Int32) (s0 : Int32) (H : Heap) (locs : List Loc) (ls : Array Slot), wp_M_holder_72 g post K22 h v0 v1 v3 s0 → GH g h H → va_S (gA g) s.heap H locs → lv_has ls 4 [(0, .ref v0), (1, .int v1), (3, .int v3)] → W p l e (rmm 1 21 0 0) s m args below meth c H locs 0 0 (MQ below (va_Qi post (gS g) (gA g)) args s 0 0 (gA g)) (F0 m 72 ls [.int s0]) := by
  obtain ⟨hx, hb, -, hown, hts, hgk⟩ := id C0
  intro h v0 v1 v3 s0 H locs ls hw hG hS hl
  unfold wp_M_holder_72 at hw
  have hl0 := hl
  clear hl
  refine lv_istore_n (lv' := [(2, .int s0), (0, .ref v0), (1, .int v1), (3, .int v3)]) hx hb dd_M_holder_72 rfl hl0 (by decide) rfl (fun ls hl => ?_)
  obtain ⟨x1, ex1⟩ : ∃ y : Int32, y = v3 + (-1) := ⟨_, rfl⟩
  replace hw := hw x1 ex1
  have hl0 := hl
  clear hl
  refine lv_iinc (v := x1) (lv' := [(3, .int x1), (2, .int s0), (0, .ref v0), (1, .int v1)]) hx hb dd_M_holder_73 hl0 (k := 3) rfl (by rw [ex1]; rfl) (by decide) rfl (fun ls hl => ?_)
  refine lv_goto (tgt := 22) hx hb dd_M_holder_76 (by decide) ?_
  exact hK22 _ _ _ _ _ _ _ _ hw hG hS (lv_sub hl [2, 3, 1, 0] rfl)
def wp_M_holder_71 (g : Gm) (post : Int32 → Hp → Prop) (K22 : Hp → Nat → Int32 → Int32 → Int32 → Prop) (h : Hp) (v0 : Nat) (v1 : Int32) (v2 : Int32) (v3 : Int32) : Prop := wp_M_holder_72 g post K22 h v0 v1 v3 v2
set_option maxHeartbeats 4000000 in
set_option maxRecDepth 100000 in
theorem wk_M_holder_71 {p : Program} {l : Launch} {e : Env} {s : State} {m : MethodId} {args : Array Value} {below : List Frame} {meth : Method} {c : Code} {g : Gm} {post : Int32 → Hp → Prop} (C0 : Cx g p s m args c prog_6_method_33_code 4 "SegmentLocksModel") (hr : meth.sig.returnType = (some .int)) (hlk : meth.locks = false) {K22 : Hp → Nat → Int32 → Int32 → Int32 → Prop} (hK22 : ∀ (h : Hp) (v0 : Nat) (v1 : Int32) (v2 : Int32) (v3 : Int32) (H : Heap) (locs : List Loc) (ls : Array Slot), K22 h v0 v1 v2 v3 → GH g h H → va_S (gA g) s.heap H locs → lv_has ls 4 [(0, .ref v0), (1, .int v1), (2, .int v2), (3, .int v3)] → W p l e (rmm 1 21 0 0) s m args below meth c H locs 0 0 (MQ below (va_Qi post (gS g) (gA g)) args s 0 0 (gA g)) (F0 m 22 ls [])) : ∀ (h : Hp) (v0 : Nat) (v1 : Int32) (v2 : Int32) (v3 : Int32) (H : Heap) (locs : List Loc) (ls : Array Slot), wp_M_holder_71 g post K22 h v0 v1 v2 v3 → GH g h H → va_S (gA g) s.heap H locs → lv_has ls 4 [(0, .ref v0), (1, .int v1), (2, .int v2), (3, .int v3)] → W p l e (rmm 1 21 0 0) s m args below meth c H locs 0 0 (MQ below (va_Qi post (gS g) (gA g)) args s 0 0 (gA g)) (F0 m 71 ls []) := by
  obtain ⟨hx, hb, -, hown, hts, hgk⟩ := id C0
  intro h v0 v1 v2 v3 H locs ls hw hG hS hl
  unfold wp_M_holder_71 at hw
  refine lv_iload_n hx hb dd_M_holder_71 rfl (lv_at hl 2 rfl) ?_
  exact wk_M_holder_72 C0 hr hlk hK22 _ _ _ _ _ _ _ _ hw hG hS (lv_sub hl [0, 1, 3] rfl)
def wp_M_holder_67 (g : Gm) (post : Int32 → Hp → Prop) (K22 : Hp → Nat → Int32 → Int32 → Int32 → Prop) (h : Hp) (v0 : Nat) (v1 : Int32) (v3 : Int32) : Prop := wp_M_holder_72 g post K22 h v0 v1 v3 v3
set_option maxHeartbeats 4000000 in
set_option maxRecDepth 100000 in
theorem wk_M_holder_67 {p : Program} {l : Launch} {e : Env} {s : State} {m : MethodId} {args : Array Value} {below : List Frame} {meth : Method} {c : Code} {g : Gm} {post : Int32 → Hp → Prop} (C0 : Cx g p s m args c prog_6_method_33_code 4 "SegmentLocksModel") (hr : meth.sig.returnType = (some .int)) (hlk : meth.locks = false) {K22 : Hp → Nat → Int32 → Int32 → Int32 → Prop} (hK22 : ∀ (h : Hp) (v0 : Nat) (v1 : Int32) (v2 : Int32) (v3 : Int32) (H : Heap) (locs : List Loc) (ls : Array Slot), K22 h v0 v1 v2 v3 → GH g h H → va_S (gA g) s.heap H locs → lv_has ls 4 [(0, .ref v0), (1, .int v1), (2, .int v2), (3, .int v3)] → W p l e (rmm 1 21 0 0) s m args below meth c H locs 0 0 (MQ below (va_Qi post (gS g) (gA g)) args s 0 0 (gA g)) (F0 m 22 ls [])) : ∀ (h : Hp) (v0 : Nat) (v1 : Int32) (v3 : Int32) (H : Heap) (locs : List Loc) (ls : Array Slot), wp_M_holder_67 g post K22 h v0 v1 v3 → GH g h H → va_S (gA g) s.heap H locs → lv_has ls 4 [(0, .ref v0), (1, .int v1), (3, .int v3)] → W p l e (rmm 1 21 0 0) s m args below meth c H locs 0 0 (MQ below (va_Qi post (gS g) (gA g)) args s 0 0 (gA g)) (F0 m 67 ls []) := by
  obtain ⟨hx, hb, -, hown, hts, hgk⟩ := id C0
  intro h v0 v1 v3 H locs ls hw hG hS hl
  unfold wp_M_holder_67 at hw
  refine lv_iload_n hx hb dd_M_holder_67 rfl (lv_at hl 2 rfl) ?_
  refine lv_goto (tgt := 72) hx hb dd_M_holder_68 (by decide) ?_
  exact wk_M_holder_72 C0 hr hlk hK22 _ _ _ _ _ _ _ _ hw hG hS (lv_sub hl [0, 1, 2] rfl)
def wp_M_holder_22 (g : Gm) (post : Int32 → Hp → Prop) : Nat → Hp → Nat → Int32 → Int32 → Int32 → Prop
  | 0, _, _, _, _, _ => False
  | fu + 1, h, v0, v1, v2, v3 => ((v3 ≤ 0 → post v2 h) ∧ (¬ v3 ≤ 0 → hK h v0 = 5 ∧ ∃ a3 : Nat, hR h v0 9 = some a3 ∧ wp_M_of g (fun x6 => hK h a3 = 21 ∧ vp_in x6 (hN h a3) ∧ (((hI h a3 x6.toNatClampNeg) = (-1) → wp_M_holder_71 g post (fun h v0 v1 v2 v3 => wp_M_holder_22 g post fu h v0 v1 v2 v3) h v0 v1 v2 v3) ∧ (¬ (hI h a3 x6.toNatClampNeg) = (-1) → ((v2 = 0 → wp_M_holder_67 g post (fun h v0 v1 v2 v3 => wp_M_holder_22 g post fu h v0 v1 v2 v3) h v0 v1 v3) ∧ (¬ v2 = 0 → hK h v0 = 5 ∧ ∃ a11 : Nat, hR h v0 9 = some a11 ∧ wp_M_of g (fun x14 => hK h a11 = 21 ∧ vp_in x14 (hN h a11) ∧ hK h v0 = 5 ∧ ∃ a17 : Nat, hR h v0 9 = some a17 ∧ wp_M_of g (fun x20 => hK h a17 = 21 ∧ vp_in x20 (hN h a17) ∧ (((hI h a11 x14.toNatClampNeg) < (hI h a17 x20.toNatClampNeg) → wp_M_holder_71 g post (fun h v0 v1 v2 v3 => wp_M_holder_22 g post fu h v0 v1 v2 v3) h v0 v1 v2 v3) ∧ (¬ (hI h a11 x14.toNatClampNeg) < (hI h a17 x20.toNatClampNeg) → wp_M_holder_67 g post (fun h v0 v1 v2 v3 => wp_M_holder_22 g post fu h v0 v1 v2 v3) h v0 v1 v3))) h v2 v1) h v3 v1))))) h v3 v1))
set_option maxHeartbeats 4000000 in
set_option maxRecDepth 100000 in
theorem wk_M_holder_22 {p : Program} {l : Launch} {e : Env} {s : State} {m : MethodId} {args : Array Value} {below : List Frame} {meth : Method} {c : Code} {g : Gm} {post : Int32 → Hp → Prop} (C0 : Cx g p s m args c prog_6_method_33_code 4 "SegmentLocksModel") (hr : meth.sig.returnType = (some .int)) (hlk : meth.locks = false) : ∀ n : Nat, ∀ (h : Hp) (v0 : Nat) (v1 : Int32) (v2 : Int32) (v3 : Int32) (H : Heap) (locs : List Loc) (ls : Array Slot), wp_M_holder_22 g post n h v0 v1 v2 v3 → GH g h H → va_S (gA g) s.heap H locs → lv_has ls 4 [(0, .ref v0), (1, .int v1), (2, .int v2), (3, .int v3)] → W p l e (rmm 1 21 0 0) s m args below meth c H locs 0 0 (MQ below (va_Qi post (gS g) (gA g)) args s 0 0 (gA g)) (F0 m 22 ls []) := by
  obtain ⟨hx, hb, -, hown, hts, hgk⟩ := id C0
  intro n
  induction n with
  | zero =>
    intro h v0 v1 v2 v3 H locs ls hw hG hS hl
    exact hw.elim
  | succ n ih =>
    intro h v0 v1 v2 v3 H locs ls hw hG hS hl
    unfold wp_M_holder_22 at hw
    refine lv_iload_n hx hb dd_M_holder_22 rfl (lv_at hl 3 rfl) ?_
    refine lv_if_le (tgt := 79) hx hb dd_M_holder_23 (by decide) (fun c1 => ?_) (fun c1 => ?_)
    · replace hw := hw.1 c1
      refine lv_iload_n hx hb dd_M_holder_79 rfl (lv_at hl 2 rfl) ?_
      exact re_i C0 hG hS hr hlk ⟨Nat.le_refl _, Nat.le_refl _⟩ hw dd_M_holder_80
    · replace hw := hw.2 c1
      refine lv_aload_n hx hb dd_M_holder_26 rfl (lv_at hl 0 rfl) ?_
      obtain ⟨k2, a3, ea3, hw⟩ := hw
      refine gf_M_29 C0 hG k2 ea3 dd_M_holder_27 ?_
      refine lv_iload_n hx hb dd_M_holder_30 rfl (lv_at hl 3 rfl) ?_
      refine lv_iload_n hx hb dd_M_holder_31 rfl (lv_at hl 1 rfl) ?_
      have hw0 := hw
      clear hw
      refine cs_i (rn_S C0 hG hS (c_M_of l g _ h v3 v1 hw0) (host := "") (nest := false) (n := 2) (As := [.int v3, .int v1]) (rest := [.ref a3]) km_420 km_419 km_422 km_421 ⟨by decide, by decide, by decide +kernel⟩ ⟨Nat.le_of_ble_eq_true rfl, Nat.le_of_ble_eq_true rfl⟩ rfl hl.1 rfl (Nat.le_of_ble_eq_true rfl) dd_M_holder_32 ⟨Nat.le_refl _, Nat.le_refl _⟩) (fun x6 hw => ?_)
      obtain ⟨k7, k7i, hw⟩ := hw
      refine px_iald C0 hG k7 k7i dd_M_holder_35 ?_
      refine lv_iconst (v := (-1)) hx hb dd_M_holder_36 (by decide) ?_
      refine lv_icmp_eq (tgt := 71) hx hb dd_M_holder_37 (by decide) (fun c8 => ?_) (fun c8 => ?_)
      · replace hw := hw.1 c8
        exact wk_M_holder_71 C0 hr hlk ih _ _ _ _ _ _ _ _ hw hG hS (lv_sub hl [0, 1, 2, 3] rfl)
      · replace hw := hw.2 c8
        refine lv_iload_n hx hb dd_M_holder_40 rfl (lv_at hl 2 rfl) ?_
        refine lv_if_eq (tgt := 67) hx hb dd_M_holder_41 (by decide) (fun c9 => ?_) (fun c9 => ?_)
        · replace hw := hw.1 c9
          exact wk_M_holder_67 C0 hr hlk ih _ _ _ _ _ _ _ hw hG hS (lv_sub hl [0, 1, 3] rfl)
        · replace hw := hw.2 c9
          refine lv_aload_n hx hb dd_M_holder_44 rfl (lv_at hl 0 rfl) ?_
          obtain ⟨k10, a11, ea11, hw⟩ := hw
          refine gf_M_29 C0 hG k10 ea11 dd_M_holder_45 ?_
          refine lv_iload_n hx hb dd_M_holder_48 rfl (lv_at hl 3 rfl) ?_
          refine lv_iload_n hx hb dd_M_holder_49 rfl (lv_at hl 1 rfl) ?_
          have hw0 := hw
          clear hw
          refine cs_i (rn_S C0 hG hS (c_M_of l g _ h v3 v1 hw0) (host := "") (nest := false) (n := 2) (As := [.int v3, .int v1]) (rest := [.ref a11]) km_420 km_419 km_422 km_421 ⟨by decide, by decide, by decide +kernel⟩ ⟨Nat.le_of_ble_eq_true rfl, Nat.le_of_ble_eq_true rfl⟩ rfl hl.1 rfl (Nat.le_of_ble_eq_true rfl) dd_M_holder_50 ⟨Nat.le_refl _, Nat.le_refl _⟩) (fun x14 hw => ?_)
          obtain ⟨k15, k15i, hw⟩ := hw
          refine px_iald C0 hG k15 k15i dd_M_holder_53 ?_
          refine lv_aload_n hx hb dd_M_holder_54 rfl (lv_at hl 0 rfl) ?_
          obtain ⟨k16, a17, ea17, hw⟩ := hw
          refine gf_M_29 C0 hG k16 ea17 dd_M_holder_55 ?_
          refine lv_iload_n hx hb dd_M_holder_58 rfl (lv_at hl 2 rfl) ?_
          refine lv_iload_n hx hb dd_M_holder_59 rfl (lv_at hl 1 rfl) ?_
          have hw0 := hw
          clear hw
          refine cs_i (rn_S C0 hG hS (c_M_of l g _ h v2 v1 hw0) (host := "") (nest := false) (n := 2) (As := [.int v2, .int v1]) (rest := [.ref a17, .int (hI h a11 x14.toNatClampNeg)]) km_420 km_419 km_422 km_421 ⟨by decide, by decide, by decide +kernel⟩ ⟨Nat.le_of_ble_eq_true rfl, Nat.le_of_ble_eq_true rfl⟩ rfl hl.1 rfl (Nat.le_of_ble_eq_true rfl) dd_M_holder_60 ⟨Nat.le_refl _, Nat.le_refl _⟩) (fun x20 hw => ?_)
          obtain ⟨k21, k21i, hw⟩ := hw
          refine px_iald C0 hG k21 k21i dd_M_holder_63 ?_
          refine lv_icmp_lt (tgt := 71) hx hb dd_M_holder_64 (by decide) (fun c22 => ?_) (fun c22 => ?_)
          · replace hw := hw.1 c22
            exact wk_M_holder_71 C0 hr hlk ih _ _ _ _ _ _ _ _ hw hG hS (lv_sub hl [0, 1, 2, 3] rfl)
          · replace hw := hw.2 c22
            exact wk_M_holder_67 C0 hr hlk ih _ _ _ _ _ _ _ hw hG hS (lv_sub hl [0, 1, 3] rfl)
def wp_M_holder (g : Gm) (post : Int32 → Hp → Prop) (h : Hp) (a0 : Nat) (i1 : Int32) : Prop := hK h a0 = 5 ∧ ∀ h2 : Hp, h2 = sI h a0 0 0 → wp_M_isSegment g (fun x5 => ((¬ x5 = 0 → hK h2 a0 = 5 ∧ ∃ n : Nat, wp_M_holder_22 g post n h2 a0 i1 0 (hI h2 a0 2)) ∧ (x5 = 0 → post (-4) h2))) h2 i1
set_option maxHeartbeats 4000000 in
set_option maxRecDepth 100000 in
theorem c_M_holder (l : Launch) (g : Gm) (post : Int32 → Hp → Prop) (h : Hp) (a0 : Nat) (i1 : Int32) (hw : wp_M_holder g post h a0 i1) : Met l (⟨"SegmentLocksModel", "holder", "(I)I"⟩ : MethodName) (ww (⟨"SegmentLocksModel", "holder", "(I)I"⟩ : MethodName) prog_6_method_33_code 4 (some .int)) (rmm 1 21 0 0) (va_Pc [.ref a0, .int i1] (gS g h)) (va_Qi post (gS g) (gA g)) 0 0 (gA g) := by
  first | refine en_met (by decide) ?_ | refine en_metF (by decide) ?_
  intro p e s m below meth c C0 hr hlk hin hG
  have hS : va_S (gA g) s.heap s.heap [] := va_S.rf
  have hl := lv_entry ([.ref a0, .int i1]) (n := 4) (Nat.le_of_ble_eq_true rfl)
  rw [lg_entry_eq]
  generalize (lg_sl ([.ref a0, .int i1]) ++ List.replicate (4 - (lg_sl ([.ref a0, .int i1])).length) Slot.unset).toArray = ls at hl ⊢
  replace hl : lv_has ls 4 [(0, .ref a0), (1, .int i1)] := hl
  obtain ⟨hx, hb, -, hown, hts, hgk⟩ := id C0
  unfold wp_M_holder at hw
  refine lv_aload_n hx hb dd_M_holder_0 rfl (lv_at hl 0 rfl) ?_
  refine lv_iconst (v := 0) hx hb dd_M_holder_1 (by decide) ?_
  obtain ⟨k1, hw⟩ := hw
  refine pf_M_72 C0 hG hS k1 dd_M_holder_2 (fun H locs hG hS => ?_)
  replace hw := hw _ rfl
  generalize sI h a0 0 0 = h2 at hw hG
  refine lv_iload_n hx hb dd_M_holder_5 rfl (lv_at hl 1 rfl) ?_
  have hw0 := hw
  clear hw
  refine cs_i (rn_S C0 hG hS (c_M_isSegment l g _ h2 i1 hw0) (host := "") (nest := false) (n := 1) (As := [.int i1]) (rest := []) km_478 km_477 km_479 km_421 ⟨by decide, by decide, by decide +kernel⟩ ⟨Nat.le_of_ble_eq_true rfl, Nat.le_of_ble_eq_true rfl⟩ rfl hl.1 rfl (Nat.le_of_ble_eq_true rfl) dd_M_holder_6 ⟨Nat.le_refl _, Nat.le_refl _⟩) (fun x5 hw => ?_)
  refine lv_if_ne (tgt := 15) hx hb dd_M_holder_9 (by decide) (fun c6 => ?_) (fun c6 => ?_)
  · replace hw := hw.1 c6
    refine lv_iconst (v := 0) hx hb dd_M_holder_15 (by decide) ?_
    have hl0 := hl
    clear hl
    refine lv_istore_n (lv' := [(2, .int 0), (0, .ref a0), (1, .int i1)]) hx hb dd_M_holder_16 rfl hl0 (by decide) rfl (fun ls hl => ?_)
    refine lv_aload_n hx hb dd_M_holder_17 rfl (lv_at hl 1 rfl) ?_
    obtain ⟨k7, hw⟩ := hw
    refine gf_M_76 C0 hG k7 dd_M_holder_18 ?_
    have hl0 := hl
    clear hl
    refine lv_istore_n (lv' := [(3, .int (hI h2 a0 2)), (2, .int 0), (0, .ref a0), (1, .int i1)]) hx hb dd_M_holder_21 rfl hl0 (by decide) rfl (fun ls hl => ?_)
    obtain ⟨n, hw⟩ := hw
    exact wk_M_holder_22 C0 hr hlk n _ _ _ _ _ _ _ _ hw hG hS (lv_sub hl [2, 3, 1, 0] rfl)
  · replace hw := hw.2 c6
    refine lv_bipush (v := (-4)) hx hb dd_M_holder_12 (by decide) ?_
    exact re_i C0 hG hS hr hlk ⟨Nat.le_refl _, Nat.le_refl _⟩ hw dd_M_holder_14
/-! SegmentLocksModel.serial()Z -/
theorem dd_M_serial_0 : decode prog_6_method_34_code 0 = .ok (.aload_n 0, 1) := by decide +kernel
theorem dd_M_serial_1 : decode prog_6_method_34_code 1 = .ok (.iconst 0, 1) := by decide +kernel
theorem dd_M_serial_2 : decode prog_6_method_34_code 2 = .ok (.putfield 72, 3) := by decide +kernel
theorem dd_M_serial_5 : decode prog_6_method_34_code 5 = .ok (.aload_n 0, 1) := by decide +kernel
theorem dd_M_serial_6 : decode prog_6_method_34_code 6 = .ok (.getfield 156, 3) := by decide +kernel
theorem dd_M_serial_9 : decode prog_6_method_34_code 9 = .ok (.ifCond .ne 7, 3) := by decide +kernel
theorem dd_M_serial_12 : decode prog_6_method_34_code 12 = .ok (.iconst 1, 1) := by decide +kernel
theorem dd_M_serial_13 : decode prog_6_method_34_code 13 = .ok (.goto 4, 3) := by decide +kernel
theorem dd_M_serial_16 : decode prog_6_method_34_code 16 = .ok (.iconst 0, 1) := by decide +kernel
theorem dd_M_serial_17 : decode prog_6_method_34_code 17 = .ok (.ireturn, 1) := by decide +kernel
def wp_M_serial_17 (g : Gm) (post : Int32 → Hp → Prop) (h : Hp) (s0 : Int32) : Prop := zB s0 ∧ post s0 h
set_option maxHeartbeats 4000000 in
set_option maxRecDepth 100000 in
theorem wk_M_serial_17 {p : Program} {l : Launch} {e : Env} {s : State} {m : MethodId} {args : Array Value} {below : List Frame} {meth : Method} {c : Code} {g : Gm} {post : Int32 → Hp → Prop} (C0 : Cx g p s m args c prog_6_method_34_code 1 "SegmentLocksModel") (hr : meth.sig.returnType = (some .boolean)) (hlk : meth.locks = false) : ∀ (h : Hp) (s0 : Int32) (H : Heap) (locs : List Loc) (ls : Array Slot), wp_M_serial_17 g post h s0 → GH g h H → va_S (gA g) s.heap H locs → lv_has ls 1 [] → W p l e (rmm 0 0 0 0) s m args below meth c H locs 0 0 (MQ below (va_Qi post (gS g) (gA g)) args s 0 0 (gA g)) (F0 m 17 ls [.int s0]) := by
  obtain ⟨hx, hb, -, hown, hts, hgk⟩ := id C0
  intro h s0 H locs ls hw hG hS hl
  unfold wp_M_serial_17 at hw
  exact re_z C0 hG hS hr hlk ⟨Nat.le_refl _, Nat.le_refl _⟩ hw.1.nar hw.2 dd_M_serial_17
def wp_M_serial (g : Gm) (post : Int32 → Hp → Prop) (h : Hp) (a0 : Nat) : Prop := hK h a0 = 5 ∧ ∀ h2 : Hp, h2 = sI h a0 0 0 → hK h2 a0 = 5 ∧ ((¬ (hI h2 a0 26) = 0 → wp_M_serial_17 g post h2 0) ∧ ((hI h2 a0 26) = 0 → wp_M_serial_17 g post h2 1))
set_option maxHeartbeats 4000000 in
set_option maxRecDepth 100000 in
theorem c_M_serial (l : Launch) (g : Gm) (post : Int32 → Hp → Prop) (h : Hp) (a0 : Nat) (hw : wp_M_serial g post h a0) : Met l (⟨"SegmentLocksModel", "serial", "()Z"⟩ : MethodName) (ww (⟨"SegmentLocksModel", "serial", "()Z"⟩ : MethodName) prog_6_method_34_code 1 (some .boolean)) (rmm 0 0 0 0) (va_Pc [.ref a0] (gS g h)) (va_Qi post (gS g) (gA g)) 0 0 (gA g) := by
  first | refine en_met (by decide) ?_ | refine en_metF (by decide) ?_
  intro p e s m below meth c C0 hr hlk hin hG
  have hS : va_S (gA g) s.heap s.heap [] := va_S.rf
  have hl := lv_entry ([.ref a0]) (n := 1) (Nat.le_of_ble_eq_true rfl)
  rw [lg_entry_eq]
  generalize (lg_sl ([.ref a0]) ++ List.replicate (1 - (lg_sl ([.ref a0])).length) Slot.unset).toArray = ls at hl ⊢
  replace hl : lv_has ls 1 [(0, .ref a0)] := hl
  obtain ⟨hx, hb, -, hown, hts, hgk⟩ := id C0
  unfold wp_M_serial at hw
  refine lv_aload_n hx hb dd_M_serial_0 rfl (lv_at hl 0 rfl) ?_
  refine lv_iconst (v := 0) hx hb dd_M_serial_1 (by decide) ?_
  obtain ⟨k1, hw⟩ := hw
  refine pf_M_72 C0 hG hS k1 dd_M_serial_2 (fun H locs hG hS => ?_)
  replace hw := hw _ rfl
  generalize sI h a0 0 0 = h2 at hw hG
  refine lv_aload_n hx hb dd_M_serial_5 rfl (lv_at hl 0 rfl) ?_
  obtain ⟨k3, hw⟩ := hw
  refine gf_M_156 C0 hG k3 dd_M_serial_6 ?_
  refine lv_if_ne (tgt := 16) hx hb dd_M_serial_9 (by decide) (fun c4 => ?_) (fun c4 => ?_)
  · replace hw := hw.1 c4
    refine lv_iconst (v := 0) hx hb dd_M_serial_16 (by decide) ?_
    exact wk_M_serial_17 C0 hr hlk _ _ _ _ _ hw hG hS (lv_sub hl [] rfl)
  · replace hw := hw.2 c4
    refine lv_iconst (v := 1) hx hb dd_M_serial_12 (by decide) ?_
    refine lv_goto (tgt := 17) hx hb dd_M_serial_13 (by decide) ?_
    exact wk_M_serial_17 C0 hr hlk _ _ _ _ _ hw hG hS (lv_sub hl [] rfl)
/-! SegmentLocksModel.value(I)J -/
theorem dd_M_value_0 : decode prog_6_method_35_code 0 = .ok (.aload_n 0, 1) := by decide +kernel
theorem dd_M_value_1 : decode prog_6_method_35_code 1 = .ok (.iload_n 1, 1) := by decide +kernel
theorem dd_M_value_2 : decode prog_6_method_35_code 2 = .ok (.invokestatic 124, 3) := by decide +kernel
theorem dd_M_value_5 : decode prog_6_method_35_code 5 = .ok (.ifCond .eq 7, 3) := by decide +kernel
theorem dd_M_value_8 : decode prog_6_method_35_code 8 = .ok (.iconst 0, 1) := by decide +kernel
theorem dd_M_value_9 : decode prog_6_method_35_code 9 = .ok (.goto 4, 3) := by decide +kernel
theorem dd_M_value_12 : decode prog_6_method_35_code 12 = .ok (.iconst 1, 1) := by decide +kernel
theorem dd_M_value_13 : decode prog_6_method_35_code 13 = .ok (.putfield 72, 3) := by decide +kernel
theorem dd_M_value_16 : decode prog_6_method_35_code 16 = .ok (.aload_n 0, 1) := by decide +kernel
theorem dd_M_value_17 : decode prog_6_method_35_code 17 = .ok (.getfield 72, 3) := by decide +kernel
theorem dd_M_value_20 : decode prog_6_method_35_code 20 = .ok (.ifCond .le 7, 3) := by decide +kernel
theorem dd_M_value_23 : decode prog_6_method_35_code 23 = .ok (.lconst 0, 1) := by decide +kernel
theorem dd_M_value_24 : decode prog_6_method_35_code 24 = .ok (.goto 9, 3) := by decide +kernel
theorem dd_M_value_27 : decode prog_6_method_35_code 27 = .ok (.aload_n 0, 1) := by decide +kernel
theorem dd_M_value_28 : decode prog_6_method_35_code 28 = .ok (.getfield 7, 3) := by decide +kernel
theorem dd_M_value_31 : decode prog_6_method_35_code 31 = .ok (.iload_n 1, 1) := by decide +kernel
theorem dd_M_value_32 : decode prog_6_method_35_code 32 = .ok (.laload, 1) := by decide +kernel
theorem dd_M_value_33 : decode prog_6_method_35_code 33 = .ok (.lreturn, 1) := by decide +kernel
def wp_M_value_33 (g : Gm) (post : Int64 → Hp → Prop) (h : Hp) (s0 : Int64) : Prop := post s0 h
set_option maxHeartbeats 4000000 in
set_option maxRecDepth 100000 in
theorem wk_M_value_33 {p : Program} {l : Launch} {e : Env} {s : State} {m : MethodId} {args : Array Value} {below : List Frame} {meth : Method} {c : Code} {g : Gm} {post : Int64 → Hp → Prop} (C0 : Cx g p s m args c prog_6_method_35_code 2 "SegmentLocksModel") (hr : meth.sig.returnType = (some .long)) (hlk : meth.locks = false) : ∀ (h : Hp) (s0 : Int64) (H : Heap) (locs : List Loc) (ls : Array Slot), wp_M_value_33 g post h s0 → GH g h H → va_S (gA g) s.heap H locs → lv_has ls 2 [] → W p l e (rmm 1 20 0 0) s m args below meth c H locs 0 0 (MQ below (va_Ql post (gS g) (gA g)) args s 0 0 (gA g)) (F0 m 33 ls [.long s0]) := by
  obtain ⟨hx, hb, -, hown, hts, hgk⟩ := id C0
  intro h s0 H locs ls hw hG hS hl
  unfold wp_M_value_33 at hw
  exact re_l C0 hG hS hr hlk ⟨Nat.le_refl _, Nat.le_refl _⟩ hw dd_M_value_33
def wp_M_value_13 (g : Gm) (post : Int64 → Hp → Prop) (h : Hp) (v0 : Nat) (v1 : Int32) (s0 : Nat) (s1 : Int32) : Prop := hK h s0 = 5 ∧ ∀ h2 : Hp, h2 = sI h s0 0 s1 → hK h2 v0 = 5 ∧ (((hI h2 v0 0) ≤ 0 → hK h2 v0 = 5 ∧ ∃ a6 : Nat, hR h2 v0 1 = some a6 ∧ hK h2 a6 = 22 ∧ vp_in v1 (hN h2 a6) ∧ wp_M_value_33 g post h2 (hJ h2 a6 v1.toNatClampNeg)) ∧ (¬ (hI h2 v0 0) ≤ 0 → wp_M_value_33 g post h2 0))
set_option maxHeartbeats 4000000 in
set_option maxRecDepth 100000 in
theorem wk_M_value_13 {p : Program} {l : Launch} {e : Env} {s : State} {m : MethodId} {args : Array Value} {below : List Frame} {meth : Method} {c : Code} {g : Gm} {post : Int64 → Hp → Prop} (C0 : Cx g p s m args c prog_6_method_35_code 2 "SegmentLocksModel") (hr : meth.sig.returnType = (some .long)) (hlk : meth.locks = false) : ∀ (h : Hp) (v0 : Nat) (v1 : Int32) (s0 : Nat) (s1 : Int32) (H : Heap) (locs : List Loc) (ls : Array Slot), wp_M_value_13 g post h v0 v1 s0 s1 → GH g h H → va_S (gA g) s.heap H locs → lv_has ls 2 [(0, .ref v0), (1, .int v1)] → W p l e (rmm 1 20 0 0) s m args below meth c H locs 0 0 (MQ below (va_Ql post (gS g) (gA g)) args s 0 0 (gA g)) (F0 m 13 ls [.int s1, .ref s0]) := by
  obtain ⟨hx, hb, -, hown, hts, hgk⟩ := id C0
  intro h v0 v1 s0 s1 H locs ls hw hG hS hl
  unfold wp_M_value_13 at hw
  obtain ⟨k1, hw⟩ := hw
  refine pf_M_72 C0 hG hS k1 dd_M_value_13 (fun H locs hG hS => ?_)
  replace hw := hw _ rfl
  generalize sI h s0 0 s1 = h2 at hw hG
  refine lv_aload_n hx hb dd_M_value_16 rfl (lv_at hl 0 rfl) ?_
  obtain ⟨k3, hw⟩ := hw
  refine gf_M_72 C0 hG k3 dd_M_value_17 ?_
  refine lv_if_le (tgt := 27) hx hb dd_M_value_20 (by decide) (fun c4 => ?_) (fun c4 => ?_)
  · replace hw := hw.1 c4
    refine lv_aload_n hx hb dd_M_value_27 rfl (lv_at hl 0 rfl) ?_
    obtain ⟨k5, a6, ea6, hw⟩ := hw
    refine gf_M_7 C0 hG k5 ea6 dd_M_value_28 ?_
    refine lv_iload_n hx hb dd_M_value_31 rfl (lv_at hl 1 rfl) ?_
    obtain ⟨k7, k7i, hw⟩ := hw
    refine px_lald C0 hG k7 k7i dd_M_value_32 ?_
    exact wk_M_value_33 C0 hr hlk _ _ _ _ _ hw hG hS (lv_sub hl [] rfl)
  · replace hw := hw.2 c4
    refine lv_lconst (v := 0) hx hb dd_M_value_23 (by decide) ?_
    refine lv_goto (tgt := 33) hx hb dd_M_value_24 (by decide) ?_
    exact wk_M_value_33 C0 hr hlk _ _ _ _ _ hw hG hS (lv_sub hl [] rfl)
def wp_M_value (g : Gm) (post : Int64 → Hp → Prop) (h : Hp) (a0 : Nat) (i1 : Int32) : Prop := wp_M_isSegment g (fun x3 => ((x3 = 0 → wp_M_value_13 g post h a0 i1 a0 1) ∧ (¬ x3 = 0 → wp_M_value_13 g post h a0 i1 a0 0))) h i1
set_option maxHeartbeats 4000000 in
set_option maxRecDepth 100000 in
theorem c_M_value (l : Launch) (g : Gm) (post : Int64 → Hp → Prop) (h : Hp) (a0 : Nat) (i1 : Int32) (hw : wp_M_value g post h a0 i1) : Met l (⟨"SegmentLocksModel", "value", "(I)J"⟩ : MethodName) (ww (⟨"SegmentLocksModel", "value", "(I)J"⟩ : MethodName) prog_6_method_35_code 2 (some .long)) (rmm 1 20 0 0) (va_Pc [.ref a0, .int i1] (gS g h)) (va_Ql post (gS g) (gA g)) 0 0 (gA g) := by
  first | refine en_met (by decide) ?_ | refine en_metF (by decide) ?_
  intro p e s m below meth c C0 hr hlk hin hG
  have hS : va_S (gA g) s.heap s.heap [] := va_S.rf
  have hl := lv_entry ([.ref a0, .int i1]) (n := 2) (Nat.le_of_ble_eq_true rfl)
  rw [lg_entry_eq]
  generalize (lg_sl ([.ref a0, .int i1]) ++ List.replicate (2 - (lg_sl ([.ref a0, .int i1])).length) Slot.unset).toArray = ls at hl ⊢
  replace hl : lv_has ls 2 [(0, .ref a0), (1, .int i1)] := hl
  obtain ⟨hx, hb, -, hown, hts, hgk⟩ := id C0
  unfold wp_M_value at hw
  refine lv_aload_n hx hb dd_M_value_0 rfl (lv_at hl 0 rfl) ?_
  refine lv_iload_n hx hb dd_M_value_1 rfl (lv_at hl 1 rfl) ?_
  have hw0 := hw
  clear hw
  refine cs_i (rn_S C0 hG hS (c_M_isSegment l g _ h i1 hw0) (host := "") (nest := false) (n := 1) (As := [.int i1]) (rest := [.ref a0]) km_478 km_477 km_479 km_421 ⟨by decide, by decide, by decide +kernel⟩ ⟨Nat.le_of_ble_eq_true rfl, Nat.le_of_ble_eq_true rfl⟩ rfl hl.1 rfl (Nat.le_of_ble_eq_true rfl) dd_M_value_2 ⟨Nat.le_refl _, Nat.le_refl _⟩) (fun x3 hw => ?_)
  refine lv_if_eq (tgt := 12) hx hb dd_M_value_5 (by decide) (fun c4 => ?_) (fun c4 => ?_)
  · replace hw := hw.1 c4
    refine lv_iconst (v := 1) hx hb dd_M_value_12 (by decide) ?_
    exact wk_M_value_13 C0 hr hlk _ _ _ _ _ _ _ _ hw hG hS (lv_sub hl [0, 1] rfl)
  · replace hw := hw.2 c4
    refine lv_iconst (v := 0) hx hb dd_M_value_8 (by decide) ?_
    refine lv_goto (tgt := 13) hx hb dd_M_value_9 (by decide) ?_
    exact wk_M_value_13 C0 hr hlk _ _ _ _ _ _ _ _ hw hG hS (lv_sub hl [0, 1] rfl)
/-! SegmentLocksModel.state(II)I -/
theorem dd_M_state_0 : decode prog_6_method_36_code 0 = .ok (.aload_n 0, 1) := by decide +kernel
theorem dd_M_state_1 : decode prog_6_method_36_code 1 = .ok (.iconst 0, 1) := by decide +kernel
theorem dd_M_state_2 : decode prog_6_method_36_code 2 = .ok (.putfield 72, 3) := by decide +kernel
theorem dd_M_state_5 : decode prog_6_method_36_code 5 = .ok (.aload_n 0, 1) := by decide +kernel
theorem dd_M_state_6 : decode prog_6_method_36_code 6 = .ok (.iload_n 1, 1) := by decide +kernel
theorem dd_M_state_7 : decode prog_6_method_36_code 7 = .ok (.invokevirtual 120, 3) := by decide +kernel
theorem dd_M_state_10 : decode prog_6_method_36_code 10 = .ok (.ifCond .ne 5, 3) := by decide +kernel
theorem dd_M_state_13 : decode prog_6_method_36_code 13 = .ok (.iconst (-1), 1) := by decide +kernel
theorem dd_M_state_14 : decode prog_6_method_36_code 14 = .ok (.ireturn, 1) := by decide +kernel
theorem dd_M_state_15 : decode prog_6_method_36_code 15 = .ok (.iload_n 2, 1) := by decide +kernel
theorem dd_M_state_16 : decode prog_6_method_36_code 16 = .ok (.tableswitch 79 0 5 #[40, 47, 53, 59, 66, 73], 40) := by decide +kernel
theorem dd_M_state_56 : decode prog_6_method_36_code 56 = .ok (.aload_n 0, 1) := by decide +kernel
theorem dd_M_state_57 : decode prog_6_method_36_code 57 = .ok (.getfield 17, 3) := by decide +kernel
theorem dd_M_state_60 : decode prog_6_method_36_code 60 = .ok (.iload_n 1, 1) := by decide +kernel
theorem dd_M_state_61 : decode prog_6_method_36_code 61 = .ok (.iaload, 1) := by decide +kernel
theorem dd_M_state_62 : decode prog_6_method_36_code 62 = .ok (.ireturn, 1) := by decide +kernel
theorem dd_M_state_63 : decode prog_6_method_36_code 63 = .ok (.aload_n 0, 1) := by decide +kernel
theorem dd_M_state_64 : decode prog_6_method_36_code 64 = .ok (.iload_n 1, 1) := by decide +kernel
theorem dd_M_state_65 : decode prog_6_method_36_code 65 = .ok (.invokevirtual 98, 3) := by decide +kernel
theorem dd_M_state_68 : decode prog_6_method_36_code 68 = .ok (.ireturn, 1) := by decide +kernel
theorem dd_M_state_69 : decode prog_6_method_36_code 69 = .ok (.aload_n 0, 1) := by decide +kernel
theorem dd_M_state_70 : decode prog_6_method_36_code 70 = .ok (.iload_n 1, 1) := by decide +kernel
theorem dd_M_state_71 : decode prog_6_method_36_code 71 = .ok (.invokevirtual 150, 3) := by decide +kernel
theorem dd_M_state_74 : decode prog_6_method_36_code 74 = .ok (.ireturn, 1) := by decide +kernel
theorem dd_M_state_75 : decode prog_6_method_36_code 75 = .ok (.aload_n 0, 1) := by decide +kernel
theorem dd_M_state_76 : decode prog_6_method_36_code 76 = .ok (.getfield 20, 3) := by decide +kernel
theorem dd_M_state_79 : decode prog_6_method_36_code 79 = .ok (.iload_n 1, 1) := by decide +kernel
theorem dd_M_state_80 : decode prog_6_method_36_code 80 = .ok (.iaload, 1) := by decide +kernel
theorem dd_M_state_81 : decode prog_6_method_36_code 81 = .ok (.ireturn, 1) := by decide +kernel
theorem dd_M_state_82 : decode prog_6_method_36_code 82 = .ok (.aload_n 0, 1) := by decide +kernel
theorem dd_M_state_83 : decode prog_6_method_36_code 83 = .ok (.getfield 23, 3) := by decide +kernel
theorem dd_M_state_86 : decode prog_6_method_36_code 86 = .ok (.iload_n 1, 1) := by decide +kernel
theorem dd_M_state_87 : decode prog_6_method_36_code 87 = .ok (.iaload, 1) := by decide +kernel
theorem dd_M_state_88 : decode prog_6_method_36_code 88 = .ok (.ireturn, 1) := by decide +kernel
theorem dd_M_state_89 : decode prog_6_method_36_code 89 = .ok (.aload_n 0, 1) := by decide +kernel
theorem dd_M_state_90 : decode prog_6_method_36_code 90 = .ok (.iload_n 1, 1) := by decide +kernel
theorem dd_M_state_91 : decode prog_6_method_36_code 91 = .ok (.invokevirtual 111, 3) := by decide +kernel
theorem dd_M_state_94 : decode prog_6_method_36_code 94 = .ok (.ireturn, 1) := by decide +kernel
theorem dd_M_state_95 : decode prog_6_method_36_code 95 = .ok (.iconst (-1), 1) := by decide +kernel
theorem dd_M_state_96 : decode prog_6_method_36_code 96 = .ok (.ireturn, 1) := by decide +kernel
def wp_M_state (g : Gm) (post : Int32 → Hp → Prop) (h : Hp) (a0 : Nat) (i1 : Int32) (i2 : Int32) : Prop := hK h a0 = 5 ∧ ∀ h2 : Hp, h2 = sI h a0 0 0 → hK h2 a0 = 5 ∧ wp_M_isTask g (fun x5 => ((¬ x5 = 0 → ((i2.toInt < 0 ∨ 5 < i2.toInt → post (-1) h2) ∧ (i2.toInt = 0 → hK h2 a0 = 5 ∧ ∃ a8 : Nat, hR h2 a0 5 = some a8 ∧ hK h2 a8 = 21 ∧ vp_in i1 (hN h2 a8) ∧ post (hI h2 a8 i1.toNatClampNeg) h2) ∧ (i2.toInt = 1 → hK h2 a0 = 5 ∧ wp_M_locksOf g (fun x12 => post x12 h2) h2 a0 i1) ∧ (i2.toInt = 2 → hK h2 a0 = 5 ∧ wp_M_writesOf g (fun x15 => post x15 h2) h2 a0 i1) ∧ (i2.toInt = 3 → hK h2 a0 = 5 ∧ ∃ a17 : Nat, hR h2 a0 6 = some a17 ∧ hK h2 a17 = 21 ∧ vp_in i1 (hN h2 a17) ∧ post (hI h2 a17 i1.toNatClampNeg) h2) ∧ (i2.toInt = 4 → hK h2 a0 = 5 ∧ ∃ a20 : Nat, hR h2 a0 7 = some a20 ∧ hK h2 a20 = 21 ∧ vp_in i1 (hN h2 a20) ∧ post (hI h2 a20 i1.toNatClampNeg) h2) ∧ (i2.toInt = 5 → hK h2 a0 = 5 ∧ wp_M_placeOf g (fun x24 => post x24 h2) h2 a0 i1))) ∧ (x5 = 0 → post (-1) h2))) h2 a0 i1
set_option maxHeartbeats 4000000 in
set_option maxRecDepth 100000 in
theorem c_M_state (l : Launch) (g : Gm) (post : Int32 → Hp → Prop) (h : Hp) (a0 : Nat) (i1 : Int32) (i2 : Int32) (hw : wp_M_state g post h a0 i1 i2) : Met l (⟨"SegmentLocksModel", "state", "(II)I"⟩ : MethodName) (ww (⟨"SegmentLocksModel", "state", "(II)I"⟩ : MethodName) prog_6_method_36_code 3 (some .int)) (rmm 2 44 0 0) (va_Pc [.ref a0, .int i1, .int i2] (gS g h)) (va_Qi post (gS g) (gA g)) 0 0 (gA g) := by
  first | refine en_met (by decide) ?_ | refine en_metF (by decide) ?_
  intro p e s m below meth c C0 hr hlk hin hG
  have hS : va_S (gA g) s.heap s.heap [] := va_S.rf
  have hl := lv_entry ([.ref a0, .int i1, .int i2]) (n := 3) (Nat.le_of_ble_eq_true rfl)
  rw [lg_entry_eq]
  generalize (lg_sl ([.ref a0, .int i1, .int i2]) ++ List.replicate (3 - (lg_sl ([.ref a0, .int i1, .int i2])).length) Slot.unset).toArray = ls at hl ⊢
  replace hl : lv_has ls 3 [(0, .ref a0), (1, .int i1), (2, .int i2)] := hl
  obtain ⟨hx, hb, -, hown, hts, hgk⟩ := id C0
  unfold wp_M_state at hw
  refine lv_aload_n hx hb dd_M_state_0 rfl (lv_at hl 0 rfl) ?_
  refine lv_iconst (v := 0) hx hb dd_M_state_1 (by decide) ?_
  obtain ⟨k1, hw⟩ := hw
  refine pf_M_72 C0 hG hS k1 dd_M_state_2 (fun H locs hG hS => ?_)
  replace hw := hw _ rfl
  generalize sI h a0 0 0 = h2 at hw hG
  refine lv_aload_n hx hb dd_M_state_5 rfl (lv_at hl 0 rfl) ?_
  refine lv_iload_n hx hb dd_M_state_6 rfl (lv_at hl 1 rfl) ?_
  obtain ⟨k3, hw⟩ := hw
  have hw0 := hw
  clear hw
  refine cs_i (rn_V C0 hG hS (c_M_isTask l g _ h2 a0 i1 hw0) (ci := 4) k3 (by decide) rfl rfl (host := "") (nest := false) (n := 1) (As := [.int i1]) (rest := []) km_481 km_480 km_482 km_483 km_421 ⟨by decide, by decide, by decide +kernel⟩ ⟨Nat.le_of_ble_eq_true rfl, Nat.le_of_ble_eq_true rfl⟩ rfl hl.1 rfl (Nat.le_of_ble_eq_true rfl) dd_M_state_7 ⟨Nat.le_refl _, Nat.le_refl _⟩) (fun x5 hw => ?_)
  refine lv_if_ne (tgt := 15) hx hb dd_M_state_10 (by decide) (fun c6 => ?_) (fun c6 => ?_)
  · replace hw := hw.1 c6
    refine lv_iload_n hx hb dd_M_state_15 rfl (lv_at hl 2 rfl) ?_
    rcases (show (i2.toInt < 0 ∨ 5 < i2.toInt) ∨ i2.toInt = 0 ∨ i2.toInt = 1 ∨ i2.toInt = 2 ∨ i2.toInt = 3 ∨ i2.toInt = 4 ∨ i2.toInt = 5 by omega) with z | z | z | z | z | z | z
    · replace hw := hw.1 z
      refine lv_tableOut (tgt := 95) hx hb dd_M_state_16 z (by decide) ?_
      refine lv_iconst (v := (-1)) hx hb dd_M_state_95 (by decide) ?_
      exact re_i C0 hG hS hr hlk ⟨Nat.le_refl _, Nat.le_refl _⟩ hw dd_M_state_96
    · replace hw := hw.2.1 z
      refine lv_tableIn (tgt := 56) hx hb dd_M_state_16 (by omega) (by omega) (by rw [z]; rfl) (by decide) ?_
      refine lv_aload_n hx hb dd_M_state_56 rfl (lv_at hl 0 rfl) ?_
      obtain ⟨k7, a8, ea8, hw⟩ := hw
      refine gf_M_17 C0 hG k7 ea8 dd_M_state_57 ?_
      refine lv_iload_n hx hb dd_M_state_60 rfl (lv_at hl 1 rfl) ?_
      obtain ⟨k9, k9i, hw⟩ := hw
      refine px_iald C0 hG k9 k9i dd_M_state_61 ?_
      exact re_i C0 hG hS hr hlk ⟨Nat.le_refl _, Nat.le_refl _⟩ hw dd_M_state_62
    · replace hw := hw.2.2.1 z
      refine lv_tableIn (tgt := 63) hx hb dd_M_state_16 (by omega) (by omega) (by rw [z]; rfl) (by decide) ?_
      refine lv_aload_n hx hb dd_M_state_63 rfl (lv_at hl 0 rfl) ?_
      refine lv_iload_n hx hb dd_M_state_64 rfl (lv_at hl 1 rfl) ?_
      obtain ⟨k10, hw⟩ := hw
      have hw0 := hw
      clear hw
      refine cs_i (rn_V C0 hG hS (c_M_locksOf l g _ h2 a0 i1 hw0) (ci := 4) k10 (by decide) rfl rfl (host := "") (nest := false) (n := 1) (As := [.int i1]) (rest := []) km_448 km_447 km_449 km_450 km_421 ⟨by decide, by decide, by decide +kernel⟩ ⟨Nat.le_of_ble_eq_true rfl, Nat.le_of_ble_eq_true rfl⟩ rfl hl.1 rfl (Nat.le_of_ble_eq_true rfl) dd_M_state_65 ⟨Nat.le_refl _, Nat.le_refl _⟩) (fun x12 hw => ?_)
      exact re_i C0 hG hS hr hlk ⟨Nat.le_refl _, Nat.le_refl _⟩ hw dd_M_state_68
    · replace hw := hw.2.2.2.1 z
      refine lv_tableIn (tgt := 69) hx hb dd_M_state_16 (by omega) (by omega) (by rw [z]; rfl) (by decide) ?_
      refine lv_aload_n hx hb dd_M_state_69 rfl (lv_at hl 0 rfl) ?_
      refine lv_iload_n hx hb dd_M_state_70 rfl (lv_at hl 1 rfl) ?_
      obtain ⟨k13, hw⟩ := hw
      have hw0 := hw
      clear hw
      refine cs_i (rn_V C0 hG hS (c_M_writesOf l g _ h2 a0 i1 hw0) (ci := 4) k13 (by decide) rfl rfl (host := "") (nest := false) (n := 1) (As := [.int i1]) (rest := []) km_495 km_494 km_496 km_497 km_421 ⟨by decide, by decide, by decide +kernel⟩ ⟨Nat.le_of_ble_eq_true rfl, Nat.le_of_ble_eq_true rfl⟩ rfl hl.1 rfl (Nat.le_of_ble_eq_true rfl) dd_M_state_71 ⟨Nat.le_refl _, Nat.le_refl _⟩) (fun x15 hw => ?_)
      exact re_i C0 hG hS hr hlk ⟨Nat.le_refl _, Nat.le_refl _⟩ hw dd_M_state_74
    · replace hw := hw.2.2.2.2.1 z
      refine lv_tableIn (tgt := 75) hx hb dd_M_state_16 (by omega) (by omega) (by rw [z]; rfl) (by decide) ?_
      refine lv_aload_n hx hb dd_M_state_75 rfl (lv_at hl 0 rfl) ?_
      obtain ⟨k16, a17, ea17, hw⟩ := hw
      refine gf_M_20 C0 hG k16 ea17 dd_M_state_76 ?_
      refine lv_iload_n hx hb dd_M_state_79 rfl (lv_at hl 1 rfl) ?_
      obtain ⟨k18, k18i, hw⟩ := hw
      refine px_iald C0 hG k18 k18i dd_M_state_80 ?_
      exact re_i C0 hG hS hr hlk ⟨Nat.le_refl _, Nat.le_refl _⟩ hw dd_M_state_81
    · replace hw := hw.2.2.2.2.2.1 z
      refine lv_tableIn (tgt := 82) hx hb dd_M_state_16 (by omega) (by omega) (by rw [z]; rfl) (by decide) ?_
      refine lv_aload_n hx hb dd_M_state_82 rfl (lv_at hl 0 rfl) ?_
      obtain ⟨k19, a20, ea20, hw⟩ := hw
      refine gf_M_23 C0 hG k19 ea20 dd_M_state_83 ?_
      refine lv_iload_n hx hb dd_M_state_86 rfl (lv_at hl 1 rfl) ?_
      obtain ⟨k21, k21i, hw⟩ := hw
      refine px_iald C0 hG k21 k21i dd_M_state_87 ?_
      exact re_i C0 hG hS hr hlk ⟨Nat.le_refl _, Nat.le_refl _⟩ hw dd_M_state_88
    · replace hw := hw.2.2.2.2.2.2 z
      refine lv_tableIn (tgt := 89) hx hb dd_M_state_16 (by omega) (by omega) (by rw [z]; rfl) (by decide) ?_
      refine lv_aload_n hx hb dd_M_state_89 rfl (lv_at hl 0 rfl) ?_
      refine lv_iload_n hx hb dd_M_state_90 rfl (lv_at hl 1 rfl) ?_
      obtain ⟨k22, hw⟩ := hw
      have hw0 := hw
      clear hw
      refine cs_i (rn_V C0 hG hS (c_M_placeOf l g _ h2 a0 i1 hw0) (ci := 4) k22 (by decide) rfl rfl (host := "") (nest := false) (n := 1) (As := [.int i1]) (rest := []) km_452 km_451 km_453 km_454 km_421 ⟨by decide, by decide, by decide +kernel⟩ ⟨Nat.le_of_ble_eq_true rfl, Nat.le_of_ble_eq_true rfl⟩ rfl hl.1 rfl (Nat.le_of_ble_eq_true rfl) dd_M_state_91 ⟨Nat.le_refl _, Nat.le_refl _⟩) (fun x24 hw => ?_)
      exact re_i C0 hG hS hr hlk ⟨Nat.le_refl _, Nat.le_refl _⟩ hw dd_M_state_94
  · replace hw := hw.2 c6
    refine lv_iconst (v := (-1)) hx hb dd_M_state_13 (by decide) ?_
    exact re_i C0 hG hS hr hlk ⟨Nat.le_refl _, Nat.le_refl _⟩ hw dd_M_state_14
