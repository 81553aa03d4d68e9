set_option maxRecDepth 20000 in
theorem km_0 : Cond.fieldLink "SegmentLocks$Task" 9 "SegmentLocks$Task" "locks" "[I" ∈ wx_T := List.mem_filter.mpr ⟨List.mem_append_right _ (List.mem_append_left _ (List.mem_of_getElem? (i := 134) rfl)), rfl⟩
set_option maxRecDepth 20000 in
theorem km_1 : Cond.fieldLink "SegmentLocks$Task" 40 "SegmentLocks$Task" "lockCount" "I" ∈ wx_T := List.mem_filter.mpr ⟨List.mem_append_right _ (List.mem_append_left _ (List.mem_of_getElem? (i := 150) rfl)), rfl⟩
set_option maxRecDepth 20000 in
theorem km_2 : Cond.fieldLink "SegmentLocks$Task" 36 "SegmentLocks$Task" "state" "I" ∈ wx_T := List.mem_filter.mpr ⟨List.mem_append_right _ (List.mem_append_left _ (List.mem_of_getElem? (i := 147) rfl)), rfl⟩
set_option maxRecDepth 20000 in
theorem km_3 : Cond.fieldLink "SegmentLocks$Task" 49 "SegmentLocks$Task" "waitsFor" "I" ∈ wx_T := List.mem_filter.mpr ⟨List.mem_append_right _ (List.mem_append_left _ (List.mem_of_getElem? (i := 156) rfl)), rfl⟩
set_option maxRecDepth 20000 in
theorem km_4 : Cond.fieldLink "SegmentLocks$Task" 52 "SegmentLocks$Task" "wish" "I" ∈ wx_T := List.mem_filter.mpr ⟨List.mem_append_right _ (List.mem_append_left _ (List.mem_of_getElem? (i := 160) rfl)), rfl⟩
set_option maxRecDepth 20000 in
theorem km_5 : Cond.fieldLink "SegmentLocks$Task" 32 "SegmentLocks$Task" "strayed" "Z" ∈ wx_T := List.mem_filter.mpr ⟨List.mem_append_right _ (List.mem_append_left _ (List.mem_of_getElem? (i := 146) rfl)), rfl⟩
set_option maxRecDepth 20000 in
theorem km_6 : Cond.fieldLink "SegmentLocks$Task" 43 "SegmentLocks$Task" "writtenCount" "I" ∈ wx_T := List.mem_filter.mpr ⟨List.mem_append_right _ (List.mem_append_left _ (List.mem_of_getElem? (i := 152) rfl)), rfl⟩
set_option maxRecDepth 20000 in
theorem km_7 : Cond.methodLink "SegmentLocks$Task" 67 (⟨"SegmentLocks$Task", "stopWaiting", "()V"⟩ : MethodName) ∈ wx_T := List.mem_filter.mpr ⟨List.mem_append_right _ (List.mem_append_right _ (List.mem_append_left _ (List.mem_of_getElem? (i := 65) rfl))), rfl⟩
set_option maxRecDepth 20000 in
theorem km_8 : Cond.code (⟨"SegmentLocks$Task", "stopWaiting", "()V"⟩ : MethodName) prog_4_method_7_code 1 Option.none ∈ wx_T := List.mem_filter.mpr ⟨List.mem_append_right _ (List.mem_append_right _ (List.mem_append_left _ (List.mem_of_getElem? (i := 68) rfl))), rfl⟩
set_option maxRecDepth 20000 in
theorem km_9 : Cond.initialized "SegmentLocks$Task" ∈ wx_T := List.mem_filter.mpr ⟨List.mem_append_right _ (List.mem_append_left _ (List.mem_of_getElem? (i := 8) rfl)), rfl⟩
set_option maxRecDepth 20000 in
theorem km_10 : Cond.instanceMethod (⟨"SegmentLocks$Task", "stopWaiting", "()V"⟩ : MethodName) ∈ wx_T := List.mem_filter.mpr ⟨List.mem_append_right _ (List.mem_append_right _ (List.mem_append_left _ (List.mem_of_getElem? (i := 67) rfl))), rfl⟩
set_option maxRecDepth 20000 in
theorem km_11 : Cond.selects "SegmentLocks$Task" (⟨"SegmentLocks$Task", "stopWaiting", "()V"⟩ : MethodName) (⟨"SegmentLocks$Task", "stopWaiting", "()V"⟩ : MethodName) ∈ wx_T := List.mem_filter.mpr ⟨List.mem_append_left _ (List.mem_map.mpr ⟨((⟨"SegmentLocks$Task", "stopWaiting", "()V"⟩ : MethodName), 15), List.mem_of_getElem? (i := 10) rfl, rfl⟩), rfl⟩
set_option maxRecDepth 20000 in
theorem km_12 : Cond.fieldLink "SegmentLocks$Task" 15 "SegmentLocks$Task" "looks" "[Z" ∈ wx_T := List.mem_filter.mpr ⟨List.mem_append_right _ (List.mem_append_left _ (List.mem_of_getElem? (i := 138) rfl)), rfl⟩
set_option maxRecDepth 20000 in
theorem km_13 : Cond.fieldLink "SegmentLocks$Task" 19 "SegmentLocks$Task" "written" "[Z" ∈ wx_T := List.mem_filter.mpr ⟨List.mem_append_right _ (List.mem_append_left _ (List.mem_of_getElem? (i := 140) rfl)), rfl⟩
set_option maxRecDepth 20000 in
theorem km_14 : Cond.fieldLink "SegmentLocks$Task" 26 "SegmentLocks$Task" "hasRead" "[Z" ∈ wx_T := List.mem_filter.mpr ⟨List.mem_append_right _ (List.mem_append_left _ (List.mem_of_getElem? (i := 144) rfl)), rfl⟩
set_option maxRecDepth 20000 in
theorem km_15 : Cond.fieldLink "SegmentLocks$Task" 58 "SegmentLocks$Task" "age" "I" ∈ wx_T := List.mem_filter.mpr ⟨List.mem_append_right _ (List.mem_append_left _ (List.mem_of_getElem? (i := 133) rfl)), rfl⟩
set_option maxRecDepth 20000 in
theorem km_16 : Cond.fieldLink "SegmentLocks$Task" 55 "SegmentLocks$Task" "number" "I" ∈ wx_T := List.mem_filter.mpr ⟨List.mem_append_right _ (List.mem_append_left _ (List.mem_of_getElem? (i := 129) rfl)), rfl⟩
theorem gf_T_9 {p : Program} {l : Launch} {e : Env} {R : Room} {s : State} {m : MethodId} {args : Array Value} {below : List Frame} {meth : Method} {c : Code} {H : Heap} {locs : List Loc} {cells slots : Nat} {Q : State → Prop} {cc : ByteArray} {pc nL : Nat} {ls : Array Slot} {rest : List Value} {a : Nat} {g : Gm} {h : Hp} (C0 : Cx g p s m args c cc nL "SegmentLocks$Task") (hG : GH g h H) (hkd : hK h a = 4) {b : Nat} (he : hR h a 2 = some b) (hdg : decode cc pc = .ok (.getfield 9, 3)) (kk : W p l e R s m args below meth c H locs cells slots Q (F0 m (pc + 3) ls (.ref b :: rest))) : W p l e R s m args below meth c H locs cells slots Q (F0 m pc ls (.ref a :: rest)) := px_get C0 hG (ci := 3) (T := FX3) (N := 15) (C := RX3) (host := "") (nest := false) (ref := "SegmentLocks$Task") hkd (by decide) rfl iX3 2 (by decide) km_0 (Or.inl rfl) (v := .ref b) ((fls_at (ci := 3) (k := 2) (by decide)).trans (congrArg some (congrArg va_rf he))) hdg kk
theorem gf_T_40 {p : Program} {l : Launch} {e : Env} {R : Room} {s : State} {m : MethodId} {args : Array Value} {below : List Frame} {meth : Method} {c : Code} {H : Heap} {locs : List Loc} {cells slots : Nat} {Q : State → Prop} {cc : ByteArray} {pc nL : Nat} {ls : Array Slot} {rest : List Value} {a : Nat} {g : Gm} {h : Hp} (C0 : Cx g p s m args c cc nL "SegmentLocks$Task") (hG : GH g h H) (hkd : hK h a = 4) (hdg : decode cc pc = .ok (.getfield 40, 3)) (kk : W p l e R s m args below meth c H locs cells slots Q (F0 m (pc + 3) ls (.int (hI h a 10) :: rest))) : W p l e R s m args below meth c H locs cells slots Q (F0 m pc ls (.ref a :: rest)) := px_get C0 hG (ci := 3) (T := FX3) (N := 15) (C := RX3) (host := "") (nest := false) (ref := "SegmentLocks$Task") hkd (by decide) rfl iX3 10 (by decide) km_1 (Or.inl rfl) (v := .int (hI h a 10)) (fls_at (ci := 3) (k := 10) (by decide)) hdg kk
theorem pf_T_40 {p : Program} {l : Launch} {e : Env} {R : Room} {s : State} {m : MethodId} {args : Array Value} {below : List Frame} {meth : Method} {c : Code} {H : Heap} {locs : List Loc} {cells slots : Nat} {Q : State → Prop} {cc : ByteArray} {pc nL : Nat} {ls : Array Slot} {rest : List Value} {a : Nat} {g : Gm} {h : Hp} (C0 : Cx g p s m args c cc nL "SegmentLocks$Task") (hG : GH g h H) (hS : va_S (gA g) s.heap H locs) (hkd : hK h a = 4) {x : Int32} (hdg : decode cc pc = .ok (.putfield 40, 3)) (kk : ∀ (H1 : Heap) (locs1 : List Loc), GH g (sI h a 10 x) H1 → va_S (gA g) s.heap H1 locs1 → W p l e R s m args below meth c H1 locs1 cells slots Q (F0 m (pc + 3) ls (rest))) : W p l e R s m args below meth c H locs cells slots Q (F0 m pc ls (.int x :: .ref a :: rest)) := px_put C0 hG hS (ci := 3) (T := FX3) (N := 15) (C := RX3) (host := "") (nest := false) (ref := "SegmentLocks$Task") hkd (by decide) rfl iX3 tX3 tX3_ok nX3 rfl 10 (by decide) km_1 (Or.inl rfl) (Or.inl rfl) (ty := .int) rfl rfl rfl (h' := sI h a 10 x) (fun _ => rfl) (fls_sI (by decide) (by decide)) (fun _ z => cel_sI z) hdg kk
theorem pf_T_36 {p : Program} {l : Launch} {e : Env} {R : Room} {s : State} {m : MethodId} {args : Array Value} {below : List Frame} {meth : Method} {c : Code} {H : Heap} {locs : List Loc} {cells slots : Nat} {Q : State → Prop} {cc : ByteArray} {pc nL : Nat} {ls : Array Slot} {rest : List Value} {a : Nat} {g : Gm} {h : Hp} (C0 : Cx g p s m args c cc nL "SegmentLocks$Task") (hG : GH g h H) (hS : va_S (gA g) s.heap H locs) (hkd : hK h a = 4) {x : Int32} (hdg : decode cc pc = .ok (.putfield 36, 3)) (kk : ∀ (H1 : Heap) (locs1 : List Loc), GH g (sI h a 9 x) H1 → va_S (gA g) s.heap H1 locs1 → W p l e R s m args below meth c H1 locs1 cells slots Q (F0 m (pc + 3) ls (rest))) : W p l e R s m args below meth c H locs cells slots Q (F0 m pc ls (.int x :: .ref a :: rest)) := px_put C0 hG hS (ci := 3) (T := FX3) (N := 15) (C := RX3) (host := "") (nest := false) (ref := "SegmentLocks$Task") hkd (by decide) rfl iX3 tX3 tX3_ok nX3 rfl 9 (by decide) km_2 (Or.inl rfl) (Or.inl rfl) (ty := .int) rfl rfl rfl (h' := sI h a 9 x) (fun _ => rfl) (fls_sI (by decide) (by decide)) (fun _ z => cel_sI z) hdg kk
theorem pf_T_49 {p : Program} {l : Launch} {e : Env} {R : Room} {s : State} {m : MethodId} {args : Array Value} {below : List Frame} {meth : Method} {c : Code} {H : Heap} {locs : List Loc} {cells slots : Nat} {Q : State → Prop} {cc : ByteArray} {pc nL : Nat} {ls : Array Slot} {rest : List Value} {a : Nat} {g : Gm} {h : Hp} (C0 : Cx g p s m args c cc nL "SegmentLocks$Task") (hG : GH g h H) (hS : va_S (gA g) s.heap H locs) (hkd : hK h a = 4) {x : Int32} (hdg : decode cc pc = .ok (.putfield 49, 3)) (kk : ∀ (H1 : Heap) (locs1 : List Loc), GH g (sI h a 13 x) H1 → va_S (gA g) s.heap H1 locs1 → W p l e R s m args below meth c H1 locs1 cells slots Q (F0 m (pc + 3) ls (rest))) : W p l e R s m args below meth c H locs cells slots Q (F0 m pc ls (.int x :: .ref a :: rest)) := px_put C0 hG hS (ci := 3) (T := FX3) (N := 15) (C := RX3) (host := "") (nest := false) (ref := "SegmentLocks$Task") hkd (by decide) rfl iX3 tX3 tX3_ok nX3 rfl 13 (by decide) km_3 (Or.inl rfl) (Or.inl rfl) (ty := .int) rfl rfl rfl (h' := sI h a 13 x) (fun _ => rfl) (fls_sI (by decide) (by decide)) (fun _ z => cel_sI z) hdg kk
theorem pf_T_52 {p : Program} {l : Launch} {e : Env} {R : Room} {s : State} {m : MethodId} {args : Array Value} {below : List Frame} {meth : Method} {c : Code} {H : Heap} {locs : List Loc} {cells slots : Nat} {Q : State → Prop} {cc : ByteArray} {pc nL : Nat} {ls : Array Slot} {rest : List Value} {a : Nat} {g : Gm} {h : Hp} (C0 : Cx g p s m args c cc nL "SegmentLocks$Task") (hG : GH g h H) (hS : va_S (gA g) s.heap H locs) (hkd : hK h a = 4) {x : Int32} (hdg : decode cc pc = .ok (.putfield 52, 3)) (kk : ∀ (H1 : Heap) (locs1 : List Loc), GH g (sI h a 14 x) H1 → va_S (gA g) s.heap H1 locs1 → W p l e R s m args below meth c H1 locs1 cells slots Q (F0 m (pc + 3) ls (rest))) : W p l e R s m args below meth c H locs cells slots Q (F0 m pc ls (.int x :: .ref a :: rest)) := px_put C0 hG hS (ci := 3) (T := FX3) (N := 15) (C := RX3) (host := "") (nest := false) (ref := "SegmentLocks$Task") hkd (by decide) rfl iX3 tX3 tX3_ok nX3 rfl 14 (by decide) km_4 (Or.inl rfl) (Or.inl rfl) (ty := .int) rfl rfl rfl (h' := sI h a 14 x) (fun _ => rfl) (fls_sI (by decide) (by decide)) (fun _ z => cel_sI z) hdg kk
theorem pf_T_32 {p : Program} {l : Launch} {e : Env} {R : Room} {s : State} {m : MethodId} {args : Array Value} {below : List Frame} {meth : Method} {c : Code} {H : Heap} {locs : List Loc} {cells slots : Nat} {Q : State → Prop} {cc : ByteArray} {pc nL : Nat} {ls : Array Slot} {rest : List Value} {a : Nat} {g : Gm} {h : Hp} (C0 : Cx g p s m args c cc nL "SegmentLocks$Task") (hG : GH g h H) (hS : va_S (gA g) s.heap H locs) (hkd : hK h a = 4) {x : Int32} (hz : zB x) (hdg : decode cc pc = .ok (.putfield 32, 3)) (kk : ∀ (H1 : Heap) (locs1 : List Loc), GH g (sI h a 8 x) H1 → va_S (gA g) s.heap H1 locs1 → W p l e R s m args below meth c H1 locs1 cells slots Q (F0 m (pc + 3) ls (rest))) : W p l e R s m args below meth c H locs cells slots Q (F0 m pc ls (.int x :: .ref a :: rest)) := px_put C0 hG hS (ci := 3) (T := FX3) (N := 15) (C := RX3) (host := "") (nest := false) (ref := "SegmentLocks$Task") hkd (by decide) rfl iX3 tX3 tX3_ok nX3 rfl 8 (by decide) km_5 (Or.inl rfl) (Or.inl rfl) (ty := .boolean) rfl (by show Value.int (vp_nar .boolean x) = _; rw [hz.nar]) (zB.fit hz) (h' := sI h a 8 x) (fun _ => rfl) (fls_sI (by decide) (by decide)) (fun _ z => cel_sI z) hdg kk
theorem pf_T_43 {p : Program} {l : Launch} {e : Env} {R : Room} {s : State} {m : MethodId} {args : Array Value} {below : List Frame} {meth : Method} {c : Code} {H : Heap} {locs : List Loc} {cells slots : Nat} {Q : State → Prop} {cc : ByteArray} {pc nL : Nat} {ls : Array Slot} {rest : List Value} {a : Nat} {g : Gm} {h : Hp} (C0 : Cx g p s m args c cc nL "SegmentLocks$Task") (hG : GH g h H) (hS : va_S (gA g) s.heap H locs) (hkd : hK h a = 4) {x : Int32} (hdg : decode cc pc = .ok (.putfield 43, 3)) (kk : ∀ (H1 : Heap) (locs1 : List Loc), GH g (sI h a 11 x) H1 → va_S (gA g) s.heap H1 locs1 → W p l e R s m args below meth c H1 locs1 cells slots Q (F0 m (pc + 3) ls (rest))) : W p l e R s m args below meth c H locs cells slots Q (F0 m pc ls (.int x :: .ref a :: rest)) := px_put C0 hG hS (ci := 3) (T := FX3) (N := 15) (C := RX3) (host := "") (nest := false) (ref := "SegmentLocks$Task") hkd (by decide) rfl iX3 tX3 tX3_ok nX3 rfl 11 (by decide) km_6 (Or.inl rfl) (Or.inl rfl) (ty := .int) rfl rfl rfl (h' := sI h a 11 x) (fun _ => rfl) (fls_sI (by decide) (by decide)) (fun _ z => cel_sI z) hdg kk
theorem gf_T_15 {p : Program} {l : Launch} {e : Env} {R : Room} {s : State} {m : MethodId} {args : Array Value} {below : List Frame} {meth : Method} {c : Code} {H : Heap} {locs : List Loc} {cells slots : Nat} {Q : State → Prop} {cc : ByteArray} {pc nL : Nat} {ls : Array Slot} {rest : List Value} {a : Nat} {g : Gm} {h : Hp} (C0 : Cx g p s m args c cc nL "SegmentLocks$Task") (hG : GH g h H) (hkd : hK h a = 4) {b : Nat} (he : hR h a 3 = some b) (hdg : decode cc pc = .ok (.getfield 15, 3)) (kk : W p l e R s m args below meth c H locs cells slots Q (F0 m (pc + 3) ls (.ref b :: rest))) : W p l e R s m args below meth c H locs cells slots Q (F0 m pc ls (.ref a :: rest)) := px_get C0 hG (ci := 3) (T := FX3) (N := 15) (C := RX3) (host := "") (nest := false) (ref := "SegmentLocks$Task") hkd (by decide) rfl iX3 3 (by decide) km_12 (Or.inl rfl) (v := .ref b) ((fls_at (ci := 3) (k := 3) (by decide)).trans (congrArg some (congrArg va_rf he))) hdg kk
theorem gf_T_19 {p : Program} {l : Launch} {e : Env} {R : Room} {s : State} {m : MethodId} {args : Array Value} {below : List Frame} {meth : Method} {c : Code} {H : Heap} {locs : List Loc} {cells slots : Nat} {Q : State → Prop} {cc : ByteArray} {pc nL : Nat} {ls : Array Slot} {rest : List Value} {a : Nat} {g : Gm} {h : Hp} (C0 : Cx g p s m args c cc nL "SegmentLocks$Task") (hG : GH g h H) (hkd : hK h a = 4) {b : Nat} (he : hR h a 4 = some b) (hdg : decode cc pc = .ok (.getfield 19, 3)) (kk : W p l e R s m args below meth c H locs cells slots Q (F0 m (pc + 3) ls (.ref b :: rest))) : W p l e R s m args below meth c H locs cells slots Q (F0 m pc ls (.ref a :: rest)) := px_get C0 hG (ci := 3) (T := FX3) (N := 15) (C := RX3) (host := "") (nest := false) (ref := "SegmentLocks$Task") hkd (by decide) rfl iX3 4 (by decide) km_13 (Or.inl rfl) (v := .ref b) ((fls_at (ci := 3) (k := 4) (by decide)).trans (congrArg some (congrArg va_rf he))) hdg kk
theorem gf_T_26 {p : Program} {l : Launch} {e : Env} {R : Room} {s : State} {m : MethodId} {args : Array Value} {below : List Frame} {meth : Method} {c : Code} {H : Heap} {locs : List Loc} {cells slots : Nat} {Q : State → Prop} {cc : ByteArray} {pc nL : Nat} {ls : Array Slot} {rest : List Value} {a : Nat} {g : Gm} {h : Hp} (C0 : Cx g p s m args c cc nL "SegmentLocks$Task") (hG : GH g h H) (hkd : hK h a = 4) {b : Nat} (he : hR h a 6 = some b) (hdg : decode cc pc = .ok (.getfield 26, 3)) (kk : W p l e R s m args below meth c H locs cells slots Q (F0 m (pc + 3) ls (.ref b :: rest))) : W p l e R s m args below meth c H locs cells slots Q (F0 m pc ls (.ref a :: rest)) := px_get C0 hG (ci := 3) (T := FX3) (N := 15) (C := RX3) (host := "") (nest := false) (ref := "SegmentLocks$Task") hkd (by decide) rfl iX3 6 (by decide) km_14 (Or.inl rfl) (v := .ref b) ((fls_at (ci := 3) (k := 6) (by decide)).trans (congrArg some (congrArg va_rf he))) hdg kk
theorem gf_T_58 {p : Program} {l : Launch} {e : Env} {R : Room} {s : State} {m : MethodId} {args : Array Value} {below : List Frame} {meth : Method} {c : Code} {H : Heap} {locs : List Loc} {cells slots : Nat} {Q : State → Prop} {cc : ByteArray} {pc nL : Nat} {ls : Array Slot} {rest : List Value} {a : Nat} {g : Gm} {h : Hp} (C0 : Cx g p s m args c cc nL "SegmentLocks$Task") (hG : GH g h H) (hkd : hK h a = 4) (hdg : decode cc pc = .ok (.getfield 58, 3)) (kk : W p l e R s m args below meth c H locs cells slots Q (F0 m (pc + 3) ls (.int (hI h a 1) :: rest))) : W p l e R s m args below meth c H locs cells slots Q (F0 m pc ls (.ref a :: rest)) := px_get C0 hG (ci := 3) (T := FX3) (N := 15) (C := RX3) (host := "") (nest := false) (ref := "SegmentLocks$Task") hkd (by decide) rfl iX3 1 (by decide) km_15 (Or.inl rfl) (v := .int (hI h a 1)) (fls_at (ci := 3) (k := 1) (by decide)) hdg kk
theorem gf_T_55 {p : Program} {l : Launch} {e : Env} {R : Room} {s : State} {m : MethodId} {args : Array Value} {below : List Frame} {meth : Method} {c : Code} {H : Heap} {locs : List Loc} {cells slots : Nat} {Q : State → Prop} {cc : ByteArray} {pc nL : Nat} {ls : Array Slot} {rest : List Value} {a : Nat} {g : Gm} {h : Hp} (C0 : Cx g p s m args c cc nL "SegmentLocks$Task") (hG : GH g h H) (hkd : hK h a = 4) (hdg : decode cc pc = .ok (.getfield 55, 3)) (kk : W p l e R s m args below meth c H locs cells slots Q (F0 m (pc + 3) ls (.int (hI h a 0) :: rest))) : W p l e R s m args below meth c H locs cells slots Q (F0 m pc ls (.ref a :: rest)) := px_get C0 hG (ci := 3) (T := FX3) (N := 15) (C := RX3) (host := "") (nest := false) (ref := "SegmentLocks$Task") hkd (by decide) rfl iX3 0 (by decide) km_16 (Or.inl rfl) (v := .int (hI h a 0)) (fls_at (ci := 3) (k := 0) (by decide)) hdg kk
theorem dd_S_isSegment_0 : decode prog_1_method_17_code 0 = .ok (.iload_n 0, 1) := by decide +kernel
theorem dd_S_isSegment_1 : decode prog_1_method_17_code 1 = .ok (.ifCond .lt 13, 3) := by decide +kernel
theorem dd_S_isSegment_4 : decode prog_1_method_17_code 4 = .ok (.iload_n 0, 1) := by decide +kernel
theorem dd_S_isSegment_5 : decode prog_1_method_17_code 5 = .ok (.bipush 50, 2) := by decide +kernel
theorem dd_S_isSegment_7 : decode prog_1_method_17_code 7 = .ok (.if_icmp .ge 7, 3) := by decide +kernel
theorem dd_S_isSegment_10 : decode prog_1_method_17_code 10 = .ok (.iconst 1, 1) := by decide +kernel
theorem dd_S_isSegment_11 : decode prog_1_method_17_code 11 = .ok (.goto 4, 3) := by decide +kernel
theorem dd_S_isSegment_14 : decode prog_1_method_17_code 14 = .ok (.iconst 0, 1) := by decide +kernel
theorem dd_S_isSegment_15 : decode prog_1_method_17_code 15 = .ok (.ireturn, 1) := by decide +kernel
def wp_S_isSegment_15 (g : Gm) (post : Int32 → Hp → Prop) (h : Hp) (s0 : Int32) : Prop := zB s0 ∧ post s0 h
set_option maxHeartbeats 4000000 in
set_option maxRecDepth 100000 in
theorem wk_S_isSegment_15 {p : Program} {l : Launch} {e : Env} {s : State} {m : MethodId} {args : Array Value} {below : List Frame} {meth : Method} {c : Code} {g : Gm} {post : Int32 → Hp → Prop} (C0 : Cx g p s m args c prog_1_method_17_code 1 "SegmentLocks") (hr : meth.sig.returnType = (some .boolean)) (hlk : meth.locks = false) : ∀ (h : Hp) (s0 : Int32) (H : Heap) (locs : List Loc) (ls : Array Slot), wp_S_isSegment_15 g post h s0 → GH g h H → va_S (gA g) s.heap H locs → lv_has ls 1 [] → W p l e (rmm 0 0 0 0) s m args below meth c H locs 0 0 (MQ below (va_Qi post (gS g) (gA g)) args s 0 0 (gA g)) (F0 m 15 ls [.int s0]) := by
  obtain ⟨hx, hb, -, hown, hts, hgk⟩ := id C0
  intro h s0 H locs ls hw hG hS hl
  unfold wp_S_isSegment_15 at hw
  exact re_z C0 hG hS hr hlk ⟨Nat.le_refl _, Nat.le_refl _⟩ hw.1.nar hw.2 dd_S_isSegment_15
def wp_S_isSegment_14 (g : Gm) (post : Int32 → Hp → Prop) (h : Hp) : Prop := wp_S_isSegment_15 g post h 0
set_option maxHeartbeats 4000000 in
set_option maxRecDepth 100000 in
theorem wk_S_isSegment_14 {p : Program} {l : Launch} {e : Env} {s : State} {m : MethodId} {args : Array Value} {below : List Frame} {meth : Method} {c : Code} {g : Gm} {post : Int32 → Hp → Prop} (C0 : Cx g p s m args c prog_1_method_17_code 1 "SegmentLocks") (hr : meth.sig.returnType = (some .boolean)) (hlk : meth.locks = false) : ∀ (h : Hp) (H : Heap) (locs : List Loc) (ls : Array Slot), wp_S_isSegment_14 g post h → GH g h H → va_S (gA g) s.heap H locs → lv_has ls 1 [] → W p l e (rmm 0 0 0 0) s m args below meth c H locs 0 0 (MQ below (va_Qi post (gS g) (gA g)) args s 0 0 (gA g)) (F0 m 14 ls []) := by
  obtain ⟨hx, hb, -, hown, hts, hgk⟩ := id C0
  intro h H locs ls hw hG hS hl
  unfold wp_S_isSegment_14 at hw
  refine lv_iconst (v := 0) hx hb dd_S_isSegment_14 (by decide) ?_
  exact wk_S_isSegment_15 C0 hr hlk _ _ _ _ _ hw hG hS (lv_sub hl [] rfl)
def wp_S_isSegment (g : Gm) (post : Int32 → Hp → Prop) (h : Hp) (i0 : Int32) : Prop := ((i0 < 0 → wp_S_isSegment_14 g post h) ∧ (¬ i0 < 0 → ((50 ≤ i0 → wp_S_isSegment_14 g post h) ∧ (¬ 50 ≤ i0 → wp_S_isSegment_15 g post h 1))))
set_option maxHeartbeats 4000000 in
set_option maxRecDepth 100000 in
theorem c_S_isSegment (l : Launch) (g : Gm) (post : Int32 → Hp → Prop) (h : Hp) (i0 : Int32) (hw : wp_S_isSegment g post h i0) : Met l (⟨"SegmentLocks", "isSegment", "(I)Z"⟩ : MethodName) (ww (⟨"SegmentLocks", "isSegment", "(I)Z"⟩ : MethodName) prog_1_method_17_code 1 (some .boolean)) (rmm 0 0 0 0) (va_Pc [.int i0] (gS g h)) (va_Qi post (gS g) (gA g)) 0 0 (gA g) := by
  first | refine en_met (by decide) ?_ | refine en_metF (by decide) ?_
  intro p e s m below meth c C0 hr hlk hin hG
  have hS : va_S (gA g) s.heap s.heap [] := va_S.rf
  have hl := lv_entry ([.int i0]) (n := 1) (Nat.le_of_ble_eq_true rfl)
  rw [lg_entry_eq]
  generalize (lg_sl ([.int i0]) ++ List.replicate (1 - (lg_sl ([.int i0])).length) Slot.unset).toArray = ls at hl ⊢
  have hl : lv_has ls 1 [(0, .int i0)] := hl
  obtain ⟨hx, hb, -, hown, hts, hgk⟩ := id C0
  unfold wp_S_isSegment at hw
  refine lv_iload_n hx hb dd_S_isSegment_0 rfl (lv_at hl 0 rfl) ?_
  refine lv_if_lt (tgt := 14) hx hb dd_S_isSegment_1 (by decide) (fun c1 => ?_) (fun c1 => ?_)
  · have hw := hw.1 c1
    exact wk_S_isSegment_14 C0 hr hlk _ _ _ _ hw hG hS (lv_sub hl [] rfl)
  · have hw := hw.2 c1
    refine lv_iload_n hx hb dd_S_isSegment_4 rfl (lv_at hl 0 rfl) ?_
    refine lv_bipush (v := 50) hx hb dd_S_isSegment_5 (by decide) ?_
    refine lv_icmp_ge (tgt := 14) hx hb dd_S_isSegment_7 (by decide) (fun c2 => ?_) (fun c2 => ?_)
    · have hw := hw.1 c2
      exact wk_S_isSegment_14 C0 hr hlk _ _ _ _ hw hG hS (lv_sub hl [] rfl)
    · have hw := hw.2 c2
      refine lv_iconst (v := 1) hx hb dd_S_isSegment_10 (by decide) ?_
      refine lv_goto (tgt := 15) hx hb dd_S_isSegment_11 (by decide) ?_
      exact wk_S_isSegment_15 C0 hr hlk _ _ _ _ _ hw hG hS (lv_sub hl [] rfl)
theorem dd_S_areTogether_0 : decode prog_1_method_18_code 0 = .ok (.iload_n 0, 1) := by decide +kernel
theorem dd_S_areTogether_1 : decode prog_1_method_18_code 1 = .ok (.iconst (-1), 1) := by decide +kernel
theorem dd_S_areTogether_2 : decode prog_1_method_18_code 2 = .ok (.if_icmp .eq 8, 3) := by decide +kernel
theorem dd_S_areTogether_5 : decode prog_1_method_18_code 5 = .ok (.iload_n 1, 1) := by decide +kernel
theorem dd_S_areTogether_6 : decode prog_1_method_18_code 6 = .ok (.iconst (-1), 1) := by decide +kernel
theorem dd_S_areTogether_7 : decode prog_1_method_18_code 7 = .ok (.if_icmp .ne 5, 3) := by decide +kernel
theorem dd_S_areTogether_10 : decode prog_1_method_18_code 10 = .ok (.iconst 1, 1) := by decide +kernel
theorem dd_S_areTogether_11 : decode prog_1_method_18_code 11 = .ok (.ireturn, 1) := by decide +kernel
theorem dd_S_areTogether_12 : decode prog_1_method_18_code 12 = .ok (.iload_n 0, 1) := by decide +kernel
theorem dd_S_areTogether_13 : decode prog_1_method_18_code 13 = .ok (.iconst 2, 1) := by decide +kernel
theorem dd_S_areTogether_14 : decode prog_1_method_18_code 14 = .ok (.if_icmp .eq 20, 3) := by decide +kernel
theorem dd_S_areTogether_17 : decode prog_1_method_18_code 17 = .ok (.iload_n 1, 1) := by decide +kernel
theorem dd_S_areTogether_18 : decode prog_1_method_18_code 18 = .ok (.iconst 2, 1) := by decide +kernel
theorem dd_S_areTogether_19 : decode prog_1_method_18_code 19 = .ok (.if_icmp .eq 15, 3) := by decide +kernel
theorem dd_S_areTogether_22 : decode prog_1_method_18_code 22 = .ok (.iload_n 0, 1) := by decide +kernel
theorem dd_S_areTogether_23 : decode prog_1_method_18_code 23 = .ok (.ifCond .eq 7, 3) := by decide +kernel
theorem dd_S_areTogether_26 : decode prog_1_method_18_code 26 = .ok (.iload_n 1, 1) := by decide +kernel
theorem dd_S_areTogether_27 : decode prog_1_method_18_code 27 = .ok (.ifCond .ne 7, 3) := by decide +kernel
theorem dd_S_areTogether_30 : decode prog_1_method_18_code 30 = .ok (.iconst 1, 1) := by decide +kernel
theorem dd_S_areTogether_31 : decode prog_1_method_18_code 31 = .ok (.goto 4, 3) := by decide +kernel
theorem dd_S_areTogether_34 : decode prog_1_method_18_code 34 = .ok (.iconst 0, 1) := by decide +kernel
theorem dd_S_areTogether_35 : decode prog_1_method_18_code 35 = .ok (.ireturn, 1) := by decide +kernel
def wp_S_areTogether_10 (g : Gm) (post : Int32 → Hp → Prop) (h : Hp) : Prop := zB 1 ∧ post 1 h
set_option maxHeartbeats 4000000 in
set_option maxRecDepth 100000 in
theorem wk_S_areTogether_10 {p : Program} {l : Launch} {e : Env} {s : State} {m : MethodId} {args : Array Value} {below : List Frame} {meth : Method} {c : Code} {g : Gm} {post : Int32 → Hp → Prop} (C0 : Cx g p s m args c prog_1_method_18_code 2 "SegmentLocks") (hr : meth.sig.returnType = (some .boolean)) (hlk : meth.locks = false) : ∀ (h : Hp) (H : Heap) (locs : List Loc) (ls : Array Slot), wp_S_areTogether_10 g post h → GH g h H → va_S (gA g) s.heap H locs → lv_has ls 2 [] → W p l e (rmm 0 0 0 0) s m args below meth c H locs 0 0 (MQ below (va_Qi post (gS g) (gA g)) args s 0 0 (gA g)) (F0 m 10 ls []) := by
  obtain ⟨hx, hb, -, hown, hts, hgk⟩ := id C0
  intro h H locs ls hw hG hS hl
  unfold wp_S_areTogether_10 at hw
  refine lv_iconst (v := 1) hx hb dd_S_areTogether_10 (by decide) ?_
  exact re_z C0 hG hS hr hlk ⟨Nat.le_refl _, Nat.le_refl _⟩ hw.1.nar hw.2 dd_S_areTogether_11
def wp_S_areTogether_35 (g : Gm) (post : Int32 → Hp → Prop) (h : Hp) (s0 : Int32) : Prop := zB s0 ∧ post s0 h
set_option maxHeartbeats 4000000 in
set_option maxRecDepth 100000 in
theorem wk_S_areTogether_35 {p : Program} {l : Launch} {e : Env} {s : State} {m : MethodId} {args : Array Value} {below : List Frame} {meth : Method} {c : Code} {g : Gm} {post : Int32 → Hp → Prop} (C0 : Cx g p s m args c prog_1_method_18_code 2 "SegmentLocks") (hr : meth.sig.returnType = (some .boolean)) (hlk : meth.locks = false) : ∀ (h : Hp) (s0 : Int32) (H : Heap) (locs : List Loc) (ls : Array Slot), wp_S_areTogether_35 g post h s0 → GH g h H → va_S (gA g) s.heap H locs → lv_has ls 2 [] → W p l e (rmm 0 0 0 0) s m args below meth c H locs 0 0 (MQ below (va_Qi post (gS g) (gA g)) args s 0 0 (gA g)) (F0 m 35 ls [.int s0]) := by
  obtain ⟨hx, hb, -, hown, hts, hgk⟩ := id C0
  intro h s0 H locs ls hw hG hS hl
  unfold wp_S_areTogether_35 at hw
  exact re_z C0 hG hS hr hlk ⟨Nat.le_refl _, Nat.le_refl _⟩ hw.1.nar hw.2 dd_S_areTogether_35
def wp_S_areTogether_34 (g : Gm) (post : Int32 → Hp → Prop) (h : Hp) : Prop := wp_S_areTogether_35 g post h 0
set_option maxHeartbeats 4000000 in
set_option maxRecDepth 100000 in
theorem wk_S_areTogether_34 {p : Program} {l : Launch} {e : Env} {s : State} {m : MethodId} {args : Array Value} {below : List Frame} {meth : Method} {c : Code} {g : Gm} {post : Int32 → Hp → Prop} (C0 : Cx g p s m args c prog_1_method_18_code 2 "SegmentLocks") (hr : meth.sig.returnType = (some .boolean)) (hlk : meth.locks = false) : ∀ (h : Hp) (H : Heap) (locs : List Loc) (ls : Array Slot), wp_S_areTogether_34 g post h → GH g h H → va_S (gA g) s.heap H locs → lv_has ls 2 [] → W p l e (rmm 0 0 0 0) s m args below meth c H locs 0 0 (MQ below (va_Qi post (gS g) (gA g)) args s 0 0 (gA g)) (F0 m 34 ls []) := by
  obtain ⟨hx, hb, -, hown, hts, hgk⟩ := id C0
  intro h H locs ls hw hG hS hl
  unfold wp_S_areTogether_34 at hw
  refine lv_iconst (v := 0) hx hb dd_S_areTogether_34 (by decide) ?_
  exact wk_S_areTogether_35 C0 hr hlk _ _ _ _ _ hw hG hS (lv_sub hl [] rfl)
def wp_S_areTogether_30 (g : Gm) (post : Int32 → Hp → Prop) (h : Hp) : Prop := wp_S_areTogether_35 g post h 1
set_option maxHeartbeats 4000000 in
set_option maxRecDepth 100000 in
theorem wk_S_areTogether_30 {p : Program} {l : Launch} {e : Env} {s : State} {m : MethodId} {args : Array Value} {below : List Frame} {meth : Method} {c : Code} {g : Gm} {post : Int32 → Hp → Prop} (C0 : Cx g p s m args c prog_1_method_18_code 2 "SegmentLocks") (hr : meth.sig.returnType = (some .boolean)) (hlk : meth.locks = false) : ∀ (h : Hp) (H : Heap) (locs : List Loc) (ls : Array Slot), wp_S_areTogether_30 g post h → GH g h H → va_S (gA g) s.heap H locs → lv_has ls 2 [] → W p l e (rmm 0 0 0 0) s m args below meth c H locs 0 0 (MQ below (va_Qi post (gS g) (gA g)) args s 0 0 (gA g)) (F0 m 30 ls []) := by
  obtain ⟨hx, hb, -, hown, hts, hgk⟩ := id C0
  intro h H locs ls hw hG hS hl
  unfold wp_S_areTogether_30 at hw
  refine lv_iconst (v := 1) hx hb dd_S_areTogether_30 (by decide) ?_
  refine lv_goto (tgt := 35) hx hb dd_S_areTogether_31 (by decide) ?_
  exact wk_S_areTogether_35 C0 hr hlk _ _ _ _ _ hw hG hS (lv_sub hl [] rfl)
def wp_S_areTogether (g : Gm) (post : Int32 → Hp → Prop) (h : Hp) (i0 : Int32) (i1 : Int32) : Prop := ((i0 = (-1) → wp_S_areTogether_10 g post h) ∧ (¬ i0 = (-1) → ((¬ i1 = (-1) → ((i0 = 2 → wp_S_areTogether_34 g post h) ∧ (¬ i0 = 2 → ((i1 = 2 → wp_S_areTogether_34 g post h) ∧ (¬ i1 = 2 → ((i0 = 0 → wp_S_areTogether_30 g post h) ∧ (¬ i0 = 0 → ((¬ i1 = 0 → wp_S_areTogether_34 g post h) ∧ (i1 = 0 → wp_S_areTogether_30 g post h))))))))) ∧ (i1 = (-1) → wp_S_areTogether_10 g post h))))
set_option maxHeartbeats 4000000 in
set_option maxRecDepth 100000 in
theorem c_S_areTogether (l : Launch) (g : Gm) (post : Int32 → Hp → Prop) (h : Hp) (i0 : Int32) (i1 : Int32) (hw : wp_S_areTogether g post h i0 i1) : Met l (⟨"SegmentLocks", "areTogether", "(II)Z"⟩ : MethodName) (ww (⟨"SegmentLocks", "areTogether", "(II)Z"⟩ : MethodName) prog_1_method_18_code 2 (some .boolean)) (rmm 0 0 0 0) (va_Pc [.int i0, .int i1] (gS g h)) (va_Qi post (gS g) (gA g)) 0 0 (gA g) := by
  first | refine en_met (by decide) ?_ | refine en_metF (by decide) ?_
  intro p e s m below meth c C0 hr hlk hin hG
  have hS : va_S (gA g) s.heap s.heap [] := va_S.rf
  have hl := lv_entry ([.int i0, .int i1]) (n := 2) (Nat.le_of_ble_eq_true rfl)
  rw [lg_entry_eq]
  generalize (lg_sl ([.int i0, .int i1]) ++ List.replicate (2 - (lg_sl ([.int i0, .int i1])).length) Slot.unset).toArray = ls at hl ⊢
  have hl : lv_has ls 2 [(0, .int i0), (1, .int i1)] := hl
  obtain ⟨hx, hb, -, hown, hts, hgk⟩ := id C0
  unfold wp_S_areTogether at hw
  refine lv_iload_n hx hb dd_S_areTogether_0 rfl (lv_at hl 0 rfl) ?_
  refine lv_iconst (v := (-1)) hx hb dd_S_areTogether_1 (by decide) ?_
  refine lv_icmp_eq (tgt := 10) hx hb dd_S_areTogether_2 (by decide) (fun c1 => ?_) (fun c1 => ?_)
  · have hw := hw.1 c1
    exact wk_S_areTogether_10 C0 hr hlk _ _ _ _ hw hG hS (lv_sub hl [] rfl)
  · have hw := hw.2 c1
    refine lv_iload_n hx hb dd_S_areTogether_5 rfl (lv_at hl 1 rfl) ?_
    refine lv_iconst (v := (-1)) hx hb dd_S_areTogether_6 (by decide) ?_
    refine lv_icmp_ne (tgt := 12) hx hb dd_S_areTogether_7 (by decide) (fun c2 => ?_) (fun c2 => ?_)
    · have hw := hw.1 c2
      refine lv_iload_n hx hb dd_S_areTogether_12 rfl (lv_at hl 0 rfl) ?_
      refine lv_iconst (v := 2) hx hb dd_S_areTogether_13 (by decide) ?_
      refine lv_icmp_eq (tgt := 34) hx hb dd_S_areTogether_14 (by decide) (fun c3 => ?_) (fun c3 => ?_)
      · have hw := hw.1 c3
        exact wk_S_areTogether_34 C0 hr hlk _ _ _ _ hw hG hS (lv_sub hl [] rfl)
      · have hw := hw.2 c3
        refine lv_iload_n hx hb dd_S_areTogether_17 rfl (lv_at hl 1 rfl) ?_
        refine lv_iconst (v := 2) hx hb dd_S_areTogether_18 (by decide) ?_
        refine lv_icmp_eq (tgt := 34) hx hb dd_S_areTogether_19 (by decide) (fun c4 => ?_) (fun c4 => ?_)
        · have hw := hw.1 c4
          exact wk_S_areTogether_34 C0 hr hlk _ _ _ _ hw hG hS (lv_sub hl [] rfl)
        · have hw := hw.2 c4
          refine lv_iload_n hx hb dd_S_areTogether_22 rfl (lv_at hl 0 rfl) ?_
          refine lv_if_eq (tgt := 30) hx hb dd_S_areTogether_23 (by decide) (fun c5 => ?_) (fun c5 => ?_)
          · have hw := hw.1 c5
            exact wk_S_areTogether_30 C0 hr hlk _ _ _ _ hw hG hS (lv_sub hl [] rfl)
          · have hw := hw.2 c5
            refine lv_iload_n hx hb dd_S_areTogether_26 rfl (lv_at hl 1 rfl) ?_
            refine lv_if_ne (tgt := 34) hx hb dd_S_areTogether_27 (by decide) (fun c6 => ?_) (fun c6 => ?_)
            · have hw := hw.1 c6
              exact wk_S_areTogether_34 C0 hr hlk _ _ _ _ hw hG hS (lv_sub hl [] rfl)
            · have hw := hw.2 c6
              exact wk_S_areTogether_30 C0 hr hlk _ _ _ _ hw hG hS (lv_sub hl [] rfl)
    · have hw := hw.2 c2
      exact wk_S_areTogether_10 C0 hr hlk _ _ _ _ hw hG hS (lv_sub hl [] rfl)
theorem dd_T_take_0 : decode prog_4_method_3_code 0 = .ok (.aload_n 0, 1) := by decide +kernel
theorem dd_T_take_1 : decode prog_4_method_3_code 1 = .ok (.getfield 9, 3) := by decide +kernel
theorem dd_T_take_4 : decode prog_4_method_3_code 4 = .ok (.iload_n 1, 1) := by decide +kernel
theorem dd_T_take_5 : decode prog_4_method_3_code 5 = .ok (.iaload, 1) := by decide +kernel
theorem dd_T_take_6 : decode prog_4_method_3_code 6 = .ok (.iconst (-1), 1) := by decide +kernel
theorem dd_T_take_7 : decode prog_4_method_3_code 7 = .ok (.if_icmp .ne 13, 3) := by decide +kernel
theorem dd_T_take_10 : decode prog_4_method_3_code 10 = .ok (.aload_n 0, 1) := by decide +kernel
theorem dd_T_take_11 : decode prog_4_method_3_code 11 = .ok (.dup, 1) := by decide +kernel
theorem dd_T_take_12 : decode prog_4_method_3_code 12 = .ok (.getfield 40, 3) := by decide +kernel
theorem dd_T_take_15 : decode prog_4_method_3_code 15 = .ok (.iconst 1, 1) := by decide +kernel
theorem dd_T_take_16 : decode prog_4_method_3_code 16 = .ok (.iadd, 1) := by decide +kernel
theorem dd_T_take_17 : decode prog_4_method_3_code 17 = .ok (.putfield 40, 3) := by decide +kernel
theorem dd_T_take_20 : decode prog_4_method_3_code 20 = .ok (.aload_n 0, 1) := by decide +kernel
theorem dd_T_take_21 : decode prog_4_method_3_code 21 = .ok (.getfield 9, 3) := by decide +kernel
theorem dd_T_take_24 : decode prog_4_method_3_code 24 = .ok (.iload_n 1, 1) := by decide +kernel
theorem dd_T_take_25 : decode prog_4_method_3_code 25 = .ok (.iload_n 2, 1) := by decide +kernel
theorem dd_T_take_26 : decode prog_4_method_3_code 26 = .ok (.iastore, 1) := by decide +kernel
theorem dd_T_take_27 : decode prog_4_method_3_code 27 = .ok (.return_, 1) := by decide +kernel
def wp_T_take_20 (g : Gm) (post : Hp → Prop) (h : Hp) (v0 : Nat) (v1 : Int32) (v2 : Int32) : Prop := hK h v0 = 4 ∧ ∃ a2 : Nat, hR h v0 2 = some a2 ∧ hK h a2 = 21 ∧ vp_in v1 (hN h a2) ∧ ∀ h4 : Hp, h4 = sI h a2 v1.toNatClampNeg v2 → post h4
set_option maxHeartbeats 4000000 in
set_option maxRecDepth 100000 in
theorem wk_T_take_20 {p : Program} {l : Launch} {e : Env} {s : State} {m : MethodId} {args : Array Value} {below : List Frame} {meth : Method} {c : Code} {g : Gm} {post : Hp → Prop} (C0 : Cx g p s m args c prog_4_method_3_code 3 "SegmentLocks$Task") (hr : meth.sig.returnType = none) (hlk : meth.locks = false) : ∀ (h : Hp) (v0 : Nat) (v1 : Int32) (v2 : Int32) (H : Heap) (locs : List Loc) (ls : Array Slot), wp_T_take_20 g post h v0 v1 v2 → GH g h H → va_S (gA g) s.heap H locs → lv_has ls 3 [(0, .ref v0), (1, .int v1), (2, .int v2)] → W p l e (rmm 0 0 0 0) s m args below meth c H locs 0 0 (MQ below (va_Qv post (gS g) (gA g)) args s 0 0 (gA g)) (F0 m 20 ls []) := by
  obtain ⟨hx, hb, -, hown, hts, hgk⟩ := id C0
  intro h v0 v1 v2 H locs ls hw hG hS hl
  unfold wp_T_take_20 at hw
  refine lv_aload_n hx hb dd_T_take_20 rfl (lv_at hl 0 rfl) ?_
  obtain ⟨k1, a2, ea2, hw⟩ := hw
  refine gf_T_9 C0 hG k1 ea2 dd_T_take_21 ?_
  refine lv_iload_n hx hb dd_T_take_24 rfl (lv_at hl 1 rfl) ?_
  refine lv_iload_n hx hb dd_T_take_25 rfl (lv_at hl 2 rfl) ?_
  obtain ⟨k3, k3i, hw⟩ := hw
  refine px_iast C0 hG hS k3 k3i dd_T_take_26 (fun H locs hG hS => ?_)
  have hw := hw _ rfl
  generalize sI h a2 v1.toNatClampNeg v2 = h4 at hw hG
  exact re_v C0 hG hS hr hlk ⟨Nat.le_refl _, Nat.le_refl _⟩ hw dd_T_take_27
def wp_T_take (g : Gm) (post : Hp → Prop) (h : Hp) (a0 : Nat) (i1 : Int32) (i2 : Int32) : Prop := hK h a0 = 4 ∧ ∃ a2 : Nat, hR h a0 2 = some a2 ∧ hK h a2 = 21 ∧ vp_in i1 (hN h a2) ∧ ((¬ (hI h a2 i1.toNatClampNeg) = (-1) → wp_T_take_20 g post h a0 i1 i2) ∧ ((hI h a2 i1.toNatClampNeg) = (-1) → hK h a0 = 4 ∧ ∀ x6 : Int32, x6 = (hI h a0 10) + 1 → hK h a0 = 4 ∧ ∀ h8 : Hp, h8 = sI h a0 10 x6 → wp_T_take_20 g post h8 a0 i1 i2))
set_option maxHeartbeats 4000000 in
set_option maxRecDepth 100000 in
theorem c_T_take (l : Launch) (g : Gm) (post : Hp → Prop) (h : Hp) (a0 : Nat) (i1 : Int32) (i2 : Int32) (hw : wp_T_take g post h a0 i1 i2) : Met l (⟨"SegmentLocks$Task", "take", "(II)V"⟩ : MethodName) (ww (⟨"SegmentLocks$Task", "take", "(II)V"⟩ : MethodName) prog_4_method_3_code 3 none) (rmm 0 0 0 0) (va_Pc [.ref a0, .int i1, .int i2] (gS g h)) (va_Qv post (gS g) (gA g)) 0 0 (gA g) := by
  first | refine en_met (by decide) ?_ | refine en_metF (by decide) ?_
  intro p e s m below meth c C0 hr hlk hin hG
  have hS : va_S (gA g) s.heap s.heap [] := va_S.rf
  have hl := lv_entry ([.ref a0, .int i1, .int i2]) (n := 3) (Nat.le_of_ble_eq_true rfl)
  rw [lg_entry_eq]
  generalize (lg_sl ([.ref a0, .int i1, .int i2]) ++ List.replicate (3 - (lg_sl ([.ref a0, .int i1, .int i2])).length) Slot.unset).toArray = ls at hl ⊢
  have hl : lv_has ls 3 [(0, .ref a0), (1, .int i1), (2, .int i2)] := hl
  obtain ⟨hx, hb, -, hown, hts, hgk⟩ := id C0
  unfold wp_T_take at hw
  refine lv_aload_n hx hb dd_T_take_0 rfl (lv_at hl 0 rfl) ?_
  obtain ⟨k1, a2, ea2, hw⟩ := hw
  refine gf_T_9 C0 hG k1 ea2 dd_T_take_1 ?_
  refine lv_iload_n hx hb dd_T_take_4 rfl (lv_at hl 1 rfl) ?_
  obtain ⟨k3, k3i, hw⟩ := hw
  refine px_iald C0 hG k3 k3i dd_T_take_5 ?_
  refine lv_iconst (v := (-1)) hx hb dd_T_take_6 (by decide) ?_
  refine lv_icmp_ne (tgt := 20) hx hb dd_T_take_7 (by decide) (fun c4 => ?_) (fun c4 => ?_)
  · have hw := hw.1 c4
    exact wk_T_take_20 C0 hr hlk _ _ _ _ _ _ _ hw hG hS (lv_sub hl [0, 1, 2] rfl)
  · have hw := hw.2 c4
    refine lv_aload_n hx hb dd_T_take_10 rfl (lv_at hl 0 rfl) ?_
    refine lv_dup hx hb dd_T_take_11 rfl ?_
    obtain ⟨k5, hw⟩ := hw
    refine gf_T_40 C0 hG k5 dd_T_take_12 ?_
    refine lv_iconst (v := 1) hx hb dd_T_take_15 (by decide) ?_
    refine lv_iadd hx hb dd_T_take_16 ?_
    refine lv_topi (fun x6 ex6 => ?_)
    have hw := hw x6 ex6
    obtain ⟨k7, hw⟩ := hw
    refine pf_T_40 C0 hG hS k7 dd_T_take_17 (fun H locs hG hS => ?_)
    have hw := hw _ rfl
    generalize sI h a0 10 x6 = h8 at hw hG
    exact wk_T_take_20 C0 hr hlk _ _ _ _ _ _ _ hw hG hS (lv_sub hl [0, 1, 2] rfl)
theorem dd_T_stopWaiting_0 : decode prog_4_method_7_code 0 = .ok (.aload_n 0, 1) := by decide +kernel
theorem dd_T_stopWaiting_1 : decode prog_4_method_7_code 1 = .ok (.iconst 0, 1) := by decide +kernel
theorem dd_T_stopWaiting_2 : decode prog_4_method_7_code 2 = .ok (.putfield 36, 3) := by decide +kernel
theorem dd_T_stopWaiting_5 : decode prog_4_method_7_code 5 = .ok (.aload_n 0, 1) := by decide +kernel
theorem dd_T_stopWaiting_6 : decode prog_4_method_7_code 6 = .ok (.iconst (-1), 1) := by decide +kernel
theorem dd_T_stopWaiting_7 : decode prog_4_method_7_code 7 = .ok (.putfield 49, 3) := by decide +kernel
theorem dd_T_stopWaiting_10 : decode prog_4_method_7_code 10 = .ok (.aload_n 0, 1) := by decide +kernel
theorem dd_T_stopWaiting_11 : decode prog_4_method_7_code 11 = .ok (.iconst (-1), 1) := by decide +kernel
theorem dd_T_stopWaiting_12 : decode prog_4_method_7_code 12 = .ok (.putfield 52, 3) := by decide +kernel
theorem dd_T_stopWaiting_15 : decode prog_4_method_7_code 15 = .ok (.return_, 1) := by decide +kernel
def wp_T_stopWaiting (g : Gm) (post : Hp → Prop) (h : Hp) (a0 : Nat) : Prop := hK h a0 = 4 ∧ ∀ h2 : Hp, h2 = sI h a0 9 0 → hK h2 a0 = 4 ∧ ∀ h4 : Hp, h4 = sI h2 a0 13 (-1) → hK h4 a0 = 4 ∧ ∀ h6 : Hp, h6 = sI h4 a0 14 (-1) → post h6
set_option maxHeartbeats 4000000 in
set_option maxRecDepth 100000 in
theorem c_T_stopWaiting (l : Launch) (g : Gm) (post : Hp → Prop) (h : Hp) (a0 : Nat) (hw : wp_T_stopWaiting g post h a0) : Met l (⟨"SegmentLocks$Task", "stopWaiting", "()V"⟩ : MethodName) (ww (⟨"SegmentLocks$Task", "stopWaiting", "()V"⟩ : MethodName) prog_4_method_7_code 1 none) (rmm 0 0 0 0) (va_Pc [.ref a0] (gS g h)) (va_Qv post (gS g) (gA g)) 0 0 (gA g) := by
  first | refine en_met (by decide) ?_ | refine en_metF (by decide) ?_
  intro p e s m below meth c C0 hr hlk hin hG
  have hS : va_S (gA g) s.heap s.heap [] := va_S.rf
  have hl := lv_entry ([.ref a0]) (n := 1) (Nat.le_of_ble_eq_true rfl)
  rw [lg_entry_eq]
  generalize (lg_sl ([.ref a0]) ++ List.replicate (1 - (lg_sl ([.ref a0])).length) Slot.unset).toArray = ls at hl ⊢
  have hl : lv_has ls 1 [(0, .ref a0)] := hl
  obtain ⟨hx, hb, -, hown, hts, hgk⟩ := id C0
  unfold wp_T_stopWaiting at hw
  refine lv_aload_n hx hb dd_T_stopWaiting_0 rfl (lv_at hl 0 rfl) ?_
  refine lv_iconst (v := 0) hx hb dd_T_stopWaiting_1 (by decide) ?_
  obtain ⟨k1, hw⟩ := hw
  refine pf_T_36 C0 hG hS k1 dd_T_stopWaiting_2 (fun H locs hG hS => ?_)
  have hw := hw _ rfl
  generalize sI h a0 9 0 = h2 at hw hG
  refine lv_aload_n hx hb dd_T_stopWaiting_5 rfl (lv_at hl 0 rfl) ?_
  refine lv_iconst (v := (-1)) hx hb dd_T_stopWaiting_6 (by decide) ?_
  obtain ⟨k3, hw⟩ := hw
  refine pf_T_49 C0 hG hS k3 dd_T_stopWaiting_7 (fun H locs hG hS => ?_)
  have hw := hw _ rfl
  generalize sI h2 a0 13 (-1) = h4 at hw hG
  refine lv_aload_n hx hb dd_T_stopWaiting_10 rfl (lv_at hl 0 rfl) ?_
  refine lv_iconst (v := (-1)) hx hb dd_T_stopWaiting_11 (by decide) ?_
  obtain ⟨k5, hw⟩ := hw
  refine pf_T_52 C0 hG hS k5 dd_T_stopWaiting_12 (fun H locs hG hS => ?_)
  have hw := hw _ rfl
  generalize sI h4 a0 14 (-1) = h6 at hw hG
  exact re_v C0 hG hS hr hlk ⟨Nat.le_refl _, Nat.le_refl _⟩ hw dd_T_stopWaiting_15
theorem dd_T_forget_0 : decode prog_4_method_8_code 0 = .ok (.iconst 0, 1) := by decide +kernel
theorem dd_T_forget_1 : decode prog_4_method_8_code 1 = .ok (.istore_n 1, 1) := by decide +kernel
theorem dd_T_forget_2 : decode prog_4_method_8_code 2 = .ok (.iload_n 1, 1) := by decide +kernel
theorem dd_T_forget_3 : decode prog_4_method_8_code 3 = .ok (.bipush 50, 2) := by decide +kernel
theorem dd_T_forget_5 : decode prog_4_method_8_code 5 = .ok (.if_icmp .ge 37, 3) := by decide +kernel
theorem dd_T_forget_8 : decode prog_4_method_8_code 8 = .ok (.aload_n 0, 1) := by decide +kernel
theorem dd_T_forget_9 : decode prog_4_method_8_code 9 = .ok (.getfield 9, 3) := by decide +kernel
theorem dd_T_forget_12 : decode prog_4_method_8_code 12 = .ok (.iload_n 1, 1) := by decide +kernel
theorem dd_T_forget_13 : decode prog_4_method_8_code 13 = .ok (.iconst (-1), 1) := by decide +kernel
theorem dd_T_forget_14 : decode prog_4_method_8_code 14 = .ok (.iastore, 1) := by decide +kernel
theorem dd_T_forget_15 : decode prog_4_method_8_code 15 = .ok (.aload_n 0, 1) := by decide +kernel
theorem dd_T_forget_16 : decode prog_4_method_8_code 16 = .ok (.getfield 15, 3) := by decide +kernel
theorem dd_T_forget_19 : decode prog_4_method_8_code 19 = .ok (.iload_n 1, 1) := by decide +kernel
theorem dd_T_forget_20 : decode prog_4_method_8_code 20 = .ok (.iconst 0, 1) := by decide +kernel
theorem dd_T_forget_21 : decode prog_4_method_8_code 21 = .ok (.bastore, 1) := by decide +kernel
theorem dd_T_forget_22 : decode prog_4_method_8_code 22 = .ok (.aload_n 0, 1) := by decide +kernel
theorem dd_T_forget_23 : decode prog_4_method_8_code 23 = .ok (.getfield 19, 3) := by decide +kernel
theorem dd_T_forget_26 : decode prog_4_method_8_code 26 = .ok (.iload_n 1, 1) := by decide +kernel
theorem dd_T_forget_27 : decode prog_4_method_8_code 27 = .ok (.iconst 0, 1) := by decide +kernel
theorem dd_T_forget_28 : decode prog_4_method_8_code 28 = .ok (.bastore, 1) := by decide +kernel
theorem dd_T_forget_29 : decode prog_4_method_8_code 29 = .ok (.aload_n 0, 1) := by decide +kernel
theorem dd_T_forget_30 : decode prog_4_method_8_code 30 = .ok (.getfield 26, 3) := by decide +kernel
theorem dd_T_forget_33 : decode prog_4_method_8_code 33 = .ok (.iload_n 1, 1) := by decide +kernel
theorem dd_T_forget_34 : decode prog_4_method_8_code 34 = .ok (.iconst 0, 1) := by decide +kernel
theorem dd_T_forget_35 : decode prog_4_method_8_code 35 = .ok (.bastore, 1) := by decide +kernel
theorem dd_T_forget_36 : decode prog_4_method_8_code 36 = .ok (.iinc 1 1, 3) := by decide +kernel
theorem dd_T_forget_39 : decode prog_4_method_8_code 39 = .ok (.goto (-37), 3) := by decide +kernel
theorem dd_T_forget_42 : decode prog_4_method_8_code 42 = .ok (.aload_n 0, 1) := by decide +kernel
theorem dd_T_forget_43 : decode prog_4_method_8_code 43 = .ok (.iconst 0, 1) := by decide +kernel
theorem dd_T_forget_44 : decode prog_4_method_8_code 44 = .ok (.putfield 32, 3) := by decide +kernel
theorem dd_T_forget_47 : decode prog_4_method_8_code 47 = .ok (.aload_n 0, 1) := by decide +kernel
theorem dd_T_forget_48 : decode prog_4_method_8_code 48 = .ok (.iconst 0, 1) := by decide +kernel
theorem dd_T_forget_49 : decode prog_4_method_8_code 49 = .ok (.putfield 40, 3) := by decide +kernel
theorem dd_T_forget_52 : decode prog_4_method_8_code 52 = .ok (.aload_n 0, 1) := by decide +kernel
theorem dd_T_forget_53 : decode prog_4_method_8_code 53 = .ok (.iconst 0, 1) := by decide +kernel
theorem dd_T_forget_54 : decode prog_4_method_8_code 54 = .ok (.putfield 43, 3) := by decide +kernel
theorem dd_T_forget_57 : decode prog_4_method_8_code 57 = .ok (.aload_n 0, 1) := by decide +kernel
theorem dd_T_forget_58 : decode prog_4_method_8_code 58 = .ok (.invokevirtual 67, 3) := by decide +kernel
theorem dd_T_forget_61 : decode prog_4_method_8_code 61 = .ok (.return_, 1) := by decide +kernel
def wp_T_forget_2 (g : Gm) (post : Hp → Prop) : Nat → Hp → Nat → Int32 → Prop
  | 0, _, _, _ => False
  | n + 1, h, v0, v1 => ((50 ≤ v1 → hK h v0 = 4 ∧ zB 0 ∧ ∀ h3 : Hp, h3 = sI h v0 8 0 → hK h3 v0 = 4 ∧ ∀ h5 : Hp, h5 = sI h3 v0 10 0 → hK h5 v0 = 4 ∧ ∀ h7 : Hp, h7 = sI h5 v0 11 0 → hK h7 v0 = 4 ∧ wp_T_stopWaiting g (fun h9 => post h9) h7 v0) ∧ (¬ 50 ≤ v1 → hK h v0 = 4 ∧ ∃ a11 : Nat, hR h v0 2 = some a11 ∧ hK h a11 = 21 ∧ vp_in v1 (hN h a11) ∧ ∀ h13 : Hp, h13 = sI h a11 v1.toNatClampNeg (-1) → hK h13 v0 = 4 ∧ ∃ a15 : Nat, hR h13 v0 3 = some a15 ∧ hK h13 a15 = 23 ∧ vp_in v1 (hN h13 a15) ∧ zB 0 ∧ ∀ h17 : Hp, h17 = sI h13 a15 v1.toNatClampNeg 0 → hK h17 v0 = 4 ∧ ∃ a19 : Nat, hR h17 v0 4 = some a19 ∧ hK h17 a19 = 23 ∧ vp_in v1 (hN h17 a19) ∧ zB 0 ∧ ∀ h21 : Hp, h21 = sI h17 a19 v1.toNatClampNeg 0 → hK h21 v0 = 4 ∧ ∃ a23 : Nat, hR h21 v0 6 = some a23 ∧ hK h21 a23 = 23 ∧ vp_in v1 (hN h21 a23) ∧ zB 0 ∧ ∀ h25 : Hp, h25 = sI h21 a23 v1.toNatClampNeg 0 → ∀ x26 : Int32, x26 = v1 + 1 → wp_T_forget_2 g post n h25 v0 x26))
set_option maxHeartbeats 4000000 in
set_option maxRecDepth 100000 in
theorem wk_T_forget_2 {p : Program} {l : Launch} {e : Env} {s : State} {m : MethodId} {args : Array Value} {below : List Frame} {meth : Method} {c : Code} {g : Gm} {post : Hp → Prop} (C0 : Cx g p s m args c prog_4_method_8_code 2 "SegmentLocks$Task") (hr : meth.sig.returnType = none) (hlk : meth.locks = false) : ∀ n : Nat, ∀ (h : Hp) (v0 : Nat) (v1 : Int32) (H : Heap) (locs : List Loc) (ls : Array Slot), wp_T_forget_2 g post n h v0 v1 → GH g h H → va_S (gA g) s.heap H locs → lv_has ls 2 [(0, .ref v0), (1, .int v1)] → W p l e (rmm 1 20 0 0) s m args below meth c H locs 0 0 (MQ below (va_Qv post (gS g) (gA g)) args s 0 0 (gA g)) (F0 m 2 ls []) := by
  obtain ⟨hx, hb, -, hown, hts, hgk⟩ := id C0
  intro n
  induction n with
  | zero =>
    intro h v0 v1 H locs ls hw hG hS hl
    exact hw.elim
  | succ n ih =>
    intro h v0 v1 H locs ls hw hG hS hl
    unfold wp_T_forget_2 at hw
    refine lv_iload_n hx hb dd_T_forget_2 rfl (lv_at hl 1 rfl) ?_
    refine lv_bipush (v := 50) hx hb dd_T_forget_3 (by decide) ?_
    refine lv_icmp_ge (tgt := 42) hx hb dd_T_forget_5 (by decide) (fun c1 => ?_) (fun c1 => ?_)
    · have hw := hw.1 c1
      refine lv_aload_n hx hb dd_T_forget_42 rfl (lv_at hl 0 rfl) ?_
      refine lv_iconst (v := 0) hx hb dd_T_forget_43 (by decide) ?_
      obtain ⟨k2, hz, hw⟩ := hw
      refine pf_T_32 C0 hG hS k2 hz dd_T_forget_44 (fun H locs hG hS => ?_)
      have hw := hw _ rfl
      generalize sI h v0 8 0 = h3 at hw hG
      refine lv_aload_n hx hb dd_T_forget_47 rfl (lv_at hl 0 rfl) ?_
      refine lv_iconst (v := 0) hx hb dd_T_forget_48 (by decide) ?_
      obtain ⟨k4, hw⟩ := hw
      refine pf_T_40 C0 hG hS k4 dd_T_forget_49 (fun H locs hG hS => ?_)
      have hw := hw _ rfl
      generalize sI h3 v0 10 0 = h5 at hw hG
      refine lv_aload_n hx hb dd_T_forget_52 rfl (lv_at hl 0 rfl) ?_
      refine lv_iconst (v := 0) hx hb dd_T_forget_53 (by decide) ?_
      obtain ⟨k6, hw⟩ := hw
      refine pf_T_43 C0 hG hS k6 dd_T_forget_54 (fun H locs hG hS => ?_)
      have hw := hw _ rfl
      generalize sI h5 v0 11 0 = h7 at hw hG
      refine lv_aload_n hx hb dd_T_forget_57 rfl (lv_at hl 0 rfl) ?_
      obtain ⟨k8, hw⟩ := hw
      refine ca_v hS (rn_V C0 hG hS (c_T_stopWaiting l g _ h7 v0 hw) (ci := 3) k8 (by decide) rfl rfl (host := "") (nest := false) (n := 0) (As := []) (rest := []) km_8 km_7 km_10 km_11 km_9 ⟨by decide, by decide, by decide +kernel⟩ ⟨Nat.le_of_ble_eq_true rfl, Nat.le_of_ble_eq_true rfl⟩ rfl hl.1 rfl (by decide) dd_T_forget_58 ⟨Nat.le_refl _, Nat.le_refl _⟩) (fun h9 H locs hw hG hS => ?_)
      exact re_v C0 hG hS hr hlk ⟨Nat.le_refl _, Nat.le_refl _⟩ hw dd_T_forget_61
    · have hw := hw.2 c1
      refine lv_aload_n hx hb dd_T_forget_8 rfl (lv_at hl 0 rfl) ?_
      obtain ⟨k10, a11, ea11, hw⟩ := hw
      refine gf_T_9 C0 hG k10 ea11 dd_T_forget_9 ?_
      refine lv_iload_n hx hb dd_T_forget_12 rfl (lv_at hl 1 rfl) ?_
      refine lv_iconst (v := (-1)) hx hb dd_T_forget_13 (by decide) ?_
      obtain ⟨k12, k12i, hw⟩ := hw
      refine px_iast C0 hG hS k12 k12i dd_T_forget_14 (fun H locs hG hS => ?_)
      have hw := hw _ rfl
      generalize sI h a11 v1.toNatClampNeg (-1) = h13 at hw hG
      refine lv_aload_n hx hb dd_T_forget_15 rfl (lv_at hl 0 rfl) ?_
      obtain ⟨k14, a15, ea15, hw⟩ := hw
      refine gf_T_15 C0 hG k14 ea15 dd_T_forget_16 ?_
      refine lv_iload_n hx hb dd_T_forget_19 rfl (lv_at hl 1 rfl) ?_
      refine lv_iconst (v := 0) hx hb dd_T_forget_20 (by decide) ?_
      obtain ⟨k16, k16i, hz, hw⟩ := hw
      refine px_zast C0 hG hS k16 k16i hz.nar dd_T_forget_21 (fun H locs hG hS => ?_)
      have hw := hw _ rfl
      generalize sI h13 a15 v1.toNatClampNeg 0 = h17 at hw hG
      refine lv_aload_n hx hb dd_T_forget_22 rfl (lv_at hl 0 rfl) ?_
      obtain ⟨k18, a19, ea19, hw⟩ := hw
      refine gf_T_19 C0 hG k18 ea19 dd_T_forget_23 ?_
      refine lv_iload_n hx hb dd_T_forget_26 rfl (lv_at hl 1 rfl) ?_
      refine lv_iconst (v := 0) hx hb dd_T_forget_27 (by decide) ?_
      obtain ⟨k20, k20i, hz, hw⟩ := hw
      refine px_zast C0 hG hS k20 k20i hz.nar dd_T_forget_28 (fun H locs hG hS => ?_)
      have hw := hw _ rfl
      generalize sI h17 a19 v1.toNatClampNeg 0 = h21 at hw hG
      refine lv_aload_n hx hb dd_T_forget_29 rfl (lv_at hl 0 rfl) ?_
      obtain ⟨k22, a23, ea23, hw⟩ := hw
      refine gf_T_26 C0 hG k22 ea23 dd_T_forget_30 ?_
      refine lv_iload_n hx hb dd_T_forget_33 rfl (lv_at hl 1 rfl) ?_
      refine lv_iconst (v := 0) hx hb dd_T_forget_34 (by decide) ?_
      obtain ⟨k24, k24i, hz, hw⟩ := hw
      refine px_zast C0 hG hS k24 k24i hz.nar dd_T_forget_35 (fun H locs hG hS => ?_)
      have hw := hw _ rfl
      generalize sI h21 a23 v1.toNatClampNeg 0 = h25 at hw hG
      obtain ⟨x26, ex26⟩ : ∃ y : Int32, y = v1 + 1 := ⟨_, rfl⟩
      have hw := hw x26 ex26
      refine lv_iinc (v := x26) (lv' := [(1, .int x26), (0, .ref v0)]) hx hb dd_T_forget_36 hl (k := 1) rfl (by rw [ex26]; rfl) (by decide) rfl (fun ls hl => ?_)
      refine lv_goto (tgt := 2) hx hb dd_T_forget_39 (by decide) ?_
      exact ih _ _ _ _ _ _ hw hG hS (lv_sub hl [1, 0] rfl)
def wp_T_forget (g : Gm) (post : Hp → Prop) (h : Hp) (a0 : Nat) : Prop := ∃ n : Nat, wp_T_forget_2 g post n h a0 0
set_option maxHeartbeats 4000000 in
set_option maxRecDepth 100000 in
theorem c_T_forget (l : Launch) (g : Gm) (post : Hp → Prop) (h : Hp) (a0 : Nat) (hw : wp_T_forget g post h a0) : Met l (⟨"SegmentLocks$Task", "forget", "()V"⟩ : MethodName) (ww (⟨"SegmentLocks$Task", "forget", "()V"⟩ : MethodName) prog_4_method_8_code 2 none) (rmm 1 20 0 0) (va_Pc [.ref a0] (gS g h)) (va_Qv post (gS g) (gA g)) 0 0 (gA g) := by
  first | refine en_met (by decide) ?_ | refine en_metF (by decide) ?_
  intro p e s m below meth c C0 hr hlk hin hG
  have hS : va_S (gA g) s.heap s.heap [] := va_S.rf
  have hl := lv_entry ([.ref a0]) (n := 2) (Nat.le_of_ble_eq_true rfl)
  rw [lg_entry_eq]
  generalize (lg_sl ([.ref a0]) ++ List.replicate (2 - (lg_sl ([.ref a0])).length) Slot.unset).toArray = ls at hl ⊢
  have hl : lv_has ls 2 [(0, .ref a0)] := hl
  obtain ⟨hx, hb, -, hown, hts, hgk⟩ := id C0
  unfold wp_T_forget at hw
  refine lv_iconst (v := 0) hx hb dd_T_forget_0 (by decide) ?_
  refine lv_istore_n (lv' := [(1, .int 0), (0, .ref a0)]) hx hb dd_T_forget_1 rfl hl (by decide) rfl (fun ls hl => ?_)
  obtain ⟨n, hw⟩ := hw
  exact wk_T_forget_2 C0 hr hlk n _ _ _ _ _ _ hw hG hS (lv_sub hl [1, 0] rfl)
theorem dd_T_isYounger_0 : decode prog_4_method_2_code 0 = .ok (.aload_n 0, 1) := by decide +kernel
theorem dd_T_isYounger_1 : decode prog_4_method_2_code 1 = .ok (.getfield 58, 3) := by decide +kernel
theorem dd_T_isYounger_4 : decode prog_4_method_2_code 4 = .ok (.aload_n 1, 1) := by decide +kernel
theorem dd_T_isYounger_5 : decode prog_4_method_2_code 5 = .ok (.getfield 58, 3) := by decide +kernel
theorem dd_T_isYounger_8 : decode prog_4_method_2_code 8 = .ok (.if_icmp .gt 25, 3) := by decide +kernel
theorem dd_T_isYounger_11 : decode prog_4_method_2_code 11 = .ok (.aload_n 0, 1) := by decide +kernel
theorem dd_T_isYounger_12 : decode prog_4_method_2_code 12 = .ok (.getfield 58, 3) := by decide +kernel
theorem dd_T_isYounger_15 : decode prog_4_method_2_code 15 = .ok (.aload_n 1, 1) := by decide +kernel
theorem dd_T_isYounger_16 : decode prog_4_method_2_code 16 = .ok (.getfield 58, 3) := by decide +kernel
theorem dd_T_isYounger_19 : decode prog_4_method_2_code 19 = .ok (.if_icmp .ne 18, 3) := by decide +kernel
theorem dd_T_isYounger_22 : decode prog_4_method_2_code 22 = .ok (.aload_n 0, 1) := by decide +kernel
theorem dd_T_isYounger_23 : decode prog_4_method_2_code 23 = .ok (.getfield 55, 3) := by decide +kernel
theorem dd_T_isYounger_26 : decode prog_4_method_2_code 26 = .ok (.aload_n 1, 1) := by decide +kernel
theorem dd_T_isYounger_27 : decode prog_4_method_2_code 27 = .ok (.getfield 55, 3) := by decide +kernel
theorem dd_T_isYounger_30 : decode prog_4_method_2_code 30 = .ok (.if_icmp .le 7, 3) := by decide +kernel
theorem dd_T_isYounger_33 : decode prog_4_method_2_code 33 = .ok (.iconst 1, 1) := by decide +kernel
theorem dd_T_isYounger_34 : decode prog_4_method_2_code 34 = .ok (.goto 4, 3) := by decide +kernel
theorem dd_T_isYounger_37 : decode prog_4_method_2_code 37 = .ok (.iconst 0, 1) := by decide +kernel
theorem dd_T_isYounger_38 : decode prog_4_method_2_code 38 = .ok (.ireturn, 1) := by decide +kernel
def wp_T_isYounger_38 (g : Gm) (post : Int32 → Hp → Prop) (h : Hp) (s0 : Int32) : Prop := zB s0 ∧ post s0 h
set_option maxHeartbeats 4000000 in
set_option maxRecDepth 100000 in
theorem wk_T_isYounger_38 {p : Program} {l : Launch} {e : Env} {s : State} {m : MethodId} {args : Array Value} {below : List Frame} {meth : Method} {c : Code} {g : Gm} {post : Int32 → Hp → Prop} (C0 : Cx g p s m args c prog_4_method_2_code 2 "SegmentLocks$Task") (hr : meth.sig.returnType = (some .boolean)) (hlk : meth.locks = false) : ∀ (h : Hp) (s0 : Int32) (H : Heap) (locs : List Loc) (ls : Array Slot), wp_T_isYounger_38 g post h s0 → GH g h H → va_S (gA g) s.heap H locs → lv_has ls 2 [] → W p l e (rmm 0 0 0 0) s m args below meth c H locs 0 0 (MQ below (va_Qi post (gS g) (gA g)) args s 0 0 (gA g)) (F0 m 38 ls [.int s0]) := by
  obtain ⟨hx, hb, -, hown, hts, hgk⟩ := id C0
  intro h s0 H locs ls hw hG hS hl
  unfold wp_T_isYounger_38 at hw
  exact re_z C0 hG hS hr hlk ⟨Nat.le_refl _, Nat.le_refl _⟩ hw.1.nar hw.2 dd_T_isYounger_38
def wp_T_isYounger_33 (g : Gm) (post : Int32 → Hp → Prop) (h : Hp) : Prop := wp_T_isYounger_38 g post h 1
set_option maxHeartbeats 4000000 in
set_option maxRecDepth 100000 in
theorem wk_T_isYounger_33 {p : Program} {l : Launch} {e : Env} {s : State} {m : MethodId} {args : Array Value} {below : List Frame} {meth : Method} {c : Code} {g : Gm} {post : Int32 → Hp → Prop} (C0 : Cx g p s m args c prog_4_method_2_code 2 "SegmentLocks$Task") (hr : meth.sig.returnType = (some .boolean)) (hlk : meth.locks = false) : ∀ (h : Hp) (H : Heap) (locs : List Loc) (ls : Array Slot), wp_T_isYounger_33 g post h → GH g h H → va_S (gA g) s.heap H locs → lv_has ls 2 [] → W p l e (rmm 0 0 0 0) s m args below meth c H locs 0 0 (MQ below (va_Qi post (gS g) (gA g)) args s 0 0 (gA g)) (F0 m 33 ls []) := by
  obtain ⟨hx, hb, -, hown, hts, hgk⟩ := id C0
  intro h H locs ls hw hG hS hl
  unfold wp_T_isYounger_33 at hw
  refine lv_iconst (v := 1) hx hb dd_T_isYounger_33 (by decide) ?_
  refine lv_goto (tgt := 38) hx hb dd_T_isYounger_34 (by decide) ?_
  exact wk_T_isYounger_38 C0 hr hlk _ _ _ _ _ hw hG hS (lv_sub hl [] rfl)
def wp_T_isYounger_37 (g : Gm) (post : Int32 → Hp → Prop) (h : Hp) : Prop := wp_T_isYounger_38 g post h 0
set_option maxHeartbeats 4000000 in
set_option maxRecDepth 100000 in
theorem wk_T_isYounger_37 {p : Program} {l : Launch} {e : Env} {s : State} {m : MethodId} {args : Array Value} {below : List Frame} {meth : Method} {c : Code} {g : Gm} {post : Int32 → Hp → Prop} (C0 : Cx g p s m args c prog_4_method_2_code 2 "SegmentLocks$Task") (hr : meth.sig.returnType = (some .boolean)) (hlk : meth.locks = false) : ∀ (h : Hp) (H : Heap) (locs : List Loc) (ls : Array Slot), wp_T_isYounger_37 g post h → GH g h H → va_S (gA g) s.heap H locs → lv_has ls 2 [] → W p l e (rmm 0 0 0 0) s m args below meth c H locs 0 0 (MQ below (va_Qi post (gS g) (gA g)) args s 0 0 (gA g)) (F0 m 37 ls []) := by
  obtain ⟨hx, hb, -, hown, hts, hgk⟩ := id C0
  intro h H locs ls hw hG hS hl
  unfold wp_T_isYounger_37 at hw
  refine lv_iconst (v := 0) hx hb dd_T_isYounger_37 (by decide) ?_
  exact wk_T_isYounger_38 C0 hr hlk _ _ _ _ _ hw hG hS (lv_sub hl [] rfl)
def wp_T_isYounger (g : Gm) (post : Int32 → Hp → Prop) (h : Hp) (a0 : Nat) (b1 : Nat) : Prop := hK h a0 = 4 ∧ hK h b1 = 4 ∧ (((hI h b1 1) < (hI h a0 1) → wp_T_isYounger_33 g post h) ∧ (¬ (hI h b1 1) < (hI h a0 1) → hK h a0 = 4 ∧ hK h b1 = 4 ∧ ((¬ (hI h a0 1) = (hI h b1 1) → wp_T_isYounger_37 g post h) ∧ ((hI h a0 1) = (hI h b1 1) → hK h a0 = 4 ∧ hK h b1 = 4 ∧ (((hI h a0 0) ≤ (hI h b1 0) → wp_T_isYounger_37 g post h) ∧ (¬ (hI h a0 0) ≤ (hI h b1 0) → wp_T_isYounger_33 g post h))))))
set_option maxHeartbeats 4000000 in
set_option maxRecDepth 100000 in
theorem c_T_isYounger (l : Launch) (g : Gm) (post : Int32 → Hp → Prop) (h : Hp) (a0 : Nat) (b1 : Nat) (hw : wp_T_isYounger g post h a0 b1) : Met l (⟨"SegmentLocks$Task", "isYounger", "(LSegmentLocks$Task;)Z"⟩ : MethodName) (ww (⟨"SegmentLocks$Task", "isYounger", "(LSegmentLocks$Task;)Z"⟩ : MethodName) prog_4_method_2_code 2 (some .boolean)) (rmm 0 0 0 0) (va_Pc [.ref a0, .ref b1] (gS g h)) (va_Qi post (gS g) (gA g)) 0 0 (gA g) := by
  first | refine en_met (by decide) ?_ | refine en_metF (by decide) ?_
  intro p e s m below meth c C0 hr hlk hin hG
  have hS : va_S (gA g) s.heap s.heap [] := va_S.rf
  have hl := lv_entry ([.ref a0, .ref b1]) (n := 2) (Nat.le_of_ble_eq_true rfl)
  rw [lg_entry_eq]
  generalize (lg_sl ([.ref a0, .ref b1]) ++ List.replicate (2 - (lg_sl ([.ref a0, .ref b1])).length) Slot.unset).toArray = ls at hl ⊢
  have hl : lv_has ls 2 [(0, .ref a0), (1, .ref b1)] := hl
  obtain ⟨hx, hb, -, hown, hts, hgk⟩ := id C0
  unfold wp_T_isYounger at hw
  refine lv_aload_n hx hb dd_T_isYounger_0 rfl (lv_at hl 0 rfl) ?_
  obtain ⟨k1, hw⟩ := hw
  refine gf_T_58 C0 hG k1 dd_T_isYounger_1 ?_
  refine lv_aload_n hx hb dd_T_isYounger_4 rfl (lv_at hl 1 rfl) ?_
  obtain ⟨k2, hw⟩ := hw
  refine gf_T_58 C0 hG k2 dd_T_isYounger_5 ?_
  refine lv_icmp_gt (tgt := 33) hx hb dd_T_isYounger_8 (by decide) (fun c3 => ?_) (fun c3 => ?_)
  · have hw := hw.1 c3
    exact wk_T_isYounger_33 C0 hr hlk _ _ _ _ hw hG hS (lv_sub hl [] rfl)
  · have hw := hw.2 c3
    refine lv_aload_n hx hb dd_T_isYounger_11 rfl (lv_at hl 0 rfl) ?_
    obtain ⟨k4, hw⟩ := hw
    refine gf_T_58 C0 hG k4 dd_T_isYounger_12 ?_
    refine lv_aload_n hx hb dd_T_isYounger_15 rfl (lv_at hl 1 rfl) ?_
    obtain ⟨k5, hw⟩ := hw
    refine gf_T_58 C0 hG k5 dd_T_isYounger_16 ?_
    refine lv_icmp_ne (tgt := 37) hx hb dd_T_isYounger_19 (by decide) (fun c6 => ?_) (fun c6 => ?_)
    · have hw := hw.1 c6
      exact wk_T_isYounger_37 C0 hr hlk _ _ _ _ hw hG hS (lv_sub hl [] rfl)
    · have hw := hw.2 c6
      refine lv_aload_n hx hb dd_T_isYounger_22 rfl (lv_at hl 0 rfl) ?_
      obtain ⟨k7, hw⟩ := hw
      refine gf_T_55 C0 hG k7 dd_T_isYounger_23 ?_
      refine lv_aload_n hx hb dd_T_isYounger_26 rfl (lv_at hl 1 rfl) ?_
      obtain ⟨k8, hw⟩ := hw
      refine gf_T_55 C0 hG k8 dd_T_isYounger_27 ?_
      refine lv_icmp_le (tgt := 37) hx hb dd_T_isYounger_30 (by decide) (fun c9 => ?_) (fun c9 => ?_)
      · have hw := hw.1 c9
        exact wk_T_isYounger_37 C0 hr hlk _ _ _ _ hw hG hS (lv_sub hl [] rfl)
      · have hw := hw.2 c9
        exact wk_T_isYounger_33 C0 hr hlk _ _ _ _ hw hG hS (lv_sub hl [] rfl)
