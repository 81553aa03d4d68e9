/-! Entry, ends and calls over the abstract heap -/
theorem wx_good {y : MethodName} {b : ByteArray} {n : Nat} {r : Option FieldType} (h : Cond.code y b n r ∈ wx_T) : GoodIn wx_T (Cond.code y b n r :: wx_T) := by
  intro w hw
  have hw' : w ∈ wx_T := by
    rcases List.mem_cons.mp hw with e | e
    · rw [e]; exact h
    · exact e
  exact ⟨hw', good_of_word (List.mem_filter.mp hw').2⟩
abbrev rmm (fr lc mc ms : Nat) : Room := { frames := fr, cells := mc, slots := ms, locals := lc }
/-- a method's words: its code, and all -/
abbrev ww (y : MethodName) (b : ByteArray) (n : Nat) (r : Option FieldType) : List Cond := Cond.code y b n r :: wx_T
theorem en_met {l : Launch} {y : MethodName} {bytes : ByteArray} {nL fr lc mc ms : Nat} {ret : Option FieldType} {g : Gm} {h : Hp} {av : List Value} {Qc : Array Value → State → Outcome → State → Prop} {free : Addr → Prop} (hy : plainName y.cls = true)
    (body : ∀ (p : Program) (e : Env) (s : State) (m : MethodId) (below : List Frame) (meth : Method) (c : Code), Cx g p s m av.toArray c bytes nL y.cls → meth.sig.returnType = ret → meth.locks = false → meth.name = y.name → GH g h s.heap →
      W p l e (rmm fr lc mc ms) s m av.toArray below meth c s.heap [] 0 0 (MQ below Qc av.toArray s mc ms free) (entryFrame m av.toArray nL)) : Met l y (ww y bytes nL ret) (rmm fr lc mc ms) (va_Pc av (gS g h)) Qc mc ms free := by
  refine Met.ofW (cc := bytes) (maxL := nL) (ret := ret) hy rfl ?_
  intro p e s m args below meth c s₁ B hml hv
  obtain ⟨rfl, hgk, hgh⟩ := hv
  have hts := atoms_spec (ws := ww y bytes nL ret) B.pre
  exact body p e s m below meth c ⟨B.exec, B.bytes, hml, findClass_of_methodNamed B.named, fun w hw => hts w (List.mem_cons_of_mem _ hw), hgk⟩ B.returns B.notSynchronized (name_of_methodNamed B.named B.method).1 hgh
theorem en_metF {l : Launch} {y : MethodName} {bytes : ByteArray} {nL fr lc mc ms : Nat} {ret : Option FieldType} {g : Gm} {h : Hp} {av : List Value} {Qc : Array Value → State → Outcome → State → Prop} {free : Addr → Prop} (hy : plainFor y = true)
    (body : ∀ (p : Program) (e : Env) (s : State) (m : MethodId) (below : List Frame) (meth : Method) (c : Code), Cx g p s m av.toArray c bytes nL y.cls → meth.sig.returnType = ret → meth.locks = false → meth.name = y.name → GH g h s.heap →
      W p l e (rmm fr lc mc ms) s m av.toArray below meth c s.heap [] 0 0 (MQ below Qc av.toArray s mc ms free) (entryFrame m av.toArray nL)) : Met l y (ww y bytes nL ret) (rmm fr lc mc ms) (va_Pc av (gS g h)) Qc mc ms free := by
  refine va_MetF (cc := bytes) (maxL := nL) (ret := ret) hy rfl ?_
  intro p e s m args below meth c s₁ B hml hv
  obtain ⟨rfl, hgk, hgh⟩ := hv
  have hts := atoms_spec (ws := ww y bytes nL ret) B.pre
  exact body p e s m below meth c ⟨B.exec, B.bytes, hml, findClass_of_methodNamed B.named, fun w hw => hts w (List.mem_cons_of_mem _ hw), hgk⟩ B.returns B.notSynchronized (name_of_methodNamed B.named B.method).1 hgh
section PE
variable {p : Program} {l : Launch} {e : Env} {R : Room} {s : State} {m : MethodId} {args : Array Value} {below : List Frame} {meth : Method} {c : Code} {H : Heap} {locs : List Loc} {cells slots : Nat} {Q : State → Prop}
variable {cc : ByteArray} {pc nL : Nat} {ls : Array Slot} {rest : List Value} {a : Nat} {g : Gm} {h : Hp} {own : String} {mc ms : Nat}
theorem re_i (C0 : Cx g p s m args c cc nL own) (hG : GH g h H) (hS : va_S (gA g) s.heap H locs) (hr : meth.sig.returnType = some .int) (hlk : meth.locks = false) (hm : cells ≤ mc ∧ slots ≤ ms) {post : Int32 → Hp → Prop} {v : Int32} (hp : post v h) (hdg : decode cc pc = .ok (.ireturn, 1)) :
    W p l e R s m args below meth c H locs cells slots (MQ below (va_Qi post (gS g) (gA g)) args s mc ms (gA g)) (F0 m pc ls [.int v]) := by
  obtain ⟨hx, hb, hml, hown, hts, hgk⟩ := C0
  refine W.widen hm.1 hm.2 ?_
  exact W.iret hx hb hr (fun t ht hW => ⟨⟨v, h, rfl, hp, gK.warm hW (by rw [ht]; exact hS.1) (by rw [ht]; exact hS.2.1) hgk, by rw [ht]; exact hG⟩, hS.F ht⟩) hS.2.2 hdg hlk
theorem re_z (C0 : Cx g p s m args c cc nL own) (hG : GH g h H) (hS : va_S (gA g) s.heap H locs) (hr : meth.sig.returnType = some .boolean) (hlk : meth.locks = false) (hm : cells ≤ mc ∧ slots ≤ ms) {post : Int32 → Hp → Prop} {v : Int32} (hv : vp_nar .boolean v = v) (hp : post v h) (hdg : decode cc pc = .ok (.ireturn, 1)) :
    W p l e R s m args below meth c H locs cells slots (MQ below (va_Qi post (gS g) (gA g)) args s mc ms (gA g)) (F0 m pc ls [.int v]) := by
  obtain ⟨hx, hb, hml, hown, hts, hgk⟩ := C0
  refine W.widen hm.1 hm.2 ?_
  refine W.zret (ty := .boolean) hx hb hr ?_ (fun t ht hW => ⟨⟨v, h, rfl, hp, gK.warm hW (by rw [ht]; exact hS.1) (by rw [ht]; exact hS.2.1) hgk, by rw [ht]; exact hG⟩, hS.F ht⟩) hS.2.2 hdg hlk
  have e1 : narrow .boolean (.int v) = .int (vp_nar .boolean v) := rfl
  rw [e1, hv]
theorem re_l (C0 : Cx g p s m args c cc nL own) (hG : GH g h H) (hS : va_S (gA g) s.heap H locs) (hr : meth.sig.returnType = some .long) (hlk : meth.locks = false) (hm : cells ≤ mc ∧ slots ≤ ms) {post : Int64 → Hp → Prop} {v : Int64} (hp : post v h) (hdg : decode cc pc = .ok (.lreturn, 1)) :
    W p l e R s m args below meth c H locs cells slots (MQ below (va_Ql post (gS g) (gA g)) args s mc ms (gA g)) (F0 m pc ls [.long v]) := by
  obtain ⟨hx, hb, hml, hown, hts, hgk⟩ := C0
  refine W.widen hm.1 hm.2 ?_
  exact W.lret hx hb hr (fun t ht hW => ⟨⟨v, h, rfl, hp, gK.warm hW (by rw [ht]; exact hS.1) (by rw [ht]; exact hS.2.1) hgk, by rw [ht]; exact hG⟩, hS.F ht⟩) hS.2.2 hdg hlk
theorem re_v (C0 : Cx g p s m args c cc nL own) (hG : GH g h H) (hS : va_S (gA g) s.heap H locs) (hr : meth.sig.returnType = none) (hlk : meth.locks = false) (hm : cells ≤ mc ∧ slots ≤ ms) {post : Hp → Prop} (hp : post h) (hdg : decode cc pc = .ok (.return_, 1)) :
    W p l e R s m args below meth c H locs cells slots (MQ below (va_Qv post (gS g) (gA g)) args s mc ms (gA g)) (F0 m pc ls []) := by
  obtain ⟨hx, hb, hml, hown, hts, hgk⟩ := C0
  refine W.widen hm.1 hm.2 ?_
  exact W.vret hx hb hr (fun t ht hW => ⟨⟨h, rfl, hp, gK.warm hW (by rw [ht]; exact hS.1) (by rw [ht]; exact hS.2.1) hgk, by rw [ht]; exact hG⟩, hS.F ht⟩) hS.2.2 hdg hlk
theorem re_q (C0 : Cx g p s m args c cc nL own) (hG : GH g h H) (hS : va_S (gA g) s.heap H locs) {rt : FieldType} (hr : meth.sig.returnType = some rt) (hrt : (∃ n, rt = .object n) ∨ ∃ t, rt = .array t) (hlk : meth.locks = false) (hm : cells ≤ mc ∧ slots ≤ ms) {post : Option Nat → Hp → Prop} {v : Option Nat} (hp : post v h) (hdg : decode cc pc = .ok (.areturn, 1)) :
    W p l e R s m args below meth c H locs cells slots (MQ below (va_Qq post (gS g) (gA g)) args s mc ms (gA g)) (F0 m pc ls [va_rf v]) := by
  obtain ⟨hx, hb, hml, hown, hts, hgk⟩ := C0
  refine W.widen hm.1 hm.2 ?_
  exact W.aret hx hb hr hrt (va_rf_or v) (fun t ht hW => ⟨⟨v, h, rfl, hp, gK.warm hW (by rw [ht]; exact hS.1) (by rw [ht]; exact hS.2.1) hgk, by rw [ht]; exact hG⟩, hS.F ht⟩) hS.2.2 hdg hlk
variable {y : MethodName} {bytes : ByteArray} {maxL fr lc n index : Nat} {ret : Option FieldType} {Qc : Array Value → State → Outcome → State → Prop} {b : Nat} {As st0 : List Value} {host : String} {free : Addr → Prop}
/-- where a method's link stands -/
def mLink (own : String) (index : Nat) (y : MethodName) (host : String) : Bool → Prop
  | false => Cond.methodLink own index y ∈ wx_T
  | true => Cond.methodLinkNest own index y host ∈ wx_N
def mDesc (y : MethodName) (n : Nat) : Prop := y.cls ≠ "java/lang/invoke/MethodHandle" ∧ y.cls ≠ "java/lang/invoke/VarHandle" ∧ (parseMethodDescriptor y.desc).map (fun d => d.parameters.length) = some n
theorem rn_V (C0 : Cx g p s m args c cc nL own) (hG : GH g h H) (hS : va_S (gA g) s.heap H locs) (hM : Met l y (ww y bytes maxL ret) (rmm fr lc mc ms) (va_Pc (.ref b :: As) (gS g h)) Qc mc ms free) {ci : Nat} {q : vw_C} (hkd : hK h b = ci + 1) (hci : ci < 20) (hc : vwCl[ci]? = some q) (hq : q.1 = y.cls) {nest : Bool}
    (hcode : Cond.code y bytes maxL ret ∈ wx_T) (hl : mLink own index y host nest) (hi : Cond.instanceMethod y ∈ wx_T) (hsel : Cond.selects y.cls y y ∈ wx_T) (hini : Cond.initialized y.cls ∈ wx_T) (hd : mDesc y n) (hR : fr + 1 ≤ R.frames ∧ 8 + (maxL + 11) + lc ≤ R.locals)
    (hn : As.length = n) (hsize : ls.size = nL) (hstack : st0 = As.reverse ++ .ref b :: rest) (hW : (rest.map fun v => v.category).sum ≤ 8) (hdg : decode cc pc = .ok (.invokevirtual index, 3)) (hf : cells + mc ≤ R.cells ∧ slots + ms ≤ R.slots) :
    va_Run p l e R s m args below meth c H locs cells slots mc ms (F0 m pc ls st0) rest (Qc (Value.ref b :: As).toArray) free := by
  have hrv := px_recv C0 hG hkd hci hc
  obtain ⟨hx, hb, hml, hown, hts, hgk⟩ := C0
  have hpre : PreV s H y.cls b (va_Pc (.ref b :: As) (gS g h)) As := ⟨gS.blind, by rw [← hq]; exact hrv, fun U hU hWU => ⟨rfl, gK.warm hWU (by rw [hU]; exact hS.1) (by rw [hU]; exact hS.2.1) hgk, by rw [hU]; exact hG⟩⟩
  have hW' : 2 * (F0 m pc ls st0).monitorRoom + (rest.map fun v => v.category).sum ≤ 8 := by
    have e0 : (F0 m pc ls st0).monitorRoom = 0 := rfl
    rw [e0]; omega
  cases nest with
  | false => exact va_runV (ws := ww y bytes maxL ret) (rm := rmm fr lc mc ms) ⟨hx, hb, hml, hown, hts⟩ hM ⟨callB_of n hts (wx_good hcode) rfl rfl rfl (hts _ hini) (hts _ hl) hd hR, hts _ hi, hts _ hsel⟩ hpre rfl hn hsize hstack hW' hdg hf
  | true => exact va_runVN (ws := ww y bytes maxL ret) (rm := rmm fr lc mc ms) ⟨hx, hb, hml, hown, hts⟩ hM ⟨va_cnB n hts (wx_good hcode) rfl rfl rfl (hgk.2.1 _ hl) (hts _ hini) hd hR, hts _ hi, hts _ hsel⟩ hpre rfl hn hsize hstack hW' hdg hf
theorem rn_S (C0 : Cx g p s m args c cc nL own) (hG : GH g h H) (hS : va_S (gA g) s.heap H locs) (hM : Met l y (ww y bytes maxL ret) (rmm fr lc mc ms) (va_Pc As (gS g h)) Qc mc ms free) {nest : Bool}
    (hcode : Cond.code y bytes maxL ret ∈ wx_T) (hl : mLink own index y host nest) (hi : Cond.static y ∈ wx_T) (hini : Cond.initialized y.cls ∈ wx_T) (hd : mDesc y n) (hR : fr + 1 ≤ R.frames ∧ 8 + (maxL + 11) + lc ≤ R.locals)
    (hn : As.length = n) (hsize : ls.size = nL) (hstack : st0 = As.reverse ++ rest) (hW : (rest.map fun v => v.category).sum ≤ 8) (hdg : decode cc pc = .ok (.invokestatic index, 3)) (hf : cells + mc ≤ R.cells ∧ slots + ms ≤ R.slots) :
    va_Run p l e R s m args below meth c H locs cells slots mc ms (F0 m pc ls st0) rest (Qc As.toArray) free := by
  obtain ⟨hx, hb, hml, hown, hts, hgk⟩ := C0
  have hpre : PreS s H (va_Pc As (gS g h)) As := ⟨gS.blind, fun U hU hWU => ⟨rfl, gK.warm hWU (by rw [hU]; exact hS.1) (by rw [hU]; exact hS.2.1) hgk, by rw [hU]; exact hG⟩⟩
  have hW' : 2 * (F0 m pc ls st0).monitorRoom + (rest.map fun v => v.category).sum ≤ 8 := by
    have e0 : (F0 m pc ls st0).monitorRoom = 0 := rfl
    rw [e0]; omega
  cases nest with
  | false => exact va_runS (ws := ww y bytes maxL ret) (rm := rmm fr lc mc ms) ⟨hx, hb, hml, hown, hts⟩ hM ⟨callB_of n hts (wx_good hcode) rfl rfl rfl (hts _ hini) (hts _ hl) hd hR, hts _ hi⟩ hpre rfl hn hsize hstack hW' hdg hf
  | true => exact va_runSN (ws := ww y bytes maxL ret) (rm := rmm fr lc mc ms) ⟨hx, hb, hml, hown, hts⟩ hM ⟨va_cnB n hts (wx_good hcode) rfl rfl rfl (hgk.2.1 _ hl) (hts _ hini) hd hR, hts _ hi, trivial⟩ hpre rfl hn hsize hstack hW' hdg hf
theorem rn_I (C0 : Cx g p s m args c cc nL own) (hG : GH g h H) (hS : va_S (gA g) s.heap H locs) (hM : Met l y (ww y bytes maxL none) (rmm fr lc mc ms) (va_Pc (.ref b :: As) (gS g h)) Qc mc ms free) {nest : Bool}
    (hcode : Cond.code y bytes maxL none ∈ wx_T) (hl : mLink own index y host nest) (hi : Cond.instanceMethod y ∈ wx_T) (hini : Cond.initialized y.cls ∈ wx_T) (hy1 : y.name = "<init>") (hd : mDesc y n) (hR : fr + 1 ≤ R.frames ∧ 8 + (maxL + 11) + lc ≤ R.locals)
    (hn : As.length = n) (hsize : ls.size = nL) (hstack : st0 = As.reverse ++ .ref b :: rest) (hW : (rest.map fun v => v.category).sum ≤ 8) (hdg : decode cc pc = .ok (.invokespecial index, 3)) (hf : cells + mc ≤ R.cells ∧ slots + ms ≤ R.slots) :
    va_Run p l e R s m args below meth c H locs cells slots mc ms (F0 m pc ls st0) rest (Qc (Value.ref b :: As).toArray) free := by
  obtain ⟨hx, hb, hml, hown, hts, hgk⟩ := C0
  have hpre : PreS s H (va_Pc (.ref b :: As) (gS g h)) (.ref b :: As) := ⟨gS.blind, fun U hU hWU => ⟨rfl, gK.warm hWU (by rw [hU]; exact hS.1) (by rw [hU]; exact hS.2.1) hgk, by rw [hU]; exact hG⟩⟩
  have hW' : 2 * (F0 m pc ls st0).monitorRoom + (rest.map fun v => v.category).sum ≤ 8 := by
    have e0 : (F0 m pc ls st0).monitorRoom = 0 := rfl
    rw [e0]; omega
  cases nest with
  | false => exact va_runI (ws := ww y bytes maxL none) (rm := rmm fr lc mc ms) ⟨hx, hb, hml, hown, hts⟩ hM ⟨callB_of n hts (wx_good hcode) rfl rfl rfl (hts _ hini) (hts _ hl) hd hR, hy1, hts _ hi⟩ hpre rfl hn hsize hstack hW' hdg hf
  | true => exact va_runIN (ws := ww y bytes maxL none) (rm := rmm fr lc mc ms) ⟨hx, hb, hml, hown, hts⟩ hM ⟨va_cnB n hts (wx_good hcode) rfl rfl rfl (hgk.2.1 _ hl) (hts _ hini) hd hR, hy1, hts _ hi⟩ hpre rfl hn hsize hstack hW' hdg hf
theorem ca_i (hS : va_S (gA g) s.heap H locs) {post : Int32 → Hp → Prop} {av : Array Value} (hr : va_Run p l e R s m args below meth c H locs cells slots mc ms (F0 m pc ls st0) rest (va_Qi post (gS g) (gA g) av) (gA g))
    (kk : ∀ (r : Int32) (h' : Hp) (H1 : Heap) (locs1 : List Loc), post r h' → GH g h' H1 → va_S (gA g) s.heap H1 locs1 → W p l e R s m args below meth c H1 locs1 (cells + mc) (slots + ms) Q (F0 m (pc + 3) ls (.int r :: rest))) : W p l e R s m args below meth c H locs cells slots Q (F0 m pc ls st0) :=
  va_calli hr hS (fun _ _ z => z) (fun _ z => z) (fun r u t H1 locs1 ht _ hp hB _ _ hS1 => kk r u H1 locs1 hp (by rw [← ht]; exact hB.2) hS1)
theorem ca_l (hS : va_S (gA g) s.heap H locs) {post : Int64 → Hp → Prop} {av : Array Value} (hr : va_Run p l e R s m args below meth c H locs cells slots mc ms (F0 m pc ls st0) rest (va_Ql post (gS g) (gA g) av) (gA g))
    (kk : ∀ (r : Int64) (h' : Hp) (H1 : Heap) (locs1 : List Loc), post r h' → GH g h' H1 → va_S (gA g) s.heap H1 locs1 → W p l e R s m args below meth c H1 locs1 (cells + mc) (slots + ms) Q (F0 m (pc + 3) ls (.long r :: rest))) : W p l e R s m args below meth c H locs cells slots Q (F0 m pc ls st0) :=
  va_calll hr hS (fun _ _ z => z) (fun _ z => z) (fun r u t H1 locs1 ht _ hp hB _ _ hS1 => kk r u H1 locs1 hp (by rw [← ht]; exact hB.2) hS1)
theorem ca_q (hS : va_S (gA g) s.heap H locs) {post : Option Nat → Hp → Prop} {av : Array Value} (hr : va_Run p l e R s m args below meth c H locs cells slots mc ms (F0 m pc ls st0) rest (va_Qq post (gS g) (gA g) av) (gA g))
    (kk : ∀ (r : Option Nat) (h' : Hp) (H1 : Heap) (locs1 : List Loc), post r h' → GH g h' H1 → va_S (gA g) s.heap H1 locs1 → W p l e R s m args below meth c H1 locs1 (cells + mc) (slots + ms) Q (F0 m (pc + 3) ls (va_rf r :: rest))) : W p l e R s m args below meth c H locs cells slots Q (F0 m pc ls st0) :=
  va_callq hr hS (fun _ _ z => z) (fun _ z => z) (fun r u t H1 locs1 ht _ hp hB _ _ hS1 => kk r u H1 locs1 hp (by rw [← ht]; exact hB.2) hS1)
theorem ca_v (hS : va_S (gA g) s.heap H locs) {post : Hp → Prop} {av : Array Value} (hr : va_Run p l e R s m args below meth c H locs cells slots mc ms (F0 m pc ls st0) rest (va_Qv post (gS g) (gA g) av) (gA g))
    (kk : ∀ (h' : Hp) (H1 : Heap) (locs1 : List Loc), post h' → GH g h' H1 → va_S (gA g) s.heap H1 locs1 → W p l e R s m args below meth c H1 locs1 (cells + mc) (slots + ms) Q (F0 m (pc + 3) ls rest)) : W p l e R s m args below meth c H locs cells slots Q (F0 m pc ls st0) :=
  va_callv hr hS (fun _ _ z => z) (fun _ z => z) (fun u t H1 locs1 ht _ hp hB _ _ hS1 => kk u H1 locs1 hp (by rw [← ht]; exact hB.2) hS1)
/-! calls and ends of methods that write nothing: the heap is the same -/
theorem cs_i {post : Int32 → Prop} {av : Array Value} (hr : va_Run p l e R s m args below meth c H locs cells slots 0 0 (F0 m pc ls st0) rest (vp_Si post av) (fun _ => False))
    (kk : ∀ r : Int32, post r → W p l e R s m args below meth c H locs cells slots Q (F0 m (pc + 3) ls (.int r :: rest))) : W p l e R s m args below meth c H locs cells slots Q (F0 m pc ls st0) := by
  intro T hT X
  obtain ⟨v, st₀, t, T', L, h0, X', hL, e1, e2, ⟨r, hv, hp, hh⟩, st⟩ := hr T hT X
  cases hv
  have hLn : L = [] := List.eq_nil_iff_forall_not_mem.mpr (fun q hq => hL q hq)
  subst hLn
  rw [List.append_nil] at X'
  obtain ⟨t2, a1, b1⟩ := kk r hp T' (by rw [e1, hh, h0]) X'
  exact ⟨t2, st t2 a1, b1⟩
theorem cs_l {post : Int64 → Prop} {av : Array Value} (hr : va_Run p l e R s m args below meth c H locs cells slots 0 0 (F0 m pc ls st0) rest (vp_Sl post av) (fun _ => False))
    (kk : ∀ r : Int64, post r → W p l e R s m args below meth c H locs cells slots Q (F0 m (pc + 3) ls (.long r :: rest))) : W p l e R s m args below meth c H locs cells slots Q (F0 m pc ls st0) := by
  intro T hT X
  obtain ⟨v, st₀, t, T', L, h0, X', hL, e1, e2, ⟨r, hv, hp, hh⟩, st⟩ := hr T hT X
  cases hv
  have hLn : L = [] := List.eq_nil_iff_forall_not_mem.mpr (fun q hq => hL q hq)
  subst hLn
  rw [List.append_nil] at X'
  obtain ⟨t2, a1, b1⟩ := kk r hp T' (by rw [e1, hh, h0]) X'
  exact ⟨t2, st t2 a1, b1⟩
theorem cs_q {post : Option Nat → Prop} {av : Array Value} (hr : va_Run p l e R s m args below meth c H locs cells slots 0 0 (F0 m pc ls st0) rest (va_Sq post av) (fun _ => False))
    (kk : ∀ r : Option Nat, post r → W p l e R s m args below meth c H locs cells slots Q (F0 m (pc + 3) ls (va_rf r :: rest))) : W p l e R s m args below meth c H locs cells slots Q (F0 m pc ls st0) := by
  intro T hT X
  obtain ⟨v, st₀, t, T', L, h0, X', hL, e1, e2, ⟨r, hv, hp, hh⟩, st⟩ := hr T hT X
  cases hv
  have hLn : L = [] := List.eq_nil_iff_forall_not_mem.mpr (fun q hq => hL q hq)
  subst hLn
  rw [List.append_nil] at X'
  obtain ⟨t2, a1, b1⟩ := kk r hp T' (by rw [e1, hh, h0]) X'
  exact ⟨t2, st t2 a1, b1⟩
/-- nothing is answered, nothing is written -/
def vs_V (post : Prop) : Array Value → State → Outcome → State → Prop := fun _ st o t => o = .returned none ∧ post ∧ t.heap = st.heap
theorem cs_v {post : Prop} {av : Array Value} (hr : va_Run p l e R s m args below meth c H locs cells slots 0 0 (F0 m pc ls st0) rest (vs_V post av) (fun _ => False))
    (kk : post → W p l e R s m args below meth c H locs cells slots Q (F0 m (pc + 3) ls rest)) : W p l e R s m args below meth c H locs cells slots Q (F0 m pc ls st0) := by
  intro T hT X
  obtain ⟨v, st₀, t, T', L, h0, X', hL, e1, e2, ⟨hv, hp, hh⟩, st⟩ := hr T hT X
  cases hv
  have hLn : L = [] := List.eq_nil_iff_forall_not_mem.mpr (fun q hq => hL q hq)
  subst hLn
  rw [List.append_nil] at X'
  obtain ⟨t2, a1, b1⟩ := kk hp T' (by rw [e1, hh, h0]) X'
  exact ⟨t2, st t2 a1, b1⟩
theorem rs_i (C0 : Cx g p s m args c cc nL own) (hr : meth.sig.returnType = some .int) (hlk : meth.locks = false) {post : Int32 → Prop} {v : Int32} (hp : post v) (hdg : decode cc pc = .ok (.ireturn, 1)) :
    W p l e R s m args below meth c s.heap [] 0 0 (MQ below (vp_Si post) args s 0 0 (fun _ => False)) (F0 m pc ls [.int v]) :=
  W.iret C0.1 C0.2.1 hr (fun t ht _ => ⟨v, rfl, hp, ht⟩) (fun q hq => by cases hq) hdg hlk
theorem rs_z (C0 : Cx g p s m args c cc nL own) (hr : meth.sig.returnType = some .boolean) (hlk : meth.locks = false) {post : Int32 → Prop} {v : Int32} (hv : vp_nar .boolean v = v) (hp : post v) (hdg : decode cc pc = .ok (.ireturn, 1)) :
    W p l e R s m args below meth c s.heap [] 0 0 (MQ below (vp_Si post) args s 0 0 (fun _ => False)) (F0 m pc ls [.int v]) := by
  refine W.zret (ty := .boolean) C0.1 C0.2.1 hr ?_ (fun t ht _ => ⟨v, rfl, hp, ht⟩) (fun q hq => by cases hq) hdg hlk
  have e1 : narrow .boolean (.int v) = .int (vp_nar .boolean v) := rfl
  rw [e1, hv]
theorem rs_l (C0 : Cx g p s m args c cc nL own) (hr : meth.sig.returnType = some .long) (hlk : meth.locks = false) {post : Int64 → Prop} {v : Int64} (hp : post v) (hdg : decode cc pc = .ok (.lreturn, 1)) :
    W p l e R s m args below meth c s.heap [] 0 0 (MQ below (vp_Sl post) args s 0 0 (fun _ => False)) (F0 m pc ls [.long v]) :=
  W.lret C0.1 C0.2.1 hr (fun t ht _ => ⟨v, rfl, hp, ht⟩) (fun q hq => by cases hq) hdg hlk
theorem rs_v (C0 : Cx g p s m args c cc nL own) (hr : meth.sig.returnType = none) (hlk : meth.locks = false) {post : Prop} (hp : post) (hdg : decode cc pc = .ok (.return_, 1)) :
    W p l e R s m args below meth c s.heap [] 0 0 (MQ below (vs_V post) args s 0 0 (fun _ => False)) (F0 m pc ls []) :=
  W.vret C0.1 C0.2.1 hr (fun t ht _ => ⟨rfl, hp, ht⟩) (fun q hq => by cases hq) hdg hlk
theorem rs_q (C0 : Cx g p s m args c cc nL own) {rt : FieldType} (hr : meth.sig.returnType = some rt) (hrt : (∃ n, rt = .object n) ∨ ∃ t, rt = .array t) (hlk : meth.locks = false) {post : Option Nat → Prop} {v : Option Nat} (hp : post v) (hdg : decode cc pc = .ok (.areturn, 1)) :
    W p l e R s m args below meth c s.heap [] 0 0 (MQ below (va_Sq post) args s 0 0 (fun _ => False)) (F0 m pc ls [va_rf v]) :=
  W.aret C0.1 C0.2.1 hr hrt (va_rf_or v) (fun t ht _ => ⟨v, rfl, hp, ht⟩) (fun q hq => by cases hq) hdg hlk
end PE
