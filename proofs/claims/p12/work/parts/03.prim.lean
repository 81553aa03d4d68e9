/-! What holds of the machine's tables at every state of a run, the fixed part of a walk, and a row an instruction over the abstract heap -/
/-- what stands in the old heap: ArrayList's empty array (number 1 of g), the class object of Object[] (number 2) -/
def gO (g : Gm) (U : State) : Prop := va_Z "java/util/ArrayList" "DEFAULTCAPACITY_EMPTY_ELEMENTDATA" "[Ljava/lang/Object;" (.ref (g.2.2 1)) (gA g) U U.heap ∧ va_T (.object "java/lang/Object") (g.2.2 1) 0 (fun _ => .null) (gA g) U U.heap ∧ va_Mi "[Ljava/lang/Object;" (g.2.2 2) U ∧ va_Dc U
/-- a static field is laid, in a cell of the old heap -/
def zs_L (C n d : String) (A : Nat → Prop) (U : State) : Prop := ∃ (c : ClassId) (k : Class) (i : Nat) (f : Field) (a : Nat) (cell : Cell), U.vm.findClass C = some c ∧ U.fieldFound? C n d = some (c, k, i, f) ∧ f.isStatic = true ∧ k.statics = some a ∧ U.heap[a]? = some cell ∧ cell.vm.isStatics = true ∧ cell.cls = c ∧ f.slot < cell.slots.size ∧ k.staticTypes[f.slot]? = some f.type ∧ ¬ A a
theorem zs_L.of {args : Array Value} {s : State} {C n d : String} {A : Nat → Prop} (h : (Cond.laysStatic C n d).before args s = true) (hA : ∀ a : Nat, a < s.heap.size → ¬ A a) : zs_L C n d A s := by
  obtain ⟨c, k, i, f, a, cell, h1, h2, h3, h4, h5, h6, h7, h8, h9⟩ := Cond.laysStatic_spec h
  exact ⟨c, k, i, f, a, cell, h1, h2, h3, h4, h5, h6, h7, h8, h9, hA a (Array.getElem?_eq_some_iff.mp h5).1⟩
theorem zs_L.moved {C n d : String} {A : Nat → Prop} {u U : State} (hvm : u.vm.Alike U.vm) (hk : ∀ a : Nat, a < u.heap.size → ¬ A a → U.heap[a]? = u.heap[a]?) (h : zs_L C n d A u) : zs_L C n d A U := by
  obtain ⟨c, k, i, f, a, cell, h1, h2, h3, h4, h5, h6, h7, h8, h9, h10⟩ := h
  obtain ⟨k', hi', he⟩ := State.fieldFound?_setVm hvm h2
  exact ⟨c, k', i, f, a, cell, by rw [hvm.findClass]; exact h1, hi', h3, by rw [he]; exact h4, by rw [hk a (Array.getElem?_eq_some_iff.mp h5).1 h10]; exact h5, h6, h7, h8, by rw [he]; exact h9, h10⟩
theorem zs_L.use {C n d : String} {A : Nat → Prop} {args : Array Value} {s : State} (h : zs_L C n d A s) : (Cond.laysStatic C n d).before args s = true := by
  obtain ⟨c, k, i, f, a, cell, h1, h2, h3, h4, h5, h6, h7, h8, h9, h10⟩ := h
  simp [Cond.before, Cond.holds, Cond.value, h1, h2, h3, h4, h5, h6, h7, h8, h9]
/-- what a throw asks of the old heap and of the tables: Throwable's statics, the texts -/
def gX (g : Gm) (U : State) : Prop := va_Zq "java/lang/Throwable" "UNASSIGNED_STACK" "[Ljava/lang/StackTraceElement;" (gA g) U U.heap ∧ va_Zq "java/lang/Throwable" "SUPPRESSED_SENTINEL" "Ljava/util/List;" (gA g) U U.heap ∧ (∀ q ∈ wx_S, ∃ a : Nat, vk_R q.1 q.2.1 q.2.2 a U) ∧ zs_L "java/lang/Throwable" "UNASSIGNED_STACK" "[Ljava/lang/StackTraceElement;" (gA g) U ∧ zs_L "java/lang/Throwable" "SUPPRESSED_SENTINEL" "Ljava/util/List;" (gA g) U ∧ va_Nc "java/lang/IllegalStateException" "java/lang/IllegalArgumentException" U
def gK (g : Gm) (U : State) : Prop := va_K g.1 vwCl (gTy g) U ∧ (∀ w ∈ wx_N, va_Nw w U) ∧ g.2.2 0 ≤ U.heap.size ∧ va_AO "java/lang/Object" U ∧ gO g U ∧ gX g U
def gS (g : Gm) (h : Hp) (U : State) : Prop := gK g U ∧ GH g h U.heap
theorem wx_N_warm {s U : State} (hW : s.WarmedH U.vm) (h : ∀ w ∈ wx_N, va_Nw w s) : ∀ w ∈ wx_N, va_Nw w U := by
  intro w hw
  have h1 := h w hw
  have h2 : wx_isN w = true := (List.mem_filter.mp hw).2
  cases w <;> first | exact va_Nw.warmF hW h1 | exact va_Nw.warmM hW h1 | exact va_Nw.warmC hW h1 | exact va_Nw.warmD hW h1 | (simp [wx_isN] at h2)
theorem gO.warm {g : Gm} {s U : State} (hW : s.vm.Alike U.vm) (hk : ∀ a : Nat, a < s.heap.size → ¬ gA g a → U.heap[a]? = s.heap[a]?) (h : gO g s) : gO g U := ⟨(h.1.moved hW).kept hk, (h.2.1.moved hW).kept hk, h.2.2.1.moved hW, h.2.2.2.moved hW⟩
theorem gX.warm {g : Gm} {s U : State} (hW : s.WarmedH U.vm) (hk : ∀ a : Nat, a < s.heap.size → ¬ gA g a → U.heap[a]? = s.heap[a]?) (h : gX g s) : gX g U := ⟨(h.1.moved hW.alike).kept hk, (h.2.1.moved hW.alike).kept hk, fun q hq => by obtain ⟨a, ha⟩ := h.2.2.1 q hq; exact ⟨a, ha.warm hW⟩, h.2.2.2.1.moved hW.alike hk, h.2.2.2.2.1.moved hW.alike hk, h.2.2.2.2.2.moved hW.alike⟩
theorem gX.same {g : Gm} {s U : State} (hv : U.vm = s.vm) (hh : U.heap = s.heap) (h : gX g s) : gX g U := by
  have hal : s.vm.Alike U.vm := by rw [hv]; exact Vm.Alike.refl s.vm
  exact ⟨(h.1.moved hal).kept (fun a _ _ => by rw [hh]), (h.2.1.moved hal).kept (fun a _ _ => by rw [hh]), fun q hq => by obtain ⟨a, ha⟩ := h.2.2.1 q hq; exact ⟨a, ha.same hv⟩, h.2.2.2.1.moved hal (fun a _ _ => by rw [hh]), h.2.2.2.2.1.moved hal (fun a _ _ => by rw [hh]), h.2.2.2.2.2.moved hal⟩
theorem gK.warm {g : Gm} {s U : State} (hW : s.WarmedH U.vm) (hz : s.heap.size ≤ U.heap.size) (hk : ∀ a : Nat, a < s.heap.size → ¬ gA g a → U.heap[a]? = s.heap[a]?) (h : gK g s) : gK g U := ⟨va_K.moved hW.alike h.1, wx_N_warm hW h.2.1, Nat.le_trans h.2.2.1 hz, va_AO.moved hW.alike h.2.2.2.1, gO.warm hW.alike hk h.2.2.2.2.1, gX.warm hW hk h.2.2.2.2.2⟩
theorem wx_N_same {u U : State} (e : u.vm = U.vm) (h : ∀ w ∈ wx_N, va_Nw w u) : ∀ w ∈ wx_N, va_Nw w U := by
  intro w hw
  have h2 : wx_isN w = true := (List.mem_filter.mp hw).2
  exact va_Nw.same (by cases w <;> first | rfl | (simp [wx_isN] at h2)) e (h w hw)
theorem gS.blind {g : Gm} {h : Hp} {av : List Value} : FrameBlind (va_Pc av (gS g h)) := fun a U q mk z => by
  obtain ⟨z1, ⟨z2, z3, z4, z5, z7, z8⟩, z6⟩ := z
  exact ⟨z1, ⟨va_K.moved (u := U) (U := U.calling q mk a) (Vm.Alike.refl U.vm) z2, wx_N_same (u := U) (U := U.calling q mk a) rfl z3, z4, z5, gO.warm (s := U) (U := U.calling q mk a) (Vm.Alike.refl U.vm) (fun _ _ _ => rfl) z7, gX.same (s := U) (U := U.calling q mk a) rfl rfl z8⟩, z6⟩
/-- the fixed part of a walk -/
def Cx (g : Gm) (p : Program) (s : State) (m : MethodId) (args : Array Value) (c : Code) (cc : ByteArray) (nL : Nat) (own : String) : Prop :=
  p.tables.exec = Jvm.exec ∧ c.code = cc ∧ c.maxLocals = nL ∧ s.vm.findClass own = some m.cls ∧ (∀ w ∈ wx_T, w.before args s = true) ∧ gK g s
theorem Cx.hA {g : Gm} {p : Program} {s : State} {m : MethodId} {args : Array Value} {c : Code} {cc : ByteArray} {nL : Nat} {own : String} (h : Cx g p s m args c cc nL own) : ∀ q, s.heap.size ≤ q → gA g q := fun _ z => Nat.le_trans h.2.2.2.2.2.2.2.1 z
section PX
variable {p : Program} {l : Launch} {e : Env} {R : Room} {s : State} {m : MethodId} {args : Array Value} {below : List Frame} {meth : Method} {c : Code} {H : Heap} {locs : List Loc} {cells slots : Nat} {Q : State → Prop}
variable {cc : ByteArray} {pc nL : Nat} {ls : Array Slot} {rest : List Value} {a : Nat} {g : Gm} {h : Hp} {own : String}
/-- where a field's link stands: in the words, or in a nest's -/
def fLink (own : String) (index : Nat) (ref : String) (f : String × String × String × Bool) (host : String) : Bool → Prop
  | false => Cond.fieldLink own index ref f.2.1 f.2.2.1 ∈ wx_T
  | true => Cond.fieldLinkNest own index ref f.2.1 f.2.2.1 host ∈ wx_N
def fSame (ref : String) (f : String × String × String × Bool) : Prop := f.1 = ref ∨ Cond.sameField ref f.1 f.2.1 f.2.2.1 ∈ wx_T
theorem fSame.use {ref : String} {f : String × String × String × Bool} (hs : fSame ref f) (hts : ∀ w ∈ wx_T, w.before args s = true) : ∀ x, s.fieldFound? f.1 f.2.1 f.2.2.1 = some x → s.fieldFound? ref f.2.1 f.2.2.1 = some x := by
  intro x hx
  rcases hs with hs | hs
  · rw [← hs]; exact hx
  · exact u_same (hts _ hs) x hx
theorem px_get (C0 : Cx g p s m args c cc nL own) (hG : GH g h H) {ref C host : String} {T : u_T} {N ci index : Nat} {nest : Bool} (hkd : hK h a = ci + 1) (hci : ci < 20) (hc : vwCl[ci]? = some (C, T, N)) (hin : ∀ w ∈ u_ws C T N, w ∈ wx_T) (k : Nat) (hk : k < N) (hlink : fLink own index ref (T k) host nest) (hsame : fSame ref (T k)) {v : Value} (hv : (fls ci h a)[k]? = some v) (hdg : decode cc pc = .ok (.getfield index, 3))
    (kk : W p l e R s m args below meth c H locs cells slots Q (F0 m (pc + 3) ls (v :: rest))) : W p l e R s m args below meth c H locs cells slots Q (F0 m pc ls (.ref a :: rest)) := by
  obtain ⟨hx, hb, hml, hown, hts, hKK, hNN, hsz, hao, hgo, hgx⟩ := C0
  obtain ⟨L, hL, hP, hD⟩ := hG
  obtain ⟨q0, hq⟩ := GH.find (H := H) hL (by rw [hkd]; omega) (cel_obj (g := g) hkd hci)
  cases nest with
  | false => exact va_get hx hb hts hin hown hKK hP q0 hq hc k hk (hts _ hlink) (hsame.use hts) hv hdg kk
  | true => exact va_getN hx hb hts hin hown hKK hP q0 hq hc k hk (va_Nw.use rfl (hNN _ hlink)) (hsame.use hts) hv hdg kk
theorem px_put (C0 : Cx g p s m args c cc nL own) (hG : GH g h H) (hS : va_S (gA g) s.heap H locs) {ref C host : String} {T : u_T} {N ci index : Nat} {nest : Bool} (hkd : hK h a = ci + 1) (hci : ci < 20) (hc : vwCl[ci]? = some (C, T, N)) (hin : ∀ w ∈ u_ws C T N, w ∈ wx_T) (ty0 : Nat → FieldType) (hty : ∀ k, k < N → parseFieldDescriptor (T k).2.2.1 = some (ty0 k)) (hnm : ∀ a, a < N → ∀ b, b < N → a ≠ b → (T a).2.1 ≠ (T b).2.1) (hN : vwN ci = N) (k : Nat) (hk : k < N) (hlink : fLink own index ref (T k) host nest) (hsame : fSame ref (T k)) (hfin : (T k).2.2.2 = false ∨ ((T k).2.2.2 = true ∧ nest = false ∧ meth.name = "<init>" ∧ (T k).1 = own)) {ty : FieldType} {v : Value} (hd : parseFieldDescriptor (T k).2.2.1 = some ty) (hn : narrow ty v = v) (hfit : fits ty v = true)
    {h' : Hp} (hkk : ∀ b, hK h' b = hK h b) (hset : fls ci h' a = (fls ci h a).set k v) (hoth : ∀ b, b ≠ a → cel g h' b = cel g h b) (hdg : decode cc pc = .ok (.putfield index, 3))
    (kk : ∀ (H1 : Heap) (locs1 : List Loc), GH g h' H1 → va_S (gA g) s.heap H1 locs1 → W p l e R s m args below meth c H1 locs1 cells slots Q (F0 m (pc + 3) ls rest)) : W p l e R s m args below meth c H locs cells slots Q (F0 m pc ls (v :: .ref a :: rest)) := by
  obtain ⟨hx, hb, hml, hown, hts, hKK, hNN, hsz, hao, hgo, hgx⟩ := C0
  obtain ⟨L, hL, hP, hD⟩ := hG
  obtain ⟨q0, hq⟩ := GH.find (H := H) hL (by rw [hkd]; omega) (cel_obj (g := g) hkd hci)
  have he : cel g h' a = .inr (ci, (fls ci h a).set k v) := by rw [cel_obj (by rw [hkk]; exact hkd) hci, hset]
  have fin : ∀ (H1 : Heap) (locs1 : List Loc), va_P g.1 vwCl ((va_pl L (cel g h)).set q0 (a, .inr (ci, (fls ci h a).set k v))) H1 → va_D (gA g) ((va_pl L (cel g h)).set q0 (a, .inr (ci, (fls ci h a).set k v))) → va_S (gA g) s.heap H1 locs1 → W p l e R s m args below meth c H1 locs1 cells slots Q (F0 m (pc + 3) ls rest) := fun H1 locs1 hP1 hD1 hS1 => kk H1 locs1 (GH.put hL hD hq (cel_obj hkd hci) hkk he hoth hP1 hD1) hS1
  rcases hfin with hfin | ⟨hfin, hne, hin2, hdecl⟩
  · cases nest with
    | false => exact va_put hx hb hts hin ty0 hty hnm hown hKK hP hD hS q0 hq hc k hk (hts _ hlink) (hsame.use hts) hfin hd hn hfit (by rw [fls_len, hN]; exact hk) hdg fin
    | true => exact va_putN hx hb hts hin ty0 hty hnm hown hKK hP hD hS q0 hq hc k hk (va_Nw.use rfl (hNN _ hlink)) (hsame.use hts) hfin hd hn hfit (by rw [fls_len, hN]; exact hk) hdg fin
  · subst hne
    exact va_putF hx hb hts hin ty0 hty hnm hown hKK hP hD hS q0 hq hc k hk (hts _ hlink) (hsame.use hts) hfin hin2 hdecl hd hn hfit (by rw [fls_len, hN]; exact hk) hdg fin
theorem px_iald (C0 : Cx g p s m args c cc nL own) (hG : GH g h H) (hkd : hK h a = 21) {i : Int32} (hin : vp_in i (hN h a)) (hdg : decode cc pc = .ok (.iaload, 1))
    (kk : W p l e R s m args below meth c H locs cells slots Q (F0 m (pc + 1) ls (.int (hI h a i.toNatClampNeg) :: rest))) : W p l e R s m args below meth c H locs cells slots Q (F0 m pc ls (.int i :: .ref a :: rest)) := by
  obtain ⟨hx, hb, hml, hown, hts, hKK, hNN, hsz, hao, hgo, hgx⟩ := C0
  obtain ⟨L, hL, hP, hD⟩ := hG
  obtain ⟨q0, hq⟩ := GH.find (H := H) hL (by rw [hkd]; omega) (cel_21 (g := g) hkd)
  exact va_iald hx hb hKK hP q0 0 hq rfl hin hdg kk
theorem px_lald (C0 : Cx g p s m args c cc nL own) (hG : GH g h H) (hkd : hK h a = 22) {i : Int32} (hin : vp_in i (hN h a)) (hdg : decode cc pc = .ok (.laload, 1))
    (kk : W p l e R s m args below meth c H locs cells slots Q (F0 m (pc + 1) ls (.long (hJ h a i.toNatClampNeg) :: rest))) : W p l e R s m args below meth c H locs cells slots Q (F0 m pc ls (.int i :: .ref a :: rest)) := by
  obtain ⟨hx, hb, hml, hown, hts, hKK, hNN, hsz, hao, hgo, hgx⟩ := C0
  obtain ⟨L, hL, hP, hD⟩ := hG
  obtain ⟨q0, hq⟩ := GH.find (H := H) hL (by rw [hkd]; omega) (cel_22 (g := g) hkd)
  exact va_lald hx hb hKK hP q0 1 hq rfl hin hdg kk
theorem px_zald (C0 : Cx g p s m args c cc nL own) (hG : GH g h H) (hkd : hK h a = 23) {i : Int32} (hin : vp_in i (hN h a)) (hdg : decode cc pc = .ok (.baload, 1))
    (kk : W p l e R s m args below meth c H locs cells slots Q (F0 m (pc + 1) ls (.int (hI h a i.toNatClampNeg) :: rest))) : W p l e R s m args below meth c H locs cells slots Q (F0 m pc ls (.int i :: .ref a :: rest)) := by
  obtain ⟨hx, hb, hml, hown, hts, hKK, hNN, hsz, hao, hgo, hgx⟩ := C0
  obtain ⟨L, hL, hP, hD⟩ := hG
  obtain ⟨q0, hq⟩ := GH.find (H := H) hL (by rw [hkd]; omega) (cel_23 (g := g) hkd)
  exact va_zald hx hb hKK hP q0 2 hq rfl hin hdg kk
theorem px_aald (C0 : Cx g p s m args c cc nL own) (hG : GH g h H) (hkd : hK h a = 24) {i : Int32} (hin : vp_in i (hN h a)) (hdg : decode cc pc = .ok (.aaload, 1))
    (kk : W p l e R s m args below meth c H locs cells slots Q (F0 m (pc + 1) ls (va_rf (hR h a i.toNatClampNeg) :: rest))) : W p l e R s m args below meth c H locs cells slots Q (F0 m pc ls (.int i :: .ref a :: rest)) := by
  obtain ⟨hx, hb, hml, hown, hts, hKK, hNN, hsz, hao, hgo, hgx⟩ := C0
  obtain ⟨L, hL, hP, hD⟩ := hG
  obtain ⟨q0, hq⟩ := GH.find (H := H) hL (by rw [hkd]; omega) (cel_24 (g := g) hkd)
  exact va_aldq hx hb hKK hP q0 3 hq rfl hin hdg kk
theorem px_iast (C0 : Cx g p s m args c cc nL own) (hG : GH g h H) (hS : va_S (gA g) s.heap H locs) (hkd : hK h a = 21) {i x : Int32} (hin : vp_in i (hN h a)) (hdg : decode cc pc = .ok (.iastore, 1))
    (kk : ∀ (H1 : Heap) (locs1 : List Loc), GH g (sI h a i.toNatClampNeg x) H1 → va_S (gA g) s.heap H1 locs1 → W p l e R s m args below meth c H1 locs1 cells slots Q (F0 m (pc + 1) ls rest)) : W p l e R s m args below meth c H locs cells slots Q (F0 m pc ls (.int x :: .int i :: .ref a :: rest)) := by
  obtain ⟨hx, hb, hml, hown, hts, hKK, hNN, hsz, hao, hgo, hgx⟩ := C0
  obtain ⟨L, hL, hP, hD⟩ := hG
  obtain ⟨q0, hq⟩ := GH.find (H := H) hL (by rw [hkd]; omega) (cel_21 (g := g) hkd)
  refine va_iast hx hb hKK hP hD hS q0 0 hq rfl hin hdg fun H1 locs1 hP1 hD1 hS1 => kk H1 locs1 (GH.put hL hD hq (cel_21 hkd) (fun _ => rfl) ?_ (fun b e => cel_sI e) hP1 hD1) hS1
  rw [cel_21 (h := sI h a i.toNatClampNeg x) hkd, hI_sI, va_up_self]
  rfl
theorem px_zast (C0 : Cx g p s m args c cc nL own) (hG : GH g h H) (hS : va_S (gA g) s.heap H locs) (hkd : hK h a = 23) {i x : Int32} (hin : vp_in i (hN h a)) (hx01 : vp_nar .boolean x = x) (hdg : decode cc pc = .ok (.bastore, 1))
    (kk : ∀ (H1 : Heap) (locs1 : List Loc), GH g (sI h a i.toNatClampNeg x) H1 → va_S (gA g) s.heap H1 locs1 → W p l e R s m args below meth c H1 locs1 cells slots Q (F0 m (pc + 1) ls rest)) : W p l e R s m args below meth c H locs cells slots Q (F0 m pc ls (.int x :: .int i :: .ref a :: rest)) := by
  obtain ⟨hx, hb, hml, hown, hts, hKK, hNN, hsz, hao, hgo, hgx⟩ := C0
  obtain ⟨L, hL, hP, hD⟩ := hG
  obtain ⟨q0, hq⟩ := GH.find (H := H) hL (by rw [hkd]; omega) (cel_23 (g := g) hkd)
  refine va_zast hx hb hKK hP hD hS q0 2 hq rfl hin hdg fun H1 locs1 hP1 hD1 hS1 => kk H1 locs1 (GH.put hL hD hq (cel_23 hkd) (fun _ => rfl) ?_ (fun b e => cel_sI e) hP1 hD1) hS1
  rw [cel_23 (h := sI h a i.toNatClampNeg x) hkd, hI_sI, va_up_self, hx01]
  rfl
theorem px_last (C0 : Cx g p s m args c cc nL own) (hG : GH g h H) (hS : va_S (gA g) s.heap H locs) (hkd : hK h a = 22) {i : Int32} {x : Int64} (hin : vp_in i (hN h a)) (hdg : decode cc pc = .ok (.lastore, 1))
    (kk : ∀ (H1 : Heap) (locs1 : List Loc), GH g (sJ h a i.toNatClampNeg x) H1 → va_S (gA g) s.heap H1 locs1 → W p l e R s m args below meth c H1 locs1 cells slots Q (F0 m (pc + 1) ls rest)) : W p l e R s m args below meth c H locs cells slots Q (F0 m pc ls (.long x :: .int i :: .ref a :: rest)) := by
  obtain ⟨hx, hb, hml, hown, hts, hKK, hNN, hsz, hao, hgo, hgx⟩ := C0
  obtain ⟨L, hL, hP, hD⟩ := hG
  obtain ⟨q0, hq⟩ := GH.find (H := H) hL (by rw [hkd]; omega) (cel_22 (g := g) hkd)
  refine va_last hx hb hKK hP hD hS q0 1 hq rfl hin hdg fun H1 locs1 hP1 hD1 hS1 => kk H1 locs1 (GH.put hL hD hq (cel_22 hkd) (fun _ => rfl) ?_ (fun b e => cel_sJ e) hP1 hD1) hS1
  rw [cel_22 (h := sJ h a i.toNatClampNeg x) hkd, hJ_sJ, va_up_self]
  rfl
/-- null is stored -/
theorem px_aastN (C0 : Cx g p s m args c cc nL own) (hG : GH g h H) (hS : va_S (gA g) s.heap H locs) (hkd : hK h a = 24) {i : Int32} (hin : vp_in i (hN h a)) (hdg : decode cc pc = .ok (.aastore, 1))
    (kk : ∀ (H1 : Heap) (locs1 : List Loc), GH g (sR h a i.toNatClampNeg none) H1 → va_S (gA g) s.heap H1 locs1 → W p l e R s m args below meth c H1 locs1 cells slots Q (F0 m (pc + 1) ls rest)) : W p l e R s m args below meth c H locs cells slots Q (F0 m pc ls (.null :: .int i :: .ref a :: rest)) := by
  obtain ⟨hx, hb, hml, hown, hts, hKK, hNN, hsz, hao, hgo, hgx⟩ := C0
  obtain ⟨L, hL, hP, hD⟩ := hG
  obtain ⟨q0, hq⟩ := GH.find (H := H) hL (by rw [hkd]; omega) (cel_24 (g := g) hkd)
  refine va_astqN hx hb hKK hP hD hS q0 3 hq rfl hin hdg fun H1 locs1 hP1 hD1 hS1 => kk H1 locs1 (GH.put hL hD hq (cel_24 hkd) (fun _ => rfl) ?_ (fun b e => cel_sR e) hP1 hD1) hS1
  rw [cel_24 (h := sR h a i.toNatClampNeg none) hkd, hR_sR, va_up_self]
  rfl
theorem px_alen (C0 : Cx g p s m args c cc nL own) (hG : GH g h H) (hkd : 21 ≤ hK h a ∧ hK h a ≤ 24) (hdg : decode cc pc = .ok (.arraylength, 1))
    (kk : W p l e R s m args below meth c H locs cells slots Q (F0 m (pc + 1) ls (.int (nI (hN h a)) :: rest))) : W p l e R s m args below meth c H locs cells slots Q (F0 m pc ls (.ref a :: rest)) := by
  obtain ⟨hx, hb, hml, hown, hts, hKK, hNN, hsz, hao, hgo, hgx⟩ := C0
  obtain ⟨L, hL, hP, hD⟩ := hG
  rcases (show hK h a = 21 ∨ hK h a = 22 ∨ hK h a = 23 ∨ hK h a = 24 by omega) with z | z | z | z
  · obtain ⟨q0, hq⟩ := GH.find (H := H) hL (by rw [z]; omega) (cel_21 (g := g) z)
    exact va_alen hx hb hKK hP q0 0 hq rfl rfl hdg kk
  · obtain ⟨q0, hq⟩ := GH.find (H := H) hL (by rw [z]; omega) (cel_22 (g := g) z)
    exact va_alen hx hb hKK hP q0 1 hq rfl rfl hdg kk
  · obtain ⟨q0, hq⟩ := GH.find (H := H) hL (by rw [z]; omega) (cel_23 (g := g) z)
    exact va_alen hx hb hKK hP q0 2 hq rfl rfl hdg kk
  · obtain ⟨q0, hq⟩ := GH.find (H := H) hL (by rw [z]; omega) (cel_24 (g := g) z)
    exact va_alen hx hb hKK hP q0 3 hq rfl rfl hdg kk
/-- the class of a cell that is called -/
theorem px_recv (C0 : Cx g p s m args c cc nL own) (hG : GH g h H) {ci : Nat} {q : vw_C} (hkd : hK h a = ci + 1) (hci : ci < 20) (hc : vwCl[ci]? = some q) : ∃ cell : Cell, H[a]? = some cell ∧ cell.vm.isStatics = false ∧ s.vm.findClass q.1 = some cell.cls := by
  obtain ⟨hx, hb, hml, hown, hts, hKK, hNN, hsz, hao, hgo, hgx⟩ := C0
  obtain ⟨L, hL, hP, hD⟩ := hG
  obtain ⟨q0, hq⟩ := GH.find (H := H) hL (by rw [hkd]; omega) (cel_obj (g := g) hkd hci)
  exact va_recv hKK hP hc hq
/-! references that may be null -/
theorem px_aloadq (hexec : p.tables.exec = Jvm.exec) (hb : c.code = cc) {i : Nat} {r : Option Nat} (hdg : decode cc pc = .ok (.aload i, 2)) (hl : ls[i]? = some (.val (va_rf r)))
    (k : W p l e R s m args below meth c H locs cells slots Q (F0 m (pc + 2) ls (va_rf r :: rest))) : W p l e R s m args below meth c H locs cells slots Q (F0 m pc ls rest) := by
  cases r with
  | none => exact lv_aloadN hexec hb hdg hl k
  | some x => exact lv_aload hexec hb hdg hl k
theorem px_aload_nq (hexec : p.tables.exec = Jvm.exec) (hb : c.code = cc) {j : Fin 4} {i : Nat} {r : Option Nat} (hdg : decode cc pc = .ok (.aload_n j, 1)) (hi : (j : Nat) = i) (hl : ls[i]? = some (.val (va_rf r)))
    (k : W p l e R s m args below meth c H locs cells slots Q (F0 m (pc + 1) ls (va_rf r :: rest))) : W p l e R s m args below meth c H locs cells slots Q (F0 m pc ls rest) := by
  cases r with
  | none => exact lv_aload_nN hexec hb hdg hi hl k
  | some x => exact lv_aload_n hexec hb hdg hi hl k
theorem px_astoreq (hexec : p.tables.exec = Jvm.exec) (hb : c.code = cc) {i nL : Nat} {r : Option Nat} {lv lv' : List (Nat × Value)} (hdg : decode cc pc = .ok (.astore i, 2)) (hh : lv_has ls nL lv) (hn : i < nL) (hl : (i, va_rf r) :: lv.filter (fun q => !(q.1 == i) && !(q.1 + 1 == i && q.2.category == 2)) = lv')
    (k : ∀ ls' : Array Slot, lv_has ls' nL lv' → W p l e R s m args below meth c H locs cells slots Q (F0 m (pc + 2) ls' rest)) : W p l e R s m args below meth c H locs cells slots Q (F0 m pc ls (va_rf r :: rest)) := by
  cases r with
  | none => exact lv_astoreN hexec hb hdg hh hn hl k
  | some x => exact lv_astore hexec hb hdg hh hn hl k
theorem px_astore_nq (hexec : p.tables.exec = Jvm.exec) (hb : c.code = cc) {j : Fin 4} {i nL : Nat} {r : Option Nat} {lv lv' : List (Nat × Value)} (hdg : decode cc pc = .ok (.astore_n j, 1)) (hi : (j : Nat) = i) (hh : lv_has ls nL lv) (hn : i < nL) (hl : (i, va_rf r) :: lv.filter (fun q => !(q.1 == i) && !(q.1 + 1 == i && q.2.category == 2)) = lv')
    (k : ∀ ls' : Array Slot, lv_has ls' nL lv' → W p l e R s m args below meth c H locs cells slots Q (F0 m (pc + 1) ls' rest)) : W p l e R s m args below meth c H locs cells slots Q (F0 m pc ls (va_rf r :: rest)) := by
  cases r with
  | none => exact lv_astore_nN hexec hb hdg hi hh hn hl k
  | some x => exact lv_astore_n hexec hb hdg hi hh hn hl k
theorem px_ifnullq (hexec : p.tables.exec = Jvm.exec) (hb : c.code = cc) {r : Option Nat} {off : Int} {tgt : Nat} (hdg : decode cc pc = .ok (.ifnull off, 3)) (ht : (pc : Int) + off = (tgt : Int)) (kn : r = none → W p l e R s m args below meth c H locs cells slots Q (F0 m tgt ls rest)) (ks : ∀ x, r = some x → W p l e R s m args below meth c H locs cells slots Q (F0 m (pc + 3) ls rest)) : W p l e R s m args below meth c H locs cells slots Q (F0 m pc ls (va_rf r :: rest)) := by
  cases r with
  | none => exact lv_ifnullN hexec hb hdg ht (kn rfl)
  | some x => exact lv_ifnull hexec hb hdg (ks x rfl)
theorem px_ifnonnullq (hexec : p.tables.exec = Jvm.exec) (hb : c.code = cc) {r : Option Nat} {off : Int} {tgt : Nat} (hdg : decode cc pc = .ok (.ifnonnull off, 3)) (ht : (pc : Int) + off = (tgt : Int)) (kn : r = none → W p l e R s m args below meth c H locs cells slots Q (F0 m (pc + 3) ls rest)) (ks : ∀ x, r = some x → W p l e R s m args below meth c H locs cells slots Q (F0 m tgt ls rest)) : W p l e R s m args below meth c H locs cells slots Q (F0 m pc ls (va_rf r :: rest)) := by
  cases r with
  | none => exact lv_ifnonnullN hexec hb hdg (kn rfl)
  | some x => exact lv_ifnonnull hexec hb hdg ht (ks x rfl)
end PX
