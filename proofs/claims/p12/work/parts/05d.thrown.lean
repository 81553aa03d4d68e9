/-! new X("..") is thrown, out of a method that has written nothing -/
def QT (below : List Frame) (s : State) (Xc : String) : State → Prop := fun t => ∃ o, t.status = .running ∧ Ended t below o ∧ ∃ x : Addr, o = .threw x ∧ (∃ ce : Cell, t.heap[x]? = some ce ∧ ce.vm.isStatics = false ∧ s.vm.findClass Xc = some ce.cls) ∧ s.WarmedH t.vm ∧ s.sameButNew ({ t with vm := s.vm } : State) [] 1 6
def at_1 : Cond := .isRef (.static "java/lang/Throwable" "UNASSIGNED_STACK" "[Ljava/lang/StackTraceElement;")
def at_2 : Cond := .isRef (.static "java/lang/Throwable" "SUPPRESSED_SENTINEL" "Ljava/util/List;")
theorem zq_isRef {C n d : String} {A : Nat → Prop} {args : Array Value} {s : State} (h : va_Zq C n d A s s.heap) : (Cond.isRef (.static C n d)).before args s = true := by
  rcases h with h | ⟨t, h⟩
  · obtain ⟨cf, kf, fi, f, a, cell, h1, h2, h3, h4, h5, h6, h7, h8⟩ := h
    simp [Cond.before, Cond.holds, Cond.value, Term.eval, State.fieldNamed?, h1, h2, h4, h5, h6, h7, Value.isRef]
  · obtain ⟨cf, kf, fi, f, a, cell, h1, h2, h3, h4, h5, h6, h7, h8⟩ := h
    simp [Cond.before, Cond.holds, Cond.value, Term.eval, State.fieldNamed?, h1, h2, h4, h5, h6, h7, Value.isRef]
def at_3 : Cond := .laysStatic "java/lang/Throwable" "UNASSIGNED_STACK" "[Ljava/lang/StackTraceElement;"
def at_4 : Cond := .laysStatic "java/lang/Throwable" "SUPPRESSED_SENTINEL" "Ljava/util/List;"
def at_ok (w : Cond) : Prop := w ∈ wx_T ∨ w ∈ wx_N ∨ w = at_1 ∨ w = at_2 ∨ w = at_3 ∨ w = at_4
section PT
variable {p : Program} {l : Launch} {e : Env} {R : Room} {s : State} {m : MethodId} {args : Array Value} {below : List Frame} {meth : Method} {c : Code}
variable {cc : ByteArray} {pc nL : Nat} {ls : Array Slot} {g : Gm} {own : String}
theorem at_use {w : Cond} (C0 : Cx g p s m args c cc nL own) (h : at_ok w) : w.before args s = true := by
  obtain ⟨hx, hb, hml, hown, hts, hKK, hNN, hsz, hao, hgo, hgx⟩ := C0
  rcases h with h | h | h | h | h | h
  · exact hts w h
  · have h2 : wx_isN w = true := (List.mem_filter.mp h).2
    exact va_Nw.use (by cases w <;> first | rfl | (simp [wx_isN] at h2)) (hNN w h)
  · rw [h]; exact zq_isRef hgx.1
  · rw [h]; exact zq_isRef hgx.2.1
  · rw [h]; exact hgx.2.2.2.1.use
  · rw [h]; exact hgx.2.2.2.2.1.use
set_option maxHeartbeats 4000000 in
theorem px_throw (C0 : Cx g p s m args c cc nL own) (hfl : l.flags = pinnedFlags ++ [noTraceFlag]) (hlk : meth.locks = false) (htab : c.exceptionTable.isEmpty = true) (hsize : ls.size = nL) {Xc tx : String} {names : List String} {ia ib ic : Nat} (hcl : Cond.classLink own ia Xc ∈ wx_T) (hinst : Cond.instantiable Xc 6 ∈ wx_T) (hini : Cond.initialized Xc ∈ wx_T) (hstr : (own, ib, tx) ∈ wx_S)
    (hat : ∀ w ∈ Bundle.ownAtoms own ic Xc names, at_ok w) (hfit : Bundle.fit Xc = true) (hnames : ∀ n ∈ names, Bundle.fit n = true)
    (d0 : decode cc pc = .ok (.new ia, 3)) (d3 : decode cc (pc + 3) = .ok (.dup, 1)) (d4 : decode cc (pc + 3 + 1) = .ok (.ldc ib, 2)) (d6 : decode cc (pc + 3 + 1 + 2) = .ok (.invokespecial ic, 3)) (d9 : decode cc (pc + 3 + 1 + 2 + 3) = .ok (.athrow, 1))
    (hRf : names.length + 3 < R.frames) (hRl : 1 + (13 * (names.length + 1) + 42) ≤ R.locals) (hRc : 1 ≤ R.cells) (hRs : 6 ≤ R.slots) :
    W p l e R s m args below meth c s.heap [] 0 0 (QT below s Xc) (F0 m pc ls []) := by
  have hatb : ∀ w ∈ Bundle.ownAtoms own ic Xc names, w.before args s = true := fun w hw => at_use C0 (hat w hw)
  obtain ⟨q, hq⟩ := C0.2.2.2.2.2.2.2.2.2.2.2.2.1 _ hstr
  obtain ⟨hx, hb, hml, hown, hts, hgk⟩ := C0
  refine W.newc hx hb hown (hts _ hcl) (hts _ hinst) (hts _ hini) rfl d0 (by omega) (by omega) fun cC kC hfc hkC hord hn => ?_
  refine W.eq (g2 := F0 m (pc + 3) ls [.ref s.heap.size]) rfl ?_
  refine lv_dup hx hb d3 rfl ?_
  refine va_ldcS hx hb hown hq d4 ?_
  intro T hT X
  have hcell : T.heap[s.heap.size]? = some (freshCell cC kC) := by
    rw [hT]
    exact Array.getElem?_push_size
  have hout : ∀ x ∈ c.exceptionTable.toList, covers x (pc + 3 + 1 + 2 + 3) = false := fun x hx => by
    rw [Array.isEmpty_iff.mp htab] at hx
    cases hx
  obtain ⟨U, hst, hrun, hend, hWU, hsame, ce, hce, hoc⟩ := X.ctorThrowS hx (Launch.traces_off hfl X.admits) hown hfit hnames hatb (fun x hx => by cases hx) (a := s.heap.size) hfc hkC hcell (Nat.le_refl _) (msg := .ref q) rfl
    (g := F0 m (pc + 3 + 1 + 2) ls [.ref q, .ref s.heap.size, .ref s.heap.size]) rfl (hsize.trans hml.symm) rfl rfl (rest := []) rfl (by rw [hb]; exact d6) (by rw [hb]; exact d9) hout hRf (by show 2 * 0 + (1 + 0) + _ ≤ _; omega) hlk
  exact ⟨U, hst, .threw s.heap.size, hrun, hend, s.heap.size, rfl, ⟨ce, hce, by rw [hoc.vm]; rfl, hoc.cls⟩, hWU, hsame⟩
end PT
/-- entry of a method that throws -/
theorem en_metT {l : Launch} {y : MethodName} {bytes : ByteArray} {nL fr lc : Nat} {ret : Option FieldType} {g : Gm} {h : Hp} {av : List Value} {Xc : String} (hy : plainName y.cls = true)
    (body : ∀ (p : Program) (e : Env) (s : State) (m : MethodId) (below : List Frame) (meth : Method) (c : Code), Cx g p s m av.toArray c bytes nL y.cls → meth.locks = false → c.exceptionTable.isEmpty = true → GH g h s.heap →
      W p l e (rmm fr lc 1 6) s m av.toArray below meth c s.heap [] 0 0 (QT below s Xc) (entryFrame m av.toArray nL)) : MetT l y (ww y bytes nL ret) (rmm fr lc 1 6) (va_Pc av (gS g h)) Xc 1 6 := by
  refine MetFree.of_bodyS (code := bytes) (maxLocals := nL) (ret := ret) hy ?_ ?_
  · intro args s m h hn
    obtain ⟨meth, c, h1, h2, h3, h4, h5, h6, -, -⟩ := Cond.code_spec hn (atoms_spec (ws := ww y bytes nL ret) h _ List.mem_cons_self)
    exact ⟨meth, c, h1, h2, h3, h4, h5, h6⟩
  · intro p e s m args below meth c s₁ B hml hv _
    obtain ⟨rfl, hgk, hgh⟩ := hv
    have hts := atoms_spec (ws := ww y bytes nL ret) B.pre
    have hh0 : s₁.heap = s.heap := by rw [B.state]; rfl
    obtain ⟨t, a1, o, b1, b2, b3⟩ := body p e s m below meth c ⟨B.exec, B.bytes, hml, findClass_of_methodNamed B.named, fun w hw => hts w (List.mem_cons_of_mem _ hw), hgk⟩ B.notSynchronized (B.noHandlers (hts _ List.mem_cons_self)) hgh s₁ hh0 (Stand.of_body B)
    exact ⟨t, o, a1, b1, b2, b3⟩
