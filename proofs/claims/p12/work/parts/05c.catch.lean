/-! an exception is caught by the first clause, or by the second -/
section CT
variable {p : Program} {l : Launch} {e : Env} {R : Room} {s : State} {m : MethodId} {args : Array Value} {below : List Frame} {meth : Method} {c : Code} {T : State} {locs : List Loc} {cells slots : Nat}
theorem ct_one (X : Stand p l e R s m args below meth c T locs cells slots) (a : Addr) {g : JFrame} (hg : g.method = m) {own : String} (hown : s.vm.findClass own = some m.cls) {x1 : ExceptionTableEntry} {rest : List ExceptionTableEntry} (htab : c.exceptionTable.toList = x1 :: rest) (hx : covers x1 g.pc = true) (h0 : x1.catchType ≠ 0)
    {name : String} (hlink : (Cond.classLink own x1.catchType name).before args s = true) {cT : ClassId} {cell : Cell} (hcT : s.vm.findClass name = some cT) (hcell : T.heap[a]? = some cell) (hobj : cell.vm.isStatics = false) (hfit : s.vm.assignable cell.cls cT = true) :
    ∃ vm', Stand p l e R s m args below meth c (T.setVm vm') locs cells slots ∧ ∀ target, Steps p.tables e below ((T.setVm vm').setTop { g with pc := x1.handlerPc, stack := [.ref a] }) target → Steps p.tables e below ((T.setTop g).pushFrame (.throwing a)) target := by
  have hpl : e.platform.magicAccessors = ({} : Platform).magicAccessors := by rw [X.admits.platform]
  obtain ⟨c', hc', hcl⟩ := Cond.classLink_spec hown hlink e.platform hpl
  cases hcT.symm.trans hc'
  obtain ⟨dk, _, _, kt, hd, _, _, _, _, hkt, _, hopen⟩ := hcl.here
  have hcl₀ := X.warmed.classLinks hcl
  have hW' : s.WarmedH (T.vm.noted m.cls x1.catchType (.cls cT)) := X.warmed.noted hd hopen (State.rightAt_cls hcl)
  have hal := X.warmed.alike
  obtain ⟨kt', hkt', -⟩ := hal.2.2 _ _ hkt
  have hfit' : T.vm.assignable cell.cls cT = true := by rw [hal.assignable]; exact hfit
  refine ⟨_, X.noted hW', fun target hrest => ?_⟩
  subst hg
  refine fz_caught X.here (fun Q E d acts => ?_) hrest
  rw [W.findHandler_eq (s := (T.setTop g).pushFrame (.throwing a)) (meth := meth) (code := c) X.method' X.code, htab]
  rw [fz_go (s := (T.setTop g).pushFrame (.throwing a)) hx h0 (cc := cT) (cell := cell) hcl₀ hcell (VmData.ne_statics_of hobj) (Vm.classAt_of_assignable hfit' ⟨kt', hkt'⟩) ⟨kt', hkt'⟩, Stand.throwing_vm, if_pos hfit']
theorem ct_two (X : Stand p l e R s m args below meth c T locs cells slots) (a : Addr) {g : JFrame} (hg : g.method = m) {own : String} (hown : s.vm.findClass own = some m.cls) {x1 x2 : ExceptionTableEntry} {rest : List ExceptionTableEntry} (htab : c.exceptionTable.toList = x1 :: x2 :: rest) (hx : covers x1 g.pc = true) (h0 : x1.catchType ≠ 0) (hx2 : covers x2 g.pc = true) (h02 : x2.catchType ≠ 0)
    {name name2 : String} (hlink : (Cond.classLink own x1.catchType name).before args s = true) (hlink2 : (Cond.classLink own x2.catchType name2).before args s = true) {cT cT2 : ClassId} {cell : Cell} (hcT : s.vm.findClass name = some cT) (hcT2 : s.vm.findClass name2 = some cT2) (hcell : T.heap[a]? = some cell) (hobj : cell.vm.isStatics = false) (hno : s.vm.assignable cell.cls cT = false) (hfit : s.vm.assignable cell.cls cT2 = true) :
    ∃ vm', Stand p l e R s m args below meth c (T.setVm vm') locs cells slots ∧ ∀ target, Steps p.tables e below ((T.setVm vm').setTop { g with pc := x2.handlerPc, stack := [.ref a] }) target → Steps p.tables e below ((T.setTop g).pushFrame (.throwing a)) target := by
  have hpl : e.platform.magicAccessors = ({} : Platform).magicAccessors := by rw [X.admits.platform]
  obtain ⟨c', hc', hcl⟩ := Cond.classLink_spec hown hlink e.platform hpl
  cases hcT.symm.trans hc'
  obtain ⟨dk, _, _, kt, hd, _, _, _, _, hkt, _, hopen⟩ := hcl.here
  obtain ⟨c2', hc2', hcl2⟩ := Cond.classLink_spec hown hlink2 e.platform hpl
  cases hcT2.symm.trans hc2'
  obtain ⟨dk2, _, _, kt2, hd2, _, _, _, _, hkt2, _, hopen2⟩ := hcl2.here
  have hcl₀ := X.warmed.classLinks hcl
  have hW1 : s.WarmedH (T.vm.noted m.cls x1.catchType (.cls cT)) := X.warmed.noted hd hopen (State.rightAt_cls hcl)
  have hcl₁ := hW1.classLinks hcl2
  have hW2 : s.WarmedH ((T.vm.noted m.cls x1.catchType (.cls cT)).noted m.cls x2.catchType (.cls cT2)) := hW1.noted hd2 hopen2 (State.rightAt_cls hcl2)
  have hal := X.warmed.alike
  have hal1 := hW1.alike
  obtain ⟨kt', hkt', -⟩ := hal.2.2 _ _ hkt
  obtain ⟨kt2', hkt2', -⟩ := hal1.2.2 _ _ hkt2
  obtain ⟨kt2'', hkt2'', -⟩ := hal.2.2 _ _ hkt2
  have hno' : T.vm.assignable cell.cls cT = false := by rw [hal.assignable]; exact hno
  have hfit' : T.vm.assignable cell.cls cT2 = true := by rw [hal.assignable]; exact hfit
  have hfit1 : (T.vm.noted m.cls x1.catchType (.cls cT)).assignable cell.cls cT2 = true := by rw [hal1.assignable]; exact hfit
  refine ⟨_, X.noted hW2, fun target hrest => ?_⟩
  subst hg
  refine fz_caught X.here (fun Q E d acts => ?_) hrest
  rw [W.findHandler_eq (s := (T.setTop g).pushFrame (.throwing a)) (meth := meth) (code := c) X.method' X.code, htab]
  rw [fz_go (s := (T.setTop g).pushFrame (.throwing a)) hx h0 (cc := cT) (cell := cell) hcl₀ hcell (VmData.ne_statics_of hobj) (Vm.classAt_of_assignable hfit' ⟨kt2'', hkt2''⟩) ⟨kt', hkt'⟩, Stand.throwing_vm, if_neg (by rw [hno']; decide)]
  rw [fz_go (s := ((T.setTop g).pushFrame (.throwing a)).setVm (T.vm.noted g.method.cls x1.catchType (.cls cT))) hx2 h02 (cc := cT2) (cell := cell) hcl₁ hcell (VmData.ne_statics_of hobj) (Vm.classAt_of_assignable hfit1 ⟨kt2', hkt2'⟩) ⟨kt2', hkt2'⟩, State.vm_setVm, if_pos hfit1]
  rfl
end CT
