/-! Methods with handlers: their entry, calls of them, calls in them that throw -/
theorem GH.kept {g : Gm} {h : Hp} {H H1 : Heap} (hG : GH g h H) (hk : ∀ q : Nat, q < H.size → H1[q]? = H[q]?) : GH g h H1 := by
  obtain ⟨L, hL, hP, hD⟩ := hG
  exact ⟨L, hL, hP.kept (fun k q hq => hk q.1 (hP k q hq).lt), hD⟩
abbrev wwH (y : MethodName) (b : ByteArray) (n : Nat) (r : Option FieldType) (hh : List (Nat × Nat × Nat × Nat)) : List Cond := Cond.codeWith y b n r hh :: wx_T
theorem en_metW {l : Launch} {y : MethodName} {bytes : ByteArray} {nL fr lc mc ms : Nat} {ret : Option FieldType} {hh : List (Nat × Nat × Nat × Nat)} {g : Gm} {h : Hp} {av : List Value} {Qc : Array Value → State → Outcome → State → Prop} {free : Addr → Prop} (hy : plainName y.cls = true)
    (body : ∀ (p : Program) (e : Env) (s : State) (m : MethodId) (below : List Frame) (meth : Method) (c : Code), Cx g p s m av.toArray c bytes nL y.cls → meth.sig.returnType = ret → meth.locks = false → c.exceptionTable.toList.map (fun h => (h.startPc, h.endPc, h.handlerPc, h.catchType)) = hh → GH g h s.heap →
      W p l e (rmm fr lc mc ms) s m av.toArray below meth c s.heap [] 0 0 (MQ below Qc av.toArray s mc ms free) (entryFrame m av.toArray nL)) : Met l y (wwH y bytes nL ret hh) (rmm fr lc mc ms) (va_Pc av (gS g h)) Qc mc ms free := by
  refine va_MetW (cc := bytes) (maxL := nL) (ret := ret) (hh := hh) hy rfl ?_
  intro p e s m args below meth c s₁ B hml hv
  obtain ⟨rfl, hgk, hgh⟩ := hv
  have hts := atoms_spec (ws := wwH y bytes nL ret hh) B.pre
  obtain ⟨m9, meth9, c9, hn9, hm9, hc9, -, -, htab, -, -, -⟩ := Cond.codeWith_spec (hts _ List.mem_cons_self)
  cases B.named.symm.trans hn9
  cases B.method.symm.trans hm9
  cases (Stand.of_body B).code.symm.trans hc9
  exact body p e s m below meth c ⟨B.exec, B.bytes, hml, findClass_of_methodNamed B.named, fun w hw => hts w (List.mem_cons_of_mem _ hw), hgk⟩ B.returns B.notSynchronized htab hgh
section PW
variable {p : Program} {l : Launch} {e : Env} {R : Room} {s : State} {m : MethodId} {args : Array Value} {below : List Frame} {meth : Method} {c : Code} {H : Heap} {locs : List Loc} {cells slots : Nat} {Q : State → Prop}
variable {cc : ByteArray} {pc nL : Nat} {ls : Array Slot} {rest : List Value} {a : Nat} {g : Gm} {h : Hp} {own : String} {mc ms : Nat}
variable {y : MethodName} {bytes : ByteArray} {maxL fr lc n index : Nat} {ret : Option FieldType} {Qc : Array Value → State → Outcome → State → Prop} {b : Nat} {As st0 : List Value} {host : String} {free : Addr → Prop}
theorem rn_SW {hh : List (Nat × Nat × Nat × Nat)} (C0 : Cx g p s m args c cc nL own) (hG : GH g h H) (hS : va_S (gA g) s.heap H locs) (hM : Met l y (wwH y bytes maxL ret hh) (rmm fr lc mc ms) (va_Pc As (gS g h)) Qc mc ms free)
    (hcode : Cond.codeWith y bytes maxL ret hh ∈ wx_T) (hl : Cond.methodLink own index y ∈ wx_T) (hi : Cond.static y ∈ wx_T) (hini : Cond.initialized y.cls ∈ wx_T) (hd : mDesc y n) (hR : fr + 1 ≤ R.frames ∧ 8 + (maxL + 11) + lc ≤ R.locals)
    (hn : As.length = n) (hsize : ls.size = nL) (hstack : st0 = As.reverse ++ rest) (hW : (rest.map fun v => v.category).sum ≤ 8) (hdg : decode cc pc = .ok (.invokestatic index, 3)) (hf : cells + mc ≤ R.cells ∧ slots + ms ≤ R.slots) :
    va_Run p l e R s m args below meth c H locs cells slots mc ms (F0 m pc ls st0) rest (Qc As.toArray) free := by
  obtain ⟨hx, hb, hml, hown, hts, hgk⟩ := C0
  have hgood : ∀ w ∈ wx_T, ∀ (a' : Array Value) (U : State), s.WarmedH U.vm → w.before a' U = true := fun w hw a' U hWU => by
    rcases good_of_word (List.mem_filter.mp hw).2 with hc | ⟨ty, rfl⟩
    · simp only [Bool.and_eq_true] at hc
      have h1 := Cond.onTables_warm (T := U) (args' := a') hWU hc.1 hc.2 (hts w hw)
      rwa [State.setVm_self] at h1
    · have h1 : (Cond.arrayClass ty).before args (s.setVm U.vm) = true := Cond.before_shiftedFace (State.Shifted.of_warmed hWU) _ rfl (hts _ hw)
      exact h1
  have hws : ∀ w ∈ wwH y bytes maxL ret hh, ∀ (a' : Array Value) (U : State), s.WarmedH U.vm → w.before a' U = true := fun w hw a' U hWU => by
    rcases List.mem_cons.mp hw with rfl | hw
    · exact hgood _ hcode a' U hWU
    · exact hgood _ hw a' U hWU
  have hK : Back l R p e below s args y 3 8 (PreOf R mc ms (va_Pc As (gS g h))) (PostOf Qc mc ms free) := va_backW (ws := wwH y bytes maxL ret hh) (rm := rmm fr lc mc ms) (maxL := maxL) (bytes := bytes) (ret := ret) (hh := hh) hM gS.blind rfl rfl hR.1 hR.2 hws List.mem_cons_self (hgood _ hini)
  obtain ⟨mk, methM, cM, hnamed, hmethM, -, -, -, -, -, -, hsigM⟩ := Cond.codeWith_spec (hts _ hcode)
  have hstatic : methM.isStatic = true := Cond.static_spec hnamed hmethM (hts _ hi)
  obtain ⟨kP, hkP, -⟩ := className_of_methodNamed hnamed
  have hinitP : kP.init = .initialized := Cond.initialized_spec (findClass_of_methodNamed hnamed) hkP (hts _ hini)
  intro T hT X
  have hlen : As.length = methM.sig.parameters.length := by
    have h1 := hd.2.2
    rw [hsigM] at h1
    exact hn.trans (Option.some.inj h1).symm
  obtain ⟨vm₁, X₁, hstep₁⟩ := X.invokestatic hx hown (hts _ hl) hnamed hmethM hstatic hkP hinitP ⟨hd.1, hd.2.1⟩ (g := F0 m pc ls st0) rfl (argsL := As) (rest := rest) hlen hstack (by rw [hb]; exact hdg)
  have hW' : 2 * (F0 m pc ls st0).monitorRoom + (rest.map fun v => v.category).sum ≤ 8 := by
    have e0 : (F0 m pc ls st0).monitorRoom = 0 := rfl
    rw [e0]; omega
  obtain ⟨v, ⟨U', l2, c2, s2⟩, X', ⟨g', mk', t, L, e1, e2, hq, h1, hL, h2, h3⟩, hsteps⟩ := hK m meth c ⟨T.setVm vm₁, locs, cells, slots⟩ { F0 m pc ls st0 with stack := rest } (.invokestatic index) mk As.toArray X₁ rfl (hsize.trans hml.symm) (by rw [hb]; exact hdg) hW' (X₁.named hnamed)
    ⟨hf.1, hf.2, rfl, gK.warm (U := T.setVm vm₁) X₁.warmed (by show s.heap.size ≤ T.heap.size; rw [hT]; exact hS.1) (by show ∀ a, a < s.heap.size → ¬ gA g a → T.heap[a]? = s.heap[a]?; rw [hT]; exact hS.2.1) hgk, by show GH g h T.heap; rw [hT]; exact hG⟩
  dsimp only [Pt.U, Pt.locs, Pt.cells, Pt.slots] at X' e1 e2 h1 h2 h3 hsteps
  subst h1; subst h2; subst h3
  exact ⟨v, (T.setVm vm₁).calling g' mk' As.toArray, t, U', L, hT, X', hL, e1, e2, hq, fun target ht => hstep₁ _ fun acts => by rw [doInvoke_state]; exact hsteps.trans ht⟩
/-- a call that throws, and is caught here -/
theorem cx_call (C0 : Cx g p s m args c cc nL own) (hG : GH g h H) (hS : va_S (gA g) s.heap H locs) {Xc : String} (hM : MetT l y (ww y bytes maxL ret) (rmm fr lc 1 6) (va_Pc (.ref b :: As) (gS g h)) Xc 1 6) {ci : Nat} {q : vw_C} (hkd : hK h b = ci + 1) (hci : ci < 20) (hc : vwCl[ci]? = some q) (hq : q.1 = y.cls)
    (hcode : Cond.code y bytes maxL ret ∈ wx_T) (hl : Cond.methodLink own index y ∈ wx_T) (hi : Cond.instanceMethod y ∈ wx_T) (hsel : Cond.selects y.cls y y ∈ wx_T) (hini : Cond.initialized y.cls ∈ wx_T) (hd : mDesc y n) (hR : fr + 1 ≤ R.frames ∧ 8 + (maxL + 11) + lc ≤ R.locals)
    (hn : As.length = n) (hsize : ls.size = nL) (hstack : st0 = As.reverse ++ .ref b :: rest) (hW : (rest.map fun v => v.category).sum ≤ 8) (hdg : decode cc pc = .ok (.invokevirtual index, 3)) (hf : cells + 1 ≤ R.cells ∧ slots + 6 ≤ R.slots) {hpc : Nat}
    (hct : ∀ (T : State) (x : Addr), Stand p l e R s m args below meth c T locs (cells + 1) (slots + 6) → (∃ ce : Cell, T.heap[x]? = some ce ∧ ce.vm.isStatics = false ∧ s.vm.findClass Xc = some ce.cls) → ∃ vm', Stand p l e R s m args below meth c (T.setVm vm') locs (cells + 1) (slots + 6) ∧ ∀ target, Steps p.tables e below ((T.setVm vm').setTop (F0 m hpc ls [.ref x])) target → Steps p.tables e below ((T.setTop (F0 m pc ls rest)).pushFrame (.throwing x)) target)
    (kk : ∀ (x : Nat) (H1 : Heap), GH g h H1 → va_S (gA g) s.heap H1 locs → W p l e R s m args below meth c H1 locs (cells + 1) (slots + 6) Q (F0 m hpc ls [.ref x])) : W p l e R s m args below meth c H locs cells slots Q (F0 m pc ls st0) := by
  obtain ⟨cellB, hcB, hoB, hclB⟩ := px_recv C0 hG hkd hci hc
  rw [hq] at hclB
  obtain ⟨hx, hb, hml, hown, hts, hgk⟩ := C0
  have hgood : ∀ w ∈ ww y bytes maxL ret, ∀ (a' : Array Value) (U : State), s.WarmedH U.vm → w.before a' U = true := fun w hw a' U hWU => by
    obtain ⟨hw', hgw⟩ := wx_good hcode w hw
    rcases hgw with hc | ⟨ty, rfl⟩
    · simp only [Bool.and_eq_true] at hc
      have h1 := Cond.onTables_warm (T := U) (args' := a') hWU hc.1 hc.2 (hts w hw')
      rwa [State.setVm_self] at h1
    · have h1 : (Cond.arrayClass ty).before args (s.setVm U.vm) = true := Cond.before_shiftedFace (State.Shifted.of_warmed hWU) _ rfl (hts _ hw')
      exact h1
  intro T hT X
  obtain ⟨x, T', X', hz, hkeep, hce, hst⟩ := th_call X hx hM gS.blind hR.1 (Wd := 8) hR.2 hgood hown (hts _ hl) (hts _ hi) (hts _ hsel) (hts _ hcode) (hts _ hini) ⟨hd.1, hd.2.1⟩ (by rw [hT]; exact hcB) hoB hclB (g := F0 m pc ls st0) rfl (hsize.trans hml.symm) (argsL := As) (rest := rest)
    (fun sig hs => by
      have h1 := hd.2.2
      rw [hs] at h1
      exact hn.trans (Option.some.inj h1).symm) hstack (by show 2 * 0 + _ ≤ 8; omega) (by rw [hb]; exact hdg) hf.1 hf.2
    (fun vm₁ hW1 => ⟨rfl, gK.warm (U := T.setVm vm₁) hW1 (by show s.heap.size ≤ T.heap.size; rw [hT]; exact hS.1) (by show ∀ a, a < s.heap.size → ¬ gA g a → T.heap[a]? = s.heap[a]?; rw [hT]; exact hS.2.1) hgk, by show GH g h T.heap; rw [hT]; exact hG⟩)
  obtain ⟨vm', X2, hst2⟩ := hct T' x X' hce
  rw [hT] at hz hkeep
  obtain ⟨t2, a1, b1⟩ := kk x T'.heap (hG.kept hkeep) ⟨Nat.le_trans hS.1 hz, fun q h1 h2 => (hkeep q (Nat.lt_of_lt_of_le h1 hS.1)).trans (hS.2.1 q h1 h2), hS.2.2⟩ (T'.setVm vm') rfl X2
  exact ⟨t2, hst _ (hst2 _ a1), b1⟩
end PW
