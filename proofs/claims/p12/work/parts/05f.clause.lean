/-! the clause that catches, as cx_call asks for it -/
section HC
variable {p : Program} {l : Launch} {e : Env} {R : Room} {s : State} {m : MethodId} {args : Array Value} {below : List Frame} {meth : Method} {c : Code} {locs : List Loc} {cells slots : Nat}
variable {cc : ByteArray} {pc nL : Nat} {ls : Array Slot} {rest : List Value} {g : Gm} {own : String}
theorem hc_one (C0 : Cx g p s m args c cc nL own) {s1 e1 h1 t1 : Nat} {r : List (Nat × Nat × Nat × Nat)} (htab : c.exceptionTable.toList.map (fun h => (h.startPc, h.endPc, h.handlerPc, h.catchType)) = (s1, e1, h1, t1) :: r) (hcov : s1 ≤ pc ∧ pc < e1) (ht0 : t1 ≠ 0) {Xc : String} (hlink : Cond.classLink own t1 Xc ∈ wx_T) (hcast : Cond.castable Xc Xc ∈ wx_N) :
    ∀ (T : State) (x : Addr), Stand p l e R s m args below meth c T locs cells slots → (∃ ce : Cell, T.heap[x]? = some ce ∧ ce.vm.isStatics = false ∧ s.vm.findClass Xc = some ce.cls) → ∃ vm', Stand p l e R s m args below meth c (T.setVm vm') locs cells slots ∧ ∀ target, Steps p.tables e below ((T.setVm vm').setTop (F0 m h1 ls [.ref x])) target → Steps p.tables e below ((T.setTop (F0 m pc ls rest)).pushFrame (.throwing x)) target := by
  intro T x X ⟨ce, hc1, hc2, hc3⟩
  obtain ⟨hx, hb, hml, hown, hts, hgk⟩ := C0
  obtain ⟨x1, t, ht, hx1, -⟩ := List.map_eq_cons_iff.mp htab
  obtain ⟨f1, f2, f3, f4⟩ : x1.startPc = s1 ∧ x1.endPc = e1 ∧ x1.handlerPc = h1 ∧ x1.catchType = t1 := by simpa using hx1
  obtain ⟨cx, cy, g1, g2, g3⟩ := Cond.castable_spec (va_Nw.use (A := args) rfl (hgk.2.1 _ hcast))
  cases hc3.symm.trans g1
  obtain ⟨vm', X', hst⟩ := ct_one X x (g := F0 m pc ls rest) rfl hown ht (by simp [covers, f1, f2, hcov.1, hcov.2]) (by rw [f4]; exact ht0) (name := Xc) (by rw [f4]; exact hts _ hlink) g2 hc1 hc2 g3
  exact ⟨vm', X', fun target h => hst target (by rw [f3]; exact h)⟩
theorem hc_two (C0 : Cx g p s m args c cc nL own) {s1 e1 h1 t1 s2 e2 h2 t2 : Nat} {r : List (Nat × Nat × Nat × Nat)} (htab : c.exceptionTable.toList.map (fun h => (h.startPc, h.endPc, h.handlerPc, h.catchType)) = (s1, e1, h1, t1) :: (s2, e2, h2, t2) :: r) (hcov : s1 ≤ pc ∧ pc < e1) (ht0 : t1 ≠ 0) (hcov2 : s2 ≤ pc ∧ pc < e2) (ht02 : t2 ≠ 0) {X1 Xc : String} (hlink : Cond.classLink own t1 X1 ∈ wx_T) (hlink2 : Cond.classLink own t2 Xc ∈ wx_T) (hnc : va_Nc Xc X1 s) (hcast : Cond.castable Xc Xc ∈ wx_N) :
    ∀ (T : State) (x : Addr), Stand p l e R s m args below meth c T locs cells slots → (∃ ce : Cell, T.heap[x]? = some ce ∧ ce.vm.isStatics = false ∧ s.vm.findClass Xc = some ce.cls) → ∃ vm', Stand p l e R s m args below meth c (T.setVm vm') locs cells slots ∧ ∀ target, Steps p.tables e below ((T.setVm vm').setTop (F0 m h2 ls [.ref x])) target → Steps p.tables e below ((T.setTop (F0 m pc ls rest)).pushFrame (.throwing x)) target := by
  intro T x X ⟨ce, hc1, hc2, hc3⟩
  obtain ⟨hx, hb, hml, hown, hts, hgk⟩ := C0
  obtain ⟨x1, t, ht, hx1, ht'⟩ := List.map_eq_cons_iff.mp htab
  obtain ⟨x2, t3, ht3, hx2, -⟩ := List.map_eq_cons_iff.mp ht'
  subst ht3
  obtain ⟨f1, f2, f3, f4⟩ : x1.startPc = s1 ∧ x1.endPc = e1 ∧ x1.handlerPc = h1 ∧ x1.catchType = t1 := by simpa using hx1
  obtain ⟨f5, f6, f7, f8⟩ : x2.startPc = s2 ∧ x2.endPc = e2 ∧ x2.handlerPc = h2 ∧ x2.catchType = t2 := by simpa using hx2
  obtain ⟨cx, cy, g1, g2, g3⟩ := Cond.castable_spec (va_Nw.use (A := args) rfl (hgk.2.1 _ hcast))
  cases hc3.symm.trans g1
  obtain ⟨n1, n2, k1, k2, k3⟩ := hnc
  cases hc3.symm.trans k1
  obtain ⟨vm', X', hst⟩ := ct_two X x (g := F0 m pc ls rest) rfl hown ht (by simp [covers, f1, f2, hcov.1, hcov.2]) (by rw [f4]; exact ht0) (by simp [covers, f5, f6, hcov2.1, hcov2.2]) (by rw [f8]; exact ht02) (name := X1) (name2 := Xc) (by rw [f4]; exact hts _ hlink) (by rw [f8]; exact hts _ hlink2) k2 g2 hc1 hc2 k3 g3
  exact ⟨vm', X', fun target h => hst target (by rw [f7]; exact h)⟩
end HC
