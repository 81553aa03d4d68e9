/-! New cells, references in arrays, copies -/
def dvl (ty : FieldType) : Value := match ty with
  | .long => .long 0
  | .object _ => .null
  | .array _ => .null
  | _ => .int 0
def dfl (ci : Nat) : List Value := (List.range (vwN ci)).map (fun k => dvl (vwTy ci k))
def okTy (ty : FieldType) : Bool := match ty with
  | .float => false
  | .double => false
  | _ => true
theorem dvl_ok {ty : FieldType} (h : okTy ty = true) : defaultValue ty = dvl ty := by
  cases ty <;> first | rfl | (simp [okTy] at h)
theorem fls_mk {h : Hp} {q kd n ci : Nat} : fls ci (mkC h q kd n) q = dfl ci := by
  unfold fls dfl
  refine List.map_congr_left fun k _ => ?_
  have e1 : hI (mkC h q kd n) q k = 0 := by
    show va_up h.2.2.1 q (fun _ => 0) q k = 0
    rw [va_up_self]
  have e2 : hJ (mkC h q kd n) q k = 0 := by
    show va_up h.2.2.2.1 q (fun _ => 0) q k = 0
    rw [va_up_self]
  have e3 : hR (mkC h q kd n) q k = none := by
    show va_up h.2.2.2.2 q (fun _ => none) q k = none
    rw [va_up_self]
  unfold vfl dvl
  rw [e1, e2, e3]
  rfl
theorem hK_mk (h : Hp) (q kd n : Nat) : hK (mkC h q kd n) q = kd := va_up_self _ _ _
theorem hN_mk (h : Hp) (q kd n : Nat) : hN (mkC h q kd n) q = n := va_up_self _ _ _
theorem hI_mk (h : Hp) (q kd n : Nat) : hI (mkC h q kd n) q = fun _ => 0 := va_up_self _ _ _
theorem hJ_mk (h : Hp) (q kd n : Nat) : hJ (mkC h q kd n) q = fun _ => 0 := va_up_self _ _ _
theorem hR_mk (h : Hp) (q kd n : Nat) : hR (mkC h q kd n) q = fun _ => none := va_up_self _ _ _
section PM
variable {p : Program} {l : Launch} {e : Env} {R : Room} {s : State} {m : MethodId} {args : Array Value} {below : List Frame} {meth : Method} {c : Code} {H : Heap} {locs : List Loc} {cells slots : Nat} {Q : State → Prop}
variable {cc : ByteArray} {pc nL : Nat} {ls : Array Slot} {rest : List Value} {a : Nat} {g : Gm} {h : Hp} {own : String}
theorem px_new (C0 : Cx g p s m args c cc nL own) (hG : GH g h H) (hS : va_S (gA g) s.heap H locs) {C : String} {T : u_T} {N ci index : Nat} (hci : ci < 20) (hc : vwCl[ci]? = some (C, T, N)) (hin : ∀ w ∈ u_ws C T N, w ∈ wx_T) (hN : vwN ci = N) (hty : ∀ k, k < N → parseFieldDescriptor (T k).2.2.1 = some (vwTy ci k)) (hok : ∀ k, k < N → okTy (vwTy ci k) = true) (hcl : Cond.classLink own index C ∈ wx_T) (hinst : Cond.instantiable C N ∈ wx_T) (hini : Cond.initialized C ∈ wx_T) (hcells : cells + 1 ≤ R.cells) (hslots : slots + N ≤ R.slots) (hdg : decode cc pc = .ok (.new index, 3))
    (kk : ∀ (q : Nat) (H1 : Heap), hK h q = 0 → g.2.2 0 ≤ q → GH g (mkC h q (ci + 1) 0) H1 → va_S (gA g) s.heap H1 locs → W p l e R s m args below meth c H1 locs (cells + 1) (slots + N) Q (F0 m (pc + 3) ls (.ref q :: rest))) : W p l e R s m args below meth c H locs cells slots Q (F0 m pc ls rest) := by
  have hA := C0.hA
  obtain ⟨hx, hb, hml, hown, hts, hKK, hNN, hsz, hao, hgo, hgx⟩ := C0
  obtain ⟨L, hL, hP, hD⟩ := hG
  refine va_new (ci := ci) (fs := dfl ci) hx hb hts hin (vwTy ci) hty hown (hts _ hcl) (hts _ hinst) (hts _ hini) hKK hP hD hS hA hc ?_ hcells hslots hdg fun q H1 hP1 hD1 hS1 => ?_
  · intro j hj
    rw [dvl_ok (hok j hj)]
    unfold vp_V dfl
    rw [List.getD_eq_getElem?_getD, List.getElem?_map, List.getElem?_range (by rw [hN]; exact hj)]
    rfl
  · obtain ⟨h0, hqA, hG1⟩ := GH.mk (kd := ci + 1) (n := 0) hL (by omega) (by rw [cel_obj (hK_mk _ _ _ _) hci, fls_mk]) hP1 hD1
    exact kk q H1 h0 hqA hG1 hS1
/-- an array's class is the one of its name -/
theorem gTy_same {t0 : Nat} {cA : ClassId} {ty : FieldType} (hgk : gK g s) (hK1 : va_K g.1 vwCl (gTy g ++ [(cA, ty)]) s) (h0 : (gTy g)[t0]? = some (g.2.1 t0, ty)) : cA = g.2.1 t0 := by
  have h4 : (gTy g ++ [(cA, ty)])[4]? = some (cA, ty) := rfl
  have a1 := (hK1.2 4 _ h4).2
  have a2 := (hgk.1.2 t0 _ h0).2
  cases ty with
  | object C =>
    obtain ⟨_, _, _, _, _, b1⟩ := a1
    obtain ⟨_, _, _, _, _, b2⟩ := a2
    exact Option.some.inj (b1.symm.trans b2)
  | _ => exact Option.some.inj (a1.symm.trans a2)
theorem px_newI (C0 : Cx g p s m args c cc nL own) (hG : GH g h H) (hS : va_S (gA g) s.heap H locs) (harr : Cond.arrayClass .int ∈ wx_T) {n : Int32} {N : Nat} (hn : ¬ n < 0) (hN : n.toNatClampNeg = N) (hb1 : N ≤ 100000) (hcells : cells + 1 ≤ R.cells) (hslots : slots + N ≤ R.slots) (hdg : decode cc pc = .ok (.newarray .int, 2))
    (kk : ∀ (q : Nat) (H1 : Heap), hK h q = 0 → g.2.2 0 ≤ q → GH g (mkC h q 21 N) H1 → va_S (gA g) s.heap H1 locs → W p l e R s m args below meth c H1 locs (cells + 1) (slots + N) Q (F0 m (pc + 2) ls (.ref q :: rest))) : W p l e R s m args below meth c H locs cells slots Q (F0 m pc ls (.int n :: rest)) := by
  have hA := C0.hA
  obtain ⟨hx, hb, hml, hown, hts, hgk⟩ := C0
  obtain ⟨L, hL, hP, hD⟩ := hG
  refine va_newa (atype := .int) (ty := .int) (N' := N) (a0 := (N, .inl (fun _ => 0))) hx hb (hts _ harr) rfl hgk.1 hP hD hS hA (fun _ => rfl) hn hN (by show N * 4 ≤ _; omega) hcells hslots hdg fun q cA H1 hK1 hP1 hD1 hS1 => ?_
  cases gTy_same (t0 := 0) hgk hK1 rfl
  obtain ⟨h0, hqA, hG1⟩ := GH.mk (kd := 21) (n := N) hL (by decide) (by rw [cel_21 (hK_mk _ _ _ _), hN_mk, hI_mk]) hP1 hD1
  exact kk q H1 h0 hqA hG1 hS1
theorem px_newJ (C0 : Cx g p s m args c cc nL own) (hG : GH g h H) (hS : va_S (gA g) s.heap H locs) (harr : Cond.arrayClass .long ∈ wx_T) {n : Int32} {N : Nat} (hn : ¬ n < 0) (hN : n.toNatClampNeg = N) (hb1 : N ≤ 100000) (hcells : cells + 1 ≤ R.cells) (hslots : slots + N ≤ R.slots) (hdg : decode cc pc = .ok (.newarray .long, 2))
    (kk : ∀ (q : Nat) (H1 : Heap), hK h q = 0 → g.2.2 0 ≤ q → GH g (mkC h q 22 N) H1 → va_S (gA g) s.heap H1 locs → W p l e R s m args below meth c H1 locs (cells + 1) (slots + N) Q (F0 m (pc + 2) ls (.ref q :: rest))) : W p l e R s m args below meth c H locs cells slots Q (F0 m pc ls (.int n :: rest)) := by
  have hA := C0.hA
  obtain ⟨hx, hb, hml, hown, hts, hgk⟩ := C0
  obtain ⟨L, hL, hP, hD⟩ := hG
  refine va_newa (atype := .long) (ty := .long) (N' := N) (a0 := (N, .inr (.inl (fun _ => 0)))) hx hb (hts _ harr) rfl hgk.1 hP hD hS hA (fun _ => rfl) hn hN (by show N * 8 ≤ _; omega) hcells hslots hdg fun q cA H1 hK1 hP1 hD1 hS1 => ?_
  cases gTy_same (t0 := 1) hgk hK1 rfl
  obtain ⟨h0, hqA, hG1⟩ := GH.mk (kd := 22) (n := N) hL (by decide) (by rw [cel_22 (hK_mk _ _ _ _), hN_mk, hJ_mk]) hP1 hD1
  exact kk q H1 h0 hqA hG1 hS1
theorem px_newZ (C0 : Cx g p s m args c cc nL own) (hG : GH g h H) (hS : va_S (gA g) s.heap H locs) (harr : Cond.arrayClass .boolean ∈ wx_T) {n : Int32} {N : Nat} (hn : ¬ n < 0) (hN : n.toNatClampNeg = N) (hb1 : N ≤ 100000) (hcells : cells + 1 ≤ R.cells) (hslots : slots + N ≤ R.slots) (hdg : decode cc pc = .ok (.newarray .boolean, 2))
    (kk : ∀ (q : Nat) (H1 : Heap), hK h q = 0 → g.2.2 0 ≤ q → GH g (mkC h q 23 N) H1 → va_S (gA g) s.heap H1 locs → W p l e R s m args below meth c H1 locs (cells + 1) (slots + N) Q (F0 m (pc + 2) ls (.ref q :: rest))) : W p l e R s m args below meth c H locs cells slots Q (F0 m pc ls (.int n :: rest)) := by
  have hA := C0.hA
  obtain ⟨hx, hb, hml, hown, hts, hgk⟩ := C0
  obtain ⟨L, hL, hP, hD⟩ := hG
  refine va_newa (atype := .boolean) (ty := .boolean) (N' := N) (a0 := (N, .inl (fun _ => 0))) hx hb (hts _ harr) rfl hgk.1 hP hD hS hA (fun _ => rfl) hn hN (by show N * 1 ≤ _; omega) hcells hslots hdg fun q cA H1 hK1 hP1 hD1 hS1 => ?_
  cases gTy_same (t0 := 2) hgk hK1 rfl
  obtain ⟨h0, hqA, hG1⟩ := GH.mk (kd := 23) (n := N) hL (by decide) (by rw [cel_23 (hK_mk _ _ _ _), hN_mk, hI_mk]) hP1 hD1
  exact kk q H1 h0 hqA hG1 hS1
theorem px_newQ (C0 : Cx g p s m args c cc nL own) (hG : GH g h H) (hS : va_S (gA g) s.heap H locs) {index : Nat} (hcl : Cond.classLink own index "java/lang/Object" ∈ wx_T) {n : Int32} {N : Nat} (hn : ¬ n < 0) (hN : n.toNatClampNeg = N) (hb1 : N ≤ 100000) (hcells : cells + 1 ≤ R.cells) (hslots : slots + N ≤ R.slots) (hdg : decode cc pc = .ok (.anewarray index, 3))
    (kk : ∀ (q : Nat) (H1 : Heap), hK h q = 0 → g.2.2 0 ≤ q → GH g (mkC h q 24 N) H1 → va_S (gA g) s.heap H1 locs → W p l e R s m args below meth c H1 locs (cells + 1) (slots + N) Q (F0 m (pc + 3) ls (.ref q :: rest))) : W p l e R s m args below meth c H locs cells slots Q (F0 m pc ls (.int n :: rest)) := by
  have hA := C0.hA
  obtain ⟨hx, hb, hml, hown, hts, hgk⟩ := C0
  obtain ⟨L, hL, hP, hD⟩ := hG
  refine va_newq (N' := N) hx hb hown (hts _ hcl) hgk.2.2.2.1 hgk.1 hP hD hS hA hn hN (by omega) hcells hslots hdg fun q cA H1 hK1 hP1 hD1 hS1 => ?_
  cases gTy_same (t0 := 3) hgk hK1 rfl
  obtain ⟨h0, hqA, hG1⟩ := GH.mk (kd := 24) (n := N) hL (by decide) (by rw [cel_24 (hK_mk _ _ _ _), hN_mk, hR_mk]) hP1 hD1
  exact kk q H1 h0 hqA hG1 hS1
/-- an object of ours fits a place of an Object array -/
theorem px_any (hgk : gK g s) (hG : GH g h H) {v ci : Nat} (hkd : hK h v = ci + 1) (hci : ci < 20) {q : vw_C} (hc : vwCl[ci]? = some q) (hcast : Cond.castable q.1 "java/lang/Object" ∈ wx_N) : va_Any "java/lang/Object" s H v := by
  obtain ⟨L, hL, hP, hD⟩ := hG
  obtain ⟨q0, hq⟩ := GH.find (H := H) hL (by rw [hkd]; omega) (cel_obj (g := g) hkd hci)
  refine va_rAny hgk.1 hP hq hc fun comp c0 h1 h2 => ?_
  have h3 := hgk.2.1 _ hcast
  simp only [va_Nw, Cond.before, Cond.holds, Cond.value, h1, h2] at h3
  simpa using h3
/-- an object of ours is stored -/
theorem px_aast (C0 : Cx g p s m args c cc nL own) (hG : GH g h H) (hS : va_S (gA g) s.heap H locs) (hkd : hK h a = 24) {i : Int32} (hin : vp_in i (hN h a)) {v ci : Nat} (hkv : hK h v = ci + 1) (hci : ci < 20) {q : vw_C} (hc : vwCl[ci]? = some q) (hcast : Cond.castable q.1 "java/lang/Object" ∈ wx_N) (hdg : decode cc pc = .ok (.aastore, 1))
    (kk : ∀ (H1 : Heap) (locs1 : List Loc), GH g (sR h a i.toNatClampNeg (some v)) H1 → va_S (gA g) s.heap H1 locs1 → W p l e R s m args below meth c H1 locs1 cells slots Q (F0 m (pc + 1) ls rest)) : W p l e R s m args below meth c H locs cells slots Q (F0 m pc ls (.ref v :: .int i :: .ref a :: rest)) := by
  have hany := px_any C0.2.2.2.2.2 hG hkv hci hc hcast
  obtain ⟨hx, hb, hml, hown, hts, hKK, hNN, hsz, hao, hgo, hgx⟩ := C0
  obtain ⟨L, hL, hP, hD⟩ := hG
  obtain ⟨q0, hq⟩ := GH.find (H := H) hL (by rw [hkd]; omega) (cel_24 (g := g) hkd)
  refine va_astqM (E := "java/lang/Object") hx hb hKK hP hD hS q0 3 hq rfl hany hin hdg fun H1 locs1 hP1 hD1 hS1 => kk H1 locs1 (GH.put hL hD hq (cel_24 hkd) (fun _ => rfl) ?_ (fun b e => cel_sR e) hP1 hD1) hS1
  rw [cel_24 (h := sR h a i.toNatClampNeg (some v)) hkd, hR_sR, va_up_self]
  rfl
end PM
/-- a boolean as the machine has it -/
def zB (x : Int32) : Prop := x = 0 ∨ x = 1
theorem zB.nar {x : Int32} (h : zB x) : vp_nar .boolean x = x := by
  rcases h with h | h <;> subst h <;> rfl
theorem zB.fit {x : Int32} (h : zB x) : fits .boolean (.int x) = true := by
  rcases h with h | h <;> subst h <;> rfl
/-- the length of an array of ours, or of the list's empty one -/
def gLen (g : Gm) (h : Hp) (a : Nat) (v : Int32) : Prop := (21 ≤ hK h a ∧ hK h a ≤ 24 ∧ v = nI (hN h a)) ∨ (a = g.2.2 1 ∧ v = 0)
theorem px_len {p : Program} {l : Launch} {e : Env} {R : Room} {s : State} {m : MethodId} {args : Array Value} {below : List Frame} {meth : Method} {c : Code} {H : Heap} {locs : List Loc} {cells slots : Nat} {Q : State → Prop} {cc : ByteArray} {pc nL : Nat} {ls : Array Slot} {rest : List Value} {a : Nat} {g : Gm} {h : Hp} {own : String} (C0 : Cx g p s m args c cc nL own) (hG : GH g h H) (hS : va_S (gA g) s.heap H locs) {v : Int32} (hv : gLen g h a v) (hdg : decode cc pc = .ok (.arraylength, 1))
    (kk : W p l e R s m args below meth c H locs cells slots Q (F0 m (pc + 1) ls (.int v :: rest))) : W p l e R s m args below meth c H locs cells slots Q (F0 m pc ls (.ref a :: rest)) := by
  rcases hv with ⟨h1, h2, rfl⟩ | ⟨rfl, rfl⟩
  · exact px_alen C0 hG ⟨h1, h2⟩ hdg kk
  · obtain ⟨hx, hb, hml, hown, hts, hKK, hNN, hsz, hao, hgo, hgx⟩ := C0
    exact va_tlen hx hb hgo.2.1 hS rfl hdg kk
section PC
variable {p : Program} {l : Launch} {e : Env} {R : Room} {s : State} {m : MethodId} {args : Array Value} {below : List Frame} {meth : Method} {c : Code} {H : Heap} {locs : List Loc} {cells slots : Nat} {Q : State → Prop}
variable {cc : ByteArray} {pc nL : Nat} {ls : Array Slot} {rest : List Value} {a : Nat} {g : Gm} {h : Hp} {own : String}
/-- System.arraycopy between Object arrays of ours that hold objects of class ci -/
theorem px_copy (C0 : Cx g p s m args c cc nL own) (hG : GH g h H) (hS : va_S (gA g) s.heap H locs) (hsize : ls.size = nL) {index : Nat} (hl : Cond.methodLink own index arraycopyName ∈ wx_T) (hnat : Cond.native arraycopyName ∈ wx_T) (hst : Cond.static arraycopyName ∈ wx_T) (hini : Cond.initialized "java/lang/System" ∈ wx_T) {ci : Nat} {q : vw_C} (hci : ci < 20) (hc : vwCl[ci]? = some q) (hcast : Cond.castable q.1 "java/lang/Object" ∈ wx_N)
    {a0 : Nat} (hk0 : hK h a0 = 24) (hk1 : hK h a = 24) {sp dp n : Int32} (h1 : ¬ sp < 0) (h2 : ¬ dp < 0) (h3 : ¬ n < 0) (h4 : sp.toNatClampNeg + n.toNatClampNeg ≤ hN h a0) (h5 : dp.toNatClampNeg + n.toNatClampNeg ≤ hN h a) (hel : ∀ i y : Nat, i < n.toNatClampNeg → hR h a0 (sp.toNatClampNeg + i) = some y → hK h y = ci + 1)
    (hframes : 1 ≤ R.frames) (hlocals : (rest.map fun v => v.category).sum + (nativeFrameWords "java/lang/System" "arraycopy" 5 + 11) ≤ R.locals) (hdg : decode cc pc = .ok (.invokestatic index, 3))
    (kk : ∀ (H1 : Heap) (locs1 : List Loc), GH g (sRr h a (va_cpy (hR h a0) (hR h a) sp.toNatClampNeg dp.toNatClampNeg n.toNatClampNeg)) H1 → va_S (gA g) s.heap H1 locs1 → W p l e R s m args below meth c H1 locs1 cells slots Q (F0 m (pc + 3) ls rest)) : W p l e R s m args below meth c H locs cells slots Q (F0 m pc ls (.int n :: .int dp :: .ref a :: .int sp :: .ref a0 :: rest)) := by
  have hany : ∀ i : Nat, i < n.toNatClampNeg → ∀ y : Nat, hR h a0 (sp.toNatClampNeg + i) = some y → va_Any "java/lang/Object" s H y := fun i hi y hy => px_any C0.2.2.2.2.2 hG (hel i y hi hy) hci hc hcast
  obtain ⟨hx, hb, hml, hown, hts, hKK, hNN, hsz, hao, hgo, hgx⟩ := C0
  obtain ⟨L, hL, hP, hD⟩ := hG
  obtain ⟨q0, hq0⟩ := GH.find (H := H) hL (by rw [hk0]; omega) (cel_24 (g := g) hk0)
  obtain ⟨q1, hq1⟩ := GH.find (H := H) hL (by rw [hk1]; omega) (cel_24 (g := g) hk1)
  refine va_copyM (E0 := "java/lang/Object") (E1 := "java/lang/Object") hx hb (hml.trans hsize.symm) hown (hts _ hl) (hts _ hnat) (hts _ hst) (hts _ hini) hKK hP hD hS q0 q1 3 3 hq0 hq1 rfl rfl h1 h2 h3 h4 h5 hany hframes hlocals hdg fun H1 locs1 hP1 hD1 hS1 => kk H1 locs1 (GH.put hL hD hq1 (cel_24 hk1) (fun _ => rfl) ?_ (fun b e => cel_sRr e) hP1 hD1) hS1
  rw [cel_24 (h := sRr h a (va_cpy (hR h a0) (hR h a) sp.toNatClampNeg dp.toNatClampNeg n.toNatClampNeg)) hk1]
  show Sum.inl (g.2.1 3, hN h a, Sum.inr (Sum.inr (Sum.inr (Sum.inr (va_up h.2.2.2.2 a _ a))))) = _
  rw [va_up_self]
/-- the class of an Object array of ours -/
theorem px_recA (hgk : gK g s) (hG : GH g h H) (hkd : hK h a = 24) : ∃ cell : Cell, H[a]? = some cell ∧ cell.vm.isStatics = false ∧ s.vm.findClass "[Ljava/lang/Object;" = some cell.cls := by
  obtain ⟨L, hL, hP, hD⟩ := hG
  obtain ⟨q0, hq⟩ := GH.find (H := H) hL (by rw [hkd]; omega) (cel_24 (g := g) hkd)
  have h1 : H[a]? = some (vp_cell (g.2.1 3) (hN h a, .inr (.inr (.inr (.inr (hR h a)))))) := hP q0 _ hq
  have h2 := (hgk.1.2 3 _ (rfl : (gTy g)[3]? = some (g.2.1 3, .object "java/lang/Object"))).2
  exact ⟨_, h1, rfl, va_nmO h2 (by decide)⟩
end PC
