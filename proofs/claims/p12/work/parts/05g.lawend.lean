/-! the law's end -/
def lawQ : Array Value → State → Outcome → State → Prop := fun _ _ o _ => o = .returned (some (.int 1))
theorem re_law {p : Program} {l : Launch} {e : Env} {R : Room} {s : State} {m : MethodId} {args : Array Value} {below : List Frame} {meth : Method} {c : Code} {H : Heap} {locs : List Loc} {cells slots mc ms pc nL : Nat} {cc : ByteArray} {ls : Array Slot} {g : Gm} {own : String} (C0 : Cx g p s m args c cc nL own) (hr : meth.sig.returnType = some .boolean) (hlk : meth.locks = false) (hsz : s.heap.size ≤ g.2.2 0) (hS : va_S (gA g) s.heap H locs) (hkc : cells ≤ mc ∧ slots ≤ ms) (v : Int32) (hv : v = 1) (hdg : decode cc pc = .ok (.ireturn, 1)) :
    W p l e R s m args below meth c H locs cells slots (MQ below lawQ args s mc ms (fun _ => False)) (F0 m pc ls [.int v]) := by
  subst hv
  refine va_forget (fun q hq => Nat.le_trans hsz (hS.2.2 q hq)) ?_
  refine W.widen hkc.1 hkc.2 ?_
  exact W.zret (ty := .boolean) C0.1 C0.2.1 hr rfl (fun t ht hW => rfl) (fun q hq => by cases hq) hdg hlk
