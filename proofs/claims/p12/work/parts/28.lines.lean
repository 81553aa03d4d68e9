/-! PURE: the waiting lines of the reference, as three rows of ints (whom each waits for, lengths, lines) -/
theorem cntF_congr {f f' : Nat → Bool} {n : Nat} (h : ∀ k : Nat, k < n → f' k = f k) : cntF f' n = cntF f n := by
  induction n with
  | zero => rfl
  | succ n ih =>
    show cntF f' n + (if f' n = true then 1 else 0) = cntF f n + (if f n = true then 1 else 0)
    rw [ih (fun k hk => h k (by omega)), h n (by omega)]
theorem cntF_set {f f' : Nat → Bool} {n t : Nat} (ht : t < n) (h0 : f t = false) (h1 : f' t = true) (h : ∀ k : Nat, k < n → k ≠ t → f' k = f k) : cntF f' n = cntF f n + 1 := by
  induction n with
  | zero => omega
  | succ n ih =>
    show cntF f' n + (if f' n = true then 1 else 0) = cntF f n + (if f n = true then 1 else 0) + 1
    by_cases c : t = n
    · subst c
      rw [cntF_congr (fun k hk => h k (by omega) (by omega)), h0, h1]
      simp
    · rw [ih (by omega) (fun k hk => h k (by omega)), h n (by omega) (fun z => c z.symm)]
      omega
theorem cntF_lt {f : Nat → Bool} (n : Nat) (h : f 0 = false) : cntF f (n + 1) ≤ n := by
  induction n with
  | zero => simp [cntF, h]
  | succ n ih =>
    show cntF f (n + 1) + (if f (n + 1) = true then 1 else 0) ≤ n + 1
    by_cases c : f (n + 1) = true
    · rw [if_pos c]; omega
    · rw [if_neg c]; omega
theorem cntF_some {f : Nat → Bool} {n t : Nat} (ht : t < n) (h : f t = true) : 1 ≤ cntF f n := by
  induction n with
  | zero => omega
  | succ n ih =>
    show 1 ≤ cntF f n + (if f n = true then 1 else 0)
    by_cases c : t = n
    · subst c; rw [if_pos h]; omega
    · have := ih (by omega); omega
/-- how many wait for s -/
def cn (W : Nat → Int32) (s : Nat) : Nat := cntF (fun t => decide (W t = nI s)) 31
/-- how many wait -/
def wn (W : Nat → Int32) : Nat := cntF (fun t => decide (¬ W t = -1)) 31
def Li (W S R : Nat → Int32) : Prop := W 0 = -1 ∧ (∀ s : Nat, s < 50 → S s = nI (cn W s)) ∧ (∀ s k : Nat, s < 50 → k < cn W s → ∃ t : Nat, 1 ≤ t ∧ t ≤ 30 ∧ R (31 * s + k) = nI t ∧ W t = nI s) ∧ (∀ s j k : Nat, s < 50 → j < cn W s → k < cn W s → R (31 * s + j) = R (31 * s + k) → j = k) ∧ (∀ t : Nat, t ≤ 30 → W t = -1 ∨ ∃ s k : Nat, s < 50 ∧ W t = nI s ∧ k < cn W s ∧ R (31 * s + k) = nI t)
theorem nIm1 {s : Nat} (hs : s < 2 ^ 31) : ¬ (-1 : Int32) = nI s := fun c => nI_nm1 hs c.symm
theorem cn_le {W : Nat → Int32} (h0 : W 0 = -1) {s : Nat} (hs : s < 50) : cn W s ≤ 30 := by
  refine cntF_lt 30 ?_
  rw [h0]
  exact decide_eq_false (nIm1 (by omega))
theorem wn_le {W : Nat → Int32} (h0 : W 0 = -1) : wn W ≤ 30 := by
  refine cntF_lt 30 ?_
  rw [h0]
  rfl
theorem nI_ne {a b : Nat} (ha : a < 50) (hb : b < 50) (h : a ≠ b) : ¬ nI a = nI b := fun c => h ((nI_eq (by omega) (by omega)).mp c)
theorem Li.unwait {W S R W' S' R' : Nat → Int32} {t s p : Nat} (l : Li W S R) (ht : t ≤ 30) (hs : s < 50) (hw : W t = nI s) (hp : p < cn W s) (hat : R (31 * s + p) = nI t)
    (eW : ∀ k : Nat, W' k = if k = t then -1 else W k) (eS : ∀ k : Nat, S' k = if k = s then nI (cn W s - 1) else S k) (eR : ∀ k : Nat, R' k = if 31 * s + p ≤ k ∧ k < 31 * s + (cn W s - 1) then R (k + 1) else R k) : Li W' S' R' ∧ wn W' + 1 = wn W := by
  obtain ⟨l0, l1, l2, l3, l4⟩ := l
  have ht0 : t ≠ 0 := fun z => by rw [z, l0] at hw; exact nIm1 (by omega) hw
  have c1 : cn W' s + 1 = cn W s := by
    refine (cntF_set (t := t) (by omega) ?_ ?_ ?_).symm
    · rw [eW, if_pos rfl]; exact decide_eq_false (nIm1 (by omega))
    · exact decide_eq_true hw
    · intro k _ hk; rw [eW, if_neg hk]
  have c2 : ∀ s' : Nat, s' < 50 → s' ≠ s → cn W' s' = cn W s' := by
    intro s' h1 h2
    refine cntF_congr fun k hk => ?_
    rw [eW]
    by_cases c : k = t
    · rw [if_pos c, c, hw, decide_eq_false (nIm1 (by omega)), decide_eq_false (nI_ne hs h1 (fun z => h2 z.symm))]
    · rw [if_neg c]
  have cle : ∀ s' : Nat, s' < 50 → cn W s' ≤ 30 := fun s' h => cn_le l0 h
  have sm : ∀ s' k : Nat, s' < 50 → s' ≠ s → k < cn W s' → R' (31 * s' + k) = R (31 * s' + k) := by
    intro s' k h1 h2 h3
    have := cle s' h1
    have := cle s hs
    rw [eR, if_neg (by omega)]
  refine ⟨⟨?_, ?_, ?_, ?_, ?_⟩, ?_⟩
  · rw [eW, if_neg (fun z => ht0 z.symm)]; exact l0
  · intro s' h1
    rw [eS]
    by_cases c : s' = s
    · rw [if_pos c, c, ← c1]; rfl
    · rw [if_neg c, c2 s' h1 c]; exact l1 s' h1
  · intro s' k h1 h2
    by_cases c : s' = s
    · subst c
      by_cases d : k < p
      · obtain ⟨u, u1, u2, u3, u4⟩ := l2 s' k h1 (by omega)
        refine ⟨u, u1, u2, by rw [eR, if_neg (by omega)]; exact u3, ?_⟩
        rw [eW, if_neg ?_]; exact u4
        intro z
        have := l3 s' k p h1 (by omega) hp (by rw [u3, hat, z])
        omega
      · obtain ⟨u, u1, u2, u3, u4⟩ := l2 s' (k + 1) h1 (by omega)
        refine ⟨u, u1, u2, by rw [eR, if_pos (by omega)]; exact u3, ?_⟩
        rw [eW, if_neg ?_]; exact u4
        intro z
        have := l3 s' (k + 1) p h1 (by omega) hp (by rw [u3, hat, z])
        omega
    · rw [c2 s' h1 c] at h2
      obtain ⟨u, u1, u2, u3, u4⟩ := l2 s' k h1 h2
      refine ⟨u, u1, u2, by rw [sm s' k h1 c h2]; exact u3, ?_⟩
      rw [eW, if_neg ?_]; exact u4
      intro z
      rw [z, hw] at u4
      exact nI_ne hs h1 (fun z => c z.symm) u4
  · intro s' j k h1 h2 h3 h4
    by_cases c : s' = s
    · subst c
      rw [eR, eR] at h4
      by_cases dj : j < p <;> by_cases dk : k < p
      · rw [if_neg (by omega), if_neg (by omega)] at h4
        exact l3 s' j k h1 (by omega) (by omega) h4
      · rw [if_neg (by omega), if_pos (by omega)] at h4
        have := l3 s' j (k + 1) h1 (by omega) (by omega) h4
        omega
      · rw [if_pos (by omega), if_neg (by omega)] at h4
        have := l3 s' (j + 1) k h1 (by omega) (by omega) h4
        omega
      · rw [if_pos (by omega), if_pos (by omega)] at h4
        have := l3 s' (j + 1) (k + 1) h1 (by omega) (by omega) h4
        omega
    · rw [c2 s' h1 c] at h2 h3
      rw [sm s' j h1 c h2, sm s' k h1 c h3] at h4
      exact l3 s' j k h1 h2 h3 h4
  · intro u hu
    rw [eW]
    by_cases c : u = t
    · exact Or.inl (by rw [if_pos c])
    · rw [if_neg c]
      rcases l4 u hu with q | ⟨s', k, q1, q2, q3, q4⟩
      · exact Or.inl q
      · refine Or.inr ⟨s', ?_⟩
        by_cases d : s' = s
        · subst d
          have hkp : k ≠ p := fun z => by
            rw [z, hat] at q4
            exact c ((nI_eq (by omega) (by omega)).mp q4.symm)
          by_cases e : k < p
          · exact ⟨k, q1, q2, by omega, by rw [eR, if_neg (by omega)]; exact q4⟩
          · refine ⟨k - 1, q1, q2, by omega, ?_⟩
            rw [eR, if_pos (by omega)]
            have : 31 * s' + (k - 1) + 1 = 31 * s' + k := by omega
            rw [this]; exact q4
        · exact ⟨k, q1, q2, by rw [c2 s' q1 d]; exact q3, by rw [sm s' k q1 d q3]; exact q4⟩
  · refine (cntF_set (t := t) (by omega) ?_ ?_ ?_).symm
    · rw [eW, if_pos rfl]; rfl
    · rw [hw]; exact decide_eq_true (nI_nm1 (by omega))
    · intro k _ hk; rw [eW, if_neg hk]
theorem Li.enter {W S R W' S' R' : Nat → Int32} {t s p : Nat} (l : Li W S R) (ht1 : 1 ≤ t) (ht : t ≤ 30) (hs : s < 50) (hw : W t = -1) (hp : p ≤ cn W s)
    (eW : ∀ k : Nat, W' k = if k = t then nI s else W k) (eS : ∀ k : Nat, S' k = if k = s then nI (cn W s + 1) else S k) (eR : ∀ k : Nat, R' k = if k = 31 * s + p then nI t else if 31 * s + p < k ∧ k ≤ 31 * s + cn W s then R (k - 1) else R k) : Li W' S' R' ∧ wn W' = wn W + 1 := by
  obtain ⟨l0, l1, l2, l3, l4⟩ := l
  have c1 : cn W' s = cn W s + 1 := by
    refine cntF_set (t := t) (by omega) ?_ ?_ ?_
    · rw [hw]; exact decide_eq_false (nIm1 (by omega))
    · rw [eW, if_pos rfl]; exact decide_eq_true rfl
    · intro k _ hk; rw [eW, if_neg hk]
  have w0 : W' 0 = -1 := by rw [eW, if_neg (by omega)]; exact l0
  have c2 : ∀ s' : Nat, s' < 50 → s' ≠ s → cn W' s' = cn W s' := by
    intro s' h1 h2
    refine cntF_congr fun k hk => ?_
    rw [eW]
    by_cases c : k = t
    · rw [if_pos c, c, hw, decide_eq_false (nIm1 (by omega)), decide_eq_false (nI_ne hs h1 (fun z => h2 z.symm))]
    · rw [if_neg c]
  have cle : ∀ s' : Nat, s' < 50 → cn W' s' ≤ 30 := fun s' h => cn_le w0 h
  have sm : ∀ s' k : Nat, s' < 50 → s' ≠ s → k < cn W' s' → R' (31 * s' + k) = R (31 * s' + k) := by
    intro s' k h1 h2 h3
    have := cle s' h1
    have := cle s hs
    rw [eR, if_neg (by omega), if_neg (by omega)]
  have rp : R' (31 * s + p) = nI t := by rw [eR, if_pos rfl]
  have rl : ∀ k : Nat, k < p → R' (31 * s + k) = R (31 * s + k) := fun k hk => by rw [eR, if_neg (by omega), if_neg (by omega)]
  have rh : ∀ k : Nat, p ≤ k → k < cn W s → R' (31 * s + (k + 1)) = R (31 * s + k) := fun k h1 h2 => by
    rw [eR, if_neg (by omega), if_pos (by omega)]; rfl
  have nt : ∀ k : Nat, k < cn W s → ¬ R (31 * s + k) = nI t := fun k hk z => by
    obtain ⟨u, u1, u2, u3, u4⟩ := l2 s k hs hk
    rw [u3] at z
    rw [(nI_eq (by omega) (by omega)).mp z, hw] at u4
    exact nIm1 (by omega) u4
  refine ⟨⟨w0, ?_, ?_, ?_, ?_⟩, ?_⟩
  · intro s' h1
    rw [eS]
    by_cases c : s' = s
    · rw [if_pos c, c, c1]
    · rw [if_neg c, c2 s' h1 c]; exact l1 s' h1
  · intro s' k h1 h2
    by_cases c : s' = s
    · subst c
      have tow : ∀ j : Nat, j < cn W s' → R' (31 * s' + k) = R (31 * s' + j) → ∃ t_1 : Nat, 1 ≤ t_1 ∧ t_1 ≤ 30 ∧ R' (31 * s' + k) = nI t_1 ∧ W' t_1 = nI s' := fun j hj e => by
        obtain ⟨u, u1, u2, u3, u4⟩ := l2 s' j h1 hj
        refine ⟨u, u1, u2, by rw [e]; exact u3, ?_⟩
        rw [eW]
        by_cases d : u = t
        · rw [if_pos d]
        · rw [if_neg d]; exact u4
      rcases Nat.lt_trichotomy k p with d | d | d
      · exact tow k (by omega) (rl k d)
      · exact ⟨t, ht1, ht, by rw [d]; exact rp, by rw [eW, if_pos rfl]⟩
      · obtain ⟨k, rfl⟩ : ∃ j, k = j + 1 := ⟨k - 1, by omega⟩
        exact tow k (by omega) (rh k (by omega) (by omega))
    · have h2' := h2
      rw [c2 s' h1 c] at h2'
      obtain ⟨u, u1, u2, u3, u4⟩ := l2 s' k h1 h2'
      refine ⟨u, u1, u2, by rw [sm s' k h1 c h2]; exact u3, ?_⟩
      rw [eW, if_neg ?_]; exact u4
      intro z
      rw [z, hw] at u4
      exact nIm1 (by omega) u4
  · intro s' j k h1 h2 h3 h4
    by_cases c : s' = s
    · subst c
      have cl : ∀ i : Nat, i < cn W' s' → i = p ∨ ∃ m : Nat, m < cn W s' ∧ R' (31 * s' + i) = R (31 * s' + m) ∧ ((i < p ∧ m = i) ∨ (p < i ∧ i = m + 1)) := fun i hi => by
        rcases Nat.lt_trichotomy i p with d | d | d
        · exact Or.inr ⟨i, by omega, rl i d, Or.inl ⟨d, rfl⟩⟩
        · exact Or.inl d
        · exact Or.inr ⟨i - 1, by omega, by
            have := rh (i - 1) (by omega) (by omega)
            rw [show i - 1 + 1 = i by omega] at this; exact this, Or.inr ⟨d, by omega⟩⟩
      rcases cl j h2 with dj | ⟨mj, aj, bj, ej⟩ <;> rcases cl k h3 with dk | ⟨mk, ak, bk, ek⟩
      · omega
      · rw [dj, rp, bk] at h4
        exact absurd h4.symm (nt mk ak)
      · rw [dk, rp, bj] at h4
        exact absurd h4 (nt mj aj)
      · rw [bj, bk] at h4
        have := l3 s' mj mk h1 aj ak h4
        omega
    · rw [sm s' j h1 c h2, sm s' k h1 c h3] at h4
      rw [c2 s' h1 c] at h2 h3
      exact l3 s' j k h1 h2 h3 h4
  · intro u hu
    rw [eW]
    by_cases c : u = t
    · rw [if_pos c]
      exact Or.inr ⟨s, p, hs, rfl, by omega, by rw [c]; exact rp⟩
    · rw [if_neg c]
      rcases l4 u hu with q | ⟨s', k, q1, q2, q3, q4⟩
      · exact Or.inl q
      · refine Or.inr ⟨s', ?_⟩
        by_cases d : s' = s
        · subst d
          by_cases e : k < p
          · exact ⟨k, q1, q2, by omega, by rw [rl k e]; exact q4⟩
          · exact ⟨k + 1, q1, q2, by omega, by rw [rh k (by omega) q3]; exact q4⟩
        · have q3' := q3
          rw [← c2 s' q1 d] at q3'
          exact ⟨k, q1, q2, q3', by rw [sm s' k q1 d q3']; exact q4⟩
  · refine cntF_set (t := t) (by omega) ?_ ?_ ?_
    · rw [hw]; rfl
    · rw [eW, if_pos rfl]; exact decide_eq_true (nI_nm1 (by omega))
    · intro k _ hk; rw [eW, if_neg hk]
