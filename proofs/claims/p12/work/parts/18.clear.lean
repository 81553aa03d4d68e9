/-! PURE: a new list, clear, remove -/
theorem Ls.init {g : Gm} {h : Hp} {a : Nat} {post : Hp → Prop} (h1 : hK h a = 6) (h2 : hI h a 1 = 0) (hp : ∀ h' : Hp, Ls g h' a (g.2.2 1) 0 [] → Fr (fun b => b = a) h h' → post h') : wp_A_init g post h a := by
  unfold wp_A_init wp_B_init wp_C_init
  refine ⟨h1, fun h4 e4 => ⟨by rw [e4, kK_sI]; exact h1, fun h5 e5 => hp h5 ⟨?_, ?_, ?_, Nat.le_refl _, by omega, Or.inl ⟨rfl, rfl⟩⟩ ?_⟩⟩
  · rw [e5, kK_sR, e4, kK_sI]; exact h1
  · rw [e5, kI_sR, e4, rI_sI, if_neg (by omega)]; exact h2
  · rw [e5, rR_sR, if_pos ⟨rfl, rfl⟩]
  · rw [e5, e4]; exact (Fr.sI (S := fun b => b = a) rfl).trans (Fr.sR rfl)
theorem clear_loop {g : Gm} {post : Hp → Prop} {e cap len : Nat} (hlc : len ≤ cap) (hcap : cap ≤ 1000) : ∀ (n i : Nat) (hh : Hp), i + n = len → (0 < len → hK hh e = 24 ∧ hN hh e = cap) → (∀ h' : Hp, Fr (fun b => b = e) hh h' → post h') → wp_A_clear_27 g post (n + 1) hh e (nI len) (nI i) := by
  intro n
  induction n with
  | zero =>
    intro i hh hi _ hp
    unfold wp_A_clear_27
    exact ⟨fun _ => hp hh Fr.rfl', fun z => absurd (nI_le (by omega) (by omega)) z⟩
  | succ n ih =>
    intro i hh hi hk hp
    unfold wp_A_clear_27
    refine ⟨fun z => absurd z (nI_ge (by omega) (by omega)), fun _ => ?_⟩
    obtain ⟨k1, k2⟩ := hk (by omega)
    refine ⟨k1, by rw [k2]; exact vp_in_nI (by omega) (by omega), fun h3 e3 x4 ex4 => ?_⟩
    rw [nI_1] at ex4
    subst ex4
    exact ih (i + 1) h3 (by omega) (fun _ => ⟨by rw [e3]; exact k1, by rw [e3]; exact k2⟩) fun h' hf => hp h' ((by rw [e3]; exact Fr.sR rfl : Fr (fun b => b = e) hh h3).trans hf)
theorem Ls.clear {g : Gm} {h : Hp} {a e cap : Nat} {xs : List Nat} {post : Hp → Prop} (hne : a ≠ g.2.2 1) (hl : Ls g h a e cap xs) (hp : ∀ h' : Hp, Ls g h' a e cap [] → Fr (fun b => b = a ∨ b = e) h h' → post h') : wp_A_clear g post h a := by
  obtain ⟨h1, h2, h3, h4, h5, h6⟩ := hl
  unfold wp_A_clear
  refine ⟨h1, fun x2 _ => ⟨h1, fun h4' e4 => ?_⟩⟩
  have k1 : hK h4' a = 6 := by rw [e4]; exact h1
  have k2 : hI h4' a 1 = nI xs.length := by rw [e4, rI_sI, if_neg (by omega)]; exact h2
  have k3 : hR h4' = hR h := by rw [e4]; rfl
  refine ⟨k1, e, by rw [k3]; exact h3, k1, k1, fun h9 e9 => ⟨xs.length + 1, ?_⟩⟩
  rw [k2]
  have kk : hK h9 = hK h := by rw [e9, kK_sI, e4]; rfl
  have kn : hN h9 = hN h := by rw [e9, kN_sI, e4]; rfl
  refine clear_loop (cap := cap) h4 h5 xs.length 0 h9 (by omega) (fun hlen => ?_) fun h' hf => ?_
  · rcases h6 with ⟨-, z⟩ | ⟨z1, z2, z3, z4, z5⟩
    · omega
    · exact ⟨by rw [kk]; exact z2, by rw [kn]; exact z3⟩
  · have hf9 : Fr (fun b => b = a ∨ b = e) h h9 := by rw [e9, e4]; exact (Fr.sI (Or.inl rfl)).trans (Fr.sI (Or.inl rfl))
    have hfa := hf a (by rw [kk, h1]; decide)
    have hfall := hf9.trans (hf.mono fun b z => Or.inr z)
    by_cases q : a = e
    · exfalso
      rcases h6 with ⟨z, zc⟩ | ⟨z1, z2, -⟩
      · exact hne (q.trans z)
      · rw [q, z2] at h1; exact absurd h1 (by decide)
    · obtain ⟨f1, f2, f3⟩ := hfa
      obtain ⟨f4, f5, f6⟩ := f3 q
      refine hp h' ⟨f1.trans (by rw [kk]; exact h1), ?_, ?_, Nat.zero_le _, h5, ?_⟩ hfall
      · rw [f4, e9, rI_sI, if_pos ⟨rfl, rfl⟩]; rfl
      · rw [f6, e9, kR_sI, k3]; exact h3
      · rcases h6 with z | ⟨z1, z2, z3, z4, z5⟩
        · exact Or.inl z
        · have hfe := hf e (by rw [kk, z2]; decide)
          exact Or.inr ⟨z1, hfe.1.trans (by rw [kk]; exact z2), hfe.2.1.trans (by rw [kn]; exact z3), z4, fun i hi => absurd hi (Nat.not_lt_zero _)⟩
