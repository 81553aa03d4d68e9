/-! PURE: the reference's isFree, insert -/
def bI (b : Bool) : Int32 := if b = true then 1 else 0
theorem bI_zB (b : Bool) : zB (bI b) := by
  cases b
  · exact Or.inl rfl
  · exact Or.inr rfl
/-- task u lets task t have segment s at w -/
def mLets (h : Hp) (A : Nat → Nat) (t s : Nat) (w : Int32) (u : Nat) : Bool := decide (u = t ∨ hI h (A 9) (50 * u + s) = -1 ∨ ¬ 2 ≤ hI h (A 9) (50 * u + s) + w)
def mFree (h : Hp) (A : Nat → Nat) (t s : Nat) (w : Int32) : Nat → Bool
  | 0 => true
  | k + 1 => mFree h A t s w k && mLets h A t s w (k + 1)
theorem M_isFree {g : Gm} {h : Hp} {a n t s : Nat} {w : Int32} {A : Nat → Nat} {post : Int32 → Prop} (m : Mst h a A) (hn : hI h a 2 = nI n) (hn2 : n ≤ 30) (ht : t ≤ 30) (hs : s < 50) (hp : post (bI (mFree h A t s w n))) : wp_M_isFree g post h a (nI t) (nI s) w := by
  obtain ⟨r1, r2, r3⟩ := m.row 9 21 1550 (by decide)
  have loop : ∀ d u : Nat, u + d = n → wp_M_isFree_6 g post (d + 1) h a (nI t) (nI s) w (bI (mFree h A t s w u)) (nI (u + 1)) := by
    intro d
    induction d with
    | zero =>
      intro u hu
      have hu : u = n := by omega
      subst hu
      unfold wp_M_isFree_6
      rw [hn]
      exact ⟨m.1, fun _ => ⟨bI_zB _, hp⟩, fun c => absurd (nI_lt (by omega) (by omega)) c⟩
    | succ d ih =>
      intro u hu
      have nx := ih (u + 1) (by omega)
      have no : (mFree h A t s w u && mLets h A t s w (u + 1)) = false → wp_M_isFree_63 g post (fun h v0 v1 v2 v3 v4 v5 => wp_M_isFree_6 g post (d + 1) h v0 v1 v2 v3 v4 v5) h a (nI t) (nI s) w (nI (u + 1)) := fun q => by
        unfold wp_M_isFree_63 wp_M_isFree_64
        intro x1 e1
        rw [nI_1] at e1
        subst e1
        have e : bI (mFree h A t s w (u + 1)) = 0 := by
          show bI (mFree h A t s w u && mLets h A t s w (u + 1)) = 0
          rw [q]; rfl
        rw [e] at nx
        exact nx
      have yes : (mFree h A t s w u && mLets h A t s w (u + 1)) = true → wp_M_isFree_59 g post (fun h v0 v1 v2 v3 v4 v5 => wp_M_isFree_6 g post (d + 1) h v0 v1 v2 v3 v4 v5) h a (nI t) (nI s) w (nI (u + 1)) := fun q => by
        unfold wp_M_isFree_59 wp_M_isFree_64
        intro x1 e1
        rw [nI_1] at e1
        subst e1
        have e : bI (mFree h A t s w (u + 1)) = 1 := by
          show bI (mFree h A t s w u && mLets h A t s w (u + 1)) = 1
          rw [q]; rfl
        rw [e] at nx
        exact nx
      unfold wp_M_isFree_6
      rw [hn]
      refine ⟨m.1, fun c => absurd c (nI_nlt (by omega) (by omega)), fun _ => ⟨fun c => no ?_, fun c => ?_⟩⟩
      · cases q : mFree h A t s w u
        · rfl
        · rw [q] at c; exact absurd c (by decide)
      · have q : mFree h A t s w u = true := by
          cases q : mFree h A t s w u
          · rw [q] at c; exact absurd rfl c
          · rfl
        rw [q, Bool.true_and] at no yes
        refine ⟨fun c1 => yes ?_, fun c1 => ⟨m.1, A 9, r1, M_of ⟨r2, by rw [r3]; exact vp_in_nI (by omega) (by omega), fun c2 => yes ?_, fun c2 => ⟨m.1, A 9, r1, M_of ⟨r2, by rw [r3]; exact vp_in_nI (by omega) (by omega), ?_⟩⟩⟩⟩⟩
        · exact decide_eq_true (Or.inl ((nI_eq (by omega) (by omega)).mp c1))
        · rw [nI_clamp (by omega)] at c2
          exact decide_eq_true (Or.inr (Or.inl c2))
        · rw [nI_clamp (by omega)] at c2 ⊢
          refine M_areTogether (fun c3 => ⟨fun _ => no ?_, fun z => absurd rfl z⟩) (fun c3 => ⟨fun z => absurd z (by decide), fun _ => yes ?_⟩)
          · refine decide_eq_false fun z => ?_
            rcases z with z | z | z
            · exact c1 (by rw [z])
            · exact c2 z
            · exact z c3
          · exact decide_eq_true (Or.inr (Or.inr c3))
  unfold wp_M_isFree
  exact ⟨n + 1, loop n 0 (by omega)⟩
