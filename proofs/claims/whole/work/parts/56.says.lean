/-! SAYS: a text's worth, on a stack in a row of ints -/
def yStk (row : Nat → Int32) : List Int32 → Prop
  | [] => True
  | v :: s => row s.length = v ∧ yStk row s
theorem yStk_up {row row' : Nat → Int32} : ∀ {s : List Int32}, yStk row s → (∀ i, i < s.length → row' i = row i) → yStk row' s
  | [], _, _ => trivial
  | v :: s, h, hi => ⟨by rw [hi _ (by simp)]; exact h.1, yStk_up h.2 (fun i hl => hi i (by simp only [List.length_cons]; omega))⟩
theorem yDp1_len {nm : Nat → Int32} {c k : Nat} {s : List Int32} (h : yDp1 c s.length = some k) : (yEv1 nm c s).length = k := by
  unfold yDp1 at h
  unfold yEv1
  by_cases h1 : 100000 ≤ c
  · rw [if_pos h1] at h ⊢
    by_cases h2 : c < 110000
    · rw [if_pos h2] at h; simpa using h
    · rw [if_neg h2] at h; cases h
  · rw [if_neg h1] at h ⊢
    by_cases h2 : c < 6
    · rw [if_pos h2] at h ⊢; simpa using h
    · rw [if_neg h2] at h ⊢
      by_cases h3 : c = 13 ∨ c = 19
      · rw [if_pos h3] at h
        by_cases h4 : 1 ≤ s.length
        · rw [if_pos h4] at h
          rcases h3 with e | e
          · rw [if_pos e]; simp at h ⊢; omega
          · rw [if_neg (by omega), if_pos e]; simp at h ⊢; omega
        · rw [if_neg h4] at h; cases h
      · rw [if_neg h3] at h
        rw [if_neg (by omega), if_neg (by omega)]
        by_cases h4 : c = 11 ∨ c = 12 ∨ c = 14 ∨ c = 15 ∨ c = 16 ∨ c = 17 ∨ c = 18
        · rw [if_pos h4] at h
          by_cases h5 : 2 ≤ s.length
          · rw [if_pos h5] at h; simp at h ⊢; omega
          · rw [if_neg h5] at h; cases h
        · rw [if_neg h4] at h; cases h
