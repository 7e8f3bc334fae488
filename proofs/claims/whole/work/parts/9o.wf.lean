/-! WHAT IS READ can be done: the codes of a reading leave one more -/
def yxWf (n : Nat) (r : yxS3 → yxRs) : Prop := ∀ S, yxOk n S → match r S with
  | .inl _ => True
  | .inr (S', a) => yxOk n S' ∧ ∀ k, yDp a k = some (k + 1)
theorem yxCh_d {B : Nat → Int32} {n : Nat} {r : yxS3 → yxRs} {op : Nat × Nat → Option Nat} (hBb : ∀ k, k < n → ∃ c, c < 256 ∧ B k = Int32.ofNat c) (hr : yxWf n r) (hop : ∀ T c, op T = some c → ∀ k, yDp1 c (k + 2) = some (k + 1)) :
    ∀ (f : Nat) (S : yxS3) (a : List Nat), yxOk n S → (∀ k, yDp a k = some (k + 1)) → match yxCh B n r op f S a with
      | .inl _ => True
      | .inr (S', a') => yxOk n S' ∧ ∀ k, yDp a' k = some (k + 1) := by
  intro f
  induction f with
  | zero => exact fun S a h1 h2 => ⟨h1, h2⟩
  | succ f ih =>
    intro S a h1 h2
    unfold yxCh
    cases ho : op S.1 with
    | none => exact ⟨h1, h2⟩
    | some c =>
      have h := hr (yxAd B n S.2.2) (yxAd_ok (B := B) hBb h1.2.1).1
      cases hq : r (yxAd B n S.2.2) with
      | inl e => trivial
      | inr P =>
        obtain ⟨S', a'⟩ := P
        rw [hq] at h
        exact ih S' (a ++ a' ++ [c]) h.1 (fun k => by
          rw [yDp_app, yDp_app, h2 k]
          show ((yDp a' (k + 1)).bind _) = _
          rw [h.2 (k + 1)]
          show (yDp1 c (k + 2)).bind _ = _
          rw [hop _ _ ho k]
          rfl)
theorem yxBi_d {B : Nat → Int32} {n : Nat} {r : yxS3 → yxRs} {op : Nat × Nat → Option Nat} (hBb : ∀ k, k < n → ∃ c, c < 256 ∧ B k = Int32.ofNat c) (hr : yxWf n r) (hop : ∀ T c, op T = some c → ∀ k, yDp1 c (k + 2) = some (k + 1)) : yxWf n (yxBi B n r op) := by
  intro S h1
  have h := hr S h1
  unfold yxBi
  cases hq : r S with
  | inl e => trivial
  | inr P =>
    obtain ⟨S', a'⟩ := P
    rw [hq] at h
    exact yxCh_d hBb hr hop 160 S' a' h.1 h.2
theorem yDp_b {c : Nat} (h : c = 11 ∨ c = 12 ∨ c = 14 ∨ c = 15 ∨ c = 16 ∨ c = 17 ∨ c = 18) : ∀ k, yDp1 c (k + 2) = some (k + 1) := fun k => by
  unfold yDp1
  rw [if_neg (by omega), if_neg (by omega), if_neg (by omega), if_pos h, if_pos (by omega)]
  rfl
theorem yDp_u {c : Nat} (h : c = 13 ∨ c = 19) : ∀ k, yDp1 c (k + 1) = some (k + 1) := fun k => by
  unfold yDp1
  rw [if_neg (by omega), if_neg (by omega), if_pos h, if_pos (by omega)]
theorem yDp_s {a b : List Nat} {k j : Nat} (h : yDp a k = some j) : yDp (a ++ b) k = yDp b j := by
  rw [yDp_app, h]
  rfl
theorem yDp_1 {c k : Nat} : yDp [c] k = yDp1 c k := by
  show (yDp1 c k).bind _ = _
  cases yDp1 c k <;> rfl
theorem yxRd_d {B : Nat → Int32} {n : Nat} (hBb : ∀ k, k < n → ∃ c, c < 256 ∧ B k = Int32.ofNat c) : ∀ (g l o : Nat), yxWf n (yxRd B n g l o) := by
  intro g
  induction g with
  | zero => exact fun l o S _ => trivial
  | succ g ih =>
    intro l o S hk
    unfold yxRd
    by_cases l0 : l = 0
    · simp only [if_pos l0]
      have k1 := (yxAd_ok (B := B) hBb hk.2.1).1
      by_cases h2 : S.1.1 = 2
      · simp only [if_pos h2]
        refine ⟨k1, fun k => ?_⟩
        have := hk.2.2.2.2.1
        rw [yDp_1]
        unfold yDp1
        rw [if_pos (by omega), if_pos (by omega)]
      · simp only [if_neg h2]
        by_cases h7 : S.1.1 = 7
        · simp only [if_pos h7]
          refine ⟨k1, fun k => ?_⟩
          have := hk.2.2.2.2.2.2.1 h7
          rw [yDp_1]
          unfold yDp1
          rw [if_neg (by omega), if_pos this]
        · simp only [if_neg h7]
          unfold yxUn
          by_cases h45 : S.1 = (8, 45)
          · simp only [if_pos h45]
            by_cases ho : 5 ≤ o
            · simp only [if_pos ho]
            · simp only [if_neg ho]
              have h := ih 0 (o + 1) (yxAd B n S.2.2) k1
              cases hq : yxRd B n g 0 (o + 1) (yxAd B n S.2.2) with
              | inl e => trivial
              | inr P =>
                obtain ⟨S', a'⟩ := P
                rw [hq] at h
                exact ⟨h.1, fun k => by rw [yDp_s (h.2 k), yDp_1]; exact yDp_u (by omega) k⟩
          · simp only [if_neg h45]
            by_cases h40 : S.1 = (8, 40)
            · simp only [if_pos h40]
              by_cases ho : 5 ≤ o
              · simp only [if_pos ho]
              · simp only [if_neg ho]
                have h := ih 5 (o + 1) (yxAd B n S.2.2) k1
                cases hq : yxRd B n g 5 (o + 1) (yxAd B n S.2.2) with
                | inl e => trivial
                | inr P =>
                  obtain ⟨S', a'⟩ := P
                  rw [hq] at h
                  simp only
                  by_cases h41 : S'.1 = (8, 41)
                  · simp only [if_pos h41, List.append_nil]
                    exact ⟨(yxAd_ok (B := B) hBb h.1.2.1).1, h.2⟩
                  · simp only [if_neg h41]
            · simp only [if_neg h40]
    · simp only [if_neg l0]
      by_cases l1 : l = 1
      · simp only [if_pos l1]
        exact yxBi_d hBb (ih 0 o) (fun T c h => yDp_b (by have := (yxOT_s h).2; omega)) S hk
      · simp only [if_neg l1]
        by_cases l2 : l = 2
        · simp only [if_pos l2]
          exact yxBi_d hBb (ih 1 o) (fun T c h => yDp_b (by rcases yxOS_s h with ⟨_, e⟩ | ⟨_, e⟩ <;> omega)) S hk
        · simp only [if_neg l2]
          by_cases l3 : l = 3
          · simp only [if_pos l3]
            have k1 := (yxAd_ok (B := B) hBb hk.2.1).1
            by_cases h6 : S.1.1 = 6
            · simp only [if_pos h6]
              unfold yxUn
              by_cases ho : 5 ≤ o
              · simp only [if_pos ho]
              · simp only [if_neg ho]
                have h := ih 3 (o + 1) (yxAd B n S.2.2) k1
                cases hq : yxRd B n g 3 (o + 1) (yxAd B n S.2.2) with
                | inl e => trivial
                | inr P =>
                  obtain ⟨S', a'⟩ := P
                  rw [hq] at h
                  exact ⟨h.1, fun k => by rw [yDp_s (h.2 k), yDp_1]; exact yDp_u (by omega) k⟩
            · simp only [if_neg h6]
              have h := ih 2 o S hk
              cases hq : yxRd B n g 2 o S with
              | inl e => trivial
              | inr P =>
                obtain ⟨S', a'⟩ := P
                rw [hq] at h
                simp only
                cases hc : yxOC S'.1 with
                | none => exact h
                | some c =>
                  have h2 := ih 2 o (yxAd B n S'.2.2) (yxAd_ok (B := B) hBb h.1.2.1).1
                  simp only
                  cases hq2 : yxRd B n g 2 o (yxAd B n S'.2.2) with
                  | inl e => trivial
                  | inr P2 =>
                    obtain ⟨S'', a''⟩ := P2
                    rw [hq2] at h2
                    exact ⟨h2.1, fun k => by rw [List.append_assoc, yDp_s (h.2 k), yDp_s (h2.2 (k + 1)), yDp_1]; exact yDp_b (by rcases yxOC_s hc with ⟨_, e⟩ | ⟨_, e⟩ <;> omega) k⟩
          · simp only [if_neg l3]
            by_cases l4 : l = 4
            · simp only [if_pos l4]
              exact yxBi_d hBb (ih 3 o) (fun T c h => yDp_b (by have := (yxOA_s h).2; omega)) S hk
            · simp only [if_neg l4]
              exact yxBi_d hBb (ih 4 o) (fun T c h => yDp_b (by have := (yxOO_s h).2; omega)) S hk
/-- a part, from where its word may begin -/
def yxPa (B : Nat → Int32) (n k p : Nat) : Sum Nat (Nat × List Nat) := if (yxAd B n p).1 = (3, k) then yxEr B n (yxAd B n (yxAd B n p).2.2) else .inl (yxAd B n p).2.1
theorem yxPa_d {B : Nat → Int32} {n k p p' : Nat} {a : List Nat} (hBb : ∀ k, k < n → ∃ c, c < 256 ∧ B k = Int32.ofNat c) (hp : p ≤ n) (h : yxPa B n k p = .inr (p', a)) : p' ≤ n ∧ yDp a 0 = some 1 := by
  unfold yxPa at h
  by_cases e : (yxAd B n p).1 = (3, k)
  · rw [if_pos e] at h
    have h1 := (yxAd_ok (B := B) hBb hp).1
    have h2 := (yxAd_ok (B := B) hBb h1.2.1).1
    have h3 := yxRd_d hBb 36 5 0 _ h2
    unfold yxEr at h
    cases hq : yxRd B n 36 5 0 (yxAd B n (yxAd B n p).2.2) with
    | inl e =>
      rw [hq] at h
      cases h
    | inr P =>
      obtain ⟨S', a'⟩ := P
      rw [hq] at h h3
      by_cases e2 : S'.1 = (8, 59)
      · simp only [if_pos e2] at h
        injection h with h
        injection h with h4 h5
        subst h4
        subst h5
        exact ⟨h3.1.2.1, h3.2 0⟩
      · simp only [if_neg e2] at h
        cases h
  · rw [if_neg e] at h
    cases h
/-- a text: the place of its fault, or its parts -/
def yxTt (B : Nat → Int32) (n : Nat) : Sum Nat (List Nat × List Nat × List Nat) := match yxPa B n 0 0 with
  | .inl e => .inl e
  | .inr (p1, a0) => match yxPa B n 1 p1 with
    | .inl e => .inl e
    | .inr (p2, a1) => match yxPa B n 2 p2 with
      | .inl e => .inl e
      | .inr (p3, a2) => if (yxAd B n p3).1.1 = 0 then .inr (a0, a1, a2) else .inl (yxAd B n p3).2.1
