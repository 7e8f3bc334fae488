/-! THE MODEL READS as the rules say: not, one, all -/
theorem yxMr_f {B : Nat → Int32} {n f : Nat} {S : yxS3} {H out : List Nat} {W N : Bool} (h : yxOk n S) (hf : n < f + S.2.1) : ∃ f', f = f' + 1 := by
  have h1 := h.1
  have h2 := h.2.1
  exact ⟨f - 1, by omega⟩
theorem yxSm_3 {B : Nat → Int32} {n o : Nat} {r2 : yxS3 → yxRs} {r3 : Nat → yxS3 → yxRs} (hBb : ∀ k, k < n → ∃ c, c < 256 ∧ B k = Int32.ofNat c) (hs2 : yxSm B n 2 o r2) (hs3 : o < 5 → yxSm B n 3 (o + 1) (r3 (o + 1))) :
    yxSm B n 3 o (fun S => if S.1.1 = 6 then yxUn S o [13] (fun o' => r3 o' (yxAd B n S.2.2))
      else match r2 S with
        | .inl e => .inl e
        | .inr (S', a) => match yxOC S'.1 with
          | none => .inr (S', a)
          | some c => match r2 (yxAd B n S'.2.2) with
            | .inl e => .inl e
            | .inr (S'', a') => .inr (S'', a ++ a' ++ [c])) := by
  intro S H out N f hk hf hT hNC hC
  have hN : N = true := hNC.2 (by decide)
  by_cases h6 : S.1.1 = 6
  · simp only [if_pos h6]
    have hlt := hk.2.2.1 (by omega)
    match f, hf with
    | 0, hf => exact absurd hf (by have := hk.1; have := hk.2.1; omega)
    | f + 1, hf =>
      obtain ⟨k1, k2⟩ := yxAd_ok (B := B) hBb hk.2.1
      have st : yxMr B n (f + 1) S H true N out = if 5 ≤ o then .inl S.2.1 else yxMr B n f (yxAd B n S.2.2) (13 :: H) true N out := by
        rw [yxMr_w, if_neg (by omega), if_neg (by omega), if_pos ⟨h6, hN⟩, hC]
      unfold yxUn
      by_cases ho : 5 ≤ o
      · simp only [if_pos ho]
        rw [st, if_pos ho]
      · simp only [if_neg ho]
        rw [if_neg ho] at st
        rw [st]
        have hq := hs3 (by omega) (yxAd B n S.2.2) (13 :: H) out N f k1 (by omega) (yxTp_c (by decide)) (by rw [hN]; exact yxNC_t (by decide) _) (by show 1 + yxCt H = _; omega)
        cases hr : r3 (o + 1) (yxAd B n S.2.2) with
        | inl e =>
          rw [hr] at hq
          exact hq
        | inr Q =>
          obtain ⟨S', a⟩ := Q
          rw [hr] at hq
          obtain ⟨b1, b2, f2, N2, P2, out2, b3, b4, b5, b6, b7⟩ := hq
          have eP : (P2 ++ [13]) ++ H = P2 ++ 13 :: H := by rw [List.append_assoc]; rfl
          refine ⟨b1, by omega, f2, N2, P2 ++ [13], out2, b3, by rw [eP]; exact b4, by rw [← List.append_assoc, b5, List.append_assoc], fun x hx => ?_, by rw [eP]; exact b7⟩
          rcases List.mem_append.mp hx with hx | hx
          · exact b6 x hx
          · rw [List.mem_singleton.mp hx]
            decide
  · simp only [if_neg h6]
    have hq := hs2 S H out N f hk hf (yxTp_m hT (by decide)) ⟨fun _ _ => h6, fun h => absurd h (by decide)⟩ hC
    cases hr : r2 S with
    | inl e =>
      rw [hr] at hq
      exact hq
    | inr Q =>
      obtain ⟨S', a⟩ := Q
      rw [hr] at hq
      obtain ⟨b1, b2, f2, N2, P2, out2, b3, b4, b5, b6, b7⟩ := hq
      simp only
      cases hc : yxOC S'.1 with
      | none => exact ⟨b1, b2, f2, N2, P2, out2, b3, b4, b5, fun x hx => Nat.le_trans (by decide) (b6 x hx), (show yxFo 3 S'.1 (P2 ++ H) from ⟨fun _ => b7.1 (by decide), fun _ => b7.2.1 (by decide), fun _ c h => (by rw [hc] at h; cases h), fun h => absurd h (by decide), fun h => absurd h (by decide)⟩)⟩
      | some c =>
        have hcc : yxSg S'.1 = some c ∧ yxRk c = 4 ∧ ¬ (c = 0 ∨ c = 13 ∨ c = 19) ∧ decide (c ≤ 12) = false ∧ S'.1 ≠ (8, 59) ∧ S'.1 ≠ (8, 41) ∧ S'.1.1 ≠ 0 := by
          rcases yxOC_s hc with ⟨e1, e2⟩ | ⟨e1, e2⟩
          · rw [e1, e2]; decide
          · rw [e1, e2]; decide
        obtain ⟨p1, p2, p3, p4, p5, p6, p7⟩ := hcc
        have hlt := b1.2.2.1 p7
        match f2, b3, b4 with
        | 0, b3, _ => exact absurd b3 (by have := b1.1; have := b1.2.1; omega)
        | f2 + 1, b3, b4 =>
          obtain ⟨k1, k2⟩ := yxAd_ok (B := B) hBb b1.2.1
          have h40 : ¬ yxRk (H.headD 0) = 4 := by
            cases H with
            | nil => decide
            | cons x t =>
              have := hT x t rfl
              have h4 : yxHb 3 = 4 := rfl
              show ¬ yxRk x = 4
              omega
          have st := yxMr_s (B := B) (n := n) (f := f2) (P := P2) (H := H) (out := out2) (N := N2) p1 p5 p6 5 (by rw [p2]; rfl) b6 (yxTp_m hT (by decide)) (fun hh => h40 hh.2)
          rw [p4] at st
          have hq2 := hs2 (yxAd B n S'.2.2) (c :: H) (out2 ++ P2) false f2 k1 (by omega) (yxTp_c (by rw [p2]; decide)) (yxNC_f (by decide) _) (by rw [yxCt_n p3]; exact hC)
          simp only
          cases hr2 : r2 (yxAd B n S'.2.2) with
          | inl e =>
            rw [hr2] at hq2
            exact b4.trans (st.trans hq2)
          | inr Q2 =>
            obtain ⟨S'', a'⟩ := Q2
            rw [hr2] at hq2
            obtain ⟨i1, i2, f3, N3, P3, out3, i3, i4, i5, i6, i7⟩ := hq2
            have eP : (P3 ++ [c]) ++ H = P3 ++ c :: H := by rw [List.append_assoc]; rfl
            refine ⟨i1, by omega, f3, N3, P3 ++ [c], out3, i3, by rw [eP]; exact b4.trans (st.trans i4), by rw [← List.append_assoc, i5, b5]; simp only [List.append_assoc], fun x hx => ?_, ?_⟩
            · rcases List.mem_append.mp hx with hx | hx
              · exact Nat.le_trans (by decide) (i6 x hx)
              · rw [List.mem_singleton.mp hx, p2]
                decide
            · rw [eP]
              exact ⟨fun _ => i7.1 (by decide), fun _ => i7.2.1 (by decide), fun _ _ _ => ⟨P3, c, H, rfl, i6, p2⟩, fun h => absurd h (by decide), fun h => absurd h (by decide)⟩
theorem yxSm_0 {B : Nat → Int32} {n o : Nat} {r0 r5 : Nat → yxS3 → yxRs} (hBb : ∀ k, k < n → ∃ c, c < 256 ∧ B k = Int32.ofNat c) (hs0 : o < 5 → yxSm0 B n (o + 1) (r0 (o + 1))) (hs5 : o < 5 → yxSm B n 5 (o + 1) (r5 (o + 1))) :
    yxSm0 B n o (fun S => if S.1.1 = 2 then .inr (yxAd B n S.2.2, [100000 + S.1.2])
      else if S.1.1 = 7 then .inr (yxAd B n S.2.2, [S.1.2])
      else if S.1 = (8, 45) then yxUn S o [19] (fun o' => r0 o' (yxAd B n S.2.2))
      else if S.1 = (8, 40) then yxUn S o [] (fun o' => match r5 o' (yxAd B n S.2.2) with
        | .inl e => .inl e
        | .inr (S', a) => if S'.1 = (8, 41) then .inr (yxAd B n S'.2.2, a) else .inl S'.2.1)
      else .inl S.2.1) := by
  intro S H out N f hk hf hNC hC
  match f, hf with
  | 0, hf => exact absurd hf (by have := hk.1; have := hk.2.1; omega)
  | f + 1, hf =>
    obtain ⟨k1, k2⟩ := yxAd_ok (B := B) hBb hk.2.1
    rw [yxMr_w, hC]
    by_cases h2 : S.1.1 = 2
    · simp only [if_pos h2]
      have hlt := hk.2.2.1 (by omega)
      exact ⟨k1, by omega, f, N, by omega, rfl⟩
    · simp only [if_neg h2]
      by_cases h7 : S.1.1 = 7
      · simp only [if_pos h7]
        have hlt := hk.2.2.1 (by omega)
        exact ⟨k1, by omega, f, N, by omega, rfl⟩
      · simp only [if_neg h7]
        have h6 : ¬ (S.1.1 = 6 ∧ N = true) := fun h => hNC.1 (by decide) h.2 h.1
        simp only [if_neg h6]
        by_cases h45 : S.1 = (8, 45)
        · simp only [if_pos h45]
          have hlt := hk.2.2.1 (by rw [h45]; exact (show (8 : Nat) ≠ 0 by decide))
          unfold yxUn
          by_cases ho : 5 ≤ o
          · simp only [if_pos ho]
          · simp only [if_neg ho]
            have hq := hs0 (by omega) (yxAd B n S.2.2) (19 :: H) out false f k1 (by omega) (yxNC_f (by decide) _) (by show 1 + yxCt H = _; omega)
            cases hr : r0 (o + 1) (yxAd B n S.2.2) with
            | inl e =>
              rw [hr] at hq
              exact hq
            | inr Q =>
              obtain ⟨S', a⟩ := Q
              rw [hr] at hq
              obtain ⟨b1, b2, f2, N2, b3, b4⟩ := hq
              refine ⟨b1, by omega, f2, N2, b3, ?_⟩
              rw [b4]
              have : yxUw 7 (19 :: H) (out ++ a) = yxUw 7 H (out ++ (a ++ [19])) := by
                rw [← List.append_assoc]
                rfl
              rw [this]
        · simp only [if_neg h45]
          by_cases h40 : S.1 = (8, 40)
          · simp only [if_pos h40]
            have hlt := hk.2.2.1 (by rw [h40]; exact (show (8 : Nat) ≠ 0 by decide))
            unfold yxUn
            by_cases ho : 5 ≤ o
            · simp only [if_pos ho]
            · simp only [if_neg ho]
              have hq := hs5 (by omega) (yxAd B n S.2.2) (0 :: H) out true f k1 (by omega) (yxTp_c (by decide)) (yxNC_t (by decide) _) (by show 1 + yxCt H = _; omega)
              cases hr : r5 (o + 1) (yxAd B n S.2.2) with
              | inl e =>
                rw [hr] at hq
                exact hq
              | inr Q =>
                obtain ⟨S', a⟩ := Q
                rw [hr] at hq
                obtain ⟨b1, b2, f2, N2, P2, out2, b3, b4, b5, b6, b7⟩ := hq
                have u1 := yxUw_p (l := 1) (H := 0 :: H) (P := P2) (out := out2) b6 (yxTp_c (by decide))
                match f2, b3, b4 with
                | 0, b3, _ => exact absurd b3 (by have := b1.1; have := b1.2.1; omega)
                | f2 + 1, b3, b4 =>
                  by_cases h41 : S'.1 = (8, 41)
                  · simp only [if_pos h41, List.append_nil]
                    have hlt' := b1.2.2.1 (by rw [h41]; exact (show (8 : Nat) ≠ 0 by decide))
                    obtain ⟨w1, w2⟩ := yxAd_ok (B := B) hBb b1.2.1
                    refine ⟨w1, by omega, f2, N2, by omega, ?_⟩
                    rw [b4, yxMr_v, if_neg (by rw [h41]; decide), if_pos h41, u1, b5]
                  · simp only [if_neg h41]
                    rw [b4]
                    by_cases h59 : S'.1 = (8, 59)
                    · rw [yxMr_v, if_pos h59, u1]
                      rfl
                    · exact yxMr_bad h59 h41 b7
          · simp only [if_neg h40]
theorem yxSm_all {B : Nat → Int32} {n : Nat} (hn : n ≤ 160) (hBb : ∀ k, k < n → ∃ c, c < 256 ∧ B k = Int32.ofNat c) :
    ∀ (g l o : Nat), l ≤ 5 → o ≤ 5 → l + 1 + 6 * (5 - o) ≤ g → (l = 0 → yxSm0 B n o (yxRd B n g 0 o)) ∧ yxSm B n l o (yxRd B n g l o) := by
  intro g
  induction g with
  | zero => exact fun l o _ _ h => absurd h (by omega)
  | succ g ih =>
    intro l o hl ho hg
    match l, hl with
    | 0, _ =>
      have h0 : yxSm0 B n o (yxRd B n (g + 1) 0 o) := yxSm_0 (r0 := yxRd B n g 0) (r5 := yxRd B n g 5) hBb (fun h => (ih 0 (o + 1) (by omega) (by omega) (by omega)).1 rfl) (fun h => (ih 5 (o + 1) (by omega) (by omega) (by omega)).2)
      exact ⟨fun _ => h0, h0.m⟩
    | 1, _ => exact ⟨fun h => absurd h (by decide), yxSm_1 hn hBb (ih 0 o (by omega) ho (by omega)).2⟩
    | 2, _ => exact ⟨fun h => absurd h (by decide), yxSm_2 hn hBb (ih 1 o (by omega) ho (by omega)).2⟩
    | 3, _ => exact ⟨fun h => absurd h (by decide), yxSm_3 (r2 := yxRd B n g 2 o) (r3 := yxRd B n g 3) hBb (ih 2 o (by omega) ho (by omega)).2 (fun h => (ih 3 (o + 1) (by omega) (by omega) (by omega)).2)⟩
    | 4, _ => exact ⟨fun h => absurd h (by decide), yxSm_4 hn hBb (ih 3 o (by omega) ho (by omega)).2⟩
    | 5, _ => exact ⟨fun h => absurd h (by decide), yxSm_5 hn hBb (ih 4 o (by omega) ho (by omega)).2⟩
/-- an E and its ; : the place of its fault, or where the next begins and its codes -/
def yxEr (B : Nat → Int32) (n : Nat) (S : yxS3) : Sum Nat (Nat × List Nat) := match yxRd B n 36 5 0 S with
  | .inl e => .inl e
  | .inr (S', a) => if S'.1 = (8, 59) then .inr (S'.2.2, a) else .inl S'.2.1
theorem yxMr_E {B : Nat → Int32} {n f : Nat} {S : yxS3} {out : List Nat} (hn : n ≤ 160) (hBb : ∀ k, k < n → ∃ c, c < 256 ∧ B k = Int32.ofNat c) (hk : yxOk n S) (hf : n < f + S.2.1) :
    yxMr B n f S [] true true out = match yxEr B n S with
      | .inl e => .inl e
      | .inr (p, a) => .inr (p, out ++ a) := by
  have hq := (yxSm_all hn hBb 36 5 0 (by decide) (by decide) (by decide)).2 S [] out true f hk hf yxTp_0 (yxNC_t (by decide) _) rfl
  unfold yxEr
  cases hr : yxRd B n 36 5 0 S with
  | inl e =>
    rw [hr] at hq
    exact hq
  | inr Q =>
    obtain ⟨S', a⟩ := Q
    rw [hr] at hq
    obtain ⟨b1, b2, f2, N2, P2, out2, b3, b4, b5, b6, b7⟩ := hq
    have u1 := yxUw_p (l := 1) (H := []) (P := P2) (out := out2) b6 yxTp_0
    match f2, b3, b4 with
    | 0, b3, _ => exact absurd b3 (by have := b1.1; have := b1.2.1; omega)
    | f2 + 1, b3, b4 =>
      rw [b4]
      by_cases h59 : S'.1 = (8, 59)
      · simp only [if_pos h59]
        rw [yxMr_v, if_pos h59, u1, if_pos rfl, b5]
      · simp only [if_neg h59]
        by_cases h41 : S'.1 = (8, 41)
        · rw [yxMr_v, if_neg h59, if_pos h41, u1]
        · exact yxMr_bad h59 h41 b7
