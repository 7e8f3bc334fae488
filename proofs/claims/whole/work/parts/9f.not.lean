/-! THE CLASS READS: not, compare -/
theorem yxKp_9 {im : zI} {v : Int32} : yxKp im (up2 im 17 9 v) := fun k j e1 e2 => by
  by_cases e : k = 17
  · subst e
    have : j = 1 := Decidable.of_not_not fun hh => e2 ⟨rfl, hh⟩
    exact up_j (by omega)
  · exact up_k e
theorem yxFs_9 {im : zI} {f : Nat} {v : Int32} (h : yxFs im f) : yxFs (up2 im 17 9 v) f := by
  obtain ⟨h1, h2, c, hc, h3⟩ := h
  exact ⟨by rw [up_j (by decide)]; exact h1, by rw [up_j (by decide)]; exact h2, c, hc, by rw [up_j (by decide)]; exact h3⟩
/-- one less is open -/
theorem yxCs_9 {B : Nat → Int32} {n o : Nat} {im : zI} {S : yxS3} {cs : List Nat} (h : yxCs B n im S (o + 1) cs) : yxCs B n (up2 im 17 9 (im 17 9 - 1)) S o cs := by
  obtain ⟨⟨a1, a2⟩, ⟨b1, b2, b3, b4, b5⟩, c1, c2, c3, c4⟩ := h
  refine ⟨⟨by rw [up_j (by decide)]; exact a1, fun k hk => by rw [up_k (by decide)]; exact a2 k hk⟩, ⟨by rw [up_j (by decide)]; exact b1, b2, by rw [up_j (by decide)]; exact b3, by rw [up_j (by decide)]; exact b4, fun h => by rw [up_j (by decide)]; exact b5 h⟩, by rw [up_j (by decide)]; exact c1, ?_, by rw [up_j (by decide)]; exact c3, fun i hi => by rw [up_k (by decide)]; exact c4 i hi⟩
  rw [up_eq, c2, ← zi_s, Int32.add_sub_cancel]
theorem c_xNot {d n o : Nat} {B : Nat → Int32} {r2 : yxS3 → yxRs} {r3 : Nat → yxS3 → yxRs} {tl : List (Nat × Nat)} {q : zR} (hn : n ≤ 160) (hBb : ∀ k, k < n → ∃ c, c < 256 ∧ B k = Int32.ofNat c) (hoo : o ≤ 5) (hs2 : yxSub (d + 5) 36 B n o r2 tl q) (hs3 : o < 5 → yxSub (d + 5) 35 B n (o + 1) (r3 (o + 1)) tl q) :
    yxSub (d + 6) 35 B n o (fun S => if S.1.1 = 6 then yxUn S o [13] (fun o' => r3 o' (yxAd B n S.2.2)) else match r2 S with
        | .inl e => .inl e
        | .inr (S', a) => match yxOC S'.1 with
          | none => .inr (S', a)
          | some c => match r2 (yxAd B n S'.2.2) with
            | .inl e => .inl e
            | .inr (S'', a') => .inr (S'', a ++ a' ++ [c])) tl q := by
  intro S cs im k hc hk hl
  have h5 : im 17 5 = yxC S.1 := hc.2.1.2.2.2.1
  have hl160 : cs.length ≤ 160 := by
    have h1 := hk.1
    have h2 := hk.2.1
    omega
  by_cases h6 : S.1.1 = 6
  · simp only [if_pos h6]
    have e5 : im 17 5 = (305 : Int32) := by
      rw [h5]
      unfold yxC
      rw [h6]
      rfl
    have hlt := hk.2.2.1 (by rw [h6]; decide)
    unfold yxUn
    by_cases ho : 5 ≤ o
    · simp only [if_pos ho]
      obtain ⟨im1, g1, g2, g3⟩ := c_xOpensN (d := d + 3) (tl := tl) (q := q) hc hl160 ho (by omega)
      refine ⟨?_, im1, zEv_o rfl (t_X7_readNot ⟨fun h => absurd e5 h, fun _ => ⟨_, im1, g1, fun _ => ⟨rfl, rfl⟩, fun h => absurd rfl h⟩⟩), g2, g3⟩
      have h1 := hk.1
      have h2 := hk.2.1
      omega
    · simp only [if_neg ho]
      obtain ⟨im1, g1, g2, g3⟩ := c_xOpens (d := d) (tl := tl) (q := q) hn hBb hc (by omega)
      obtain ⟨k1, k2⟩ := yxAd_ok (B := B) hBb hk.2.1
      have hs := hs3 (by omega) (yxAd B n S.2.2) cs im1 (k + 1) g2 k1 (by omega)
      cases hr : r3 (o + 1) (yxAd B n S.2.2) with
      | inl e =>
        rw [hr] at hs
        obtain ⟨e1, im2, e2, e3, e4⟩ := hs
        obtain ⟨im3, f1, f2, f3⟩ := f_emit (d := d + 4) (v := -12) (tl := tl) (q := q) e3
        exact ⟨e1, up2 im3 17 9 (im3 17 9 - 1), zEv_o rfl (t_X7_readNot ⟨fun h => absurd e5 h, fun _ => ⟨_, im1, g1, fun h => absurd h n10, fun _ => ⟨im2, e2, im3, f1, rfl, rfl⟩⟩⟩), yxFs_9 f2, g3.tr (e4.tr (f3.tr yxKp_9))⟩
      | inr P =>
        obtain ⟨S', a⟩ := P
        rw [hr] at hs
        obtain ⟨e1, e2, im2, e3, e4, e5'⟩ := hs
        have hb1 : S'.2.1 ≤ 160 := by
          have h1 := e1.1
          have h2 := e1.2.1
          omega
        obtain ⟨im3, f1, f2, f3⟩ := c_xEmit (d := d + 4) (c := 13) (v := -12) (tl := tl) (q := q) e4 (by omega) rfl
        show yxOk n S' ∧ (cs ++ (a ++ [13])).length + k ≤ S'.2.1 ∧ _
        rw [← List.append_assoc]
        refine ⟨e1, ?_, up2 im3 17 9 (im3 17 9 - 1), zEv_o rfl (t_X7_readNot ⟨fun h => absurd e5 h, fun _ => ⟨_, im1, g1, fun h => absurd h n10, fun _ => ⟨im2, e3, im3, f1, rfl, rfl⟩⟩⟩), yxCs_9 f2, g3.tr (e5'.tr (f3.tr yxKp_9))⟩
        rw [List.length_append (as := cs ++ a)]
        show _ + 1 + k ≤ _
        omega
  · simp only [if_neg h6]
    have n305 : ¬ im 17 5 = (305 : Int32) := by
      rw [h5]
      intro h
      have := yxC_inv (m := 305) hk.2.2.2 (by omega) h
      obtain ⟨v1, v2, v3, v4, v5⟩ := hk.2.2.2
      omega
    have hs := hs2 S cs im k hc hk hl
    cases hr : r2 S with
    | inl e =>
      rw [hr] at hs
      obtain ⟨e1, im1, e2, e3, e4⟩ := hs
      refine ⟨e1, im1, zEv_o rfl (t_X7_readNot ⟨fun _ => ⟨im1, e2, ?_⟩, fun h => absurd h n305⟩), e3, e4⟩
      rw [e3.2.1]
      exact ⟨fun hh => absurd hh (by decide), fun _ => ⟨fun _ => ⟨rfl, rfl⟩, fun hh => absurd hh (by decide)⟩⟩
    | inr P =>
      obtain ⟨S', a⟩ := P
      rw [hr] at hs
      obtain ⟨e1, e2, im1, e3, e4, e5⟩ := hs
      have t5 : im1 17 5 = yxC S'.1 := e4.2.1.2.2.2.1
      cases hq : yxOC S'.1 with
      | none =>
        simp only [hq]
        have hne : ∀ m, m < 256 → yxOC (8, m) ≠ none → ¬ im1 17 5 = Int32.ofNat m := by
          intro m hm h3 h
          rw [t5] at h
          have := yxC_s e1.2.2.2 hm h
          rw [this] at hq
          exact h3 hq
        have n60 : ¬ im1 17 5 = (60 : Int32) := hne 60 (by omega) (by decide)
        have n61 : ¬ im1 17 5 = (61 : Int32) := hne 61 (by omega) (by decide)
        exact ⟨e1, e2, im1, zEv_o rfl (t_X7_readNot ⟨fun _ => ⟨im1, e3, fun h => absurd h n60, fun _ => ⟨fun _ => ⟨rfl, rfl⟩, fun h => absurd h n61⟩⟩, fun h => absurd h n305⟩), e4, e5⟩
      | some c =>
        simp only [hq]
        have hT : (S'.1 = (8, 60) ∧ c = 14) ∨ (S'.1 = (8, 61) ∧ c = 15) := by
          unfold yxOC at hq
          by_cases c1 : S'.1 = (8, 60)
          · rw [if_pos c1] at hq
            exact .inl ⟨c1, (Option.some.inj hq).symm⟩
          · rw [if_neg c1] at hq
            by_cases c2 : S'.1 = (8, 61)
            · rw [if_pos c2] at hq
              exact .inr ⟨c2, (Option.some.inj hq).symm⟩
            · rw [if_neg c2] at hq
              exact absurd hq (by simp)
        have h0 : S'.1.1 ≠ 0 := by
          rcases hT with h | h <;> rw [h.1] <;> exact (show (8 : Nat) ≠ 0 by decide)
        have hlt := e1.2.2.1 h0
        obtain ⟨im3, g1, g2, g3⟩ := c_xPass (d := d) (tl := tl) (q := q) hn hBb e4 rfl
        obtain ⟨k1, k2⟩ := yxAd_ok (B := B) hBb e1.2.1
        have hs1 := hs2 (yxAd B n S'.2.2) (cs ++ a) im3 (k + 1) g2 k1 (by omega)
        -- the way on, whichever sign it is
        have go : ∀ im4 im5, zEv (d + 5) 36 [.ref 17] (zMm tl q im3) none (zMm tl q im4) → zEv (d + 5) 31 [.ref 17, .int (yTr c)] (zMm tl q im4) none (zMm tl q im5) → zEv (d + 6) 35 [.ref 17] (zMm tl q im) none (zMm tl q im5) := by
          intro im4 im5 y1 y2
          rw [← t5] at g1
          rcases hT with ⟨w1, w2⟩ | ⟨w1, w2⟩
          · subst w2
            have e60 : im1 17 5 = (60 : Int32) := by
              rw [t5, w1]
              rfl
            exact zEv_o rfl (t_X7_readNot ⟨fun _ => ⟨im1, e3, fun _ => ⟨fun h => absurd e60 h, fun _ => ⟨im3, g1, im4, y1, im5, y2, rfl, rfl⟩⟩, fun h => absurd e60 h⟩, fun h => absurd h n305⟩)
          · subst w2
            have e61 : im1 17 5 = (61 : Int32) := by
              rw [t5, w1]
              rfl
            have n60 : ¬ im1 17 5 = (60 : Int32) := by
              rw [e61]
              decide
            exact zEv_o rfl (t_X7_readNot ⟨fun _ => ⟨im1, e3, fun h => absurd h n60, fun _ => ⟨fun h => absurd e61 h, fun _ => ⟨fun _ => ⟨im3, g1, im4, y1, im5, y2, rfl, rfl⟩, fun h => absurd h n60⟩⟩⟩, fun h => absurd h n305⟩)
        cases hw : r2 (yxAd B n S'.2.2) with
        | inl e =>
          rw [hw] at hs1
          obtain ⟨i1, im4, i2, i3, i4⟩ := hs1
          obtain ⟨im5, j1, j2, j3⟩ := f_emit (d := d + 4) (v := yTr c) (tl := tl) (q := q) i3
          simp only [hw]
          exact ⟨i1, im5, go im4 im5 i2 j1, j2, e5.tr (g3.tr (i4.tr j3))⟩
        | inr P2 =>
          obtain ⟨S'', a'⟩ := P2
          rw [hw] at hs1
          obtain ⟨i1, i2, im4, i3, i4, i5⟩ := hs1
          have hb1 : S''.2.1 ≤ 160 := by
            have h1 := i1.1
            have h2 := i1.2.1
            omega
          obtain ⟨im5, j1, j2, j3⟩ := c_xEmit (d := d + 4) (c := c) (v := yTr c) (tl := tl) (q := q) i4 (by omega) rfl
          simp only [hw]
          have ea : cs ++ (a ++ a' ++ [c]) = cs ++ a ++ a' ++ [c] := by simp only [List.append_assoc]
          rw [ea]
          refine ⟨i1, ?_, im5, go im4 im5 i3 j1, j2, e5.tr (g3.tr (i5.tr j3))⟩
          rw [List.length_append (as := cs ++ a ++ a')]
          show _ + 1 + k ≤ _
          omega
