/-! THE CLASS READS: one -/
theorem c_xOne {d n o : Nat} {B : Nat → Int32} {r0 r5 : Nat → yxS3 → yxRs} {tl : List (Nat × Nat)} {q : zR} (hn : n ≤ 160) (hBb : ∀ k, k < n → ∃ c, c < 256 ∧ B k = Int32.ofNat c) (hoo : o ≤ 5) (hs0 : o < 5 → yxSub (d + 5) 38 B n (o + 1) (r0 (o + 1)) tl q) (hs5 : o < 5 → yxSub (d + 5) 33 B n (o + 1) (r5 (o + 1)) tl q) :
    yxSub (d + 6) 38 B n o (fun S => if S.1.1 = 2 then .inr (yxAd B n S.2.2, [100000 + S.1.2])
      else if S.1.1 = 7 then .inr (yxAd B n S.2.2, [S.1.2])
      else if S.1 = (8, 45) then yxUn S o [19] (fun o' => r0 o' (yxAd B n S.2.2))
      else if S.1 = (8, 40) then yxUn S o [] (fun o' => match r5 o' (yxAd B n S.2.2) with
        | .inl e => .inl e
        | .inr (S', a) => if S'.1 = (8, 41) then .inr (yxAd B n S'.2.2, a) else .inl S'.2.1)
      else .inl S.2.1) tl q := by
  intro S cs im k hc hk hl
  have h5 : im 17 5 = yxC S.1 := hc.2.1.2.2.2.1
  obtain ⟨v1, v2, v3, v4, v5⟩ := hk.2.2.2
  have hb160 : S.2.1 ≤ 160 := by
    have h1 := hk.1
    have h2 := hk.2.1
    omega
  obtain ⟨k1, k2⟩ := yxAd_ok (B := B) hBb hk.2.1
  by_cases h2 : S.1.1 = 2
  · simp only [if_pos h2]
    have hlt := hk.2.2.1 (by rw [h2]; decide)
    have h2n := hk.2.1
    have e5 : im 17 5 = (256 : Int32) := by
      rw [h5]
      unfold yxC
      rw [h2]
      rfl
    have hv : im 17 7 = yTr (100000 + S.1.2) := by
      rw [hc.2.1.2.2.2.2 h2]
      unfold yTr
      rw [if_pos (by omega), Nat.add_sub_cancel_left]
    obtain ⟨im1, f1, f2, f3⟩ := c_xEmit (d := d + 4) (c := 100000 + S.1.2) (tl := tl) (q := q) hc (by omega) hv
    obtain ⟨im2, g1, g2, g3⟩ := c_xPass (d := d) (tl := tl) (q := q) hn hBb f2 (show yxC S.1 = 256 from h5.symm.trans e5)
    refine ⟨k1, ?_, im2, zEv_o rfl (t_X7_readOne ⟨fun h => absurd e5 h, fun _ => ⟨im1, f1, im2, g1, rfl, rfl⟩⟩), g2, f3.tr g3⟩
    rw [List.length_append]
    show _ + 1 + k ≤ _
    omega
  · simp only [if_neg h2]
    have n256 : ¬ im 17 5 = (256 : Int32) := by
      rw [h5]
      intro h
      have := yxC_inv (m := 256) ⟨v1, v2, v3, v4, v5⟩ (by omega) h
      omega
    by_cases h7 : S.1.1 = 7
    · simp only [if_pos h7]
      have hlt := hk.2.2.1 (by rw [h7]; decide)
      have h2n := hk.2.1
      have v6 := v4 h7
      have e5 : im 17 5 = Int32.ofNat (306 + S.1.2) := by
        rw [h5]
        unfold yxC
        rw [h7]
        rfl
      have hlo : ¬ im 17 5 < (306 : Int32) := by
        rw [e5]
        exact fun h => absurd ((zi_lt (b := 306) (by omega) (by omega)).mp h) (by omega)
      have hhi : ¬ (311 : Int32) < im 17 5 := by
        rw [e5]
        exact fun h => absurd ((zi_lt (a := 311) (by omega) (by omega)).mp h) (by omega)
      have hv : (-1 : Int32) - (im 17 5 - 306) = yTr S.1.2 := by
        rw [e5, show Int32.ofNat (306 + S.1.2) - 306 = Int32.ofNat (306 + S.1.2 - 306) from zi_d (b := 306) (by omega), Nat.add_sub_cancel_left]
        unfold yTr
        rw [if_neg (by omega), if_pos v6]
      obtain ⟨im1, f1, f2, f3⟩ := c_xEmit (d := d + 4) (c := S.1.2) (tl := tl) (q := q) hc (by omega) hv
      obtain ⟨im2, g1, g2, g3⟩ := c_xPass (d := d) (tl := tl) (q := q) hn hBb f2 (show yxC S.1 = im1 17 5 from f2.2.1.2.2.2.1.symm)
      refine ⟨k1, ?_, im2, zEv_o rfl (t_X7_readOne ⟨fun _ => ⟨fun h => absurd h hlo, fun _ => ⟨fun h => absurd h hhi, fun _ => ⟨im1, f1, im2, g1, rfl, rfl⟩⟩⟩, fun h => absurd h n256⟩), g2, f3.tr g3⟩
      rw [List.length_append]
      show _ + 1 + k ≤ _
      omega
    · simp only [if_neg h7]
      have lt : im 17 5 < (306 : Int32) := by
        rw [h5]
        unfold yxC
        by_cases t0 : S.1.1 = 0
        · rw [if_pos t0]; decide
        · rw [if_neg t0]
          by_cases t1 : S.1.1 = 1
          · rw [if_pos t1]; decide
          · rw [if_neg t1, if_neg h2]
            by_cases t3 : S.1.1 = 3
            · rw [if_pos t3]
              have := v3 t3
              exact (zi_lt (b := 306) (by omega) (by omega)).mpr (by omega)
            · rw [if_neg t3]
              by_cases t4 : S.1.1 = 4
              · rw [if_pos t4]; decide
              · rw [if_neg t4]
                by_cases t5 : S.1.1 = 5
                · rw [if_pos t5]; decide
                · rw [if_neg t5]
                  by_cases t6 : S.1.1 = 6
                  · rw [if_pos t6]; decide
                  · rw [if_neg t6, if_neg h7]
                    have := v5 (by omega)
                    exact (zi_lt (b := 306) (by omega) (by omega)).mpr (by omega)
      by_cases h45 : S.1 = (8, 45)
      · simp only [if_pos h45]
        have e5 : im 17 5 = (45 : Int32) := by
          rw [h5, h45]
          rfl
        have hlt := hk.2.2.1 (by rw [h45]; exact (show (8 : Nat) ≠ 0 by decide))
        unfold yxUn
        by_cases ho : 5 ≤ o
        · simp only [if_pos ho]
          obtain ⟨im1, g1, g2, g3⟩ := c_xOpensN (d := d + 3) (tl := tl) (q := q) hc (by omega) ho (by omega)
          exact ⟨hb160, im1, zEv_o rfl (t_X7_readOne ⟨fun _ => ⟨fun _ => ⟨fun h => absurd e5 h, fun _ => ⟨_, im1, g1, fun _ => ⟨rfl, rfl⟩, fun h => absurd rfl h⟩⟩, fun h => absurd lt h⟩, fun h => absurd h n256⟩), g2, g3⟩
        · simp only [if_neg ho]
          obtain ⟨im1, g1, g2, g3⟩ := c_xOpens (d := d) (tl := tl) (q := q) hn hBb hc (by omega)
          have hs := hs0 (by omega) (yxAd B n S.2.2) cs im1 (k + 1) g2 k1 (by omega)
          cases hr : r0 (o + 1) (yxAd B n S.2.2) with
          | inl e =>
            rw [hr] at hs
            obtain ⟨e1, im2, e2, e3, e4⟩ := hs
            obtain ⟨im3, f1, f2, f3⟩ := f_emit (d := d + 4) (v := -11) (tl := tl) (q := q) e3
            exact ⟨e1, up2 im3 17 9 (im3 17 9 - 1), zEv_o rfl (t_X7_readOne ⟨fun _ => ⟨fun _ => ⟨fun h => absurd e5 h, fun _ => ⟨_, im1, g1, fun h => absurd h n10, fun _ => ⟨im2, e2, im3, f1, rfl, rfl⟩⟩⟩, fun h => absurd lt h⟩, fun h => absurd h n256⟩), yxFs_9 f2, g3.tr (e4.tr (f3.tr yxKp_9))⟩
          | inr P =>
            obtain ⟨S', a⟩ := P
            rw [hr] at hs
            obtain ⟨e1, e2, im2, e3, e4, e5'⟩ := hs
            have hb1 : S'.2.1 ≤ 160 := by
              have h1 := e1.1
              have h2 := e1.2.1
              omega
            obtain ⟨im3, f1, f2, f3⟩ := c_xEmit (d := d + 4) (c := 19) (v := -11) (tl := tl) (q := q) e4 (by omega) rfl
            show yxOk n S' ∧ (cs ++ (a ++ [19])).length + k ≤ S'.2.1 ∧ _
            rw [← List.append_assoc]
            refine ⟨e1, ?_, up2 im3 17 9 (im3 17 9 - 1), zEv_o rfl (t_X7_readOne ⟨fun _ => ⟨fun _ => ⟨fun h => absurd e5 h, fun _ => ⟨_, im1, g1, fun h => absurd h n10, fun _ => ⟨im2, e3, im3, f1, rfl, rfl⟩⟩⟩, fun h => absurd lt h⟩, fun h => absurd h n256⟩), yxCs_9 f2, g3.tr (e5'.tr (f3.tr yxKp_9))⟩
            rw [List.length_append (as := cs ++ a)]
            show _ + 1 + k ≤ _
            omega
      · simp only [if_neg h45]
        have n45 : ¬ im 17 5 = (45 : Int32) := by
          rw [h5]
          exact fun h => h45 (yxC_s (m := 45) ⟨v1, v2, v3, v4, v5⟩ (by omega) h)
        by_cases h40 : S.1 = (8, 40)
        · simp only [if_pos h40]
          have e5 : im 17 5 = (40 : Int32) := by
            rw [h5, h40]
            rfl
          have hlt := hk.2.2.1 (by rw [h40]; exact (show (8 : Nat) ≠ 0 by decide))
          unfold yxUn
          by_cases ho : 5 ≤ o
          · simp only [if_pos ho]
            obtain ⟨im1, g1, g2, g3⟩ := c_xOpensN (d := d + 3) (tl := tl) (q := q) hc (by omega) ho (by omega)
            exact ⟨hb160, im1, zEv_o rfl (t_X7_readOne ⟨fun _ => ⟨fun _ => ⟨fun _ => ⟨fun h => absurd e5 h, fun _ => ⟨_, im1, g1, fun _ => ⟨rfl, rfl⟩, fun h => absurd rfl h⟩⟩, fun h => absurd h n45⟩, fun h => absurd lt h⟩, fun h => absurd h n256⟩), g2, g3⟩
          · simp only [if_neg ho]
            obtain ⟨im1, g1, g2, g3⟩ := c_xOpens (d := d) (tl := tl) (q := q) hn hBb hc (by omega)
            have hs := hs5 (by omega) (yxAd B n S.2.2) cs im1 (k + 1) g2 k1 (by omega)
            have go : ∀ im2 im3, zEv (d + 5) 33 [.ref 17] (zMm tl q im1) none (zMm tl q im2) → zEv (d + 5) 30 [.ref 17, .int (41 : Int32)] (zMm tl q im2) none (zMm tl q im3) → zEv (d + 6) 38 [.ref 17] (zMm tl q im) none (zMm tl q (up2 im3 17 9 (im3 17 9 - 1))) := fun im2 im3 y1 y2 =>
              zEv_o rfl (t_X7_readOne ⟨fun _ => ⟨fun _ => ⟨fun _ => ⟨fun h => absurd e5 h, fun _ => ⟨_, im1, g1, fun h => absurd h n10, fun _ => ⟨im2, y1, im3, y2, rfl, rfl⟩⟩⟩, fun h => absurd h n45⟩, fun h => absurd lt h⟩, fun h => absurd h n256⟩)
            cases hr : r5 (o + 1) (yxAd B n S.2.2) with
            | inl e =>
              rw [hr] at hs
              obtain ⟨e1, im2, e2, e3, e4⟩ := hs
              obtain ⟨im3, f1, f2, f3⟩ := f_pass (d := d + 3) (w := 41) (tl := tl) (q := q) (by omega) e3
              exact ⟨e1, up2 im3 17 9 (im3 17 9 - 1), go im2 im3 e2 f1, yxFs_9 f2, g3.tr (e4.tr (f3.tr yxKp_9))⟩
            | inr P =>
              obtain ⟨S', a⟩ := P
              rw [hr] at hs
              obtain ⟨e1, e2, im2, e3, e4, e5'⟩ := hs
              have hb1 : S'.2.1 ≤ 160 := by
                have h1 := e1.1
                have h2 := e1.2.1
                omega
              by_cases h41 : S'.1 = (8, 41)
              · simp only [if_pos h41, List.append_nil]
                have hlt' := e1.2.2.1 (by rw [h41]; exact (show (8 : Nat) ≠ 0 by decide))
                obtain ⟨w1, w2⟩ := yxAd_ok (B := B) hBb e1.2.1
                obtain ⟨im3, f1, f2, f3⟩ := c_xPass (d := d) (w := 41) (tl := tl) (q := q) hn hBb e4 (by rw [h41]; rfl)
                exact ⟨w1, by omega, up2 im3 17 9 (im3 17 9 - 1), go im2 im3 e3 f1, yxCs_9 f2, g3.tr (e5'.tr (f3.tr yxKp_9))⟩
              · simp only [if_neg h41]
                obtain ⟨im3, f1, f2, f3⟩ := c_xPassN (d := d + 3) (w := 41) (tl := tl) (q := q) e4 (by omega) (fun h => h41 (yxC_s (m := 41) e1.2.2.2 (by omega) h))
                exact ⟨hb1, up2 im3 17 9 (im3 17 9 - 1), go im2 im3 e3 f1, yxFs_9 f2, g3.tr (e5'.tr (f3.tr yxKp_9))⟩
        · simp only [if_neg h40]
          have n40 : ¬ im 17 5 = (40 : Int32) := by
            rw [h5]
            exact fun h => h40 (yxC_s (m := 40) ⟨v1, v2, v3, v4, v5⟩ (by omega) h)
          obtain ⟨im1, g1, g2, g3⟩ := c_xRefuse (d := d + 4) (tl := tl) (q := q) hc (by omega)
          exact ⟨hb160, im1, zEv_o rfl (t_X7_readOne ⟨fun _ => ⟨fun _ => ⟨fun _ => ⟨fun _ => ⟨im1, g1, rfl, rfl⟩, fun h => absurd h n40⟩, fun h => absurd h n45⟩, fun h => absurd lt h⟩, fun h => absurd h n256⟩), g2, g3⟩
