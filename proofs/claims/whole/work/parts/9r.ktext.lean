/-! THE CLASS'S TEXT, read -/
theorem c_readText {n : Nat} {B : Nat → Int32} {tl : List (Nat × Nat)} {q : zR} {im : zI} (hn : n ≤ 160) (hBb : ∀ k, k < n → ∃ c, c < 256 ∧ B k = Int32.ofNat c) (h1 : im 17 1 = Int32.ofNat n) (hB : ∀ k, k < n → im 18 k = B k) (hl : tl.length < 99990) :
    match yxTt B n with
    | .inl e => ∃ im', zEv 42 21 [.ref 17] (zMm tl q im) (some .null) (zMm tl q im') ∧ im' 17 2 = Int32.ofNat e ∧ yxKp im im'
    | .inr (a0, a1, a2) => a0.length + a1.length + a2.length < 160 ∧ ∃ im', yxKp im im' ∧ (∀ i, i < a0.length + a1.length + a2.length → im' 19 i = yTr ((a0 ++ a1 ++ a2).getD i 0)) ∧ zEv 42 21 [.ref 17] (zMm tl q im) (some (.ref (72 + tl.length))) (zMm (tl ++ [(8, 3)] ++ [(20, a0.length + a1.length + a2.length)]) (up2 (zero2 (zero2 q (72 + tl.length) 1 none) (72 + (tl ++ [(8, 3)]).length) 1 none) (72 + tl.length) 0 (some (72 + (tl ++ [(8, 3)]).length))) (yTn im' (72 + tl.length) (72 + (tl ++ [(8, 3)]).length) (a0.length + a1.length + a2.length) (Int32.ofNat a0.length) (Int32.ofNat (a0.length + a1.length)))) := by
  have o17 : ∀ j, j ≠ 2 → j ≠ 4 → j ≠ 8 → j ≠ 9 → (up2 (up2 (up2 (up2 im 17 2 (-1)) 17 4 0) 17 8 0) 17 9 0 : zI) 17 j = im 17 j := fun j e1 e2 e3 e4 => by rw [up_j e4, up_j e3, up_j e2, up_j e1]
  have o : ∀ k j, k ≠ 17 → (up2 (up2 (up2 (up2 im 17 2 (-1)) 17 4 0) 17 8 0) 17 9 0 : zI) k j = im k j := fun k j e => by rw [up_k e, up_k e, up_k e, up_k e]
  obtain ⟨im1, g1, g2, g3, g4, g5, g6⟩ := c_readToken (d := 37) (p := 0) (tl := tl) (q := q) (im := up2 (up2 (up2 (up2 im 17 2 (-1)) 17 4 0) 17 8 0) 17 9 0) hn (Nat.zero_le _) hBb (by rw [o17 1 (by decide) (by decide) (by decide) (by decide)]; exact h1) (fun k hk => by rw [o 18 k (by decide)]; exact hB k hk) (by rw [up_j (by decide), up_eq]; rfl)
  have hok0 := (yxAd_ok (B := B) (n := n) (p := 0) hBb (Nat.zero_le _)).1
  have hC : yxCs B n im1 (yxAd B n 0) 0 [] := ⟨⟨by rw [g6 17 1 (by omega), o17 1 (by decide) (by decide) (by decide) (by decide)]; exact h1, fun k hk => by rw [g6 18 k (by omega), o 18 k (by decide)]; exact hB k hk⟩, ⟨g3, hok0.2.1, g2, g4, g5⟩, by rw [g6 17 2 (by omega), up_j (by decide), up_j (by decide), up_j (by decide), up_eq], by rw [g6 17 9 (by omega), up_eq]; rfl, by rw [g6 17 4 (by omega), up_j (by decide), up_j (by decide), up_eq]; rfl, fun i hi => absurd hi (Nat.not_lt_zero _)⟩
  have hK : yxKp im im1 := fun k j e1 e2 => by
    by_cases e : k = 17
    · subst e
      have : j = 1 := Decidable.of_not_not fun hh => e2 ⟨rfl, hh⟩
      rw [g6 17 j (by omega), o17 j (by omega) (by omega) (by omega) (by omega)]
    · rw [g6 k j (by omega), o k j e]
  have bad : ∀ (im' : zI) (k e : Nat), k ≤ 3 → e ≤ 160 → (∀ Z, (∀ x1 x2 : Int32, zX 41 zc_X7_readText 20 [(0, .ref 17), (1, .int x1), (2, .int x2), (3, .int (Int32.ofNat k))] [] (zMm tl q im') Z) → zX 41 zc_X7_readText 20 [(0, .ref 17), (1, .int (0 : Int32)), (2, .int (0 : Int32)), (3, .int (0 : Int32))] [] (zMm tl q im1) Z) → yxFs im' e → yxKp im1 im' →
      ∃ im', zEv 42 21 [.ref 17] (zMm tl q im) (some .null) (zMm tl q im') ∧ im' 17 2 = Int32.ofNat e ∧ yxKp im im' := fun im' k e hk he hg hf hkp => by
    obtain ⟨im2, f1, f2, f3⟩ := c_tF (tl := tl) (q := q) he (3 - k) k im' (by omega) hf
    exact ⟨im2, zEv_o rfl (t_X7_readTextB ⟨im1, g1, hg _ f1⟩), f2, hK.tr (hkp.tr f3)⟩
  have p0 := c_tPart (k := 0) (tl := tl) (q := q) hn hBb (by decide) hC (Nat.zero_le _) (Nat.zero_le _)
  unfold yxTt
  cases hq0 : yxPa B n 0 0 with
  | inl e =>
    rw [hq0] at p0
    obtain ⟨r0, a, b, im2, r1, r2, r3, r4, r5⟩ := p0
    exact bad im2 1 e (by decide) r0 (fun Z hz => c_tStep (k := 0) (by decide) r1 r2 r3 (hz _ _)) r4 r5
  | inr Q0 =>
    obtain ⟨p1, a0⟩ := Q0
    rw [hq0] at p0
    obtain ⟨r0, r00, a, b, im2, r1, r2, r3, r4, r5⟩ := p0
    have q1 := c_tPart (k := 1) (tl := tl) (q := q) hn hBb (by decide) r4 r0 r00
    simp only
    cases hq1 : yxPa B n 1 p1 with
    | inl e =>
      rw [hq1] at q1
      obtain ⟨s0, a', b', im3, s1, s2, s3, s4, s5⟩ := q1
      exact bad im3 2 e (by decide) s0 (fun Z hz => c_tStep (k := 0) (by decide) r1 r2 r3 (c_tStep (k := 1) (by decide) s1 s2 s3 (hz _ _))) s4 (r5.tr s5)
    | inr Q1 =>
      obtain ⟨p2, a1⟩ := Q1
      rw [hq1] at q1
      obtain ⟨s0, s00, a', b', im3, s1, s2, s3, s4, s5⟩ := q1
      have q2 := c_tPart (k := 2) (tl := tl) (q := q) hn hBb (by decide) s4 s0 s00
      simp only
      cases hq2 : yxPa B n 2 p2 with
      | inl e =>
        rw [hq2] at q2
        obtain ⟨u0, a'', b'', im4, u1, u2, u3, u4, u5⟩ := q2
        exact bad im4 3 e (by decide) u0 (fun Z hz => c_tStep (k := 0) (by decide) r1 r2 r3 (c_tStep (k := 1) (by decide) s1 s2 s3 (c_tStep (k := 2) (by decide) u1 u2 u3 (hz _ _)))) u4 (r5.tr (s5.tr u5))
      | inr Q2 =>
        obtain ⟨p3, a2⟩ := Q2
        rw [hq2] at q2
        obtain ⟨u0, u00, a'', b'', im4, u1, u2, u3, u4, u5⟩ := q2
        have hok := (yxAd_ok (B := B) hBb u0).1
        have hb160 : (yxAd B n p3).2.1 ≤ 160 := by
          have h1 := hok.1
          have h2 := hok.2.1
          omega
        have hlen : ([] ++ a0 ++ a1 ++ a2).length = a0.length + a1.length + a2.length := by
          simp only [List.length_append, List.length_nil]
          omega
        simp only
        by_cases hE : (yxAd B n p3).1.1 = 0
        · simp only [if_pos hE]
          obtain ⟨im5, f1, f2, f3⟩ := c_xPass (d := 36) (w := -1) (tl := tl) (q := q) hn hBb u4 (by
            unfold yxC
            rw [if_pos hE])
          have hL : a0.length + a1.length + a2.length < 160 := by omega
          have e4 : im5 17 4 = Int32.ofNat (a0.length + a1.length + a2.length) := by rw [f2.2.2.2.2.1, hlen]
          refine ⟨hL, im5, hK.tr (r5.tr (s5.tr (u5.tr f3))), fun i hi => f2.2.2.2.2.2 i (by omega), zEv_o rfl (t_X7_readTextB ⟨im1, g1, c_tStep (k := 0) (by decide) r1 r2 r3 (c_tStep (k := 1) (by decide) s1 s2 s3 (c_tStep (k := 2) (by decide) u1 u2 u3 ?_))⟩)⟩
          have e4' : (zero2 im5 (72 + tl.length) 1 0 : zI) 17 4 = Int32.ofNat (a0.length + a1.length + a2.length) := by
            unfold zero2
            rw [if_neg (by omega)]
            exact e4
          have hcp := c_copyOf (d := 40) (tl := tl ++ [(8, 3)]) (q := zero2 q (72 + tl.length) 1 none) (im := zero2 im5 (72 + tl.length) 1 0) (by rw [List.length_append]; show tl.length + 1 < 100000; omega) hL
          rw [← e4'] at hcp
          have a8 : (zB ++ (tl ++ [(8, 3)] ++ [(20, a0.length + a1.length + a2.length)]) : List (Nat × Nat))[72 + tl.length]? = some (8, 3) := zA_old zA_new
          refine t_X7_readTextB_20 ⟨fun _ => ⟨im5, f1, fun hh => absurd f2.2.2.1 hh, fun _ => ⟨by omega, some (72 + (tl ++ [(8, 3)]).length), _, _, _, hcp, ?_⟩⟩, fun hh => absurd (Int32.le_refl 3) hh⟩
          show ((zB ++ (tl ++ [(8, 3)] ++ [(20, a0.length + a1.length + a2.length)]) : List (Nat × Nat))[72 + tl.length]?).elim _ _
          rw [a8]
          refine ⟨_, _, c_init8 (d := 40) (r := 72 + tl.length) (r' := 72 + (tl ++ [(8, 3)]).length) (Nat.le_add_right _ _) a8 zA_new, ?_⟩
          have eu : im2 17 4 = Int32.ofNat a0.length := r4.2.2.2.2.1
          have ev : im3 17 4 = Int32.ofNat (a0.length + a1.length) := by
            rw [s4.2.2.2.2.1, List.length_append]
            rfl
          refine ⟨rfl, ?_⟩
          show zMm _ _ (up2 (up2 _ _ 1 (im2 17 4)) _ 2 (im3 17 4)) = _
          rw [eu, ev]
          rfl
        · simp only [if_neg hE]
          obtain ⟨im5, f1, f2, f3⟩ := c_xPassN (d := 39) (w := -1) (tl := tl) (q := q) u4 (by omega) (fun hh => hE (by
            have hv := hok.2.2.2
            unfold yxC at hh
            by_cases t0 : (yxAd B n p3).1.1 = 0
            · exact t0
            · exfalso
              rw [if_neg t0] at hh
              by_cases t1 : (yxAd B n p3).1.1 = 1
              · rw [if_pos t1] at hh
                exact absurd hh (by decide)
              · rw [if_neg t1] at hh
                by_cases t2 : (yxAd B n p3).1.1 = 2
                · rw [if_pos t2] at hh
                  exact absurd hh (by decide)
                · rw [if_neg t2] at hh
                  by_cases t3 : (yxAd B n p3).1.1 = 3
                  · rw [if_pos t3] at hh
                    have := hv.2.1
                    exact zi_m1 (by omega) hh
                  · rw [if_neg t3] at hh
                    by_cases t4 : (yxAd B n p3).1.1 = 4
                    · rw [if_pos t4] at hh
                      exact absurd hh (by decide)
                    · rw [if_neg t4] at hh
                      by_cases t5 : (yxAd B n p3).1.1 = 5
                      · rw [if_pos t5] at hh
                        exact absurd hh (by decide)
                      · rw [if_neg t5] at hh
                        by_cases t6 : (yxAd B n p3).1.1 = 6
                        · rw [if_pos t6] at hh
                          exact absurd hh (by decide)
                        · rw [if_neg t6] at hh
                          have := hv.2.1
                          by_cases t7 : (yxAd B n p3).1.1 = 7
                          · rw [if_pos t7] at hh
                            exact zi_m1 (by omega) hh
                          · rw [if_neg t7] at hh
                            exact zi_m1 (by omega) hh))
          have hne : ¬ im5 17 2 = -1 := by
            rw [f2.1]
            exact zi_m1 (by omega)
          exact ⟨im5, zEv_o rfl (t_X7_readTextB ⟨im1, g1, c_tStep (k := 0) (by decide) r1 r2 r3 (c_tStep (k := 1) (by decide) s1 s2 s3 (c_tStep (k := 2) (by decide) u1 u2 u3 (t_X7_readTextB_20 ⟨fun _ => ⟨im5, f1, fun _ => ⟨rfl, rfl⟩, fun hh => absurd hh hne⟩, fun hh => absurd (Int32.le_refl 3) hh⟩)))⟩), f2.1, hK.tr (r5.tr (s5.tr (u5.tr f3)))⟩
