/-! THE CLASS READS A TOKEN -/
theorem yxH_P {P : Int32 → Bool} {B : Nat → Int32} {n : Nat} : ∀ (f p i : Nat), p ≤ i → i < yxH P B n f p → P (B i) = true := by
  intro f
  induction f with
  | zero =>
    intro p i h1 h2
    have : i < p := h2
    omega
  | succ f ih =>
    intro p i h1 h2
    unfold yxH at h2
    cases hp : P (B p) with
    | false =>
      rw [hp, cond_false] at h2
      omega
    | true =>
      rw [hp, cond_true] at h2
      by_cases e : i = p
      · subst e; exact hp
      · exact ih (p + 1) i (by omega) h2
theorem yxD_ex {c : Nat} (hc : c < 256) (h : yxD (Int32.ofNat c) = true) : 48 ≤ c ∧ c ≤ 57 := by
  unfold yxD at h
  rw [Bool.and_eq_true, Bool.not_eq_true', Bool.not_eq_true', decide_eq_false_iff_not, decide_eq_false_iff_not] at h
  refine ⟨Nat.le_of_not_lt fun hh => h.1 ((zi_lt (b := 48) (by omega) (by omega)).mpr hh), Nat.le_of_not_lt fun hh => h.2 ((zi_lt (a := 57) (by omega) (by omega)).mpr hh)⟩
/-- a number of four digits or fewer -/
theorem yxI_ex {B : Nat → Int32} {b n : Nat} (hb : ∀ k, k < n → ∃ c, c < 256 ∧ B k = Int32.ofNat c) : ∀ (k : Nat), b + k ≤ n → k ≤ 4 → (∀ i, b ≤ i → i < b + k → yxD (B i) = true) → ∃ v, v < 10 ^ k ∧ yxI B b k = Int32.ofNat v := by
  intro k
  induction k with
  | zero => exact fun _ _ _ => ⟨0, by decide, rfl⟩
  | succ k ih =>
    intro h1 h2 h3
    obtain ⟨v, hv, ev⟩ := ih (by omega) (by omega) (fun i a b => h3 i a (by omega))
    obtain ⟨c, hc, ec⟩ := hb (b + k) (by omega)
    have hd := h3 (b + k) (by omega) (by omega)
    rw [ec] at hd
    have := yxD_ex hc hd
    refine ⟨v * 10 + (c - 48), by rw [Nat.pow_succ]; omega, ?_⟩
    show yxI B b k * 10 + B (b + k) - 48 = _
    rw [ev, ec, show Int32.ofNat v * 10 = Int32.ofNat (v * 10) from (Int32.ofNat_mul v 10).symm, ← Int32.ofNat_add, show Int32.ofNat (v * 10 + c) - 48 = Int32.ofNat (v * 10 + c - 48) from zi_d (b := 48) (by omega)]
    congr 1
    omega
theorem c_xRW {d n b : Nat} {B : Nat → Int32} {tl : List (Nat × Nat)} {q : zR} (hn : n ≤ 160) :
    ∀ (f p : Nat) (im : zI), p + f = n → b ≤ p → im 17 1 = Int32.ofNat n → (∀ k, k < n → im 18 k = B k) → im 17 8 = Int32.ofNat p → im 17 6 = Int32.ofNat b →
      ∃ im', zX (d + 1) zc_X7_readWord 0 [(0, .ref 17)] [] (zMm tl q im) (fun x y => x = none ∧ y = zMm tl q im') ∧ im' 17 8 = Int32.ofNat (yxH yxL B n f p) ∧ im' 17 5 = yxC (yxF B b (yxH yxL B n f p) 12) ∧ ∀ k j, ¬ (k = 17 ∧ (j = 5 ∨ j = 8)) → im' k j = im k j := by
  intro f
  have fin : ∀ (p : Nat) (im : zI), p ≤ n → b ≤ p → im 17 1 = Int32.ofNat n → (∀ k, k < n → im 18 k = B k) → im 17 8 = Int32.ofNat p → im 17 6 = Int32.ofNat b →
      ∃ im', zX (d + 1) zc_X7_readWord 28 [(0, .ref 17), (1, .int (300 : Int32)), (2, .int (0 : Int32)), (3, .int (0 : Int32))] [] (zMm tl q (up2 im 17 5 (-2 : Int32))) (fun x y => x = none ∧ y = zMm tl q im') ∧ im' 17 8 = Int32.ofNat p ∧ im' 17 5 = yxC (yxF B b p 12) ∧ ∀ k j, ¬ (k = 17 ∧ (j = 5 ∨ j = 8)) → im' k j = im k j := by
    intro p im hp hb h1 hB h8 h6
    obtain ⟨im', g1, g2, g3⟩ := c_xWd (d := d) (B := B) (tl := tl) (q := q) (e := p) hn hp hb 12 0 (up2 im 17 5 (-2 : Int32)) (by omega) (by rw [up_j (by decide)]; exact h1) (fun k hk => by rw [up_k (by decide)]; exact hB k hk) (by rw [up_j (by decide)]; exact h8) (by rw [up_j (by decide)]; exact h6) up_eq
    refine ⟨im', g1, ?_, g2, fun k j h => ?_⟩
    · rw [g3 17 8 (by omega), up_j (by decide)]
      exact h8
    · rw [g3 k j (by omega)]
      by_cases e : k = 17
      · subst e
        exact up_j (by omega)
      · exact up_k e
  induction f with
  | zero =>
    intro p im hp hb h1 hB h8 h6
    obtain ⟨im', g1, g2, g3, g4⟩ := fin p im (by omega) hb h1 hB h8 h6
    refine ⟨im', t_X7_readWord ⟨fun _ => g1, fun h => absurd ?_ h⟩, g2, g3, g4⟩
    rw [h1, h8]
    exact (zi_le (by omega) (by omega)).mpr (by omega)
  | succ f ih =>
    intro p im hp hb h1 hB h8 h6
    have hlt : ¬ im 17 1 ≤ im 17 8 := by
      rw [h1, h8]
      exact fun h => absurd ((zi_le (by omega) (by omega)).mp h) (by omega)
    have v160 := zi_in (show p < 160 by omega) (show p < 2147483648 by omega)
    unfold yxH
    cases hd : yxL (B p) with
    | false =>
      rw [cond_false]
      obtain ⟨im', g1, g2, g3, g4⟩ := fin p im (by omega) hb h1 hB h8 h6
      refine ⟨im', t_X7_readWord ⟨fun h => absurd h hlt, fun _ => ⟨by rw [h8]; exact v160, _, im, c_xL, fun _ => g1, fun h => absurd ?_ h⟩⟩, g2, g3, g4⟩
      rw [h8, zi_n (show p < 2147483648 by omega), hB p (by omega), hd]
      rfl
    | true =>
      rw [cond_true]
      obtain ⟨im', g1, g2, g3, g4⟩ := ih (p + 1) (up2 im 17 8 (Int32.ofNat (p + 1))) (by omega) (by omega) (by rw [up_j (by decide)]; exact h1) (fun k hk => by rw [up_k (by decide)]; exact hB k hk) up_eq (by rw [up_j (by decide)]; exact h6)
      refine ⟨im', t_X7_readWord ⟨fun h => absurd h hlt, fun _ => ⟨by rw [h8]; exact v160, _, im, c_xL, fun h => absurd h ?_, fun _ => ?_⟩⟩, g2, g3, fun k j h => ?_⟩
      · rw [h8, zi_n (show p < 2147483648 by omega), hB p (by omega), hd]
        exact n10
      · rw [h8, zi_s]
        exact g1
      · rw [g4 k j h]
        by_cases e : k = 17
        · subst e
          exact up_j (by omega)
        · exact up_k e
/-- a token's bytes, from its begin on -/
theorem c_xTk {d n b : Nat} {B : Nat → Int32} {tl : List (Nat × Nat)} {q : zR} {im : zI} (hn : n ≤ 160) (hb : b < n) (hBb : ∀ k, k < n → ∃ c, c < 256 ∧ B k = Int32.ofNat c) (h1 : im 17 1 = Int32.ofNat n) (hB : ∀ k, k < n → im 18 k = B k) (h8 : im 17 8 = Int32.ofNat b) (h6 : im 17 6 = Int32.ofNat b) :
    ∃ im', (im' 17 8 = Int32.ofNat (yxTk B n b).2 ∧ im' 17 5 = yxC (yxTk B n b).1 ∧ ((yxTk B n b).1.1 = 2 → im' 17 7 = Int32.ofNat (yxTk B n b).1.2) ∧ ∀ k j, ¬ (k = 17 ∧ (j = 5 ∨ j = 7 ∨ j = 8)) → im' k j = im k j) ∧
      ∃ (v18 : Int32) (im17 : zI), zEv (d + 3) 26 [.int (B b)] (zMm tl q im) (some (.int v18)) (zMm tl q im17) ∧ ((v18 = 0 → (vp_in (im17 17 8) 160 ∧ (∃ (v21 : Int32) (im20 : zI), zEv (d + 3) 27 [.int (im17 18 ((im17 17 8)).toNatClampNeg)] (zMm tl q im17) (some (.int v21)) (zMm tl q im20) ∧
        ((v21 = 0 → (vp_in (im20 17 8) 160 ∧ (∃ (v24 : Int32) (im23 : zI), zEv (d + 3) 28 [.int (im20 18 ((im20 17 8)).toNatClampNeg)] (zMm tl q im20) (some (.int v24)) (zMm tl q im23) ∧ ((v24 = 0 → ((none : Option Value) = none ∧ zMm tl q ((up2 (up2 im23 17 5 (-2 : Int32)) 17 8 ((im23 17 8) + (1 : Int32)))) = zMm tl q im')) ∧ (¬ v24 = 0 → (vp_in (im23 17 8) 160 ∧ ((none : Option Value) = none ∧ zMm tl q ((up2 (up2 im23 17 5 (im23 18 ((im23 17 8)).toNatClampNeg)) 17 8 ((im23 17 8) + (1 : Int32)))) = zMm tl q im'))))))) ∧
         (¬ v21 = 0 → (∃ im26 : zI, zEv (d + 3) 25 [.ref 17] (zMm tl q im20) none (zMm tl q im26) ∧ ((none : Option Value) = none ∧ zMm tl q im26 = zMm tl q im'))))))) ∧ (¬ v18 = 0 → (∃ im27 : zI, zEv (d + 3) 23 [.ref 17] (zMm tl q im17) none (zMm tl q im27) ∧ ((none : Option Value) = none ∧ zMm tl q im27 = zMm tl q im')))) := by
  have v160 := zi_in (show b < 160 by omega) (show b < 2147483648 by omega)
  have hnb : ¬ n ≤ b := by omega
  obtain ⟨c, hc, ec⟩ := hBb b hb
  cases hL : yxL (B b) with
  | true =>
    have eT : yxTk B n b = (yxF B b (yxW yxL B n b) 12, yxW yxL B n b) := by
      unfold yxTk
      rw [if_neg hnb, hL]
      rfl
    obtain ⟨im', g1, g2, g3, g4⟩ := c_xRW (d := d + 1) (tl := tl) (q := q) hn (n - b) b im (by omega) (Nat.le_refl _) h1 hB h8 h6
    rw [eT]
    refine ⟨im', ⟨g2, g3, fun h => ?_, fun k j h => g4 k j (by omega)⟩, _, im, c_xL, fun h => absurd h (by rw [hL]; exact n10), fun _ => ⟨im', zEv_o rfl g1, rfl, rfl⟩⟩
    exfalso
    have : ∀ w, (yxF B b (yxW yxL B n b) w).1 ≠ 2 := by
      intro w
      induction w with
      | zero => exact (show (1 : Nat) ≠ 2 by decide)
      | succ w ih =>
        show (bif yxM B b (yxW yxL B n b) w then yxK w else yxF B b (yxW yxL B n b) w).1 ≠ 2
        cases yxM B b (yxW yxL B n b) w with
        | false => exact ih
        | true =>
          rw [cond_true]
          unfold yxK
          split
          · exact (show (3 : Nat) ≠ 2 by decide)
          · split
            · exact (show (4 : Nat) ≠ 2 by decide)
            · split
              · exact (show (5 : Nat) ≠ 2 by decide)
              · split
                · exact (show (6 : Nat) ≠ 2 by decide)
                · exact (show (7 : Nat) ≠ 2 by decide)
    exact this 12 h
  | false =>
    cases hD : yxD (B b) with
    | true =>
      obtain ⟨im', g1, g2, g3, g4, g5⟩ := c_xNum (d := d + 1) (tl := tl) (q := q) (b := b) (B := B) hn (n - b) b (up2 im 17 7 0) (by omega) (Nat.le_refl _) (by rw [up_j (by decide)]; exact h1) (fun k hk => by rw [up_k (by decide)]; exact hB k hk) (by rw [up_j (by decide)]; exact h8) (by rw [up_j (by decide)]; exact h6) (by rw [up_eq, Nat.sub_self]; rfl)
      have hle : b ≤ yxW yxD B n b ∧ yxW yxD B n b ≤ b + (n - b) := yxH_le (n - b) b
      have eT : yxTk B n b = (if 4 < yxW yxD B n b - b then (1, 0) else (2, (yxI B b (yxW yxD B n b - b)).toNatClampNeg), yxW yxD B n b) := by
        unfold yxTk
        rw [if_neg hnb, hL, hD]
        rfl
      rw [eT]
      refine ⟨im', ⟨g2, ?_, fun h => ?_, fun k j h => ?_⟩, _, im, c_xL, fun _ => ?_, fun h => absurd (by rw [hL]; rfl) h⟩
      · rw [g3]
        show (if 4 < yxW yxD B n b - b then (-2 : Int32) else 256) = yxC (if 4 < yxW yxD B n b - b then _ else _)
        split
        · rfl
        · rfl
      · rw [g4]
        show yxI B b (yxW yxD B n b - b) = Int32.ofNat (if 4 < yxW yxD B n b - b then _ else _ : Nat × Nat).2
        by_cases h4 : 4 < yxW yxD B n b - b
        · rw [if_pos h4] at h
          exact absurd h (show ¬ (1 : Nat) = 2 by decide)
        · rw [if_neg h4]
          obtain ⟨v, hv, ev⟩ := yxI_ex (b := b) hBb (yxW yxD B n b - b) (by omega) (by omega) (fun i a a2 => yxH_P (n := n) (n - b) b i a (show i < yxW yxD B n b by omega))
          have : 10 ^ (yxW yxD B n b - b) ≤ 10 ^ 4 := Nat.pow_le_pow_right (by decide) (by omega)
          rw [ev]
          show Int32.ofNat v = Int32.ofNat (Int32.ofNat v).toNatClampNeg
          rw [zi_n (by omega)]
      · rw [g5 k j (by omega)]
        by_cases e : k = 17
        · subst e
          exact up_j (by omega)
        · exact up_k e
      · rw [h8, zi_n (show b < 2147483648 by omega), hB b hb]
        exact ⟨v160, _, im, c_xD, fun h => absurd h (by rw [hD]; exact n10), fun _ => ⟨im', zEv_o rfl (t_X7_readNumber g1), rfl, rfl⟩⟩
    | false =>
      have eT : yxTk B n b = (bif yxG (B b) then (8, (B b).toNatClampNeg) else (1, 0), b + 1) := by
        unfold yxTk
        rw [if_neg hnb, hL, hD]
        rfl
      rw [eT]
      refine ⟨up2 (up2 im 17 5 (bif yxG (B b) then B b else -2)) 17 8 (Int32.ofNat (b + 1)), ⟨up_eq, ?_, fun h => ?_, fun k j h => ?_⟩, _, im, c_xL, fun _ => ?_, fun h => absurd (by rw [hL]; rfl) h⟩
      · rw [up_j (by decide), up_eq]
        cases yxG (B b) with
        | false => rfl
        | true =>
          show B b = Int32.ofNat (B b).toNatClampNeg
          rw [ec, zi_n (by omega)]
      · exfalso
        cases hg : yxG (B b) with
        | false => rw [hg] at h; exact absurd h (show ¬ (1 : Nat) = 2 by decide)
        | true => rw [hg] at h; exact absurd h (show ¬ (8 : Nat) = 2 by decide)
      · by_cases e : k = 17
        · subst e
          rw [up_j (by omega), up_j (by omega)]
        · rw [up_k e, up_k e]
      · rw [h8, zi_n (show b < 2147483648 by omega), hB b hb]
        refine ⟨v160, _, im, c_xD, fun _ => ?_, fun h => absurd (by rw [hD]; rfl) h⟩
        rw [h8, zi_n (show b < 2147483648 by omega), hB b hb]
        refine ⟨v160, _, im, c_xG, fun h => ?_, fun h => ?_⟩
        · rw [zb_0] at h
          rw [h, h8, zi_s]
          exact ⟨rfl, rfl⟩
        · rw [zb_0, Bool.not_eq_false] at h
          rw [h, h8, zi_s, zi_n (show b < 2147483648 by omega), hB b hb]
          exact ⟨v160, rfl, rfl⟩
theorem yxTk_le {B : Nat → Int32} {n b : Nat} (h : b ≤ n) : b ≤ (yxTk B n b).2 ∧ (yxTk B n b).2 ≤ n ∧ (b < n → b < (yxTk B n b).2) := by
  unfold yxTk
  by_cases h1 : n ≤ b
  · rw [if_pos h1]
    exact ⟨Nat.le_refl _, h, fun h2 => absurd h1 (by omega)⟩
  · rw [if_neg h1]
    have hs : ∀ P : Int32 → Bool, P (B b) = true → b < yxW P B n b ∧ yxW P B n b ≤ n := fun P hP => by
      unfold yxW
      rw [show n - b = n - (b + 1) + 1 by omega]
      show b < (bif P (B b) then yxH P B n (n - (b + 1)) (b + 1) else b) ∧ (bif P (B b) then yxH P B n (n - (b + 1)) (b + 1) else b) ≤ n
      rw [hP, cond_true]
      have := yxH_le (P := P) (B := B) (n := n) (n - (b + 1)) (b + 1)
      omega
    cases hL : yxL (B b) with
    | true =>
      have := hs yxL hL
      show b ≤ yxW yxL B n b ∧ yxW yxL B n b ≤ n ∧ (b < n → b < yxW yxL B n b)
      omega
    | false =>
      cases hD : yxD (B b) with
      | true =>
        have := hs yxD hD
        show b ≤ yxW yxD B n b ∧ yxW yxD B n b ≤ n ∧ (b < n → b < yxW yxD B n b)
        omega
      | false =>
        show b ≤ b + 1 ∧ b + 1 ≤ n ∧ (b < n → b < b + 1)
        omega
theorem c_readToken {d n p : Nat} {B : Nat → Int32} {tl : List (Nat × Nat)} {q : zR} {im : zI} (hn : n ≤ 160) (hp : p ≤ n) (hBb : ∀ k, k < n → ∃ c, c < 256 ∧ B k = Int32.ofNat c) (h1 : im 17 1 = Int32.ofNat n) (hB : ∀ k, k < n → im 18 k = B k) (h8 : im 17 8 = Int32.ofNat p) :
    ∃ im', zEv (d + 4) 22 [.ref 17] (zMm tl q im) none (zMm tl q im') ∧ im' 17 6 = Int32.ofNat (yxW yxS B n p) ∧ im' 17 8 = Int32.ofNat (yxTk B n (yxW yxS B n p)).2 ∧ im' 17 5 = yxC (yxTk B n (yxW yxS B n p)).1 ∧ ((yxTk B n (yxW yxS B n p)).1.1 = 2 → im' 17 7 = Int32.ofNat (yxTk B n (yxW yxS B n p)).1.2) ∧
      ∀ k j, ¬ (k = 17 ∧ (j = 5 ∨ j = 6 ∨ j = 7 ∨ j = 8)) → im' k j = im k j := by
  have lp : ∀ (f p : Nat) (im : zI), p + f = n → im 17 1 = Int32.ofNat n → (∀ k, k < n → im 18 k = B k) → im 17 8 = Int32.ofNat p →
      ∃ im', zX (d + 3) zc_X7_readToken 0 [(0, .ref 17)] [] (zMm tl q im) (fun x y => x = none ∧ y = zMm tl q im') ∧ im' 17 6 = Int32.ofNat (yxH yxS B n f p) ∧ im' 17 8 = Int32.ofNat (yxTk B n (yxH yxS B n f p)).2 ∧ im' 17 5 = yxC (yxTk B n (yxH yxS B n f p)).1 ∧ ((yxTk B n (yxH yxS B n f p)).1.1 = 2 → im' 17 7 = Int32.ofNat (yxTk B n (yxH yxS B n f p)).1.2) ∧
        ∀ k j, ¬ (k = 17 ∧ (j = 5 ∨ j = 6 ∨ j = 7 ∨ j = 8)) → im' k j = im k j := by
    intro f
    induction f with
    | zero =>
      intro p im hp h1 hB h8
      have hle : im 17 1 ≤ im 17 8 := by
        rw [h1, h8]
        exact (zi_le (by omega) (by omega)).mpr (by omega)
      have hnl : ¬ im 17 8 < im 17 1 := Int32.not_lt.mpr hle
      have eT : yxTk B n p = ((0, 0), p) := by
        unfold yxTk
        rw [if_pos (by omega)]
      refine ⟨up2 (up2 im 17 6 (Int32.ofNat p)) 17 5 (-1), t_X7_readToken ⟨fun _ => ⟨fun h => absurd h hnl, fun _ => ?_⟩, fun h => absurd hle h⟩, ?_, ?_, ?_, ?_, fun k j h => ?_⟩
      · rw [h8]
        exact ⟨rfl, rfl⟩
      · rw [up_j (by decide), up_eq]
        rfl
      · show _ = Int32.ofNat (yxTk B n p).2
        rw [eT, up_j (by decide), up_j (by decide)]
        exact h8
      · show _ = yxC (yxTk B n p).1
        rw [eT, up_eq]
        rfl
      · show (yxTk B n p).1.1 = 2 → _
        rw [eT]
        exact fun h => absurd h (show ¬ (0 : Nat) = 2 by decide)
      · by_cases e : k = 17
        · subst e
          rw [up_j (by omega), up_j (by omega)]
        · rw [up_k e, up_k e]
    | succ f ih =>
      intro p im hp h1 hB h8
      have hle : ¬ im 17 1 ≤ im 17 8 := by
        rw [h1, h8]
        exact fun h => absurd ((zi_le (by omega) (by omega)).mp h) (by omega)
      have hlt : im 17 8 < im 17 1 := Int32.not_le.mp hle
      have v160 := zi_in (show p < 160 by omega) (show p < 2147483648 by omega)
      have hBp := hB p (by omega)
      have rec_ : yxS (B p) = true → ∃ im', zX (d + 3) zc_X7_readToken 0 [(0, .ref 17)] [] (zMm tl q (up2 im 17 8 (Int32.ofNat (p + 1)))) (fun x y => x = none ∧ y = zMm tl q im') ∧ im' 17 6 = Int32.ofNat (yxH yxS B n f (p + 1)) ∧ im' 17 8 = Int32.ofNat (yxTk B n (yxH yxS B n f (p + 1))).2 ∧ im' 17 5 = yxC (yxTk B n (yxH yxS B n f (p + 1))).1 ∧ ((yxTk B n (yxH yxS B n f (p + 1))).1.1 = 2 → im' 17 7 = Int32.ofNat (yxTk B n (yxH yxS B n f (p + 1))).1.2) ∧
          ∀ k j, ¬ (k = 17 ∧ (j = 5 ∨ j = 6 ∨ j = 7 ∨ j = 8)) → im' k j = im k j := fun _ => by
        obtain ⟨im', g1, g2, g3, g4, g5, g6⟩ := ih (p + 1) (up2 im 17 8 (Int32.ofNat (p + 1))) (by omega) (by rw [up_j (by decide)]; exact h1) (fun k hk => by rw [up_k (by decide)]; exact hB k hk) up_eq
        refine ⟨im', g1, g2, g3, g4, g5, fun k j h => ?_⟩
        rw [g6 k j h]
        by_cases e : k = 17
        · subst e
          exact up_j (by omega)
        · exact up_k e
      by_cases e32 : B p = 32
      · have hs : yxS (B p) = true := by unfold yxS; rw [decide_eq_true e32]; rfl
        have eH : yxH yxS B n (f + 1) p = yxH yxS B n f (p + 1) := by
          show (bif yxS (B p) then _ else _) = _
          rw [hs]
          rfl
        obtain ⟨im', g1, g2⟩ := rec_ hs
        rw [eH]
        refine ⟨im', t_X7_readToken ⟨fun h => absurd h hle, fun _ => ?_⟩, g2⟩
        rw [h8, zi_n (show p < 2147483648 by omega), zi_s, hBp]
        exact ⟨v160, fun _ => g1, fun h => absurd e32 h⟩
      · by_cases e10 : B p = 10
        · have hs : yxS (B p) = true := by unfold yxS; rw [decide_eq_true e10, Bool.or_true]
          have eH : yxH yxS B n (f + 1) p = yxH yxS B n f (p + 1) := by
            show (bif yxS (B p) then _ else _) = _
            rw [hs]
            rfl
          obtain ⟨im', g1, g2⟩ := rec_ hs
          rw [eH]
          refine ⟨im', t_X7_readToken ⟨fun h => absurd h hle, fun _ => ?_⟩, g2⟩
          rw [h8, zi_n (show p < 2147483648 by omega), zi_s, hBp]
          exact ⟨v160, fun h => absurd h e32, fun _ => ⟨v160, fun h => absurd e10 h, fun _ => g1⟩⟩
        · have hs : yxS (B p) = false := by unfold yxS; rw [decide_eq_false e10, decide_eq_false e32]; rfl
          have eH : yxH yxS B n (f + 1) p = p := by
            show (bif yxS (B p) then _ else _) = _
            rw [hs]
            rfl
          rw [eH]
          obtain ⟨im', ⟨g1, g2, g3, g4⟩, g5⟩ := c_xTk (d := d) (tl := tl) (q := q) (im := up2 im 17 6 (Int32.ofNat p)) (b := p) hn (by omega) hBb (by rw [up_j (by decide)]; exact h1) (fun k hk => by rw [up_k (by decide)]; exact hB k hk) (by rw [up_j (by decide)]; exact h8) up_eq
          refine ⟨im', t_X7_readToken ⟨fun h => absurd h hle, fun _ => ?_⟩, ?_, g1, g2, g3, fun k j h => ?_⟩
          · rw [h8, zi_n (show p < 2147483648 by omega), hBp]
            refine ⟨v160, fun h => absurd h e32, fun _ => ⟨v160, fun _ => ⟨fun _ => ⟨v160, g5⟩, fun h => absurd (h8 ▸ hlt) h⟩, fun h => absurd h e10⟩⟩
          · rw [g4 17 6 (by omega), up_eq]
          · rw [g4 k j (by omega)]
            by_cases e : k = 17
            · subst e
              exact up_j (by omega)
            · exact up_k e
  obtain ⟨im', g1, g2⟩ := lp (n - p) p im (by omega) h1 hB h8
  exact ⟨im', zEv_o rfl g1, g2⟩
