/-! THE MODEL: its rounds -/
theorem zi_dm : ∀ n : Fin 7, ∀ k : Fin 36, 0 < n.1 → Int32.ofNat k.1 / Int32.ofNat n.1 = Int32.ofNat (k.1 / n.1) ∧ Int32.ofNat k.1 - Int32.ofNat k.1 / Int32.ofNat n.1 * Int32.ofNat n.1 = Int32.ofNat (k.1 % n.1) := by decide +kernel
theorem zi_an : ∀ x y : Fin 64, Int32.ofNat x.1 &&& Int32.ofNat y.1 = Int32.ofNat (x.1 &&& y.1) := by decide +kernel
theorem m_look49 {d t : Nat} {r : Int32} {tl : List (Nat × Nat)} {q : zR} {im : zI} {V : yV} {S : Nat → Nat} {Z : zI → Option Value → zM → Prop} {Po : zI → Prop} (hG : yG V) (hB : yB im V) (hI : yIv V t S)
    (cont : ∀ im2, (∀ k, k ≠ 67 → im2 k = im k) → (∀ j, j < yvN V → im2 67 j = Int32.ofNat (yRd (yvN V) S (yvN V * yvN V) j)) → ∃ im', zX (d + 4) zc_X12_looksAt 44 [(0, .ref 47), (1, .int (Int32.ofNat t)), (2, .int (r + 1))] [] (zMm tl q im2) (Z im') ∧ Po im') :
    ∀ m k im1, k + m = yvN V * yvN V → (∀ k, k ≠ 67 → im1 k = im k) → (∀ j, j < yvN V → im1 67 j = Int32.ofNat (yRd (yvN V) S k j)) →
      ∃ im', zX (d + 4) zc_X12_looksAt 49 [(0, .ref 47), (1, .int (Int32.ofNat t)), (2, .int r), (3, .int (Int32.ofNat k))] [] (zMm tl q im1) (Z im') ∧ Po im' := by
  have hn := hG.1
  have hnn : yvN V * yvN V ≤ 36 := Nat.mul_le_mul hn hn
  have hmul : ∀ im1 : zI, (∀ k, k ≠ 67 → im1 k = im k) → im1 47 1 * im1 47 1 = Int32.ofNat (yvN V * yvN V) := fun im1 h => by rw [h 47 (by decide), hB.1, Int32.ofNat_mul]
  intro m
  induction m with
  | zero =>
    intro k im1 hk hF f67
    have e : k = yvN V * yvN V := by omega
    subst e
    obtain ⟨im', h1, h2⟩ := cont im1 hF f67
    refine ⟨im', t_X12_looksAt_49 ?_, h2⟩
    rw [hmul im1 hF]
    exact ⟨fun _ => h1, fun h => absurd ((zi_le (by omega) (by omega)).mpr (Nat.le_refl _)) h⟩
  | succ m ih =>
    intro k im1 hk hF f67
    have h0 : 0 < yvN V := by
      rcases Nat.eq_zero_or_pos (yvN V) with e | e
      · rw [e] at hk; omega
      · exact e
    obtain ⟨a1, a2⟩ := zi_dm ⟨yvN V, by omega⟩ ⟨k, by omega⟩ h0
    simp only at a1 a2
    have ha : k / yvN V < yvN V := Nat.div_lt_of_lt_mul (by omega)
    have hb : k % yvN V < yvN V := Nat.mod_lt _ h0
    have hIk := yRd_iv hI k (by omega)
    have e47 : im1 47 1 = Int32.ofNat (yvN V) := by rw [hF 47 (by decide)]; exact hB.1
    have hne : ¬ Int32.ofNat (yvN V) = 0 := fun h => by
      have := (zi_eq (b := 0) (by omega) (by omega)).mp h
      omega
    have hs1 := (hIk _ ha).1
    have hs2 := (hIk _ hb).1
    have va := zi_in (show k / yvN V < 6 by omega) (show k / yvN V < 2147483648 by omega)
    have vb := zi_in (show k % yvN V < 6 by omega) (show k % yvN V < 2147483648 by omega)
    have hR : yRd (yvN V) S (k + 1) = yMg (yRd (yvN V) S k) (k / yvN V) (k % yvN V) := rfl
    have hand : Int32.ofNat (yRd (yvN V) S k (k / yvN V)) &&& Int32.ofNat (yRd (yvN V) S k (k % yvN V)) = (0 : Int32) ↔ yRd (yvN V) S k (k / yvN V) &&& yRd (yvN V) S k (k % yvN V) = 0 := by
      have hl : yRd (yvN V) S k (k / yvN V) &&& yRd (yvN V) S k (k % yvN V) < 64 := Nat.and_lt_two_pow (n := 6) _ hs2
      rw [zi_an ⟨_, hs1⟩ ⟨_, hs2⟩]
      exact zi_eq (b := 0) (show yRd (yvN V) S k (k / yvN V) &&& yRd (yvN V) S k (k % yvN V) < 2147483648 by omega) (by omega)
    by_cases hc : yRd (yvN V) S k (k / yvN V) &&& yRd (yvN V) S k (k % yvN V) = 0
    · obtain ⟨im', h1, h2⟩ := ih (k + 1) im1 (by omega) hF (by rw [hR]; unfold yMg; rw [if_pos hc]; exact f67)
      refine ⟨im', t_X12_looksAt_49 ?_, h2⟩
      rw [hmul im1 hF, e47, a2, a1, zi_n (show k / yvN V < 2147483648 by omega), zi_n (show k % yvN V < 2147483648 by omega), f67 _ ha, f67 _ hb, hand, zi_s]
      exact ⟨fun h => absurd ((zi_le (by omega) (by omega)).mp h) (by omega), fun _ => ⟨hne, hne, va, vb, fun _ => h1, fun h => absurd hc h⟩⟩
    · have hor := zi_or ⟨_, hs1⟩ ⟨_, hs2⟩
      simp only at hor
      obtain ⟨im', h1, h2⟩ := ih (k + 1) (up2 (up2 im1 67 (k / yvN V) (Int32.ofNat (yRd (yvN V) S k (k / yvN V) ||| yRd (yvN V) S k (k % yvN V)))) 67 (k % yvN V) (Int32.ofNat (yRd (yvN V) S k (k / yvN V) ||| yRd (yvN V) S k (k % yvN V)))) (by omega) (fun c hc => by rw [up_r hc, up_r hc]; exact hF c hc) (fun j hj => by
        rw [hR]
        unfold yMg
        rw [if_neg hc]
        show _ = Int32.ofNat (if j = k % yvN V then _ else if j = k / yvN V then _ else _)
        by_cases e1 : j = k % yvN V
        · rw [if_pos e1, e1, up_eq]
        · rw [if_neg e1, up_j e1]
          by_cases e2 : j = k / yvN V
          · rw [if_pos e2, e2, up_eq]
          · rw [if_neg e2, up_j e2]
            exact f67 j hj)
      refine ⟨im', t_X12_looksAt_49 ?_, h2⟩
      rw [hmul im1 hF, e47, a2, a1, zi_n (show k / yvN V < 2147483648 by omega), zi_n (show k % yvN V < 2147483648 by omega), f67 _ ha, f67 _ hb, hand, hor, zi_s]
      exact ⟨fun h => absurd ((zi_le (by omega) (by omega)).mp h) (by omega), fun _ => ⟨hne, hne, va, vb, fun h => absurd h hc, fun _ => ⟨va, vb, va, vb, h1⟩⟩⟩
theorem yIv_0 {V : yV} {t : Nat} (hn : yvN V ≤ 6) : yIv V t (yJs V t) := by
  intro a ha
  have hbit : ∀ x, (yJs V t a).testBit x = true → x = a ∨ ∃ k, yJb V t a = true ∧ yJn V t a = Int32.ofNat k ∧ k < yvN V ∧ x = k := fun x hx => by
    unfold yJs at hx
    rw [Nat.testBit_or, Bool.or_eq_true, Nat.testBit_two_pow, decide_eq_true_eq] at hx
    rcases hx with h | h
    · exact .inl h.symm
    · cases hb : yJb V t a with
      | false => rw [hb, cond_false, Nat.zero_testBit] at h; cases h
      | true =>
        obtain ⟨k, hk, ek⟩ := yJb_ex hn hb
        rw [hb, cond_true, ek, zi_n (by omega), Nat.testBit_two_pow, decide_eq_true_eq] at h
        exact .inr ⟨k, rfl, ek, hk, h.symm⟩
  refine ⟨?_, ?_, fun x hx => ?_, fun k h1 h2 h3 => ?_⟩
  · unfold yJs
    refine or_64 (p2_64 (by omega)) ?_
    cases hb : yJb V t a with
    | false => show 0 < 64; omega
    | true =>
      obtain ⟨k, hk, ek⟩ := yJb_ex hn hb
      rw [cond_true, ek, zi_n (by omega)]
      exact p2_64 (by omega)
  · unfold yJs
    rw [Nat.testBit_or, Nat.testBit_two_pow, decide_eq_true rfl, Bool.true_or]
  · rcases hbit x hx with h | ⟨k, h1, h2, h3, h4⟩
    · rw [h]; exact ⟨ha, rfl⟩
    · rw [h4]; exact ⟨h3, (yOr_jn hn ha h1 h2 h3).symm⟩
  · unfold yJs
    rw [Nat.testBit_or, h1, cond_true, h2, zi_n (by omega), Nat.testBit_two_pow, Nat.testBit_two_pow, decide_eq_true (p := k = k) rfl, Bool.or_true]
theorem m_look44 {d t : Nat} {tl : List (Nat × Nat)} {q : zR} {im : zI} {V : yV} (hG : yG V) (hB : yB im V) :
    ∀ m r im1, r + m = 6 → (∀ k, k ≠ 67 → im1 k = im k) → (∀ j, j < yvN V → im1 67 j = Int32.ofNat (yRn (yvN V) (yJs V t) r j)) →
      ∃ im', zX (d + 4) zc_X12_looksAt 44 [(0, .ref 47), (1, .int (Int32.ofNat t)), (2, .int (Int32.ofNat r))] [] (zMm tl q im1) (fun a b => a = none ∧ b = zMm tl q im') ∧ ((∀ j, j < yvN V → im' 67 j = Int32.ofNat (yOn V t j)) ∧ (∀ k, k ≠ 67 → im' k = im k)) := by
  have hn := hG.1
  intro m
  induction m with
  | zero =>
    intro r im1 hr hF f67
    have e : r = 6 := by omega
    subst e
    refine ⟨im1, t_X12_looksAt_44 ⟨fun _ => ⟨rfl, rfl⟩, fun h => absurd (by decide) h⟩, fun j hj => ?_, hF⟩
    rw [f67 j hj, yRn_6 hn (yIv_0 hn) hj]
  | succ m ih =>
    intro r im1 hr hF f67
    obtain ⟨im', h1, h2⟩ := m_look49 (d := d) (t := t) (r := Int32.ofNat r) (tl := tl) (q := q) (S := yRn (yvN V) (yJs V t) r) (Z := fun im' a b => a = none ∧ b = zMm tl q im') (Po := fun im' => (∀ j, j < yvN V → im' 67 j = Int32.ofNat (yOn V t j)) ∧ (∀ k, k ≠ 67 → im' k = im k)) hG hB (yRn_iv (yIv_0 hn) r) (fun im2 a b => by
      rw [zi_s]
      exact ih (r + 1) im2 (by omega) a b) (yvN V * yvN V) 0 im1 (by omega) hF f67
    refine ⟨im', t_X12_looksAt_44 ⟨fun h => absurd ((zi_le (a := 6) (by omega) (by omega)).mp h) (by omega), fun _ => h1⟩, h2⟩
theorem m_looksAt {d t : Nat} {tl : List (Nat × Nat)} {q : zR} {im : zI} {V : yV} (hG : yG V) (hB : yB im V) (ht : t < 12) :
    ∃ im', zEv (d + 5) 170 [.ref 47, .int (Int32.ofNat t)] (zMm tl q im) none (zMm tl q im') ∧ im' 47 36 = Int32.ofNat (yMk (ySd V t) (yvN V)) ∧ (∀ j, j < yvN V → im' 67 j = Int32.ofNat (yOn V t j)) ∧ (∀ j, j < yvN V → im' 68 j = yWo V (yvR V) t j) ∧ yFb im im' := by
  obtain ⟨im', h1, h2⟩ := m_look5 (d := d) (tl := tl) (q := q) (im := im) (Z := fun im' a b => a = none ∧ b = zMm tl q im') (Po := fun im' => im' 47 36 = Int32.ofNat (yMk (ySd V t) (yvN V)) ∧ (∀ j, j < yvN V → im' 67 j = Int32.ofNat (yOn V t j)) ∧ (∀ j, j < yvN V → im' 68 j = yWo V (yvR V) t j) ∧ yFb im im') hG hB ht (fun im2 a b c e => by
      obtain ⟨im', g1, g2, g3⟩ := m_look44 (d := d) (t := t) (tl := tl) (q := q) hG (yB_fr hB a.fr) 6 0 im2 (by omega) (fun _ _ => rfl) c
      refine ⟨im', g1, by rw [g3 47 (by decide)]; exact b, g2, by rw [g3 68 (by decide)]; exact e, a.tr (yFb.of 67 (by decide) g3)⟩) (yvN V) 0 (up2 im 47 36 0) (by omega) yFb.st up_eq (fun j hj => absurd hj (by omega)) (fun j hj => absurd hj (by omega))
  exact ⟨im', zEv_o rfl (t_X12_looksAt h1), h2⟩
/-- the Model's top of a tide -/
def yTm (V : yV) (t : Nat) (im : zI) : Prop := yMo im (yvN V) (yvM V) (yWo V (yvR V) t) (ySd V t) (yOn V t) (yRo V t) (ySp V t) ∧ im 47 36 = Int32.ofNat (yMk (ySd V t) (yvN V)) ∧ (∀ p, p < yvM V → im 70 p = yAh V p t)
theorem ySp_pl {V : yV} {t p : Nat} (hG : yG V) (ht : t < 12) (hp : p < yvM V) : ySp V t p = -1 ∨ ∃ k, k < yvN V ∧ ySp V t p = Int32.ofNat k := by
  unfold ySp
  rw [if_pos hp]
  exact hG.2.2.2.2.2.1 p hp t ht
theorem m_comesTo {d t : Nat} {tl : List (Nat × Nat)} {q : zR} {im : zI} {V : yV} (hG : yG V) (hB : yB im V) (ht : t < 12) :
    ∃ im', zEv (d + 6) 173 [.ref 47, .int (Int32.ofNat t)] (zMm tl q im) none (zMm tl q im') ∧ yTm V t im' ∧ yFb im im' := by
  have hn := hG.1
  have hm := hG.2.1
  obtain ⟨im1, g1, g2, g3, g4, g5⟩ := m_looksAt (d := d) (tl := tl) (q := q) hG hB ht
  have lp : ∀ m p im2, p + m = yvM V → (∀ k, k ≠ 69 → k ≠ 70 → im2 k = im1 k) → (∀ p', p' < p → im2 69 p' = ySp V t p') → (∀ p', p' < p → im2 70 p' = yAh V p' t) →
      ∃ im', zX (d + 5) zc_X12_comesTo 5 [(0, .ref 47), (1, .int (Int32.ofNat t)), (2, .int (Int32.ofNat p))] [] (zMm tl q im2) (fun a b => a = none ∧ b = zMm tl q im') ∧ yTm V t im' ∧ yFb im im' := by
    intro m
    induction m with
    | zero =>
      intro p im2 hp hF f69 f70
      have e : p = yvM V := by omega
      subst e
      have hFb : yFb im im2 := g5.tr (yFb.of2 69 70 (by decide) (by decide) hF)
      have hB2 := yB_fr hB hFb.fr
      refine ⟨im2, t_X12_comesTo_5 ?_, ⟨⟨yOn_zRt hn, hm, hB2.1, hB2.2.1, fun i hi => ?_, ?_, ?_, f69, fun p hp => ySp_pl hG ht hp⟩, ?_, f70⟩, hFb⟩
      · rw [hB2.2.1]
        exact ⟨fun _ => ⟨rfl, rfl⟩, fun h => absurd ((zi_le (by omega) (by omega)).mpr (Nat.le_refl _)) h⟩
      · rw [hF 47 (by decide) (by decide), g2, zBt_nat ⟨_, yMk_lt (f := ySd V t) (n := 6) _ hn⟩ ⟨i, by omega⟩, yMk_bit, decide_eq_true hi, Bool.true_and]
      · rw [hF 67 (by decide) (by decide)]; exact g3
      · rw [hF 68 (by decide) (by decide)]; exact g4
      · rw [hF 47 (by decide) (by decide)]; exact g2
    | succ m ih =>
      intro p im2 hp hF f69 f70
      have hFb : yFb im im2 := g5.tr (yFb.of2 69 70 (by decide) (by decide) hF)
      have hB2 := yB_fr hB hFb.fr
      have e1 : ((12 : Int32) * Int32.ofNat p) + Int32.ofNat t = Int32.ofNat (12 * p + t) := by rw [Int32.ofNat_add, Int32.ofNat_mul]; rfl
      have hP : im2 53 (12 * p + t) = ySp V t p := by rw [hB2.2.2.2.2.2.1 p (by omega) t ht]; unfold ySp; rw [if_pos (by omega)]
      have v4 := zi_in (show p < 4 by omega) (show p < 2147483648 by omega)
      have hA0 : ∀ x, x = yAh V p t → ∃ im', zX (d + 5) zc_X12_comesTo 5 [(0, .ref 47), (1, .int (Int32.ofNat t)), (2, .int (Int32.ofNat (p + 1)))] [] (zMm tl q (up2 (up2 im2 69 p (ySp V t p)) 70 p x)) (fun a b => a = none ∧ b = zMm tl q im') ∧ yTm V t im' ∧ yFb im im' := fun x hx => by
        refine ih (p + 1) _ (by omega) (fun k h1 h2 => by rw [up_r h2, up_r h1]; exact hF k h1 h2) (fun j hj => ?_) (fun j hj => ?_)
        · rw [up_k (by decide)]
          by_cases e : j = p
          · subst e; exact up_eq
          · rw [up_j e]; exact f69 j (by omega)
        · by_cases e : j = p
          · subst e; rw [up_eq]; exact hx
          · rw [up_j e, up_k (by decide)]; exact f70 j (by omega)
      by_cases e0 : t = 0
      · obtain ⟨im', h1, h2⟩ := hA0 (-1) (by unfold yAh; rw [if_pos e0])
        refine ⟨im', t_X12_comesTo_5 ?_, h2⟩
        rw [hB2.2.1, e1, zi_n (show 12 * p + t < 2147483648 by omega), zi_n (show p < 2147483648 by omega), zi_s, hP]
        refine ⟨fun h => absurd ((zi_le (by omega) (by omega)).mp h) (by omega), fun _ => ⟨zi_in (by omega) (by omega), v4, fun h => ?_, fun _ => ⟨v4, h1⟩⟩⟩
        exact absurd (by rw [e0]; rfl) h
      · obtain ⟨im', h1, h2⟩ := hA0 (im2 53 (12 * p + t - 1)) (by
          unfold yAh
          rw [if_neg e0, show 12 * p + t - 1 = 12 * p + (t - 1) by omega]
          exact hB2.2.2.2.2.2.1 p (by omega) (t - 1) (by omega))
        refine ⟨im', t_X12_comesTo_5 ?_, h2⟩
        rw [hB2.2.1, e1, zi_p (show 1 ≤ 12 * p + t by omega), zi_n (show 12 * p + t < 2147483648 by omega), zi_n (show 12 * p + t - 1 < 2147483648 by omega), zi_n (show p < 2147483648 by omega), zi_s, hP]
        refine ⟨fun h => absurd ((zi_le (by omega) (by omega)).mp h) (by omega), fun _ => ⟨zi_in (by omega) (by omega), v4, fun _ => ⟨zi_in (by omega) (by omega), v4, h1⟩, fun h => ?_⟩⟩
        exact absurd ((zi_eq (b := 0) (by omega) (by omega)).mp h) e0
  obtain ⟨im', h1, h2⟩ := lp (yvM V) 0 im1 (by omega) (fun _ _ _ => rfl) (fun j hj => absurd hj (by omega)) (fun j hj => absurd hj (by omega))
  exact ⟨im', zEv_o rfl (t_X12_comesTo ⟨im1, g1, h1⟩), h2⟩
