/-! THE MODEL READS A TOKEN: next -/
def yxMt (T : Nat × Nat) : Int32 := if T.1 = 0 then 0 else if T.1 = 1 then -1 else if T.1 = 2 then 1 else if T.1 = 3 then 3 else if T.1 = 4 then 4 else if T.1 = 5 then 5 else if T.1 = 6 then 6 else if T.1 = 7 then 2 else Int32.ofNat T.2
def yxTo (k : Nat) : Int32 := [3, 3, 3, 2, 2, 2, 2, 2, 2, 4, 5, 6, -1].getD k 0
def yxVa (k : Nat) : Int32 := [0, 1, 2, 0, 1, 2, 3, 4, 5, 6, 7, 8, 9].getD k 0
theorem yxTV : ∀ k, k < 13 → (9 ≤ k → k ≠ 12 → (4 : Int32) + Int32.ofNat k - 9 = yxTo k) ∧ (3 ≤ k → Int32.ofNat k - 3 = yxVa k) ∧ (k < 3 → Int32.ofNat k = yxVa k ∧ yxTo k = 3) ∧ (3 ≤ k → k < 9 → yxTo k = 2) ∧ (k = 12 → yxTo k = -1) := by decide
theorem yxTK : ∀ k, k < 12 → yxMt (yxK (yxP k)) = yxTo k ∧ ((yxK (yxP k)).1 = 2 ∨ (yxK (yxP k)).1 = 3 ∨ (yxK (yxP k)).1 = 7 → yxVa k = Int32.ofNat (yxK (yxP k)).2) := by decide
theorem zi_dl {a b : Int32} : decide (a ≤ b) = !decide (b < a) := by
  by_cases h : b < a
  · rw [decide_eq_true h, decide_eq_false (Int32.not_le.mpr h)]; rfl
  · rw [decide_eq_false h, decide_eq_true (Int32.not_lt.mp h)]; rfl
theorem m_xL {d : Nat} {v : Int32} {tl : List (Nat × Nat)} {q : zR} {im : zI} : zEv (d + 1) 136 [.int v, .int (97 : Int32), .int (122 : Int32)] (zMm tl q im) (some (.int (zb (yxL v)))) (zMm tl q im) := by
  have := m_in (d := d) (tl := tl) (q := q) (im := im) (v := v) (a := 97) (b := 122)
  rw [zi_dl, zi_dl] at this
  exact this
theorem m_xD {d : Nat} {v : Int32} {tl : List (Nat × Nat)} {q : zR} {im : zI} : zEv (d + 1) 136 [.int v, .int (48 : Int32), .int (57 : Int32)] (zMm tl q im) (some (.int (zb (yxD v)))) (zMm tl q im) := by
  have := m_in (d := d) (tl := tl) (q := q) (im := im) (v := v) (a := 48) (b := 57)
  rw [zi_dl, zi_dl] at this
  exact this
theorem m_nW {d n b : Nat} {x1 : Int32} {B : Nat → Int32} {tl : List (Nat × Nat)} {q : zR} (hn : n ≤ 160) :
    ∀ (f p : Nat) (im : zI), p + f = n → b ≤ p → im 47 9 = Int32.ofNat n → (∀ k, k < n → im 54 k = B k) → yWw im → im 47 24 = Int32.ofNat p → im 47 25 = Int32.ofNat b → (∀ i, b ≤ i → i < p → yxL (B i) = true) →
      ∃ im', zX (d + 1) zc_X12_next 53 [(0, .ref 47), (1, .int x1)] [] (zMm tl q im) (fun x y => x = none ∧ y = zMm tl q im') ∧ im' 47 24 = Int32.ofNat (yxH yxL B n f p) ∧ im' 47 26 = yxMt (yxF B b (yxH yxL B n f p) 12) ∧
        ((yxF B b (yxH yxL B n f p) 12).1 = 2 ∨ (yxF B b (yxH yxL B n f p) 12).1 = 3 ∨ (yxF B b (yxH yxL B n f p) 12).1 = 7 → im' 47 27 = Int32.ofNat (yxF B b (yxH yxL B n f p) 12).2) ∧ ∀ k j, ¬ (k = 47 ∧ (j = 24 ∨ j = 26 ∨ j = 27)) → im' k j = im k j := by
  intro f
  have fin : ∀ (p : Nat) (im : zI), p ≤ n → b ≤ p → (∀ k, k < n → im 54 k = B k) → yWw im → im 47 24 = Int32.ofNat p → im 47 25 = Int32.ofNat b → (∀ i, b ≤ i → i < p → yxL (B i) = true) →
      ∃ im', (im' 47 24 = Int32.ofNat p ∧ im' 47 26 = yxMt (yxF B b p 12) ∧ ((yxF B b p 12).1 = 2 ∨ (yxF B b p 12).1 = 3 ∨ (yxF B b p 12).1 = 7 → im' 47 27 = Int32.ofNat (yxF B b p 12).2) ∧ ∀ k j, ¬ (k = 47 ∧ (j = 24 ∨ j = 26 ∨ j = 27)) → im' k j = im k j) ∧
        ∃ (v3 : Int32) (im2 : zI), zEv (d + 1) 149 [.ref 47, .int (im 47 25), .int (im 47 24)] (zMm tl q im) (some (.int v3)) (zMm tl q im2) ∧ (((3 : Int32) ≤ v3 → (((9 : Int32) ≤ v3 → ((¬ v3 = (12 : Int32) → (((3 : Int32) ≤ v3 → ((none : Option Value) = none ∧ zMm tl q ((up2 (up2 im2 47 26 (((4 : Int32) + v3) - (9 : Int32))) 47 27 (v3 - (3 : Int32)))) = zMm tl q im')) ∧ (¬ (3 : Int32) ≤ v3 → ((none : Option Value) = none ∧ zMm tl q ((up2 (up2 im2 47 26 (((4 : Int32) + v3) - (9 : Int32))) 47 27 v3)) = zMm tl q im')))) ∧ (v3 = (12 : Int32) → (((3 : Int32) ≤ v3 → ((none : Option Value) = none ∧ zMm tl q ((up2 (up2 im2 47 26 (-1 : Int32)) 47 27 (v3 - (3 : Int32)))) = zMm tl q im')) ∧ (¬ (3 : Int32) ≤ v3 → ((none : Option Value) = none ∧ zMm tl q ((up2 (up2 im2 47 26 (-1 : Int32)) 47 27 v3)) = zMm tl q im')))))) ∧ (¬ (9 : Int32) ≤ v3 → (((3 : Int32) ≤ v3 → ((none : Option Value) = none ∧ zMm tl q ((up2 (up2 im2 47 26 (2 : Int32)) 47 27 (v3 - (3 : Int32)))) = zMm tl q im')) ∧ (¬ (3 : Int32) ≤ v3 → ((none : Option Value) = none ∧ zMm tl q ((up2 (up2 im2 47 26 (2 : Int32)) 47 27 v3)) = zMm tl q im')))))) ∧ (¬ (3 : Int32) ≤ v3 → (((3 : Int32) ≤ v3 → ((none : Option Value) = none ∧ zMm tl q ((up2 (up2 im2 47 26 (3 : Int32)) 47 27 (v3 - (3 : Int32)))) = zMm tl q im')) ∧ (¬ (3 : Int32) ≤ v3 → ((none : Option Value) = none ∧ zMm tl q ((up2 (up2 im2 47 26 (3 : Int32)) 47 27 v3)) = zMm tl q im'))))) := by
    intro p im hp hb hB hW h24 h25 hL
    obtain ⟨k, g1, g2⟩ := m_wordFrom (d := d) (tl := tl) (q := q) (im := im) hn hp hb hB hW
    have hk : k < 13 := by omega
    obtain ⟨t1, t2, t3, t4, t5⟩ := yxTV k hk
    have hT : yxMt (yxF B b p 12) = yxTo k ∧ ((yxF B b p 12).1 = 2 ∨ (yxF B b p 12).1 = 3 ∨ (yxF B b p 12).1 = 7 → yxVa k = Int32.ofNat (yxF B b p 12).2) := by
      rcases g2 with ⟨a1, a2⟩ | ⟨a1, a2⟩
      · rw [yxF_t (yxP_f k a1).1 ((yxE_M a1 hL).mp a2)]
        exact yxTK k a1
      · subst a1
        have : yxF B b p 12 = (1, 0) := yxF_n fun w hw => by
          obtain ⟨j, hj, rfl⟩ := yxP_s w hw
          exact Bool.eq_false_iff.mpr fun hh => a2 j hj ((yxE_M hj hL).mpr hh)
        rw [this]
        exact ⟨rfl, fun h => absurd h (show ¬ ((1 : Nat) = 2 ∨ (1 : Nat) = 3 ∨ (1 : Nat) = 7) by decide)⟩
    refine ⟨up2 (up2 im 47 26 (yxTo k)) 47 27 (yxVa k), ⟨?_, ?_, fun h => ?_, fun k' j h => ?_⟩, Int32.ofNat k, im, ?_, fun h3 => ⟨fun h9 => ⟨fun h12 => ⟨fun _ => ?_, fun h => absurd h3 h⟩, fun h12 => ⟨fun _ => ?_, fun h => absurd h3 h⟩⟩, fun h9 => ⟨fun _ => ?_, fun h => absurd h3 h⟩⟩, fun h3 => ⟨fun h => absurd h h3, fun _ => ?_⟩⟩
    · rw [up_j (by decide), up_j (by decide)]; exact h24
    · rw [up_j (by decide), up_eq]; exact hT.1.symm
    · rw [up_eq]; exact hT.2 h
    · by_cases e : k' = 47
      · subst e
        rw [up_j (by omega), up_j (by omega)]
      · rw [up_k e, up_k e]
    · rw [h25, h24]; exact g1
    · have k3 := (zi_le (a := 3) (by omega) (by omega)).mp h3
      have k9 := (zi_le (a := 9) (by omega) (by omega)).mp h9
      have k12 : k ≠ 12 := fun e => h12 (by rw [e]; rfl)
      rw [t1 k9 k12, t2 k3]
      exact ⟨rfl, rfl⟩
    · have k12 := (zi_eq (b := 12) (by omega) (by omega)).mp h12
      rw [t5 k12, t2 (by omega)]
      exact ⟨rfl, rfl⟩
    · have k3 := (zi_le (a := 3) (by omega) (by omega)).mp h3
      have k9 : k < 9 := Nat.lt_of_not_le fun hh => h9 ((zi_le (a := 9) (by omega) (by omega)).mpr hh)
      rw [t4 k3 k9, t2 k3]
      exact ⟨rfl, rfl⟩
    · have k3 : k < 3 := Nat.lt_of_not_le fun hh => h3 ((zi_le (a := 3) (by omega) (by omega)).mpr hh)
      rw [(t3 k3).1, (t3 k3).2]
      exact ⟨rfl, rfl⟩
  induction f with
  | zero =>
    intro p im hp hb h9 hB hW h24 h25 hL
    obtain ⟨im', g1, g2⟩ := fin p im (by omega) hb hB hW h24 h25 hL
    refine ⟨im', t_X12_next_53 ⟨fun _ => g2, fun h => absurd ?_ h⟩, g1⟩
    rw [h9, h24]
    exact (zi_le (by omega) (by omega)).mpr (by omega)
  | succ f ih =>
    intro p im hp hb h9 hB hW h24 h25 hL
    have hlt : ¬ im 47 9 ≤ im 47 24 := by
      rw [h9, h24]
      exact fun h => absurd ((zi_le (by omega) (by omega)).mp h) (by omega)
    have v160 := zi_in (show p < 160 by omega) (show p < 2147483648 by omega)
    have hz : im 54 (im 47 24).toNatClampNeg = B p := by rw [h24, zi_n (by omega), hB p (by omega)]
    unfold yxH
    cases hd : yxL (B p) with
    | false =>
      rw [cond_false]
      obtain ⟨im', g1, g2⟩ := fin p im (by omega) hb hB hW h24 h25 hL
      refine ⟨im', t_X12_next_53 ⟨fun h => absurd h hlt, fun _ => ⟨by rw [h24]; exact v160, _, im, m_xL, fun _ => g2, fun h => absurd ?_ h⟩⟩, g1⟩
      rw [hz, hd]
      rfl
    | true =>
      rw [cond_true]
      obtain ⟨im', g1, g2, g3, g4, g5⟩ := ih (p + 1) (up2 im 47 24 (Int32.ofNat (p + 1))) (by omega) (by omega) (by rw [up_j (by decide)]; exact h9) (fun k hk => by rw [up_k (by decide)]; exact hB k hk) (fun j hj => by rw [up_k (by decide)]; exact hW j hj) up_eq (by rw [up_j (by decide)]; exact h25) (fun i a1 a2 => by
        by_cases e : i = p
        · subst e; exact hd
        · exact hL i a1 (by omega))
      refine ⟨im', t_X12_next_53 ⟨fun h => absurd h hlt, fun _ => ⟨by rw [h24]; exact v160, _, im, m_xL, fun h => absurd h (by rw [hz, hd]; exact n10), fun _ => ?_⟩⟩, g2, g3, g4, fun k j h => ?_⟩
      · rw [h24, zi_s]
        exact g1
      · rw [g5 k j h]
        by_cases e : k = 47
        · subst e
          exact up_j (by omega)
        · exact up_k e
theorem m_nN {d n b : Nat} {x1 : Int32} {B : Nat → Int32} {tl : List (Nat × Nat)} {q : zR} (hn : n ≤ 160) :
    ∀ (f p : Nat) (im : zI), p + f = n → b ≤ p → im 47 9 = Int32.ofNat n → (∀ k, k < n → im 54 k = B k) → im 47 24 = Int32.ofNat p → (p - b ≤ 4 → im 47 27 = yxI B b (p - b)) →
      ∃ im', zX (d + 1) zc_X12_next 121 [(0, .ref 47), (1, .int x1), (2, .int (Int32.ofNat (p - b)))] [] (zMm tl q im) (fun x y => x = none ∧ y = zMm tl q im') ∧ im' 47 24 = Int32.ofNat (yxH yxD B n f p) ∧ im' 47 26 = (if 4 < yxH yxD B n f p - b then -1 else 1) ∧ (yxH yxD B n f p - b ≤ 4 → im' 47 27 = yxI B b (yxH yxD B n f p - b)) ∧
        ∀ k j, ¬ (k = 47 ∧ (j = 24 ∨ j = 26 ∨ j = 27)) → im' k j = im k j := by
  intro f
  have fin : ∀ (p : Nat) (im : zI), p ≤ n → b ≤ p → im 47 24 = Int32.ofNat p → (p - b ≤ 4 → im 47 27 = yxI B b (p - b)) →
      ∃ im', (im' 47 24 = Int32.ofNat p ∧ im' 47 26 = (if 4 < p - b then -1 else 1) ∧ (p - b ≤ 4 → im' 47 27 = yxI B b (p - b)) ∧ ∀ k j, ¬ (k = 47 ∧ (j = 24 ∨ j = 26 ∨ j = 27)) → im' k j = im k j) ∧
        ((Int32.ofNat (p - b) ≤ (4 : Int32) → ((none : Option Value) = none ∧ zMm tl q (up2 im 47 26 (1 : Int32)) = zMm tl q im')) ∧ (¬ Int32.ofNat (p - b) ≤ (4 : Int32) → ((none : Option Value) = none ∧ zMm tl q (up2 im 47 26 (-1 : Int32)) = zMm tl q im'))) := by
    intro p im hp hb h24 h27
    refine ⟨up2 im 47 26 (if 4 < p - b then -1 else 1), ⟨by rw [up_j (by decide)]; exact h24, up_eq, fun h => by rw [up_j (by decide)]; exact h27 h, fun k j h => ?_⟩, fun h => ?_, fun h => ?_⟩
    · by_cases e : k = 47
      · subst e
        exact up_j (by omega)
      · exact up_k e
    · have := (zi_le (b := 4) (by omega) (by omega)).mp h
      rw [if_neg (by omega)]
      exact ⟨rfl, rfl⟩
    · have : ¬ p - b ≤ 4 := fun hh => h ((zi_le (b := 4) (by omega) (by omega)).mpr hh)
      rw [if_pos (by omega)]
      exact ⟨rfl, rfl⟩
  induction f with
  | zero =>
    intro p im hp hb h9 hB h24 h27
    obtain ⟨im', g1, g2⟩ := fin p im (by omega) hb h24 h27
    refine ⟨im', t_X12_next_121 ⟨fun _ => g2, fun h => absurd ?_ h⟩, g1⟩
    rw [h9, h24]
    exact (zi_le (by omega) (by omega)).mpr (by omega)
  | succ f ih =>
    intro p im hp hb h9 hB h24 h27
    have hlt : ¬ im 47 9 ≤ im 47 24 := by
      rw [h9, h24]
      exact fun h => absurd ((zi_le (by omega) (by omega)).mp h) (by omega)
    have v160 := zi_in (show p < 160 by omega) (show p < 2147483648 by omega)
    have hz : im 54 (im 47 24).toNatClampNeg = B p := by rw [h24, zi_n (by omega), hB p (by omega)]
    unfold yxH
    cases hd : yxD (B p) with
    | false =>
      rw [cond_false]
      obtain ⟨im', g1, g2⟩ := fin p im (by omega) hb h24 h27
      refine ⟨im', t_X12_next_121 ⟨fun h => absurd h hlt, fun _ => ⟨by rw [h24]; exact v160, _, im, m_xD, fun _ => g2, fun h => absurd ?_ h⟩⟩, g1⟩
      rw [hz, hd]
      rfl
    | true =>
      rw [cond_true]
      have nx : ∀ v : Int32, (p + 1 - b ≤ 4 → v = yxI B b (p + 1 - b)) → ∃ im', zX (d + 1) zc_X12_next 121 [(0, .ref 47), (1, .int x1), (2, .int (Int32.ofNat (p + 1 - b)))] [] (zMm tl q (up2 (up2 im 47 27 v) 47 24 (Int32.ofNat (p + 1)))) (fun x y => x = none ∧ y = zMm tl q im') ∧ im' 47 24 = Int32.ofNat (yxH yxD B n f (p + 1)) ∧ im' 47 26 = (if 4 < yxH yxD B n f (p + 1) - b then -1 else 1) ∧ (yxH yxD B n f (p + 1) - b ≤ 4 → im' 47 27 = yxI B b (yxH yxD B n f (p + 1) - b)) ∧
          ∀ k j, ¬ (k = 47 ∧ (j = 24 ∨ j = 26 ∨ j = 27)) → im' k j = im k j := by
        intro v hv
        obtain ⟨im', g1, g2, g3, g4, g5⟩ := ih (p + 1) (up2 (up2 im 47 27 v) 47 24 (Int32.ofNat (p + 1))) (by omega) (by omega) (by rw [up_j (by decide), up_j (by decide)]; exact h9) (fun k hk => by rw [up_k (by decide), up_k (by decide)]; exact hB k hk) up_eq (fun h => by rw [up_j (by decide), up_eq]; exact hv h)
        refine ⟨im', g1, g2, g3, g4, fun k j h => ?_⟩
        rw [g5 k j h]
        by_cases e : k = 47
        · subst e
          rw [up_j (by omega), up_j (by omega)]
        · rw [up_k e, up_k e]
      have es : Int32.ofNat (p - b) + 1 = Int32.ofNat (p + 1 - b) := by
        rw [zi_s]
        congr 1
        omega
      by_cases h4 : 4 ≤ p - b
      · obtain ⟨im', g1, g2⟩ := nx 0 (fun h => absurd h (by omega))
        refine ⟨im', t_X12_next_121 ⟨fun h => absurd h hlt, fun _ => ⟨by rw [h24]; exact v160, _, im, m_xD, fun h => absurd h (by rw [hz, hd]; exact n10), fun _ => ⟨fun _ => ?_, fun h => absurd ((zi_le (a := 4) (by omega) (by omega)).mpr h4) h⟩⟩⟩, g2⟩
        rw [h24, es, zi_s]
        exact g1
      · obtain ⟨im', g1, g2⟩ := nx (10 * yxI B b (p - b) + B p - 48) (fun _ => by
          rw [show p + 1 - b = p - b + 1 by omega]
          show _ = yxI B b (p - b) * 10 + B (b + (p - b)) - 48
          rw [show b + (p - b) = p by omega, Int32.mul_comm])
        refine ⟨im', t_X12_next_121 ⟨fun h => absurd h hlt, fun _ => ⟨by rw [h24]; exact v160, _, im, m_xD, fun h => absurd h (by rw [hz, hd]; exact n10), fun _ => ⟨fun h => absurd ((zi_le (a := 4) (by omega) (by omega)).mp h) h4, fun _ => ⟨by rw [h24]; exact v160, ?_⟩⟩⟩⟩, g2⟩
        rw [hz, h27 (by omega), h24, es, zi_s]
        exact g1
theorem m_next {d n p : Nat} {B : Nat → Int32} {tl : List (Nat × Nat)} {q : zR} {im : zI} (hn : n ≤ 160) (hp : p ≤ n) (hBb : ∀ k, k < n → ∃ c, c < 256 ∧ B k = Int32.ofNat c) (h9 : im 47 9 = Int32.ofNat n) (hB : ∀ k, k < n → im 54 k = B k) (hW : yWw im) (h24 : im 47 24 = Int32.ofNat p) :
    ∃ im', zEv (d + 2) 150 [.ref 47] (zMm tl q im) none (zMm tl q im') ∧ im' 47 25 = Int32.ofNat (yxW yxS B n p) ∧ im' 47 24 = Int32.ofNat (yxTk B n (yxW yxS B n p)).2 ∧ im' 47 26 = yxMt (yxTk B n (yxW yxS B n p)).1 ∧
      ((yxTk B n (yxW yxS B n p)).1.1 = 2 ∨ (yxTk B n (yxW yxS B n p)).1.1 = 3 ∨ (yxTk B n (yxW yxS B n p)).1.1 = 7 → im' 47 27 = Int32.ofNat (yxTk B n (yxW yxS B n p)).1.2) ∧ ∀ k j, ¬ (k = 47 ∧ 23 < j ∧ j < 28) → im' k j = im k j := by
  have lp : ∀ (f p : Nat) (im : zI), p + f = n → im 47 9 = Int32.ofNat n → (∀ k, k < n → im 54 k = B k) → yWw im → im 47 24 = Int32.ofNat p →
      ∃ im', zX (d + 1) zc_X12_next 0 [(0, .ref 47)] [] (zMm tl q im) (fun x y => x = none ∧ y = zMm tl q im') ∧ im' 47 25 = Int32.ofNat (yxH yxS B n f p) ∧ im' 47 24 = Int32.ofNat (yxTk B n (yxH yxS B n f p)).2 ∧ im' 47 26 = yxMt (yxTk B n (yxH yxS B n f p)).1 ∧
        ((yxTk B n (yxH yxS B n f p)).1.1 = 2 ∨ (yxTk B n (yxH yxS B n f p)).1.1 = 3 ∨ (yxTk B n (yxH yxS B n f p)).1.1 = 7 → im' 47 27 = Int32.ofNat (yxTk B n (yxH yxS B n f p)).1.2) ∧ ∀ k j, ¬ (k = 47 ∧ 23 < j ∧ j < 28) → im' k j = im k j := by
    intro f
    induction f with
    | zero =>
      intro p im hp h9 hB hW h24
      have hle : im 47 9 ≤ im 47 24 := by
        rw [h9, h24]
        exact (zi_le (by omega) (by omega)).mpr (by omega)
      have heq : im 47 24 = im 47 9 := by
        rw [h9, h24, show p = n by omega]
      have eT : yxTk B n p = ((0, 0), p) := by
        unfold yxTk
        rw [if_pos (by omega)]
      refine ⟨up2 (up2 (up2 im 47 25 (im 47 24)) 47 26 0) 47 27 0, t_X12_next ⟨fun _ => ⟨fun h => absurd heq h, fun _ => ⟨rfl, rfl⟩⟩, fun h => absurd hle h⟩, ?_, ?_, ?_, ?_, fun k j h => ?_⟩
      · rw [up_j (by decide), up_j (by decide), up_eq]
        exact h24
      · show _ = Int32.ofNat (yxTk B n p).2
        rw [eT, up_j (by decide), up_j (by decide), up_j (by decide)]
        exact h24
      · show _ = yxMt (yxTk B n p).1
        rw [eT, up_j (by decide), up_eq]
        rfl
      · show (yxTk B n p).1.1 = 2 ∨ (yxTk B n p).1.1 = 3 ∨ (yxTk B n p).1.1 = 7 → _
        rw [eT]
        exact fun h => absurd h (show ¬ ((0 : Nat) = 2 ∨ (0 : Nat) = 3 ∨ (0 : Nat) = 7) by decide)
      · by_cases e : k = 47
        · subst e
          rw [up_j (by omega), up_j (by omega), up_j (by omega)]
        · rw [up_k e, up_k e, up_k e]
    | succ f ih =>
      intro p im hp h9 hB hW h24
      have hle : ¬ im 47 9 ≤ im 47 24 := by
        rw [h9, h24]
        exact fun h => absurd ((zi_le (by omega) (by omega)).mp h) (by omega)
      have hne : ¬ im 47 24 = im 47 9 := fun h => hle (by rw [h]; exact Int32.le_refl _)
      have v160 := zi_in (show p < 160 by omega) (show p < 2147483648 by omega)
      have hz : im 54 (im 47 24).toNatClampNeg = B p := by rw [h24, zi_n (by omega), hB p (by omega)]
      have hv : vp_in (im 47 24) 160 := by rw [h24]; exact v160
      have sp : yxS (B p) = true → ∃ im', zX (d + 1) zc_X12_next 0 [(0, .ref 47)] [] (zMm tl q (up2 im 47 24 (im 47 24 + 1))) (fun x y => x = none ∧ y = zMm tl q im') ∧ im' 47 25 = Int32.ofNat (yxH yxS B n (f + 1) p) ∧ im' 47 24 = Int32.ofNat (yxTk B n (yxH yxS B n (f + 1) p)).2 ∧ im' 47 26 = yxMt (yxTk B n (yxH yxS B n (f + 1) p)).1 ∧
          ((yxTk B n (yxH yxS B n (f + 1) p)).1.1 = 2 ∨ (yxTk B n (yxH yxS B n (f + 1) p)).1.1 = 3 ∨ (yxTk B n (yxH yxS B n (f + 1) p)).1.1 = 7 → im' 47 27 = Int32.ofNat (yxTk B n (yxH yxS B n (f + 1) p)).1.2) ∧ ∀ k j, ¬ (k = 47 ∧ 23 < j ∧ j < 28) → im' k j = im k j := fun hs => by
        have eH : yxH yxS B n (f + 1) p = yxH yxS B n f (p + 1) := by
          show (bif yxS (B p) then _ else _) = _
          rw [hs]
          rfl
        rw [h24, zi_s, eH]
        obtain ⟨im', g1, g2, g3, g4, g5, g6⟩ := ih (p + 1) (up2 im 47 24 (Int32.ofNat (p + 1))) (by omega) (by rw [up_j (by decide)]; exact h9) (fun k hk => by rw [up_k (by decide)]; exact hB k hk) (fun j hj => by rw [up_k (by decide)]; exact hW j hj) up_eq
        refine ⟨im', g1, g2, g3, g4, g5, fun k j h => ?_⟩
        rw [g6 k j h]
        by_cases e : k = 47
        · subst e
          exact up_j (by omega)
        · exact up_k e
      by_cases e32 : B p = 32
      · obtain ⟨im', g1, g2⟩ := sp (by unfold yxS; rw [decide_eq_true e32]; rfl)
        refine ⟨im', t_X12_next ⟨fun h => absurd h hle, fun _ => ?_⟩, g2⟩
        rw [hz]
        exact ⟨hv, fun _ => g1, fun h => absurd e32 h⟩
      · by_cases e10 : B p = 10
        · obtain ⟨im', g1, g2⟩ := sp (by unfold yxS; rw [decide_eq_true e10, Bool.or_true])
          refine ⟨im', t_X12_next ⟨fun h => absurd h hle, fun _ => ?_⟩, g2⟩
          rw [hz]
          exact ⟨hv, fun h => absurd h e32, fun _ => ⟨hv, fun h => absurd e10 h, fun _ => g1⟩⟩
        · have eH : yxH yxS B n (f + 1) p = p := by
            show (bif yxS (B p) then _ else _) = _
            rw [show yxS (B p) = false by unfold yxS; rw [decide_eq_false e10, decide_eq_false e32]; rfl]
            rfl
          rw [eH]
          have hnb : ¬ n ≤ p := by omega
          obtain ⟨c, hc, ec⟩ := hBb p (by omega)
          have b9 : (up2 (up2 (up2 im 47 25 (im 47 24)) 47 26 (0 : Int32)) 47 27 (0 : Int32)) 47 9 = Int32.ofNat n := by rw [up_j (by decide), up_j (by decide), up_j (by decide)]; exact h9
          have b24 : (up2 (up2 (up2 im 47 25 (im 47 24)) 47 26 (0 : Int32)) 47 27 (0 : Int32)) 47 24 = Int32.ofNat p := by rw [up_j (by decide), up_j (by decide), up_j (by decide)]; exact h24
          have b25 : (up2 (up2 (up2 im 47 25 (im 47 24)) 47 26 (0 : Int32)) 47 27 (0 : Int32)) 47 25 = Int32.ofNat p := by rw [up_j (by decide), up_j (by decide), up_eq]; exact h24
          have b27 : (up2 (up2 (up2 im 47 25 (im 47 24)) 47 26 (0 : Int32)) 47 27 (0 : Int32)) 47 27 = 0 := up_eq
          have bo : ∀ k, k ≠ 47 → (up2 (up2 (up2 im 47 25 (im 47 24)) 47 26 (0 : Int32)) 47 27 (0 : Int32)) k = im k := fun k hk => by rw [up_r hk, up_r hk, up_r hk]
          have bj : ∀ j, ¬ (23 < j ∧ j < 28) → (up2 (up2 (up2 im 47 25 (im 47 24)) 47 26 (0 : Int32)) 47 27 (0 : Int32)) 47 j = im 47 j := fun j hj => by rw [up_j (by omega), up_j (by omega), up_j (by omega)]
          cases hL : yxL (B p) with
          | true =>
            have eT : yxTk B n p = (yxF B p (yxW yxL B n p) 12, yxW yxL B n p) := by
              unfold yxTk
              rw [if_neg hnb, hL]
              rfl
            obtain ⟨im', g1, g2, g3, g4, g5⟩ := m_nW (d := d) (x1 := B p) (B := B) (tl := tl) (q := q) hn (n - p) p (up2 (up2 (up2 im 47 25 (im 47 24)) 47 26 (0 : Int32)) 47 27 (0 : Int32)) (by omega) (Nat.le_refl _) b9 (fun k hk => by rw [bo 54 (by decide)]; exact hB k hk) (fun j hj => by rw [bo 63 (by decide)]; exact hW j hj) b24 b25 (fun i a1 a2 => absurd a2 (by omega))
            rw [eT]
            refine ⟨im', t_X12_next ⟨fun h => absurd h hle, fun _ => ?_⟩, ?_, g2, g3, g4, fun k j h => ?_⟩
            · rw [hz]
              exact ⟨hv, fun h => absurd h e32, fun _ => ⟨hv, fun _ => ⟨fun _ => ⟨hv, _, _, m_xL, fun h => absurd h (by rw [hL]; exact n10), fun _ => g1⟩, fun h => absurd h hne⟩, fun h => absurd h e10⟩⟩
            · rw [g5 47 25 (by omega)]; exact b25
            · rw [g5 k j (by omega)]
              by_cases e : k = 47
              · subst e; exact bj j (by omega)
              · rw [bo k e]
          | false =>
            cases hD : yxD (B p) with
            | true =>
              have hlen : p ≤ yxW yxD B n p ∧ yxW yxD B n p ≤ p + (n - p) := yxH_le (n - p) p
              have eT : yxTk B n p = (if 4 < yxW yxD B n p - p then (1, 0) else (2, (yxI B p (yxW yxD B n p - p)).toNatClampNeg), yxW yxD B n p) := by
                unfold yxTk
                rw [if_neg hnb, hL, hD]
                rfl
              obtain ⟨im', g1, g2, g3, g4, g5⟩ := m_nN (d := d) (b := p) (x1 := B p) (B := B) (tl := tl) (q := q) hn (n - p) p (up2 (up2 (up2 im 47 25 (im 47 24)) 47 26 (0 : Int32)) 47 27 (0 : Int32)) (by omega) (Nat.le_refl _) b9 (fun k hk => by rw [bo 54 (by decide)]; exact hB k hk) b24 (fun _ => by rw [b27, Nat.sub_self]; rfl)
              rw [Nat.sub_self] at g1
              rw [eT]
              refine ⟨im', t_X12_next ⟨fun h => absurd h hle, fun _ => ?_⟩, ?_, g2, ?_, fun h => ?_, fun k j h => ?_⟩
              · rw [hz]
                exact ⟨hv, fun h => absurd h e32, fun _ => ⟨hv, fun _ => ⟨fun _ => ⟨hv, _, _, m_xL, fun _ => ⟨_, _, m_xD, fun h => absurd h (by rw [hD]; exact n10), fun _ => g1⟩, fun h => absurd (by rw [hL]; rfl) h⟩, fun h => absurd h hne⟩, fun h => absurd h e10⟩⟩
              · rw [g5 47 25 (by omega)]; exact b25
              · rw [g3]
                show (if 4 < yxW yxD B n p - p then (-1 : Int32) else 1) = yxMt (if 4 < yxW yxD B n p - p then _ else _)
                split
                · rfl
                · rfl
              · by_cases h4 : 4 < yxW yxD B n p - p
                · rw [if_pos h4] at h
                  exact absurd h (show ¬ ((1 : Nat) = 2 ∨ (1 : Nat) = 3 ∨ (1 : Nat) = 7) by decide)
                · show im' 47 27 = Int32.ofNat (if 4 < yxW yxD B n p - p then _ else _ : Nat × Nat).2
                  rw [if_neg h4, g4 (Nat.le_of_not_lt h4)]
                  obtain ⟨v, hv, ev⟩ := yxI_ex (b := p) hBb (yxW yxD B n p - p) (by omega) (by omega) (fun i a a2 => yxH_P (n := n) (n - p) p i a (show i < yxW yxD B n p by omega))
                  have : 10 ^ (yxW yxD B n p - p) ≤ 10 ^ 4 := Nat.pow_le_pow_right (by decide) (by omega)
                  show yxI B p (yxW yxD B n p - p) = Int32.ofNat (yxI B p (yxW yxD B n p - p)).toNatClampNeg
                  rw [ev, zi_n (by omega)]
              · rw [g5 k j (by omega)]
                by_cases e : k = 47
                · subst e; exact bj j (by omega)
                · rw [bo k e]
            | false =>
              have eT : yxTk B n p = (bif yxG (B p) then (8, (B p).toNatClampNeg) else (1, 0), p + 1) := by
                unfold yxTk
                rw [if_neg hnb, hL, hD]
                rfl
              rw [eT]
              have yes : yxG (B p) = true → ((none : Option Value) = none ∧ zMm tl q (up2 (up2 (up2 (up2 (up2 im 47 25 (im 47 24)) 47 26 (0 : Int32)) 47 27 (0 : Int32)) 47 26 (B p)) 47 24 ((up2 (up2 (up2 im 47 25 (im 47 24)) 47 26 (0 : Int32)) 47 27 (0 : Int32)) 47 24 + 1)) = zMm tl q (up2 (up2 (up2 (up2 (up2 im 47 25 (im 47 24)) 47 26 (0 : Int32)) 47 27 (0 : Int32)) 47 26 (bif yxG (B p) then B p else -1)) 47 24 (Int32.ofNat (p + 1)))) := fun h => by
                rw [b24, zi_s, h]
                exact ⟨rfl, rfl⟩
              refine ⟨up2 (up2 (up2 (up2 (up2 im 47 25 (im 47 24)) 47 26 (0 : Int32)) 47 27 (0 : Int32)) 47 26 (bif yxG (B p) then B p else -1)) 47 24 (Int32.ofNat (p + 1)), t_X12_next ⟨fun h => absurd h hle, fun _ => ?_⟩, ?_, up_eq, ?_, fun h => ?_, fun k j h => ?_⟩
              · rw [hz]
                refine ⟨hv, fun h => absurd h e32, fun _ => ⟨hv, fun _ => ⟨fun _ => ⟨hv, _, _, m_xL, fun _ => ⟨_, _, m_xD, fun _ => ?_, fun h => absurd (by rw [hD]; rfl) h⟩, fun h => absurd (by rw [hL]; rfl) h⟩, fun h => absurd h hne⟩, fun h => absurd h e10⟩⟩
                refine ⟨fun h => yes (by rw [h]; rfl), fun c1 => ⟨fun h => yes (by rw [h]; rfl), fun c2 => ⟨fun h => yes (by rw [h]; rfl), fun c3 => ⟨fun h => yes (by rw [h]; rfl), fun c4 => ⟨fun h => yes (by rw [h]; rfl), fun c5 => ⟨fun h => yes (by rw [h]; rfl), fun c6 => ⟨fun h => yes (by rw [h]; rfl), fun c7 => ⟨fun c8 => ?_, fun h => yes (by rw [h]; rfl)⟩⟩⟩⟩⟩⟩⟩⟩
                have : yxG (B p) = false := by
                  unfold yxG
                  rw [decide_eq_false c1, decide_eq_false c2, decide_eq_false c3, decide_eq_false c4, decide_eq_false c5, decide_eq_false c6, decide_eq_false c7, decide_eq_false c8]
                  rfl
                rw [this, b24, zi_s]
                exact ⟨rfl, rfl⟩
              · rw [up_j (by decide), up_j (by decide)]; exact b25
              · rw [up_j (by decide), up_eq]
                cases hg : yxG (B p) with
                | false => rfl
                | true =>
                  show B p = Int32.ofNat (B p).toNatClampNeg
                  rw [ec, zi_n (by omega)]
              · exfalso
                cases hg : yxG (B p) with
                | false => rw [hg] at h; exact absurd h (show ¬ ((1 : Nat) = 2 ∨ (1 : Nat) = 3 ∨ (1 : Nat) = 7) by decide)
                | true => rw [hg] at h; exact absurd h (show ¬ ((8 : Nat) = 2 ∨ (8 : Nat) = 3 ∨ (8 : Nat) = 7) by decide)
              · by_cases e : k = 47
                · subst e
                  rw [up_j (by omega), up_j (by omega)]
                  exact bj j (by omega)
                · rw [up_k e, up_k e, bo k e]
  obtain ⟨im', g1, g2⟩ := lp (n - p) p im (by omega) h9 hB hW h24
  exact ⟨im', zEv_o rfl g1, g2⟩
