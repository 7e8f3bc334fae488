/-! THE CLASS READS: what is passed, what opens, what is joined -/
/-- a token that can be -/
def yxVT (T : Nat × Nat) : Prop := T.1 < 9 ∧ T.2 < 10000 ∧ (T.1 = 3 → T.2 < 3) ∧ (T.1 = 7 → T.2 < 6) ∧ (T.1 = 8 → T.2 < 256)
theorem yxVT_K : ∀ w, w < 12 → (yxK w).1 < 9 ∧ (yxK w).2 < 10000 ∧ ((yxK w).1 = 3 → (yxK w).2 < 3) ∧ ((yxK w).1 = 7 → (yxK w).2 < 6) ∧ ((yxK w).1 = 8 → (yxK w).2 < 256) := by decide
theorem yxVT_1 : yxVT (1, 0) := ⟨show (1 : Nat) < 9 by decide, show (0 : Nat) < 10000 by decide, fun h => absurd h (show ¬ (1 : Nat) = 3 by decide), fun h => absurd h (show ¬ (1 : Nat) = 7 by decide), fun h => absurd h (show ¬ (1 : Nat) = 8 by decide)⟩
theorem yxVT_k {B : Nat → Int32} {n b : Nat} (hBb : ∀ k, k < n → ∃ c, c < 256 ∧ B k = Int32.ofNat c) : yxVT (yxTk B n b).1 := by
  unfold yxTk
  by_cases h1 : n ≤ b
  · rw [if_pos h1]
    exact ⟨show (0 : Nat) < 9 by decide, show (0 : Nat) < 10000 by decide, fun h => absurd h (show ¬ (0 : Nat) = 3 by decide), fun h => absurd h (show ¬ (0 : Nat) = 7 by decide), fun h => absurd h (show ¬ (0 : Nat) = 8 by decide)⟩
  · rw [if_neg h1]
    cases hL : yxL (B b) with
    | true =>
      rw [cond_true]
      have : ∀ w, w ≤ 12 → yxVT (yxF B b (yxW yxL B n b) w) := by
        intro w
        induction w with
        | zero => exact fun _ => yxVT_1
        | succ w ih =>
          intro hw
          show yxVT (bif yxM B b (yxW yxL B n b) w then yxK w else yxF B b (yxW yxL B n b) w)
          cases yxM B b (yxW yxL B n b) w with
          | false => exact ih (by omega)
          | true => exact yxVT_K w (by omega)
      exact this 12 (Nat.le_refl _)
    | false =>
      rw [cond_false]
      cases hD : yxD (B b) with
      | true =>
        rw [cond_true]
        have hlen : b ≤ yxW yxD B n b ∧ yxW yxD B n b ≤ b + (n - b) := yxH_le (n - b) b
        show yxVT (if 4 < yxW yxD B n b - b then (1, 0) else (2, (yxI B b (yxW yxD B n b - b)).toNatClampNeg))
        by_cases h4 : 4 < yxW yxD B n b - b
        · rw [if_pos h4]
          exact yxVT_1
        · rw [if_neg h4]
          obtain ⟨v, hv, ev⟩ := yxI_ex (b := b) hBb (yxW yxD B n b - b) (by omega) (by omega) (fun i a a2 => yxH_P (n := n) (n - b) b i a (show i < yxW yxD B n b by omega))
          have : 10 ^ (yxW yxD B n b - b) ≤ 10 ^ 4 := Nat.pow_le_pow_right (by decide) (by omega)
          rw [ev, zi_n (by omega)]
          exact ⟨show (2 : Nat) < 9 by decide, show v < 10000 by omega, fun h => absurd h (show ¬ (2 : Nat) = 3 by decide), fun h => absurd h (show ¬ (2 : Nat) = 7 by decide), fun h => absurd h (show ¬ (2 : Nat) = 8 by decide)⟩
      | false =>
        rw [cond_false]
        obtain ⟨c, hc, ec⟩ := hBb b (by omega)
        show yxVT (bif yxG (B b) then (8, (B b).toNatClampNeg) else (1, 0))
        cases yxG (B b) with
        | false => exact yxVT_1
        | true =>
          rw [cond_true, ec, zi_n (by omega)]
          exact ⟨show (8 : Nat) < 9 by decide, show c < 10000 by omega, fun h => absurd h (show ¬ (8 : Nat) = 3 by decide), fun h => absurd h (show ¬ (8 : Nat) = 7 by decide), fun _ => hc⟩
def yxOk (n : Nat) (S : yxS3) : Prop := S.2.1 ≤ S.2.2 ∧ S.2.2 ≤ n ∧ (S.1.1 ≠ 0 → S.2.1 < S.2.2) ∧ yxVT S.1
theorem yxAd_ok {B : Nat → Int32} {n p : Nat} (hBb : ∀ k, k < n → ∃ c, c < 256 ∧ B k = Int32.ofNat c) (hp : p ≤ n) : yxOk n (yxAd B n p) ∧ p ≤ (yxAd B n p).2.1 := by
  have hw := yxH_le (P := yxS) (B := B) (n := n) (n - p) p
  have e : (yxAd B n p).2.1 = yxW yxS B n p := rfl
  have hle : yxW yxS B n p ≤ n := by
    unfold yxW
    omega
  obtain ⟨t1, t2, t3⟩ := yxTk_le (B := B) hle
  refine ⟨⟨t1, t2, fun h => ?_, yxVT_k hBb⟩, hw.1⟩
  by_cases hb : yxW yxS B n p < n
  · exact t3 hb
  · exfalso
    apply h
    show (yxTk B n (yxW yxS B n p)).1.1 = 0
    unfold yxTk
    rw [if_pos (by omega)]
theorem c_xPass {d : Nat} {B : Nat → Int32} {n o : Nat} {S : yxS3} {cs : List Nat} {w : Int32} {tl : List (Nat × Nat)} {q : zR} {im : zI} (hn : n ≤ 160) (hBb : ∀ k, k < n → ∃ c, c < 256 ∧ B k = Int32.ofNat c) (h : yxCs B n im S o cs) (hw : yxC S.1 = w) :
    ∃ im', zEv (d + 5) 30 [.ref 17, .int w] (zMm tl q im) none (zMm tl q im') ∧ yxCs B n im' (yxAd B n S.2.2) o cs ∧ yxKp im im' := by
  obtain ⟨im', g1, g2, g3⟩ := c_xAd (d := d) (tl := tl) (q := q) hn hBb h
  have e5 : im 17 5 = w := h.2.1.2.2.2.1.trans hw
  have e2 : im 17 2 = -1 := h.2.2.1
  exact ⟨im', zEv_o rfl (t_X7_pass ⟨fun hh => absurd e5 hh, fun _ => ⟨fun hh => absurd e2 hh, fun _ => ⟨im', g1, rfl, rfl⟩⟩⟩), g2, g3⟩
theorem c_xPassN {d : Nat} {B : Nat → Int32} {n o : Nat} {S : yxS3} {cs : List Nat} {w : Int32} {tl : List (Nat × Nat)} {q : zR} {im : zI} (h : yxCs B n im S o cs) (hl : cs.length ≤ 160) (hw : yxC S.1 ≠ w) :
    ∃ im', zEv (d + 2) 30 [.ref 17, .int w] (zMm tl q im) none (zMm tl q im') ∧ yxFs im' S.2.1 ∧ yxKp im im' := by
  obtain ⟨im', g1, g2, g3⟩ := c_xRefuse (d := d) (tl := tl) (q := q) h hl
  have e5 : ¬ im 17 5 = w := fun e => hw (h.2.1.2.2.2.1.symm.trans e)
  exact ⟨im', zEv_o rfl (t_X7_pass ⟨fun _ => ⟨im', g1, rfl, rfl⟩, fun hh => absurd hh e5⟩), g2, g3⟩
/-- one that can nest -/
theorem c_xOpens {d : Nat} {B : Nat → Int32} {n o : Nat} {S : yxS3} {cs : List Nat} {tl : List (Nat × Nat)} {q : zR} {im : zI} (hn : n ≤ 160) (hBb : ∀ k, k < n → ∃ c, c < 256 ∧ B k = Int32.ofNat c) (h : yxCs B n im S o cs) (ho : o < 5) :
    ∃ im', zEv (d + 5) 32 [.ref 17] (zMm tl q im) (some (.int 1)) (zMm tl q im') ∧ yxCs B n im' (yxAd B n S.2.2) (o + 1) cs ∧ yxKp im im' := by
  obtain ⟨⟨a1, a2⟩, ⟨b1, b2, b3, b4, b5⟩, c1, c2, c3, c4⟩ := h
  have h1 : yxCs B n (up2 im 17 9 (Int32.ofNat (o + 1))) S (o + 1) cs := ⟨⟨by rw [up_j (by decide)]; exact a1, fun k hk => by rw [up_k (by decide)]; exact a2 k hk⟩, ⟨by rw [up_j (by decide)]; exact b1, b2, by rw [up_j (by decide)]; exact b3, by rw [up_j (by decide)]; exact b4, fun h => by rw [up_j (by decide)]; exact b5 h⟩, by rw [up_j (by decide)]; exact c1, up_eq, by rw [up_j (by decide)]; exact c3, fun i hi => by rw [up_k (by decide)]; exact c4 i hi⟩
  obtain ⟨im', g1, g2, g3⟩ := c_xAd (d := d) (tl := tl) (q := q) hn hBb h1
  refine ⟨im', zEv_o rfl (t_X7_opens ?_), g2, fun k j e1 e2 => (g3 k j e1 e2).trans ?_⟩
  · rw [c2, zi_s]
    exact ⟨fun _ => ⟨im', g1, rfl, rfl⟩, fun hh => absurd ((zi_lt (b := 5) (by omega) (by omega)).mpr ho) hh⟩
  · by_cases e : k = 17
    · subst e
      have : j = 1 := Decidable.of_not_not fun hh => e2 ⟨rfl, hh⟩
      exact up_j (by omega)
    · exact up_k e
theorem c_xOpensN {d : Nat} {B : Nat → Int32} {n o : Nat} {S : yxS3} {cs : List Nat} {tl : List (Nat × Nat)} {q : zR} {im : zI} (h : yxCs B n im S o cs) (hl : cs.length ≤ 160) (ho : 5 ≤ o) (ho2 : o < 100) :
    ∃ im', zEv (d + 2) 32 [.ref 17] (zMm tl q im) (some (.int 0)) (zMm tl q im') ∧ yxFs im' S.2.1 ∧ yxKp im im' := by
  obtain ⟨im', g1, g2, g3⟩ := c_xRefuse (d := d) (tl := tl) (q := q) h hl
  refine ⟨im', zEv_o rfl (t_X7_opens ?_), g2, g3⟩
  rw [h.2.2.2.1]
  exact ⟨fun hh => absurd ((zi_lt (b := 5) (by omega) (by omega)).mp hh) (by omega), fun _ => ⟨im', g1, rfl, rfl⟩⟩
/-- a method of the class reads as a rule says -/
def yxSub (D key : Nat) (B : Nat → Int32) (n o : Nat) (r : yxS3 → yxRs) (tl : List (Nat × Nat)) (q : zR) : Prop :=
  ∀ (S : yxS3) (cs : List Nat) (im : zI) (k : Nat), yxCs B n im S o cs → yxOk n S → cs.length + k ≤ S.2.1 →
    match r S with
    | .inl f => f ≤ 160 ∧ ∃ im', zEv D key [.ref 17] (zMm tl q im) none (zMm tl q im') ∧ yxFs im' f ∧ yxKp im im'
    | .inr (S', a) => yxOk n S' ∧ (cs ++ a).length + k ≤ S'.2.1 ∧ ∃ im', zEv D key [.ref 17] (zMm tl q im) none (zMm tl q im') ∧ yxCs B n im' S' o (cs ++ a) ∧ yxKp im im'
theorem yxCh_c {d ks n o : Nat} {B : Nat → Int32} {r : yxS3 → yxRs} {op : Nat × Nat → Option Nat} {tl : List (Nat × Nat)} {q : zR} (hn : n ≤ 160) (hBb : ∀ k, k < n → ∃ c, c < 256 ∧ B k = Int32.ofNat c) (hs : yxSub (d + 5) ks B n o r tl q) (L : Int32 → zI → zI → Prop)
    (hop : ∀ T c, op T = some c → T.1 ≠ 0) (hx0 : ∀ im, L 160 im im) (hx : ∀ x im T, yxVT T → op T = none → im 17 5 = yxC T → L x im im) (hbad : op (1, 0) = none)
    (hst : ∀ (j : Nat) (im im3 im4 im5 im' : zI) (T : Nat × Nat) (c : Nat), j < 160 → yxVT T → op T = some c → im 17 5 = yxC T → zEv (d + 5) 30 [.ref 17, .int (yxC T)] (zMm tl q im) none (zMm tl q im3) → zEv (d + 5) ks [.ref 17] (zMm tl q im3) none (zMm tl q im4) → zEv (d + 5) 31 [.ref 17, .int (yTr c)] (zMm tl q im4) none (zMm tl q im5) → L (Int32.ofNat (j + 1)) im5 im' → L (Int32.ofNat j) im im') :
    ∀ (f j : Nat) (S : yxS3) (a cs : List Nat) (im : zI) (k : Nat), j + f = 160 → yxCs B n im S o cs → yxOk n S → cs.length + k ≤ S.2.1 →
      match yxCh B n r op f S a with
      | .inl e => e ≤ 160 ∧ ∃ im', L (Int32.ofNat j) im im' ∧ yxFs im' e ∧ yxKp im im'
      | .inr (S', a') => ∃ b, a' = a ++ b ∧ yxOk n S' ∧ (cs ++ b).length + k ≤ S'.2.1 ∧ ∃ im', L (Int32.ofNat j) im im' ∧ yxCs B n im' S' o (cs ++ b) ∧ yxKp im im' := by
  intro f
  induction f with
  | zero =>
    intro j S a cs im k hj hc hk hl
    have : j = 160 := by omega
    subst this
    exact ⟨[], (List.append_nil _).symm, hk, by rw [List.append_nil]; exact hl, im, hx0 im, by rw [List.append_nil]; exact hc, yxKp.rf⟩
  | succ f ih =>
    intro j S a cs im k hj hc hk hl
    unfold yxCh
    cases ho : op S.1 with
    | none => exact ⟨[], (List.append_nil _).symm, hk, by rw [List.append_nil]; exact hl, im, hx _ im S.1 hk.2.2.2 ho hc.2.1.2.2.2.1, by rw [List.append_nil]; exact hc, yxKp.rf⟩
    | some c =>
      have hlt := hk.2.2.1 (hop _ _ ho)
      obtain ⟨im3, g1, g2, g3⟩ := c_xPass (d := d) (tl := tl) (q := q) hn hBb hc rfl
      obtain ⟨k1, k2⟩ := yxAd_ok (B := B) hBb hk.2.1
      have hs1 := hs (yxAd B n S.2.2) cs im3 (k + 1) g2 k1 (by omega)
      cases hr : r (yxAd B n S.2.2) with
      | inl e =>
        rw [hr] at hs1
        obtain ⟨e1, im4, e2, e3, e4⟩ := hs1
        obtain ⟨im5, e5, e6, e7⟩ := f_emit (d := d + 4) (v := yTr c) (tl := tl) (q := q) e3
        exact ⟨e1, im5, hst j im im3 im4 im5 im5 S.1 c (by omega) hk.2.2.2 ho hc.2.1.2.2.2.1 g1 e2 e5 (hx _ im5 (1, 0) yxVT_1 hbad e6.2.1), e6, g3.tr (e4.tr e7)⟩
      | inr P =>
        obtain ⟨S', a'⟩ := P
        rw [hr] at hs1
        obtain ⟨e1, e2, im4, e3, e4, e5⟩ := hs1
        have hb1 : S'.2.1 ≤ 160 := by
          have h1 := e1.1
          have h2 := e1.2.1
          omega
        obtain ⟨im5, e6, e7, e8⟩ := c_xEmit (d := d + 4) (c := c) (v := yTr c) (tl := tl) (q := q) e4 (by omega) rfl
        have hi := ih (j + 1) S' (a ++ a' ++ [c]) (cs ++ a' ++ [c]) im5 k (by omega) e7 e1 (by rw [List.length_append (as := cs ++ a')]; show _ + 1 + k ≤ _; omega)
        cases hq : yxCh B n r op f S' (a ++ a' ++ [c]) with
        | inl e =>
          rw [hq] at hi
          obtain ⟨i1, im', i2, i3, i4⟩ := hi
          simp only [hq]
          exact ⟨i1, im', hst j im im3 im4 im5 im' S.1 c (by omega) hk.2.2.2 ho hc.2.1.2.2.2.1 g1 e3 e6 i2, i3, g3.tr (e5.tr (e8.tr i4))⟩
        | inr P2 =>
          obtain ⟨S'', a''⟩ := P2
          rw [hq] at hi
          obtain ⟨b, i0, i1, i2, im', i3, i4, i5⟩ := hi
          simp only [hq]
          refine ⟨a' ++ [c] ++ b, by rw [i0]; simp only [List.append_assoc], i1, ?_, im', hst j im im3 im4 im5 im' S.1 c (by omega) hk.2.2.2 ho hc.2.1.2.2.2.1 g1 e3 e6 i3, ?_, g3.tr (e5.tr (e8.tr i5))⟩
          · have : cs ++ (a' ++ [c] ++ b) = cs ++ a' ++ [c] ++ b := by simp only [List.append_assoc]
            rw [this]
            exact i2
          · have : cs ++ (a' ++ [c] ++ b) = cs ++ a' ++ [c] ++ b := by simp only [List.append_assoc]
            rw [this]
            exact i4
