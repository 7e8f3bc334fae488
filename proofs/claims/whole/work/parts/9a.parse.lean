/-! A TEXT, READ DOWN FROM ITS RULES. A state: (token, its begin, where the next may begin). -/
abbrev yxS3 : Type := (Nat × Nat) × Nat × Nat
def yxAd (B : Nat → Int32) (n p : Nat) : yxS3 := ((yxTk B n (yxW yxS B n p)).1, yxW yxS B n p, (yxTk B n (yxW yxS B n p)).2)
/-- what a reading gives: a fault's place, or a state and codes -/
abbrev yxRs : Type := Sum Nat (yxS3 × List Nat)
/-- one, then what joins and one more, again and again -/
def yxCh (B : Nat → Int32) (n : Nat) (sub : yxS3 → yxRs) (op : Nat × Nat → Option Nat) : Nat → yxS3 → List Nat → yxRs
  | 0, S, a => .inr (S, a)
  | f + 1, S, a => match op S.1 with
    | none => .inr (S, a)
    | some c => match sub (yxAd B n S.2.2) with
      | .inl e => .inl e
      | .inr (S', a') => yxCh B n sub op f S' (a ++ a' ++ [c])
def yxBi (B : Nat → Int32) (n : Nat) (sub : yxS3 → yxRs) (op : Nat × Nat → Option Nat) (S : yxS3) : yxRs := match sub S with
  | .inl e => .inl e
  | .inr (S', a) => yxCh B n sub op 160 S' a
def yxOT (T : Nat × Nat) : Option Nat := if T = (8, 42) then some 18 else none
def yxOS (T : Nat × Nat) : Option Nat := if T = (8, 43) then some 16 else if T = (8, 45) then some 17 else none
def yxOA (T : Nat × Nat) : Option Nat := if T.1 = 5 then some 12 else none
def yxOO (T : Nat × Nat) : Option Nat := if T.1 = 4 then some 11 else none
def yxOC (T : Nat × Nat) : Option Nat := if T = (8, 60) then some 14 else if T = (8, 61) then some 15 else none
/-- with one more open, and a code behind -/
def yxUn (S : yxS3) (o : Nat) (c : List Nat) (sub : Nat → yxRs) : yxRs :=
  if 5 ≤ o then .inl S.2.1 else match sub (o + 1) with
    | .inl e => .inl e
    | .inr (S', a) => .inr (S', a ++ c)
/-- levels: 0 one, 1 times, 2 sum, 3 not and compare, 4 and, 5 or -/
def yxRd (B : Nat → Int32) (n : Nat) : Nat → Nat → Nat → yxS3 → yxRs
  | 0, _, _, S => .inl S.2.1
  | g + 1, l, o, S =>
    if l = 0 then
      (if S.1.1 = 2 then .inr (yxAd B n S.2.2, [100000 + S.1.2])
      else if S.1.1 = 7 then .inr (yxAd B n S.2.2, [S.1.2])
      else if S.1 = (8, 45) then yxUn S o [19] (fun o' => yxRd B n g 0 o' (yxAd B n S.2.2))
      else if S.1 = (8, 40) then yxUn S o [] (fun o' => match yxRd B n g 5 o' (yxAd B n S.2.2) with
        | .inl e => .inl e
        | .inr (S', a) => if S'.1 = (8, 41) then .inr (yxAd B n S'.2.2, a) else .inl S'.2.1)
      else .inl S.2.1)
    else if l = 1 then yxBi B n (yxRd B n g 0 o) yxOT S
    else if l = 2 then yxBi B n (yxRd B n g 1 o) yxOS S
    else if l = 3 then
      (if S.1.1 = 6 then yxUn S o [13] (fun o' => yxRd B n g 3 o' (yxAd B n S.2.2))
      else match yxRd B n g 2 o S with
        | .inl e => .inl e
        | .inr (S', a) => match yxOC S'.1 with
          | none => .inr (S', a)
          | some c => match yxRd B n g 2 o (yxAd B n S'.2.2) with
            | .inl e => .inl e
            | .inr (S'', a') => .inr (S'', a ++ a' ++ [c]))
    else if l = 4 then yxBi B n (yxRd B n g 3 o) yxOA S
    else yxBi B n (yxRd B n g 4 o) yxOO S
/-- the class's cells in a reading without a fault; at one -/
def yxCs (B : Nat → Int32) (n : Nat) (im : zI) (S : yxS3) (o : Nat) (cs : List Nat) : Prop :=
  (im 17 1 = Int32.ofNat n ∧ ∀ k, k < n → im 18 k = B k) ∧ (im 17 8 = Int32.ofNat S.2.2 ∧ S.2.2 ≤ n ∧ im 17 6 = Int32.ofNat S.2.1 ∧ im 17 5 = yxC S.1 ∧ (S.1.1 = 2 → im 17 7 = Int32.ofNat S.1.2)) ∧ im 17 2 = -1 ∧ im 17 9 = Int32.ofNat o ∧ im 17 4 = Int32.ofNat cs.length ∧ ∀ i, i < cs.length → im 19 i = yTr (cs.getD i 0)
def yxFs (im : zI) (f : Nat) : Prop := im 17 2 = Int32.ofNat f ∧ im 17 5 = -2 ∧ ∃ c, c ≤ 160 ∧ im 17 4 = Int32.ofNat c
/-- what stays -/
def yxKp (im im' : zI) : Prop := ∀ k j, k ≠ 19 → ¬ (k = 17 ∧ j ≠ 1) → im' k j = im k j
theorem yxKp.rf {im : zI} : yxKp im im := fun _ _ _ _ => rfl
theorem yxKp.tr {a b c : zI} (h1 : yxKp a b) (h2 : yxKp b c) : yxKp a c := fun k j e1 e2 => (h2 k j e1 e2).trans (h1 k j e1 e2)
theorem c_xEmit {d : Nat} {B : Nat → Int32} {n o c : Nat} {S : yxS3} {cs : List Nat} {v : Int32} {tl : List (Nat × Nat)} {q : zR} {im : zI} (h : yxCs B n im S o cs) (hl : cs.length < 160) (hv : v = yTr c) :
    ∃ im', zEv (d + 1) 31 [.ref 17, .int v] (zMm tl q im) none (zMm tl q im') ∧ yxCs B n im' S o (cs ++ [c]) ∧ yxKp im im' := by
  obtain ⟨⟨a1, a2⟩, ⟨b1, b2, b3, b4, b5⟩, c1, c2, c3, c4⟩ := h
  have n160 : ¬ (160 : Int32) ≤ Int32.ofNat cs.length := fun hh => absurd ((zi_le (a := 160) (by omega) (by omega)).mp hh) (by omega)
  have o17 : ∀ j, j ≠ 4 → (up2 (up2 im 19 cs.length v) 17 4 (Int32.ofNat (cs.length + 1)) : zI) 17 j = im 17 j := fun j hj => by rw [up_j hj, up_k (by decide)]
  refine ⟨up2 (up2 im 19 cs.length v) 17 4 (Int32.ofNat (cs.length + 1)), zEv_o rfl (t_X7_emit ?_), ⟨⟨by rw [o17 1 (by decide)]; exact a1, fun k hk => by rw [up_k (by decide), up_k (by decide)]; exact a2 k hk⟩, ⟨by rw [o17 8 (by decide)]; exact b1, b2, by rw [o17 6 (by decide)]; exact b3, by rw [o17 5 (by decide)]; exact b4, fun h => by rw [o17 7 (by decide)]; exact b5 h⟩, by rw [o17 2 (by decide)]; exact c1, by rw [o17 9 (by decide)]; exact c2, ?_, fun i hi => ?_⟩, fun k j h1 h2 => ?_⟩
  · rw [c3, zi_n (show cs.length < 2147483648 by omega), zi_s]
    exact ⟨fun hh => absurd hh n160, fun _ => ⟨zi_in hl (by omega), rfl, rfl⟩⟩
  · rw [up_eq, List.length_append]
    rfl
  · rw [up_k (show 19 ≠ 17 by decide)]
    rw [List.length_append] at hi
    have hi' : i < cs.length + 1 := hi
    by_cases e : i = cs.length
    · subst e
      rw [up_eq, hv, List.getD_eq_getElem?_getD, List.getElem?_append_right (Nat.le_refl _), Nat.sub_self]
      rfl
    · rw [up_j e, c4 i (by omega), List.getD_eq_getElem?_getD, List.getD_eq_getElem?_getD, List.getElem?_append_left (by omega)]
  · by_cases e : k = 17
    · subst e
      have : j = 1 := Decidable.of_not_not fun hh => h2 ⟨rfl, hh⟩
      rw [up_j (by omega), up_k (by decide)]
    · rw [up_k e, up_k h1]
/-- a fault where none was -/
theorem c_xRefuse {d : Nat} {B : Nat → Int32} {n o : Nat} {S : yxS3} {cs : List Nat} {tl : List (Nat × Nat)} {q : zR} {im : zI} (h : yxCs B n im S o cs) (hl : cs.length ≤ 160) :
    ∃ im', zEv (d + 1) 29 [.ref 17] (zMm tl q im) none (zMm tl q im') ∧ yxFs im' S.2.1 ∧ yxKp im im' := by
  obtain ⟨_, ⟨b1, b2, b3, b4, b5⟩, c1, c2, c3, c4⟩ := h
  refine ⟨up2 (up2 im 17 2 (im 17 6)) 17 5 (-2), zEv_o rfl (t_X7_refuse ⟨fun h => absurd c1 h, fun _ => ⟨rfl, rfl⟩⟩), ⟨by rw [up_j (by decide), up_eq]; exact b3, up_eq, cs.length, hl, by rw [up_j (by decide), up_j (by decide)]; exact c3⟩, fun k j h1 h2 => ?_⟩
  by_cases e : k = 17
  · subst e
    have : j = 1 := Decidable.of_not_not fun hh => h2 ⟨rfl, hh⟩
    rw [up_j (by omega), up_j (by omega)]
  · rw [up_k e, up_k e]
/-- the next token -/
theorem c_xAd {d : Nat} {B : Nat → Int32} {n o : Nat} {S : yxS3} {cs : List Nat} {tl : List (Nat × Nat)} {q : zR} {im : zI} (hn : n ≤ 160) (hBb : ∀ k, k < n → ∃ c, c < 256 ∧ B k = Int32.ofNat c) (h : yxCs B n im S o cs) :
    ∃ im', zEv (d + 4) 22 [.ref 17] (zMm tl q im) none (zMm tl q im') ∧ yxCs B n im' (yxAd B n S.2.2) o cs ∧ yxKp im im' := by
  obtain ⟨⟨a1, a2⟩, ⟨b1, b2, b3, b4, b5⟩, c1, c2, c3, c4⟩ := h
  obtain ⟨im', g1, g2, g3, g4, g5, g6⟩ := c_readToken (d := d) (tl := tl) (q := q) hn b2 hBb a1 a2 b1
  have hw := yxH_le (P := yxS) (B := B) (n := n) (n - S.2.2) S.2.2
  have hle : yxW yxS B n S.2.2 ≤ n := by
    unfold yxW
    omega
  refine ⟨im', g1, ⟨⟨by rw [g6 17 1 (by omega)]; exact a1, fun k hk => by rw [g6 18 k (by omega)]; exact a2 k hk⟩, ⟨g3, (yxTk_le hle).2.1, g2, g4, g5⟩, by rw [g6 17 2 (by omega)]; exact c1, by rw [g6 17 9 (by omega)]; exact c2, by rw [g6 17 4 (by omega)]; exact c3, fun i hi => by rw [g6 19 i (by omega)]; exact c4 i hi⟩, fun k j h1 h2 => g6 k j (by omega)⟩
