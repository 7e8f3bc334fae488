/-! BEHIND A FAULT: nothing more is read -/
theorem f_emit {d f : Nat} {v : Int32} {tl : List (Nat × Nat)} {q : zR} {im : zI} (h : yxFs im f) : ∃ im', zEv (d + 1) 31 [.ref 17, .int v] (zMm tl q im) none (zMm tl q im') ∧ yxFs im' f ∧ yxKp im im' := by
  obtain ⟨h1, h2, c, hc, h3⟩ := h
  by_cases e : c = 160
  · subst e
    exact ⟨im, zEv_o rfl (t_X7_emit (by rw [h3]; exact ⟨fun _ => ⟨rfl, rfl⟩, fun hh => absurd (by decide) hh⟩)), ⟨h1, h2, 160, by omega, h3⟩, yxKp.rf⟩
  · have n160 : ¬ (160 : Int32) ≤ Int32.ofNat c := fun hh => absurd ((zi_le (a := 160) (by omega) (by omega)).mp hh) (by omega)
    refine ⟨up2 (up2 im 19 c v) 17 4 (Int32.ofNat (c + 1)), zEv_o rfl (t_X7_emit ?_), ⟨by rw [up_j (by decide), up_k (by decide)]; exact h1, by rw [up_j (by decide), up_k (by decide)]; exact h2, c + 1, by omega, up_eq⟩, fun k j e1 e2 => ?_⟩
    · rw [h3, zi_n (show c < 2147483648 by omega), zi_s]
      exact ⟨fun hh => absurd hh n160, fun _ => ⟨zi_in (by omega) (by omega), rfl, rfl⟩⟩
    · by_cases e : k = 17
      · subst e
        have : j = 1 := Decidable.of_not_not fun hh => e2 ⟨rfl, hh⟩
        rw [up_j (by omega), up_k (by decide)]
      · rw [up_k e, up_k e1]
theorem f_refuse {d f : Nat} {tl : List (Nat × Nat)} {q : zR} {im : zI} (hf : f < 2147483648) (h : yxFs im f) : ∃ im', zEv (d + 1) 29 [.ref 17] (zMm tl q im) none (zMm tl q im') ∧ yxFs im' f ∧ yxKp im im' := by
  obtain ⟨h1, h2, c, hc, h3⟩ := h
  have n1 : ¬ im 17 2 = (-1 : Int32) := by rw [h1]; exact zi_m1 hf
  refine ⟨up2 im 17 5 (-2), zEv_o rfl (t_X7_refuse ⟨fun _ => ⟨rfl, rfl⟩, fun hh => absurd hh n1⟩), ⟨by rw [up_j (by decide)]; exact h1, up_eq, c, hc, by rw [up_j (by decide)]; exact h3⟩, fun k j e1 e2 => ?_⟩
  by_cases e : k = 17
  · subst e
    have : j = 1 := Decidable.of_not_not fun hh => e2 ⟨rfl, hh⟩
    exact up_j (by omega)
  · exact up_k e
theorem f_pass {d f : Nat} {w : Int32} {tl : List (Nat × Nat)} {q : zR} {im : zI} (hf : f < 2147483648) (h : yxFs im f) : ∃ im', zEv (d + 2) 30 [.ref 17, .int w] (zMm tl q im) none (zMm tl q im') ∧ yxFs im' f ∧ yxKp im im' := by
  obtain ⟨im', g1, g2, g3⟩ := f_refuse (d := d) (tl := tl) (q := q) hf h
  have n1 : ¬ im 17 2 = (-1 : Int32) := by rw [h.1]; exact zi_m1 hf
  exact ⟨im', zEv_o rfl (t_X7_pass ⟨fun _ => ⟨im', g1, rfl, rfl⟩, fun _ => ⟨fun _ => ⟨im', g1, rfl, rfl⟩, fun hh => absurd hh n1⟩⟩), g2, g3⟩
theorem f_one {d f : Nat} {tl : List (Nat × Nat)} {q : zR} {im : zI} (hf : f < 2147483648) (h : yxFs im f) : ∃ im', zEv (d + 2) 38 [.ref 17] (zMm tl q im) none (zMm tl q im') ∧ yxFs im' f ∧ yxKp im im' := by
  obtain ⟨im', g1, g2, g3⟩ := f_refuse (d := d) (tl := tl) (q := q) hf h
  refine ⟨im', zEv_o rfl (t_X7_readOne ?_), g2, g3⟩
  rw [h.2.1]
  exact ⟨fun _ => ⟨fun _ => ⟨fun _ => ⟨fun _ => ⟨im', g1, rfl, rfl⟩, fun hh => absurd hh (by decide)⟩, fun hh => absurd hh (by decide)⟩, fun hh => absurd (by decide) hh⟩, fun hh => absurd hh (by decide)⟩
theorem f_term {d f : Nat} {tl : List (Nat × Nat)} {q : zR} {im : zI} (hf : f < 2147483648) (h : yxFs im f) : ∃ im', zEv (d + 3) 37 [.ref 17] (zMm tl q im) none (zMm tl q im') ∧ yxFs im' f ∧ yxKp im im' := by
  obtain ⟨im', g1, g2, g3⟩ := f_one (d := d) (tl := tl) (q := q) hf h
  refine ⟨im', zEv_o rfl (t_X7_readTerm ⟨im', g1, t_X7_readTerm_4 ?_⟩), g2, g3⟩
  rw [g2.2.1]
  first
  | exact ⟨fun _ => ⟨rfl, rfl⟩, fun _ => ⟨fun _ => ⟨rfl, rfl⟩, fun hh => absurd hh (by decide)⟩⟩
  | exact ⟨fun _ => ⟨rfl, rfl⟩, fun _ => ⟨fun hh => absurd hh (by decide), fun _ => ⟨rfl, rfl⟩⟩⟩
theorem f_sum {d f : Nat} {tl : List (Nat × Nat)} {q : zR} {im : zI} (hf : f < 2147483648) (h : yxFs im f) : ∃ im', zEv (d + 4) 36 [.ref 17] (zMm tl q im) none (zMm tl q im') ∧ yxFs im' f ∧ yxKp im im' := by
  obtain ⟨im', g1, g2, g3⟩ := f_term (d := d) (tl := tl) (q := q) hf h
  refine ⟨im', zEv_o rfl (t_X7_readSum ⟨im', g1, t_X7_readSum_4 ?_⟩), g2, g3⟩
  rw [g2.2.1]
  first
  | exact ⟨fun _ => ⟨rfl, rfl⟩, fun _ => ⟨fun hh => absurd hh (by decide), fun _ => ⟨fun _ => ⟨rfl, rfl⟩, fun hh => absurd hh (by decide)⟩⟩⟩
  | exact ⟨fun _ => ⟨rfl, rfl⟩, fun _ => ⟨fun _ => ⟨fun _ => ⟨rfl, rfl⟩, fun hh => absurd hh (by decide)⟩, fun hh => absurd hh (by decide)⟩⟩
theorem f_not {d f : Nat} {tl : List (Nat × Nat)} {q : zR} {im : zI} (hf : f < 2147483648) (h : yxFs im f) : ∃ im', zEv (d + 5) 35 [.ref 17] (zMm tl q im) none (zMm tl q im') ∧ yxFs im' f ∧ yxKp im im' := by
  obtain ⟨im', g1, g2, g3⟩ := f_sum (d := d) (tl := tl) (q := q) hf h
  refine ⟨im', zEv_o rfl (t_X7_readNot ?_), g2, g3⟩
  rw [h.2.1]
  refine ⟨fun _ => ⟨im', g1, ?_⟩, fun hh => absurd hh (by decide)⟩
  rw [g2.2.1]
  exact ⟨fun hh => absurd hh (by decide), fun _ => ⟨fun _ => ⟨rfl, rfl⟩, fun hh => absurd hh (by decide)⟩⟩
theorem f_and {d f : Nat} {tl : List (Nat × Nat)} {q : zR} {im : zI} (hf : f < 2147483648) (h : yxFs im f) : ∃ im', zEv (d + 6) 34 [.ref 17] (zMm tl q im) none (zMm tl q im') ∧ yxFs im' f ∧ yxKp im im' := by
  obtain ⟨im', g1, g2, g3⟩ := f_not (d := d) (tl := tl) (q := q) hf h
  refine ⟨im', zEv_o rfl (t_X7_readAnd ⟨im', g1, t_X7_readAnd_4 ?_⟩), g2, g3⟩
  rw [g2.2.1]
  first
  | exact ⟨fun _ => ⟨rfl, rfl⟩, fun _ => ⟨fun _ => ⟨rfl, rfl⟩, fun hh => absurd hh (by decide)⟩⟩
  | exact ⟨fun _ => ⟨rfl, rfl⟩, fun _ => ⟨fun hh => absurd hh (by decide), fun _ => ⟨rfl, rfl⟩⟩⟩
theorem f_or {d f : Nat} {tl : List (Nat × Nat)} {q : zR} {im : zI} (hf : f < 2147483648) (h : yxFs im f) : ∃ im', zEv (d + 7) 33 [.ref 17] (zMm tl q im) none (zMm tl q im') ∧ yxFs im' f ∧ yxKp im im' := by
  obtain ⟨im', g1, g2, g3⟩ := f_and (d := d) (tl := tl) (q := q) hf h
  refine ⟨im', zEv_o rfl (t_X7_readOr ⟨im', g1, t_X7_readOr_4 ?_⟩), g2, g3⟩
  rw [g2.2.1]
  first
  | exact ⟨fun _ => ⟨rfl, rfl⟩, fun _ => ⟨fun _ => ⟨rfl, rfl⟩, fun hh => absurd hh (by decide)⟩⟩
  | exact ⟨fun _ => ⟨rfl, rfl⟩, fun _ => ⟨fun hh => absurd hh (by decide), fun _ => ⟨rfl, rfl⟩⟩⟩
