/-! THE CLASS READS: not, compare -/
theorem yxKp_9 {im : zI} {v : Int32} : yxKp im (up2 im 17 9 v) := fun k j e1 e2 => by
  by_cases e : k = 17
  · subst e
    have : j = 1 := Decidable.of_not_not fun hh => e2 ⟨rfl, hh⟩
    exact up_j (by omega)
  · exact up_k e
theorem yxFs_9 {im : zI} {f : Nat} {v : Int32} (h : yxFs im f) : yxFs (up2 im 17 9 v) f := by
  obtain ⟨h1, h2, c, hc, h3⟩ := h
  exact ⟨by rw [up_j (by decide)]; exact h1, by rw [up_j (by decide)]; exact h2, c, hc, by rw [up_j (by decide)]; exact h3⟩
/-- one less is open -/
theorem yxCs_9 {B : Nat → Int32} {n o : Nat} {im : zI} {S : yxS3} {cs : List Nat} (h : yxCs B n im S (o + 1) cs) : yxCs B n (up2 im 17 9 (im 17 9 - 1)) S o cs := by
  obtain ⟨⟨a1, a2⟩, ⟨b1, b2, b3, b4, b5⟩, c1, c2, c3, c4⟩ := h
  refine ⟨⟨by rw [up_j (by decide)]; exact a1, fun k hk => by rw [up_k (by decide)]; exact a2 k hk⟩, ⟨by rw [up_j (by decide)]; exact b1, b2, by rw [up_j (by decide)]; exact b3, by rw [up_j (by decide)]; exact b4, fun h => by rw [up_j (by decide)]; exact b5 h⟩, by rw [up_j (by decide)]; exact c1, ?_, by rw [up_j (by decide)]; exact c3, fun i hi => by rw [up_k (by decide)]; exact c4 i hi⟩
  rw [up_eq, c2, ← zi_s, Int32.add_sub_cancel]
