/-! SAYS: what the Model's text says -/
/-- a text in the Model's rows: its codes, by part -/
def yTx (im : zI) (R : Nat) (T : Nat → List Nat) : Prop :=
  im 56 (4 * R) = Int32.ofNat 0 ∧ im 56 (4 * R + 1) = Int32.ofNat (T 0).length ∧ im 56 (4 * R + 2) = Int32.ofNat ((T 0).length + (T 1).length) ∧ im 56 (4 * R + 3) = Int32.ofNat ((T 0).length + (T 1).length + (T 2).length) ∧
  (T 0).length + (T 1).length + (T 2).length ≤ 160 ∧ (∀ p, p < 3 → yDp (T p) 0 = some 1) ∧
  (∀ i, i < (T 0).length → im 55 (200 * R + (0 + i)) = Int32.ofNat ((T 0).getD i 0)) ∧ (∀ i, i < (T 1).length → im 55 (200 * R + ((T 0).length + i)) = Int32.ofNat ((T 1).getD i 0)) ∧
  (∀ i, i < (T 2).length → im 55 (200 * R + ((T 0).length + (T 1).length + i)) = Int32.ofNat ((T 2).getD i 0))
/-- what a part says, of what is named -/
def yE (T : Nat → List Nat) (part : Nat) (nm : Nat → Int32) : Int32 := (yEv nm (T part) []).headD 0
theorem m_says {d R part : Nat} {tl : List (Nat × Nat)} {q : zR} {im : zI} {T : Nat → List Nat} {nm : Nat → Int32} (hR : R < 6) (hp : part < 3) (h13 : im 47 13 = Int32.ofNat R) (hT : yTx im R T) (h66 : ∀ j, j < 6 → im 66 j = nm j) :
    ∃ im', zEv (d + 2) 161 [.ref 47, .int (Int32.ofNat part)] (zMm tl q im) (some (.int (yE T part nm))) (zMm tl q im') ∧ (∀ k, k ≠ 65 → im' k = im k) := by
  obtain ⟨s0, s1, s2, s3, hl, hd, c0, c1, c2⟩ := hT
  have key : ∀ a, im 56 (4 * R + part) = Int32.ofNat a → im 56 (4 * R + part + 1) = Int32.ofNat (a + (T part).length) → a + (T part).length ≤ 200 → (∀ i, i < (T part).length → im 55 (200 * R + (a + i)) = Int32.ofNat ((T part).getD i 0)) →
      ∃ im', zEv (d + 2) 161 [.ref 47, .int (Int32.ofNat part)] (zMm tl q im) (some (.int (yE T part nm))) (zMm tl q im') ∧ (∀ k, k ≠ 65 → im' k = im k) := by
    intro a h1 h2 h3 h4
    have e1 : ((4 : Int32) * Int32.ofNat R) + Int32.ofNat part = Int32.ofNat (4 * R + part) := by rw [Int32.ofNat_add, Int32.ofNat_mul]; rfl
    obtain ⟨im', g1, g2⟩ := m_saysLoop (d := d) (tl := tl) (q := q) (nm := nm) hR hp h3 (T part) a [] im rfl h13 h2 h4 h66 trivial (by simp only [List.length_nil]; omega) (hd part hp)
    refine ⟨im', zEv_o rfl (t_X12_says ?_), g2⟩
    rw [h13, e1, zi_n (by omega), h1]
    exact ⟨zi_in (by omega) (by omega), g1⟩
  match part, hp with
  | 0, _ => exact key 0 s0 (by rw [Nat.zero_add]; exact s1) (by omega) c0
  | 1, _ => exact key (T 0).length s1 s2 (by omega) c1
  | 2, _ => exact key ((T 0).length + (T 1).length) s2 s3 (by omega) c2
