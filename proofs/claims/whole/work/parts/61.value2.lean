/-! VALUE, on: a text of the class -/
def yCx (tl : List (Nat × Nat)) (q : zR) (im : zI) (r : Nat) (T : Nat → List Nat) : Prop :=
  ∃ L8 cc len, (zB ++ tl)[r]? = some (8, L8) ∧ zRf q r 0 = some cc ∧ (zB ++ tl)[cc]? = some (20, len) ∧ (cc < 21 ∨ 36 < cc) ∧ (r < 21 ∨ 36 < r) ∧ len = (T 0).length + (T 1).length + (T 2).length ∧ len ≤ 160 ∧
    im r 1 = Int32.ofNat (T 0).length ∧ im r 2 = Int32.ofNat ((T 0).length + (T 1).length) ∧ (∀ p, p < 3 → yDp (T p) 0 = some 1) ∧
    (∀ i, i < (T 0).length → im cc (0 + i) = yTr ((T 0).getD i 0)) ∧ (∀ i, i < (T 1).length → im cc ((T 0).length + i) = yTr ((T 1).getD i 0)) ∧ (∀ i, i < (T 2).length → im cc ((T 0).length + (T 1).length + i) = yTr ((T 2).getD i 0))
theorem c_valueOf {d r part : Nat} {tl : List (Nat × Nat)} {q : zR} {im : zI} {T : Nat → List Nat} {nm : Nat → Int32} (hp : part < 3) (hT : yCx tl q im r T) (h33 : ∀ j, j < 6 → im 33 j = nm j) :
    ∃ im', zEv (d + 2) 40 [.ref r, .int (Int32.ofNat part), .ref 33, .ref 34] (zMm tl q im) (some (.int (yE T part nm))) (zMm tl q im') ∧ (∀ k, k ≠ 34 → im' k = im k) := by
  obtain ⟨L8, cc, len, hr, hq, hcc, hc1, hr1, hlen, hl, f1, f2, hd, c0, c1, c2⟩ := hT
  have h34 : cc ≠ 34 := by omega
  match part, hp with
  | 0, _ =>
    obtain ⟨im', g1, g2⟩ := c_valLoop (d := d) (x1 := Int32.ofNat 0) (x4 := 0) (e := (T 0).length) (nm := nm) hr hq hcc h34 hl (by omega) (T 0) 0 [] im (by omega) c0 h33 trivial (by simp only [List.length_nil]; omega) (hd 0 (by omega))
    refine ⟨im', zEv_o rfl (t_X8_valueOf ⟨fun h => absurd rfl h, fun _ => ⟨fun h => absurd rfl h, fun _ => ?_⟩⟩), g2⟩
    rw [hr, f1]
    exact g1
  | 1, _ =>
    obtain ⟨im', g1, g2⟩ := c_valLoop (d := d) (x1 := Int32.ofNat 1) (x4 := Int32.ofNat (T 0).length) (e := (T 0).length + (T 1).length) (nm := nm) hr hq hcc h34 hl (by omega) (T 1) (T 0).length [] im (by omega) c1 h33 trivial (by simp only [List.length_nil]; omega) (hd 1 (by omega))
    refine ⟨im', zEv_o rfl (t_X8_valueOf ⟨fun _ => ⟨fun h => absurd rfl h, fun _ => ?_⟩, fun h => absurd h (by decide)⟩), g2⟩
    rw [hr]
    refine ⟨fun _ => ⟨fun h => absurd rfl h, fun _ => ?_⟩, fun h => absurd h (by decide)⟩
    rw [f1, f2]
    exact g1
  | 2, _ =>
    obtain ⟨im', g1, g2⟩ := c_valLoop (d := d) (x1 := Int32.ofNat 2) (x4 := Int32.ofNat ((T 0).length + (T 1).length)) (e := len) (nm := nm) hr hq hcc h34 hl (Nat.le_refl len) (T 2) ((T 0).length + (T 1).length) [] im (by omega) c2 h33 trivial (by simp only [List.length_nil]; omega) (hd 2 (by omega))
    refine ⟨im', zEv_o rfl (t_X8_valueOf ⟨fun _ => ⟨fun _ => ?_, fun h => absurd h (by decide)⟩, fun h => absurd h (by decide)⟩), g2⟩
    rw [hr]
    refine ⟨fun _ => ⟨fun _ => ?_, fun h => absurd h (by decide)⟩, fun h => absurd h (by decide)⟩
    rw [hq]
    show ((zB ++ tl)[cc]?).elim _ _
    rw [hcc, f2]
    exact g1
