/-! SAYS: asked of names -/
def yNm (a b c d e f : Int32) : Nat → Int32 := fun j => if j = 0 then a else if j = 1 then b else if j = 2 then c else if j = 3 then d else if j = 4 then e else f
/-- what a part says within its bounds -/
def yAsk (T : Nat → List Nat) (part : Nat) (nm : Nat → Int32) : Int32 := zWithin (yE T part nm) 0 (if part = 2 then 100 else 99)
theorem yTx_k {im im' : zI} {R : Nat} {T : Nat → List Nat} (h : yTx im R T) (h55 : im' 55 = im 55) (h56 : im' 56 = im 56) : yTx im' R T := by
  unfold yTx at h ⊢
  rw [h55, h56]
  exact h
theorem m_asksOf {d R part : Nat} {tl : List (Nat × Nat)} {q : zR} {im : zI} {T : Nat → List Nat} {a b c d' e f : Int32} (hR : R < 6) (hp : part < 3) (h13 : im 47 13 = Int32.ofNat R) (hT : yTx im R T) :
    ∃ im', zEv (d + 3) 163 [.ref 47, .int (Int32.ofNat part), .int a, .int b, .int c, .int d', .int e, .int f] (zMm tl q im) (some (.int (yAsk T part (yNm a b c d' e f)))) (zMm tl q im') ∧ (∀ k, k ≠ 65 → k ≠ 66 → im' k = im k) := by
  obtain ⟨im', g1, g2⟩ := m_says (d := d) (tl := tl) (q := q) (im := up2 (up2 (up2 (up2 (up2 (up2 im 66 0 a) 66 1 b) 66 2 c) 66 3 d') 66 4 e) 66 5 f) (T := T) (nm := yNm a b c d' e f) hR hp h13 (yTx_k hT rfl rfl) (fun j hj => by
    match j, hj with
    | 0, _ => rfl
    | 1, _ => rfl
    | 2, _ => rfl
    | 3, _ => rfl
    | 4, _ => rfl
    | 5, _ => rfl)
  refine ⟨im', zEv_o rfl (t_X12_asksOf ⟨_, _, g1, ?_⟩), fun k h1 h2 => by rw [g2 k h1, up_r h2, up_r h2, up_r h2, up_r h2, up_r h2, up_r h2]⟩
  have e2 : Int32.ofNat part = (2 : Int32) ↔ part = 2 := zi_eq (b := 2) (by omega) (by omega)
  rw [e2]
  unfold yAsk
  refine ⟨fun h => ⟨_, _, m_within, ?_, rfl⟩, fun h => ⟨_, _, m_within, ?_, rfl⟩⟩
  · rw [if_neg h]
  · rw [if_pos h]
