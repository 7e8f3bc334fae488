/-! THE CLASS READS: sum -/
theorem c_xSum {d n o : Nat} {B : Nat → Int32} {r : yxS3 → yxRs} {tl : List (Nat × Nat)} {q : zR} (hn : n ≤ 160) (hBb : ∀ k, k < n → ∃ c, c < 256 ∧ B k = Int32.ofNat c) (hs : yxSub (d + 5) 37 B n o r tl q) : yxSub (d + 6) 36 B n o (yxBi B n r yxOS) tl q := by
  have ho : ∀ T c, yxOS T = some c → (T = (8, 43) ∧ c = 16) ∨ (T = (8, 45) ∧ c = 17) := by
    intro T c h
    unfold yxOS at h
    by_cases e : T = (8, 43)
    · rw [if_pos e] at h
      exact .inl ⟨e, (Option.some.inj h).symm⟩
    · rw [if_neg e] at h
      by_cases e2 : T = (8, 45)
      · rw [if_pos e2] at h
        exact .inr ⟨e2, (Option.some.inj h).symm⟩
      · rw [if_neg e2] at h
        exact absurd h (by simp)
  refine yxBi_c hn hBb hs (fun x im im' => zX (d + 5) zc_X7_readSum 4 [(0, .ref 17), (1, .int x)] [] (zMm tl q im) (fun a b => a = none ∧ b = zMm tl q im')) (fun T c h => by rcases ho T c h with h | h <;> rw [h.1] <;> exact (show (8 : Nat) ≠ 0 by decide)) (fun im => t_X7_readSum_4 ⟨fun _ => ⟨rfl, rfl⟩, fun h => absurd (by decide) h⟩) (fun x im T hv h1 h2 => ?_) rfl (fun j im im3 im4 im5 im' T c hj hv h1 h2 g1 g2 g3 g4 => ?_) (fun im im1 im' g1 g2 => zEv_o rfl (t_X7_readSum ⟨im1, g1, g2⟩))
  · have hne : ∀ m, m < 256 → yxOS (8, m) ≠ none → ¬ im 17 5 = Int32.ofNat m := by
      intro m hm h3 h
      rw [h2] at h
      have := yxC_s hv hm h
      subst this
      exact h3 h1
    have n43 : ¬ im 17 5 = (43 : Int32) := hne 43 (by omega) (by decide)
    have n45 : ¬ im 17 5 = (45 : Int32) := hne 45 (by omega) (by decide)
    exact t_X7_readSum_4 ⟨fun _ => ⟨rfl, rfl⟩, fun _ => ⟨fun h => absurd h n43, fun _ => ⟨fun _ => ⟨rfl, rfl⟩, fun h => absurd h n45⟩⟩⟩
  · have nj : ¬ (160 : Int32) ≤ Int32.ofNat j := fun h => absurd ((zi_le (a := 160) (by omega) (by omega)).mp h) (by omega)
    rcases ho T c h1 with ⟨e1, e2⟩ | ⟨e1, e2⟩
    · subst e1 e2
      have h43 : im 17 5 = (43 : Int32) := h2
      refine t_X7_readSum_4 ⟨fun h => absurd h nj, fun _ => ⟨fun _ => ⟨fun h => absurd h43 h, fun _ => ⟨im3, ?_, im4, g2, im5, g3, ?_⟩⟩, fun h => absurd h43 h⟩⟩
      · rw [h2]
        exact g1
      · rw [zi_s]
        exact g4
    · subst e1 e2
      have h45 : im 17 5 = (45 : Int32) := h2
      have n43 : ¬ im 17 5 = (43 : Int32) := by
        rw [h45]
        decide
      refine t_X7_readSum_4 ⟨fun h => absurd h nj, fun _ => ⟨fun h => absurd h n43, fun _ => ⟨fun h => absurd h45 h, fun _ => ⟨fun _ => ⟨im3, ?_, im4, g2, im5, g3, ?_⟩, fun h => absurd h n43⟩⟩⟩⟩
      · rw [h2]
        exact g1
      · rw [zi_s]
        exact g4
