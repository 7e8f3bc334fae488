/-! THE MODEL: what is left, the best, rest -/
/-- the Model's top, people elsewhere -/
def yMs (V : yV) (t : Nat) (s : Nat → Int32) (im : zI) : Prop := yMo im (yvN V) (yvM V) (yWo V (yvR V) t) (ySd V t) (yOn V t) (yRo V t) s ∧ (∀ p, p < yvM V → im 70 p = yAh V p t)
theorem yMs_k {V : yV} {t : Nat} {s : Nat → Int32} {im im' : zI} (h : yMs V t s im) (hk : ∀ k, k ≠ 65 → k ≠ 66 → im' k = im k) : yMs V t s im' := by
  obtain ⟨⟨a1, a2, a3, a4, a5, a6, a7, a8, a9⟩, h70⟩ := h
  unfold yMs yMo
  rw [hk 47 (by decide) (by decide), hk 67 (by decide) (by decide), hk 68 (by decide) (by decide), hk 69 (by decide) (by decide), hk 70 (by decide) (by decide)]
  exact ⟨⟨a1, a2, a3, a4, a5, a6, a7, a8, a9⟩, h70⟩
theorem yMs_put {V : yV} {t p : Nat} {s : Nat → Int32} {im : zI} {x : Int32} (h : yMs V t s im) (hx : yPl V x) : yMs V t (zSet s p x) (up2 im 69 p x) := ⟨yMo_put h.1 hx, fun p' hp' => by rw [up_k (by decide)]; exact h.2 p' hp'⟩
theorem yFb.k56 {a b : zI} (h : ∀ k, k ≠ 65 → k ≠ 66 → b k = a k) : yFb a b := yFb.of2 65 66 (by decide) (by decide) h
theorem zi_far : ∀ a b : Fin 6, (a.1 ≤ b.1 → (if 0 ≤ Int32.ofNat a.1 - Int32.ofNat b.1 then Int32.ofNat a.1 - Int32.ofNat b.1 else 0 - (Int32.ofNat a.1 - Int32.ofNat b.1)) = Int32.ofNat b.1 - Int32.ofNat a.1) ∧ (¬ a.1 ≤ b.1 → (if 0 ≤ Int32.ofNat a.1 - Int32.ofNat b.1 then Int32.ofNat a.1 - Int32.ofNat b.1 else 0 - (Int32.ofNat a.1 - Int32.ofNat b.1)) = Int32.ofNat a.1 - Int32.ofNat b.1) := by decide +kernel
theorem yAh_pl {V : yV} {p t : Nat} (hG : yG V) (hp : p < yvM V) (ht : t < 12) : yPl V (yAh V p t) := by
  unfold yAh
  by_cases e : t = 0
  · rw [if_pos e]; exact .inl rfl
  · rw [if_neg e]; exact hG.2.2.2.2.2.1 p hp (t - 1) (by omega)
theorem m_costTo {d p t : Nat} {x : Int32} {tl : List (Nat × Nat)} {q : zR} {im : zI} {V : yV} (hG : yG V) (hB : yB im V) (hx : yPl V x) (hp : p < yvM V) (ht : t < 12) (h70 : im 70 p = yAh V p t) :
    ∃ im', zEv (d + 4) 177 [.ref 47, .int (Int32.ofNat p), .int x, .int (Int32.ofNat t)] (zMm tl q im) (some (.int (yCo V p t x))) (zMm tl q im') ∧ (∀ k, k ≠ 65 → k ≠ 66 → im' k = im k) := by
  have hn := hG.1
  have hm := hG.2.1
  have hR := hG.2.2.1
  have hC := hG.2.2.2.1
  have h48 := hB.2.2.2.2.1 t ht
  have v12 := zi_in ht (show t < 2147483648 by omega)
  have ask := fun far => m_asksOf (d := d) (tl := tl) (q := q) (part := 1) (a := 0) (b := yvH V t) (c := 0) (d' := far) (e := Int32.ofNat t) (f := x) (show yvR V < 6 by omega) (by decide) hB.2.2.1 (hB.2.2.2.2.2.2.2 (yvR V) hR)
  have v4 := zi_in (show p < 4 by omega) (show p < 2147483648 by omega)
  unfold yCo
  by_cases ex : x = -1
  · rw [if_pos (.inl ex)]
    refine ⟨im, zEv_o rfl (t_X12_costTo ⟨v4, fun _ => ⟨rfl, rfl⟩, fun h => absurd ex h⟩), fun _ _ _ => rfl⟩
  · by_cases ef : x = yAh V p t
    · rw [if_pos (.inr ef)]
      refine ⟨im, zEv_o rfl (t_X12_costTo ?_), fun _ _ _ => rfl⟩
      rw [zi_n (show p < 2147483648 by omega), h70]
      exact ⟨v4, fun h => absurd h ex, fun _ => ⟨fun h => absurd ef h, fun _ => ⟨rfl, rfl⟩⟩⟩
    · rw [if_neg (by rintro (h | h); exact ex h; exact ef h)]
      by_cases e3 : yAh V p t = -1
      · obtain ⟨im', g1, g2⟩ := ask (x + 1)
        rw [if_pos e3]
        refine ⟨im', zEv_o rfl (t_X12_costTo ?_), g2⟩
        rw [zi_n (show p < 2147483648 by omega), zi_n (show t < 2147483648 by omega), h70, h48, Int32.add_comm 1 x]
        exact ⟨v4, fun h => absurd h ex, fun _ => ⟨fun _ => ⟨fun h => absurd e3 h, fun _ => ⟨v12, _, _, g1, rfl, rfl⟩⟩, fun h => absurd h ef⟩⟩
      · rw [if_neg e3]
        rcases hx with h | ⟨a, ha, eax⟩
        · exact absurd h ex
        · rcases yAh_pl hG hp ht with h | ⟨b, hb, ebx⟩
          · exact absurd h e3
          · obtain ⟨f1, f2⟩ := zi_far ⟨a, by omega⟩ ⟨b, by omega⟩
            simp only at f1 f2
            have hle : x ≤ yAh V p t ↔ a ≤ b := by rw [eax, ebx]; exact zi_le (by omega) (by omega)
            by_cases hab : a ≤ b
            · obtain ⟨im', g1, g2⟩ := ask (yAh V p t - x)
              refine ⟨im', zEv_o rfl (t_X12_costTo ?_), g2⟩
              rw [zi_n (show p < 2147483648 by omega), zi_n (show t < 2147483648 by omega), h70, h48, hle]
              refine ⟨v4, fun h => absurd h ex, fun _ => ⟨fun _ => ⟨fun _ => ⟨fun _ => ⟨v12, _, _, g1, ?_, rfl⟩, fun h => absurd hab h⟩, fun h => absurd h e3⟩, fun h => absurd h ef⟩⟩
              rw [eax, ebx, f1 hab]
            · obtain ⟨im', g1, g2⟩ := ask (x - yAh V p t)
              refine ⟨im', zEv_o rfl (t_X12_costTo ?_), g2⟩
              rw [zi_n (show p < 2147483648 by omega), zi_n (show t < 2147483648 by omega), h70, h48, hle]
              refine ⟨v4, fun h => absurd h ex, fun _ => ⟨fun _ => ⟨fun _ => ⟨fun h => absurd h hab, fun _ => ⟨v12, _, _, g1, ?_, rfl⟩⟩, fun h => absurd h e3⟩, fun h => absurd h ef⟩⟩
              rw [eax, ebx, f2 hab]
/-- what is left to one at a place, people as told -/
def yL (V : yV) (t : Nat) (s : Nat → Int32) (p : Nat) (x : Int32) : Int32 := zLf (yvN V) (yvM V) (yWo V (yvR V) t) (ySd V t) (yRo V t) s (fun p i => yCo V p t (Int32.ofNat i)) p x
theorem yL_m1 {V : yV} {t : Nat} {s : Nat → Int32} {p : Nat} : yL V t s p (-1) = 0 := by
  unfold yL zLf
  rw [decide_eq_false (by decide)]
  rfl
theorem m_leftAt {d p t : Nat} {x : Int32} {s : Nat → Int32} {tl : List (Nat × Nat)} {q : zR} {im : zI} {V : yV} (hG : yG V) (hB : yB im V) (hM : yMs V t s im) (hx : yPl V x) (hp : p < yvM V) (ht : t < 12) :
    ∃ im', zEv (d + 5) 178 [.ref 47, .int (Int32.ofNat p), .int x, .int (Int32.ofNat t)] (zMm tl q im) (some (.int (yL V t s p x))) (zMm tl q im') ∧ (∀ k, k ≠ 65 → k ≠ 66 → im' k = im k) := by
  have hn := hG.1
  have hm := hG.2.1
  have v4 := zi_in (show p < 4 by omega) (show p < 2147483648 by omega)
  by_cases ex : x = -1
  · subst ex
    rw [yL_m1]
    exact ⟨im, zEv_o rfl (t_X12_leftAt ⟨fun h => absurd rfl h, fun _ => ⟨rfl, rfl⟩⟩), fun _ _ _ => rfl⟩
  · have hM2 := yMs_put (p := p) hM hx
    have hB2 : yB (up2 im 69 p x) V := yB_fr hB (yFb.up (a := im) (c := 69) (j := p) (v := x) (by decide)).fr
    obtain ⟨im4, g1, g2⟩ := m_costTo (d := d) (tl := tl) (q := q) hG hB2 hx hp ht (hM2.2 p hp)
    refine ⟨up2 im4 69 p (im 69 p), zEv_o rfl (t_X12_leftAt ?_), fun k h1 h2 => ?_⟩
    · rw [zi_n (show p < 2147483648 by omega)]
      refine ⟨fun _ => ⟨v4, v4, _, _, m_gainOf (d := d + 1) hM2.1 hp, _, _, g1, v4, ?_, rfl⟩, fun h => absurd h ex⟩
      rcases hx with h | ⟨a, ha, eax⟩
      · exact absurd h ex
      · rw [zSet_eq, zGa_set hp]
        unfold yL zLf
        rw [eax, decide_eq_true (zi_ge0 (by omega)), decide_eq_true ((zi_lt (by omega) (by omega)).mpr ha), zi_n (show a < 2147483648 by omega)]
        rfl
    · by_cases e : k = 69
      · subst e
        funext j
        by_cases e2 : j = p
        · subst e2; rw [up_eq]
        · rw [up_j e2, g2 69 (by decide) (by decide), up_j e2]
      · rw [up_r e, g2 k h1 h2, up_r e]
/-- the best place of one -/
def yBe (V : yV) (t : Nat) (s : Nat → Int32) (p : Nat) : Int32 := zBest (yvN V) (yvM V) (yWo V (yvR V) t) (ySd V t) (yRo V t) s (fun p i => yCo V p t (Int32.ofNat i)) p
theorem yBp_ok {V : yV} {t p : Nat} {s : Nat → Int32} : ∀ i, i ≤ yvN V → yPl V (zBp (fun i => yL V t s p (Int32.ofNat i)) i).1 ∧ yL V t s p (zBp (fun i => yL V t s p (Int32.ofNat i)) i).1 = (zBp (fun i => yL V t s p (Int32.ofNat i)) i).2
  | 0, _ => ⟨.inl rfl, yL_m1⟩
  | i + 1, hi => by
    have ih := yBp_ok (V := V) (t := t) (p := p) (s := s) i (by omega)
    show yPl V (if _ then _ else _ : Int32 × Int32).1 ∧ yL V t s p (if _ then _ else _ : Int32 × Int32).1 = (if _ then _ else _ : Int32 × Int32).2
    by_cases h : yL V t s p (Int32.ofNat i) ≤ (zBp (fun i => yL V t s p (Int32.ofNat i)) i).2
    · rw [if_pos h]; exact ih
    · rw [if_neg h]; exact ⟨.inr ⟨i, by omega, rfl⟩, rfl⟩
theorem yBe_pl {V : yV} {t p : Nat} {s : Nat → Int32} : yPl V (yBe V t s p) := (yBp_ok (yvN V) (Nat.le_refl _)).1
theorem m_bestPlace {d p t : Nat} {s : Nat → Int32} {tl : List (Nat × Nat)} {q : zR} {im : zI} {V : yV} (hG : yG V) (hB : yB im V) (hM : yMs V t s im) (hp : p < yvM V) (ht : t < 12) :
    ∃ im', zEv (d + 6) 183 [.ref 47, .int (Int32.ofNat p), .int (Int32.ofNat t)] (zMm tl q im) (some (.int (yBe V t s p))) (zMm tl q im') ∧ (∀ k, k ≠ 65 → k ≠ 66 → im' k = im k) := by
  have hn := hG.1
  have lp : ∀ m i im1, i + m = yvN V → (∀ k, k ≠ 65 → k ≠ 66 → im1 k = im k) →
      ∃ im', zX (d + 5) zc_X12_bestPlace 4 [(0, .ref 47), (1, .int (Int32.ofNat p)), (2, .int (Int32.ofNat t)), (3, .int (zBp (fun i => yL V t s p (Int32.ofNat i)) i).1), (4, .int (Int32.ofNat i))] [] (zMm tl q im1) (fun a b => a = some (.int (yBe V t s p)) ∧ b = zMm tl q im') ∧ (∀ k, k ≠ 65 → k ≠ 66 → im' k = im k) := by
    intro m
    induction m with
    | zero =>
      intro i im1 hi hF
      have e : i = yvN V := by omega
      subst e
      refine ⟨im1, t_X12_bestPlace_4 ?_, hF⟩
      rw [(yB_fr hB (yFb.k56 hF).fr).1]
      exact ⟨fun _ => ⟨rfl, rfl⟩, fun h => absurd ((zi_le (by omega) (by omega)).mpr (Nat.le_refl _)) h⟩
    | succ m ih =>
      intro i im1 hi hF
      have hB1 := yB_fr hB (yFb.k56 hF).fr
      obtain ⟨b1, b2⟩ := yBp_ok (V := V) (t := t) (p := p) (s := s) i (by omega)
      obtain ⟨im2, g1, g2⟩ := m_leftAt (d := d) (x := Int32.ofNat i) (tl := tl) (q := q) hG hB1 (yMs_k hM hF) (.inr ⟨i, by omega, rfl⟩) hp ht
      have hF2 : ∀ k, k ≠ 65 → k ≠ 66 → im2 k = im k := fun k a b => by rw [g2 k a b, hF k a b]
      obtain ⟨im3, g3, g4⟩ := m_leftAt (d := d) (tl := tl) (q := q) hG (yB_fr hB (yFb.k56 hF2).fr) (yMs_k hM hF2) b1 hp ht
      obtain ⟨im', h1, h2⟩ := ih (i + 1) im3 (by omega) (fun k a b => by rw [g4 k a b, hF2 k a b])
      rw [b2] at g3
      rw [show zBp (fun i => yL V t s p (Int32.ofNat i)) (i + 1) = if yL V t s p (Int32.ofNat i) ≤ (zBp (fun i => yL V t s p (Int32.ofNat i)) i).2 then zBp (fun i => yL V t s p (Int32.ofNat i)) i else (Int32.ofNat i, yL V t s p (Int32.ofNat i)) from rfl] at h1
      refine ⟨im', t_X12_bestPlace_4 ?_, h2⟩
      rw [hB1.1, zi_s]
      refine ⟨fun h => absurd ((zi_le (by omega) (by omega)).mp h) (by omega), fun _ => ⟨_, _, g1, _, _, g3, fun h => ?_, fun h => ?_⟩⟩
      · rw [if_pos h] at h1; exact h1
      · rw [if_neg h] at h1; exact h1
  obtain ⟨im', h1, h2⟩ := lp (yvN V) 0 im (by omega) (fun _ _ _ => rfl)
  exact ⟨im', zEv_o rfl (t_X12_bestPlace h1), h2⟩
/-- whether all are at rest -/
def yRs (V : yV) (t : Nat) (s : Nat → Int32) : Bool := zRest (yvN V) (yvM V) (yWo V (yvR V) t) (ySd V t) (yRo V t) s (fun p i => yCo V p t (Int32.ofNat i))
theorem m_isRest {d t : Nat} {s : Nat → Int32} {tl : List (Nat × Nat)} {q : zR} {im : zI} {V : yV} (hG : yG V) (hB : yB im V) (hM : yMs V t s im) (ht : t < 12) :
    ∃ im', zEv (d + 7) 186 [.ref 47, .int (Int32.ofNat t)] (zMm tl q im) (some (.int (zb (yRs V t s)))) (zMm tl q im') ∧ (∀ k, k ≠ 65 → k ≠ 66 → im' k = im k) := by
  have hm := hG.2.1
  have lp : ∀ m p im1, p + m = yvM V → (∀ k, k ≠ 65 → k ≠ 66 → im1 k = im k) →
      ∃ im', zX (d + 6) zc_X12_isRest 2 [(0, .ref 47), (1, .int (Int32.ofNat t)), (2, .int (Int32.ofNat p))] [] (zMm tl q im1) (fun a b => a = some (.int (zb (zAl (fun p => decide (yL V t s p (yBe V t s p) ≤ yL V t s p (s p))) p m))) ∧ b = zMm tl q im') ∧ (∀ k, k ≠ 65 → k ≠ 66 → im' k = im k) := by
    intro m
    induction m with
    | zero =>
      intro p im1 hp hF
      refine ⟨im1, t_X12_isRest_2 ?_, hF⟩
      rw [(yB_fr hB (yFb.k56 hF).fr).2.1]
      exact ⟨fun _ => ⟨rfl, rfl⟩, fun h => absurd ((zi_le (by omega) (by omega)).mpr (by omega)) h⟩
    | succ m ih =>
      intro p im1 hp hF
      have hB1 := yB_fr hB (yFb.k56 hF).fr
      obtain ⟨im2, g1, g2⟩ := m_bestPlace (d := d) (p := p) (tl := tl) (q := q) hG hB1 (yMs_k hM hF) (by omega) ht
      have hF2 : ∀ k, k ≠ 65 → k ≠ 66 → im2 k = im k := fun k a b => by rw [g2 k a b, hF k a b]
      obtain ⟨im3, g3, g4⟩ := m_leftAt (d := d + 1) (p := p) (tl := tl) (q := q) hG (yB_fr hB (yFb.k56 hF2).fr) (yMs_k hM hF2) (yBe_pl (p := p)) (by omega) ht
      have hF3 : ∀ k, k ≠ 65 → k ≠ 66 → im3 k = im k := fun k a b => by rw [g4 k a b, hF2 k a b]
      have hM3 := yMs_k hM hF3
      have h69 : im3 69 p = s p := hM3.1.2.2.2.2.2.2.2.1 p (by omega)
      obtain ⟨im4, g5, g6⟩ := m_leftAt (d := d + 1) (p := p) (tl := tl) (q := q) hG (yB_fr hB (yFb.k56 hF3).fr) hM3 (hM3.1.2.2.2.2.2.2.2.2 p (by omega)) (by omega) ht
      have hF4 : ∀ k, k ≠ 65 → k ≠ 66 → im4 k = im k := fun k a b => by rw [g6 k a b, hF3 k a b]
      have hS : zAl (fun p => decide (yL V t s p (yBe V t s p) ≤ yL V t s p (s p))) p (m + 1) = (decide (yL V t s p (yBe V t s p) ≤ yL V t s p (s p)) && zAl (fun p => decide (yL V t s p (yBe V t s p) ≤ yL V t s p (s p))) (p + 1) m) := rfl
      rw [hS]
      by_cases h : yL V t s p (yBe V t s p) ≤ yL V t s p (s p)
      · obtain ⟨im', h1, h2⟩ := ih (p + 1) im4 (by omega) hF4
        refine ⟨im', t_X12_isRest_2 ?_, h2⟩
        rw [hB1.2.1, zi_s]
        refine ⟨fun h => absurd ((zi_le (by omega) (by omega)).mp h) (by omega), fun _ => ⟨_, _, g1, _, _, g3, zi_in (by omega) (by omega), ?_⟩⟩
        rw [zi_n (show p < 2147483648 by omega), h69]
        refine ⟨_, _, g5, fun _ => ?_, fun e => absurd h e⟩
        rw [decide_eq_true h, Bool.true_and]
        exact h1
      · refine ⟨im4, t_X12_isRest_2 ?_, hF4⟩
        rw [hB1.2.1, zi_s]
        refine ⟨fun h => absurd ((zi_le (by omega) (by omega)).mp h) (by omega), fun _ => ⟨_, _, g1, _, _, g3, zi_in (by omega) (by omega), ?_⟩⟩
        rw [zi_n (show p < 2147483648 by omega), h69]
        refine ⟨_, _, g5, fun e => absurd e h, fun _ => ⟨?_, rfl⟩⟩
        rw [decide_eq_false h, Bool.false_and]
        rfl
  obtain ⟨im', h1, h2⟩ := lp (yvM V) 0 im (by omega) (fun _ _ _ => rfl)
  exact ⟨im', zEv_o rfl (t_X12_isRest h1), h2⟩
/-- the sum of what is left to a set -/
def yLs (V : yV) (t : Nat) (s : Nat → Int32) (set : Int32) : Int32 := zLa (yvN V) (yvM V) (yWo V (yvR V) t) (ySd V t) (yRo V t) s (fun p i => yCo V p t (Int32.ofNat i)) set
theorem m_leftOf {d t : Nat} {s : Nat → Int32} {set : Int32} {tl : List (Nat × Nat)} {q : zR} {im : zI} {V : yV} (hG : yG V) (hB : yB im V) (hM : yMs V t s im) (ht : t < 12) :
    ∃ im', zEv (d + 6) 193 [.ref 47, .int set, .int (Int32.ofNat t)] (zMm tl q im) (some (.int (yLs V t s set))) (zMm tl q im') ∧ (∀ k, k ≠ 65 → k ≠ 66 → im' k = im k) := by
  have hm := hG.2.1
  have lp : ∀ m p im1, p + m = yvM V → (∀ k, k ≠ 65 → k ≠ 66 → im1 k = im k) →
      ∃ im', zX (d + 5) zc_X12_leftOf 4 [(0, .ref 47), (1, .int set), (2, .int (Int32.ofNat t)), (3, .int (zSum p (fun p => bif zBt set p then yL V t s p (s p) else 0))), (4, .int (Int32.ofNat p))] [] (zMm tl q im1) (fun a b => a = some (.int (yLs V t s set)) ∧ b = zMm tl q im') ∧ (∀ k, k ≠ 65 → k ≠ 66 → im' k = im k) := by
    intro m
    induction m with
    | zero =>
      intro p im1 hp hF
      have e : p = yvM V := by omega
      subst e
      refine ⟨im1, t_X12_leftOf_4 ?_, hF⟩
      rw [(yB_fr hB (yFb.k56 hF).fr).2.1]
      exact ⟨fun _ => ⟨rfl, rfl⟩, fun h => absurd ((zi_le (by omega) (by omega)).mpr (by omega)) h⟩
    | succ m ih =>
      intro p im1 hp hF
      have hB1 := yB_fr hB (yFb.k56 hF).fr
      have hM1 := yMs_k hM hF
      have h69 : im1 69 p = s p := hM1.1.2.2.2.2.2.2.2.1 p (by omega)
      have hS : zSum (p + 1) (fun p => bif zBt set p then yL V t s p (s p) else 0) = zSum p (fun p => bif zBt set p then yL V t s p (s p) else 0) + (bif zBt set p then yL V t s p (s p) else 0) := rfl
      cases hb : zBt set p with
      | false =>
        obtain ⟨im', h1, h2⟩ := ih (p + 1) im1 (by omega) hF
        rw [hS, hb, cond_false] at h1
        refine ⟨im', t_X12_leftOf_4 ?_, h2⟩
        rw [hB1.2.1, zi_s, zBt_1, hb]
        exact ⟨fun h => absurd ((zi_le (by omega) (by omega)).mp h) (by omega), fun _ => ⟨fun _ => h1, fun e => Bool.noConfusion e⟩⟩
      | true =>
        obtain ⟨im2, g1, g2⟩ := m_leftAt (d := d) (p := p) (tl := tl) (q := q) hG hB1 hM1 (hM1.1.2.2.2.2.2.2.2.2 p (by omega)) (by omega) ht
        obtain ⟨im', h1, h2⟩ := ih (p + 1) im2 (by omega) (fun k a b => by rw [g2 k a b, hF k a b])
        rw [hS, hb, cond_true] at h1
        refine ⟨im', t_X12_leftOf_4 ?_, h2⟩
        rw [hB1.2.1, zi_s, zBt_1, hb, zi_n (show p < 2147483648 by omega), h69]
        exact ⟨fun h => absurd ((zi_le (by omega) (by omega)).mp h) (by omega), fun _ => ⟨fun e => absurd rfl e, fun _ => ⟨zi_in (by omega) (by omega), _, _, g1, h1⟩⟩⟩
  obtain ⟨im', h1, h2⟩ := lp (yvM V) 0 im (by omega) (fun _ _ _ => rfl)
  exact ⟨im', zEv_o rfl (t_X12_leftOf h1), h2⟩
theorem m_gainOfOthers {d p t : Nat} {s : Nat → Int32} {tl : List (Nat × Nat)} {q : zR} {im : zI} {V : yV} (hM : yMs V t s im) (hp : p < yvM V) : zEv (d + 4) 195 [.ref 47, .int (Int32.ofNat p)] (zMm tl q im) (some (.int (zGo (yvN V) (yvM V) (yWo V (yvR V) t) (ySd V t) (yRo V t) s p))) (zMm tl q im) := by
  have hm : yvM V ≤ 4 := hM.1.2.1
  have h8 : im 47 6 = Int32.ofNat (yvM V) := hM.1.2.2.2.1
  have lp : ∀ k i, i + k = yvM V → zX (d + 3) zc_X12_gainOfOthers 4 [(0, .ref 47), (1, .int (Int32.ofNat p)), (2, .int (zSum i (fun q => if q = p then 0 else zGa (yvN V) (yvM V) (yWo V (yvR V) t) (ySd V t) (yRo V t) s q (s q)))), (3, .int (Int32.ofNat i))] [] (zMm tl q im) (fun a b => a = some (.int (zGo (yvN V) (yvM V) (yWo V (yvR V) t) (ySd V t) (yRo V t) s p)) ∧ b = zMm tl q im) := by
    intro k
    induction k with
    | zero =>
      intro i hi
      refine t_X12_gainOfOthers_4 ?_
      rw [h8]
      have e : i = yvM V := by omega
      subst e
      exact ⟨fun _ => ⟨rfl, rfl⟩, fun h => absurd ((zi_le (by omega) (by omega)).mpr (by omega)) h⟩
    | succ k ih =>
      intro i hi
      refine t_X12_gainOfOthers_4 ?_
      rw [h8, zi_eq (by omega) (by omega), zi_s]
      have ih := ih (i + 1) (by omega)
      rw [show zSum (i + 1) (fun q => if q = p then 0 else zGa (yvN V) (yvM V) (yWo V (yvR V) t) (ySd V t) (yRo V t) s q (s q)) = zSum i (fun q => if q = p then 0 else zGa (yvN V) (yvM V) (yWo V (yvR V) t) (ySd V t) (yRo V t) s q (s q)) + (if i = p then 0 else zGa (yvN V) (yvM V) (yWo V (yvR V) t) (ySd V t) (yRo V t) s i (s i)) from rfl] at ih
      refine ⟨fun h => absurd ((zi_le (by omega) (by omega)).mp h) (by omega), fun _ => ⟨fun e => ⟨_, _, m_gainOf hM.1 (by omega), ?_⟩, fun e => ?_⟩⟩
      · rw [if_neg e] at ih
        exact ih
      · rw [if_pos e] at ih
        exact ih
  exact zEv_o rfl (t_X12_gainOfOthers (lp (yvM V) 0 (by omega)))
