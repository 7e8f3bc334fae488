/-! CALLS: ways -/
/-- the class's top, people elsewhere, with fares -/
def yTs (V : yV) (k t : Nat) (s : Nat → Int32) (im : zI) : Prop := zTop im (yvN V) (yvM V) (yWo V k t) (ySd V t) (yOn V t) (yRo V t) s
def yFs (V : yV) (t : Nat) (im : zI) : Prop := ∀ p, p < yvM V → ∀ i, i < yvN V → im (27 + p) i = yCo V p t (Int32.ofNat i)
theorem ySp_vl {V : yV} {t : Nat} (hG : yG V) (ht : t < 12) : yVl (yvN V) (yvM V) (ySp V t) := fun _ hp => ySp_pl hG ht hp
def yWq (V : yV) (t : Nat) (set : Int32) : Nat → Nat → Int32 := yWk set (yvN V) (yvM V) (yFw set (ySp V t) (yvM V))
def yWm (V : yV) (set : Int32) : Nat := yWn set (yvN V) (yvM V)
theorem m_nextMs {d t : Nat} {tl : List (Nat × Nat)} {q : zR} {im : zI} {V : yV} {s : Nat → Int32} {set : Int32} (h : yMs V t s im) :
    ∃ im', zEv (d + 1) 188 [.ref 47, .int set] (zMm tl q im) (some (.int (zb (yNf set (yvN V) (yvM V) s)))) (zMm tl q im') ∧ yMs V t (yNx set (yvN V) (yvM V) s) im' ∧ yFb im im' := by
  obtain ⟨im', g1, g2, g3⟩ := m_next0 (d := d) (tl := tl) (q := q) (set := set) h.1
  exact ⟨im', g1, ⟨g2, fun p hp => by rw [g3 70 (by decide)]; exact h.2 p hp⟩, yFb.of 69 (by decide) g3⟩
theorem m_beginMs {d t : Nat} {tl : List (Nat × Nat)} {q : zR} {im : zI} {V : yV} {s : Nat → Int32} {set : Int32} (h : yMs V t s im) :
    ∃ im', zEv (d + 1) 189 [.ref 47, .int set] (zMm tl q im) none (zMm tl q im') ∧ yMs V t (yFw set s (yvM V)) im' ∧ yFb im im' := by
  obtain ⟨im', g1, g2, g3⟩ := m_begins (d := d) (tl := tl) (q := q) (set := set) h.1
  exact ⟨im', g1, ⟨g2, fun p hp => by rw [g3 70 (by decide)]; exact h.2 p hp⟩, yFb.of 69 (by decide) g3⟩
theorem c_nextTs {d k t : Nat} {tl : List (Nat × Nat)} {q : zR} {im : zI} {V : yV} {s : Nat → Int32} {set : Int32} (h : yTs V k t s im) :
    ∃ im', zEv (d + 5) 60 [.ref 21, .int set] (zMm tl q im) none (zMm tl q im') ∧ yTs V k t (yNx set (yvN V) (yvM V) s) im' ∧ yFa im im' ∧ (yFs V t im → yFs V t im') := by
  obtain ⟨im', g1, g2, g3⟩ := c_nextWay (d := d) (tl := tl) (q := q) (set := set) h
  have hm : yvM V ≤ 4 := h.1.2.1
  exact ⟨im', g1, g2, yFa.of2 25 32 (by decide) (by decide) g3, fun hf p hp i hi => by rw [g3 (27 + p) (by omega) (by omega)]; exact hf p hp i hi⟩
theorem c_firstTs {d k t : Nat} {tl : List (Nat × Nat)} {q : zR} {im : zI} {V : yV} {s : Nat → Int32} {set : Int32} (h : yTs V k t s im) :
    ∃ im', zEv (d + 5) 59 [.ref 21, .int set] (zMm tl q im) (some (.int (Int32.ofNat (yWm V set)))) (zMm tl q im') ∧ yTs V k t (yFw set s (yvM V)) im' ∧ yFa im im' ∧ (yFs V t im → yFs V t im') := by
  obtain ⟨im', g1, g2, g3⟩ := c_firstWay (d := d) (tl := tl) (q := q) (set := set) h
  have hm : yvM V ≤ 4 := h.1.2.1
  rw [yWy_n] at g1
  exact ⟨im', g1, g2, yFa.of2 25 32 (by decide) (by decide) g3, fun hf p hp i hi => by rw [g3 (27 + p) (by omega) (by omega)]; exact hf p hp i hi⟩
def ySy (V : yV) (t : Nat) (s : Nat → Int32) (a : Int32 × Int32) : Int32 × Int32 := bif yRs V t s then (a.1 + 1, if 0 ≤ a.2 then a.2 else yDg (yEb V) s (yvM V)) else a
def yWa (V : yV) (t : Nat) : Nat → Int32 × Int32 := yAc (ySy V t) (yWq V t (yEb V)) (0, -1)
theorem yWa_ok {V : yV} {t : Nat} (hG : yG V) (ht : t < 12) : ∀ k, k ≤ yWm V (yEb V) → (yWa V t k).2 = -1 ∨ ∃ j, j < 10000 ∧ (yWa V t k).2 = Int32.ofNat j
  | 0, _ => .inl rfl
  | k + 1, hk => by
    have ih := yWa_ok hG ht k (by omega)
    show (bif yRs V t (yWq V t (yEb V) k) then ((yWa V t k).1 + 1, if 0 ≤ (yWa V t k).2 then (yWa V t k).2 else yDg (yEb V) (yWq V t (yEb V) k) (yvM V)) else yWa V t k : Int32 × Int32).2 = -1 ∨ ∃ j, j < 10000 ∧ (bif yRs V t (yWq V t (yEb V) k) then ((yWa V t k).1 + 1, if 0 ≤ (yWa V t k).2 then (yWa V t k).2 else yDg (yEb V) (yWq V t (yEb V) k) (yvM V)) else yWa V t k : Int32 × Int32).2 = Int32.ofNat j
    cases yRs V t (yWq V t (yEb V) k) with
    | false => exact ih
    | true =>
      show (if 0 ≤ (yWa V t k).2 then (yWa V t k).2 else _) = _ ∨ ∃ j, _ ∧ (if 0 ≤ (yWa V t k).2 then (yWa V t k).2 else _) = _
      by_cases h : 0 ≤ (yWa V t k).2
      · rw [if_pos h]; exact ih
      · rw [if_neg h]
        exact .inr (yDg_ok hG.1 hG.2.1 (yWk_ok hG.1 (ySp_vl hG ht) k (by exact hk)).2)
theorem k_ways {d : Nat} {b c : Int32} {tl : List (Nat × Nat)} {q : zR} {im : zI} {V : yV} (hS : yS tl q im V) : yCall (d + 10) 86 192 [.int b, .int c] tl q im (yFr im) := by
  obtain ⟨hG, hA, hB⟩ := hS
  have hn := hG.1
  have hm := hG.2.1
  cases h1 : bW b 11 with
  | false => exact ⟨-5, im, im, zEv_o rfl (t_X11_ways ⟨_, _, cT_f h1, fun e => absurd rfl e, fun _ => ⟨rfl, rfl⟩⟩), zEv_o rfl (t_X12_ways ⟨_, _, mT_f h1, fun e => absurd rfl e, fun _ => ⟨rfl, rfl⟩⟩), yFr.rf⟩
  | true =>
    cases h2 : bW c 1 with
    | false => exact ⟨-7, im, im, zEv_o rfl (t_X11_ways ⟨_, _, cT_t h1, fun _ => ⟨_, _, cW_f h2, fun e => absurd rfl e, fun _ => ⟨rfl, rfl⟩⟩, fun e => absurd e n10⟩), zEv_o rfl (t_X12_ways ⟨_, _, mT_t h1, fun _ => ⟨_, _, mW_f h2, fun e => absurd rfl e, fun _ => ⟨rfl, rfl⟩⟩, fun e => absurd e n10⟩), yFr.rf⟩
    | true =>
      obtain ⟨t, ht, rfl⟩ := bW_ex (by decide) h1
      have hW : yWm V (yEb V) ≤ 2401 := yWn_lt hn hm
      have hv := ySp_vl hG ht
      have hst : ∀ k, yWa V t (k + 1) = bif yRs V t (yWq V t (yEb V) k) then ((yWa V t k).1 + 1, if 0 ≤ (yWa V t k).2 then (yWa V t k).2 else yDg (yEb V) (yWq V t (yEb V) k) (yvM V)) else yWa V t k := fun _ => rfl
      have lc : ∀ j k im1, k + j = yWm V (yEb V) → yFa im im1 → yTs V (yvR V) t (yWq V t (yEb V) k) im1 → yFs V t im1 →
          ∃ im', zX (d + 9) zc_X11_ways 28 [(0, .ref 0), (1, .int (Int32.ofNat t)), (2, .int c), (3, .int (yEb V)), (4, .int (yWa V t k).1), (5, .int (yWa V t k).2), (6, .int (Int32.ofNat (yWm V (yEb V)))), (7, .int (Int32.ofNat k))] [] (zMm tl q im1) (fun x y => x = some (.int (if c = 0 then (yWa V t (yWm V (yEb V))).1 else (yWa V t (yWm V (yEb V))).2)) ∧ y = zMm tl q im') ∧ yFa im im' := by
        intro j
        induction j with
        | zero =>
          intro k im1 hk hF hT hf
          have e : k = yWm V (yEb V) := by omega
          subst e
          refine ⟨im1, t_X11_ways_28 ⟨fun _ => ⟨fun e => ⟨?_, rfl⟩, fun e => ⟨?_, rfl⟩⟩, fun h => absurd ((zi_le (by omega) (by omega)).mpr (Nat.le_refl _)) h⟩, hF⟩
          · rw [if_neg e]
          · rw [if_pos e]
        | succ j ih =>
          intro k im1 hk hF hT hf
          obtain ⟨im2, g1, g2, g3, g4⟩ := c_nextTs (d := d + 4) (tl := tl) (q := q) (set := yEb V) hT
          obtain ⟨im', h1, h2⟩ := ih (k + 1) im2 (by omega) (hF.tr g3) g2 (g4 hf)
          rw [hst k] at h1
          have hr : zEv (d + 9) 56 [.ref 21] (zMm tl q im1) (some (.int (zb (yRs V t (yWq V t (yEb V) k))))) (zMm tl q im1) := c_isAtRest (d := d + 2) hT hf
          refine ⟨im', t_X11_ways_28 ⟨fun h => absurd ((zi_le (by omega) (by omega)).mp h) (by omega), fun _ => ⟨_, _, hr, ?_⟩⟩, h2⟩
          rw [zi_s (a := k), zb_0]
          refine ⟨fun e => ⟨im2, g1, ?_⟩, fun e => ⟨fun e2 => ⟨im2, g1, ?_⟩, fun e2 => ⟨_, _, c_digitsOf (d := d + 8) hT, im2, g1, ?_⟩⟩⟩
          · rw [e] at h1; exact h1
          · rw [Bool.not_eq_false _ |>.mp e, cond_true, if_pos e2] at h1; exact h1
          · rw [Bool.not_eq_false _ |>.mp e, cond_true, if_neg e2] at h1; exact h1
      have lm : ∀ j k im0 im1, k + j = yWm V (yEb V) → yB im0 V → yFb im0 im1 → yMs V t (yWq V t (yEb V) k) im1 →
          ∃ im', zX (d + 9) zc_X12_ways 25 [(0, .ref 47), (1, .int (Int32.ofNat t)), (2, .int c), (3, .int (yWa V t k).1), (4, .int (yWa V t k).2), (5, .int (zb (decide (k < yWm V (yEb V)))))] [] (zMm tl q im1) (fun x y => x = some (.int (if c = 0 then (yWa V t (yWm V (yEb V))).1 else (yWa V t (yWm V (yEb V))).2)) ∧ y = zMm tl q im') ∧ yFb im0 im' := by
        intro j
        induction j with
        | zero =>
          intro k im0 im1 hk hB0 hF hM
          have e : k = yWm V (yEb V) := by omega
          subst e
          refine ⟨im1, t_X12_ways_25 ⟨fun _ => ⟨fun e => ⟨?_, rfl⟩, fun e => ⟨?_, rfl⟩⟩, fun h => absurd (by rw [decide_eq_false (by omega)]; rfl) h⟩, hF⟩
          · rw [if_neg e]
          · rw [if_pos e]
        | succ j ih =>
          intro k im0 im1 hk hB0 hF hM
          have hkW : k < yWm V (yEb V) := by omega
          obtain ⟨im2, g1, g2⟩ := m_isRest (d := d + 2) (tl := tl) (q := q) hG (yB_fr hB0 hF.fr) hM ht
          have hM2 := yMs_k hM g2
          have hB2 := yB_fr hB0 (hF.tr (yFb.k56 g2)).fr
          obtain ⟨im3, g3, g4, g5⟩ := m_nextMs (d := d + 8) (tl := tl) (q := q) (set := yEb V) hM2
          obtain ⟨im', h1, h2⟩ := ih (k + 1) im0 im3 (by omega) hB0 ((hF.tr (yFb.k56 g2)).tr g5) g4
          have hnf : yNf (yEb V) (yvN V) (yvM V) (yWq V t (yEb V) k) = decide (k + 1 < yWm V (yEb V)) := yWk_nf hn hv hkW
          rw [hnf] at g3
          rw [hst k] at h1
          refine ⟨im', t_X12_ways_25 ⟨fun h => ?_, fun _ => ⟨_, _, g1, ?_⟩⟩, h2⟩
          · rw [decide_eq_true hkW] at h
            exact absurd h n10
          · rw [zb_0]
            refine ⟨fun e => ⟨_, _, mE hB2, _, _, g3, ?_⟩, fun e => ⟨fun e2 => ⟨_, _, mE hB2, _, _, g3, ?_⟩, fun e2 => ⟨_, _, mE hB2, _, _, m_digits (d := d + 8) hM2.1, _, _, mE hB2, _, _, g3, ?_⟩⟩⟩
            · rw [e] at h1; exact h1
            · rw [Bool.not_eq_false _ |>.mp e, cond_true] at h1
              rcases yWa_ok hG ht k (by omega) with e3 | ⟨i, hi, e3⟩
              · exact absurd e3 e2
              · rw [if_pos (by rw [e3]; exact zi_ge0 (by omega))] at h1
                exact h1
            · rw [Bool.not_eq_false _ |>.mp e, cond_true, if_neg (by rw [e2]; decide)] at h1
              exact h1
      obtain ⟨ia, a1, a2, a3, a4⟩ := c_lookWithCosts (d := d + 3) hG hA ht
      have hAa := yA_fr hA a4.fr
      obtain ⟨ib, b1, b2, b3, b4⟩ := c_firstTs (d := d + 4) (tl := tl) (q := q) (set := yEb V) a2
      obtain ⟨im1, c1, c2⟩ := lc (yWm V (yEb V)) 0 ib (by omega) (a4.tr b3) b2 (b4 a3)
      have hB1 := yB_fr hB c2.fr
      obtain ⟨ic, e1, e2, e3⟩ := m_comesTo (d := d + 3) (tl := tl) (q := q) hG hB1 ht
      have hBc := yB_fr hB1 e3.fr
      obtain ⟨ie, f1, f2, f3⟩ := m_beginMs (d := d + 8) (tl := tl) (q := q) (set := yEb V) (yTm_s e2)
      obtain ⟨im2, d1, d2⟩ := lm (yWm V (yEb V)) 0 im1 ie (by omega) hB1 (e3.tr f3) f2
      have hpos : 0 < yWm V (yEb V) := yWn_pos _
      rw [decide_eq_true hpos] at d1
      exact ⟨_, im1, im2, zEv_o rfl (t_X11_ways ⟨_, _, cT_t h1, fun _ => ⟨_, _, cW_t h2, fun _ => ⟨ia, a1, _, _, cE hAa, _, _, b1, c1⟩, fun e => absurd e n10⟩, fun e => absurd e n10⟩), zEv_o rfl (t_X12_ways ⟨_, _, mT_t h1, fun _ => ⟨_, _, mW_t h2, fun _ => ⟨ic, e1, _, _, mE hBc, ie, f1, d1⟩, fun e => absurd e n10⟩, fun e => absurd e n10⟩), c2.fr.tr d2.fr⟩
