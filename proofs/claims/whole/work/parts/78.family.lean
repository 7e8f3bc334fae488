/-! CALLS: family -/
def bd (lo hi : Int) (x : Int32) : Prop := lo ≤ x.toInt ∧ x.toInt ≤ hi
theorem bd_add {a b : Int32} {l1 h1 l2 h2 : Int} (ha : bd l1 h1 a) (hb : bd l2 h2 b) (hl : -1000000000 ≤ l1 + l2) (hh : h1 + h2 ≤ 1000000000) : bd (l1 + l2) (h1 + h2) (a + b) := by
  unfold bd at ha hb ⊢
  rw [Int32.toInt_add, Int.bmod_eq_of_le (by omega) (by omega)]
  omega
theorem bd_sub {a b : Int32} {l1 h1 l2 h2 : Int} (ha : bd l1 h1 a) (hb : bd l2 h2 b) (hl : -1000000000 ≤ l1 - h2) (hh : h1 - l2 ≤ 1000000000) : bd (l1 - h2) (h1 - l2) (a - b) := by
  unfold bd at ha hb ⊢
  rw [Int32.toInt_sub, Int.bmod_eq_of_le (by omega) (by omega)]
  omega
theorem bd_0 {h : Int} (hh : 0 ≤ h) : bd 0 h 0 := by
  unfold bd
  have : (0 : Int32).toInt = 0 := by decide
  rw [this]
  omega
theorem bd_within {v : Int32} {h : Nat} (hh : h < 2147483648) : bd 0 h (zWithin v 0 (Int32.ofNat h)) := by
  have h0 : (0 : Int32).toInt = 0 := by decide
  have h1 : (Int32.ofNat h).toInt = h := Int32.toInt_ofNat_of_lt (by omega)
  unfold zWithin bd
  by_cases a : (0 : Int32) ≤ v
  · rw [if_pos a]
    rw [Int32.le_iff_toInt_le, h0] at a
    by_cases b : v ≤ Int32.ofNat h
    · rw [if_pos b]
      rw [Int32.le_iff_toInt_le, h1] at b
      omega
    · rw [if_neg b, h1]
      omega
  · rw [if_neg a, h0]
    omega
theorem bd_sum {f : Nat → Int32} {l h : Int} : ∀ {n : Nat}, n ≤ 12 → -10000000 ≤ l → l ≤ 0 → 0 ≤ h → h ≤ 10000000 → (∀ i, i < n → bd l h (f i)) → bd (n * l) (n * h) (zSum n f)
  | 0, _, _, _, _, _, _ => by
    unfold bd
    have : (zSum 0 f).toInt = 0 := by show (0 : Int32).toInt = 0; decide
    rw [this]
    simp
  | n + 1, hn, h1, h2, h3, h4, hf => by
    have ih := bd_sum (f := f) (n := n) (by omega) h1 h2 h3 h4 (fun i hi => hf i (by omega))
    have e1 : ((n + 1 : Nat) : Int) * l = n * l + l := by rw [Int.natCast_add]; exact Int.add_mul _ _ _ |>.trans (by simp)
    have e2 : ((n + 1 : Nat) : Int) * h = n * h + h := by rw [Int.natCast_add]; exact Int.add_mul _ _ _ |>.trans (by simp)
    rw [e1, e2]
    have b1 : (n : Int) * l ≥ 11 * l := Int.mul_le_mul_of_nonpos_right (by omega) h2
    have b2 : (n : Int) * h ≤ 11 * h := Int.mul_le_mul_of_nonneg_right (by omega) h3
    exact bd_add ih (hf n (by omega)) (by omega) (by omega)
theorem yWo_bd {V : yV} {k t i : Nat} : bd 0 9999 (yWo V k t i) := bd_within (h := 9999) (by decide)
theorem yAsk_bd {T : Nat → List Nat} {part : Nat} {nm : Nat → Int32} : bd 0 100 (yAsk T part nm) := by
  unfold yAsk
  by_cases e : part = 2
  · rw [if_pos e]; exact bd_within (h := 100) (by decide)
  · rw [if_neg e]
    have := bd_within (v := yE T part nm) (h := 99) (by decide)
    unfold bd at this ⊢
    have h2 : (Int32.ofNat 99) = (99 : Int32) := rfl
    rw [h2] at this
    omega
theorem yCo_bd {V : yV} {p t : Nat} {x : Int32} : bd 0 100 (yCo V p t x) := by
  unfold yCo
  by_cases e : x = -1 ∨ x = yAh V p t
  · rw [if_pos e]; exact bd_0 (by decide)
  · rw [if_neg e]; exact yAsk_bd
theorem zGa_bd {V : yV} {k t p : Nat} {s : Nat → Int32} {x : Int32} (hn : yvN V ≤ 6) : bd 0 59994 (zGa (yvN V) (yvM V) (yWo V k t) (ySd V t) (yRo V t) s p x) := by
  have hw : ∀ r, bd 0 59994 (zWh (yvN V) (yWo V k t) (ySd V t) (yRo V t) r) := fun r => by
    have := bd_sum (f := fun j => bif ySd V t j && decide (yRo V t j = r) then yWo V k t j else 0) (l := 0) (h := 9999) (n := yvN V) (by omega) (by omega) (by omega) (by omega) (by omega) (fun i _ => by
      show bd 0 9999 (bif _ then _ else _)
      cases ySd V t i && decide (yRo V t i = r) with
      | false => exact bd_0 (by decide)
      | true => exact yWo_bd)
    unfold zWh
    unfold bd at this ⊢
    have : (yvN V : Int) * 9999 ≤ 6 * 9999 := Int.mul_le_mul_of_nonneg_right (by omega) (by omega)
    omega
  unfold zGa
  cases zTh (yvN V) (ySd V t) x with
  | false => exact bd_0 (by decide)
  | true =>
    rw [cond_true]
    split
    · exact hw _
    · exact bd_0 (by decide)
theorem yL_bd {V : yV} {t p : Nat} {s : Nat → Int32} {x : Int32} (hn : yvN V ≤ 6) : bd (-100) 59994 (yL V t s p x) := by
  unfold yL zLf
  cases decide (0 ≤ x) && decide (x < Int32.ofNat (yvN V)) with
  | false =>
    have := bd_0 (h := 59994) (by decide)
    unfold bd at this ⊢
    rw [cond_false]
    omega
  | true =>
    have := bd_sub (zGa_bd (k := yvR V) (t := t) (p := p) (s := s) (x := x) hn) (yCo_bd (V := V) (p := p) (t := t) (x := Int32.ofNat x.toNatClampNeg)) (by omega) (by omega)
    exact this
theorem yLs_gt {V : yV} {t : Nat} {s : Nat → Int32} {set : Int32} (hn : yvN V ≤ 6) (hm : yvM V ≤ 4) : ¬ yLs V t s set ≤ -1000000 := by
  have := bd_sum (f := fun p => bif zBt set p then yL V t s p (s p) else 0) (l := -100) (h := 59994) (n := yvM V) (by omega) (by omega) (by omega) (by omega) (by omega) (fun i _ => by
    show bd (-100) 59994 (bif _ then _ else _)
    cases zBt set i with
    | false =>
      have := bd_0 (h := 59994) (by decide)
      unfold bd at this ⊢
      rw [cond_false]
      omega
    | true => exact yL_bd hn)
  have h2 : bd (yvM V * -100) (yvM V * 59994) (yLs V t s set) := this
  unfold bd at h2
  have h3 : (-1000000 : Int32).toInt = -1000000 := by decide
  rw [Int32.le_iff_toInt_le, h3]
  have : (yvM V : Int) * -100 ≥ 4 * -100 := Int.mul_le_mul_of_nonpos_right (by omega) (by omega)
  omega
def yFa1 (V : yV) (t : Nat) (set : Int32) (s : Nat → Int32) (a : Int32 × Int32) : Int32 × Int32 := if yLs V t s set ≤ a.1 then a else (yLs V t s set, yDg set s (yvM V))
def yFm (V : yV) (t : Nat) (set : Int32) : Nat → Int32 × Int32 := yAc (yFa1 V t set) (yWq V t set) (-1000000, 0)
theorem k_family {d : Nat} {a b c : Int32} {tl : List (Nat × Nat)} {q : zR} {im : zI} {V : yV} (hS : yS tl q im V) : yCall (d + 10) 87 194 [.int a, .int b, .int c] tl q im (yFr im) := by
  obtain ⟨hG, hA, hB⟩ := hS
  have hn := hG.1
  have hm := hG.2.1
  have hin : ∀ im, zEv (d + 9) 136 [.int a, .int (0 : Int32), .int (yEb V)] (zMm tl q im) (some (.int (zb (decide (0 ≤ a) && decide (a ≤ yEb V))))) (zMm tl q im) := fun im => m_in
  by_cases h01 : a < 0
  · have h0 : (decide (0 ≤ a) && decide (a ≤ yEb V)) = false := by rw [decide_eq_false (Int32.not_le.mpr h01)]; rfl
    refine ⟨-5, im, im, zEv_o rfl (t_X11_family ⟨fun _ => ⟨rfl, rfl⟩, fun h => absurd h01 h⟩), zEv_o rfl (t_X12_family ⟨_, _, mE hB, _, _, hin im, ?_⟩), yFr.rf⟩
    rw [h0]
    exact ⟨fun _ => ⟨rfl, rfl⟩, fun e => absurd rfl e⟩
  · by_cases h02 : yEb V < a
    · have h0 : (decide (0 ≤ a) && decide (a ≤ yEb V)) = false := by rw [decide_eq_false (Int32.not_le.mpr h02), Bool.and_false]
      refine ⟨-5, im, im, zEv_o rfl (t_X11_family ⟨fun h => absurd h h01, fun _ => ⟨_, _, cE hA, fun _ => ⟨rfl, rfl⟩, fun h => absurd h02 h⟩⟩), zEv_o rfl (t_X12_family ⟨_, _, mE hB, _, _, hin im, ?_⟩), yFr.rf⟩
      rw [h0]
      exact ⟨fun _ => ⟨rfl, rfl⟩, fun e => absurd rfl e⟩
    · have h0 : (decide (0 ≤ a) && decide (a ≤ yEb V)) = true := by rw [decide_eq_true (Int32.not_lt.mp h01), decide_eq_true (Int32.not_lt.mp h02)]; rfl
      have hin1 : ∀ im, zEv (d + 9) 136 [.int a, .int (0 : Int32), .int (yEb V)] (zMm tl q im) (some (.int 1)) (zMm tl q im) := fun im => by
        have := hin im
        rw [h0] at this
        exact this
      cases h1 : bW b 11 with
      | false => exact ⟨-5, im, im, zEv_o rfl (t_X11_family ⟨fun h => absurd h h01, fun _ => ⟨_, _, cE hA, fun h => absurd h h02, fun _ => ⟨_, _, cT_f h1, fun e => absurd rfl e, fun _ => ⟨rfl, rfl⟩⟩⟩⟩), zEv_o rfl (t_X12_family ⟨_, _, mE hB, _, _, hin1 im, fun e => absurd e n10, fun _ => ⟨_, _, mT_f h1, fun e => absurd rfl e, fun _ => ⟨rfl, rfl⟩⟩⟩), yFr.rf⟩
      | true =>
        cases h2 : bW c 1 with
        | false => exact ⟨-7, im, im, zEv_o rfl (t_X11_family ⟨fun h => absurd h h01, fun _ => ⟨_, _, cE hA, fun h => absurd h h02, fun _ => ⟨_, _, cT_t h1, fun _ => ⟨_, _, cW_f h2, fun e => absurd rfl e, fun _ => ⟨rfl, rfl⟩⟩, fun e => absurd e n10⟩⟩⟩), zEv_o rfl (t_X12_family ⟨_, _, mE hB, _, _, hin1 im, fun e => absurd e n10, fun _ => ⟨_, _, mT_t h1, fun _ => ⟨_, _, mW_f h2, fun e => absurd rfl e, fun _ => ⟨rfl, rfl⟩⟩, fun e => absurd e n10⟩⟩), yFr.rf⟩
        | true =>
          obtain ⟨t, ht, rfl⟩ := bW_ex (by decide) h1
          have hW : yWm V a ≤ 2401 := yWn_lt hn hm
          have hpos : 0 < yWm V a := yWn_pos _
          have hv := ySp_vl hG ht
          have hst : ∀ k, yFm V t a (k + 1) = if yLs V t (yWq V t a k) a ≤ (yFm V t a k).1 then yFm V t a k else (yLs V t (yWq V t a k) a, yDg a (yWq V t a k) (yvM V)) := fun _ => rfl
          have lc : ∀ j k im1, k + j = yWm V a → 1 ≤ k → yFa im im1 → yTs V (yvR V) t (yWq V t a (k - 1)) im1 → yFs V t im1 →
              ∃ im', zX (d + 9) zc_X11_family 37 [(0, .ref 0), (1, .int a), (2, .int (Int32.ofNat t)), (3, .int c), (4, .int (Int32.ofNat (yWm V a))), (5, .int (yFm V t a k).1), (6, .int (yFm V t a k).2), (7, .int (Int32.ofNat k))] [] (zMm tl q im1) (fun x y => x = some (.int (if c = 0 then (yFm V t a (yWm V a)).1 else (yFm V t a (yWm V a)).2)) ∧ y = zMm tl q im') ∧ yFa im im' := by
            intro j
            induction j with
            | zero =>
              intro k im1 hk hk1 hF hT hf
              have e : k = yWm V a := by omega
              subst e
              refine ⟨im1, t_X11_family_37 ⟨fun _ => ⟨fun e => ⟨?_, rfl⟩, fun e => ⟨?_, rfl⟩⟩, fun h => absurd ((zi_le (by omega) (by omega)).mpr (Nat.le_refl _)) h⟩, hF⟩
              · rw [if_neg e]
              · rw [if_pos e]
            | succ j ih =>
              intro k im1 hk hk1 hF hT hf
              obtain ⟨im2, g1, g2, g3, g4⟩ := c_nextTs (d := d + 4) (tl := tl) (q := q) (set := a) hT
              have ew : yNx a (yvN V) (yvM V) (yWq V t a (k - 1)) = yWq V t a k := by
                obtain ⟨k', rfl⟩ : ∃ k', k = k' + 1 := ⟨k - 1, by omega⟩
                rfl
              rw [ew] at g2
              obtain ⟨im', h1, h2⟩ := ih (k + 1) im2 (by omega) (by omega) (hF.tr g3) g2 (g4 hf)
              rw [hst k] at h1
              have hl : zEv (d + 9) 54 [.ref 21, .int a] (zMm tl q im2) (some (.int (yLs V t (yWq V t a k) a))) (zMm tl q im2) := c_leftOfAll (d := d + 3) g2 (g4 hf)
              refine ⟨im', t_X11_family_37 ⟨fun h => absurd ((zi_le (by omega) (by omega)).mp h) (by omega), fun _ => ⟨im2, g1, _, _, hl, fun e => ?_, fun e => ⟨_, _, c_digitsOf (d := d + 8) g2, ?_⟩⟩⟩, h2⟩
              · rw [if_pos e] at h1
                rw [zi_s (a := k)]
                exact h1
              · rw [if_neg e] at h1
                rw [zi_s (a := k)]
                exact h1
          have lm : ∀ j k im0 im1, k + j = yWm V a → yB im0 V → yFb im0 im1 → yMs V t (yWq V t a k) im1 →
              ∃ im', zX (d + 9) zc_X12_family 30 [(0, .ref 47), (1, .int a), (2, .int (Int32.ofNat t)), (3, .int c), (4, .int (yFm V t a k).1), (5, .int (yFm V t a k).2), (6, .int (zb (decide (k < yWm V a))))] [] (zMm tl q im1) (fun x y => x = some (.int (if c = 0 then (yFm V t a (yWm V a)).1 else (yFm V t a (yWm V a)).2)) ∧ y = zMm tl q im') ∧ yFb im0 im' := by
            intro j
            induction j with
            | zero =>
              intro k im0 im1 hk hB0 hF hM
              have e : k = yWm V a := by omega
              subst e
              refine ⟨im1, t_X12_family_30 ⟨fun _ => ⟨fun e => ⟨?_, rfl⟩, fun e => ⟨?_, rfl⟩⟩, fun h => absurd (by rw [decide_eq_false (by omega)]; rfl) h⟩, hF⟩
              · rw [if_neg e]
              · rw [if_pos e]
            | succ j ih =>
              intro k im0 im1 hk hB0 hF hM
              have hkW : k < yWm V a := by omega
              obtain ⟨im2, g1, g2⟩ := m_leftOf (d := d + 3) (set := a) (tl := tl) (q := q) hG (yB_fr hB0 hF.fr) hM ht
              have hM2 := yMs_k hM g2
              obtain ⟨im3, g3, g4, g5⟩ := m_nextMs (d := d + 8) (tl := tl) (q := q) (set := a) hM2
              obtain ⟨im', h1, h2⟩ := ih (k + 1) im0 im3 (by omega) hB0 ((hF.tr (yFb.k56 g2)).tr g5) g4
              have hnf : yNf a (yvN V) (yvM V) (yWq V t a k) = decide (k + 1 < yWm V a) := yWk_nf hn hv hkW
              rw [hnf] at g3
              rw [hst k] at h1
              refine ⟨im', t_X12_family_30 ⟨fun h => ?_, fun _ => ⟨_, _, g1, fun e => ⟨fun _ => ⟨_, _, g3, ?_⟩, fun h => absurd e h⟩, fun e => ⟨_, _, m_digits (d := d + 8) hM2.1, fun h => absurd h e, fun _ => ⟨_, _, g3, ?_⟩⟩⟩⟩, h2⟩
              · rw [decide_eq_true hkW] at h
                exact absurd h n10
              · rw [if_pos e] at h1; exact h1
              · rw [if_neg e] at h1; exact h1
          obtain ⟨ia, a1, a2, a3, a4⟩ := c_lookWithCosts (d := d + 3) hG hA ht
          obtain ⟨ib, b1, b2, b3, b4⟩ := c_firstTs (d := d + 4) (tl := tl) (q := q) (set := a) a2
          have hF1 : yFm V t a 1 = (yLs V t (yWq V t a 0) a, yDg a (yWq V t a 0) (yvM V)) := by
            rw [hst 0]
            exact if_neg (yLs_gt hn hm)
          obtain ⟨im1, c1, c2⟩ := lc (yWm V a - 1) 1 ib (by omega) (by omega) (a4.tr b3) b2 (b4 a3)
          rw [hF1] at c1
          have hB1 := yB_fr hB c2.fr
          obtain ⟨ic, e1, e2, e3⟩ := m_comesTo (d := d + 3) (tl := tl) (q := q) hG hB1 ht
          obtain ⟨ie, f1, f2, f3⟩ := m_beginMs (d := d + 8) (tl := tl) (q := q) (set := a) (yTm_s e2)
          obtain ⟨im2, d1, d2⟩ := lm (yWm V a) 0 im1 ie (by omega) hB1 (e3.tr f3) f2
          rw [decide_eq_true hpos] at d1
          have hl0 : zEv (d + 9) 54 [.ref 21, .int a] (zMm tl q ib) (some (.int (yLs V t (yWq V t a 0) a))) (zMm tl q ib) := c_leftOfAll (d := d + 3) b2 (b4 a3)
          exact ⟨_, im1, im2, zEv_o rfl (t_X11_family ⟨fun h => absurd h h01, fun _ => ⟨_, _, cE hA, fun h => absurd h h02, fun _ => ⟨_, _, cT_t h1, fun _ => ⟨_, _, cW_t h2, fun _ => ⟨ia, a1, _, _, b1, _, _, hl0, _, _, c_digitsOf (d := d + 8) b2, c1⟩, fun e => absurd e n10⟩, fun e => absurd e n10⟩⟩⟩), zEv_o rfl (t_X12_family ⟨_, _, mE hB1, _, _, hin1 im1, fun e => absurd e n10, fun _ => ⟨_, _, mT_t h1, fun _ => ⟨_, _, mW_t h2, fun _ => ⟨ic, e1, ie, f1, d1⟩, fun e => absurd e n10⟩, fun e => absurd e n10⟩⟩), c2.fr.tr d2.fr⟩
