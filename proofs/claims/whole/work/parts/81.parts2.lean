/-! PARTING: the Model's; share, unfair -/
theorem yMk_0 {f : Nat → Bool} {n : Nat} (h : ∀ i, i < n → f i = false) : yMk f n = 0 := Nat.eq_of_testBit_eq fun i => by
  rw [yMk_bit, Nat.zero_testBit]
  by_cases e : i < n
  · rw [h i e, Bool.and_false]
  · rw [decide_eq_false e, Bool.false_and]
theorem m_dearestN {d n : Nat} {tl : List (Nat × Nat)} {q : zR} {im : zI} {w : Nat → Int32} {left : Int32} (h6 : n ≤ 6) (h7 : im 47 1 = Int32.ofNat n) (hw : ∀ i, i < n → im 68 i = w i) : zEv (d + 1) 198 [.ref 47, .int left] (zMm tl q im) (some (.int (yDe w (fun i => zBt left i) n))) (zMm tl q im) := by
  have lp : ∀ k i, i + k = n → zX d zc_X12_dearest 4 [(0, .ref 47), (1, .int left), (2, .int (yDe w (fun i => zBt left i) i)), (3, .int (Int32.ofNat i))] [] (zMm tl q im) (fun a b => a = some (.int (yDe w (fun i => zBt left i) n)) ∧ b = zMm tl q im) := by
    intro k
    induction k with
    | zero =>
      intro i hi
      refine t_X12_dearest_4 ?_
      rw [h7]
      have e : i = n := by omega
      subst e
      exact ⟨fun _ => ⟨rfl, rfl⟩, fun h => absurd ((zi_le (by omega) (by omega)).mpr (by omega)) h⟩
    | succ k ih =>
      intro i hi
      refine t_X12_dearest_4 ?_
      have ih := ih (i + 1) (by omega)
      rw [show yDe w (fun i => zBt left i) (i + 1) = bif zBt left i && (decide (yDe w (fun i => zBt left i) i = -1) || decide (w (yDe w (fun i => zBt left i) i).toNatClampNeg < w i)) then Int32.ofNat i else yDe w (fun i => zBt left i) i from rfl] at ih
      have hor := yDe_or (w := w) (g := fun i => zBt left i) i
      generalize yDe w (fun i => zBt left i) i = b at ih hor ⊢
      rw [h7, zi_s, zi_n (by omega), hw i (by omega), zBt_1]
      refine ⟨fun h => absurd ((zi_le (by omega) (by omega)).mp h) (by omega), fun _ => ⟨fun e => ?_, fun e => ⟨fun e3 => ?_, fun e3 => ⟨zi_in (by omega) (by omega), ?_⟩⟩⟩⟩
      · rw [Bool.eq_false_iff.mpr e] at ih
        exact ih
      · rw [e, e3] at ih
        exact ih
      · rcases hor with hb | ⟨k2, hk2, _, hb⟩
        · exact absurd hb e3
        · rw [e, decide_eq_false e3] at ih
          rw [hb, zi_n (by omega), hw k2 (by omega)]
          rw [hb, zi_n (by omega)] at ih
          refine ⟨zi_in (by omega) (by omega), fun e4 => ?_, fun e4 => ?_⟩
          · rw [decide_eq_false (Int32.not_lt.mpr e4)] at ih
            exact ih
          · rw [decide_eq_true (Int32.not_le.mp e4)] at ih
            exact ih
  exact zEv_o rfl (t_X12_dearest (lp n 0 (by omega)))
theorem m_parts {d t fr : Nat} {tn : Bool} {tl : List (Nat × Nat)} {q : zR} {im : zI} {V : yV} (hG : yG V) (hB : yB im V) (ht : t < 12) (hf : fr < yvM V) :
    ∃ im', zEv (d + 7) 199 [.ref 47, .int (Int32.ofNat t), .int (Int32.ofNat fr), .int (zb tn)] (zMm tl q im) none (zMm tl q im') ∧ (∀ p, p < 4 → im' 71 p = (yPp V t fr tn 6).2 p) ∧ yFb im im' := by
  have hn := hG.1
  have hm := hG.2.1
  obtain ⟨ia, a1, f36, f67, f68, hF0⟩ := m_looksAt (d := d + 1) (tl := tl) (q := q) hG hB ht
  have hM1 : ¬ Int32.ofNat (yvM V) = 0 := zi_k (b := 0) (by omega) (by omega) (by omega)
  have htn : zb tn = (1 : Int32) ↔ tn = true := zb_1
  have lm : ∀ j k im1, k + j = 6 → (∀ c, c ≠ 71 → im1 c = ia c) → (∀ p, p < 4 → im1 71 p = (yPp V t fr tn k).2 p) →
      ∃ im', zX (d + 6) zc_X12_parts 20 [(0, .ref 47), (1, .int (Int32.ofNat t)), (2, .int (Int32.ofNat fr)), (3, .int (zb tn)), (4, .int (Int32.ofNat (yMk (yPg V t (yPp V t fr tn k).1) (yvN V)))), (5, .int (Int32.ofNat k))] [] (zMm tl q im1) (fun x y => x = none ∧ y = zMm tl q im') ∧ (∀ p, p < 4 → im' 71 p = (yPp V t fr tn 6).2 p) ∧ (∀ c, c ≠ 71 → im' c = ia c) := by
    intro j
    induction j with
    | zero =>
      intro k im1 hk hF h71
      have e : k = 6 := by omega
      subst e
      have h0 : yMk (yPg V t (yPp V t fr tn 6).1) (yvN V) = 0 := yMk_0 (yDe_m1 (w := yWo V (yvR V) t) (by omega) (yPp_6 hn))
      rw [h0]
      exact ⟨im1, t_X12_parts_20 ⟨fun _ => ⟨rfl, rfl⟩, fun h => absurd rfl h⟩, h71, hF⟩
    | succ j ih =>
      intro k im1 hk hF h71
      have hL := yMk_lt (f := yPg V t (yPp V t fr tn k).1) (n := 6) (yvN V) hn
      by_cases e : yPx V t (yPp V t fr tn k).1 = -1
      · have h0 : yMk (yPg V t (yPp V t fr tn k).1) (yvN V) = 0 := yMk_0 (yDe_m1 (w := yWo V (yvR V) t) (by omega) e)
        have hs := yPp_st e (6 - k)
        rw [show k + (6 - k) = 6 by omega] at hs
        rw [h0]
        exact ⟨im1, t_X12_parts_20 ⟨fun _ => ⟨rfl, rfl⟩, fun h => absurd rfl h⟩, by rw [hs]; exact h71, hF⟩
      · rcases yPx_or (V := V) (t := t) (G := (yPp V t fr tn k).1) with h2 | ⟨i, hi, hg, h2⟩
        · exact absurd h2 e
        · have hs := yPp_s (V := V) (t := t) (fr := fr) (tn := tn) k
          rw [if_neg e, h2, zi_n (show i < 2147483648 by omega)] at hs
          have hj := yPj_lt (M := yvM V) (fr := fr) (k := k) (tn := tn) (by omega)
          have hL0 : ¬ Int32.ofNat (yMk (yPg V t (yPp V t fr tn k).1) (yvN V)) = 0 := zi_k (b := 0) (by omega) (by omega) (fun h => by
            have h3 := yMk_bit (f := yPg V t (yPp V t fr tn k).1) (j := i) (yvN V)
            rw [h, Nat.zero_testBit, decide_eq_true hi, hg] at h3
            cases h3)
          have e1 : im1 47 1 = Int32.ofNat (yvN V) := by rw [hF 47 (by decide)]; exact (yB_fr hB hF0.fr).1
          have e6 : im1 47 6 = Int32.ofNat (yvM V) := by rw [hF 47 (by decide)]; exact (yB_fr hB hF0.fr).2.1
          have e68 : ∀ i, i < yvN V → im1 68 i = yWo V (yvR V) t i := fun i hi => by rw [hF 68 (by decide)]; exact f68 i hi
          have hd : zEv (d + 6) 198 [.ref 47, .int (Int32.ofNat (yMk (yPg V t (yPp V t fr tn k).1) (yvN V)))] (zMm tl q im1) (some (.int (Int32.ofNat i))) (zMm tl q im1) := by
            have := m_dearestN (d := d + 5) (tl := tl) (q := q) (left := Int32.ofNat (yMk (yPg V t (yPp V t fr tn k).1) (yvN V))) hn e1 e68
            rw [yDe_cg (g' := yPg V t (yPp V t fr tn k).1) (fun i hi => by
              show zBt (Int32.ofNat (yMk (yPg V t (yPp V t fr tn k).1) (yvN V))) i = _
              rw [zBt_nat ⟨_, hL⟩ ⟨i, by omega⟩, yMk_bit, decide_eq_true hi, Bool.true_and]), show yDe (yWo V (yvR V) t) (yPg V t (yPp V t fr tn k).1) (yvN V) = Int32.ofNat i from h2] at this
            exact this
          obtain ⟨im', h1, h3⟩ := ih (k + 1) (up2 im1 71 (yPj (yvM V) fr tn k) ((yPp V t fr tn k).2 (yPj (yvM V) fr tn k) + yWo V (yvR V) t i)) (by omega) (fun c hc => by rw [up_r hc]; exact hF c hc) (fun p hp => by
            rw [hs]
            show _ = zSet _ _ _ p
            by_cases ep : p = yPj (yvM V) fr tn k
            · rw [ep, up_eq, zSet_eq]
            · rw [up_j ep, zSet_ne ep]; exact h71 p hp)
          rw [hs] at h1
          have p1 := zi_pa ⟨yvM V, by omega⟩ ⟨fr, by omega⟩ ⟨k, by omega⟩ (by show 0 < yvM V; omega)
          have p2 := zi_pb ⟨yvM V, by omega⟩ ⟨fr, by omega⟩ ⟨k, by omega⟩ (by show 0 < yvM V; omega)
          have p3 := zi_pc ⟨yvM V, by omega⟩ ⟨k, by omega⟩ (by show 0 < yvM V; omega)
          simp only at p1 p2 p3
          have v6 := zi_in (show i < 6 by omega) (show i < 2147483648 by omega)
          have vj := zi_in (show yPj (yvM V) fr tn k < 4 by omega) (show yPj (yvM V) fr tn k < 2147483648 by omega)
          have hoff : Int32.ofNat (yMk (yPg V t (yPp V t fr tn k).1) (yvN V)) &&& (((1 : Int32) <<< (Int32.ofNat i &&& 31)) ^^^ (-1 : Int32)) = Int32.ofNat (yMk (yPg V t ((yPp V t fr tn k).1 ||| 2 ^ i)) (yvN V)) := by
            rw [zi_off ⟨_, hL⟩ ⟨i, by omega⟩]
            congr 1
            refine Nat.eq_of_testBit_eq fun x => ?_
            rw [Nat.testBit_and, yMk_bit, yMk_bit, Nat.testBit_xor, Nat.testBit_two_pow]
            unfold yPg
            rw [Nat.testBit_or, Nat.testBit_two_pow]
            by_cases hx : x < yvN V
            · rw [show (63 : Nat).testBit x = true from bit63 ⟨x, by omega⟩]
              cases ySd V t x <;> cases (yPp V t fr tn k).1.testBit x <;> cases decide (i = x) <;> simp
            · rw [decide_eq_false hx]; simp
          have n1 : (fr + k % yvM V) % yvM V < 4 := Nat.lt_of_lt_of_le (Nat.mod_lt _ (by omega)) hm
          have n2 : (fr + (yvM V - 1 - k % yvM V)) % yvM V < 4 := Nat.lt_of_lt_of_le (Nat.mod_lt _ (by omega)) hm
          have j1 : ¬ (tn = true ∧ k / yvM V % 2 = 1) → yPj (yvM V) fr tn k = (fr + k % yvM V) % yvM V := fun h => by unfold yPj; rw [if_neg h]
          have j2 : (tn = true ∧ k / yvM V % 2 = 1) → yPj (yvM V) fr tn k = (fr + (yvM V - 1 - k % yvM V)) % yvM V := fun h => by unfold yPj; rw [if_pos h]
          refine ⟨im', t_X12_parts_20 ?_, h3⟩
          rw [e6, p3, htn, zi_s]
          refine ⟨fun h => absurd h hL0, fun _ => ⟨hM1, fun h => ⟨_, _, hd, ?_⟩, fun h => ⟨hM1, fun h5 => ⟨_, _, hd, ?_⟩, fun h5 => ⟨_, _, hd, ?_⟩⟩⟩⟩
          · rw [e6, p1, zi_n (show (fr + k % yvM V) % yvM V < 2147483648 by omega), h71 _ n1, zi_n (show i < 2147483648 by omega), e68 i hi, hoff, ← j1 (fun hh => h hh.1)]
            exact ⟨hM1, vj, v6, vj, h1⟩
          · rw [e6, p1, zi_n (show (fr + k % yvM V) % yvM V < 2147483648 by omega), h71 _ n1, zi_n (show i < 2147483648 by omega), e68 i hi, hoff, ← j1 (fun hh => h5 hh.2)]
            exact ⟨hM1, vj, v6, vj, h1⟩
          · rw [e6, p2, zi_n (show (fr + (yvM V - 1 - k % yvM V)) % yvM V < 2147483648 by omega), h71 _ n2, zi_n (show i < 2147483648 by omega), e68 i hi, hoff, ← j2 ⟨h, h5⟩]
            exact ⟨hM1, vj, v6, vj, h1⟩
  have l5 : ∀ j p im1, p + j = 4 → (∀ c, c ≠ 71 → im1 c = ia c) → (∀ p', p' < p → im1 71 p' = 0) →
      ∃ im', zX (d + 6) zc_X12_parts 5 [(0, .ref 47), (1, .int (Int32.ofNat t)), (2, .int (Int32.ofNat fr)), (3, .int (zb tn)), (4, .int (Int32.ofNat p))] [] (zMm tl q im1) (fun x y => x = none ∧ y = zMm tl q im') ∧ (∀ p, p < 4 → im' 71 p = (yPp V t fr tn 6).2 p) ∧ (∀ c, c ≠ 71 → im' c = ia c) := by
    intro j
    induction j with
    | zero =>
      intro p im1 hp hF h71
      have e : p = 4 := by omega
      subst e
      obtain ⟨im', h1, h2⟩ := lm 6 0 im1 (by omega) hF (fun p hp => h71 p hp)
      refine ⟨im', t_X12_parts_5 ⟨fun _ => ?_, fun h => absurd (by decide) h⟩, h2⟩
      rw [hF 47 (by decide), f36]
      have e0 : yMk (yPg V t (yPp V t fr tn 0).1) (yvN V) = yMk (ySd V t) (yvN V) := Nat.eq_of_testBit_eq fun x => by
        rw [yMk_bit, yMk_bit]
        show (decide (x < yvN V) && (ySd V t x && !(0 : Nat).testBit x)) = _
        rw [Nat.zero_testBit, Bool.not_false, Bool.and_true]
      rw [e0] at h1
      exact h1
    | succ j ih =>
      intro p im1 hp hF h71
      obtain ⟨im', h1, h2⟩ := ih (p + 1) (up2 im1 71 p 0) (by omega) (fun c hc => by rw [up_r hc]; exact hF c hc) (fun p' hp' => by
        by_cases e : p' = p
        · subst e; exact up_eq
        · rw [up_j e]; exact h71 p' (by omega))
      refine ⟨im', t_X12_parts_5 ?_, h2⟩
      rw [zi_n (show p < 2147483648 by omega), zi_s]
      exact ⟨fun h => absurd ((zi_le (a := 4) (by omega) (by omega)).mp h) (by omega), fun _ => ⟨zi_in (by omega) (by omega), h1⟩⟩
  obtain ⟨im', h1, h2, h3⟩ := l5 4 0 ia (by omega) (fun _ _ => rfl) (fun p hp => absurd hp (by omega))
  exact ⟨im', zEv_o rfl (t_X12_parts ⟨ia, a1, h1⟩), h2, hF0.tr (yFb.of 71 (by decide) h3)⟩
theorem bW1_ex {v : Int32} (h : bW v 1 = true) : ∃ b, v = zb b := by
  obtain ⟨k, hk, e⟩ := bW_ex (by decide) h
  match k, hk with
  | 0, _ => exact ⟨false, e⟩
  | 1, _ => exact ⟨true, e⟩
theorem k_share {d : Nat} {a b f c : Int32} {tl : List (Nat × Nat)} {q : zR} {im : zI} {V : yV} (hS : yS tl q im V) : yCall (d + 10) 90 200 [.int a, .int b, .int f, .int c] tl q im (yFr im) := by
  obtain ⟨hG, hA, hB⟩ := hS
  have hm := hG.2.1
  cases h1 : bO V a with
  | false => exact ⟨-5, im, im, zEv_o rfl (t_X11_share ⟨_, _, cO_f hA h1, fun _ => ⟨rfl, rfl⟩, fun e => absurd rfl e⟩), zEv_o rfl (t_X12_share ⟨_, _, mO_f hG hB h1, fun _ => ⟨rfl, rfl⟩, fun e => absurd rfl e⟩), yFr.rf⟩
  | true =>
    cases h2 : bO V f with
    | false =>
      cases h3 : bW b 11 with
      | false => exact ⟨-5, im, im, zEv_o rfl (t_X11_share ⟨_, _, cO_t hA h1, fun e => absurd e n10, fun _ => ⟨_, _, cO_f hA h2, fun _ => ⟨rfl, rfl⟩, fun e => absurd rfl e⟩⟩), zEv_o rfl (t_X12_share ⟨_, _, mO_t hG hB h1, fun e => absurd e n10, fun _ => ⟨_, _, mT_f h3, fun _ => ⟨rfl, rfl⟩, fun e => absurd rfl e⟩⟩), yFr.rf⟩
      | true => exact ⟨-5, im, im, zEv_o rfl (t_X11_share ⟨_, _, cO_t hA h1, fun e => absurd e n10, fun _ => ⟨_, _, cO_f hA h2, fun _ => ⟨rfl, rfl⟩, fun e => absurd rfl e⟩⟩), zEv_o rfl (t_X12_share ⟨_, _, mO_t hG hB h1, fun e => absurd e n10, fun _ => ⟨_, _, mT_t h3, fun e => absurd e n10, fun _ => ⟨_, _, mO_f hG hB h2, fun e => absurd rfl e, fun _ => ⟨rfl, rfl⟩⟩⟩⟩), yFr.rf⟩
    | true =>
      cases h3 : bW b 11 with
      | false => exact ⟨-5, im, im, zEv_o rfl (t_X11_share ⟨_, _, cO_t hA h1, fun e => absurd e n10, fun _ => ⟨_, _, cO_t hA h2, fun e => absurd e n10, fun _ => ⟨_, _, cT_f h3, fun e => absurd rfl e, fun _ => ⟨rfl, rfl⟩⟩⟩⟩), zEv_o rfl (t_X12_share ⟨_, _, mO_t hG hB h1, fun e => absurd e n10, fun _ => ⟨_, _, mT_f h3, fun _ => ⟨rfl, rfl⟩, fun e => absurd rfl e⟩⟩), yFr.rf⟩
      | true =>
        cases h4 : bW c 1 with
        | false => exact ⟨-7, im, im, zEv_o rfl (t_X11_share ⟨_, _, cO_t hA h1, fun e => absurd e n10, fun _ => ⟨_, _, cO_t hA h2, fun e => absurd e n10, fun _ => ⟨_, _, cT_t h3, fun _ => ⟨_, _, cW_f h4, fun e => absurd rfl e, fun _ => ⟨rfl, rfl⟩⟩, fun e => absurd e n10⟩⟩⟩), zEv_o rfl (t_X12_share ⟨_, _, mO_t hG hB h1, fun e => absurd e n10, fun _ => ⟨_, _, mT_t h3, fun e => absurd e n10, fun _ => ⟨_, _, mO_t hG hB h2, fun _ => ⟨_, _, mW_f h4, fun e => absurd rfl e, fun _ => ⟨rfl, rfl⟩⟩, fun e => absurd e n10⟩⟩⟩), yFr.rf⟩
        | true =>
          obtain ⟨p, hp, rfl⟩ := bO_ex hG h1
          obtain ⟨fr, hfr, rfl⟩ := bO_ex hG h2
          obtain ⟨t, ht, rfl⟩ := bW_ex (by decide) h3
          obtain ⟨tn, rfl⟩ := bW1_ex h4
          obtain ⟨im1, g1, g2, g3⟩ := c_parts (d := d + 2) (tn := tn) hG hA ht hfr
          have hB1 := yB_fr hB g3.fr
          obtain ⟨im2, g4, g5, g6⟩ := m_parts (d := d + 2) (tn := tn) (tl := tl) (q := q) hG hB1 ht hfr
          have v4 := zi_in (show p < 4 by omega) (show p < 2147483648 by omega)
          refine ⟨(yPp V t fr tn 6).2 p, im1, im2, zEv_o rfl (t_X11_share ⟨_, _, cO_t hA h1, fun e => absurd e n10, fun _ => ⟨_, _, cO_t hA h2, fun e => absurd e n10, fun _ => ⟨_, _, cT_t h3, fun _ => ⟨_, _, cW_t h4, fun _ => ?_, fun e => absurd e n10⟩, fun e => absurd e n10⟩⟩⟩), zEv_o rfl (t_X12_share ⟨_, _, mO_t hG hB1 h1, fun e => absurd e n10, fun _ => ⟨_, _, mT_t h3, fun e => absurd e n10, fun _ => ⟨_, _, mO_t hG hB1 h2, fun _ => ⟨_, _, mW_t h4, fun _ => ⟨_, g4, v4, ?_, rfl⟩, fun e => absurd e n10⟩, fun e => absurd e n10⟩⟩⟩), g3.fr.tr g6.fr⟩
          · rw [zi_n (show p < 2147483648 by omega)]
            cases tn with
            | false => exact ⟨fun _ => ⟨_, g1, v4, by rw [g2 p (by omega)], rfl⟩, fun h => absurd h.symm n10⟩
            | true => exact ⟨fun h => absurd rfl h, fun _ => ⟨_, g1, v4, by rw [g2 p (by omega)], rfl⟩⟩
          · rw [zi_n (show p < 2147483648 by omega), g5 p (by omega)]
/-- (least, most) of the first k + 1 -/
def yMm (S : Nat → Int32) : Nat → Int32 × Int32
  | 0 => (S 0, S 0)
  | k + 1 => (if S (k + 1) < (yMm S k).1 then S (k + 1) else (yMm S k).1, if (yMm S k).2 < S (k + 1) then S (k + 1) else (yMm S k).2)
theorem k_unfair {d : Nat} {b f c : Int32} {tl : List (Nat × Nat)} {q : zR} {im : zI} {V : yV} (hS : yS tl q im V) : yCall (d + 10) 91 201 [.int b, .int f, .int c] tl q im (yFr im) := by
  obtain ⟨hG, hA, hB⟩ := hS
  have hm := hG.2.1
  cases h2 : bO V f with
  | false =>
    cases h3 : bW b 11 with
    | false => exact ⟨-5, im, im, zEv_o rfl (t_X11_unfair ⟨_, _, cO_f hA h2, fun _ => ⟨rfl, rfl⟩, fun e => absurd rfl e⟩), zEv_o rfl (t_X12_unfair ⟨_, _, mT_f h3, fun _ => ⟨rfl, rfl⟩, fun e => absurd rfl e⟩), yFr.rf⟩
    | true => exact ⟨-5, im, im, zEv_o rfl (t_X11_unfair ⟨_, _, cO_f hA h2, fun _ => ⟨rfl, rfl⟩, fun e => absurd rfl e⟩), zEv_o rfl (t_X12_unfair ⟨_, _, mT_t h3, fun e => absurd e n10, fun _ => ⟨_, _, mO_f hG hB h2, fun e => absurd rfl e, fun _ => ⟨rfl, rfl⟩⟩⟩), yFr.rf⟩
  | true =>
    cases h3 : bW b 11 with
    | false => exact ⟨-5, im, im, zEv_o rfl (t_X11_unfair ⟨_, _, cO_t hA h2, fun e => absurd e n10, fun _ => ⟨_, _, cT_f h3, fun e => absurd rfl e, fun _ => ⟨rfl, rfl⟩⟩⟩), zEv_o rfl (t_X12_unfair ⟨_, _, mT_f h3, fun _ => ⟨rfl, rfl⟩, fun e => absurd rfl e⟩), yFr.rf⟩
    | true =>
      cases h4 : bW c 1 with
      | false => exact ⟨-7, im, im, zEv_o rfl (t_X11_unfair ⟨_, _, cO_t hA h2, fun e => absurd e n10, fun _ => ⟨_, _, cT_t h3, fun _ => ⟨_, _, cW_f h4, fun e => absurd rfl e, fun _ => ⟨rfl, rfl⟩⟩, fun e => absurd e n10⟩⟩), zEv_o rfl (t_X12_unfair ⟨_, _, mT_t h3, fun e => absurd e n10, fun _ => ⟨_, _, mO_t hG hB h2, fun _ => ⟨_, _, mW_f h4, fun e => absurd rfl e, fun _ => ⟨rfl, rfl⟩⟩, fun e => absurd e n10⟩⟩), yFr.rf⟩
      | true =>
        obtain ⟨fr, hfr, rfl⟩ := bO_ex hG h2
        obtain ⟨t, ht, rfl⟩ := bW_ex (by decide) h3
        obtain ⟨tn, rfl⟩ := bW1_ex h4
        obtain ⟨im1, g1, g2, g3⟩ := c_parts (d := d + 2) (tn := tn) hG hA ht hfr
        have hB1 := yB_fr hB g3.fr
        obtain ⟨im2, g4, g5, g6⟩ := m_parts (d := d + 2) (tn := tn) (tl := tl) (q := q) hG hB1 ht hfr
        have hst : ∀ k, yMm (yPp V t fr tn 6).2 (k + 1) = (if (yPp V t fr tn 6).2 (k + 1) < (yMm (yPp V t fr tn 6).2 k).1 then (yPp V t fr tn 6).2 (k + 1) else (yMm (yPp V t fr tn 6).2 k).1, if (yMm (yPp V t fr tn 6).2 k).2 < (yPp V t fr tn 6).2 (k + 1) then (yPp V t fr tn 6).2 (k + 1) else (yMm (yPp V t fr tn 6).2 k).2) := fun _ => rfl
        have lc : ∀ j k, k + 1 + j = yvM V → zX (d + 9) zc_X11_unfair 37 [(0, .ref 0), (1, .int (Int32.ofNat t)), (2, .int (Int32.ofNat fr)), (3, .int (zb tn)), (4, .int (yMm (yPp V t fr tn 6).2 k).1), (5, .int (yMm (yPp V t fr tn 6).2 k).2), (6, .int (Int32.ofNat (k + 1)))] [] (zMm tl q im1) (fun x y => x = some (.int ((yMm (yPp V t fr tn 6).2 (yvM V - 1)).2 - (yMm (yPp V t fr tn 6).2 (yvM V - 1)).1)) ∧ y = zMm tl q im1) := by
          intro j
          induction j with
          | zero =>
            intro k hk
            have e : yvM V - 1 = k := by omega
            refine t_X11_unfair_37 ?_
            rw [(yA_fr hA g3.fr).2.1, e]
            exact ⟨fun _ => ⟨rfl, rfl⟩, fun h => absurd ((zi_le (by omega) (by omega)).mpr (by omega)) h⟩
          | succ j ih =>
            intro k hk
            have h1 := ih (k + 1) (by omega)
            rw [hst k] at h1
            have v4 := zi_in (show k + 1 < 4 by omega) (show k + 1 < 2147483648 by omega)
            refine t_X11_unfair_37 ?_
            rw [(yA_fr hA g3.fr).2.1, zi_n (show k + 1 < 2147483648 by omega), g2 (k + 1) (by omega), zi_s (a := k + 1)]
            exact ⟨fun h => absurd ((zi_le (by omega) (by omega)).mp h) (by omega), fun _ => ⟨v4, v4, h1⟩⟩
        have lm : ∀ j k, k + 1 + j = yvM V → zX (d + 9) zc_X12_unfair 33 [(0, .ref 47), (1, .int (Int32.ofNat t)), (2, .int (Int32.ofNat fr)), (3, .int (zb tn)), (4, .int (yMm (yPp V t fr tn 6).2 k).1), (5, .int (yMm (yPp V t fr tn 6).2 k).2), (6, .int (Int32.ofNat (k + 1)))] [] (zMm tl q im2) (fun x y => x = some (.int ((yMm (yPp V t fr tn 6).2 (yvM V - 1)).2 - (yMm (yPp V t fr tn 6).2 (yvM V - 1)).1)) ∧ y = zMm tl q im2) := by
          intro j
          induction j with
          | zero =>
            intro k hk
            have e : yvM V - 1 = k := by omega
            refine t_X12_unfair_33 ?_
            rw [(yB_fr hB1 g6.fr).2.1, e]
            exact ⟨fun _ => ⟨rfl, rfl⟩, fun h => absurd ((zi_le (by omega) (by omega)).mpr (by omega)) h⟩
          | succ j ih =>
            intro k hk
            have h1 := ih (k + 1) (by omega)
            rw [hst k] at h1
            have v4 := zi_in (show k + 1 < 4 by omega) (show k + 1 < 2147483648 by omega)
            refine t_X12_unfair_33 ?_
            rw [(yB_fr hB1 g6.fr).2.1, zi_n (show k + 1 < 2147483648 by omega), g5 (k + 1) (by omega), zi_s (a := k + 1)]
            refine ⟨fun h => absurd ((zi_le (by omega) (by omega)).mp h) (by omega), fun _ => ⟨v4, fun e1 => ⟨v4, fun e2 => ?_, fun e2 => ⟨v4, ?_⟩⟩, fun e1 => ⟨v4, v4, fun e2 => ?_, fun e2 => ⟨v4, ?_⟩⟩⟩⟩
            · rw [if_neg (Int32.not_lt.mpr e1), if_neg (Int32.not_lt.mpr e2)] at h1; exact h1
            · rw [if_neg (Int32.not_lt.mpr e1), if_pos (Int32.not_le.mp e2)] at h1; exact h1
            · rw [if_pos (Int32.not_le.mp e1), if_neg (Int32.not_lt.mpr e2)] at h1; exact h1
            · rw [if_pos (Int32.not_le.mp e1), if_pos (Int32.not_le.mp e2)] at h1; exact h1
        have c0 := lc (yvM V - 1) 0 (by omega)
        have d0 := lm (yvM V - 1) 0 (by omega)
        refine ⟨(yMm (yPp V t fr tn 6).2 (yvM V - 1)).2 - (yMm (yPp V t fr tn 6).2 (yvM V - 1)).1, im1, im2, zEv_o rfl (t_X11_unfair ⟨_, _, cO_t hA h2, fun e => absurd e n10, fun _ => ⟨_, _, cT_t h3, fun _ => ⟨_, _, cW_t h4, fun _ => ?_, fun e => absurd e n10⟩, fun e => absurd e n10⟩⟩), zEv_o rfl (t_X12_unfair ⟨_, _, mT_t h3, fun e => absurd e n10, fun _ => ⟨_, _, mO_t hG hB1 h2, fun _ => ⟨_, _, mW_t h4, fun _ => ⟨_, g4, ?_⟩, fun e => absurd e n10⟩, fun e => absurd e n10⟩⟩), g3.fr.tr g6.fr⟩
        · cases tn with
          | false =>
            refine ⟨fun _ => ⟨_, g1, ?_⟩, fun h => absurd h.symm n10⟩
            rw [g2 0 (by omega)]
            exact c0
          | true =>
            refine ⟨fun h => absurd rfl h, fun _ => ⟨_, g1, ?_⟩⟩
            rw [g2 0 (by omega)]
            exact c0
        · rw [g5 0 (by omega)]
          exact d0
