/-! THE MODEL: what stands, is worth, joins -/
theorem zi_k {a b : Nat} (ha : a < 2147483648) (hb : b < 2147483648) (h : a ≠ b) : ¬ Int32.ofNat a = Int32.ofNat b := fun e => h ((zi_eq ha hb).mp e)
theorem m_stands {d i t : Nat} {tl : List (Nat × Nat)} {q : zR} {im : zI} {V : yV} (hG : yG V) (hB : yB im V) (hi : i < yvN V) (ht : t < 12) : zEv (d + 1) 167 [.ref 47, .int (Int32.ofNat i), .int (Int32.ofNat t)] (zMm tl q im) (some (.int (zb (ySd V t i)))) (zMm tl q im) := by
  have hn := hG.1
  have hk := (hG.2.2.2.2.2.2 i hi).1
  obtain ⟨k1, k2, k3, k4⟩ := hB.2.2.2.2.2.2.1 i hi
  have h48 := hB.2.2.2.2.1 t ht
  have e2 : Int32.ofNat (yvK V i) = (2 : Int32) ↔ yvK V i = 2 := zi_eq (b := 2) (by omega) (by omega)
  have e4 : Int32.ofNat (yvK V i) = (4 : Int32) ↔ yvK V i = 4 := zi_eq (b := 4) (by omega) (by omega)
  refine zEv_o rfl (t_X12_stands ?_)
  rw [zi_n (show i < 2147483648 by omega), zi_n (show t < 2147483648 by omega), k1, k3, h48, e2, e4]
  unfold ySd ySt
  have v6 := zi_in (show i < 6 by omega) (show i < 2147483648 by omega)
  have v12 := zi_in ht (show t < 2147483648 by omega)
  refine ⟨v6, fun h => ⟨v12, v6, fun h2 => ⟨?_, rfl⟩, fun h2 => ⟨?_, rfl⟩⟩, fun h => ⟨v6, fun h3 => ⟨?_, rfl⟩, fun h3 => ⟨v12, v6, fun h2 => ⟨?_, rfl⟩, fun h2 => ⟨?_, rfl⟩⟩⟩⟩
  · rw [if_pos (.inl h), decide_eq_false (Int32.not_le.mpr h2)]; rfl
  · rw [if_pos (.inl h), decide_eq_true (Int32.not_lt.mp h2)]; rfl
  · rw [if_neg (by rintro (a | a); exact h a; exact h3 a)]; rfl
  · rw [if_pos (.inr h3), decide_eq_false (Int32.not_le.mpr h2)]; rfl
  · rw [if_pos (.inr h3), decide_eq_true (Int32.not_lt.mp h2)]; rfl
theorem m_worthOf {d i t : Nat} {tl : List (Nat × Nat)} {q : zR} {im : zI} {V : yV} (hG : yG V) (hB : yB im V) (hi : i < yvN V) (ht : t < 12) :
    ∃ im', zEv (d + 4) 168 [.ref 47, .int (Int32.ofNat i), .int (Int32.ofNat t)] (zMm tl q im) (some (.int (yWo V (yvR V) t i))) (zMm tl q im') ∧ (∀ k, k ≠ 65 → k ≠ 66 → im' k = im k) := by
  have hn := hG.1
  have hk := (hG.2.2.2.2.2.2 i hi).1
  have hR := hG.2.2.1
  have hC := hG.2.2.2.1
  obtain ⟨k1, k2, k3, k4⟩ := hB.2.2.2.2.2.2.1 i hi
  have h48 := hB.2.2.2.2.1 t ht
  have e1 : Int32.ofNat (yvK V i) = (1 : Int32) ↔ yvK V i = 1 := zi_eq (b := 1) (by omega) (by omega)
  have e3 : Int32.ofNat (yvK V i) = (3 : Int32) ↔ yvK V i = 3 := zi_eq (b := 3) (by omega) (by omega)
  have e4 : Int32.ofNat (yvK V i) = (4 : Int32) ↔ yvK V i = 4 := zi_eq (b := 4) (by omega) (by omega)
  obtain ⟨im1, g1, g2⟩ := m_asksOf (d := d) (tl := tl) (q := q) (part := 0) (a := yvD V i) (b := yvH V t) (c := yvO V i) (d' := 0) (e := Int32.ofNat t) (f := Int32.ofNat i) (show yvR V < 6 by omega) (by decide) hB.2.2.1 (hB.2.2.2.2.2.2.2 (yvR V) hR)
  have v6 := zi_in (show i < 6 by omega) (show i < 2147483648 by omega)
  have v12 := zi_in ht (show t < 2147483648 by omega)
  refine ⟨im1, zEv_o rfl (t_X12_worthOf ?_), g2⟩
  rw [zi_n (show i < 2147483648 by omega), zi_n (show t < 2147483648 by omega), k2, k4, h48]
  refine ⟨v6, v12, v6, _, _, g1, v6, v6, ?_⟩
  rw [g2 49 (by decide) (by decide), g2 52 (by decide) (by decide), k1, k4, e1, e3, e4]
  unfold yWo yWt
  refine ⟨fun n1 => ⟨fun n3 => ⟨fun n4 => ⟨_, _, m_within, ?_, rfl⟩, fun n4 => ⟨v6, fun h => ⟨_, _, m_within, ?_, rfl⟩, fun h => ⟨_, _, m_within, ?_, rfl⟩⟩⟩, fun n3 => ⟨_, _, m_within, ?_, rfl⟩⟩, fun n1 => ⟨_, _, m_within, ?_, rfl⟩⟩
  · rw [if_neg n1, if_neg n3, if_neg n4]
  · rw [if_neg n1, if_neg n3, if_pos n4, if_pos h]
  · rw [if_neg n1, if_neg n3, if_pos n4, if_neg h]
  · rw [if_neg n1, if_pos n3]
  · rw [if_pos n1]
/-- what one makes one of itself -/
def yJs (V : yV) (t i : Nat) : Nat := 2 ^ i ||| (bif yJb V t i then 2 ^ (yJn V t i).toNatClampNeg else 0)
theorem p2_64 {i : Nat} (h : i < 6) : 2 ^ i < 64 := Nat.pow_lt_pow_right (a := 2) (n := 6) (by omega) h
theorem m_joinsOf {d i t : Nat} {tl : List (Nat × Nat)} {q : zR} {im : zI} {V : yV} (hG : yG V) (hB : yB im V) (hi : i < yvN V) (ht : t < 12) : zEv (d + 3) 169 [.ref 47, .int (Int32.ofNat i), .int (Int32.ofNat t)] (zMm tl q im) (some (.int (Int32.ofNat (yJs V t i)))) (zMm tl q im) := by
  have hn := hG.1
  have hk := (hG.2.2.2.2.2.2 i hi).1
  obtain ⟨k1, k2, k3, k4⟩ := hB.2.2.2.2.2.2.1 i hi
  have h48 := hB.2.2.2.2.1 t ht
  have e5 : Int32.ofNat (yvK V i) = (5 : Int32) ↔ yvK V i = 5 := zi_eq (b := 5) (by omega) (by omega)
  have v6 := zi_in (show i < 6 by omega) (show i < 2147483648 by omega)
  have v12 := zi_in ht (show t < 2147483648 by omega)
  have hno : yJb V t i = false → ((1 : Int32) <<< (Int32.ofNat i &&& 31)) ||| (0 : Int32) = Int32.ofNat (yJs V t i) := fun h => by
    unfold yJs
    rw [h, cond_false, zi_sh ⟨i, by omega⟩]
    exact zi_or ⟨2 ^ i, p2_64 (by omega)⟩ ⟨0, by omega⟩
  refine zEv_o rfl (t_X12_joinsOf ?_)
  rw [zi_n (show i < 2147483648 by omega), zi_n (show t < 2147483648 by omega), k1, k4, e5]
  have hJ : yJn V t i = if yvK V i = 5 then (if yvU V i ≤ yvH V t then -1 else yvO V i - yvO V i / 6 * 6) else -1 := rfl
  have hJb : yJb V t i = (decide (0 ≤ yJn V t i) && decide (yJn V t i < Int32.ofNat (yvN V))) := rfl
  have hm1 : yJn V t i = -1 → yJb V t i = false := fun h => by rw [hJb, h]; rfl
  refine ⟨v6, v6, fun h => ⟨?_, rfl⟩, fun h => ⟨_, _, m_isIsland, ?_⟩⟩
  · rw [hno (hm1 (by rw [hJ, if_neg h]))]
  rw [k3, h48]
  refine ⟨fun h2 => ⟨?_, rfl⟩, fun h2 => ⟨v12, v6, fun h3 => ⟨?_, rfl⟩, fun h3 => ⟨?_, rfl⟩⟩⟩
  · rw [hno]
    rw [hB.1, zb_0, decide_eq_decide.mpr (zi_pre (by omega))] at h2
    by_cases h3 : yvU V i ≤ yvH V t
    · exact hm1 (by rw [hJ, if_pos h, if_pos h3])
    · rw [hJb, hJ, if_pos h, if_neg h3]
      exact h2
  · rw [hno (hm1 (by rw [hJ, if_pos h, if_pos h3]))]
  · rw [hB.1, zb_0, decide_eq_decide.mpr (zi_pre (by omega))] at h2
    have hx : yJn V t i = yvO V i - yvO V i / 6 * 6 := by rw [hJ, if_pos h, if_neg h3]
    have hb : yJb V t i = true := by rw [hJb, hx]; exact Bool.not_eq_false _ |>.mp h2
    obtain ⟨k, hk, ek⟩ := yJb_ex hn hb
    unfold yJs
    rw [hb, cond_true, ← hx, ek, zi_n (by omega), zi_sh ⟨i, by omega⟩, zi_sh ⟨k, by omega⟩]
    rw [zi_or ⟨2 ^ i, p2_64 (by omega)⟩ ⟨2 ^ k, p2_64 (by omega)⟩]
/-! a row of truths as bits -/
def yMk (f : Nat → Bool) : Nat → Nat
  | 0 => 0
  | i + 1 => yMk f i ||| (bif f i then 2 ^ i else 0)
theorem yMk_bit {f : Nat → Bool} {j : Nat} : ∀ i, (yMk f i).testBit j = (decide (j < i) && f j)
  | 0 => by
    show (0 : Nat).testBit j = _
    rw [Nat.zero_testBit, decide_eq_false (by omega)]
    rfl
  | i + 1 => by
    show (yMk f i ||| _).testBit j = _
    rw [Nat.testBit_or, yMk_bit i]
    by_cases e : j = i
    · subst e
      rw [decide_eq_false (by omega), decide_eq_true (by omega), Bool.false_and, Bool.false_or, Bool.true_and]
      cases f j with
      | false => exact Nat.zero_testBit j
      | true => show (2 ^ j).testBit j = true; rw [Nat.testBit_two_pow, decide_eq_true rfl]
    · have : (bif f i then 2 ^ i else 0).testBit j = false := by
        cases f i with
        | false => exact Nat.zero_testBit j
        | true => show (2 ^ i).testBit j = false; rw [Nat.testBit_two_pow, decide_eq_false (fun h => e h.symm)]
      rw [this, Bool.or_false]
      congr 1
      exact decide_eq_decide.mpr (by omega)
theorem yMk_lt {f : Nat → Bool} {n : Nat} : ∀ i, i ≤ n → yMk f i < 2 ^ n
  | 0, _ => Nat.two_pow_pos n
  | i + 1, h => by
    show yMk f i ||| _ < _
    refine Nat.or_lt_two_pow (yMk_lt i (by omega)) ?_
    cases f i with
    | false => exact Nat.two_pow_pos n
    | true => exact Nat.pow_lt_pow_right (by omega) (by omega)
/-! THE MODEL: a look -/
theorem m_look5 {d t : Nat} {tl : List (Nat × Nat)} {q : zR} {im : zI} {V : yV} {Z : zI → Option Value → zM → Prop} {Po : zI → Prop} (hG : yG V) (hB : yB im V) (ht : t < 12)
    (cont : ∀ im2, yFb im im2 → im2 47 36 = Int32.ofNat (yMk (ySd V t) (yvN V)) → (∀ j, j < yvN V → im2 67 j = Int32.ofNat (yJs V t j)) → (∀ j, j < yvN V → im2 68 j = yWo V (yvR V) t j) → ∃ im', zX (d + 4) zc_X12_looksAt 44 [(0, .ref 47), (1, .int (Int32.ofNat t)), (2, .int (0 : Int32))] [] (zMm tl q im2) (Z im') ∧ Po im') :
    ∀ m i im1, i + m = yvN V → yFb im im1 → im1 47 36 = Int32.ofNat (yMk (ySd V t) i) → (∀ j, j < i → im1 67 j = Int32.ofNat (yJs V t j)) → (∀ j, j < i → im1 68 j = yWo V (yvR V) t j) →
      ∃ im', zX (d + 4) zc_X12_looksAt 5 [(0, .ref 47), (1, .int (Int32.ofNat t)), (2, .int (Int32.ofNat i))] [] (zMm tl q im1) (Z im') ∧ Po im' := by
  have hn := hG.1
  intro m
  induction m with
  | zero =>
    intro i im1 hi hF f36 f67 f68
    have e : i = yvN V := by omega
    subst e
    obtain ⟨im', h1, h2⟩ := cont im1 hF f36 f67 f68
    refine ⟨im', t_X12_looksAt_5 ?_, h2⟩
    rw [(yB_fr hB hF.fr).1]
    exact ⟨fun _ => h1, fun h => absurd ((zi_le (by omega) (by omega)).mpr (Nat.le_refl _)) h⟩
  | succ m ih =>
    intro i im1 hi hF f36 f67 f68
    have hB1 := yB_fr hB hF.fr
    have hi' : i < yvN V := by omega
    have v6 := zi_in (show i < 6 by omega) (show i < 2147483648 by omega)
    have hFa : yFb im1 (up2 im1 67 i (Int32.ofNat (yJs V t i))) := yFb.up (by decide)
    have hl := yMk_lt (f := ySd V t) (n := 6) i (by omega)
    have hor : ∀ x : Nat, x < 64 → Int32.ofNat (yMk (ySd V t) i) ||| Int32.ofNat x = Int32.ofNat (yMk (ySd V t) i ||| x) := fun x hx => zi_or ⟨_, hl⟩ ⟨x, hx⟩
    have hor0 : Int32.ofNat (yMk (ySd V t) i) ||| (0 : Int32) = Int32.ofNat (yMk (ySd V t) i ||| 0) := hor 0 (by omega)
    have hS : yMk (ySd V t) (i + 1) = yMk (ySd V t) i ||| (bif ySd V t i then 2 ^ i else 0) := rfl
    obtain ⟨im3, g1, g2⟩ := m_worthOf (d := d) (tl := tl) (q := q) hG (yB_fr (im' := up2 (up2 im1 67 i (Int32.ofNat (yJs V t i))) 47 36 (Int32.ofNat (yMk (ySd V t) (i + 1)))) hB1 (hFa.tr yFb.st).fr) hi' ht
    obtain ⟨im', h1, h2⟩ := ih (i + 1) (up2 im3 68 i (yWo V (yvR V) t i)) (by omega) (hF.tr (hFa.tr (yFb.st.tr ((yFb.of2 65 66 (by decide) (by decide) g2).tr (yFb.up (by decide))))))
      (by rw [up_k (by decide), g2 47 (by decide) (by decide), up_eq])
      (fun j hj => by
        rw [up_k (by decide), g2 67 (by decide) (by decide), up_k (by decide)]
        by_cases e : j = i
        · subst e; exact up_eq
        · rw [up_j e]; exact f67 j (by omega))
      (fun j hj => by
        by_cases e : j = i
        · subst e; exact up_eq
        · rw [up_j e, g2 68 (by decide) (by decide), up_k (by decide), up_k (by decide)]; exact f68 j (by omega))
    refine ⟨im', t_X12_looksAt_5 ?_, h2⟩
    rw [hB1.1, zi_s]
    refine ⟨fun h => absurd ((zi_le (by omega) (by omega)).mp h) (by omega), fun _ => ⟨_, _, m_joinsOf hG hB1 hi' ht, v6, ?_⟩⟩
    rw [zi_n (show i < 2147483648 by omega), f36, hor0, zi_sh ⟨i, by omega⟩, hor (2 ^ i) (p2_64 (by omega))]
    refine ⟨_, _, m_stands hG (yB_fr hB1 hFa.fr) hi' ht, ?_⟩
    rw [zb_0]
    refine ⟨fun e => ⟨_, _, ?_, v6, h1⟩, fun e => ⟨_, _, ?_, v6, h1⟩⟩
    · rw [hS, e] at g1
      exact g1
    · rw [hS, Bool.not_eq_false _ |>.mp e] at g1
      exact g1
