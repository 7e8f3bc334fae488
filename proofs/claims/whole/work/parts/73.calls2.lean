/-! CALLS: then, joined, year, best, rest -/
theorem zBt_v {set : Int32} {p : Nat} : (set >>> (Int32.ofNat p &&& 31)) &&& (1 : Int32) = zb (zBt set p) := by
  cases h : zBt set p with
  | false => exact zBt_0.mpr h
  | true => exact zBt_1.mpr h
theorem k_then {d : Nat} {a b c : Int32} {tl : List (Nat × Nat)} {q : zR} {im : zI} {V : yV} (hS : yS tl q im V) : yCall (d + 10) 77 171 [.int a, .int b, .int c] tl q im (yFr im) := by
  obtain ⟨hG, hA, hB⟩ := hS
  have hn := hG.1
  cases h1 : bI V a with
  | false => exact ⟨-5, im, im, zEv_o rfl (t_X11_then ⟨_, _, cI_f hA h1, fun _ => ⟨rfl, rfl⟩, fun e => absurd rfl e⟩), zEv_o rfl (t_X12_then ⟨_, _, mI_f hG hB h1, fun _ => ⟨rfl, rfl⟩, fun e => absurd rfl e⟩), yFr.rf⟩
  | true =>
    cases h2 : bW b 11 with
    | false => exact ⟨-5, im, im, zEv_o rfl (t_X11_then ⟨_, _, cI_t hA h1, fun e => absurd e n10, fun _ => ⟨_, _, cT_f h2, fun e => absurd rfl e, fun _ => ⟨rfl, rfl⟩⟩⟩), zEv_o rfl (t_X12_then ⟨_, _, mI_t hG hB h1, fun e => absurd e n10, fun _ => ⟨_, _, mT_f h2, fun e => absurd rfl e, fun _ => ⟨rfl, rfl⟩⟩⟩), yFr.rf⟩
    | true =>
      cases h3 : bW c 2 with
      | false => exact ⟨-7, im, im, zEv_o rfl (t_X11_then ⟨_, _, cI_t hA h1, fun e => absurd e n10, fun _ => ⟨_, _, cT_t h2, fun _ => ⟨_, _, cW_f h3, fun e => absurd rfl e, fun _ => ⟨rfl, rfl⟩⟩, fun e => absurd e n10⟩⟩), zEv_o rfl (t_X12_then ⟨_, _, mI_t hG hB h1, fun e => absurd e n10, fun _ => ⟨_, _, mT_t h2, fun _ => ⟨_, _, mW_f h3, fun e => absurd rfl e, fun _ => ⟨rfl, rfl⟩⟩, fun e => absurd e n10⟩⟩), yFr.rf⟩
      | true =>
        obtain ⟨i, hi, rfl⟩ := bI_ex hG h1
        obtain ⟨t, ht, rfl⟩ := bW_ex (by decide) h2
        obtain ⟨r, im1, gl, gk, hT, hF⟩ := c_top (d := d + 4) hG hA ht
        have hB1 := yB_fr hB hF.fr
        obtain ⟨im2, g1, f36, f67, f68, hF2⟩ := m_looksAt (d := d + 4) (tl := tl) (q := q) hG hB1 ht
        have v6 := zi_in (show i < 6 by omega) (show i < 2147483648 by omega)
        have e22 : im1 22 i = yWo V (yvR V) t i := hT.1.2.2.2.2.1 i hi
        have e23 : im1 23 i = zb (ySd V t i) := hT.1.2.2.2.2.2.1 i hi
        have e24 : im1 24 i = Int32.ofNat (yOn V t i) := hT.1.2.2.2.2.2.2.1 i hi
        have e36 : (im2 47 36 >>> (Int32.ofNat i &&& 31)) &&& (1 : Int32) = zb (ySd V t i) := by
          rw [zBt_v, f36, zBt_nat ⟨_, yMk_lt (f := ySd V t) (n := 6) _ hn⟩ ⟨i, by omega⟩, yMk_bit, decide_eq_true hi, Bool.true_and]
        refine ⟨if c = 0 then yWo V (yvR V) t i else if c = 1 then zb (ySd V t i) else Int32.ofNat (yOn V t i), im1, im2, zEv_o rfl (t_X11_then ⟨_, _, cI_t hA h1, fun e => absurd e n10, fun _ => ⟨_, _, cT_t h2, fun _ => ⟨_, _, cW_t h3, fun _ => ⟨some r, im, gl _, im1, gk, ?_⟩, fun e => absurd e n10⟩, fun e => absurd e n10⟩⟩), zEv_o rfl (t_X12_then ⟨_, _, mI_t hG hB1 h1, fun e => absurd e n10, fun _ => ⟨_, _, mT_t h2, fun _ => ⟨_, _, mW_t h3, fun _ => ⟨im2, g1, ?_⟩, fun e => absurd e n10⟩, fun e => absurd e n10⟩⟩), hF.fr.tr hF2.fr⟩
        · rw [zi_n (show i < 2147483648 by omega), e22, e23, e24, zb_0]
          refine ⟨fun c0 => ⟨fun c1 => ⟨v6, ?_, rfl⟩, fun c1 => ⟨v6, fun e => ⟨?_, rfl⟩, fun e => ⟨?_, rfl⟩⟩⟩, fun c0 => ⟨v6, ?_, rfl⟩⟩
          · rw [if_neg c0, if_neg c1]
          · rw [if_neg c0, if_pos c1, e]; rfl
          · rw [if_neg c0, if_pos c1, Bool.not_eq_false _ |>.mp e]; rfl
          · rw [if_pos c0]
        · rw [zi_n (show i < 2147483648 by omega), e36, f67 i hi, f68 i hi]
          refine ⟨fun c0 => ⟨fun c1 => ⟨v6, ?_, rfl⟩, fun c1 => ⟨?_, rfl⟩⟩, fun c0 => ⟨v6, ?_, rfl⟩⟩
          · rw [if_neg c0, if_neg c1]
          · rw [if_neg c0, if_pos c1]
          · rw [if_pos c0]
theorem zi_orN {x y : Nat} : Int32.ofNat x ||| Int32.ofNat y = Int32.ofNat (x ||| y) := by
  apply Int32.toBitVec_inj.mp
  rw [Int32.toBitVec_or]
  show BitVec.ofNat 32 x ||| BitVec.ofNat 32 y = BitVec.ofNat 32 (x ||| y)
  rw [BitVec.ofNat_or]
theorem zi_sh0 : ∀ i : Fin 12, (0 : Int32) <<< (Int32.ofNat i.1 &&& 31) = 0 := by decide +kernel
theorem yMk_s {f : Nat → Bool} {t : Nat} (ht : t < 12) : Int32.ofNat (yMk f t) ||| (zb (f t) <<< (Int32.ofNat t &&& 31)) = Int32.ofNat (yMk f (t + 1)) := by
  show _ = Int32.ofNat (yMk f t ||| _)
  cases f t with
  | false =>
    show _ ||| ((0 : Int32) <<< _) = _
    rw [zi_sh0 ⟨t, ht⟩, cond_false]
    exact zi_orN (y := 0)
  | true =>
    show _ ||| ((1 : Int32) <<< _) = _
    rw [zi_sh ⟨t, ht⟩, cond_true]
    exact zi_orN
theorem k_joined {d : Nat} {a b : Int32} {tl : List (Nat × Nat)} {q : zR} {im : zI} {V : yV} (hS : yS tl q im V) : yCall (d + 10) 78 172 [.int a, .int b] tl q im (yFr im) := by
  obtain ⟨hG, hA, hB⟩ := hS
  have hn := hG.1
  cases h1 : bI V a with
  | false => exact ⟨-5, im, im, zEv_o rfl (t_X11_joined ⟨_, _, cI_f hA h1, fun _ => ⟨rfl, rfl⟩, fun e => absurd rfl e⟩), zEv_o rfl (t_X12_joined ⟨_, _, mI_f hG hB h1, fun _ => ⟨rfl, rfl⟩, fun e => absurd rfl e⟩), yFr.rf⟩
  | true =>
    cases h2 : bI V b with
    | false => exact ⟨-5, im, im, zEv_o rfl (t_X11_joined ⟨_, _, cI_t hA h1, fun e => absurd e n10, fun _ => ⟨_, _, cI_f hA h2, fun e => absurd rfl e, fun _ => ⟨rfl, rfl⟩⟩⟩), zEv_o rfl (t_X12_joined ⟨_, _, mI_t hG hB h1, fun e => absurd e n10, fun _ => ⟨_, _, mI_f hG hB h2, fun e => absurd rfl e, fun _ => ⟨rfl, rfl⟩⟩⟩), yFr.rf⟩
    | true =>
      obtain ⟨i, hi, rfl⟩ := bI_ex hG h1
      obtain ⟨j, hj, rfl⟩ := bI_ex hG h2
      have v6 := zi_in (show i < 6 by omega) (show i < 2147483648 by omega)
      have hbt : ∀ t, zBt (Int32.ofNat (yOn V t i)) j = (yOn V t i).testBit j := fun t => zBt_nat ⟨_, ((yOn_zRt (V := V) (t := t) hn).2 i hi).2.1⟩ ⟨j, by omega⟩
      have lc : ∀ m t im1, t + m = 12 → yFa im im1 → ∃ im', zX (d + 9) zc_X11_joined 14 [(0, .ref 0), (1, .int (Int32.ofNat i)), (2, .int (Int32.ofNat j)), (3, .int (Int32.ofNat (yMk (fun t => (yOn V t i).testBit j) t))), (4, .int (Int32.ofNat t))] [] (zMm tl q im1) (fun x y => x = some (.int (Int32.ofNat (yMk (fun t => (yOn V t i).testBit j) 12))) ∧ y = zMm tl q im') ∧ yFa im im' := by
        intro m
        induction m with
        | zero =>
          intro t im1 ht hF
          have e : t = 12 := by omega
          subst e
          exact ⟨im1, t_X11_joined_14 ⟨fun _ => ⟨rfl, rfl⟩, fun h => absurd (by decide) h⟩, hF⟩
        | succ m ih =>
          intro t im1 ht hF
          obtain ⟨r, im2, gl, gk, hT, hF2⟩ := c_top (d := d + 4) (t := t) hG (yA_fr hA hF.fr) (by omega)
          obtain ⟨im', h1, h2⟩ := ih (t + 1) im2 (by omega) (hF.tr hF2)
          have e24 : im2 24 i = Int32.ofNat (yOn V t i) := hT.1.2.2.2.2.2.2.1 i hi
          have hs := yMk_s (f := fun t => (yOn V t i).testBit j) (t := t) (by omega)
          refine ⟨im', t_X11_joined_14 ⟨fun h => absurd ((zi_le (a := 12) (by omega) (by omega)).mp h) (by omega), fun _ => ⟨some r, _, gl _, im2, gk, v6, ?_⟩⟩, h2⟩
          rw [zi_n (show i < 2147483648 by omega), e24, zBt_1, hbt, zi_s]
          refine ⟨fun e => ?_, fun e => ?_⟩
          · rw [← hs, show (yOn V t i).testBit j = false from Bool.eq_false_iff.mpr e] at h1
            rw [show (zb false) <<< (Int32.ofNat t &&& 31) = 0 from zi_sh0 ⟨t, by omega⟩] at h1
            rw [Int32.or_zero] at h1
            exact h1
          · rw [← hs, e] at h1
            exact h1
      have lm : ∀ m t im0 im1, t + m = 12 → yB im0 V → yFb im0 im1 → ∃ im', zX (d + 9) zc_X12_joined 14 [(0, .ref 47), (1, .int (Int32.ofNat i)), (2, .int (Int32.ofNat j)), (3, .int (Int32.ofNat (yMk (fun t => (yOn V t i).testBit j) t))), (4, .int (Int32.ofNat t))] [] (zMm tl q im1) (fun x y => x = some (.int (Int32.ofNat (yMk (fun t => (yOn V t i).testBit j) 12))) ∧ y = zMm tl q im') ∧ yFb im0 im' := by
        intro m
        induction m with
        | zero =>
          intro t im0 im1 ht hB0 hF
          have e : t = 12 := by omega
          subst e
          exact ⟨im1, t_X12_joined_14 ⟨fun _ => ⟨rfl, rfl⟩, fun h => absurd (by decide) h⟩, hF⟩
        | succ m ih =>
          intro t im0 im1 ht hB0 hF
          obtain ⟨im2, g1, f36, f67, f68, hF2⟩ := m_looksAt (d := d + 4) (t := t) (tl := tl) (q := q) hG (yB_fr hB0 hF.fr) (by omega)
          obtain ⟨im', h1, h2⟩ := ih (t + 1) im0 im2 (by omega) hB0 (hF.tr hF2)
          have hs := yMk_s (f := fun t => (yOn V t i).testBit j) (t := t) (by omega)
          refine ⟨im', t_X12_joined_14 ⟨fun h => absurd ((zi_le (a := 12) (by omega) (by omega)).mp h) (by omega), fun _ => ⟨im2, g1, v6, ?_⟩⟩, h2⟩
          rw [zi_n (show i < 2147483648 by omega), f67 i hi, zBt_v, hbt, zi_s, hs]
          exact h1
      obtain ⟨im1, c1, c2⟩ := lc 12 0 im (by omega) yFa.rf
      have hB1 := yB_fr hB c2.fr
      obtain ⟨im2, d1, d2⟩ := lm 12 0 im1 im1 (by omega) hB1 yFb.rf
      exact ⟨_, im1, im2, zEv_o rfl (t_X11_joined ⟨_, _, cI_t hA h1, fun e => absurd e n10, fun _ => ⟨_, _, cI_t hA h2, fun _ => c1, fun e => absurd e n10⟩⟩), zEv_o rfl (t_X12_joined ⟨_, _, mI_t hG hB1 h1, fun e => absurd e n10, fun _ => ⟨_, _, mI_t hG hB1 h2, fun _ => d1, fun e => absurd e n10⟩⟩), c2.fr.tr d2.fr⟩
/-- what one gains -/
def yGn (V : yV) (t p : Nat) : Int32 := zGa (yvN V) (yvM V) (yWo V (yvR V) t) (ySd V t) (yRo V t) (ySp V t) p (ySp V t p)
def yYe (V : yV) (p : Nat) (c : Int32) (t : Nat) : Int32 := if c = 0 then yGn V t p else if c = 1 then yCo V p t (yvP V p t) else if yGn V t p ≤ 0 then 0 else 1
theorem k_year {d : Nat} {a c : Int32} {tl : List (Nat × Nat)} {q : zR} {im : zI} {V : yV} (hS : yS tl q im V) : yCall (d + 10) 82 182 [.int a, .int c] tl q im (yFr im) := by
  obtain ⟨hG, hA, hB⟩ := hS
  have hm := hG.2.1
  cases h1 : bO V a with
  | false => exact ⟨-5, im, im, zEv_o rfl (t_X11_year ⟨_, _, cO_f hA h1, fun e => absurd rfl e, fun _ => ⟨rfl, rfl⟩⟩), zEv_o rfl (t_X12_year ⟨_, _, mO_f hG hB h1, fun e => absurd rfl e, fun _ => ⟨rfl, rfl⟩⟩), yFr.rf⟩
  | true =>
    cases h2 : bW c 2 with
    | false => exact ⟨-7, im, im, zEv_o rfl (t_X11_year ⟨_, _, cO_t hA h1, fun _ => ⟨_, _, cW_f h2, fun e => absurd rfl e, fun _ => ⟨rfl, rfl⟩⟩, fun e => absurd e n10⟩), zEv_o rfl (t_X12_year ⟨_, _, mO_t hG hB h1, fun _ => ⟨_, _, mW_f h2, fun e => absurd rfl e, fun _ => ⟨rfl, rfl⟩⟩, fun e => absurd e n10⟩), yFr.rf⟩
    | true =>
      obtain ⟨p, hp, rfl⟩ := bO_ex hG h1
      have v4 := zi_in (show p < 4 by omega) (show p < 2147483648 by omega)
      have lc : ∀ m t im1, t + m = 12 → yFa im im1 → ∃ im', zX (d + 9) zc_X11_year 16 [(0, .ref 0), (1, .int (Int32.ofNat p)), (2, .int c), (3, .int (zSum t (yYe V p c))), (4, .int (Int32.ofNat t))] [] (zMm tl q im1) (fun x y => x = some (.int (zSum 12 (yYe V p c))) ∧ y = zMm tl q im') ∧ yFa im im' := by
        intro m
        induction m with
        | zero =>
          intro t im1 ht hF
          have e : t = 12 := by omega
          subst e
          exact ⟨im1, t_X11_year_16 ⟨fun _ => ⟨rfl, rfl⟩, fun h => absurd (by decide) h⟩, hF⟩
        | succ m ih =>
          intro t im1 ht hF
          obtain ⟨r, im2, gl, gk, hT, hF2⟩ := c_top (d := d + 4) (t := t) hG (yA_fr hA hF.fr) (by omega)
          have hA2 := yA_fr hA (hF.tr hF2).fr
          have hg : zEv (d + 9) 50 [.ref 21, .int (Int32.ofNat p)] (zMm tl q im2) (some (.int (yGn V t p))) (zMm tl q im2) := c_gainOf hT hp
          have hs : zSum (t + 1) (yYe V p c) = zSum t (yYe V p c) + yYe V p c t := rfl
          by_cases c1 : c = 1
          · obtain ⟨im3, g3, hF3⟩ := c_costOf (d := d + 5) (p := p) (t := t) (x := yvP V p t) hG hA2 hp (by omega)
            obtain ⟨im', h1, h2⟩ := ih (t + 1) im3 (by omega) ((hF.tr hF2).tr (yFa.of2 33 34 (by decide) (by decide) hF3))
            have hy : yYe V p c t = yCo V p t (yvP V p t) := by unfold yYe; rw [if_neg (by rw [c1]; decide), if_pos c1]
            rw [hs, hy] at h1
            refine ⟨im', t_X11_year_16 ⟨fun h => absurd ((zi_le (a := 12) (by omega) (by omega)).mp h) (by omega), fun _ => ⟨some r, _, gl _, im2, gk, _, _, hg, fun _ => ⟨fun e => absurd c1 e, fun _ => ⟨v4, ?_⟩⟩, fun e => absurd (e.symm.trans c1) (by decide)⟩⟩, h2⟩
            rw [zi_n (show p < 2147483648 by omega), zRf_row (by omega)]
            show ((zB ++ tl)[4 + p]?).elim _ _
            rw [zB_row (by omega), zi_n (show t < 2147483648 by omega), hA2.2.2.2.2.2.1 p (by omega) t (by omega), zi_s]
            exact ⟨zi_in (show t < 12 by omega) (by omega), _, _, g3, h1⟩
          · obtain ⟨im', h1, h2⟩ := ih (t + 1) im2 (by omega) (hF.tr hF2)
            refine ⟨im', t_X11_year_16 ⟨fun h => absurd ((zi_le (a := 12) (by omega) (by omega)).mp h) (by omega), fun _ => ⟨some r, _, gl _, im2, gk, _, _, hg, fun c0 => ⟨fun _ => ⟨fun e => ?_, fun e => ?_⟩, fun e => absurd e c1⟩, fun c0 => ?_⟩⟩, h2⟩
            · have hy : yYe V p c t = 0 := by unfold yYe; rw [if_neg c0, if_neg c1, if_pos e]
              rw [hs, hy, Int32.add_zero] at h1
              rw [zi_s]
              exact h1
            · have hy : yYe V p c t = 1 := by unfold yYe; rw [if_neg c0, if_neg c1, if_neg e]
              rw [hs, hy] at h1
              rw [zi_s]
              exact h1
            · have hy : yYe V p c t = yGn V t p := by unfold yYe; rw [if_pos c0]
              rw [hs, hy] at h1
              rw [zi_s]
              exact h1
      have lm : ∀ m t im0 im1, t + m = 12 → yB im0 V → yFb im0 im1 → ∃ im', zX (d + 9) zc_X12_year 17 [(0, .ref 47), (1, .int (Int32.ofNat p)), (2, .int c), (3, .int (zSum t (yYe V p c))), (4, .int (Int32.ofNat t))] [] (zMm tl q im1) (fun x y => x = some (.int (zSum 12 (yYe V p c))) ∧ y = zMm tl q im') ∧ yFb im0 im' := by
        intro m
        induction m with
        | zero =>
          intro t im0 im1 ht hB0 hF
          have e : t = 12 := by omega
          subst e
          exact ⟨im1, t_X12_year_17 ⟨fun _ => ⟨rfl, rfl⟩, fun h => absurd (by decide) h⟩, hF⟩
        | succ m ih =>
          intro t im0 im1 ht hB0 hF
          obtain ⟨im2, g1, hM, hF2⟩ := m_comesTo (d := d + 3) (t := t) (tl := tl) (q := q) hG (yB_fr hB0 hF.fr) (by omega)
          have hB2 := yB_fr hB0 (hF.tr hF2).fr
          have hg : zEv (d + 9) 176 [.ref 47, .int (Int32.ofNat p)] (zMm tl q im2) (some (.int (yGn V t p))) (zMm tl q im2) := m_gainOf hM.1 hp
          have hs : zSum (t + 1) (yYe V p c) = zSum t (yYe V p c) + yYe V p c t := rfl
          by_cases c1 : c = 1
          · obtain ⟨im3, g3, hF3⟩ := m_costTo (d := d + 5) (p := p) (t := t) (x := yvP V p t) (tl := tl) (q := q) hG hB2 (hG.2.2.2.2.2.1 p hp t (by omega)) hp (by omega) (hM.2.2 p hp)
            obtain ⟨im', h1, h2⟩ := ih (t + 1) im0 im3 (by omega) hB0 ((hF.tr hF2).tr (yFb.k56 hF3))
            have hy : yYe V p c t = yCo V p t (yvP V p t) := by unfold yYe; rw [if_neg (by rw [c1]; decide), if_pos c1]
            have h69 : im2 69 p = yvP V p t := by rw [hM.1.2.2.2.2.2.2.2.1 p hp, ySp_p hp]
            rw [hs, hy] at h1
            refine ⟨im', t_X12_year_17 ⟨fun h => absurd ((zi_le (a := 12) (by omega) (by omega)).mp h) (by omega), fun _ => ⟨im2, g1, _, _, hg, fun _ => ⟨fun e => absurd c1 e, fun _ => ⟨v4, ?_⟩⟩, fun e => absurd (e.symm.trans c1) (by decide)⟩⟩, h2⟩
            rw [zi_n (show p < 2147483648 by omega), h69, zi_s]
            exact ⟨_, _, g3, h1⟩
          · obtain ⟨im', h1, h2⟩ := ih (t + 1) im0 im2 (by omega) hB0 (hF.tr hF2)
            refine ⟨im', t_X12_year_17 ⟨fun h => absurd ((zi_le (a := 12) (by omega) (by omega)).mp h) (by omega), fun _ => ⟨im2, g1, _, _, hg, fun c0 => ⟨fun _ => ⟨fun e => ?_, fun e => ?_⟩, fun e => absurd e c1⟩, fun c0 => ?_⟩⟩, h2⟩
            · have hy : yYe V p c t = 0 := by unfold yYe; rw [if_neg c0, if_neg c1, if_pos e]
              rw [hs, hy] at h1
              rw [zi_s]
              exact h1
            · have hy : yYe V p c t = 1 := by unfold yYe; rw [if_neg c0, if_neg c1, if_neg e]
              rw [hs, hy] at h1
              rw [zi_s]
              exact h1
            · have hy : yYe V p c t = yGn V t p := by unfold yYe; rw [if_pos c0]
              rw [hs, hy] at h1
              rw [zi_s]
              exact h1
      obtain ⟨im1, c1, c2⟩ := lc 12 0 im (by omega) yFa.rf
      have hB1 := yB_fr hB c2.fr
      obtain ⟨im2, d1, d2⟩ := lm 12 0 im1 im1 (by omega) hB1 yFb.rf
      exact ⟨_, im1, im2, zEv_o rfl (t_X11_year ⟨_, _, cO_t hA h1, fun _ => ⟨_, _, cW_t h2, fun _ => c1, fun e => absurd e n10⟩, fun e => absurd e n10⟩), zEv_o rfl (t_X12_year ⟨_, _, mO_t hG hB1 h1, fun _ => ⟨_, _, mW_t h2, fun _ => d1, fun e => absurd e n10⟩, fun e => absurd e n10⟩), c2.fr.tr d2.fr⟩
theorem k_best {d : Nat} {a b c : Int32} {tl : List (Nat × Nat)} {q : zR} {im : zI} {V : yV} (hS : yS tl q im V) : yCall (d + 10) 83 184 [.int a, .int b, .int c] tl q im (yFr im) := by
  obtain ⟨hG, hA, hB⟩ := hS
  cases h1 : bO V a with
  | false => exact ⟨-5, im, im, zEv_o rfl (t_X11_best ⟨_, _, cO_f hA h1, fun _ => ⟨rfl, rfl⟩, fun e => absurd rfl e⟩), zEv_o rfl (t_X12_best ⟨_, _, mO_f hG hB h1, fun _ => ⟨rfl, rfl⟩, fun e => absurd rfl e⟩), yFr.rf⟩
  | true =>
    cases h2 : bW b 11 with
    | false => exact ⟨-5, im, im, zEv_o rfl (t_X11_best ⟨_, _, cO_t hA h1, fun e => absurd e n10, fun _ => ⟨_, _, cT_f h2, fun e => absurd rfl e, fun _ => ⟨rfl, rfl⟩⟩⟩), zEv_o rfl (t_X12_best ⟨_, _, mO_t hG hB h1, fun e => absurd e n10, fun _ => ⟨_, _, mT_f h2, fun e => absurd rfl e, fun _ => ⟨rfl, rfl⟩⟩⟩), yFr.rf⟩
    | true =>
      cases h3 : bW c 1 with
      | false => exact ⟨-7, im, im, zEv_o rfl (t_X11_best ⟨_, _, cO_t hA h1, fun e => absurd e n10, fun _ => ⟨_, _, cT_t h2, fun _ => ⟨_, _, cW_f h3, fun e => absurd rfl e, fun _ => ⟨rfl, rfl⟩⟩, fun e => absurd e n10⟩⟩), zEv_o rfl (t_X12_best ⟨_, _, mO_t hG hB h1, fun e => absurd e n10, fun _ => ⟨_, _, mT_t h2, fun _ => ⟨_, _, mW_f h3, fun e => absurd rfl e, fun _ => ⟨rfl, rfl⟩⟩, fun e => absurd e n10⟩⟩), yFr.rf⟩
      | true =>
        obtain ⟨p, hp, rfl⟩ := bO_ex hG h1
        obtain ⟨t, ht, rfl⟩ := bW_ex (by decide) h2
        obtain ⟨im1, gk, hT, hf, hF⟩ := c_lookWithCosts (d := d + 3) hG hA ht
        have hB1 := yB_fr hB hF.fr
        obtain ⟨im2, g1, hM, hF2⟩ := m_comesTo (d := d + 3) (tl := tl) (q := q) hG hB1 ht
        obtain ⟨im3, g3, hF3⟩ := m_bestPlace (d := d + 3) (p := p) (tl := tl) (q := q) hG (yB_fr hB1 hF2.fr) (yTm_s hM) hp ht
        obtain ⟨im4, g4, hF4⟩ := m_leftAt (d := d + 4) (p := p) (x := yBe V t (ySp V t) p) (tl := tl) (q := q) hG (yB_fr hB1 (hF2.tr (yFb.k56 hF3)).fr) (yMs_k (yTm_s hM) hF3) yBe_pl hp ht
        by_cases c0 : c = 0
        · exact ⟨yBe V t (ySp V t) p, im1, im3, zEv_o rfl (t_X11_best ⟨_, _, cO_t hA h1, fun e => absurd e n10, fun _ => ⟨_, _, cT_t h2, fun _ => ⟨_, _, cW_t h3, fun _ => ⟨im1, gk, _, _, c_bestPlaceOf hT hf hp, fun e => absurd c0 e, fun _ => ⟨rfl, rfl⟩⟩, fun e => absurd e n10⟩, fun e => absurd e n10⟩⟩), zEv_o rfl (t_X12_best ⟨_, _, mO_t hG hB1 h1, fun e => absurd e n10, fun _ => ⟨_, _, mT_t h2, fun _ => ⟨_, _, mW_t h3, fun _ => ⟨im2, g1, _, _, g3, fun e => absurd c0 e, fun _ => ⟨rfl, rfl⟩⟩, fun e => absurd e n10⟩, fun e => absurd e n10⟩⟩), hF.fr.tr (hF2.tr (yFb.k56 hF3)).fr⟩
        · exact ⟨yL V t (ySp V t) p (yBe V t (ySp V t) p), im1, im4, zEv_o rfl (t_X11_best ⟨_, _, cO_t hA h1, fun e => absurd e n10, fun _ => ⟨_, _, cT_t h2, fun _ => ⟨_, _, cW_t h3, fun _ => ⟨im1, gk, _, _, c_bestPlaceOf hT hf hp, fun _ => ⟨_, _, c_leftAt hT hf hp, rfl, rfl⟩, fun e => absurd e c0⟩, fun e => absurd e n10⟩, fun e => absurd e n10⟩⟩), zEv_o rfl (t_X12_best ⟨_, _, mO_t hG hB1 h1, fun e => absurd e n10, fun _ => ⟨_, _, mT_t h2, fun _ => ⟨_, _, mW_t h3, fun _ => ⟨im2, g1, _, _, g3, fun _ => ⟨_, _, g4, rfl, rfl⟩, fun e => absurd e c0⟩, fun e => absurd e n10⟩, fun e => absurd e n10⟩⟩), hF.fr.tr (hF2.tr ((yFb.k56 hF3).tr (yFb.k56 hF4))).fr⟩
theorem k_rest {d : Nat} {b : Int32} {tl : List (Nat × Nat)} {q : zR} {im : zI} {V : yV} (hS : yS tl q im V) : yCall (d + 10) 85 187 [.int b] tl q im (yFr im) := by
  obtain ⟨hG, hA, hB⟩ := hS
  cases h2 : bW b 11 with
  | false => exact ⟨-5, im, im, zEv_o rfl (t_X11_rest ⟨_, _, cT_f h2, fun e => absurd rfl e, fun _ => ⟨rfl, rfl⟩⟩), zEv_o rfl (t_X12_rest ⟨_, _, mT_f h2, fun e => absurd rfl e, fun _ => ⟨rfl, rfl⟩⟩), yFr.rf⟩
  | true =>
    obtain ⟨t, ht, rfl⟩ := bW_ex (by decide) h2
    obtain ⟨im1, gk, hT, hf, hF⟩ := c_lookWithCosts (d := d + 3) hG hA ht
    have hB1 := yB_fr hB hF.fr
    obtain ⟨im2, g1, hM, hF2⟩ := m_comesTo (d := d + 3) (tl := tl) (q := q) hG hB1 ht
    obtain ⟨im3, g3, hF3⟩ := m_isRest (d := d + 2) (tl := tl) (q := q) hG (yB_fr hB1 hF2.fr) (yTm_s hM) ht
    refine ⟨zb (yRs V t (ySp V t)), im1, im3, zEv_o rfl (t_X11_rest ⟨_, _, cT_t h2, fun _ => ⟨im1, gk, _, _, c_isAtRest hT hf, ?_⟩, fun e => absurd e n10⟩), zEv_o rfl (t_X12_rest ⟨_, _, mT_t h2, fun _ => ⟨im2, g1, _, _, g3, ?_⟩, fun e => absurd e n10⟩), hF.fr.tr (hF2.tr (yFb.k56 hF3)).fr⟩
    · show (zb (yRs V t (ySp V t)) = 0 → _) ∧ (¬ zb (yRs V t (ySp V t)) = 0 → _)
      cases yRs V t (ySp V t) with
      | false => exact ⟨fun _ => ⟨rfl, rfl⟩, fun e => absurd rfl e⟩
      | true => exact ⟨fun e => absurd e n10, fun _ => ⟨rfl, rfl⟩⟩
    · cases yRs V t (ySp V t) with
      | false => exact ⟨fun _ => ⟨rfl, rfl⟩, fun e => absurd rfl e⟩
      | true => exact ⟨fun e => absurd e n10, fun _ => ⟨rfl, rfl⟩⟩
