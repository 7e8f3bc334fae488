/-! CALLS: laws -/
theorem up2_2 {im : zI} {c j : Nat} {a b : Int32} : up2 (up2 im c j a) c j b = up2 im c j b := by
  funext x y
  unfold up2
  by_cases e : x = c
  · by_cases e2 : y = j
    · simp [e, e2]
    · simp [e, e2]
  · simp [e]
theorem yOr_force {V : yV} {k t : Nat} : ∀ i, yOr (yvForce V k) t i = yOr V t i
  | 0 => rfl
  | i + 1 => by
    show (bif yJb V t i then (yUn (yOr (yvForce V k) t i).1 i (yJn V t i).toNatClampNeg, yRu (yOr (yvForce V k) t i).2 i (yJn V t i).toNatClampNeg) else yOr (yvForce V k) t i) = (bif yJb V t i then (yUn (yOr V t i).1 i (yJn V t i).toNatClampNeg, yRu (yOr V t i).2 i (yJn V t i).toNatClampNeg) else yOr V t i)
    rw [yOr_force i]
def yGk (V : yV) (k t p : Nat) : Int32 := zGa (yvN V) (yvM V) (yWo V k t) (ySd V t) (yRo V t) (ySp V t) p (ySp V t p)
theorem k_laws {d : Nat} {a b c : Int32} {tl : List (Nat × Nat)} {q : zR} {im : zI} {V : yV} (hS : yS tl q im V) : yCall (d + 10) 98 211 [.int a, .int b, .int c] tl q im (yFr im) := by
  obtain ⟨hG, hA, hB⟩ := hS
  have hC := hG.2.2.2.1
  cases h1 : bO V a with
  | false => exact ⟨-5, im, im, zEv_o rfl (t_X11_laws ⟨_, _, cO_f hA h1, fun _ => ⟨rfl, rfl⟩, fun e => absurd rfl e⟩), zEv_o rfl (t_X12_laws ⟨_, _, mO_f hG hB h1, fun _ => ⟨rfl, rfl⟩, fun e => absurd rfl e⟩), yFr.rf⟩
  | true =>
    cases h2 : bW b 11 with
    | false => exact ⟨-5, im, im, zEv_o rfl (t_X11_laws ⟨_, _, cO_t hA h1, fun e => absurd e n10, fun _ => ⟨_, _, cT_f h2, fun e => absurd rfl e, fun _ => ⟨rfl, rfl⟩⟩⟩), zEv_o rfl (t_X12_laws ⟨_, _, mO_t hG hB h1, fun e => absurd e n10, fun _ => ⟨_, _, mT_f h2, fun e => absurd rfl e, fun _ => ⟨rfl, rfl⟩⟩⟩), yFr.rf⟩
    | true =>
      cases h3 : bW c 99999 with
      | false => exact ⟨-7, im, im, zEv_o rfl (t_X11_laws ⟨_, _, cO_t hA h1, fun e => absurd e n10, fun _ => ⟨_, _, cT_t h2, fun _ => ⟨_, _, cW_f h3, fun e => absurd rfl e, fun _ => ⟨rfl, rfl⟩⟩, fun e => absurd e n10⟩⟩), zEv_o rfl (t_X12_laws ⟨_, _, mO_t hG hB h1, fun e => absurd e n10, fun _ => ⟨_, _, mT_t h2, fun _ => ⟨_, _, mW_f h3, fun e => absurd rfl e, fun _ => ⟨rfl, rfl⟩⟩, fun e => absurd e n10⟩⟩), yFr.rf⟩
      | true =>
        obtain ⟨p, hp, rfl⟩ := bO_ex hG h1
        obtain ⟨t, ht, rfl⟩ := bW_ex (by decide) h2
        have lc : ∀ m k im1, k + m = yvC V → yFa im im1 → ∃ im', zX (d + 9) zc_X11_laws 19 [(0, .ref 0), (1, .int (Int32.ofNat p)), (2, .int (Int32.ofNat t)), (3, .int c), (4, .int (Int32.ofNat (yMk (fun k => decide (yGk V k t p = c)) k))), (5, .int (Int32.ofNat k))] [] (zMm tl q im1) (fun x y => x = some (.int (Int32.ofNat (yMk (fun k => decide (yGk V k t p = c)) (yvC V)))) ∧ y = zMm tl q im') ∧ yFa im im' := by
          intro m
          induction m with
          | zero =>
            intro k im1 hk hF
            have e : k = yvC V := by omega
            subst e
            refine ⟨im1, t_X11_laws_19 ?_, hF⟩
            rw [(yA_fr hA hF.fr).2.2.2.1]
            exact ⟨fun _ => ⟨rfl, rfl⟩, fun h => absurd ((zi_le (by omega) (by omega)).mpr (Nat.le_refl _)) h⟩
          | succ m ih =>
            intro k im1 hk hF
            have hA1 := yA_fr hA hF.fr
            obtain ⟨r, hr, _⟩ := yA_ref hA1 (show k < yvC V by omega)
            obtain ⟨im2, gk, hT, hF2⟩ := c_lookAt (d := d + 4) hG hA1 ht (show k < yvC V by omega) hr
            obtain ⟨im', h1, h2⟩ := ih (k + 1) im2 (by omega) (hF.tr hF2)
            have hs := yMk_s (f := fun k => decide (yGk V k t p = c)) (t := k) (by omega)
            have hg : zEv (d + 9) 50 [.ref 21, .int (Int32.ofNat p)] (zMm tl q im2) (some (.int (yGk V k t p))) (zMm tl q im2) := c_gainOf hT hp
            refine ⟨im', t_X11_laws_19 ?_, h2⟩
            rw [hA1.2.2.2.1, zi_s]
            refine ⟨fun h => absurd ((zi_le (by omega) (by omega)).mp h) (by omega), fun _ => ⟨some r, _, c_textAt (d := d + 8) hG hA1 (by omega) hr, im2, gk, _, _, hg, fun e => ?_, fun e => ?_⟩⟩
            · rw [← hs, show decide (yGk V k t p = c) = false from decide_eq_false e, show (zb false) <<< (Int32.ofNat k &&& 31) = 0 from zi_sh0 ⟨k, by omega⟩, Int32.or_zero] at h1
              exact h1
            · rw [← hs, show decide (yGk V k t p = c) = true from decide_eq_true e] at h1
              exact h1
        have lm : ∀ m k im0 im1, k + m = yvC V → yB im0 V → yFb im0 (up2 im1 47 13 (Int32.ofNat (yvR V))) → ∃ im', zX (d + 9) zc_X12_laws 23 [(0, .ref 47), (1, .int (Int32.ofNat p)), (2, .int (Int32.ofNat t)), (3, .int c), (4, .int (Int32.ofNat (yvR V))), (5, .int (Int32.ofNat (yMk (fun k => decide (yGk V k t p = c)) k))), (6, .int (Int32.ofNat k))] [] (zMm tl q im1) (fun x y => x = some (.int (Int32.ofNat (yMk (fun k => decide (yGk V k t p = c)) (yvC V)))) ∧ y = zMm tl q im') ∧ yFb im0 im' := by
          intro m
          induction m with
          | zero =>
            intro k im0 im1 hk hB0 hF
            have e : k = yvC V := by omega
            subst e
            have h12 : im1 47 12 = Int32.ofNat (yvC V) := (yB_fr hB0 hF.fr).2.2.2.1
            refine ⟨up2 im1 47 13 (Int32.ofNat (yvR V)), t_X12_laws_23 ?_, hF⟩
            rw [h12]
            exact ⟨fun _ => ⟨rfl, rfl⟩, fun h => absurd ((zi_le (by omega) (by omega)).mpr (Nat.le_refl _)) h⟩
          | succ m ih =>
            intro k im0 im1 hk hB0 hF
            have h12 : im1 47 12 = Int32.ofNat (yvC V) := (yB_fr hB0 hF.fr).2.2.2.1
            have hBk : yB (up2 im1 47 13 (Int32.ofNat k)) (yvForce V k) := by
              have := yB_force (k := k) (yB_fr hB0 hF.fr)
              rw [up2_2] at this
              exact this
            have hGk : yG (yvForce V k) := ⟨hG.1, hG.2.1, by show k < yvC V; omega, hG.2.2.2.1, hG.2.2.2.2⟩
            obtain ⟨im2, g1, hM, hF2⟩ := m_comesTo (d := d + 3) (tl := tl) (q := q) hGk hBk ht
            have hF3 : yFb im0 (up2 im2 47 13 (Int32.ofNat (yvR V))) := fun x j hx => by
              by_cases e : x = 47 ∧ j = 13
              · rw [e.1, e.2, up_eq, ← hF 47 13 (by decide), up_eq]
              · have e1 : ∀ (f : zI) (v : Int32), up2 f 47 13 v x j = f x j := fun f v => by
                  by_cases e2 : x = 47
                  · rw [e2]; exact up_j (fun h => e ⟨e2, h⟩)
                  · exact up_k e2
                have e3 := hF2 x j hx
                have e4 := hF x j hx
                rw [e1] at e3 e4 ⊢
                rw [e3, e4]
            obtain ⟨im', h1, h2⟩ := ih (k + 1) im0 im2 (by omega) hB0 hF3
            have hs := yMk_s (f := fun k => decide (yGk V k t p = c)) (t := k) (by omega)
            have hM1 := hM.1
            rw [show yRo (yvForce V k) t = yRo V t from congrArg Prod.snd (yOr_force (yvN V)), show yOn (yvForce V k) t = yOn V t from congrArg Prod.fst (yOr_force (yvN V))] at hM1
            have hg : zEv (d + 9) 176 [.ref 47, .int (Int32.ofNat p)] (zMm tl q im2) (some (.int (yGk V k t p))) (zMm tl q im2) := m_gainOf (on := yOn V t) hM1 hp
            refine ⟨im', t_X12_laws_23 ?_, h2⟩
            rw [h12, zi_s]
            refine ⟨fun h => absurd ((zi_le (by omega) (by omega)).mp h) (by omega), fun _ => ⟨im2, g1, _, _, hg, fun e => ?_, fun e => ?_⟩⟩
            · rw [← hs, show decide (yGk V k t p = c) = false from decide_eq_false e, show (zb false) <<< (Int32.ofNat k &&& 31) = 0 from zi_sh0 ⟨k, by omega⟩] at h1
              exact h1
            · rw [← hs, show decide (yGk V k t p = c) = true from decide_eq_true e] at h1
              exact h1
        obtain ⟨im1, c1, c2⟩ := lc (yvC V) 0 im (by omega) yFa.rf
        have hB1 := yB_fr hB c2.fr
        have e13 : up2 im1 47 13 (Int32.ofNat (yvR V)) = im1 := by
          funext x j
          by_cases e : x = 47
          · by_cases e2 : j = 13
            · rw [e, e2, up_eq, hB1.2.2.1]
            · rw [e]; exact up_j e2
          · exact up_k e
        obtain ⟨im2, d1, d2⟩ := lm (yvC V) 0 im1 im1 (by omega) hB1 (by rw [e13]; exact yFb.rf)
        refine ⟨_, im1, im2, zEv_o rfl (t_X11_laws ⟨_, _, cO_t hA h1, fun e => absurd e n10, fun _ => ⟨_, _, cT_t h2, fun _ => ⟨_, _, cW_t h3, fun _ => c1, fun e => absurd e n10⟩, fun e => absurd e n10⟩⟩), zEv_o rfl (t_X12_laws ⟨_, _, mO_t hG hB1 h1, fun e => absurd e n10, fun _ => ⟨_, _, mT_t h2, fun _ => ⟨_, _, mW_t h3, fun _ => ?_, fun e => absurd e n10⟩, fun e => absurd e n10⟩⟩), c2.fr.tr d2.fr⟩
        rw [hB1.2.2.1]
        exact d1
/-! STORMS -/
theorem zl_rem {a b : Int64} (ha : 0 ≤ a.toInt) (hb : 0 < b.toInt) : (a - a / b * b).toInt = a.toInt % b.toInt := by
  have hne : b ≠ -1 := fun h => by
    rw [h] at hb
    exact absurd hb (by decide)
  have hlt : a.toInt < 2 ^ 63 := Int64.toInt_lt a
  have hlb : b.toInt < 2 ^ 63 := Int64.toInt_lt b
  have hd : (a / b).toInt = a.toInt / b.toInt := by rw [Int64.toInt_div_of_ne_right a b hne, Int.tdiv_eq_ediv_of_nonneg ha]
  have h0 : 0 ≤ a.toInt / b.toInt * b.toInt := Int.mul_nonneg (Int.ediv_nonneg ha (by omega)) (by omega)
  have h1 : a.toInt / b.toInt * b.toInt ≤ a.toInt := Int.ediv_mul_le _ (by omega)
  have hm : (a / b * b).toInt = a.toInt / b.toInt * b.toInt := by rw [Int64.toInt_mul, hd, Int.bmod_eq_of_le (by omega) (by omega)]
  have he : a.toInt - a.toInt / b.toInt * b.toInt = a.toInt % b.toInt := by rw [Int.emod_def, Int.mul_comm]
  have r0 := Int.emod_nonneg a.toInt (show b.toInt ≠ 0 by omega)
  have r1 := Int.emod_lt_of_pos a.toInt hb
  rw [Int64.toInt_sub, hm, he, Int.bmod_eq_of_le (by omega) (by omega)]
/-- the lots -/
def yLt (seed : Int32) : Nat → Int64
  | 0 => seed.toInt64 + zLc 1 0
  | p + 1 => (yLt seed p * zLc 48271 0) - (yLt seed p * zLc 48271 0) / zLc 2147483647 0 * zLc 2147483647 0
def yLh (seed : Int32) (p : Nat) : Int64 := yLt seed (p + 1) - yLt seed (p + 1) / zLc 100 0 * zLc 100 0
theorem zLc_c : (zLc 48271 0).toInt = 48271 ∧ (zLc 2147483647 0).toInt = 2147483647 ∧ (zLc 100 0).toInt = 100 ∧ (zLc 1 0).toInt = 1 ∧ (zLc 0 0) = 0 := by decide +kernel
theorem yLt_ok {k : Nat} (hk : k < 1000000) : ∀ p, 0 ≤ (yLt (Int32.ofNat k) p).toInt ∧ (yLt (Int32.ofNat k) p).toInt < 2147483647
  | 0 => by
    show 0 ≤ ((Int32.ofNat k).toInt64 + zLc 1 0).toInt ∧ ((Int32.ofNat k).toInt64 + zLc 1 0).toInt < 2147483647
    rw [Int64.toInt_add, Int32.toInt_toInt64, Int32.toInt_ofNat_of_lt (by omega), zLc_c.2.2.2.1, Int.bmod_eq_of_le (by omega) (by omega)]
    omega
  | p + 1 => by
    obtain ⟨h1, h2⟩ := yLt_ok hk p
    have hm : (yLt (Int32.ofNat k) p * zLc 48271 0).toInt = (yLt (Int32.ofNat k) p).toInt * 48271 := by rw [Int64.toInt_mul, zLc_c.1, Int.bmod_eq_of_le (by omega) (by omega)]
    have hr := zl_rem (a := yLt (Int32.ofNat k) p * zLc 48271 0) (b := zLc 2147483647 0) (by rw [hm]; omega) (by rw [zLc_c.2.1]; decide)
    show 0 ≤ (_ : Int64).toInt ∧ (_ : Int64).toInt < 2147483647
    rw [show yLt (Int32.ofNat k) (p + 1) = (yLt (Int32.ofNat k) p * zLc 48271 0) - (yLt (Int32.ofNat k) p * zLc 48271 0) / zLc 2147483647 0 * zLc 2147483647 0 from rfl, hr, zLc_c.2.1]
    omega
theorem yLh_ge {k p : Nat} (hk : k < 1000000) : 0 ≤ (yLh (Int32.ofNat k) p).toInt := by
  unfold yLh
  have h1 := (yLt_ok hk (p + 1)).1
  rw [zl_rem h1 (by rw [zLc_c.2.2.1]; decide), zLc_c.2.2.1]
  omega
/-- whether a storm keeps one -/
def yKp (V : yV) (t : Nat) (seed : Int32) (p : Nat) : Bool := !decide (0 ≤ lg_cmp (yLh seed p) (yStm V p t).toInt64)
theorem yKp_sh {V : yV} {t k p : Nat} (hk : k < 1000000) (h : yvP V p t = -1) : yKp V t (Int32.ofNat k) p = false := by
  unfold yKp
  have h0 : yStm V p t = 0 := if_pos h
  rw [h0, decide_eq_true]
  · rfl
  · rw [lg_cmp_ge, Int64.le_iff_toInt_le]
    have : ((0 : Int32).toInt64).toInt = 0 := by decide
    rw [this]
    exact yLh_ge hk
theorem c_keptBy {d t : Nat} {seed : Int32} {tl : List (Nat × Nat)} {q : zR} {im : zI} {V : yV} (hG : yG V) (hA : yA tl q im V) (h35 : ∀ p, p < yvM V → im 35 p = yStm V p t) : zEv (d + 1) 128 [.ref 0, .int seed] (zMm tl q im) (some (.int (Int32.ofNat (yMk (yKp V t seed) (yvM V))))) (zMm tl q im) := by
  have hm := hG.2.1
  have lp : ∀ j p, p + j = yvM V → zX d zc_X11_keptBy 9 [(0, .ref 0), (1, .int seed), (2, .int (Int32.ofNat (yMk (yKp V t seed) p))), (3, .long (yLt seed p)), (5, .int (Int32.ofNat p))] [] (zMm tl q im) (fun x y => x = some (.int (Int32.ofNat (yMk (yKp V t seed) (yvM V)))) ∧ y = zMm tl q im) := by
    intro j
    induction j with
    | zero =>
      intro p hp
      have e : p = yvM V := by omega
      subst e
      refine t_X11_keptBy_9 ?_
      rw [hA.2.1]
      exact ⟨fun _ => ⟨rfl, rfl⟩, fun h => absurd ((zi_le (by omega) (by omega)).mpr (Nat.le_refl _)) h⟩
    | succ j ih =>
      intro p hp
      have ih := ih (p + 1) (by omega)
      have hs := yMk_s (f := yKp V t seed) (t := p) (by omega)
      refine t_X11_keptBy_9 ?_
      rw [hA.2.1, zi_s, zi_n (show p < 2147483648 by omega), h35 p (by omega)]
      refine ⟨fun h => absurd ((zi_le (by omega) (by omega)).mp h) (by omega), fun _ => ⟨zi_in (by omega) (by omega), fun e => ?_, fun e => ?_⟩⟩
      · have hk : yKp V t seed p = false := by unfold yKp; rw [decide_eq_true (show 0 ≤ lg_cmp (yLh seed p) (yStm V p t).toInt64 from e)]; rfl
        rw [← hs, hk, show (zb false) <<< (Int32.ofNat p &&& 31) = 0 from zi_sh0 ⟨p, by omega⟩, Int32.or_zero] at ih
        exact ih
      · have hk : yKp V t seed p = true := by unfold yKp; rw [decide_eq_false (show ¬ 0 ≤ lg_cmp (yLh seed p) (yStm V p t).toInt64 from e)]; rfl
        rw [← hs, hk] at ih
        exact ih
  exact zEv_o rfl (t_X11_keptBy (lp (yvM V) 0 (by omega)))
/-- where people are behind the storms -/
def yKs (V : yV) (t : Nat) (seed : Int32) (p : Nat) : Int32 := bif yKp V t seed p then -1 else ySp V t p
theorem c_gainBy {d k t p : Nat} {seed : Int32} {s : Nat → Int32} {tl : List (Nat × Nat)} {q : zR} {im : zI} {V : yV} (hG : yG V) (hA : yA tl q im V) (hT : yTs V k t s im) (h35 : ∀ p, p < yvM V → im 35 p = yStm V p t) (hp : p < yvM V) (ht : t < 12) :
    ∃ im' s', zEv (d + 6) 129 [.ref 0, .int seed, .int (Int32.ofNat p), .int (Int32.ofNat t)] (zMm tl q im) (some (.int (zGa (yvN V) (yvM V) (yWo V k t) (ySd V t) (yRo V t) (yKs V t seed) p (yKs V t seed p)))) (zMm tl q im') ∧ yTs V k t s' im' ∧ (∀ p, p < yvM V → im' 35 p = yStm V p t) ∧ yFa im im' := by
  have hm := hG.2.1
  have hbt : ∀ i, i < yvM V → zBt (Int32.ofNat (yMk (yKp V t seed) (yvM V))) i = yKp V t seed i := fun i hi => by
    rw [zBt_nat ⟨_, yMk_lt (f := yKp V t seed) (n := 6) _ (by omega)⟩ ⟨i, by omega⟩, yMk_bit, decide_eq_true hi, Bool.true_and]
  have lp : ∀ j i im1 s1, i + j = yvM V → yFa im im1 → yTs V k t s1 im1 → (∀ p, p < yvM V → im1 35 p = yStm V p t) → (∀ x, x < i → s1 x = yKs V t seed x) →
      ∃ im' s', zX (d + 5) zc_X11_gainBy 6 [(0, .ref 0), (1, .int seed), (2, .int (Int32.ofNat p)), (3, .int (Int32.ofNat t)), (4, .int (Int32.ofNat (yMk (yKp V t seed) (yvM V)))), (5, .int (Int32.ofNat i))] [] (zMm tl q im1) (fun x y => x = some (.int (zGa (yvN V) (yvM V) (yWo V k t) (ySd V t) (yRo V t) (yKs V t seed) p (yKs V t seed p))) ∧ y = zMm tl q im') ∧ yTs V k t s' im' ∧ (∀ p, p < yvM V → im' 35 p = yStm V p t) ∧ yFa im im' := by
    intro j
    induction j with
    | zero =>
      intro i im1 s1 hi hF hT1 h1 hs
      have e : i = yvM V := by omega
      subst e
      have hT2 : yTs V k t (yKs V t seed) im1 := by
        obtain ⟨⟨b1, b2, b3, b4, b5, b6, b7, b8⟩, b9, b10⟩ := hT1
        refine ⟨⟨b1, b2, b3, b4, b5, b6, b7, fun p hp => by rw [b8 p hp, hs p hp]⟩, b9, fun i hi => ?_⟩
        rw [b10 i hi]
        congr 1
        exact zCnt_congr (fun x hx => by rw [hs x hx])
      refine ⟨im1, _, t_X11_gainBy_6 ?_, hT2, h1, hF⟩
      rw [(yA_fr hA hF.fr).2.1]
      exact ⟨fun _ => ⟨_, _, c_gainOf hT2 hp, rfl, rfl⟩, fun h => absurd ((zi_le (by omega) (by omega)).mpr (Nat.le_refl _)) h⟩
    | succ j ih =>
      intro i im1 s1 hi hF hT1 h1 hs
      have hA1 := yA_fr hA hF.fr
      obtain ⟨im2, g1, g2, g3⟩ := c_put (d := d + 1) (tl := tl) (q := q) (x := yKs V t seed i) hT1 (show i < yvM V by omega)
      obtain ⟨im', s', k1, k2⟩ := ih (i + 1) im2 (zSet s1 i (yKs V t seed i)) (by omega) (hF.tr (yFa.of2 25 32 (by decide) (by decide) g3)) g2 (fun p hp => by rw [g3 35 (by decide) (by decide)]; exact h1 p hp) (fun x hx => by
        by_cases e : x = i
        · subst e; exact zSet_eq
        · rw [zSet_ne e]; exact hs x (by omega))
      refine ⟨im', s', t_X11_gainBy_6 ?_, k2⟩
      rw [hA1.2.1, zi_s, zBt_1, hbt i (by omega)]
      refine ⟨fun h => absurd ((zi_le (by omega) (by omega)).mp h) (by omega), fun _ => ⟨fun e => ⟨zi_in (by omega) (by omega), ?_⟩, fun e => ⟨im2, ?_, k1⟩⟩⟩
      · rw [zi_n (show i < 2147483648 by omega), zRf_row (by omega)]
        show ((zB ++ tl)[4 + i]?).elim _ _
        rw [zB_row (by omega), zi_n (show t < 2147483648 by omega), hA1.2.2.2.2.2.1 i (by omega) t ht]
        refine ⟨zi_in (show t < 12 from ht) (by omega), im2, ?_, k1⟩
        have : yKs V t seed i = yvP V i t := by unfold yKs; rw [Bool.eq_false_iff.mpr e, cond_false, ySp_p (by omega)]
        rw [this] at g1
        exact g1
      · have : yKs V t seed i = -1 := by unfold yKs; rw [e]; rfl
        rw [this] at g1
        exact g1
  obtain ⟨im', s', h1, h2⟩ := lp (yvM V) 0 im s (by omega) yFa.rf hT h35 (fun x hx => absurd hx (by omega))
  exact ⟨im', s', zEv_o rfl (t_X11_gainBy ⟨_, _, c_keptBy (d := d + 4) hG hA h35, h1⟩), h2⟩
theorem m_storms {d k t : Nat} {tl : List (Nat × Nat)} {q : zR} {im : zI} {V : yV} (hG : yG V) (hB : yB im V) (ht : t < 12) (hk : k < 1000000) :
    ∃ im', zEv (d + 7) 212 [.ref 47, .int (Int32.ofNat k), .int (Int32.ofNat t)] (zMm tl q im) (some (.int (Int32.ofNat (yMk (yKp V t (Int32.ofNat k)) (yvM V))))) (zMm tl q im') ∧ yMs V t (yKs V t (Int32.ofNat k)) im' ∧ yFb im im' := by
  have hm := hG.2.1
  have hR := hG.2.2.1
  have hC := hG.2.2.2.1
  obtain ⟨ia, a1, a2, a3⟩ := m_comesTo (d := d) (tl := tl) (q := q) hG hB ht
  have lp : ∀ j p im1, p + j = yvM V → yFb im im1 → yMs V t (fun x => if x < p then yKs V t (Int32.ofNat k) x else ySp V t x) im1 →
      ∃ im', zX (d + 6) zc_X12_storms 12 [(0, .ref 47), (1, .int (Int32.ofNat k)), (2, .int (Int32.ofNat t)), (3, .long (yLt (Int32.ofNat k) p)), (5, .int (Int32.ofNat (yMk (yKp V t (Int32.ofNat k)) p))), (6, .int (Int32.ofNat p))] [] (zMm tl q im1) (fun x y => x = some (.int (Int32.ofNat (yMk (yKp V t (Int32.ofNat k)) (yvM V)))) ∧ y = zMm tl q im') ∧ yMs V t (yKs V t (Int32.ofNat k)) im' ∧ yFb im im' := by
    intro j
    induction j with
    | zero =>
      intro p im1 hp hF hM
      have e : p = yvM V := by omega
      subst e
      have hM2 : yMs V t (yKs V t (Int32.ofNat k)) im1 := by
        obtain ⟨⟨b1, b2, b3, b4, b5, b6, b7, b8, b9⟩, h70⟩ := hM
        refine ⟨⟨b1, b2, b3, b4, b5, b6, b7, fun p hp => ?_, fun p hp => ?_⟩, h70⟩
        · rw [b8 p hp]; exact if_pos hp
        · have := b9 p hp
          rw [show (fun x => if x < yvM V then yKs V t (Int32.ofNat k) x else ySp V t x) p = yKs V t (Int32.ofNat k) p from if_pos hp] at this
          exact this
      refine ⟨im1, t_X12_storms_12 ?_, hM2, hF⟩
      rw [(yB_fr hB hF.fr).2.1]
      exact ⟨fun _ => ⟨rfl, rfl⟩, fun h => absurd ((zi_le (by omega) (by omega)).mpr (Nat.le_refl _)) h⟩
    | succ j ih =>
      intro p im1 hp hF hM
      have hB1 := yB_fr hB hF.fr
      have hs := yMk_s (f := yKp V t (Int32.ofNat k)) (t := p) (by omega)
      have e69 : im1 69 p = yvP V p t := by
        rw [hM.1.2.2.2.2.2.2.2.1 p (by omega)]
        show (if p < p then _ else ySp V t p) = _
        rw [if_neg (by omega), ySp_p (by omega)]
      have v4 := zi_in (show p < 4 by omega) (show p < 2147483648 by omega)
      have keep : yKp V t (Int32.ofNat k) p = false → (fun x => if x < p + 1 then yKs V t (Int32.ofNat k) x else ySp V t x) = (fun x => if x < p then yKs V t (Int32.ofNat k) x else ySp V t x) := fun h => by
        funext x
        by_cases e : x = p
        · subst e
          rw [if_pos (by omega), if_neg (by omega)]
          unfold yKs
          rw [h]
          rfl
        · by_cases e2 : x < p
          · rw [if_pos (by omega), if_pos e2]
          · rw [if_neg (by omega), if_neg e2]
      by_cases ex : yvP V p t = -1
      · have hk0 := yKp_sh hk ex
        obtain ⟨im', h1, h2⟩ := ih (p + 1) im1 (by omega) hF (by rw [keep hk0]; exact hM)
        rw [← hs, hk0, show (zb false) <<< (Int32.ofNat p &&& 31) = 0 from zi_sh0 ⟨p, by omega⟩, Int32.or_zero] at h1
        refine ⟨im', t_X12_storms_12 ?_, h2⟩
        rw [hB1.2.1, zi_s, zi_n (show p < 2147483648 by omega), e69]
        exact ⟨fun h => absurd ((zi_le (by omega) (by omega)).mp h) (by omega), fun _ => ⟨v4, fun _ => h1, fun h => absurd ex h⟩⟩
      · obtain ⟨im2, g1, g2⟩ := m_asksOf (d := d + 3) (tl := tl) (q := q) (part := 2) (a := 0) (b := yvH V t) (c := 0) (d' := 0) (e := Int32.ofNat t) (f := yvP V p t) (show yvR V < 6 by omega) (by decide) hB1.2.2.1 (hB1.2.2.2.2.2.2.2 (yvR V) hR)
        have hst : yStm V p t = yAsk (yvX V (yvR V)) 2 (yNm 0 (yvH V t) 0 0 (Int32.ofNat t) (yvP V p t)) := if_neg ex
        rw [← hst] at g1
        have hF2 := hF.tr (yFb.k56 g2)
        have hM2 := yMs_k hM g2
        by_cases hc : 0 ≤ lg_cmp (yLh (Int32.ofNat k) p) (yStm V p t).toInt64
        · have hk0 : yKp V t (Int32.ofNat k) p = false := by unfold yKp; rw [decide_eq_true hc]; rfl
          obtain ⟨im', h1, h2⟩ := ih (p + 1) im2 (by omega) hF2 (by rw [keep hk0]; exact hM2)
          rw [← hs, hk0, show (zb false) <<< (Int32.ofNat p &&& 31) = 0 from zi_sh0 ⟨p, by omega⟩, Int32.or_zero] at h1
          refine ⟨im', t_X12_storms_12 ?_, h2⟩
          rw [hB1.2.1, zi_s, zi_n (show p < 2147483648 by omega), e69, zi_n (show t < 2147483648 by omega), hB1.2.2.2.2.1 t ht]
          exact ⟨fun h => absurd ((zi_le (by omega) (by omega)).mp h) (by omega), fun _ => ⟨v4, fun h => absurd h ex, fun _ => ⟨zi_in ht (by omega), v4, _, _, g1, fun _ => h1, fun h => absurd hc h⟩⟩⟩
        · have hk1 : yKp V t (Int32.ofNat k) p = true := by unfold yKp; rw [decide_eq_false hc]; rfl
          have hM3 := yMs_put (p := p) (x := -1) hM2 (.inl rfl)
          have e2 : zSet (fun x => if x < p then yKs V t (Int32.ofNat k) x else ySp V t x) p (-1) = (fun x => if x < p + 1 then yKs V t (Int32.ofNat k) x else ySp V t x) := by
            funext x
            by_cases e : x = p
            · subst e
              rw [zSet_eq, if_pos (by omega)]
              unfold yKs
              rw [hk1]
              rfl
            · rw [zSet_ne e]
              show (if x < p then yKs V t (Int32.ofNat k) x else ySp V t x) = (if x < p + 1 then yKs V t (Int32.ofNat k) x else ySp V t x)
              by_cases e2 : x < p
              · rw [if_pos e2, if_pos (show x < p + 1 by omega)]
              · rw [if_neg e2, if_neg (show ¬ x < p + 1 by omega)]
          rw [e2] at hM3
          obtain ⟨im', h1, h2⟩ := ih (p + 1) (up2 im2 69 p (-1)) (by omega) (hF2.tr (yFb.up (by decide))) hM3
          rw [← hs, hk1] at h1
          refine ⟨im', t_X12_storms_12 ?_, h2⟩
          rw [hB1.2.1, zi_s, zi_n (show p < 2147483648 by omega), e69, zi_n (show t < 2147483648 by omega), hB1.2.2.2.2.1 t ht]
          exact ⟨fun h => absurd ((zi_le (by omega) (by omega)).mp h) (by omega), fun _ => ⟨v4, fun h => absurd h ex, fun _ => ⟨zi_in ht (by omega), v4, _, _, g1, fun h => absurd h hc, fun _ => ⟨v4, h1⟩⟩⟩⟩
  obtain ⟨im', h1, h2⟩ := lp (yvM V) 0 ia (by omega) a3 (by
    have e : (fun x => if x < 0 then yKs V t (Int32.ofNat k) x else ySp V t x) = ySp V t := by funext x; rw [if_neg (by omega)]
    rw [e]
    exact yTm_s a2)
  exact ⟨im', zEv_o rfl (t_X12_storms ⟨ia, a1, h1⟩), h2⟩
theorem k_drawn {d : Nat} {e a b c : Int32} {tl : List (Nat × Nat)} {q : zR} {im : zI} {V : yV} (hS : yS tl q im V) : yCall (d + 10) 99 213 [.int e, .int a, .int b, .int c] tl q im (yFr im) := by
  obtain ⟨hG, hA, hB⟩ := hS
  cases h1 : bO V a with
  | false => exact ⟨-5, im, im, zEv_o rfl (t_X11_drawn ⟨_, _, cO_f hA h1, fun _ => ⟨rfl, rfl⟩, fun e => absurd rfl e⟩), zEv_o rfl (t_X12_drawn ⟨_, _, mO_f hG hB h1, fun _ => ⟨rfl, rfl⟩, fun e => absurd rfl e⟩), yFr.rf⟩
  | true =>
    cases h2 : bW b 11 with
    | false => exact ⟨-5, im, im, zEv_o rfl (t_X11_drawn ⟨_, _, cO_t hA h1, fun e => absurd e n10, fun _ => ⟨_, _, cT_f h2, fun e => absurd rfl e, fun _ => ⟨rfl, rfl⟩⟩⟩), zEv_o rfl (t_X12_drawn ⟨_, _, mO_t hG hB h1, fun e => absurd e n10, fun _ => ⟨_, _, mT_f h2, fun e => absurd rfl e, fun _ => ⟨rfl, rfl⟩⟩⟩), yFr.rf⟩
    | true =>
      cases h3 : bW e 99999 with
      | false => exact ⟨-7, im, im, zEv_o rfl (t_X11_drawn ⟨_, _, cO_t hA h1, fun e => absurd e n10, fun _ => ⟨_, _, cT_t h2, fun _ => ⟨_, _, cW_f h3, fun _ => ⟨rfl, rfl⟩, fun e => absurd rfl e⟩, fun e => absurd e n10⟩⟩), zEv_o rfl (t_X12_drawn ⟨_, _, mO_t hG hB h1, fun e => absurd e n10, fun _ => ⟨_, _, mT_t h2, fun _ => ⟨_, _, mW_f h3, fun _ => ⟨rfl, rfl⟩, fun e => absurd rfl e⟩, fun e => absurd e n10⟩⟩), yFr.rf⟩
      | true =>
        cases h4 : bW c 1 with
        | false => exact ⟨-7, im, im, zEv_o rfl (t_X11_drawn ⟨_, _, cO_t hA h1, fun e => absurd e n10, fun _ => ⟨_, _, cT_t h2, fun _ => ⟨_, _, cW_t h3, fun e => absurd e n10, fun _ => ⟨_, _, cW_f h4, fun e => absurd rfl e, fun _ => ⟨rfl, rfl⟩⟩⟩, fun e => absurd e n10⟩⟩), zEv_o rfl (t_X12_drawn ⟨_, _, mO_t hG hB h1, fun e => absurd e n10, fun _ => ⟨_, _, mT_t h2, fun _ => ⟨_, _, mW_t h3, fun e => absurd e n10, fun _ => ⟨_, _, mW_f h4, fun e => absurd rfl e, fun _ => ⟨rfl, rfl⟩⟩⟩, fun e => absurd e n10⟩⟩), yFr.rf⟩
        | true =>
          obtain ⟨p, hp, rfl⟩ := bO_ex hG h1
          obtain ⟨t, ht, rfl⟩ := bW_ex (by decide) h2
          obtain ⟨k, hk, rfl⟩ := bW_ex (by decide) h3
          obtain ⟨ia, a1, a2, a3, a4⟩ := c_lookForStorms (d := d + 3) hG hA ht
          have hAa := yA_fr hA a4.fr
          by_cases c0 : c = 0
          · have hB1 := yB_fr hB a4.fr
            obtain ⟨ic, e1, e2, e3⟩ := m_storms (d := d + 2) (k := k) (tl := tl) (q := q) hG hB1 ht (by omega)
            exact ⟨_, ia, ic, zEv_o rfl (t_X11_drawn ⟨_, _, cO_t hA h1, fun e => absurd e n10, fun _ => ⟨_, _, cT_t h2, fun _ => ⟨_, _, cW_t h3, fun e => absurd e n10, fun _ => ⟨_, _, cW_t h4, fun _ => ⟨ia, a1, fun e => absurd c0 e, fun _ => ⟨_, _, c_keptBy (d := d + 8) (t := t) hG hAa a3, rfl, rfl⟩⟩, fun e => absurd e n10⟩⟩, fun e => absurd e n10⟩⟩), zEv_o rfl (t_X12_drawn ⟨_, _, mO_t hG hB1 h1, fun e => absurd e n10, fun _ => ⟨_, _, mT_t h2, fun _ => ⟨_, _, mW_t h3, fun e => absurd e n10, fun _ => ⟨_, _, mW_t h4, fun _ => ⟨_, _, e1, fun e => absurd c0 e, fun _ => ⟨rfl, rfl⟩⟩, fun e => absurd e n10⟩⟩, fun e => absurd e n10⟩⟩), a4.fr.tr e3.fr⟩
          · obtain ⟨ib, s', b1, b2, b3, b4⟩ := c_gainBy (d := d + 3) (p := p) (seed := Int32.ofNat k) hG hAa a2 a3 hp ht
            have hF := a4.tr b4
            have hB1 := yB_fr hB hF.fr
            obtain ⟨ic, e1, e2, e3⟩ := m_storms (d := d + 2) (k := k) (tl := tl) (q := q) hG hB1 ht (by omega)
            exact ⟨_, ib, ic, zEv_o rfl (t_X11_drawn ⟨_, _, cO_t hA h1, fun e => absurd e n10, fun _ => ⟨_, _, cT_t h2, fun _ => ⟨_, _, cW_t h3, fun e => absurd e n10, fun _ => ⟨_, _, cW_t h4, fun _ => ⟨ia, a1, fun _ => ⟨_, _, b1, rfl, rfl⟩, fun e => absurd e c0⟩, fun e => absurd e n10⟩⟩, fun e => absurd e n10⟩⟩), zEv_o rfl (t_X12_drawn ⟨_, _, mO_t hG hB1 h1, fun e => absurd e n10, fun _ => ⟨_, _, mT_t h2, fun _ => ⟨_, _, mW_t h3, fun e => absurd e n10, fun _ => ⟨_, _, mW_t h4, fun _ => ⟨_, _, e1, fun _ => ⟨_, _, m_gainOf (d := d + 6) e2.1 hp, rfl, rfl⟩, fun e => absurd e c0⟩, fun e => absurd e n10⟩⟩, fun e => absurd e n10⟩⟩), hF.fr.tr e3.fr⟩
