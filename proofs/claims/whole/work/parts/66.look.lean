/-! THE CLASS: a look at the top of a tide -/
theorem zCnt_no {f : Nat → Bool} : ∀ {m : Nat}, (∀ i, i < m → f i = false) → zCnt m f = 0
  | 0, _ => rfl
  | m + 1, h => by
    show zCnt m f + (bif f m then 1 else 0) = 0
    rw [zCnt_no (fun i hi => h i (by omega)), h m (by omega)]
    rfl
/-- where people are at a tide -/
def ySp (V : yV) (t : Nat) : Nat → Int32 := fun p => if p < yvM V then yvP V p t else -1
theorem yOr_0 : yP (fun i => 2 ^ i) (fun i => i) := by
  intro i hi
  refine ⟨Nat.le_refl i, ?_, rfl, fun j => ?_⟩
  · exact Nat.pow_lt_pow_right (a := 2) (n := 6) (by omega) hi
  · show (2 ^ i).testBit j = true ↔ (j < 6 ∧ j = i)
    rw [Nat.testBit_two_pow, decide_eq_true_eq]
    omega
theorem yJb_ex {V : yV} {t i : Nat} (hn : yvN V ≤ 6) (h : yJb V t i = true) : ∃ k, k < yvN V ∧ yJn V t i = Int32.ofNat k := by
  unfold yJb at h
  rw [Bool.and_eq_true, decide_eq_true_eq, decide_eq_true_eq] at h
  exact zi_ex2 (Int32.not_lt.mpr h.1) h.2 (by omega)
theorem yOr_P {V : yV} {t : Nat} (hn : yvN V ≤ 6) : ∀ i, i ≤ yvN V → yP (yOr V t i).1 (yOr V t i).2 ∧ (∀ j, j < 6 → yvN V ≤ j → (yOr V t i).2 j = j)
  | 0, _ => ⟨yOr_0, fun _ _ _ => rfl⟩
  | i + 1, hi => by
    obtain ⟨h1, h2⟩ := yOr_P (V := V) (t := t) hn i (by omega)
    have e : yOr V t (i + 1) = bif yJb V t i then (yUn (yOr V t i).1 i (yJn V t i).toNatClampNeg, yRu (yOr V t i).2 i (yJn V t i).toNatClampNeg) else yOr V t i := rfl
    rw [e]
    cases hb : yJb V t i with
    | false => exact ⟨h1, h2⟩
    | true =>
      obtain ⟨k, hk, ek⟩ := yJb_ex hn hb
      rw [cond_true, ek, zi_n (by omega)]
      refine ⟨yP_un h1 (by omega) (by omega), fun j hj hj2 => ?_⟩
      have a1 := (h1 i (by omega)).1
      have a2 := (h1 k (by omega)).1
      have a3 := h2 j hj hj2
      show (if _ then _ else _) = j
      rw [if_neg (by omega)]
      exact a3
theorem yOn_zRt {V : yV} {t : Nat} (hn : yvN V ≤ 6) : zRt (yvN V) (yOn V t) (yRo V t) := yP_rt (yOr_P hn _ (Nat.le_refl _)).1 hn (yOr_P hn _ (Nat.le_refl _)).2
theorem c_look89 {d k r t : Nat} {tl : List (Nat × Nat)} {q : zR} {im : zI} {V : yV} {w : Nat → Int32} {st : Nat → Bool} {on rt : Nat → Nat} (hG : yG V) (hA : yA tl q im V) (ht : t < 12) :
    ∀ k i im1, i + k = yvM V → yFa im im1 → zTop im1 (yvN V) (yvM V) w st on rt (fun p => if p < i then yvP V p t else -1) →
      ∃ im', zX (d + 4) zc_X11_lookAt 89 [(0, .ref 0), (1, .int (Int32.ofNat t)), (2, .ref r), (3, .int (Int32.ofNat i))] [] (zMm tl q im1) (fun x b => x = none ∧ b = zMm tl q im') ∧ zTop im' (yvN V) (yvM V) w st on rt (ySp V t) ∧ yFa im im' := by
  have hm := hG.2.1
  intro k
  induction k with
  | zero =>
    intro i im1 hi hF hT
    have e : i = yvM V := by omega
    subst e
    refine ⟨im1, t_X11_lookAt_89 ?_, hT, hF⟩
    rw [(yA_fr hA hF.fr).2.1]
    exact ⟨fun _ => ⟨rfl, rfl⟩, fun h => absurd ((zi_le (by omega) (by omega)).mpr (Nat.le_refl _)) h⟩
  | succ k ih =>
    intro i im1 hi hF hT
    have hA1 := yA_fr hA hF.fr
    obtain ⟨im2, g1, g2, g3⟩ := c_put (d := d) (tl := tl) (q := q) (x := yvP V i t) hT (show i < yvM V by omega)
    have es : zSet (fun p => if p < i then yvP V p t else -1) i (yvP V i t) = (fun p => if p < i + 1 then yvP V p t else -1) := by
      funext p
      unfold zSet
      by_cases e : p = i
      · subst e; rw [if_pos rfl, if_pos (by omega)]
      · rw [if_neg e]
        show (if p < i then yvP V p t else -1) = _
        by_cases e2 : p < i
        · rw [if_pos e2, if_pos (by omega)]
        · rw [if_neg e2, if_neg (by omega)]
    rw [es] at g2
    obtain ⟨im', h1, h2, h3⟩ := ih (i + 1) im2 (by omega) (hF.tr (yFa.of2 25 32 (by decide) (by decide) g3)) g2
    refine ⟨im', t_X11_lookAt_89 ?_, h2, h3⟩
    rw [hA1.2.1, zi_s, zi_n (show i < 2147483648 by omega), zRf_row (by omega)]
    refine ⟨fun h => absurd ((zi_le (by omega) (by omega)).mp h) (by omega), fun _ => ⟨zi_in (by omega) (by omega), ?_⟩⟩
    show ((zB ++ tl)[4 + i]?).elim _ _
    rw [zB_row (by omega), zi_n (show t < 2147483648 by omega), hA1.2.2.2.2.2.1 i (by omega) t ht]
    exact ⟨zi_in (show t < 12 from ht) (by omega), _, g1, h1⟩
theorem c_look52 {d r t : Nat} {tl : List (Nat × Nat)} {q : zR} {im : zI} {V : yV} {w : Nat → Int32} (hG : yG V) (hA : yA tl q im V) (ht : t < 12) :
    ∀ k i im1, i + k = yvN V → yFa im im1 → im1 21 7 = Int32.ofNat (yvN V) → im1 21 8 = Int32.ofNat (yvM V) → (∀ j, j < 6 → im1 24 j = Int32.ofNat ((yOr V t i).1 j)) → (∀ j, j < 6 → im1 31 j = 0) → (∀ j, j < 6 → im1 32 j = 0) → (∀ j, j < 4 → im1 25 j = -1) → (∀ j, j < yvN V → im1 22 j = w j) → (∀ j, j < yvN V → im1 23 j = zb (ySd V t j)) →
      ∃ im', zX (d + 4) zc_X11_lookAt 52 [(0, .ref 0), (1, .int (Int32.ofNat t)), (2, .ref r), (3, .int (Int32.ofNat i))] [] (zMm tl q im1) (fun x b => x = none ∧ b = zMm tl q im') ∧ zTop im' (yvN V) (yvM V) w (ySd V t) (yOn V t) (yRo V t) (ySp V t) ∧ yFa im im' := by
  have hn := hG.1
  have hm := hG.2.1
  intro k
  induction k with
  | zero =>
    intro i im1 hi hF f7 f8 f24 f31 f32 f25 f22 f23
    have e : i = yvN V := by omega
    subst e
    have hT : zTo im1 (yvN V) (yvM V) w (ySd V t) (yOn V t) (yRo V t) (fun _ => -1) := ⟨yOn_zRt hn, hm, f7, f8, f22, f23, fun j hj => f24 j (by omega), fun p hp => f25 p (by omega)⟩
    obtain ⟨im2, g1, g2, g3⟩ := c_sumWholes (d := d + 1) (tl := tl) (q := q) hT (fun j hj => f31 j (by omega))
    have hT2 : zTop im2 (yvN V) (yvM V) w (ySd V t) (yOn V t) (yRo V t) (fun p => if p < 0 then yvP V p t else -1) := by
      have ef : (fun p => if p < 0 then yvP V p t else -1) = (fun _ => (-1 : Int32)) := by funext p; rw [if_neg (by omega)]
      rw [ef]
      refine ⟨zTo_k hT (fun k h1 h2 => g3 k (by omega)), g2, fun j hj => ?_⟩
      rw [g3 32 (by decide), f32 j (by omega)]
      have : zCr (yvN V) (yvM V) (ySd V t) (yRo V t) (fun _ => -1) j = 0 := zCnt_no (fun p _ => by unfold zIs; rw [zTh_m1]; rfl)
      rw [this]
      rfl
    obtain ⟨im', h1, h2, h3⟩ := c_look89 (d := d) (k := 0) (r := r) hG hA ht (yvM V) 0 im2 (by omega) (hF.tr (yFa.of 31 (by decide) g3)) hT2
    refine ⟨im', t_X11_lookAt_52 ?_, h2, h3⟩
    rw [(yA_fr hA hF.fr).1]
    exact ⟨fun _ => ⟨_, g1, h1⟩, fun h => absurd ((zi_le (by omega) (by omega)).mpr (Nat.le_refl _)) h⟩
  | succ k ih =>
    intro i im1 hi hF f7 f8 f24 f31 f32 f25 f22 f23
    have hA1 := yA_fr hA hF.fr
    obtain ⟨ri, k1, k2, k3⟩ := hA1.2.2.2.2.2.2.1 i (by omega)
    obtain ⟨L, l1, l2, l3, l4, l5, l6, l7⟩ := id k3
    have hO : yOr V t (i + 1) = bif yJb V t i then (yUn (yOr V t i).1 i (yJn V t i).toNatClampNeg, yRu (yOr V t i).2 i (yJn V t i).toNatClampNeg) else yOr V t i := rfl
    have form : ∀ (im' : zI), (∃ (v14 : Int32) (im13 : zI), zEv (d + 4) 113 [.ref 0, .int (yJn V t i)] (zMm tl q im1) (some (.int v14)) (zMm tl q im13) ∧ ((v14 = 0 → (zX (d + 4) zc_X11_lookAt 52 [(0, .ref 0), (1, .int (Int32.ofNat t)), (2, .ref r), (3, .int (Int32.ofNat (i + 1)))] [] (zMm tl q im13) (fun x b => x = none ∧ b = zMm tl q im'))) ∧ (¬ v14 = 0 → (∃ im16 : zI, zEv (d + 4) 44 [.ref 21, .int (Int32.ofNat i), .int (yJn V t i)] (zMm tl q im13) none (zMm tl q im16) ∧ (zX (d + 4) zc_X11_lookAt 52 [(0, .ref 0), (1, .int (Int32.ofNat t)), (2, .ref r), (3, .int (Int32.ofNat (i + 1)))] [] (zMm tl q im16) (fun x b => x = none ∧ b = zMm tl q im')))))) →
        zX (d + 4) zc_X11_lookAt 52 [(0, .ref 0), (1, .int (Int32.ofNat t)), (2, .ref r), (3, .int (Int32.ofNat i))] [] (zMm tl q im1) (fun x b => x = none ∧ b = zMm tl q im') := by
      intro im' h
      refine t_X11_lookAt_52 ?_
      rw [hA1.1, zi_s]
      refine ⟨fun h => absurd ((zi_le (by omega) (by omega)).mp h) (by omega), fun _ => ⟨some ri, im1, c_islandAt hG hA1 (by omega) k1, ?_⟩⟩
      show vp_in _ _ ∧ ((zB ++ tl)[ri]?).elim _ _
      simp only [l1, Option.elim_some]
      rw [yTag_sub l3, Bool.true_and, zi_n (show t < 2147483648 by omega), hA1.2.2.2.2.1 t ht]
      exact ⟨zi_in ht (by omega), _, _, c_joinsAt k3, h⟩
    cases hb : yJb V t i with
    | false =>
      rw [hb, cond_false] at hO
      obtain ⟨im', h1, h2, h3⟩ := ih (i + 1) im1 (by omega) hF f7 f8 (by rw [hO]; exact f24) f31 f32 f25 f22 f23
      refine ⟨im', form im' ⟨_, _, c_isIsland, ?_⟩, h2, h3⟩
      have hb' : (decide (0 ≤ yJn V t i) && decide (yJn V t i < Int32.ofNat (yvN V))) = false := hb
      rw [hA1.1, hb']
      exact ⟨fun _ => h1, fun h => absurd rfl h⟩
    | true =>
      rw [hb, cond_true] at hO
      obtain ⟨k0, hk0, ek⟩ := yJb_ex hn hb
      obtain ⟨im2, g1, g2, g3⟩ := c_unite (d := d + 3) (tl := tl) (q := q) f24 (yOr_P hn i (by omega)).1 (show i < 6 by omega) (show k0 < 6 by omega)
      obtain ⟨im', h1, h2, h3⟩ := ih (i + 1) im2 (by omega) (hF.tr (yFa.of 24 (by decide) g3)) (by rw [g3 21 (by decide)]; exact f7) (by rw [g3 21 (by decide)]; exact f8) (by rw [hO, ek, zi_n (by omega)]; exact g2) (by rw [g3 31 (by decide)]; exact f31) (by rw [g3 32 (by decide)]; exact f32) (by rw [g3 25 (by decide)]; exact f25) (by rw [g3 22 (by decide)]; exact f22) (by rw [g3 23 (by decide)]; exact f23)
      refine ⟨im', form im' ⟨_, _, c_isIsland, ?_⟩, h2, h3⟩
      have hb' : (decide (0 ≤ yJn V t i) && decide (yJn V t i < Int32.ofNat (yvN V))) = true := hb
      rw [hA1.1, hb', ek]
      exact ⟨fun h => absurd h (by decide), fun _ => ⟨_, g1, h1⟩⟩
theorem c_look11 {d k r t : Nat} {tl : List (Nat × Nat)} {q : zR} {im : zI} {V : yV} (hG : yG V) (hA : yA tl q im V) (ht : t < 12) (hk : k < yvC V) (hr : zRf q 16 k = some r) :
    ∀ m i im1, i + m = yvN V → yFa im im1 → im1 21 7 = Int32.ofNat (yvN V) → im1 21 8 = Int32.ofNat (yvM V) → (∀ j, j < 6 → im1 24 j = Int32.ofNat (2 ^ j)) → (∀ j, j < 6 → im1 31 j = 0) → (∀ j, j < 6 → im1 32 j = 0) → (∀ j, j < 4 → im1 25 j = -1) → (∀ j, j < i → im1 22 j = yWo V k t j) → (∀ j, j < i → im1 23 j = zb (ySd V t j)) →
      ∃ im', zX (d + 4) zc_X11_lookAt 11 [(0, .ref 0), (1, .int (Int32.ofNat t)), (2, .ref r), (3, .int (Int32.ofNat i))] [] (zMm tl q im1) (fun x b => x = none ∧ b = zMm tl q im') ∧ zTop im' (yvN V) (yvM V) (yWo V k t) (ySd V t) (yOn V t) (yRo V t) (ySp V t) ∧ yFa im im' := by
  have hn := hG.1
  intro m
  induction m with
  | zero =>
    intro i im1 hi hF f7 f8 f24 f31 f32 f25 f22 f23
    have e : i = yvN V := by omega
    subst e
    obtain ⟨im', h1, h2, h3⟩ := c_look52 (d := d) (r := r) (w := yWo V k t) hG hA ht (yvN V) 0 im1 (by omega) hF f7 f8 f24 f31 f32 f25 f22 f23
    refine ⟨im', t_X11_lookAt_11 ?_, h2, h3⟩
    rw [(yA_fr hA hF.fr).1]
    exact ⟨fun _ => h1, fun h => absurd ((zi_le (by omega) (by omega)).mpr (Nat.le_refl _)) h⟩
  | succ m ih =>
    intro i im1 hi hF f7 f8 f24 f31 f32 f25 f22 f23
    have hA1 := yA_fr hA hF.fr
    obtain ⟨ri, k1, k2, k3⟩ := hA1.2.2.2.2.2.2.1 i (by omega)
    obtain ⟨im2, g1, g2⟩ := c_worthUnder (d := d) hG hA1 hk hr (show i < yvN V by omega) ht
    have k3' : yIs tl (up2 im2 22 i (yWo V k t i)) ri (yvK V i) (yvD V i) (yvU V i) (yvO V i) := yIs_k k3 (by rw [up_r (by omega), g2 ri (by omega) (by omega)])
    obtain ⟨L, l1, l2, l3, l4, l5, l6, l7⟩ := id k3
    have hF2 : ∀ x, yFa im (up2 (up2 im2 22 i (yWo V k t i)) 23 i x) := fun x => hF.tr ((yFa.of2 33 34 (by decide) (by decide) g2).tr ((yFa.up (by decide)).tr (yFa.up (by decide))))
    obtain ⟨im', h1, h2, h3⟩ := ih (i + 1) (up2 (up2 im2 22 i (yWo V k t i)) 23 i (zb (ySd V t i))) (by omega) (hF2 _) (by rw [up_k (by decide), up_k (by decide), g2 21 (by decide) (by decide)]; exact f7) (by rw [up_k (by decide), up_k (by decide), g2 21 (by decide) (by decide)]; exact f8)
      (by rw [up_r (by decide), up_r (by decide), g2 24 (by decide) (by decide)]; exact f24) (by rw [up_r (by decide), up_r (by decide), g2 31 (by decide) (by decide)]; exact f31) (by rw [up_r (by decide), up_r (by decide), g2 32 (by decide) (by decide)]; exact f32) (by rw [up_r (by decide), up_r (by decide), g2 25 (by decide) (by decide)]; exact f25)
      (fun j hj => by
        rw [up_k (by decide)]
        by_cases e : j = i
        · subst e; exact up_eq
        · rw [up_j e, g2 22 (by decide) (by decide)]; exact f22 j (by omega))
      (fun j hj => by
        by_cases e : j = i
        · subst e; exact up_eq
        · rw [up_j e, up_k (by decide), g2 23 (by decide) (by decide)]; exact f23 j (by omega))
    refine ⟨im', t_X11_lookAt_11 ?_, h2, h3⟩
    rw [hA1.1, zi_s]
    refine ⟨fun h => absurd ((zi_le (by omega) (by omega)).mp h) (by omega), fun _ => ⟨some ri, im1, c_islandAt hG hA1 (by omega) k1, ?_⟩⟩
    refine ⟨_, _, g1, zi_in (by omega) (by omega), zi_in ht (by omega), ?_⟩
    show ((zB ++ tl)[ri]?).elim _ _
    simp only [l1, Option.elim_some]
    rw [yTag_sub l3, Bool.true_and, zi_n (show t < 2147483648 by omega), zi_n (show i < 2147483648 by omega), g2 2 (by decide) (by decide), hA1.2.2.2.2.1 t ht]
    refine ⟨_, _, c_standsAt k3', ?_⟩
    have hS : ySt (yvK V i) (yvU V i) (yvH V t) = ySd V t i := rfl
    rw [hS, zb_0]
    refine ⟨fun e => ⟨zi_in (by omega) (by omega), ?_⟩, fun e => ⟨zi_in (by omega) (by omega), ?_⟩⟩
    · rw [e] at h1; exact h1
    · rw [Bool.not_eq_false _ |>.mp e] at h1; exact h1
theorem c_lookAt {d k r t : Nat} {tl : List (Nat × Nat)} {q : zR} {im : zI} {V : yV} (hG : yG V) (hA : yA tl q im V) (ht : t < 12) (hk : k < yvC V) (hr : zRf q 16 k = some r) :
    ∃ im', zEv (d + 5) 125 [.ref 0, .int (Int32.ofNat t), .ref r] (zMm tl q im) none (zMm tl q im') ∧ zTop im' (yvN V) (yvM V) (yWo V k t) (ySd V t) (yOn V t) (yRo V t) (ySp V t) ∧ yFa im im' := by
  obtain ⟨im1, g1, g2, g3, g4, g5, g6, g7, g8⟩ := c_clear (d := d + 2) (n := yvN V) (m := yvM V) (tl := tl) (q := q) (im := im)
  obtain ⟨im', h1, h2, h3⟩ := c_look11 (d := d) hG hA ht hk hr (yvN V) 0 im1 (by omega) (fun k hk => g8 k (by omega) (by omega) (by omega) (by omega) (by omega)) g2 g3 g4 g5 g6 g7 (fun j hj => absurd hj (by omega)) (fun j hj => absurd hj (by omega))
  refine ⟨im', zEv_o rfl (t_X11_lookAt ⟨im1, ?_, h1⟩), h2, h3⟩
  rw [hA.1, hA.2.1]
  exact g1
