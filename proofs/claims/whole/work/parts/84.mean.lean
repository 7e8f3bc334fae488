/-! MEAN -/
def yCallL (D kc km : Nat) (as : List Value) (tl : List (Nat × Nat)) (q : zR) (im : zI) (P : zI → Prop) : Prop :=
  ∃ (v : Int64) (im1 im2 : zI), zEv D kc (.ref 0 :: as) (zMm tl q im) (some (.long v)) (zMm tl q im1) ∧ zEv D km (.ref 47 :: as) (zMm tl q im1) (some (.long v)) (zMm tl q im2) ∧ P im2
def yGc : Nat → Int64 → Int64 → Int64
  | 0, a, _ => a
  | n + 1, a, b => if b = 0 then a else yGc n b (a - a / b * b)
theorem zLc_0 : zLc 0 0 = 0 := by decide +kernel
theorem zl_pos {b : Int64} (h : 0 ≤ b.toInt) (hb : ¬ b = 0) : 0 < b.toInt := by
  have : b.toInt ≠ 0 := fun e => hb (Int64.toInt_inj.mp (e.trans (by decide)))
  omega
theorem zl_step {n : Nat} {a b : Int64} (ha : 0 ≤ a.toInt) (hb : 0 ≤ b.toInt) (h0 : ¬ b = 0) (hn : b.toInt < ((n + 1 : Nat) : Int)) : 0 ≤ (a - a / b * b).toInt ∧ (a - a / b * b).toInt < (n : Int) := by
  have hp := zl_pos hb h0
  rw [zl_rem ha hp]
  have r0 := Int.emod_nonneg a.toInt (show b.toInt ≠ 0 by omega)
  have r1 := Int.emod_lt_of_pos a.toInt hp
  omega
theorem yGc_ne : ∀ (n : Nat) (a b : Int64), 0 ≤ a.toInt → 0 ≤ b.toInt → b.toInt < (n : Int) → (¬ a = 0 ∨ ¬ b = 0) → ¬ yGc n a b = 0
  | 0, a, b, _, hb, hn, _ => absurd hn (by omega)
  | n + 1, a, b, ha, hb, hn, h => by
    show ¬ (if b = 0 then a else yGc n b (a - a / b * b)) = 0
    by_cases e : b = 0
    · rw [if_pos e]
      rcases h with h | h
      · exact h
      · exact absurd e h
    · rw [if_neg e]
      obtain ⟨s1, s2⟩ := zl_step ha hb e hn
      exact yGc_ne n b _ hb s1 s2 (.inl e)
theorem c_gcd {d : Nat} {tl : List (Nat × Nat)} {q : zR} {im : zI} : ∀ (n i : Nat) (a b : Int64), 0 ≤ a.toInt → 0 ≤ b.toInt → b.toInt < (n : Int) → i + n ≤ 100 → zX d zc_X11_greatestDivisor 2 [(0, .long a), (2, .long b), (4, .int (Int32.ofNat i))] [] (zMm tl q im) (fun x y => x = some (.long (yGc n a b)) ∧ y = zMm tl q im)
  | 0, i, a, b, _, hb, hn, _ => absurd hn (by omega)
  | n + 1, i, a, b, ha, hb, hn, hi => by
    refine t_X11_greatestDivisor_2 ?_
    rw [lg_cmp_eq, zLc_0, zi_s]
    have hG : yGc (n + 1) a b = if b = 0 then a else yGc n b (a - a / b * b) := rfl
    refine ⟨fun h => absurd ((zi_le (a := 100) (by omega) (by omega)).mp h) (by omega), fun _ => ⟨fun e => ⟨?_, rfl⟩, fun e => ⟨e, ?_⟩⟩⟩
    · rw [hG, if_pos e]
    · rw [hG, if_neg e]
      obtain ⟨s1, s2⟩ := zl_step ha hb e hn
      exact c_gcd n (i + 1) b _ hb s1 s2 (by omega)
theorem m_gcd {d : Nat} {x0 x2 : Int64} {x4 : Int32} {tl : List (Nat × Nat)} {q : zR} {im : zI} : ∀ (n : Nat) (a b : Int64), 0 ≤ a.toInt → 0 ≤ b.toInt → b.toInt < (n : Int) → ¬ yGc n a b = 0 → zX d zc_X12_lowest 11 [(0, .long x0), (2, .long x2), (4, .int x4), (5, .long a), (7, .long b)] [] (zMm tl q im) (fun x y => x = some (.long (if x4 = 0 then x0 / yGc n a b else x2 / yGc n a b)) ∧ y = zMm tl q im)
  | 0, a, b, _, hb, hn, _ => absurd hn (by omega)
  | n + 1, a, b, ha, hb, hn, h0 => by
    refine t_X12_lowest_11 ?_
    rw [lg_cmp_eq, zLc_0]
    have hG : yGc (n + 1) a b = if b = 0 then a else yGc n b (a - a / b * b) := rfl
    rw [hG] at h0 ⊢
    refine ⟨fun e => ?_, fun e => ⟨e, ?_⟩⟩
    · rw [if_pos e] at h0
      refine ⟨fun e2 => ⟨h0, ?_, rfl⟩, fun e2 => ⟨h0, ?_, rfl⟩⟩
      · rw [if_neg e2, if_pos e]
      · rw [if_pos e2, if_pos e]
    · rw [if_neg e] at h0
      rw [if_neg e]
      obtain ⟨s1, s2⟩ := zl_step ha hb e hn
      exact m_gcd n b _ hb s1 s2 h0
/-- gain by a seed -/
def yGs (V : yV) (t : Nat) (seed : Nat) (p : Nat) : Int32 := zGa (yvN V) (yvM V) (yWo V (yvR V) t) (ySd V t) (yRo V t) (yKs V t (Int32.ofNat seed)) p (yKs V t (Int32.ofNat seed) p)
def ySm (V : yV) (t seed p : Nat) : Nat → Int64
  | 0 => zLc 0 0
  | k + 1 => ySm V t seed p k + (yGs V t (seed + k) p).toInt64
theorem ySm_ok {V : yV} {t seed p : Nat} (hn : yvN V ≤ 6) : ∀ k, k ≤ 40 → 0 ≤ (ySm V t seed p k).toInt ∧ (ySm V t seed p k).toInt ≤ k * 59994
  | 0, _ => by
    show 0 ≤ (zLc 0 0).toInt ∧ (zLc 0 0).toInt ≤ ((0 : Nat) : Int) * 59994
    rw [zLc_0]
    decide
  | k + 1, hk => by
    obtain ⟨h1, h2⟩ := ySm_ok (V := V) (t := t) (seed := seed) (p := p) hn k (by omega)
    have hb : bd 0 59994 (yGs V t (seed + k) p) := zGa_bd hn
    unfold bd at hb
    show 0 ≤ (ySm V t seed p k + (yGs V t (seed + k) p).toInt64).toInt ∧ (ySm V t seed p k + (yGs V t (seed + k) p).toInt64).toInt ≤ ((k + 1 : Nat) : Int) * 59994
    rw [Int64.toInt_add, Int32.toInt_toInt64, Int.bmod_eq_of_le (by omega) (by omega)]
    omega
theorem k_mean {d : Nat} {a b e f c : Int32} {tl : List (Nat × Nat)} {q : zR} {im : zI} {V : yV} (hS : yS tl q im V) : yCallL (d + 10) 100 215 [.int a, .int b, .int e, .int f, .int c] tl q im (yFr im) := by
  obtain ⟨hG, hA, hB⟩ := hS
  have hn := hG.1
  have hin : ∀ im, zEv (d + 9) 136 [.int f, .int (1 : Int32), .int (40 : Int32)] (zMm tl q im) (some (.int (zb (decide (1 ≤ f) && decide (f ≤ 40))))) (zMm tl q im) := fun im => m_in
  cases h1 : bO V a with
  | false => exact ⟨_, im, im, zEv_o rfl (t_X11_mean ⟨_, _, cO_f hA h1, fun _ => ⟨rfl, rfl⟩, fun e => absurd rfl e⟩), zEv_o rfl (t_X12_mean ⟨_, _, mO_f hG hB h1, fun _ => ⟨rfl, rfl⟩, fun e => absurd rfl e⟩), yFr.rf⟩
  | true =>
    cases h2 : bW b 11 with
    | false => exact ⟨_, im, im, zEv_o rfl (t_X11_mean ⟨_, _, cO_t hA h1, fun e => absurd e n10, fun _ => ⟨_, _, cT_f h2, fun _ => ⟨rfl, rfl⟩, fun e => absurd rfl e⟩⟩), zEv_o rfl (t_X12_mean ⟨_, _, mO_t hG hB h1, fun e => absurd e n10, fun _ => ⟨_, _, mT_f h2, fun _ => ⟨rfl, rfl⟩, fun e => absurd rfl e⟩⟩), yFr.rf⟩
    | true =>
      cases h3 : bW e 99999 with
      | false => exact ⟨_, im, im, zEv_o rfl (t_X11_mean ⟨_, _, cO_t hA h1, fun e => absurd e n10, fun _ => ⟨_, _, cT_t h2, fun e => absurd e n10, fun _ => ⟨_, _, cW_f h3, fun _ => ⟨rfl, rfl⟩, fun e => absurd rfl e⟩⟩⟩), zEv_o rfl (t_X12_mean ⟨_, _, mO_t hG hB h1, fun e => absurd e n10, fun _ => ⟨_, _, mT_t h2, fun e => absurd e n10, fun _ => ⟨_, _, mW_f h3, fun _ => ⟨rfl, rfl⟩, fun e => absurd rfl e⟩⟩⟩), yFr.rf⟩
      | true =>
        by_cases h41 : f < 1
        · have hf : (decide (1 ≤ f) && decide (f ≤ 40)) = false := by rw [decide_eq_false (Int32.not_le.mpr h41)]; rfl
          refine ⟨_, im, im, zEv_o rfl (t_X11_mean ⟨_, _, cO_t hA h1, fun e => absurd e n10, fun _ => ⟨_, _, cT_t h2, fun e => absurd e n10, fun _ => ⟨_, _, cW_t h3, fun e => absurd e n10, fun _ => ⟨fun _ => ⟨rfl, rfl⟩, fun h => absurd h41 h⟩⟩⟩⟩), zEv_o rfl (t_X12_mean ⟨_, _, mO_t hG hB h1, fun e => absurd e n10, fun _ => ⟨_, _, mT_t h2, fun e => absurd e n10, fun _ => ⟨_, _, mW_t h3, fun e => absurd e n10, fun _ => ⟨_, _, hin im, ?_⟩⟩⟩⟩), yFr.rf⟩
          rw [hf]
          exact ⟨fun _ => ⟨rfl, rfl⟩, fun e => absurd rfl e⟩
        · by_cases h42 : 40 < f
          · have hf : (decide (1 ≤ f) && decide (f ≤ 40)) = false := by rw [decide_eq_false (Int32.not_le.mpr h42), Bool.and_false]
            refine ⟨_, im, im, zEv_o rfl (t_X11_mean ⟨_, _, cO_t hA h1, fun e => absurd e n10, fun _ => ⟨_, _, cT_t h2, fun e => absurd e n10, fun _ => ⟨_, _, cW_t h3, fun e => absurd e n10, fun _ => ⟨fun h => absurd h h41, fun _ => ⟨fun _ => ⟨rfl, rfl⟩, fun h => absurd h42 h⟩⟩⟩⟩⟩), zEv_o rfl (t_X12_mean ⟨_, _, mO_t hG hB h1, fun e => absurd e n10, fun _ => ⟨_, _, mT_t h2, fun e => absurd e n10, fun _ => ⟨_, _, mW_t h3, fun e => absurd e n10, fun _ => ⟨_, _, hin im, ?_⟩⟩⟩⟩), yFr.rf⟩
            rw [hf]
            exact ⟨fun _ => ⟨rfl, rfl⟩, fun e => absurd rfl e⟩
          · have hf : (decide (1 ≤ f) && decide (f ≤ 40)) = true := by rw [decide_eq_true (Int32.not_lt.mp h41), decide_eq_true (Int32.not_lt.mp h42)]; rfl
            have hin1 : ∀ im, zEv (d + 9) 136 [.int f, .int (1 : Int32), .int (40 : Int32)] (zMm tl q im) (some (.int 1)) (zMm tl q im) := fun im => by
              have := hin im
              rw [hf] at this
              exact this
            cases h5 : bW c 1 with
            | false => exact ⟨_, im, im, zEv_o rfl (t_X11_mean ⟨_, _, cO_t hA h1, fun e => absurd e n10, fun _ => ⟨_, _, cT_t h2, fun e => absurd e n10, fun _ => ⟨_, _, cW_t h3, fun e => absurd e n10, fun _ => ⟨fun h => absurd h h41, fun _ => ⟨fun h => absurd h h42, fun _ => ⟨_, _, cW_f h5, fun e => absurd rfl e, fun _ => ⟨rfl, rfl⟩⟩⟩⟩⟩⟩⟩), zEv_o rfl (t_X12_mean ⟨_, _, mO_t hG hB h1, fun e => absurd e n10, fun _ => ⟨_, _, mT_t h2, fun e => absurd e n10, fun _ => ⟨_, _, mW_t h3, fun e => absurd e n10, fun _ => ⟨_, _, hin1 im, fun e => absurd e n10, fun _ => ⟨_, _, mW_f h5, fun e => absurd rfl e, fun _ => ⟨rfl, rfl⟩⟩⟩⟩⟩⟩), yFr.rf⟩
            | true =>
              obtain ⟨p, hp, rfl⟩ := bO_ex hG h1
              obtain ⟨t, ht, rfl⟩ := bW_ex (by decide) h2
              obtain ⟨sd, hsd, rfl⟩ := bW_ex (by decide) h3
              obtain ⟨z, rfl⟩ := bW1_ex h5
              obtain ⟨sn, hs1, hs2, rfl⟩ : ∃ k, 1 ≤ k ∧ k ≤ 40 ∧ f = Int32.ofNat k := by
                have h0 : ¬ f < 0 := fun h => h41 (Int32.lt_trans h (by decide))
                obtain ⟨k, hk, ek⟩ := zi_ex2 (n := 41) h0 (Int32.lt_of_le_of_lt (Int32.not_lt.mp h42) (by decide)) (by decide)
                refine ⟨k, ?_, by omega, ek⟩
                rw [ek] at h41
                have h4 : ¬ k < 1 := fun h => h41 ((zi_lt (b := 1) (by omega) (by omega)).mpr h)
                omega
              have hsT : (Int32.ofNat sn).toInt64.toInt = (sn : Int) := by rw [Int32.toInt_toInt64, Int32.toInt_ofNat_of_lt (by omega)]
              obtain ⟨q1, q2⟩ := ySm_ok (V := V) (t := t) (seed := sd) (p := p) hn sn hs2
              have hne : ¬ (Int32.ofNat sn).toInt64 = 0 := fun h => by
                rw [h] at hsT
                have h0 : (0 : Int64).toInt = 0 := by decide
                rw [h0] at hsT
                omega
              have hg0 := yGc_ne 41 (ySm V t sd p sn) (Int32.ofNat sn).toInt64 q1 (by omega) (by omega) (.inr hne)
              have hval : (ySm V t sd p sn = 0 → (if zb z = 0 then ySm V t sd p sn / yGc 41 (ySm V t sd p sn) (Int32.ofNat sn).toInt64 else (Int32.ofNat sn).toInt64 / yGc 41 (ySm V t sd p sn) (Int32.ofNat sn).toInt64) = (zb z).toInt64) := fun h => by
                rw [h]
                have e1 : yGc 41 0 (Int32.ofNat sn).toInt64 = (Int32.ofNat sn).toInt64 := by
                  have : yGc 41 0 (Int32.ofNat sn).toInt64 = if (Int32.ofNat sn).toInt64 = 0 then 0 else yGc 40 (Int32.ofNat sn).toInt64 (0 - 0 / (Int32.ofNat sn).toInt64 * (Int32.ofNat sn).toInt64) := rfl
                  rw [this, if_neg hne, Int64.zero_div, Int64.zero_mul, Int64.sub_self]
                  have : yGc 40 (Int32.ofNat sn).toInt64 0 = if (0 : Int64) = 0 then (Int32.ofNat sn).toInt64 else yGc 39 0 ((Int32.ofNat sn).toInt64 - (Int32.ofNat sn).toInt64 / 0 * 0) := rfl
                  rw [this, if_pos rfl]
                rw [e1]
                cases z with
                | false => rw [if_pos (show zb false = 0 from rfl), Int64.zero_div]; rfl
                | true => rw [if_neg (show ¬ zb true = 0 from n10), Int64.div_self, if_neg hne]; rfl
              have hgs : ∀ k, ySm V t sd p (k + 1) = ySm V t sd p k + (yGs V t (sd + k) p).toInt64 := fun _ => rfl
              have lc : ∀ j k im1 s1, k + j = sn → yFa im im1 → yTs V (yvR V) t s1 im1 → (∀ p, p < yvM V → im1 35 p = yStm V p t) → ∃ im', zX (d + 9) zc_X11_mean 30 [(0, .ref 0), (1, .int (Int32.ofNat p)), (2, .int (Int32.ofNat t)), (3, .int (Int32.ofNat sd)), (4, .int (Int32.ofNat sn)), (5, .int (zb z)), (6, .long (ySm V t sd p k)), (8, .int (Int32.ofNat k))] [] (zMm tl q im1) (fun x y => x = some (.long (if zb z = 0 then ySm V t sd p sn / yGc 41 (ySm V t sd p sn) (Int32.ofNat sn).toInt64 else (Int32.ofNat sn).toInt64 / yGc 41 (ySm V t sd p sn) (Int32.ofNat sn).toInt64)) ∧ y = zMm tl q im') ∧ yFa im im' := by
                intro j
                induction j with
                | zero =>
                  intro k im1 s1 hk hF hT h35
                  have e : k = sn := by omega
                  subst e
                  have hg : zEv (d + 9) 130 [.long (ySm V t sd p k), .long (Int32.ofNat k).toInt64] (zMm tl q im1) (some (.long (yGc 41 (ySm V t sd p k) (Int32.ofNat k).toInt64))) (zMm tl q im1) := zEv_o rfl (t_X11_greatestDivisor (c_gcd 41 0 _ _ q1 (by omega) (by omega) (by omega)))
                  refine ⟨im1, t_X11_mean_30 ⟨fun _ => ⟨_, _, hg, ?_⟩, fun h => absurd ((zi_le (by omega) (by omega)).mpr (Nat.le_refl _)) h⟩, hF⟩
                  rw [lg_cmp_eq, zLc_0]
                  refine ⟨fun _ => ⟨fun e => ⟨hg0, ?_, rfl⟩, fun e => ⟨hg0, ?_, rfl⟩⟩, fun e => absurd e hg0⟩
                  · rw [if_neg e]
                  · rw [if_pos e]
                | succ j ih =>
                  intro k im1 s1 hk hF hT h35
                  obtain ⟨im2, s2, g1, g2, g3, g4⟩ := c_gainBy (d := d + 3) (p := p) (seed := Int32.ofNat (sd + k)) hG (yA_fr hA hF.fr) hT h35 hp ht
                  obtain ⟨im', h1, h2⟩ := ih (k + 1) im2 s2 (by omega) (hF.tr g4) g2 g3
                  rw [hgs k] at h1
                  refine ⟨im', t_X11_mean_30 ⟨fun h => absurd ((zi_le (by omega) (by omega)).mp h) (by omega), fun _ => ⟨yGs V t (sd + k) p, im2, ?_, ?_⟩⟩, h2⟩
                  · rw [← Int32.ofNat_add]
                    exact g1
                  · rw [zi_s]
                    exact h1
              have lm : ∀ j k im0 im1, k + j = sn → yB im0 V → yFb im0 im1 → ∃ im', zX (d + 9) zc_X12_mean 28 [(0, .ref 47), (1, .int (Int32.ofNat p)), (2, .int (Int32.ofNat t)), (3, .int (Int32.ofNat sd)), (4, .int (Int32.ofNat sn)), (5, .int (zb z)), (6, .long (ySm V t sd p k)), (8, .int (Int32.ofNat k))] [] (zMm tl q im1) (fun x y => x = some (.long (if zb z = 0 then ySm V t sd p sn / yGc 41 (ySm V t sd p sn) (Int32.ofNat sn).toInt64 else (Int32.ofNat sn).toInt64 / yGc 41 (ySm V t sd p sn) (Int32.ofNat sn).toInt64)) ∧ y = zMm tl q im') ∧ yFb im0 im' := by
                intro j
                induction j with
                | zero =>
                  intro k im0 im1 hk hB0 hF
                  have e : k = sn := by omega
                  subst e
                  have hg : zEv (d + 9) 214 [.long (ySm V t sd p k), .long (Int32.ofNat k).toInt64, .int (zb z)] (zMm tl q im1) (some (.long (if zb z = 0 then ySm V t sd p k / yGc 41 (ySm V t sd p k) (Int32.ofNat k).toInt64 else (Int32.ofNat k).toInt64 / yGc 41 (ySm V t sd p k) (Int32.ofNat k).toInt64))) (zMm tl q im1) := by
                    refine zEv_o rfl (t_X12_lowest ?_)
                    rw [lg_cmp_eq, zLc_0]
                    refine ⟨fun _ => m_gcd 41 _ _ q1 (by omega) (by omega) hg0, fun e => ⟨?_, rfl⟩⟩
                    rw [hval e]
                  exact ⟨im1, t_X12_mean_28 ⟨fun _ => ⟨_, _, hg, rfl, rfl⟩, fun h => absurd ((zi_le (by omega) (by omega)).mpr (Nat.le_refl _)) h⟩, hF⟩
                | succ j ih =>
                  intro k im0 im1 hk hB0 hF
                  obtain ⟨im2, g1, g2, g3⟩ := m_storms (d := d + 2) (k := sd + k) (tl := tl) (q := q) hG (yB_fr hB0 hF.fr) ht (by omega)
                  obtain ⟨im', h1, h2⟩ := ih (k + 1) im0 im2 (by omega) hB0 (hF.tr g3)
                  rw [hgs k] at h1
                  have hg : zEv (d + 9) 176 [.ref 47, .int (Int32.ofNat p)] (zMm tl q im2) (some (.int (yGs V t (sd + k) p))) (zMm tl q im2) := m_gainOf g2.1 hp
                  refine ⟨im', t_X12_mean_28 ⟨fun h => absurd ((zi_le (by omega) (by omega)).mp h) (by omega), fun _ => ⟨Int32.ofNat (yMk (yKp V t (Int32.ofNat (sd + k))) (yvM V)), im2, ?_, _, _, hg, ?_⟩⟩, h2⟩
                  · rw [← Int32.ofNat_add]
                    exact g1
                  · rw [zi_s]
                    exact h1
              obtain ⟨ia, a1, a2, a3, a4⟩ := c_lookForStorms (d := d + 3) hG hA ht
              obtain ⟨im1, c1, c2⟩ := lc sn 0 ia (ySp V t) (by omega) a4 a2 a3
              have hB1 := yB_fr hB c2.fr
              obtain ⟨im2, d1, d2⟩ := lm sn 0 im1 im1 (by omega) hB1 yFb.rf
              exact ⟨_, im1, im2, zEv_o rfl (t_X11_mean ⟨_, _, cO_t hA h1, fun e => absurd e n10, fun _ => ⟨_, _, cT_t h2, fun e => absurd e n10, fun _ => ⟨_, _, cW_t h3, fun e => absurd e n10, fun _ => ⟨fun h => absurd h h41, fun _ => ⟨fun h => absurd h h42, fun _ => ⟨_, _, cW_t h5, fun _ => ⟨ia, a1, c1⟩, fun e => absurd e n10⟩⟩⟩⟩⟩⟩), zEv_o rfl (t_X12_mean ⟨_, _, mO_t hG hB1 h1, fun e => absurd e n10, fun _ => ⟨_, _, mT_t h2, fun e => absurd e n10, fun _ => ⟨_, _, mW_t h3, fun e => absurd e n10, fun _ => ⟨_, _, hin1 im1, fun e => absurd e n10, fun _ => ⟨_, _, mW_t h5, fun _ => d1, fun e => absurd e n10⟩⟩⟩⟩⟩), c2.fr.tr d2.fr⟩
