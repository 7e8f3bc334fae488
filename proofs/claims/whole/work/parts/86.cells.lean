/-! CALLS: cell, film, taken -/
theorem k_cell {d : Nat} {a b c : Int32} {tl : List (Nat × Nat)} {q : zR} {im : zI} {V : yV} {U : yU} (hI : yInv tl q im V U) : yCall (d + 10) 104 219 [.int a, .int b, .int c] tl q im (yOk tl q) := by
  have hH := hI.2.1.2.1
  cases h1 : bW a 3 with
  | false =>
    have hx : yXs U a = -2 := by unfold yXs; rw [h1]; rfl
    refine ⟨-2, im, im, zEv_o rfl (t_X11_cell ⟨_, _, c_refusalOfSheet (d := d + 6) hH, ?_⟩), zEv_o rfl (t_X12_cell ⟨_, _, mW_f (m := 3) h1, fun e => absurd rfl e, fun _ => ⟨rfl, rfl⟩⟩), V, U, hI⟩
    rw [hx]
    exact ⟨fun e => absurd e (by decide), fun _ => ⟨rfl, rfl⟩⟩
  | true =>
    obtain ⟨s, hs, rfl⟩ := bW_ex (by decide) h1
    have hs4 : s < 4 := hs
    have v4 := zi_in hs4 (show s < 2147483648 by omega)
    obtain ⟨s1, s2, s3, s4, s5, s6, s7⟩ := hH s hs4
    by_cases h2 : yuS U s = -1
    · have hx : yXs U (Int32.ofNat s) = -11 := by unfold yXs; rw [h1, cond_true, zi_n (by omega), if_pos h2]
      refine ⟨-11, im, im, zEv_o rfl (t_X11_cell ⟨_, _, c_refusalOfSheet (d := d + 6) hH, ?_⟩), zEv_o rfl (t_X12_cell ⟨_, _, mW_t (m := 3) h1, fun _ => ⟨v4, ?_⟩, fun e => absurd e n10⟩), V, U, hI⟩
      · rw [hx]
        exact ⟨fun e => absurd e (by decide), fun _ => ⟨rfl, rfl⟩⟩
      · rw [zi_n (show s < 2147483648 by omega), s5]
        exact ⟨fun h => absurd h2 h, fun _ => ⟨rfl, rfl⟩⟩
    · have hx : yXs U (Int32.ofNat s) = 0 := by unfold yXs; rw [h1, cond_true, zi_n (by omega), if_neg h2]
      have hr : ∀ im, yHs im U → zEv (d + 9) 118 [.ref 0, .int (Int32.ofNat s)] (zMm tl q im) (some (.int 0)) (zMm tl q im) := fun im hH => by
        have := c_refusalOfSheet (d := d + 6) (v := Int32.ofNat s) (tl := tl) (q := q) hH
        rw [hx] at this
        exact this
      have hin : ∀ im, zEv (d + 9) 136 [.int b, .int (0 : Int32), .int (Int32.ofNat (yuZ U s) - (1 : Int32))] (zMm tl q im) (some (.int (zb (decide (0 ≤ b) && decide (b < Int32.ofNat (yuZ U s)))))) (zMm tl q im) := fun im => by
        have := m_in (d := d + 8) (tl := tl) (q := q) (im := im) (v := b) (a := 0) (b := Int32.ofNat (yuZ U s) - (1 : Int32))
        rw [decide_eq_decide.mpr (zi_pre (by omega))] at this
        exact this
      by_cases h3 : b < 0
      · have hf : (decide (0 ≤ b) && decide (b < Int32.ofNat (yuZ U s))) = false := by rw [decide_eq_false (Int32.not_le.mpr h3)]; rfl
        refine ⟨-12, im, im, zEv_o rfl (t_X11_cell ⟨_, _, hr im hH, fun _ => ⟨fun _ => ⟨rfl, rfl⟩, fun h => absurd h3 h⟩, fun e => absurd rfl e⟩), zEv_o rfl (t_X12_cell ⟨_, _, mW_t (m := 3) h1, fun _ => ⟨v4, ?_⟩, fun e => absurd e n10⟩), V, U, hI⟩
        rw [zi_n (show s < 2147483648 by omega), s5, s6]
        refine ⟨fun _ => ⟨v4, _, _, hin im, ?_⟩, fun h => absurd h h2⟩
        rw [hf]
        exact ⟨fun e => absurd rfl e, fun _ => ⟨rfl, rfl⟩⟩
      · by_cases h4 : b < Int32.ofNat (yuZ U s)
        · obtain ⟨i, hi, rfl⟩ := zi_ex2 h3 h4 (by omega)
          have hf : (decide (0 ≤ Int32.ofNat i) && decide (Int32.ofNat i < Int32.ofNat (yuZ U s))) = true := by rw [decide_eq_true (Int32.not_lt.mp h3), decide_eq_true h4]; rfl
          have e1 : ((40 : Int32) * Int32.ofNat s) + Int32.ofNat i = Int32.ofNat (40 * s + i) := by rw [Int32.ofNat_add, Int32.ofNat_mul]; rfl
          have v160 := zi_in (show 40 * s + i < 160 by omega) (show 40 * s + i < 2147483648 by omega)
          refine ⟨1, up2 im (38 + 2 * s) i (yCv (yuS U s) c), up2 (up2 im (38 + 2 * s) i (yCv (yuS U s) c)) 61 (40 * s + i) (yCv (yuS U s) c), zEv_o rfl (t_X11_cell ⟨_, _, hr im hH, fun _ => ⟨fun h => absurd h h3, fun _ => ⟨v4, ?_⟩⟩, fun e => absurd rfl e⟩), zEv_o rfl (t_X12_cell ⟨_, _, mW_t (m := 3) h1, fun _ => ⟨v4, ?_⟩, fun e => absurd e n10⟩), V, yuSet U s (yuS U s, yuZ U s, zSet (yuC U s) i (yCv (yuS U s) c)), yInv_sh hI hs4 (fun k j hk hsc => ?_) s3 ?_ ?_ (fun j hj => ?_) ?_ ?_ (fun j hj => ?_)⟩
          · rw [zi_n (show s < 2147483648 by omega), zRf_sh hs4]
            show ((zB ++ tl)[37 + 2 * s]?).elim _ _
            rw [zB_sh hs4, s2]
            refine ⟨fun _ => ⟨v4, ?_⟩, fun h => absurd h4 h⟩
            show ((zB ++ tl)[37 + 2 * s]?).elim _ _
            rw [zB_sh hs4]
            exact ⟨_, c_shput hs4 s1 s2 s3 hi, rfl, rfl⟩
          · rw [zi_n (show s < 2147483648 by omega), up_k (by omega), s5, up_k (by omega), s6]
            refine ⟨fun _ => ⟨v4, _, _, hin _, ?_⟩, fun h => absurd h h2⟩
            rw [hf, up_k (by omega), s5, e1, zi_n (show 40 * s + i < 2147483648 by omega)]
            unfold yCv
            refine ⟨fun _ => ⟨v4, fun e => ⟨v4, fun e2 => ⟨v160, rfl, ?_⟩, fun e2 => ⟨v160, rfl, ?_⟩⟩, fun e => ⟨v160, rfl, ?_⟩⟩, fun e => absurd e n10⟩
            · rw [if_neg e, if_neg e2]
            · rw [if_neg e, if_pos e2]
            · rw [if_pos e]
          · by_cases a1 : k = 61
            · subst a1; rw [up_j (by omega), up_k (by omega)]
            · rw [up_k a1, up_k (by omega)]
          · rw [up_k (by omega), up_k (by omega)]; exact s1
          · rw [up_k (by omega), up_k (by omega)]; exact s2
          · show _ = zSet _ _ _ j
            rw [up_k (by omega)]
            by_cases e : j = i
            · subst e; rw [up_eq, zSet_eq]
            · rw [up_j e, zSet_ne e]; exact s4 j hj
          · rw [up_k (by omega), up_k (by omega)]; exact s5
          · rw [up_k (by omega), up_k (by omega)]; exact s6
          · show _ = zSet _ _ _ j
            by_cases e : j = i
            · subst e; rw [up_eq, zSet_eq]
            · rw [up_j (by omega), zSet_ne e, up_k (by omega)]; exact s7 j hj
        · have hf : (decide (0 ≤ b) && decide (b < Int32.ofNat (yuZ U s))) = false := by rw [decide_eq_false h4, Bool.and_false]
          refine ⟨-12, im, im, zEv_o rfl (t_X11_cell ⟨_, _, hr im hH, fun _ => ⟨fun h => absurd h h3, fun _ => ⟨v4, ?_⟩⟩, fun e => absurd rfl e⟩), zEv_o rfl (t_X12_cell ⟨_, _, mW_t (m := 3) h1, fun _ => ⟨v4, ?_⟩, fun e => absurd e n10⟩), V, U, hI⟩
          · rw [zi_n (show s < 2147483648 by omega), zRf_sh hs4]
            show ((zB ++ tl)[37 + 2 * s]?).elim _ _
            rw [zB_sh hs4, s2]
            exact ⟨fun h => absurd h h4, fun _ => ⟨rfl, rfl⟩⟩
          · rw [zi_n (show s < 2147483648 by omega), s5, s6]
            refine ⟨fun _ => ⟨v4, _, _, hin im, ?_⟩, fun h => absurd h h2⟩
            rw [hf]
            exact ⟨fun e => absurd rfl e, fun _ => ⟨rfl, rfl⟩⟩
theorem k_film {d : Nat} {a b : Int32} {tl : List (Nat × Nat)} {q : zR} {im : zI} {V : yV} {U : yU} (hI : yInv tl q im V U) : yCall (d + 10) 97 210 [.int a, .int b] tl q im (yOk tl q) := by
  obtain ⟨⟨hG, hA, hB⟩, hH, hm⟩ := id hI
  have hn := hG.1
  cases h1 : bW a 3 with
  | false => exact ⟨-2, im, im, zEv_o rfl (t_X11_film ⟨_, _, cS_f h1, fun e => absurd rfl e, fun _ => ⟨rfl, rfl⟩⟩), zEv_o rfl (t_X12_film ⟨_, _, mW_f (m := 3) h1, fun e => absurd rfl e, fun _ => ⟨rfl, rfl⟩⟩), V, U, hI⟩
  | true =>
    cases h2 : bW b 11 with
    | false => exact ⟨-5, im, im, zEv_o rfl (t_X11_film ⟨_, _, cS_t h1, fun _ => ⟨_, _, cT_f h2, fun e => absurd rfl e, fun _ => ⟨rfl, rfl⟩⟩, fun e => absurd e n10⟩), zEv_o rfl (t_X12_film ⟨_, _, mW_t (m := 3) h1, fun _ => ⟨_, _, mT_f h2, fun e => absurd rfl e, fun _ => ⟨rfl, rfl⟩⟩, fun e => absurd e n10⟩), V, U, hI⟩
    | true =>
      obtain ⟨s, hs, rfl⟩ := bW_ex (by decide) h1
      obtain ⟨t, ht, rfl⟩ := bW_ex (by decide) h2
      have hs4 : s < 4 := hs
      have v4 := zi_in hs4 (show s < 2147483648 by omega)
      obtain ⟨r, ia, gl, gk, hT, hF⟩ := c_top (d := d + 4) hG hA ht
      obtain ⟨ib, b1, b2, b3, b4, b5⟩ := c_become (d := d + 7) (a := 2) (b := Int32.ofNat (yvN V)) (tl := tl) (q := q) (im := ia) hs4
      have hTb : yTs V (yvR V) t (ySp V t) ib := zTop_k hT (fun k hk => b5 k (by omega) (by omega))
      have hAb : yA tl q ib V := yA_ag (yA_fr hA hF.fr) (by rw [b5 0 (by omega) (by omega)]) (fun k h1 h2 => b5 k (by omega) (by omega)) (fun k hk => b5 k (by omega) (by omega))
      have lc : ∀ j i im1, i + j = yvN V → (∀ k, k ≠ 38 + 2 * s → im1 k = ib k) → (∀ j, j < 40 → im1 (38 + 2 * s) j = if j < i then zOwn (yvN V) (yvM V) (ySd V t) (yRo V t) (ySp V t) j else 0) →
          ∃ im', zX (d + 9) zc_X11_film 28 [(0, .ref 0), (1, .int (Int32.ofNat s)), (2, .int (Int32.ofNat t)), (3, .ref (37 + 2 * s)), (4, .int (Int32.ofNat i))] [] (zMm tl q im1) (fun x y => x = some (.int (Int32.ofNat (yvN V))) ∧ y = zMm tl q im') ∧ (∀ k, k ≠ 38 + 2 * s → im' k = ib k) ∧ (∀ j, j < 40 → im' (38 + 2 * s) j = if j < yvN V then zOwn (yvN V) (yvM V) (ySd V t) (yRo V t) (ySp V t) j else 0) := by
        intro j
        induction j with
        | zero =>
          intro i im1 hi hF1 h38
          have e : i = yvN V := by omega
          subst e
          have e13 : im1 1 3 = Int32.ofNat (yvN V) := by rw [hF1 1 (by omega)]; exact hAb.1
          refine ⟨im1, t_X11_film_28 ?_, hF1, h38⟩
          rw [e13]
          exact ⟨fun _ => ⟨rfl, rfl⟩, fun h => absurd ((zi_le (by omega) (by omega)).mpr (Nat.le_refl _)) h⟩
        | succ j ih =>
          intro i im1 hi hF1 h38
          have e13 : im1 1 3 = Int32.ofNat (yvN V) := by rw [hF1 1 (by omega)]; exact hAb.1
          have hT1 : yTs V (yvR V) t (ySp V t) im1 := zTop_k hTb (fun k hk => hF1 k (by omega))
          have e1 : im1 (37 + 2 * s) 1 = 2 := by rw [hF1 _ (by omega)]; exact b2
          have e2 : im1 (37 + 2 * s) 2 = Int32.ofNat (yvN V) := by rw [hF1 _ (by omega)]; exact b3
          have hp := c_shput (d := d + 8) (v := zOwn (yvN V) (yvM V) (ySd V t) (yRo V t) (ySp V t) i) (tl := tl) (q := q) hs4 e1 e2 (by omega) (show i < yvN V by omega)
          have hcv : yCv 2 (zOwn (yvN V) (yvM V) (ySd V t) (yRo V t) (ySp V t) i) = zOwn (yvN V) (yvM V) (ySd V t) (yRo V t) (ySp V t) i := by unfold yCv; rw [if_neg (by decide), if_neg (by decide)]
          rw [hcv] at hp
          obtain ⟨im', h1, h2⟩ := ih (i + 1) (up2 im1 (38 + 2 * s) i (zOwn (yvN V) (yvM V) (ySd V t) (yRo V t) (ySp V t) i)) (by omega) (fun k hk => by rw [up_r hk]; exact hF1 k hk) (fun j hj => by
            by_cases e : j = i
            · subst e; rw [up_eq, if_pos (by omega)]
            · rw [up_j e, h38 j hj]
              by_cases e3 : j < i
              · rw [if_pos e3, if_pos (by omega)]
              · rw [if_neg e3, if_neg (by omega)])
          refine ⟨im', t_X11_film_28 ?_, h2⟩
          rw [e13, zB_sh hs4, zi_s]
          exact ⟨fun h => absurd ((zi_le (by omega) (by omega)).mp h) (by omega), fun _ => ⟨_, _, c_ownerOf (d := d + 5) hT1 (by omega), _, hp, h1⟩⟩
      obtain ⟨im1, c1, c2, c3⟩ := lc (yvN V) 0 ib (by omega) (fun _ _ => rfl) (fun j hj => by rw [if_neg (by omega)]; exact b4 j hj)
      have hk1 : ∀ k, ¬ (20 < k ∧ k < 37) → k ≠ 37 + 2 * s → k ≠ 38 + 2 * s → im1 k = im k := fun k h1 h2 h3 => by rw [c2 k h3, b5 k h2 h3]; exact hF k h1
      have hB1 : yB im1 V := yB_ag hB (fun j _ => by rw [hk1 47 (by omega) (by omega) (by omega)]) (fun k h1 h2 => hk1 k (by omega) (by omega) (by omega)) (hk1 55 (by omega) (by omega) (by omega)) (hk1 56 (by omega) (by omega) (by omega))
      obtain ⟨ic, e1, e2, e3⟩ := m_comesTo (d := d + 3) (tl := tl) (q := q) hG hB1 ht
      have hBc := yB_fr hB1 e3.fr
      have lm : ∀ m k im2, k + m = 40 → (∀ c j, ¬ (c = 61 ∧ 40 * s ≤ j ∧ j < 40 * s + 40) → im2 c j = (up2 (up2 ic 59 s 2) 60 s (Int32.ofNat (yvN V))) c j) → (∀ j, j < k → im2 61 (40 * s + j) = if j < yvN V then zOwn (yvN V) (yvM V) (ySd V t) (yRo V t) (ySp V t) j else 0) →
          ∃ im', zX (d + 9) zc_X12_film 28 [(0, .ref 47), (1, .int (Int32.ofNat s)), (2, .int (Int32.ofNat t)), (3, .int (Int32.ofNat k))] [] (zMm tl q im2) (fun x y => x = some (.int (Int32.ofNat (yvN V))) ∧ y = zMm tl q im') ∧ (∀ c j, ¬ (c = 61 ∧ 40 * s ≤ j ∧ j < 40 * s + 40) → im' c j = (up2 (up2 ic 59 s 2) 60 s (Int32.ofNat (yvN V))) c j) ∧ (∀ j, j < 40 → im' 61 (40 * s + j) = if j < yvN V then zOwn (yvN V) (yvM V) (ySd V t) (yRo V t) (ySp V t) j else 0) := by
        intro m
        induction m with
        | zero =>
          intro k im2 hk hF2 h61
          have e : k = 40 := by omega
          subst e
          have e47 : im2 47 1 = Int32.ofNat (yvN V) := by rw [hF2 47 1 (by omega), up_k (by omega), up_k (by omega)]; exact hBc.1
          refine ⟨im2, t_X12_film_28 ?_, hF2, h61⟩
          rw [e47]
          exact ⟨fun _ => ⟨rfl, rfl⟩, fun h => absurd (by decide) h⟩
        | succ m ih =>
          intro k im2 hk hF2 h61
          have e47 : im2 47 1 = Int32.ofNat (yvN V) := by rw [hF2 47 1 (by omega), up_k (by omega), up_k (by omega)]; exact hBc.1
          have ix : ((40 : Int32) * Int32.ofNat s) + Int32.ofNat k = Int32.ofNat (40 * s + k) := by rw [Int32.ofNat_add, Int32.ofNat_mul]; rfl
          have v160 := zi_in (show 40 * s + k < 160 by omega) (show 40 * s + k < 2147483648 by omega)
          have step := fun v (hv : v = if k < yvN V then zOwn (yvN V) (yvM V) (ySd V t) (yRo V t) (ySp V t) k else 0) => ih (k + 1) (up2 im2 61 (40 * s + k) v) (by omega) (fun c j hc => by
            by_cases e : c = 61
            · subst e
              rw [up_j (by omega)]
              exact hF2 61 j hc
            · rw [up_k e]; exact hF2 c j hc) (fun j hj => by
            by_cases e : j = k
            · subst e; rw [up_eq]; exact hv
            · rw [up_j (by omega)]; exact h61 j (by omega))
          by_cases hkn : k < yvN V
          · obtain ⟨im', h1, h2⟩ := step _ (if_pos hkn).symm
            have hM2 : yMo im2 (yvN V) (yvM V) (yWo V (yvR V) t) (ySd V t) (yOn V t) (yRo V t) (ySp V t) := by
              obtain ⟨m1, m2, m3, m4, m5, m6, m7, m8, m9⟩ := e2.1
              have rr : ∀ c, c ≠ 61 → c ≠ 59 → c ≠ 60 → im2 c = ic c := fun c h1 h2 h3 => funext fun j => by rw [hF2 c j (by omega), up_k h3, up_k h2]
              unfold yMo
              rw [rr 47 (by decide) (by decide) (by decide), rr 67 (by decide) (by decide) (by decide), rr 68 (by decide) (by decide) (by decide), rr 69 (by decide) (by decide) (by decide)]
              exact ⟨m1, m2, m3, m4, m5, m6, m7, m8, m9⟩
            refine ⟨im', t_X12_film_28 ?_, h2⟩
            rw [e47, ix, zi_n (show 40 * s + k < 2147483648 by omega), zi_s (a := k)]
            exact ⟨fun h => absurd ((zi_le (a := 40) (by omega) (by omega)).mp h) (by omega), fun _ => ⟨fun h => absurd ((zi_le (by omega) (by omega)).mp h) (by omega), fun _ => ⟨_, _, m_owner (d := d + 7) hM2 hkn, v160, h1⟩⟩⟩
          · obtain ⟨im', h1, h2⟩ := step 0 (if_neg hkn).symm
            refine ⟨im', t_X12_film_28 ?_, h2⟩
            rw [e47, ix, zi_n (show 40 * s + k < 2147483648 by omega), zi_s (a := k)]
            exact ⟨fun h => absurd ((zi_le (a := 40) (by omega) (by omega)).mp h) (by omega), fun _ => ⟨fun _ => ⟨v160, h1⟩, fun h => absurd ((zi_le (by omega) (by omega)).mpr (by omega)) h⟩⟩
      obtain ⟨im2, d1, d2, d3⟩ := lm 40 0 (up2 (up2 ic 59 s 2) 60 s (Int32.ofNat (yvN V))) (by omega) (fun _ _ _ => rfl) (fun j hj => absurd hj (by omega))
      have hall : ∀ c j, ¬ (c = 61 ∧ 40 * s ≤ j ∧ j < 40 * s + 40) → ¬ (c = 59 ∧ j = s) → ¬ (c = 60 ∧ j = s) → im2 c j = ic c j := fun c j h1 h2 h3 => by
        rw [d2 c j h1]
        by_cases a1 : c = 60
        · subst a1; rw [up_j (by omega), up_k (by omega)]
        · rw [up_k a1]
          by_cases a2 : c = 59
          · subst a2; rw [up_j (by omega)]
          · rw [up_k a2]
      refine ⟨Int32.ofNat (yvN V), im1, im2, zEv_o rfl (t_X11_film ⟨_, _, cS_t h1, fun _ => ⟨_, _, cT_t h2, fun _ => ⟨some r, im, gl _, ia, gk, v4, ?_⟩, fun e => absurd e n10⟩, fun e => absurd e n10⟩), zEv_o rfl (t_X12_film ⟨_, _, mW_t (m := 3) h1, fun _ => ⟨_, _, mT_t h2, fun _ => ⟨ic, e1, v4, v4, ?_⟩, fun e => absurd e n10⟩, fun e => absurd e n10⟩), V, yuSet U s (2, yvN V, fun j => if j < yvN V then zOwn (yvN V) (yvM V) (ySd V t) (yRo V t) (ySp V t) j else 0), yInv_sh hI hs4 (fun k j hk hsc => ?_) (by show yvN V ≤ 40; omega) ?_ ?_ (fun j hj => ?_) ?_ ?_ d3⟩
      · rw [zi_n (show s < 2147483648 by omega), zRf_sh hs4]
        show ((zB ++ tl)[37 + 2 * s]?).elim _ _
        rw [zB_sh hs4, (yA_fr hA hF.fr).1]
        exact ⟨ib, b1, c1⟩
      · rw [zi_n (show s < 2147483648 by omega), hBc.1]
        exact d1
      · rw [hall k j (by omega) (by omega) (by omega), e3 k j (by unfold yScr at hsc; omega), hk1 k (by unfold yScr at hsc; omega) (by omega) (by omega)]
      · rw [hall _ _ (by omega) (by omega) (by omega), e3 _ _ (by omega), c2 _ (by omega)]; exact b2
      · rw [hall _ _ (by omega) (by omega) (by omega), e3 _ _ (by omega), c2 _ (by omega)]; exact b3
      · rw [hall _ _ (by omega) (by omega) (by omega), e3 _ _ (by omega)]; exact c3 j hj
      · rw [d2 _ _ (by omega), up_k (by omega), up_eq]
      · rw [d2 _ _ (by omega), up_eq]
/-- which kinds are under which -/
def yUd (kd k : Nat) : Bool := if k = 0 then true else if k = 1 then zSub (yTag kd) 2 else if k = 2 then zSub (yTag kd) 4 else if k = 3 then zSub (yTag kd) 10 else if k = 4 then zSub (yTag kd) 5 else if k = 5 then zSub (yTag kd) 0 else false
theorem m_isUnder {d : Nat} {a o : Int32} {tl : List (Nat × Nat)} {q : zR} {im : zI} : zEv (d + 1) 222 [.int a, .int o] (zMm tl q im) (some (.int (zb (decide (o = 0) || (decide (a = o) || ((decide (o = 1) && decide (a = 3)) || (decide (o = 2) && decide (a = 4)))))))) (zMm tl q im) := by
  refine zEv_o rfl (t_X12_isUnder ?_)
  (repeat' (first | apply And.intro | intro _)) <;> first | rfl | (simp_all [zb])
theorem yUd_m : ∀ kd k : Fin 6, (decide (Int32.ofNat k.1 = 0) || (decide (Int32.ofNat kd.1 = Int32.ofNat k.1) || ((decide (Int32.ofNat k.1 = 1) && decide (Int32.ofNat kd.1 = 3)) || (decide (Int32.ofNat k.1 = 2) && decide (Int32.ofNat kd.1 = 4))))) = yUd kd.1 k.1 := by decide +kernel
theorem c_isOfKind {d r kd k : Nat} {a b c : Int32} {tl : List (Nat × Nat)} {q : zR} {im : zI} (h : yIs tl im r kd a b c) (hk : k < 7) : zEv (d + 1) 134 [.ref r, .int (Int32.ofNat k)] (zMm tl q im) (some (.int (zb (yUd kd k)))) (zMm tl q im) := by
  obtain ⟨L, l1, l2, l3, l4, l5, l6, l7⟩ := h
  have e : ∀ m, m < 7 → (Int32.ofNat k = Int32.ofNat m ↔ k = m) := fun m hm => zi_eq (by omega) (by omega)
  have hz : ∀ b : Bool, (bif b then (1 : Int32) else 0) = zb b := fun b => rfl
  refine zEv_o rfl (t_X11_isOfKind ?_)
  rw [l1]
  show (Int32.ofNat k = Int32.ofNat 0 → _) ∧ (¬ Int32.ofNat k = Int32.ofNat 0 → (Int32.ofNat k = Int32.ofNat 1 → (bif zSub (yTag kd) 3 then _ else False)) ∧ (¬ Int32.ofNat k = Int32.ofNat 1 → (Int32.ofNat k = Int32.ofNat 2 → (bif zSub (yTag kd) 3 then _ else False)) ∧ (¬ Int32.ofNat k = Int32.ofNat 2 → (Int32.ofNat k = Int32.ofNat 3 → (bif zSub (yTag kd) 3 then _ else False)) ∧ (¬ Int32.ofNat k = Int32.ofNat 3 → (Int32.ofNat k = Int32.ofNat 4 → (bif zSub (yTag kd) 3 then _ else False)) ∧ (¬ Int32.ofNat k = Int32.ofNat 4 → (Int32.ofNat k = Int32.ofNat 5 → (bif zSub (yTag kd) 3 then _ else False)) ∧ (¬ Int32.ofNat k = Int32.ofNat 5 → _))))))
  rw [e 0 (by omega), e 1 (by omega), e 2 (by omega), e 3 (by omega), e 4 (by omega), e 5 (by omega), yTag_sub l3]
  simp only [cond_true, hz]
  unfold yUd
  refine ⟨fun h => ⟨?_, trivial⟩, fun h0 => ⟨fun h => ⟨zb_or, ?_, trivial⟩, fun h1 => ⟨fun h => ⟨zb_or, ?_, trivial⟩, fun h2 => ⟨fun h => ⟨zb_or, ?_, trivial⟩, fun h3 => ⟨fun h => ⟨zb_or, ?_, trivial⟩, fun h4 => ⟨fun h => ⟨zb_or, ?_, trivial⟩, fun h5 => ⟨?_, trivial⟩⟩⟩⟩⟩⟩⟩
  · rw [if_pos h]; rfl
  · rw [if_neg h0, if_pos h]
  · rw [if_neg h0, if_neg h1, if_pos h]
  · rw [if_neg h0, if_neg h1, if_neg h2, if_pos h]
  · rw [if_neg h0, if_neg h1, if_neg h2, if_neg h3, if_pos h]
  · rw [if_neg h0, if_neg h1, if_neg h2, if_neg h3, if_neg h4, if_pos h]
  · rw [if_neg h0, if_neg h1, if_neg h2, if_neg h3, if_neg h4, if_neg h5]; rfl
theorem k_taken {d : Nat} {a b : Int32} {tl : List (Nat × Nat)} {q : zR} {im : zI} {V : yV} (hS : yS tl q im V) : yCall (d + 10) 107 223 [.int a, .int b] tl q im (yFr im) := by
  obtain ⟨hG, hA, hB⟩ := hS
  have hn := hG.1
  cases h1 : bW b 6 with
  | false => exact ⟨-2, im, im, zEv_o rfl (t_X11_taken ⟨_, _, cW_f h1, fun e => absurd rfl e, fun _ => ⟨rfl, rfl⟩⟩), zEv_o rfl (t_X12_taken ⟨_, _, mW_f h1, fun e => absurd rfl e, fun _ => ⟨rfl, rfl⟩⟩), yFr.rf⟩
  | true =>
    cases h2 : bW a 17 with
    | false => exact ⟨-12, im, im, zEv_o rfl (t_X11_taken ⟨_, _, cW_t h1, fun _ => ⟨_, _, cW_f h2, fun e => absurd rfl e, fun _ => ⟨rfl, rfl⟩⟩, fun e => absurd e n10⟩), zEv_o rfl (t_X12_taken ⟨_, _, mW_t h1, fun _ => ⟨_, _, mW_f h2, fun e => absurd rfl e, fun _ => ⟨rfl, rfl⟩⟩, fun e => absurd e n10⟩), yFr.rf⟩
    | true =>
      obtain ⟨k, hk, rfl⟩ := bW_ex (by decide) h1
      obtain ⟨i, hi, rfl⟩ := bW_ex (by decide) h2
      have h12 : (12 : Int32) ≤ Int32.ofNat i ↔ 12 ≤ i := zi_le (a := 12) (by omega) (by omega)
      have e6 : Int32.ofNat k = (6 : Int32) ↔ k = 6 := zi_eq (b := 6) (by omega) (by omega)
      have e66 : (6 : Int32) ≤ Int32.ofNat k ↔ 6 ≤ k := zi_le (a := 6) (by omega) (by omega)
      by_cases h : i < 12
      · have v12 := zi_in h (show i < 2147483648 by omega)
        refine ⟨if yvH V i = 0 then -11 else if k = 6 then yvH V i else -13, im, im, zEv_o rfl (t_X11_taken ⟨_, _, cW_t h1, fun _ => ⟨_, _, cW_t h2, fun _ => ?_, fun e => absurd e n10⟩, fun e => absurd e n10⟩), zEv_o rfl (t_X12_taken ⟨_, _, mW_t h1, fun _ => ⟨_, _, mW_t h2, fun _ => ?_, fun e => absurd e n10⟩, fun e => absurd e n10⟩), yFr.rf⟩
        · rw [h12, e6, zi_n (show i < 2147483648 by omega), hA.2.2.2.2.1 i h]
          refine ⟨fun h => absurd h (by omega), fun _ => ⟨v12, fun e => ⟨fun e2 => ⟨?_, rfl⟩, fun e2 => ⟨v12, ?_, rfl⟩⟩, fun e => ⟨?_, rfl⟩⟩⟩
          · rw [if_neg e, if_neg e2]
          · rw [if_neg e, if_pos e2]
          · rw [if_pos e]
        · rw [h12, e6, zi_n (show i < 2147483648 by omega), hB.2.2.2.2.1 i h]
          refine ⟨fun h => absurd h (by omega), fun _ => ⟨v12, fun e => ⟨fun e2 => ⟨?_, rfl⟩, fun e2 => ⟨v12, ?_, rfl⟩⟩, fun e => ⟨?_, rfl⟩⟩⟩
          · rw [if_neg e, if_neg e2]
          · rw [if_neg e, if_pos e2]
          · rw [if_pos e]
      · have e12 : Int32.ofNat i - (12 : Int32) = Int32.ofNat (i - 12) := (Int32.ofNat_sub i 12 (by omega)).symm
        have hlt : Int32.ofNat (i - 12) < Int32.ofNat (yvN V) ↔ i - 12 < yvN V := zi_lt (by omega) (by omega)
        by_cases hin : i - 12 < yvN V
        · obtain ⟨r, k1, k2, k3⟩ := hA.2.2.2.2.2.2.1 (i - 12) hin
          have hkd := (hG.2.2.2.2.2.2 (i - 12) hin).1
          have e49 := (hB.2.2.2.2.2.2.1 (i - 12) hin).1
          refine ⟨bif yUd (yvK V (i - 12)) k then Int32.ofNat (i - 12) else -13, im, im, zEv_o rfl (t_X11_taken ⟨_, _, cW_t h1, fun _ => ⟨_, _, cW_t h2, fun _ => ?_, fun e => absurd e n10⟩, fun e => absurd e n10⟩), zEv_o rfl (t_X12_taken ⟨_, _, mW_t h1, fun _ => ⟨_, _, mW_t h2, fun _ => ?_, fun e => absurd e n10⟩, fun e => absurd e n10⟩), yFr.rf⟩
          · rw [h12, e12]
            refine ⟨fun _ => ⟨some r, im, c_islandAt hG hA hin k1, _, _, c_isOfKind k3 (show k < 7 by omega), ?_⟩, fun h => absurd (by omega) h⟩
            cases yUd (yvK V (i - 12)) k with
            | false => exact ⟨fun _ => ⟨rfl, rfl⟩, fun e => absurd rfl e⟩
            | true => exact ⟨fun e => absurd e n10, fun _ => ⟨rfl, rfl⟩⟩
          · rw [h12, e12, hB.1, hlt, e66, zi_n (show i - 12 < 2147483648 by omega), e49]
            refine ⟨fun _ => ⟨fun _ => ⟨fun h6 => ⟨?_, rfl⟩, fun h6 => ⟨zi_in (by omega) (by omega), _, _, m_isUnder, ?_⟩⟩, fun h => absurd hin h⟩, fun h => absurd (by omega) h⟩
            · have : k = 6 := by omega
              subst this
              rfl
            · rw [yUd_m ⟨yvK V (i - 12), hkd⟩ ⟨k, by omega⟩]
              cases yUd (yvK V (i - 12)) k with
              | false => exact ⟨fun _ => ⟨rfl, rfl⟩, fun e => absurd rfl e⟩
              | true => exact ⟨fun e => absurd e n10, fun _ => ⟨rfl, rfl⟩⟩
        · have hno : (decide (0 ≤ Int32.ofNat (i - 12)) && decide (Int32.ofNat (i - 12) < Int32.ofNat (yvN V))) = false := by rw [decide_eq_false (fun h => hin (hlt.mp h)), Bool.and_false]
          refine ⟨-11, im, im, zEv_o rfl (t_X11_taken ⟨_, _, cW_t h1, fun _ => ⟨_, _, cW_t h2, fun _ => ?_, fun e => absurd e n10⟩, fun e => absurd e n10⟩), zEv_o rfl (t_X12_taken ⟨_, _, mW_t h1, fun _ => ⟨_, _, mW_t h2, fun _ => ?_, fun e => absurd e n10⟩, fun e => absurd e n10⟩), yFr.rf⟩
          · rw [h12, e12]
            exact ⟨fun _ => ⟨none, im, c_islandAt_no hA hno, rfl, rfl⟩, fun h => absurd (by omega) h⟩
          · rw [h12, e12, hB.1, hlt]
            exact ⟨fun _ => ⟨fun h => absurd h hin, fun _ => ⟨rfl, rfl⟩⟩, fun h => absurd (by omega) h⟩
