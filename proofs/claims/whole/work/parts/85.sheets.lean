/-! SHEETS -/
def yuSet (U : yU) (s : Nat) (x : Int32 × Nat × (Nat → Int32)) : yU := (U.1, (fun s' => if s' = s then x else U.2.1 s'), U.2.2)
/-- what a cell holds of a number -/
def yCv (sort v : Int32) : Int32 := if sort = 0 then v.toInt8.toInt32 else if sort = 1 then v.toInt16.toInt32 else v
theorem c_become {d s : Nat} {a b : Int32} {tl : List (Nat × Nat)} {q : zR} {im : zI} (hs : s < 4) :
    ∃ im', zEv (d + 2) 15 [.ref (37 + 2 * s), .int a, .int b] (zMm tl q im) none (zMm tl q im') ∧ im' (37 + 2 * s) 1 = a ∧ im' (37 + 2 * s) 2 = b ∧ (∀ j, j < 40 → im' (38 + 2 * s) j = 0) ∧ (∀ k, k ≠ 37 + 2 * s → k ≠ 38 + 2 * s → im' k = im k) := by
  obtain ⟨im', g1, g2, g3⟩ := c_fill (d := d) (a := 38 + 2 * s) (len := 40) (tl := tl) (q := q) (im := up2 (up2 im (37 + 2 * s) 1 a) (37 + 2 * s) 2 b) (v := 0) (zB_sc hs) (by decide)
  refine ⟨im', ?_, by rw [g3 _ (by omega), up_j (by decide), up_eq], by rw [g3 _ (by omega), up_eq], g2, fun k h1 h2 => by rw [g3 k h2, up_r h1, up_r h1]⟩
  match s, hs with
  | 0, _ => exact zEv_o rfl (t_X6_become_37 ⟨im', g1, rfl, rfl⟩)
  | 1, _ => exact zEv_o rfl (t_X6_become_39 ⟨im', g1, rfl, rfl⟩)
  | 2, _ => exact zEv_o rfl (t_X6_become_41 ⟨im', g1, rfl, rfl⟩)
  | 3, _ => exact zEv_o rfl (t_X6_become_43 ⟨im', g1, rfl, rfl⟩)
theorem c_shput {d s i z : Nat} {v sort : Int32} {tl : List (Nat × Nat)} {q : zR} {im : zI} (hs : s < 4) (h1 : im (37 + 2 * s) 1 = sort) (h2 : im (37 + 2 * s) 2 = Int32.ofNat z) (hz : z ≤ 40) (hi : i < z) :
    zEv (d + 1) 16 [.ref (37 + 2 * s), .int (Int32.ofNat i), .int v] (zMm tl q im) none (zMm tl q (up2 im (38 + 2 * s) i (yCv sort v))) := by
  have n1 := zi_neg (show i < 2147483648 by omega)
  have n2 : ¬ Int32.ofNat z ≤ Int32.ofNat i := fun h => absurd ((zi_le (by omega) (by omega)).mp h) (by omega)
  have v40 := zi_in (show i < 40 by omega) (show i < 2147483648 by omega)
  unfold yCv
  match s, hs with
  | 0, _ =>
    refine zEv_o rfl (t_X6_put_37 ?_)
    have h1' : im 37 1 = sort := h1
    have h2' : im 37 2 = Int32.ofNat z := h2
    rw [h1', h2', zi_n (show i < 2147483648 by omega)]
    refine ⟨fun h => absurd h n1, fun _ => ⟨fun h => absurd h n2, fun _ => ⟨fun e => ⟨fun e2 => ⟨v40, rfl, ?_⟩, fun e2 => ⟨v40, rfl, ?_⟩⟩, fun e => ⟨v40, rfl, ?_⟩⟩⟩⟩
    · rw [if_neg e, if_neg e2]
    · rw [if_neg e, if_pos e2]
    · rw [if_pos e]
  | 1, _ =>
    refine zEv_o rfl (t_X6_put_39 ?_)
    have h1' : im 39 1 = sort := h1
    have h2' : im 39 2 = Int32.ofNat z := h2
    rw [h1', h2', zi_n (show i < 2147483648 by omega)]
    refine ⟨fun h => absurd h n1, fun _ => ⟨fun h => absurd h n2, fun _ => ⟨fun e => ⟨fun e2 => ⟨v40, rfl, ?_⟩, fun e2 => ⟨v40, rfl, ?_⟩⟩, fun e => ⟨v40, rfl, ?_⟩⟩⟩⟩
    · rw [if_neg e, if_neg e2]
    · rw [if_neg e, if_pos e2]
    · rw [if_pos e]
  | 2, _ =>
    refine zEv_o rfl (t_X6_put_41 ?_)
    have h1' : im 41 1 = sort := h1
    have h2' : im 41 2 = Int32.ofNat z := h2
    rw [h1', h2', zi_n (show i < 2147483648 by omega)]
    refine ⟨fun h => absurd h n1, fun _ => ⟨fun h => absurd h n2, fun _ => ⟨fun e => ⟨fun e2 => ⟨v40, rfl, ?_⟩, fun e2 => ⟨v40, rfl, ?_⟩⟩, fun e => ⟨v40, rfl, ?_⟩⟩⟩⟩
    · rw [if_neg e, if_neg e2]
    · rw [if_neg e, if_pos e2]
    · rw [if_pos e]
  | 3, _ =>
    refine zEv_o rfl (t_X6_put_43 ?_)
    have h1' : im 43 1 = sort := h1
    have h2' : im 43 2 = Int32.ofNat z := h2
    rw [h1', h2', zi_n (show i < 2147483648 by omega)]
    refine ⟨fun h => absurd h n1, fun _ => ⟨fun h => absurd h n2, fun _ => ⟨fun e => ⟨fun e2 => ⟨v40, rfl, ?_⟩, fun e2 => ⟨v40, rfl, ?_⟩⟩, fun e => ⟨v40, rfl, ?_⟩⟩⟩⟩
    · rw [if_neg e, if_neg e2]
    · rw [if_neg e, if_pos e2]
    · rw [if_pos e]
/-- a sheet that is new -/
theorem yInv_sh {s : Nat} {x : Int32 × Nat × (Nat → Int32)} {tl : List (Nat × Nat)} {q : zR} {im im' : zI} {V : yV} {U : yU} (hI : yInv tl q im V U) (hs : s < 4)
    (hf : ∀ k j, ¬ (k = 37 + 2 * s ∨ k = 38 + 2 * s ∨ (k = 59 ∧ j = s) ∨ (k = 60 ∧ j = s) ∨ (k = 61 ∧ 40 * s ≤ j ∧ j < 40 * s + 40)) → ¬ yScr k j → im' k j = im k j)
    (hz : x.2.1 ≤ 40) (h1 : im' (37 + 2 * s) 1 = x.1) (h2 : im' (37 + 2 * s) 2 = Int32.ofNat x.2.1) (h3 : ∀ j, j < 40 → im' (38 + 2 * s) j = x.2.2 j) (h4 : im' 59 s = x.1) (h5 : im' 60 s = Int32.ofNat x.2.1) (h6 : ∀ j, j < 40 → im' 61 (40 * s + j) = x.2.2 j) : yInv tl q im' V (yuSet U s x) := by
  obtain ⟨⟨hG, hA, hB⟩, ⟨ht, hh, hi, hw⟩, hm⟩ := hI
  have r : ∀ k, k ≠ 37 + 2 * s → k ≠ 38 + 2 * s → k ≠ 59 → k ≠ 60 → k ≠ 61 → ¬ (20 < k ∧ k < 37) → ¬ (63 < k ∧ k < 72) → k ≠ 47 → im' k = im k := fun k a b c d e f g h => funext fun j => hf k j (by omega) (by unfold yScr; omega)
  refine ⟨⟨hG, yA_ag hA ?_ (fun k a b => r k (by omega) (by omega) (by omega) (by omega) (by omega) (by omega) (by omega) (by omega)) (fun k hk => r k (by omega) (by omega) (by omega) (by omega) (by omega) (by omega) (by omega) (by omega)), yB_ag hB (fun j hj => hf 47 j (by omega) (by unfold yScr; omega)) (fun k a b => r k (by omega) (by omega) (by omega) (by omega) (by omega) (by omega) (by omega) (by omega)) (r 55 (by omega) (by omega) (by omega) (by omega) (by omega) (by omega) (by omega) (by omega)) (r 56 (by omega) (by omega) (by omega) (by omega) (by omega) (by omega) (by omega) (by omega))⟩, ⟨?_, ?_, ?_, fun j hj => (congrFun (r 63 (by omega) (by omega) (by omega) (by omega) (by omega) (by omega) (by omega) (by omega)) j).trans (hw j hj)⟩, hm⟩
  · rw [r 0 (by omega) (by omega) (by omega) (by omega) (by omega) (by omega) (by omega) (by omega)]
  · exact yHt_ag (U := U) ht (r 17 (by omega) (by omega) (by omega) (by omega) (by omega) (by omega) (by omega) (by omega)) (r 18 (by omega) (by omega) (by omega) (by omega) (by omega) (by omega) (by omega) (by omega)) (r 54 (by omega) (by omega) (by omega) (by omega) (by omega) (by omega) (by omega) (by omega)) (hf 47 9 (by omega) (by unfold yScr; omega))
  · intro s' hs'
    by_cases e : s' = s
    · subst e
      have e1 : ∀ {β : Type} (f : Int32 × Nat × (Nat → Int32) → β), f ((yuSet U s' x).2.1 s') = f x := fun f => by
        show f (if s' = s' then x else _) = f x
        rw [if_pos rfl]
      have a1 : yuS (yuSet U s' x) s' = x.1 := e1 (fun y => y.1)
      have a2 : yuZ (yuSet U s' x) s' = x.2.1 := e1 (fun y => y.2.1)
      have a3 : yuC (yuSet U s' x) s' = x.2.2 := e1 (fun y => y.2.2)
      rw [a1, a2, a3]
      exact ⟨h1, h2, hz, h3, h4, h5, h6⟩
    · have e1 : ∀ {β : Type} (f : Int32 × Nat × (Nat → Int32) → β), f ((yuSet U s x).2.1 s') = f (U.2.1 s') := fun f => by
        show f (if s' = s then x else U.2.1 s') = _
        rw [if_neg e]
      have a1 : yuS (yuSet U s x) s' = yuS U s' := e1 (fun y => y.1)
      have a2 : yuZ (yuSet U s x) s' = yuZ U s' := e1 (fun y => y.2.1)
      have a3 : yuC (yuSet U s x) s' = yuC U s' := e1 (fun y => y.2.2)
      rw [a1, a2, a3]
      obtain ⟨b1, b2, b3, b4, b5, b6, b7⟩ := hh s' hs'
      have r37 : im' (37 + 2 * s') = im (37 + 2 * s') := r _ (by omega) (by omega) (by omega) (by omega) (by omega) (by omega) (by omega) (by omega)
      have r38 : im' (38 + 2 * s') = im (38 + 2 * s') := r _ (by omega) (by omega) (by omega) (by omega) (by omega) (by omega) (by omega) (by omega)
      rw [r37, r38, hf 59 s' (by omega) (by unfold yScr; omega), hf 60 s' (by omega) (by unfold yScr; omega)]
      refine ⟨b1, b2, b3, b4, b5, b6, fun j hj => ?_⟩
      rw [hf 61 (40 * s' + j) (by omega) (by unfold yScr; omega)]
      exact b7 j hj
  · exact yHi_ag (U := U) hi (by rw [r 0 (by omega) (by omega) (by omega) (by omega) (by omega) (by omega) (by omega) (by omega)]) (fun j a b => hf 47 j (by omega) (by unfold yScr; omega)) (fun k a b => r k (by omega) (by omega) (by omega) (by omega) (by omega) (by omega) (by omega) (by omega)) (r 57 (by omega) (by omega) (by omega) (by omega) (by omega) (by omega) (by omega) (by omega)) (r 58 (by omega) (by omega) (by omega) (by omega) (by omega) (by omega) (by omega) (by omega))
/-- the Model makes a sheet's cells 0 -/
theorem m_sheet42 {d s : Nat} {x2 x3 : Int32} {tl : List (Nat × Nat)} {q : zR} {im0 : zI} (hs : s < 4) :
    ∀ m k im1, k + m = 40 → (∀ c j, ¬ (c = 61 ∧ 40 * s ≤ j ∧ j < 40 * s + 40) → im1 c j = im0 c j) → (∀ j, j < k → im1 61 (40 * s + j) = 0) → ∃ im', zX d zc_X12_sheet 42 [(0, .ref 47), (1, .int (Int32.ofNat s)), (2, .int x2), (3, .int x3), (4, .int (Int32.ofNat k))] [] (zMm tl q im1) (fun x y => x = some (.int 1) ∧ y = zMm tl q im') ∧ (∀ c j, ¬ (c = 61 ∧ 40 * s ≤ j ∧ j < 40 * s + 40) → im' c j = im0 c j) ∧ (∀ j, j < 40 → im' 61 (40 * s + j) = 0) := by
  intro m
  induction m with
  | zero =>
    intro k im1 hk hF h61
    have e : k = 40 := by omega
    subst e
    exact ⟨im1, t_X12_sheet_42 ⟨fun _ => ⟨rfl, rfl⟩, fun h => absurd (by decide) h⟩, hF, h61⟩
  | succ m ih =>
    intro k im1 hk hF h61
    have e1 : ((40 : Int32) * Int32.ofNat s) + Int32.ofNat k = Int32.ofNat (40 * s + k) := by rw [Int32.ofNat_add, Int32.ofNat_mul]; rfl
    obtain ⟨im', h1, h2⟩ := ih (k + 1) (up2 im1 61 (40 * s + k) 0) (by omega) (fun c j hc => by
      by_cases e : c = 61
      · subst e
        rw [up_j (by omega)]
        exact hF 61 j hc
      · rw [up_k e]; exact hF c j hc) (fun j hj => by
      by_cases e : j = k
      · subst e; exact up_eq
      · rw [up_j (by omega)]; exact h61 j (by omega))
    refine ⟨im', t_X12_sheet_42 ?_, h2⟩
    rw [e1, zi_n (show 40 * s + k < 2147483648 by omega), zi_s (a := k)]
    exact ⟨fun h => absurd ((zi_le (a := 40) (by omega) (by omega)).mp h) (by omega), fun _ => ⟨zi_in (by omega) (by omega), h1⟩⟩
theorem k_sheet {d : Nat} {a b c : Int32} {tl : List (Nat × Nat)} {q : zR} {im : zI} {V : yV} {U : yU} (hI : yInv tl q im V U) : yCall (d + 10) 103 218 [.int a, .int b, .int c] tl q im (yOk tl q) := by
  have hin : ∀ im, zEv (d + 9) 136 [.int b, .int (-1 : Int32), .int (2 : Int32)] (zMm tl q im) (some (.int (zb (decide (-1 ≤ b) && decide (b ≤ 2))))) (zMm tl q im) := fun im => m_in
  cases h1 : bW a 3 with
  | false => exact ⟨-2, im, im, zEv_o rfl (t_X11_sheet ⟨_, _, cS_f h1, fun _ => ⟨rfl, rfl⟩, fun e => absurd rfl e⟩), zEv_o rfl (t_X12_sheet ⟨_, _, mW_f (m := 3) h1, fun _ => ⟨rfl, rfl⟩, fun e => absurd rfl e⟩), V, U, hI⟩
  | true =>
    by_cases h2 : b < -1
    · have hf : (decide (-1 ≤ b) && decide (b ≤ 2)) = false := by rw [decide_eq_false (Int32.not_le.mpr h2)]; rfl
      refine ⟨-2, im, im, zEv_o rfl (t_X11_sheet ⟨_, _, cS_t h1, fun e => absurd e n10, fun _ => ⟨fun _ => ⟨rfl, rfl⟩, fun h => absurd h2 h⟩⟩), zEv_o rfl (t_X12_sheet ⟨_, _, mW_t (m := 3) h1, fun e => absurd e n10, fun _ => ⟨_, _, hin im, ?_⟩⟩), V, U, hI⟩
      rw [hf]
      exact ⟨fun _ => ⟨rfl, rfl⟩, fun e => absurd rfl e⟩
    · by_cases h3 : 2 < b
      · have hf : (decide (-1 ≤ b) && decide (b ≤ 2)) = false := by rw [decide_eq_false (Int32.not_le.mpr h3), Bool.and_false]
        refine ⟨-2, im, im, zEv_o rfl (t_X11_sheet ⟨_, _, cS_t h1, fun e => absurd e n10, fun _ => ⟨fun h => absurd h h2, fun _ => ⟨fun _ => ⟨rfl, rfl⟩, fun h => absurd h3 h⟩⟩⟩), zEv_o rfl (t_X12_sheet ⟨_, _, mW_t (m := 3) h1, fun e => absurd e n10, fun _ => ⟨_, _, hin im, ?_⟩⟩), V, U, hI⟩
        rw [hf]
        exact ⟨fun _ => ⟨rfl, rfl⟩, fun e => absurd rfl e⟩
      · have hf : (decide (-1 ≤ b) && decide (b ≤ 2)) = true := by rw [decide_eq_true (Int32.not_lt.mp h2), decide_eq_true (Int32.not_lt.mp h3)]; rfl
        have hin1 : ∀ im, zEv (d + 9) 136 [.int b, .int (-1 : Int32), .int (2 : Int32)] (zMm tl q im) (some (.int 1)) (zMm tl q im) := fun im => by
          have := hin im
          rw [hf] at this
          exact this
        obtain ⟨s, hs, rfl⟩ := bW_ex (by decide) h1
        have hs4 : s < 4 := hs
        have v4 := zi_in hs4 (show s < 2147483648 by omega)
        -- what is made
        have go : ∀ (n : Nat), n ≤ 40 → ∃ im1 im2, zEv (d + 9) 15 [.ref (37 + 2 * s), .int b, .int (Int32.ofNat n)] (zMm tl q im) none (zMm tl q im1) ∧ zX (d + 9) zc_X12_sheet 42 [(0, .ref 47), (1, .int (Int32.ofNat s)), (2, .int b), (3, .int c), (4, .int (0 : Int32))] [] (zMm tl q (up2 (up2 im1 59 s b) 60 s (Int32.ofNat n))) (fun x y => x = some (.int 1) ∧ y = zMm tl q im2) ∧ yOk tl q im2 := by
          intro n hn
          obtain ⟨im1, g1, g2, g3, g4, g5⟩ := c_become (d := d + 7) (a := b) (b := Int32.ofNat n) (tl := tl) (q := q) (im := im) hs4
          obtain ⟨im2, e1, e2, e3⟩ := m_sheet42 (d := d + 9) (x2 := b) (x3 := c) (tl := tl) (q := q) (im0 := up2 (up2 im1 59 s b) 60 s (Int32.ofNat n)) hs4 40 0 _ (by omega) (fun _ _ _ => rfl) (fun j hj => absurd hj (by omega))
          refine ⟨im1, im2, g1, e1, V, yuSet U s (b, n, fun _ => 0), yInv_sh hI hs4 (fun k j hk hsc => ?_) hn ?_ ?_ (fun j hj => ?_) ?_ ?_ e3⟩
          · rw [e2 k j (by omega)]
            have e5 : up2 (up2 im1 59 s b) 60 s (Int32.ofNat n) k j = im1 k j := by
              by_cases a : k = 60
              · subst a; rw [up_j (by omega), up_k (by omega)]
              · rw [up_k a]
                by_cases a2 : k = 59
                · subst a2; rw [up_j (by omega)]
                · rw [up_k a2]
            rw [e5, g5 k (by omega) (by omega)]
          · rw [e2 _ _ (by omega), up_k (by omega), up_k (by omega)]; exact g2
          · rw [e2 _ _ (by omega), up_k (by omega), up_k (by omega)]; exact g3
          · rw [e2 _ _ (by omega), up_k (by omega), up_k (by omega)]; exact g4 j hj
          · rw [e2 _ _ (by omega), up_k (by omega), up_eq]
          · rw [e2 _ _ (by omega), up_eq]
        by_cases h4 : b = -1
        · obtain ⟨im1, im2, g1, g2, g3⟩ := go 0 (by omega)
          refine ⟨1, im1, im2, zEv_o rfl (t_X11_sheet ⟨_, _, cS_t h1, fun e => absurd e n10, fun _ => ⟨fun h => absurd h h2, fun _ => ⟨fun h => absurd h h3, fun _ => ⟨fun _ => ⟨fun _ => ⟨v4, ?_⟩, fun h => absurd h4 h⟩, fun h => absurd h4 h⟩⟩⟩⟩), zEv_o rfl (t_X12_sheet ⟨_, _, mW_t (m := 3) h1, fun e => absurd e n10, fun _ => ⟨_, _, hin1 im1, fun e => absurd e n10, fun _ => ⟨fun _ => ⟨fun _ => ⟨v4, fun h => absurd h4 h, fun _ => ⟨v4, ?_⟩⟩, fun h => absurd h4 h⟩, fun h => absurd h4 h⟩⟩⟩), g3⟩
          · rw [zi_n (show s < 2147483648 by omega), zRf_sh hs4]
            refine ⟨fun h => absurd h4 h, fun _ => ?_⟩
            rw [zB_sh hs4]
            exact ⟨im1, g1, rfl, rfl⟩
          · rw [zi_n (show s < 2147483648 by omega)]
            exact g2
        · by_cases h5 : c ≤ 40
          · by_cases h6 : 0 ≤ c
            · obtain ⟨n, hn, rfl⟩ : ∃ k, k ≤ 40 ∧ c = Int32.ofNat k := by
                obtain ⟨k, hk, ek⟩ := zi_ex2 (n := 41) (Int32.not_lt.mpr h6) (Int32.lt_of_le_of_lt h5 (by decide)) (by decide)
                exact ⟨k, by omega, ek⟩
              obtain ⟨im1, im2, g1, g2, g3⟩ := go n hn
              refine ⟨1, im1, im2, zEv_o rfl (t_X11_sheet ⟨_, _, cS_t h1, fun e => absurd e n10, fun _ => ⟨fun h => absurd h h2, fun _ => ⟨fun h => absurd h h3, fun _ => ⟨fun h => absurd h h4, fun _ => ⟨fun _ => ⟨fun h => absurd h h4, fun _ => ⟨fun _ => ⟨v4, ?_⟩, fun h => absurd h6 h⟩⟩, fun h => absurd h5 h⟩⟩⟩⟩⟩), zEv_o rfl (t_X12_sheet ⟨_, _, mW_t (m := 3) h1, fun e => absurd e n10, fun _ => ⟨_, _, hin1 im1, fun e => absurd e n10, fun _ => ⟨fun h => absurd h h4, fun _ => ⟨fun _ => ⟨fun h => absurd h h4, fun _ => ⟨fun _ => ⟨v4, fun _ => ⟨v4, ?_⟩, fun h => absurd h h4⟩, fun h => absurd h6 h⟩⟩, fun h => absurd h5 h⟩⟩⟩⟩), g3⟩
              · rw [zi_n (show s < 2147483648 by omega), zRf_sh hs4]
                refine ⟨fun _ => ?_, fun h => absurd h h4⟩
                rw [zB_sh hs4]
                exact ⟨im1, g1, rfl, rfl⟩
              · rw [zi_n (show s < 2147483648 by omega)]
                exact g2
            · exact ⟨-14, im, im, zEv_o rfl (t_X11_sheet ⟨_, _, cS_t h1, fun e => absurd e n10, fun _ => ⟨fun h => absurd h h2, fun _ => ⟨fun h => absurd h h3, fun _ => ⟨fun h => absurd h h4, fun _ => ⟨fun _ => ⟨fun h => absurd h h4, fun _ => ⟨fun h => absurd h h6, fun _ => ⟨rfl, rfl⟩⟩⟩, fun h => absurd h5 h⟩⟩⟩⟩⟩), zEv_o rfl (t_X12_sheet ⟨_, _, mW_t (m := 3) h1, fun e => absurd e n10, fun _ => ⟨_, _, hin1 im, fun e => absurd e n10, fun _ => ⟨fun h => absurd h h4, fun _ => ⟨fun _ => ⟨fun h => absurd h h4, fun _ => ⟨fun h => absurd h h6, fun _ => ⟨rfl, rfl⟩⟩⟩, fun h => absurd h5 h⟩⟩⟩⟩), V, U, hI⟩
          · exact ⟨-2, im, im, zEv_o rfl (t_X11_sheet ⟨_, _, cS_t h1, fun e => absurd e n10, fun _ => ⟨fun h => absurd h h2, fun _ => ⟨fun h => absurd h h3, fun _ => ⟨fun h => absurd h h4, fun _ => ⟨fun h => absurd h h5, fun _ => ⟨rfl, rfl⟩⟩⟩⟩⟩⟩), zEv_o rfl (t_X12_sheet ⟨_, _, mW_t (m := 3) h1, fun e => absurd e n10, fun _ => ⟨_, _, hin1 im, fun e => absurd e n10, fun _ => ⟨fun h => absurd h h4, fun _ => ⟨fun h => absurd h h5, fun _ => ⟨rfl, rfl⟩⟩⟩⟩⟩), V, U, hI⟩
