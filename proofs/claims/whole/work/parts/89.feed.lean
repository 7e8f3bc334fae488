/-! CALLS: feed, wise, copy -/
theorem cBy_t {d : Nat} {v : Int32} {tl : List (Nat × Nat)} {q : zR} {im : zI} (h : bW v 255 = true) : zEv (d + 2) 109 [.int v] (zMm tl q im) (some (.int 1)) (zMm tl q im) := by
  have := c_isByte (d := d) (tl := tl) (q := q) (im := im) (v := v)
  rw [show (decide (0 ≤ v) && decide (v ≤ 255)) = true from h] at this
  exact this
theorem cBy_f {d : Nat} {v : Int32} {tl : List (Nat × Nat)} {q : zR} {im : zI} (h : bW v 255 = false) : zEv (d + 2) 109 [.int v] (zMm tl q im) (some (.int 0)) (zMm tl q im) := by
  have := c_isByte (d := d) (tl := tl) (q := q) (im := im) (v := v)
  rw [show (decide (0 ≤ v) && decide (v ≤ 255)) = false from h] at this
  exact this
theorem mBy_t {d : Nat} {v : Int32} {tl : List (Nat × Nat)} {q : zR} {im : zI} (h : bW v 255 = true) : zEv (d + 2) 147 [.int v] (zMm tl q im) (some (.int 1)) (zMm tl q im) := by
  have := m_isByte (d := d) (tl := tl) (q := q) (im := im) (v := v)
  rw [show (decide (0 ≤ v) && decide (v ≤ 255)) = true from h] at this
  exact this
theorem mBy_f {d : Nat} {v : Int32} {tl : List (Nat × Nat)} {q : zR} {im : zI} (h : bW v 255 = false) : zEv (d + 2) 147 [.int v] (zMm tl q im) (some (.int 0)) (zMm tl q im) := by
  have := m_isByte (d := d) (tl := tl) (q := q) (im := im) (v := v)
  rw [show (decide (0 ≤ v) && decide (v ≤ 255)) = false from h] at this
  exact this
def yFd (a b c e f : Int32) (k : Nat) : Int32 := if k = 0 then a else if k = 1 then b else if k = 2 then c else if k = 3 then e else f
def yuFeed (U : yU) (n : Nat) (g : Nat → Int32) : yU := ((yuN U + n, fun k => if k < yuN U then yuB U k else g (k - yuN U)), U.2)
theorem k_feed {d : Nat} {n a b c e f : Int32} {tl : List (Nat × Nat)} {q : zR} {im : zI} {V : yV} {U : yU} (hI : yInv tl q im V U) : yCall (d + 10) 71 148 [.int n, .int a, .int b, .int c, .int e, .int f] tl q im (yOk tl q) := by
  obtain ⟨⟨hG, hA, hB⟩, ⟨hT, hSh, hi, hw⟩, hm⟩ := id hI
  obtain ⟨t1, t2, t3, t4⟩ := hT
  have hin : ∀ im, zEv (d + 9) 136 [.int n, .int (1 : Int32), .int (5 : Int32)] (zMm tl q im) (some (.int (zb (decide (1 ≤ n) && decide (n ≤ 5))))) (zMm tl q im) := fun im => m_in
  by_cases h1 : n < 1
  · have hf : (decide (1 ≤ n) && decide (n ≤ 5)) = false := by rw [decide_eq_false (Int32.not_le.mpr h1)]; rfl
    refine ⟨-2, im, im, zEv_o rfl (t_X11_feed ⟨fun _ => ⟨rfl, rfl⟩, fun h => absurd h1 h⟩), zEv_o rfl (t_X12_feed ⟨_, _, hin im, ?_⟩), V, U, hI⟩
    rw [hf]
    exact ⟨fun _ => ⟨rfl, rfl⟩, fun e => absurd rfl e⟩
  · by_cases h2 : 5 < n
    · have hf : (decide (1 ≤ n) && decide (n ≤ 5)) = false := by rw [decide_eq_false (Int32.not_le.mpr h2), Bool.and_false]
      refine ⟨-2, im, im, zEv_o rfl (t_X11_feed ⟨fun h => absurd h h1, fun _ => ⟨fun _ => ⟨rfl, rfl⟩, fun h => absurd h2 h⟩⟩), zEv_o rfl (t_X12_feed ⟨_, _, hin im, ?_⟩), V, U, hI⟩
      rw [hf]
      exact ⟨fun _ => ⟨rfl, rfl⟩, fun e => absurd rfl e⟩
    · have hf : (decide (1 ≤ n) && decide (n ≤ 5)) = true := by rw [decide_eq_true (Int32.not_lt.mp h1), decide_eq_true (Int32.not_lt.mp h2)]; rfl
      have hin1 : ∀ im, zEv (d + 9) 136 [.int n, .int (1 : Int32), .int (5 : Int32)] (zMm tl q im) (some (.int 1)) (zMm tl q im) := fun im => by
        have := hin im
        rw [hf] at this
        exact this
      have bad : yOk tl q im := ⟨V, U, hI⟩
      cases b1 : bW a 255 with
      | false => exact ⟨-2, im, im, zEv_o rfl (t_X11_feed ⟨fun h => absurd h h1, fun _ => ⟨fun h => absurd h h2, fun _ => ⟨_, _, cBy_f b1, fun _ => ⟨rfl, rfl⟩, fun e => absurd rfl e⟩⟩⟩), zEv_o rfl (t_X12_feed ⟨_, _, hin1 im, fun e => absurd e n10, fun _ => ⟨_, _, mBy_f b1, fun _ => ⟨rfl, rfl⟩, fun e => absurd rfl e⟩⟩), bad⟩
      | true =>
        cases b2 : bW b 255 with
        | false => exact ⟨-2, im, im, zEv_o rfl (t_X11_feed ⟨fun h => absurd h h1, fun _ => ⟨fun h => absurd h h2, fun _ => ⟨_, _, cBy_t b1, fun e => absurd e n10, fun _ => ⟨_, _, cBy_f b2, fun _ => ⟨rfl, rfl⟩, fun e => absurd rfl e⟩⟩⟩⟩), zEv_o rfl (t_X12_feed ⟨_, _, hin1 im, fun e => absurd e n10, fun _ => ⟨_, _, mBy_t b1, fun e => absurd e n10, fun _ => ⟨_, _, mBy_f b2, fun _ => ⟨rfl, rfl⟩, fun e => absurd rfl e⟩⟩⟩), bad⟩
        | true =>
          cases b3 : bW c 255 with
          | false => exact ⟨-2, im, im, zEv_o rfl (t_X11_feed ⟨fun h => absurd h h1, fun _ => ⟨fun h => absurd h h2, fun _ => ⟨_, _, cBy_t b1, fun e => absurd e n10, fun _ => ⟨_, _, cBy_t b2, fun e => absurd e n10, fun _ => ⟨_, _, cBy_f b3, fun _ => ⟨rfl, rfl⟩, fun e => absurd rfl e⟩⟩⟩⟩⟩), zEv_o rfl (t_X12_feed ⟨_, _, hin1 im, fun e => absurd e n10, fun _ => ⟨_, _, mBy_t b1, fun e => absurd e n10, fun _ => ⟨_, _, mBy_t b2, fun e => absurd e n10, fun _ => ⟨_, _, mBy_f b3, fun _ => ⟨rfl, rfl⟩, fun e => absurd rfl e⟩⟩⟩⟩), bad⟩
          | true =>
            cases b4 : bW e 255 with
            | false => exact ⟨-2, im, im, zEv_o rfl (t_X11_feed ⟨fun h => absurd h h1, fun _ => ⟨fun h => absurd h h2, fun _ => ⟨_, _, cBy_t b1, fun e => absurd e n10, fun _ => ⟨_, _, cBy_t b2, fun e => absurd e n10, fun _ => ⟨_, _, cBy_t b3, fun e => absurd e n10, fun _ => ⟨_, _, cBy_f b4, fun _ => ⟨rfl, rfl⟩, fun e => absurd rfl e⟩⟩⟩⟩⟩⟩), zEv_o rfl (t_X12_feed ⟨_, _, hin1 im, fun e => absurd e n10, fun _ => ⟨_, _, mBy_t b1, fun e => absurd e n10, fun _ => ⟨_, _, mBy_t b2, fun e => absurd e n10, fun _ => ⟨_, _, mBy_t b3, fun e => absurd e n10, fun _ => ⟨_, _, mBy_f b4, fun _ => ⟨rfl, rfl⟩, fun e => absurd rfl e⟩⟩⟩⟩⟩), bad⟩
            | true =>
              cases b5 : bW f 255 with
              | false => exact ⟨-2, im, im, zEv_o rfl (t_X11_feed ⟨fun h => absurd h h1, fun _ => ⟨fun h => absurd h h2, fun _ => ⟨_, _, cBy_t b1, fun e => absurd e n10, fun _ => ⟨_, _, cBy_t b2, fun e => absurd e n10, fun _ => ⟨_, _, cBy_t b3, fun e => absurd e n10, fun _ => ⟨_, _, cBy_t b4, fun e => absurd e n10, fun _ => ⟨_, _, cBy_f b5, fun e => absurd rfl e, fun _ => ⟨rfl, rfl⟩⟩⟩⟩⟩⟩⟩⟩), zEv_o rfl (t_X12_feed ⟨_, _, hin1 im, fun e => absurd e n10, fun _ => ⟨_, _, mBy_t b1, fun e => absurd e n10, fun _ => ⟨_, _, mBy_t b2, fun e => absurd e n10, fun _ => ⟨_, _, mBy_t b3, fun e => absurd e n10, fun _ => ⟨_, _, mBy_t b4, fun e => absurd e n10, fun _ => ⟨_, _, mBy_f b5, fun e => absurd rfl e, fun _ => ⟨rfl, rfl⟩⟩⟩⟩⟩⟩⟩), bad⟩
              | true =>
                obtain ⟨m, hm1, hm5, rfl⟩ : ∃ k, 1 ≤ k ∧ k ≤ 5 ∧ n = Int32.ofNat k := by
                  have h0 : ¬ n < 0 := fun h => h1 (Int32.lt_trans h (by decide))
                  obtain ⟨k, hk, ek⟩ := zi_ex2 (n := 6) h0 (Int32.lt_of_le_of_lt (Int32.not_lt.mp h2) (by decide)) (by decide)
                  rw [ek] at h1
                  have h4 : ¬ k < 1 := fun h => h1 ((zi_lt (b := 1) (by omega) (by omega)).mpr h)
                  exact ⟨k, by omega, by omega, ek⟩
                have hadd : Int32.ofNat (yuN U) + Int32.ofNat m = Int32.ofNat (yuN U + m) := (Int32.ofNat_add _ _).symm
                have hle : Int32.ofNat (yuN U + m) ≤ (160 : Int32) ↔ yuN U + m ≤ 160 := zi_le (b := 160) (by omega) (by omega)
                by_cases hfull : yuN U + m ≤ 160
                · have lc : ∀ j k im1, k + j = m → (∀ x y, ¬ (x = 18 ∨ (x = 17 ∧ y = 1)) → im1 x y = im x y) → im1 17 1 = Int32.ofNat (yuN U + k) → (∀ y, y < yuN U + k → im1 18 y = if y < yuN U then yuB U y else yFd a b c e f (y - yuN U)) →
                      ∃ im', zX (d + 9) zc_X11_feed 34 [(0, .ref 0), (1, .int (Int32.ofNat m)), (2, .int a), (3, .int b), (4, .int c), (5, .int e), (6, .int f), (7, .int (Int32.ofNat k))] [] (zMm tl q im1) (fun x y => x = some (.int (Int32.ofNat (yuN U + m))) ∧ y = zMm tl q im') ∧ (∀ x y, ¬ (x = 18 ∨ (x = 17 ∧ y = 1)) → im' x y = im x y) ∧ im' 17 1 = Int32.ofNat (yuN U + m) ∧ (∀ y, y < yuN U + m → im' 18 y = if y < yuN U then yuB U y else yFd a b c e f (y - yuN U)) := by
                    intro j
                    induction j with
                    | zero =>
                      intro k im1 hk hF e1 e2
                      have ek : k = m := by omega
                      subst ek
                      refine ⟨im1, t_X11_feed_34 ⟨fun _ => ⟨?_, rfl⟩, fun h => absurd ((zi_le (by omega) (by omega)).mpr (Nat.le_refl _)) h⟩, hF, e1, e2⟩
                      rw [e1]
                    | succ j ih =>
                      intro k im1 hk hF e1 e2
                      have hap : ∀ v, zEv (d + 9) 19 [.ref 17, .int v] (zMm tl q im1) none (zMm tl q (up2 (up2 im1 18 (yuN U + k) v) 17 1 (Int32.ofNat (yuN U + k) + 1))) := fun v => by
                        refine zEv_o rfl (t_X7_append ?_)
                        rw [e1, zi_n (show yuN U + k < 2147483648 by omega)]
                        exact ⟨fun h => absurd ((zi_le (a := 160) (by omega) (by omega)).mp h) (by omega), fun _ => ⟨zi_in (by omega) (by omega), rfl, rfl⟩⟩
                      obtain ⟨im', g1, g2⟩ := ih (k + 1) (up2 (up2 im1 18 (yuN U + k) (yFd a b c e f k)) 17 1 (Int32.ofNat (yuN U + k) + 1)) (by omega) (fun x y hx => by
                        by_cases a1 : x = 17
                        · subst a1; rw [up_j (by omega), up_k (by omega)]; exact hF _ _ hx
                        · rw [up_k a1, up_k (by omega)]; exact hF _ _ hx) (by rw [up_eq, zi_s]; rfl) (fun y hy => by
                        rw [up_k (by decide)]
                        by_cases ey : y = yuN U + k
                        · rw [ey, up_eq, if_neg (by omega), show yuN U + k - yuN U = k by omega]
                        · rw [up_j ey]; exact e2 y (by omega))
                      have ex : ∀ z, z < 5 → (Int32.ofNat k = Int32.ofNat z ↔ k = z) := fun z hz => zi_eq (by omega) (by omega)
                      refine ⟨im', t_X11_feed_34 ⟨fun h => absurd ((zi_le (by omega) (by omega)).mp h) (by omega), fun _ => ?_⟩, g2⟩
                      have y0 := ex 0 (by omega)
                      have y1 := ex 1 (by omega)
                      have y2 := ex 2 (by omega)
                      have y3 := ex 3 (by omega)
                      rw [zi_s (a := k)]
                      refine ⟨fun c0 => ⟨fun c1 => ⟨fun c2 => ⟨fun c3 => ⟨_, hap f, ?_⟩, fun c3 => ⟨_, hap e, ?_⟩⟩, fun c2 => ⟨_, hap c, ?_⟩⟩, fun c1 => ⟨_, hap b, ?_⟩⟩, fun c0 => ⟨_, hap a, ?_⟩⟩
                      · have : yFd a b c e f k = f := by unfold yFd; rw [if_neg (fun h => c0 (y0.mpr h)), if_neg (fun h => c1 (y1.mpr h)), if_neg (fun h => c2 (y2.mpr h)), if_neg (fun h => c3 (y3.mpr h))]
                        rw [this] at g1; exact g1
                      · have : yFd a b c e f k = e := by unfold yFd; rw [if_neg (fun h => c0 (y0.mpr h)), if_neg (fun h => c1 (y1.mpr h)), if_neg (fun h => c2 (y2.mpr h)), if_pos (y3.mp c3)]
                        rw [this] at g1; exact g1
                      · have : yFd a b c e f k = c := by unfold yFd; rw [if_neg (fun h => c0 (y0.mpr h)), if_neg (fun h => c1 (y1.mpr h)), if_pos (y2.mp c2)]
                        rw [this] at g1; exact g1
                      · have : yFd a b c e f k = b := by unfold yFd; rw [if_neg (fun h => c0 (y0.mpr h)), if_pos (y1.mp c1)]
                        rw [this] at g1; exact g1
                      · have : yFd a b c e f k = a := by unfold yFd; rw [if_pos (y0.mp c0)]
                        rw [this] at g1; exact g1
                  have lm : ∀ (j k : Nat) (im0 im1 : zI), k + j = m → (∀ x y, ¬ (x = 54 ∨ (x = 47 ∧ y = 9)) → im1 x y = im0 x y) → im1 47 9 = Int32.ofNat (yuN U + k) → (∀ y, y < yuN U + k → im1 54 y = if y < yuN U then yuB U y else yFd a b c e f (y - yuN U)) →
                      ∃ im', zX (d + 9) zc_X12_feed 32 [(0, .ref 47), (1, .int (Int32.ofNat m)), (2, .int a), (3, .int b), (4, .int c), (5, .int e), (6, .int f), (7, .int (Int32.ofNat k))] [] (zMm tl q im1) (fun x y => x = some (.int (Int32.ofNat (yuN U + m))) ∧ y = zMm tl q im') ∧ (∀ x y, ¬ (x = 54 ∨ (x = 47 ∧ y = 9)) → im' x y = im0 x y) ∧ im' 47 9 = Int32.ofNat (yuN U + m) ∧ (∀ y, y < yuN U + m → im' 54 y = if y < yuN U then yuB U y else yFd a b c e f (y - yuN U)) := by
                    intro j
                    induction j with
                    | zero =>
                      intro k im0 im1 hk hF e1 e2
                      have ek : k = m := by omega
                      subst ek
                      refine ⟨im1, t_X12_feed_32 ⟨fun _ => ⟨?_, rfl⟩, fun h => absurd ((zi_le (by omega) (by omega)).mpr (Nat.le_refl _)) h⟩, hF, e1, e2⟩
                      rw [e1]
                    | succ j ih =>
                      intro k im0 im1 hk hF e1 e2
                      have v160 := zi_in (show yuN U + k < 160 by omega) (show yuN U + k < 2147483648 by omega)
                      obtain ⟨im', g1, g2⟩ := ih (k + 1) im0 (up2 (up2 im1 54 (yuN U + k) (yFd a b c e f k)) 47 9 (Int32.ofNat (yuN U + k) + 1)) (by omega) (fun x y hx => by
                        by_cases a1 : x = 47
                        · subst a1; rw [up_j (by omega), up_k (by omega)]; exact hF _ _ hx
                        · rw [up_k a1, up_k (by omega)]; exact hF _ _ hx) (by rw [up_eq, zi_s]; rfl) (fun y hy => by
                        rw [up_k (by decide)]
                        by_cases ey : y = yuN U + k
                        · rw [ey, up_eq, if_neg (by omega), show yuN U + k - yuN U = k by omega]
                        · rw [up_j ey]; exact e2 y (by omega))
                      have ex : ∀ z, z < 5 → (Int32.ofNat k = Int32.ofNat z ↔ k = z) := fun z hz => zi_eq (by omega) (by omega)
                      refine ⟨im', t_X12_feed_32 ⟨fun h => absurd ((zi_le (by omega) (by omega)).mp h) (by omega), fun _ => ?_⟩, g2⟩
                      have y0 := ex 0 (by omega)
                      have y1 := ex 1 (by omega)
                      have y2 := ex 2 (by omega)
                      have y3 := ex 3 (by omega)
                      rw [zi_s (a := k), e1, zi_n (show yuN U + k < 2147483648 by omega)]
                      refine ⟨fun c0 => ⟨fun c1 => ⟨fun c2 => ⟨fun c3 => ⟨v160, ?_⟩, fun c3 => ⟨v160, ?_⟩⟩, fun c2 => ⟨v160, ?_⟩⟩, fun c1 => ⟨v160, ?_⟩⟩, fun c0 => ⟨v160, ?_⟩⟩
                      · have : yFd a b c e f k = f := by unfold yFd; rw [if_neg (fun h => c0 (y0.mpr h)), if_neg (fun h => c1 (y1.mpr h)), if_neg (fun h => c2 (y2.mpr h)), if_neg (fun h => c3 (y3.mpr h))]
                        rw [this] at g1; exact g1
                      · have : yFd a b c e f k = e := by unfold yFd; rw [if_neg (fun h => c0 (y0.mpr h)), if_neg (fun h => c1 (y1.mpr h)), if_neg (fun h => c2 (y2.mpr h)), if_pos (y3.mp c3)]
                        rw [this] at g1; exact g1
                      · have : yFd a b c e f k = c := by unfold yFd; rw [if_neg (fun h => c0 (y0.mpr h)), if_neg (fun h => c1 (y1.mpr h)), if_pos (y2.mp c2)]
                        rw [this] at g1; exact g1
                      · have : yFd a b c e f k = b := by unfold yFd; rw [if_neg (fun h => c0 (y0.mpr h)), if_pos (y1.mp c1)]
                        rw [this] at g1; exact g1
                      · have : yFd a b c e f k = a := by unfold yFd; rw [if_pos (y0.mp c0)]
                        rw [this] at g1; exact g1
                  obtain ⟨im1, c1, c2, c3, c4⟩ := lc m 0 im (by omega) (fun _ _ _ => rfl) t1 (fun y hy => by rw [if_pos (by omega)]; exact (t4 y (by omega)).1)
                  obtain ⟨im2, d1, d2, d3, d4⟩ := lm m 0 im1 im1 (by omega) (fun _ _ _ => rfl) (by rw [c2 47 9 (by omega)]; exact t2) (fun y hy => by rw [if_pos (by omega), c2 54 y (by omega)]; exact (t4 y (by omega)).2.1)
                  have hr : ∀ x y, ¬ (x = 18 ∨ (x = 17 ∧ y = 1)) → ¬ (x = 54 ∨ (x = 47 ∧ y = 9)) → im2 x y = im x y := fun x y h1 h2 => by rw [d2 x y h2, c2 x y h1]
                  have hrr : ∀ x, x ≠ 18 → x ≠ 17 → x ≠ 54 → x ≠ 47 → im2 x = im x := fun x h1 h2 h3 h4 => funext fun y => hr x y (by omega) (by omega)
                  refine ⟨Int32.ofNat (yuN U + m), im1, im2, zEv_o rfl (t_X11_feed ⟨fun h => absurd h h1, fun _ => ⟨fun h => absurd h h2, fun _ => ⟨_, _, cBy_t b1, fun e => absurd e n10, fun _ => ⟨_, _, cBy_t b2, fun e => absurd e n10, fun _ => ⟨_, _, cBy_t b3, fun e => absurd e n10, fun _ => ⟨_, _, cBy_t b4, fun e => absurd e n10, fun _ => ⟨_, _, cBy_t b5, fun _ => ?_, fun e => absurd e n10⟩⟩⟩⟩⟩⟩⟩), zEv_o rfl (t_X12_feed ⟨_, _, hin1 im1, fun e => absurd e n10, fun _ => ⟨_, _, mBy_t b1, fun e => absurd e n10, fun _ => ⟨_, _, mBy_t b2, fun e => absurd e n10, fun _ => ⟨_, _, mBy_t b3, fun e => absurd e n10, fun _ => ⟨_, _, mBy_t b4, fun e => absurd e n10, fun _ => ⟨_, _, mBy_t b5, fun _ => ?_, fun e => absurd e n10⟩⟩⟩⟩⟩⟩), V, yuFeed U m (yFd a b c e f), ⟨hG, ?_, ?_⟩, ⟨⟨?_, d3, hfull, ?_⟩, ?_, ?_, fun j hj => (congrFun (hrr 63 (by decide) (by decide) (by decide) (by decide)) j).trans (hw j hj)⟩, hm⟩
                  · rw [t1, hadd, hle]
                    exact ⟨fun _ => c1, fun h => absurd hfull h⟩
                  · rw [c2 47 9 (by omega), t2, hadd, hle]
                    exact ⟨fun _ => d1, fun h => absurd hfull h⟩
                  · exact yA_ag hA (by rw [hrr 0 (by decide) (by decide) (by decide) (by decide)]) (fun k h1 h2 => hrr k (by omega) (by omega) (by omega) (by omega)) (fun k hk => hrr k (by omega) (by omega) (by omega) (by omega))
                  · exact yB_ag hB (fun j hj => hr 47 j (by omega) (by omega)) (fun k h1 h2 => hrr k (by omega) (by omega) (by omega) (by omega)) (hrr 55 (by decide) (by decide) (by decide) (by decide)) (hrr 56 (by decide) (by decide) (by decide) (by decide))
                  · rw [d2 17 1 (by omega)]; exact c3
                  · intro k hk
                    have hk' : k < yuN U + m := hk
                    have hval : yuB (yuFeed U m (yFd a b c e f)) k = if k < yuN U then yuB U k else yFd a b c e f (k - yuN U) := rfl
                    rw [hval]
                    refine ⟨by rw [d2 18 k (by omega)]; exact c4 k hk', d4 k hk', ?_⟩
                    by_cases hkn : k < yuN U
                    · rw [if_pos hkn]; exact (t4 k hkn).2.2
                    · rw [if_neg hkn]
                      unfold yFd
                      have bb : ∀ v : Int32, bW v 255 = true → ∃ z, z < 256 ∧ v = Int32.ofNat z := fun v hv => bW_ex (by decide) hv
                      split
                      · exact bb _ b1
                      · split
                        · exact bb _ b2
                        · split
                          · exact bb _ b3
                          · split
                            · exact bb _ b4
                            · exact bb _ b5
                  · exact yHs_ag (U := U) hSh (fun k h1 h2 => hrr k (by omega) (by omega) (by omega) (by omega)) (hrr 59 (by decide) (by decide) (by decide) (by decide)) (hrr 60 (by decide) (by decide) (by decide) (by decide)) (hrr 61 (by decide) (by decide) (by decide) (by decide))
                  · exact yHi_ag (U := U) hi (by rw [hrr 0 (by decide) (by decide) (by decide) (by decide)]) (fun j h1 h2 => hr 47 j (by omega) (by omega)) (fun k h1 h2 => hrr k (by omega) (by omega) (by omega) (by omega)) (hrr 57 (by decide) (by decide) (by decide) (by decide)) (hrr 58 (by decide) (by decide) (by decide) (by decide))
                · refine ⟨-4, im, im, zEv_o rfl (t_X11_feed ⟨fun h => absurd h h1, fun _ => ⟨fun h => absurd h h2, fun _ => ⟨_, _, cBy_t b1, fun e => absurd e n10, fun _ => ⟨_, _, cBy_t b2, fun e => absurd e n10, fun _ => ⟨_, _, cBy_t b3, fun e => absurd e n10, fun _ => ⟨_, _, cBy_t b4, fun e => absurd e n10, fun _ => ⟨_, _, cBy_t b5, fun _ => ?_, fun e => absurd e n10⟩⟩⟩⟩⟩⟩⟩), zEv_o rfl (t_X12_feed ⟨_, _, hin1 im, fun e => absurd e n10, fun _ => ⟨_, _, mBy_t b1, fun e => absurd e n10, fun _ => ⟨_, _, mBy_t b2, fun e => absurd e n10, fun _ => ⟨_, _, mBy_t b3, fun e => absurd e n10, fun _ => ⟨_, _, mBy_t b4, fun e => absurd e n10, fun _ => ⟨_, _, mBy_t b5, fun _ => ?_, fun e => absurd e n10⟩⟩⟩⟩⟩⟩), bad⟩
                  · rw [t1, hadd, hle]
                    exact ⟨fun h => absurd h hfull, fun _ => ⟨rfl, rfl⟩⟩
                  · rw [t2, hadd, hle]
                    exact ⟨fun h => absurd h hfull, fun _ => ⟨rfl, rfl⟩⟩
/-! wise -/
def yWv (V : yV) (p : Nat) : Nat → yV
  | 0 => V
  | t + 1 => yvGo (yWv V p t) p t (yBe (yWv V p t) t (ySp (yWv V p t) t) p)
theorem yWv_nm {V : yV} {p : Nat} : ∀ t, (yWv V p t).1 = V.1
  | 0 => rfl
  | t + 1 => yWv_nm t
theorem yWv_G {V : yV} {p : Nat} (h : yG V) : ∀ t, yG (yWv V p t)
  | 0 => h
  | t + 1 => yG_go (yWv_G h t) yBe_pl
def yWl (V : yV) (p t : Nat) : Int32 := yL (yWv V p t) t (ySp (yWv V p t) t) p (yBe (yWv V p t) t (ySp (yWv V p t) t) p)
theorem k_wise {d : Nat} {a : Int32} {tl : List (Nat × Nat)} {q : zR} {im : zI} {V : yV} {U : yU} (hI : yInv tl q im V U) : yCall (d + 10) 84 185 [.int a] tl q im (yOk tl q) := by
  obtain ⟨⟨hG, hA, hB⟩, hH, hm⟩ := id hI
  have hM := hG.2.1
  cases h1 : bO V a with
  | false => exact ⟨-5, im, im, zEv_o rfl (t_X11_wise ⟨_, _, cO_f hA h1, fun e => absurd rfl e, fun _ => ⟨rfl, rfl⟩⟩), zEv_o rfl (t_X12_wise ⟨_, _, mO_f hG hB h1, fun e => absurd rfl e, fun _ => ⟨rfl, rfl⟩⟩), V, U, hI⟩
  | true =>
    obtain ⟨p, hp, rfl⟩ := bO_ex hG h1
    have hp4 : p < 4 := by omega
    have v4 := zi_in hp4 (show p < 2147483648 by omega)
    have hpm : ∀ t, p < yvM (yWv V p t) := fun t => by
      show p < (yWv V p t).1.2.1
      rw [yWv_nm]
      exact hp
    have hs : ∀ t, zSum (t + 1) (yWl V p) = zSum t (yWl V p) + yL (yWv V p t) t (ySp (yWv V p t) t) p (yBe (yWv V p t) t (ySp (yWv V p t) t) p) := fun _ => rfl
    have lc : ∀ m t im1, t + m = 12 → (∀ k, ¬ (20 < k ∧ k < 37) → k ≠ 4 + p → im1 k = im k) → yA tl q im1 (yWv V p t) → ∃ im', zX (d + 9) zc_X11_wise 10 [(0, .ref 0), (1, .int (Int32.ofNat p)), (2, .int (zSum t (yWl V p))), (3, .int (Int32.ofNat t))] [] (zMm tl q im1) (fun x y => x = some (.int (zSum 12 (yWl V p))) ∧ y = zMm tl q im') ∧ (∀ k, ¬ (20 < k ∧ k < 37) → k ≠ 4 + p → im' k = im k) ∧ yA tl q im' (yWv V p 12) := by
      intro m
      induction m with
      | zero =>
        intro t im1 ht hF hA1
        have e : t = 12 := by omega
        subst e
        exact ⟨im1, t_X11_wise_10 ⟨fun _ => ⟨rfl, rfl⟩, fun h => absurd (by decide) h⟩, hF, hA1⟩
      | succ m ih =>
        intro t im1 ht hF hA1
        have hGt := yWv_G (p := p) hG t
        obtain ⟨im2, g1, g2, g3, g4⟩ := c_lookWithCosts (d := d + 3) hGt hA1 (show t < 12 by omega)
        obtain ⟨im', k1, k2⟩ := ih (t + 1) (up2 im2 (4 + p) t (yBe (yWv V p t) t (ySp (yWv V p t) t) p)) (by omega) (fun k a b => by rw [up_r b, g4 k a, hF k a b]) (yA_go hp4 (yA_fr hA1 g4.fr))
        rw [hs t] at k1
        have hb : zEv (d + 9) 55 [.ref 21, .int (Int32.ofNat p)] (zMm tl q im2) (some (.int (yBe (yWv V p t) t (ySp (yWv V p t) t) p))) (zMm tl q im2) := c_bestPlaceOf (d := d + 3) g2 g3 (hpm t)
        have hl : zEv (d + 9) 53 [.ref 21, .int (Int32.ofNat p), .int (yBe (yWv V p t) t (ySp (yWv V p t) t) p)] (zMm tl q im2) (some (.int (yL (yWv V p t) t (ySp (yWv V p t) t) p (yBe (yWv V p t) t (ySp (yWv V p t) t) p)))) (zMm tl q im2) := c_leftAt (d := d + 4) g2 g3 (hpm t)
        refine ⟨im', t_X11_wise_10 ⟨fun h => absurd ((zi_le (a := 12) (by omega) (by omega)).mp h) (by omega), fun _ => ⟨im2, g1, _, _, hb, _, _, hl, v4, ?_⟩⟩, k2⟩
        rw [zi_n (show p < 2147483648 by omega), zRf_row hp4]
        show ((zB ++ tl)[4 + p]?).elim _ _
        rw [zB_row hp4, zi_n (show t < 2147483648 by omega), zi_s]
        exact ⟨zi_in (show t < 12 by omega) (by omega), k1⟩
    have lm : ∀ (m t : Nat) (im0 im1 : zI), t + m = 12 → (∀ k j, ¬ ((63 < k ∧ k < 72) ∨ (k = 47 ∧ j = 36)) → k ≠ 53 → im1 k j = im0 k j) → yB im1 (yWv V p t) → ∃ im', zX (d + 9) zc_X12_wise 10 [(0, .ref 47), (1, .int (Int32.ofNat p)), (2, .int (zSum t (yWl V p))), (3, .int (Int32.ofNat t))] [] (zMm tl q im1) (fun x y => x = some (.int (zSum 12 (yWl V p))) ∧ y = zMm tl q im') ∧ (∀ k j, ¬ ((63 < k ∧ k < 72) ∨ (k = 47 ∧ j = 36)) → k ≠ 53 → im' k j = im0 k j) ∧ yB im' (yWv V p 12) := by
      intro m
      induction m with
      | zero =>
        intro t im0 im1 ht hF hB1
        have e : t = 12 := by omega
        subst e
        exact ⟨im1, t_X12_wise_10 ⟨fun _ => ⟨rfl, rfl⟩, fun h => absurd (by decide) h⟩, hF, hB1⟩
      | succ m ih =>
        intro t im0 im1 ht hF hB1
        have hGt := yWv_G (p := p) hG t
        have ht12 : t < 12 := by omega
        obtain ⟨im2, g1, g2, g3⟩ := m_comesTo (d := d + 3) (tl := tl) (q := q) hGt hB1 ht12
        have hB2 := yB_fr hB1 g3.fr
        obtain ⟨im3, e1, e2⟩ := m_bestPlace (d := d + 3) (tl := tl) (q := q) hGt hB2 (yTm_s g2) (hpm t) ht12
        have hB3 := yB_fr hB2 (yFb.k56 e2).fr
        obtain ⟨im4, f1, f2⟩ := m_leftAt (d := d + 4) (x := yBe (yWv V p t) t (ySp (yWv V p t) t) p) (tl := tl) (q := q) hGt hB3 (yMs_k (yTm_s g2) e2) yBe_pl (hpm t) ht12
        have hB4 := yB_fr hB3 (yFb.k56 f2).fr
        have hFb : yFb im1 im4 := g3.tr ((yFb.k56 e2).tr (yFb.k56 f2))
        have ix : ((12 : Int32) * Int32.ofNat p) + Int32.ofNat t = Int32.ofNat (12 * p + t) := by rw [Int32.ofNat_add, Int32.ofNat_mul]; rfl
        obtain ⟨im', k1, k2⟩ := ih (t + 1) im0 (up2 im4 53 (12 * p + t) (yBe (yWv V p t) t (ySp (yWv V p t) t) p)) (by omega) (fun k j a b => by rw [up_k b, hFb k j a, hF k j a b]) (yB_go ht12 hB4)
        rw [hs t] at k1
        refine ⟨im', t_X12_wise_10 ⟨fun h => absurd ((zi_le (a := 12) (by omega) (by omega)).mp h) (by omega), fun _ => ⟨im2, g1, _, _, e1, _, _, f1, ?_⟩⟩, k2⟩
        rw [ix, zi_n (show 12 * p + t < 2147483648 by omega), zi_s (a := t)]
        exact ⟨zi_in (by omega) (by omega), k1⟩
    obtain ⟨im1, c1, c2, c3⟩ := lc 12 0 im (by omega) (fun _ _ _ => rfl) hA
    have hB1 : yB im1 V := yB_ag hB (fun j _ => by rw [c2 47 (by omega) (by omega)]) (fun k h1 h2 => c2 k (by omega) (by omega)) (c2 55 (by omega) (by omega)) (c2 56 (by omega) (by omega))
    obtain ⟨im2, d1, d2, d3⟩ := lm 12 0 im1 im1 (by omega) (fun _ _ _ _ => rfl) hB1
    have d2r : ∀ k, ¬ (63 < k ∧ k < 72) → k ≠ 47 → k ≠ 53 → im2 k = im1 k := fun k h1 h2 h3 => funext fun j => d2 k j (by omega) h3
    refine ⟨zSum 12 (yWl V p), im1, im2, zEv_o rfl (t_X11_wise ⟨_, _, cO_t hA h1, fun _ => c1, fun e => absurd e n10⟩), zEv_o rfl (t_X12_wise ⟨_, _, mO_t hG hB1 h1, fun _ => d1, fun e => absurd e n10⟩), yWv V p 12, U, ⟨yWv_G hG 12, ?_, d3⟩, ?_, ?_⟩
    · exact yA_ag c3 (by rw [d2r 0 (by omega) (by omega) (by omega)]) (fun k h1 h2 => d2r k (by omega) (by omega) (by omega)) (fun k hk => d2r k (by omega) (by omega) (by omega))
    · refine yH_ag hH (fun k j hu => ?_)
      unfold yUc at hu
      rw [d2 k j (by omega) (by omega), c2 k (by omega) (by omega)]
    · refine yIm_le hm ?_ ?_
      · show V.1.1 ≤ (yWv V p 12).1.1
        rw [yWv_nm]; exact Nat.le_refl _
      · show V.1.2.2.2 ≤ (yWv V p 12).1.2.2.2
        rw [yWv_nm]; exact Nat.le_refl _
