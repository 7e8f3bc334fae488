/-! CALLS: copy -/
def yRoom (z : Nat) (i n : Int32) : Bool := !decide (n < 0) && (!decide (i < 0) && (!decide (Int32.ofNat z < i) && !decide (Int32.ofNat z - i < n)))
theorem yRoom_ex {z : Nat} {i n : Int32} (hz : z ≤ 40) (h : yRoom z i n = true) : (¬ n < 0 ∧ ¬ i < 0 ∧ ¬ Int32.ofNat z < i ∧ ¬ Int32.ofNat z - i < n) ∧ ∃ i' n', i = Int32.ofNat i' ∧ n = Int32.ofNat n' ∧ i' + n' ≤ z := by
  unfold yRoom at h
  rw [Bool.and_eq_true, Bool.and_eq_true, Bool.and_eq_true, Bool.not_eq_true', Bool.not_eq_true', Bool.not_eq_true', Bool.not_eq_true', decide_eq_false_iff_not, decide_eq_false_iff_not, decide_eq_false_iff_not, decide_eq_false_iff_not] at h
  refine ⟨h, ?_⟩
  obtain ⟨h1, h2, h3, h4⟩ := h
  obtain ⟨i', hi, rfl⟩ := zi_ex2 (n := z + 1) h2 (Int32.lt_of_le_of_lt (Int32.not_lt.mp h3) ((zi_lt (by omega) (by omega)).mpr (by omega))) (by omega)
  rw [← Int32.ofNat_sub z i' (by omega)] at h4
  obtain ⟨n', hn, rfl⟩ := zi_ex2 (n := z - i' + 1) h1 (Int32.lt_of_le_of_lt (Int32.not_lt.mp h4) ((zi_lt (by omega) (by omega)).mpr (by omega))) (by omega)
  exact ⟨i', n', rfl, rfl, by omega⟩
theorem c_hasRoom {d s z : Nat} {i n : Int32} {tl : List (Nat × Nat)} {q : zR} {im : zI} (hs : s < 4) (h2 : im (37 + 2 * s) 2 = Int32.ofNat z) : zEv (d + 1) 17 [.ref (37 + 2 * s), .int i, .int n] (zMm tl q im) (some (.int (zb (yRoom z i n)))) (zMm tl q im) := by
  unfold yRoom
  match s, hs with
  | 0, _ =>
    refine zEv_o rfl (t_X6_hasRoom_37 ?_)
    have h2' : im 37 2 = Int32.ofNat z := h2
    rw [h2']
    refine ⟨fun a => ⟨?_, rfl⟩, fun a => ⟨fun b => ⟨?_, rfl⟩, fun b => ⟨fun c => ⟨?_, rfl⟩, fun c => ⟨fun e => ⟨?_, rfl⟩, fun e => ⟨?_, rfl⟩⟩⟩⟩⟩
    · rw [decide_eq_true a]; rfl
    · rw [decide_eq_false a, decide_eq_true b]; rfl
    · rw [decide_eq_false a, decide_eq_false b, decide_eq_true c]; rfl
    · rw [decide_eq_false a, decide_eq_false b, decide_eq_false c, decide_eq_true e]; rfl
    · rw [decide_eq_false a, decide_eq_false b, decide_eq_false c, decide_eq_false e]; rfl
  | 1, _ =>
    refine zEv_o rfl (t_X6_hasRoom_39 ?_)
    have h2' : im 39 2 = Int32.ofNat z := h2
    rw [h2']
    refine ⟨fun a => ⟨?_, rfl⟩, fun a => ⟨fun b => ⟨?_, rfl⟩, fun b => ⟨fun c => ⟨?_, rfl⟩, fun c => ⟨fun e => ⟨?_, rfl⟩, fun e => ⟨?_, rfl⟩⟩⟩⟩⟩
    · rw [decide_eq_true a]; rfl
    · rw [decide_eq_false a, decide_eq_true b]; rfl
    · rw [decide_eq_false a, decide_eq_false b, decide_eq_true c]; rfl
    · rw [decide_eq_false a, decide_eq_false b, decide_eq_false c, decide_eq_true e]; rfl
    · rw [decide_eq_false a, decide_eq_false b, decide_eq_false c, decide_eq_false e]; rfl
  | 2, _ =>
    refine zEv_o rfl (t_X6_hasRoom_41 ?_)
    have h2' : im 41 2 = Int32.ofNat z := h2
    rw [h2']
    refine ⟨fun a => ⟨?_, rfl⟩, fun a => ⟨fun b => ⟨?_, rfl⟩, fun b => ⟨fun c => ⟨?_, rfl⟩, fun c => ⟨fun e => ⟨?_, rfl⟩, fun e => ⟨?_, rfl⟩⟩⟩⟩⟩
    · rw [decide_eq_true a]; rfl
    · rw [decide_eq_false a, decide_eq_true b]; rfl
    · rw [decide_eq_false a, decide_eq_false b, decide_eq_true c]; rfl
    · rw [decide_eq_false a, decide_eq_false b, decide_eq_false c, decide_eq_true e]; rfl
    · rw [decide_eq_false a, decide_eq_false b, decide_eq_false c, decide_eq_false e]; rfl
  | 3, _ =>
    refine zEv_o rfl (t_X6_hasRoom_43 ?_)
    have h2' : im 43 2 = Int32.ofNat z := h2
    rw [h2']
    refine ⟨fun a => ⟨?_, rfl⟩, fun a => ⟨fun b => ⟨?_, rfl⟩, fun b => ⟨fun c => ⟨?_, rfl⟩, fun c => ⟨fun e => ⟨?_, rfl⟩, fun e => ⟨?_, rfl⟩⟩⟩⟩⟩
    · rw [decide_eq_true a]; rfl
    · rw [decide_eq_false a, decide_eq_true b]; rfl
    · rw [decide_eq_false a, decide_eq_false b, decide_eq_true c]; rfl
    · rw [decide_eq_false a, decide_eq_false b, decide_eq_false c, decide_eq_true e]; rfl
    · rw [decide_eq_false a, decide_eq_false b, decide_eq_false c, decide_eq_false e]; rfl
/-- the Model's copy, cell by cell, as if all at once -/
theorem m_copy87 {d a b n : Nat} {x1 x2 x3 x4 : Int32} {tl : List (Nat × Nat)} {q : zR} {im0 : zI} (ha : a + n ≤ 160) (hb : b + n ≤ 160) :
    ∀ (m k : Nat) (im1 : zI), k + m = n → (∀ c, c ≠ 61 → im1 c = im0 c) → (∀ j, im1 61 j = if (b ≤ a ∧ b ≤ j ∧ j < b + k) ∨ (¬ b ≤ a ∧ b + (n - k) ≤ j ∧ j < b + n) then im0 61 (a + (j - b)) else im0 61 j) →
      ∃ im', zX d zc_X12_copy 87 [(0, .ref 47), (1, .int x1), (2, .int x2), (3, .int x3), (4, .int x4), (5, .int (Int32.ofNat n)), (6, .int (Int32.ofNat a)), (7, .int (Int32.ofNat b)), (8, .int (Int32.ofNat k))] [] (zMm tl q im1) (fun x y => x = some (.int (Int32.ofNat n)) ∧ y = zMm tl q im') ∧ (∀ c, c ≠ 61 → im' c = im0 c) ∧ (∀ j, im' 61 j = if b ≤ j ∧ j < b + n then im0 61 (a + (j - b)) else im0 61 j) := by
  intro m
  induction m with
  | zero =>
    intro k im1 hk hF h
    have e : k = n := by omega
    subst e
    refine ⟨im1, t_X12_copy_87 ⟨fun _ => ⟨rfl, rfl⟩, fun h => absurd ((zi_le (by omega) (by omega)).mpr (Nat.le_refl _)) h⟩, hF, fun j => ?_⟩
    rw [h j]
    by_cases e : b ≤ j ∧ j < b + k
    · rw [if_pos e, if_pos (by omega)]
    · rw [if_neg e, if_neg (by omega)]
  | succ m ih =>
    intro k im1 hk hF h
    have hba : Int32.ofNat b ≤ Int32.ofNat a ↔ b ≤ a := zi_le (by omega) (by omega)
    by_cases hc : b ≤ a
    · have e1 : Int32.ofNat a + Int32.ofNat k = Int32.ofNat (a + k) := (Int32.ofNat_add _ _).symm
      have e2 : Int32.ofNat b + Int32.ofNat k = Int32.ofNat (b + k) := (Int32.ofNat_add _ _).symm
      obtain ⟨im', g1, g2⟩ := ih (k + 1) (up2 im1 61 (b + k) (im1 61 (a + k))) (by omega) (fun c hc => by rw [up_r hc]; exact hF c hc) (fun j => by
        by_cases ej : j = b + k
        · rw [ej, up_eq, h (a + k), if_neg (by omega), if_pos (by omega), show b + k - b = k by omega]
        · rw [up_j ej, h j]
          by_cases e3 : b ≤ j ∧ j < b + k
          · rw [if_pos (by omega), if_pos (by omega)]
          · rw [if_neg (by omega), if_neg (by omega)])
      refine ⟨im', t_X12_copy_87 ?_, g2⟩
      rw [hba, e1, e2, zi_n (show a + k < 2147483648 by omega), zi_n (show b + k < 2147483648 by omega), zi_s (a := k)]
      exact ⟨fun h => absurd ((zi_le (by omega) (by omega)).mp h) (by omega), fun _ => ⟨fun _ => ⟨zi_in (by omega) (by omega), zi_in (by omega) (by omega), g1⟩, fun h => absurd hc h⟩⟩
    · have e0 : (Int32.ofNat n - (1 : Int32)) - Int32.ofNat k = Int32.ofNat (n - 1 - k) := by rw [zi_p (by omega)]; exact (Int32.ofNat_sub (n - 1) k (by omega)).symm
      have e1 : Int32.ofNat a + Int32.ofNat (n - 1 - k) = Int32.ofNat (a + (n - 1 - k)) := (Int32.ofNat_add _ _).symm
      have e2 : Int32.ofNat b + Int32.ofNat (n - 1 - k) = Int32.ofNat (b + (n - 1 - k)) := (Int32.ofNat_add _ _).symm
      obtain ⟨im', g1, g2⟩ := ih (k + 1) (up2 im1 61 (b + (n - 1 - k)) (im1 61 (a + (n - 1 - k)))) (by omega) (fun c hc => by rw [up_r hc]; exact hF c hc) (fun j => by
        by_cases ej : j = b + (n - 1 - k)
        · rw [ej, up_eq, h (a + (n - 1 - k)), if_neg (by omega), if_pos (by omega), show b + (n - 1 - k) - b = n - 1 - k by omega]
        · rw [up_j ej, h j]
          by_cases e3 : b + (n - k) ≤ j ∧ j < b + n
          · rw [if_pos (by omega), if_pos (by omega)]
          · rw [if_neg (by omega), if_neg (by omega)])
      refine ⟨im', t_X12_copy_87 ?_, g2⟩
      rw [hba, e0, e1, e2, zi_n (show a + (n - 1 - k) < 2147483648 by omega), zi_n (show b + (n - 1 - k) < 2147483648 by omega), zi_s (a := k)]
      exact ⟨fun h => absurd ((zi_le (by omega) (by omega)).mp h) (by omega), fun _ => ⟨fun h => absurd h hc, fun _ => ⟨zi_in (by omega) (by omega), zi_in (by omega) (by omega), g1⟩⟩⟩
theorem k_copy {d : Nat} {a i b j n : Int32} {tl : List (Nat × Nat)} {q : zR} {im : zI} {V : yV} {U : yU} (hI : yInv tl q im V U) : yCall (d + 10) 105 220 [.int a, .int i, .int b, .int j, .int n] tl q im (yOk tl q) := by
  have hH := hI.2.1.2.1
  have bad : yOk tl q im := ⟨V, U, hI⟩
  cases h1 : bW a 3 with
  | false => exact ⟨-2, im, im, zEv_o rfl (t_X11_copy ⟨_, _, cS_f h1, fun _ => ⟨rfl, rfl⟩, fun e => absurd rfl e⟩), zEv_o rfl (t_X12_copy ⟨_, _, mW_f (m := 3) h1, fun _ => ⟨rfl, rfl⟩, fun e => absurd rfl e⟩), bad⟩
  | true =>
    cases h2 : bW b 3 with
    | false => exact ⟨-2, im, im, zEv_o rfl (t_X11_copy ⟨_, _, cS_t h1, fun e => absurd e n10, fun _ => ⟨_, _, cS_f h2, fun e => absurd rfl e, fun _ => ⟨rfl, rfl⟩⟩⟩), zEv_o rfl (t_X12_copy ⟨_, _, mW_t (m := 3) h1, fun e => absurd e n10, fun _ => ⟨_, _, mW_f (m := 3) h2, fun e => absurd rfl e, fun _ => ⟨rfl, rfl⟩⟩⟩), bad⟩
    | true =>
      obtain ⟨s, hs, rfl⟩ := bW_ex (by decide) h1
      obtain ⟨o, ho, rfl⟩ := bW_ex (by decide) h2
      have hs4 : s < 4 := hs
      have ho4 : o < 4 := ho
      have v4 := zi_in hs4 (show s < 2147483648 by omega)
      have w4 := zi_in ho4 (show o < 2147483648 by omega)
      obtain ⟨s1, s2, s3, s4, s5, s6, s7⟩ := hH s hs4
      obtain ⟨o1, o2, o3, o4, o5, o6, o7⟩ := hH o ho4
      -- the class's way, the Model's way
      have cw : ∀ (v : Int32) (im' : zI), ((yuS U s = -1 → v = -11 ∧ im = im') ∧ (¬ yuS U s = -1 → (¬ yuS U o = -1 → (yuS U s = yuS U o → (yRoom (yuZ U s) i n = false → v = -12 ∧ im = im') ∧ (yRoom (yuZ U s) i n = true → (yRoom (yuZ U o) j n = true → ¬ i < 0 ∧ ¬ j < 0 ∧ ¬ n < 0 ∧ i.toNatClampNeg + n.toNatClampNeg ≤ 40 ∧ j.toNatClampNeg + n.toNatClampNeg ≤ 40 ∧ v = n ∧ row2 im (38 + 2 * o) (va_cpy (im (38 + 2 * s)) (im (38 + 2 * o)) i.toNatClampNeg j.toNatClampNeg n.toNatClampNeg) = im') ∧ (yRoom (yuZ U o) j n = false → v = -12 ∧ im = im'))) ∧ (¬ yuS U s = yuS U o → v = -13 ∧ im = im')) ∧ (yuS U o = -1 → v = -11 ∧ im = im'))) →
          zEv (d + 10) 105 [.ref 0, .int (Int32.ofNat s), .int i, .int (Int32.ofNat o), .int j, .int n] (zMm tl q im) (some (.int v)) (zMm tl q im') := by
        intro v im' h
        refine zEv_o rfl (t_X11_copy ⟨_, _, cS_t h1, fun e => absurd e n10, fun _ => ⟨_, _, cS_t h2, fun _ => ⟨v4, ?_⟩, fun e => absurd e n10⟩⟩)
        rw [zi_n (show s < 2147483648 by omega), zi_n (show o < 2147483648 by omega), zRf_sh hs4, zRf_sh ho4]
        refine ⟨w4, ?_⟩
        show ((zB ++ tl)[37 + 2 * s]?).elim _ _
        rw [zB_sh hs4, zB_sh ho4, zRf_sc hs4, zRf_sc ho4, s1, o1]
        refine ⟨fun e => ?_, fun e => ⟨fun e2 => ⟨fun e3 => ⟨_, _, c_hasRoom hs4 s2, ?_⟩, fun e3 => ?_⟩, fun e2 => ?_⟩⟩
        · obtain ⟨r1, r2⟩ := h.1 e
          rw [r1, r2]; exact ⟨rfl, rfl⟩
        · rw [zb_0]
          refine ⟨fun e4 => ?_, fun e4 => ⟨_, _, c_hasRoom ho4 o2, ?_⟩⟩
          · obtain ⟨r1, r2⟩ := (((h.2 e).1 e2).1 e3).1 e4
            rw [r1, r2]; exact ⟨rfl, rfl⟩
          · rw [zb_0]
            have e4' := Bool.not_eq_false _ |>.mp e4
            refine ⟨fun e5 => ?_, fun e5 => ?_⟩
            · obtain ⟨r1, r2, r3, r4, r5, r6, r7⟩ := ((((h.2 e).1 e2).1 e3).2 e4').1 (Bool.not_eq_false _ |>.mp e5)
              show ((zB ++ tl)[38 + 2 * s]?).elim _ _
              rw [zB_sc hs4]
              show ((zB ++ tl)[38 + 2 * o]?).elim _ _
              rw [zB_sc ho4]
              exact ⟨r1, r2, r3, r4, r5, by rw [r6], by rw [r7]⟩
            · obtain ⟨r1, r2⟩ := ((((h.2 e).1 e2).1 e3).2 e4').2 e5
              rw [r1, r2]; exact ⟨rfl, rfl⟩
        · obtain ⟨r1, r2⟩ := ((h.2 e).1 e2).2 e3
          rw [r1, r2]; exact ⟨rfl, rfl⟩
        · obtain ⟨r1, r2⟩ := (h.2 e).2 e2
          rw [r1, r2]; exact ⟨rfl, rfl⟩
      have mw : ∀ (v : Int32) (im1 im' : zI), (∀ k, k = 59 ∨ k = 60 → im1 k = im k) → ((yuS U s = -1 → v = -11 ∧ im1 = im') ∧ (¬ yuS U s = -1 → (¬ yuS U o = -1 → (yuS U s = yuS U o → (yRoom (yuZ U s) i n = true ∧ yRoom (yuZ U o) j n = true → zX (d + 9) zc_X12_copy 87 [(0, .ref 47), (1, .int (Int32.ofNat s)), (2, .int i), (3, .int (Int32.ofNat o)), (4, .int j), (5, .int n), (6, .int (((40 : Int32) * (Int32.ofNat s)) + i)), (7, .int (((40 : Int32) * (Int32.ofNat o)) + j)), (8, .int (0 : Int32))] [] (zMm tl q im1) (fun x y => x = some (.int v) ∧ y = zMm tl q im')) ∧ (¬ (yRoom (yuZ U s) i n = true ∧ yRoom (yuZ U o) j n = true) → v = -12 ∧ im1 = im')) ∧ (¬ yuS U s = yuS U o → v = -13 ∧ im1 = im')) ∧ (yuS U o = -1 → v = -11 ∧ im1 = im'))) →
          zEv (d + 10) 220 [.ref 47, .int (Int32.ofNat s), .int i, .int (Int32.ofNat o), .int j, .int n] (zMm tl q im1) (some (.int v)) (zMm tl q im') := by
        intro v im1 im' hF h
        have hro : ∀ z i n, yRoom z i n = true ↔ (¬ n < 0 ∧ ¬ i < 0 ∧ ¬ Int32.ofNat z < i ∧ ¬ Int32.ofNat z - i < n) := fun z i n => by
          unfold yRoom
          rw [Bool.and_eq_true, Bool.and_eq_true, Bool.and_eq_true, Bool.not_eq_true', Bool.not_eq_true', Bool.not_eq_true', Bool.not_eq_true', decide_eq_false_iff_not, decide_eq_false_iff_not, decide_eq_false_iff_not, decide_eq_false_iff_not]
        rw [hro, hro] at h
        refine zEv_o rfl (t_X12_copy ⟨_, _, mW_t (m := 3) h1, fun e => absurd e n10, fun _ => ⟨_, _, mW_t (m := 3) h2, fun _ => ⟨v4, ?_⟩, fun e => absurd e n10⟩⟩)
        rw [zi_n (show s < 2147483648 by omega), zi_n (show o < 2147483648 by omega), hF 59 (by omega), hF 60 (by omega), s5, o5, s6, o6]
        have no : yuS U s = yuS U o → ¬ yuS U s = -1 → ¬ yuS U o = -1 → ¬ ((¬ n < 0 ∧ ¬ i < 0 ∧ ¬ Int32.ofNat (yuZ U s) < i ∧ ¬ Int32.ofNat (yuZ U s) - i < n) ∧ (¬ n < 0 ∧ ¬ j < 0 ∧ ¬ Int32.ofNat (yuZ U o) < j ∧ ¬ Int32.ofNat (yuZ U o) - j < n)) → some (Value.int (-12)) = some (.int v) ∧ zMm tl q im1 = zMm tl q im' := fun e3 e e2 hh => by
          obtain ⟨r1, r2⟩ := (((h.2 e).1 e2).1 e3).2 hh
          rw [r1, r2]; exact ⟨rfl, rfl⟩
        refine ⟨fun e => ?_, fun e => ⟨w4, fun e2 => ⟨v4, w4, fun e3 => ⟨fun c1 => no e3 e e2 (fun hh => hh.1.1 c1), fun c1 => ⟨fun c2 => no e3 e e2 (fun hh => hh.1.2.1 c2), fun c2 => ⟨fun c3 => no e3 e e2 (fun hh => hh.2.2.1 c3), fun c3 => ⟨v4, fun c4 => no e3 e e2 (fun hh => hh.1.2.2.1 c4), fun c4 => ⟨w4, fun c5 => no e3 e e2 (fun hh => hh.2.2.2.1 c5), fun c5 => ⟨v4, fun c6 => no e3 e e2 (fun hh => hh.1.2.2.2 c6), fun c6 => ⟨w4, fun c7 => ?_, fun c7 => no e3 e e2 (fun hh => hh.2.2.2.2 (Int32.not_le.mp c7))⟩⟩⟩⟩⟩⟩⟩, fun e3 => ?_⟩, fun e2 => ?_⟩⟩
        · obtain ⟨r1, r2⟩ := h.1 e
          rw [r1, r2]; exact ⟨rfl, rfl⟩
        · exact (((h.2 e).1 e2).1 e3).1 ⟨⟨c1, c2, c4, c6⟩, c1, c3, c5, Int32.not_lt.mpr c7⟩
        · obtain ⟨r1, r2⟩ := ((h.2 e).1 e2).2 e3
          rw [r1, r2]; exact ⟨rfl, rfl⟩
        · obtain ⟨r1, r2⟩ := (h.2 e).2 e2
          rw [r1, r2]; exact ⟨rfl, rfl⟩
      by_cases e1 : yuS U s = -1
      · exact ⟨-11, im, im, cw _ _ ⟨fun _ => ⟨rfl, rfl⟩, fun h => absurd e1 h⟩, mw _ _ _ (fun _ _ => rfl) ⟨fun _ => ⟨rfl, rfl⟩, fun h => absurd e1 h⟩, bad⟩
      · by_cases e2 : yuS U o = -1
        · exact ⟨-11, im, im, cw _ _ ⟨fun h => absurd h e1, fun _ => ⟨fun h => absurd e2 h, fun _ => ⟨rfl, rfl⟩⟩⟩, mw _ _ _ (fun _ _ => rfl) ⟨fun h => absurd h e1, fun _ => ⟨fun h => absurd e2 h, fun _ => ⟨rfl, rfl⟩⟩⟩, bad⟩
        · by_cases e3 : yuS U s = yuS U o
          · by_cases e4 : yRoom (yuZ U s) i n = true ∧ yRoom (yuZ U o) j n = true
            · obtain ⟨⟨r1, r2, r3, r4⟩, i', n', rfl, rfl, hin⟩ := yRoom_ex s3 e4.1
              obtain ⟨⟨t1, t2, t3, t4⟩, j', n2, rfl, hn2, hjn⟩ := yRoom_ex o3 e4.2
              have hn2' : n2 = n' := by
                have : n2 < 2147483648 := by omega
                exact ((zi_eq (by omega) this).mp hn2).symm
              subst hn2'
              have ea : ((40 : Int32) * Int32.ofNat s) + Int32.ofNat i' = Int32.ofNat (40 * s + i') := by rw [Int32.ofNat_add, Int32.ofNat_mul]; rfl
              have eb : ((40 : Int32) * Int32.ofNat o) + Int32.ofNat j' = Int32.ofNat (40 * o + j') := by rw [Int32.ofNat_add, Int32.ofNat_mul]; rfl
              have x1 := zi_n (show i' < 2147483648 by omega)
              have x2 := zi_n (show j' < 2147483648 by omega)
              have x3 := zi_n (show n2 < 2147483648 by omega)
              obtain ⟨im2, d1, d2, d3⟩ := m_copy87 (d := d + 9) (a := 40 * s + i') (b := 40 * o + j') (n := n2) (x1 := Int32.ofNat s) (x2 := Int32.ofNat i') (x3 := Int32.ofNat o) (x4 := Int32.ofNat j') (tl := tl) (q := q) (im0 := row2 im (38 + 2 * o) (va_cpy (im (38 + 2 * s)) (im (38 + 2 * o)) i' j' n2)) (by omega) (by omega) n2 0 _ (by omega) (fun _ _ => rfl) (fun x => by rw [if_neg (by omega)])
              have hcp : ∀ x, x < 40 → va_cpy (im (38 + 2 * s)) (im (38 + 2 * o)) i' j' n2 x = va_cpy (yuC U s) (yuC U o) i' j' n2 x := fun x hx => by
                unfold va_cpy
                by_cases hc : j' ≤ x ∧ x < j' + n2
                · rw [if_pos hc, if_pos hc]; exact s4 _ (by omega)
                · rw [if_neg hc, if_neg hc]; exact o4 x hx
              refine ⟨Int32.ofNat n2, row2 im (38 + 2 * o) (va_cpy (im (38 + 2 * s)) (im (38 + 2 * o)) i' j' n2), im2, cw _ _ ⟨fun h => absurd h e1, fun _ => ⟨fun _ => ⟨fun _ => ⟨fun h => absurd (e4.1.symm.trans h) (by decide), fun _ => ⟨fun _ => ⟨r2, t2, r1, ?_, ?_, rfl, ?_⟩, fun h => absurd (e4.2.symm.trans h) (by decide)⟩⟩, fun h => absurd e3 h⟩, fun h => absurd h e2⟩⟩, mw _ _ _ (fun k hk => row_k (by omega)) ⟨fun h => absurd h e1, fun _ => ⟨fun _ => ⟨fun _ => ⟨fun _ => ?_, fun h => absurd e4 h⟩, fun h => absurd e3 h⟩, fun h => absurd h e2⟩⟩, V, yuSet U o (yuS U o, yuZ U o, va_cpy (yuC U s) (yuC U o) i' j' n2), yInv_sh hI ho4 (fun k x hk hsc => ?_) o3 ?_ ?_ (fun x hx => ?_) ?_ ?_ (fun x hx => ?_)⟩
              · rw [x1, x3]; omega
              · rw [x2, x3]; omega
              · rw [x1, x2, x3]
              · rw [ea, eb]; exact d1
              · by_cases a1 : k = 61
                · subst a1
                  rw [d3 x, if_neg (by omega), row_k (by omega)]
                · rw [d2 k a1, row_k (by omega)]
              · rw [d2 _ (by omega), row_k (by omega)]; exact o1
              · rw [d2 _ (by omega), row_k (by omega)]; exact o2
              · rw [d2 _ (by omega), row_eq]; exact hcp x hx
              · rw [d2 _ (by omega), row_k (by omega)]; exact o5
              · rw [d2 _ (by omega), row_k (by omega)]; exact o6
              · show _ = va_cpy (yuC U s) (yuC U o) i' j' n2 x
                rw [d3 _, row_k (by omega)]
                unfold va_cpy
                by_cases hc : j' ≤ x ∧ x < j' + n2
                · rw [if_pos (by omega), if_pos hc, show 40 * s + i' + (40 * o + x - (40 * o + j')) = 40 * s + (i' + (x - j')) by omega]
                  exact s7 _ (by omega)
                · rw [if_neg (by omega), if_neg hc]; exact o7 x hx
            · refine ⟨-12, im, im, cw _ _ ⟨fun h => absurd h e1, fun _ => ⟨fun _ => ⟨fun _ => ⟨fun _ => ⟨rfl, rfl⟩, fun h => ⟨fun h2 => absurd ⟨h, h2⟩ e4, fun _ => ⟨rfl, rfl⟩⟩⟩, fun h => absurd e3 h⟩, fun h => absurd h e2⟩⟩, mw _ _ _ (fun _ _ => rfl) ⟨fun h => absurd h e1, fun _ => ⟨fun _ => ⟨fun _ => ⟨fun h => absurd h e4, fun _ => ⟨rfl, rfl⟩⟩, fun h => absurd e3 h⟩, fun h => absurd h e2⟩⟩, bad⟩
          · exact ⟨-13, im, im, cw _ _ ⟨fun h => absurd h e1, fun _ => ⟨fun _ => ⟨fun h => absurd h e3, fun _ => ⟨rfl, rfl⟩⟩, fun h => absurd h e2⟩⟩, mw _ _ _ (fun _ _ => rfl) ⟨fun h => absurd h e1, fun _ => ⟨fun _ => ⟨fun h => absurd h e3, fun _ => ⟨rfl, rfl⟩⟩, fun h => absurd h e2⟩⟩, bad⟩
