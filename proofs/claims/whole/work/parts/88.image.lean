/-! CALLS: image, back, feed -/
theorem row_eq {im : zI} {k : Nat} {g : Nat → Int32} : row2 im k g k = g := by
  funext j
  simp [row2]
theorem row_k {im : zI} {k k' : Nat} {g : Nat → Int32} (h : k' ≠ k) : row2 im k g k' = im k' := by
  funext j
  simp [row2, h]
theorem cpy_12 {f g : Nat → Int32} {k : Nat} (hk : k < 12) : va_cpy f g ((0 : Int32)).toNatClampNeg ((0 : Int32)).toNatClampNeg ((12 : Int32)).toNatClampNeg k = f k := by
  have e0 : ((0 : Int32)).toNatClampNeg = 0 := by decide
  have e12 : ((12 : Int32)).toNatClampNeg = 12 := by decide
  rw [e0, e12]
  unfold va_cpy
  rw [if_pos (by omega)]
  congr 1
  omega
theorem zRf_kr {q : zR} {p : Nat} (h : p < 4) : zRf q 10 p = some (11 + p) := by
  match p, h with
  | 0, _ => rfl
  | 1, _ => rfl
  | 2, _ => rfl
  | 3, _ => rfl
theorem zB_kr {tl : List (Nat × Nat)} {p : Nat} (h : p < 4) : (zB ++ tl)[11 + p]? = some (20, 12) := by
  match p, h with
  | 0, _ => rfl
  | 1, _ => rfl
  | 2, _ => rfl
  | 3, _ => rfl
theorem n012 : ¬ (0 : Int32) < 0 ∧ ¬ (12 : Int32) < 0 ∧ ((0 : Int32)).toNatClampNeg + ((12 : Int32)).toNatClampNeg ≤ 12 := by decide
theorem c_become_1 {d : Nat} {tl : List (Nat × Nat)} {q : zR} {im : zI} :
    ∃ im', zEv (d + 1) 3 [.ref 1, .ref 8] (zMm tl q im) none (zMm tl q im') ∧ (∀ t, t < 12 → im' 2 t = im 9 t) ∧ (∀ p, p < 4 → ∀ t, t < 12 → im' (4 + p) t = im (11 + p) t) ∧ im' 1 2 = im 8 2 ∧ im' 1 3 = im 8 3 ∧ im' 1 4 = im 8 4 ∧ (∀ k, k ≠ 1 → k ≠ 2 → ¬ (4 ≤ k ∧ k < 4 + 4) → im' k = im k) := by
  have lp : ∀ m p im1, p + m = 4 → (∀ k, ¬ (4 ≤ k ∧ k < 4 + 4) → k ≠ 2 → im1 k = im k) → (∀ t, t < 12 → im1 2 t = im 9 t) → (∀ p', p' < p → ∀ t, t < 12 → im1 (4 + p') t = im (11 + p') t) →
      ∃ im', zX d zc_X1_become 10 [(0, .ref 1), (1, .ref 8), (2, .int (Int32.ofNat p))] [] (zMm tl q im1) (fun x y => x = none ∧ y = zMm tl q im') ∧ (∀ t, t < 12 → im' 2 t = im 9 t) ∧ (∀ p, p < 4 → ∀ t, t < 12 → im' (4 + p) t = im (11 + p) t) ∧ im' 1 2 = im 8 2 ∧ im' 1 3 = im 8 3 ∧ im' 1 4 = im 8 4 ∧ (∀ k, k ≠ 1 → k ≠ 2 → ¬ (4 ≤ k ∧ k < 4 + 4) → im' k = im k) := by
    intro m
    induction m with
    | zero =>
      intro p im1 hp hF h1 h2
      have e : p = 4 := by omega
      subst e
      have e8 : im1 8 = im 8 := hF 8 (by omega) (by omega)
      refine ⟨up2 (up2 (up2 im1 1 2 (im1 8 2)) 1 3 (im1 8 3)) 1 4 (im1 8 4), t_X1_become_1_10 ⟨fun _ => ⟨rfl, rfl⟩, fun h => absurd (by decide) h⟩, fun t ht => ?_, fun p hp t ht => ?_, ?_, ?_, ?_, fun k a b c => ?_⟩
      · rw [up_k (by decide), up_k (by decide), up_k (by decide)]; exact h1 t ht
      · rw [up_k (by omega), up_k (by omega), up_k (by omega)]; exact h2 p hp t ht
      · rw [up_j (by decide), up_j (by decide), up_eq, e8]
      · rw [up_j (by decide), up_eq, e8]
      · rw [up_eq, e8]
      · rw [up_r a, up_r a, up_r a]; exact hF k c b
    | succ m ih =>
      intro p im1 hp hF h1 h2
      have hs : im1 (11 + p) = im (11 + p) := hF _ (by omega) (by omega)
      obtain ⟨im', g1, g2⟩ := ih (p + 1) (row2 im1 (4 + p) (va_cpy (im1 (11 + p)) (im1 (4 + p)) ((0 : Int32)).toNatClampNeg ((0 : Int32)).toNatClampNeg ((12 : Int32)).toNatClampNeg)) (by omega) (fun k a b => by rw [row_k (by omega)]; exact hF k a b) (fun t ht => by rw [row_k (by omega)]; exact h1 t ht) (fun p' hp' t ht => by
        by_cases e : p' = p
        · subst e; rw [row_eq, cpy_12 ht, hs]
        · rw [row_k (by omega)]; exact h2 p' (by omega) t ht)
      refine ⟨im', t_X1_become_1_10 ?_, g2⟩
      rw [zi_n (show p < 2147483648 by omega), zRf_kr (by omega), zRf_row (by omega), zi_s]
      refine ⟨fun h => absurd ((zi_le (a := 4) (by omega) (by omega)).mp h) (by omega), fun _ => ⟨zi_in (by omega) (by omega), zi_in (by omega) (by omega), ?_⟩⟩
      show ((zB ++ tl)[11 + p]?).elim _ _
      rw [zB_kr (by omega)]
      show ((zB ++ tl)[4 + p]?).elim _ _
      rw [zB_row (by omega)]
      exact ⟨n012.1, n012.1, n012.2.1, n012.2.2, n012.2.2, g1⟩
  obtain ⟨im', g1, g2⟩ := lp 4 0 (row2 im 2 (va_cpy (im 9) (im 2) ((0 : Int32)).toNatClampNeg ((0 : Int32)).toNatClampNeg ((12 : Int32)).toNatClampNeg)) (by omega) (fun k a b => row_k b) (fun t ht => by rw [row_eq, cpy_12 ht]) (fun p hp => absurd hp (by omega))
  exact ⟨im', zEv_o rfl (t_X1_become_1 ⟨n012.1, n012.1, n012.2.1, n012.2.2, n012.2.2, g1⟩), g2⟩
theorem c_become_8 {d : Nat} {tl : List (Nat × Nat)} {q : zR} {im : zI} :
    ∃ im', zEv (d + 1) 3 [.ref 8, .ref 1] (zMm tl q im) none (zMm tl q im') ∧ (∀ t, t < 12 → im' 9 t = im 2 t) ∧ (∀ p, p < 4 → ∀ t, t < 12 → im' (11 + p) t = im (4 + p) t) ∧ im' 8 2 = im 1 2 ∧ im' 8 3 = im 1 3 ∧ im' 8 4 = im 1 4 ∧ (∀ k, k ≠ 8 → k ≠ 9 → ¬ (11 ≤ k ∧ k < 11 + 4) → im' k = im k) := by
  have lp : ∀ m p im1, p + m = 4 → (∀ k, ¬ (11 ≤ k ∧ k < 11 + 4) → k ≠ 9 → im1 k = im k) → (∀ t, t < 12 → im1 9 t = im 2 t) → (∀ p', p' < p → ∀ t, t < 12 → im1 (11 + p') t = im (4 + p') t) →
      ∃ im', zX d zc_X1_become 10 [(0, .ref 8), (1, .ref 1), (2, .int (Int32.ofNat p))] [] (zMm tl q im1) (fun x y => x = none ∧ y = zMm tl q im') ∧ (∀ t, t < 12 → im' 9 t = im 2 t) ∧ (∀ p, p < 4 → ∀ t, t < 12 → im' (11 + p) t = im (4 + p) t) ∧ im' 8 2 = im 1 2 ∧ im' 8 3 = im 1 3 ∧ im' 8 4 = im 1 4 ∧ (∀ k, k ≠ 8 → k ≠ 9 → ¬ (11 ≤ k ∧ k < 11 + 4) → im' k = im k) := by
    intro m
    induction m with
    | zero =>
      intro p im1 hp hF h1 h2
      have e : p = 4 := by omega
      subst e
      have e8 : im1 1 = im 1 := hF 1 (by omega) (by omega)
      refine ⟨up2 (up2 (up2 im1 8 2 (im1 1 2)) 8 3 (im1 1 3)) 8 4 (im1 1 4), t_X1_become_8_10 ⟨fun _ => ⟨rfl, rfl⟩, fun h => absurd (by decide) h⟩, fun t ht => ?_, fun p hp t ht => ?_, ?_, ?_, ?_, fun k a b c => ?_⟩
      · rw [up_k (by decide), up_k (by decide), up_k (by decide)]; exact h1 t ht
      · rw [up_k (by omega), up_k (by omega), up_k (by omega)]; exact h2 p hp t ht
      · rw [up_j (by decide), up_j (by decide), up_eq, e8]
      · rw [up_j (by decide), up_eq, e8]
      · rw [up_eq, e8]
      · rw [up_r a, up_r a, up_r a]; exact hF k c b
    | succ m ih =>
      intro p im1 hp hF h1 h2
      have hs : im1 (4 + p) = im (4 + p) := hF _ (by omega) (by omega)
      obtain ⟨im', g1, g2⟩ := ih (p + 1) (row2 im1 (11 + p) (va_cpy (im1 (4 + p)) (im1 (11 + p)) ((0 : Int32)).toNatClampNeg ((0 : Int32)).toNatClampNeg ((12 : Int32)).toNatClampNeg)) (by omega) (fun k a b => by rw [row_k (by omega)]; exact hF k a b) (fun t ht => by rw [row_k (by omega)]; exact h1 t ht) (fun p' hp' t ht => by
        by_cases e : p' = p
        · subst e; rw [row_eq, cpy_12 ht, hs]
        · rw [row_k (by omega)]; exact h2 p' (by omega) t ht)
      refine ⟨im', t_X1_become_8_10 ?_, g2⟩
      rw [zi_n (show p < 2147483648 by omega), zRf_row (by omega), zRf_kr (by omega), zi_s]
      refine ⟨fun h => absurd ((zi_le (a := 4) (by omega) (by omega)).mp h) (by omega), fun _ => ⟨zi_in (by omega) (by omega), zi_in (by omega) (by omega), ?_⟩⟩
      show ((zB ++ tl)[4 + p]?).elim _ _
      rw [zB_row (by omega)]
      show ((zB ++ tl)[11 + p]?).elim _ _
      rw [zB_kr (by omega)]
      exact ⟨n012.1, n012.1, n012.2.1, n012.2.2, n012.2.2, g1⟩
  obtain ⟨im', g1, g2⟩ := lp 4 0 (row2 im 9 (va_cpy (im 2) (im 9) ((0 : Int32)).toNatClampNeg ((0 : Int32)).toNatClampNeg ((12 : Int32)).toNatClampNeg)) (by omega) (fun k a b => row_k b) (fun t ht => by rw [row_eq, cpy_12 ht]) (fun p hp => absurd hp (by omega))
  exact ⟨im', zEv_o rfl (t_X1_become_8 ⟨n012.1, n012.1, n012.2.1, n012.2.2, n012.2.2, g1⟩), g2⟩
/-- the image of now -/
def yuImg (V : yV) (U : yU) : yU := (U.1, U.2.1, (true, (yvN V, yvM V, yvR V), yvH V, yvP V))
theorem k_image {d : Nat} {tl : List (Nat × Nat)} {q : zR} {im : zI} {V : yV} {U : yU} (hI : yInv tl q im V U) : yCall (d + 10) 101 216 [] tl q im (yOk tl q) := by
  obtain ⟨⟨hG, hA, hB⟩, ⟨hT, hS, hi, hw⟩, hm⟩ := hI
  obtain ⟨ia, a1, a2, a3, a4, a5, a6, a7⟩ := c_become_8 (d := d + 8) (tl := tl) (q := q) (im := im)
  have r1 : ∀ k, k ≠ 0 → k ≠ 8 → k ≠ 9 → ¬ (11 ≤ k ∧ k < 15) → up2 ia 0 2 1 k = im k := fun k a b c e => by rw [up_r a, a7 k b c e]
  -- the Model's loops
  have l32 : ∀ (m k : Nat) (im1 im0 : zI), k + m = 48 → (∀ c, c ≠ 58 → im1 c = im0 c) → (∀ j, j < k → im1 58 j = im0 53 j) → ∃ im', zX (d + 9) zc_X12_image 32 [(0, .ref 47), (1, .int (Int32.ofNat k))] [] (zMm tl q im1) (fun x y => x = some (.int (im0 47 1)) ∧ y = zMm tl q im') ∧ (∀ c, c ≠ 58 → im' c = im0 c) ∧ (∀ j, j < 48 → im' 58 j = im0 53 j) := by
    intro m
    induction m with
    | zero =>
      intro k im1 im0 hk hF h
      have e : k = 48 := by omega
      subst e
      refine ⟨im1, t_X12_image_32 ⟨fun _ => ⟨?_, rfl⟩, fun h => absurd (by decide) h⟩, hF, h⟩
      rw [hF 47 (by decide)]
    | succ m ih =>
      intro k im1 im0 hk hF h
      obtain ⟨im', g1, g2⟩ := ih (k + 1) (up2 im1 58 k (im1 53 k)) im0 (by omega) (fun c hc => by rw [up_r hc]; exact hF c hc) (fun j hj => by
        by_cases e : j = k
        · subst e; rw [up_eq, hF 53 (by decide)]
        · rw [up_j e]; exact h j (by omega))
      refine ⟨im', t_X12_image_32 ?_, g2⟩
      rw [zi_n (show k < 2147483648 by omega), zi_s]
      exact ⟨fun h => absurd ((zi_le (a := 48) (by omega) (by omega)).mp h) (by omega), fun _ => ⟨zi_in (by omega) (by omega), zi_in (by omega) (by omega), g1⟩⟩
  have l17 : ∀ (m k : Nat) (im1 im0 : zI), k + m = 12 → (∀ c, c ≠ 57 → im1 c = im0 c) → (∀ j, j < k → im1 57 j = im0 48 j) → ∃ im', zX (d + 9) zc_X12_image 17 [(0, .ref 47), (1, .int (Int32.ofNat k))] [] (zMm tl q im1) (fun x y => x = some (.int (im0 47 1)) ∧ y = zMm tl q im') ∧ (∀ c, c ≠ 57 → c ≠ 58 → im' c = im0 c) ∧ (∀ j, j < 12 → im' 57 j = im0 48 j) ∧ (∀ j, j < 48 → im' 58 j = im0 53 j) := by
    intro m
    induction m with
    | zero =>
      intro k im1 im0 hk hF h
      have e : k = 12 := by omega
      subst e
      obtain ⟨im', g1, g2, g3⟩ := l32 48 0 im1 im1 (by omega) (fun _ _ => rfl) (fun j hj => absurd hj (by omega))
      refine ⟨im', t_X12_image_17 ⟨fun _ => ?_, fun h => absurd (by decide) h⟩, fun c h1 h2 => by rw [g2 c h2, hF c h1], fun j hj => by rw [g2 57 (by decide)]; exact h j hj, fun j hj => by rw [g3 j hj, hF 53 (by decide)]⟩
      rw [hF 47 (by decide)] at g1
      exact g1
    | succ m ih =>
      intro k im1 im0 hk hF h
      obtain ⟨im', g1, g2⟩ := ih (k + 1) (up2 im1 57 k (im1 48 k)) im0 (by omega) (fun c hc => by rw [up_r hc]; exact hF c hc) (fun j hj => by
        by_cases e : j = k
        · subst e; rw [up_eq, hF 48 (by decide)]
        · rw [up_j e]; exact h j (by omega))
      refine ⟨im', t_X12_image_17 ?_, g2⟩
      rw [zi_n (show k < 2147483648 by omega), zi_s]
      exact ⟨fun h => absurd ((zi_le (a := 12) (by omega) (by omega)).mp h) (by omega), fun _ => ⟨zi_in (by omega) (by omega), zi_in (by omega) (by omega), g1⟩⟩
  have hB1 : yB (up2 ia 0 2 1) V := yB_ag hB (fun j _ => by rw [r1 47 (by omega) (by omega) (by omega) (by omega)]) (fun k h1 h2 => r1 k (by omega) (by omega) (by omega) (by omega)) (r1 55 (by omega) (by omega) (by omega) (by omega)) (r1 56 (by omega) (by omega) (by omega) (by omega))
  obtain ⟨ib, b1, b2, b3, b4⟩ := l17 12 0 _ (up2 (up2 (up2 (up2 (up2 ia 0 2 1) 47 14 (1 : Int32)) 47 15 (Int32.ofNat (yvM V))) 47 16 (Int32.ofNat (yvN V))) 47 17 (Int32.ofNat (yvR V))) (by omega) (fun _ _ => rfl) (fun j hj => absurd hj (by omega))
  have e47 : ∀ j, j ≠ 14 → j ≠ 15 → j ≠ 16 → j ≠ 17 → ib 47 j = im 47 j := fun j h1 h2 h3 h4 => by rw [b2 47 (by decide) (by decide), up_j h4, up_j h3, up_j h2, up_j h1, up_k (by decide), a7 47 (by decide) (by decide) (by decide)]
  have er : ∀ k, k ≠ 47 → k ≠ 57 → k ≠ 58 → ib k = up2 ia 0 2 1 k := fun k h1 h2 h3 => by rw [b2 k h2 h3, up_r h1, up_r h1, up_r h1, up_r h1]
  have er2 : ∀ k, k ≠ 47 → k ≠ 57 → k ≠ 58 → k ≠ 0 → k ≠ 8 → k ≠ 9 → ¬ (11 ≤ k ∧ k < 15) → ib k = im k := fun k h1 h2 h3 h4 h5 h6 h7 => by rw [er k h1 h2 h3, r1 k h4 h5 h6 h7]
  refine ⟨Int32.ofNat (yvN V), up2 ia 0 2 1, ib, zEv_o rfl (t_X11_image ⟨ia, a1, ?_, rfl⟩), zEv_o rfl (t_X12_image ?_), V, yuImg V U, ⟨hG, ?_, ?_⟩, ⟨?_, ?_, ⟨?_, ?_, fun _ => ?_⟩, fun j hj => (congrFun (er2 63 (by decide) (by decide) (by decide) (by decide) (by decide) (by decide) (by decide)) j).trans (hw j hj)⟩, fun _ => ?_⟩
  · rw [a7 1 (by decide) (by decide) (by decide), hA.1]
  · rw [hB1.1, hB1.2.1, hB1.2.2.1]
    have : (up2 (up2 (up2 (up2 (up2 ia 0 2 1) 47 14 (1 : Int32)) 47 15 (Int32.ofNat (yvM V))) 47 16 (Int32.ofNat (yvN V))) 47 17 (Int32.ofNat (yvR V))) 47 1 = Int32.ofNat (yvN V) := by rw [up_j (by decide), up_j (by decide), up_j (by decide), up_j (by decide)]; exact hB1.1
    rw [this] at b1
    exact b1
  · refine yA_ag hA ?_ (fun k h1 h2 => er2 k (by omega) (by omega) (by omega) (by omega) (by omega) (by omega) (by omega)) (fun k hk => er2 k (by omega) (by omega) (by omega) (by omega) (by omega) (by omega) (by omega))
    rw [er 0 (by decide) (by decide) (by decide), up_j (by decide), a7 0 (by decide) (by decide) (by decide)]
  · exact yB_ag hB (fun j hj => e47 j (by omega) (by omega) (by omega) (by omega)) (fun k h1 h2 => er2 k (by omega) (by omega) (by omega) (by omega) (by omega) (by omega) (by omega)) (er2 55 (by decide) (by decide) (by decide) (by decide) (by decide) (by decide) (by decide)) (er2 56 (by decide) (by decide) (by decide) (by decide) (by decide) (by decide) (by decide))
  · exact yHt_ag (U := U) hT (er2 17 (by decide) (by decide) (by decide) (by decide) (by decide) (by decide) (by decide)) (er2 18 (by decide) (by decide) (by decide) (by decide) (by decide) (by decide) (by decide)) (er2 54 (by decide) (by decide) (by decide) (by decide) (by decide) (by decide) (by decide)) (e47 9 (by decide) (by decide) (by decide) (by decide))
  · exact yHs_ag (U := U) hS (fun k h1 h2 => er2 k (by omega) (by omega) (by omega) (by omega) (by omega) (by omega) (by omega)) (er2 59 (by decide) (by decide) (by decide) (by decide) (by decide) (by decide) (by decide)) (er2 60 (by decide) (by decide) (by decide) (by decide) (by decide) (by decide) (by decide)) (er2 61 (by decide) (by decide) (by decide) (by decide) (by decide) (by decide) (by decide))
  · rw [er 0 (by decide) (by decide) (by decide), up_eq]
    rfl
  · rw [b2 47 (by decide) (by decide), up_j (by decide), up_j (by decide), up_j (by decide), up_eq]
    rfl
  · obtain ⟨h1, h2, h3, h4, h5, h6, h7, h8⟩ := hA
    have e8 : ib 8 = ia 8 := by rw [er 8 (by decide) (by decide) (by decide), up_r (by decide)]
    refine ⟨?_, ?_, ?_, ?_, ?_, ?_, fun t ht => ⟨?_, ?_⟩, fun p hp t ht => ⟨?_, ?_⟩⟩
    · rw [e8, a5]; exact h1
    · rw [e8, a4]; exact h2
    · rw [e8, a6]; exact h3
    · rw [b2 47 (by decide) (by decide), up_j (by decide), up_eq]; rfl
    · rw [b2 47 (by decide) (by decide), up_j (by decide), up_j (by decide), up_eq]; rfl
    · rw [b2 47 (by decide) (by decide), up_eq]; rfl
    · rw [er 9 (by decide) (by decide) (by decide), up_k (by decide), a2 t ht]; exact h5 t ht
    · rw [b3 t ht, up_k (by decide), up_k (by decide), up_k (by decide), up_k (by decide)]; exact hB1.2.2.2.2.1 t ht
    · rw [er (11 + p) (by omega) (by omega) (by omega), up_k (by omega), a3 p hp t ht]; exact h6 p hp t ht
    · rw [b4 (12 * p + t) (by omega), up_k (by decide), up_k (by decide), up_k (by decide), up_k (by decide)]; exact hB1.2.2.2.2.2.1 p hp t ht
  · exact ⟨Nat.le_refl _, hG.2.1, hG.2.2.1, hG.2.2.2.2.1, hG.2.2.2.2.2.1⟩
/-- back to the image -/
def yvBack (V : yV) (U : yU) : yV := ((yuI U, yuM U, yuR U, yvC V), yuH U, yuP U, V.2.2.2)
theorem k_back {d : Nat} {tl : List (Nat × Nat)} {q : zR} {im : zI} {V : yV} {U : yU} (hI : yInv tl q im V U) : yCall (d + 10) 102 217 [] tl q im (yOk tl q) := by
  obtain ⟨⟨hG, hA, hB⟩, ⟨hT, hS, hi, hw⟩, hm⟩ := id hI
  cases hk : yuK U with
  | false =>
    have e1 : im 0 2 = 0 := by rw [hi.1, hk]; rfl
    have e2 : im 47 14 = 0 := by rw [hi.2.1, hk]; rfl
    exact ⟨-3, im, im, zEv_o rfl (t_X11_back ⟨fun h => absurd e1 h, fun _ => ⟨rfl, rfl⟩⟩), zEv_o rfl (t_X12_back ⟨fun h => absurd e2 h, fun _ => ⟨rfl, rfl⟩⟩), V, U, hI⟩
  | true =>
    have e1 : ¬ im 0 2 = 0 := by rw [hi.1, hk]; exact n10
    obtain ⟨i1, i2, i3, i4, i5, i6, i7, i8⟩ := hi.2.2 hk
    obtain ⟨m1, m2, m3, m4, m5⟩ := hm hk
    obtain ⟨ia, a1, a2, a3, a4, a5, a6, a7⟩ := c_become_1 (d := d + 8) (tl := tl) (q := q) (im := im)
    have e2 : ¬ ia 47 14 = 0 := by rw [a7 47 (by decide) (by decide) (by decide), hi.2.1, hk]; exact n10
    have l34 : ∀ (m k : Nat) (im1 im0 : zI), k + m = 48 → (∀ c, c ≠ 53 → im1 c = im0 c) → (∀ j, j < k → im1 53 j = im0 58 j) → ∃ im', zX (d + 9) zc_X12_back 34 [(0, .ref 47), (1, .int (Int32.ofNat k))] [] (zMm tl q im1) (fun x y => x = some (.int (im0 47 1)) ∧ y = zMm tl q im') ∧ (∀ c, c ≠ 53 → im' c = im0 c) ∧ (∀ j, j < 48 → im' 53 j = im0 58 j) := by
      intro m
      induction m with
      | zero =>
        intro k im1 im0 hk hF h
        have e : k = 48 := by omega
        subst e
        refine ⟨im1, t_X12_back_34 ⟨fun _ => ⟨?_, rfl⟩, fun h => absurd (by decide) h⟩, hF, h⟩
        rw [hF 47 (by decide)]
      | succ m ih =>
        intro k im1 im0 hk hF h
        obtain ⟨im', g1, g2⟩ := ih (k + 1) (up2 im1 53 k (im1 58 k)) im0 (by omega) (fun c hc => by rw [up_r hc]; exact hF c hc) (fun j hj => by
          by_cases e : j = k
          · subst e; rw [up_eq, hF 58 (by decide)]
          · rw [up_j e]; exact h j (by omega))
        refine ⟨im', t_X12_back_34 ?_, g2⟩
        rw [zi_n (show k < 2147483648 by omega), zi_s]
        exact ⟨fun h => absurd ((zi_le (a := 48) (by omega) (by omega)).mp h) (by omega), fun _ => ⟨zi_in (by omega) (by omega), zi_in (by omega) (by omega), g1⟩⟩
    have l19 : ∀ (m k : Nat) (im1 im0 : zI), k + m = 12 → (∀ c, c ≠ 48 → im1 c = im0 c) → (∀ j, j < k → im1 48 j = im0 57 j) → ∃ im', zX (d + 9) zc_X12_back 19 [(0, .ref 47), (1, .int (Int32.ofNat k))] [] (zMm tl q im1) (fun x y => x = some (.int (im0 47 1)) ∧ y = zMm tl q im') ∧ (∀ c, c ≠ 48 → c ≠ 53 → im' c = im0 c) ∧ (∀ j, j < 12 → im' 48 j = im0 57 j) ∧ (∀ j, j < 48 → im' 53 j = im0 58 j) := by
      intro m
      induction m with
      | zero =>
        intro k im1 im0 hk hF h
        have e : k = 12 := by omega
        subst e
        obtain ⟨im', g1, g2, g3⟩ := l34 48 0 im1 im1 (by omega) (fun _ _ => rfl) (fun j hj => absurd hj (by omega))
        refine ⟨im', t_X12_back_19 ⟨fun _ => ?_, fun h => absurd (by decide) h⟩, fun c h1 h2 => by rw [g2 c h2, hF c h1], fun j hj => by rw [g2 48 (by decide)]; exact h j hj, fun j hj => by rw [g3 j hj, hF 58 (by decide)]⟩
        rw [hF 47 (by decide)] at g1
        exact g1
      | succ m ih =>
        intro k im1 im0 hk hF h
        obtain ⟨im', g1, g2⟩ := ih (k + 1) (up2 im1 48 k (im1 57 k)) im0 (by omega) (fun c hc => by rw [up_r hc]; exact hF c hc) (fun j hj => by
          by_cases e : j = k
          · subst e; rw [up_eq, hF 57 (by decide)]
          · rw [up_j e]; exact h j (by omega))
        refine ⟨im', t_X12_back_19 ?_, g2⟩
        rw [zi_n (show k < 2147483648 by omega), zi_s]
        exact ⟨fun h => absurd ((zi_le (a := 12) (by omega) (by omega)).mp h) (by omega), fun _ => ⟨zi_in (by omega) (by omega), zi_in (by omega) (by omega), g1⟩⟩
    obtain ⟨ib, b1, b2, b3, b4⟩ := l19 12 0 _ (up2 (up2 (up2 ia 47 6 (Int32.ofNat (yuM U))) 47 1 (Int32.ofNat (yuI U))) 47 13 (Int32.ofNat (yuR U))) (by omega) (fun _ _ => rfl) (fun j hj => absurd hj (by omega))
    have e47 : ∀ j, j ≠ 6 → j ≠ 1 → j ≠ 13 → ib 47 j = im 47 j := fun j h1 h2 h3 => by rw [b2 47 (by decide) (by decide), up_j h3, up_j h2, up_j h1, a7 47 (by decide) (by decide) (by decide)]
    have er : ∀ k, k ≠ 47 → k ≠ 48 → k ≠ 53 → ib k = ia k := fun k h1 h2 h3 => by rw [b2 k h2 h3, up_r h1, up_r h1, up_r h1]
    have er2 : ∀ k, k ≠ 47 → k ≠ 48 → k ≠ 53 → k ≠ 1 → k ≠ 2 → ¬ (4 ≤ k ∧ k < 8) → ib k = im k := fun k h1 h2 h3 h4 h5 h6 => by rw [er k h1 h2 h3, a7 k h4 h5 h6]
    obtain ⟨p1, p2, p3, p4, p5, p6, p7, p8⟩ := hA
    obtain ⟨q1, q2, q3, q4, q5, q6, q7, q8⟩ := hB
    refine ⟨Int32.ofNat (yuI U), ia, ib, zEv_o rfl (t_X11_back ⟨fun _ => ⟨ia, a1, ?_, rfl⟩, fun h => absurd h e1⟩), zEv_o rfl (t_X12_back ⟨fun _ => ?_, fun h => absurd h e2⟩), yvBack V U, U, ⟨?_, ⟨?_, ?_, ?_, ?_, ?_, ?_, ?_, ?_⟩, ⟨?_, ?_, ?_, ?_, ?_, ?_, ?_, ?_⟩⟩, ⟨?_, ?_, ?_, fun j hj => (congrFun (er2 63 (by decide) (by decide) (by decide) (by decide) (by decide) (by decide)) j).trans (hw j hj)⟩, fun _ => ⟨Nat.le_refl _, m2, m3, m4, m5⟩⟩
    · rw [a5, i1]
    · rw [a7 47 (by decide) (by decide) (by decide), i4, i5, i6]
      have : (up2 (up2 (up2 ia 47 6 (Int32.ofNat (yuM U))) 47 1 (Int32.ofNat (yuI U))) 47 13 (Int32.ofNat (yuR U))) 47 1 = Int32.ofNat (yuI U) := by rw [up_j (by decide), up_eq]
      rw [this] at b1
      exact b1
    · obtain ⟨g1, g2, g3, g4, g5, g6, g7⟩ := hG
      exact ⟨by show yuI U ≤ 6; omega, m2, m3, g4, m4, m5, fun i hi => g7 i (by have hi' : i < yuI U := hi; omega)⟩
    · rw [er 1 (by decide) (by decide) (by decide), a5, i1]; rfl
    · rw [er 1 (by decide) (by decide) (by decide), a4, i2]; rfl
    · rw [er 1 (by decide) (by decide) (by decide), a6, i3]; rfl
    · rw [er2 0 (by decide) (by decide) (by decide) (by decide) (by decide) (by decide)]; exact p4
    · intro t ht; rw [er 2 (by decide) (by decide) (by decide), a2 t ht]; exact (i7 t ht).1
    · intro p hp t ht; rw [er (4 + p) (by omega) (by omega) (by omega), a3 p hp t ht]; exact (i8 p hp t ht).1
    · intro i hi
      have hi' : i < yuI U := hi
      exact yAi_k (im' := ib) p7 (fun k hk => er2 k (by omega) (by omega) (by omega) (by omega) (by omega) (by omega)) i (by omega)
    · exact yAt_k p8 (fun k hk => er2 k (by omega) (by omega) (by omega) (by omega) (by omega) (by omega))
    · rw [b2 47 (by decide) (by decide), up_j (by decide), up_eq]; rfl
    · rw [b2 47 (by decide) (by decide), up_j (by decide), up_j (by decide), up_eq]; rfl
    · rw [b2 47 (by decide) (by decide), up_eq]; rfl
    · rw [e47 12 (by decide) (by decide) (by decide)]; exact q4
    · intro t ht
      rw [b3 t ht, up_k (by decide), up_k (by decide), up_k (by decide), a7 57 (by decide) (by decide) (by decide)]; exact (i7 t ht).2
    · intro p hp t ht
      rw [b4 (12 * p + t) (by omega), up_k (by decide), up_k (by decide), up_k (by decide), a7 58 (by decide) (by decide) (by decide)]; exact (i8 p hp t ht).2
    · intro i hi
      have hi' : i < yuI U := hi
      rw [er2 49 (by decide) (by decide) (by decide) (by decide) (by decide) (by decide), er2 50 (by decide) (by decide) (by decide) (by decide) (by decide) (by decide), er2 51 (by decide) (by decide) (by decide) (by decide) (by decide) (by decide), er2 52 (by decide) (by decide) (by decide) (by decide) (by decide) (by decide)]
      exact q7 i (by omega)
    · intro k hk
      exact yTx_k (q8 k hk) (er2 55 (by decide) (by decide) (by decide) (by decide) (by decide) (by decide)) (er2 56 (by decide) (by decide) (by decide) (by decide) (by decide) (by decide))
    · exact yHt_ag hT (er2 17 (by decide) (by decide) (by decide) (by decide) (by decide) (by decide)) (er2 18 (by decide) (by decide) (by decide) (by decide) (by decide) (by decide)) (er2 54 (by decide) (by decide) (by decide) (by decide) (by decide) (by decide)) (e47 9 (by decide) (by decide) (by decide))
    · exact yHs_ag hS (fun k h1 h2 => er2 k (by omega) (by omega) (by omega) (by omega) (by omega) (by omega)) (er2 59 (by decide) (by decide) (by decide) (by decide) (by decide) (by decide)) (er2 60 (by decide) (by decide) (by decide) (by decide) (by decide) (by decide)) (er2 61 (by decide) (by decide) (by decide) (by decide) (by decide) (by decide))
    · exact yHi_ag hi (by rw [er2 0 (by decide) (by decide) (by decide) (by decide) (by decide) (by decide)]) (fun j h1 h2 => e47 j (by omega) (by omega) (by omega)) (fun k h1 h2 => er2 k (by omega) (by omega) (by omega) (by omega) (by omega) (by omega)) (er2 57 (by decide) (by decide) (by decide) (by decide) (by decide) (by decide)) (er2 58 (by decide) (by decide) (by decide) (by decide) (by decide) (by decide))
