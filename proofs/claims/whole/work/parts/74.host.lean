/-! THE HOST'S VIEW: ((tape's size, bytes), (sort, size, cells) by sheet, (is kept, (islands, people, rule), heights, places) of the image) -/
abbrev yU : Type := (Nat × (Nat → Int32)) × (Nat → Int32 × Nat × (Nat → Int32)) × (Bool × (Nat × Nat × Nat) × (Nat → Int32) × (Nat → Nat → Int32))
def yuN (U : yU) : Nat := U.1.1
def yuB (U : yU) : Nat → Int32 := U.1.2
def yuS (U : yU) (s : Nat) : Int32 := (U.2.1 s).1
def yuZ (U : yU) (s : Nat) : Nat := (U.2.1 s).2.1
def yuC (U : yU) (s : Nat) : Nat → Int32 := (U.2.1 s).2.2
def yuK (U : yU) : Bool := U.2.2.1
def yuI (U : yU) : Nat := U.2.2.2.1.1
def yuM (U : yU) : Nat := U.2.2.2.1.2.1
def yuR (U : yU) : Nat := U.2.2.2.1.2.2
def yuH (U : yU) : Nat → Int32 := U.2.2.2.2.1
def yuP (U : yU) : Nat → Nat → Int32 := U.2.2.2.2.2
def yHt (im : zI) (U : yU) : Prop := im 17 1 = Int32.ofNat (yuN U) ∧ im 47 9 = Int32.ofNat (yuN U) ∧ yuN U ≤ 160 ∧ (∀ k, k < yuN U → im 18 k = yuB U k ∧ im 54 k = yuB U k ∧ ∃ b, b < 256 ∧ yuB U k = Int32.ofNat b)
def yHs (im : zI) (U : yU) : Prop := ∀ s, s < 4 → im (37 + 2 * s) 1 = yuS U s ∧ im (37 + 2 * s) 2 = Int32.ofNat (yuZ U s) ∧ yuZ U s ≤ 40 ∧ (∀ j, j < 40 → im (38 + 2 * s) j = yuC U s j) ∧ im 59 s = yuS U s ∧ im 60 s = Int32.ofNat (yuZ U s) ∧ (∀ j, j < 40 → im 61 (40 * s + j) = yuC U s j)
def yHi (im : zI) (U : yU) : Prop := im 0 2 = zb (yuK U) ∧ im 47 14 = zb (yuK U) ∧ (yuK U = true → im 8 3 = Int32.ofNat (yuI U) ∧ im 8 2 = Int32.ofNat (yuM U) ∧ im 8 4 = Int32.ofNat (yuR U) ∧ im 47 16 = Int32.ofNat (yuI U) ∧ im 47 15 = Int32.ofNat (yuM U) ∧ im 47 17 = Int32.ofNat (yuR U) ∧
  (∀ t, t < 12 → im 9 t = yuH U t ∧ im 57 t = yuH U t) ∧ (∀ p, p < 4 → ∀ t, t < 12 → im (11 + p) t = yuP U p t ∧ im 58 (12 * p + t) = yuP U p t))
/-- the Model's words -/
def yW63 : List Nat := [119, 111, 114, 116, 104, 32, 32, 32, 99, 111, 115, 116, 115, 32, 32, 32, 115, 116, 111, 114, 109, 32, 32, 32, 116, 111, 108, 100, 32, 32, 32, 32, 104, 101, 105, 103, 104, 116, 32, 32, 109, 111, 114, 101, 32, 32, 32, 32, 102, 97, 114, 32, 32, 32, 32, 32, 116, 105, 100, 101, 32, 32, 32, 32, 110, 117, 109, 98, 101, 114, 32, 32, 111, 114, 32, 32, 32, 32, 32, 32, 97, 110, 100, 32, 32, 32, 32, 32, 110, 111, 116, 32, 32, 32, 32, 32]
def yWw (im : zI) : Prop := ∀ j, j < 96 → im 63 j = Int32.ofNat (yW63.getD j 0)
def yH (im : zI) (U : yU) : Prop := yHt im U ∧ yHs im U ∧ yHi im U ∧ yWw im
/-- what the image keeps can come back -/
def yIm (V : yV) (U : yU) : Prop := yuK U = true → yuI U ≤ yvN V ∧ yuM U ≤ 4 ∧ yuR U < yvC V ∧ (∀ t, t < 12 → ∃ a, a < 10 ∧ yuH U t = Int32.ofNat a) ∧ (∀ p, p < yuM U → ∀ t, t < 12 → yuP U p t = -1 ∨ ∃ k, k < yuI U ∧ yuP U p t = Int32.ofNat k)
def yInv (tl : List (Nat × Nat)) (q : zR) (im : zI) (V : yV) (U : yU) : Prop := yS tl q im V ∧ yH im U ∧ yIm V U
def yOk (tl : List (Nat × Nat)) (q : zR) (im : zI) : Prop := ∃ V U, yInv tl q im V U
theorem yIm_le {V V' : yV} {U : yU} (h : yIm V U) (h1 : yvN V ≤ yvN V') (h2 : yvC V ≤ yvC V') : yIm V' U := fun hk => by
  obtain ⟨a1, a2, a3, a4, a5⟩ := h hk
  exact ⟨by omega, a2, by omega, a4, a5⟩
def yUc (k j : Nat) : Prop := (7 < k ∧ k < 15) ∨ (k = 0 ∧ j = 2) ∨ k = 17 ∨ k = 18 ∨ (36 < k ∧ k < 45) ∨ k = 54 ∨ (56 < k ∧ k < 62) ∨ k = 63 ∨ (k = 47 ∧ (j = 9 ∨ (13 < j ∧ j < 18)))
theorem yHt_ag {im im' : zI} {U : yU} (h : yHt im U) (h1 : im' 17 = im 17) (h2 : im' 18 = im 18) (h3 : im' 54 = im 54) (h4 : im' 47 9 = im 47 9) : yHt im' U := by
  unfold yHt at h ⊢
  rw [h1, h2, h3, h4]
  exact h
theorem yHs_ag {im im' : zI} {U : yU} (h : yHs im U) (h1 : ∀ k, 36 < k → k < 45 → im' k = im k) (h2 : im' 59 = im 59) (h3 : im' 60 = im 60) (h4 : im' 61 = im 61) : yHs im' U := by
  intro s hs
  have := h s hs
  rw [h1 (37 + 2 * s) (by omega) (by omega), h1 (38 + 2 * s) (by omega) (by omega), h2, h3, h4]
  exact this
theorem yHi_ag {im im' : zI} {U : yU} (h : yHi im U) (h1 : im' 0 2 = im 0 2) (h2 : ∀ j, 13 < j → j < 18 → im' 47 j = im 47 j) (h3 : ∀ k, 7 < k → k < 15 → im' k = im k) (h4 : im' 57 = im 57) (h5 : im' 58 = im 58) : yHi im' U := by
  obtain ⟨a1, a2, a3⟩ := h
  refine ⟨by rw [h1]; exact a1, by rw [h2 14 (by decide) (by decide)]; exact a2, fun hk => ?_⟩
  obtain ⟨b1, b2, b3, b4, b5, b6, b7, b8⟩ := a3 hk
  rw [h3 8 (by decide) (by decide), h3 9 (by decide) (by decide), h2 15 (by decide) (by decide), h2 16 (by decide) (by decide), h2 17 (by decide) (by decide), h4, h5]
  refine ⟨b1, b2, b3, b4, b5, b6, b7, fun p hp t ht => ?_⟩
  rw [h3 (11 + p) (by omega) (by omega)]
  exact b8 p hp t ht
theorem yH_ag {im im' : zI} {U : yU} (h : yH im U) (hk : ∀ k j, yUc k j → im' k j = im k j) : yH im' U := by
  have e : ∀ k, (∀ j, yUc k j) → im' k = im k := fun k h => funext fun j => hk k j (h j)
  refine ⟨yHt_ag h.1 (e 17 fun j => ?_) (e 18 fun j => ?_) (e 54 fun j => ?_) (hk 47 9 ?_), yHs_ag h.2.1 (fun k h1 h2 => e k fun j => ?_) (e 59 fun j => ?_) (e 60 fun j => ?_) (e 61 fun j => ?_), yHi_ag h.2.2.1 (hk 0 2 ?_) (fun j h1 h2 => hk 47 j ?_) (fun k h1 h2 => e k fun j => ?_) (e 57 fun j => ?_) (e 58 fun j => ?_), fun j hj => (congrFun (e 63 fun j => ?_) j).trans (h.2.2.2 j hj)⟩ <;> unfold yUc <;> omega
theorem yInv_fr {tl : List (Nat × Nat)} {q : zR} {im im' : zI} {V : yV} {U : yU} (h : yInv tl q im V U) (hf : yFr im im') : yInv tl q im' V U :=
  ⟨yS_fr h.1 hf, yH_ag h.2.1 (fun k j hu => hf k j (by unfold yUc at hu; unfold yScr; omega)), h.2.2⟩
theorem yCall.mo {D kc km : Nat} {as : List Value} {tl : List (Nat × Nat)} {q : zR} {im : zI} {P Q : zI → Prop} (h : yCall D kc km as tl q im P) (hpq : ∀ im2, P im2 → Q im2) : yCall D kc km as tl q im Q := by
  obtain ⟨v, im1, im2, h1, h2, h3⟩ := h
  exact ⟨v, im1, im2, h1, h2, hpq _ h3⟩
theorem yCall.ro {D kc km : Nat} {as : List Value} {tl : List (Nat × Nat)} {q : zR} {im : zI} {V : yV} {U : yU} (h : yCall D kc km as tl q im (yFr im)) (hI : yInv tl q im V U) : yCall D kc km as tl q im (yOk tl q) := h.mo fun _ hf => ⟨V, U, yInv_fr hI hf⟩
/-! parts of the class's cells -/
theorem yAi_k {tl : List (Nat × Nat)} {q : zR} {im im' : zI} {V : yV} (h : ∀ i, i < yvN V → ∃ r, zRf q 15 i = some r ∧ 71 < r ∧ yIs tl im r (yvK V i) (yvD V i) (yvU V i) (yvO V i)) (hk : ∀ k, 71 < k → im' k = im k) : ∀ i, i < yvN V → ∃ r, zRf q 15 i = some r ∧ 71 < r ∧ yIs tl im' r (yvK V i) (yvD V i) (yvU V i) (yvO V i) := fun i hi => by
  obtain ⟨r, h1, h2, h3⟩ := h i hi
  exact ⟨r, h1, h2, yIs_k h3 (hk r h2)⟩
theorem yAt_k {tl : List (Nat × Nat)} {q : zR} {im im' : zI} {V : yV} (h : ∀ k, k < yvC V → ∃ r, zRf q 16 k = some r ∧ (r = 45 ∨ 71 < r) ∧ (∀ cc, zRf q r 0 = some cc → cc = 46 ∨ 71 < cc) ∧ yCx tl q im r (yvX V k)) (hk : ∀ k, k = 45 ∨ k = 46 ∨ 71 < k → im' k = im k) : ∀ k, k < yvC V → ∃ r, zRf q 16 k = some r ∧ (r = 45 ∨ 71 < r) ∧ (∀ cc, zRf q r 0 = some cc → cc = 46 ∨ 71 < cc) ∧ yCx tl q im' r (yvX V k) := fun k hk' => by
  obtain ⟨r, h1, h2, h3, h4⟩ := h k hk'
  refine ⟨r, h1, h2, h3, yCx_k h4 (hk r (by omega)) (fun cc hc => ?_)⟩
  have := h3 cc hc
  exact hk cc (by omega)
/-- the class's cells, the Model's: what does not reach them -/
theorem yA_ag {tl : List (Nat × Nat)} {q : zR} {im im' : zI} {V : yV} (h : yA tl q im V) (h0 : im' 0 5 = im 0 5) (h1 : ∀ k, 0 < k → k < 8 → im' k = im k) (h2 : ∀ k, k = 45 ∨ k = 46 ∨ 71 < k → im' k = im k) : yA tl q im' V := by
  obtain ⟨a1, a2, a3, a4, a5, a6, a7, a8⟩ := h
  refine ⟨by rw [h1 1 (by decide) (by decide)]; exact a1, by rw [h1 1 (by decide) (by decide)]; exact a2, by rw [h1 1 (by decide) (by decide)]; exact a3, by rw [h0]; exact a4, by rw [h1 2 (by decide) (by decide)]; exact a5, fun p hp t ht => ?_, yAi_k a7 (fun k hk => h2 k (by omega)), yAt_k a8 h2⟩
  rw [h1 (4 + p) (by omega) (by omega)]
  exact a6 p hp t ht
theorem yB_ag {im im' : zI} {V : yV} (h : yB im V) (h0 : ∀ j, j = 1 ∨ j = 6 ∨ j = 12 ∨ j = 13 → im' 47 j = im 47 j) (h1 : ∀ k, 47 < k → k < 54 → im' k = im k) (h2 : im' 55 = im 55) (h3 : im' 56 = im 56) : yB im' V := by
  obtain ⟨a1, a2, a3, a4, a5, a6, a7, a8⟩ := h
  refine ⟨by rw [h0 1 (by decide)]; exact a1, by rw [h0 6 (by decide)]; exact a2, by rw [h0 13 (by decide)]; exact a3, by rw [h0 12 (by decide)]; exact a4, by rw [h1 48 (by decide) (by decide)]; exact a5, by rw [h1 53 (by decide) (by decide)]; exact a6, by rw [h1 49 (by decide) (by decide), h1 50 (by decide) (by decide), h1 51 (by decide) (by decide), h1 52 (by decide) (by decide)]; exact a7, fun k hk => yTx_k (a8 k hk) h2 h3⟩
/-! a tide's height told -/
def yvTide (V : yV) (t : Nat) (v : Int32) : yV := (V.1, zSet V.2.1 t v, V.2.2)
theorem yA_tide {tl : List (Nat × Nat)} {q : zR} {im : zI} {V : yV} {t : Nat} {v : Int32} (h : yA tl q im V) : yA tl q (up2 im 2 t v) (yvTide V t v) := by
  obtain ⟨a1, a2, a3, a4, a5, a6, a7, a8⟩ := h
  refine ⟨a1, a2, a3, a4, fun t' ht' => ?_, fun p hp t' ht' => ?_, yAi_k a7 (fun k hk => up_r (by omega)), yAt_k a8 (fun k hk => up_r (by omega))⟩
  · show _ = zSet V.2.1 t v t'
    by_cases e : t' = t
    · subst e; rw [up_eq, zSet_eq]
    · rw [up_j e, zSet_ne e]; exact a5 t' ht'
  · rw [up_k (by omega)]; exact a6 p hp t' ht'
theorem yB_tide {im : zI} {V : yV} {t : Nat} {v : Int32} (h : yB im V) : yB (up2 im 48 t v) (yvTide V t v) := by
  obtain ⟨a1, a2, a3, a4, a5, a6, a7, a8⟩ := h
  refine ⟨a1, a2, a3, a4, fun t' ht' => ?_, a6, a7, fun k hk => yTx_k (a8 k hk) rfl rfl⟩
  show _ = zSet V.2.1 t v t'
  by_cases e : t' = t
  · subst e; rw [up_eq, zSet_eq]
  · rw [up_j e, zSet_ne e]; exact a5 t' ht'
theorem yG_tide {V : yV} {t a : Nat} (h : yG V) (ha : a < 10) : yG (yvTide V t (Int32.ofNat a)) := by
  obtain ⟨g1, g2, g3, g4, g5, g6, g7⟩ := h
  refine ⟨g1, g2, g3, g4, fun t' ht' => ?_, g6, g7⟩
  show ∃ b, b < 10 ∧ zSet V.2.1 t (Int32.ofNat a) t' = Int32.ofNat b
  by_cases e : t' = t
  · subst e; rw [zSet_eq]; exact ⟨a, ha, rfl⟩
  · rw [zSet_ne e]; exact g5 t' ht'
theorem k_tide {d : Nat} {a b : Int32} {tl : List (Nat × Nat)} {q : zR} {im : zI} {V : yV} {U : yU} (hI : yInv tl q im V U) : yCall (d + 10) 65 141 [.int a, .int b] tl q im (yOk tl q) := by
  obtain ⟨⟨hG, hA, hB⟩, hH, hm⟩ := id hI
  cases h1 : bW a 11 with
  | false => exact ⟨-5, im, im, zEv_o rfl (t_X11_tide ⟨_, _, cT_f h1, fun e => absurd rfl e, fun _ => ⟨rfl, rfl⟩⟩), zEv_o rfl (t_X12_tide ⟨_, _, mT_f h1, fun e => absurd rfl e, fun _ => ⟨rfl, rfl⟩⟩), V, U, hI⟩
  | true =>
    cases h2 : bW b 9 with
    | false => exact ⟨-7, im, im, zEv_o rfl (t_X11_tide ⟨_, _, cT_t h1, fun _ => ⟨_, _, cW_f h2, fun e => absurd rfl e, fun _ => ⟨rfl, rfl⟩⟩, fun e => absurd e n10⟩), zEv_o rfl (t_X12_tide ⟨_, _, mT_t h1, fun _ => ⟨_, _, mW_f h2, fun e => absurd rfl e, fun _ => ⟨rfl, rfl⟩⟩, fun e => absurd e n10⟩), V, U, hI⟩
    | true =>
      obtain ⟨t, ht, rfl⟩ := bW_ex (by decide) h1
      obtain ⟨v, hv, rfl⟩ := bW_ex (by decide) h2
      have v12 := zi_in ht (show t < 2147483648 by omega)
      refine ⟨yvH V t, up2 im 2 t (Int32.ofNat v), up2 (up2 im 2 t (Int32.ofNat v)) 48 t (Int32.ofNat v), zEv_o rfl (t_X11_tide ⟨_, _, cT_t h1, fun _ => ⟨_, _, cW_t h2, fun _ => ⟨v12, v12, ?_⟩, fun e => absurd e n10⟩, fun e => absurd e n10⟩), zEv_o rfl (t_X12_tide ⟨_, _, mT_t h1, fun _ => ⟨_, _, mW_t h2, fun _ => ⟨v12, v12, ?_⟩, fun e => absurd e n10⟩, fun e => absurd e n10⟩), yvTide V t (Int32.ofNat v), U, ⟨yG_tide hG hv, ?_, ?_⟩, ?_, yIm_le hm (Nat.le_refl _) (Nat.le_refl _)⟩
      · rw [zi_n (show t < 2147483648 by omega), hA.2.2.2.2.1 t ht]
        exact ⟨rfl, rfl⟩
      · rw [zi_n (show t < 2147483648 by omega), up_k (by decide), hB.2.2.2.2.1 t ht]
        exact ⟨rfl, rfl⟩
      · exact yA_ag (yA_tide hA) rfl (fun k h1 h2 => up_r (by omega)) (fun k hk => up_r (by omega))
      · exact yB_tide (yB_ag hB (fun _ _ => rfl) (fun k h1 h2 => up_r (by omega)) rfl rfl)
      · exact yH_ag hH (fun k j hu => by unfold yUc at hu; rw [up_k (by omega), up_k (by omega)])
theorem k_height {d : Nat} {a : Int32} {tl : List (Nat × Nat)} {q : zR} {im : zI} {V : yV} (hS : yS tl q im V) : yCall (d + 10) 66 142 [.int a] tl q im (yFr im) := by
  obtain ⟨hG, hA, hB⟩ := hS
  cases h1 : bW a 11 with
  | false => exact ⟨-5, im, im, zEv_o rfl (t_X11_height ⟨_, _, cT_f h1, fun _ => ⟨rfl, rfl⟩, fun e => absurd rfl e⟩), zEv_o rfl (t_X12_height ⟨_, _, mT_f h1, fun _ => ⟨rfl, rfl⟩, fun e => absurd rfl e⟩), yFr.rf⟩
  | true =>
    obtain ⟨t, ht, rfl⟩ := bW_ex (by decide) h1
    have v12 := zi_in ht (show t < 2147483648 by omega)
    refine ⟨yvH V t, im, im, zEv_o rfl (t_X11_height ⟨_, _, cT_t h1, fun e => absurd e n10, fun _ => ⟨v12, ?_⟩⟩), zEv_o rfl (t_X12_height ⟨_, _, mT_t h1, fun e => absurd e n10, fun _ => ⟨v12, ?_⟩⟩), yFr.rf⟩
    · rw [zi_n (show t < 2147483648 by omega), hA.2.2.2.2.1 t ht]
      exact ⟨rfl, rfl⟩
    · rw [zi_n (show t < 2147483648 by omega), hB.2.2.2.2.1 t ht]
      exact ⟨rfl, rfl⟩
/-! one comes -/
def yvCome (V : yV) : yV := ((yvN V, yvM V + 1, yvR V, yvC V), V.2.1, (fun p t => if p = yvM V then -1 else V.2.2.1 p t), V.2.2.2)
theorem k_come {d : Nat} {tl : List (Nat × Nat)} {q : zR} {im : zI} {V : yV} {U : yU} (hI : yInv tl q im V U) : yCall (d + 10) 67 143 [] tl q im (yOk tl q) := by
  obtain ⟨⟨hG, hA, hB⟩, hH, hm⟩ := id hI
  have hM := hG.2.1
  by_cases h4 : yvM V < 4
  · obtain ⟨im1, g1, g2, g3⟩ := c_fill (d := d + 8) (a := 4 + yvM V) (len := 12) (tl := tl) (q := q) (im := im) (v := -1) (zB_row h4) (by decide)
    have hB1 : yB (up2 im1 1 2 (Int32.ofNat (yvM V) + 1)) V := yB_ag hB (fun j _ => by rw [up_k (by decide), g3 47 (by omega)]) (fun k h1 h2 => by rw [up_r (by omega), g3 k (by omega)]) (by rw [up_r (by omega), g3 55 (by omega)]) (by rw [up_r (by omega), g3 56 (by omega)])
    have lm : ∀ m t im2, t + m = 12 → (∀ k, k ≠ 53 → im2 k = (up2 im1 1 2 (Int32.ofNat (yvM V) + 1)) k) → (∀ p, p < 4 → ∀ t', t' < 12 → im2 53 (12 * p + t') = if p = yvM V ∧ t' < t then -1 else yvP V p t') → ∃ im', zX (d + 9) zc_X12_come 8 [(0, .ref 47), (1, .int (Int32.ofNat t))] [] (zMm tl q im2) (fun x y => x = some (.int (Int32.ofNat (yvM V) + 1 - 1)) ∧ y = zMm tl q (up2 im' 47 6 (Int32.ofNat (yvM V) + 1))) ∧ (∀ k, k ≠ 53 → im' k = (up2 im1 1 2 (Int32.ofNat (yvM V) + 1)) k) ∧ (∀ p, p < 4 → ∀ t', t' < 12 → im' 53 (12 * p + t') = if p = yvM V then -1 else yvP V p t') := by
      intro m
      induction m with
      | zero =>
        intro t im2 ht hF h53
        have e : t = 12 := by omega
        subst e
        refine ⟨im2, t_X12_come_8 ?_, hF, fun p hp t' ht' => ?_⟩
        · rw [hF 47 (by decide), hB1.2.1]
          exact ⟨fun _ => ⟨rfl, rfl⟩, fun h => absurd (by decide) h⟩
        · rw [h53 p hp t' ht']
          by_cases e : p = yvM V
          · rw [if_pos ⟨e, ht'⟩, if_pos e]
          · rw [if_neg (fun h => e h.1), if_neg e]
      | succ m ih =>
        intro t im2 ht hF h53
        have e1 : ((12 : Int32) * Int32.ofNat (yvM V)) + Int32.ofNat t = Int32.ofNat (12 * yvM V + t) := by rw [Int32.ofNat_add, Int32.ofNat_mul]; rfl
        obtain ⟨im', h1, h2⟩ := ih (t + 1) (up2 im2 53 (12 * yvM V + t) (-1)) (by omega) (fun k hk => by rw [up_r hk]; exact hF k hk) (fun p hp t' ht' => by
          by_cases e : 12 * p + t' = 12 * yvM V + t
          · rw [e, up_eq, if_pos (by omega)]
          · rw [up_j e, h53 p hp t' ht']
            by_cases e2 : p = yvM V ∧ t' < t
            · rw [if_pos e2, if_pos (by omega)]
            · rw [if_neg e2, if_neg (by omega)])
        refine ⟨im', t_X12_come_8 ?_, h2⟩
        rw [hF 47 (by decide), hB1.2.1, e1, zi_n (by omega), zi_s (a := t)]
        exact ⟨fun h => absurd ((zi_le (a := 12) (by omega) (by omega)).mp h) (by omega), fun _ => ⟨zi_in (by omega) (by omega), h1⟩⟩
    obtain ⟨im2, d1, d2, d3⟩ := lm 12 0 (up2 im1 1 2 (Int32.ofNat (yvM V) + 1)) (by omega) (fun _ _ => rfl) (fun p hp t ht => by rw [if_neg (by omega)]; exact hB1.2.2.2.2.2.1 p hp t ht)
    refine ⟨Int32.ofNat (yvM V) + 1 - 1, up2 im1 1 2 (Int32.ofNat (yvM V) + 1), up2 im2 47 6 (Int32.ofNat (yvM V) + 1), zEv_o rfl (t_X11_come ?_), zEv_o rfl (t_X12_come ?_), yvCome V, U, ⟨?_, ?_, ?_⟩, ?_, yIm_le hm (Nat.le_refl _) (Nat.le_refl _)⟩
    · rw [hA.2.1, zi_n (by omega), zRf_row h4]
      refine ⟨fun _ => ⟨zi_in h4 (by omega), im1, g1, ?_⟩, fun h => absurd ((zi_lt (b := 4) (by omega) (by omega)).mpr h4) h⟩
      rw [g3 1 (by omega), hA.2.1]
      exact ⟨rfl, rfl⟩
    · rw [hB1.2.1]
      exact ⟨fun _ => d1, fun h => absurd ((zi_eq (b := 4) (by omega) (by omega)).mp h) (by omega)⟩
    · obtain ⟨g1, g2, g3, g4, g5, g6, g7⟩ := hG
      refine ⟨g1, by show yvM V + 1 ≤ 4; omega, g3, g4, g5, fun p hp t ht => ?_, g7⟩
      show (if p = yvM V then -1 else yvP V p t) = -1 ∨ ∃ k, k < yvN V ∧ (if p = yvM V then -1 else yvP V p t) = Int32.ofNat k
      by_cases e : p = yvM V
      · rw [if_pos e]; exact .inl rfl
      · rw [if_neg e]
        have hp' : p < yvM V + 1 := hp
        exact g6 p (by omega) t ht
    · obtain ⟨a1, a2, a3, a4, a5, a6, a7, a8⟩ := hA
      have hr : ∀ k, k ≠ 1 → k ≠ 4 + yvM V → k ≠ 47 → k ≠ 53 → up2 im2 47 6 (Int32.ofNat (yvM V) + 1) k = im k := fun k h1 h2 h3 h4 => by rw [up_r h3, d2 k h4, up_r h1, g3 k h2]
      refine ⟨?_, ?_, ?_, ?_, ?_, fun p hp t ht => ?_, yAi_k a7 (fun k hk => hr k (by omega) (by omega) (by omega) (by omega)), yAt_k a8 (fun k hk => hr k (by omega) (by omega) (by omega) (by omega))⟩
      · rw [up_k (by decide), d2 1 (by decide), up_j (by decide), g3 1 (by omega)]; exact a1
      · rw [up_k (by decide), d2 1 (by decide), up_eq, zi_s]; rfl
      · rw [up_k (by decide), d2 1 (by decide), up_j (by decide), g3 1 (by omega)]; exact a3
      · rw [hr 0 (by decide) (by omega) (by decide) (by decide)]; exact a4
      · rw [hr 2 (by decide) (by omega) (by decide) (by decide)]; exact a5
      · show _ = if p = yvM V then -1 else yvP V p t
        by_cases e : p = yvM V
        · rw [if_pos e, e, up_k (by omega), d2 (4 + yvM V) (by omega), up_k (by omega), g2 t ht]
        · rw [if_neg e, hr (4 + p) (by omega) (by omega) (by omega) (by omega)]; exact a6 p hp t ht
    · obtain ⟨a1, a2, a3, a4, a5, a6, a7, a8⟩ := hB1
      have hr : ∀ k, k ≠ 47 → k ≠ 53 → up2 im2 47 6 (Int32.ofNat (yvM V) + 1) k = (up2 im1 1 2 (Int32.ofNat (yvM V) + 1)) k := fun k h1 h2 => by rw [up_r h1, d2 k h2]
      refine ⟨?_, ?_, ?_, ?_, ?_, ?_, ?_, fun k hk => yTx_k (a8 k hk) (hr 55 (by decide) (by decide)) (hr 56 (by decide) (by decide))⟩
      · rw [up_j (by decide), d2 47 (by decide)]; exact a1
      · rw [up_eq, zi_s]; rfl
      · rw [up_j (by decide), d2 47 (by decide)]; exact a3
      · rw [up_j (by decide), d2 47 (by decide)]; exact a4
      · rw [hr 48 (by decide) (by decide)]; exact a5
      · rw [up_r (by decide)]; exact d3
      · rw [hr 49 (by decide) (by decide), hr 50 (by decide) (by decide), hr 51 (by decide) (by decide), hr 52 (by decide) (by decide)]; exact a7
    · refine yH_ag hH (fun k j hu => ?_)
      unfold yUc at hu
      by_cases e : k = 47
      · subst e
        rw [up_j (by omega), d2 47 (by decide), up_k (by decide), g3 47 (by omega)]
      · rw [up_k e, d2 k (by omega), up_k (by omega), g3 k (by omega)]
  · have e4 : yvM V = 4 := by omega
    refine ⟨-4, im, im, zEv_o rfl (t_X11_come ?_), zEv_o rfl (t_X12_come ?_), V, U, hI⟩
    · rw [hA.2.1, e4]
      exact ⟨fun h => absurd h (by decide), fun _ => ⟨rfl, rfl⟩⟩
    · rw [hB.2.1, e4]
      exact ⟨fun h => absurd rfl h, fun _ => ⟨rfl, rfl⟩⟩
