/-! THE MODEL'S TEXT -/
theorem yx4 {c k : Nat} {x : Int32} (hx : x = Int32.ofNat c) : (4 : Int32) * x + Int32.ofNat k = Int32.ofNat (4 * c + k) := by
  rw [hx, Int32.ofNat_add, Int32.ofNat_mul]
  rfl
theorem m_tBad {d c : Nat} {x2 : Int32} {tl : List (Nat × Nat)} {q : zR} {im : zI} (h12 : im 47 12 = Int32.ofNat c) (hc : c < 6) :
    zX d zc_X12_text 16 [(0, .ref 47), (1, .int (0 : Int32)), (2, .int x2)] [] (zMm tl q im) (fun x y => x = some (.int (-100 - im 47 25)) ∧ y = zMm tl q (up2 (up2 im 56 (4 * c + 3) (im 47 32)) 47 9 0)) := by
  have e : (4 : Int32) * im 47 12 + 3 = Int32.ofNat (4 * c + 3) := yx4 (k := 3) h12
  refine t_X12_text_16 ?_
  rw [e, zi_n (by omega)]
  have v := zi_in (show 4 * c + 3 < 24 by omega) (show 4 * c + 3 < 2147483648 by omega)
  exact ⟨fun _ => ⟨fun _ => ⟨v, fun hh => absurd rfl hh, fun _ => ⟨rfl, rfl⟩⟩, fun hh => absurd rfl hh⟩, fun _ => ⟨fun _ => ⟨fun _ => ⟨v, fun hh => absurd rfl hh, fun _ => ⟨rfl, rfl⟩⟩, fun hh => absurd rfl hh⟩, fun hh => absurd rfl hh⟩⟩
theorem yxMt_3 {T : Nat × Nat} (hv : yxVT T) (h8 : T.1 = 8 → 40 ≤ T.2) : (yxMt T = 3 ↔ T.1 = 3) ∧ (yxMt T = 0 ↔ T.1 = 0) := by
  obtain ⟨a, b⟩ := T
  have ha : a < 9 := hv.1
  have hb2 := hv.2.2.2.2
  match a, ha, h8, hb2 with
  | 0, _, _, _ => exact (by decide : ((0 : Int32) = 3 ↔ (0 : Nat) = 3) ∧ ((0 : Int32) = 0 ↔ (0 : Nat) = 0))
  | 1, _, _, _ => exact (by decide : ((-1 : Int32) = 3 ↔ (1 : Nat) = 3) ∧ ((-1 : Int32) = 0 ↔ (1 : Nat) = 0))
  | 2, _, _, _ => exact (by decide : ((1 : Int32) = 3 ↔ (2 : Nat) = 3) ∧ ((1 : Int32) = 0 ↔ (2 : Nat) = 0))
  | 3, _, _, _ => exact (by decide : ((3 : Int32) = 3 ↔ (3 : Nat) = 3) ∧ ((3 : Int32) = 0 ↔ (3 : Nat) = 0))
  | 4, _, _, _ => exact (by decide : ((4 : Int32) = 3 ↔ (4 : Nat) = 3) ∧ ((4 : Int32) = 0 ↔ (4 : Nat) = 0))
  | 5, _, _, _ => exact (by decide : ((5 : Int32) = 3 ↔ (5 : Nat) = 3) ∧ ((5 : Int32) = 0 ↔ (5 : Nat) = 0))
  | 6, _, _, _ => exact (by decide : ((6 : Int32) = 3 ↔ (6 : Nat) = 3) ∧ ((6 : Int32) = 0 ↔ (6 : Nat) = 0))
  | 7, _, _, _ => exact (by decide : ((2 : Int32) = 3 ↔ (7 : Nat) = 3) ∧ ((2 : Int32) = 0 ↔ (7 : Nat) = 0))
  | 8, _, h8, hb2 =>
    have h1 : 40 ≤ b := h8 rfl
    have h2 : b < 256 := hb2 rfl
    have k : ∀ m, m < 40 → ¬ yxMt (8, b) = Int32.ofNat m := fun m hm h => absurd ((zi_eq (by omega) (by omega)).mp h) (by omega)
    exact ⟨⟨fun h => absurd h (k 3 (by decide)), fun h => absurd (show (8 : Nat) = 3 from h) (by decide)⟩, ⟨fun h => absurd h (k 0 (by decide)), fun h => absurd (show (8 : Nat) = 0 from h) (by decide)⟩⟩
theorem yxMk_up {c m : Nat} {v : Int32} {im im1 : zI} (h : yxMk c im im1) : yxMk c (up2 im 56 m v) (up2 im1 56 m v) := fun k j h1 h2 h3 => by
  by_cases e : k = 56
  · subst e
    by_cases e2 : j = m
    · subst e2
      rw [up_eq, up_eq]
    · rw [up_j e2, up_j e2]
      exact h 56 j h1 h2 h3
  · rw [up_k e, up_k e]
    exact h k j h1 h2 h3
theorem yxMb_56 {B : Nat → Int32} {n c p m : Nat} {v b : Int32} {out : List Nat} {im : zI} (h : yxMb B n c im p b out) : yxMb B n c (up2 im 56 m v) p b out := h
/-- the next token -/
theorem m_xNx {d n c p : Nat} {b : Int32} {B : Nat → Int32} {out : List Nat} {tl : List (Nat × Nat)} {q : zR} {im : zI} (hn : n ≤ 160) (hBb : ∀ k, k < n → ∃ c, c < 256 ∧ B k = Int32.ofNat c) (h : yxMb B n c im p b out) (hp : p ≤ n) :
    ∃ im1, zEv (d + 2) 150 [.ref 47] (zMm tl q im) none (zMm tl q im1) ∧ yxMb B n c im1 (yxAd B n p).2.2 (Int32.ofNat (yxAd B n p).2.1) out ∧ im1 47 26 = yxMt (yxAd B n p).1 ∧ ((yxAd B n p).1.1 = 3 → im1 47 27 = Int32.ofNat (yxAd B n p).1.2) ∧ yxMk c im im1 := by
  obtain ⟨⟨a1, a2, a3, a4, a5⟩, ⟨c1, c2⟩, e1, e2⟩ := h
  obtain ⟨im1, n1, n25, n24, n26, n27, nk⟩ := m_next (d := d) (tl := tl) (q := q) hn hp hBb a1 a2 a3 e1
  have ok : ∀ k j, k ≠ 47 → im1 k j = im k j := fun k j hkj => nk k j (by omega)
  have h47 : ∀ j, ¬ (23 < j ∧ j < 28) → im1 47 j = im 47 j := fun j hj => nk 47 j (by omega)
  exact ⟨im1, n1, ⟨⟨by rw [h47 9 (by omega)]; exact a1, fun k hk => by rw [ok 54 k (by decide)]; exact a2 k hk, fun j hj => by rw [ok 63 j (by decide)]; exact a3 j hj, by rw [h47 12 (by omega)]; exact a4, a5⟩, ⟨by rw [h47 32 (by omega)]; exact c1, fun i hi => by rw [ok 55 _ (by decide)]; exact c2 i hi⟩, n24, n25⟩, n26, fun h => n27 (.inr (.inl h)), fun k j x y z => nk k j (by omega)⟩
theorem m_tPart {d n c p k : Nat} {b : Int32} {B : Nat → Int32} {out : List Nat} {tl : List (Nat × Nat)} {q : zR} {im : zI} (hn : n ≤ 160) (hBb : ∀ k, k < n → ∃ c, c < 256 ∧ B k = Int32.ofNat c) (hk : k < 3) (h : yxMb B n c im p b out) (hp : p ≤ n) (ho : out.length ≤ p) :
    match yxPa B n k p with
    | .inl e => ∃ im', (∀ Z, zX (d + 4) zc_X12_text 16 [(0, .ref 47), (1, .int (0 : Int32)), (2, .int (Int32.ofNat (k + 1)))] [] (zMm tl q im') Z → zX (d + 4) zc_X12_text 16 [(0, .ref 47), (1, .int (1 : Int32)), (2, .int (Int32.ofNat k))] [] (zMm tl q im) Z) ∧ im' 47 25 = Int32.ofNat e ∧ yxMk c (up2 im 56 (4 * c + k) (Int32.ofNat out.length)) im'
    | .inr (p', a) => p' ≤ n ∧ (out ++ a).length ≤ p' ∧ ∃ im' b', (∀ Z, zX (d + 4) zc_X12_text 16 [(0, .ref 47), (1, .int (1 : Int32)), (2, .int (Int32.ofNat (k + 1)))] [] (zMm tl q im') Z → zX (d + 4) zc_X12_text 16 [(0, .ref 47), (1, .int (1 : Int32)), (2, .int (Int32.ofNat k))] [] (zMm tl q im) Z) ∧ yxMb B n c im' p' b' (out ++ a) ∧ yxMk c (up2 im 56 (4 * c + k) (Int32.ofNat out.length)) im' := by
  have hc6 := h.1.2.2.2.2
  obtain ⟨im1, n1, hM, n26, n27, nk⟩ := m_xNx (d := d + 2) (tl := tl) (q := q) hn hBb h hp
  obtain ⟨hok, hge⟩ := yxAd_ok (B := B) hBb hp
  have h8 : (yxAd B n p).1.1 = 8 → 40 ≤ (yxAd B n p).1.2 := yxVS_k hBb
  obtain ⟨i3, _⟩ := yxMt_3 hok.2.2.2 h8
  have n3k : ¬ (3 : Int32) ≤ Int32.ofNat k := fun hh => absurd ((zi_le (a := 3) (by omega) (by omega)).mp hh) (by omega)
  have e12 : im1 47 12 = Int32.ofNat c := hM.1.2.2.2.1
  have e32 : im1 47 32 = Int32.ofNat out.length := hM.2.1.1
  have ei : (4 : Int32) * im1 47 12 + Int32.ofNat k = Int32.ofNat (4 * c + k) := yx4 e12
  have v := zi_in (show 4 * c + k < 24 by omega) (show 4 * c + k < 2147483648 by omega)
  have ej : ((4 : Int32) * im1 47 12 + Int32.ofNat k).toNatClampNeg = 4 * c + k := by rw [ei, zi_n (by omega)]
  have hkup : yxMk c (up2 im 56 (4 * c + k) (Int32.ofNat out.length)) (up2 im1 56 (4 * c + k) (Int32.ofNat out.length)) := yxMk_up nk
  have t3 : im1 47 26 = 3 ↔ (yxAd B n p).1.1 = 3 := by rw [n26]; exact i3
  unfold yxPa
  by_cases hT : (yxAd B n p).1 = (3, k)
  · rw [if_pos hT]
    have e27 : im1 47 27 = Int32.ofNat k := by rw [n27 (by rw [hT]), hT]
    have e26 : im1 47 26 = 3 := t3.mpr (by rw [hT])
    have hlt := hok.2.2.1 (by rw [hT]; exact (show (3 : Nat) ≠ 0 by decide))
    obtain ⟨v15, im14, z1, z2⟩ := m_xE (d := d) (tl := tl) (q := q) hn hBb (yxMb_56 (m := 4 * c + k) (v := Int32.ofNat out.length) hM) hok.2.1 (by omega)
    have go : ∀ Z, (v15 = 0 → zX (d + 4) zc_X12_text 16 [(0, .ref 47), (1, .int (0 : Int32)), (2, .int (Int32.ofNat (k + 1)))] [] (zMm tl q im14) Z) → (¬ v15 = 0 → zX (d + 4) zc_X12_text 16 [(0, .ref 47), (1, .int (1 : Int32)), (2, .int (Int32.ofNat (k + 1)))] [] (zMm tl q im14) Z) → zX (d + 4) zc_X12_text 16 [(0, .ref 47), (1, .int (1 : Int32)), (2, .int (Int32.ofNat k))] [] (zMm tl q im) Z := fun Z g1 g2 => by
      refine t_X12_text_16 ⟨fun hh => absurd hh n3k, fun _ => ⟨fun hh => absurd hh n10, fun _ => ⟨im1, n1, fun hh => absurd e26 hh, fun _ => ⟨fun hh => absurd e27 hh, fun _ => ⟨by rw [ei]; exact v, v15, im14, ?_, ?_, ?_⟩⟩⟩⟩⟩
      · rw [ej, e32]
        exact z1
      · rw [zi_s]
        exact g1
      · rw [zi_s]
        exact g2
    cases hE : yxEr B n (yxAd B n (yxAd B n p).2.2) with
    | inl e =>
      rw [hE] at z2
      obtain ⟨w1, w2, w3⟩ := z2
      exact ⟨im14, fun Z g => go Z (fun _ => g) (fun hh => absurd w2 hh), w3, hkup.tr w1⟩
    | inr P =>
      obtain ⟨p', a⟩ := P
      rw [hE] at z2
      obtain ⟨w1, w2, w3, w4, b', w5⟩ := z2
      exact ⟨w3, w4, im14, b', fun Z g => go Z (fun hh => absurd (w2.symm.trans hh) n10) (fun _ => g), w5.b, hkup.tr w1⟩
  · rw [if_neg hT]
    refine ⟨up2 im1 56 (4 * c + k) (Int32.ofNat out.length), fun Z g => ?_, ?_, hkup⟩
    · have g' : vp_in ((4 : Int32) * im1 47 12 + Int32.ofNat k) 24 ∧ zX (d + 4) zc_X12_text 16 [(0, .ref 47), (1, .int (0 : Int32)), (2, .int (Int32.ofNat k + 1))] [] (zMm tl q (up2 im1 56 ((4 : Int32) * im1 47 12 + Int32.ofNat k).toNatClampNeg (im1 47 32))) Z := by
        rw [ej, e32, zi_s, ei]
        exact ⟨v, g⟩
      exact t_X12_text_16 ⟨fun hh => absurd hh n3k, fun _ => ⟨fun hh => absurd hh n10, fun _ => ⟨im1, n1, fun _ => g', fun e26 => ⟨fun _ => g', fun e27 => absurd (show (yxAd B n p).1 = (3, k) from by
        have h1 := t3.mp e26
        have h2 := (zi_eq (by have := hok.2.2.2.2.1; omega) (by omega)).mp ((n27 h1).symm.trans e27)
        exact Prod.ext h1 h2) hT⟩⟩⟩⟩
    · rw [up_k (by decide)]
      exact hM.2.2.2
/-- its end -/
theorem m_tEnd {d n c p : Nat} {b : Int32} {B : Nat → Int32} {out : List Nat} {tl : List (Nat × Nat)} {q : zR} {im : zI} (hn : n ≤ 160) (hBb : ∀ k, k < n → ∃ c, c < 256 ∧ B k = Int32.ofNat c) (h : yxMb B n c im p b out) (hp : p ≤ n) :
    ∃ im1, zX (d + 4) zc_X12_text 16 [(0, .ref 47), (1, .int (1 : Int32)), (2, .int (3 : Int32))] [] (zMm tl q im) (if (yxAd B n p).1.1 = 0 then (fun x y => x = some (.int (Int32.ofNat c)) ∧ y = zMm tl q (up2 (up2 (up2 im1 56 (4 * c + 3) (Int32.ofNat out.length)) 47 9 0) 47 12 (Int32.ofNat (c + 1)))) else (fun x y => x = some (.int (-100 - Int32.ofNat (yxAd B n p).2.1)) ∧ y = zMm tl q (up2 (up2 im1 56 (4 * c + 3) (Int32.ofNat out.length)) 47 9 0))) ∧ yxMk c im im1 ∧ ∃ p' b', yxMb B n c im1 p' b' out := by
  have hc6 := h.1.2.2.2.2
  obtain ⟨im1, n1, hM, n26, n27, nk⟩ := m_xNx (d := d + 2) (tl := tl) (q := q) hn hBb h hp
  obtain ⟨hok, hge⟩ := yxAd_ok (B := B) hBb hp
  have h8 : (yxAd B n p).1.1 = 8 → 40 ≤ (yxAd B n p).1.2 := yxVS_k hBb
  obtain ⟨_, i0⟩ := yxMt_3 hok.2.2.2 h8
  have e12 : im1 47 12 = Int32.ofNat c := hM.1.2.2.2.1
  have e32 : im1 47 32 = Int32.ofNat out.length := hM.2.1.1
  have e25 : im1 47 25 = Int32.ofNat (yxAd B n p).2.1 := hM.2.2.2
  have ei : (4 : Int32) * im1 47 12 + 3 = Int32.ofNat (4 * c + 3) := yx4 (k := 3) e12
  have v := zi_in (show 4 * c + 3 < 24 by omega) (show 4 * c + 3 < 2147483648 by omega)
  refine ⟨im1, ?_, nk, _, _, hM⟩
  by_cases h0 : (yxAd B n p).1.1 = 0
  · rw [if_pos h0]
    have t0 : im1 47 26 = 0 := n26.trans (i0.mpr h0)
    refine t_X12_text_16 ⟨fun _ => ⟨fun hh => absurd hh n10, fun _ => ⟨im1, n1, fun hh => absurd t0 hh, fun _ => ?_⟩⟩, fun hh => absurd (Int32.le_refl 3) hh⟩
    rw [ei, zi_n (by omega), e12, e32, zi_s]
    refine ⟨v, ?_, rfl⟩
    rw [← zi_s, Int32.add_sub_cancel]
  · rw [if_neg h0]
    have t0 : ¬ im1 47 26 = 0 := fun hh => h0 (i0.mp (n26.symm.trans hh))
    refine t_X12_text_16 ⟨fun _ => ⟨fun hh => absurd hh n10, fun _ => ⟨im1, n1, fun _ => ?_, fun hh => absurd hh t0⟩⟩, fun hh => absurd (Int32.le_refl 3) hh⟩
    rw [ei, zi_n (by omega), e25, e32]
    exact ⟨v, rfl, rfl⟩
/-- what a text's reading leaves as it is -/
def yxMz (c : Nat) (im im' : zI) : Prop := ∀ k j, k ≠ 64 → ¬ (k = 47 ∧ ((23 < j ∧ j < 33) ∨ j = 9 ∨ j = 12)) → ¬ (k = 55 ∧ 200 * c ≤ j) → ¬ (k = 56 ∧ 4 * c ≤ j) → im' k j = im k j
theorem yxMk.z {c : Nat} {im im' : zI} (h : yxMk c im im') : yxMz c im im' := fun k j h1 h2 h3 _ => h k j h1 (by omega) h3
theorem yxMz.tr {c : Nat} {a b e : zI} (h1 : yxMz c a b) (h2 : yxMz c b e) : yxMz c a e := fun k j x y z w => (h2 k j x y z w).trans (h1 k j x y z w)
theorem yxMz.u56 {c m : Nat} {v : Int32} {im : zI} (hm : 4 * c ≤ m) : yxMz c im (up2 im 56 m v) := fun k j h1 h2 h3 h4 => by
  by_cases e : k = 56
  · subst e
    rw [up_j (by omega)]
  · rw [up_k e]
theorem yxMz.u47 {c m : Nat} {v : Int32} {im : zI} (hm : (23 < m ∧ m < 33) ∨ m = 9 ∨ m = 12) : yxMz c im (up2 im 47 m v) := fun k j h1 h2 h3 h4 => by
  by_cases e : k = 47
  · subst e
    rw [up_j (by omega)]
  · rw [up_k e]
def yx3 (a b c : List Nat) (k : Nat) : List Nat := if k = 0 then a else if k = 1 then b else c
theorem yxL_g {a b : List Nat} {i : Nat} (h : i < a.length) : (a ++ b).getD i 0 = a.getD i 0 := by
  rw [List.getD_eq_getElem?_getD, List.getD_eq_getElem?_getD, List.getElem?_append_left h]
theorem yxL_h {a b : List Nat} {i : Nat} : (a ++ b).getD (a.length + i) 0 = b.getD i 0 := by
  rw [List.getD_eq_getElem?_getD, List.getD_eq_getElem?_getD, List.getElem?_append_right (Nat.le_add_right _ _), Nat.add_sub_cancel_left]
theorem m_text {d n c : Nat} {B : Nat → Int32} {tl : List (Nat × Nat)} {q : zR} {im : zI} (hn : n ≤ 160) (hBb : ∀ k, k < n → ∃ c, c < 256 ∧ B k = Int32.ofNat c) (h9 : im 47 9 = Int32.ofNat n) (hB : ∀ k, k < n → im 54 k = B k) (hW : yWw im) (h12 : im 47 12 = Int32.ofNat c) (hc : c < 6) :
    ∃ im', zEv (d + 5) 159 [.ref 47] (zMm tl q im) (some (.int (match yxTt B n with
      | .inl e => -100 - Int32.ofNat e
      | .inr _ => Int32.ofNat c))) (zMm tl q im') ∧ im' 47 9 = 0 ∧ yxMz c im im' ∧ match yxTt B n with
      | .inl _ => im' 47 12 = Int32.ofNat c
      | .inr (a0, a1, a2) => im' 47 12 = Int32.ofNat (c + 1) ∧ a0.length + a1.length + a2.length ≤ 160 ∧ yTx im' c (yx3 a0 a1 a2) := by
  have n6 : ¬ im 47 12 = 6 := by
    rw [h12]
    exact fun hh => absurd ((zi_eq (b := 6) (by omega) (by omega)).mp hh) (by omega)
  have o47 : ∀ j, j ≠ 24 → j ≠ 32 → (up2 (up2 im 47 24 0) 47 32 0 : zI) 47 j = im 47 j := fun j h1 h2 => by rw [up_j h2, up_j h1]
  have h0 : yxMb B n c (up2 (up2 im 47 24 0) 47 32 0) 0 (im 47 25) [] := ⟨⟨by rw [o47 9 (by decide) (by decide)]; exact h9, fun k hk => by rw [up_k (by decide), up_k (by decide)]; exact hB k hk, fun j hj => by rw [up_k (by decide), up_k (by decide)]; exact hW j hj, by rw [o47 12 (by decide) (by decide)]; exact h12, hc⟩, ⟨by rw [up_eq]; rfl, fun i hi => absurd hi (Nat.not_lt_zero _)⟩, by rw [up_j (by decide), up_eq]; rfl, by rw [o47 25 (by decide) (by decide)]⟩
  have z0 : yxMz c im (up2 (up2 im 47 24 0) 47 32 0) := (yxMz.u47 (by decide)).tr (yxMz.u47 (by decide))
  -- a fault
  have bad : ∀ (im' : zI) (k e : Nat), (∀ Z, zX (d + 4) zc_X12_text 16 [(0, .ref 47), (1, .int (0 : Int32)), (2, .int (Int32.ofNat k))] [] (zMm tl q im') Z → zX (d + 4) zc_X12_text 16 [(0, .ref 47), (1, .int (1 : Int32)), (2, .int (0 : Int32))] [] (zMm tl q (up2 (up2 im 47 24 0) 47 32 0)) Z) → im' 47 25 = Int32.ofNat e → im' 47 12 = Int32.ofNat c → yxMz c im im' →
      ∃ im', zEv (d + 5) 159 [.ref 47] (zMm tl q im) (some (.int (-100 - Int32.ofNat e))) (zMm tl q im') ∧ im' 47 9 = 0 ∧ yxMz c im im' ∧ im' 47 12 = Int32.ofNat c := fun im' k e hg h25 h12' hz => by
    have hb := m_tBad (d := d + 4) (x2 := Int32.ofNat k) (tl := tl) (q := q) h12' hc
    rw [h25] at hb
    exact ⟨_, zEv_o rfl (t_X12_text ⟨fun _ => hg _ hb, fun hh => absurd hh n6⟩), up_eq, hz.tr ((yxMz.u56 (by omega)).tr (yxMz.u47 (by decide))), by rw [up_j (by decide), up_k (by decide)]; exact h12'⟩
  have k12 : ∀ {im1 im2 : zI} {m : Nat} {v : Int32}, yxMk c (up2 im1 56 m v) im2 → im1 47 12 = Int32.ofNat c → im2 47 12 = Int32.ofNat c := fun hk h => by
    rw [hk 47 12 (by decide) (by omega) (by omega), up_k (by decide)]
    exact h
  have p0 := m_tPart (d := d) (k := 0) (tl := tl) (q := q) hn hBb (by decide) h0 (Nat.zero_le _) (Nat.le_refl _)
  unfold yxTt
  cases hq0 : yxPa B n 0 0 with
  | inl e =>
    rw [hq0] at p0
    obtain ⟨im1, g1, g2, g3⟩ := p0
    exact bad im1 1 e g1 g2 (k12 g3 h0.1.2.2.2.1) (z0.tr ((yxMz.u56 (by omega)).tr g3.z))
  | inr Q0 =>
    obtain ⟨p1, a0⟩ := Q0
    rw [hq0] at p0
    obtain ⟨r1, r2, im1, b1, g1, g2, g3⟩ := p0
    have wf0 := (yxPa_d hBb (Nat.zero_le _) hq0).2
    have p1' := m_tPart (d := d) (k := 1) (tl := tl) (q := q) hn hBb (by decide) g2 r1 r2
    simp only
    cases hq1 : yxPa B n 1 p1 with
    | inl e =>
      rw [hq1] at p1'
      obtain ⟨im2, s1, s2, s3⟩ := p1'
      exact bad im2 2 e (fun Z h => g1 Z (s1 Z h)) s2 (k12 s3 g2.1.2.2.2.1) (z0.tr ((yxMz.u56 (by omega)).tr (g3.z.tr ((yxMz.u56 (by omega)).tr s3.z))))
    | inr Q1 =>
      obtain ⟨p2, a1⟩ := Q1
      rw [hq1] at p1'
      obtain ⟨r3, r4, im2, b2, s1, s2, s3⟩ := p1'
      have wf1 := (yxPa_d hBb r1 hq1).2
      have p2' := m_tPart (d := d) (k := 2) (tl := tl) (q := q) hn hBb (by decide) s2 r3 r4
      simp only
      cases hq2 : yxPa B n 2 p2 with
      | inl e =>
        rw [hq2] at p2'
        obtain ⟨im3, u1, u2, u3⟩ := p2'
        exact bad im3 3 e (fun Z h => g1 Z (s1 Z (u1 Z h))) u2 (k12 u3 s2.1.2.2.2.1) (z0.tr ((yxMz.u56 (by omega)).tr (g3.z.tr ((yxMz.u56 (by omega)).tr (s3.z.tr ((yxMz.u56 (by omega)).tr u3.z))))))
      | inr Q2 =>
        obtain ⟨p3, a2⟩ := Q2
        rw [hq2] at p2'
        obtain ⟨r5, r6, im3, b3, u1, u2, u3⟩ := p2'
        have wf2 := (yxPa_d hBb r3 hq2).2
        obtain ⟨im4, e1, e2, p4, b4, e3⟩ := m_tEnd (d := d) (tl := tl) (q := q) hn hBb u2 r5
        have hz : yxMz c im im4 := z0.tr ((yxMz.u56 (by omega)).tr (g3.z.tr ((yxMz.u56 (by omega)).tr (s3.z.tr ((yxMz.u56 (by omega)).tr (u3.z.tr e2.z))))))
        simp only
        by_cases hE : (yxAd B n p3).1.1 = 0
        · simp only [if_pos hE] at e1 ⊢
          refine ⟨_, zEv_o rfl (t_X12_text ⟨fun _ => g1 _ (s1 _ (u1 _ e1)), fun hh => absurd hh n6⟩), by rw [up_j (by decide), up_eq], hz.tr ((yxMz.u56 (by omega)).tr ((yxMz.u47 (by decide)).tr (yxMz.u47 (by decide)))), up_eq, ?_, ?_⟩
          · have := r6
            simp only [List.length_append, List.length_nil] at this
            omega
          · have hl : ([] ++ a0 ++ a1 ++ a2).length = a0.length + a1.length + a2.length := by
              simp only [List.length_append, List.length_nil]
              omega
            have l6 : a0.length + a1.length + a2.length ≤ 160 := by omega
            have f56 : ∀ {im1 im2 : zI} {m : Nat} {v : Int32} {j : Nat}, yxMk c (up2 im1 56 m v) im2 → j ≠ m → im2 56 j = im1 56 j := fun hk h => by
              rw [hk 56 _ (by decide) (by omega) (by omega), up_j h]
            have f56' : ∀ {im1 im2 : zI} {m : Nat} {v : Int32}, yxMk c (up2 im1 56 m v) im2 → im2 56 m = v := fun hk => by
              rw [hk 56 _ (by decide) (by omega) (by omega), up_eq]
            have e56 : ∀ j, im4 56 j = im3 56 j := fun j => e2 56 j (by decide) (by omega) (by omega)
            have hcode : ∀ i, i < a0.length + a1.length + a2.length → im4 55 (200 * c + i) = Int32.ofNat (([] ++ a0 ++ a1 ++ a2).getD i 0) := fun i hi => e3.2.1.2 i (by omega)
            refine ⟨?_, ?_, ?_, ?_, l6, fun p hp => ?_, fun i hi => ?_, fun i hi => ?_, fun i hi => ?_⟩
            · rw [up_k (by decide), up_k (by decide), up_j (by omega), e56, f56 u3 (by omega), f56 s3 (by omega), show 4 * c = 4 * c + 0 by omega, f56' g3]
              rfl
            · rw [up_k (by decide), up_k (by decide), up_j (by omega), e56, f56 u3 (by omega), f56' s3]
              rfl
            · rw [up_k (by decide), up_k (by decide), up_j (by omega), e56, f56' u3]
              show Int32.ofNat (([] ++ a0 ++ a1).length) = _
              rw [List.length_append]
              rfl
            · rw [up_k (by decide), up_k (by decide), up_eq, hl]
              rfl
            · match p, hp with
              | 0, _ => exact wf0
              | 1, _ => exact wf1
              | 2, _ => exact wf2
            · have hi' : i < a0.length := hi
              rw [up_k (by decide), up_k (by decide), up_k (by decide), Nat.zero_add, hcode i (by omega), yxL_g (by simp only [List.length_append, List.length_nil]; omega), yxL_g (by simp only [List.length_append, List.length_nil]; omega)]
              rfl
            · have hi' : i < a1.length := hi
              have hh := hcode (a0.length + i) (by omega)
              rw [yxL_g (by simp only [List.length_append, List.length_nil]; omega), List.nil_append, yxL_h] at hh
              rw [up_k (by decide), up_k (by decide), up_k (by decide)]
              exact hh
            · have hi' : i < a2.length := hi
              have hh := hcode (a0.length + a1.length + i) (by omega)
              rw [List.nil_append, ← List.length_append, yxL_h] at hh
              rw [up_k (by decide), up_k (by decide), up_k (by decide)]
              rw [List.length_append] at hh
              exact hh
        · simp only [if_neg hE] at e1 ⊢
          exact ⟨_, zEv_o rfl (t_X12_text ⟨fun _ => g1 _ (s1 _ (u1 _ e1)), fun hh => absurd hh n6⟩), up_eq, hz.tr ((yxMz.u56 (by omega)).tr (yxMz.u47 (by decide))), by
            rw [up_j (by decide), up_k (by decide)]
            exact e3.1.2.2.2.1⟩
