/-! THE CLASS'S TEXT: its parts -/
theorem c_tPart {n k p : Nat} {B : Nat → Int32} {cs : List Nat} {tl : List (Nat × Nat)} {q : zR} {im : zI} (hn : n ≤ 160) (hBb : ∀ k, k < n → ∃ c, c < 256 ∧ B k = Int32.ofNat c) (hk : k < 3) (h : yxCs B n im (yxAd B n p) 0 cs) (hp : p ≤ n) (hl : cs.length + k ≤ (yxAd B n p).2.1) :
    match yxPa B n k p with
    | .inl e => e ≤ 160 ∧ ∃ im1 im2 im', zEv 41 30 [.ref 17, .int ((300 : Int32) + Int32.ofNat k)] (zMm tl q im) none (zMm tl q im1) ∧ zEv 41 33 [.ref 17] (zMm tl q im1) none (zMm tl q im2) ∧ zEv 41 30 [.ref 17, .int (59 : Int32)] (zMm tl q im2) none (zMm tl q im') ∧ yxFs im' e ∧ yxKp im im'
    | .inr (p', a) => p' ≤ n ∧ (cs ++ a).length + (k + 1) ≤ (yxAd B n p').2.1 ∧ ∃ im1 im2 im', zEv 41 30 [.ref 17, .int ((300 : Int32) + Int32.ofNat k)] (zMm tl q im) none (zMm tl q im1) ∧ zEv 41 33 [.ref 17] (zMm tl q im1) none (zMm tl q im2) ∧ zEv 41 30 [.ref 17, .int (59 : Int32)] (zMm tl q im2) none (zMm tl q im') ∧ yxCs B n im' (yxAd B n p') 0 (cs ++ a) ∧ yxKp im im' := by
  obtain ⟨hok, hge⟩ := yxAd_ok (B := B) hBb hp
  have e300 : (300 : Int32) + Int32.ofNat k = Int32.ofNat (300 + k) := by
    rw [Int32.ofNat_add]
    rfl
  have hb160 : (yxAd B n p).2.1 ≤ 160 := by
    have h1 := hok.1
    have h2 := hok.2.1
    omega
  unfold yxPa
  by_cases hT : (yxAd B n p).1 = (3, k)
  · rw [if_pos hT]
    have hlt := hok.2.2.1 (by rw [hT]; exact (show (3 : Nat) ≠ 0 by decide))
    obtain ⟨im1, g1, g2, g3⟩ := c_xPass (d := 36) (w := (300 : Int32) + Int32.ofNat k) (tl := tl) (q := q) hn hBb h (by rw [hT, e300]; rfl)
    obtain ⟨k1, k2⟩ := yxAd_ok (B := B) hBb hok.2.1
    have hs := c_xRd (tl := tl) (q := q) hn hBb 36 5 0 (by decide) (by decide) (by decide) (yxAd B n (yxAd B n p).2.2) cs im1 (k + 1) g2 k1 (by omega)
    unfold yxEr
    cases hr : yxRd B n 36 5 0 (yxAd B n (yxAd B n p).2.2) with
    | inl e =>
      rw [hr] at hs
      obtain ⟨e1, im2, e2, e3, e4⟩ := hs
      obtain ⟨im3, f1, f2, f3⟩ := f_pass (d := 39) (w := 59) (tl := tl) (q := q) (by omega) e3
      exact ⟨e1, im1, im2, im3, g1, e2, f1, f2, g3.tr (e4.tr f3)⟩
    | inr P =>
      obtain ⟨S', a⟩ := P
      rw [hr] at hs
      obtain ⟨e1, e2, im2, e3, e4, e5⟩ := hs
      have hb1 : S'.2.1 ≤ 160 := by
        have h1 := e1.1
        have h2 := e1.2.1
        omega
      simp only
      by_cases h59 : S'.1 = (8, 59)
      · simp only [if_pos h59]
        obtain ⟨im3, f1, f2, f3⟩ := c_xPass (d := 36) (w := 59) (tl := tl) (q := q) hn hBb e4 (by rw [h59]; rfl)
        have h2 := (yxAd_ok (B := B) hBb e1.2.1).2
        have h3 := e1.1
        exact ⟨e1.2.1, by omega, im1, im2, im3, g1, e3, f1, f2, g3.tr (e5.tr f3)⟩
      · simp only [if_neg h59]
        obtain ⟨im3, f1, f2, f3⟩ := c_xPassN (d := 39) (w := 59) (tl := tl) (q := q) e4 (by omega) (fun h => h59 (yxC_s (m := 59) e1.2.2.2 (by omega) h))
        exact ⟨hb1, im1, im2, im3, g1, e3, f1, f2, g3.tr (e5.tr f3)⟩
  · rw [if_neg hT]
    have hv := hok.2.2.2
    obtain ⟨im1, g1, g2, g3⟩ := c_xPassN (d := 39) (w := (300 : Int32) + Int32.ofNat k) (tl := tl) (q := q) h (by omega) (fun h => hT (by
      rw [e300] at h
      have h1 := yxC_inv hv (by omega) h
      have h2 := hv.2.2.2.2
      have : (yxAd B n p).1.1 = 3 ∧ (yxAd B n p).1.2 = k := by omega
      exact Prod.ext this.1 this.2))
    obtain ⟨im2, e1, e2, e3⟩ := f_or (d := 34) (tl := tl) (q := q) (by omega) g2
    obtain ⟨im3, f1, f2, f3⟩ := f_pass (d := 39) (w := 59) (tl := tl) (q := q) (by omega) e2
    exact ⟨hb160, im1, im2, im3, g1, e1, f1, f2, g3.tr (e3.tr f3)⟩
theorem c_tStep {k : Nat} {x1 x2 : Int32} {tl : List (Nat × Nat)} {q : zR} {im im1 im2 im3 : zI} {Z : Option Value → zM → Prop} (hk : k < 3) (g1 : zEv 41 30 [.ref 17, .int ((300 : Int32) + Int32.ofNat k)] (zMm tl q im) none (zMm tl q im1)) (g2 : zEv 41 33 [.ref 17] (zMm tl q im1) none (zMm tl q im2)) (g3 : zEv 41 30 [.ref 17, .int (59 : Int32)] (zMm tl q im2) none (zMm tl q im3))
    (hz : zX 41 zc_X7_readText 20 [(0, .ref 17), (1, .int (if k = 1 then im 17 4 else x1)), (2, .int (if k = 2 then im 17 4 else x2)), (3, .int (Int32.ofNat (k + 1)))] [] (zMm tl q im3) Z) : zX 41 zc_X7_readText 20 [(0, .ref 17), (1, .int x1), (2, .int x2), (3, .int (Int32.ofNat k))] [] (zMm tl q im) Z := by
  have n3 : ¬ (3 : Int32) ≤ Int32.ofNat k := fun hh => absurd ((zi_le (a := 3) (by omega) (by omega)).mp hh) (by omega)
  refine t_X7_readTextB_20 ⟨fun hh => absurd hh n3, fun _ => ?_⟩
  rw [zi_s]
  match k, hk, hz, g1 with
  | 0, _, hz, g1 => exact ⟨fun _ => ⟨fun _ => ⟨im1, g1, im2, g2, im3, g3, hz⟩, fun hh => absurd hh (by decide)⟩, fun hh => absurd hh (by decide)⟩
  | 1, _, hz, g1 => exact ⟨fun hh => absurd rfl hh, fun _ => ⟨fun _ => ⟨im1, g1, im2, g2, im3, g3, hz⟩, fun hh => absurd hh (by decide)⟩⟩
  | 2, _, hz, g1 => exact ⟨fun _ => ⟨fun hh => absurd rfl hh, fun _ => ⟨im1, g1, im2, g2, im3, g3, hz⟩⟩, fun hh => absurd hh (by decide)⟩
/-- behind a fault -/
theorem c_tF {e : Nat} {tl : List (Nat × Nat)} {q : zR} (he : e ≤ 160) : ∀ (m k : Nat) (im : zI), k + m = 3 → yxFs im e → ∃ im', (∀ x1 x2 : Int32, zX 41 zc_X7_readText 20 [(0, .ref 17), (1, .int x1), (2, .int x2), (3, .int (Int32.ofNat k))] [] (zMm tl q im) (fun x y => x = some .null ∧ y = zMm tl q im')) ∧ im' 17 2 = Int32.ofNat e ∧ yxKp im im' := by
  intro m
  induction m with
  | zero =>
    intro k im hk h
    have : k = 3 := by omega
    subst this
    obtain ⟨im1, f1, f2, f3⟩ := f_pass (d := 39) (w := -1) (tl := tl) (q := q) (by omega) h
    have hne : ¬ im1 17 2 = -1 := by
      rw [f2.1]
      exact zi_m1 (by omega)
    exact ⟨im1, fun x1 x2 => t_X7_readTextB_20 ⟨fun _ => ⟨im1, f1, fun _ => ⟨rfl, rfl⟩, fun hh => absurd hh hne⟩, fun hh => absurd (Int32.le_refl 3) hh⟩, f2.1, f3⟩
  | succ m ih =>
    intro k im hk h
    obtain ⟨im1, g1, g2, g3⟩ := f_pass (d := 39) (w := (300 : Int32) + Int32.ofNat k) (tl := tl) (q := q) (by omega) h
    obtain ⟨im2, e1, e2, e3⟩ := f_or (d := 34) (tl := tl) (q := q) (by omega) g2
    obtain ⟨im3, f1, f2, f3⟩ := f_pass (d := 39) (w := 59) (tl := tl) (q := q) (by omega) e2
    obtain ⟨im', i1, i2, i3⟩ := ih (k + 1) im3 (by omega) f2
    exact ⟨im', fun x1 x2 => c_tStep (by omega) g1 e1 f1 (i1 _ _), i2, g3.tr (e3.tr (f3.tr i3))⟩
/-! the new text's cells -/
def yTn (im : zI) (r r' : Nat) (L : Nat) (u v : Int32) : zI :=
  up2 (up2 (row2 (zero2 (zero2 im r 1 0) r' 1 0) r' (va_cpy ((zero2 (zero2 im r 1 0) r' 1 0) 19) ((zero2 (zero2 im r 1 0) r' 1 0) r') ((0 : Int32)).toNatClampNeg ((0 : Int32)).toNatClampNeg L)) r 1 u) r 2 v
theorem yTn_o {im : zI} {r r' L k : Nat} {u v : Int32} (h1 : k ≠ r) (h2 : k ≠ r') : yTn im r r' L u v k = im k := by
  unfold yTn
  rw [up_r h1, up_r h1]
  funext j
  unfold row2
  rw [if_neg h2]
  unfold zero2
  rw [if_neg (by omega), if_neg (by omega)]
theorem yTn_c {im : zI} {r r' L i : Nat} {u v : Int32} (h1 : r' ≠ r) (h2 : r ≠ 19) (h3 : r' ≠ 19) (hi : i < L) : yTn im r r' L u v r' i = im 19 i := by
  unfold yTn
  rw [up_r h1, up_r h1]
  unfold row2
  rw [if_pos rfl]
  unfold va_cpy
  have z : ((0 : Int32)).toNatClampNeg = 0 := rfl
  rw [z, if_pos (by omega)]
  unfold zero2
  rw [if_neg (by omega), if_neg (by omega)]
  congr 1
  omega
theorem c_copyOf {d L : Nat} {tl : List (Nat × Nat)} {q : zR} {im : zI} (hl : tl.length < 100000) (hL : L < 160) :
    zEv (d + 1) 226 [.ref 19, .int (Int32.ofNat L)] (zMm tl q im) (some (va_rf (some (72 + tl.length)))) (zMm (tl ++ [(20, L)]) (zero2 q (72 + tl.length) 1 none) (row2 (zero2 im (72 + tl.length) 1 0) (72 + tl.length) (va_cpy ((zero2 im (72 + tl.length) 1 0) 19) ((zero2 im (72 + tl.length) 1 0) (72 + tl.length)) ((0 : Int32)).toNatClampNeg ((0 : Int32)).toNatClampNeg L))) := by
  have eL : (Int32.ofNat L).toNatClampNeg = L := zi_n (by omega)
  have hlt : Int32.ofNat L < Int32.ofNat 160 := (zi_lt (by omega) (by omega)).mpr hL
  have e19 : ∀ t : List (Nat × Nat), (zB ++ t : List (Nat × Nat))[19]? = some (20, 160) := fun t => rfl
  refine zEv_o rfl (t_J7_copyOf_59c91 ?_)
  rw [e19 tl]
  refine ⟨fun _ => ⟨zi_neg (by omega), ?_, hl, ?_⟩, fun hh => absurd ((zi_eq (b := 160) (by omega) (by omega)).mp hh) (by omega)⟩
  · rw [eL]
    omega
  · rw [e19, eL, zA_new]
    have n0 : ¬ (0 : Int32) < 0 := by decide
    have z : ((0 : Int32)).toNatClampNeg = 0 := rfl
    show ¬ (0 : Int32) < 0 ∧ ¬ (0 : Int32) < 0 ∧ ¬ (if Int32.ofNat L < Int32.ofNat 160 then Int32.ofNat L else Int32.ofNat 160) < 0 ∧ _
    rw [if_pos hlt, eL]
    refine ⟨n0, n0, zi_neg (by omega), ?_, ?_, rfl, rfl⟩
    · rw [z]
      show 0 + L ≤ 160
      omega
    · rw [z]
      show 0 + L ≤ L
      omega
theorem c_init8 {d r r' L : Nat} {u v : Int32} {tl : List (Nat × Nat)} {q : zR} {im : zI} (hr : 72 ≤ r) (h1 : (zB ++ tl)[r]? = some (8, 3)) (h2 : (zB ++ tl)[r']? = some (20, L)) :
    zEv (d + 1) 39 [.ref r, .ref r', .int u, .int v] (zMm tl q im) none (zMm tl (up2 q r 0 (some r')) (up2 (up2 im r 1 u) r 2 v)) := by
  refine zEv_o rfl (t_X8_init ⟨hr, ?_⟩)
  rw [h2, h1]
  exact ⟨rfl, rfl⟩
