/-! CALLS: text -/
theorem zA_lt {tl : List (Nat × Nat)} {s : Nat × Nat} {r : Nat} (h : (zB ++ tl)[r]? = some s) : r < 72 + tl.length := by
  have := (List.getElem?_eq_some_iff.mp h).1
  rw [zB_len] at this
  exact this
/-- the view with one more text; the tape, emptied -/
def yvTxt (V : yV) (T : Nat → List Nat) : yV := ((yvN V, yvM V, yvR V, yvC V + 1), V.2.1, V.2.2.1, V.2.2.2.1, fun k => if k = yvC V then T else V.2.2.2.2 k)
def yuTp (U : yU) : yU := ((0, yuB U), U.2)
theorem yvTxt_n {V : yV} {T : Nat → List Nat} : yvX (yvTxt V T) (yvC V) = T := if_pos rfl
theorem yvTxt_o {V : yV} {T : Nat → List Nat} {k : Nat} (h : k ≠ yvC V) : yvX (yvTxt V T) k = yvX V k := if_neg h
theorem yG_txt {V : yV} {T : Nat → List Nat} (hG : yG V) (hC : yvC V < 6) : yG (yvTxt V T) := by
  obtain ⟨g1, g2, g3, g4, g5, g6, g7⟩ := hG
  exact ⟨g1, g2, show yvR V < yvC V + 1 by omega, show yvC V + 1 ≤ 6 by omega, g5, g6, g7⟩
theorem yTx_kk {im im' : zI} {R : Nat} {T : Nat → List Nat} (h : yTx im R T) (h55 : ∀ j, j < 200 * (R + 1) → im' 55 j = im 55 j) (h56 : ∀ j, j < 4 * (R + 1) → im' 56 j = im 56 j) : yTx im' R T := by
  obtain ⟨s0, s1, s2, s3, hl, hd, c0, c1, c2⟩ := h
  exact ⟨by rw [h56 _ (by omega)]; exact s0, by rw [h56 _ (by omega)]; exact s1, by rw [h56 _ (by omega)]; exact s2, by rw [h56 _ (by omega)]; exact s3, hl, hd, fun i hi => by rw [h55 _ (by omega)]; exact c0 i hi, fun i hi => by rw [h55 _ (by omega)]; exact c1 i hi, fun i hi => by rw [h55 _ (by omega)]; exact c2 i hi⟩
theorem yH_tape {im im' : zI} {U : yU} (h : yH im U) (h1 : im' 17 1 = 0) (h2 : im' 47 9 = 0) (hk : ∀ k j, yUc k j → k ≠ 17 → k ≠ 18 → k ≠ 54 → ¬ (k = 47 ∧ j = 9) → im' k j = im k j) : yH im' (yuTp U) := by
  have e : ∀ k, (∀ j, yUc k j) → k ≠ 17 → k ≠ 18 → k ≠ 54 → k ≠ 47 → im' k = im k := fun k h a b c d => funext fun j => hk k j (h j) a b c (by omega)
  refine ⟨⟨h1, h2, Nat.zero_le _, fun k hk => absurd hk (Nat.not_lt_zero _)⟩, yHs_ag h.2.1 (fun k h1 h2 => e k (fun j => ?_) (by omega) (by omega) (by omega) (by omega)) (e 59 (fun j => ?_) (by decide) (by decide) (by decide) (by decide)) (e 60 (fun j => ?_) (by decide) (by decide) (by decide) (by decide)) (e 61 (fun j => ?_) (by decide) (by decide) (by decide) (by decide)), yHi_ag h.2.2.1 (hk 0 2 ?_ (by decide) (by decide) (by decide) (by omega)) (fun j h1 h2 => hk 47 j ?_ (by decide) (by decide) (by decide) (by omega)) (fun k h1 h2 => e k (fun j => ?_) (by omega) (by omega) (by omega) (by omega)) (e 57 (fun j => ?_) (by decide) (by decide) (by decide) (by decide)) (e 58 (fun j => ?_) (by decide) (by decide) (by decide) (by decide)), fun j hj => (congrFun (e 63 (fun j => ?_) (by decide) (by decide) (by decide) (by decide)) j).trans (h.2.2.2 j hj)⟩ <;> unfold yUc <;> omega
theorem yIm_txt {V V' : yV} {U : yU} (h : yIm V U) (h1 : yvN V ≤ yvN V') (h2 : yvC V ≤ yvC V') : yIm V' (yuTp U) := yIm_le (U := U) h h1 h2
theorem c_clearT {d : Nat} {tl : List (Nat × Nat)} {q : zR} {im : zI} : zEv (d + 1) 20 [.ref 17] (zMm tl q im) none (zMm tl q (up2 im 17 1 0)) := zEv_o rfl (t_X7_clear ⟨rfl, rfl⟩)
theorem yA_txt {tl : List (Nat × Nat)} {q : zR} {im im' : zI} {V : yV} {a0 a1 a2 : List Nat} (hA : yA tl q im V) (hC : yvC V < 6) (hk : yxKp im im') (hL : a0.length + a1.length + a2.length ≤ 160) (hd : ∀ p, p < 3 → yDp (yx3 a0 a1 a2 p) 0 = some 1) (hc : ∀ i, i < a0.length + a1.length + a2.length → im' 19 i = yTr ((a0 ++ a1 ++ a2).getD i 0)) :
    yA (tl ++ [(8, 3)] ++ [(20, a0.length + a1.length + a2.length)]) (up2 (up2 (zero2 (zero2 q (72 + tl.length) 1 none) (72 + (tl ++ [(8, 3)]).length) 1 none) (72 + tl.length) 0 (some (72 + (tl ++ [(8, 3)]).length))) 16 (yvC V) (some (72 + tl.length)))
      (up2 (up2 (yTn im' (72 + tl.length) (72 + (tl ++ [(8, 3)]).length) (a0.length + a1.length + a2.length) (Int32.ofNat a0.length) (Int32.ofNat (a0.length + a1.length))) 17 1 0) 0 5 (Int32.ofNat (yvC V + 1))) (yvTxt V (yx3 a0 a1 a2)) := by
  have el : (tl ++ [(8, 3)]).length = tl.length + 1 := by
    rw [List.length_append]
    rfl
  rw [el]
  have kk : ∀ k, k ≠ 19 → k ≠ 17 → im' k = im k := fun k h1 h2 => funext fun j => hk k j h1 (fun hh => h2 hh.1)
  have o : ∀ k, k ≠ 0 → k ≠ 17 → k ≠ 19 → k ≠ 72 + tl.length → k ≠ 72 + (tl.length + 1) → (up2 (up2 (yTn im' (72 + tl.length) (72 + (tl.length + 1)) (a0.length + a1.length + a2.length) (Int32.ofNat a0.length) (Int32.ofNat (a0.length + a1.length))) 17 1 0) 0 5 (Int32.ofNat (yvC V + 1)) : zI) k = im k := fun k h1 h2 h3 h4 h5 => by
    rw [up_r h1, up_r h2, yTn_o h4 h5, kk k h3 h2]
  have z0 : ∀ r a, r ≠ 72 + a → ∀ p : zR, zero2 p (72 + a) 1 none r = p r := fun r a h p => by
    funext j
    unfold zero2
    rw [if_neg (by omega)]
  have qo : ∀ r, r ≠ 16 → r ≠ 72 + tl.length → r ≠ 72 + (tl.length + 1) → (up2 (up2 (zero2 (zero2 q (72 + tl.length) 1 none) (72 + (tl.length + 1)) 1 none) (72 + tl.length) 0 (some (72 + (tl.length + 1)))) 16 (yvC V) (some (72 + tl.length)) : zR) r = q r := fun r h1 h2 h3 => by
    rw [ur_r h1, ur_r h2, z0 r _ h3, z0 r _ h2]
  have q16 : ∀ j, j ≠ yvC V → (up2 (up2 (zero2 (zero2 q (72 + tl.length) 1 none) (72 + (tl.length + 1)) 1 none) (72 + tl.length) 0 (some (72 + (tl.length + 1)))) 16 (yvC V) (some (72 + tl.length)) : zR) 16 j = q 16 j := fun j h => by
    rw [ur_j h, ur_r (by omega), z0 16 _ (by omega), z0 16 _ (by omega)]
  have hg : yGrow tl (tl ++ [(8, 3)] ++ [(20, a0.length + a1.length + a2.length)]) q (up2 (up2 (zero2 (zero2 q (72 + tl.length) 1 none) (72 + (tl.length + 1)) 1 none) (72 + tl.length) 0 (some (72 + (tl.length + 1)))) 16 (yvC V) (some (72 + tl.length))) im (up2 (up2 (yTn im' (72 + tl.length) (72 + (tl.length + 1)) (a0.length + a1.length + a2.length) (Int32.ofNat a0.length) (Int32.ofNat (a0.length + a1.length))) 17 1 0) 0 5 (Int32.ofNat (yvC V + 1))) :=
    ⟨⟨[(8, 3)] ++ [(20, a0.length + a1.length + a2.length)], List.append_assoc ..⟩, fun r s h h1 h2 => by
      have := zA_lt h
      exact qo r h2 (by omega) (by omega), fun r s h h1 => by
      have := zA_lt h
      exact o r (by omega) (by omega) (by omega) (by omega) (by omega)⟩
  obtain ⟨x1, x2, x3, x4, x5, x6, x7, x8⟩ := hA
  refine ⟨by rw [o 1 (by omega) (by omega) (by omega) (by omega) (by omega)]; exact x1, by rw [o 1 (by omega) (by omega) (by omega) (by omega) (by omega)]; exact x2, by rw [o 1 (by omega) (by omega) (by omega) (by omega) (by omega)]; exact x3, up_eq, fun t ht => by rw [o 2 (by omega) (by omega) (by omega) (by omega) (by omega)]; exact x5 t ht, fun p hp t ht => by rw [o (4 + p) (by omega) (by omega) (by omega) (by omega) (by omega)]; exact x6 p hp t ht, fun i hi => ?_, fun k hk' => ?_⟩
  · obtain ⟨r, r1, r2, r3⟩ := x7 i hi
    refine ⟨r, ?_, r2, hg.is r3 r2⟩
    rw [zRf_k (qo 15 (by omega) (by omega) (by omega))]
    exact r1
  · have hk2 : k < yvC V + 1 := hk'
    by_cases e : k = yvC V
    · subst e
      rw [yvTxt_n]
      have e1 : zRf (up2 (up2 (zero2 (zero2 q (72 + tl.length) 1 none) (72 + (tl.length + 1)) 1 none) (72 + tl.length) 0 (some (72 + (tl.length + 1)))) 16 (yvC V) (some (72 + tl.length))) 16 (yvC V) = some (72 + tl.length) := by
        rw [zRf_up (r := 16) rfl, ur_eq]
      have e2 : zRf (up2 (up2 (zero2 (zero2 q (72 + tl.length) 1 none) (72 + (tl.length + 1)) 1 none) (72 + tl.length) 0 (some (72 + (tl.length + 1)))) 16 (yvC V) (some (72 + tl.length))) (72 + tl.length) 0 = some (72 + (tl.length + 1)) := by
        rw [zRf_far (by omega), ur_r (by omega), ur_eq]
      have e3 : (zB ++ (tl ++ [(8, 3)] ++ [(20, a0.length + a1.length + a2.length)]) : List (Nat × Nat))[72 + tl.length]? = some (8, 3) := zA_old zA_new
      have e4 : (zB ++ (tl ++ [(8, 3)] ++ [(20, a0.length + a1.length + a2.length)]) : List (Nat × Nat))[72 + (tl.length + 1)]? = some (20, a0.length + a1.length + a2.length) := by
        rw [← el]
        exact zA_new
      have cc : ∀ i, i < a0.length + a1.length + a2.length → (up2 (up2 (yTn im' (72 + tl.length) (72 + (tl.length + 1)) (a0.length + a1.length + a2.length) (Int32.ofNat a0.length) (Int32.ofNat (a0.length + a1.length))) 17 1 0) 0 5 (Int32.ofNat (yvC V + 1)) : zI) (72 + (tl.length + 1)) i = yTr ((a0 ++ a1 ++ a2).getD i 0) := fun i hi => by
        rw [up_r (by omega), up_r (by omega), yTn_c (by omega) (by omega) (by omega) hi]
        exact hc i hi
      have cr : ∀ j, (up2 (up2 (yTn im' (72 + tl.length) (72 + (tl.length + 1)) (a0.length + a1.length + a2.length) (Int32.ofNat a0.length) (Int32.ofNat (a0.length + a1.length))) 17 1 0) 0 5 (Int32.ofNat (yvC V + 1)) : zI) (72 + tl.length) j = yTn im' (72 + tl.length) (72 + (tl.length + 1)) (a0.length + a1.length + a2.length) (Int32.ofNat a0.length) (Int32.ofNat (a0.length + a1.length)) (72 + tl.length) j := fun j => by
        rw [up_r (by omega), up_r (by omega)]
      refine ⟨72 + tl.length, e1, .inr (by omega), fun x hx => ?_, 3, 72 + (tl.length + 1), a0.length + a1.length + a2.length, e3, e2, e4, .inr (by omega), .inr (by omega), rfl, hL, ?_, ?_, hd, fun i hi => ?_, fun i hi => ?_, fun i hi => ?_⟩
      · rw [e2] at hx
        injection hx with hx
        exact .inr (by omega)
      · rw [cr]
        unfold yTn
        rw [up_j (by decide), up_eq]
        rfl
      · rw [cr]
        unfold yTn
        rw [up_eq]
        rfl
      · have hi' : i < a0.length := hi
        rw [Nat.zero_add, cc i (by omega), List.append_assoc, yxL_g hi']
        rfl
      · have hi' : i < a1.length := hi
        have hh := cc (a0.length + i) (by omega)
        rw [List.append_assoc, yxL_h, yxL_g hi'] at hh
        exact hh
      · have hi' : i < a2.length := hi
        have hh := cc (a0.length + a1.length + i) (by omega)
        rw [← List.length_append, yxL_h, List.length_append] at hh
        exact hh
    · obtain ⟨r, r1, r2, r3, r4⟩ := x8 k (by omega)
      rw [yvTxt_o e]
      obtain ⟨s1, s2⟩ := hg.cx r4 r2 r3 (o 45 (by omega) (by omega) (by omega) (by omega) (by omega)) (o 46 (by omega) (by omega) (by omega) (by omega) (by omega))
      refine ⟨r, ?_, r2, fun cc hc => r3 cc (s2 ▸ hc), s1⟩
      have : zRf (up2 (up2 (zero2 (zero2 q (72 + tl.length) 1 none) (72 + (tl.length + 1)) 1 none) (72 + tl.length) 0 (some (72 + (tl.length + 1)))) 16 (yvC V) (some (72 + tl.length))) 16 k = zRf q 16 k := by
        unfold zRf
        rw [q16 k e]
      rw [this]
      exact r1
theorem k_text {tl : List (Nat × Nat)} {q : zR} {im : zI} {V : yV} {U : yU} (hI : yInv tl q im V U) (hl : tl.length < 99990) : yCallA 43 72 159 [] tl q im := by
  obtain ⟨⟨hG, hA, hB⟩, hH, hm⟩ := id hI
  have hC6 := hG.2.2.2.1
  have e05 : im 0 5 = Int32.ofNat (yvC V) := hA.2.2.2.1
  have e12 : im 47 12 = Int32.ofNat (yvC V) := hB.2.2.2.1
  by_cases h6 : yvC V = 6
  · have n6 : ¬ im 0 5 < 6 := by
      rw [e05, h6]
      decide
    have m6 : im 47 12 = 6 := by
      rw [e12, h6]
      rfl
    exact ⟨-4, tl, q, im, im, zEv_o rfl (t_X11_text ⟨fun hh => absurd hh n6, fun _ => ⟨rfl, rfl⟩⟩), zEv_o rfl (t_X12_text ⟨fun hh => absurd m6 hh, fun _ => ⟨rfl, rfl⟩⟩), ⟨V, U, hI⟩, by omega, by omega⟩
  · have hC : yvC V < 6 := by omega
    have n6 : im 0 5 < 6 := by
      rw [e05]
      exact (zi_lt (b := 6) (by omega) (by omega)).mpr hC
    obtain ⟨t1, t2, t3, t4⟩ := hH.1
    have hBb : ∀ k, k < yuN U → ∃ c, c < 256 ∧ yuB U k = Int32.ofNat c := fun k hk => (t4 k hk).2.2
    have hr := c_readText (B := yuB U) (tl := tl) (q := q) (im := im) t3 hBb t1 (fun k hk => (t4 k hk).1) hl
    have ht := fun (tl' : List (Nat × Nat)) (q' : zR) (im1 : zI) (h9 : im1 47 9 = Int32.ofNat (yuN U)) (hB' : ∀ k, k < yuN U → im1 54 k = yuB U k) (hW : yWw im1) (h12 : im1 47 12 = Int32.ofNat (yvC V)) => m_text (d := 38) (tl := tl') (q := q') (im := im1) t3 hBb h9 hB' hW h12 hC
    cases hT : yxTt (yuB U) (yuN U) with
    | inl e =>
      rw [hT] at hr
      simp only [hT] at ht
      obtain ⟨im1, r1, r2, r3⟩ := hr
      have k1 : ∀ k j, k ≠ 17 → k ≠ 19 → (up2 im1 17 1 0 : zI) k j = im k j := fun k j a b => by rw [up_k a, r3 k j b (fun hh => a hh.1)]
      obtain ⟨im2, m1, m2, m3, m4⟩ := ht tl q (up2 im1 17 1 0) (by rw [k1 47 9 (by decide) (by decide)]; exact t2) (fun k hk => by rw [k1 54 k (by decide) (by decide)]; exact (t4 k hk).2.1) (fun j hj => by rw [k1 63 j (by decide) (by decide)]; exact hH.2.2.2 j hj) (by rw [k1 47 12 (by decide) (by decide)]; exact e12)
      have k2 : ∀ k j, k ≠ 17 → k ≠ 19 → k ≠ 64 → ¬ (k = 47 ∧ ((23 < j ∧ j < 33) ∨ j = 9 ∨ j = 12)) → ¬ (k = 55 ∧ 200 * yvC V ≤ j) → ¬ (k = 56 ∧ 4 * yvC V ≤ j) → im2 k j = im k j := fun k j a b c d e f => by rw [m3 k j c d e f, k1 k j a b]
      refine ⟨-100 - Int32.ofNat e, tl, q, up2 im1 17 1 0, im2, zEv_o rfl (t_X11_text ⟨fun _ => ⟨none, tl, q, im1, r1, _, c_clearT (d := 41), ?_⟩, fun hh => absurd n6 hh⟩), m1, ⟨V, yuTp U, ⟨hG, ?_, ?_⟩, ?_, yIm_txt hm (Nat.le_refl _) (Nat.le_refl _)⟩, by omega, by omega⟩
      · rw [up_j (by decide), r2]
        exact ⟨rfl, rfl⟩
      · exact yA_ag hA (k2 0 5 (by decide) (by decide) (by decide) (by omega) (by omega) (by omega)) (fun k h1 h2 => funext fun j => k2 k j (by omega) (by omega) (by omega) (by omega) (by omega) (by omega)) (fun k h => funext fun j => k2 k j (by omega) (by omega) (by omega) (by omega) (by omega) (by omega))
      · obtain ⟨a1, a2, a3, a4, a5, a6, a7, a8⟩ := hB
        have kr : ∀ k, 47 < k → k < 54 → im2 k = im k := fun k h1 h2 => funext fun j => k2 k j (by omega) (by omega) (by omega) (by omega) (by omega) (by omega)
        refine ⟨by rw [k2 47 1 (by omega) (by omega) (by omega) (by omega) (by omega) (by omega)]; exact a1, by rw [k2 47 6 (by omega) (by omega) (by omega) (by omega) (by omega) (by omega)]; exact a2, by rw [k2 47 13 (by omega) (by omega) (by omega) (by omega) (by omega) (by omega)]; exact a3, m4, by rw [kr 48 (by decide) (by decide)]; exact a5, by rw [kr 53 (by decide) (by decide)]; exact a6, by rw [kr 49 (by decide) (by decide), kr 50 (by decide) (by decide), kr 51 (by decide) (by decide), kr 52 (by decide) (by decide)]; exact a7, fun k hk => yTx_kk (a8 k hk) (fun j hj => k2 55 j (by decide) (by decide) (by decide) (by omega) (by omega) (by omega)) (fun j hj => k2 56 j (by decide) (by decide) (by decide) (by omega) (by omega) (by omega))⟩
      · exact yH_tape hH (by rw [m3 17 1 (by decide) (by omega) (by omega) (by omega), up_eq]) m2 (fun k j hu h1 h2 h3 h4 => by
          unfold yUc at hu
          exact k2 k j (by omega) (by omega) (by omega) (by omega) (by omega) (by omega))
    | inr P =>
      obtain ⟨a0, a1, a2⟩ := P
      rw [hT] at hr
      simp only [hT] at ht
      obtain ⟨hL, im1, r1, r2, r3⟩ := hr
      have el : (tl ++ [(8, 3)]).length = tl.length + 1 := by
        rw [List.length_append]
        rfl
      have k1 : ∀ k j, k ≠ 0 → k ≠ 17 → k ≠ 19 → k < 72 → (up2 (up2 (yTn im1 (72 + tl.length) (72 + (tl ++ [(8, 3)]).length) (a0.length + a1.length + a2.length) (Int32.ofNat a0.length) (Int32.ofNat (a0.length + a1.length))) 17 1 0) 0 5 (Int32.ofNat (yvC V + 1)) : zI) k j = im k j := fun k j a b c d => by
        rw [up_k a, up_k b, yTn_o (by omega) (by omega), r1 k j c (fun hh => b hh.1)]
      have k10 : ∀ j, j ≠ 5 → (up2 (up2 (yTn im1 (72 + tl.length) (72 + (tl ++ [(8, 3)]).length) (a0.length + a1.length + a2.length) (Int32.ofNat a0.length) (Int32.ofNat (a0.length + a1.length))) 17 1 0) 0 5 (Int32.ofNat (yvC V + 1)) : zI) 0 j = im 0 j := fun j h => by
        rw [up_j h, up_k (by decide), yTn_o (by omega) (by omega), r1 0 j (by decide) (fun hh => absurd hh.1 (by decide))]
      obtain ⟨im2, m1, m2, m3, m4, m5, m6⟩ := ht (tl ++ [(8, 3)] ++ [(20, a0.length + a1.length + a2.length)]) (up2 (up2 (zero2 (zero2 q (72 + tl.length) 1 none) (72 + (tl ++ [(8, 3)]).length) 1 none) (72 + tl.length) 0 (some (72 + (tl ++ [(8, 3)]).length))) 16 (yvC V) (some (72 + tl.length))) (up2 (up2 (yTn im1 (72 + tl.length) (72 + (tl ++ [(8, 3)]).length) (a0.length + a1.length + a2.length) (Int32.ofNat a0.length) (Int32.ofNat (a0.length + a1.length))) 17 1 0) 0 5 (Int32.ofNat (yvC V + 1))) (by rw [k1 47 9 (by decide) (by decide) (by decide) (by decide)]; exact t2) (fun k hk => by rw [k1 54 k (by decide) (by decide) (by decide) (by decide)]; exact (t4 k hk).2.1) (fun j hj => by rw [k1 63 j (by decide) (by decide) (by decide) (by decide)]; exact hH.2.2.2 j hj) (by rw [k1 47 12 (by decide) (by decide) (by decide) (by decide)]; exact e12)
      have hA1 := yA_txt hA hC r1 (by omega) m6.2.2.2.2.2.1 r2
      have k2 : ∀ k j, k ≠ 0 → k ≠ 17 → k ≠ 19 → k ≠ 64 → k < 72 → ¬ (k = 47 ∧ ((23 < j ∧ j < 33) ∨ j = 9 ∨ j = 12)) → ¬ (k = 55 ∧ 200 * yvC V ≤ j) → ¬ (k = 56 ∧ 4 * yvC V ≤ j) → im2 k j = im k j := fun k j x a b c y d e f => by rw [m3 k j c d e f, k1 k j x a b y]
      refine ⟨Int32.ofNat (yvC V), _, _, _, im2, zEv_o rfl (t_X11_text ⟨fun _ => ⟨some (72 + tl.length), _, _, _, r3, _, c_clearT (d := 41), ?_⟩, fun hh => absurd n6 hh⟩), m1, ⟨yvTxt V (yx3 a0 a1 a2), yuTp U, ⟨yG_txt hG hC, ?_, ?_⟩, ?_, yIm_txt hm (Nat.le_refl _) (Nat.le_succ _)⟩, ?_, ?_⟩
      · have a8 : (zB ++ (tl ++ [(8, 3)] ++ [(20, a0.length + a1.length + a2.length)]) : List (Nat × Nat))[72 + tl.length]? = some (8, 3) := zA_old zA_new
        rw [a8]
        have e5 : (up2 (yTn im1 (72 + tl.length) (72 + (tl ++ [(8, 3)]).length) (a0.length + a1.length + a2.length) (Int32.ofNat a0.length) (Int32.ofNat (a0.length + a1.length))) 17 1 0 : zI) 0 5 = Int32.ofNat (yvC V) := by
          rw [up_k (by decide), yTn_o (by omega) (by omega), r1 0 5 (by decide) (fun hh => absurd hh.1 (by decide))]
          exact e05
        show vp_in _ 6 ∧ _
        rw [e5, zi_n (by omega), zi_s]
        refine ⟨zi_in hC (by omega), ?_, rfl⟩
        rw [← zi_s, Int32.add_sub_cancel]
      · exact yA_ag hA1 (m3 0 5 (by decide) (by omega) (by omega) (by omega)) (fun k h1 h2 => funext fun j => m3 k j (by omega) (by omega) (by omega) (by omega)) (fun k h => funext fun j => m3 k j (by omega) (by omega) (by omega) (by omega))
      · obtain ⟨b1, b2, b3, b4, b5, b6, b7, b8⟩ := hB
        have kr : ∀ k, 47 < k → k < 54 → im2 k = im k := fun k h1 h2 => funext fun j => k2 k j (by omega) (by omega) (by omega) (by omega) (by omega) (by omega) (by omega) (by omega)
        refine ⟨by rw [k2 47 1 (by omega) (by omega) (by omega) (by omega) (by omega) (by omega) (by omega) (by omega)]; exact b1, by rw [k2 47 6 (by omega) (by omega) (by omega) (by omega) (by omega) (by omega) (by omega) (by omega)]; exact b2, by rw [k2 47 13 (by omega) (by omega) (by omega) (by omega) (by omega) (by omega) (by omega) (by omega)]; exact b3, m4, by rw [kr 48 (by decide) (by decide)]; exact b5, by rw [kr 53 (by decide) (by decide)]; exact b6, by rw [kr 49 (by decide) (by decide), kr 50 (by decide) (by decide), kr 51 (by decide) (by decide), kr 52 (by decide) (by decide)]; exact b7, fun k hk => ?_⟩
        have hk' : k < yvC V + 1 := hk
        by_cases e : k = yvC V
        · subst e
          rw [yvTxt_n]
          exact m6
        · rw [yvTxt_o e]
          exact yTx_kk (b8 k (by omega)) (fun j hj => k2 55 j (by decide) (by decide) (by decide) (by decide) (by decide) (by omega) (by omega) (by omega)) (fun j hj => k2 56 j (by decide) (by decide) (by decide) (by decide) (by decide) (by omega) (by omega) (by omega))
      · refine yH_tape hH (by rw [m3 17 1 (by decide) (by omega) (by omega) (by omega), up_k (by decide), up_eq]) m2 (fun k j hu h1 h2 h3 h4 => ?_)
        unfold yUc at hu
        by_cases e0 : k = 0
        · subst e0
          rw [m3 0 j (by decide) (by omega) (by omega) (by omega), k10 j (by omega)]
        · exact k2 k j e0 (by omega) (by omega) (by omega) (by omega) (by omega) (by omega) (by omega)
      · simp only [List.length_append]
        show tl.length + 1 + 1 ≤ tl.length + 12
        omega
      · rw [zLs_1, zLs_1]
        show zLs tl + 3 + (a0.length + a1.length + a2.length) ≤ zLs tl + 200
        omega
