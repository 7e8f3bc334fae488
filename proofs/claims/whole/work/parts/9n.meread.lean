/-! THE MODEL READS: an E, its loop -/
theorem m_xSign {d : Nat} {T : Nat × Nat} {tl : List (Nat × Nat)} {q : zR} {im : zI} (hv : yxVT T) (h8 : T.1 = 8 → 40 ≤ T.2) (h : im 47 26 = yxMt T) :
    zEv (d + 1) 157 [.ref 47] (zMm tl q im) (some (.int (match yxSg T with
      | some c => Int32.ofNat c
      | none => -1))) (zMm tl q im) := by
  obtain ⟨_, _, _, i4, i5⟩ := yxMt_i hv h8
  have g60 := yxMt_8 hv (c := 60) (by decide) (by decide)
  have g61 := yxMt_8 hv (c := 61) (by decide) (by decide)
  have g43 := yxMt_8 hv (c := 43) (by decide) (by decide)
  have g45 := yxMt_8 hv (c := 45) (by decide) (by decide)
  have g42 := yxMt_8 hv (c := 42) (by decide) (by decide)
  refine zEv_o rfl (t_X12_signOf ?_)
  rw [h]
  unfold yxSg
  refine ⟨fun n4 => ⟨fun n5 => ⟨fun n60 => ⟨fun n61 => ⟨fun n43 => ⟨fun n45 => ⟨fun n42 => ?_, fun h => ?_⟩, fun h => ?_⟩, fun h => ?_⟩, fun h => ?_⟩, fun h => ?_⟩, fun h => ?_⟩, fun h => ?_⟩
  · rw [if_neg (fun e => n4 (i4.mpr e)), if_neg (fun e => n5 (i5.mpr e)), if_neg (fun e => n60 (g60.mpr e)), if_neg (fun e => n61 (g61.mpr e)), if_neg (fun e => n43 (g43.mpr e)), if_neg (fun e => n45 (g45.mpr e)), if_neg (fun e => n42 (g42.mpr e))]
    exact ⟨rfl, rfl⟩
  · rw [if_neg (fun e => n4 (i4.mpr e)), if_neg (fun e => n5 (i5.mpr e)), if_neg (fun e => n60 (g60.mpr e)), if_neg (fun e => n61 (g61.mpr e)), if_neg (fun e => n43 (g43.mpr e)), if_neg (fun e => n45 (g45.mpr e)), if_pos (g42.mp h)]
    exact ⟨rfl, rfl⟩
  · rw [if_neg (fun e => n4 (i4.mpr e)), if_neg (fun e => n5 (i5.mpr e)), if_neg (fun e => n60 (g60.mpr e)), if_neg (fun e => n61 (g61.mpr e)), if_neg (fun e => n43 (g43.mpr e)), if_pos (g45.mp h)]
    exact ⟨rfl, rfl⟩
  · rw [if_neg (fun e => n4 (i4.mpr e)), if_neg (fun e => n5 (i5.mpr e)), if_neg (fun e => n60 (g60.mpr e)), if_neg (fun e => n61 (g61.mpr e)), if_pos (g43.mp h)]
    exact ⟨rfl, rfl⟩
  · rw [if_neg (fun e => n4 (i4.mpr e)), if_neg (fun e => n5 (i5.mpr e)), if_neg (fun e => n60 (g60.mpr e)), if_pos (g61.mp h)]
    exact ⟨rfl, rfl⟩
  · rw [if_neg (fun e => n4 (i4.mpr e)), if_neg (fun e => n5 (i5.mpr e)), if_pos (g60.mp h)]
    exact ⟨rfl, rfl⟩
  · rw [if_neg (fun e => n4 (i4.mpr e)), if_pos (i5.mp h)]
    exact ⟨rfl, rfl⟩
  · rw [if_pos (i4.mp h)]
    exact ⟨rfl, rfl⟩
theorem yxSg_r : ∀ {T : Nat × Nat} {c : Nat}, yxSg T = some c → 11 ≤ c ∧ c < 19 ∧ c ≠ 13 := by
  intro T c h
  unfold yxSg at h
  split at h
  · injection h with h; omega
  · split at h
    · injection h with h; omega
    · split at h
      · injection h with h; omega
      · split at h
        · injection h with h; omega
        · split at h
          · injection h with h; omega
          · split at h
            · injection h with h; omega
            · split at h
              · injection h with h; omega
              · cases h
/-- what an E's reading leaves -/
def yxEo (B : Nat → Int32) (n c : Nat) (im : zI) (R : Sum Nat (Nat × List Nat)) (v : Int32) (im' : zI) : Prop := yxMk c im im' ∧ match R with
  | .inl e => v = 0 ∧ im' 47 25 = Int32.ofNat e
  | .inr (p, o) => v = 1 ∧ p ≤ n ∧ o.length ≤ p ∧ ∃ b, yxMc B n c im' p b [] o
theorem yxEo.tr {B : Nat → Int32} {n c : Nat} {im im1 im' : zI} {R : Sum Nat (Nat × List Nat)} {v : Int32} (hk : yxMk c im im1) (h : yxEo B n c im1 R v im') : yxEo B n c im R v im' := ⟨hk.tr h.1, h.2⟩
theorem yxUw_h {l x : Nat} {t : List Nat} : ∀ {H out : List Nat}, (yxUw l H out).1 = x :: t → yxRk x < l
  | [], out, h => by cases (h : ([] : List Nat) = x :: t)
  | y :: H, out, h => by
    unfold yxUw at h
    by_cases e : l ≤ yxRk y
    · rw [if_pos e] at h
      exact yxUw_h h
    · rw [if_neg e] at h
      injection h with h1 h2
      rw [← h1]
      omega
theorem yxRk_0 {x : Nat} (h : yxRk x < 1) : x = 0 := by
  refine Decidable.of_not_not fun hx => ?_
  unfold yxRk at h
  rw [if_neg hx] at h
  split at h
  · omega
  · split at h
    · omega
    · split at h
      · omega
      · split at h
        · omega
        · split at h
          · omega
          · split at h <;> omega
set_option maxHeartbeats 2000000 in
theorem m_xLoop {d n c : Nat} {B : Nat → Int32} {tl : List (Nat × Nat)} {q : zR} (hn : n ≤ 160) (hBb : ∀ k, k < n → ∃ c, c < 256 ∧ B k = Int32.ofNat c) :
    ∀ (f p : Nat) (H : List Nat) (W N : Bool) (out : List Nat) (b : Int32) (im : zI), yxMc B n c im p b H out → p ≤ n → n < f + (yxAd B n p).2.1 → H.length + out.length ≤ p → yxCt H ≤ 5 →
      ∃ v im', zX (d + 3) zc_X12_eRead 10 [(0, .ref 47), (1, .int (zb W)), (2, .int (zb N))] [] (zMm tl q im) (fun x y => x = some (.int v) ∧ y = zMm tl q im') ∧ yxEo B n c im (yxMr B n f (yxAd B n p) H W N out) v im' := by
  intro f
  induction f with
  | zero =>
    intro p H W N out b im h hp hf hlen hC
    have h1 := (yxAd_ok (B := B) hBb hp).1
    have h2 := h1.1
    have h3 := h1.2.1
    omega
  | succ f ih =>
    intro p H W N out b im h hp hf hlen hC
    obtain ⟨hk, hge⟩ := yxAd_ok (B := B) hBb hp
    obtain ⟨⟨a1, a2, a3, a4, a5⟩, ⟨b1, b2, b3, b4⟩, ⟨c1, c2⟩, e1, e2⟩ := id h
    obtain ⟨im1, n1, n25, n24, n26, n27, nk⟩ := m_next (d := d + 1) (tl := tl) (q := q) hn hp hBb a1 a2 a3 e1
    have h8 : (yxAd B n p).1.1 = 8 → 40 ≤ (yxAd B n p).1.2 := yxVS_k hBb
    have hv : yxVT (yxAd B n p).1 := hk.2.2.2
    have n26' : im1 47 26 = yxMt (yxAd B n p).1 := n26
    have n24' : im1 47 24 = Int32.ofNat (yxAd B n p).2.2 := n24
    have n25' : im1 47 25 = Int32.ofNat (yxAd B n p).2.1 := n25
    have n27' : (yxAd B n p).1.1 = 2 ∨ (yxAd B n p).1.1 = 3 ∨ (yxAd B n p).1.1 = 7 → im1 47 27 = Int32.ofNat (yxAd B n p).1.2 := n27
    have ok : ∀ k j, k ≠ 47 → im1 k j = im k j := fun k j hkj => nk k j (by omega)
    have h47 : ∀ j, ¬ (23 < j ∧ j < 28) → im1 47 j = im 47 j := fun j hj => nk 47 j (by omega)
    have hM : yxMc B n c im1 (yxAd B n p).2.2 (Int32.ofNat (yxAd B n p).2.1) H out := ⟨⟨by rw [h47 9 (by omega)]; exact a1, fun k hk => by rw [ok 54 k (by decide)]; exact a2 k hk, fun j hj => by rw [ok 63 j (by decide)]; exact a3 j hj, by rw [h47 12 (by omega)]; exact a4, a5⟩, ⟨by rw [h47 30 (by omega)]; exact b1, yxHd_k b2 (fun j _ => ok 64 j (by decide)), b3, by rw [h47 31 (by omega)]; exact b4⟩, ⟨by rw [h47 32 (by omega)]; exact c1, fun i hi => by rw [ok 55 _ (by decide)]; exact c2 i hi⟩, n24', n25'⟩
    have hK : yxMk c im im1 := fun k j x y z => nk k j (by omega)
    obtain ⟨i1, i2, i6, _, _⟩ := yxMt_i hv h8
    have g45 := yxMt_8 hv (c := 45) (by decide) (by decide)
    have g40 := yxMt_8 hv (c := 40) (by decide) (by decide)
    have g41 := yxMt_8 hv (c := 41) (by decide) (by decide)
    have g59 := yxMt_8 hv (c := 59) (by decide) (by decide)
    generalize hS : yxAd B n p = S at hk hge n26' n24' n25' n27' hM i1 i2 i6 g45 g40 g41 g59 hv h8 hf ⊢
    rw [← n26'] at i1 i2 i6 g45 g40 g41 g59
    have hS2 := hk.2.1
    have hlt := hk.2.2.1
    have bad : ∀ v im', v = (0 : Int32) → im' = im1 → yxEo B n c im (.inl S.2.1) v im' := fun v im' e1 e2 => by
      rw [e2]
      exact ⟨hK, e1, n25'⟩
    have nx := fun (H' : List Nat) (W' N' : Bool) (out' : List Nat) (b' : Int32) (im' : zI) (hm : yxMc B n c im' S.2.2 b' H' out') (h0 : S.1.1 ≠ 0) (hl : H'.length + out'.length ≤ H.length + out.length + 1) (hc : yxCt H' ≤ 5) => ih S.2.2 H' W' N' out' b' im' hm hk.2.1 (by
      have h1 := hlt h0
      have h2 := (yxAd_ok (B := B) hBb hk.2.1).2
      omega) (by
      have h1 := hlt h0
      omega) hc
    cases W with
    | true =>
      rw [yxMr_w]
      have put : ∀ (x : Nat) (v0 : Int32), v0 = Int32.ofNat x → S.1.1 ≠ 0 → ∃ v im' im19 im20, zEv (d + 3) 152 [.ref 47, .int v0] (zMm tl q im1) none (zMm tl q im19) ∧ zEv (d + 3) 153 [.ref 47, .int (7 : Int32)] (zMm tl q im19) none (zMm tl q im20) ∧ zX (d + 3) zc_X12_eRead 10 [(0, .ref 47), (1, .int (0 : Int32)), (2, .int (zb N))] [] (zMm tl q im20) (fun x y => x = some (.int v) ∧ y = zMm tl q im') ∧ yxEo B n c im (yxMr B n f (yxAd B n S.2.2) (yxUw 7 H (out ++ [x])).1 false N (yxUw 7 H (out ++ [x])).2) v im' := fun x v0 e0 h0 => by
        obtain ⟨im19, p1, p2, p3⟩ := m_xPuts (d := d + 2) (tl := tl) (q := q) hM (by omega) e0
        obtain ⟨im20, u1, u2, u3⟩ := m_xUnwind (d := d + 1) (tl := tl) (q := q) (l := 7) (by decide) (by decide) H (out ++ [x]) im19 p2 (by rw [List.length_append]; show H.length + (out.length + 1) < 200; omega)
        obtain ⟨y1, y2, y3⟩ := yxCt_U (l := 7) (H := H) (out := out ++ [x])
        obtain ⟨v, im', z1, z2⟩ := nx _ false N _ _ im20 u2 h0 (by rw [y2, List.length_append]; show H.length + (out.length + 1) ≤ _; omega) (by omega)
        exact ⟨v, im', im19, im20, p1, zEv_o rfl u1, z1, yxEo.tr (hK.tr (p3.tr u3)) z2⟩
      have opn : ∀ (x : Nat) (N' : Bool), x = 0 ∨ x = 13 ∨ x = 19 → S.1.1 ≠ 0 → ∃ v im' v28 im27, zEv (d + 3) 155 [.ref 47, .int (Int32.ofNat x)] (zMm tl q im1) (some (.int v28)) (zMm tl q im27) ∧ (¬ v28 = 0 → zX (d + 3) zc_X12_eRead 10 [(0, .ref 47), (1, .int (zb true)), (2, .int (zb N'))] [] (zMm tl q im27) (fun x y => x = some (.int v) ∧ y = zMm tl q im')) ∧ (v28 = 0 → (some (Value.int 0) = some (Value.int v) ∧ zMm tl q im27 = zMm tl q im')) ∧ yxEo B n c im (if 5 ≤ yxCt H then .inl S.2.1 else yxMr B n f (yxAd B n S.2.2) (x :: H) true N' out) v im' := fun x N' hx h0 => by
        by_cases h5 : 5 ≤ yxCt H
        · rw [if_pos h5]
          exact ⟨0, im1, 0, im1, m_xOpensN (d := d + 1) hM (by omega), fun hh => absurd rfl hh, fun _ => ⟨rfl, rfl⟩, bad _ _ rfl rfl⟩
        · rw [if_neg h5]
          obtain ⟨im27, o1, o2, o3⟩ := m_xOpens (d := d + 1) (tl := tl) (q := q) hM (by omega) hx (by omega)
          obtain ⟨v, im', z1, z2⟩ := nx (x :: H) true N' out _ im27 o2 h0 (by show H.length + 1 + out.length ≤ _; omega) (by
            show (if x = 0 ∨ x = 13 ∨ x = 19 then 1 else 0) + yxCt H ≤ 5
            rw [if_pos hx]
            omega)
          exact ⟨v, im', 1, im27, o1, fun _ => z1, fun hh => absurd hh n10, yxEo.tr (hK.tr o3) z2⟩
      by_cases h2 : S.1.1 = 2
      · rw [if_pos h2]
        have t1 : im1 47 26 = 1 := i1.mpr h2
        obtain ⟨v, im', im19, im20, q1, q2, q3, q4⟩ := put (100000 + S.1.2) (100000 + im1 47 27) (by rw [n27' (.inl h2), Int32.ofNat_add]; rfl) (by omega)
        exact ⟨v, im', t_X12_eRead_10 ⟨im1, n1, fun hh => absurd hh n10, fun _ => ⟨fun _ => ⟨fun hh => absurd t1 hh, fun _ => ⟨im19, q1, im20, q2, q3⟩⟩, fun hh => absurd t1 hh⟩⟩, q4⟩
      · rw [if_neg h2]
        have t1 : ¬ im1 47 26 = 1 := fun hh => h2 (i1.mp hh)
        by_cases h7 : S.1.1 = 7
        · rw [if_pos h7]
          have t2 : im1 47 26 = 2 := i2.mpr h7
          obtain ⟨v, im', im19, im20, q1, q2, q3, q4⟩ := put S.1.2 (im1 47 27) (n27' (.inr (.inr h7))) (by omega)
          exact ⟨v, im', t_X12_eRead_10 ⟨im1, n1, fun hh => absurd hh n10, fun _ => ⟨fun hh => absurd hh t1, fun _ => ⟨fun hh => absurd t2 hh, fun _ => ⟨fun _ => ⟨im19, q1, im20, q2, q3⟩, fun hh => absurd hh t1⟩⟩⟩⟩, q4⟩
        · rw [if_neg h7]
          have t2 : ¬ im1 47 26 = 2 := fun hh => h7 (i2.mp hh)
          by_cases h6 : S.1.1 = 6 ∧ N = true
          · rw [if_pos h6]
            have t6 : im1 47 26 = 6 := i6.mpr h6.1
            obtain ⟨v, im', v28, im27, q1, q2, q3, q4⟩ := opn 13 N (by decide) (by omega)
            refine ⟨v, im', t_X12_eRead_10 ⟨im1, n1, fun hh => absurd hh n10, fun _ => ⟨fun hh => absurd hh t1, fun _ => ⟨fun _ => ⟨fun hh => absurd t6 hh, fun _ => ⟨fun hh => absurd (hh : zb N = 0) (by rw [h6.2]; exact n10), fun _ => ⟨v28, im27, q1, q2, q3⟩⟩⟩, fun hh => absurd hh t2⟩⟩⟩, q4⟩
          · rw [if_neg h6]
            have go : ∀ v im', (¬ im1 47 26 = 45 → (¬ im1 47 26 = 40 → (some (Value.int 0) = some (Value.int v) ∧ zMm tl q im1 = zMm tl q im')) ∧ (im1 47 26 = 40 → ∃ (v28 : Int32) (im27 : zI), zEv (d + 3) 155 [.ref 47, .int (0 : Int32)] (zMm tl q im1) (some (.int v28)) (zMm tl q im27) ∧ (¬ v28 = 0 → zX (d + 3) zc_X12_eRead 10 [(0, .ref 47), (1, .int (zb true)), (2, .int (1 : Int32))] [] (zMm tl q im27) (fun x y => x = some (.int v) ∧ y = zMm tl q im')) ∧ (v28 = 0 → (some (Value.int 0) = some (Value.int v) ∧ zMm tl q im27 = zMm tl q im')))) ∧ (im1 47 26 = 45 → ∃ (v28 : Int32) (im27 : zI), zEv (d + 3) 155 [.ref 47, .int (19 : Int32)] (zMm tl q im1) (some (.int v28)) (zMm tl q im27) ∧ (¬ v28 = 0 → zX (d + 3) zc_X12_eRead 10 [(0, .ref 47), (1, .int (zb true)), (2, .int (0 : Int32))] [] (zMm tl q im27) (fun x y => x = some (.int v) ∧ y = zMm tl q im')) ∧ (v28 = 0 → (some (Value.int 0) = some (Value.int v) ∧ zMm tl q im27 = zMm tl q im'))) → zX (d + 3) zc_X12_eRead 10 [(0, .ref 47), (1, .int (zb true)), (2, .int (zb N))] [] (zMm tl q im) (fun x y => x = some (.int v) ∧ y = zMm tl q im') := fun v im' hh =>
              t_X12_eRead_10 ⟨im1, n1, fun hh => absurd hh n10, fun _ => ⟨fun hh => absurd hh t1, fun _ => ⟨fun _ => ⟨fun _ => hh, fun t6 => ⟨fun _ => hh, fun hz => absurd ⟨i6.mp t6, by
                cases N with
                | true => rfl
                | false => exact absurd rfl hz⟩ h6⟩⟩, fun hh => absurd hh t2⟩⟩⟩
            by_cases h45 : S.1 = (8, 45)
            · rw [if_pos h45]
              have t45 : im1 47 26 = 45 := g45.mpr h45
              obtain ⟨v, im', v28, im27, q1, q2, q3, q4⟩ := opn 19 false (by decide) (by rw [h45]; exact (show (8 : Nat) ≠ 0 by decide))
              exact ⟨v, im', go v im' ⟨fun hh => absurd t45 hh, fun _ => ⟨v28, im27, q1, q2, q3⟩⟩, q4⟩
            · rw [if_neg h45]
              have t45 : ¬ im1 47 26 = 45 := fun hh => h45 (g45.mp hh)
              by_cases h40 : S.1 = (8, 40)
              · rw [if_pos h40]
                have t40 : im1 47 26 = 40 := g40.mpr h40
                obtain ⟨v, im', v28, im27, q1, q2, q3, q4⟩ := opn 0 true (by decide) (by rw [h40]; exact (show (8 : Nat) ≠ 0 by decide))
                exact ⟨v, im', go v im' ⟨fun _ => ⟨fun hh => absurd t40 hh, fun _ => ⟨v28, im27, q1, q2, q3⟩⟩, fun hh => absurd hh t45⟩, q4⟩
              · rw [if_neg h40]
                exact ⟨0, im1, go 0 im1 ⟨fun _ => ⟨fun _ => ⟨rfl, rfl⟩, fun hh => absurd (g40.mp hh) h40⟩, fun hh => absurd hh t45⟩, bad _ _ rfl rfl⟩
    | false =>
      rw [yxMr_v]
      have uw1 := m_xUnwind (d := d + 1) (tl := tl) (q := q) (l := 1) (by decide) (by decide) H out im1 hM (by omega)
      obtain ⟨im12, u1, u2, u3⟩ := uw1
      obtain ⟨y1, y2, y3⟩ := yxCt_U (l := 1) (H := H) (out := out)
      by_cases h59 : S.1 = (8, 59)
      · rw [if_pos h59]
        have t59 : im1 47 26 = 59 := g59.mpr h59
        by_cases h0 : (yxUw 1 H out).1 = []
        · rw [if_pos h0]
          have z0 : im12 47 30 = 0 := by
            rw [u2.2.1.1, h0]
            rfl
          rw [h0] at u2
          exact ⟨1, im12, t_X12_eRead_10 ⟨im1, n1, fun _ => ⟨fun hh => absurd t59 hh, fun _ => ⟨im12, zEv_o rfl u1, fun hh => absurd z0 hh, fun _ => ⟨rfl, rfl⟩⟩⟩, fun hh => absurd rfl hh⟩, hK.tr u3, rfl, hk.2.1, by
            have h1 := hlt (by rw [h59]; exact (show (8 : Nat) ≠ 0 by decide))
            omega, _, u2⟩
        · rw [if_neg h0]
          have z0 : ¬ im12 47 30 = 0 := by
            rw [u2.2.1.1]
            exact fun hh => h0 (List.eq_nil_of_length_eq_zero ((zi_eq (b := 0) (by omega) (by omega)).mp hh))
          exact ⟨0, im12, t_X12_eRead_10 ⟨im1, n1, fun _ => ⟨fun hh => absurd t59 hh, fun _ => ⟨im12, zEv_o rfl u1, fun _ => ⟨rfl, rfl⟩, fun hh => absurd hh z0⟩⟩, fun hh => absurd rfl hh⟩, hK.tr u3, rfl, u2.2.2.2.2⟩
      · rw [if_neg h59]
        have t59 : ¬ im1 47 26 = 59 := fun hh => h59 (g59.mp hh)
        by_cases h41 : S.1 = (8, 41)
        · rw [if_pos h41]
          have t41 : im1 47 26 = 41 := g41.mpr h41
          cases hU : (yxUw 1 H out).1 with
          | nil =>
            have z0 : im12 47 30 = 0 := by
              rw [u2.2.1.1, hU]
              rfl
            exact ⟨0, im12, t_X12_eRead_10 ⟨im1, n1, fun _ => ⟨fun _ => ⟨fun hh => absurd t41 hh, fun _ => ⟨im12, zEv_o rfl u1, fun hh => absurd z0 hh, fun _ => ⟨rfl, rfl⟩⟩⟩, fun hh => absurd hh t59⟩, fun hh => absurd rfl hh⟩, hK.tr u3, rfl, u2.2.2.2.2⟩
          | cons x t =>
            rw [hU] at u2 y1 y2
            have y2' : t.length + 1 + (yxUw 1 H out).2.length = H.length + out.length := y2
            have z0 : ¬ im12 47 30 = 0 := by
              rw [u2.2.1.1]
              exact fun hh => absurd ((zi_eq (b := 0) (by show t.length + 1 < _; omega) (by omega)).mp hh) (Nat.succ_ne_zero _)
            have hx0 : x = 0 := yxRk_0 (yxUw_h hU)
            subst hx0
            obtain ⟨⟨x1, x2, x3, x4, x5⟩, ⟨x6, x7, x8, x9⟩, ⟨x10, x11⟩, x12, x13⟩ := u2
            have o47 : ∀ j, j ≠ 30 → j ≠ 31 → (up2 (up2 im12 47 30 (im12 47 30 - 1)) 47 31 (im12 47 31 - 1) : zI) 47 j = im12 47 j := fun j h1 h2 => by rw [up_j h2, up_j h1]
            have x6' : im12 47 30 = Int32.ofNat (t.length + 1) := x6
            have x9' : im12 47 31 = Int32.ofNat (yxCt t + 1) := by
              rw [x9, Nat.add_comm]
              rfl
            have hM2 : yxMc B n c (up2 (up2 im12 47 30 (im12 47 30 - 1)) 47 31 (im12 47 31 - 1)) S.2.2 (Int32.ofNat S.2.1) t (yxUw 1 H out).2 := ⟨⟨by rw [o47 9 (by decide) (by decide)]; exact x1, fun k hk => by rw [up_k (by decide), up_k (by decide)]; exact x2 k hk, fun j hj => by rw [up_k (by decide), up_k (by decide)]; exact x3 j hj, by rw [o47 12 (by decide) (by decide)]; exact x4, x5⟩, ⟨by rw [up_j (by decide), up_eq, x6', ← zi_s, Int32.add_sub_cancel], yxHd_k x7.2 (fun j _ => by rw [up_k (by decide), up_k (by decide)]), fun y hy => x8 y (List.mem_cons_of_mem _ hy), by rw [up_eq, x9', ← zi_s, Int32.add_sub_cancel]⟩, ⟨by rw [o47 32 (by decide) (by decide)]; exact x10, fun i hi => by rw [up_k (by decide), up_k (by decide)]; exact x11 i hi⟩, by rw [o47 24 (by decide) (by decide)]; exact x12, by rw [o47 25 (by decide) (by decide)]; exact x13⟩
            have hK2 : yxMk c im12 (up2 (up2 im12 47 30 (im12 47 30 - 1)) 47 31 (im12 47 31 - 1)) := fun k j h1 h2 h3 => by
              by_cases e : k = 47
              · subst e
                rw [up_j (by omega), up_j (by omega)]
              · rw [up_k e, up_k e]
            obtain ⟨im14, v1, v2, v3⟩ := m_xUnwind (d := d + 1) (tl := tl) (q := q) (l := 7) (by decide) (by decide) t (yxUw 1 H out).2 _ hM2 (by omega)
            obtain ⟨w1, w2, w3⟩ := yxCt_U (l := 7) (H := t) (out := (yxUw 1 H out).2)
            have y1' : 1 + yxCt t ≤ yxCt H := y1
            obtain ⟨v, im', z1, z2⟩ := nx _ false N _ _ im14 v2 (by rw [h41]; exact (show (8 : Nat) ≠ 0 by decide)) (by omega) (by omega)
            exact ⟨v, im', t_X12_eRead_10 ⟨im1, n1, fun _ => ⟨fun _ => ⟨fun hh => absurd t41 hh, fun _ => ⟨im12, zEv_o rfl u1, fun _ => ⟨im14, zEv_o rfl v1, z1⟩, fun hh => absurd hh z0⟩⟩, fun hh => absurd hh t59⟩, fun hh => absurd rfl hh⟩, yxEo.tr (hK.tr (u3.tr (hK2.tr v3))) z2⟩
        · rw [if_neg h41]
          have t41 : ¬ im1 47 26 = 41 := fun hh => h41 (g41.mp hh)
          have sg := m_xSign (d := d + 2) (tl := tl) (q := q) hv h8 n26'
          cases hg : yxSg S.1 with
          | none =>
            rw [hg] at sg
            exact ⟨0, im1, t_X12_eRead_10 ⟨im1, n1, fun _ => ⟨fun _ => ⟨fun _ => ⟨_, im1, sg, fun _ => ⟨rfl, rfl⟩, fun hh => absurd rfl hh⟩, fun hh => absurd hh t41⟩, fun hh => absurd hh t59⟩, fun hh => absurd rfl hh⟩, bad _ _ rfl rfl⟩
          | some s =>
            rw [hg] at sg
            have hs := yxSg_r hg
            have hnm1 : ¬ Int32.ofNat s = (-1 : Int32) := zi_m1 (by omega)
            obtain ⟨im8, w1, w2, w3, w4⟩ := m_xBetween (d := d) (tl := tl) (q := q) hM (by omega) hs _ rfl
            simp only
            generalize (if yxRk s = 4 then 5 else yxRk s) = m at w1 w2 w3 w4 ⊢
            obtain ⟨y1, y2, y3⟩ := yxCt_U (l := m) (H := H) (out := out)
            by_cases hc4 : yxRk s = 4 ∧ yxRk ((yxUw m H out).1.headD 0) = 4
            · rw [if_pos hc4] at w1 ⊢
              exact ⟨0, im8, t_X12_eRead_10 ⟨im1, n1, fun _ => ⟨fun _ => ⟨fun _ => ⟨_, im1, sg, fun hh => absurd hh hnm1, fun _ => ⟨_, im8, w1, fun hh => absurd rfl hh, fun _ => ⟨rfl, rfl⟩⟩⟩, fun hh => absurd hh t41⟩, fun hh => absurd hh t59⟩, fun hh => absurd rfl hh⟩, hK.tr w2, rfl, w3⟩
            · rw [if_neg hc4] at w1 ⊢
              have h0 : S.1.1 ≠ 0 := fun e => by
                unfold yxSg at hg
                rw [if_neg (by omega), if_neg (by omega), if_neg (fun e2 => by rw [e2] at e; exact absurd e (show ¬ (8 : Nat) = 0 by decide)), if_neg (fun e2 => by rw [e2] at e; exact absurd e (show ¬ (8 : Nat) = 0 by decide)), if_neg (fun e2 => by rw [e2] at e; exact absurd e (show ¬ (8 : Nat) = 0 by decide)), if_neg (fun e2 => by rw [e2] at e; exact absurd e (show ¬ (8 : Nat) = 0 by decide)), if_neg (fun e2 => by rw [e2] at e; exact absurd e (show ¬ (8 : Nat) = 0 by decide))] at hg
                cases hg
              obtain ⟨v, im', z1, z2⟩ := nx (s :: (yxUw m H out).1) true (decide (s ≤ 12)) (yxUw m H out).2 _ im8 (w4 hc4) h0 (by show (yxUw m H out).1.length + 1 + _ ≤ _; omega) (by rw [yxCt_n (by omega)]; omega)
              refine ⟨v, im', t_X12_eRead_10 ⟨im1, n1, fun _ => ⟨fun _ => ⟨fun _ => ⟨_, im1, sg, fun hh => absurd hh hnm1, fun _ => ⟨_, im8, w1, fun _ => ⟨fun hlt => ?_, fun hlt => ?_⟩, fun hh => absurd hh n10⟩⟩, fun hh => absurd hh t41⟩, fun hh => absurd hh t59⟩, fun hh => absurd rfl hh⟩, yxEo.tr (hK.tr w2) z2⟩
              · rw [decide_eq_false (show ¬ s ≤ 12 from fun hh => absurd ((zi_lt (a := 12) (by omega) (by omega)).mp hlt) (by omega))] at z1
                exact z1
              · rw [decide_eq_true (show s ≤ 12 from Decidable.of_not_not fun hh => hlt ((zi_lt (a := 12) (by omega) (by omega)).mpr (by omega)))] at z1
                exact z1
/-- the cells ahead of an E -/
def yxMb (B : Nat → Int32) (n c : Nat) (im : zI) (p : Nat) (b : Int32) (out : List Nat) : Prop :=
  (im 47 9 = Int32.ofNat n ∧ (∀ k, k < n → im 54 k = B k) ∧ yWw im ∧ im 47 12 = Int32.ofNat c ∧ c < 6) ∧ (im 47 32 = Int32.ofNat out.length ∧ ∀ i, i < out.length → im 55 (200 * c + i) = Int32.ofNat (out.getD i 0)) ∧ im 47 24 = Int32.ofNat p ∧ im 47 25 = b
theorem yxMc.b {B : Nat → Int32} {n c p : Nat} {b : Int32} {H out : List Nat} {im : zI} (h : yxMc B n c im p b H out) : yxMb B n c im p b out := ⟨h.1, h.2.2.1, h.2.2.2⟩
theorem m_xE {d n c p : Nat} {b : Int32} {B : Nat → Int32} {out : List Nat} {tl : List (Nat × Nat)} {q : zR} {im : zI} (hn : n ≤ 160) (hBb : ∀ k, k < n → ∃ c, c < 256 ∧ B k = Int32.ofNat c) (h : yxMb B n c im p b out) (hp : p ≤ n) (ho : out.length ≤ p) :
    ∃ v im', zEv (d + 4) 158 [.ref 47] (zMm tl q im) (some (.int v)) (zMm tl q im') ∧ yxEo B n c im (match yxEr B n (yxAd B n p) with
      | .inl e => .inl e
      | .inr (p', a) => .inr (p', out ++ a)) v im' := by
  obtain ⟨⟨x1, x2, x3, x4, x5⟩, ⟨x10, x11⟩, x12, x13⟩ := h
  have o47 : ∀ j, j ≠ 30 → j ≠ 31 → (up2 (up2 im 47 30 0) 47 31 0 : zI) 47 j = im 47 j := fun j h1 h2 => by rw [up_j h2, up_j h1]
  have hM2 : yxMc B n c (up2 (up2 im 47 30 0) 47 31 0) p b [] out := ⟨⟨by rw [o47 9 (by decide) (by decide)]; exact x1, fun k hk => by rw [up_k (by decide), up_k (by decide)]; exact x2 k hk, fun j hj => by rw [up_k (by decide), up_k (by decide)]; exact x3 j hj, by rw [o47 12 (by decide) (by decide)]; exact x4, x5⟩, ⟨by rw [up_j (by decide), up_eq]; rfl, trivial, fun _ hy => absurd hy List.not_mem_nil, by rw [up_eq]; rfl⟩, ⟨by rw [o47 32 (by decide) (by decide)]; exact x10, fun i hi => by rw [up_k (by decide), up_k (by decide)]; exact x11 i hi⟩, by rw [o47 24 (by decide) (by decide)]; exact x12, by rw [o47 25 (by decide) (by decide)]; exact x13⟩
  have hK2 : yxMk c im (up2 (up2 im 47 30 0) 47 31 0) := fun k j h1 h2 h3 => by
    by_cases e : k = 47
    · subst e
      rw [up_j (by omega), up_j (by omega)]
    · rw [up_k e, up_k e]
  obtain ⟨v, im', z1, z2⟩ := m_xLoop (d := d) (tl := tl) (q := q) hn hBb (n + 1) p [] true true out b _ hM2 hp (by omega) (by show 0 + out.length ≤ p; omega) (by decide)
  rw [yxMr_E hn hBb (yxAd_ok (B := B) hBb hp).1 (by omega)] at z2
  exact ⟨v, im', zEv_o rfl (t_X12_eRead z1), yxEo.tr hK2 z2⟩
