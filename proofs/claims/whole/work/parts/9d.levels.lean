/-! THE CLASS READS: times, and, or -/
theorem yxC_inv {T : Nat × Nat} {m : Nat} (hv : yxVT T) (hm : m < 400) (h : yxC T = Int32.ofNat m) : (T.1 = 2 ∧ m = 256) ∨ (T.1 = 3 ∧ m = 300 + T.2) ∨ (T.1 = 4 ∧ m = 303) ∨ (T.1 = 5 ∧ m = 304) ∨ (T.1 = 6 ∧ m = 305) ∨ (T.1 = 7 ∧ m = 306 + T.2) ∨ (T.1 = 8 ∧ m = T.2) := by
  obtain ⟨t, v⟩ := T
  obtain ⟨h1, h2, h3, h4, h5⟩ := hv
  have hn := zi_neg (a := m) (by omega)
  match t, h1 with
  | 0, _ => exact absurd (show Int32.ofNat m < 0 by rw [← h]; exact (show (-1 : Int32) < 0 by decide)) hn
  | 1, _ => exact absurd (show Int32.ofNat m < 0 by rw [← h]; exact (show (-2 : Int32) < 0 by decide)) hn
  | 2, _ => exact .inl ⟨rfl, ((zi_eq (a := 256) (by omega) (by omega)).mp h).symm⟩
  | 3, _ => exact .inr (.inl ⟨rfl, ((zi_eq (a := 300 + v) (by have : v < 10000 := h2; omega) (by omega)).mp h).symm⟩)
  | 4, _ => exact .inr (.inr (.inl ⟨rfl, ((zi_eq (a := 303) (by omega) (by omega)).mp h).symm⟩))
  | 5, _ => exact .inr (.inr (.inr (.inl ⟨rfl, ((zi_eq (a := 304) (by omega) (by omega)).mp h).symm⟩)))
  | 6, _ => exact .inr (.inr (.inr (.inr (.inl ⟨rfl, ((zi_eq (a := 305) (by omega) (by omega)).mp h).symm⟩))))
  | 7, _ => exact .inr (.inr (.inr (.inr (.inr (.inl ⟨rfl, ((zi_eq (a := 306 + v) (by have : v < 10000 := h2; omega) (by omega)).mp h).symm⟩)))))
  | 8, _ => exact .inr (.inr (.inr (.inr (.inr (.inr ⟨rfl, ((zi_eq (a := v) (by have : v < 10000 := h2; omega) (by omega)).mp h).symm⟩)))))
theorem yxC_s {T : Nat × Nat} {m : Nat} (hv : yxVT T) (hm : m < 256) (h : yxC T = Int32.ofNat m) : T = (8, m) := by
  have := yxC_inv hv (by omega) h
  have h8 : T.1 = 8 ∧ m = T.2 := by omega
  exact Prod.ext h8.1 h8.2.symm
theorem yxBi_c {d ks key n o : Nat} {B : Nat → Int32} {r : yxS3 → yxRs} {op : Nat × Nat → Option Nat} {tl : List (Nat × Nat)} {q : zR} (hn : n ≤ 160) (hBb : ∀ k, k < n → ∃ c, c < 256 ∧ B k = Int32.ofNat c) (hs : yxSub (d + 5) ks B n o r tl q) (L : Int32 → zI → zI → Prop)
    (hop : ∀ T c, op T = some c → T.1 ≠ 0) (hx0 : ∀ im, L 160 im im) (hx : ∀ x im T, yxVT T → op T = none → im 17 5 = yxC T → L x im im) (hbad : op (1, 0) = none)
    (hst : ∀ (j : Nat) (im im3 im4 im5 im' : zI) (T : Nat × Nat) (c : Nat), j < 160 → yxVT T → op T = some c → im 17 5 = yxC T → zEv (d + 5) 30 [.ref 17, .int (yxC T)] (zMm tl q im) none (zMm tl q im3) → zEv (d + 5) ks [.ref 17] (zMm tl q im3) none (zMm tl q im4) → zEv (d + 5) 31 [.ref 17, .int (yTr c)] (zMm tl q im4) none (zMm tl q im5) → L (Int32.ofNat (j + 1)) im5 im' → L (Int32.ofNat j) im im')
    (hh : ∀ im im1 im', zEv (d + 5) ks [.ref 17] (zMm tl q im) none (zMm tl q im1) → L 0 im1 im' → zEv (d + 6) key [.ref 17] (zMm tl q im) none (zMm tl q im')) : yxSub (d + 6) key B n o (yxBi B n r op) tl q := by
  intro S cs im k hc hk hl
  have h1 := hs S cs im k hc hk hl
  unfold yxBi
  cases hr : r S with
  | inl e =>
    rw [hr] at h1
    obtain ⟨e1, im1, e2, e3, e4⟩ := h1
    exact ⟨e1, im1, hh im im1 im1 e2 (hx 0 im1 (1, 0) yxVT_1 hbad e3.2.1), e3, e4⟩
  | inr P =>
    obtain ⟨S', a⟩ := P
    rw [hr] at h1
    obtain ⟨e1, e2, im1, e3, e4, e5⟩ := h1
    have h2 := yxCh_c hn hBb hs L hop hx0 hx hbad hst 160 0 S' a (cs ++ a) im1 k (by omega) e4 e1 e2
    cases hq : yxCh B n r op 160 S' a with
    | inl e =>
      rw [hq] at h2
      obtain ⟨i1, im', i2, i3, i4⟩ := h2
      simp only [hq]
      exact ⟨i1, im', hh im im1 im' e3 i2, i3, e5.tr i4⟩
    | inr P2 =>
      obtain ⟨S'', a''⟩ := P2
      rw [hq] at h2
      obtain ⟨b, i0, i1, i2, im', i3, i4, i5⟩ := h2
      simp only [hq]
      subst i0
      rw [← List.append_assoc]
      exact ⟨i1, i2, im', hh im im1 im' e3 i3, i4, e5.tr i5⟩
theorem c_xTerm {d n o : Nat} {B : Nat → Int32} {r : yxS3 → yxRs} {tl : List (Nat × Nat)} {q : zR} (hn : n ≤ 160) (hBb : ∀ k, k < n → ∃ c, c < 256 ∧ B k = Int32.ofNat c) (hs : yxSub (d + 5) 38 B n o r tl q) : yxSub (d + 6) 37 B n o (yxBi B n r yxOT) tl q := by
  have ho : ∀ T c, yxOT T = some c → T = (8, 42) ∧ c = 18 := by
    intro T c h
    unfold yxOT at h
    by_cases e : T = (8, 42)
    · rw [if_pos e] at h
      exact ⟨e, (Option.some.inj h).symm⟩
    · rw [if_neg e] at h
      exact absurd h (by simp)
  refine yxBi_c hn hBb hs (fun x im im' => zX (d + 5) zc_X7_readTerm 4 [(0, .ref 17), (1, .int x)] [] (zMm tl q im) (fun a b => a = none ∧ b = zMm tl q im')) (fun T c h => by rw [(ho T c h).1]; exact (show (8 : Nat) ≠ 0 by decide)) (fun im => t_X7_readTerm_4 ⟨fun _ => ⟨rfl, rfl⟩, fun h => absurd (by decide) h⟩) (fun x im T hv h1 h2 => ?_) rfl (fun j im im3 im4 im5 im' T c hj hv h1 h2 g1 g2 g3 g4 => ?_) (fun im im1 im' g1 g2 => zEv_o rfl (t_X7_readTerm ⟨im1, g1, g2⟩))
  · have hne : ¬ im 17 5 = (42 : Int32) := by
      rw [h2]
      intro h
      have := yxC_s (m := 42) hv (by omega) h
      subst this
      exact absurd h1 (by decide)
    exact t_X7_readTerm_4 ⟨fun _ => ⟨rfl, rfl⟩, fun _ => ⟨fun _ => ⟨rfl, rfl⟩, fun h => absurd h hne⟩⟩
  · obtain ⟨e1, e2⟩ := ho T c h1
    subst e1 e2
    refine t_X7_readTerm_4 ⟨fun h => absurd ((zi_le (a := 160) (by omega) (by omega)).mp h) (by omega), fun _ => ⟨fun h => absurd h2 h, fun _ => ⟨im3, g1, im4, g2, im5, g3, ?_⟩⟩⟩
    rw [zi_s]
    exact g4
theorem c_xAnd {d n o : Nat} {B : Nat → Int32} {r : yxS3 → yxRs} {tl : List (Nat × Nat)} {q : zR} (hn : n ≤ 160) (hBb : ∀ k, k < n → ∃ c, c < 256 ∧ B k = Int32.ofNat c) (hs : yxSub (d + 5) 35 B n o r tl q) : yxSub (d + 6) 34 B n o (yxBi B n r yxOA) tl q := by
  have ho : ∀ T c, yxOA T = some c → T.1 = 5 ∧ c = 12 := by
    intro T c h
    unfold yxOA at h
    by_cases e : T.1 = 5
    · rw [if_pos e] at h
      exact ⟨e, (Option.some.inj h).symm⟩
    · rw [if_neg e] at h
      exact absurd h (by simp)
  refine yxBi_c hn hBb hs (fun x im im' => zX (d + 5) zc_X7_readAnd 4 [(0, .ref 17), (1, .int x)] [] (zMm tl q im) (fun a b => a = none ∧ b = zMm tl q im')) (fun T c h => by rw [(ho T c h).1]; decide) (fun im => t_X7_readAnd_4 ⟨fun _ => ⟨rfl, rfl⟩, fun h => absurd (by decide) h⟩) (fun x im T hv h1 h2 => ?_) rfl (fun j im im3 im4 im5 im' T c hj hv h1 h2 g1 g2 g3 g4 => ?_) (fun im im1 im' g1 g2 => zEv_o rfl (t_X7_readAnd ⟨im1, g1, g2⟩))
  · have hne : ¬ im 17 5 = (304 : Int32) := by
      rw [h2]
      intro h
      have := yxC_inv (m := 304) hv (by omega) h
      obtain ⟨v1, v2, v3, v4, v5⟩ := hv
      have h5 : T.1 = 5 := by omega
      unfold yxOA at h1
      rw [if_pos h5] at h1
      exact absurd h1 (by simp)
    exact t_X7_readAnd_4 ⟨fun _ => ⟨rfl, rfl⟩, fun _ => ⟨fun _ => ⟨rfl, rfl⟩, fun h => absurd h hne⟩⟩
  · obtain ⟨e1, e2⟩ := ho T c h1
    subst e2
    have e3 : yxC T = 304 := by
      unfold yxC
      rw [e1]
      rfl
    rw [e3] at g1 h2
    refine t_X7_readAnd_4 ⟨fun h => absurd ((zi_le (a := 160) (by omega) (by omega)).mp h) (by omega), fun _ => ⟨fun h => absurd h2 h, fun _ => ⟨im3, g1, im4, g2, im5, g3, ?_⟩⟩⟩
    rw [zi_s]
    exact g4
theorem c_xOr {d n o : Nat} {B : Nat → Int32} {r : yxS3 → yxRs} {tl : List (Nat × Nat)} {q : zR} (hn : n ≤ 160) (hBb : ∀ k, k < n → ∃ c, c < 256 ∧ B k = Int32.ofNat c) (hs : yxSub (d + 5) 34 B n o r tl q) : yxSub (d + 6) 33 B n o (yxBi B n r yxOO) tl q := by
  have ho : ∀ T c, yxOO T = some c → T.1 = 4 ∧ c = 11 := by
    intro T c h
    unfold yxOO at h
    by_cases e : T.1 = 4
    · rw [if_pos e] at h
      exact ⟨e, (Option.some.inj h).symm⟩
    · rw [if_neg e] at h
      exact absurd h (by simp)
  refine yxBi_c hn hBb hs (fun x im im' => zX (d + 5) zc_X7_readOr 4 [(0, .ref 17), (1, .int x)] [] (zMm tl q im) (fun a b => a = none ∧ b = zMm tl q im')) (fun T c h => by rw [(ho T c h).1]; decide) (fun im => t_X7_readOr_4 ⟨fun _ => ⟨rfl, rfl⟩, fun h => absurd (by decide) h⟩) (fun x im T hv h1 h2 => ?_) rfl (fun j im im3 im4 im5 im' T c hj hv h1 h2 g1 g2 g3 g4 => ?_) (fun im im1 im' g1 g2 => zEv_o rfl (t_X7_readOr ⟨im1, g1, g2⟩))
  · have hne : ¬ im 17 5 = (303 : Int32) := by
      rw [h2]
      intro h
      have := yxC_inv (m := 303) hv (by omega) h
      obtain ⟨v1, v2, v3, v4, v5⟩ := hv
      have h5 : T.1 = 4 := by omega
      unfold yxOO at h1
      rw [if_pos h5] at h1
      exact absurd h1 (by simp)
    exact t_X7_readOr_4 ⟨fun _ => ⟨rfl, rfl⟩, fun _ => ⟨fun _ => ⟨rfl, rfl⟩, fun h => absurd h hne⟩⟩
  · obtain ⟨e1, e2⟩ := ho T c h1
    subst e2
    have e3 : yxC T = 303 := by
      unfold yxC
      rw [e1]
      rfl
    rw [e3] at g1 h2
    refine t_X7_readOr_4 ⟨fun h => absurd ((zi_le (a := 160) (by omega) (by omega)).mp h) (by omega), fun _ => ⟨fun h => absurd h2 h, fun _ => ⟨im3, g1, im4, g2, im5, g3, ?_⟩⟩⟩
    rw [zi_s]
    exact g4
