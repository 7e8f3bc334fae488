/-! THE MODEL READS: an E -/
theorem yxG_39 : ∀ c, c < 40 → yxG (Int32.ofNat c) = false := by decide
theorem yxG_40 (c : Nat) (_ : c < 256) (h : yxG (Int32.ofNat c) = true) : 40 ≤ c := Decidable.of_not_not fun hh => by
  rw [yxG_39 c (by omega)] at h
  cases h
/-- a sign is one -/
theorem yxVS_k {B : Nat → Int32} {n b : Nat} (hBb : ∀ k, k < n → ∃ c, c < 256 ∧ B k = Int32.ofNat c) : (yxTk B n b).1.1 = 8 → 40 ≤ (yxTk B n b).1.2 := by
  unfold yxTk
  by_cases h1 : n ≤ b
  · rw [if_pos h1]
    exact fun h => absurd h (show ¬ (0 : Nat) = 8 by decide)
  · rw [if_neg h1]
    cases hL : yxL (B b) with
    | true =>
      rw [cond_true]
      have : ∀ w, w ≤ 12 → (yxF B b (yxW yxL B n b) w).1 ≠ 8 := by
        intro w
        induction w with
        | zero => exact fun _ => show (1 : Nat) ≠ 8 by decide
        | succ w ih =>
          intro hw
          show (bif yxM B b (yxW yxL B n b) w then yxK w else yxF B b (yxW yxL B n b) w).1 ≠ 8
          cases yxM B b (yxW yxL B n b) w with
          | false => exact ih (by omega)
          | true =>
            rw [cond_true]
            have : ∀ w, w < 12 → (yxK w).1 ≠ 8 := by decide
            exact this w (by omega)
      exact fun h => absurd h (this 12 (Nat.le_refl _))
    | false =>
      rw [cond_false]
      cases hD : yxD (B b) with
      | true =>
        rw [cond_true]
        show (if 4 < yxW yxD B n b - b then ((1, 0) : Nat × Nat) else (2, (yxI B b (yxW yxD B n b - b)).toNatClampNeg)).1 = 8 → _
        by_cases h4 : 4 < yxW yxD B n b - b
        · rw [if_pos h4]
          exact fun h => absurd h (show ¬ (1 : Nat) = 8 by decide)
        · rw [if_neg h4]
          exact fun h => absurd h (show ¬ (2 : Nat) = 8 by decide)
      | false =>
        rw [cond_false]
        obtain ⟨c, hc, ec⟩ := hBb b (by omega)
        show (bif yxG (B b) then ((8, (B b).toNatClampNeg) : Nat × Nat) else (1, 0)).1 = 8 → 40 ≤ (bif yxG (B b) then ((8, (B b).toNatClampNeg) : Nat × Nat) else (1, 0)).2
        cases hg : yxG (B b) with
        | false => exact fun h => absurd h (show ¬ (1 : Nat) = 8 by decide)
        | true =>
          rw [cond_true, ec, zi_n (by omega)]
          rw [ec] at hg
          exact fun _ => yxG_40 c hc hg
theorem yxMt_i {T : Nat × Nat} (hv : yxVT T) (h8 : T.1 = 8 → 40 ≤ T.2) : (yxMt T = 1 ↔ T.1 = 2) ∧ (yxMt T = 2 ↔ T.1 = 7) ∧ (yxMt T = 6 ↔ T.1 = 6) ∧ (yxMt T = 4 ↔ T.1 = 4) ∧ (yxMt T = 5 ↔ T.1 = 5) := by
  obtain ⟨a, b⟩ := T
  have ha : a < 9 := hv.1
  have hb2 := hv.2.2.2.2
  match a, ha, h8, hb2 with
  | 0, _, _, _ => exact (by decide : ((0 : Int32) = 1 ↔ (0 : Nat) = 2) ∧ ((0 : Int32) = 2 ↔ (0 : Nat) = 7) ∧ ((0 : Int32) = 6 ↔ (0 : Nat) = 6) ∧ ((0 : Int32) = 4 ↔ (0 : Nat) = 4) ∧ ((0 : Int32) = 5 ↔ (0 : Nat) = 5))
  | 1, _, _, _ => exact (by decide : ((-1 : Int32) = 1 ↔ (1 : Nat) = 2) ∧ ((-1 : Int32) = 2 ↔ (1 : Nat) = 7) ∧ ((-1 : Int32) = 6 ↔ (1 : Nat) = 6) ∧ ((-1 : Int32) = 4 ↔ (1 : Nat) = 4) ∧ ((-1 : Int32) = 5 ↔ (1 : Nat) = 5))
  | 2, _, _, _ => exact (by decide : ((1 : Int32) = 1 ↔ (2 : Nat) = 2) ∧ ((1 : Int32) = 2 ↔ (2 : Nat) = 7) ∧ ((1 : Int32) = 6 ↔ (2 : Nat) = 6) ∧ ((1 : Int32) = 4 ↔ (2 : Nat) = 4) ∧ ((1 : Int32) = 5 ↔ (2 : Nat) = 5))
  | 3, _, _, _ => exact (by decide : ((3 : Int32) = 1 ↔ (3 : Nat) = 2) ∧ ((3 : Int32) = 2 ↔ (3 : Nat) = 7) ∧ ((3 : Int32) = 6 ↔ (3 : Nat) = 6) ∧ ((3 : Int32) = 4 ↔ (3 : Nat) = 4) ∧ ((3 : Int32) = 5 ↔ (3 : Nat) = 5))
  | 4, _, _, _ => exact (by decide : ((4 : Int32) = 1 ↔ (4 : Nat) = 2) ∧ ((4 : Int32) = 2 ↔ (4 : Nat) = 7) ∧ ((4 : Int32) = 6 ↔ (4 : Nat) = 6) ∧ ((4 : Int32) = 4 ↔ (4 : Nat) = 4) ∧ ((4 : Int32) = 5 ↔ (4 : Nat) = 5))
  | 5, _, _, _ => exact (by decide : ((5 : Int32) = 1 ↔ (5 : Nat) = 2) ∧ ((5 : Int32) = 2 ↔ (5 : Nat) = 7) ∧ ((5 : Int32) = 6 ↔ (5 : Nat) = 6) ∧ ((5 : Int32) = 4 ↔ (5 : Nat) = 4) ∧ ((5 : Int32) = 5 ↔ (5 : Nat) = 5))
  | 6, _, _, _ => exact (by decide : ((6 : Int32) = 1 ↔ (6 : Nat) = 2) ∧ ((6 : Int32) = 2 ↔ (6 : Nat) = 7) ∧ ((6 : Int32) = 6 ↔ (6 : Nat) = 6) ∧ ((6 : Int32) = 4 ↔ (6 : Nat) = 4) ∧ ((6 : Int32) = 5 ↔ (6 : Nat) = 5))
  | 7, _, _, _ => exact (by decide : ((2 : Int32) = 1 ↔ (7 : Nat) = 2) ∧ ((2 : Int32) = 2 ↔ (7 : Nat) = 7) ∧ ((2 : Int32) = 6 ↔ (7 : Nat) = 6) ∧ ((2 : Int32) = 4 ↔ (7 : Nat) = 4) ∧ ((2 : Int32) = 5 ↔ (7 : Nat) = 5))
  | 8, _, h8, hb2 =>
    have h1 : 40 ≤ b := h8 rfl
    have h2 : b < 256 := hb2 rfl
    have e : yxMt (8, b) = Int32.ofNat b := rfl
    have k : ∀ m, m < 40 → ∀ z : Nat, z < 8 → (yxMt (8, b) = Int32.ofNat m ↔ (8 : Nat) = z) := fun m hm z hz => by
      rw [e]
      exact ⟨fun h => absurd ((zi_eq (by omega) (by omega)).mp h) (by omega), fun h => absurd h (by omega)⟩
    exact ⟨k 1 (by decide) 2 (by decide), k 2 (by decide) 7 (by decide), k 6 (by decide) 6 (by decide), k 4 (by decide) 4 (by decide), k 5 (by decide) 5 (by decide)⟩
theorem yxMt_8 {T : Nat × Nat} (hv : yxVT T) {c : Nat} (hc : 40 ≤ c) (hc2 : c < 256) : yxMt T = Int32.ofNat c ↔ T = (8, c) := by
  obtain ⟨a, b⟩ := T
  have ha : a < 9 := hv.1
  have hb2 := hv.2.2.2.2
  have k : ∀ m : Int32, m < 40 → a ≠ 8 → yxMt (a, b) = m → (yxMt (a, b) = Int32.ofNat c ↔ (a, b) = (8, c)) := fun m hm h8 e => by
    rw [e]
    refine ⟨fun h => absurd hm (Int32.not_lt.mpr ?_), fun h => absurd (congrArg Prod.fst h) h8⟩
    rw [h]
    exact (zi_le (a := 40) (by omega) (by omega)).mpr hc
  match a, ha, hb2, k with
  | 0, _, _, k => exact k (0) (by decide) (by decide) rfl
  | 1, _, _, k => exact k (-1) (by decide) (by decide) rfl
  | 2, _, _, k => exact k (1) (by decide) (by decide) rfl
  | 3, _, _, k => exact k (3) (by decide) (by decide) rfl
  | 4, _, _, k => exact k (4) (by decide) (by decide) rfl
  | 5, _, _, k => exact k (5) (by decide) (by decide) rfl
  | 6, _, _, k => exact k (6) (by decide) (by decide) rfl
  | 7, _, _, k => exact k (2) (by decide) (by decide) rfl
  | 8, _, hb2, _ =>
    have h2 : b < 256 := hb2 rfl
    show Int32.ofNat b = Int32.ofNat c ↔ _
    exact ⟨fun h => by rw [(zi_eq (by omega) (by omega)).mp h], fun h => by injection h with _ h; rw [h]⟩
theorem yxCt_U {l : Nat} : ∀ {H out : List Nat}, yxCt (yxUw l H out).1 ≤ yxCt H ∧ (yxUw l H out).1.length + (yxUw l H out).2.length = H.length + out.length ∧ ∀ x, x ∈ (yxUw l H out).1 → x ∈ H
  | [], out => ⟨Nat.le_refl _, rfl, fun _ h => h⟩
  | h :: t, out => by
    unfold yxUw
    by_cases e : l ≤ yxRk h
    · rw [if_pos e]
      obtain ⟨a1, a2, a3⟩ := yxCt_U (l := l) (H := t) (out := out ++ [h])
      refine ⟨Nat.le_trans a1 (Nat.le_add_left _ _), ?_, fun x hx => List.mem_cons_of_mem _ (a3 x hx)⟩
      rw [a2, List.length_append]
      show t.length + (out.length + 1) = t.length + 1 + out.length
      omega
    · rw [if_neg e]
      exact ⟨Nat.le_refl _, rfl, fun _ h => h⟩
theorem up_same {im : zI} {k j : Nat} {v : Int32} (h : im k j = v) : up2 im k j v = im := by
  funext a c
  by_cases e : a = k
  · subst e
    by_cases e2 : c = j
    · subst e2
      rw [up_eq]
      exact h.symm
    · exact up_j e2
  · exact up_k e
theorem m_xOpens {d n c p x : Nat} {b : Int32} {B : Nat → Int32} {H out : List Nat} {tl : List (Nat × Nat)} {q : zR} {im : zI} (h : yxMc B n c im p b H out) (hH : H.length < 200) (hx : x = 0 ∨ x = 13 ∨ x = 19) (h5 : yxCt H < 5) :
    ∃ im', zEv (d + 2) 155 [.ref 47, .int (Int32.ofNat x)] (zMm tl q im) (some (.int 1)) (zMm tl q im') ∧ yxMc B n c im' p b (x :: H) out ∧ yxMk c im im' := by
  have e : im 47 31 = Int32.ofNat (yxCt H) := h.2.1.2.2.2
  obtain ⟨im', g1, g2, g3⟩ := m_xHolds (d := d) (tl := tl) (q := q) (x := x) (v := Int32.ofNat x) h hH rfl (by omega) (im 47 31 + 1) (by
    rw [e, zi_s]
    show _ = Int32.ofNat ((if x = 0 ∨ x = 13 ∨ x = 19 then 1 else 0) + yxCt H)
    rw [if_pos hx, Nat.add_comm])
  exact ⟨im', zEv_o rfl (t_X12_opensOne ⟨fun _ => ⟨im', g1, rfl, rfl⟩, fun hh => absurd ((zi_eq (b := 5) (by omega) (by omega)).mp (e.symm.trans hh)) (by omega)⟩), g2, g3⟩
theorem m_xOpensN {d n c p : Nat} {b v : Int32} {B : Nat → Int32} {H out : List Nat} {tl : List (Nat × Nat)} {q : zR} {im : zI} (h : yxMc B n c im p b H out) (h5 : yxCt H = 5) :
    zEv (d + 2) 155 [.ref 47, .int v] (zMm tl q im) (some (.int 0)) (zMm tl q im) := by
  have e : im 47 31 = (5 : Int32) := by
    rw [h.2.1.2.2.2, h5]
    rfl
  exact zEv_o rfl (t_X12_opensOne ⟨fun hh => absurd e hh, fun _ => ⟨rfl, rfl⟩⟩)
theorem yxMc_top {n c p : Nat} {b : Int32} {B : Nat → Int32} {H out : List Nat} {im : zI} (h : yxMc B n c im p b H out) (hH : H.length < 200) (h0 : ¬ im 47 30 ≤ 0) : vp_in (im 47 30 - 1) 200 ∧ im 64 (im 47 30 - 1).toNatClampNeg = Int32.ofNat (H.headD 0) ∧ H.headD 0 < 20 := by
  obtain ⟨b1, b2, b3, b4⟩ := h.2.1
  cases H with
  | nil =>
    exfalso
    apply h0
    rw [b1]
    decide
  | cons x t =>
    have hl : t.length + 1 < 200 := hH
    have em : im 47 30 - 1 = Int32.ofNat t.length := by
      rw [b1]
      show Int32.ofNat (t.length + 1) - 1 = _
      rw [← zi_s, Int32.add_sub_cancel]
    rw [em, zi_n (by omega)]
    exact ⟨zi_in (by omega) (by omega), b2.1, b3 x (List.mem_cons_self ..)⟩
/-- a sign between two -/
theorem m_xBetween {d n c p s : Nat} {b : Int32} {B : Nat → Int32} {H out : List Nat} {tl : List (Nat × Nat)} {q : zR} {im : zI} (h : yxMc B n c im p b H out) (hlen : H.length + out.length < 199) (hs : 11 ≤ s ∧ s < 19 ∧ s ≠ 13) (m : Nat) (hm : (if yxRk s = 4 then 5 else yxRk s) = m) :
    ∃ im', zEv (d + 3) 156 [.ref 47, .int (Int32.ofNat s)] (zMm tl q im) (some (.int (if yxRk s = 4 ∧ yxRk ((yxUw m H out).1.headD 0) = 4 then 0 else 1))) (zMm tl q im') ∧ yxMk c im im' ∧ im' 47 25 = b ∧ (¬ (yxRk s = 4 ∧ yxRk ((yxUw m H out).1.headD 0) = 4) → yxMc B n c im' p b (s :: (yxUw m H out).1) (yxUw m H out).2) := by
  have hrk := fun im' => m_xRank (d := d + 1) (tl := tl) (q := q) (im := im') (show s < 20 by omega)
  have hr7 := yxRk_le s
  have hr1 : 1 ≤ yxRk s := by
    have : ∀ s, s < 19 → 11 ≤ s → 1 ≤ yxRk s := by decide
    exact this s (by omega) (by omega)
  have hm0 : 0 < m ∧ m < 100 := by
    rw [← hm]
    split <;> omega
  obtain ⟨im6, u1, u2, u3⟩ := m_xUnwind (d := d) (tl := tl) (q := q) hm0.2 hm0.1 H out im h (by omega)
  obtain ⟨y1, y2, y3⟩ := yxCt_U (l := m) (H := H) (out := out)
  have hold := fun (hh : (yxUw m H out).1.length < 200) => m_xHolds (d := d + 1) (tl := tl) (q := q) (x := s) (v := Int32.ofNat s) u2 hh rfl (by omega) (im6 47 31) (by rw [u2.2.1.2.2.2, yxCt_n (by omega)])
  rw [up_same rfl] at hold
  obtain ⟨im', g1, g2, g3⟩ := hold (by omega)
  have k4 : (Int32.ofNat (yxRk s) = (4 : Int32)) ↔ yxRk s = 4 := zi_eq (b := 4) (by omega) (by omega)
  by_cases h4 : yxRk s = 4
  · have e5 : m = 5 := by rw [← hm, if_pos h4]
    have e4 : Int32.ofNat (yxRk s) = (4 : Int32) := k4.mpr h4
    have uz : zEv (d + 2) 153 [.ref 47, .int (5 : Int32)] (zMm tl q im) none (zMm tl q im6) := by
      rw [e5] at u1
      exact zEv_o rfl u1
    by_cases h0 : im6 47 30 ≤ 0
    · have eH : ¬ (yxRk s = 4 ∧ yxRk ((yxUw m H out).1.headD 0) = 4) := by
        have : (yxUw m H out).1 = [] := by
          have hb1 := u2.2.1.1
          rw [hb1] at h0
          have := (zi_le (b := 0) (by omega) (by omega)).mp h0
          exact List.eq_nil_of_length_eq_zero (by omega)
        rw [this]
        exact fun hh => absurd hh.2 (by decide)
      rw [if_neg eH]
      exact ⟨im', zEv_o rfl (t_X12_between ⟨_, im, hrk im, fun hh => absurd e4 hh, fun _ => ⟨im6, uz, _, im6, hrk im6, fun hh => absurd e4 hh, fun _ => ⟨fun _ => ⟨im', g1, rfl, rfl⟩, fun hh => absurd h0 hh⟩⟩⟩), u3.tr g3, g2.2.2.2.2, fun _ => g2⟩
    · obtain ⟨t1, t2, t3⟩ := yxMc_top u2 (by omega) h0
      have hrk2 : zEv (d + 2) 151 [.int (im6 64 (im6 47 30 - 1).toNatClampNeg)] (zMm tl q im6) (some (.int (Int32.ofNat (yxRk ((yxUw m H out).1.headD 0))))) (zMm tl q im6) := by
        rw [t2]
        exact m_xRank t3
      have hr8 := yxRk_le ((yxUw m H out).1.headD 0)
      have k8 : (Int32.ofNat (yxRk ((yxUw m H out).1.headD 0)) = (4 : Int32)) ↔ yxRk ((yxUw m H out).1.headD 0) = 4 := zi_eq (b := 4) (by omega) (by omega)
      by_cases h8 : yxRk ((yxUw m H out).1.headD 0) = 4
      · rw [if_pos ⟨h4, h8⟩]
        exact ⟨im6, zEv_o rfl (t_X12_between ⟨_, im, hrk im, fun hh => absurd e4 hh, fun _ => ⟨im6, uz, _, im6, hrk im6, fun hh => absurd e4 hh, fun _ => ⟨fun hh => absurd hh h0, fun _ => ⟨t1, _, im6, hrk2, fun hh => absurd (k8.mpr h8) hh, fun _ => ⟨rfl, rfl⟩⟩⟩⟩⟩), u3, u2.2.2.2.2, fun hh => absurd ⟨h4, h8⟩ hh⟩
      · rw [if_neg (fun hh => h8 hh.2)]
        exact ⟨im', zEv_o rfl (t_X12_between ⟨_, im, hrk im, fun hh => absurd e4 hh, fun _ => ⟨im6, uz, _, im6, hrk im6, fun hh => absurd e4 hh, fun _ => ⟨fun hh => absurd hh h0, fun _ => ⟨t1, _, im6, hrk2, fun _ => ⟨im', g1, rfl, rfl⟩, fun hh => absurd (k8.mp hh) h8⟩⟩⟩⟩), u3.tr g3, g2.2.2.2.2, fun _ => g2⟩
  · have n4 : ¬ Int32.ofNat (yxRk s) = (4 : Int32) := fun hh => h4 (k4.mp hh)
    have em : m = yxRk s := by rw [← hm, if_neg h4]
    rw [if_neg (fun hh => h4 hh.1)]
    have uz : zEv (d + 2) 153 [.ref 47, .int (Int32.ofNat (yxRk s))] (zMm tl q im) none (zMm tl q im6) := by
      rw [em] at u1
      exact zEv_o rfl u1
    exact ⟨im', zEv_o rfl (t_X12_between ⟨_, im, hrk im, fun _ => ⟨_, im, hrk im, im6, uz, _, im6, hrk im6, fun _ => ⟨im', g1, rfl, rfl⟩, fun hh => absurd hh n4⟩, fun hh => absurd hh n4⟩), u3.tr g3, g2.2.2.2.2, fun _ => g2⟩
