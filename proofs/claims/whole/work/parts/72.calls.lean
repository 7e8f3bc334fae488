/-! CALLS: helpers -/
theorem n10 : ¬ (1 : Int32) = 0 := by decide
def bI (V : yV) (v : Int32) : Bool := decide (0 ≤ v) && decide (v < Int32.ofNat (yvN V))
def bO (V : yV) (v : Int32) : Bool := decide (0 ≤ v) && decide (v < Int32.ofNat (yvM V))
def bW (v : Int32) (m : Nat) : Bool := decide (0 ≤ v) && decide (v ≤ Int32.ofNat m)
theorem bI_ex {V : yV} {v : Int32} (hG : yG V) (h : bI V v = true) : ∃ k, k < yvN V ∧ v = Int32.ofNat k := by
  have hn := hG.1
  unfold bI at h
  rw [Bool.and_eq_true, decide_eq_true_eq, decide_eq_true_eq] at h
  exact zi_ex2 (Int32.not_lt.mpr h.1) h.2 (by omega)
theorem bO_ex {V : yV} {v : Int32} (hG : yG V) (h : bO V v = true) : ∃ k, k < yvM V ∧ v = Int32.ofNat k := by
  have hn := hG.2.1
  unfold bO at h
  rw [Bool.and_eq_true, decide_eq_true_eq, decide_eq_true_eq] at h
  exact zi_ex2 (Int32.not_lt.mpr h.1) h.2 (by omega)
theorem bW_ex {v : Int32} {m : Nat} (hm : m < 2147483647) (h : bW v m = true) : ∃ k, k < m + 1 ∧ v = Int32.ofNat k := by
  unfold bW at h
  rw [Bool.and_eq_true, decide_eq_true_eq, decide_eq_true_eq] at h
  have e := zi_ex (Int32.not_lt.mpr h.1)
  refine ⟨v.toNatClampNeg, ?_, e⟩
  have h2 := h.2
  rw [e, zi_le (Int32.toNatClampNeg_lt v) (by omega)] at h2
  omega
theorem cI_t {d : Nat} {v : Int32} {tl : List (Nat × Nat)} {q : zR} {im : zI} {V : yV} (hA : yA tl q im V) (h : bI V v = true) : zEv (d + 1) 113 [.ref 0, .int v] (zMm tl q im) (some (.int 1)) (zMm tl q im) := by
  have := c_isIsland (d := d) (tl := tl) (q := q) (im := im) (v := v)
  rw [hA.1, show (decide (0 ≤ v) && decide (v < Int32.ofNat (yvN V))) = true from h] at this
  exact this
theorem cI_f {d : Nat} {v : Int32} {tl : List (Nat × Nat)} {q : zR} {im : zI} {V : yV} (hA : yA tl q im V) (h : bI V v = false) : zEv (d + 1) 113 [.ref 0, .int v] (zMm tl q im) (some (.int 0)) (zMm tl q im) := by
  have := c_isIsland (d := d) (tl := tl) (q := q) (im := im) (v := v)
  rw [hA.1, show (decide (0 ≤ v) && decide (v < Int32.ofNat (yvN V))) = false from h] at this
  exact this
theorem cO_t {d : Nat} {v : Int32} {tl : List (Nat × Nat)} {q : zR} {im : zI} {V : yV} (hA : yA tl q im V) (h : bO V v = true) : zEv (d + 1) 112 [.ref 0, .int v] (zMm tl q im) (some (.int 1)) (zMm tl q im) := by
  have := c_isOne (d := d) (tl := tl) (q := q) (im := im) (v := v)
  rw [hA.2.1, show (decide (0 ≤ v) && decide (v < Int32.ofNat (yvM V))) = true from h] at this
  exact this
theorem cO_f {d : Nat} {v : Int32} {tl : List (Nat × Nat)} {q : zR} {im : zI} {V : yV} (hA : yA tl q im V) (h : bO V v = false) : zEv (d + 1) 112 [.ref 0, .int v] (zMm tl q im) (some (.int 0)) (zMm tl q im) := by
  have := c_isOne (d := d) (tl := tl) (q := q) (im := im) (v := v)
  rw [hA.2.1, show (decide (0 ≤ v) && decide (v < Int32.ofNat (yvM V))) = false from h] at this
  exact this
theorem mI_t {d : Nat} {v : Int32} {tl : List (Nat × Nat)} {q : zR} {im : zI} {V : yV} (hG : yG V) (hB : yB im V) (h : bI V v = true) : zEv (d + 2) 139 [.ref 47, .int v] (zMm tl q im) (some (.int 1)) (zMm tl q im) := by
  have hn := hG.1
  have := m_isIsland (d := d) (tl := tl) (q := q) (im := im) (v := v)
  rw [hB.1, decide_eq_decide.mpr (zi_pre (by omega)), show (decide (0 ≤ v) && decide (v < Int32.ofNat (yvN V))) = true from h] at this
  exact this
theorem mI_f {d : Nat} {v : Int32} {tl : List (Nat × Nat)} {q : zR} {im : zI} {V : yV} (hG : yG V) (hB : yB im V) (h : bI V v = false) : zEv (d + 2) 139 [.ref 47, .int v] (zMm tl q im) (some (.int 0)) (zMm tl q im) := by
  have hn := hG.1
  have := m_isIsland (d := d) (tl := tl) (q := q) (im := im) (v := v)
  rw [hB.1, decide_eq_decide.mpr (zi_pre (by omega)), show (decide (0 ≤ v) && decide (v < Int32.ofNat (yvN V))) = false from h] at this
  exact this
theorem mO_t {d : Nat} {v : Int32} {tl : List (Nat × Nat)} {q : zR} {im : zI} {V : yV} (hG : yG V) (hB : yB im V) (h : bO V v = true) : zEv (d + 2) 140 [.ref 47, .int v] (zMm tl q im) (some (.int 1)) (zMm tl q im) := by
  have hn := hG.2.1
  have := m_isOne (d := d) (tl := tl) (q := q) (im := im) (v := v)
  rw [hB.2.1, decide_eq_decide.mpr (zi_pre (by omega)), show (decide (0 ≤ v) && decide (v < Int32.ofNat (yvM V))) = true from h] at this
  exact this
theorem mO_f {d : Nat} {v : Int32} {tl : List (Nat × Nat)} {q : zR} {im : zI} {V : yV} (hG : yG V) (hB : yB im V) (h : bO V v = false) : zEv (d + 2) 140 [.ref 47, .int v] (zMm tl q im) (some (.int 0)) (zMm tl q im) := by
  have hn := hG.2.1
  have := m_isOne (d := d) (tl := tl) (q := q) (im := im) (v := v)
  rw [hB.2.1, decide_eq_decide.mpr (zi_pre (by omega)), show (decide (0 ≤ v) && decide (v < Int32.ofNat (yvM V))) = false from h] at this
  exact this
theorem cT_t {d : Nat} {v : Int32} {tl : List (Nat × Nat)} {q : zR} {im : zI} (h : bW v 11 = true) : zEv (d + 2) 110 [.int v] (zMm tl q im) (some (.int 1)) (zMm tl q im) := by
  have := c_isTide (d := d) (tl := tl) (q := q) (im := im) (v := v)
  rw [show (decide (0 ≤ v) && decide (v ≤ 11)) = true from h] at this
  exact this
theorem cT_f {d : Nat} {v : Int32} {tl : List (Nat × Nat)} {q : zR} {im : zI} (h : bW v 11 = false) : zEv (d + 2) 110 [.int v] (zMm tl q im) (some (.int 0)) (zMm tl q im) := by
  have := c_isTide (d := d) (tl := tl) (q := q) (im := im) (v := v)
  rw [show (decide (0 ≤ v) && decide (v ≤ 11)) = false from h] at this
  exact this
theorem mT_t {d : Nat} {v : Int32} {tl : List (Nat × Nat)} {q : zR} {im : zI} (h : bW v 11 = true) : zEv (d + 2) 138 [.int v] (zMm tl q im) (some (.int 1)) (zMm tl q im) := by
  have := m_isTide (d := d) (tl := tl) (q := q) (im := im) (v := v)
  rw [show (decide (0 ≤ v) && decide (v ≤ 11)) = true from h] at this
  exact this
theorem mT_f {d : Nat} {v : Int32} {tl : List (Nat × Nat)} {q : zR} {im : zI} (h : bW v 11 = false) : zEv (d + 2) 138 [.int v] (zMm tl q im) (some (.int 0)) (zMm tl q im) := by
  have := m_isTide (d := d) (tl := tl) (q := q) (im := im) (v := v)
  rw [show (decide (0 ≤ v) && decide (v ≤ 11)) = false from h] at this
  exact this
theorem cW_t {d m : Nat} {v : Int32} {tl : List (Nat × Nat)} {q : zR} {im : zI} (h : bW v m = true) : zEv (d + 1) 108 [.int v, .int (Int32.ofNat m)] (zMm tl q im) (some (.int 1)) (zMm tl q im) := by
  have := c_isWithin (d := d) (tl := tl) (q := q) (im := im) (v := v) (m := Int32.ofNat m)
  rw [show (decide (0 ≤ v) && decide (v ≤ Int32.ofNat m)) = true from h] at this
  exact this
theorem cW_f {d m : Nat} {v : Int32} {tl : List (Nat × Nat)} {q : zR} {im : zI} (h : bW v m = false) : zEv (d + 1) 108 [.int v, .int (Int32.ofNat m)] (zMm tl q im) (some (.int 0)) (zMm tl q im) := by
  have := c_isWithin (d := d) (tl := tl) (q := q) (im := im) (v := v) (m := Int32.ofNat m)
  rw [show (decide (0 ≤ v) && decide (v ≤ Int32.ofNat m)) = false from h] at this
  exact this
theorem mW_t {d m : Nat} {v : Int32} {tl : List (Nat × Nat)} {q : zR} {im : zI} (h : bW v m = true) : zEv (d + 1) 136 [.int v, .int (0 : Int32), .int (Int32.ofNat m)] (zMm tl q im) (some (.int 1)) (zMm tl q im) := by
  have := m_in (d := d) (tl := tl) (q := q) (im := im) (v := v) (a := 0) (b := Int32.ofNat m)
  rw [show (decide (0 ≤ v) && decide (v ≤ Int32.ofNat m)) = true from h] at this
  exact this
theorem mW_f {d m : Nat} {v : Int32} {tl : List (Nat × Nat)} {q : zR} {im : zI} (h : bW v m = false) : zEv (d + 1) 136 [.int v, .int (0 : Int32), .int (Int32.ofNat m)] (zMm tl q im) (some (.int 0)) (zMm tl q im) := by
  have := m_in (d := d) (tl := tl) (q := q) (im := im) (v := v) (a := 0) (b := Int32.ofNat m)
  rw [show (decide (0 ≤ v) && decide (v ≤ Int32.ofNat m)) = false from h] at this
  exact this
/-- a call of both: one answer -/
def yCall (D kc km : Nat) (as : List Value) (tl : List (Nat × Nat)) (q : zR) (im : zI) (P : zI → Prop) : Prop :=
  ∃ (v : Int32) (im1 im2 : zI), zEv D kc (.ref 0 :: as) (zMm tl q im) (some (.int v)) (zMm tl q im1) ∧ zEv D km (.ref 47 :: as) (zMm tl q im1) (some (.int v)) (zMm tl q im2) ∧ P im2
theorem c_top {d t : Nat} {tl : List (Nat × Nat)} {q : zR} {im : zI} {V : yV} (hG : yG V) (hA : yA tl q im V) (ht : t < 12) :
    ∃ r im2, (∀ e, zEv (e + 2) 117 [.ref 0] (zMm tl q im) (some (va_rf (some r))) (zMm tl q im)) ∧ zEv (d + 5) 125 [.ref 0, .int (Int32.ofNat t), .ref r] (zMm tl q im) none (zMm tl q im2) ∧ yTp V (yvR V) t im2 ∧ yFa im im2 := by
  obtain ⟨r, hr, _⟩ := yA_ref hA hG.2.2.1
  obtain ⟨im2, g1, g2, g3⟩ := c_lookAt (d := d) hG hA ht hG.2.2.1 hr
  exact ⟨r, im2, fun e => c_law hG hA hr, g1, g2, g3⟩
theorem yTm_s {V : yV} {t : Nat} {im : zI} (h : yTm V t im) : yMs V t (ySp V t) im := ⟨h.1, h.2.2⟩
/-- where one is -/
theorem ySp_p {V : yV} {t p : Nat} (hp : p < yvM V) : ySp V t p = yvP V p t := if_pos hp
theorem k_whose {d : Nat} {a b : Int32} {tl : List (Nat × Nat)} {q : zR} {im : zI} {V : yV} (hS : yS tl q im V) : yCall (d + 10) 79 179 [.int a, .int b] tl q im (yFr im) := by
  obtain ⟨hG, hA, hB⟩ := hS
  cases h1 : bI V a with
  | false => exact ⟨-5, im, im, zEv_o rfl (t_X11_whose ⟨_, _, cI_f hA h1, fun _ => ⟨rfl, rfl⟩, fun e => absurd rfl e⟩), zEv_o rfl (t_X12_whose ⟨_, _, mI_f hG hB h1, fun _ => ⟨rfl, rfl⟩, fun e => absurd rfl e⟩), yFr.rf⟩
  | true =>
    cases h2 : bW b 11 with
    | false => exact ⟨-5, im, im, zEv_o rfl (t_X11_whose ⟨_, _, cI_t hA h1, fun e => absurd e n10, fun _ => ⟨_, _, cT_f h2, fun e => absurd rfl e, fun _ => ⟨rfl, rfl⟩⟩⟩), zEv_o rfl (t_X12_whose ⟨_, _, mI_t hG hB h1, fun e => absurd e n10, fun _ => ⟨_, _, mT_f h2, fun e => absurd rfl e, fun _ => ⟨rfl, rfl⟩⟩⟩), yFr.rf⟩
    | true =>
      obtain ⟨i, hi, rfl⟩ := bI_ex hG h1
      obtain ⟨t, ht, rfl⟩ := bW_ex (by decide) h2
      obtain ⟨r, im1, gl, gk, hT, hF⟩ := c_top (d := d + 4) hG hA ht
      have hB1 := yB_fr hB hF.fr
      obtain ⟨im2, g1, hM, hF2⟩ := m_comesTo (d := d + 3) (tl := tl) (q := q) hG hB1 ht
      exact ⟨_, im1, im2, zEv_o rfl (t_X11_whose ⟨_, _, cI_t hA h1, fun e => absurd e n10, fun _ => ⟨_, _, cT_t h2, fun _ => ⟨some r, im, gl _, im1, gk, _, _, c_ownerOf hT hi, rfl, rfl⟩, fun e => absurd e n10⟩⟩), zEv_o rfl (t_X12_whose ⟨_, _, mI_t hG hB1 h1, fun e => absurd e n10, fun _ => ⟨_, _, mT_t h2, fun _ => ⟨im2, g1, _, _, m_owner hM.1 hi, rfl, rfl⟩, fun e => absurd e n10⟩⟩), hF.fr.tr hF2.fr⟩
theorem k_gain {d : Nat} {a b : Int32} {tl : List (Nat × Nat)} {q : zR} {im : zI} {V : yV} (hS : yS tl q im V) : yCall (d + 10) 80 180 [.int a, .int b] tl q im (yFr im) := by
  obtain ⟨hG, hA, hB⟩ := hS
  cases h1 : bO V a with
  | false => exact ⟨-5, im, im, zEv_o rfl (t_X11_gain ⟨_, _, cO_f hA h1, fun _ => ⟨rfl, rfl⟩, fun e => absurd rfl e⟩), zEv_o rfl (t_X12_gain ⟨_, _, mO_f hG hB h1, fun _ => ⟨rfl, rfl⟩, fun e => absurd rfl e⟩), yFr.rf⟩
  | true =>
    cases h2 : bW b 11 with
    | false => exact ⟨-5, im, im, zEv_o rfl (t_X11_gain ⟨_, _, cO_t hA h1, fun e => absurd e n10, fun _ => ⟨_, _, cT_f h2, fun e => absurd rfl e, fun _ => ⟨rfl, rfl⟩⟩⟩), zEv_o rfl (t_X12_gain ⟨_, _, mO_t hG hB h1, fun e => absurd e n10, fun _ => ⟨_, _, mT_f h2, fun e => absurd rfl e, fun _ => ⟨rfl, rfl⟩⟩⟩), yFr.rf⟩
    | true =>
      obtain ⟨p, hp, rfl⟩ := bO_ex hG h1
      obtain ⟨t, ht, rfl⟩ := bW_ex (by decide) h2
      obtain ⟨r, im1, gl, gk, hT, hF⟩ := c_top (d := d + 4) hG hA ht
      have hB1 := yB_fr hB hF.fr
      obtain ⟨im2, g1, hM, hF2⟩ := m_comesTo (d := d + 3) (tl := tl) (q := q) hG hB1 ht
      exact ⟨_, im1, im2, zEv_o rfl (t_X11_gain ⟨_, _, cO_t hA h1, fun e => absurd e n10, fun _ => ⟨_, _, cT_t h2, fun _ => ⟨some r, im, gl _, im1, gk, _, _, c_gainOf hT hp, rfl, rfl⟩, fun e => absurd e n10⟩⟩), zEv_o rfl (t_X12_gain ⟨_, _, mO_t hG hB1 h1, fun e => absurd e n10, fun _ => ⟨_, _, mT_t h2, fun _ => ⟨im2, g1, _, _, m_gainOf hM.1 hp, rfl, rfl⟩, fun e => absurd e n10⟩⟩), hF.fr.tr hF2.fr⟩
theorem k_costs {d : Nat} {a b : Int32} {tl : List (Nat × Nat)} {q : zR} {im : zI} {V : yV} (hS : yS tl q im V) : yCall (d + 10) 81 181 [.int a, .int b] tl q im (yFr im) := by
  obtain ⟨hG, hA, hB⟩ := hS
  cases h1 : bO V a with
  | false => exact ⟨-5, im, im, zEv_o rfl (t_X11_costs ⟨_, _, cO_f hA h1, fun _ => ⟨rfl, rfl⟩, fun e => absurd rfl e⟩), zEv_o rfl (t_X12_costs ⟨_, _, mO_f hG hB h1, fun _ => ⟨rfl, rfl⟩, fun e => absurd rfl e⟩), yFr.rf⟩
  | true =>
    cases h2 : bW b 11 with
    | false => exact ⟨-5, im, im, zEv_o rfl (t_X11_costs ⟨_, _, cO_t hA h1, fun e => absurd e n10, fun _ => ⟨_, _, cT_f h2, fun _ => ⟨rfl, rfl⟩, fun e => absurd rfl e⟩⟩), zEv_o rfl (t_X12_costs ⟨_, _, mO_t hG hB h1, fun e => absurd e n10, fun _ => ⟨_, _, mT_f h2, fun e => absurd rfl e, fun _ => ⟨rfl, rfl⟩⟩⟩), yFr.rf⟩
    | true =>
      have hm := hG.2.1
      obtain ⟨p, hp, rfl⟩ := bO_ex hG h1
      obtain ⟨t, ht, rfl⟩ := bW_ex (by decide) h2
      obtain ⟨im1, gc, hF0⟩ := c_costOf (d := d + 5) (x := yvP V p t) hG hA hp ht
      have hF : yFa im im1 := yFa.of2 33 34 (by decide) (by decide) hF0
      have hB1 := yB_fr hB hF.fr
      obtain ⟨im2, g1, hM, hF2⟩ := m_comesTo (d := d + 3) (tl := tl) (q := q) hG hB1 ht
      obtain ⟨im3, g2, hF3⟩ := m_costTo (d := d + 5) (x := yvP V p t) (tl := tl) (q := q) hG (yB_fr hB1 hF2.fr) (hG.2.2.2.2.2.1 p hp t ht) hp ht (hM.2.2 p hp)
      have h69 : im2 69 p = yvP V p t := by rw [hM.1.2.2.2.2.2.2.2.1 p hp, ySp_p hp]
      refine ⟨yCo V p t (yvP V p t), im1, im3, zEv_o rfl (t_X11_costs ⟨_, _, cO_t hA h1, fun e => absurd e n10, fun _ => ⟨_, _, cT_t h2, fun e => absurd e n10, fun _ => ⟨zi_in (by omega) (by omega), ?_⟩⟩⟩), zEv_o rfl (t_X12_costs ⟨_, _, mO_t hG hB1 h1, fun e => absurd e n10, fun _ => ⟨_, _, mT_t h2, fun _ => ⟨im2, g1, zi_in (by omega) (by omega), ?_⟩, fun e => absurd e n10⟩⟩), hF.fr.tr (hF2.tr (yFb.k56 hF3)).fr⟩
      · rw [zi_n (show p < 2147483648 by omega), zRf_row (by omega)]
        show ((zB ++ tl)[4 + p]?).elim _ _
        rw [zB_row (by omega), zi_n (show t < 2147483648 by omega), hA.2.2.2.2.2.1 p (by omega) t ht]
        exact ⟨zi_in (show t < 12 from ht) (by omega), _, _, gc, rfl, rfl⟩
      · rw [zi_n (show p < 2147483648 by omega), h69]
        exact ⟨_, _, g2, rfl, rfl⟩
