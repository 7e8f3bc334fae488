/-! THE CLASS: worths, costs, storms -/
theorem c_islandAt {d i r : Nat} {tl : List (Nat × Nat)} {q : zR} {im : zI} {V : yV} (hG : yG V) (hA : yA tl q im V) (hi : i < yvN V) (hr : zRf q 15 i = some r) : zEv (d + 2) 115 [.ref 0, .int (Int32.ofNat i)] (zMm tl q im) (some (va_rf (some r))) (zMm tl q im) := by
  have hn := hG.1
  refine zEv_o rfl (t_X11_islandAt ⟨_, _, c_isIsland, ?_⟩)
  rw [hA.1, decide_eq_true (zi_ge0 (by omega)), decide_eq_true ((zi_lt (by omega) (by omega)).mpr hi), zi_n (by omega), hr]
  exact ⟨fun h => absurd h (by decide), fun _ => ⟨zi_in (by omega) (by omega), rfl, rfl⟩⟩
theorem c_islandAt_no {d : Nat} {v : Int32} {tl : List (Nat × Nat)} {q : zR} {im : zI} {V : yV} (hA : yA tl q im V) (hv : (decide (0 ≤ v) && decide (v < Int32.ofNat (yvN V))) = false) : zEv (d + 2) 115 [.ref 0, .int v] (zMm tl q im) (some (va_rf none)) (zMm tl q im) := by
  refine zEv_o rfl (t_X11_islandAt ⟨_, _, c_isIsland, ?_⟩)
  rw [hA.1, hv]
  exact ⟨fun _ => ⟨rfl, rfl⟩, fun h => absurd rfl h⟩
theorem c_textAt {d k r : Nat} {tl : List (Nat × Nat)} {q : zR} {im : zI} {V : yV} (hG : yG V) (hA : yA tl q im V) (hk : k < yvC V) (hr : zRf q 16 k = some r) : zEv (d + 1) 116 [.ref 0, .int (Int32.ofNat k)] (zMm tl q im) (some (va_rf (some r))) (zMm tl q im) := by
  have h6 := hG.2.2.2.1
  refine zEv_o rfl (t_X11_textAt ?_)
  rw [hA.2.2.2.1, zi_n (by omega), hr]
  exact ⟨fun h => absurd h (zi_neg (by omega)), fun _ => ⟨fun h => absurd ((zi_le (by omega) (by omega)).mp h) (by omega), fun _ => ⟨zi_in (by omega) (by omega), rfl, rfl⟩⟩⟩
theorem c_textAt_no {d : Nat} {v : Int32} {tl : List (Nat × Nat)} {q : zR} {im : zI} {V : yV} (hA : yA tl q im V) (hv : (decide (0 ≤ v) && decide (v < Int32.ofNat (yvC V))) = false) : zEv (d + 1) 116 [.ref 0, .int v] (zMm tl q im) (some (va_rf none)) (zMm tl q im) := by
  refine zEv_o rfl (t_X11_textAt ?_)
  rw [hA.2.2.2.1]
  refine ⟨fun _ => ⟨rfl, rfl⟩, fun h => ⟨fun _ => ⟨rfl, rfl⟩, fun h2 => ?_⟩⟩
  rw [decide_eq_true (Int32.not_lt.mp h), decide_eq_true (Int32.not_le.mp h2)] at hv
  cases hv
theorem c_law {d r : Nat} {tl : List (Nat × Nat)} {q : zR} {im : zI} {V : yV} (hG : yG V) (hA : yA tl q im V) (hr : zRf q 16 (yvR V) = some r) : zEv (d + 2) 117 [.ref 0] (zMm tl q im) (some (va_rf (some r))) (zMm tl q im) := by
  refine zEv_o rfl (t_X11_law ⟨some r, im, ?_, rfl, rfl⟩)
  rw [hA.2.2.1]
  exact c_textAt hG hA hG.2.2.1 hr
theorem yClamp0 {v h : Int32} (hh : 0 < h) : (if (0 : Int32) < (if h < v then h else v) then (if h < v then h else v) else (0 : Int32)) = zWithin v 0 h := yClamp hh
theorem yTag_sub {k : Nat} (h : k < 6) : zSub (yTag k) 3 = true := by
  match k, h with
  | 0, _ => rfl
  | 1, _ => rfl
  | 2, _ => rfl
  | 3, _ => rfl
  | 4, _ => rfl
  | 5, _ => rfl
theorem yA_ref {tl : List (Nat × Nat)} {q : zR} {im : zI} {V : yV} (hA : yA tl q im V) {k : Nat} (hk : k < yvC V) : ∃ r, zRf q 16 k = some r ∧ yCx tl q im r (yvX V k) := by
  obtain ⟨r, h1, _, _, h2⟩ := hA.2.2.2.2.2.2.2 k hk
  exact ⟨r, h1, h2⟩
/-- a text asked, of what is named -/
theorem c_askd {d k r part : Nat} {tl : List (Nat × Nat)} {q : zR} {im : zI} {V : yV} {a1 a2 a3 a4 a5 a6 : Int32} (hA : yA tl q im V) (hk : k < yvC V) (hr : zRf q 16 k = some r) (hp : part < 3) :
    ∃ im', zEv (d + 3) 121 [.ref 0, .ref r, .int (Int32.ofNat part)] (zMm tl q (up2 (up2 (up2 (up2 (up2 (up2 im 33 0 a1) 33 1 a2) 33 2 a3) 33 3 a4) 33 4 a5) 33 5 a6)) (some (.int (yAsk (yvX V k) part (yNm a1 a2 a3 a4 a5 a6)))) (zMm tl q im') ∧ (∀ k, k ≠ 33 → k ≠ 34 → im' k = im k) := by
  have hF : yFa im (up2 (up2 (up2 (up2 (up2 (up2 im 33 0 a1) 33 1 a2) 33 2 a3) 33 3 a4) 33 4 a5) 33 5 a6) := yFa.of 33 (by decide) (fun k hk => by rw [up_r hk, up_r hk, up_r hk, up_r hk, up_r hk, up_r hk])
  have hA' := yA_fr hA hF.fr
  obtain ⟨r', h1, h2⟩ := yA_ref hA' hk
  rw [hr] at h1
  obtain rfl : r = r' := Option.some.inj h1
  obtain ⟨im', g1, g2⟩ := c_saysOf (d := d) hp h2 (nm := yNm a1 a2 a3 a4 a5 a6) (fun j hj => by
    match j, hj with
    | 0, _ => rfl
    | 1, _ => rfl
    | 2, _ => rfl
    | 3, _ => rfl
    | 4, _ => rfl
    | 5, _ => rfl)
  exact ⟨im', g1, fun k hk hk2 => by rw [g2 k hk2, up_r hk, up_r hk, up_r hk, up_r hk, up_r hk, up_r hk]⟩
theorem c_worthUnder {d k r i t : Nat} {tl : List (Nat × Nat)} {q : zR} {im : zI} {V : yV} (hG : yG V) (hA : yA tl q im V) (hk : k < yvC V) (hr : zRf q 16 k = some r) (hi : i < yvN V) (ht : t < 12) :
    ∃ im', zEv (d + 4) 122 [.ref 0, .ref r, .int (Int32.ofNat i), .int (Int32.ofNat t)] (zMm tl q im) (some (.int (yWo V k t i))) (zMm tl q im') ∧ (∀ k, k ≠ 33 → k ≠ 34 → im' k = im k) := by
  obtain ⟨ri, h1, h2, h3⟩ := hA.2.2.2.2.2.2.1 i hi
  obtain ⟨L, k1, k2, k3, k4, k5, k6, k7⟩ := id h3
  obtain ⟨im1, g1, g2⟩ := c_askd (d := d) (part := 0) (a1 := yvD V i) (a2 := yvH V t) (a3 := yvO V i) (a4 := 0) (a5 := Int32.ofNat t) (a6 := Int32.ofNat i) hA hk hr (by decide)
  have h3' : yIs tl im1 ri (yvK V i) (yvD V i) (yvU V i) (yvO V i) := yIs_k h3 (g2 ri (by omega) (by omega))
  refine ⟨im1, zEv_o rfl (t_X11_worthUnder ⟨some ri, im, c_islandAt hG hA hi h1, ?_⟩), g2⟩
  show ((zB ++ tl)[ri]?).elim _ _
  simp only [k1, Option.elim_some]
  rw [yTag_sub k3, cond_true, zi_n (by omega), k5, k7, hA.2.2.2.2.1 t ht]
  refine ⟨zi_in (by omega) (by omega), _, c_name, _, _, g1, ?_⟩
  refine ⟨_, _, c_worthAt h3', ?_, rfl⟩
  rw [yClamp (by decide)]
  rfl
theorem zRf_row {q : zR} {p : Nat} (h : p < 4) : zRf q 3 p = some (4 + p) := by
  match p, h with
  | 0, _ => rfl
  | 1, _ => rfl
  | 2, _ => rfl
  | 3, _ => rfl
theorem zB_row {tl : List (Nat × Nat)} {p : Nat} (h : p < 4) : (zB ++ tl)[4 + p]? = some (20, 12) := by
  match p, h with
  | 0, _ => rfl
  | 1, _ => rfl
  | 2, _ => rfl
  | 3, _ => rfl
/-- a place that can be -/
def yPl (V : yV) (x : Int32) : Prop := x = -1 ∨ ∃ k, k < yvN V ∧ x = Int32.ofNat k
theorem c_costOf {d p t : Nat} {x : Int32} {tl : List (Nat × Nat)} {q : zR} {im : zI} {V : yV} (hG : yG V) (hA : yA tl q im V) (hp : p < yvM V) (ht : t < 12) :
    ∃ im', zEv (d + 4) 123 [.ref 0, .int (Int32.ofNat p), .int (Int32.ofNat t), .int x] (zMm tl q im) (some (.int (yCo V p t x))) (zMm tl q im') ∧ (∀ k, k ≠ 33 → k ≠ 34 → im' k = im k) := by
  have hm := hG.2.1
  obtain ⟨r, hr, _⟩ := yA_ref hA hG.2.2.1
  have hH := hA.2.2.2.2.1 t ht
  have ask : ∀ far : Int32, ∃ im', (∃ im7 : zI, zEv (d + 3) 120 [.ref 0, .int (0 : Int32), .int (im 2 (Int32.ofNat t).toNatClampNeg), .int (0 : Int32), .int far, .int (Int32.ofNat t), .int x] (zMm tl q im) none (zMm tl q im7) ∧ (∃ (o10 : Option Nat) (im8 : zI), zEv (d + 3) 117 [.ref 0] (zMm tl q im7) (some (va_rf o10)) (zMm tl q im8) ∧ o10.elim (∃ (v12 : Int32) (im11 : zI), zEv (d + 3) 121 [.ref 0, .null, .int (1 : Int32)] (zMm tl q im8) (some (.int v12)) (zMm tl q im11) ∧ (some (Value.int v12) = some (.int (yAsk (yvX V (yvR V)) 1 (yNm 0 (yvH V t) 0 far (Int32.ofNat t) x))) ∧ zMm tl q im11 = zMm tl q im')) (fun r9 => ∃ (v14 : Int32) (im13 : zI), zEv (d + 3) 121 [.ref 0, .ref r9, .int (1 : Int32)] (zMm tl q im8) (some (.int v14)) (zMm tl q im13) ∧ (some (Value.int v14) = some (.int (yAsk (yvX V (yvR V)) 1 (yNm 0 (yvH V t) 0 far (Int32.ofNat t) x))) ∧ zMm tl q im13 = zMm tl q im')))) ∧ (∀ k, k ≠ 33 → k ≠ 34 → im' k = im k) := by
    intro far
    obtain ⟨im1, g1, g2⟩ := c_askd (d := d) (part := 1) (a1 := 0) (a2 := yvH V t) (a3 := 0) (a4 := far) (a5 := Int32.ofNat t) (a6 := x) hA hG.2.2.1 hr (by decide)
    refine ⟨im1, ⟨_, c_name, some r, _, c_law hG (yA_fr hA ?_) hr, _, _, ?_, rfl, rfl⟩, g2⟩
    · exact (yFa.of 33 (by decide) (fun k hk => by rw [up_r hk, up_r hk, up_r hk, up_r hk, up_r hk, up_r hk])).fr
    · rw [zi_n (by omega), hH]
      exact g1
  by_cases e0 : t = 0
  · subst e0
    have ea : yAh V p 0 = -1 := rfl
    unfold yCo
    rw [ea]
    by_cases ex : x = -1
    · subst ex
      refine ⟨im, zEv_o rfl (t_X11_costOf ⟨fun h => absurd rfl h, fun _ => ⟨fun _ => ⟨rfl, rfl⟩, fun h => absurd rfl h⟩⟩), fun _ _ _ => rfl⟩
    · obtain ⟨im', g1, g2⟩ := ask (x + 1)
      rw [if_neg (by rintro (h | h) <;> exact ex h), if_pos rfl]
      exact ⟨im', zEv_o rfl (t_X11_costOf ⟨fun h => absurd rfl h, fun _ => ⟨fun h => absurd h ex, fun _ => ⟨fun _ => ⟨zi_in (by decide) (by decide), g1⟩, fun h => absurd h ex⟩⟩⟩), g2⟩
  · have ea : yAh V p t = yvP V p (t - 1) := if_neg e0
    have hp1 := hA.2.2.2.2.2.1 p (by omega) (t - 1) (by omega)
    have e1 : ¬ Int32.ofNat t = 0 := fun h => e0 ((zi_eq (b := 0) (by omega) (by omega)).mp h)
    have e2 : Int32.ofNat t - 1 = Int32.ofNat (t - 1) := zi_p (by omega)
    unfold yCo
    rw [ea]
    have key : ∀ (im' : zI) (v : Int32), (vp_in (Int32.ofNat (t - 1)) 12 ∧ ((x = (-1 : Int32) → (some (Value.int 0) = some (.int v) ∧ zMm tl q im = zMm tl q im')) ∧ (¬ x = (-1 : Int32) → ((¬ x = yvP V p (t - 1) → ((¬ yvP V p (t - 1) = (-1 : Int32) → (vp_in (Int32.ofNat t) 12 ∧ (∃ im7 : zI, zEv (d + 3) 120 [.ref 0, .int (0 : Int32), .int (im 2 (Int32.ofNat t).toNatClampNeg), .int (0 : Int32), .int (if 0 ≤ (x - yvP V p (t - 1)) then (x - yvP V p (t - 1)) else 0 - (x - yvP V p (t - 1))), .int (Int32.ofNat t), .int x] (zMm tl q im) none (zMm tl q im7) ∧ (∃ (o10 : Option Nat) (im8 : zI), zEv (d + 3) 117 [.ref 0] (zMm tl q im7) (some (va_rf o10)) (zMm tl q im8) ∧ o10.elim (∃ (v12 : Int32) (im11 : zI), zEv (d + 3) 121 [.ref 0, .null, .int (1 : Int32)] (zMm tl q im8) (some (.int v12)) (zMm tl q im11) ∧ (some (Value.int v12) = some (.int v) ∧ zMm tl q im11 = zMm tl q im')) (fun r9 => ∃ (v14 : Int32) (im13 : zI), zEv (d + 3) 121 [.ref 0, .ref r9, .int (1 : Int32)] (zMm tl q im8) (some (.int v14)) (zMm tl q im13) ∧ (some (Value.int v14) = some (.int v) ∧ zMm tl q im13 = zMm tl q im')))))) ∧ (yvP V p (t - 1) = (-1 : Int32) → (vp_in (Int32.ofNat t) 12 ∧ (∃ im15 : zI, zEv (d + 3) 120 [.ref 0, .int (0 : Int32), .int (im 2 (Int32.ofNat t).toNatClampNeg), .int (0 : Int32), .int (x + (1 : Int32)), .int (Int32.ofNat t), .int x] (zMm tl q im) none (zMm tl q im15) ∧ (∃ (o18 : Option Nat) (im16 : zI), zEv (d + 3) 117 [.ref 0] (zMm tl q im15) (some (va_rf o18)) (zMm tl q im16) ∧ o18.elim (∃ (v20 : Int32) (im19 : zI), zEv (d + 3) 121 [.ref 0, .null, .int (1 : Int32)] (zMm tl q im16) (some (.int v20)) (zMm tl q im19) ∧ (some (Value.int v20) = some (.int v) ∧ zMm tl q im19 = zMm tl q im')) (fun r17 => ∃ (v22 : Int32) (im21 : zI), zEv (d + 3) 121 [.ref 0, .ref r17, .int (1 : Int32)] (zMm tl q im16) (some (.int v22)) (zMm tl q im21) ∧ (some (Value.int v22) = some (.int v) ∧ zMm tl q im21 = zMm tl q im')))))))) ∧ (x = yvP V p (t - 1) → (some (Value.int 0) = some (.int v) ∧ zMm tl q im = zMm tl q im')))))) → zEv (d + 4) 123 [.ref 0, .int (Int32.ofNat p), .int (Int32.ofNat t), .int x] (zMm tl q im) (some (.int v)) (zMm tl q im') := by
      intro im' v h
      refine zEv_o rfl (t_X11_costOf ⟨fun _ => ⟨zi_in (by omega) (by omega), ?_⟩, fun h => absurd h e1⟩)
      rw [zi_n (show p < 2147483648 by omega), zRf_row (by omega), e2, zi_n (show t - 1 < 2147483648 by omega)]
      show ((zB ++ tl)[4 + p]?).elim _ _
      rw [zB_row (by omega), hp1]
      exact h
    by_cases ex : x = -1
    · subst ex
      rw [if_pos (.inl rfl)]
      exact ⟨im, key im 0 ⟨zi_in (by omega) (by omega), fun _ => ⟨rfl, rfl⟩, fun h => absurd rfl h⟩, fun _ _ _ => rfl⟩
    · by_cases ef : x = yvP V p (t - 1)
      · rw [if_pos (.inr ef)]
        exact ⟨im, key im 0 ⟨zi_in (by omega) (by omega), fun h => absurd h ex, fun _ => ⟨fun h => absurd ef h, fun _ => ⟨rfl, rfl⟩⟩⟩, fun _ _ _ => rfl⟩
      · rw [if_neg (by rintro (h | h); exact ex h; exact ef h)]
        by_cases e3 : yvP V p (t - 1) = -1
        · rw [if_pos e3]
          obtain ⟨im', g1, g2⟩ := ask (x + 1)
          exact ⟨im', key im' _ ⟨zi_in (by omega) (by omega), fun h => absurd h ex, fun _ => ⟨fun _ => ⟨fun h => absurd e3 h, fun _ => ⟨zi_in (by omega) (by omega), g1⟩⟩, fun h => absurd h ef⟩⟩, g2⟩
        · rw [if_neg e3]
          obtain ⟨im', g1, g2⟩ := ask (if 0 ≤ (x - yvP V p (t - 1)) then (x - yvP V p (t - 1)) else 0 - (x - yvP V p (t - 1)))
          exact ⟨im', key im' _ ⟨zi_in (by omega) (by omega), fun h => absurd h ex, fun _ => ⟨fun _ => ⟨fun _ => ⟨zi_in (by omega) (by omega), g1⟩, fun h => absurd h e3⟩, fun h => absurd h ef⟩⟩, g2⟩
theorem c_stormOf {d p t : Nat} {tl : List (Nat × Nat)} {q : zR} {im : zI} {V : yV} (hG : yG V) (hA : yA tl q im V) (hp : p < yvM V) (ht : t < 12) :
    ∃ im', zEv (d + 4) 124 [.ref 0, .int (Int32.ofNat p), .int (Int32.ofNat t)] (zMm tl q im) (some (.int (yStm V p t))) (zMm tl q im') ∧ (∀ k, k ≠ 33 → k ≠ 34 → im' k = im k) := by
  have hm := hG.2.1
  obtain ⟨r, hr, _⟩ := yA_ref hA hG.2.2.1
  have hH := hA.2.2.2.2.1 t ht
  have hp1 := hA.2.2.2.2.2.1 p (by omega) t ht
  unfold yStm
  by_cases e : yvP V p t = -1
  · rw [if_pos e]
    refine ⟨im, zEv_o rfl (t_X11_stormOf ⟨zi_in (by omega) (by omega), ?_⟩), fun _ _ _ => rfl⟩
    rw [zi_n (by omega), zRf_row (by omega)]
    show ((zB ++ tl)[4 + p]?).elim _ _
    rw [zB_row (by omega), zi_n (by omega), hp1]
    exact ⟨zi_in (show t < 12 by omega) (by omega), fun h => absurd e h, fun _ => ⟨rfl, rfl⟩⟩
  · rw [if_neg e]
    obtain ⟨im1, g1, g2⟩ := c_askd (d := d) (part := 2) (a1 := 0) (a2 := yvH V t) (a3 := 0) (a4 := 0) (a5 := Int32.ofNat t) (a6 := yvP V p t) hA hG.2.2.1 hr (by decide)
    refine ⟨im1, zEv_o rfl (t_X11_stormOf ⟨zi_in (by omega) (by omega), ?_⟩), g2⟩
    rw [zi_n (by omega), zRf_row (by omega)]
    show ((zB ++ tl)[4 + p]?).elim _ _
    rw [zB_row (by omega), zi_n (by omega), hp1, hH]
    refine ⟨zi_in (show t < 12 by omega) (by omega), fun _ => ⟨zi_in (by omega) (by omega), _, c_name, some r, _, c_law hG (yA_fr hA ?_) hr, _, _, g1, rfl, rfl⟩, fun h => absurd h e⟩
    exact (yFa.of 33 (by decide) (fun k hk => by rw [up_r hk, up_r hk, up_r hk, up_r hk, up_r hk, up_r hk])).fr
