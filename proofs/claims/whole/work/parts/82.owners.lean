/-! TOLD OWNERS -/
theorem yH_fr {im im' : zI} {U : yU} (h : yH im U) (hf : yFr im im') : yH im' U := yH_ag h (fun k j hu => hf k j (by unfold yUc at hu; unfold yScr; omega))
theorem zRf_sh {q : zR} {s : Nat} (h : s < 4) : zRf q 20 s = some (37 + 2 * s) := by
  match s, h with
  | 0, _ => rfl
  | 1, _ => rfl
  | 2, _ => rfl
  | 3, _ => rfl
theorem zRf_sc {q : zR} {s : Nat} (h : s < 4) : zRf q (37 + 2 * s) 0 = some (38 + 2 * s) := by
  match s, h with
  | 0, _ => rfl
  | 1, _ => rfl
  | 2, _ => rfl
  | 3, _ => rfl
theorem zB_sh {tl : List (Nat × Nat)} {s : Nat} (h : s < 4) : (zB ++ tl)[37 + 2 * s]? = some (6, 3) := by
  match s, h with
  | 0, _ => rfl
  | 1, _ => rfl
  | 2, _ => rfl
  | 3, _ => rfl
theorem zB_sc {tl : List (Nat × Nat)} {s : Nat} (h : s < 4) : (zB ++ tl)[38 + 2 * s]? = some (20, 40) := by
  match s, h with
  | 0, _ => rfl
  | 1, _ => rfl
  | 2, _ => rfl
  | 3, _ => rfl
def yXs (U : yU) (v : Int32) : Int32 := bif bW v 3 then (if yuS U v.toNatClampNeg = -1 then -11 else 0) else -2
def yXo (V : yV) (U : yU) (v : Int32) : Int32 := if yXs U v = 0 then (if Int32.ofNat (yuZ U v.toNatClampNeg) = Int32.ofNat (yvN V) then 0 else -2) else yXs U v
theorem cS_t {d : Nat} {v : Int32} {tl : List (Nat × Nat)} {q : zR} {im : zI} (h : bW v 3 = true) : zEv (d + 2) 111 [.int v] (zMm tl q im) (some (.int 1)) (zMm tl q im) := by
  have := c_isSheet (d := d) (tl := tl) (q := q) (im := im) (v := v)
  rw [show (decide (0 ≤ v) && decide (v ≤ 3)) = true from h] at this
  exact this
theorem cS_f {d : Nat} {v : Int32} {tl : List (Nat × Nat)} {q : zR} {im : zI} (h : bW v 3 = false) : zEv (d + 2) 111 [.int v] (zMm tl q im) (some (.int 0)) (zMm tl q im) := by
  have := c_isSheet (d := d) (tl := tl) (q := q) (im := im) (v := v)
  rw [show (decide (0 ≤ v) && decide (v ≤ 3)) = false from h] at this
  exact this
theorem c_refusalOfSheet {d : Nat} {v : Int32} {tl : List (Nat × Nat)} {q : zR} {im : zI} {U : yU} (hH : yHs im U) : zEv (d + 3) 118 [.ref 0, .int v] (zMm tl q im) (some (.int (yXs U v))) (zMm tl q im) := by
  unfold yXs
  cases h : bW v 3 with
  | false => exact zEv_o rfl (t_X11_refusalOfSheet ⟨_, _, cS_f h, fun e => absurd rfl e, fun _ => ⟨rfl, rfl⟩⟩)
  | true =>
    obtain ⟨s, hs, rfl⟩ := bW_ex (by decide) h
    obtain ⟨s1, s2, s3, s4, s5, s6, s7⟩ := hH s (by omega)
    refine zEv_o rfl (t_X11_refusalOfSheet ⟨_, _, cS_t h, fun _ => ⟨zi_in (by omega) (by omega), ?_⟩, fun e => absurd e n10⟩)
    rw [zi_n (show s < 2147483648 by omega), zRf_sh (by omega), cond_true]
    show ((zB ++ tl)[37 + 2 * s]?).elim _ _
    rw [zB_sh (by omega), s1]
    refine ⟨fun e => ⟨?_, rfl⟩, fun e => ⟨?_, rfl⟩⟩
    · rw [if_neg e]
    · rw [if_pos e]
theorem c_refusalOfOwners {d : Nat} {v : Int32} {tl : List (Nat × Nat)} {q : zR} {im : zI} {V : yV} {U : yU} (hA : yA tl q im V) (hH : yHs im U) : zEv (d + 4) 119 [.ref 0, .int v] (zMm tl q im) (some (.int (yXo V U v))) (zMm tl q im) := by
  refine zEv_o rfl (t_X11_refusalOfOwners ⟨_, _, c_refusalOfSheet hH, ?_⟩)
  unfold yXo
  by_cases h0 : yXs U v = 0
  · rw [if_pos h0]
    refine ⟨fun _ => ?_, fun e => absurd h0 e⟩
    cases h : bW v 3 with
    | false => unfold yXs at h0; rw [h] at h0; exact absurd (show (-2 : Int32) = 0 from h0) (by decide)
    | true =>
      obtain ⟨s, hs, rfl⟩ := bW_ex (by decide) h
      obtain ⟨s1, s2, s3, s4, s5, s6, s7⟩ := hH s (by omega)
      rw [zi_n (show s < 2147483648 by omega), zRf_sh (by omega)]
      refine ⟨zi_in (by omega) (by omega), ?_⟩
      show ((zB ++ tl)[37 + 2 * s]?).elim _ _
      rw [zB_sh (by omega), s2, hA.1]
      refine ⟨fun e => ⟨?_, rfl⟩, fun e => ⟨?_, rfl⟩⟩
      · rw [if_neg e]
      · rw [if_pos e]
  · rw [if_neg h0]
    exact ⟨fun e => absurd e h0, fun _ => ⟨rfl, rfl⟩⟩
theorem m_sheetWrong {d : Nat} {v : Int32} {tl : List (Nat × Nat)} {q : zR} {im : zI} {V : yV} {U : yU} (hB : yB im V) (hH : yHs im U) : zEv (d + 2) 205 [.ref 47, .int v] (zMm tl q im) (some (.int (yXo V U v))) (zMm tl q im) := by
  unfold yXo yXs
  cases h : bW v 3 with
  | false => exact zEv_o rfl (t_X12_sheetWrong ⟨_, _, mW_f (m := 3) h, fun e => absurd rfl e, fun _ => ⟨rfl, rfl⟩⟩)
  | true =>
    obtain ⟨s, hs, rfl⟩ := bW_ex (by decide) h
    obtain ⟨s1, s2, s3, s4, s5, s6, s7⟩ := hH s (by omega)
    have v4 := zi_in (show s < 4 by omega) (show s < 2147483648 by omega)
    refine zEv_o rfl (t_X12_sheetWrong ⟨_, _, mW_t (m := 3) h, fun _ => ⟨v4, ?_⟩, fun e => absurd e n10⟩)
    rw [zi_n (show s < 2147483648 by omega), s5, s6, hB.1, cond_true]
    refine ⟨fun e => ⟨v4, fun e2 => ⟨?_, rfl⟩, fun e2 => ⟨?_, rfl⟩⟩, fun e => ⟨?_, rfl⟩⟩
    · rw [if_neg e, if_pos rfl, if_neg e2]
    · rw [if_neg e, if_pos rfl, if_pos e2]
    · rw [if_pos e, if_neg (by decide)]
theorem yXo_0 {V : yV} {U : yU} {v : Int32} (h : yXo V U v = 0) : ∃ s, s < 4 ∧ v = Int32.ofNat s := by
  cases hb : bW v 3 with
  | false =>
    unfold yXo yXs at h
    rw [hb, cond_false, if_neg (by decide)] at h
    exact absurd h (by decide)
  | true => exact bW_ex (by decide) hb
/-- the first that is not whose a sheet tells -/
def yUl (V : yV) (t : Nat) (sp : Nat → Int32) (C : Nat → Int32) : Int32 := zFst (fun i => !decide (C i = zOwn (yvN V) (yvM V) (ySd V t) (yRo V t) sp i)) 0 (yvN V)
theorem c_firstOtherwise {d k t s : Nat} {sp : Nat → Int32} {tl : List (Nat × Nat)} {q : zR} {im : zI} {V : yV} {U : yU} (hG : yG V) (hA : yA tl q im V) (hH : yHs im U) (hT : yTs V k t sp im) (hs : s < 4) : zEv (d + 5) 132 [.ref 0, .ref (37 + 2 * s)] (zMm tl q im) (some (.int (yUl V t sp (yuC U s)))) (zMm tl q im) := by
  have hn := hG.1
  obtain ⟨s1, s2, s3, s4, s5, s6, s7⟩ := hH s hs
  have lp : ∀ j i, i + j = yvN V → zX (d + 4) zc_X11_firstOtherwise 2 [(0, .ref 0), (1, .ref (37 + 2 * s)), (2, .int (Int32.ofNat i))] [] (zMm tl q im) (fun x y => x = some (.int (zFst (fun i => !decide (yuC U s i = zOwn (yvN V) (yvM V) (ySd V t) (yRo V t) sp i)) i j)) ∧ y = zMm tl q im) := by
    intro j
    induction j with
    | zero =>
      intro i hi
      refine t_X11_firstOtherwise_2 ?_
      rw [hA.1]
      exact ⟨fun _ => ⟨rfl, rfl⟩, fun h => absurd ((zi_le (by omega) (by omega)).mpr (by omega)) h⟩
    | succ j ih =>
      intro i hi
      have ih := ih (i + 1) (by omega)
      refine t_X11_firstOtherwise_2 ?_
      rw [hA.1, zB_sh hs, zRf_sc hs, zi_s]
      refine ⟨fun h => absurd ((zi_le (by omega) (by omega)).mp h) (by omega), fun _ => ?_⟩
      show ((zB ++ tl)[38 + 2 * s]?).elim _ _
      rw [zB_sc hs, zi_n (show i < 2147483648 by omega), s4 i (by omega)]
      refine ⟨zi_in (show i < 40 by omega) (by omega), _, _, c_ownerOf hT (by omega), fun e => ?_, fun e => ⟨?_, rfl⟩⟩
      · show zX _ _ _ _ _ _ (fun x y => x = some (.int (bif (!decide (yuC U s i = zOwn (yvN V) (yvM V) (ySd V t) (yRo V t) sp i)) then _ else _)) ∧ _)
        rw [decide_eq_true e]
        exact ih
      · show _ = some (Value.int (bif (!decide (yuC U s i = zOwn (yvN V) (yvM V) (ySd V t) (yRo V t) sp i)) then _ else _))
        rw [decide_eq_false e]
        rfl
  exact zEv_o rfl (t_X11_firstOtherwise (lp (yvN V) 0 (by omega)))
theorem m_unlike {d t s : Nat} {sp : Nat → Int32} {tl : List (Nat × Nat)} {q : zR} {im : zI} {V : yV} {U : yU} (hG : yG V) (hH : yHs im U) (hM : yMs V t sp im) (hs : s < 4) : zEv (d + 3) 206 [.ref 47, .int (Int32.ofNat s)] (zMm tl q im) (some (.int (yUl V t sp (yuC U s)))) (zMm tl q im) := by
  have hn := hG.1
  have h1 : im 47 1 = Int32.ofNat (yvN V) := hM.1.2.2.1
  obtain ⟨s1, s2, s3, s4, s5, s6, s7⟩ := hH s hs
  have lp : ∀ j i, i + j = yvN V → zX (d + 2) zc_X12_unlike 2 [(0, .ref 47), (1, .int (Int32.ofNat s)), (2, .int (Int32.ofNat i))] [] (zMm tl q im) (fun x y => x = some (.int (zFst (fun i => !decide (yuC U s i = zOwn (yvN V) (yvM V) (ySd V t) (yRo V t) sp i)) i j)) ∧ y = zMm tl q im) := by
    intro j
    induction j with
    | zero =>
      intro i hi
      refine t_X12_unlike_2 ?_
      rw [h1]
      exact ⟨fun _ => ⟨rfl, rfl⟩, fun h => absurd ((zi_le (by omega) (by omega)).mpr (by omega)) h⟩
    | succ j ih =>
      intro i hi
      have ih := ih (i + 1) (by omega)
      have e1 : ((40 : Int32) * Int32.ofNat s) + Int32.ofNat i = Int32.ofNat (40 * s + i) := by rw [Int32.ofNat_add, Int32.ofNat_mul]; rfl
      refine t_X12_unlike_2 ?_
      rw [h1, e1, zi_n (show 40 * s + i < 2147483648 by omega), s7 i (by omega), zi_s]
      refine ⟨fun h => absurd ((zi_le (by omega) (by omega)).mp h) (by omega), fun _ => ⟨zi_in (by omega) (by omega), _, _, m_owner hM.1 (by omega), fun e => ?_, fun e => ⟨?_, rfl⟩⟩⟩
      · show zX _ _ _ _ _ _ (fun x y => x = some (.int (bif (!decide (yuC U s i = zOwn (yvN V) (yvM V) (ySd V t) (yRo V t) sp i)) then _ else _)) ∧ _)
        rw [decide_eq_true e]
        exact ih
      · show _ = some (Value.int (bif (!decide (yuC U s i = zOwn (yvN V) (yvM V) (ySd V t) (yRo V t) sp i)) then _ else _))
        rw [decide_eq_false e]
        rfl
  exact zEv_o rfl (t_X12_unlike (lp (yvN V) 0 (by omega)))
theorem k_judge {d : Nat} {a b : Int32} {tl : List (Nat × Nat)} {q : zR} {im : zI} {V : yV} {U : yU} (hS : yS tl q im V) (hH : yH im U) : yCall (d + 10) 94 207 [.int a, .int b] tl q im (yFr im) := by
  obtain ⟨hG, hA, hB⟩ := hS
  by_cases h0 : yXo V U a = 0
  · obtain ⟨s, hs, rfl⟩ := yXo_0 h0
    have r1 : ∀ im, yA tl q im V → yHs im U → zEv (d + 9) 119 [.ref 0, .int (Int32.ofNat s)] (zMm tl q im) (some (.int 0)) (zMm tl q im) := fun im hA hH => by
      have := c_refusalOfOwners (d := d + 5) (v := Int32.ofNat s) hA hH
      rw [h0] at this
      exact this
    have r2 : ∀ im, yB im V → yHs im U → zEv (d + 9) 205 [.ref 47, .int (Int32.ofNat s)] (zMm tl q im) (some (.int 0)) (zMm tl q im) := fun im hB hH => by
      have := m_sheetWrong (d := d + 7) (v := Int32.ofNat s) (tl := tl) (q := q) hB hH
      rw [h0] at this
      exact this
    cases h2 : bW b 11 with
    | false => exact ⟨-5, im, im, zEv_o rfl (t_X11_judge ⟨_, _, r1 im hA hH.2.1, fun _ => ⟨_, _, cT_f h2, fun e => absurd rfl e, fun _ => ⟨rfl, rfl⟩⟩, fun e => absurd rfl e⟩), zEv_o rfl (t_X12_judge ⟨_, _, r2 im hB hH.2.1, fun e => absurd rfl e, fun _ => ⟨_, _, mT_f h2, fun e => absurd rfl e, fun _ => ⟨fun _ => ⟨rfl, rfl⟩, fun e => absurd rfl e⟩⟩⟩), yFr.rf⟩
    | true =>
      obtain ⟨t, ht, rfl⟩ := bW_ex (by decide) h2
      obtain ⟨r, im1, gl, gk, hT, hF⟩ := c_top (d := d + 4) hG hA ht
      have hH1 := yH_fr hH hF.fr
      have hB1 := yB_fr hB hF.fr
      obtain ⟨im2, g1, hM, hF2⟩ := m_comesTo (d := d + 3) (tl := tl) (q := q) hG hB1 ht
      refine ⟨yUl V t (ySp V t) (yuC U s), im1, im2, zEv_o rfl (t_X11_judge ⟨_, _, r1 im hA hH.2.1, fun _ => ⟨_, _, cT_t h2, fun _ => ⟨some r, im, gl _, im1, gk, zi_in hs (by omega), ?_⟩, fun e => absurd e n10⟩, fun e => absurd rfl e⟩), zEv_o rfl (t_X12_judge ⟨_, _, r2 im1 hB1 hH1.2.1, fun e => absurd rfl e, fun _ => ⟨_, _, mT_t h2, fun _ => ⟨im2, g1, _, _, m_unlike (d := d + 6) hG (yH_fr hH1 hF2.fr).2.1 (yTm_s hM) hs, rfl, rfl⟩, fun e => absurd e n10⟩⟩), hF.fr.tr hF2.fr⟩
      rw [zi_n (show s < 2147483648 by omega), zRf_sh hs]
      exact ⟨_, _, c_firstOtherwise (d := d + 4) hG (yA_fr hA hF.fr) hH1.2.1 hT hs, rfl, rfl⟩
  · exact ⟨yXo V U a, im, im, zEv_o rfl (t_X11_judge ⟨_, _, c_refusalOfOwners (d := d + 5) hA hH.2.1, fun e => absurd e h0, fun _ => ⟨rfl, rfl⟩⟩), zEv_o rfl (t_X12_judge ⟨_, _, m_sheetWrong (d := d + 7) hB hH.2.1, fun _ => ⟨fun e => absurd e h0, fun _ => ⟨rfl, rfl⟩⟩, fun e => absurd e h0⟩), yFr.rf⟩
theorem k_when {d : Nat} {a : Int32} {tl : List (Nat × Nat)} {q : zR} {im : zI} {V : yV} {U : yU} (hS : yS tl q im V) (hH : yH im U) : yCall (d + 10) 95 208 [.int a] tl q im (yFr im) := by
  obtain ⟨hG, hA, hB⟩ := hS
  by_cases h0 : yXo V U a = 0
  · obtain ⟨s, hs, rfl⟩ := yXo_0 h0
    have r1 : ∀ im, yA tl q im V → yHs im U → zEv (d + 9) 119 [.ref 0, .int (Int32.ofNat s)] (zMm tl q im) (some (.int 0)) (zMm tl q im) := fun im hA hH => by
      have := c_refusalOfOwners (d := d + 5) (v := Int32.ofNat s) hA hH
      rw [h0] at this
      exact this
    have r2 : ∀ im, yB im V → yHs im U → zEv (d + 9) 205 [.ref 47, .int (Int32.ofNat s)] (zMm tl q im) (some (.int 0)) (zMm tl q im) := fun im hB hH => by
      have := m_sheetWrong (d := d + 7) (v := Int32.ofNat s) (tl := tl) (q := q) hB hH
      rw [h0] at this
      exact this
    have v4 := zi_in hs (show s < 2147483648 by omega)
    have lc : ∀ m t im1, t + m = 12 → yFa im im1 → ∃ im', zX (d + 9) zc_X11_when 12 [(0, .ref 0), (1, .int (Int32.ofNat s)), (2, .int 0), (3, .int (Int32.ofNat (yMk (fun t => decide (yUl V t (ySp V t) (yuC U s) = -1)) t))), (4, .int (Int32.ofNat t))] [] (zMm tl q im1) (fun x y => x = some (.int (Int32.ofNat (yMk (fun t => decide (yUl V t (ySp V t) (yuC U s) = -1)) 12))) ∧ y = zMm tl q im') ∧ yFa im im' := by
      intro m
      induction m with
      | zero =>
        intro t im1 ht hF
        have e : t = 12 := by omega
        subst e
        exact ⟨im1, t_X11_when_12 ⟨fun _ => ⟨rfl, rfl⟩, fun h => absurd (by decide) h⟩, hF⟩
      | succ m ih =>
        intro t im1 ht hF
        obtain ⟨r, im2, gl, gk, hT, hF2⟩ := c_top (d := d + 4) (t := t) hG (yA_fr hA hF.fr) (by omega)
        obtain ⟨im', h1, h2⟩ := ih (t + 1) im2 (by omega) (hF.tr hF2)
        have hs2 := yMk_s (f := fun t => decide (yUl V t (ySp V t) (yuC U s) = -1)) (t := t) (by omega)
        refine ⟨im', t_X11_when_12 ⟨fun h => absurd ((zi_le (a := 12) (by omega) (by omega)).mp h) (by omega), fun _ => ⟨some r, _, gl _, im2, gk, v4, ?_⟩⟩, h2⟩
        rw [zi_n (show s < 2147483648 by omega), zRf_sh hs, zi_s]
        refine ⟨_, _, c_firstOtherwise (d := d + 4) hG (yA_fr hA (hF.tr hF2).fr) (yH_fr hH (hF.tr hF2).fr).2.1 hT hs, fun e => ?_, fun e => ?_⟩
        · rw [← hs2, show decide (yUl V t (ySp V t) (yuC U s) = -1) = false from decide_eq_false e, show (zb false) <<< (Int32.ofNat t &&& 31) = 0 from zi_sh0 ⟨t, by omega⟩, Int32.or_zero] at h1
          exact h1
        · rw [← hs2, show decide (yUl V t (ySp V t) (yuC U s) = -1) = true from decide_eq_true e] at h1
          exact h1
    have lm : ∀ m t im0 im1, t + m = 12 → yB im0 V → yHs im0 U → yFb im0 im1 → ∃ im', zX (d + 9) zc_X12_when 12 [(0, .ref 47), (1, .int (Int32.ofNat s)), (2, .int 0), (3, .int (Int32.ofNat (yMk (fun t => decide (yUl V t (ySp V t) (yuC U s) = -1)) t))), (4, .int (Int32.ofNat t))] [] (zMm tl q im1) (fun x y => x = some (.int (Int32.ofNat (yMk (fun t => decide (yUl V t (ySp V t) (yuC U s) = -1)) 12))) ∧ y = zMm tl q im') ∧ yFb im0 im' := by
      intro m
      induction m with
      | zero =>
        intro t im0 im1 ht hB0 hH0 hF
        have e : t = 12 := by omega
        subst e
        exact ⟨im1, t_X12_when_12 ⟨fun _ => ⟨rfl, rfl⟩, fun h => absurd (by decide) h⟩, hF⟩
      | succ m ih =>
        intro t im0 im1 ht hB0 hH0 hF
        obtain ⟨im2, g1, hM, hF2⟩ := m_comesTo (d := d + 3) (t := t) (tl := tl) (q := q) hG (yB_fr hB0 hF.fr) (by omega)
        obtain ⟨im', h1, h2⟩ := ih (t + 1) im0 im2 (by omega) hB0 hH0 (hF.tr hF2)
        have hf := (hF.tr hF2).fr
        have hH2 : yHs im2 U := yHs_ag hH0 (fun k h1 h2 => hf.r (by omega) (by omega) (by omega)) (hf.r (by decide) (by decide) (by decide)) (hf.r (by decide) (by decide) (by decide)) (hf.r (by decide) (by decide) (by decide))
        have hs2 := yMk_s (f := fun t => decide (yUl V t (ySp V t) (yuC U s) = -1)) (t := t) (by omega)
        refine ⟨im', t_X12_when_12 ⟨fun h => absurd ((zi_le (a := 12) (by omega) (by omega)).mp h) (by omega), fun _ => ⟨im2, g1, _, _, m_unlike (d := d + 6) hG hH2 (yTm_s hM) hs, fun e => ?_, fun e => ?_⟩⟩, h2⟩
        · rw [← hs2, show decide (yUl V t (ySp V t) (yuC U s) = -1) = false from decide_eq_false e, show (zb false) <<< (Int32.ofNat t &&& 31) = 0 from zi_sh0 ⟨t, by omega⟩] at h1
          rw [zi_s]
          exact h1
        · rw [← hs2, show decide (yUl V t (ySp V t) (yuC U s) = -1) = true from decide_eq_true e] at h1
          rw [zi_s]
          exact h1
    obtain ⟨im1, c1, c2⟩ := lc 12 0 im (by omega) yFa.rf
    have hB1 := yB_fr hB c2.fr
    have hH1 := yH_fr hH c2.fr
    obtain ⟨im2, d1, d2⟩ := lm 12 0 im1 im1 (by omega) hB1 hH1.2.1 yFb.rf
    exact ⟨_, im1, im2, zEv_o rfl (t_X11_when ⟨_, _, r1 im hA hH.2.1, fun _ => c1, fun e => absurd rfl e⟩), zEv_o rfl (t_X12_when ⟨_, _, r2 im1 hB1 hH1.2.1, fun _ => d1, fun e => absurd rfl e⟩), c2.fr.tr d2.fr⟩
  · exact ⟨yXo V U a, im, im, zEv_o rfl (t_X11_when ⟨_, _, c_refusalOfOwners (d := d + 5) hA hH.2.1, fun e => absurd e h0, fun _ => ⟨rfl, rfl⟩⟩), zEv_o rfl (t_X12_when ⟨_, _, m_sheetWrong (d := d + 7) hB hH.2.1, fun e => absurd e h0, fun _ => ⟨rfl, rfl⟩⟩), yFr.rf⟩
def yWe1 (V : yV) (t : Nat) (C : Nat → Int32) (w : Nat) (sp : Nat → Int32) (a : Int32 × Int32) : Int32 × Int32 := if yUl V t sp C = -1 then (a.1 + 1, a.2 ||| ((1 : Int32) <<< ((sp w + 1) &&& 31))) else a
def yWe (V : yV) (t : Nat) (C : Nat → Int32) (w : Nat) : Nat → Int32 × Int32 := yAc (yWe1 V t C w) (yWq V t (yEb V)) (0, 0)
theorem k_were {d : Nat} {a b o c : Int32} {tl : List (Nat × Nat)} {q : zR} {im : zI} {V : yV} {U : yU} (hS : yS tl q im V) (hH : yH im U) : yCall (d + 10) 96 209 [.int a, .int b, .int o, .int c] tl q im (yFr im) := by
  obtain ⟨hG, hA, hB⟩ := hS
  have hn := hG.1
  have hm := hG.2.1
  by_cases h0 : yXo V U a = 0
  · obtain ⟨s, hs, rfl⟩ := yXo_0 h0
    have r1 : ∀ im, yA tl q im V → yHs im U → zEv (d + 9) 119 [.ref 0, .int (Int32.ofNat s)] (zMm tl q im) (some (.int 0)) (zMm tl q im) := fun im hA hH => by
      have := c_refusalOfOwners (d := d + 5) (v := Int32.ofNat s) hA hH
      rw [h0] at this
      exact this
    have r2 : ∀ im, yB im V → yHs im U → zEv (d + 9) 205 [.ref 47, .int (Int32.ofNat s)] (zMm tl q im) (some (.int 0)) (zMm tl q im) := fun im hB hH => by
      have := m_sheetWrong (d := d + 7) (v := Int32.ofNat s) (tl := tl) (q := q) hB hH
      rw [h0] at this
      exact this
    cases h1 : bW b 11 with
    | false => exact ⟨-5, im, im, zEv_o rfl (t_X11_were ⟨_, _, r1 im hA hH.2.1, fun _ => ⟨_, _, cT_f h1, fun _ => ⟨rfl, rfl⟩, fun e => absurd rfl e⟩, fun e => absurd rfl e⟩), zEv_o rfl (t_X12_were ⟨_, _, r2 im hB hH.2.1, fun _ => ⟨_, _, mT_f h1, fun _ => ⟨rfl, rfl⟩, fun e => absurd rfl e⟩, fun e => absurd rfl e⟩), yFr.rf⟩
    | true =>
      cases h2 : bO V o with
      | false => exact ⟨-5, im, im, zEv_o rfl (t_X11_were ⟨_, _, r1 im hA hH.2.1, fun _ => ⟨_, _, cT_t h1, fun e => absurd e n10, fun _ => ⟨_, _, cO_f hA h2, fun e => absurd rfl e, fun _ => ⟨rfl, rfl⟩⟩⟩, fun e => absurd rfl e⟩), zEv_o rfl (t_X12_were ⟨_, _, r2 im hB hH.2.1, fun _ => ⟨_, _, mT_t h1, fun e => absurd e n10, fun _ => ⟨_, _, mO_f hG hB h2, fun e => absurd rfl e, fun _ => ⟨rfl, rfl⟩⟩⟩, fun e => absurd rfl e⟩), yFr.rf⟩
      | true =>
        cases h3 : bW c 1 with
        | false => exact ⟨-7, im, im, zEv_o rfl (t_X11_were ⟨_, _, r1 im hA hH.2.1, fun _ => ⟨_, _, cT_t h1, fun e => absurd e n10, fun _ => ⟨_, _, cO_t hA h2, fun _ => ⟨_, _, cW_f h3, fun e => absurd rfl e, fun _ => ⟨rfl, rfl⟩⟩, fun e => absurd e n10⟩⟩, fun e => absurd rfl e⟩), zEv_o rfl (t_X12_were ⟨_, _, r2 im hB hH.2.1, fun _ => ⟨_, _, mT_t h1, fun e => absurd e n10, fun _ => ⟨_, _, mO_t hG hB h2, fun _ => ⟨_, _, mW_f h3, fun e => absurd rfl e, fun _ => ⟨rfl, rfl⟩⟩, fun e => absurd e n10⟩⟩, fun e => absurd rfl e⟩), yFr.rf⟩
        | true =>
          obtain ⟨t, ht, rfl⟩ := bW_ex (by decide) h1
          obtain ⟨w, hw, rfl⟩ := bO_ex hG h2
          have v4 := zi_in hs (show s < 2147483648 by omega)
          have w4 := zi_in (show w < 4 by omega) (show w < 2147483648 by omega)
          have hW : yWm V (yEb V) ≤ 2401 := yWn_lt hn hm
          have hpos : 0 < yWm V (yEb V) := yWn_pos _
          have hv := ySp_vl hG ht
          have hst : ∀ k, yWe V t (yuC U s) w (k + 1) = if yUl V t (yWq V t (yEb V) k) (yuC U s) = -1 then ((yWe V t (yuC U s) w k).1 + 1, (yWe V t (yuC U s) w k).2 ||| ((1 : Int32) <<< ((yWq V t (yEb V) k w + 1) &&& 31))) else yWe V t (yuC U s) w k := fun _ => rfl
          have lc : ∀ j k im1, k + j = yWm V (yEb V) → yFa im im1 → yTs V (yvR V) t (yWq V t (yEb V) k) im1 →
              ∃ im', zX (d + 9) zc_X11_were 42 [(0, .ref 0), (1, .int (Int32.ofNat s)), (2, .int (Int32.ofNat t)), (3, .int (Int32.ofNat w)), (4, .int c), (5, .int 0), (6, .int (yEb V)), (7, .int (yWe V t (yuC U s) w k).1), (8, .int (yWe V t (yuC U s) w k).2), (9, .int (Int32.ofNat (yWm V (yEb V)))), (10, .int (Int32.ofNat k))] [] (zMm tl q im1) (fun x y => x = some (.int (if c = 0 then (yWe V t (yuC U s) w (yWm V (yEb V))).1 else (yWe V t (yuC U s) w (yWm V (yEb V))).2)) ∧ y = zMm tl q im') ∧ yFa im im' := by
            intro j
            induction j with
            | zero =>
              intro k im1 hk hF hT
              have e : k = yWm V (yEb V) := by omega
              subst e
              refine ⟨im1, t_X11_were_42 ⟨fun _ => ⟨fun e => ⟨?_, rfl⟩, fun e => ⟨?_, rfl⟩⟩, fun h => absurd ((zi_le (by omega) (by omega)).mpr (Nat.le_refl _)) h⟩, hF⟩
              · rw [if_neg e]
              · rw [if_pos e]
            | succ j ih =>
              intro k im1 hk hF hT
              obtain ⟨im2, g1, g2, g3, g4⟩ := c_nextTs (d := d + 4) (tl := tl) (q := q) (set := yEb V) hT
              obtain ⟨im', h1, h2⟩ := ih (k + 1) im2 (by omega) (hF.tr g3) g2
              rw [hst k] at h1
              have e25 : im1 25 w = yWq V t (yEb V) k w := hT.1.2.2.2.2.2.2.2 w hw
              refine ⟨im', t_X11_were_42 ⟨fun h => absurd ((zi_le (by omega) (by omega)).mp h) (by omega), fun _ => ⟨v4, ?_⟩⟩, h2⟩
              rw [zi_n (show s < 2147483648 by omega), zRf_sh hs, zi_s (a := k), zi_n (show w < 2147483648 by omega)]
              refine ⟨_, _, c_firstOtherwise (d := d + 4) hG (yA_fr hA hF.fr) (yH_fr hH hF.fr).2.1 hT hs, fun e => ⟨im2, g1, ?_⟩, fun e => ⟨w4, im2, g1, ?_⟩⟩
              · rw [if_neg e] at h1; exact h1
              · rw [if_pos e] at h1; rw [e25]; exact h1
          have lm : ∀ j k im0 im1, k + j = yWm V (yEb V) → yB im0 V → yH im0 U → yFb im0 im1 → yMs V t (yWq V t (yEb V) k) im1 →
              ∃ im', zX (d + 9) zc_X12_were 37 [(0, .ref 47), (1, .int (Int32.ofNat s)), (2, .int (Int32.ofNat t)), (3, .int (Int32.ofNat w)), (4, .int c), (5, .int 0), (6, .int (yWe V t (yuC U s) w k).1), (7, .int (yWe V t (yuC U s) w k).2), (8, .int (zb (decide (k < yWm V (yEb V)))))] [] (zMm tl q im1) (fun x y => x = some (.int (if c = 0 then (yWe V t (yuC U s) w (yWm V (yEb V))).1 else (yWe V t (yuC U s) w (yWm V (yEb V))).2)) ∧ y = zMm tl q im') ∧ yFb im0 im' := by
            intro j
            induction j with
            | zero =>
              intro k im0 im1 hk hB0 hH0 hF hM
              have e : k = yWm V (yEb V) := by omega
              subst e
              refine ⟨im1, t_X12_were_37 ⟨fun _ => ⟨fun e => ⟨?_, rfl⟩, fun e => ⟨?_, rfl⟩⟩, fun h => absurd (by rw [decide_eq_false (by omega)]; rfl) h⟩, hF⟩
              · rw [if_neg e]
              · rw [if_pos e]
            | succ j ih =>
              intro k im0 im1 hk hB0 hH0 hF hM
              have hkW : k < yWm V (yEb V) := by omega
              have hB1 := yB_fr hB0 hF.fr
              obtain ⟨im3, g3, g4, g5⟩ := m_nextMs (d := d + 8) (tl := tl) (q := q) (set := yEb V) hM
              obtain ⟨im', h1, h2⟩ := ih (k + 1) im0 im3 (by omega) hB0 hH0 (hF.tr g5) g4
              have hnf : yNf (yEb V) (yvN V) (yvM V) (yWq V t (yEb V) k) = decide (k + 1 < yWm V (yEb V)) := yWk_nf hn hv hkW
              rw [hnf] at g3
              rw [hst k] at h1
              have e69 : im1 69 w = yWq V t (yEb V) k w := hM.1.2.2.2.2.2.2.2.1 w hw
              refine ⟨im', t_X12_were_37 ⟨fun h => ?_, fun _ => ⟨_, _, m_unlike (d := d + 6) hG (yH_fr hH0 hF.fr).2.1 hM hs, fun e => ⟨_, _, mE hB1, _, _, g3, ?_⟩, fun e => ⟨w4, _, _, mE hB1, _, _, g3, ?_⟩⟩⟩, h2⟩
              · rw [decide_eq_true hkW] at h
                exact absurd h n10
              · rw [if_neg e] at h1; exact h1
              · rw [if_pos e] at h1; rw [zi_n (show w < 2147483648 by omega), e69]; exact h1
          obtain ⟨r, ia, gl, gk, hT, hF⟩ := c_top (d := d + 4) hG hA ht
          have hAa := yA_fr hA hF.fr
          obtain ⟨ib, b1, b2, b3, b4⟩ := c_firstTs (d := d + 4) (tl := tl) (q := q) (set := yEb V) (k := yvR V) (t := t) (s := ySp V t) hT
          obtain ⟨im1, c1, c2⟩ := lc (yWm V (yEb V)) 0 ib (by omega) (hF.tr b3) b2
          have hB1 := yB_fr hB c2.fr
          have hH1 := yH_fr hH c2.fr
          obtain ⟨ic, e1, e2, e3⟩ := m_comesTo (d := d + 3) (tl := tl) (q := q) hG hB1 ht
          have hBc := yB_fr hB1 e3.fr
          obtain ⟨ie, f1, f2, f3⟩ := m_beginMs (d := d + 8) (tl := tl) (q := q) (set := yEb V) (yTm_s e2)
          obtain ⟨im2, d1, d2⟩ := lm (yWm V (yEb V)) 0 im1 ie (by omega) hB1 hH1 (e3.tr f3) f2
          rw [decide_eq_true hpos] at d1
          exact ⟨_, im1, im2, zEv_o rfl (t_X11_were ⟨_, _, r1 im hA hH.2.1, fun _ => ⟨_, _, cT_t h1, fun e => absurd e n10, fun _ => ⟨_, _, cO_t hA h2, fun _ => ⟨_, _, cW_t h3, fun _ => ⟨some r, im, gl _, ia, gk, _, _, cE hAa, _, _, b1, c1⟩, fun e => absurd e n10⟩, fun e => absurd e n10⟩⟩, fun e => absurd rfl e⟩), zEv_o rfl (t_X12_were ⟨_, _, r2 im1 hB1 hH1.2.1, fun _ => ⟨_, _, mT_t h1, fun e => absurd e n10, fun _ => ⟨_, _, mO_t hG hB1 h2, fun _ => ⟨_, _, mW_t h3, fun _ => ⟨ic, e1, _, _, mE hBc, ie, f1, d1⟩, fun e => absurd e n10⟩, fun e => absurd e n10⟩⟩, fun e => absurd rfl e⟩), c2.fr.tr d2.fr⟩
  · exact ⟨yXo V U a, im, im, zEv_o rfl (t_X11_were ⟨_, _, c_refusalOfOwners (d := d + 5) hA hH.2.1, fun e => absurd e h0, fun _ => ⟨rfl, rfl⟩⟩), zEv_o rfl (t_X12_were ⟨_, _, m_sheetWrong (d := d + 7) hB hH.2.1, fun e => absurd e h0, fun _ => ⟨rfl, rfl⟩⟩), yFr.rf⟩
