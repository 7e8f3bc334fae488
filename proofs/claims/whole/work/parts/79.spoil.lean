/-! CALLS: spoil, ransom, dear, holds -/
theorem zSet_2 {α : Type} {s : Nat → α} {p : Nat} {a b : α} : zSet (zSet s p a) p b = zSet s p b := by
  funext q
  unfold zSet
  by_cases e : q = p
  · rw [if_pos e, if_pos e]
  · rw [if_neg e, if_neg e, if_neg e]
theorem c_putTs {d k t p : Nat} {tl : List (Nat × Nat)} {q : zR} {im : zI} {V : yV} {s : Nat → Int32} {x : Int32} (h : yTs V k t s im) (hp : p < yvM V) :
    ∃ im', zEv (d + 4) 48 [.ref 21, .int (Int32.ofNat p), .int x] (zMm tl q im) none (zMm tl q im') ∧ yTs V k t (zSet s p x) im' ∧ yFa im im' := by
  obtain ⟨im', g1, g2, g3⟩ := c_put (d := d) (tl := tl) (q := q) (x := x) h hp
  exact ⟨im', g1, g2, yFa.of2 25 32 (by decide) (by decide) g3⟩
/-- the gains of all others, were one there -/
def yGo (V : yV) (t p : Nat) (x : Int32) : Int32 := zGo (yvN V) (yvM V) (yWo V (yvR V) t) (ySd V t) (yRo V t) (zSet (ySp V t) p x) p
theorem yGo_ge {V : yV} {t p : Nat} {x : Int32} (hG : yG V) : ¬ yGo V t p x < 0 := by
  have hn := hG.1
  have hm := hG.2.1
  have := bd_sum (f := fun q => if q = p then 0 else zGa (yvN V) (yvM V) (yWo V (yvR V) t) (ySd V t) (yRo V t) (zSet (ySp V t) p x) q (zSet (ySp V t) p x q)) (l := 0) (h := 59994) (n := yvM V) (by omega) (by omega) (by omega) (by omega) (by omega) (fun i _ => by
    show bd 0 59994 (if _ then _ else _)
    by_cases e : i = p
    · rw [if_pos e]; exact bd_0 (by decide)
    · rw [if_neg e]; exact zGa_bd hn)
  have h2 : bd (yvM V * 0) (yvM V * 59994) (yGo V t p x) := this
  unfold bd at h2
  have h3 : (0 : Int32).toInt = 0 := by decide
  rw [Int32.lt_iff_toInt_lt, h3]
  omega
def ySl (V : yV) (t p : Nat) : Nat → Int32 × Int32
  | 0 => (-1, yGo V t p (-1))
  | i + 1 => if (ySl V t p i).2 ≤ yGo V t p (Int32.ofNat i) then ySl V t p i else (Int32.ofNat i, yGo V t p (Int32.ofNat i))
theorem ySl_ge {V : yV} {t p : Nat} (hG : yG V) : ∀ i, ¬ (ySl V t p i).2 < 0
  | 0 => yGo_ge hG
  | i + 1 => by
    have e : ySl V t p (i + 1) = if (ySl V t p i).2 ≤ yGo V t p (Int32.ofNat i) then ySl V t p i else (Int32.ofNat i, yGo V t p (Int32.ofNat i)) := rfl
    rw [e]
    by_cases h : (ySl V t p i).2 ≤ yGo V t p (Int32.ofNat i)
    · rw [if_pos h]; exact ySl_ge hG i
    · rw [if_neg h]; exact yGo_ge hG
theorem k_spoil {d : Nat} {a b c : Int32} {tl : List (Nat × Nat)} {q : zR} {im : zI} {V : yV} (hS : yS tl q im V) : yCall (d + 10) 88 196 [.int a, .int b, .int c] tl q im (yFr im) := by
  obtain ⟨hG, hA, hB⟩ := hS
  have hn := hG.1
  have hm := hG.2.1
  cases h1 : bO V a with
  | false => exact ⟨-5, im, im, zEv_o rfl (t_X11_spoil ⟨_, _, cO_f hA h1, fun _ => ⟨rfl, rfl⟩, fun e => absurd rfl e⟩), zEv_o rfl (t_X12_spoil ⟨_, _, mO_f hG hB h1, fun _ => ⟨rfl, rfl⟩, fun e => absurd rfl e⟩), yFr.rf⟩
  | true =>
    cases h2 : bW b 11 with
    | false => exact ⟨-5, im, im, zEv_o rfl (t_X11_spoil ⟨_, _, cO_t hA h1, fun e => absurd e n10, fun _ => ⟨_, _, cT_f h2, fun e => absurd rfl e, fun _ => ⟨rfl, rfl⟩⟩⟩), zEv_o rfl (t_X12_spoil ⟨_, _, mO_t hG hB h1, fun e => absurd e n10, fun _ => ⟨_, _, mT_f h2, fun e => absurd rfl e, fun _ => ⟨rfl, rfl⟩⟩⟩), yFr.rf⟩
    | true =>
      cases h3 : bW c 1 with
      | false => exact ⟨-7, im, im, zEv_o rfl (t_X11_spoil ⟨_, _, cO_t hA h1, fun e => absurd e n10, fun _ => ⟨_, _, cT_t h2, fun _ => ⟨_, _, cW_f h3, fun e => absurd rfl e, fun _ => ⟨rfl, rfl⟩⟩, fun e => absurd e n10⟩⟩), zEv_o rfl (t_X12_spoil ⟨_, _, mO_t hG hB h1, fun e => absurd e n10, fun _ => ⟨_, _, mT_t h2, fun _ => ⟨_, _, mW_f h3, fun e => absurd rfl e, fun _ => ⟨rfl, rfl⟩⟩, fun e => absurd e n10⟩⟩), yFr.rf⟩
      | true =>
        obtain ⟨p, hp, rfl⟩ := bO_ex hG h1
        obtain ⟨t, ht, rfl⟩ := bW_ex (by decide) h2
        have v4 := zi_in (show p < 4 by omega) (show p < 2147483648 by omega)
        have hst : ∀ i, ySl V t p (i + 1) = if (ySl V t p i).2 ≤ yGo V t p (Int32.ofNat i) then ySl V t p i else (Int32.ofNat i, yGo V t p (Int32.ofNat i)) := fun _ => rfl
        have lc : ∀ j i im1 x, i + j = yvN V → yFa im im1 → yTs V (yvR V) t (zSet (ySp V t) p x) im1 →
            ∃ im', zX (d + 9) zc_X11_spoil 34 [(0, .ref 0), (1, .int (Int32.ofNat p)), (2, .int (Int32.ofNat t)), (3, .int c), (4, .int (ySl V t p i).1), (5, .int (ySl V t p i).2), (6, .int (Int32.ofNat i))] [] (zMm tl q im1) (fun x y => x = some (.int (if c = 0 then (ySl V t p (yvN V)).1 else (ySl V t p (yvN V)).2)) ∧ y = zMm tl q im') ∧ yFa im im' := by
          intro j
          induction j with
          | zero =>
            intro i im1 x hi hF hT
            have e : i = yvN V := by omega
            subst e
            refine ⟨im1, t_X11_spoil_34 ?_, hF⟩
            rw [(yA_fr hA hF.fr).1]
            refine ⟨fun _ => ⟨fun e => ⟨?_, rfl⟩, fun e => ⟨?_, rfl⟩⟩, fun h => absurd ((zi_le (by omega) (by omega)).mpr (Nat.le_refl _)) h⟩
            · rw [if_neg e]
            · rw [if_pos e]
          | succ j ih =>
            intro i im1 x hi hF hT
            obtain ⟨im2, g1, g2, g3⟩ := c_putTs (d := d + 5) (tl := tl) (q := q) (x := Int32.ofNat i) hT hp
            rw [zSet_2] at g2
            obtain ⟨im', h1, h2⟩ := ih (i + 1) im2 (Int32.ofNat i) (by omega) (hF.tr g3) g2
            rw [hst i] at h1
            have hgo : zEv (d + 9) 52 [.ref 21, .int (Int32.ofNat p)] (zMm tl q im2) (some (.int (yGo V t p (Int32.ofNat i)))) (zMm tl q im2) := c_gainOfOthers (d := d + 3) g2 hp
            refine ⟨im', t_X11_spoil_34 ?_, h2⟩
            rw [(yA_fr hA hF.fr).1, zi_s (a := i)]
            refine ⟨fun h => absurd ((zi_le (by omega) (by omega)).mp h) (by omega), fun _ => ⟨im2, g1, _, _, hgo, fun e => ?_, fun e => ?_⟩⟩
            · rw [if_pos e] at h1; exact h1
            · rw [if_neg e] at h1; exact h1
        have lm : ∀ j i im0 im1 x, i + j = yvN V → yB im0 V → yFb im0 im1 → yMs V t (zSet (ySp V t) p x) im1 →
            ∃ im', zX (d + 9) zc_X12_spoil 25 [(0, .ref 47), (1, .int (Int32.ofNat p)), (2, .int (Int32.ofNat t)), (3, .int c), (4, .int (ySl V t p i).1), (5, .int (ySl V t p i).2), (6, .int (Int32.ofNat i))] [] (zMm tl q im1) (fun x y => x = some (.int (if c = 0 then (ySl V t p (yvN V)).1 else (ySl V t p (yvN V)).2)) ∧ y = zMm tl q im') ∧ yFb im0 im' := by
          intro j
          induction j with
          | zero =>
            intro i im0 im1 x hi hB0 hF hM
            have e : i = yvN V := by omega
            subst e
            refine ⟨im1, t_X12_spoil_25 ?_, hF⟩
            rw [(yB_fr hB0 hF.fr).1]
            refine ⟨fun _ => ⟨fun e => ⟨?_, rfl⟩, fun e => ⟨?_, rfl⟩⟩, fun h => absurd ((zi_le (by omega) (by omega)).mpr (Nat.le_refl _)) h⟩
            · rw [if_neg e]
            · rw [if_pos e]
          | succ j ih =>
            intro i im0 im1 x hi hB0 hF hM
            have hM2 := yMs_put (p := p) (x := Int32.ofNat i) hM (.inr ⟨i, by omega, rfl⟩)
            rw [zSet_2] at hM2
            obtain ⟨im', h1, h2⟩ := ih (i + 1) im0 (up2 im1 69 p (Int32.ofNat i)) (Int32.ofNat i) (by omega) hB0 (hF.tr (yFb.up (by decide))) hM2
            rw [hst i] at h1
            have hgo : zEv (d + 9) 195 [.ref 47, .int (Int32.ofNat p)] (zMm tl q (up2 im1 69 p (Int32.ofNat i))) (some (.int (yGo V t p (Int32.ofNat i)))) (zMm tl q (up2 im1 69 p (Int32.ofNat i))) := m_gainOfOthers (d := d + 5) hM2 hp
            have hge := ySl_ge (t := t) (p := p) hG i
            refine ⟨im', t_X12_spoil_25 ?_, h2⟩
            rw [(yB_fr hB0 hF.fr).1, zi_s (a := i), zi_n (show p < 2147483648 by omega)]
            refine ⟨fun h => absurd ((zi_le (by omega) (by omega)).mp h) (by omega), fun _ => ⟨v4, _, _, hgo, fun e => absurd e hge, fun _ => ⟨fun e => ⟨fun e2 => absurd e2 hge, fun _ => ⟨fun _ => ?_, fun e2 => absurd e e2⟩⟩, fun e => ⟨fun e2 => absurd e2 hge, fun _ => ⟨fun e2 => absurd e2 e, fun _ => ?_⟩⟩⟩⟩⟩
            · rw [if_pos e] at h1; exact h1
            · rw [if_neg e] at h1; exact h1
        obtain ⟨r, ia, gl, gk, hT, hF⟩ := c_top (d := d + 4) hG hA ht
        obtain ⟨ib, b1, b2, b3⟩ := c_putTs (d := d + 5) (tl := tl) (q := q) (x := -1) (k := yvR V) (t := t) (s := ySp V t) hT hp
        have hgo : zEv (d + 9) 52 [.ref 21, .int (Int32.ofNat p)] (zMm tl q ib) (some (.int (yGo V t p (-1)))) (zMm tl q ib) := c_gainOfOthers (d := d + 3) b2 hp
        obtain ⟨im1, c1, c2⟩ := lc (yvN V) 0 ib (-1) (by omega) (hF.tr b3) b2
        have hB1 := yB_fr hB c2.fr
        obtain ⟨ic, e1, e2, e3⟩ := m_comesTo (d := d + 3) (tl := tl) (q := q) hG hB1 ht
        have hM0 := yMs_put (p := p) (x := -1) (yTm_s e2) (.inl rfl)
        have hgm : zEv (d + 9) 195 [.ref 47, .int (Int32.ofNat p)] (zMm tl q (up2 ic 69 p (-1))) (some (.int (yGo V t p (-1)))) (zMm tl q (up2 ic 69 p (-1))) := m_gainOfOthers (d := d + 5) hM0 hp
        obtain ⟨im2, d1, d2⟩ := lm (yvN V) 0 im1 (up2 ic 69 p (-1)) (-1) (by omega) hB1 (e3.tr (yFb.up (by decide))) hM0
        have first : zX (d + 9) zc_X12_spoil 25 [(0, .ref 47), (1, .int (Int32.ofNat p)), (2, .int (Int32.ofNat t)), (3, .int c), (4, .int (-1)), (5, .int (-1)), (6, .int (-1))] [] (zMm tl q ic) (fun x y => x = some (.int (if c = 0 then (ySl V t p (yvN V)).1 else (ySl V t p (yvN V)).2)) ∧ y = zMm tl q im2) := by
          refine t_X12_spoil_25 ?_
          rw [(yB_fr hB1 e3.fr).1, zi_n (show p < 2147483648 by omega)]
          refine ⟨fun h => absurd (Int32.lt_of_lt_of_le (show (-1 : Int32) < 0 by decide) (zi_ge0 (show yvN V < 2147483648 by omega))) (Int32.not_lt.mpr h), fun _ => ⟨v4, _, _, hgm, fun _ => ⟨fun _ => d1, fun e => absurd (by decide) e⟩, fun e => absurd (by decide) e⟩⟩
        exact ⟨_, im1, im2, zEv_o rfl (t_X11_spoil ⟨_, _, cO_t hA h1, fun e => absurd e n10, fun _ => ⟨_, _, cT_t h2, fun _ => ⟨_, _, cW_t h3, fun _ => ⟨some r, im, gl _, ia, gk, ib, b1, _, _, hgo, c1⟩, fun e => absurd e n10⟩, fun e => absurd e n10⟩⟩), zEv_o rfl (t_X12_spoil ⟨_, _, mO_t hG hB1 h1, fun e => absurd e n10, fun _ => ⟨_, _, mT_t h2, fun _ => ⟨_, _, mW_t h3, fun _ => ⟨ic, e1, first⟩, fun e => absurd e n10⟩, fun e => absurd e n10⟩⟩), c2.fr.tr d2.fr⟩
theorem k_ransom {d : Nat} {a o b : Int32} {tl : List (Nat × Nat)} {q : zR} {im : zI} {V : yV} (hS : yS tl q im V) : yCall (d + 10) 89 197 [.int a, .int o, .int b] tl q im (yFr im) := by
  obtain ⟨hG, hA, hB⟩ := hS
  have hm := hG.2.1
  cases h1 : bO V a with
  | false => exact ⟨-5, im, im, zEv_o rfl (t_X11_ransom ⟨_, _, cO_f hA h1, fun _ => ⟨rfl, rfl⟩, fun e => absurd rfl e⟩), zEv_o rfl (t_X12_ransom ⟨_, _, mO_f hG hB h1, fun _ => ⟨rfl, rfl⟩, fun e => absurd rfl e⟩), yFr.rf⟩
  | true =>
    cases h2 : bO V o with
    | false => exact ⟨-5, im, im, zEv_o rfl (t_X11_ransom ⟨_, _, cO_t hA h1, fun e => absurd e n10, fun _ => ⟨_, _, cO_f hA h2, fun _ => ⟨rfl, rfl⟩, fun e => absurd rfl e⟩⟩), zEv_o rfl (t_X12_ransom ⟨_, _, mO_t hG hB h1, fun e => absurd e n10, fun _ => ⟨_, _, mO_f hG hB h2, fun _ => ⟨rfl, rfl⟩, fun e => absurd rfl e⟩⟩), yFr.rf⟩
    | true =>
      by_cases h3 : a = o
      · exact ⟨-5, im, im, zEv_o rfl (t_X11_ransom ⟨_, _, cO_t hA h1, fun e => absurd e n10, fun _ => ⟨_, _, cO_t hA h2, fun e => absurd e n10, fun _ => ⟨fun _ => ⟨rfl, rfl⟩, fun e => absurd h3 e⟩⟩⟩), zEv_o rfl (t_X12_ransom ⟨_, _, mO_t hG hB h1, fun e => absurd e n10, fun _ => ⟨_, _, mO_t hG hB h2, fun e => absurd e n10, fun _ => ⟨fun _ => ⟨rfl, rfl⟩, fun e => absurd h3 e⟩⟩⟩), yFr.rf⟩
      · cases h4 : bW b 11 with
        | false => exact ⟨-5, im, im, zEv_o rfl (t_X11_ransom ⟨_, _, cO_t hA h1, fun e => absurd e n10, fun _ => ⟨_, _, cO_t hA h2, fun e => absurd e n10, fun _ => ⟨fun e => absurd e h3, fun _ => ⟨_, _, cT_f h4, fun e => absurd rfl e, fun _ => ⟨rfl, rfl⟩⟩⟩⟩⟩), zEv_o rfl (t_X12_ransom ⟨_, _, mO_t hG hB h1, fun e => absurd e n10, fun _ => ⟨_, _, mO_t hG hB h2, fun e => absurd e n10, fun _ => ⟨fun e => absurd e h3, fun _ => ⟨_, _, mT_f h4, fun e => absurd rfl e, fun _ => ⟨rfl, rfl⟩⟩⟩⟩⟩), yFr.rf⟩
        | true =>
          obtain ⟨p, hp, rfl⟩ := bO_ex hG h1
          obtain ⟨o, ho, rfl⟩ := bO_ex hG h2
          obtain ⟨t, ht, rfl⟩ := bW_ex (by decide) h4
          obtain ⟨r, ia, gl, gk, hT, hF⟩ := c_top (d := d + 4) hG hA ht
          obtain ⟨ib, b1, b2, b3⟩ := c_putTs (d := d + 5) (tl := tl) (q := q) (x := -1) (k := yvR V) (t := t) (s := ySp V t) hT ho
          have hB1 := yB_fr hB (hF.tr b3).fr
          obtain ⟨ic, e1, e2, e3⟩ := m_comesTo (d := d + 3) (tl := tl) (q := q) hG hB1 ht
          have hM0 := yMs_put (p := o) (x := -1) (yTm_s e2) (.inl rfl)
          refine ⟨_, ib, up2 ic 69 o (-1), zEv_o rfl (t_X11_ransom ⟨_, _, cO_t hA h1, fun e => absurd e n10, fun _ => ⟨_, _, cO_t hA h2, fun e => absurd e n10, fun _ => ⟨fun e => absurd e h3, fun _ => ⟨_, _, cT_t h4, fun _ => ⟨some r, im, gl _, ia, gk, _, _, c_gainOf (d := d + 4) hT hp, ib, b1, _, _, c_gainOf (d := d + 4) b2 hp, rfl, rfl⟩, fun e => absurd e n10⟩⟩⟩⟩), zEv_o rfl (t_X12_ransom ⟨_, _, mO_t hG hB1 h1, fun e => absurd e n10, fun _ => ⟨_, _, mO_t hG hB1 h2, fun e => absurd e n10, fun _ => ⟨fun e => absurd e h3, fun _ => ⟨_, _, mT_t h4, fun _ => ⟨ic, e1, _, _, m_gainOf (d := d + 6) e2.1 hp, zi_in (by omega) (by omega), ?_⟩, fun e => absurd e n10⟩⟩⟩⟩), (hF.tr b3).fr.tr (e3.tr (yFb.up (by decide))).fr⟩
          rw [zi_n (show o < 2147483648 by omega)]
          exact ⟨_, _, m_gainOf (d := d + 6) hM0.1 hp, rfl, rfl⟩
theorem m_worthAt {d t : Nat} {nob : Bool} {tl : List (Nat × Nat)} {q : zR} {im : zI} {V : yV} (hG : yG V) (hB : yB im V) (ht : t < 12) :
    ∃ im', zEv (d + 7) 202 [.ref 47, .int (Int32.ofNat t), .int (zb nob)] (zMm tl q im) (some (.int (yWs (yvN V) (yvM V) (yWo V (yvR V) t) (ySd V t) (yRo V t) (ySp V t) nob))) (zMm tl q im') ∧ yFb im im' := by
  have hn := hG.1
  obtain ⟨im1, g1, g2, g3⟩ := m_comesTo (d := d) (tl := tl) (q := q) hG hB ht
  have h1 : im1 47 1 = Int32.ofNat (yvN V) := g2.1.2.2.1
  have hst : ∀ i, i < yvN V → zBt (im1 47 36) i = ySd V t i := g2.1.2.2.2.2.1
  have hw : ∀ i, i < yvN V → im1 68 i = yWo V (yvR V) t i := g2.1.2.2.2.2.2.2.1
  have lp : ∀ j i, i + j = yvN V → zX (d + 6) zc_X12_worthAt 7 [(0, .ref 47), (1, .int (Int32.ofNat t)), (2, .int (zb nob)), (3, .int (zSum i (fun i => bif ySd V t i && (!nob || decide (zOwn (yvN V) (yvM V) (ySd V t) (yRo V t) (ySp V t) i = -1)) then yWo V (yvR V) t i else 0))), (4, .int (Int32.ofNat i))] [] (zMm tl q im1) (fun x y => x = some (.int (yWs (yvN V) (yvM V) (yWo V (yvR V) t) (ySd V t) (yRo V t) (ySp V t) nob)) ∧ y = zMm tl q im1) := by
    intro j
    induction j with
    | zero =>
      intro i hi
      have e : i = yvN V := by omega
      subst e
      refine t_X12_worthAt_7 ?_
      rw [h1]
      exact ⟨fun _ => ⟨rfl, rfl⟩, fun h => absurd ((zi_le (by omega) (by omega)).mpr (Nat.le_refl _)) h⟩
    | succ j ih =>
      intro i hi
      have ih := ih (i + 1) (by omega)
      rw [show zSum (i + 1) (fun i => bif ySd V t i && (!nob || decide (zOwn (yvN V) (yvM V) (ySd V t) (yRo V t) (ySp V t) i = -1)) then yWo V (yvR V) t i else 0) = zSum i (fun i => bif ySd V t i && (!nob || decide (zOwn (yvN V) (yvM V) (ySd V t) (yRo V t) (ySp V t) i = -1)) then yWo V (yvR V) t i else 0) + (bif ySd V t i && (!nob || decide (zOwn (yvN V) (yvM V) (ySd V t) (yRo V t) (ySp V t) i = -1)) then yWo V (yvR V) t i else 0) from rfl] at ih
      have v6 := zi_in (show i < 6 by omega) (show i < 2147483648 by omega)
      refine t_X12_worthAt_7 ?_
      rw [h1, zi_s, zBt_1, hst i (by omega), zi_n (show i < 2147483648 by omega), hw i (by omega), zb_0]
      refine ⟨fun h => absurd ((zi_le (by omega) (by omega)).mp h) (by omega), fun _ => ⟨fun e => ?_, fun e => ⟨fun e2 => ⟨v6, ?_⟩, fun e2 => ⟨_, _, m_owner (d := d + 4) g2.1 (show i < yvN V by omega), fun e3 => ?_, fun e3 => ⟨v6, ?_⟩⟩⟩⟩⟩
      · rw [Bool.eq_false_iff.mpr e, Bool.false_and, cond_false] at ih
        exact ih
      · rw [e, e2] at ih
        rw [e2]
        exact ih
      · rw [e, Bool.not_eq_false _ |>.mp e2, decide_eq_false e3] at ih
        rw [Bool.not_eq_false _ |>.mp e2]
        exact ih
      · rw [e, Bool.not_eq_false _ |>.mp e2, decide_eq_true e3] at ih
        rw [Bool.not_eq_false _ |>.mp e2, hw i (by omega)]
        exact ih
  exact ⟨im1, zEv_o rfl (t_X12_worthAt ⟨im1, g1, lp (yvN V) 0 (by omega)⟩), g3⟩
def yWt2 (V : yV) (t : Nat) (nob : Bool) : Int32 := yWs (yvN V) (yvM V) (yWo V (yvR V) t) (ySd V t) (yRo V t) (ySp V t) nob
def yDr (V : yV) (nob : Bool) : Nat → Int32 × Int32
  | 0 => (0, -1)
  | t + 1 => if yWt2 V t nob ≤ (yDr V nob t).2 then yDr V nob t else (Int32.ofNat t, yWt2 V t nob)
theorem k_dear {d : Nat} {c : Int32} {tl : List (Nat × Nat)} {q : zR} {im : zI} {V : yV} (hS : yS tl q im V) : yCall (d + 10) 92 203 [.int c] tl q im (yFr im) := by
  obtain ⟨hG, hA, hB⟩ := hS
  cases h1 : bW c 3 with
  | false => exact ⟨-2, im, im, zEv_o rfl (t_X11_dear ⟨_, _, cW_f h1, fun e => absurd rfl e, fun _ => ⟨rfl, rfl⟩⟩), zEv_o rfl (t_X12_dear ⟨_, _, mW_f h1, fun e => absurd rfl e, fun _ => ⟨rfl, rfl⟩⟩), yFr.rf⟩
  | true =>
    obtain ⟨e0, he0, rfl⟩ := bW_ex (by decide) h1
    have hlt : Int32.ofNat e0 < (2 : Int32) ↔ e0 < 2 := zi_lt (b := 2) (by omega) (by omega)
    have hle : Int32.ofNat e0 ≤ (1 : Int32) ↔ e0 < 2 := (zi_le (b := 1) (by omega) (by omega)).trans (by omega)
    obtain ⟨nob, hnob⟩ : ∃ nob, (e0 < 2 ∧ nob = false) ∨ (¬ e0 < 2 ∧ nob = true) := by
      by_cases e : e0 < 2
      · exact ⟨false, .inl ⟨e, rfl⟩⟩
      · exact ⟨true, .inr ⟨e, rfl⟩⟩
    have hst : ∀ t, yDr V nob (t + 1) = if yWt2 V t nob ≤ (yDr V nob t).2 then yDr V nob t else (Int32.ofNat t, yWt2 V t nob) := fun _ => rfl
    have lc : ∀ m t im1, t + m = 12 → yFa im im1 → ∃ im', zX (d + 9) zc_X11_dear 12 [(0, .ref 0), (1, .int (Int32.ofNat e0)), (2, .int (yDr V nob t).1), (3, .int (yDr V nob t).2), (4, .int (Int32.ofNat t))] [] (zMm tl q im1) (fun x y => x = some (.int (if (Int32.ofNat e0 - Int32.ofNat e0 / (2 : Int32) * (2 : Int32)) = 0 then (yDr V nob 12).1 else (yDr V nob 12).2)) ∧ y = zMm tl q im') ∧ yFa im im' := by
      intro m
      induction m with
      | zero =>
        intro t im1 ht hF
        have e : t = 12 := by omega
        subst e
        refine ⟨im1, t_X11_dear_12 ⟨fun _ => ⟨fun e => ⟨?_, rfl⟩, fun e => ⟨?_, rfl⟩⟩, fun h => absurd (by decide) h⟩, hF⟩
        · rw [if_neg e]
        · rw [if_pos e]
      | succ m ih =>
        intro t im1 ht hF
        obtain ⟨r, im2, gl, gk, hT, hF2⟩ := c_top (d := d + 4) (t := t) hG (yA_fr hA hF.fr) (by omega)
        obtain ⟨im', h1, h2⟩ := ih (t + 1) im2 (by omega) (hF.tr hF2)
        have hw : zEv (d + 9) 57 [.ref 21, .int (zb nob)] (zMm tl q im2) (some (.int (yWt2 V t nob))) (zMm tl q im2) := c_worthOfStanding (d := d + 4) hT
        rw [hst t] at h1
        refine ⟨im', t_X11_dear_12 ?_, h2⟩
        rw [hlt, zi_s]
        refine ⟨fun h => absurd ((zi_le (a := 12) (by omega) (by omega)).mp h) (by omega), fun _ => ⟨some r, _, gl _, im2, gk, ?_⟩⟩
        rcases hnob with ⟨e, rfl⟩ | ⟨e, rfl⟩
        · refine ⟨fun _ => ⟨_, _, hw, fun e2 => ?_, fun e2 => ?_⟩, fun h => absurd e h⟩
          · rw [if_pos e2] at h1; exact h1
          · rw [if_neg e2] at h1; exact h1
        · refine ⟨fun h => absurd h e, fun _ => ⟨_, _, hw, fun e2 => ?_, fun e2 => ?_⟩⟩
          · rw [if_pos e2] at h1; exact h1
          · rw [if_neg e2] at h1; exact h1
    have lm : ∀ m t im0 im1, t + m = 12 → yB im0 V → yFb im0 im1 → ∃ im', zX (d + 9) zc_X12_dear 13 [(0, .ref 47), (1, .int (Int32.ofNat e0)), (2, .int (yDr V nob t).1), (3, .int (yDr V nob t).2), (4, .int (Int32.ofNat t))] [] (zMm tl q im1) (fun x y => x = some (.int (if (Int32.ofNat e0 - Int32.ofNat e0 / (2 : Int32) * (2 : Int32)) = 0 then (yDr V nob 12).1 else (yDr V nob 12).2)) ∧ y = zMm tl q im') ∧ yFb im0 im' := by
      intro m
      induction m with
      | zero =>
        intro t im0 im1 ht hB0 hF
        have e : t = 12 := by omega
        subst e
        refine ⟨im1, t_X12_dear_13 ⟨fun _ => ⟨fun e => ⟨?_, rfl⟩, fun e => ⟨?_, rfl⟩⟩, fun h => absurd (by decide) h⟩, hF⟩
        · rw [if_neg e]
        · rw [if_pos e]
      | succ m ih =>
        intro t im0 im1 ht hB0 hF
        obtain ⟨im2, g1, g2⟩ := m_worthAt (d := d + 2) (t := t) (nob := nob) (tl := tl) (q := q) hG (yB_fr hB0 hF.fr) (by omega)
        have hw : zEv (d + 9) 202 [.ref 47, .int (Int32.ofNat t), .int (zb nob)] (zMm tl q im1) (some (.int (yWt2 V t nob))) (zMm tl q im2) := g1
        obtain ⟨im', h1, h2⟩ := ih (t + 1) im0 im2 (by omega) hB0 (hF.tr g2)
        rw [hst t] at h1
        refine ⟨im', t_X12_dear_13 ?_, h2⟩
        rw [hle, zi_s]
        refine ⟨fun h => absurd ((zi_le (a := 12) (by omega) (by omega)).mp h) (by omega), fun _ => ?_⟩
        rcases hnob with ⟨e, rfl⟩ | ⟨e, rfl⟩
        · refine ⟨fun _ => ⟨_, _, hw, fun e2 => ⟨fun _ => ?_, fun e3 => absurd e2 e3⟩, fun e2 => ⟨fun e3 => absurd e3 e2, fun _ => ?_⟩⟩, fun h => absurd e h⟩
          · rw [if_pos e2] at h1; exact h1
          · rw [if_neg e2] at h1; exact h1
        · refine ⟨fun h => absurd h e, fun _ => ⟨_, _, hw, fun e2 => ⟨fun _ => ?_, fun e3 => absurd e2 e3⟩, fun e2 => ⟨fun e3 => absurd e3 e2, fun _ => ?_⟩⟩⟩
          · rw [if_pos e2] at h1; exact h1
          · rw [if_neg e2] at h1; exact h1
    obtain ⟨im1, c1, c2⟩ := lc 12 0 im (by omega) yFa.rf
    have hB1 := yB_fr hB c2.fr
    obtain ⟨im2, d1, d2⟩ := lm 12 0 im1 im1 (by omega) hB1 yFb.rf
    exact ⟨_, im1, im2, zEv_o rfl (t_X11_dear ⟨_, _, cW_t h1, fun _ => c1, fun e => absurd e n10⟩), zEv_o rfl (t_X12_dear ⟨_, _, mW_t h1, fun _ => d1, fun e => absurd e n10⟩), c2.fr.tr d2.fr⟩
theorem zi_cm {a r : Int32} : (a - r) + 1 = (a + 1) - r := by
  rw [Int32.sub_eq_add_neg, Int32.sub_eq_add_neg, Int32.add_assoc, Int32.add_comm (-r), ← Int32.add_assoc]
/-- (run, most, first) of one's holding -/
def yHo (V : yV) (p i : Nat) : Nat → Int32 × Int32 × Int32
  | 0 => (0, 0, -1)
  | t + 1 => let r := if zOwn (yvN V) (yvM V) (ySd V t) (yRo V t) (ySp V t) i = Int32.ofNat p then (yHo V p i t).1 + 1 else 0
    if r ≤ (yHo V p i t).2.1 then (r, (yHo V p i t).2) else (r, r, (Int32.ofNat t + 1) - r)
theorem k_holds {d : Nat} {a b c : Int32} {tl : List (Nat × Nat)} {q : zR} {im : zI} {V : yV} (hS : yS tl q im V) : yCall (d + 10) 93 204 [.int a, .int b, .int c] tl q im (yFr im) := by
  obtain ⟨hG, hA, hB⟩ := hS
  cases h1 : bO V a with
  | false => exact ⟨-5, im, im, zEv_o rfl (t_X11_holds ⟨_, _, cO_f hA h1, fun _ => ⟨rfl, rfl⟩, fun e => absurd rfl e⟩), zEv_o rfl (t_X12_holds_ ⟨_, _, mO_f hG hB h1, fun _ => ⟨rfl, rfl⟩, fun e => absurd rfl e⟩), yFr.rf⟩
  | true =>
    cases h2 : bI V b with
    | false => exact ⟨-5, im, im, zEv_o rfl (t_X11_holds ⟨_, _, cO_t hA h1, fun e => absurd e n10, fun _ => ⟨_, _, cI_f hA h2, fun e => absurd rfl e, fun _ => ⟨rfl, rfl⟩⟩⟩), zEv_o rfl (t_X12_holds_ ⟨_, _, mO_t hG hB h1, fun e => absurd e n10, fun _ => ⟨_, _, mI_f hG hB h2, fun e => absurd rfl e, fun _ => ⟨rfl, rfl⟩⟩⟩), yFr.rf⟩
    | true =>
      cases h3 : bW c 1 with
      | false => exact ⟨-7, im, im, zEv_o rfl (t_X11_holds ⟨_, _, cO_t hA h1, fun e => absurd e n10, fun _ => ⟨_, _, cI_t hA h2, fun _ => ⟨_, _, cW_f h3, fun e => absurd rfl e, fun _ => ⟨rfl, rfl⟩⟩, fun e => absurd e n10⟩⟩), zEv_o rfl (t_X12_holds_ ⟨_, _, mO_t hG hB h1, fun e => absurd e n10, fun _ => ⟨_, _, mI_t hG hB h2, fun _ => ⟨_, _, mW_f h3, fun e => absurd rfl e, fun _ => ⟨rfl, rfl⟩⟩, fun e => absurd e n10⟩⟩), yFr.rf⟩
      | true =>
        obtain ⟨p, hp, rfl⟩ := bO_ex hG h1
        obtain ⟨i, hi, rfl⟩ := bI_ex hG h2
        have hst : ∀ t, yHo V p i (t + 1) = if (if zOwn (yvN V) (yvM V) (ySd V t) (yRo V t) (ySp V t) i = Int32.ofNat p then (yHo V p i t).1 + 1 else 0) ≤ (yHo V p i t).2.1 then ((if zOwn (yvN V) (yvM V) (ySd V t) (yRo V t) (ySp V t) i = Int32.ofNat p then (yHo V p i t).1 + 1 else 0), (yHo V p i t).2) else ((if zOwn (yvN V) (yvM V) (ySd V t) (yRo V t) (ySp V t) i = Int32.ofNat p then (yHo V p i t).1 + 1 else 0), (if zOwn (yvN V) (yvM V) (ySd V t) (yRo V t) (ySp V t) i = Int32.ofNat p then (yHo V p i t).1 + 1 else 0), (Int32.ofNat t + 1) - (if zOwn (yvN V) (yvM V) (ySd V t) (yRo V t) (ySp V t) i = Int32.ofNat p then (yHo V p i t).1 + 1 else 0)) := fun _ => rfl
        have lc : ∀ m t im1, t + m = 12 → yFa im im1 → ∃ im', zX (d + 9) zc_X11_holds 24 [(0, .ref 0), (1, .int (Int32.ofNat p)), (2, .int (Int32.ofNat i)), (3, .int c), (4, .int (yHo V p i t).1), (5, .int (yHo V p i t).2.1), (6, .int (yHo V p i t).2.2), (7, .int (Int32.ofNat t))] [] (zMm tl q im1) (fun x y => x = some (.int (if c = 0 then (yHo V p i 12).2.1 else (yHo V p i 12).2.2)) ∧ y = zMm tl q im') ∧ yFa im im' := by
          intro m
          induction m with
          | zero =>
            intro t im1 ht hF
            have e : t = 12 := by omega
            subst e
            refine ⟨im1, t_X11_holds_24 ⟨fun _ => ⟨fun e => ⟨?_, rfl⟩, fun e => ⟨?_, rfl⟩⟩, fun h => absurd (by decide) h⟩, hF⟩
            · rw [if_neg e]
            · rw [if_pos e]
          | succ m ih =>
            intro t im1 ht hF
            obtain ⟨r, im2, gl, gk, hT, hF2⟩ := c_top (d := d + 4) (t := t) hG (yA_fr hA hF.fr) (by omega)
            obtain ⟨im', h1, h2⟩ := ih (t + 1) im2 (by omega) (hF.tr hF2)
            rw [hst t, ← zi_s] at h1
            refine ⟨im', t_X11_holds_24 ⟨fun h => absurd ((zi_le (a := 12) (by omega) (by omega)).mp h) (by omega), fun _ => ⟨some r, _, gl _, im2, gk, _, _, c_ownerOf (d := d + 5) hT hi, fun e => ⟨fun e2 => ?_, fun e2 => ?_⟩, fun e => ⟨fun e2 => ?_, fun e2 => ?_⟩⟩⟩, h2⟩
            · rw [if_neg e, if_pos e2] at h1; exact h1
            · rw [if_neg e, if_neg e2] at h1; exact h1
            · rw [if_pos e, if_pos e2] at h1; exact h1
            · rw [if_pos e, if_neg e2] at h1; exact h1
        have lm : ∀ m t im0 im1, t + m = 12 → yB im0 V → yFb im0 im1 → ∃ im', zX (d + 9) zc_X12_holds_ 25 [(0, .ref 47), (1, .int (Int32.ofNat p)), (2, .int (Int32.ofNat i)), (3, .int c), (4, .int (yHo V p i t).2.1), (5, .int (yHo V p i t).2.2), (6, .int (yHo V p i t).1), (7, .int (Int32.ofNat t))] [] (zMm tl q im1) (fun x y => x = some (.int (if c = 0 then (yHo V p i 12).2.1 else (yHo V p i 12).2.2)) ∧ y = zMm tl q im') ∧ yFb im0 im' := by
          intro m
          induction m with
          | zero =>
            intro t im0 im1 ht hB0 hF
            have e : t = 12 := by omega
            subst e
            refine ⟨im1, t_X12_holds__25 ⟨fun _ => ⟨fun e => ⟨?_, rfl⟩, fun e => ⟨?_, rfl⟩⟩, fun h => absurd (by decide) h⟩, hF⟩
            · rw [if_neg e]
            · rw [if_pos e]
          | succ m ih =>
            intro t im0 im1 ht hB0 hF
            obtain ⟨im2, g1, hM, hF2⟩ := m_comesTo (d := d + 3) (t := t) (tl := tl) (q := q) hG (yB_fr hB0 hF.fr) (by omega)
            obtain ⟨im', h1, h2⟩ := ih (t + 1) im0 im2 (by omega) hB0 (hF.tr hF2)
            rw [hst t, ← zi_s] at h1
            refine ⟨im', t_X12_holds__25 ⟨fun h => absurd ((zi_le (a := 12) (by omega) (by omega)).mp h) (by omega), fun _ => ⟨im2, g1, _, _, m_owner (d := d + 7) hM.1 hi, fun e => ⟨fun e2 => ⟨fun _ => ?_, fun e3 => absurd e2 e3⟩, fun e2 => ⟨fun e3 => absurd e3 e2, fun _ => ?_⟩⟩, fun e => ⟨fun e2 => ⟨fun _ => ?_, fun e3 => absurd e2 e3⟩, fun e2 => ⟨fun e3 => absurd e3 e2, fun _ => ?_⟩⟩⟩⟩, h2⟩
            · rw [if_neg e, if_pos e2] at h1; exact h1
            · rw [if_neg e, if_neg e2, ← zi_cm] at h1; exact h1
            · rw [if_pos e, if_pos e2] at h1; exact h1
            · rw [if_pos e, if_neg e2, ← zi_cm] at h1; exact h1
        obtain ⟨im1, c1, c2⟩ := lc 12 0 im (by omega) yFa.rf
        have hB1 := yB_fr hB c2.fr
        obtain ⟨im2, d1, d2⟩ := lm 12 0 im1 im1 (by omega) hB1 yFb.rf
        exact ⟨_, im1, im2, zEv_o rfl (t_X11_holds ⟨_, _, cO_t hA h1, fun e => absurd e n10, fun _ => ⟨_, _, cI_t hA h2, fun _ => ⟨_, _, cW_t h3, fun _ => c1, fun e => absurd e n10⟩, fun e => absurd e n10⟩⟩), zEv_o rfl (t_X12_holds_ ⟨_, _, mO_t hG hB1 h1, fun e => absurd e n10, fun _ => ⟨_, _, mI_t hG hB1 h2, fun _ => ⟨_, _, mW_t h3, fun _ => d1, fun e => absurd e n10⟩, fun e => absurd e n10⟩⟩), c2.fr.tr d2.fr⟩
