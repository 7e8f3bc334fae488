/-! A NEW ISLAND, in the class's cells -/
theorem zA_new {tl : List (Nat × Nat)} {p : Nat × Nat} : (zB ++ (tl ++ [p]) : List (Nat × Nat))[72 + tl.length]? = some p := by
  rw [← List.append_assoc, ← zB_len, List.getElem?_append_right (Nat.le_refl _), Nat.sub_self]
  rfl
theorem zA_old {tl : List (Nat × Nat)} {p s : Nat × Nat} {r : Nat} (h : (zB ++ tl)[r]? = some s) : (zB ++ (tl ++ [p]) : List (Nat × Nat))[r]? = some s := by
  have hr : r < (zB ++ tl).length := (List.getElem?_eq_some_iff.mp h).1
  rw [← List.append_assoc, List.getElem?_append_left hr]
  exact h
theorem zA_ne {tl : List (Nat × Nat)} {s : Nat × Nat} {r : Nat} (h : (zB ++ tl)[r]? = some s) : r ≠ 72 + tl.length := by
  have hr : r < (zB ++ tl).length := (List.getElem?_eq_some_iff.mp h).1
  rw [zB_len] at hr
  omega
/-- the four numbers of an island -/
def yI4 (im : zI) (r : Nat) (a b c e : Int32) : zI := up2 (up2 (up2 (up2 im r 0 a) r 1 b) r 2 c) r 3 e
theorem c_i6 {d r tg : Nat} {a b c e : Int32} {tl : List (Nat × Nat)} {q : zR} {im : zI} (hr : (zB ++ tl)[r]? = some (tg, 4)) (hs : zSub tg 3 = true) : zEv (d + 1) 6 [.ref r, .int a, .int b, .int c, .int e] (zMm tl q im) none (zMm tl q (yI4 im r a b c e)) := by
  refine zEv_o rfl (t_X3_init ?_)
  rw [hr]
  show bif zSub tg 3 then (bif zSub tg 3 then (bif zSub tg 3 then (bif zSub tg 3 then _ else _) else _) else _) else _
  rw [hs]
  exact ⟨rfl, rfl⟩
theorem c_i4 {d r tg : Nat} {a b c e : Int32} {tl : List (Nat × Nat)} {q : zR} {im : zI} (hr : (zB ++ tl)[r]? = some (tg, 4)) (hs : zSub tg 3 = true) : zEv (d + 2) 10 [.ref r, .int a, .int b, .int c, .int e] (zMm tl q im) none (zMm tl q (yI4 im r a b c e)) := by
  refine zEv_o rfl (t_X4_init ?_)
  rw [hr]
  show bif zSub tg 3 && Nat.ble 0 4 then _ else _
  rw [hs]
  exact ⟨_, c_i6 hr hs, rfl, rfl⟩
theorem c_i2 {d r tg : Nat} {a b c e : Int32} {tl : List (Nat × Nat)} {q : zR} {im : zI} (hr : (zB ++ tl)[r]? = some (tg, 4)) (hs : zSub tg 3 = true) : zEv (d + 2) 4 [.ref r, .int a, .int b, .int c, .int e] (zMm tl q im) none (zMm tl q (yI4 im r a b c e)) := by
  refine zEv_o rfl (t_X2_init ?_)
  rw [hr]
  show bif zSub tg 3 && Nat.ble 0 4 then _ else _
  rw [hs]
  exact ⟨_, c_i6 hr hs, rfl, rfl⟩
theorem c_i0 {d r tg : Nat} {a b c e : Int32} {tl : List (Nat × Nat)} {q : zR} {im : zI} (hr : (zB ++ tl)[r]? = some (tg, 4)) (hs : zSub tg 3 = true) : zEv (d + 2) 0 [.ref r, .int a, .int b, .int c, .int e] (zMm tl q im) none (zMm tl q (yI4 im r a b c e)) := by
  refine zEv_o rfl (t_X0_init ?_)
  rw [hr]
  show bif zSub tg 3 && Nat.ble 0 4 then _ else _
  rw [hs]
  exact ⟨_, c_i6 hr hs, rfl, rfl⟩
theorem c_i5 {d r : Nat} {a b c e : Int32} {tl : List (Nat × Nat)} {q : zR} {im : zI} (hr : (zB ++ tl)[r]? = some (5, 4)) : zEv (d + 3) 12 [.ref r, .int a, .int b, .int c, .int e] (zMm tl q im) none (zMm tl q (yI4 im r a b c e)) := by
  refine zEv_o rfl (t_X5_init ?_)
  rw [hr]
  exact ⟨_, c_i4 hr rfl, rfl, rfl⟩
theorem c_i10 {d r : Nat} {a b c e : Int32} {tl : List (Nat × Nat)} {q : zR} {im : zI} (hr : (zB ++ tl)[r]? = some (10, 4)) : zEv (d + 3) 62 [.ref r, .int a, .int b, .int c, .int e] (zMm tl q im) none (zMm tl q (yI4 im r a b c e)) := by
  refine zEv_o rfl (t_X10_init ?_)
  rw [hr]
  exact ⟨_, c_i2 hr rfl, rfl, rfl⟩
theorem c_newIsland {d k : Nat} {b c e : Int32} {tl : List (Nat × Nat)} {q : zR} {im : zI} (hl : tl.length < 100000) (hk : k < 6) :
    zEv (d + 4) 133 [.int (Int32.ofNat k), .int b, .int c, .int e] (zMm tl q im) (some (va_rf (some (72 + tl.length)))) (zMm (tl ++ [(yTag k, 4)]) (zero2 q (72 + tl.length) 1 none) (yI4 (zero2 im (72 + tl.length) 1 0) (72 + tl.length) (Int32.ofNat k) b c e)) := by
  refine zEv_o rfl (t_X11_newIsland ?_)
  match k, hk with
  | 0, _ =>
    refine ⟨fun h => absurd h (by decide), fun _ => ⟨fun h => absurd h (by decide), fun _ => ⟨fun h => absurd h (by decide), fun _ => ⟨fun h => absurd h (by decide), fun _ => ⟨fun h => absurd h (by decide), fun _ => ⟨hl, ?_⟩⟩⟩⟩⟩⟩
    rw [zA_new]
    exact ⟨_, c_i6 zA_new rfl, rfl, rfl⟩
  | 1, _ =>
    refine ⟨fun _ => ⟨hl, ?_⟩, fun h => absurd rfl h⟩
    rw [zA_new]
    exact ⟨_, c_i2 zA_new rfl, rfl, rfl⟩
  | 2, _ =>
    refine ⟨fun h => absurd h (by decide), fun _ => ⟨fun _ => ⟨hl, ?_⟩, fun h => absurd rfl h⟩⟩
    rw [zA_new]
    exact ⟨_, c_i4 zA_new rfl, rfl, rfl⟩
  | 3, _ =>
    refine ⟨fun h => absurd h (by decide), fun _ => ⟨fun h => absurd h (by decide), fun _ => ⟨fun _ => ⟨hl, ?_⟩, fun h => absurd rfl h⟩⟩⟩
    rw [zA_new]
    exact ⟨_, c_i10 zA_new, rfl, rfl⟩
  | 4, _ =>
    refine ⟨fun h => absurd h (by decide), fun _ => ⟨fun h => absurd h (by decide), fun _ => ⟨fun h => absurd h (by decide), fun _ => ⟨fun _ => ⟨hl, ?_⟩, fun h => absurd rfl h⟩⟩⟩⟩
    rw [zA_new]
    exact ⟨_, c_i5 zA_new, rfl, rfl⟩
  | 5, _ =>
    refine ⟨fun h => absurd h (by decide), fun _ => ⟨fun h => absurd h (by decide), fun _ => ⟨fun h => absurd h (by decide), fun _ => ⟨fun h => absurd h (by decide), fun _ => ⟨fun _ => ⟨hl, ?_⟩, fun h => absurd rfl h⟩⟩⟩⟩⟩
    rw [zA_new]
    exact ⟨_, c_i0 zA_new rfl, rfl, rfl⟩
/-- memory grew: new cells behind, rows of islands or texts told anew -/
def yGrow (tl tl' : List (Nat × Nat)) (q q' : zR) (im im' : zI) : Prop :=
  (∃ new, tl' = tl ++ new) ∧ (∀ r s, (zB ++ tl)[r]? = some s → r ≠ 15 → r ≠ 16 → q' r = q r) ∧ ∀ r s, (zB ++ tl)[r]? = some s → 71 < r → im' r = im r
theorem zA_app {tl new : List (Nat × Nat)} {s : Nat × Nat} {r : Nat} (h : (zB ++ tl)[r]? = some s) : (zB ++ (tl ++ new) : List (Nat × Nat))[r]? = some s := by
  have hr : r < (zB ++ tl).length := (List.getElem?_eq_some_iff.mp h).1
  rw [← List.append_assoc, List.getElem?_append_left hr]
  exact h
theorem zRf_k {q q' : zR} {k : Nat} (h : q' k = q k) : zRf q' k = zRf q k := by
  funext j
  unfold zRf
  rw [h]
theorem yGrow.is {tl tl' : List (Nat × Nat)} {q q' : zR} {im im' : zI} (hg : yGrow tl tl' q q' im im') {r kd : Nat} {a b c : Int32} (h : yIs tl im r kd a b c) (hr : 71 < r) : yIs tl' im' r kd a b c := by
  obtain ⟨⟨new, rfl⟩, _, g3⟩ := hg
  obtain ⟨L, h1, h2⟩ := h
  have e := g3 r _ h1 hr
  refine ⟨L, zA_app h1, ?_⟩
  rw [e]
  exact h2
theorem yGrow.cx {tl tl' : List (Nat × Nat)} {q q' : zR} {im im' : zI} (hg : yGrow tl tl' q q' im im') {r : Nat} {T : Nat → List Nat} (h : yCx tl q im r T) (hr : r = 45 ∨ 71 < r) (hc : ∀ cc, zRf q r 0 = some cc → cc = 46 ∨ 71 < cc) (h45 : im' 45 = im 45) (h46 : im' 46 = im 46) : yCx tl' q' im' r T ∧ zRf q' r 0 = zRf q r 0 := by
  obtain ⟨⟨new, rfl⟩, g2, g3⟩ := hg
  obtain ⟨L8, cc, len, h1, h2, h3, h4, h5, h6, h7, f1, f2, hd, c0, c1, c2⟩ := h
  have e1 : zRf q' r 0 = zRf q r 0 := congrFun (zRf_k (g2 r _ h1 (by omega) (by omega))) 0
  have e2 : im' r = im r := by
    rcases hr with rfl | hr
    · exact h45
    · exact g3 r _ h1 hr
  have e3 : im' cc = im cc := by
    rcases hc cc h2 with rfl | hr
    · exact h46
    · exact g3 cc _ h3 hr
  refine ⟨⟨L8, cc, len, zA_app h1, e1.trans h2, zA_app h3, h4, h5, h6, h7, ?_⟩, e1⟩
  rw [e2, e3]
  exact ⟨f1, f2, hd, c0, c1, c2⟩
