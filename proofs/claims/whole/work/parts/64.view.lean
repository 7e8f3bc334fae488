/-! THE VIEW: what both sides' cells stand for: ((islands, people, rule, texts), heights, places, (kind, told, rises, more) by island, codes by text and part) -/
abbrev yV : Type := (Nat × Nat × Nat × Nat) × (Nat → Int32) × (Nat → Nat → Int32) × (Nat → Nat × Int32 × Int32 × Int32) × (Nat → Nat → List Nat)
def yvN (V : yV) : Nat := V.1.1
def yvM (V : yV) : Nat := V.1.2.1
def yvR (V : yV) : Nat := V.1.2.2.1
def yvC (V : yV) : Nat := V.1.2.2.2
def yvH (V : yV) : Nat → Int32 := V.2.1
def yvP (V : yV) : Nat → Nat → Int32 := V.2.2.1
def yvK (V : yV) (i : Nat) : Nat := (V.2.2.2.1 i).1
def yvD (V : yV) (i : Nat) : Int32 := (V.2.2.2.1 i).2.1
def yvU (V : yV) (i : Nat) : Int32 := (V.2.2.2.1 i).2.2.1
def yvO (V : yV) (i : Nat) : Int32 := (V.2.2.2.1 i).2.2.2
def yvX (V : yV) : Nat → Nat → List Nat := V.2.2.2.2
/-- the numbers are in their bounds -/
def yG (V : yV) : Prop := yvN V ≤ 6 ∧ yvM V ≤ 4 ∧ yvR V < yvC V ∧ yvC V ≤ 6 ∧ (∀ t, t < 12 → ∃ a, a < 10 ∧ yvH V t = Int32.ofNat a) ∧ (∀ p, p < yvM V → ∀ t, t < 12 → yvP V p t = -1 ∨ ∃ k, k < yvN V ∧ yvP V p t = Int32.ofNat k) ∧
  (∀ i, i < yvN V → yvK V i < 6 ∧ (∃ a, a < 10 ∧ yvU V i = Int32.ofNat a) ∧ (∃ a, a < 10 ∧ yvO V i = Int32.ofNat a))
/-- the class's cells -/
def yA (tl : List (Nat × Nat)) (q : zR) (im : zI) (V : yV) : Prop :=
  im 1 3 = Int32.ofNat (yvN V) ∧ im 1 2 = Int32.ofNat (yvM V) ∧ im 1 4 = Int32.ofNat (yvR V) ∧ im 0 5 = Int32.ofNat (yvC V) ∧ (∀ t, t < 12 → im 2 t = yvH V t) ∧ (∀ p, p < 4 → ∀ t, t < 12 → im (4 + p) t = yvP V p t) ∧
  (∀ i, i < yvN V → ∃ r, zRf q 15 i = some r ∧ 71 < r ∧ yIs tl im r (yvK V i) (yvD V i) (yvU V i) (yvO V i)) ∧
  (∀ k, k < yvC V → ∃ r, zRf q 16 k = some r ∧ (r = 45 ∨ 71 < r) ∧ (∀ cc, zRf q r 0 = some cc → cc = 46 ∨ 71 < cc) ∧ yCx tl q im r (yvX V k))
/-- the Model's -/
def yB (im : zI) (V : yV) : Prop :=
  im 47 1 = Int32.ofNat (yvN V) ∧ im 47 6 = Int32.ofNat (yvM V) ∧ im 47 13 = Int32.ofNat (yvR V) ∧ im 47 12 = Int32.ofNat (yvC V) ∧ (∀ t, t < 12 → im 48 t = yvH V t) ∧ (∀ p, p < 4 → ∀ t, t < 12 → im 53 (12 * p + t) = yvP V p t) ∧
  (∀ i, i < yvN V → im 49 i = Int32.ofNat (yvK V i) ∧ im 50 i = yvD V i ∧ im 51 i = yvU V i ∧ im 52 i = yvO V i) ∧
  (∀ k, k < yvC V → yTx im k (yvX V k))
def yS (tl : List (Nat × Nat)) (q : zR) (im : zI) (V : yV) : Prop := yG V ∧ yA tl q im V ∧ yB im V
/-- what calls fill anew -/
def yScr (k j : Nat) : Prop := (20 < k ∧ k < 37) ∨ (63 < k ∧ k < 72) ∨ (k = 47 ∧ j = 36)
def yFr (im im' : zI) : Prop := ∀ k j, ¬ yScr k j → im' k j = im k j
theorem yFr.rf {im : zI} : yFr im im := fun _ _ _ => rfl
theorem yFr.tr {a b c : zI} (h1 : yFr a b) (h2 : yFr b c) : yFr a c := fun k j h => (h2 k j h).trans (h1 k j h)
/-- the class's scratch alone, the Model's alone -/
def yFa (im im' : zI) : Prop := ∀ k, ¬ (20 < k ∧ k < 37) → im' k = im k
def yFb (im im' : zI) : Prop := ∀ k j, ¬ ((63 < k ∧ k < 72) ∨ (k = 47 ∧ j = 36)) → im' k j = im k j
theorem yFa.rf {im : zI} : yFa im im := fun _ _ => rfl
theorem yFa.tr {a b c : zI} (h1 : yFa a b) (h2 : yFa b c) : yFa a c := fun k h => (h2 k h).trans (h1 k h)
theorem yFb.rf {im : zI} : yFb im im := fun _ _ _ => rfl
theorem yFb.tr {a b c : zI} (h1 : yFb a b) (h2 : yFb b c) : yFb a c := fun k j h => (h2 k j h).trans (h1 k j h)
theorem yFa.fr {a b : zI} (h : yFa a b) : yFr a b := fun k j hs => congrFun (h k (fun hh => hs (.inl hh))) j
theorem yFb.fr {a b : zI} (h : yFb a b) : yFr a b := fun k j hs => h k j (fun hh => hs (.inr hh))
theorem yFa.of {a b : zI} (c : Nat) (hc : 20 < c ∧ c < 37) (h : ∀ k, k ≠ c → b k = a k) : yFa a b := fun k hk => h k (fun e => hk (e ▸ hc))
theorem yFa.of2 {a b : zI} (c c' : Nat) (hc : 20 < c ∧ c < 37) (hc' : 20 < c' ∧ c' < 37) (h : ∀ k, k ≠ c → k ≠ c' → b k = a k) : yFa a b := fun k hk => h k (fun e => hk (e ▸ hc)) (fun e => hk (e ▸ hc'))
theorem yFa.up {a : zI} {c j : Nat} {v : Int32} (hc : 20 < c ∧ c < 37) : yFa a (up2 a c j v) := yFa.of c hc (fun _ hk => up_r hk)
theorem yFb.of {a b : zI} (c : Nat) (hc : 63 < c ∧ c < 72) (h : ∀ k, k ≠ c → b k = a k) : yFb a b := fun k j hk => congrFun (h k (fun e => hk (.inl (e ▸ hc)))) j
theorem yFb.of2 {a b : zI} (c c' : Nat) (hc : 63 < c ∧ c < 72) (hc' : 63 < c' ∧ c' < 72) (h : ∀ k, k ≠ c → k ≠ c' → b k = a k) : yFb a b := fun k j hk => congrFun (h k (fun e => hk (.inl (e ▸ hc))) (fun e => hk (.inl (e ▸ hc')))) j
theorem yFb.up {a : zI} {c j : Nat} {v : Int32} (hc : 63 < c ∧ c < 72) : yFb a (up2 a c j v) := yFb.of c hc (fun _ hk => up_r hk)
theorem yFb.st {a : zI} {v : Int32} : yFb a (up2 a 47 36 v) := fun k j hk => by
  by_cases e : k = 47
  · subst e
    by_cases e2 : j = 36
    · exact absurd (.inr ⟨rfl, e2⟩) hk
    · exact up_j e2
  · exact up_k e
theorem yFr.r {a b : zI} (h : yFr a b) {k : Nat} (hk : ¬ (20 < k ∧ k < 37)) (hk2 : ¬ (63 < k ∧ k < 72)) (h47 : k ≠ 47) : b k = a k := by
  funext j
  exact h k j (by unfold yScr; omega)
theorem yCx_k {tl : List (Nat × Nat)} {q : zR} {im im' : zI} {r : Nat} {T : Nat → List Nat} (h : yCx tl q im r T) (hr : im' r = im r) (hc : ∀ cc, zRf q r 0 = some cc → im' cc = im cc) : yCx tl q im' r T := by
  obtain ⟨L8, cc, len, h1, h2, h3, h4, h5, h6, h7, f1, f2, hd, c0, c1, c2⟩ := h
  refine ⟨L8, cc, len, h1, h2, h3, h4, h5, h6, h7, ?_⟩
  rw [hr, hc cc h2]
  exact ⟨f1, f2, hd, c0, c1, c2⟩
theorem yIs_k {tl : List (Nat × Nat)} {im im' : zI} {r kd : Nat} {a b c : Int32} (h : yIs tl im r kd a b c) (hr : im' r = im r) : yIs tl im' r kd a b c := by
  unfold yIs at h ⊢
  rw [hr]
  exact h
theorem yA_fr {tl : List (Nat × Nat)} {q : zR} {im im' : zI} {V : yV} (h : yA tl q im V) (hf : yFr im im') : yA tl q im' V := by
  obtain ⟨a1, a2, a3, a4, a5, a6, a7, a8⟩ := h
  have e0 : im' 0 = im 0 := hf.r (by decide) (by decide) (by decide)
  have e1 : im' 1 = im 1 := hf.r (by decide) (by decide) (by decide)
  have e2 : im' 2 = im 2 := hf.r (by decide) (by decide) (by decide)
  refine ⟨by rw [e1]; exact a1, by rw [e1]; exact a2, by rw [e1]; exact a3, by rw [e0]; exact a4, by rw [e2]; exact a5, fun p hp t ht => ?_, fun i hi => ?_, fun k hk => ?_⟩
  · rw [hf.r (by omega) (by omega) (by omega)]
    exact a6 p hp t ht
  · obtain ⟨r, h1, h2, h3⟩ := a7 i hi
    exact ⟨r, h1, h2, yIs_k h3 (hf.r (by omega) (by omega) (by omega))⟩
  · obtain ⟨r, h1, h2, h3, h4⟩ := a8 k hk
    refine ⟨r, h1, h2, h3, yCx_k h4 (hf.r (by omega) (by omega) (by omega)) (fun cc hc => ?_)⟩
    have := h3 cc hc
    exact hf.r (by omega) (by omega) (by omega)
theorem yB_fr {im im' : zI} {V : yV} (h : yB im V) (hf : yFr im im') : yB im' V := by
  obtain ⟨a1, a2, a3, a4, a5, a6, a7, a8⟩ := h
  have e48 : im' 48 = im 48 := hf.r (by decide) (by decide) (by decide)
  have e49 : im' 49 = im 49 := hf.r (by decide) (by decide) (by decide)
  have e50 : im' 50 = im 50 := hf.r (by decide) (by decide) (by decide)
  have e51 : im' 51 = im 51 := hf.r (by decide) (by decide) (by decide)
  have e52 : im' 52 = im 52 := hf.r (by decide) (by decide) (by decide)
  have e53 : im' 53 = im 53 := hf.r (by decide) (by decide) (by decide)
  have e55 : im' 55 = im 55 := hf.r (by decide) (by decide) (by decide)
  have e56 : im' 56 = im 56 := hf.r (by decide) (by decide) (by decide)
  have e : ∀ j, j ≠ 36 → im' 47 j = im 47 j := fun j hj => hf 47 j (by unfold yScr; omega)
  refine ⟨by rw [e 1 (by decide)]; exact a1, by rw [e 6 (by decide)]; exact a2, by rw [e 13 (by decide)]; exact a3, by rw [e 12 (by decide)]; exact a4, by rw [e48]; exact a5, by rw [e53]; exact a6, by rw [e49, e50, e51, e52]; exact a7, fun k hk => yTx_k (a8 k hk) e55 e56⟩
theorem yS_fr {tl : List (Nat × Nat)} {q : zR} {im im' : zI} {V : yV} (h : yS tl q im V) (hf : yFr im im') : yS tl q im' V := ⟨h.1, yA_fr h.2.1 hf, yB_fr h.2.2 hf⟩
/-! what is said of an island, of a way -/
def yWo (V : yV) (k t i : Nat) : Int32 := zWithin (yWt (yvK V i) (yvO V i) (yAsk (yvX V k) 0 (yNm (yvD V i) (yvH V t) (yvO V i) 0 (Int32.ofNat t) (Int32.ofNat i))) (Int32.ofNat t)) 0 9999
def ySd (V : yV) (t i : Nat) : Bool := ySt (yvK V i) (yvU V i) (yvH V t)
/-- what one joins, and whether that is there -/
def yJn (V : yV) (t i : Nat) : Int32 := yJo (yvK V i) (yvU V i) (yvO V i) (yvH V t)
def yJb (V : yV) (t i : Nat) : Bool := decide (0 ≤ yJn V t i) && decide (yJn V t i < Int32.ofNat (yvN V))
/-- what is one, and its roots, behind the first i -/
def yOr (V : yV) (t : Nat) : Nat → (Nat → Nat) × (Nat → Nat)
  | 0 => (fun i => 2 ^ i, fun i => i)
  | i + 1 => bif yJb V t i then (yUn (yOr V t i).1 i (yJn V t i).toNatClampNeg, yRu (yOr V t i).2 i (yJn V t i).toNatClampNeg) else yOr V t i
def yOn (V : yV) (t : Nat) : Nat → Nat := (yOr V t (yvN V)).1
def yRo (V : yV) (t : Nat) : Nat → Nat := (yOr V t (yvN V)).2
/-- from where one comes -/
def yAh (V : yV) (p t : Nat) : Int32 := if t = 0 then -1 else yvP V p (t - 1)
def yCo (V : yV) (p t : Nat) (x : Int32) : Int32 :=
  if x = -1 ∨ x = yAh V p t then 0 else yAsk (yvX V (yvR V)) 1 (yNm 0 (yvH V t) 0 (if yAh V p t = -1 then x + 1 else (if 0 ≤ x - yAh V p t then x - yAh V p t else 0 - (x - yAh V p t))) (Int32.ofNat t) x)
def yStm (V : yV) (p t : Nat) : Int32 := if yvP V p t = -1 then 0 else yAsk (yvX V (yvR V)) 2 (yNm 0 (yvH V t) 0 0 (Int32.ofNat t) (yvP V p t))
