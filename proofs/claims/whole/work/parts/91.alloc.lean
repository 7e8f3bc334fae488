/-! RULES where memory grows, where references change -/
theorem zRs_far {k : Nat} (h : 72 ≤ k) : zRs.getD k [] = [] := by
  have hl : zRs.length = 72 := by decide +kernel
  rw [List.getD_eq_getElem?_getD, List.getElem?_eq_none (by omega)]
  rfl
theorem zRf_far {q : zR} {k : Nat} (h : 72 ≤ k) : zRf q k = q k := by
  funext j
  unfold zRf
  rw [zRs_far h]
  rfl
theorem zRf_up {q : zR} {r x : Nat} {v : Option Nat} (h : zRs.getD r [] = []) : zRf (up2 q r x v) = up2 (zRf q) r x v := by
  funext k j
  by_cases e : k = r
  · subst e
    have e1 : ∀ p : zR, zRf p k j = p k j := fun p => by unfold zRf; rw [h]; rfl
    rw [e1]
    unfold up2
    by_cases e2 : j = x
    · simp [e2]
    · simp only [if_true, if_neg e2]
      rw [e1]
  · have e1 : ∀ p : zR, (up2 p r x v) k j = p k j := fun p => by simp [up2, e]
    rw [e1]
    unfold zRf
    rw [e1]
theorem zRf_new {q : zR} {n : Nat} : zRf (zero2 q (72 + n) 1 none) = zero2 (zRf q) (72 + n) 1 none := by
  funext k j
  by_cases e : k = 72 + n
  · subst e
    rw [zRf_far (by omega)]
    simp [zero2]
  · have e1 : ∀ p : zR, (zero2 p (72 + n) 1 none) k j = p k j := fun p => by
      unfold zero2
      rw [if_neg (by omega)]
    rw [e1]
    unfold zRf
    rw [e1]
theorem zB_len {tl : List (Nat × Nat)} : (zB ++ tl).length = 72 + tl.length := by
  rw [List.length_append]
  rfl
theorem zN_new {dyn : Nat → Nat → Nat} {R : zOr} {cd : List zE} {ip : Nat} {ls : zL} {st : List Value} {tl : List (Nat × Nat)} {q : zR} {im : zI} {Z : Option Value → zM → Prop} {p : Nat × Nat} (hl : tl.length < 100000)
    (h : zN fun n => zRun dyn R cd n ip ls (.ref (72 + tl.length) :: st) (zMm (tl ++ [p]) (zero2 q (72 + tl.length) 1 none) (zero2 im (72 + tl.length) 1 0)) Z) :
    zN fun n => (zMm tl q im).1.length < 900000 ∧ zRun dyn R cd n ip ls (.ref (zMm tl q im).1.length :: st) ((zMm tl q im).1 ++ [p], zero2 (zMm tl q im).2.1 (zMm tl q im).1.length 1 0, zero2 (zMm tl q im).2.2 (zMm tl q im).1.length 1 none) Z := by
  obtain ⟨n, h⟩ := h
  refine ⟨n, ?_, ?_⟩
  · show (zB ++ tl).length < 900000
    rw [zB_len]
    omega
  · show zRun dyn R cd n ip ls (.ref (zB ++ tl).length :: st) ((zB ++ tl) ++ [p], zero2 im (zB ++ tl).length 1 0, zero2 (zRf q) (zB ++ tl).length 1 none) Z
    rw [zB_len, List.append_assoc, ← zRf_new]
    exact h
theorem zN_aas15 {dyn : Nat → Nat → Nat} {R : zOr} {cd : List zE} {ip x k v : Nat} {i : Int32} {ls : zL} {st : List Value} {tl : List (Nat × Nat)} {q : zR} {im : zI} {Z : Option Value → zM → Prop}
    (h : zN fun n => ((zB ++ tl)[v]?).elim False fun z => bif zSub z.1 x then vp_in i 6 ∧ zRun dyn R cd n ip ls st (zMm tl (up2 q 15 k (some v)) im) Z else False) :
    zN fun n => ((zMm tl q im).1[(15 : Nat)]?).elim False fun s => ((zMm tl q im).1[v]?).elim False fun z => bif s.1 == 23 && zSub z.1 x then vp_in i s.2 ∧ zRun dyn R cd n ip ls st ((zMm tl q im).1, (zMm tl q im).2.1, up2 (zMm tl q im).2.2 15 k (some v)) Z else False := by
  obtain ⟨n, h⟩ := h
  refine ⟨n, ?_⟩
  show ((zB ++ tl)[v]?).elim False fun z => bif zSub z.1 x then vp_in i 6 ∧ zRun dyn R cd n ip ls st (zB ++ tl, im, up2 (zRf q) 15 k (some v)) Z else False
  rw [← zRf_up (r := 15) rfl]
  exact h
theorem zN_aas16 {dyn : Nat → Nat → Nat} {R : zOr} {cd : List zE} {ip x k v : Nat} {i : Int32} {ls : zL} {st : List Value} {tl : List (Nat × Nat)} {q : zR} {im : zI} {Z : Option Value → zM → Prop}
    (h : zN fun n => ((zB ++ tl)[v]?).elim False fun z => bif zSub z.1 x then vp_in i 6 ∧ zRun dyn R cd n ip ls st (zMm tl (up2 q 16 k (some v)) im) Z else False) :
    zN fun n => ((zMm tl q im).1[(16 : Nat)]?).elim False fun s => ((zMm tl q im).1[v]?).elim False fun z => bif s.1 == 24 && zSub z.1 x then vp_in i s.2 ∧ zRun dyn R cd n ip ls st ((zMm tl q im).1, (zMm tl q im).2.1, up2 (zMm tl q im).2.2 16 k (some v)) Z else False := by
  obtain ⟨n, h⟩ := h
  refine ⟨n, ?_⟩
  show ((zB ++ tl)[v]?).elim False fun z => bif zSub z.1 x then vp_in i 6 ∧ zRun dyn R cd n ip ls st (zB ++ tl, im, up2 (zRf q) 16 k (some v)) Z else False
  rw [← zRf_up (r := 16) rfl]
  exact h
theorem zN_pfr {dyn : Nat → Nat → Nat} {R : zOr} {cd : List zE} {ip x y r v : Nat} {ls : zL} {st : List Value} {tl : List (Nat × Nat)} {q : zR} {im : zI} {Z : Option Value → zM → Prop} (hr : 72 ≤ r)
    (h : zN fun n => ((zB ++ tl)[v]?).elim False fun _ => ((zB ++ tl)[r]?).elim False fun s => bif zSub s.1 y then zRun dyn R cd n ip ls st (zMm tl (up2 q r x (some v)) im) Z else False) :
    zN fun n => ((zMm tl q im).1[v]?).elim False fun _ => ((zMm tl q im).1[r]?).elim False fun s => bif zSub s.1 y then zRun dyn R cd n ip ls st ((zMm tl q im).1, (zMm tl q im).2.1, up2 (zMm tl q im).2.2 r x (some v)) Z else False := by
  obtain ⟨n, h⟩ := h
  refine ⟨n, ?_⟩
  show ((zB ++ tl)[v]?).elim False fun _ => ((zB ++ tl)[r]?).elim False fun s => bif zSub s.1 y then zRun dyn R cd n ip ls st (zB ++ tl, im, up2 (zRf q) r x (some v)) Z else False
  rw [← zRf_up (zRs_far hr)]
  exact h
theorem zN_cia {R : zOr} {x : Nat} {as : List Value} {μ : zM} {F : Nat → List Value → zM → Prop} (h : ∃ (r : Int32) (tl : List (Nat × Nat)) (q : zR) (im : zI), R x as μ (some (.int r)) (zMm tl q im) ∧ zN fun n => F n [.int r] (zMm tl q im)) : zN fun n => zCall R x as μ (F n) := by
  obtain ⟨r, tl, q, im, h1, n, h2⟩ := h
  exact ⟨n, _, _, h1, h2⟩
theorem zN_cga {R : zOr} {x : Nat} {as : List Value} {μ : zM} {F : Nat → List Value → zM → Prop} (h : ∃ (o : Option Nat) (tl : List (Nat × Nat)) (q : zR) (im : zI), R x as μ (some (va_rf o)) (zMm tl q im) ∧ o.elim (zN fun n => F n [.null] (zMm tl q im)) (fun r => zN fun n => F n [.ref r] (zMm tl q im))) : zN fun n => zCall R x as μ (F n) := by
  obtain ⟨o, tl, q, im, h1, h2⟩ := h
  cases o with
  | none => obtain ⟨n, h2⟩ := h2; exact ⟨n, _, _, h1, h2⟩
  | some r => obtain ⟨n, h2⟩ := h2; exact ⟨n, _, _, h1, h2⟩
