/-! WAYS: numbered -/
def yDi (x : Int32) : Nat := (x + 1).toNatClampNeg
def yVl (n m : Nat) (s : Nat → Int32) : Prop := ∀ p, p < m → s p = -1 ∨ ∃ k, k < n ∧ s p = Int32.ofNat k
def yIx (set : Int32) (n : Nat) (s : Nat → Int32) : Nat → Nat
  | 0 => 0
  | p + 1 => bif zBt set p then yIx set n s p * (n + 1) + yDi (s p) else yIx set n s p
def yWn (set : Int32) (n : Nat) : Nat → Nat
  | 0 => 1
  | p + 1 => bif zBt set p then yWn set n p * (n + 1) else yWn set n p
theorem yIx_cg {set : Int32} {n : Nat} {s s' : Nat → Int32} : ∀ {p : Nat}, (∀ q, q < p → s q = s' q) → yIx set n s p = yIx set n s' p
  | 0, _ => rfl
  | p + 1, h => by
    show (bif _ then _ else _) = (bif _ then _ else _)
    rw [yIx_cg (fun q hq => h q (by omega)), h p (by omega)]
theorem yDi_ex {n : Nat} {x : Int32} (hn : n ≤ 6) (h : x = -1 ∨ ∃ k, k < n ∧ x = Int32.ofNat k) : x + 1 = Int32.ofNat (yDi x) ∧ yDi x ≤ n := by
  rcases h with h | ⟨k, hk, h⟩
  · subst h; exact ⟨by decide, Nat.zero_le _⟩
  · subst h
    unfold yDi
    rw [zi_s, zi_n (by omega)]
    exact ⟨rfl, by omega⟩
theorem yDi_of {k : Nat} (hk : k < 100) : yDi (Int32.ofNat k) = k + 1 := by
  unfold yDi
  rw [zi_s, zi_n (by omega)]
theorem yDi_m1 : yDi (-1) = 0 := by decide +kernel
theorem yNx_ok {set : Int32} {n : Nat} (hn : n ≤ 6) : ∀ (p : Nat) (s : Nat → Int32), yVl n p s → yIx set n s p < yWn set n p ∧ yNf set n p s = decide (yIx set n s p + 1 < yWn set n p) ∧ (yNf set n p s = true → yIx set n (yNx set n p s) p = yIx set n s p + 1) ∧ yVl n p (yNx set n p s) ∧ (∀ q, p ≤ q → yNx set n p s q = s q) := by
  intro p
  induction p with
  | zero => intro s _; exact ⟨Nat.zero_lt_one, rfl, fun h => Bool.noConfusion h, fun q hq => absurd hq (by omega), fun _ _ => rfl⟩
  | succ p ih =>
    intro s hv
    have hN : yNx set n (p + 1) s = bif zBt set p then (if Int32.ofNat n ≤ s p + 1 then yNx set n p (zSet s p (-1)) else zSet s p (s p + 1)) else yNx set n p s := rfl
    have hF : yNf set n (p + 1) s = bif zBt set p then (if Int32.ofNat n ≤ s p + 1 then yNf set n p (zSet s p (-1)) else true) else yNf set n p s := rfl
    have hI : ∀ s, yIx set n s (p + 1) = bif zBt set p then yIx set n s p * (n + 1) + yDi (s p) else yIx set n s p := fun _ => rfl
    have hW : yWn set n (p + 1) = bif zBt set p then yWn set n p * (n + 1) else yWn set n p := rfl
    rw [hN, hF, hI, hI, hW]
    cases hb : zBt set p with
    | false =>
      obtain ⟨h1, h2, h3, h4, h5⟩ := ih s (fun q hq => hv q (by omega))
      refine ⟨h1, h2, h3, fun q hq => ?_, fun q hq => h5 q (by omega)⟩
      by_cases e : q = p
      · subst e
        rw [cond_false, h5 q (Nat.le_refl q)]
        exact hv q hq
      · exact h4 q (by omega)
    | true =>
      obtain ⟨d1, d2⟩ := yDi_ex hn (hv p (by omega))
      rw [cond_true, cond_true, cond_true, cond_true, cond_true]
      have hle : Int32.ofNat n ≤ s p + 1 ↔ n ≤ yDi (s p) := by rw [d1]; exact zi_le (by omega) (by omega)
      by_cases hc : n ≤ yDi (s p)
      · rw [if_pos (hle.mpr hc), if_pos (hle.mpr hc)]
        have hcg : yIx set n (zSet s p (-1)) p = yIx set n s p := yIx_cg (fun q hq => zSet_ne (by omega))
        obtain ⟨h1, h2, h3, h4, h5⟩ := ih (zSet s p (-1)) (fun q hq => by rw [zSet_ne (by omega)]; exact hv q (by omega))
        rw [hcg] at h1 h2 h3
        have e0 : yDi (s p) = n := by omega
        have e1 : (yIx set n s p + 1) * (n + 1) = yIx set n s p * (n + 1) + (n + 1) := Nat.succ_mul _ _
        have e2 : (yIx set n s p + 1) * (n + 1) ≤ yWn set n p * (n + 1) := Nat.mul_le_mul_right (n + 1) h1
        have e3 : yIx set n s p * (n + 1) + n + 1 = (yIx set n s p + 1) * (n + 1) := by omega
        refine ⟨by omega, ?_, fun h => ?_, fun q hq => ?_, fun q hq => ?_⟩
        · rw [h2, e0, e3]
          refine decide_eq_decide.mpr ⟨fun h => Nat.mul_lt_mul_of_pos_right h (by omega), fun h => Nat.lt_of_mul_lt_mul_right h⟩
        · rw [h3 h, h5 p (Nat.le_refl p), zSet_eq, e0, e3, yDi_m1, Nat.add_zero]
        · by_cases e : q = p
          · subst e
            rw [h5 q (Nat.le_refl q), zSet_eq]
            exact .inl rfl
          · exact h4 q (by omega)
        · rw [h5 q (by omega), zSet_ne (by omega)]
      · rw [if_neg (fun h => hc (hle.mp h)), if_neg (fun h => hc (hle.mp h))]
        obtain ⟨h1, h2, h3, h4, h5⟩ := ih s (fun q hq => hv q (by omega))
        have hcg : yIx set n (zSet s p (s p + 1)) p = yIx set n s p := yIx_cg (fun q hq => zSet_ne (by omega))
        have e1 : (yIx set n s p + 1) * (n + 1) = yIx set n s p * (n + 1) + (n + 1) := Nat.succ_mul _ _
        have e2 : (yIx set n s p + 1) * (n + 1) ≤ yWn set n p * (n + 1) := Nat.mul_le_mul_right (n + 1) h1
        refine ⟨by omega, (decide_eq_true (by omega)).symm, fun _ => ?_, fun q hq => ?_, fun q hq => zSet_ne (by omega)⟩
        · rw [hcg, zSet_eq, d1, yDi_of (by omega)]
          omega
        · by_cases e : q = p
          · subst e
            rw [zSet_eq, d1]
            exact .inr ⟨_, by omega, rfl⟩
          · rw [zSet_ne e]; exact hv q hq
/-- the k-th way -/
def yWk (set : Int32) (n m : Nat) (s : Nat → Int32) : Nat → Nat → Int32
  | 0 => s
  | k + 1 => yNx set n m (yWk set n m s k)
theorem yFw_ix {set : Int32} {n m : Nat} {s : Nat → Int32} : ∀ p, p ≤ m → yIx set n (yFw set s m) p = 0
  | 0, _ => rfl
  | p + 1, hp => by
    show (bif _ then _ else _) = 0
    rw [yFw_ix p (by omega)]
    cases hb : zBt set p with
    | false => rfl
    | true =>
      have : yFw set s m p = -1 := by unfold yFw; rw [decide_eq_true (by omega), hb]; rfl
      rw [this, cond_true, Nat.zero_mul]
      rfl
theorem yFw_vl {set : Int32} {n m : Nat} {s : Nat → Int32} (h : yVl n m s) : yVl n m (yFw set s m) := fun p hp => by
  unfold yFw
  cases decide (p < m) && zBt set p with
  | false => exact h p hp
  | true => exact .inl rfl
theorem yWk_ok {set : Int32} {n m : Nat} {s : Nat → Int32} (hn : n ≤ 6) (h : yVl n m s) : ∀ k, k < yWn set n m → yIx set n (yWk set n m (yFw set s m) k) m = k ∧ yVl n m (yWk set n m (yFw set s m) k)
  | 0, _ => ⟨yFw_ix m (Nat.le_refl m), yFw_vl h⟩
  | k + 1, hk => by
    obtain ⟨h1, h2⟩ := yWk_ok (set := set) hn h k (by omega)
    obtain ⟨g1, g2, g3, g4, g5⟩ := yNx_ok (set := set) hn m _ h2
    rw [h1] at g2 g3
    refine ⟨g3 (by rw [g2]; exact decide_eq_true hk), g4⟩
theorem yWk_nf {set : Int32} {n m : Nat} {s : Nat → Int32} (hn : n ≤ 6) (h : yVl n m s) {k : Nat} (hk : k < yWn set n m) : yNf set n m (yWk set n m (yFw set s m) k) = decide (k + 1 < yWn set n m) := by
  obtain ⟨h1, h2⟩ := yWk_ok (set := set) hn h k hk
  obtain ⟨g1, g2, g3, g4, g5⟩ := yNx_ok (set := set) hn m _ h2
  rw [g2, h1]
theorem yWn_pos {set : Int32} {n : Nat} : ∀ p, 0 < yWn set n p
  | 0 => Nat.zero_lt_one
  | p + 1 => by
    show 0 < (bif _ then _ else _)
    cases zBt set p with
    | false => exact yWn_pos p
    | true => exact Nat.mul_pos (yWn_pos p) (by omega)
theorem yWn_le {set : Int32} {n : Nat} (hn : n ≤ 6) : ∀ p, yWn set n p ≤ 7 ^ p
  | 0 => Nat.le_refl 1
  | p + 1 => by
    show (bif _ then _ else _) ≤ 7 ^ p * 7
    have := yWn_le (set := set) hn p
    cases zBt set p with
    | false => rw [cond_false]; omega
    | true => rw [cond_true]; exact Nat.mul_le_mul this (by omega)
theorem yWn_lt {set : Int32} {n m : Nat} (hn : n ≤ 6) (hm : m ≤ 4) : yWn set n m ≤ 2401 := Nat.le_trans (yWn_le hn m) (show 7 ^ m ≤ 7 ^ 4 from Nat.pow_le_pow_right (by omega) hm)
theorem yWy_n {set : Int32} {n : Nat} : ∀ p, yWy set n p = Int32.ofNat (yWn set n p)
  | 0 => rfl
  | p + 1 => by
    show (bif _ then _ else _) = Int32.ofNat (bif _ then _ else _)
    rw [yWy_n p]
    cases zBt set p with
    | false => rfl
    | true => rw [cond_true, cond_true, zi_s, Int32.ofNat_mul]
/-- what is gathered over the first k ways -/
def yAc {α : Type} (f : (Nat → Int32) → α → α) (w : Nat → Nat → Int32) (a : α) : Nat → α
  | 0 => a
  | k + 1 => f (w k) (yAc f w a k)
def yEb (V : yV) : Int32 := ((1 : Int32) <<< ((Int32.ofNat (yvM V)) &&& 31)) - (1 : Int32)
theorem cE {d : Nat} {tl : List (Nat × Nat)} {q : zR} {im : zI} {V : yV} (hA : yA tl q im V) : zEv (d + 1) 114 [.ref 0] (zMm tl q im) (some (.int (yEb V))) (zMm tl q im) := by
  have := c_everybody (d := d) (tl := tl) (q := q) (im := im)
  rw [hA.2.1] at this
  exact this
theorem mE {d : Nat} {tl : List (Nat × Nat)} {q : zR} {im : zI} {V : yV} (hB : yB im V) : zEv (d + 1) 191 [.ref 47] (zMm tl q im) (some (.int (yEb V))) (zMm tl q im) := by
  have := m_everybody (d := d) (tl := tl) (q := q) (im := im)
  rw [hB.2.1] at this
  exact this
/-- digits are no negative number -/
theorem yDg_ok {set : Int32} {n m : Nat} {s : Nat → Int32} (hn : n ≤ 6) (hm : m ≤ 4) (hv : yVl n m s) : ∃ k, k < 10000 ∧ yDg set s m = Int32.ofNat k := by
  have key : ∀ p, p ≤ m → ∃ k, k < 10 ^ p ∧ yDg set s p = Int32.ofNat k := by
    intro p
    induction p with
    | zero => intro _; exact ⟨0, by decide, rfl⟩
    | succ p ih =>
      intro hp
      obtain ⟨k, h1, h2⟩ := ih (by omega)
      show ∃ k, k < 10 ^ p * 10 ∧ (bif zBt set p then yDg set s p * 10 + s p + 1 else yDg set s p) = Int32.ofNat k
      cases zBt set p with
      | false => exact ⟨k, by omega, h2⟩
      | true =>
        obtain ⟨d1, d2⟩ := yDi_ex hn (hv p (by omega))
        refine ⟨k * 10 + yDi (s p), by omega, ?_⟩
        rw [cond_true, h2, Int32.add_assoc, d1, Int32.ofNat_add, Int32.ofNat_mul]
        rfl
  obtain ⟨k, h1, h2⟩ := key m (Nat.le_refl m)
  refine ⟨k, Nat.lt_of_lt_of_le h1 (show 10 ^ m ≤ 10 ^ 4 from Nat.pow_le_pow_right (by omega) hm), h2⟩
