/-! CLOSURE: the Model's six rounds make just what the class's unions make -/
theorem zCnt_mono {f g : Nat → Bool} : ∀ {m : Nat}, (∀ i, i < m → f i = true → g i = true) → zCnt m f ≤ zCnt m g
  | 0, _ => Nat.le_refl 0
  | m + 1, h => by
    have h1 := zCnt_mono (f := f) (g := g) (m := m) (fun i hi => h i (by omega))
    have h2 := h m (by omega)
    show zCnt m f + _ ≤ zCnt m g + _
    cases hf : f m with
    | false => simp only [cond_false]; omega
    | true => rw [h2 hf]; omega
theorem zCnt_lt {f g : Nat → Bool} {x : Nat} : ∀ {m : Nat}, (∀ i, i < m → f i = true → g i = true) → x < m → f x = false → g x = true → zCnt m f < zCnt m g
  | 0, _, hx, _, _ => absurd hx (by omega)
  | m + 1, h, hx, h1, h2 => by
    show zCnt m f + _ < zCnt m g + _
    by_cases e : x = m
    · subst e
      have := zCnt_mono (f := f) (g := g) (m := x) (fun i hi => h i (by omega))
      rw [h1, h2, cond_true, cond_false]
      omega
    · have h3 := zCnt_lt (f := f) (g := g) (x := x) (m := m) (fun i hi => h i (by omega)) (by omega) h1 h2
      have h4 := h m (by omega)
      cases hf : f m with
      | false => simp only [cond_false]; omega
      | true => rw [h4 hf]; omega
/-- a set that joins keep together holds all of a root, or nothing -/
theorem yOr_cl {V : yV} {t : Nat} {C : Nat → Prop} (hn : yvN V ≤ 6) (hC : ∀ i k, i < yvN V → yJb V t i = true → yJn V t i = Int32.ofNat k → k < yvN V → (C i ↔ C k)) : ∀ i, i ≤ yvN V → ∀ x y, x < 6 → y < 6 → (yOr V t i).2 x = (yOr V t i).2 y → (C x ↔ C y)
  | 0, _, x, y, _, _, h => by
    have e : x = y := h
    rw [e]
  | i + 1, hi, x, y, hx, hy, h => by
    have ih := yOr_cl (V := V) (t := t) hn hC i (by omega)
    have e : yOr V t (i + 1) = bif yJb V t i then (yUn (yOr V t i).1 i (yJn V t i).toNatClampNeg, yRu (yOr V t i).2 i (yJn V t i).toNatClampNeg) else yOr V t i := rfl
    rw [e] at h
    cases hb : yJb V t i with
    | false => rw [hb] at h; exact ih x y hx hy h
    | true =>
      obtain ⟨k, hk, ek⟩ := yJb_ex hn hb
      rw [hb, cond_true, ek, zi_n (by omega)] at h
      have hij := hC i k (by omega) hb ek hk
      have hin : ∀ z, z < 6 → ((yOr V t i).2 z = (yOr V t i).2 i ∨ (yOr V t i).2 z = (yOr V t i).2 k) → (C z ↔ C i) := fun z hz h => by
        rcases h with h | h
        · exact ih z i hz (by omega) h
        · exact (ih z k hz (by omega) h).trans hij.symm
      have h' : yRu (yOr V t i).2 i k x = yRu (yOr V t i).2 i k y := h
      unfold yRu at h'
      by_cases hx2 : (yOr V t i).2 x = (yOr V t i).2 i ∨ (yOr V t i).2 x = (yOr V t i).2 k
      · by_cases hy2 : (yOr V t i).2 y = (yOr V t i).2 i ∨ (yOr V t i).2 y = (yOr V t i).2 k
        · exact (hin x hx hx2).trans (hin y hy hy2).symm
        · rw [if_pos hx2, if_neg hy2] at h'
          exact absurd (by omega) hy2
      · by_cases hy2 : (yOr V t i).2 y = (yOr V t i).2 i ∨ (yOr V t i).2 y = (yOr V t i).2 k
        · rw [if_neg hx2, if_pos hy2] at h'
          exact absurd (by omega) hx2
        · rw [if_neg hx2, if_neg hy2] at h'
          exact ih x y hx hy h'
/-- joined stays joined -/
theorem yRu_eq {rt : Nat → Nat} {a b x y : Nat} (h : rt x = rt y) : yRu rt a b x = yRu rt a b y := by
  unfold yRu
  rw [h]
theorem yOr_st {V : yV} {t : Nat} {x y : Nat} {i : Nat} (h : (yOr V t i).2 x = (yOr V t i).2 y) : ∀ j, (yOr V t (i + j)).2 x = (yOr V t (i + j)).2 y
  | 0 => h
  | j + 1 => by
    have ih := yOr_st h j
    have e : yOr V t (i + j + 1) = bif yJb V t (i + j) then (yUn (yOr V t (i + j)).1 (i + j) (yJn V t (i + j)).toNatClampNeg, yRu (yOr V t (i + j)).2 (i + j) (yJn V t (i + j)).toNatClampNeg) else yOr V t (i + j) := rfl
    rw [show i + (j + 1) = i + j + 1 from rfl, e]
    cases yJb V t (i + j) with
    | false => exact ih
    | true => exact yRu_eq ih
theorem yOr_jn {V : yV} {t i k : Nat} (hn : yvN V ≤ 6) (hi : i < yvN V) (hb : yJb V t i = true) (ek : yJn V t i = Int32.ofNat k) (hk : k < yvN V) : yRo V t i = yRo V t k := by
  have e : yOr V t (i + 1) = bif yJb V t i then (yUn (yOr V t i).1 i (yJn V t i).toNatClampNeg, yRu (yOr V t i).2 i (yJn V t i).toNatClampNeg) else yOr V t i := rfl
  rw [hb, cond_true, ek, zi_n (by omega)] at e
  have h : (yOr V t (i + 1)).2 i = (yOr V t (i + 1)).2 k := by
    rw [e]
    show yRu _ _ _ _ = yRu _ _ _ _
    unfold yRu
    rw [if_pos (.inl rfl), if_pos (.inr rfl)]
  have := yOr_st h (yvN V - (i + 1))
  rw [show i + 1 + (yvN V - (i + 1)) = yvN V by omega] at this
  exact this
/-- two sets that meet become one -/
def yMg (S : Nat → Nat) (a b : Nat) : Nat → Nat := if S a &&& S b = 0 then S else fun c => if c = b then S a ||| S b else if c = a then S a ||| S b else S c
def yRd (n : Nat) (S : Nat → Nat) : Nat → Nat → Nat
  | 0 => S
  | k + 1 => yMg (yRd n S k) (k / n) (k % n)
def yRn (n : Nat) (S : Nat → Nat) : Nat → Nat → Nat
  | 0 => S
  | r + 1 => yRd n (yRn n S r) (n * n)
/-- what holds of the sets all the way -/
def yIv (V : yV) (t : Nat) (S : Nat → Nat) : Prop := ∀ a, a < yvN V → S a < 64 ∧ (S a).testBit a = true ∧ (∀ x, (S a).testBit x = true → x < yvN V ∧ yRo V t x = yRo V t a) ∧ (∀ k, yJb V t a = true → yJn V t a = Int32.ofNat k → k < yvN V → (S a).testBit k = true)
theorem and_ex {x y : Nat} (h : ¬ x &&& y = 0) : ∃ i, x.testBit i = true ∧ y.testBit i = true := by
  refine Classical.byContradiction fun hh => h (Nat.eq_of_testBit_eq fun i => ?_)
  rw [Nat.zero_testBit, Nat.testBit_and]
  cases hx : x.testBit i with
  | false => rfl
  | true =>
    cases hy : y.testBit i with
    | false => rfl
    | true => exact absurd ⟨i, hx, hy⟩ hh
theorem and_ne {x y i : Nat} (hx : x.testBit i = true) (hy : y.testBit i = true) : ¬ x &&& y = 0 := by
  intro h
  have := congrArg (fun z => z.testBit i) h
  simp [hx, hy] at this
theorem yMg_gr {S : Nat → Nat} {a b c x : Nat} (h : (S c).testBit x = true) : (yMg S a b c).testBit x = true := by
  unfold yMg
  by_cases h0 : S a &&& S b = 0
  · rw [if_pos h0]; exact h
  · rw [if_neg h0]
    show (if _ then _ else if _ then _ else _ : Nat).testBit x = true
    by_cases e1 : c = b
    · subst e1; rw [if_pos rfl, Nat.testBit_or, h, Bool.or_true]
    · rw [if_neg e1]
      by_cases e2 : c = a
      · subst e2; rw [if_pos rfl, Nat.testBit_or, h, Bool.true_or]
      · rw [if_neg e2]; exact h
theorem yMg_iv {V : yV} {t : Nat} {S : Nat → Nat} {a b : Nat} (h : yIv V t S) (ha : a < yvN V) (hb : b < yvN V) : yIv V t (yMg S a b) := by
  intro c hc
  obtain ⟨a1, a2, a3, a4⟩ := h a ha
  obtain ⟨b1, b2, b3, b4⟩ := h b hb
  obtain ⟨c1, c2, c3, c4⟩ := h c hc
  refine ⟨?_, yMg_gr c2, ?_, fun k h1 h2 h3 => yMg_gr (c4 k h1 h2 h3)⟩
  · unfold yMg
    by_cases h0 : S a &&& S b = 0
    · rw [if_pos h0]; exact c1
    · rw [if_neg h0]
      show (if _ then _ else if _ then _ else _ : Nat) < 64
      by_cases e1 : c = b
      · rw [if_pos e1]; exact or_64 a1 b1
      · rw [if_neg e1]
        by_cases e2 : c = a
        · rw [if_pos e2]; exact or_64 a1 b1
        · rw [if_neg e2]; exact c1
  · intro x hx
    unfold yMg at hx
    by_cases h0 : S a &&& S b = 0
    · rw [if_pos h0] at hx; exact c3 x hx
    · rw [if_neg h0] at hx
      obtain ⟨z, z1, z2⟩ := and_ex h0
      have hab : yRo V t a = yRo V t b := (a3 z z1).2.symm.trans (b3 z z2).2
      have hor : (S a ||| S b).testBit x = true → x < yvN V ∧ yRo V t x = yRo V t a := fun h => by
        rw [Nat.testBit_or, Bool.or_eq_true] at h
        rcases h with h | h
        · exact a3 x h
        · rw [hab]; exact b3 x h
      have hx' : (if c = b then S a ||| S b else if c = a then S a ||| S b else S c : Nat).testBit x = true := hx
      by_cases e1 : c = b
      · rw [if_pos e1] at hx'
        rw [e1, ← hab]
        exact hor hx'
      · rw [if_neg e1] at hx'
        by_cases e2 : c = a
        · rw [if_pos e2] at hx'
          rw [e2]
          exact hor hx'
        · rw [if_neg e2] at hx'; exact c3 x hx'
theorem yRd_gr {n : Nat} {S : Nat → Nat} {c x k : Nat} (h : (yRd n S k c).testBit x = true) : ∀ j, (yRd n S (k + j) c).testBit x = true
  | 0 => h
  | j + 1 => yMg_gr (yRd_gr h j)
theorem yRd_iv {V : yV} {t : Nat} {S : Nat → Nat} (h : yIv V t S) : ∀ k, k ≤ yvN V * yvN V → yIv V t (yRd (yvN V) S k)
  | 0, _ => h
  | k + 1, hk => yMg_iv (yRd_iv h k (by omega)) (Nat.div_lt_of_lt_mul (by omega)) (Nat.mod_lt _ (by
      rcases Nat.eq_zero_or_pos (yvN V) with e | e
      · rw [e] at hk; omega
      · exact e))
/-- behind a round one holds all that it met -/
theorem yRd_me {n : Nat} {S : Nat → Nat} {a b x z : Nat} (ha : a < n) (hb : b < n) (h1 : (S a).testBit z = true) (h2 : (S b).testBit z = true) (h3 : (S b).testBit x = true) : (yRd n S (n * n) a).testBit x = true := by
  have hk : n * a + b < n * n := by
    have : n * (a + 1) ≤ n * n := Nat.mul_le_mul_left n (by omega)
    rw [Nat.mul_add] at this
    omega
  have hd : (n * a + b) / n = a := by
    rw [Nat.mul_add_div (by omega), Nat.div_eq_of_lt hb]
    rfl
  have hm : (n * a + b) % n = b := by rw [Nat.mul_add_mod, Nat.mod_eq_of_lt hb]
  have g0 : ∀ c y, (S c).testBit y = true → (yRd n S (n * a + b) c).testBit y = true := fun c y h => by
    have := yRd_gr (n := n) (S := S) (k := 0) h (n * a + b)
    rw [Nat.zero_add] at this
    exact this
  have g1 : (yRd n S (n * a + b + 1) a).testBit x = true := by
    show (yMg (yRd n S (n * a + b)) ((n * a + b) / n) ((n * a + b) % n) a).testBit x = true
    rw [hd, hm]
    unfold yMg
    rw [if_neg (and_ne (g0 a z h1) (g0 b z h2))]
    show (if _ then _ else if _ then _ else _ : Nat).testBit x = true
    have ho : (yRd n S (n * a + b) a ||| yRd n S (n * a + b) b).testBit x = true := by rw [Nat.testBit_or, g0 b x h3, Bool.or_true]
    by_cases e : a = b
    · rw [if_pos e]; exact ho
    · rw [if_neg e, if_pos rfl]; exact ho
  have := yRd_gr g1 (n * n - (n * a + b + 1))
  rw [show n * a + b + 1 + (n * n - (n * a + b + 1)) = n * n by omega] at this
  exact this
theorem yRn_iv {V : yV} {t : Nat} {S : Nat → Nat} (h : yIv V t S) : ∀ r, yIv V t (yRn (yvN V) S r)
  | 0 => h
  | r + 1 => yRd_iv (yRn_iv h r) _ (Nat.le_refl _)
theorem yOn_bit {V : yV} {t a x : Nat} (hn : yvN V ≤ 6) (ha : a < yvN V) : (yOn V t a).testBit x = true ↔ (x < yvN V ∧ yRo V t x = yRo V t a) := by
  rw [((yOn_zRt (V := V) (t := t) hn).2 a ha).2.2.2.2.2 x, Bool.and_eq_true, decide_eq_true_eq, decide_eq_true_eq]
theorem yRn_on {V : yV} {t : Nat} {S : Nat → Nat} (hn : yvN V ≤ 6) (h : yIv V t S) : ∀ r a, a < yvN V → yRn (yvN V) S r a = yOn V t a ∨ r + 1 ≤ zCnt 6 (fun i => (yRn (yvN V) S r a).testBit i)
  | 0, a, ha => by
    refine .inr ?_
    have h1 : (S a).testBit a = true := (h a ha).2.1
    have := zCnt_lt (f := fun _ => false) (g := fun i => (S a).testBit i) (x := a) (m := 6) (fun _ _ h => Bool.noConfusion h) (by omega) rfl h1
    show 0 + 1 ≤ zCnt 6 (fun i => (S a).testBit i)
    omega
  | r + 1, a, ha => by
    have hI := yRn_iv h r
    have hI' := yRn_iv h (r + 1)
    have hgr : ∀ x, (yRn (yvN V) S r a).testBit x = true → (yRn (yvN V) S (r + 1) a).testBit x = true := fun x hx => by
      have := yRd_gr (n := yvN V) (S := yRn (yvN V) S r) (k := 0) hx (yvN V * yvN V)
      rw [Nat.zero_add] at this
      exact this
    have full : (∀ x, x < yvN V → yRo V t x = yRo V t a → (yRn (yvN V) S (r + 1) a).testBit x = true) → yRn (yvN V) S (r + 1) a = yOn V t a := fun hh => Nat.eq_of_testBit_eq fun x => by
      rw [Bool.eq_iff_iff, yOn_bit hn ha]
      exact ⟨fun hx => (hI' a ha).2.2.1 x hx, fun hx => hh x hx.1 hx.2⟩
    rcases yRn_on hn h r a ha with e | e
    · refine .inl (full fun x h1 h2 => hgr x ?_)
      rw [e, yOn_bit hn ha]
      exact ⟨h1, h2⟩
    · by_cases hC : ∀ i k, i < yvN V → yJb V t i = true → yJn V t i = Int32.ofNat k → k < yvN V → ((yRn (yvN V) S r a).testBit i = true ↔ (yRn (yvN V) S r a).testBit k = true)
      · refine .inl (full fun x h1 h2 => hgr x ?_)
        have := yOr_cl (V := V) (t := t) (C := fun x => (yRn (yvN V) S r a).testBit x = true) hn hC (yvN V) (Nat.le_refl _) x a (by omega) (by omega) h2
        exact this.mpr (hI a ha).2.1
      · refine .inr ?_
        have hC' : ∃ i k, i < yvN V ∧ yJb V t i = true ∧ yJn V t i = Int32.ofNat k ∧ k < yvN V ∧ ¬ ((yRn (yvN V) S r a).testBit i = true ↔ (yRn (yvN V) S r a).testBit k = true) := by
          refine Classical.byContradiction fun hh => hC fun i k h1 h2 h3 h4 => ?_
          refine Classical.byContradiction fun h5 => hh ⟨i, k, h1, h2, h3, h4, h5⟩
        obtain ⟨i, k, i1, i2, i3, i4, i5⟩ := hC'
        obtain ⟨j1, j2, j3, j4⟩ := hI i i1
        have j5 := j4 k i2 i3 i4
        have new : ∃ x, x < 6 ∧ (yRn (yvN V) S r a).testBit x = false ∧ (yRn (yvN V) S (r + 1) a).testBit x = true := by
          cases hi : (yRn (yvN V) S r a).testBit i with
          | true =>
            cases hk : (yRn (yvN V) S r a).testBit k with
            | true => exact absurd ⟨fun _ => hk, fun _ => hi⟩ i5
            | false => exact ⟨k, by omega, hk, yRd_me ha i1 hi j2 j5⟩
          | false =>
            cases hk : (yRn (yvN V) S r a).testBit k with
            | true => exact ⟨i, by omega, hi, yRd_me ha i1 hk j5 j2⟩
            | false => exact absurd (Iff.intro (fun h => Bool.noConfusion (hi.symm.trans h)) (fun h => Bool.noConfusion (hk.symm.trans h))) i5
        obtain ⟨x, x1, x2, x3⟩ := new
        have := zCnt_lt (f := fun i => (yRn (yvN V) S r a).testBit i) (g := fun i => (yRn (yvN V) S (r + 1) a).testBit i) (x := x) (m := 6) (fun i _ hx => hgr i hx) x1 x2 x3
        omega
/-- six rounds make what is one -/
theorem yRn_6 {V : yV} {t : Nat} {S : Nat → Nat} (hn : yvN V ≤ 6) (h : yIv V t S) {a : Nat} (ha : a < yvN V) : yRn (yvN V) S 6 a = yOn V t a := by
  rcases yRn_on hn h 6 a ha with e | e
  · exact e
  · have := zCnt_le (f := fun i => (yRn (yvN V) S 6 a).testBit i) (n := 6)
    omega
