/-! GAIN: the Model's sum is the class's -/
/-- the last of the first p -/
def yLa (f : Nat → Bool) : Nat → Int32
  | 0 => -1
  | p + 1 => bif f p then Int32.ofNat p else yLa f p
theorem zCnt_0 {f : Nat → Bool} : ∀ {m : Nat}, zCnt m f = 0 → ∀ p, p < m → f p = false
  | 0, _, p, hp => absurd hp (by omega)
  | m + 1, h, p, hp => by
    have h' : zCnt m f + (bif f m then 1 else 0) = 0 := h
    by_cases e : p = m
    · subst e
      cases hf : f p with
      | false => rfl
      | true => rw [hf] at h'; simp at h'
    · exact zCnt_0 (m := m) (by omega) p (by omega)
/-- just one of them: it is the first and the last -/
theorem zCnt_1 {f : Nat → Bool} : ∀ {m : Nat}, zCnt m f = 1 → ∃ p, p < m ∧ f p = true ∧ yLa f m = Int32.ofNat p ∧ ∀ q, q < m → q ≠ p → f q = false
  | 0, h => absurd (show (0 : Nat) = 1 from h) (by decide)
  | m + 1, h => by
    have h' : zCnt m f + (bif f m then 1 else 0) = 1 := h
    cases hf : f m with
    | true =>
      rw [hf] at h'
      have h0 : zCnt m f = 0 := by simpa using h'
      refine ⟨m, by omega, hf, ?_, fun q hq hne => zCnt_0 h0 q (by omega)⟩
      show (bif f m then _ else _) = _
      rw [hf]; rfl
    | false =>
      rw [hf] at h'
      obtain ⟨p, h1, h2, h3, h4⟩ := zCnt_1 (m := m) (by simpa using h')
      refine ⟨p, by omega, h2, ?_, fun q hq hne => ?_⟩
      · show (bif f m then _ else _) = _
        rw [hf]; exact h3
      · by_cases e : q = m
        · subst e; exact hf
        · exact h4 q (by omega) hne
theorem zFst_of {f : Nat → Bool} {p : Nat} (hf : f p = true) : ∀ {k i : Nat}, i ≤ p → p < i + k → (∀ q, i ≤ q → q < p → f q = false) → zFst f i k = Int32.ofNat p
  | 0, i, h1, h2, _ => absurd h2 (by omega)
  | k + 1, i, h1, h2, h3 => by
    show (bif f i then _ else _) = _
    by_cases e : i = p
    · subst e; rw [hf]; rfl
    · rw [h3 i (by omega) (by omega)]
      exact zFst_of hf (by omega) (by omega) (fun q a b => h3 q (by omega) b)
theorem zFst_ex {f : Nat → Bool} {p : Nat} (hp : p < 2147483648) : ∀ {k i : Nat}, i + k < 2147483648 → zFst f i k = Int32.ofNat p → f p = true
  | 0, i, _, h => by
    exact absurd h.symm (zi_m1 hp)
  | k + 1, i, hi, h => by
    have h' : (bif f i then Int32.ofNat i else zFst f (i + 1) k) = Int32.ofNat p := h
    cases hf : f i with
    | true =>
      rw [hf, cond_true, zi_eq (by omega) hp] at h'
      rw [← h']; exact hf
    | false =>
      rw [hf, cond_false] at h'
      exact zFst_ex hp (by omega) h'
/-- the owner, as the Model finds it -/
theorem zOwn_la {n m : Nat} {st : Nat → Bool} {rt : Nat → Nat} {s : Nat → Int32} {i : Nat} : zOwn n m st rt s i = if zCr n m st rt s (rt i) = 1 then yLa (fun q => zIs n st rt (rt i) (s q)) m else -1 := by
  unfold zOwn
  by_cases h : zCr n m st rt s (rt i) = 1
  · rw [if_pos h, if_pos h]
    obtain ⟨p, h1, h2, h3, h4⟩ := zCnt_1 (f := fun q => zIs n st rt (rt i) (s q)) h
    rw [h3]
    exact zFst_of (f := fun q => zIs n st rt (rt i) (s q)) h2 (by omega) (by omega) (fun q _ hq => h4 q (by omega) (by omega))
  · rw [if_neg h, if_neg h]
theorem zOwn_is {n m : Nat} {st : Nat → Bool} {rt : Nat → Nat} {s : Nat → Int32} {i p : Nat} (hm : m ≤ 4) (hp : p < m) : zOwn n m st rt s i = Int32.ofNat p ↔ (zCr n m st rt s (rt i) = 1 ∧ zIs n st rt (rt i) (s p) = true) := by
  unfold zOwn
  by_cases h : zCr n m st rt s (rt i) = 1
  · rw [if_pos h]
    constructor
    · intro e
      exact ⟨h, zFst_ex (f := fun q => zIs n st rt (rt i) (s q)) (by omega) (by omega) e⟩
    · rintro ⟨_, h2⟩
      obtain ⟨p', h1, h2', _, h4⟩ := zCnt_1 (f := fun q => zIs n st rt (rt i) (s q)) h
      have e : p = p' := by
        by_cases e : p = p'
        · exact e
        · rw [h4 p hp e] at h2; cases h2
      subst e
      exact zFst_of (f := fun q => zIs n st rt (rt i) (s q)) h2 (by omega) (by omega) (fun q _ hq => h4 q (by omega) (by omega))
  · rw [if_neg h]
    constructor
    · intro e
      exact absurd e.symm (zi_m1 (by omega))
    · rintro ⟨h1, _⟩
      exact absurd h1 h
/-- the Model's gain -/
def yGm (n m : Nat) (w : Nat → Int32) (st : Nat → Bool) (rt : Nat → Nat) (s : Nat → Int32) (p : Nat) : Int32 := zSum n (fun i => bif st i && decide (zOwn n m st rt s i = Int32.ofNat p) then w i else 0)
theorem zSum_0 {f : Nat → Int32} : ∀ {n : Nat}, (∀ i, i < n → f i = 0) → zSum n f = 0
  | 0, _ => rfl
  | n + 1, h => by
    show zSum n f + f n = 0
    rw [zSum_0 (fun i hi => h i (by omega)), h n (by omega)]
    rfl
theorem yGm_ga {n m : Nat} {w : Nat → Int32} {st : Nat → Bool} {rt : Nat → Nat} {s : Nat → Int32} {p : Nat} (hm : m ≤ 4) (hp : p < m) : yGm n m w st rt s p = zGa n m w st rt s p (s p) := by
  unfold yGm zGa
  cases hT : zTh n st (s p) with
  | false =>
    rw [cond_false]
    refine zSum_0 (fun i _ => ?_)
    have : ¬ zOwn n m st rt s i = Int32.ofNat p := by
      rw [zOwn_is hm hp]
      rintro ⟨_, h⟩
      unfold zIs at h
      rw [hT] at h
      cases h
    rw [decide_eq_false this, Bool.and_false]; rfl
  | true =>
    have hI : ∀ r, zIs n st rt r (s p) = decide (rt (s p).toNatClampNeg = r) := fun r => by unfold zIs; rw [hT, Bool.true_and]
    rw [cond_true, hI, decide_eq_true rfl, cond_true]
    by_cases h1 : zCr n m st rt s (rt (s p).toNatClampNeg) = 1
    · rw [if_pos h1]
      unfold zWh
      refine zSum_congr (fun i _ => ?_)
      have : decide (zOwn n m st rt s i = Int32.ofNat p) = decide (rt i = rt (s p).toNatClampNeg) := by
        rw [decide_eq_decide, zOwn_is hm hp, hI, decide_eq_true_eq]
        constructor
        · rintro ⟨_, h⟩; exact h.symm
        · intro h; rw [h]; exact ⟨h1, rfl⟩
      rw [this]
    · rw [if_neg h1]
      refine zSum_0 (fun i _ => ?_)
      have : ¬ zOwn n m st rt s i = Int32.ofNat p := by
        rw [zOwn_is hm hp, hI, decide_eq_true_eq]
        rintro ⟨h, e⟩
        rw [← e] at h
        exact h1 h
      rw [decide_eq_false this, Bool.and_false]; rfl
/-- being put there makes no difference to one's own gain there -/
theorem zGa_set {n m : Nat} {w : Nat → Int32} {st : Nat → Bool} {rt : Nat → Nat} {s : Nat → Int32} {p : Nat} {x : Int32} (hp : p < m) : zGa n m w st rt (zSet s p x) p x = zGa n m w st rt s p x := by
  unfold zGa
  cases hT : zTh n st x with
  | false => rw [cond_false, cond_false]
  | true =>
    have hI : zIs n st rt (rt x.toNatClampNeg) x = true := by unfold zIs; rw [hT, decide_eq_true rfl]; rfl
    have h := zCnt_set (g := zIs n st rt (rt x.toNatClampNeg)) (s := s) (x := x) hp
    rw [cond_true, cond_true, zSet_eq, hI, cond_true]
    rw [hI, cond_true] at h
    have h' : zCr n m st rt (zSet s p x) (rt x.toNatClampNeg) + (bif zIs n st rt (rt x.toNatClampNeg) (s p) then 1 else 0) = zCr n m st rt s (rt x.toNatClampNeg) + 1 := h
    by_cases e : zCr n m st rt (zSet s p x) (rt x.toNatClampNeg) = 1
    · rw [if_pos e, if_pos (by omega)]
    · rw [if_neg e, if_neg (by omega)]
