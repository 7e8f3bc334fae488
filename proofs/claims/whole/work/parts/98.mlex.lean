/-! THE MODEL READS A TOKEN -/
def yxP (k : Nat) : Nat := [0, 1, 2, 6, 7, 8, 9, 10, 11, 3, 4, 5].getD k 0
theorem yxP_f : ∀ k, k < 12 → yxP k < 12 ∧ (yxQ (yxP k)).length ≤ 8 ∧ ∀ c, c < 8 → yW63.getD (8 * k + c) 0 = if c < (yxQ (yxP k)).length then (yxQ (yxP k)).getD c 0 else 32 := by decide
theorem yxP_s : ∀ w, w < 12 → ∃ k, k < 12 ∧ yxP k = w := by decide
theorem yxQ_u : ∀ w, w < 12 → ∀ w', w' < 12 → (yxQ w).length = (yxQ w').length → (∀ i, i < (yxQ w).length → (yxQ w).getD i 0 = (yxQ w').getD i 0) → w = w' := by decide
theorem yxM_iff {B : Nat → Int32} {b e w : Nat} : yxM B b e w = true ↔ (yxQ w).length = e - b ∧ ∀ i, i < e - b → B (b + i) = Int32.ofNat ((yxQ w).getD i 0) := by
  unfold yxM
  rw [Bool.and_eq_true, decide_eq_true_eq, decide_eq_true_eq]
theorem yxM_u {B : Nat → Int32} {b e w w' : Nat} (hw : w < 12) (hw' : w' < 12) (h : yxM B b e w = true) (h' : yxM B b e w' = true) : w = w' := by
  obtain ⟨a1, a2⟩ := yxM_iff.mp h
  obtain ⟨b1, b2⟩ := yxM_iff.mp h'
  refine yxQ_u w hw w' hw' (a1.trans b1.symm) (fun i hi => ?_)
  have f1 := ((yxT_f w hw).2.2.2 i hi).2.2
  have f2 := ((yxT_f w' hw').2.2.2 i (by omega)).2.2
  exact (zi_eq (by omega) (by omega)).mp ((a2 i (by omega)).symm.trans (b2 i (by omega)))
theorem yxF_t {B : Nat → Int32} {b e w : Nat} (hw : w < 12) (h : yxM B b e w = true) : yxF B b e 12 = yxK w := by
  have : ∀ m, w < m → m ≤ 12 → yxF B b e m = yxK w := by
    intro m
    induction m with
    | zero => exact fun h _ => absurd h (by omega)
    | succ m ih =>
      intro h1 h2
      show (bif yxM B b e m then yxK m else yxF B b e m) = yxK w
      by_cases e1 : m = w
      · subst e1; rw [h]; rfl
      · cases hm : yxM B b e m with
        | false => exact ih (by omega) (by omega)
        | true => exact absurd (yxM_u (by omega) hw hm h) e1
  exact this 12 hw (Nat.le_refl _)
theorem yxF_n {B : Nat → Int32} {b e : Nat} (h : ∀ w, w < 12 → yxM B b e w = false) : yxF B b e 12 = (1, 0) := by
  have : ∀ m, m ≤ 12 → yxF B b e m = (1, 0) := by
    intro m
    induction m with
    | zero => exact fun _ => rfl
    | succ m ih =>
      intro h2
      show (bif yxM B b e m then yxK m else yxF B b e m) = _
      rw [h m (by omega)]
      exact ih (by omega)
  exact this 12 (Nat.le_refl _)
/-- the Model's comparison -/
def yxV (B : Nat → Int32) (b e c : Nat) : Int32 := if b + c < e then B (b + c) else 32
def yxE (B : Nat → Int32) (b e k : Nat) : Prop := e - b ≤ 8 ∧ ∀ c, c < 8 → Int32.ofNat (yW63.getD (8 * k + c) 0) = yxV B b e c
theorem yxE_M {B : Nat → Int32} {b e k : Nat} (hk : k < 12) (hL : ∀ i, b ≤ i → i < e → yxL (B i) = true) : (yxE B b e k ↔ yxM B b e (yxP k) = true) := by
  obtain ⟨f1, f2, f3⟩ := yxP_f k hk
  obtain ⟨_, _, _, f4⟩ := yxT_f (yxP k) f1
  have hns : ∀ i, b ≤ i → i < e → B i ≠ 32 := fun i h1 h2 h => by
    have := hL i h1 h2
    rw [h] at this
    exact absurd this (by decide)
  rw [yxM_iff]
  unfold yxE
  constructor
  · intro ⟨h1, h2⟩
    have hl : (yxQ (yxP k)).length = e - b := by
      by_cases c1 : (yxQ (yxP k)).length < e - b
      · have := h2 (yxQ (yxP k)).length (by omega)
        rw [f3 _ (by omega), if_neg (by omega)] at this
        unfold yxV at this
        rw [if_pos (by omega)] at this
        exact absurd this.symm (hns _ (by omega) (by omega))
      · by_cases c2 : e - b < (yxQ (yxP k)).length
        · have := h2 (e - b) (by omega)
          rw [f3 _ (by omega), if_pos c2] at this
          unfold yxV at this
          rw [if_neg (by omega)] at this
          have fi := f4 (e - b) c2
          exact absurd ((zi_eq (b := 32) (by omega) (by omega)).mp this) fi.2.1
        · omega
    refine ⟨hl, fun i hi => ?_⟩
    have := h2 i (by omega)
    rw [f3 i (by omega), if_pos (by omega)] at this
    unfold yxV at this
    rw [if_pos (by omega)] at this
    exact this.symm
  · intro ⟨h1, h2⟩
    refine ⟨by omega, fun c hc => ?_⟩
    rw [f3 c hc]
    unfold yxV
    by_cases c1 : c < (yxQ (yxP k)).length
    · rw [if_pos c1, if_pos (by omega)]
      exact (h2 c (by omega)).symm
    · rw [if_neg c1, if_neg (by omega)]
      rfl
theorem m_wordFrom {d n b e : Nat} {B : Nat → Int32} {tl : List (Nat × Nat)} {q : zR} {im : zI} (hn : n ≤ 160) (he : e ≤ n) (hb : b ≤ e) (hB : ∀ k, k < n → im 54 k = B k) (hW : yWw im) :
    ∃ k, zEv (d + 1) 149 [.ref 47, .int (Int32.ofNat b), .int (Int32.ofNat e)] (zMm tl q im) (some (.int (Int32.ofNat k))) (zMm tl q im) ∧ ((k < 12 ∧ yxE B b e k) ∨ (k = 12 ∧ ∀ j, j < 12 → ¬ yxE B b e j)) := by
  -- one word
  have one : ∀ (k : Nat) (Z : Option Value → zM → Prop), k < 12 → (¬ yxE B b e k → zX d zc_X12_wordFrom 2 [(0, .ref 47), (1, .int (Int32.ofNat b)), (2, .int (Int32.ofNat e)), (3, .int (Int32.ofNat (k + 1)))] [] (zMm tl q im) Z) → (yxE B b e k → Z (some (.int (Int32.ofNat k))) (zMm tl q im)) →
      zX d zc_X12_wordFrom 2 [(0, .ref 47), (1, .int (Int32.ofNat b)), (2, .int (Int32.ofNat e)), (3, .int (Int32.ofNat k))] [] (zMm tl q im) Z := by
    intro k Z hk hf ht
    have no : ¬ yxE B b e k → ∀ c, c ≤ 8 → zX d zc_X12_wordFrom 16 [(0, .ref 47), (1, .int (Int32.ofNat b)), (2, .int (Int32.ofNat e)), (3, .int (Int32.ofNat k)), (4, .int (0 : Int32)), (5, .int (Int32.ofNat c))] [] (zMm tl q im) Z := by
      intro h c hc
      refine t_X12_wordFrom_16 ?_
      rw [zi_s]
      exact ⟨fun _ => ⟨fun _ => hf h, fun e => absurd rfl e⟩, fun _ => ⟨fun _ => ⟨fun _ => hf h, fun e => absurd rfl e⟩, fun e => absurd rfl e⟩⟩
    have lp : ∀ (f c : Nat), c + f = 8 → e - b ≤ 8 → (∀ j, j < c → Int32.ofNat (yW63.getD (8 * k + j) 0) = yxV B b e j) →
        zX d zc_X12_wordFrom 16 [(0, .ref 47), (1, .int (Int32.ofNat b)), (2, .int (Int32.ofNat e)), (3, .int (Int32.ofNat k)), (4, .int (1 : Int32)), (5, .int (Int32.ofNat c))] [] (zMm tl q im) Z := by
      intro f
      induction f with
      | zero =>
        intro c hc h8 hj
        have c8 : c = 8 := by omega
        subst c8
        have : yxE B b e k := ⟨h8, hj⟩
        exact t_X12_wordFrom_16 ⟨fun _ => ⟨fun h => absurd h n10, fun _ => ht this⟩, fun h => absurd (by decide) h⟩
      | succ f ih =>
        intro c hc h8 hj
        have n8 : ¬ (8 : Int32) ≤ Int32.ofNat c := fun h => absurd ((zi_le (a := 8) (by omega) (by omega)).mp h) (by omega)
        have e8 : (8 : Int32) * Int32.ofNat k + Int32.ofNat c = Int32.ofNat (8 * k + c) := by
          rw [show (8 : Int32) * Int32.ofNat k = Int32.ofNat (8 * k) from (Int32.ofNat_mul 8 k).symm, ← Int32.ofNat_add]
        have go : ∀ v : Int32, v = yxV B b e c → (¬ Int32.ofNat (yW63.getD (8 * k + c) 0) = v → zX d zc_X12_wordFrom 16 [(0, .ref 47), (1, .int (Int32.ofNat b)), (2, .int (Int32.ofNat e)), (3, .int (Int32.ofNat k)), (4, .int (0 : Int32)), (5, .int (Int32.ofNat (c + 1)))] [] (zMm tl q im) Z) ∧
            (Int32.ofNat (yW63.getD (8 * k + c) 0) = v → zX d zc_X12_wordFrom 16 [(0, .ref 47), (1, .int (Int32.ofNat b)), (2, .int (Int32.ofNat e)), (3, .int (Int32.ofNat k)), (4, .int (1 : Int32)), (5, .int (Int32.ofNat (c + 1)))] [] (zMm tl q im) Z) := by
          intro v hv
          refine ⟨fun h => no ?_ (c + 1) (by omega), fun h => ih (c + 1) (by omega) h8 (fun j hj2 => ?_)⟩
          · exact fun hh => h ((hh.2 c (by omega)).trans hv.symm)
          · by_cases ej : j = c
            · subst ej; exact h.trans hv
            · exact hj j (by omega)
        refine t_X12_wordFrom_16 ⟨fun h => absurd h n8, fun _ => ⟨fun h => absurd h n10, fun _ => ?_⟩⟩
        rw [e8, zi_n (show 8 * k + c < 2147483648 by omega), hW (8 * k + c) (by omega), ← Int32.ofNat_add, zi_n (show b + c < 2147483648 by omega), zi_s]
        refine ⟨zi_in (by omega) (by omega), fun h => ?_, fun h => ?_⟩
        · have : ¬ b + c < e := fun hh => absurd ((zi_le (by omega) (by omega)).mp h) (by omega)
          exact go 32 (by unfold yxV; rw [if_neg this])
        · have : b + c < e := Nat.lt_of_not_le fun hh => h ((zi_le (by omega) (by omega)).mpr hh)
          exact ⟨zi_in (by omega) (by omega), by rw [hB (b + c) (by omega)]; exact go (B (b + c)) (by unfold yxV; rw [if_pos this])⟩
    refine t_X12_wordFrom_2 ?_
    rw [zi_d hb]
    refine ⟨fun h => absurd ((zi_le (a := 12) (by omega) (by omega)).mp h) (by omega), fun _ => ⟨fun h => ?_, fun h => ?_⟩⟩
    · have h8 : ¬ e - b ≤ 8 := fun hh => absurd ((zi_lt (a := 8) (by omega) (by omega)).mp h) (by omega)
      exact no (fun hh => h8 hh.1) 0 (by omega)
    · have h8 : e - b ≤ 8 := Nat.le_of_not_lt fun hh => h ((zi_lt (a := 8) (by omega) (by omega)).mpr hh)
      exact lp 8 0 (by omega) h8 (fun j hj => absurd hj (by omega))
  have lp : ∀ (f k : Nat), k + f = 12 → (∀ j, j < k → ¬ yxE B b e j) → ∃ k', zX d zc_X12_wordFrom 2 [(0, .ref 47), (1, .int (Int32.ofNat b)), (2, .int (Int32.ofNat e)), (3, .int (Int32.ofNat k))] [] (zMm tl q im) (fun x y => x = some (.int (Int32.ofNat k')) ∧ y = zMm tl q im) ∧ ((k' < 12 ∧ yxE B b e k') ∨ (k' = 12 ∧ ∀ j, j < 12 → ¬ yxE B b e j)) := by
    intro f
    induction f with
    | zero =>
      intro k hk hj
      have : k = 12 := by omega
      subst this
      exact ⟨12, t_X12_wordFrom_2 ⟨fun _ => ⟨rfl, rfl⟩, fun h => absurd (by decide) h⟩, .inr ⟨rfl, hj⟩⟩
    | succ f ih =>
      intro k hk hj
      by_cases hE : yxE B b e k
      · exact ⟨k, one k _ (by omega) (fun h => absurd hE h) (fun _ => ⟨rfl, rfl⟩), .inl ⟨by omega, hE⟩⟩
      · obtain ⟨k', g1, g2⟩ := ih (k + 1) (by omega) (fun j hj2 => by
          by_cases ej : j = k
          · subst ej; exact hE
          · exact hj j (by omega))
        exact ⟨k', one k _ (by omega) (fun _ => g1) (fun h => absurd h hE), g2⟩
  obtain ⟨k', g1, g2⟩ := lp 12 0 (by omega) (fun j hj => absurd hj (by omega))
  exact ⟨k', zEv_o rfl (t_X12_wordFrom g1), g2⟩
