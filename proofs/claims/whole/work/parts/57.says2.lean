/-! SAYS, on: the Model's loop -/
theorem yStk_push {row : Nat → Int32} {s : List Int32} {v : Int32} {k : Nat} (h : yStk row s) (hk : k = s.length) : yStk (fun i => if i = k then v else row i) (v :: s) := by
  subst hk
  exact ⟨if_pos rfl, yStk_up h (fun i hi => if_neg (by omega))⟩
theorem up_row {im : zI} {k j : Nat} {v : Int32} : up2 im k j v k = fun i => if i = j then v else im k i := by
  funext i
  simp [up2]
theorem m_saysLoop {d R part e : Nat} {tl : List (Nat × Nat)} {q : zR} {nm : Nat → Int32} (hR : R < 6) (hp : part < 3) (he : e ≤ 200) :
    ∀ (cs : List Nat) (at_ : Nat) (s : List Int32) (im : zI), at_ + cs.length = e → im 47 13 = Int32.ofNat R → im 56 (4 * R + part + 1) = Int32.ofNat e → (∀ i, i < cs.length → im 55 (200 * R + (at_ + i)) = Int32.ofNat (cs.getD i 0)) → (∀ j, j < 6 → im 66 j = nm j) → yStk (im 65) s → s.length + cs.length ≤ 200 → yDp cs s.length = some 1 →
      ∃ im', zX (d + 1) zc_X12_says 12 [(0, .ref 47), (1, .int (Int32.ofNat part)), (2, .int (Int32.ofNat s.length)), (3, .int (Int32.ofNat at_))] [] (zMm tl q im) (fun x b => x = some (.int ((yEv nm cs s).headD 0)) ∧ b = zMm tl q im') ∧ (∀ k, k ≠ 65 → im' k = im k) := by
  intro cs
  induction cs with
  | nil =>
    intro at_ s im h1 h13 h56 h55 h66 hS hl hd
    have e1 : ((4 : Int32) * Int32.ofNat R) + Int32.ofNat part + 1 = Int32.ofNat (4 * R + part + 1) := by rw [Int32.ofNat_add, Int32.ofNat_add, Int32.ofNat_mul]; rfl
    have hat : at_ = e := by simpa using h1
    have hs1 : s.length = 1 := by have : some s.length = some 1 := hd; simpa using this
    obtain ⟨v, rfl⟩ := List.length_eq_one_iff.mp hs1
    refine ⟨im, t_X12_says_12 ?_, fun _ _ => rfl⟩
    rw [h13, e1, zi_n (by omega), h56]
    refine ⟨zi_in (by omega) (by omega), fun _ => ⟨?_, rfl⟩, fun h => absurd ((zi_le (by omega) (by omega)).mpr (by omega)) h⟩
    have : im 65 0 = v := hS.1
    rw [this]; rfl
  | cons c cs ih =>
    intro at_ s im h1 h13 h56 h55 h66 hS hl hd
    have e1 : ((4 : Int32) * Int32.ofNat R) + Int32.ofNat part + 1 = Int32.ofNat (4 * R + part + 1) := by rw [Int32.ofNat_add, Int32.ofNat_add, Int32.ofNat_mul]; rfl
    have e2 : ((200 : Int32) * Int32.ofNat R) + Int32.ofNat at_ = Int32.ofNat (200 * R + at_) := by rw [Int32.ofNat_add, Int32.ofNat_mul]; rfl
    simp only [List.length_cons] at h1 hl
    have hc : im 55 (200 * R + at_) = Int32.ofNat c := by have := h55 0 (by simp); simpa using this
    have h55' : ∀ i, i < cs.length → im 55 (200 * R + (at_ + 1 + i)) = Int32.ofNat (cs.getD i 0) := fun i hi => by
      have := h55 (i + 1) (by simp only [List.length_cons]; omega)
      rw [show at_ + 1 + i = at_ + (i + 1) by omega, this]
      rfl
    have hd' : ∃ k, yDp1 c s.length = some k ∧ yDp cs k = some 1 := by
      have : (yDp1 c s.length).bind (fun k => yDp cs k) = some 1 := hd
      cases hk : yDp1 c s.length with
      | none => rw [hk] at this; cases this
      | some k => rw [hk] at this; exact ⟨k, rfl, this⟩
    obtain ⟨k, hk, hd'⟩ := hd'
    have hlen := yDp1_len (nm := nm) hk
    -- how it goes on
    have go : ∀ im1 : zI, (∀ k, k ≠ 65 → im1 k = im k) → yStk (im1 65) (yEv1 nm c s) → ∃ im', zX (d + 1) zc_X12_says 12 [(0, .ref 47), (1, .int (Int32.ofNat part)), (2, .int (Int32.ofNat (yEv1 nm c s).length)), (3, .int (Int32.ofNat (at_ + 1)))] [] (zMm tl q im1) (fun x b => x = some (.int ((yEv nm (c :: cs) s).headD 0)) ∧ b = zMm tl q im') ∧ (∀ k, k ≠ 65 → im' k = im k) := by
      intro im1 hk1 hS1
      have hl1 : (yEv1 nm c s).length ≤ s.length + 1 := by
        unfold yEv1
        split
        · simp
        · split
          · simp
          · split
            · simp only [List.length_cons, List.length_tail]; omega
            · split
              · simp only [List.length_cons, List.length_tail]; omega
              · simp only [List.length_cons, List.length_tail]; omega
      obtain ⟨im', g1, g2⟩ := ih (at_ + 1) (yEv1 nm c s) im1 (by omega) (by rw [hk1 47 (by decide)]; exact h13) (by rw [hk1 56 (by decide)]; exact h56) (fun i hi => by rw [hk1 55 (by decide)]; exact h55' i hi) (fun j hj => by rw [hk1 66 (by decide)]; exact h66 j hj) hS1 (by omega) (by rw [hlen]; exact hd')
      exact ⟨im', g1, fun k hk => by rw [g2 k hk, hk1 k hk]⟩
    have hat : ¬ Int32.ofNat e ≤ Int32.ofNat at_ := fun h => absurd ((zi_le (by omega) (by omega)).mp h) (by omega)
    have hcb : c < 110000 := by
      unfold yDp1 at hk
      by_cases h1 : 100000 ≤ c
      · rw [if_pos h1] at hk
        by_cases h2 : c < 110000
        · exact h2
        · rw [if_neg h2] at hk; cases hk
      · omega
    by_cases c1 : 100000 ≤ c
    · have e3 : Int32.ofNat c - 100000 = Int32.ofNat (c - 100000) := (Int32.ofNat_sub c 100000 c1).symm
      have ev : yEv1 nm c s = Int32.ofNat (c - 100000) :: s := if_pos c1
      obtain ⟨im', g1, g2⟩ := go (up2 im 65 s.length (Int32.ofNat (c - 100000))) (fun k hk => up_r hk) (by rw [up_row, ev]; exact yStk_push hS rfl)
      rw [ev] at g1
      refine ⟨im', t_X12_says_12 ?_, g2⟩
      rw [h13, e1, e2, zi_n (by omega), zi_n (by omega), h56, hc, zi_s (a := s.length), zi_s (a := at_), e3, zi_n (by omega)]
      refine ⟨zi_in (by omega) (by omega), fun h => absurd h hat, fun _ => ⟨zi_in (by omega) (by omega), fun _ => ⟨fun _ => ⟨zi_in (by omega) (by omega), g1⟩, fun h => ?_⟩, fun h => ?_⟩⟩
      · exact absurd ((zi_le (a := 11) (by omega) (by omega)).mpr (by omega)) h
      · exact absurd ((zi_le (a := 100000) (by omega) (by omega)).mpr (by omega)) h
    · by_cases c2 : c < 6
      · have ev : yEv1 nm c s = nm c :: s := by unfold yEv1; rw [if_neg c1, if_pos c2]
        obtain ⟨im', g1, g2⟩ := go (up2 im 65 s.length (nm c)) (fun k hk => up_r hk) (by rw [up_row, ev]; exact yStk_push hS rfl)
        rw [ev] at g1
        refine ⟨im', t_X12_says_12 ?_, g2⟩
        rw [h13, e1, e2, zi_n (by omega), zi_n (by omega), h56, hc, zi_s (a := s.length), zi_s (a := at_), zi_n (by omega), zi_n (by omega), h66 c c2]
        refine ⟨zi_in (by omega) (by omega), fun h => absurd h hat, fun _ => ⟨zi_in (by omega) (by omega), fun h => ?_, fun _ => ⟨fun h => ?_, fun _ => ⟨fun h => ?_, fun _ => ⟨zi_in (by omega) (by omega), zi_in (by omega) (by omega), g1⟩⟩⟩⟩⟩
        · exact absurd ((zi_le (a := 100000) (by omega) (by omega)).mp h) (by omega)
        · exact absurd ((zi_le (a := 11) (by omega) (by omega)).mp h) (by omega)
        · exact absurd ((zi_le (a := 11) (by omega) (by omega)).mp h) (by omega)
      · have n1 : ¬ (100000 : Int32) ≤ Int32.ofNat c := fun h => absurd ((zi_le (a := 100000) (by omega) (by omega)).mp h) (by omega)
        have hs1 : 1 ≤ s.length ∧ 11 ≤ c := by
          unfold yDp1 at hk
          rw [if_neg c1, if_neg c2] at hk
          split at hk
          · split at hk
            · exact ⟨by omega, by omega⟩
            · cases hk
          · split at hk
            · split at hk
              · exact ⟨by omega, by omega⟩
              · cases hk
            · cases hk
        have n2 : (11 : Int32) ≤ Int32.ofNat c := (zi_le (a := 11) (by omega) (by omega)).mpr hs1.2
        obtain ⟨b, s1, rfl⟩ : ∃ b s1, s = b :: s1 := by
          cases s with
          | nil => exact absurd hs1.1 (by decide)
          | cons b s1 => exact ⟨b, s1, rfl⟩
        have hb : im 65 s1.length = b := hS.1
        have e4 : Int32.ofNat (b :: s1).length - 1 = Int32.ofNat s1.length := by rw [List.length_cons]; exact zi_p (by omega)
        have q13 : Int32.ofNat c = 13 ↔ c = 13 := zi_eq (b := 13) (by omega) (by omega)
        have q19 : Int32.ofNat c = 19 ↔ c = 19 := zi_eq (b := 19) (by omega) (by omega)
        simp only [List.length_cons] at hl hk
        by_cases c3 : c = 13
        · have ev : yEv1 nm c (b :: s1) = zb (decide (b = 0)) :: s1 := by unfold yEv1; rw [if_neg c1, if_neg c2, if_pos c3]; rfl
          obtain ⟨im', g1, g2⟩ := go (up2 im 65 s1.length (zb (decide (b = 0)))) (fun k hk => up_r hk) (by rw [up_row, ev]; exact yStk_push hS.2 rfl)
          rw [ev] at g1
          refine ⟨im', t_X12_says_12 ?_, g2⟩
          rw [h13, e1, e2, e4, zi_n (by omega), zi_n (by omega), h56, hc, zi_s (a := at_), zi_n (k := s1.length) (by omega), hb, q13, q19]
          refine ⟨zi_in (by omega) (by omega), fun h => absurd h hat, fun _ => ⟨zi_in (by omega) (by omega), fun h => absurd h n1, fun _ => ⟨fun _ => ⟨fun h => absurd c3 h, fun _ => ⟨zi_in (by omega) (by omega), fun h => ⟨zi_in (by omega) (by omega), ?_⟩, fun h => ⟨zi_in (by omega) (by omega), ?_⟩⟩⟩, fun h => absurd n2 h⟩⟩⟩
          · rw [decide_eq_false h] at g1; exact g1
          · rw [decide_eq_true h] at g1; exact g1
        · by_cases c4 : c = 19
          · have ev : yEv1 nm c (b :: s1) = (-b) :: s1 := by unfold yEv1; rw [if_neg c1, if_neg c2, if_neg c3, if_pos c4]; rfl
            obtain ⟨im', g1, g2⟩ := go (up2 im 65 s1.length (-b)) (fun k hk => up_r hk) (by rw [up_row, ev]; exact yStk_push hS.2 rfl)
            rw [ev] at g1
            refine ⟨im', t_X12_says_12 ?_, g2⟩
            rw [h13, e1, e2, e4, zi_n (by omega), zi_n (by omega), h56, hc, zi_s (a := at_), zi_n (k := s1.length) (by omega), hb, q13, q19]
            exact ⟨zi_in (by omega) (by omega), fun h => absurd h hat, fun _ => ⟨zi_in (by omega) (by omega), fun h => absurd h n1, fun _ => ⟨fun _ => ⟨fun _ => ⟨fun h => absurd c4 h, fun _ => ⟨zi_in (by omega) (by omega), zi_in (by omega) (by omega), g1⟩⟩, fun h => absurd h c3⟩, fun h => absurd n2 h⟩⟩⟩
          · have hs2 : 2 ≤ s1.length + 1 := by
              unfold yDp1 at hk
              rw [if_neg c1, if_neg c2, if_neg (by omega)] at hk
              split at hk
              · split at hk
                · omega
                · cases hk
              · cases hk
            obtain ⟨a, s2, rfl⟩ : ∃ a s2, s1 = a :: s2 := by
              cases s1 with
              | nil => exact absurd hs2 (by decide)
              | cons a s2 => exact ⟨a, s2, rfl⟩
            have ha : im 65 s2.length = a := hS.2.1
            have ev : yEv1 nm c (b :: a :: s2) = zTwo (Int32.ofNat c) a b :: s2 := by unfold yEv1; rw [if_neg c1, if_neg c2, if_neg c3, if_neg c4]; rfl
            have e5 : Int32.ofNat (b :: a :: s2).length + (-1) = Int32.ofNat (a :: s2).length := by rw [← e4]; exact (Int32.sub_eq_add_neg _ _).symm
            have e6 : Int32.ofNat (a :: s2).length - 1 = Int32.ofNat s2.length := by rw [List.length_cons]; exact zi_p (by omega)
            obtain ⟨im', g1, g2⟩ := go (up2 im 65 s2.length (zTwo (Int32.ofNat c) a b)) (fun k hk => up_r hk) (by rw [up_row, ev]; exact yStk_push hS.2.2 rfl)
            rw [ev] at g1
            simp only [List.length_cons] at hl
            have l1 : (a :: s2).length < 200 := by rw [List.length_cons]; omega
            refine ⟨im', t_X12_says_12 ?_, g2⟩
            rw [h13, e1, e2, e5, e6, zi_n (by omega), zi_n (by omega), h56, hc, zi_s (a := at_), zi_n (k := s2.length) (by omega), zi_n (k := (a :: s2).length) (by omega), ha, hb, q13, q19]
            exact ⟨zi_in (by omega) (by omega), fun h => absurd h hat, fun _ => ⟨zi_in (by omega) (by omega), fun h => absurd h n1, fun _ => ⟨fun _ => ⟨fun _ => ⟨fun _ => ⟨zi_in (by omega) (by omega), zi_in l1 (by omega), _, _, m_two, zi_in (by omega) (by omega), g1⟩, fun h => absurd h c4⟩, fun h => absurd h c3⟩, fun h => absurd n2 h⟩⟩⟩
