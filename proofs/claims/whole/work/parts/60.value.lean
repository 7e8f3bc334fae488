/-! VALUE: what the class's text says, on a stack in a row of ints -/
theorem c_valLoop {d this L8 cc len e : Nat} {x1 x4 : Int32} {tl : List (Nat × Nat)} {q : zR} {nm : Nat → Int32} (hth : (zB ++ tl)[this]? = some (8, L8)) (hq : zRf q this 0 = some cc) (hcc : (zB ++ tl)[cc]? = some (20, len)) (h34 : cc ≠ 34) (hlen : len ≤ 160) (he : e ≤ len) :
    ∀ (cs : List Nat) (at_ : Nat) (s : List Int32) (im : zI), at_ + cs.length = e → (∀ i, i < cs.length → im cc (at_ + i) = yTr (cs.getD i 0)) → (∀ j, j < 6 → im 33 j = nm j) → yStk (im 34) s → s.length + cs.length ≤ 160 → yDp cs s.length = some 1 →
      ∃ im', zX (d + 1) zc_X8_valueOf 32 [(0, .ref this), (1, .int x1), (2, .ref 33), (3, .ref 34), (4, .int x4), (5, .int (Int32.ofNat e)), (6, .int (Int32.ofNat s.length)), (7, .int (Int32.ofNat at_))] [] (zMm tl q im) (fun x b => x = some (.int ((yEv nm cs s).headD 0)) ∧ b = zMm tl q im') ∧ (∀ k, k ≠ 34 → im' k = im k) := by
  intro cs
  induction cs with
  | nil =>
    intro at_ s im h1 h55 h66 hS hl hd
    have hat : at_ = e := by simpa using h1
    have hs1 : s.length = 1 := by have : some s.length = some 1 := hd; simpa using this
    obtain ⟨v, rfl⟩ := List.length_eq_one_iff.mp hs1
    refine ⟨im, t_X8_valueOf_32 ?_, fun _ _ => rfl⟩
    have : im 34 0 = v := hS.1
    rw [this]
    refine ⟨fun h => absurd h (zi_neg (by omega)), fun _ => ⟨fun _ => ⟨fun h => absurd h (by show ¬ (Int32.ofNat 1 ≤ 0); decide), fun _ => ⟨rfl, rfl⟩⟩, fun h => absurd ((zi_le (by omega) (by omega)).mpr (by omega)) h⟩⟩
  | cons c cs ih =>
    intro at_ s im h1 h55 h66 hS hl hd
    simp only [List.length_cons] at h1 hl
    have hc : im cc at_ = yTr c := by have := h55 0 (by simp); simpa using this
    have h55' : ∀ i, i < cs.length → im cc (at_ + 1 + i) = yTr (cs.getD i 0) := fun i hi => by
      have := h55 (i + 1) (by simp only [List.length_cons]; omega)
      rw [show at_ + 1 + i = at_ + (i + 1) by omega, this]
      rfl
    have hd' : ∃ k, yDp1 c s.length = some k ∧ yDp cs k = some 1 := by
      have : (yDp1 c s.length).bind (fun k => yDp cs k) = some 1 := hd
      cases hk : yDp1 c s.length with
      | none => rw [hk] at this; cases this
      | some k => rw [hk] at this; exact ⟨k, rfl, this⟩
    obtain ⟨k, hk, hd'⟩ := hd'
    have hlen2 := yDp1_len (nm := nm) hk
    have go : ∀ im1 : zI, (∀ k, k ≠ 34 → im1 k = im k) → yStk (im1 34) (yEv1 nm c s) → ∃ im', zX (d + 1) zc_X8_valueOf 32 [(0, .ref this), (1, .int x1), (2, .ref 33), (3, .ref 34), (4, .int x4), (5, .int (Int32.ofNat e)), (6, .int (Int32.ofNat (yEv1 nm c s).length)), (7, .int (Int32.ofNat (at_ + 1)))] [] (zMm tl q im1) (fun x b => x = some (.int ((yEv nm (c :: cs) s).headD 0)) ∧ b = zMm tl q im') ∧ (∀ k, k ≠ 34 → im' k = im k) := by
      intro im1 hk1 hS1
      have hl1 : (yEv1 nm c s).length ≤ s.length + 1 := by
        unfold yEv1
        split
        · simp
        · split
          · simp
          · split
            · simp only [List.length_cons, List.length_tail]; omega
            · split
              · simp only [List.length_cons, List.length_tail]; omega
              · simp only [List.length_cons, List.length_tail]; omega
      obtain ⟨im', g1, g2⟩ := ih (at_ + 1) (yEv1 nm c s) im1 (by omega) (fun i hi => by rw [hk1 cc h34]; exact h55' i hi) (fun j hj => by rw [hk1 33 (by decide)]; exact h66 j hj) hS1 (by omega) (by rw [hlen2]; exact hd')
      exact ⟨im', g1, fun k hk => by rw [g2 k hk, hk1 k hk]⟩
    have hat : ¬ Int32.ofNat e ≤ Int32.ofNat at_ := fun h => absurd ((zi_le (by omega) (by omega)).mp h) (by omega)
    have hat2 : ¬ Int32.ofNat len ≤ Int32.ofNat at_ := fun h => absurd ((zi_le (by omega) (by omega)).mp h) (by omega)
    have hx7 : ¬ Int32.ofNat at_ < 0 := zi_neg (by omega)
    by_cases c1 : 100000 ≤ c
    · have ev : yEv1 nm c s = Int32.ofNat (c - 100000) :: s := if_pos c1
      have et : yTr c = Int32.ofNat (c - 100000) := if_pos c1
      have hcb : c < 110000 := by
        unfold yDp1 at hk
        rw [if_pos c1] at hk
        by_cases h2 : c < 110000
        · exact h2
        · rw [if_neg h2] at hk; cases hk
      obtain ⟨im', g1, g2⟩ := go (up2 im 34 s.length (Int32.ofNat (c - 100000))) (fun k hk => up_r hk) (by rw [up_row, ev]; exact yStk_push hS rfl)
      rw [ev] at g1
      have ge6 : ¬ Int32.ofNat (c - 100000) < (-6 : Int32) := fun h => zi_neg (a := c - 100000) (by omega) (Int32.lt_trans h (by decide))
      refine ⟨im', t_X8_valueOf_32 ?_, g2⟩
      rw [hth, hq]
      simp only [Option.elim_some]
      rw [hcc, zi_n (by omega), hc, et, Int32.sub_zero, zi_n (by omega)]
      refine ⟨fun h => absurd h hx7, fun _ => ⟨fun h => absurd h hat, fun _ => ⟨fun h => absurd h hat2, fun _ => ⟨zi_in (show at_ < len by omega) (by omega), fun h => absurd h ge6, fun _ => ⟨fun h => absurd h (zi_neg (by omega)), fun _ => ⟨fun _ => ⟨fun h => absurd h (zi_neg (by omega)), fun _ => ⟨zi_in (by omega) (by omega), ?_⟩⟩, fun h => absurd ((zi_lt (by omega) (by omega)).mpr (by omega)) h⟩⟩⟩⟩⟩⟩
      rw [zi_s (a := s.length), zi_s (a := at_)]
      exact g1
    · by_cases c2 : c < 6
      · have ev : yEv1 nm c s = nm c :: s := by unfold yEv1; rw [if_neg c1, if_pos c2]
        have et : yTr c = -1 - Int32.ofNat c := by unfold yTr; rw [if_neg c1, if_pos c2]
        have hneg : ∀ c : Fin 6, ¬ (-1 - Int32.ofNat c.1) < (-6 : Int32) ∧ (-1 - Int32.ofNat c.1) < 0 ∧ (-1 : Int32) - (-1 - Int32.ofNat c.1) = Int32.ofNat c.1 := by decide +kernel
        obtain ⟨y1, y2, y3⟩ := hneg ⟨c, c2⟩
        obtain ⟨im', g1, g2⟩ := go (up2 im 34 s.length (nm c)) (fun k hk => up_r hk) (by rw [up_row, ev]; exact yStk_push hS rfl)
        rw [ev] at g1
        refine ⟨im', t_X8_valueOf_32 ?_, g2⟩
        rw [hth, hq]
        simp only [Option.elim_some]
        rw [hcc, zi_n (by omega), hc, et, Int32.sub_zero, zi_n (by omega), y3, zi_n (by omega), h66 c c2]
        refine ⟨fun h => absurd h hx7, fun _ => ⟨fun h => absurd h hat, fun _ => ⟨fun h => absurd h hat2, fun _ => ⟨zi_in (show at_ < len by omega) (by omega), fun h => absurd h y1, fun _ => ⟨fun h => absurd h (zi_neg (by omega)), fun _ => ⟨fun _ => ⟨fun _ => ⟨zi_in (by omega) (by omega), zi_in (by omega) (by omega), ?_⟩, fun h => absurd y2 h⟩, fun h => absurd ((zi_lt (by omega) (by omega)).mpr (by omega)) h⟩⟩⟩⟩⟩⟩
        rw [zi_s (a := s.length), zi_s (a := at_)]
        exact g1
      · have hs1 : 1 ≤ s.length := by
          unfold yDp1 at hk
          rw [if_neg c1, if_neg c2] at hk
          split at hk
          · split at hk
            · omega
            · cases hk
          · split at hk
            · split at hk
              · omega
              · cases hk
            · cases hk
        obtain ⟨b, s1, rfl⟩ : ∃ b s1, s = b :: s1 := by
          cases s with
          | nil => exact absurd hs1 (by decide)
          | cons b s1 => exact ⟨b, s1, rfl⟩
        have hb : im 34 s1.length = b := hS.1
        have e4 : Int32.ofNat (b :: s1).length - 1 = Int32.ofNat s1.length := by rw [List.length_cons]; exact zi_p (by omega)
        simp only [List.length_cons] at hl hk
        have e7 : ¬ Int32.ofNat (b :: s1).length < 1 := by
          rw [List.length_cons]
          exact fun h => absurd ((zi_lt (b := 1) (by omega) (by omega)).mp h) (by omega)
        by_cases c3 : c = 13
        · have ev : yEv1 nm c (b :: s1) = zb (decide (b = 0)) :: s1 := by unfold yEv1; rw [if_neg c1, if_neg c2, if_pos c3]; rfl
          have et : yTr c = -12 := by rw [c3]; rfl
          obtain ⟨im', g1, g2⟩ := go (up2 im 34 s1.length (zb (decide (b = 0)))) (fun k hk => up_r hk) (by rw [up_row, ev]; exact yStk_push hS.2 rfl)
          rw [ev] at g1
          refine ⟨im', t_X8_valueOf_32 ?_, g2⟩
          rw [hth, hq]
          simp only [Option.elim_some]
          rw [hcc, zi_n (k := at_) (by omega), hc, et, e4, zi_n (k := s1.length) (by omega), hb, zi_s (a := at_), zi_s (a := s1.length)]
          refine ⟨fun h => absurd h hx7, fun _ => ⟨fun h => absurd h hat, fun _ => ⟨fun h => absurd h hat2, fun _ => ⟨zi_in (show at_ < len by omega) (by omega), fun _ => ⟨fun h => absurd h (by decide), fun _ => ⟨fun h => absurd h e7, fun _ => ⟨fun _ => ⟨fun _ => ⟨zi_in (by omega) (by omega), fun h => ⟨zi_in (by omega) (by omega), ?_⟩, fun h => ⟨zi_in (by omega) (by omega), ?_⟩⟩, fun h => absurd h (by decide)⟩, fun h => absurd ((zi_lt (by omega) (by omega)).mpr (by omega)) h⟩⟩⟩, fun h => absurd (by decide) h⟩⟩⟩⟩
          · rw [decide_eq_false h] at g1; exact g1
          · rw [decide_eq_true h] at g1; exact g1
        · by_cases c4 : c = 19
          · have ev : yEv1 nm c (b :: s1) = (-b) :: s1 := by unfold yEv1; rw [if_neg c1, if_neg c2, if_neg c3, if_pos c4]; rfl
            have et : yTr c = -11 := by rw [c4]; rfl
            obtain ⟨im', g1, g2⟩ := go (up2 im 34 s1.length (-b)) (fun k hk => up_r hk) (by rw [up_row, ev]; exact yStk_push hS.2 rfl)
            rw [ev] at g1
            refine ⟨im', t_X8_valueOf_32 ?_, g2⟩
            rw [hth, hq]
            simp only [Option.elim_some]
            rw [hcc, zi_n (k := at_) (by omega), hc, et, e4, zi_n (k := s1.length) (by omega), hb, zi_s (a := at_), zi_s (a := s1.length)]
            exact ⟨fun h => absurd h hx7, fun _ => ⟨fun h => absurd h hat, fun _ => ⟨fun h => absurd h hat2, fun _ => ⟨zi_in (show at_ < len by omega) (by omega), fun _ => ⟨fun h => absurd h (by decide), fun _ => ⟨fun h => absurd h e7, fun _ => ⟨fun _ => ⟨fun h => absurd rfl h, fun _ => ⟨zi_in (by omega) (by omega), zi_in (by omega) (by omega), g1⟩⟩, fun h => absurd ((zi_lt (by omega) (by omega)).mpr (by omega)) h⟩⟩⟩, fun h => absurd (by decide) h⟩⟩⟩⟩
          · have h2 : 2 ≤ s1.length + 1 ∧ (c = 11 ∨ c = 12 ∨ c = 14 ∨ c = 15 ∨ c = 16 ∨ c = 17 ∨ c = 18) := by
              unfold yDp1 at hk
              rw [if_neg c1, if_neg c2, if_neg (by omega)] at hk
              split at hk
              · rename_i h3
                split at hk
                · exact ⟨by omega, h3⟩
                · cases hk
              · cases hk
            obtain ⟨a, s2, rfl⟩ : ∃ a s2, s1 = a :: s2 := by
              cases s1 with
              | nil => exact absurd h2.1 (by decide)
              | cons a s2 => exact ⟨a, s2, rfl⟩
            have ha : im 34 s2.length = a := hS.2.1
            have ev : yEv1 nm c (b :: a :: s2) = zTwo (Int32.ofNat c) a b :: s2 := by unfold yEv1; rw [if_neg c1, if_neg c2, if_neg c3, if_neg c4]; rfl
            have et : yTr c < -12 ∧ yTr c < -6 := by
              rcases h2.2 with h | h | h | h | h | h | h <;> subst h <;> exact ⟨by decide, by decide⟩
            simp only [List.length_cons] at hl
            have e5 : Int32.ofNat (b :: a :: s2).length - 2 = Int32.ofNat s2.length := (Int32.ofNat_sub (s2.length + 2) 2 (by omega)).symm
            have e8 : Int32.ofNat s2.length + 1 = Int32.ofNat (a :: s2).length := zi_s
            have e9 : ¬ Int32.ofNat (b :: a :: s2).length < 2 := by
              rw [List.length_cons, List.length_cons]
              exact fun h => absurd ((zi_lt (b := 2) (by omega) (by omega)).mp h) (by omega)
            obtain ⟨im', g1, g2⟩ := go (up2 im 34 s2.length (zTwo (Int32.ofNat c) a b)) (fun k hk => up_r hk) (by rw [up_row, ev]; exact yStk_push hS.2.2 rfl)
            rw [ev] at g1
            have l1 : (a :: s2).length < 160 := by rw [List.length_cons]; omega
            refine ⟨im', t_X8_valueOf_32 ?_, g2⟩
            rw [hth, hq]
            simp only [Option.elim_some]
            rw [hcc, zi_n (k := at_) (by omega), hc, e5, e8, zi_n (k := s2.length) (by omega), zi_n (k := (a :: s2).length) (by omega), ha, hb, zi_s (a := at_)]
            refine ⟨fun h => absurd h hx7, fun _ => ⟨fun h => absurd h hat, fun _ => ⟨fun h => absurd h hat2, fun _ => ⟨zi_in (show at_ < len by omega) (by omega), fun _ => ⟨fun _ => ⟨fun h => absurd h e9, fun _ => ⟨fun _ => ⟨zi_in (by omega) (by omega), zi_in l1 (by omega), _, _, c_join, zi_in (by omega) (by omega), ?_⟩, fun h => absurd ((zi_lt (by omega) (by omega)).mpr (by omega)) h⟩⟩, fun h => absurd et.1 h⟩, fun h => absurd et.2 h⟩⟩⟩⟩
            rw [yTr_two h2.2]
            exact g1
