/-! THE MODEL READS: signs are held till one that binds less comes. As a run over tokens; it does what the rules say -/
def yxRk (s : Nat) : Nat := if s = 0 then 0 else if s = 11 then 1 else if s = 12 then 2 else if s = 13 then 3 else if s ≤ 15 then 4 else if s ≤ 17 then 5 else if s = 18 then 6 else 7
def yxUw (l : Nat) : List Nat → List Nat → List Nat × List Nat
  | [], out => ([], out)
  | h :: t, out => if l ≤ yxRk h then yxUw l t (out ++ [h]) else (h :: t, out)
def yxCt : List Nat → Nat
  | [] => 0
  | h :: t => (if h = 0 ∨ h = 13 ∨ h = 19 then 1 else 0) + yxCt t
def yxSg (T : Nat × Nat) : Option Nat := if T.1 = 4 then some 11 else if T.1 = 5 then some 12 else if T = (8, 60) then some 14 else if T = (8, 61) then some 15 else if T = (8, 43) then some 16 else if T = (8, 45) then some 17 else if T = (8, 42) then some 18 else none
def yxTp (b : Nat) (H : List Nat) : Prop := ∀ h t, H = h :: t → yxRk h < b
theorem yxTp_0 {b : Nat} : yxTp b [] := fun _ _ h => by cases h
theorem yxTp_c {b h : Nat} {t : List Nat} (hh : yxRk h < b) : yxTp b (h :: t) := fun x y e => by
  injection e with e1 e2
  rw [← e1]
  exact hh
theorem yxTp_m {b b' : Nat} {H : List Nat} (h : yxTp b H) (hb : b ≤ b') : yxTp b' H := fun x t e => Nat.lt_of_lt_of_le (h x t e) hb
theorem yxUw_t {l : Nat} {H out : List Nat} (h : yxTp l H) : yxUw l H out = (H, out) := by
  cases H with
  | nil => rfl
  | cons x t =>
    unfold yxUw
    have := h x t rfl
    rw [if_neg (by omega)]
theorem yxUw_a {l : Nat} {H : List Nat} : ∀ {P out : List Nat}, (∀ x, x ∈ P → l ≤ yxRk x) → yxUw l (P ++ H) out = yxUw l H (out ++ P)
  | [], out, _ => by rw [List.append_nil]; rfl
  | x :: P, out, h => by
    show (if l ≤ yxRk x then yxUw l (P ++ H) (out ++ [x]) else _) = _
    rw [if_pos (h x (List.mem_cons_self ..)), yxUw_a (fun y hy => h y (List.mem_cons_of_mem _ hy)), List.append_assoc]
    rfl
theorem yxUw_p {l : Nat} {H P out : List Nat} (hP : ∀ x, x ∈ P → l ≤ yxRk x) (h : yxTp l H) : yxUw l (P ++ H) out = (H, out ++ P) := (yxUw_a hP).trans (yxUw_t h)
def yxMr (B : Nat → Int32) (n : Nat) : Nat → yxS3 → List Nat → Bool → Bool → List Nat → Sum Nat (Nat × List Nat)
  | 0, S, _, _, _, _ => .inl S.2.1
  | f + 1, S, H, true, N, out =>
    if S.1.1 = 2 then yxMr B n f (yxAd B n S.2.2) (yxUw 7 H (out ++ [100000 + S.1.2])).1 false N (yxUw 7 H (out ++ [100000 + S.1.2])).2
    else if S.1.1 = 7 then yxMr B n f (yxAd B n S.2.2) (yxUw 7 H (out ++ [S.1.2])).1 false N (yxUw 7 H (out ++ [S.1.2])).2
    else if S.1.1 = 6 ∧ N = true then (if 5 ≤ yxCt H then .inl S.2.1 else yxMr B n f (yxAd B n S.2.2) (13 :: H) true N out)
    else if S.1 = (8, 45) then (if 5 ≤ yxCt H then .inl S.2.1 else yxMr B n f (yxAd B n S.2.2) (19 :: H) true false out)
    else if S.1 = (8, 40) then (if 5 ≤ yxCt H then .inl S.2.1 else yxMr B n f (yxAd B n S.2.2) (0 :: H) true true out)
    else .inl S.2.1
  | f + 1, S, H, false, N, out =>
    if S.1 = (8, 59) then (if (yxUw 1 H out).1 = [] then .inr (S.2.2, (yxUw 1 H out).2) else .inl S.2.1)
    else if S.1 = (8, 41) then (match (yxUw 1 H out).1 with
      | [] => .inl S.2.1
      | _ :: t => yxMr B n f (yxAd B n S.2.2) (yxUw 7 t (yxUw 1 H out).2).1 false N (yxUw 7 t (yxUw 1 H out).2).2)
    else match yxSg S.1 with
      | none => .inl S.2.1
      | some c => if yxRk c = 4 ∧ yxRk ((yxUw (if yxRk c = 4 then 5 else yxRk c) H out).1.headD 0) = 4 then .inl S.2.1
        else yxMr B n f (yxAd B n S.2.2) (c :: (yxUw (if yxRk c = 4 then 5 else yxRk c) H out).1) true (decide (c ≤ 12)) (yxUw (if yxRk c = 4 then 5 else yxRk c) H out).2
theorem yxMr_w {B : Nat → Int32} {n f : Nat} {S : yxS3} {H out : List Nat} {N : Bool} : yxMr B n (f + 1) S H true N out =
    if S.1.1 = 2 then yxMr B n f (yxAd B n S.2.2) (yxUw 7 H (out ++ [100000 + S.1.2])).1 false N (yxUw 7 H (out ++ [100000 + S.1.2])).2
    else if S.1.1 = 7 then yxMr B n f (yxAd B n S.2.2) (yxUw 7 H (out ++ [S.1.2])).1 false N (yxUw 7 H (out ++ [S.1.2])).2
    else if S.1.1 = 6 ∧ N = true then (if 5 ≤ yxCt H then .inl S.2.1 else yxMr B n f (yxAd B n S.2.2) (13 :: H) true N out)
    else if S.1 = (8, 45) then (if 5 ≤ yxCt H then .inl S.2.1 else yxMr B n f (yxAd B n S.2.2) (19 :: H) true false out)
    else if S.1 = (8, 40) then (if 5 ≤ yxCt H then .inl S.2.1 else yxMr B n f (yxAd B n S.2.2) (0 :: H) true true out)
    else .inl S.2.1 := rfl
theorem yxMr_v {B : Nat → Int32} {n f : Nat} {S : yxS3} {H out : List Nat} {N : Bool} : yxMr B n (f + 1) S H false N out =
    if S.1 = (8, 59) then (if (yxUw 1 H out).1 = [] then .inr (S.2.2, (yxUw 1 H out).2) else .inl S.2.1)
    else if S.1 = (8, 41) then (match (yxUw 1 H out).1 with
      | [] => .inl S.2.1
      | _ :: t => yxMr B n f (yxAd B n S.2.2) (yxUw 7 t (yxUw 1 H out).2).1 false N (yxUw 7 t (yxUw 1 H out).2).2)
    else match yxSg S.1 with
      | none => .inl S.2.1
      | some c => if yxRk c = 4 ∧ yxRk ((yxUw (if yxRk c = 4 then 5 else yxRk c) H out).1.headD 0) = 4 then .inl S.2.1
        else yxMr B n f (yxAd B n S.2.2) (c :: (yxUw (if yxRk c = 4 then 5 else yxRk c) H out).1) true (decide (c ≤ 12)) (yxUw (if yxRk c = 4 then 5 else yxRk c) H out).2 := rfl
/-- a sign between two that can stand -/
theorem yxMr_s {B : Nat → Int32} {n f c : Nat} {S : yxS3} {P H out : List Nat} {N : Bool} (hc : yxSg S.1 = some c) (h1 : S.1 ≠ (8, 59)) (h2 : S.1 ≠ (8, 41)) (m : Nat) (hm : (if yxRk c = 4 then 5 else yxRk c) = m) (hP : ∀ x, x ∈ P → m ≤ yxRk x) (hH : yxTp m H) (h4 : ¬ (yxRk c = 4 ∧ yxRk (H.headD 0) = 4)) :
    yxMr B n (f + 1) S (P ++ H) false N out = yxMr B n f (yxAd B n S.2.2) (c :: H) true (decide (c ≤ 12)) (out ++ P) := by
  rw [yxMr_v, if_neg h1, if_neg h2, hc]
  simp only [hm, yxUw_p hP hH]
  rw [if_neg h4]
def yxFw (X : List Nat) : Prop := ∃ X1 c X2, X = X1 ++ c :: X2 ∧ (∀ x, x ∈ X1 → 5 ≤ yxRk x) ∧ yxRk c = 4
/-- what can follow behind a level -/
def yxFo (l : Nat) (T : Nat × Nat) (X : List Nat) : Prop := (1 ≤ l → yxOT T = none) ∧ (2 ≤ l → yxOS T = none) ∧ (3 ≤ l → ∀ c, yxOC T = some c → yxFw X) ∧ (4 ≤ l → yxOA T = none) ∧ (5 ≤ l → yxOO T = none)
theorem yxSg_c {T : Nat × Nat} {c : Nat} (h : yxSg T = some c) : yxOT T = some c ∨ yxOS T = some c ∨ yxOA T = some c ∨ yxOO T = some c ∨ (yxOC T = some c ∧ yxRk c = 4) := by
  unfold yxSg at h
  by_cases h1 : T.1 = 4
  · rw [if_pos h1] at h
    refine .inr (.inr (.inr (.inl ?_)))
    unfold yxOO
    rw [if_pos h1]
    exact h
  · rw [if_neg h1] at h
    by_cases h2 : T.1 = 5
    · rw [if_pos h2] at h
      refine .inr (.inr (.inl ?_))
      unfold yxOA
      rw [if_pos h2]
      exact h
    · rw [if_neg h2] at h
      by_cases h3 : T = (8, 60)
      · rw [if_pos h3] at h
        injection h with h
        subst h
        subst h3
        exact .inr (.inr (.inr (.inr ⟨rfl, rfl⟩)))
      · rw [if_neg h3] at h
        by_cases h4 : T = (8, 61)
        · rw [if_pos h4] at h
          injection h with h
          subst h
          subst h4
          exact .inr (.inr (.inr (.inr ⟨rfl, rfl⟩)))
        · rw [if_neg h4] at h
          by_cases h5 : T = (8, 43)
          · rw [if_pos h5] at h
            subst h5
            exact .inr (.inl h)
          · rw [if_neg h5] at h
            by_cases h6 : T = (8, 45)
            · rw [if_pos h6] at h
              subst h6
              exact .inr (.inl h)
            · rw [if_neg h6] at h
              by_cases h7 : T = (8, 42)
              · rw [if_pos h7] at h
                subst h7
                exact .inl h
              · rw [if_neg h7] at h
                cases h
/-- what ends an E and is no sign that ends one: a fault -/
theorem yxMr_bad {B : Nat → Int32} {n f : Nat} {S : yxS3} {X out : List Nat} {N : Bool} (h1 : S.1 ≠ (8, 59)) (h2 : S.1 ≠ (8, 41)) (hF : yxFo 5 S.1 X) : yxMr B n (f + 1) S X false N out = .inl S.2.1 := by
  rw [yxMr_v, if_neg h1, if_neg h2]
  cases hc : yxSg S.1 with
  | none => rfl
  | some c =>
    obtain ⟨f1, f2, f3, f4, f5⟩ := hF
    have f1 := f1 (by omega)
    have f2 := f2 (by omega)
    have f3 := f3 (by omega)
    have f4 := f4 (by omega)
    have f5 := f5 (by omega)
    rcases yxSg_c hc with h | h | h | h | ⟨h, hr⟩
    · rw [f1] at h; cases h
    · rw [f2] at h; cases h
    · rw [f4] at h; cases h
    · rw [f5] at h; cases h
    · obtain ⟨X1, c', X2, e, e1, e2⟩ := f3 c h
      subst e
      simp only [hr, if_true]
      rw [yxUw_p e1 (yxTp_c (by omega))]
      show (if True ∧ yxRk c' = 4 then _ else _) = _
      rw [if_pos ⟨trivial, e2⟩]
