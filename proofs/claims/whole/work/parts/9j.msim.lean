/-! THE MODEL READS as the rules say: each level -/
def yxNC (l : Nat) (N : Bool) (S : yxS3) : Prop := (l ≤ 2 → N = true → S.1.1 ≠ 6) ∧ (3 ≤ l → N = true)
def yxHb (l : Nat) : Nat := [7, 6, 5, 4, 2, 1].getD l 0
def yxPb (l : Nat) : Nat := [8, 6, 5, 3, 2, 1].getD l 0
/-- what a level does, begun at S over what is held -/
def yxSm (B : Nat → Int32) (n l o : Nat) (r : yxS3 → yxRs) : Prop :=
  ∀ (S : yxS3) (H out : List Nat) (N : Bool) (f : Nat), yxOk n S → n < f + S.2.1 → yxTp (yxHb l) H → yxNC l N S → yxCt H = o →
    match r S with
    | .inl e => yxMr B n f S H true N out = .inl e
    | .inr (S', a) => yxOk n S' ∧ S.2.1 < S'.2.1 ∧ ∃ f' N' P out', n < f' + S'.2.1 ∧ yxMr B n f S H true N out = yxMr B n f' S' (P ++ H) false N' out' ∧ out' ++ P = out ++ a ∧ (∀ x, x ∈ P → yxPb l ≤ yxRk x) ∧ yxFo l S'.1 (P ++ H)
/-- likewise one: also what is held ahead of it comes -/
def yxSm0 (B : Nat → Int32) (n o : Nat) (r : yxS3 → yxRs) : Prop :=
  ∀ (S : yxS3) (H out : List Nat) (N : Bool) (f : Nat), yxOk n S → n < f + S.2.1 → yxNC 0 N S → yxCt H = o →
    match r S with
    | .inl e => yxMr B n f S H true N out = .inl e
    | .inr (S', a) => yxOk n S' ∧ S.2.1 < S'.2.1 ∧ ∃ f' N', n < f' + S'.2.1 ∧ yxMr B n f S H true N out = yxMr B n f' S' (yxUw 7 H (out ++ a)).1 false N' (yxUw 7 H (out ++ a)).2
theorem yxFo_0 {T : Nat × Nat} {X : List Nat} : yxFo 0 T X := ⟨fun h => absurd h (by decide), fun h => absurd h (by decide), fun h => absurd h (by decide), fun h => absurd h (by decide), fun h => absurd h (by decide)⟩
theorem yxSm0.m {B : Nat → Int32} {n o : Nat} {r : yxS3 → yxRs} (h : yxSm0 B n o r) : yxSm B n 0 o r := by
  intro S H out N f h1 h2 h3 h4 h5
  have hh := h S H out N f h1 h2 h4 h5
  cases hr : r S with
  | inl e =>
    rw [hr] at hh
    exact hh
  | inr Q =>
    obtain ⟨S', a⟩ := Q
    rw [hr] at hh
    obtain ⟨a1, a2, f', N', a3, a4⟩ := hh
    rw [yxUw_t (show yxTp 7 H from h3)] at a4
    exact ⟨a1, a2, f', N', [], out ++ a, a3, a4, List.append_nil _, fun _ hx => absurd hx (List.not_mem_nil), yxFo_0⟩
theorem yxCh_m {B : Nat → Int32} {n l l' o : Nat} {r : yxS3 → yxRs} {op : Nat × Nat → Option Nat} (hn : n ≤ 160) (hBb : ∀ k, k < n → ∃ c, c < 256 ∧ B k = Int32.ofNat c) (hs : yxSm B n l' o r)
    (h1 : yxHb l ≤ yxPb l ∧ yxPb l ≤ yxPb l' ∧ yxPb l < yxHb l' ∧ yxPb l ≠ 4 ∧ yxHb l ≤ yxHb l')
    (hop : ∀ T c, op T = some c → yxSg T = some c ∧ yxRk c = yxPb l ∧ (∀ H, yxCt (c :: H) = yxCt H) ∧ T ≠ (8, 59) ∧ T ≠ (8, 41) ∧ T.1 ≠ 0 ∧ ∀ S, yxNC l' (decide (c ≤ 12)) S) (hFo : ∀ T X, yxFo l' T X → op T = none → yxFo l T X) :
    ∀ (ch : Nat) (S : yxS3) (a P out : List Nat) (N : Bool) (f : Nat) (H O : List Nat), yxOk n S → n < f + S.2.1 → 160 < ch + S.2.1 → yxTp (yxHb l) H → yxCt H = o → out ++ P = O ++ a → (∀ x, x ∈ P → yxPb l ≤ yxRk x) → yxFo l' S.1 (P ++ H) →
      match yxCh B n r op ch S a with
      | .inl e => yxMr B n f S (P ++ H) false N out = .inl e
      | .inr (S', a') => yxOk n S' ∧ S.2.1 ≤ S'.2.1 ∧ ∃ f' N' P' out', n < f' + S'.2.1 ∧ yxMr B n f S (P ++ H) false N out = yxMr B n f' S' (P' ++ H) false N' out' ∧ out' ++ P' = O ++ a' ∧ (∀ x, x ∈ P' → yxPb l ≤ yxRk x) ∧ yxFo l S'.1 (P' ++ H) := by
  intro ch
  induction ch with
  | zero =>
    intro S a P out N f H O hk hf hc hT hC he hP hF
    have h1 := hk.1
    have h2 := hk.2.1
    omega
  | succ ch ih =>
    intro S a P out N f H O hk hf hc hT hC he hP hF
    unfold yxCh
    cases ho : op S.1 with
    | none => exact ⟨hk, Nat.le_refl _, f, N, P, out, hf, rfl, he, hP, hFo _ _ hF ho⟩
    | some c =>
      obtain ⟨p1, p2, p3, p4, p5, p6, p7⟩ := hop _ _ ho
      have hlt := hk.2.2.1 p6
      have hS2 := hk.2.1
      match f, hf with
      | 0, hf => exact absurd hf (by omega)
      | f + 1, hf =>
        obtain ⟨k1, k2⟩ := yxAd_ok (B := B) hBb hk.2.1
        have hT2 : yxTp (yxPb l) H := yxTp_m hT h1.1
        have st := yxMr_s (B := B) (n := n) (f := f) (P := P) (H := H) (out := out) (N := N) p1 p4 p5 (yxPb l) (by rw [p2, if_neg h1.2.2.2.1]) hP hT2 (fun hh => h1.2.2.2.1 (p2.symm.trans hh.1))
        simp only [st]
        have hq := hs (yxAd B n S.2.2) (c :: H) (out ++ P) (decide (c ≤ 12)) f k1 (by omega) (yxTp_c (by rw [p2]; exact h1.2.2.1)) (p7 _) (by rw [p3]; exact hC)
        cases hr : r (yxAd B n S.2.2) with
        | inl e =>
          rw [hr] at hq
          exact hq
        | inr Q =>
          obtain ⟨S', a2⟩ := Q
          rw [hr] at hq
          obtain ⟨b1, b2, f2, N2, P2, out2, b3, b4, b5, b6, b7⟩ := hq
          have eP : (P2 ++ [c]) ++ H = P2 ++ c :: H := by rw [List.append_assoc]; rfl
          have hi := ih S' (a ++ a2 ++ [c]) (P2 ++ [c]) out2 N2 f2 H O b1 b3 (by omega) hT hC (by rw [← List.append_assoc, b5, he]; simp only [List.append_assoc]) (fun x hx => by
            rcases List.mem_append.mp hx with hx | hx
            · exact Nat.le_trans h1.2.1 (b6 x hx)
            · rw [List.mem_singleton.mp hx, p2]
              exact Nat.le_refl _) (by rw [eP]; exact b7)
          rw [eP] at hi
          cases hw : yxCh B n r op ch S' (a ++ a2 ++ [c]) with
          | inl e =>
            rw [hw] at hi
            simp only [hw]
            exact b4.trans hi
          | inr Q2 =>
            obtain ⟨S'', a''⟩ := Q2
            rw [hw] at hi
            simp only [hw]
            obtain ⟨i1, i2, f3, N3, P3, out3, i3, i4, i5, i6, i7⟩ := hi
            exact ⟨i1, by omega, f3, N3, P3, out3, i3, b4.trans i4, i5, i6, i7⟩
theorem yxBi_m {B : Nat → Int32} {n l l' o : Nat} {r : yxS3 → yxRs} {op : Nat × Nat → Option Nat} (hn : n ≤ 160) (hBb : ∀ k, k < n → ∃ c, c < 256 ∧ B k = Int32.ofNat c) (hs : yxSm B n l' o r)
    (h1 : yxHb l ≤ yxPb l ∧ yxPb l ≤ yxPb l' ∧ yxPb l < yxHb l' ∧ yxPb l ≠ 4 ∧ yxHb l ≤ yxHb l')
    (hop : ∀ T c, op T = some c → yxSg T = some c ∧ yxRk c = yxPb l ∧ (∀ H, yxCt (c :: H) = yxCt H) ∧ T ≠ (8, 59) ∧ T ≠ (8, 41) ∧ T.1 ≠ 0 ∧ ∀ S, yxNC l' (decide (c ≤ 12)) S) (hFo : ∀ T X, yxFo l' T X → op T = none → yxFo l T X) (hN : ∀ N S, yxNC l N S → yxNC l' N S) : yxSm B n l o (yxBi B n r op) := by
  intro S H out N f hk hf hT hNC hC
  have hq := hs S H out N f hk hf (yxTp_m hT h1.2.2.2.2) (hN _ _ hNC) hC
  unfold yxBi
  cases hr : r S with
  | inl e =>
    rw [hr] at hq
    exact hq
  | inr Q =>
    obtain ⟨S', a⟩ := Q
    rw [hr] at hq
    obtain ⟨b1, b2, f2, N2, P2, out2, b3, b4, b5, b6, b7⟩ := hq
    have hi := yxCh_m hn hBb hs h1 hop hFo 160 S' a P2 out2 N2 f2 H out b1 b3 (by omega) hT hC b5 (fun x hx => Nat.le_trans h1.2.1 (b6 x hx)) b7
    cases hw : yxCh B n r op 160 S' a with
    | inl e =>
      rw [hw] at hi
      simp only [hw]
      exact b4.trans hi
    | inr Q2 =>
      obtain ⟨S'', a''⟩ := Q2
      rw [hw] at hi
      simp only [hw]
      obtain ⟨i1, i2, f3, N3, P3, out3, i3, i4, i5, i6, i7⟩ := hi
      exact ⟨i1, by omega, f3, N3, P3, out3, i3, b4.trans i4, i5, i6, i7⟩
theorem yxCt_n {c : Nat} (h : ¬ (c = 0 ∨ c = 13 ∨ c = 19)) : ∀ H, yxCt (c :: H) = yxCt H := fun H => by
  show (if _ then 1 else 0) + _ = _
  rw [if_neg h, Nat.zero_add]
theorem yxNC_f {l : Nat} (h : l ≤ 2) : ∀ S, yxNC l false S := fun _ => ⟨fun _ h => absurd h (by decide), fun hh => absurd hh (by omega)⟩
theorem yxNC_t {l : Nat} (h : 3 ≤ l) : ∀ S, yxNC l true S := fun _ => ⟨fun hh => absurd hh (by omega), fun _ => rfl⟩
theorem yxOT_s {T : Nat × Nat} {c : Nat} (h : yxOT T = some c) : T = (8, 42) ∧ c = 18 := by
  unfold yxOT at h
  by_cases e : T = (8, 42)
  · rw [if_pos e] at h
    injection h with h
    exact ⟨e, h.symm⟩
  · rw [if_neg e] at h
    cases h
theorem yxOS_s {T : Nat × Nat} {c : Nat} (h : yxOS T = some c) : (T = (8, 43) ∧ c = 16) ∨ (T = (8, 45) ∧ c = 17) := by
  unfold yxOS at h
  by_cases e : T = (8, 43)
  · rw [if_pos e] at h
    injection h with h
    exact .inl ⟨e, h.symm⟩
  · rw [if_neg e] at h
    by_cases e : T = (8, 45)
    · rw [if_pos e] at h
      injection h with h
      exact .inr ⟨e, h.symm⟩
    · rw [if_neg e] at h
      cases h
theorem yxOC_s {T : Nat × Nat} {c : Nat} (h : yxOC T = some c) : (T = (8, 60) ∧ c = 14) ∨ (T = (8, 61) ∧ c = 15) := by
  unfold yxOC at h
  by_cases e : T = (8, 60)
  · rw [if_pos e] at h
    injection h with h
    exact .inl ⟨e, h.symm⟩
  · rw [if_neg e] at h
    by_cases e : T = (8, 61)
    · rw [if_pos e] at h
      injection h with h
      exact .inr ⟨e, h.symm⟩
    · rw [if_neg e] at h
      cases h
theorem yxOA_s {T : Nat × Nat} {c : Nat} (h : yxOA T = some c) : T.1 = 5 ∧ c = 12 := by
  unfold yxOA at h
  by_cases e : T.1 = 5
  · rw [if_pos e] at h
    injection h with h
    exact ⟨e, h.symm⟩
  · rw [if_neg e] at h
    cases h
theorem yxOO_s {T : Nat × Nat} {c : Nat} (h : yxOO T = some c) : T.1 = 4 ∧ c = 11 := by
  unfold yxOO at h
  by_cases e : T.1 = 4
  · rw [if_pos e] at h
    injection h with h
    exact ⟨e, h.symm⟩
  · rw [if_neg e] at h
    cases h
theorem yxSm_1 {B : Nat → Int32} {n o : Nat} {r : yxS3 → yxRs} (hn : n ≤ 160) (hBb : ∀ k, k < n → ∃ c, c < 256 ∧ B k = Int32.ofNat c) (hs : yxSm B n 0 o r) : yxSm B n 1 o (yxBi B n r yxOT) :=
  yxBi_m hn hBb hs (by decide) (fun T c h => by
    obtain ⟨e1, e2⟩ := yxOT_s h
    subst e1
    subst e2
    exact ⟨rfl, rfl, yxCt_n (by decide), by decide, by decide, show (8 : Nat) ≠ 0 by decide, yxNC_f (by decide)⟩)
    (fun T X _ ho => ⟨fun _ => ho, fun h => absurd h (by decide), fun h => absurd h (by decide), fun h => absurd h (by decide), fun h => absurd h (by decide)⟩)
    (fun N S h => ⟨fun _ => h.1 (by decide), fun hh => absurd hh (by decide)⟩)
theorem yxSm_2 {B : Nat → Int32} {n o : Nat} {r : yxS3 → yxRs} (hn : n ≤ 160) (hBb : ∀ k, k < n → ∃ c, c < 256 ∧ B k = Int32.ofNat c) (hs : yxSm B n 1 o r) : yxSm B n 2 o (yxBi B n r yxOS) :=
  yxBi_m hn hBb hs (by decide) (fun T c h => by
    rcases yxOS_s h with ⟨e1, e2⟩ | ⟨e1, e2⟩
    · subst e1
      subst e2
      exact ⟨rfl, rfl, yxCt_n (by decide), by decide, by decide, show (8 : Nat) ≠ 0 by decide, yxNC_f (by decide)⟩
    · subst e1
      subst e2
      exact ⟨rfl, rfl, yxCt_n (by decide), by decide, by decide, show (8 : Nat) ≠ 0 by decide, yxNC_f (by decide)⟩)
    (fun T X h ho => ⟨fun _ => h.1 (by decide), fun _ => ho, fun h => absurd h (by decide), fun h => absurd h (by decide), fun h => absurd h (by decide)⟩)
    (fun N S h => ⟨fun _ => h.1 (by decide), fun hh => absurd hh (by decide)⟩)
theorem yxT_ne {T : Nat × Nat} {a b c : Nat} (h : T.1 = a) (hab : a ≠ b) : T ≠ (b, c) := fun e => hab (by rw [← h, e])
theorem yxSm_4 {B : Nat → Int32} {n o : Nat} {r : yxS3 → yxRs} (hn : n ≤ 160) (hBb : ∀ k, k < n → ∃ c, c < 256 ∧ B k = Int32.ofNat c) (hs : yxSm B n 3 o r) : yxSm B n 4 o (yxBi B n r yxOA) :=
  yxBi_m hn hBb hs (by decide) (fun T c h => by
    obtain ⟨e1, e2⟩ := yxOA_s h
    subst e2
    refine ⟨?_, rfl, yxCt_n (by decide), yxT_ne e1 (by decide), yxT_ne e1 (by decide), by rw [e1]; decide, yxNC_t (by decide)⟩
    unfold yxSg
    rw [if_neg (by rw [e1]; decide), if_pos e1])
    (fun T X h ho => ⟨fun _ => h.1 (by decide), fun _ => h.2.1 (by decide), fun _ => h.2.2.1 (by decide), fun _ => ho, fun h => absurd h (by decide)⟩)
    (fun N S h => ⟨fun hh => absurd hh (by decide), fun _ => h.2 (by decide)⟩)
theorem yxSm_5 {B : Nat → Int32} {n o : Nat} {r : yxS3 → yxRs} (hn : n ≤ 160) (hBb : ∀ k, k < n → ∃ c, c < 256 ∧ B k = Int32.ofNat c) (hs : yxSm B n 4 o r) : yxSm B n 5 o (yxBi B n r yxOO) :=
  yxBi_m hn hBb hs (by decide) (fun T c h => by
    obtain ⟨e1, e2⟩ := yxOO_s h
    subst e2
    refine ⟨?_, rfl, yxCt_n (by decide), yxT_ne e1 (by decide), yxT_ne e1 (by decide), by rw [e1]; decide, yxNC_t (by decide)⟩
    unfold yxSg
    rw [if_pos e1])
    (fun T X h ho => ⟨fun _ => h.1 (by decide), fun _ => h.2.1 (by decide), fun _ => h.2.2.1 (by decide), fun _ => h.2.2.2.1 (by decide), fun _ => ho⟩)
    (fun N S h => ⟨fun hh => absurd hh (by decide), fun _ => h.2 (by decide)⟩)
