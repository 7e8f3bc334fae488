/-! CALLS: go, at, count, force, asks, told -/
def yvGo (V : yV) (p t : Nat) (x : Int32) : yV := (V.1, V.2.1, (fun p' t' => if p' = p ∧ t' = t then x else V.2.2.1 p' t'), V.2.2.2)
theorem yA_go {tl : List (Nat × Nat)} {q : zR} {im : zI} {V : yV} {p t : Nat} {x : Int32} (hp : p < 4) (h : yA tl q im V) : yA tl q (up2 im (4 + p) t x) (yvGo V p t x) := by
  obtain ⟨a1, a2, a3, a4, a5, a6, a7, a8⟩ := h
  refine ⟨by rw [up_k (by omega)]; exact a1, by rw [up_k (by omega)]; exact a2, by rw [up_k (by omega)]; exact a3, by rw [up_k (by omega)]; exact a4, by rw [up_r (by omega)]; exact a5, fun p' hp' t' ht' => ?_, yAi_k a7 (fun k hk => up_r (by omega)), yAt_k a8 (fun k hk => up_r (by omega))⟩
  show _ = if p' = p ∧ t' = t then x else yvP V p' t'
  by_cases e : p' = p
  · subst e
    by_cases e2 : t' = t
    · subst e2; rw [if_pos ⟨rfl, rfl⟩, up_eq]
    · rw [if_neg (fun h => e2 h.2), up_j e2]; exact a6 p' hp' t' ht'
  · rw [if_neg (fun h => e h.1), up_k (by omega)]; exact a6 p' hp' t' ht'
theorem yB_go {im : zI} {V : yV} {p t : Nat} {x : Int32} (ht : t < 12) (h : yB im V) : yB (up2 im 53 (12 * p + t) x) (yvGo V p t x) := by
  obtain ⟨a1, a2, a3, a4, a5, a6, a7, a8⟩ := h
  refine ⟨a1, a2, a3, a4, a5, fun p' hp' t' ht' => ?_, a7, fun k hk => yTx_k (a8 k hk) rfl rfl⟩
  show _ = if p' = p ∧ t' = t then x else yvP V p' t'
  by_cases e : 12 * p' + t' = 12 * p + t
  · rw [e, up_eq, if_pos (by omega)]
  · rw [up_j e, if_neg (by omega)]; exact a6 p' hp' t' ht'
theorem yG_go {V : yV} {p t : Nat} {x : Int32} (h : yG V) (hx : yPl V x) : yG (yvGo V p t x) := by
  obtain ⟨g1, g2, g3, g4, g5, g6, g7⟩ := h
  refine ⟨g1, g2, g3, g4, g5, fun p' hp' t' ht' => ?_, g7⟩
  show (if p' = p ∧ t' = t then x else yvP V p' t') = -1 ∨ ∃ k, k < yvN V ∧ (if p' = p ∧ t' = t then x else yvP V p' t') = Int32.ofNat k
  by_cases e : p' = p ∧ t' = t
  · rw [if_pos e]; exact hx
  · rw [if_neg e]; exact g6 p' hp' t' ht'
theorem k_go {d : Nat} {a b x : Int32} {tl : List (Nat × Nat)} {q : zR} {im : zI} {V : yV} {U : yU} (hI : yInv tl q im V U) : yCall (d + 10) 68 144 [.int a, .int b, .int x] tl q im (yOk tl q) := by
  obtain ⟨⟨hG, hA, hB⟩, hH, hm⟩ := id hI
  have hM := hG.2.1
  cases h1 : bO V a with
  | false => exact ⟨-5, im, im, zEv_o rfl (t_X11_go ⟨_, _, cO_f hA h1, fun _ => ⟨rfl, rfl⟩, fun e => absurd rfl e⟩), zEv_o rfl (t_X12_go ⟨_, _, mO_f hG hB h1, fun _ => ⟨rfl, rfl⟩, fun e => absurd rfl e⟩), V, U, hI⟩
  | true =>
    cases h2 : bW b 11 with
    | false => exact ⟨-5, im, im, zEv_o rfl (t_X11_go ⟨_, _, cO_t hA h1, fun e => absurd e n10, fun _ => ⟨_, _, cT_f h2, fun e => absurd rfl e, fun _ => ⟨rfl, rfl⟩⟩⟩), zEv_o rfl (t_X12_go ⟨_, _, mO_t hG hB h1, fun e => absurd e n10, fun _ => ⟨_, _, mT_f h2, fun e => absurd rfl e, fun _ => ⟨rfl, rfl⟩⟩⟩), V, U, hI⟩
    | true =>
      obtain ⟨p, hp, rfl⟩ := bO_ex hG h1
      obtain ⟨t, ht, rfl⟩ := bW_ex (by decide) h2
      have hp4 : p < 4 := by omega
      have hP := hA.2.2.2.2.2.1 p hp4 t ht
      have hP2 := hB.2.2.2.2.2.1 p hp4 t ht
      have e1 : ((12 : Int32) * Int32.ofNat p) + Int32.ofNat t = Int32.ofNat (12 * p + t) := by rw [Int32.ofNat_add, Int32.ofNat_mul]; rfl
      have v4 := zi_in hp4 (show p < 2147483648 by omega)
      have v12 := zi_in ht (show t < 2147483648 by omega)
      have v48 := zi_in (show 12 * p + t < 48 by omega) (show 12 * p + t < 2147483648 by omega)
      have out : yPl V x → yOk tl q (up2 (up2 im (4 + p) t x) 53 (12 * p + t) x) := fun hx => ⟨yvGo V p t x, U, ⟨yG_go hG hx, yA_ag (yA_go hp4 hA) (up_k (by decide)) (fun k h1 h2 => up_r (by omega)) (fun k hk => up_r (by omega)), yB_go ht (yB_ag hB (fun j _ => up_k (by omega)) (fun k h1 h2 => up_r (by omega)) (up_r (by omega)) (up_r (by omega)))⟩, yH_ag hH (fun k j hu => by unfold yUc at hu; rw [up_k (by omega), up_k (by omega)]), yIm_le hm (Nat.le_refl _) (Nat.le_refl _)⟩
      by_cases ex : x = -1
      · refine ⟨yvP V p t, up2 im (4 + p) t x, up2 (up2 im (4 + p) t x) 53 (12 * p + t) x, zEv_o rfl (t_X11_go ⟨_, _, cO_t hA h1, fun e => absurd e n10, fun _ => ⟨_, _, cT_t h2, fun _ => ⟨fun _ => ⟨v4, ?_⟩, fun e => absurd ex e⟩, fun e => absurd e n10⟩⟩), zEv_o rfl (t_X12_go ⟨_, _, mO_t (V := V) hG (yB_ag hB (fun j _ => up_k (by omega)) (fun k h1 h2 => up_r (by omega)) (up_r (by omega)) (up_r (by omega))) h1, fun e => absurd e n10, fun _ => ⟨_, _, mT_t h2, fun _ => ⟨fun _ => ?_, fun e => absurd ex e⟩, fun e => absurd e n10⟩⟩), out (.inl ex)⟩
        · rw [zi_n (show p < 2147483648 by omega), zi_n (show t < 2147483648 by omega), zRf_row hp4]
          show ((zB ++ tl)[4 + p]?).elim _ _
          rw [zB_row hp4]
          refine ⟨v12, v4, ?_⟩
          show ((zB ++ tl)[4 + p]?).elim _ _
          rw [zB_row hp4]
          exact ⟨v12, by rw [hP], rfl⟩
        · rw [e1, zi_n (show 12 * p + t < 2147483648 by omega), up_k (by omega), hP2]
          exact ⟨v48, v48, rfl, rfl⟩
      · cases h3 : bI V x with
        | false => exact ⟨-7, im, im, zEv_o rfl (t_X11_go ⟨_, _, cO_t hA h1, fun e => absurd e n10, fun _ => ⟨_, _, cT_t h2, fun _ => ⟨fun e => absurd e ex, fun _ => ⟨_, _, cI_f hA h3, fun e => absurd rfl e, fun _ => ⟨rfl, rfl⟩⟩⟩, fun e => absurd e n10⟩⟩), zEv_o rfl (t_X12_go ⟨_, _, mO_t hG hB h1, fun e => absurd e n10, fun _ => ⟨_, _, mT_t h2, fun _ => ⟨fun e => absurd e ex, fun _ => ⟨_, _, mI_f hG hB h3, fun e => absurd rfl e, fun _ => ⟨rfl, rfl⟩⟩⟩, fun e => absurd e n10⟩⟩), V, U, hI⟩
        | true =>
          have hB1 : yB (up2 im (4 + p) t x) V := yB_ag hB (fun j _ => up_k (by omega)) (fun k h1 h2 => up_r (by omega)) (up_r (by omega)) (up_r (by omega))
          refine ⟨yvP V p t, up2 im (4 + p) t x, up2 (up2 im (4 + p) t x) 53 (12 * p + t) x, zEv_o rfl (t_X11_go ⟨_, _, cO_t hA h1, fun e => absurd e n10, fun _ => ⟨_, _, cT_t h2, fun _ => ⟨fun e => absurd e ex, fun _ => ⟨_, _, cI_t hA h3, fun _ => ⟨v4, ?_⟩, fun e => absurd e n10⟩⟩, fun e => absurd e n10⟩⟩), zEv_o rfl (t_X12_go ⟨_, _, mO_t hG hB1 h1, fun e => absurd e n10, fun _ => ⟨_, _, mT_t h2, fun _ => ⟨fun e => absurd e ex, fun _ => ⟨_, _, mI_t hG hB1 h3, fun _ => ?_, fun e => absurd e n10⟩⟩, fun e => absurd e n10⟩⟩), out (.inr (bI_ex hG h3))⟩
          · rw [zi_n (show p < 2147483648 by omega), zi_n (show t < 2147483648 by omega), zRf_row hp4]
            show ((zB ++ tl)[4 + p]?).elim _ _
            rw [zB_row hp4]
            refine ⟨v12, v4, ?_⟩
            show ((zB ++ tl)[4 + p]?).elim _ _
            rw [zB_row hp4]
            exact ⟨v12, by rw [hP], rfl⟩
          · rw [e1, zi_n (show 12 * p + t < 2147483648 by omega), up_k (by omega), hP2]
            exact ⟨v48, v48, rfl, rfl⟩
theorem k_at {d : Nat} {a b : Int32} {tl : List (Nat × Nat)} {q : zR} {im : zI} {V : yV} (hS : yS tl q im V) : yCall (d + 10) 69 145 [.int a, .int b] tl q im (yFr im) := by
  obtain ⟨hG, hA, hB⟩ := hS
  have hM := hG.2.1
  cases h1 : bO V a with
  | false => exact ⟨-5, im, im, zEv_o rfl (t_X11_at ⟨_, _, cO_f hA h1, fun _ => ⟨rfl, rfl⟩, fun e => absurd rfl e⟩), zEv_o rfl (t_X12_at ⟨_, _, mO_f hG hB h1, fun _ => ⟨rfl, rfl⟩, fun e => absurd rfl e⟩), yFr.rf⟩
  | true =>
    cases h2 : bW b 11 with
    | false => exact ⟨-5, im, im, zEv_o rfl (t_X11_at ⟨_, _, cO_t hA h1, fun e => absurd e n10, fun _ => ⟨_, _, cT_f h2, fun _ => ⟨rfl, rfl⟩, fun e => absurd rfl e⟩⟩), zEv_o rfl (t_X12_at ⟨_, _, mO_t hG hB h1, fun e => absurd e n10, fun _ => ⟨_, _, mT_f h2, fun _ => ⟨rfl, rfl⟩, fun e => absurd rfl e⟩⟩), yFr.rf⟩
    | true =>
      obtain ⟨p, hp, rfl⟩ := bO_ex hG h1
      obtain ⟨t, ht, rfl⟩ := bW_ex (by decide) h2
      have hp4 : p < 4 := by omega
      have e1 : ((12 : Int32) * Int32.ofNat p) + Int32.ofNat t = Int32.ofNat (12 * p + t) := by rw [Int32.ofNat_add, Int32.ofNat_mul]; rfl
      refine ⟨yvP V p t, im, im, zEv_o rfl (t_X11_at ⟨_, _, cO_t hA h1, fun e => absurd e n10, fun _ => ⟨_, _, cT_t h2, fun e => absurd e n10, fun _ => ⟨zi_in hp4 (by omega), ?_⟩⟩⟩), zEv_o rfl (t_X12_at ⟨_, _, mO_t hG hB h1, fun e => absurd e n10, fun _ => ⟨_, _, mT_t h2, fun e => absurd e n10, fun _ => ?_⟩⟩), yFr.rf⟩
      · rw [zi_n (show p < 2147483648 by omega), zi_n (show t < 2147483648 by omega), zRf_row hp4]
        show ((zB ++ tl)[4 + p]?).elim _ _
        rw [zB_row hp4]
        exact ⟨zi_in (show t < 12 from ht) (by omega), by rw [hA.2.2.2.2.2.1 p hp4 t ht], rfl⟩
      · rw [e1, zi_n (show 12 * p + t < 2147483648 by omega), hB.2.2.2.2.2.1 p hp4 t ht]
        exact ⟨zi_in (show 12 * p + t < 48 by omega) (by omega), rfl, rfl⟩
theorem k_count {d : Nat} {a : Int32} {tl : List (Nat × Nat)} {q : zR} {im : zI} {V : yV} {U : yU} (hI : yInv tl q im V U) : yCall (d + 10) 70 146 [.int a] tl q im (yOk tl q) := by
  obtain ⟨⟨hG, hA, hB⟩, hH, hm⟩ := id hI
  refine ⟨if a = 0 then Int32.ofNat (yvN V) else if a = 1 then Int32.ofNat (yvM V) else if a = 2 then Int32.ofNat (yvC V) else if a = 3 then Int32.ofNat (yvR V) else if a = 4 then Int32.ofNat (yuN U) else -2, im, im, zEv_o rfl (t_X11_count ?_), zEv_o rfl (t_X12_count ?_), V, U, hI⟩
  · rw [hA.1, hA.2.1, hA.2.2.1, hA.2.2.2.1, hH.1.1]
    refine ⟨fun h => ⟨?_, rfl⟩, fun h => ⟨fun h1 => ⟨?_, rfl⟩, fun h1 => ⟨fun h2 => ⟨?_, rfl⟩, fun h2 => ⟨fun h3 => ⟨?_, rfl⟩, fun h3 => ⟨fun h4 => ⟨?_, rfl⟩, fun h4 => ⟨?_, rfl⟩⟩⟩⟩⟩⟩
    · rw [if_pos h]
    · rw [if_neg h, if_pos h1]
    · rw [if_neg h, if_neg h1, if_pos h2]
    · rw [if_neg h, if_neg h1, if_neg h2, if_pos h3]
    · rw [if_neg h, if_neg h1, if_neg h2, if_neg h3, if_pos h4]
    · rw [if_neg h, if_neg h1, if_neg h2, if_neg h3, if_neg h4]
  · rw [hB.1, hB.2.1, hB.2.2.1, hB.2.2.2.1, hH.1.2.1]
    refine ⟨fun h => ⟨?_, rfl⟩, fun h => ⟨fun h1 => ⟨?_, rfl⟩, fun h1 => ⟨fun h2 => ⟨?_, rfl⟩, fun h2 => ⟨fun h3 => ⟨?_, rfl⟩, fun h3 => ⟨fun h4 => ⟨?_, rfl⟩, fun h4 => ⟨?_, rfl⟩⟩⟩⟩⟩⟩
    · rw [if_pos h]
    · rw [if_neg h, if_pos h1]
    · rw [if_neg h, if_neg h1, if_pos h2]
    · rw [if_neg h, if_neg h1, if_neg h2, if_pos h3]
    · rw [if_neg h, if_neg h1, if_neg h2, if_neg h3, if_pos h4]
    · rw [if_neg h, if_neg h1, if_neg h2, if_neg h3, if_neg h4]
def yvForce (V : yV) (k : Nat) : yV := ((yvN V, yvM V, k, yvC V), V.2)
theorem yA_force {tl : List (Nat × Nat)} {q : zR} {im : zI} {V : yV} {k : Nat} (h : yA tl q im V) : yA tl q (up2 im 1 4 (Int32.ofNat k)) (yvForce V k) := by
  obtain ⟨a1, a2, a3, a4, a5, a6, a7, a8⟩ := h
  refine ⟨a1, a2, up_eq, a4, a5, fun p hp t ht => ?_, yAi_k a7 (fun k hk => up_r (by omega)), yAt_k a8 (fun k hk => up_r (by omega))⟩
  rw [up_k (by omega)]
  exact a6 p hp t ht
theorem yB_force {im : zI} {V : yV} {k : Nat} (h : yB im V) : yB (up2 im 47 13 (Int32.ofNat k)) (yvForce V k) := by
  obtain ⟨a1, a2, a3, a4, a5, a6, a7, a8⟩ := h
  exact ⟨a1, a2, up_eq, a4, a5, a6, a7, fun k hk => yTx_k (a8 k hk) rfl rfl⟩
theorem k_force {d : Nat} {a : Int32} {tl : List (Nat × Nat)} {q : zR} {im : zI} {V : yV} {U : yU} (hI : yInv tl q im V U) : yCall (d + 10) 73 162 [.int a] tl q im (yOk tl q) := by
  obtain ⟨⟨hG, hA, hB⟩, hH, hm⟩ := id hI
  have hC := hG.2.2.2.1
  have hin : ∀ (im : zI), zEv (d + 9) 136 [.int a, .int (0 : Int32), .int (Int32.ofNat (yvC V) - (1 : Int32))] (zMm tl q im) (some (.int (zb (decide (0 ≤ a) && decide (a < Int32.ofNat (yvC V)))))) (zMm tl q im) := fun im => by
    have := m_in (d := d + 8) (tl := tl) (q := q) (im := im) (v := a) (a := 0) (b := Int32.ofNat (yvC V) - (1 : Int32))
    rw [decide_eq_decide.mpr (zi_pre (by omega))] at this
    exact this
  cases h1 : (decide (0 ≤ a) && decide (a < Int32.ofNat (yvC V))) with
  | false =>
    refine ⟨-2, im, im, zEv_o rfl (t_X11_force ⟨none, im, c_textAt_no hA h1, rfl, rfl⟩), zEv_o rfl (t_X12_force ?_), V, U, hI⟩
    rw [hB.2.2.2.1]
    refine ⟨_, _, hin im, ?_⟩
    rw [h1]
    exact ⟨fun e => absurd rfl e, fun _ => ⟨rfl, rfl⟩⟩
  | true =>
    have hex : ∃ k, k < yvC V ∧ a = Int32.ofNat k := by
      rw [Bool.and_eq_true, decide_eq_true_eq, decide_eq_true_eq] at h1
      exact zi_ex2 (Int32.not_lt.mpr h1.1) h1.2 (by omega)
    obtain ⟨k, hk, rfl⟩ := hex
    obtain ⟨r, hr, _⟩ := yA_ref hA hk
    refine ⟨Int32.ofNat (yvR V), up2 im 1 4 (Int32.ofNat k), up2 (up2 im 1 4 (Int32.ofNat k)) 47 13 (Int32.ofNat k), zEv_o rfl (t_X11_force ⟨some r, im, c_textAt hG hA hk hr, ?_, rfl⟩), zEv_o rfl (t_X12_force ?_), yvForce V k, U, ⟨?_, ?_, ?_⟩, ?_, yIm_le hm (Nat.le_refl _) (Nat.le_refl _)⟩
    · rw [hA.2.2.1]
    · rw [up_k (by decide), hB.2.2.2.1]
      refine ⟨_, _, hin _, ?_⟩
      rw [h1, up_k (by decide), hB.2.2.1]
      exact ⟨fun _ => ⟨rfl, rfl⟩, fun e => absurd e n10⟩
    · exact ⟨hG.1, hG.2.1, hk, hG.2.2.2.1, hG.2.2.2.2⟩
    · exact yA_ag (yA_force hA) rfl (fun k h1 h2 => up_r (by omega)) (fun k hk => up_r (by omega))
    · exact yB_force (yB_ag hB (fun j _ => up_k (by omega)) (fun k h1 h2 => up_r (by omega)) (up_r (by omega)) (up_r (by omega)))
    · refine yH_ag hH (fun k j hu => ?_)
      unfold yUc at hu
      by_cases e : k = 47
      · subst e
        rw [up_j (by omega), up_k (by omega)]
      · rw [up_k e, up_k (by omega)]
theorem k_asks {d : Nat} {a1 a2 a3 a4 a5 : Int32} {tl : List (Nat × Nat)} {q : zR} {im : zI} {V : yV} (hS : yS tl q im V) : yCall (d + 10) 74 164 [.int a1, .int a2, .int a3, .int a4, .int a5] tl q im (yFr im) := by
  obtain ⟨hG, hA, hB⟩ := hS
  have hC := hG.2.2.2.1
  have hR := hG.2.2.1
  cases h1 : bW a1 2 with
  | false => exact ⟨-2, im, im, zEv_o rfl (t_X11_asks ⟨_, _, cW_f h1, fun _ => ⟨rfl, rfl⟩, fun e => absurd rfl e⟩), zEv_o rfl (t_X12_asks ⟨_, _, mW_f h1, fun _ => ⟨rfl, rfl⟩, fun e => absurd rfl e⟩), yFr.rf⟩
  | true =>
    cases h2 : bW a2 99 with
    | false => exact ⟨-2, im, im, zEv_o rfl (t_X11_asks ⟨_, _, cW_t h1, fun e => absurd e n10, fun _ => ⟨_, _, cW_f h2, fun _ => ⟨rfl, rfl⟩, fun e => absurd rfl e⟩⟩), zEv_o rfl (t_X12_asks ⟨_, _, mW_t h1, fun e => absurd e n10, fun _ => ⟨_, _, mW_f h2, fun _ => ⟨rfl, rfl⟩, fun e => absurd rfl e⟩⟩), yFr.rf⟩
    | true =>
      cases h3 : bW a3 99 with
      | false => exact ⟨-2, im, im, zEv_o rfl (t_X11_asks ⟨_, _, cW_t h1, fun e => absurd e n10, fun _ => ⟨_, _, cW_t h2, fun e => absurd e n10, fun _ => ⟨_, _, cW_f h3, fun _ => ⟨rfl, rfl⟩, fun e => absurd rfl e⟩⟩⟩), zEv_o rfl (t_X12_asks ⟨_, _, mW_t h1, fun e => absurd e n10, fun _ => ⟨_, _, mW_t h2, fun e => absurd e n10, fun _ => ⟨_, _, mW_f h3, fun _ => ⟨rfl, rfl⟩, fun e => absurd rfl e⟩⟩⟩), yFr.rf⟩
      | true =>
        cases h4 : bW a4 9 with
        | false => exact ⟨-2, im, im, zEv_o rfl (t_X11_asks ⟨_, _, cW_t h1, fun e => absurd e n10, fun _ => ⟨_, _, cW_t h2, fun e => absurd e n10, fun _ => ⟨_, _, cW_t h3, fun e => absurd e n10, fun _ => ⟨_, _, cW_f h4, fun _ => ⟨rfl, rfl⟩, fun e => absurd rfl e⟩⟩⟩⟩), zEv_o rfl (t_X12_asks ⟨_, _, mW_t h1, fun e => absurd e n10, fun _ => ⟨_, _, mW_t h2, fun e => absurd e n10, fun _ => ⟨_, _, mW_t h3, fun e => absurd e n10, fun _ => ⟨_, _, mW_f h4, fun _ => ⟨rfl, rfl⟩, fun e => absurd rfl e⟩⟩⟩⟩), yFr.rf⟩
        | true =>
          cases h5 : bW a5 119 with
          | false => exact ⟨-2, im, im, zEv_o rfl (t_X11_asks ⟨_, _, cW_t h1, fun e => absurd e n10, fun _ => ⟨_, _, cW_t h2, fun e => absurd e n10, fun _ => ⟨_, _, cW_t h3, fun e => absurd e n10, fun _ => ⟨_, _, cW_t h4, fun e => absurd e n10, fun _ => ⟨_, _, cW_f h5, fun e => absurd rfl e, fun _ => ⟨rfl, rfl⟩⟩⟩⟩⟩⟩), zEv_o rfl (t_X12_asks ⟨_, _, mW_t h1, fun e => absurd e n10, fun _ => ⟨_, _, mW_t h2, fun e => absurd e n10, fun _ => ⟨_, _, mW_t h3, fun e => absurd e n10, fun _ => ⟨_, _, mW_t h4, fun e => absurd e n10, fun _ => ⟨_, _, mW_f h5, fun _ => ⟨rfl, rfl⟩, fun e => absurd rfl e⟩⟩⟩⟩⟩), yFr.rf⟩
          | true =>
            obtain ⟨part, hp, rfl⟩ := bW_ex (by decide) h1
            obtain ⟨r, hr, _⟩ := yA_ref hA hR
            obtain ⟨im1, g1, g2⟩ := c_askd (d := d + 6) (part := part) (a1 := a2) (a2 := a3 / 10) (a3 := a3 - a3 / 10 * 10) (a4 := a4) (a5 := a5 / 10) (a6 := a5 - a5 / 10 * 10) hA hR hr hp
            have hF : yFa im im1 := yFa.of2 33 34 (by decide) (by decide) g2
            have hB1 := yB_fr hB hF.fr
            obtain ⟨im2, g3, g4⟩ := m_asksOf (d := d + 6) (tl := tl) (q := q) (part := part) (a := a2) (b := a3 / 10) (c := a3 - a3 / 10 * 10) (d' := a4) (e := a5 / 10) (f := a5 - a5 / 10 * 10) (show yvR V < 6 by omega) hp hB1.2.2.1 (hB1.2.2.2.2.2.2.2 (yvR V) hR)
            have hFn : yFa im (up2 (up2 (up2 (up2 (up2 (up2 im 33 0 a2) 33 1 (a3 / 10)) 33 2 (a3 - a3 / 10 * 10)) 33 3 a4) 33 4 (a5 / 10)) 33 5 (a5 - a5 / 10 * 10)) := yFa.of 33 (by decide) (fun k hk => by rw [up_r hk, up_r hk, up_r hk, up_r hk, up_r hk, up_r hk])
            exact ⟨_, im1, im2, zEv_o rfl (t_X11_asks ⟨_, _, cW_t h1, fun e => absurd e n10, fun _ => ⟨_, _, cW_t h2, fun e => absurd e n10, fun _ => ⟨_, _, cW_t h3, fun e => absurd e n10, fun _ => ⟨_, _, cW_t h4, fun e => absurd e n10, fun _ => ⟨_, _, cW_t h5, fun _ => ⟨_, c_name, some r, _, c_law hG (yA_fr hA hFn.fr) hr, _, _, g1, rfl, rfl⟩, fun e => absurd e n10⟩⟩⟩⟩⟩), zEv_o rfl (t_X12_asks ⟨_, _, mW_t h1, fun e => absurd e n10, fun _ => ⟨_, _, mW_t h2, fun e => absurd e n10, fun _ => ⟨_, _, mW_t h3, fun e => absurd e n10, fun _ => ⟨_, _, mW_t h4, fun e => absurd e n10, fun _ => ⟨_, _, mW_t h5, fun e => absurd e n10, fun _ => ⟨_, _, g3, rfl, rfl⟩⟩⟩⟩⟩⟩), hF.fr.tr (yFb.k56 g4).fr⟩
theorem k_told {d : Nat} {a c : Int32} {tl : List (Nat × Nat)} {q : zR} {im : zI} {V : yV} (hS : yS tl q im V) : yCall (d + 10) 76 166 [.int a, .int c] tl q im (yFr im) := by
  obtain ⟨hG, hA, hB⟩ := hS
  have hn := hG.1
  cases h1 : bI V a with
  | false => exact ⟨-5, im, im, zEv_o rfl (t_X11_told ⟨none, im, c_islandAt_no hA h1, rfl, rfl⟩), zEv_o rfl (t_X12_told ⟨_, _, mI_f hG hB h1, fun e => absurd rfl e, fun _ => ⟨rfl, rfl⟩⟩), yFr.rf⟩
  | true =>
    obtain ⟨i, hi, rfl⟩ := bI_ex hG h1
    obtain ⟨r, k1, k2, k3⟩ := hA.2.2.2.2.2.2.1 i hi
    obtain ⟨L, l1, l2, l3, l4, l5, l6, l7⟩ := id k3
    obtain ⟨b1, b2, b3, b4⟩ := hB.2.2.2.2.2.2.1 i hi
    have v6 := zi_in (show i < 6 by omega) (show i < 2147483648 by omega)
    refine ⟨if c = 0 then Int32.ofNat (yvK V i) else if c = 1 then yvD V i else if c = 2 then yvU V i else if c = 3 then yvO V i else -7, im, im, zEv_o rfl (t_X11_told ⟨some r, im, c_islandAt hG hA hi k1, ?_⟩), zEv_o rfl (t_X12_told ⟨_, _, mI_t hG hB h1, fun _ => ?_, fun e => absurd e n10⟩), yFr.rf⟩
    · simp only [Option.elim_some, l1, yTag_sub l3, cond_true, l4, l5, l6, l7]
      refine ⟨fun h => ⟨?_, trivial⟩, fun h => ⟨fun h1 => ⟨?_, trivial⟩, fun h1 => ⟨fun h2 => ⟨?_, trivial⟩, fun h2 => ⟨fun h3 => ⟨?_, trivial⟩, fun h3 => ⟨?_, trivial⟩⟩⟩⟩⟩
      · rw [if_pos h]
      · rw [if_neg h, if_pos h1]
      · rw [if_neg h, if_neg h1, if_pos h2]
      · rw [if_neg h, if_neg h1, if_neg h2, if_pos h3]
      · rw [if_neg h, if_neg h1, if_neg h2, if_neg h3]
    · rw [zi_n (show i < 2147483648 by omega), b1, b2, b3, b4]
      refine ⟨fun h => ⟨v6, ?_, rfl⟩, fun h => ⟨fun h1 => ⟨v6, ?_, rfl⟩, fun h1 => ⟨fun h2 => ⟨v6, ?_, rfl⟩, fun h2 => ⟨fun h3 => ⟨v6, ?_, rfl⟩, fun h3 => ⟨?_, rfl⟩⟩⟩⟩⟩
      · rw [if_pos h]
      · rw [if_neg h, if_pos h1]
      · rw [if_neg h, if_neg h1, if_pos h2]
      · rw [if_neg h, if_neg h1, if_neg h2, if_pos h3]
      · rw [if_neg h, if_neg h1, if_neg h2, if_neg h3]
