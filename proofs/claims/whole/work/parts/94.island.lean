/-! CALLS: island -/
def zLs (tl : List (Nat × Nat)) : Nat := (tl.map (fun p => p.2)).sum
theorem zLs_1 {tl : List (Nat × Nat)} {p : Nat × Nat} : zLs (tl ++ [p]) = zLs tl + p.2 := by
  unfold zLs
  rw [List.map_append, List.sum_append]
  rfl
theorem ur_eq {q : zR} {k j : Nat} {v : Option Nat} : up2 q k j v k j = v := by simp [up2]
theorem ur_j {q : zR} {k j j' : Nat} {v : Option Nat} (h : j' ≠ j) : up2 q k j v k j' = q k j' := by simp [up2, h]
theorem ur_r {q : zR} {k j k' : Nat} {v : Option Nat} (h : k' ≠ k) : up2 q k j v k' = q k' := by
  funext x
  simp [up2, h]
theorem yI4_k {im : zI} {L k : Nat} {a b c e : Int32} (h : k ≠ L) : yI4 (zero2 im L 1 0) L a b c e k = im k := by
  unfold yI4
  rw [up_r h, up_r h, up_r h, up_r h]
  funext j
  unfold zero2
  rw [if_neg (by omega)]
def yvIsl (V : yV) (k : Nat) (b c e : Int32) : yV := ((yvN V + 1, V.1.2), V.2.1, V.2.2.1, (fun i => if i = yvN V then (k, b, c, e) else V.2.2.2.1 i), V.2.2.2.2)
def yIslA (V : yV) (a b c e : Int32) : Int32 × yV :=
  bif bW a 5 && (bW b 99 && (bW c 9 && bW e 9)) then (if yvN V = 6 then (-4, V) else (Int32.ofNat (yvN V), yvIsl V a.toNatClampNeg b c e)) else (-2, V)
theorem yvIsl_o {V : yV} {k i : Nat} {b c e : Int32} (h : i ≠ yvN V) : yvK (yvIsl V k b c e) i = yvK V i ∧ yvD (yvIsl V k b c e) i = yvD V i ∧ yvU (yvIsl V k b c e) i = yvU V i ∧ yvO (yvIsl V k b c e) i = yvO V i := by
  have e1 : (yvIsl V k b c e).2.2.2.1 i = V.2.2.2.1 i := if_neg h
  unfold yvK yvD yvU yvO
  rw [e1]
  exact ⟨rfl, rfl, rfl, rfl⟩
theorem yvIsl_n {V : yV} {k : Nat} {b c e : Int32} : yvK (yvIsl V k b c e) (yvN V) = k ∧ yvD (yvIsl V k b c e) (yvN V) = b ∧ yvU (yvIsl V k b c e) (yvN V) = c ∧ yvO (yvIsl V k b c e) (yvN V) = e := by
  have e1 : (yvIsl V k b c e).2.2.2.1 (yvN V) = (k, b, c, e) := if_pos rfl
  unfold yvK yvD yvU yvO
  rw [e1]
  exact ⟨rfl, rfl, rfl, rfl⟩
theorem yG_isl {V : yV} {k c e : Nat} {b : Int32} (hG : yG V) (hN : yvN V < 6) (hk : k < 6) (hc : c < 10) (he : e < 10) : yG (yvIsl V k b (Int32.ofNat c) (Int32.ofNat e)) := by
  obtain ⟨g1, g2, g3, g4, g5, g6, g7⟩ := hG
  refine ⟨?_, g2, g3, g4, g5, fun p hp t ht => ?_, fun i hi => ?_⟩
  · show yvN V + 1 ≤ 6
    omega
  · rcases g6 p hp t ht with h | ⟨k', h1, h2⟩
    · exact .inl h
    · refine .inr ⟨k', ?_, h2⟩
      show k' < yvN V + 1
      omega
  · have hi' : i < yvN V + 1 := hi
    by_cases e1 : i = yvN V
    · subst e1
      obtain ⟨a1, a2, a3, a4⟩ := yvIsl_n (V := V) (k := k) (b := b) (c := Int32.ofNat c) (e := Int32.ofNat e)
      rw [a1, a3, a4]
      exact ⟨hk, ⟨c, hc, rfl⟩, e, he, rfl⟩
    · obtain ⟨a1, a2, a3, a4⟩ := yvIsl_o (V := V) (k := k) (b := b) (c := Int32.ofNat c) (e := Int32.ofNat e) e1
      rw [a1, a3, a4]
      exact g7 i (by omega)
theorem yG_islA {V : yV} {a b c e : Int32} (hG : yG V) : yG (yIslA V a b c e).2 ∧ yvN V ≤ yvN (yIslA V a b c e).2 ∧ yvC (yIslA V a b c e).2 = yvC V := by
  unfold yIslA
  cases h : (bW a 5 && (bW b 99 && (bW c 9 && bW e 9))) with
  | false => exact ⟨hG, Nat.le_refl _, rfl⟩
  | true =>
    rw [Bool.and_eq_true, Bool.and_eq_true, Bool.and_eq_true] at h
    obtain ⟨k, hk, rfl⟩ := bW_ex (by decide) h.1
    obtain ⟨c', hc, rfl⟩ := bW_ex (by decide) h.2.2.1
    obtain ⟨e', he, rfl⟩ := bW_ex (by decide) h.2.2.2
    have hn := hG.1
    by_cases h6 : yvN V = 6
    · rw [cond_true, if_pos h6]
      exact ⟨hG, Nat.le_refl _, rfl⟩
    · rw [cond_true, if_neg h6, zi_n (by omega)]
      exact ⟨yG_isl hG (by omega) hk hc he, Nat.le_succ _, rfl⟩
theorem yTag_3 {k : Nat} (h : k < 6) : zSub (yTag k) 3 = true := by
  match k, h with
  | 0, _ => rfl
  | 1, _ => rfl
  | 2, _ => rfl
  | 3, _ => rfl
  | 4, _ => rfl
  | 5, _ => rfl
theorem yA_isl {k : Nat} {b c e : Int32} {tl : List (Nat × Nat)} {q : zR} {im : zI} {V : yV} (hA : yA tl q im V) (hN : yvN V < 6) (hk : k < 6) :
    yA (tl ++ [(yTag k, 4)]) (up2 (zero2 q (72 + tl.length) 1 none) 15 (yvN V) (some (72 + tl.length))) (up2 (yI4 (zero2 im (72 + tl.length) 1 0) (72 + tl.length) (Int32.ofNat k) b c e) 1 3 (Int32.ofNat (yvN V + 1))) (yvIsl V k b c e) := by
  have o : ∀ r, r ≠ 1 → r ≠ 72 + tl.length → (up2 (yI4 (zero2 im (72 + tl.length) 1 0) (72 + tl.length) (Int32.ofNat k) b c e) 1 3 (Int32.ofNat (yvN V + 1))) r = im r := fun r h1 h2 => by rw [up_r h1, yI4_k h2]
  have o1 : ∀ j, j ≠ 3 → (up2 (yI4 (zero2 im (72 + tl.length) 1 0) (72 + tl.length) (Int32.ofNat k) b c e) 1 3 (Int32.ofNat (yvN V + 1))) 1 j = im 1 j := fun j h => by rw [up_j h, yI4_k (by omega)]
  have eq : zRf (up2 (zero2 q (72 + tl.length) 1 none) 15 (yvN V) (some (72 + tl.length))) = up2 (zero2 (zRf q) (72 + tl.length) 1 none) 15 (yvN V) (some (72 + tl.length)) := by rw [zRf_up (r := 15) rfl, zRf_new]
  have z0 : ∀ r, r ≠ 72 + tl.length → ∀ p : zR, zero2 p (72 + tl.length) 1 none r = p r := fun r h p => by
    funext j
    unfold zero2
    rw [if_neg (by omega)]
  have hg : yGrow tl (tl ++ [(yTag k, 4)]) q (up2 (zero2 q (72 + tl.length) 1 none) 15 (yvN V) (some (72 + tl.length))) im (up2 (yI4 (zero2 im (72 + tl.length) 1 0) (72 + tl.length) (Int32.ofNat k) b c e) 1 3 (Int32.ofNat (yvN V + 1))) := by
    refine ⟨⟨_, rfl⟩, fun r s h h1 h2 => ?_, fun r s h h1 => o r (by omega) (zA_ne h)⟩
    have := zA_ne h
    rw [ur_r h1, z0 r this]
  obtain ⟨a1, a2, a3, a4, a5, a6, a7, a8⟩ := hA
  refine ⟨up_eq, (o1 2 (by decide)).trans a2, (o1 4 (by decide)).trans a3, ?_, fun t ht => ?_, fun p hp t ht => ?_, fun i hi => ?_, fun k' hk' => ?_⟩
  · rw [o 0 (by omega) (by omega)]; exact a4
  · rw [o 2 (by omega) (by omega)]; exact a5 t ht
  · rw [o (4 + p) (by omega) (by omega)]; exact a6 p hp t ht
  · have hi' : i < yvN V + 1 := hi
    by_cases e1 : i = yvN V
    · subst e1
      obtain ⟨b1, b2, b3, b4⟩ := yvIsl_n (V := V) (k := k) (b := b) (c := c) (e := e)
      rw [b1, b2, b3, b4]
      refine ⟨72 + tl.length, by rw [eq, ur_eq], by omega, 4, zA_new, by omega, hk, ?_, ?_, ?_, ?_⟩
      · rw [up_r (by omega)]
        unfold yI4
        rw [up_j (by decide), up_j (by decide), up_j (by decide), up_eq]
      · rw [up_r (by omega)]
        unfold yI4
        rw [up_j (by decide), up_j (by decide), up_eq]
      · rw [up_r (by omega)]
        unfold yI4
        rw [up_j (by decide), up_eq]
      · rw [up_r (by omega)]
        unfold yI4
        rw [up_eq]
    · obtain ⟨b1, b2, b3, b4⟩ := yvIsl_o (V := V) (k := k) (b := b) (c := c) (e := e) e1
      rw [b1, b2, b3, b4]
      obtain ⟨r, r1, r2, r3⟩ := a7 i (by omega)
      exact ⟨r, by rw [eq, ur_j e1, z0 15 (by omega)]; exact r1, r2, hg.is r3 r2⟩
  · obtain ⟨r, r1, r2, r3, r4⟩ := a8 k' hk'
    obtain ⟨s1, s2⟩ := hg.cx r4 r2 r3 (o 45 (by omega) (by omega)) (o 46 (by omega) (by omega))
    exact ⟨r, by rw [eq, ur_r (by decide), z0 16 (by omega)]; exact r1, r2, fun cc hc => r3 cc (s2 ▸ hc), s1⟩
theorem c_island {d : Nat} {a b c f : Int32} {tl : List (Nat × Nat)} {q : zR} {im : zI} {V : yV} (hG : yG V) (hA : yA tl q im V) (hl : tl.length < 100000) :
    ∃ tl' q' im', zEv (d + 6) 75 [.ref 0, .int a, .int b, .int c, .int f] (zMm tl q im) (some (.int (yIslA V a b c f).1)) (zMm tl' q' im') ∧ yA tl' q' im' (yIslA V a b c f).2 ∧ tl'.length ≤ tl.length + 1 ∧ zLs tl' ≤ zLs tl + 4 ∧ ∀ k j, k < 72 → ¬ (k = 1 ∧ j = 3) → im' k j = im k j := by
  unfold yIslA
  cases h1 : bW a 5 with
  | false => exact ⟨tl, q, im, zEv_o rfl (t_X11_islandA ⟨_, _, cW_f (m := 5) h1, fun _ => ⟨rfl, rfl⟩, fun e => absurd rfl e⟩), hA, by omega, by omega, fun _ _ _ _ => rfl⟩
  | true =>
    cases h2 : bW b 99 with
    | false => exact ⟨tl, q, im, zEv_o rfl (t_X11_islandA ⟨_, _, cW_t (m := 5) h1, fun e => absurd e n10, fun _ => ⟨_, _, cW_f (m := 99) h2, fun _ => ⟨rfl, rfl⟩, fun e => absurd rfl e⟩⟩), hA, by omega, by omega, fun _ _ _ _ => rfl⟩
    | true =>
      cases h3 : bW c 9 with
      | false => exact ⟨tl, q, im, zEv_o rfl (t_X11_islandA ⟨_, _, cW_t (m := 5) h1, fun e => absurd e n10, fun _ => ⟨_, _, cW_t (m := 99) h2, fun e => absurd e n10, fun _ => ⟨_, _, cW_f (m := 9) h3, fun _ => ⟨rfl, rfl⟩, fun e => absurd rfl e⟩⟩⟩), hA, by omega, by omega, fun _ _ _ _ => rfl⟩
      | true =>
        cases h4 : bW f 9 with
        | false => exact ⟨tl, q, im, zEv_o rfl (t_X11_islandA ⟨_, _, cW_t (m := 5) h1, fun e => absurd e n10, fun _ => ⟨_, _, cW_t (m := 99) h2, fun e => absurd e n10, fun _ => ⟨_, _, cW_t (m := 9) h3, fun e => absurd e n10, fun _ => ⟨_, _, cW_f (m := 9) h4, fun e => absurd rfl e, fun _ => ⟨rfl, rfl⟩⟩⟩⟩⟩), hA, by omega, by omega, fun _ _ _ _ => rfl⟩
        | true =>
          have hn := hG.1
          have e13 := hA.1
          by_cases h6 : yvN V = 6
          · have n6 : ¬ im 1 3 < (6 : Int32) := by
              rw [e13, h6]
              decide
            rw [Bool.and_true, Bool.and_true, Bool.and_true, cond_true, if_pos h6]
            exact ⟨tl, q, im, zEv_o rfl (t_X11_islandA ⟨_, _, cW_t (m := 5) h1, fun e => absurd e n10, fun _ => ⟨_, _, cW_t (m := 99) h2, fun e => absurd e n10, fun _ => ⟨_, _, cW_t (m := 9) h3, fun e => absurd e n10, fun _ => ⟨_, _, cW_t (m := 9) h4, fun _ => ⟨fun e => absurd e n6, fun _ => ⟨rfl, rfl⟩⟩, fun e => absurd e n10⟩⟩⟩⟩), hA, by omega, by omega, fun _ _ _ _ => rfl⟩
          · have hN : yvN V < 6 := by omega
            have n6 : im 1 3 < (6 : Int32) := by
              rw [e13]
              exact (zi_lt (b := 6) (by omega) (by omega)).mpr hN
            rw [Bool.and_true, Bool.and_true, Bool.and_true, cond_true, if_neg h6]
            obtain ⟨k, hk, rfl⟩ := bW_ex (by decide) h1
            rw [zi_n (show k < 2147483648 by omega)]
            refine ⟨tl ++ [(yTag k, 4)], up2 (zero2 q (72 + tl.length) 1 none) 15 (yvN V) (some (72 + tl.length)), up2 (yI4 (zero2 im (72 + tl.length) 1 0) (72 + tl.length) (Int32.ofNat k) b c f) 1 3 (Int32.ofNat (yvN V + 1)), zEv_o rfl (t_X11_islandA ⟨_, _, cW_t (m := 5) h1, fun e => absurd e n10, fun _ => ⟨_, _, cW_t (m := 99) h2, fun e => absurd e n10, fun _ => ⟨_, _, cW_t (m := 9) h3, fun e => absurd e n10, fun _ => ⟨_, _, cW_t (m := 9) h4, fun _ => ⟨fun _ => ⟨some (72 + tl.length), _, _, _, c_newIsland hl hk, ?_⟩, fun e => absurd n6 e⟩, fun e => absurd e n10⟩⟩⟩⟩), yA_isl hA hN hk, ?_, ?_, fun k' j' h1 h2 => ?_⟩
            · show ((zB ++ (tl ++ [(yTag k, 4)]) : List (Nat × Nat))[72 + tl.length]?).elim _ _
              rw [zA_new]
              show bif zSub (yTag k) 3 then _ else _
              rw [yTag_3 hk, yI4_k (show 1 ≠ 72 + tl.length by omega), e13, zi_n (show yvN V < 2147483648 by omega), zi_s]
              refine ⟨zi_in hN (by omega), ?_, rfl⟩
              rw [← zi_s, Int32.add_sub_cancel]
            · rw [List.length_append]; exact Nat.le_refl _
            · rw [zLs_1]; exact Nat.le_refl _
            · by_cases e1 : k' = 1
              · subst e1
                rw [up_j (by omega), yI4_k (by omega)]
              · rw [up_r e1, yI4_k (by omega)]
theorem m_island {d : Nat} {a b c f : Int32} {tl : List (Nat × Nat)} {q : zR} {im : zI} {V : yV} (hG : yG V) (hB : yB im V) :
    ∃ im', zEv (d + 6) 165 [.ref 47, .int a, .int b, .int c, .int f] (zMm tl q im) (some (.int (yIslA V a b c f).1)) (zMm tl q im') ∧ yB im' (yIslA V a b c f).2 ∧ ∀ k j, ¬ ((k = 47 ∧ j = 1) ∨ (48 < k ∧ k < 53)) → im' k j = im k j := by
  unfold yIslA
  cases h1 : bW a 5 with
  | false => exact ⟨im, zEv_o rfl (t_X12_island ⟨_, _, mW_f (m := 5) h1, fun _ => ⟨rfl, rfl⟩, fun e => absurd rfl e⟩), hB, fun _ _ _ => rfl⟩
  | true =>
    cases h2 : bW b 99 with
    | false => exact ⟨im, zEv_o rfl (t_X12_island ⟨_, _, mW_t (m := 5) h1, fun e => absurd e n10, fun _ => ⟨_, _, mW_f (m := 99) h2, fun _ => ⟨rfl, rfl⟩, fun e => absurd rfl e⟩⟩), hB, fun _ _ _ => rfl⟩
    | true =>
      cases h3 : bW c 9 with
      | false => exact ⟨im, zEv_o rfl (t_X12_island ⟨_, _, mW_t (m := 5) h1, fun e => absurd e n10, fun _ => ⟨_, _, mW_t (m := 99) h2, fun e => absurd e n10, fun _ => ⟨_, _, mW_f (m := 9) h3, fun _ => ⟨rfl, rfl⟩, fun e => absurd rfl e⟩⟩⟩), hB, fun _ _ _ => rfl⟩
      | true =>
        cases h4 : bW f 9 with
        | false => exact ⟨im, zEv_o rfl (t_X12_island ⟨_, _, mW_t (m := 5) h1, fun e => absurd e n10, fun _ => ⟨_, _, mW_t (m := 99) h2, fun e => absurd e n10, fun _ => ⟨_, _, mW_t (m := 9) h3, fun e => absurd e n10, fun _ => ⟨_, _, mW_f (m := 9) h4, fun e => absurd rfl e, fun _ => ⟨rfl, rfl⟩⟩⟩⟩⟩), hB, fun _ _ _ => rfl⟩
        | true =>
          have hn := hG.1
          have e1 := hB.1
          by_cases h6 : yvN V = 6
          · have n6 : im 47 1 = (6 : Int32) := by
              rw [e1, h6]
              decide
            rw [Bool.and_true, Bool.and_true, Bool.and_true, cond_true, if_pos h6]
            exact ⟨im, zEv_o rfl (t_X12_island ⟨_, _, mW_t (m := 5) h1, fun e => absurd e n10, fun _ => ⟨_, _, mW_t (m := 99) h2, fun e => absurd e n10, fun _ => ⟨_, _, mW_t (m := 9) h3, fun e => absurd e n10, fun _ => ⟨_, _, mW_t (m := 9) h4, fun _ => ⟨fun e => absurd n6 e, fun _ => ⟨rfl, rfl⟩⟩, fun e => absurd e n10⟩⟩⟩⟩), hB, fun _ _ _ => rfl⟩
          · have hN : yvN V < 6 := by omega
            have n6 : ¬ im 47 1 = (6 : Int32) := by
              rw [e1]
              exact fun h => h6 ((zi_eq (b := 6) (by omega) (by omega)).mp h)
            rw [Bool.and_true, Bool.and_true, Bool.and_true, cond_true, if_neg h6]
            obtain ⟨k, hk, rfl⟩ := bW_ex (by decide) h1
            rw [zi_n (show k < 2147483648 by omega)]
            refine ⟨up2 (up2 (up2 (up2 (up2 im 49 (yvN V) (Int32.ofNat k)) 50 (yvN V) b) 51 (yvN V) c) 52 (yvN V) f) 47 1 (Int32.ofNat (yvN V + 1)), zEv_o rfl (t_X12_island ⟨_, _, mW_t (m := 5) h1, fun e => absurd e n10, fun _ => ⟨_, _, mW_t (m := 99) h2, fun e => absurd e n10, fun _ => ⟨_, _, mW_t (m := 9) h3, fun e => absurd e n10, fun _ => ⟨_, _, mW_t (m := 9) h4, fun _ => ⟨fun _ => ?_, fun e => absurd e n6⟩, fun e => absurd e n10⟩⟩⟩⟩), ?_, fun k' j' hk' => ?_⟩
            · rw [e1, zi_n (show yvN V < 2147483648 by omega), zi_s]
              have v6 := zi_in hN (show yvN V < 2147483648 by omega)
              refine ⟨v6, v6, v6, v6, ?_, rfl⟩
              rw [← zi_s, Int32.add_sub_cancel]
            · obtain ⟨a1, a2, a3, a4, a5, a6, a7, a8⟩ := hB
              have o : ∀ j, j ≠ 1 → (up2 (up2 (up2 (up2 (up2 im 49 (yvN V) (Int32.ofNat k)) 50 (yvN V) b) 51 (yvN V) c) 52 (yvN V) f) 47 1 (Int32.ofNat (yvN V + 1))) 47 j = im 47 j := fun j hj => by
                rw [up_j hj, up_r (by decide), up_r (by decide), up_r (by decide), up_r (by decide)]
              refine ⟨up_eq, (o 6 (by decide)).trans a2, (o 13 (by decide)).trans a3, (o 12 (by decide)).trans a4, a5, a6, fun i hi => ?_, fun k' hk' => yTx_k (a8 k' hk') rfl rfl⟩
              have hi' : i < yvN V + 1 := hi
              rw [up_r (show 49 ≠ 47 by decide), up_r (show 49 ≠ 52 by decide), up_r (show 49 ≠ 51 by decide), up_r (show 49 ≠ 50 by decide), up_r (show 50 ≠ 47 by decide), up_r (show 50 ≠ 52 by decide), up_r (show 50 ≠ 51 by decide), up_r (show 51 ≠ 47 by decide), up_r (show 51 ≠ 52 by decide), up_r (show 52 ≠ 47 by decide)]
              by_cases e2 : i = yvN V
              · subst e2
                obtain ⟨b1, b2, b3, b4⟩ := yvIsl_n (V := V) (k := k) (b := b) (c := c) (e := f)
                rw [b1, b2, b3, b4, up_eq, up_eq, up_eq, up_eq]
                exact ⟨rfl, rfl, rfl, rfl⟩
              · obtain ⟨b1, b2, b3, b4⟩ := yvIsl_o (V := V) (k := k) (b := b) (c := c) (e := f) e2
                rw [b1, b2, b3, b4]
                simp only [up_j e2]
                exact a7 i (by omega)
            · by_cases e2 : k' = 47
              · subst e2
                rw [up_j (by omega), up_k (by omega), up_k (by omega), up_k (by omega), up_k (by omega)]
              · rw [up_k (by omega), up_k (by omega), up_k (by omega), up_k (by omega), up_k (by omega)]
/-- a call of both that allocates -/
def yCallA (D kc km : Nat) (as : List Value) (tl : List (Nat × Nat)) (q : zR) (im : zI) : Prop :=
  ∃ (v : Int32) (tl' : List (Nat × Nat)) (q' : zR) (im1 im2 : zI), zEv D kc (.ref 0 :: as) (zMm tl q im) (some (.int v)) (zMm tl' q' im1) ∧ zEv D km (.ref 47 :: as) (zMm tl' q' im1) (some (.int v)) (zMm tl' q' im2) ∧ yOk tl' q' im2 ∧ tl'.length ≤ tl.length + 12 ∧ zLs tl' ≤ zLs tl + 200
theorem yCall.al {D kc km : Nat} {as : List Value} {tl : List (Nat × Nat)} {q : zR} {im : zI} (h : yCall D kc km as tl q im (yOk tl q)) : yCallA D kc km as tl q im := by
  obtain ⟨v, im1, im2, h1, h2, h3⟩ := h
  exact ⟨v, tl, q, im1, im2, h1, h2, h3, by omega, by omega⟩
theorem k_island {d : Nat} {a b c f : Int32} {tl : List (Nat × Nat)} {q : zR} {im : zI} {V : yV} {U : yU} (hI : yInv tl q im V U) (hl : tl.length < 100000) : yCallA (d + 10) 75 165 [.int a, .int b, .int c, .int f] tl q im := by
  obtain ⟨⟨hG, hA, hB⟩, hH, hm⟩ := hI
  obtain ⟨tl', q', im1, g1, g2, g3, g4, g5⟩ := c_island (d := d + 4) (a := a) (b := b) (c := c) (f := f) hG hA hl
  have hB1 : yB im1 V := yB_ag hB (fun j hj => g5 47 j (by omega) (by omega)) (fun k h1 h2 => funext fun j => g5 k j (by omega) (by omega)) (funext fun j => g5 55 j (by omega) (by omega)) (funext fun j => g5 56 j (by omega) (by omega))
  obtain ⟨im2, m1, m2, m3⟩ := m_island (d := d + 4) (a := a) (b := b) (c := c) (f := f) (tl := tl') (q := q') hG hB1
  obtain ⟨i1, i2, i3⟩ := yG_islA (a := a) (b := b) (c := c) (e := f) hG
  refine ⟨_, tl', q', im1, im2, g1, m1, ⟨_, U, ⟨i1, ?_, m2⟩, ?_, yIm_le hm i2 (Nat.le_of_eq i3.symm)⟩, by omega, by omega⟩
  · exact yA_ag g2 (m3 0 5 (by omega)) (fun k h1 h2 => funext fun j => m3 k j (by omega)) (fun k hk => funext fun j => m3 k j (by omega))
  · exact yH_ag hH (fun k j hu => by unfold yUc at hu; rw [m3 k j (by omega), g5 k j (by omega) (by omega)])
