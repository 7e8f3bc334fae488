/-! PARTING by turns -/
theorem zi_pa : ∀ M : Fin 5, ∀ f : Fin 4, ∀ k : Fin 7, 0 < M.1 → (Int32.ofNat f.1 + (Int32.ofNat k.1 - Int32.ofNat k.1 / Int32.ofNat M.1 * Int32.ofNat M.1)) - (Int32.ofNat f.1 + (Int32.ofNat k.1 - Int32.ofNat k.1 / Int32.ofNat M.1 * Int32.ofNat M.1)) / Int32.ofNat M.1 * Int32.ofNat M.1 = Int32.ofNat ((f.1 + k.1 % M.1) % M.1) := by decide +kernel
theorem zi_pb : ∀ M : Fin 5, ∀ f : Fin 4, ∀ k : Fin 7, 0 < M.1 → (Int32.ofNat f.1 + ((Int32.ofNat M.1 - (1 : Int32)) - (Int32.ofNat k.1 - Int32.ofNat k.1 / Int32.ofNat M.1 * Int32.ofNat M.1))) - (Int32.ofNat f.1 + ((Int32.ofNat M.1 - (1 : Int32)) - (Int32.ofNat k.1 - Int32.ofNat k.1 / Int32.ofNat M.1 * Int32.ofNat M.1))) / Int32.ofNat M.1 * Int32.ofNat M.1 = Int32.ofNat ((f.1 + (M.1 - 1 - k.1 % M.1)) % M.1) := by decide +kernel
theorem zi_pc : ∀ M : Fin 5, ∀ k : Fin 7, 0 < M.1 → (((Int32.ofNat k.1 / Int32.ofNat M.1) - (Int32.ofNat k.1 / Int32.ofNat M.1) / (2 : Int32) * (2 : Int32)) = (1 : Int32) ↔ k.1 / M.1 % 2 = 1) := by decide +kernel
theorem zi_off : ∀ L : Fin 64, ∀ k : Fin 6, Int32.ofNat L.1 &&& (((1 : Int32) <<< (Int32.ofNat k.1 &&& 31)) ^^^ (-1 : Int32)) = Int32.ofNat (L.1 &&& (63 ^^^ 2 ^ k.1)) := by decide +kernel
theorem bit63 : ∀ i : Fin 6, (63 : Nat).testBit i.1 = true := by decide +kernel
theorem yDe_cg {w : Nat → Int32} {g g' : Nat → Bool} : ∀ {n : Nat}, (∀ i, i < n → g i = g' i) → yDe w g n = yDe w g' n
  | 0, _ => rfl
  | n + 1, h => by
    show (bif _ then _ else _) = (bif _ then _ else _)
    rw [yDe_cg (fun i hi => h i (by omega)), h n (by omega)]
theorem yDe_no {w : Nat → Int32} {g : Nat → Bool} : ∀ {n : Nat}, (∀ i, i < n → g i = false) → yDe w g n = -1
  | 0, _ => rfl
  | n + 1, h => by
    show (bif _ then _ else _) = _
    rw [h n (by omega), Bool.false_and, cond_false]
    exact yDe_no (fun i hi => h i (by omega))
theorem yDe_m1 {w : Nat → Int32} {g : Nat → Bool} : ∀ {n : Nat}, n < 100 → yDe w g n = -1 → ∀ i, i < n → g i = false
  | 0, _, _, i, hi => absurd hi (by omega)
  | n + 1, hn, h, i, hi => by
    have h' : (bif g n && (decide (yDe w g n = -1) || decide (w (yDe w g n).toNatClampNeg < w n)) then Int32.ofNat n else yDe w g n) = -1 := h
    cases hc : g n && (decide (yDe w g n = -1) || decide (w (yDe w g n).toNatClampNeg < w n)) with
    | true =>
      rw [hc, cond_true] at h'
      exact absurd h' (zi_m1 (by omega))
    | false =>
      rw [hc, cond_false] at h'
      by_cases e : i = n
      · subst e
        rw [h', decide_eq_true rfl, Bool.true_or, Bool.and_true] at hc
        exact hc
      · exact yDe_m1 (by omega) h' i (by omega)
/-- what is still to be had -/
def yPg (V : yV) (t G : Nat) : Nat → Bool := fun i => ySd V t i && !G.testBit i
def yPx (V : yV) (t G : Nat) : Int32 := yDe (yWo V (yvR V) t) (yPg V t G) (yvN V)
/-- whose turn it is -/
def yPj (M fr : Nat) (tn : Bool) (k : Nat) : Nat := (fr + (if tn = true ∧ k / M % 2 = 1 then M - 1 - k % M else k % M)) % M
def yPp (V : yV) (t fr : Nat) (tn : Bool) : Nat → Nat × (Nat → Int32)
  | 0 => (0, fun _ => 0)
  | k + 1 => if yPx V t (yPp V t fr tn k).1 = -1 then yPp V t fr tn k else ((yPp V t fr tn k).1 ||| 2 ^ (yPx V t (yPp V t fr tn k).1).toNatClampNeg, zSet (yPp V t fr tn k).2 (yPj (yvM V) fr tn k) ((yPp V t fr tn k).2 (yPj (yvM V) fr tn k) + yWo V (yvR V) t (yPx V t (yPp V t fr tn k).1).toNatClampNeg))
theorem yPp_s {V : yV} {t fr : Nat} {tn : Bool} (k : Nat) : yPp V t fr tn (k + 1) = if yPx V t (yPp V t fr tn k).1 = -1 then yPp V t fr tn k else ((yPp V t fr tn k).1 ||| 2 ^ (yPx V t (yPp V t fr tn k).1).toNatClampNeg, zSet (yPp V t fr tn k).2 (yPj (yvM V) fr tn k) ((yPp V t fr tn k).2 (yPj (yvM V) fr tn k) + yWo V (yvR V) t (yPx V t (yPp V t fr tn k).1).toNatClampNeg)) := rfl
theorem yPx_or {V : yV} {t G : Nat} : yPx V t G = -1 ∨ ∃ k, k < yvN V ∧ yPg V t G k = true ∧ yPx V t G = Int32.ofNat k := yDe_or (yvN V)
theorem yPp_lt {V : yV} {t fr : Nat} {tn : Bool} (hn : yvN V ≤ 6) : ∀ k, (yPp V t fr tn k).1 < 64
  | 0 => by show 0 < 64; omega
  | k + 1 => by
    have ih := yPp_lt (V := V) (t := t) (fr := fr) (tn := tn) hn k
    rw [yPp_s]
    by_cases e : yPx V t (yPp V t fr tn k).1 = -1
    · rw [if_pos e]; exact ih
    · rw [if_neg e]
      rcases yPx_or (V := V) (t := t) (G := (yPp V t fr tn k).1) with h | ⟨i, hi, _, h⟩
      · exact absurd h e
      · rw [h, zi_n (by omega)]
        exact or_64 ih (p2_64 (by omega))
theorem yPp_st {V : yV} {t fr : Nat} {tn : Bool} {k : Nat} (h : yPx V t (yPp V t fr tn k).1 = -1) : ∀ j, yPp V t fr tn (k + j) = yPp V t fr tn k
  | 0 => rfl
  | j + 1 => by
    have ih := yPp_st h j
    show yPp V t fr tn (k + j + 1) = _
    rw [yPp_s, ih, if_pos h]
theorem yPp_c {V : yV} {t fr : Nat} {tn : Bool} (hn : yvN V ≤ 6) : ∀ k, yPx V t (yPp V t fr tn k).1 = -1 ∨ zCnt 6 (fun i => decide (i < yvN V) && yPg V t (yPp V t fr tn k).1 i) + k ≤ 6
  | 0 => .inr (by have := zCnt_le (f := fun i => decide (i < yvN V) && yPg V t (yPp V t fr tn 0).1 i) (n := 6); omega)
  | k + 1 => by
    by_cases e : yPx V t (yPp V t fr tn k).1 = -1
    · refine .inl ?_
      rw [yPp_s, if_pos e]
      exact e
    · rcases yPp_c (V := V) (t := t) (fr := fr) (tn := tn) hn k with h | h
      · exact absurd h e
      · rcases yPx_or (V := V) (t := t) (G := (yPp V t fr tn k).1) with h2 | ⟨i, hi, hg, h2⟩
        · exact absurd h2 e
        · refine .inr ?_
          have e1 : (yPp V t fr tn (k + 1)).1 = (yPp V t fr tn k).1 ||| 2 ^ i := by rw [yPp_s, if_neg e, h2, zi_n (by omega)]
          have := zCnt_lt (f := fun j => decide (j < yvN V) && yPg V t (yPp V t fr tn (k + 1)).1 j) (g := fun j => decide (j < yvN V) && yPg V t (yPp V t fr tn k).1 j) (x := i) (m := 6) (fun j _ hj => by
            show (decide (j < yvN V) && yPg V t (yPp V t fr tn k).1 j) = true
            have hj' : (decide (j < yvN V) && yPg V t (yPp V t fr tn (k + 1)).1 j) = true := hj
            rw [e1] at hj'
            unfold yPg at hj' ⊢
            rw [Nat.testBit_or, Bool.not_or] at hj'
            cases h1 : decide (j < yvN V) <;> cases h2 : ySd V t j <;> cases h3 : (yPp V t fr tn k).1.testBit j <;> simp_all) (by omega) (by
            show (decide (i < yvN V) && yPg V t (yPp V t fr tn (k + 1)).1 i) = false
            rw [e1]
            unfold yPg
            rw [Nat.testBit_or, Nat.testBit_two_pow, decide_eq_true (p := i = i) rfl, Bool.or_true, Bool.not_true, Bool.and_false, Bool.and_false]) (by
            show (decide (i < yvN V) && yPg V t (yPp V t fr tn k).1 i) = true
            rw [decide_eq_true hi, hg]
            rfl)
          omega
theorem yPp_6 {V : yV} {t fr : Nat} {tn : Bool} (hn : yvN V ≤ 6) : yPx V t (yPp V t fr tn 6).1 = -1 := by
  rcases yPp_c (V := V) (t := t) (fr := fr) (tn := tn) hn 6 with h | h
  · exact h
  · refine yDe_no (fun i hi => ?_)
    have := zCnt_0 (f := fun i => decide (i < yvN V) && yPg V t (yPp V t fr tn 6).1 i) (m := 6) (by omega) i (by omega)
    have h2 : (decide (i < yvN V) && yPg V t (yPp V t fr tn 6).1 i) = false := this
    rw [decide_eq_true hi, Bool.true_and] at h2
    exact h2
theorem yPj_lt {M fr k : Nat} {tn : Bool} (h : 0 < M) : yPj M fr tn k < M := Nat.mod_lt _ h
theorem c_parts {d t fr : Nat} {tn : Bool} {tl : List (Nat × Nat)} {q : zR} {im : zI} {V : yV} (hG : yG V) (hA : yA tl q im V) (ht : t < 12) (hf : fr < yvM V) :
    ∃ im', zEv (d + 7) 131 [.ref 0, .int (Int32.ofNat t), .int (Int32.ofNat fr), .int (zb tn)] (zMm tl q im) none (zMm tl q im') ∧ (∀ p, p < 4 → im' 36 p = (yPp V t fr tn 6).2 p) ∧ yFa im im' := by
  have hn := hG.1
  have hm := hG.2.1
  obtain ⟨r, ia, gl, gk, hT0, hF0⟩ := c_top (d := d + 1) hG hA ht
  obtain ⟨ib, b1, b2, b3⟩ := c_fill (d := d + 5) (a := 36) (len := 4) (tl := tl) (q := q) (im := ia) (v := 0) rfl (by omega)
  have hTb : yTs V (yvR V) t (ySp V t) ib := zTop_k hT0 (fun k hk => b3 k (by omega))
  have hFb : yFa im ib := hF0.tr (yFa.of 36 (by decide) b3)
  have hM0 : ¬ Int32.ofNat (yvM V) ≤ 0 := fun h => by
    have := (zi_le (b := 0) (by omega) (by omega)).mp h
    omega
  have hM1 : ¬ Int32.ofNat (yvM V) = 0 := zi_k (b := 0) (by omega) (by omega) (by omega)
  have lc : ∀ j k im1, k + j = 6 → yFa im im1 → yTs V (yvR V) t (ySp V t) im1 → (∀ p, p < 4 → im1 36 p = (yPp V t fr tn k).2 p) →
      ∃ im', zX (d + 6) zc_X11_partIslands 17 [(0, .ref 0), (1, .int (Int32.ofNat t)), (2, .int (Int32.ofNat fr)), (3, .int (zb tn)), (4, .int (Int32.ofNat (yvM V))), (5, .int (Int32.ofNat (yPp V t fr tn k).1)), (6, .int (Int32.ofNat k))] [] (zMm tl q im1) (fun x y => x = none ∧ y = zMm tl q im') ∧ (∀ p, p < 4 → im' 36 p = (yPp V t fr tn 6).2 p) ∧ yFa im im' := by
    intro j
    induction j with
    | zero =>
      intro k im1 hk hF hT h36
      have e : k = 6 := by omega
      subst e
      exact ⟨im1, t_X11_partIslands_17 ⟨fun _ => ⟨rfl, rfl⟩, fun h => absurd (by decide) h⟩, h36, hF⟩
    | succ j ih =>
      intro k im1 hk hF hT h36
      have hG1 := yPp_lt (V := V) (t := t) (fr := fr) (tn := tn) hn k
      have hd : zEv (d + 6) 58 [.ref 21, .int (Int32.ofNat (yPp V t fr tn k).1)] (zMm tl q im1) (some (.int (yPx V t (yPp V t fr tn k).1))) (zMm tl q im1) := by
        have := c_dearestBut (d := d + 5) (tl := tl) (q := q) (gone := Int32.ofNat (yPp V t fr tn k).1) hT
        rw [yDe_cg (g' := yPg V t (yPp V t fr tn k).1) (fun i hi => by
          show (ySd V t i && !zBt (Int32.ofNat (yPp V t fr tn k).1) i) = (ySd V t i && !(yPp V t fr tn k).1.testBit i)
          rw [zBt_nat ⟨_, hG1⟩ ⟨i, by omega⟩])] at this
        exact this
      by_cases e : yPx V t (yPp V t fr tn k).1 = -1
      · have hs := yPp_st e (6 - k)
        rw [show k + (6 - k) = 6 by omega] at hs
        exact ⟨im1, t_X11_partIslands_17 ⟨fun h => absurd ((zi_le (a := 6) (by omega) (by omega)).mp h) (by omega), fun _ => ⟨fun h => absurd h hM0, fun _ => ⟨_, _, hd, fun h => absurd e h, fun _ => ⟨rfl, rfl⟩⟩⟩⟩, by rw [hs]; exact h36, hF⟩
      · rcases yPx_or (V := V) (t := t) (G := (yPp V t fr tn k).1) with h2 | ⟨i, hi, hg, h2⟩
        · exact absurd h2 e
        · have hs := yPp_s (V := V) (t := t) (fr := fr) (tn := tn) k
          rw [if_neg e, h2, zi_n (show i < 2147483648 by omega)] at hs
          have hj := yPj_lt (M := yvM V) (fr := fr) (k := k) (tn := tn) (by omega)
          have e22 : im1 22 i = yWo V (yvR V) t i := hT.1.2.2.2.2.1 i hi
          obtain ⟨im', h1, h3⟩ := ih (k + 1) (up2 im1 36 (yPj (yvM V) fr tn k) ((yPp V t fr tn k).2 (yPj (yvM V) fr tn k) + yWo V (yvR V) t i)) (by omega) (hF.tr (yFa.up (by decide))) (zTop_k hT (fun c hc => up_r (by omega))) (fun p hp => by
            rw [hs]
            show _ = zSet _ _ _ p
            by_cases ep : p = yPj (yvM V) fr tn k
            · rw [ep, up_eq, zSet_eq]
            · rw [up_j ep, zSet_ne ep]; exact h36 p hp)
          rw [hs] at h1
          have p1 := zi_pa ⟨yvM V, by omega⟩ ⟨fr, by omega⟩ ⟨k, by omega⟩ (by show 0 < yvM V; omega)
          have p2 := zi_pb ⟨yvM V, by omega⟩ ⟨fr, by omega⟩ ⟨k, by omega⟩ (by show 0 < yvM V; omega)
          have p3 := zi_pc ⟨yvM V, by omega⟩ ⟨k, by omega⟩ (by show 0 < yvM V; omega)
          simp only at p1 p2 p3
          have v6 := zi_in (show i < 6 by omega) (show i < 2147483648 by omega)
          have vj := zi_in (show yPj (yvM V) fr tn k < 4 by omega) (show yPj (yvM V) fr tn k < 2147483648 by omega)
          have hor : Int32.ofNat (yPp V t fr tn k).1 ||| ((1 : Int32) <<< (Int32.ofNat i &&& 31)) = Int32.ofNat ((yPp V t fr tn k).1 ||| 2 ^ i) := by rw [zi_sh ⟨i, by omega⟩]; exact zi_orN
          refine ⟨im', t_X11_partIslands_17 ⟨fun h => absurd ((zi_le (a := 6) (by omega) (by omega)).mp h) (by omega), fun _ => ⟨fun h => absurd h hM0, fun _ => ⟨_, _, hd, fun _ => ?_, fun h => absurd h e⟩⟩⟩, h3⟩
          rw [h2, hor, p1, p2, p3, zi_s, zi_n (show i < 2147483648 by omega), e22]
          have n1 : (fr + k % yvM V) % yvM V < 4 := Nat.lt_of_lt_of_le (Nat.mod_lt _ (by omega)) hm
          have n2 : (fr + (yvM V - 1 - k % yvM V)) % yvM V < 4 := Nat.lt_of_lt_of_le (Nat.mod_lt _ (by omega)) hm
          rw [zi_n (show (fr + k % yvM V) % yvM V < 2147483648 by omega), zi_n (show (fr + (yvM V - 1 - k % yvM V)) % yvM V < 2147483648 by omega), h36 _ n1, h36 _ n2]
          have j1 : ¬ (tn = true ∧ k / yvM V % 2 = 1) → yPj (yvM V) fr tn k = (fr + k % yvM V) % yvM V := fun h => by unfold yPj; rw [if_neg h]
          have j2 : (tn = true ∧ k / yvM V % 2 = 1) → yPj (yvM V) fr tn k = (fr + (yvM V - 1 - k % yvM V)) % yvM V := fun h => by unfold yPj; rw [if_pos h]
          refine ⟨fun h => ?_, fun h => ⟨hM1, fun h5 => ?_, fun h5 => ?_⟩⟩
          · rw [← j1 (fun hh => by rw [hh.1] at h; exact absurd h n10)]
            exact ⟨hM1, hM1, vj, v6, vj, h1⟩
          · rw [← j1 (fun hh => h5 hh.2)]
            exact ⟨hM1, hM1, vj, v6, vj, h1⟩
          · have ht2 : tn = true := by
              cases tn with
              | true => rfl
              | false => exact absurd rfl h
            rw [← j2 ⟨ht2, h5⟩]
            exact ⟨hM1, hM1, vj, v6, vj, h1⟩
  obtain ⟨im', h1, h2, h3⟩ := lc 6 0 ib (by omega) hFb hTb (fun p hp => b2 p hp)
  refine ⟨im', zEv_o rfl (t_X11_partIslands ⟨some r, im, gl _, ia, gk, ib, b1, ?_⟩), h2, h3⟩
  rw [(yA_fr hA hFb.fr).2.1]
  exact h1
