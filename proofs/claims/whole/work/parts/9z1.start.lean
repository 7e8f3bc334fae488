/-! THE START: behind the constructors both sides are alike -/
def yV0 : yV := ((0, 0, 0, 1), fun _ => 5, fun _ _ => 0, fun _ => (0, 0, 0, 0), fun _ p => match p with | 0 => [0] | 1 => [3] | 2 => [1, 100002, 18] | _ => [])
def yU0 : yU := ((0, fun _ => 0), (fun _ => (-1, 0, fun _ => 0)), (false, (0, 0, 0), (fun _ => 0), (fun _ _ => 0)))
def yqJ (k j : Nat) : Int32 := (yq2[k]?).elim 0 (fun c => c.2.1.getD j 0)
def yqQ (k j : Nat) : Option Nat := (yq2[k]?).elim none (fun c => c.2.2.getD j none)
theorem yq2_len : yq2.length = 72 := by decide +kernel
theorem yq2_i {bi : zI} {k j : Nat} (hk : k < 72) : (yqM bi yq2).2.1 k j = yqJ k j := by
  show (yq2[k]?).elim (bi k j) _ = (yq2[k]?).elim 0 _
  rw [List.getElem?_eq_getElem (by rw [yq2_len]; exact hk)]
  rfl
theorem yq2_s : yq2.map (fun c => ((c.1, c.2.1.length) : Nat × Nat)) = zB := by decide +kernel
theorem yq2_r0 : ((List.range 72).all fun k => (List.range 50).all fun j => match (zRs.getD k [])[j]? with
  | some (some r) => decide (yqQ k j = some r)
  | _ => true) = true := by decide +kernel
theorem zRs_l : zRs.length = 72 ∧ zRs.all (fun r => Nat.ble r.length 50) = true := by decide +kernel
theorem yq2_q (k j : Nat) : zRf yqQ k j = yqQ k j := by
  unfold zRf
  split
  · rename_i r hr
    have hk : k < 72 := by
      rw [List.getD_eq_getElem?_getD] at hr
      rcases Nat.lt_or_ge k 72 with h | h
      · exact h
      · have h0 : zRs[k]? = none := List.getElem?_eq_none (by rw [zRs_l.1]; exact h)
        rw [h0] at hr
        simp at hr
    have hj : j < 50 := by
      have hl : j < (zRs.getD k []).length := (List.getElem?_eq_some_iff.mp hr).1
      rw [List.getD_eq_getElem?_getD, List.getElem?_eq_getElem (by rw [zRs_l.1]; exact hk)] at hl
      have := Nat.le_of_ble_eq_true (List.all_eq_true.mp zRs_l.2 zRs[k] (List.getElem_mem _))
      exact Nat.lt_of_lt_of_le hl this
    have h1 := List.all_eq_true.mp (List.all_eq_true.mp yq2_r0 k (List.mem_range.mpr hk)) j (List.mem_range.mpr hj)
    rw [hr] at h1
    exact (of_decide_eq_true h1).symm
  · rfl
theorem yq2_M {bi : zI} : yqM bi yq2 = zMm [] yqQ (yqM bi yq2).2.1 := by
  refine Prod.ext ?_ (Prod.ext rfl (funext fun k => funext fun j => ?_))
  · show yq2.map (fun c => ((c.1, c.2.1.length) : Nat × Nat)) = zB ++ []
    rw [List.append_nil]
    exact yq2_s
  · exact (yq2_q k j).symm
def yq2_cA : Bool := decide (yqJ 1 3 = 0) && decide (yqJ 1 2 = 0) && decide (yqJ 1 4 = 0) && decide (yqJ 0 5 = 1) && (List.range 12).all (fun t => decide (yqJ 2 t = 5) && decide (yqJ 48 t = 5)) && (List.range 4).all (fun p => (List.range 12).all fun t => decide (yqJ (4 + p) t = 0) && decide (yqJ 53 (12 * p + t) = 0))
theorem yq2_a : yq2_cA = true := by decide +kernel
theorem yq2_t (t : Nat) (h : t < 12) : yqJ 2 t = 5 ∧ yqJ 48 t = 5 := by
  have : ∀ t, t < 12 → yqJ 2 t = 5 ∧ yqJ 48 t = 5 := by decide +kernel
  exact this t h
theorem yq2_p (p t : Nat) (h : p < 4) (h2 : t < 12) : yqJ (4 + p) t = 0 ∧ yqJ 53 (12 * p + t) = 0 := by
  have : ∀ p, p < 4 → ∀ t, t < 12 → yqJ (4 + p) t = 0 ∧ yqJ 53 (12 * p + t) = 0 := by decide +kernel
  exact this p h t h2
theorem yq2_sh (s : Nat) (h : s < 4) : yqJ (37 + 2 * s) 1 = -1 ∧ yqJ (37 + 2 * s) 2 = 0 ∧ (∀ j, j < 40 → yqJ (38 + 2 * s) j = 0) ∧ yqJ 59 s = -1 ∧ yqJ 60 s = 0 ∧ ∀ j, j < 40 → yqJ 61 (40 * s + j) = 0 := by
  have : ∀ s, s < 4 → yqJ (37 + 2 * s) 1 = -1 ∧ yqJ (37 + 2 * s) 2 = 0 ∧ (∀ j, j < 40 → yqJ (38 + 2 * s) j = 0) ∧ yqJ 59 s = -1 ∧ yqJ 60 s = 0 ∧ ∀ j, j < 40 → yqJ 61 (40 * s + j) = 0 := by decide +kernel
  exact this s h
theorem yq2_w : ∀ j, j < 96 → yqJ 63 j = Int32.ofNat (yW63.getD j 0) := by decide +kernel
theorem yq2_ok {bi : zI} : yOk [] yqQ (yqM bi yq2).2.1 := by
  have hd : ∀ p, p < 3 → yDp (yvX yV0 0 p) 0 = some 1 := by decide +kernel
  refine ⟨yV0, yU0, ⟨⟨by decide, by decide, by decide, by decide, fun t _ => ⟨5, by decide, rfl⟩, fun p hp => absurd hp (by show ¬ p < 0; omega), fun i hi => absurd hi (by show ¬ i < 0; omega)⟩, ?_, ?_⟩, ⟨?_, ?_, ?_, ?_⟩, fun h => by cases h⟩
  · refine ⟨by rw [yq2_i (by decide)]; decide +kernel, by rw [yq2_i (by decide)]; decide +kernel, by rw [yq2_i (by decide)]; decide +kernel, by rw [yq2_i (by decide)]; decide +kernel, fun t ht => by rw [yq2_i (by decide)]; exact (yq2_t t ht).1, fun p hp t ht => by rw [yq2_i (by omega)]; exact (yq2_p p t hp ht).1, fun i hi => absurd hi (by show ¬ i < 0; omega), fun k hk => ?_⟩
    have hk : k < 1 := hk
    obtain rfl : k = 0 := by omega
    refine ⟨45, by rw [yq2_q]; decide +kernel, .inl rfl, fun cc hc => ?_, 3, 46, 5, rfl, by rw [yq2_q]; decide +kernel, rfl, by decide, by decide, rfl, by decide, by rw [yq2_i (by decide)]; decide +kernel, by rw [yq2_i (by decide)]; decide +kernel, hd, fun i hi => ?_, fun i hi => ?_, fun i hi => ?_⟩
    · rw [yq2_q] at hc
      have e : yqQ 45 0 = some 46 := by decide +kernel
      rw [e] at hc
      cases hc
      exact .inl rfl
    · rw [yq2_i (by decide)]
      have hh : ∀ i, i < 1 → yqJ 46 (0 + i) = yTr ([0].getD i 0) := by decide +kernel
      exact hh i hi
    · rw [yq2_i (by decide)]
      have hh : ∀ i, i < 1 → yqJ 46 (1 + i) = yTr ([3].getD i 0) := by decide +kernel
      exact hh i hi
    · rw [yq2_i (by decide)]
      have hh : ∀ i, i < 3 → yqJ 46 (1 + 1 + i) = yTr ([1, 100002, 18].getD i 0) := by decide +kernel
      exact hh i hi
  · refine ⟨by rw [yq2_i (by decide)]; decide +kernel, by rw [yq2_i (by decide)]; decide +kernel, by rw [yq2_i (by decide)]; decide +kernel, by rw [yq2_i (by decide)]; decide +kernel, fun t ht => by rw [yq2_i (by decide)]; exact (yq2_t t ht).2, fun p hp t ht => by rw [yq2_i (by decide)]; exact (yq2_p p t hp ht).2, fun i hi => absurd hi (by show ¬ i < 0; omega), fun k hk => ?_⟩
    have hk : k < 1 := hk
    obtain rfl : k = 0 := by omega
    refine ⟨by rw [yq2_i (by decide)]; decide +kernel, by rw [yq2_i (by decide)]; decide +kernel, by rw [yq2_i (by decide)]; decide +kernel, by rw [yq2_i (by decide)]; decide +kernel, by decide, hd, fun i hi => ?_, fun i hi => ?_, fun i hi => ?_⟩
    · rw [yq2_i (by decide)]
      have hh : ∀ i, i < 1 → yqJ 55 (200 * 0 + (0 + i)) = Int32.ofNat ([0].getD i 0) := by decide +kernel
      exact hh i hi
    · rw [yq2_i (by decide)]
      have hh : ∀ i, i < 1 → yqJ 55 (200 * 0 + (1 + i)) = Int32.ofNat ([3].getD i 0) := by decide +kernel
      exact hh i hi
    · rw [yq2_i (by decide)]
      have hh : ∀ i, i < 3 → yqJ 55 (200 * 0 + (1 + 1 + i)) = Int32.ofNat ([1, 100002, 18].getD i 0) := by decide +kernel
      exact hh i hi
  · refine ⟨by rw [yq2_i (by decide)]; decide +kernel, by rw [yq2_i (by decide)]; decide +kernel, by decide, fun k hk => absurd hk (by show ¬ k < 0; omega)⟩
  · intro s hs
    obtain ⟨h1, h2, h3, h4, h5, h6⟩ := yq2_sh s hs
    refine ⟨by rw [yq2_i (by omega)]; exact h1, by rw [yq2_i (by omega)]; exact h2, Nat.zero_le _, fun j hj => by rw [yq2_i (by omega)]; exact h3 j hj, by rw [yq2_i (by omega)]; exact h4, by rw [yq2_i (by omega)]; exact h5, fun j hj => by rw [yq2_i (by omega)]; exact h6 j hj⟩
  · refine ⟨by rw [yq2_i (by decide)]; decide +kernel, by rw [yq2_i (by decide)]; decide +kernel, fun h => by cases h⟩
  · intro j hj
    rw [yq2_i (by decide)]
    exact yq2_w j hj
/-! the law, from its entry -/
theorem yqX_st {bi : zI} {d f ip : Nat} {cd : List zE} {ls : zL} {st : List Value} {m : yqT} {e : zE} {R : Nat → List Value → yqT → Option (Option Value × yqT)} {r : Nat × zL × List Value × yqT} {Z : Option Value → zM → Prop} (hR : R = yqE f d) (he : cd[ip]? = some e) (hs : yqS R e ip ls st m = some (.inl r)) (h : zX d cd r.1 r.2.1 r.2.2.1 (yqM bi r.2.2.2) Z) : zX d cd ip ls st (yqM bi m) Z := by
  subst hR
  obtain ⟨n, h⟩ := h
  exact ⟨n + 1, zRun_st he (yqS_ok (fun x as m v m' h => yqE_ok d x as m v m' h) hs (show yqK bi (.inl r) _ _ from h))⟩
theorem l_entry {bi : zI} {Z : Option Value → zM → Prop} (h : zX 43 zc_L_law 10 (yYs (Int32.ofNat 0)) [] (yqM bi yq2) Z) : zX 43 zc_L_law 0 [(0, .ref 2000000)] [] (yqM bi []) Z := by
  obtain ⟨R, hR⟩ : ∃ R, R = yqE 5000 43 := ⟨_, rfl⟩
  have r1 : R 64 [.ref 0] yq0 = some (none, yq1) := by rw [hR]; exact yqX_ok yqK1
  have r2 : R 135 [.ref 47] yq1b = some (none, yq2) := by rw [hR]; exact yqX_ok yqK2
  refine yqX_st (r := (1, [(0, .ref 2000000)], [.ref 0], yq0)) hR rfl rfl ?_
  refine yqX_st (r := (2, [(0, .ref 2000000)], [.ref 0, .ref 0], yq0)) hR rfl rfl ?_
  refine yqX_st (r := (3, [(0, .ref 2000000)], [.ref 0], yq1)) hR rfl ?_ ?_
  · show (R 64 [.ref 0] yq0).elim none _ = _
    rw [r1]
    rfl
  refine yqX_st (r := (4, [(0, .ref 2000000), (1, .ref 0)], [], yq1)) hR rfl rfl ?_
  refine yqX_st (r := (5, [(0, .ref 2000000), (1, .ref 0)], [.ref 47], yq1b)) hR rfl rfl ?_
  refine yqX_st (r := (6, [(0, .ref 2000000), (1, .ref 0)], [.ref 47, .ref 47], yq1b)) hR rfl rfl ?_
  refine yqX_st (r := (7, [(0, .ref 2000000), (1, .ref 0)], [.ref 47], yq2)) hR rfl ?_ ?_
  · show (R 135 [.ref 47] yq1b).elim none _ = _
    rw [r2]
    rfl
  refine yqX_st (r := (8, [(0, .ref 2000000), (1, .ref 0), (2, .ref 47)], [], yq2)) hR rfl rfl ?_
  refine yqX_st (r := (9, [(0, .ref 2000000), (1, .ref 0), (2, .ref 47)], [.int 0], yq2)) hR rfl rfl ?_
  exact yqX_st (r := (10, [(0, .ref 2000000), (1, .ref 0), (2, .ref 47), (3, .int 0)], [], yq2)) hR rfl rfl h
theorem zB_sl : (zB.map (fun p => p.2)).sum ≤ 10000 := by decide +kernel
/-- THE LAW ANSWERS TRUE, in the machine's words -/
theorem l_whole {bi : zI} {n : Nat} (hn : n ≤ 3584) (hb : bi 2000001 0 = Int32.ofNat n) : ∃ μF : zM, zX 43 zc_L_law 0 [(0, .ref 2000000)] [] (yqM bi []) (fun a b => a = some (.int 1) ∧ b = μF) ∧ μF.1.length ≤ 600000 ∧ zSl μF ≤ 7302250 := by
  have h1 : (yqM bi yq2).2.1 2000001 0 = Int32.ofNat n := by
    rw [← hb]
    show (yq2[2000001]?).elim (bi 2000001 0) (fun c => c.2.1.getD 0 0) = _
    rw [List.getElem?_eq_none (by rw [yq2_len]; omega)]
    rfl
  obtain ⟨tl1, q1, im1, hz, hl, hs⟩ := l_loop (n := n) (by omega) 512 0 [] yqQ (yqM bi yq2).2.1 (by omega) (by omega) (by show 0 + 12 * 512 ≤ 90000; omega) h1 yq2_ok
  rw [← yq2_M] at hz
  refine ⟨zMm tl1 q1 im1, l_entry hz, ?_, ?_⟩
  · show (zB ++ tl1).length ≤ _
    rw [zB_len]
    have hl : tl1.length ≤ 0 + 12 * 512 := hl
    omega
  · have e : zSl (zMm tl1 q1 im1) = (zB.map (fun p => p.2)).sum + zLs tl1 := by
      show ((zB ++ tl1).map (fun p => p.2)).sum = _
      rw [List.map_append, List.sum_append]
      rfl
    have := zB_sl
    have hs : zLs tl1 ≤ 0 + 200 * 512 := hs
    omega
