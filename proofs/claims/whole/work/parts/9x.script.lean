/-! WHAT LIES FAR OFF STAYS: the script is not written -/
def zKp (μ μ' : zM) : Prop := zLe μ μ' ∧ (μ'.1.length ≤ 2000000 → ∀ k, 2000000 ≤ k → μ'.2.1 k = μ.2.1 k)
theorem zKp.rf {μ : zM} : zKp μ μ := ⟨zLe.rf, fun _ _ _ => rfl⟩
theorem zKp.tr {a b c : zM} (h : zKp a b) (h2 : zKp b c) : zKp a c := ⟨h.1.tr h2.1, fun hl k hk => (h2.2 hl k hk).trans (h.2 (Nat.le_trans h2.1.1 hl) k hk)⟩
set_option maxHeartbeats 4000000 in
theorem zStep_kp {Rr : zOr} {e : zE} {ip : Nat} {ls : zL} {st : List Value} {μ μF : zM} {K : Nat → zL → List Value → zM → Prop} {Z : Option Value → zM → Prop} (hR : ∀ x as μ v μ', Rr x as μ v μ' → zKp μ μ') (hK : ∀ ip ls st μ1, K ip ls st μ1 → zKp μ1 μF) (hZ : ∀ v, Z v μ → zKp μ μF) (h : zStep zDyn Rr e ip ls st μ K Z) : zKp μ μF := by
  obtain ⟨pc, ins, x, y, w, t⟩ := e
  have hC : ∀ (x : Nat) (as : List Value) (f : List Value → Nat × zL × List Value), zCall Rr x as μ (fun v μ => K (f v).1 (f v).2.1 (f v).2.2 μ) → zKp μ μF := by
    intro x as f h
    obtain ⟨v, μ', h1, h2⟩ := h
    exact (hR _ _ _ _ _ h1).tr (hK _ _ _ _ h2)
  have hB : ∀ {c : Prop} {i1 l1 s1 i2 l2 s2}, ((c → K i1 l1 s1 μ) ∧ (¬ c → K i2 l2 s2 μ)) → zKp μ μF := fun h => (zBr h).elim (hK _ _ _ _) (hK _ _ _ _)
  have hBN : ∀ {c : Prop} {i1 l1 s1 i2 l2 s2}, ((¬ c → K i1 l1 s1 μ) ∧ (c → K i2 l2 s2 μ)) → zKp μ μF := fun h => (zBrN h).elim (hK _ _ _ _) (hK _ _ _ _)
  have hE : ∀ {o : Option Nat} {i1 l1 s1 i2 l2} {s2 : Nat → List Value}, o.elim (K i1 l1 s1 μ) (fun q => K i2 l2 (s2 q) μ) → zKp μ μF := fun h => (zEl2 h).elim (hK _ _ _ _) (fun ⟨_, q⟩ => hK _ _ _ _ q)
  have hA : ∀ {t : Nat × Nat} {ip ls st}, K ip ls st (μ.1 ++ [t], zero2 μ.2.1 μ.1.length 1 0, zero2 μ.2.2 μ.1.length 1 none) → zKp μ μF := by
    intro t ip ls st h
    refine zKp.tr ⟨zLe.app (μ := μ) (μ' := (μ.1 ++ [t], zero2 μ.2.1 μ.1.length 1 0, zero2 μ.2.2 μ.1.length 1 none)) rfl, fun hl k hk => ?_⟩ (hK _ _ _ _ h)
    rw [List.length_append] at hl
    have hl : μ.1.length + 1 ≤ 2000000 := hl
    funext j
    show zero2 μ.2.1 μ.1.length 1 0 k j = _
    unfold zero2
    rw [if_neg (by omega)]
  have hAm : ∀ {n k : Nat} {ip ls st} {r : zR}, K ip ls st (μ.1 ++ (22, n) :: List.replicate n (20, k), zero2 μ.2.1 μ.1.length (n + 1) 0, r) → zKp μ μF := by
    intro n k ip ls st r h
    refine zKp.tr ⟨zLe.app (μ := μ) (μ' := (μ.1 ++ (22, n) :: List.replicate n (20, k), zero2 μ.2.1 μ.1.length (n + 1) 0, r)) rfl, fun hl k hk => ?_⟩ (hK _ _ _ _ h)
    rw [List.length_append, List.length_cons, List.length_replicate] at hl
    have hl : μ.1.length + (n + 1) ≤ 2000000 := hl
    funext j
    show zero2 μ.2.1 μ.1.length (n + 1) 0 k j = _
    unfold zero2
    rw [if_neg (by omega)]
  have hW : ∀ {q j v r ip ls st} {s : Nat × Nat}, μ.1[q]? = some s → K ip ls st (μ.1, up2 μ.2.1 q j v, r) → zKp μ μF := by
    intro q j v r ip ls st s hs h
    refine zKp.tr ⟨zLe.of1 (μ := μ) (μ' := (μ.1, up2 μ.2.1 q j v, r)) rfl, fun hl k hk => ?_⟩ (hK _ _ _ _ h)
    have hq := (List.getElem?_eq_some_iff.mp hs).1
    have hl : μ.1.length ≤ 2000000 := hl
    exact up2_ne (by omega)
  have hWw : ∀ {q g r ip ls st} {s : Nat × Nat}, μ.1[q]? = some s → K ip ls st (μ.1, row2 μ.2.1 q g, r) → zKp μ μF := by
    intro q g r ip ls st s hs h
    refine zKp.tr ⟨zLe.of1 (μ := μ) (μ' := (μ.1, row2 μ.2.1 q g, r)) rfl, fun hl k hk => ?_⟩ (hK _ _ _ _ h)
    have hq := (List.getElem?_eq_some_iff.mp hs).1
    have hl : μ.1.length ≤ 2000000 := hl
    funext j
    show row2 μ.2.1 q g k j = _
    unfold row2
    rw [if_neg (by omega)]
  have hWr : ∀ {r ip ls st}, K ip ls st (μ.1, μ.2.1, r) → zKp μ μF := by
    intro r ip ls st h
    exact zKp.tr ⟨zLe.of1 (μ := μ) (μ' := (μ.1, μ.2.1, r)) rfl, fun _ _ _ => rfl⟩ (hK _ _ _ _ h)
  cases ins
  case tableswitch =>
    simp only [zStep] at h
    split at h
    · obtain ⟨b, hb⟩ := zSw_some _ _ h
      exact hK _ _ _ _ hb
    · exact h.elim
  case ifCond c off =>
    simp only [zStep] at h
    split at h
    · cases c <;> first | exact hB h | exact hBN h
    · exact h.elim
  case if_icmp c off =>
    simp only [zStep] at h
    split at h
    · cases c <;> first | exact hB h | exact hBN h
    · exact h.elim
  case getfield =>
    simp only [zStep] at h
    split at h
    · obtain ⟨s, -, h⟩ := zEl h
      have h := zBf h
      split at h
      · exact hK _ _ _ _ h
      · exact hE h
    · exact h.elim
  case putfield =>
    simp only [zStep] at h
    split at h
    · obtain ⟨s, hs, h⟩ := zEl h
      have h := zBf h
      split at h
      · exact hW hs h
      · exact hW hs h.2
      · exact h.elim
    · obtain ⟨s, -, h⟩ := zEl h
      obtain ⟨s, -, h⟩ := zEl h
      have h := zBf h
      split at h
      · exact hWr h
      · exact h.elim
    · exact h.elim
  case iaload =>
    simp only [zStep] at h
    split at h
    · rcases zEl2 h with h | ⟨s, h⟩
      · split at h
        · exact hK _ _ _ _ h.2
        · exact h.elim
      · exact hK _ _ _ _ (zBf h).2
    · exact h.elim
  case arraylength =>
    simp only [zStep] at h
    split at h
    · rcases zEl2 h with h | ⟨s, h⟩
      · split at h
        · exact hK _ _ _ _ h
        · exact h.elim
      · exact hK _ _ _ _ (zBf h)
    · exact h.elim
  case iastore =>
    simp only [zStep] at h
    split at h
    · obtain ⟨s, hs, h⟩ := zEl h
      exact hW hs (zBf h).2
    · exact h.elim
  case bastore =>
    simp only [zStep] at h
    split at h
    · obtain ⟨s, hs, h⟩ := zEl h
      exact hW hs (zBf h).2.2
    · exact h.elim
  case baload =>
    simp only [zStep] at h
    split at h
    · obtain ⟨s, -, h⟩ := zEl h
      exact hK _ _ _ _ (zBf h).2
    · exact h.elim
  case aaload =>
    simp only [zStep] at h
    split at h
    · obtain ⟨s, -, h⟩ := zEl h
      exact hE (zBf h).2
    · exact h.elim
  case aastore =>
    simp only [zStep] at h
    split at h
    · obtain ⟨s, -, h⟩ := zEl h
      obtain ⟨z, -, h⟩ := zEl h
      exact hWr (zBf h).2
    · exact h.elim
  case newarray =>
    simp only [zStep] at h
    split at h
    · exact hA h.2.2.2
    · exact h.elim
  case anewarray =>
    simp only [zStep] at h
    split at h
    · exact hA h.2.2.2
    · exact h.elim
  case multianewarray =>
    simp only [zStep] at h
    split at h
    · exact hAm h.2.2.2.2.2
    · exact h.elim
  case new => exact hA h.2
  case instanceof =>
    simp only [zStep] at h
    split at h
    · obtain ⟨s, -, h⟩ := zEl h
      exact hK _ _ _ _ (zBf h)
    · exact h.elim
  case invokestatic =>
    simp only [zStep] at h
    split at h
    · exact hC _ _ (fun v => (_, _, _)) (zBf h)
    · split at h
      · exact hK _ _ _ _ (zBf h)
      · exact h.elim
    · split at h
      · exact hK _ _ _ _ (zBf h)
      · exact h.elim
    · split at h
      · exact hK _ _ _ _ (zBf h)
      · exact h.elim
    · split at h
      · obtain ⟨s, -, h⟩ := zEl h
        obtain ⟨z, hz, h⟩ := zEl h
        exact hWw hz (zBf h).2.2.2.2.2
      · exact h.elim
    · exact h.elim
  case invokespecial =>
    simp only [zStep] at h
    split at h
    · split at h
      · exact hK _ _ _ _ (zBf h)
      · exact h.elim
    · split at h
      · obtain ⟨s, -, h⟩ := zEl h
        exact hC _ _ (fun v => (_, _, _)) (zBf h)
      · exact h.elim
  case invokevirtual =>
    simp only [zStep] at h
    split at h
    · split at h
      · split at h
        · exact hK _ _ _ _ h
        · exact h.elim
      · split at h
        · exact hK _ _ _ _ h.2
        · exact h.elim
      · exact h.elim
    · split at h
      · obtain ⟨s, -, h⟩ := zEl h
        exact hC _ _ (fun v => (_, _, _)) (zBf h)
      · exact h.elim
    · split at h
      · obtain ⟨s, -, h⟩ := zEl h
        exact hC _ _ (fun v => (_, _, _)) (zBf h)
      · exact h.elim
  case ireturn =>
    simp only [zStep] at h
    split at h
    · split at h
      · exact hZ _ h
      · exact hZ _ h.2
    · exact h.elim
  all_goals (simp only [zStep, zBin] at h)
  all_goals (repeat' split at h)
  all_goals first | exact h.elim | exact hK _ _ _ _ h | exact hK _ _ _ _ h.2 | exact hZ _ h
theorem zRun_kp {Rr : zOr} {cd : List zE} {μF : zM} {Z : Option Value → zM → Prop} (hR : ∀ x as μ v μ', Rr x as μ v μ' → zKp μ μ') (hZ : ∀ v μ, Z v μ → zKp μ μF) : ∀ (n ip : Nat) (ls : zL) (st : List Value) (μ : zM), zRun zDyn Rr cd n ip ls st μ Z → zKp μ μF
  | 0, _, _, _, _, h => h.elim
  | n + 1, ip, ls, st, μ, h => by
    obtain ⟨e, -, h⟩ := zEl h
    exact zStep_kp hR (fun ip ls st μ1 h => zRun_kp hR hZ n ip ls st μ1 h) (fun v h => hZ v μ h) h
theorem zEv_kp : ∀ (d x : Nat) (as : List Value) (μ : zM) (v : Option Value) (μ' : zM), zEv d x as μ v μ' → zKp μ μ'
  | 0, _, _, _, _, _, h => h.elim
  | d + 1, x, as, μ, v, μ', h => by
    obtain ⟨-, n, h⟩ := h
    exact zRun_kp (zEv_kp d) (fun v μ h => by rw [h.2]; exact zKp.rf) n _ _ _ _ h
/-- the script, behind a call -/
theorem zEv_scr {d x : Nat} {as : List Value} {tl tl' : List (Nat × Nat)} {q q' : zR} {im im' : zI} {v : Option Value} (h : zEv d x as (zMm tl q im) v (zMm tl' q' im')) (hl : tl'.length ≤ 1000000) : im' 2000000 = im 2000000 ∧ im' 2000001 = im 2000001 := by
  have hk := (zEv_kp d x as _ v _ h).2 (by
    show (zB ++ tl').length ≤ 2000000
    rw [zB_len]
    omega)
  exact ⟨hk 2000000 (by omega), hk 2000001 (by omega)⟩
/-! the script's rules -/
theorem zN_scr {tl : List (Nat × Nat)} {P : Prop} {F : Nat → Prop} {G : Nat → (Nat × Nat) → Prop} (h0 : (zB ++ tl)[2000000]? = none) (hP : P) (h : zN F) : zN fun n => ((zB ++ tl : List (Nat × Nat))[2000000]?).elim (if (2000000 : Nat) = 2000000 then P ∧ F n else False) (G n) := by
  obtain ⟨n, h⟩ := h
  refine ⟨n, ?_⟩
  show ((zB ++ tl : List (Nat × Nat))[2000000]?).elim (if (2000000 : Nat) = 2000000 then P ∧ F n else False) (G n)
  rw [h0]
  show if (2000000 : Nat) = 2000000 then P ∧ F n else False
  rw [if_pos rfl]
  exact ⟨hP, h⟩
theorem zN_scl {tl : List (Nat × Nat)} {F : Nat → Prop} {G : Nat → (Nat × Nat) → Prop} (h0 : (zB ++ tl)[2000000]? = none) (h : zN F) : zN fun n => ((zB ++ tl : List (Nat × Nat))[2000000]?).elim (if (2000000 : Nat) = 2000000 then F n else False) (G n) := by
  obtain ⟨n, h⟩ := h
  refine ⟨n, ?_⟩
  show ((zB ++ tl : List (Nat × Nat))[2000000]?).elim (if (2000000 : Nat) = 2000000 then F n else False) (G n)
  rw [h0]
  show if (2000000 : Nat) = 2000000 then F n else False
  rw [if_pos rfl]
  exact h
theorem zScr {tl : List (Nat × Nat)} (h : tl.length ≤ 1000000) : (zB ++ tl)[2000000]? = none := List.getElem?_eq_none (by rw [zB_len]; omega)
