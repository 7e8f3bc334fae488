/-! THE CLASS: looks with costs, for storms -/
theorem zTop_k {n m : Nat} {im im' : zI} {w : Nat → Int32} {st : Nat → Bool} {on rt : Nat → Nat} {s : Nat → Int32} (h : zTop im n m w st on rt s) (hk : ∀ k, (20 < k ∧ k < 26) ∨ k = 31 ∨ k = 32 → im' k = im k) : zTop im' n m w st on rt s := by
  refine ⟨zTo_k h.1 (fun k a b => hk k (.inl ⟨a, b⟩)), ?_, ?_⟩
  · rw [hk 31 (by decide)]; exact h.2.1
  · rw [hk 32 (by decide)]; exact h.2.2
/-- the class's top of a tide, by a text -/
def yTp (V : yV) (k t : Nat) (im : zI) : Prop := zTop im (yvN V) (yvM V) (yWo V k t) (ySd V t) (yOn V t) (yRo V t) (ySp V t)
theorem c_costs14 {d k t p : Nat} {tl : List (Nat × Nat)} {q : zR} {im : zI} {V : yV} {Z : zI → Option Value → zM → Prop} {Po : zI → Prop} (hG : yG V) (hA : yA tl q im V) (ht : t < 12) (hp : p < yvM V)
    (cont : ∀ im2, yFa im im2 → yTp V k t im2 → (∀ p', p' < p + 1 → ∀ i, i < yvN V → im2 (27 + p') i = yCo V p' t (Int32.ofNat i)) → ∃ im', zX (d + 5) zc_X11_lookWithCosts 7 [(0, .ref 0), (1, .int (Int32.ofNat t)), (2, .int (Int32.ofNat (p + 1)))] [] (zMm tl q im2) (Z im') ∧ Po im') :
    ∀ m i im1, i + m = yvN V → yFa im im1 → yTp V k t im1 → (∀ p', p' < p → ∀ i, i < yvN V → im1 (27 + p') i = yCo V p' t (Int32.ofNat i)) → (∀ j, j < i → im1 (27 + p) j = yCo V p t (Int32.ofNat j)) →
      ∃ im', zX (d + 5) zc_X11_lookWithCosts 14 [(0, .ref 0), (1, .int (Int32.ofNat t)), (2, .int (Int32.ofNat p)), (3, .int (Int32.ofNat i))] [] (zMm tl q im1) (Z im') ∧ Po im' := by
  have hn := hG.1
  have hm := hG.2.1
  intro m
  induction m with
  | zero =>
    intro i im1 hi hF hT f1 f2
    have e : i = yvN V := by omega
    subst e
    obtain ⟨im', h1, h2⟩ := cont im1 hF hT (fun p' hp' i hi => by
      by_cases e : p' = p
      · subst e; exact f2 i hi
      · exact f1 p' (by omega) i hi)
    refine ⟨im', t_X11_lookWithCosts_14 ?_, h2⟩
    rw [(yA_fr hA hF.fr).1, zi_s]
    exact ⟨fun _ => h1, fun h => absurd ((zi_le (by omega) (by omega)).mpr (Nat.le_refl _)) h⟩
  | succ m ih =>
    intro i im1 hi hF hT f1 f2
    have hA1 := yA_fr hA hF.fr
    obtain ⟨im2, g1, g2⟩ := c_costOf (d := d + 1) (x := Int32.ofNat i) hG hA1 hp ht
    obtain ⟨im', h1, h2⟩ := ih (i + 1) (up2 im2 (27 + p) i (yCo V p t (Int32.ofNat i))) (by omega) (hF.tr ((yFa.of2 33 34 (by decide) (by decide) g2).tr (yFa.up (by omega)))) (zTop_k hT (fun k hk => by rw [up_r (by omega), g2 k (by omega) (by omega)]))
      (fun p' hp' j hj => by rw [up_k (by omega), g2 _ (by omega) (by omega)]; exact f1 p' hp' j hj)
      (fun j hj => by
        by_cases e : j = i
        · subst e; exact up_eq
        · rw [up_j e, g2 _ (by omega) (by omega)]; exact f2 j (by omega))
    refine ⟨im', t_X11_lookWithCosts_14 ?_, h2⟩
    rw [hA1.1, zi_s (a := i), zi_n (show p < 2147483648 by omega), zRf_fare (by omega)]
    refine ⟨fun h => absurd ((zi_le (by omega) (by omega)).mp h) (by omega), fun _ => ⟨zi_in (by omega) (by omega), _, _, g1, ?_⟩⟩
    rw [zB_fare (by omega), zi_n (show i < 2147483648 by omega)]
    exact ⟨zi_in (show i < 6 by omega) (by omega), h1⟩
theorem c_lookWithCosts {d t : Nat} {tl : List (Nat × Nat)} {q : zR} {im : zI} {V : yV} (hG : yG V) (hA : yA tl q im V) (ht : t < 12) :
    ∃ im', zEv (d + 6) 126 [.ref 0, .int (Int32.ofNat t)] (zMm tl q im) none (zMm tl q im') ∧ yTp V (yvR V) t im' ∧ (∀ p, p < yvM V → ∀ i, i < yvN V → im' (27 + p) i = yCo V p t (Int32.ofNat i)) ∧ yFa im im' := by
  have hn := hG.1
  have hm := hG.2.1
  obtain ⟨r, hr, _⟩ := yA_ref hA hG.2.2.1
  obtain ⟨im1, g1, g2, g3⟩ := c_lookAt (d := d) hG hA ht hG.2.2.1 hr
  have lp : ∀ m p im1, p + m = yvM V → yFa im im1 → yTp V (yvR V) t im1 → (∀ p', p' < p → ∀ i, i < yvN V → im1 (27 + p') i = yCo V p' t (Int32.ofNat i)) →
      ∃ im', zX (d + 5) zc_X11_lookWithCosts 7 [(0, .ref 0), (1, .int (Int32.ofNat t)), (2, .int (Int32.ofNat p))] [] (zMm tl q im1) (fun x b => x = none ∧ b = zMm tl q im') ∧ (yTp V (yvR V) t im' ∧ (∀ p, p < yvM V → ∀ i, i < yvN V → im' (27 + p) i = yCo V p t (Int32.ofNat i)) ∧ yFa im im') := by
    intro m
    induction m with
    | zero =>
      intro p im1 hp hF hT f1
      have e : p = yvM V := by omega
      subst e
      refine ⟨im1, t_X11_lookWithCosts_7 ?_, hT, f1, hF⟩
      rw [(yA_fr hA hF.fr).2.1]
      exact ⟨fun _ => ⟨rfl, rfl⟩, fun h => absurd ((zi_le (by omega) (by omega)).mpr (Nat.le_refl _)) h⟩
    | succ m ih =>
      intro p im1 hp hF hT f1
      obtain ⟨im', h1, h2⟩ := c_costs14 (d := d) (k := yvR V) (q := q) (Z := fun im' x b => x = none ∧ b = zMm tl q im') (Po := fun im' => yTp V (yvR V) t im' ∧ (∀ p, p < yvM V → ∀ i, i < yvN V → im' (27 + p) i = yCo V p t (Int32.ofNat i)) ∧ yFa im im') hG hA ht (show p < yvM V by omega) (fun im2 a b c => ih (p + 1) im2 (by omega) a b c) (yvN V) 0 im1 (by omega) hF hT f1 (fun j hj => absurd hj (by omega))
      refine ⟨im', t_X11_lookWithCosts_7 ?_, h2⟩
      rw [(yA_fr hA hF.fr).2.1]
      exact ⟨fun h => absurd ((zi_le (by omega) (by omega)).mp h) (by omega), fun _ => h1⟩
  obtain ⟨im', h1, h2⟩ := lp (yvM V) 0 im1 (by omega) g3 g2 (fun p hp => absurd hp (by omega))
  exact ⟨im', zEv_o rfl (t_X11_lookWithCosts ⟨some r, im, c_law hG hA hr, _, g1, h1⟩), h2⟩
theorem c_lookForStorms {d t : Nat} {tl : List (Nat × Nat)} {q : zR} {im : zI} {V : yV} (hG : yG V) (hA : yA tl q im V) (ht : t < 12) :
    ∃ im', zEv (d + 6) 127 [.ref 0, .int (Int32.ofNat t)] (zMm tl q im) none (zMm tl q im') ∧ yTp V (yvR V) t im' ∧ (∀ p, p < yvM V → im' 35 p = yStm V p t) ∧ yFa im im' := by
  have hn := hG.1
  have hm := hG.2.1
  obtain ⟨r, hr, _⟩ := yA_ref hA hG.2.2.1
  obtain ⟨im1, g1, g2, g3⟩ := c_lookAt (d := d) hG hA ht hG.2.2.1 hr
  have lp : ∀ m p im1, p + m = yvM V → yFa im im1 → yTp V (yvR V) t im1 → (∀ p', p' < p → im1 35 p' = yStm V p' t) →
      ∃ im', zX (d + 5) zc_X11_lookForStorms 7 [(0, .ref 0), (1, .int (Int32.ofNat t)), (2, .int (Int32.ofNat p))] [] (zMm tl q im1) (fun x b => x = none ∧ b = zMm tl q im') ∧ (yTp V (yvR V) t im' ∧ (∀ p, p < yvM V → im' 35 p = yStm V p t) ∧ yFa im im') := by
    intro m
    induction m with
    | zero =>
      intro p im1 hp hF hT f1
      have e : p = yvM V := by omega
      subst e
      refine ⟨im1, t_X11_lookForStorms_7 ?_, hT, f1, hF⟩
      rw [(yA_fr hA hF.fr).2.1]
      exact ⟨fun _ => ⟨rfl, rfl⟩, fun h => absurd ((zi_le (by omega) (by omega)).mpr (Nat.le_refl _)) h⟩
    | succ m ih =>
      intro p im1 hp hF hT f1
      have hA1 := yA_fr hA hF.fr
      obtain ⟨im2, k1, k2⟩ := c_stormOf (d := d + 1) hG hA1 (show p < yvM V by omega) ht
      obtain ⟨im', h1, h2⟩ := ih (p + 1) (up2 im2 35 p (yStm V p t)) (by omega) (hF.tr ((yFa.of2 33 34 (by decide) (by decide) k2).tr (yFa.up (by decide)))) (zTop_k hT (fun k hk => by rw [up_r (by omega), k2 k (by omega) (by omega)]))
        (fun j hj => by
          by_cases e : j = p
          · subst e; exact up_eq
          · rw [up_j e, k2 _ (by decide) (by decide)]; exact f1 j (by omega))
      refine ⟨im', t_X11_lookForStorms_7 ?_, h2⟩
      rw [hA1.2.1, zi_s (a := p)]
      refine ⟨fun h => absurd ((zi_le (by omega) (by omega)).mp h) (by omega), fun _ => ⟨_, _, k1, zi_in (by omega) (by omega), ?_⟩⟩
      rw [zi_n (show p < 2147483648 by omega)]
      exact h1
  obtain ⟨im', h1, h2⟩ := lp (yvM V) 0 im1 (by omega) g3 g2 (fun p hp => absurd hp (by omega))
  exact ⟨im', zEv_o rfl (t_X11_lookForStorms ⟨some r, im, c_law hG hA hr, _, g1, h1⟩), h2⟩
