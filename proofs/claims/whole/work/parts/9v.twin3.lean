/-! THE TWIN IS RIGHT: a step -/
set_option maxHeartbeats 4000000 in
theorem yqS_ok {bi : zI} {R : Nat → List Value → yqT → Option (Option Value × yqT)} {Q : zOr} (hR : ∀ x as m v m', R x as m = some (v, m') → Q x as (yqM bi m) v (yqM bi m')) {dyn : Nat → Nat → Nat} {e : zE} {ip : Nat} {ls : zL} {st : List Value} {m : yqT} {r : yqF} {K : Nat → zL → List Value → zM → Prop} {Z : Option Value → zM → Prop} (h : yqS R e ip ls st m = some r) (hK : yqK bi r K Z) : zStep dyn Q e ip ls st (yqM bi m) K Z := by
  obtain ⟨pc, ins, x, y, w, t⟩ := e
  unfold yqS at h
  dsimp only at h
  split at h
  · injection h with h
    subst h
    exact hK
  · injection h with h
    subst h
    exact hK
  · injection h with h
    subst h
    exact hK
  · split at h
    · injection h with h
      subst h
      show (if (0 : Nat) = 0 then K (ip + 1) ls (.int w :: st) (yqM bi m) else K (ip + 1) ls (.ref x :: st) (yqM bi m))
      rw [if_pos rfl]
      exact hK
    · rename_i n0
      injection h with h
      subst h
      show (if (n0 + 1 : Nat) = 0 then K (ip + 1) ls (.int w :: st) (yqM bi m) else K (ip + 1) ls (.ref x :: st) (yqM bi m))
      rw [if_neg (Nat.succ_ne_zero _)]
      exact hK
  · split at h
    · rename_i heq
      injection h with h
      subst h
      simp only [zStep, heq]
      exact hK
    · cases h
  · split at h
    · rename_i heq
      injection h with h
      subst h
      simp only [zStep, heq]
      exact hK
    · cases h
  · split at h
    · rename_i heq
      injection h with h
      subst h
      simp only [zStep, heq]
      exact hK
    · cases h
  · split at h
    · injection h with h
      subst h
      exact hK
    · cases h
  · split at h
    · injection h with h
      subst h
      exact hK
    · cases h
  · split at h
    · injection h with h
      subst h
      exact hK
    · cases h
  · split at h
    · rename_i heq
      injection h with h
      subst h
      simp only [zStep, heq]
      exact hK
    · cases h
  · split at h
    · injection h with h
      subst h
      exact hK
    · injection h with h
      subst h
      exact hK
    · cases h
  · split at h
    · injection h with h
      subst h
      exact hK
    · cases h
  · injection h with h
    subst h
    exact hK
  · split at h
    · split at h
      · injection h with h
        subst h
        exact yq_if (K := fun p => K p ls _ (yqM bi m)) hK
      · injection h with h
        subst h
        have hh := yq_if (K := fun p => K p ls _ (yqM bi m)) hK
        exact ⟨hh.2, hh.1⟩
      · injection h with h
        subst h
        exact yq_if (K := fun p => K p ls _ (yqM bi m)) hK
      · injection h with h
        subst h
        exact yq_if (K := fun p => K p ls _ (yqM bi m)) hK
      · injection h with h
        subst h
        exact yq_if (K := fun p => K p ls _ (yqM bi m)) hK
      · injection h with h
        subst h
        exact yq_if (K := fun p => K p ls _ (yqM bi m)) hK
    · cases h
  · split at h
    · split at h
      · injection h with h
        subst h
        exact yq_if (K := fun p => K p ls _ (yqM bi m)) hK
      · injection h with h
        subst h
        have hh := yq_if (K := fun p => K p ls _ (yqM bi m)) hK
        exact ⟨hh.2, hh.1⟩
      · injection h with h
        subst h
        exact yq_if (K := fun p => K p ls _ (yqM bi m)) hK
      · injection h with h
        subst h
        exact yq_if (K := fun p => K p ls _ (yqM bi m)) hK
      · injection h with h
        subst h
        exact yq_if (K := fun p => K p ls _ (yqM bi m)) hK
      · injection h with h
        subst h
        exact yq_if (K := fun p => K p ls _ (yqM bi m)) hK
    · cases h
  · split at h
    · rename_i r0 st0
      cases hm : m[r0]? with
      | none => rw [hm] at h; cases h
      | some s =>
        rw [hm] at h
        show ((yqM bi m).1[r0]?).elim False _
        rw [yqM_1 hm]
        dsimp only [Option.elim] at h ⊢
        cases hz : zSub s.1 y with
        | false => rw [hz] at h; cases h
        | true =>
          rw [hz] at h
          dsimp only [cond_true] at h ⊢
          split at h
          · injection h with h
            subst h
            rw [← yqM_2 hm (bi := bi)] at hK
            exact hK
          · cases hq : s.2.2.getD x none with
            | none => rw [hq] at h; cases h
            | some q =>
              rw [hq] at h
              injection h with h
              subst h
              simp only [yqM_3 hm, hq]
              exact hK
    · cases h
  · split at h
    · rename_i a0 r0 st0
      cases hm : m[r0]? with
      | none => rw [hm] at h; cases h
      | some s =>
        rw [hm] at h
        show ((yqM bi m).1[r0]?).elim False _
        rw [yqM_1 hm]
        dsimp only [Option.elim] at h ⊢
        cases hz : zSub s.1 y with
        | false => rw [hz] at h; cases h
        | true =>
          rw [hz] at h
          dsimp only [cond_true] at h ⊢
          split at h
          · obtain ⟨m', e1, e2⟩ := yqO_ok h hK
            rw [yqI_ok e1] at e2
            exact e2
          · split at h
            · rename_i h01
              obtain ⟨m', e1, e2⟩ := yqO_ok h hK
              rw [yqI_ok e1] at e2
              exact ⟨h01, e2⟩
            · cases h
          · cases h
    · rename_i q0 r0 st0
      cases hm : m[q0]? with
      | none => rw [hm] at h; cases h
      | some s0 =>
        cases hm2 : m[r0]? with
        | none => rw [hm, hm2] at h; cases h
        | some s =>
          rw [hm, hm2] at h
          show ((yqM bi m).1[q0]?).elim False (fun _ => ((yqM bi m).1[r0]?).elim False _)
          rw [yqM_1 hm, yqM_1 hm2]
          dsimp only [Option.elim] at h ⊢
          cases hz : zSub s.1 y with
          | false => rw [hz] at h; cases h
          | true =>
            rw [hz] at h
            dsimp only [cond_true] at h ⊢
            split at h
            · obtain ⟨m', e1, e2⟩ := yqO_ok h hK
              rw [yqR_ok e1] at e2
              exact e2
            · cases h
    · cases h
  · split at h
    · rename_i i0 a0 st0
      cases hm : m[a0]? with
      | none => rw [hm] at h; cases h
      | some s =>
        rw [hm] at h
        show ((yqM bi m).1[a0]?).elim _ _
        rw [yqM_1 hm]
        dsimp only [Option.elim] at h ⊢
        cases hz : s.1 == 20 with
        | false => rw [hz] at h; cases h
        | true =>
          rw [hz] at h
          dsimp only [cond_true] at h ⊢
          cases hb : yqB i0 s.2.1.length with
          | false => rw [hb] at h; cases h
          | true =>
            rw [hb] at h
            injection h with h
            subst h
            rw [← yqM_2 hm (bi := bi)] at hK
            exact ⟨yqB_ok hb, hK⟩
    · cases h
  · split at h
    · rename_i v0 i0 a0 st0
      cases hm : m[a0]? with
      | none => rw [hm] at h; cases h
      | some s =>
        rw [hm] at h
        show ((yqM bi m).1[a0]?).elim _ _
        rw [yqM_1 hm]
        dsimp only [Option.elim] at h ⊢
        cases hz : s.1 == 20 with
        | false => rw [hz] at h; cases h
        | true =>
          rw [hz] at h
          dsimp only [cond_true] at h ⊢
          cases hb : yqB i0 s.2.1.length with
          | false => rw [hb] at h; cases h
          | true =>
            rw [hb] at h
            obtain ⟨m', e1, e2⟩ := yqO_ok h hK
            rw [yqI_ok e1] at e2
            exact ⟨yqB_ok hb, e2⟩
    · cases h
  · split at h
    · rename_i q0 i0 a0 st0
      cases hm : m[a0]? with
      | none => rw [hm] at h; cases h
      | some s =>
        cases hm2 : m[q0]? with
        | none => rw [hm, hm2] at h; cases h
        | some z =>
          rw [hm, hm2] at h
          show ((yqM bi m).1[a0]?).elim False (fun _ => ((yqM bi m).1[q0]?).elim False _)
          rw [yqM_1 hm, yqM_1 hm2]
          dsimp only [Option.elim] at h ⊢
          cases hz : s.1 == y && zSub z.1 x with
          | false => rw [hz] at h; cases h
          | true =>
            rw [hz] at h
            dsimp only [cond_true] at h ⊢
            cases hb : yqB i0 s.2.1.length with
            | false => rw [hb] at h; cases h
            | true =>
              rw [hb] at h
              obtain ⟨m', e1, e2⟩ := yqO_ok h hK
              rw [yqR_ok e1] at e2
              exact ⟨yqB_ok hb, e2⟩
    · cases h
  · split at h
    · rename_i a0 st0
      cases hm : m[a0]? with
      | none => rw [hm] at h; cases h
      | some s =>
        rw [hm] at h
        show ((yqM bi m).1[a0]?).elim _ _
        rw [yqM_1 hm]
        dsimp only [Option.elim] at h ⊢
        cases hz : (decide (20 ≤ s.1) && decide (s.1 ≤ 25)) with
        | false => rw [hz] at h; cases h
        | true =>
          rw [hz] at h
          injection h with h
          subst h
          exact hK
    · cases h
  · split at h
    · rename_i n0 st0
      cases hz : !(decide (n0 < 0)) && Nat.ble n0.toNatClampNeg 100000 && Nat.blt m.length 900000 with
      | false => rw [hz] at h; cases h
      | true =>
        rw [hz] at h
        injection h with h
        subst h
        rw [Bool.and_eq_true, Bool.and_eq_true] at hz
        have h1 : ¬ n0 < 0 := fun hh => by
          have := hz.1.1
          rw [decide_eq_true hh] at this
          cases this
        have hK : K (ip + 1) ls (.ref m.length :: st0) (yqM bi (m ++ [(x, List.replicate n0.toNatClampNeg 0, List.replicate n0.toNatClampNeg none)])) := hK
        rw [yqN_ok] at hK
        refine ⟨h1, Nat.le_of_ble_eq_true hz.1.2, ?_, ?_⟩
        · rw [yqM_l]
          exact Nat.le_of_ble_eq_true hz.2
        · rw [yqM_l] at hK ⊢
          exact hK
    · cases h
  · split at h
    · rename_i n0 st0
      cases hz : !(decide (n0 < 0)) && Nat.ble n0.toNatClampNeg 100000 && Nat.blt m.length 900000 with
      | false => rw [hz] at h; cases h
      | true =>
        rw [hz] at h
        injection h with h
        subst h
        rw [Bool.and_eq_true, Bool.and_eq_true] at hz
        have h1 : ¬ n0 < 0 := fun hh => by
          have := hz.1.1
          rw [decide_eq_true hh] at this
          cases this
        have hK : K (ip + 1) ls (.ref m.length :: st0) (yqM bi (m ++ [(x, List.replicate n0.toNatClampNeg 0, List.replicate n0.toNatClampNeg none)])) := hK
        rw [yqN_ok] at hK
        refine ⟨h1, Nat.le_of_ble_eq_true hz.1.2, ?_, ?_⟩
        · rw [yqM_l]
          exact Nat.le_of_ble_eq_true hz.2
        · rw [yqM_l] at hK ⊢
          exact hK
    · cases h
  · split at h
    · rename_i k0 n0 st0
      cases hz : !(decide (n0 < 0)) && !(decide (k0 < 0)) && Nat.ble n0.toNatClampNeg 1000 && Nat.ble k0.toNatClampNeg 1000 && Nat.blt m.length 900000 with
      | false => rw [hz] at h; cases h
      | true =>
        rw [hz] at h
        injection h with h
        subst h
        rw [Bool.and_eq_true, Bool.and_eq_true, Bool.and_eq_true, Bool.and_eq_true] at hz
        have h1 : ¬ n0 < 0 := fun hh => by
          have := hz.1.1.1.1
          rw [decide_eq_true hh] at this
          cases this
        have h2 : ¬ k0 < 0 := fun hh => by
          have := hz.1.1.1.2
          rw [decide_eq_true hh] at this
          cases this
        have hK : K (ip + 1) ls (.ref m.length :: st0) (yqM bi (yqW m n0.toNatClampNeg k0.toNatClampNeg)) := hK
        rw [yqW_ok] at hK
        refine ⟨h1, h2, Nat.le_of_ble_eq_true hz.1.1.2, Nat.le_of_ble_eq_true hz.1.2, ?_, ?_⟩
        · rw [yqM_l]
          exact Nat.le_of_ble_eq_true hz.2
        · rw [yqM_l] at hK ⊢
          exact hK
    · cases h
  · cases hz : Nat.blt m.length 900000 with
    | false => rw [hz] at h; cases h
    | true =>
      rw [hz] at h
      injection h with h
      subst h
      have hK : K (ip + 1) ls (.ref m.length :: st) (yqM bi (m ++ [(x, List.replicate y 0, List.replicate y none)])) := hK
      rw [yqN_ok] at hK
      refine ⟨?_, ?_⟩
      · rw [yqM_l]
        exact Nat.le_of_ble_eq_true hz
      · rw [yqM_l] at hK ⊢
        exact hK
  · split at h
    · cases hz : Nat.ble y st.length && Nat.ble (st.drop y).length 4 with
      | false => rw [hz] at h; cases h
      | true =>
        rw [hz] at h
        have h : (R x (st.take y).reverse m).elim none (fun r => some (.inl (ip + 1, ls, r.1.toList ++ st.drop y, r.2))) = some r := h
        show bif Nat.ble y st.length && Nat.ble (st.drop y).length 4 then _ else False
        rw [hz]
        cases hq : R x (st.take y).reverse m with
        | none => rw [hq] at h; cases h
        | some q =>
          rw [hq] at h
          injection h with h
          subst h
          exact ⟨q.1, yqM bi q.2, hR _ _ _ _ _ hq, hK⟩
    · split at h
      · rename_i b0 a0 st0
        cases hz : Nat.ble st0.length 4 with
        | false => rw [hz] at h; cases h
        | true =>
          rw [hz] at h
          injection h with h
          subst h
          show bif Nat.ble st0.length 4 then _ else False
          rw [hz]
          exact hK
      · cases h
    · split at h
      · rename_i n0 dp0 b0 sp0 a0 st0
        cases hz : !(decide (sp0 < 0)) && !(decide (dp0 < 0)) && !(decide (n0 < 0)) && Nat.ble st0.length 4 with
        | false => rw [hz] at h; cases h
        | true =>
          rw [hz] at h
          obtain ⟨m', e1, e2⟩ := yqO_ok h hK
          obtain ⟨s, z, hs, hz2, s20, z20, l1, l2, e3⟩ := yqC_ok (bi := bi) e1
          rw [e3] at e2
          rw [Bool.and_eq_true, Bool.and_eq_true, Bool.and_eq_true] at hz
          have h1 : ¬ sp0 < 0 := fun hh => by
            have := hz.1.1.1
            rw [decide_eq_true hh] at this
            cases this
          have h2 : ¬ dp0 < 0 := fun hh => by
            have := hz.1.1.2
            rw [decide_eq_true hh] at this
            cases this
          have h3 : ¬ n0 < 0 := fun hh => by
            have := hz.1.2
            rw [decide_eq_true hh] at this
            cases this
          show ((yqM bi m).1[a0]?).elim False (fun _ => ((yqM bi m).1[b0]?).elim False _)
          rw [yqM_1 hs, yqM_1 hz2]
          show bif s.1 == 20 && z.1 == 20 && Nat.ble st0.length 4 then _ else False
          rw [s20, z20, hz.2]
          exact ⟨h1, h2, h3, l1, l2, e2⟩
      · cases h
    · cases h
  · split at h
    · split at h
      · rename_i a0 st0
        cases hz : Nat.ble st0.length 4 with
        | false => rw [hz] at h; cases h
        | true =>
          rw [hz] at h
          injection h with h
          subst h
          show bif Nat.ble st0.length 4 then _ else False
          rw [hz]
          exact hK
      · cases h
    · rename_i c0 t0
      split at h
      · rename_i r0 rest heq
        cases hm : m[r0]? with
        | none => rw [hm] at h; cases h
        | some s =>
          rw [hm] at h
          dsimp only [Option.elim] at h
          cases hz : zSub s.1 c0 && Nat.ble rest.length 4 with
          | false => rw [hz] at h; cases h
          | true =>
            rw [hz] at h
            have h : (R x (.ref r0 :: (st.take y).reverse) m).elim none (fun q => some (.inl (ip + 1, ls, q.1.toList ++ rest, q.2))) = some r := h
            simp only [zStep, heq, yqM_1 hm, Option.elim, List.headD_cons]
            rw [hz]
            cases hq : R x (.ref r0 :: (st.take y).reverse) m with
            | none => rw [hq] at h; cases h
            | some q =>
              rw [hq] at h
              injection h with h
              subst h
              exact ⟨q.1, yqM bi q.2, hR _ _ _ _ _ hq, hK⟩
      · cases h
  · split at h
    · split at h
      · split at h
        · rename_i a0 st0
          cases hz : (a0 == 1000000 || a0 == 1000001) && Nat.ble st0.length 4 with
          | false => rw [hz] at h; cases h
          | true =>
            rw [hz] at h
            injection h with h
            subst h
            rw [Bool.and_eq_true, Bool.or_eq_true] at hz
            have h1 : a0 = 1000000 ∨ a0 = 1000001 := by simpa using hz.1
            show (if _ then _ else False)
            rw [if_pos ⟨h1, Nat.le_of_ble_eq_true hz.2⟩]
            exact hK
        · cases h
      · split at h
        · rename_i i0 a0 st0
          cases hz : (a0 == 1000000 || a0 == 1000001) && Nat.ble st0.length 4 && yqB i0 (zStr (a0 - 1000000)).length with
          | false => rw [hz] at h; cases h
          | true =>
            rw [hz] at h
            injection h with h
            subst h
            rw [Bool.and_eq_true, Bool.and_eq_true, Bool.or_eq_true] at hz
            have h1 : a0 = 1000000 ∨ a0 = 1000001 := by simpa using hz.1.1
            show (if _ then _ else False)
            rw [if_pos ⟨h1, Nat.le_of_ble_eq_true hz.1.2⟩]
            exact ⟨yqB_ok hz.2, hK⟩
        · cases h
      · cases h
    · rename_i c0
      split at h
      · rename_i r0 rest heq
        cases hm : m[r0]? with
        | none => rw [hm] at h; cases h
        | some s =>
          rw [hm] at h
          dsimp only [Option.elim] at h
          cases hz : s.1 == c0 && Nat.ble rest.length 4 with
          | false => rw [hz] at h; cases h
          | true =>
            rw [hz] at h
            have h : (R x (.ref r0 :: (st.take y).reverse) m).elim none (fun q => some (.inl (ip + 1, ls, q.1.toList ++ rest, q.2))) = some r := h
            simp only [zStep, heq, yqM_1 hm, Option.elim, List.headD_cons]
            rw [hz]
            cases hq : R x (.ref r0 :: (st.take y).reverse) m with
            | none => rw [hq] at h; cases h
            | some q =>
              rw [hq] at h
              injection h with h
              subst h
              exact ⟨q.1, yqM bi q.2, hR _ _ _ _ _ hq, hK⟩
      · cases h
    · cases h
  · split at h
    · injection h with h
      subst h
      exact hK
    · cases h
  · split at h
    · split at h
      · injection h with h
        subst h
        exact hK
      · split at h
        · rename_i hne h01
          injection h with h
          subst h
          simp only [zStep]
          exact ⟨h01, hK⟩
        · cases h
    · cases h
  · split at h
    · injection h with h
      subst h
      exact hK
    · cases h
  · split at h
    · injection h with h
      subst h
      exact hK
    · cases h
  · split at h
    · injection h with h
      subst h
      exact hK
    · cases h
  · split at h
    · injection h with h
      subst h
      exact hK
    · cases h
  · cases h
theorem yqRun_ok {bi : zI} {R : Nat → List Value → yqT → Option (Option Value × yqT)} {Q : zOr} (hR : ∀ x as m v m', R x as m = some (v, m') → Q x as (yqM bi m) v (yqM bi m')) {dyn : Nat → Nat → Nat} {cd : List zE} : ∀ (n ip : Nat) (ls : zL) (st : List Value) (m : yqT) (r : Option Value × yqT), yqRun R cd n ip ls st m = some r → zRun dyn Q cd n ip ls st (yqM bi m) (fun a b => a = r.1 ∧ b = yqM bi r.2) := by
  intro n
  induction n with
  | zero => exact fun ip ls st m r h => by cases h
  | succ n ih =>
    intro ip ls st m r h
    unfold yqRun at h
    cases hc : cd[ip]? with
    | none => rw [hc] at h; cases h
    | some e =>
      rw [hc] at h
      dsimp only at h
      refine zRun_st hc ?_
      cases hs : yqS R e ip ls st m with
      | none => rw [hs] at h; cases h
      | some q =>
        rw [hs] at h
        refine yqS_ok hR hs ?_
        cases q with
        | inl p =>
          obtain ⟨ip', ls', st', m'⟩ := p
          exact ih ip' ls' st' m' r h
        | inr p =>
          have h : some p = some r := h
          injection h with h
          subst h
          exact ⟨rfl, rfl⟩
theorem yqE_ok {bi : zI} {f : Nat} : ∀ (d x : Nat) (as : List Value) (m : yqT) (v : Option Value) (m' : yqT), yqE f d x as m = some (v, m') → zEv d x as (yqM bi m) v (yqM bi m')
  | 0, x, as, m, v, m', h => by cases h
  | d + 1, x, as, m, v, m', h => by
    have h : (bif Nat.ble (lg_sl as).length (zml x) then yqRun (yqE f d) (zCodes.getD x []) f 0 (lv_args 0 as) [] m else none) = some (v, m') := h
    cases hb : Nat.ble (lg_sl as).length (zml x) with
    | false => rw [hb] at h; cases h
    | true =>
      rw [hb] at h
      exact ⟨Nat.le_of_ble_eq_true hb, f, yqRun_ok (fun x as m v m' h => yqE_ok d x as m v m' h) f 0 _ _ m (v, m') h⟩
