/-! RULES for walking the machine: a formula of a method's answers gives a run -/
def zLsub (a b : zL) : Prop := ∀ k v, zG a k = some v → zG b k = some v
theorem zLsub.rf {a : zL} : zLsub a a := fun _ _ h => h
theorem zG_put {ls : zL} {i k : Nat} {v : Value} : zG (zPut ls i v) k = if k = i then some v else zG ls k := by
  have hmap : ∀ l : zL, zG (l.map (fun q => bif q.1 == i then (i, v) else q)) k = if k = i then (if l.any (fun q => q.1 == i) = true then some v else none) else zG l k := by
    intro l
    induction l with
    | nil => by_cases hk : k = i <;> simp [zG, hk]
    | cons a l ih =>
      by_cases ha : a.1 = i
      · by_cases hk : k = i
        · simp [zG, ha, hk]
        · have hne : ¬ i = k := fun e => hk e.symm
          simp only [zG, List.map_cons, ha, beq_self_eq_true, cond_true, List.find?_cons] at ih ⊢
          rw [if_neg hk] at ih ⊢
          have h1 : (i == k) = false := by simpa using hne
          rw [h1]
          exact ih
      · have ha' : (a.1 == i) = false := by simpa using ha
        simp only [zG, List.map_cons, ha', cond_false, List.find?_cons, List.any_cons, Bool.false_or] at ih ⊢
        by_cases hk : k = i
        · subst hk
          rw [ha']
          exact ih
        · rw [if_neg hk] at ih ⊢
          cases hq : a.1 == k with
          | true => rfl
          | false => exact ih
  unfold zPut
  cases hb : ls.any (fun q => q.1 == i) with
  | true =>
    rw [cond_true, hmap ls, hb]
    simp
  | false =>
    rw [cond_false]
    unfold zG
    rw [List.find?_append]
    by_cases hk : k = i
    · subst hk
      have : ls.find? (fun q => q.1 == k) = none := List.find?_eq_none.mpr fun q hq => by
        have := List.any_eq_false.mp hb q hq
        simpa using this
      simp [this]
    · rw [if_neg hk]
      cases hf : ls.find? (fun q => q.1 == k) with
      | some q => simp
      | none =>
        have : (i == k) = false := by simpa using fun e => hk e.symm
        simp [this]
theorem zG_filter {ls : zL} {j k : Nat} : zG (ls.filter (fun q => !(q.1 == j))) k = if k = j then none else zG ls k := by
  unfold zG
  rw [List.find?_filter]
  by_cases hk : k = j
  · subst hk
    rw [if_pos rfl, Option.map_eq_none_iff, List.find?_eq_none]
    intro q _
    simp
  · rw [if_neg hk]
    congr 2
    funext q
    by_cases hq : q.1 = k
    · simp [hq, hk]
    · simp [hq]
theorem zLsub.cut {a b : zL} (h : zLsub a b) (i : Nat) : ∀ k v, k ≠ i → zG (zCut a i) k = some v → zG (zCut b i) k = some v := by
  intro k v hki hk
  unfold zCut at hk ⊢
  split at hk
  · exact h _ _ hk
  · rename_i j
    split at hk
    · rename_i w hw
      rw [h _ _ hw]
      simp only
      cases hc : w.category == 2 with
      | true =>
        rw [hc, cond_true, zG_filter] at hk
        rw [cond_true, zG_filter]
        split at hk
        · cases hk
        · rename_i hkj
          rw [if_neg hkj]
          exact h _ _ hk
      | false =>
        rw [hc, cond_false] at hk
        rw [cond_false]
        exact h _ _ hk
    · rename_i hw
      have hkj : k ≠ j := fun e => by rw [e, hw] at hk; cases hk
      split
      · rename_i w hw2
        cases hc : w.category == 2 with
        | true =>
          rw [cond_true, zG_filter, if_neg hkj]
          exact h _ _ hk
        | false =>
          rw [cond_false]
          exact h _ _ hk
      · exact h _ _ hk
theorem zLsub.s1 {a b : zL} (h : zLsub a b) (i : Nat) (v : Value) : zLsub (zS1 a i v) (zS1 b i v) := by
  intro k w hk
  unfold zS1 at hk ⊢
  rw [zG_put] at hk ⊢
  split at hk
  · rename_i e
    rw [if_pos e]
    exact hk
  · rename_i e
    rw [if_neg e]
    exact h.cut i k w e hk
theorem zLsub.s2 {a b : zL} (h : zLsub a b) (i : Nat) (v : Value) : zLsub (zS2 a i v) (zS2 b i v) := by
  intro k w hk
  unfold zS2 at hk ⊢
  rw [zG_put] at hk ⊢
  split at hk
  · rename_i e
    rw [if_pos e]
    exact hk
  · rename_i e
    rw [if_neg e]
    rw [zG_filter] at hk ⊢
    split at hk
    · cases hk
    · rename_i e2
      rw [if_neg e2]
      exact h.cut i k w e hk
theorem zLsub.app {a b : zL} : zLsub a (a ++ b) := by
  intro k v h
  unfold zG at h ⊢
  rw [List.find?_append]
  cases hf : a.find? (fun q => q.1 == k) with
  | none => rw [hf] at h; cases h
  | some q => rw [hf] at h; exact h
theorem zEl_mo {α : Type} {o : Option α} {P P' : Prop} {f g : α → Prop} (hP : P → P') (hf : ∀ a, f a → g a) (h : o.elim P f) : o.elim P' g := by
  cases o with
  | none => exact hP h
  | some a => exact hf a h
theorem zBf_mo {b : Bool} {P P' : Prop} (hP : P → P') (h : bif b then P else False) : bif b then P' else False := by
  cases b with
  | true => exact hP h
  | false => exact h
theorem zCall_mo {R : zOr} {x : Nat} {as : List Value} {μ : zM} {K K' : List Value → zM → Prop} (hK : ∀ v μ, K v μ → K' v μ) (h : zCall R x as μ K) : zCall R x as μ K' := by
  obtain ⟨v, μ', h1, h2⟩ := h
  exact ⟨v, μ', h1, hK _ _ h2⟩
theorem zSw_mo {β : Type} {a : Int32} {K K' : β → Prop} {dd : β} (hK : ∀ b, K b → K' b) : ∀ (t : List β) (w : Int32), zSw a K dd w t → zSw a K' dd w t
  | [], _, h => hK _ h
  | b :: t, w, h => ⟨fun e => hK _ (h.1 e), fun e => zSw_mo hK t _ (h.2 e)⟩
set_option maxHeartbeats 4000000 in
theorem zStep_mono {dyn : Nat → Nat → Nat} {R : zOr} {e : zE} {ip : Nat} {ls ls' : zL} {st : List Value} {μ : zM} {K K' : Nat → zL → List Value → zM → Prop} {Z : Option Value → zM → Prop} (hs : zLsub ls ls') (hK : ∀ ip a b st μ, zLsub a b → K ip a st μ → K' ip b st μ) (h : zStep dyn R e ip ls st μ K Z) : zStep dyn R e ip ls' st μ K' Z := by
  obtain ⟨pc, ins, x, y, w, t⟩ := e
  have hg : ∀ {i : Nat} {v : Value}, zG ls x = some v → zG ls' x = some v := fun h => hs _ _ h
  cases ins
  case tableswitch =>
    simp only [zStep] at h ⊢
    split at h
    · exact zSw_mo (fun b h => hK _ _ _ _ _ hs h) _ _ h
    · exact h.elim
  case ifCond c off =>
    simp only [zStep] at h ⊢
    split at h
    · cases c <;> exact ⟨fun q => hK _ _ _ _ _ hs (h.1 q), fun q => hK _ _ _ _ _ hs (h.2 q)⟩
    · exact h.elim
  case if_icmp c off =>
    simp only [zStep] at h ⊢
    split at h
    · cases c <;> exact ⟨fun q => hK _ _ _ _ _ hs (h.1 q), fun q => hK _ _ _ _ _ hs (h.2 q)⟩
    · exact h.elim
  case getfield =>
    simp only [zStep] at h ⊢
    split at h
    · refine zEl_mo id (fun s h => zBf_mo (fun h => ?_) h) h
      split at h
      · exact hK _ _ _ _ _ hs h
      · exact zEl_mo (hK _ _ _ _ _ hs) (fun q h => hK _ _ _ _ _ hs h) h
    · exact h.elim
  case putfield =>
    simp only [zStep] at h ⊢
    split at h
    · refine zEl_mo id (fun s h => zBf_mo (fun h => ?_) h) h
      split at h
      · exact hK _ _ _ _ _ hs h
      · exact ⟨h.1, hK _ _ _ _ _ hs h.2⟩
      · exact h.elim
    · refine zEl_mo id (fun s h => zEl_mo id (fun s h => zBf_mo (fun h => ?_) h) h) h
      split at h
      · exact hK _ _ _ _ _ hs h
      · exact h.elim
    · exact h.elim
  case iaload =>
    simp only [zStep] at h ⊢
    split at h
    · refine zEl_mo (fun h => ?_) (fun s h => zBf_mo (fun h => ⟨h.1, hK _ _ _ _ _ hs h.2⟩) h) h
      split at h
      · rename_i e
        rw [if_pos e]
        exact ⟨h.1, hK _ _ _ _ _ hs h.2⟩
      · exact h.elim
    · exact h.elim
  case arraylength =>
    simp only [zStep] at h ⊢
    split at h
    · refine zEl_mo (fun h => ?_) (fun s h => zBf_mo (fun h => hK _ _ _ _ _ hs h) h) h
      split at h
      · rename_i e
        rw [if_pos e]
        exact hK _ _ _ _ _ hs h
      · exact h.elim
    · exact h.elim
  case iastore =>
    simp only [zStep] at h ⊢
    split at h
    · exact zEl_mo id (fun s h => zBf_mo (fun h => ⟨h.1, hK _ _ _ _ _ hs h.2⟩) h) h
    · exact h.elim
  case bastore =>
    simp only [zStep] at h ⊢
    split at h
    · exact zEl_mo id (fun s h => zBf_mo (fun h => ⟨h.1, h.2.1, hK _ _ _ _ _ hs h.2.2⟩) h) h
    · exact h.elim
  case baload =>
    simp only [zStep] at h ⊢
    split at h
    · exact zEl_mo id (fun s h => zBf_mo (fun h => ⟨h.1, hK _ _ _ _ _ hs h.2⟩) h) h
    · exact h.elim
  case aaload =>
    simp only [zStep] at h ⊢
    split at h
    · exact zEl_mo id (fun s h => zBf_mo (fun h => ⟨h.1, zEl_mo (hK _ _ _ _ _ hs) (fun q h => hK _ _ _ _ _ hs h) h.2⟩) h) h
    · exact h.elim
  case aastore =>
    simp only [zStep] at h ⊢
    split at h
    · exact zEl_mo id (fun s h => zEl_mo id (fun z h => zBf_mo (fun h => ⟨h.1, hK _ _ _ _ _ hs h.2⟩) h) h) h
    · exact h.elim
  case newarray =>
    simp only [zStep] at h ⊢
    split at h
    · exact ⟨h.1, h.2.1, h.2.2.1, hK _ _ _ _ _ hs h.2.2.2⟩
    · exact h.elim
  case anewarray =>
    simp only [zStep] at h ⊢
    split at h
    · exact ⟨h.1, h.2.1, h.2.2.1, hK _ _ _ _ _ hs h.2.2.2⟩
    · exact h.elim
  case multianewarray =>
    simp only [zStep] at h ⊢
    split at h
    · exact ⟨h.1, h.2.1, h.2.2.1, h.2.2.2.1, h.2.2.2.2.1, hK _ _ _ _ _ hs h.2.2.2.2.2⟩
    · exact h.elim
  case new => exact ⟨h.1, hK _ _ _ _ _ hs h.2⟩
  case instanceof =>
    simp only [zStep] at h ⊢
    split at h
    · exact zEl_mo id (fun s h => zBf_mo (fun h => hK _ _ _ _ _ hs h) h) h
    · exact h.elim
  case invokestatic =>
    simp only [zStep] at h ⊢
    split at h
    · exact zBf_mo (fun h => zCall_mo (fun v μ h => hK _ _ _ _ _ hs h) h) h
    · split at h
      · exact zBf_mo (fun h => hK _ _ _ _ _ hs h) h
      · exact h.elim
    · split at h
      · exact zBf_mo (fun h => hK _ _ _ _ _ hs h) h
      · exact h.elim
    · split at h
      · exact zBf_mo (fun h => hK _ _ _ _ _ hs h) h
      · exact h.elim
    · split at h
      · exact zEl_mo id (fun s h => zEl_mo id (fun z h => zBf_mo (fun h => ⟨h.1, h.2.1, h.2.2.1, h.2.2.2.1, h.2.2.2.2.1, hK _ _ _ _ _ hs h.2.2.2.2.2⟩) h) h) h
      · exact h.elim
    · exact h.elim
  case invokespecial =>
    simp only [zStep] at h ⊢
    split at h
    · split at h
      · exact zBf_mo (fun h => hK _ _ _ _ _ hs h) h
      · exact h.elim
    · split at h
      · exact zEl_mo id (fun s h => zBf_mo (fun h => zCall_mo (fun v μ h => hK _ _ _ _ _ hs h) h) h) h
      · exact h.elim
  case invokevirtual =>
    simp only [zStep] at h ⊢
    split at h
    · split at h
      · split at h
        · rename_i e
          rw [if_pos e]
          exact hK _ _ _ _ _ hs h
        · exact h.elim
      · split at h
        · rename_i e
          rw [if_pos e]
          exact ⟨h.1, hK _ _ _ _ _ hs h.2⟩
        · exact h.elim
      · exact h.elim
    · split at h
      · exact zEl_mo id (fun s h => zBf_mo (fun h => zCall_mo (fun v μ h => hK _ _ _ _ _ hs h) h) h) h
      · exact h.elim
    · split at h
      · exact zEl_mo id (fun s h => zBf_mo (fun h => zCall_mo (fun v μ h => hK _ _ _ _ _ hs h) h) h) h
      · exact h.elim
  case ldc =>
    simp only [zStep] at h ⊢
    by_cases e : y = 0
    · rw [if_pos e] at h ⊢; exact hK _ _ _ _ _ hs h
    · rw [if_neg e] at h ⊢; exact hK _ _ _ _ _ hs h
  case iload_n => simp only [zStep] at h ⊢; split at h; · rename_i e; rw [hs _ _ e]; exact hK _ _ _ _ _ hs h
                  · exact h.elim
  case iload => simp only [zStep] at h ⊢; split at h; · rename_i e; rw [hs _ _ e]; exact hK _ _ _ _ _ hs h
                · exact h.elim
  case lload_n => simp only [zStep] at h ⊢; split at h; · rename_i e; rw [hs _ _ e]; exact hK _ _ _ _ _ hs h
                  · exact h.elim
  case lload => simp only [zStep] at h ⊢; split at h; · rename_i e; rw [hs _ _ e]; exact hK _ _ _ _ _ hs h
                · exact h.elim
  case aload_n => simp only [zStep] at h ⊢; split at h; · rename_i e; rw [hs _ _ e]; exact hK _ _ _ _ _ hs h
                  · rename_i e; rw [hs _ _ e]; exact hK _ _ _ _ _ hs h
                  · exact h.elim
  case aload => simp only [zStep] at h ⊢; split at h; · rename_i e; rw [hs _ _ e]; exact hK _ _ _ _ _ hs h
                · rename_i e; rw [hs _ _ e]; exact hK _ _ _ _ _ hs h
                · exact h.elim
  case iinc => simp only [zStep] at h ⊢; split at h; · rename_i e; rw [hs _ _ e]; exact hK _ _ _ _ _ (hs.s1 _ _) h
               · exact h.elim
  all_goals (simp only [zStep, zBin] at h ⊢)
  all_goals (repeat' split at h)
  all_goals first | exact h.elim | exact hK _ _ _ _ _ hs h | exact hK _ _ _ _ _ (hs.s1 _ _) h | exact hK _ _ _ _ _ (hs.s2 _ _) h | exact ⟨h.1, hK _ _ _ _ _ hs h.2⟩ | exact h
theorem zRun_mono {dyn : Nat → Nat → Nat} {R : zOr} {cd : List zE} {Z : Option Value → zM → Prop} : ∀ (n k ip : Nat) (ls ls' : zL) (st : List Value) (μ : zM), zLsub ls ls' → zRun dyn R cd n ip ls st μ Z → zRun dyn R cd (n + k) ip ls' st μ Z
  | 0, _, _, _, _, _, _, _, h => h.elim
  | n + 1, k, ip, ls, ls', st, μ, hs, h => by
    rw [show n + 1 + k = (n + k) + 1 by omega]
    exact zEl_mo id (fun e h => zStep_mono hs (fun ip a b st μ hab h => zRun_mono n k ip a b st μ hab h) h) h
/-- for some number of steps -/
def zN (F : Nat → Prop) : Prop := ∃ n, F n
def zX (d : Nat) (cd : List zE) (ip : Nat) (ls : zL) (st : List Value) (μ : zM) (Z : Option Value → zM → Prop) : Prop := zN fun n => zRun zDyn (zEv d) cd n ip ls st μ Z
theorem zN_sh {F G : Nat → Prop} (c : Nat) (hd : ∀ n, F n → G (n + c)) (h : zN F) : zN G := by
  obtain ⟨n, h⟩ := h
  exact ⟨n + c, hd n h⟩
theorem zN_ret {P : Prop} (h : P) : zN fun _ => P := ⟨0, h⟩
theorem zN_if {P : Prop} {F G : Nat → Prop} (h1 : P → zN F) (h2 : ¬ P → zN G) : zN fun n => (P → F n) ∧ (¬ P → G n) := by
  rcases Classical.em P with p | p
  · obtain ⟨n, h⟩ := h1 p
    exact ⟨n, fun _ => h, fun q => absurd p q⟩
  · obtain ⟨n, h⟩ := h2 p
    exact ⟨n, fun q => absurd q p, fun _ => h⟩
theorem zN_ifn {P : Prop} {F G : Nat → Prop} (h1 : ¬ P → zN F) (h2 : P → zN G) : zN fun n => (¬ P → F n) ∧ (P → G n) := by
  rcases Classical.em P with p | p
  · obtain ⟨n, h⟩ := h2 p
    exact ⟨n, fun q => absurd p q, fun _ => h⟩
  · obtain ⟨n, h⟩ := h1 p
    exact ⟨n, fun _ => h, fun q => absurd q p⟩
theorem zN_and {P : Prop} {F : Nat → Prop} (hP : P) (h : zN F) : zN fun n => P ∧ F n := by
  obtain ⟨n, h⟩ := h
  exact ⟨n, hP, h⟩
theorem zN_opt {α : Type} {o : Option α} {F : Nat → Prop} {G : Nat → α → Prop} (h : o.elim (zN F) (fun a => zN fun n => G n a)) : zN fun n => o.elim (F n) (G n) := by
  cases o with
  | none => exact h
  | some a => exact h
theorem zN_bif {b : Bool} {F : Nat → Prop} (h : bif b then zN F else False) : zN fun n => bif b then F n else False := by
  cases b with
  | true => exact h
  | false => exact h.elim
theorem zN_ite {c : Prop} {hc0 : Decidable c} {F : Nat → Prop} (hc : c) (h : zN F) : zN fun n => if c then F n else False := by
  obtain ⟨n, h⟩ := h
  exact ⟨n, by show (if c then F n else False); rw [if_pos hc]; exact h⟩
theorem zN_ci {R : zOr} {x : Nat} {as : List Value} {μ : zM} {F : Nat → List Value → zM → Prop} (h : ∃ (r : Int32) (im : zI), R x as μ (some (.int r)) (μ.1, im, μ.2.2) ∧ zN fun n => F n [.int r] (μ.1, im, μ.2.2)) : zN fun n => zCall R x as μ (F n) := by
  obtain ⟨r, im, h1, n, h2⟩ := h
  exact ⟨n, _, _, h1, h2⟩
theorem zN_cl {R : zOr} {x : Nat} {as : List Value} {μ : zM} {F : Nat → List Value → zM → Prop} (h : ∃ (r : Int64) (im : zI), R x as μ (some (.long r)) (μ.1, im, μ.2.2) ∧ zN fun n => F n [.long r] (μ.1, im, μ.2.2)) : zN fun n => zCall R x as μ (F n) := by
  obtain ⟨r, im, h1, n, h2⟩ := h
  exact ⟨n, _, _, h1, h2⟩
theorem zN_cv {R : zOr} {x : Nat} {as : List Value} {μ : zM} {F : Nat → List Value → zM → Prop} (h : ∃ im : zI, R x as μ none (μ.1, im, μ.2.2) ∧ zN fun n => F n [] (μ.1, im, μ.2.2)) : zN fun n => zCall R x as μ (F n) := by
  obtain ⟨im, h1, n, h2⟩ := h
  exact ⟨n, _, _, h1, h2⟩
/-- a callee that answers a reference, or null, and writes ints alone -/
theorem zN_cr {R : zOr} {x : Nat} {as : List Value} {μ : zM} {F : Nat → List Value → zM → Prop} (h : ∃ (o : Option Nat) (im : zI), R x as μ (some (va_rf o)) (μ.1, im, μ.2.2) ∧ o.elim (zN fun n => F n [.null] (μ.1, im, μ.2.2)) (fun r => zN fun n => F n [.ref r] (μ.1, im, μ.2.2))) : zN fun n => zCall R x as μ (F n) := by
  obtain ⟨o, im, h1, h2⟩ := h
  cases o with
  | none => obtain ⟨n, h2⟩ := h2; exact ⟨n, _, _, h1, h2⟩
  | some r => obtain ⟨n, h2⟩ := h2; exact ⟨n, _, _, h1, h2⟩
/-- a callee of any kind -/
theorem zN_cg {R : zOr} {x : Nat} {as : List Value} {μ : zM} {F : Nat → List Value → zM → Prop} (h : ∃ (v : Option Value) (μ' : zM), R x as μ v μ' ∧ zN fun n => F n v.toList μ') : zN fun n => zCall R x as μ (F n) := by
  obtain ⟨v, μ', h1, n, h2⟩ := h
  exact ⟨n, _, _, h1, h2⟩
theorem zX_drop {d ip : Nat} {cd : List zE} {a b : zL} {st : List Value} {μ : zM} {Z : Option Value → zM → Prop} (h : zX d cd ip a st μ Z) : zX d cd ip (a ++ b) st μ Z := by
  obtain ⟨n, h⟩ := h
  exact ⟨n + 0, zRun_mono n 0 ip _ _ st μ zLsub.app h⟩
theorem zEv_of {d key : Nat} {as : List Value} {μ : zM} {v : Option Value} {μ' : zM} (hl : (lg_sl as).length ≤ zml key) (h : zX d (zCodes.getD key []) 0 (lv_args 0 as) [] μ (fun a b => a = v ∧ b = μ')) : zEv (d + 1) key as μ v μ' := ⟨hl, h⟩
theorem vpL {i : Int32} {n : Nat} (h : decide (¬ (i < 0 ∨ n ≤ i.toNatClampNeg)) = true) : vp_in i n := by
  have h1 : ¬ (i < 0 ∨ n ≤ i.toNatClampNeg) := by simpa using h
  exact h1
theorem zRun_st {dyn : Nat → Nat → Nat} {R : zOr} {cd : List zE} {n ip : Nat} {ls : zL} {st : List Value} {μ : zM} {Z : Option Value → zM → Prop} {e : zE} (he : cd[ip]? = some e) (h : zStep dyn R e ip ls st μ (fun ip ls st μ => zRun dyn R cd n ip ls st μ Z) Z) : zRun dyn R cd (n + 1) ip ls st μ Z := by
  show (cd[ip]?).elim False fun e => zStep dyn R e ip ls st μ (fun ip ls st μ => zRun dyn R cd n ip ls st μ Z) Z
  rw [he]
  exact h
