/-! A TWIN of the machine, that the kernel runs: memory as rows -/
abbrev yqT : Type := List (Nat × List Int32 × List (Option Nat))
def yqM (bi : zI) (m : yqT) : zM := (m.map (fun c => (c.1, c.2.1.length)), fun k j => (m[k]?).elim (bi k j) (fun c => c.2.1.getD j 0), fun k j => (m[k]?).elim none (fun c => c.2.2.getD j none))
def yqI (m : yqT) (k j : Nat) (v : Int32) : Option yqT := (m[k]?).elim none fun c => bif Nat.blt j c.2.1.length then some (m.set k (c.1, c.2.1.set j v, c.2.2)) else none
def yqR (m : yqT) (k j : Nat) (v : Option Nat) : Option yqT := (m[k]?).elim none fun c => bif Nat.blt j c.2.2.length then some (m.set k (c.1, c.2.1, c.2.2.set j v)) else none
theorem yqM_1 {bi : zI} {m : yqT} {k : Nat} {c : Nat × List Int32 × List (Option Nat)} (h : m[k]? = some c) : (yqM bi m).1[k]? = some (c.1, c.2.1.length) := by
  show (m.map _)[k]? = _
  rw [List.getElem?_map, h]
  rfl
theorem yqM_2 {bi : zI} {m : yqT} {k j : Nat} {c : Nat × List Int32 × List (Option Nat)} (h : m[k]? = some c) : (yqM bi m).2.1 k j = c.2.1.getD j 0 := by
  show (m[k]?).elim _ _ = _
  rw [h]
  rfl
theorem yqM_3 {bi : zI} {m : yqT} {k j : Nat} {c : Nat × List Int32 × List (Option Nat)} (h : m[k]? = some c) : (yqM bi m).2.2 k j = c.2.2.getD j none := by
  show (m[k]?).elim _ _ = _
  rw [h]
  rfl
theorem yqG {α : Type} {l : List α} {j i : Nat} {v z : α} (h : j < l.length) : (l.set j v).getD i z = if i = j then v else l.getD i z := by
  rw [List.getD_eq_getElem?_getD, List.getD_eq_getElem?_getD]
  by_cases e : i = j
  · subst e
    rw [if_pos rfl, List.getElem?_set_self h]
    rfl
  · rw [if_neg e, List.getElem?_set_ne (fun q => e q.symm)]
theorem yqS_1 {m : yqT} {k : Nat} {c c' : Nat × List Int32 × List (Option Nat)} (h : m[k]? = some c) (h1 : c'.1 = c.1) (h2 : c'.2.1.length = c.2.1.length) : (m.set k c').map (fun c => ((c.1, c.2.1.length) : Nat × Nat)) = m.map (fun c => (c.1, c.2.1.length)) := by
  apply List.ext_getElem?
  intro i
  rw [List.getElem?_map, List.getElem?_map]
  have hl := (List.getElem?_eq_some_iff.mp h).1
  by_cases e : i = k
  · subst e
    rw [List.getElem?_set_self hl, h]
    show some (c'.1, c'.2.1.length) = some (c.1, c.2.1.length)
    rw [h1, h2]
  · rw [List.getElem?_set_ne (fun q => e q.symm)]
theorem yqI_ok {bi : zI} {m m' : yqT} {k j : Nat} {v : Int32} (h : yqI m k j v = some m') : yqM bi m' = ((yqM bi m).1, up2 (yqM bi m).2.1 k j v, (yqM bi m).2.2) := by
  unfold yqI at h
  cases hm : m[k]? with
  | none => rw [hm] at h; cases h
  | some c =>
    rw [hm] at h
    have h : (bif Nat.blt j c.2.1.length then some (m.set k (c.1, c.2.1.set j v, c.2.2)) else none) = some m' := h
    cases hb : Nat.blt j c.2.1.length with
    | false => rw [hb] at h; cases h
    | true =>
      rw [hb] at h
      injection h with h
      subst h
      have hj : j < c.2.1.length := Nat.le_of_ble_eq_true hb
      have hl := (List.getElem?_eq_some_iff.mp hm).1
      refine Prod.ext (yqS_1 hm rfl List.length_set) (Prod.ext (funext fun a => funext fun b => ?_) (funext fun a => funext fun b => ?_))
      · show ((m.set k (c.1, c.2.1.set j v, c.2.2))[a]?).elim _ _ = up2 (yqM bi m).2.1 k j v a b
        unfold up2
        by_cases e : a = k
        · subst e
          rw [List.getElem?_set_self hl, if_pos rfl, yqM_2 hm]
          exact yqG hj
        · rw [List.getElem?_set_ne (fun q => e q.symm), if_neg e]
          rfl
      · show ((m.set k (c.1, c.2.1.set j v, c.2.2))[a]?).elim _ _ = (m[a]?).elim _ _
        by_cases e : a = k
        · subst e
          rw [List.getElem?_set_self hl, hm]
          rfl
        · rw [List.getElem?_set_ne (fun q => e q.symm)]
theorem yqR_ok {bi : zI} {m m' : yqT} {k j : Nat} {v : Option Nat} (h : yqR m k j v = some m') : yqM bi m' = ((yqM bi m).1, (yqM bi m).2.1, up2 (yqM bi m).2.2 k j v) := by
  unfold yqR at h
  cases hm : m[k]? with
  | none => rw [hm] at h; cases h
  | some c =>
    rw [hm] at h
    have h : (bif Nat.blt j c.2.2.length then some (m.set k (c.1, c.2.1, c.2.2.set j v)) else none) = some m' := h
    cases hb : Nat.blt j c.2.2.length with
    | false => rw [hb] at h; cases h
    | true =>
      rw [hb] at h
      injection h with h
      subst h
      have hj : j < c.2.2.length := Nat.le_of_ble_eq_true hb
      have hl := (List.getElem?_eq_some_iff.mp hm).1
      refine Prod.ext (yqS_1 hm rfl rfl) (Prod.ext (funext fun a => funext fun b => ?_) (funext fun a => funext fun b => ?_))
      · show ((m.set k (c.1, c.2.1, c.2.2.set j v))[a]?).elim _ _ = (m[a]?).elim _ _
        by_cases e : a = k
        · subst e
          rw [List.getElem?_set_self hl, hm]
          rfl
        · rw [List.getElem?_set_ne (fun q => e q.symm)]
      · show ((m.set k (c.1, c.2.1, c.2.2.set j v))[a]?).elim _ _ = up2 (yqM bi m).2.2 k j v a b
        unfold up2
        by_cases e : a = k
        · subst e
          rw [List.getElem?_set_self hl, if_pos rfl, yqM_3 hm]
          exact yqG hj
        · rw [List.getElem?_set_ne (fun q => e q.symm), if_neg e]
          rfl
theorem yqD {α : Type} {n b : Nat} {z : α} : (List.replicate n z).getD b z = z := by
  rw [List.getD_eq_getElem?_getD]
  by_cases h : b < n
  · rw [List.getElem?_replicate_of_lt h]
    rfl
  · rw [List.getElem?_eq_none (by rw [List.length_replicate]; omega)]
    rfl
theorem yqM_l {bi : zI} {m : yqT} : (yqM bi m).1.length = m.length := List.length_map ..
theorem yqN_ok {bi : zI} {m : yqT} {t n : Nat} : yqM bi (m ++ [(t, List.replicate n 0, List.replicate n none)]) = ((yqM bi m).1 ++ [(t, n)], zero2 (yqM bi m).2.1 (yqM bi m).1.length 1 0, zero2 (yqM bi m).2.2 (yqM bi m).1.length 1 none) := by
  rw [yqM_l]
  refine Prod.ext ?_ (Prod.ext (funext fun a => funext fun b => ?_) (funext fun a => funext fun b => ?_))
  · show (m ++ [_]).map _ = m.map _ ++ _
    rw [List.map_append]
    show _ ++ [(t, (List.replicate n (0 : Int32)).length)] = _
    rw [List.length_replicate]
  · show ((m ++ [(t, List.replicate n 0, List.replicate n none)])[a]?).elim _ _ = zero2 (yqM bi m).2.1 m.length 1 0 a b
    unfold zero2
    by_cases h : a < m.length
    · rw [List.getElem?_append_left h, if_neg (by omega)]
      rfl
    · rw [List.getElem?_append_right (by omega)]
      by_cases e : a = m.length
      · rw [if_pos (by omega), e, Nat.sub_self]
        exact yqD
      · rw [if_neg (by omega), List.getElem?_eq_none (by show 1 ≤ a - m.length; omega)]
        show _ = (m[a]?).elim _ _
        rw [List.getElem?_eq_none (by omega)]
  · show ((m ++ [(t, List.replicate n 0, List.replicate n none)])[a]?).elim _ _ = zero2 (yqM bi m).2.2 m.length 1 none a b
    unfold zero2
    by_cases h : a < m.length
    · rw [List.getElem?_append_left h, if_neg (by omega)]
      rfl
    · rw [List.getElem?_append_right (by omega)]
      by_cases e : a = m.length
      · rw [if_pos (by omega), e, Nat.sub_self]
        exact yqD
      · rw [if_neg (by omega), List.getElem?_eq_none (by show 1 ≤ a - m.length; omega)]
        show _ = (m[a]?).elim _ _
        rw [List.getElem?_eq_none (by omega)]
def yqB (i : Int32) (n : Nat) : Bool := !(decide (i < 0)) && Nat.blt i.toNatClampNeg n
theorem yqB_ok {i : Int32} {n : Nat} (h : yqB i n = true) : vp_in i n := by
  unfold yqB at h
  rw [Bool.and_eq_true] at h
  intro hh
  rcases hh with hh | hh
  · have := h.1
    rw [decide_eq_true hh] at this
    cases this
  · have := Nat.le_of_ble_eq_true h.2
    omega
/-- a row of rows, new -/
def yqW (m : yqT) (n k : Nat) : yqT := m ++ (22, List.replicate n 0, (List.range n).map (fun j => some (m.length + 1 + j))) :: List.replicate n (20, List.replicate k 0, List.replicate k none)
theorem yqW_ok {bi : zI} {m : yqT} {n k : Nat} : yqM bi (yqW m n k) = ((yqM bi m).1 ++ (22, n) :: List.replicate n (20, k), zero2 (yqM bi m).2.1 (yqM bi m).1.length (n + 1) 0, row2 (zero2 (yqM bi m).2.2 (yqM bi m).1.length (n + 1) none) (yqM bi m).1.length (fun j => if j < n then some ((yqM bi m).1.length + 1 + j) else none)) := by
  rw [yqM_l]
  unfold yqW
  have hget : ∀ a, ¬ a < m.length → a ≠ m.length → a < m.length + (n + 1) → (m ++ (22, List.replicate n 0, (List.range n).map (fun j => some (m.length + 1 + j))) :: List.replicate n (20, List.replicate k 0, List.replicate k none) : yqT)[a]? = some (20, List.replicate k 0, List.replicate k none) := fun a h1 h2 h3 => by
    rw [List.getElem?_append_right (by omega)]
    obtain ⟨i, e⟩ : ∃ i, a - m.length = i + 1 := ⟨a - m.length - 1, by omega⟩
    rw [e, List.getElem?_cons_succ, List.getElem?_replicate_of_lt (by omega)]
  have hout : ∀ a, ¬ a < m.length + (n + 1) → (m ++ (22, List.replicate n 0, (List.range n).map (fun j => some (m.length + 1 + j))) :: List.replicate n (20, List.replicate k 0, List.replicate k none) : yqT)[a]? = none := fun a h => List.getElem?_eq_none (by
    rw [List.length_append, List.length_cons, List.length_replicate]
    omega)
  have hmid : (m ++ (22, List.replicate n 0, (List.range n).map (fun j => some (m.length + 1 + j))) :: List.replicate n (20, List.replicate k 0, List.replicate k none) : yqT)[m.length]? = some (22, List.replicate n 0, (List.range n).map (fun j => some (m.length + 1 + j))) := by
    rw [List.getElem?_append_right (Nat.le_refl _), Nat.sub_self]
    rfl
  refine Prod.ext ?_ (Prod.ext (funext fun a => funext fun b => ?_) (funext fun a => funext fun b => ?_))
  · show (m ++ _).map _ = m.map _ ++ _
    rw [List.map_append, List.map_cons, List.map_replicate]
    simp only [List.length_replicate]
  · show ((m ++ _ : yqT)[a]?).elim (bi a b) (fun c => c.2.1.getD b 0) = zero2 (yqM bi m).2.1 m.length (n + 1) 0 a b
    unfold zero2
    by_cases h : a < m.length
    · rw [List.getElem?_append_left h, if_neg (by omega)]
      rfl
    · by_cases e : a = m.length
      · subst e
        rw [hmid, if_pos (by omega)]
        exact yqD
      · by_cases e2 : a < m.length + (n + 1)
        · rw [hget a h e e2, if_pos (by omega)]
          exact yqD
        · rw [hout a e2, if_neg (by omega)]
          show _ = (m[a]?).elim _ _
          rw [List.getElem?_eq_none (by omega)]
  · show ((m ++ _ : yqT)[a]?).elim none (fun c => c.2.2.getD b none) = row2 (zero2 (yqM bi m).2.2 m.length (n + 1) none) m.length (fun j => if j < n then some (m.length + 1 + j) else none) a b
    unfold row2
    by_cases e : a = m.length
    · subst e
      rw [hmid, if_pos rfl]
      show ((List.range n).map _).getD b none = (if b < n then some (m.length + 1 + b) else none)
      rw [List.getD_eq_getElem?_getD, List.getElem?_map]
      by_cases hb : b < n
      · rw [List.getElem?_range hb, if_pos hb]
        rfl
      · rw [List.getElem?_eq_none (by rw [List.length_range]; omega), if_neg hb]
        rfl
    · rw [if_neg e]
      unfold zero2
      by_cases h : a < m.length
      · rw [List.getElem?_append_left h, if_neg (by omega)]
        rfl
      · by_cases e2 : a < m.length + (n + 1)
        · rw [hget a h e e2, if_pos (by omega)]
          exact yqD
        · rw [hout a e2, if_neg (by omega)]
          show _ = (m[a]?).elim _ _
          rw [List.getElem?_eq_none (by omega)]
/-- copied into a row -/
def yqC (m : yqT) (a b sp dp n : Nat) : Option yqT := (m[a]?).elim none fun s => (m[b]?).elim none fun z => bif s.1 == 20 && z.1 == 20 && Nat.ble (sp + n) s.2.1.length && Nat.ble (dp + n) z.2.1.length then some (m.set b (z.1, (List.range z.2.1.length).map (va_cpy (fun j => s.2.1.getD j 0) (fun j => z.2.1.getD j 0) sp dp n), z.2.2)) else none
theorem yqC_ok {bi : zI} {m m' : yqT} {a b sp dp n : Nat} (h : yqC m a b sp dp n = some m') : ∃ s z, m[a]? = some s ∧ m[b]? = some z ∧ s.1 = 20 ∧ z.1 = 20 ∧ sp + n ≤ s.2.1.length ∧ dp + n ≤ z.2.1.length ∧ yqM bi m' = ((yqM bi m).1, row2 (yqM bi m).2.1 b (va_cpy ((yqM bi m).2.1 a) ((yqM bi m).2.1 b) sp dp n), (yqM bi m).2.2) := by
  unfold yqC at h
  cases ha : m[a]? with
  | none => rw [ha] at h; cases h
  | some s =>
    cases hb : m[b]? with
    | none => rw [ha, hb] at h; cases h
    | some z =>
      rw [ha, hb] at h
      have h : (bif s.1 == 20 && z.1 == 20 && Nat.ble (sp + n) s.2.1.length && Nat.ble (dp + n) z.2.1.length then some (m.set b (z.1, (List.range z.2.1.length).map (va_cpy (fun j => s.2.1.getD j 0) (fun j => z.2.1.getD j 0) sp dp n), z.2.2)) else none) = some m' := h
      cases hc : (s.1 == 20 && z.1 == 20 && Nat.ble (sp + n) s.2.1.length && Nat.ble (dp + n) z.2.1.length) with
      | false => rw [hc] at h; cases h
      | true =>
        rw [hc] at h
        injection h with h
        subst h
        rw [Bool.and_eq_true, Bool.and_eq_true, Bool.and_eq_true] at hc
        have hl := (List.getElem?_eq_some_iff.mp hb).1
        have h1 := Nat.le_of_ble_eq_true hc.1.2
        have h2 := Nat.le_of_ble_eq_true hc.2
        refine ⟨s, z, rfl, rfl, by simpa using hc.1.1.1, by simpa using hc.1.1.2, h1, h2, Prod.ext (yqS_1 hb rfl (by rw [List.length_map, List.length_range])) (Prod.ext (funext fun x => funext fun y => ?_) (funext fun x => funext fun y => ?_))⟩
        · show ((m.set b _)[x]?).elim (bi x y) (fun c => c.2.1.getD y 0) = row2 (yqM bi m).2.1 b _ x y
          unfold row2
          by_cases e : x = b
          · subst e
            rw [List.getElem?_set_self hl, if_pos rfl]
            show ((List.range z.2.1.length).map _).getD y 0 = _
            rw [List.getD_eq_getElem?_getD, List.getElem?_map]
            have e1 : (fun j => s.2.1.getD j 0) = (yqM bi m).2.1 a := funext fun j => (yqM_2 ha).symm
            have e2 : (fun j => z.2.1.getD j 0) = (yqM bi m).2.1 x := funext fun j => (yqM_2 hb).symm
            by_cases hy : y < z.2.1.length
            · rw [List.getElem?_range hy, e1, e2]
              rfl
            · rw [List.getElem?_eq_none (by rw [List.length_range]; omega)]
              unfold va_cpy
              rw [if_neg (by omega), yqM_2 hb, List.getD_eq_getElem?_getD, List.getElem?_eq_none (by omega)]
              rfl
          · rw [List.getElem?_set_ne (fun q => e q.symm), if_neg e]
            rfl
        · show ((m.set b _)[x]?).elim none (fun c => c.2.2.getD y none) = (m[x]?).elim _ _
          by_cases e : x = b
          · subst e
            rw [List.getElem?_set_self hl, hb]
            rfl
          · rw [List.getElem?_set_ne (fun q => e q.symm)]
