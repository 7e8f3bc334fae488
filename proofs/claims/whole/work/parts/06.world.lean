/-! THE MACHINE'S MEMORY AS A WORLD of the heap: cell k stands at B + k -/
def zAd (B : Nat) (ext : Nat → Nat) (r : Nat) : Nat := if r < 1000000 then B + r else ext r
def zc (B : Nat) (ext : Nat → Nat) : Value → Value
  | .ref r => .ref (zAd B ext r)
  | v => v
theorem zc_cat {B : Nat} {ext : Nat → Nat} (v : Value) : (zc B ext v).category = v.category := by cases v <;> rfl
def zFs (B : Nat) (μ : zM) (k t n : Nat) : List Value := (List.range n).map fun j => if zFR t j = true then va_rf ((μ.2.2 k j).map (fun q => B + q)) else .int (μ.2.1 k j)
def zEn (B : Nat) (cA : Nat → ClassId) (μ : zM) (k : Nat) (s : Nat × Nat) : va_E :=
  if s.1 < 20 then .inr (s.1, zFs B μ k s.1 s.2) else if s.1 < 22 then .inl (cA (s.1 - 20), s.2, .inl (μ.2.1 k)) else .inl (cA (s.1 - 20), s.2, .inr (.inr (.inr (.inr fun j => (μ.2.2 k j).map (fun q => B + q)))))
def zW (B : Nat) (cA : Nat → ClassId) (μ : zM) : va_W := (List.range μ.1.length).map fun k => (B + k, zEn B cA μ k (μ.1.getD k (0, 0)))
noncomputable def zTys (cA : Nat → ClassId) : List (ClassId × FieldType) := [(cA 0, .int), (cA 1, .boolean), (cA 2, .array .int), (cA 3, .object RX3), (cA 4, .object RX8), (cA 5, .object RX6)]
def zSh (μ : zM) : Prop := ∀ (k : Nat) (s : Nat × Nat), μ.1[k]? = some s → (s.1 < 13 ∧ s.2 = (vwG s.1).2.2) ∨ (20 ≤ s.1 ∧ s.1 ≤ 25)
def zIv (B : Nat) (D : va_G) (cA : Nat → ClassId) (L : Nat) (xs : Nat → Int32) (μ : zM) (H : Heap) : Prop :=
  H.size = B + μ.1.length ∧ va_P D vwCl (zW B cA μ) H ∧ zSh μ ∧ (∀ k j q, μ.2.2 k j = some q → q < 1000000) ∧ μ.1.length ≤ 1000000 ∧ μ.2.1 2000000 = xs ∧ μ.2.1 2000001 0 = nI L
def zSl (μ : zM) : Nat := (μ.1.map (fun s => s.2)).sum
def zLe (μ μ' : zM) : Prop := μ.1.length ≤ μ'.1.length ∧ zSl μ ≤ zSl μ'
theorem zLe.rf {μ : zM} : zLe μ μ := ⟨Nat.le_refl _, Nat.le_refl _⟩
theorem zLe.tr {a b c : zM} (h : zLe a b) (h2 : zLe b c) : zLe a c := ⟨Nat.le_trans h.1 h2.1, Nat.le_trans h.2 h2.2⟩
theorem zLe.of1 {μ μ' : zM} (h : μ'.1 = μ.1) : zLe μ μ' := by unfold zLe zSl; rw [h]; exact ⟨Nat.le_refl _, Nat.le_refl _⟩
theorem zLe.app {μ μ' : zM} {l : List (Nat × Nat)} (h : μ'.1 = μ.1 ++ l) : zLe μ μ' := by
  unfold zLe zSl
  rw [h]
  simp
theorem zW_len {B : Nat} {cA : Nat → ClassId} {μ : zM} : (zW B cA μ).length = μ.1.length := by simp [zW]
theorem zW_get {B : Nat} {cA : Nat → ClassId} {μ : zM} {k : Nat} {s : Nat × Nat} (h : μ.1[k]? = some s) : (zW B cA μ)[k]? = some (B + k, zEn B cA μ k s) := by
  have hl : k < μ.1.length := (List.getElem?_eq_some_iff.mp h).1
  unfold zW
  rw [List.getElem?_map, List.getElem?_range hl]
  simp [List.getD, h]
theorem zW_some {B : Nat} {cA : Nat → ClassId} {μ : zM} {k : Nat} {q : Nat × va_E} (h : (zW B cA μ)[k]? = some q) : ∃ s, μ.1[k]? = some s ∧ q = (B + k, zEn B cA μ k s) := by
  have hl : k < μ.1.length := by
    have := (List.getElem?_eq_some_iff.mp h).1
    rwa [zW_len] at this
  have hs : μ.1[k]? = some μ.1[k] := List.getElem?_eq_getElem hl
  exact ⟨_, hs, Option.some.inj (h.symm.trans (zW_get hs))⟩
theorem zW_D {B : Nat} {cA : Nat → ClassId} {μ : zM} : va_D (fun q : Nat => B ≤ q) (zW B cA μ) := by
  refine ⟨fun i j p q hp hq e => ?_, fun k q hq => ?_⟩
  · obtain ⟨s, -, rfl⟩ := zW_some hp
    obtain ⟨t, -, rfl⟩ := zW_some hq
    have e : B + i = B + j := e
    omega
  · obtain ⟨s, -, rfl⟩ := zW_some hq
    exact Nat.le_add_right _ _
theorem zW_set {B : Nat} {cA : Nat → ClassId} {μ μ' : zM} {k : Nat} {s : Nat × Nat} {e : va_E} (hs : μ.1[k]? = some s) (h1 : μ'.1 = μ.1) (he : zEn B cA μ' k s = e) (ho : ∀ j t, j ≠ k → zEn B cA μ' j t = zEn B cA μ j t) : (zW B cA μ).set k (B + k, e) = zW B cA μ' := by
  apply List.ext_getElem?
  intro i
  have hl : k < (zW B cA μ).length := by rw [zW_len]; exact (List.getElem?_eq_some_iff.mp hs).1
  by_cases hi : i = k
  · subst hi
    rw [List.getElem?_set_self hl, zW_get (μ := μ') (by rw [h1]; exact hs), he]
  · rw [List.getElem?_set_ne (fun q => hi q.symm)]
    cases hc : μ.1[i]? with
    | none =>
      have a1 : (zW B cA μ)[i]? = none := List.getElem?_eq_none (by rw [zW_len]; exact List.getElem?_eq_none_iff.mp hc)
      have a2 : (zW B cA μ')[i]? = none := List.getElem?_eq_none (by rw [zW_len, h1]; exact List.getElem?_eq_none_iff.mp hc)
      rw [a1, a2]
    | some t => rw [zW_get hc, zW_get (μ := μ') (by rw [h1]; exact hc), ho i t hi]
theorem zW_app {B : Nat} {cA : Nat → ClassId} {μ μ' : zM} {l : List (Nat × Nat)} (h1 : μ'.1 = μ.1 ++ l) (ho : ∀ j t, j < μ.1.length → zEn B cA μ' j t = zEn B cA μ j t) : zW B cA μ' = zW B cA μ ++ (List.range l.length).map (fun i => (B + (μ.1.length + i), zEn B cA μ' (μ.1.length + i) (l.getD i (0, 0)))) := by
  apply List.ext_getElem?
  intro i
  by_cases hi : i < μ.1.length
  · have hs : μ.1[i]? = some μ.1[i] := List.getElem?_eq_getElem hi
    rw [List.getElem?_append_left (by rw [zW_len]; exact hi), zW_get hs, zW_get (μ := μ') (s := μ.1[i]) (by rw [h1, List.getElem?_append_left hi]; exact hs), ho i _ hi]
  · rw [List.getElem?_append_right (by rw [zW_len]; omega), zW_len]
    by_cases h2 : i - μ.1.length < l.length
    · have hs : μ'.1[i]? = some l[i - μ.1.length] := by
        rw [h1, List.getElem?_append_right (by omega)]
        exact List.getElem?_eq_getElem h2
      rw [zW_get hs, List.getElem?_map, List.getElem?_range h2]
      simp only [Option.map_some]
      rw [show μ.1.length + (i - μ.1.length) = i by omega]
      simp [List.getD, h2]
    · have a1 : (zW B cA μ')[i]? = none := List.getElem?_eq_none (by rw [zW_len, h1, List.length_append]; omega)
      have a2 : ((List.range l.length).map (fun i => (B + (μ.1.length + i), zEn B cA μ' (μ.1.length + i) (l.getD i (0, 0)))))[i - μ.1.length]? = none := List.getElem?_eq_none (by simp; omega)
      rw [a1, a2]
theorem vw_at {ci : Nat} (h : ci < 13) : vwCl[ci]? = some ((vwG ci).1, (vwG ci).2.1, (vwG ci).2.2) := by
  have hl : vwCl.length = 13 := rfl
  unfold vwG
  rw [List.getD_eq_getElem?_getD, List.getElem?_eq_getElem (by rw [hl]; exact h)]
  rfl
theorem zFs_get {B : Nat} {μ : zM} {k t n j : Nat} (h : j < n) : (zFs B μ k t n)[j]? = some (if zFR t j = true then va_rf ((μ.2.2 k j).map (fun q => B + q)) else .int (μ.2.1 k j)) := by
  unfold zFs
  rw [List.getElem?_map, List.getElem?_range h]
  rfl
theorem zFs_len {B : Nat} {μ : zM} {k t n : Nat} : (zFs B μ k t n).length = n := by simp [zFs]
theorem zFs_seti {B : Nat} {μ : zM} {k t n j : Nat} {a : Int32} (hr : zFR t j = false) : (zFs B μ k t n).set j (.int a) = zFs B (μ.1, up2 μ.2.1 k j a, μ.2.2) k t n := by
  apply List.ext_getElem?
  intro i
  by_cases hi : i < n
  · by_cases e : i = j
    · subst e
      rw [List.getElem?_set_self (by rw [zFs_len]; exact hi), zFs_get hi]
      simp [hr, up2]
    · rw [List.getElem?_set_ne (fun q => e q.symm), zFs_get hi, zFs_get hi]
      simp [up2, e]
  · rw [List.getElem?_eq_none (by rw [List.length_set, zFs_len]; omega), List.getElem?_eq_none (by rw [zFs_len]; omega)]
theorem zFs_setr {B : Nat} {μ : zM} {k t n j q : Nat} (hr : zFR t j = true) : (zFs B μ k t n).set j (.ref (B + q)) = zFs B (μ.1, μ.2.1, up2 μ.2.2 k j (some q)) k t n := by
  apply List.ext_getElem?
  intro i
  by_cases hi : i < n
  · by_cases e : i = j
    · subst e
      rw [List.getElem?_set_self (by rw [zFs_len]; exact hi), zFs_get hi]
      simp [hr, up2, va_rf]
    · rw [List.getElem?_set_ne (fun q => e q.symm), zFs_get hi, zFs_get hi]
      simp [up2, e]
  · rw [List.getElem?_eq_none (by rw [List.length_set, zFs_len]; omega), List.getElem?_eq_none (by rw [zFs_len]; omega)]
theorem up2_ne {α : Type} {f : Nat → Nat → α} {k j : Nat} {v : α} {a : Nat} (h : a ≠ k) : up2 f k j v a = f a := by funext b; simp [up2, h]
theorem up2_eq {f : Nat → Nat → Int32} {k j : Nat} {v : Int32} : up2 f k j v k = upd (f k) j v := by funext b; simp [up2, upd]
theorem zEn_ne {B : Nat} {cA : Nat → ClassId} {μ μ' : zM} {j : Nat} {t : Nat × Nat} (h1 : μ'.2.1 j = μ.2.1 j) (h2 : μ'.2.2 j = μ.2.2 j) : zEn B cA μ' j t = zEn B cA μ j t := by
  unfold zEn zFs
  rw [h1, h2]
/-- a write into the ints of a cell -/
theorem zIv_int {B : Nat} {D : va_G} {cA : Nat → ClassId} {L : Nat} {xs : Nat → Int32} {μ : zM} {H H1 : Heap} {k : Nat} {s : Nat × Nat} {e : va_E} {g : Nat → Int32} (hI : zIv B D cA L xs μ H) (hs : μ.1[k]? = some s) (hz : H1.size = H.size)
    (hP : va_P D vwCl ((zW B cA μ).set k (B + k, e)) H1) (he : zEn B cA (μ.1, row2 μ.2.1 k g, μ.2.2) k s = e) : zIv B D cA L xs (μ.1, row2 μ.2.1 k g, μ.2.2) H1 := by
  obtain ⟨h1, h2, h3, h4, h5, h6, h7⟩ := hI
  have hk : k < μ.1.length := (List.getElem?_eq_some_iff.mp hs).1
  refine ⟨by rw [hz]; exact h1, ?_, h3, h4, h5, ?_, ?_⟩
  · rw [zW_set (μ' := (μ.1, row2 μ.2.1 k g, μ.2.2)) hs rfl he (fun j t hj => zEn_ne (by funext b; simp [row2, hj]) rfl)] at hP
    exact hP
  · rw [← h6]; funext b; show row2 μ.2.1 k g 2000000 b = _; unfold row2; rw [if_neg (by omega)]
  · rw [← h7]; show row2 μ.2.1 k g 2000001 0 = _; unfold row2; rw [if_neg (by omega)]
theorem zIv_ref {B : Nat} {D : va_G} {cA : Nat → ClassId} {L : Nat} {xs : Nat → Int32} {μ : zM} {H H1 : Heap} {k j q : Nat} {s : Nat × Nat} {e : va_E} (hI : zIv B D cA L xs μ H) (hs : μ.1[k]? = some s) (hz : H1.size = H.size) (hq : q < 1000000)
    (hP : va_P D vwCl ((zW B cA μ).set k (B + k, e)) H1) (he : zEn B cA (μ.1, μ.2.1, up2 μ.2.2 k j (some q)) k s = e) : zIv B D cA L xs (μ.1, μ.2.1, up2 μ.2.2 k j (some q)) H1 := by
  obtain ⟨h1, h2, h3, h4, h5, h6, h7⟩ := hI
  refine ⟨by rw [hz]; exact h1, ?_, h3, ?_, h5, h6, h7⟩
  · rw [zW_set (μ' := (μ.1, μ.2.1, up2 μ.2.2 k j (some q))) hs rfl he (fun i t hi => zEn_ne rfl (up2_ne hi))] at hP
    exact hP
  · intro a b c hc
    show c < 1000000
    have hc : up2 μ.2.2 k j (some q) a b = some c := hc
    unfold up2 at hc
    split at hc
    · split at hc
      · cases hc; exact hq
      · exact h4 _ _ _ hc
    · exact h4 _ _ _ hc
theorem up2_row {f : Nat → Nat → Int32} {k j : Nat} {v : Int32} : up2 f k j v = row2 f k (upd (f k) j v) := by
  funext a b
  unfold up2 row2 upd
  by_cases h : a = k
  · subst h; rfl
  · rw [if_neg h, if_neg h]
