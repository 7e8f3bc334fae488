/-! THE MODEL READS: its cells -/
def yxHd (im : zI) : List Nat → Prop
  | [] => True
  | h :: t => im 64 t.length = Int32.ofNat h ∧ yxHd im t
theorem yxHd_k {im im' : zI} : ∀ {H : List Nat}, yxHd im H → (∀ j, j < H.length → im' 64 j = im 64 j) → yxHd im' H
  | [], _, _ => trivial
  | _ :: t, h, hk => ⟨(hk t.length (Nat.lt_succ_self _)).trans h.1, yxHd_k h.2 (fun j hj => hk j (Nat.lt_succ_of_lt hj))⟩
/-- the cells between two tokens: what is held, what came out -/
def yxMc (B : Nat → Int32) (n c : Nat) (im : zI) (p : Nat) (b : Int32) (H out : List Nat) : Prop :=
  (im 47 9 = Int32.ofNat n ∧ (∀ k, k < n → im 54 k = B k) ∧ yWw im ∧ im 47 12 = Int32.ofNat c ∧ c < 6) ∧ (im 47 30 = Int32.ofNat H.length ∧ yxHd im H ∧ (∀ x, x ∈ H → x < 20) ∧ im 47 31 = Int32.ofNat (yxCt H)) ∧ (im 47 32 = Int32.ofNat out.length ∧ ∀ i, i < out.length → im 55 (200 * c + i) = Int32.ofNat (out.getD i 0)) ∧ im 47 24 = Int32.ofNat p ∧ im 47 25 = b
def yxMk (c : Nat) (im im' : zI) : Prop := ∀ k j, k ≠ 64 → ¬ (k = 47 ∧ 23 < j ∧ j < 33) → ¬ (k = 55 ∧ 200 * c ≤ j) → im' k j = im k j
theorem yxMk.rf {c : Nat} {im : zI} : yxMk c im im := fun _ _ _ _ _ => rfl
theorem yxMk.tr {c : Nat} {a b e : zI} (h1 : yxMk c a b) (h2 : yxMk c b e) : yxMk c a e := fun k j x y z => (h2 k j x y z).trans (h1 k j x y z)
theorem yxCt_le : ∀ {H : List Nat}, yxCt H ≤ H.length
  | [] => Nat.le_refl _
  | h :: t => by
    have := yxCt_le (H := t)
    show (if _ then 1 else 0) + yxCt t ≤ t.length + 1
    split <;> omega
theorem m_xPuts {d n c p x : Nat} {b : Int32} {B : Nat → Int32} {H out : List Nat} {v : Int32} {tl : List (Nat × Nat)} {q : zR} {im : zI} (h : yxMc B n c im p b H out) (ho : out.length < 200) (hv : v = Int32.ofNat x) :
    ∃ im', zEv (d + 1) 152 [.ref 47, .int v] (zMm tl q im) none (zMm tl q im') ∧ yxMc B n c im' p b H (out ++ [x]) ∧ yxMk c im im' := by
  obtain ⟨⟨a1, a2, a3, a4, a5⟩, ⟨b1, b2, b3, b4⟩, ⟨c1, c2⟩, e1⟩ := h
  have o47 : ∀ j, j ≠ 32 → (up2 (up2 im 55 (200 * c + out.length) v) 47 32 (Int32.ofNat (out.length + 1)) : zI) 47 j = im 47 j := fun j hj => by rw [up_j hj, up_k (by decide)]
  refine ⟨up2 (up2 im 55 (200 * c + out.length) v) 47 32 (Int32.ofNat (out.length + 1)), zEv_o rfl (t_X12_puts ?_), ⟨⟨by rw [o47 9 (by decide)]; exact a1, fun k hk => by rw [up_k (by decide), up_k (by decide)]; exact a2 k hk, fun j hj => by rw [up_k (by decide), up_k (by decide)]; exact a3 j hj, by rw [o47 12 (by decide)]; exact a4, a5⟩, ⟨by rw [o47 30 (by decide)]; exact b1, yxHd_k b2 (fun j _ => by rw [up_k (by decide), up_k (by decide)]), b3, by rw [o47 31 (by decide)]; exact b4⟩, ⟨?_, fun i hi => ?_⟩, by rw [o47 24 (by decide)]; exact e1.1, by rw [o47 25 (by decide)]; exact e1.2⟩, fun k j h1 h2 h3 => ?_⟩
  · have e : (200 : Int32) * im 47 12 + im 47 32 = Int32.ofNat (200 * c + out.length) := by rw [a4, c1, Int32.ofNat_add, Int32.ofNat_mul]; rfl
    rw [e, c1, zi_n (by omega), zi_s]
    exact ⟨zi_in (by omega) (by omega), rfl, rfl⟩
  · rw [up_eq, List.length_append]
    rfl
  · rw [up_k (show 55 ≠ 47 by decide)]
    rw [List.length_append] at hi
    have hi' : i < out.length + 1 := hi
    by_cases e : i = out.length
    · subst e
      rw [up_eq, hv, List.getD_eq_getElem?_getD, List.getElem?_append_right (Nat.le_refl _), Nat.sub_self]
      rfl
    · rw [up_j (by omega), c2 i (by omega), List.getD_eq_getElem?_getD, List.getD_eq_getElem?_getD, List.getElem?_append_left (by omega)]
  · by_cases e : k = 47
    · subst e
      rw [up_j (by omega), up_k (by decide)]
    · rw [up_k e]
      by_cases e2 : k = 55
      · subst e2
        rw [up_j (by omega)]
      · rw [up_k e2]
theorem m_xHolds {d n c p x : Nat} {b : Int32} {B : Nat → Int32} {H out : List Nat} {v : Int32} {tl : List (Nat × Nat)} {q : zR} {im : zI} (h : yxMc B n c im p b H out) (hH : H.length < 200) (hv : v = Int32.ofNat x) (hx : x < 20) (i31 : Int32) (h31 : i31 = Int32.ofNat (yxCt (x :: H))) :
    ∃ im', zEv (d + 1) 154 [.ref 47, .int v] (zMm tl q (up2 im 47 31 i31)) none (zMm tl q im') ∧ yxMc B n c im' p b (x :: H) out ∧ yxMk c im im' := by
  obtain ⟨⟨a1, a2, a3, a4, a5⟩, ⟨b1, b2, b3, b4⟩, ⟨c1, c2⟩, e1⟩ := h
  have o47 : ∀ j, j ≠ 30 → j ≠ 31 → (up2 (up2 (up2 im 47 31 i31) 64 H.length v) 47 30 (Int32.ofNat (H.length + 1)) : zI) 47 j = im 47 j := fun j hj hj2 => by rw [up_j hj, up_k (by decide), up_j hj2]
  have e30 : (up2 im 47 31 i31 : zI) 47 30 = Int32.ofNat H.length := by rw [up_j (by decide)]; exact b1
  refine ⟨up2 (up2 (up2 im 47 31 i31) 64 H.length v) 47 30 (Int32.ofNat (H.length + 1)), zEv_o rfl (t_X12_holds ?_), ⟨⟨by rw [o47 9 (by decide) (by decide)]; exact a1, fun k hk => by rw [up_k (by decide), up_k (by decide), up_k (by decide)]; exact a2 k hk, fun j hj => by rw [up_k (by decide), up_k (by decide), up_k (by decide)]; exact a3 j hj, by rw [o47 12 (by decide) (by decide)]; exact a4, a5⟩, ⟨up_eq, ⟨?_, yxHd_k b2 (fun j hj => ?_)⟩, fun y hy => ?_, ?_⟩, ⟨by rw [o47 32 (by decide) (by decide)]; exact c1, fun i hi => by rw [up_k (by decide), up_k (by decide), up_k (by decide)]; exact c2 i hi⟩, by rw [o47 24 (by decide) (by decide)]; exact e1.1, by rw [o47 25 (by decide) (by decide)]; exact e1.2⟩, fun k j h1 h2 h3 => ?_⟩
  · rw [e30, zi_n (by omega), zi_s]
    exact ⟨zi_in hH (by omega), rfl, rfl⟩
  · rw [up_k (show 64 ≠ 47 by decide), up_eq]
    exact hv
  · rw [up_k (show 64 ≠ 47 by decide), up_j (by omega), up_k (show 64 ≠ 47 by decide)]
  · rcases List.mem_cons.mp hy with e | e
    · rw [e]; exact hx
    · exact b3 y e
  · rw [up_j (by decide), up_k (by decide), up_eq]
    exact h31
  · by_cases e : k = 47
    · subst e
      rw [up_j (by omega), up_k (by decide), up_j (by omega)]
    · rw [up_k e, up_k h1, up_k e]
theorem m_xRank {d a : Nat} {tl : List (Nat × Nat)} {q : zR} {im : zI} (ha : a < 20) : zEv (d + 1) 151 [.int (Int32.ofNat a)] (zMm tl q im) (some (.int (Int32.ofNat (yxRk a)))) (zMm tl q im) := by
  refine zEv_o rfl (t_X12_rank ⟨fun h0 => ⟨fun h1 => ⟨fun h2 => ⟨fun h3 => ⟨fun h4 => ⟨fun h5 => ⟨fun h6 => ⟨congrArg (fun v : Int32 => some (Value.int v)) ?_, rfl⟩, fun h6 => ⟨congrArg (fun v : Int32 => some (Value.int v)) ?_, rfl⟩⟩, fun h5 => ⟨congrArg (fun v : Int32 => some (Value.int v)) ?_, rfl⟩⟩, fun h4 => ⟨congrArg (fun v : Int32 => some (Value.int v)) ?_, rfl⟩⟩, fun h3 => ⟨congrArg (fun v : Int32 => some (Value.int v)) ?_, rfl⟩⟩, fun h2 => ⟨congrArg (fun v : Int32 => some (Value.int v)) ?_, rfl⟩⟩, fun h1 => ⟨congrArg (fun v : Int32 => some (Value.int v)) ?_, rfl⟩⟩, fun h0 => ⟨congrArg (fun v : Int32 => some (Value.int v)) ?_, rfl⟩⟩)
  · clear h0 h1 h2 h3
    revert a
    decide
  · clear h0 h1 h2 h3
    revert a
    decide
  · clear h0 h1 h2 h3
    revert a
    decide
  · have n0 : ¬ a = 0 := fun e => h0 (by rw [e]; rfl)
    have n1 : ¬ a = 11 := fun e => h1 (by rw [e]; rfl)
    have n2 : ¬ a = 12 := fun e => h2 (by rw [e]; rfl)
    have n3 : ¬ a = 13 := fun e => h3 (by rw [e]; rfl)
    have n4 : a ≤ 15 := Decidable.of_not_not fun hh => h4 ((zi_lt (a := 15) (by omega) (by omega)).mpr (by omega))
    unfold yxRk
    rw [if_neg n0, if_neg n1, if_neg n2, if_neg n3, if_pos n4]
    rfl
  · clear h0 h1 h2
    revert a
    decide
  · clear h0 h1
    revert a
    decide
  · clear h0
    revert a
    decide
  · revert a
    decide
theorem yxRk_le (a : Nat) : yxRk a ≤ 7 := by
  unfold yxRk
  split
  · omega
  · split
    · omega
    · split
      · omega
      · split
        · omega
        · split
          · omega
          · split
            · omega
            · split <;> omega
/-- all that binds at least so comes -/
theorem m_xUnwind {d n c p l : Nat} {b : Int32} {B : Nat → Int32} {tl : List (Nat × Nat)} {q : zR} (hl : l < 100) (hl0 : 0 < l) : ∀ (H out : List Nat) (im : zI), yxMc B n c im p b H out → H.length + out.length < 200 →
    ∃ im', zX (d + 1) zc_X12_unwinds 0 [(0, .ref 47), (1, .int (Int32.ofNat l))] [] (zMm tl q im) (fun x y => x = none ∧ y = zMm tl q im') ∧ yxMc B n c im' p b (yxUw l H out).1 (yxUw l H out).2 ∧ yxMk c im im' := by
  intro H
  induction H with
  | nil =>
    intro out im h hlen
    have e30 : im 47 30 ≤ 0 := by
      rw [h.2.1.1]
      decide
    exact ⟨im, t_X12_unwinds ⟨fun _ => ⟨rfl, rfl⟩, fun hh => absurd e30 hh⟩, h, yxMk.rf⟩
  | cons x H ih =>
    intro out im h hlen
    have hlen' : H.length + 1 + out.length < 200 := hlen
    obtain ⟨⟨a1, a2, a3, a4, a5⟩, ⟨b1, b2, b3, b4⟩, ⟨c1, c2⟩, e1⟩ := id h
    have b1' : im 47 30 = Int32.ofNat (H.length + 1) := b1
    have e30 : ¬ im 47 30 ≤ 0 := by
      rw [b1']
      exact fun hh => absurd ((zi_le (b := 0) (by omega) (by omega)).mp hh) (by omega)
    have em : im 47 30 - 1 = Int32.ofNat H.length := by
      rw [b1', ← zi_s, Int32.add_sub_cancel]
    have ex : im 64 (im 47 30 - 1).toNatClampNeg = Int32.ofNat x := by
      rw [em, zi_n (by omega)]
      exact b2.1
    have hx := b3 x (List.mem_cons_self ..)
    have hv : vp_in (im 47 30 - 1) 200 := by
      rw [em]
      exact zi_in (by omega) (by omega)
    have hrk : zEv (d + 1) 151 [.int (im 64 (im 47 30 - 1).toNatClampNeg)] (zMm tl q im) (some (.int (Int32.ofNat (yxRk x)))) (zMm tl q im) := by
      rw [ex]
      exact m_xRank hx
    have hr7 := yxRk_le x
    by_cases hr : l ≤ yxRk x
    · have nlt : ¬ Int32.ofNat (yxRk x) < Int32.ofNat l := fun hh => absurd ((zi_lt (by omega) (by omega)).mp hh) (by omega)
      have eU : yxUw l (x :: H) out = yxUw l H (out ++ [x]) := if_pos hr
      rw [eU]
      have step : ∀ i31 : Int32, i31 = Int32.ofNat (yxCt H) → ∃ im6 im', zEv (d + 1) 152 [.ref 47, .int (im 64 (im 47 30 - 1).toNatClampNeg)] (zMm tl q (up2 (up2 im 47 30 (im 47 30 - 1)) 47 31 i31)) none (zMm tl q im6) ∧ zX (d + 1) zc_X12_unwinds 0 [(0, .ref 47), (1, .int (Int32.ofNat l)), (2, .int (im 64 (im 47 30 - 1).toNatClampNeg))] [] (zMm tl q im6) (fun x y => x = none ∧ y = zMm tl q im') ∧ yxMc B n c im' p b (yxUw l H (out ++ [x])).1 (yxUw l H (out ++ [x])).2 ∧ yxMk c im im' := fun i31 hi => by
        have o47 : ∀ j, j ≠ 30 → j ≠ 31 → (up2 (up2 im 47 30 (im 47 30 - 1)) 47 31 i31 : zI) 47 j = im 47 j := fun j h1 h2 => by rw [up_j h2, up_j h1]
        have hM : yxMc B n c (up2 (up2 im 47 30 (im 47 30 - 1)) 47 31 i31) p b H out := ⟨⟨by rw [o47 9 (by decide) (by decide)]; exact a1, fun k hk => by rw [up_k (by decide), up_k (by decide)]; exact a2 k hk, fun j hj => by rw [up_k (by decide), up_k (by decide)]; exact a3 j hj, by rw [o47 12 (by decide) (by decide)]; exact a4, a5⟩, ⟨by rw [up_j (by decide), up_eq]; exact em, yxHd_k b2.2 (fun j _ => by rw [up_k (by decide), up_k (by decide)]), fun y hy => b3 y (List.mem_cons_of_mem _ hy), by rw [up_eq]; exact hi⟩, ⟨by rw [o47 32 (by decide) (by decide)]; exact c1, fun i hi => by rw [up_k (by decide), up_k (by decide)]; exact c2 i hi⟩, by rw [o47 24 (by decide) (by decide)]; exact e1.1, by rw [o47 25 (by decide) (by decide)]; exact e1.2⟩
        obtain ⟨im6, g1, g2, g3⟩ := m_xPuts (d := d) (tl := tl) (q := q) hM (by omega) ex
        obtain ⟨im', i1, i2, i3⟩ := ih (out ++ [x]) im6 g2 (by rw [List.length_append]; show H.length + (out.length + 1) < 200; omega)
        have hk0 : yxMk c im (up2 (up2 im 47 30 (im 47 30 - 1)) 47 31 i31) := fun k j h1 h2 h3 => by
          by_cases e : k = 47
          · subst e
            rw [up_j (by omega), up_j (by omega)]
          · rw [up_k e, up_k e]
        exact ⟨im6, im', g1, zX_drop (b := [(2, _)]) i1, i2, hk0.tr (g3.tr i3)⟩
      by_cases h13 : x = 13
      · have e13 : im 64 (im 47 30 - 1).toNatClampNeg = (13 : Int32) := by rw [ex, h13]; rfl
        obtain ⟨im6, im', g1, g2, g3, g4⟩ := step (im 47 31 - 1) (by rw [b4, h13]; show Int32.ofNat (1 + yxCt H) - 1 = _; rw [Nat.add_comm, ← zi_s, Int32.add_sub_cancel])
        exact ⟨im', t_X12_unwinds ⟨fun hh => absurd hh e30, fun _ => ⟨hv, _, im, hrk, fun hh => absurd hh nlt, fun _ => ⟨hv, fun _ => ⟨im6, g1, g2⟩, fun hh => absurd e13 hh⟩⟩⟩, g3, g4⟩
      · have n13 : ¬ im 64 (im 47 30 - 1).toNatClampNeg = (13 : Int32) := by
          rw [ex]
          exact fun hh => h13 ((zi_eq (b := 13) (by omega) (by omega)).mp hh)
        by_cases h19 : x = 19
        · have e19 : im 64 (im 47 30 - 1).toNatClampNeg = (19 : Int32) := by rw [ex, h19]; rfl
          obtain ⟨im6, im', g1, g2, g3, g4⟩ := step (im 47 31 - 1) (by rw [b4, h19]; show Int32.ofNat (1 + yxCt H) - 1 = _; rw [Nat.add_comm, ← zi_s, Int32.add_sub_cancel])
          exact ⟨im', t_X12_unwinds ⟨fun hh => absurd hh e30, fun _ => ⟨hv, _, im, hrk, fun hh => absurd hh nlt, fun _ => ⟨hv, fun hh => absurd hh n13, fun _ => ⟨fun hh => absurd e19 hh, fun _ => ⟨im6, g1, g2⟩⟩⟩⟩⟩, g3, g4⟩
        · have n19 : ¬ im 64 (im 47 30 - 1).toNatClampNeg = (19 : Int32) := by
            rw [ex]
            exact fun hh => h19 ((zi_eq (b := 19) (by omega) (by omega)).mp hh)
          by_cases h0 : x = 0
          · subst h0
            exact absurd hr (by have : yxRk 0 = 0 := rfl; omega)
          · obtain ⟨im6, im', g1, g2, g3, g4⟩ := step (im 47 31 - 0) (by rw [b4, Int32.sub_zero, yxCt_n (by omega)])
            exact ⟨im', t_X12_unwinds ⟨fun hh => absurd hh e30, fun _ => ⟨hv, _, im, hrk, fun hh => absurd hh nlt, fun _ => ⟨hv, fun hh => absurd hh n13, fun _ => ⟨fun _ => ⟨im6, g1, g2⟩, fun hh => absurd hh n19⟩⟩⟩⟩, g3, g4⟩
    · have hlt : Int32.ofNat (yxRk x) < Int32.ofNat l := (zi_lt (by omega) (by omega)).mpr (by omega)
      have eU : yxUw l (x :: H) out = (x :: H, out) := if_neg hr
      rw [eU]
      exact ⟨im, t_X12_unwinds ⟨fun hh => absurd hh e30, fun _ => ⟨hv, _, im, hrk, fun _ => ⟨rfl, rfl⟩, fun hh => absurd hlt hh⟩⟩, h, yxMk.rf⟩
