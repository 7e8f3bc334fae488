/-! WHAT THE START SAYS, in the machine's words; written by a program (mk9z2.py) -/
theorem zInst_ok : zHasL [604, 105, 535, 614, 571, 593, 223, 139, 367, 180, 582, 97, 974] ((List.range 13).map (fun ci => Cond.instantiable (vwG ci).1 (vwG ci).2.2)) = true := by decide +kernel
def zNr : List Cond := flatC (Jvm.Cond.and given_1 narrow_1)
theorem zNr_c : ∀ ci ∈ [0, 2, 3, 4, 5, 10], ∀ k ∈ [0, 2, 3, 4, 5, 10], zSub ci k = false → Cond.not (.castable (zRn ci) (zRn k)) ∈ zNr := by decide +kernel
theorem zSub_3 {ci : Nat} (h : zSub ci 3 = true) : ci ∈ [0, 2, 3, 4, 5, 10] := by
  unfold zSub at h
  simp only [Bool.or_eq_true, Bool.and_eq_true, beq_iff_eq] at h
  simp only [List.mem_cons, List.not_mem_nil, or_false]
  omega
def zTm : Nat → Term
  | 0 => .string "HighWater" 82
  | _ => .string "HighWater$Tape" 80
theorem zNr_s : ∀ i, i < 2 → Cond.exactly (zTm i) "java/lang/String" ∈ zNr ∧ Cond.eq (.field (zTm i) "java/lang/String" "coder" "B") (.int 0) ∈ zNr ∧ Cond.arrayOf (.field (zTm i) "java/lang/String" "value" "[B") .byte ∈ zNr ∧ Cond.eq (.length (.field (zTm i) "java/lang/String" "value" "[B")) (.int (Int32.ofNat (zLenS.getD i 0))) ∈ zNr := by decide +kernel
theorem zNr_e : ∀ i, i < 2 → ∀ j, j < zLenS.getD i 0 → Cond.eq (.elem (.field (zTm i) "java/lang/String" "value" "[B") (.int (Int32.ofNat j))) (.int ((zBytS.getD i []).getD j 0)) ∈ zNr := by decide +kernel
theorem zNr_n : Cond.not (.eq (zTm 0) (zTm 1)) ∈ zNr := by decide +kernel
theorem zNr_z : Cond.eq (.static "java/lang/String" "COMPACT_STRINGS" "Z") (.int 1) ∈ zNr ∧ Cond.isRef (.static "jdk/internal/util/Preconditions" "SIOOBE_FORMATTER" "Ljava/util/function/BiFunction;") ∈ zNr := by decide +kernel
theorem zCst {a b : Nat} (h : zSub a b = true) (hn : a ≠ b) : (a = 10 ∧ b = 2) ∨ (a = 5 ∧ b = 4) ∨ (a = 2 ∧ b = 3) ∨ (a = 4 ∧ b = 3) ∨ (a = 10 ∧ b = 3) ∨ (a = 5 ∧ b = 3) ∨ (a = 0 ∧ b = 3) := by
  unfold zSub at h
  simp only [Bool.or_eq_true, Bool.and_eq_true, beq_iff_eq] at h
  omega
theorem zCst_10_2 : lw_tbl[1457]? = some (Cond.castable (zRn 10) (zRn 2)) := by decide +kernel
theorem zCst_5_4 : lw_tbl[1458]? = some (Cond.castable (zRn 5) (zRn 4)) := by decide +kernel
theorem zCst_2_3 : lw_tbl[1459]? = some (Cond.castable (zRn 2) (zRn 3)) := by decide +kernel
theorem zCst_4_3 : lw_tbl[1460]? = some (Cond.castable (zRn 4) (zRn 3)) := by decide +kernel
theorem zCst_10_3 : lw_tbl[1461]? = some (Cond.castable (zRn 10) (zRn 3)) := by decide +kernel
theorem zCst_5_3 : lw_tbl[1462]? = some (Cond.castable (zRn 5) (zRn 3)) := by decide +kernel
theorem zCst_0_3 : lw_tbl[1463]? = some (Cond.castable (zRn 0) (zRn 3)) := by decide +kernel
set_option maxHeartbeats 1000000 in
theorem zStart {s : State} {b L : Nat} {xs : Nat → Int32} (hL : L ≤ 3584)
    (hts : ∀ w ∈ lw_tbl, w.before #[Value.ref b] s = true) (hX : va_X b L xs s s.heap) (hbl : b < s.heap.size) (hgv : (Jvm.Cond.and given_1 narrow_1).before #[Value.ref b] s = true) :
    ∃ (D : va_G) (cA : Nat → ClassId) (ext : Nat → Nat), va_K D vwCl (zTys cA) s ∧ zXt s.heap.size ext L xs s ∧ ext 2000000 = b := by
  have hn : ∀ w ∈ zNr, w.before #[Value.ref b] s = true := flat_of_before _ hgv
  have hA : ∀ a : Nat, a < s.heap.size → ¬ s.heap.size ≤ a := fun a h q => by omega
  have htb : ∀ w ∈ zTb, w.before #[Value.ref b] s = true := fun w h => hts w (List.mem_filter.mp h).1
  -- the classes
  have hk0 : ∀ ci, ∃ (q : ClassId × (Nat → Nat)), ci < 13 → u_Kn s (vwG ci).1 (vwG ci).2.1 (vwG ci).2.2 q.1 q.2 := by
    intro ci
    by_cases h : ci < 13
    · obtain ⟨cC, iS, h1⟩ := u_known (C := (vwG ci).1) (T := (vwG ci).2.1) (N := (vwG ci).2.2) (n := (vwG ci).2.2) htb (zHasL_in (List.all_eq_true.mp zLay_ok ci (List.mem_range.mpr h))) (htb _ (zHasL_in zInst_ok _ (List.mem_map.mpr ⟨ci, List.mem_range.mpr h, rfl⟩)))
      exact ⟨(cC, iS), fun _ => h1⟩
    · exact ⟨(0, fun _ => 0), fun q => absurd q h⟩
  obtain ⟨dk, hdk⟩ := Classical.axiomOfChoice hk0
  -- the arrays' classes
  obtain ⟨a0, k0, m0, i1, i2, i3⟩ := Cond.arrayClass_spec (htb _ zAC_in.1)
  obtain ⟨a1, k1, m1, j1, j2, j3⟩ := Cond.arrayClass_spec (htb _ zAC_in.2)
  obtain ⟨m2, a2, k2, -, -, q2, q3, q4⟩ := zAO_spec (ty := .int) (show va_AOA .int s from (hts (Cond.arrayOver (.array .int)) (List.mem_of_getElem? (i := 111) (by decide +kernel))))
  obtain ⟨m3, a3, k3, r1, -, r2, r3, r4⟩ := Cond.arrayOver_spec (show (Cond.arrayOver (.object RX3)).before #[Value.ref b] s = true from (hts (Cond.arrayOver (.object RX3)) (List.mem_of_getElem? (i := 135) (by decide +kernel))))
  obtain ⟨m4, a4, k4, t1, -, t2, t3, t4⟩ := Cond.arrayOver_spec (show (Cond.arrayOver (.object RX8)).before #[Value.ref b] s = true from (hts (Cond.arrayOver (.object RX8)) (List.mem_of_getElem? (i := 137) (by decide +kernel))))
  obtain ⟨m5, a5, k5, u1, -, u2, u3, u4⟩ := Cond.arrayOver_spec (show (Cond.arrayOver (.object RX6)).before #[Value.ref b] s = true from (hts (Cond.arrayOver (.object RX6)) (List.mem_of_getElem? (i := 178) (by decide +kernel))))
  -- the String constants
  obtain ⟨adK, adV, hSt, hEv⟩ := vk_Sof (args := #[Value.ref b]) (s := s) (N := 2) (tm := zTm) (len := zLenS) (byt := zBytS) (A := fun q => s.heap.size ≤ q) (fun i hi => by have := zStrL i hi; rw [this.1]; omega) (fun i hi => hn _ (zNr_s i hi).1) (fun i hi => hn _ (zNr_s i hi).2.1) (fun i hi => hn _ (zNr_s i hi).2.2.1) (fun i hi => hn _ (zNr_s i hi).2.2.2) (fun i hi j hj => hn _ (zNr_e i hi j hj)) (fun i j hi hj hij => by
    rcases (show (i = 0 ∧ j = 1) ∨ (i = 1 ∧ j = 0) by omega) with ⟨rfl, rfl⟩ | ⟨rfl, rfl⟩
    · exact .inl (hn _ zNr_n)
    · exact .inr (hn _ zNr_n)) hA
  obtain ⟨ext, hext⟩ : ∃ ext : Nat → Nat, ext = fun r => if r = 2000000 then b else adK (r - 1000000) := ⟨_, rfl⟩
  have he0 : ext 2000000 = b := by
    rw [hext]
    exact if_pos rfl
  have he : ∀ i, i < 2 → ext (1000000 + i) = adK i := fun i hi => by
    rw [hext]
    show (if 1000000 + i = 2000000 then b else adK (1000000 + i - 1000000)) = _
    rw [if_neg (by omega), show 1000000 + i - 1000000 = i by omega]
  refine ⟨(fun ci => (dk ci).1, fun ci => (dk ci).2), fun k => match k with | 0 => a0 | 1 => a1 | 2 => a2 | 3 => a3 | 4 => a4 | _ => a5, ext, ⟨fun ci q hq => ?_, fun k q hq => ?_⟩, ⟨⟨(hts (Cond.arrayOver (.object RX3)) (List.mem_of_getElem? (i := 135) (by decide +kernel))), (hts (Cond.arrayOver (.object RX8)) (List.mem_of_getElem? (i := 137) (by decide +kernel))), (hts (Cond.arrayOver (.object RX6)) (List.mem_of_getElem? (i := 178) (by decide +kernel))), (hts (Cond.arrayOver (.array .int)) (List.mem_of_getElem? (i := 111) (by decide +kernel))), (va_Nw.of rfl (hts (Cond.methodLinkNest RX11 9 yX1_init RX11) (List.mem_of_getElem? (i := 106) (by decide +kernel)))), (va_Nw.of rfl (hts (Cond.methodLinkNest RX11 41 yX7_init RX11) (List.mem_of_getElem? (i := 140) (by decide +kernel)))), (va_Nw.of rfl (hts (Cond.methodLinkNest RX11 54 yX9_init RX11) (List.mem_of_getElem? (i := 181) (by decide +kernel)))), (va_Nw.of rfl (hts (Cond.methodLinkNest RX11 81 yX6_init RX11) (List.mem_of_getElem? (i := 224) (by decide +kernel)))), fun x y hx hy hxy hne => ?_⟩, fun ci k h1 h2 h3 => va_Nc.of (hn _ (zNr_c ci (zSub_3 h1) k (zSub_3 h2) h3)), ?_, ?_, ?_, ?_, by omega, Nat.le_refl _, adV, ⟨fun i hi => ?_, fun i j hi hj q => ?_⟩, va_Zof (hts _ (List.mem_of_getElem? (i := 251) (by decide +kernel))) (hts _ (List.mem_of_getElem? (i := 81) (by decide +kernel))) (va_eqi (hn _ zNr_z.1)) hA, va_Zqof (hts _ (List.mem_of_getElem? (i := 267) (by decide +kernel))) (hts _ (List.mem_of_getElem? (i := 83) (by decide +kernel))) (hn _ zNr_z.2) hA⟩, he0⟩
  · have hl : ci < 13 := (List.getElem?_eq_some_iff.mp hq).1
    have h1 := hdk ci hl
    have e := vw_at hl
    rw [hq] at e
    have e : q = ((vwG ci).1, (vwG ci).2.1, (vwG ci).2.2) := Option.some.inj e
    rw [e]
    exact h1
  · have hl : k < 6 := (List.getElem?_eq_some_iff.mp hq).1
    match k, hl, hq with
    | 0, _, hq => cases hq; exact ⟨fun n z => ⟨fun k h => (by cases h), k0, i2, m0, i3⟩, i1⟩
    | 1, _, hq => cases hq; exact ⟨fun n z => ⟨fun k h => (by cases h), k1, j2, m1, j3⟩, j1⟩
    | 2, _, hq => cases hq; exact ⟨fun n z => ⟨fun k h => (by cases h), k2, q2, m2, q3⟩, q4⟩
    | 3, _, hq => cases hq; exact ⟨fun n z => ⟨fun k h => (by cases h), k3, r2, m3, r3⟩, k3, m3, r2, r3, r1, r4⟩
    | 4, _, hq => cases hq; exact ⟨fun n z => ⟨fun k h => (by cases h), k4, t2, m4, t3⟩, k4, m4, t2, t3, t1, t4⟩
    | 5, _, hq => cases hq; exact ⟨fun n z => ⟨fun k h => (by cases h), k5, u2, m5, u3⟩, k5, m5, u2, u3, u1, u4⟩
    | k + 6, h, _ => exact absurd h (by omega)
  · have h7 := zCst hxy hne
    rcases h7 with ⟨rfl, rfl⟩ | ⟨rfl, rfl⟩ | ⟨rfl, rfl⟩ | ⟨rfl, rfl⟩ | ⟨rfl, rfl⟩ | ⟨rfl, rfl⟩ | ⟨rfl, rfl⟩
    · exact va_Nw.of rfl (hts _ (List.mem_of_getElem? zCst_10_2))
    · exact va_Nw.of rfl (hts _ (List.mem_of_getElem? zCst_5_4))
    · exact va_Nw.of rfl (hts _ (List.mem_of_getElem? zCst_2_3))
    · exact va_Nw.of rfl (hts _ (List.mem_of_getElem? zCst_4_3))
    · exact va_Nw.of rfl (hts _ (List.mem_of_getElem? zCst_10_3))
    · exact va_Nw.of rfl (hts _ (List.mem_of_getElem? zCst_5_3))
    · exact va_Nw.of rfl (hts _ (List.mem_of_getElem? zCst_0_3))
  · have h2 := hEv 0 (by decide)
    rw [← he 0 (by decide)] at h2
    exact vk_R.of (hts _ (List.mem_of_getElem? (i := 241) (by decide +kernel))) h2
  · have h2 := hEv 1 (by decide)
    rw [← he 1 (by decide)] at h2
    exact vk_R.of (hts _ (List.mem_of_getElem? (i := 309) (by decide +kernel))) h2
  · rw [he0]
    exact hX
  · rw [he0]
    exact hbl
  · have h2 := hSt.1 i hi
    rw [← he i hi] at h2
    exact h2
  · exact hSt.2 i j hi hj (by rw [← he i hi, ← he j hj]; exact q)
