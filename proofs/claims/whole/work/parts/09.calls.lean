/-! ALLOCATION, CONSTANTS, SWITCHES, CALLS -/
theorem zK_at {D : va_G} {cA : Nat → ClassId} {s : State} {c : ClassId} (hK : va_K D vwCl (zTys cA) s) : (s.vm.findClass ("[" ++ FieldType.int.toString) = some c → c = cA 0) ∧ (s.vm.findClass ("[" ++ FieldType.boolean.toString) = some c → c = cA 1) ∧
    (∀ k C, (k = 3 ∧ C = RX3) ∨ (k = 4 ∧ C = RX8) ∨ (k = 5 ∧ C = RX6) → s.vm.findClass ("[" ++ (FieldType.object C).toString) = some c → c = cA k) ∧ (s.vm.findClass ("[" ++ (FieldType.array .int).toString) = some c → c = cA 2) := by
  refine ⟨fun h => ?_, fun h => ?_, fun k C hk h => ?_, fun h => ?_⟩
  · have h2 : s.vm.findClass ("[" ++ FieldType.int.toString) = some (cA 0) := (hK.2 0 _ rfl).2
    exact Option.some.inj (h.symm.trans h2)
  · have h2 : s.vm.findClass ("[" ++ FieldType.boolean.toString) = some (cA 1) := (hK.2 1 _ rfl).2
    exact Option.some.inj (h.symm.trans h2)
  · rcases hk with ⟨rfl, rfl⟩ | ⟨rfl, rfl⟩ | ⟨rfl, rfl⟩
    · obtain ⟨_, _, -, -, -, h2⟩ := (hK.2 3 _ rfl).2
      exact Option.some.inj (h.symm.trans h2)
    · obtain ⟨_, _, -, -, -, h2⟩ := (hK.2 4 _ rfl).2
      exact Option.some.inj (h.symm.trans h2)
    · obtain ⟨_, _, -, -, -, h2⟩ := (hK.2 5 _ rfl).2
      exact Option.some.inj (h.symm.trans h2)
  · have h2 : s.vm.findClass ("[" ++ (FieldType.array .int).toString) = some (cA 2) := (hK.2 2 _ rfl).2
    exact Option.some.inj (h.symm.trans h2)
/-- one more cell behind all others -/
theorem zIv_new {B : Nat} {D : va_G} {cA : Nat → ClassId} {L : Nat} {xs : Nat → Int32} {μ : zM} {H H1 : Heap} {t n : Nat} (hI : zIv B D cA L xs μ H) (hlen : μ.1.length < 900000) (hsh : (t < 13 ∧ n = (vwG t).2.2) ∨ (20 ≤ t ∧ t ≤ 25))
    (hz : H1.size = H.size + 1) (oq : ∀ q : Nat, q < H.size → H1[q]? = H[q]?) (he : va_at D vwCl (B + μ.1.length, zEn B cA (μ.1 ++ [(t, n)], zero2 μ.2.1 μ.1.length 1 0, zero2 μ.2.2 μ.1.length 1 none) μ.1.length (t, n)) H1) :
    zIv B D cA L xs (μ.1 ++ [(t, n)], zero2 μ.2.1 μ.1.length 1 0, zero2 μ.2.2 μ.1.length 1 none) H1 := by
  obtain ⟨h1, h2, h3, h4, h5, h6, h7⟩ := hI
  have hne : ∀ {α : Type} (f : Nat → Nat → α) (z : α) (j : Nat), j ≠ μ.1.length → zero2 f μ.1.length 1 z j = f j := by
    intro α f z j hj
    funext b
    unfold zero2
    rw [if_neg (by omega)]
  refine ⟨by rw [hz, h1]; simp; omega, ?_, ?_, ?_, by simp; omega, ?_, ?_⟩
  · rw [zW_app (μ := μ) (l := [(t, n)]) rfl (fun j s hj => zEn_ne (hne _ _ _ (by omega)) (hne _ _ _ (by omega)))]
    refine va_P.app (h2.kept fun k q hq => oq q.1 ((h2 k q hq).lt)) ?_
    intro k q hq
    have hk : k < 1 := by simpa using (List.getElem?_eq_some_iff.mp hq).1
    obtain rfl : k = 0 := by omega
    have hq : (B + μ.1.length, zEn B cA (μ.1 ++ [(t, n)], zero2 μ.2.1 μ.1.length 1 0, zero2 μ.2.2 μ.1.length 1 none) μ.1.length (t, n)) = q := by simpa using hq
    rw [← hq]
    exact he
  · intro k s hs
    by_cases hk : k < μ.1.length
    · exact h3 k s (by have hs : (μ.1 ++ [(t, n)])[k]? = some s := hs; rwa [List.getElem?_append_left hk] at hs)
    · have hs : (μ.1 ++ [(t, n)])[k]? = some s := hs
      rw [List.getElem?_append_right (by omega)] at hs
      have : k - μ.1.length < 1 := by simpa using (List.getElem?_eq_some_iff.mp hs).1
      rw [show k - μ.1.length = 0 by omega] at hs
      obtain rfl : (t, n) = s := by simpa using hs
      exact hsh
  · intro a b q hq
    have hq : zero2 μ.2.2 μ.1.length 1 none a b = some q := hq
    unfold zero2 at hq
    split at hq
    · cases hq
    · exact h4 _ _ _ hq
  · rw [← h6]; exact hne _ _ _ (by omega)
  · rw [← h7]; show zero2 μ.2.1 μ.1.length 1 0 2000001 0 = _; rw [hne _ _ _ (by omega)]
theorem zSl_app {μ : zM} {a : List (Nat × Nat)} {i : zI} {r : zR} : zSl (μ.1 ++ a, i, r) = zSl μ + (a.map (fun s => s.2)).sum := by simp [zSl]
theorem zSw_in {β : Type} {K : β → Prop} {dd : β} {a : Int32} : ∀ (t : List β) (w : Int32) (k : Nat) (b : β), t.length < 5000 → t[k]? = some b → a = w + nI k → zSw a K dd w t → K b
  | [], _, k, b, _, hb, _, _ => by simp at hb
  | b0 :: t, w, 0, b, _, hb, ha, h => by
    obtain rfl : b0 = b := by simpa using hb
    exact h.1 (by rw [ha]; show w + 0 = w; exact Int32.add_zero w)
  | b0 :: t, w, k + 1, b, hl, hb, ha, h => by
    have hb : t[k]? = some b := by simpa using hb
    have hk : k < t.length := (List.getElem?_eq_some_iff.mp hb).1
    have hl : t.length + 1 < 5000 := by simpa using hl
    have hne : ¬ a = w := by
      intro e
      rw [e] at ha
      have h0 : nI (k + 1) = 0 := by
        have h1 := congrArg (fun z => -w + z) ha
        have h1 : -w + w = -w + (w + nI (k + 1)) := h1
        rw [← Int32.add_assoc, Int32.add_left_neg, Int32.zero_add] at h1
        exact h1.symm
      exact nI_ne0 (by omega) (by omega) h0
    refine zSw_in t (w + 1) k b (by omega) hb ?_ (h.2 hne)
    rw [ha, nI_succ, Int32.add_comm (nI k) 1, ← Int32.add_assoc]
theorem zSw_out {β : Type} {K : β → Prop} {dd : β} {a : Int32} : ∀ (t : List β) (w : Int32), (∀ k, k < t.length → ¬ a = w + nI k) → zSw a K dd w t → K dd
  | [], _, _, h => h
  | b0 :: t, w, hn, h => by
    refine zSw_out t (w + 1) (fun k hk e => hn (k + 1) (by simp; omega) ?_) (h.2 fun e => hn 0 (by simp) (by rw [e]; exact (Int32.add_zero w).symm))
    rw [e, nI_succ, Int32.add_comm (nI k) 1, ← Int32.add_assoc]
theorem zTabOk_get {cd : List zE} {pc : Nat} : ∀ (t : List Nat) (o : List Int) (k x : Nat), zTabOk cd pc t o = true → t[k]? = some x → ∃ y, o[k]? = some y ∧ (pc : Int) + y = (zPc cd x : Int)
  | [], _, k, x, _, hx => by simp at hx
  | a :: t, [], k, x, h, _ => by simp [zTabOk] at h
  | a :: t, b :: o, 0, x, h, hx => by
    simp only [zTabOk, Bool.and_eq_true, decide_eq_true_eq] at h
    obtain rfl : a = x := by simpa using hx
    exact ⟨b, rfl, h.1⟩
  | a :: t, b :: o, k + 1, x, h, hx => by
    simp only [zTabOk, Bool.and_eq_true, decide_eq_true_eq] at h
    obtain ⟨y, h1, h2⟩ := zTabOk_get t o k x h.2 (by simpa using hx)
    exact ⟨y, by simpa using h1, h2⟩
theorem zTabOk_len {cd : List zE} {pc : Nat} : ∀ (t : List Nat) (o : List Int), zTabOk cd pc t o = true → t.length = o.length
  | [], [], _ => rfl
  | [], _ :: _, h => by simp [zTabOk] at h
  | _ :: _, [], h => by simp [zTabOk] at h
  | a :: t, b :: o, h => by
    simp only [zTabOk, Bool.and_eq_true] at h
    simp [zTabOk_len t o h.2]
theorem zAddI {w : Int32} {k : Nat} (h1 : -1000 < w.toInt) (h2 : w.toInt + k < 2000) : (w + nI k).toInt = w.toInt + k := by
  rw [Int32.toInt_add, nI_toInt (by omega)]
  exact Int.bmod_eq_of_le (by omega) (by omega)
section ZS
variable {p : Program} {l : Launch} {ev : Env} {R : Room} {s : State} {m : MethodId} {args : Array Value} {below : List Frame} {meth : Method} {c : Code} {Q : State → Prop}
variable {cc : ByteArray} {own nL : Nat} {ret : Option FieldType} {init : Bool} {cd : List zE} {B : Nat} {D : va_G} {cA : Nat → ClassId} {ext : Nat → Nat} {L : Nat} {xs : Nat → Int32} {d : Nat} {Rr : zOr}
variable {L0 S0 : Nat} {μF : zM}

set_option maxHeartbeats 1000000 in
theorem zs_tableswitch {dd lo hi : Int} {offs : Array Int} {pc x y : Nat} {w : Int32} {t : List Nat} : zOne p l ev R s m args below meth c Q cc own nL ret init cd B D cA ext L xs d Rr μF L0 S0 (pc, .tableswitch dd lo hi offs, x, y, w, t) := by
  intro C hR ip ls st μ H locs lsA cells slots K Z hd hn0 ho h hI hS hl hc hs hF hFs hle hk hz
  obtain ⟨hx, hb, hml, hown, hts, hK, hX, hch, hin, hfr, hlo⟩ := C
  unfold zOpk at ho
  simp only [Bool.and_eq_true, decide_eq_true_eq] at ho
  obtain ⟨⟨⟨⟨⟨o1, o2⟩, o3⟩, o4⟩, o5⟩, o6⟩ := ho
  have olen := zTabOk_len _ _ o6
  simp only [zStep] at h
  split at h
  · rename_i a st
    by_cases hin1 : lo ≤ a.toInt ∧ a.toInt ≤ hi
    · have hkl : (a.toInt - lo).toNat < t.length := by omega
      have ht : t[(a.toInt - lo).toNat]? = some t[(a.toInt - lo).toNat] := List.getElem?_eq_getElem hkl
      obtain ⟨y1, y2, y3⟩ := zTabOk_get _ _ _ _ o6 ht
      have ha : a = w + nI (a.toInt - lo).toNat := by
        apply Int32.toInt_inj.mp
        rw [zAddI (by omega) (by omega)]
        omega
      have h := zSw_in t w _ _ (by omega) ht ha h
      exact lv_tableIn hx hb hd (by omega) (by omega) (by rw [← Array.getElem?_toList]; exact y2) y3 (hk _ _ _ _ _ _ _ _ _ h hI hS hl hc hs)
    · have h := zSw_out t w (fun k hk e => by
        have : a.toInt = w.toInt + k := by rw [e, zAddI (by omega) (by omega)]
        omega) h
      exact lv_tableOut hx hb hd (by omega) o1 (hk _ _ _ _ _ _ _ _ _ h hI hS hl hc hs)
  · exact h.elim

set_option maxHeartbeats 1000000 in
theorem zs_ldc {n : Nat} {pc x y : Nat} {w : Int32} {t : List Nat} : zOne p l ev R s m args below meth c Q cc own nL ret init cd B D cA ext L xs d Rr μF L0 S0 (pc, .ldc n, x, y, w, t) := by
  intro C hR ip ls st μ H locs lsA cells slots K Z hd hn0 ho h hI hS hl hc hs hF hFs hle hk hz
  obtain ⟨hx, hb, hml, hown, hts, hK, hX, hch, hin, hfr, hlo⟩ := C
  have hn : zPc cd (ip + 1) = pc + 2 := hn0 rfl
  unfold zOpk at ho
  simp only [zStep] at h
  simp only at ho
  split at h
  · rename_i hy
    rw [if_pos hy] at ho
    obtain ⟨⟨o, i, v, j⟩, hq, he⟩ := List.any_eq_true.mp ho
    simp only [Bool.and_eq_true, beq_iff_eq] at he
    obtain ⟨⟨rfl, rfl⟩, rfl⟩ := he
    have hkc := List.all_eq_true.mp zKC_ok _ hq
    refine lv_ldc hx hb hown (hts _ (zHas_in hkc)) hd ?_
    have hw := hk _ _ _ _ _ _ _ _ _ h hI hS hl hc hs
    rw [hn] at hw
    exact hw
  · rename_i hy
    rw [if_neg hy] at ho
    simp only [Bool.or_eq_true, Bool.and_eq_true, beq_iff_eq] at ho
    rcases ho with ⟨⟨rfl, rfl⟩, rfl⟩ | ⟨⟨rfl, rfl⟩, rfl⟩
    · refine va_ldcS hx hb hown hX.2.2.1 hd ?_
      have hw := hk _ _ _ _ _ _ _ _ _ h hI hS hl hc hs
      rw [hn] at hw
      exact hw
    · refine va_ldcS hx hb hown hX.2.2.2.1 hd ?_
      have hw := hk _ _ _ _ _ _ _ _ _ h hI hS hl hc hs
      rw [hn] at hw
      exact hw

set_option maxHeartbeats 1000000 in
theorem zs_ldc_w {n : Nat} {pc x y : Nat} {w : Int32} {t : List Nat} : zOne p l ev R s m args below meth c Q cc own nL ret init cd B D cA ext L xs d Rr μF L0 S0 (pc, .ldc_w n, x, y, w, t) := by
  intro C hR ip ls st μ H locs lsA cells slots K Z hd hn0 ho h hI hS hl hc hs hF hFs hle hk hz
  obtain ⟨hx, hb, hml, hown, hts, hK, hX, hch, hin, hfr, hlo⟩ := C
  have hn : zPc cd (ip + 1) = pc + 3 := hn0 rfl
  obtain ⟨⟨o, i, v, j⟩, hq, he⟩ := List.any_eq_true.mp ho
  simp only [Bool.and_eq_true, beq_iff_eq] at he
  obtain ⟨⟨rfl, rfl⟩, rfl⟩ := he
  have hkc := List.all_eq_true.mp zKC_ok _ hq
  refine lv_ldcw hx hb hown (hts _ (zHas_in hkc)) hd ?_
  have hw := hk _ _ _ _ _ _ _ _ _ h hI hS hl hc hs
  rw [hn] at hw
  exact hw

set_option maxHeartbeats 1000000 in
theorem zs_lconst {n : Fin 2} {pc x y : Nat} {w : Int32} {t : List Nat} : zOne p l ev R s m args below meth c Q cc own nL ret init cd B D cA ext L xs d Rr μF L0 S0 (pc, .lconst n, x, y, w, t) := by
  intro C hR ip ls st μ H locs lsA cells slots K Z hd hn0 ho h hI hS hl hc hs hF hFs hle hk hz
  obtain ⟨hx, hb, hml, hown, hts, hK, hX, hch, hin, hfr, hlo⟩ := C
  have hn : zPc cd (ip + 1) = pc + 1 := hn0 rfl
  have ho := of_decide_eq_true ho
  refine lv_lconst hx hb hd ho ?_
  have hw := hk _ _ _ _ _ _ _ _ _ h hI hS hl hc hs
  rw [hn] at hw
  exact hw

set_option maxHeartbeats 1000000 in
theorem zs_ldc2_w {n : Nat} {pc x y : Nat} {w : Int32} {t : List Nat} : zOne p l ev R s m args below meth c Q cc own nL ret init cd B D cA ext L xs d Rr μF L0 S0 (pc, .ldc2_w n, x, y, w, t) := by
  intro C hR ip ls st μ H locs lsA cells slots K Z hd hn0 ho h hI hS hl hc hs hF hFs hle hk hz
  obtain ⟨hx, hb, hml, hown, hts, hK, hX, hch, hin, hfr, hlo⟩ := C
  have hn : zPc cd (ip + 1) = pc + 3 := hn0 rfl
  obtain ⟨⟨o, i, a, b, j⟩, hq, he⟩ := List.any_eq_true.mp ho
  simp only [Bool.and_eq_true, beq_iff_eq] at he
  obtain ⟨⟨⟨rfl, rfl⟩, rfl⟩, rfl⟩ := he
  have hkc := List.all_eq_true.mp zLC_ok _ hq
  refine lv_ldc2 hx hb hown (hts _ (zHas_in hkc)) hd ?_
  have hw := hk _ _ _ _ _ _ _ _ _ h hI hS hl hc hs
  rw [hn] at hw
  exact hw

theorem zIn_len {ci k : Nat} {l : List Cond} (h : ∀ w ∈ l, w ∈ zTb) {w : Cond} (hw : w ∈ l) (hts : ∀ w ∈ zTb, w.before args s = true) : w.before args s = true := hts _ (h _ hw)
theorem zNC_get {n k : Nat} (h : zNC.any (fun q => q.2.1 == n && q.1 == own && q.2.2.1 == k) = true) : ∀ w ∈ zNw own n k, w ∈ zTb := by
  obtain ⟨⟨o, i, a, is⟩, hq, he⟩ := List.any_eq_true.mp h
  simp only [Bool.and_eq_true, beq_iff_eq] at he
  obtain ⟨⟨rfl, rfl⟩, rfl⟩ := he
  exact zHasL_in (List.all_eq_true.mp zNC_ok _ hq)

set_option maxHeartbeats 1000000 in
theorem zs_new {n : Nat} {pc x y : Nat} {w : Int32} {t : List Nat} : zOne p l ev R s m args below meth c Q cc own nL ret init cd B D cA ext L xs d Rr μF L0 S0 (pc, .new n, x, y, w, t) := by
  intro C hR ip ls st μ H locs lsA cells slots K Z hd hn0 ho h hI hS hl hc hs hF hFs hle hk hz
  obtain ⟨hx, hb, hml, hown, hts, hK, hX, hch, hin, hfr, hlo⟩ := C
  have hn : zPc cd (ip + 1) = pc + 3 := hn0 rfl
  unfold zOpk at ho
  simp only [Bool.and_eq_true, decide_eq_true_eq, beq_iff_eq] at ho
  obtain ⟨⟨hx13, hN⟩, hn2⟩ := ho
  have hws := zNC_get hn2
  unfold zNw at hws
  rw [if_neg (by omega)] at hws
  obtain ⟨hlen, h⟩ := h
  have hL1 := (hle _ _ _ _ h).1
  have hL2 := (hle _ _ _ _ h).2
  rw [zSl_app] at hL2
  simp at hL1 hL2
  have hKn := hK.1 x _ (vw_at hx13)
  have hC : zRn x = (vwG x).1 := by
    have : ∀ k, k < 13 → zRn k = (vwG k).1 := by decide +kernel
    exact this x hx13
  rw [hC] at hws
  refine W.newcK hx hb hown (hts _ (hws _ (by simp))) (hts _ (hws (.instantiable (vwG x).1 (vwG x).2.2) (by simp))) (hts _ (hws (.initialized (vwG x).1) (by simp))) rfl hd (by omega) (by omega) hKn.2.1 rfl fun H1 kC hkC e1 z1 o1 => ?_
  have hat : va_at D vwCl (B + μ.1.length, zEn B cA (μ.1 ++ [(x, y)], zero2 μ.2.1 μ.1.length 1 0, zero2 μ.2.2 μ.1.length 1 none) μ.1.length (x, y)) H1 := by
    rw [zEn_o hx13]
    refine ⟨_, vw_at hx13, ?_⟩
    rw [hI.1] at e1
    refine (u_born (zTyOf x) hts (zLay_in hx13) hKn hkC e1 (fun k hk => zTy_fact hx13 hk)).to (fun j hj => ?_)
    unfold vp_V
    rw [List.getD_eq_getElem?_getD, zFs_get (by rw [← hN]; exact hj)]
    have hz1 : zero2 μ.2.1 μ.1.length 1 0 μ.1.length j = 0 := by unfold zero2; rw [if_pos (by omega)]
    have hz2 : zero2 μ.2.2 μ.1.length 1 none μ.1.length j = none := by unfold zero2; rw [if_pos (by omega)]
    show defaultValue (zTyOf x j) = (some (if zFR x j = true then va_rf ((zero2 μ.2.2 μ.1.length 1 none μ.1.length j).map (fun q => B + q)) else .int (zero2 μ.2.1 μ.1.length 1 0 μ.1.length j))).getD .null
    rw [hz1, hz2]
    obtain ⟨-, k0, k1, k2⟩ := zKd_fact hx13 hj
    unfold zKd at k0 k1 k2
    cases hf : zFR x j with
    | true =>
      rw [hf] at k2
      have k2 := k2 rfl
      generalize zTyOf x j = ty at k2 ⊢
      cases ty <;> first | rfl | cases k2
    | false =>
      rw [hf] at k0 k1
      simp only [Bool.false_eq_true, if_false] at k0 k1
      by_cases hbo : ((x == 11 && j == 2) || (x == 12 && j == 14)) = true
      · rw [if_pos hbo] at k1; rw [k1 rfl]; rfl
      · rw [if_neg hbo] at k0; rw [k0 rfl]; rfl
  have hI1 := zIv_new hI hlen (Or.inl ⟨hx13, hN.symm⟩) z1 o1 hat
  have hw := hk _ _ _ _ _ locs lsA (cells + 1) (slots + y) h hI1 ⟨Nat.le_trans hS.1 (by omega), fun q h1 h2 => (o1 q (Nat.lt_of_lt_of_le h1 hS.1)).trans (hS.2.1 q h1 h2), hS.2.2⟩ hl (by simp; omega) (by rw [zSl_app]; simp; omega)
  rw [hn, List.map_cons, zc_r (by omega), ← hI.1, ← hN] at hw
  exact hw

theorem zAC_in : Cond.arrayClass .int ∈ zTb ∧ Cond.arrayClass .boolean ∈ zTb := ⟨zHasL_in zAC_ok _ (by simp), zHasL_in zAC_ok _ (by simp)⟩
theorem zz0 {α : Type} {f : Nat → Nat → α} {k j : Nat} {z : α} : zero2 f k 1 z k j = z := by unfold zero2; rw [if_pos (by omega)]

set_option maxHeartbeats 1000000 in
theorem zs_newarray {a : ArrayType} {pc x y : Nat} {w : Int32} {t : List Nat} : zOne p l ev R s m args below meth c Q cc own nL ret init cd B D cA ext L xs d Rr μF L0 S0 (pc, .newarray a, x, y, w, t) := by
  intro C hR ip ls st μ H locs lsA cells slots K Z hd hn0 ho h hI hS hl hc hs hF hFs hle hk hz
  obtain ⟨hx, hb, hml, hown, hts, hK, hX, hch, hin, hfr, hlo⟩ := C
  have hn : zPc cd (ip + 1) = pc + 2 := hn0 rfl
  unfold zOpk at ho
  simp only [Bool.or_eq_true, Bool.and_eq_true, decide_eq_true_eq, beq_iff_eq] at ho
  simp only [zStep] at h
  split at h
  · rename_i n st
    obtain ⟨h0, h1, hlen, h⟩ := h
    have hL1 := (hle _ _ _ _ h).1
    have hL2 := (hle _ _ _ _ h).2
    rw [zSl_app] at hL2
    simp at hL1 hL2
    have key : ∀ (ty : FieldType) (t0 : Nat), newarray.typeOf a = ty → x = t0 → (t0 = 20 ∨ t0 = 21) → defaultValue ty = .int 0 → (Cond.arrayClass ty).before args s = true → (∀ cX, s.vm.findClass ("[" ++ ty.toString) = some cX → cX = cA (t0 - 20)) → componentBytes ty ≤ 4 → W p l ev R s m args below meth c H locs cells slots Q (F0 m pc lsA ((Value.int n :: st).map (zc B ext))) := by
      intro ty t0 e1 e2 e3 e4 e5 e6 e7
      subst e1 e2
      refine va_newaK hx hb e5 rfl hd rfl h0 rfl (Nat.le_trans (Nat.mul_le_mul h1 e7) (by omega)) (by omega) (by omega) rfl fun H1 cX r1 z1 o1 hAr hNm => ?_
      obtain rfl := e6 _ hNm
      have hat : va_at D vwCl (B + μ.1.length, zEn B cA (μ.1 ++ [(x, n.toNatClampNeg)], zero2 μ.2.1 μ.1.length 1 0, zero2 μ.2.2 μ.1.length 1 none) μ.1.length (x, n.toNatClampNeg)) H1 := by
        rw [hI.1] at r1
        rcases e3 with rfl | rfl
        · rw [zEn_i]
          refine r1.trans (congrArg some ?_)
          rw [vp_cell_i, e4]
          exact congrArg (arrV _ _) (funext fun j => congrArg Value.int (zz0.symm))
        · rw [zEn_z]
          refine r1.trans (congrArg some ?_)
          rw [vp_cell_i, e4]
          exact congrArg (arrV _ _) (funext fun j => congrArg Value.int (zz0.symm))
      have hI1 := zIv_new hI hlen (Or.inr (by omega)) z1 o1 hat
      have hw := hk _ _ _ _ _ locs lsA (cells + 1) (slots + n.toNatClampNeg) h hI1 ⟨Nat.le_trans hS.1 (by omega), fun q h1 h2 => (o1 q (Nat.lt_of_lt_of_le h1 hS.1)).trans (hS.2.1 q h1 h2), hS.2.2⟩ hl (by simp; omega) (by rw [zSl_app]; simp; omega)
      rw [hn, List.map_cons, zc_r (by omega), ← hI.1] at hw
      exact hw
    rcases ho with ⟨rfl, e⟩ | ⟨rfl, e⟩
    · exact key .int 20 rfl e (Or.inl rfl) rfl (hts _ zAC_in.1) (fun cX hc => (zK_at hK).1 hc) (Nat.le_refl 4)
    · exact key .boolean 21 rfl e (Or.inr rfl) rfl (hts _ zAC_in.2) (fun cX hc => (zK_at hK).2.1 hc) (by decide)
  · exact h.elim

set_option maxHeartbeats 1000000 in
theorem zs_anewarray {i : Nat} {pc x y : Nat} {w : Int32} {t : List Nat} : zOne p l ev R s m args below meth c Q cc own nL ret init cd B D cA ext L xs d Rr μF L0 S0 (pc, .anewarray i, x, y, w, t) := by
  intro C hR ip ls st μ H locs lsA cells slots K Z hd hn0 ho h hI hS hl hc hs hF hFs hle hk hz
  obtain ⟨hx, hb, hml, hown, hts, hK, hX, hch, hin, hfr, hlo⟩ := C
  have hn : zPc cd (ip + 1) = pc + 3 := hn0 rfl
  unfold zOpk at ho
  simp only [Bool.or_eq_true, Bool.and_eq_true, beq_iff_eq] at ho
  simp only [zStep] at h
  split at h
  · rename_i n st
    obtain ⟨h0, h1, hlen, h⟩ := h
    have hL1 := (hle _ _ _ _ h).1
    have hL2 := (hle _ _ _ _ h).2
    rw [zSl_app] at hL2
    simp at hL1 hL2
    have key : ∀ (C : String) (k : Nat), x = k + 20 → ((k = 3 ∧ C = RX3) ∨ (k = 4 ∧ C = RX8) ∨ (k = 5 ∧ C = RX6)) → (Cond.classLink (zRn own) i C).before args s = true → va_AO C s → W p l ev R s m args below meth c H locs cells slots Q (F0 m pc lsA ((Value.int n :: st).map (zc B ext))) := by
      intro C k e1 e2 e3 e4
      subst e1
      refine W.anew hx hb hown e3 (va_AO.use e4) rfl hd rfl h0 (by omega) (by omega) (by omega) fun cX kA comp f1 f2 f3 f4 => ?_
      obtain rfl := (zK_at hK).2.2.1 k C e2 f1
      generalize hH1 : H.push ({ cls := cA k, slots := Array.replicate n.toNatClampNeg .null, vm := .none } : Cell) = H1
      have z1 : H1.size = H.size + 1 := by rw [← hH1, Array.size_push]
      have r1 : H1[H.size]? = some (arrV (cA k) n.toNatClampNeg (fun _ => .null)) := by rw [← hH1, Array.getElem?_push_size, ← arrV_new]
      have o1 : ∀ q : Nat, q < H.size → H1[q]? = H[q]? := fun q hq => by rw [← hH1, Array.getElem?_push, if_neg (Nat.ne_of_lt hq)]
      have hat : va_at D vwCl (B + μ.1.length, zEn B cA (μ.1 ++ [(k + 20, n.toNatClampNeg)], zero2 μ.2.1 μ.1.length 1 0, zero2 μ.2.2 μ.1.length 1 none) μ.1.length (k + 20, n.toNatClampNeg)) H1 := by
        rw [hI.1] at r1
        rw [zEn_q (by omega)]
        refine r1.trans (congrArg some ?_)
        rw [vp_cell_q, show k + 20 - 20 = k by omega]
        refine congrArg (arrV _ _) (funext fun j => ?_)
        show Value.null = va_rf ((zero2 μ.2.2 μ.1.length 1 none μ.1.length j).map (fun q => B + q))
        rw [zz0]
        rfl
      have hI1 := zIv_new hI hlen (Or.inr (by omega)) z1 o1 hat
      have hw := hk _ _ _ _ _ locs lsA (cells + 1) (slots + n.toNatClampNeg) h hI1 ⟨Nat.le_trans hS.1 (by omega), fun q h1 h2 => (o1 q (Nat.lt_of_lt_of_le h1 hS.1)).trans (hS.2.1 q h1 h2), hS.2.2⟩ hl (by simp; omega) (by rw [zSl_app]; simp; omega)
      rw [hn, List.map_cons, zc_r (by omega), ← hI.1] at hw
      exact hw
    have hcl : ∀ k, zNC.any (fun q => q.2.1 == i && q.1 == own && q.2.2.1 == k) = true → k ≠ 22 → (Cond.classLink (zRn own) i (zRn k)).before args s = true := fun k hk h22 => by
      have hws := zNC_get hk
      unfold zNw at hws
      rw [if_neg h22] at hws
      exact hts _ (hws _ (by simp))
    rcases ho with (⟨e, hk⟩ | ⟨e, hk⟩) | ⟨e, hk⟩
    · exact key RX3 3 e (Or.inl ⟨rfl, rfl⟩) (hcl 3 hk (by decide)) hX.1.1
    · exact key RX8 4 e (Or.inr (Or.inl ⟨rfl, rfl⟩)) (hcl 8 hk (by decide)) hX.1.2.1
    · exact key RX6 5 e (Or.inr (Or.inr ⟨rfl, rfl⟩)) (hcl 6 hk (by decide)) hX.1.2.2.1
  · exact h.elim

theorem zRn_vw : ∀ k, k < 13 → zRn k = (vwG k).1 := by decide +kernel
theorem zRecv {D : va_G} {cA : Nat → ClassId} {B L : Nat} {xs : Nat → Int32} {μ : zM} {H : Heap} {s : State} {r : Nat} {s0 : Nat × Nat} (hK : va_K D vwCl (zTys cA) s) (hI : zIv B D cA L xs μ H) (hs0 : μ.1[r]? = some s0) (h : s0.1 < 13) : ∃ cell : Cell, H[B + r]? = some cell ∧ cell.vm.isStatics = false ∧ s.vm.findClass (zRn s0.1) = some cell.cls := by
  have he := zW_get (B := B) (cA := cA) hs0
  rw [show s0 = (s0.1, s0.2) from rfl, zEn_o h] at he
  have := va_recv hK hI.2.1 (vw_at h) he
  rw [zRn_vw _ h]
  exact this

set_option maxHeartbeats 1000000 in
theorem zs_aastore {pc x y : Nat} {w : Int32} {t : List Nat} : zOne p l ev R s m args below meth c Q cc own nL ret init cd B D cA ext L xs d Rr μF L0 S0 (pc, .aastore, x, y, w, t) := by
  intro C hR ip ls st μ H locs lsA cells slots K Z hd hn0 ho h hI hS hl hc hs hF hFs hle hk hz
  obtain ⟨hx, hb, hml, hown, hts, hK, hX, hch, hin, hfr, hlo⟩ := C
  have hn : zPc cd (ip + 1) = pc + 1 := hn0 rfl
  unfold zOpk at ho
  simp only [Bool.or_eq_true, Bool.and_eq_true, beq_iff_eq] at ho
  simp only [zStep] at h
  split at h
  · rename_i q i a st
    cases hs0 : μ.1[a]? with
    | none => rw [hs0] at h; exact h.elim
    | some s0 =>
    rw [hs0] at h
    simp only [Option.elim_some] at h
    cases hq0 : μ.1[q]? with
    | none => rw [hq0] at h; exact h.elim
    | some z0 =>
    rw [hq0] at h
    simp only [Option.elim_some] at h
    have ra := zFr hI hs0
    have rq := zFr hI hq0
    obtain ⟨t0, n0⟩ := s0
    cases h20 : (t0 == y && zSub z0.1 x) with
    | false => simp [h20] at h
    | true =>
    simp only [h20, cond_true] at h
    simp only [Bool.and_eq_true, beq_iff_eq] at h20
    obtain ⟨e0, hsb⟩ := h20
    obtain ⟨h1, h⟩ := h
    have hx13 : x < 13 := by omega
    have hz13 := zSub_lt hsb hx13
    have h22 : 22 ≤ t0 := by omega
    rw [List.map_cons, List.map_cons, List.map_cons, zc_r ra, zc_r rq]
    have he := zW_get (B := B) (cA := cA) hs0
    rw [zEn_q h22] at he
    have hlt : i.toNatClampNeg < n0 := Nat.not_le.mp fun q => h1 (Or.inr q)
    have hneg : ¬ i < 0 := fun q => h1 (Or.inl q)
    obtain ⟨cv, c1, c2, c3⟩ := zRecv hK hI hq0 hz13
    have hcls : ∃ (kA : Class) (comp : ClassId), s.vm.classes[cA (t0 - 20)]? = some kA ∧ kA.kind = .array comp (.object (zRn x)) ∧ s.vm.findClass (zRn x) = some comp := by
      rcases ho with (⟨a1, a2⟩ | ⟨a1, a2⟩) | ⟨a1, a2⟩
      · subst a2; obtain rfl : t0 = 23 := by omega
        obtain ⟨kA, comp, k1, k2, k3, -⟩ := (hK.2 3 _ rfl).2; exact ⟨kA, comp, k1, k2, k3⟩
      · subst a2; obtain rfl : t0 = 24 := by omega
        obtain ⟨kA, comp, k1, k2, k3, -⟩ := (hK.2 4 _ rfl).2; exact ⟨kA, comp, k1, k2, k3⟩
      · subst a2; obtain rfl : t0 = 25 := by omega
        obtain ⟨kA, comp, k1, k2, k3, -⟩ := (hK.2 5 _ rfl).2; exact ⟨kA, comp, k1, k2, k3⟩
    obtain ⟨kA, comp, k1, k2, k3⟩ := hcls
    obtain ⟨kV, hkV, -⟩ := Vm.findClass_spec c3
    obtain ⟨kE, hkE, -⟩ := Vm.findClass_spec k3
    have hasg : s.vm.assignable cv.cls comp = true := by
      by_cases hzx : z0.1 = x
      · rw [hzx, k3] at c3
        cases c3
        have hat := (hK.1 x _ (vw_at hx13)).2
        rw [← zRn_vw _ hx13] at hat
        obtain ⟨hfc, hk⟩ := hat
        exact (Option.some.inj (hfc.symm.trans k3)) ▸ va_assign ⟨hfc, hk⟩
      · obtain ⟨c4, t4, a1, a2, a3⟩ := Cond.castable_spec (hX.1.2.2.2.2.2.2.2.2 _ _ hz13 hx13 hsb hzx)
        cases a1.symm.trans c3
        cases a2.symm.trans k3
        exact a3
    refine W.aast hx hb (hI.2.1 a _ he) (fun q h => by cases h) (fun h => by cases h) k1 k2 rfl hkE ⟨hneg, by show _ < (arrV _ _ _).slots.size; rw [arrV_size]; exact hlt⟩ c1 (fun q h => by rw [h] at c2; cases c2) hkV hasg rfl rfl hd fun H1 e z oq => ?_
    have e : H1[B + a]? = some (vp_cell (cA (t0 - 20)) (n0, .inr (.inr (.inr (.inr (va_up (fun j => (μ.2.2 a j).map (fun q => B + q)) i.toNatClampNeg (some (B + q)))))))) := e.trans (congrArg some vc_updq)
    have hI1 := zIv_ref (j := i.toNatClampNeg) (q := q) hI hs0 z rq (hI.2.1.set zW_D (zW_get hs0) (e := .inl (cA (t0 - 20), n0, .inr (.inr (.inr (.inr (va_up (fun j => (μ.2.2 a j).map (fun q => B + q)) i.toNatClampNeg (some (B + q)))))))) e oq) (by
      rw [zEn_q h22]
      refine congrArg (fun f => Sum.inl (cA (t0 - 20), n0, Sum.inr (Sum.inr (Sum.inr (Sum.inr f))))) (funext fun j => ?_)
      show (up2 μ.2.2 a i.toNatClampNeg (some q) a j).map (fun q => B + q) = _
      unfold up2 va_up
      by_cases hj : j = i.toNatClampNeg
      · simp [hj]
      · simp [hj])
    have hw := hk _ _ _ _ _ _ _ _ _ h hI1 (hS.put (k := i.toNatClampNeg) z oq (Nat.le_add_right _ _)) hl hc hs
    rw [hn] at hw
    exact hw
  · exact h.elim

set_option maxHeartbeats 1000000 in
theorem zs_instanceof {i : Nat} {pc x y : Nat} {w : Int32} {t : List Nat} : zOne p l ev R s m args below meth c Q cc own nL ret init cd B D cA ext L xs d Rr μF L0 S0 (pc, .instanceof i, x, y, w, t) := by
  intro C hR ip ls st μ H locs lsA cells slots K Z hd hn0 ho h hI hS hl hc hs hF hFs hle hk hz
  obtain ⟨hx, hb, hml, hown, hts, hK, hX, hch, hin, hfr, hlo⟩ := C
  have hn : zPc cd (ip + 1) = pc + 3 := hn0 rfl
  unfold zOpk at ho
  simp only [Bool.and_eq_true, decide_eq_true_eq] at ho
  obtain ⟨⟨hx13, hx3⟩, hk3⟩ := ho
  have hlk : (Cond.classLink (zRn own) i (zRn x)).before args s = true := by
    have hws := zNC_get hk3
    unfold zNw at hws
    rw [if_neg (by omega)] at hws
    exact hts _ (hws _ (by simp))
  simp only [zStep] at h
  split at h
  · rename_i r st
    cases hs0 : μ.1[r]? with
    | none => rw [hs0] at h; exact h.elim
    | some s0 =>
    rw [hs0] at h
    simp only [Option.elim_some] at h
    have ra := zFr hI hs0
    cases hs3 : zSub s0.1 3 with
    | false => simp [hs3] at h
    | true =>
    simp only [hs3, cond_true] at h
    have hz13 := zSub_lt hs3 (by omega)
    rw [List.map_cons, zc_r ra]
    have hr := zRecv hK hI hs0 hz13
    cases hsx : zSub s0.1 x with
    | true =>
      rw [hsx] at h
      by_cases hzx : s0.1 = x
      · rw [hzx] at hr
        have hat := (hK.1 x _ (vw_at hx13)).2
        rw [← zRn_vw _ hx13] at hat
        refine va_instS hx hb hown hlk hat hr hd ?_
        have hw := hk _ _ _ _ _ _ _ _ _ h hI hS hl hc hs
        rw [hn] at hw
        exact hw
      · refine va_instY hx hb hown hlk (hX.1.2.2.2.2.2.2.2.2 _ _ hz13 hx13 hsx hzx) hr hd ?_
        have hw := hk _ _ _ _ _ _ _ _ _ h hI hS hl hc hs
        rw [hn] at hw
        exact hw
    | false =>
      rw [hsx] at h
      refine va_instNo hx hb hown hlk (hX.2.1 _ _ hs3 hx3 hsx) hr hd ?_
      have hw := hk _ _ _ _ _ _ _ _ _ h hI hS hl hc hs
      rw [hn] at hw
      exact hw
  · exact h.elim

end ZS
